/-! THE REFERENCE WRITES, first: signs, words, simple parts -/
def MWt (ws : List Nat) (g : PH) : Prop := hI g 12 45 56 = nI ws.length ∧ ∀ i, i < ws.length → hI g 20 84 i = nI (ws.getD i 0)
def MSt (st : List Int32) (g : PH) : Prop := hI g 12 45 57 = nI st.length ∧ ∀ i, i < st.length → hI g 20 85 i = st.getD i 0
def FWt (c i k : Nat) : Prop := (c = 12 ∧ i = 45 ∧ k = 56) ∨ (c = 20 ∧ i = 84)
def FWr (c i k : Nat) : Prop := (c = 12 ∧ i = 45 ∧ (k = 56 ∨ k = 57)) ∨ (c = 20 ∧ (i = 84 ∨ i = 85))
theorem FWt_r : ∀ c i k, FWt c i k → FWr c i k := fun c i k z => by
  rcases z with ⟨a, b, d⟩ | ⟨a, b⟩
  · exact Or.inl ⟨a, b, Or.inl d⟩
  · exact Or.inr ⟨a, Or.inl b⟩
theorem MSt.wt {st : List Int32} {g g' : PH} (S : MSt st g) (o : oP FWt g g') : MSt st g' := ⟨(o.1 12 45 57 (fun z => by unfold FWt at z; omega)).trans S.1, fun i hi => (o.1 20 85 i (fun z => by unfold FWt at z; omega)).trans (S.2 i hi)⟩
theorem writes_eq {g : PH} (m : MSh g) {ws : List Nat} (W : MWt ws g) (hl : ws.length < 2000) (x : Nat) : ∃ g', fX12_writes 45 (nI x) g = some g' ∧ oP FWt g g' ∧ MWt (ws ++ [x]) g' := by
  have cn : Int32.toNatClampNeg (nI ws.length) = ws.length := nI_clamp (by omega)
  have e56 : hI (sI g 20 84 ws.length (nI x)) 12 45 56 = nI ws.length := by rw [hI_sI, if_neg (fun z => absurd z.1 (by decide))]; exact W.1
  refine ⟨sI (sI g 20 84 ws.length (nI x)) 12 45 56 (nI (ws.length + 1)), ?_, ((oP.rf _ g).sI _ (Or.inr ⟨rfl, rfl⟩)).sI _ (Or.inl ⟨rfl, rfl, rfl⟩), ?_, fun i hi => ?_⟩
  · unfold fX12_writes
    rw [gd_t (k_45 m), r12_45_54 m, gs_t, W.1, gd_t ⟨k_84 m, by rw [n_84 m]; exact inbI hl (by decide)⟩, lt_t, lt_t, cn, e56, nI_1]
  · rw [hI_sI, if_pos ⟨rfl, rfl, rfl⟩, List.length_append]
    rfl
  · rw [List.length_append] at hi
    have hi : i < ws.length + 1 := hi
    rw [hI_sI, if_neg (fun z => absurd z.1 (by decide)), getI, app_getD hi]
    by_cases d : i = ws.length
    · rw [if_pos ⟨rfl, d⟩, if_pos d]
    · rw [if_neg (fun z => d z.2), if_neg d]
      exact W.2 i (by omega)
/-- what is written, from g on -/
def mw (g g' : PH) (ws as : List Nat) : Prop := oP FWt g g' ∧ MWt (ws ++ as) g'
theorem mw_rf {g : PH} {ws : List Nat} (W : MWt ws g) : mw g g ws [] := ⟨oP.rf _ g, by rw [List.append_nil]; exact W⟩
theorem mw_tr {g g1 g2 : PH} {ws as bs : List Nat} (x : mw g g1 ws as) (y : mw g1 g2 (ws ++ as) bs) : mw g g2 ws (as ++ bs) := ⟨x.1.tr y.1, by rw [← List.append_assoc]; exact y.2⟩
theorem mw_1 {g : PH} (m : MSh g) {ws : List Nat} (W : MWt ws g) (hl : ws.length < 2000) (x : Nat) : ∃ g', fX12_writes 45 (nI x) g = some g' ∧ mw g g' ws [x] := by
  obtain ⟨g', a, b, c⟩ := writes_eq m W hl x
  exact ⟨g', a, b, c⟩
theorem writesWord_eq {g : PH} (m : MSh g) {ws : List Nat} (W : MWt ws g) {w : Nat} (hw : vword w = true) (hl : ws.length + (spW w).length ≤ 2000) : ∃ g', fX12_writesWord 45 (nI w) g = some g' ∧ mw g g' ws (spW w) := by
  have w6 := vw2 hw
  have hb := nl_bd 6 w
  have ln : (spW w).length = nl 6 w := by unfold spW; rw [List.length_map, List.length_range]
  have lp : ∀ f j : Nat, ∀ (u : PH), j + f = nl 6 w → mw g u ws ((spW w).take j) → ∃ g', fX12_writesWord_l2 45 (nI w) (nI j) u = some g' ∧ mw g g' ws (spW w) := by
    intro f
    induction f with
    | zero =>
      intro j u hj X
      have hj : j = nl 6 w := by omega
      subst hj
      rw [← ln, List.take_length] at X
      refine ⟨u, wh_done ?_, X⟩
      show fX12_writesWord_c2 45 (nI w) (nI (nl 6 w)) u = _
      unfold fX12_writesWord_c2
      rw [letters6 w6, bd_t, if_pos (Int32.le_refl _), mr_t]
    | succ f ih =>
      intro j u hj X
      have hj1 : j < nl 6 w := by omega
      have mu := m.oP X.1
      obtain ⟨u', e1, e2⟩ := mw_1 mu X.2 (by rw [List.length_append, List.length_take]; omega) (96 + ltr w j)
      have tk : (spW w).take (j + 1) = (spW w).take j ++ [96 + ltr w j] := by
        rw [← List.take_append_getElem (by omega)]
        congr 2
        unfold spW
        rw [List.getElem_map, List.getElem_range]
      obtain ⟨g', r1, r2⟩ := ih (j + 1) u' (by omega) (by rw [tk]; exact mw_tr X e2)
      refine ⟨g', wh_step (t := (nI (j + 1), u')) ?_ r1, r2⟩
      show fX12_writesWord_c2 45 (nI w) (nI j) u = _
      have e96 : (96 : Int32) + nI (ltr w j) = nI (96 + ltr w j) := nI_add 96 (ltr w j)
      unfold fX12_writesWord_c2
      rw [letters6 w6, bd_t, if_neg (nI_ge hj1 (by omega)), letterOfM_eq w6 hj1, bd_t, gd_t (k_45 mu), e96, e1, bd_t, nI_1]
  unfold fX12_writesWord
  exact lp (nl 6 w) 0 g (by omega) (by rw [List.take_zero]; exact mw_rf W)
theorem dig : ∀ m, m < 41 → (48 : Int32) + (nI m - nI m / 10 * 10) = nI (48 + m % 10) ∧ (48 : Int32) + nI m / 10 = nI (48 + m / 10) ∧ ((nI m ≤ (9 : Int32)) ↔ ¬ 9 < m) := by decide +kernel
theorem spR_len2 (sep : List Nat) (ws : List Nat) (i : Nat) : (spR sep (ws.take i)).length ≤ (spR sep ws).length := by
  have g : ∀ us : List Nat, ∀ i, (((us.take i).map (fun v => sep ++ spW v)).flatten).length ≤ ((us.map (fun v => sep ++ spW v)).flatten).length := fun us => by
    induction us with
    | nil => intro i; rw [List.take_nil]; exact Nat.le_refl _
    | cons u us ih =>
      intro i
      cases i with
      | zero => exact Nat.zero_le _
      | succ i =>
        simp only [List.take_succ_cons, List.map_cons, List.flatten_cons, List.length_append]
        have := ih i
        omega
  cases ws with
  | nil => rw [List.take_nil]; exact Nat.le_refl _
  | cons w us =>
    cases i with
    | zero => exact Nat.zero_le _
    | succ i =>
      rw [List.take_succ_cons]
      show (spW w ++ _).length ≤ (spW w ++ _).length
      rw [List.length_append, List.length_append]
      have := g us i
      omega
theorem writesSimple_eq {h g : PH} (m : MSh h) {q lo : Nat} (hq : q < 8) (hlo : lo < 400) {l : L3} (L : LfM3 h q lo l) (ok : okL3 l) (og : oP FWr h g) {ws : List Nat} (W : MWt ws g) (hl : ws.length + (spL l).length ≤ 2000) : ∃ g', fX12_writesSimple 45 (nI q) (nI lo) g = some g' ∧ mw g g' ws (spL l) := by
  obtain ⟨k, us, mo⟩ := l
  obtain ⟨⟨l1, l2, l3, l4⟩, l5⟩ := L
  obtain ⟨ok1, ok2, ok3, ok4, ok5⟩ := id ok
  have k4 : k < 4 := ok1
  have ow : ∀ w ∈ us, vword w = true := ok2
  have l1 : hI h 20 60 (400 * q + lo) = nI k := l1
  have l2 : k < 3 → hI h 20 61 (400 * q + lo) = nI (us.getD 0 0) := l2
  have l3 : k = 2 → hI h 20 62 (400 * q + lo) = nI (us.getD 1 0) ∧ hI h 20 63 (400 * q + lo) = nI mo := l3
  have cq : Int32.toNatClampNeg (nI (400 * q + lo)) = 400 * q + lo := nI_clamp (by omega)
  have iq : ∀ {u : PH} (a : Nat), hN u a = 3200 → inb (nI (400 * q + lo)) (hN u a) := fun a e => by rw [e]; exact inbI (by omega) (by decide)
  have e3 : (nI k = 3) = (k = 3) := nIe (b := 3) (by omega) (by decide)
  have e2 : (nI k = 2) = (k = 2) := nIe (b := 2) (by omega) (by decide)
  have e1 : (nI k = 1) = (k = 1) := nIe (b := 1) (by omega) (by decide)
  have mg := m.oP og
  have cell : ∀ (u : PH) (as : List Nat), mw g u ws as → MSh u ∧ ∀ i k, 60 ≤ i → i ≤ 66 → hI u 20 i k = hI h 20 i k := fun u as X => ⟨mg.oP X.1, fun i k h1 h2 => (X.1.1 20 i k (fun z => by unfold FWt at z; omega)).trans (og.1 20 i k (fun z => by unfold FWr at z; omega))⟩
  have c0 := cell g [] (mw_rf W)
  have e60 : hI g 20 60 (400 * q + lo) = nI k := (c0.2 60 _ (by decide) (by decide)).trans l1
  unfold fX12_writesSimple
  rw [gd_t (k_45 mg), r12_45_25 mg, gs_t, i400, gd_t ⟨k_60 mg, iq 60 (n_60 mg)⟩]
  simp only [cq]
  rw [e60, ifn e3]
  by_cases z3 : k = 3
  · -- a row
    have hsp : spL (k, us, mo) = [91] ++ (spR [32] us ++ [93]) := by
      unfold spL
      exact if_pos z3
    have l20 : 0 < us.length ∧ us.length ≤ 20 := ok5 z3
    rw [hsp] at hl ⊢
    rw [List.length_append, List.length_append] at hl
    have la : ([91] : List Nat).length = 1 := rfl
    have lb : ([93] : List Nat).length = 1 := rfl
    obtain ⟨fr, f1, f2, f3, f4⟩ := l4 z3
    have f2 : hI h 20 62 (400 * q + lo) = nI us.length := f2
    have f3 : fr + us.length ≤ 20 := f3
    have f4 : ∀ i, i < us.length → hI h 20 66 (20 * q + fr + i) = nI (us.getD i 0) := f4
    have f1 : hI h 20 61 (400 * q + lo) = nI fr := f1
    obtain ⟨u1, p1, p2⟩ := mw_1 mg W (by omega) 91
    have b49 : ∀ (i : Nat) (hi : i < us.length) (u : PH) (as : List Nat), mw g u ws as → ws.length + as.length + (spW (us.getD i 0)).length ≤ 2000 → ∃ u', fX12_writesSimple_b49 45 (nI q) (nI (400 * q + lo)) (nI i) u = some (.inl (nI (i + 1), u')) ∧ mw g u' ws (as ++ spW (us.getD i 0)) := fun i hi u as X hX' => by
      obtain ⟨mu, cu⟩ := cell u as X
      obtain ⟨u', r1, r2⟩ := writesWord_eq mu X.2 (ow _ (mem_getD hi)) (by rw [List.length_append]; omega)
      refine ⟨u', ?_, mw_tr X r2⟩
      have ei : (((20 : Int32) * nI q) + nI fr) + nI i = nI (20 * q + fr + i) := by rw [i20q, nI_add]
      unfold fX12_writesSimple_b49
      rw [gd_t (k_45 mu), r12_45_26 mu, gs_t, gd_t ⟨k_61 mu, iq 61 (n_61 mu)⟩, r12_45_31 mu, gs_t]
      simp only [cq]
      rw [cu 61 _ (by decide) (by decide), f1, ei, gd_t ⟨k_66 mu, by rw [n_66 mu]; exact inbI (by omega) (by decide)⟩, nI_clamp (by omega), cu 66 _ (by decide) (by decide), f4 i hi, r1, bd_t, nI_1]
    have lp : ∀ (f i : Nat) (u : PH), i + f = us.length → mw g u ws ([91] ++ spR [32] (us.take i)) → ∃ g', fX12_writesSimple_l27 45 (nI q) (nI (400 * q + lo)) (nI i) u = some g' ∧ mw g g' ws ([91] ++ (spR [32] us ++ [93])) := by
      intro f
      induction f with
      | zero =>
        intro i u hi X
        have hi : i = us.length := by omega
        subst hi
        rw [List.take_length] at X
        obtain ⟨mu, cu⟩ := cell u _ X
        obtain ⟨u', r1, r2⟩ := mw_1 mu X.2 (by rw [List.length_append, List.length_append]; omega) 93
        refine ⟨u', wh_done ?_, ?_⟩
        · show fX12_writesSimple_c27 45 (nI q) (nI (400 * q + lo)) (nI us.length) u = _
          unfold fX12_writesSimple_c27
          rw [gd_t (k_45 mu), r12_45_27 mu, gs_t, gd_t ⟨k_62 mu, iq 62 (n_62 mu)⟩]
          simp only [cq]
          rw [cu 62 _ (by decide) (by decide), f2, if_pos (Int32.le_refl _), show fX12_writes 45 (93 : Int32) u = _ from r1, bd_t, mr_t]
        · rw [← List.append_assoc]
          exact mw_tr X r2
      | succ f ih =>
        intro i u hi X
        have hl' : i < us.length := by omega
        obtain ⟨mu, cu⟩ := cell u _ X
        have es := spR_s [32] us hl'
        have le := spR_len2 [32] us (i + 1)
        rw [es, List.length_append, List.length_append] at le
        have i0 : (nI i ≤ (0 : Int32)) = (i = 0) := propext ⟨fun y => by
          have := (nI_leI (b := 0) (by omega) (by decide)).mp y
          omega, fun y => by rw [y]; decide⟩
        have hd : fX12_writesSimple_c27 45 (nI q) (nI (400 * q + lo)) (nI i) u = (if i = 0 then fX12_writesSimple_b49 45 (nI q) (nI (400 * q + lo)) (nI i) u else bd (fX12_writes 45 (32 : Int32) u) (fun z64 => fX12_writesSimple_b49 45 (nI q) (nI (400 * q + lo)) (nI i) z64)) := by
          unfold fX12_writesSimple_c27
          rw [gd_t (k_45 mu), r12_45_27 mu, gs_t, gd_t ⟨k_62 mu, iq 62 (n_62 mu)⟩]
          simp only [cq]
          rw [cu 62 _ (by decide) (by decide), f2, if_neg (nI_ge hl' (by omega)), ifp i0]
        by_cases z0 : i = 0
        · rw [if_pos z0] at hd es
          obtain ⟨u', r1, r2⟩ := b49 i hl' u _ X (by rw [List.length_append]; omega)
          obtain ⟨g', j1, j2⟩ := ih (i + 1) u' (by omega) (by rw [es, List.nil_append, ← List.append_assoc]; exact r2)
          exact ⟨g', wh_step (t := (nI (i + 1), u')) (hd.trans r1) j1, j2⟩
        · rw [if_neg z0] at hd es le
          have l32 : ([32] : List Nat).length = 1 := rfl
          obtain ⟨u2, p3, p4⟩ := mw_1 mu X.2 (by rw [List.length_append, List.length_append]; omega) 32
          obtain ⟨u', r1, r2⟩ := b49 i hl' u2 _ (mw_tr X p4) (by rw [List.length_append, List.length_append]; omega)
          obtain ⟨g', j1, j2⟩ := ih (i + 1) u' (by omega) (by rw [es, ← List.append_assoc, ← List.append_assoc]; exact r2)
          refine ⟨g', wh_step (t := (nI (i + 1), u')) (hd.trans ?_) j1, j2⟩
          rw [show fX12_writes 45 (32 : Int32) u = _ from p3, bd_t]
          exact r1
    obtain ⟨g', j1, j2⟩ := lp us.length 0 u1 (Nat.zero_add _) (by
      rw [List.take_zero]
      show mw g u1 ws ([91] ++ [])
      rw [List.append_nil]; exact p2)
    refine ⟨g', ?_, j2⟩
    rw [if_neg (fun y => y z3), show fX12_writes 45 (91 : Int32) g = _ from p1, bd_t]
    exact j1
  · -- words
    have k3 : k < 3 := by omega
    have e61 := l2 k3
    have hw0 : vword (us.getD 0 0) = true := okL.w0 ok
    have l0 : 0 < us.length := (okL.len ok).1
    obtain ⟨w0, us', hus⟩ : ∃ w0 us', us = w0 :: us' := by
      cases us with
      | nil => exact absurd l0 (Nat.lt_irrefl 0)
      | cons w0 us' => exact ⟨w0, us', rfl⟩
    have g0 : us.getD 0 0 = w0 := by rw [hus]; rfl
    rw [g0] at e61 hw0
    have hsp : spL (k, us, mo) = spW w0 ++ (if k = 1 then [42] else if k = 2 then [126] ++ (spD mo ++ spW (us.getD 1 0)) else []) := by
      unfold spL
      show (if k = 3 then _ else if k = 2 then spR ([126] ++ spD mo) us else if k = 1 then spR [] us ++ [42] else spR [] us) = _
      rw [if_neg z3]
      by_cases z2 : k = 2
      · have l2' : us.length = 2 := (ok4 z2).1
        rw [if_pos z2, if_neg (show ¬ k = 1 by omega), if_pos z2]
        subst hus
        cases us' with
        | nil => exact absurd (show 1 = 2 from l2') (by decide)
        | cons w1 us'' =>
          cases us'' with
          | nil =>
            show spW w0 ++ ((([126] ++ spD mo) ++ spW w1) ++ []) = spW w0 ++ ([126] ++ (spD mo ++ spW w1))
            rw [List.append_nil, List.append_assoc]
          | cons w2 us3 =>
            rw [List.length_cons, List.length_cons, List.length_cons] at l2'
            omega
      · have l1' : us.length = 1 := ok3 (show k < 2 by omega)
        rw [if_neg z2, if_neg z2]
        subst hus
        cases us' with
        | nil =>
          show (if k = 1 then (spW w0 ++ []) ++ [42] else spW w0 ++ []) = _
          by_cases z1 : k = 1
          · rw [if_pos z1, if_pos z1, List.append_nil]
          · rw [if_neg z1, if_neg z1]
        | cons w1 us'' =>
          rw [List.length_cons, List.length_cons] at l1'
          omega
    rw [hsp] at hl ⊢
    rw [List.length_append] at hl
    obtain ⟨u1, p1, p2⟩ := writesWord_eq mg W hw0 (by omega)
    obtain ⟨m1, c1⟩ := cell u1 _ p2
    have l42 : ([42] : List Nat).length = 1 := rfl
    have l126 : ([126] : List Nat).length = 1 := rfl
    rw [if_pos z3, r12_45_26 mg, gs_t, gd_t ⟨k_61 mg, iq 61 (n_61 mg)⟩, c0.2 61 _ (by decide) (by decide), e61, p1, bd_t, gd_t (k_45 m1), r12_45_25 m1, gs_t, gd_t ⟨k_60 m1, iq 60 (n_60 m1)⟩, c1 60 _ (by decide) (by decide), l1, ifn e1]
    have b111n : ∀ (u : PH) (as : List Nat), mw g u ws as → k ≠ 2 → fX12_writesSimple_b111 45 (nI (400 * q + lo)) u = some u := fun u as X z => by
      obtain ⟨mu, cu⟩ := cell u as X
      unfold fX12_writesSimple_b111
      rw [gd_t (k_45 mu), r12_45_25 mu, gs_t, gd_t ⟨k_60 mu, iq 60 (n_60 mu)⟩]
      simp only [cq]
      rw [cu 60 _ (by decide) (by decide), l1, ifp e2, if_neg z]
    by_cases z1 : k = 1
    · rw [if_pos z1] at hl ⊢
      obtain ⟨u2, p3, p4⟩ := mw_1 m1 p2.2 (by rw [List.length_append]; omega) 42
      have X2 := mw_tr p2 p4
      refine ⟨u2, ?_, X2⟩
      rw [if_neg (fun y => y z1), show fX12_writes 45 (42 : Int32) u1 = _ from p3, bd_t]
      exact b111n u2 _ X2 (by omega)
    · rw [if_neg z1] at hl ⊢
      rw [if_pos z1]
      by_cases z2 : k = 2
      · rw [if_pos z2] at hl ⊢
        rw [List.length_append, List.length_append] at hl
        obtain ⟨n1, n2⟩ := ok4 z2
        have n1 : us.length = 2 := n1
        have n2 : mo ≤ 40 := n2
        obtain ⟨e62, e63⟩ := l3 z2
        obtain ⟨d1, d2, d3⟩ := dig mo (by omega)
        obtain ⟨u2, p3, p4⟩ := mw_1 m1 p2.2 (by rw [List.length_append]; omega) 126
        have X2 := mw_tr p2 p4
        obtain ⟨m2, c2⟩ := cell u2 _ X2
        have b155 : ∀ (u : PH) (as : List Nat), mw g u ws as → ws.length + as.length + 1 + (spW (us.getD 1 0)).length ≤ 2000 → ∃ u', fX12_writesSimple_b155 45 (nI (400 * q + lo)) u = some u' ∧ mw g u' ws (as ++ ([48 + mo % 10] ++ spW (us.getD 1 0))) := fun u as X hX' => by
          obtain ⟨mu, cu⟩ := cell u as X
          obtain ⟨u3, q1, q2⟩ := mw_1 mu X.2 (by rw [List.length_append]; omega) (48 + mo % 10)
          have X3 := mw_tr X q2
          obtain ⟨m3, c3⟩ := cell u3 _ X3
          have lx : ([48 + mo % 10] : List Nat).length = 1 := rfl
          obtain ⟨u4, q3, q4⟩ := writesWord_eq m3 X3.2 (ow _ (mem_getD (i := 1) (by omega))) (by rw [List.length_append, List.length_append]; omega)
          refine ⟨u4, ?_, ?_⟩
          · unfold fX12_writesSimple_b155
            rw [gd_t (k_45 mu), r12_45_28 mu, gs_t, gd_t ⟨k_63 mu, iq 63 (n_63 mu)⟩]
            simp only [cq]
            rw [cu 63 _ (by decide) (by decide), e63, d1, q1, bd_t, gd_t (k_45 m3), r12_45_27 m3, gs_t, gd_t ⟨k_62 m3, iq 62 (n_62 m3)⟩, c3 62 _ (by decide) (by decide), e62, q3, bd_t]
          · rw [← List.append_assoc]
            exact mw_tr X3 q4
        have hd : fX12_writesSimple_b111 45 (nI (400 * q + lo)) u1 = (if ¬ 9 < mo then fX12_writesSimple_b155 45 (nI (400 * q + lo)) u2 else bd (fX12_writes 45 (nI (48 + mo / 10)) u2) (fun z43 => fX12_writesSimple_b155 45 (nI (400 * q + lo)) z43)) := by
          unfold fX12_writesSimple_b111
          rw [gd_t (k_45 m1), r12_45_25 m1, gs_t, gd_t ⟨k_60 m1, iq 60 (n_60 m1)⟩]
          simp only [cq]
          rw [c1 60 _ (by decide) (by decide), l1, ifp e2, if_pos z2, show fX12_writes 45 (126 : Int32) u1 = _ from p3, bd_t, gd_t (k_45 m2), r12_45_28 m2, gs_t, gd_t ⟨k_63 m2, iq 63 (n_63 m2)⟩, c2 63 _ (by decide) (by decide), e63, ifp (propext d3), gs_t, gd_t ⟨k_63 m2, iq 63 (n_63 m2)⟩, c2 63 _ (by decide) (by decide), e63, d2]
        rw [hd]
        by_cases z9 : 9 < mo
        · have sd : spD mo = [48 + mo / 10, 48 + mo % 10] := if_pos z9
          rw [sd] at hl ⊢
          have ld : ([48 + mo / 10, 48 + mo % 10] : List Nat).length = 2 := rfl
          have lx : ([48 + mo / 10] : List Nat).length = 1 := rfl
          obtain ⟨u3, q1, q2⟩ := mw_1 m2 X2.2 (by rw [List.length_append, List.length_append]; omega) (48 + mo / 10)
          have X3 := mw_tr X2 q2
          obtain ⟨u4, r1, r2⟩ := b155 u3 _ X3 (by rw [List.length_append, List.length_append]; omega)
          refine ⟨u4, ?_, ?_⟩
          · rw [if_neg (fun y => y z9), q1, bd_t]
            exact r1
          · rw [List.append_assoc, List.append_assoc] at r2
            exact r2
        · have sd : spD mo = [48 + mo % 10] := by
            unfold spD
            rw [if_neg z9, Nat.mod_eq_of_lt (show mo < 10 by omega)]
          rw [sd] at hl ⊢
          have ld : ([48 + mo % 10] : List Nat).length = 1 := rfl
          obtain ⟨u4, r1, r2⟩ := b155 u2 _ X2 (by rw [List.length_append]; omega)
          refine ⟨u4, ?_, ?_⟩
          · rw [if_pos z9]
            exact r1
          · rw [List.append_assoc] at r2
            exact r2
      · rw [if_neg z2, List.append_nil]
        exact ⟨u1, b111n u1 _ p2 z2, p2⟩
