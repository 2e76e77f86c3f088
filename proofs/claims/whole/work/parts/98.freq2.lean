def isTl (c a k : Nat) : Bool := c == 20 && a == 18
theorem isTl18 (k : Nat) : isTl 20 18 k = true := rfl
theorem isTl_scr {c a k : Nat} (e : isTl c a k = true) : isScr c a k = true := by
  unfold isTl at e
  rw [Bool.and_eq_true, beq_iff_eq, beq_iff_eq] at e
  obtain ⟨rfl, rfl⟩ := e
  unfold isScr
  rfl
theorem tally_in {tx : TX} {ks : List Nat} {e : Nat} {wa wb : Nat → Nat} {h : PH} (c : CSh h) (o : okX tx) (X : IX tx ks e wa wb h) : ∀ n j : Nat, ∀ g : PH, j + n = ks.length → onlyI isTl h g → (∀ m, m ≤ 100 → hI g 20 18 m = nI ((ks.take j).countP (pfq tx m))) → ∃ h', fX3_countTally_l23 16 (nI j) g = some h' ∧ onlyI isTl h h' ∧ ∀ m, m ≤ 100 → hI h' 20 18 m = nI (ks.countP (pfq tx m)) := by
  have hl := X.2.1
  intro n
  induction n with
  | zero =>
    intro j g hj og hg
    have cg := c.oI og
    have Xg := X.scr (og.scr (fun _ _ _ => isTl_scr))
    refine ⟨g, ?_, og, fun m hm => by rw [hg m hm, List.take_of_length_le (by omega)]⟩
    unfold fX3_countTally_l23
    refine wh_done ?_
    show fX3_countTally_c23 16 (nI j) g = _
    unfold fX3_countTally_c23
    rw [gd_t (k_16 cg), r3_16_0 cg, gs_t, gd_t (k_17 cg), ix_size cg Xg, bd_t, if_pos (nI_le (by omega) (by omega)), mr_t]
  | succ n ih =>
    intro j g hj og hg
    have cg := c.oI og
    have Xg := X.scr (og.scr (fun _ _ _ => isTl_scr))
    have hl : j < ks.length := by omega
    have W := ix_word Xg (mem_getD hl)
    have hf := fq_le tx (ks.getD j 0)
    have i1 : inb (nI (fq tx (ks.getD j 0))) (hN g 18) := by rw [n_18 cg]; exact inbI (by omega) (by decide)
    have st : fX3_countTally_c23 16 (nI j) g = some (.inl (nI (j + 1), sI g 20 18 (fq tx (ks.getD j 0)) (hI g 20 18 (fq tx (ks.getD j 0)) + 1))) := by
      unfold fX3_countTally_c23 fX3_countTally_b68
      rw [gd_t (k_16 cg), r3_16_0 cg, gs_t, gd_t (k_17 cg), ix_size cg Xg, bd_t, if_neg (nI_ge hl (by omega)), gs_t, gd_t (k_17 cg), ix_get cg Xg hl, bd_t, gs_t, gd_t W.2.2.1, W.2.2.2.2.2.1, gs_t, gd_t W.2.2.2.2.2.2.1, X9_size_eq W.2.2.2.2.2.2.1 W.2.2.2.2.2.2.2 (fun i hi => hasT_100 o hi _), bd_t]
      rw [show cnt (fun t => hasT tx t (ks.getD j 0)) 100 = fq tx (ks.getD j 0) from rfl, if_neg (show ¬ (100 : Int32) < nI (fq tx (ks.getD j 0)) from show ¬ nI 100 < nI (fq tx (ks.getD j 0)) by rw [nI_ltI (by decide) (by omega)]; omega), r3_16_1 cg, gs_t, gd_t ⟨k_18 cg, i1⟩, gd_t i1, lt_t, nI_clamp (by omega), nI_1]
    obtain ⟨h', e1, e2, e3⟩ := ih (j + 1) _ (by omega) (og.tr (onlyI_sI g (hI g 20 18 (fq tx (ks.getD j 0)) + 1) (isTl18 (fq tx (ks.getD j 0))))) (fun m hm => by
      rw [hI_sI, takeS hl, List.countP_append, List.countP_singleton]
      unfold pfq at hg ⊢
      by_cases d : m = fq tx (ks.getD j 0)
      · rw [if_pos ⟨rfl, rfl, d⟩, hg _ hf, nI_1, if_pos (decide_eq_true d.symm), d]
      · rw [if_neg (fun q => d q.2.2), hg m hm, if_neg (by rw [decide_eq_true_eq]; exact fun q => d q.symm)]
        rfl)
    refine ⟨h', ?_, e2, e3⟩
    unfold fX3_countTally_l23 at e1 ⊢
    exact wh_step (t := (nI (j + 1), sI g 20 18 (fq tx (ks.getD j 0)) (hI g 20 18 (fq tx (ks.getD j 0)) + 1))) st e1
theorem tally_eq {tx : TX} {ks : List Nat} {e : Nat} {wa wb : Nat → Nat} {h : PH} (c : CSh h) (o : okX tx) (X : IX tx ks e wa wb h) : ∃ h', fX3_countTally 16 h = some h' ∧ onlyI isTl h h' ∧ ∀ m, m ≤ 100 → hI h' 20 18 m = nI (ks.countP (pfq tx m)) := by
  have hl := X.2.1
  have lp : ∀ n j : Nat, ∀ g : PH, j + n = 101 → onlyI isTl h g → (∀ m, m < j → hI g 20 18 m = 0) → ∃ h', fX3_countTally_l2 16 (nI j) g = some h' ∧ onlyI isTl h h' ∧ ∀ m, m ≤ 100 → hI h' 20 18 m = nI (ks.countP (pfq tx m)) := by
    intro n
    induction n with
    | zero =>
      intro j g hj og hg
      have : j = 101 := by omega
      subst this
      obtain ⟨h', e1, e2, e3⟩ := tally_in c o X ks.length 0 g (by omega) og (fun m hm => by rw [hg m (by omega)]; rfl)
      refine ⟨h', ?_, e2, e3⟩
      unfold fX3_countTally_l2
      refine wh_done ?_
      show fX3_countTally_c2 16 (nI 101) g = _
      unfold fX3_countTally_c2
      rw [if_pos (by decide)]
      show mr (fX3_countTally_l23 16 (nI 0) g) = _
      rw [e1, mr_t]
    | succ n ih =>
      intro j g hj og hg
      have cg := c.oI og
      obtain ⟨h', e1, e2, e3⟩ := ih (j + 1) _ (by omega) (og.tr (onlyI_sI g 0 (isTl18 j))) (fun m hm => by
        rw [hI_sI]
        by_cases d : m = j
        · rw [if_pos ⟨rfl, rfl, d⟩]
        · rw [if_neg (fun q => d q.2.2), hg m (by omega)])
      refine ⟨h', ?_, e2, e3⟩
      unfold fX3_countTally_l2 at e1 ⊢
      refine wh_step (t := (nI (j + 1), sI g 20 18 j 0)) ?_ e1
      show fX3_countTally_c2 16 (nI j) g = _
      unfold fX3_countTally_c2
      rw [if_neg (show ¬ (100 : Int32) < nI j from show ¬ nI 100 < nI j by rw [nI_ltI (by decide) (by omega)]; omega), gd_t (k_16 cg), r3_16_1 cg, gs_t, gd_t ⟨k_18 cg, by rw [n_18 cg]; exact inbI (by omega) (by decide)⟩, lt_t, nI_clamp (by omega), nI_1]
  unfold fX3_countTally
  exact lp 101 0 h rfl (onlyI.rf _ _) (fun m hm => absurd hm (Nat.not_lt_zero _))
theorem cfreq_scan {tx : TX} {ks : List Nat} {e : Nat} {wa wb : Nat → Nat} {h : PH} (c : CSh h) (o : okX tx) (X : IX tx ks e wa wb h) {n : Nat} (hn : n ≤ 100) {k : Nat} (hk : k < 2 ^ 31) : fX3_frequentAt_l58 16 (nI k) (nI n) 0 h = some (wdV ks (pl (pfq tx n) ks k), h) := by
  have hl := X.2.1
  have st : ∀ j y, j < ks.length → fX3_frequentAt_c58 16 y (nI n) (nI j) h = (if ¬ fq tx (ks.getD j 0) = n then some (.inl (y, nI (j + 1))) else if ¬ y = 0 then some (.inl (y + (-1), nI (j + 1))) else some (.inr (nI (ks.getD j 0), h))) := fun j y hj => by
    have W := ix_word X (mem_getD hj)
    have hf := fq_le tx (ks.getD j 0)
    unfold fX3_frequentAt_c58 fX3_frequentAt_b115
    rw [gd_t (k_16 c), r3_16_0 c, gs_t, gd_t (k_17 c), ix_size c X, bd_t, if_neg (nI_ge hj (by omega)), gs_t, gd_t (k_17 c), ix_get c X hj, bd_t, gs_t, gd_t W.2.2.1, W.2.2.2.2.2.1, gs_t, gd_t W.2.2.2.2.2.2.1, X9_size_eq W.2.2.2.2.2.2.1 W.2.2.2.2.2.2.2 (fun i hi => hasT_100 o hi _), bd_t, gs_t, gd_t (k_17 c), ix_get c X hj, bd_t, gs_t, gd_t W.2.2.1, W.2.2.2.1, mr_t, nI_1]
    show (if ¬ nI (fq tx (ks.getD j 0)) = nI n then _ else _) = _
    rw [ifn (nIe (show fq tx (ks.getD j 0) < 2 ^ 31 by omega) (by omega))]
  unfold fX3_frequentAt_l58
  have := nth_loop (c := fun z : Int32 × Int32 => fX3_frequentAt_c58 16 z.1 (nI n) z.2 h) (ks := ks) (pfq tx n) (fun r => (wdV ks r, h)) (fun k _ => by
    show fX3_frequentAt_c58 16 (nI k) (nI n) (nI ks.length) h = _
    unfold fX3_frequentAt_c58
    rw [gd_t (k_16 c), r3_16_0 c, gs_t, gd_t (k_17 c), ix_size c X, bd_t, if_pos (nI_le (Nat.le_refl _) (by omega)), mr_t]
    rfl) (fun j hj q => by
    show fX3_frequentAt_c58 16 (nI 0) (nI n) (nI j) h = _
    rw [st j _ hj, if_neg (fun z => z (decide_eq_true_eq.mp q)), if_neg (by decide)]
    rfl) (fun j k hj q hk => by
    show fX3_frequentAt_c58 16 (nI (k + 1)) (nI n) (nI j) h = _
    rw [st j _ hj, if_neg (fun z => z (decide_eq_true_eq.mp q)), if_pos (nI_ne0 (by omega) hk), pk_m1]) (fun j k hj q hk => by
    show fX3_frequentAt_c58 16 (nI k) (nI n) (nI j) h = _
    rw [st j _ hj, if_pos (decide_eq_false_iff_not.mp q)]) ks.length 0 k (by omega) hk
  rw [List.drop_zero, map0] at this
  exact this
theorem cfreq_out {tx : TX} {ks : List Nat} {e : Nat} {wa wb : Nat → Nat} {h : PH} (c : CSh h) (o : okX tx) (X : IX tx ks e wa wb h) (hT : ∀ m, m ≤ 100 → hI h 20 18 m = nI (ks.countP (pfq tx m))) : ∀ n k : Nat, n ≤ 100 → k < 2 ^ 31 → fX3_frequentAt_l26 16 (nI k) (nI n) h = some (wdV ks (frq tx ks n k), h) := by
  have hl := X.2.1
  intro n
  induction n with
  | zero =>
    intro k _ hk
    unfold fX3_frequentAt_l26
    refine wh_done ?_
    show fX3_frequentAt_c26 16 (nI k) (nI 0) h = _
    unfold fX3_frequentAt_c26 fX3_frequentAt_b55
    rw [if_pos (by decide), cfreq_scan c o X (by decide) hk, pl_nc, mr_t]
    · rfl
    · have : ks.countP (pfq tx 0) = 0 := by
        rw [List.countP_eq_zero]
        intro v hv
        unfold pfq
        rw [decide_eq_true_eq]
        have := fq_pos X.1 hv
        omega
      omega
  | succ n ih =>
    intro k hn hk
    have cle : ks.countP (pfq tx (n + 1)) ≤ ks.length := List.countP_le_length
    have i1 : inb (nI (n + 1)) (hN h 18) := by rw [n_18 c]; exact inbI (by omega) (by decide)
    have st : fX3_frequentAt_c26 16 (nI k) (nI (n + 1)) h = (if k < ks.countP (pfq tx (n + 1)) then mr (fX3_frequentAt_b55 16 (nI k) (nI (n + 1)) h) else some (.inl (nI (k - ks.countP (pfq tx (n + 1))), nI n))) := by
      have hTm : hI h 20 18 (Int32.toNatClampNeg (nI (n + 1))) = nI (ks.countP (pfq tx (n + 1))) := by rw [nI_clamp (by omega)]; exact hT _ hn
      unfold fX3_frequentAt_c26
      rw [if_neg (show ¬ nI (n + 1) ≤ (0 : Int32) from show ¬ nI (n + 1) ≤ nI 0 by rw [nI_leI (by omega) (by decide)]; omega), gd_t (k_16 c), r3_16_1 c, gs_t, gd_t ⟨k_18 c, i1⟩, hTm, gs_t, gd_t ⟨k_18 c, i1⟩, hTm, pk_m1, ifp (propext (nI_ltI hk (by omega)))]
      by_cases z : k < ks.countP (pfq tx (n + 1))
      · rw [if_pos z, if_pos z]
      · rw [if_neg z, if_neg z, pk_sub (by omega)]
    rw [frq]
    unfold fX3_frequentAt_l26 at ih ⊢
    by_cases z : k < ks.countP (pfq tx (n + 1))
    · rw [if_pos z]
      refine wh_done ?_
      show fX3_frequentAt_c26 16 (nI k) (nI (n + 1)) h = _
      rw [st, if_pos z]
      unfold fX3_frequentAt_b55
      rw [cfreq_scan c o X hn hk, mr_t]
    · rw [if_neg z]
      refine wh_step (t := (nI (k - ks.countP (pfq tx (n + 1))), nI n)) ?_ (ih _ (by omega) (by omega))
      show fX3_frequentAt_c26 16 (nI k) (nI (n + 1)) h = _
      rw [st, if_neg z]
theorem ls_frequent {h : PH} {P : PH → Prop} {tx : TX} {ks : List Nat} {e : Nat} {wa wb : Nat → Nat} (c : CSh h) (m : MSh h) (o : okX tx) (T2 : MT tx h) (X : IX tx ks e wa wb h) (a1 a2 a3 a4 a5 : Int32) (hP : ∀ h', scr h h' → P h') : LS_28 10 45 87 88 a1 a2 a3 a4 a5 h P := by
  show LBody (fX11_frequent 10 a1 h) (fX12_frequent 45 a1) (fun c => c = 2) (fun c v => c = 2 ∧ v = some (.int 1)) h P
  have hb := X.2.1
  rcases idx_or (n := ks.length) (by omega) a1 with hx | ⟨i, hi, rfl⟩
  · refine lb_exc c m (e := 2) (code := 1) ?_ rfl (fun v hv => hv.2) (by decide) (fun u su => ?_) hP
    · unfold fX11_frequent fX11_frequent_b0 fX3_frequentAt fX3_frequentAt_b15
      rw [gd_t (k_10 c), r11_10_3 c, gs_t, gd_t (k_16 c)]
      by_cases h0 : a1 < 0
      · rw [if_pos h0, bd_t, if_neg (fun q => q rfl)]
      · rw [if_neg h0, gd_t (k_16 c), r3_16_0 c, gs_t, gd_t (k_17 c), ix_size c X, bd_t, if_neg (hx.resolve_left h0), bd_t, if_neg (fun q => q rfl)]
    · obtain ⟨w, h1, h2, h3, h4, h5, h6, h7, h8⟩ := finds_thr (m.scr su) o (T2.scr su) X.1
      refine ⟨(0, sI w 12 45 0 1), ?_, h3.tr (scr_thr _ 1), (hI_sI _ _ _ _ _ _ _ _).trans (if_pos ⟨rfl, rfl, rfl⟩)⟩
      unfold fX12_frequent
      rw [gd_t (k_45 (m.scr su)), lt_t, h1, bd_t, gd_t (k_45 h4), h2.1, inIdx_n (by omega) hx, bd_t, fails_f h4 h6 (by decide), bd_t]
      exact if_neg (show ¬ (1 : Int32) = 0 by decide)
  · obtain ⟨j, f1, f2⟩ := frq_ok X.1 hi
    have hv := X.1.1.2 _ (mem_getD f2)
    obtain ⟨g, g1, g2, g3⟩ := tally_eq c o X
    have sg : scr h g := g2.scr (fun _ _ _ => isTl_scr)
    have cg := c.scr sg
    have Xg := X.scr sg
    refine lb_gen (h1 := g) (v0 := nI (ks.getD j 0)) c ?_ cg (by rw [g2.2.2.2.2.2.1]; omega) (by rw [g2.2.2.2.2.2.2]; omega) (fun u su _ => ?_)
    · unfold fX11_frequent fX11_frequent_b0 fX3_frequentAt
      have l26 : fX3_frequentAt_l26 16 (nI i) 100 g = some (nI (ks.getD j 0), g) := by
        have := cfreq_out cg o Xg g3 100 i (Nat.le_refl _) (by omega)
        rw [f1] at this
        exact this
      rw [gd_t (k_10 c), r11_10_3 c, gs_t, gd_t (k_16 c), if_neg (nI_pos (by omega)), gd_t (k_16 c), r3_16_0 c, gs_t, gd_t (k_17 c), ix_size c X, bd_t, if_pos (nI_lt hi (by omega)), g1, bd_t, l26, bd_t]
      exact if_pos (nI_nm1 (vw31 hv))
    · have s2 := sg.tr su
      have mu := m.scr s2
      obtain ⟨w, h1, h2, h3, h4, h5, h6, h7, h8⟩ := finds_thr mu o (T2.scr s2) X.1
      have s3 := s2.tr h3
      refine ⟨w, k_45 mu, ?_, c.scr s3, h4, h6, h7, hP _ s3⟩
      unfold fX12_frequent
      rw [gd_t (k_45 mu), lt_t, h1, bd_t, gd_t (k_45 h4), h2.1, inIdx_s (by omega) hi, bd_t, fails_t h4 h6, bd_t]
      show (if (0 : Int32) = 0 then fX12_frequent_l35 45 (nI i) (nI 100) w else _) = _
      rw [if_pos rfl, mfreq_out h4 o h5 X.1.1 h2 h8 100 i (Nat.le_refl _) (by omega), f1]
      rfl
