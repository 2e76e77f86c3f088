/-! CALLS THAT ONLY ASK, of the index: between, beginning, beside -/
theorem count_loop {ρ : Type} {c : Int32 × Int32 → Option ((Int32 × Int32) ⊕ ρ)} {ks : List Nat} (p : Nat → Bool) {r : ρ}
    (s1 : ∀ j x, j < ks.length → p (ks.getD j 0) = true → c (x, nI j) = some (.inl (x + 1, nI (j + 1))))
    (s0 : ∀ j x, j < ks.length → p (ks.getD j 0) = false → c (x, nI j) = some (.inl (x, nI (j + 1))))
    (out : c (nI (ks.countP p), nI ks.length) = some (.inr r)) : wh c (0, 0) = some r := by
  show wh c (nI ((ks.take 0).countP p), nI 0) = some r
  refine wh_out (fun j => (nI ((ks.take j).countP p), nI j)) ks.length rfl (fun j hj => ?_) (by rw [List.take_length]; exact out)
  rw [takeS hj, List.countP_append, List.countP_singleton]
  cases e : p (ks.getD j 0) with
  | true => rw [s1 j _ hj e, if_pos rfl, nI_1]
  | false => rw [s0 j _ hj e, if_neg (by decide)]; rfl
theorem pos_range {a b : Nat} (hab : a ≤ b) : ∀ ks : List Nat, pos ks b = pos ks a + ks.countP (fun k => !decide (ord k < a) && decide (ord k < b)) := by
  intro ks
  induction ks with
  | nil => rfl
  | cons k ks ih =>
    unfold pos at ih ⊢
    rw [List.countP_cons, List.countP_cons, List.countP_cons, ih]
    by_cases c1 : ord k < a
    · have c2 : ord k < b := by omega
      simp [c1, c2]
      omega
    · by_cases c2 : ord k < b
      · simp [c1, c2]
        omega
      · simp [c1, c2]
theorem ahead_ks {ks : List Nat} (s : SK ks) {j w : Nat} (hj : j < ks.length) (hw : vword w = true) : fX12_isAhead (nI (ks.getD j 0)) (nI w) = some (bI (decide (ord (ks.getD j 0) < ord w))) := isAhead_eq (vw2 (s.2 _ (mem_getD hj))) (vw2 hw)
theorem between_l {h : PH} (m : MSh h) {ks : List Nat} (s : SK ks) (K : KN ks h) (hl : ks.length ≤ 4000) {a b : Nat} (ha : vword a = true) (hb : vword b = true) (hab : ord a ≤ ord b) : fX12_between_l53 45 (nI a) (nI b) 0 0 h = some (nI (pos ks (ord b)) - nI (pos ks (ord a)), h) := by
  have e0 := pos_range hab ks
  have e1 : nI (pos ks (ord b)) - nI (pos ks (ord a)) = nI (ks.countP (fun k => !decide (ord k < ord a) && decide (ord k < ord b))) := by
    rw [pk_sub (by omega)]
    congr 1
    omega
  rw [e1]
  unfold fX12_between_l53
  have hin : ∀ j, j < ks.length → inb (nI j) (hN h 59) := fun j hj => by rw [n_59 m]; exact inbI (by omega) (by decide)
  refine count_loop (ρ := Int32 × PH) (ks := ks) (fun k => !decide (ord k < ord a) && decide (ord k < ord b)) (fun j x hj e => ?_) (fun j x hj e => ?_) ?_
  · show fX12_between_c53 45 (nI a) (nI b) x (nI j) h = _
    rw [Bool.and_eq_true, Bool.not_eq_true'] at e
    unfold fX12_between_c53 fX12_between_b96
    rw [gd_t (k_45 m), K.1, if_neg (nI_ge hj (by omega)), r12_45_19 m, gs_t, gd_t ⟨k_59 m, hin j hj⟩, K.c hl hj, ahead_ks s hj ha, bd_t, e.1, if_neg (fun q => q rfl), gs_t, gd_t ⟨k_59 m, hin j hj⟩, K.c hl hj, ahead_ks s hj hb, bd_t, e.2, if_neg (show ¬ bI true = 0 by decide), nI_1]
  · show fX12_between_c53 45 (nI a) (nI b) x (nI j) h = _
    unfold fX12_between_c53 fX12_between_b95 fX12_between_b96
    rw [gd_t (k_45 m), K.1, if_neg (nI_ge hj (by omega)), r12_45_19 m, gs_t, gd_t ⟨k_59 m, hin j hj⟩, K.c hl hj, ahead_ks s hj ha, bd_t]
    cases q : decide (ord (ks.getD j 0) < ord a) with
    | true => rw [if_pos (show ¬ bI true = 0 by decide), Int32.add_zero, nI_1]
    | false =>
      have e2 : decide (ord (ks.getD j 0) < ord b) = false := by
        rw [q] at e
        exact e
      rw [if_neg (fun z => z rfl), gs_t, gd_t ⟨k_59 m, hin j hj⟩, K.c hl hj, ahead_ks s hj hb, bd_t, e2, if_pos (show bI false = 0 from rfl), Int32.add_zero, nI_1]
  · show fX12_between_c53 45 (nI a) (nI b) _ (nI ks.length) h = _
    unfold fX12_between_c53
    rw [gd_t (k_45 m), K.1, if_pos (nI_le (Nat.le_refl _) (by omega)), mr_t]
theorem X12_between_w {u : PH} (m : MSh u) {x : Int32} (e : vI x = false) (y : Int32) : fX12_between 45 x y u = some (0, sI (sI u 12 45 0 0) 12 45 0 1) := by
  unfold fX12_between fX12_between_b42
  rw [gd_t (k_45 m), lt_t, noWord_n (m.scr (scr_thr u 0)) (thr0 u) e, bd_t]
  exact if_pos (show ¬ (1 : Int32) = 0 by decide)
theorem X12_between_v {u : PH} (m : MSh u) {x y : Int32} (e : vI x = true) (e' : vI y = false) : fX12_between 45 x y u = some (0, sI (sI u 12 45 0 0) 12 45 0 1) := by
  have m1 := m.scr (scr_thr u 0)
  unfold fX12_between fX12_between_b42
  rw [gd_t (k_45 m), lt_t, noWord_s m1 (thr0 u) e, bd_t]
  show (if ¬ (0 : Int32) = 0 then _ else gd (hK (sI u 12 45 0 0) 45 = 12) (bd (fX12_noWord 45 y (sI u 12 45 0 0)) _)) = _
  rw [if_neg (by decide), gd_t (k_45 m1), noWord_n m1 (thr0 u) e', bd_t]
  exact if_pos (show ¬ (1 : Int32) = 0 by decide)
theorem X12_between_b {u : PH} (m : MSh u) {a b : Nat} (ha : vword a = true) (hb : vword b = true) : fX12_between 45 (nI a) (nI b) u = (if ord b < ord a then fX12_between_b35 45 (nI a) (nI b) (some 45) 0 (sI u 12 45 0 0) else fX12_between_b35 45 (nI a) (nI b) (some 45) 1 (sI u 12 45 0 0)) := by
  have m1 := m.scr (scr_thr u 0)
  unfold fX12_between
  rw [gd_t (k_45 m), lt_t, noWord_s m1 (thr0 u) (vI_nI ha), bd_t]
  show (if ¬ (0 : Int32) = 0 then _ else gd (hK (sI u 12 45 0 0) 45 = 12) (bd (fX12_noWord 45 (nI b) (sI u 12 45 0 0)) _)) = _
  rw [if_neg (by decide), gd_t (k_45 m1), noWord_s m1 (thr0 u) (vI_nI hb), bd_t]
  show (if ¬ (0 : Int32) = 0 then _ else bd (fX12_isAhead (nI b) (nI a)) (fun z6 => if ¬ z6 = 0 then fX12_between_b35 45 (nI a) (nI b) (some 45) 0 (sI u 12 45 0 0) else fX12_between_b35 45 (nI a) (nI b) (some 45) 1 (sI u 12 45 0 0))) = _
  rw [if_neg (by decide), isAhead_eq (vw2 hb) (vw2 ha), bd_t]
  by_cases q : ord b < ord a
  · rw [decide_eq_true q, if_pos (show ¬ bI true = 0 by decide), if_pos q]
  · rw [decide_eq_false q, if_neg (fun z => z rfl), if_neg q]
theorem ls_between {h : PH} {P : PH → Prop} {tx : TX} {ks : List Nat} {e : Nat} {wa wb : Nat → Nat} (c : CSh h) (m : MSh h) (o : okX tx) (T2 : MT tx h) (X : IX tx ks e wa wb h) (a1 a2 a3 a4 a5 : Int32) (hP : ∀ h', scr h h' → P h') : LS_21 10 45 87 88 a1 a2 a3 a4 a5 h P := by
  show LBody (fX11_between 10 a1 a2 h) (fX12_between 45 a1 a2) (fun c => c = 1) (fun c v => c = 1 ∧ v = some (.int 1)) h P
  refine lb_word c m (x := a1) rfl (fun v hv => hv.2) hP (fun e => ⟨?_, fun u mu => X12_between_w mu e a2⟩) (fun w hw ew e => ?_)
  · unfold fX11_between fX11_between_b0
    rw [demandWord_n e, bx_r]
  · refine lb_word c m (x := a2) rfl (fun v hv => hv.2) hP (fun e' => ⟨?_, fun u mu => X12_between_v mu e e'⟩) (fun w' hw' ew' e' => ?_)
    · unfold fX11_between fX11_between_b0 fX11_between_b4
      rw [demandWord_s e, bx_l, demandWord_n e', bx_r]
    · subst ew; subst ew'
      by_cases q : ord w' < ord w
      · refine lb_exc c m (e := 1) (code := 1) ?_ rfl (fun v hv => hv.2) (by decide) (fun u su => ⟨(0, sI (sI u 12 45 0 0) 12 45 0 1), ?_, (scr_thr _ 0).tr (scr_thr _ 1), (hI_sI _ _ _ _ _ _ _ _).trans (if_pos ⟨rfl, rfl, rfl⟩)⟩) hP
        · unfold fX11_between fX11_between_b0 fX11_between_b4 fX11_between_b8
          rw [demandWord_s e, bx_l, demandWord_s e', bx_l, orderOf_eq (vw2 hw'), bd_t, orderOf_eq (vw2 hw), bd_t, if_neg (by rw [nI_leI (ordb hw) (ordb hw')]; omega)]
        · have m1 := (m.scr su).scr (scr_thr u 0)
          rw [X12_between_b (m.scr su) hw hw', if_pos q]
          unfold fX12_between_b35 fX12_between_b42
          rw [gs_t, gd_t (k_45 m1), fails_f m1 (thr0 u) (by decide), bd_t]
          exact if_neg (show ¬ (1 : Int32) = 0 by decide)
      · refine lb_val c m (v0 := nI (pos ks (ord w')) - nI (pos ks (ord w))) ?_ (fun u su => ?_) hP
        · unfold fX11_between fX11_between_b0 fX11_between_b4 fX11_between_b8
          rw [demandWord_s e, bx_l, demandWord_s e', bx_l, orderOf_eq (vw2 hw'), bd_t, orderOf_eq (vw2 hw), bd_t, if_pos ((nI_leI (ordb hw) (ordb hw')).mpr (by omega)), gd_t (k_10 c), bd_t, r11_10_3 c, gs_t, gd_t (k_16 c), countAhead_eq c X (ordb hw'), bd_t, bd_t, gs_t, gd_t (k_16 c), countAhead_eq c X (ordb hw), bd_t]
        · have mu := m.scr su
          have m1 := mu.scr (scr_thr u 0)
          obtain ⟨w0, h1, h2, h3, h4, h5, h6, h7, h8⟩ := finds_thr mu o (T2.scr su) X.1
          refine ⟨w0, ?_, h3, h6, h7⟩
          rw [X12_between_b mu hw hw', if_neg q]
          unfold fX12_between_b35
          rw [gs_t, gd_t (k_45 m1), fails_t m1 (thr0 u), bd_t]
          show (if (0 : Int32) = 0 then gd (hK (sI u 12 45 0 0) 45 = 12) (bd (fX12_finds 45 (sI u 12 45 0 0)) (fun z12 => fX12_between_l53 45 (nI w) (nI w') 0 0 z12)) else _) = _
          rw [if_pos rfl, gd_t (k_45 m1), h1, bd_t, between_l h4 X.1.1 h2 h8 hw hw' (by omega)]
