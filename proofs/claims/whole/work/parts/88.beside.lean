def behind (f : Nat) : Nat := (f + 1) * 27 ^ (6 - nl 6 f)
theorem behind_lt {f : Nat} (h : vword f = true) : behind f < 2 ^ 31 := by
  have h1 := nl_gt 6 f (vw2 h)
  have h2 := nl_bd 6 f
  have h3 : behind f ≤ 27 ^ nl 6 f * 27 ^ (6 - nl 6 f) := Nat.mul_le_mul_right _ h1
  rw [← Nat.pow_add, show nl 6 f + (6 - nl 6 f) = 6 by omega] at h3
  exact Nat.lt_of_le_of_lt h3 (by decide)
theorem behind_ge (f : Nat) : ord f ≤ behind f := by
  unfold ord behind
  exact Nat.mul_le_mul_right _ (Nat.le_succ f)
theorem beginning_c {ks : List Nat} (s : SK ks) {f : Nat} (hf : vword f = true) : pos ks (behind f) = pos ks (ord f) + ks.countP (fun k => bgn k f) := by
  rw [pos_range (behind_ge f) ks]
  congr 1
  refine List.countP_congr (fun k hk => ?_)
  rw [bgn_range (s.2 k hk) hf, Bool.and_eq_true, Bool.not_eq_true', decide_eq_true_eq, decide_eq_false_iff_not]
  unfold behind
  omega
theorem ls_beginning {h : PH} {P : PH → Prop} {tx : TX} {ks : List Nat} {e : Nat} {wa wb : Nat → Nat} (c : CSh h) (m : MSh h) (o : okX tx) (T2 : MT tx h) (X : IX tx ks e wa wb h) (a1 a2 a3 a4 a5 : Int32) (hP : ∀ h', scr h h' → P h') : LS_22 10 45 87 88 a1 a2 a3 a4 a5 h P := by
  show LBody (fX11_beginning 10 a1 h) (fX12_beginning 45 a1) (fun c => c = 1) (fun c v => c = 1 ∧ v = some (.int 1)) h P
  refine lb_word c m (x := a1) rfl (fun v hv => hv.2) hP (fun e => ⟨?_, fun u mu => ?_⟩) (fun f hf ew e => ?_)
  · unfold fX11_beginning fX11_beginning_b0
    rw [demandWord_n e, bx_r]
  · unfold fX12_beginning
    rw [gd_t (k_45 mu), lt_t, noWord_n (mu.scr (scr_thr u 0)) (thr0 u) e, bd_t]
    exact if_neg (show ¬ (1 : Int32) = 0 by decide)
  · subst ew
    have bc := beginning_c X.1.1 hf
    refine lb_val c m (v0 := nI (pos ks (behind f)) - nI (pos ks (ord f))) ?_ (fun u su => ?_) hP
    · unfold fX11_beginning fX11_beginning_b0 fX11_beginning_b4
      rw [demandWord_s e, bx_l, gd_t (k_10 c), orderBehind_eq (vw2 hf), bd_t, r11_10_3 c, gs_t, gd_t (k_16 c), countAhead_eq c X (x := (f + 1) * 27 ^ (6 - nl 6 f)) (behind_lt hf), bd_t, orderOf_eq (vw2 hf), bd_t, gs_t, gd_t (k_16 c), countAhead_eq c X (ordb hf), bd_t]
      rfl
    · have mu := m.scr su
      have m1 := mu.scr (scr_thr u 0)
      obtain ⟨w0, h1, h2, h3, h4, h5, h6, h7, h8⟩ := finds_thr mu o (T2.scr su) X.1
      refine ⟨w0, ?_, h3, h6, h7⟩
      unfold fX12_beginning
      rw [gd_t (k_45 mu), lt_t, noWord_s m1 (thr0 u) e, bd_t]
      show (if (0 : Int32) = 0 then gd (hK (sI u 12 45 0 0) 45 = 12) (bd (fX12_finds 45 (sI u 12 45 0 0)) (fun z5 => fX12_beginning_l23 45 (nI f) 0 0 z5)) else _) = _
      rw [if_pos rfl, gd_t (k_45 m1), h1, bd_t, show nI (pos ks (behind f)) - nI (pos ks (ord f)) = nI (ks.countP (fun k => bgn k f)) by rw [pk_sub (by omega)]; congr 1; omega]
      unfold fX12_beginning_l23
      have hin : ∀ j, j < ks.length → inb (nI j) (hN w0 59) := fun j hj => by rw [n_59 h4]; exact inbI (by omega) (by decide)
      refine count_loop (ρ := Int32 × PH) (ks := ks) (fun k => bgn k f) (fun j x hj q => ?_) (fun j x hj q => ?_) ?_
      · show fX12_beginning_c23 45 (nI f) x (nI j) w0 = _
        unfold fX12_beginning_c23 fX12_beginning_b50
        rw [gd_t (k_45 h4), h2.1, if_neg (nI_ge hj (by omega)), r12_45_19 h4, gs_t, gd_t ⟨k_59 h4, hin j hj⟩, h2.c h8 hj, beginsWith_eq (vw2 hf) (vw2 (X.1.1.2 _ (mem_getD hj))), bd_t, q, if_neg (show ¬ bI true = 0 by decide), nI_1]
      · show fX12_beginning_c23 45 (nI f) x (nI j) w0 = _
        unfold fX12_beginning_c23 fX12_beginning_b50
        rw [gd_t (k_45 h4), h2.1, if_neg (nI_ge hj (by omega)), r12_45_19 h4, gs_t, gd_t ⟨k_59 h4, hin j hj⟩, h2.c h8 hj, beginsWith_eq (vw2 hf) (vw2 (X.1.1.2 _ (mem_getD hj))), bd_t, q, if_pos (show bI false = 0 from rfl), Int32.add_zero, nI_1]
      · show fX12_beginning_c23 45 (nI f) _ (nI ks.length) w0 = _
        unfold fX12_beginning_c23
        rw [gd_t (k_45 h4), h2.1, if_pos (nI_le (Nat.le_refl _) (by omega)), mr_t]
/-- the word at an index, if it is there -/
def kwV (ks : List Nat) (i : Nat) : Int32 := if i < ks.length then nI (ks.getD i 0) else -1
theorem numberAt_k {tx : TX} {ks : List Nat} {e : Nat} {wa wb : Nat → Nat} {h : PH} (c : CSh h) (X : IX tx ks e wa wb h) {i : Nat} (hi : i < 2 ^ 31) : fX3_numberAt 16 (nI i) h = some (kwV ks i) := by
  have hl := X.2.1
  unfold kwV
  by_cases q : i < ks.length
  · rw [if_pos q, numberAt_s c X q]
  · rw [if_neg q, numberAt_n c X (Or.inr (fun z => q ((nI_ltI hi (by omega)).mp z)))]
/-- behind a word, in the reference -/
theorem mbeside_up {h : PH} (m : MSh h) {ks : List Nat} (s : SK ks) (K : KN ks h) (hl : ks.length ≤ 4000) {w : Nat} (hw : vword w = true) : fX12_beside_l24 45 (nI w) 1 (-1) 0 h = some (kwV ks (pos ks (ord w + 1)), h) := by
  have hp := pos_le ks (ord w + 1)
  have hin : ∀ j, j < ks.length → inb (nI j) (hN h 59) := fun j hj => by rw [n_59 m]; exact inbI (by omega) (by decide)
  have e0 : ∀ j, j < ks.length → fX12_beside_c24 45 (nI w) 1 (-1) (nI j) h = (if bI (decide (ord w < ord (ks.getD j 0))) = 0 then some (.inl (-1, nI (j + 1))) else some (.inr (nI (ks.getD j 0), h))) := fun j hj => by
    unfold fX12_beside_c24 fX12_beside_b59 fX12_beside_b85
    rw [gd_t (k_45 m), K.1, if_neg (nI_ge hj (by omega)), if_neg (by decide), r12_45_19 m, gs_t, gd_t ⟨k_59 m, hin j hj⟩, K.c hl hj, isAhead_eq (vw2 hw) (vw2 (s.2 _ (mem_getD hj))), bd_t, if_pos (show ¬ (1 : Int32) = 0 by decide), gs_t, gd_t ⟨k_59 m, hin j hj⟩, K.c hl hj, mr_t, nI_1]
  unfold fX12_beside_l24
  refine wh_out (fun j => ((-1 : Int32), nI j)) (pos ks (ord w + 1)) rfl (fun j hj => ?_) ?_
  · show fX12_beside_c24 45 (nI w) 1 (-1) (nI j) h = _
    have := (pos_iff s (by omega)).mpr hj
    rw [e0 j (by omega), decide_eq_false (by omega), if_pos (show bI false = 0 from rfl)]
  · show fX12_beside_c24 45 (nI w) 1 (-1) (nI (pos ks (ord w + 1))) h = _
    unfold kwV
    by_cases q : pos ks (ord w + 1) < ks.length
    · have : ¬ ord (ks.getD (pos ks (ord w + 1)) 0) < ord w + 1 := fun z => Nat.lt_irrefl _ ((pos_iff s q).mp z)
      rw [if_pos q, e0 _ q, decide_eq_true (by omega), if_neg (show ¬ bI true = 0 by decide)]
    · unfold fX12_beside_c24
      rw [if_neg q, gd_t (k_45 m), K.1, if_pos (nI_le (by omega) (by omega)), mr_t]
def lwV (ks : List Nat) (n : Nat) : Int32 := if n = 0 then -1 else nI (ks.getD (n - 1) 0)
theorem mbeside_dn {h : PH} (m : MSh h) {ks : List Nat} (s : SK ks) (K : KN ks h) (hl : ks.length ≤ 4000) {w : Nat} (hw : vword w = true) : fX12_beside_l24 45 (nI w) 0 (-1) 0 h = some (lwV ks (pos ks (ord w)), h) := by
  have hp := pos_le ks (ord w)
  have hin : ∀ j, j < ks.length → inb (nI j) (hN h 59) := fun j hj => by rw [n_59 m]; exact inbI (by omega) (by decide)
  have e0 : ∀ j x, j < ks.length → fX12_beside_c24 45 (nI w) 0 x (nI j) h = (if bI (decide (ord (ks.getD j 0) < ord w)) = 0 then some (.inl (x, nI (j + 1))) else some (.inl (nI (ks.getD j 0), nI (j + 1)))) := fun j x hj => by
    unfold fX12_beside_c24 fX12_beside_b59 fX12_beside_b85
    rw [gd_t (k_45 m), K.1, if_neg (nI_ge hj (by omega)), if_pos rfl, if_neg (fun z => z rfl), gd_t (k_45 m), r12_45_19 m, gs_t, gd_t ⟨k_59 m, hin j hj⟩, K.c hl hj, ahead_ks s hj hw, bd_t, gs_t, gd_t ⟨k_59 m, hin j hj⟩, K.c hl hj, nI_1]
  unfold fX12_beside_l24
  refine wh_out (fun j => (lwV ks (min j (pos ks (ord w))), nI j)) ks.length (by show (lwV ks (min 0 _), nI 0) = _; rw [Nat.zero_min]; rfl) (fun j hj => ?_) ?_
  · show fX12_beside_c24 45 (nI w) 0 (lwV ks (min j (pos ks (ord w)))) (nI j) h = some (.inl (lwV ks (min (j + 1) (pos ks (ord w))), nI (j + 1)))
    rw [e0 j _ hj]
    by_cases q : ord (ks.getD j 0) < ord w
    · have := (pos_iff s hj).mp q
      rw [decide_eq_true q, if_neg (show ¬ bI true = 0 by decide), Nat.min_eq_left (by omega : j + 1 ≤ pos ks (ord w))]
      unfold lwV
      rw [if_neg (by omega), Nat.add_sub_cancel]
    · have : ¬ j < pos ks (ord w) := fun z => q ((pos_iff s hj).mpr z)
      rw [decide_eq_false q, if_pos (show bI false = 0 from rfl), Nat.min_eq_right (by omega), Nat.min_eq_right (by omega)]
  · show fX12_beside_c24 45 (nI w) 0 (lwV ks (min ks.length (pos ks (ord w)))) (nI ks.length) h = _
    unfold fX12_beside_c24
    rw [gd_t (k_45 m), K.1, if_pos (nI_le (Nat.le_refl _) (by omega)), mr_t, Nat.min_eq_right hp]
theorem ls_beside {h : PH} {P : PH → Prop} {tx : TX} {ks : List Nat} {e : Nat} {wa wb : Nat → Nat} (c : CSh h) (m : MSh h) (o : okX tx) (T2 : MT tx h) (X : IX tx ks e wa wb h) (a1 a2 a3 a4 a5 : Int32) (hP : ∀ h', scr h h' → P h') : LS_20 10 45 87 88 a1 a2 a3 a4 a5 h P := by
  show LBody (fX11_beside 10 a1 (if a2 = 0 then (0 : Int32) else 1) h) (fX12_beside 45 a1 (if a2 = 0 then (0 : Int32) else 1)) (fun c => c = 1) (fun c v => c = 1 ∧ v = some (.int 1)) h P
  have hl := X.2.1
  refine lb_word c m (x := a1) rfl (fun v hv => hv.2) hP (fun e => ⟨?_, fun u mu => ?_⟩) (fun w hw ew e => ?_)
  · unfold fX11_beside fX11_beside_b0
    rw [demandWord_n e, bx_r]
  · unfold fX12_beside
    rw [gd_t (k_45 mu), lt_t, noWord_n (mu.scr (scr_thr u 0)) (thr0 u) e, bd_t]
    exact if_neg (show ¬ (1 : Int32) = 0 by decide)
  · subst ew
    have hp := pos_le ks (ord w)
    have ob := ord_lt (vw2 hw)
    by_cases z : a2 = 0
    · rw [if_pos z]
      refine lb_val c m (v0 := lwV ks (pos ks (ord w))) ?_ (fun u su => ?_) hP
      · unfold fX11_beside fX11_beside_b0 fX11_beside_b4 fX11_beside_b40
        rw [demandWord_s e, bx_l, orderOf_eq (vw2 hw), bd_t, gd_t (k_10 c), if_pos rfl, r11_10_3 c, gs_t, gd_t (k_16 c), countAhead_eq c X (ordb hw), bd_t, gs_t, gd_t (k_16 c)]
        unfold lwV
        by_cases q : pos ks (ord w) = 0
        · rw [if_pos q, q, numberAt_n c X (x := nI 0 - 1) (Or.inl (by decide)), bd_t]
        · rw [if_neg q, show (1 : Int32) = nI 1 from rfl, pk_sub (by omega), numberAt_s c X (by omega), bd_t]
      · have mu := m.scr su
        have m1 := mu.scr (scr_thr u 0)
        obtain ⟨w0, h1, h2, h3, h4, h5, h6, h7, h8⟩ := finds_thr mu o (T2.scr su) X.1
        refine ⟨w0, ?_, h3, h6, h7⟩
        unfold fX12_beside
        rw [gd_t (k_45 mu), lt_t, noWord_s m1 (thr0 u) e, bd_t]
        show (if (0 : Int32) = 0 then gd (hK (sI u 12 45 0 0) 45 = 12) (bd (fX12_finds 45 (sI u 12 45 0 0)) (fun z5 => fX12_beside_l24 45 (nI w) 0 (-1) 0 z5)) else _) = _
        rw [if_pos rfl, gd_t (k_45 m1), h1, bd_t, mbeside_dn h4 X.1.1 h2 h8 hw]
    · rw [if_neg z]
      refine lb_val c m (v0 := kwV ks (pos ks (ord w + 1))) ?_ (fun u su => ?_) hP
      · have hp1 := pos_le ks (ord w + 1)
        unfold fX11_beside fX11_beside_b0 fX11_beside_b4 fX11_beside_b40
        rw [demandWord_s e, bx_l, orderOf_eq (vw2 hw), bd_t, gd_t (k_10 c), if_neg (by decide), r11_10_3 c, gs_t, gd_t (k_16 c), nI_1, countAhead_eq c X (x := ord w + 1) (Nat.lt_of_le_of_lt ob (by decide)), bd_t, gs_t, gd_t (k_16 c), numberAt_k c X (by omega), bd_t]
      · have mu := m.scr su
        have m1 := mu.scr (scr_thr u 0)
        obtain ⟨w0, h1, h2, h3, h4, h5, h6, h7, h8⟩ := finds_thr mu o (T2.scr su) X.1
        refine ⟨w0, ?_, h3, h6, h7⟩
        unfold fX12_beside
        rw [gd_t (k_45 mu), lt_t, noWord_s m1 (thr0 u) e, bd_t]
        show (if (0 : Int32) = 0 then gd (hK (sI u 12 45 0 0) 45 = 12) (bd (fX12_finds 45 (sI u 12 45 0 0)) (fun z5 => fX12_beside_l24 45 (nI w) 1 (-1) 0 z5)) else _) = _
        rw [if_pos rfl, gd_t (k_45 m1), h1, bd_t, mbeside_up h4 X.1.1 h2 h8 hw]
