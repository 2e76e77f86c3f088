def plV (ws : List Nat) (w : Nat) (x : Int32) : Int32 := if x < 0 then -1 else optI (pl (fun v => decide (v = w)) ws x.toNatClampNeg)
theorem X8_placeOf_x {h : PH} {a b : Nat} {ws : List Nat} (T : TextAt h a b ws) (o : okT ws) {w : Nat} (hw : w < 2 ^ 31) (x : Int32) : fX8_placeOf a (nI w) x h = some (plV ws w x) := by
  unfold plV
  by_cases e : x < 0
  · rw [if_pos e, X8_placeOf_neg T _ e]
  · obtain ⟨k, hk, rfl⟩ := nI_of e
    rw [if_neg e, nI_clamp hk, X8_placeOf_eq T o hw hk]
theorem mplaceIn_l {h : PH} (m : MSh h) {tx : TX} (T : MT tx h) {t : Nat} (ht : t < 100) {ws : List Nat} (e : tx t = some ws) (o : okT ws) {w : Nat} (hw : w < 2 ^ 31) : ∀ n j k : Nat, j + n = ws.length → k < 2 ^ 31 → fX12_placeIn_l53 45 (nI w) (nI t) (nI k) (nI j) h = some (optI ((pl (fun v => decide (v = w)) (ws.drop j) k).map (· + j)), h) := by
  obtain ⟨t1, t2, t3⟩ := T.s ht e
  have h40 := o.1
  have e0 : ∀ j k, k < 2 ^ 31 → fX12_placeIn_c53 45 (nI w) (nI t) (nI k) (nI j) h = (if nI ws.length ≤ nI j then mr (fX12_placeIn_b100 h) else bd (fX12_wordIn 45 (nI t) (nI j) h) (fun z18 => if (z18 = nI w) then (if (¬ nI k = 0) then (fX12_placeIn_b94 45 (nI w) (nI t) (nI k + (-1)) (nI j) h) else mr (some ((nI j, h)))) else fX12_placeIn_b94 45 (nI w) (nI t) (nI k) (nI j) h)) := fun j k hk => by
    unfold fX12_placeIn_c53
    rw [gd_t (k_45 m), r12_45_6 m, gs_t, gd_t ⟨k_49 m, by rw [n_49 m]; exact inbI ht (by decide)⟩, show hI h 20 49 (Int32.toNatClampNeg (nI t)) = nI ws.length by rw [nI_clamp (by omega)]; exact t2, if_neg (nI_pos hk)]
  intro n
  induction n with
  | zero =>
    intro j k hj hk
    unfold fX12_placeIn_l53
    refine wh_done ?_
    show fX12_placeIn_c53 45 (nI w) (nI t) (nI k) (nI j) h = _
    rw [e0 j k hk, if_pos (nI_le (by omega) (by omega)), List.drop_eq_nil_of_le (by omega)]
    rfl
  | succ n ih =>
    intro j k hj hk
    have hl : j < ws.length := by omega
    rw [dropS hl]
    unfold fX12_placeIn_l53 at ih ⊢
    by_cases c : ws.getD j 0 = w
    · cases k with
      | zero =>
        refine wh_done ?_
        show fX12_placeIn_c53 45 (nI w) (nI t) (nI 0) (nI j) h = _
        rw [e0 j 0 hk, if_neg (nI_ge hl (by omega)), wordIn_eq m ht (by omega), bd_t, t3 j hl, if_pos (by rw [nI_eq (o.lt hl) hw]; exact c), if_neg (by decide), mr_t]
        simp only [pl, c, decide_true, if_true, Option.map_some, optI, Nat.zero_add]
      | succ k =>
        refine wh_step (t := (nI k, nI (j + 1))) ?_ ?_
        · show fX12_placeIn_c53 45 (nI w) (nI t) (nI (k + 1)) (nI j) h = _
          rw [e0 j (k + 1) hk, if_neg (nI_ge hl (by omega)), wordIn_eq m ht (by omega), bd_t, t3 j hl, if_pos (by rw [nI_eq (o.lt hl) hw]; exact c), if_pos (nI_ne0 (by omega) hk)]
          unfold fX12_placeIn_b94
          rw [pk_m1, nI_1]
        · rw [ih (j + 1) k (by omega) (by omega)]
          simp only [pl, c, decide_true, if_true, map_sh]
    · refine wh_step (t := (nI k, nI (j + 1))) ?_ ?_
      · show fX12_placeIn_c53 45 (nI w) (nI t) (nI k) (nI j) h = _
        rw [e0 j k hk, if_neg (nI_ge hl (by omega)), wordIn_eq m ht (by omega), bd_t, t3 j hl, if_neg (by rw [nI_eq (o.lt hl) hw]; exact c)]
        unfold fX12_placeIn_b94
        rw [nI_1]
      · rw [ih (j + 1) k (by omega) hk]
        simp only [pl, c, decide_false, Bool.false_eq_true, if_false, map_sh]
theorem mplaceIn_x {h : PH} (m : MSh h) {tx : TX} (T : MT tx h) {t : Nat} (ht : t < 100) {ws : List Nat} (e : tx t = some ws) (o : okT ws) {w : Nat} (hw : w < 2 ^ 31) (x : Int32) : fX12_placeIn_l53 45 (nI w) (nI t) x 0 h = some (plV ws w x, h) := by
  unfold plV
  by_cases c : x < 0
  · rw [if_pos c]
    unfold fX12_placeIn_l53
    refine wh_done ?_
    show fX12_placeIn_c53 45 (nI w) (nI t) x 0 h = _
    unfold fX12_placeIn_c53 fX12_placeIn_b100
    rw [gd_t (k_45 m), r12_45_6 m, gs_t, gd_t ⟨k_49 m, by rw [n_49 m]; exact inbI ht (by decide)⟩]
    by_cases d : hI h 20 49 (Int32.toNatClampNeg (nI t)) ≤ 0
    · rw [if_pos d]; rfl
    · rw [if_neg d, if_pos c]; rfl
  · obtain ⟨k, hk, rfl⟩ := nI_of c
    rw [if_neg c, nI_clamp hk]
    have := mplaceIn_l m T ht e o hw ws.length 0 k (by omega) hk
    show fX12_placeIn_l53 45 (nI w) (nI t) (nI k) (nI 0) h = _
    simpa using this
theorem placeIn_b {h : PH} (m : MSh h) (h0 : hI h 12 45 0 = 0) (v x y : Int32) : fX12_placeIn_b38 45 v x y (some 45) 0 h = some (0, sI h 12 45 0 2) := by
  unfold fX12_placeIn_b38 fX12_placeIn_b45
  rw [gs_t, gd_t (k_45 m), fails_f m h0 (by decide), bd_t]
  exact if_neg (show ¬ (1 : Int32) = 0 by decide)
theorem X12_placeIn_n {u : PH} (m : MSh u) {tx : TX} (T : MT tx u) {w : Nat} (hw : vword w = true) {x : Int32} (e : txI tx x = none) (y : Int32) : fX12_placeIn 45 (nI w) x y u = some (0, sI (sI u 12 45 0 0) 12 45 0 2) := by
  have s1 := scr_thr u 0
  have m1 := m.scr s1
  have t1 := T.scr s1
  unfold fX12_placeIn fX12_placeIn_b37
  rw [gd_t (k_45 m), lt_t, noWord_s m1 (thr0 u) (vI_nI hw), bd_t]
  show (if ¬ (0 : Int32) = 0 then _ else _) = _
  rw [if_neg (by decide), in_eq, bd_t]
  rcases txI_or (tx := tx) x with ⟨h1, h2⟩ | ⟨t, ht, rfl, q⟩
  · have e : (decide ((0 : Int32) ≤ x) && decide (x ≤ 99)) = false := by
      rcases h1 with h1 | h1
      · rw [decide_eq_false (by simpa using h1), Bool.false_and]
      · have : ¬ x ≤ 99 := fun q => by
          have := Int32.le_trans h1 q
          exact absurd this (by decide)
        rw [decide_eq_false this, Bool.and_false]
    rw [e, if_pos (show bI false = 0 from rfl)]
    exact placeIn_b m1 (thr0 u) _ _ _
  · have e9 : (decide ((0 : Int32) ≤ nI t) && decide (nI t ≤ 99)) = true := by
      rw [decide_eq_true (nI_pos' (by omega)), show (99 : Int32) = nI 99 from rfl, decide_eq_true ((nI_leI (by omega) (by decide)).mpr (by omega))]
      rfl
    rw [e9, if_neg (show ¬ bI true = 0 by decide)]
    show gd (hK (sI u 12 45 0 0) 45 = 12) (gs (hR (sI u 12 45 0 0) 12 45 4) _) = _
    rw [gd_t (k_45 m1), r12_45_4 m1, gs_t, gd_t ⟨k_47 m1, by rw [n_47 m1]; exact inbI ht (by decide)⟩, t1.nc ht (q.symm.trans e), if_pos rfl]
    exact placeIn_b m1 (thr0 u) _ _ _
theorem X12_placeIn_s {u : PH} (m : MSh u) {tx : TX} (o : okX tx) (T : MT tx u) {w : Nat} (hw : vword w = true) {t : Nat} (ht : t < 100) {ws : List Nat} (q : tx t = some ws) (y : Int32) : fX12_placeIn 45 (nI w) (nI t) y u = some (plV ws w y, sI u 12 45 0 0) := by
  have s1 := scr_thr u 0
  have m1 := m.scr s1
  have t1 := T.scr s1
  unfold fX12_placeIn
  rw [gd_t (k_45 m), lt_t, noWord_s m1 (thr0 u) (vI_nI hw), bd_t]
  show (if ¬ (0 : Int32) = 0 then _ else _) = _
  have e9 : (decide ((0 : Int32) ≤ nI t) && decide (nI t ≤ 99)) = true := by
    rw [decide_eq_true (nI_pos' (by omega)), show (99 : Int32) = nI 99 from rfl, decide_eq_true ((nI_leI (by omega) (by decide)).mpr (by omega))]
    rfl
  rw [if_neg (by decide), in_eq, bd_t, e9, if_neg (show ¬ bI true = 0 by decide)]
  show gd (hK (sI u 12 45 0 0) 45 = 12) (gs (hR (sI u 12 45 0 0) 12 45 4) _) = _
  rw [gd_t (k_45 m1), r12_45_4 m1, gs_t, gd_t ⟨k_47 m1, by rw [n_47 m1]; exact inbI ht (by decide)⟩, (t1.sc ht q).1, if_neg (by decide)]
  unfold fX12_placeIn_b38
  rw [gs_t]
  show gd (hK (sI u 12 45 0 0) 45 = 12) (bd (fX12_fails 45 1 2 (sI u 12 45 0 0)) _) = _
  rw [gd_t (k_45 m1), fails_t m1 (thr0 u), bd_t]
  show (if (0 : Int32) = 0 then fX12_placeIn_l53 45 (nI w) (nI t) y 0 (sI u 12 45 0 0) else _) = _
  rw [if_pos rfl, mplaceIn_x m1 t1 ht q (o t ws q).2 (vw31 hw)]
theorem ls_placeIn {h : PH} {P : PH → Prop} {tx : TX} (c : CSh h) (m : MSh h) (o : okX tx) (T1 : CT tx h) (T2 : MT tx h) (a1 a2 a3 a4 a5 : Int32) (hP : ∀ h', scr h h' → P h') : LS_27 10 45 87 88 a1 a2 a3 a4 a5 h P := by
  show LBody (fX11_placeIn 10 a1 a2 a3 h) (fX12_placeIn 45 a1 a2 a3) (fun c => c = 1 ∨ c = 2) (fun c v => (c = 1 ∧ v = some (.int 1)) ∨ (c = 2 ∧ v = some (.int 2))) h P
  refine lb_word c m (x := a1) (Or.inl rfl) (fun v hv => hv.elim (fun q => q.2) (fun q => absurd q.1 (by decide))) hP (fun e => ⟨?_, fun u mu => ?_⟩) (fun w hw ew e => ?_)
  · unfold fX11_placeIn fX11_placeIn_b0
    rw [demandWord_n e, bx_r]
  · unfold fX12_placeIn
    rw [gd_t (k_45 mu), lt_t, noWord_n (mu.scr (scr_thr u 0)) (thr0 u) e, bd_t]
    exact if_pos (show ¬ (1 : Int32) = 0 by decide)
  · subst ew
    rcases demandText_eq c T1 a2 with ⟨e2, f⟩ | ⟨t, ws, a, b, ht, rfl, q, e2, h1, h2, h3, h4, f⟩
    · refine lb_exc c m (e := 2) (code := 2) ?_ (Or.inr rfl) (fun v hv => hv.elim (fun q => absurd q.1 (by decide)) (fun q => q.2)) (by decide) (fun u su => ⟨_, X12_placeIn_n (m.scr su) (T2.scr su) hw e2 a3, ?_, ?_⟩) hP
      · unfold fX11_placeIn fX11_placeIn_b0 fX11_placeIn_b4
        rw [demandWord_s e, bx_l, gd_t (k_10 c), f, bx_r]
      · exact (scr_thr _ 0).tr (scr_thr _ 2)
      · exact (hI_sI _ _ _ _ _ _ _ _).trans (if_pos ⟨rfl, rfl, rfl⟩)
    · refine lb_val c m (v0 := plV ws w a3) ?_ (fun u su => ⟨_, X12_placeIn_s (m.scr su) o (T2.scr su) hw ht q a3, scr_thr u 0, thr0 u, rfl⟩) hP
      unfold fX11_placeIn fX11_placeIn_b0 fX11_placeIn_b4 fX11_placeIn_b9
      rw [demandWord_s e, bx_l, gd_t (k_10 c), f, bx_l, gs_t, gd_t h4.1, X8_placeOf_x h4 (o t ws q).2 (vw31 hw), bd_t]
