/-! CALLS THAT ONLY ASK, of a word: places, placeIn -/
theorem word_or (x : Int32) : vI x = false ∨ ∃ w, vword w = true ∧ x = nI w ∧ vI x = true := by
  cases e : vI x with
  | false => left; rfl
  | true =>
    right
    unfold vI at e
    rw [Bool.and_eq_true, decide_eq_true_eq] at e
    have h0 : ¬ x < 0 := Int32.not_lt.mpr (Int32.le_trans (by decide : (0 : Int32) ≤ 1) e.1)
    obtain ⟨w, hw, rfl⟩ := nI_of h0
    rw [nI_clamp hw] at e
    exact ⟨w, e.2, rfl, rfl⟩
theorem vw31 {w : Nat} (h : vword w = true) : w < 2 ^ 31 := Nat.lt_of_lt_of_le (vw2 h) (by decide)
theorem demandWord_n {x : Int32} (e : vI x = false) (h : PH) : fX11_demandWord x h = some (.inr (1, h)) := by
  unfold fX11_demandWord fX11_demandWord_b0
  rw [isNumber_eq, bd_t, e]
  exact if_neg (fun q => q rfl)
theorem demandWord_s {x : Int32} (e : vI x = true) (h : PH) : fX11_demandWord x h = some (.inl h) := by
  unfold fX11_demandWord fX11_demandWord_b0
  rw [isNumber_eq, bd_t, e]
  exact if_pos (by decide)
theorem noWord_n {h : PH} (m : MSh h) (h0 : hI h 12 45 0 = 0) {x : Int32} (e : vI x = false) : fX12_noWord 45 x h = some (1, sI h 12 45 0 1) := by
  unfold fX12_noWord
  rw [isWord_eq, bd_t, gd_t (k_45 m), e, show bI false = 0 from rfl, fails_f m h0 (by decide), bd_t]
  exact gd_t (show (1 : Int32) &&& 1 = 1 by decide)
theorem noWord_s {h : PH} (m : MSh h) (h0 : hI h 12 45 0 = 0) {x : Int32} (e : vI x = true) : fX12_noWord 45 x h = some (0, h) := by
  unfold fX12_noWord
  rw [isWord_eq, bd_t, gd_t (k_45 m), e, show bI true = 1 from rfl, fails_t m h0, bd_t]
  exact gd_t (show (0 : Int32) &&& 1 = 0 by decide)
theorem CT.nc {tx : TX} {h : PH} (T : CT tx h) {t : Nat} (ht : t < 100) (e : tx t = none) : hR h 26 15 (Int32.toNatClampNeg (nI t)) = none := by rw [nI_clamp (by omega)]; exact T.n ht e
theorem CT.sc {tx : TX} {h : PH} (T : CT tx h) {t : Nat} (ht : t < 100) {ws : List Nat} (e : tx t = some ws) : ∃ a b, hR h 26 15 (Int32.toNatClampNeg (nI t)) = some a ∧ 89 ≤ a ∧ 89 ≤ b ∧ TextAt h a b ws := by rw [nI_clamp (by omega)]; exact T.s ht e
theorem MT.nc {tx : TX} {h : PH} (T : MT tx h) {t : Nat} (ht : t < 100) (e : tx t = none) : hI h 21 47 (Int32.toNatClampNeg (nI t)) = 0 := by rw [nI_clamp (by omega)]; exact T.n ht e
theorem MT.sc {tx : TX} {h : PH} (T : MT tx h) {t : Nat} (ht : t < 100) {ws : List Nat} (e : tx t = some ws) : hI h 21 47 (Int32.toNatClampNeg (nI t)) = 1 ∧ hI h 20 49 (Int32.toNatClampNeg (nI t)) = nI ws.length := by rw [nI_clamp (by omega)]; exact ⟨(T.s ht e).1, (T.s ht e).2.1⟩
/-- a sum over 0 .. n-1 -/
def sm (f : Nat → Nat) : Nat → Nat
  | 0 => 0
  | n + 1 => sm f n + f n
def cw (tx : TX) (w t : Nat) : Nat := match tx t with
  | none => 0
  | some ws => ws.countP (fun v => decide (v = w))
theorem cw_n {tx : TX} {t : Nat} (e : tx t = none) (w : Nat) : cw tx w t = 0 := by unfold cw; rw [e]
theorem cw_s {tx : TX} {t : Nat} {ws : List Nat} (e : tx t = some ws) (w : Nat) : cw tx w t = ws.countP (fun v => decide (v = w)) := by unfold cw; rw [e]
theorem X11_places_eq {h : PH} (c : CSh h) {tx : TX} (o : okX tx) (T : CT tx h) {w : Nat} (hw : vword w = true) : fX11_places 10 (nI w) h = some (.inl (nI (sm (cw tx w) 100), h)) := by
  unfold fX11_places fX11_places_b0
  have e : vI (nI w) = true := by
    rcases word_or (nI w) with q | ⟨v, -, -, q⟩
    · unfold vI at q
      rw [nI_clamp (vw31 hw), hw, Bool.and_true, decide_eq_false_iff_not] at q
      exact absurd ((nI_leI (a := 1) (by decide) (vw31 hw)).mpr (vw1 hw)) q
    · exact q
  rw [demandWord_s e, bx_l]
  unfold fX11_places_b4 fX11_places_l8
  refine wh_out (fun j => (nI (sm (cw tx w) j), nI j)) 100 rfl (fun j hj => ?_) ?_
  · show fX11_places_c8 10 (nI w) (nI (sm (cw tx w) j)) (nI j) h = _
    unfold fX11_places_c8 fX11_places_b36
    have hin : inb (nI j) (hN h 15) := by rw [n_15 c]; exact inbI hj (by decide)
    rw [if_neg (i100 hj), gd_t (k_10 c), r11_10_2 c, gs_t, gd_t ⟨k_15 c, hin⟩]
    cases q : tx j with
    | none =>
      rw [T.nc hj q, mq_nt, nI_1, sm, cw_n q]
      rfl
    | some ws =>
      obtain ⟨a, b, h1, h2, h3, h4⟩ := T.sc hj q
      rw [h1, mq_st, gs_t, gd_t ⟨k_15 c, hin⟩, h1, gs_t, gd_t h4.1, X8_countWord_eq h4 (o j ws q).2 (vw31 hw), bd_t, nI_1, nI_add, sm, cw_s q]
  · show fX11_places_c8 10 (nI w) _ (nI 100) h = _
    unfold fX11_places_c8
    rw [if_pos (by decide)]
    rfl
theorem vI_nI {w : Nat} (hw : vword w = true) : vI (nI w) = true := by
  rcases word_or (nI w) with q | ⟨v, -, -, q⟩
  · unfold vI at q
    rw [nI_clamp (vw31 hw), hw, Bool.and_true, decide_eq_false_iff_not] at q
    exact absurd ((nI_leI (a := 1) (by decide) (vw31 hw)).mpr (vw1 hw)) q
  · exact q
theorem mplaces_l {h : PH} (m : MSh h) {tx : TX} (T : MT tx h) {t : Nat} (ht : t < 100) {ws : List Nat} (e : tx t = some ws) (o : okT ws) {w : Nat} (hw : w < 2 ^ 31) (s : Nat) : ∀ n j : Nat, j + n = ws.length → fX12_places_l28 45 (nI w) (nI (s + (ws.take j).countP (fun v => decide (v = w)))) (nI t) (nI j) h = some (.inl (nI (s + ws.countP (fun v => decide (v = w))), nI (t + 1))) := by
  obtain ⟨t1, t2, t3⟩ := T.s ht e
  have h40 := o.1
  have e0 : ∀ j x, fX12_places_c28 45 (nI w) x (nI t) (nI j) h = (if nI ws.length ≤ nI j then mr (fX12_places_b73 45 (nI w) x (nI t) h) else bd (fX12_wordIn 45 (nI t) (nI j) h) (fun z14 => if (¬ z14 = nI w) then fX12_places_b65 45 (nI w) (nI t) (nI j) x 0 h else fX12_places_b65 45 (nI w) (nI t) (nI j) x 1 h)) := fun j x => by
    unfold fX12_places_c28
    rw [gd_t (k_45 m), r12_45_4 m, gs_t, gd_t ⟨k_47 m, by rw [n_47 m]; exact inbI ht (by decide)⟩, show hI h 21 47 (Int32.toNatClampNeg (nI t)) = 1 by rw [nI_clamp (by omega)]; exact t1, if_neg (by decide), r12_45_6 m, gs_t, gd_t ⟨k_49 m, by rw [n_49 m]; exact inbI ht (by decide)⟩, show hI h 20 49 (Int32.toNatClampNeg (nI t)) = nI ws.length by rw [nI_clamp (by omega)]; exact t2]
  intro n
  induction n with
  | zero =>
    intro j hj
    unfold fX12_places_l28
    refine wh_done ?_
    show fX12_places_c28 45 (nI w) _ (nI t) (nI j) h = _
    rw [e0, if_pos (nI_le (by omega) (by omega)), List.take_of_length_le (by omega)]
    unfold fX12_places_b73
    rw [nI_1]
    rfl
  | succ n ih =>
    intro j hj
    have hl : j < ws.length := by omega
    unfold fX12_places_l28 at ih ⊢
    refine wh_step (t := (nI (s + (ws.take (j + 1)).countP (fun v => decide (v = w))), nI (j + 1))) ?_ (ih (j + 1) (by omega))
    show fX12_places_c28 45 (nI w) _ (nI t) (nI j) h = _
    rw [e0, if_neg (nI_ge hl (by omega)), wordIn_eq m ht (by omega), bd_t, t3 j hl, takeS hl, List.countP_append, List.countP_singleton]
    unfold fX12_places_b65
    rw [nI_1]
    by_cases c : ws.getD j 0 = w
    · rw [if_neg (by rw [nI_eq (o.lt hl) hw]; simpa using c), nI_1, if_pos (decide_eq_true c)]
      rfl
    · rw [if_pos (by rw [nI_eq (o.lt hl) hw]; exact c), Int32.add_zero, if_neg (by rw [decide_eq_true_eq]; exact c)]
      rfl
theorem X12_places_eq {u : PH} (m : MSh u) {tx : TX} (o : okX tx) (T : MT tx u) (x : Int32) : fX12_places 45 x u = some (if vI x then (nI (sm (cw tx x.toNatClampNeg) 100), sI u 12 45 0 0) else (0, sI (sI u 12 45 0 0) 12 45 0 1)) := by
  have s1 := scr_thr u 0
  have m1 := m.scr s1
  have t1 := T.scr s1
  unfold fX12_places
  rw [gd_t (k_45 m), lt_t]
  rcases word_or x with e | ⟨w, hw, rfl, e⟩
  · rw [noWord_n m1 (thr0 u) e, bd_t, e]
    show (if (1 : Int32) = 0 then _ else _) = _
    rw [if_neg (by decide)]
    rfl
  · rw [noWord_s m1 (thr0 u) e, bd_t, e, nI_clamp (vw31 hw)]
    show (if (0 : Int32) = 0 then fX12_places_l19 45 (nI w) (nI 0) (nI 0) (sI u 12 45 0 0) else _) = _
    rw [if_pos rfl, if_pos rfl]
    unfold fX12_places_l19
    refine wh_out (fun j => (nI (sm (cw tx w) j), nI j)) 100 rfl (fun j hj => ?_) ?_
    · show fX12_places_c19 45 (nI w) (nI (sm (cw tx w) j)) (nI j) _ = _
      unfold fX12_places_c19
      rw [if_neg (i100 hj)]
      cases q : tx j with
      | none =>
        unfold fX12_places_l28
        refine wh_done ?_
        show fX12_places_c28 45 (nI w) (nI (sm (cw tx w) j)) (nI j) 0 _ = _
        unfold fX12_places_c28 fX12_places_b73
        rw [gd_t (k_45 m1), r12_45_4 m1, gs_t, gd_t ⟨k_47 m1, by rw [n_47 m1]; exact inbI hj (by decide)⟩, t1.nc hj q, if_pos rfl, nI_1, sm, cw_n q]
        rfl
      | some ws =>
        have := mplaces_l m1 t1 hj q (o j ws q).2 (vw31 hw) (sm (cw tx w) j) ws.length 0 (by omega)
        rw [sm, cw_s q]
        exact this
    · show fX12_places_c19 45 (nI w) _ (nI 100) _ = _
      unfold fX12_places_c19
      rw [if_pos (by decide)]
      rfl
/-- a call that only asks, of a word: what is to be shown of each side -/
theorem lb_word {fc : Option ((Int32 × PH) ⊕ (Nat × PH))} {fm : PH → Option (Int32 × PH)} {Cd : Nat → Prop} {Cv : Nat → Option Value → Prop} {h : PH} {P : PH → Prop} (c : CSh h) (m : MSh h) {x : Int32}
    (hd : Cd 1) (hv : ∀ v, Cv 1 v → v = some (.int 1)) (hP : ∀ h', scr h h' → P h')
    (no : vI x = false → fc = some (.inr (1, h)) ∧ ∀ u, MSh u → fm u = some (0, sI (sI u 12 45 0 0) 12 45 0 1))
    (yes : ∀ w, vword w = true → x = nI w → vI x = true → LBody fc fm Cd Cv h P) : LBody fc fm Cd Cv h P := by
  rcases word_or x with e | ⟨w, hw, rfl, e⟩
  · obtain ⟨f, g⟩ := no e
    refine lb_exc c m (e := 1) (code := 1) f hd hv (by decide) (fun u su => ⟨_, g u (m.scr su), ?_, ?_⟩) hP
    · exact (scr_thr _ 0).tr (scr_thr _ 1)
    · exact (hI_sI _ _ _ _ _ _ _ _).trans (if_pos ⟨rfl, rfl, rfl⟩)
  · exact yes w hw rfl e
theorem ls_places {h : PH} {P : PH → Prop} {tx : TX} (c : CSh h) (m : MSh h) (o : okX tx) (T1 : CT tx h) (T2 : MT tx h) (a1 a2 a3 a4 a5 : Int32) (hP : ∀ h', scr h h' → P h') : LS_26 10 45 87 88 a1 a2 a3 a4 a5 h P := by
  show LBody (fX11_places 10 a1 h) (fX12_places 45 a1) (fun c => c = 1) (fun c v => c = 1 ∧ v = some (.int 1)) h P
  refine lb_word c m (x := a1) rfl (fun v hv => hv.2) hP (fun e => ⟨?_, fun u mu => ?_⟩) (fun w hw ew e => ?_)
  · unfold fX11_places fX11_places_b0
    rw [demandWord_n e, bx_r]
  · unfold fX12_places
    rw [gd_t (k_45 mu), lt_t, noWord_n (mu.scr (scr_thr u 0)) (thr0 u) e, bd_t]
    exact if_neg (show ¬ (1 : Int32) = 0 by decide)
  · subst ew
    refine lb_val c m (X11_places_eq c o T1 hw) (fun u su => ⟨_, ?_, scr_thr u 0, thr0 u, rfl⟩) hP
    rw [X12_places_eq (m.scr su) o (T2.scr su), if_pos e, nI_clamp (vw31 hw)]
