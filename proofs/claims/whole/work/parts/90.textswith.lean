/-! CALLS THAT ONLY ASK, of a word's texts: textsWith, isIn, nextWith, together -/
theorem ls_textsWith {h : PH} {P : PH → Prop} {tx : TX} {ks : List Nat} {e : Nat} {wa wb : Nat → Nat} (c : CSh h) (m : MSh h) (o : okX tx) (T2 : MT tx h) (X : IX tx ks e wa wb h) (a1 a2 a3 a4 a5 : Int32) (hP : ∀ h', scr h h' → P h') : LS_23 10 45 87 88 a1 a2 a3 a4 a5 h P := by
  show LBody (fX11_textsWith 10 a1 h) (fX12_textsWith 45 a1) (fun c => c = 1) (fun c v => c = 1 ∧ v = some (.int 1)) h P
  refine lb_word c m (x := a1) rfl (fun v hv => hv.2) hP (fun e => ⟨?_, fun u mu => ?_⟩) (fun w hw ew e => ?_)
  · unfold fX11_textsWith fX11_textsWith_b0
    rw [demandWord_n e, bx_r]
  · unfold fX12_textsWith fX12_textsWith_b22
    rw [gd_t (k_45 mu), lt_t, noWord_n (mu.scr (scr_thr u 0)) (thr0 u) e, bd_t]
    exact if_neg (show ¬ (1 : Int32) = 0 by decide)
  · subst ew
    refine lb_val c m (v0 := nI (cnt (fun t => hasT tx t w) 100)) ?_ (fun u su => ⟨_, ?_, scr_thr u 0, thr0 u, rfl⟩) hP
    · unfold fX11_textsWith fX11_textsWith_b0 fX11_textsWith_b4 fX11_textsWith_b28
      rw [demandWord_s e, bx_l, gd_t (k_10 c), r11_10_3 c, gs_t, gd_t (k_16 c), find_eq c X hw, bd_t]
      by_cases q : w ∈ ks
      · have W := ix_word X q
        rw [if_pos q, mq_st, gd_t W.2.2.1, W.2.2.2.2.2.1, gs_t, gd_t W.2.2.2.2.2.2.1, X9_size_eq W.2.2.2.2.2.2.1 W.2.2.2.2.2.2.2 (fun i hi => hasT_100 o hi w), bd_t]
      · rw [if_neg q, mq_nt, cnt_none (p := fun t => hasT tx t w) 100 (fun i _ => hasT_no o X.1 q i)]
        rfl
    · have mu := m.scr su
      have m1 := mu.scr (scr_thr u 0)
      unfold fX12_textsWith fX12_textsWith_b22
      rw [gd_t (k_45 mu), lt_t, noWord_s m1 (thr0 u) e, bd_t]
      show (if (0 : Int32) = 0 then gd (hK (sI u 12 45 0 0) 45 = 12) (bd (fX12_manyWith 45 (nI w) (sI u 12 45 0 0)) (fun z5 => some ((z5, sI u 12 45 0 0)))) else _) = _
      rw [if_pos rfl, gd_t (k_45 m1), manyWith_eq m1 ((T2.scr su).scr (scr_thr u 0)) o (vw31 hw), bd_t]
/-- LBody where what is stored is another number -/
def LBodyV (g : Int32 → Int64) (fc : Option ((Int32 × PH) ⊕ (Nat × PH))) (fm : PH → Option (Int32 × PH)) (Cd : Nat → Prop) (Cv : Nat → Option Value → Prop) (h : PH) (P : PH → Prop) : Prop :=
  ∃ r : ((Int32 × PH) ⊕ (Nat × PH)), fc = some r ∧ hK h 10 = 11 ∧ (∀ z, r = .inl z → hK z.2 87 = 23 ∧ 0 < hN z.2 87) ∧ (∀ z, r = .inr z → Cd z.1) ∧ xT2 r - hX h ≤ 1150 ∧ vT2 r - hV h ≤ 14000 ∧
    (∀ (v : Option Value) (u : PH), ((∃ z : Int32 × PH, r = .inl z ∧ v = some (.int 0) ∧ u = sL z.2 23 87 (Int32.toNatClampNeg 0) (g z.1)) ∨ (∃ (z : Nat × PH) (n : Nat), r = .inr z ∧ hX z.2 ≤ n ∧ u = hbump z.2 n ∧ Cv z.1 v)) →
      ∃ (code : Int32) (y : Int32 × PH), v = some (.int code) ∧ hK u 45 = 12 ∧ fm u = some y ∧ hK y.2 45 = 12 ∧ fX12_thrown 45 y.2 = some code ∧ (code = 0 → hK y.2 87 = 23 ∧ 0 < hN y.2 87 ∧ hL y.2 23 87 (Int32.toNatClampNeg 0) = g y.1) ∧ P y.2)
theorem lbv_val {g : Int32 → Int64} {fc : Option ((Int32 × PH) ⊕ (Nat × PH))} {fm : PH → Option (Int32 × PH)} {Cd : Nat → Prop} {Cv : Nat → Option Value → Prop} {h : PH} {P : PH → Prop} (c : CSh h) (m : MSh h) {v0 : Int32} (hf : fc = some (.inl (v0, h)))
    (hm : ∀ u, scr h u → ∃ w, fm u = some (v0, w) ∧ scr u w ∧ hI w 12 45 0 = 0 ∧ hL w 23 87 0 = hL u 23 87 0) (hP : ∀ h', scr h h' → P h') : LBodyV g fc fm Cd Cv h P := by
  refine ⟨_, hf, k_10 c, (fun z hz => by cases hz; exact ⟨k_87 c, by rw [n_87 c]; decide⟩), (fun z hz => by cases hz), ?_, ?_, ?_⟩
  · show hX h - hX h ≤ 1150; omega
  · show hV h - hV h ≤ 14000; omega
  · rintro v u (⟨z, hz, hv, rfl⟩ | ⟨z, n, hz, -⟩)
    · cases hz
      have su := scr_out h (Int32.toNatClampNeg 0) (g v0)
      obtain ⟨w, h1, h2, h3, h4⟩ := hm _ su
      have s2 := su.tr h2
      refine ⟨0, _, hv, k_45 (m.scr su), h1, k_45 (m.scr s2), (thrown_eq (m.scr s2)).trans (congrArg some h3), fun _ => ⟨k_87 (c.scr s2), by rw [n_87 (c.scr s2)]; decide, ?_⟩, hP _ s2⟩
      rw [show Int32.toNatClampNeg 0 = 0 from rfl]
      exact h4.trans (by rw [hL_sL, if_pos ⟨rfl, rfl, rfl⟩])
    · cases hz
theorem lbv_exc {g : Int32 → Int64} {fc : Option ((Int32 × PH) ⊕ (Nat × PH))} {fm : PH → Option (Int32 × PH)} {Cd : Nat → Prop} {Cv : Nat → Option Value → Prop} {h : PH} {P : PH → Prop} (c : CSh h) (m : MSh h) {e : Nat} {code : Int32} (hf : fc = some (.inr (e, h)))
    (hd : Cd e) (hv : ∀ v, Cv e v → v = some (.int code)) (h0 : code ≠ 0) (hm : ∀ u, scr h u → ∃ y, fm u = some y ∧ scr u y.2 ∧ hI y.2 12 45 0 = code) (hP : ∀ h', scr h h' → P h') : LBodyV g fc fm Cd Cv h P := by
  refine ⟨_, hf, k_10 c, (fun z hz => by cases hz), (fun z hz => by cases hz; exact hd), ?_, ?_, ?_⟩
  · show hX h + 1 - hX h ≤ 1150; omega
  · show hV h + 6 - hV h ≤ 14000; omega
  · rintro v u (⟨z, hz, -⟩ | ⟨z, n, hz, hn, rfl, hc⟩)
    · cases hz
    · cases hz
      have su := scr_bump h hn
      obtain ⟨y, h1, h2, h3⟩ := hm _ su
      have s2 := su.tr h2
      exact ⟨code, y, hv v hc, k_45 (m.scr su), h1, k_45 (m.scr s2), (thrown_eq (m.scr s2)).trans (congrArg some h3), fun q => absurd q h0, hP _ s2⟩
theorem isIn_b45 (b : Bool) (h : PH) : fX11_isIn_b45 (bI b) h = some (.inl (bI b, h)) := by
  unfold fX11_isIn_b45
  rw [gd_t (bI_and b)]
theorem misIn_b50 (b : Bool) (h : PH) : fX12_isIn_b50 (bI b) h = some (bI b, h) := by
  unfold fX12_isIn_b50
  rw [gd_t (bI_and b)]
/-- whether a number, 0 or more, is that of a text with the word -/
def hasX (tx : TX) (x : Int32) (w : Nat) : Bool := if (100 : Int32) ≤ x then false else hasT tx x.toNatClampNeg w
theorem ls_isIn {h : PH} {P : PH → Prop} {tx : TX} {ks : List Nat} {e : Nat} {wa wb : Nat → Nat} (c : CSh h) (m : MSh h) (o : okX tx) (T2 : MT tx h) (X : IX tx ks e wa wb h) (a1 a2 a3 a4 a5 : Int32) (hP : ∀ h', scr h h' → P h') : LS_24 10 45 87 88 a1 a2 a3 a4 a5 h P := by
  show LBodyV (fun z => if z = 0 then (0 : Int64) else 1) (fX11_isIn 10 a1 a2 h) (fX12_isIn 45 a1 a2) (fun c => c = 1 ∨ c = 2) (fun c v => (c = 1 ∧ v = some (.int 1)) ∨ (c = 2 ∧ v = some (.int 2))) h P
  rcases word_or a1 with e | ⟨w, hw, rfl, e⟩
  · refine lbv_exc c m (e := 1) (code := 1) ?_ (Or.inl rfl) (fun v hv => hv.elim (fun q => q.2) (fun q => absurd q.1 (by decide))) (by decide) (fun u su => ⟨(0, sI (sI u 12 45 0 0) 12 45 0 1), ?_, (scr_thr _ 0).tr (scr_thr _ 1), (hI_sI _ _ _ _ _ _ _ _).trans (if_pos ⟨rfl, rfl, rfl⟩)⟩) hP
    · unfold fX11_isIn fX11_isIn_b0
      rw [demandWord_n e, bx_r]
    · have mu := m.scr su
      unfold fX12_isIn fX12_isIn_b49
      rw [gd_t (k_45 mu), lt_t, noWord_n (mu.scr (scr_thr u 0)) (thr0 u) e, bd_t]
      show (if ¬ (1 : Int32) = 0 then fX12_isIn_b50 (bI false) (sI (sI u 12 45 0 0) 12 45 0 1) else _) = _
      rw [if_pos (by decide), misIn_b50]
      rfl
  · by_cases h0 : a2 < 0
    · refine lbv_exc c m (e := 2) (code := 2) ?_ (Or.inr rfl) (fun v hv => hv.elim (fun q => absurd q.1 (by decide)) (fun q => q.2)) (by decide) (fun u su => ⟨(0, sI (sI u 12 45 0 0) 12 45 0 2), ?_, (scr_thr _ 0).tr (scr_thr _ 2), (hI_sI _ _ _ _ _ _ _ _).trans (if_pos ⟨rfl, rfl, rfl⟩)⟩) hP
      · unfold fX11_isIn fX11_isIn_b0 fX11_isIn_b4
        rw [demandWord_s e, bx_l, if_neg (Int32.not_le.mpr h0)]
      · have mu := m.scr su
        have m1 := mu.scr (scr_thr u 0)
        unfold fX12_isIn fX12_isIn_b23 fX12_isIn_b49
        rw [gd_t (k_45 mu), lt_t, noWord_s m1 (thr0 u) e, bd_t]
        show (if ¬ (0 : Int32) = 0 then _ else if a2 < 0 then gs (some 45) (fun a5 => gd (hK (sI u 12 45 0 0) a5 = 12) (bd (fX12_fails a5 0 2 (sI u 12 45 0 0)) (fun z8 => if ¬ z8.1 = 0 then fX12_isIn_b50 (bI false) z8.2 else _))) else _) = _
        rw [if_neg (by decide), if_pos h0, gs_t, gd_t (k_45 m1), fails_f m1 (thr0 u) (by decide), bd_t]
        show (if ¬ (1 : Int32) = 0 then fX12_isIn_b50 (bI false) (sI (sI u 12 45 0 0) 12 45 0 2) else _) = _
        rw [if_pos (by decide), misIn_b50]
        rfl
    · refine lbv_val c m (v0 := bI (hasX tx a2 w)) ?_ (fun u su => ⟨_, ?_, scr_thr u 0, thr0 u, rfl⟩) hP
      · unfold fX11_isIn fX11_isIn_b0 fX11_isIn_b4 fX11_isIn_b44
        rw [demandWord_s e, bx_l, if_pos (Int32.not_lt.mp h0), gd_t (k_10 c), r11_10_3 c, gs_t, gd_t (k_16 c), find_eq c X hw, bd_t]
        unfold hasX
        by_cases q : w ∈ ks
        · have W := ix_word X q
          rw [if_pos q, mq_st, gd_t W.2.2.1, W.2.2.2.2.2.1, gs_t, gd_t W.2.2.2.2.2.2.1]
          by_cases z : (100 : Int32) ≤ a2
          · rw [if_pos z, X9_has_out (Or.inr z), bd_t, if_pos rfl]
            exact isIn_b45 false h
          · obtain ⟨t, ht, rfl⟩ := nI_of h0
            have ht' : t < 100 := by
              apply Nat.lt_of_not_le
              intro y
              exact z ((nI_leI (a := 100) (by decide) ht).mpr y)
            rw [if_neg z, X9_has_eq W.2.2.2.2.2.2.1 W.2.2.2.2.2.2.2 ht', bd_t, nI_clamp ht]
            cases r : hasT tx t w with
            | false => rw [if_pos (show bI false = 0 from rfl)]; exact isIn_b45 false h
            | true => rw [if_neg (show ¬ bI true = 0 by decide)]; exact isIn_b45 true h
        · rw [if_neg q, mq_nt, show (if (100 : Int32) ≤ a2 then false else hasT tx a2.toNatClampNeg w) = false by rw [hasT_no o X.1 q]; split <;> rfl]
          exact isIn_b45 false h
      · have mu := m.scr su
        have m1 := mu.scr (scr_thr u 0)
        have t1 := (T2.scr su).scr (scr_thr u 0)
        unfold fX12_isIn fX12_isIn_b23 fX12_isIn_b49
        rw [gd_t (k_45 mu), lt_t, noWord_s m1 (thr0 u) e, bd_t]
        show (if ¬ (0 : Int32) = 0 then _ else if a2 < 0 then _ else gs (some 45) (fun a5 => gd (hK (sI u 12 45 0 0) a5 = 12) (bd (fX12_fails a5 1 2 (sI u 12 45 0 0)) _))) = _
        rw [if_neg (by decide), if_neg h0, gs_t, gd_t (k_45 m1), fails_t m1 (thr0 u), bd_t]
        show (if ¬ (0 : Int32) = 0 then _ else if (100 : Int32) ≤ a2 then fX12_isIn_b50 (bI false) (sI u 12 45 0 0) else gd (hK (sI u 12 45 0 0) 45 = 12) (bd (fX12_has 45 a2 (nI w) (sI u 12 45 0 0)) (fun z10 => if z10 = 0 then fX12_isIn_b50 (bI false) (sI u 12 45 0 0) else fX12_isIn_b50 (bI true) (sI u 12 45 0 0)))) = _
        rw [if_neg (by decide)]
        unfold hasX
        by_cases z : (100 : Int32) ≤ a2
        · rw [if_pos z, if_pos z, misIn_b50]
        · obtain ⟨t, ht, rfl⟩ := nI_of h0
          have ht' : t < 100 := by
            apply Nat.lt_of_not_le
            intro y
            exact z ((nI_leI (a := 100) (by decide) ht).mpr y)
          rw [if_neg z, if_neg z, gd_t (k_45 m1), mhas_eq m1 t1 o ht' (vw31 hw), bd_t, nI_clamp ht]
          cases r : hasT tx t w with
          | false => rw [if_pos (show bI false = 0 from rfl), misIn_b50]
          | true => rw [if_neg (show ¬ bI true = 0 by decide), misIn_b50]
