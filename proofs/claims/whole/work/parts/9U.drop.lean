/-! drop -/
theorem lbv_gen {g : Int32 → Int64} {fc : Option ((Int32 × PH) ⊕ (Nat × PH))} {fm : PH → Option (Int32 × PH)} {Cd : Nat → Prop} {Cv : Nat → Option Value → Prop} {h h1 : PH} {P : PH → Prop} (c : CSh h) {v0 : Int32} (hf : fc = some (.inl (v0, h1))) (c1 : CSh h1)
    (hx : hX h1 - hX h ≤ 1150) (hv : hV h1 - hV h ≤ 14000)
    (hm : ∀ u, scr h1 u → hX u = hX h1 → ∃ w, hK u 45 = 12 ∧ fm u = some (v0, w) ∧ CSh w ∧ MSh w ∧ hI w 12 45 0 = 0 ∧ hL w 23 87 0 = hL u 23 87 0 ∧ P w) : LBodyV g fc fm Cd Cv h P := by
  refine ⟨_, hf, k_10 c, (fun z hz => by cases hz; exact ⟨k_87 c1, by rw [n_87 c1]; decide⟩), (fun z hz => by cases hz), hx, hv, ?_⟩
  rintro v u (⟨z, hz, hv, rfl⟩ | ⟨z, n, hz, -⟩)
  · cases hz
    have su := scr_out h1 (Int32.toNatClampNeg 0) (g v0)
    obtain ⟨w, h0, e1, h2, h3, h4, h5, h6⟩ := hm _ su rfl
    refine ⟨0, _, hv, h0, e1, k_45 h3, (thrown_eq h3).trans (congrArg some h4), fun _ => ⟨k_87 h2, by rw [n_87 h2]; decide, ?_⟩, h6⟩
    rw [show Int32.toNatClampNeg 0 = 0 from rfl]
    exact h5.trans (by rw [hL_sL, if_pos ⟨rfl, rfl, rfl⟩])
  · cases hz
theorem ls_drop {h : PH} {P : PH → Prop} {D : Nat → Prop} {kq : Nat → Option (QT 27)} (c : CSh h) (m : MSh h) (b : 89 ≤ hX h) (K : KP D kq h) (a1 a2 a3 a4 a5 : Int32) (hP0 : ∀ h', scr h h' → P h') (hP : ∀ h' p, p < 6 → chg (fun c a k => isScr c a k = true ∨ (c = 20 ∧ a = 69 ∧ k = p)) (fun c a k => c = 25 ∧ a = 22 ∧ k = p) (fun a => a = 87) h h' → KP D (fun i => if i = p then none else kq i) h' → P h') : LS_40 10 45 87 88 a1 a2 a3 a4 a5 h P := by
  show LBodyV (fun z => if z = 0 then (0 : Int64) else 1) (fX11_drop 10 a1 h) (fX12_drop 45 a1) (fun c => c = 1) (fun c v => c = 1 ∧ v = some (.int 1)) h P
  rcases idx_or (n := 6) (by decide) a1 with hx | ⟨p, hp, rfl⟩
  · refine lbv_exc c m (e := 1) (code := 1) ?_ rfl (fun v hv => hv.2) (by decide) (fun u su => ⟨(0, sI (sI u 12 45 0 0) 12 45 0 1), ?_, (scr_thr _ 0).tr (scr_thr _ 1), (hI_sI _ _ _ _ _ _ _ _).trans (if_pos ⟨rfl, rfl, rfl⟩)⟩) hP0
    · unfold fX11_drop fX11_drop_b0
      rw [keptPlace_n hx, bx_r]
    · have mu := m.scr su
      unfold fX12_drop
      rw [gd_t (k_45 mu), lt_t, noQuery_n (mu.scr (scr_thr u 0)) (thr0 u) hx, bd_t]
      exact if_neg (show ¬ (1 : Int32) = 0 by decide)
  · have cp : Int32.toNatClampNeg (nI p) = p := nI_clamp (by omega)
    have hin : hK h 22 = 25 ∧ inb (nI p) (hN h 22) := ⟨k_22 c, by rw [n_22 c]; exact inbI hp (by decide)⟩
    have sR1 : chg (fun c a k => isScr c a k = true ∨ (c = 20 ∧ a = 69 ∧ k = p)) (fun c a k => c = 25 ∧ a = 22 ∧ k = p) (fun a => a = 87) h (sR h 25 22 p none) := (chg.rf _ _ _ h).aR none (fun _ => ⟨rfl, rfl, rfl⟩)
    have c1 : CSh (sR h 25 22 p none) := c.chg b sR1 (fun q hq z => by
      have : ∀ q ∈ sCR, ¬ (q.1 = 25) := by decide
      exact this q hq z.1)
    have m1 : MSh (sR h 25 22 p none) := m.chg b sR1 (fun q hq z => by
      have : ∀ q ∈ sMR, ¬ (q.1 = 25) := by decide
      exact this q hq z.1)
    have fb : ∀ y : Bool, fX11_drop_b18 10 (nI p) (bI y) h = some (.inl (bI y, sR h 25 22 p none)) := fun y => by
      unfold fX11_drop_b18
      rw [gd_t (k_10 c), r11_10_5 c, gs_t, gd_t hin, gd_t (show okq h 4 none = true from rfl), lt_t, cp, gd_t (bI_and y)]
    have fc0 : fX11_drop 10 (nI p) h = some (.inl (bI (kq p).isSome, sR h 25 22 p none)) := by
      unfold fX11_drop fX11_drop_b0 fX11_drop_b4
      rw [keptPlace_s hp, bx_l, gd_t (k_10 c), r11_10_5 c, gs_t, gd_t hin, cp]
      cases e : kq p with
      | none => rw [(K.n hp e).1, mq_nt]; exact fb false
      | some Q =>
        obtain ⟨⟨a, h1, h2⟩, h3⟩ := K.s hp e
        rw [h1, mq_st]
        exact fb true
    refine lbv_gen (h1 := sR h 25 22 p none) c fc0 c1 (by rw [hX_sR]; omega) (by rw [hV_sR]; omega) (fun u su _ => ?_)
    have mu := m1.scr su
    have s0 := scr_thr u 0
    have mu0 := mu.scr s0
    have sx := sR1.tr ((su.tr s0).chg (fun _ _ _ z => Or.inl z) rfl)
    have i69 : hK (sI u 12 45 0 0) 69 = 20 ∧ inb (nI p) (hN (sI u 12 45 0 0) 69) := ⟨k_69 mu0, by rw [n_69 mu0]; exact inbI (by omega) (by decide)⟩
    have r69 : hI (sI u 12 45 0 0) 20 69 p = hI h 20 69 p := ((su.tr s0).1 20 69 p (scr67 hp).2)
    have sw := sx.aI (c := 20) (a := 69) (k := p) (-1) (fun _ => Or.inr ⟨rfl, rfl, rfl⟩)
    have o1 : onlyI (fun c a k => c == 20 && a == 69) (sI u 12 45 0 0) (sI (sI u 12 45 0 0) 20 69 p (-1)) := onlyI_sI _ _ rfl
    have fb2 : ∀ y : Bool, fX12_drop_b30 45 (nI p) (bI y) (sI u 12 45 0 0) = some (bI y, sI (sI u 12 45 0 0) 20 69 p (-1)) := fun y => by
      unfold fX12_drop_b30
      rw [gd_t (k_45 mu0), r12_45_34 mu0, gs_t, gd_t i69, lt_t, cp, gd_t (bI_and y)]
    refine ⟨sI (sI u 12 45 0 0) 20 69 p (-1), k_45 mu, ?_, ((c1.scr su).scr s0).oI o1, mu0.oI o1, (o1.1 12 45 0 rfl).trans (thr0 u), rfl, hP _ p hp sw ?_⟩
    · unfold fX12_drop
      rw [gd_t (k_45 mu), lt_t, noQuery_s mu0 (thr0 u) hp, bd_t]
      show (if (0 : Int32) = 0 then gd (hK (sI u 12 45 0 0) 45 = 12) (gs (hR (sI u 12 45 0 0) 12 45 34) (fun a5 => gd (hK (sI u 12 45 0 0) a5 = 20 ∧ inb (nI p) (hN (sI u 12 45 0 0) a5)) (if (hI (sI u 12 45 0 0) 20 a5 (Int32.toNatClampNeg (nI p))) = (-1 : Int32) then fX12_drop_b30 45 (nI p) 0 (sI u 12 45 0 0) else fX12_drop_b30 45 (nI p) 1 (sI u 12 45 0 0)))) else _) = _
      rw [if_pos rfl, gd_t (k_45 mu0), r12_45_34 mu0, gs_t, gd_t i69, cp, r69]
      cases e : kq p with
      | none => rw [(K.n hp e).2, if_pos rfl]; exact fb2 false
      | some Q =>
        have B := (K.s hp e).2
        have := B.2.2.1
        rw [B.2.1, if_neg (nI_nm1 (by omega))]
        exact fb2 true
    · have e60 : ∀ a k, a ≠ 69 → hI (sI (sI u 12 45 0 0) 20 69 p (-1)) 20 a k = hI (sI u 12 45 0 0) 20 a k := fun a k ha => by
        rw [hI_sI, if_neg (fun z => ha z.2.1)]
      have q0 := su.tr s0
      refine ⟨fun x dx => ⟨(K.1 x dx).1, Nat.lt_of_lt_of_le (K.1 x dx).2 sw.1⟩, fun i hi => ?_⟩
      have rr : ∀ k, hR (sI (sI u 12 45 0 0) 20 69 p (-1)) 25 22 k = if k = p then none else hR h 25 22 k := fun k => by
        rw [hR_sI, q0.2.1, hR_sR]
        by_cases d : k = p
        · rw [if_pos ⟨rfl, rfl, d⟩, if_pos d]
        · rw [if_neg (fun z => d z.2.2), if_neg d]
      by_cases d : i = p
      · rw [show (fun i => if i = p then none else kq i) i = none from if_pos d]
        refine ⟨by rw [rr, if_pos d], ?_⟩
        rw [hI_sI, if_pos ⟨rfl, rfl, d⟩]
      · rw [show (fun i => if i = p then none else kq i) i = kq i from if_neg d]
        have sq : sameQ i h (sI (sI u 12 45 0 0) 20 69 p (-1)) := ⟨fun a k h1 h2 h3 => (e60 a _ (by omega)).trans (q0.1 20 a _ (scr60 a h1 h2 _ (by omega))), fun k hk => (e60 66 _ (by decide)).trans (q0.1 20 66 _ (scr66 (by omega))), (e60 67 _ (by decide)).trans (q0.1 20 67 _ (scr67 hi).1), by
          rw [hI_sI, if_neg (fun z => d z.2.2)]
          exact q0.1 20 69 i (scr67 hi).2⟩
        have sd : ∀ x, D x → same h (sI (sI u 12 45 0 0) 20 69 p (-1)) x := fun x dx => by
          have hx := K.1 x dx
          refine ⟨fun c k => sw.2.1 c x k hx.2 (fun z => ?_), fun c k => sw.2.2.1 c x k hx.2 (fun z => ?_), (sw.2.2.2.2 x hx.2).1, (sw.2.2.2.2 x hx.2).2⟩
          · rcases z with z | z
            · rw [isScr_89 hx.1] at z; cases z
            · omega
          · omega
        cases e : kq i with
        | none => exact ⟨by rw [rr, if_neg d]; exact (K.n hi e).1, sq.2.2.2.trans (K.n hi e).2⟩
        | some Q =>
          obtain ⟨⟨a, h1, h2⟩, h3⟩ := K.s hi e
          exact ⟨⟨a, by rw [rr, if_neg d]; exact h1, QC.mono (fun x dx => ⟨dx, sd x dx⟩) 27 Q a h2⟩, h3.ofq sq⟩
