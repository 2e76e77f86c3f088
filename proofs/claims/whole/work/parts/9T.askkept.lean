/-! CALLS: askKept -/
theorem in5_n {x : Int32} (hx : x < 0 ∨ ¬ x < nI 6) : fX12_in x 0 5 = some 0 := inIdx_n (n := 6) (by decide) hx
theorem in5_s {p : Nat} (hp : p < 6) : fX12_in (nI p) 0 5 = some 1 := inIdx_s (n := 6) (by decide) hp
theorem keptPlace_n {x : Int32} (hx : x < 0 ∨ ¬ x < nI 6) (h : PH) : fX11_demandKeptPlace x h = some (.inr (1, h)) := by
  unfold fX11_demandKeptPlace fX11_demandKeptPlace_b0 fX11_demandKeptPlace_b10
  by_cases c : x < 0
  · rw [if_pos c]
  · rw [if_neg c, if_neg (show ¬ x < (6 : Int32) from hx.resolve_left c)]
theorem keptPlace_s {p : Nat} (hp : p < 6) (h : PH) : fX11_demandKeptPlace (nI p) h = some (.inl h) := by
  unfold fX11_demandKeptPlace fX11_demandKeptPlace_b0
  rw [if_neg (nI_pos (by omega)), if_pos (show nI p < (6 : Int32) from show nI p < nI 6 from nI_lt hp (by decide))]
theorem demandKept_n {D : Nat → Prop} {kq : Nat → Option (QT 27)} {h : PH} (c : CSh h) (K : KP D kq h) {p : Nat} (hp : p < 6) (e : kq p = none) : fX11_demandKept 10 (nI p) h = some (.inr (3, h)) := by
  unfold fX11_demandKept fX11_demandKept_b0
  rw [gd_t (k_10 c), r11_10_5 c, gs_t, gd_t ⟨k_22 c, by rw [n_22 c]; exact inbI hp (by decide)⟩, show hR h 25 22 (Int32.toNatClampNeg (nI p)) = none by rw [nI_clamp (by omega)]; exact (K.n hp e).1, mq_nt]
theorem demandKept_s {D : Nat → Prop} {kq : Nat → Option (QT 27)} {h : PH} (c : CSh h) (K : KP D kq h) {p : Nat} (hp : p < 6) {Q : QT 27} (e : kq p = some Q) : ∃ a, fX11_demandKept 10 (nI p) h = some (.inl (some a, h)) ∧ QC h D 27 Q a := by
  obtain ⟨⟨a, h1, h2⟩, h3⟩ := K.s hp e
  have r : hR h 25 22 (Int32.toNatClampNeg (nI p)) = some a := by rw [nI_clamp (by omega)]; exact h1
  refine ⟨a, ?_, h2⟩
  unfold fX11_demandKept fX11_demandKept_b0
  rw [gd_t (k_10 c), r11_10_5 c, gs_t, gd_t ⟨k_22 c, by rw [n_22 c]; exact inbI hp (by decide)⟩, r, mq_st, gs_t, gd_t ⟨k_22 c, by rw [n_22 c]; exact inbI hp (by decide)⟩, r]
theorem noQuery_n {h : PH} (m : MSh h) (h0 : hI h 12 45 0 = 0) {x : Int32} (hx : x < 0 ∨ ¬ x < nI 6) : fX12_noQuery 45 x h = some (1, sI h 12 45 0 1) := by
  unfold fX12_noQuery
  rw [in5_n hx, bd_t, gd_t (k_45 m), fails_f m h0 (by decide), bd_t]
  exact gd_t (show (1 : Int32) &&& 1 = 1 by decide)
theorem noQuery_s {h : PH} (m : MSh h) (h0 : hI h 12 45 0 = 0) {p : Nat} (hp : p < 6) : fX12_noQuery 45 (nI p) h = some (0, h) := by
  unfold fX12_noQuery
  rw [in5_s hp, bd_t, gd_t (k_45 m), fails_t m h0, bd_t]
  exact gd_t (show (0 : Int32) &&& 1 = 0 by decide)
theorem noKept_b36 (b : Bool) (h : PH) : fX12_noKept_b36 (bI b) h = some (bI b, h) := by
  unfold fX12_noKept_b36
  rw [gd_t (bI_and b)]
theorem noKept_x {h : PH} (m : MSh h) (h0 : hI h 12 45 0 = 0) {x : Int32} (hx : x < 0 ∨ ¬ x < nI 6) : fX12_noKept 45 x h = some (1, sI h 12 45 0 1) := by
  unfold fX12_noKept fX12_noKept_b31
  rw [gd_t (k_45 m), noQuery_n m h0 hx, bd_t]
  show (if ¬ (1 : Int32) = 0 then fX12_noKept_b36 (bI true) (sI h 12 45 0 1) else _) = _
  rw [if_pos (by decide), noKept_b36]
  rfl
theorem noKept_n {D : Nat → Prop} {kq : Nat → Option (QT 27)} {h : PH} (m : MSh h) (h0 : hI h 12 45 0 = 0) (K : KP D kq h) {p : Nat} (hp : p < 6) (e : kq p = none) : fX12_noKept 45 (nI p) h = some (1, sI h 12 45 0 2) := by
  have r : hI h 20 69 (Int32.toNatClampNeg (nI p)) = -1 := by rw [nI_clamp (by omega)]; exact (K.n hp e).2
  unfold fX12_noKept fX12_noKept_b24 fX12_noKept_b31
  rw [gd_t (k_45 m), noQuery_s m h0 hp, bd_t]
  show (if ¬ (0 : Int32) = 0 then _ else gd (hK h 45 = 12) (gs (hR h 12 45 34) (fun a5 => gd (hK h a5 = 20 ∧ inb (nI p) (hN h a5)) (if (hI h 20 a5 (Int32.toNatClampNeg (nI p))) = (-1 : Int32) then gs (some 45) (fun a9 => gd (hK h a9 = 12) (bd (fX12_fails a9 0 2 h) (fun z12 => if z12.1 = 0 then fX12_noKept_b36 0 z12.2 else fX12_noKept_b36 1 z12.2))) else _)))) = _
  rw [if_neg (by decide), gd_t (k_45 m), r12_45_34 m, gs_t, gd_t ⟨k_69 m, by rw [n_69 m]; exact inbI (by omega) (by decide)⟩, r, if_pos rfl, gs_t, gd_t (k_45 m), fails_f m h0 (by decide), bd_t]
  show (if (1 : Int32) = 0 then _ else fX12_noKept_b36 (bI true) (sI h 12 45 0 2)) = _
  rw [if_neg (by decide), noKept_b36]
  rfl
theorem noKept_s {D : Nat → Prop} {kq : Nat → Option (QT 27)} {h : PH} (m : MSh h) (h0 : hI h 12 45 0 = 0) (K : KP D kq h) {p : Nat} (hp : p < 6) {Q : QT 27} (e : kq p = some Q) : fX12_noKept 45 (nI p) h = some (0, h) := by
  have B := (K.s hp e).2
  have r : hI h 20 69 (Int32.toNatClampNeg (nI p)) = nI (sz 27 Q - 1) := by rw [nI_clamp (by omega)]; exact B.2.1
  have b := B.2.2.1
  unfold fX12_noKept fX12_noKept_b24
  rw [gd_t (k_45 m), noQuery_s m h0 hp, bd_t]
  show (if ¬ (0 : Int32) = 0 then _ else gd (hK h 45 = 12) (gs (hR h 12 45 34) (fun a5 => gd (hK h a5 = 20 ∧ inb (nI p) (hN h a5)) (if (hI h 20 a5 (Int32.toNatClampNeg (nI p))) = (-1 : Int32) then _ else gs (some 45) (fun a9 => gd (hK h a9 = 12) (bd (fX12_fails a9 1 2 h) (fun z12 => if z12.1 = 0 then fX12_noKept_b36 0 z12.2 else fX12_noKept_b31 z12.2))))))) = _
  rw [if_neg (by decide), gd_t (k_45 m), r12_45_34 m, gs_t, gd_t ⟨k_69 m, by rw [n_69 m]; exact inbI (by omega) (by decide)⟩, r, if_neg (nI_nm1 (by omega)), gs_t, gd_t (k_45 m), fails_t m h0, bd_t]
  show (if (0 : Int32) = 0 then fX12_noKept_b36 (bI false) h else _) = _
  rw [if_pos rfl, noKept_b36]
  rfl
def isFd (c a k : Nat) : Bool := isFC c a k || isFM c a k
theorem fd_1 {c a k : Nat} (e : isFC c a k = true) : isFd c a k = true := by unfold isFd; rw [e]; rfl
theorem ak_F {h h' : PH} (s : onlyI isAk h h') : scrF isFd h h' := ⟨fun c a k hs hf => s.1 c a k (by
  cases z : isAk c a k with
  | false => rfl
  | true =>
    unfold isAk at z
    rw [Bool.or_eq_true, Bool.or_eq_true] at z
    unfold isFd at hf
    rcases z with (z | z) | z
    · rw [z, Bool.or_true] at hf; cases hf
    · rw [isHo_scr z] at hs; cases hs
    · rw [isTu_scr z] at hs; cases hs), s.2.1, fun c a k _ => by rw [s.2.2.1], s.2.2.2.1, s.2.2.2.2.1, Nat.le_of_eq s.2.2.2.2.2.1.symm⟩
theorem FC.scrM {n : Nat} {f r s : Nat → Int32} {h h' : PH} (T : FC n f r s h) (q : ∀ c a k, isFC c a k = true → hI h' c a k = hI h c a k) : FC n f r s h' := ⟨(q 2 34 3 rfl).trans T.1, fun i hi => by
  rw [q 20 35 i rfl, q 20 36 i rfl, q 20 37 i rfl]
  exact T.2 i hi⟩
theorem FC_scr {c a k : Nat} (e : isFC c a k = true) : isScr c a k = false ∧ isAk c a k = false := by
  unfold isFC at e
  rw [Bool.or_eq_true, Bool.and_eq_true, Bool.and_eq_true, Bool.and_eq_true, Bool.or_eq_true, Bool.or_eq_true, beq_iff_eq, beq_iff_eq, beq_iff_eq, beq_iff_eq, beq_iff_eq, beq_iff_eq, beq_iff_eq] at e
  rcases e with ⟨⟨rfl, rfl⟩, rfl⟩ | ⟨rfl, (rfl | rfl) | rfl⟩
  · exact ⟨rfl, rfl⟩
  · exact ⟨rfl, rfl⟩
  · exact ⟨rfl, rfl⟩
  · exact ⟨rfl, rfl⟩
theorem FDn.mk' {n : Nat} {f r s : Nat → Int32} {h : PH} (b : n ≤ 100) (C : FC n f r s h) (M : FM n f r s h) : FDn n f r s h := ⟨b, C.1, M.1, fun i hi => ⟨(C.2 i hi).1, (M.2 i hi).1, (C.2 i hi).2.1, (M.2 i hi).2.1, (C.2 i hi).2.2, (M.2 i hi).2.2⟩⟩
theorem ls_askKept {h : PH} {P : PH → Prop} {tx : TX} {D : Nat → Prop} {kq : Nat → Option (QT 27)} {n0 : Nat} {f0 r0 s0 : Nat → Int32} (c : CSh h) (m : MSh h) (o : okX tx) (X : CB tx h) (T2 : MT tx h) (K : KP D kq h) (Z : FDn n0 f0 r0 s0 h) (a1 a2 a3 a4 a5 : Int32) (hP : ∀ h' n f r s, scrF isFd h h' → FDn n f r s h' → P h') : LS_34 10 45 87 88 a1 a2 a3 a4 a5 h P := by
  show LBody (fX11_askKept 10 a1 h) (fX12_askKept 45 a1) (fun c => c = 1 ∨ c = 3) (fun c v => (c = 1 ∧ v = some (.int 1)) ∨ (c = 3 ∧ v = some (.int 2))) h P
  have b := X.1
  have hPs : ∀ h', scr h h' → P h' := fun h' s => hP h' _ _ _ _ s.F (Z.scr s)
  rcases idx_or (n := 6) (by decide) a1 with hx | ⟨p, hp, rfl⟩
  · refine lb_exc c m (e := 1) (code := 1) ?_ (Or.inl rfl) (fun v hv => hv.elim (fun q => q.2) (fun q => absurd q.1 (by decide))) (by decide) (fun u su => ⟨(0, sI (sI u 12 45 0 0) 12 45 0 1), ?_, (scr_thr _ 0).tr (scr_thr _ 1), (hI_sI _ _ _ _ _ _ _ _).trans (if_pos ⟨rfl, rfl, rfl⟩)⟩) hPs
    · unfold fX11_askKept fX11_askKept_b0
      rw [keptPlace_n hx, bx_r]
    · have mu := m.scr su
      unfold fX12_askKept fX12_askKept_b22
      rw [gd_t (k_45 mu), lt_t, noKept_x (mu.scr (scr_thr u 0)) (thr0 u) hx, bd_t]
      exact if_neg (show ¬ (1 : Int32) = 0 by decide)
  · cases e : kq p with
    | none =>
      refine lb_exc c m (e := 3) (code := 2) ?_ (Or.inr rfl) (fun v hv => hv.elim (fun q => absurd q.1 (by decide)) (fun q => q.2)) (by decide) (fun u su => ⟨(0, sI (sI u 12 45 0 0) 12 45 0 2), ?_, (scr_thr _ 0).tr (scr_thr _ 2), (hI_sI _ _ _ _ _ _ _ _).trans (if_pos ⟨rfl, rfl, rfl⟩)⟩) hPs
      · unfold fX11_askKept fX11_askKept_b0 fX11_askKept_b4
        rw [keptPlace_s hp, bx_l, gd_t (k_10 c), demandKept_n c K hp e, bx_r]
      · have mu := m.scr su
        have st := su.tr (scr_thr u 0)
        unfold fX12_askKept fX12_askKept_b22
        rw [gd_t (k_45 mu), lt_t, noKept_n (mu.scr (scr_thr u 0)) (thr0 u) (K.scx b st.x) hp e, bd_t]
        exact if_neg (show ¬ (1 : Int32) = 0 by decide)
    | some Q =>
      obtain ⟨a, d1, d2⟩ := demandKept_s c K hp e
      have B := (K.s hp e).2
      obtain ⟨h1, f1, f2, f3⟩ := fill_eq c o X.CT (fun x dx => (K.1 x dx).1) d2 B.2.2.2.2 (by decide)
      have c1 := c.oI f3
      have m1 := m.oI f3
      have v0 := f2.1
      refine lb_gen (h1 := h1) (v0 := nI (fnd tx 27 Q 100).1) c ?_ c1 (by rw [f3.2.2.2.2.2.1]; omega) (by rw [f3.2.2.2.2.2.2]; omega) (fun u su _ => ?_)
      · unfold fX11_askKept fX11_askKept_b0 fX11_askKept_b4 fX11_askKept_b13
        rw [keptPlace_s hp, bx_l, gd_t (k_10 c), d1, bx_l, r11_10_8 c]
        show gd (hK h 10 = 11) (gs (some 34) (fun a7 => gd (hK h a7 = 2) (bd (fX2_fill a7 (some a) (hR h 11 10 2) h) (fun z10 => gd (hK z10 10 = 11) (gs (hR z10 11 10 8) (fun a12 => gd (hK z10 a12 = 2) (some (Sum.inl (((hI z10 2 a12 3), z10)) : (Int32 × PH) ⊕ (Nat × PH))))))))) = _
        rw [gd_t (k_10 c), gs_t, gd_t (k_34 c), r11_10_2 c, f1, bd_t, gd_t (k_10 c1), r11_10_8 c1, gs_t, gd_t (k_34 c1), v0]
      · have mu := m1.scr su
        have s0 := scr_thr u 0
        have mu0 := mu.scr s0
        have sc : chg (fun c a k => isScr c a k = true ∨ isFC c a k = true) (fun _ _ _ => False) (fun a => a = 87) h (sI u 12 45 0 0) := (chg_I f3 (fun _ _ _ z => Or.inr z)).tr ((su.tr s0).chg (fun _ _ _ z => Or.inl z) rfl)
        have nf : ∀ c x k, isFC c x k = true → x < 89 := fun c x k z => by
          apply Nat.lt_of_not_le
          intro q
          have e : ∀ m, m < 89 → (x == m) = false := fun m hm => by simp; omega
          simp [isFC, e] at z
        have ns : ∀ c x k, isFC c x k = true → ∀ y, 60 ≤ y → y ≤ 69 → x ≠ y := fun c x k z y h1 h2 q => by
          subst q
          have e : ∀ m, m < 60 → (x == m) = false := fun m hm => by simp; omega
          simp [isFC, e] at z
        have Ku : KP D kq (sI u 12 45 0 0) := K.chg b sc (fun c y k dy z => by
          rcases z with z | z
          · rw [isScr_89 (K.1 y dy).1] at z; cases z
          · have := nf _ _ _ z; have := (K.1 y dy).1; omega) (fun _ _ _ _ z => z) (fun _ _ z => z) (fun a k h1 h2 h3 z => by
          rcases z with z | z
          · rw [scr60 a h1 h2 k h3] at z; cases z
          · exact ns _ _ _ z a h1 (by omega) rfl) (fun k hk z => by
          rcases z with z | z
          · rw [scr66 hk] at z; cases z
          · exact ns _ _ _ z 66 (by decide) (by decide) rfl) (fun p hp => ⟨fun z => (by
          rcases z with z | z
          · rw [(scr67 hp).1] at z; cases z
          · exact ns _ _ _ z 67 (by decide) (by decide) rfl), fun z => (by
          rcases z with z | z
          · rw [(scr67 hp).2] at z; cases z
          · exact ns _ _ _ z 69 (by decide) (by decide) rfl)⟩)
        have Xu : MT tx (sI u 12 45 0 0) := by
          have t1 : MT tx h1 := fun t ht => by
            have e1 : ∀ k, hI h1 21 47 k = hI h 21 47 k := fun k => f3.1 21 47 k rfl
            have e2 : ∀ k, hI h1 20 49 k = hI h 20 49 k := fun k => f3.1 20 49 k rfl
            have e3 : ∀ k, hI h1 20 48 k = hI h 20 48 k := fun k => f3.1 20 48 k rfl
            cases z : tx t with
            | none => show hI h1 21 47 t = 0; rw [e1]; exact T2.n ht z
            | some ws =>
              obtain ⟨y1, y2, y3⟩ := T2.s ht z
              exact ⟨by rw [e1]; exact y1, by rw [e2]; exact y2, fun i hi => by rw [e3]; exact y3 i hi⟩
          exact (t1.scr su).scr s0
        obtain ⟨w, g1, g2, g3⟩ := asks_eq mu0 o Xu (q := p) (by omega) (Ku.s hp e).2
        have sw : scrF isFd h w := (f3.F (fun _ _ _ => fd_1)).tr ((su.tr s0).F.tr (ak_F g3))
        refine ⟨w, k_45 mu, ?_, (c1.scr (su.tr s0)).oI g3, mu0.oI g3, (g3.1 12 45 0 rfl).trans (thr0 u), by rw [g3.2.2.1]; rfl, hP w _ _ _ _ sw (FDn.mk' (fnd_le tx 27 Q 100) (f2.scrM (fun c a k z => ?_)) g2)⟩
        · unfold fX12_askKept fX12_askKept_b22
          rw [gd_t (k_45 mu), lt_t, noKept_s mu0 (thr0 u) Ku hp e, bd_t]
          show (if (0 : Int32) = 0 then gd (hK (sI u 12 45 0 0) 45 = 12) (bd (fX12_asks 45 (nI p) (sI u 12 45 0 0)) (fun z5 => some (z5.1, z5.2))) else _) = _
          rw [if_pos rfl, gd_t (k_45 mu0), g1, bd_t]
        · exact (g3.1 c a k (FC_scr z).2).trans ((su.tr s0).1 c a k (FC_scr z).1)
