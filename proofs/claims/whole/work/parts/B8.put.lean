/-! PUTTING A WORD -/
theorem put_l {w1 : PH} (m : MSh w1) {tx : TX} (o : okX tx) (X : MT tx w1) {t : Nat} (ht : t < 100) {ws : List Nat} (q : tx t = some ws) {p w : Nat} (hp : p ≤ ws.length) (l : ws.length < 40) : ∃ w2, onlyI isTw w1 w2 ∧ MT (updX tx t (some (insAt ws p w))) w2 ∧ ∀ w3, fX12_tells 45 (nI t) w2 = some w3 → MSh w3 → hI w3 20 49 t = nI (ws.length + 1) → fX12_putWord_l83 45 (nI t) (nI p) (nI w) (nI ws.length) w1 = some (nI (ws.length + 1), w3) := by
  have ct : Int32.toNatClampNeg (nI t) = t := nI_clamp (by omega)
  have lp : ∀ f k : Nat, ∀ g : PH, p + f = k → k ≤ ws.length → onlyI isTw w1 g → (∀ i, hI g 21 47 i = hI w1 21 47 i) → (∀ i, hI g 20 49 i = hI w1 20 49 i) → (∀ q, hI g 20 48 q = if 40 * t + k < q ∧ q ≤ 40 * t + ws.length then hI w1 20 48 (q - 1) else hI w1 20 48 q) → ∃ w2, onlyI isTw w1 w2 ∧ MT (updX tx t (some (insAt ws p w))) w2 ∧ ∀ w3, fX12_tells 45 (nI t) w2 = some w3 → MSh w3 → hI w3 20 49 t = nI (ws.length + 1) → fX12_putWord_l83 45 (nI t) (nI p) (nI w) (nI k) g = some (nI (ws.length + 1), w3) := by
    intro f
    induction f with
    | zero =>
      intro k g hk hkl og r1 r2 r3
      have hk : k = p := by omega
      subst hk
      have mg := m.oI og
      have ck : Int32.toNatClampNeg (nI (40 * t + k)) = 40 * t + k := nI_clamp (by omega)
      have o1 : onlyI isTw g (sI g 20 48 (40 * t + k) (nI w)) := onlyI_sI _ _ (tw48 _)
      have m1 := mg.oI o1
      have e49 : hI (sI g 20 48 (40 * t + k) (nI w)) 20 49 t = nI ws.length := (rdN _ _ (by decide)).trans ((r2 t).trans (X.s ht q).2.1)
      have o2 : onlyI isTw g (sI (sI g 20 48 (40 * t + k) (nI w)) 20 49 t (nI (ws.length + 1))) := o1.tr (onlyI_sI _ _ (tw49 _))
      refine ⟨sI (sI g 20 48 (40 * t + k) (nI w)) 20 49 t (nI (ws.length + 1)), og.tr o2, mput o X ht q hp (fun i => by rw [n21 _ _ (by decide), n21 _ _ (by decide)]; exact r1 i) (fun i => by rw [rdA, rdN _ _ (by decide), r2]) (fun s => by
        rw [rdN _ _ (by decide), rdA, r3]) l, fun w3 t3 m3 e3 => wh_done ?_⟩
      show fX12_putWord_c83 45 (nI t) (nI k) (nI w) (nI k) g = _
      unfold fX12_putWord_c83
      rw [if_pos (Int32.le_refl _), gd_t (k_45 mg), r12_45_5 mg, gs_t, mul40, gd_t ⟨k_48 mg, by rw [n_48 mg]; exact inbI (by omega) (by decide)⟩, lt_t]
      simp only [ck]
      rw [r12_45_6 m1, gs_t, gd_t ⟨k_49 m1, by rw [n_49 m1]; exact inbI ht (by decide)⟩, gd_t (by rw [n_49 m1]; exact inbI ht (by decide)), lt_t]
      simp only [ct]
      rw [e49, nI_1, t3, bd_t, gd_t (k_45 m3), r12_45_6 m3, gs_t, gd_t ⟨k_49 m3, by rw [n_49 m3]; exact inbI ht (by decide)⟩, e3, mr_t]
    | succ f ih =>
      intro k g hk hkl og r1 r2 r3
      obtain ⟨j, rfl⟩ : ∃ j, k = j + 1 := ⟨k - 1, by omega⟩
      have mg := m.oI og
      have ck : Int32.toNatClampNeg (nI (40 * t + (j + 1))) = 40 * t + (j + 1) := nI_clamp (by omega)
      have ck1 : Int32.toNatClampNeg (nI (40 * t + j)) = 40 * t + j := nI_clamp (by omega)
      have e48 : hI g 20 48 (40 * t + j) = hI w1 20 48 (40 * t + j) := by rw [r3, if_neg (by omega)]
      obtain ⟨w2, f1, f2, f3⟩ := ih j (sI g 20 48 (40 * t + (j + 1)) (hI w1 20 48 (40 * t + j))) (by omega) (by omega) (og.tr (onlyI_sI _ _ (tw48 _))) (fun i => (n21 _ _ (by decide)).trans (r1 i)) (fun i => (rdN _ _ (by decide)).trans (r2 i)) (fun s => by
        rw [rdA, r3 s]
        by_cases d : s = 40 * t + (j + 1)
        · rw [if_pos d, if_pos (by omega), d]; rfl
        · rw [if_neg d]
          by_cases z : 40 * t + (j + 1) < s ∧ s ≤ 40 * t + ws.length
          · rw [if_pos z, if_pos (by omega)]
          · rw [if_neg z, if_neg (by omega)])
      refine ⟨w2, f1, f2, fun w3 t3 m3 e3 => wh_step (t := (nI j, sI g 20 48 (40 * t + (j + 1)) (hI w1 20 48 (40 * t + j)))) ?_ (f3 w3 t3 m3 e3)⟩
      show fX12_putWord_c83 45 (nI t) (nI p) (nI w) (nI (j + 1)) g = _
      have pj : nI (40 * t + (j + 1)) - 1 = nI (40 * t + j) := by rw [show (1 : Int32) = nI 1 from rfl, pk_sub (by omega)]; rfl
      unfold fX12_putWord_c83
      rw [if_neg (nI_ge (by omega) (by omega)), gd_t (k_45 mg), r12_45_5 mg, gs_t, mul40, pj, gd_t ⟨k_48 mg, by rw [n_48 mg]; exact inbI (by omega) (by decide)⟩, gd_t (by rw [n_48 mg]; exact inbI (by omega) (by decide)), lt_t]
      simp only [ck, ck1]
      rw [e48, pk_m1]
  exact lp (ws.length - p) ws.length w1 (by omega) (Nat.le_refl _) (onlyI.rf _ _) (fun _ => rfl) (fun _ => rfl) (fun s => by rw [if_neg (by omega)])
theorem upto_or {n : Nat} (hn : n < 100) (x : Int32) : ((x < 0 ∨ ¬ x < 0 ∧ ¬ x ≤ nI n) ∧ fX12_in x 0 (nI n) = some (bI false)) ∨ ∃ i, i ≤ n ∧ x = nI i ∧ fX12_in x 0 (nI n) = some (bI true) := by
  by_cases h1 : x < 0
  · left
    refine ⟨Or.inl h1, ?_⟩
    unfold fX12_in fX12_in_b14 fX12_in_b15
    rw [if_pos h1]
    rfl
  · obtain ⟨i, hi, rfl⟩ := nI_of h1
    by_cases h2 : i ≤ n
    · right
      refine ⟨i, h2, rfl, ?_⟩
      rw [show (0 : Int32) = nI 0 from rfl, inN (by omega) (by decide) (by omega), decide_eq_true ⟨Nat.zero_le _, h2⟩]
    · left
      refine ⟨Or.inr ⟨h1, by rw [nI_leI (by omega) (by omega)]; exact h2⟩, ?_⟩
      rw [show (0 : Int32) = nI 0 from rfl, inN (by omega) (by decide) (by omega), decide_eq_false (fun z => h2 z.2)]
theorem ls_putWord {h : PH} {P : PH → Prop} {tx : TX} {bs : List Nat} {er : Int32} {ks : List Nat} {e : Nat} {wa wb : Nat → Nat} {D : Nat → Prop} {kq : Nat → Option (QT 27)} {E : EVT} {R : PST} (I : INV1 tx bs er ks e wa wb D kq E R h) (a1 a2 a3 a4 a5 : Int32) (hP : ∀ h', INVX D kq h' → rest h h' → P h') : LS_6 10 45 87 88 a1 a2 a3 a4 a5 h P := by
  obtain ⟨C, M, T⟩ := id I
  obtain ⟨c, o, B, X, K, Y, V, W, n⟩ := id C
  have b := B.1
  have m := M.1
  have fail : ∀ h', scr h h' → P h' := fun h' s => hP h' (I.scr s).X (mc_rest (scr_mc s))
  show LBody (fX11_putWord 10 a1 a2 a3 h) (fX12_putWord 45 a1 a2 a3) (fun c => c = 2 ∨ c = 1 ∨ c = 0) (fun c v => (c = 2 ∧ v = some (.int 1)) ∨ (c = 1 ∧ v = some (.int 2)) ∨ (c = 0 ∧ v = some (.int 3))) h P
  have bad : ∀ (ec : Nat) (code : Int32), (ec = 2 ∧ code = 1) ∨ (ec = 1 ∧ code = 2) ∨ (ec = 0 ∧ code = 3) → fX11_putWord 10 a1 a2 a3 h = some (.inr (ec, h)) → (∀ u, scr h u → fX12_putWord 45 a1 a2 a3 u = some (0, sI (sI u 12 45 0 0) 12 45 0 code)) → LBody (fX11_putWord 10 a1 a2 a3 h) (fX12_putWord 45 a1 a2 a3) (fun c => c = 2 ∨ c = 1 ∨ c = 0) (fun c v => (c = 2 ∧ v = some (.int 1)) ∨ (c = 1 ∧ v = some (.int 2)) ∨ (c = 0 ∧ v = some (.int 3))) h P := fun ec code hc f fm => by
    refine lb_exc c m (e := ec) (code := code) f (by omega) (fun v hv => ?_) (by rcases hc with z | z | z <;> rw [z.2] <;> decide) (fun u su => ⟨(0, sI (sI u 12 45 0 0) 12 45 0 code), fm u su, (scr_thr u 0).tr (scr_thr _ code), (hI_sI _ _ _ _ _ _ _ _).trans (if_pos ⟨rfl, rfl, rfl⟩)⟩) fail
    rcases hc with ⟨rfl, rfl⟩ | ⟨rfl, rfl⟩ | ⟨rfl, rfl⟩ <;> rcases hv with hv | hv | hv <;> first | exact hv.2 | exact absurd hv.1 (by decide)
  rcases demandB c B a1 with ⟨e0, f⟩ | ⟨t, ws, a, b', ht, rfl, q, e0, la, lb, ha, hb, TA, f⟩
  · refine bad 2 1 (Or.inl ⟨rfl, rfl⟩) ?_ (fun u su => ?_)
    · unfold fX11_putWord fX11_putWord_b0
      rw [gd_t (k_10 c), f, bx_r]
    · have mu := m.scr su
      have s0 := scr_thr u 0
      unfold fX12_putWord fX12_putWord_b68
      rw [gd_t (k_45 mu), lt_t, noText_n (mu.scr s0) (thr0 u) ((M.2.1.scr su).scr s0) e0, bd_t]
      exact if_pos (show ¬ (1 : Int32) = 0 by decide)
  · have ok := (o t ws q).2
    have o40 := ok.1
    have ct : Int32.toNatClampNeg (nI t) = t := nI_clamp (by omega)
    -- the reference, as far as the place
    have ref : ∀ u, MSh u → MT tx u → ∀ y : Bool, fX12_in a2 0 (nI ws.length) = some (bI y) → fX12_putWord 45 (nI t) a2 a3 u = (if y = true then bd (fX12_isWord a3) (fun z11 => gd (hK (sI u 12 45 0 0) 45 = 12) (bd (fX12_fails 45 z11 (2 : Int32) (sI u 12 45 0 0)) (fun z13 =>
  if (¬ z13.1 = 0) then (fX12_putWord_b68  z13.2) else
  gd (hK z13.2 45 = 12) (gs (hR z13.2 12 45 6) (fun a15 =>
  gd (hK z13.2 a15 = 20 ∧ inb (nI t) (hN z13.2 a15)) (if ((40 : Int32) ≤ (hI z13.2 20 a15 (Int32.toNatClampNeg (nI t)))) then (fX12_putWord_b61 45 (nI t) a2 a3 (some 45) (0 : Int32) z13.2) else
  fX12_putWord_b61 45 (nI t) a2 a3 (some 45) (1 : Int32) z13.2)))))) else some (0, sI (sI u 12 45 0 0) 12 45 0 1)) := fun u mu X y hy => by
      have s0 := scr_thr u 0
      have mu0 := mu.scr s0
      unfold fX12_putWord
      rw [gd_t (k_45 mu), lt_t, noText_s mu0 (thr0 u) (X.scr s0) e0, bd_t]
      show (if ¬ (0 : Int32) = 0 then _ else gd (hK (sI u 12 45 0 0) 45 = 12) (gs (hR (sI u 12 45 0 0) 12 45 6) (fun a5 => gd (hK (sI u 12 45 0 0) a5 = 20 ∧ inb (nI t) (hN (sI u 12 45 0 0) a5)) (bd (fX12_in a2 (0 : Int32) (hI (sI u 12 45 0 0) 20 a5 (Int32.toNatClampNeg (nI t)))) _)))) = _
      rw [if_neg (fun z => z rfl), gd_t (k_45 mu0), r12_45_6 mu0, gs_t, gd_t ⟨k_49 mu0, by rw [n_49 mu0]; exact inbI ht (by decide)⟩]
      simp only [ct]
      rw [((X.scr s0).s ht q).2.1, hy, bd_t, fails_b mu0 (thr0 u) (by decide), bd_t]
      cases y
      · exact if_pos (show ¬ (1 : Int32) = 0 by decide)
      · rw [if_pos (show (true : Bool) = true from rfl)]
        exact if_neg (show ¬ ¬ (0 : Int32) = 0 from fun z => z rfl)
    rcases upto_or (n := ws.length) (by omega) a2 with ⟨e2, ei⟩ | ⟨i, hi, rfl, ei⟩
    · refine bad 2 1 (Or.inl ⟨rfl, rfl⟩) ?_ (fun u su => by rw [ref u (m.scr su) (M.2.1.scr su) false ei, if_neg (by decide)])
      unfold fX11_putWord fX11_putWord_b0 fX11_putWord_b5 fX11_putWord_b20
      rw [gd_t (k_10 c), f, bx_l]
      rcases e2 with e2 | ⟨e2, e3⟩
      · rw [if_pos e2]
      · rw [if_neg e2]
        show gs (some a) _ = _
        rw [gs_t, gd_t TA.1]
        show bd (fX8_size a h) _ = _
        rw [X8_size_eq TA, bd_t, if_neg e3]
    · have cl : ∀ (x : Option ((Int32 × PH) ⊕ (Nat × PH))), bx (fX11_demandWord a3 h) (fun z8 => fX11_putWord_b32 10 (nI t) (nI i) a3 (some a) z8) = x → fX11_putWord 10 (nI t) (nI i) a3 h = x := fun x hx => by
        unfold fX11_putWord fX11_putWord_b0 fX11_putWord_b5 fX11_putWord_b20
        rw [gd_t (k_10 c), f, bx_l, if_neg (nI_pos (by omega))]
        show gs (some a) _ = _
        rw [gs_t, gd_t TA.1]
        show bd (fX8_size a h) _ = _
        rw [X8_size_eq TA, bd_t, if_pos (nI_le hi (by omega))]
        exact hx
      rcases word_or a3 with vw | ⟨w, vw, rfl, vw2'⟩
      · refine bad 1 2 (Or.inr (Or.inl ⟨rfl, rfl⟩)) (cl _ (by rw [demandWord_n vw, bx_r])) (fun u su => ?_)
        have mu := m.scr su
        have mu0 := mu.scr (scr_thr u 0)
        rw [ref u mu (M.2.1.scr su) true ei, if_pos rfl, isWord_eq, vw, bd_t, gd_t (k_45 mu0), fails_b mu0 (thr0 u) (by decide), bd_t]
        unfold fX12_putWord_b68
        exact if_pos (show ¬ (1 : Int32) = 0 by decide)
      · -- the reference, as far as the room
        have ref2 : ∀ u, MSh u → MT tx u → fX12_putWord 45 (nI t) (nI i) (nI w) u = (if ws.length < 40 then gd (hK (sI u 12 45 0 0) 45 = 12) (bd (fX12_begins 45 (nI t) (sI u 12 45 0 0)) (fun z24 =>
  gd (hK z24 45 = 12) (gs (hR z24 12 45 6) (fun a26 =>
  gd (hK z24 a26 = 20 ∧ inb (nI t) (hN z24 a26)) (fX12_putWord_l83 45 (nI t) (nI i) (nI w) (hI z24 20 a26 (Int32.toNatClampNeg (nI t))) z24))))) else some (0, sI (sI u 12 45 0 0) 12 45 0 3)) := fun u mu X => by
          have s0 := scr_thr u 0
          have mu0 := mu.scr s0
          rw [ref u mu X true ei, if_pos rfl, isWord_eq, vw2', bd_t, gd_t (k_45 mu0), show bI true = (1 : Int32) from rfl, fails_t mu0 (thr0 u), bd_t]
          show (if ¬ (0 : Int32) = 0 then _ else gd (hK (sI u 12 45 0 0) 45 = 12) (gs (hR (sI u 12 45 0 0) 12 45 6) (fun a15 => gd (hK (sI u 12 45 0 0) a15 = 20 ∧ inb (nI t) (hN (sI u 12 45 0 0) a15)) (if ((40 : Int32) ≤ (hI (sI u 12 45 0 0) 20 a15 (Int32.toNatClampNeg (nI t)))) then (fX12_putWord_b61 45 (nI t) (nI i) (nI w) (some 45) (0 : Int32) (sI u 12 45 0 0)) else fX12_putWord_b61 45 (nI t) (nI i) (nI w) (some 45) (1 : Int32) (sI u 12 45 0 0))))) = _
          rw [if_neg (fun z => z rfl), gd_t (k_45 mu0), r12_45_6 mu0, gs_t, gd_t ⟨k_49 mu0, by rw [n_49 mu0]; exact inbI ht (by decide)⟩]
          simp only [ct]
          rw [((X.scr s0).s ht q).2.1]
          unfold fX12_putWord_b61 fX12_putWord_b68
          by_cases l : ws.length < 40
          · rw [if_pos l, if_neg (show ¬ (40 : Int32) ≤ nI ws.length from nI_ge (b := 40) l (by decide)), gs_t, gd_t (k_45 mu0), fails_t mu0 (thr0 u), bd_t]
            simp only [ct]
            exact if_pos trivial
          · rw [if_neg l, if_pos (show (40 : Int32) ≤ nI ws.length from nI_le (a := 40) (by omega) (by omega)), gs_t, gd_t (k_45 mu0), fails_f mu0 (thr0 u) (by decide), bd_t]
            exact if_neg (show ¬ (1 : Int32) = 0 by decide)
        by_cases l : ws.length < 40
        · obtain ⟨h0, n1, n2⟩ := withPut_eq TA ha hb l (p := i) (w := w) hi
          have N : TxA h0 (some (hX h)) (some (insAt ws i w)) := n2.fin (ok.ins l hi vw) b rfl
          obtain ⟨ks', e', wa', wb', h1, r1, C1, I1, r11, r12, r13⟩ := class_half (C.nc n2.1) (M.nc b n2.1) ht N
          have b0 : 89 ≤ hX h0 := Nat.le_trans b n2.1.1
          have T1 : TP bs er h1 := (T.nc b n2.1).W b0 r11
          have TA1 := (TA.nc ha hb n2.1).W (Nat.lt_of_lt_of_le ha n2.1.1) (Nat.lt_of_lt_of_le hb n2.1.1) la lb r11
          have x2 := n2.2.1
          have v2 := n2.2.2.1
          have c0 := (C.nc n2.1).1
          have fc : fX11_putWord 10 (nI t) (nI i) (nI w) h = some (.inl (nI (ws.length + 1), h1)) := by
            refine cl _ ?_
            unfold fX11_putWord_b32 fX11_putWord_b59 fX11_putWord_b62
            rw [demandWord_s vw2', bx_l, gs_t, gd_t TA.1, X8_size_eq TA, bd_t, if_pos (show nI ws.length < (40 : Int32) from nI_lt (b := 40) l (by decide)), n1, bd_t]
            show gd (hK h0 10 = 11) (bd (fX11_change 10 (nI t) (some (hX h)) h0) _) = _
            rw [gd_t (k_10 c0), r1, bd_t, gs_t, gd_t TA1.1, X8_size_eq TA1, bd_t, nI_1]
          refine lb_gen c fc C1.1 (by omega) (by omega) (fun u su _ => ?_)
          have mu := I1.1.scr su
          have mu0 := mu.scr (scr_thr u 0)
          obtain ⟨J, KMg, Cg, h0'⟩ := ref_start I1 C1 su
          obtain ⟨w1, g1, g2, g3, g4, g5⟩ := begins_eq J o KMg W.1 ht
          obtain ⟨w2, o2, X2, tk⟩ := put_l (w := w) g3.1 o g3.2.1 ht q hi l
          obtain ⟨w3, s1, s2, s3, s4, s5, s6, s7⟩ := change_end Cg g3 g4 g5 V.1 ht (g2.mono (fun _ _ _ => bg_mc)) o2 X2
          obtain ⟨p1, p2, p3⟩ := fin_P hP T1 ((nc_rest n2.1).tr (FW_rest r11)) su g2 o2 s4 s6 s7
          refine ⟨w3, k_45 mu, ?_, s6.1, s3, p1, p2, p3⟩
          have ln : (insAt ws i w).length = ws.length + 1 := insAt_len hi
          have e49 : hI w3 20 49 t = nI (ws.length + 1) := (s4.1 20 49 t rfl).trans (by rw [← ln]; exact (X2.s ht (updX_at _ _ _)).2.1)
          rw [ref2 u mu (I1.2.1.scr su), if_pos l, gd_t (k_45 mu0), g1, bd_t, gd_t (k_45 g3.1), r12_45_6 g3.1, gs_t, gd_t ⟨k_49 g3.1, by rw [n_49 g3.1]; exact inbI ht (by decide)⟩]
          simp only [ct]
          rw [(g3.2.1.s ht q).2.1]
          exact tk w3 s1 s3 e49
        · refine bad 0 3 (Or.inr (Or.inr ⟨rfl, rfl⟩)) (cl _ ?_) (fun u su => by rw [ref2 u (m.scr su) (M.2.1.scr su), if_neg l])
          unfold fX11_putWord_b32
          rw [demandWord_s vw2', bx_l, gs_t, gd_t TA.1, X8_size_eq TA, bd_t, if_neg (show ¬ nI ws.length < (40 : Int32) from Int32.not_lt.mpr (nI_le (a := 40) (by omega) (by omega)))]
