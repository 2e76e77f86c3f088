/-! CALLS: compare, the two sides -/
/-- the reference as far as its answer -/
theorem mcomp_eq {u : PH} {tx : TX} {bs : List Nat} {er : Int32} {ks : List Nat} {e : Nat} {wa wb : Nat → Nat} {D : Nat → Prop} {kq : Nat → Option (QT 27)} {E : EVT} {R : PST} (I : INV1 tx bs er ks e wa wb D kq E R (sI u 12 45 0 0)) {p1 p2 : Nat} (hp1 : p1 < 6) (hp2 : p2 < 6) {Q1 Q2 : QT 27} (e1 : kq p1 = some Q1) (e2 : kq p2 = some Q2) : (¬ (allz (lvs 27 Q1) = true ∧ allz (lvs 27 Q2) = true ∧ (inW (inW [] (lvs 27 Q1)) (lvs 27 Q2)).length ≤ 10) → ∃ w, fX12_compare 45 (nI p1) (nI p2) u = some (0, w) ∧ scr (sI u 12 45 0 0) w ∧ hI w 12 45 0 = 3) ∧ ((allz (lvs 27 Q1) = true ∧ allz (lvs 27 Q2) = true ∧ (inW (inW [] (lvs 27 Q1)) (lvs 27 Q2)).length ≤ 10) → SK (inW (inW [] (lvs 27 Q1)) (lvs 27 Q2)) → ∃ o g w, fX12_compare 45 (nI p1) (nI p2) u = some (hI w 12 45 59, w) ∧ onlyI isKn (sI u 12 45 0 0) g ∧ onlyI isCp g w ∧ hI w 12 45 0 = 0 ∧ BEST (inW (inW [] (lvs 27 Q1)) (lvs 27 Q2)).length (DQ (inW (inW [] (lvs 27 Q1)) (lvs 27 Q2)) Q1 Q2) o ∧ LEm (o.map (fun s => wpr (inW (inW [] (lvs 27 Q1)) (lvs 27 Q2)) (fun i => s.testBit i) (inW (inW [] (lvs 27 Q1)) (lvs 27 Q2)).length)) w) := by
  have m0 := I.2.1.1
  have K := I.1.2.2.2.2.1
  have B1 := (K.s hp1 e1).2
  have B2 := (K.s hp2 e2).2
  have w1 := B1.2.2.2.2
  have w2 := B2.2.2.2.2
  have ok1 := lvs_ok 27 Q1 w1
  have ok2 := lvs_ok 27 Q2 w2
  have mu : MSh u := m0.of (fun q _ => rfl) (fun a _ => rfl) (fun a _ => rfl)
  have h8 : ∀ {p : Nat}, p < 6 → p < 8 := fun h => by omega
  have fl : ∀ Q : QT 27, sz 27 Q ≤ 400 → (lvs 27 Q).length ≤ 400 := fun Q hQ => by
    have : (lvs 27 Q).length ≤ sz 27 Q := by
      rw [← flat_lvs, ← flat_len]
      exact List.length_filterMap_le _ _
    omega
  have hd : fX12_compare 45 (nI p1) (nI p2) u = (if bI (allz (lvs 27 Q1)) = 0 then fX12_compare_b58 45 (nI p1) (nI p2) (some 45) (sI u 12 45 0 0) else if bI (allz (lvs 27 Q2)) = 0 then fX12_compare_b58 45 (nI p1) (nI p2) (some 45) (sI u 12 45 0 0) else fX12_compare_b59 45 (nI p1) (nI p2) (some 45) 1 (sI u 12 45 0 0)) := by
    have nn : ¬ ¬ (0 : Int32) = 0 := fun z => z rfl
    unfold fX12_compare
    rw [gd_t (k_45 mu), lt_t, noQuery_s m0 (thr0 u) hp1, bd_t, if_neg nn, gd_t (k_45 m0), noQuery_s m0 (thr0 u) hp2, bd_t, if_neg nn, gd_t (k_45 m0), noKept_s m0 (thr0 u) K hp1 e1, bd_t, if_neg nn, gd_t (k_45 m0), noKept_s m0 (thr0 u) K hp2 e2, bd_t, if_neg nn, gd_t (k_45 m0), isOfWords_eq m0 (h8 hp1) B1, bd_t, isOfWords_eq m0 (h8 hp2) B2, bd_t]
  have bad0 : fX12_compare_b58 45 (nI p1) (nI p2) (some 45) (sI u 12 45 0 0) = some (0, sI (sI u 12 45 0 0) 12 45 0 3) := by
    unfold fX12_compare_b58 fX12_compare_b59 fX12_compare_b66
    rw [gs_t, gd_t (k_45 m0), fails_f m0 (thr0 u) (by decide), bd_t, if_neg (show ¬ (1 : Int32) = 0 by decide)]
  have kl1 : (inW [] (lvs 27 Q1)).length ≤ 1000 := by
    have : ∀ (ls : List L3) (ks : List Nat), (inW ks ls).length ≤ ks.length + ls.length := fun ls => by
      induction ls with
      | nil => exact fun ks => Nat.le_refl _
      | cons l ls ih =>
        intro ks
        have a := ih (insW ks (l.2.1.getD 0 0))
        have b := insW_len ks (l.2.1.getD 0 0)
        show (inW (insW ks (l.2.1.getD 0 0)) ls).length ≤ ks.length + (ls.length + 1)
        omega
    have a := this (lvs 27 Q1) []
    have b := fl Q1 B1.2.2.1
    have : ([] : List Nat).length = 0 := rfl
    omega
  have SK0 : SK [] := ⟨List.Pairwise.nil, fun w hw => absurd hw List.not_mem_nil⟩
  -- the words are known
  have kn : allz (lvs 27 Q1) = true → allz (lvs 27 Q2) = true → ∃ g, onlyI isKn (sI u 12 45 0 0) g ∧ MSh g ∧ KN (inW (inW [] (lvs 27 Q1)) (lvs 27 Q2)) g ∧ fX12_compare_b59 45 (nI p1) (nI p2) (some 45) 1 (sI u 12 45 0 0) = (if ((10 : Int32) < (hI g 12 45 20)) then (fX12_compare_b98 45 (nI p1) (nI p2) (some 45) (0 : Int32) g) else fX12_compare_b98 45 (nI p1) (nI p2) (some 45) (1 : Int32) g) := fun a1 a2 => by
    have o0 : onlyI isKn (sI u 12 45 0 0) (sI (sI u 12 45 0 0) 12 45 20 0) := onlyI_sI _ _ rfl
    have mk0 := m0.oI o0
    have K0 : KN [] (sI (sI u 12 45 0 0) 12 45 20 0) := ⟨by rw [hI_sI, if_pos ⟨rfl, rfl, rfl⟩]; rfl, fun i hi => absurd hi (Nat.not_lt_zero _)⟩
    obtain ⟨g1, r1, r2, r3⟩ := takesWords_eq mk0 (h8 hp1) (B1.kn o0) a1 SK0 K0 (Nat.zero_le _)
    have o1 := o0.tr r3
    have m1 := m0.oI o1
    have SK1 : SK (inW [] (lvs 27 Q1)) := SK.inW (ls := lvs 27 Q1) (ks := []) SK0 ok1
    obtain ⟨g2, s1, s2, s3⟩ := takesWords_eq m1 (h8 hp2) (B2.kn o1) a2 SK1 r2 kl1
    have o2 := o1.tr s3
    have m2 := m0.oI o2
    refine ⟨g2, o2, m2, s2, ?_⟩
    unfold fX12_compare_b59
    rw [gs_t, gd_t (k_45 m0), fails_t m0 (thr0 u), bd_t, if_pos rfl, gd_t (k_45 m0), lt_t, r1, bd_t, gd_t (k_45 m1), s1, bd_t, gd_t (k_45 m2)]
  have kscr : ∀ {g : PH}, onlyI isKn (sI u 12 45 0 0) g → scr (sI u 12 45 0 0) g := fun o => o.scr (fun _ _ _ z => isKn_scr z)
  refine ⟨fun no => ?_, fun ⟨a1, a2, l10⟩ sk => ?_⟩
  · by_cases a1 : allz (lvs 27 Q1) = true
    · by_cases a2 : allz (lvs 27 Q2) = true
      · obtain ⟨g, o, mg, Kg, hb⟩ := kn a1 a2
        have l10 : ¬ (inW (inW [] (lvs 27 Q1)) (lvs 27 Q2)).length ≤ 10 := fun y => no ⟨a1, a2, y⟩
        have lg : (inW (inW [] (lvs 27 Q1)) (lvs 27 Q2)).length < 2 ^ 31 := by
          have : ∀ (ls : List L3) (ks : List Nat), (inW ks ls).length ≤ ks.length + ls.length := fun ls => by
            induction ls with
            | nil => exact fun ks => Nat.le_refl _
            | cons l ls ih =>
              intro ks
              have a := ih (insW ks (l.2.1.getD 0 0))
              have b := insW_len ks (l.2.1.getD 0 0)
              show (inW (insW ks (l.2.1.getD 0 0)) ls).length ≤ ks.length + (ls.length + 1)
              omega
          have a := this (lvs 27 Q2) (inW [] (lvs 27 Q1))
          have b := fl Q2 B2.2.2.1
          omega
        have g0 : hI g 12 45 0 = 0 := (o.1 12 45 0 rfl).trans (thr0 u)
        rw [Kg.1, if_pos (show (10 : Int32) < nI _ from show nI 10 < nI _ from nI_lt (by omega) lg)] at hb
        refine ⟨sI g 12 45 0 3, ?_, (kscr o).tr (scr_thr g 3), by rw [hI_sI, if_pos ⟨rfl, rfl, rfl⟩]⟩
        rw [hd, a1, a2, if_neg (show ¬ bI true = 0 by decide), if_neg (show ¬ bI true = 0 by decide), hb]
        unfold fX12_compare_b98
        rw [gs_t, gd_t (k_45 mg), fails_f mg g0 (by decide), bd_t, if_neg (show ¬ (1 : Int32) = 0 by decide)]
      · refine ⟨_, ?_, scr_thr _ 3, by rw [hI_sI, if_pos ⟨rfl, rfl, rfl⟩]⟩
        rw [hd, a1, if_neg (show ¬ bI true = 0 by decide), Bool.eq_false_iff.mpr a2, if_pos (show bI false = 0 from rfl), bad0]
    · refine ⟨_, ?_, scr_thr _ 3, by rw [hI_sI, if_pos ⟨rfl, rfl, rfl⟩]⟩
      rw [hd, Bool.eq_false_iff.mpr a1, if_pos (show bI false = 0 from rfl), bad0]
  · obtain ⟨g, o, mg, Kg, hb⟩ := kn a1 a2
    have g0 : hI g 12 45 0 = 0 := (o.1 12 45 0 rfl).trans (thr0 u)
    have mem1 : ∀ l ∈ lvs 27 Q1, l.2.1.getD 0 0 ∈ inW (inW [] (lvs 27 Q1)) (lvs 27 Q2) := fun l hl => inW_mem.mpr (Or.inl (inW_mem.mpr (Or.inr ⟨l, hl, rfl⟩)))
    have mem2 : ∀ l ∈ lvs 27 Q2, l.2.1.getD 0 0 ∈ inW (inW [] (lvs 27 Q1)) (lvs 27 Q2) := fun l hl => inW_mem.mpr (Or.inr ⟨l, hl, rfl⟩)
    obtain ⟨ob, w, v, r1, r2, r3, r4, r5⟩ := best_eq mg (h8 hp1) (h8 hp2) (B1.kn o) (B2.kn o) a1 a2 sk Kg l10 mem1 mem2
    subst r2
    rw [Kg.1, if_neg (show ¬ (10 : Int32) < nI _ from show ¬ nI 10 < nI _ by rw [nI_ltI (by decide) (by omega)]; omega)] at hb
    refine ⟨ob, g, w, ?_, o, r3, (r3.1 12 45 0 rfl).trans g0, r4, r5⟩
    rw [hd, a1, a2, if_neg (show ¬ bI true = 0 by decide), if_neg (show ¬ bI true = 0 by decide), hb]
    unfold fX12_compare_b98
    rw [gs_t, gd_t (k_45 mg), fails_t mg g0, bd_t, if_pos rfl, show fX12_compare_l112 45 (nI p1) (nI p2) (-1) (0 : Int32) g = _ from r1]
theorem ls_compare {h : PH} {P : PH → Prop} {tx : TX} {bs : List Nat} {er : Int32} {ks : List Nat} {e : Nat} {wa wb : Nat → Nat} {D : Nat → Prop} {kq : Nat → Option (QT 27)} {E : EVT} {R : PST} {n0 : Option Nat} {f0 : Nat → Int32} (I : INV1 tx bs er ks e wa wb D kq E R h) (Z : DFn n0 f0 h) (a1 a2 a3 a4 a5 : Int32) (hP : ∀ h' n f, INV1 tx bs er ks e wa wb D kq E R h' → DFn n f h' → cmC h h' → P h') : LS_47 10 45 87 88 a1 a2 a3 a4 a5 h P := by
  obtain ⟨C, M, T⟩ := id I
  obtain ⟨c, o, B, X, K, Y, V, W, ne⟩ := id C
  have b := B.1
  have m := M.1
  have Zk : ∀ h', (∀ c a k, FD4 c a k → hI h' c a k = hI h c a k) → DFn n0 f0 h' := fun h' q => by
    obtain ⟨z1, z2, z3, z4⟩ := Z
    exact ⟨z1, (q 0 38 4 (Or.inl ⟨rfl, rfl, rfl⟩)).trans z2, (q 12 45 59 (Or.inr (Or.inr (Or.inl ⟨rfl, rfl, rfl⟩)))).trans z3, fun k hk i hi => ⟨(q 20 42 i (Or.inr (Or.inl ⟨rfl, rfl⟩))).trans (z4 k hk i hi).1, (q 20 86 i (Or.inr (Or.inr (Or.inr ⟨rfl, rfl⟩)))).trans (z4 k hk i hi).2⟩⟩
  have d4s : ∀ c a k, FD4 c a k → isScr c a k = false := fun c a k z => by
    unfold FD4 at z
    rcases z with ⟨rfl, rfl, rfl⟩ | ⟨rfl, rfl⟩ | ⟨rfl, rfl, rfl⟩ | ⟨rfl, rfl⟩ <;> rfl
  have hPs : ∀ h', scr h h' → P h' := fun h' s => hP h' n0 f0 (I.scr s) (Zk h' (fun c a k z => s.1 c a k (d4s c a k z))) (cm_scr s)
  show LBody (fX11_compare 10 a1 a2 h) (fX12_compare 45 a1 a2) (fun c => c = 1 ∨ c = 3 ∨ c = 0) (fun c v => (c = 1 ∧ v = some (.int 1)) ∨ (c = 3 ∧ v = some (.int 2)) ∨ (c = 0 ∧ v = some (.int 3))) h P
  have nn : ¬ ¬ (0 : Int32) = 0 := fun z => z rfl
  have n1 : ¬ (1 : Int32) = 0 := by decide
  rcases idx_or (n := 6) (by decide) a1 with hx | ⟨p1, hp1, rfl⟩
  · refine lb_exc c m (e := 1) (code := 1) ?_ (Or.inl rfl) (fun v hv => by rcases hv with hv | hv | hv <;> first | exact hv.2 | exact absurd hv.1 (by decide)) (by decide) (fun u su => ⟨(0, sI (sI u 12 45 0 0) 12 45 0 1), ?_, (scr_thr _ 0).tr (scr_thr _ 1), (hI_sI _ _ _ _ _ _ _ _).trans (if_pos ⟨rfl, rfl, rfl⟩)⟩) hPs
    · unfold fX11_compare fX11_compare_b0
      rw [keptPlace_n hx, bx_r]
    · have mu := m.scr su
      unfold fX12_compare fX12_compare_b66
      rw [gd_t (k_45 mu), lt_t, noQuery_n (mu.scr (scr_thr u 0)) (thr0 u) hx, bd_t, if_pos n1]
  · rcases idx_or (n := 6) (by decide) a2 with hx | ⟨p2, hp2, rfl⟩
    · refine lb_exc c m (e := 1) (code := 1) ?_ (Or.inl rfl) (fun v hv => by rcases hv with hv | hv | hv <;> first | exact hv.2 | exact absurd hv.1 (by decide)) (by decide) (fun u su => ⟨(0, sI (sI u 12 45 0 0) 12 45 0 1), ?_, (scr_thr _ 0).tr (scr_thr _ 1), (hI_sI _ _ _ _ _ _ _ _).trans (if_pos ⟨rfl, rfl, rfl⟩)⟩) hPs
      · unfold fX11_compare fX11_compare_b0 fX11_compare_b4
        rw [keptPlace_s hp1, bx_l, keptPlace_n hx, bx_r]
      · have mu := m.scr su
        have mu0 := mu.scr (scr_thr u 0)
        unfold fX12_compare fX12_compare_b66
        rw [gd_t (k_45 mu), lt_t, noQuery_s mu0 (thr0 u) hp1, bd_t, if_neg nn, gd_t (k_45 mu0), noQuery_n mu0 (thr0 u) hx, bd_t, if_pos n1]
    · cases e1 : kq p1 with
      | none =>
        refine lb_exc c m (e := 3) (code := 2) ?_ (Or.inr (Or.inl rfl)) (fun v hv => by rcases hv with hv | hv | hv <;> first | exact hv.2 | exact absurd hv.1 (by decide)) (by decide) (fun u su => ⟨(0, sI (sI u 12 45 0 0) 12 45 0 2), ?_, (scr_thr _ 0).tr (scr_thr _ 2), (hI_sI _ _ _ _ _ _ _ _).trans (if_pos ⟨rfl, rfl, rfl⟩)⟩) hPs
        · unfold fX11_compare fX11_compare_b0 fX11_compare_b4 fX11_compare_b8
          rw [keptPlace_s hp1, bx_l, keptPlace_s hp2, bx_l, gd_t (k_10 c), demandKept_n c K hp1 e1, bx_r]
        · have mu := m.scr su
          have st := su.tr (scr_thr u 0)
          have mu0 := m.scr st
          unfold fX12_compare fX12_compare_b66
          rw [gd_t (k_45 mu), lt_t, noQuery_s mu0 (thr0 u) hp1, bd_t, if_neg nn, gd_t (k_45 mu0), noQuery_s mu0 (thr0 u) hp2, bd_t, if_neg nn, gd_t (k_45 mu0), noKept_n mu0 (thr0 u) (K.scx b st.x) hp1 e1, bd_t, if_pos n1]
      | some Q1 =>
        cases e2 : kq p2 with
        | none =>
          obtain ⟨q1, d1, -⟩ := demandKept_s c K hp1 e1
          refine lb_exc c m (e := 3) (code := 2) ?_ (Or.inr (Or.inl rfl)) (fun v hv => by rcases hv with hv | hv | hv <;> first | exact hv.2 | exact absurd hv.1 (by decide)) (by decide) (fun u su => ⟨(0, sI (sI u 12 45 0 0) 12 45 0 2), ?_, (scr_thr _ 0).tr (scr_thr _ 2), (hI_sI _ _ _ _ _ _ _ _).trans (if_pos ⟨rfl, rfl, rfl⟩)⟩) hPs
          · unfold fX11_compare fX11_compare_b0 fX11_compare_b4 fX11_compare_b8 fX11_compare_b13
            rw [keptPlace_s hp1, bx_l, keptPlace_s hp2, bx_l, gd_t (k_10 c), d1, bx_l, gd_t (k_10 c), demandKept_n c K hp2 e2, bx_r]
          · have mu := m.scr su
            have st := su.tr (scr_thr u 0)
            have mu0 := m.scr st
            have Ku := K.scx b st.x
            unfold fX12_compare fX12_compare_b66
            rw [gd_t (k_45 mu), lt_t, noQuery_s mu0 (thr0 u) hp1, bd_t, if_neg nn, gd_t (k_45 mu0), noQuery_s mu0 (thr0 u) hp2, bd_t, if_neg nn, gd_t (k_45 mu0), noKept_s mu0 (thr0 u) Ku hp1 e1, bd_t, if_neg nn, gd_t (k_45 mu0), noKept_n mu0 (thr0 u) Ku hp2 e2, bd_t, if_pos n1]
        | some Q2 =>
          obtain ⟨h1, I1, x1, rx, rv', good, bad⟩ := ccomp_eq I hp1 hp2 e1 e2
          by_cases ok : allz (lvs 27 Q1) = true ∧ allz (lvs 27 Q2) = true ∧ (inW (inW [] (lvs 27 Q1)) (lvs 27 Q2)).length ≤ 10
          · obtain ⟨sk, oc, f1, f2, f3⟩ := good ok
            have c1 := I1.1.1
            refine lb_gen (h1 := h1) c f1 c1 (by omega) (by omega) (fun u su _ => ?_)
            have s1 : scr h1 (sI u 12 45 0 0) := su.tr (scr_thr u 0)
            have I2 := I1.scr s1
            obtain ⟨om, g, w, r1, r2, r3, r4, r5, r6⟩ := (mcomp_eq I2 hp1 hp2 e1 e2).2 ok sk
            have r2' := r2
            have r2 : scr (sI u 12 45 0 0) g := r2.scr (fun _ _ _ z => isKn_scr z)
            have I3 := I2.scr r2
            have I4 := I3.dm r3 cp_cm
            have eo : om = oc.map (rv (inW (inW [] (lvs 27 Q1)) (lvs 27 Q2)).length) := r5.uniq f2
            have et : om.map (fun s => wpr (inW (inW [] (lvs 27 Q1)) (lvs 27 Q2)) (fun i => s.testBit i) (inW (inW [] (lvs 27 Q1)) (lvs 27 Q2)).length) = txO (inW (inW [] (lvs 27 Q1)) (lvs 27 Q2)) oc := by
              rw [eo]
              unfold txO
              rw [Option.map_map]
              rfl
            rw [et] at r6
            have cw : ∀ c a k, FD4 c a k → (a = 38 ∨ a = 42) → hI w c a k = hI h1 c a k := fun c a k z y => by
              rw [r3.1 c a k (by
                unfold FD4 at z
                rcases z with ⟨rfl, rfl, rfl⟩ | ⟨rfl, rfl⟩ | ⟨rfl, rfl, rfl⟩ | ⟨rfl, rfl⟩
                · rfl
                · rfl
                · exact absurd y (by decide)
                · exact absurd y (by decide)), r2.1 c a k (d4s c a k z), s1.1 c a k (d4s c a k z)]
            have xw : cmC h w := ((x1.tr (cm_scr s1)).tr (cm_scr r2)).tr (cm_oI r3 cp_cm)
            have hLw : hL w 23 87 0 = hL u 23 87 0 := by rw [r3.2.2.1, r2'.2.2.1]; rfl
            have mu : MSh u := I1.2.1.1.scr su
            have fin : ∀ (n : Option Nat) (f : Nat → Int32), DFn n f w → hI h1 0 38 4 = hI w 12 45 59 → ∃ w, hK u 45 = 12 ∧ fX12_compare 45 (nI p1) (nI p2) u = some (hI h1 0 38 4, w) ∧ CSh w ∧ MSh w ∧ hI w 12 45 0 = 0 ∧ hL w 23 87 0 = hL u 23 87 0 ∧ P w := fun n f Zw ev => ⟨w, k_45 mu, by rw [r1, ev], I4.1.1, I4.2.1.1, r4, hLw, hP w n f I4 Zw xw⟩
            cases et2 : txO (inW (inW [] (lvs 27 Q1)) (lvs 27 Q2)) oc with
            | none =>
              rw [et2] at f3 r6
              have f3 : hI h1 0 38 4 = -1 := f3
              have r6 : hI w 12 45 59 = -1 := r6
              exact fin none (fun _ => 0) ⟨fun _ z => (by cases z), (cw 0 38 4 (Or.inl ⟨rfl, rfl, rfl⟩) (Or.inl rfl)).trans f3, r6, fun _ z => (by cases z)⟩ (f3.trans r6.symm)
            | some T =>
              rw [et2] at f3 r6
              obtain ⟨f31, f32, f33⟩ : hI h1 0 38 4 = nI T.length ∧ T.length ≤ 10 ∧ ∀ i, i < T.length → hI h1 20 42 i = nI (T.getD i 0) := f3
              obtain ⟨r61, r62⟩ : hI w 12 45 59 = nI T.length ∧ ∀ i, i < T.length → hI w 20 86 i = nI (T.getD i 0) := r6
              exact fin (some T.length) (fun i => nI (T.getD i 0)) ⟨fun _ z => (by cases z; exact f32), (cw 0 38 4 (Or.inl ⟨rfl, rfl, rfl⟩) (Or.inl rfl)).trans f31, r61, fun k z i hi => by
                cases z
                exact ⟨(cw 20 42 i (Or.inr (Or.inl ⟨rfl, rfl⟩)) (Or.inr rfl)).trans (f33 i hi), r62 i hi⟩⟩ (f31.trans r61.symm)
          · obtain ⟨f1, f2⟩ := bad ok
            refine lb_genx (h1 := h1) c (e := 0) (code := 3) f1 (Or.inr (Or.inr rfl)) (fun v hv => by rcases hv with hv | hv | hv <;> first | exact hv.2 | exact absurd hv.1 (by decide)) (by decide) (by omega) (by omega) (fun u su => ?_)
            have s1 : scr h1 (sI u 12 45 0 0) := su.tr (scr_thr u 0)
            have I2 := I1.scr s1
            obtain ⟨w, r1, r2, r3⟩ := (mcomp_eq I2 hp1 hp2 e1 e2).1 ok
            have I3 := I2.scr r2
            refine ⟨(0, w), k_45 (I1.2.1.1.scr su), r1, I3.2.1.1, r3, hP w n0 f0 I3 (Zk w (fun c a k z => ?_)) ((x1.tr (cm_scr s1)).tr (cm_scr r2))⟩
            rw [r2.1 c a k (d4s c a k z), s1.1 c a k (d4s c a k z)]
            exact f2 c a k z
