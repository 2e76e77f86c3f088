/-! parts AND partFound -/
def G3a (c a _k : Nat) : Prop := c = 28 ∧ a = 3
def nc3 (h h' : PH) : Prop := chg (fun _ _ _ => False) G3a (fun _ => False) h h'
theorem IXB.nc3 {tx : TX} {ks : List Nat} {e : Nat} {wa wb : Nat → Nat} {h h' : PH} (c : CSh h) (X : IXB tx ks e wa wb h) (b : 89 ≤ hX h) (x : nc3 h h') : IXB tx ks e wa wb h' := by
  by_cases z : e = 3
  · subst z
    obtain ⟨⟨k1, k2, k3, k4, k5, k6, k7, k8, k9, k10⟩, i1, i2, i3, i4, i5, i6⟩ := X
    have l0 : ks.length = 0 := by have := n_3 c; omega
    have k0 : ks = [] := List.length_eq_zero_iff.mp l0
    subst k0
    have he := x.2.2.2.2 3 i1
    exact ⟨⟨k1, k2, (x.2.1 14 17 2 (by omega) (fun z => z)).trans k3, (x.2.2.1 14 17 1 (by omega) (fun z => absurd z.1 (by decide))).trans k4, he.1.trans k5, by rw [he.2]; exact k6, fun i hi => absurd hi (Nat.not_lt_zero _), fun w hw => absurd hw List.not_mem_nil, k9, k10⟩, Nat.lt_of_lt_of_le i1 x.1, i2, fun w hw => absurd hw List.not_mem_nil, by rw [he.2]; exact i4, by rw [he.2]; exact i5, i6⟩
  · exact X.chg b x (fun z => z) (fun _ _ _ z => z) (fun z => absurd z.1 (by decide)) (fun k y => z y.2) (fun _ _ y => absurd y.1 (by decide)) (fun _ _ y => y)
theorem CI.nc3 {tx : TX} {ks : List Nat} {e : Nat} {wa wb : Nat → Nat} {D : Nat → Prop} {kq : Nat → Option (QT 27)} {E : EVT} {R : PST} {h h' : PH} (C : CI tx ks e wa wb D kq E R h) (x : nc3 h h') : CI tx ks e wa wb D kq E R h' := by
  obtain ⟨c, o, B, X, K, Y, V, W, n⟩ := C
  have b := B.1
  have n28 : ∀ q ∈ sCR, ¬ (q.1 = 28) := by decide
  exact ⟨c.chg b x (fun q hq z => n28 q hq z.1), o, B.chg x (fun _ z => absurd z.1 (by decide)) (fun _ _ z => absurd z.1 (by decide)) (fun _ _ z => z) (fun _ _ _ z => z), IXB.nc3 c X b x, K.chg b x (fun _ _ _ _ z => z) (fun c y k dy z => by have := (K.1 y dy).1; have := z.2; omega) (fun _ _ z => absurd z.1 (by decide)) (fun _ _ _ _ _ z => z) (fun _ _ z => z) (fun _ _ => ⟨fun z => z, fun z => z⟩), Y.chg b x (fun _ _ z => z), V.chg b x (fun _ _ _ _ z => z), W.chg b x ⟨fun z => z, fun z => z⟩ (fun _ z => z) (fun _ z => absurd z.1 (by decide)) (fun _ _ z => z) (fun _ _ z => absurd z.1 (by decide)) (fun _ _ _ z => z), n⟩
theorem MI.nc3 {tx : TX} {E : EVT} {R : PST} {h h' : PH} (I : MI tx E R h) (b : 89 ≤ hX h) (x : nc3 h h') : MI tx E R h' := I.C b x (fun _ _ _ z => z.elim) (fun _ _ _ z => Or.inr (Or.inl z.1))
theorem TP.nc3 {bs : List Nat} {er : Int32} {h h' : PH} (T : TP bs er h) (b : 89 ≤ hX h) (x : nc3 h h') : TP bs er h' := T.chg b x ⟨fun z => z, fun z => z, fun z => z, fun z => z, fun _ => ⟨fun z => z, fun z => z⟩⟩
theorem INV1.nc3 {tx : TX} {bs : List Nat} {er : Int32} {ks : List Nat} {e : Nat} {wa wb : Nat → Nat} {D : Nat → Prop} {kq : Nat → Option (QT 27)} {E : EVT} {R : PST} {h h' : PH} (I : INV1 tx bs er ks e wa wb D kq E R h) (x : nc3 h h') : INV1 tx bs er ks e wa wb D kq E R h' := ⟨I.1.nc3 x, I.2.1.nc3 I.1.2.2.1.1 x, I.2.2.nc3 I.1.2.2.1.1 x⟩
theorem nc3_rest {h h' : PH} (x : nc3 h h') : rest h h' := x.mono (fun _ _ _ _ z => z.elim) (fun c a k _ z => show c ≠ 13 by rw [z.1]; decide) (fun _ _ z => z.elim)
theorem partsOf_eq {h : PH} (c : CSh h) (b : 89 ≤ hX h) {D : Nat → Prop} (dD : ∀ x, D x → 89 ≤ x ∧ x < hX h) {Q : QT 27} {a : Nat} (C : QC h D 27 Q a) (w : wfq 27 Q) (z : sz 27 Q ≤ 400) : ∃ e' h' as, fX11_simplePartsOf (some a) h = some (some (hX h), h') ∧ nc3 h h' ∧ LA h' (hX h) e' as ∧ LfsD h' D as (lvs 27 Q) ∧ hX h' ≤ hX h + 401 ∧ hV h' ≤ hV h + 3000 := by
  have no : ∀ {q : Prop}, hX h < hX h → q := fun y => absurd y (Nat.lt_irrefl _)
  have k0 : hK (hnew h 14 3) (hX h) = 14 := by rw [hK_new, if_pos rfl]
  have n3 : hX h ≠ 3 := by omega
  have x1 : nc h (sR (sI (hnew h 14 3) 14 (hX h) 0 0) 14 (hX h) 1 (some 3)) := (((chg.rf _ _ _ h).aN 14 3).aI _ no).aR _ no
  have g1 : fJx4a65c_init_da8c8 (hX h) (hnew h 14 3) = some (sR (sI (hnew h 14 3) 14 (hX h) 0 0) 14 (hX h) 1 (some 3)) := by
    unfold fJx4a65c_init_da8c8 fJxc12de_init_da8c8 fJxa1e45_init_da8c8
    rw [bd_t, gd_t k0, lt_t, bd_t, gd_t (show hK (sI (hnew h 14 3) 14 (hX h) 0 0) (hX h) = 14 from k0), lt_t]
  have g2 : hK (sR (sI (hnew h 14 3) 14 (hX h) 0 0) 14 (hX h) 1 (some 3)) (hX h) = 14 := k0
  have g3 : hI (sR (sI (hnew h 14 3) 14 (hX h) 0 0) 14 (hX h) 1 (some 3)) 14 (hX h) 2 = 0 := by rw [hI_sR, hI_sI, if_neg (by simp), hI_new, if_pos rfl]
  have g4 : hR (sR (sI (hnew h 14 3) 14 (hX h) 0 0) 14 (hX h) 1 (some 3)) 14 (hX h) 1 = some 3 := by rw [hR_sR, if_pos ⟨rfl, rfl, rfl⟩]
  have g5 : hX (sR (sI (hnew h 14 3) 14 (hX h) 0 0) 14 (hX h) 1 (some 3)) = hX h + 1 := rfl
  have g6 : hV (sR (sI (hnew h 14 3) 14 (hX h) 0 0) 14 (hX h) 1 (some 3)) = hV h + 3 := rfl
  generalize sR (sI (hnew h 14 3) 14 (hX h) 0 0) 14 (hX h) 1 (some 3) = g at x1 g1 g2 g3 g4 g5 g6
  have cg := c.nc b x1
  have kn := n_3 cg
  have A : LA g (hX h) 3 [] := ⟨g2, g3, g4, k_3 cg, by rw [kn]; exact Nat.le_refl _, fun i hi => absurd hi (Nat.not_lt_zero _), fun _ => rfl, fun x hx => absurd hx List.not_mem_nil, by rw [kn]; decide, by omega, by omega, fun x hx => absurd hx List.not_mem_nil⟩
  have s : sep D g (hX h) 3 := fun x dx => by have := dD x dx; omega
  have Cg : QC g D 27 Q a := QC.mono (fun x dx => ⟨dx, by
    have := (dD x dx).2
    exact ⟨fun c k => x1.2.1 c x k this (fun z => z), fun c k => x1.2.2.1 c x k this (fun z => z), (x1.2.2.2.2 x this).1, (x1.2.2.2.2 x this).2⟩⟩) 27 Q a C
  obtain ⟨e', h', as, r1, ⟨r2, r3, r4, r5, r6, r7, r8⟩, r9⟩ := gather_eq 27 Q g a 3 [] Cg w A (by show 0 + sz 27 Q ≤ 4000; omega) s 44 0 (by decide) (by decide)
  rw [List.nil_append] at r2
  have al := r9.len
  have ll : (lvs 27 Q).length ≤ sz 27 Q := by
    rw [← flat_lvs, ← flat_len]
    exact List.length_filterMap_le _ _
  have l0 : ([] : List Nat).length = 0 := rfl
  refine ⟨e', h', as, ?_, ?_, r2, r9, by omega, by omega⟩
  · unfold fX11_simplePartsOf fX11_simplePartsOf_b0 fX11_simplePartsOf_b3 fX11_simplePartsOf_b14 fX4_gatherSimple
    rw [g1, bd_t, show g_X4_gatherSimple 44 (some a) (some (hX h)) 0 g = some h' from r1, bd_t]
  · exact chg.tr2 (x1.mono (fun _ _ _ _ z => z) (fun _ _ _ _ z => z.elim) (fun _ _ z => z)) r3 (fun c a k ha z => by have := z.2.1; omega) (fun c a k ha z => z.elim (fun y => by have := y.2.1; omega) (fun y => y)) (fun _ _ z => z)
/-- the parts of a kept query: what both sides say when there is none -/
theorem kept_or {h : PH} {P : PH → Prop} {D : Nat → Prop} {kq : Nat → Option (QT 27)} (c : CSh h) (K : KP D kq h) (a1 : Int32) (h1 : (fX11_demandKeptPlace a1 h = some (.inr (1, h)) ∧ (∀ u, MSh u → fX12_noKept 45 a1 (sI u 12 45 0 0) = some (1, sI (sI u 12 45 0 0) 12 45 0 1))) → P h) (h2 : ∀ p, p < 6 → a1 = nI p → kq p = none → P h) (h3 : ∀ p Q, p < 6 → a1 = nI p → kq p = some Q → P h) : P h := by
  rcases idx_or (n := 6) (by decide) a1 with hx | ⟨p, hp, e⟩
  · exact h1 ⟨keptPlace_n hx h, fun u mu => noKept_x (mu.scr (scr_thr u 0)) (thr0 u) hx⟩
  · cases q : kq p with
    | none => exact h2 p hp e q
    | some Q => exact h3 p Q hp e q
theorem ls_parts {h : PH} {P : PH → Prop} {tx : TX} {bs : List Nat} {er : Int32} {ks : List Nat} {e : Nat} {wa wb : Nat → Nat} {D : Nat → Prop} {kq : Nat → Option (QT 27)} {E : EVT} {R : PST} (I : INV1 tx bs er ks e wa wb D kq E R h) (a1 a2 a3 a4 a5 : Int32) (hP : ∀ h', INVX D kq h' → rest h h' → P h') : LS_41 10 45 87 88 a1 a2 a3 a4 a5 h P := by
  have c := I.1.1
  have K := I.1.2.2.2.2.1
  have b := I.1.2.2.1.1
  have m := I.2.1.1
  have fail : ∀ h', scr h h' → P h' := fun h' s => hP h' (I.scr s).X (mc_rest (scr_mc s))
  show LBody (fX11_parts 10 a1 h) (fX12_parts 45 a1) (fun c => c = 1 ∨ c = 3) (fun c v => (c = 1 ∧ v = some (.int 1)) ∨ (c = 3 ∧ v = some (.int 2))) h P
  rcases idx_or (n := 6) (by decide) a1 with hx | ⟨p, hp, rfl⟩
  · refine lb_exc c m (e := 1) (code := 1) ?_ (Or.inl rfl) (fun v hv => hv.elim (fun q => q.2) (fun q => absurd q.1 (by decide))) (by decide) (fun u su => ⟨(0, sI (sI u 12 45 0 0) 12 45 0 1), ?_, (scr_thr _ 0).tr (scr_thr _ 1), (hI_sI _ _ _ _ _ _ _ _).trans (if_pos ⟨rfl, rfl, rfl⟩)⟩) fail
    · unfold fX11_parts fX11_parts_b0
      rw [keptPlace_n hx, bx_r]
    · have mu := m.scr su
      unfold fX12_parts fX12_parts_b22
      rw [gd_t (k_45 mu), lt_t, noKept_x (mu.scr (scr_thr u 0)) (thr0 u) hx, bd_t]
      exact if_neg (show ¬ (1 : Int32) = 0 by decide)
  · cases q : kq p with
    | none =>
      refine lb_exc c m (e := 3) (code := 2) ?_ (Or.inr rfl) (fun v hv => hv.elim (fun q => absurd q.1 (by decide)) (fun q => q.2)) (by decide) (fun u su => ⟨(0, sI (sI u 12 45 0 0) 12 45 0 2), ?_, (scr_thr _ 0).tr (scr_thr _ 2), (hI_sI _ _ _ _ _ _ _ _).trans (if_pos ⟨rfl, rfl, rfl⟩)⟩) fail
      · unfold fX11_parts fX11_parts_b0 fX11_parts_b4
        rw [keptPlace_s hp, bx_l, gd_t (k_10 c), demandKept_n c K hp q, bx_r]
      · have mu := m.scr su
        have st := su.tr (scr_thr u 0)
        unfold fX12_parts fX12_parts_b22
        rw [gd_t (k_45 mu), lt_t, noKept_n (mu.scr (scr_thr u 0)) (thr0 u) (K.scx b st.x) hp q, bd_t]
        exact if_neg (show ¬ (1 : Int32) = 0 by decide)
    | some Q =>
      obtain ⟨a, d1, d2⟩ := demandKept_s c K hp q
      have B := (K.s hp q).2
      obtain ⟨e', h1, as, r1, r2, r3, r4, r5, r6⟩ := partsOf_eq c b K.1 d2 B.2.2.2.2 B.2.2.1
      have I1 := I.nc3 r2
      refine lb_gen (h1 := h1) (v0 := nI (lvs 27 Q).length) c ?_ I1.1.1 (by omega) (by omega) (fun u su _ => ?_)
      · unfold fX11_parts fX11_parts_b0 fX11_parts_b4 fX11_parts_b9 fX11_parts_b12
        rw [keptPlace_s hp, bx_l, gd_t (k_10 c), d1, bx_l]
        show bd (fX11_simplePartsOf (some a) h) _ = _
        rw [r1, bd_t]
        show gs (some (hX h)) _ = _
        rw [gs_t, gd_t r3.1, list_size r3.1 r3.2.1, bd_t, r4.len]
      · have mu := I1.2.1.1.scr su
        have s0 := scr_thr u 0
        have mu0 := mu.scr s0
        have Iu := (I1.scr su).scr s0
        have Ku := Iu.1.2.2.2.2.1
        refine ⟨sI u 12 45 0 0, k_45 mu, ?_, Iu.1.1, mu0, thr0 u, rfl, hP _ Iu.X ((nc3_rest r2).tr (mc_rest ((scr_mc su).tr (scr_mc s0))))⟩
        unfold fX12_parts fX12_parts_b22
        rw [gd_t (k_45 mu), lt_t, noKept_s mu0 (thr0 u) Ku hp q, bd_t]
        show (if (0 : Int32) = 0 then gd (hK (sI u 12 45 0 0) 45 = 12) (bd (fX12_simples 45 (nI p) (sI u 12 45 0 0)) _) else _) = _
        rw [if_pos rfl, gd_t (k_45 mu0), simples_eq mu0 (by omega) (Ku.s hp q).2, bd_t]
theorem satT_0 (tx : TX) (l : L3) (t : Nat) : satT tx 0 l t = decide (0 < cntX tx l.1 l.2.1 l.2.2 t) := by
  unfold satT cntX
  cases tx t with
  | none => rfl
  | some T => rfl
theorem countFound_eq {h : PH} (c : CSh h) {tx : TX} (o : okX tx) (X : CT tx h) {D : Nat → Prop} {a : Nat} {l : L3} (L : LfD h D a l) (ok : okL3 l) : fX11_countFound 10 (some a) h = some (nI (cnt (fun t => satT tx 0 l t) 100)) := by
  unfold fX11_countFound fX11_countFound_l4
  refine wh_out (fun j => (nI (cnt (fun t => satT tx 0 l t) j), nI j)) 100 rfl (fun j hj => ?_) ?_
  · show fX11_countFound_c4 10 (some a) (nI (cnt (fun t => satT tx 0 l t) j)) (nI j) h = _
    unfold fX11_countFound_c4 fX11_countFound_b22
    rw [if_neg (i100 hj), gd_t (k_10 c), isSat_eq (n := 0) (Q := l) c o X hj L ok (by decide), bd_t, nI_1]
    cases q : satT tx 0 l j with
    | false => rw [if_pos (show bI false = 0 from rfl), ← cnt_neg (p := fun t => satT tx 0 l t) q, Int32.add_zero]
    | true => rw [if_neg (show ¬ bI true = 0 by decide), ← cnt_pos (p := fun t => satT tx 0 l t) q]
  · show fX11_countFound_c4 10 (some a) (nI (cnt (fun t => satT tx 0 l t) 100)) (nI 100) h = _
    unfold fX11_countFound_c4
    rw [if_pos (by decide), mr_t]
theorem mpartFound_l {h : PH} (m : MSh h) {tx : TX} (o : okX tx) (X : MT tx h) {q k : Nat} (hq : q < 8) (hk : k < 400) {l : L3} (ok : okL3 l) (L : LfM h q k l.1 l.2.1 l.2.2) : fX12_partFound_l51 45 (nI q) (nI k) 0 0 h = some (nI (cnt (fun t => satT tx 0 l t) 100), h) := by
  unfold fX12_partFound_l51
  refine wh_out (fun j => (nI (cnt (fun t => satT tx 0 l t) j), nI j)) 100 rfl (fun j hj => ?_) ?_
  · show fX12_partFound_c51 45 (nI q) (nI k) (nI (cnt (fun t => satT tx 0 l t) j)) (nI j) h = _
    unfold fX12_partFound_c51 fX12_partFound_b76
    rw [if_neg (i100 hj), gd_t (k_45 m), meets_eq m o X hj hq hk ok L, bd_t, nI_1]
    have bd : cntX tx l.1 l.2.1 l.2.2 j < 2 ^ 31 := by
      unfold cntX
      cases e : tx j with
      | none => exact (show 0 < 2 ^ 31 by decide)
      | some T =>
        have := cntL_le (k := l.1) (ws := l.2.1) (mo := l.2.2) (o j T e).2.1
        show cntL l.1 l.2.1 l.2.2 T < _
        omega
    have s0 := satT_0 tx l j
    by_cases z : 0 < cntX tx l.1 l.2.1 l.2.2 j
    · rw [decide_eq_true z] at s0
      rw [if_neg (show ¬ nI (cntX tx l.1 l.2.1 l.2.2 j) ≤ (0 : Int32) from show ¬ nI (cntX tx l.1 l.2.1 l.2.2 j) ≤ nI 0 from nI_ge z bd), cnt_pos (p := fun t => satT tx 0 l t) s0]
    · rw [decide_eq_false z] at s0
      rw [if_pos (show nI (cntX tx l.1 l.2.1 l.2.2 j) ≤ (0 : Int32) from show nI (cntX tx l.1 l.2.1 l.2.2 j) ≤ nI 0 from nI_le (by omega) (by decide)), cnt_neg (p := fun t => satT tx 0 l t) s0]
  · show fX12_partFound_c51 45 (nI q) (nI k) (nI (cnt (fun t => satT tx 0 l t) 100)) (nI 100) h = _
    unfold fX12_partFound_c51
    rw [if_pos (by decide), mr_t]
theorem ls_partFound {h : PH} {P : PH → Prop} {tx : TX} {bs : List Nat} {er : Int32} {ks : List Nat} {e : Nat} {wa wb : Nat → Nat} {D : Nat → Prop} {kq : Nat → Option (QT 27)} {E : EVT} {R : PST} (I : INV1 tx bs er ks e wa wb D kq E R h) (a1 a2 a3 a4 a5 : Int32) (hP : ∀ h', INVX D kq h' → rest h h' → P h') : LS_42 10 45 87 88 a1 a2 a3 a4 a5 h P := by
  have c := I.1.1
  have K := I.1.2.2.2.2.1
  have b := I.1.2.2.1.1
  have m := I.2.1.1
  have o := I.1.2.1
  have fail : ∀ h', scr h h' → P h' := fun h' s => hP h' (I.scr s).X (mc_rest (scr_mc s))
  show LBody (fX11_partFound 10 a1 a2 h) (fX12_partFound 45 a1 a2) (fun c => c = 1 ∨ c = 3 ∨ c = 2) (fun c v => (c = 1 ∧ v = some (.int 1)) ∨ (c = 3 ∧ v = some (.int 2)) ∨ (c = 2 ∧ v = some (.int 3))) h P
  rcases idx_or (n := 6) (by decide) a1 with hx | ⟨p, hp, rfl⟩
  · refine lb_exc c m (e := 1) (code := 1) ?_ (Or.inl rfl) (fun v hv => by rcases hv with hv | hv | hv <;> first | exact hv.2 | exact absurd hv.1 (by decide)) (by decide) (fun u su => ⟨(0, sI (sI u 12 45 0 0) 12 45 0 1), ?_, (scr_thr _ 0).tr (scr_thr _ 1), (hI_sI _ _ _ _ _ _ _ _).trans (if_pos ⟨rfl, rfl, rfl⟩)⟩) fail
    · unfold fX11_partFound fX11_partFound_b0
      rw [keptPlace_n hx, bx_r]
    · have mu := m.scr su
      unfold fX12_partFound fX12_partFound_b36
      rw [gd_t (k_45 mu), lt_t, noKept_x (mu.scr (scr_thr u 0)) (thr0 u) hx, bd_t]
      exact if_pos (show ¬ (1 : Int32) = 0 by decide)
  · cases q : kq p with
    | none =>
      refine lb_exc c m (e := 3) (code := 2) ?_ (Or.inr (Or.inl rfl)) (fun v hv => by rcases hv with hv | hv | hv <;> first | exact hv.2 | exact absurd hv.1 (by decide)) (by decide) (fun u su => ⟨(0, sI (sI u 12 45 0 0) 12 45 0 2), ?_, (scr_thr _ 0).tr (scr_thr _ 2), (hI_sI _ _ _ _ _ _ _ _).trans (if_pos ⟨rfl, rfl, rfl⟩)⟩) fail
      · unfold fX11_partFound fX11_partFound_b0 fX11_partFound_b4
        rw [keptPlace_s hp, bx_l, gd_t (k_10 c), demandKept_n c K hp q, bx_r]
      · have mu := m.scr su
        have st := su.tr (scr_thr u 0)
        unfold fX12_partFound fX12_partFound_b36
        rw [gd_t (k_45 mu), lt_t, noKept_n (mu.scr (scr_thr u 0)) (thr0 u) (K.scx b st.x) hp q, bd_t]
        exact if_pos (show ¬ (1 : Int32) = 0 by decide)
    | some Q =>
      obtain ⟨a, d1, d2⟩ := demandKept_s c K hp q
      have B := (K.s hp q).2
      have B1 := B.2.2.1
      obtain ⟨e', h1, as, r1, r2, r3, r4, r5, r6⟩ := partsOf_eq c b K.1 d2 B.2.2.2.2 B.2.2.1
      have I1 := I.nc3 r2
      have al := r4.len
      have lf : (lvs 27 Q).length ≤ sz 27 Q := by
        rw [← flat_lvs, ← flat_len]
        exact List.length_filterMap_le _ _
      -- the class as far as the list
      have cl : fX11_partFound 10 (nI p) a2 h = fX11_partFound_b12 10 a2 (some (hX h)) h1 := by
        unfold fX11_partFound fX11_partFound_b0 fX11_partFound_b4 fX11_partFound_b9
        rw [keptPlace_s hp, bx_l, gd_t (k_10 c), d1, bx_l]
        show bd (fX11_simplePartsOf (some a) h) _ = _
        rw [r1, bd_t]
      -- the reference as far as the part
      have rf : ∀ u, scr h1 u → ∀ r : Int32, fX12_simple 45 (nI p) a2 (sI u 12 45 0 0) = some r → fX12_partFound 45 (nI p) a2 u = (if r = (-1 : Int32) then some (0, sI (sI u 12 45 0 0) 12 45 0 3) else fX12_partFound_l51 45 (nI p) r 0 0 (sI u 12 45 0 0)) := fun u su r hr => by
        have mu := I1.2.1.1.scr su
        have s0 := scr_thr u 0
        have mu0 := mu.scr s0
        have Ku := ((I1.scr su).scr s0).1.2.2.2.2.1
        unfold fX12_partFound fX12_partFound_b29 fX12_partFound_b36
        rw [gd_t (k_45 mu), lt_t, noKept_s mu0 (thr0 u) Ku hp q, bd_t]
        show (if ¬ (0 : Int32) = 0 then _ else gd (hK (sI u 12 45 0 0) 45 = 12) (bd (fX12_simple 45 (nI p) a2 (sI u 12 45 0 0)) _)) = _
        rw [if_neg (fun z => z rfl), gd_t (k_45 mu0), hr, bd_t]
        by_cases z : r = -1
        · rw [if_pos z, if_pos z, gs_t, gd_t (k_45 mu0), fails_f mu0 (thr0 u) (by decide), bd_t]
          exact if_neg (show ¬ (1 : Int32) = 0 by decide)
        · rw [if_neg z, if_neg z, gs_t, gd_t (k_45 mu0), fails_t mu0 (thr0 u), bd_t]
          show (if (0 : Int32) = 0 then gd (hK (sI u 12 45 0 0) 45 = 12) (bd (fX12_simple 45 (nI p) a2 (sI u 12 45 0 0)) _) else _) = _
          rw [if_pos rfl, gd_t (k_45 mu0), hr, bd_t]
      have bad : fX11_partFound 10 (nI p) a2 h = some (.inr (2, h1)) → (∀ u, scr h1 u → fX12_simple 45 (nI p) a2 (sI u 12 45 0 0) = some (-1)) → LBody (fX11_partFound 10 (nI p) a2 h) (fX12_partFound 45 (nI p) a2) (fun c => c = 1 ∨ c = 3 ∨ c = 2) (fun c v => (c = 1 ∧ v = some (.int 1)) ∨ (c = 3 ∧ v = some (.int 2)) ∨ (c = 2 ∧ v = some (.int 3))) h P := fun f fm => by
        refine lb_genx (h1 := h1) c (e := 2) (code := 3) f (Or.inr (Or.inr rfl)) (fun v hv => by rcases hv with hv | hv | hv <;> first | exact hv.2 | exact absurd hv.1 (by decide)) (by decide) (by omega) (by omega) (fun u su => ?_)
        have mu := I1.2.1.1.scr su
        have st := (scr_thr u 0).tr (scr_thr (sI u 12 45 0 0) 3)
        exact ⟨(0, sI (sI u 12 45 0 0) 12 45 0 3), k_45 mu, (rf u su _ (fm u su)).trans (if_pos rfl), mu.scr st, (hI_sI _ _ _ _ _ _ _ _).trans (if_pos ⟨rfl, rfl, rfl⟩), hP _ ((I1.scr su).scr st).X ((nc3_rest r2).tr (mc_rest ((scr_mc su).tr (scr_mc st))))⟩
      by_cases hneg : a2 < 0
      · refine bad ?_ (fun u su => ?_)
        · rw [cl]
          unfold fX11_partFound_b12 fX11_partFound_b25
          rw [if_pos hneg]
        · have s0 := scr_thr u 0
          have Iu := (I1.scr su).scr s0
          exact simple_neg Iu.2.1.1 (by omega) (Iu.1.2.2.2.2.1.s hp q).2 hneg
      · obtain ⟨i, hi, rfl⟩ := nI_of hneg
        have fe : ∀ u, scr h1 u → fX12_simple 45 (nI p) (nI i) (sI u 12 45 0 0) = some (optI ((fnth (flat 27 Q) i 0).map Prod.fst)) := fun u su => by
          have Iu := (I1.scr su).scr (scr_thr u 0)
          exact simple_eq Iu.2.1.1 (by omega) (Iu.1.2.2.2.2.1.s hp q).2 hi
        have fg := fnth_get (flat 27 Q) i 0
        rw [flat_lvs] at fg
        cases en : fnth (flat 27 Q) i 0 with
        | none =>
          rw [en] at fg
          have hge : (lvs 27 Q).length ≤ i := List.getElem?_eq_none_iff.mp fg.symm
          refine bad ?_ (fun u su => by rw [fe u su, en]; rfl)
          rw [cl]
          unfold fX11_partFound_b12 fX11_partFound_b25
          rw [if_neg hneg, gs_t, gd_t r3.1, list_size r3.1 r3.2.1, bd_t, if_neg (show ¬ nI i < nI as.length from Int32.not_lt.mpr (nI_le (by omega) hi))]
        | some jl =>
          obtain ⟨j, l⟩ := jl
          rw [en] at fg
          have fg : (lvs 27 Q)[i]? = some l := fg.symm
          have hlt : i < (lvs 27 Q).length := (List.getElem?_eq_some_iff.mp fg).1
          have ok := lvs_ok 27 Q B.2.2.2.2 l (List.mem_of_getElem? fg)
          have Lc := r4.nth i l fg
          obtain ⟨f1, f2⟩ := fnth_at (flat 27 Q) i 0 j l en
          rw [Nat.sub_zero] at f2
          have hj : j < sz 27 Q := by
            have := (List.getElem?_eq_some_iff.mp f2).1
            rw [flat_len] at this
            exact this
          have kl : hK h1 (as.getD i 0) = 4 := by
            obtain ⟨-, b', c', -, -, q1, -⟩ := Lc
            exact q1
          refine lb_gen (h1 := h1) (v0 := nI (cnt (fun t => satT tx 0 l t) 100)) c ?_ I1.1.1 (by omega) (by omega) (fun u su _ => ?_)
          · rw [cl]
            unfold fX11_partFound_b12 fX11_partFound_b25
            have lg := list_get r3.1 r3.2.1 r3.2.2.1 r3.2.2.2.1 r3.2.2.2.2.1 (by omega) (show i < as.length by omega) (r3.2.2.2.2.2.1 i (by omega))
            rw [if_neg hneg, gs_t, gd_t r3.1, list_size r3.1 r3.2.1, bd_t, if_pos (nI_lt (by omega) (by omega)), lg, bd_t, gs_t, gd_t kl, gd_t (k_10 I1.1.1), countFound_eq I1.1.1 o I1.1.2.2.1.CT Lc ok, bd_t]
          · have mu := I1.2.1.1.scr su
            have s0 := scr_thr u 0
            have Iu := (I1.scr su).scr s0
            have nd := flat_M 27 Q 0 (Iu.1.2.2.2.2.1.s hp q).2.2.2.2.1 B.2.2.2.2 j _ f2
            rw [Nat.zero_add] at nd
            refine ⟨sI u 12 45 0 0, k_45 mu, ?_, Iu.1.1, Iu.2.1.1, thr0 u, rfl, hP _ Iu.X ((nc3_rest r2).tr (mc_rest ((scr_mc su).tr (scr_mc s0))))⟩
            rw [rf u su _ (fe u su), en]
            show (if nI j = (-1 : Int32) then _ else fX12_partFound_l51 45 (nI p) (nI j) 0 0 (sI u 12 45 0 0)) = _
            rw [if_neg (nI_nm1 (by omega)), mpartFound_l Iu.2.1.1 o Iu.2.1.2.1 (by omega) (by omega) ok nd.1]
