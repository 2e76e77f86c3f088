/-! UNDOING A CHANGE -/
def popR (R : PST) : PST := (R.1 - 1, R.2)
theorem back_l {w1 : PH} (m : MSh w1) {t n : Nat} (ht : t < 100) (hn : n < 20) (e14 : hI w1 12 45 14 = nI n) : ∀ f j : Nat, ∀ g : PH, j + f = 40 → onlyI isTw w1 g → (∀ i, hI g 21 47 i = if i = t then hI w1 21 54 n &&& 1 else hI w1 21 47 i) → (∀ i, hI g 20 49 i = if i = t then hI w1 20 52 n else hI w1 20 49 i) → (∀ q, hI g 20 48 q = if 40 * t ≤ q ∧ q < 40 * t + j then hI w1 20 53 (40 * n + (q - 40 * t)) else hI w1 20 48 q) → ∃ w2, onlyI isTw w1 w2 ∧ (∀ i, hI w2 21 47 i = if i = t then hI w1 21 54 n &&& 1 else hI w1 21 47 i) ∧ (∀ i, hI w2 20 49 i = if i = t then hI w1 20 52 n else hI w1 20 49 i) ∧ (∀ q, hI w2 20 48 q = if 40 * t ≤ q ∧ q < 40 * t + 40 then hI w1 20 53 (40 * n + (q - 40 * t)) else hI w1 20 48 q) ∧ ∀ w3, fX12_tells 45 (nI t) w2 = some w3 → fX12_undo_l71 45 (nI t) (nI j) g = some (nI t, w3) := by
  intro f
  induction f with
  | zero =>
    intro j g hj og r1 r2 r3
    have hj : j = 40 := by omega
    subst hj
    have mg := m.oI og
    refine ⟨g, og, r1, r2, r3, fun w3 h3 => wh_done ?_⟩
    show fX12_undo_c71 45 (nI t) (nI 40) g = _
    unfold fX12_undo_c71
    rw [if_pos (show (40 : Int32) ≤ nI 40 by decide), gd_t (k_45 mg), h3, bd_t, mr_t]
  | succ f ih =>
    intro j g hj og r1 r2 r3
    have mg := m.oI og
    have hj1 : j < 40 := by omega
    have ck : Int32.toNatClampNeg (nI (40 * t + j)) = 40 * t + j := nI_clamp (by omega)
    have cn : Int32.toNatClampNeg (nI (40 * n + j)) = 40 * n + j := nI_clamp (by omega)
    have e53 : hI g 20 53 (40 * n + j) = hI w1 20 53 (40 * n + j) := og.1 20 53 _ rfl
    obtain ⟨w2, f1, f2, f3, f4, f5⟩ := ih (j + 1) (sI g 20 48 (40 * t + j) (hI w1 20 53 (40 * n + j))) (by omega) (og.tr (onlyI_sI _ _ (tw48 _))) (fun i => (n21 _ _ (by decide)).trans (r1 i)) (fun i => (rdN _ _ (by decide)).trans (r2 i)) (fun s => by
      rw [rdA, r3 s]
      by_cases d : s = 40 * t + j
      · rw [if_pos d, if_pos (by omega), show s - 40 * t = j by omega]
      · rw [if_neg d]
        by_cases z : 40 * t ≤ s ∧ s < 40 * t + j
        · rw [if_pos z, if_pos (by omega)]
        · rw [if_neg z, if_neg (by omega)])
    refine ⟨w2, f1, f2, f3, f4, fun w3 h3 => wh_step (t := (nI (j + 1), sI g 20 48 (40 * t + j) (hI w1 20 53 (40 * n + j)))) ?_ (f5 w3 h3)⟩
    show fX12_undo_c71 45 (nI t) (nI j) g = _
    unfold fX12_undo_c71
    rw [if_neg (show ¬ (40 : Int32) ≤ nI j from nI_ge (b := 40) hj1 (by decide)), gd_t (k_45 mg), r12_45_11 mg, gs_t, og.1 12 45 14 rfl, e14, mul40, mul40, gd_t ⟨k_53 mg, by rw [n_53 mg]; exact inbI (by omega) (by decide)⟩, r12_45_5 mg, gs_t, gd_t ⟨k_48 mg, by rw [n_48 mg]; exact inbI (by omega) (by decide)⟩, lt_t]
    simp only [ck, cn]
    rw [e53, nI_1]
theorem ls_undo {h : PH} {P : PH → Prop} {tx : TX} {bs : List Nat} {er : Int32} {ks : List Nat} {e : Nat} {wa wb : Nat → Nat} {D : Nat → Prop} {kq : Nat → Option (QT 27)} {E : EVT} {R : PST} (I : INV1 tx bs er ks e wa wb D kq E R h) (a1 a2 a3 a4 a5 : Int32) (hP : ∀ h', INVX D kq h' → rest h h' → P h') : LS_9 10 45 87 88 a1 a2 a3 a4 a5 h P := by
  obtain ⟨C, M, T⟩ := id I
  obtain ⟨c, o, B, X, K, Y, V, W, n⟩ := id C
  have b := B.1
  have m := M.1
  have s0 := scr_thr h 0
  have m0 := m.scr s0
  obtain ⟨k, q, num, old⟩ := R
  obtain ⟨v1, v2, v3, v4, v5⟩ := id W
  have v1 : k ≤ 20 := v1
  have v2 : q < 20 := v2
  have v3 : hI h 5 19 2 = nI q := v3
  have v4 : hI h 5 19 3 = nI k := v4
  cases k with
  | zero =>
    refine ⟨(-1, h), ?_, k_10 c, by show hX h - hX h ≤ 1150; omega, by show hV h - hV h ≤ 14000; omega, (-1, sI h 12 45 0 0), k_45 m, ?_, rfl, hP _ (I.scr s0).X (mc_rest (scr_mc s0))⟩
    · unfold fX11_undo fX11_undo_b0
      rw [gd_t (k_10 c), r11_10_4 c, gs_t, gd_t (k_19 c), v4, if_neg (show ¬ ¬ nI 0 = 0 from fun z => z rfl)]
    · have e14 : hI (sI h 12 45 0 0) 12 45 14 = nI 0 := (s0.1 12 45 14 rfl).trans M.2.2.2.1
      unfold fX12_undo
      rw [gd_t (k_45 m), lt_t, e14, if_neg (show ¬ ¬ nI 0 = 0 from fun z => z rfl)]
  | succ k =>
    have hk : k < 20 := by omega
    have hs : (q + k) % 20 < 20 := Nat.mod_lt _ (by decide)
    have ck : Int32.toNatClampNeg (nI ((q + k) % 20)) = (q + k) % 20 := nI_clamp (by omega)
    have sl := slot_eq c v2 hk v3 v4
    obtain ⟨ht, en, A⟩ := v5 k (Nat.lt_succ_self _)
    have ht : num k < 100 := ht
    have en : hI h 20 20 ((q + k) % 20) = nI (num k) := en
    have A : TxA h (hR h 26 21 ((q + k) % 20)) (old k) := A
    have nz : ¬ nI (k + 1) = 0 := fun z => by
      have := (nI_eq (a := k + 1) (b := 0) (by omega) (by decide)).mp z
      omega
    have pk : nI (k + 1) - 1 = nI k := nI_pred k
    -- the class
    have xf : chg FP GP LPn h (sI h 5 19 3 (nI k)) := chg_sI _ _ (fun _ => Or.inl ⟨rfl, rfl, Or.inr rfl⟩)
    have cf := c.P b xf
    have Wf : PSC (k, q, num, old) (sI h 5 19 3 (nI k)) := ⟨by show k ≤ 20; omega, v2, by rw [hI_sI, if_neg (by simp)]; exact v3, by rw [hI_sI, if_pos ⟨rfl, rfl, rfl⟩], fun i hi => by
      have hi : i < k := hi
      have := v5 i (by show i < k + 1; omega)
      rw [n20 _ _ (by decide), hR_sI]
      exact ⟨this.1, this.2.1, this.2.2.P xf⟩⟩
    have p8 : ∀ a k, ¬ FP 8 a k := fun a k z => by rcases z with z | z <;> omega
    have p20 : ∀ a k, 60 ≤ a → ¬ FP 20 a k := fun a k ha z => by rcases z with z | z <;> omega
    have Bf : CB tx (sI h 5 19 3 (nI k)) := B.chg xf (fun k z => absurd z.2 (by decide)) (fun _ _ z => absurd z.1 (by decide)) (fun a _ => p8 a 1) (fun b k hb => p20 b k (by omega))
    have Xf : IXB tx ks e wa wb (sI h 5 19 3 (nI k)) := X.chg b xf (fun z => by rcases z with z | z <;> omega) (fun a k ha z => by rcases z with z | z <;> omega) (fun z => absurd z.1 (by decide)) (fun _ z => absurd z.1 (by decide)) (fun _ _ z => absurd z.1 (by decide)) (fun _ _ z => z)
    have Kf : KP D kq (sI h 5 19 3 (nI k)) := K.chg b xf (fun c y k dy z => by have := (K.1 y dy).1; rcases z with z | z <;> omega) (fun c y k dy z => by have := (K.1 y dy).1; have := z.2; omega) (fun p _ z => absurd z.1 (by decide)) (fun a k h1 _ _ => p20 a k h1) (fun k _ => p20 66 k (by decide)) (fun p _ => ⟨p20 67 p (by decide), p20 69 p (by decide)⟩)
    have Yf : KF tx kq (sI h 5 19 3 (nI k)) := Y.chg b xf (fun _ _ z => z)
    have Vf : EVC E (sI h 5 19 3 (nI k)) := V.chg b xf (fun c a k q z => by have := ec_lt q; rcases z with z | z <;> omega)
    obtain ⟨ks', e', wa', wb', h1, r1, r2, r3, r4, r5, r6, r7, r8, r9, r10, r11, r12, r13⟩ := exchange_eq cf o Bf Xf Kf Yf Vf Wf n ht (A.P xf)
    have C1 : CI (updX tx (num k) (old k)) ks' e' wa' wb' D kq (evF (kb tx kq (num k)) (kb (updX tx (num k) (old k)) kq (num k)) (nI (num k)) E 6) (k, q, num, old) h1 := ⟨r2, r3, r4, r5, r6, r7, r8, r9, r10⟩
    have xw : chg FW (GW e) LW h h1 := (xf.mono (fun _ _ _ _ z => Or.inr (Or.inr z)) (fun _ _ _ _ z => Or.inr ⟨z.1, Or.inr z.2⟩) (fun _ _ z => z.elim)).tr r11
    have I1 : MI tx E (k + 1, q, num, old) h1 := M.C b xw (fun c a k z => Or.inl (by have := FW_34 z; omega)) (fun _ _ _ z => GW_c z)
    have T1 : TP bs er h1 := T.W b xw
    have fc : fX11_undo 10 h = some (nI (num k), h1) := by
      unfold fX11_undo fX11_undo_b0 fX11_undo_b41 fX5_latestNumber fX5_latestText fX5_forgetLatest fX5_forgetLatest_b17
      rw [gd_t (k_10 c), r11_10_4 c, gs_t, gd_t (k_19 c), v4, if_pos nz, gs_t, gd_t (k_19 c), gd_t (k_19 c), sl, bd_t, r5_19_0 c, gs_t, gd_t ⟨k_20 c, by rw [n_20 c]; exact inbI hs (by decide)⟩]
      simp only [ck]
      rw [en, bd_t, gs_t, gd_t (k_19 c), gd_t (k_19 c), sl, bd_t, r5_19_1 c, gs_t, gd_t ⟨k_21 c, by rw [n_21 c]; exact inbI hs (by decide)⟩]
      simp only [ck]
      rw [bd_t, gs_t, gd_t (k_19 c), gd_t (k_19 c), v4, if_neg (show ¬ nI (k + 1) ≤ (0 : Int32) from show ¬ nI (k + 1) ≤ nI 0 from nI_ge (by omega) (by omega)), lt_t, pk, bd_t, gd_t (k_10 cf), r1, bd_t]
    -- the reference
    have s1 := scr_thr h1 0
    have J := I1.scr s1
    have Cg := C1.M (scr_mc s1)
    have o0 : onlyI (fun c a k => c == 12 && a == 45 && k == 14) (sI h1 12 45 0 0) (sI (sI h1 12 45 0 0) 12 45 14 (nI k)) := onlyI_sI _ _ rfl
    have m1 := J.1.oI o0
    have e14 : hI (sI (sI h1 12 45 0 0) 12 45 14 (nI k)) 12 45 14 = nI k := by rw [hI_sI, if_pos ⟨rfl, rfl, rfl⟩]
    have Kg : KM kq (sI (sI h1 12 45 0 0) 12 45 14 (nI k)) := Cg.2.2.2.2.1.KM.oI o0 (fun _ _ _ _ => rfl)
    have Xg := J.2.1.oI o0 (fun i => ⟨rfl, rfl, rfl⟩)
    obtain ⟨w1, g1, g2, g3⟩ := notes_eq m1 o Xg Kg ht
    have mw := m1.oI g2
    have ew14 : hI w1 12 45 14 = nI k := (g2.1 12 45 14 rfl).trans e14
    have old0 : ∀ i, i < k + 1 → hI w1 20 51 i = nI (num i) ∧ OM (old i) i w1 := fun i hi => by
      have := J.2.2.2.2 i hi
      exact ⟨(g2.1 20 51 i rfl).trans ((o0.1 20 51 i rfl).trans this.1), (this.2.to (Or.inr (o0.1 21 54 i rfl)) (o0.1 20 52 i rfl) (fun r _ => o0.1 20 53 _ rfl)).to (Or.inr (g2.1 21 54 i rfl)) (g2.1 20 52 i rfl) (fun r _ => g2.1 20 53 _ rfl)⟩
    have Iw : MI tx E (k, q, num, old) w1 := ⟨mw, Xg.oI g2 (fun i => ⟨rfl, rfl, rfl⟩), (J.2.2.1.oI o0 ⟨rfl, fun i => ⟨rfl, rfl, rfl⟩⟩).oI g2 ⟨rfl, fun i => ⟨rfl, rfl, rfl⟩⟩, ew14, fun i hi => old0 i (by have hi : i < k := hi; omega)⟩
    have ct : Int32.toNatClampNeg (nI (num k)) = num k := nI_clamp (by omega)
    have ckk : Int32.toNatClampNeg (nI k) = k := nI_clamp (by omega)
    have o1 : onlyI isTw w1 (sI w1 21 47 (num k) (hI w1 21 54 k &&& 1)) := onlyI_sI _ _ (tw47 _)
    have m2 := mw.oI o1
    have e52 : hI (sI w1 21 47 (num k) (hI w1 21 54 k &&& 1)) 20 52 k = hI w1 20 52 k := c21 _ _ _ _ (by decide)
    have f14 : hI (sI w1 21 47 (num k) (hI w1 21 54 k &&& 1)) 12 45 14 = nI k := (o1.1 12 45 14 rfl).trans ew14
    have o2 : onlyI isTw w1 (sI (sI w1 21 47 (num k) (hI w1 21 54 k &&& 1)) 20 49 (num k) (hI w1 20 52 k)) := o1.tr (onlyI_sI _ _ (tw49 _))
    obtain ⟨w2, y1, y2, y3, y4, y5⟩ := back_l mw ht hk ew14 40 0 _ rfl o2 (fun i => by rw [n21 _ _ (by decide), rd21]) (fun i => by rw [rdA, c21 _ _ _ _ (by decide)]) (fun s => by rw [if_neg (by omega), rdN _ _ (by decide), c21 _ _ _ _ (by decide)])
    have X2 := mback o Iw.2.1 (old0 k (Nat.lt_succ_self _)).2 y2 y3 y4
    have oa : onlyI isMc (sI h1 12 45 0 0) w1 := (o0.mono (fun c a k z => by
      simp only [Bool.and_eq_true, beq_iff_eq] at z
      obtain ⟨⟨rfl, rfl⟩, rfl⟩ := z
      rfl)).tr (g2.mono (fun _ _ _ z => bg_mc (bg_1 z)))
    obtain ⟨w3, t1, t2, t3, t4, t5, t6, t7⟩ := change_end Cg Iw (Kg.oI g2 nt60) g3 V.1 ht oa y1 X2
    have x12 : hX h1 ≤ hX h + 120 := r12
    have x13 : hV h1 ≤ hV h + 8500 := r13
    refine ⟨(nI (num k), h1), fc, k_10 c, by show hX h1 - hX h ≤ 1150; omega, by show hV h1 - hV h ≤ 14000; omega, (nI (num k), w3), k_45 I1.1, ?_, rfl, hP w3 (INV1.X ⟨t6, t7, ((((T1.scr s1).oI o0 ⟨rfl, rfl, rfl, rfl, fun _ => ⟨rfl, rfl⟩⟩).oI g2 ⟨rfl, rfl, rfl, rfl, fun _ => ⟨rfl, rfl⟩⟩).oI y1 ⟨rfl, rfl, rfl, rfl, fun _ => ⟨rfl, rfl⟩⟩).oI t4 ⟨rfl, rfl, rfl, rfl, fun _ => ⟨rfl, rfl⟩⟩⟩) ((FW_rest xw).tr (mc_rest ((scr_mc s1).tr (chg_I t5 (fun _ _ _ z => z)))))⟩
    have e51 : hI (sI (sI h1 12 45 0 0) 12 45 14 (nI k)) 20 51 k = nI (num k) := (o0.1 20 51 k rfl).trans (J.2.2.2.2 k (Nat.lt_succ_self _)).1
    have j14 : hI (sI h1 12 45 0 0) 12 45 14 = nI (k + 1) := J.2.2.2.1
    unfold fX12_undo
    rw [gd_t (k_45 I1.1), lt_t, j14, if_pos nz, lt_t, pk, r12_45_9 m1, gs_t, e14, gd_t ⟨k_51 m1, by rw [n_51 m1]; exact inbI hk (by decide)⟩]
    simp only [ckk]
    rw [e51, g1, bd_t, gd_t (k_45 mw), r12_45_12 mw, gs_t, ew14, gd_t ⟨k_54 mw, by rw [n_54 mw]; exact inbI hk (by decide)⟩, r12_45_4 mw, gs_t, gd_t ⟨k_47 mw, by rw [n_47 mw]; exact inbI ht (by decide)⟩, lt_t]
    simp only [ct, ckk]
    rw [r12_45_10 m2, gs_t, f14, gd_t ⟨k_52 m2, by rw [n_52 m2]; exact inbI hk (by decide)⟩, r12_45_6 m2, gs_t, gd_t ⟨k_49 m2, by rw [n_49 m2]; exact inbI ht (by decide)⟩, lt_t]
    simp only [ckk]
    rw [e52]
    exact y5 w3 t1
