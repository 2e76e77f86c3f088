/-! THE LETTERS OF A WORD -/
theorem letterOf_l : ∀ d w i : Nat, w < 2 ^ 31 → i + d < 2 ^ 31 → fX12_letterOf_l9 (nI i) (nI w) (nI (i + d)) = some (nI (w / 27 ^ d % 27)) := by
  intro d
  induction d with
  | zero =>
    intro w i hw hi
    unfold fX12_letterOf_l9
    refine wh_done ?_
    show fX12_letterOf_c9 (nI i) (nI w) (nI (i + 0)) = _
    unfold fX12_letterOf_c9
    rw [if_pos (by rw [nI_leI (by omega) (by omega)]; omega), irem27 hw, Nat.pow_zero, Nat.div_one, mr_t]
  | succ d ih =>
    intro w i hw hi
    unfold fX12_letterOf_l9 at ih ⊢
    refine wh_step (t := (nI (w / 27), nI (i + d))) ?_ ?_
    · show fX12_letterOf_c9 (nI i) (nI w) (nI (i + (d + 1))) = _
      unfold fX12_letterOf_c9
      rw [if_neg (by rw [nI_leI (by omega) (by omega)]; omega), i27, pk_div hw (by decide) (by decide), show i + (d + 1) = i + d + 1 from rfl, pk_m1]
    · have q := ih (w / 27) i (by omega) (by omega)
      rw [Nat.div_div_eq_div_mul, Nat.mul_comm, ← Nat.pow_succ] at q
      exact q
/-- the number of the letter at place i -/
def ltr (w i : Nat) : Nat := w / 27 ^ (nl 6 w - 1 - i) % 27
theorem letterOfM_eq {w i : Nat} (h : w < 27 ^ 6) (hi : i < nl 6 w) : fX12_letterOf (nI w) (nI i) = some (nI (ltr w i)) := by
  have hb := nl_bd 6 w
  have hw : w < 2 ^ 31 := Nat.lt_of_lt_of_le h (by decide)
  unfold fX12_letterOf ltr
  rw [letters6 h, bd_t, show (1 : Int32) = nI 1 from rfl, pk_sub (by omega)]
  have q := letterOf_l (nl 6 w - 1 - i) w i hw (by omega)
  rw [show i + (nl 6 w - 1 - i) = nl 6 w - 1 by omega] at q
  exact q
theorem chr_d : ∀ d, d < 27 → ((Int32.toUInt32 ((96 : Int32) + nI d)) % 65536).toInt32 = nI (96 + d) ∧ (((Int32.toUInt32 (nI (96 + d))).toUInt16).toUInt32).toInt32 = nI (96 + d) := by decide +kernel
theorem letterOfX_eq {w i : Nat} (h : w < 27 ^ 6) (hi : i < nl 6 w) : fX10_letterOf (nI w) (nI i) = some (nI (96 + ltr w i)) := by
  have hb := nl_bd 6 w
  have hw : w < 2 ^ 31 := Nat.lt_of_lt_of_le h (by decide)
  obtain ⟨c1, c2⟩ := chr_d (ltr w i) (Nat.mod_lt _ (by decide))
  have hq : w / 27 ^ (nl 6 w - 1 - i) < 2 ^ 31 := Nat.lt_of_le_of_lt (Nat.div_le_self _ _) hw
  have hp : pwv (Int32.toNatClampNeg (nI (nl 6 w - 1 - i))) = nI (27 ^ (nl 6 w - 1 - i)) := by rw [nI_clamp (by omega), pwv_eq]
  have he : ((Int32.toUInt32 ((96 : Int32) + (nI w / pwv (Int32.toNatClampNeg (nI (nl 6 w - 1 - i))) - nI w / pwv (Int32.toNatClampNeg (nI (nl 6 w - 1 - i))) / (27 : Int32) * (27 : Int32)))) % 65536).toInt32 = nI (96 + ltr w i) := by
    rw [hp, pk_div (d := 27 ^ (nl 6 w - 1 - i)) hw (Nat.pow_pos (by decide)) (p27 (by omega)), irem27 hq]
    exact c1
  have hz : ¬ pwv (Int32.toNatClampNeg (nI (nl 6 w - 1 - i))) = 0 := by
    rw [hp, show (0 : Int32) = nI 0 from rfl, nI_eq (p27 (by omega)) (by decide)]
    exact Nat.ne_of_gt (Nat.pow_pos (by decide))
  unfold fX10_letterOf
  rw [lettersOf_eq h, bd_t, show nI (nl 6 w) - 1 - nI i = nI (nl 6 w - 1 - i) by rw [show (1 : Int32) = nI 1 from rfl, pk_sub (by omega), pk_sub (by omega)], if_neg (nI_pos (by omega)), if_pos (by rw [show (6 : Int32) = nI 6 from rfl]; exact nI_lt (by omega) (by decide)), gd_t (inbI (by omega) (by decide)), gd_t hz, he, gd_t c2]
theorem sp32 (h : PH) : fX12_letterAt_b38 h = some (32, h) := by
  unfold fX12_letterAt_b38
  exact gd_t (by decide)
theorem X12_letterAt_b1 {u : PH} (m : MSh u) {tx : TX} (o : okX tx) (T : MT tx u) {x y : Int32} (z : Int32) (e : plX tx x y = none) : fX12_letterAt 45 x y z u = some (32, sI (sI u 12 45 0 0) 12 45 0 1) := by
  have s1 := scr_thr u 0
  unfold fX12_letterAt
  rw [gd_t (k_45 m), lt_t, noPlace_eq (m.scr s1) (thr0 u) o (T.scr s1), e, bd_t]
  show (if ¬ (1 : Int32) = 0 then _ else _) = _
  rw [if_pos (by decide)]
  exact sp32 _
theorem X12_letterAt_p {u : PH} (m : MSh u) {tx : TX} (o : okX tx) (T : MT tx u) {t i : Nat} {ws : List Nat} (ht : t < 100) (q : tx t = some ws) (e : txI tx (nI t) = some ws) (e2 : plI ws (nI i) = some i) (hi : i < ws.length) (z : Int32) : fX12_letterAt 45 (nI t) (nI i) z u = some (match plI (List.range (nl 6 (ws.getD i 0))) z with
      | none => (32, sI (sI u 12 45 0 0) 12 45 0 1)
      | some k => (nI (96 + ltr (ws.getD i 0) k), sI u 12 45 0 0)) := by
  have s1 := scr_thr u 0
  have m1 := m.scr s1
  have t1 := T.scr s1
  have ok := (o t ws q).2
  have hl := ok.1
  have hw := vw2 (ok.v hi)
  have hb := nl_bd 6 (ws.getD i 0)
  have hr : (List.range (nl 6 (ws.getD i 0))).length = nl 6 (ws.getD i 0) := List.length_range ..
  have ip := inPlace_eq (ws := List.range (nl 6 (ws.getD i 0))) (by omega) z
  rw [hr] at ip
  have wi := wordIn_eq m1 ht (i := i) (by omega)
  rw [(t1.s ht q).2.2 i hi] at wi
  unfold fX12_letterAt
  rw [gd_t (k_45 m), lt_t, noPlace_eq m1 (thr0 u) o t1, plX_ss e e2, bd_t]
  show (if ¬ (0 : Int32) = 0 then _ else _) = _
  rw [if_neg (by decide)]
  show gd (hK (sI u 12 45 0 0) 45 = 12) (bd (fX12_wordIn 45 (nI t) (nI i) (sI u 12 45 0 0)) _) = _
  rw [gd_t (k_45 m1), wi, bd_t, letters6 hw, bd_t, ip, bd_t]
  show bd (fX12_fails 45 _ 1 (sI u 12 45 0 0)) _ = _
  rw [fails_b m1 (thr0 u) (by decide), bd_t]
  rcases plI_or (ws := List.range (nl 6 (ws.getD i 0))) (by omega) z with ⟨-, e3⟩ | ⟨k, hk, rfl, e3⟩
  · rw [e3]
    show (if (1 : Int32) = 0 then _ else _) = _
    rw [if_neg (by decide)]
    exact sp32 _
  · rw [e3]
    rw [hr] at hk
    obtain ⟨c1, c2⟩ := chr_d (ltr (ws.getD i 0) k) (Nat.mod_lt _ (by decide))
    show (if (0 : Int32) = 0 then _ else _) = _
    rw [if_pos rfl]
    show gd (hK (sI u 12 45 0 0) 45 = 12) (bd (fX12_wordIn 45 (nI t) (nI i) (sI u 12 45 0 0)) _) = _
    rw [gd_t (k_45 m1), wi, bd_t, letterOfM_eq hw hk, bd_t, c1, gd_t c2]
    rfl
theorem ls_letterAt {h : PH} {P : PH → Prop} {tx : TX} (c : CSh h) (m : MSh h) (o : okX tx) (T1 : CT tx h) (T2 : MT tx h) (a1 a2 a3 a4 a5 : Int32) (hP : ∀ h', scr h h' → P h') : LS_15 10 45 87 88 a1 a2 a3 a4 a5 h P := by
  show LBody (fX11_letterAt 10 a1 a2 a3 h) (fX12_letterAt 45 a1 a2 a3) (fun c => c = 2) (fun c v => c = 2 ∧ v = some (.int 1)) h P
  have bad : fX11_letterAt 10 a1 a2 a3 h = some (.inr (2, h)) → (∀ u, scr h u → fX12_letterAt 45 a1 a2 a3 u = some (32, sI (sI u 12 45 0 0) 12 45 0 1)) → LBody (fX11_letterAt 10 a1 a2 a3 h) (fX12_letterAt 45 a1 a2 a3) (fun c => c = 2) (fun c v => c = 2 ∧ v = some (.int 1)) h P := fun f g =>
    lb_exc c m (e := 2) (code := 1) f rfl (fun v hv => hv.2) (by decide) (fun u su => ⟨_, g u su, (scr_thr _ 0).tr (scr_thr _ 1), (hI_sI _ _ _ _ _ _ _ _).trans (if_pos ⟨rfl, rfl, rfl⟩)⟩) hP
  rcases demandText_eq c T1 a1 with ⟨e, f⟩ | ⟨t, ws, a, b, ht, rfl, q, e, h1, h2, h3, h4, f⟩
  · refine bad ?_ (fun u su => X12_letterAt_b1 (m.scr su) o (T2.scr su) a3 (plX_n e a2))
    unfold fX11_letterAt fX11_letterAt_b0
    rw [gd_t (k_10 c), f, bx_r]
  · have ok := (o t ws q).2
    have dp := demandPlace_eq h4 ok.1 a2
    rcases plI_or ok.1 a2 with ⟨-, e2⟩ | ⟨i, hi, rfl, e2⟩
    · refine bad ?_ (fun u su => X12_letterAt_b1 (m.scr su) o (T2.scr su) a3 (plX_sn e e2))
      rw [e2] at dp
      unfold fX11_letterAt fX11_letterAt_b0 fX11_letterAt_b5
      rw [gd_t (k_10 c), f, bx_l]
      show bx (fX11_demandPlace (some a) a2 h) _ = _
      rw [dp, bx_r]
    · rw [e2] at dp
      have hw := vw2 (ok.v hi)
      have hb := nl_bd 6 (ws.getD i 0)
      have hr : (List.range (nl 6 (ws.getD i 0))).length = nl 6 (ws.getD i 0) := List.length_range ..
      have pm : ∀ u, scr h u → _ := fun u su => X12_letterAt_p (m.scr su) o (T2.scr su) ht q e e2 hi a3
      have e0 : fX11_letterAt 10 (nI t) (nI i) a3 h = fX11_letterAt_b13 (nI i) a3 (some a) h := by
        unfold fX11_letterAt fX11_letterAt_b0 fX11_letterAt_b5
        rw [gd_t (k_10 c), f, bx_l]
        show bx (fX11_demandPlace (some a) (nI i) h) _ = _
        rw [dp, bx_l]
      rcases plI_or (ws := List.range (nl 6 (ws.getD i 0))) (by omega) a3 with ⟨k1, e3⟩ | ⟨k, hk, rfl, e3⟩
      · rw [e3] at pm
        refine bad ?_ (fun u su => pm u su)
        rw [e0]
        unfold fX11_letterAt_b13 fX11_letterAt_b34
        rw [gs_t, gd_t h4.1, X8_at_eq h4 ok hi, bd_t]
        by_cases k0 : a3 < 0
        · rw [if_pos k0]
        · have k2 := k1.resolve_left k0
          rw [hr] at k2
          rw [if_neg k0, lettersOf_eq hw, bd_t, if_neg k2]
      · rw [e3] at pm
        rw [hr] at hk
        obtain ⟨c1, c2⟩ := chr_d (ltr (ws.getD i 0) k) (Nat.mod_lt _ (by decide))
        refine lb_val c m (v0 := nI (96 + ltr (ws.getD i 0) k)) ?_ (fun u su => ⟨_, pm u su, scr_thr u 0, thr0 u, rfl⟩) hP
        rw [e0]
        unfold fX11_letterAt_b13
        rw [gs_t, gd_t h4.1, X8_at_eq h4 ok hi, bd_t, if_neg (nI_pos (by omega)), lettersOf_eq hw, bd_t, if_pos (nI_lt hk (by omega)), letterOfX_eq hw hk, bd_t, gd_t c2]
