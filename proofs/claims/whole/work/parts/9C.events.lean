/-- the events: n of them, in the class from q on -/
def EVn (n q : Nat) (f0 f1 f2 : Nat → Int32) (h : PH) : Prop := n ≤ 100 ∧ q < 100 ∧ hI h 1 30 3 = nI q ∧ hI h 1 30 4 = nI n ∧ hI h 12 45 18 = nI n ∧ ∀ i, i < n → hI h 20 31 ((q + i) % 100) = f0 i ∧ hI h 20 56 i = f0 i ∧ hI h 20 32 ((q + i) % 100) = f1 i ∧ hI h 20 57 i = f1 i ∧ hI h 20 33 ((q + i) % 100) = f2 i ∧ hI h 20 58 i = f2 i
theorem EVn.scr {n q : Nat} {f0 f1 f2 : Nat → Int32} {h h' : PH} (T : EVn n q f0 f1 f2 h) (s : scr h h') : EVn n q f0 f1 f2 h' := ⟨T.1, T.2.1, (s.1 1 30 3 rfl).trans T.2.2.1, (s.1 1 30 4 rfl).trans T.2.2.2.1, (s.1 12 45 18 rfl).trans T.2.2.2.2.1, fun i hi => by
  rw [s.1 20 31 _ rfl, s.1 20 56 i rfl, s.1 20 32 _ rfl, s.1 20 57 i rfl, s.1 20 33 _ rfl, s.1 20 58 i rfl]
  exact T.2.2.2.2.2 i hi⟩
theorem ls_events {h : PH} {P : PH → Prop} {n q : Nat} {f0 f1 f2 : Nat → Int32} (c : CSh h) (m : MSh h) (T : EVn n q f0 f1 f2 h) (a1 a2 a3 a4 a5 : Int32) (hP : ∀ h', scr h h' → P h') : LS_45 10 45 87 88 a1 a2 a3 a4 a5 h P := by
  obtain ⟨t0, t1, t2, t3, t4, t5⟩ := T
  refine ⟨nI n, ?_, k_10 c, (nI n, sI h 12 45 0 0), k_45 m, ?_, rfl, hP _ (scr_thr h 0)⟩
  · unfold fX11_events
    rw [gd_t (k_10 c), r11_10_7 c, gs_t, gd_t (k_30 c), t3]
  · unfold fX12_events
    rw [gd_t (k_45 m), lt_t, hI_sI, if_neg (by simp), t4]
/-- a figure of an event: 0, 1, or 2 -/
def figV (f0 f1 f2 : Nat → Int32) (i : Nat) (y : Int32) : Int32 := if y = 0 then f0 i else if y = 1 then f1 i else f2 i
theorem ring {q i k : Nat} (hk : 0 < k) (hk2 : k < 2 ^ 31) (h : q + i < 2 ^ 31) : (nI q + nI i) - (nI q + nI i) / nI k * nI k = nI ((q + i) % k) := by
  rw [nI_add]
  exact pk_rem h hk hk2
theorem figure_eq {h : PH} (c : CSh h) {n q : Nat} {f0 f1 f2 : Nat → Int32} (T : EVn n q f0 f1 f2 h) {i : Nat} (hi : i < n) (y : Int32) : fX1_figure 30 (nI i) y h = some (figV f0 f1 f2 i y) := by
  obtain ⟨t0, t1, t2, t3, t4, t5⟩ := T
  obtain ⟨e1, e2, e3, e4, e5, e6⟩ := t5 i hi
  have hm : (q + i) % 100 < 100 := Nat.mod_lt _ (by decide)
  have rg : (nI q + nI i) - (nI q + nI i) / (100 : Int32) * (100 : Int32) = nI ((q + i) % 100) := ring (k := 100) (by decide) (by decide) (by omega)
  unfold fX1_figure figV
  rw [if_neg (nI_pos (by omega)), gd_t (k_30 c), t3, if_pos (nI_lt hi (by omega)), t2, rg, r1_30_0 c, r1_30_1 c, r1_30_2 c, gs_t, gs_t, gs_t, gd_t ⟨k_31 c, by rw [n_31 c]; exact inbI hm (by decide)⟩, gd_t ⟨k_32 c, by rw [n_32 c]; exact inbI hm (by decide)⟩, gd_t ⟨k_33 c, by rw [n_33 c]; exact inbI hm (by decide)⟩, nI_clamp (by omega), e1, e3, e5]
  split
  · rfl
  · split <;> rfl
theorem two_or (y : Int32) : (fX12_in y 0 2 = some 0 ∧ (y < 0 ∨ ¬ y ≤ 2)) ∨ (fX12_in y 0 2 = some 1 ∧ ¬ y < 0 ∧ y ≤ 2) := by
  rw [in_eq]
  by_cases h0 : y < 0
  · left
    refine ⟨?_, Or.inl h0⟩
    rw [decide_eq_false (Int32.not_le.mpr h0), Bool.false_and]
    rfl
  · by_cases h2 : y ≤ 2
    · right
      refine ⟨?_, h0, h2⟩
      rw [decide_eq_true (Int32.not_lt.mp h0), decide_eq_true h2]
      rfl
    · left
      refine ⟨?_, Or.inr h2⟩
      rw [decide_eq_false h2, Bool.and_false]
      rfl
theorem ls_eventOf {h : PH} {P : PH → Prop} {n q : Nat} {f0 f1 f2 : Nat → Int32} (c : CSh h) (m : MSh h) (T : EVn n q f0 f1 f2 h) (a1 a2 a3 a4 a5 : Int32) (hP : ∀ h', scr h h' → P h') : LS_46 10 45 87 88 a1 a2 a3 a4 a5 h P := by
  show LBody (fX11_eventOf 10 a1 a2 h) (fX12_eventOf 45 a1 a2) (fun c => c = 2 ∨ c = 1) (fun c v => (c = 2 ∧ v = some (.int 1)) ∨ (c = 1 ∧ v = some (.int 2))) h P
  have t0 := T.1
  have t3 := T.2.2.2.1
  rcases idx_or (n := n) (by omega) a1 with hx | ⟨i, hi, rfl⟩
  · refine lb_exc c m (e := 2) (code := 1) ?_ (Or.inl rfl) (fun v hv => hv.elim (fun q => q.2) (fun q => absurd q.1 (by decide))) (by decide) (fun u su => ⟨(0, sI (sI u 12 45 0 0) 12 45 0 1), ?_, (scr_thr _ 0).tr (scr_thr _ 1), (hI_sI _ _ _ _ _ _ _ _).trans (if_pos ⟨rfl, rfl, rfl⟩)⟩) hP
    · unfold fX11_eventOf fX11_eventOf_b0 fX11_eventOf_b15
      by_cases h0 : a1 < 0
      · rw [if_pos h0]
      · rw [if_neg h0, gd_t (k_10 c), r11_10_7 c, gs_t, gd_t (k_30 c), t3, if_neg (hx.resolve_left h0)]
    · have mu := m.scr su
      have m1 := mu.scr (scr_thr u 0)
      have Tu := T.scr su
      unfold fX12_eventOf fX12_eventOf_b38
      rw [gd_t (k_45 mu), lt_t, hI_sI, if_neg (by simp), Tu.2.2.2.2.1, inIdx_n (by omega) hx, bd_t, fails_f m1 (thr0 u) (by decide), bd_t]
      exact if_pos (show ¬ (1 : Int32) = 0 by decide)
  · have m0 : ∀ u, scr h u → fX12_eventOf 45 (nI i) a2 u = bd (fX12_in a2 0 2) (fun z5 => gd (hK (sI u 12 45 0 0) 45 = 12) (bd (fX12_fails 45 z5 2 (sI u 12 45 0 0)) (fun z7 => if (z7.1 = 0) then (if (¬ a2 = 0) then (if (¬ a2 = (1 : Int32)) then (gd (hK z7.2 45 = 12) (gs (hR z7.2 12 45 17) (fun a9 => gd (hK z7.2 a9 = 20 ∧ inb (nI i) (hN z7.2 a9)) (fX12_eventOf_b73 (hI z7.2 20 a9 (Int32.toNatClampNeg (nI i))) z7.2)))) else gd (hK z7.2 45 = 12) (gs (hR z7.2 12 45 16) (fun a14 => gd (hK z7.2 a14 = 20 ∧ inb (nI i) (hN z7.2 a14)) (fX12_eventOf_b73 (hI z7.2 20 a14 (Int32.toNatClampNeg (nI i))) z7.2)))) else gd (hK z7.2 45 = 12) (gs (hR z7.2 12 45 15) (fun a19 => gd (hK z7.2 a19 = 20 ∧ inb (nI i) (hN z7.2 a19)) (fX12_eventOf_b73 (hI z7.2 20 a19 (Int32.toNatClampNeg (nI i))) z7.2)))) else fX12_eventOf_b38 z7.2))) := fun u su => by
      have mu := m.scr su
      have m1 := mu.scr (scr_thr u 0)
      have Tu := T.scr su
      unfold fX12_eventOf
      rw [gd_t (k_45 mu), lt_t, hI_sI, if_neg (by simp), Tu.2.2.2.2.1, inIdx_s (by omega) hi, bd_t, fails_t m1 (thr0 u), bd_t]
      exact if_neg (fun q => q rfl)
    rcases two_or a2 with ⟨y1, y2⟩ | ⟨y1, y2, y3⟩
    · refine lb_exc c m (e := 1) (code := 2) ?_ (Or.inr rfl) (fun v hv => hv.elim (fun q => absurd q.1 (by decide)) (fun q => q.2)) (by decide) (fun u su => ⟨(0, sI (sI u 12 45 0 0) 12 45 0 2), ?_, (scr_thr _ 0).tr (scr_thr _ 2), (hI_sI _ _ _ _ _ _ _ _).trans (if_pos ⟨rfl, rfl, rfl⟩)⟩) hP
      · unfold fX11_eventOf fX11_eventOf_b0 fX11_eventOf_b32
        rw [if_neg (nI_pos (by omega)), gd_t (k_10 c), r11_10_7 c, gs_t, gd_t (k_30 c), t3, if_pos (nI_lt hi (by omega))]
        by_cases h0 : a2 < 0
        · rw [if_pos h0]
        · rw [if_neg h0, if_neg (y2.resolve_left h0)]
      · have mu := m.scr su
        have m1 := mu.scr (scr_thr u 0)
        rw [m0 u su, y1, bd_t, gd_t (k_45 m1), fails_f m1 (thr0 u) (by decide), bd_t]
        exact if_neg (show ¬ (1 : Int32) = 0 by decide)
    · refine lb_val c m (v0 := figV f0 f1 f2 i a2) ?_ (fun u su => ⟨_, ?_, scr_thr u 0, thr0 u, rfl⟩) hP
      · unfold fX11_eventOf fX11_eventOf_b0
        rw [if_neg (nI_pos (by omega)), gd_t (k_10 c), r11_10_7 c, gs_t, gd_t (k_30 c), t3, if_pos (nI_lt hi (by omega)), if_neg y2, if_pos y3, gs_t, gd_t (k_30 c), figure_eq c T hi, bd_t]
      · have mu := m.scr su
        have m1 := mu.scr (scr_thr u 0)
        obtain ⟨t0, t1, t2, t3, t4, t5⟩ := (T.scr su).scr (scr_thr u 0)
        obtain ⟨e1, e2, e3, e4, e5, e6⟩ := t5 i hi
        rw [m0 u su, y1, bd_t, gd_t (k_45 m1), fails_t m1 (thr0 u), bd_t]
        generalize sI u 12 45 0 0 = g at m1 e1 e2 e3 e4 e5 e6 ⊢
        show (if (0 : Int32) = 0 then (if (¬ a2 = 0) then (if (¬ a2 = (1 : Int32)) then (gd (hK g 45 = 12) (gs (hR g 12 45 17) (fun a9 => gd (hK g a9 = 20 ∧ inb (nI i) (hN g a9)) (some (hI g 20 a9 (Int32.toNatClampNeg (nI i)), g))))) else gd (hK g 45 = 12) (gs (hR g 12 45 16) (fun a14 => gd (hK g a14 = 20 ∧ inb (nI i) (hN g a14)) (some (hI g 20 a14 (Int32.toNatClampNeg (nI i)), g))))) else gd (hK g 45 = 12) (gs (hR g 12 45 15) (fun a19 => gd (hK g a19 = 20 ∧ inb (nI i) (hN g a19)) (some (hI g 20 a19 (Int32.toNatClampNeg (nI i)), g))))) else _) = _
        rw [if_pos rfl]
        unfold figV
        by_cases z0 : a2 = 0
        · rw [if_neg (fun q => q z0), if_pos z0, gd_t (k_45 m1), r12_45_15 m1, gs_t, gd_t ⟨k_56 m1, by rw [n_56 m1]; exact inbI (by omega) (by decide)⟩, nI_clamp (by omega), e2]
        · rw [if_pos z0, if_neg z0]
          by_cases z1 : a2 = 1
          · rw [if_neg (fun q => q z1), if_pos z1, gd_t (k_45 m1), r12_45_16 m1, gs_t, gd_t ⟨k_57 m1, by rw [n_57 m1]; exact inbI (by omega) (by decide)⟩, nI_clamp (by omega), e4]
          · rw [if_pos z1, if_neg z1, gd_t (k_45 m1), r12_45_17 m1, gs_t, gd_t ⟨k_58 m1, by rw [n_58 m1]; exact inbI (by omega) (by decide)⟩, nI_clamp (by omega), e6]
/-- what can be undone: n changes, in the class from q on -/
def PSn (n q : Nat) (num : Nat → Nat) (old : Nat → Option (List Nat)) (h : PH) : Prop := n ≤ 20 ∧ q < 20 ∧ hI h 5 19 2 = nI q ∧ hI h 5 19 3 = nI n ∧ hI h 12 45 14 = nI n ∧ ∀ i, i < n → num i < 100 ∧ hI h 20 20 ((q + i) % 20) = nI (num i) ∧ hI h 20 51 i = nI (num i) ∧ match old i with
  | none => hR h 26 21 ((q + i) % 20) = none ∧ hI h 21 54 i = 0
  | some ws => okT ws ∧ (∃ a b, hR h 26 21 ((q + i) % 20) = some a ∧ 89 ≤ a ∧ 89 ≤ b ∧ TextAt h a b ws) ∧ hI h 21 54 i = 1 ∧ hI h 20 52 i = nI ws.length ∧ ∀ k, k < ws.length → hI h 20 53 (40 * i + k) = nI (ws.getD k 0)
theorem ls_undoable {h : PH} {P : PH → Prop} {n q : Nat} {num : Nat → Nat} {old : Nat → Option (List Nat)} (c : CSh h) (m : MSh h) (T : PSn n q num old h) (a1 a2 a3 a4 a5 : Int32) (hP : ∀ h', scr h h' → P h') : LS_10 10 45 87 88 a1 a2 a3 a4 a5 h P := by
  obtain ⟨t0, t1, t2, t3, t4, t5⟩ := T
  refine ⟨nI n, ?_, k_10 c, (nI n, sI h 12 45 0 0), k_45 m, ?_, rfl, hP _ (scr_thr h 0)⟩
  · unfold fX11_undoable
    rw [gd_t (k_10 c), r11_10_4 c, gs_t, gd_t (k_19 c), t3]
  · unfold fX12_undoable
    rw [gd_t (k_45 m), lt_t, hI_sI, if_neg (by simp), t4]
