def nby5 (a b c d e : Int32) : Nat := nby a + nby b + nby c + nby d + nby e
def pushA (bs : List Nat) (a b c d e : Int32) : List Nat := pushs (pushs (pushs (pushs (pushs bs a) b) c) d) e
theorem pushA_len (bs : List Nat) (a b c d e : Int32) : (pushA bs a b c d e).length = bs.length + nby5 a b c d e := by
  unfold pushA nby5
  rw [pushs_len, pushs_len, pushs_len, pushs_len, pushs_len]
  omega
theorem nby_le (x : Int32) : nby x ≤ 4 := by
  have h : ∀ s, qby x s ≤ 1 := fun s => by
    unfold qby
    split <;> omega
  have := h 24; have := h 16; have := h 8; have := h 0
  unfold nby
  omega
theorem nby5_le (a b c d e : Int32) : nby5 a b c d e ≤ 20 := by
  have := nby_le a; have := nby_le b; have := nby_le c; have := nby_le d; have := nby_le e
  unfold nby5
  omega
theorem X11_append_ok {h : PH} (c : CSh h) {bs : List Nat} (T : TC bs h) (a1 a2 a3 a4 a5 : Int32) (hl : bs.length + nby5 a1 a2 a3 a4 a5 ≤ 300) : ∃ h', fX11_append 10 a1 a2 a3 a4 a5 h = some (.inl (nI (bs.length + nby5 a1 a2 a3 a4 a5), h')) ∧ TC (pushA bs a1 a2 a3 a4 a5) h' ∧ onlyI isTC h h' := by
  have L := pushA_len bs a1 a2 a3 a4 a5
  unfold pushA at L ⊢
  have g2 : (pushs bs a1).length ≤ (pushs (pushs bs a1) a2).length := by rw [pushs_len (pushs bs a1)]; omega
  have g3 : (pushs (pushs bs a1) a2).length ≤ (pushs (pushs (pushs bs a1) a2) a3).length := by rw [pushs_len (pushs (pushs bs a1) a2)]; omega
  have g4 : (pushs (pushs (pushs bs a1) a2) a3).length ≤ (pushs (pushs (pushs (pushs bs a1) a2) a3) a4).length := by rw [pushs_len (pushs (pushs (pushs bs a1) a2) a3)]; omega
  have g5 : (pushs (pushs (pushs (pushs bs a1) a2) a3) a4).length ≤ (pushs (pushs (pushs (pushs (pushs bs a1) a2) a3) a4) a5).length := by rw [pushs_len (pushs (pushs (pushs (pushs bs a1) a2) a3) a4)]; omega
  obtain ⟨h1, e1, t1, o1⟩ := X7_addBytes_eq c T a1 (by omega)
  have c1 := c.oI o1
  obtain ⟨h2, e2, t2, o2⟩ := X7_addBytes_eq c1 t1 a2 (by omega)
  have c2 := c1.oI o2
  obtain ⟨h3, e3, t3, o3⟩ := X7_addBytes_eq c2 t2 a3 (by omega)
  have c3 := c2.oI o3
  obtain ⟨h4, e4, t4, o4⟩ := X7_addBytes_eq c3 t3 a4 (by omega)
  have c4 := c3.oI o4
  obtain ⟨h5, e5, t5, o5⟩ := X7_addBytes_eq c4 t4 a5 (by omega)
  have c5 := c4.oI o5
  refine ⟨h5, ?_, t5, (((o1.tr o2).tr o3).tr o4).tr o5⟩
  have hv : nI bs.length + ((((nI (nby a1) + nI (nby a2)) + nI (nby a3)) + nI (nby a4)) + nI (nby a5)) = nI (bs.length + nby5 a1 a2 a3 a4 a5) := by
    rw [nI_add, nI_add, nI_add, nI_add, nI_add]
    rfl
  unfold fX11_append fX11_append_b0
  rw [X7_bytesOf_eq, bd_t, X7_bytesOf_eq, bd_t, X7_bytesOf_eq, bd_t, X7_bytesOf_eq, bd_t, X7_bytesOf_eq, bd_t, gd_t (k_10 c), r11_10_0 c, gs_t, gd_t (k_11 c), T.1, hv, if_pos (show nI (bs.length + nby5 a1 a2 a3 a4 a5) ≤ (300 : Int32) from (nI_leI (b := 300) (by omega) (by decide)).mpr hl), gs_t, gd_t (k_11 c), e1, bd_t,
    gd_t (k_10 c1), r11_10_0 c1, gs_t, gd_t (k_11 c1), e2, bd_t, gd_t (k_10 c2), r11_10_0 c2, gs_t, gd_t (k_11 c2), e3, bd_t, gd_t (k_10 c3), r11_10_0 c3, gs_t, gd_t (k_11 c3), e4, bd_t, gd_t (k_10 c4), r11_10_0 c4, gs_t, gd_t (k_11 c4), e5, bd_t, gd_t (k_10 c5), r11_10_0 c5, gs_t, gd_t (k_11 c5), t5.1, L]
theorem X11_append_no {h : PH} (c : CSh h) {bs : List Nat} (T : TC bs h) (a1 a2 a3 a4 a5 : Int32) (h3 : bs.length ≤ 300) (hl : ¬ bs.length + nby5 a1 a2 a3 a4 a5 ≤ 300) : fX11_append 10 a1 a2 a3 a4 a5 h = some (.inr (0, h)) := by
  have := nby5_le a1 a2 a3 a4 a5
  have hv : nI bs.length + ((((nI (nby a1) + nI (nby a2)) + nI (nby a3)) + nI (nby a4)) + nI (nby a5)) = nI (bs.length + nby5 a1 a2 a3 a4 a5) := by
    rw [nI_add, nI_add, nI_add, nI_add, nI_add]
    rfl
  unfold fX11_append fX11_append_b0
  rw [X7_bytesOf_eq, bd_t, X7_bytesOf_eq, bd_t, X7_bytesOf_eq, bd_t, X7_bytesOf_eq, bd_t, X7_bytesOf_eq, bd_t, gd_t (k_10 c), r11_10_0 c, gs_t, gd_t (k_11 c), T.1, hv, if_neg (show ¬ nI (bs.length + nby5 a1 a2 a3 a4 a5) ≤ (300 : Int32) from fun q => hl ((nI_leI (b := 300) (by omega) (by decide)).mp q))]
theorem X12_append_ok {u : PH} (m : MSh u) {bs : List Nat} (T : TM bs u) (a1 a2 a3 a4 a5 : Int32) (hl : bs.length + nby5 a1 a2 a3 a4 a5 ≤ 300) : ∃ w, fX12_append 45 a1 a2 a3 a4 a5 u = some (nI (bs.length + nby5 a1 a2 a3 a4 a5), w) ∧ TM (pushA bs a1 a2 a3 a4 a5) w ∧ onlyI isTM (sI u 12 45 0 0) w := by
  have s1 := scr_thr u 0
  have m0 := m.scr s1
  have T0 := T.scr s1
  generalize hu : sI u 12 45 0 0 = u0 at s1 m0 T0 ⊢
  have h0 : hI u0 12 45 0 = 0 := by rw [← hu]; exact thr0 u
  have L := pushA_len bs a1 a2 a3 a4 a5
  unfold pushA at L ⊢
  have g2 : (pushs bs a1).length ≤ (pushs (pushs bs a1) a2).length := by rw [pushs_len (pushs bs a1)]; omega
  have g3 : (pushs (pushs bs a1) a2).length ≤ (pushs (pushs (pushs bs a1) a2) a3).length := by rw [pushs_len (pushs (pushs bs a1) a2)]; omega
  have g4 : (pushs (pushs (pushs bs a1) a2) a3).length ≤ (pushs (pushs (pushs (pushs bs a1) a2) a3) a4).length := by rw [pushs_len (pushs (pushs (pushs bs a1) a2) a3)]; omega
  have g5 : (pushs (pushs (pushs (pushs bs a1) a2) a3) a4).length ≤ (pushs (pushs (pushs (pushs (pushs bs a1) a2) a3) a4) a5).length := by rw [pushs_len (pushs (pushs (pushs (pushs bs a1) a2) a3) a4)]; omega
  obtain ⟨h1, e1, t1, o1⟩ := X12_takesBytes_eq m0 T0 a1 (by omega)
  have c1 := m0.oI o1
  obtain ⟨h2, e2, t2, o2⟩ := X12_takesBytes_eq c1 t1 a2 (by omega)
  have c2 := c1.oI o2
  obtain ⟨h3, e3, t3, o3⟩ := X12_takesBytes_eq c2 t2 a3 (by omega)
  have c3 := c2.oI o3
  obtain ⟨h4, e4, t4, o4⟩ := X12_takesBytes_eq c3 t3 a4 (by omega)
  have c4 := c3.oI o4
  obtain ⟨h5, e5, t5, o5⟩ := X12_takesBytes_eq c4 t4 a5 (by omega)
  have c5 := c4.oI o5
  refine ⟨h5, ?_, t5, (((o1.tr o2).tr o3).tr o4).tr o5⟩
  have hv : nI bs.length + ((((nI (nby a1) + nI (nby a2)) + nI (nby a3)) + nI (nby a4)) + nI (nby a5)) = nI (bs.length + nby5 a1 a2 a3 a4 a5) := by
    rw [nI_add, nI_add, nI_add, nI_add, nI_add]
    rfl
  unfold fX12_append fX12_append_b52
  rw [gd_t (k_45 m), lt_t, hu, X12_bytesIn_eq, bd_t, X12_bytesIn_eq, bd_t, X12_bytesIn_eq, bd_t, X12_bytesIn_eq, bd_t, X12_bytesIn_eq, bd_t, T0.1, hv, if_neg (show ¬ (300 : Int32) < nI (bs.length + nby5 a1 a2 a3 a4 a5) from fun q => absurd ((nI_ltI (a := 300) (by decide) (by omega)).mp q) (by omega)), gs_t, gd_t (k_45 m0), fails_t m0 h0, bd_t]
  show (if (0 : Int32) = 0 then gd (hK u0 45 = 12) (bd (fX12_takesBytes 45 a1 u0) _) else _) = _
  rw [if_pos rfl, gd_t (k_45 m0), e1, bd_t, gd_t (k_45 c1), e2, bd_t, gd_t (k_45 c2), e3, bd_t, gd_t (k_45 c3), e4, bd_t, gd_t (k_45 c4), e5, bd_t, gd_t (k_45 c5), t5.1, L]
theorem X12_append_no {u : PH} (m : MSh u) {bs : List Nat} (T : TM bs u) (a1 a2 a3 a4 a5 : Int32) (h3 : bs.length ≤ 300) (hl : ¬ bs.length + nby5 a1 a2 a3 a4 a5 ≤ 300) : fX12_append 45 a1 a2 a3 a4 a5 u = some (0, sI (sI u 12 45 0 0) 12 45 0 1) := by
  have s1 := scr_thr u 0
  have m0 := m.scr s1
  have T0 := T.scr s1
  generalize hu : sI u 12 45 0 0 = u0 at s1 m0 T0 ⊢
  have h0 : hI u0 12 45 0 = 0 := by rw [← hu]; exact thr0 u
  have := nby5_le a1 a2 a3 a4 a5
  have hv : nI bs.length + ((((nI (nby a1) + nI (nby a2)) + nI (nby a3)) + nI (nby a4)) + nI (nby a5)) = nI (bs.length + nby5 a1 a2 a3 a4 a5) := by
    rw [nI_add, nI_add, nI_add, nI_add, nI_add]
    rfl
  unfold fX12_append fX12_append_b52
  rw [gd_t (k_45 m), lt_t, hu, X12_bytesIn_eq, bd_t, X12_bytesIn_eq, bd_t, X12_bytesIn_eq, bd_t, X12_bytesIn_eq, bd_t, X12_bytesIn_eq, bd_t, T0.1, hv, if_pos (show (300 : Int32) < nI (bs.length + nby5 a1 a2 a3 a4 a5) from (nI_ltI (a := 300) (by decide) (by omega)).mpr (by omega)), gs_t, gd_t (k_45 m0), fails_f m0 h0 (by decide), bd_t]
  show (if (1 : Int32) = 0 then _ else _) = _
  rw [if_neg (by decide)]
/-- the tape of both sides -/
def TP (bs : List Nat) (er : Int32) (h : PH) : Prop := TC bs h ∧ TM bs h ∧ okB bs ∧ bs.length ≤ 300 ∧ hI h 7 11 2 = er ∧ hI h 12 45 3 = er
theorem isTC_Tp {c a k : Nat} (e : isTC c a k = true) : isTp c a k = true := by unfold isTp; rw [e]; rfl
theorem isTM_Tp {c a k : Nat} (e : isTM c a k = true) : isTp c a k = true := by unfold isTp; rw [e, Bool.or_true]; rfl
theorem hL_oI {F : Nat → Nat → Nat → Bool} {h h' : PH} (s : onlyI F h h') : hL h' = hL h := s.2.2.1
theorem ls_append {h : PH} {P : PH → Prop} {bs : List Nat} {er : Int32} (c : CSh h) (m : MSh h) (T : TP bs er h) (a1 a2 a3 a4 a5 : Int32) (hP : ∀ h' bs', scrF isTp h h' → TP bs' er h' → P h') : LS_0 10 45 87 88 a1 a2 a3 a4 a5 h P := by
  obtain ⟨T1, T2, ok, h300, e1, e2⟩ := T
  show LBody (fX11_append 10 a1 a2 a3 a4 a5 h) (fX12_append 45 a1 a2 a3 a4 a5) (fun c => c = 0) (fun c v => c = 0 ∧ v = some (.int 1)) h P
  by_cases hl : bs.length + nby5 a1 a2 a3 a4 a5 ≤ 300
  · obtain ⟨h1, f1, t1, o1⟩ := X11_append_ok c T1 a1 a2 a3 a4 a5 hl
    have c1 := c.oI o1
    have m1 := m.oI o1
    refine lb_gen c f1 c1 (by rw [o1.2.2.2.2.2.1]; omega) (by rw [o1.2.2.2.2.2.2]; omega) (fun u su _ => ?_)
    have mu := m1.scr su
    obtain ⟨w, f2, t2, o2⟩ := X12_append_ok mu ((TM_C T2 o1).scr su) a1 a2 a3 a4 a5 hl
    have s0 := scr_thr u 0
    have sw : scrF isTp h w := (o1.F (fun _ _ _ => isTC_Tp)).tr ((su.tr s0).F.tr (o2.F (fun _ _ _ => isTM_Tp)))
    refine ⟨w, k_45 mu, f2, ((c1.scr su).scr s0).oI o2, (mu.scr s0).oI o2, ?_, ?_, hP w (pushA bs a1 a2 a3 a4 a5) sw ⟨TC_M ((t1.scr su).scr s0) o2, t2, okB_pushs (okB_pushs (okB_pushs (okB_pushs (okB_pushs ok a1) a2) a3) a4) a5, by rw [pushA_len]; exact hl, ?_, ?_⟩⟩
    · exact (o2.1 12 45 0 rfl).trans (thr0 u)
    · rw [hL_oI o2]; rfl
    · exact (o2.1 7 11 2 rfl).trans (((su.tr s0).1 7 11 2 rfl).trans ((o1.1 7 11 2 rfl).trans e1))
    · exact (o2.1 12 45 3 rfl).trans (((su.tr s0).1 12 45 3 rfl).trans ((o1.1 12 45 3 rfl).trans e2))
  · refine lb_genx (code := 1) c (X11_append_no c T1 a1 a2 a3 a4 a5 h300 hl) rfl (fun v hv => hv.2) (by decide) (by omega) (by omega) (fun u su => ?_)
    have mu := m.scr su
    have f2 := X12_append_no mu (T2.scr su) a1 a2 a3 a4 a5 h300 hl
    have s0 := (scr_thr u 0).tr (scr_thr (sI u 12 45 0 0) 1)
    have s2 := su.tr s0
    exact ⟨_, k_45 mu, f2, mu.scr s0, (hI_sI _ _ _ _ _ _ _ _).trans (if_pos ⟨rfl, rfl, rfl⟩), hP _ bs s2.F ⟨T1.scr s2, T2.scr s2, ok, h300, (s2.1 7 11 2 rfl).trans e1, (s2.1 12 45 3 rfl).trans e2⟩⟩
theorem TC_0 {h : PH} (e : hI h 7 11 1 = 0) : TC [] h := ⟨e, fun i hi => absurd hi (Nat.not_lt_zero _)⟩
theorem TM_0 {h : PH} (e : hI h 12 45 2 = 0) : TM [] h := ⟨e, fun i hi => absurd hi (Nat.not_lt_zero _)⟩
theorem ls_clearTape {h : PH} {P : PH → Prop} {bs : List Nat} {er : Int32} (c : CSh h) (m : MSh h) (T : TP bs er h) (a1 a2 a3 a4 a5 : Int32) (hP : ∀ h' bs', scrF isTp h h' → TP bs' er h' → P h') : LS_1 10 45 87 88 a1 a2 a3 a4 a5 h P := by
  obtain ⟨T1, T2, ok, h300, e1, e2⟩ := T
  have o1 : onlyI isTp h (sI h 7 11 1 0) := onlyI_sI _ _ rfl
  have m1 := m.oI o1
  have s1 := scr_thr (sI h 7 11 1 0) 0
  have o2 : onlyI isTp (sI (sI h 7 11 1 0) 12 45 0 0) (sI (sI (sI h 7 11 1 0) 12 45 0 0) 12 45 2 0) := onlyI_sI _ _ rfl
  refine ⟨(nI bs.length, sI h 7 11 1 0), ?_, k_10 c, (nI bs.length, sI (sI (sI h 7 11 1 0) 12 45 0 0) 12 45 2 0), k_45 m1, ?_, rfl, hP _ [] ((o1.F (fun _ _ _ e => e)).tr (s1.F.tr (o2.F (fun _ _ _ e => e)))) ⟨TC_0 ?_, TM_0 ?_, fun b hb => (List.not_mem_nil hb).elim, Nat.zero_le _, ?_, ?_⟩⟩
  · unfold fX11_clearTape
    rw [gd_t (k_10 c), r11_10_0 c, gs_t, gd_t (k_11 c), gs_t, gd_t (k_11 c), lt_t, T1.1]
  · unfold fX12_clearTape
    rw [gd_t (k_45 m1), lt_t, lt_t, hI_sI, if_neg (by simp), hI_sI, if_neg (by simp), T2.1]
  · rw [hI_sI, if_neg (by simp), hI_sI, if_neg (by simp), hI_sI, if_pos ⟨rfl, rfl, rfl⟩]
  · rw [hI_sI, if_pos ⟨rfl, rfl, rfl⟩]
  · rw [hI_sI, if_neg (by simp), hI_sI, if_neg (by simp), hI_sI, if_neg (by simp), e1]
  · rw [hI_sI, if_neg (by simp), hI_sI, if_neg (by simp), hI_sI, if_neg (by simp), e2]
theorem ls_errorPosition {h : PH} {P : PH → Prop} {bs : List Nat} {er : Int32} (c : CSh h) (m : MSh h) (T : TP bs er h) (a1 a2 a3 a4 a5 : Int32) (hP : ∀ h', scr h h' → P h') : LS_2 10 45 87 88 a1 a2 a3 a4 a5 h P := by
  obtain ⟨T1, T2, ok, h300, e1, e2⟩ := T
  refine ⟨er, ?_, k_10 c, (er, sI h 12 45 0 0), k_45 m, ?_, rfl, hP _ (scr_thr h 0)⟩
  · unfold fX11_errorPosition
    rw [gd_t (k_10 c), r11_10_0 c, gs_t, gd_t (k_11 c), e1]
  · unfold fX12_errorPosition
    rw [gd_t (k_45 m), lt_t, hI_sI, if_neg (by simp), e2]
