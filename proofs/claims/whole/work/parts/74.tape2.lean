theorem isTC20 (i : Nat) : isTC 20 12 i = true := rfl
theorem isTM20 (i : Nat) : isTM 20 46 i = true := rfl
theorem TC.add {h : PH} {bs : List Nat} (T : TC bs h) {b : Nat} (hl : bs.length < 2 ^ 31) : TC (bs ++ [b]) (sI (sI h 20 12 bs.length (nI b)) 7 11 1 (hI (sI h 20 12 bs.length (nI b)) 7 11 1 + 1)) := by
  refine ⟨?_, fun i hi => ?_⟩
  · rw [hI_sI, if_pos ⟨rfl, rfl, rfl⟩, hI_sI, if_neg (by simp), T.1, nI_1, List.length_append]
    rfl
  · rw [hI_sI, if_neg (by simp), hI_sI]
    rw [List.length_append] at hi
    have hi : i < bs.length + 1 := hi
    by_cases e : i = bs.length
    · rw [if_pos ⟨rfl, rfl, e⟩, e, getD_end]
    · rw [if_neg (fun q => e q.2.2), getD_app (by omega), T.2 i (by omega)]
theorem TM.add {h : PH} {bs : List Nat} (T : TM bs h) {b : Nat} (hl : bs.length < 2 ^ 31) : TM (bs ++ [b]) (sI (sI h 20 46 bs.length (nI b)) 12 45 2 (hI (sI h 20 46 bs.length (nI b)) 12 45 2 + 1)) := by
  refine ⟨?_, fun i hi => ?_⟩
  · rw [hI_sI, if_pos ⟨rfl, rfl, rfl⟩, hI_sI, if_neg (by simp), T.1, nI_1, List.length_append]
    rfl
  · rw [hI_sI, if_neg (by simp), hI_sI]
    rw [List.length_append] at hi
    have hi : i < bs.length + 1 := hi
    by_cases e : i = bs.length
    · rw [if_pos ⟨rfl, rfl, e⟩, e, getD_end]
    · rw [if_neg (fun q => e q.2.2), getD_app (by omega), T.2 i (by omega)]
theorem addB_step {h : PH} (c : CSh h) {bs : List Nat} (T : TC bs h) (x : Int32) {s s' : Int32} {n : Nat} (hs : (Int32.toUInt32 s &&& Int32.toUInt32 31).toNat % 32 = n) (hn : ¬ s < 0) (hs' : s + (-8) = s') (hl : (push1 bs (byt x n)).length ≤ 300) : ∃ h', fX7_addBytes_c3 11 x s h = some (.inl (s', h')) ∧ TC (push1 bs (byt x n)) h' ∧ onlyI isTC h h' := by
  unfold fX7_addBytes_c3 fX7_addBytes_b49
  rw [if_neg hn, byC x hs, hs']
  by_cases e : byt x n = 0
  · rw [if_pos ((nI0 (byt_lt x n)).mpr e)]
    refine ⟨h, rfl, ?_, onlyI.rf _ _⟩
    unfold push1
    rw [if_pos e]
    exact T
  · have hp : push1 bs (byt x n) = bs ++ [byt x n] := if_neg e
    rw [hp] at hl ⊢
    rw [List.length_append] at hl
    have hl : bs.length + 1 ≤ 300 := hl
    have hc : (nI bs.length).toNatClampNeg = bs.length := nI_clamp (by omega)
    rw [if_neg (fun q => e ((nI0 (byt_lt x n)).mp q)), gd_t (k_11 c), T.1, if_neg (by rw [show (300 : Int32) = nI 300 from rfl, nI_leI (by decide) (by omega)]; omega), r7_11_0 c, gs_t, gd_t ⟨k_12 c, by rw [n_12 c]; exact inbI (by omega) (by decide)⟩, lt_t, lt_t, hc]
    exact ⟨_, rfl, T.add (by omega), (onlyI_sI _ _ (isTC20 _)).tr (onlyI_sI _ _ rfl)⟩
theorem takeB_step {h : PH} (m : MSh h) {bs : List Nat} (T : TM bs h) (x : Int32) {s s' : Int32} {n : Nat} (h0 : n ≤ 24) (hs : ((s &&& 31 : Int32).toBitVec.smod 32).toNat = n) (hn : ¬ s < 0) (hs' : s + (-8) = s') (hl : (push1 bs (byt x n)).length ≤ 300) : ∃ h', fX12_takesBytes_c3 45 x s h = some (.inl (s', h')) ∧ TM (push1 bs (byt x n)) h' ∧ onlyI isTM h h' := by
  unfold fX12_takesBytes_c3 fX12_takesBytes_b42
  rw [if_neg hn, byM x h0 hs, hs']
  by_cases e : byt x n = 0
  · rw [if_neg (fun q => q ((nI0 (byt_lt x n)).mpr e))]
    refine ⟨h, rfl, ?_, onlyI.rf _ _⟩
    unfold push1
    rw [if_pos e]
    exact T
  · have hp : push1 bs (byt x n) = bs ++ [byt x n] := if_neg e
    rw [hp] at hl ⊢
    rw [List.length_append] at hl
    have hl : bs.length + 1 ≤ 300 := hl
    have hc : (nI bs.length).toNatClampNeg = bs.length := nI_clamp (by omega)
    rw [if_pos (fun q => e ((nI0 (byt_lt x n)).mp q)), gd_t (k_45 m), r12_45_1 m, gs_t, T.1, gd_t ⟨k_46 m, by rw [n_46 m]; exact inbI (by omega) (by decide)⟩, lt_t, lt_t, hc]
    exact ⟨_, rfl, T.add (by omega), (onlyI_sI _ _ (isTM20 _)).tr (onlyI_sI _ _ rfl)⟩
theorem push1_ge (bs : List Nat) (b : Nat) : bs.length ≤ (push1 bs b).length := by
  unfold push1
  by_cases e : b = 0
  · rw [if_pos e]; exact Nat.le_refl _
  · rw [if_neg e, List.length_append]; exact Nat.le_add_right _ _
theorem X7_addBytes_eq {h : PH} (c : CSh h) {bs : List Nat} (T : TC bs h) (x : Int32) (hl : (pushs bs x).length ≤ 300) : ∃ h', fX7_addBytes 11 x h = some h' ∧ TC (pushs bs x) h' ∧ onlyI isTC h h' := by
  unfold pushs at hl ⊢
  have g1 := push1_ge bs (byt x 24)
  have g2 := push1_ge (push1 bs (byt x 24)) (byt x 16)
  have g3 := push1_ge (push1 (push1 bs (byt x 24)) (byt x 16)) (byt x 8)
  have g4 := push1_ge (push1 (push1 (push1 bs (byt x 24)) (byt x 16)) (byt x 8)) (byt x 0)
  obtain ⟨h1, e1, t1, o1⟩ := addB_step c T x (s := 24) (s' := 16) (n := 24) (by decide) (by decide) (by decide) (by omega)
  obtain ⟨h2, e2, t2, o2⟩ := addB_step (c.oI o1) t1 x (s := 16) (s' := 8) (n := 16) (by decide) (by decide) (by decide) (by omega)
  obtain ⟨h3, e3, t3, o3⟩ := addB_step ((c.oI o1).oI o2) t2 x (s := 8) (s' := 0) (n := 8) (by decide) (by decide) (by decide) (by omega)
  obtain ⟨h4, e4, t4, o4⟩ := addB_step (((c.oI o1).oI o2).oI o3) t3 x (s := 0) (s' := -8) (n := 0) (by decide) (by decide) (by decide) (by omega)
  refine ⟨h4, ?_, t4, ((o1.tr o2).tr o3).tr o4⟩
  unfold fX7_addBytes fX7_addBytes_l3
  refine wh_step (t := (16, h1)) e1 (wh_step (t := (8, h2)) e2 (wh_step (t := (0, h3)) e3 (wh_step (t := (-8, h4)) e4 (wh_done ?_))))
  show fX7_addBytes_c3 11 x (-8) h4 = _
  unfold fX7_addBytes_c3
  rw [if_pos (by decide), mr_t]
theorem X12_takesBytes_eq {h : PH} (c : MSh h) {bs : List Nat} (T : TM bs h) (x : Int32) (hl : (pushs bs x).length ≤ 300) : ∃ h', fX12_takesBytes 45 x h = some h' ∧ TM (pushs bs x) h' ∧ onlyI isTM h h' := by
  unfold pushs at hl ⊢
  have g1 := push1_ge bs (byt x 24)
  have g2 := push1_ge (push1 bs (byt x 24)) (byt x 16)
  have g3 := push1_ge (push1 (push1 bs (byt x 24)) (byt x 16)) (byt x 8)
  have g4 := push1_ge (push1 (push1 (push1 bs (byt x 24)) (byt x 16)) (byt x 8)) (byt x 0)
  obtain ⟨h1, e1, t1, o1⟩ := takeB_step c T x (s := 24) (s' := 16) (n := 24) (by decide) (by decide) (by decide) (by decide) (by omega)
  obtain ⟨h2, e2, t2, o2⟩ := takeB_step (c.oI o1) t1 x (s := 16) (s' := 8) (n := 16) (by decide) (by decide) (by decide) (by decide) (by omega)
  obtain ⟨h3, e3, t3, o3⟩ := takeB_step ((c.oI o1).oI o2) t2 x (s := 8) (s' := 0) (n := 8) (by decide) (by decide) (by decide) (by decide) (by omega)
  obtain ⟨h4, e4, t4, o4⟩ := takeB_step (((c.oI o1).oI o2).oI o3) t3 x (s := 0) (s' := -8) (n := 0) (by decide) (by decide) (by decide) (by decide) (by omega)
  refine ⟨h4, ?_, t4, ((o1.tr o2).tr o3).tr o4⟩
  unfold fX12_takesBytes fX12_takesBytes_l3
  refine wh_step (t := (16, h1)) e1 (wh_step (t := (8, h2)) e2 (wh_step (t := (0, h3)) e3 (wh_step (t := (-8, h4)) e4 (wh_done ?_))))
  show fX12_takesBytes_c3 45 x (-8) h4 = _
  unfold fX12_takesBytes_c3
  rw [if_pos (by decide), mr_t]
theorem TC.scr {bs : List Nat} {h h' : PH} (T : TC bs h) (s : scr h h') : TC bs h' := ⟨(s.1 7 11 1 rfl).trans T.1, fun i hi => (s.1 20 12 i rfl).trans (T.2 i hi)⟩
theorem TM.scr {bs : List Nat} {h h' : PH} (T : TM bs h) (s : scr h h') : TM bs h' := ⟨(s.1 12 45 2 rfl).trans T.1, fun i hi => (s.1 20 46 i rfl).trans (T.2 i hi)⟩
theorem TC_M {bs : List Nat} {h h' : PH} (T : TC bs h) (s : onlyI isTM h h') : TC bs h' := ⟨(s.1 7 11 1 rfl).trans T.1, fun i hi => (s.1 20 12 i rfl).trans (T.2 i hi)⟩
theorem TM_C {bs : List Nat} {h h' : PH} (T : TM bs h) (s : onlyI isTC h h') : TM bs h' := ⟨(s.1 12 45 2 rfl).trans T.1, fun i hi => (s.1 20 46 i rfl).trans (T.2 i hi)⟩
/-- what changes: the two tapes and scratch -/
def isTp (c a k : Nat) : Bool := isTC c a k || isTM c a k || (c == 7 && a == 11 && k == 2) || (c == 12 && a == 45 && k == 3)
/-- like scr, but int cells of F may change, too -/
def scrF (F : Nat → Nat → Nat → Bool) (h h' : PH) : Prop := (∀ c a k, isScr c a k = false → F c a k = false → hI h' c a k = hI h c a k) ∧ hR h' = hR h ∧ (∀ c a k, (c ≠ 23 ∨ a ≠ 87) → hL h' c a k = hL h c a k) ∧ hK h' = hK h ∧ hN h' = hN h ∧ hX h ≤ hX h'
theorem scrF.rf (F : Nat → Nat → Nat → Bool) (h : PH) : scrF F h h := ⟨fun _ _ _ _ _ => rfl, rfl, fun _ _ _ _ => rfl, rfl, rfl, Nat.le_refl _⟩
theorem scrF.tr {F : Nat → Nat → Nat → Bool} {h h' h'' : PH} (a : scrF F h h') (b : scrF F h' h'') : scrF F h h'' := ⟨fun c x k e f => (b.1 c x k e f).trans (a.1 c x k e f), b.2.1.trans a.2.1, fun c x k e => (b.2.2.1 c x k e).trans (a.2.2.1 c x k e), b.2.2.2.1.trans a.2.2.2.1, b.2.2.2.2.1.trans a.2.2.2.2.1, Nat.le_trans a.2.2.2.2.2 b.2.2.2.2.2⟩
theorem scr.F {F : Nat → Nat → Nat → Bool} {h h' : PH} (s : scr h h') : scrF F h h' := ⟨fun c x k e _ => s.1 c x k e, s.2⟩
theorem onlyI.F {F G : Nat → Nat → Nat → Bool} {h h' : PH} (s : onlyI G h h') (e : ∀ c a k, G c a k = true → F c a k = true) : scrF F h h' := ⟨fun c x k _ q => (s.mono e).1 c x k q, s.2.1, fun c a k _ => by rw [s.2.2.1], s.2.2.2.1, s.2.2.2.2.1, Nat.le_of_eq s.2.2.2.2.2.1.symm⟩
