theorem meets_step {h : PH} (m : MSh h) {tx : TX} (X : MT tx h) {t : Nat} (ht : t < 100) {T : List Nat} (e : tx t = some T) (o : okT T) {q n k mo : Nat} {ws : List Nat} (hq : q < 8) (hn : n < 400) (ok : okL k ws mo) (L : LfM h q n k ws mo) (s : Nat) {i : Nat} (hi : i < T.length) : fX12_meets_c15 45 (nI q) (nI n) (nI t) (nI (400 * q + n)) (nI s) (nI i) h = some (.inl (nI (s + incL k ws mo T i), nI (i + 1))) := by
  obtain ⟨t1, t2, t3⟩ := X.s ht e
  have h40 := o.1
  have v0 := ok.w0
  obtain ⟨o1, o2, o3, o4, o5⟩ := ok
  obtain ⟨l1, l2, l3, l4⟩ := L
  have cl : Int32.toNatClampNeg (nI (400 * q + n)) = 400 * q + n := nI_clamp (by omega)
  have l1c : hI h 20 60 (Int32.toNatClampNeg (nI (400 * q + n))) = nI k := by rw [cl]; exact l1
  have l2c : k < 3 → hI h 20 61 (Int32.toNatClampNeg (nI (400 * q + n))) = nI (ws.getD 0 0) := fun z => by rw [cl]; exact l2 z
  have in60 : hK h 60 = 20 ∧ inb (nI (400 * q + n)) (hN h 60) := ⟨k_60 m, by rw [n_60 m]; exact inbI (by omega) (by decide)⟩
  have in61 : hK h 61 = 20 ∧ inb (nI (400 * q + n)) (hN h 61) := ⟨k_61 m, by rw [n_61 m]; exact inbI (by omega) (by decide)⟩
  unfold fX12_meets_c15
  rw [gd_t (k_45 m), r12_45_4 m, gs_t, gd_t ⟨k_47 m, by rw [n_47 m]; exact inbI ht (by decide)⟩, show hI h 21 47 (Int32.toNatClampNeg (nI t)) = 1 by rw [nI_clamp (by omega)]; exact t1, if_neg (by decide), r12_45_6 m, gs_t, gd_t ⟨k_49 m, by rw [n_49 m]; exact inbI ht (by decide)⟩, show hI h 20 49 (Int32.toNatClampNeg (nI t)) = nI T.length by rw [nI_clamp (by omega)]; exact t2, if_neg (nI_ge hi (by omega)), wordIn_eq m ht (by omega), bd_t, t3 i hi, r12_45_25 m, gs_t, gd_t in60, l1c, r12_45_26 m, gs_t, gd_t in61]
  have kz : (nI k = 0) = (k = 0) := propext (nI0 (by omega))
  have k1' : (nI k = 1) = (k = 1) := nIe (b := 1) (by omega) (by decide)
  have k2' : (nI k = 2) = (k = 2) := nIe (b := 2) (by omega) (by decide)
  have k3' : (nI k = 3) = (k = 3) := nIe (b := 3) (by omega) (by decide)
  have b145 : ∀ x, ¬ k = 2 → fX12_meets_b145 45 (nI q) (nI n) (nI t) (nI (400 * q + n)) x (nI i) (nI (T.getD i 0)) h = some (.inl (x, nI (i + 1))) := fun x hk => by
    unfold fX12_meets_b145 fX12_meets_b253
    rw [gd_t (k_45 m), r12_45_25 m, gs_t, gd_t in60, l1c, ifn k2', if_pos hk, nI_1]
  have b112 : ∀ x, ¬ k = 2 → ¬ k = 3 → fX12_meets_b112 45 (nI q) (nI n) (nI t) (nI (400 * q + n)) x (nI i) (nI (T.getD i 0)) h = some (.inl (x, nI (i + 1))) := fun x hk hk3 => by
    unfold fX12_meets_b112
    rw [gd_t (k_45 m), r12_45_25 m, gs_t, gd_t in60, l1c, ifn k3', if_pos hk3, b145 x hk]
  have b76 : ∀ x, k = 0 → fX12_meets_b76 45 (nI q) (nI n) (nI t) (nI (400 * q + n)) x (nI i) (nI (T.getD i 0)) h = some (.inl (x, nI (i + 1))) := fun x hk => by
    unfold fX12_meets_b76
    rw [gd_t (k_45 m), r12_45_25 m, gs_t, gd_t in60, l1c, ifn k1', if_pos (by omega), b112 x (by omega) (by omega)]
  unfold incL
  by_cases c0 : k = 0
  · rw [if_neg (fun z => z (kz.mpr c0)), if_pos c0, l2c (by omega), ifn (nIe (o.lt hi) (vw31 v0))]
    unfold fX12_meets_b73
    by_cases d : T.getD i 0 = ws.getD 0 0
    · rw [if_neg (fun z => z d), if_pos d, nI_1, b76 _ c0]
    · rw [if_pos d, if_neg d, Int32.add_zero, b76 _ c0]; rfl
  · rw [if_pos (fun z => c0 (kz.mp z)), if_neg c0]
    unfold fX12_meets_b76
    rw [gd_t (k_45 m), r12_45_25 m, gs_t, gd_t in60, l1c, ifn k1']
    by_cases c1 : k = 1
    · rw [if_neg (fun z => z c1), if_pos c1, r12_45_26 m, gs_t, gd_t in61, l2c (by omega), beginsWith_eq (vw2 v0) (vw2 (o.v hi)), bd_t]
      unfold fX12_meets_b109
      cases d : bgn (T.getD i 0) (ws.getD 0 0) with
      | false => rw [if_pos (show bI false = 0 from rfl), if_neg (by decide), Int32.add_zero, b112 _ (by omega) (by omega)]; rfl
      | true => rw [if_neg (show ¬ bI true = 0 by decide), if_pos rfl, nI_1, b112 _ (by omega) (by omega)]
    · rw [if_pos c1, if_neg c1]
      unfold fX12_meets_b112
      rw [gd_t (k_45 m), r12_45_25 m, gs_t, gd_t in60, l1c, ifn k3']
      by_cases c2 : k = 2
      · rw [if_pos (by omega), if_pos c2]
        obtain ⟨e2, e3⟩ := l3 c2
        obtain ⟨e4, e5⟩ := o4 c2
        have v1 : vword (ws.getD 1 0) = true := o2 _ (mem_getD (by omega))
        unfold fX12_meets_b145 nrC
        rw [gd_t (k_45 m), r12_45_25 m, gs_t, gd_t in60, l1c, ifn k2', if_neg (fun z => z c2), r12_45_26 m, gs_t, gd_t in61, l2c (by omega), ifp (nIe (o.lt hi) (vw31 v0))]
        by_cases d : T.getD i 0 = ws.getD 0 0
        · rw [if_pos d, if_pos d, meets_near m X ht e o hq hn e2 e3 (vw31 v1) e5 hi s]
        · rw [if_neg d, if_neg d, Nat.add_zero]
          unfold fX12_meets_b253
          rw [nI_1]
      · have c3 : k = 3 := by omega
        obtain ⟨fr, f1, f2, f3, f4⟩ := l4 c3
        rw [if_neg (fun z => z c3), if_neg c2, stands_eq m X ht e o hq hn f1 f2 f3 f4 (fun w hw => vw31 (o2 w hw)) hi, bd_t]
        unfold fX12_meets_b142
        cases d : rwP T ws i with
        | false => rw [if_pos (show bI false = 0 from rfl), if_neg (by decide), Int32.add_zero, b145 _ c2]; rfl
        | true => rw [if_neg (show ¬ bI true = 0 by decide), if_pos rfl, nI_1, b145 _ c2]
def cntX (tx : TX) (k : Nat) (ws : List Nat) (mo t : Nat) : Nat := match tx t with
  | none => 0
  | some T => cntL k ws mo T
theorem cntX_s {tx : TX} {t : Nat} {T : List Nat} (e : tx t = some T) (k : Nat) (ws : List Nat) (mo : Nat) : cntX tx k ws mo t = cntL k ws mo T := by unfold cntX; rw [e]
theorem cntX_n {tx : TX} {t : Nat} (e : tx t = none) (k : Nat) (ws : List Nat) (mo : Nat) : cntX tx k ws mo t = 0 := by unfold cntX; rw [e]
theorem meets_eq {h : PH} (m : MSh h) {tx : TX} (o : okX tx) (X : MT tx h) {t : Nat} (ht : t < 100) {q n k mo : Nat} {ws : List Nat} (hq : q < 8) (hn : n < 400) (ok : okL k ws mo) (L : LfM h q n k ws mo) : fX12_meets 45 (nI q) (nI n) (nI t) h = some (nI (cntX tx k ws mo t)) := by
  unfold fX12_meets
  rw [i400]
  unfold fX12_meets_l15
  cases e : tx t with
  | none =>
    rw [cntX_n e]
    refine wh_done ?_
    show fX12_meets_c15 45 (nI q) (nI n) (nI t) (nI (400 * q + n)) 0 0 h = _
    unfold fX12_meets_c15 fX12_meets_b259
    rw [gd_t (k_45 m), r12_45_4 m, gs_t, gd_t ⟨k_47 m, by rw [n_47 m]; exact inbI ht (by decide)⟩, show hI h 21 47 (Int32.toNatClampNeg (nI t)) = 0 by rw [nI_clamp (by omega)]; exact X.n ht e, if_pos rfl, mr_t]
    rfl
  | some T =>
    have ot := (o t T e).2
    have h40 := ot.1
    rw [cntX_s e]
    refine wh_out (fun j => (nI (sm (incL k ws mo T) j), nI j)) T.length rfl (fun j hj => ?_) ?_
    · show fX12_meets_c15 45 (nI q) (nI n) (nI t) (nI (400 * q + n)) (nI (sm (incL k ws mo T) j)) (nI j) h = _
      rw [meets_step m X ht e ot hq hn ok L _ hj, sm]
    · show fX12_meets_c15 45 (nI q) (nI n) (nI t) (nI (400 * q + n)) (nI (sm (incL k ws mo T) T.length)) (nI T.length) h = _
      unfold fX12_meets_c15 fX12_meets_b259
      rw [gd_t (k_45 m), r12_45_4 m, gs_t, gd_t ⟨k_47 m, by rw [n_47 m]; exact inbI ht (by decide)⟩, show hI h 21 47 (Int32.toNatClampNeg (nI t)) = 1 by rw [nI_clamp (by omega)]; exact (X.s ht e).1, if_neg (by decide), r12_45_6 m, gs_t, gd_t ⟨k_49 m, by rw [n_49 m]; exact inbI ht (by decide)⟩, show hI h 20 49 (Int32.toNatClampNeg (nI t)) = nI T.length by rw [nI_clamp (by omega)]; exact (X.s ht e).2.1, if_pos (nI_le (Nat.le_refl _) (by omega)), mr_t]
      rfl
/-- a simple part in the class: its cell a, its words b, its empty list l -/
def LfC (h : PH) (a k : Nat) (ws : List Nat) (mo : Nat) : Prop := ∃ b l, hK h a = 4 ∧ hI h 4 a 0 = nI k ∧ hR h 4 a 1 = some b ∧ RowAt h b ws ∧ hI h 4 a 2 = nI mo ∧ hR h 4 a 3 = some l ∧ hK h l = 14 ∧ hI h 14 l 2 = nI 0
theorem sought_eq {h : PH} {a k mo : Nat} {ws : List Nat} (L : LfC h a k ws mo) (hl : ws.length ≤ 20) {i : Nat} (hi : i < ws.length) : fX4_soughtAt a (nI i) h = some (nI (ws.getD i 0)) := by
  obtain ⟨b, l, h1, h2, h3, h4, h5, h6, h7, h8⟩ := L
  unfold fX4_soughtAt fX4_soughtAt_b23
  rw [if_neg (nI_pos (by omega)), gd_t h1, h3, gs_t, gd_t h4.1, h4.2.1, if_pos (nI_lt hi (by omega)), gs_t, gd_t ⟨h4.1, by rw [h4.2.1]; exact inbI hi (by omega)⟩, nI_clamp (by omega), h4.2.2 i hi]
theorem okL.len {k : Nat} {ws : List Nat} {mo : Nat} (o : okL k ws mo) : 0 < ws.length ∧ ws.length ≤ 20 := by
  obtain ⟨h1, h2, h3, h4, h5⟩ := o
  rcases Nat.lt_or_ge k 2 with c | c
  · rw [h3 c]; omega
  · rcases Nat.lt_or_ge k 3 with d | d
    · rw [(h4 (by omega)).1]; omega
    · exact h5 (by omega)
theorem countMeetings_eq {h : PH} {a b k mo c : Nat} {ws T : List Nat} (L : LfC h c k ws mo) (ok : okL k ws mo) (X : TextAt h a b T) (o : okT T) : fX4_countMeetings c (some a) h = some (nI (cntL k ws mo T)) := by
  have hl := ok.len
  have v0 := ok.w0
  have sg := fun i hi => sought_eq L hl.2 (i := i) hi
  have sg0 : fX4_soughtAt c 0 h = some (nI (ws.getD 0 0)) := sg 0 hl.1
  obtain ⟨b', l, h1, h2, h3, h4, h5, h6, h7, h8⟩ := L
  obtain ⟨o1, o2, o3, o4, o5⟩ := ok
  have kz : (nI k = 0) = (k = 0) := propext (nI0 (by omega))
  have k1' : (nI k = 1) = (k = 1) := nIe (b := 1) (by omega) (by decide)
  have k2' : (nI k = 2) = (k = 2) := nIe (b := 2) (by omega) (by decide)
  have k3' : (nI k = 3) = (k = 3) := nIe (b := 3) (by omega) (by decide)
  unfold fX4_countMeetings
  rw [gd_t h1, h2, ifp kz, ifp k1', ifp k2', ifp k3', sg0, bd_t, bd_t, bd_t, gs_t, gs_t, gs_t, gd_t X.1, gd_t X.1, gd_t X.1, h5, h3]
  by_cases c0 : k = 0
  · rw [if_pos c0, X8_countWord_eq X o (vw31 v0), bd_t, cntL_0 c0]
  · rw [if_neg c0]
    by_cases c1 : k = 1
    · rw [if_pos c1, X8_countBeginning_eq X o v0, bd_t, cntL_1 c1]
    · rw [if_neg c1]
      by_cases c2 : k = 2
      · obtain ⟨e4, e5⟩ := o4 c2
        have v1 : vword (ws.getD 1 0) = true := o2 _ (mem_getD (by omega))
        have sg1 : fX4_soughtAt c 1 h = some (nI (ws.getD 1 0)) := sg 1 (by omega)
        rw [if_pos c2, sg1, bd_t, gs_t, gd_t X.1, X8_countNear_eq X o (vw31 v0) (vw31 v1) (by omega), bd_t, cntL_2 c2]
      · have c3 : k = 3 := by omega
        rw [if_neg c2, if_pos c3, X8_countRow_eq X o h4 (fun w hw => vw31 (o2 w hw)) hl.1 hl.2, bd_t, cntL_3 c3]
