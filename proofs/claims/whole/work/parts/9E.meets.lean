/-- what a simple part may be: its kind, its words, how near -/
def okL (k : Nat) (ws : List Nat) (mo : Nat) : Prop := k < 4 ∧ (∀ w ∈ ws, vword w = true) ∧ (k < 2 → ws.length = 1) ∧ (k = 2 → ws.length = 2 ∧ mo ≤ 40) ∧ (k = 3 → 0 < ws.length ∧ ws.length ≤ 20)
theorem okL.w0 {k : Nat} {ws : List Nat} {mo : Nat} (o : okL k ws mo) : vword (ws.getD 0 0) = true := by
  obtain ⟨h1, h2, h3, h4, h5⟩ := o
  refine h2 _ (mem_getD ?_)
  rcases Nat.lt_or_ge k 2 with c | c
  · rw [h3 c]; decide
  · rcases Nat.lt_or_ge k 3 with d | d
    · rw [(h4 (by omega)).1]; decide
    · exact (h5 (by omega)).1
def incL (k : Nat) (ws : List Nat) (mo : Nat) (T : List Nat) (i : Nat) : Nat :=
  if k = 0 then (if T.getD i 0 = ws.getD 0 0 then 1 else 0) else if k = 1 then (if bgn (T.getD i 0) (ws.getD 0 0) then 1 else 0) else if k = 2 then nrC T (ws.getD 0 0) (ws.getD 1 0) mo i else (if rwP T ws i then 1 else 0)
/-- how often a text meets a simple part -/
def cntL (k : Nat) (ws : List Nat) (mo : Nat) (T : List Nat) : Nat := sm (incL k ws mo T) T.length
theorem sm_cnt (p : Nat → Bool) : ∀ n, sm (fun i => if p i then 1 else 0) n = cnt p n
  | 0 => rfl
  | n + 1 => by rw [sm, cnt_s, sm_cnt p n]
theorem sm_countP (p : Nat → Bool) (T : List Nat) : sm (fun i => if p (T.getD i 0) then 1 else 0) T.length = T.countP p := by
  have : ∀ n, n ≤ T.length → sm (fun i => if p (T.getD i 0) then 1 else 0) n = (T.take n).countP p := by
    intro n
    induction n with
    | zero => intro _; rfl
    | succ n ih =>
      intro h
      rw [sm, ih (by omega), takeS (by omega), List.countP_append, List.countP_singleton]
  rw [this _ (Nat.le_refl _), List.take_length]
theorem cntL_0 {k : Nat} {ws : List Nat} {mo : Nat} {T : List Nat} (e : k = 0) : cntL k ws mo T = T.countP (fun v => decide (v = ws.getD 0 0)) := by
  rw [← sm_countP]
  unfold cntL
  congr 1
  funext i
  unfold incL
  rw [if_pos e]
  by_cases c : T.getD i 0 = ws.getD 0 0
  · rw [if_pos c, if_pos (decide_eq_true c)]
  · rw [if_neg c, if_neg (by rw [decide_eq_true_eq]; exact c)]
theorem cntL_1 {k : Nat} {ws : List Nat} {mo : Nat} {T : List Nat} (e : k = 1) : cntL k ws mo T = T.countP (fun v => bgn v (ws.getD 0 0)) := by
  rw [← sm_countP]
  unfold cntL
  congr 1
  funext i
  unfold incL
  rw [if_neg (by omega), if_pos e]
theorem cntL_2 {k : Nat} {ws : List Nat} {mo : Nat} {T : List Nat} (e : k = 2) : cntL k ws mo T = nearC T (ws.getD 0 0) (ws.getD 1 0) mo := by
  unfold cntL nearC
  congr 1
  funext i
  unfold incL
  rw [if_neg (by omega), if_neg (by omega), if_pos e]
theorem cntL_3 {k : Nat} {ws : List Nat} {mo : Nat} {T : List Nat} (e : k = 3) : cntL k ws mo T = rowC T ws := by
  unfold cntL rowC
  rw [← sm_cnt]
  congr 1
  funext i
  unfold incL
  rw [if_neg (by omega), if_neg (by omega), if_neg (by omega)]
/-- a simple part in the reference's block q, at n -/
def LfM (h : PH) (q n k : Nat) (ws : List Nat) (mo : Nat) : Prop := hI h 20 60 (400 * q + n) = nI k ∧ (k < 3 → hI h 20 61 (400 * q + n) = nI (ws.getD 0 0)) ∧ (k = 2 → hI h 20 62 (400 * q + n) = nI (ws.getD 1 0) ∧ hI h 20 63 (400 * q + n) = nI mo) ∧ (k = 3 → ∃ fr, hI h 20 61 (400 * q + n) = nI fr ∧ hI h 20 62 (400 * q + n) = nI ws.length ∧ fr + ws.length ≤ 20 ∧ ∀ i, i < ws.length → hI h 20 66 (20 * q + fr + i) = nI (ws.getD i 0))
theorem in_near : ∀ i, i < 41 → ∀ j, j < 41 → ∀ m, m < 41 → (decide (nI i - nI m ≤ nI j) && decide (nI j ≤ nI i + nI m)) = decide (dst i j ≤ m) := by decide +kernel
theorem i400 (q n : Nat) : ((400 : Int32) * nI q) + nI n = nI (400 * q + n) := by
  rw [show (400 : Int32) = nI 400 from rfl, pk_mul, nI_add]
theorem i20 (q n : Nat) : ((20 : Int32) * nI q) + nI n = nI (20 * q + n) := by
  rw [show (20 : Int32) = nI 20 from rfl, pk_mul, nI_add]
theorem meets_near {h : PH} (m : MSh h) {tx : TX} (X : MT tx h) {t : Nat} (ht : t < 100) {T : List Nat} (e : tx t = some T) (o : okT T) {q n v mo : Nat} (hq : q < 8) (hn : n < 400) (e2 : hI h 20 62 (400 * q + n) = nI v) (e3 : hI h 20 63 (400 * q + n) = nI mo) (hv : v < 2 ^ 31) (hm : mo ≤ 40) {i : Nat} (hi : i < T.length) (s : Nat) (v1 v2 : Int32) : fX12_meets_l174 45 v1 v2 (nI t) (nI (400 * q + n)) (nI s) (nI i) 0 h = some (.inl (nI (s + cnt (nrP T v mo i) T.length), nI (i + 1))) := by
  obtain ⟨t1, t2, t3⟩ := X.s ht e
  have h40 := o.1
  have in62 : hK h 62 = 20 ∧ inb (nI (400 * q + n)) (hN h 62) := ⟨k_62 m, by rw [n_62 m]; exact inbI (by omega) (by decide)⟩
  have in63 : hK h 63 = 20 ∧ inb (nI (400 * q + n)) (hN h 63) := ⟨k_63 m, by rw [n_63 m]; exact inbI (by omega) (by decide)⟩
  unfold fX12_meets_l174
  refine wh_out (fun j => (nI (s + cnt (nrP T v mo i) j), nI j)) T.length rfl (fun j hj => ?_) ?_
  · show fX12_meets_c174 45 v1 v2 (nI t) (nI (400 * q + n)) (nI (s + cnt (nrP T v mo i) j)) (nI i) (nI j) h = _
    unfold fX12_meets_c174 fX12_meets_b243 fX12_meets_b244
    rw [gd_t (k_45 m), r12_45_6 m, gs_t, gd_t ⟨k_49 m, by rw [n_49 m]; exact inbI ht (by decide)⟩, show hI h 20 49 (Int32.toNatClampNeg (nI t)) = nI T.length by rw [nI_clamp (by omega)]; exact t2, if_neg (nI_ge hj (by omega)), ifp (nIe (by omega) (by omega)), cnt_s]
    unfold nrP
    by_cases c1 : j = i
    · rw [if_pos c1, decide_eq_false (fun z => z c1), Bool.false_and, if_neg (by decide), Int32.add_zero, nI_1]; rfl
    · rw [if_neg c1, decide_eq_true c1, Bool.true_and, wordIn_eq m ht (by omega), bd_t, r12_45_27 m, gs_t, gd_t in62, show hI h 20 62 (Int32.toNatClampNeg (nI (400 * q + n))) = nI v by rw [nI_clamp (by omega)]; exact e2, t3 j hj, ifn (nIe (o.lt hj) hv)]
      by_cases c2 : T.getD j 0 = v
      · rw [if_neg (fun z => z c2), decide_eq_true c2, Bool.true_and, r12_45_28 m, gs_t, gd_t in63, gs_t, gd_t in63, show hI h 20 63 (Int32.toNatClampNeg (nI (400 * q + n))) = nI mo by rw [nI_clamp (by omega)]; exact e3, in_eq, bd_t, in_near i (by omega) j (by omega) mo (by omega)]
        by_cases c3 : dst i j ≤ mo
        · rw [decide_eq_true c3, if_neg (show ¬ bI true = 0 by decide), if_pos rfl, nI_1, nI_1]
          rfl
        · rw [decide_eq_false c3, if_pos (show bI false = 0 from rfl), if_neg (by decide), Int32.add_zero, nI_1]; rfl
      · rw [if_pos c2, decide_eq_false c2, Bool.false_and, if_neg (by decide), Int32.add_zero, nI_1]; rfl
  · show fX12_meets_c174 45 v1 v2 (nI t) (nI (400 * q + n)) _ (nI i) (nI T.length) h = _
    unfold fX12_meets_c174 fX12_meets_b253
    rw [gd_t (k_45 m), r12_45_6 m, gs_t, gd_t ⟨k_49 m, by rw [n_49 m]; exact inbI ht (by decide)⟩, show hI h 20 49 (Int32.toNatClampNeg (nI t)) = nI T.length by rw [nI_clamp (by omega)]; exact t2, if_pos (nI_le (Nat.le_refl _) (by omega)), nI_1]
    rfl
theorem stands_eq {h : PH} (m : MSh h) {tx : TX} (X : MT tx h) {t : Nat} (ht : t < 100) {T : List Nat} (e : tx t = some T) (o : okT T) {q n fr : Nat} {ws : List Nat} (hq : q < 8) (hn : n < 400) (e1 : hI h 20 61 (400 * q + n) = nI fr) (e2 : hI h 20 62 (400 * q + n) = nI ws.length) (hf : fr + ws.length ≤ 20) (hl : ∀ i, i < ws.length → hI h 20 66 (20 * q + fr + i) = nI (ws.getD i 0)) (hw : ∀ w ∈ ws, w < 2 ^ 31) {i : Nat} (hi : i < T.length) : fX12_standsAt 45 (nI q) (nI n) (nI t) (nI i) h = some (bI (rwP T ws i)) := by
  obtain ⟨t1, t2, t3⟩ := X.s ht e
  have h40 := o.1
  have wl : ∀ k, k < ws.length → ws.getD k 0 < 2 ^ 31 := fun k hk => hw _ (mem_getD hk)
  have in61 : hK h 61 = 20 ∧ inb (nI (400 * q + n)) (hN h 61) := ⟨k_61 m, by rw [n_61 m]; exact inbI (by omega) (by decide)⟩
  have in62 : hK h 62 = 20 ∧ inb (nI (400 * q + n)) (hN h 62) := ⟨k_62 m, by rw [n_62 m]; exact inbI (by omega) (by decide)⟩
  unfold fX12_standsAt
  rw [gd_t (k_45 m), r12_45_27 m, gs_t, i400, gd_t in62, show hI h 20 62 (Int32.toNatClampNeg (nI (400 * q + n))) = nI ws.length by rw [nI_clamp (by omega)]; exact e2, r12_45_6 m, gs_t, gd_t ⟨k_49 m, by rw [n_49 m]; exact inbI ht (by decide)⟩, show hI h 20 49 (Int32.toNatClampNeg (nI t)) = nI T.length by rw [nI_clamp (by omega)]; exact t2, nI_add]
  by_cases c : i + ws.length ≤ T.length
  · rw [if_pos ((nI_leI (by omega) (by omega)).mpr c)]
    have lp : ∀ n' j, j + n' = ws.length → (∀ k, k < j → T.getD (i + k) 0 = ws.getD k 0) → fX12_standsAt_l33 45 (nI q) (nI n) (nI t) (nI i) (nI ws.length) (nI j) h = some (bI (rwP T ws i)) := by
      intro n'
      induction n' with
      | zero =>
        intro j hj hs
        have : rwP T ws i = true := by
          unfold rwP
          rw [decide_eq_true c, decide_eq_true (fun k hk => hs k (by omega))]
          rfl
        rw [this]
        unfold fX12_standsAt_l33
        refine wh_done ?_
        show fX12_standsAt_c33 45 (nI q) (nI n) (nI t) (nI i) (nI ws.length) (nI j) h = _
        unfold fX12_standsAt_c33
        rw [if_pos (nI_le (by omega) (by omega)), mr_t]
        rfl
      | succ n' ih =>
        intro j hj hs
        have st : fX12_standsAt_c33 45 (nI q) (nI n) (nI t) (nI i) (nI ws.length) (nI j) h = (if T.getD (i + j) 0 = ws.getD j 0 then some (.inl (nI (j + 1))) else some (.inr 0)) := by
          unfold fX12_standsAt_c33
          rw [if_neg (nI_ge (by omega) (by omega)), gd_t (k_45 m), nI_add, wordIn_eq m ht (by omega), bd_t, r12_45_26 m, gs_t, i400, gd_t in61, show hI h 20 61 (Int32.toNatClampNeg (nI (400 * q + n))) = nI fr by rw [nI_clamp (by omega)]; exact e1, r12_45_31 m, gs_t, i20, nI_add, gd_t ⟨k_66 m, by rw [n_66 m]; exact inbI (by omega) (by decide)⟩, nI_clamp (by omega), hl j (by omega), t3 (i + j) (by omega), ifp (nIe (o.lt (by omega)) (wl j (by omega))), mr_t, nI_1]
        unfold fX12_standsAt_l33 at ih ⊢
        by_cases d : T.getD (i + j) 0 = ws.getD j 0
        · refine wh_step (t := nI (j + 1)) ?_ (ih (j + 1) (by omega) (fun k hk => ?_))
          · show fX12_standsAt_c33 45 (nI q) (nI n) (nI t) (nI i) (nI ws.length) (nI j) h = _
            rw [st, if_pos d]
          · by_cases z : k = j
            · rw [z]; exact d
            · exact hs k (by omega)
        · rw [row_dec c (by omega) hs d]
          refine wh_done ?_
          show fX12_standsAt_c33 45 (nI q) (nI n) (nI t) (nI i) (nI ws.length) (nI j) h = _
          rw [st, if_neg d]
          rfl
    exact lp ws.length 0 (by omega) (fun k hk => absurd hk (Nat.not_lt_zero _))
  · rw [if_neg (by rw [nI_leI (by omega) (by omega)]; exact c)]
    unfold rwP
    rw [decide_eq_false c, Bool.false_and]
    rfl
