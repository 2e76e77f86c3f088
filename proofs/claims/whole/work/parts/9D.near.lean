/-! SIMPLE PARTS OF A QUERY: how often a text meets them -/
def dst (i j : Nat) : Nat := if i ≤ j then j - i else i - j
def nrP (T : List Nat) (v mo i j : Nat) : Bool := decide (¬ j = i) && (decide (T.getD j 0 = v) && decide (dst i j ≤ mo))
def nrC (T : List Nat) (w v mo : Nat) (i : Nat) : Nat := if T.getD i 0 = w then cnt (nrP T v mo i) T.length else 0
def nearC (T : List Nat) (w v mo : Nat) : Nat := sm (nrC T w v mo) T.length
def rwP (T ws : List Nat) (i : Nat) : Bool := decide (i + ws.length ≤ T.length) && decide (∀ k, k < ws.length → T.getD (i + k) 0 = ws.getD k 0)
def rowC (T ws : List Nat) : Nat := cnt (rwP T ws) T.length
theorem sub_abs {i j : Nat} (hi : i ≤ 40) (hj : j ≤ 40) : (if (0 : Int32) ≤ nI i - nI j then nI i - nI j else 0 - (nI i - nI j)) = nI (dst i j) := by
  have h : ∀ i, i < 41 → ∀ j, j < 41 → (if (0 : Int32) ≤ nI i - nI j then nI i - nI j else 0 - (nI i - nI j)) = nI (dst i j) := by decide +kernel
  exact h i (by omega) j (by omega)
theorem dst_le {i j : Nat} (hi : i ≤ 40) (hj : j ≤ 40) : dst i j ≤ 40 := by
  unfold dst
  split <;> omega
theorem X8_near_in {h : PH} {a b : Nat} {T : List Nat} (X : TextAt h a b T) (o : okT T) {w v mo : Nat} (hv : v < 2 ^ 31) (hm : mo < 2 ^ 31) {i : Nat} (hi : i < T.length) (s : Nat) : fX8_countNear_l32 a (nI w) (nI v) (nI mo) (nI s) (nI i) 0 h = some (.inl (nI (s + cnt (nrP T v mo i) T.length), nI (i + 1))) := by
  obtain ⟨k1, k2, k3, k4, k5, k6⟩ := id X
  have h40 := o.1
  unfold fX8_countNear_l32
  refine wh_out (fun j => (nI (s + cnt (nrP T v mo i) j), nI j)) T.length rfl (fun j hj => ?_) ?_
  · show fX8_countNear_c32 a (nI w) (nI v) (nI mo) (nI (s + cnt (nrP T v mo i) j)) (nI i) (nI j) h = _
    unfold fX8_countNear_c32 fX8_countNear_b74
    rw [gd_t k1, k2, if_neg (nI_ge hj (by omega)), ifp (nIe (by omega) (by omega)), cnt_s]
    unfold nrP
    by_cases c1 : j = i
    · rw [if_pos c1, decide_eq_false (fun z => z c1), Bool.false_and, if_neg (by decide), nI_1]; rfl
    · rw [if_neg c1, decide_eq_true c1, Bool.true_and, k3, gs_t, gd_t ⟨k4, nI_pos (by omega), by rw [nI_clamp (by omega)]; omega⟩, nI_clamp (by omega), k6 j hj, ifn (nIe (o.lt hj) hv)]
      by_cases c2 : T.getD j 0 = v
      · rw [if_neg (fun z => z c2), decide_eq_true c2, Bool.true_and, sub_abs (by omega) (by omega), ifp (propext (nI_ltI hm (by have := dst_le (i := i) (j := j) (by omega) (by omega); omega)))]
        by_cases c3 : dst i j ≤ mo
        · rw [if_neg (by omega), decide_eq_true c3, if_pos rfl, nI_1, nI_1]
          rfl
        · rw [if_pos (by omega), decide_eq_false c3, if_neg (by decide), nI_1]; rfl
      · rw [if_pos c2, decide_eq_false c2, Bool.false_and, if_neg (by decide), nI_1]; rfl
  · show fX8_countNear_c32 a (nI w) (nI v) (nI mo) _ (nI i) (nI T.length) h = _
    unfold fX8_countNear_c32 fX8_countNear_b80
    rw [gd_t k1, k2, if_pos (nI_le (Nat.le_refl _) (by omega)), nI_1]
    rfl
theorem X8_countNear_eq {h : PH} {a b : Nat} {T : List Nat} (X : TextAt h a b T) (o : okT T) {w v mo : Nat} (hw : w < 2 ^ 31) (hv : v < 2 ^ 31) (hm : mo < 2 ^ 31) : fX8_countNear a (nI w) (nI v) (nI mo) h = some (nI (nearC T w v mo)) := by
  obtain ⟨k1, k2, k3, k4, k5, k6⟩ := id X
  have h40 := o.1
  unfold fX8_countNear fX8_countNear_l6 nearC
  refine wh_out (fun j => (nI (sm (nrC T w v mo) j), nI j)) T.length rfl (fun j hj => ?_) ?_
  · show fX8_countNear_c6 a (nI w) (nI v) (nI mo) (nI (sm (nrC T w v mo) j)) (nI j) h = _
    unfold fX8_countNear_c6 fX8_countNear_b80
    rw [gd_t k1, k2, if_neg (nI_ge hj (by omega)), k3, gs_t, gd_t ⟨k4, nI_pos (by omega), by rw [nI_clamp (by omega)]; omega⟩, nI_clamp (by omega), k6 j hj, ifp (nIe (o.lt hj) hw), X8_near_in X o hv hm hj, sm, nI_1]
    unfold nrC
    by_cases c : T.getD j 0 = w
    · rw [if_pos c, if_pos c]
    · rw [if_neg c, if_neg c]; rfl
  · show fX8_countNear_c6 a (nI w) (nI v) (nI mo) _ (nI T.length) h = _
    unfold fX8_countNear_c6
    rw [gd_t k1, k2, if_pos (nI_le (Nat.le_refl _) (by omega))]
    rfl
/-- a row of words in a cell of its own -/
def RowAt (h : PH) (b : Nat) (ws : List Nat) : Prop := hK h b = 20 ∧ hN h b = ws.length ∧ ∀ i, i < ws.length → hI h 20 b i = nI (ws.getD i 0)
theorem row_dec {T ws : List Nat} {i : Nat} (h : i + ws.length ≤ T.length) {n : Nat} (hn : n < ws.length) (hs : ∀ k, k < n → T.getD (i + k) 0 = ws.getD k 0) (hd : ¬ T.getD (i + n) 0 = ws.getD n 0) : rwP T ws i = false := by
  unfold rwP
  rw [decide_eq_false (p := ∀ k, k < ws.length → T.getD (i + k) 0 = ws.getD k 0) (fun z => hd (z n hn)), Bool.and_false]
theorem X8_isRowAt_eq {h : PH} {a b b' : Nat} {T ws : List Nat} (X : TextAt h a b T) (o : okT T) (Y : RowAt h b' ws) (hw : ∀ w ∈ ws, w < 2 ^ 31) (hl : ws.length ≤ 20) {i : Nat} (hi : i + ws.length ≤ T.length) : fX8_isRowAt a (some b') (nI i) h = some (bI (rwP T ws i)) := by
  obtain ⟨k1, k2, k3, k4, k5, k6⟩ := id X
  obtain ⟨y1, y2, y3⟩ := Y
  have h40 := o.1
  have wl : ∀ k, k < ws.length → ws.getD k 0 < 2 ^ 31 := fun k hk => hw _ (mem_getD hk)
  have lp : ∀ n j, j + n = ws.length → (∀ k, k < j → T.getD (i + k) 0 = ws.getD k 0) → fX8_isRowAt_l2 a (some b') (nI i) (nI j) h = some (bI (rwP T ws i)) := by
    intro n
    induction n with
    | zero =>
      intro j hj hs
      have : rwP T ws i = true := by
        unfold rwP
        rw [decide_eq_true hi, decide_eq_true (fun k hk => hs k (by omega))]
        rfl
      rw [this]
      unfold fX8_isRowAt_l2
      refine wh_done ?_
      show fX8_isRowAt_c2 a (some b') (nI i) (nI j) h = _
      unfold fX8_isRowAt_c2
      rw [gs_t, gd_t y1, y2, if_pos (nI_le (by omega) (by omega)), mr_t]
      rfl
    | succ n ih =>
      intro j hj hs
      have st : fX8_isRowAt_c2 a (some b') (nI i) (nI j) h = (if T.getD (i + j) 0 = ws.getD j 0 then some (.inl (nI (j + 1))) else some (.inr 0)) := by
        unfold fX8_isRowAt_c2 fX8_isRowAt_b32
        rw [gs_t, gd_t y1, y2, if_neg (nI_ge (by omega) (by omega)), gd_t k1, k2, nI_add, if_neg (nI_ge (by omega) (by omega)), k3, gs_t, gd_t ⟨k4, nI_pos (by omega), by rw [nI_clamp (by omega)]; omega⟩, gd_t (inbI (by omega) (by omega)), nI_clamp (by omega), nI_clamp (by omega), k6 (i + j) (by omega), y3 j (by omega), ifp (nIe (o.lt (by omega)) (wl j (by omega))), mr_t, nI_1]
      unfold fX8_isRowAt_l2 at ih ⊢
      by_cases c : T.getD (i + j) 0 = ws.getD j 0
      · refine wh_step (t := nI (j + 1)) ?_ (ih (j + 1) (by omega) (fun k hk => ?_))
        · show fX8_isRowAt_c2 a (some b') (nI i) (nI j) h = _
          rw [st, if_pos c]
        · by_cases d : k = j
          · rw [d]; exact c
          · exact hs k (by omega)
      · rw [row_dec hi (by omega) hs c]
        refine wh_done ?_
        show fX8_isRowAt_c2 a (some b') (nI i) (nI j) h = _
        rw [st, if_neg c]
        rfl
  unfold fX8_isRowAt
  exact lp ws.length 0 (by omega) (fun k hk => absurd hk (Nat.not_lt_zero _))
theorem rowC_cut {T ws : List Nat} (h0 : 0 < ws.length) : rowC T ws = cnt (rwP T ws) (T.length + 1 - ws.length) := by
  unfold rowC
  by_cases c : ws.length ≤ T.length
  · rw [show T.length = (T.length + 1 - ws.length) + (ws.length - 1) by omega, cnt_add, cnt_none (p := fun i => rwP T ws (_ + i)), Nat.add_zero]
    · congr 1
      omega
    · intro i _
      unfold rwP
      rw [decide_eq_false (by omega), Bool.false_and]
  · rw [show T.length + 1 - ws.length = 0 by omega]
    refine cnt_none _ (fun i hi => ?_)
    unfold rwP
    rw [decide_eq_false (by omega), Bool.false_and]
theorem X8_countRow_eq {h : PH} {a b b' : Nat} {T ws : List Nat} (X : TextAt h a b T) (o : okT T) (Y : RowAt h b' ws) (hw : ∀ w ∈ ws, w < 2 ^ 31) (h0 : 0 < ws.length) (hl : ws.length ≤ 20) : fX8_countRow a (some b') h = some (nI (rowC T ws)) := by
  obtain ⟨k1, k2, k3, k4, k5, k6⟩ := id X
  obtain ⟨y1, y2, y3⟩ := id Y
  have h40 := o.1
  rw [rowC_cut h0]
  unfold fX8_countRow fX8_countRow_l4
  refine wh_out (fun j => (nI (cnt (rwP T ws) j), nI j)) (T.length + 1 - ws.length) rfl (fun j hj => ?_) ?_
  · show fX8_countRow_c4 a (some b') (nI (cnt (rwP T ws) j)) (nI j) h = _
    unfold fX8_countRow_c4 fX8_countRow_b27
    rw [gs_t, gd_t y1, gd_t k1, k2, y2, nI_add, if_neg (by rw [nI_ltI (by omega) (by omega)]; omega), X8_isRowAt_eq X o Y hw hl (by omega), bd_t, nI_1, cnt_s]
    cases e : rwP T ws j with
    | true => rw [if_neg (show ¬ bI true = 0 by decide), nI_1]; rfl
    | false => rw [if_pos (show bI false = 0 from rfl)]; rfl
  · show fX8_countRow_c4 a (some b') (nI (cnt (rwP T ws) (T.length + 1 - ws.length))) (nI (T.length + 1 - ws.length)) h = _
    unfold fX8_countRow_c4
    rw [gs_t, gd_t y1, gd_t k1, k2, y2, nI_add, if_pos ((nI_ltI (by omega) (by omega)).mpr (by omega)), mr_t]
