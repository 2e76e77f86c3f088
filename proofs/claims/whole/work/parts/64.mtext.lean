/-! TEXTS in the reference's rows, and the shelf of the class -/
abbrev TX : Type := Nat → Option (List Nat)
def okX (tx : TX) : Prop := ∀ t ws, tx t = some ws → t < 100 ∧ okT ws
def hasT (tx : TX) (t w : Nat) : Bool := match tx t with
  | none => false
  | some ws => decide (w ∈ ws)
/-- the reference's rows hold the texts -/
def MT (tx : TX) (h : PH) : Prop := ∀ t, t < 100 → match tx t with
  | none => hI h 21 47 t = 0
  | some ws => hI h 21 47 t = 1 ∧ hI h 20 49 t = nI ws.length ∧ ∀ i, i < ws.length → hI h 20 48 (40 * t + i) = nI (ws.getD i 0)
theorem MT.n {tx : TX} {h : PH} (T : MT tx h) {t : Nat} (ht : t < 100) (e : tx t = none) : hI h 21 47 t = 0 := by
  have := T t ht
  rw [e] at this
  exact this
theorem MT.s {tx : TX} {h : PH} (T : MT tx h) {t : Nat} (ht : t < 100) {ws : List Nat} (e : tx t = some ws) : hI h 21 47 t = 1 ∧ hI h 20 49 t = nI ws.length ∧ ∀ i, i < ws.length → hI h 20 48 (40 * t + i) = nI (ws.getD i 0) := by
  have := T t ht
  rw [e] at this
  exact this
theorem wordIn_eq {h : PH} (m : MSh h) {t i : Nat} (ht : t < 100) (hi : i < 40) : fX12_wordIn 45 (nI t) (nI i) h = some (hI h 20 48 (40 * t + i)) := by
  unfold fX12_wordIn
  rw [gd_t (k_45 m), r12_45_5 m, gs_t, show (40 : Int32) = nI 40 from rfl, pk_mul, nI_add, gd_t ⟨k_48 m, nI_pos (by omega), by rw [nI_clamp (by omega), n_48 m]; omega⟩, nI_clamp (by omega)]
theorem inbI {i n : Nat} (h : i < n) (hn : n < 2 ^ 31) : inb (nI i) n := ⟨nI_pos (by omega), by rw [nI_clamp (by omega)]; exact h⟩
theorem mhas_l {h : PH} (m : MSh h) {tx : TX} (T : MT tx h) {t : Nat} (ht : t < 100) {ws : List Nat} (e : tx t = some ws) (o : okT ws) {w : Nat} (hw : w < 2 ^ 31) : ∀ n j : Nat, j + n = ws.length → fX12_has_l2 45 (nI t) (nI w) (nI j) h = some (bI (decide (w ∈ ws.drop j))) := by
  obtain ⟨t1, t2, t3⟩ := T.s ht e
  have h40 := o.1
  have e0 : ∀ j, fX12_has_c2 45 (nI t) (nI w) (nI j) h = (if nI ws.length ≤ nI j then mr (fX12_has_b39 h) else bd (fX12_wordIn 45 (nI t) (nI j) h) (fun z14 => if (¬ z14 = nI w) then (some (.inl ((nI j + 1)))) else mr (some ((1 : Int32))))) := fun j => by
    unfold fX12_has_c2
    rw [gd_t (k_45 m), r12_45_4 m, gs_t, gd_t ⟨k_47 m, by rw [n_47 m]; exact inbI ht (by decide)⟩, show hI h 21 47 (Int32.toNatClampNeg (nI t)) = 1 by rw [nI_clamp (by omega)]; exact t1, if_neg (by decide), r12_45_6 m, gs_t, gd_t ⟨k_49 m, by rw [n_49 m]; exact inbI ht (by decide)⟩, show hI h 20 49 (Int32.toNatClampNeg (nI t)) = nI ws.length by rw [nI_clamp (by omega)]; exact t2]
  intro n
  induction n with
  | zero =>
    intro j hj
    unfold fX12_has_l2
    refine wh_done ?_
    show fX12_has_c2 45 (nI t) (nI w) (nI j) h = _
    rw [e0, if_pos (nI_le (by omega) (by omega)), List.drop_eq_nil_of_le (by omega)]
    rfl
  | succ n ih =>
    intro j hj
    have hl : j < ws.length := by omega
    rw [dropS hl]
    unfold fX12_has_l2 at ih ⊢
    by_cases c : ws.getD j 0 = w
    · refine wh_done ?_
      show fX12_has_c2 45 (nI t) (nI w) (nI j) h = _
      rw [e0, if_neg (nI_ge hl (by omega)), wordIn_eq m ht (by omega), bd_t, t3 j hl, if_neg (by rw [nI_eq (o.lt hl) hw]; simpa using c), mr_t, c, decide_eq_true List.mem_cons_self]
      rfl
    · refine wh_step (t := nI (j + 1)) ?_ ?_
      · show fX12_has_c2 45 (nI t) (nI w) (nI j) h = _
        rw [e0, if_neg (nI_ge hl (by omega)), wordIn_eq m ht (by omega), bd_t, t3 j hl, if_pos (by rw [nI_eq (o.lt hl) hw]; exact c), nI_1]
      · rw [ih (j + 1) (by omega)]
        congr 2
        have : ¬ w = ws.getD j 0 := fun q => c q.symm
        simp only [List.mem_cons, this, false_or]
theorem mhas_eq {h : PH} (m : MSh h) {tx : TX} (T : MT tx h) (o : okX tx) {t w : Nat} (ht : t < 100) (hw : w < 2 ^ 31) : fX12_has 45 (nI t) (nI w) h = some (bI (hasT tx t w)) := by
  unfold fX12_has hasT
  cases e : tx t with
  | none =>
    unfold fX12_has_l2
    refine wh_done ?_
    show fX12_has_c2 45 (nI t) (nI w) 0 h = _
    unfold fX12_has_c2
    rw [gd_t (k_45 m), r12_45_4 m, gs_t, gd_t ⟨k_47 m, by rw [n_47 m]; exact inbI ht (by decide)⟩, show hI h 21 47 (Int32.toNatClampNeg (nI t)) = 0 by rw [nI_clamp (by omega)]; exact T.n ht e, if_pos rfl]
    rfl
  | some ws =>
    have := mhas_l m T ht e (o t ws e).2 hw ws.length 0 (by omega)
    show fX12_has_l2 45 (nI t) (nI w) (nI 0) h = _
    simpa using this
/-- a count over 0 .. n-1 -/
def cnt (p : Nat → Bool) (n : Nat) : Nat := (List.range n).countP p
theorem cnt_0 (p : Nat → Bool) : cnt p 0 = 0 := rfl
theorem cnt_s (p : Nat → Bool) (n : Nat) : cnt p (n + 1) = cnt p n + (if p n then 1 else 0) := by
  unfold cnt
  rw [List.range_succ, List.countP_append]
  simp [List.countP_cons]
theorem cnt_le (p : Nat → Bool) (n : Nat) : cnt p n ≤ n := by
  unfold cnt
  have := List.countP_le_length (p := p) (l := List.range n)
  simpa using this
theorem cnt_pos {p : Nat → Bool} {n : Nat} (h : p n = true) : nI (cnt p n) + 1 = nI (cnt p (n + 1)) := by rw [cnt_s, h, nI_1]; rfl
theorem cnt_neg {p : Nat → Bool} {n : Nat} (h : p n = false) : nI (cnt p n) + 0 = nI (cnt p (n + 1)) := by rw [cnt_s, h]; simp
theorem manyWith_eq {h : PH} (m : MSh h) {tx : TX} (T : MT tx h) (o : okX tx) {w : Nat} (hw : w < 2 ^ 31) : fX12_manyWith 45 (nI w) h = some (nI (cnt (fun t => hasT tx t w) 100)) := by
  unfold fX12_manyWith fX12_manyWith_l4
  refine wh_out (fun j => (nI (cnt (fun t => hasT tx t w) j), nI j)) 100 rfl (fun j hj => ?_) ?_
  · show fX12_manyWith_c4 45 (nI w) (nI (cnt (fun t => hasT tx t w) j)) (nI j) h = _
    unfold fX12_manyWith_c4 fX12_manyWith_b25
    rw [if_neg (by rw [show (100 : Int32) = nI 100 from rfl, nI_leI (by decide) (by omega)]; omega), gd_t (k_45 m), mhas_eq m T o hj hw, bd_t]
    cases e : hasT tx j w with
    | true => rw [if_neg (by decide), cnt_pos (p := fun t => hasT tx t w) e, nI_1]
    | false => rw [if_pos (by decide), cnt_neg (p := fun t => hasT tx t w) e, nI_1]
  · show fX12_manyWith_c4 45 (nI w) _ (nI 100) h = _
    unfold fX12_manyWith_c4
    rw [if_pos (by decide)]
    rfl
theorem countTexts_eq {h : PH} (m : MSh h) {tx : TX} (T : MT tx h) : fX12_countTexts 45 h = some (nI (cnt (fun t => (tx t).isSome) 100)) := by
  unfold fX12_countTexts fX12_countTexts_l4
  refine wh_out (fun j => (nI (cnt (fun t => (tx t).isSome) j), nI j)) 100 rfl (fun j hj => ?_) ?_
  · show fX12_countTexts_c4 45 (nI (cnt (fun t => (tx t).isSome) j)) (nI j) h = _
    unfold fX12_countTexts_c4 fX12_countTexts_b25
    rw [if_neg (by rw [show (100 : Int32) = nI 100 from rfl, nI_leI (by decide) (by omega)]; omega), gd_t (k_45 m), r12_45_4 m, gs_t, gd_t ⟨k_47 m, by rw [n_47 m]; exact inbI hj (by decide)⟩, nI_clamp (by omega)]
    cases e : tx j with
    | none => rw [T.n hj e, if_pos rfl, cnt_neg (p := fun t => (tx t).isSome) (by simp [e]), nI_1]
    | some ws => rw [(T.s hj e).1, if_neg (by decide), cnt_pos (p := fun t => (tx t).isSome) (by simp [e]), nI_1]
  · show fX12_countTexts_c4 45 _ (nI 100) h = _
    unfold fX12_countTexts_c4
    rw [if_pos (by decide)]
    rfl
/-- the class's shelf holds the texts -/
def CT (tx : TX) (h : PH) : Prop := ∀ t, t < 100 → match tx t with
  | none => hR h 26 15 t = none
  | some ws => ∃ a b, hR h 26 15 t = some a ∧ 89 ≤ a ∧ 89 ≤ b ∧ TextAt h a b ws
theorem CT.n {tx : TX} {h : PH} (T : CT tx h) {t : Nat} (ht : t < 100) (e : tx t = none) : hR h 26 15 t = none := by
  have := T t ht
  rw [e] at this
  exact this
theorem CT.s {tx : TX} {h : PH} (T : CT tx h) {t : Nat} (ht : t < 100) {ws : List Nat} (e : tx t = some ws) : ∃ a b, hR h 26 15 t = some a ∧ 89 ≤ a ∧ 89 ≤ b ∧ TextAt h a b ws := by
  have := T t ht
  rw [e] at this
  exact this
