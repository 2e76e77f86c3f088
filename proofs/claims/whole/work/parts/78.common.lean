/-! CALLS THAT ONLY ASK, of two texts: unlike, common -/
/-- the words of ws with p, each one once -/
def cm (ws : List Nat) (p : Nat → Bool) : Nat := cnt (fun i => decide (¬ ws.getD i 0 ∈ ws.take i) && p (ws.getD i 0)) ws.length
theorem cnt_cong {p q : Nat → Bool} : ∀ n, (∀ i, i < n → p i = q i) → cnt p n = cnt q n
  | 0, _ => rfl
  | n + 1, h => by rw [cnt_s, cnt_s, cnt_cong n (fun i hi => h i (by omega)), h n (by omega)]
theorem mem_getD {ws : List Nat} {i : Nat} (h : i < ws.length) : ws.getD i 0 ∈ ws := by
  rw [List.getD_eq_getElem?_getD, List.getElem?_eq_getElem h]
  exact List.getElem_mem h
theorem cm_self (ws : List Nat) : cm ws (fun w => decide (w ∈ ws)) = cm ws (fun _ => true) := by
  unfold cm
  exact cnt_cong _ (fun i hi => congrArg _ (decide_eq_true (mem_getD hi)))
theorem cm_le (ws : List Nat) (p : Nat → Bool) : cm ws p ≤ ws.length := cnt_le _ _
theorem pl_first : ∀ (ws : List Nat) (i w : Nat), i < ws.length → ws.getD i 0 = w → (pl (fun v => decide (v = w)) ws 0 = some i ↔ ¬ w ∈ ws.take i) := by
  intro ws
  induction ws with
  | nil => intro i w h; exact absurd h (Nat.not_lt_zero _)
  | cons v ws ih =>
    intro i w h e
    cases i with
    | zero =>
      have e : v = w := e
      simp [pl, e]
    | succ i =>
      have e : ws.getD i 0 = w := e
      have h : i + 1 < ws.length + 1 := h
      have := ih i w (by omega) e
      by_cases c : v = w
      · simp [pl, c]
      · have c' : ¬ w = v := fun q => c q.symm
        simp only [pl, c, decide_false, Bool.false_eq_true, if_false, List.take_succ_cons, List.mem_cons, c', false_or]
        rw [← this]
        cases pl (fun v => decide (v = w)) ws 0 with
        | none => simp
        | some j => simp
theorem first_iff {ws : List Nat} (hl : ws.length ≤ 40) {i : Nat} (hi : i < ws.length) : optI (pl (fun v => decide (v = ws.getD i 0)) ws 0) = nI i ↔ ¬ ws.getD i 0 ∈ ws.take i := by
  rw [← pl_first ws i (ws.getD i 0) hi rfl]
  cases e : pl (fun v => decide (v = ws.getD i 0)) ws 0 with
  | none =>
    constructor
    · intro q
      exfalso
      have e1 : (nI i).toInt = (-1 : Int32).toInt := congrArg Int32.toInt q.symm
      rw [nI_toInt (by omega)] at e1
      have : (-1 : Int32).toInt = -1 := by decide
      omega
    · intro q; cases q
  | some j =>
    have := pl_lt _ _ _ _ e
    show nI j = nI i ↔ _
    rw [nI_eq (by omega) (by omega), Option.some.injEq]
theorem X8_countUnlike_eq {h : PH} {a b : Nat} {ws : List Nat} (T : TextAt h a b ws) (o : okT ws) : fX8_countUnlike a h = some (nI (cm ws (fun _ => true))) := by
  unfold fX8_countUnlike fX8_countUnlike_l4 cm
  refine text_loop T o (fun j => nI (cnt (fun i => decide (¬ ws.getD i 0 ∈ ws.take i) && true) j)) ?_ ?_
  · intro j hj k3 k4 k5 k6 k7
    show fX8_countUnlike_c4 a (nI (cnt (fun i => decide (¬ ws.getD i 0 ∈ ws.take i) && true) j)) (nI j) h = _
    unfold fX8_countUnlike_c4 fX8_countUnlike_b30
    rw [gd_t T.1, T.2.1, if_neg k7, k3, gs_t, gd_t ⟨k4, k5⟩, k6]
    have e := X8_placeOf_eq T o (o.lt hj) (k := 0) (by decide)
    have e' : fX8_placeOf a (nI (ws.getD j 0)) 0 h = some (optI (pl (fun v => decide (v = ws.getD j 0)) ws 0)) := e
    rw [e', bd_t, nI_1]
    by_cases q : ws.getD j 0 ∈ ws.take j
    · rw [if_pos (fun z => (first_iff o.1 hj).mp z q), cnt_s, decide_eq_false (fun z => z q)]
      rfl
    · rw [if_neg (fun z => z ((first_iff o.1 hj).mpr q)), cnt_s, decide_eq_true q, nI_1]
      rfl
  · show fX8_countUnlike_c4 a _ (nI ws.length) h = _
    unfold fX8_countUnlike_c4
    rw [gd_t T.1, T.2.1, if_pos (nI_le (Nat.le_refl _) (by have := o.1; omega))]
    rfl
theorem X8_countCommon_eq {h : PH} {a b a' b' : Nat} {ws vs : List Nat} (T : TextAt h a b ws) (o : okT ws) (T' : TextAt h a' b' vs) (o' : okT vs) : fX8_countCommon a (some a') h = some (nI (cm ws (fun w => decide (w ∈ vs)))) := by
  unfold fX8_countCommon fX8_countCommon_l4 cm
  refine text_loop T o (fun j => nI (cnt (fun i => decide (¬ ws.getD i 0 ∈ ws.take i) && decide (ws.getD i 0 ∈ vs)) j)) ?_ ?_
  · intro j hj k3 k4 k5 k6 k7
    show fX8_countCommon_c4 a (some a') (nI (cnt (fun i => decide (¬ ws.getD i 0 ∈ ws.take i) && decide (ws.getD i 0 ∈ vs)) j)) (nI j) h = _
    unfold fX8_countCommon_c4 fX8_countCommon_b43
    rw [gd_t T.1, T.2.1, if_neg k7, k3, gs_t, gd_t ⟨k4, k5⟩, k6]
    have e := X8_placeOf_eq T o (o.lt hj) (k := 0) (by decide)
    have e' : fX8_placeOf a (nI (ws.getD j 0)) 0 h = some (optI (pl (fun v => decide (v = ws.getD j 0)) ws 0)) := e
    rw [e', bd_t, nI_1]
    by_cases q : ws.getD j 0 ∈ ws.take j
    · rw [if_pos (fun z => (first_iff o.1 hj).mp z q), cnt_s, decide_eq_false (fun z => z q)]
      rfl
    · rw [if_neg (fun z => z ((first_iff o.1 hj).mpr q)), gs_t, gd_t ⟨k4, k5⟩, gs_t, gd_t T'.1, k6, X8_has_eq T' o' (o.lt hj), bd_t, cnt_s, decide_eq_true q]
      by_cases d : ws.getD j 0 ∈ vs
      · rw [decide_eq_true d, if_neg (show ¬ bI true = 0 by decide), nI_1]
        rfl
      · rw [decide_eq_false d, if_pos (show bI false = 0 from rfl)]
        rfl
  · show fX8_countCommon_c4 a _ _ (nI ws.length) h = _
    unfold fX8_countCommon_c4
    rw [gd_t T.1, T.2.1, if_pos (nI_le (Nat.le_refl _) (by have := o.1; omega))]
    rfl
theorem bI_and2 (a b : Bool) : bI a &&& bI b = bI (a && b) := by cases a <;> cases b <;> decide
theorem shared_in {h : PH} (m : MSh h) {tx : TX} (o : okX tx) (T : MT tx h) {t : Nat} (ht : t < 100) {ws : List Nat} (e : tx t = some ws) {t' : Nat} (ht' : t' < 100) (s : Nat) {i : Nat} (hi : i < ws.length) : fX12_shared_l22 45 (nI t) (nI t') (nI s) (nI i) 1 0 h = some (.inl (nI (s + (if (decide (¬ ws.getD i 0 ∈ ws.take i) && hasT tx t' (ws.getD i 0)) then 1 else 0)), nI (i + 1))) := by
  obtain ⟨t1, t2, t3⟩ := T.s ht e
  have ot := (o t ws e).2
  have h40 := ot.1
  unfold fX12_shared_l22
  show wh (fun z : Int32 × Int32 => fX12_shared_c22 45 (nI t) (nI t') (nI s) (nI i) z.1 z.2 h) (bI (decide (¬ ws.getD i 0 ∈ ws.take 0)), nI 0) = _
  refine wh_out (fun k => (bI (decide (¬ ws.getD i 0 ∈ ws.take k)), nI k)) i rfl (fun k hk => ?_) ?_
  · show fX12_shared_c22 45 (nI t) (nI t') (nI s) (nI i) (bI (decide (¬ ws.getD i 0 ∈ ws.take k))) (nI k) h = _
    unfold fX12_shared_c22 fX12_shared_b53
    rw [if_neg (nI_ge hk (by omega)), gd_t (k_45 m), wordIn_eq m ht (by omega), bd_t, wordIn_eq m ht (by omega), bd_t, t3 k (by omega), t3 i hi, nI_1]
    have tk := takeS (ws := ws) (i := k) (by omega)
    by_cases c : ws.getD k 0 = ws.getD i 0
    · rw [if_pos (by rw [c]), show (0 : Int32) = bI false from rfl, bI_and2, Bool.and_false, decide_eq_false (show ¬ ¬ ws.getD i 0 ∈ ws.take (k + 1) from fun z => z (by rw [tk, List.mem_append, c]; right; exact List.mem_cons_self))]
    · rw [if_neg (by rw [nI_eq (ot.lt (by omega)) (ot.lt hi)]; exact c), show (1 : Int32) = bI true from rfl, bI_and2, Bool.and_true]
      have q : (¬ ws.getD i 0 ∈ ws.take k) ↔ ¬ ws.getD i 0 ∈ ws.take (k + 1) := by
        rw [tk, List.mem_append, List.mem_singleton]
        constructor
        · intro a b
          rcases b with b | b
          · exact a b
          · exact c b.symm
        · intro a b; exact a (Or.inl b)
      rw [decide_eq_decide.mpr q]
  · show fX12_shared_c22 45 (nI t) (nI t') (nI s) (nI i) (bI (decide (¬ ws.getD i 0 ∈ ws.take i))) (nI i) h = _
    unfold fX12_shared_c22 fX12_shared_b87 fX12_shared_b88
    rw [if_pos (nI_le (Nat.le_refl _) (by omega))]
    by_cases c : ws.getD i 0 ∈ ws.take i
    · rw [decide_eq_false (show ¬ ¬ ws.getD i 0 ∈ ws.take i from fun z => z c), if_pos (show bI false = 0 from rfl), mr_t, nI_1, Int32.add_zero]
      rfl
    · rw [decide_eq_true c, if_neg (show ¬ bI true = 0 by decide), gd_t (k_45 m), wordIn_eq m ht (by omega), bd_t, t3 i hi, mhas_eq m T o ht' (ot.lt hi), bd_t, nI_1]
      cases d : hasT tx t' (ws.getD i 0) with
      | false => rw [if_pos (show bI false = 0 from rfl), Int32.add_zero]; rfl
      | true => rw [if_neg (show ¬ bI true = 0 by decide), nI_1]; rfl
theorem shared_eq {h : PH} (m : MSh h) {tx : TX} (o : okX tx) (T : MT tx h) {t : Nat} (ht : t < 100) {ws : List Nat} (e : tx t = some ws) {t' : Nat} (ht' : t' < 100) : fX12_shared 45 (nI t) (nI t') h = some (nI (cm ws (fun w => hasT tx t' w))) := by
  obtain ⟨t1, t2, t3⟩ := T.s ht e
  have h40 := (o t ws e).2.1
  unfold fX12_shared fX12_shared_l5
  show wh (fun z : Int32 × Int32 => fX12_shared_c5 45 (nI t) (nI t') z.1 z.2 h) (nI 0, nI 0) = _
  have e0 : ∀ x j, fX12_shared_c5 45 (nI t) (nI t') x (nI j) h = (if nI ws.length ≤ nI j then (mr (some x)) else fX12_shared_l22 45 (nI t) (nI t') x (nI j) 1 0 h) := fun x j => by
    unfold fX12_shared_c5
    rw [gd_t (k_45 m), r12_45_6 m, gs_t, gd_t ⟨k_49 m, by rw [n_49 m]; exact inbI ht (by decide)⟩, show hI h 20 49 (Int32.toNatClampNeg (nI t)) = nI ws.length by rw [nI_clamp (by omega)]; exact t2]
  refine wh_out (fun j => (nI (cnt (fun i => decide (¬ ws.getD i 0 ∈ ws.take i) && hasT tx t' (ws.getD i 0)) j), nI j)) ws.length rfl (fun j hj => ?_) ?_
  · show fX12_shared_c5 45 (nI t) (nI t') (nI (cnt (fun i => decide (¬ ws.getD i 0 ∈ ws.take i) && hasT tx t' (ws.getD i 0)) j)) (nI j) h = _
    rw [e0, if_neg (nI_ge hj (by omega)), shared_in m o T ht e ht' _ hj, cnt_s]
  · show fX12_shared_c5 45 (nI t) (nI t') _ (nI ws.length) h = _
    rw [e0, if_pos (nI_le (Nat.le_refl _) (by omega))]
    rfl
theorem shared_self {h : PH} (m : MSh h) {tx : TX} (o : okX tx) (T : MT tx h) {t : Nat} (ht : t < 100) {ws : List Nat} (e : tx t = some ws) : fX12_shared 45 (nI t) (nI t) h = some (nI (cm ws (fun _ => true))) := by
  rw [shared_eq m o T ht e ht, ← cm_self ws]
  congr 2
  unfold cm
  refine cnt_cong _ (fun i _ => ?_)
  congr 1
  unfold hasT
  rw [e]
theorem shared_two {h : PH} (m : MSh h) {tx : TX} (o : okX tx) (T : MT tx h) {t : Nat} (ht : t < 100) {ws : List Nat} (e : tx t = some ws) {t' : Nat} (ht' : t' < 100) {vs : List Nat} (e' : tx t' = some vs) : fX12_shared 45 (nI t) (nI t') h = some (nI (cm ws (fun w => decide (w ∈ vs)))) := by
  rw [shared_eq m o T ht e ht']
  congr 2
  unfold cm
  refine cnt_cong _ (fun i _ => ?_)
  congr 1
  unfold hasT
  rw [e']
