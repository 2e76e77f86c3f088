/-! frequent -/
def fq (tx : TX) (v : Nat) : Nat := cnt (fun t => hasT tx t v) 100
theorem fq_le (tx : TX) (v : Nat) : fq tx v ≤ 100 := cnt_le _ _
def pfq (tx : TX) (m v : Nat) : Bool := decide (fq tx v = m)
/-- the place of the word with a rank, of those in at most m texts -/
def frq (tx : TX) (ks : List Nat) : Nat → Nat → Option Nat
  | 0, _ => none
  | m + 1, k => if k < ks.countP (pfq tx (m + 1)) then pl (pfq tx (m + 1)) ks k else frq tx ks m (k - ks.countP (pfq tx (m + 1)))
theorem pl_some {p : Nat → Bool} : ∀ (ws : List Nat) (k : Nat), k < ws.countP p → ∃ i, pl p ws k = some i ∧ i < ws.length := by
  intro ws
  induction ws with
  | nil => intro k h; exact absurd h (Nat.not_lt_zero _)
  | cons v ws ih =>
    intro k h
    rw [List.countP_cons] at h
    cases e : p v with
    | true =>
      rw [e, if_pos rfl] at h
      cases k with
      | zero => exact ⟨0, by simp [pl, e], Nat.succ_pos _⟩
      | succ k =>
        obtain ⟨i, h1, h2⟩ := ih k (by omega)
        exact ⟨i + 1, by simp [pl, e, h1], Nat.succ_lt_succ h2⟩
    | false =>
      rw [e, if_neg (by decide)] at h
      obtain ⟨i, h1, h2⟩ := ih k (by omega)
      exact ⟨i + 1, by simp [pl, e, h1], Nat.succ_lt_succ h2⟩
theorem nth2 {ρ : Type} {c : Int32 × Int32 → Option ((Int32 × Int32) ⊕ ρ)} {ks : List Nat} (p : Nat → Bool) (R : Nat → ρ) (E : Nat → ρ)
    (en : ∀ k, k < 2 ^ 31 → c (nI k, nI ks.length) = some (.inr (E k)))
    (hit : ∀ j, j < ks.length → p (ks.getD j 0) = true → c (nI 0, nI j) = some (.inr (R j)))
    (nxt : ∀ j k, j < ks.length → p (ks.getD j 0) = true → k + 1 < 2 ^ 31 → c (nI (k + 1), nI j) = some (.inl (nI k, nI (j + 1))))
    (skp : ∀ j k, j < ks.length → p (ks.getD j 0) = false → k < 2 ^ 31 → c (nI k, nI j) = some (.inl (nI k, nI (j + 1)))) : ∀ n j k : Nat, j + n = ks.length → k < 2 ^ 31 → wh c (nI k, nI j) = some (match pl p (ks.drop j) k with
      | none => E (k - (ks.drop j).countP p)
      | some i => R (i + j)) := by
  intro n
  induction n with
  | zero =>
    intro j k hj hk
    have : j = ks.length := by omega
    subst this
    rw [List.drop_eq_nil_of_le (Nat.le_refl _)]
    exact wh_done (en k hk)
  | succ n ih =>
    intro j k hj hk
    have hl : j < ks.length := by omega
    have sh : ∀ (r : Option Nat) (x : Nat), (match r with | none => E x | some i => R (i + (j + 1))) = (match r.map (· + 1) with | none => E x | some i => R (i + j)) := fun r x => by
      cases r with
      | none => rfl
      | some i => show R (i + (j + 1)) = R (i + 1 + j); congr 1; omega
    rw [dropS hl, List.countP_cons]
    cases e : p (ks.getD j 0) with
    | true =>
      cases k with
      | zero =>
        refine (wh_done (hit j hl e)).trans ?_
        simp only [pl, e, if_true, Nat.zero_add]
      | succ k =>
        refine (wh_step (nxt j k hl e hk) (ih (j + 1) k (by omega) (by omega))).trans ?_
        rw [if_pos rfl, show k + 1 - ((ks.drop (j + 1)).countP p + 1) = k - (ks.drop (j + 1)).countP p by omega, sh]
        simp only [pl, e, if_true]
    | false =>
      refine (wh_step (skp j k hl e hk) (ih (j + 1) k (by omega) hk)).trans ?_
      rw [if_neg (by decide)]
      show some (match pl p (ks.drop (j + 1)) k with | none => E (k - (ks.drop (j + 1)).countP p) | some i => R (i + (j + 1))) = some (match _ with | none => E (k - (ks.drop (j + 1)).countP p) | some i => R (i + j))
      rw [sh]
      simp only [pl, e, Bool.false_eq_true, if_false]
      rfl
theorem pl_nc {p : Nat → Bool} : ∀ (ws : List Nat) (k : Nat), ¬ k < ws.countP p → pl p ws k = none := by
  intro ws
  induction ws with
  | nil => intro k _; rfl
  | cons v ws ih =>
    intro k h
    rw [List.countP_cons] at h
    cases e : p v with
    | true =>
      rw [e, if_pos rfl] at h
      cases k with
      | zero => omega
      | succ k => simp only [pl, e, if_true]; rw [ih k (by omega)]; rfl
    | false =>
      rw [e, if_neg (by decide)] at h
      simp only [pl, e, Bool.false_eq_true, if_false]
      rw [ih k (by omega)]
      rfl
theorem mfreq_out {h : PH} (m : MSh h) {tx : TX} (o : okX tx) (T : MT tx h) {ks : List Nat} (s : SK ks) (K : KN ks h) (hl : ks.length ≤ 4000) : ∀ n k : Nat, n ≤ 100 → k < 2 ^ 31 → fX12_frequent_l35 45 (nI k) (nI n) h = some (wdV ks (frq tx ks n k), h) := by
  have hin : ∀ j, j < ks.length → inb (nI j) (hN h 59) := fun j hj => by rw [n_59 m]; exact inbI (by omega) (by decide)
  intro n
  induction n with
  | zero =>
    intro k _ _
    unfold fX12_frequent_l35
    refine wh_done ?_
    show fX12_frequent_c35 45 (nI k) (nI 0) h = _
    unfold fX12_frequent_c35
    rw [if_pos (by decide), mr_t]
    rfl
  | succ n ih =>
    intro k hn hk
    have st : ∀ j y, j < ks.length → fX12_frequent_c42 45 y (nI (n + 1)) (nI j) h = (if fq tx (ks.getD j 0) = n + 1 then (if ¬ y = 0 then some (.inl (y + (-1), nI (j + 1))) else some (.inr (.inr (nI (ks.getD j 0), h)))) else some (.inl (y, nI (j + 1)))) := fun j y hj => by
      have hf := fq_le tx (ks.getD j 0)
      unfold fX12_frequent_c42 fX12_frequent_b84
      rw [gd_t (k_45 m), K.1, if_neg (nI_ge hj (by omega)), r12_45_19 m, gs_t, gd_t ⟨k_59 m, hin j hj⟩, K.c hl hj, manyWith_eq m T o (vw31 (s.2 _ (mem_getD hj))), bd_t, gs_t, gd_t ⟨k_59 m, hin j hj⟩, K.c hl hj, mr_t, mr_t, nI_1]
      show (if nI (fq tx (ks.getD j 0)) = nI (n + 1) then _ else _) = _
      rw [ifp (nIe (show fq tx (ks.getD j 0) < 2 ^ 31 by omega) (by omega))]
    have inner : fX12_frequent_l42 45 (nI k) (nI (n + 1)) (nI 0) h = some (match pl (pfq tx (n + 1)) (ks.drop 0) k with
      | none => (Sum.inl (nI (k - (ks.drop 0).countP (pfq tx (n + 1))), nI n) : (Int32 × Int32) ⊕ (Int32 × PH))
      | some i => .inr (nI (ks.getD (i + 0) 0), h)) := by
      unfold fX12_frequent_l42
      exact nth2 (c := fun z : Int32 × Int32 => fX12_frequent_c42 45 z.1 (nI (n + 1)) z.2 h) (ks := ks) (pfq tx (n + 1)) (fun i => .inr (nI (ks.getD i 0), h)) (fun k => .inl (nI k, nI n)) (fun k _ => by
        show fX12_frequent_c42 45 (nI k) (nI (n + 1)) (nI ks.length) h = _
        unfold fX12_frequent_c42
        rw [gd_t (k_45 m), K.1, if_pos (nI_le (Nat.le_refl _) (by omega)), mr_t, pk_m1]) (fun j hj q => by
        show fX12_frequent_c42 45 (nI 0) (nI (n + 1)) (nI j) h = _
        rw [st j _ hj, if_pos (decide_eq_true_eq.mp q), if_neg (by decide)]) (fun j k hj q hk => by
        show fX12_frequent_c42 45 (nI (k + 1)) (nI (n + 1)) (nI j) h = _
        rw [st j _ hj, if_pos (decide_eq_true_eq.mp q), if_pos (nI_ne0 (by omega) hk), pk_m1]) (fun j k hj q hk => by
        show fX12_frequent_c42 45 (nI k) (nI (n + 1)) (nI j) h = _
        rw [st j _ hj, if_neg (decide_eq_false_iff_not.mp q)]) ks.length 0 k (by omega) hk
    rw [List.drop_zero] at inner
    have c35 : fX12_frequent_c35 45 (nI k) (nI (n + 1)) h = fX12_frequent_l42 45 (nI k) (nI (n + 1)) (nI 0) h := by
      unfold fX12_frequent_c35
      exact if_neg (show ¬ nI (n + 1) ≤ (0 : Int32) from show ¬ nI (n + 1) ≤ nI 0 by rw [nI_leI (by omega) (by decide)]; omega)
    rw [frq]
    unfold fX12_frequent_l35 at ih ⊢
    by_cases z : k < ks.countP (pfq tx (n + 1))
    · obtain ⟨i, h1, h2⟩ := pl_some ks k z
      rw [h1] at inner
      rw [if_pos z, h1]
      refine wh_done ?_
      show fX12_frequent_c35 45 (nI k) (nI (n + 1)) h = _
      rw [c35, inner]
      rfl
    · rw [pl_nc ks k z] at inner
      rw [if_neg z]
      refine wh_step (t := (nI (k - ks.countP (pfq tx (n + 1))), nI n)) ?_ (ih _ (by omega) (by omega))
      show fX12_frequent_c35 45 (nI k) (nI (n + 1)) h = _
      rw [c35, inner]
theorem frq_some {tx : TX} {ks : List Nat} : ∀ n k : Nat, k < ks.countP (fun v => decide (1 ≤ fq tx v) && decide (fq tx v ≤ n)) → ∃ i, frq tx ks n k = some i ∧ i < ks.length
  | 0, k, h => by
    exfalso
    have : ks.countP (fun v => decide (1 ≤ fq tx v) && decide (fq tx v ≤ 0)) = 0 := by
      rw [List.countP_eq_zero]
      intro v _
      rw [Bool.and_eq_true, decide_eq_true_eq, decide_eq_true_eq]
      omega
    omega
  | n + 1, k, h => by
    have e : ks.countP (fun v => decide (1 ≤ fq tx v) && decide (fq tx v ≤ n + 1)) = ks.countP (fun v => decide (1 ≤ fq tx v) && decide (fq tx v ≤ n)) + ks.countP (pfq tx (n + 1)) := by
      clear h
      induction ks with
      | nil => rfl
      | cons v ks ih =>
        rw [List.countP_cons, List.countP_cons, List.countP_cons, ih]
        have A : ∀ m, (decide (1 ≤ fq tx v) && decide (fq tx v ≤ m)) = decide (1 ≤ fq tx v ∧ fq tx v ≤ m) := fun m => (Bool.decide_and _ _).symm
        rw [A, A, show pfq tx (n + 1) v = decide (fq tx v = n + 1) from rfl]
        simp only [decide_eq_true_eq]
        by_cases c1 : fq tx v = n + 1
        · rw [if_pos (by omega), if_neg (by omega), if_pos c1]
          omega
        · by_cases c2 : 1 ≤ fq tx v ∧ fq tx v ≤ n
          · rw [if_pos (by omega), if_pos c2, if_neg c1]
            omega
          · rw [if_neg (by omega), if_neg c2, if_neg c1]
            rfl
    rw [frq]
    by_cases z : k < ks.countP (pfq tx (n + 1))
    · rw [if_pos z]
      exact pl_some ks k z
    · rw [if_neg z]
      exact frq_some n _ (by omega)
theorem fq_pos {tx : TX} {ks : List Nat} (a : allW tx ks) {v : Nat} (hv : v ∈ ks) : 1 ≤ fq tx v := by
  obtain ⟨t, h1, h2⟩ := (a.2 v).mp hv
  have : ∀ n, t < n → 0 < cnt (fun t => hasT tx t v) n := fun n => by
    induction n with
    | zero => intro h; omega
    | succ n ih =>
      intro hj
      rw [cnt_s]
      by_cases d : t = n
      · rw [← d, h2, if_pos rfl]; omega
      · have := ih (by omega); omega
  exact this 100 h1
theorem frq_ok {tx : TX} {ks : List Nat} (a : allW tx ks) {k : Nat} (hk : k < ks.length) : ∃ i, frq tx ks 100 k = some i ∧ i < ks.length := by
  refine frq_some 100 k ?_
  rw [List.countP_eq_length.mpr (fun v hv => by
    rw [decide_eq_true (fq_pos a hv), decide_eq_true (fq_le tx v)]
    rfl)]
  exact hk
