/-! COMPARE: choices of words, what is the least -/
def gaW (ks : List Nat) : List L3 → Option (List Nat)
  | [] => some ks
  | l :: ls => if l.1 = 0 then (if l.2.1.getD 0 0 ∈ ks ∨ ks.length < 10 then gaW (insW ks (l.2.1.getD 0 0)) ls else none) else none
def inW (ks : List Nat) : List L3 → List Nat
  | [] => ks
  | l :: ls => inW (insW ks (l.2.1.getD 0 0)) ls
def allz (ls : List L3) : Bool := ls.all (fun l => decide (l.1 = 0))
theorem insW_ge (ks : List Nat) (w : Nat) : ks.length ≤ (insW ks w).length := by
  unfold insW
  split
  · exact Nat.le_refl _
  · rw [insAt_len (pos_le _ _)]
    exact Nat.le_succ _
theorem inW_ge : ∀ (ls : List L3) (ks : List Nat), ks.length ≤ (inW ks ls).length
  | [], _ => Nat.le_refl _
  | l :: ls, ks => Nat.le_trans (insW_ge ks _) (inW_ge ls _)
theorem insW_new {ks : List Nat} {w : Nat} (h : ¬ w ∈ ks) : (insW ks w).length = ks.length + 1 := by
  unfold insW
  rw [if_neg h, insAt_len (pos_le _ _)]
theorem gaW_s : ∀ (ls : List L3) (ks : List Nat), allz ls = true → (inW ks ls).length ≤ 10 → gaW ks ls = some (inW ks ls)
  | [], _, _, _ => rfl
  | l :: ls, ks, z, h => by
    unfold allz at z
    rw [List.all_cons, Bool.and_eq_true] at z
    unfold gaW
    rw [if_pos (of_decide_eq_true z.1), if_pos (by
      by_cases m : l.2.1.getD 0 0 ∈ ks
      · exact Or.inl m
      · have a := inW_ge ls (insW ks (l.2.1.getD 0 0))
        have b := insW_new m
        have h : (inW (insW ks (l.2.1.getD 0 0)) ls).length ≤ 10 := h
        exact Or.inr (by omega))]
    exact gaW_s ls _ z.2 h
theorem gaW_n : ∀ (ls : List L3) (ks : List Nat), ks.length ≤ 10 → (allz ls = false ∨ 10 < (inW ks ls).length) → gaW ks ls = none
  | [], ks, l10, h => by
    rcases h with h | h
    · cases h
    · have h : 10 < ks.length := h
      omega
  | l :: ls, ks, l10, h => by
    unfold gaW
    by_cases z : l.1 = 0
    · rw [if_pos z]
      by_cases m : l.2.1.getD 0 0 ∈ ks ∨ ks.length < 10
      · rw [if_pos m]
        refine gaW_n ls _ ?_ (h.imp (fun y => ?_) (fun y => y))
        · by_cases n : l.2.1.getD 0 0 ∈ ks
          · unfold insW
            rw [if_pos n]; exact l10
          · rw [insW_new n]
            have := m.resolve_left n
            omega
        · unfold allz at y ⊢
          rw [List.all_cons, decide_eq_true z, Bool.true_and] at y
          exact y
      · rw [if_neg m]
    · rw [if_neg z]
theorem SK.inW : ∀ {ls : List L3} {ks : List Nat}, SK ks → (∀ l ∈ ls, okL3 l) → SK (inW ks ls)
  | [], _, s, _ => s
  | l :: ls, ks, s, o => SK.inW (ls := ls) (ks := insW ks (l.2.1.getD 0 0)) (s.ins (okL.w0 (o l List.mem_cons_self))) (fun k hk => o k (List.mem_cons_of_mem _ hk))
theorem inW_mem : ∀ {ls : List L3} {ks : List Nat} {w : Nat}, w ∈ inW ks ls ↔ w ∈ ks ∨ ∃ l ∈ ls, l.2.1.getD 0 0 = w
  | [], ks, w => ⟨Or.inl, fun h => h.elim id (fun ⟨l, hl, _⟩ => absurd hl List.not_mem_nil)⟩
  | l :: ls, ks, w => by
    rw [show inW ks (l :: ls) = inW (insW ks (l.2.1.getD 0 0)) ls from rfl, inW_mem, insW_mem]
    constructor
    · rintro ((h | h) | ⟨k, hk, e⟩)
      · exact Or.inr ⟨l, List.mem_cons_self, h.symm⟩
      · exact Or.inl h
      · exact Or.inr ⟨k, List.mem_cons_of_mem _ hk, e⟩
    · rintro (h | ⟨k, hk, e⟩)
      · exact Or.inl (Or.inr h)
      · rcases List.mem_cons.mp hk with y | y
        · subst y; exact Or.inl (Or.inl e.symm)
        · exact Or.inr ⟨k, y, e⟩
/-- the words of a choice -/
def wpr (ks : List Nat) (p : Nat → Bool) : Nat → List Nat
  | 0 => []
  | i + 1 => wpr ks p i ++ (if p i then [ks.getD i 0] else [])
theorem wpr_len (ks : List Nat) (p : Nat → Bool) : ∀ i, (wpr ks p i).length = cnt p i
  | 0 => rfl
  | i + 1 => by
    rw [cnt_s, ← wpr_len ks p i]
    show (wpr ks p i ++ (if p i then [ks.getD i 0] else [])).length = _
    rw [List.length_append]
    cases p i <;> rfl
theorem wpr_cong {ks : List Nat} {p q : Nat → Bool} : ∀ i, (∀ j, j < i → p j = q j) → wpr ks p i = wpr ks q i
  | 0, _ => rfl
  | i + 1, h => by
    show wpr ks p i ++ (if p i then [ks.getD i 0] else []) = wpr ks q i ++ (if q i then [ks.getD i 0] else [])
    rw [wpr_cong i (fun j hj => h j (by omega)), h i (Nat.lt_succ_self i)]
theorem wpr_mem {ks : List Nat} {p : Nat → Bool} {w : Nat} : ∀ i, w ∈ wpr ks p i ↔ ∃ j, j < i ∧ p j = true ∧ ks.getD j 0 = w
  | 0 => ⟨fun h => absurd h List.not_mem_nil, fun ⟨j, hj, _⟩ => absurd hj (Nat.not_lt_zero j)⟩
  | i + 1 => by
    show w ∈ wpr ks p i ++ (if p i then [ks.getD i 0] else []) ↔ _
    rw [List.mem_append, wpr_mem i]
    constructor
    · rintro (⟨j, hj, e⟩ | h)
      · exact ⟨j, by omega, e⟩
      · cases z : p i with
        | false => rw [z] at h; exact absurd h List.not_mem_nil
        | true =>
          rw [z] at h
          exact ⟨i, Nat.lt_succ_self i, z, (List.mem_singleton.mp h).symm⟩
    · rintro ⟨j, hj, e1, e2⟩
      by_cases d : j = i
      · subst d
        right
        rw [e1, ← e2]
        exact List.mem_cons_self
      · exact Or.inl ⟨j, by omega, e1, e2⟩
theorem wpr_ok {ks : List Nat} (s : SK ks) (p : Nat → Bool) {i : Nat} (hi : i ≤ ks.length) (h10 : ks.length ≤ 10) : okT (wpr ks p i) := by
  refine ⟨?_, fun w hw => ?_⟩
  · rw [wpr_len]
    have := cnt_le p i
    omega
  · obtain ⟨j, hj, -, e⟩ := (wpr_mem i).mp hw
    rw [← e]
    exact s.2 _ (mem_getD (by omega))
theorem wpr_has {ks : List Nat} (s : SK ks) {p : Nat → Bool} {j : Nat} (hj : j < ks.length) : ks.getD j 0 ∈ wpr ks p ks.length ↔ p j = true := by
  rw [wpr_mem]
  constructor
  · rintro ⟨k, hk, e1, e2⟩
    have a := pos_at s hk
    have b := pos_at s hj
    rw [e2] at a
    have : k = j := by omega
    rw [← this]; exact e1
  · intro h
    exact ⟨j, hj, h, rfl⟩
/-- a choice turned round -/
def rv : Nat → Nat → Nat
  | 0, _ => 0
  | n + 1, s => 2 * rv n s + (if s.testBit n then 1 else 0)
theorem rv_bit : ∀ (n s j : Nat), (rv n s).testBit j = (decide (j < n) && s.testBit (n - 1 - j))
  | 0, s, j => by
    show (0 : Nat).testBit j = _
    rw [Nat.zero_testBit]; rfl
  | n + 1, s, 0 => by
    show (2 * rv n s + (if s.testBit n then 1 else 0)).testBit 0 = _
    rw [Nat.testBit_zero, decide_eq_true (Nat.succ_pos n), Bool.true_and, show n + 1 - 1 - 0 = n by omega]
    cases s.testBit n with
    | false => exact decide_eq_false (by simp)
    | true => exact decide_eq_true (by simp)
  | n + 1, s, j + 1 => by
    show (2 * rv n s + (if s.testBit n then 1 else 0)).testBit (j + 1) = _
    have e : (2 * rv n s + (if s.testBit n then 1 else 0)) / 2 = rv n s := by
      cases s.testBit n <;> simp <;> omega
    rw [Nat.testBit_succ, e, rv_bit n s j, show n + 1 - 1 - (j + 1) = n - 1 - j by omega]
    congr 1
    exact decide_eq_decide.mpr (by omega)
theorem rv_lt : ∀ n s, rv n s < 2 ^ n
  | 0, _ => Nat.one_pos
  | n + 1, s => by
    have := rv_lt n s
    show 2 * rv n s + (if s.testBit n then 1 else 0) < 2 ^ (n + 1)
    rw [Nat.pow_succ]
    split <;> omega
theorem rv_rv {n s : Nat} (h : s < 2 ^ n) : rv n (rv n s) = s := by
  refine Nat.eq_of_testBit_eq fun j => ?_
  rw [rv_bit]
  by_cases d : j < n
  · rw [decide_eq_true d, Bool.true_and, rv_bit, decide_eq_true (by omega), Bool.true_and, show n - 1 - (n - 1 - j) = j by omega]
  · rw [decide_eq_false d, Bool.false_and]
    exact (Nat.testBit_lt_two_pow (Nat.lt_of_lt_of_le h (Nat.pow_le_pow_right (by decide) (by omega)))).symm
theorem cnt_rev (p : Nat → Bool) : ∀ n, cnt (fun i => p (n - 1 - i)) n = cnt p n
  | 0 => rfl
  | n + 1 => by
    rw [show n + 1 = 1 + n by omega, cnt_add, show 1 + n = n + 1 by omega, cnt_s p n]
    have e1 : cnt (fun i => p (n + 1 - 1 - i)) 1 = if p n then 1 else 0 := by
      rw [cnt_s, cnt_0]
      show 0 + (if p (n + 1 - 1 - 0) then 1 else 0) = _
      rw [show n + 1 - 1 - 0 = n by omega]
      omega
    have e2 : cnt (fun i => p (n + 1 - 1 - (1 + i))) n = cnt p n := by
      rw [← cnt_rev p n]
      exact cnt_cong n (fun i hi => by
        show p (n + 1 - 1 - (1 + i)) = p (n - 1 - i)
        rw [show n + 1 - 1 - (1 + i) = n - 1 - i by omega])
    rw [e1, e2]
    omega
theorem pcn_rv (n s : Nat) : pcn n (rv n s) = pcn n s := by
  unfold pcn
  rw [← cnt_rev (fun i => s.testBit i) n]
  exact cnt_cong n (fun i hi => by rw [rv_bit, decide_eq_true hi, Bool.true_and])
theorem lt_bit : ∀ (i x y : Nat), x.testBit i = false → y.testBit i = true → (∀ j, i < j → x.testBit j = y.testBit j) → x < y
  | 0, x, y, hx, hy, h => by
    rw [Nat.testBit_zero] at hx hy
    have a := of_decide_eq_false hx
    have b := of_decide_eq_true hy
    have e : x / 2 = y / 2 := Nat.eq_of_testBit_eq fun j => by
      rw [Nat.testBit_div_two, Nat.testBit_div_two]
      exact h (j + 1) (Nat.succ_pos j)
    omega
  | i + 1, x, y, hx, hy, h => by
    have := lt_bit i (x / 2) (y / 2) (by rw [Nat.testBit_div_two]; exact hx) (by rw [Nat.testBit_div_two]; exact hy) (fun j hj => by
      rw [Nat.testBit_div_two, Nat.testBit_div_two]
      exact h (j + 1) (by omega))
    omega
theorem xor0 {a b : Nat} (z : a ^^^ b = 0) : a = b := Nat.eq_of_testBit_eq fun j => by
  have h : (a ^^^ b).testBit j = false := by rw [z, Nat.zero_testBit]
  rw [Nat.testBit_xor] at h
  revert h
  cases a.testBit j <;> cases b.testBit j <;> decide
/-- the lowest place where two choices differ decides -/
theorem rv_less {n s t i : Nat} (hi : i < n) (h1 : s.testBit i = true) (h2 : t.testBit i = false) (h : ∀ j, j < i → s.testBit j = t.testBit j) : rv n t < rv n s := by
  refine lt_bit (n - 1 - i) _ _ ?_ ?_ (fun j hj => ?_)
  · rw [rv_bit, decide_eq_true (by omega), Bool.true_and, show n - 1 - (n - 1 - i) = i by omega]; exact h2
  · rw [rv_bit, decide_eq_true (by omega), Bool.true_and, show n - 1 - (n - 1 - i) = i by omega]; exact h1
  · rw [rv_bit, rv_bit]
    by_cases d : j < n
    · rw [h (n - 1 - j) (by omega)]
    · rw [decide_eq_false d, Bool.false_and, Bool.false_and]
/-- the least choice -/
def BEST (n : Nat) (D : Nat → Bool) (o : Option Nat) : Prop := match o with
  | none => ∀ s, s < 2 ^ n → D s = false
  | some b => b < 2 ^ n ∧ D b = true ∧ ∀ s, s < 2 ^ n → D s = true → pcn n b < pcn n s ∨ (pcn n b = pcn n s ∧ rv n s ≤ rv n b)
theorem BEST.uniq {n : Nat} {D : Nat → Bool} : ∀ {o o' : Option Nat}, BEST n D o → BEST n D o' → o = o'
  | none, none, _, _ => rfl
  | none, some b, x, y => by
    have := x b y.1
    rw [y.2.1] at this
    cases this
  | some b, none, x, y => by
    have := y b x.1
    rw [x.2.1] at this
    cases this
  | some b, some b', x, y => by
    have h1 := x.2.2 b' y.1 y.2.1
    have h2 := y.2.2 b x.1 x.2.1
    have e : rv n b = rv n b' := by omega
    have : rv n (rv n b) = rv n (rv n b') := by rw [e]
    rw [rv_rv x.1, rv_rv y.1] at this
    rw [this]
/-- from the top down, as far as m, by turned choices -/
def DWN (n : Nat) (D : Nat → Bool) (m : Nat) (o : Option Nat) : Prop := match o with
  | none => ∀ s, m ≤ s → s < 2 ^ n → D (rv n s) = false
  | some b => m ≤ b ∧ b < 2 ^ n ∧ D (rv n b) = true ∧ ∀ s, m ≤ s → s < 2 ^ n → D (rv n s) = true → pcn n b < pcn n s ∨ (pcn n b = pcn n s ∧ s ≤ b)
def UPW (n : Nat) (D : Nat → Bool) (m : Nat) (o : Option Nat) : Prop := match o with
  | none => ∀ s, s < m → D s = false
  | some b => b < m ∧ D b = true ∧ ∀ s, s < m → D s = true → pcn n b < pcn n s ∨ (pcn n b = pcn n s ∧ rv n s ≤ rv n b)
theorem DWN.fin {n : Nat} {D : Nat → Bool} : ∀ {o : Option Nat}, DWN n D 0 o → BEST n D (o.map (rv n))
  | none, x => fun s hs => by
    have := x (rv n s) (Nat.zero_le _) (rv_lt n s)
    rw [rv_rv hs] at this
    exact this
  | some b, x => by
    refine ⟨rv_lt n b, x.2.2.1, fun s hs d => ?_⟩
    have := x.2.2.2 (rv n s) (Nat.zero_le _) (rv_lt n s) (by rw [rv_rv hs]; exact d)
    rw [pcn_rv] at this
    rw [pcn_rv, rv_rv x.2.1]
    exact this
theorem UPW.fin {n : Nat} {D : Nat → Bool} : ∀ {o : Option Nat}, UPW n D (2 ^ n) o → BEST n D o
  | none, x => x
  | some _, x => x
theorem pcn_low {n s : Nat} : ∀ k, s < 2 ^ n → pcn (n + k) s = pcn n s := fun k h => by
  unfold pcn
  rw [cnt_add, cnt_none k (fun i _ => Nat.testBit_lt_two_pow (Nat.lt_of_lt_of_le h (Nat.pow_le_pow_right (by decide) (by omega)))), Nat.add_zero]
/-! bits of ints below 1024 -/
theorem s1024 {P : Nat → Prop} (h : ∀ a, a < 32 → ∀ b, b < 32 → P (32 * a + b)) : ∀ s, s < 1024 → P s := fun s hs => by
  have := h (s / 32) (by omega) (s % 32) (by omega)
  rw [show 32 * (s / 32) + s % 32 = s by omega] at this
  exact this
theorem bitX0 : ∀ a, a < 32 → ∀ b, b < 32 → ∀ j, j < 10 → (((Int32.toUInt32 (nI (32 * a + b))) >>> (Int32.toUInt32 (nI j) &&& Int32.toUInt32 31)).toInt32 &&& (1 : Int32)) = bI ((32 * a + b).testBit j) := by decide +kernel
theorem bitX : ∀ s, s < 1024 → ∀ j, j < 10 → (((Int32.toUInt32 (nI s)) >>> (Int32.toUInt32 (nI j) &&& Int32.toUInt32 31)).toInt32 &&& (1 : Int32)) = bI (s.testBit j) := s1024 bitX0
theorem bitM0 : ∀ a, a < 32 → ∀ b, b < 32 → ∀ j, j < 10 → ((nI (32 * a + b) >>> (nI j &&& 31)) &&& (1 : Int32)) = bI ((32 * a + b).testBit j) := by decide +kernel
theorem bitM : ∀ s, s < 1024 → ∀ j, j < 10 → ((nI s >>> (nI j &&& 31)) &&& (1 : Int32)) = bI (s.testBit j) := s1024 bitM0
theorem bitA0 : ∀ a, a < 32 → ∀ b, b < 32 → (nI (32 * a + b) &&& (1 : Int32)) = nI ((32 * a + b) % 2) ∧ (nI (32 * a + b)).toUInt32.toNat = 32 * a + b := by decide +kernel
theorem bitA : ∀ s, s < 1024 → (nI s &&& (1 : Int32)) = nI (s % 2) ∧ (nI s).toUInt32.toNat = s := s1024 bitA0
def lbt (a : Nat) : Nat := ((List.range 10).find? (fun i => a.testBit i)).getD 0
theorem bitL0 : ∀ a, a < 32 → ∀ b, b < 32 → 32 * a + b = 0 ∨ ((nI (32 * a + b) &&& ((0 : Int32) - nI (32 * a + b))) = nI (2 ^ lbt (32 * a + b)) ∧ lbt (32 * a + b) < 10 ∧ (32 * a + b).testBit (lbt (32 * a + b)) = true ∧ ∀ j, j < lbt (32 * a + b) → (32 * a + b).testBit j = false) := by decide +kernel
theorem bitL : ∀ a, a < 1024 → a = 0 ∨ ((nI a &&& ((0 : Int32) - nI a)) = nI (2 ^ lbt a) ∧ lbt a < 10 ∧ a.testBit (lbt a) = true ∧ ∀ j, j < lbt a → a.testBit j = false) := s1024 bitL0
theorem bitP0 : ∀ a, a < 32 → ∀ b, b < 32 → ∀ i, i < 10 → ((nI (32 * a + b) &&& nI (2 ^ i)) = 0 ↔ (32 * a + b).testBit i = false) := by decide +kernel
theorem bitP : ∀ s, s < 1024 → ∀ i, i < 10 → ((nI s &&& nI (2 ^ i)) = 0 ↔ s.testBit i = false) := s1024 bitP0
theorem shlN : ∀ n, n < 11 → ((1 : Int32) <<< (nI n &&& 31)) = nI (2 ^ n) ∧ nI (2 ^ n) - (1 : Int32) = nI (2 ^ n - 1) := by decide +kernel
theorem xorN (a b : Nat) : nI a ^^^ nI b = nI (a ^^^ b) := by
  apply Int32.toBitVec.inj
  show BitVec.ofNat 32 a ^^^ BitVec.ofNat 32 b = BitVec.ofNat 32 (a ^^^ b)
  rw [BitVec.ofNat_xor]
theorem pow10 {n s : Nat} (h : n ≤ 10) (hs : s < 2 ^ n) : s < 1024 := Nat.lt_of_lt_of_le hs (show 2 ^ n ≤ 2 ^ 10 from Nat.pow_le_pow_right (by decide) h)
/-- which of two choices is better -/
theorem better {n s b : Nat} (h10 : n ≤ 10) (hs : s < 2 ^ n) (hb : b < 2 ^ n) (ne : s ≠ b) : (((nI s &&& nI (s ^^^ b)) &&& ((0 : Int32) - nI (s ^^^ b))) = 0) ↔ ¬ rv n b < rv n s := by
  have s10 := pow10 h10 hs
  have b10 := pow10 h10 hb
  have x10 : s ^^^ b < 2 ^ n := Nat.xor_lt_two_pow hs hb
  rcases bitL (s ^^^ b) (pow10 h10 x10) with z | ⟨l1, l2, l3, l4⟩
  · exact absurd (xor0 z) ne
  · rw [Int32.and_assoc, l1, bitP s s10 _ l2]
    have ln : lbt (s ^^^ b) < n := by
      apply Nat.lt_of_not_le
      intro h
      rw [Nat.testBit_lt_two_pow (Nat.lt_of_lt_of_le x10 (Nat.pow_le_pow_right (by decide) h))] at l3
      cases l3
    have eq : ∀ j, j < lbt (s ^^^ b) → s.testBit j = b.testBit j := fun j hj => by
      have := l4 j hj
      rw [Nat.testBit_xor] at this
      revert this
      cases s.testBit j <;> cases b.testBit j <;> decide
    rw [Nat.testBit_xor] at l3
    cases zs : s.testBit (lbt (s ^^^ b)) with
    | false =>
      have zb : b.testBit (lbt (s ^^^ b)) = true := by
        rw [zs] at l3
        revert l3
        cases b.testBit (lbt (s ^^^ b)) <;> decide
      have := rv_less ln zb zs (fun j hj => (eq j hj).symm)
      exact ⟨fun _ => by omega, fun _ => rfl⟩
    | true =>
      have zb : b.testBit (lbt (s ^^^ b)) = false := by
        rw [zs] at l3
        revert l3
        cases b.testBit (lbt (s ^^^ b)) <;> decide
      have := rv_less ln zs zb eq
      exact ⟨fun h => (by cases h), fun h => absurd this h⟩
