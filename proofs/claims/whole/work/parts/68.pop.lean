/-! COUNTING BITS byte by byte -/
/-- m in each of n bytes -/
def mk8 (m : Nat) : Nat → Nat
  | 0 => 0
  | n + 1 => 256 * mk8 m n + m
/-- how many of the lowest n bits are set -/
def pcn (n x : Nat) : Nat := cnt (fun i => x.testBit i) n
theorem and_dig {a b c d : Nat} (hb : b < 256) (hd : d < 256) : (256 * a + b) &&& (256 * c + d) = 256 * (a &&& c) + (b &&& d) := by
  refine Nat.eq_of_testBit_eq fun i => ?_
  rw [Nat.testBit_and, show (256 : Nat) = 2 ^ 8 from rfl, Nat.testBit_two_pow_mul_add a hb, Nat.testBit_two_pow_mul_add c hd, Nat.testBit_two_pow_mul_add (a &&& c) (Nat.and_lt_two_pow b hd)]
  by_cases h : i < 8
  · rw [if_pos h, if_pos h, if_pos h, Nat.testBit_and]
  · rw [if_neg h, if_neg h, if_neg h, Nat.testBit_and]
theorem andA : ∀ b, b < 256 → ∀ e, e < 2 → (b / 2 + 128 * e) &&& 85 = (b / 2) &&& 85 := by decide +kernel
theorem andB : ∀ b, b < 256 → ∀ e, e < 4 → (b / 4 + 64 * e) &&& 51 = (b / 4) &&& 51 := by decide +kernel
theorem leA : ∀ b, b < 256 → (b / 2) &&& 85 ≤ b := by decide +kernel
/-- the first step, on n bytes -/
def stA (n x : Nat) : Nat := x - ((x / 2) &&& mk8 85 n)
def stB (n x : Nat) : Nat := (x &&& mk8 51 n) + ((x / 4) &&& mk8 51 n)
def stC (n x : Nat) : Nat := (x + x / 16) &&& mk8 15 n
theorem div_dig (a b k : Nat) (hk : 0 < k) (h : 256 % k = 0) : (256 * a + b) / k = 256 / k * a + b / k := by
  obtain ⟨q, hq⟩ := Nat.dvd_of_mod_eq_zero h
  rw [hq, Nat.mul_assoc, Nat.mul_add_div hk, Nat.mul_div_cancel_left _ hk]
theorem leA_n : ∀ n x, x < 256 ^ n → (x / 2) &&& mk8 85 n ≤ x := fun n x _ => Nat.le_trans (Nat.and_le_left) (Nat.div_le_self x 2)
theorem stA_dig (n a b : Nat) (hb : b < 256) : stA (n + 1) (256 * a + b) = 256 * stA n a + stA 1 b := by
  unfold stA
  have e : (256 * a + b) / 2 = 256 * (a / 2) + (b / 2 + 128 * (a % 2)) := by omega
  have e1 : ((256 * a + b) / 2) &&& mk8 85 (n + 1) = 256 * ((a / 2) &&& mk8 85 n) + ((b / 2) &&& 85) := by
    rw [e]
    show (256 * (a / 2) + (b / 2 + 128 * (a % 2))) &&& (256 * mk8 85 n + 85) = _
    rw [and_dig (by omega) (by omega), andA b hb (a % 2) (by omega)]
  rw [e1, show mk8 85 1 = 85 from rfl]
  have h1 := leA b hb
  have h2 : (a / 2) &&& mk8 85 n ≤ a := Nat.le_trans Nat.and_le_left (Nat.div_le_self a 2)
  omega
theorem stB_dig (n a b : Nat) (hb : b < 256) : stB (n + 1) (256 * a + b) = 256 * stB n a + stB 1 b := by
  unfold stB
  have e : (256 * a + b) / 4 = 256 * (a / 4) + (b / 4 + 64 * (a % 4)) := by omega
  have e1 : ((256 * a + b) / 4) &&& mk8 51 (n + 1) = 256 * ((a / 4) &&& mk8 51 n) + ((b / 4) &&& 51) := by
    rw [e]
    show (256 * (a / 4) + (b / 4 + 64 * (a % 4))) &&& (256 * mk8 51 n + 51) = _
    rw [and_dig (by omega) (by omega), andB b hb (a % 4) (by omega)]
  have e2 : (256 * a + b) &&& mk8 51 (n + 1) = 256 * (a &&& mk8 51 n) + (b &&& 51) := and_dig hb (by omega)
  rw [e1, e2, show mk8 51 1 = 51 from rfl, Nat.mul_add]
  omega
/-- nibbles of at most 4, in n bytes -/
def nib : Nat → Nat → Prop
  | 0, _ => True
  | n + 1, x => x % 16 ≤ 4 ∧ x / 16 % 16 ≤ 4 ∧ nib n (x / 256)
theorem andC : ∀ b, b < 256 → b % 16 ≤ 4 → b / 16 % 16 ≤ 4 → ∀ e, e ≤ 4 → (b + b / 16 + 16 * e) < 256 ∧ (b + b / 16 + 16 * e) &&& 15 = (b + b / 16) &&& 15 := by decide +kernel
theorem stC_dig (n a b : Nat) (hb : b < 256) (h1 : b % 16 ≤ 4) (h2 : b / 16 % 16 ≤ 4) (h3 : a % 16 ≤ 4) : stC (n + 1) (256 * a + b) = 256 * stC n a + stC 1 b := by
  unfold stC
  obtain ⟨k1, k2⟩ := andC b hb h1 h2 (a % 16) h3
  have e : 256 * a + b + (256 * a + b) / 16 = 256 * (a + a / 16) + (b + b / 16 + 16 * (a % 16)) := by omega
  rw [e]
  show (256 * (a + a / 16) + (b + b / 16 + 16 * (a % 16))) &&& (256 * mk8 15 n + 15) = _
  rw [and_dig k1 (by omega), k2]
  rfl
/-- one byte -/
theorem byte_pc : ∀ b, b < 256 → stC 1 (stB 1 (stA 1 b)) = pcn 8 b ∧ stB 1 (stA 1 b) < 256 ∧ stA 1 b < 256 ∧ stB 1 (stA 1 b) % 16 ≤ 4 ∧ stB 1 (stA 1 b) / 16 % 16 ≤ 4 := by decide +kernel
theorem pcn_dig (n a b : Nat) (hb : b < 256) : pcn (8 + n) (256 * a + b) = pcn 8 b + pcn n a := by
  induction n with
  | zero =>
    unfold pcn
    rw [Nat.add_zero, cnt_0, Nat.add_zero]
    unfold cnt
    refine List.countP_congr fun i hi => ?_
    rw [show (256 : Nat) = 2 ^ 8 from rfl, Nat.testBit_two_pow_mul_add a hb, if_pos (List.mem_range.mp hi)]
  | succ n ih =>
    unfold pcn at ih ⊢
    have a1 : cnt (fun i => (256 * a + b).testBit i) (8 + n + 1) = cnt (fun i => (256 * a + b).testBit i) (8 + n) + (if (256 * a + b).testBit (8 + n) = true then 1 else 0) := cnt_s _ _
    have a2 : cnt (fun i => a.testBit i) (n + 1) = cnt (fun i => a.testBit i) n + (if a.testBit n = true then 1 else 0) := cnt_s _ _
    have a3 : (256 * a + b).testBit (8 + n) = a.testBit n := by
      rw [show (256 : Nat) = 2 ^ 8 from rfl, Nat.testBit_two_pow_mul_add a hb, if_neg (Nat.not_lt.mpr (Nat.le_add_right 8 n)), Nat.add_sub_cancel_left]
    rw [show 8 + (n + 1) = 8 + n + 1 from rfl, a1, a2, a3, ih, Nat.add_assoc]
theorem nb1 {a b : Nat} (h : b % 16 ≤ 4) : (256 * a + b) % 16 ≤ 4 := by omega
theorem nb2 {a b : Nat} (h : b / 16 % 16 ≤ 4) : (256 * a + b) / 16 % 16 ≤ 4 := by omega
theorem nb3 {a b : Nat} (h : b < 256) : (256 * a + b) / 256 = a := by omega
theorem nb4 {a b n : Nat} (h1 : a < n) (h : b < 256) : 256 * a + b < n * 256 := by omega
theorem nb5 (x : Nat) : x = 256 * (x / 256) + x % 256 := (Nat.div_add_mod x 256).symm
theorem nb6 {n x : Nat} (h : x < 256 ^ (n + 1)) : x / 256 < 256 ^ n := Nat.div_lt_of_lt_mul (by rw [Nat.mul_comm, ← Nat.pow_succ]; exact h)
theorem nib_s {n a b : Nat} (h0 : b < 256) (h1 : b % 16 ≤ 4) (h2 : b / 16 % 16 ≤ 4) (h : nib n a) : nib (n + 1) (256 * a + b) := by
  rw [nib, nb3 h0]
  exact ⟨nb1 h1, nb2 h2, h⟩
/-- after three steps each byte holds its own count -/
theorem abc_d (n a b : Nat) (hb : b < 256) (ih : nib n (stB n (stA n a)) ∧ stA n a < 256 ^ n ∧ stB n (stA n a) < 256 ^ n) : nib (n + 1) (stB (n + 1) (stA (n + 1) (256 * a + b))) ∧ stA (n + 1) (256 * a + b) < 256 ^ (n + 1) ∧ stB (n + 1) (stA (n + 1) (256 * a + b)) < 256 ^ (n + 1) := by
  obtain ⟨i1, i2, i3⟩ := ih
  obtain ⟨p1, p2, p3, p4, p5⟩ := byte_pc b hb
  rw [stA_dig n _ _ hb, stB_dig n _ _ p3, Nat.pow_succ]
  exact ⟨nib_s p2 p4 p5 i1, nb4 i2 p3, nb4 i3 p2⟩
theorem abc : ∀ n x, x < 256 ^ n → nib n (stB n (stA n x)) ∧ stA n x < 256 ^ n ∧ stB n (stA n x) < 256 ^ n := by
  intro n
  induction n with
  | zero =>
    intro x h
    rw [Nat.pow_zero, Nat.lt_one_iff] at h
    subst h
    refine ⟨trivial, ?_, ?_⟩
    · show 0 - (0 / 2 &&& 0) < 1
      exact Nat.zero_lt_one
    · rw [Nat.pow_zero, Nat.lt_one_iff]
      rfl
  | succ n ih =>
    intro x h
    have q := abc_d n (x / 256) (x % 256) (Nat.mod_lt _ (by decide)) (ih _ (nb6 h))
    rw [← nb5 x] at q
    exact q
theorem abc_d2 (n a b : Nat) (hb : b < 256) (ha : a < 256 ^ n) : stC (n + 1) (stB (n + 1) (stA (n + 1) (256 * a + b))) = 256 * stC n (stB n (stA n a)) + pcn 8 b := by
  obtain ⟨i1, i2, i3⟩ := abc n a ha
  obtain ⟨p1, p2, p3, p4, p5⟩ := byte_pc b hb
  have h16 : stB n (stA n a) % 16 ≤ 4 := by
    cases n with
    | zero =>
      rw [Nat.pow_zero, Nat.lt_one_iff] at i3
      rw [i3]
      decide
    | succ n => exact i1.1
  rw [stA_dig n _ _ hb, stB_dig n _ _ p3, stC_dig n _ _ p2 p4 p5 h16, p1]
theorem abc_s (n x : Nat) (h : x < 256 ^ (n + 1)) : stC (n + 1) (stB (n + 1) (stA (n + 1) x)) = 256 * stC n (stB n (stA n (x / 256))) + pcn 8 (x % 256) := by
  have q := abc_d2 n (x / 256) (x % 256) (Nat.mod_lt _ (by decide)) (nb6 h)
  rw [← nb5 x] at q
  exact q
theorem pcn_le (n x : Nat) : pcn n x ≤ n := cnt_le _ n
theorem divp {a b k : Nat} (h : a < k) : (a + k * b) / k = b := by rw [Nat.add_mul_div_left a b (Nat.lt_of_le_of_lt (Nat.zero_le a) h), Nat.div_eq_of_lt h, Nat.zero_add]
theorem modp {a b k : Nat} (h : a < k) : (a + k * b) % k = a := by rw [Nat.add_mul_mod_self_left, Nat.mod_eq_of_lt h]
/-- a number of base k, its digits the lowest first -/
def dg (k : Nat) : List Nat → Nat
  | [] => 0
  | a :: r => a + k * dg k r
theorem dg_div {k a : Nat} {r : List Nat} (h : a < k) : dg k (a :: r) / k = dg k r := divp h
theorem dg_add1 (k a b : Nat) (r s : List Nat) : dg k (a :: r) + dg k (b :: s) = (a + b) + k * (dg k r + dg k s) := by
  show (a + k * dg k r) + (b + k * dg k s) = _
  rw [Nat.mul_add]
  omega
theorem dg_add {k : Nat} : ∀ r s : List Nat, r.length = s.length → dg k r + dg k s = dg k (r.zipWith (· + ·) s)
  | [], [], _ => rfl
  | a :: r, b :: s, h => by
    rw [dg_add1, dg_add r s (by simpa using h)]
    rfl
  | a :: r, [], h => by cases h
  | [], b :: s, h => by cases h
theorem dg_addn {k : Nat} : ∀ r : List Nat, dg k r + 0 = dg k r := fun _ => rfl
theorem dg_pad (k : Nat) : ∀ r, dg k (r ++ [0]) = dg k r
  | [] => by
    show 0 + k * 0 = 0
    rw [Nat.mul_zero]
  | a :: r => by
    show a + k * dg k (r ++ [0]) = a + k * dg k r
    rw [dg_pad k r]
theorem dg_lt {k : Nat} : ∀ r : List Nat, (∀ a, a ∈ r → a < k) → dg k r < k ^ r.length
  | [], _ => by
    show 0 < k ^ 0
    rw [Nat.pow_zero]
    exact Nat.zero_lt_one
  | a :: r, h => by
    have h1 : a < k := h a (List.mem_cons_self ..)
    have h2 := dg_lt r (fun b hb => h b (List.mem_cons_of_mem _ hb))
    show a + k * dg k r < k ^ (r.length + 1)
    have h3 : k * (dg k r + 1) ≤ k * k ^ r.length := Nat.mul_le_mul_left k h2
    rw [Nat.mul_add, Nat.mul_one] at h3
    rw [Nat.pow_succ, Nat.mul_comm (k ^ r.length) k]
    omega
theorem dg_low {a : Nat} {r : List Nat} (h : a < 128) : dg 256 (a :: r) % 128 = a := by
  show (a + 256 * dg 256 r) % 128 = a
  rw [show 256 * dg 256 r = 128 * (2 * dg 256 r) by omega]
  exact modp h
/-- the counts of the bytes, the lowest first -/
def bys : Nat → Nat → List Nat
  | 0, _ => []
  | n + 1, x => pcn 8 (x % 256) :: bys n (x / 256)
theorem bys_dg : ∀ n x, x < 256 ^ n → stC n (stB n (stA n x)) = dg 256 (bys n x)
  | 0, x, _ => by
    show _ &&& 0 = 0
    rw [Nat.and_zero]
  | n + 1, x, h => by
    rw [abc_s n x h, bys_dg n _ (nb6 h)]
    show 256 * dg 256 (bys n (x / 256)) + pcn 8 (x % 256) = pcn 8 (x % 256) + 256 * dg 256 (bys n (x / 256))
    omega
theorem bys_sum : ∀ n x, pcn (8 * n) x = (bys n x).sum
  | 0, _ => rfl
  | n + 1, x => by
    have q := pcn_dig (8 * n) (x / 256) (x % 256) (Nat.mod_lt _ (by decide))
    rw [← nb5 x, bys_sum n (x / 256)] at q
    rw [show 8 * (n + 1) = 8 + 8 * n by omega, q]
    rfl
theorem dd2 (x : Nat) : x / 65536 = x / 256 / 256 := by rw [Nat.div_div_eq_div_mul]
theorem dd4 (x : Nat) : x / 4294967296 = x / 65536 / 65536 := by rw [Nat.div_div_eq_div_mul]
theorem dg_shift {a : Nat} {r : List Nat} (h : a < 256) : dg 256 (a :: r) / 256 = dg 256 (r ++ [0]) := by rw [dg_div h, dg_pad]
/-- eight digits folded -/
theorem fold8d {p0 p1 p2 p3 p4 p5 p6 p7 y y1 y2 : Nat} (l0 : p0 ≤ 8) (l1 : p1 ≤ 8) (l2 : p2 ≤ 8) (l3 : p3 ≤ 8) (l4 : p4 ≤ 8) (l5 : p5 ≤ 8) (l6 : p6 ≤ 8) (l7 : p7 ≤ 8) (hy : y = dg 256 [p0, p1, p2, p3, p4, p5, p6, p7]) (h1 : y1 = y + y / 256) (h2 : y2 = y1 + y1 / 65536) : (y2 + y2 / 4294967296) % 128 = p0 + p1 + (p2 + p3) + (p4 + p5 + (p6 + p7)) ∧ y2 + y2 / 4294967296 < 256 ^ 8 := by
  have k1 : y1 = dg 256 [p0 + p1, p1 + p2, p2 + p3, p3 + p4, p4 + p5, p5 + p6, p6 + p7, p7 + 0] := by
    rw [h1, hy, dg_shift (by omega)]
    exact dg_add _ _ rfl
  have k2 : y1 / 65536 = dg 256 [p2 + p3, p3 + p4, p4 + p5, p5 + p6, p6 + p7, p7 + 0, 0, 0] := by
    rw [dd2, k1, dg_shift (by omega)]
    exact dg_shift (by omega)
  have k3 : y2 = dg 256 [p0 + p1 + (p2 + p3), p1 + p2 + (p3 + p4), p2 + p3 + (p4 + p5), p3 + p4 + (p5 + p6), p4 + p5 + (p6 + p7), p5 + p6 + (p7 + 0), p6 + p7 + 0, p7 + 0 + 0] := by
    rw [h2, k2, k1]
    exact dg_add _ _ rfl
  have k4 : y2 / 65536 = dg 256 [p2 + p3 + (p4 + p5), p3 + p4 + (p5 + p6), p4 + p5 + (p6 + p7), p5 + p6 + (p7 + 0), p6 + p7 + 0, p7 + 0 + 0, 0, 0] := by
    rw [dd2, k3, dg_shift (by omega)]
    exact dg_shift (by omega)
  have k5 : y2 / 4294967296 = dg 256 [p4 + p5 + (p6 + p7), p5 + p6 + (p7 + 0), p6 + p7 + 0, p7 + 0 + 0, 0, 0, 0, 0] := by
    rw [dd4, k4, dd2, dg_shift (by omega)]
    exact dg_shift (by omega)
  have k6 : y2 + y2 / 4294967296 = dg 256 [p0 + p1 + (p2 + p3) + (p4 + p5 + (p6 + p7)), p1 + p2 + (p3 + p4) + (p5 + p6 + (p7 + 0)), p2 + p3 + (p4 + p5) + (p6 + p7 + 0), p3 + p4 + (p5 + p6) + (p7 + 0 + 0), p4 + p5 + (p6 + p7) + 0, p5 + p6 + (p7 + 0) + 0, p6 + p7 + 0 + 0, p7 + 0 + 0 + 0] := by
    rw [k5, k3]
    exact dg_add _ _ rfl
  rw [k6]
  refine ⟨dg_low (by omega), dg_lt _ fun a ha => ?_⟩
  simp only [List.mem_cons, List.not_mem_nil, or_false] at ha
  rcases ha with rfl | rfl | rfl | rfl | rfl | rfl | rfl | rfl <;> omega
theorem pcn8 (x : Nat) : pcn 8 x ≤ 8 := pcn_le 8 x
/-- eight bytes -/
theorem fold8 {x y y1 y2 : Nat} (h : x < 256 ^ 8) (hy : y = stC 8 (stB 8 (stA 8 x))) (h1 : y1 = y + y / 256) (h2 : y2 = y1 + y1 / 65536) : (y2 + y2 / 4294967296) % 128 = pcn 64 x ∧ y2 + y2 / 4294967296 < 256 ^ 8 := by
  rw [bys_dg 8 x h] at hy
  have q := bys_sum 8 x
  obtain ⟨r1, r2⟩ := fold8d (pcn8 _) (pcn8 _) (pcn8 _) (pcn8 _) (pcn8 _) (pcn8 _) (pcn8 _) (pcn8 _) hy h1 h2
  refine ⟨?_, r2⟩
  rw [r1, show (64 : Nat) = 8 * 8 from rfl, q]
  simp only [bys, List.sum_cons, List.sum_nil]
  omega
theorem fold4d {p0 p1 p2 p3 y y1 : Nat} (l0 : p0 ≤ 8) (l1 : p1 ≤ 8) (l2 : p2 ≤ 8) (l3 : p3 ≤ 8) (hy : y = dg 256 [p0, p1, p2, p3]) (h1 : y1 = y + y / 256) : (y1 + y1 / 65536) % 128 = p0 + p1 + (p2 + p3) ∧ y1 + y1 / 65536 < 256 ^ 4 := by
  have k1 : y1 = dg 256 [p0 + p1, p1 + p2, p2 + p3, p3 + 0] := by
    rw [h1, hy, dg_shift (by omega)]
    exact dg_add _ _ rfl
  have k2 : y1 / 65536 = dg 256 [p2 + p3, p3 + 0, 0, 0] := by
    rw [dd2, k1, dg_shift (by omega)]
    exact dg_shift (by omega)
  have k3 : y1 + y1 / 65536 = dg 256 [p0 + p1 + (p2 + p3), p1 + p2 + (p3 + 0), p2 + p3 + 0, p3 + 0 + 0] := by
    rw [k2, k1]
    exact dg_add _ _ rfl
  rw [k3]
  refine ⟨dg_low (by omega), dg_lt _ fun a ha => ?_⟩
  simp only [List.mem_cons, List.not_mem_nil, or_false] at ha
  rcases ha with rfl | rfl | rfl | rfl <;> omega
/-- four bytes -/
theorem fold4 {x y y1 : Nat} (h : x < 256 ^ 4) (hy : y = stC 4 (stB 4 (stA 4 x))) (h1 : y1 = y + y / 256) : (y1 + y1 / 65536) % 128 = pcn 32 x ∧ y1 + y1 / 65536 < 256 ^ 4 := by
  rw [bys_dg 4 x h] at hy
  have q := bys_sum 4 x
  obtain ⟨r1, r2⟩ := fold4d (pcn8 _) (pcn8 _) (pcn8 _) (pcn8 _) hy h1
  refine ⟨?_, r2⟩
  rw [r1, show (32 : Nat) = 8 * 4 from rfl, q]
  simp only [bys, List.sum_cons, List.sum_nil]
  omega
