/-! COUNTING BITS: the JDK's functions -/
theorem nib_lt : ∀ n x, x < 256 ^ n → nib n x → 3 * x < 256 ^ n
  | 0, x, h, _ => by
    rw [Nat.pow_zero] at h ⊢
    omega
  | n + 1, x, h, k => by
    rw [nib] at k
    have q := nib_lt n (x / 256) (nb6 h) k.2.2
    obtain ⟨k1, k2, -⟩ := k
    rw [Nat.pow_succ]
    generalize 256 ^ n = N at q
    omega
def uA (v : UInt64) : UInt64 := v - ((v >>> (1 : UInt64)) &&& (6148914691236517205 : UInt64))
def uB (v : UInt64) : UInt64 := (v &&& (3689348814741910323 : UInt64)) + ((v >>> (2 : UInt64)) &&& (3689348814741910323 : UInt64))
def uC (v : UInt64) : UInt64 := (v + (v >>> (4 : UInt64))) &&& (1085102592571150095 : UInt64)
def uD (v : UInt64) : UInt64 := v + (v >>> (8 : UInt64))
def uE (v : UInt64) : UInt64 := v + (v >>> (16 : UInt64))
def uF (v : UInt64) : UInt64 := v + (v >>> (32 : UInt64))
theorem u_lt (v : UInt64) : v.toNat < 256 ^ 8 := v.toNat_lt
theorem mk85 : mk8 85 8 = 6148914691236517205 := rfl
theorem mk51 : mk8 51 8 = 3689348814741910323 := rfl
theorem mk15 : mk8 15 8 = 1085102592571150095 := rfl
theorem sh_u (v : UInt64) (k : UInt64) (n : Nat) (h : k.toNat % 64 = n) : (v >>> k).toNat = v.toNat / 2 ^ n := by
  rw [UInt64.toNat_shiftRight, h, Nat.shiftRight_eq_div_pow]
theorem uA_n (v : UInt64) : (uA v).toNat = stA 8 v.toNat := by
  unfold uA stA
  have e : ((v >>> (1 : UInt64)) &&& (6148914691236517205 : UInt64)).toNat = (v.toNat / 2) &&& mk8 85 8 := by
    rw [UInt64.toNat_and, sh_u v 1 1 rfl, mk85]
    rfl
  rw [UInt64.toNat_sub_of_le _ _ (by
    rw [UInt64.le_iff_toNat_le, e]
    exact Nat.le_trans Nat.and_le_left (Nat.div_le_self _ 2)), e]
theorem uB_n (v : UInt64) (h : stB 8 v.toNat < 256 ^ 8) : (uB v).toNat = stB 8 v.toNat := by
  have e : (uB v).toNat = stB 8 v.toNat % 2 ^ 64 := by
    unfold uB stB
    rw [UInt64.toNat_add, UInt64.toNat_and, UInt64.toNat_and, sh_u v 2 2 rfl, mk51]
    rfl
  rw [e]
  exact Nat.mod_eq_of_lt h
theorem uC_n (v : UInt64) (h : v.toNat + v.toNat / 16 < 256 ^ 8) : (uC v).toNat = stC 8 v.toNat := by
  unfold uC stC
  rw [UInt64.toNat_and, UInt64.toNat_add, sh_u v 4 4 rfl, mk15, Nat.mod_eq_of_lt h]
  rfl
theorem uS_n (v k : UInt64) (n : Nat) (h : k.toNat % 64 = n) (hb : v.toNat + v.toNat / 2 ^ n < 256 ^ 8) : (v + (v >>> k)).toNat = v.toNat + v.toNat / 2 ^ n := by
  rw [UInt64.toNat_add, sh_u v k n h]
  exact Nat.mod_eq_of_lt hb
theorem pc64 (v : UInt64) : (uF (uE (uD (uC (uB (uA v)))))).toNat % 128 = pcn 64 v.toNat := by
  have h := u_lt v
  obtain ⟨i1, i2, i3⟩ := abc 8 v.toNat h
  have a := uA_n v
  have b : (uB (uA v)).toNat = stB 8 (stA 8 v.toNat) := by
    rw [uB_n _ (by rw [a]; exact i3), a]
  have n := nib_lt 8 _ i3 i1
  have c : (uC (uB (uA v))).toNat = stC 8 (stB 8 (stA 8 v.toNat)) := by
    rw [uC_n _ (by rw [b]; generalize stB 8 (stA 8 v.toNat) = z at n; omega), b]
  obtain ⟨r1, r2⟩ := fold8 h c.symm.symm rfl rfl
  generalize (uC (uB (uA v))) = y at c r1 r2 ⊢
  have d : (uD y).toNat = y.toNat + y.toNat / 256 := uS_n y 8 8 rfl (by
    show y.toNat + y.toNat / 256 < 256 ^ 8
    omega)
  have e : (uE (uD y)).toNat = (uD y).toNat + (uD y).toNat / 65536 := uS_n (uD y) 16 16 rfl (by
    show (uD y).toNat + (uD y).toNat / 65536 < 256 ^ 8
    rw [d]
    omega)
  have f : (uF (uE (uD y))).toNat = (uE (uD y)).toNat + (uE (uD y)).toNat / 4294967296 := uS_n (uE (uD y)) 32 32 rfl (by
    show (uE (uD y)).toNat + (uE (uD y)).toNat / 4294967296 < 256 ^ 8
    rw [e, d]
    exact r2)
  rw [f, e, d]
  exact r1
theorem l_sub (a b : UInt64) : a.toInt64 - b.toInt64 = (a - b).toInt64 := rfl
theorem l_add (a b : UInt64) : a.toInt64 + b.toInt64 = (a + b).toInt64 := rfl
theorem l_and (a b : UInt64) : a.toInt64 &&& b.toInt64 = (a &&& b).toInt64 := rfl
theorem l_u (a : UInt64) : Int64.toUInt64 a.toInt64 = a := rfl
theorem l_k1 : (Int32.toInt64 (1 : Int32)).toUInt64 &&& Int64.toUInt64 63 = 1 := by decide
theorem l_k2 : (Int32.toInt64 (2 : Int32)).toUInt64 &&& Int64.toUInt64 63 = 2 := by decide
theorem l_k4 : (Int32.toInt64 (4 : Int32)).toUInt64 &&& Int64.toUInt64 63 = 4 := by decide
theorem l_k8 : (Int32.toInt64 (8 : Int32)).toUInt64 &&& Int64.toUInt64 63 = 8 := by decide
theorem l_k16 : (Int32.toInt64 (16 : Int32)).toUInt64 &&& Int64.toUInt64 63 = 16 := by decide
theorem l_k32 : (Int32.toInt64 (32 : Int32)).toUInt64 &&& Int64.toUInt64 63 = 32 := by decide
theorem l_55 : (6148914691236517205 : Int64) = (6148914691236517205 : UInt64).toInt64 := by decide
theorem l_33 : (3689348814741910323 : Int64) = (3689348814741910323 : UInt64).toInt64 := by decide
theorem l_0f : (1085102592571150095 : Int64) = (1085102592571150095 : UInt64).toInt64 := by decide
theorem l_127 (w : UInt64) : (Int64.toInt32 w.toInt64) &&& (127 : Int32) = nI (w.toNat % 128) := by
  have e : (nI (w.toNat % 128)) = ((w.toNat % 128 : Nat).toUInt32).toInt32 := rfl
  rw [e]
  apply Int32.toBitVec_inj.mp
  apply BitVec.eq_of_toNat_eq
  rw [Int32.toBitVec_and, Int64.toBitVec_toInt32]
  show (BitVec.signExtend 32 w.toBitVec &&& 127#32).toNat = (w.toNat % 128) % 2 ^ 32
  rw [BitVec.signExtend_eq_setWidth_of_le _ (by decide), BitVec.toNat_and, BitVec.toNat_setWidth, show (127#32).toNat = 2 ^ 7 - 1 from rfl, Nat.and_two_pow_sub_one_eq_mod]
  show w.toNat % 2 ^ 32 % 2 ^ 7 = _
  omega
theorem bitCount64_u (v : UInt64) : fJ13_bitCount_95d88 v.toInt64 = some (nI (pcn 64 v.toNat)) := by
  rw [← pc64 v, ← l_127]
  unfold fJ13_bitCount_95d88 uF uE uD uC uB uA
  simp only [l_k1, l_k2, l_k4, l_k8, l_k16, l_k32, l_55, l_33, l_0f, l_u, l_sub, l_and, l_add]
theorem bitCount64 (v : Int64) : fJ13_bitCount_95d88 v = some (nI (pcn 64 v.toUInt64.toNat)) := bitCount64_u v.toUInt64
