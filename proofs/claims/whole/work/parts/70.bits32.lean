/-! COUNTING BITS of an int -/
def iA (v : UInt32) : UInt32 := v - ((v >>> (1 : UInt32)) &&& (1431655765 : UInt32))
def iB (v : UInt32) : UInt32 := (v &&& (858993459 : UInt32)) + ((v >>> (2 : UInt32)) &&& (858993459 : UInt32))
def iC (v : UInt32) : UInt32 := (v + (v >>> (4 : UInt32))) &&& (252645135 : UInt32)
def iD (v : UInt32) : UInt32 := v + (v >>> (8 : UInt32))
def iE (v : UInt32) : UInt32 := v + (v >>> (16 : UInt32))
theorem mk85i : mk8 85 4 = 1431655765 := rfl
theorem mk51i : mk8 51 4 = 858993459 := rfl
theorem mk15i : mk8 15 4 = 252645135 := rfl
theorem sh_i (v : UInt32) (k : UInt32) (n : Nat) (h : k.toNat % 32 = n) : (v >>> k).toNat = v.toNat / 2 ^ n := by
  rw [UInt32.toNat_shiftRight, h, Nat.shiftRight_eq_div_pow]
theorem iA_n (v : UInt32) : (iA v).toNat = stA 4 v.toNat := by
  unfold iA stA
  have e : ((v >>> (1 : UInt32)) &&& (1431655765 : UInt32)).toNat = (v.toNat / 2) &&& mk8 85 4 := by
    rw [UInt32.toNat_and, sh_i v 1 1 rfl, mk85i]
    rfl
  rw [UInt32.toNat_sub_of_le _ _ (by
    rw [UInt32.le_iff_toNat_le, e]
    exact Nat.le_trans Nat.and_le_left (Nat.div_le_self _ 2)), e]
theorem iB_n (v : UInt32) (h : stB 4 v.toNat < 256 ^ 4) : (iB v).toNat = stB 4 v.toNat := by
  have e : (iB v).toNat = stB 4 v.toNat % 2 ^ 32 := by
    unfold iB stB
    rw [UInt32.toNat_add, UInt32.toNat_and, UInt32.toNat_and, sh_i v 2 2 rfl, mk51i]
    rfl
  rw [e]
  exact Nat.mod_eq_of_lt h
theorem iC_n (v : UInt32) (h : v.toNat + v.toNat / 16 < 256 ^ 4) : (iC v).toNat = stC 4 v.toNat := by
  unfold iC stC
  rw [UInt32.toNat_and, UInt32.toNat_add, sh_i v 4 4 rfl, mk15i, Nat.mod_eq_of_lt h]
  rfl
theorem iS_n (v k : UInt32) (n : Nat) (h : k.toNat % 32 = n) (hb : v.toNat + v.toNat / 2 ^ n < 256 ^ 4) : (v + (v >>> k)).toNat = v.toNat + v.toNat / 2 ^ n := by
  rw [UInt32.toNat_add, sh_i v k n h]
  exact Nat.mod_eq_of_lt hb
theorem pc32 (v : UInt32) : (iE (iD (iC (iB (iA v))))).toNat % 64 = pcn 32 v.toNat := by
  have h : v.toNat < 256 ^ 4 := v.toNat_lt
  obtain ⟨i1, i2, i3⟩ := abc 4 v.toNat h
  have a := iA_n v
  have b : (iB (iA v)).toNat = stB 4 (stA 4 v.toNat) := by
    rw [iB_n _ (by rw [a]; exact i3), a]
  have n := nib_lt 4 _ i3 i1
  have c : (iC (iB (iA v))).toNat = stC 4 (stB 4 (stA 4 v.toNat)) := by
    rw [iC_n _ (by rw [b]; generalize stB 4 (stA 4 v.toNat) = z at n; omega), b]
  obtain ⟨r1, r2⟩ := fold4 h c rfl
  have r3 := pcn_le 32 v.toNat
  generalize (iC (iB (iA v))) = y at c r1 r2 ⊢
  have d : (iD y).toNat = y.toNat + y.toNat / 256 := iS_n y 8 8 rfl (by
    show y.toNat + y.toNat / 256 < 256 ^ 4
    omega)
  have e : (iE (iD y)).toNat = (iD y).toNat + (iD y).toNat / 65536 := iS_n (iD y) 16 16 rfl (by
    show (iD y).toNat + (iD y).toNat / 65536 < 256 ^ 4
    rw [d]
    exact r2)
  rw [e, d]
  omega
theorem j_sub (a b : UInt32) : a.toInt32 - b.toInt32 = (a - b).toInt32 := rfl
theorem j_add (a b : UInt32) : a.toInt32 + b.toInt32 = (a + b).toInt32 := rfl
theorem j_and (a b : UInt32) : a.toInt32 &&& b.toInt32 = (a &&& b).toInt32 := rfl
theorem j_u (a : UInt32) : Int32.toUInt32 a.toInt32 = a := rfl
theorem j_k1 : Int32.toUInt32 (1 : Int32) &&& Int32.toUInt32 31 = 1 := by decide
theorem j_k2 : Int32.toUInt32 (2 : Int32) &&& Int32.toUInt32 31 = 2 := by decide
theorem j_k4 : Int32.toUInt32 (4 : Int32) &&& Int32.toUInt32 31 = 4 := by decide
theorem j_k8 : Int32.toUInt32 (8 : Int32) &&& Int32.toUInt32 31 = 8 := by decide
theorem j_k16 : Int32.toUInt32 (16 : Int32) &&& Int32.toUInt32 31 = 16 := by decide
theorem j_55 : (1431655765 : Int32) = (1431655765 : UInt32).toInt32 := by decide
theorem j_33 : (858993459 : Int32) = (858993459 : UInt32).toInt32 := by decide
theorem j_0f : (252645135 : Int32) = (252645135 : UInt32).toInt32 := by decide
theorem j_63 (w : UInt32) : w.toInt32 &&& (63 : Int32) = nI (w.toNat % 64) := by
  have e : (nI (w.toNat % 64)) = ((w.toNat % 64 : Nat).toUInt32).toInt32 := rfl
  rw [e]
  apply Int32.toBitVec_inj.mp
  apply BitVec.eq_of_toNat_eq
  rw [Int32.toBitVec_and]
  show (w.toBitVec &&& 63#32).toNat = (w.toNat % 64) % 2 ^ 32
  rw [BitVec.toNat_and, show (63#32).toNat = 2 ^ 6 - 1 from rfl, Nat.and_two_pow_sub_one_eq_mod]
  show w.toNat % 2 ^ 6 = _
  omega
theorem bitCount32_u (v : UInt32) : fJ6_bitCount_0f7a4 v.toInt32 = some (nI (pcn 32 v.toNat)) := by
  rw [← pc32 v, ← j_63]
  unfold fJ6_bitCount_0f7a4 iE iD iC iB iA
  simp only [j_k1, j_k2, j_k4, j_k8, j_k16, j_55, j_33, j_0f, j_u, j_sub, j_and, j_add]
theorem bitCount32 (v : Int32) : fJ6_bitCount_0f7a4 v = some (nI (pcn 32 v.toUInt32.toNat)) := bitCount32_u v.toUInt32
