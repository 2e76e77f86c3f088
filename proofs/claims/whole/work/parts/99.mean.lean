/-! meanLength: a quotient of whole numbers is no NaN -/
def okE (x : Nat) : Prop := x % 2 ^ 63 ≤ 2047 * 2 ^ 52
theorem ok_n64 {x : Nat} (h : okE x) : n64 (UInt64.ofNat x) := by
  show (UInt64.ofNat x) &&& 0x7fffffffffffffff ≤ 0x7ff0000000000000
  rw [UInt64.le_iff_toNat_le, UInt64.toNat_and, show (0x7fffffffffffffff : UInt64).toNat = 2 ^ 63 - 1 from rfl, Nat.and_two_pow_sub_one_eq_mod, show (0x7ff0000000000000 : UInt64).toNat = 2047 * 2 ^ 52 from rfl]
  show x % 2 ^ 64 % 2 ^ 63 ≤ _
  rw [Nat.mod_mod_of_dvd _ (by decide)]
  exact h
theorem asm64 (s : Bool) (e t : Nat) : FP.Core.assemble FP.Core.b64 s e t = s.toNat * 2 ^ 63 + e * 2 ^ 52 + t := by
  unfold FP.Core.assemble
  show (s.toNat * 2 ^ 11 + e) * 2 ^ 52 + t = _
  cases s
  · show (0 * 2 ^ 11 + e) * 2 ^ 52 + t = 0 * 2 ^ 63 + e * 2 ^ 52 + t
    omega
  · show (1 * 2 ^ 11 + e) * 2 ^ 52 + t = 1 * 2 ^ 63 + e * 2 ^ 52 + t
    omega
theorem asm_ok {s : Bool} {e t : Nat} (h : e * 2 ^ 52 + t ≤ 2047 * 2 ^ 52) : okE (FP.Core.assemble FP.Core.b64 s e t) := by
  unfold okE
  rw [asm64]
  cases s
  · show (0 * 2 ^ 63 + e * 2 ^ 52 + t) % 2 ^ 63 ≤ _
    have := Nat.mod_le (0 * 2 ^ 63 + e * 2 ^ 52 + t) (2 ^ 63)
    omega
  · show (1 * 2 ^ 63 + e * 2 ^ 52 + t) % 2 ^ 63 ≤ _
    rw [show 1 * 2 ^ 63 + e * 2 ^ 52 + t = 2 ^ 63 + (e * 2 ^ 52 + t) by omega, Nat.add_mod_left]
    exact Nat.le_trans (Nat.mod_le _ _) h
theorem bound_ok (s : Bool) {c : Nat} {q : Int} (hc : c < 2 ^ 53) : okE (FP.Core.encode FP.Core.b64 (FP.Core.bound FP.Core.b64 s c q)) := by
  unfold FP.Core.bound
  split
  · rename_i h
    have h : q ≤ 971 := h
    show okE (if c < 2 ^ 52 then FP.Core.assemble FP.Core.b64 s 0 c else FP.Core.assemble FP.Core.b64 s ((q - (-1074)).toNat + 1) (c - 2 ^ 52))
    split
    · exact asm_ok (by omega)
    · exact asm_ok (by
        have : (q - (-1074)).toNat ≤ 2045 := by omega
        generalize (q - (-1074)).toNat = k at this
        omega)
  · show okE (FP.Core.assemble FP.Core.b64 s (2 ^ 11 - 1) 0)
    exact asm_ok (by decide)
theorem ratio_ok (s : Bool) (num den : Nat) (e : Int) : okE (FP.Core.encode FP.Core.b64 (FP.Core.roundRatio FP.Core.b64 s num den e)) := by
  unfold FP.Core.roundRatio
  split
  · have e0 : FP.Core.encode FP.Core.b64 (.fin s 0 (FP.Core.Fmt.qmin FP.Core.b64)) = FP.Core.assemble FP.Core.b64 s 0 0 := by cases s <;> decide +kernel
    rw [e0]
    exact asm_ok (by decide)
  · unfold FP.Core.roundAt FP.Core.settle
    split
    · rename_i h
      exact bound_ok s h
    · exact bound_ok s (by decide)
def isFin (x : UInt64) : Bool := match FP.Core.decode FP.Core.b64 x.toNat with
  | .fin _ c _ => decide (c ≠ 0)
  | _ => false
def isFn0 (x : UInt64) : Bool := match FP.Core.decode FP.Core.b64 x.toNat with
  | .fin _ _ _ => true
  | _ => false
theorem ddiv_ok {x y : UInt64} (hx : isFn0 x = true) (hy : isFin y = true) : n64 (FP.ddiv x y) := by
  apply ok_n64
  show okE (FP.Core.encode FP.Core.b64 (FP.Core.quotient FP.Core.b64 (FP.Core.decode FP.Core.b64 x.toNat) (FP.Core.decode FP.Core.b64 y.toNat)))
  unfold isFn0 at hx
  unfold isFin at hy
  cases e1 : FP.Core.decode FP.Core.b64 x.toNat with
  | nan => rw [e1] at hx; cases hx
  | inf s => rw [e1] at hx; cases hx
  | fin s c q =>
    cases e2 : FP.Core.decode FP.Core.b64 y.toNat with
    | nan => rw [e2] at hy; cases hy
    | inf s => rw [e2] at hy; cases hy
    | fin t d r =>
      rw [e2] at hy
      have hd : d ≠ 0 := decide_eq_true_eq.mp hy
      show okE (FP.Core.encode FP.Core.b64 (if d = 0 then (if c = 0 then .nan else .inf (s != t)) else FP.Core.roundRatio FP.Core.b64 (s != t) c d (q - r)))
      rw [if_neg hd]
      exact ratio_ok _ _ _ _
theorem fin_den : ∀ c, c < 101 → c = 0 ∨ isFin (FP.i2d (nI c)) = true := by decide +kernel
theorem fin_num' : ∀ a, a < 64 → ∀ b, b < 64 → isFn0 (FP.i2d (nI (64 * a + b))) = true := by decide +kernel
theorem fin_num {s : Nat} (h : s ≤ 4000) : isFn0 (FP.i2d (nI s)) = true := by
  have := fin_num' (s / 64) (by omega) (s % 64) (Nat.mod_lt _ (by decide))
  rwa [show 64 * (s / 64) + s % 64 = s by omega] at this
/-- how many words a text has -/
def lw (tx : TX) (t : Nat) : Nat := match tx t with
  | none => 0
  | some ws => ws.length
theorem lw_n {tx : TX} {t : Nat} (e : tx t = none) : lw tx t = 0 := by unfold lw; rw [e]
theorem lw_s {tx : TX} {t : Nat} {ws : List Nat} (e : tx t = some ws) : lw tx t = ws.length := by unfold lw; rw [e]
theorem lw_sum {tx : TX} (o : okX tx) : ∀ n, sm (lw tx) n ≤ 40 * n
  | 0 => Nat.le_refl _
  | n + 1 => by
    have := lw_sum o n
    rw [sm]
    have : lw tx n ≤ 40 := by
      cases e : tx n with
      | none => rw [lw_n e]; omega
      | some ws => rw [lw_s e]; exact (o n ws e).2.1
    omega
def mlV (tx : TX) : UInt64 := if cnt (fun t => (tx t).isSome) 100 = 0 then dcn 0 else FP.ddiv (FP.i2d (nI (sm (lw tx) 100))) (FP.i2d (nI (cnt (fun t => (tx t).isSome) 100)))
theorem ml_ok {tx : TX} (o : okX tx) (h : ¬ cnt (fun t => (tx t).isSome) 100 = 0) : n64 (FP.ddiv (FP.i2d (nI (sm (lw tx) 100))) (FP.i2d (nI (cnt (fun t => (tx t).isSome) 100)))) :=
  ddiv_ok (fin_num (lw_sum o 100)) ((fin_den _ (by have := cnt_le (fun t => (tx t).isSome) 100; omega)).resolve_left h)
theorem X11_mean {h : PH} (c : CSh h) {tx : TX} (o : okX tx) (T : CT tx h) : fX11_meanLength 10 h = some (mlV tx) := by
  unfold fX11_meanLength fX11_meanLength_l6
  refine wh_out (fun j => (nI (sm (lw tx) j), nI (cnt (fun t => (tx t).isSome) j), nI j)) 100 rfl (fun j hj => ?_) ?_
  · show fX11_meanLength_c6 10 (nI (sm (lw tx) j)) (nI (cnt (fun t => (tx t).isSome) j)) (nI j) h = _
    have hin : inb (nI j) (hN h 15) := by rw [n_15 c]; exact inbI hj (by decide)
    unfold fX11_meanLength_c6 fX11_meanLength_b36
    rw [if_neg (i100 hj), gd_t (k_10 c), r11_10_2 c, gs_t, gd_t ⟨k_15 c, hin⟩]
    cases q : tx j with
    | none => rw [T.nc hj q, mq_nt, nI_1, sm, lw_n q, cnt_s, q]; rfl
    | some ws =>
      obtain ⟨a, b, h1, h2, h3, h4⟩ := T.sc hj q
      rw [h1, mq_st, gs_t, gd_t ⟨k_15 c, hin⟩, h1, gs_t, gd_t h4.1, X8_size_eq h4, bd_t, nI_1, nI_1, nI_add, sm, lw_s q, cnt_s, q]
      rfl
  · show fX11_meanLength_c6 10 (nI (sm (lw tx) 100)) (nI (cnt (fun t => (tx t).isSome) 100)) (nI 100) h = _
    have hc := cnt_le (fun t => (tx t).isSome) 100
    unfold fX11_meanLength_c6 fX11_meanLength_b55 mlV
    rw [if_pos (by decide)]
    by_cases z : cnt (fun t => (tx t).isSome) 100 = 0
    · rw [if_neg (fun q => q ((nI0 (by omega)).mpr z)), if_pos z, mr_t]
    · rw [if_pos (fun q => z ((nI0 (by omega)).mp q)), if_neg z, gd_t (ml_ok o z), mr_t]
theorem ls_meanLength {h : PH} {P : PH → Prop} {tx : TX} (c : CSh h) (m : MSh h) (o : okX tx) (T1 : CT tx h) (T2 : MT tx h) (a1 a2 a3 a4 a5 : Int32) (hP : ∀ h', scr h h' → P h') : LS_52 10 45 87 88 a1 a2 a3 a4 a5 h P := by
  have s1 := scr_thr h 0
  have m1 := m.scr s1
  have t1 := T2.scr s1
  refine ⟨mlV tx, X11_mean c o T1, k_10 c, (mlV tx, sI h 12 45 0 0), k_45 m, ?_, rfl, hP _ s1⟩
  unfold fX12_meanLength
  rw [gd_t (k_45 m), lt_t]
  generalize sI h 12 45 0 0 = g at s1 m1 t1
  unfold fX12_meanLength_l9
  refine wh_out (fun j => (nI (sm (lw tx) j), nI j)) 100 rfl (fun j hj => ?_) ?_
  · show fX12_meanLength_c9 45 (nI (sm (lw tx) j)) (nI j) g = _
    unfold fX12_meanLength_c9 fX12_meanLength_b35
    rw [if_neg (i100 hj), gd_t (k_45 m1), r12_45_4 m1, gs_t, gd_t ⟨k_47 m1, by rw [n_47 m1]; exact inbI hj (by decide)⟩]
    cases q : tx j with
    | none => rw [t1.nc hj q, if_pos rfl, Int32.add_zero, nI_1, sm, lw_n q]; rfl
    | some ws => rw [(t1.sc hj q).1, if_neg (by decide), r12_45_6 m1, gs_t, gd_t ⟨k_49 m1, by rw [n_49 m1]; exact inbI hj (by decide)⟩, (t1.sc hj q).2, nI_1, nI_add, sm, lw_s q]
  · show fX12_meanLength_c9 45 (nI (sm (lw tx) 100)) (nI 100) g = _
    have hc := cnt_le (fun t => (tx t).isSome) 100
    unfold fX12_meanLength_c9 fX12_meanLength_b62 mlV
    rw [if_pos (by decide), gd_t (k_45 m1), countTexts_eq m1 t1, bd_t, bd_t]
    by_cases z : cnt (fun t => (tx t).isSome) 100 = 0
    · rw [if_neg (fun q => q ((nI0 (by omega)).mpr z)), if_pos z, mr_t]
    · rw [if_pos (fun q => z ((nI0 (by omega)).mp q)), if_neg z, gd_t (ml_ok o z), mr_t]
