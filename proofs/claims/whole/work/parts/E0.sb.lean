/-! THE CLASS'S BUILDER OF STRINGS: characters below 128, one byte each -/
def SB (cs : List Nat) (v : Nat) (h : PH) : Prop := hR h 13 43 0 = some v ∧ hK h v = 22 ∧ hI h 13 43 1 = 0 ∧ hI h 13 43 3 = nI cs.length ∧ cs.length ≤ hN h v ∧ v < hX h ∧ (v = 44 ∨ 89 ≤ v) ∧ hN h v ≤ 10000 ∧ (∀ i, i < hN h v → ∃ c, c < 128 ∧ hI h 22 v i = nI c) ∧ ∀ i, i < cs.length → hI h 22 v i = nI (cs.getD i 0)
def FSb (v c a _k : Nat) : Prop := (c = 13 ∧ a = 43) ∨ (c = 22 ∧ a = v)
def GSb (c a _k : Nat) : Prop := c = 13 ∧ a = 43
def GRb (h h' : PH) (v v' n : Nat) : Prop := hX h' ≤ hX h + 10 ∧ hN h v ≤ hN h' v' ∧ hV h' + 2 * hN h v ≤ hV h + 2 * hN h' v' ∧ (hN h' v' = hN h v ∨ hN h' v' ≤ 2 * n + 2) ∧ (v' = v ∨ hX h ≤ v')
def GXb (h h' : PH) (v v' : Nat) : Prop := hX h' = hX h ∧ hN h' v' = hN h v ∨ hX h' ≤ hX h + 1 ∧ hN h' v' = 2 * hN h v + 2
theorem shr0 (x : Int32) : x >>> ((0 : Int32) &&& 31) = x := by
  rw [show (0 : Int32) &&& 31 = 0 by decide]
  exact Int32.shiftRight_zero
theorem shl0 (x : Int32) : x <<< ((0 : Int32) &&& 31) = x := by
  rw [show (0 : Int32) &&& 31 = 0 by decide]
  exact Int32.shiftLeft_zero
theorem subLe {a b : Nat} (ha : a < 2 ^ 30) (hb : b < 2 ^ 30) : (nI a - nI b ≤ 0) ↔ a ≤ b := by
  rw [Int32.le_iff_toInt_le, pk_sub_toInt ha hb]
  show (a : Int) - (b : Int) ≤ 0 ↔ _
  omega
theorem toI8 : ∀ c, c < 128 → (Int32.toInt8 ((Int32.toInt8 (nI c)).toInt32)).toInt32 = nI c := by decide +kernel
theorem toI8a : ∀ c, c < 128 → (Int32.toInt8 (nI c)).toInt32 = nI c := by decide +kernel
theorem fitB : ∀ c, c < 128 → fits .byte (.int (nI c)) = true := by decide +kernel
theorem ensure_eq {h : PH} (c : CSh h) (b : 89 ≤ hX h) {cs : List Nat} {v : Nat} (S : SB cs v h) {m : Nat} (h1 : m ≤ 2 * hN h v + 2) (h2 : m ≤ 4000) : ∃ v' h', fJ5_ensureCapacityInternal_d00df 43 (nI m) h = some h' ∧ SB cs v' h' ∧ m ≤ hN h' v' ∧ chg (FSb v) GSb (fun _ => False) h h' ∧ GRb h h' v v' m ∧ GXb h h' v v' := by
  obtain ⟨s1, s2, s3, s4, s5, s6, s7, s8, s9, s10⟩ := id S
  have st : fJ5_ensureCapacityInternal_d00df 43 (nI m) h = (if m ≤ hN h v then some h else bd (fJ5_newCapacity_0f7a4 43 (nI m) h) (fun z5 =>
  bd (fJ7_copyOf_9075b (some v) (z5 <<< ((0 : Int32) &&& 31)) h) (fun z6 =>
  fJ5_ensureCapacityInternal_d00df_b35 43 z6.1 z6.2))) := by
    unfold fJ5_ensureCapacityInternal_d00df fJ5_ensureCapacityInternal_d00df_b0 fJ5_ensureCapacityInternal_d00df_b38
    rw [gd_t (k_43 c), s1, gs_t, gd_t s2, s3, shr0]
    by_cases z : m ≤ hN h v
    · rw [if_pos ((subLe (by omega) (by omega)).mpr z), if_pos z]
    · rw [if_neg (fun y => z ((subLe (by omega) (by omega)).mp y)), if_neg z]
  rw [st]
  by_cases z : m ≤ hN h v
  · rw [if_pos z]
    exact ⟨v, h, rfl, S, z, chg.rf _ _ _ _, ⟨by omega, Nat.le_refl _, Nat.le_refl _, Or.inl rfl, Or.inl rfl⟩, Or.inl ⟨rfl, rfl⟩⟩
  · rw [if_neg z]
    have cap : fJ5_newCapacity_0f7a4 43 (nI m) h = some (nI (2 * hN h v + 2)) := by
      unfold fJ5_newCapacity_0f7a4 fJ8_newLength_cabcc
      have e1 : nI (hN h v) + (2 : Int32) = nI (hN h v + 2) := by rw [show (2 : Int32) = nI 2 from rfl, nI_add]
      have e2 : (if nI (m - hN h v) < nI (hN h v + 2) then nI (hN h v + 2) else nI (m - hN h v)) = nI (hN h v + 2) := by
        by_cases y : m - hN h v < hN h v + 2
        · rw [if_pos (nI_lt y (by omega))]
        · rw [if_neg (Int32.not_lt.mpr (nI_le (by omega) (by omega))), show m - hN h v = hN h v + 2 by omega]
      rw [gd_t (k_43 c), s1, gs_t, gd_t s2, s3, shl0, shl0, pk_sub (by omega), e1, e2, nI_add, if_neg (show ¬ nI (hN h v + (hN h v + 2)) ≤ (0 : Int32) from show ¬ nI (hN h v + (hN h v + 2)) ≤ nI 0 from nI_ge (by omega) (by omega)), if_neg (show ¬ (2147483639 : Int32) < nI (hN h v + (hN h v + 2)) from Int32.not_lt.mpr (nI_le (b := 2147483639) (by omega) (by decide))), bd_t, if_pos (show ¬ nI (hN h v + (hN h v + 2)) = (2147483647 : Int32) from fun y => by have := (nI_eq (b := 2147483647) (by omega) (by decide)).mp y; omega), shr0, show hN h v + (hN h v + 2) = 2 * hN h v + 2 by omega]
    have ne : v ≠ hX h := by omega
    have n10 : Int32.toNatClampNeg (nI (2 * hN h v + 2)) = 2 * hN h v + 2 := nI_clamp (by omega)
    have cn : Int32.toNatClampNeg (nI (hN h v)) = hN h v := nI_clamp (by omega)
    have c0 : Int32.toNatClampNeg (0 : Int32) = 0 := rfl
    have kv : hK (hnew h 22 (2 * hN h v + 2)) v = 22 := by rw [hK_new, if_neg ne]; exact s2
    have nv : hN (hnew h 22 (2 * hN h v + 2)) v = hN h v := by rw [hN_new, if_neg ne]
    have kt : hK (hnew h 22 (2 * hN h v + 2)) (hX h) = 22 := by rw [hK_new, if_pos rfl]
    have nt : hN (hnew h 22 (2 * hN h v + 2)) (hX h) = 2 * hN h v + 2 := by rw [hN_new, if_pos rfl]
    have hmin : (if nI (2 * hN h v + 2) < nI (hN (hnew h 22 (2 * hN h v + 2)) v) then nI (2 * hN h v + 2) else nI (hN (hnew h 22 (2 * hN h v + 2)) v)) = nI (hN h v) := by
      rw [nv]
      exact if_neg (Int32.not_lt.mpr (nI_le (by omega) (by omega)))
    have b1 : bfit (hnew h 22 (2 * hN h v + 2)) v 0 (nI (hN h v)) = true := by
      refine List.all_eq_true.mpr (fun i hi => ?_)
      rw [List.mem_range, cn] at hi
      rw [c0, Nat.zero_add, hI_new, if_neg ne]
      obtain ⟨x, x1, x2⟩ := s9 i hi
      rw [x2]
      exact fitB x x1
    have g1 : cpyok (hnew h 22 (2 * hN h v + 2)) 22 v (hX h) 0 0 (nI (hN h v)) ∧ bfit (hnew h 22 (2 * hN h v + 2)) v 0 (nI (hN h v)) = true := ⟨⟨kv, kt, by decide, by decide, nI_pos (by omega), by rw [cn, nv, c0]; omega, by rw [cn, nt, c0]; omega⟩, b1⟩
    have cpy : fJ7_copyOf_9075b (some v) (nI (2 * hN h v + 2)) h = some (some (hX h), cpyI (hnew h 22 (2 * hN h v + 2)) 22 v (hX h) 0 0 (nI (hN h v))) := by
      unfold fJ7_copyOf_9075b fJ7_copyOf_9075b_b0 fJ7_copyOf_9075b_b17
      rw [gs_t, gd_t s2, if_pos (show ¬ nI (2 * hN h v + 2) = nI (hN h v) from fun y => by have := (nI_eq (by omega) (by omega)).mp y; omega), gd_t ⟨nI_pos (by omega), by rw [n10]; omega⟩, n10, gs_t, gd_t kv, hmin, gd_t g1, lt_t]
    have vin : ∀ i, i < hN h v → hI (cpyI (hnew h 22 (2 * hN h v + 2)) 22 v (hX h) 0 0 (nI (hN h v))) 22 (hX h) i = hI h 22 v i := fun i hi => by
      show (if 22 = 22 ∧ hX h = hX h then va_cpy (hI (hnew h 22 (2 * hN h v + 2)) 22 v) (hI (hnew h 22 (2 * hN h v + 2)) 22 (hX h)) (Int32.toNatClampNeg 0) (Int32.toNatClampNeg 0) (Int32.toNatClampNeg (nI (hN h v))) else _) i = _
      rw [if_pos ⟨rfl, rfl⟩, cn, c0, pk_cpy_in (Nat.zero_le _) (by omega), Nat.zero_add, Nat.sub_zero, hI_new, if_neg ne]
    have vout : ∀ i, ¬ i < hN h v → hI (cpyI (hnew h 22 (2 * hN h v + 2)) 22 v (hX h) 0 0 (nI (hN h v))) 22 (hX h) i = 0 := fun i hi => by
      show (if 22 = 22 ∧ hX h = hX h then va_cpy (hI (hnew h 22 (2 * hN h v + 2)) 22 v) (hI (hnew h 22 (2 * hN h v + 2)) 22 (hX h)) (Int32.toNatClampNeg 0) (Int32.toNatClampNeg 0) (Int32.toNatClampNeg (nI (hN h v))) else _) i = _
      rw [if_pos ⟨rfl, rfl⟩, cn, c0, pk_cpy_out (Or.inr (by omega)), hI_new, if_pos rfl]
    have no : ∀ {q : Prop}, hX h < hX h → q := fun y => absurd y (Nat.lt_irrefl _)
    have x1 : chg (FSb v) GSb (fun _ => False) h (cpyI (hnew h 22 (2 * hN h v + 2)) 22 v (hX h) 0 0 (nI (hN h v))) := ⟨Nat.le_succ _, fun c' a' k' ha _ => by
      show (if c' = 22 ∧ a' = hX h then _ else hI (hnew h 22 (2 * hN h v + 2)) c' a') k' = _
      rw [if_neg (fun y => by omega), hI_new, if_neg (by omega)], fun c' a' k' ha _ => by
      show hR (hnew h 22 (2 * hN h v + 2)) c' a' k' = _
      rw [hR_new, if_neg (by omega)], fun c' a' k' ha _ => by
      show hL (hnew h 22 (2 * hN h v + 2)) c' a' k' = _
      rw [hL_new, if_neg (by omega)], fun a' ha => ⟨by
      show hK (hnew h 22 (2 * hN h v + 2)) a' = _
      rw [hK_new, if_neg (by omega)], by
      show hN (hnew h 22 (2 * hN h v + 2)) a' = _
      rw [hN_new, if_neg (by omega)]⟩⟩
    have i13 : ∀ k, hI (cpyI (hnew h 22 (2 * hN h v + 2)) 22 v (hX h) 0 0 (nI (hN h v))) 13 43 k = hI h 13 43 k := fun k => by
      show hI (sIa (hnew h 22 (2 * hN h v + 2)) 22 (hX h) (va_cpy (hI (hnew h 22 (2 * hN h v + 2)) 22 v) (hI (hnew h 22 (2 * hN h v + 2)) 22 (hX h)) (Int32.toNatClampNeg 0) (Int32.toNatClampNeg 0) (Int32.toNatClampNeg (nI (hN h v))))) 13 43 k = _
      rw [hI_sIa, if_neg (fun y => absurd y.1 (by decide)), hI_new, if_neg (by omega)]
    have kx : hK (cpyI (hnew h 22 (2 * hN h v + 2)) 22 v (hX h) 0 0 (nI (hN h v))) 43 = 13 := by
      show hK (hnew h 22 (2 * hN h v + 2)) 43 = 13
      rw [hK_new, if_neg (by omega)]
      exact k_43 c
    have hxx : hX (cpyI (hnew h 22 (2 * hN h v + 2)) 22 v (hX h) 0 0 (nI (hN h v))) = hX h + 1 := rfl
    have hvv : hV (cpyI (hnew h 22 (2 * hN h v + 2)) 22 v (hX h) 0 0 (nI (hN h v))) = hV h + (2 * hN h v + 2) := rfl
    have hkn : hK (cpyI (hnew h 22 (2 * hN h v + 2)) 22 v (hX h) 0 0 (nI (hN h v))) (hX h) = 22 := kt
    have hnn : hN (cpyI (hnew h 22 (2 * hN h v + 2)) 22 v (hX h) 0 0 (nI (hN h v))) (hX h) = 2 * hN h v + 2 := nt
    rw [cap, bd_t, shl0, cpy, bd_t]
    generalize cpyI (hnew h 22 (2 * hN h v + 2)) 22 v (hX h) 0 0 (nI (hN h v)) = g at *
    refine ⟨hX h, sR g 13 43 0 (some (hX h)), ?_, ⟨?_, ?_, ?_, ?_, ?_, ?_, ?_, ?_, fun i hi => ?_, fun i hi => ?_⟩, ?_, x1.aR _ (fun _ => ⟨rfl, rfl⟩), ⟨?_, ?_, ?_, Or.inr ?_, Or.inr (Nat.le_refl _)⟩, ?_⟩
    · unfold fJ5_ensureCapacityInternal_d00df_b35 fJ5_ensureCapacityInternal_d00df_b38
      rw [gd_t kx, lt_t]
    · rw [hR_sR, if_pos ⟨rfl, rfl, rfl⟩]
    · exact hkn
    · rw [hI_sR, i13]; exact s3
    · rw [hI_sR, i13]; exact s4
    · show cs.length ≤ hN g (hX h)
      omega
    · show hX h < hX g
      omega
    · have := s6; omega
    · show hN g (hX h) ≤ 10000
      omega
    · rw [hI_sR]
      by_cases y : i < hN h v
      · rw [vin i y]; exact s9 i y
      · rw [vout i y]; exact ⟨0, by decide, rfl⟩
    · rw [hI_sR, vin i (by omega)]
      exact s10 i hi
    · show m ≤ hN g (hX h)
      omega
    · show hX g ≤ hX h + 10
      omega
    · show hN h v ≤ hN g (hX h)
      omega
    · show hV g + 2 * hN h v ≤ hV h + 2 * hN g (hX h)
      omega
    · show hN g (hX h) ≤ 2 * m + 2
      omega
    · refine Or.inr ⟨?_, ?_⟩
      · show hX g ≤ hX h + 1
        omega
      · show hN g (hX h) = 2 * hN h v + 2
        omega
theorem SB.ch {cs : List Nat} {v : Nat} {h : PH} (S : SB cs v h) {x : Nat} (hx : x < 128) (hr : cs.length < hN h v) : SB (cs ++ [x]) v (sI (sI h 13 43 3 (nI (cs.length + 1))) 22 v cs.length (nI x)) := by
  obtain ⟨s1, s2, s3, s4, s5, s6, s7, s8, s9, s10⟩ := S
  have rd : ∀ i, hI (sI (sI h 13 43 3 (nI (cs.length + 1))) 22 v cs.length (nI x)) 22 v i = if i = cs.length then nI x else hI h 22 v i := fun i => by
    rw [hI_sI]
    by_cases d : i = cs.length
    · rw [if_pos ⟨rfl, rfl, d⟩, if_pos d]
    · rw [if_neg (fun z => d z.2.2), if_neg d, hI_sI, if_neg (fun z => absurd z.1 (by decide))]
  have r13 : ∀ k, hI (sI (sI h 13 43 3 (nI (cs.length + 1))) 22 v cs.length (nI x)) 13 43 k = if k = 3 then nI (cs.length + 1) else hI h 13 43 k := fun k => by
    rw [hI_sI, if_neg (fun z => absurd z.1 (by decide)), hI_sI]
    by_cases d : k = 3
    · rw [if_pos ⟨rfl, rfl, d⟩, if_pos d]
    · rw [if_neg (fun z => d z.2.2), if_neg d]
  refine ⟨s1, s2, by rw [r13, if_neg (by decide)]; exact s3, by rw [r13, if_pos rfl, List.length_append]; rfl, by rw [List.length_append]; exact hr, s6, s7, s8, fun i hi => ?_, fun i hi => ?_⟩
  · rw [rd]
    by_cases d : i = cs.length
    · rw [if_pos d]; exact ⟨x, hx, rfl⟩
    · rw [if_neg d]; exact s9 i hi
  · rw [List.length_append] at hi
    have hi : i < cs.length + 1 := hi
    rw [rd]
    by_cases d : i = cs.length
    · rw [if_pos d, d, getD_end]
    · rw [if_neg d, getD_app (by omega)]
      exact s10 i (by omega)
theorem append_eq {h : PH} (c : CSh h) (b : 89 ≤ hX h) {cs : List Nat} {v : Nat} (S : SB cs v h) (hl : cs.length < 3990) {x : Nat} (hx : x < 128) : ∃ v' h', fJ4_append_cf468 43 (nI x) h = some (some 43, h') ∧ SB (cs ++ [x]) v' h' ∧ chg (FSb v) GSb (fun _ => False) h h' ∧ GRb h h' v v' (cs.length + 1) ∧ GXb h h' v v' := by
  obtain ⟨v1, h1, e1, S1, e2, e3, e4, e5⟩ := ensure_eq c b S (m := cs.length + 1) (by have := S.2.2.2.2.1; omega) (by omega)
  have sCR13 : ∀ q ∈ sCR, ¬ (q.1 = 13) := by decide
  have c1 : CSh h1 := c.chg b e3 (fun q hq z => sCR13 q hq z.1)
  have S2 := S1.ch hx (by omega)
  obtain ⟨s1, s2, s3, s4, s5, s6, s7, s8, s9, s10⟩ := S1
  have cn : Int32.toNatClampNeg (nI cs.length) = cs.length := nI_clamp (by omega)
  have v43 : v1 ≠ 43 := by omega
  have gk : hK (sI h1 13 43 3 (nI (cs.length + 1))) v1 = 22 ∧ inb (nI cs.length) (hN (sI h1 13 43 3 (nI (cs.length + 1))) v1) := ⟨s2, show inb (nI cs.length) (hN h1 v1) from inbI (by omega) (by omega)⟩
  refine ⟨v1, _, ?_, S2, ?_, e4, e5⟩
  · unfold fJ4_append_cf468 fJ4_append_cf468_b0 fJ4_append_cf468_b5 fJ5_append_3fe6f fJ5_append_3fe6f_b0 fJ5_append_3fe6f_b10 fJ5_isLatin1_aae02 fJ5_isLatin1_aae02_b18 fJ1_canEncode_fc78d fJ1_canEncode_fc78d_b12
    rw [gd_t (k_43 c), S.2.2.2.1, nI_1, e1, bd_t, gd_t (k_43 c1), if_neg (show ¬ (1 : Int32) = 0 by decide), gd_t (k_43 c1), s3, if_neg (fun z => z rfl), gd_t (show (1 : Int32) &&& 1 = 1 by decide), bd_t, if_neg (show ¬ (1 : Int32) = 0 by decide), if_neg (show ¬ (255 : Int32) < nI x from Int32.not_lt.mpr (nI_le (b := 255) (by omega) (by decide))), bd_t, if_neg (show ¬ (1 : Int32) = 0 by decide), s4, nI_1, lt_t, s1, gs_t, gd_t gk, lt_t]
    simp only [cn]
    rw [toI8 x hx, gd_t (k_43 c), bd_t]
  · have e6 : v1 = v ∨ hX h ≤ v1 := e4.2.2.2.2
    exact chg.tr2 e3 (((chg.rf (FSb v1) GSb (fun _ => False) h1).aI _ (fun _ => Or.inl ⟨rfl, rfl⟩)).aI _ (fun _ => Or.inr ⟨rfl, rfl⟩)) (fun c a k ha z => by
      rcases z with z | z
      · exact Or.inl z
      · rcases e6 with y | y
        · exact Or.inr ⟨z.1, by rw [z.2, y]⟩
        · have := z.2; omega) (fun _ _ _ _ z => z) (fun _ _ z => z)
