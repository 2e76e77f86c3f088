/-! THE TAPE: append, clearTape, errorPosition -/
/-- only int cells of F change -/
def onlyI (F : Nat → Nat → Nat → Bool) (h h' : PH) : Prop := (∀ c a k, F c a k = false → hI h' c a k = hI h c a k) ∧ hR h' = hR h ∧ hL h' = hL h ∧ hK h' = hK h ∧ hN h' = hN h ∧ hX h' = hX h ∧ hV h' = hV h
theorem onlyI.rf (F : Nat → Nat → Nat → Bool) (h : PH) : onlyI F h h := ⟨fun _ _ _ _ => rfl, rfl, rfl, rfl, rfl, rfl, rfl⟩
theorem onlyI.tr {F : Nat → Nat → Nat → Bool} {h h' h'' : PH} (a : onlyI F h h') (b : onlyI F h' h'') : onlyI F h h'' := ⟨fun c x k e => (b.1 c x k e).trans (a.1 c x k e), b.2.1.trans a.2.1, b.2.2.1.trans a.2.2.1, b.2.2.2.1.trans a.2.2.2.1, b.2.2.2.2.1.trans a.2.2.2.2.1, b.2.2.2.2.2.1.trans a.2.2.2.2.2.1, b.2.2.2.2.2.2.trans a.2.2.2.2.2.2⟩
theorem onlyI_sI {F : Nat → Nat → Nat → Bool} (h : PH) {c a k : Nat} (v : Int32) (e : F c a k = true) : onlyI F h (sI h c a k v) := by
  refine ⟨fun c' a' k' e' => ?_, rfl, rfl, rfl, rfl, rfl, rfl⟩
  rw [hI_sI, if_neg]
  rintro ⟨rfl, rfl, rfl⟩
  rw [e] at e'
  cases e'
theorem onlyI.mono {F G : Nat → Nat → Nat → Bool} {h h' : PH} (a : onlyI F h h') (e : ∀ c a k, F c a k = true → G c a k = true) : onlyI G h h' := ⟨fun c x k q => a.1 c x k (by
  cases f : F c x k with
  | false => rfl
  | true => rw [e c x k f] at q; cases q), a.2⟩
theorem CSh.oI {F : Nat → Nat → Nat → Bool} {h h' : PH} (c : CSh h) (s : onlyI F h h') : CSh h' := c.of (fun q _ => by rw [s.2.1]) (fun a _ => by rw [s.2.2.2.1]) (fun a _ => by rw [s.2.2.2.2.1])
theorem MSh.oI {F : Nat → Nat → Nat → Bool} {h h' : PH} (c : MSh h) (s : onlyI F h h') : MSh h' := c.of (fun q _ => by rw [s.2.1]) (fun a _ => by rw [s.2.2.2.1]) (fun a _ => by rw [s.2.2.2.2.1])
/-- a step of a call that may throw and that changes the class's cells -/
theorem lb_gen {fc : Option ((Int32 × PH) ⊕ (Nat × PH))} {fm : PH → Option (Int32 × PH)} {Cd : Nat → Prop} {Cv : Nat → Option Value → Prop} {h h1 : PH} {P : PH → Prop} (c : CSh h) {v0 : Int32} (hf : fc = some (.inl (v0, h1))) (c1 : CSh h1)
    (hx : hX h1 - hX h ≤ 1150) (hv : hV h1 - hV h ≤ 14000)
    (hm : ∀ u, scr h1 u → hX u = hX h1 → ∃ w, hK u 45 = 12 ∧ fm u = some (v0, w) ∧ CSh w ∧ MSh w ∧ hI w 12 45 0 = 0 ∧ hL w 23 87 0 = hL u 23 87 0 ∧ P w) : LBody fc fm Cd Cv h P := by
  refine ⟨_, hf, k_10 c, (fun z hz => by cases hz; exact ⟨k_87 c1, by rw [n_87 c1]; decide⟩), (fun z hz => by cases hz), hx, hv, ?_⟩
  rintro v u (⟨z, hz, hv, rfl⟩ | ⟨z, n, hz, -⟩)
  · cases hz
    have su := scr_out h1 (Int32.toNatClampNeg 0) (Int32.toInt64 v0)
    obtain ⟨w, h0, e1, h2, h3, h4, h5, h6⟩ := hm _ su rfl
    refine ⟨0, _, hv, h0, e1, k_45 h3, (thrown_eq h3).trans (congrArg some h4), fun _ => ⟨k_87 h2, by rw [n_87 h2]; decide, ?_⟩, h6⟩
    rw [show Int32.toNatClampNeg 0 = 0 from rfl]
    exact h5.trans (by rw [hL_sL, if_pos ⟨rfl, rfl, rfl⟩])
  · cases hz
theorem lb_genx {fc : Option ((Int32 × PH) ⊕ (Nat × PH))} {fm : PH → Option (Int32 × PH)} {Cd : Nat → Prop} {Cv : Nat → Option Value → Prop} {h h1 : PH} {P : PH → Prop} (c : CSh h) {e : Nat} {code : Int32} (hf : fc = some (.inr (e, h1)))
    (hd : Cd e) (hv : ∀ v, Cv e v → v = some (.int code)) (h0 : code ≠ 0) (hx : hX h1 + 1 - hX h ≤ 1150) (hvv : hV h1 + 6 - hV h ≤ 14000) (hm : ∀ u, scr h1 u → ∃ y, hK u 45 = 12 ∧ fm u = some y ∧ MSh y.2 ∧ hI y.2 12 45 0 = code ∧ P y.2) : LBody fc fm Cd Cv h P := by
  refine ⟨_, hf, k_10 c, (fun z hz => by cases hz), (fun z hz => by cases hz; exact hd), hx, hvv, ?_⟩
  rintro v u (⟨z, hz, -⟩ | ⟨z, n, hz, hn, rfl, hc⟩)
  · cases hz
  · cases hz
    have su := scr_bump h1 hn
    obtain ⟨y, h2, e1, h3, h4, h5⟩ := hm _ su
    exact ⟨code, y, hv v hc, h2, e1, k_45 h3, (thrown_eq h3).trans (congrArg some h4), fun q => absurd q h0, h5⟩
/-- a byte of an int -/
def byt (x : Int32) (s : Nat) : Nat := x.toBitVec.toNat / 2 ^ s % 256
theorem byt_lt (x : Int32) (s : Nat) : byt x s < 256 := Nat.mod_lt _ (by decide)
theorem byC (x : Int32) {s : Int32} {n : Nat} (hs : (Int32.toUInt32 s &&& Int32.toUInt32 31).toNat % 32 = n) : (Int32.toUInt32 x >>> (Int32.toUInt32 s &&& Int32.toUInt32 31)).toInt32 &&& (255 : Int32) = nI (byt x n) := by
  apply Int32.toBitVec_inj.mp
  apply BitVec.eq_of_toNat_eq
  rw [show (nI (byt x n)).toBitVec = BitVec.ofNat 32 (byt x n) from rfl, Int32.toBitVec_and, BitVec.toNat_and, BitVec.toNat_ofNat]
  have e1 : ((Int32.toUInt32 x >>> (Int32.toUInt32 s &&& Int32.toUInt32 31)).toInt32).toBitVec.toNat = x.toBitVec.toNat / 2 ^ n := by
    show (Int32.toUInt32 x >>> (Int32.toUInt32 s &&& Int32.toUInt32 31)).toNat = _
    rw [UInt32.toNat_shiftRight, hs, Nat.shiftRight_eq_div_pow]
    rfl
  rw [e1, show (255 : Int32).toBitVec.toNat = 2 ^ 8 - 1 from rfl, Nat.and_two_pow_sub_one_eq_mod]
  have := byt_lt x n
  rw [Nat.mod_eq_of_lt (a := byt x n) (by omega)]
  rfl
theorem ssh255 (b : BitVec 32) {n : Nat} (hn : n ≤ 24) : b.sshiftRight n &&& 255#32 = (b >>> n) &&& 255#32 := by
  apply BitVec.eq_of_getLsbD_eq
  intro i hi
  rw [BitVec.getLsbD_and, BitVec.getLsbD_and]
  by_cases h8 : i < 8
  · congr 1
    rw [BitVec.getLsbD_sshiftRight, BitVec.getLsbD_ushiftRight, if_pos (by omega)]
    simp
    omega
  · have : (255#32).getLsbD i = false := by
      rw [BitVec.getLsbD_ofNat, Nat.testBit_lt_two_pow (Nat.lt_of_lt_of_le (by decide : 255 < 2 ^ 8) (Nat.pow_le_pow_right (by decide) (by omega))), Bool.and_false]
    rw [this, Bool.and_false, Bool.and_false]
theorem byM (x : Int32) {s : Int32} {n : Nat} (hn : n ≤ 24) (hs : ((s &&& 31 : Int32).toBitVec.smod 32).toNat = n) : (x >>> (s &&& 31)) &&& (255 : Int32) = nI (byt x n) := by
  apply Int32.toBitVec_inj.mp
  rw [Int32.toBitVec_and]
  have e1 : (x >>> (s &&& 31)).toBitVec = x.toBitVec.sshiftRight n := by
    rw [← hs]
    rfl
  rw [e1, show (255 : Int32).toBitVec = 255#32 from rfl, ssh255 _ hn]
  apply BitVec.eq_of_toNat_eq
  rw [show (nI (byt x n)).toBitVec = BitVec.ofNat 32 (byt x n) from rfl, BitVec.toNat_and, BitVec.toNat_ushiftRight, Nat.shiftRight_eq_div_pow, show (255#32).toNat = 2 ^ 8 - 1 from rfl, Nat.and_two_pow_sub_one_eq_mod, BitVec.toNat_ofNat]
  have := byt_lt x n
  rw [Nat.mod_eq_of_lt (a := byt x n) (by omega)]
  rfl
def qby (x : Int32) (s : Nat) : Nat := if byt x s = 0 then 0 else 1
def nby (x : Int32) : Nat := qby x 24 + qby x 16 + qby x 8 + qby x 0
theorem nI0 {n : Nat} (h : n < 256) : nI n = 0 ↔ n = 0 := by
  rw [show (0 : Int32) = nI 0 from rfl, nI_eq (by omega) (by decide)]
theorem X7_bytesOf_eq (x : Int32) : fX7_bytesOf x = some (nI (nby x)) := by
  have st : ∀ (j : Nat) (s s' : Int32) (n : Nat), (Int32.toUInt32 s &&& Int32.toUInt32 31).toNat % 32 = n → ¬ s < 0 → s + (-8) = s' → fX7_bytesOf_c5 x (nI j) s = some (.inl (nI (j + qby x n), s')) := fun j s s' n h1 h2 h3 => by
    unfold fX7_bytesOf_c5 fX7_bytesOf_b22 qby
    rw [if_neg h2, byC x h1, h3]
    by_cases e : byt x n = 0
    · rw [if_pos ((nI0 (byt_lt x n)).mpr e), if_pos e]; rfl
    · rw [if_neg (fun q => e ((nI0 (byt_lt x n)).mp q)), if_neg e, nI_1]
  unfold fX7_bytesOf fX7_bytesOf_l5
  refine wh_step (t := (nI (0 + qby x 24), 16)) (st 0 24 16 24 (by decide) (by decide) (by decide)) ?_
  refine wh_step (t := (nI (0 + qby x 24 + qby x 16), 8)) (st _ 16 8 16 (by decide) (by decide) (by decide)) ?_
  refine wh_step (t := (nI (0 + qby x 24 + qby x 16 + qby x 8), 0)) (st _ 8 0 8 (by decide) (by decide) (by decide)) ?_
  refine wh_step (t := (nI (0 + qby x 24 + qby x 16 + qby x 8 + qby x 0), -8)) (st _ 0 (-8) 0 (by decide) (by decide) (by decide)) ?_
  refine wh_done ?_
  show fX7_bytesOf_c5 x (nI (0 + qby x 24 + qby x 16 + qby x 8 + qby x 0)) (-8) = _
  unfold fX7_bytesOf_c5
  rw [if_pos (by decide), mr_t, Nat.zero_add]
  rfl
theorem X12_bytesIn_eq (x : Int32) : fX12_bytesIn x = some (nI (nby x)) := by
  have st : ∀ (j : Nat) (s s' : Int32) (n : Nat), n ≤ 24 → ((s &&& 31 : Int32).toBitVec.smod 32).toNat = n → ¬ (32 : Int32) ≤ s → s + 8 = s' → fX12_bytesIn_c4 x (nI j) s = some (.inl (nI (j + qby x n), s')) := fun j s s' n h0 h1 h2 h3 => by
    unfold fX12_bytesIn_c4 fX12_bytesIn_b26 qby
    rw [if_neg h2, byM x h0 h1, h3]
    by_cases e : byt x n = 0
    · rw [if_neg (fun q => q ((nI0 (byt_lt x n)).mpr e)), if_pos e, Int32.add_zero]; rfl
    · rw [if_pos (fun q => e ((nI0 (byt_lt x n)).mp q)), if_neg e, nI_1]
  unfold fX12_bytesIn fX12_bytesIn_l4
  refine wh_step (t := (nI (0 + qby x 0), 8)) (st 0 0 8 0 (by decide) (by decide) (by decide) (by decide)) ?_
  refine wh_step (t := (nI (0 + qby x 0 + qby x 8), 16)) (st _ 8 16 8 (by decide) (by decide) (by decide) (by decide)) ?_
  refine wh_step (t := (nI (0 + qby x 0 + qby x 8 + qby x 16), 24)) (st _ 16 24 16 (by decide) (by decide) (by decide) (by decide)) ?_
  refine wh_step (t := (nI (0 + qby x 0 + qby x 8 + qby x 16 + qby x 24), 32)) (st _ 24 32 24 (by decide) (by decide) (by decide) (by decide)) ?_
  refine wh_done ?_
  show fX12_bytesIn_c4 x (nI (0 + qby x 0 + qby x 8 + qby x 16 + qby x 24)) 32 = _
  unfold fX12_bytesIn_c4
  rw [if_pos (by decide), mr_t]
  unfold nby
  congr 3
  omega
/-- a byte that is not 0 comes behind -/
def push1 (bs : List Nat) (b : Nat) : List Nat := if b = 0 then bs else bs ++ [b]
def pushs (bs : List Nat) (x : Int32) : List Nat := push1 (push1 (push1 (push1 bs (byt x 24)) (byt x 16)) (byt x 8)) (byt x 0)
theorem push1_len (bs : List Nat) (x : Int32) (s : Nat) : (push1 bs (byt x s)).length = bs.length + qby x s := by
  unfold push1 qby
  by_cases e : byt x s = 0
  · rw [if_pos e, if_pos e]; rfl
  · rw [if_neg e, if_neg e, List.length_append]; rfl
theorem pushs_len (bs : List Nat) (x : Int32) : (pushs bs x).length = bs.length + nby x := by
  unfold pushs nby
  rw [push1_len, push1_len, push1_len, push1_len]
  omega
/-- what a byte of the tape is -/
def okB (bs : List Nat) : Prop := ∀ b ∈ bs, 0 < b ∧ b < 256
theorem okB_push1 {bs : List Nat} (o : okB bs) (x : Int32) (s : Nat) : okB (push1 bs (byt x s)) := by
  unfold push1
  intro b hb
  by_cases e : byt x s = 0
  · rw [if_pos e] at hb; exact o b hb
  · rw [if_neg e, List.mem_append] at hb
    rcases hb with hb | hb
    · exact o b hb
    · rw [List.mem_singleton] at hb
      subst hb
      exact ⟨by omega, byt_lt x s⟩
theorem okB_pushs {bs : List Nat} (o : okB bs) (x : Int32) : okB (pushs bs x) := okB_push1 (okB_push1 (okB_push1 (okB_push1 o x 24) x 16) x 8) x 0
theorem getD_app {bs : List Nat} {b i : Nat} (h : i < bs.length) : (bs ++ [b]).getD i 0 = bs.getD i 0 := by
  rw [List.getD_eq_getElem?_getD, List.getD_eq_getElem?_getD, List.getElem?_append_left h]
theorem getD_end (bs : List Nat) (b : Nat) : (bs ++ [b]).getD bs.length 0 = b := by
  rw [List.getD_eq_getElem?_getD, List.getElem?_append_right (Nat.le_refl _)]
  simp
/-- the class's tape, the reference's -/
def TC (bs : List Nat) (h : PH) : Prop := hI h 7 11 1 = nI bs.length ∧ ∀ i, i < bs.length → hI h 20 12 i = nI (bs.getD i 0)
def TM (bs : List Nat) (h : PH) : Prop := hI h 12 45 2 = nI bs.length ∧ ∀ i, i < bs.length → hI h 20 46 i = nI (bs.getD i 0)
def isTC (c a k : Nat) : Bool := (c == 7 && a == 11 && k == 1) || (c == 20 && a == 12)
def isTM (c a k : Nat) : Bool := (c == 12 && a == 45 && k == 2) || (c == 20 && a == 46)
