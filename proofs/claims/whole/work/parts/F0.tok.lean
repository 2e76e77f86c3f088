/-! TOKENS, and the class that reads them -/
def isLo (b : Nat) : Bool := decide (97 ≤ b ∧ b ≤ 122)
def isDi (b : Nat) : Bool := decide (48 ≤ b ∧ b ≤ 57)
def isBl (b : Nat) : Bool := decide (b = 32 ∨ b = 10)
def isSg (b : Nat) : Bool := [33, 38, 40, 41, 42, 91, 93, 124, 126].contains b
def rn (p : Nat → Bool) : List Nat → Nat
  | [] => 0
  | b :: bs => if p b then rn p bs + 1 else 0
/-- the number that the first n bytes stand for -/
def vl (base off : Nat) : List Nat → Nat → Nat → Nat
  | _, 0, acc => acc
  | [], _ + 1, acc => acc
  | b :: bs, n + 1, acc => vl base off bs n (acc * base + (b - off))
theorem rn_le (p : Nat → Bool) : ∀ l : List Nat, rn p l ≤ l.length
  | [] => Nat.le_refl _
  | b :: bs => by
    rw [rn]
    split
    · have := rn_le p bs
      rw [List.length_cons]
      omega
    · exact Nat.zero_le _
theorem rn_at {p : Nat → Bool} : ∀ {l : List Nat} {j : Nat}, j < rn p l → p (l.getD j 0) = true
  | [], j, h => absurd h (Nat.not_lt_zero _)
  | b :: bs, j, h => by
    rw [rn] at h
    by_cases e : p b = true
    · rw [if_pos e] at h
      cases j with
      | zero => exact e
      | succ j => exact rn_at (l := bs) (j := j) (by omega)
    · rw [if_neg e] at h
      exact absurd h (Nat.not_lt_zero _)
theorem rn_end {p : Nat → Bool} : ∀ {l : List Nat}, rn p l < l.length → p (l.getD (rn p l) 0) = false
  | [], h => absurd h (Nat.not_lt_zero _)
  | b :: bs, h => by
    rw [rn] at h ⊢
    by_cases e : p b = true
    · rw [if_pos e] at h ⊢
      exact rn_end (l := bs) (by rw [List.length_cons] at h; omega)
    · rw [if_neg e]
      simpa using e
theorem drop_getD {bs : List Nat} {i j : Nat} : (bs.drop i).getD j 0 = bs.getD (i + j) 0 := by
  simp [List.getD_eq_getElem?_getD, List.getElem?_drop]
theorem vl_s (base off : Nat) : ∀ (l : List Nat) (n acc : Nat), n < l.length → vl base off l (n + 1) acc = vl base off l n acc * base + (l.getD n 0 - off)
  | [], n, acc, h => absurd h (Nat.not_lt_zero _)
  | b :: bs, 0, acc, _ => by rw [vl, vl, vl]; rfl
  | b :: bs, n + 1, acc, h => by
    rw [vl, vl_s base off bs n _ (by rw [List.length_cons] at h; omega), vl]
    rfl
theorem vl_b {base off : Nat} (b1 : 1 ≤ base) : ∀ (l : List Nat) (n acc m : Nat), (∀ j, j < n → j < l.length → l.getD j 0 - off < base) → acc < base ^ m → vl base off l n acc < base ^ (m + n)
  | _, 0, acc, m, _, h => by rw [vl]; exact h
  | [], n + 1, acc, m, hb, h => Nat.lt_of_lt_of_le h (Nat.pow_le_pow_right b1 (by omega))
  | b :: bs, n + 1, acc, m, hb, h => by
    have h0 := hb 0 (Nat.succ_pos _) (Nat.succ_pos _)
    have h0 : b - off < base := h0
    rw [vl, show m + (n + 1) = (m + 1) + n by omega]
    refine vl_b b1 bs n _ (m + 1) (fun j h1 h2 => hb (j + 1) (by omega) (by rw [List.length_cons]; omega)) ?_
    rw [Nat.pow_succ]
    have : acc + 1 ≤ base ^ m := h
    have h1 : acc * base + (b - off) < acc * base + base := by omega
    have h2 : acc * base + base = (acc + 1) * base := by rw [Nat.add_mul, Nat.one_mul]
    have h3 : (acc + 1) * base ≤ base ^ m * base := Nat.mul_le_mul_right _ this
    omega
/-- the token behind index i, when wr words were read: kind, number, start, what is behind it -/
def stT (bs : List Nat) (i : Nat) : Nat := i + rn isBl (bs.drop i)
def rW (bs : List Nat) (s : Nat) : Nat := rn isLo (bs.drop s)
def rD (bs : List Nat) (s : Nat) : Nat := rn isDi (bs.drop s)
def vW (bs : List Nat) (s : Nat) : Nat := vl 27 96 (bs.drop s) (rW bs s) 0
def vD (bs : List Nat) (s : Nat) : Nat := vl 10 48 (bs.drop s) (rD bs s) 0
def kdT (bs : List Nat) (wr s : Nat) : Nat := if bs.length ≤ s then 0 else if isLo (bs.getD s 0) then (if rW bs s ≤ 6 ∧ wr < 20 then 2 else 1) else if isDi (bs.getD s 0) then (if rD bs s ≤ 2 ∧ 1 ≤ vD bs s ∧ vD bs s ≤ 40 then 3 else 1) else if isSg (bs.getD s 0) then bs.getD s 0 else 1
def vaT (bs : List Nat) (s : Nat) : Nat := if isLo (bs.getD s 0) then vW bs s else vD bs s
def nxT (bs : List Nat) (s : Nat) : Nat := if bs.length ≤ s then s else if isLo (bs.getD s 0) then s + rW bs s else if isDi (bs.getD s 0) then s + rD bs s else s + 1
def cnT (bs : List Nat) (wr s : Nat) : Nat := if bs.length ≤ s then wr else if isLo (bs.getD s 0) then wr + 1 else wr
def isQR (c a k : Nat) : Bool := c == 6 && a == 13 && (k == 2 || k == 3 || k == 4 || k == 5 || k == 6)
theorem qr2 : isQR 6 13 2 = true := rfl
theorem qr3 : isQR 6 13 3 = true := rfl
theorem qr4 : isQR 6 13 4 = true := rfl
theorem qr5 : isQR 6 13 5 = true := rfl
theorem qr6 : isQR 6 13 6 = true := rfl
theorem rd6 (g : PH) (k k' : Nat) (x : Int32) : hI (sI g 6 13 k x) 6 13 k' = if k' = k then x else hI g 6 13 k' := by
  rw [hI_sI]
  by_cases d : k' = k
  · rw [if_pos ⟨rfl, rfl, d⟩, if_pos d]
  · rw [if_neg (fun z => d z.2.2), if_neg d]
/-- what the class's reader holds ahead -/
def CR (bs : List Nat) (i wr : Nat) (h : PH) : Prop := hI h 6 13 2 = nI (nxT bs (stT bs i)) ∧ hI h 6 13 3 = nI (kdT bs wr (stT bs i)) ∧ hI h 6 13 4 = nI (stT bs i) ∧ (kdT bs wr (stT bs i) = 2 ∨ kdT bs wr (stT bs i) = 3 → hI h 6 13 5 = nI (vaT bs (stT bs i))) ∧ hI h 6 13 6 = nI (cnT bs wr (stT bs i))
theorem rW_pos {bs : List Nat} {s : Nat} (h : s < bs.length) (e : isLo (bs.getD s 0) = true) : 0 < rW bs s := by
  unfold rW
  rw [dropS h, rn, if_pos e]
  exact Nat.succ_pos _
theorem rD_pos {bs : List Nat} {s : Nat} (h : s < bs.length) (e : isDi (bs.getD s 0) = true) : 0 < rD bs s := by
  unfold rD
  rw [dropS h, rn, if_pos e]
  exact Nat.succ_pos _
theorem rn_drop_le (p : Nat → Bool) (bs : List Nat) (s : Nat) (h : s ≤ bs.length) : s + rn p (bs.drop s) ≤ bs.length := by
  have := rn_le p (bs.drop s)
  rw [List.length_drop] at this
  omega
theorem rn_drop_at {p : Nat → Bool} {bs : List Nat} {s j : Nat} (h : j < rn p (bs.drop s)) : p (bs.getD (s + j) 0) = true := by
  have := rn_at h
  rw [drop_getD] at this
  exact this
theorem rn_drop_end {p : Nat → Bool} {bs : List Nat} {s : Nat} (h : s + rn p (bs.drop s) < bs.length) : p (bs.getD (s + rn p (bs.drop s)) 0) = false := by
  have := rn_end (p := p) (l := bs.drop s) (by rw [List.length_drop]; omega)
  rw [drop_getD] at this
  exact this
theorem advWord_l {h : PH} (c : CSh h) {bs : List Nat} (T : TC bs h) (ok : okB bs) (l3 : bs.length ≤ 300) {s wr : Nat} (hs : s ≤ bs.length) (hw : wr ≤ 20) : ∀ f j : Nat, ∀ g : PH, j + f = rW bs s → onlyI isQR h g → hI g 6 13 2 = nI (s + j) → (j ≤ 6 → hI g 6 13 5 = nI (vl 27 96 (bs.drop s) j 0)) → hI g 6 13 4 = nI s → hI g 6 13 6 = nI wr → ∃ h', fX6_advanceWord_l0 13 g = some h' ∧ onlyI isQR h h' ∧ hI h' 6 13 2 = nI (s + rW bs s) ∧ (rW bs s ≤ 6 → hI h' 6 13 5 = nI (vW bs s)) ∧ hI h' 6 13 4 = nI s ∧ hI h' 6 13 6 = nI (wr + 1) ∧ hI h' 6 13 3 = nI (if rW bs s ≤ 6 ∧ wr < 20 then 2 else 1) := by
  have rl := rn_drop_le isLo bs s hs
  intro f
  induction f with
  | zero =>
    intro j g hj og e2 e5 e4 e6
    have hj : j = rW bs s := by omega
    subst hj
    have cg := c.oI og
    have t1 : hI g 7 11 1 = nI bs.length := (og.1 7 11 1 rfl).trans T.1
    have o1 : onlyI isQR g (sI g 6 13 6 (nI (wr + 1))) := onlyI_sI _ _ qr6
    have c1 := cg.oI o1
    have st : fX6_advanceWord_c0 13 g = mr (fX6_advanceWord_b90 13 g) := by
      unfold fX6_advanceWord_c0
      rw [gd_t (k_13 cg), r6_13_0 cg, gs_t, gd_t (k_11 cg), t1, e2]
      by_cases z : s + rW bs s = bs.length
      · rw [if_pos (nI_le (by omega) (by unfold rW; omega))]
      · have hl : s + rW bs s < bs.length := by unfold rW; unfold rW at z; omega
        have ne := rn_drop_end (p := isLo) (bs := bs) (s := s) hl
        have bb := (ok _ (mem_getD hl)).2
        have rb : hI g 20 12 (s + rW bs s) = nI (bs.getD (s + rW bs s) 0) := (og.1 20 12 _ rfl).trans (T.2 _ hl)
        have hin : hK g 12 = 20 ∧ inb (nI (s + rW bs s)) (hN g 12) := ⟨k_12 cg, by rw [n_12 cg]; exact inbI (by omega) (by decide)⟩
        have ck : Int32.toNatClampNeg (nI (s + rW bs s)) = s + rW bs s := nI_clamp (by omega)
        rw [if_neg (nI_ge hl (by omega)), gs_t, gd_t (k_11 cg), r7_11_0 cg, gs_t, gd_t hin]
        simp only [ck]
        rw [rb]
        have ne : isLo (bs.getD (s + rW bs s) 0) = false := ne
        unfold isLo at ne
        have ne := of_decide_eq_false ne
        by_cases y : bs.getD (s + rW bs s) 0 < 97
        · rw [if_pos (show nI (bs.getD (s + rW bs s) 0) < (97 : Int32) from nI_lt (b := 97) y (by decide))]
        · rw [if_neg (show ¬ nI (bs.getD (s + rW bs s) 0) < (97 : Int32) from Int32.not_lt.mpr (nI_le (a := 97) (by omega) (by omega))), gs_t, gd_t (k_11 cg), r7_11_0 cg, gs_t, gd_t hin, rb, if_pos (show (122 : Int32) < nI (bs.getD (s + rW bs s) 0) from nI_lt (a := 122) (by omega) (by omega))]
    have r2 : hI (sI g 6 13 6 (nI (wr + 1))) 6 13 2 = nI (s + rW bs s) := by rw [rd6, if_neg (by decide)]; exact e2
    have r4 : hI (sI g 6 13 6 (nI (wr + 1))) 6 13 4 = nI s := by rw [rd6, if_neg (by decide)]; exact e4
    have r6 : hI (sI g 6 13 6 (nI (wr + 1))) 6 13 6 = nI (wr + 1) := by rw [rd6, if_pos rfl]
    have sub : nI (s + rW bs s) - nI s = nI (rW bs s) := by rw [pk_sub (by omega), Nat.add_sub_cancel_left]
    have fin : ∀ x : Int32, fX6_advanceWord_b139 (some 13) x (sI g 6 13 6 (nI (wr + 1))) = some (sI (sI g 6 13 6 (nI (wr + 1))) 6 13 3 x) := fun x => by
      unfold fX6_advanceWord_b139
      rw [gs_t, gd_t (k_13 c1), lt_t]
    refine ⟨sI (sI g 6 13 6 (nI (wr + 1))) 6 13 3 (nI (if rW bs s ≤ 6 ∧ wr < 20 then 2 else 1)), wh_done ?_, (og.tr o1).tr (onlyI_sI _ _ qr3), by rw [rd6, if_neg (by decide)]; exact r2, fun z => by rw [rd6, if_neg (by decide), rd6, if_neg (by decide)]; exact e5 z, by rw [rd6, if_neg (by decide)]; exact r4, by rw [rd6, if_neg (by decide)]; exact r6, by rw [rd6, if_pos rfl]⟩
    show fX6_advanceWord_c0 13 g = _
    rw [st]
    unfold fX6_advanceWord_b90 fX6_advanceWord_b127 fX6_advanceWord_b128
    rw [gd_t (k_13 cg), e6, nI_1, lt_t, r2, r4, r6, sub]
    have rl3 : rW bs s ≤ 300 := by unfold rW; omega
    by_cases z : rW bs s ≤ 6
    · rw [if_neg (show ¬ (6 : Int32) < nI (rW bs s) from Int32.not_lt.mpr (nI_le (b := 6) z (by decide)))]
      by_cases y : wr < 20
      · rw [if_neg (show ¬ (20 : Int32) < nI (wr + 1) from Int32.not_lt.mpr (nI_le (b := 20) (by omega) (by decide))), if_neg (show ¬ (1 : Int32) = 0 by decide), if_pos (show rW bs s ≤ 6 ∧ wr < 20 from ⟨z, y⟩), fin]
        rfl
      · rw [if_pos (show (20 : Int32) < nI (wr + 1) from nI_lt (a := 20) (by omega) (by omega)), if_pos (show (0 : Int32) = 0 from rfl), if_neg (show ¬ (rW bs s ≤ 6 ∧ wr < 20) from fun w => y w.2), fin]
        rfl
    · rw [if_pos (show (6 : Int32) < nI (rW bs s) from nI_lt (a := 6) (by omega) (by omega)), if_pos (show (0 : Int32) = 0 from rfl), if_neg (show ¬ (rW bs s ≤ 6 ∧ wr < 20) from fun w => z w.1), fin]
      rfl
  | succ f ih =>
    intro j g hj og e2 e5 e4 e6
    have cg := c.oI og
    have hj1 : j < rW bs s := by omega
    have hl : s + j < bs.length := by unfold rW at hj1; omega
    have t1 : hI g 7 11 1 = nI bs.length := (og.1 7 11 1 rfl).trans T.1
    have bb := (ok _ (mem_getD hl)).2
    have rb : hI g 20 12 (s + j) = nI (bs.getD (s + j) 0) := (og.1 20 12 _ rfl).trans (T.2 _ hl)
    have hin : hK g 12 = 20 ∧ inb (nI (s + j)) (hN g 12) := ⟨k_12 cg, by rw [n_12 cg]; exact inbI (by omega) (by decide)⟩
    have ck : Int32.toNatClampNeg (nI (s + j)) = s + j := nI_clamp (by omega)
    have lo : isLo (bs.getD (s + j) 0) = true := rn_drop_at (p := isLo) hj1
    unfold isLo at lo
    have lo := of_decide_eq_true lo
    have o1 : onlyI isQR g (sI g 6 13 5 (hI g 6 13 5 * 27 + nI (bs.getD (s + j) 0) - 97 + 1)) := onlyI_sI _ _ qr5
    have o2 : onlyI isQR g (sI (sI g 6 13 5 (hI g 6 13 5 * 27 + nI (bs.getD (s + j) 0) - 97 + 1)) 6 13 2 (nI (s + j + 1))) := o1.tr (onlyI_sI _ _ qr2)
    obtain ⟨h', r⟩ := ih (j + 1) _ (by omega) (og.tr o2) (by rw [rd6, if_pos rfl]; rfl) (fun z => by
      rw [rd6, if_neg (by decide), rd6, if_pos rfl, e5 (by omega), show (27 : Int32) = nI 27 from rfl, pk_mul, nI_add, show (97 : Int32) = nI 97 from rfl, sub1 (by omega), vl_s 27 96 _ _ _ (by rw [List.length_drop]; omega), drop_getD]
      congr 1
      omega) (by rw [rd6, if_neg (by decide), rd6, if_neg (by decide)]; exact e4) (by rw [rd6, if_neg (by decide), rd6, if_neg (by decide)]; exact e6)
    refine ⟨h', wh_step ?_ r.1, r.2⟩
    show fX6_advanceWord_c0 13 g = _
    have e2' : hI (sI g 6 13 5 (hI g 6 13 5 * 27 + nI (bs.getD (s + j) 0) - 97 + 1)) 6 13 2 = nI (s + j) := by rw [rd6, if_neg (by decide)]; exact e2
    unfold fX6_advanceWord_c0
    rw [gd_t (k_13 cg), r6_13_0 cg, gs_t, gd_t (k_11 cg), t1, e2, if_neg (nI_ge hl (by omega)), gs_t, gd_t (k_11 cg), r7_11_0 cg, gs_t, gd_t hin]
    simp only [ck]
    rw [rb, if_neg (show ¬ nI (bs.getD (s + j) 0) < (97 : Int32) from Int32.not_lt.mpr (nI_le (a := 97) (by omega) (by omega))), gs_t, gd_t (k_11 cg), r7_11_0 cg, gs_t, gd_t hin, rb, if_neg (show ¬ (122 : Int32) < nI (bs.getD (s + j) 0) from Int32.not_lt.mpr (nI_le (b := 122) (by omega) (by decide))), gs_t, gd_t (k_11 cg), r7_11_0 cg, gs_t, gd_t hin, rb, lt_t, lt_t, e2', nI_1]
theorem advNum_l {h : PH} (c : CSh h) {bs : List Nat} (T : TC bs h) (ok : okB bs) (l3 : bs.length ≤ 300) {s wr : Nat} (hs : s ≤ bs.length) (hw : wr ≤ 20) : ∀ f j : Nat, ∀ g : PH, j + f = rD bs s → onlyI isQR h g → hI g 6 13 2 = nI (s + j) → (j ≤ 6 → hI g 6 13 5 = nI (vl 10 48 (bs.drop s) j 0)) → hI g 6 13 4 = nI s → hI g 6 13 6 = nI wr → ∃ h', fX6_advanceNumber_l0 13 g = some h' ∧ onlyI isQR h h' ∧ hI h' 6 13 2 = nI (s + rD bs s) ∧ (rD bs s ≤ 6 → hI h' 6 13 5 = nI (vD bs s)) ∧ hI h' 6 13 4 = nI s ∧ hI h' 6 13 6 = nI wr ∧ hI h' 6 13 3 = nI (if rD bs s ≤ 2 ∧ 1 ≤ vD bs s ∧ vD bs s ≤ 40 then 3 else 1) := by
  have rl := rn_drop_le isDi bs s hs
  intro f
  induction f with
  | zero =>
    intro j g hj og e2 e5 e4 e6
    have hj : j = rD bs s := by omega
    subst hj
    have cg := c.oI og
    have t1 : hI g 7 11 1 = nI bs.length := (og.1 7 11 1 rfl).trans T.1
    have st : fX6_advanceNumber_c0 13 g = mr (fX6_advanceNumber_b88 13 g) := by
      unfold fX6_advanceNumber_c0
      rw [gd_t (k_13 cg), r6_13_0 cg, gs_t, gd_t (k_11 cg), t1, e2]
      by_cases z : s + rD bs s = bs.length
      · rw [if_pos (nI_le (by omega) (by unfold rD; omega))]
      · have hl : s + rD bs s < bs.length := by unfold rD; unfold rD at z; omega
        have ne := rn_drop_end (p := isDi) (bs := bs) (s := s) hl
        have bb := (ok _ (mem_getD hl)).2
        have rb : hI g 20 12 (s + rD bs s) = nI (bs.getD (s + rD bs s) 0) := (og.1 20 12 _ rfl).trans (T.2 _ hl)
        have hin : hK g 12 = 20 ∧ inb (nI (s + rD bs s)) (hN g 12) := ⟨k_12 cg, by rw [n_12 cg]; exact inbI (by omega) (by decide)⟩
        have ck : Int32.toNatClampNeg (nI (s + rD bs s)) = s + rD bs s := nI_clamp (by omega)
        rw [if_neg (nI_ge hl (by omega)), gs_t, gd_t (k_11 cg), r7_11_0 cg, gs_t, gd_t hin]
        simp only [ck]
        rw [rb]
        have ne : isDi (bs.getD (s + rD bs s) 0) = false := ne
        unfold isDi at ne
        have ne := of_decide_eq_false ne
        by_cases y : bs.getD (s + rD bs s) 0 < 48
        · rw [if_pos (show nI (bs.getD (s + rD bs s) 0) < (48 : Int32) from nI_lt (b := 48) y (by decide))]
        · rw [if_neg (show ¬ nI (bs.getD (s + rD bs s) 0) < (48 : Int32) from Int32.not_lt.mpr (nI_le (a := 48) (by omega) (by omega))), gs_t, gd_t (k_11 cg), r7_11_0 cg, gs_t, gd_t hin, rb, if_pos (show (57 : Int32) < nI (bs.getD (s + rD bs s) 0) from nI_lt (a := 57) (by omega) (by omega))]
    have sub : nI (s + rD bs s) - nI s = nI (rD bs s) := by rw [pk_sub (by omega), Nat.add_sub_cancel_left]
    have fin : ∀ x : Int32, fX6_advanceNumber_b134 (some 13) x g = some (sI g 6 13 3 x) := fun x => by
      unfold fX6_advanceNumber_b134
      rw [gs_t, gd_t (k_13 cg), lt_t]
    refine ⟨sI g 6 13 3 (nI (if rD bs s ≤ 2 ∧ 1 ≤ vD bs s ∧ vD bs s ≤ 40 then 3 else 1)), wh_done ?_, og.tr (onlyI_sI _ _ qr3), by rw [rd6, if_neg (by decide)]; exact e2, fun z => by rw [rd6, if_neg (by decide)]; exact e5 z, by rw [rd6, if_neg (by decide)]; exact e4, by rw [rd6, if_neg (by decide)]; exact e6, by rw [rd6, if_pos rfl]⟩
    show fX6_advanceNumber_c0 13 g = _
    rw [st]
    unfold fX6_advanceNumber_b88 fX6_advanceNumber_b122 fX6_advanceNumber_b123
    rw [gd_t (k_13 cg), e2, e4, sub]
    have rl3 : rD bs s ≤ 300 := by unfold rD; omega
    by_cases z : rD bs s ≤ 2
    · have v5 : hI g 6 13 5 = nI (vD bs s) := e5 (by omega)
      have vb : vD bs s < 10 ^ (0 + rD bs s) := vl_b (by decide) _ _ _ _ (fun j h1 h2 => by
        have q := rn_at (p := isDi) (l := bs.drop s) (j := j) h1
        unfold isDi at q
        have q := of_decide_eq_true q
        omega) (by decide)
      have vb2 : vD bs s < 10 ^ 2 := Nat.lt_of_lt_of_le vb (Nat.pow_le_pow_right (by decide) (by omega))
      have vb3 : vD bs s < 100 := vb2
      rw [if_neg (show ¬ (2 : Int32) < nI (rD bs s) from Int32.not_lt.mpr (nI_le (b := 2) z (by decide))), v5]
      by_cases y : 1 ≤ vD bs s
      · rw [if_neg (show ¬ nI (vD bs s) < (1 : Int32) from Int32.not_lt.mpr (nI_le (a := 1) y (by omega)))]
        by_cases x : vD bs s ≤ 40
        · rw [if_neg (show ¬ (40 : Int32) < nI (vD bs s) from Int32.not_lt.mpr (nI_le (b := 40) x (by decide))), if_neg (show ¬ (1 : Int32) = 0 by decide), if_pos (show (rD bs s ≤ 2 ∧ 1 ≤ vD bs s ∧ vD bs s ≤ 40) from ⟨z, y, x⟩), fin]
          rfl
        · rw [if_pos (show (40 : Int32) < nI (vD bs s) from nI_lt (a := 40) (by omega) (by omega)), if_pos (show (0 : Int32) = 0 from rfl), if_neg (show ¬ (rD bs s ≤ 2 ∧ 1 ≤ vD bs s ∧ vD bs s ≤ 40) from fun w => x w.2.2), fin]
          rfl
      · rw [if_pos (show nI (vD bs s) < (1 : Int32) from nI_lt (b := 1) (by omega) (by decide)), if_pos (show (0 : Int32) = 0 from rfl), if_neg (show ¬ (rD bs s ≤ 2 ∧ 1 ≤ vD bs s ∧ vD bs s ≤ 40) from fun w => y w.2.1), fin]
        rfl
    · rw [if_pos (show (2 : Int32) < nI (rD bs s) from nI_lt (a := 2) (by omega) (by omega)), if_pos (show (0 : Int32) = 0 from rfl), if_neg (show ¬ (rD bs s ≤ 2 ∧ 1 ≤ vD bs s ∧ vD bs s ≤ 40) from fun w => z w.1), fin]
      rfl
  | succ f ih =>
    intro j g hj og e2 e5 e4 e6
    have cg := c.oI og
    have hj1 : j < rD bs s := by omega
    have hl : s + j < bs.length := by unfold rD at hj1; omega
    have t1 : hI g 7 11 1 = nI bs.length := (og.1 7 11 1 rfl).trans T.1
    have bb := (ok _ (mem_getD hl)).2
    have rb : hI g 20 12 (s + j) = nI (bs.getD (s + j) 0) := (og.1 20 12 _ rfl).trans (T.2 _ hl)
    have hin : hK g 12 = 20 ∧ inb (nI (s + j)) (hN g 12) := ⟨k_12 cg, by rw [n_12 cg]; exact inbI (by omega) (by decide)⟩
    have ck : Int32.toNatClampNeg (nI (s + j)) = s + j := nI_clamp (by omega)
    have lo : isDi (bs.getD (s + j) 0) = true := rn_drop_at (p := isDi) hj1
    unfold isDi at lo
    have lo := of_decide_eq_true lo
    have o1 : onlyI isQR g (sI g 6 13 5 (hI g 6 13 5 * 10 + nI (bs.getD (s + j) 0) - 48)) := onlyI_sI _ _ qr5
    have o2 : onlyI isQR g (sI (sI g 6 13 5 (hI g 6 13 5 * 10 + nI (bs.getD (s + j) 0) - 48)) 6 13 2 (nI (s + j + 1))) := o1.tr (onlyI_sI _ _ qr2)
    obtain ⟨h', r⟩ := ih (j + 1) _ (by omega) (og.tr o2) (by rw [rd6, if_pos rfl]; rfl) (fun z => by
      rw [rd6, if_neg (by decide), rd6, if_pos rfl, e5 (by omega), show (10 : Int32) = nI 10 from rfl, pk_mul, nI_add, show (48 : Int32) = nI 48 from rfl, pk_sub (by omega), vl_s 10 48 _ _ _ (by rw [List.length_drop]; omega), drop_getD]
      congr 1
      omega) (by rw [rd6, if_neg (by decide), rd6, if_neg (by decide)]; exact e4) (by rw [rd6, if_neg (by decide), rd6, if_neg (by decide)]; exact e6)
    refine ⟨h', wh_step ?_ r.1, r.2⟩
    show fX6_advanceNumber_c0 13 g = _
    have e2' : hI (sI g 6 13 5 (hI g 6 13 5 * 10 + nI (bs.getD (s + j) 0) - 48)) 6 13 2 = nI (s + j) := by rw [rd6, if_neg (by decide)]; exact e2
    unfold fX6_advanceNumber_c0
    rw [gd_t (k_13 cg), r6_13_0 cg, gs_t, gd_t (k_11 cg), t1, e2, if_neg (nI_ge hl (by omega)), gs_t, gd_t (k_11 cg), r7_11_0 cg, gs_t, gd_t hin]
    simp only [ck]
    rw [rb, if_neg (show ¬ nI (bs.getD (s + j) 0) < (48 : Int32) from Int32.not_lt.mpr (nI_le (a := 48) (by omega) (by omega))), gs_t, gd_t (k_11 cg), r7_11_0 cg, gs_t, gd_t hin, rb, if_neg (show ¬ (57 : Int32) < nI (bs.getD (s + j) 0) from Int32.not_lt.mpr (nI_le (b := 57) (by omega) (by decide))), gs_t, gd_t (k_11 cg), r7_11_0 cg, gs_t, gd_t hin, rb, lt_t, lt_t, e2', nI_1]
theorem sgX_eq : ∀ b, b < 256 → fX6_isSign (nI b) = some (bI (isSg b)) := by decide +kernel
/-- the class's reader goes on to the next token -/
theorem advance_eq {h : PH} (c : CSh h) {bs : List Nat} (T : TC bs h) (ok : okB bs) (l3 : bs.length ≤ 300) {i wr : Nat} (hi : i ≤ bs.length) (hw : wr ≤ 20) (e2 : hI h 6 13 2 = nI i) (e6 : hI h 6 13 6 = nI wr) : ∃ h', fX6_advance 13 h = some h' ∧ onlyI isQR h h' ∧ CR bs i wr h' := by
  have rl := rn_drop_le isBl bs i hi
  have sb : stT bs i ≤ bs.length := rl
  -- behind the blanks
  have fin : ∀ g : PH, onlyI isQR h g → hI g 6 13 2 = nI (stT bs i) → hI g 6 13 6 = nI wr → ∃ h', fX6_advance_b61 13 g = some h' ∧ onlyI isQR h h' ∧ CR bs i wr h' := fun g og f2 f6 => by
    have cg := c.oI og
    have o3 : onlyI isQR g (sI (sI (sI g 6 13 4 (nI (stT bs i))) 6 13 5 0) 6 13 3 0) := ((onlyI_sI _ _ qr4).tr (onlyI_sI _ _ qr5)).tr (onlyI_sI _ _ qr3)
    have c3 := cg.oI o3
    have og3 := og.tr o3
    have t1 : hI (sI (sI (sI g 6 13 4 (nI (stT bs i))) 6 13 5 0) 6 13 3 0) 7 11 1 = nI bs.length := (og3.1 7 11 1 rfl).trans T.1
    have r2 : hI (sI (sI (sI g 6 13 4 (nI (stT bs i))) 6 13 5 0) 6 13 3 0) 6 13 2 = nI (stT bs i) := by rw [rd6, if_neg (by decide), rd6, if_neg (by decide), rd6, if_neg (by decide)]; exact f2
    have r3 : hI (sI (sI (sI g 6 13 4 (nI (stT bs i))) 6 13 5 0) 6 13 3 0) 6 13 3 = 0 := by rw [rd6, if_pos rfl]
    have r4 : hI (sI (sI (sI g 6 13 4 (nI (stT bs i))) 6 13 5 0) 6 13 3 0) 6 13 4 = nI (stT bs i) := by rw [rd6, if_neg (by decide), rd6, if_neg (by decide), rd6, if_pos rfl]
    have r5 : hI (sI (sI (sI g 6 13 4 (nI (stT bs i))) 6 13 5 0) 6 13 3 0) 6 13 5 = nI 0 := by rw [rd6, if_neg (by decide), rd6, if_pos rfl]; rfl
    have r6 : hI (sI (sI (sI g 6 13 4 (nI (stT bs i))) 6 13 5 0) 6 13 3 0) 6 13 6 = nI wr := by rw [rd6, if_neg (by decide), rd6, if_neg (by decide), rd6, if_neg (by decide)]; exact f6
    unfold fX6_advance_b61
    rw [gd_t (k_13 cg), f2, lt_t, lt_t, lt_t]
    generalize sI (sI (sI g 6 13 4 (nI (stT bs i))) 6 13 5 0) 6 13 3 0 = g3 at *
    rw [r6_13_0 c3, gs_t, gd_t (k_11 c3), r2, t1]
    by_cases z : bs.length ≤ stT bs i
    · refine ⟨g3, by rw [if_neg (show ¬ nI (stT bs i) < nI bs.length from Int32.not_lt.mpr (nI_le z (by omega)))], og3, ?_, ?_, r4, ?_, ?_⟩
      · rw [r2]; unfold nxT; rw [if_pos z]
      · rw [r3]; unfold kdT; rw [if_pos z]; rfl
      · intro y; unfold kdT at y; rw [if_pos z] at y; omega
      · rw [r6]; unfold cnT; rw [if_pos z]
    · have hl : stT bs i < bs.length := by omega
      have bb := (ok _ (mem_getD hl)).2
      have rb : hI g3 20 12 (stT bs i) = nI (bs.getD (stT bs i) 0) := (og3.1 20 12 _ rfl).trans (T.2 _ hl)
      have hin : hK g3 12 = 20 ∧ inb (nI (stT bs i)) (hN g3 12) := ⟨k_12 c3, by rw [n_12 c3]; exact inbI (by omega) (by decide)⟩
      have ck : Int32.toNatClampNeg (nI (stT bs i)) = stT bs i := nI_clamp (by omega)
      rw [if_pos (nI_lt hl (by omega)), gs_t, gd_t (k_11 c3), r7_11_0 c3, gs_t, gd_t hin]
      simp only [ck]
      rw [rb]
      by_cases lo : isLo (bs.getD (stT bs i) 0) = true
      · obtain ⟨h', w1, w2, w3, w4, w5, w6, w7⟩ := advWord_l c T ok l3 sb hw (rW bs (stT bs i)) 0 g3 (by omega) og3 r2 (fun _ => by rw [vl]; exact r5) r4 r6
        have lo2 := of_decide_eq_true (show decide (97 ≤ bs.getD (stT bs i) 0 ∧ bs.getD (stT bs i) 0 ≤ 122) = true from lo)
        refine ⟨h', ?_, w2, ?_, ?_, w5, ?_, ?_⟩
        · unfold fX6_advance_b171 fX6_advanceWord
          rw [if_neg (show ¬ nI (bs.getD (stT bs i) 0) < (97 : Int32) from Int32.not_lt.mpr (nI_le (a := 97) lo2.1 (by omega))), if_neg (show ¬ (122 : Int32) < nI (bs.getD (stT bs i) 0) from Int32.not_lt.mpr (nI_le (b := 122) lo2.2 (by decide))), w1, bd_t]
        · rw [w3]; unfold nxT; rw [if_neg z, if_pos lo]
        · rw [w7]; unfold kdT; rw [if_neg z, if_pos lo]
        · intro y
          unfold kdT at y
          rw [if_neg z, if_pos lo] at y
          by_cases x : rW bs (stT bs i) ≤ 6 ∧ wr < 20
          · rw [w4 x.1]; unfold vaT; rw [if_pos lo]
          · rw [if_neg x] at y; omega
        · rw [w6]; unfold cnT; rw [if_neg z, if_pos lo]
      · have lo' : ¬ (97 ≤ bs.getD (stT bs i) 0 ∧ bs.getD (stT bs i) 0 ≤ 122) := fun y => lo (decide_eq_true y)
        have s1 : ∀ X : Option PH, (if nI (bs.getD (stT bs i) 0) < (97 : Int32) then fX6_advance_b126 13 (nI (bs.getD (stT bs i) 0)) g3 else if (122 : Int32) < nI (bs.getD (stT bs i) 0) then fX6_advance_b126 13 (nI (bs.getD (stT bs i) 0)) g3 else X) = fX6_advance_b126 13 (nI (bs.getD (stT bs i) 0)) g3 := fun X => by
          by_cases y : bs.getD (stT bs i) 0 < 97
          · rw [if_pos (show nI (bs.getD (stT bs i) 0) < (97 : Int32) from nI_lt (b := 97) y (by decide))]
          · rw [if_neg (show ¬ nI (bs.getD (stT bs i) 0) < (97 : Int32) from Int32.not_lt.mpr (nI_le (a := 97) (by omega) (by omega))), if_pos (show (122 : Int32) < nI (bs.getD (stT bs i) 0) from nI_lt (a := 122) (by omega) (by omega))]
        rw [s1]
        by_cases di : isDi (bs.getD (stT bs i) 0) = true
        · obtain ⟨h', w1, w2, w3, w4, w5, w6, w7⟩ := advNum_l c T ok l3 sb hw (rD bs (stT bs i)) 0 g3 (by omega) og3 r2 (fun _ => by rw [vl]; exact r5) r4 r6
          have di2 := of_decide_eq_true (show decide (48 ≤ bs.getD (stT bs i) 0 ∧ bs.getD (stT bs i) 0 ≤ 57) = true from di)
          refine ⟨h', ?_, w2, ?_, ?_, w5, ?_, ?_⟩
          · unfold fX6_advance_b126 fX6_advance_b171 fX6_advanceNumber
            rw [if_neg (show ¬ nI (bs.getD (stT bs i) 0) < (48 : Int32) from Int32.not_lt.mpr (nI_le (a := 48) di2.1 (by omega))), if_neg (show ¬ (57 : Int32) < nI (bs.getD (stT bs i) 0) from Int32.not_lt.mpr (nI_le (b := 57) di2.2 (by decide))), gd_t (k_13 c3), w1, bd_t]
          · rw [w3]; unfold nxT; rw [if_neg z, if_neg lo, if_pos di]
          · rw [w7]; unfold kdT; rw [if_neg z, if_neg lo, if_pos di]
          · intro y
            unfold kdT at y
            rw [if_neg z, if_neg lo, if_pos di] at y
            by_cases x : rD bs (stT bs i) ≤ 2 ∧ 1 ≤ vD bs (stT bs i) ∧ vD bs (stT bs i) ≤ 40
            · rw [w4 (by omega)]; unfold vaT; rw [if_neg lo]
            · rw [if_neg x] at y; omega
          · rw [w6]; unfold cnT; rw [if_neg z, if_neg lo]
        · have di' : ¬ (48 ≤ bs.getD (stT bs i) 0 ∧ bs.getD (stT bs i) 0 ≤ 57) := fun y => di (decide_eq_true y)
          have s2 : fX6_advance_b126 13 (nI (bs.getD (stT bs i) 0)) g3 = fX6_advance_b145 13 (nI (bs.getD (stT bs i) 0)) g3 := by
            unfold fX6_advance_b126
            by_cases y : bs.getD (stT bs i) 0 < 48
            · rw [if_pos (show nI (bs.getD (stT bs i) 0) < (48 : Int32) from nI_lt (b := 48) y (by decide))]
            · rw [if_neg (show ¬ nI (bs.getD (stT bs i) 0) < (48 : Int32) from Int32.not_lt.mpr (nI_le (a := 48) (by omega) (by omega))), if_pos (show (57 : Int32) < nI (bs.getD (stT bs i) 0) from nI_lt (a := 57) (by omega) (by omega))]
          have s3 : ∀ x : Int32, fX6_advance_b158 13 (some 13) x g3 = some (sI (sI g3 6 13 3 x) 6 13 2 (nI (stT bs i + 1))) := fun x => by
            have o4 : onlyI isQR g3 (sI g3 6 13 3 x) := onlyI_sI _ _ qr3
            have q2 : hI (sI g3 6 13 3 x) 6 13 2 = nI (stT bs i) := by rw [rd6, if_neg (by decide)]; exact r2
            unfold fX6_advance_b158 fX6_advance_b171
            rw [gs_t, gd_t (k_13 c3), lt_t, gd_t (k_13 (c3.oI o4)), lt_t, q2, nI_1]
          have kd : kdT bs wr (stT bs i) = if isSg (bs.getD (stT bs i) 0) then bs.getD (stT bs i) 0 else 1 := by unfold kdT; rw [if_neg z, if_neg lo, if_neg di]
          refine ⟨sI (sI g3 6 13 3 (nI (kdT bs wr (stT bs i)))) 6 13 2 (nI (stT bs i + 1)), ?_, og3.tr ((onlyI_sI _ _ qr3).tr (onlyI_sI _ _ qr2)), ?_, ?_, ?_, ?_, ?_⟩
          · rw [s2]
            unfold fX6_advance_b145
            rw [sgX_eq _ bb, bd_t, s3, s3, kd]
            cases isSg (bs.getD (stT bs i) 0)
            · exact if_pos rfl
            · exact if_neg (show ¬ bI true = 0 by decide)
          · rw [rd6, if_pos rfl]; unfold nxT; rw [if_neg z, if_neg lo, if_neg di]
          · rw [rd6, if_neg (by decide), rd6, if_pos rfl]
          · rw [rd6, if_neg (by decide), rd6, if_neg (by decide)]; exact r4
          · intro y
            rw [kd] at y
            exfalso
            by_cases x : isSg (bs.getD (stT bs i) 0) = true
            · rw [if_pos x] at y
              rcases y with y | y <;> rw [y] at x <;> exact absurd x (by decide)
            · rw [if_neg x] at y; omega
          · rw [rd6, if_neg (by decide), rd6, if_neg (by decide), r6]; unfold cnT; rw [if_neg z, if_neg lo]
  have lp : ∀ f j : Nat, ∀ g : PH, j + f = rn isBl (bs.drop i) → onlyI isQR h g → hI g 6 13 2 = nI (i + j) → hI g 6 13 6 = nI wr → ∃ h', fX6_advance_l0 13 g = some h' ∧ onlyI isQR h h' ∧ CR bs i wr h' := by
    intro f
    induction f with
    | zero =>
      intro j g hj og f2 f6
      have hj : i + j = stT bs i := by unfold stT; omega
      rw [hj] at f2
      have cg := c.oI og
      have t1 : hI g 7 11 1 = nI bs.length := (og.1 7 11 1 rfl).trans T.1
      obtain ⟨h', r1, r2⟩ := fin g og f2 f6
      refine ⟨h', wh_done ?_, r2⟩
      show fX6_advance_c0 13 g = _
      unfold fX6_advance_c0
      rw [gd_t (k_13 cg), r6_13_0 cg, gs_t, gd_t (k_11 cg), t1, f2]
      by_cases z : bs.length ≤ stT bs i
      · rw [if_pos (nI_le z (by omega)), r1, mr_t]
      · have hl : stT bs i < bs.length := by omega
        have ne := rn_drop_end (p := isBl) (bs := bs) (s := i) hl
        have ne : isBl (bs.getD (stT bs i) 0) = false := ne
        unfold isBl at ne
        have ne := of_decide_eq_false ne
        have bb := (ok _ (mem_getD hl)).2
        have rb : hI g 20 12 (stT bs i) = nI (bs.getD (stT bs i) 0) := (og.1 20 12 _ rfl).trans (T.2 _ hl)
        have hin : hK g 12 = 20 ∧ inb (nI (stT bs i)) (hN g 12) := ⟨k_12 cg, by rw [n_12 cg]; exact inbI (by omega) (by decide)⟩
        have ck : Int32.toNatClampNeg (nI (stT bs i)) = stT bs i := nI_clamp (by omega)
        rw [if_neg (nI_ge hl (by omega)), gs_t, gd_t (k_11 cg), r7_11_0 cg, gs_t, gd_t hin]
        simp only [ck]
        rw [rb, if_neg (show ¬ nI (bs.getD (stT bs i) 0) = (32 : Int32) from fun y => ne (Or.inl ((nI_eq (b := 32) (by omega) (by decide)).mp y))), gs_t, gd_t (k_11 cg), r7_11_0 cg, gs_t, gd_t hin, rb, if_pos (show ¬ nI (bs.getD (stT bs i) 0) = (10 : Int32) from fun y => ne (Or.inr ((nI_eq (b := 10) (by omega) (by decide)).mp y))), r1, mr_t]
    | succ f ih =>
      intro j g hj og f2 f6
      have cg := c.oI og
      have hj1 : j < rn isBl (bs.drop i) := by omega
      have hl : i + j < bs.length := by omega
      have t1 : hI g 7 11 1 = nI bs.length := (og.1 7 11 1 rfl).trans T.1
      have bl : isBl (bs.getD (i + j) 0) = true := rn_drop_at hj1
      unfold isBl at bl
      have bl := of_decide_eq_true bl
      have rb : hI g 20 12 (i + j) = nI (bs.getD (i + j) 0) := (og.1 20 12 _ rfl).trans (T.2 _ hl)
      have hin : hK g 12 = 20 ∧ inb (nI (i + j)) (hN g 12) := ⟨k_12 cg, by rw [n_12 cg]; exact inbI (by omega) (by decide)⟩
      have ck : Int32.toNatClampNeg (nI (i + j)) = i + j := nI_clamp (by omega)
      obtain ⟨h', r1, r2⟩ := ih (j + 1) (sI g 6 13 2 (nI (i + j + 1))) (by omega) (og.tr (onlyI_sI _ _ qr2)) (by rw [rd6, if_pos rfl]; rfl) (by rw [rd6, if_neg (by decide)]; exact f6)
      have b48 : fX6_advance_b48 13 g = some (.inl (sI g 6 13 2 (nI (i + j + 1)))) := by
        unfold fX6_advance_b48
        rw [gd_t (k_13 cg), f2, nI_1, lt_t]
      refine ⟨h', wh_step ?_ r1, r2⟩
      show fX6_advance_c0 13 g = _
      unfold fX6_advance_c0
      rw [gd_t (k_13 cg), r6_13_0 cg, gs_t, gd_t (k_11 cg), t1, f2, if_neg (nI_ge hl (by omega)), gs_t, gd_t (k_11 cg), r7_11_0 cg, gs_t, gd_t hin]
      simp only [ck]
      rw [rb, b48]
      rcases bl with y | y
      · rw [if_pos (by rw [y]; rfl)]
      · rw [if_neg (by rw [y]; decide), gs_t, gd_t (k_11 cg), r7_11_0 cg, gs_t, gd_t hin, rb, if_neg (by rw [y]; decide)]
  exact lp (rn isBl (bs.drop i)) 0 h (by omega) (onlyI.rf _ _) e2 e6
