/-! TOKENS in the reference -/
def mkT (bs : List Nat) (s : Nat) : Nat := if bs.length ≤ s then 0 else if isLo (bs.getD s 0) then (if rW bs s ≤ 6 then 3 else 4) else if isDi (bs.getD s 0) then (if rD bs s ≤ 2 ∧ 1 ≤ vD bs s ∧ vD bs s ≤ 40 then 2 else 4) else if isSg (bs.getD s 0) then 1 else 4
def isTk (c a k : Nat) : Bool := c == 12 && a == 45 && (k == 21 || k == 22 || k == 23 || k == 24)
theorem tk21 : isTk 12 45 21 = true := rfl
theorem tk22 : isTk 12 45 22 = true := rfl
theorem tk23 : isTk 12 45 23 = true := rfl
theorem tk24 : isTk 12 45 24 = true := rfl
theorem rd12 (g : PH) (k k' : Nat) (x : Int32) : hI (sI g 12 45 k x) 12 45 k' = if k' = k then x else hI g 12 45 k' := by
  rw [hI_sI]
  by_cases d : k' = k
  · rw [if_pos ⟨rfl, rfl, d⟩, if_pos d]
  · rw [if_neg (fun z => d z.2.2), if_neg d]
/-- what the reference holds ahead -/
def MR (bs : List Nat) (i : Nat) (h : PH) : Prop := hI h 12 45 24 = nI (nxT bs (stT bs i)) ∧ hI h 12 45 22 = nI (stT bs i) ∧ hI h 12 45 21 = nI (mkT bs (stT bs i)) ∧ (mkT bs (stT bs i) = 3 → hI h 12 45 23 = nI (vW bs (stT bs i))) ∧ (mkT bs (stT bs i) = 2 → hI h 12 45 23 = nI (vD bs (stT bs i))) ∧ (mkT bs (stT bs i) = 1 → hI h 12 45 23 = nI (bs.getD (stT bs i) 0))
theorem readsRun_l {h : PH} (m : MSh h) {bs : List Nat} (T : TM bs h) (ok : okB bs) (l3 : bs.length ≤ 300) {s : Nat} (hs : s ≤ bs.length) (num : Bool) {p : Nat → Bool} {lo hi base off most : Nat} (hp : ∀ b, p b = decide (lo ≤ b ∧ b ≤ hi)) (hh : hi < 256) (hlo : lo < 256) (h6 : most ≤ 6) (hb : base ≤ 27 ∧ 1 ≤ base) (hd : ∀ b, lo ≤ b → b ≤ hi → b - off < base) (up : ∀ v b : Nat, lo ≤ b → v < 27 ^ 6 → b < 256 → (if num then ((10 : Int32) * nI v + nI b - 48) else ((27 : Int32) * nI v + nI b - 97 + 1)) = nI (v * base + (b - off))) : ∀ f j : Nat, ∀ g : PH, j + f = rn p (bs.drop s) → onlyI isTk h g → hI g 12 45 24 = nI (s + j) → hI g 12 45 23 = nI (vl base off (bs.drop s) (min j most) 0) → hI g 12 45 22 = nI s → ∃ g', (∀ r, fX12_readsRun_b136 45 (bI num) (nI most) (nI (rn p (bs.drop s))) g' = some r → fX12_readsRun_l32 45 (nI lo) (nI hi) (bI num) (nI most) (nI j) g = some r) ∧ onlyI isTk h g' ∧ hI g' 12 45 24 = nI (s + rn p (bs.drop s)) ∧ hI g' 12 45 23 = nI (vl base off (bs.drop s) (min (rn p (bs.drop s)) most) 0) ∧ hI g' 12 45 22 = nI s := by
  have rl := rn_drop_le p bs s hs
  intro f
  induction f with
  | zero =>
    intro j g hj og e24 e23 e22
    have hj : j = rn p (bs.drop s) := by omega
    have mg := m.oI og
    have t2 : hI g 12 45 2 = nI bs.length := (og.1 12 45 2 rfl).trans T.1
    rw [hj] at e24 e23
    refine ⟨g, fun r hr => wh_done ?_, og, e24, e23, e22⟩
    show fX12_readsRun_c32 45 (nI lo) (nI hi) (bI num) (nI most) (nI j) g = _
    rw [hj]
    unfold fX12_readsRun_c32
    rw [gd_t (k_45 mg), t2, e24]
    by_cases z : s + rn p (bs.drop s) = bs.length
    · rw [if_pos (nI_le (by omega) (by omega)), hr, mr_t]
    · have hl : s + rn p (bs.drop s) < bs.length := by omega
      have ne := rn_drop_end (p := p) (bs := bs) (s := s) hl
      rw [hp] at ne
      have bb := (ok _ (mem_getD hl)).2
      have rb : hI g 20 46 (s + rn p (bs.drop s)) = nI (bs.getD (s + rn p (bs.drop s)) 0) := (og.1 20 46 _ rfl).trans (T.2 _ hl)
      have hin : hK g 46 = 20 ∧ inb (nI (s + rn p (bs.drop s))) (hN g 46) := ⟨k_46 mg, by rw [n_46 mg]; exact inbI (by omega) (by decide)⟩
      have ck : Int32.toNatClampNeg (nI (s + rn p (bs.drop s))) = s + rn p (bs.drop s) := nI_clamp (by omega)
      rw [if_neg (nI_ge hl (by omega)), r12_45_1 mg, gs_t, gd_t hin]
      simp only [ck]
      rw [rb, inN (by omega) (by omega) (by omega), ne, bd_t, if_pos (show bI false = 0 from rfl), hr, mr_t]
  | succ f ih =>
    intro j g hj og e24 e23 e22
    have mg := m.oI og
    have hj1 : j < rn p (bs.drop s) := by omega
    have hl : s + j < bs.length := by omega
    have t2 : hI g 12 45 2 = nI bs.length := (og.1 12 45 2 rfl).trans T.1
    have pb := rn_drop_at (p := p) hj1
    rw [hp] at pb
    have pb2 := of_decide_eq_true pb
    have bb := (ok _ (mem_getD hl)).2
    have rb : hI g 20 46 (s + j) = nI (bs.getD (s + j) 0) := (og.1 20 46 _ rfl).trans (T.2 _ hl)
    have hin : hK g 46 = 20 ∧ inb (nI (s + j)) (hN g 46) := ⟨k_46 mg, by rw [n_46 mg]; exact inbI (by omega) (by decide)⟩
    have ck : Int32.toNatClampNeg (nI (s + j)) = s + j := nI_clamp (by omega)
    have c0 : fX12_readsRun_c32 45 (nI lo) (nI hi) (bI num) (nI most) (nI j) g = (if nI most ≤ nI j then fX12_readsRun_b120 45 (nI lo) (nI hi) (bI num) (nI most) (nI j) g else fX12_readsRun_b117 45 (nI lo) (nI hi) (bI num) (nI most) (nI j) (some 45) (if num then ((10 : Int32) * hI g 12 45 23 + nI (bs.getD (s + j) 0) - 48) else ((27 : Int32) * hI g 12 45 23 + nI (bs.getD (s + j) 0) - 97 + 1)) g) := by
      unfold fX12_readsRun_c32
      rw [gd_t (k_45 mg), t2, e24, if_neg (nI_ge hl (by omega)), r12_45_1 mg, gs_t, gd_t hin]
      simp only [ck]
      rw [rb, inN (by omega) (by omega) (by omega), pb, bd_t, if_neg (show ¬ bI true = 0 by decide), gs_t, gd_t hin, gs_t, gd_t hin, rb]
      cases num
      · rw [if_pos (show bI false = 0 from rfl)]; rfl
      · rw [if_neg (show ¬ bI true = 0 by decide)]; rfl
    by_cases z : most ≤ j
    · obtain ⟨g', r⟩ := ih (j + 1) (sI g 12 45 24 (nI (s + j + 1))) (by omega) (og.tr (onlyI_sI _ _ tk24)) (by rw [rd12, if_pos rfl]; rfl) (by rw [rd12, if_neg (by decide), e23, Nat.min_eq_right z, Nat.min_eq_right (by omega)]) (by rw [rd12, if_neg (by decide)]; exact e22)
      refine ⟨g', fun r' hr => wh_step (t := (nI (j + 1), sI g 12 45 24 (nI (s + j + 1)))) ?_ (r.1 r' hr), r.2⟩
      show fX12_readsRun_c32 45 (nI lo) (nI hi) (bI num) (nI most) (nI j) g = _
      rw [c0, if_pos (nI_le z (by omega))]
      unfold fX12_readsRun_b120
      rw [gd_t (k_45 mg), e24, nI_1, lt_t, nI_1]
    · have mj : min j most = j := Nat.min_eq_left (by omega)
      have mj1 : min (j + 1) most = j + 1 := Nat.min_eq_left (by omega)
      have vb : vl base off (bs.drop s) j 0 < base ^ (0 + j) := vl_b hb.2 _ _ _ _ (fun k h1 h2 => by
        have q := rn_at (p := p) (l := bs.drop s) (j := k) (by omega)
        rw [hp] at q
        have q := of_decide_eq_true q
        exact hd _ q.1 q.2) (by rw [Nat.pow_zero]; decide)
      have vb2 : vl base off (bs.drop s) j 0 < 27 ^ 6 := Nat.lt_of_lt_of_le vb (Nat.le_trans (Nat.pow_le_pow_left hb.1 _) (Nat.pow_le_pow_right (by decide) (by omega)))
      have o1 : onlyI isTk g (sI g 12 45 23 (nI (vl base off (bs.drop s) (j + 1) 0))) := onlyI_sI _ _ tk23
      have m1 := mg.oI o1
      obtain ⟨g', r⟩ := ih (j + 1) (sI (sI g 12 45 23 (nI (vl base off (bs.drop s) (j + 1) 0))) 12 45 24 (nI (s + j + 1))) (by omega) ((og.tr o1).tr (onlyI_sI _ _ tk24)) (by rw [rd12, if_pos rfl]; rfl) (by rw [rd12, if_neg (by decide), rd12, if_pos rfl, mj1]) (by rw [rd12, if_neg (by decide), rd12, if_neg (by decide)]; exact e22)
      refine ⟨g', fun r' hr => wh_step (t := (nI (j + 1), sI (sI g 12 45 23 (nI (vl base off (bs.drop s) (j + 1) 0))) 12 45 24 (nI (s + j + 1)))) ?_ (r.1 r' hr), r.2⟩
      show fX12_readsRun_c32 45 (nI lo) (nI hi) (bI num) (nI most) (nI j) g = _
      have e24' : hI (sI g 12 45 23 (nI (vl base off (bs.drop s) (j + 1) 0))) 12 45 24 = nI (s + j) := by rw [rd12, if_neg (by decide)]; exact e24
      rw [c0, if_neg (nI_ge (by omega) (by omega)), e23, mj, up _ _ pb2.1 vb2 bb, show vl base off (bs.drop s) j 0 * base + (bs.getD (s + j) 0 - off) = vl base off (bs.drop s) (j + 1) 0 by rw [vl_s base off _ _ _ (by rw [List.length_drop]; omega), drop_getD]]
      unfold fX12_readsRun_b117 fX12_readsRun_b120
      rw [gs_t, gd_t (k_45 mg), lt_t, gd_t (k_45 m1), e24', nI_1, lt_t, nI_1]
theorem sgM_eq : ∀ b, b < 256 → fX12_isSign (nI b) = some (bI (isSg b)) := by decide +kernel
theorem reads_eq {h : PH} (m : MSh h) {bs : List Nat} (T : TM bs h) (ok : okB bs) (l3 : bs.length ≤ 300) {i : Nat} (hi : i ≤ bs.length) (e24 : hI h 12 45 24 = nI i) : ∃ h', fX12_reads 45 h = some h' ∧ onlyI isTk h h' ∧ MR bs i h' := by
  have rl := rn_drop_le isBl bs i hi
  have sb : stT bs i ≤ bs.length := rl
  have fin : ∀ g : PH, onlyI isTk h g → hI g 12 45 24 = nI (stT bs i) → ∃ h', fX12_reads_b52 45 g = some h' ∧ onlyI isTk h h' ∧ MR bs i h' := fun g og f24 => by
    have mg := m.oI og
    have o2 : onlyI isTk g (sI (sI g 12 45 22 (nI (stT bs i))) 12 45 21 0) := (onlyI_sI _ _ tk22).tr (onlyI_sI _ _ tk21)
    have m2 := mg.oI o2
    have og2 := og.tr o2
    have t2 : hI (sI (sI g 12 45 22 (nI (stT bs i))) 12 45 21 0) 12 45 2 = nI bs.length := (og2.1 12 45 2 rfl).trans T.1
    have r24 : hI (sI (sI g 12 45 22 (nI (stT bs i))) 12 45 21 0) 12 45 24 = nI (stT bs i) := by rw [rd12, if_neg (by decide), rd12, if_neg (by decide)]; exact f24
    have r22 : hI (sI (sI g 12 45 22 (nI (stT bs i))) 12 45 21 0) 12 45 22 = nI (stT bs i) := by rw [rd12, if_neg (by decide), rd12, if_pos rfl]
    have r21 : hI (sI (sI g 12 45 22 (nI (stT bs i))) 12 45 21 0) 12 45 21 = 0 := by rw [rd12, if_pos rfl]
    unfold fX12_reads_b52
    rw [gd_t (k_45 mg), f24, lt_t, lt_t]
    generalize sI (sI g 12 45 22 (nI (stT bs i))) 12 45 21 0 = g3 at *
    rw [r24, t2]
    by_cases z : bs.length ≤ stT bs i
    · have zz : stT bs i = bs.length := by omega
      refine ⟨g3, by rw [if_neg (show ¬ ¬ nI (stT bs i) = nI bs.length from fun y => y (by rw [zz]))], og2, ?_, r22, ?_, ?_, ?_, ?_⟩
      · rw [r24]; unfold nxT; rw [if_pos z]
      · rw [r21]; unfold mkT; rw [if_pos z]; rfl
      · intro y; unfold mkT at y; rw [if_pos z] at y; omega
      · intro y; unfold mkT at y; rw [if_pos z] at y; omega
      · intro y; unfold mkT at y; rw [if_pos z] at y; omega
    · have hl : stT bs i < bs.length := by omega
      have bb := (ok _ (mem_getD hl)).2
      have rb : hI g3 20 46 (stT bs i) = nI (bs.getD (stT bs i) 0) := (og2.1 20 46 _ rfl).trans (T.2 _ hl)
      have hin : hK g3 46 = 20 ∧ inb (nI (stT bs i)) (hN g3 46) := ⟨k_46 m2, by rw [n_46 m2]; exact inbI (by omega) (by decide)⟩
      have ck : Int32.toNatClampNeg (nI (stT bs i)) = stT bs i := nI_clamp (by omega)
      rw [if_pos (show ¬ nI (stT bs i) = nI bs.length from fun y => by have := (nI_eq (by omega) (by omega)).mp y; omega), r12_45_1 m2, gs_t, gd_t hin]
      simp only [ck]
      rw [rb, show (97 : Int32) = nI 97 from rfl, show (122 : Int32) = nI 122 from rfl, inN (by omega) (by decide) (by decide), bd_t]
      have o23 : onlyI isTk g3 (sI g3 12 45 23 0) := onlyI_sI _ _ tk23
      by_cases lo : isLo (bs.getD (stT bs i) 0) = true
      · have lo2 : decide (97 ≤ bs.getD (stT bs i) 0 ∧ bs.getD (stT bs i) 0 ≤ 122) = true := lo
        rw [lo2, if_neg (show ¬ bI true = 0 by decide)]
        obtain ⟨g', w1, w2, w3, w4, w5⟩ := readsRun_l m T ok l3 sb false (p := isLo) (lo := 97) (hi := 122) (base := 27) (off := 96) (most := 6) (fun b => rfl) (by decide) (by decide) (by decide) (by decide) (fun b h1 h2 => by omega) (fun v b h1 h2 h3 => by
          show (27 : Int32) * nI v + nI b - 97 + 1 = _
          rw [show (27 : Int32) = nI 27 from rfl, pk_mul, nI_add, show (97 : Int32) = nI 97 from rfl, sub1 (by omega)]
          congr 1
          omega) (rW bs (stT bs i)) 0 (sI g3 12 45 23 0) (by unfold rW; omega) (og2.tr o23) (by rw [rd12, if_neg (by decide)]; exact r24) (by rw [rd12, if_pos rfl, Nat.zero_min, vl]; rfl) (by rw [rd12, if_neg (by decide)]; exact r22)
        have mg' := m.oI w2
        have rl3 := rn_drop_le isLo bs (stT bs i) sb
        have end1 : fX12_readsRun_b136 45 (bI false) (nI 6) (nI (rn isLo (bs.drop (stT bs i)))) g' = some (sI (sI g' 12 45 21 3) 12 45 21 (nI (if rW bs (stT bs i) ≤ 6 then 3 else 4))) ∨ fX12_readsRun_b136 45 (bI false) (nI 6) (nI (rn isLo (bs.drop (stT bs i)))) g' = some (sI g' 12 45 21 (nI (if rW bs (stT bs i) ≤ 6 then 3 else 4))) := by
          have oo : onlyI isTk g' (sI g' 12 45 21 3) := onlyI_sI _ _ tk21
          unfold fX12_readsRun_b136 fX12_readsRun_b146 fX12_readsRun_b173 fX12_readsRun_b178
          rw [if_pos (show bI false = 0 from rfl), gs_t, gd_t (k_45 mg'), lt_t]
          by_cases x : rW bs (stT bs i) ≤ 6
          · right
            rw [if_neg (show ¬ nI 6 < nI (rn isLo (bs.drop (stT bs i))) from Int32.not_lt.mpr (nI_le x (by decide))), if_pos (show bI false = 0 from rfl), if_pos x]
            rfl
          · left
            rw [if_pos (show nI 6 < nI (rn isLo (bs.drop (stT bs i))) from nI_lt (by unfold rW at x; omega) (by omega)), gd_t (k_45 (mg'.oI oo)), lt_t, if_neg x]
            rfl
        have fl : ∀ x, fX12_readsRun_b136 45 (bI false) (nI 6) (nI (rn isLo (bs.drop (stT bs i)))) g' = some x → bd (fX12_readsRun 45 (nI 97) (nI 122) g3) (fun z28 => fX12_reads_b179 z28) = some x := fun x hx => by
          unfold fX12_readsRun fX12_readsRun_b11 fX12_readsRun_b22 fX12_reads_b179
          rw [if_pos (show ¬ nI 97 = (48 : Int32) by decide), if_pos (show (0 : Int32) = 0 from rfl), gd_t (k_45 m2), lt_t]
          rw [show fX12_readsRun_l32 45 (nI 97) (nI 122) 0 6 0 (sI g3 12 45 23 0) = some x from w1 x hx, bd_t]
        have mk : mkT bs (stT bs i) = if rW bs (stT bs i) ≤ 6 then 3 else 4 := by unfold mkT; rw [if_neg z, if_pos lo]
        have w3' : hI g' 12 45 24 = nI (nxT bs (stT bs i)) := by rw [w3]; unfold nxT rW; rw [if_neg z, if_pos lo]
        have w4' : rW bs (stT bs i) ≤ 6 → hI g' 12 45 23 = nI (vW bs (stT bs i)) := fun x => by rw [w4, Nat.min_eq_left (show rn isLo (bs.drop (stT bs i)) ≤ 6 from x)]; rfl
        rcases end1 with e | e
        · refine ⟨_, fl _ e, w2.tr ((onlyI_sI _ _ tk21).tr (onlyI_sI _ _ tk21)), by rw [rd12, if_neg (by decide), rd12, if_neg (by decide)]; exact w3', by rw [rd12, if_neg (by decide), rd12, if_neg (by decide)]; exact w5, by rw [rd12, if_pos rfl, mk], fun y => ?_, fun y => ?_, fun y => ?_⟩
          · rw [rd12, if_neg (by decide), rd12, if_neg (by decide)]
            exact w4' (by rw [mk] at y; by_cases x : rW bs (stT bs i) ≤ 6; exact x; rw [if_neg x] at y; omega)
          · rw [mk] at y; split at y <;> omega
          · rw [mk] at y; split at y <;> omega
        · refine ⟨_, fl _ e, w2.tr (onlyI_sI _ _ tk21), by rw [rd12, if_neg (by decide)]; exact w3', by rw [rd12, if_neg (by decide)]; exact w5, by rw [rd12, if_pos rfl, mk], fun y => ?_, fun y => ?_, fun y => ?_⟩
          · rw [rd12, if_neg (by decide)]
            exact w4' (by rw [mk] at y; by_cases x : rW bs (stT bs i) ≤ 6; exact x; rw [if_neg x] at y; omega)
          · rw [mk] at y; split at y <;> omega
          · rw [mk] at y; split at y <;> omega
      · have lo2 : decide (97 ≤ bs.getD (stT bs i) 0 ∧ bs.getD (stT bs i) 0 ≤ 122) = false := by
          cases q : decide (97 ≤ bs.getD (stT bs i) 0 ∧ bs.getD (stT bs i) 0 ≤ 122) with
          | false => rfl
          | true => exact absurd q lo
        rw [lo2, if_pos (show bI false = 0 from rfl), gs_t, gd_t hin, rb, show (48 : Int32) = nI 48 from rfl, show (57 : Int32) = nI 57 from rfl, inN (by omega) (by decide) (by decide), bd_t]
        by_cases di : isDi (bs.getD (stT bs i) 0) = true
        · have di2 : decide (48 ≤ bs.getD (stT bs i) 0 ∧ bs.getD (stT bs i) 0 ≤ 57) = true := di
          rw [di2, if_neg (show ¬ bI true = 0 by decide)]
          obtain ⟨g', w1, w2, w3, w4, w5⟩ := readsRun_l m T ok l3 sb true (p := isDi) (lo := 48) (hi := 57) (base := 10) (off := 48) (most := 2) (fun b => rfl) (by decide) (by decide) (by decide) (by decide) (fun b h1 h2 => by omega) (fun v b h1 h2 h3 => by
            show (10 : Int32) * nI v + nI b - 48 = _
            rw [show (10 : Int32) = nI 10 from rfl, pk_mul, nI_add, show (48 : Int32) = nI 48 from rfl, pk_sub (by omega)]
            congr 1
            omega) (rD bs (stT bs i)) 0 (sI g3 12 45 23 0) (by unfold rD; omega) (og2.tr o23) (by rw [rd12, if_neg (by decide)]; exact r24) (by rw [rd12, if_pos rfl, Nat.zero_min, vl]; rfl) (by rw [rd12, if_neg (by decide)]; exact r22)
          have mg' := m.oI w2
          have rl3 := rn_drop_le isDi bs (stT bs i) sb
          have mk : mkT bs (stT bs i) = if rD bs (stT bs i) ≤ 2 ∧ 1 ≤ vD bs (stT bs i) ∧ vD bs (stT bs i) ≤ 40 then 2 else 4 := by unfold mkT; rw [if_neg z, if_neg lo, if_pos di]
          have oo : onlyI isTk g' (sI g' 12 45 21 2) := onlyI_sI _ _ tk21
          have v4 : rD bs (stT bs i) ≤ 2 → hI g' 12 45 23 = nI (vD bs (stT bs i)) := fun x => by rw [w4, Nat.min_eq_left (show rn isDi (bs.drop (stT bs i)) ≤ 2 from x)]; rfl
          have end1 : ∃ hh, fX12_readsRun_b136 45 (bI true) (nI 2) (nI (rn isDi (bs.drop (stT bs i)))) g' = some hh ∧ onlyI isTk g' hh ∧ (∀ k, k ≠ 21 → hI hh 12 45 k = hI g' 12 45 k) ∧ hI hh 12 45 21 = nI (mkT bs (stT bs i)) := by
            have far : fX12_readsRun_b173 45 (sI g' 12 45 21 2) = some (sI (sI g' 12 45 21 2) 12 45 21 4) := by
              unfold fX12_readsRun_b173 fX12_readsRun_b178
              rw [gd_t (k_45 (mg'.oI oo)), lt_t]
            unfold fX12_readsRun_b136 fX12_readsRun_b146 fX12_readsRun_b178
            rw [if_neg (show ¬ bI true = 0 by decide), gs_t, gd_t (k_45 mg'), lt_t]
            by_cases x : rD bs (stT bs i) ≤ 2
            · have vb : vD bs (stT bs i) < 10 ^ (0 + rD bs (stT bs i)) := vl_b (by decide) _ _ _ _ (fun j h1 h2 => by
                have q := rn_at (p := isDi) (l := bs.drop (stT bs i)) (j := j) h1
                unfold isDi at q
                have q := of_decide_eq_true q
                omega) (by decide)
              have vb2 : vD bs (stT bs i) < 10 ^ 2 := Nat.lt_of_lt_of_le vb (Nat.pow_le_pow_right (by decide) (by omega))
              have vb3 : vD bs (stT bs i) < 100 := vb2
              have x23 : hI (sI g' 12 45 21 2) 12 45 23 = nI (vD bs (stT bs i)) := by rw [rd12, if_neg (by decide)]; exact v4 x
              rw [if_neg (show ¬ nI 2 < nI (rn isDi (bs.drop (stT bs i))) from Int32.not_lt.mpr (nI_le x (by decide))), if_neg (show ¬ bI true = 0 by decide), gd_t (k_45 (mg'.oI oo)), x23, show (1 : Int32) = nI 1 from rfl, show (40 : Int32) = nI 40 from rfl, inN (by omega) (by decide) (by decide), bd_t]
              by_cases y : 1 ≤ vD bs (stT bs i) ∧ vD bs (stT bs i) ≤ 40
              · rw [decide_eq_true y, if_pos (show ¬ bI true = 0 by decide)]
                exact ⟨_, rfl, oo, fun k hk => by rw [rd12, if_neg hk], by rw [rd12, if_pos rfl, mk, if_pos ⟨x, y⟩]; rfl⟩
              · rw [decide_eq_false y, if_neg (show ¬ ¬ bI false = 0 from fun q => q rfl), far]
                exact ⟨_, rfl, oo.tr (onlyI_sI _ _ tk21), fun k hk => by rw [rd12, if_neg hk, rd12, if_neg hk], by rw [rd12, if_pos rfl, mk, if_neg (fun q => y q.2)]; rfl⟩
            · rw [if_pos (show nI 2 < nI (rn isDi (bs.drop (stT bs i))) from nI_lt (by unfold rD at x; omega) (by omega)), far]
              exact ⟨_, rfl, oo.tr (onlyI_sI _ _ tk21), fun k hk => by rw [rd12, if_neg hk, rd12, if_neg hk], by rw [rd12, if_pos rfl, mk, if_neg (fun q => x q.1)]; rfl⟩
          obtain ⟨hh, e1, e2, e3, e4⟩ := end1
          refine ⟨hh, ?_, w2.tr e2, ?_, ?_, e4, fun y => ?_, fun y => ?_, fun y => ?_⟩
          · unfold fX12_readsRun fX12_readsRun_b11 fX12_readsRun_b22 fX12_reads_b179
            rw [if_neg (show ¬ ¬ nI 48 = (48 : Int32) from fun q => q rfl), if_neg (show ¬ (1 : Int32) = 0 by decide), gd_t (k_45 m2), lt_t]
            rw [show fX12_readsRun_l32 45 (nI 48) (nI 57) 1 2 0 (sI g3 12 45 23 0) = some hh from w1 hh e1, bd_t]
          · rw [e3 24 (by decide), w3]; unfold nxT rD; rw [if_neg z, if_neg lo, if_pos di]
          · rw [e3 22 (by decide)]; exact w5
          · rw [mk] at y; split at y <;> omega
          · rw [e3 23 (by decide)]
            rw [mk] at y
            by_cases x : rD bs (stT bs i) ≤ 2 ∧ 1 ≤ vD bs (stT bs i) ∧ vD bs (stT bs i) ≤ 40
            · exact v4 x.1
            · rw [if_neg x] at y; omega
          · rw [mk] at y; split at y <;> omega
        · have di2 : decide (48 ≤ bs.getD (stT bs i) 0 ∧ bs.getD (stT bs i) 0 ≤ 57) = false := by
            cases q : decide (48 ≤ bs.getD (stT bs i) 0 ∧ bs.getD (stT bs i) 0 ≤ 57) with
            | false => rfl
            | true => exact absurd q di
          have ob : onlyI isTk g3 (sI g3 12 45 23 (nI (bs.getD (stT bs i) 0))) := onlyI_sI _ _ tk23
          have mb := m2.oI ob
          have mk : mkT bs (stT bs i) = if isSg (bs.getD (stT bs i) 0) then 1 else 4 := by unfold mkT; rw [if_neg z, if_neg lo, if_neg di]
          have b166 : ∀ x : Int32, fX12_reads_b166 45 (some 45) x (sI g3 12 45 23 (nI (bs.getD (stT bs i) 0))) = some (sI (sI (sI g3 12 45 23 (nI (bs.getD (stT bs i) 0))) 12 45 21 x) 12 45 24 (nI (stT bs i + 1))) := fun x => by
            have o5 : onlyI isTk (sI g3 12 45 23 (nI (bs.getD (stT bs i) 0))) (sI (sI g3 12 45 23 (nI (bs.getD (stT bs i) 0))) 12 45 21 x) := onlyI_sI _ _ tk21
            have q24 : hI (sI (sI g3 12 45 23 (nI (bs.getD (stT bs i) 0))) 12 45 21 x) 12 45 24 = nI (stT bs i) := by rw [rd12, if_neg (by decide), rd12, if_neg (by decide)]; exact r24
            unfold fX12_reads_b166 fX12_reads_b179
            rw [gs_t, gd_t (k_45 mb), lt_t, gd_t (k_45 (mb.oI o5)), q24, nI_1, lt_t]
          rw [di2, if_pos (show bI false = 0 from rfl), gs_t, gd_t hin, rb, lt_t, show hI (sI g3 12 45 23 (nI (bs.getD (stT bs i) 0))) 12 45 23 = nI (bs.getD (stT bs i) 0) by rw [rd12, if_pos rfl], sgM_eq _ bb, bd_t, b166, b166]
          refine ⟨sI (sI (sI g3 12 45 23 (nI (bs.getD (stT bs i) 0))) 12 45 21 (nI (mkT bs (stT bs i)))) 12 45 24 (nI (stT bs i + 1)), ?_, og2.tr ((ob.tr (onlyI_sI _ _ tk21)).tr (onlyI_sI _ _ tk24)), ?_, ?_, ?_, fun y => ?_, fun y => ?_, fun y => ?_⟩
          · rw [mk]
            cases isSg (bs.getD (stT bs i) 0)
            · exact if_pos rfl
            · exact if_neg (show ¬ bI true = 0 by decide)
          · rw [rd12, if_pos rfl]; unfold nxT; rw [if_neg z, if_neg lo, if_neg di]
          · rw [rd12, if_neg (by decide), rd12, if_neg (by decide), rd12, if_neg (by decide)]; exact r22
          · rw [rd12, if_neg (by decide), rd12, if_pos rfl]
          · rw [mk] at y; split at y <;> omega
          · rw [mk] at y; split at y <;> omega
          · rw [rd12, if_neg (by decide), rd12, if_neg (by decide), rd12, if_pos rfl]
  have lp : ∀ f j : Nat, ∀ g : PH, j + f = rn isBl (bs.drop i) → onlyI isTk h g → hI g 12 45 24 = nI (i + j) → ∃ h', fX12_reads_l0 45 g = some h' ∧ onlyI isTk h h' ∧ MR bs i h' := by
    intro f
    induction f with
    | zero =>
      intro j g hj og f24
      have hj : i + j = stT bs i := by unfold stT; omega
      rw [hj] at f24
      have mg := m.oI og
      have t2 : hI g 12 45 2 = nI bs.length := (og.1 12 45 2 rfl).trans T.1
      obtain ⟨h', r1, r2⟩ := fin g og f24
      refine ⟨h', wh_done ?_, r2⟩
      show fX12_reads_c0 45 g = _
      unfold fX12_reads_c0
      rw [gd_t (k_45 mg), t2, f24]
      by_cases z : bs.length ≤ stT bs i
      · rw [if_pos (nI_le z (by omega)), r1, mr_t]
      · have hl : stT bs i < bs.length := by omega
        have ne : isBl (bs.getD (stT bs i) 0) = false := rn_drop_end (p := isBl) (bs := bs) (s := i) hl
        unfold isBl at ne
        have ne := of_decide_eq_false ne
        have bb := (ok _ (mem_getD hl)).2
        have rb : hI g 20 46 (stT bs i) = nI (bs.getD (stT bs i) 0) := (og.1 20 46 _ rfl).trans (T.2 _ hl)
        have hin : hK g 46 = 20 ∧ inb (nI (stT bs i)) (hN g 46) := ⟨k_46 mg, by rw [n_46 mg]; exact inbI (by omega) (by decide)⟩
        have ck : Int32.toNatClampNeg (nI (stT bs i)) = stT bs i := nI_clamp (by omega)
        rw [if_neg (nI_ge hl (by omega)), r12_45_1 mg, gs_t, gd_t hin]
        simp only [ck]
        rw [rb, if_neg (show ¬ nI (bs.getD (stT bs i) 0) = (32 : Int32) from fun y => ne (Or.inl ((nI_eq (b := 32) (by omega) (by decide)).mp y))), gs_t, gd_t hin, rb, if_pos (show ¬ nI (bs.getD (stT bs i) 0) = (10 : Int32) from fun y => ne (Or.inr ((nI_eq (b := 10) (by omega) (by decide)).mp y))), r1, mr_t]
    | succ f ih =>
      intro j g hj og f24
      have mg := m.oI og
      have hj1 : j < rn isBl (bs.drop i) := by omega
      have hl : i + j < bs.length := by omega
      have t2 : hI g 12 45 2 = nI bs.length := (og.1 12 45 2 rfl).trans T.1
      have bl : isBl (bs.getD (i + j) 0) = true := rn_drop_at hj1
      unfold isBl at bl
      have bl := of_decide_eq_true bl
      have rb : hI g 20 46 (i + j) = nI (bs.getD (i + j) 0) := (og.1 20 46 _ rfl).trans (T.2 _ hl)
      have hin : hK g 46 = 20 ∧ inb (nI (i + j)) (hN g 46) := ⟨k_46 mg, by rw [n_46 mg]; exact inbI (by omega) (by decide)⟩
      have ck : Int32.toNatClampNeg (nI (i + j)) = i + j := nI_clamp (by omega)
      obtain ⟨h', r1, r2⟩ := ih (j + 1) (sI g 12 45 24 (nI (i + j + 1))) (by omega) (og.tr (onlyI_sI _ _ tk24)) (by rw [rd12, if_pos rfl]; rfl)
      have b39 : fX12_reads_b39 45 g = some (.inl (sI g 12 45 24 (nI (i + j + 1)))) := by
        unfold fX12_reads_b39
        rw [gd_t (k_45 mg), f24, nI_1, lt_t]
      refine ⟨h', wh_step ?_ r1, r2⟩
      show fX12_reads_c0 45 g = _
      unfold fX12_reads_c0
      rw [gd_t (k_45 mg), t2, f24, if_neg (nI_ge hl (by omega)), r12_45_1 mg, gs_t, gd_t hin]
      simp only [ck]
      rw [rb, b39]
      rcases bl with y | y
      · rw [if_pos (by rw [y]; rfl)]
      · rw [if_neg (by rw [y]; decide), gs_t, gd_t hin, rb, if_neg (by rw [y]; decide)]
  exact lp (rn isBl (bs.drop i)) 0 h (by omega) (onlyI.rf _ _) e24
