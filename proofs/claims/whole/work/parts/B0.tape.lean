/-! THE CLASS READS A TEXT from the tape -/
def ltb (b : Nat) : Nat := if 97 ≤ b ∧ b ≤ 122 then b - 96 else if 65 ≤ b ∧ b ≤ 90 then b - 64 else 0
def rdT : List Nat → Nat → Nat → Nat → List Nat → Nat ⊕ List Nat
  | [], _, k, n, acc => .inr (if k = 0 then acc else acc ++ [n])
  | b :: bs, i, k, n, acc => if ltb b = 0 then rdT bs (i + 1) 0 0 (if k = 0 then acc else acc ++ [n]) else if 6 < k + 1 ∨ acc.length = 40 then .inl (i - k) else rdT bs (i + 1) (k + 1) (n * 27 + ltb b) acc
theorem ltb_le (b : Nat) : ltb b ≤ 26 := by
  unfold ltb
  split
  · omega
  · split <;> omega
theorem sub1 {a b : Nat} (h : b ≤ a) : nI a - nI b + 1 = nI (a - b + 1) := by rw [pk_sub h, nI_1]
theorem lAt_eq {b : Nat} (hb : b < 256) : fX7_letterAtByte (nI b) = some (nI (ltb b)) := by
  have lt : ∀ {x y : Nat}, x < y → y < 2 ^ 31 → nI x < nI y := fun h1 h2 => nI_lt h1 h2
  have ge : ∀ {x y : Nat}, y ≤ x → x < 2 ^ 31 → ¬ nI x < nI y := fun h1 h2 => Int32.not_lt.mpr (nI_le h1 h2)
  unfold fX7_letterAtByte fX7_letterAtByte_b19 fX7_letterAtByte_b40 fX7_letterAtByte_b41 ltb
  rw [show (97 : Int32) = nI 97 from rfl, show (122 : Int32) = nI 122 from rfl, show (65 : Int32) = nI 65 from rfl, show (90 : Int32) = nI 90 from rfl]
  have low : (if nI b < nI 65 then some (0 : Int32) else if nI 90 < nI b then some 0 else some (nI b - nI 65 + 1)) = some (nI (if 65 ≤ b ∧ b ≤ 90 then b - 64 else 0)) := by
    by_cases h1 : b < 65
    · rw [if_pos (lt h1 (by decide)), if_neg (by omega)]; rfl
    · rw [if_neg (ge (by omega) (by omega))]
      by_cases h2 : 90 < b
      · rw [if_pos (lt h2 (by omega)), if_neg (by omega)]; rfl
      · rw [if_neg (ge (by omega) (by decide)), if_pos (by omega), sub1 (by omega), show b - 65 + 1 = b - 64 by omega]
  by_cases h1 : b < 97
  · rw [if_pos (lt h1 (by decide)), if_neg (show ¬ (97 ≤ b ∧ b ≤ 122) by omega)]
    exact low
  · rw [if_neg (ge (by omega) (by omega))]
    by_cases h2 : 122 < b
    · rw [if_pos (lt h2 (by omega)), if_neg (show ¬ (97 ≤ b ∧ b ≤ 122) by omega)]
      exact low
    · rw [if_neg (ge (by omega) (by decide)), if_pos (show 97 ≤ b ∧ b ≤ 122 by omega), sub1 (by omega), show b - 97 + 1 = b - 96 by omega]
def lwd (k n : Nat) : Prop := (k = 0 ∧ n = 0) ∨ (k ≠ 0 ∧ vword n = true ∧ n < 27 ^ k)
theorem dz_pred : ∀ m n : Nat, dz (m + 1) n = true → dz m n = true
  | 0, _, _ => rfl
  | m + 1, n, h => by
    unfold dz at h ⊢
    by_cases e : n = 0
    · rw [if_pos e]
    · rw [if_neg e] at h ⊢
      rw [Bool.and_eq_true] at h ⊢
      exact ⟨h.1, dz_pred m _ h.2⟩
theorem lwd_s {k n l : Nat} (h : lwd k n) (hk : k < 6) (h1 : l ≠ 0) (h2 : l ≤ 26) : lwd (k + 1) (n * 27 + l) := by
  have hn : n < 27 ^ k ∧ dz 6 n = true := by
    rcases h with ⟨rfl, rfl⟩ | ⟨_, a, b⟩
    · exact ⟨by decide, rfl⟩
    · refine ⟨b, ?_⟩
      simp only [vword, Bool.and_eq_true, decide_eq_true_eq] at a
      exact a.2.2
  have e1 : n * 27 + l < 27 ^ (k + 1) := by
    rw [Nat.pow_succ]
    have := hn.1
    omega
  have e2 : 27 ^ (k + 1) ≤ 27 ^ 6 := Nat.pow_le_pow_right (by decide) (by omega)
  have e3 : (n * 27 + l) % 27 = l := by omega
  have e4 : (n * 27 + l) / 27 = n := by omega
  refine Or.inr ⟨Nat.succ_ne_zero _, ?_, e1⟩
  have d6 : dz 6 (n * 27 + l) = true := by
    show (if n * 27 + l = 0 then true else decide ((n * 27 + l) % 27 ≠ 0) && dz 5 ((n * 27 + l) / 27)) = true
    rw [if_neg (by omega), e3, e4, decide_eq_true h1, dz_pred 5 n hn.2]
    rfl
  unfold vword
  rw [d6, decide_eq_true (show 1 ≤ n * 27 + l by omega), decide_eq_true (show n * 27 + l < 27 ^ 6 by omega)]
  rfl
theorem lwd_b {k n : Nat} (h : lwd k n) (hk : k ≤ 6) : n < 27 ^ 6 := by
  rcases h with ⟨_, rfl⟩ | ⟨_, _, b⟩
  · decide
  · exact Nat.lt_of_lt_of_le b (Nat.pow_le_pow_right (by decide) hk)
theorem okT.add {ws : List Nat} (o : okT ws) (h : ws.length < 40) {n : Nat} (hn : vword n = true) : okT (ws ++ [n]) := ⟨by rw [List.length_append]; exact h, fun w hw => by
  rcases List.mem_append.mp hw with z | z
  · exact o.2 w z
  · rw [List.mem_singleton.mp z]; exact hn⟩
theorem NT.push {h0 g : PH} {acc : List Nat} (N : NT h0 acc g) (hl : acc.length < 40) (w : Nat) : ∃ g', fX8_add (hX h0) (nI w) g = some g' ∧ NT h0 (acc ++ [w]) g' := by
  have e1 : (acc ++ [w]).take acc.length = acc := List.take_left ..
  have e2 : (acc ++ [w]).length = acc.length + 1 := List.length_append ..
  obtain ⟨g', f1, f2⟩ := NT.add (t := acc ++ [w]) (j := acc.length) (by rw [e1]; exact N) (by omega) (by omega)
  rw [getD_end] at f1
  rw [List.take_of_length_le (by omega)] at f2
  exact ⟨g', f1, f2⟩
def RS (r : Nat ⊕ List Nat) (v : Int32) (h h' : PH) : Prop := match r with
  | .inl p => v = nI p ∧ p < 300
  | .inr ws => v = -1 ∧ okT ws ∧ TextAt h' (hX h) (hX h + 1) ws
theorem CSh.nc {h h' : PH} (c : CSh h) (b : 89 ≤ hX h) (x : nc h h') : CSh h' := c.chg b x (fun _ _ z => z)
theorem fill_l {h : PH} (c : CSh h) (b : 89 ≤ hX h) {bs : List Nat} (T : TC bs h) (ok : okB bs) (l3 : bs.length ≤ 300) : ∀ f i k n acc g, i + f = bs.length → lwd k n → k ≤ 6 → k ≤ i → okT acc → (k ≠ 0 → acc.length < 40) → NT h acc g → ∃ v h', fX7_fillText_l7 11 (some (hX h)) (nI k) (nI n) (nI i) g = some (v, h') ∧ nc h h' ∧ hX h' = hX h + 2 ∧ hV h' = hV h + 42 ∧ RS (rdT (bs.drop i) i k n acc) v h h' := by
  intro f
  induction f with
  | zero =>
    intro i k n acc g hi hw hk hki oa ha N
    have hi : i = bs.length := by omega
    subst hi
    have cg := c.nc b N.1
    have e7 : hI g 7 11 1 = nI bs.length := (N.1.2.1 7 11 1 (by omega) (fun z => z)).trans T.1
    rw [List.drop_length, rdT]
    have st : fX7_fillText_c7 11 (some (hX h)) (nI k) (nI n) (nI bs.length) g = mr (if (nI k ≤ 0) then fX7_fillText_b97 g else gs (some (hX h)) (fun a4 => gd (hK g a4 = 8) (bd (fX8_add a4 (nI n) g) (fun z7 => fX7_fillText_b97 z7)))) := by
      unfold fX7_fillText_c7
      rw [gd_t (k_11 cg), e7, if_pos (Int32.le_refl _)]
    by_cases z : k = 0
    · subst z
      refine ⟨-1, g, wh_done ?_, N.1, N.2.1, N.2.2.1, ?_⟩
      · show fX7_fillText_c7 11 (some (hX h)) (nI 0) (nI n) (nI bs.length) g = _
        rw [st, if_pos (show nI 0 ≤ (0 : Int32) by decide)]
        rfl
      · rw [if_pos rfl]
        exact ⟨rfl, oa, N.2.2.2⟩
    · obtain ⟨g', f1, f2⟩ := N.push (ha z) n
      refine ⟨-1, g', wh_done ?_, f2.1, f2.2.1, f2.2.2.1, ?_⟩
      · show fX7_fillText_c7 11 (some (hX h)) (nI k) (nI n) (nI bs.length) g = _
        rw [st, if_neg (show ¬ nI k ≤ (0 : Int32) from show ¬ nI k ≤ nI 0 from nI_ge (by omega) (by omega)), gs_t, gd_t N.2.2.2.1, f1]
        rfl
      · rw [if_neg z]
        rcases hw with w | w
        · exact absurd w.1 z
        · exact ⟨rfl, oa.add (ha z) w.2.1, f2.2.2.2⟩
  | succ f ih =>
    intro i k n acc g hi hw hk hki oa ha N
    have hi1 : i < bs.length := by omega
    have cg := c.nc b N.1
    have e7 : hI g 7 11 1 = nI bs.length := (N.1.2.1 7 11 1 (by omega) (fun z => z)).trans T.1
    have e20 : hI g 20 12 i = nI (bs.getD i 0) := (N.1.2.1 20 12 i (by omega) (fun z => z)).trans (T.2 i hi1)
    have ck : Int32.toNatClampNeg (nI i) = i := nI_clamp (by omega)
    have bb := (ok _ (mem_getD hi1)).2
    have l26 := ltb_le (bs.getD i 0)
    have nb := lwd_b hw hk
    rw [dropS hi1, rdT]
    have st : fX7_fillText_c7 11 (some (hX h)) (nI k) (nI n) (nI i) g = (if (¬ nI (ltb (bs.getD i 0)) = 0) then (if ((6 : Int32) < (nI k + 1)) then (mr (fX7_fillText_b75 (nI k + 1) (nI i) g)) else
  gs (some (hX h)) (fun a15 =>
  gd (hK g a15 = 8) (bd (fX8_size a15 g) (fun z18 =>
  if (¬ z18 = (40 : Int32)) then (fX7_fillText_b82 11 (some a15) (nI k + 1) ((nI n * (27 : Int32)) + nI (ltb (bs.getD i 0))) (nI i) g) else
  mr (fX7_fillText_b75 (nI k + 1) (nI i) g))))) else
  if (nI k ≤ 0) then (fX7_fillText_b42 11 (some (hX h)) (nI i) g) else
  gs (some (hX h)) (fun a21 =>
  gd (hK g a21 = 8) (bd (fX8_add a21 (nI n) g) (fun z24 =>
  fX7_fillText_b42 11 (some a21) (nI i) z24)))) := by
      unfold fX7_fillText_c7
      rw [gd_t (k_11 cg), e7, if_neg (nI_ge hi1 (by omega)), r7_11_0 cg, gs_t, gd_t ⟨k_12 cg, by rw [n_12 cg]; exact inbI (by omega) (by decide)⟩]
      simp only [ck]
      rw [e20, lAt_eq bb, bd_t]
    by_cases z : ltb (bs.getD i 0) = 0
    · rw [if_pos z]
      rw [z, if_neg (show ¬ ¬ nI 0 = 0 from fun y => y rfl)] at st
      by_cases y : k = 0
      · subst y
        rw [if_pos rfl]
        obtain ⟨v, h', r⟩ := ih (i + 1) 0 0 acc g (by omega) (Or.inl ⟨rfl, rfl⟩) (by decide) (Nat.zero_le _) oa (fun q => absurd rfl q) N
        refine ⟨v, h', wh_step (t := (0, 0, nI (i + 1), g)) ?_ r.1, r.2⟩
        show fX7_fillText_c7 11 (some (hX h)) (nI 0) (nI n) (nI i) g = _
        rw [st, if_pos (show nI 0 ≤ (0 : Int32) by decide)]
        unfold fX7_fillText_b42 fX7_fillText_b82
        rw [nI_1]
      · rw [if_neg y]
        obtain ⟨g', f1, f2⟩ := N.push (ha y) n
        have vn : vword n = true := by
          rcases hw with w | w
          · exact absurd w.1 y
          · exact w.2.1
        obtain ⟨v, h', r⟩ := ih (i + 1) 0 0 (acc ++ [n]) g' (by omega) (Or.inl ⟨rfl, rfl⟩) (by decide) (Nat.zero_le _) (oa.add (ha y) vn) (fun q => absurd rfl q) f2
        refine ⟨v, h', wh_step (t := (0, 0, nI (i + 1), g')) ?_ r.1, r.2⟩
        show fX7_fillText_c7 11 (some (hX h)) (nI k) (nI n) (nI i) g = _
        rw [st, if_neg (show ¬ nI k ≤ (0 : Int32) from show ¬ nI k ≤ nI 0 from nI_ge (by omega) (by omega)), gs_t, gd_t N.2.2.2.1, f1, bd_t]
        unfold fX7_fillText_b42 fX7_fillText_b82
        rw [nI_1]
    · rw [if_neg z]
      have zi : ¬ nI (ltb (bs.getD i 0)) = 0 := fun y => z ((nI_eq (b := 0) (by omega) (by decide)).mp y)
      rw [if_pos zi, nI_1] at st
      have pos1 : fX7_fillText_b75 (nI (k + 1)) (nI i) g = some (nI (i - k), g) := by
        unfold fX7_fillText_b75
        rw [Int32.sub_eq_add_neg, Int32.add_assoc, Int32.add_comm (-_) 1, ← Int32.add_assoc, ← Int32.sub_eq_add_neg, nI_1, pk_sub (by omega), Nat.add_sub_add_right]
      by_cases y : 6 < k + 1
      · rw [if_pos (Or.inl y)]
        refine ⟨nI (i - k), g, wh_done ?_, N.1, N.2.1, N.2.2.1, rfl, by omega⟩
        show fX7_fillText_c7 11 (some (hX h)) (nI k) (nI n) (nI i) g = _
        rw [st, if_pos (show (6 : Int32) < nI (k + 1) from nI_lt (a := 6) y (by omega)), pos1]
        rfl
      · rw [if_neg (show ¬ (6 : Int32) < nI (k + 1) from Int32.not_lt.mpr (nI_le (b := 6) (by omega) (by decide))), gs_t, gd_t N.2.2.2.1, X8_size_eq N.2.2.2, bd_t] at st
        by_cases q : acc.length = 40
        · rw [if_pos (Or.inr q)]
          refine ⟨nI (i - k), g, wh_done ?_, N.1, N.2.1, N.2.2.1, rfl, by omega⟩
          show fX7_fillText_c7 11 (some (hX h)) (nI k) (nI n) (nI i) g = _
          rw [st, q, if_neg (show ¬ ¬ nI 40 = (40 : Int32) from fun w => w rfl), pos1]
          rfl
        · have o1 := oa.1
          rw [if_neg (show ¬ (6 < k + 1 ∨ acc.length = 40) from fun w => w.elim y q)]
          obtain ⟨v, h', r⟩ := ih (i + 1) (k + 1) (n * 27 + ltb (bs.getD i 0)) acc g (by omega) (lwd_s hw (by omega) z l26) (by omega) (by omega) oa (fun _ => by omega) N
          refine ⟨v, h', wh_step (t := (nI (k + 1), nI (n * 27 + ltb (bs.getD i 0)), nI (i + 1), g)) ?_ r.1, r.2⟩
          show fX7_fillText_c7 11 (some (hX h)) (nI k) (nI n) (nI i) g = _
          rw [st, if_pos (show ¬ nI acc.length = (40 : Int32) from fun w => q ((nI_eq (b := 40) (by omega) (by decide)).mp w))]
          unfold fX7_fillText_b82
          rw [nI_1, show (27 : Int32) = nI 27 from rfl, pk_mul, nI_add]
def FT (c a k : Nat) : Prop := c = 7 ∧ a = 11 ∧ (k = 1 ∨ k = 2)
def rdV (r : Nat ⊕ List Nat) : Int32 := match r with
  | .inl p => nI p
  | .inr _ => -1
theorem takeText_eq {h : PH} (c : CSh h) (b : 89 ≤ hX h) {bs : List Nat} (T : TC bs h) (ok : okB bs) (l3 : bs.length ≤ 300) : ∃ x h', fX7_takeText 11 h = some (x, h') ∧ chg FT GX (fun _ => False) h h' ∧ hX h' = hX h + 2 ∧ hV h' = hV h + 42 ∧ hI h' 7 11 1 = 0 ∧ hI h' 7 11 2 = rdV (rdT bs 0 0 0 []) ∧ match rdT bs 0 0 0 [] with
    | .inl p => x = none ∧ p < 300
    | .inr ws => TxA h' x (some ws) := by
  obtain ⟨g0, f1, f2⟩ := newText_eq h
  obtain ⟨v, g, w1, w2, w3, w4, w5⟩ := fill_l c b T ok l3 bs.length 0 0 0 [] g0 (by omega) (Or.inl ⟨rfl, rfl⟩) (by decide) (Nat.le_refl _) ⟨Nat.zero_le _, fun w hw => absurd hw List.not_mem_nil⟩ (fun q => absurd rfl q) f2
  rw [List.drop_zero] at w5
  have cg0 := c.nc b f2.1
  have cg := c.nc b w2
  have o1 : onlyI (fun c a k => c == 7 && a == 11 && (k == 1 || k == 2)) g (sI (sI g 7 11 1 0) 7 11 2 v) := (onlyI_sI _ _ rfl).tr (onlyI_sI _ _ rfl)
  have ef : fX7_finish 11 v g = some (sI (sI g 7 11 1 0) 7 11 2 v) := by
    unfold fX7_finish
    rw [gd_t (k_11 cg), lt_t, lt_t]
  have xx : chg FT GX (fun _ => False) h (sI (sI g 7 11 1 0) 7 11 2 v) := ((w2.mono (fun _ _ _ _ z => z.elim) (fun _ _ _ _ z => z.elim) (fun _ _ z => z)).aI 0 (fun _ => ⟨rfl, rfl, Or.inl rfl⟩)).aI v (fun _ => ⟨rfl, rfl, Or.inr rfl⟩)
  have x1 : hI (sI (sI g 7 11 1 0) 7 11 2 v) 7 11 1 = 0 := by rw [hI_sI, if_neg (by simp), hI_sI, if_pos ⟨rfl, rfl, rfl⟩]
  have x2 : hI (sI (sI g 7 11 1 0) 7 11 2 v) 7 11 2 = v := by rw [hI_sI, if_pos ⟨rfl, rfl, rfl⟩]
  have st : fX7_takeText 11 h = if ¬ v = (-1 : Int32) then some (none, sI (sI g 7 11 1 0) 7 11 2 v) else some (some (hX h), sI (sI g 7 11 1 0) 7 11 2 v) := by
    unfold fX7_takeText fX7_takeText_b0 fX7_takeText_b3 fX7_takeText_b7 fX7_takeText_b29 fX7_fillText
    rw [f1, bd_t, gd_t (k_11 cg0), show fX7_fillText_l7 11 (some (hX h)) 0 0 0 g0 = some (v, g) from w1, bd_t, gd_t (k_11 cg), ef, bd_t]
  cases e : rdT bs 0 0 0 [] with
  | inl p =>
    rw [e] at w5
    obtain ⟨q1, q2⟩ := w5
    refine ⟨none, _, ?_, xx, w3, w4, x1, by rw [x2, q1]; rfl, rfl, q2⟩
    rw [st, if_pos (by rw [q1]; exact nI_nm1 (by omega))]
  | inr ws =>
    rw [e] at w5
    obtain ⟨q1, q2, q3⟩ := w5
    refine ⟨some (hX h), _, ?_, xx, w3, w4, x1, by rw [x2, q1]; rfl, q2, hX h, hX h + 1, rfl, b, by omega, by rw [show hX (sI (sI g 7 11 1 0) 7 11 2 v) = hX g from rfl]; omega, by rw [show hX (sI (sI g 7 11 1 0) 7 11 2 v) = hX g from rfl]; omega, ?_⟩
    · rw [st, if_neg (by rw [q1]; exact fun z => z rfl)]
    · exact ⟨o1.2.2.2.1 ▸ q3.1, (o1.1 8 _ 1 rfl).trans q3.2.1, o1.2.1 ▸ q3.2.2.1, o1.2.2.2.1 ▸ q3.2.2.2.1, o1.2.2.2.2.1 ▸ q3.2.2.2.2.1, fun i hi => (o1.1 20 _ i rfl).trans (q3.2.2.2.2.2 i hi)⟩
