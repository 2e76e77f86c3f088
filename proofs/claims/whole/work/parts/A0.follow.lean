/-! THE INDEX FOLLOWS a text that changes -/
theorem sub_len : ∀ (ks l : List Nat), ks.Nodup → (∀ w ∈ ks, w ∈ l) → ks.length ≤ l.length
  | [], _, _, _ => Nat.zero_le _
  | k :: ks, l, n, h => by
    have n' := List.nodup_cons.mp n
    have h1 := h k (List.mem_cons_self)
    have := sub_len ks (l.erase k) n'.2 (fun w hw => (List.mem_erase_of_ne (fun (z : w = k) => n'.1 (z ▸ hw))).mpr (h w (List.mem_cons_of_mem _ hw)))
    rw [List.length_erase_of_mem h1] at this
    have := List.length_pos_of_mem h1
    rw [List.length_cons]
    omega
def allL (tx : TX) : Nat → List Nat
  | 0 => []
  | n + 1 => allL tx n ++ (tx n).getD []
theorem allL_len {tx : TX} (o : okX tx) : ∀ n, (allL tx n).length ≤ 40 * n
  | 0 => Nat.le_refl _
  | n + 1 => by
    have := allL_len o n
    have h2 : ((tx n).getD []).length ≤ 40 := by
      cases e : tx n with
      | none => exact Nat.zero_le _
      | some ws => exact (o n ws e).2.1
    rw [allL, List.length_append]
    omega
theorem allL_mem {tx : TX} {t w : Nat} (h : hasT tx t w = true) : ∀ n, t < n → w ∈ allL tx n
  | 0, q => absurd q (Nat.not_lt_zero _)
  | n + 1, q => by
    rw [allL, List.mem_append]
    by_cases z : t = n
    · subst z
      right
      unfold hasT at h
      cases e : tx t with
      | none => rw [e] at h; cases h
      | some ws => rw [e] at h; exact of_decide_eq_true h
    · exact Or.inl (allL_mem h n (by omega))
theorem allW_len {tx : TX} (o : okX tx) {ks : List Nat} (a : allW tx ks) : ks.length ≤ 4000 := by
  have n : ks.Nodup := List.Pairwise.imp (fun {x y} (h : ord x < ord y) z => by rw [z] at h; exact Nat.lt_irrefl _ h) a.1.1
  have := sub_len ks (allL tx 100) n (fun w hw => by
    obtain ⟨t, h1, h2⟩ := (a.2 w).mp hw
    exact allL_mem h2 100 h1)
  have := allL_len o 100
  omega
def updX (tx : TX) (t : Nat) (o : Option (List Nat)) : TX := fun t' => if t' = t then o else tx t'
theorem updX_at (tx : TX) (t : Nat) (o : Option (List Nat)) : updX tx t o t = o := if_pos rfl
theorem updX_ne (tx : TX) {t t' : Nat} (o : Option (List Nat)) (h : t' ≠ t) : updX tx t o t' = tx t' := if_neg h
def okO (o : Option (List Nat)) : Prop := ∀ ws, o = some ws → okT ws
theorem okX.updX {tx : TX} (o : okX tx) {t : Nat} (ht : t < 100) {n : Option (List Nat)} (q : okO n) : okX (updX tx t n) := fun t' ws e => by
  by_cases z : t' = t
  · rw [z, updX_at] at e
    exact ⟨z ▸ ht, q ws e⟩
  · rw [updX_ne tx n z] at e
    exact o t' ws e
def TxA (h : PH) (x : Option Nat) (o : Option (List Nat)) : Prop := match o with
  | none => x = none
  | some ws => okT ws ∧ ∃ a b, x = some a ∧ 89 ≤ a ∧ 89 ≤ b ∧ a < hX h ∧ b < hX h ∧ TextAt h a b ws
theorem TxA.n {h : PH} {x : Option Nat} (A : TxA h x none) : x = none := A
theorem TxA.s {h : PH} {x : Option Nat} {ws : List Nat} (A : TxA h x (some ws)) : okT ws ∧ ∃ a b, x = some a ∧ 89 ≤ a ∧ 89 ≤ b ∧ a < hX h ∧ b < hX h ∧ TextAt h a b ws := A
theorem TxA.chg {F G : Nat → Nat → Nat → Prop} {L : Nat → Prop} {h h' : PH} {y : Option Nat} {o : Option (List Nat)} (A : TxA h y o) (x : chg F G L h h') (f1 : ∀ a, 89 ≤ a → ¬ F 8 a 1) (g1 : ∀ a, 89 ≤ a → ¬ G 8 a 0) (f2 : ∀ b k, 89 ≤ b → ¬ F 20 b k) : TxA h' y o := by
  cases o with
  | none => exact A
  | some ws =>
    obtain ⟨q, a, b, h1, h2, h3, h4, h5, h6⟩ := A.s
    exact ⟨q, a, b, h1, h2, h3, Nat.lt_of_lt_of_le h4 x.1, Nat.lt_of_lt_of_le h5 x.1, h6.chg h4 h5 x (f1 a h2) (g1 a h2) (fun k => f2 b k h3)⟩
theorem lF_8 {l a : Nat} : ¬ lF l 8 a 1 := fun q => absurd q.1 (by decide)
theorem lF_20 {l b k : Nat} : ¬ lF l 20 b k := fun q => absurd q.1 (by decide)
theorem lG_8 {l e a : Nat} : ¬ lG l e 8 a 0 := fun q => q.elim (fun z => absurd z.1 (by decide)) (fun z => absurd z.1 (by decide))
theorem TxA.y {h h' : PH} {e : Nat} {y : Option Nat} {o : Option (List Nat)} (A : TxA h y o) (x : yC e h h') : TxA h' y o := A.chg x (fun _ _ => lF_8) (fun _ _ => lG_8) (fun _ _ _ => lF_20)
theorem TextAt.y {h h' : PH} {e a b : Nat} {ws : List Nat} (T : TextAt h a b ws) (ha : a < hX h) (hb : b < hX h) (x : yC e h h') : TextAt h' a b ws := T.chg ha hb x lF_8 lG_8 (fun _ => lF_20)
def pIn (p : Nat → Nat → Bool) (t : Nat) (ws : List Nat) : Nat → Nat → Bool := fun t' v => decide (t' = t ∧ v ∈ ws) || p t' v
def pOut (p : Nat → Nat → Bool) (t : Nat) (ws : List Nat) (no : Nat → Bool) : Nat → Nat → Bool := fun t' v => !decide (t' = t ∧ v ∈ ws ∧ no v = false) && p t' v
theorem pIn_0 (p : Nat → Nat → Bool) (t : Nat) : pIn p t [] = p := funext fun t' => funext fun v => by
  unfold pIn
  rw [decide_eq_false (fun z => absurd z.2 List.not_mem_nil), Bool.false_or]
theorem pOut_0 (p : Nat → Nat → Bool) (t : Nat) (no : Nat → Bool) : pOut p t [] no = p := funext fun t' => funext fun v => by
  unfold pOut
  rw [decide_eq_false (fun z => absurd z.2.1 List.not_mem_nil)]
  rfl
theorem pIn_s (p : Nat → Nat → Bool) (t : Nat) {ws : List Nat} {j : Nat} (hj : j < ws.length) : pPut (pIn p t (ws.take j)) t (ws.getD j 0) = pIn p t (ws.take (j + 1)) := funext fun t' => funext fun v => by
  unfold pPut pIn
  rw [takeS hj, ← Bool.or_assoc, ← Bool.decide_or]
  congr 1
  refine decide_eq_decide.mpr ?_
  rw [List.mem_append, List.mem_singleton]
  constructor
  · rintro (⟨a, b⟩ | ⟨a, b⟩)
    · exact ⟨a, Or.inr b⟩
    · exact ⟨a, Or.inl b⟩
  · rintro ⟨a, b | b⟩
    · exact Or.inr ⟨a, b⟩
    · exact Or.inl ⟨a, b⟩
theorem pOut_s (p : Nat → Nat → Bool) (t : Nat) {ws : List Nat} {no : Nat → Bool} {j : Nat} (hj : j < ws.length) (n : no (ws.getD j 0) = false) : pTake (pOut p t (ws.take j) no) t (ws.getD j 0) = pOut p t (ws.take (j + 1)) no := funext fun t' => funext fun v => by
  unfold pTake pOut
  rw [takeS hj, ← Bool.and_assoc, ← Bool.not_or, ← Bool.decide_or]
  congr 2
  refine decide_eq_decide.mpr ?_
  rw [List.mem_append, List.mem_singleton]
  constructor
  · rintro (⟨a, b⟩ | ⟨a, b, d⟩)
    · exact ⟨a, Or.inr b, b ▸ n⟩
    · exact ⟨a, Or.inl b, d⟩
  · rintro ⟨a, b | b, d⟩
    · exact Or.inr ⟨a, b, d⟩
    · exact Or.inl ⟨a, b⟩
theorem pOut_t (p : Nat → Nat → Bool) (t : Nat) {ws : List Nat} {no : Nat → Bool} {j : Nat} (hj : j < ws.length) (n : no (ws.getD j 0) = true) : pOut p t (ws.take j) no = pOut p t (ws.take (j + 1)) no := funext fun t' => funext fun v => by
  unfold pOut
  rw [takeS hj]
  congr 2
  refine decide_eq_decide.mpr ?_
  rw [List.mem_append, List.mem_singleton]
  constructor
  · rintro ⟨a, b, d⟩
    exact ⟨a, Or.inl b, d⟩
  · rintro ⟨a, b | b, d⟩
    · exact ⟨a, b, d⟩
    · rw [b, n] at d; cases d
def hasO (o : Option (List Nat)) (v : Nat) : Bool := match o with
  | none => false
  | some ws => decide (v ∈ ws)
theorem hasT_O (tx : TX) (t v : Nat) : hasT tx t v = hasO (tx t) v := rfl
theorem follow_p (tx : TX) (t : Nat) (now : Option (List Nat)) : pOut (pIn (hasT tx) t (now.getD [])) t ((tx t).getD []) (hasO now) = hasT (updX tx t now) := funext fun t' => funext fun v => by
  unfold pOut pIn
  rw [hasT_O, hasT_O]
  by_cases z : t' = t
  · subst z
    rw [updX_at]
    have g : ∀ o : Option (List Nat), hasO o v = decide (v ∈ o.getD []) := fun o => by cases o <;> simp [hasO]
    rw [g, g]
    by_cases a : v ∈ now.getD [] <;> by_cases b : v ∈ (tx t').getD [] <;> simp [a, b]
  · rw [updX_ne tx now z]
    simp [z]
def yRoom (h h' : PH) (e e' n0 j : Nat) : Prop := hX h' ≤ hX h + 3 * j ∧ hN h e ≤ hN h' e' ∧ hV h' + 4 * hN h e ≤ hV h + 4 * hN h' e' + 5 * j ∧ (hN h' e' = hN h e ∨ 2 * hN h' e' ≤ 3 * (n0 + j) + 20) ∧ (e' = e ∨ hX h ≤ e')
theorem follow_l7 {t : Nat} (ht : t < 100) {ws : List Nat} (o : okT ws) {a b n0 : Nat} (h0 : n0 ≤ 4000) (p : Nat → Nat → Bool) (v2 : Option Nat) : ∀ n j : Nat, ∀ (ks : List Nat) (e : Nat) (wa wb : Nat → Nat) (h : PH), j + n = ws.length → CSh h → TextAt h a b ws → a < hX h → b < hX h → IY (pIn p t (ws.take j)) ks e wa wb h → ks.length ≤ n0 + j → ∃ ks' e' wa' wb' h', (∀ r, fX3_follow_b33 16 (nI t) v2 (some a) h' = some r → fX3_follow_l7 16 (nI t) v2 (some a) (nI j) h = some r) ∧ IY (pIn p t ws) ks' e' wa' wb' h' ∧ yC e h h' ∧ ks'.length ≤ n0 + ws.length ∧ ∃ m, m ≤ n ∧ yRoom h h' e e' (n0 + j) m := by
  intro n
  induction n with
  | zero =>
    intro j ks e wa wb h hj c T ha hb Y hl
    have hj : j = ws.length := by omega
    subst hj
    rw [List.take_length] at Y
    refine ⟨ks, e, wa, wb, h, fun r q => ?_, Y, chg.rf _ _ _ _, hl, 0, Nat.le_refl _, by omega, Nat.le_refl _, by omega, Or.inl rfl, Or.inl rfl⟩
    refine wh_done ?_
    show fX3_follow_c7 16 (nI t) v2 (some a) (nI ws.length) h = _
    unfold fX3_follow_c7
    rw [gs_t, gd_t T.1, X8_size_eq T, bd_t, if_pos (Int32.le_refl _), q]
    rfl
  | succ n ih =>
    intro j ks e wa wb h hj c T ha hb Y hl
    have o1 := o.1
    have hj1 : j < ws.length := by omega
    obtain ⟨ks1, e1, wa1, wb1, h1, f1, f2, f3, f4, f5⟩ := enter_eq c Y (o.v hj1) ht (by omega)
    rw [pIn_s p t hj1] at f2
    have c1 : CSh h1 := cs_lG c Y.2.2.2.2.2.2.2.2 f3
    obtain ⟨ks', e', wa', wb', h', g1, g2, g3, g4, m, g5, g6⟩ := ih (j + 1) ks1 e1 wa1 wb1 h1 (by omega) c1 (T.y ha hb f3) (Nat.lt_of_lt_of_le ha f3.1) (Nat.lt_of_lt_of_le hb f3.1) f2 (by omega)
    refine ⟨ks', e', wa', wb', h', fun r q => wh_step (t := (nI (j + 1), h1)) ?_ (g1 r q), g2, f3.tr g3 f4.2.2.2.2, g4, m + 1, by omega, ?_⟩
    · show fX3_follow_c7 16 (nI t) v2 (some a) (nI j) h = _
      unfold fX3_follow_c7
      rw [gs_t, gd_t T.1, X8_size_eq T, bd_t, if_neg (nI_ge hj1 (by omega)), X8_at_eq T o hj1, bd_t, gd_t (k_16 c), f1, bd_t]
      unfold fX3_follow_b27
      rw [nI_1]
    · have b1 := f3.1
      have b2 := g3.1
      obtain ⟨r1, r2, r3, r4, r5⟩ := f4
      obtain ⟨s1, s2, s3, s4, s5⟩ := g6
      exact ⟨by omega, by omega, by omega, by omega, by omega⟩
theorem follow_l40 {t : Nat} (ht : t < 100) {ws : List Nat} (o : okT ws) {a b e : Nat} {wa wb : Nat → Nat} {now : Option (List Nat)} {y : Option Nat} (p : Nat → Nat → Bool) : ∀ n j : Nat, ∀ (ks : List Nat) (h : PH), j + n = ws.length → CSh h → TextAt h a b ws → a < hX h → b < hX h → TxA h y now → IY (pOut p t (ws.take j) (hasO now)) ks e wa wb h → ∃ ks' h', fX3_follow_l40 16 (nI t) (some a) y (nI j) h = some h' ∧ IY (pOut p t ws (hasO now)) ks' e wa wb h' ∧ yC e h h' ∧ hX h' = hX h ∧ hV h' = hV h ∧ hN h' = hN h := by
  intro n
  induction n with
  | zero =>
    intro j ks h hj c T ha hb A Y
    have hj : j = ws.length := by omega
    subst hj
    rw [List.take_length] at Y
    refine ⟨ks, h, ?_, Y, chg.rf _ _ _ _, rfl, rfl, rfl⟩
    refine wh_done ?_
    show fX3_follow_c40 16 (nI t) (some a) y (nI ws.length) h = _
    unfold fX3_follow_c40
    rw [gs_t, gd_t T.1, X8_size_eq T, bd_t, if_pos (Int32.le_refl _)]
    rfl
  | succ n ih =>
    intro j ks h hj c T ha hb A Y
    have o1 := o.1
    have hj1 : j < ws.length := by omega
    have g : fX3_follow_c40 16 (nI t) (some a) y (nI j) h = if hasO now (ws.getD j 0) = true then some (.inl (nI (j + 1), h)) else bd (fX3_strike 16 (nI (ws.getD j 0)) (nI t) h) (fun z => some (.inl (nI (j + 1), z))) := by
      unfold fX3_follow_c40 fX3_follow_b66 fX3_follow_b77
      rw [gs_t, gd_t T.1, X8_size_eq T, bd_t, if_neg (nI_ge hj1 (by omega)), nI_1]
      cases now with
      | none =>
        rw [A.n, mq_nt, gs_t, gd_t T.1, X8_at_eq T o hj1, bd_t, gd_t (k_16 c)]
        rfl
      | some vs =>
        obtain ⟨ov, a2, b2, ea, h1, h2, h3, h4, T2⟩ := A.s
        rw [ea, mq_st, X8_at_eq T o hj1, bd_t, gd_t T2.1, X8_has_eq T2 ov (o.lt hj1), bd_t, gs_t, gd_t T.1, X8_at_eq T o hj1, bd_t, gd_t (k_16 c)]
        by_cases q : ws.getD j 0 ∈ vs
        · rw [decide_eq_true q, if_pos (by decide), if_pos (show hasO (some vs) (ws.getD j 0) = true from decide_eq_true q)]
        · rw [decide_eq_false q, if_neg (by decide), if_neg (show ¬ hasO (some vs) (ws.getD j 0) = true from fun z => q (of_decide_eq_true z))]
    cases q : hasO now (ws.getD j 0) with
    | true =>
      rw [pOut_t p t hj1 q] at Y
      obtain ⟨ks', h', g1, g2, g3, g4⟩ := ih (j + 1) ks h (by omega) c T ha hb A Y
      refine ⟨ks', h', wh_step (t := (nI (j + 1), h)) ?_ g1, g2, g3, g4⟩
      show fX3_follow_c40 16 (nI t) (some a) y (nI j) h = _
      rw [g, if_pos q]
    | false =>
      obtain ⟨ks1, h1, f1, f2, f3, f4, f5, f6, f7⟩ := strike_eq c Y (o.v hj1) ht
      rw [pOut_s p t hj1 q] at f2
      obtain ⟨ks', h', g1, g2, g3, g4, g5, g6⟩ := ih (j + 1) ks1 h1 (by omega) (cs_lG c Y.2.2.2.2.2.2.2.2 f3) (T.y ha hb f3) (Nat.lt_of_lt_of_le ha f3.1) (Nat.lt_of_lt_of_le hb f3.1) (A.y f3) f2
      refine ⟨ks', h', wh_step (t := (nI (j + 1), h1)) ?_ g1, g2, chg.tr f3 g3, by omega, by omega, by rw [g6, f6]⟩
      show fX3_follow_c40 16 (nI t) (some a) y (nI j) h = _
      rw [g, q, if_neg (by decide), f1, bd_t]
theorem follow_eq {tx : TX} {ks : List Nat} {e : Nat} {wa wb : Nat → Nat} {h : PH} (c : CSh h) (o : okX tx) (b : 89 ≤ hX h) (X : IXB tx ks e wa wb h) {t : Nat} (ht : t < 100) {x y : Option Nat} {now : Option (List Nat)} (A : TxA h x (tx t)) (B : TxA h y now) : ∃ ks' e' wa' wb' h', fX3_follow 16 (nI t) x y h = some h' ∧ IXB (updX tx t now) ks' e' wa' wb' h' ∧ yC e h h' ∧ hX h' ≤ hX h + 120 ∧ hV h' ≤ hV h + 8500 ∧ (e' = e ∨ hX h ≤ e') := by
  have on : okO now := fun ws q => by rw [q] at B; exact B.s.1
  have s1 : ∃ ks1 e1 wa1 wb1 h1, (∀ r, fX3_follow_b33 16 (nI t) x y h1 = some r → fX3_follow 16 (nI t) x y h = some r) ∧ IY (pIn (hasT tx) t (now.getD [])) ks1 e1 wa1 wb1 h1 ∧ yC e h h1 ∧ hX h1 ≤ hX h + 120 ∧ hV h1 ≤ hV h + 8500 ∧ (e1 = e ∨ hX h ≤ e1) := by
    have Y := X.IY c o b
    unfold fX3_follow fX3_follow_b0
    cases now with
    | none =>
      rw [B.n]
      exact ⟨ks, e, wa, wb, h, fun r q => q, by rw [show (none : Option (List Nat)).getD [] = [] from rfl, pIn_0]; exact Y, chg.rf _ _ _ _, by omega, by omega, Or.inl rfl⟩
    | some ws =>
      obtain ⟨ow, a, b', ea, h1, h2, h3, h4, T⟩ := B.s
      have l4 := X.1.2.1
      have o40 := ow.1
      obtain ⟨ks1, e1, wa1, wb1, h', f1, f2, f3, f4, m, f5, r1, r2, r3, r4, r5⟩ := follow_l7 ht ow (n0 := ks.length) l4 (hasT tx) x ws.length 0 ks e wa wb h (by omega) c T h3 h4 (by rw [List.take_zero, pIn_0]; exact Y) (by omega)
      have ln := X.1.2.2.2.2.2.1
      refine ⟨ks1, e1, wa1, wb1, h', fun r q => ?_, f2, f3, by omega, by omega, r5⟩
      rw [ea] at q ⊢
      rw [mq_st]
      exact f1 r q
  obtain ⟨ks1, e1, wa1, wb1, h1, f1, f2, f3, f4, f5, f6⟩ := s1
  have c1 := cs_lG c b f3
  have A1 := A.y f3
  have B1 := B.y f3
  have fin : ∀ {ks2 : List Nat} {h2 : PH}, IY (pOut (pIn (hasT tx) t (now.getD [])) t ((tx t).getD []) (hasO now)) ks2 e1 wa1 wb1 h2 → IXB (updX tx t now) ks2 e1 wa1 wb1 h2 := fun {ks2 h2} q => by
    rw [follow_p] at q
    exact q.IXB (allW_len (o.updX ht on) q.1)
  cases q : tx t with
  | none =>
    rw [q] at A1 fin
    refine ⟨ks1, e1, wa1, wb1, h1, f1 _ ?_, fin (by rw [show (none : Option (List Nat)).getD [] = [] from rfl, pOut_0]; exact f2), f3, f4, f5, f6⟩
    unfold fX3_follow_b33
    rw [A1.n]
    rfl
  | some ws =>
    rw [q] at A1 fin
    obtain ⟨ow, a, b', ea, h1', h2, h3, h4, T⟩ := A1.s
    obtain ⟨ks2, h2, g1, g2, g3, g4, g5, g6⟩ := follow_l40 ht ow (now := now) (y := y) (pIn (hasT tx) t (now.getD [])) ws.length 0 ks1 h1 (by omega) c1 T h3 h4 B1 (by rw [List.take_zero, pOut_0]; exact f2)
    refine ⟨ks2, e1, wa1, wb1, h2, f1 _ ?_, fin g2, f3.tr g3 f6, by omega, by omega, f6⟩
    unfold fX3_follow_b33
    rw [ea, mq_st]
    exact g1
