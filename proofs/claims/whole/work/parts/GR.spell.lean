/-! THE CLASS WRITES numbers and simple parts -/
theorem app_l {cs as : List Nat} {i : Nat} (h : i < cs.length) : (cs ++ as).getD i 0 = cs.getD i 0 := by
  rw [List.getD_eq_getElem?_getD, List.getD_eq_getElem?_getD, List.getElem?_append_left h]
theorem app_r {cs as : List Nat} {i : Nat} (h : cs.length ≤ i) : (cs ++ as).getD i 0 = as.getD (i - cs.length) 0 := by
  rw [List.getD_eq_getElem?_getD, List.getD_eq_getElem?_getD, List.getElem?_append_right h]
theorem SB.ex {h h' : PH} {cs add : List Nat} {v : Nat} (S : SB cs v h) (e0 : hR h' = hR h) (eK : hK h' = hK h) (eN : hN h' = hN h) (eX : hX h' = hX h) (e1 : hI h' 13 43 1 = 0) (e3 : hI h' 13 43 3 = nI (cs.length + add.length)) (hr : cs.length + add.length ≤ hN h v) (lt : ∀ x ∈ add, x < 128) (rd : ∀ i, hI h' 22 v i = if cs.length ≤ i ∧ i < cs.length + add.length then nI (add.getD (i - cs.length) 0) else hI h 22 v i) : SB (cs ++ add) v h' := by
  obtain ⟨s1, s2, s3, s4, s5, s6, s7, s8, s9, s10⟩ := S
  refine ⟨by rw [e0]; exact s1, by rw [eK]; exact s2, e1, by rw [e3, List.length_append], by rw [List.length_append, eN]; exact hr, by rw [eX]; exact s6, s7, by rw [eN]; exact s8, fun i hi => ?_, fun i hi => ?_⟩
  · rw [rd]
    by_cases d : cs.length ≤ i ∧ i < cs.length + add.length
    · rw [if_pos d]
      exact ⟨_, lt _ (mem_getD (by omega)), rfl⟩
    · rw [if_neg d]
      rw [eN] at hi
      exact s9 i hi
  · rw [List.length_append] at hi
    rw [rd]
    by_cases d : cs.length ≤ i
    · rw [if_pos ⟨d, hi⟩, app_r d]
    · rw [if_neg (fun z => d z.1), app_l (by omega)]
      exact s10 i (by omega)
theorem appendInt_eq {h : PH} (c : CSh h) (b : 89 ≤ hX h) {cs : List Nat} {v : Nat} (S : SB cs v h) (hl : cs.length + 2 < 3990) {m : Nat} (hm : m ≤ 40) : ∃ v' h', fJ4_append_bf812 43 (nI m) h = some (some 43, h') ∧ wrt h h' v v' cs (spD m) := by
  have s5 := S.2.2.2.2.1
  have g := getC m (by omega)
  obtain ⟨g1, g2, g3, g4, g5⟩ := g
  have ls : (spD m).length = if 9 < m then 2 else 1 := by
    unfold spD
    split <;> rfl
  have l12 : (spD m).length = 1 ∨ (spD m).length = 2 := by
    rw [ls]
    split
    · exact Or.inr rfl
    · exact Or.inl rfl
  obtain ⟨v1, h1, e1, S1, e2, e3, e4, e5⟩ := ensure_eq c b S (m := cs.length + (spD m).length) (by omega) (by omega)
  have c1 : CSh h1 := c.chg b e3 (fun q hq z => sCR_13 q hq z.1)
  obtain ⟨t1, t2, t3, t4, t5, t6, t7, t8, t9, t10⟩ := id S1
  have v43 : v1 ≠ 43 := by omega
  -- what is changed at last
  have fin : ∀ h', onlyI (fun c a k => (c == 13 && a == 43 && k == 3) || (c == 22 && a == v1)) h1 h' → SB (cs ++ spD m) v1 h' → wrt h h' v v1 cs (spD m) := fun h' o S' => by
    have x7 : hX h' = hX h1 := o.2.2.2.2.2.1
    have v7 : hV h' = hV h1 := o.2.2.2.2.2.2
    have n7 : hN h' = hN h1 := o.2.2.2.2.1
    have ex : v1 = v ∨ hX h ≤ v1 := e4.2.2.2.2
    refine ⟨S', chg.tr2 e3 (chg_I o (F' := FSb v1) (G := GSb) (L := fun _ => False) (fun c a k z => ?_)) (fun c a k ha z => ?_) (fun _ _ _ _ z => z) (fun _ _ z => z), fun h16 => ?_, ?_, ?_, ?_, ex⟩
    · rw [Bool.or_eq_true, Bool.and_eq_true, Bool.and_eq_true, Bool.and_eq_true, beq_iff_eq, beq_iff_eq, beq_iff_eq, beq_iff_eq, beq_iff_eq] at z
      rcases z with z | z
      · exact Or.inl z.1
      · exact Or.inr z
    · rcases z with z | z
      · exact Or.inl z
      · rcases ex with y | y
        · exact Or.inr ⟨z.1, by rw [z.2, y]⟩
        · have := z.2; omega
    · rw [x7, n7]
      rcases e5 with z | z <;> omega
    · rw [n7]; exact e4.2.1
    · rw [v7, n7]; exact e4.2.2.1
    · rw [n7]; exact e4.2.2.2.1
  have st : ∀ w, fJ6_getChars_ba4f3 (nI m) (nI (cs.length + (spD m).length)) (some v1) h1 = some (nI cs.length, w) → hK w 43 = 13 → fJ4_append_bf812 43 (nI m) h = some (some 43, sI w 13 43 3 (nI (cs.length + (spD m).length))) := fun w hw kw => by
    unfold fJ4_append_bf812 fJ4_append_bf812_b0 fJ4_append_bf812_b5 fJ5_append_c97b9 fJ5_append_c97b9_b0 fJ5_append_c97b9_b17 fJ5_isLatin1_aae02 fJ5_isLatin1_aae02_b18
    rw [gd_t (k_43 c), stringSize_eq hm, bd_t, S.2.2.2.1, nI_add, ← ls, e1, bd_t, gd_t (k_43 c1), if_neg (show ¬ (1 : Int32) = 0 by decide), gd_t (k_43 c1), t3, if_neg (fun z => z rfl), gd_t (show (1 : Int32) &&& 1 = 1 by decide), bd_t, if_neg (show ¬ (1 : Int32) = 0 by decide), t1, hw, bd_t, gd_t kw, lt_t, gd_t (k_43 c), bd_t]
  have gc0 : fJ6_getChars_ba4f3 (nI m) (nI (cs.length + (spD m).length)) (some v1) h1 = fJ6_getChars_ba4f3_l22 (-(nI m)) (some v1) (nI (cs.length + (spD m).length)) 0 h1 := by
    unfold fJ6_getChars_ba4f3 fJ6_getChars_ba4f3_b12
    rw [if_pos (show (0 : Int32) ≤ nI m from show nI 0 ≤ nI m from nI_le (Nat.zero_le _) (by omega)), if_neg (fun z => z rfl)]
  have in1 : ∀ i, i < cs.length + (spD m).length → inb (nI i) (hN h1 v1) := fun i hi => inbI (by omega) (by omega)
  by_cases z : 9 < m
  · have l2 : (spD m).length = 2 := by rw [ls, if_pos z]
    have sd : spD m = [48 + m / 10, 48 + m % 10] := if_pos z
    have c0 : Int32.toNatClampNeg (nI cs.length) = cs.length := nI_clamp (by omega)
    have c1' : Int32.toNatClampNeg (nI (cs.length + 1)) = cs.length + 1 := nI_clamp (by omega)
    have gw : fJ6_getChars_ba4f3 (nI m) (nI (cs.length + (spD m).length)) (some v1) h1 = some (nI cs.length, sI (sI h1 22 v1 (cs.length + 1) (nI (48 + m % 10))) 22 v1 cs.length (nI (48 + m / 10))) := by
      rw [gc0, l2]
      unfold fJ6_getChars_ba4f3_l22
      refine wh_done ?_
      show fJ6_getChars_ba4f3_c22 (-(nI m)) (some v1) (nI (cs.length + 2)) 0 h1 = _
      unfold fJ6_getChars_ba4f3_c22 fJ6_getChars_ba4f3_b104 fJ6_getChars_ba4f3_b118
      rw [if_pos g1, gd_t g2, gs_t, show nI (cs.length + 2) + (-1) = nI (cs.length + 1) from pk_m1 (cs.length + 1), gd_t ⟨t2, in1 (cs.length + 1) (by omega)⟩, lt_t, if_neg (show ¬ (-9 : Int32) ≤ -(nI m) from fun y => (g5.mp y) z), gd_t g2, pk_m1, gd_t (show inb (nI cs.length) (hN (sI h1 22 v1 (Int32.toNatClampNeg (nI (cs.length + 1))) _) v1) from in1 cs.length (by omega)), lt_t, if_pos rfl, mr_t, c0, c1', g3, g4]
    refine ⟨v1, _, st _ gw (k_43 c1), fin _ ?_ (S1.ex rfl rfl rfl rfl ?_ ?_ e2 (fun x hx => ?_) (fun i => ?_))⟩
    · exact ((onlyI_sI (F := fun c a k => (c == 13 && a == 43 && k == 3) || (c == 22 && a == v1)) h1 _ (by simp)).tr (onlyI_sI _ _ (by simp))).tr (onlyI_sI _ _ rfl)
    · rw [hI_sI, if_neg (by simp), hI_sI, if_neg (by simp), hI_sI, if_neg (by simp)]; exact t3
    · rw [hI_sI, if_pos ⟨rfl, rfl, rfl⟩]
    · rw [sd] at hx
      rcases List.mem_cons.mp hx with q | q
      · omega
      · rw [List.mem_singleton.mp q]; omega
    · rw [l2, sd, hI_sI, if_neg (fun q => absurd q.1 (by decide)), hI_sI, hI_sI]
      by_cases d1 : i = cs.length
      · rw [if_pos ⟨rfl, rfl, d1⟩, if_pos ⟨by omega, by omega⟩, show i - cs.length = 0 by omega]
        rfl
      · rw [if_neg (fun q => d1 q.2.2)]
        by_cases d2 : i = cs.length + 1
        · rw [if_pos ⟨rfl, rfl, d2⟩, if_pos ⟨by omega, by omega⟩, show i - cs.length = 1 by omega]
          rfl
        · rw [if_neg (fun q => d2 q.2.2), if_neg (fun q => by omega)]
  · have l1 : (spD m).length = 1 := by rw [ls, if_neg z]
    have sd : spD m = [48 + m] := if_neg z
    have c0 : Int32.toNatClampNeg (nI cs.length) = cs.length := nI_clamp (by omega)
    have m10 : m % 10 = m := Nat.mod_eq_of_lt (by omega)
    rw [m10] at g3
    have gw : fJ6_getChars_ba4f3 (nI m) (nI (cs.length + (spD m).length)) (some v1) h1 = some (nI cs.length, sI h1 22 v1 cs.length (nI (48 + m))) := by
      rw [gc0, l1]
      unfold fJ6_getChars_ba4f3_l22
      refine wh_done ?_
      show fJ6_getChars_ba4f3_c22 (-(nI m)) (some v1) (nI (cs.length + 1)) 0 h1 = _
      unfold fJ6_getChars_ba4f3_c22 fJ6_getChars_ba4f3_b104 fJ6_getChars_ba4f3_b118
      rw [if_pos g1, gd_t g2, gs_t, pk_m1, gd_t ⟨t2, in1 cs.length (by omega)⟩, lt_t, if_pos (show (-9 : Int32) ≤ -(nI m) from g5.mpr z), if_pos rfl, mr_t, c0, g3]
    refine ⟨v1, _, st _ gw (k_43 c1), fin _ ?_ (S1.ex rfl rfl rfl rfl ?_ ?_ e2 (fun x hx => ?_) (fun i => ?_))⟩
    · exact (onlyI_sI (F := fun c a k => (c == 13 && a == 43 && k == 3) || (c == 22 && a == v1)) h1 _ (by simp)).tr (onlyI_sI _ _ rfl)
    · rw [hI_sI, if_neg (by simp), hI_sI, if_neg (by simp)]; exact t3
    · rw [hI_sI, if_pos ⟨rfl, rfl, rfl⟩]
    · rw [sd] at hx
      rw [List.mem_singleton.mp hx]; omega
    · rw [l1, sd, hI_sI, if_neg (fun q => absurd q.1 (by decide)), hI_sI]
      by_cases d1 : i = cs.length
      · rw [if_pos ⟨rfl, rfl, d1⟩, if_pos ⟨by omega, by omega⟩, show i - cs.length = 0 by omega]
        rfl
      · rw [if_neg (fun q => d1 q.2.2), if_neg (fun q => by omega)]
theorem spR_s (sep : List Nat) (ws : List Nat) {i : Nat} (hi : i < ws.length) : spR sep (ws.take (i + 1)) = spR sep (ws.take i) ++ ((if i = 0 then [] else sep) ++ spW (ws.getD i 0)) := by
  cases ws with
  | nil => exact absurd hi (Nat.not_lt_zero _)
  | cons w ws =>
    cases i with
    | zero =>
      show spW w ++ _ = [] ++ ([] ++ spW w)
      rw [List.take_zero, List.map_nil, List.flatten_nil, List.append_nil, List.nil_append, List.nil_append]
    | succ i =>
      have hi : i < ws.length := by
        rw [List.length_cons] at hi
        omega
      show spW w ++ ((ws.take (i + 1)).map (fun v => sep ++ spW v)).flatten = (spW w ++ ((ws.take i).map (fun v => sep ++ spW v)).flatten) ++ (sep ++ spW (ws.getD i 0))
      have tk : ws.take (i + 1) = ws.take i ++ [ws.getD i 0] := by
        rw [← List.take_append_getElem hi]
        congr 2
        rw [List.getD_eq_getElem?_getD, List.getElem?_eq_getElem hi]
        rfl
      rw [tk, List.map_append, List.flatten_append, List.append_assoc]
      congr 2
      show (sep ++ spW (ws.getD i 0)) ++ [] = _
      rw [List.append_nil]
theorem LfC.wrt {h h' : PH} {v v' : Nat} {cs as : List Nat} {a k mo : Nat} {ws : List Nat} {b : Nat} (x : wrt h h' v v' cs as) (ha : 89 ≤ a ∧ a < hX h) (hb : 89 ≤ b ∧ b < hX h) (h1 : hK h a = 4) (h2 : hI h 4 a 0 = nI k) (h3 : hR h 4 a 1 = some b) (h4 : RowAt h b ws) (h5 : hI h 4 a 2 = nI mo) : hK h' a = 4 ∧ hI h' 4 a 0 = nI k ∧ hR h' 4 a 1 = some b ∧ RowAt h' b ws ∧ hI h' 4 a 2 = nI mo := by
  have z := x.2.1
  have nf : ∀ c y k, c ≠ 13 → c ≠ 22 → ¬ FSb v c y k := fun c y k n1 n2 q => q.elim (fun t => n1 t.1) (fun t => n2 t.1)
  exact ⟨(z.2.2.2.2 a ha.2).1.trans h1, (z.2.1 4 a 0 ha.2 (nf _ _ _ (by decide) (by decide))).trans h2, (z.2.2.1 4 a 1 ha.2 (fun q => absurd q.1 (by decide))).trans h3, ⟨(z.2.2.2.2 b hb.2).1.trans h4.1, (z.2.2.2.2 b hb.2).2.trans h4.2.1, fun i hi => (z.2.1 20 b i hb.2 (nf _ _ _ (by decide) (by decide))).trans (h4.2.2 i hi)⟩, (z.2.1 4 a 2 ha.2 (nf _ _ _ (by decide) (by decide))).trans h5⟩
theorem wrt.le {h h' : PH} {v v' : Nat} {cs as : List Nat} (x : wrt h h' v v' cs as) : hX h ≤ hX h' := x.2.1.1
/-- a sign -/
theorem wrt_c {h : PH} (c : CSh h) (b : 89 ≤ hX h) {cs : List Nat} {v : Nat} (S : SB cs v h) (hl : cs.length < 3990) (x : Nat) (hx : x < 128) : ∃ v' h', fJ4_append_cf468 43 (nI x) h = some (some 43, h') ∧ wrt h h' v v' cs [x] := wrt_1 c b S hl hx
theorem spellSimple_eq {h : PH} (c : CSh h) (b : 89 ≤ hX h) {cs : List Nat} {v : Nat} (S : SB cs v h) {a a1 : Nat} {k mo : Nat} {ws : List Nat} (ha : 89 ≤ a ∧ a < hX h) (hb : 89 ≤ a1 ∧ a1 < hX h) (h1 : hK h a = 4) (h2 : hI h 4 a 0 = nI k) (h3 : hR h 4 a 1 = some a1) (h4 : RowAt h a1 ws) (h5 : hI h 4 a 2 = nI mo) (ok : okL3 (k, ws, mo)) (hl : cs.length + (spL (k, ws, mo)).length + 20 < 3990) : ∃ v' h', fX4_spellSimple a (some 43) h = some h' ∧ wrt h h' v v' cs (spL (k, ws, mo)) := by
  obtain ⟨ok1, ok2, ok3, ok4, ok5⟩ := id ok
  have k4 : k < 4 := ok1
  have ow : ∀ w ∈ ws, vword w = true := ok2
  have l20 : 1 ≤ ws.length ∧ ws.length ≤ 20 := by
    have := okL.len ok
    exact this
  have e3 : (nI k = 3) = (k = 3) := nIe (b := 3) (by omega) (by decide)
  have e2 : (nI k = 2) = (k = 2) := nIe (b := 2) (by omega) (by decide)
  have e1 : (nI k = 1) = (k = 1) := nIe (b := 1) (by omega) (by decide)
  generalize hpre : (if k = 3 then [91] else [] : List Nat) = pre
  generalize hsep : (if k = 3 then [32] else if k = 2 then [126] ++ spD mo else [] : List Nat) = sep
  generalize hend : (if k = 3 then [93] else [] : List Nat) = en
  generalize hst : (if k = 1 then [42] else [] : List Nat) = sta
  have esp : spL (k, ws, mo) = pre ++ (spR sep ws ++ (en ++ sta)) := by
    rw [← hpre, ← hsep, ← hend, ← hst]
    unfold spL
    have k' : k = 0 ∨ k = 1 ∨ k = 2 ∨ k = 3 := by omega
    rcases k' with rfl | rfl | rfl | rfl
    · show spR [] ws = [] ++ (spR [] ws ++ ([] ++ []))
      rw [List.append_nil, List.append_nil, List.nil_append]
    · show spR [] ws ++ [42] = [] ++ (spR [] ws ++ ([] ++ [42]))
      rw [List.nil_append, List.nil_append]
    · show spR ([126] ++ spD mo) ws = [] ++ (spR ([126] ++ spD mo) ws ++ ([] ++ []))
      rw [List.append_nil, List.append_nil, List.nil_append]
    · show [91] ++ (spR [32] ws ++ [93]) = [91] ++ (spR [32] ws ++ ([93] ++ []))
      rw [List.append_nil]
  rw [esp] at hl ⊢
  rw [List.length_append, List.length_append, List.length_append] at hl
  -- the cells stand
  have cell : ∀ (g : PH) (vg : Nat) (as : List Nat), wrt h g v vg cs as → CSh g ∧ 89 ≤ hX g ∧ hK g a = 4 ∧ hI g 4 a 0 = nI k ∧ hR g 4 a 1 = some a1 ∧ RowAt g a1 ws ∧ hI g 4 a 2 = nI mo := fun g vg as W => ⟨c.wrt b W, Nat.le_trans b W.le, LfC.wrt W ha hb h1 h2 h3 h4 h5⟩
  have lenR : ∀ i, (spR sep (ws.take i)).length ≤ (spR sep ws).length := fun i => by
    have g : ∀ us : List Nat, ∀ i, (((us.take i).map (fun v => sep ++ spW v)).flatten).length ≤ ((us.map (fun v => sep ++ spW v)).flatten).length := fun us => by
      induction us with
      | nil => intro i; rw [List.take_nil]; exact Nat.le_refl _
      | cons u us ih =>
        intro i
        cases i with
        | zero => exact Nat.zero_le _
        | succ i =>
          simp only [List.take_succ_cons, List.map_cons, List.flatten_cons, List.length_append]
          have := ih i
          omega
    cases ws with
    | nil => rw [List.take_nil]; exact Nat.le_refl _
    | cons w us =>
      cases i with
      | zero => exact Nat.zero_le _
      | succ i =>
        rw [List.take_succ_cons]
        show (spW w ++ _).length ≤ (spW w ++ _).length
        rw [List.length_append, List.length_append]
        have := g us i
        omega
  have seplen : sep.length ≤ 3 := by
    rw [← hsep]
    split
    · exact (by decide : 1 ≤ 3)
    · split
      · have := spD_len mo
        rw [List.length_append]
        show 1 + _ ≤ 3
        omega
      · exact Nat.zero_le _
  -- the end
  have b104 : ∀ (g : PH) (vg : Nat) (as : List Nat), wrt h g v vg cs as → as.length + 1 + cs.length < 3990 → ∃ v' g', fX4_spellSimple_b104 a (some 43) g = some g' ∧ wrt h g' v v' cs (as ++ sta) := fun g vg as W hla => by
    obtain ⟨cg, bg, q1, q2, q3, q4, q5⟩ := cell g vg as W
    unfold fX4_spellSimple_b104 fX4_spellSimple_b118 fX4_spellSimple_b119
    rw [gd_t q1, q2, ifn e1]
    by_cases z : k = 1
    · rw [if_neg (fun y => y z), gs_t, gd_t (k_43 cg)]
      obtain ⟨v', g', f1, f2⟩ := wrt_c cg bg W.1 (by rw [List.length_append]; omega) 42 (by decide)
      refine ⟨v', g', ?_, ?_⟩
      · rw [show fJ4_append_cf468 43 (42 : Int32) g = _ from f1, bd_t]
      · rw [← hst, if_pos z]; exact wrt_tr W f2
    · rw [if_pos z]
      exact ⟨vg, g, rfl, by rw [← hst, if_neg z, List.append_nil]; exact W⟩
  have last : ∀ (g : PH) (vg : Nat), wrt h g v vg cs (pre ++ spR sep ws) → ∃ v' g', fX4_spellSimple_c17 a (some 43) (nI ws.length) g = some (.inr g') ∧ wrt h g' v v' cs (pre ++ (spR sep ws ++ (en ++ sta))) := fun g vg W => by
    obtain ⟨cg, bg, q1, q2, q3, q4, q5⟩ := cell g vg _ W
    have lW : (pre ++ spR sep ws).length = pre.length + (spR sep ws).length := List.length_append ..
    have hen : en.length ≤ 1 := by
      rw [← hend]
      split
      · exact Nat.le_refl 1
      · exact Nat.zero_le 1
    unfold fX4_spellSimple_c17 fX4_spellSimple_b103
    rw [gd_t q1, q3, gs_t, gd_t q4.1, q4.2.1, if_pos (Int32.le_refl _), q2, ifn e3]
    by_cases z : k = 3
    · obtain ⟨v1, g1, f1, f2⟩ := wrt_c cg bg W.1 (by rw [List.length_append, lW]; omega) 93 (by decide)
      obtain ⟨v', g', j1, j2⟩ := b104 g1 v1 _ (wrt_tr W f2) (by rw [List.length_append, lW]; show _ + 1 + 1 + _ < _; omega)
      refine ⟨v', g', ?_, ?_⟩
      · rw [if_neg (fun y => y z), gs_t, gd_t (k_43 cg), show fJ4_append_cf468 43 (93 : Int32) g = _ from f1, bd_t, j1, mr_t]
      · rw [← hend, if_pos z]
        rw [List.append_assoc, List.append_assoc] at j2
        exact j2
    · obtain ⟨v', g', j1, j2⟩ := b104 g vg _ W (by rw [lW]; omega)
      refine ⟨v', g', ?_, ?_⟩
      · rw [if_pos z, j1, mr_t]
      · rw [← hend, if_neg z, List.nil_append]
        rw [List.append_assoc] at j2
        exact j2
  -- one word more
  have b73 : ∀ (i : Nat) (hi : i < ws.length) (g : PH) (vg : Nat) (as : List Nat), wrt h g v vg cs as → as.length + 6 + cs.length < 3990 → ∃ v' g', fX4_spellSimple_b73 a (some 43) (nI i) g = some (.inl (nI (i + 1), g')) ∧ wrt h g' v v' cs (as ++ spW (ws.getD i 0)) := fun i hi g vg as W hla => by
    obtain ⟨cg, bg, q1, q2, q3, q4, q5⟩ := cell g vg as W
    obtain ⟨v', g', f1, f2⟩ := spellNumber_eq cg bg W.1 (by rw [List.length_append]; omega) (ow _ (mem_getD hi))
    refine ⟨v', g', ?_, wrt_tr W f2⟩
    unfold fX4_spellSimple_b73 fX4_spellSimple_b83
    rw [gd_t q1, q3, gs_t, gd_t ⟨q4.1, by rw [q4.2.1]; exact inbI hi (by omega)⟩, nI_clamp (by omega), q4.2.2 i hi, f1, bd_t, nI_1]
  have step : ∀ (i : Nat) (hi : i < ws.length) (g : PH) (vg : Nat), wrt h g v vg cs (pre ++ spR sep (ws.take i)) → ∃ v' g', fX4_spellSimple_c17 a (some 43) (nI i) g = some (.inl (nI (i + 1), g')) ∧ wrt h g' v v' cs (pre ++ spR sep (ws.take (i + 1))) := fun i hi g vg W => by
    obtain ⟨cg, bg, q1, q2, q3, q4, q5⟩ := cell g vg _ W
    have lW : (pre ++ spR sep (ws.take i)).length = pre.length + (spR sep (ws.take i)).length := List.length_append ..
    have lRi := lenR i
    rw [spR_s sep ws hi, ← List.append_assoc]
    have i0 : (nI i ≤ (0 : Int32)) = (i = 0) := propext ⟨fun y => by
      have := (nI_leI (b := 0) (by omega) (by decide)).mp y
      omega, fun y => by rw [y]; decide⟩
    unfold fX4_spellSimple_c17 fX4_spellSimple_b44
    rw [gd_t q1, q3, gs_t, gd_t q4.1, q4.2.1, if_neg (nI_ge hi (by omega)), ifp i0]
    by_cases z0 : i = 0
    · rw [if_pos z0]
      obtain ⟨v', g', f1, f2⟩ := b73 i hi g vg _ W (by rw [lW]; omega)
      refine ⟨v', g', ?_, ?_⟩
      · unfold fX4_spellSimple_b45
        rw [ifp i0, if_pos z0]
        exact f1
      · rw [if_pos z0, List.nil_append]; exact f2
    · rw [if_neg z0, q2, ifn e3]
      by_cases z3 : k = 3
      · obtain ⟨v1, g1, f1, f2⟩ := wrt_c cg bg W.1 (by rw [List.length_append, lW]; omega) 32 (by decide)
        have W1 := wrt_tr W f2
        obtain ⟨c1, b1, r1, r2, r3, r4, r5⟩ := cell g1 v1 _ W1
        obtain ⟨v', g', j1, j2⟩ := b73 i hi g1 v1 _ W1 (by rw [List.length_append, lW]; show _ + 1 + 6 + _ < _; omega)
        refine ⟨v', g', ?_, ?_⟩
        · rw [if_neg (fun y => y z3), gs_t, gd_t (k_43 cg), show fJ4_append_cf468 43 (32 : Int32) g = _ from f1, bd_t]
          unfold fX4_spellSimple_b45
          rw [ifp i0, if_neg z0, gd_t r1, r2, ifn e2, if_pos (show ¬ k = 2 by omega)]
          exact j1
        · rw [if_neg z0, ← List.append_assoc, show sep = [32] by rw [← hsep, if_pos z3]]
          rw [show sep = [32] by rw [← hsep, if_pos z3]] at j2
          exact j2
      · rw [if_pos z3]
        by_cases z2 : k = 2
        · have mo40 : mo ≤ 40 := (ok4 z2).2
          obtain ⟨v1, g1, f1, f2⟩ := wrt_c cg bg W.1 (by rw [List.length_append, lW]; omega) 126 (by decide)
          have W1 := wrt_tr W f2
          obtain ⟨c1, b1, r1, r2, r3, r4, r5⟩ := cell g1 v1 _ W1
          obtain ⟨v2, g2, k1, k2⟩ := appendInt_eq c1 b1 W1.1 (by rw [List.length_append, List.length_append, lW]; show _ + (_ + 1) + 2 < _; omega) mo40
          have W2 := wrt_tr W1 k2
          have d2 := spD_len mo
          obtain ⟨v', g', j1, j2⟩ := b73 i hi g2 v2 _ W2 (by rw [List.length_append, List.length_append, lW]; show _ + 1 + _ + 6 + _ < _; omega)
          refine ⟨v', g', ?_, ?_⟩
          · unfold fX4_spellSimple_b45 fX4_spellSimple_b63 fX4_spellSimple_b72
            rw [ifp i0, if_neg z0, gd_t q1, q2, ifn e2, if_neg (fun y => y z2), gs_t, gd_t (k_43 cg), show fJ4_append_cf468 43 (126 : Int32) g = _ from f1, bd_t, gd_t r1, gs_t, gd_t (k_43 c1), r5, k1, bd_t]
            exact j1
          · have es : sep = [126] ++ spD mo := by rw [← hsep, if_neg z3, if_pos z2]
            rw [if_neg z0, es]
            rw [es] at j2
            simp only [List.append_assoc] at j2 ⊢
            exact j2
        · have es : sep = [] := by rw [← hsep, if_neg z3, if_neg z2]
          obtain ⟨v', g', j1, j2⟩ := b73 i hi g vg _ W (by rw [lW]; omega)
          refine ⟨v', g', ?_, ?_⟩
          · unfold fX4_spellSimple_b45
            rw [ifp i0, if_neg z0, gd_t q1, q2, ifn e2, if_pos z2]
            exact j1
          · have e0 : ((if i = 0 then [] else sep) ++ spW (ws.getD i 0)) = spW (ws.getD i 0) := by rw [if_neg z0, es, List.nil_append]
            rw [e0]
            exact j2
  have lp : ∀ (f i : Nat) (g : PH) (vg : Nat), i + f = ws.length → wrt h g v vg cs (pre ++ spR sep (ws.take i)) → ∃ v' g', fX4_spellSimple_l17 a (some 43) (nI i) g = some g' ∧ wrt h g' v v' cs (pre ++ (spR sep ws ++ (en ++ sta))) := by
    intro f
    induction f with
    | zero =>
      intro i g vg hi W
      have hi : i = ws.length := by omega
      subst hi
      rw [List.take_length] at W
      obtain ⟨v', g', j1, j2⟩ := last g vg W
      exact ⟨v', g', wh_done j1, j2⟩
    | succ f ih =>
      intro i g vg hi W
      obtain ⟨v1, g1, j1, j2⟩ := step i (by omega) g vg W
      obtain ⟨v', g', r1, r2⟩ := ih (i + 1) g1 v1 (by omega) j2
      exact ⟨v', g', wh_step (t := (nI (i + 1), g1)) j1 r1, r2⟩
  unfold fX4_spellSimple fX4_spellSimple_b0 fX4_spellSimple_b14 fX4_spellSimple_b15
  rw [gd_t h1, h2, ifn e3]
  by_cases z : k = 3
  · obtain ⟨v1, g1, f1, f2⟩ := wrt_c c b S (by omega) 91 (by decide)
    obtain ⟨v', g', j1, j2⟩ := lp ws.length 0 g1 v1 (Nat.zero_add _) (by
      rw [← hpre, if_pos z]
      show wrt h g1 v v1 cs ([91] ++ [])
      rw [List.append_nil]; exact f2)
    refine ⟨v', g', ?_, j2⟩
    rw [if_neg (fun y => y z), gs_t, gd_t (k_43 c), show fJ4_append_cf468 43 (91 : Int32) h = _ from f1, bd_t]
    exact j1
  · obtain ⟨v', g', j1, j2⟩ := lp ws.length 0 h v (Nat.zero_add _) (by
      rw [← hpre, if_neg z]
      show wrt h h v v cs ([] ++ [])
      exact wrt_rf S)
    refine ⟨v', g', ?_, j2⟩
    rw [if_pos z]
    exact j1
