/-! THE CLASS WRITES a query -/
theorem needs_eq {k kc : Nat} (h1 : k < 8) (h2 : kc < 8) : fX4_needsBrackets (nI k) (nI kc) = some (bI (brk k kc)) := by
  have e6 : (nI kc = 6) = (kc = 6) := nIe (b := 6) (by omega) (by decide)
  have e5 : (nI kc = 5) = (kc = 5) := nIe (b := 5) (by omega) (by decide)
  have f6 : (nI k = 6) = (k = 6) := nIe (b := 6) (by omega) (by decide)
  unfold fX4_needsBrackets fX4_needsBrackets_b17 fX4_needsBrackets_b21 fX4_needsBrackets_b22 brk
  rw [ifp e6, ifn e5, ifp f6]
  by_cases z6 : kc = 6
  · rw [if_pos z6, decide_eq_true z6]
    exact gd_t (by decide)
  · rw [if_neg z6, decide_eq_false z6]
    by_cases z5 : kc = 5
    · rw [if_neg (fun y => y z5), decide_eq_true z5]
      by_cases y6 : k = 6
      · rw [if_pos y6, decide_eq_true y6]
        exact gd_t (by decide)
      · rw [if_neg y6, decide_eq_false y6]
        exact gd_t (by decide)
    · rw [if_pos z5, decide_eq_false z5]
      exact gd_t (by decide)
theorem spJ_s (k : Nat) (L : List (List Nat × Nat)) {i : Nat} (hi : i < L.length) : spJ k (L.take (i + 1)) = spJ k (L.take i) ++ ((if i = 0 then [] else [if k = 5 then 38 else 124]) ++ spC k L[i].1 L[i].2) := by
  cases L with
  | nil => exact absurd hi (Nat.not_lt_zero _)
  | cons w ws =>
    cases i with
    | zero =>
      show spC k w.1 w.2 ++ _ = [] ++ ([] ++ spC k w.1 w.2)
      rw [List.take_zero, List.map_nil, List.flatten_nil, List.append_nil, List.nil_append, List.nil_append]
    | succ i =>
      have hi : i < ws.length := by
        rw [List.length_cons] at hi
        omega
      show spC k w.1 w.2 ++ ((ws.take (i + 1)).map (fun d => [if k = 5 then 38 else 124] ++ spC k d.1 d.2)).flatten = (spC k w.1 w.2 ++ ((ws.take i).map (fun d => [if k = 5 then 38 else 124] ++ spC k d.1 d.2)).flatten) ++ ([if k = 5 then 38 else 124] ++ spC k ws[i].1 ws[i].2)
      rw [← List.take_append_getElem hi, List.map_append, List.flatten_append, List.append_assoc]
      congr 2
      show ([if k = 5 then 38 else 124] ++ spC k ws[i].1 ws[i].2) ++ [] = _
      rw [List.append_nil]
theorem spJ_le (k : Nat) (L : List (List Nat × Nat)) {i : Nat} (hi : i < L.length) : (spJ k (L.take i)).length + ((if i = 0 then [] else [if k = 5 then 38 else 124] : List Nat).length + (spC k L[i].1 L[i].2).length) ≤ (spJ k L).length := by
  have g : ∀ j, i + 1 + j ≤ L.length → (spJ k (L.take (i + 1))).length ≤ (spJ k (L.take (i + 1 + j))).length := by
    intro j
    induction j with
    | zero => intro _; exact Nat.le_refl _
    | succ j ih =>
      intro hj
      have := spJ_s k L (i := i + 1 + j) (by omega)
      rw [show i + 1 + (j + 1) = i + 1 + j + 1 by omega, this, List.length_append]
      have := ih (by omega)
      omega
  have := g (L.length - (i + 1)) (by omega)
  rw [show i + 1 + (L.length - (i + 1)) = L.length by omega, List.take_length, spJ_s k L hi, List.length_append, List.length_append] at this
  omega
theorem QC.kd {h : PH} {D : Nat → Prop} : ∀ {n : Nat} {q : QT n} {a : Nat}, QC h D n q a → hI h 4 a 0 = nI (knd n q)
  | 0, _, _, L => by obtain ⟨d, b, c, -, -, h1, h2, -⟩ := L; exact h2
  | _ + 1, .inl _, _, L => by obtain ⟨d, b, c, -, -, h1, h2, -⟩ := L; exact h2
  | _ + 1, .inr _, _, L => by obtain ⟨d, b, c, -, -, h1, h2, -⟩ := L; exact h2
theorem knd_lt : ∀ (n : Nat) (q : QT n), wfq n q → knd n q < 7
  | 0, _, w => by
    have := (show okL3 _ from w).1
    exact Nat.lt_of_lt_of_le this (by decide)
  | _ + 1, .inl _, w => by
    have := (show okL3 _ from w).1
    exact Nat.lt_of_lt_of_le this (by decide)
  | _ + 1, .inr p, w => by
    show p.1 < 7
    rcases w.1 with ⟨r, -⟩ | ⟨r, -⟩ <;> omega
theorem same_w {h h' : PH} {v v' : Nat} {cs as : List Nat} (W : wrt h h' v v' cs as) {x : Nat} (h1 : 89 ≤ x) (h2 : x < hX h) (h3 : x ≠ v) : same h h' x := ⟨fun c k => W.2.1.2.1 c x k h2 (fun z => z.elim (fun t => by have := t.2; omega) (fun t => h3 t.2)), fun c k => W.2.1.2.2.1 c x k h2 (fun z => by have := z.2; omega), (W.2.1.2.2.2.2 x h2).1, (W.2.1.2.2.2.2 x h2).2⟩
/-- the cells of queries stand, the builder's row is none of them -/
def DV (D : Nat → Prop) (v : Nat) (h : PH) : Prop := (∀ x, D x → 89 ≤ x ∧ x < hX h) ∧ ¬ D v
theorem DV.w {D : Nat → Prop} {h h' : PH} {v v' : Nat} {cs as : List Nat} (V : DV D v h) (W : wrt h h' v v' cs as) : DV D v' h' := by
  have l := W.le
  refine ⟨fun x dx => by have := V.1 x dx; omega, fun z => ?_⟩
  rcases W.2.2.2.2.2.2 with y | y
  · rw [y] at z; exact V.2 z
  · have := V.1 v' z; omega
theorem QC.w {D : Nat → Prop} {h h' : PH} {v v' : Nat} {cs as : List Nat} (V : DV D v h) (W : wrt h h' v v' cs as) {n : Nat} {q : QT n} {a : Nat} (C : QC h D n q a) : QC h' D n q a := QC.mono (fun x dx => ⟨dx, same_w W (V.1 x dx).1 (V.1 x dx).2 (fun z => V.2 (z ▸ dx))⟩) n q a C
theorem spell_leaf {D : Nat → Prop} {l : L3} {h : PH} {v a : Nat} {cs : List Nat} (c : CSh h) (b : 89 ≤ hX h) (S : SB cs v h) (V : DV D v h) (L : LfD h D a l) (ok : okL3 l) (hl : cs.length + (spL l).length + 20 < 3990) {g d : Nat} (hd : d ≤ 40) : ∃ v' h', g_X4_spell (g + 1) (some a) (some 43) (nI d) h = some h' ∧ wrt h h' v v' cs (spL l) := by
  obtain ⟨da, a1, cc, db, dc, h1, h2, h3, h4, h5, h6, h7, h8⟩ := id L
  have k4 : l.1 < 4 := ok.1
  obtain ⟨v', h', f1, f2⟩ := spellSimple_eq (k := l.1) (ws := l.2.1) (mo := l.2.2) c b S (V.1 a da) (V.1 a1 db) h1 h2 h3 h4 h5 ok hl
  have sm : ∀ x, D x → same h h' x := fun x dx => same_w f2 (V.1 x dx).1 (V.1 x dx).2 (fun z => V.2 (z ▸ dx))
  have e4 : (nI l.1 = 4) = (l.1 = 4) := nIe (b := 4) (by omega) (by decide)
  refine ⟨v', h', ?_, f2⟩
  show fX4_spell_R (g_X4_spell g) (some a) (some 43) (nI d) h = _
  unfold fX4_spell_R fX4_spell_R_b0 fX4_spell_R_b19 fX4_spell_R_b34
  rw [if_pos (show nI d ≤ (40 : Int32) from show nI d ≤ nI 40 from (nI_leI (by omega) (by decide)).mpr hd), gs_t, gd_t h1, isSimple_t h1 h2 k4, bd_t, if_neg (show ¬ (1 : Int32) = 0 by decide), f1, bd_t, gs_t, gd_t ((sm a da).2.2.1.trans h1), (sm a da).1 4 0, h2, ifn e4, if_pos (show ¬ l.1 = 4 by omega)]
  unfold fX4_spell_R_l36
  refine wh_done ?_
  show fX4_spell_R_c36 (g_X4_spell g) (some a) (some 43) (nI d) (nI 0) h' = _
  have s14 : hK h' cc = 14 := (sm cc dc).2.2.1.trans h7
  have s0 : hI h' 14 cc 2 = nI 0 := ((sm cc dc).1 14 2).trans h8
  unfold fX4_spell_R_c36
  rw [gs_t, gd_t ((sm a da).2.2.1.trans h1), (sm a da).2.1 4 3, h6, gs_t, gd_t s14, list_size s14 s0, bd_t, if_pos (Int32.le_refl _), mr_t]
theorem spell_eq {D : Nat → Prop} : ∀ (n : Nat) (q : QT n), wfq n q → ∀ (h : PH) (v a : Nat) (cs : List Nat), CSh h → 89 ≤ hX h → SB cs v h → DV D v h → QC h D n q a → cs.length + (spQ n q).length + 20 < 3990 → ∀ g d : Nat, n < g → d + n ≤ 40 → ∃ v' h', g_X4_spell g (some a) (some 43) (nI d) h = some h' ∧ wrt h h' v v' cs (spQ n q) := by
  intro n
  induction n with
  | zero =>
    intro q w h v a cs c b S V L hl g d hg hd
    obtain ⟨g, rfl⟩ : ∃ g', g = g' + 1 := ⟨g - 1, by omega⟩
    exact spell_leaf c b S V L w hl (by omega)
  | succ n ih =>
    intro q w h v a cs c b S V L hl g d hg hd
    obtain ⟨g, rfl⟩ : ∃ g', g = g' + 1 := ⟨g - 1, by omega⟩
    rcases q with l | ⟨kd, xs⟩
    · exact spell_leaf c b S V L w hl (by omega)
    · obtain ⟨da, l, e, dl, de, h1, h2, h3, h4, h5, h6, h7, h8, h9⟩ := L
      obtain ⟨w1, w2, w3⟩ := w
      have w2 : xs.length ≤ 20 := w2
      have w3 : ∀ x ∈ xs, wfq n x := w3
      have h2 : hI h 4 a 0 = nI kd := h2
      have h5 : hI h 14 l 2 = nI xs.length := h5
      have h8 : xs.length ≤ hN h e := h8
      have w1 : (kd = 4 ∧ xs.length = 1) ∨ ((kd = 5 ∨ kd = 6) ∧ 2 ≤ xs.length) := w1
      have k46 : 4 ≤ kd ∧ kd ≤ 6 := by omega
      have e4 : (nI kd = 4) = (kd = 4) := nIe (b := 4) (by omega) (by decide)
      have e5 : (nI kd = 5) = (kd = 5) := nIe (b := 5) (by omega) (by decide)
      have hl : cs.length + ((if kd = 4 then [33] else [] : List Nat) ++ spJ kd (xs.map (fun c => (spQ n c, knd n c)))).length + 20 < 3990 := hl
      rw [List.length_append] at hl
      show ∃ v' h', _ ∧ wrt h h' v v' cs ((if kd = 4 then [33] else [] : List Nat) ++ spJ kd (xs.map (fun c => (spQ n c, knd n c))))
      generalize hpre : (if kd = 4 then [33] else [] : List Nat) = pre at hl ⊢
      generalize hL : xs.map (fun c => (spQ n c, knd n c)) = LL at hl ⊢
      have lL : LL.length = xs.length := by rw [← hL, List.length_map]
      have cell : ∀ (u : PH) (vu : Nat) (as : List Nat), wrt h u v vu cs as → CSh u ∧ 89 ≤ hX u ∧ DV D vu u ∧ ∀ x, D x → same h u x := fun u vu as W => ⟨c.wrt b W, Nat.le_trans b W.le, V.w W, fun x dx => same_w W (V.1 x dx).1 (V.1 x dx).2 (fun z => V.2 (z ▸ dx))⟩
      have d40 : nI d ≤ (40 : Int32) := show nI d ≤ nI 40 from (nI_leI (by omega) (by decide)).mpr (by omega)
      have step : ∀ (i : Nat) (hi : i < xs.length) (u : PH) (vu : Nat), wrt h u v vu cs (pre ++ spJ kd (LL.take i)) → ∃ v' u', fX4_spell_R_c36 (g_X4_spell g) (some a) (some 43) (nI d) (nI i) u = some (.inl (nI (i + 1), u')) ∧ wrt h u' v v' cs (pre ++ spJ kd (LL.take (i + 1))) := fun i hi u vu W => by
        obtain ⟨cu, bu, Vu, sm⟩ := cell u vu _ W
        obtain ⟨ac, q1, q2⟩ := h9 i hi
        have q2 : QC h D n xs[i] ac := q2
        have hiL : i < LL.length := by omega
        have eL : LL[i] = (spQ n xs[i], knd n xs[i]) := by
          subst hL
          rw [List.getElem_map]
        have wx := w3 _ (List.getElem_mem hi)
        have kc := knd_lt n xs[i] wx
        have le := spJ_le kd LL hiL
        rw [eL] at le
        have es := spJ_s kd LL hiL
        rw [eL] at es
        have le : (spJ kd (LL.take i)).length + ((if i = 0 then [] else [if kd = 5 then 38 else 124] : List Nat).length + (spC kd (spQ n xs[i]) (knd n xs[i])).length) ≤ (spJ kd LL).length := le
        have es : spJ kd (LL.take (i + 1)) = spJ kd (LL.take i) ++ ((if i = 0 then [] else [if kd = 5 then 38 else 124]) ++ spC kd (spQ n xs[i]) (knd n xs[i])) := es
        have lW : (pre ++ spJ kd (LL.take i)).length = pre.length + (spJ kd (LL.take i)).length := List.length_append ..
        rw [es, ← List.append_assoc]
        generalize hsg : (if i = 0 then [] else [if kd = 5 then 38 else 124] : List Nat) = sg at le
        generalize hB : pre ++ spJ kd (LL.take i) = B at W lW
        have ka := QC.k q2
        have kdc := QC.kd q2
        have hk4 := (sm a da).2.2.1.trans h1
        have hk14 := (sm l dl).2.2.1.trans h4
        have hs := ((sm l dl).1 14 2).trans h5
        have gt := list_get hk14 hs (((sm l dl).2.1 14 1).trans h6) ((sm e de).2.2.1.trans h7) (by rw [(sm e de).2.2.2]; exact h8) (by omega) hi (((sm e de).2.1 28 i).trans q1)
        -- the part itself, its brackets
        have body : ∀ (u1 : PH) (v1 : Nat) (as : List Nat), wrt h u1 v v1 cs (B ++ as) → as.length ≤ sg.length → ∃ v' u', fX4_spell_R_b98 (g_X4_spell g) (some a) (some 43) (nI d) (nI i) (some ac) (bI (brk kd (knd n xs[i]))) u1 = some (.inl (nI (i + 1), u')) ∧ wrt h u' v v' cs (B ++ (as ++ spC kd (spQ n xs[i]) (knd n xs[i]))) := fun u1 v1 as W1 las => by
          obtain ⟨c1, b1, V1, sm1⟩ := cell u1 v1 _ W1
          have lB : (B ++ as).length = B.length + as.length := List.length_append ..
          cases z : brk kd (knd n xs[i]) with
          | false =>
            have ec : spC kd (spQ n xs[i]) (knd n xs[i]) = spQ n xs[i] := by
              unfold spC
              rw [z]
              show [] ++ (spQ n xs[i] ++ []) = _
              rw [List.nil_append, List.append_nil]
            rw [ec] at le ⊢
            obtain ⟨v2, u2, r1, r2⟩ := ih xs[i] wx u1 v1 ac (cs ++ (B ++ as)) c1 b1 W1.1 V1 (QC.mono (fun x dx => ⟨dx, sm1 x dx⟩) n _ ac q2) (by rw [List.length_append, lB]; omega) g (d + 1) (by omega) (by omega)
            refine ⟨v2, u2, ?_, ?_⟩
            · unfold fX4_spell_R_b98 fX4_spell_R_b110 fX4_spell_R_b119 fX4_spell_R_b131
              rw [if_pos (show bI false = 0 from rfl), nI_1 d, r1, bd_t, if_pos (show bI false = 0 from rfl), nI_1 i]
            · rw [← List.append_assoc]
              exact wrt_tr W1 r2
          | true =>
            have ec : spC kd (spQ n xs[i]) (knd n xs[i]) = [40] ++ (spQ n xs[i] ++ [41]) := by
              unfold spC
              rw [z]
              rfl
            rw [ec] at le ⊢
            rw [List.length_append, List.length_append] at le
            have l1 : ([40] : List Nat).length = 1 := rfl
            have l2 : ([41] : List Nat).length = 1 := rfl
            obtain ⟨v2, u2, f1, f2⟩ := wrt_c c1 b1 W1.1 (by rw [List.length_append, lB]; omega) 40 (by decide)
            have W2 := wrt_tr W1 f2
            obtain ⟨c2, b2, V2, sm2⟩ := cell u2 v2 _ W2
            obtain ⟨v3, u3, r1, r2⟩ := ih xs[i] wx u2 v2 ac (cs ++ (B ++ as ++ [40])) c2 b2 W2.1 V2 (QC.mono (fun x dx => ⟨dx, sm2 x dx⟩) n _ ac q2) (by rw [List.length_append, List.length_append, lB]; omega) g (d + 1) (by omega) (by omega)
            have W3 := wrt_tr W2 r2
            obtain ⟨c3, b3, V3, sm3⟩ := cell u3 v3 _ W3
            obtain ⟨v4, u4, f3, f4⟩ := wrt_c c3 b3 W3.1 (by rw [List.length_append, List.length_append, List.length_append, lB]; omega) 41 (by decide)
            have W4 := wrt_tr W3 f4
            refine ⟨v4, u4, ?_, ?_⟩
            · unfold fX4_spell_R_b98 fX4_spell_R_b109 fX4_spell_R_b110 fX4_spell_R_b119 fX4_spell_R_b130 fX4_spell_R_b131
              rw [if_neg (show ¬ bI true = 0 by decide), gs_t, gd_t (k_43 c1), show fJ4_append_cf468 43 (40 : Int32) u1 = _ from f1, bd_t, nI_1 d, r1, bd_t, if_neg (show ¬ bI true = 0 by decide), gs_t, gd_t (k_43 c3), show fJ4_append_cf468 43 (41 : Int32) u3 = _ from f3, bd_t, nI_1 i]
            · rw [List.append_assoc, List.append_assoc, List.append_assoc] at W4
              rw [← List.append_assoc as]
              rw [List.append_assoc as]
              exact W4
        have i0 : (nI i ≤ (0 : Int32)) = (i = 0) := propext ⟨fun y => by
          have := (nI_leI (b := 0) (by omega) (by decide)).mp y
          omega, fun y => by rw [y]; decide⟩
        have head : fX4_spell_R_c36 (g_X4_spell g) (some a) (some 43) (nI d) (nI i) u = (if i = 0 then fX4_spell_R_b98 (g_X4_spell g) (some a) (some 43) (nI d) (nI i) (some ac) (bI (brk kd (knd n xs[i]))) u else if ¬ kd = 5 then fX4_spell_R_b94 (g_X4_spell g) (some a) (some 43) (nI d) (nI i) (some ac) (bI (brk kd (knd n xs[i]))) (some 43) (124 : Int32) u else fX4_spell_R_b94 (g_X4_spell g) (some a) (some 43) (nI d) (nI i) (some ac) (bI (brk kd (knd n xs[i]))) (some 43) (38 : Int32) u) := by
          unfold fX4_spell_R_c36
          rw [gs_t, gd_t hk4, (sm a da).2.1 4 3, h3, gs_t, gd_t hk14, list_size hk14 hs, bd_t, if_neg (nI_ge hi (by omega)), gs_t, gd_t hk14, gt, bd_t, gs_t, gd_t ((sm ac ka.2).2.2.1.trans ka.1), (sm a da).1 4 0, h2, (sm ac ka.2).1 4 0, kdc, needs_eq (by omega) (by omega), bd_t, ifp i0, ifn e5]
        rw [head]
        by_cases z0 : i = 0
        · rw [if_pos z0] at hsg ⊢
          obtain ⟨v', u', j1, j2⟩ := body u vu [] (by rw [List.append_nil]; exact W) (Nat.zero_le _)
          refine ⟨v', u', j1, ?_⟩
          rw [← hsg]
          exact j2
        · rw [if_neg z0] at hsg ⊢
          have sgn : ∀ x : Nat, x < 128 → sg = [x] → ∃ v' u', fX4_spell_R_b94 (g_X4_spell g) (some a) (some 43) (nI d) (nI i) (some ac) (bI (brk kd (knd n xs[i]))) (some 43) (nI x) u = some (.inl (nI (i + 1), u')) ∧ wrt h u' v v' cs (B ++ (sg ++ spC kd (spQ n xs[i]) (knd n xs[i]))) := fun x hx ex => by
            obtain ⟨v1, u1, f1, f2⟩ := wrt_c cu bu W.1 (by rw [List.length_append]; omega) x hx
            obtain ⟨v', u', j1, j2⟩ := body u1 v1 [x] (wrt_tr W f2) (by rw [ex]; exact Nat.le_refl _)
            refine ⟨v', u', ?_, by rw [ex]; exact j2⟩
            unfold fX4_spell_R_b94 fX4_spell_R_b97
            rw [gs_t, gd_t (k_43 cu), f1, bd_t]
            exact j1
          by_cases z5 : kd = 5
          · rw [if_neg (fun y => y z5)]
            exact sgn 38 (by decide) (by rw [← hsg, if_pos z5])
          · rw [if_pos z5]
            exact sgn 124 (by decide) (by rw [← hsg, if_neg z5])
      have lp : ∀ (f i : Nat) (u : PH) (vu : Nat), i + f = xs.length → wrt h u v vu cs (pre ++ spJ kd (LL.take i)) → ∃ v' u', fX4_spell_R_l36 (g_X4_spell g) (some a) (some 43) (nI d) (nI i) u = some u' ∧ wrt h u' v v' cs (pre ++ spJ kd LL) := by
        intro f
        induction f with
        | zero =>
          intro i u vu hi W
          have hi : i = xs.length := by omega
          subst hi
          rw [← lL, List.take_length] at W
          obtain ⟨cu, bu, Vu, sm⟩ := cell u vu _ W
          refine ⟨vu, u, wh_done ?_, W⟩
          show fX4_spell_R_c36 (g_X4_spell g) (some a) (some 43) (nI d) (nI xs.length) u = _
          have hk14 := (sm l dl).2.2.1.trans h4
          unfold fX4_spell_R_c36
          rw [gs_t, gd_t ((sm a da).2.2.1.trans h1), (sm a da).2.1 4 3, h3, gs_t, gd_t hk14, list_size hk14 (((sm l dl).1 14 2).trans h5), bd_t, if_pos (Int32.le_refl _), mr_t]
        | succ f ihf =>
          intro i u vu hi W
          obtain ⟨v1, u1, j1, j2⟩ := step i (by omega) u vu W
          obtain ⟨v', u', r1, r2⟩ := ihf (i + 1) u1 v1 (by omega) j2
          exact ⟨v', u', wh_step (t := (nI (i + 1), u1)) j1 r1, r2⟩
      have b19 : fX4_spell_R (g_X4_spell g) (some a) (some 43) (nI d) h = fX4_spell_R_b19 (g_X4_spell g) (some a) (some 43) (nI d) h := by
        unfold fX4_spell_R fX4_spell_R_b0
        rw [if_pos d40, gs_t, gd_t h1, isSimple_f h1 h2 k46.1 (by omega), bd_t, if_pos rfl]
      show ∃ v' h', fX4_spell_R (g_X4_spell g) (some a) (some 43) (nI d) h = some h' ∧ _
      rw [b19]
      unfold fX4_spell_R_b19 fX4_spell_R_b33 fX4_spell_R_b34
      rw [gs_t, gd_t h1, h2, ifn e4]
      by_cases z : kd = 4
      · have hp : pre = [33] := by rw [← hpre, if_pos z]
        obtain ⟨v1, u1, f1, f2⟩ := wrt_c c b S (by omega) 33 (by decide)
        obtain ⟨v', u', r1, r2⟩ := lp xs.length 0 u1 v1 (Nat.zero_add _) (by
          rw [hp]
          show wrt h u1 v v1 cs ([33] ++ [])
          rw [List.append_nil]; exact f2)
        refine ⟨v', u', ?_, r2⟩
        rw [if_neg (fun y => y z), gs_t, gd_t (k_43 c), show fJ4_append_cf468 43 (33 : Int32) h = _ from f1, bd_t]
        exact r1
      · have hp : pre = [] := by rw [← hpre, if_neg z]
        obtain ⟨v', u', r1, r2⟩ := lp xs.length 0 h v (Nat.zero_add _) (by
          rw [hp]
          exact wrt_rf S)
        refine ⟨v', u', ?_, r2⟩
        rw [if_pos z]
        exact r1
