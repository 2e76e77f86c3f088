/-! THE REFERENCE WRITES, second: the stack -/
theorem gl {α : Type} {d : α} {cs as : List α} {i : Nat} (h : i < cs.length) : (cs ++ as).getD i d = cs.getD i d := by
  rw [List.getD_eq_getElem?_getD, List.getD_eq_getElem?_getD, List.getElem?_append_left h]
theorem gr {α : Type} {d : α} {cs as : List α} {i : Nat} (h : cs.length ≤ i) : (cs ++ as).getD i d = as.getD (i - cs.length) d := by
  rw [List.getD_eq_getElem?_getD, List.getD_eq_getElem?_getD, List.getElem?_append_right h]
theorem grev {α : Type} {d : α} {cs : List α} {i : Nat} (h : i < cs.length) : cs.reverse.getD i d = cs.getD (cs.length - 1 - i) d := by
  rw [List.getD_eq_getElem?_getD, List.getD_eq_getElem?_getD, List.getElem?_reverse h]
def FSt (c i k : Nat) : Prop := (c = 12 ∧ i = 45 ∧ k = 57) ∨ (c = 20 ∧ i = 85)
theorem FSt_r : ∀ c i k, FSt c i k → FWr c i k := fun c i k z => by
  rcases z with ⟨a, b, d⟩ | ⟨a, b⟩
  · exact Or.inl ⟨a, b, Or.inr d⟩
  · exact Or.inr ⟨a, Or.inr b⟩
theorem MWt.st {ws : List Nat} {g g' : PH} (W : MWt ws g) (o : oP FSt g g') : MWt ws g' := ⟨(o.1 12 45 56 (fun z => by unfold FSt at z; omega)).trans W.1, fun i hi => (o.1 20 84 i (fun z => by unfold FSt at z; omega)).trans (W.2 i hi)⟩
theorem lays_m {g : PH} (m : MSh g) {st : List Int32} (S : MSt st g) (hl : st.length < 2000) (x : Int32) : ∃ g', fX12_lays 45 x g = some g' ∧ oP FSt g g' ∧ MSt (st ++ [x]) g' := by
  have cn : Int32.toNatClampNeg (nI st.length) = st.length := nI_clamp (by omega)
  have e57 : hI (sI g 20 85 st.length x) 12 45 57 = nI st.length := by rw [hI_sI, if_neg (fun z => absurd z.1 (by decide))]; exact S.1
  refine ⟨sI (sI g 20 85 st.length x) 12 45 57 (nI (st.length + 1)), ?_, ((oP.rf _ g).sI _ (Or.inr ⟨rfl, rfl⟩)).sI _ (Or.inl ⟨rfl, rfl, rfl⟩), ?_, fun i hi => ?_⟩
  · unfold fX12_lays
    rw [gd_t (k_45 m), r12_45_55 m, gs_t, S.1, gd_t ⟨k_85 m, by rw [n_85 m]; exact inbI hl (by decide)⟩, lt_t, lt_t, cn, e57, nI_1]
  · rw [hI_sI, if_pos ⟨rfl, rfl, rfl⟩, List.length_append]
    rfl
  · rw [List.length_append] at hi
    have hi : i < st.length + 1 := hi
    rw [hI_sI, if_neg (fun z => absurd z.1 (by decide)), getI]
    by_cases d : i = st.length
    · rw [if_pos ⟨rfl, d⟩, gr (by omega), show i - st.length = 0 by omega]
      rfl
    · rw [if_neg (fun z => d z.2), gl (by omega)]
      exact S.2 i (by omega)
/-- what lies above is turned round -/
theorem rev_m {g : PH} (m : MSh g) {st L : List Int32} (S : MSt (st ++ L) g) (l1 : 1 ≤ L.length) (hl : (st ++ L).length ≤ 2000) : ∃ g', fX12_writesJoined_l174 45 (nI st.length) (nI (st.length + L.length) - 1) g = some g' ∧ oP FSt g g' ∧ MSt (st ++ L.reverse) g' := by
  rw [List.length_append] at hl
  have s57 : hI g 12 45 57 = nI (st.length + L.length) := by rw [S.1, List.length_append]
  have lp : ∀ (f j : Nat) (u : PH), L.length ≤ 2 * j + f → 2 * j ≤ L.length → oP FSt g u → hI u 12 45 57 = nI (st.length + L.length) → (∀ i, i < st.length → hI u 20 85 i = st.getD i 0) → (∀ i, i < L.length → hI u 20 85 (st.length + i) = if i < j ∨ L.length - 1 - i < j then L.getD (L.length - 1 - i) 0 else L.getD i 0) → ∃ g', fX12_writesJoined_l174 45 (nI (st.length + j)) (nI (st.length + (L.length - 1 - j))) u = some g' ∧ oP FSt g g' ∧ MSt (st ++ L.reverse) g' := by
    have fin : ∀ (j : Nat) (u : PH), 2 * j ≤ L.length → L.length - 1 - j ≤ j → oP FSt g u → hI u 12 45 57 = nI (st.length + L.length) → (∀ i, i < st.length → hI u 20 85 i = st.getD i 0) → (∀ i, i < L.length → hI u 20 85 (st.length + i) = if i < j ∨ L.length - 1 - i < j then L.getD (L.length - 1 - i) 0 else L.getD i 0) → ∃ g', fX12_writesJoined_l174 45 (nI (st.length + j)) (nI (st.length + (L.length - 1 - j))) u = some g' ∧ oP FSt g g' ∧ MSt (st ++ L.reverse) g' := fun j u hj he o e57 e1 e2 => by
      refine ⟨u, wh_done ?_, o, by rw [e57, List.length_append, List.length_reverse], fun i hi => ?_⟩
      · show fX12_writesJoined_c174 45 (nI (st.length + j)) (nI (st.length + (L.length - 1 - j))) u = _
        unfold fX12_writesJoined_c174
        rw [if_pos (nI_le (by omega) (by omega)), mr_t]
      · rw [List.length_append, List.length_reverse] at hi
        by_cases d : i < st.length
        · rw [gl d]; exact e1 i d
        · have := e2 (i - st.length) (by omega)
          rw [show st.length + (i - st.length) = i by omega] at this
          rw [this, gr (by omega), grev (by omega)]
          by_cases y : i - st.length < j ∨ L.length - 1 - (i - st.length) < j
          · rw [if_pos y]
          · rw [if_neg y, show L.length - 1 - (i - st.length) = i - st.length by omega]
    intro f
    induction f with
    | zero => exact fun j u h1 h2 o e57 e1 e2 => fin j u h2 (by omega) o e57 e1 e2
    | succ f ih =>
      intro j u h1 h2 o e57 e1 e2
      by_cases he : L.length - 1 - j ≤ j
      · exact fin j u h2 he o e57 e1 e2
      · have mu := m.oP o
        generalize hb : L.length - 1 - j = bj at he
        have ca : Int32.toNatClampNeg (nI (st.length + j)) = st.length + j := nI_clamp (by omega)
        have cb : Int32.toNatClampNeg (nI (st.length + bj)) = st.length + bj := nI_clamp (by omega)
        have ia : inb (nI (st.length + j)) (hN u 85) := by rw [n_85 mu]; exact inbI (by omega) (by decide)
        have ib : inb (nI (st.length + bj)) (hN u 85) := by rw [n_85 mu]; exact inbI (by omega) (by decide)
        have o1 : oP FSt g (sI u 20 85 (st.length + j) (hI u 20 85 (st.length + bj))) := o.sI _ (Or.inr ⟨rfl, rfl⟩)
        have m1 := m.oP o1
        have o2 : oP FSt g (sI (sI u 20 85 (st.length + j) (hI u 20 85 (st.length + bj))) 20 85 (st.length + bj) (hI u 20 85 (st.length + j))) := o1.sI _ (Or.inr ⟨rfl, rfl⟩)
        have rd : ∀ k, hI (sI (sI u 20 85 (st.length + j) (hI u 20 85 (st.length + bj))) 20 85 (st.length + bj) (hI u 20 85 (st.length + j))) 20 85 k = if k = st.length + bj then hI u 20 85 (st.length + j) else if k = st.length + j then hI u 20 85 (st.length + bj) else hI u 20 85 k := fun k => by
          rw [getI, getI]
          by_cases d1 : k = st.length + bj
          · rw [if_pos ⟨rfl, d1⟩, if_pos d1]
          · rw [if_neg (fun z => d1 z.2), if_neg d1]
            by_cases d2 : k = st.length + j
            · rw [if_pos ⟨rfl, d2⟩, if_pos d2]
            · rw [if_neg (fun z => d2 z.2), if_neg d2]
        have st1 : fX12_writesJoined_c174 45 (nI (st.length + j)) (nI (st.length + bj)) u = some (.inl (nI (st.length + (j + 1)), nI (st.length + (L.length - 1 - (j + 1))), sI (sI u 20 85 (st.length + j) (hI u 20 85 (st.length + bj))) 20 85 (st.length + bj) (hI u 20 85 (st.length + j)))) := by
          have ea : nI (st.length + j) + 1 = nI (st.length + (j + 1)) := nI_1 (st.length + j)
          have eb : nI (st.length + bj) + (-1) = nI (st.length + (L.length - 1 - (j + 1))) := by
            obtain ⟨x, hx⟩ : ∃ x, bj = x + 1 := ⟨bj - 1, by omega⟩
            rw [hx, show st.length + (x + 1) = st.length + x + 1 by omega, pk_m1, show L.length - 1 - (j + 1) = x by omega]
          unfold fX12_writesJoined_c174
          rw [if_neg (show ¬ nI (st.length + bj) ≤ nI (st.length + j) from nI_ge (by omega) (by omega)), gd_t (k_45 mu), r12_45_55 mu, gs_t, gd_t ⟨k_85 mu, ia⟩, gs_t, gd_t ⟨k_85 mu, ib⟩, gd_t ia, lt_t]
          simp only [ca, cb]
          rw [r12_45_55 m1, gs_t, gd_t ⟨k_85 m1, by rw [n_85 m1]; exact inbI (by omega) (by decide)⟩, lt_t, ea, eb]
        obtain ⟨g', r1, r2⟩ := ih (j + 1) _ (by omega) (by omega) o2 (by rw [hI_sI, if_neg (fun z => absurd z.1 (by decide)), hI_sI, if_neg (fun z => absurd z.1 (by decide))]; exact e57) (fun i hi => by
          rw [rd, if_neg (by omega), if_neg (by omega)]
          exact e1 i hi) (fun i hi => by
          rw [rd]
          have ej := e2 j (by omega)
          rw [if_neg (by omega)] at ej
          have eb := e2 bj (by omega)
          rw [if_neg (by omega)] at eb
          by_cases d1 : i = bj
          · rw [if_pos (by omega), if_pos (Or.inr (by omega)), ej, show L.length - 1 - i = j by omega]
          · rw [if_neg (by omega)]
            by_cases d2 : i = j
            · rw [if_pos (by omega), if_pos (Or.inl (by omega)), eb, show L.length - 1 - i = bj by omega]
            · rw [if_neg (by omega), e2 i hi]
              by_cases y : i < j ∨ L.length - 1 - i < j
              · rw [if_pos y, if_pos (by omega)]
              · rw [if_neg y, if_neg (by omega)])
        refine ⟨g', wh_step (t := (nI (st.length + (j + 1)), nI (st.length + (L.length - 1 - (j + 1))), _)) ?_ r1, r2⟩
        exact st1
  have e0 : nI (st.length + L.length) - 1 = nI (st.length + (L.length - 1 - 0)) := by
    rw [show (1 : Int32) = nI 1 from rfl, pk_sub (by omega), show st.length + L.length - 1 = st.length + (L.length - 1 - 0) by omega]
  rw [e0]
  exact lp L.length 0 g (by omega) (by omega) (oP.rf _ g) s57 (fun i hi => by
    rw [S.2 i (by rw [List.length_append]; omega), gl hi]) (fun i hi => by
    rw [S.2 (st.length + i) (by rw [List.length_append]; omega), gr (by omega), if_neg (by omega), show st.length + i - st.length = i by omega])
/-- what is laid for the parts of a node -/
def itC (k kc : Nat) (r : Int32) : List Int32 := (if brk k kc then [-40] else []) ++ ([r] ++ (if brk k kc then [-41] else []))
def itJ (n k : Nat) : Bool → List (QT n) → Nat → List Int32
  | _, [], _ => []
  | f, c :: cs, lo => (if f then [] else [if k = 5 then -38 else -124]) ++ (itC k (knd n c) (nI (lo + sz n c - 1)) ++ itJ n k false cs (lo + sz n c))
theorem itC_len (k kc : Nat) (r : Int32) : 1 ≤ (itC k kc r).length ∧ (itC k kc r).length ≤ 3 := by
  unfold itC
  cases brk k kc <;> simp
theorem itJ_len (n k : Nat) : ∀ (f : Bool) (cs : List (QT n)) (lo : Nat), cs.length ≤ (itJ n k f cs lo).length ∧ (itJ n k f cs lo).length ≤ 4 * cs.length
  | _, [], _ => ⟨Nat.le_refl _, Nat.le_refl _⟩
  | f, c :: cs, lo => by
    have a := itJ_len n k false cs (lo + sz n c)
    have b := itC_len k (knd n c) (nI (lo + sz n c - 1))
    unfold itJ
    rw [List.length_append, List.length_append, List.length_cons]
    have s : ((if f then [] else [if k = 5 then -38 else -124] : List Int32)).length ≤ 1 := by cases f <;> simp
    omega
theorem QM.kd {h : PH} {q : Nat} : ∀ (n : Nat) (t : QT n) (lo : Nat), QM h q n t lo → hI h 20 60 (400 * q + (lo + sz n t - 1)) = nI (knd n t)
  | 0, _, lo, L => by
    show hI h 20 60 (400 * q + (lo + 1 - 1)) = _
    rw [Nat.add_sub_cancel]
    exact L.1.1
  | _ + 1, .inl _, lo, L => by
    show hI h 20 60 (400 * q + (lo + 1 - 1)) = _
    rw [Nat.add_sub_cancel]
    exact L.1.1
  | n + 1, .inr p, lo, L => by
    show hI h 20 60 (400 * q + (lo + ((p.2.map (sz n)).sum + 1) - 1)) = _
    rw [← Nat.add_assoc, Nat.add_sub_cancel]
    exact L.2.1
/-- the parts of a node are laid -/
theorem push_m {h : PH} (m : MSh h) {q k F n : Nat} (hq : q < 8) (hk : k < 8) (hF : F < 2000) : ∀ (cs : List (QT n)) (lo : Nat) (f : Bool) (st : List Int32) (g : PH) (fr : Int32), oP FWr h g → lnk (sz n) (fun i => hI h 20 65 (400 * q + i)) cs lo fr → atL (sz n) (QM h q n) cs lo → (∀ c ∈ cs, wfq n c) → lo + (cs.map (sz n)).sum ≤ 400 → MSt st g → F ≤ st.length → (f = true ↔ st.length = F) → st.length + (itJ n k f cs lo).length ≤ 2000 → ∃ g', (∀ r, wh (fun z : Int32 × PH => fX12_writesJoined_c44 45 (nI q) (nI k) (nI F) z.1 z.2) (-1, g') = some r → wh (fun z : Int32 × PH => fX12_writesJoined_c44 45 (nI q) (nI k) (nI F) z.1 z.2) (fr, g) = some r) ∧ oP FSt g g' ∧ MSt (st ++ itJ n k f cs lo) g' := by
  intro cs
  induction cs with
  | nil =>
    intro lo f st g fr og L _ _ _ S _ _ _
    have L : fr = -1 := L
    subst L
    exact ⟨g, fun r z => z, oP.rf _ g, by unfold itJ; rw [List.append_nil]; exact S⟩
  | cons c cs ih =>
    intro lo f st g fr og L X w hl S hFl hf hs
    rw [sum_cons] at hl
    have sc := sz_pos n c
    obtain ⟨rfl, L2⟩ := L
    have kd := QM.kd n c lo X.1
    have kl := knd_lt n c (w c List.mem_cons_self)
    have e1 : hI h 20 65 (400 * q + (lo + sz n c - 1)) = (fun i => hI h 20 65 (400 * q + i)) (lo + sz n c - 1) := rfl
    unfold itJ at hs ⊢
    rw [List.length_append, List.length_append] at hs
    generalize hr : lo + sz n c - 1 = r at L2 e1 kd hs ⊢
    have rb : r < 400 := by omega
    have cr : Int32.toNatClampNeg (nI (400 * q + r)) = 400 * q + r := nI_clamp (by omega)
    have ir : ∀ {u : PH} (a : Nat), hN u a = 3200 → inb (nI (400 * q + r)) (hN u a) := fun a e => by rw [e]; exact inbI (by omega) (by decide)
    have mg := m.oP og
    have blk : ∀ (u : PH), oP FSt g u → MSh u ∧ ∀ i k, 60 ≤ i → i ≤ 66 → hI u 20 i k = hI h 20 i k := fun u o => ⟨mg.oP o, fun i k h1 h2 => (o.1 20 i k (fun z => by unfold FSt at z; omega)).trans (og.1 20 i k (fun z => by unfold FWr at z; omega))⟩
    have b144 : ∀ (u : PH), oP FSt g u → fX12_writesJoined_b144 45 (nI q) (nI k) (nI F) (nI r) u = some (.inl (hI h 20 65 (400 * q + r), u)) := fun u o => by
      obtain ⟨mu, cu⟩ := blk u o
      unfold fX12_writesJoined_b144
      rw [gd_t (k_45 mu), r12_45_30 mu, gs_t, i400, gd_t ⟨k_65 mu, ir 65 (n_65 mu)⟩, cr, cu 65 _ (by decide) (by decide)]
    have ic := itC_len k (knd n c) (nI r)
    -- the part, in brackets or not
    have b116 : ∀ (u : PH) (as : List Int32), oP FSt g u → MSt as u → as.length + (itC k (knd n c) (nI r)).length ≤ 2000 → ∃ u', fX12_writesJoined_b116 45 (nI q) (nI k) (nI F) (nI r) (bI (brk k (knd n c))) u = some (.inl (hI h 20 65 (400 * q + r), u')) ∧ oP FSt g u' ∧ MSt (as ++ itC k (knd n c) (nI r)) u' := fun u as o Su hu => by
      obtain ⟨mu, cu⟩ := blk u o
      unfold itC at hu ⊢
      cases z : brk k (knd n c) with
      | false =>
        rw [z] at hu
        have hu : as.length + 1 ≤ 2000 := hu
        obtain ⟨u', r1, r2, r3⟩ := lays_m mu Su (by omega) (nI r)
        have o' := o.tr r2
        refine ⟨u', ?_, o', r3⟩
        unfold fX12_writesJoined_b116 fX12_writesJoined_b127
        rw [if_pos (show bI false = 0 from rfl), gd_t (k_45 mu), r1, bd_t, if_pos (show bI false = 0 from rfl)]
        exact b144 u' o'
      | true =>
        rw [z] at hu
        have hu : as.length + 3 ≤ 2000 := hu
        obtain ⟨u1, p1, p2, p3⟩ := lays_m mu Su (by omega) (-40)
        have o1 := o.tr p2
        obtain ⟨m1, c1⟩ := blk u1 o1
        obtain ⟨u2, q1, q2, q3⟩ := lays_m m1 p3 (by rw [List.length_append]; show as.length + 1 < 2000; omega) (nI r)
        have o2 := o1.tr q2
        obtain ⟨m2, c2⟩ := blk u2 o2
        obtain ⟨u3, r1, r2, r3⟩ := lays_m m2 q3 (by rw [List.length_append, List.length_append]; show as.length + 1 + 1 < 2000; omega) (-41)
        have o3 := o2.tr r2
        refine ⟨u3, ?_, o3, ?_⟩
        · unfold fX12_writesJoined_b116 fX12_writesJoined_b127
          rw [if_neg (show ¬ bI true = 0 by decide), gd_t (k_45 mu), p1, bd_t, gd_t (k_45 m1), q1, bd_t, if_neg (show ¬ bI true = 0 by decide), gd_t (k_45 m2), r1, bd_t]
          exact b144 u3 o3
        · rw [List.append_assoc, List.append_assoc] at r3
          exact r3
    have e5 : (nI k = 5) = (k = 5) := nIe (b := 5) (by omega) (by decide)
    have e6 : (nI k = 6) = (k = 6) := nIe (b := 6) (by omega) (by decide)
    have c5 : (nI (knd n c) = 5) = (knd n c = 5) := nIe (b := 5) (by omega) (by decide)
    have c6 : (nI (knd n c) = 6) = (knd n c = 6) := nIe (b := 6) (by omega) (by decide)
    obtain ⟨m0, c0⟩ := blk g (oP.rf _ g)
    have head : fX12_writesJoined_c44 45 (nI q) (nI k) (nI F) (nI r) g = fX12_writesJoined_b89 45 (nI q) (nI k) (nI F) (nI r) (bI (brk k (knd n c))) g := by
      unfold fX12_writesJoined_c44 fX12_writesJoined_b84 fX12_writesJoined_b88 brk
      rw [if_neg (nI_nm1 (by omega)), gd_t (k_45 mg), r12_45_25 mg, gs_t, i400, gd_t ⟨k_60 mg, ir 60 (n_60 mg)⟩, cr, c0 60 _ (by decide) (by decide), kd, ifp c6, ifn c5, ifp e6]
      by_cases z6 : knd n c = 6
      · rw [if_pos z6, decide_eq_true z6]
        rfl
      · rw [if_neg z6, decide_eq_false z6]
        by_cases z5 : knd n c = 5
        · rw [if_neg (fun y => y z5), decide_eq_true z5]
          by_cases y6 : k = 6
          · rw [if_pos y6, decide_eq_true y6]
            rfl
          · rw [if_neg y6, decide_eq_false y6]
            rfl
        · rw [if_pos z5, decide_eq_false z5]
          rfl
    have fin : ∀ (u : PH) (as : List Int32), as = (if f then [] else [if k = 5 then -38 else -124] : List Int32) → oP FSt g u → MSt (st ++ as) u → fX12_writesJoined_b89 45 (nI q) (nI k) (nI F) (nI r) (bI (brk k (knd n c))) g = fX12_writesJoined_b116 45 (nI q) (nI k) (nI F) (nI r) (bI (brk k (knd n c))) u → ∃ g', (∀ r', wh (fun z : Int32 × PH => fX12_writesJoined_c44 45 (nI q) (nI k) (nI F) z.1 z.2) (-1, g') = some r' → wh (fun z : Int32 × PH => fX12_writesJoined_c44 45 (nI q) (nI k) (nI F) z.1 z.2) (nI r, g) = some r') ∧ oP FSt g g' ∧ MSt (st ++ ((if f then [] else [if k = 5 then -38 else -124]) ++ (itC k (knd n c) (nI r) ++ itJ n k false cs (lo + sz n c)))) g' := fun u as ha o Su hb => by
      rw [← ha] at hs ⊢
      obtain ⟨u', r1, r2, r3⟩ := b116 u (st ++ as) o Su (by rw [List.length_append]; omega)
      have og' : oP FWr h u' := og.tr (r2.mono FSt_r)
      have ll : (st ++ as ++ itC k (knd n c) (nI r)).length = st.length + as.length + (itC k (knd n c) (nI r)).length := by rw [List.length_append, List.length_append]
      obtain ⟨g', j1, j2, j3⟩ := ih (lo + sz n c) false (st ++ as ++ itC k (knd n c) (nI r)) u' (hI h 20 65 (400 * q + r)) og' (by rw [e1]; exact L2) X.2 (fun d hd => w d (List.mem_cons_of_mem _ hd)) (by omega) r3 (by rw [ll]; omega) ⟨fun y => (by cases y), fun y => (by rw [ll] at y; omega)⟩ (by rw [ll]; omega)
      refine ⟨g', fun r' hr' => wh_step (t := (hI h 20 65 (400 * q + r), u')) ((head.trans hb).trans r1) (j1 r' hr'), r2.tr j2, ?_⟩
      rw [List.append_assoc, List.append_assoc] at j3
      exact j3
    cases f with
    | true =>
      have hst := hf.mp rfl
      refine fin g [] rfl (oP.rf _ g) (by rw [List.append_nil]; exact S) ?_
      unfold fX12_writesJoined_b89
      rw [gd_t (k_45 mg), S.1, if_pos (nI_le (by omega) (by omega))]
    | false =>
      have hst : st.length ≠ F := fun y => by
        have := hf.mpr y
        cases this
      have sgn : ∀ x : Int32, (if k = 5 then (-38) else (-124) : Int32) = x → fX12_writesJoined_b89 45 (nI q) (nI k) (nI F) (nI r) (bI (brk k (knd n c))) g = fX12_writesJoined_b113 45 (nI q) (nI k) (nI F) (nI r) (bI (brk k (knd n c))) (some 45) x g := fun x hx => by
        subst hx
        unfold fX12_writesJoined_b89
        have h1 : ((if false then [] else [if k = 5 then -38 else -124] : List Int32)).length = 1 := rfl
        rw [gd_t (k_45 mg), S.1, if_neg (nI_ge (by omega) (by omega)), ifn e5]
        by_cases z : k = 5
        · rw [if_neg (fun y => y z), if_pos z]
        · rw [if_pos z, if_neg z]
      have hs1 : st.length < 2000 := by
        have h1 : ((if false then [] else [if k = 5 then -38 else -124] : List Int32)).length = 1 := rfl
        rw [h1] at hs
        omega
      obtain ⟨u, r1, r2, r3⟩ := lays_m mg S hs1 (if k = 5 then (-38) else (-124))
      refine fin u _ rfl r2 r3 ?_
      rw [sgn _ rfl]
      unfold fX12_writesJoined_b113
      rw [gs_t, gd_t (k_45 mg), r1, bd_t]
