/-! THE REFERENCE WRITES, third: a query -/
def spI (n k : Nat) : Bool → List (QT n) → List Nat
  | _, [] => []
  | f, c :: cs => (if f then [] else [if k = 5 then 38 else 124]) ++ (spC k (spQ n c) (knd n c) ++ spI n k false cs)
theorem spI_f (n k : Nat) : ∀ cs : List (QT n), spI n k false cs = (cs.map (fun c => [if k = 5 then 38 else 124] ++ spC k (spQ n c) (knd n c))).flatten
  | [] => rfl
  | c :: cs => by
    rw [List.map_cons, List.flatten_cons, ← spI_f n k cs, List.append_assoc]
    rfl
theorem spI_J (n k : Nat) (cs : List (QT n)) : spJ k (cs.map (fun c => (spQ n c, knd n c))) = spI n k true cs := by
  cases cs with
  | nil => rfl
  | cons c cs =>
    show spC k (spQ n c) (knd n c) ++ ((cs.map (fun c => (spQ n c, knd n c))).map (fun d => [if k = 5 then 38 else 124] ++ spC k d.1 d.2)).flatten = [] ++ (spC k (spQ n c) (knd n c) ++ spI n k false cs)
    rw [List.nil_append, spI_f, List.map_map]
    rfl
/-- from one heap to another, items of the stack written -/
def gw (q : Nat) (g g' : PH) : Prop := ∀ r, wh (fun z : PH => fX12_write_c35 45 (nI q) z) g' = some r → wh (fun z : PH => fX12_write_c35 45 (nI q) z) g = some r
theorem gw.tr {q : Nat} {g g' g'' : PH} (x : gw q g g') (y : gw q g' g'') : gw q g g'' := fun r h => x r (y r h)
/-- the last is taken -/
theorem pop_m {g : PH} (m : MSh g) {q : Nat} {st : List Int32} {s : Int32} (S : MSt (st ++ [s]) g) (hl : st.length < 2000) : ∃ g1, oP FSt g g1 ∧ MSt st g1 ∧ hI g1 20 85 st.length = s ∧ (∀ x, (¬ (0 : Int32) ≤ s) → (0 : Int32) - s = nI x → fX12_write_c35 45 (nI q) g = bd (fX12_writes 45 (nI x) g1) (fun z26 => fX12_write_b107 45 (nI q) z26)) ∧ (∀ r k, r < 400 → q < 8 → s = nI r → k < 8 → hI g1 20 60 (400 * q + r) = nI k → fX12_write_c35 45 (nI q) g = if 4 ≤ k then bd (fX12_writesJoined 45 (nI q) (nI r) g1) (fun z24 => fX12_write_b107 45 (nI q) z24) else bd (fX12_writesSimple 45 (nI q) (nI r) g1) (fun z25 => fX12_write_b107 45 (nI q) z25)) := by
  have ll : (st ++ [s]).length = st.length + 1 := List.length_append ..
  have cn : Int32.toNatClampNeg (nI st.length) = st.length := nI_clamp (by omega)
  have s57 : hI g 12 45 57 = nI (st.length + 1) := by rw [S.1, ll]
  have o1 : oP FSt g (sI g 12 45 57 (nI st.length)) := (oP.rf _ g).sI _ (Or.inl ⟨rfl, rfl, rfl⟩)
  have m1 := m.oP o1
  have e57 : hI (sI g 12 45 57 (nI st.length)) 12 45 57 = nI st.length := by rw [hI_sI, if_pos ⟨rfl, rfl, rfl⟩]
  have r85 : ∀ i, hI (sI g 12 45 57 (nI st.length)) 20 85 i = hI g 20 85 i := fun i => by rw [hI_sI, if_neg (fun z => absurd z.1 (by decide))]
  have es : hI (sI g 12 45 57 (nI st.length)) 20 85 st.length = s := by
    rw [r85, S.2 st.length (by omega), gr (Nat.le_refl _), Nat.sub_self]
    rfl
  have hd : ∀ (X : PH → Option (PH ⊕ (Int32 × PH))), (gd (hK g 45 = 12) (if ((hI g 12 45 57) ≤ 0) then X g else lt (sI g 12 45 57 ((hI g 12 45 57) - (1 : Int32))) (fun h15 => X h15))) = X (sI g 12 45 57 (nI st.length)) := fun X => by
    rw [gd_t (k_45 m), s57, if_neg (show ¬ nI (st.length + 1) ≤ (0 : Int32) from show ¬ nI (st.length + 1) ≤ nI 0 from nI_ge (by omega) (by omega)), lt_t, show (1 : Int32) = nI 1 from rfl, pk_sub (by omega), Nat.add_sub_cancel]
  have i85 : hK (sI g 12 45 57 (nI st.length)) 85 = 20 ∧ inb (nI st.length) (hN (sI g 12 45 57 (nI st.length)) 85) := ⟨k_85 m1, by rw [n_85 m1]; exact inbI hl (by decide)⟩
  refine ⟨_, o1, ⟨e57, fun i hi => by rw [r85, S.2 i (by omega), gl hi]⟩, es, fun x h1 h2 => ?_, fun r k hr hq e hk e60 => ?_⟩
  · unfold fX12_write_c35
    rw [gd_t (k_45 m), s57, if_neg (show ¬ nI (st.length + 1) ≤ (0 : Int32) from show ¬ nI (st.length + 1) ≤ nI 0 from nI_ge (by omega) (by omega)), lt_t, show (1 : Int32) = nI 1 from rfl, pk_sub (by omega), Nat.add_sub_cancel, r12_45_55 m1, gs_t, e57, gd_t i85, cn, es, if_neg h1, h2]
  · have cq : Int32.toNatClampNeg (nI (400 * q + r)) = 400 * q + r := nI_clamp (by omega)
    have e4 : ((4 : Int32) ≤ nI k) = (4 ≤ k) := propext (nI_leI (a := 4) (by decide) (by omega))
    unfold fX12_write_c35
    rw [gd_t (k_45 m), s57, if_neg (show ¬ nI (st.length + 1) ≤ (0 : Int32) from show ¬ nI (st.length + 1) ≤ nI 0 from nI_ge (by omega) (by omega)), lt_t, show (1 : Int32) = nI 1 from rfl, pk_sub (by omega), Nat.add_sub_cancel, r12_45_55 m1, gs_t, e57, gd_t i85, cn, es, e, if_pos (show (0 : Int32) ≤ nI r from show nI 0 ≤ nI r from nI_le (Nat.zero_le _) (by omega)), r12_45_25 m1, gs_t, i400, gd_t ⟨k_60 m1, by rw [n_60 m1]; exact inbI (by omega) (by decide)⟩, cq, e60, ifp e4]
/-- a sign of the stack is written -/
theorem sign_m {g : PH} (m : MSh g) {q : Nat} {st : List Int32} {s : Int32} {x : Nat} (h1 : ¬ (0 : Int32) ≤ s) (h2 : (0 : Int32) - s = nI x) (S : MSt (st ++ [s]) g) (hl : st.length < 2000) {ws : List Nat} (W : MWt ws g) (hw : ws.length < 2000) : ∃ g', gw q g g' ∧ oP FWr g g' ∧ MSt st g' ∧ MWt (ws ++ [x]) g' := by
  obtain ⟨g1, o1, S1, -, p1, -⟩ := pop_m m (q := q) S hl
  have m1 := m.oP o1
  obtain ⟨g2, r1, r2, r3⟩ := writes_eq m1 (W.st o1) hw x
  refine ⟨g2, fun r hr => wh_step (t := g2) ?_ hr, (o1.mono FSt_r).tr (r2.mono FWt_r), S1.wt r2, r3⟩
  show fX12_write_c35 45 (nI q) g = _
  rw [p1 x h1 h2, r1, bd_t]
  rfl
theorem rev_c {α : Type} (st : List α) (x : α) (X : List α) : st ++ (x :: X).reverse = (st ++ X.reverse) ++ [x] := by
  rw [List.reverse_cons, List.append_assoc]
theorem wr_m {h : PH} (m : MSh h) {q : Nat} (hq : q < 8) : ∀ (n : Nat) (Q : QT n) (lo : Nat) (st : List Int32) (ws : List Nat) (g : PH), oP FWr h g → QM h q n Q lo → wfq n Q → lo + sz n Q ≤ 400 → MSt (st ++ [nI (lo + sz n Q - 1)]) g → MWt ws g → ws.length + (spQ n Q).length ≤ 2000 → st.length + 4 * sz n Q ≤ 2000 → ∃ g', gw q g g' ∧ oP FWr h g' ∧ MSt st g' ∧ MWt (ws ++ spQ n Q) g' := by
  have leaf : ∀ (l : L3) (lo : Nat) (st : List Int32) (ws : List Nat) (g : PH), oP FWr h g → LfM3 h q lo l → okL3 l → lo + 1 ≤ 400 → MSt (st ++ [nI lo]) g → MWt ws g → ws.length + (spL l).length ≤ 2000 → st.length + 4 ≤ 2000 → ∃ g', gw q g g' ∧ oP FWr h g' ∧ MSt st g' ∧ MWt (ws ++ spL l) g' := fun l lo st ws g og L ok hl S W hw hs => by
    have mg := m.oP og
    have kl : l.1 < 4 := ok.1
    obtain ⟨g1, o1, S1, -, -, p2⟩ := pop_m mg (q := q) S (by omega)
    have og1 := og.tr (o1.mono FSt_r)
    have e60 : hI g1 20 60 (400 * q + lo) = nI l.1 := (og1.1 20 60 _ (fun z => by unfold FWr at z; omega)).trans L.1.1
    obtain ⟨g2, r1, r2, r3⟩ := writesSimple_eq m hq (show lo < 400 by omega) L ok og1 (W.st o1) hw
    refine ⟨g2, fun r hr => wh_step (t := g2) ?_ hr, og1.tr (r2.mono FWt_r), S1.wt r2, r3⟩
    show fX12_write_c35 45 (nI q) g = _
    rw [p2 lo l.1 (by omega) hq rfl (by omega) e60, if_neg (by omega), r1, bd_t]
    rfl
  intro n
  induction n with
  | zero => exact fun Q lo st ws g og L w hl S W hw hs => leaf Q lo st ws g og L w hl S W hw hs
  | succ n ih =>
    intro Q lo st ws g og L w hl S W hw hs
    rcases Q with l | ⟨kd, cs⟩
    · exact leaf l lo st ws g og L w hl S W hw hs
    · obtain ⟨h1, h2, h3⟩ := L
      obtain ⟨w1, w2, w3⟩ := w
      have w3 : ∀ c ∈ cs, wfq n c := w3
      have w1 : (kd = 4 ∧ cs.length = 1) ∨ ((kd = 5 ∨ kd = 6) ∧ 2 ≤ cs.length) := w1
      have h1 : atL (sz n) (QM h q n) cs lo := h1
      have h2 : hI h 20 60 (400 * q + (lo + (cs.map (sz n)).sum)) = nI kd := h2
      have h3 : lnk (sz n) (fun i => hI h 20 65 (400 * q + i)) cs lo (hI h 20 64 (400 * q + (lo + (cs.map (sz n)).sum))) := h3
      have hl : lo + ((cs.map (sz n)).sum + 1) ≤ 400 := hl
      have hs : st.length + 4 * ((cs.map (sz n)).sum + 1) ≤ 2000 := hs
      have S : MSt (st ++ [nI (lo + ((cs.map (sz n)).sum + 1) - 1)]) g := S
      have k46 : 4 ≤ kd ∧ kd ≤ 6 := by omega
      have e4 : (nI kd = 4) = (kd = 4) := nIe (b := 4) (by omega) (by decide)
      have ez : spQ (n + 1) (.inr (kd, cs)) = (if kd = 4 then [33] else []) ++ spI n kd true cs := by
        show (if kd = 4 then [33] else []) ++ spJ kd (cs.map (fun c => (spQ n c, knd n c))) = _
        rw [spI_J]
      rw [ez] at hw ⊢
      rw [List.length_append] at hw
      have sl := sz_len cs
      generalize hb : (cs.map (sz n)).sum = sm0 at *
      rw [show lo + (sm0 + 1) - 1 = lo + sm0 by omega] at S
      have mg := m.oP og
      obtain ⟨g1, o1, S1, -, -, p2⟩ := pop_m mg (q := q) S (by omega)
      have og1 := og.tr (o1.mono FSt_r)
      have m1 := m.oP og1
      have e60 : hI g1 20 60 (400 * q + (lo + sm0)) = nI kd := (og1.1 20 60 _ (fun z => by unfold FWr at z; omega)).trans h2
      have st0 := p2 (lo + sm0) kd (by omega) hq rfl (by omega) e60
      rw [if_pos k46.1] at st0
      have cr : Int32.toNatClampNeg (nI (400 * q + (lo + sm0))) = 400 * q + (lo + sm0) := nI_clamp (by omega)
      have ir : ∀ {u : PH} (a : Nat), hN u a = 3200 → inb (nI (400 * q + (lo + sm0))) (hN u a) := fun a e => by rw [e]; exact inbI (by omega) (by decide)
      have W1 := W.st o1
      -- the parts are laid and turned round
      have b24 : ∀ (u : PH) (vs : List Nat), oP FWt g1 u → MWt vs u → ∃ u', fX12_writesJoined_b24 45 (nI q) (nI (lo + sm0)) (nI kd) u = some u' ∧ oP FSt u u' ∧ MSt (st ++ (itJ n kd true cs lo).reverse) u' := fun u vs o Wu => by
        have ou := og1.tr (o.mono FWt_r)
        have mu := m.oP ou
        have Su := S1.wt o
        have il := itJ_len n kd true cs lo
        obtain ⟨u1, r1, r2, r3⟩ := push_m m (k := kd) (F := st.length) hq (by omega) (by omega) cs lo true st u _ ou h3 h1 w3 (by omega) Su (Nat.le_refl _) ⟨fun _ => rfl, fun _ => rfl⟩ (by omega)
        have mu1 := mu.oP r2
        have c1 : 1 ≤ cs.length := by omega
        obtain ⟨u2, j1, j2, j3⟩ := rev_m mu1 r3 (by omega) (by rw [List.length_append]; omega)
        refine ⟨u2, ?_, r2.tr j2, j3⟩
        have e64 : hI u 20 64 (400 * q + (lo + sm0)) = hI h 20 64 (400 * q + (lo + sm0)) := ou.1 20 64 _ (fun z => by unfold FWr at z; omega)
        have s57 : hI u1 12 45 57 = nI (st.length + (itJ n kd true cs lo).length) := by rw [r3.1, List.length_append]
        unfold fX12_writesJoined_b24
        rw [gd_t (k_45 mu), r12_45_29 mu, gs_t, i400, gd_t ⟨k_64 mu, ir 64 (n_64 mu)⟩, cr, e64, Su.1]
        unfold fX12_writesJoined_l44
        refine r1 u2 (wh_done ?_)
        show fX12_writesJoined_c44 45 (nI q) (nI kd) (nI st.length) (-1) u1 = _
        unfold fX12_writesJoined_c44
        rw [if_pos rfl, gd_t (k_45 mu1), s57, j1, mr_t]
      have jn : ∃ u vs, fX12_writesJoined 45 (nI q) (nI (lo + sm0)) g1 = some u ∧ vs = ws ++ (if kd = 4 then [33] else []) ∧ oP FWr g1 u ∧ MSt (st ++ (itJ n kd true cs lo).reverse) u ∧ MWt vs u := by
        unfold fX12_writesJoined
        rw [gd_t (k_45 m1), r12_45_25 m1, gs_t, i400, gd_t ⟨k_60 m1, ir 60 (n_60 m1)⟩, cr, e60, ifn e4]
        by_cases z : kd = 4
        · rw [if_pos z] at hw
          have l33 : ([33] : List Nat).length = 1 := rfl
          obtain ⟨u1, f1, f2, f3⟩ := writes_eq m1 W1 (by omega) 33
          obtain ⟨u2, j1, j2, j3⟩ := b24 u1 _ f2 f3
          refine ⟨u2, _, ?_, rfl, (f2.mono FWt_r).tr (j2.mono FSt_r), j3, ?_⟩
          · rw [if_neg (fun y => y z), show fX12_writes 45 (33 : Int32) g1 = _ from f1, bd_t]
            exact j1
          · rw [if_pos z]
            exact f3.st j2
        · obtain ⟨u2, j1, j2, j3⟩ := b24 g1 _ (oP.rf _ g1) W1
          refine ⟨u2, _, ?_, rfl, j2.mono FSt_r, j3, ?_⟩
          · rw [if_pos z]
            exact j1
          · rw [if_neg z, List.append_nil]
            exact W1.st j2
      obtain ⟨u, vs, f1, f2, f3, f4, f5⟩ := jn
      -- the items one after another
      have its : ∀ (cs : List (QT n)) (lo : Nat) (f : Bool) (st : List Int32) (vs : List Nat) (u : PH), oP FWr h u → atL (sz n) (QM h q n) cs lo → (∀ c ∈ cs, wfq n c) → lo + (cs.map (sz n)).sum ≤ 400 → MSt (st ++ (itJ n kd f cs lo).reverse) u → MWt vs u → vs.length + (spI n kd f cs).length ≤ 2000 → st.length + 4 * (cs.map (sz n)).sum + 1 ≤ 2000 → ∃ u', gw q u u' ∧ oP FWr h u' ∧ MSt st u' ∧ MWt (vs ++ spI n kd f cs) u' := by
        intro cs
        induction cs with
        | nil =>
          intro lo f st vs u ou _ _ _ Su Wu _ _
          refine ⟨u, fun r z => z, ou, ?_, ?_⟩
          · unfold itJ at Su
            rw [List.reverse_nil, List.append_nil] at Su
            exact Su
          · unfold spI
            rw [List.append_nil]
            exact Wu
        | cons c cs ihc =>
          intro lo f st vs u ou X w hl Su Wu hv hs
          rw [sum_cons] at hl hs
          have sc := sz_pos n c
          have sl := sz_len cs
          have il := itJ_len n kd false cs (lo + sz n c)
          unfold itJ at Su
          unfold spI at hv ⊢
          rw [List.length_append, List.length_append] at hv
          -- the part and what follows
          have rest : ∀ (u : PH) (vs : List Nat), oP FWr h u → MSt (st ++ (itC kd (knd n c) (nI (lo + sz n c - 1)) ++ itJ n kd false cs (lo + sz n c)).reverse) u → MWt vs u → vs.length + ((spC kd (spQ n c) (knd n c)).length + (spI n kd false cs).length) ≤ 2000 → ∃ u', gw q u u' ∧ oP FWr h u' ∧ MSt st u' ∧ MWt (vs ++ (spC kd (spQ n c) (knd n c) ++ spI n kd false cs)) u' := fun u vs ou Su Wu hv => by
            have nxt : ∀ (u : PH) (vs : List Nat), oP FWr h u → MSt (st ++ (itJ n kd false cs (lo + sz n c)).reverse) u → MWt vs u → vs.length + (spI n kd false cs).length ≤ 2000 → ∃ u', gw q u u' ∧ oP FWr h u' ∧ MSt st u' ∧ MWt (vs ++ spI n kd false cs) u' := fun u vs ou Su Wu hv => ihc (lo + sz n c) false st vs u ou X.2 (fun d hd => w d (List.mem_cons_of_mem _ hd)) (by omega) Su Wu hv (by omega)
            unfold itC at Su
            unfold spC at hv ⊢
            cases z : brk kd (knd n c) with
            | false =>
              rw [z] at Su hv
              have Su : MSt (st ++ (nI (lo + sz n c - 1) :: itJ n kd false cs (lo + sz n c)).reverse) u := Su
              have hv : vs.length + (([] ++ (spQ n c ++ []) : List Nat).length + (spI n kd false cs).length) ≤ 2000 := hv
              rw [List.nil_append, List.append_nil] at hv
              rw [rev_c] at Su
              obtain ⟨u1, a1, a2, a3, a4⟩ := ih c lo _ vs u ou X.1 (w c List.mem_cons_self) (by omega) Su Wu (by omega) (by rw [List.length_append, List.length_reverse]; omega)
              obtain ⟨u2, b1, b2, b3, b4⟩ := nxt u1 _ a2 a3 a4 (by rw [List.length_append]; omega)
              refine ⟨u2, a1.tr b1, b2, b3, ?_⟩
              show MWt (vs ++ (([] ++ (spQ n c ++ [])) ++ spI n kd false cs)) u2
              rw [List.nil_append, List.append_nil, ← List.append_assoc]
              exact b4
            | true =>
              rw [z] at Su hv
              have Su : MSt (st ++ ((-40) :: nI (lo + sz n c - 1) :: (-41) :: itJ n kd false cs (lo + sz n c)).reverse) u := Su
              have hv : vs.length + (([40] ++ (spQ n c ++ [41]) : List Nat).length + (spI n kd false cs).length) ≤ 2000 := hv
              rw [List.length_append, List.length_append] at hv
              have l40 : ([40] : List Nat).length = 1 := rfl
              have l41 : ([41] : List Nat).length = 1 := rfl
              rw [rev_c] at Su
              obtain ⟨u0, d1, d2, d3, d4⟩ := sign_m (m.oP ou) (q := q) (x := 40) (by decide) (by decide) Su (by rw [List.length_append, List.length_reverse, List.length_cons, List.length_cons]; omega) Wu (by omega)
              have ou0 := ou.tr d2
              rw [rev_c] at d3
              obtain ⟨u1, a1, a2, a3, a4⟩ := ih c lo _ _ u0 ou0 X.1 (w c List.mem_cons_self) (by omega) d3 d4 (by rw [List.length_append]; omega) (by rw [List.length_append, List.length_reverse, List.length_cons]; omega)
              rw [rev_c] at a3
              obtain ⟨u2, c1, c2, c3, c4⟩ := sign_m (m.oP a2) (q := q) (x := 41) (by decide) (by decide) a3 (by rw [List.length_append, List.length_reverse]; omega) a4 (by rw [List.length_append, List.length_append]; omega)
              obtain ⟨u3, b1, b2, b3, b4⟩ := nxt u2 _ (a2.tr c2) c3 c4 (by rw [List.length_append, List.length_append, List.length_append]; omega)
              refine ⟨u3, ((d1.tr a1).tr c1).tr b1, b2, b3, ?_⟩
              show MWt (vs ++ (([40] ++ (spQ n c ++ [41])) ++ spI n kd false cs)) u3
              rw [List.append_assoc, List.append_assoc, List.append_assoc] at b4
              rw [List.append_assoc, List.append_assoc]
              exact b4
          cases f with
          | true =>
            obtain ⟨u', r1, r2, r3, r4⟩ := rest u vs ou Su Wu (by have : ([] : List Nat).length = 0 := rfl; have hv : vs.length + (([] : List Nat).length + ((spC kd (spQ n c) (knd n c)).length + (spI n kd false cs).length)) ≤ 2000 := hv; omega)
            exact ⟨u', r1, r2, r3, r4⟩
          | false =>
            have hv : vs.length + (1 + ((spC kd (spQ n c) (knd n c)).length + (spI n kd false cs).length)) ≤ 2000 := hv
            have ic := itC_len kd (knd n c) (nI (lo + sz n c - 1))
            have sgn : ∀ (s : Int32) (x : Nat), (if kd = 5 then (-38) else (-124) : Int32) = s → (if kd = 5 then 38 else 124 : Nat) = x → ¬ (0 : Int32) ≤ s → (0 : Int32) - s = nI x → ∃ u', gw q u u' ∧ oP FWr h u' ∧ MSt st u' ∧ MWt (vs ++ ([if kd = 5 then 38 else 124] ++ (spC kd (spQ n c) (knd n c) ++ spI n kd false cs))) u' := fun s x e1 e2 h1 h2 => by
              have Su : MSt (st ++ ((if kd = 5 then (-38) else (-124) : Int32) :: (itC kd (knd n c) (nI (lo + sz n c - 1)) ++ itJ n kd false cs (lo + sz n c))).reverse) u := Su
              rw [e1, rev_c] at Su
              rw [e2]
              obtain ⟨u0, d1, d2, d3, d4⟩ := sign_m (m.oP ou) (q := q) h1 h2 Su (by rw [List.length_append, List.length_reverse, List.length_append]; omega) Wu (by omega)
              obtain ⟨u', r1, r2, r3, r4⟩ := rest u0 _ (ou.tr d2) d3 d4 (by rw [List.length_append]; show vs.length + 1 + _ ≤ 2000; omega)
              refine ⟨u', d1.tr r1, r2, r3, ?_⟩
              rw [← List.append_assoc vs]
              exact r4
            by_cases z : kd = 5
            · exact sgn (-38) 38 (if_pos z) (if_pos z) (by decide) (by decide)
            · exact sgn (-124) 124 (if_neg z) (if_neg z) (by decide) (by decide)
      have ou := og1.tr f3
      obtain ⟨u', r1, r2, r3, r4⟩ := its cs lo true st vs u ou h1 w3 (by omega) f4 f5 (by rw [f2, List.length_append]; omega) (by omega)
      refine ⟨u', fun r hr => wh_step (t := u) ?_ (r1 r hr), r2, r3, ?_⟩
      · show fX12_write_c35 45 (nI q) g = _
        rw [st0, f1, bd_t]
        rfl
      · rw [← List.append_assoc, ← f2]
        exact r4
