/-! THE CLASS GATHERS the simple parts -/
def LfsD (h : PH) (D : Nat → Prop) : List Nat → List L3 → Prop
  | [], [] => True
  | a :: as, l :: ls => LfD h D a l ∧ LfsD h D as ls
  | _, _ => False
theorem LfsD.app {h : PH} {D : Nat → Prop} : ∀ {as bs : List Nat} {ls ms : List L3}, LfsD h D as ls → LfsD h D bs ms → LfsD h D (as ++ bs) (ls ++ ms)
  | [], _, [], _, _, b => b
  | _ :: _, _, _ :: _, _, a, b => ⟨a.1, LfsD.app a.2 b⟩
  | [], _, _ :: _, _, a, _ => a.elim
  | _ :: _, _, [], _, a, _ => a.elim
theorem LfsD.len {h : PH} {D : Nat → Prop} : ∀ {as : List Nat} {ls : List L3}, LfsD h D as ls → as.length = ls.length
  | [], [], _ => rfl
  | _ :: _, _ :: _, a => by rw [List.length_cons, List.length_cons, LfsD.len a.2]
  | [], _ :: _, a => a.elim
  | _ :: _, [], a => a.elim
theorem LfsD.nth {h : PH} {D : Nat → Prop} : ∀ {as : List Nat} {ls : List L3}, LfsD h D as ls → ∀ i l, ls[i]? = some l → LfD h D (as.getD i 0) l
  | [], [], _, i, l, e => by cases e
  | a :: as, m :: ls, A, 0, l, e => by cases e; exact A.1
  | a :: as, m :: ls, A, i + 1, l, e => by
    rw [List.getElem?_cons_succ] at e
    exact LfsD.nth A.2 i l e
  | [], _ :: _, a, _, _, _ => a.elim
  | _ :: _, [], a, _, _, _ => a.elim
def GRn (h h' : PH) (e e' n c : Nat) : Prop := hX h' ≤ hX h + c ∧ hN h e ≤ hN h' e' ∧ hV h' + 4 * hN h e ≤ hV h + 4 * hN h' e' ∧ (hN h' e' = hN h e ∨ 2 * hN h' e' ≤ 3 * n + 20) ∧ (e' = e ∨ hX h ≤ e')
/-- the list grows, the query's cells stand -/
def gth (D : Nat → Prop) (l0 : Nat) (h h' : PH) (e e' : Nat) (xs as : List Nat) : Prop := LA h' l0 e' (xs ++ as) ∧ chg (lF l0) (lG l0 e) lL h h' ∧ GRn h h' e e' (xs.length + as.length) as.length
theorem gth.rf (D : Nat → Prop) {l0 : Nat} {h : PH} {e : Nat} {xs : List Nat} (A : LA h l0 e xs) : gth D l0 h h e e xs [] := ⟨by rw [List.append_nil]; exact A, chg.rf _ _ _ _, Nat.le_refl _, Nat.le_refl _, Nat.le_refl _, Or.inl rfl, Or.inl rfl⟩
theorem gth.tr {D : Nat → Prop} {l0 : Nat} {h h1 h2 : PH} {e e1 e2 : Nat} {xs as bs : List Nat} (x : gth D l0 h h1 e e1 xs as) (y : gth D l0 h1 h2 e1 e2 (xs ++ as) bs) : gth D l0 h h2 e e2 xs (as ++ bs) := by
  obtain ⟨a1, a2, a3, a4, a5, a6, a7⟩ := x
  obtain ⟨b1, b2, b3, b4, b5, b6, b7⟩ := y
  have l1 := a2.1
  rw [List.length_append] at b6
  refine ⟨by rw [← List.append_assoc]; exact b1, chg.tr2 a2 b2 (fun _ _ _ _ q => q) (fun c a k ha q => ?_) (fun _ _ q => q), ?_⟩
  · rcases q with q | q
    · exact Or.inl q
    · rcases a7 with z | z
      · exact Or.inr ⟨q.1, by rw [q.2, z]⟩
      · have := q.2; omega
  · refine ⟨by rw [List.length_append]; omega, by omega, by omega, by rw [List.length_append]; omega, by omega⟩
def sep (D : Nat → Prop) (h : PH) (l0 e : Nat) : Prop := ∀ x, D x → x < hX h ∧ x ≠ l0 ∧ x ≠ e
theorem gth.same {D : Nat → Prop} {l0 : Nat} {h h' : PH} {e e' : Nat} {xs as : List Nat} (s : sep D h l0 e) (x : gth D l0 h h' e e' xs as) : ∀ y, D y → same h h' y := fun y dy => by
  obtain ⟨s1, s2, s3⟩ := s y dy
  exact ⟨fun c k => x.2.1.2.1 c y k s1 (fun z => s2 z.2.1), fun c k => x.2.1.2.2.1 c y k s1 (fun z => z.elim (fun q => s2 q.2.1) (fun q => s3 q.2)), (x.2.1.2.2.2.2 y s1).1, (x.2.1.2.2.2.2 y s1).2⟩
theorem gth.sep {D : Nat → Prop} {l0 : Nat} {h h' : PH} {e e' : Nat} {xs as : List Nat} (s : sep D h l0 e) (x : gth D l0 h h' e e' xs as) : sep D h' l0 e' := fun y dy => by
  obtain ⟨s1, s2, s3⟩ := s y dy
  have := x.2.1.1
  have := x.2.2.2.2.2.2
  exact ⟨by omega, s2, by omega⟩
theorem gather_leaf {D : Nat → Prop} {h : PH} {a l0 e : Nat} {xs : List Nat} {l : L3} (L : LfD h D a l) (ok : okL3 l) (A : LA h l0 e xs) (hl : xs.length ≤ 4000) (s : sep D h l0 e) {g d : Nat} (hd : d ≤ 40) : ∃ e' h', g_X4_gatherSimple (g + 1) (some a) (some l0) (nI d) h = some h' ∧ gth D l0 h h' e e' xs [a] := by
  obtain ⟨da, b, c, db, dc, h1, h2, h3, h4, h5, h6, h7, h8⟩ := id L
  have sa := s a da
  obtain ⟨e', h', r1, r2, r3, r4, r5, r6, r7, r8⟩ := listAdd_eq A (by omega) (x := a) (by rw [h1]; decide) sa.1
  have gg : gth D l0 h h' e e' xs [a] := ⟨r2, r3, by show hX h' ≤ hX h + 1; exact r4, r5, r6, by have : ([a] : List Nat).length = 1 := rfl; omega, by omega⟩
  have Sm := gth.same s gg
  refine ⟨e', h', ?_, gg⟩
  have k4 : hK h' a = 4 := (Sm a da).2.2.1.trans h1
  have kc : hK h' c = 14 := (Sm c dc).2.2.1.trans h7
  show fX4_gatherSimple_R (g_X4_gatherSimple g) (some a) (some l0) (nI d) h = _
  unfold fX4_gatherSimple_R fX4_gatherSimple_R_b0 fX4_gatherSimple_R_b19 fX4_gatherSimple_R_b20
  rw [if_pos (show nI d ≤ (40 : Int32) from nI_le (b := 40) hd (by decide)), gs_t, gd_t h1, isSimple_t h1 h2 ok.1, bd_t, if_neg (by decide), gs_t, gd_t A.1, r1, bd_t]
  refine wh_done ?_
  show fX4_gatherSimple_R_c22 (g_X4_gatherSimple g) (some a) (some l0) (nI d) (nI 0) h' = _
  unfold fX4_gatherSimple_R_c22
  rw [gs_t, gd_t k4, (Sm a da).2.1, h6, gs_t, gd_t kc, list_size kc ((Sm c dc).1 14 2 |>.trans h8), bd_t, if_pos (Int32.le_refl _), mr_t]
theorem gather_eq {D : Nat → Prop} {l0 : Nat} : ∀ (n : Nat) (q : QT n) (h : PH) (a e : Nat) (xs : List Nat), QC h D n q a → wfq n q → LA h l0 e xs → xs.length + sz n q ≤ 4000 → sep D h l0 e → ∀ g d : Nat, n < g → d + n ≤ 40 → ∃ e' h' as, g_X4_gatherSimple g (some a) (some l0) (nI d) h = some h' ∧ gth D l0 h h' e e' xs as ∧ LfsD h' D as (lvs n q) := by
  intro n
  induction n with
  | zero =>
    intro q h a e xs L w A hl s g d hg hd
    obtain ⟨g, rfl⟩ : ∃ g', g = g' + 1 := ⟨g - 1, by omega⟩
    obtain ⟨e', h', r1, r2⟩ := gather_leaf (D := D) L w A (by omega) s (g := g) (d := d) (by omega)
    exact ⟨e', h', [a], r1, r2, LfD.mono L (fun x dx => ⟨dx, gth.same s r2 x dx⟩), trivial⟩
  | succ n ih =>
    intro q h a e xs L w A hl s g d hg hd
    obtain ⟨g, rfl⟩ : ∃ g', g = g' + 1 := ⟨g - 1, by omega⟩
    rcases q with l | p
    · obtain ⟨e', h', r1, r2⟩ := gather_leaf (D := D) (show LfD h D a l from L) w A (by have : sz (n + 1) (.inl l) = 1 := rfl; omega) s (g := g) (d := d) (by omega)
      exact ⟨e', h', [a], r1, r2, LfD.mono (show LfD h D a l from L) (fun x dx => ⟨dx, gth.same s r2 x dx⟩), trivial⟩
    · obtain ⟨da, l, ea, dl, de, h1, h2, h3, h4, h5, h6, h7, h8, h9⟩ := L
      obtain ⟨w1, w2, w3⟩ := w
      have k46 : 4 ≤ p.1 ∧ p.1 ≤ 6 := by
        rcases w1 with ⟨r, -⟩ | ⟨r, -⟩ <;> omega
      have hsz : sz (n + 1) (.inr p) = (p.2.map (sz n)).sum + 1 := rfl
      have lp : ∀ (m i : Nat) (h1' : PH) (e1 : Nat) (as : List Nat), i + m = p.2.length → gth D l0 h h1' e e1 xs as → LfsD h1' D as ((p.2.take i).map (lvs n)).flatten → as.length ≤ ((p.2.take i).map (sz n)).sum → ∃ e' h' as', fX4_gatherSimple_R_l22 (g_X4_gatherSimple g) (some a) (some l0) (nI d) (nI i) h1' = some h' ∧ gth D l0 h h' e e' xs as' ∧ LfsD h' D as' (p.2.map (lvs n)).flatten := by
        intro m
        induction m with
        | zero =>
          intro i h1' e1 as hi gg Ls hs
          have hi : i = p.2.length := by omega
          subst hi
          rw [List.take_length] at Ls
          have Sm := gth.same s gg
          refine ⟨e1, h1', as, wh_done ?_, gg, Ls⟩
          show fX4_gatherSimple_R_c22 (g_X4_gatherSimple g) (some a) (some l0) (nI d) (nI p.2.length) h1' = _
          have kl : hK h1' l = 14 := (Sm l dl).2.2.1.trans h4
          unfold fX4_gatherSimple_R_c22
          rw [gs_t, gd_t ((Sm a da).2.2.1.trans h1), (Sm a da).2.1, h3, gs_t, gd_t kl, list_size kl (((Sm l dl).1 14 2).trans h5), bd_t, if_pos (Int32.le_refl _), mr_t]
        | succ m ihm =>
          intro i h1' e1 as hi gg Ls hs
          have hi1 : i < p.2.length := by omega
          have Sm := gth.same s gg
          have s1 := gth.sep s gg
          obtain ⟨a', q1, q2⟩ := h9 i hi1
          have q2' : QC h1' D n p.2[i] a' := QC.mono (fun x dx => ⟨dx, Sm x dx⟩) n _ _ q2
          have hlt : ((p.2.take i).map (sz n)).sum + sz n p.2[i] ≤ (p.2.map (sz n)).sum := by
            have e1 := sum_take (sz n) p.2 hi1
            have e2 : ((p.2.take (i + 1)).map (sz n)).sum ≤ (p.2.map (sz n)).sum := by
              have := List.take_append_drop (i + 1) p.2
              have : (p.2.map (sz n)).sum = ((p.2.take (i + 1)).map (sz n)).sum + ((p.2.drop (i + 1)).map (sz n)).sum := by
                rw [← List.sum_append, ← List.map_append, this]
              omega
            omega
          obtain ⟨e2, h2', bs, r1, r2, r3⟩ := ih p.2[i] h1' a' e1 (xs ++ as) q2' (w3 _ (List.getElem_mem hi1)) gg.1 (by rw [List.length_append]; omega) s1 g (d + 1) (by omega) (by omega)
          have gg2 := gg.tr r2
          have Ls1 : LfsD h2' D as ((p.2.take i).map (lvs n)).flatten := by
            have S2 := gth.same s1 r2
            have mono : ∀ {as : List Nat} {ls : List L3}, LfsD h1' D as ls → LfsD h2' D as ls := by
              intro as
              induction as with
              | nil => intro ls A; cases ls with
                       | nil => trivial
                       | cons _ _ => exact A.elim
              | cons a as ih3 => intro ls A; cases ls with
                       | nil => exact A.elim
                       | cons l ls => exact ⟨LfD.mono A.1 (fun x dx => ⟨dx, S2 x dx⟩), ih3 A.2⟩
            exact mono Ls
          have bl := r3.len
          have bs2 : (lvs n p.2[i]).length ≤ sz n p.2[i] := by
            rw [← flat_lvs, ← flat_len]
            exact List.length_filterMap_le _ _
          obtain ⟨e', h', as', t1, t2, t3⟩ := ihm (i + 1) h2' e2 (as ++ bs) (by omega) gg2 (by
            rw [← List.take_append_getElem hi1, List.map_append, List.flatten_append]
            exact Ls1.app (by
              rw [List.map_singleton, List.flatten_singleton]
              exact r3)) (by
            rw [sum_take (sz n) p.2 hi1, List.length_append]
            omega)
          refine ⟨e', h', as', wh_step (t := (nI (i + 1), h2')) ?_ t1, t2, t3⟩
          have kl : hK h1' l = 14 := (Sm l dl).2.2.1.trans h4
          have ka : hK h1' a' = 4 := QC_4 n _ _ q2'
          have ke : hK h1' ea = 28 := (Sm ea de).2.2.1.trans h7
          have lg := list_get kl (((Sm l dl).1 14 2).trans h5) (((Sm l dl).2.1 14 1).trans h6) ke (by rw [(Sm ea de).2.2.2]; exact h8) (by omega) hi1 (((Sm ea de).2.1 28 i).trans q1)
          show fX4_gatherSimple_R_c22 (g_X4_gatherSimple g) (some a) (some l0) (nI d) (nI i) h1' = _
          unfold fX4_gatherSimple_R_c22 fX4_gatherSimple_R_b51
          rw [gs_t, gd_t ((Sm a da).2.2.1.trans h1), (Sm a da).2.1, h3, gs_t, gd_t kl, list_size kl (((Sm l dl).1 14 2).trans h5), bd_t, if_neg (nI_ge hi1 (by omega)), gs_t, gd_t kl, lg, bd_t, gs_t, gd_t ka, nI_1, r1, bd_t, nI_1]
      obtain ⟨e', h', as', t1, t2, t3⟩ := lp p.2.length 0 h e [] (by omega) (gth.rf D A) trivial (Nat.zero_le _)
      refine ⟨e', h', as', ?_, t2, t3⟩
      show fX4_gatherSimple_R (g_X4_gatherSimple g) (some a) (some l0) (nI d) h = _
      unfold fX4_gatherSimple_R fX4_gatherSimple_R_b0 fX4_gatherSimple_R_b20
      rw [if_pos (show nI d ≤ (40 : Int32) from nI_le (b := 40) (by omega) (by decide)), gs_t, gd_t h1, isSimple_f h1 h2 k46.1 (by omega), bd_t, if_pos rfl]
      exact t1
