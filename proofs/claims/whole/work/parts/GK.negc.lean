/-! THE CLASS NEGATES a query -/
def nq (g g' : PH) : Prop := chg (fun _ _ _ => False) G3a (fun _ => False) g g'
theorem nq_cpQ {g g' : PH} (x : nq g g') : cpQ g g' := x.mono (fun _ _ _ _ z => z.elim) (fun _ _ _ _ z => z) (fun _ _ z => z)
theorem nc_nq {g g' : PH} (x : nc g g') : nq g g' := x.mono (fun _ _ _ _ z => z) (fun _ _ _ _ z => z.elim) (fun _ _ z => z)
theorem same_nq {g g' : PH} (x : nq g g') {y : Nat} (h1 : 89 ≤ y) (h2 : y < hX g) : same g g' y := same_cpQ (nq_cpQ x) h1 h2
theorem LA.nq {g g2 : PH} (c : CSh g) {l e : Nat} {as : List Nat} (A : LA g l e as) (y : nq g g2) : LA g2 l e as := by
  by_cases z : e = 3
  · subst z
    obtain ⟨k1, k2, k3, k4, k5, k6, k7, k8, k9, k10, k11, k12⟩ := A
    have l0 : as.length = 0 := by have := n_3 c; omega
    have k0 : as = [] := List.length_eq_zero_iff.mp l0
    subst k0
    have he := y.2.2.2.2 3 k11
    exact ⟨(y.2.2.2.2 l k10).1.trans k1, (y.2.1 14 l 2 k10 (fun q => q)).trans k2, (y.2.2.1 14 l 1 k10 (fun q => absurd q.1 (by decide))).trans k3, he.1.trans k4, by rw [he.2]; exact k5, fun i hi => absurd hi (Nat.not_lt_zero _), by rw [he.2]; exact k7, fun x hx => absurd hx List.not_mem_nil, by rw [he.2]; exact k9, Nat.lt_of_lt_of_le k10 y.1, Nat.lt_of_lt_of_le k11 y.1, fun x hx => absurd hx List.not_mem_nil⟩
  · exact A.chg y (fun q => q) (fun q => absurd q.1 (by decide)) (fun k q => z q.2)
/-- one more in a list of at most 19 -/
theorem add_1 {g : PH} {l e x : Nat} {as : List Nat} (A : LA g l e as) (hl : as.length ≤ 19) (hx : hK g x < 15) (hx2 : x < hX g) : ∃ e' g3, fJx4a65c_add_9ea2d l (some x) g = some (1, g3) ∧ LA g3 l e' (as ++ [x]) ∧ chg (lF l) (lG l e) lL g g3 ∧ (e' = e ∨ e' = hX g) ∧ hX g ≤ hX g3 ∧ hX g3 ≤ hX g + 1 ∧ hV g3 ≤ hV g + 30 := by
  rcases Nat.lt_or_ge as.length (hN g e) with z | z
  · obtain ⟨g3, p1, p2, p3, p4, p5, p6⟩ := listAdd_room A (by omega) z hx hx2
    exact ⟨e, g3, p1, p2, p3, Or.inl rfl, by omega, by omega, by omega⟩
  · have zf : as.length = hN g e := by have := A.2.2.2.2.1; omega
    obtain ⟨g3, p1, p2, p3, p4, p5, p6⟩ := listAdd_full A (by omega) zf hx hx2
    have cu : capU (hN g e) ≤ 30 := by
      unfold capU
      split
      · decide
      · omega
    exact ⟨hX g, g3, p1, p2, p3, Or.inr rfl, by omega, by omega, by omega⟩
def ND (D : Nat → Prop) (g0 g : PH) (a l e x : Nat) : Prop := (D x ∨ ivl (hX g0) (hX g) x) ∧ x ≠ a ∧ x ≠ l ∧ x ≠ e
/-- a node with the parts xs so far -/
def NS (D : Nat → Prop) {n : Nat} (kd : Nat) (g0 : PH) (a l : Nat) (xs : List (QT n)) (g : PH) : Prop := ∃ e as, LA g l e as ∧ as.length = xs.length ∧ nq g0 g ∧ (hX g0 ≤ a ∧ a < hX g ∧ a ≠ l ∧ a ≠ e ∧ hX g0 ≤ l ∧ (e = 3 ∨ hX g0 ≤ e)) ∧ (hK g a = 4 ∧ hI g 4 a 0 = nI kd ∧ hR g 4 a 3 = some l) ∧ ∀ (i : Nat) (hi : i < xs.length), QC g (ND D g0 g a l e) n xs[i] (as.getD i 0)
theorem NS.add {D : Nat → Prop} {n kd : Nat} {g0 g g2 : PH} {a l : Nat} {xs : List (QT n)} (dD : ∀ x, D x → 89 ≤ x ∧ x < hX g0) (b : 89 ≤ hX g0) (c : CSh g) (J : NS D kd g0 a l xs g) (l19 : xs.length ≤ 19) {x : QT n} {a' : Nat} (y : nq g g2) (K : QC g2 (fun v => (D v ∨ ivl (hX g) (hX g2) v) ∧ v < hX g2) n x a') (Kn : ∀ v, D v → v < hX g) : hK g2 a = 4 ∧ hR g2 4 a 3 = some l ∧ hK g2 l = 14 ∧ ∃ g3, fJx4a65c_add_9ea2d l (some a') g2 = some (1, g3) ∧ NS D kd g0 a l (xs ++ [x]) g3 ∧ hX g3 ≤ hX g2 + 1 ∧ hV g3 ≤ hV g2 + 30 := by
  obtain ⟨e, as, A, la, x0, ⟨b1, b2, b3, b4, b5, b6⟩, ⟨d1, d2, d3⟩, q⟩ := J
  have kl := A.2.2.2.2.2.2.2.2.2.1
  have ke := A.2.2.2.2.2.2.2.2.2.2.1
  have ch : hX g ≤ hX g2 := y.1
  have Sa := same_nq y (y := a) (by omega) b2
  have A2 := A.nq c y
  have ka' := QC.k K
  obtain ⟨e', g3, p1, p2, p3, p4, p5, p6, p7⟩ := add_1 A2 (by omega) (x := a') (by rw [ka'.1]; decide) ka'.2.2
  refine ⟨Sa.2.2.1.trans d1, (Sa.2.1 4 3).trans d3, A2.1, g3, p1, ?_, p6, p7⟩
  have x0g : hX g0 ≤ hX g := x0.1
  have sm : ∀ v, v < hX g2 → v ≠ l → v ≠ e → same g2 g3 v := fun v v1 v2 v3 => same_l p3 v1 v2 v3
  have Sa3 := sm a (by omega) b3 b4
  have cp3 : nq g0 g3 := chg.tr2 (chg.tr x0 y) p3 (fun c v k hv z => by have := z.2.1; omega) (fun c v k hv z => z.elim (fun t => by have := t.2.1; omega) (fun t => by
    rcases b6 with u | u
    · exact ⟨t.1, t.2.trans u⟩
    · have := t.2; omega)) (fun _ _ z => z.elim)
  have ll : (xs ++ [x]).length = xs.length + 1 := List.length_append ..
  refine ⟨e', as ++ [a'], p2, by rw [List.length_append, la, ll]; rfl, cp3, ⟨b1, by omega, b3, by omega, b5, by omega⟩, ⟨Sa3.2.2.1.trans (Sa.2.2.1.trans d1), (Sa3.1 4 0).trans ((Sa.1 4 0).trans d2), (Sa3.2.1 4 3).trans ((Sa.2.1 4 3).trans d3)⟩, fun i hi => ?_⟩
  rw [ll] at hi
  by_cases d : i = xs.length
  · subst d
    rw [List.getElem_append_right (Nat.le_refl _), app_getD (by omega), if_pos la.symm]
    simp only [Nat.sub_self, List.getElem_cons_zero]
    refine QC.mono (fun v dv => ?_) n x a' K
    obtain ⟨dv, vl⟩ := dv
    rcases dv with dv | dv
    · have := dD v dv
      exact ⟨⟨Or.inl dv, by omega, by omega, by omega⟩, sm v vl (by omega) (by omega)⟩
    · have := dv.1
      exact ⟨⟨Or.inr ⟨by omega, by omega⟩, by omega, by omega, by omega⟩, sm v vl (by omega) (by omega)⟩
  · rw [List.getElem_append_left (by omega), app_getD (by omega), if_neg (by omega)]
    refine QC.mono (fun v dv => ?_) n _ _ (q i (by omega))
    obtain ⟨dv, v3, v4, v5⟩ := dv
    have vg : 89 ≤ v ∧ v < hX g := by
      rcases dv with dv | dv
      · have := dD v dv; omega
      · have := dv.1; have := dv.2; omega
    refine ⟨⟨?_, v3, v4, by omega⟩, (same_nq y vg.1 vg.2).tr (sm v (by omega) v4 v5)⟩
    rcases dv with dv | dv
    · exact Or.inl dv
    · exact Or.inr ⟨dv.1, by omega⟩
theorem NS.new {D : Nat → Prop} {n kd : Nat} {g0 : PH} (c : CSh g0) (b : 89 ≤ hX g0) : ∃ g, fX4_joined (nI kd) g0 = some (some (hX g0), g) ∧ NS D (n := n) kd g0 (hX g0) (hX g0 + 1) [] g ∧ hX g = hX g0 + 2 ∧ hV g = hV g0 + 7 := by
  obtain ⟨g, f1, f2, f3, f4, f5, f6, f7, f8⟩ := node_new c b kd
  exact ⟨g, f1, ⟨3, [], f8, rfl, nc_nq f2, ⟨Nat.le_refl _, by omega, by omega, by omega, by omega, Or.inl rfl⟩, ⟨f5, f6, f7⟩, fun i hi => absurd hi (Nat.not_lt_zero _)⟩, f3, f4⟩
theorem NS.fin {D : Nat → Prop} {n kd : Nat} {g0 g : PH} {a l : Nat} {xs : List (QT n)} (c : CSh g) (J : NS D kd g0 a l xs g) (h1 : 1 ≤ xs.length) : QC g (fun v => D v ∨ ivl (hX g0) (hX g) v) (n + 1) (.inr (kd, xs)) a := by
  obtain ⟨e, as, A, la, x0, ⟨b1, b2, b3, b4, b5, b6⟩, ⟨d1, d2, d3⟩, q⟩ := J
  obtain ⟨k1, k2, k3, k4, k5, k6, k7, k8, k9, k10, k11, k12⟩ := A
  have e3 : hX g0 ≤ e := by
    rcases b6 with u | u
    · subst u
      have := n_3 c
      omega
    · exact u
  refine ⟨Or.inr ⟨b1, b2⟩, l, e, Or.inr ⟨b5, k10⟩, Or.inr ⟨e3, k11⟩, d1, d2, d3, k1, ?_, k3, k4, ?_, fun i hi => ⟨as.getD i 0, k6 i (by rw [la]; exact hi), ?_⟩⟩
  · rw [k2, la]
  · show xs.length ≤ _
    rw [← la]; exact k5
  · exact QC.mono (fun y dy => ⟨dy.1, fun _ _ => rfl, fun _ _ => rfl, rfl, rfl⟩) n _ _ (q i hi)
theorem QC.nq {g g2 : PH} {D : Nat → Prop} {n : Nat} {q : QT n} {a : Nat} (C : QC g D n q a) (dD : ∀ x, D x → 89 ≤ x ∧ x < hX g) (y : nq g g2) : QC g2 D n q a := QC.mono (fun v dv => ⟨dv, same_nq y (dD v dv).1 (dD v dv).2⟩) n q a C
theorem not_eq {D : Nat → Prop} {n : Nat} {q : QT n} {g : PH} {a : Nat} (c : CSh g) (b : 89 ≤ hX g) (dD : ∀ x, D x → 89 ≤ x ∧ x < hX g) (C : QC g D n q a) : ∃ a' g', fX4_not (some a) g = some (some a', g') ∧ nq g g' ∧ QC g' (fun x => D x ∨ ivl (hX g) (hX g') x) (n + 1) (.inr (4, [q])) a' ∧ hX g' ≤ hX g + 3 ∧ hV g' ≤ hV g + 37 := by
  obtain ⟨g1, f1, f2, f3, f4⟩ := NS.new (D := D) (n := n) (kd := 4) c b
  have n1 := f2
  obtain ⟨e, as, A, la, x0, -, -, -⟩ := f2
  have c1 := c.Q b (nq_cpQ x0)
  obtain ⟨k1, k2, k3, g3, k4, k5, k6, k7⟩ := n1.add dD b c1 (Nat.zero_le 19) (chg.rf _ _ _ g1) (x := q) (a' := a) (QC.mono (fun v dv => ⟨⟨Or.inl dv, by have := dD v dv; omega⟩, fun _ _ => rfl, fun _ _ => rfl, rfl, rfl⟩) n q a (C.nq dD x0)) (fun v dv => by have := dD v dv; omega)
  have k5' := k5
  obtain ⟨_, _, _, _, x3, _, _, _⟩ := k5
  have c3 := c.Q b (nq_cpQ x3)
  refine ⟨hX g, g3, ?_, x3, NS.fin c3 k5' (Nat.le_refl 1), by omega, by omega⟩
  unfold fX4_not fX4_not_b0 fX4_not_b4 fX4_not_b13
  rw [show fX4_joined (4 : Int32) g = _ from f1, bd_t, gs_t, gd_t k1, k2, gs_t, gd_t k3, k4, bd_t]
theorem negated_eq {D : Nat → Prop} : ∀ (n : Nat) (q : QT n), wfq n q → gdq n q → ∀ (g : PH) (a : Nat), CSh g → 89 ≤ hX g → (∀ x, D x → 89 ≤ x ∧ x < hX g) → QC g D n q a → ∀ k d : Nat, n < k → d + n ≤ 40 → ∃ a' g', g_X4_negated k (some a) (nI d) g = some (some a', g') ∧ nq g g' ∧ QC g' (fun x => D x ∨ ivl (hX g) (hX g') x) n (ngq n q) a' ∧ hX g' + 4 ≤ hX g + 7 * wsm n q ∧ hV g' + 67 ≤ hV g + 104 * wsm n q := by
  intro n
  induction n with
  | zero => exact fun q w z => False.elim z
  | succ n ih =>
    intro q w z g a c b dD L k d hk hd
    obtain ⟨k, rfl⟩ : ∃ k', k = k' + 1 := ⟨k - 1, by omega⟩
    have d40 : ¬ (40 : Int32) < nI d := by
      show ¬ nI 40 < nI d
      rw [nI_ltI (by decide) (by omega)]
      omega
    rcases q with l | ⟨kd, cs⟩
    · have L : LfD g D a l := L
      have ok : okL3 l := w
      have C := L.c
      have h1 : hK g a = 4 := by obtain ⟨b, c, h1, -⟩ := C; exact h1
      have h2 : hI g 4 a 0 = nI l.1 := by obtain ⟨b, c, -, h2, -⟩ := C; exact h2
      obtain ⟨a', g', f1, f2, f3, f4, f5⟩ := not_eq c b dD (lf0_QC (n := n) L)
      have wl := (okL.len ok).1
      refine ⟨a', g', ?_, f2, f3, ?_, ?_⟩
      · show fX4_negated_R (g_X4_negated k) (some a) (nI d) g = _
        unfold fX4_negated_R fX4_negated_R_b0 fX4_negated_R_b13 fX4_negated_R_b17
        rw [if_neg d40, gs_t, gd_t h1, isSimple_t h1 h2 ok.1, bd_t, if_neg (show ¬ (1 : Int32) = 0 by decide), f1, bd_t]
      · show hX g' + 4 ≤ hX g + 7 * l.2.1.length
        omega
      · show hV g' + 67 ≤ hV g + 104 * l.2.1.length
        omega
    · have Q0 := L
      obtain ⟨da, l, e, dl, de, h1, h2, h3, h4, h5, h6, h7, h8, h9⟩ := L
      have w0 := w
      obtain ⟨w1, w2, w3⟩ := w
      have w2 : cs.length ≤ 20 := w2
      have h2 : hI g 4 a 0 = nI kd := h2
      have h5 : hI g 14 l 2 = nI cs.length := h5
      have h8 : cs.length ≤ hN g e := h8
      have k46 : 4 ≤ kd ∧ kd ≤ 6 := by
        rcases w1 with ⟨r, -⟩ | ⟨r, -⟩
        · have r : kd = 4 := r
          omega
        · have r : kd = 5 ∨ kd = 6 := r
          omega
      have e4 : (nI kd = 4) = (kd = 4) := nIe (b := 4) (by omega) (by decide)
      have e5 : (nI kd = 5) = (kd = 5) := nIe (b := 5) (by omega) (by decide)
      by_cases y4 : kd = 4
      · subst y4
        rcases w1 with ⟨-, l1⟩ | ⟨r, -⟩
        · obtain ⟨x, hc⟩ := List.length_eq_one_iff.mp l1
          have hc : cs = [x] := hc
          subst hc
          obtain ⟨a', q1, q2⟩ := h9 0 Nat.one_pos
          have q2 : QC g D n x a' := q2
          have ka := QC.k q2
          have wp := wsm_pos n x (w3 x List.mem_cons_self)
          refine ⟨a', g, ?_, chg.rf _ _ _ g, QC.mono (fun v dv => ⟨Or.inl dv, fun _ _ => rfl, fun _ _ => rfl, rfl, rfl⟩) (n + 1) _ a' (lft_QC n x a' q2), ?_, ?_⟩
          · have gt := list_get h4 h5 h6 h7 h8 (by omega) (i := 0) Nat.one_pos q1
            show fX4_negated_R (g_X4_negated k) (some a) (nI d) g = _
            unfold fX4_negated_R fX4_negated_R_b0
            rw [if_neg d40, gs_t, gd_t h1, isSimple_f (k := 4) h1 h2 (by decide) (by decide), bd_t, if_pos rfl, h2, if_neg (fun t => t rfl), h3, gs_t, gd_t h4, list_size h4 h5, bd_t, if_neg (show ¬ nI ([x] : List (QT n)).length ≤ 0 by show ¬ nI 1 ≤ 0; decide), gs_t, gd_t h4, show fJx4a65c_get_915e3 l 0 g = _ from gt, bd_t, gs_t, gd_t ka.1]
          · show hX g + 4 ≤ hX g + 7 * (wsm n x + 0)
            omega
          · show hV g + 67 ≤ hV g + 104 * (wsm n x + 0)
            omega
        · exact r.elim (fun r => absurd (show (4 : Nat) = 5 from r) (by decide)) (fun r => absurd (show (4 : Nat) = 6 from r) (by decide))
      · have l2 : 2 ≤ cs.length := by
          rcases w1 with ⟨r, -⟩ | ⟨-, r⟩
          · exact absurd r y4
          · exact r
        have zc : ∀ c ∈ cs, gdq n c := by
          rcases z with z | z
          · exact absurd z y4
          · exact z
        rw [ngq_j n y4]
        -- the loop over the parts
        have lp : ∀ (f i : Nat) (u : PH) (a2 l2 : Nat), i + f = cs.length → NS D (if kd = 5 then 6 else 5) g a2 l2 ((cs.take i).map (ngq n)) u → hX u + 3 * i ≤ hX g + 2 + 7 * ((cs.take i).map (wsm n)).sum → hV u + 37 * i ≤ hV g + 7 + 104 * ((cs.take i).map (wsm n)).sum → ∃ u', fX4_negated_R_l68 (g_X4_negated k) (some a) (nI d) (some a2) (nI i) u = some (some a2, u') ∧ NS D (if kd = 5 then 6 else 5) g a2 l2 (cs.map (ngq n)) u' ∧ hX u' + 3 * cs.length ≤ hX g + 2 + 7 * (cs.map (wsm n)).sum ∧ hV u' + 37 * cs.length ≤ hV g + 7 + 104 * (cs.map (wsm n)).sum := by
          intro f
          induction f with
          | zero =>
            intro i u a2 l2 hi J x1 x2
            have hi : i = cs.length := by omega
            subst hi
            rw [List.take_length] at J x1 x2
            have J' := J
            obtain ⟨_, _, _, _, x0, _, _, _⟩ := J
            have sm : ∀ v, D v → same g u v := fun v dv => same_nq x0 (dD v dv).1 (dD v dv).2
            refine ⟨u, wh_done ?_, J', x1, x2⟩
            show fX4_negated_R_c68 (g_X4_negated k) (some a) (nI d) (some a2) (nI cs.length) u = _
            unfold fX4_negated_R_c68
            rw [gs_t, gd_t ((sm a da).2.2.1.trans h1), (sm a da).2.1 4 3, h3, gs_t, gd_t ((sm l dl).2.2.1.trans h4), list_size ((sm l dl).2.2.1.trans h4) (((sm l dl).1 14 2).trans h5), bd_t, if_pos (nI_le (Nat.le_refl _) (by omega)), mr_t]
          | succ f ihf =>
            intro i u a2 l2 hi J x1 x2
            have hl : i < cs.length := by omega
            have J' := J
            obtain ⟨e2, as2, A2, la2, x0, ⟨b1, b2, b3, b4, b5, b6⟩, ⟨d1, d2, d3⟩, -⟩ := J
            have cu := c.Q b (nq_cpQ x0)
            have xu : hX g ≤ hX u := x0.1
            have sm : ∀ v, D v → same g u v := fun v dv => same_nq x0 (dD v dv).1 (dD v dv).2
            obtain ⟨ac, q1, q2⟩ := h9 i hl
            have q2 : QC g D n cs[i] ac := q2
            have qu := q2.nq dD x0
            have dDu : ∀ x, D x → 89 ≤ x ∧ x < hX u := fun x dx => by have := dD x dx; omega
            obtain ⟨a', u1, r1, r2, r3, r4, r5⟩ := ih cs[i] (w3 _ (List.getElem_mem hl)) (zc _ (List.getElem_mem hl)) u ac cu (by omega) dDu qu k (d + 1) (by omega) (by omega)
            have xu1 : hX u ≤ hX u1 := r2.1
            obtain ⟨k1, k2, k3, u2, k4, k5, k6, k7⟩ := J'.add dD b cu (by rw [List.length_map, List.length_take]; omega) r2 (QC.mono (fun v dv => ⟨⟨dv, by
              rcases dv with dv | dv
              · have := dDu v dv; omega
              · exact dv.2⟩, fun _ _ => rfl, fun _ _ => rfl, rfl, rfl⟩) n _ a' r3) (fun v dv => (dDu v dv).2)
            have tk : cs.take (i + 1) = cs.take i ++ [cs[i]] := (List.take_append_getElem hl).symm
            have e1 : (cs.take (i + 1)).map (ngq n) = (cs.take i).map (ngq n) ++ [ngq n cs[i]] := by rw [tk, List.map_append]; rfl
            have e2' : ((cs.take (i + 1)).map (wsm n)).sum = ((cs.take i).map (wsm n)).sum + wsm n cs[i] := by
              rw [tk, List.map_append, List.sum_append]
              show _ + (wsm n cs[i] + 0) = _
              omega
            obtain ⟨u', p1, p2⟩ := ihf (i + 1) u2 a2 l2 (by omega) (by rw [e1]; exact k5) (by rw [e2']; omega) (by rw [e2']; omega)
            refine ⟨u', wh_step (t := (nI (i + 1), u2)) ?_ p1, p2⟩
            show fX4_negated_R_c68 (g_X4_negated k) (some a) (nI d) (some a2) (nI i) u = _
            have hk4 := (sm a da).2.2.1.trans h1
            have hk14 := (sm l dl).2.2.1.trans h4
            have hs := ((sm l dl).1 14 2).trans h5
            have gt := list_get hk14 hs (((sm l dl).2.1 14 1).trans h6) ((sm e de).2.2.1.trans h7) (by rw [(sm e de).2.2.2]; exact h8) (by omega) hl (((sm e de).2.1 28 i).trans q1)
            unfold fX4_negated_R_c68 fX4_negated_R_b100 fX4_negated_R_b103
            rw [gs_t, gd_t hk4, (sm a da).2.1 4 3, h3, gs_t, gd_t hk14, list_size hk14 hs, bd_t, if_neg (nI_ge hl (by omega)), gs_t, gd_t d1, gs_t, gd_t hk14, gt, bd_t, gs_t, gd_t (QC.k qu).1, nI_1 d, r1, bd_t, d3, gs_t, gd_t k3, k4, bd_t, nI_1 i]
        obtain ⟨u0, f1, f2, f3, f4⟩ := NS.new (D := D) (n := n) (kd := if kd = 5 then 6 else 5) c b
        obtain ⟨u', p1, p2, p3, p4⟩ := lp cs.length 0 u0 (hX g) (hX g + 1) (Nat.zero_add _) f2 (by rw [List.take_zero]; show hX u0 + 0 ≤ hX g + 2 + 0; omega) (by rw [List.take_zero]; show hV u0 + 0 ≤ hV g + 7 + 0; omega)
        have p2' := p2
        obtain ⟨_, _, _, _, x0, _, _, _⟩ := p2
        have cu := c.Q b (nq_cpQ x0)
        refine ⟨hX g, u', ?_, x0, NS.fin cu p2' (by rw [List.length_map]; omega), ?_, ?_⟩
        · have jn : ∀ j : Int32, j = nI (if kd = 5 then 6 else 5) → fX4_negated_R_b62 (g_X4_negated k) (some a) (nI d) j g = some (some (hX g), u') := fun j hj => by
            subst hj
            unfold fX4_negated_R_b62 fX4_negated_R_b65
            rw [f1, bd_t]
            exact p1
          show fX4_negated_R (g_X4_negated k) (some a) (nI d) g = _
          unfold fX4_negated_R fX4_negated_R_b0 fX4_negated_R_b48
          rw [if_neg d40, gs_t, gd_t h1, isSimple_f h1 h2 k46.1 (by omega), bd_t, if_pos rfl, h2, ifn e4, if_pos y4, gs_t, gd_t h1, h2, ifn e5]
          by_cases y5 : kd = 5
          · rw [if_neg (fun t => t y5)]
            exact jn 6 (by rw [if_pos y5]; rfl)
          · rw [if_pos y5]
            exact jn 5 (by rw [if_neg y5]; rfl)
        · show hX u' + 4 ≤ hX g + 7 * (cs.map (wsm n)).sum
          omega
        · show hV u' + 67 ≤ hV g + 104 * (cs.map (wsm n)).sum
          omega
