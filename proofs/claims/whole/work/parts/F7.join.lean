/-! THE CLASS READS what a sign joins -/
theorem same_cpQ {g g' : PH} (x : cpQ g g') {y : Nat} (h1 : 89 ≤ y) (h2 : y < hX g) : same g g' y := ⟨fun c k => x.2.1 c y k h2 (fun z => by have := FQ_a z; omega), fun c k => x.2.2.1 c y k h2 (fun z => by have := z.2; omega), (x.2.2.2.2 y h2).1, (x.2.2.2.2 y h2).2⟩
theorem same_l {g g' : PH} {l e : Nat} (x : chg (lF l) (lG l e) lL g g') {y : Nat} (h : y < hX g) (h1 : y ≠ l) (h2 : y ≠ e) : same g g' y := ⟨fun c k => x.2.1 c y k h (fun z => h1 z.2.1), fun c k => x.2.2.1 c y k h (fun z => z.elim (fun q => h1 q.2.1) (fun q => h2 q.2)), (x.2.2.2.2 y h).1, (x.2.2.2.2 y h).2⟩
theorem same.tr {g g' g'' : PH} {y : Nat} (a : same g g' y) (b : same g' g'' y) : same g g'' y := ⟨fun c k => (b.1 c k).trans (a.1 c k), fun c k => (b.2.1 c k).trans (a.2.1 c k), b.2.2.1.trans a.2.2.1, b.2.2.2.trans a.2.2.2⟩
theorem wsm_pos : ∀ (n : Nat) (q : QT n), wfq n q → 1 ≤ wsm n q
  | 0, _, w => (okL.len w).1
  | _ + 1, .inl _, w => (okL.len w).1
  | n + 1, .inr p, w => by
    obtain ⟨w1, w2, w3⟩ := w
    cases e : p.2 with
    | nil => rw [e] at w1; simp at w1
    | cons c cs =>
      have := wsm_pos n c (w3 c (by rw [e]; exact List.mem_cons_self))
      show 1 ≤ (p.2.map (wsm n)).sum
      rw [e, List.map_cons, List.sum_cons]
      omega
theorem wsm_len {n : Nat} : ∀ (xs : List (QT n)), (∀ x ∈ xs, wfq n x) → xs.length ≤ (xs.map (wsm n)).sum
  | [], _ => Nat.zero_le _
  | x :: xs, w => by
    have a := wsm_pos n x (w x List.mem_cons_self)
    have b := wsm_len xs (fun y hy => w y (List.mem_cons_of_mem _ hy))
    rw [List.map_cons, List.sum_cons, List.length_cons]
    omega
theorem QC.k {h : PH} {D : Nat → Prop} : ∀ {n : Nat} {q : QT n} {a : Nat}, QC h D n q a → hK h a = 4 ∧ D a
  | 0, _, _, L => by obtain ⟨d, b, c, -, -, h1, -⟩ := L; exact ⟨h1, d⟩
  | _ + 1, .inl _, _, L => by obtain ⟨d, b, c, -, -, h1, -⟩ := L; exact ⟨h1, d⟩
  | _ + 1, .inr _, _, L => by obtain ⟨d, b, c, -, -, h1, -⟩ := L; exact ⟨h1, d⟩
def jnT {α : Type} (bs : List Nat) (sg : Nat) (p : PS → PR α) : Nat → PS → List α → PR (List α)
  | 0, s, xs => .inr (xs, s)
  | f + 1, s, xs => if kT bs s = sg then (match p (nT bs s) with
    | .inl e => .inl e
    | .inr (x, s') => jnT bs sg p f s' (xs ++ [x])) else .inr (xs, s)
theorem jnT_app {α : Type} {bs : List Nat} {sg : Nat} {p : PS → PR α} : ∀ (f : Nat) (s : PS) (ys xs : List α), jnT bs sg p f s (ys ++ xs) = mapR (fun zs => ys ++ zs) (jnT bs sg p f s xs)
  | 0, _, _, _ => rfl
  | f + 1, s, ys, xs => by
    unfold jnT
    by_cases z : kT bs s = sg
    · rw [if_pos z, if_pos z]
      cases e : p (nT bs s) with
      | inl v => rfl
      | inr v => 
        show jnT bs sg p f v.2 (ys ++ xs ++ [v.1]) = mapR _ (jnT bs sg p f v.2 (xs ++ [v.1]))
        rw [List.append_assoc]
        exact jnT_app f v.2 ys (xs ++ [v.1])
    · rw [if_neg z, if_neg z]; rfl
theorem jnP_T {α : Type} {bs : List Nat} {sg : Nat} {p : PS → PR α} : ∀ (f : Nat) (s : PS), jnP bs sg p f s = (match p s with
    | .inl e => .inl e
    | .inr (x, s') => jnT bs sg p f s' [x])
  | 0, s => by
    unfold jnP
    cases e : p s with
    | inl v => rfl
    | inr v => rfl
  | f + 1, s => by
    unfold jnP
    cases e : p s with
    | inl v => rfl
    | inr v =>
      show (if kT bs v.2 = sg then (match jnP bs sg p f (nT bs v.2) with
        | .inl e => .inl e
        | .inr (xs, s'') => .inr (v.1 :: xs, s'')) else .inr ([v.1], v.2)) = jnT bs sg p (f + 1) v.2 [v.1]
      unfold jnT
      by_cases z : kT bs v.2 = sg
      · rw [if_pos z, if_pos z, jnP_T f (nT bs v.2)]
        cases e2 : p (nT bs v.2) with
        | inl u => rfl
        | inr u =>
          show (match jnT bs sg p f u.2 [u.1] with
            | .inl e => .inl e
            | .inr (xs, s'') => .inr (v.1 :: xs, s'')) = jnT bs sg p f u.2 ([v.1] ++ [u.1])
          rw [jnT_app f u.2 [v.1] [u.1]]
          cases jnT bs sg p f u.2 [u.1] with
          | inl w => rfl
          | inr w => rfl
      · rw [if_neg z, if_neg z]
def RDF (bs : List Nat) {n : Nat} (p : PS → PR (QT n)) (rc : PH → Option (Option Nat × PH)) : Prop := ∀ (g : PH) (s : PS), CSh g → 89 ≤ hX g → TC bs g → CRs bs s g → ∃ x g', rc g = some (x, g') ∧ RD bs (p s) s g x g'
def JD (g0 g : PH) (a l e : Nat) (x : Nat) : Prop := ivl (hX g0) (hX g) x ∧ x ≠ a ∧ x ≠ l ∧ x ≠ e
/-- a node with the parts xs so far -/
def JS (bs : List Nat) {n : Nat} (kd : Nat) (g0 : PH) (s0 : PS) (a l : Nat) (xs : List (QT n)) (s' : PS) (g : PH) : Prop := ∃ e as, LA g l e as ∧ as.length = xs.length ∧ cpQ g0 g ∧ CRs bs s' g ∧ hI g 6 13 7 = hI g0 6 13 7 ∧ (hX g0 ≤ a ∧ a < hX g ∧ a ≠ l ∧ a ≠ e ∧ hX g0 ≤ l ∧ hX g0 ≤ e) ∧ (hK g a = 4 ∧ hI g 4 a 0 = nI kd ∧ hR g 4 a 3 = some l) ∧ (∀ (i : Nat) (hi : i < xs.length), QC g (JD g0 g a l e) n xs[i] (as.getD i 0)) ∧ (∀ x ∈ xs, wfq n x) ∧ 1 ≤ xs.length ∧ s0.1 + (xs.map (sz n)).sum + xs.length ≤ s'.1 + 1 ∧ (xs.map (wsm n)).sum + s0.2 = s'.2 ∧ hX g ≤ hX g0 + 3 * (s'.1 - s0.1) + (if xs.length = 1 then 3 else 0) ∧ 10 ≤ hN g e ∧ 2 * hN g e ≤ 3 * xs.length + 20 ∧ hV g + 40 * xs.length ≤ hV g0 + 40 * (s'.1 - s0.1) + 17 + 4 * hN g e
theorem sz_len {n : Nat} : ∀ (xs : List (QT n)), xs.length ≤ (xs.map (sz n)).sum
  | [] => Nat.zero_le _
  | x :: xs => by
    have a := sz_pos n x
    have b := sz_len xs
    rw [List.map_cons, List.sum_cons, List.length_cons]
    omega
/-- the node is whole -/
theorem JS.fin {bs : List Nat} {n kd : Nat} {g0 g : PH} {s0 s' : PS} {a l : Nat} {xs : List (QT n)} (J : JS bs kd g0 s0 a l xs s' g) : QC g (ivl (hX g0) (hX g)) (n + 1) (.inr (kd, xs)) a ∧ xs.length ≤ 20 := by
  obtain ⟨e, as, A, la, x, R, e7, ⟨b1, b2, b3, b4, b5, b6⟩, ⟨d1, d2, d3⟩, q, w, m1, z1, z2, -⟩ := J
  obtain ⟨k1, k2, k3, k4, k5, k6, k7, k8, k9, k10, k11, k12⟩ := A
  have := wsm_len xs w
  have := R.2.2
  refine ⟨⟨⟨b1, b2⟩, l, e, ⟨b5, k10⟩, ⟨b6, k11⟩, d1, d2, d3, k1, ?_, k3, k4, ?_, fun i hi => ⟨as.getD i 0, k6 i (by rw [la]; exact hi), ?_⟩⟩, by omega⟩
  · rw [k2, la]
  · show xs.length ≤ _
    rw [← la]; exact k5
  · exact QC.mono (fun y dy => ⟨dy.1, fun _ _ => rfl, fun _ _ => rfl, rfl, rfl⟩) n _ _ (q i hi)
/-- one more part -/
theorem JS.add {bs : List Nat} {n kd : Nat} {g0 g g1 g2 : PH} {s0 s' s1 s'' : PS} {a l : Nat} {xs : List (QT n)} (b : 89 ≤ hX g0) (J : JS bs kd g0 s0 a l xs s' g) (o : cpQ g g1) (ox : hX g1 = hX g) (ov : hV g1 = hV g) (o7 : hI g1 6 13 7 = hI g 6 13 7) (o1 : s'.1 < s1.1) (o2 : s1.2 = s'.2) {x : QT n} {a' : Nat} (y : cpQ g1 g2) (K : okRD bs x s1 s'' g1 a' g2) : hK g2 a = 4 ∧ hR g2 4 a 3 = some l ∧ hK g2 l = 14 ∧ ∃ g3, fJx4a65c_add_9ea2d l (some a') g2 = some (1, g3) ∧ JS bs kd g0 s0 a l (xs ++ [x]) s'' g3 := by
  obtain ⟨e, as, A, la, x0, R, e7, ⟨b1, b2, b3, b4, b5, b6⟩, ⟨d1, d2, d3⟩, q, w, m1, z1, z2, u1, u2, u3, u4⟩ := J
  obtain ⟨r1, r2, r3, r4, r5, r6, r7, r8, r9⟩ := K
  have oy := chg.tr o y
  have kl := A.2.2.2.2.2.2.2.2.2.1
  have ke := A.2.2.2.2.2.2.2.2.2.2.1
  have Sa := same_cpQ oy (y := a) (by omega) b2
  have Sl := same_cpQ oy (y := l) (by omega) kl
  have Se := same_cpQ oy (y := e) (by omega) ke
  have ch : hX g ≤ hX g2 := oy.1
  have A2 : LA g2 l e as := A.chg oy (fun z => by have := FQ_a z; omega) (fun z => by have := z.2; omega) (fun k z => by have := z.2; omega)
  have w20 := wsm_len xs w
  have rr : s''.2 ≤ 20 := r2.2.2
  have ka' := QC.k r1
  have l20 : as.length ≤ 20 := by omega
  -- the list with one more
  have fin : ∀ e' g3, LA g3 l e' (as ++ [a']) → chg (lF l) (lG l e) lL g2 g3 → (e' = e ∨ e' = hX g2) → hX g2 ≤ hX g3 → hX g3 ≤ hX g2 + (if xs.length = 1 then 0 else 1) → 10 ≤ hN g3 e' → 2 * hN g3 e' ≤ 3 * (xs.length + 1) + 20 → hV g3 + 4 * hN g e ≤ hV g2 + 4 * hN g3 e' → JS bs kd g0 s0 a l (xs ++ [x]) s'' g3 := by
    intro e' g3 A3 c3 he hx3 hx4 n1 n2 n3
    have sm : ∀ v, v < hX g2 → v ≠ l → v ≠ e → same g2 g3 v := fun v v1 v2 v3 => same_l c3 v1 v2 v3
    have Sa3 := sm a (by omega) b3 b4
    have cp3 : cpQ g0 g3 := chg.tr2 (chg.tr x0 oy) c3 (fun c v k hv z => by have := z.2.1; omega) (fun c v k hv z => z.elim (fun t => by have := t.2.1; omega) (fun t => by have := t.2; omega)) (fun _ _ z => z.elim)
    have e13 : ∀ k, hI g3 6 13 k = hI g2 6 13 k := fun k => c3.2.1 6 13 k (by omega) (fun z => absurd z.1 (by decide))
    have ll : (xs ++ [x]).length = xs.length + 1 := List.length_append ..
    have la3 : (as ++ [a']).length = xs.length + 1 := by rw [List.length_append, la]; rfl
    refine ⟨e', as ++ [a'], A3, by rw [la3, ll], cp3, ?_, (e13 7).trans (r4.trans (o7.trans e7)), ⟨b1, by omega, b3, by omega, b5, by omega⟩, ⟨Sa3.2.2.1.trans (Sa.2.2.1.trans d1), (Sa3.1 4 0).trans ((Sa.1 4 0).trans d2), (Sa3.2.1 4 3).trans ((Sa.2.1 4 3).trans d3)⟩, fun i hi => ?_, fun v hv => ?_, by omega, ?_, ?_, ?_, n1, by rw [ll]; exact n2, ?_⟩
    · obtain ⟨⟨t1, t2, t3, t4, t5⟩, t6⟩ := r2
      exact ⟨⟨(e13 2).trans t1, (e13 3).trans t2, (e13 4).trans t3, fun z => (e13 5).trans (t4 z), (e13 6).trans t5⟩, t6⟩
    · rw [ll] at hi
      by_cases d : i = xs.length
      · subst d
        rw [List.getElem_append_right (Nat.le_refl _), app_getD (by omega), if_pos la.symm]
        simp only [Nat.sub_self, List.getElem_cons_zero]
        exact QC.mono (fun v dv => ⟨⟨⟨by have := dv.1; omega, by have := dv.2; omega⟩, by have := dv.1; omega, by have := dv.1; omega, by have := dv.1; have := dv.2; omega⟩, sm v dv.2 (by have := dv.1; omega) (by have := dv.1; omega)⟩) n x a' r1
      · rw [List.getElem_append_left (by omega), app_getD (by omega), if_neg (by omega)]
        exact QC.mono (fun v dv => by
          obtain ⟨⟨v1, v2⟩, v3, v4, v5⟩ := dv
          exact ⟨⟨⟨v1, by omega⟩, v3, v4, by omega⟩, (same_cpQ oy (by omega) v2).tr (sm v (by omega) v4 v5)⟩) n _ _ (q i (by omega))
    · rcases List.mem_append.mp hv with t | t
      · exact w v t
      · rw [List.mem_singleton.mp t]; exact r3
    · rw [List.map_append, List.sum_append, ll]
      show s0.1 + ((xs.map (sz n)).sum + (sz n x + 0)) + _ ≤ _
      omega
    · rw [List.map_append, List.sum_append]
      show (xs.map (wsm n)).sum + (wsm n x + 0) + _ = _
      omega
    · rw [ll, if_neg (show ¬ xs.length + 1 = 1 by omega)]
      have := sz_len xs
      by_cases t : xs.length = 1
      · rw [if_pos t] at u1 hx4; omega
      · rw [if_neg t] at u1 hx4; omega
    · rw [ll]
      have := sz_len xs
      omega
  refine ⟨Sa.2.2.1.trans d1, (Sa.2.1 4 3).trans d3, A2.1, ?_⟩
  have hn2 : hN g2 e = hN g e := Se.2.2.2
  rcases Nat.lt_or_ge as.length (hN g2 e) with z | z
  · obtain ⟨g3, p1, p2, p3, p4, p5, p6⟩ := listAdd_room A2 (by omega) z (x := a') (by rw [ka'.1]; decide) ka'.2.2
    refine ⟨g3, p1, fin e g3 p2 p3 (Or.inl rfl) (by omega) (by omega) (by rw [p6]; omega) (by rw [p6]; omega) (by rw [p6]; omega)⟩
  · have zf : as.length = hN g2 e := by have := A2.2.2.2.2.1; omega
    obtain ⟨g3, p1, p2, p3, p4, p5, p6⟩ := listAdd_full A2 (by omega) zf (x := a') (by rw [ka'.1]; decide) ka'.2.2
    have cb := capU_b (hN g2 e)
    refine ⟨g3, p1, fin (hX g2) g3 p2 p3 (Or.inr rfl) (by omega) (by rw [p4, if_neg (by omega)]; exact Nat.le_refl _) (by rw [p6]; omega) (by rw [p6]; omega) (by rw [p6, p5]; omega)⟩
/-- the first part -/
theorem JS.new {bs : List Nat} {n kd : Nat} {g0 g1 : PH} {s0 s' : PS} (c1 : CSh g1) (b : 89 ≤ hX g0) {x : QT n} {a' : Nat} (y : cpQ g0 g1) (K : okRD bs x s0 s' g0 a' g1) : ∃ g2 g3, fX4_joined (nI kd) g1 = some (some (hX g1), g2) ∧ hK g2 (hX g1) = 4 ∧ hR g2 4 (hX g1) 3 = some (hX g1 + 1) ∧ hK g2 (hX g1 + 1) = 14 ∧ fJx4a65c_add_9ea2d (hX g1 + 1) (some a') g2 = some (1, g3) ∧ JS bs kd g0 s0 (hX g1) (hX g1 + 1) [x] s' g3 := by
  obtain ⟨r1, r2, r3, r4, r5, r6, r7, r8, r9⟩ := K
  have b1 : hX g0 ≤ hX g1 := y.1
  obtain ⟨g2, f1, f2, f3, f4, f5, f6, f7, f8⟩ := node_new c1 (by omega) kd
  have ka' := QC.k r1
  have nk : ∀ v, v < hX g1 → same g1 g2 v := fun v hv => ⟨fun c k => f2.2.1 c v k hv (fun z => z), fun c k => f2.2.2.1 c v k hv (fun z => z), (f2.2.2.2.2 v hv).1, (f2.2.2.2.2 v hv).2⟩
  have c2 := c1.Q (by omega) (nc_cpQ f2)
  have n3 := n_3 c2
  have hn : hN g2 3 = 0 := n3
  obtain ⟨g3, p1, p2, p3, p4, p5, p6⟩ := listAdd_full f8 (Nat.zero_le _) (show ([] : List Nat).length = hN g2 3 by rw [hn]; rfl) (x := a') (by rw [(nk a' ka'.2.2).2.2.1, ka'.1]; decide) (by have := ka'.2.2; omega)
  rw [hn] at p5 p6
  have cu : capU 0 = 10 := rfl
  rw [cu] at p5 p6
  have sm : ∀ v, 89 ≤ v → v < hX g2 → v ≠ hX g1 + 1 → same g2 g3 v := fun v v0 v1 v2 => same_l p3 v1 v2 (by omega)
  have Sa := sm (hX g1) (by omega) (by omega) (by omega)
  have cp3 : cpQ g0 g3 := chg.tr2 (chg.tr y (nc_cpQ f2)) p3 (fun c v k hv z => by have := z.2.1; omega) (fun c v k hv z => z.elim (fun t => by have := t.2.1; omega) (fun t => t)) (fun _ _ z => z.elim)
  have e13 : ∀ k, hI g3 6 13 k = hI g1 6 13 k := fun k => (p3.2.1 6 13 k (by omega) (fun z => absurd z.1 (by decide))).trans (f2.2.1 6 13 k (by omega) (fun z => z))
  refine ⟨g2, g3, f1, f5, f7, f8.1, p1, hX g2, [a'], p2, rfl, cp3, ?_, (e13 7).trans r4, ⟨by omega, by omega, by omega, by omega, by omega, by omega⟩, ⟨Sa.2.2.1.trans f5, (Sa.1 4 0).trans f6, (Sa.2.1 4 3).trans f7⟩, fun i hi => ?_, fun v hv => by rw [List.mem_singleton.mp hv]; exact r3, Nat.le_refl _, ?_, ?_, ?_, by omega, by rw [p6]; exact Nat.le_succ_of_le (Nat.le_succ_of_le (Nat.le_succ _)), ?_⟩
  · obtain ⟨⟨t1, t2, t3, t4, t5⟩, t6⟩ := r2
    exact ⟨⟨(e13 2).trans t1, (e13 3).trans t2, (e13 4).trans t3, fun z => (e13 5).trans (t4 z), (e13 6).trans t5⟩, t6⟩
  · have hi : i < 1 := hi
    have : i = 0 := by omega
    subst this
    exact QC.mono (fun v dv => ⟨⟨⟨dv.1, by have := dv.2; omega⟩, by have := dv.2; omega, by have := dv.2; omega, by have := dv.2; omega⟩, (nk v dv.2).tr (sm v (by have := dv.1; omega) (by have := dv.2; omega) (by have := dv.2; omega))⟩) n x a' r1
  · show s0.1 + (sz n x + 0) + 1 ≤ _
    omega
  · show wsm n x + 0 + _ = _
    omega
  · show _ ≤ hX g0 + 3 * (s'.1 - s0.1) + 3
    omega
  · show hV g3 + 40 * 1 ≤ _
    omega
