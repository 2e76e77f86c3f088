/-! THE CLASS READS a query: the loops and the recursion -/
noncomputable def cJ (sg : Int32) (rc : PH → Option (Option Nat × PH)) (v3 : Option Nat) (v4 : Int32) (h : PH) : Option ((Int32 × PH) ⊕ (Option Nat × PH)) :=
  if ((20 : Int32) ≤ v4) then (mr (some ((v3, h)))) else
  gd (hK h 13 = 6) (if (¬ (hI h 6 13 3) = sg) then (mr (some ((v3, h)))) else
  bd (fX6_advance 13 h) (fun z18 =>
  gd (hK z18 13 = 6) (bd (rc z18) (fun z20 =>
  mq z20.1 (mr (some ((none, z20.2)))) (fun a21 =>
  gs v3 (fun a24 =>
  gd (hK z20.2 a24 = 4) (gs (hR z20.2 4 a24 3) (fun a27 =>
  gd (hK z20.2 a27 = 14) (bd (fJx4a65c_add_9ea2d a27 (some a21) z20.2) (fun z30 =>
  some (.inl ((v4 + 1), z30.2))))))))))))
noncomputable def jJ (sg kd : Int32) (rc : PH → Option (Option Nat × PH)) (h : PH) : Option (Option Nat × PH) :=
  gd (hK h 13 = 6) (bd (rc h) (fun z2 =>
  mq z2.1 (some ((z2.1, z2.2))) (fun a3 =>
  gd (hK z2.2 13 = 6) (if ((hI z2.2 6 13 3) = sg) then (bd (fX4_joined kd z2.2) (fun z5 =>
  gs z5.1 (fun a6 =>
  gd (hK z5.2 a6 = 4) (gs (hR z5.2 4 a6 3) (fun a9 =>
  gd (hK z5.2 a9 = 14) (bd (fJx4a65c_add_9ea2d a9 (some a3) z5.2) (fun z12 =>
  wh (fun z : (Int32 × PH) => cJ sg rc (some a6) (z.1) (z.2)) ((0 : Int32), z12.2))))))))
  else some ((some a3, z2.2))))))
theorem mkJ_two {n kd : Nat} : ∀ {xs : List (QT n)}, 2 ≤ xs.length → mkJ kd n xs = .inr (kd, xs)
  | [], h => absurd h (by simp)
  | [_], h => absurd h (by simp)
  | _ :: _ :: _, _ => rfl
theorem JS.done {bs : List Nat} {n kd : Nat} {g0 g : PH} {s0 s' : PS} {a l : Nat} {xs : List (QT n)} (hk : kd = 5 ∨ kd = 6) (J : JS bs kd g0 s0 a l xs s' g) (h2 : 2 ≤ xs.length) : RD bs (mapR (mkJ kd n) (.inr (xs, s'))) s0 g0 (some a) g := by
  have f := J.fin
  obtain ⟨e, as, A, la, x, R, e7, b1, d1, q, w, m1, z1, z2, u1, u2, u3, u4⟩ := J
  refine ⟨x, a, rfl, ?_⟩
  rw [mkJ_two h2]
  rw [if_neg (by omega)] at u1
  have := sz_len xs
  refine ⟨f.1, R, ⟨Or.inr ⟨hk, h2⟩, f.2, w⟩, e7, by omega, z2, ?_, by omega, by omega⟩
  show (xs.map (sz n)).sum + 1 ≤ _
  omega
theorem jn_loop {bs : List Nat} (ok : okB bs) (l3 : bs.length ≤ 300) {n kd sg : Nat} (hk : kd = 5 ∨ kd = 6) (hs : 3 < sg ∧ sg < 127) {p : PS → PR (QT n)} {rc : PH → Option (Option Nat × PH)} (F : RDF bs p rc) {g0 : PH} (c0 : CSh g0) (T0 : TC bs g0) (b : 89 ≤ hX g0) {s0 : PS} {a l : Nat} : ∀ (f : Nat) (xs : List (QT n)) (s' : PS) (g : PH), xs.length + f = 21 → JS bs kd g0 s0 a l xs s' g → (2 ≤ xs.length ∨ kT bs s' = sg) → ∃ y g', wh (fun z : (Int32 × PH) => cJ (nI sg) rc (some a) (z.1) (z.2)) (nI (xs.length - 1), g) = some (y, g') ∧ RD bs (mapR (mkJ kd n) (jnT bs sg p f s' xs)) s0 g0 y g' := by
  intro f
  induction f with
  | zero =>
    intro xs s' g hl J h2
    refine ⟨some a, g, wh_done ?_, JS.done hk J (by omega)⟩
    show cJ (nI sg) rc (some a) (nI (xs.length - 1)) g = _
    unfold cJ
    rw [if_pos (show (20 : Int32) ≤ nI (xs.length - 1) from nI_le (a := 20) (by omega) (by omega)), mr_t]
  | succ f ih =>
    intro xs s' g hl J h2
    obtain ⟨e, as, A, la, x0, R, e7, ⟨b1, b2, b3, b4, b5, b6⟩, d, q, w, m1, z1, z2, u1, u2, u3, u4⟩ := id J
    have c := c0.Q b x0
    have T := T0.Q b x0
    have bg : 89 ≤ hX g := by have := x0.1; omega
    have kl := kT_lt bs s'
    have tk : hI g 6 13 3 = nI (kT bs s') := R.1.2.1
    have n20 : ¬ (20 : Int32) ≤ nI (xs.length - 1) := nI_ge (b := 20) (by omega) (by decide)
    unfold jnT
    by_cases z : kT bs s' = sg
    · rw [if_pos z]
      obtain ⟨g1, f1, f2, f3⟩ := adv c T ok l3 R (by omega)
      have o := oI_cpQ f2
      have c1 := c.Q bg o
      have T1 := T.Q bg o
      have ox := f2.2.2.2.2.2.1
      have ov := f2.2.2.2.2.2.2
      obtain ⟨y, g2, p1, p2⟩ := F g1 (nT bs s') c1 (by omega) T1 f3
      have st : cJ (nI sg) rc (some a) (nI (xs.length - 1)) g = mq y (mr (some ((none, g2)))) (fun a21 => gd (hK g2 a = 4) (gs (hR g2 4 a 3) (fun a27 =>
  gd (hK g2 a27 = 14) (bd (fJx4a65c_add_9ea2d a27 (some a21) g2) (fun z30 =>
  some (.inl (nI (xs.length - 1) + 1, z30.2))))))) := by
        unfold cJ
        rw [if_neg n20, gd_t (k_13 c), tk, z, if_neg (fun y => y rfl), f1, bd_t, gd_t (k_13 c1), p1, bd_t]
        rfl
      have lt1 := (nT_le (s := s') R.2.1).2.2 (by omega)
      have nb := (nT_le (s := s') R.2.1).2.1
      have m2 : (nT bs s').2 = s'.2 := if_neg (by omega)
      obtain ⟨p3, p4⟩ := p2
      cases ep : p (nT bs s') with
      | inl v =>
        rw [ep] at p4
        obtain ⟨q1, q2, q3, q4, q5⟩ := p4
        subst q1
        refine ⟨none, g2, wh_done ?_, chg.tr (chg.tr x0 o) p3, rfl, q2, q3, ?_, ?_⟩
        · show cJ (nI sg) rc (some a) (nI (xs.length - 1)) g = _
          rw [st, mq_nt, mr_t]
        · split at u1 <;> omega
        · omega
      | inr v =>
        rw [ep] at p4
        obtain ⟨a', q1, q2⟩ := p4
        subst q1
        obtain ⟨k1, k2, k3, g3, k4, k5⟩ := J.add b o ox ov (f2.1 6 13 7 rfl) lt1 m2 p3 q2
        have ll : (xs ++ [v.1]).length = xs.length + 1 := List.length_append ..
        obtain ⟨y, g', r1, r2⟩ := ih (xs ++ [v.1]) v.2 g3 (by omega) k5 (Or.inl (by omega))
        refine ⟨y, g', wh_step (t := (nI ((xs ++ [v.1]).length - 1), g3)) ?_ r1, r2⟩
        show cJ (nI sg) rc (some a) (nI (xs.length - 1)) g = _
        rw [st, mq_st, gd_t k1, k2, gs_t, gd_t k3, k4, bd_t, nI_1, ll, show xs.length + 1 - 1 = xs.length - 1 + 1 by omega]
    · rw [if_neg z]
      refine ⟨some a, g, wh_done ?_, JS.done hk J (h2.elim id (fun y => absurd y z))⟩
      show cJ (nI sg) rc (some a) (nI (xs.length - 1)) g = _
      unfold cJ
      rw [if_neg n20, gd_t (k_13 c), tk, if_pos (fun y => z ((nI_eq (by omega) (by omega)).mp y)), mr_t]
theorem okRD.lft {bs : List Nat} {n : Nat} {q : QT n} {s s' : PS} {g g' : PH} {a : Nat} (K : okRD bs q s s' g a g') : okRD bs (lft n q) s s' g a g' := by
  obtain ⟨r1, r2, r3, r4, r5, r6, r7, r8, r9⟩ := K
  exact ⟨lft_QC n q a r1, r2, lft_wf n q r3, r4, r5, by rw [lft_wsm]; exact r6, by rw [lft_sz]; exact r7, r8, r9⟩
theorem jn_eq {bs : List Nat} (ok : okB bs) (l3 : bs.length ≤ 300) {n kd sg : Nat} (hk : kd = 5 ∨ kd = 6) (hs : 3 < sg ∧ sg < 127) {p : PS → PR (QT n)} {rc : PH → Option (Option Nat × PH)} (F : RDF bs p rc) : RDF bs (fun s => mapR (mkJ kd n) (jnP bs sg p 20 s)) (jJ (nI sg) (nI kd) rc) := by
  intro g s c b T R
  obtain ⟨y, g1, p1, p2, p3⟩ := F g s c b T R
  have c1 := c.Q b p2
  have T1 := T.Q b p2
  have st : jJ (nI sg) (nI kd) rc g = mq y (some ((y, g1))) (fun a3 =>
  gd (hK g1 13 = 6) (if ((hI g1 6 13 3) = nI sg) then (bd (fX4_joined (nI kd) g1) (fun z5 =>
  gs z5.1 (fun a6 =>
  gd (hK z5.2 a6 = 4) (gs (hR z5.2 4 a6 3) (fun a9 =>
  gd (hK z5.2 a9 = 14) (bd (fJx4a65c_add_9ea2d a9 (some a3) z5.2) (fun z12 =>
  wh (fun z : (Int32 × PH) => cJ (nI sg) rc (some a6) (z.1) (z.2)) ((0 : Int32), z12.2))))))))
  else some ((some a3, g1)))) := by
    unfold jJ
    rw [gd_t (k_13 c), p1, bd_t]
  rw [st]
  show ∃ x g', _ ∧ RD bs (mapR (mkJ kd n) (jnP bs sg p 20 s)) s g x g'
  rw [jnP_T]
  cases ep : p s with
  | inl v =>
    rw [ep] at p3
    obtain ⟨q1, q2⟩ := p3
    subst q1
    exact ⟨none, g1, mq_nt, p2, rfl, q2⟩
  | inr v =>
    rw [ep] at p3
    obtain ⟨a, q1, q2⟩ := p3
    subst q1
    have R1 := q2.2.1
    have kl := kT_lt bs v.2
    have tk : hI g1 6 13 3 = nI (kT bs v.2) := R1.1.2.1
    rw [mq_st, gd_t (k_13 c1), tk]
    by_cases z : kT bs v.2 = sg
    · obtain ⟨g2, g3, r1, r2, r3, r4, r5, r6⟩ := JS.new (kd := kd) c1 b p2 q2
      obtain ⟨y, g', t1, t2⟩ := jn_loop ok l3 hk hs F c T b 20 [v.1] v.2 g3 rfl r6 (Or.inr z)
      refine ⟨y, g', ?_, t2⟩
      rw [z, if_pos rfl, r1, bd_t, gs_t, gd_t r2, r3, gs_t, gd_t r4, r5, bd_t]
      exact t1
    · rw [if_neg (fun y => z ((nI_eq (by omega) (by omega)).mp y))]
      refine ⟨some a, g1, rfl, ?_⟩
      show RD bs (mapR (mkJ kd n) (jnT bs sg p 20 v.2 [v.1])) s g (some a) g1
      rw [show jnT bs sg p 20 v.2 [v.1] = .inr ([v.1], v.2) from if_neg z]
      exact ⟨p2, a, rfl, okRD.lft q2⟩
theorem both_eq {bs : List Nat} (ok : okB bs) (l3 : bs.length ≤ 300) {n : Nat} {p : PS → PR (QT n)} {rc0 rc1 rc2 : Nat → Int32 → PH → Option (Option Nat × PH)} {v : Int32} (F : RDF bs p (rc1 13 v)) : RDF bs (bthP bs p) (fX6_readBoth_R rc0 rc1 rc2 13 v) := by
  have e : fX6_readBoth_R rc0 rc1 rc2 13 v = jJ 38 5 (rc1 13 v) := by
    funext h
    unfold fX6_readBoth_R fX6_readBoth_R_b0 fX6_readBoth_R_b5 fX6_readBoth_R_b19 fX6_readBoth_R_b25 fX6_readBoth_R_b34 fX6_readBoth_R_l38 fX6_readBoth_R_c38 fX6_readBoth_R_b63 fX6_readBoth_R_b81 fX6_readBoth_R_b88 jJ cJ
    rfl
  rw [e]
  exact jn_eq ok l3 (kd := 5) (sg := 38) (Or.inl rfl) (by decide) F
theorem query_eq {bs : List Nat} (ok : okB bs) (l3 : bs.length ≤ 300) {n : Nat} {p : PS → PR (QT n)} {rc0 rc1 rc2 : Nat → Int32 → PH → Option (Option Nat × PH)} {v : Int32} (F : RDF bs (bthP bs p) (rc0 13 v)) : RDF bs (qryP bs p) (fX6_readQuery_R rc0 rc1 rc2 13 v) := by
  have e : fX6_readQuery_R rc0 rc1 rc2 13 v = jJ 124 6 (rc0 13 v) := by
    funext h
    unfold fX6_readQuery_R fX6_readQuery_R_b0 fX6_readQuery_R_b5 fX6_readQuery_R_b19 fX6_readQuery_R_b26 fX6_readQuery_R_b35 fX6_readQuery_R_l39 fX6_readQuery_R_c39 fX6_readQuery_R_b64 fX6_readQuery_R_b82 fX6_readQuery_R_b89 jJ cJ
    rfl
  rw [e]
  exact jn_eq ok l3 (kd := 6) (sg := 124) (Or.inr rfl) (by decide) F
