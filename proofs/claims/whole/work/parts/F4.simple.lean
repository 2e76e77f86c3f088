/-! THE CLASS READS a simple part -/
def ivl (a b x : Nat) : Prop := a ≤ x ∧ x < b
def okRD (bs : List Nat) {n : Nat} (q : QT n) (s s' : PS) (g : PH) (a : Nat) (g' : PH) : Prop := QC g' (ivl (hX g) (hX g')) n q a ∧ CRs bs s' g' ∧ wfq n q ∧ hI g' 6 13 7 = hI g 6 13 7 ∧ s.1 < s'.1 ∧ wsm n q + s.2 = s'.2 ∧ sz n q ≤ s'.1 - s.1 ∧ hX g' ≤ hX g + 3 * (s'.1 - s.1) ∧ hV g' ≤ hV g + 40 * (s'.1 - s.1)
def RD (bs : List Nat) {n : Nat} (r : PR (QT n)) (s : PS) (g : PH) (x : Option Nat) (g' : PH) : Prop := cpQ g g' ∧ match r with
  | .inl e => x = none ∧ hI g' 6 13 7 = nI e ∧ e ≤ bs.length ∧ hX g' ≤ hX g + 3 * (bs.length - s.1) ∧ hV g' ≤ hV g + 40 * (bs.length - s.1)
  | .inr (q, s') => ∃ a, x = some a ∧ okRD bs q s s' g a g'
theorem LfD.imp {h : PH} {D D' : Nat → Prop} {a : Nat} {l : L3} (L : LfD h D a l) (s : ∀ x, D x → D' x) : LfD h D' a l := LfD.mono L (fun x dx => ⟨s x dx, fun _ _ => rfl, fun _ _ => rfl, rfl, rfl⟩)
theorem fail_eq {g : PH} (c : CSh g) {bs : List Nat} {s : PS} (R : CRs bs s g) : fX6_fail 13 g = some (none, sI g 6 13 7 (nI (aT bs s))) := by
  unfold fX6_fail
  rw [gd_t (k_13 c), R.1.2.2.1, lt_t]
  rfl
/-- an error: the class's reader stops where the token stands -/
theorem fail_RD {g g1 : PH} {bs : List Nat} {s s1 : PS} {n : Nat} (x : cpQ g g1) (R : CRs bs s1 g1) (hx : hX g1 = hX g) (hv : hV g1 = hV g) : RD bs (n := n) (.inl (aT bs s1)) s g none (sI g1 6 13 7 (nI (aT bs s1))) := by
  have h2 : cpQ g1 (sI g1 6 13 7 (nI (aT bs s1))) := chg_sI _ _ (fun _ => Or.inr (Or.inl ⟨rfl, rfl, rfl⟩))
  refine ⟨chg.tr x h2, rfl, by rw [hI_sI, if_pos ⟨rfl, rfl, rfl⟩], (aT_le R.2.1).2, ?_, ?_⟩
  · show hX g1 ≤ _
    omega
  · show hV g1 ≤ _
    omega
/-- an array of words, and the simple part with it -/
theorem leaf_arr {bs : List Nat} {g g1 ga : PH} {s s' : PS} {k mo : Nat} {ws : List Nat} (b : 89 ≤ hX g) (x : cpQ g g1) (hx : hX g1 = hX g) (hv : hV g1 = hV g) (R : CRs bs s' g1) (e7 : hI g1 6 13 7 = hI g 6 13 7) (y : nc g1 ga) (ax : hX ga = hX g1 + 1) (av : hV ga = hV g1 + ws.length) (A : RowAt ga (hX g1) ws) (ok : okL3 (k, ws, mo)) (l20 : ws.length ≤ 20) (hs : s.1 < s'.1) (hw : ws.length + s.2 = s'.2) : ∃ g', fX4_simple (nI k) (some (hX g1)) (nI mo) ga = some (some (hX ga), g') ∧ cpQ g g' ∧ okRD bs (n := 0) ((k, ws, mo) : L3) s s' g (hX ga) g' := by
  obtain ⟨g', f1, f2, f3, f4, f5⟩ := leaf_new ga (b := hX g1) (k := k) (mo := mo) (by omega) A
  have z := chg.tr y f2
  have cr : CR bs s'.1 s'.2 g' := by
    obtain ⟨r1, r2, r3, r4, r5⟩ := R.1
    have e : ∀ j, hI g' 6 13 j = hI g1 6 13 j := fun j => z.2.1 6 13 j (by omega) (fun q => q)
    exact ⟨(e 2).trans r1, (e 3).trans r2, (e 4).trans r3, fun q => (e 5).trans (r4 q), (e 6).trans r5⟩
  refine ⟨g', f1, chg.tr x (nc_cpQ z), ?_, ⟨cr, R.2⟩, ok, (z.2.1 6 13 7 (by omega) (fun q => q)).trans e7, hs, hw, ?_, ?_, ?_⟩
  · exact LfD.imp f5 (fun v dv => by
      rcases dv with dv | dv
      · exact ⟨by omega, by omega⟩
      · exact ⟨by omega, by omega⟩)
  · show 1 ≤ s'.1 - s.1
    omega
  · omega
  · omega
theorem row1 (g : PH) (w : Nat) : nc g (sI (hnew g 20 1) 20 (hX g) 0 (nI w)) ∧ RowAt (sI (hnew g 20 1) 20 (hX g) 0 (nI w)) (hX g) [w] := by
  refine ⟨((chg.rf _ _ _ g).aN 20 1).aI _ (fun y => absurd y (Nat.lt_irrefl _)), ?_, ?_, fun i hi => ?_⟩
  · show hK (hnew g 20 1) (hX g) = 20
    rw [hK_new, if_pos rfl]
  · show hN (hnew g 20 1) (hX g) = 1
    rw [hN_new, if_pos rfl]
  · have hi : i < 1 := hi
    have : i = 0 := by omega
    subst this
    rw [rdA, if_pos rfl]
    rfl
theorem row2 (g : PH) (w v : Nat) : nc g (sI (sI (hnew g 20 2) 20 (hX g) 0 (nI w)) 20 (hX g) 1 (nI v)) ∧ RowAt (sI (sI (hnew g 20 2) 20 (hX g) 0 (nI w)) 20 (hX g) 1 (nI v)) (hX g) [w, v] := by
  have no : ∀ {q : Prop}, hX g < hX g → q := fun y => absurd y (Nat.lt_irrefl _)
  refine ⟨(((chg.rf _ _ _ g).aN 20 2).aI _ no).aI _ no, ?_, ?_, fun i hi => ?_⟩
  · show hK (hnew g 20 2) (hX g) = 20
    rw [hK_new, if_pos rfl]
  · show hN (hnew g 20 2) (hX g) = 2
    rw [hN_new, if_pos rfl]
  · have hi : i < 2 := hi
    rw [rdA, rdA]
    by_cases d : i = 1
    · rw [if_pos d, d]; rfl
    · have : i = 0 := by omega
      subst this
      rw [if_neg d, if_pos rfl]
      rfl
theorem readWord_eq {g : PH} (c : CSh g) (b : 89 ≤ hX g) {bs : List Nat} (T : TC bs g) (ok : okB bs) (l3 : bs.length ≤ 300) {s : PS} (R : CRs bs s g) (k2 : kT bs s = 2) : ∃ x g', fX6_readWord 13 g = some (x, g') ∧ RD bs (n := 0) (wrdP bs s) s g x g' := by
  have w2 := kT_2 R.2.1 k2
  have v5 : hI g 6 13 5 = nI (vT bs s) := R.1.2.2.2.1 (Or.inl k2)
  obtain ⟨g1, f1, f2, f3⟩ := adv c T ok l3 R (by omega)
  have x1 := oI_cpQ f2
  have c1 := c.Q b x1
  have T1 := T.Q b x1
  have b1 : 89 ≤ hX g1 := by rw [f2.2.2.2.2.2.1]; exact b
  have s1 := (nT_le (s := s) R.2.1).2.2 (by omega)
  have q2 : (nT bs s).2 = s.2 + 1 := if_pos k2
  have nk : ∀ (j : Nat) (s' : PS), j < 200 → ((nI (kT bs s') = nI j) ↔ kT bs s' = j) := fun j s' hj => nI_eq (by have := kT_lt bs s'; omega) (by omega)
  have st : fX6_readWord 13 g = (if (¬ nI (kT bs (nT bs s)) = (42 : Int32)) then (if (nI (kT bs (nT bs s)) = (126 : Int32)) then (bd (fX6_advance 13 g1) (fun z4 =>
  gd (hK z4 13 = 6) (if ((hI z4 6 13 3) = (3 : Int32)) then (bd (fX6_advance 13 z4) (fun z6 =>
  gd (hK z6 13 = 6) (if ((hI z6 6 13 3) = (2 : Int32)) then (bd (fX6_advance 13 z6) (fun z8 =>
  gd (¬ (2 : Int32) < 0 ∧ (Int32.toNatClampNeg (2 : Int32)) ≤ 1000000) (fX6_readWord_b109 (nI (vT bs s)) (hI z4 6 13 5) (hI z6 6 13 5) (2 : Int32) (hX z8) (hnew z8 20 (Int32.toNatClampNeg (2 : Int32)))))) else
  bd (fX6_fail 13 z6) (fun z16 =>
  some ((z16.1, z16.2)))))) else
  bd (fX6_fail 13 z4) (fun z17 =>
  some ((z17.1, z17.2)))))) else
  gd (¬ (1 : Int32) < 0 ∧ (Int32.toNatClampNeg (1 : Int32)) ≤ 1000000) (fX6_readWord_b48 (nI (vT bs s)) (0 : Int32) (hX g1) (hnew g1 20 (Int32.toNatClampNeg (1 : Int32))))) else
  bd (fX6_advance 13 g1) (fun z23 =>
  gd (¬ (1 : Int32) < 0 ∧ (Int32.toNatClampNeg (1 : Int32)) ≤ 1000000) (fX6_readWord_b26 (nI (vT bs s)) (1 : Int32) (hX z23) (hnew z23 20 (Int32.toNatClampNeg (1 : Int32)))))) := by
    unfold fX6_readWord fX6_readWord_b0
    rw [gd_t (k_13 c), f1, bd_t, gd_t (k_13 c1), f3.1.2.1, v5]
    rfl
  rw [st]
  unfold wrdP
  have one : (¬ (1 : Int32) < 0 ∧ (Int32.toNatClampNeg (1 : Int32)) ≤ 1000000) := by decide
  have two : (¬ (2 : Int32) < 0 ∧ (Int32.toNatClampNeg (2 : Int32)) ≤ 1000000) := by decide
  have ok1 : ∀ k, k < 2 → okL3 (k, [vT bs s], 0) := fun k hk => ⟨by show k < 4; omega, fun w hw => by rw [List.mem_singleton.mp hw]; exact w2.1, fun _ => rfl, fun q => absurd (show k = 2 from q) (by omega), fun q => absurd (show k = 3 from q) (by omega)⟩
  -- a part of one word
  have lf1 : ∀ (k : Nat) (g2 : PH) (s' : PS), k < 2 → cpQ g g2 → hX g2 = hX g → hV g2 = hV g → CRs bs s' g2 → hI g2 6 13 7 = hI g 6 13 7 → s.1 < s'.1 → s'.2 = s.2 + 1 → ∃ g', fX6_readWord_b48 (nI (vT bs s)) (nI k) (hX g2) (hnew g2 20 (Int32.toNatClampNeg (1 : Int32))) = some (some (hX g2 + 1), g') ∧ RD bs (n := 0) (.inr (((k, [vT bs s], 0) : L3), s')) s g (some (hX g2 + 1)) g' := fun k g2 s' hk y yx yv Y e7 hs hw => by
    obtain ⟨r1, r2⟩ := row1 g2 (vT bs s)
    obtain ⟨g', p1, p2, p3⟩ := leaf_arr (k := k) (mo := 0) (s := s) b y yx yv Y e7 r1 rfl rfl r2 (ok1 k hk) (by show 1 ≤ 20; decide) hs (by show 1 + s.2 = s'.2; omega)
    refine ⟨g', ?_, p2, hX g2 + 1, rfl, p3⟩
    have kk : hK (hnew g2 20 1) (hX g2) = 20 := by rw [hK_new, if_pos rfl]
    have kn : hN (hnew g2 20 1) (hX g2) = 1 := by rw [hN_new, if_pos rfl]
    show fX6_readWord_b48 (nI (vT bs s)) (nI k) (hX g2) (hnew g2 20 1) = _
    unfold fX6_readWord_b48 fX6_readWord_b56
    rw [gd_t ⟨kk, by rw [kn]; decide⟩, lt_t]
    show bd (fX4_simple (nI k) (some (hX g2)) (nI 0) (sI (hnew g2 20 1) 20 (hX g2) 0 (nI (vT bs s)))) _ = _
    rw [p1, bd_t]
    rfl
  by_cases z42 : kT bs (nT bs s) = 42
  · rw [if_pos z42, if_neg (show ¬ ¬ nI (kT bs (nT bs s)) = (42 : Int32) from fun y => y ((nk 42 _ (by decide)).mpr z42))]
    obtain ⟨g2, a1, a2, a3⟩ := adv c1 T1 ok l3 f3 (by omega)
    have x2 := chg.tr x1 (oI_cpQ a2)
    have n2 := (nT_le (s := nT bs s) f3.2.1).1
    have n2' := aT_le (s := nT bs s) f3.2.1
    have m2 : (nT bs (nT bs s)).2 = (nT bs s).2 := if_neg (by omega)
    obtain ⟨g', p1, p2⟩ := lf1 1 g2 _ (by decide) x2 (by rw [a2.2.2.2.2.2.1, f2.2.2.2.2.2.1]) (by rw [a2.2.2.2.2.2.2, f2.2.2.2.2.2.2]) a3 ((a2.1 6 13 7 rfl).trans (f2.1 6 13 7 rfl)) (by omega) (by omega)
    refine ⟨_, g', ?_, p2⟩
    rw [a1, bd_t, gd_t one]
    exact p1
  · rw [if_neg z42, if_pos (show ¬ nI (kT bs (nT bs s)) = (42 : Int32) from fun y => z42 ((nk 42 _ (by decide)).mp y))]
    by_cases z126 : kT bs (nT bs s) = 126
    · rw [if_pos z126, if_pos (show nI (kT bs (nT bs s)) = (126 : Int32) from (nk 126 _ (by decide)).mpr z126)]
      obtain ⟨g2, a1, a2, a3⟩ := adv c1 T1 ok l3 f3 (by omega)
      have x2 := chg.tr x1 (oI_cpQ a2)
      have c2 := c.Q b x2
      have T2 := T.Q b x2
      have hx2 : hX g2 = hX g := by rw [a2.2.2.2.2.2.1, f2.2.2.2.2.2.1]
      have hv2 : hV g2 = hV g := by rw [a2.2.2.2.2.2.2, f2.2.2.2.2.2.2]
      have n2 := (nT_le (s := nT bs s) f3.2.1).1
      have n2' := aT_le (s := nT bs s) f3.2.1
      have m2 : (nT bs (nT bs s)).2 = (nT bs s).2 := if_neg (by omega)
      rw [a1, bd_t, gd_t (k_13 c2), show hI g2 6 13 3 = nI (kT bs (nT bs (nT bs s))) from a3.1.2.1]
      by_cases z3 : kT bs (nT bs (nT bs s)) = 3
      · rw [if_pos z3, if_pos (show nI (kT bs (nT bs (nT bs s))) = (3 : Int32) from (nk 3 _ (by decide)).mpr z3)]
        have v3 : hI g2 6 13 5 = nI (vT bs (nT bs (nT bs s))) := a3.1.2.2.2.1 (Or.inr z3)
        have mo := kT_3 z3
        obtain ⟨g3, d1, d2, d3⟩ := adv c2 T2 ok l3 a3 (by omega)
        have x3 := chg.tr x2 (oI_cpQ d2)
        have c3 := c.Q b x3
        have T3 := T.Q b x3
        have hx3 : hX g3 = hX g := by rw [d2.2.2.2.2.2.1, hx2]
        have hv3 : hV g3 = hV g := by rw [d2.2.2.2.2.2.2, hv2]
        have n3 := (nT_le (s := nT bs (nT bs s)) a3.2.1).1
        have n3' := aT_le (s := nT bs (nT bs s)) a3.2.1
        have m3 : (nT bs (nT bs (nT bs s))).2 = (nT bs (nT bs s)).2 := if_neg (by omega)
        rw [d1, bd_t, gd_t (k_13 c3), show hI g3 6 13 3 = nI (kT bs (nT bs (nT bs (nT bs s)))) from d3.1.2.1]
        by_cases y2 : kT bs (nT bs (nT bs (nT bs s))) = 2
        · rw [if_pos y2, if_pos (show nI (kT bs (nT bs (nT bs (nT bs s)))) = (2 : Int32) from (nk 2 _ (by decide)).mpr y2)]
          have v2 : hI g3 6 13 5 = nI (vT bs (nT bs (nT bs (nT bs s)))) := d3.1.2.2.2.1 (Or.inl y2)
          have u2 := kT_2 d3.2.1 y2
          obtain ⟨g4, e1, e2, e3⟩ := adv c3 T3 ok l3 d3 (by omega)
          have x4 := chg.tr x3 (oI_cpQ e2)
          have hx4 : hX g4 = hX g := by rw [e2.2.2.2.2.2.1, hx3]
          have hv4 : hV g4 = hV g := by rw [e2.2.2.2.2.2.2, hv3]
          have n4 := (nT_le (s := nT bs (nT bs (nT bs s))) d3.2.1).1
          have n4' := aT_le (s := nT bs (nT bs (nT bs s))) d3.2.1
          have m4 : (nT bs (nT bs (nT bs (nT bs s)))).2 = (nT bs (nT bs (nT bs s))).2 + 1 := if_pos y2
          obtain ⟨r1, r2⟩ := row2 g4 (vT bs s) (vT bs (nT bs (nT bs (nT bs s))))
          obtain ⟨g', p1, p2, p3⟩ := leaf_arr (k := 2) (mo := vT bs (nT bs (nT bs s))) (s := s) b x4 hx4 hv4 e3 ((e2.1 6 13 7 rfl).trans ((d2.1 6 13 7 rfl).trans ((a2.1 6 13 7 rfl).trans (f2.1 6 13 7 rfl)))) r1 rfl rfl r2 ⟨(show (2 : Nat) < 4 by decide), fun w hw => by
            rcases List.mem_cons.mp hw with q | q
            · rw [q]; exact w2.1
            · rw [List.mem_singleton.mp q]; exact u2.1, fun q => absurd q (show ¬ (2 : Nat) < 2 by decide), fun _ => ⟨rfl, mo⟩, fun q => absurd q (show ¬ (2 : Nat) = 3 by decide)⟩ (by show 2 ≤ 20; decide) (by omega) (by show 2 + s.2 = _; omega)
          refine ⟨some (hX g4 + 1), g', ?_, p2, hX g4 + 1, rfl, p3⟩
          have kk : hK (hnew g4 20 2) (hX g4) = 20 := by rw [hK_new, if_pos rfl]
          have kn : hN (hnew g4 20 2) (hX g4) = 2 := by rw [hN_new, if_pos rfl]
          rw [e1, bd_t, gd_t two, v3, v2]
          show fX6_readWord_b109 (nI (vT bs s)) (nI (vT bs (nT bs (nT bs s)))) (nI (vT bs (nT bs (nT bs (nT bs s))))) (nI 2) (hX g4) (hnew g4 20 2) = _
          unfold fX6_readWord_b109 fX6_readWord_b121
          rw [gd_t ⟨kk, by rw [kn]; decide⟩, lt_t, gd_t (show inb (1 : Int32) (hN (sI (hnew g4 20 2) 20 (hX g4) (Int32.toNatClampNeg 0) (nI (vT bs s))) (hX g4)) by rw [hN_sI, kn]; decide), lt_t]
          show bd (fX4_simple (nI 2) (some (hX g4)) (nI (vT bs (nT bs (nT bs s)))) (sI (sI (hnew g4 20 2) 20 (hX g4) 0 (nI (vT bs s))) 20 (hX g4) 1 (nI (vT bs (nT bs (nT bs (nT bs s))))))) _ = _
          rw [p1, bd_t]
          rfl
        · rw [if_neg y2, if_neg (show ¬ nI (kT bs (nT bs (nT bs (nT bs s)))) = (2 : Int32) from fun y => y2 ((nk 2 _ (by decide)).mp y)), fail_eq c3 d3, bd_t]
          exact ⟨_, _, rfl, fail_RD x3 d3 hx3 hv3⟩
      · rw [if_neg z3, if_neg (show ¬ nI (kT bs (nT bs (nT bs s))) = (3 : Int32) from fun y => z3 ((nk 3 _ (by decide)).mp y)), fail_eq c2 a3, bd_t]
        exact ⟨_, _, rfl, fail_RD x2 a3 hx2 hv2⟩
    · rw [if_neg z126, if_neg (show ¬ nI (kT bs (nT bs s)) = (126 : Int32) from fun y => z126 ((nk 126 _ (by decide)).mp y)), gd_t one]
      obtain ⟨g', p1, p2⟩ := lf1 0 g1 _ (by decide) x1 f2.2.2.2.2.2.1 f2.2.2.2.2.2.2 f3 (f2.1 6 13 7 rfl) s1 q2
      exact ⟨_, g', p1, p2⟩
