/-! THE CLASS READS a row -/
theorem readRow_end {g0 g : PH} (c : CSh g) (b : 89 ≤ hX g0) {bs : List Nat} (T : TC bs g) (ok : okB bs) (l3 : bs.length ≤ 300) {s s' : PS} (x : cpQ g0 g) (hx : hX g = hX g0) (hv : hV g = hV g0) (R : CRs bs s' g) (e7 : hI g 6 13 7 = hI g0 6 13 7) {ws : List Nat} (l20 : ws.length ≤ 20) (hw : ∀ w ∈ ws, vword w = true) (rw14 : ∀ i, i < ws.length → hI g 20 14 i = nI (ws.getD i 0)) (hs : s.1 < s'.1) (hs2 : ws.length + s.2 = s'.2) : ∃ y g', fX6_readRow_b40 13 (nI ws.length) g = some (y, g') ∧ RD bs (n := 0) ((if ws = [] ∨ kT bs s' ≠ 93 then .inl (aT bs s') else .inr (((3, ws, 0) : L3), nT bs s')) : PR L3) s g0 y g' := by
  have bad : ∃ y g', fX6_readRow_b53 13 g = some (y, g') ∧ RD bs (n := 0) (.inl (aT bs s')) s g0 y g' := by
    refine ⟨none, _, ?_, fail_RD x R hx hv⟩
    unfold fX6_readRow_b53
    rw [gd_t (k_13 c), fail_eq c R, bd_t]
  unfold fX6_readRow_b40
  by_cases z0 : ws = []
  · subst z0
    rw [if_pos (show nI ([] : List Nat).length = 0 from rfl), if_pos (Or.inl rfl)]
    exact bad
  · have lp : 0 < ws.length := List.length_pos_iff.mpr z0
    have tk : hI g 6 13 3 = nI (kT bs s') := R.1.2.1
    have kl := kT_lt bs s'
    rw [if_neg (show ¬ nI ws.length = 0 from fun y => by have := (nI_eq (b := 0) (by omega) (by decide)).mp y; omega), gd_t (k_13 c), tk]
    by_cases z93 : kT bs s' = 93
    · rw [if_pos (show nI (kT bs s') = (93 : Int32) from (nI_eq (b := 93) (by omega) (by decide)).mpr z93), if_neg (show ¬ (ws = [] ∨ kT bs s' ≠ 93) from fun y => y.elim z0 (fun q => q z93))]
      obtain ⟨g1, f1, f2, f3⟩ := adv c T ok l3 R (by omega)
      have x1 := chg.tr x (oI_cpQ f2)
      have bg : 89 ≤ hX g := by omega
      have c1 := c.Q bg (oI_cpQ f2)
      have hx1 : hX g1 = hX g0 := by rw [f2.2.2.2.2.2.1, hx]
      have hv1 : hV g1 = hV g0 := by rw [f2.2.2.2.2.2.2, hv]
      have n1 := (nT_le (s := s') R.2.1).1
      have n1' := aT_le (s := s') R.2.1
      have m1 : (nT bs s').2 = s'.2 := if_neg (by omega)
      have cl : Int32.toNatClampNeg (nI ws.length) = ws.length := nI_clamp (by omega)
      have no : ∀ {q : Prop}, hX g1 < hX g1 → q := fun y => absurd y (Nat.lt_irrefl _)
      have ne : 14 ≠ hX g1 := by omega
      have kt : hK (hnew g1 20 ws.length) (hX g1) = 20 := by rw [hK_new, if_pos rfl]
      have nt : hN (hnew g1 20 ws.length) (hX g1) = ws.length := by rw [hN_new, if_pos rfl]
      have k14 : hK (hnew g1 20 ws.length) 14 = 20 := by rw [hK_new, if_neg ne]; exact k_14 c1
      have n14 : hN (hnew g1 20 ws.length) 14 = 20 := by rw [hN_new, if_neg ne]; exact n_14 c1
      have k13 : hK (hnew g1 20 ws.length) 13 = 6 := by rw [hK_new, if_neg (show 13 ≠ hX g1 by omega)]; exact k_13 c1
      have r14 : hR (hnew g1 20 ws.length) 6 13 1 = some 14 := by rw [hR_new, if_neg (show 13 ≠ hX g1 by omega)]; exact r6_13_1 c1
      have cp : cpyok (hnew g1 20 ws.length) 20 14 (hX g1) 0 0 (nI ws.length) := ⟨k14, kt, by decide, by decide, nI_pos (by omega), by rw [cl, n14]; show 0 + ws.length ≤ 20; omega, by rw [cl, nt]; show 0 + ws.length ≤ ws.length; omega⟩
      have y1 : nc g1 (cpyI (hnew g1 20 ws.length) 20 14 (hX g1) 0 0 (nI ws.length)) := ⟨Nat.le_succ _, fun c' a' k' ha _ => by
        show hI (sIa (hnew g1 20 ws.length) 20 (hX g1) _) c' a' k' = _
        rw [hI_sIa, if_neg (fun y => by omega), hI_new, if_neg (by omega)], fun c' a' k' ha _ => by
        show hR (hnew g1 20 ws.length) c' a' k' = _
        rw [hR_new, if_neg (by omega)], fun c' a' k' ha _ => by
        show hL (hnew g1 20 ws.length) c' a' k' = _
        rw [hL_new, if_neg (by omega)], fun a' ha => ⟨by
        show hK (hnew g1 20 ws.length) a' = _
        rw [hK_new, if_neg (by omega)], by
        show hN (hnew g1 20 ws.length) a' = _
        rw [hN_new, if_neg (by omega)]⟩⟩
      have A : RowAt (cpyI (hnew g1 20 ws.length) 20 14 (hX g1) 0 0 (nI ws.length)) (hX g1) ws := ⟨kt, nt, fun i hi => by
        show hI (sIa (hnew g1 20 ws.length) 20 (hX g1) _) 20 (hX g1) i = _
        rw [hI_sIa, if_pos ⟨rfl, rfl⟩, cl, show Int32.toNatClampNeg (0 : Int32) = 0 from rfl, pk_cpy_in (Nat.zero_le _) (by omega), Nat.zero_add, Nat.sub_zero, hI_new, if_neg ne]
        exact (f2.1 20 14 i rfl).trans (rw14 i hi)⟩
      obtain ⟨g', p1, p2, p3⟩ := leaf_arr (k := 3) (mo := 0) (s := s) b x1 hx1 hv1 f3 ((f2.1 6 13 7 rfl).trans e7) y1 rfl rfl A ⟨(show (3 : Nat) < 4 by decide), hw, fun q => absurd q (show ¬ (3 : Nat) < 2 by decide), fun q => absurd q (show ¬ (3 : Nat) = 2 by decide), fun _ => ⟨lp, l20⟩⟩ l20 (by omega) (by omega)
      refine ⟨some (hX g1 + 1), g', ?_, p2, hX g1 + 1, rfl, p3⟩
      rw [f1, bd_t, gd_t (show ¬ nI ws.length < 0 ∧ (Int32.toNatClampNeg (nI ws.length)) ≤ 1000000 from ⟨nI_pos (by omega), by rw [cl]; omega⟩)]
      simp only [cl]
      unfold fX6_readRow_b65 fX6_readRow_b83
      rw [gd_t k13, r14, gs_t, gd_t cp, lt_t]
      show bd (fX4_simple (nI 3) (some (hX g1)) (nI 0) (cpyI (hnew g1 20 ws.length) 20 14 (hX g1) 0 0 (nI ws.length))) _ = _
      rw [p1, bd_t]
      rfl
    · rw [if_neg (show ¬ nI (kT bs s') = (93 : Int32) from fun y => z93 ((nI_eq (b := 93) (by omega) (by decide)).mp y)), if_pos (show ws = [] ∨ kT bs s' ≠ 93 from Or.inr z93)]
      exact bad
theorem readRow_l {g0 : PH} (c0 : CSh g0) (b : 89 ≤ hX g0) {bs : List Nat} (T0 : TC bs g0) (ok : okB bs) (l3 : bs.length ≤ 300) {s : PS} : ∀ (f : Nat) (ws : List Nat) (s' : PS) (g : PH), ws.length + f = 20 → cpQ g0 g → hX g = hX g0 → hV g = hV g0 → CRs bs s' g → hI g 6 13 7 = hI g0 6 13 7 → (∀ w ∈ ws, vword w = true) → (∀ i, i < ws.length → hI g 20 14 i = nI (ws.getD i 0)) → s.1 < s'.1 → ws.length + s.2 = s'.2 → ∃ y g', fX6_readRow_l6 13 (nI ws.length) g = some (y, g') ∧ RD bs (n := 0) (rowP bs f s' ws) s g0 y g' := by
  intro f
  induction f with
  | zero =>
    intro ws s' g hl x hx hv R e7 hw r14 hs hs2
    have c := c0.Q b x
    obtain ⟨y, g', p1, p2⟩ := readRow_end c b (T0.Q b x) ok l3 x hx hv R e7 (by omega) hw r14 hs hs2
    refine ⟨y, g', wh_done ?_, p2⟩
    show fX6_readRow_c6 13 (nI ws.length) g = _
    unfold fX6_readRow_c6
    rw [if_pos (show (20 : Int32) ≤ nI ws.length from nI_le (a := 20) (by omega) (by omega)), p1, mr_t]
  | succ f ih =>
    intro ws s' g hl x hx hv R e7 hw r14 hs hs2
    have c := c0.Q b x
    have bg : 89 ≤ hX g := by omega
    have kl := kT_lt bs s'
    have tk : hI g 6 13 3 = nI (kT bs s') := R.1.2.1
    rw [rowP]
    by_cases z : kT bs s' = 2
    · rw [if_pos z]
      have w2 := kT_2 R.2.1 z
      have v5 : hI g 6 13 5 = nI (vT bs s') := R.1.2.2.2.1 (Or.inl z)
      have ck : Int32.toNatClampNeg (nI ws.length) = ws.length := nI_clamp (by omega)
      have o14 : cpQ g (sI g 20 14 ws.length (nI (vT bs s'))) := chg_sI _ _ (fun _ => Or.inr (Or.inr ⟨rfl, rfl⟩))
      have c1 := c.Q bg o14
      have x1 := chg.tr x o14
      have R1 : CRs bs s' (sI g 20 14 ws.length (nI (vT bs s'))) := by
        obtain ⟨⟨a1, a2, a3, a4, a5⟩, a6⟩ := R
        have e : ∀ k, hI (sI g 20 14 ws.length (nI (vT bs s'))) 6 13 k = hI g 6 13 k := fun k => c20 _ _ _ _ (by decide)
        exact ⟨⟨(e 2).trans a1, (e 3).trans a2, (e 4).trans a3, fun q => (e 5).trans (a4 q), (e 6).trans a5⟩, a6⟩
      obtain ⟨g1, f1, f2, f3⟩ := adv c1 (T0.Q b x1) ok l3 R1 (by omega)
      have n1 := (nT_le (s := s') R.2.1).1
      have n1' := aT_le (s := s') R.2.1
      have m1 : (nT bs s').2 = s'.2 + 1 := if_pos z
      have la : (ws ++ [vT bs s']).length = ws.length + 1 := List.length_append ..
      obtain ⟨y, g', p1, p2⟩ := ih (ws ++ [vT bs s']) (nT bs s') g1 (by omega) (chg.tr x1 (oI_cpQ f2)) (by rw [f2.2.2.2.2.2.1]; exact hx) (by rw [f2.2.2.2.2.2.2]; exact hv) f3 ((f2.1 6 13 7 rfl).trans ((c20 _ _ _ _ (by decide)).trans e7)) (fun w hw' => by
        rcases List.mem_append.mp hw' with q | q
        · exact hw w q
        · rw [List.mem_singleton.mp q]; exact w2.1) (fun i hi => by
        rw [la] at hi
        rw [f2.1 20 14 i rfl, rdA]
        by_cases d : i = ws.length
        · rw [if_pos d, d, getD_end]
        · rw [if_neg d, getD_app (by omega)]
          exact r14 i (by omega)) (by omega) (by omega)
      refine ⟨y, g', wh_step (t := (nI (ws.length + 1), g1)) ?_ (by rw [← la]; exact p1), p2⟩
      show fX6_readRow_c6 13 (nI ws.length) g = _
      unfold fX6_readRow_c6
      rw [if_neg (show ¬ (20 : Int32) ≤ nI ws.length from nI_ge (b := 20) (by omega) (by decide)), gd_t (k_13 c), tk, if_neg (show ¬ ¬ nI (kT bs s') = (2 : Int32) from fun y => y ((nI_eq (b := 2) (by omega) (by decide)).mpr z)), r6_13_1 c, gs_t, gd_t ⟨k_14 c, by rw [n_14 c]; exact inbI (by omega) (by decide)⟩, lt_t, v5]
      simp only [ck]
      rw [f1, bd_t, nI_1]
    · rw [if_neg z]
      obtain ⟨y, g', p1, p2⟩ := readRow_end c b (T0.Q b x) ok l3 x hx hv R e7 (by omega) hw r14 hs hs2
      refine ⟨y, g', wh_done ?_, p2⟩
      show fX6_readRow_c6 13 (nI ws.length) g = _
      unfold fX6_readRow_c6
      rw [if_neg (show ¬ (20 : Int32) ≤ nI ws.length from nI_ge (b := 20) (by omega) (by decide)), gd_t (k_13 c), tk, if_pos (show ¬ nI (kT bs s') = (2 : Int32) from fun y => z ((nI_eq (b := 2) (by omega) (by decide)).mp y)), p1, mr_t]
theorem readRow_eq {g : PH} (c : CSh g) (b : 89 ≤ hX g) {bs : List Nat} (T : TC bs g) (ok : okB bs) (l3 : bs.length ≤ 300) {s : PS} (R : CRs bs s g) (k91 : kT bs s = 91) : ∃ x g', fX6_readRow 13 g = some (x, g') ∧ RD bs (n := 0) (rowP bs 20 (nT bs s) []) s g x g' := by
  obtain ⟨g1, f1, f2, f3⟩ := adv c T ok l3 R (by omega)
  have n1 := (nT_le (s := s) R.2.1).2.2 (by omega)
  have m1 : (nT bs s).2 = s.2 := if_neg (by omega)
  obtain ⟨y, g', p1, p2⟩ := readRow_l c b T ok l3 (s := s) 20 [] (nT bs s) g1 rfl (oI_cpQ f2) f2.2.2.2.2.2.1 f2.2.2.2.2.2.2 f3 (f2.1 6 13 7 rfl) (fun w hw => absurd hw List.not_mem_nil) (fun i hi => absurd hi (Nat.not_lt_zero _)) n1 (by show 0 + s.2 = _; omega)
  refine ⟨y, g', ?_, p2⟩
  unfold fX6_readRow fX6_readRow_b0
  rw [gd_t (k_13 c), f1, bd_t]
  exact p1
