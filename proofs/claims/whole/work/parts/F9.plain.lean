/-! THE CLASS READS a query: the recursion -/
theorem RD.inl {bs : List Nat} {m : Nat} {r : PR L3} {s : PS} {g g' : PH} {x : Option Nat} (K : RD bs (n := 0) r s g x g') : RD bs (n := m + 1) (mapR (fun l => (.inl l : L3 ⊕ (Nat × List (QT m)))) r) s g x g' := by
  cases r with
  | inl e => exact K
  | inr v => exact K
theorem RD.sh {bs : List Nat} {n : Nat} {r : PR (QT n)} {s s1 : PS} {g g1 g' : PH} {x : Option Nat} (o : cpQ g g1) (ox : hX g1 = hX g) (ov : hV g1 = hV g) (o7 : hI g1 6 13 7 = hI g 6 13 7) (h1 : s.1 < s1.1) (h2 : s1.2 = s.2) (K : RD bs r s1 g1 x g') : RD bs r s g x g' := by
  obtain ⟨k1, k2⟩ := K
  cases r with
  | inl e =>
    obtain ⟨q1, q2, q3, q4, q5⟩ := k2
    exact ⟨chg.tr o k1, q1, q2, q3, by omega, by omega⟩
  | inr v =>
    obtain ⟨a, q1, r1, r2, r3, r4, r5, r6, r7, r8, r9⟩ := k2
    rw [ox] at r1
    exact ⟨chg.tr o k1, a, q1, r1, r2, r3, r4.trans o7, by omega, by omega, by omega, by omega, by omega⟩
theorem fail_RD2 {g g1 : PH} {bs : List Nat} {s s1 : PS} {n : Nat} (x : cpQ g g1) (R : CRs bs s1 g1) (hs : s.1 ≤ s1.1) (hx : hX g1 ≤ hX g + 3 * (s1.1 - s.1)) (hv : hV g1 ≤ hV g + 40 * (s1.1 - s.1)) : RD bs (n := n) (.inl (aT bs s1)) s g none (sI g1 6 13 7 (nI (aT bs s1))) := by
  have h2 : cpQ g1 (sI g1 6 13 7 (nI (aT bs s1))) := chg_sI _ _ (fun _ => Or.inr (Or.inl ⟨rfl, rfl, rfl⟩))
  have := R.2.1
  refine ⟨chg.tr x h2, rfl, by rw [hI_sI, if_pos ⟨rfl, rfl, rfl⟩], (aT_le R.2.1).2, ?_, ?_⟩
  · show hX g1 ≤ _
    omega
  · show hV g1 ≤ _
    omega
theorem cls_RD {bs : List Nat} (ok : okB bs) (l3 : bs.length ≤ 300) {n : Nat} {r : PR (QT n)} {s : PS} {g g2 : PH} {y : Option Nat} (c2 : CSh g2) (b : 89 ≤ hX g) (T2 : TC bs g2) (K : RD bs r s g y g2) : ∃ x g', (mq y (some (none, g2)) (fun a7 => gd (hK g2 13 = 6) (if ((hI g2 6 13 3) = (41 : Int32)) then (bd (fX6_advance 13 g2) (fun z12 => some (((some a7), z12)))) else bd (fX6_fail 13 g2) (fun z13 => some ((z13.1, z13.2))))) : Option (Option Nat × PH)) = some (x, g') ∧ RD bs (clsP bs r) s g x g' := by
  obtain ⟨k1, k2⟩ := K
  cases r with
  | inl e =>
    obtain ⟨q1, q2⟩ := k2
    subst q1
    exact ⟨none, g2, mq_nt, k1, rfl, q2⟩
  | inr v =>
    obtain ⟨a, q1, r1, r2, r3, r4, r5, r6, r7, r8, r9⟩ := k2
    subst q1
    have kl := kT_lt bs v.2
    have tk : hI g2 6 13 3 = nI (kT bs v.2) := r2.1.2.1
    rw [mq_st, gd_t (k_13 c2), tk]
    show ∃ x g', _ ∧ RD bs (if kT bs v.2 = 41 then .inr (v.1, nT bs v.2) else .inl (aT bs v.2)) s g x g'
    by_cases z : kT bs v.2 = 41
    · rw [if_pos z, z, if_pos (show nI 41 = (41 : Int32) from rfl)]
      obtain ⟨g3, f1, f2, f3⟩ := adv c2 T2 ok l3 r2 (by omega)
      have o := oI_cpQ f2
      have n1 := (nT_le (s := v.2) r2.2.1).1
      have n2 := (aT_le (s := v.2) r2.2.1).1
      have m2 : (nT bs v.2).2 = v.2.2 := if_neg (by omega)
      have hx := f2.2.2.2.2.2.1
      have hv := f2.2.2.2.2.2.2
      have k11 := k1.1
      rw [f1, bd_t]
      refine ⟨some a, g3, rfl, chg.tr k1 o, a, rfl, ?_, f3, r3, (f2.1 6 13 7 rfl).trans r4, by omega, by omega, by omega, by omega, by omega⟩
      exact QC.mono (fun u du => ⟨⟨du.1, by have := du.2; omega⟩, same_cpQ o (by have := du.1; omega) du.2⟩) n _ _ r1
    · rw [if_neg z, if_neg (show ¬ nI (kT bs v.2) = (41 : Int32) from fun y => z ((nI_eq (b := 41) (by omega) (by decide)).mp y)), fail_eq c2 r2, bd_t]
      exact ⟨none, _, rfl, fail_RD2 k1 r2 (by omega) r8 r9⟩
theorem not_RD {bs : List Nat} {n : Nat} {r : PR (QT n)} {s s1 : PS} {g g1 g2 : PH} {y : Option Nat} (c2 : CSh g2) (b : 89 ≤ hX g1) (o : cpQ g g1) (ox : hX g1 = hX g) (ov : hV g1 = hV g) (o7 : hI g1 6 13 7 = hI g 6 13 7) (h1 : s.1 < s1.1) (h2 : s1.2 = s.2) (K : RD bs r s1 g1 y g2) : ∃ x g', (mq y (some (none, g2)) (fun a8 => bd (fX4_not (some a8) g2) (fun z9 => some ((z9.1, z9.2)))) : Option (Option Nat × PH)) = some (x, g') ∧ RD bs (n := n + 2) (mapR (fun x => lft (n + 1) (.inr (4, [x]))) r) s g x g' := by
  cases r with
  | inl e =>
    obtain ⟨k1, q1, q2, q3, q4, q5⟩ := K
    subst q1
    exact ⟨none, g2, mq_nt, chg.tr o k1, rfl, q2, q3, by omega, by omega⟩
  | inr v =>
    obtain ⟨k1, a', q1, q2⟩ := K
    subst q1
    obtain ⟨u2, g3, p1, p2, p3, p4, p5, p6⟩ := JS.new (kd := 4) c2 b k1 q2
    refine ⟨some (hX g2), g3, ?_, ?_⟩
    · rw [mq_st]
      unfold fX4_not fX4_not_b0 fX4_not_b4 fX4_not_b13
      rw [show fX4_joined (4 : Int32) g2 = some (some (hX g2), u2) from p1, bd_t, gs_t, gd_t p2, p3, gs_t, gd_t p4, p5, bd_t, bd_t]
    · have f := p6.fin
      obtain ⟨e, as, A, la, x, R, e7, b1, d1, q, w, m1, z1, z2, u1, u2, u3, u4⟩ := p6
      rw [if_pos (show ([v.1] : List (QT n)).length = 1 from rfl)] at u1
      have ll : ([v.1] : List (QT n)).length = 1 := rfl
      rw [ll] at u3 u4 z1
      have sm : (([v.1] : List (QT n)).map (sz n)).sum = sz n v.1 := by simp
      have wm : (([v.1] : List (QT n)).map (wsm n)).sum = wsm n v.1 := by simp
      rw [sm] at z1
      rw [wm] at z2
      have fq := f.1
      rw [ox] at fq
      refine ⟨chg.tr o x, hX g2, rfl, ?_⟩
      refine okRD.lft (n := n + 1) (q := .inr (4, [v.1])) ⟨fq, R, ⟨Or.inl ⟨rfl, rfl⟩, (show (1 : Nat) ≤ 20 by decide), w⟩, e7.trans o7, by omega, ?_, ?_, by omega, by omega⟩
      · show (([v.1] : List (QT n)).map (wsm n)).sum + _ = _
        rw [wm]; omega
      · show (([v.1] : List (QT n)).map (sz n)).sum + 1 ≤ _
        rw [sm]; omega
/-- a simple part -/
theorem plain_s {bs : List Nat} (ok : okB bs) (l3 : bs.length ≤ 300) {rc0 rc1 rc2 : Nat → Int32 → PH → Option (Option Nat × PH)} {v : Int32} {g : PH} {s : PS} (c : CSh g) (b : 89 ≤ hX g) (T : TC bs g) (R : CRs bs s g) (h : kT bs s ≠ 33 ∧ kT bs s ≠ 40 ∨ ¬ v < 8) : ∃ x g', fX6_readPlain_R rc0 rc1 rc2 13 v g = some (x, g') ∧ RD bs (n := 0) (simP bs s) s g x g' := by
  have kl := kT_lt bs s
  have tk : hI g 6 13 3 = nI (kT bs s) := R.1.2.1
  have nk : ∀ (j : Nat), j < 200 → ((nI (kT bs s) = nI j) ↔ kT bs s = j) := fun j hj => nI_eq (by omega) (by omega)
  unfold fX6_readPlain_R fX6_readPlain_R_b0 fX6_readPlain_R_b12 fX6_readPlain_R_b26 fX6_readPlain_R_b45 simP
  rw [gd_t (k_13 c), tk]
  by_cases z2 : kT bs s = 2
  · rw [if_pos z2, if_neg (show ¬ ¬ nI (kT bs s) = (2 : Int32) from fun y => y ((nk 2 (by decide)).mpr z2))]
    obtain ⟨x, g', p1, p2⟩ := readWord_eq c b T ok l3 R z2
    rw [p1, bd_t]
    exact ⟨x, g', rfl, p2⟩
  · rw [if_neg z2, if_pos (show ¬ nI (kT bs s) = (2 : Int32) from fun y => z2 ((nk 2 (by decide)).mp y))]
    by_cases z91 : kT bs s = 91
    · rw [if_pos z91, if_neg (show ¬ ¬ nI (kT bs s) = (91 : Int32) from fun y => y ((nk 91 (by decide)).mpr z91))]
      obtain ⟨x, g', p1, p2⟩ := readRow_eq c b T ok l3 R z91
      rw [p1, bd_t]
      exact ⟨x, g', rfl, p2⟩
    · rw [if_neg z91, if_pos (show ¬ nI (kT bs s) = (91 : Int32) from fun y => z91 ((nk 91 (by decide)).mp y))]
      have bad : fX6_readPlain_R_b51 rc0 rc1 rc2 13 g = some (none, sI g 6 13 7 (nI (aT bs s))) := by
        unfold fX6_readPlain_R_b51
        rw [gd_t (k_13 c), fail_eq c R, bd_t]
      refine ⟨none, _, ?_, fail_RD (chg.rf _ _ _ g) R rfl rfl⟩
      rw [bad]
      rcases h with ⟨h1, h2⟩ | h
      · rw [if_neg (show ¬ nI (kT bs s) = (33 : Int32) from fun y => h1 ((nk 33 (by decide)).mp y)), if_pos (show ¬ nI (kT bs s) = (40 : Int32) from fun y => h2 ((nk 40 (by decide)).mp y))]
      · rw [if_neg h]
        split
        · rfl
        · split <;> rfl
theorem plain_0 {bs : List Nat} (ok : okB bs) (l3 : bs.length ≤ 300) {rc0 rc1 rc2 : Nat → Int32 → PH → Option (Option Nat × PH)} : RDF bs (plnP bs 0) (fX6_readPlain_R rc0 rc1 rc2 13 (nI 8)) := fun g s c b T R => plain_s ok l3 c b T R (Or.inr (by decide))
theorem plain_S {bs : List Nat} (ok : okB bs) (l3 : bs.length ≤ 300) {k : Nat} (hk : k < 8) {rc0 rc1 rc2 : Nat → Int32 → PH → Option (Option Nat × PH)} (F1 : RDF bs (plnP bs k) (rc1 13 (nI (8 - k)))) (F2 : RDF bs (qryP bs (plnP bs k)) (rc2 13 (nI (8 - k)))) : RDF bs (plnP bs (k + 1)) (fX6_readPlain_R rc0 rc1 rc2 13 (nI (7 - k))) := by
  intro g s c b T R
  have kl := kT_lt bs s
  have tk : hI g 6 13 3 = nI (kT bs s) := R.1.2.1
  have nk : ∀ (j : Nat), j < 200 → ((nI (kT bs s) = nI j) ↔ kT bs s = j) := fun j hj => nI_eq (by omega) (by omega)
  have v8 : nI (7 - k) < (8 : Int32) := (nI_ltI (a := 7 - k) (b := 8) (by omega) (by decide)).mpr (by omega)
  have v1 : nI (7 - k) + 1 = nI (8 - k) := by rw [nI_1, show 7 - k + 1 = 8 - k by omega]
  show ∃ x g', _ ∧ RD bs (n := lv k + 2) (if kT bs s = 33 then mapR (fun x => lft (lv k + 1) (.inr (4, [x]))) (plnP bs k (nT bs s)) else if kT bs s = 40 then clsP bs (qryP bs (plnP bs k) (nT bs s)) else mapR (fun l => (.inl l : L3 ⊕ (Nat × List (QT (lv k + 1))))) (simP bs s)) s g x g'
  by_cases z33 : kT bs s = 33
  · rw [if_pos z33]
    obtain ⟨g1, f1, f2, f3⟩ := adv c T ok l3 R (by omega)
    have o := oI_cpQ f2
    have c1 := c.Q b o
    have T1 := T.Q b o
    have ox := f2.2.2.2.2.2.1
    obtain ⟨y, g2, p1, p2⟩ := F1 g1 (nT bs s) c1 (by omega) T1 f3
    have c2 := c1.Q (by omega) p2.1
    obtain ⟨x, g', r1, r2⟩ := not_RD c2 (by omega) o ox f2.2.2.2.2.2.2 (f2.1 6 13 7 rfl) ((nT_le (s := s) R.2.1).2.2 (by omega)) (if_neg (by omega)) p2
    refine ⟨x, g', ?_, r2⟩
    rw [← r1]
    unfold fX6_readPlain_R fX6_readPlain_R_b0 fX6_readPlain_R_b45 fX6_readPlain_R_b70 fX6_readPlain_R_b86 fX6_readPlain_R_b96 fX6_readPlain_R_b105 fX6_readPlain_R_b117
    rw [gd_t (k_13 c), tk, z33, if_pos (show ¬ nI 33 = (2 : Int32) by decide), if_pos (show ¬ nI 33 = (91 : Int32) by decide), if_pos (show nI 33 = (33 : Int32) from rfl), if_pos v8, if_neg (show ¬ ¬ nI 33 = (33 : Int32) from fun y => y rfl), gd_t (k_13 c), f1, bd_t, if_neg (show ¬ (1 : Int32) = 0 by decide), gd_t (k_13 c1), v1, p1, bd_t, gd_t (k_13 c)]
    cases y with
    | none => rfl
    | some a => 
      rw [mq_st, if_neg (show ¬ (1 : Int32) = 0 by decide)]
  · rw [if_neg z33]
    by_cases z40 : kT bs s = 40
    · rw [if_pos z40]
      obtain ⟨g1, f1, f2, f3⟩ := adv c T ok l3 R (by omega)
      have o := oI_cpQ f2
      have c1 := c.Q b o
      have T1 := T.Q b o
      have ox := f2.2.2.2.2.2.1
      obtain ⟨y, g2, p1, p2⟩ := F2 g1 (nT bs s) c1 (by omega) T1 f3
      have b1 : 89 ≤ hX g1 := by omega
      have c2 := c1.Q b1 p2.1
      obtain ⟨x, g', r1, r2⟩ := cls_RD ok l3 c2 b1 (T1.Q b1 p2.1) p2
      refine ⟨x, g', ?_, RD.sh o ox f2.2.2.2.2.2.2 (f2.1 6 13 7 rfl) ((nT_le (s := s) R.2.1).2.2 (by omega)) (if_neg (by omega)) r2⟩
      rw [← r1]
      unfold fX6_readPlain_R fX6_readPlain_R_b0 fX6_readPlain_R_b45 fX6_readPlain_R_b70 fX6_readPlain_R_b86 fX6_readPlain_R_b96 fX6_readPlain_R_b105 fX6_readPlain_R_b117
      rw [gd_t (k_13 c), tk, z40, if_pos (show ¬ nI 40 = (2 : Int32) by decide), if_pos (show ¬ nI 40 = (91 : Int32) by decide), if_neg (show ¬ nI 40 = (33 : Int32) by decide), if_neg (show ¬ ¬ nI 40 = (40 : Int32) from fun y => y rfl), if_pos v8, if_pos (show ¬ nI 40 = (33 : Int32) by decide), gd_t (k_13 c), f1, bd_t, if_pos (show (0 : Int32) = 0 from rfl), gd_t (k_13 c1), v1, p1, bd_t, gd_t (k_13 c)]
      cases y with
      | none => rfl
      | some a =>
        rw [mq_st, if_pos (show (0 : Int32) = 0 from rfl)]
        rfl
    · rw [if_neg z40]
      obtain ⟨x, g', p1, p2⟩ := plain_s (rc0 := rc0) (rc1 := rc1) (rc2 := rc2) (v := nI (7 - k)) ok l3 c b T R (Or.inl ⟨z33, z40⟩)
      exact ⟨x, g', p1, RD.inl p2⟩
theorem plain_eq {bs : List Nat} (ok : okB bs) (l3 : bs.length ≤ 300) : ∀ (k n : Nat), 3 * k < n → k ≤ 8 → RDF bs (plnP bs k) ((g_X6_readBoth_X6_readPlain_X6_readQuery n).2.1 13 (nI (8 - k))) := by
  intro k
  induction k with
  | zero =>
    intro n hn _
    obtain ⟨n, rfl⟩ : ∃ m, n = m + 1 := ⟨n - 1, by omega⟩
    exact plain_0 ok l3
  | succ k ih =>
    intro n hn hk
    obtain ⟨n, rfl⟩ : ∃ m, n = m + 3 := ⟨n - 3, by omega⟩
    have e : 8 - (k + 1) = 7 - k := by omega
    rw [e]
    exact plain_S ok l3 (by omega) (ih (n + 2) (by omega) (by omega)) (query_eq ok l3 (both_eq ok l3 (ih n (by omega) (by omega))))
theorem readQuery_eq {bs : List Nat} (ok : okB bs) (l3 : bs.length ≤ 300) : RDF bs (qryP bs (plnP bs 8)) (fX6_readQuery 13 0) := query_eq ok l3 (both_eq ok l3 (plain_eq ok l3 8 128 (by decide) (by decide)))
