/-! THE REFERENCE'S READER follows the grammar -/
theorem mkJ_le {n kd : Nat} {xs : List (QT n)} (ne : xs ≠ []) : sz (n + 1) (mkJ kd n xs) ≤ (xs.map (sz n)).sum + 1 := by
  rcases Nat.lt_or_ge xs.length 2 with z | z
  · obtain ⟨x, rfl⟩ := List.length_eq_one_iff.mp (show xs.length = 1 by have := List.length_pos_iff.mpr ne; omega)
    show sz (n + 1) (lft n x) ≤ _
    rw [lft_sz]
    simp
  · rw [mkJ_two z]
    exact Nat.le_refl _
def PPost (bs : List Nat) {k : Nat} (r : PR (QT (lv k))) (g : PH) (z : Option (Int32 × PH)) (o d nt N L K : Nat) (xs : List (QT K)) (la : Nat) (f : QT (lv k) → QT K) : Prop := match r with
  | .inl e => Fl la d L g e z
  | .inr (x, s') => ∃ g' L', (∀ q, rdL 1 0 g' = some q → z = some q) ∧ oP (RQ la d L) g g' ∧ WS bs s' g' (o - nt) d 0 (N + sz (lv k) x + nt) L' K (xs ++ [f x]) la ∧ L ≤ L'
def PLs (bs : List Nat) (k : Nat) : Prop := ∀ (s : PS) (g : PH) (o d nt N L K la : Nat) (xs : List (QT K)) (f : QT (lv k) → QT K), (∀ x, notN nt ⟨lv k, x⟩ = ⟨K, f x⟩) → WS bs s g o d nt N L K xs la → o + k = 8 → d + nt ≤ o → N + nt + (bs.length - s.1) ≤ 390 → PPost bs (plnP bs k s) g (rdL 1 1 g) o d nt N L K xs la f
theorem and_l {bs : List Nat} {k : Nat} (P : PLs bs k) {o D la : Nat} (ho : o + k = 8) (hD : D ≤ o) : ∀ (f : Nat) (s : PS) (g : PH) (N L : Nat) (xs : List (QT (lv k))), xs ≠ [] → 21 ≤ s.2 + f → WS bs s g o D 0 N L (lv k) xs la → N + (bs.length - s.1) ≤ 390 → (match jnT bs 38 (plnP bs k) f s xs with
    | .inl e => Fl la D L g e (rdL 1 0 g)
    | .inr (zs, s') => ∃ g' L' N', (∀ q, rdL 1 0 g' = some q → rdL 1 0 g = some q) ∧ oP (RQ la D L) g g' ∧ WS bs s' g' o D 0 N' L' (lv k) zs la ∧ zs ≠ [] ∧ kT bs s' ≠ 38 ∧ L ≤ L' ∧ N' + (bs.length - s'.1) ≤ 390 ∧ s.2 ≤ s'.2) := by
  intro f
  induction f with
  | zero =>
    intro s g N L xs ne h21 W hr
    have := W.2.2.1.2.2.2
    omega
  | succ f ih =>
    intro s g N L xs ne h21 W hr
    have oo := W.2.2.1.2.2
    unfold jnT
    by_cases z : kT bs s = 38
    · rw [if_pos z]
      obtain ⟨g1, w1, x1, -, W1⟩ := and_step W z
      have a1 := (nT_le oo.1).2.2 (by omega)
      have a2 := (nT_le oo.1).2.1
      have e1 := nT_n (s := s) (bs := bs) (by omega)
      have p := P (nT bs s) g1 o D 0 N L (lv k) la xs (fun x => x) (fun _ => rfl) W1 ho (by omega) (by omega)
      have pf := plnP_PF k (nT bs s) W1.2.2.1.2.2
      cases e : plnP bs k (nT bs s) with
      | inl v =>
        rw [e] at p
        exact Fl.up p (x1.mono (fun _ _ _ y => Or.inl y)) (Nat.le_refl _) (Nat.le_refl _) (Nat.le_refl _) w1
      | inr v =>
        rw [e] at p pf
        obtain ⟨q1, q2, q3, q4, q5⟩ := pf
        obtain ⟨g2, L2, w2, x2, W2, l2⟩ := p
        have x12 := x1.tr x2
        have r := ih v.2 g2 (N + sz (lv k) v.1) L2 (xs ++ [v.1]) (by simp) (by omega) W2 (by omega)
        show match jnT bs 38 (plnP bs k) f v.2 (xs ++ [v.1]) with
          | .inl e => Fl la D L g e (rdL 1 0 g)
          | .inr (zs, s') => ∃ g' L' N', (∀ q, rdL 1 0 g' = some q → rdL 1 0 g = some q) ∧ oP (RQ la D L) g g' ∧ WS bs s' g' o D 0 N' L' (lv k) zs la ∧ zs ≠ [] ∧ kT bs s' ≠ 38 ∧ L ≤ L' ∧ N' + (bs.length - s'.1) ≤ 390 ∧ s.2 ≤ s'.2
        cases e2 : jnT bs 38 (plnP bs k) f v.2 (xs ++ [v.1]) with
        | inl u =>
          rw [e2] at r
          exact Fl.up r (x12.mono (fun _ _ _ y => Or.inl y)) (Nat.le_refl _) (Nat.le_refl _) l2 (fun q hq => w1 q (w2 q hq))
        | inr u =>
          rw [e2] at r
          obtain ⟨g3, L3, N3, r1, r2, r3, r4, r5, r6, r7, r8⟩ := r
          exact ⟨g3, L3, N3, fun q hq => w1 q (w2 q (r1 q hq)), x12.tr (r2.mono (RQ.mono (Nat.le_refl _) (Nat.le_refl _) l2)), r3, r4, r5, by omega, r7, by omega⟩
    · rw [if_neg z]
      exact ⟨g, L, N, fun _ hq => hq, oP.rf _ g, W, ne, z, Nat.le_refl _, hr, Nat.le_refl _⟩
/-- a query is read within its brackets -/
def QE (bs : List Nat) (k o D lo : Nat) (g : PH) (L : Nat) (z : Option (Int32 × PH)) (all : List (QT (lv k + 1))) (s' : PS) : Prop := ∃ g' L' N' lz zs ys, (∀ q, rdL 1 0 g' = some q → z = some q) ∧ oP (RW lo D L) g g' ∧ WS bs s' g' o D 0 N' L' (lv k) zs lz ∧ BL g' L' 75 73 74 D (lv k + 1) ys lo ∧ lo + (ys.map (sz (lv k + 1))).sum = lz ∧ zs ≠ [] ∧ all = ys ++ [mkJ 5 (lv k) zs] ∧ kT bs s' ≠ 38 ∧ kT bs s' ≠ 124 ∧ L ≤ L' ∧ N' + (bs.length - s'.1) ≤ 390
theorem QE.up {bs : List Nat} {k o D lo : Nat} {g g1 : PH} {L L1 : Nat} {z z' : Option (Int32 × PH)} {all : List (QT (lv k + 1))} {s' : PS} (Q : QE bs k o D lo g1 L1 z all s') (x : oP (RW lo D L) g g1) (hl : L ≤ L1) (w : ∀ q, z = some q → z' = some q) : QE bs k o D lo g L z' all s' := by
  obtain ⟨g', L', N', lz, zs, ys, q1, q2, q3, q4, q5, q6, q7, q8, q9, q10, q11⟩ := Q
  exact ⟨g', L', N', lz, zs, ys, fun q hq => w q (q1 q hq), x.tr (q2.mono (RW.mono (Nat.le_refl _) (Nat.le_refl _) hl)), q3, q4, q5, q6, q7, q8, q9, by omega, q11⟩
theorem BL.or {g g' : PH} {L L' a D n : Nat} {ys : List (QT n)} {lo : Nat} (B : BL g L 75 73 74 D n ys lo) (x : oP (RQ a D L) g g') (h : lo + (ys.map (sz n)).sum ≤ a) (hl : L ≤ L') : BL g' L' 75 73 74 D n ys lo := BL.st (h := g) (fun k hk => x.1 _ _ _ (fun z => by unfold RQ at z; omega)) hl (fun i hi => x.1 _ _ _ (fun z => by unfold RQ at z; omega)) (fun i k i1 i2 k1 k2 => x.1 _ _ _ (fun z => by unfold RQ at z; omega)) B
/-- what & joins: from where a part is wanted -/
theorem both_l {bs : List Nat} {k : Nat} (P : PLs bs k) {o D la : Nat} (ho : o + k = 8) (hD : D ≤ o) {s : PS} {g : PH} {N L : Nat} (W : WS bs s g o D 0 N L (lv k) [] la) (hr : N + (bs.length - s.1) ≤ 390) : (match jnP bs 38 (plnP bs k) 20 s with
    | .inl e => Fl la D L g e (rdL 1 1 g)
    | .inr (zs, s') => ∃ g' L' N', (∀ q, rdL 1 0 g' = some q → rdL 1 1 g = some q) ∧ oP (RQ la D L) g g' ∧ WS bs s' g' o D 0 N' L' (lv k) zs la ∧ zs ≠ [] ∧ kT bs s' ≠ 38 ∧ L ≤ L' ∧ N' + (bs.length - s'.1) ≤ 390 ∧ s.2 < s'.2) := by
  rw [jnP_T]
  have p := P s g o D 0 N L (lv k) la [] (fun x => x) (fun _ => rfl) W ho (by omega) (by omega)
  have pf := plnP_PF k s W.2.2.1.2.2
  cases e : plnP bs k s with
  | inl v => rw [e] at p; exact p
  | inr v =>
    rw [e] at p pf
    obtain ⟨q1, q2, q3, q4, q5⟩ := pf
    obtain ⟨g2, L2, w2, x2, W2, l2⟩ := p
    have r := and_l P ho hD 20 v.2 g2 (N + sz (lv k) v.1) L2 [v.1] (by simp) (by omega) W2 (by omega)
    show match jnT bs 38 (plnP bs k) 20 v.2 [v.1] with
      | .inl e => Fl la D L g e (rdL 1 1 g)
      | .inr (zs, s') => ∃ g' L' N', (∀ q, rdL 1 0 g' = some q → rdL 1 1 g = some q) ∧ oP (RQ la D L) g g' ∧ WS bs s' g' o D 0 N' L' (lv k) zs la ∧ zs ≠ [] ∧ kT bs s' ≠ 38 ∧ L ≤ L' ∧ N' + (bs.length - s'.1) ≤ 390 ∧ s.2 < s'.2
    cases e2 : jnT bs 38 (plnP bs k) 20 v.2 [v.1] with
    | inl u =>
      rw [e2] at r
      exact Fl.up r (x2.mono (fun _ _ _ y => Or.inl y)) (Nat.le_refl _) (Nat.le_refl _) l2 w2
    | inr u =>
      rw [e2] at r
      obtain ⟨g3, L3, N3, r1, r2, r3, r4, r5, r6, r7, r8⟩ := r
      exact ⟨g3, L3, N3, fun q hq => w2 q (r1 q hq), x2.tr (r2.mono (RQ.mono (Nat.le_refl _) (Nat.le_refl _) l2)), r3, r4, r5, by omega, r7, by omega⟩
theorem or_l {bs : List Nat} {k : Nat} (P : PLs bs k) {o D lo : Nat} (ho : o + k = 8) (hD : D ≤ o) : ∀ (f : Nat) (s : PS) (g : PH) (N L lz : Nat) (zs : List (QT (lv k))) (ys : List (QT (lv k + 1))), zs ≠ [] → kT bs s ≠ 38 → 21 ≤ s.2 + f → WS bs s g o D 0 N L (lv k) zs lz → BL g L 75 73 74 D (lv k + 1) ys lo → lo + (ys.map (sz (lv k + 1))).sum = lz → N + (bs.length - s.1) ≤ 390 → (match jnT bs 124 (bthP bs (plnP bs k)) f s (ys ++ [mkJ 5 (lv k) zs]) with
    | .inl e => Fl lo D L g e (rdL 1 0 g)
    | .inr (all, s') => QE bs k o D lo g L (rdL 1 0 g) all s') := by
  intro f
  induction f with
  | zero =>
    intro s g N L lz zs ys ne h38 h21 W O hz hr
    have := W.2.2.1.2.2.2
    omega
  | succ f ih =>
    intro s g N L lz zs ys ne h38 h21 W O hz hr
    have oo := W.2.2.1.2.2
    have hb := W.2.2.2.2.2.1
    unfold jnT
    by_cases z : kT bs s = 124
    · rw [if_pos z]
      obtain ⟨g1, N1, w1, x1, e1, W1, O1⟩ := or_step W O hz ne (by omega) z
      have a1 := (nT_le oo.1).2.2 (by omega)
      have a2 := (nT_le oo.1).2.1
      have n1 := nT_n (s := s) (bs := bs) (by omega)
      have mj := mkJ_le (kd := 5) ne
      have sy : ((ys ++ [mkJ 5 (lv k) zs]).map (sz (lv k + 1))).sum = (ys.map (sz (lv k + 1))).sum + sz (lv k + 1) (mkJ 5 (lv k) zs) := by simp
      have hlo : lo ≤ N1 := by omega
      have r := both_l P ho hD W1 (by omega)
      rw [show bthP bs (plnP bs k) (nT bs s) = mapR (mkJ 5 (lv k)) (jnP bs 38 (plnP bs k) 20 (nT bs s)) from rfl]
      cases e : jnP bs 38 (plnP bs k) 20 (nT bs s) with
      | inl v =>
        rw [e] at r
        exact Fl.up r x1 hlo (Nat.le_refl _) (Nat.le_refl _) w1
      | inr v =>
        rw [e] at r
        obtain ⟨g3, L3, N3, r1, r2, r3, r4, r5, r6, r7, r8⟩ := r
        have O3 := O1.or (L' := L3) r2 (by omega) r6
        have x3 : oP (RW lo D L) g g3 := x1.tr (r2.mono (fun c i k y => RW.mono hlo (Nat.le_refl _) (Nat.le_refl _) c i k (Or.inl y)))
        have r' := ih v.2 g3 N3 L3 N1 v.1 (ys ++ [mkJ 5 (lv k) zs]) r4 r5 (by omega) r3 O3 (by omega) r7
        show match jnT bs 124 (bthP bs (plnP bs k)) f v.2 (ys ++ [mkJ 5 (lv k) zs] ++ [mkJ 5 (lv k) v.1]) with
          | .inl e => Fl lo D L g e (rdL 1 0 g)
          | .inr (all, s') => QE bs k o D lo g L (rdL 1 0 g) all s'
        cases e2 : jnT bs 124 (bthP bs (plnP bs k)) f v.2 (ys ++ [mkJ 5 (lv k) zs] ++ [mkJ 5 (lv k) v.1]) with
        | inl u =>
          rw [e2] at r'
          exact Fl.up r' x3 (Nat.le_refl _) (Nat.le_refl _) r6 (fun q hq => w1 q (r1 q hq))
        | inr u =>
          rw [e2] at r'
          exact QE.up r' x3 r6 (fun q hq => w1 q (r1 q hq))
    · rw [if_neg z]
      exact ⟨g, L, N, lz, zs, ys, fun _ hq => hq, oP.rf _ g, W, O, hz, ne, rfl, h38, z, Nat.le_refl _, hr⟩
/-- a query -/
theorem query_l {bs : List Nat} {k : Nat} (P : PLs bs k) {o D : Nat} (ho : o + k = 8) (hD : D ≤ o) {s : PS} {g : PH} {N L : Nat} (W : WS bs s g o D 0 N L (lv k) [] N) (O : BL g L 75 73 74 D (lv k + 1) [] N) (hr : N + (bs.length - s.1) ≤ 390) : (match qryP bs (plnP bs k) s with
    | .inl e => Fl N D L g e (rdL 1 1 g)
    | .inr (x, s') => ∃ all, x = mkJ 6 (lv k + 1) all ∧ QE bs k o D N g L (rdL 1 1 g) all s') := by
  have r := both_l P ho hD W hr
  show match mapR (mkJ 6 (lv k + 1)) (jnP bs 124 (bthP bs (plnP bs k)) 20 s) with
    | .inl e => Fl N D L g e (rdL 1 1 g)
    | .inr (x, s') => ∃ all, x = mkJ 6 (lv k + 1) all ∧ QE bs k o D N g L (rdL 1 1 g) all s'
  rw [jnP_T]
  rw [show bthP bs (plnP bs k) s = mapR (mkJ 5 (lv k)) (jnP bs 38 (plnP bs k) 20 s) from rfl]
  cases e : jnP bs 38 (plnP bs k) 20 s with
  | inl v =>
    rw [e] at r
    exact r
  | inr v =>
    rw [e] at r
    obtain ⟨g3, L3, N3, r1, r2, r3, r4, r5, r6, r7, r8⟩ := r
    have O3 := O.or (L' := L3) r2 (Nat.le_refl _) r6
    have x3 : oP (RW N D L) g g3 := r2.mono (fun _ _ _ y => Or.inl y)
    have r' := or_l P ho hD 20 v.2 g3 N3 L3 N v.1 [] r4 r5 (by omega) r3 O3 rfl r7
    show match mapR (mkJ 6 (lv k + 1)) (jnT bs 124 (bthP bs (plnP bs k)) 20 v.2 [mkJ 5 (lv k) v.1]) with
      | .inl e => Fl N D L g e (rdL 1 1 g)
      | .inr (x, s') => ∃ all, x = mkJ 6 (lv k + 1) all ∧ QE bs k o D N g L (rdL 1 1 g) all s'
    rw [List.nil_append] at r'
    cases e2 : jnT bs 124 (bthP bs (plnP bs k)) 20 v.2 [mkJ 5 (lv k) v.1] with
    | inl u =>
      rw [e2] at r'
      exact Fl.up r' x3 (Nat.le_refl _) (Nat.le_refl _) r6 r1
    | inr u =>
      rw [e2] at r'
      exact ⟨u.1, rfl, QE.up r' x3 r6 r1⟩
