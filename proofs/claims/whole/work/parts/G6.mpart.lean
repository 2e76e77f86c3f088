/-! THE REFERENCE READS a simple part: words and rows -/
theorem sgn_t {g : PH} (m : MSh g) {bs : List Nat} {s : PS} (R : MRs bs s g) {c : Nat} (e : kT bs s = c) (hc : 33 ≤ c) : fX12_isSignNow 45 (nI c) g = some 1 := by
  have := kT_lt bs s
  rw [sign_eq m R hc (by omega), decide_eq_true e]
  rfl
theorem sgn_f {g : PH} (m : MSh g) {bs : List Nat} {s : PS} (R : MRs bs s g) {c : Nat} (e : kT bs s ≠ c) (hc : 33 ≤ c) (hc2 : c < 200) : fX12_isSignNow 45 (nI c) g = some 0 := by
  rw [sign_eq m R hc hc2, decide_eq_false e]
  rfl
/-- the state before a part, or behind one -/
def WS (bs : List Nat) (s : PS) (g : PH) (o d nt N L K : Nat) (xs : List (QT K)) (la : Nat) : Prop := MSh g ∧ TM bs g ∧ MRs bs s g ∧ RSt g o d nt N L ∧ BL g L 72 70 71 d K xs la ∧ la + (xs.map (sz K)).sum = N ∧ d ≤ 8 ∧ nt ≤ o ∧ o ≤ 8 ∧ L ≤ s.2 ∧ okB bs ∧ bs.length ≤ 300
/-- a node is laid and hung on; then the next token may be read -/
theorem node_end {bs : List Nat} {s s1 : PS} {g gA g1 : PH} {o d nt N L L1 K n : Nat} {xs : List (QT K)} {la : Nat} {y : QT n} {y' : QT K} (W : WS bs s g o d nt N L K xs la) (h1 : N + 1 + nt ≤ 400) (x : oP (RQ la d L) g gA) (SA : RSt gA o d nt N L1) (hl : L ≤ L1) (hl2 : L1 ≤ s1.2) (BA : BL gA L 72 70 71 d K xs la) (RA : MRs bs s1 gA) (y1 : oP (mkF N) gA g1) (e67 : hI g1 20 67 6 = nI (N + 1)) (e65 : hI g1 20 65 (2400 + N) = -1) (hz : sz n y = 1) (Y : QR g1 L1 n y N) (hy : notN nt ⟨n, y⟩ = ⟨K, y'⟩) : ∃ g2, fX12_hasPart 45 (nI N) g1 = some g2 ∧ oP (RQ la d L) g g2 ∧ WS bs s1 g2 (o - nt) d 0 (N + 1 + nt) L1 K (xs ++ [y']) la ∧ (kT bs s1 ≠ 2 → ∃ g3, fX12_reads 45 g2 = some g3 ∧ oP (RQ la d L) g g3 ∧ WS bs (nT bs s1) g3 (o - nt) d 0 (N + 1 + nt) L1 K (xs ++ [y']) la) := by
  obtain ⟨m, T, R, S, B, hb, hd, h2, h3, hL, ok, l3⟩ := W
  have m1 := (m.oP x).oP y1
  obtain ⟨g2, p1, p2, p3, p4, p5⟩ := lay_eq m1 hd h1 h2 h3 y1 SA BA hb hl hz e67 e65 Y hy
  have x2 : oP (RQ la d L) g g2 := x.tr (p2.mono (RQ.mono (Nat.le_refl _) (Nat.le_refl _) hl))
  have R2 := RA.of p5
  have m2 := m.oP x2
  have T2 := T.P x2
  have zz : sz K y' = 1 + nt := by
    have a := notN_sz nt ⟨n, y⟩
    rw [hy] at a
    show sz K y' = _
    have a : sz K y' = sz n y + nt := a
    omega
  have hb2 : la + ((xs ++ [y']).map (sz K)).sum = N + 1 + nt := by
    have : ((xs ++ [y']).map (sz K)).sum = (xs.map (sz K)).sum + sz K y' := by simp
    omega
  refine ⟨g2, p1, x2, ⟨m2, T2, R2, p4, p3, hb2, hd, Nat.zero_le _, by omega, hl2, ok, l3⟩, fun k2 => ?_⟩
  obtain ⟨g3, q1, q2, q3⟩ := adM m2 T2 ok l3 R2.1 R2.2.2 (by rw [nT_n k2]; exact R2.2.1)
  have t := tk_st q2
  exact ⟨g3, q1, x2.tr (oI_oP q2 tk_RQ), m2.oI q2, T2.P (oI_oP q2 (tk_RQ (a := la) (d := d) (L := L))), q3, p4.of t.1 (fun k k1 k2 => t.2 k (by omega)), p3.of t.1, hb2, hd, Nat.zero_le _, by omega, by rw [nT_n k2]; exact hl2, ok, l3⟩
/-- what a read of a simple part gives -/
def LPost (bs : List Nat) (r : PR L3) (g : PH) (z : Option (Int32 × PH)) (o d nt N L K : Nat) (xs : List (QT K)) (la : Nat) (f : L3 → QT K) : Prop := match r with
  | .inl e => ∃ g', z = some (0, g') ∧ oP (RQ la d L) g g' ∧ hI g' 12 45 22 = nI e
  | .inr (l, s') => ∃ g' L', z = some (1, g') ∧ oP (RQ la d L) g g' ∧ WS bs s' g' (o - nt) d 0 (N + 1 + nt) L' K (xs ++ [f l]) la ∧ L ≤ L'
theorem word_eq {bs : List Nat} {s : PS} {g : PH} {o d nt N L K n : Nat} {xs : List (QT K)} {la : Nat} {em : L3 → QT n} {f : L3 → QT K} (hq : ∀ h L lo l, LfR h L lo l → QR h L n (em l) lo) (hz : ∀ l, sz n (em l) = 1) (hy : ∀ l, notN nt ⟨n, em l⟩ = ⟨K, f l⟩) (W : WS bs s g o d nt N L K xs la) (h1 : N + 1 + nt ≤ 400) (k2 : kT bs s = 2) : LPost bs (wrdP bs s) g (fX12_readsPart 45 g) o d nt N L K xs la f := by
  obtain ⟨m, T, R, S, B, hb, hd, h2, h3, hL, ok, l3⟩ := id W
  have v := R.v2 k2
  have oo := R.2.2
  have n2 := nT_w k2
  have w20 := (kT_2 oo.1 k2).2.1
  -- the word is taken
  have x1 : oP (RQ la d L) g (sI g 12 45 45 (nI (s.2 + 1))) := (oP.rf _ g).sI _ (by unfold RQ; omega)
  have m1 := m.oP x1
  have T1 := T.P x1
  have R1 : MR bs s.1 (sI g 12 45 45 (nI (s.2 + 1))) := by
    obtain ⟨⟨r1, r2, r3, r4, r5, r6⟩, r7, r8⟩ := R
    have e : ∀ k, k ≠ 45 → hI (sI g 12 45 45 (nI (s.2 + 1))) 12 45 k = hI g 12 45 k := fun k hk => by rw [rd12, if_neg hk]
    exact ⟨(e 24 (by decide)).trans r1, (e 22 (by decide)).trans r2, (e 21 (by decide)).trans r3, fun z => (e 23 (by decide)).trans (r4 z), fun z => (e 23 (by decide)).trans (r5 z), fun z => (e 23 (by decide)).trans (r6 z)⟩
  obtain ⟨g2, f1, f2, f3⟩ := adM m1 T1 ok l3 R1 oo (by rw [rd12, if_pos rfl, n2])
  have t2 := tk_st f2
  have x2 := x1.tr (oI_oP f2 tk_RQ)
  have m2 := m.oP x2
  have T2 := T.P x2
  have r20 : ∀ i k, hI g2 20 i k = hI g 20 i k := fun i k => (t2.1 i k).trans (by rw [hI_sI, if_neg (fun q => absurd q.1 (by decide))])
  have r12 : ∀ k, 42 ≤ k → k ≤ 44 → hI g2 12 45 k = hI g 12 45 k := fun k a b => (t2.2 k (by omega)).trans (by rw [rd12, if_neg (by omega)])
  have S2 := S.of r20 r12
  have B2 := B.of r20
  have o1 := oo.n
  have st : fX12_readsPart 45 g = bd (fX12_isSignNow 45 (42 : Int32) g2) (fun z7 =>
  if (z7 = 0) then (bd (fX12_isSignNow 45 (126 : Int32) g2) (fun z8 =>
  if (z8 = 0) then (bd (fX12_makes 45 (6 : Int32) (0 : Int32) (nI (vT bs s)) (0 : Int32) g2) (fun z9 =>
  gd (hK z9.2 45 = 12) (bd (fX12_hasPart 45 z9.1 z9.2) (fun z11 =>
  fX12_readsPart_b151  z11)))) else
  bd (fX12_reads 45 g2) (fun z12 =>
  gd (hK z12 45 = 12) (if ((hI z12 12 45 21) = (2 : Int32)) then (bd (fX12_reads 45 z12) (fun z14 =>
  gd (hK z14 45 = 12) (bd (fX12_takesWord 45 z14) (fun z16 =>
  if (¬ z16.1 = 0) then (gd (hK z16.2 45 = 12) (bd (fX12_makes 45 (6 : Int32) (2 : Int32) (nI (vT bs s)) (hI z16.2 12 45 23) z16.2) (fun z18 =>
  gd (hK z18.2 45 = 12) (gs (hR z18.2 12 45 28) (fun a20 =>
  gd (hK z18.2 a20 = 20 ∧ inb ((2400 : Int32) + z18.1) (hN z18.2 a20)) (lt (sI z18.2 20 a20 (Int32.toNatClampNeg ((2400 : Int32) + z18.1)) (hI z12 12 45 23)) (fun h24 =>
  bd (fX12_hasPart 45 z18.1 h24) (fun z25 =>
  gd (hK z25 45 = 12) (bd (fX12_reads 45 z25) (fun z27 =>
  fX12_readsPart_b151  z27)))))))))) else
  some (((0 : Int32), z16.2)))))) else
  some (((0 : Int32), z12)))))) else
  bd (fX12_makes 45 (6 : Int32) (1 : Int32) (nI (vT bs s)) (0 : Int32) g2) (fun z28 =>
  gd (hK z28.2 45 = 12) (bd (fX12_hasPart 45 z28.1 z28.2) (fun z30 =>
  gd (hK z30 45 = 12) (bd (fX12_reads 45 z30) (fun z32 =>
  fX12_readsPart_b151  z32)))))) := by
    unfold fX12_readsPart
    rw [gd_t (k_45 m), show fX12_isSignNow 45 (91 : Int32) g = some 0 from sgn_f m R (c := 91) (by omega) (by decide) (by decide), bd_t, if_pos rfl, takesWord_eq m R, if_pos k2, bd_t, if_pos (show ¬ (1 : Int32) = 0 by decide), gd_t (k_45 m1), f1, bd_t, gd_t (k_45 m2), v]
  rw [st]
  unfold wrdP
  by_cases z42 : kT bs (nT bs s) = 42
  · rw [if_pos z42, show fX12_isSignNow 45 (42 : Int32) g2 = some 1 from sgn_t m2 f3 z42 (by decide), bd_t, if_neg (show ¬ (1 : Int32) = 0 by decide)]
    obtain ⟨g3, q1, q2, q3, q4, q5, q6, q7, q8, q9⟩ := makes_eq m2 (show N < 400 by omega) S2.2.2.2.1 1 (nI (vT bs s)) 0
    have m3 := m2.oP q2
    obtain ⟨g4, p1, p2, p3, p4⟩ := node_end W h1 x2 S2 (Nat.le_refl _) (show L ≤ (nT bs s).2 by omega) B2 f3 q2 q9 q8 (hz (1, [vT bs s], 0)) (hq _ _ _ _ ⟨q3, fun _ => q4, fun y => absurd y (show ¬ (1 : Nat) = 2 by decide), fun y => absurd y (show ¬ (1 : Nat) = 3 by decide), q7⟩) (hy _)
    obtain ⟨g5, u1, u2, u3⟩ := p4 (by omega)
    have m4 := p3.1
    rw [q1, bd_t, gd_t (k_45 m3), p1, bd_t, gd_t (k_45 m4), u1, bd_t]
    exact ⟨g5, L, rfl, u2, u3, Nat.le_refl _⟩
  · rw [if_neg z42, show fX12_isSignNow 45 (42 : Int32) g2 = some 0 from sgn_f m2 f3 z42 (by decide) (by decide), bd_t, if_pos rfl]
    by_cases z126 : kT bs (nT bs s) = 126
    · rw [if_pos z126, show fX12_isSignNow 45 (126 : Int32) g2 = some 1 from sgn_t m2 f3 z126 (by decide), bd_t, if_neg (show ¬ (1 : Int32) = 0 by decide)]
      obtain ⟨g3, a1, a2, a3⟩ := adM m2 T2 ok l3 f3.1 o1 (by rw [nT_n (by omega)]; exact f3.2.1)
      have x3 := x2.tr (oI_oP a2 tk_RQ)
      have m3 := m.oP x3
      have T3 := T.P x3
      have o2 := o1.n
      have e2 := nT_n (s := nT bs s) (bs := bs) (by omega)
      rw [a1, bd_t, gd_t (k_45 m3)]
      by_cases z3 : kT bs (nT bs (nT bs s)) = 3
      · have v3 := a3.v3 z3
        have e21 : hI g3 12 45 21 = (2 : Int32) := by
          rcases mk_cases bs (nT bs (nT bs s)) with ⟨k', _⟩ | ⟨k', _⟩ | ⟨k', _⟩ | ⟨_, q, _⟩ | ⟨k', _⟩ | ⟨k', _⟩
          · omega
          · omega
          · omega
          · rw [a3.1.2.2.1, q]; rfl
          all_goals omega
        have e3 := nT_n (s := nT bs (nT bs s)) (bs := bs) (by omega)
        obtain ⟨g4, b1, b2, b3⟩ := adM m3 T3 ok l3 a3.1 o2 (by rw [e3]; exact a3.2.1)
        have x4 := x3.tr (oI_oP b2 tk_RQ)
        have m4 := m.oP x4
        have T4 := T.P x4
        have o3 := o2.n
        rw [if_pos z3, if_pos e21, b1, bd_t, gd_t (k_45 m4), takesWord_eq m4 b3]
        by_cases y2 : kT bs (nT bs (nT bs (nT bs s))) = 2
        · have v4 := b3.v2 y2
          have e4 := nT_w y2
          have w4 := (kT_2 o3.1 y2).2.1
          rw [if_pos y2, if_pos y2, bd_t, if_pos (show ¬ (1 : Int32) = 0 by decide)]
          have x5 : oP (RQ la d L) g (sI g4 12 45 45 (nI ((nT bs (nT bs (nT bs s))).2 + 1))) := x4.sI _ (by unfold RQ; omega)
          have m5 := m.oP x5
          have t3 := tk_st a2
          have t4 := tk_st b2
          have c20 : ∀ i k, hI (sI g4 12 45 45 (nI ((nT bs (nT bs (nT bs s))).2 + 1))) 20 i k = hI g2 20 i k := fun i k => by
            rw [hI_sI, if_neg (fun q => absurd q.1 (by decide))]
            exact (t4.1 i k).trans (t3.1 i k)
          have c12 : ∀ k, 42 ≤ k → k ≤ 44 → hI (sI g4 12 45 45 (nI ((nT bs (nT bs (nT bs s))).2 + 1))) 12 45 k = hI g2 12 45 k := fun k a b => by
            rw [rd12, if_neg (by omega)]
            exact (t4.2 k (by omega)).trans (t3.2 k (by omega))
          have S5 := S2.of c20 c12
          have B5 := B2.of c20
          have v5 : hI (sI g4 12 45 45 (nI ((nT bs (nT bs (nT bs s))).2 + 1))) 12 45 23 = nI (vT bs (nT bs (nT bs (nT bs s)))) := by rw [rd12, if_neg (by decide)]; exact v4
          obtain ⟨g6, q1, q2, q3, q4, q5, q6, q7, q8, q9⟩ := makes_eq m5 (show N < 400 by omega) S5.2.2.2.1 2 (nI (vT bs s)) (nI (vT bs (nT bs (nT bs (nT bs s)))))
          have m6 := m5.oP q2
          have e24 : (2400 : Int32) + nI N = nI (2400 + N) := nI_add 2400 N
          have ck : Int32.toNatClampNeg (nI (2400 + N)) = 2400 + N := nI_clamp (by omega)
          have q2' : oP (mkF N) (sI g4 12 45 45 (nI ((nT bs (nT bs (nT bs s))).2 + 1))) (sI g6 20 63 (2400 + N) (nI (vT bs (nT bs (nT bs s))))) := q2.sI _ ⟨rfl, Or.inl ⟨by decide, by decide, rfl⟩⟩
          have rr : ∀ i k, i ≠ 63 → hI (sI g6 20 63 (2400 + N) (nI (vT bs (nT bs (nT bs s))))) 20 i k = hI g6 20 i k := fun i k hi => by rw [getI, if_neg (fun q => hi q.1)]
          -- the end of the second word
          have R5 : MR bs (nT bs (nT bs (nT bs s))).1 (sI g4 12 45 45 (nI ((nT bs (nT bs (nT bs s))).2 + 1))) := by
            obtain ⟨⟨r1, r2, r3, r4, r5, r6⟩, r7, r8⟩ := b3
            have e : ∀ k, k ≠ 45 → hI (sI g4 12 45 45 (nI ((nT bs (nT bs (nT bs s))).2 + 1))) 12 45 k = hI g4 12 45 k := fun k hk => by rw [rd12, if_neg hk]
            exact ⟨(e 24 (by decide)).trans r1, (e 22 (by decide)).trans r2, (e 21 (by decide)).trans r3, fun z => (e 23 (by decide)).trans (r4 z), fun z => (e 23 (by decide)).trans (r5 z), fun z => (e 23 (by decide)).trans (r6 z)⟩
          obtain ⟨g7, p1, p2, p3, p4, p5⟩ := lay_eq (m5.oP q2') hd h1 h2 h3 q2' S5 B5 hb (Nat.le_refl _) (hz (2, [vT bs s, vT bs (nT bs (nT bs (nT bs s)))], vT bs (nT bs (nT bs s)))) ((rr 67 6 (by decide)).trans q9) ((rr 65 _ (by decide)).trans q8) (hq _ _ _ _ ⟨(rr 60 _ (by decide)).trans q3, fun _ => (rr 61 _ (by decide)).trans q4, fun _ => ⟨(rr 62 _ (by decide)).trans q5, by rw [getI, if_pos ⟨rfl, rfl⟩]⟩, fun y => absurd y (show ¬ (2 : Nat) = 3 by decide), (rr 64 _ (by decide)).trans q7⟩) (hy _)
          have x7 := x5.tr p2
          have m7 := m.oP x7
          have T7 := T.P x7
          have R7 : MR bs (nT bs (nT bs (nT bs s))).1 g7 := by
            obtain ⟨r1, r2, r3, r4, r5, r6⟩ := R5
            exact ⟨(p5 24 (by decide) (by decide)).trans r1, (p5 22 (by decide) (by decide)).trans r2, (p5 21 (by decide) (by decide)).trans r3, fun z => (p5 23 (by decide) (by decide)).trans (r4 z), fun z => (p5 23 (by decide) (by decide)).trans (r5 z), fun z => (p5 23 (by decide) (by decide)).trans (r6 z)⟩
          obtain ⟨g8, u1, u2, u3⟩ := adM m7 T7 ok l3 R7 o3 (by rw [p5 45 (by decide) (by decide), rd12, if_pos rfl, e4])
          have t8 := tk_st u2
          have zz : ∀ l, sz K (f l) = 1 + nt := fun l => by
            have a := notN_sz nt ⟨n, em l⟩
            rw [hy l] at a
            have a : sz K (f l) = sz n (em l) + nt := a
            rw [hz] at a; exact a
          refine ⟨g8, L, ?_, x7.tr (oI_oP u2 tk_RQ), ⟨m7.oI u2, T7.P (oI_oP u2 (tk_RQ (a := la) (d := d) (L := L))), u3, p4.of t8.1 (fun k k1 k2 => t8.2 k (by omega)), p3.of t8.1, ?_, hd, Nat.zero_le _, by omega, by omega, ok, l3⟩, Nat.le_refl _⟩
          · show gd (hK (sI g4 12 45 45 (nI ((nT bs (nT bs (nT bs s))).2 + 1))) 45 = 12) _ = _
            rw [gd_t (k_45 m5)]
            show bd (fX12_makes 45 (6 : Int32) (2 : Int32) (nI (vT bs s)) (hI (sI g4 12 45 45 (nI ((nT bs (nT bs (nT bs s))).2 + 1))) 12 45 23) (sI g4 12 45 45 (nI ((nT bs (nT bs (nT bs s))).2 + 1)))) _ = _
            rw [v5, q1, bd_t, gd_t (k_45 m6), r12_45_28 m6, gs_t, e24, gd_t ⟨k_63 m6, by rw [n_63 m6]; exact inbI (by omega) (by decide)⟩, lt_t, v3]
            simp only [ck]
            rw [p1, bd_t, gd_t (k_45 m7), u1, bd_t]
            rfl
          · have : ((xs ++ [f (2, [vT bs s, vT bs (nT bs (nT bs (nT bs s)))], vT bs (nT bs (nT bs s)))]).map (sz K)).sum = (xs.map (sz K)).sum + sz K (f (2, [vT bs s, vT bs (nT bs (nT bs (nT bs s)))], vT bs (nT bs (nT bs s)))) := by simp
            rw [this, zz]; omega
        · rw [if_neg y2, if_neg y2, bd_t, if_neg (show ¬ ¬ (0 : Int32) = 0 from fun y => y rfl)]
          exact ⟨g4, rfl, x4, b3.at⟩
      · have e21 : ¬ hI g3 12 45 21 = (2 : Int32) := by
          rw [a3.1.2.2.1]
          rcases mk_cases bs (nT bs (nT bs s)) with ⟨_, q⟩ | ⟨_, q, _⟩ | ⟨_, q, _⟩ | ⟨k', _⟩ | ⟨_, q⟩ | ⟨_, q, _⟩
          · rw [q]; decide
          · rw [q]; decide
          · rw [q]; decide
          · omega
          · rw [q]; decide
          · rw [q]; decide
        rw [if_neg z3, if_neg e21]
        exact ⟨g3, rfl, x3, a3.at⟩
    · rw [if_neg z126, show fX12_isSignNow 45 (126 : Int32) g2 = some 0 from sgn_f m2 f3 z126 (by decide) (by decide), bd_t, if_pos rfl]
      obtain ⟨g3, q1, q2, q3, q4, q5, q6, q7, q8, q9⟩ := makes_eq m2 (show N < 400 by omega) S2.2.2.2.1 0 (nI (vT bs s)) 0
      have m3 := m2.oP q2
      obtain ⟨g4, p1, p2, p3, p4⟩ := node_end W h1 x2 S2 (Nat.le_refl _) (show L ≤ (nT bs s).2 by omega) B2 f3 q2 q9 q8 (hz (0, [vT bs s], 0)) (hq _ _ _ _ ⟨q3, fun _ => q4, fun y => absurd y (show ¬ (0 : Nat) = 2 by decide), fun y => absurd y (show ¬ (0 : Nat) = 3 by decide), q7⟩) (hy _)
      rw [q1, bd_t, gd_t (k_45 m3), p1, bd_t]
      exact ⟨g4, L, rfl, p2, p3, Nat.le_refl _⟩
