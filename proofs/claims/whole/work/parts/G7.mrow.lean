/-! THE REFERENCE READS a row -/
theorem rowP_end {bs : List Nat} {s : PS} {ws : List Nat} (f : Nat) (k : kT bs s = 93) (ne : ws ≠ []) : rowP bs f s ws = .inr ((3, ws, 0), nT bs s) := by
  have no : ¬ (ws = [] ∨ kT bs s ≠ 93) := fun z => z.elim ne (fun y => y k)
  cases f with
  | zero => rw [rowP, if_neg no]
  | succ f => rw [rowP, if_neg (by omega), if_neg no]
theorem rowP_fail {bs : List Nat} {s : PS} {ws : List Nat} (f : Nat) (k : kT bs s ≠ 2) (no : ws = [] ∨ kT bs s ≠ 93) : rowP bs f s ws = .inl (aT bs s) := by
  cases f with
  | zero => rw [rowP, if_pos no]
  | succ f => rw [rowP, if_neg k, if_pos no]
theorem line_l {bs : List Nat} {s : PS} {g : PH} {o d nt N L K n : Nat} {xs : List (QT K)} {la : Nat} {em : L3 → QT n} {f : L3 → QT K} (hq : ∀ h L lo l, LfR h L lo l → QR h L n (em l) lo) (hz : ∀ l, sz n (em l) = 1) (hy : ∀ l, notN nt ⟨n, em l⟩ = ⟨K, f l⟩) (W : WS bs s g o d nt N L K xs la) (h1 : N + 1 + nt ≤ 400) : ∀ (fu : Nat) (ws : List Nat) (s' : PS) (u : PH), ws.length + fu = 20 → (ws = [] ∨ kT bs s' ≠ 93) → oP (RQ la d L) g u → MRs bs s' u → RSt u o d nt N (L + ws.length) → (∀ i, i < ws.length → hI u 20 66 (120 + L + i) = nI (ws.getD i 0)) → BL u L 72 70 71 d K xs la → s.2 + ws.length = s'.2 → LPost bs (rowP bs fu s' ws) g (fX12_readsLine_l12 45 (nI L) u) o d nt N L K xs la f := by
  intro fu
  induction fu with
  | zero =>
    intro ws s' u hl h0 x R S rl B hs
    obtain ⟨m, T, -, -, -, hb, hd, h2, h3, hL, ok, l3⟩ := W
    have mu := m.oP x
    have k2 : kT bs s' ≠ 2 := fun z => by have := (kT_2 R.2.2.1 z).2.1; omega
    rw [rowP_fail 0 k2 h0]
    refine ⟨u, wh_done ?_, x, R.at⟩
    show fX12_readsLine_c12 45 (nI L) u = _
    unfold fX12_readsLine_c12
    rw [gd_t (k_45 mu), takesWord_eq mu R, if_neg k2, bd_t, if_neg (show ¬ ¬ (0 : Int32) = 0 from fun y => y rfl), mr_t]
  | succ fu ih =>
    intro ws s' u hl h0 x R S rl B hs
    obtain ⟨m, T, R0, S0, B0, hb, hd, h2, h3, hL, ok, l3⟩ := id W
    have mu := m.oP x
    have Tu := T.P x
    by_cases k2 : kT bs s' = 2
    · have w20 := (kT_2 R.2.2.1 k2).2.1
      have n2 := nT_w k2
      have v := R.v2 k2
      obtain ⟨t1, t2, t3, t4, t5⟩ := S
      have ck : Int32.toNatClampNeg (nI (120 + (L + ws.length))) = 120 + (L + ws.length) := nI_clamp (by omega)
      have c6 : Int32.toNatClampNeg (6 : Int32) = 6 := rfl
      have ea : (120 : Int32) + nI (L + ws.length) = nI (120 + (L + ws.length)) := nI_add 120 (L + ws.length)
      -- the word, the line
      have x1 : oP (RQ la d L) u (sI (sI (sI u 12 45 45 (nI (s'.2 + 1))) 20 66 (120 + (L + ws.length)) (nI (vT bs s'))) 20 68 6 (nI (L + ws.length + 1))) := (((oP.rf _ u).sI _ (by unfold RQ; omega)).sI _ (by unfold RQ; omega)).sI _ (by unfold RQ; omega)
      have r12 : ∀ k, k ≠ 45 → hI (sI (sI (sI u 12 45 45 (nI (s'.2 + 1))) 20 66 (120 + (L + ws.length)) (nI (vT bs s'))) 20 68 6 (nI (L + ws.length + 1))) 12 45 k = hI u 12 45 k := fun k hk => by rw [hI_sI, if_neg (fun q => absurd q.1 (by decide)), hI_sI, if_neg (fun q => absurd q.1 (by decide)), rd12, if_neg hk]
      have r45 : hI (sI (sI (sI u 12 45 45 (nI (s'.2 + 1))) 20 66 (120 + (L + ws.length)) (nI (vT bs s'))) 20 68 6 (nI (L + ws.length + 1))) 12 45 45 = nI (s'.2 + 1) := by rw [hI_sI, if_neg (fun q => absurd q.1 (by decide)), hI_sI, if_neg (fun q => absurd q.1 (by decide)), rd12, if_pos rfl]
      have r20 : ∀ i k, (i ≠ 66 ∨ k ≠ 120 + (L + ws.length)) → i ≠ 68 → hI (sI (sI (sI u 12 45 45 (nI (s'.2 + 1))) 20 66 (120 + (L + ws.length)) (nI (vT bs s'))) 20 68 6 (nI (L + ws.length + 1))) 20 i k = hI u 20 i k := fun i k a b => by rw [getI, if_neg (fun q => b q.1), getI, if_neg (fun q => by omega), hI_sI, if_neg (fun q => absurd q.1 (by decide))]
      have r66 : hI (sI (sI (sI u 12 45 45 (nI (s'.2 + 1))) 20 66 (120 + (L + ws.length)) (nI (vT bs s'))) 20 68 6 (nI (L + ws.length + 1))) 20 66 (120 + (L + ws.length)) = nI (vT bs s') := by rw [getI, if_neg (by simp), getI, if_pos ⟨rfl, rfl⟩]
      have r68 : hI (sI (sI (sI u 12 45 45 (nI (s'.2 + 1))) 20 66 (120 + (L + ws.length)) (nI (vT bs s'))) 20 68 6 (nI (L + ws.length + 1))) 20 68 6 = nI (L + ws.length + 1) := by rw [getI, if_pos ⟨rfl, rfl⟩]
      have st : fX12_readsLine_c12 45 (nI L) u = bd (fX12_reads 45 (sI (sI (sI u 12 45 45 (nI (s'.2 + 1))) 20 66 (120 + (L + ws.length)) (nI (vT bs s'))) 20 68 6 (nI (L + ws.length + 1)))) (fun z25 =>
  gd (hK z25 45 = 12) (bd (fX12_isSignNow 45 (93 : Int32) z25) (fun z27 =>
  if (z27 = 0) then (some (.inl (z25))) else
  mr (gs (hR z25 12 45 33) (fun a30 =>
  gd (hK z25 a30 = 20 ∧ inb (6 : Int32) (hN z25 a30)) (bd (fX12_makes 45 (6 : Int32) (3 : Int32) (nI L) ((hI z25 20 a30 (Int32.toNatClampNeg (6 : Int32))) - nI L) z25) (fun z34 =>
  gd (hK z34.2 45 = 12) (bd (fX12_hasPart 45 z34.1 z34.2) (fun z36 =>
  gd (hK z36 45 = 12) (bd (fX12_reads 45 z36) (fun z38 =>
  some (((1 : Int32), z38))))))))))))) := by
        have mg1 : MSh (sI u 12 45 45 (nI (s'.2 + 1))) := mu.oP ((oP.rf (fun _ _ _ => True) u).sI _ trivial)
        have e1 : hI (sI u 12 45 45 (nI (s'.2 + 1))) 20 68 6 = nI (L + ws.length) := by rw [hI_sI, if_neg (fun q => absurd q.1 (by decide))]; exact t5
        have e2 : hI (sI u 12 45 45 (nI (s'.2 + 1))) 12 45 23 = nI (vT bs s') := by rw [rd12, if_neg (by decide)]; exact v
        have mg2 : MSh (sI (sI u 12 45 45 (nI (s'.2 + 1))) 20 66 (120 + (L + ws.length)) (nI (vT bs s'))) := mg1.oP ((oP.rf (fun _ _ _ => True) _).sI _ trivial)
        have i68 : inb (6 : Int32) (hN (sI (sI u 12 45 45 (nI (s'.2 + 1))) 20 66 (120 + (L + ws.length)) (nI (vT bs s'))) 68) := by rw [n_68 mg2]; decide
        unfold fX12_readsLine_c12
        rw [gd_t (k_45 mu), takesWord_eq mu R, if_pos k2, bd_t, if_pos (show ¬ (1 : Int32) = 0 by decide)]
        show gd (hK (sI u 12 45 45 (nI (s'.2 + 1))) 45 = 12) _ = _
        rw [gd_t (k_45 mg1)]
        show gs (hR (sI u 12 45 45 (nI (s'.2 + 1))) 12 45 33) _ = _
        rw [r12_45_33 mg1, gs_t]
        show gd (hK (sI u 12 45 45 (nI (s'.2 + 1))) 68 = 20 ∧ inb (6 : Int32) (hN (sI u 12 45 45 (nI (s'.2 + 1))) 68)) _ = _
        rw [gd_t ⟨k_68 mg1, by rw [n_68 mg1]; decide⟩]
        show gs (hR (sI u 12 45 45 (nI (s'.2 + 1))) 12 45 31) _ = _
        rw [r12_45_31 mg1, gs_t]
        show gd (hK (sI u 12 45 45 (nI (s'.2 + 1))) 66 = 20 ∧ inb ((120 : Int32) + hI (sI u 12 45 45 (nI (s'.2 + 1))) 20 68 6) (hN (sI u 12 45 45 (nI (s'.2 + 1))) 66)) (lt (sI (sI u 12 45 45 (nI (s'.2 + 1))) 20 66 (Int32.toNatClampNeg ((120 : Int32) + hI (sI u 12 45 45 (nI (s'.2 + 1))) 20 68 6)) (hI (sI u 12 45 45 (nI (s'.2 + 1))) 12 45 23)) _) = _
        rw [e1, e2, ea, gd_t ⟨k_66 mg1, by rw [n_66 mg1]; exact inbI (by omega) (by decide)⟩, ck, lt_t, r12_45_33 mg2, gs_t, gd_t ⟨k_68 mg2, i68⟩, gd_t i68]
        simp only [c6]
        rw [show hI (sI (sI u 12 45 45 (nI (s'.2 + 1))) 20 66 (120 + (L + ws.length)) (nI (vT bs s'))) 20 68 6 = nI (L + ws.length) by rw [getI, if_neg (by simp)]; exact e1, nI_1, lt_t]
      generalize sI (sI (sI u 12 45 45 (nI (s'.2 + 1))) 20 66 (120 + (L + ws.length)) (nI (vT bs s'))) 20 68 6 (nI (L + ws.length + 1)) = u1 at *
      have m1 := mu.oP x1
      have T1 := Tu.P x1
      have R1 : MR bs s'.1 u1 := by
        obtain ⟨⟨q1, q2, q3, q4, q5, q6⟩, q7, q8⟩ := R
        exact ⟨(r12 24 (by decide)).trans q1, (r12 22 (by decide)).trans q2, (r12 21 (by decide)).trans q3, fun z => (r12 23 (by decide)).trans (q4 z), fun z => (r12 23 (by decide)).trans (q5 z), fun z => (r12 23 (by decide)).trans (q6 z)⟩
      obtain ⟨u2, f1, f2, f3⟩ := adM m1 T1 ok l3 R1 R.2.2 (by rw [r45, n2])
      have tk := tk_st f2
      have x2 : oP (RQ la d L) g u2 := (x.tr x1).tr (oI_oP f2 tk_RQ)
      have m2 := m.oP x2
      have la1 : (ws ++ [vT bs s']).length = ws.length + 1 := List.length_append ..
      have S2 : RSt u2 o d nt N (L + (ws ++ [vT bs s']).length) := by
        refine ⟨(tk.2 43 (by decide)).trans ((r12 43 (by decide)).trans t1), (tk.2 42 (by decide)).trans ((r12 42 (by decide)).trans t2), (tk.2 44 (by decide)).trans ((r12 44 (by decide)).trans t3), (tk.1 67 6).trans ((r20 67 6 (Or.inl (by decide)) (by decide)).trans t4), ?_⟩
        rw [la1, ← Nat.add_assoc]
        exact (tk.1 68 6).trans r68
      have rl2 : ∀ i, i < (ws ++ [vT bs s']).length → hI u2 20 66 (120 + L + i) = nI ((ws ++ [vT bs s']).getD i 0) := fun i hi => by
        rw [la1] at hi
        rw [tk.1, app_getD (by omega)]
        by_cases q : i = ws.length
        · rw [if_pos q, q, Nat.add_assoc]; exact r66
        · rw [if_neg q, r20 66 _ (Or.inr (by omega)) (by decide)]
          exact rl i (by omega)
      have B2 : BL u2 L 72 70 71 d K xs la := BL.st (h := u) (fun k hk => (tk.1 _ _).trans (r20 _ _ (Or.inr (by omega)) (by decide))) (Nat.le_refl _) (fun a ha => (tk.1 _ _).trans (r20 _ _ (Or.inl (by omega)) (by omega))) (fun i k i1 i2 k1 k2 => (tk.1 _ _).trans (r20 _ _ (Or.inl (by omega)) (by omega))) B
      rw [f1, bd_t, gd_t (k_45 m2)] at st
      have rp : rowP bs (fu + 1) s' ws = rowP bs fu (nT bs s') (ws ++ [vT bs s']) := by rw [rowP, if_pos k2]
      rw [rp]
      by_cases z : kT bs (nT bs s') = 93
      · rw [show fX12_isSignNow 45 (93 : Int32) u2 = some 1 from sgn_t m2 f3 z (by decide), bd_t, if_neg (show ¬ (1 : Int32) = 0 by decide), r12_45_33 m2, gs_t, gd_t ⟨k_68 m2, by rw [n_68 m2]; decide⟩] at st
        have e68 : hI u2 20 68 (Int32.toNatClampNeg (6 : Int32)) - nI L = nI (ws.length + 1) := by
          rw [c6, S2.2.2.2.2, pk_sub (by omega), la1]
          congr 1
          omega
        rw [e68] at st
        obtain ⟨g3, q1, q2, q3, q4, q5, q6, q7, q8, q9⟩ := makes_eq m2 (show N < 400 by omega) S2.2.2.2.1 3 (nI L) (nI (ws.length + 1))
        have m3 := m2.oP q2
        obtain ⟨g4, p1, p2, p3, p4⟩ := node_end W h1 x2 S2 (Nat.le_add_right _ _) (show L + (ws ++ [vT bs s']).length ≤ (nT bs s').2 by omega) B2 f3 q2 q9 q8 (hz (3, ws ++ [vT bs s'], 0)) (hq _ _ _ _ ⟨q3, fun y => absurd y (show ¬ (3 : Nat) < 3 by decide), fun y => absurd y (show ¬ (3 : Nat) = 2 by decide), fun _ => ⟨L, q4, by rw [la1]; exact q5, Nat.le_refl _, fun i hi => (q2.1 20 66 _ (fun z => by have := z.2; omega)).trans (rl2 i hi)⟩, q7⟩) (hy _)
        obtain ⟨g5, u1', u2', u3'⟩ := p4 (by omega)
        rw [q1, bd_t, gd_t (k_45 m3), p1, bd_t, gd_t (k_45 p3.1), u1', bd_t, mr_t] at st
        rw [rowP_end fu z (by simp)]
        exact ⟨g5, L + (ws ++ [vT bs s']).length, wh_done st, u2', u3', Nat.le_add_right _ _⟩
      · rw [show fX12_isSignNow 45 (93 : Int32) u2 = some 0 from sgn_f m2 f3 z (by decide) (by decide), bd_t, if_pos rfl] at st
        have r := ih (ws ++ [vT bs s']) (nT bs s') u2 (by omega) (Or.inr z) x2 f3 S2 rl2 B2 (by omega)
        have w : ∀ q, fX12_readsLine_l12 45 (nI L) u2 = some q → fX12_readsLine_l12 45 (nI L) u = some q := fun q hq => wh_step st hq
        cases e : rowP bs fu (nT bs s') (ws ++ [vT bs s']) with
        | inl v =>
          rw [e] at r
          obtain ⟨g', r1, r2, r3⟩ := r
          exact ⟨g', w _ r1, r2, r3⟩
        | inr v =>
          rw [e] at r
          obtain ⟨g', L', r1, r2⟩ := r
          exact ⟨g', L', w _ r1, r2⟩
    · rw [rowP_fail (fu + 1) k2 h0]
      refine ⟨u, wh_done ?_, x, R.at⟩
      show fX12_readsLine_c12 45 (nI L) u = _
      unfold fX12_readsLine_c12
      rw [gd_t (k_45 mu), takesWord_eq mu R, if_neg k2, bd_t, if_neg (show ¬ ¬ (0 : Int32) = 0 from fun y => y rfl), mr_t]
/-- a simple part -/
theorem part_eq {bs : List Nat} {s : PS} {g : PH} {o d nt N L K n : Nat} {xs : List (QT K)} {la : Nat} {em : L3 → QT n} {f : L3 → QT K} (hq : ∀ h L lo l, LfR h L lo l → QR h L n (em l) lo) (hz : ∀ l, sz n (em l) = 1) (hy : ∀ l, notN nt ⟨n, em l⟩ = ⟨K, f l⟩) (W : WS bs s g o d nt N L K xs la) (h1 : N + 1 + nt ≤ 400) : LPost bs (simP bs s) g (fX12_readsPart 45 g) o d nt N L K xs la f := by
  obtain ⟨m, T, R, S, B, hb, hd, h2, h3, hL, ok, l3⟩ := id W
  unfold simP
  by_cases k2 : kT bs s = 2
  · rw [if_pos k2]
    exact word_eq hq hz hy W h1 k2
  · rw [if_neg k2]
    by_cases k91 : kT bs s = 91
    · rw [if_pos k91]
      obtain ⟨u, f1, f2, f3⟩ := adM m T ok l3 R.1 R.2.2 (by rw [nT_n k2]; exact R.2.1)
      have tk := tk_st f2
      have x : oP (RQ la d L) g u := oI_oP f2 tk_RQ
      have r := line_l hq hz hy W h1 20 [] (nT bs s) u rfl (Or.inl rfl) x f3 (S.of tk.1 (fun k k1 k2 => tk.2 k (by omega))) (fun i hi => absurd hi (Nat.not_lt_zero _)) (B.of tk.1) (by rw [nT_n k2]; rfl)
      have st : ∀ v q, (v = 0 ∨ v = 1) → fX12_readsLine_l12 45 (nI L) u = some (v, q) → fX12_readsPart 45 g = some (v, q) := fun v q hv hq => by
        unfold fX12_readsPart
        rw [gd_t (k_45 m), show fX12_isSignNow 45 (91 : Int32) g = some 1 from sgn_t m R k91 (by decide), bd_t, if_neg (show ¬ (1 : Int32) = 0 by decide)]
        unfold fX12_readsLine
        rw [gd_t (k_45 m), r12_45_33 m, gs_t, gd_t ⟨k_68 m, by rw [n_68 m]; decide⟩, f1, bd_t, show hI g 20 68 (Int32.toNatClampNeg (6 : Int32)) = nI L from S.2.2.2.2, hq, bd_t, gd_t (show (v &&& 1 : Int32) = v by rcases hv with rfl | rfl <;> decide)]
      cases e : rowP bs 20 (nT bs s) [] with
      | inl v =>
        rw [e] at r
        obtain ⟨g', r1, r2, r3⟩ := r
        exact ⟨g', st _ _ (Or.inl rfl) r1, r2, r3⟩
      | inr v =>
        rw [e] at r
        obtain ⟨g', L', r1, r2⟩ := r
        exact ⟨g', L', st _ _ (Or.inr rfl) r1, r2⟩
    · rw [if_neg k91]
      refine ⟨g, ?_, oP.rf _ g, R.at⟩
      unfold fX12_readsPart
      rw [gd_t (k_45 m), show fX12_isSignNow 45 (91 : Int32) g = some 0 from sgn_f m R (c := 91) k91 (by decide) (by decide), bd_t, if_pos rfl, takesWord_eq m R, if_neg k2, bd_t, if_neg (show ¬ ¬ (0 : Int32) = 0 from fun y => y rfl)]
