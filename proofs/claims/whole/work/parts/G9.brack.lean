/-! THE REFERENCE'S READER: brackets -/
theorem begins0_eq {g : PH} (m : MSh g) {d : Nat} (hd : d ≤ 8) (e42 : hI g 12 45 42 = nI d) (v : Int32) : fX12_begins0 45 v g = some (sI (sI (sI g 20 72 d 0) 20 75 d 0) 20 76 d v) := by
  have cd : Int32.toNatClampNeg (nI d) = d := nI_clamp (by omega)
  have id : ∀ (u : PH) a, hN u a = 9 → inb (nI d) (hN u a) := fun u a e => by rw [e]; exact inbI (by omega) (by decide)
  have m1 : MSh (sI g 20 72 d 0) := m.oP ((oP.rf (fun _ _ _ => True) g).sI _ trivial)
  have m2 : MSh (sI (sI g 20 72 d 0) 20 75 d 0) := m1.oP ((oP.rf (fun _ _ _ => True) _).sI _ trivial)
  have e1 : hI (sI g 20 72 d 0) 12 45 42 = nI d := by rw [hI_sI, if_neg (fun q => absurd q.1 (by decide))]; exact e42
  have e2 : hI (sI (sI g 20 72 d 0) 20 75 d 0) 12 45 42 = nI d := by rw [hI_sI, if_neg (fun q => absurd q.1 (by decide))]; exact e1
  unfold fX12_begins0
  rw [gd_t (k_45 m), r12_45_37 m, gs_t, e42, gd_t ⟨k_72 m, id _ _ (n_72 m)⟩, cd, lt_t, r12_45_40 m1, gs_t, e1, gd_t ⟨k_75 m1, id _ _ (n_75 m1)⟩, cd, lt_t, r12_45_41 m2, gs_t, e2, gd_t ⟨k_76 m2, id _ _ (n_76 m2)⟩, cd, lt_t]
theorem open_step {bs : List Nat} {s : PS} {g : PH} {o d nt N L K : Nat} {xs : List (QT K)} {la : Nat} (W : WS bs s g o d nt N L K xs la) (ho : o < 8) (hdn : d + nt ≤ o) (h40 : kT bs s = 40) (n : Nat) : ∃ g', (∀ q, rdL 1 1 g' = some q → rdL 1 1 g = some q) ∧ oP (RQ N d L) g g' ∧ WS bs (nT bs s) g' (o + 1) (d + 1) 0 N L n [] N ∧ BL g' L 75 73 74 (d + 1) (n + 1) [] N ∧ hI g' 20 76 (d + 1) = nI nt ∧ BL g' L 72 70 71 d K xs la := by
  obtain ⟨m, T, R, S, B, hb, hd, h2, h3, hL, ok, l3⟩ := W
  obtain ⟨s1, s2, s3, s4, s5⟩ := S
  -- the counters, the lists
  have x1 : oP (RQ N d L) g (sI (sI g 12 45 43 (nI (o + 1))) 12 45 42 (nI (d + 1))) := ((oP.rf _ g).sI _ (Or.inl ⟨rfl, rfl, Or.inr (by decide)⟩)).sI _ (Or.inl ⟨rfl, rfl, Or.inr (by decide)⟩)
  have m1 := m.oP x1
  have e42 : hI (sI (sI g 12 45 43 (nI (o + 1))) 12 45 42 (nI (d + 1))) 12 45 42 = nI (d + 1) := by rw [rd12, if_pos rfl]
  have bg := begins0_eq m1 (d := d + 1) (by omega) e42 (nI nt)
  have x2 : oP (RQ N d L) g (sI (sI (sI (sI (sI (sI g 12 45 43 (nI (o + 1))) 12 45 42 (nI (d + 1))) 20 72 (d + 1) 0) 20 75 (d + 1) 0) 20 76 (d + 1) (nI nt)) 12 45 44 0) := (((x1.sI _ (Or.inr ⟨rfl, Or.inr (Or.inr (Or.inr (Or.inl ⟨by decide, by decide, by omega⟩)))⟩)).sI _ (Or.inr ⟨rfl, Or.inr (Or.inr (Or.inr (Or.inr ⟨by decide, by decide, by omega⟩)))⟩)).sI _ (Or.inr ⟨rfl, Or.inr (Or.inr (Or.inr (Or.inr ⟨by decide, by decide, by omega⟩)))⟩)).sI _ (Or.inl ⟨rfl, rfl, Or.inr (by decide)⟩)
  have r12 : ∀ k, k ≠ 43 → k ≠ 44 → k ≠ 42 → hI (sI (sI (sI (sI (sI (sI g 12 45 43 (nI (o + 1))) 12 45 42 (nI (d + 1))) 20 72 (d + 1) 0) 20 75 (d + 1) 0) 20 76 (d + 1) (nI nt)) 12 45 44 0) 12 45 k = hI g 12 45 k := fun k a b c => by rw [rd12, if_neg b, hI_sI, if_neg (fun q => absurd q.1 (by decide)), hI_sI, if_neg (fun q => absurd q.1 (by decide)), hI_sI, if_neg (fun q => absurd q.1 (by decide)), rd12, if_neg c, rd12, if_neg a]
  have r20 : ∀ i k, (k ≠ d + 1 ∨ i < 70) → hI (sI (sI (sI (sI (sI (sI g 12 45 43 (nI (o + 1))) 12 45 42 (nI (d + 1))) 20 72 (d + 1) 0) 20 75 (d + 1) 0) 20 76 (d + 1) (nI nt)) 12 45 44 0) 20 i k = hI g 20 i k := fun i k a => by rw [hI_sI, if_neg (fun q => absurd q.1 (by decide)), getI, if_neg (fun q => by omega), getI, if_neg (fun q => by omega), getI, if_neg (fun q => by omega), hI_sI, if_neg (fun q => absurd q.1 (by decide)), hI_sI, if_neg (fun q => absurd q.1 (by decide))]
  have v43 : hI (sI (sI (sI (sI (sI (sI g 12 45 43 (nI (o + 1))) 12 45 42 (nI (d + 1))) 20 72 (d + 1) 0) 20 75 (d + 1) 0) 20 76 (d + 1) (nI nt)) 12 45 44 0) 12 45 43 = nI (o + 1) := by rw [rd12, if_neg (by decide), hI_sI, if_neg (fun q => absurd q.1 (by decide)), hI_sI, if_neg (fun q => absurd q.1 (by decide)), hI_sI, if_neg (fun q => absurd q.1 (by decide)), rd12, if_neg (by decide), rd12, if_pos rfl]
  have v42 : hI (sI (sI (sI (sI (sI (sI g 12 45 43 (nI (o + 1))) 12 45 42 (nI (d + 1))) 20 72 (d + 1) 0) 20 75 (d + 1) 0) 20 76 (d + 1) (nI nt)) 12 45 44 0) 12 45 42 = nI (d + 1) := by rw [rd12, if_neg (by decide), hI_sI, if_neg (fun q => absurd q.1 (by decide)), hI_sI, if_neg (fun q => absurd q.1 (by decide)), hI_sI, if_neg (fun q => absurd q.1 (by decide)), rd12, if_pos rfl]
  have v44 : hI (sI (sI (sI (sI (sI (sI g 12 45 43 (nI (o + 1))) 12 45 42 (nI (d + 1))) 20 72 (d + 1) 0) 20 75 (d + 1) 0) 20 76 (d + 1) (nI nt)) 12 45 44 0) 12 45 44 = nI 0 := by rw [rd12, if_pos rfl]; rfl
  have v72 : hI (sI (sI (sI (sI (sI (sI g 12 45 43 (nI (o + 1))) 12 45 42 (nI (d + 1))) 20 72 (d + 1) 0) 20 75 (d + 1) 0) 20 76 (d + 1) (nI nt)) 12 45 44 0) 20 72 (d + 1) = nI 0 := by rw [hI_sI, if_neg (fun q => absurd q.1 (by decide)), getI, if_neg (by simp), getI, if_neg (by simp), getI, if_pos ⟨rfl, rfl⟩]; rfl
  have v75 : hI (sI (sI (sI (sI (sI (sI g 12 45 43 (nI (o + 1))) 12 45 42 (nI (d + 1))) 20 72 (d + 1) 0) 20 75 (d + 1) 0) 20 76 (d + 1) (nI nt)) 12 45 44 0) 20 75 (d + 1) = nI 0 := by rw [hI_sI, if_neg (fun q => absurd q.1 (by decide)), getI, if_neg (by simp), getI, if_pos ⟨rfl, rfl⟩]; rfl
  have v76 : hI (sI (sI (sI (sI (sI (sI g 12 45 43 (nI (o + 1))) 12 45 42 (nI (d + 1))) 20 72 (d + 1) 0) 20 75 (d + 1) 0) 20 76 (d + 1) (nI nt)) 12 45 44 0) 20 76 (d + 1) = nI nt := by rw [hI_sI, if_neg (fun q => absurd q.1 (by decide)), getI, if_pos ⟨rfl, rfl⟩]
  have v : hI g 12 45 23 = (40 : Int32) := by
    rcases mk_cases bs s with ⟨k, _⟩ | ⟨k, _⟩ | ⟨k, _⟩ | ⟨k, _⟩ | ⟨k, _⟩ | ⟨_, q, w⟩
    iterate 5 omega
    rw [R.1.2.2.2.2.2 q, w, h40]; rfl
  have st : fX12_opens 45 g = bd (fX12_reads 45 (sI (sI (sI (sI (sI (sI g 12 45 43 (nI (o + 1))) 12 45 42 (nI (d + 1))) 20 72 (d + 1) 0) 20 75 (d + 1) 0) 20 76 (d + 1) (nI nt)) 12 45 44 0)) (fun z8 => some (((1 : Int32), z8))) := by
    unfold fX12_opens fX12_opens_b66
    rw [gd_t (k_45 m), s1, if_pos (show ¬ nI o = (8 : Int32) from fun y => by have := (nI_eq (b := 8) (by omega) (by decide)).mp y; omega), lt_t, nI_1, show hI (sI g 12 45 43 (nI (o + 1))) 12 45 23 = (40 : Int32) by rw [rd12, if_neg (by decide)]; exact v, if_pos (show ¬ (40 : Int32) = 33 by decide), show hI (sI g 12 45 43 (nI (o + 1))) 12 45 42 = nI d by rw [rd12, if_neg (by decide)]; exact s2, nI_1, lt_t, show hI (sI (sI g 12 45 43 (nI (o + 1))) 12 45 42 (nI (d + 1))) 12 45 44 = nI nt by rw [rd12, if_neg (by decide), rd12, if_neg (by decide)]; exact s3, bg, bd_t]
    exact gd_i (k_45 m) (gd_i (k_45 m) rfl)
  generalize sI (sI (sI (sI (sI (sI g 12 45 43 (nI (o + 1))) 12 45 42 (nI (d + 1))) 20 72 (d + 1) 0) 20 75 (d + 1) 0) 20 76 (d + 1) (nI nt)) 12 45 44 0 = u at *
  have mu := m.oP x2
  have Tu := T.P x2
  have Ru := R.of (g' := u) (fun k a b => r12 k (by omega) (by omega) (by omega))
  obtain ⟨g', f1, f2, f3⟩ := adM mu Tu ok l3 Ru.1 Ru.2.2 (by rw [nT_n (by omega)]; exact Ru.2.1)
  have tk := tk_st f2
  rw [f1, bd_t] at st
  refine ⟨g', want_open m R (Or.inr h40) st, x2.tr (oI_oP f2 tk_RQ), ⟨mu.oI f2, Tu.P (oI_oP f2 (tk_RQ (a := la) (d := d) (L := L))), f3, ⟨(tk.2 43 (by decide)).trans v43, (tk.2 42 (by decide)).trans v42, (tk.2 44 (by decide)).trans v44, (tk.1 _ _).trans ((r20 67 6 (Or.inr (by decide))).trans s4), (tk.1 _ _).trans ((r20 68 6 (Or.inr (by decide))).trans s5)⟩, ⟨(tk.1 _ _).trans v72, fun y => absurd rfl y⟩, rfl, by omega, Nat.zero_le _, by omega, by rw [nT_n (by omega)]; exact hL, ok, l3⟩, ⟨(tk.1 _ _).trans v75, fun y => absurd rfl y⟩, (tk.1 _ _).trans v76, ?_⟩
  exact BL.st (h := g) (fun k _ => (tk.1 _ _).trans (r20 _ _ (Or.inr (by decide)))) (Nat.le_refl _) (fun a ha => (tk.1 _ _).trans (r20 _ _ (Or.inl (by omega)))) (fun i k i1 i2 _ _ => (tk.1 _ _).trans (r20 _ _ (Or.inr (by omega)))) B
theorem close_step {bs : List Nat} {s : PS} {g : PH} {o d nt N L n K : Nat} {xs : List (QT K)} {la : Nat} {zs : List (QT n)} {ys : List (QT (n + 1))} {lz lo : Nat} {y' : QT K} (W : WS bs s g (o + 1) (d + 1) 0 N L n zs lz) (O : BL g L 75 73 74 (d + 1) (n + 1) ys lo) (h1 : lo + (ys.map (sz (n + 1))).sum = lz) (ne : zs ≠ []) (hN0 : N + 1 < 400) (e76 : hI g 20 76 (d + 1) = nI nt) (B : BL g L 72 70 71 d K xs la) (hb : la + (xs.map (sz K)).sum = lo) (hno : nt ≤ o) (hy : notN nt ⟨n + 2, mkJ 6 (n + 1) (ys ++ [mkJ 5 n zs])⟩ = ⟨K, y'⟩) (hr : lo + sz (n + 2) (mkJ 6 (n + 1) (ys ++ [mkJ 5 n zs])) + nt ≤ 400) (h41 : kT bs s = 41) : ∃ g', (∀ q, rdL 1 0 g' = some q → rdL 1 0 g = some q) ∧ oP (RQ la d L) g g' ∧ WS bs (nT bs s) g' (o - nt) d 0 (lo + sz (n + 2) (mkJ 6 (n + 1) (ys ++ [mkJ 5 n zs])) + nt) L K (xs ++ [y']) la := by
  obtain ⟨m, T, R, S, A, hz, hd, h2, h3, hL, ok, l3⟩ := W
  obtain ⟨g1, N1, f1, f2, f3, f4, f5, f6, f7⟩ := endsOr_eq m hd ne hN0 S A O h1 hz
  obtain ⟨s1, s2, s3, s4, s5⟩ := f6
  have m1 := m.oP f2
  have cd : Int32.toNatClampNeg (nI (d + 1)) = d + 1 := nI_clamp (by omega)
  have w76 : hI g1 20 76 (d + 1) = nI nt := (f2.1 20 76 (d + 1) (fun z => by unfold RW RQ at z; omega)).trans e76
  have x1 : oP (RQ la d L) g (sI (sI (sI g1 12 45 44 (nI nt)) 12 45 42 (nI d)) 12 45 43 (nI o)) := (((f2.mono (RW.in (by omega) (by omega) (Nat.le_refl _))).sI _ (Or.inl ⟨rfl, rfl, Or.inr (by decide)⟩)).sI _ (Or.inl ⟨rfl, rfl, Or.inr (by decide)⟩)).sI _ (Or.inl ⟨rfl, rfl, Or.inr (by decide)⟩)
  have r12 : ∀ k, k ≠ 43 → k ≠ 44 → k ≠ 42 → hI (sI (sI (sI g1 12 45 44 (nI nt)) 12 45 42 (nI d)) 12 45 43 (nI o)) 12 45 k = hI g 12 45 k := fun k a b c => by rw [rd12, if_neg a, rd12, if_neg c, rd12, if_neg b]; exact f7 k
  have r20 : ∀ i k, hI (sI (sI (sI g1 12 45 44 (nI nt)) 12 45 42 (nI d)) 12 45 43 (nI o)) 20 i k = hI g1 20 i k := fun i k => by rw [hI_sI, if_neg (fun q => absurd q.1 (by decide)), hI_sI, if_neg (fun q => absurd q.1 (by decide)), hI_sI, if_neg (fun q => absurd q.1 (by decide))]
  have v43 : hI (sI (sI (sI g1 12 45 44 (nI nt)) 12 45 42 (nI d)) 12 45 43 (nI o)) 12 45 43 = nI o := by rw [rd12, if_pos rfl]
  have v42 : hI (sI (sI (sI g1 12 45 44 (nI nt)) 12 45 42 (nI d)) 12 45 43 (nI o)) 12 45 42 = nI d := by rw [rd12, if_neg (by decide), rd12, if_pos rfl]
  have v44 : hI (sI (sI (sI g1 12 45 44 (nI nt)) 12 45 42 (nI d)) 12 45 43 (nI o)) 12 45 44 = nI nt := by rw [rd12, if_neg (by decide), rd12, if_neg (by decide), rd12, if_pos rfl]
  have st : fX12_closes 45 g = bd (fX12_hasPart 45 (nI (N1 - 1)) (sI (sI (sI g1 12 45 44 (nI nt)) 12 45 42 (nI d)) 12 45 43 (nI o))) (fun z12 =>
  gd (hK z12 45 = 12) (bd (fX12_reads 45 z12) (fun z14 =>
  some (((1 : Int32), z14))))) := by
    unfold fX12_closes
    rw [gd_t (k_45 m), show fX12_isSignNow 45 (41 : Int32) g = some 1 from sgn_t m R h41 (by decide), bd_t, if_neg (show ¬ (1 : Int32) = 0 by decide), S.2.1, if_pos (show ¬ nI (d + 1) = 0 from fun y => by have := (nI_eq (b := 0) (by omega) (by decide)).mp y; omega), f1, bd_t, gd_t (k_45 m1), r12_45_41 m1, gs_t, s2, gd_t ⟨k_76 m1, by rw [n_76 m1]; exact inbI (by omega) (by decide)⟩, cd, w76, lt_t, show hI (sI g1 12 45 44 (nI nt)) 12 45 42 = nI (d + 1) by rw [rd12, if_neg (by decide)]; exact s2, show nI (d + 1) - 1 = nI d from (pk_sub (a := d + 1) (b := 1) (by omega)).trans (by rw [Nat.add_sub_cancel]), lt_t, show hI (sI (sI g1 12 45 44 (nI nt)) 12 45 42 (nI d)) 12 45 43 = nI (o + 1) by rw [rd12, if_neg (by decide), rd12, if_neg (by decide)]; exact s1, show nI (o + 1) - 1 = nI o from (pk_sub (a := o + 1) (b := 1) (by omega)).trans (by rw [Nat.add_sub_cancel]), lt_t]
  generalize sI (sI (sI g1 12 45 44 (nI nt)) 12 45 42 (nI d)) 12 45 43 (nI o) = u at *
  have mu := m.oP x1
  have Tu := T.P x1
  have Ru := R.of (g' := u) (fun k a b => r12 k (by omega) (by omega) (by omega))
  have Bu : BL u L 72 70 71 d K xs la := BL.st (h := g) (fun k hk => (r20 _ _).trans (f2.1 _ _ _ (fun z => by unfold RW RQ at z; omega))) (Nat.le_refl _) (fun a ha => (r20 _ _).trans (f2.1 _ _ _ (fun z => by unfold RW RQ at z; omega))) (fun i k i1 i2 k1 k2 => (r20 _ _).trans (f2.1 _ _ _ (fun z => by unfold RW RQ at z; omega))) B
  have Yu : QR u L (n + 2) (mkJ 6 (n + 1) (ys ++ [mkJ 5 n zs])) lo := QR.st (h := g1) (fun k _ => r20 _ _) (Nat.le_refl _) _ _ _ (fun i k _ _ _ _ _ => r20 _ _) f4
  obtain ⟨g2, p1, p2, p3, p4, p5⟩ := hasPart_eq (by omega) nt mu (N := N1) (o := o) (lo := lo) (y := mkJ 6 (n + 1) (ys ++ [mkJ 5 n zs])) (y' := y') (by omega) hno (by omega) ⟨v43, v42, v44, (r20 _ _).trans s4, (r20 _ _).trans s5⟩ f3.symm Yu ((r20 _ _).trans f5) Bu hb hy
  have x2 := x1.tr p2
  have m2 := m.oP x2
  have T2 := T.P x2
  have R2 := Ru.of p5
  obtain ⟨g', q1, q2, q3⟩ := adM m2 T2 ok l3 R2.1 R2.2.2 (by rw [nT_n (by omega)]; exact R2.2.1)
  have tk := tk_st q2
  rw [show fX12_hasPart 45 (nI (N1 - 1)) u = some g2 from p1, bd_t, gd_t (k_45 m2), q1, bd_t] at st
  have zz : sz K y' = sz (n + 2) (mkJ 6 (n + 1) (ys ++ [mkJ 5 n zs])) + nt := by
    have a := notN_sz nt ⟨n + 2, mkJ 6 (n + 1) (ys ++ [mkJ 5 n zs])⟩
    rw [hy] at a
    exact a
  have hs : ((xs ++ [y']).map (sz K)).sum = (xs.map (sz K)).sum + sz K y' := by simp
  rw [f3] at p4
  refine ⟨g', more_close m R hd S.2.1 h41 st, x2.tr (oI_oP q2 tk_RQ), m2.oI q2, T2.P (oI_oP q2 (tk_RQ (a := la) (d := d) (L := L))), q3, p4.of tk.1 (fun k k1 k2 => tk.2 k (by omega)), p3.of tk.1, by omega, by omega, Nat.zero_le _, by omega, by rw [nT_n (by omega)]; exact hL, ok, l3⟩
