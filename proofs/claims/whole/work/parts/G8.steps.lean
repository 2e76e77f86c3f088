/-! THE REFERENCE'S READER: its steps -/
noncomputable abbrev rdL (v1 v2 : Int32) (g : PH) : Option (Int32 × PH) := fX12_readsQuery_l54 45 v1 v2 g
/-- the reader ends at e -/
def Fl (a d L : Nat) (g : PH) (e : Nat) (z : Option (Int32 × PH)) : Prop := ∃ g', oP (RW a d L) g g' ∧ z = some (0, sI (sI g' 12 45 3 (nI e)) 12 45 2 0)
theorem RW.mono {a a' d d' L L' : Nat} (h1 : a' ≤ a) (h2 : d' ≤ d) (h3 : L' ≤ L) : ∀ c i k, RW a d L c i k → RW a' d' L' c i k := fun c i k z => by
  rcases z with z | ⟨z1, z2, z3, z4⟩
  · exact Or.inl (RQ.mono h1 h2 h3 c i k z)
  · by_cases y : k = d'
    · exact Or.inr ⟨z1, z2, z3, y⟩
    · exact Or.inl (Or.inr ⟨z1, Or.inr (Or.inr (Or.inr (Or.inr ⟨z2, by omega, by omega⟩)))⟩)
theorem RW.in {a a' d d' L L' : Nat} (h1 : a' ≤ a) (h2 : d' < d) (h3 : L' ≤ L) : ∀ c i k, RW a d L c i k → RQ a' d' L' c i k := fun c i k z => by
  rcases z with z | ⟨z1, z2, z3, z4⟩
  · exact RQ.mono h1 (Nat.le_of_lt h2) h3 c i k z
  · exact Or.inr ⟨z1, Or.inr (Or.inr (Or.inr (Or.inr ⟨z2, by omega, by omega⟩)))⟩
theorem Fl.up {a a' d d' L L' : Nat} {g g1 : PH} {e : Nat} {z z' : Option (Int32 × PH)} (F : Fl a d L g1 e z) (x : oP (RW a' d' L') g g1) (h1 : a' ≤ a) (h2 : d' ≤ d) (h3 : L' ≤ L) (w : ∀ q, z = some q → z' = some q) : Fl a' d' L' g e z' := by
  obtain ⟨g', f1, f2⟩ := F
  exact ⟨g', x.tr (f1.mono (RW.mono h1 h2 h3)), w _ f2⟩
theorem fail_end {g : PH} (m : MSh g) {e : Nat} (e22 : hI g 12 45 22 = nI e) (v2 : Int32) : rdL 0 v2 g = some (0, sI (sI g 12 45 3 (nI e)) 12 45 2 0) := by
  refine wh_done ?_
  show fX12_readsQuery_c54 45 0 v2 g = _
  unfold fX12_readsQuery_c54 fX12_readsQuery_b152 fX12_readsQuery_b165 fX12_readsQuery_b188
  rw [if_pos rfl, if_pos rfl, gd_t (k_45 m), gs_t, gd_t (k_45 m), lt_t, e22]
  show mr (gd (hK (sI g 12 45 3 (nI e)) 45 = 12) _) = _
  rw [gd_t (show hK (sI g 12 45 3 (nI e)) 45 = 12 from k_45 m), lt_t, if_pos rfl, gd_t (by decide), mr_t]
/-- a step that wants a part -/
theorem want_leaf {bs : List Nat} {s : PS} {g : PH} (m : MSh g) (R : MRs bs s g) (h33 : kT bs s ≠ 33) (h40 : kT bs s ≠ 40) {v : Int32} {g' : PH} (e : fX12_readsPart 45 g = some (v, g')) : ∀ q, rdL v 0 g' = some q → rdL 1 1 g = some q := fun q hq => by
  refine wh_step (t := (v, 0, g')) ?_ hq
  show fX12_readsQuery_c54 45 1 1 g = _
  unfold fX12_readsQuery_c54 fX12_readsQuery_b76 fX12_readsQuery_b103 fX12_readsQuery_b119
  rw [if_neg (show ¬ (1 : Int32) = 0 by decide), if_pos (show ¬ (1 : Int32) = 0 by decide), if_neg (show ¬ (1 : Int32) = 0 by decide), gd_t (k_45 m), show fX12_isSignNow 45 (33 : Int32) g = some 0 from sgn_f m R h33 (by decide) (by decide), bd_t, if_neg (show ¬ ¬ (0 : Int32) = 0 from fun y => y rfl), show fX12_isSignNow 45 (40 : Int32) g = some 0 from sgn_f m R h40 (by decide) (by decide), bd_t, if_pos rfl, if_pos rfl, gd_t (k_45 m), e, bd_t]
theorem want_open {bs : List Nat} {s : PS} {g : PH} (m : MSh g) (R : MRs bs s g) (h : kT bs s = 33 ∨ kT bs s = 40) {v : Int32} {g' : PH} (e : fX12_opens 45 g = some (v, g')) : ∀ q, rdL v 1 g' = some q → rdL 1 1 g = some q := fun q hq => by
  refine wh_step (t := (v, 1, g')) ?_ hq
  show fX12_readsQuery_c54 45 1 1 g = _
  unfold fX12_readsQuery_c54 fX12_readsQuery_b76 fX12_readsQuery_b98 fX12_readsQuery_b103 fX12_readsQuery_b119
  rw [if_neg (show ¬ (1 : Int32) = 0 by decide), if_pos (show ¬ (1 : Int32) = 0 by decide), if_neg (show ¬ (1 : Int32) = 0 by decide), gd_t (k_45 m)]
  by_cases z : kT bs s = 33
  · rw [show fX12_isSignNow 45 (33 : Int32) g = some 1 from sgn_t m R z (by decide), bd_t, if_pos (show ¬ (1 : Int32) = 0 by decide), if_neg (show ¬ (1 : Int32) = 0 by decide), gd_t (k_45 m), e, bd_t]
  · have z4 : kT bs s = 40 := h.elim (fun y => absurd y z) id
    rw [show fX12_isSignNow 45 (33 : Int32) g = some 0 from sgn_f m R z (by decide) (by decide), bd_t, if_neg (show ¬ ¬ (0 : Int32) = 0 from fun y => y rfl), show fX12_isSignNow 45 (40 : Int32) g = some 1 from sgn_t m R z4 (by decide), bd_t, if_neg (show ¬ (1 : Int32) = 0 by decide), if_neg (show ¬ (1 : Int32) = 0 by decide), gd_t (k_45 m), e, bd_t]
/-- a step behind a part: not at the end, or within brackets -/
theorem more_b76 {bs : List Nat} {s : PS} {g : PH} (m : MSh g) (R : MRs bs s g) {d : Nat} (hd : d ≤ 8) (e42 : hI g 12 45 42 = nI d) (h : kT bs s ≠ 0 ∨ 0 < d) : fX12_readsQuery_c54 45 1 0 g = fX12_readsQuery_b76 45 0 g := by
  unfold fX12_readsQuery_c54
  rw [if_neg (show ¬ (1 : Int32) = 0 by decide), if_neg (show ¬ ¬ (0 : Int32) = 0 from fun y => y rfl), gd_t (k_45 m)]
  by_cases z : hI g 12 45 21 = 0
  · have d0 : 0 < d := h.elim (fun y => by
      exfalso
      have e := R.1.2.2.1
      rw [z] at e
      rcases mk_cases bs s with ⟨k, q⟩ | ⟨_, q, _⟩ | ⟨_, q, _⟩ | ⟨_, q, _⟩ | ⟨_, q⟩ | ⟨_, q, _⟩
      · exact y k
      all_goals rw [q] at e; exact absurd e (by decide)) id
    rw [if_neg (fun y => y z), e42, if_neg (show ¬ nI d ≤ 0 from nI_ge (b := d) (a := 0) d0 (by omega))]
  · rw [if_pos z]
theorem more_join {bs : List Nat} {s : PS} {g : PH} (m : MSh g) (R : MRs bs s g) {d : Nat} (hd : d ≤ 8) (e42 : hI g 12 45 42 = nI d) (h : kT bs s ≠ 0 ∨ 0 < d) (h41 : kT bs s ≠ 41) {v : Int32} {g' : PH} (e : fX12_readsJoin 45 g = some (v, g')) : ∀ q, rdL v 1 g' = some q → rdL 1 0 g = some q := fun q hq => by
  refine wh_step (t := (v, 1, g')) ?_ hq
  show fX12_readsQuery_c54 45 1 0 g = _
  rw [more_b76 m R hd e42 h]
  unfold fX12_readsQuery_b76
  rw [if_pos rfl, gd_t (k_45 m), show fX12_isSignNow 45 (41 : Int32) g = some 0 from sgn_f m R h41 (by decide) (by decide), bd_t, if_pos rfl, e, bd_t]
theorem more_close {bs : List Nat} {s : PS} {g : PH} (m : MSh g) (R : MRs bs s g) {d : Nat} (hd : d ≤ 8) (e42 : hI g 12 45 42 = nI d) (h41 : kT bs s = 41) {v : Int32} {g' : PH} (e : fX12_closes 45 g = some (v, g')) : ∀ q, rdL v 0 g' = some q → rdL 1 0 g = some q := fun q hq => by
  refine wh_step (t := (v, 0, g')) ?_ hq
  show fX12_readsQuery_c54 45 1 0 g = _
  rw [more_b76 m R hd e42 (Or.inl (by omega))]
  unfold fX12_readsQuery_b76
  rw [if_pos rfl, gd_t (k_45 m), show fX12_isSignNow 45 (41 : Int32) g = some 1 from sgn_t m R h41 (by decide), bd_t, if_neg (show ¬ (1 : Int32) = 0 by decide), e, bd_t]
/-- no join: the reader ends here -/
theorem no_join {bs : List Nat} {s : PS} {g : PH} (m : MSh g) (R : MRs bs s g) {a d L : Nat} (hd : d ≤ 8) (e42 : hI g 12 45 42 = nI d) (h : kT bs s ≠ 0 ∨ 0 < d) (h38 : kT bs s ≠ 38) (h124 : kT bs s ≠ 124) (h41 : kT bs s ≠ 41 ∨ d = 0) : Fl a d L g (aT bs s) (rdL 1 0 g) := by
  refine ⟨g, oP.rf _ g, ?_⟩
  by_cases z : kT bs s = 41
  · have d0 : d = 0 := h41.elim (fun y => absurd z y) id
    refine more_close m R hd e42 z (v := 0) ?_ _ (fail_end m R.at 0)
    unfold fX12_closes fX12_closes_b16
    rw [gd_t (k_45 m), show fX12_isSignNow 45 (41 : Int32) g = some 1 from sgn_t m R z (by decide), bd_t, if_neg (show ¬ (1 : Int32) = 0 by decide), e42, d0, if_neg (show ¬ ¬ nI 0 = 0 from fun y => y rfl)]
  · refine more_join m R hd e42 h z (v := 0) ?_ _ (fail_end m R.at 1)
    unfold fX12_readsJoin
    rw [gd_t (k_45 m), show fX12_isSignNow 45 (38 : Int32) g = some 0 from sgn_f m R h38 (by decide) (by decide), bd_t, if_pos rfl, show fX12_isSignNow 45 (124 : Int32) g = some 0 from sgn_f m R h124 (by decide) (by decide), bd_t, if_pos rfl]
/-- & : another part is wanted -/
theorem and_step {bs : List Nat} {s : PS} {g : PH} {o d N L K : Nat} {xs : List (QT K)} {la : Nat} (W : WS bs s g o d 0 N L K xs la) (h38 : kT bs s = 38) : ∃ g', (∀ q, rdL 1 1 g' = some q → rdL 1 0 g = some q) ∧ oP (RQ la d L) g g' ∧ onlyI isTk g g' ∧ WS bs (nT bs s) g' o d 0 N L K xs la := by
  obtain ⟨m, T, R, S, B, hb, hd, h2, h3, hL, ok, l3⟩ := W
  obtain ⟨g', f1, f2, f3⟩ := adM m T ok l3 R.1 R.2.2 (by rw [nT_n (by omega)]; exact R.2.1)
  have tk := tk_st f2
  refine ⟨g', more_join m R hd S.2.1 (Or.inl (by omega)) (by omega) ?_, oI_oP f2 tk_RQ, f2, m.oI f2, T.P (oI_oP f2 (tk_RQ (a := la) (d := d) (L := L))), f3, S.of tk.1 (fun k k1 k2 => tk.2 k (by omega)), B.of tk.1, hb, hd, h2, h3, by rw [nT_n (by omega)]; exact hL, ok, l3⟩
  unfold fX12_readsJoin
  rw [gd_t (k_45 m), show fX12_isSignNow 45 (38 : Int32) g = some 1 from sgn_t m R h38 (by decide), bd_t, if_neg (show ¬ (1 : Int32) = 0 by decide), f1, bd_t]
/-- | : what & joined is over, another part is wanted -/
theorem or_step {bs : List Nat} {s : PS} {g : PH} {o d N L n : Nat} {xs : List (QT n)} {ys : List (QT (n + 1))} {la lo : Nat} (W : WS bs s g o d 0 N L n xs la) (O : BL g L 75 73 74 d (n + 1) ys lo) (h1 : lo + (ys.map (sz (n + 1))).sum = la) (ne : xs ≠ []) (hN0 : N < 400) (h124 : kT bs s = 124) : ∃ g' N', (∀ q, rdL 1 1 g' = some q → rdL 1 0 g = some q) ∧ oP (RW lo d L) g g' ∧ N' = la + sz (n + 1) (mkJ 5 n xs) ∧ WS bs (nT bs s) g' o d 0 N' L n [] N' ∧ BL g' L 75 73 74 d (n + 1) (ys ++ [mkJ 5 n xs]) lo := by
  obtain ⟨m, T, R, S, B, hb, hd, h2, h3, hL, ok, l3⟩ := W
  obtain ⟨g1, N', e1, e2, e3, e4, e5, e6, e7, e8⟩ := endsAnd_eq m hd ne hN0 S B O h1 hb
  have m1 := m.oP e2
  have T1 : TM bs g1 := ⟨(e8 2).trans T.1, fun i hi => (e2.1 20 46 i (by unfold RW RQ; omega)).trans (T.2 i hi)⟩
  have R1 := R.of (g' := g1) (fun k _ _ => e8 k)
  obtain ⟨g', f1, f2, f3⟩ := adM m1 T1 ok l3 R1.1 R1.2.2 (by rw [nT_n (by omega)]; exact R1.2.1)
  have tk := tk_st f2
  refine ⟨g', N', more_join m R hd S.2.1 (Or.inl (by omega)) (by omega) ?_, e2.tr ((oI_oP f2 tk_RQ).mono (fun _ _ _ z => Or.inl z)), e3, ⟨m1.oI f2, T1.P (oI_oP f2 (tk_RQ (a := la) (d := d) (L := L))), f3, e6.of tk.1 (fun k k1 k2 => tk.2 k (by omega)), ⟨(tk.1 _ _).trans e5, fun y => absurd rfl y⟩, rfl, hd, h2, h3, by rw [nT_n (by omega)]; exact hL, ok, l3⟩, e4.of tk.1⟩
  unfold fX12_readsJoin
  rw [gd_t (k_45 m), show fX12_isSignNow 45 (38 : Int32) g = some 0 from sgn_f m R (c := 38) (by omega) (by decide) (by decide), bd_t, if_pos rfl, show fX12_isSignNow 45 (124 : Int32) g = some 1 from sgn_t m R h124 (by decide), bd_t, if_neg (show ¬ (1 : Int32) = 0 by decide), e1, bd_t, gd_t (k_45 m1), f1, bd_t]
/-- ! : one more of them waits -/
theorem not_step {bs : List Nat} {s : PS} {g : PH} {o d nt N L K : Nat} {xs : List (QT K)} {la : Nat} (W : WS bs s g o d nt N L K xs la) (ho : o < 8) (h33 : kT bs s = 33) : ∃ g', (∀ q, rdL 1 1 g' = some q → rdL 1 1 g = some q) ∧ oP (RQ la d L) g g' ∧ WS bs (nT bs s) g' (o + 1) d (nt + 1) N L K xs la := by
  obtain ⟨m, T, R, S, B, hb, hd, h2, h3, hL, ok, l3⟩ := W
  obtain ⟨s1, s2, s3, s4, s5⟩ := S
  have x1 : oP (RQ la d L) g (sI (sI g 12 45 43 (nI (o + 1))) 12 45 44 (nI (nt + 1))) := ((oP.rf _ g).sI _ (by unfold RQ; omega)).sI _ (by unfold RQ; omega)
  have m1 := m.oP x1
  have T1 := T.P x1
  have r12 : ∀ k, k ≠ 43 → k ≠ 44 → hI (sI (sI g 12 45 43 (nI (o + 1))) 12 45 44 (nI (nt + 1))) 12 45 k = hI g 12 45 k := fun k a b => by rw [rd12, if_neg b, rd12, if_neg a]
  have r20 : ∀ i k, hI (sI (sI g 12 45 43 (nI (o + 1))) 12 45 44 (nI (nt + 1))) 20 i k = hI g 20 i k := fun i k => by rw [hI_sI, if_neg (fun q => absurd q.1 (by decide)), hI_sI, if_neg (fun q => absurd q.1 (by decide))]
  have R1 := R.of (g' := sI (sI g 12 45 43 (nI (o + 1))) 12 45 44 (nI (nt + 1))) (fun k a b => r12 k (by omega) (by omega))
  obtain ⟨g', f1, f2, f3⟩ := adM m1 T1 ok l3 R1.1 R1.2.2 (by rw [nT_n (by omega)]; exact R1.2.1)
  have tk := tk_st f2
  have q20 : ∀ i k, hI g' 20 i k = hI g 20 i k := fun i k => (tk.1 i k).trans (r20 i k)
  have v : hI g 12 45 23 = (33 : Int32) := by
    rcases mk_cases bs s with ⟨k, _⟩ | ⟨k, _⟩ | ⟨k, _⟩ | ⟨k, _⟩ | ⟨k, _⟩ | ⟨_, q, w⟩
    iterate 5 omega
    rw [R.1.2.2.2.2.2 q, w, h33]; rfl
  refine ⟨g', want_open m R (Or.inl h33) ?_, x1.tr (oI_oP f2 tk_RQ), m1.oI f2, T1.P (oI_oP f2 (tk_RQ (a := la) (d := d) (L := L))), f3, ⟨(tk.2 43 (by decide)).trans (by rw [rd12, if_neg (by decide), rd12, if_pos rfl]), (tk.2 42 (by decide)).trans ((r12 42 (by decide) (by decide)).trans s2), (tk.2 44 (by decide)).trans (by rw [rd12, if_pos rfl]), (q20 _ _).trans s4, (q20 _ _).trans s5⟩, B.of q20, hb, hd, by omega, by omega, by rw [nT_n (by omega)]; exact hL, ok, l3⟩
  unfold fX12_opens fX12_opens_b66
  rw [gd_t (k_45 m), s1, if_pos (show ¬ nI o = (8 : Int32) from fun y => by have := (nI_eq (b := 8) (by omega) (by decide)).mp y; omega), lt_t, nI_1, show hI (sI g 12 45 43 (nI (o + 1))) 12 45 23 = (33 : Int32) by rw [rd12, if_neg (by decide)]; exact v, if_neg (show ¬ ¬ (33 : Int32) = 33 from fun y => y rfl), show hI (sI g 12 45 43 (nI (o + 1))) 12 45 44 = nI nt by rw [rd12, if_neg (by decide)]; exact s3, nI_1, lt_t, gd_t (k_45 m1), f1, bd_t]
/-- too deep -/
theorem deep_fail {bs : List Nat} {s : PS} {g : PH} {d nt N L K : Nat} {xs : List (QT K)} {la : Nat} (W : WS bs s g 8 d nt N L K xs la) (h : kT bs s = 33 ∨ kT bs s = 40) : Fl la d L g (aT bs s) (rdL 1 1 g) := by
  obtain ⟨m, T, R, S, B, hb, hd, h2, h3, hL, ok, l3⟩ := W
  refine ⟨g, oP.rf _ g, want_open m R h (v := 0) ?_ _ (fail_end m R.at 1)⟩
  unfold fX12_opens
  rw [gd_t (k_45 m), S.1, if_neg (show ¬ ¬ nI 8 = (8 : Int32) from fun y => y rfl)]
