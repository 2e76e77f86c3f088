/-! THE REFERENCE READS a simple part -/
theorem mk_cases (bs : List Nat) (s : PS) : (kT bs s = 0 ∧ mkT bs (stT bs s.1) = 0) ∨ (kT bs s = 2 ∧ mkT bs (stT bs s.1) = 3 ∧ s.2 < 20 ∧ vT bs s = vW bs (stT bs s.1)) ∨ (kT bs s = 1 ∧ mkT bs (stT bs s.1) = 3 ∧ 20 ≤ s.2) ∨ (kT bs s = 3 ∧ mkT bs (stT bs s.1) = 2 ∧ vT bs s = vD bs (stT bs s.1)) ∨ (kT bs s = 1 ∧ mkT bs (stT bs s.1) = 4) ∨ (33 ≤ kT bs s ∧ mkT bs (stT bs s.1) = 1 ∧ bs.getD (stT bs s.1) 0 = kT bs s) := by
  unfold kT kdT mkT vT vaT
  by_cases z : bs.length ≤ stT bs s.1
  · rw [if_pos z, if_pos z]
    exact Or.inl ⟨rfl, rfl⟩
  · rw [if_neg z, if_neg z]
    by_cases lo : isLo (bs.getD (stT bs s.1) 0) = true
    · rw [if_pos lo, if_pos lo, if_pos lo]
      by_cases y : rW bs (stT bs s.1) ≤ 6
      · by_cases x : s.2 < 20
        · rw [if_pos ⟨y, x⟩, if_pos y]
          exact Or.inr (Or.inl ⟨rfl, rfl, x, rfl⟩)
        · rw [if_neg (fun q => x q.2), if_pos y]
          exact Or.inr (Or.inr (Or.inl ⟨rfl, rfl, by omega⟩))
      · rw [if_neg (fun q => y q.1), if_neg y]
        exact Or.inr (Or.inr (Or.inr (Or.inr (Or.inl ⟨rfl, rfl⟩))))
    · rw [if_neg lo, if_neg lo, if_neg lo]
      by_cases di : isDi (bs.getD (stT bs s.1) 0) = true
      · rw [if_pos di, if_pos di]
        by_cases y : rD bs (stT bs s.1) ≤ 2 ∧ 1 ≤ vD bs (stT bs s.1) ∧ vD bs (stT bs s.1) ≤ 40
        · rw [if_pos y, if_pos y]
          exact Or.inr (Or.inr (Or.inr (Or.inl ⟨rfl, rfl, rfl⟩)))
        · rw [if_neg y, if_neg y]
          exact Or.inr (Or.inr (Or.inr (Or.inr (Or.inl ⟨rfl, rfl⟩))))
      · rw [if_neg di, if_neg di]
        by_cases sg : isSg (bs.getD (stT bs s.1) 0) = true
        · rw [if_pos sg, if_pos sg]
          exact Or.inr (Or.inr (Or.inr (Or.inr (Or.inr ⟨(sg_lt sg).1, rfl, rfl⟩))))
        · rw [if_neg sg, if_neg sg]
          exact Or.inr (Or.inr (Or.inr (Or.inr (Or.inl ⟨rfl, rfl⟩))))
def MRs (bs : List Nat) (s : PS) (g : PH) : Prop := MR bs s.1 g ∧ hI g 12 45 45 = nI s.2 ∧ okPS bs s
theorem MRs.of {bs : List Nat} {s : PS} {g g' : PH} (R : MRs bs s g) (e : ∀ k, 21 ≤ k → k ≤ 24 ∨ k = 45 → hI g' 12 45 k = hI g 12 45 k) : MRs bs s g' := by
  obtain ⟨⟨r1, r2, r3, r4, r5, r6⟩, r7, r8⟩ := R
  exact ⟨⟨(e 24 (by decide) (by decide)).trans r1, (e 22 (by decide) (by decide)).trans r2, (e 21 (by decide) (by decide)).trans r3, fun z => (e 23 (by decide) (by decide)).trans (r4 z), fun z => (e 23 (by decide) (by decide)).trans (r5 z), fun z => (e 23 (by decide) (by decide)).trans (r6 z)⟩, (e 45 (by decide) (by decide)).trans r7, r8⟩
theorem MRs.at {bs : List Nat} {s : PS} {g : PH} (R : MRs bs s g) : hI g 12 45 22 = nI (aT bs s) := R.1.2.1
theorem sign_eq {g : PH} (m : MSh g) {bs : List Nat} {s : PS} (R : MRs bs s g) {c : Nat} (hc : 33 ≤ c) (hc2 : c < 200) : fX12_isSignNow 45 (nI c) g = some (bI (decide (kT bs s = c))) := by
  obtain ⟨⟨r1, r2, r3, r4, r5, r6⟩, r7, r8⟩ := R
  have kl := kT_lt bs s
  unfold fX12_isSignNow fX12_isSignNow_b20 fX12_isSignNow_b21
  rw [gd_t (k_45 m), r3]
  have no : ∀ j : Nat, j < 10 → j ≠ 1 → kT bs s ≠ c → (if ¬ nI j = (1 : Int32) then gd ((0 : Int32) &&& 1 = 0) (some (0 : Int32)) else if ¬ hI g 12 45 23 = nI c then gd ((0 : Int32) &&& 1 = 0) (some (0 : Int32)) else gd ((1 : Int32) &&& 1 = 1) (some (1 : Int32))) = some (bI (decide (kT bs s = c))) := fun j hj j1 hk => by
    rw [if_pos (show ¬ nI j = (1 : Int32) from fun y => j1 ((nI_eq (b := 1) (by omega) (by decide)).mp y)), gd_t (by decide), decide_eq_false hk]
    rfl
  rcases mk_cases bs s with ⟨k, q⟩ | ⟨k, q, _⟩ | ⟨k, q, _⟩ | ⟨k, q, _⟩ | ⟨k, q⟩ | ⟨k, q, w⟩
  · rw [q]; exact no 0 (by decide) (by decide) (by omega)
  · rw [q]; exact no 3 (by decide) (by decide) (by omega)
  · rw [q]; exact no 3 (by decide) (by decide) (by omega)
  · rw [q]; exact no 2 (by decide) (by decide) (by omega)
  · rw [q]; exact no 4 (by decide) (by decide) (by omega)
  · rw [r6 q, q, w, if_neg (show ¬ ¬ nI 1 = (1 : Int32) from fun y => y rfl)]
    by_cases z : kT bs s = c
    · rw [z, if_neg (fun y => y rfl), gd_t (by decide), decide_eq_true rfl]
      rfl
    · rw [if_pos (fun y => z ((nI_eq (by omega) (by omega)).mp y)), gd_t (by decide), decide_eq_false z]
      rfl
theorem takesWord_eq {g : PH} (m : MSh g) {bs : List Nat} {s : PS} (R : MRs bs s g) : fX12_takesWord 45 g = if kT bs s = 2 then some (1, sI g 12 45 45 (nI (s.2 + 1))) else some (0, g) := by
  obtain ⟨⟨r1, r2, r3, r4, r5, r6⟩, r7, r8⟩ := R
  unfold fX12_takesWord fX12_takesWord_b17
  rw [gd_t (k_45 m), r3, r7]
  rcases mk_cases bs s with ⟨k, q⟩ | ⟨k, q, x, _⟩ | ⟨k, q, x⟩ | ⟨k, q, _⟩ | ⟨k, q⟩ | ⟨k, q, w⟩
  · rw [q, if_pos (by decide), if_neg (by omega)]
  · rw [q, if_neg (by decide), if_pos k, if_pos (show ¬ nI s.2 = (20 : Int32) from fun y => by have := (nI_eq (b := 20) (by omega) (by decide)).mp y; omega), nI_1, lt_t]
  · have e : s.2 = 20 := by have := r8.2; omega
    rw [q, if_neg (by decide), e, if_neg (show ¬ ¬ nI 20 = (20 : Int32) from fun y => y rfl), if_neg (by omega)]
  · rw [q, if_pos (by decide), if_neg (by omega)]
  · rw [q, if_pos (by decide), if_neg (by omega)]
  · rw [q, if_pos (by decide), if_neg (by omega)]
theorem MRs.v2 {bs : List Nat} {s : PS} {g : PH} (R : MRs bs s g) (k : kT bs s = 2) : hI g 12 45 23 = nI (vT bs s) := by
  rcases mk_cases bs s with ⟨k', _⟩ | ⟨_, q, _, e⟩ | ⟨k', _⟩ | ⟨k', _⟩ | ⟨k', _⟩ | ⟨k', _⟩
  · omega
  · rw [e]; exact R.1.2.2.2.1 q
  all_goals omega
theorem MRs.v3 {bs : List Nat} {s : PS} {g : PH} (R : MRs bs s g) (k : kT bs s = 3) : hI g 12 45 23 = nI (vT bs s) := by
  rcases mk_cases bs s with ⟨k', _⟩ | ⟨k', _⟩ | ⟨k', _⟩ | ⟨_, q, e⟩ | ⟨k', _⟩ | ⟨k', _⟩
  · omega
  · omega
  · omega
  · rw [e]; exact R.1.2.2.2.2.1 q
  all_goals omega
theorem tk_RQ {a d L : Nat} : ∀ c i k, isTk c i k = true → RQ a d L c i k := fun c i k z => by
  simp [isTk] at z
  unfold RQ
  omega
theorem tk_a {c i k : Nat} (z : isTk c i k = true) : c = 12 ∧ 21 ≤ k ∧ k ≤ 24 := by
  simp [isTk] at z
  omega
theorem TM.P {bs : List Nat} {g g' : PH} {a d L : Nat} (T : TM bs g) (x : oP (RQ a d L) g g') : TM bs g' := ⟨(x.1 12 45 2 (by unfold RQ; omega)).trans T.1, fun i hi => (x.1 20 46 i (by unfold RQ; omega)).trans (T.2 i hi)⟩
/-- the next token -/
theorem adM {g : PH} (m : MSh g) {bs : List Nat} (T : TM bs g) (ok : okB bs) (l3 : bs.length ≤ 300) {s : PS} (R : MR bs s.1 g) (o : okPS bs s) (w : hI g 12 45 45 = nI (nT bs s).2) : ∃ g', fX12_reads 45 g = some g' ∧ onlyI isTk g g' ∧ MRs bs (nT bs s) g' := by
  obtain ⟨g', f1, f2, f3⟩ := reads_eq m T ok l3 (i := (nT bs s).1) o.n.1 R.1
  exact ⟨g', f1, f2, f3, (f2.1 12 45 45 rfl).trans w, o.n⟩
/-- what stays when only tokens change -/
theorem tk_st {g g' : PH} (x : onlyI isTk g g') : (∀ i k, hI g' 20 i k = hI g 20 i k) ∧ (∀ k, 25 ≤ k → hI g' 12 45 k = hI g 12 45 k) := ⟨fun i k => x.1 20 i k (by
  cases z : isTk 20 i k with
  | false => rfl
  | true => exact absurd (tk_a z).1 (by decide)), fun k hk => x.1 12 45 k (by
  cases z : isTk 12 45 k with
  | false => rfl
  | true => have := (tk_a z).2; omega)⟩
theorem RSt.of {g g' : PH} {o d nt N L : Nat} (S : RSt g o d nt N L) (e1 : ∀ i k, hI g' 20 i k = hI g 20 i k) (e2 : ∀ k, 42 ≤ k → k ≤ 44 → hI g' 12 45 k = hI g 12 45 k) : RSt g' o d nt N L := by
  obtain ⟨s1, s2, s3, s4, s5⟩ := S
  exact ⟨(e2 43 (by decide) (by decide)).trans s1, (e2 42 (by decide) (by decide)).trans s2, (e2 44 (by decide) (by decide)).trans s3, (e1 67 6).trans s4, (e1 68 6).trans s5⟩
theorem BL.of {g g' : PH} {L A B C d n : Nat} {xs : List (QT n)} {lo : Nat} (X : BL g L A B C d n xs lo) (e1 : ∀ i k, hI g' 20 i k = hI g 20 i k) : BL g' L A B C d n xs lo := BL.st (fun _ _ => e1 _ _) (Nat.le_refl _) (fun _ _ => e1 _ _) (fun _ _ _ _ _ _ => e1 _ _) X
/-- a simple part made of a node: laid, and hung on -/
theorem lay_eq {g g1 : PH} (m1 : MSh g1) {L L1 d la N o nt n K : Nat} {xs : List (QT K)} {y : QT n} {y' : QT K} (hd : d ≤ 8) (h1 : N + 1 + nt ≤ 400) (h2 : nt ≤ o) (h3 : o ≤ 8) (x : oP (mkF N) g g1) (S : RSt g o d nt N L1) (B : BL g L 72 70 71 d K xs la) (hb : la + (xs.map (sz K)).sum = N) (hl : L ≤ L1) (hz : sz n y = 1) (e67 : hI g1 20 67 6 = nI (N + 1)) (e65 : hI g1 20 65 (2400 + N) = -1) (Y : QR g1 L1 n y N) (hy : notN nt ⟨n, y⟩ = ⟨K, y'⟩) : ∃ g', fX12_hasPart 45 (nI N) g1 = some g' ∧ oP (RQ la d L1) g g' ∧ BL g' L1 72 70 71 d K (xs ++ [y']) la ∧ RSt g' (o - nt) d 0 (N + 1 + nt) L1 ∧ (∀ k, 21 ≤ k → k ≤ 24 ∨ k = 45 → hI g' 12 45 k = hI g 12 45 k) := by
  obtain ⟨s1, s2, s3, s4, s5⟩ := S
  have e12 : ∀ k, hI g1 12 45 k = hI g 12 45 k := fun k => x.1 12 45 k (fun z => absurd z.1 (by decide))
  have e20 : ∀ i k, 68 ≤ i ∨ i = 66 → hI g1 20 i k = hI g 20 i k := fun i k hi => x.1 20 i k (fun z => by have := z.2; omega)
  have S1 : RSt g1 o d nt (N + 1) L1 := ⟨(e12 _).trans s1, (e12 _).trans s2, (e12 _).trans s3, e67, (e20 _ _ (by decide)).trans s5⟩
  have B1 : BL g1 L1 72 70 71 d K xs la := BL.st (h := g) (fun k _ => e20 _ _ (Or.inr rfl)) hl (fun a ha => e20 _ _ (by omega)) (fun i k i1 i2 k1 k2 => x.1 20 i _ (fun z => by have := z.2; omega)) B
  obtain ⟨g', p1, p2, p3, p4, p5⟩ := hasPart_eq (L := L1) hd nt m1 (N := N + 1) (o := o) (lo := N) (y := y) (y' := y') h1 h2 h3 S1 (by rw [hz]) Y e65 B1 hb hy
  rw [Nat.add_sub_cancel] at p1
  refine ⟨g', p1, (x.mono (mkF_RQ (by omega) (by omega))).tr p2, p3, p4, fun k k1 k2 => (p5 k k1 k2).trans (e12 k)⟩
