/-! THE REFERENCE NEGATES a query, second: the nodes of block 7 -/
def mkQ (q N c i k : Nat) : Prop := c = 20 ∧ (60 ≤ i ∧ i ≤ 65 ∧ k = 400 * q + N ∨ i = 67 ∧ k = q)
theorem makes_q {g : PH} (m : MSh g) {q N : Nat} (hq : q < 8) (hN0 : N < 400) (e : hI g 20 67 q = nI N) (kd a b : Int32) : ∃ g', fX12_makes 45 (nI q) kd a b g = some (nI N, g') ∧ oP (mkQ q N) g g' ∧ hI g' 20 60 (400 * q + N) = kd ∧ hI g' 20 61 (400 * q + N) = a ∧ hI g' 20 62 (400 * q + N) = b ∧ hI g' 20 64 (400 * q + N) = -1 ∧ hI g' 20 65 (400 * q + N) = -1 ∧ hI g' 20 67 q = nI (N + 1) := by
  have cq : Int32.toNatClampNeg (nI q) = q := nI_clamp (by omega)
  have ck : Int32.toNatClampNeg (nI (400 * q + N)) = 400 * q + N := nI_clamp (by omega)
  have iq : inb (nI q) (hN g 67) := by rw [n_67 m]; exact inbI hq (by decide)
  have iN : ∀ a, hN g a = 3200 → inb (nI (400 * q + N)) (hN g a) := fun a e => by rw [e]; exact inbI (by omega) (by decide)
  unfold fX12_makes
  rw [gd_t (k_45 m), r12_45_32 m, gs_t, gd_t ⟨k_67 m, iq⟩, gs_t, gd_t ⟨k_67 m, iq⟩, gd_t iq]
  simp only [cq, e, i400, ck]
  refine ⟨_, gs_i (r12_45_25 m) (gd_i ⟨k_60 m, iN _ (n_60 m)⟩ (gs_i (r12_45_26 m) (gd_i ⟨k_61 m, iN _ (n_61 m)⟩ (gs_i (r12_45_27 m) (gd_i ⟨k_62 m, iN _ (n_62 m)⟩ (gs_i (r12_45_28 m) (gd_i ⟨k_63 m, iN _ (n_63 m)⟩ (gs_i (r12_45_29 m) (gd_i ⟨k_64 m, iN _ (n_64 m)⟩ (gs_i (r12_45_30 m) (gd_i ⟨k_65 m, iN _ (n_65 m)⟩ rfl))))))))))), (((((((oP.rf _ g).sI _ ⟨rfl, Or.inr ⟨rfl, rfl⟩⟩).sI _ ⟨rfl, Or.inl ⟨by decide, by decide, rfl⟩⟩).sI _ ⟨rfl, Or.inl ⟨by decide, by decide, rfl⟩⟩).sI _ ⟨rfl, Or.inl ⟨by decide, by decide, rfl⟩⟩).sI _ ⟨rfl, Or.inl ⟨by decide, by decide, rfl⟩⟩).sI _ ⟨rfl, Or.inl ⟨by decide, by decide, rfl⟩⟩).sI _ ⟨rfl, Or.inl ⟨by decide, by decide, rfl⟩⟩, ?_, ?_, ?_, ?_, ?_, ?_⟩
  · simp [getI]
  · simp [getI]
  · simp [getI]
  · simp [getI]
  · simp [getI]
  · rw [getI, if_neg (by simp), getI, if_neg (by simp), getI, if_neg (by simp), getI, if_neg (by simp), getI, if_neg (by simp), getI, if_neg (by simp), getI, if_pos ⟨rfl, rfl⟩, nI_1]
/-- what negating changes -/
def F3 (c i k : Nat) : Prop := c = 20 ∧ (60 ≤ i ∧ i ≤ 65 ∧ 2800 ≤ k ∧ k < 3200 ∨ i = 67 ∧ k = 7 ∨ i = 83)
/-- nodes from M on, whom from lo up to hi -/
def F3s (M lo hi c i k : Nat) : Prop := c = 20 ∧ (60 ≤ i ∧ i ≤ 65 ∧ 400 * 7 + M ≤ k ∧ k < 3200 ∨ i = 67 ∧ k = 7 ∨ i = 83 ∧ lo ≤ k ∧ k < hi)
theorem F3s_3 {M lo hi : Nat} : ∀ c i k, F3s M lo hi c i k → F3 c i k := fun c i k z => by
  unfold F3s at z
  unfold F3
  omega
theorem LfM3.st {h h' : PH} {q lo : Nat} {l : L3} (a : ∀ i, 60 ≤ i → i ≤ 64 → hI h' 20 i (400 * q + lo) = hI h 20 i (400 * q + lo)) (b : ∀ k, k < 20 → hI h' 20 66 (20 * q + k) = hI h 20 66 (20 * q + k)) (R : LfM3 h q lo l) : LfM3 h' q lo l := by
  obtain ⟨⟨r1, r2, r3, r4⟩, r5⟩ := R
  refine ⟨⟨(a 60 (by decide) (by decide)).trans r1, fun k => (a 61 (by decide) (by decide)).trans (r2 k), fun k => ⟨(a 62 (by decide) (by decide)).trans (r3 k).1, (a 63 (by decide) (by decide)).trans (r3 k).2⟩, fun k => ?_⟩, (a 64 (by decide) (by decide)).trans r5⟩
  obtain ⟨fr, f1, f2, f3, f4⟩ := r4 k
  refine ⟨fr, (a 61 (by decide) (by decide)).trans f1, (a 62 (by decide) (by decide)).trans f2, f3, fun i hi => ?_⟩
  rw [Nat.add_assoc, b (fr + i) (by omega), ← Nat.add_assoc]
  exact f4 i hi
theorem QM.st {h h' : PH} {q : Nat} (b : ∀ k, k < 20 → hI h' 20 66 (20 * q + k) = hI h 20 66 (20 * q + k)) : ∀ (n : Nat) (t : QT n) (lo : Nat), (∀ i k, 60 ≤ i → i ≤ 65 → lo ≤ k → k < lo + sz n t → (i = 65 → k + 1 ≠ lo + sz n t) → hI h' 20 i (400 * q + k) = hI h 20 i (400 * q + k)) → QM h q n t lo → QM h' q n t lo
  | 0, _, lo, a, R => LfM3.st (fun i h1 h2 => a i lo h1 (by omega) (Nat.le_refl _) (Nat.lt_succ_self _) (fun z => by omega)) b R
  | _ + 1, .inl _, lo, a, R => LfM3.st (fun i h1 h2 => a i lo h1 (by omega) (Nat.le_refl _) (Nat.lt_succ_self _) (fun z => by omega)) b R
  | n + 1, .inr p, lo, a, R => by
    obtain ⟨r1, r2, r3⟩ := R
    have a : ∀ i k, 60 ≤ i → i ≤ 65 → lo ≤ k → k < lo + ((p.2.map (sz n)).sum + 1) → (i = 65 → k + 1 ≠ lo + ((p.2.map (sz n)).sum + 1)) → hI h' 20 i (400 * q + k) = hI h 20 i (400 * q + k) := a
    refine ⟨atL.imp (fun c _ l h1 h2 r => QM.st b n c l (fun i k i1 i2 k1 k2 _ => a i k i1 i2 (by omega) (by omega) (fun _ => by omega)) r) r1, (a 60 _ (by decide) (by decide) (by omega) (by omega) (fun z => by omega)).trans r2, ?_⟩
    rw [a 64 _ (by decide) (by decide) (by omega) (by omega) (fun z => by omega)]
    exact lnk_st (fun c _ => sz_pos n c) (fun i h1 h2 => a 65 i (by decide) (by decide) h1 (by omega) (fun _ => by omega)) r3
/-- two rows of places at once -/
def atP {α : Type} (S S' : α → Nat) (R : α → Nat → Nat → Prop) : List α → Nat → Nat → Prop
  | [], _, _ => True
  | c :: cs, lo, M => R c lo M ∧ atP S S' R cs (lo + S c) (M + S' c)
theorem atP.imp {α : Type} {S S' : α → Nat} {R R' : α → Nat → Nat → Prop} : ∀ {cs : List α} {lo M : Nat}, (∀ c ∈ cs, ∀ l k, lo ≤ l → l + S c ≤ lo + (cs.map S).sum → R c l k → R' c l k) → atP S S' R cs lo M → atP S S' R' cs lo M
  | [], _, _, _, _ => trivial
  | c :: cs, lo, M, h, a => by
    refine ⟨h c List.mem_cons_self lo M (Nat.le_refl _) ?_ a.1, atP.imp (fun d hd l k h1 h2 => h d (List.mem_cons_of_mem _ hd) l k (by omega) ?_) a.2⟩
    · rw [List.map_cons, List.sum_cons]; omega
    · rw [List.map_cons, List.sum_cons]; omega
theorem trn_b173 {h : PH} {g : PH} (m : MSh g) {q b kd B k : Nat} {w : Int32} (hq : q < 6) (hk : k < 400) (og : oP F3 h g) (e : hI g 20 83 k = w) : fX12_turned_b173 45 (nI q) (nI b) (nI kd) (nI B) (nI k) g = some (.inl (w, hI h 20 65 (400 * q + k), g)) := by
  have ck : Int32.toNatClampNeg (nI k) = k := nI_clamp (by omega)
  have cq : Int32.toNatClampNeg (nI (400 * q + k)) = 400 * q + k := nI_clamp (by omega)
  unfold fX12_turned_b173
  rw [gd_t (k_45 m), r12_45_53 m, gs_t, gd_t ⟨k_83 m, by rw [n_83 m]; exact inbI hk (by decide)⟩, r12_45_30 m, gs_t, i400, gd_t ⟨k_65 m, by rw [n_65 m]; exact inbI (by omega) (by decide)⟩, ck, cq, e, og.1 20 65 _ (fun z => by unfold F3 at z; omega)]
/-- the roots of the parts, from M on -/
def rts {α : Type} (S : α → Nat) : List α → Nat → Nat → Prop
  | [], _, _ => False
  | c :: cs, M, i => i = M + S c - 1 ∨ rts S cs (M + S c) i
theorem rts_lo {α : Type} {S : α → Nat} : ∀ {cs : List α} {M i : Nat}, (∀ c ∈ cs, 0 < S c) → rts S cs M i → M ≤ i
  | [], _, _, _, z => z.elim
  | c :: cs, M, i, p, z => by
    have := p c List.mem_cons_self
    rcases z with z | z
    · omega
    · have := rts_lo (fun d hd => p d (List.mem_cons_of_mem _ hd)) z
      omega
theorem atL.impR {α : Type} {S : α → Nat} {R R' : α → Nat → Prop} : ∀ {cs : List α} {lo : Nat}, (∀ c ∈ cs, 0 < S c) → (∀ c ∈ cs, ∀ l, lo ≤ l → l + S c ≤ lo + (cs.map S).sum → (∀ k, l ≤ k → k + 1 < l + S c → ¬ rts S cs lo k) → R c l → R' c l) → atL S R cs lo → atL S R' cs lo
  | [], _, _, _, _ => trivial
  | c :: cs, lo, p, h, a => by
    have pc := p c List.mem_cons_self
    refine ⟨h c List.mem_cons_self lo (Nat.le_refl _) ?_ (fun k k1 k2 z => ?_) a.1, atL.impR (fun d hd => p d (List.mem_cons_of_mem _ hd)) (fun d hd l h1 h2 h3 => h d (List.mem_cons_of_mem _ hd) l (by omega) ?_ (fun k k1 k2 z => ?_)) a.2⟩
    · rw [List.map_cons, List.sum_cons]; omega
    · rcases z with z | z
      · omega
      · have := rts_lo (fun d hd => p d (List.mem_cons_of_mem _ hd)) z
        omega
    · rw [List.map_cons, List.sum_cons]; omega
    · rcases z with z | z
      · omega
      · exact h3 k k1 k2 z
def F65 {α : Type} (S : α → Nat) (cs : List α) (L M E c i k : Nat) : Prop := c = 20 ∧ i = 65 ∧ (k = 400 * 7 + L ∨ 400 * 7 + M ≤ k ∧ k < 400 * 7 + E ∧ rts S cs M (k - 400 * 7))
def FLk {α : Type} (S : α → Nat) (cs : List α) (M B c i k : Nat) : Prop := c = 20 ∧ (i = 64 ∧ k = 400 * 7 + B ∨ i = 65 ∧ 400 * 7 + M ≤ k ∧ k < 400 * 7 + B ∧ rts S cs M (k - 400 * 7))
theorem trn_tail {h : PH} (m : MSh h) {q b kd B : Nat} (hq : q < 6) {α : Type} (S S' : α → Nat) : ∀ (cs : List α) (lo M L : Nat) (g : PH) (fr : Int32), oP F3 h g → lnk S (fun i => hI h 20 65 (400 * q + i)) cs lo fr → (∀ c ∈ cs, 0 < S c ∧ 0 < S' c) → lo + (cs.map S).sum ≤ 400 → M + (cs.map S').sum ≤ 400 → L < M → atP S S' (fun c l k => hI g 20 83 (l + S c - 1) = nI (k + S' c - 1)) cs lo M → ∃ g', (∀ r, fX12_turned_b218 45 (nI b) (nI kd) (nI B) g' = some r → fX12_turned_l122 45 (nI q) (nI b) (nI kd) (nI B) (nI L) fr g = some r) ∧ oP (F65 S' cs L M (M + (cs.map S').sum)) g g' ∧ lnk S' (fun i => hI g' 20 65 (400 * 7 + i)) cs M (hI g' 20 65 (400 * 7 + L)) := by
  intro cs
  induction cs with
  | nil =>
    intro lo M L g fr og L0 _ _ hM hL _
    have L0 : fr = -1 := L0
    subst L0
    have hM : M + 0 ≤ 400 := hM
    have mg := m.oP og
    have cL : Int32.toNatClampNeg (nI (400 * 7 + L)) = 400 * 7 + L := nI_clamp (by omega)
    refine ⟨sI g 20 65 (400 * 7 + L) (-1), fun r hr => wh_done ?_, (oP.rf _ g).sI _ ⟨rfl, rfl, Or.inl rfl⟩, ?_⟩
    · show fX12_turned_c122 45 (nI q) (nI b) (nI kd) (nI B) (nI L) (-1) g = _
      unfold fX12_turned_c122
      rw [if_pos rfl, if_neg (nI_nm1 (by omega)), gd_t (k_45 mg), r12_45_30 mg, gs_t, i28, gd_t ⟨k_65 mg, by rw [n_65 mg]; exact inbI (by omega) (by decide)⟩, lt_t, cL, hr, mr_t]
    · show hI (sI g 20 65 (400 * 7 + L) (-1)) 20 65 (400 * 7 + L) = -1
      rw [getI, if_pos ⟨rfl, rfl⟩]
  | cons c cs ih =>
    intro lo M L g fr og L0 hs hl hM hL hw
    rw [sum_cons] at hl hM ⊢
    obtain ⟨sc, sc'⟩ := hs c List.mem_cons_self
    obtain ⟨rfl, L2⟩ := L0
    obtain ⟨w1, w2⟩ := hw
    have mg := m.oP og
    have e1 : hI h 20 65 (400 * q + (lo + S c - 1)) = (fun i => hI h 20 65 (400 * q + i)) (lo + S c - 1) := rfl
    generalize hk : lo + S c - 1 = k at L2 e1 w1 ⊢
    generalize hr : M + S' c - 1 = r at w1
    have kb : k < 400 := by omega
    have rb : r < 400 := by omega
    have cL : Int32.toNatClampNeg (nI (400 * 7 + L)) = 400 * 7 + L := nI_clamp (by omega)
    have ck : Int32.toNatClampNeg (nI k) = k := nI_clamp (by omega)
    have o1 : oP F3 h (sI g 20 65 (400 * 7 + L) (nI r)) := og.sI _ ⟨rfl, Or.inl ⟨by decide, by decide, by omega, by omega⟩⟩
    have m1 := m.oP o1
    have e83 : ∀ j, hI (sI g 20 65 (400 * 7 + L) (nI r)) 20 83 j = hI g 20 83 j := fun j => by rw [getI, if_neg (fun z => absurd z.1 (by decide))]
    have st : fX12_turned_c122 45 (nI q) (nI b) (nI kd) (nI B) (nI L) (nI k) g = some (.inl (nI r, hI h 20 65 (400 * q + k), sI g 20 65 (400 * 7 + L) (nI r))) := by
      unfold fX12_turned_c122
      rw [if_neg (nI_nm1 (by omega)), if_pos (nI_nm1 (by omega)), gd_t (k_45 mg), r12_45_53 mg, gs_t, gd_t ⟨k_83 mg, by rw [n_83 mg]; exact inbI kb (by decide)⟩, r12_45_30 mg, gs_t, i28, gd_t ⟨k_65 mg, by rw [n_65 mg]; exact inbI (by omega) (by decide)⟩, lt_t, cL, ck, w1]
      exact trn_b173 m1 hq kb o1 ((e83 k).trans w1)
    obtain ⟨g', f1, f2, f3⟩ := ih (lo + S c) (M + S' c) r (sI g 20 65 (400 * 7 + L) (nI r)) (hI h 20 65 (400 * q + k)) o1 (by rw [e1]; exact L2) (fun d hd => hs d (List.mem_cons_of_mem _ hd)) (by omega) (by omega) (by omega) (atP.imp (fun d _ l j _ _ y => (e83 _).trans y) w2)
    refine ⟨g', fun x hx => wh_step (t := (nI r, hI h 20 65 (400 * q + k), sI g 20 65 (400 * 7 + L) (nI r))) st (f1 x hx), (((oP.rf _ g).sI _ ⟨rfl, rfl, Or.inl rfl⟩).tr (f2.mono (fun c' i' k' z => ⟨z.1, z.2.1, Or.inr (by
      rcases z.2.2 with y | y
      · exact ⟨by omega, by omega, Or.inl (by omega)⟩
      · exact ⟨by omega, by omega, Or.inr y.2.2⟩)⟩))), ?_, ?_⟩
    · rw [f2.1 20 65 (400 * 7 + L) (fun z => by
        rcases z.2.2 with y | y <;> omega), getI, if_pos ⟨rfl, rfl⟩, hr]
    · show lnk S' (fun i => hI g' 20 65 (400 * 7 + i)) cs (M + S' c) (hI g' 20 65 (400 * 7 + (M + S' c - 1)))
      rw [hr]
      exact f3
/-- the links of a node that is made -/
theorem trn_links {h : PH} (m : MSh h) {q b kd B : Nat} (hq : q < 6) {α : Type} (S S' : α → Nat) (c : α) (cs : List α) (lo M : Nat) (g : PH) (fr : Int32) (og : oP F3 h g) (L0 : lnk S (fun i => hI h 20 65 (400 * q + i)) (c :: cs) lo fr) (hs : ∀ d ∈ c :: cs, 0 < S d ∧ 0 < S' d) (hl : lo + ((c :: cs).map S).sum ≤ 400) (hM : M + ((c :: cs).map S').sum ≤ B) (hB : B < 400) (hw : atP S S' (fun c l k => hI g 20 83 (l + S c - 1) = nI (k + S' c - 1)) (c :: cs) lo M) : ∃ g', (∀ r, fX12_turned_b218 45 (nI b) (nI kd) (nI B) g' = some r → fX12_turned_l122 45 (nI q) (nI b) (nI kd) (nI B) (-1) fr g = some r) ∧ oP (FLk S' (c :: cs) M B) g g' ∧ lnk S' (fun i => hI g' 20 65 (400 * 7 + i)) (c :: cs) M (hI g' 20 64 (400 * 7 + B)) := by
  rw [sum_cons] at hl hM
  obtain ⟨sc, sc'⟩ := hs c List.mem_cons_self
  obtain ⟨rfl, L2⟩ := L0
  obtain ⟨w1, w2⟩ := hw
  have mg := m.oP og
  have e1 : hI h 20 65 (400 * q + (lo + S c - 1)) = (fun i => hI h 20 65 (400 * q + i)) (lo + S c - 1) := rfl
  generalize hk : lo + S c - 1 = k at L2 e1 w1 ⊢
  generalize hr : M + S' c - 1 = r at w1
  have kb : k < 400 := by omega
  have rb : r < 400 := by omega
  have cB : Int32.toNatClampNeg (nI (400 * 7 + B)) = 400 * 7 + B := nI_clamp (by omega)
  have ck : Int32.toNatClampNeg (nI k) = k := nI_clamp (by omega)
  have o1 : oP F3 h (sI g 20 64 (400 * 7 + B) (nI r)) := og.sI _ ⟨rfl, Or.inl ⟨by decide, by decide, by omega, by omega⟩⟩
  have m1 := m.oP o1
  have e83 : ∀ j, hI (sI g 20 64 (400 * 7 + B) (nI r)) 20 83 j = hI g 20 83 j := fun j => by rw [getI, if_neg (fun z => absurd z.1 (by decide))]
  have st : fX12_turned_c122 45 (nI q) (nI b) (nI kd) (nI B) (-1) (nI k) g = some (.inl (nI r, hI h 20 65 (400 * q + k), sI g 20 64 (400 * 7 + B) (nI r))) := by
    unfold fX12_turned_c122
    rw [if_neg (nI_nm1 (by omega)), if_neg (fun z => z rfl), gd_t (k_45 mg), r12_45_53 mg, gs_t, gd_t ⟨k_83 mg, by rw [n_83 mg]; exact inbI kb (by decide)⟩, r12_45_29 mg, gs_t, i28, gd_t ⟨k_64 mg, by rw [n_64 mg]; exact inbI (by omega) (by decide)⟩, lt_t, cB, ck, w1]
    exact trn_b173 m1 hq kb o1 ((e83 k).trans w1)
  obtain ⟨g', f1, f2, f3⟩ := trn_tail m (b := b) (kd := kd) (B := B) hq S S' cs (lo + S c) (M + S' c) r (sI g 20 64 (400 * 7 + B) (nI r)) (hI h 20 65 (400 * q + k)) o1 (by rw [e1]; exact L2) (fun d hd => hs d (List.mem_cons_of_mem _ hd)) (by omega) (by omega) (by omega) (atP.imp (fun d _ l j _ _ y => (e83 _).trans y) w2)
  refine ⟨g', fun x hx => wh_step (t := (nI r, hI h 20 65 (400 * q + k), sI g 20 64 (400 * 7 + B) (nI r))) st (f1 x hx), (((oP.rf _ g).sI _ ⟨rfl, Or.inl ⟨rfl, rfl⟩⟩).tr (f2.mono (fun c' i' k' z => ⟨z.1, Or.inr ⟨z.2.1, by
      rcases z.2.2 with y | y
      · exact ⟨by omega, by omega, Or.inl (by omega)⟩
      · exact ⟨by omega, by omega, Or.inr y.2.2⟩⟩⟩))), ?_, ?_⟩
  · rw [f2.1 20 64 (400 * 7 + B) (fun z => absurd z.2.1 (by decide)), getI, if_pos ⟨rfl, rfl⟩, hr]
  · show lnk S' (fun i => hI g' 20 65 (400 * 7 + i)) cs (M + S' c) (hI g' 20 65 (400 * 7 + (M + S' c - 1)))
    rw [hr]
    exact f3
/-- a node is made for node b -/
theorem trn_node {h : PH} (m : MSh h) {q b kd t M : Nat} (hq : q < 6) (hb : b < 400) (hk : kd < 8) (ht : t = 1 ∨ t = 2) {g : PH} (og : oP F3 h g) (h1 : hI h 20 60 (400 * q + b) = nI kd) (hv : hI h 20 82 b = nI t) (hn : ¬ (t = 2 ∧ kd = 4)) (eM : hI g 20 67 7 = nI M) (hM : M < 400) : ∃ g1, fX12_turned 45 (nI q) (nI b) g = fX12_turned_l122 45 (nI q) (nI b) (nI kd) (nI M) (-1) (hI h 20 64 (400 * q + b)) g1 ∧ oP (fun c i k => c = 20 ∧ (60 ≤ i ∧ i ≤ 65 ∧ k = 400 * 7 + M ∨ i = 67 ∧ k = 7)) g g1 ∧ hI g1 20 60 (400 * 7 + M) = nI (if t = 2 ∧ 5 ≤ kd then 11 - kd else kd) ∧ hI g1 20 61 (400 * 7 + M) = hI h 20 61 (400 * q + b) ∧ hI g1 20 62 (400 * 7 + M) = hI h 20 62 (400 * q + b) ∧ hI g1 20 63 (400 * 7 + M) = hI h 20 63 (400 * q + b) ∧ hI g1 20 64 (400 * 7 + M) = -1 ∧ hI g1 20 65 (400 * 7 + M) = -1 ∧ hI g1 20 67 7 = nI (M + 1) := by
  have mg := m.oP og
  have hG : ∀ i k, i ≠ 67 → i ≠ 83 → (60 ≤ i → i ≤ 65 → k < 2800) → hI g 20 i k = hI h 20 i k := fun i k a1 a2 a3 => og.1 20 i k (fun z => by unfold F3 at z; omega)
  have e60 : hI g 20 60 (400 * q + b) = nI kd := (hG 60 _ (by decide) (by decide) (fun _ _ => by omega)).trans h1
  have e82 : hI g 20 82 b = nI t := (hG 82 _ (by decide) (by decide) (fun _ _ => by omega)).trans hv
  obtain ⟨g0, p1, p2, p3, p4, p5, p6, p7, p8⟩ := makes_q mg (q := 7) (by decide) hM eM (nI (if t = 2 ∧ 5 ≤ kd then 11 - kd else kd)) (hI h 20 61 (400 * q + b)) (hI h 20 62 (400 * q + b))
  have m0 := mg.oP p2
  have cb : Int32.toNatClampNeg (nI b) = b := nI_clamp (by omega)
  have cq : Int32.toNatClampNeg (nI (400 * q + b)) = 400 * q + b := nI_clamp (by omega)
  have cM : Int32.toNatClampNeg (nI (400 * 7 + M)) = 400 * 7 + M := nI_clamp (by omega)
  have ib : hK g 82 = 20 ∧ inb (nI b) (hN g 82) := ⟨k_82 mg, by rw [n_82 mg]; exact inbI (by omega) (by decide)⟩
  have iq : ∀ {u : PH} (a : Nat), hN u a = 3200 → inb (nI (400 * q + b)) (hN u a) := fun a e => by rw [e]; exact inbI (by omega) (by decide)
  have iM : ∀ {u : PH} (a : Nat), hN u a = 3200 → inb (nI (400 * 7 + M)) (hN u a) := fun a e => by rw [e]; exact inbI (by omega) (by decide)
  have e2 : (nI t = 2) = (t = 2) := nIe (b := 2) (by omega) (by decide)
  have e4 : (nI kd = 4) = (kd = 4) := nIe (b := 4) (by omega) (by decide)
  have e63 : hI g0 20 63 (400 * q + b) = hI h 20 63 (400 * q + b) := (p2.1 20 63 _ (fun z => by unfold mkQ at z; omega)).trans (hG 63 _ (by decide) (by decide) (fun _ _ => by omega))
  have e64 : hI g0 20 64 (400 * q + b) = hI h 20 64 (400 * q + b) := (p2.1 20 64 _ (fun z => by unfold mkQ at z; omega)).trans (hG 64 _ (by decide) (by decide) (fun _ _ => by omega))
  have o1 : oP (fun c i k => c = 20 ∧ (60 ≤ i ∧ i ≤ 65 ∧ k = 400 * 7 + M ∨ i = 67 ∧ k = 7)) g (sI g0 20 63 (400 * 7 + M) (hI h 20 63 (400 * q + b))) := (p2.mono (fun _ _ _ z => z)).sI _ ⟨rfl, Or.inl ⟨by decide, by decide, rfl⟩⟩
  have m1 := mg.oP o1
  have b70 : ∀ t0 : Int32, t0 = nI (if t = 2 ∧ 5 ≤ kd then 11 - kd else kd) → fX12_turned_b70 45 (nI q) (nI b) (nI (400 * q + b)) (nI kd) t0 g = fX12_turned_l122 45 (nI q) (nI b) (nI kd) (nI M) (-1) (hI h 20 64 (400 * q + b)) (sI g0 20 63 (400 * 7 + M) (hI h 20 63 (400 * q + b))) := fun t0 h0 => by
    subst h0
    unfold fX12_turned_b70
    rw [gd_t (k_45 mg), r12_45_26 mg, gs_t, gd_t ⟨k_61 mg, iq 61 (n_61 mg)⟩, r12_45_27 mg, gs_t, gd_t ⟨k_62 mg, iq 62 (n_62 mg)⟩]
    simp only [cq]
    rw [hG 61 _ (by decide) (by decide) (fun _ _ => by omega), hG 62 _ (by decide) (by decide) (fun _ _ => by omega), show fX12_makes 45 (7 : Int32) _ _ _ g = _ from p1, bd_t, gd_t (k_45 m0), r12_45_28 m0, gs_t, gd_t ⟨k_63 m0, iq 63 (n_63 m0)⟩, i28, gd_t (iM 63 (n_63 m0)), lt_t, cM, e63, r12_45_29 m1, gs_t, gd_t ⟨k_64 m1, iq 64 (n_64 m1)⟩, show hI (sI g0 20 63 (400 * 7 + M) (hI h 20 63 (400 * q + b))) 20 64 (400 * q + b) = hI h 20 64 (400 * q + b) by rw [getI, if_neg (fun z => absurd z.1 (by decide))]; exact e64]
  have b44 : fX12_turned_b44 45 (nI q) (nI b) (nI (400 * q + b)) (nI kd) g = fX12_turned_l122 45 (nI q) (nI b) (nI kd) (nI M) (-1) (hI h 20 64 (400 * q + b)) (sI g0 20 63 (400 * 7 + M) (hI h 20 63 (400 * q + b))) := by
    unfold fX12_turned_b44 fX12_turned_b68
    rw [gd_t (k_45 mg), r12_45_52 mg, gs_t, gd_t ib, cb, e82, ifn e2]
    by_cases z2 : t = 2
    · rw [if_neg (fun y => y z2)]
      by_cases z5 : kd < 5
      · rw [if_pos (show nI kd < (5 : Int32) from show nI kd < nI 5 from (nI_ltI (by omega) (by decide)).mpr z5)]
        exact b70 _ (by rw [if_neg (fun y => by omega)])
      · rw [if_neg (show ¬ nI kd < (5 : Int32) from show ¬ nI kd < nI 5 by rw [nI_ltI (by omega) (by decide)]; exact z5)]
        refine b70 _ ?_
        rw [if_pos ⟨z2, by omega⟩, show (11 : Int32) = nI 11 from rfl, pk_sub (by omega)]
    · rw [if_pos z2]
      exact b70 _ (by rw [if_neg (fun y => z2 y.1)])
  refine ⟨_, ?_, o1, ?_, ?_, ?_, ?_, ?_, ?_, ?_⟩
  · unfold fX12_turned
    rw [gd_t (k_45 mg), r12_45_25 mg, gs_t, i400, gd_t ⟨k_60 mg, iq 60 (n_60 mg)⟩, r12_45_52 mg, gs_t, gd_t ib]
    simp only [cb, cq]
    rw [e82, e60, ifn e2]
    by_cases z2 : t = 2
    · rw [if_neg (fun y => y z2), ifn e4, if_pos (fun y => hn ⟨z2, y⟩)]
      exact b44
    · rw [if_pos z2]
      exact b44
  · rw [getI, if_neg (fun z => absurd z.1 (by decide))]; exact p3
  · rw [getI, if_neg (fun z => absurd z.1 (by decide))]; exact p4
  · rw [getI, if_neg (fun z => absurd z.1 (by decide))]; exact p5
  · rw [getI, if_pos ⟨rfl, rfl⟩]
  · rw [getI, if_neg (fun z => absurd z.1 (by decide))]; exact p6
  · rw [getI, if_neg (fun z => absurd z.1 (by decide))]; exact p7
  · rw [getI, if_neg (fun z => absurd z.1 (by decide))]; exact p8
