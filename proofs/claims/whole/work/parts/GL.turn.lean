/-! THE REFERENCE NEGATES a query, first: what each node becomes -/
theorem i28 (M : Nat) : (2800 : Int32) + nI M = nI (400 * 7 + M) := nI_add 2800 M
def rq (t n : Nat) (Q : QT n) : QT n := if t = 2 then ngq n Q else Q
/-- what the parts of a node of kind k become -/
def tw (t k : Nat) : Nat := if t = 2 ∧ k = 4 then 1 else t
def TB (g : PH) : (n : Nat) → QT n → Nat → Nat → Prop
  | 0, _, lo, t => hI g 20 82 lo = nI t
  | n + 1, q, lo, t => match (q : L3 ⊕ (Nat × List (QT n))) with
    | .inl _ => hI g 20 82 lo = nI t
    | .inr p => atL (sz n) (fun c l => TB g n c l (tw t p.1)) p.2 lo ∧ hI g 20 82 (lo + (p.2.map (sz n)).sum) = nI t
theorem TB.of {g g' : PH} : ∀ (n : Nat) (Q : QT n) (lo t : Nat), (∀ k, lo ≤ k → k < lo + sz n Q → hI g' 20 82 k = hI g 20 82 k) → TB g n Q lo t → TB g' n Q lo t
  | 0, _, lo, _, e, b => (e lo (Nat.le_refl _) (Nat.lt_succ_self _)).trans b
  | _ + 1, .inl _, lo, _, e, b => (e lo (Nat.le_refl _) (Nat.lt_succ_self _)).trans b
  | n + 1, .inr p, lo, t, e, b => by
    have e : ∀ k, lo ≤ k → k < lo + ((p.2.map (sz n)).sum + 1) → hI g' 20 82 k = hI g 20 82 k := e
    exact ⟨atL.imp (fun c _ l h1 h2 r => TB.of n c l _ (fun k k1 k2 => e k (by omega) (by omega)) r) b.1, (e _ (by omega) (by omega)).trans b.2⟩
def F82 (c i _k : Nat) : Prop := c = 20 ∧ i = 82
theorem twv {t k : Nat} (ht : t = 1 ∨ t = 2) : tw t k = 1 ∨ tw t k = 2 := by
  unfold tw
  by_cases z : t = 2 ∧ k = 4
  · rw [if_pos z]; exact Or.inl rfl
  · rw [if_neg z]; exact ht
theorem turnb_in {h : PH} (m : MSh h) {q b t tv : Nat} (hq : q < 8) (hb : b < 400) (ht : t = 1 ∨ t = 2) {α : Type} (S : α → Nat) : ∀ (cs : List α) (lo : Nat) (g : PH) (fr : Int32), oP F82 h g → lnk S (fun i => hI h 20 65 (400 * q + i)) cs lo fr → (∀ c ∈ cs, 0 < S c) → lo + (cs.map S).sum ≤ b → hI g 20 82 b = nI t → ∃ g', (∀ r, wh (fun z : Int32 × PH => fX12_turns_c101 45 (nI q) (nI b) (nI tv) z.1 z.2) (-1, g') = some r → wh (fun z : Int32 × PH => fX12_turns_c101 45 (nI q) (nI b) (nI tv) z.1 z.2) (fr, g) = some r) ∧ oP F82 h g' ∧ atL S (fun c l => hI g' 20 82 (l + S c - 1) = nI tv) cs lo ∧ ∀ i, (i < lo ∨ lo + (cs.map S).sum ≤ i) → hI g' 20 82 i = hI g 20 82 i := by
  intro cs
  induction cs with
  | nil =>
    intro lo g fr og L _ _ _
    have L : fr = -1 := L
    subst L
    exact ⟨g, fun r z => z, og, trivial, fun _ _ => rfl⟩
  | cons c cs ih =>
    intro lo g fr og L hs hl hv
    rw [sum_cons] at hl ⊢
    have sc := hs c List.mem_cons_self
    obtain ⟨rfl, L2⟩ := L
    have mg := m.oP og
    have e1 : hI h 20 65 (400 * q + (lo + S c - 1)) = (fun i => hI h 20 65 (400 * q + i)) (lo + S c - 1) := rfl
    generalize hr : lo + S c - 1 = r at L2 e1 ⊢
    have rb : r < b := by omega
    have ib : hK g 82 = 20 ∧ inb (nI b) (hN g 82) := ⟨k_82 mg, by rw [n_82 mg]; exact inbI (by omega) (by decide)⟩
    have ir : hK g 82 = 20 ∧ inb (nI r) (hN g 82) := ⟨k_82 mg, by rw [n_82 mg]; exact inbI (by omega) (by decide)⟩
    have o1 : oP F82 h (sI g 20 82 r (nI tv)) := og.sI _ ⟨rfl, rfl⟩
    have m1 := m.oP o1
    have nz : ¬ nI t = (0 : Int32) := fun y => by
      have := (nI_eq (b := 0) (by omega) (by decide)).mp y
      omega
    have cb : Int32.toNatClampNeg (nI b) = b := nI_clamp (by omega)
    have cr : Int32.toNatClampNeg (nI r) = r := nI_clamp (by omega)
    have ck : Int32.toNatClampNeg (nI (400 * q + r)) = 400 * q + r := nI_clamp (by omega)
    have st : fX12_turns_c101 45 (nI q) (nI b) (nI tv) (nI r) g = some (.inl (hI h 20 65 (400 * q + r), sI g 20 82 r (nI tv))) := by
      unfold fX12_turns_c101
      rw [if_neg (nI_nm1 (by omega)), gd_t (k_45 mg), r12_45_52 mg, gs_t, gd_t ib, cb, hv, if_neg nz, gs_t, gd_t ir, lt_t, cr, r12_45_30 m1, gs_t, i400, gd_t ⟨k_65 m1, by rw [n_65 m1]; exact inbI (by omega) (by decide)⟩, ck, o1.1 20 65 _ (fun z => absurd z.2 (by decide))]
    obtain ⟨g', f1, f2, f3, f4⟩ := ih (lo + S c) (sI g 20 82 r (nI tv)) (hI h 20 65 (400 * q + r)) o1 (by rw [e1]; exact L2) (fun d hd => hs d (List.mem_cons_of_mem _ hd)) (by omega) (by rw [hI_sI, if_neg (fun y => by have := y.2.2; omega)]; exact hv)
    refine ⟨g', fun x hx => wh_step (t := (hI h 20 65 (400 * q + r), sI g 20 82 r (nI tv))) st (f1 x hx), f2, ⟨?_, f3⟩, fun i hi => ?_⟩
    · show hI g' 20 82 (lo + S c - 1) = _
      rw [hr, f4 r (by omega), hI_sI, if_pos ⟨rfl, rfl, rfl⟩]
    · rw [f4 i (by omega), hI_sI, if_neg (fun y => by have := y.2.2; omega)]
def dn {ρ : Type} (c : Int32 × PH → Option ((Int32 × PH) ⊕ ρ)) (m : Nat) (g : PH) (m' : Nat) (g' : PH) : Prop := ∀ r, wh c (nI m' + (-1), g') = some r → wh c (nI m + (-1), g) = some r
theorem turnb_dn {h : PH} (m : MSh h) {q : Nat} (hq : q < 8) : ∀ (n : Nat) (Q : QT n) (lo : Nat) (g : PH) (t : Nat), (t = 1 ∨ t = 2) → oP F82 h g → QM h q n Q lo → wfq n Q → lo + sz n Q ≤ 400 → hI g 20 82 (lo + sz n Q - 1) = nI t → ∃ g', dn (fun z : Int32 × PH => fX12_turns_c46 45 (nI q) z.1 z.2) (lo + sz n Q) g lo g' ∧ oP F82 h g' ∧ TB g' n Q lo t ∧ ∀ k, (k < lo ∨ lo + sz n Q ≤ k) → hI g' 20 82 k = hI g 20 82 k := by
  have c46 : ∀ (g : PH), oP F82 h g → ∀ (b k t : Nat), b < 400 → k < 8 → (t = 1 ∨ t = 2) → hI h 20 60 (400 * q + b) = nI k → hI g 20 82 b = nI t → fX12_turns_c46 45 (nI q) (nI (b + 1) + (-1)) g = fX12_turns_l101 45 (nI q) (nI b) (nI (tw t k)) (hI h 20 64 (400 * q + b)) g := fun g og b k t hb hk ht h1 hv => by
    have mg := m.oP og
    have cb : Int32.toNatClampNeg (nI b) = b := nI_clamp (by omega)
    have ck : Int32.toNatClampNeg (nI (400 * q + b)) = 400 * q + b := nI_clamp (by omega)
    have ib : hK g 82 = 20 ∧ inb (nI b) (hN g 82) := ⟨k_82 mg, by rw [n_82 mg]; exact inbI (by omega) (by decide)⟩
    have b86 : ∀ t0 : Int32, fX12_turns_b86 45 (nI q) (nI b) t0 g = fX12_turns_l101 45 (nI q) (nI b) t0 (hI h 20 64 (400 * q + b)) g := fun t0 => by
      unfold fX12_turns_b86
      rw [gd_t (k_45 mg), r12_45_29 mg, gs_t, i400, gd_t ⟨k_64 mg, by rw [n_64 mg]; exact inbI (by omega) (by decide)⟩, ck, og.1 20 64 _ (fun z => absurd z.2 (by decide))]
    have b80 : fX12_turns_b80 45 (nI q) (nI b) g = fX12_turns_l101 45 (nI q) (nI b) (nI t) (hI h 20 64 (400 * q + b)) g := by
      unfold fX12_turns_b80
      rw [gd_t (k_45 mg), r12_45_52 mg, gs_t, gd_t ib, cb, hv, b86]
    have e2 : (nI t = 2) = (t = 2) := nIe (b := 2) (by omega) (by decide)
    have e4 : (nI k = 4) = (k = 4) := nIe (b := 4) (by omega) (by decide)
    rw [pk_m1]
    unfold fX12_turns_c46
    rw [if_neg (nI_pos (by omega)), gd_t (k_45 mg), r12_45_52 mg, gs_t, gd_t ib, cb, hv, ifn e2]
    unfold tw
    by_cases z2 : t = 2
    · rw [if_neg (fun y => y z2), r12_45_25 mg, gs_t, i400, gd_t ⟨k_60 mg, by rw [n_60 mg]; exact inbI (by omega) (by decide)⟩, ck, og.1 20 60 _ (fun z => absurd z.2 (by decide)), h1, ifn e4]
      by_cases z4 : k = 4
      · rw [if_neg (fun y => y z4), if_pos ⟨z2, z4⟩]
        exact b86 1
      · rw [if_pos z4, if_neg (fun y => z4 y.2)]
        exact b80
    · rw [if_pos z2, if_neg (fun y => z2 y.1)]
      exact b80
  have leaf : ∀ (l : L3) (lo : Nat) (g : PH) (t : Nat), (t = 1 ∨ t = 2) → oP F82 h g → LfM3 h q lo l → okL3 l → lo + 1 ≤ 400 → hI g 20 82 lo = nI t → dn (fun z : Int32 × PH => fX12_turns_c46 45 (nI q) z.1 z.2) (lo + 1) g lo g := fun l lo g t ht og L ok hl hv r hr => by
    have kl := ok.1
    refine wh_step (t := (nI lo + (-1), g)) ?_ hr
    show fX12_turns_c46 45 (nI q) (nI (lo + 1) + (-1)) g = _
    rw [c46 g og lo l.1 t (by omega) (by omega) ht L.1.1 hv, L.2]
    unfold fX12_turns_l101
    refine wh_done ?_
    show fX12_turns_c101 45 (nI q) (nI lo) (nI (tw t l.1)) (-1) g = _
    unfold fX12_turns_c101 fX12_turns_b142
    rw [if_pos rfl, mr_t]
  intro n
  induction n with
  | zero => exact fun Q lo g t ht og L w hl hv => ⟨g, leaf Q lo g t ht og L w hl hv, og, hv, fun _ _ => rfl⟩
  | succ n ih =>
    intro Q lo g t ht og L w hl hv
    rcases Q with l | p
    · exact ⟨g, leaf l lo g t ht og L w hl hv, og, hv, fun _ _ => rfl⟩
    · obtain ⟨h1, h2, h3⟩ := L
      obtain ⟨w1, w2, w3⟩ := w
      have k46 : 4 ≤ p.1 ∧ p.1 ≤ 6 := by
        rcases w1 with ⟨r, -⟩ | ⟨r, -⟩ <;> omega
      have hl : lo + ((p.2.map (sz n)).sum + 1) ≤ 400 := hl
      have hv : hI g 20 82 (lo + ((p.2.map (sz n)).sum + 1) - 1) = nI t := hv
      have ez : sz (n + 1) (.inr p) = (p.2.map (sz n)).sum + 1 := rfl
      rw [ez]
      have ls : ∀ (t' : Nat), (t' = 1 ∨ t' = 2) → ∀ (cs : List (QT n)) (lo : Nat) (g : PH), oP F82 h g → atL (sz n) (QM h q n) cs lo → (∀ c ∈ cs, wfq n c) → lo + (cs.map (sz n)).sum ≤ 400 → atL (sz n) (fun c l => hI g 20 82 (l + sz n c - 1) = nI t') cs lo → ∃ g', dn (fun z : Int32 × PH => fX12_turns_c46 45 (nI q) z.1 z.2) (lo + (cs.map (sz n)).sum) g lo g' ∧ oP F82 h g' ∧ atL (sz n) (fun c l => TB g' n c l t') cs lo ∧ ∀ k, (k < lo ∨ lo + (cs.map (sz n)).sum ≤ k) → hI g' 20 82 k = hI g 20 82 k := by
        intro t' ht' cs
        induction cs with
        | nil => exact fun lo g og _ _ _ _ => ⟨g, fun r z => z, og, trivial, fun _ _ => rfl⟩
        | cons c cs ihc =>
          intro lo g og L w hl z
          rw [sum_cons] at hl ⊢
          have sp := sz_pos n c
          obtain ⟨z1, z2⟩ := z
          obtain ⟨g1, r1, r2, r3, r4⟩ := ihc (lo + sz n c) g og L.2 (fun d hd => w d (List.mem_cons_of_mem _ hd)) (by omega) z2
          obtain ⟨g2, q1, q2, q3, q4⟩ := ih c lo g1 t' ht' r2 L.1 (w c List.mem_cons_self) (by omega) (by rw [r4 _ (by omega)]; exact z1)
          refine ⟨g2, fun r hr => ?_, q2, ⟨q3, atL.imp (fun d _ l h1 h2 y => TB.of n d l t' (fun k k1 k2 => q4 k (by omega)) y) r3⟩, fun k hk => ?_⟩
          · have := r1 r (q1 r hr)
            rw [Nat.add_assoc] at this
            exact this
          · rw [q4 k (by omega), r4 k (by omega)]
      generalize hs : (p.2.map (sz n)).sum = sm0 at *
      rw [show lo + (sm0 + 1) - 1 = lo + sm0 by omega] at hv
      obtain ⟨g1, j1, j2, j3, j4⟩ := turnb_in m hq (b := lo + sm0) (tv := tw t p.1) (by omega) ht (sz n) p.2 lo g _ og h3 (fun c _ => sz_pos n c) (by omega) hv
      obtain ⟨g2, r1, r2, r3, r4⟩ := ls (tw t p.1) (twv ht) p.2 lo g1 j2 h1 w3 (by omega) j3
      rw [hs] at r1 r4 j4
      have fin : fX12_turns_c101 45 (nI q) (nI (lo + sm0)) (nI (tw t p.1)) (-1) g1 = some (.inr (.inl (nI (lo + sm0) + (-1), g1))) := by
        unfold fX12_turns_c101 fX12_turns_b142
        rw [if_pos rfl, mr_t]
      have st : fX12_turns_c46 45 (nI q) (nI (lo + sm0 + 1) + (-1)) g = some (.inl (nI (lo + sm0) + (-1), g1)) := by
        rw [c46 g og (lo + sm0) p.1 t (by omega) (by omega) ht h2 hv]
        unfold fX12_turns_l101
        exact j1 _ (wh_done fin)
      refine ⟨g2, fun r hr => ?_, r2, ⟨r3, ?_⟩, fun k hk => ?_⟩
      · rw [← Nat.add_assoc lo sm0 1]
        refine wh_step (t := (nI (lo + sm0) + (-1), g1)) ?_ (r1 r hr)
        show fX12_turns_c46 45 (nI q) (nI (lo + sm0 + 1) + (-1)) g = _
        exact st
      · rw [hs, r4 _ (by omega), j4 _ (by omega)]
        exact hv
      · rw [r4 k (by omega), j4 k (by omega)]
