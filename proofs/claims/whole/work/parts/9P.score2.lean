theorem score_dn {h : PH} (m : MSh h) {tx : TX} (o : okX tx) (X : MT tx h) {t0 : Nat} (ht : t0 < 100) {T : List Nat} (e : tx t0 = some T) {q : Nat} (hq : q < 8) : ∀ (n : Nat) (Q : QT n) (lo : Nat) (g : PH) (s : Nat) (t : Bool), onlyI isTu h g → QM h q n Q lo → wfq n Q → lo + sz n Q ≤ 400 → hI g 21 78 (lo + sz n Q - 1) = bI t → ∃ g', down (fun z : Int32 × Int32 × PH => fX12_score_c24 45 (nI q) (nI t0) z.1 z.2.1 z.2.2) s (lo + sz n Q) g (s + qsc T n Q (!t)) lo g' ∧ onlyI isTu h g' ∧ ∀ k, (k < lo ∨ lo + sz n Q ≤ k) → hI g' 21 78 k = hI g 21 78 k := by
  have c24 : ∀ (g : PH), onlyI isTu h g → ∀ (b k : Nat) (fr : Int32) (s : Nat), b < 400 → hI h 20 60 (400 * q + b) = nI k → hI h 20 64 (400 * q + b) = fr → fX12_score_c24 45 (nI q) (nI t0) (nI s) (nI (b + 1) + (-1)) g = fX12_score_l59 45 (nI q) (nI t0) (nI s) (nI b) (nI k) fr g := fun g og b k fr s hb h1 h2 => by
    have mg := m.oI og
    rw [pk_m1]
    unfold fX12_score_c24
    rw [if_neg (nI_pos (by omega)), gd_t (k_45 mg), r12_45_25 mg, gs_t, i400, gd_t ⟨k_60 mg, by rw [n_60 mg]; exact inbI (by omega) (by decide)⟩, r12_45_29 mg, gs_t, gd_t ⟨k_64 mg, by rw [n_64 mg]; exact inbI (by omega) (by decide)⟩, nI_clamp (by omega), show hI g 20 60 (400 * q + b) = nI k from (og.1 20 60 _ rfl).trans h1, show hI g 20 64 (400 * q + b) = fr from (og.1 20 64 _ rfl).trans h2]
  have leaf : ∀ (l : Nat × List Nat × Nat) (lo : Nat) (g : PH) (s : Nat) (t : Bool), onlyI isTu h g → LfM3 h q lo l → okL3 l → lo + 1 ≤ 400 → hI g 21 78 lo = bI t → ∃ g', down (fun z : Int32 × Int32 × PH => fX12_score_c24 45 (nI q) (nI t0) z.1 z.2.1 z.2.2) s (lo + 1) g (s + (if !t then cntL3 T l else 0)) lo g' ∧ onlyI isTu h g' ∧ ∀ k, (k < lo ∨ lo + 1 ≤ k) → hI g' 21 78 k = hI g 21 78 k := fun l lo g s t og L ok hl htn => by
    have mg := m.oI og
    have Lg : LfM3 g q lo l := L.of (fun a k h1 h2 => og.1 20 a k (by unfold isTu; rfl))
    have Xg : MT tx g := X.scr (og.scr (fun _ _ _ => isTu_scr))
    have kl := ok.1
    refine ⟨g, fun r hr => wh_step (t := (nI (s + (if !t then cntL3 T l else 0)), nI lo + (-1), g)) ?_ hr, og, fun _ _ => rfl⟩
    show fX12_score_c24 45 (nI q) (nI t0) (nI s) (nI (lo + 1) + (-1)) g = _
    rw [c24 g og lo l.1 (-1) s (by omega) L.1.1 L.2]
    unfold fX12_score_l59
    refine wh_done ?_
    show fX12_score_c59 45 (nI q) (nI t0) (nI s) (nI lo) (nI l.1) (-1) g = _
    unfold fX12_score_c59 fX12_score_b143
    rw [if_pos rfl, if_neg (show ¬ (4 : Int32) ≤ nI l.1 from show ¬ nI 4 ≤ nI l.1 by rw [nI_leI (by decide) (by omega)]; omega), gd_t (k_45 mg), r12_45_47 mg, gs_t, gd_t ⟨k_78 mg, by rw [n_78 mg]; exact inbI (by omega) (by decide)⟩, nI_clamp (by omega), htn, meets_eq mg o Xg ht hq (by omega) ok Lg.1, bd_t, cntX_s e]
    cases t with
    | true => rw [if_pos (show ¬ bI true = 0 by decide), mr_t]; rfl
    | false => rw [if_neg (fun y => y rfl), mr_t, nI_add]; rfl
  intro n
  induction n with
  | zero => exact fun Q lo g s t og L w hl htn => leaf Q lo g s t og L w hl htn
  | succ n ih =>
    intro Q lo g s t og L w hl htn
    rcases Q with l | p
    · exact leaf l lo g s t og L w hl htn
    · obtain ⟨h1, h2, h3⟩ := L
      obtain ⟨w1, w2, w3⟩ := w
      have k46 : 4 ≤ p.1 ∧ p.1 ≤ 6 := by
        rcases w1 with ⟨r, -⟩ | ⟨r, -⟩ <;> omega
      have hl : lo + ((p.2.map (sz n)).sum + 1) ≤ 400 := hl
      have htn : hI g 21 78 (lo + ((p.2.map (sz n)).sum + 1) - 1) = bI t := htn
      have ez : sz (n + 1) (.inr p) = (p.2.map (sz n)).sum + 1 := rfl
      rw [ez]
      have ls : ∀ (t' : Bool) (cs : List (QT n)) (lo : Nat) (g : PH) (s : Nat), onlyI isTu h g → atL (sz n) (QM h q n) cs lo → (∀ c ∈ cs, wfq n c) → lo + (cs.map (sz n)).sum ≤ 400 → atL (sz n) (fun c l => hI g 21 78 (l + sz n c - 1) = bI t') cs lo → ∃ g', down (fun z : Int32 × Int32 × PH => fX12_score_c24 45 (nI q) (nI t0) z.1 z.2.1 z.2.2) s (lo + (cs.map (sz n)).sum) g (s + (cs.map (fun c => qsc T n c (!t'))).sum) lo g' ∧ onlyI isTu h g' ∧ ∀ k, (k < lo ∨ lo + (cs.map (sz n)).sum ≤ k) → hI g' 21 78 k = hI g 21 78 k := by
        intro t' cs
        induction cs with
        | nil => exact fun lo g s og _ _ _ _ => ⟨g, fun r z => z, og, fun _ _ => rfl⟩
        | cons c cs ihc =>
          intro lo g s og L w hl z
          rw [sum_cons] at hl ⊢
          rw [sum_cons]
          have sp := sz_pos n c
          obtain ⟨z1, z2⟩ := z
          obtain ⟨g1, r1, r2, r3⟩ := ihc (lo + sz n c) g s og L.2 (fun d hd => w d (List.mem_cons_of_mem _ hd)) (by omega) z2
          obtain ⟨g2, q1, q2, q3⟩ := ih c lo g1 (s + (cs.map (fun c => qsc T n c (!t'))).sum) t' r2 L.1 (w c List.mem_cons_self) (by omega) (by rw [r3 _ (by omega)]; exact z1)
          refine ⟨g2, fun r hr => ?_, q2, fun k hk => ?_⟩
          · have := r1 r (q1 r (by rw [Nat.add_assoc, Nat.add_comm (cs.map (fun c => qsc T n c (!t'))).sum]; exact hr))
            rw [Nat.add_assoc] at this
            exact this
          · rw [q3 k (by omega), r3 k (by omega)]
      generalize hs : (p.2.map (sz n)).sum = sm0 at *
      rw [show lo + (sm0 + 1) - 1 = lo + sm0 by omega] at htn
      obtain ⟨g1, j1, j2, j3, j4⟩ := turn_in m hq (b := lo + sm0) (k := p.1) (by omega) (by omega) (nI t0) s (sz n) t p.2 lo g _ og h3 (fun c _ => sz_pos n c) (by omega) htn
      obtain ⟨g2, r1, r2, r3⟩ := ls (t != decide (p.1 = 4)) p.2 lo g1 s j2 h1 w3 (by omega) j3
      rw [hs] at r1 r3 j4
      have mg1 := m.oI j2
      have fin : fX12_score_c59 45 (nI q) (nI t0) (nI s) (nI (lo + sm0)) (nI p.1) (-1) g1 = some (.inr (.inl (nI s, nI (lo + sm0) + (-1), g1))) := by
        unfold fX12_score_c59 fX12_score_b143
        rw [if_pos rfl, if_pos (show (4 : Int32) ≤ nI p.1 from show nI 4 ≤ nI p.1 from (nI_leI (by decide) (by omega)).mpr k46.1), mr_t]
      have st : fX12_score_c24 45 (nI q) (nI t0) (nI s) (nI (lo + sm0 + 1) + (-1)) g = some (.inl (nI s, nI (lo + sm0) + (-1), g1)) := by
        rw [c24 g og (lo + sm0) p.1 _ s (by omega) h2 rfl]
        unfold fX12_score_l59
        exact j1 _ (wh_done fin)
      refine ⟨g2, fun r hr => ?_, r2, fun k hk => ?_⟩
      · have e2 : qsc T (n + 1) (.inr p) (!t) = (p.2.map (fun c => qsc T n c (!(t != decide (p.1 = 4))))).sum := by
          have fe : (if p.1 = 4 then !(!t) else !t) = (!(t != decide (p.1 = 4))) := by
            by_cases z : p.1 = 4
            · rw [if_pos z, decide_eq_true z]; cases t <;> rfl
            · rw [if_neg z, decide_eq_false z]; cases t <;> rfl
          show (p.2.map (fun c => qsc T n c (if p.1 = 4 then !(!t) else !t))).sum = _
          rw [fe]
        rw [e2] at hr
        rw [← Nat.add_assoc lo sm0 1]
        refine wh_step (t := (nI s, nI (lo + sm0) + (-1), g1)) ?_ (r1 r hr)
        show fX12_score_c24 45 (nI q) (nI t0) (nI s) (nI (lo + sm0 + 1) + (-1)) g = _
        exact st
      · rw [r3 k (by omega), j4 k (by omega)]
theorem mscore_eq {h : PH} (m : MSh h) {tx : TX} (o : okX tx) (X : MT tx h) {t0 : Nat} (ht : t0 < 100) {T : List Nat} (e : tx t0 = some T) {q n : Nat} {Q : QT n} (hq : q < 8) (B : BM h q n Q) : ∃ g', fX12_score 45 (nI q) (nI t0) h = some (nI (qsc T n Q true), g') ∧ onlyI isTu h g' := by
  obtain ⟨b1, b2, b3, b4, b5⟩ := B
  have sp := sz_pos n Q
  have o1 : onlyI isTu h (sI h 21 78 (sz n Q - 1) (bI false)) := onlyI_sI _ _ (isTu78 _)
  obtain ⟨g', r1, r2, r3⟩ := score_dn m o X ht e hq n Q 0 (sI h 21 78 (sz n Q - 1) (bI false)) 0 false o1 b4 b5 (by omega) (by rw [Nat.zero_add, hI_sI, if_pos ⟨rfl, rfl, rfl⟩])
  have m1 := m.oI o1
  refine ⟨g', ?_, r2⟩
  have cq : Int32.toNatClampNeg (nI q) = q := nI_clamp (by omega)
  have e69 : hI h 20 69 (Int32.toNatClampNeg (nI q)) = nI (sz n Q - 1) := by rw [cq]; exact b2
  have e67 : hI (sI h 21 78 (sz n Q - 1) (bI false)) 20 67 (Int32.toNatClampNeg (nI q)) = nI (sz n Q) := by rw [cq]; exact (o1.1 20 67 q rfl).trans b1
  have cs : Int32.toNatClampNeg (nI (sz n Q - 1)) = sz n Q - 1 := nI_clamp (by omega)
  have fin : fX12_score_l24 45 (nI q) (nI t0) 0 (nI (sz n Q) - 1) (sI h 21 78 (sz n Q - 1) (bI false)) = some (nI (qsc T n Q true), g') := by
    have h0 : nI (sz n Q) - 1 = nI (0 + sz n Q) + (-1) := by rw [Nat.zero_add, Int32.sub_eq_add_neg]
    rw [h0]
    unfold fX12_score_l24
    have k := r1 (nI (qsc T n Q true), g') (wh_done (by
      show fX12_score_c24 45 (nI q) (nI t0) (nI (0 + qsc T n Q (!false))) (nI 0 + (-1)) g' = _
      unfold fX12_score_c24
      rw [if_pos (by decide), mr_t, Nat.zero_add]
      rfl))
    exact k
  unfold fX12_score
  rw [gd_t (k_45 m), r12_45_34 m, gs_t, gd_t ⟨k_69 m, by rw [n_69 m]; exact inbI hq (by decide)⟩, e69, r12_45_47 m, gs_t, gd_t ⟨k_78 m, by rw [n_78 m]; exact inbI (by omega) (by decide)⟩, lt_t, cs, and1_0, r12_45_32 m1, gs_t, gd_t ⟨k_67 m1, by rw [n_67 m1]; exact inbI hq (by decide)⟩, e67]
  exact fin
