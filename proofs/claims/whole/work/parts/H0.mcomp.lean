/-! COMPARE: the reference's half -/
theorem LH_flat {T : List Nat} {g : PH} : ∀ (n : Nat) (Q : QT n) (lo : Nat), (∀ k l, (flat n Q)[k]? = some (some l) → hI g 21 77 (lo + k) = bI (decide (0 < cntL3 T l))) → LH T g n Q lo
  | 0, Q, lo, e => e 0 (Q : L3) rfl
  | _ + 1, .inl l, lo, e => e 0 l rfl
  | n + 1, .inr p, lo, e => by
    have e : ∀ k l, ((p.2.map (flat n)).flatten ++ [none])[k]? = some (some l) → hI g 21 77 (lo + k) = bI (decide (0 < cntL3 T l)) := e
    have go : ∀ (cs : List (QT n)) (lo : Nat), (∀ k l, ((cs.map (flat n)).flatten)[k]? = some (some l) → hI g 21 77 (lo + k) = bI (decide (0 < cntL3 T l))) → atL (sz n) (LH T g n) cs lo := fun cs => by
      induction cs with
      | nil => exact fun _ _ => trivial
      | cons c cs ih =>
        intro lo e
        rw [List.map_cons, List.flatten_cons] at e
        have fl := flat_len n c
        refine ⟨LH_flat n c lo (fun k l h => ?_), ih (lo + sz n c) (fun k l h => ?_)⟩
        · have kl : k < (flat n c).length := (List.getElem?_eq_some_iff.mp h).1
          exact e k l (by rw [List.getElem?_append_left kl]; exact h)
        · have := e (sz n c + k) l (by
            rw [List.getElem?_append_right (by omega), fl, show sz n c + k - sz n c = k by omega]
            exact h)
          rw [Nat.add_assoc]
          exact this
    exact go p.2 lo (fun k l h => e k l (by
      have kl : k < ((p.2.map (flat n)).flatten).length := (List.getElem?_eq_some_iff.mp h).1
      rw [List.getElem?_append_left kl]
      exact h))
theorem nd_at {h : PH} {q : Nat} {Q : QT 27} (B : BM h q 27 Q) {k : Nat} (hk : k < sz 27 Q) : (∃ kd, (flat 27 Q).drop k = none :: (flat 27 Q).drop (k + 1) ∧ (flat 27 Q)[k]? = some none ∧ hI h 20 60 (400 * q + k) = nI kd ∧ 4 ≤ kd ∧ kd ≤ 6) ∨ ∃ l, (flat 27 Q).drop k = some l :: (flat 27 Q).drop (k + 1) ∧ (flat 27 Q)[k]? = some (some l) ∧ LfM3 h q k l ∧ okL3 l ∧ l ∈ lvs 27 Q := by
  have fl := flat_len 27 Q
  have hk2 : k < (flat 27 Q).length := by omega
  have nd := flat_M 27 Q 0 B.2.2.2.1 B.2.2.2.2 k _ (List.getElem?_eq_getElem hk2)
  rw [Nat.zero_add] at nd
  have dr := List.drop_eq_getElem_cons hk2
  have ge := List.getElem?_eq_getElem hk2
  cases e : (flat 27 Q)[k] with
  | none =>
    rw [e] at nd dr ge
    obtain ⟨kd, e1, e2, e3⟩ := nd
    exact Or.inl ⟨kd, dr, ge, e1, e2, e3⟩
  | some l =>
    rw [e] at nd dr ge
    have ml : l ∈ lvs 27 Q := by
      rw [← flat_lvs]
      exact List.mem_filterMap.mpr ⟨some l, e ▸ List.getElem_mem hk2, rfl⟩
    exact Or.inr ⟨l, dr, ge, nd, lvs_ok 27 Q B.2.2.2.2 l ml, ml⟩
theorem isOfWords_eq {h : PH} (m : MSh h) {q : Nat} {Q : QT 27} (hq : q < 8) (B : BM h q 27 Q) : fX12_isOfWords 45 (nI q) h = some (bI (allz (lvs 27 Q))) := by
  have s4 := B.2.2.1
  have cq : Int32.toNatClampNeg (nI q) = q := nI_clamp (by omega)
  have lp : ∀ f k : Nat, k + f = sz 27 Q → fX12_isOfWords_l2 45 (nI q) (nI k) h = some (bI (allz (((flat 27 Q).drop k).filterMap id))) := by
    intro f
    induction f with
    | zero =>
      intro k hk
      have hk : k = sz 27 Q := by omega
      subst hk
      rw [List.drop_eq_nil_of_le (by rw [flat_len]; exact Nat.le_refl _)]
      refine wh_done ?_
      show fX12_isOfWords_c2 45 (nI q) (nI (sz 27 Q)) h = _
      unfold fX12_isOfWords_c2
      rw [gd_t (k_45 m), r12_45_32 m, gs_t, gd_t ⟨k_67 m, by rw [n_67 m]; exact inbI hq (by decide)⟩]
      simp only [cq]
      rw [B.1, if_pos (Int32.le_refl _), mr_t]
      rfl
    | succ f ih =>
      intro k hk
      have hk1 : k < sz 27 Q := by omega
      have r := ih (k + 1) (by omega)
      have ck : Int32.toNatClampNeg (nI (400 * q + k)) = 400 * q + k := nI_clamp (by omega)
      have ik : hK h 60 = 20 ∧ inb (nI (400 * q + k)) (hN h 60) := ⟨k_60 m, by rw [n_60 m]; exact inbI (by omega) (by decide)⟩
      have st : fX12_isOfWords_c2 45 (nI q) (nI k) h = (if (4 : Int32) ≤ hI h 20 60 (400 * q + k) then some (.inl (nI (k + 1))) else if hI h 20 60 (400 * q + k) = 0 then some (.inl (nI (k + 1))) else some (.inr 0)) := by
        unfold fX12_isOfWords_c2 fX12_isOfWords_b45
        rw [gd_t (k_45 m), r12_45_32 m, gs_t, gd_t ⟨k_67 m, by rw [n_67 m]; exact inbI hq (by decide)⟩]
        simp only [cq]
        rw [B.1, if_neg (nI_ge hk1 (by omega)), r12_45_25 m, gs_t, i400, gd_t ik, gs_t, gd_t ik]
        simp only [ck]
        rw [nI_1, mr_t]
      rcases nd_at B hk1 with ⟨kd, e0, -, e1, e2, e3⟩ | ⟨l, e0, -, L, ok, -⟩
      · rw [e0]
        rw [e1, if_pos (show (4 : Int32) ≤ nI kd from nI_le (a := 4) e2 (by omega))] at st
        exact wh_step st r
      · rw [e0]
        have k3 : l.1 < 4 := ok.1
        rw [L.1.1, if_neg (show ¬ (4 : Int32) ≤ nI l.1 from nI_ge (b := 4) k3 (by decide)), ifp (show (nI l.1 = 0) = (l.1 = 0) from nIe (b := 0) (by omega) (by decide))] at st
        by_cases z : l.1 = 0
        · rw [if_pos z] at st
          refine (wh_step st r).trans ?_
          show _ = some (bI (allz (l :: ((flat 27 Q).drop (k + 1)).filterMap id)))
          unfold allz
          rw [List.all_cons, decide_eq_true z, Bool.true_and]
        · rw [if_neg z] at st
          refine (wh_done st).trans ?_
          show _ = some (bI (allz (l :: ((flat 27 Q).drop (k + 1)).filterMap id)))
          unfold allz
          rw [List.all_cons, decide_eq_false z, Bool.false_and]
          rfl
  unfold fX12_isOfWords
  have := lp (sz 27 Q) 0 (Nat.zero_add _)
  rw [List.drop_zero, flat_lvs] at this
  exact this
theorem BM.kn {h g : PH} {q : Nat} {Q : QT 27} (B : BM h q 27 Q) (o : onlyI isKn h g) : BM g q 27 Q := B.of (fun a k h1 h2 => o.1 20 a k (by
  have e : (a == 59) = false := by simp; omega
  unfold isKn
  rw [e]; rfl))
theorem takesWords_eq {h : PH} (m : MSh h) {q : Nat} {Q : QT 27} (hq : q < 8) (B : BM h q 27 Q) (az : allz (lvs 27 Q) = true) {ks : List Nat} (sk : SK ks) (K : KN ks h) (hl : ks.length ≤ 1000) : ∃ h', fX12_takesWords 45 (nI q) h = some h' ∧ KN (inW ks (lvs 27 Q)) h' ∧ onlyI isKn h h' := by
  have s4 := B.2.2.1
  have cq : Int32.toNatClampNeg (nI q) = q := nI_clamp (by omega)
  have lp : ∀ (f k : Nat) (ks : List Nat) (g : PH), k + f = sz 27 Q → onlyI isKn h g → SK ks → KN ks g → ks.length ≤ 1000 + k → ∃ h', fX12_takesWords_l2 45 (nI q) (nI k) g = some h' ∧ KN (inW ks (((flat 27 Q).drop k).filterMap id)) h' ∧ onlyI isKn h h' := by
    intro f
    induction f with
    | zero =>
      intro k ks g hk o sk K hl
      have hk : k = sz 27 Q := by omega
      subst hk
      have mg := m.oI o
      have Bg := B.kn o
      rw [List.drop_eq_nil_of_le (by rw [flat_len]; exact Nat.le_refl _)]
      refine ⟨g, wh_done ?_, K, o⟩
      show fX12_takesWords_c2 45 (nI q) (nI (sz 27 Q)) g = _
      unfold fX12_takesWords_c2
      rw [gd_t (k_45 mg), r12_45_32 mg, gs_t, gd_t ⟨k_67 mg, by rw [n_67 mg]; exact inbI hq (by decide)⟩]
      simp only [cq]
      rw [Bg.1, if_pos (Int32.le_refl _), mr_t]
    | succ f ih =>
      intro k ks g hk o sk K hl
      have hk1 : k < sz 27 Q := by omega
      have mg := m.oI o
      have Bg := B.kn o
      have ck : Int32.toNatClampNeg (nI (400 * q + k)) = 400 * q + k := nI_clamp (by omega)
      have ik : hK g 60 = 20 ∧ inb (nI (400 * q + k)) (hN g 60) := ⟨k_60 mg, by rw [n_60 mg]; exact inbI (by omega) (by decide)⟩
      have ik1 : hK g 61 = 20 ∧ inb (nI (400 * q + k)) (hN g 61) := ⟨k_61 mg, by rw [n_61 mg]; exact inbI (by omega) (by decide)⟩
      have st : fX12_takesWords_c2 45 (nI q) (nI k) g = (if ¬ hI g 20 60 (400 * q + k) = 0 then some (.inl (nI (k + 1), g)) else bd (fX12_takesKnown 45 (hI g 20 61 (400 * q + k)) g) (fun z16 => some (.inl (nI (k + 1), z16)))) := by
        unfold fX12_takesWords_c2 fX12_takesWords_b43
        rw [gd_t (k_45 mg), r12_45_32 mg, gs_t, gd_t ⟨k_67 mg, by rw [n_67 mg]; exact inbI hq (by decide)⟩]
        simp only [cq]
        rw [Bg.1, if_neg (nI_ge hk1 (by omega)), r12_45_25 mg, gs_t, i400, gd_t ik, r12_45_26 mg, gs_t, gd_t ik1]
        simp only [ck]
        rw [nI_1]
      rcases nd_at Bg hk1 with ⟨kd, e0, -, e1, e2, e3⟩ | ⟨l, e0, -, L, ok, ml⟩
      · rw [e0]
        rw [e1, if_pos (show ¬ nI kd = (0 : Int32) from fun y => by
          have := (nI_eq (b := 0) (by omega) (by decide)).mp y
          omega)] at st
        obtain ⟨h', r1, r2⟩ := ih (k + 1) ks g (by omega) o sk K (by omega)
        exact ⟨h', wh_step (t := (nI (k + 1), g)) st r1, r2⟩
      · rw [e0]
        have z : l.1 = 0 := of_decide_eq_true (List.all_eq_true.mp az l ml)
        have hw := okL.w0 ok
        obtain ⟨g1, a1, a2, a3⟩ := takesKnown_eq mg sk K (by omega) hw
        rw [L.1.1, z, if_neg (show ¬ ¬ nI 0 = (0 : Int32) from fun y => y rfl), L.1.2.1 (by omega), a1, bd_t] at st
        obtain ⟨h', r1, r2⟩ := ih (k + 1) (insW ks (l.2.1.getD 0 0)) g1 (by omega) (o.tr a3) (sk.ins hw) a2 (by have := insW_len ks (l.2.1.getD 0 0); omega)
        exact ⟨h', wh_step (t := (nI (k + 1), g1)) st r1, r2⟩
  unfold fX12_takesWords
  have := lp (sz 27 Q) 0 ks h (Nat.zero_add _) (onlyI.rf _ _) sk K (by omega)
  rw [List.drop_zero, flat_lvs] at this
  exact this
theorem placeOf_eq {h : PH} (m : MSh h) {ks : List Nat} (sk : SK ks) (K : KN ks h) (hl : ks.length ≤ 4000) {j : Nat} (hj : j < ks.length) : fX12_placeOf 45 (nI (ks.getD j 0)) h = some (nI j) := by
  unfold fX12_placeOf fX12_placeOf_l2
  have v31 : ∀ i, i < ks.length → ks.getD i 0 < 2 ^ 31 := fun i hi => vw31 (sk.2 _ (mem_getD hi))
  have i59 : ∀ i, i < ks.length → hK h 59 = 20 ∧ inb (nI i) (hN h 59) := fun i hi => ⟨k_59 m, by rw [n_59 m]; exact inbI (by omega) (by decide)⟩
  refine wh_out (fun i => nI i) j rfl (fun i hi => ?_) ?_
  · show fX12_placeOf_c2 45 (nI (ks.getD j 0)) (nI i) h = _
    have ne : ¬ nI (ks.getD i 0) = nI (ks.getD j 0) := fun y => by
      have e := (nI_eq (v31 i (by omega)) (v31 j hj)).mp y
      have a := pos_at sk (i := i) (by omega)
      have b := pos_at sk hj
      rw [e] at a
      omega
    unfold fX12_placeOf_c2
    rw [gd_t (k_45 m), r12_45_19 m, gs_t, gd_t (i59 i (by omega)), K.c hl (by omega), if_neg ne, nI_1]
  · show fX12_placeOf_c2 45 (nI (ks.getD j 0)) (nI j) h = _
    unfold fX12_placeOf_c2
    rw [gd_t (k_45 m), r12_45_19 m, gs_t, gd_t (i59 j hj), K.c hl hj, if_pos rfl, mr_t]
theorem holdsFor_eq {h : PH} (m : MSh h) {q : Nat} {Q : QT 27} (hq : q < 8) (B : BM h q 27 Q) (az : allz (lvs 27 Q) = true) {ks : List Nat} (sk : SK ks) (K : KN ks h) (h10 : ks.length ≤ 10) (mem : ∀ l ∈ lvs 27 Q, l.2.1.getD 0 0 ∈ ks) {s : Nat} (hs : s < 2 ^ ks.length) : ∃ h', fX12_holdsFor 45 (nI q) (nI s) h = some (bI (qmet (wpr ks (fun i => s.testBit i) ks.length) 27 Q), h') ∧ onlyI isHo h h' := by
  have s4 := B.2.2.1
  have s10 := pow10 h10 hs
  have cq : Int32.toNatClampNeg (nI q) = q := nI_clamp (by omega)
  have oB : ∀ {g : PH}, onlyI isHo h g → BM g q 27 Q := fun o => B.of (fun a k h1 h2 => o.1 20 a k (by unfold isHo; rfl))
  have oK : ∀ {g : PH}, onlyI isHo h g → KN ks g := fun o => ⟨(o.1 12 45 20 rfl).trans K.1, fun i hi => (o.1 20 59 i rfl).trans (K.2 i hi)⟩
  have lp : ∀ (f k : Nat) (g : PH), k + f = sz 27 Q → onlyI isHo h g → (∀ j l, j < k → (flat 27 Q)[j]? = some (some l) → hI g 21 77 j = bI (decide (0 < cntL3 (wpr ks (fun i => s.testBit i) ks.length) l))) → ∃ h', fX12_holdsFor_l2 45 (nI q) (nI s) (nI k) g = some (bI (qmet (wpr ks (fun i => s.testBit i) ks.length) 27 Q), h') ∧ onlyI isHo h h' := by
    intro f
    induction f with
    | zero =>
      intro k g hk o e
      have hk : k = sz 27 Q := by omega
      subst hk
      have mg := m.oI o
      have Bg := oB o
      obtain ⟨g', j1, j2⟩ := joined_eq m hq B o (LH_flat 27 Q 0 (fun j l hj => by
        rw [Nat.zero_add]
        have := (List.getElem?_eq_some_iff.mp hj).1
        rw [flat_len] at this
        exact e j l this hj))
      refine ⟨g', wh_done ?_, j2⟩
      show fX12_holdsFor_c2 45 (nI q) (nI s) (nI (sz 27 Q)) g = _
      unfold fX12_holdsFor_c2
      rw [gd_t (k_45 mg), r12_45_32 mg, gs_t, gd_t ⟨k_67 mg, by rw [n_67 mg]; exact inbI hq (by decide)⟩]
      simp only [cq]
      rw [Bg.1, if_pos (Int32.le_refl _), j1, bd_t, gd_t (bI_and _), mr_t]
    | succ f ih =>
      intro k g hk o e
      have hk1 : k < sz 27 Q := by omega
      have mg := m.oI o
      have Bg := oB o
      have Kg := oK o
      have ck : Int32.toNatClampNeg (nI (400 * q + k)) = 400 * q + k := nI_clamp (by omega)
      have ckk : Int32.toNatClampNeg (nI k) = k := nI_clamp (by omega)
      have ik : hK g 60 = 20 ∧ inb (nI (400 * q + k)) (hN g 60) := ⟨k_60 mg, by rw [n_60 mg]; exact inbI (by omega) (by decide)⟩
      have ik1 : hK g 61 = 20 ∧ inb (nI (400 * q + k)) (hN g 61) := ⟨k_61 mg, by rw [n_61 mg]; exact inbI (by omega) (by decide)⟩
      have b61 : ∀ (v : Int32) (b : Bool), v &&& 1 = bI b → fX12_holdsFor_b61 45 (nI q) (nI s) (nI k) (some 77) (nI k) v g = some (.inl (nI (k + 1), sI g 21 77 k (bI b))) := fun v b hv => by
        unfold fX12_holdsFor_b61 fX12_holdsFor_b62
        rw [gs_t, gd_t ⟨k_77 mg, by rw [n_77 mg]; exact inbI (by omega) (by decide)⟩, lt_t, ckk, hv, nI_1]
      have st : fX12_holdsFor_c2 45 (nI q) (nI s) (nI k) g = (if ¬ hI g 20 60 (400 * q + k) = 0 then some (.inl (nI (k + 1), g)) else bd (fX12_placeOf 45 (hI g 20 61 (400 * q + k)) g) (fun z18 =>
  if (¬ ((nI s >>> (z18 &&& 31)) &&& (1 : Int32)) = (1 : Int32)) then (fX12_holdsFor_b61 45 (nI q) (nI s) (nI k) (some 77) (nI k) (0 : Int32) g) else
  fX12_holdsFor_b61 45 (nI q) (nI s) (nI k) (some 77) (nI k) (1 : Int32) g)) := by
        unfold fX12_holdsFor_c2 fX12_holdsFor_b62
        rw [gd_t (k_45 mg), r12_45_32 mg, gs_t, gd_t ⟨k_67 mg, by rw [n_67 mg]; exact inbI hq (by decide)⟩]
        simp only [cq]
        rw [Bg.1, if_neg (nI_ge hk1 (by omega)), r12_45_25 mg, gs_t, i400, gd_t ik, r12_45_26 mg, gs_t, gd_t ik1]
        simp only [ck]
        rw [nI_1, r12_45_46 mg]
      rcases nd_at Bg hk1 with ⟨kd, e0, eg, e1, e2, e3⟩ | ⟨l, e0, eg, L, ok, ml⟩
      · rw [e1, if_pos (show ¬ nI kd = (0 : Int32) from fun y => by
          have := (nI_eq (b := 0) (by omega) (by decide)).mp y
          omega)] at st
        obtain ⟨h', r1, r2⟩ := ih (k + 1) g (by omega) o (fun j l hj hg => by
          by_cases d : j = k
          · rw [d, eg] at hg; cases hg
          · exact e j l (by omega) hg)
        exact ⟨h', wh_step (t := (nI (k + 1), g)) st r1, r2⟩
      · have z : l.1 = 0 := of_decide_eq_true (List.all_eq_true.mp az l ml)
        obtain ⟨j, hj, ej⟩ := mem_idx (mem l ml)
        have hv : decide (0 < cntL3 (wpr ks (fun i => s.testBit i) ks.length) l) = s.testBit j := by
          unfold cntL3
          rw [cntL_0 z]
          have hw := wpr_has sk (p := fun i => s.testBit i) hj
          rw [ej] at hw
          have : 0 < (wpr ks (fun i => s.testBit i) ks.length).countP (fun v => decide (v = l.2.1.getD 0 0)) ↔ s.testBit j = true := by
            rw [List.countP_pos_iff, ← hw]
            constructor
            · rintro ⟨a, ha, he⟩
              rw [← of_decide_eq_true he]; exact ha
            · intro h
              exact ⟨_, h, decide_eq_true rfl⟩
          cases y : s.testBit j with
          | true => exact decide_eq_true (this.mpr y)
          | false => exact decide_eq_false (fun t => by rw [this.mp t] at y; cases y)
        rw [L.1.1, z, if_neg (show ¬ ¬ nI 0 = (0 : Int32) from fun y => y rfl), L.1.2.1 (by omega), ← ej, placeOf_eq mg sk Kg (by omega) hj, bd_t, bitM s s10 j (by omega)] at st
        have stf : fX12_holdsFor_c2 45 (nI q) (nI s) (nI k) g = some (.inl (nI (k + 1), sI g 21 77 k (bI (s.testBit j)))) := by
          rw [st]
          cases s.testBit j with
          | false => rw [if_pos (show ¬ bI false = (1 : Int32) by decide)]; exact b61 0 false and1_0
          | true => rw [if_neg (show ¬ ¬ bI true = (1 : Int32) from fun y => y rfl)]; exact b61 1 true and1_1
        obtain ⟨h', r1, r2⟩ := ih (k + 1) (sI g 21 77 k (bI (s.testBit j))) (by omega) (o.tr (onlyI_sI _ _ (isHo77 k))) (fun i l' hi hg => by
          rw [hI_sI]
          by_cases d : i = k
          · rw [if_pos ⟨rfl, rfl, d⟩]
            rw [d, eg] at hg
            have hg : l = l' := Option.some.inj (Option.some.inj hg)
            rw [← hg, hv]
          · rw [if_neg (fun y => d y.2.2)]
            exact e i l' (by omega) hg)
        exact ⟨h', wh_step (t := (nI (k + 1), sI g 21 77 k (bI (s.testBit j)))) stf r1, r2⟩
  unfold fX12_holdsFor
  exact lp (sz 27 Q) 0 h (Nat.zero_add _) (onlyI.rf _ _) (fun j l hj => absurd hj (Nat.not_lt_zero _))
theorem bits_eq : ∀ (k s a : Nat), s < 2 ^ k → k ≤ 10 → fX12_bits_l4 (nI a) (nI s) = some (nI (a + pcn k s)) := by
  intro k
  induction k with
  | zero =>
    intro s a hs _
    have s0 : s = 0 := by omega
    subst s0
    refine wh_done ?_
    show fX12_bits_c4 (nI a) (nI 0) = _
    unfold fX12_bits_c4
    rw [if_pos (show nI 0 ≤ (0 : Int32) by decide), mr_t]
    rfl
  | succ k ih =>
    intro s a hs hk
    by_cases z : s = 0
    · subst z
      refine wh_done ?_
      show fX12_bits_c4 (nI a) (nI 0) = _
      have e : pcn (k + 1) 0 = 0 := cnt_none _ (fun i _ => Nat.zero_testBit i)
      unfold fX12_bits_c4
      rw [if_pos (show nI 0 ≤ (0 : Int32) by decide), mr_t, e]
      rfl
    · have s10 := pow10 hk hs
      have hs2 : s / 2 < 2 ^ k := by
        rw [Nat.pow_succ] at hs
        omega
      have e : pcn (k + 1) s = s % 2 + pcn k (s / 2) := by
        unfold pcn
        rw [show k + 1 = 1 + k by omega, cnt_add]
        have e1 : cnt (fun i => s.testBit i) 1 = s % 2 := by
          rw [cnt_s, cnt_0]
          show 0 + (if s.testBit 0 then 1 else 0) = _
          rw [Nat.testBit_zero]
          by_cases y : s % 2 = 1
          · rw [if_pos (decide_eq_true y)]; omega
          · rw [if_neg (by rw [decide_eq_false y]; decide)]; omega
        rw [e1]
        congr 1
        exact cnt_cong k (fun i _ => by
          show s.testBit (1 + i) = (s / 2).testBit i
          rw [Nat.testBit_div_two, Nat.add_comm])
      have r := ih (s / 2) (a + s % 2) hs2 (by omega)
      rw [Nat.add_assoc, ← e] at r
      refine wh_step (t := (nI (a + s % 2), nI (s / 2))) ?_ r
      show fX12_bits_c4 (nI a) (nI s) = _
      unfold fX12_bits_c4
      rw [if_neg (show ¬ nI s ≤ (0 : Int32) from show ¬ nI s ≤ nI 0 from nI_ge (by omega) (by omega)), (bitA s s10).1, nI_add, shr1 (by omega)]
