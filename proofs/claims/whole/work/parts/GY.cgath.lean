/-! THE CLASS GATHERS the words of queries -/
def CHc (ks : List Nat) (h : PH) : Prop := hI h 0 38 1 = nI ks.length ∧ ∀ i, i < ks.length → hI h 20 39 i = nI (ks.getD i 0)
def isCh (c a k : Nat) : Bool := (c == 0 && a == 38 && k == 1) || (c == 20 && a == 39)
theorem isCh39 (k : Nat) : isCh 20 39 k = true := rfl
theorem isCh_scr {c a k : Nat} (e : isCh c a k = true) : isScr c a k = true := by
  unfold isCh at e
  rw [Bool.or_eq_true, Bool.and_eq_true, Bool.and_eq_true, Bool.and_eq_true, beq_iff_eq, beq_iff_eq, beq_iff_eq, beq_iff_eq, beq_iff_eq] at e
  rcases e with ⟨⟨rfl, rfl⟩, rfl⟩ | ⟨rfl, rfl⟩
  · rfl
  · unfold isScr
    rfl
theorem ch_shift {h : PH} (c : CSh h) {ks : List Nat} (K : CHc ks h) (hl : ks.length < 10) {p : Nat} (hp : p ≤ ks.length) {w : Nat} : ∀ f k : Nat, ∀ g : PH, p + f = k → k ≤ ks.length → onlyI isCh h g → hI g 0 38 1 = nI ks.length → (∀ i, i ≤ ks.length → hI g 20 39 i = if i ≤ k then hI h 20 39 i else nI (ks.getD (i - 1) 0)) → ∃ h', fX0_addChoice_l71 38 (nI w) (nI p) (nI k) g = some (1, h') ∧ CHc (insAt ks p w) h' ∧ onlyI isCh h h' := by
  intro f
  induction f with
  | zero =>
    intro k g hk hkl og g1 g2
    have hk : k = p := by omega
    subst hk
    have cg := c.oI og
    have e : fX0_addChoice_l71 38 (nI w) (nI k) (nI k) g = some (1, sI (sI g 20 39 k (nI w)) 0 38 1 (hI (sI g 20 39 k (nI w)) 0 38 1 + 1)) := by
      unfold fX0_addChoice_l71
      refine wh_done ?_
      show fX0_addChoice_c71 38 (nI w) (nI k) (nI k) g = _
      unfold fX0_addChoice_c71
      rw [if_pos (nI_le (Nat.le_refl _) (by omega)), gd_t (k_38 cg), r0_38_0 cg, gs_t, gd_t ⟨k_39 cg, by rw [n_39 cg]; exact inbI (by omega) (by decide)⟩, lt_t, lt_t, nI_clamp (by omega), mr_t]
    refine ⟨_, e, ⟨?_, fun i hi => ?_⟩, og.tr ((onlyI_sI _ _ (isCh39 _)).tr (onlyI_sI _ _ rfl))⟩
    · rw [hI_sI, if_pos ⟨rfl, rfl, rfl⟩, hI_sI, if_neg (by simp), g1, nI_1, insAt_len hp]
    · rw [insAt_len hp] at hi
      rw [hI_sI, if_neg (by simp), hI_sI, insAt_getD hp]
      by_cases c : i = k
      · rw [if_pos ⟨rfl, rfl, c⟩, if_neg (by omega), if_pos c]
      · rw [if_neg (fun q => c q.2.2), g2 i (by omega)]
        by_cases d : i < k
        · rw [if_pos (by omega), if_pos d, K.2 i (by omega)]
        · rw [if_neg (by omega), if_neg d, if_neg c]
  | succ f ih =>
    intro k g hk hkl og g1 g2
    have cg := c.oI og
    have e : fX0_addChoice_c71 38 (nI w) (nI p) (nI k) g = some (.inl (nI (k - 1), sI g 20 39 k (hI g 20 39 (k - 1)))) := by
      unfold fX0_addChoice_c71
      rw [if_neg (nI_ge (by omega) (by omega)), gd_t (k_38 cg), r0_38_0 cg, gs_t, show (1 : Int32) = nI 1 from rfl, pk_sub (by omega), gd_t ⟨k_39 cg, by rw [n_39 cg]; exact inbI (by omega) (by decide)⟩, gd_t (by rw [n_39 cg]; exact inbI (by omega) (by decide)), lt_t, nI_clamp (by omega), nI_clamp (by omega)]
      obtain ⟨j, rfl⟩ : ∃ j, k = j + 1 := ⟨k - 1, by omega⟩
      show some (Sum.inl (nI (j + 1) + (-1), sI g 20 39 (j + 1) (hI g 20 39 (j + 1 - 1)))) = _
      rw [pk_m1]
      rfl
    obtain ⟨h', e1, e2, e3⟩ := ih (k - 1) (sI g 20 39 k (hI g 20 39 (k - 1))) (by omega) (by omega) (og.tr (onlyI_sI _ _ (isCh39 _))) (by rw [hI_sI, if_neg (by simp)]; exact g1) (fun i hi => by
      rw [hI_sI]
      by_cases c : i = k
      · rw [if_pos ⟨rfl, rfl, c⟩, g2 (k - 1) (by omega), if_pos (by omega), if_neg (by omega), K.2 (k - 1) (by omega), c]
      · rw [if_neg (fun q => c q.2.2), g2 i hi]
        by_cases d : i ≤ k - 1
        · rw [if_pos (by omega), if_pos d]
        · rw [if_neg (by omega), if_neg d])
    refine ⟨h', ?_, e2, e3⟩
    unfold fX0_addChoice_l71 at e1 ⊢
    exact wh_step (t := (nI (k - 1), sI g 20 39 k (hI g 20 39 (k - 1)))) e e1
/-- a word more, or no room for it -/
theorem addChoice_eq {h : PH} (c : CSh h) {ks : List Nat} (s : SK ks) (K : CHc ks h) (hl : ks.length ≤ 10) {w : Nat} (hw : vword w = true) : ∃ h', fX0_addChoice 38 (nI w) h = some (bI (decide (w ∈ ks ∨ ks.length < 10)), h') ∧ onlyI isCh h h' ∧ ((w ∈ ks ∨ ks.length < 10) → CHc (insW ks w) h') := by
  have w6 := vw2 hw
  have hp := pos_le ks (ord w)
  have hf := pos_has s (w := w)
  have i10 : ∀ i, i < ks.length → inb (nI i) (hN h 39) := fun i hi => by rw [n_39 c]; exact inbI (by omega) (by decide)
  -- the search
  have st : ∀ i, i < pos ks (ord w) → fX0_addChoice_c7 38 (nI w) (nI (ord w)) (nI i) h = some (.inl (nI (i + 1))) := fun i hi => by
    have hi' : i < ks.length := by omega
    have v := s.2 _ (mem_getD hi')
    have ol := ord_lt (vw2 v)
    have olw := ord_lt w6
    unfold fX0_addChoice_c7
    rw [gd_t (k_38 c), K.1, if_neg (nI_ge hi' (by omega)), r0_38_0 c, gs_t, gd_t ⟨k_39 c, i10 i hi'⟩, nI_clamp (by omega), K.2 i hi', orderOf_eq (vw2 v), bd_t, if_neg (nI_ge ((pos_iff s hi').mpr hi) (by omega)), nI_1]
  have en : fX0_addChoice_c7 38 (nI w) (nI (ord w)) (nI (pos ks (ord w))) h = mr (fX0_addChoice_b34 38 (nI w) (nI (pos ks (ord w))) h) := by
    unfold fX0_addChoice_c7
    by_cases z : pos ks (ord w) < ks.length
    · have v := s.2 _ (mem_getD z)
      have ol := ord_lt (vw2 v)
      have olw := ord_lt w6
      have np : ¬ ord (ks.getD (pos ks (ord w)) 0) < ord w := fun y => by
        have := (pos_iff s z).mp y
        omega
      rw [gd_t (k_38 c), K.1, if_neg (nI_ge z (by omega)), r0_38_0 c, gs_t, gd_t ⟨k_39 c, i10 _ z⟩, nI_clamp (by omega), K.2 _ z, orderOf_eq (vw2 v), bd_t, if_pos (nI_le (by omega) (by omega))]
    · rw [gd_t (k_38 c), K.1, if_pos (nI_le (by omega) (by omega))]
  have go : ∀ r, fX0_addChoice_b34 38 (nI w) (nI (pos ks (ord w))) h = some r → fX0_addChoice 38 (nI w) h = some r := fun r hr => by
    unfold fX0_addChoice fX0_addChoice_l7
    rw [orderOf_eq w6, bd_t]
    refine wh_out (fun j => nI j) (pos ks (ord w)) rfl (fun j hj => st j hj) ?_
    show fX0_addChoice_c7 38 (nI w) (nI (ord w)) (nI (pos ks (ord w))) h = _
    rw [en, hr, mr_t]
  -- it isn't there
  have b54 : ¬ w ∈ ks → ∃ h', fX0_addChoice_b54 38 (nI w) (nI (pos ks (ord w))) h = some (bI (decide (w ∈ ks ∨ ks.length < 10)), h') ∧ onlyI isCh h h' ∧ ((w ∈ ks ∨ ks.length < 10) → CHc (insW ks w) h') := fun nm => by
    unfold fX0_addChoice_b54
    rw [gd_t (k_38 c), K.1]
    by_cases z : ks.length < 10
    · obtain ⟨h', e1, e2, e3⟩ := ch_shift (w := w) c K z hp (ks.length - pos ks (ord w)) ks.length h (by omega) (Nat.le_refl _) (onlyI.rf _ _) K.1 (fun i hi => (if_pos hi).symm)
      refine ⟨h', ?_, e3, fun _ => ?_⟩
      · rw [if_pos (show nI ks.length < (10 : Int32) from show nI ks.length < nI 10 from nI_lt z (by decide)), e1, decide_eq_true (Or.inr z)]
        rfl
      · unfold insW
        rw [if_neg nm]
        exact e2
    · refine ⟨h, ?_, onlyI.rf _ _, fun y => absurd y (fun y => y.elim nm z)⟩
      rw [if_neg (show ¬ nI ks.length < (10 : Int32) from show ¬ nI ks.length < nI 10 by rw [nI_ltI (by omega) (by decide)]; exact z), decide_eq_false (fun y => y.elim nm z)]
      rfl
  by_cases m : w ∈ ks
  · obtain ⟨h1, h2⟩ := hf.mpr m
    refine ⟨h, go _ ?_, onlyI.rf _ _, fun _ => ?_⟩
    · unfold fX0_addChoice_b34
      rw [gd_t (k_38 c), K.1, if_neg (nI_ge h1 (by omega)), r0_38_0 c, gs_t, gd_t ⟨k_39 c, i10 _ h1⟩, nI_clamp (by omega), K.2 _ h1, h2, if_neg (fun y => y rfl), decide_eq_true (Or.inl m)]
      rfl
    · unfold insW
      rw [if_pos m]
      exact K
  · obtain ⟨h', e1, e2, e3⟩ := b54 m
    refine ⟨h', go _ ?_, e2, e3⟩
    unfold fX0_addChoice_b34
    by_cases z : pos ks (ord w) < ks.length
    · have ne : ¬ nI (ks.getD (pos ks (ord w)) 0) = nI w := fun y => by
        have v := s.2 _ (mem_getD z)
        have a := vw31 v
        have b := vw31 hw
        have := (nI_eq a b).mp y
        exact m (hf.mp ⟨z, this⟩)
      rw [gd_t (k_38 c), K.1, if_neg (nI_ge z (by omega)), r0_38_0 c, gs_t, gd_t ⟨k_39 c, i10 _ z⟩, nI_clamp (by omega), K.2 _ z, if_pos ne]
      exact e1
    · rw [gd_t (k_38 c), K.1, if_pos (nI_le (by omega) (by omega))]
      exact e1
theorem CHc.oI {F : Nat → Nat → Nat → Bool} {ks : List Nat} {h h' : PH} (K : CHc ks h) (o : onlyI F h h') (f1 : F 0 38 1 = false) (f2 : ∀ k, F 20 39 k = false) : CHc ks h' := ⟨(o.1 0 38 1 f1).trans K.1, fun i hi => (o.1 20 39 i (f2 i)).trans (K.2 i hi)⟩
/-- the words of a list of simple parts -/
theorem gather_w {h : PH} (c : CSh h) {D : Nat → Prop} (dD : ∀ x, D x → 89 ≤ x) {l e : Nat} {as : List Nat} {ls : List L3} (A : LA h l e as) (hl9 : 89 ≤ l) (L : LfsD h D as ls) (ok : ∀ x ∈ ls, okL3 x) (hl : ls.length ≤ 400) {ks : List Nat} (s : SK ks) (K : CHc ks h) (h10 : ks.length ≤ 10) : ∃ b h', fX0_gatherWords 38 (some l) h = some (bI b, h') ∧ onlyI isCh h h' ∧ b = (gaW ks ls).isSome ∧ ∀ ks', gaW ks ls = some ks' → CHc ks' h' ∧ SK ks' ∧ ks'.length ≤ 10 := by
  have la := L.len
  have ic : ∀ x, 89 ≤ x → ∀ c k, isCh c x k = false := fun x hx c k => by
    have e : ∀ m, m < 89 → (x == m) = false := fun m hm => by simp; omega
    simp [isCh, e]
  have lp : ∀ (f i : Nat) (ks : List Nat) (g : PH), i + f = ls.length → onlyI isCh h g → SK ks → CHc ks g → ks.length ≤ 10 → ∃ b h', fX0_gatherWords_l2 38 (some l) (nI i) g = some (bI b, h') ∧ onlyI isCh h h' ∧ b = (gaW ks (ls.drop i)).isSome ∧ ∀ ks', gaW ks (ls.drop i) = some ks' → CHc ks' h' ∧ SK ks' ∧ ks'.length ≤ 10 := by
    intro f
    induction f with
    | zero =>
      intro i ks g hi og s K h10
      have hi : i = ls.length := by omega
      subst hi
      have k14 : hK g l = 14 := by rw [og.2.2.2.1]; exact A.1
      have k2 : hI g 14 l 2 = nI as.length := (og.1 14 l 2 (ic l hl9 _ _)).trans A.2.1
      rw [List.drop_eq_nil_of_le (Nat.le_refl _)]
      refine ⟨true, g, wh_done ?_, og, rfl, fun ks' e => ?_⟩
      · show fX0_gatherWords_c2 38 (some l) (nI ls.length) g = _
        unfold fX0_gatherWords_c2
        rw [gs_t, gd_t k14, list_size k14 k2, bd_t, if_pos (nI_le (by omega) (by omega)), mr_t]
        rfl
      · have e : some ks = some ks' := e
        rw [← Option.some.inj e]
        exact ⟨K, s, h10⟩
    | succ f ih =>
      intro i ks g hi og s K h10
      have hlt : i < ls.length := by omega
      have cg := c.oI og
      have k14 : hK g l = 14 := by rw [og.2.2.2.1]; exact A.1
      have k2 : hI g 14 l 2 = nI as.length := (og.1 14 l 2 (ic l hl9 _ _)).trans A.2.1
      obtain ⟨x, hx⟩ : ∃ x, ls[i]? = some x := ⟨ls[i], List.getElem?_eq_getElem hlt⟩
      have Lx := L.nth i x hx
      have mx : x ∈ ls := List.mem_of_getElem? hx
      have okx := ok x mx
      have dr : ls.drop i = x :: ls.drop (i + 1) := by
        rw [List.drop_eq_getElem_cons hlt]
        congr 1
        rw [List.getElem?_eq_getElem hlt] at hx
        exact Option.some.inj hx
      have Lg : LfD g D (as.getD i 0) x := LfD.mono Lx (fun y dy => ⟨dy, fun c' k => og.1 c' y k (ic y (dD y dy) _ _), fun c' k => by rw [og.2.1], by rw [og.2.2.2.1], by rw [og.2.2.2.2.1]⟩)
      have Lc := Lg.c
      have kx : hK g (as.getD i 0) = 4 := by obtain ⟨b, c', h1, -⟩ := Lc; exact h1
      have k0 : hI g 4 (as.getD i 0) 0 = nI x.1 := by obtain ⟨b, c', -, h2, -⟩ := Lc; exact h2
      have gt := list_get k14 k2 (by rw [og.2.1]; exact A.2.2.1) (by rw [og.2.2.2.1]; exact A.2.2.2.1) (by rw [og.2.2.2.2.1]; exact A.2.2.2.2.1) (by omega) (show i < as.length by omega) (show hR g 28 e i = some (as.getD i 0) by rw [og.2.1]; exact A.2.2.2.2.2.1 i (by omega))
      have k3 : x.1 < 4 := okx.1
      have e0 : (nI x.1 = 0) = (x.1 = 0) := nIe (b := 0) (by omega) (by decide)
      have lw := (okL.len okx)
      have head : fX0_gatherWords_c2 38 (some l) (nI i) g = (if ¬ x.1 = 0 then mr (fX0_gatherWords_b38 g) else bd (fX0_addChoice 38 (nI (x.2.1.getD 0 0)) g) (fun z15 => if (¬ z15.1 = 0) then (some (.inl ((nI i + 1), z15.2))) else mr (fX0_gatherWords_b38 z15.2))) := by
        unfold fX0_gatherWords_c2
        rw [gs_t, gd_t k14, list_size k14 k2, bd_t, if_neg (nI_ge (show i < as.length by omega) (by omega)), gt, bd_t, gs_t, gd_t kx, k0, ifn e0]
        by_cases z : x.1 = 0
        · rw [if_neg (fun y => y z), if_neg (fun y => y z), show fX4_soughtAt (as.getD i 0) (0 : Int32) g = _ from sought_eq Lc (show x.2.1.length ≤ 20 from lw.2) (i := 0) lw.1, bd_t, gd_t (k_38 cg)]
        · rw [if_pos z, if_pos z]
      rw [dr]
      by_cases z : x.1 = 0
      · rw [if_neg (fun y => y z)] at head
        obtain ⟨g1, a1, a2, a3⟩ := addChoice_eq cg s K h10 (w := x.2.1.getD 0 0) (okL.w0 okx)
        rw [a1, bd_t] at head
        by_cases y : x.2.1.getD 0 0 ∈ ks ∨ ks.length < 10
        · have ga : gaW ks (x :: ls.drop (i + 1)) = gaW (insW ks (x.2.1.getD 0 0)) (ls.drop (i + 1)) := by
            show (if x.1 = 0 then _ else _) = _
            rw [if_pos z, if_pos y]
          rw [decide_eq_true y, if_pos (show ¬ bI true = 0 by decide), nI_1] at head
          obtain ⟨b, h', r1, r2, r3, r4⟩ := ih (i + 1) (insW ks (x.2.1.getD 0 0)) g1 (by omega) (og.tr a2) (s.ins (okL.w0 okx)) (a3 y) (by
            by_cases m : x.2.1.getD 0 0 ∈ ks
            · unfold insW
              rw [if_pos m]; exact h10
            · rw [insW_new m]
              have := y.resolve_left m
              omega)
          rw [ga]
          exact ⟨b, h', wh_step (t := (nI (i + 1), g1)) head r1, r2, r3, r4⟩
        · have ga : gaW ks (x :: ls.drop (i + 1)) = none := by
            show (if x.1 = 0 then _ else _) = _
            rw [if_pos z, if_neg y]
          rw [decide_eq_false y, if_neg (show ¬ ¬ bI false = 0 from fun t => t rfl)] at head
          rw [ga]
          refine ⟨false, g1, wh_done ?_, og.tr a2, rfl, fun ks' e => by cases e⟩
          refine head.trans ?_
          unfold fX0_gatherWords_b38
          rw [mr_t]
          rfl
      · have ga : gaW ks (x :: ls.drop (i + 1)) = none := by
          show (if x.1 = 0 then _ else _) = _
          rw [if_neg z]
        rw [if_pos z] at head
        rw [ga]
        refine ⟨false, g, wh_done ?_, og, rfl, fun ks' e => by cases e⟩
        refine head.trans ?_
        unfold fX0_gatherWords_b38
        rw [mr_t]
        rfl
  unfold fX0_gatherWords
  exact lp ls.length 0 ks h (Nat.zero_add _) (onlyI.rf _ _) s K h10
