/-! LISTS OF REFERENCES: java.util.ArrayList -/
/-- the list l, its row e, holds xs -/
def LA (h : PH) (l e : Nat) (xs : List Nat) : Prop := hK h l = 14 ∧ hI h 14 l 2 = nI xs.length ∧ hR h 14 l 1 = some e ∧ hK h e = 28 ∧ xs.length ≤ hN h e ∧ (∀ i, i < xs.length → hR h 28 e i = some (xs.getD i 0)) ∧ (hN h e = 0 → e = 3) ∧ (∀ x, x ∈ xs → hK h x < 15) ∧ hN h e ≤ 100000 ∧ l < hX h ∧ e < hX h ∧ ∀ x, x ∈ xs → x < hX h
theorem LA.chg {F G : Nat → Nat → Nat → Prop} {L : Nat → Prop} {h h' : PH} {l e : Nat} {xs : List Nat} (A : LA h l e xs) (x : chg F G L h h') (f2 : ¬ F 14 l 2) (g1 : ¬ G 14 l 1) (ge : ∀ k, ¬ G 28 e k) : LA h' l e xs := by
  obtain ⟨k1, k2, k3, k4, k5, k6, k7, k8, k9, k10, k11, k12⟩ := A
  have he := x.2.2.2.2 e k11
  exact ⟨(x.2.2.2.2 l k10).1.trans k1, (x.2.1 14 l 2 k10 f2).trans k2, (x.2.2.1 14 l 1 k10 g1).trans k3, he.1.trans k4, by rw [he.2]; exact k5, fun i hi => (x.2.2.1 28 e i k11 (ge i)).trans (k6 i hi), by rw [he.2]; exact k7, fun y hy => by rw [(x.2.2.2.2 y (k12 y hy)).1]; exact k8 y hy, by rw [he.2]; exact k9, Nat.lt_of_lt_of_le k10 x.1, Nat.lt_of_lt_of_le k11 x.1, fun y hy => Nat.lt_of_lt_of_le (k12 y hy) x.1⟩
/-- what a full list's room becomes -/
def capU (c : Nat) : Nat := if c = 0 then 10 else c + max 1 (c / 2)
theorem shr1 {c : Nat} (h : c < 2 ^ 31) : nI c >>> ((1 : Int32) &&& 31) = nI (c / 2) := by
  apply Int32.toInt_inj.mp
  have e1 : (nI c >>> ((1 : Int32) &&& 31)).toBitVec = (nI c).toBitVec.sshiftRight 1 := rfl
  show (nI c >>> ((1 : Int32) &&& 31)).toBitVec.toInt = _
  rw [e1, BitVec.toInt_sshiftRight, show (nI c).toBitVec.toInt = (nI c).toInt from rfl, nI_toInt h, nI_toInt (by omega), Int.shiftRight_eq_div_pow]
  omega
theorem newLen {c : Nat} (h : c ≤ 100000) : fJ8_newLength_cabcc (nI c) (nI (c + 1) - nI c) (nI c >>> ((1 : Int32) &&& 31)) = some (nI (c + max 1 (c / 2))) := by
  have hm : max 1 (c / 2) ≤ 100000 := by omega
  have e : (if nI 1 < nI (c / 2) then nI (c / 2) else nI 1) = nI (max 1 (c / 2)) := by
    rw [ifp (propext (nI_ltI (by decide) (by omega)))]
    by_cases z : 1 < c / 2
    · rw [if_pos z, Nat.max_eq_right (by omega)]
    · rw [if_neg z, Nat.max_eq_left (by omega)]
  unfold fJ8_newLength_cabcc
  rw [shr1 (by omega), pk_sub (by omega), show c + 1 - c = 1 by omega, e, nI_add, if_neg (show ¬ nI (c + max 1 (c / 2)) ≤ (0 : Int32) from show ¬ nI (c + max 1 (c / 2)) ≤ nI 0 by rw [nI_leI (by omega) (by decide)]; omega), if_neg (show ¬ (2147483639 : Int32) < nI (c + max 1 (c / 2)) from show ¬ nI 2147483639 < nI (c + max 1 (c / 2)) by rw [nI_ltI (by decide) (by omega)]; omega)]
theorem okrs_t {h : PH} {e : Nat} {sp n : Int32} (ok : ∀ i, i < n.toNatClampNeg → ∀ x, hR h 28 e (sp.toNatClampNeg + i) = some x → hK h x < 15) : okrs h e sp n = true := by
  unfold okrs
  rw [List.all_eq_true]
  intro i hi
  rw [List.mem_range] at hi
  unfold okr
  cases z : hR h 28 e (sp.toNatClampNeg + i) with
  | none => rfl
  | some x => exact decide_eq_true (ok i hi x z)
theorem copyOf_eq {h : PH} {e cap : Nat} {xs : List Nat} (k4 : hK h e = 28) (k11 : e < hX h) (hf : xs.length = hN h e) (k6 : ∀ i, i < xs.length → hR h 28 e i = some (xs.getD i 0)) (k8 : ∀ x, x ∈ xs → hK h x < 15) (k12 : ∀ x, x ∈ xs → x < hX h) (z : hN h e ≠ 0) (hc : hN h e ≤ cap) (hcap : cap ≤ 1000000) : ∃ v, fJ7_copyOf_1904c (some e) (nI cap) h = some (some (hX h), sRa (hnew h 28 cap) 28 (hX h) v) ∧ ∀ i, i < xs.length → v i = some (xs.getD i 0) := by
  have ne : e ≠ hX h := Nat.ne_of_lt k11
  have n10 : Int32.toNatClampNeg (nI cap) = cap := nI_clamp (by omega)
  have ke : hK (hnew h 28 cap) e = 28 := by rw [hK_new, if_neg ne]; exact k4
  have kN : hN (hnew h 28 cap) e = hN h e := by rw [hN_new, if_neg ne]
  have kt : hK (hnew h 28 cap) (hX h) = 28 := by rw [hK_new, if_pos rfl]
  have kTn : hN (hnew h 28 cap) (hX h) = cap := by rw [hN_new, if_pos rfl]
  have kR : ∀ i, hR (hnew h 28 cap) 28 e i = hR h 28 e i := fun i => by rw [hR_new, if_neg ne]
  have hmin : (if nI cap < nI (hN (hnew h 28 cap) e) then nI cap else nI (hN (hnew h 28 cap) e)) = nI (hN h e) := by
    rw [kN]
    exact if_neg (by rw [nI_ltI (by omega) (by omega)]; omega)
  have cn : Int32.toNatClampNeg (nI (hN h e)) = hN h e := nI_clamp (by omega)
  have c0 : Int32.toNatClampNeg (0 : Int32) = 0 := rfl
  have g1 : (cpyok (hnew h 28 cap) 28 e (hX h) 0 0 (nI (hN h e)) ∧ hN (hnew h 28 cap) (hX h) ≠ 0 ∧ hN (hnew h 28 cap) e ≠ 0) ∧ okrs (hnew h 28 cap) e 0 (nI (hN h e)) = true := by
    refine ⟨⟨⟨ke, kt, by decide, by decide, nI_pos (by omega), by rw [cn, kN, c0]; omega, by rw [cn, kTn, c0]; omega⟩, by rw [kTn]; omega, by rw [kN]; exact z⟩, okrs_t (fun i hi x hx => ?_)⟩
    rw [cn] at hi
    rw [c0, Nat.zero_add, kR, k6 i (by omega)] at hx
    have hx : xs.getD i 0 = x := Option.some.inj hx
    subst hx
    have hm := mem_getD (ws := xs) (i := i) (by omega)
    rw [hK_new, if_neg (Nat.ne_of_lt (k12 _ hm))]
    exact k8 _ hm
  refine ⟨va_cpy (hR (hnew h 28 cap) 28 e) (hR (hnew h 28 cap) 28 (hX h)) (Int32.toNatClampNeg 0) (Int32.toNatClampNeg 0) (Int32.toNatClampNeg (nI (hN h e))), ?_, fun i hi => ?_⟩
  · unfold fJ7_copyOf_1904c fJ7_copyOf_1904c_b0 fJ7_copyOf_1904c_b9 fJ7_copyOf_6403c fJ7_copyOf_6403c_b0 fJ7_copyOf_6403c_b10
    rw [gs_t, gd_t ⟨k4, z⟩, gd_t (show acg (some 7) (some 7) = true by decide), if_neg (fun y => y rfl), gd_t ⟨nI_pos (by omega), by rw [n10]; exact hcap⟩, n10, gs_t, gd_t ke, hmin, gd_t g1, lt_t, bd_t]
  · rw [cn, c0, pk_cpy_in (Nat.zero_le _) (by omega), Nat.zero_add, Nat.sub_zero, kR, k6 i hi]
/-- what has grown -/
theorem grow_eq {h : PH} {l e : Nat} {xs : List Nat} (A : LA h l e xs) (hf : xs.length = hN h e) (hl : xs.length ≤ 5000) : ∃ h', fJx4a65c_grow_d5877 l h = some (some (hX h), h') ∧ LA h' l (hX h) xs ∧ hN h' (hX h) = capU (hN h e) ∧ chg (fun _ _ _ => False) (fun c a k => c = 14 ∧ a = l ∧ k = 1) (fun _ => False) h h' ∧ hX h' = hX h + 1 ∧ hV h' = hV h + capU (hN h e) ∧ hI h' 14 l = hI h 14 l := by
  obtain ⟨k1, k2, k3, k4, k5, k6, k7, k8, k9, k10, k11, k12⟩ := A
  have ne : e ≠ hX h := Nat.ne_of_lt k11
  have nl' : l ≠ hX h := Nat.ne_of_lt k10
  unfold fJx4a65c_grow_d5877 fJx4a65c_grow_d5877_b0 fJx4a65c_grow_d5877_b10 fJx4a65c_grow_92f84 fJx4a65c_grow_92f84_b0
  rw [gd_t k1, gd_t k1, k2, k3, gs_t, gd_t k4, nI_1]
  by_cases z : hN h e = 0
  · have he := k7 z
    have hx0 : xs = [] := List.length_eq_zero_iff.mp (by omega)
    subst hx0
    rw [z, if_neg (by decide), he, gd_t (show acg (some 3) (some 3) = true by decide), if_pos rfl]
    have e10 : (if (10 : Int32) < nI (([] : List Nat).length + 1) then nI (([] : List Nat).length + 1) else (10 : Int32)) = nI 10 := by decide
    have n10 : Int32.toNatClampNeg (nI 10) = 10 := by decide
    rw [e10, n10, gd_t (by decide)]
    unfold fJx4a65c_grow_92f84_b55
    have kl : hK (hnew h 28 10) l = 14 := by rw [hK_new, if_neg nl']; exact k1
    rw [gd_t kl, lt_t, bd_t]
    refine ⟨_, rfl, ⟨kl, ?_, ?_, ?_, Nat.zero_le _, fun i hi => absurd hi (Nat.not_lt_zero _), fun y => ?_, fun x hx => (List.not_mem_nil hx).elim, ?_, ?_, ?_, fun x hx => (List.not_mem_nil hx).elim⟩, ?_, ((chg.rf _ _ _ h).aN 28 10).aR (some (hX h)) (fun _ => ⟨rfl, rfl, rfl⟩), rfl, rfl, ?_⟩
    · rw [hI_sR, hI_new, if_neg nl']; exact k2
    · rw [hR_sR, if_pos ⟨rfl, rfl, rfl⟩]
    · rw [hK_sR, hK_new, if_pos rfl]
    · rw [hN_sR, hN_new, if_pos rfl] at y; cases y
    · rw [hN_sR, hN_new, if_pos rfl]; decide
    · exact Nat.lt_succ_of_lt k10
    · exact Nat.lt_succ_self _
    · rw [hN_sR, hN_new, if_pos rfl]; rfl
    · funext k
      rw [hI_sR, hI_new, if_neg nl']
  · have hp : 0 < hN h e := Nat.pos_of_ne_zero z
    have hc : hN h e ≤ 5000 := by omega
    have hcu : capU (hN h e) = hN h e + max 1 (hN h e / 2) := if_neg z
    have hmx : max 1 (hN h e / 2) ≤ 2500 := by omega
    obtain ⟨v, cv, hv⟩ := copyOf_eq k4 k11 hf k6 k8 k12 z (show hN h e ≤ capU (hN h e) by omega) (by omega)
    have kl : hK (sRa (hnew h 28 (capU (hN h e))) 28 (hX h) v) l = 14 := by rw [hK_sRa, hK_new, if_neg nl']; exact k1
    rw [if_pos (show (0 : Int32) < nI (hN h e) from show nI 0 < nI (hN h e) from nI_lt hp (by omega))]
    unfold fJx4a65c_grow_92f84_b20
    rw [hf, newLen (by omega), bd_t, gd_t k1, k3, ← hcu, cv, bd_t]
    unfold fJx4a65c_grow_92f84_b40
    rw [gd_t kl, lt_t, bd_t]
    have no : ∀ {q : Prop}, hX h < hX h → q := fun y => absurd y (Nat.lt_irrefl _)
    refine ⟨_, rfl, ⟨kl, ?_, ?_, ?_, ?_, ?_, ?_, ?_, ?_, ?_, ?_, ?_⟩, ?_, (((chg.rf _ _ _ h).aN 28 (capU (hN h e))).aRa v (fun _ => no)).aR (some (hX h)) (fun _ => ⟨rfl, rfl, rfl⟩), rfl, rfl, ?_⟩
    · rw [hI_sR, hI_sRa, hI_new, if_neg nl']; exact k2
    · rw [hR_sR, if_pos ⟨rfl, rfl, rfl⟩]
    · rw [hK_sR, hK_sRa, hK_new, if_pos rfl]
    · rw [hN_sR, hN_sRa, hN_new, if_pos rfl]; omega
    · intro i hi
      rw [hR_sR, if_neg (by simp), hR_sRa, if_pos ⟨rfl, rfl⟩]
      exact hv i hi
    · intro y
      rw [hN_sR, hN_sRa, hN_new, if_pos rfl] at y
      omega
    · intro x hx
      rw [hK_sR, hK_sRa, hK_new, if_neg (Nat.ne_of_lt (k12 x hx))]
      exact k8 x hx
    · rw [hN_sR, hN_sRa, hN_new, if_pos rfl]; omega
    · exact Nat.lt_succ_of_lt k10
    · exact Nat.lt_succ_self _
    · intro x hx
      exact Nat.lt_succ_of_lt (k12 x hx)
    · rw [hN_sR, hN_sRa, hN_new, if_pos rfl]
    · funext k
      rw [hI_sR, hI_sRa, hI_new, if_neg nl']
/-! what a list of references and its row change -/
def lF (l : Nat) (c a k : Nat) : Prop := c = 14 ∧ a = l ∧ (k = 0 ∨ k = 2)
def lG (l e : Nat) (c a k : Nat) : Prop := c = 14 ∧ a = l ∧ k = 1 ∨ c = 28 ∧ a = e
def lL (_ : Nat) : Prop := False
/-- the book of a list's room -/
def GR (h h' : PH) (e e' n : Nat) : Prop := hX h' ≤ hX h + 1 ∧ hN h e ≤ hN h' e' ∧ hV h' + 4 * hN h e ≤ hV h + 4 * hN h' e' ∧ (hN h' e' = hN h e ∨ 2 * hN h' e' ≤ 3 * n + 20) ∧ (e' = e ∨ e' = hX h)
theorem LA.mod {h : PH} {l e : Nat} {xs : List Nat} (A : LA h l e xs) (v : Int32) : LA (sI h 14 l 0 v) l e xs := A.chg (F := fun c a k => c = 14 ∧ a = l ∧ k = 0) (G := fun _ _ _ => False) (L := fun _ => False) (chg_sI h v (fun _ => ⟨rfl, rfl, rfl⟩)) (fun z => by have := z.2.2; omega) (fun z => z) (fun _ z => z)
theorem capU_b (c : Nat) : c ≤ capU c ∧ capU c + 4 * c ≤ 4 * capU c ∧ 2 * capU c ≤ 3 * c + 20 ∧ c < capU c := by
  unfold capU
  by_cases z : c = 0
  · subst z; decide
  · rw [if_neg z]; omega
/-- room for one more -/
theorem room_eq {h : PH} {l e : Nat} {xs : List Nat} (A : LA h l e xs) (hl : xs.length ≤ 5000) : xs.length < hN h e ∨ xs.length = hN h e ∧ ∃ h', fJx4a65c_grow_d5877 l h = some (some (hX h), h') ∧ LA h' l (hX h) xs ∧ chg (lF l) (lG l e) lL h h' ∧ GR h h' e (hX h) xs.length ∧ xs.length < hN h' (hX h) ∧ hX h < hX h' := by
  have h5 := A.2.2.2.2.1
  rcases Nat.lt_or_ge xs.length (hN h e) with z | z
  · exact Or.inl z
  · have hf : xs.length = hN h e := by omega
    obtain ⟨h', g1, g2, g3, g4, g5, g6, g7⟩ := grow_eq A hf hl
    have b := capU_b (hN h e)
    refine Or.inr ⟨hf, h', g1, g2, g4.mono (fun _ _ _ _ y => y.elim) (fun c a k _ y => Or.inl y) (fun _ _ y => y), ⟨by omega, by rw [g3]; omega, by rw [g3, g6]; omega, Or.inr (by rw [g3]; omega), Or.inr rfl⟩, by rw [g3]; omega, by omega⟩
theorem app_getD {xs : List Nat} {x i : Nat} (hi : i < xs.length + 1) : (xs ++ [x]).getD i 0 = if i = xs.length then x else xs.getD i 0 := by
  rw [List.getD_eq_getElem?_getD, List.getD_eq_getElem?_getD, List.getElem?_append]
  by_cases z : i = xs.length
  · subst z; simp
  · rw [if_neg z, if_pos (by omega)]
/-- one more at the end -/
theorem push_eq {h : PH} {l e : Nat} {xs : List Nat} (A : LA h l e xs) (hl : xs.length ≤ 5000) (hr : xs.length < hN h e) {x : Nat} (hx : hK h x < 15) (hx2 : x < hX h) : ∃ h', fJx4a65c_add_72be8_b11 l (some x) (some e) (nI xs.length) h = some h' ∧ LA h' l e (xs ++ [x]) ∧ chg (lF l) (lG l e) lL h h' ∧ hX h' = hX h ∧ hV h' = hV h ∧ hN h' = hN h := by
  have cl : Int32.toNatClampNeg (nI xs.length) = xs.length := nI_clamp (by omega)
  obtain ⟨k1, k2, k3, k4, k5, k6, k7, k8, k9, k10, k11, k12⟩ := A
  have kl : hK (sR h 28 e (Int32.toNatClampNeg (nI xs.length)) (some x)) l = 14 := k1
  unfold fJx4a65c_add_72be8_b11
  rw [gs_t, gd_t ⟨k4, inbI hr (by omega)⟩, gd_t (show okr h (some x) = true from decide_eq_true hx), lt_t, gd_t kl, lt_t, nI_1, cl]
  refine ⟨_, rfl, ⟨kl, ?_, ?_, k4, ?_, ?_, ?_, ?_, k9, k10, k11, ?_⟩, (chg_sR h _ (fun _ => Or.inr ⟨rfl, rfl⟩)).aI _ (fun _ => ⟨rfl, rfl, Or.inr rfl⟩), rfl, rfl, rfl⟩
  · rw [hI_sI, if_pos ⟨rfl, rfl, rfl⟩, List.length_append]; rfl
  · rw [hR_sI, hR_sR, if_neg (by simp)]; exact k3
  · rw [List.length_append]; exact hr
  · intro i hi
    rw [List.length_append] at hi
    have hi : i < xs.length + 1 := hi
    rw [hR_sI, hR_sR, app_getD hi]
    by_cases z : i = xs.length
    · rw [if_pos ⟨rfl, rfl, z⟩, if_pos z]
    · rw [if_neg (fun y => z y.2.2), if_neg z]
      exact k6 i (by omega)
  · intro z
    exact k7 z
  · intro y hy
    rcases List.mem_append.mp hy with z | z
    · exact k8 y z
    · rw [List.mem_singleton.mp z]; exact hx
  · intro y hy
    rcases List.mem_append.mp hy with z | z
    · exact k12 y z
    · rw [List.mem_singleton.mp z]; exact hx2
theorem lG.to {l e e' : Nat} {h h' : PH} (x : e' = e ∨ e' = hX h) : ∀ c a k, a < hX h → lG l e' c a k → lG l e c a k := fun c a k ha y => by
  rcases y with y | ⟨y1, y2⟩
  · exact Or.inl y
  · rcases x with x | x
    · exact Or.inr ⟨y1, y2.trans x⟩
    · rw [y2, x] at ha; exact absurd ha (Nat.lt_irrefl _)
theorem chg.lt {l e e' : Nat} {h h1 h2 : PH} (x : chg (lF l) (lG l e) lL h h1) (y : chg (lF l) (lG l e') lL h1 h2) (z : e' = e ∨ e' = hX h) : chg (lF l) (lG l e) lL h h2 := by
  refine ⟨Nat.le_trans x.1 y.1, fun c a k ha hf => (y.2.1 c a k (Nat.lt_of_lt_of_le ha x.1) hf).trans (x.2.1 c a k ha hf), fun c a k ha hf => (y.2.2.1 c a k (Nat.lt_of_lt_of_le ha x.1) (fun q => hf (lG.to (h' := h) z c a k ha q))).trans (x.2.2.1 c a k ha hf), fun c a k ha hf => (y.2.2.2.1 c a k (Nat.lt_of_lt_of_le ha x.1) hf).trans (x.2.2.2.1 c a k ha hf), fun a ha => ⟨(y.2.2.2.2 a (Nat.lt_of_lt_of_le ha x.1)).1.trans (x.2.2.2.2 a ha).1, (y.2.2.2.2 a (Nat.lt_of_lt_of_le ha x.1)).2.trans (x.2.2.2.2 a ha).2⟩⟩
theorem listAdd_eq {h : PH} {l e : Nat} {xs : List Nat} (A : LA h l e xs) (hl : xs.length ≤ 5000) {x : Nat} (hx : hK h x < 15) (hx2 : x < hX h) : ∃ e' h', fJx4a65c_add_9ea2d l (some x) h = some (1, h') ∧ LA h' l e' (xs ++ [x]) ∧ chg (lF l) (lG l e) lL h h' ∧ GR h h' e e' xs.length := by
  have A0 := A.mod (hI h 14 l 0 + 1)
  have c0 : chg (lF l) (lG l e) lL h (sI h 14 l 0 (hI h 14 l 0 + 1)) := chg_sI h _ (fun _ => ⟨rfl, rfl, Or.inl rfl⟩)
  unfold fJx4a65c_add_9ea2d fJx4a65c_add_9ea2d_b0 fJx4a65c_add_72be8 fJx4a65c_add_72be8_b0 fJx4a65c_add_72be8_b10
  rw [gd_t A.1, lt_t, A0.2.2.1, A0.2.1, gs_t, gd_t A0.2.2.2.1]
  rcases room_eq A0 hl with z | ⟨z, h1, g1, g2, g3, g4, g5, g6⟩
  · obtain ⟨h', r1, r2, r3, r4, r5, r6⟩ := push_eq A0 hl z (x := x) hx hx2
    rw [if_pos (by rw [nI_eq (by omega) (by have := A0.2.2.2.2.2.2.2.2.1; omega)]; omega), r1, bd_t]
    refine ⟨e, h', rfl, r2, c0.tr r3, ?_, ?_, ?_, Or.inl ?_, Or.inl rfl⟩
    · rw [r4]; exact Nat.le_succ _
    · rw [r6]; exact Nat.le_refl _
    · rw [r6, r5]; exact Nat.le_refl _
    · rw [r6]; rfl
  · have kx : hK h1 x < 15 := by rw [(g3.2.2.2.2 x hx2).1]; exact hx
    obtain ⟨h', r1, r2, r3, r4, r5, r6⟩ := push_eq g2 hl g5 kx (Nat.lt_of_lt_of_le hx2 g3.1)
    rw [if_neg (fun y => y (by rw [z])), gd_t A0.1, g1, bd_t, r1, bd_t]
    refine ⟨hX h, h', rfl, r2, (c0.tr g3).lt r3 (Or.inr rfl), ?_, ?_, ?_, ?_, Or.inr rfl⟩
    · rw [r4]; exact g4.1
    · rw [r6]; exact g4.2.1
    · rw [r6, r5]; exact g4.2.2.1
    · rw [r6]; exact g4.2.2.2.1
