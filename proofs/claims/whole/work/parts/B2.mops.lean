/-! THE REFERENCE CHANGES a text -/
def MO (o : Option (List Nat)) (t : Nat) (h : PH) : Prop := match o with
  | none => hI h 21 47 t = 0
  | some ws => hI h 21 47 t = 1 ∧ hI h 20 49 t = nI ws.length ∧ ∀ i, i < ws.length → hI h 20 48 (40 * t + i) = nI (ws.getD i 0)
def isTw (c a _k : Nat) : Bool := (c == 21 && a == 47) || (c == 20 && (a == 48 || a == 49))
theorem MT.updX {tx : TX} {g h : PH} (o : okX tx) (X : MT tx g) {t : Nat} {w : Option (List Nat)} (e : ∀ i, i < 100 → i ≠ t → hI h 21 47 i = hI g 21 47 i ∧ hI h 20 49 i = hI g 20 49 i ∧ ∀ k, k < 40 → hI h 20 48 (40 * i + k) = hI g 20 48 (40 * i + k)) (n : MO w t h) : MT (updX tx t w) h := fun i hi => by
  by_cases d : i = t
  · subst d
    rw [updX_at]
    exact n
  · rw [updX_ne tx w d]
    obtain ⟨e1, e2, e3⟩ := e i hi d
    have := X i hi
    cases q : tx i with
    | none => rw [q] at this; exact e1.trans this
    | some ws =>
      have l := (o i ws q).2.1
      rw [q] at this
      exact ⟨e1.trans this.1, e2.trans this.2.1, fun k hk => (e3 k (by omega)).trans (this.2.2 k hk)⟩
theorem tw47 (k : Nat) : isTw 21 47 k = true := rfl
theorem tw48 (k : Nat) : isTw 20 48 k = true := rfl
theorem tw49 (k : Nat) : isTw 20 49 k = true := rfl
theorem rd21 (g : PH) (A k i : Nat) (x : Int32) : hI (sI g 21 A k x) 21 A i = if i = k then x else hI g 21 A i := by
  rw [hI_sI]
  by_cases d : i = k
  · rw [if_pos ⟨rfl, rfl, d⟩, if_pos d]
  · rw [if_neg (fun q => d q.2.2), if_neg d]
/-- a text goes -/
theorem mgone {tx : TX} {g : PH} (o : okX tx) (X : MT tx g) {t : Nat} : onlyI isTw g (sI g 21 47 t 0) ∧ MT (updX tx t none) (sI g 21 47 t 0) := ⟨onlyI_sI _ _ (tw47 t), X.updX o (fun i _ d => ⟨by rw [rd21, if_neg d], c21 _ _ _ _ (by decide), fun k _ => c21 _ _ _ _ (by decide)⟩) (by show hI (sI g 21 47 t 0) 21 47 t = 0; rw [rd21, if_pos rfl])⟩
/-- a text comes as read -/
theorem takesRead_eq {tx : TX} {g : PH} (m : MSh g) (o : okX tx) (X : MT tx g) {t : Nat} (ht : t < 100) {ws : List Nat} (l40 : ws.length ≤ 40) (e8 : hI g 12 45 8 = nI ws.length) (e50 : ∀ i, i < ws.length → hI g 20 50 i = nI (ws.getD i 0)) : ∃ h', fX12_takesRead 45 (nI t) g = some h' ∧ onlyI isTw g h' ∧ MT (updX tx t (some ws)) h' := by
  have ct : Int32.toNatClampNeg (nI t) = t := nI_clamp (by omega)
  have o1 : onlyI isTw g (sI g 21 47 t 1) := onlyI_sI _ _ (tw47 t)
  have m1 := m.oI o1
  have o2 : onlyI isTw g (sI (sI g 21 47 t 1) 20 49 t (nI ws.length)) := o1.tr (onlyI_sI _ _ (tw49 t))
  have lp : ∀ f j : Nat, ∀ h : PH, j + f = ws.length → onlyI isTw g h → (∀ i, hI h 21 47 i = if i = t then 1 else hI g 21 47 i) → (∀ i, hI h 20 49 i = if i = t then nI ws.length else hI g 20 49 i) → (∀ q, hI h 20 48 q = if 40 * t ≤ q ∧ q < 40 * t + j then nI (ws.getD (q - 40 * t) 0) else hI g 20 48 q) → ∃ h', fX12_takesRead_l19 45 (nI t) (nI j) h = some h' ∧ onlyI isTw g h' ∧ MT (updX tx t (some ws)) h' := by
    intro f
    induction f with
    | zero =>
      intro j h hj og r1 r2 r3
      have hj : j = ws.length := by omega
      subst hj
      have mg := m.oI og
      refine ⟨h, wh_done ?_, og, X.updX o (fun i _ d => ⟨by rw [r1, if_neg d], by rw [r2, if_neg d], fun k hk => by rw [r3, if_neg (by omega)]⟩) ⟨by rw [r1, if_pos rfl], by rw [r2, if_pos rfl], fun i hi => by rw [r3, if_pos (by omega), Nat.add_sub_cancel_left]⟩⟩
      show fX12_takesRead_c19 45 (nI t) (nI ws.length) h = _
      unfold fX12_takesRead_c19
      rw [gd_t (k_45 mg), og.1 12 45 8 rfl, e8, if_pos (Int32.le_refl _), mr_t]
    | succ f ih =>
      intro j h hj og r1 r2 r3
      have hj1 : j < ws.length := by omega
      have mg := m.oI og
      have cj : Int32.toNatClampNeg (nI j) = j := nI_clamp (by omega)
      have ck : Int32.toNatClampNeg (nI (40 * t + j)) = 40 * t + j := nI_clamp (by omega)
      obtain ⟨h', f1, f2⟩ := ih (j + 1) (sI h 20 48 (40 * t + j) (nI (ws.getD j 0))) (by omega) (og.tr (onlyI_sI _ _ (tw48 _))) (fun i => (n21 _ _ (by decide)).trans (r1 i)) (fun i => (rdN _ _ (by decide)).trans (r2 i)) (fun q => by
        rw [rdA, r3 q]
        by_cases d : q = 40 * t + j
        · rw [if_pos d, if_pos (by omega), show q - 40 * t = j by omega]
        · rw [if_neg d]
          by_cases z : 40 * t ≤ q ∧ q < 40 * t + j
          · rw [if_pos z, if_pos (by omega)]
          · rw [if_neg z, if_neg (by omega)])
      refine ⟨h', wh_step (t := (nI (j + 1), sI h 20 48 (40 * t + j) (nI (ws.getD j 0)))) ?_ f1, f2⟩
      show fX12_takesRead_c19 45 (nI t) (nI j) h = _
      unfold fX12_takesRead_c19
      rw [gd_t (k_45 mg), og.1 12 45 8 rfl, e8, if_neg (nI_ge hj1 (by omega)), r12_45_7 mg, gs_t, gd_t ⟨k_50 mg, by rw [n_50 mg]; exact inbI (by omega) (by decide)⟩, r12_45_5 mg, gs_t, mul40, gd_t ⟨k_48 mg, by rw [n_48 mg]; exact inbI (by omega) (by decide)⟩, lt_t]
      simp only [ck, cj]
      rw [og.1 20 50 j rfl, e50 j hj1, nI_1]
  obtain ⟨h', f1, f2, f3⟩ := lp ws.length 0 _ (by omega) o2 (fun i => by rw [n21 _ _ (by decide), rd21]) (fun i => by rw [rdA, c21 _ _ _ _ (by decide)]) (fun q => by rw [if_neg (by omega), rdN _ _ (by decide), c21 _ _ _ _ (by decide)])
  refine ⟨h', ?_, f2, f3⟩
  unfold fX12_takesRead
  rw [gd_t (k_45 m), r12_45_4 m, gs_t, gd_t ⟨k_47 m, by rw [n_47 m]; exact inbI ht (by decide)⟩, show (1 : Int32) &&& 1 = 1 by decide, lt_t]
  simp only [ct]
  rw [r12_45_6 m1, gs_t, gd_t ⟨k_49 m1, by rw [n_49 m1]; exact inbI ht (by decide)⟩, lt_t, o1.1 12 45 8 rfl, e8]
  exact f1
/-- one word of a text is set -/
theorem mset {tx : TX} {g : PH} (o : okX tx) (X : MT tx g) {t : Nat} (ht : t < 100) {ws : List Nat} (e : tx t = some ws) {p w : Nat} (hp : p < ws.length) : onlyI isTw g (sI g 20 48 (40 * t + p) (nI w)) ∧ MT (updX tx t (some (ws.set p w))) (sI g 20 48 (40 * t + p) (nI w)) := by
  obtain ⟨x1, x2, x3⟩ := X.s ht e
  have l40 := (o t ws e).2.1
  have ln : (ws.set p w).length = ws.length := List.length_set ..
  refine ⟨onlyI_sI _ _ (tw48 _), X.updX o (fun i _ d => ⟨n21 _ _ (by decide), rdN _ _ (by decide), fun k hk => by rw [rdA, if_neg (by omega)]⟩) ⟨(n21 _ _ (by decide)).trans x1, by rw [ln]; exact (rdN _ _ (by decide)).trans x2, fun i hi => ?_⟩⟩
  rw [ln] at hi
  rw [rdA, getD_g (by omega), List.getElem_set]
  by_cases d : i = p
  · rw [if_pos (by omega), if_pos d.symm]
  · rw [if_neg (by omega), if_neg (fun z => d z.symm), ← getD_g hi]
    exact x3 i hi
/-- what was is put back -/
theorem mback {tx : TX} {g h : PH} (o : okX tx) (X : MT tx g) {t : Nat} {n : Nat} {w : Option (List Nat)} (W : OM w n g) (r1 : ∀ i, hI h 21 47 i = if i = t then hI g 21 54 n &&& 1 else hI g 21 47 i) (r2 : ∀ i, hI h 20 49 i = if i = t then hI g 20 52 n else hI g 20 49 i) (r3 : ∀ q, hI h 20 48 q = if 40 * t ≤ q ∧ q < 40 * t + 40 then hI g 20 53 (40 * n + (q - 40 * t)) else hI g 20 48 q) : MT (updX tx t w) h := by
  refine X.updX o (fun i _ d => ⟨by rw [r1, if_neg d], by rw [r2, if_neg d], fun k hk => by rw [r3, if_neg (by omega)]⟩) ?_
  cases w with
  | none =>
    have W : hI g 21 54 n = 0 := W
    show hI h 21 47 t = 0
    rw [r1, if_pos rfl, W]
    rfl
  | some ws =>
    obtain ⟨w1, w2, w3, w4⟩ := W
    refine ⟨by rw [r1, if_pos rfl, w2]; rfl, by rw [r2, if_pos rfl]; exact w3, fun i hi => ?_⟩
    rw [r3, if_pos (by omega), Nat.add_sub_cancel_left]
    exact w4 i hi
/-- one word more -/
theorem mput {tx : TX} {g h : PH} (o : okX tx) (X : MT tx g) {t : Nat} (ht : t < 100) {ws : List Nat} (e : tx t = some ws) {p w : Nat} (hp : p ≤ ws.length) (r1 : ∀ i, hI h 21 47 i = hI g 21 47 i) (r2 : ∀ i, hI h 20 49 i = if i = t then nI (ws.length + 1) else hI g 20 49 i) (r3 : ∀ q, hI h 20 48 q = if q = 40 * t + p then nI w else if 40 * t + p < q ∧ q ≤ 40 * t + ws.length then hI g 20 48 (q - 1) else hI g 20 48 q) (l : ws.length < 40) : MT (updX tx t (some (insAt ws p w))) h := by
  obtain ⟨x1, x2, x3⟩ := X.s ht e
  have ln : (insAt ws p w).length = ws.length + 1 := insAt_len hp
  refine X.updX o (fun i _ d => ⟨r1 i, by rw [r2, if_neg d], fun k hk => by rw [r3, if_neg (by omega), if_neg (by omega)]⟩) ⟨(r1 t).trans x1, by rw [r2, if_pos rfl, ln], fun i hi => ?_⟩
  rw [ln] at hi
  rw [r3, insAt_getD hp]
  by_cases a : i < p
  · rw [if_neg (by omega), if_neg (by omega), if_pos a]
    exact x3 i (by omega)
  · rw [if_neg a]
    by_cases b : i = p
    · rw [if_pos (by omega), if_pos b]
    · rw [if_neg (by omega), if_neg b, if_pos (by omega), show 40 * t + i - 1 = 40 * t + (i - 1) by omega]
      exact x3 (i - 1) (by omega)
/-- one word less -/
theorem mtake {tx : TX} {g h : PH} (o : okX tx) (X : MT tx g) {t : Nat} (ht : t < 100) {ws : List Nat} (e : tx t = some ws) {p : Nat} (hp : p < ws.length) (r1 : ∀ i, hI h 21 47 i = hI g 21 47 i) (r2 : ∀ i, hI h 20 49 i = if i = t then nI (ws.length - 1) else hI g 20 49 i) (r3 : ∀ q, hI h 20 48 q = if 40 * t + p ≤ q ∧ q < 40 * t + (ws.length - 1) then hI g 20 48 (q + 1) else hI g 20 48 q) : MT (updX tx t (some (ws.eraseIdx p))) h := by
  obtain ⟨x1, x2, x3⟩ := X.s ht e
  have l40 := (o t ws e).2.1
  have ln : (ws.eraseIdx p).length = ws.length - 1 := List.length_eraseIdx_of_lt hp
  refine X.updX o (fun i _ d => ⟨r1 i, by rw [r2, if_neg d], fun k hk => by rw [r3, if_neg (by omega)]⟩) ⟨(r1 t).trans x1, by rw [r2, if_pos rfl, ln], fun i hi => ?_⟩
  rw [ln] at hi
  rw [r3, erase_getD]
  by_cases a : i < p
  · rw [if_neg (by omega), if_pos a]
    exact x3 i (by omega)
  · rw [if_neg a, if_pos (by omega)]
    exact x3 (i + 1) (by omega)
