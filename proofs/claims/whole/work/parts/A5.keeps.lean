/-! THE REFERENCE KEEPS what a text was -/
def is53 (c a _k : Nat) : Bool := c == 20 && a == 53
def isPM (c a k : Nat) : Bool := (c == 12 && a == 45 && k == 14) || (c == 20 && (a == 51 || a == 52 || a == 53)) || (c == 21 && a == 54)
theorem pm_53 {c a k : Nat} (e : is53 c a k = true) : isPM c a k = true := by
  simp [is53] at e
  obtain ⟨rfl, rfl⟩ := e
  rfl
theorem pm51 (k : Nat) : isPM 20 51 k = true := rfl
theorem pm52 (k : Nat) : isPM 20 52 k = true := rfl
theorem pm53 (k : Nat) : is53 20 53 k = true := rfl
theorem pm54 (k : Nat) : isPM 21 54 k = true := rfl
theorem mul40 (n j : Nat) : (40 : Int32) * nI n + nI j = nI (40 * n + j) := by rw [show (40 : Int32) = nI 40 from rfl, pk_mul, nI_add]
theorem c21 (g : PH) (a k : Nat) (v : Int32) {c a' k' : Nat} (e : c ≠ 21) : hI (sI g 21 a k v) c a' k' = hI g c a' k' := by rw [hI_sI, if_neg (fun q => e q.1)]
theorem n21 (g : PH) {c a k : Nat} (v : Int32) {a' k' : Nat} (e : c ≠ 21) : hI (sI g c a k v) 21 a' k' = hI g 21 a' k' := by rw [hI_sI, if_neg (fun q => e q.1.symm)]
theorem keeps_copy {h : PH} (m : MSh h) {n t : Nat} (hn : n < 20) (ht : t < 100) (e : hI h 12 45 14 = nI n) : ∀ f j : Nat, ∀ g : PH, j + f = 40 → onlyI is53 h g → (∀ k, hI g 20 53 k = if 40 * n ≤ k ∧ k < 40 * n + j then hI h 20 48 (40 * t + (k - 40 * n)) else hI h 20 53 k) → ∃ g', fX12_keeps_l157 45 (nI t) (nI j) g = some (sI g' 12 45 14 (nI (n + 1))) ∧ onlyI is53 h g' ∧ ∀ k, hI g' 20 53 k = if 40 * n ≤ k ∧ k < 40 * n + 40 then hI h 20 48 (40 * t + (k - 40 * n)) else hI h 20 53 k := by
  intro f
  induction f with
  | zero =>
    intro j g hj og R
    have hj : j = 40 := by omega
    subst hj
    have mg := m.oI og
    refine ⟨g, wh_done ?_, og, R⟩
    show fX12_keeps_c157 45 (nI t) (nI 40) g = _
    unfold fX12_keeps_c157
    rw [if_pos (show (40 : Int32) ≤ nI 40 by decide), gd_t (k_45 mg), lt_t, og.1 12 45 14 rfl, e, nI_1, mr_t]
  | succ f ih =>
    intro j g hj og R
    have mg := m.oI og
    have hj1 : j < 40 := by omega
    have ck : Int32.toNatClampNeg (nI (40 * n + j)) = 40 * n + j := nI_clamp (by omega)
    have e48 : hI g 20 48 (40 * t + j) = hI h 20 48 (40 * t + j) := og.1 20 48 _ rfl
    obtain ⟨g', f1, f2, f3⟩ := ih (j + 1) (sI g 20 53 (40 * n + j) (hI h 20 48 (40 * t + j))) (by omega) (og.tr (onlyI_sI _ _ (pm53 _))) (fun k => by
      rw [rdA, R k]
      by_cases d : k = 40 * n + j
      · rw [if_pos d, if_pos (by omega), show k - 40 * n = j by omega]
      · rw [if_neg d]
        by_cases z : 40 * n ≤ k ∧ k < 40 * n + j
        · rw [if_pos z, if_pos (by omega)]
        · rw [if_neg z, if_neg (by omega)])
    refine ⟨g', wh_step (t := (nI (j + 1), sI g 20 53 (40 * n + j) (hI h 20 48 (40 * t + j)))) ?_ f1, f2, f3⟩
    show fX12_keeps_c157 45 (nI t) (nI j) g = _
    unfold fX12_keeps_c157
    rw [if_neg (show ¬ (40 : Int32) ≤ nI j from nI_ge (b := 40) hj1 (by decide)), gd_t (k_45 mg), wordIn_eq mg ht hj1, bd_t, r12_45_11 mg, gs_t, og.1 12 45 14 rfl, e, mul40, gd_t ⟨k_53 mg, by rw [n_53 mg]; exact inbI (by omega) (by decide)⟩, lt_t]
    simp only [ck]
    rw [nI_1, e48]
theorem keeps_add {g : PH} (m : MSh g) {R : PST} (V : PSM R g) (hn : R.1 < 20) {t : Nat} (ht : t < 100) {tx : TX} (o : okX tx) (X : MT tx g) : ∃ h', fX12_keeps_b115 45 (nI t) g = some h' ∧ PSM (addR R t (tx t)) h' ∧ onlyI isPM g h' := by
  obtain ⟨n, q, f0, f1⟩ := R
  obtain ⟨v4, v5⟩ := V
  have hn : n < 20 := hn
  have v4 : hI g 12 45 14 = nI n := v4
  have ck : Int32.toNatClampNeg (nI n) = n := nI_clamp (by omega)
  have ct : Int32.toNatClampNeg (nI t) = t := nI_clamp (by omega)
  have o1 : onlyI isPM g (sI g 20 51 n (nI t)) := onlyI_sI _ _ (pm51 _)
  have m1 := m.oI o1
  have e1 : hI (sI g 20 51 n (nI t)) 12 45 14 = nI n := by rw [c20 _ _ _ _ (by decide)]; exact v4
  have r1 : hI (sI g 20 51 n (nI t)) 20 49 t = hI g 20 49 t := rdN _ _ (by decide)
  have o2 : onlyI isPM g (sI (sI g 20 51 n (nI t)) 20 52 n (hI g 20 49 t)) := o1.tr (onlyI_sI _ _ (pm52 _))
  have m2 := m.oI o2
  have e2 : hI (sI (sI g 20 51 n (nI t)) 20 52 n (hI g 20 49 t)) 12 45 14 = nI n := by rw [c20 _ _ _ _ (by decide)]; exact e1
  have r2 : hI (sI (sI g 20 51 n (nI t)) 20 52 n (hI g 20 49 t)) 21 47 t = hI g 21 47 t := by rw [n21 _ _ (by decide), n21 _ _ (by decide)]
  have o3 : onlyI isPM g (sI (sI (sI g 20 51 n (nI t)) 20 52 n (hI g 20 49 t)) 21 54 n (hI g 21 47 t &&& 1)) := o2.tr (onlyI_sI _ _ (pm54 _))
  have m3 := m.oI o3
  have e3 : hI (sI (sI (sI g 20 51 n (nI t)) 20 52 n (hI g 20 49 t)) 21 54 n (hI g 21 47 t &&& 1)) 12 45 14 = nI n := by rw [c21 _ _ _ _ (by decide)]; exact e2
  obtain ⟨g', w1, w2, w3⟩ := keeps_copy m3 hn ht e3 40 0 _ rfl (onlyI.rf _ _) (fun k => by rw [if_neg (by omega)])
  have o4 := o3.tr (w2.mono (fun _ _ _ => pm_53))
  refine ⟨sI g' 12 45 14 (nI (n + 1)), ?_, ⟨?_, fun i hi => ?_⟩, o4.tr (onlyI_sI _ _ rfl)⟩
  · unfold fX12_keeps_b115
    rw [gd_t (k_45 m), r12_45_9 m, gs_t, v4, gd_t ⟨k_51 m, by rw [n_51 m]; exact inbI hn (by decide)⟩, lt_t]
    simp only [ck]
    rw [r12_45_6 m1, gs_t, gd_t ⟨k_49 m1, by rw [n_49 m1]; exact inbI ht (by decide)⟩, r12_45_10 m1, gs_t, e1, gd_t ⟨k_52 m1, by rw [n_52 m1]; exact inbI hn (by decide)⟩, lt_t]
    simp only [ck, ct]
    rw [r1, r12_45_4 m2, gs_t, gd_t ⟨k_47 m2, by rw [n_47 m2]; exact inbI ht (by decide)⟩, r12_45_12 m2, gs_t, e2, gd_t ⟨k_54 m2, by rw [n_54 m2]; exact inbI hn (by decide)⟩, lt_t]
    simp only [ck]
    rw [r2]
    exact w1
  · rw [hI_sI, if_pos ⟨rfl, rfl, rfl⟩]
    rfl
  · have hi : i < n + 1 := hi
    have a51 : hI (sI g' 12 45 14 (nI (n + 1))) 20 51 i = if i = n then nI t else hI g 20 51 i := by rw [n20 _ _ (by decide), w2.1 20 51 i rfl, n20 _ _ (by decide), rdN _ _ (by decide), rdA]
    have a52 : hI (sI g' 12 45 14 (nI (n + 1))) 20 52 i = if i = n then hI g 20 49 t else hI g 20 52 i := by rw [n20 _ _ (by decide), w2.1 20 52 i rfl, n20 _ _ (by decide), rdA, rdN _ _ (by decide)]
    have a54 : hI (sI g' 12 45 14 (nI (n + 1))) 21 54 i = if i = n then hI g 21 47 t &&& 1 else hI g 21 54 i := by
      rw [n21 _ _ (by decide), w2.1 21 54 i rfl, hI_sI]
      by_cases d : i = n
      · rw [if_pos ⟨rfl, rfl, d⟩, if_pos d]
      · rw [if_neg (fun z => d z.2.2), if_neg d, n21 _ _ (by decide), n21 _ _ (by decide)]
    have a53 : ∀ k, hI (sI g' 12 45 14 (nI (n + 1))) 20 53 k = if 40 * n ≤ k ∧ k < 40 * n + 40 then hI g 20 48 (40 * t + (k - 40 * n)) else hI g 20 53 k := fun k => by
      rw [n20 (c := 12) _ _ (by decide), w3 k, n20 (c := 21) _ _ (by decide), rdN _ _ (show (48 : Nat) ≠ 52 by decide), rdN _ _ (show (48 : Nat) ≠ 51 by decide), n20 (c := 21) _ _ (by decide), rdN _ _ (show (53 : Nat) ≠ 52 by decide), rdN _ _ (show (53 : Nat) ≠ 51 by decide)]
    show hI (sI g' 12 45 14 (nI (n + 1))) 20 51 i = nI (if i = n then t else f0 i) ∧ OM (if i = n then tx t else f1 i) i (sI g' 12 45 14 (nI (n + 1)))
    unfold OM
    rw [a51, a52, a54]
    by_cases d : i = n
    · rw [if_pos d, if_pos d, if_pos d, if_pos d, if_pos d]
      refine ⟨rfl, ?_⟩
      cases e : tx t with
      | none =>
        show hI g 21 47 t &&& 1 = 0
        rw [X.n ht e]
        rfl
      | some ws =>
        obtain ⟨x1, x2, x3⟩ := X.s ht e
        have l40 := (o t ws e).2.1
        refine ⟨l40, by rw [x1]; rfl, x2, fun k hk => ?_⟩
        rw [a53, if_pos (by omega), show 40 * i + k - 40 * n = k by omega]
        exact x3 k hk
    · rw [if_neg d, if_neg d, if_neg d, if_neg d, if_neg d]
      obtain ⟨y1, y2⟩ := v5 i (by show i < n; omega)
      refine ⟨y1, ?_⟩
      have y2 : OM (f1 i) i g := y2
      unfold OM at y2
      cases e : f1 i with
      | none => rw [e] at y2; exact y2
      | some ws =>
        rw [e] at y2
        exact ⟨y2.1, y2.2.1, y2.2.2.1, fun k hk => by
          have := y2.1
          rw [a53, if_neg (by omega)]
          exact y2.2.2.2 k hk⟩
