/-! THE REFERENCE'S KNOWN WORDS -/
def isKn (c a k : Nat) : Bool := (c == 12 && a == 45 && k == 20) || (c == 20 && a == 59)
theorem isKn59 (k : Nat) : isKn 20 59 k = true := rfl
theorem isKn_scr {c a k : Nat} (e : isKn c a k = true) : isScr c a k = true := by
  unfold isKn at e
  rw [Bool.or_eq_true, Bool.and_eq_true, Bool.and_eq_true, Bool.and_eq_true, beq_iff_eq, beq_iff_eq, beq_iff_eq, beq_iff_eq, beq_iff_eq] at e
  rcases e with ⟨⟨rfl, rfl⟩, rfl⟩ | ⟨rfl, rfl⟩
  · rfl
  · unfold isScr
    rfl
theorem onlyI.scr {F : Nat → Nat → Nat → Bool} {h h' : PH} (s : onlyI F h h') (e : ∀ c a k, F c a k = true → isScr c a k = true) : scr h h' := ⟨(s.mono e).1, s.2.1, fun c a k _ => by rw [s.2.2.1], s.2.2.2.1, s.2.2.2.2.1, Nat.le_of_eq s.2.2.2.2.2.1.symm⟩
def KN (ks : List Nat) (h : PH) : Prop := hI h 12 45 20 = nI ks.length ∧ ∀ i, i < ks.length → hI h 20 59 i = nI (ks.getD i 0)
theorem KN.c {ks : List Nat} {h : PH} (K : KN ks h) (hl : ks.length ≤ 4000) {i : Nat} (hi : i < ks.length) : hI h 20 59 (Int32.toNatClampNeg (nI i)) = nI (ks.getD i 0) := by rw [nI_clamp (by omega)]; exact K.2 i hi
/-- a search by halves: out at m -/
theorem half_loop {ρ : Type} {c : Int32 × Int32 → Option ((Int32 × Int32) ⊕ ρ)} {m n : Nat} {r : ρ} (hn : n < 2 ^ 30) (done : c (nI m, nI m) = some (.inr r))
    (lower : ∀ lo hi, lo < hi → hi ≤ n → (lo + hi) / 2 < m → c (nI lo, nI hi) = some (.inl (nI ((lo + hi) / 2 + 1), nI hi)))
    (upper : ∀ lo hi, lo < hi → hi ≤ n → ¬ (lo + hi) / 2 < m → c (nI lo, nI hi) = some (.inl (nI lo, nI ((lo + hi) / 2)))) : ∀ f lo hi, hi - lo ≤ f → lo ≤ m → m ≤ hi → hi ≤ n → wh c (nI lo, nI hi) = some r := by
  intro f
  induction f with
  | zero =>
    intro lo hi h1 h2 h3 h4
    have e1 : lo = m := by omega
    have e2 : hi = m := by omega
    rw [e1, e2]
    exact wh_done done
  | succ f ih =>
    intro lo hi h1 h2 h3 h4
    by_cases e : lo < hi
    · by_cases d : (lo + hi) / 2 < m
      · exact wh_step (lower lo hi e h4 d) (ih _ _ (by omega) (by omega) h3 h4)
      · exact wh_step (upper lo hi e h4 d) (ih _ _ (by omega) h2 (by omega) (by omega))
    · have e1 : lo = m := by omega
      have e2 : hi = m := by omega
      rw [e1, e2]
      exact wh_done done
theorem half_mid {lo hi : Nat} (h : lo + hi < 2 ^ 31) : (nI lo + nI hi) / (2 : Int32) = nI ((lo + hi) / 2) := by
  rw [nI_add, show (2 : Int32) = nI 2 from rfl, pk_div h (by decide) (by decide)]
/-- the shift that makes room -/
theorem known_shift {h : PH} (m : MSh h) {ks : List Nat} (K : KN ks h) (hl : ks.length < 4000) {p : Nat} (hp : p ≤ ks.length) {w : Nat} : ∀ f k : Nat, ∀ g : PH, p + f = k → k ≤ ks.length → onlyI isKn h g → hI g 12 45 20 = nI ks.length → (∀ i, i ≤ ks.length → hI g 20 59 i = if i ≤ k then hI h 20 59 i else nI (ks.getD (i - 1) 0)) → ∃ h', fX12_takesKnown_l72 45 (nI w) (nI p) (nI k) g = some h' ∧ KN (insAt ks p w) h' ∧ onlyI isKn h h' := by
  intro f
  induction f with
  | zero =>
    intro k g hk hkl og g1 g2
    have hk : k = p := by omega
    subst hk
    have mg := m.oI og
    have e : fX12_takesKnown_l72 45 (nI w) (nI k) (nI k) g = some (sI (sI g 20 59 k (nI w)) 12 45 20 (hI (sI g 20 59 k (nI w)) 12 45 20 + 1)) := by
      unfold fX12_takesKnown_l72
      refine wh_done ?_
      show fX12_takesKnown_c72 45 (nI w) (nI k) (nI k) g = _
      unfold fX12_takesKnown_c72
      rw [if_pos (nI_le (Nat.le_refl _) (by omega)), gd_t (k_45 mg), r12_45_19 mg, gs_t, gd_t ⟨k_59 mg, by rw [n_59 mg]; exact inbI (by omega) (by decide)⟩, lt_t, lt_t, nI_clamp (by omega), mr_t]
    refine ⟨_, e, ⟨?_, fun i hi => ?_⟩, og.tr ((onlyI_sI _ _ (isKn59 _)).tr (onlyI_sI _ _ rfl))⟩
    · rw [hI_sI, if_pos ⟨rfl, rfl, rfl⟩, hI_sI, if_neg (by simp), g1, nI_1, insAt_len hp]
    · rw [insAt_len hp] at hi
      rw [hI_sI, if_neg (by simp), hI_sI, insAt_getD hp]
      by_cases c : i = k
      · rw [if_pos ⟨rfl, rfl, c⟩, if_neg (by omega), if_pos c]
      · rw [if_neg (fun q => c q.2.2), g2 i (by omega)]
        by_cases d : i < k
        · rw [if_pos (by omega), if_pos d, K.2 i (by omega)]
        · rw [if_neg (by omega), if_neg d, if_neg c]
  | succ f ih =>
    intro k g hk hkl og g1 g2
    have mg := m.oI og
    have e : fX12_takesKnown_c72 45 (nI w) (nI p) (nI k) g = some (.inl (nI (k - 1), sI g 20 59 k (hI g 20 59 (k - 1)))) := by
      unfold fX12_takesKnown_c72
      rw [if_neg (nI_ge (by omega) (by omega)), gd_t (k_45 mg), r12_45_19 mg, gs_t, show (1 : Int32) = nI 1 from rfl, pk_sub (by omega), gd_t ⟨k_59 mg, by rw [n_59 mg]; exact inbI (by omega) (by decide)⟩, gd_t (by rw [n_59 mg]; exact inbI (by omega) (by decide)), lt_t, nI_clamp (by omega), nI_clamp (by omega)]
      obtain ⟨j, rfl⟩ : ∃ j, k = j + 1 := ⟨k - 1, by omega⟩
      show some (Sum.inl (nI (j + 1) + (-1), sI g 20 59 (j + 1) (hI g 20 59 (j + 1 - 1)))) = _
      rw [pk_m1]
      rfl
    obtain ⟨h', e1, e2, e3⟩ := ih (k - 1) (sI g 20 59 k (hI g 20 59 (k - 1))) (by omega) (by omega) (og.tr (onlyI_sI _ _ (isKn59 _))) (by rw [hI_sI, if_neg (by simp)]; exact g1) (fun i hi => by
      rw [hI_sI]
      by_cases c : i = k
      · rw [if_pos ⟨rfl, rfl, c⟩, g2 (k - 1) (by omega), if_pos (by omega), if_neg (by omega), K.2 (k - 1) (by omega), c]
      · rw [if_neg (fun q => c q.2.2), g2 i hi]
        by_cases d : i ≤ k - 1
        · rw [if_pos (by omega), if_pos d]
        · rw [if_neg (by omega), if_neg d])
    refine ⟨h', ?_, e2, e3⟩
    unfold fX12_takesKnown_l72 at e1 ⊢
    exact wh_step (t := (nI (k - 1), sI g 20 59 k (hI g 20 59 (k - 1)))) e e1
theorem takesKnown_b66 {h : PH} (m : MSh h) {ks : List Nat} (K : KN ks h) (hl : ks.length < 4000) {p : Nat} (hp : p ≤ ks.length) {w : Nat} : ∃ h', fX12_takesKnown_b66 45 (nI w) (nI p) h = some h' ∧ KN (insAt ks p w) h' ∧ onlyI isKn h h' := by
  obtain ⟨h', e1, e2, e3⟩ := known_shift (w := w) m K hl hp (ks.length - p) ks.length h (by omega) (Nat.le_refl _) (onlyI.rf _ _) K.1 (fun i hi => (if_pos hi).symm)
  refine ⟨h', ?_, e2, e3⟩
  unfold fX12_takesKnown_b66
  rw [gd_t (k_45 m), K.1, e1]
theorem takesKnown_eq {h : PH} (m : MSh h) {ks : List Nat} (s : SK ks) (K : KN ks h) (hl : ks.length < 4000) {w : Nat} (hw : vword w = true) : ∃ h', fX12_takesKnown 45 (nI w) h = some h' ∧ KN (insW ks w) h' ∧ onlyI isKn h h' := by
  have hp := pos_le ks (ord w)
  have key : ∃ h', (gd (hK h 45 = 12) (if ((hI h 12 45 20) ≤ nI (pos ks (ord w))) then (fX12_takesKnown_b66 45 (nI w) (nI (pos ks (ord w))) h) else
  gs (hR h 12 45 19) (fun a22 =>
  gd (hK h a22 = 20 ∧ inb (nI (pos ks (ord w))) (hN h a22)) (if (¬ (hI h 20 a22 (Int32.toNatClampNeg (nI (pos ks (ord w))))) = nI w) then (fX12_takesKnown_b66 45 (nI w) (nI (pos ks (ord w))) h) else
  some (h))))) = some h' ∧ KN (insW ks w) h' ∧ onlyI isKn h h' := by
    obtain ⟨h', e1, e2, e3⟩ := takesKnown_b66 (w := w) m K hl hp
    rw [gd_t (k_45 m), K.1]
    by_cases c : pos ks (ord w) < ks.length
    · rw [if_neg (nI_ge c (by omega)), r12_45_19 m, gs_t, gd_t ⟨k_59 m, by rw [n_59 m]; exact inbI (by omega) (by decide)⟩, K.c (by omega) c]
      have hv : vword (ks.getD (pos ks (ord w)) 0) = true := s.2 _ (mem_getD c)
      by_cases d : ks.getD (pos ks (ord w)) 0 = w
      · rw [if_neg (fun q => q (by rw [d]))]
        have hm : w ∈ ks := (pos_has s).mp ⟨c, d⟩
        exact ⟨h, rfl, by unfold insW; rw [if_pos hm]; exact K, onlyI.rf _ _⟩
      · rw [if_pos (by rw [nI_eq (vw31 hv) (vw31 hw)]; exact d)]
        have hm : ¬ w ∈ ks := fun q => d ((pos_has s).mpr q).2
        exact ⟨h', e1, by unfold insW; rw [if_neg hm]; exact e2, e3⟩
    · rw [if_pos (nI_le (by omega) (by omega))]
      have hm : ¬ w ∈ ks := fun q => c ((pos_has s).mpr q).1
      exact ⟨h', e1, by unfold insW; rw [if_neg hm]; exact e2, e3⟩
  obtain ⟨h', e1, e2, e3⟩ := key
  refine ⟨h', ?_, e2, e3⟩
  unfold fX12_takesKnown
  rw [gd_t (k_45 m), K.1]
  unfold fX12_takesKnown_l7
  have step : ∀ lo hi, lo < hi → hi ≤ ks.length → fX12_takesKnown_c7 45 (nI w) (nI lo) (nI hi) h = (if bI (decide (ord (ks.getD ((lo + hi) / 2) 0) < ord w)) = 0 then fX12_takesKnown_b44 45 (nI w) (nI lo) (nI ((lo + hi) / 2)) h else fX12_takesKnown_b44 45 (nI w) (nI ((lo + hi) / 2) + 1) (nI hi) h) := fun lo hi h1 h2 => by
    unfold fX12_takesKnown_c7
    have hj : (lo + hi) / 2 < ks.length := by omega
    rw [if_neg (nI_ge h1 (by omega)), gd_t (k_45 m), r12_45_19 m, gs_t, half_mid (by omega), gd_t ⟨k_59 m, by rw [n_59 m]; exact inbI (by omega) (by decide)⟩, K.c (by omega) hj, isAhead_eq (vw2 (s.2 _ (mem_getD hj))) (vw2 hw), bd_t]
  refine half_loop (ρ := PH) (m := pos ks (ord w)) (n := ks.length) (by omega) ?_ (fun lo hi h1 h2 h3 => ?_) (fun lo hi h1 h2 h3 => ?_) ks.length 0 ks.length (by omega) (Nat.zero_le _) hp (Nat.le_refl _)
  · show fX12_takesKnown_c7 45 (nI w) (nI (pos ks (ord w))) (nI (pos ks (ord w))) h = _
    unfold fX12_takesKnown_c7
    rw [if_pos (nI_le (Nat.le_refl _) (by omega)), e1, mr_t]
  · show fX12_takesKnown_c7 45 (nI w) (nI lo) (nI hi) h = _
    rw [step lo hi h1 h2, decide_eq_true ((pos_iff s (by omega)).mpr h3), if_neg (show ¬ bI true = 0 by decide), nI_1]
    rfl
  · show fX12_takesKnown_c7 45 (nI w) (nI lo) (nI hi) h = _
    rw [step lo hi h1 h2, decide_eq_false (fun q => h3 ((pos_iff s (by omega)).mp q)), if_pos (show bI false = 0 from rfl)]
    rfl
