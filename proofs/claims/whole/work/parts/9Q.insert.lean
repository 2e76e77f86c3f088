/-! WHAT WAS FOUND, by rank -/
/-- where a score comes among the first k -/
def ip (s : Nat → Int32) (x : Int32) : Nat → Nat
  | 0 => 0
  | k + 1 => if x ≤ s k then k + 1 else ip s x k
theorem ip_le (s : Nat → Int32) (x : Int32) : ∀ k, ip s x k ≤ k
  | 0 => Nat.le_refl _
  | k + 1 => by
    rw [ip]
    split
    · exact Nat.le_refl _
    · exact Nat.le_succ_of_le (ip_le s x k)
/-- a row with x put in at p -/
def putF (r : Nat → Int32) (p : Nat) (x : Int32) (i : Nat) : Int32 := if i < p then r i else if i = p then x else r (i - 1)
def FC (n : Nat) (f r s : Nat → Int32) (h : PH) : Prop := hI h 2 34 3 = nI n ∧ ∀ i, i < n → hI h 20 35 i = f i ∧ hI h 20 36 i = r i ∧ hI h 20 37 i = s i
def FM (n : Nat) (f r s : Nat → Int32) (h : PH) : Prop := hI h 12 45 51 = nI n ∧ ∀ i, i < n → hI h 20 79 i = f i ∧ hI h 20 80 i = r i ∧ hI h 20 81 i = s i
def isFC (c a k : Nat) : Bool := (c == 2 && a == 34 && k == 3) || (c == 20 && (a == 35 || a == 36 || a == 37))
def isFM (c a k : Nat) : Bool := (c == 12 && a == 45 && k == 51) || (c == 20 && (a == 79 || a == 80 || a == 81))
theorem fc35 (k : Nat) : isFC 20 35 k = true := rfl
theorem fc36 (k : Nat) : isFC 20 36 k = true := rfl
theorem fc37 (k : Nat) : isFC 20 37 k = true := rfl
theorem fm79 (k : Nat) : isFM 20 79 k = true := rfl
theorem fm80 (k : Nat) : isFM 20 80 k = true := rfl
theorem fm81 (k : Nat) : isFM 20 81 k = true := rfl
theorem two_rd (g : PH) {A B : Nat} (hAB : A ≠ B) (k : Nat) (t x : Int32) (i : Nat) : hI (sI (sI g 20 A k t) 20 B k x) 20 A i = (if i = k then t else hI g 20 A i) ∧ hI (sI (sI g 20 A k t) 20 B k x) 20 B i = (if i = k then x else hI g 20 B i) ∧ ∀ E, E ≠ A → E ≠ B → hI (sI (sI g 20 A k t) 20 B k x) 20 E i = hI g 20 E i := by
  refine ⟨?_, ?_, fun E h1 h2 => ?_⟩
  · rw [hI_sI, if_neg (fun q => hAB q.2.1), hI_sI]
    by_cases d : i = k
    · rw [if_pos ⟨rfl, rfl, d⟩, if_pos d]
    · rw [if_neg (fun q => d q.2.2), if_neg d]
  · rw [hI_sI]
    by_cases d : i = k
    · rw [if_pos ⟨rfl, rfl, d⟩, if_pos d]
    · rw [if_neg (fun q => d q.2.2), if_neg d, hI_sI, if_neg (fun q => hAB q.2.1.symm)]
  · rw [hI_sI, if_neg (fun q => h2 q.2.1), hI_sI, if_neg (fun q => h1 q.2.1)]
theorem c20 (g : PH) (a k : Nat) (v : Int32) {c a' k' : Nat} (e : c ≠ 20) : hI (sI g 20 a k v) c a' k' = hI g c a' k' := by rw [hI_sI, if_neg (fun q => e q.1)]
theorem n20 (g : PH) {c a k : Nat} (v : Int32) {a' k' : Nat} (e : c ≠ 20) : hI (sI g c a k v) 20 a' k' = hI g 20 a' k' := by rw [hI_sI, if_neg (fun q => e q.1.symm)]
theorem rank_c {h : PH} (c : CSh h) {n : Nat} (hn : n < 100) {r s : Nat → Int32} (t x : Int32) : ∀ k : Nat, ∀ g : PH, k ≤ n → onlyI isFC h g → hI g 2 34 3 = nI n → (∀ i, i < k → hI g 20 36 i = r i ∧ hI g 20 37 i = s i) → (∀ i, k < i → i ≤ n → hI g 20 36 i = r (i - 1) ∧ hI g 20 37 i = s (i - 1)) → ∃ h', fX2_insert_l25 34 t x (nI k) g = some h' ∧ onlyI isFC h h' ∧ hI h' 2 34 3 = nI (n + 1) ∧ (∀ i, i ≤ n → hI h' 20 36 i = putF r (ip s x k) t i ∧ hI h' 20 37 i = putF s (ip s x k) x i) ∧ ∀ i, hI h' 20 35 i = hI g 20 35 i := by
  have stop : ∀ (k : Nat) (g : PH), k ≤ n → onlyI isFC h g → hI g 2 34 3 = nI n → (∀ i, i < k → hI g 20 36 i = r i ∧ hI g 20 37 i = s i) → (∀ i, k < i → i ≤ n → hI g 20 36 i = r (i - 1) ∧ hI g 20 37 i = s (i - 1)) → ∃ h', fX2_insert_b75 34 t x (nI k) g = some h' ∧ onlyI isFC h h' ∧ hI h' 2 34 3 = nI (n + 1) ∧ (∀ i, i ≤ n → hI h' 20 36 i = putF r k t i ∧ hI h' 20 37 i = putF s k x i) ∧ ∀ i, hI h' 20 35 i = hI g 20 35 i := fun k g hk og e1 lo hi => by
    have cg := c.oI og
    have o2 : onlyI isFC h (sI g 20 36 k t) := og.tr (onlyI_sI _ _ (fc36 k))
    have c2 := c.oI o2
    have o3 : onlyI isFC h (sI (sI g 20 36 k t) 20 37 k x) := o2.tr (onlyI_sI _ _ (fc37 k))
    have c3 := c.oI o3
    have ck : Int32.toNatClampNeg (nI k) = k := nI_clamp (by omega)
    have c2' : CSh (sI g 20 36 (Int32.toNatClampNeg (nI k)) t) := by rw [ck]; exact c2
    refine ⟨sI (sI (sI g 20 36 k t) 20 37 k x) 2 34 3 (nI (n + 1)), ?_, o3.tr (onlyI_sI _ _ rfl), by rw [hI_sI, if_pos ⟨rfl, rfl, rfl⟩], fun i hi' => ?_, fun i => ?_⟩
    · unfold fX2_insert_b75
      rw [gd_t (k_34 cg), r2_34_1 cg, gs_t, gd_t ⟨k_36 cg, by rw [n_36 cg]; exact inbI (by omega) (by decide)⟩, lt_t, r2_34_2 c2', gs_t, gd_t ⟨k_37 c2', by rw [n_37 c2']; exact inbI (by omega) (by decide)⟩, lt_t, lt_t, c20 _ _ _ _ (by decide), c20 _ _ _ _ (by decide), e1, nI_1, ck]
    · have nn : ∀ a', hI (sI (sI (sI g 20 36 k t) 20 37 k x) 2 34 3 (nI (n + 1))) 20 a' i = hI (sI (sI g 20 36 k t) 20 37 k x) 20 a' i := fun a' => n20 _ _ (by decide)
      rw [nn, nn]
      obtain ⟨q1, q2, -⟩ := two_rd g (A := 36) (B := 37) (by decide) k t x i
      rw [q1, q2]
      unfold putF
      by_cases d : i = k
      · have e0 : ¬ i < k := by omega
        rw [if_pos d, if_pos d, if_neg e0, if_pos d, if_neg e0, if_pos d]
        exact ⟨rfl, rfl⟩
      · simp only [if_neg d]
        by_cases q : i < k
        · simp only [if_pos q]; exact lo i q
        · simp only [if_neg q]; exact hi i (by omega) hi'
    · rw [n20 _ _ (by decide)]
      exact (two_rd g (A := 36) (B := 37) (by decide) k t x i).2.2 35 (by decide) (by decide)
  intro k
  induction k with
  | zero =>
    intro g hk og e1 lo hi
    obtain ⟨h', f1, f2⟩ := stop 0 g hk og e1 lo hi
    refine ⟨h', ?_, f2⟩
    unfold fX2_insert_l25
    refine wh_done ?_
    show fX2_insert_c25 34 t x (nI 0) g = _
    unfold fX2_insert_c25
    rw [if_pos (by decide), f1, mr_t]
  | succ k ih =>
    intro g hk og e1 lo hi
    have cg := c.oI og
    have ck : Int32.toNatClampNeg (nI k) = k := nI_clamp (by omega)
    have ck1 : Int32.toNatClampNeg (nI (k + 1)) = k + 1 := nI_clamp (by omega)
    have i37 : hK g 37 = 20 ∧ inb (nI k) (hN g 37) := ⟨k_37 cg, by rw [n_37 cg]; exact inbI (by omega) (by decide)⟩
    have i36 : hK g 36 = 20 ∧ inb (nI k) (hN g 36) := ⟨k_36 cg, by rw [n_36 cg]; exact inbI (by omega) (by decide)⟩
    have j36 : inb (nI (k + 1)) (hN g 36) := by rw [n_36 cg]; exact inbI (by omega) (by decide)
    have o2 : onlyI isFC h (sI g 20 36 (k + 1) (r k)) := og.tr (onlyI_sI _ _ (fc36 _))
    have c2 := c.oI o2
    have o3 : onlyI isFC h (sI (sI g 20 36 (k + 1) (r k)) 20 37 (k + 1) (s k)) := o2.tr (onlyI_sI _ _ (fc37 _))
    have sk : hI g 20 37 (Int32.toNatClampNeg (nI k)) = s k := by rw [ck]; exact (lo k (by omega)).2
    have rk : hI g 20 36 (Int32.toNatClampNeg (nI k)) = r k := by rw [ck]; exact (lo k (by omega)).1
    have c2' : CSh (sI g 20 36 (Int32.toNatClampNeg (nI (k + 1))) (r k)) := by rw [ck1]; exact c2
    have st : fX2_insert_c25 34 t x (nI (k + 1)) g = (if x ≤ s k then mr (fX2_insert_b75 34 t x (nI (k + 1)) g) else some (.inl (nI k, sI (sI g 20 36 (k + 1) (r k)) 20 37 (k + 1) (s k)))) := by
      unfold fX2_insert_c25
      rw [if_neg (show ¬ nI (k + 1) ≤ (0 : Int32) from show ¬ nI (k + 1) ≤ nI 0 by rw [nI_leI (by omega) (by decide)]; omega), gd_t (k_34 cg), r2_34_2 cg, gs_t, nI_pred, gd_t i37, sk, r2_34_1 cg, gs_t, gd_t i36, gd_t j36, lt_t, rk, r2_34_2 c2', gs_t, gd_t ⟨k_37 c2', by rw [n_37 c2']; exact inbI (by omega) (by decide)⟩, gd_t (by rw [n_37 c2']; exact inbI (by omega) (by decide)), lt_t, ck1, show hI (sI g 20 36 (k + 1) (r k)) 20 37 (Int32.toNatClampNeg (nI k)) = s k by rw [hI_sI, if_neg (by simp)]; exact sk, pk_m1]
    rw [ip]
    unfold fX2_insert_l25 at ih ⊢
    by_cases z : x ≤ s k
    · rw [if_pos z] at st
      rw [if_pos z]
      obtain ⟨h', f1, f2⟩ := stop (k + 1) g hk og e1 lo hi
      refine ⟨h', wh_done ?_, f2⟩
      show fX2_insert_c25 34 t x (nI (k + 1)) g = _
      rw [st, f1, mr_t]
    · rw [if_neg z] at st
      rw [if_neg z]
      obtain ⟨h', f1, f2, f3, f4, f5⟩ := ih (sI (sI g 20 36 (k + 1) (r k)) 20 37 (k + 1) (s k)) (by omega) o3 (by rw [c20 _ _ _ _ (by decide), c20 _ _ _ _ (by decide)]; exact e1) (fun i hi' => by
        obtain ⟨q1, q2, -⟩ := two_rd g (A := 36) (B := 37) (by decide) (k + 1) (r k) (s k) i
        have d : ¬ i = k + 1 := by omega
        rw [q1, q2, if_neg d, if_neg d]
        exact lo i (by omega)) (fun i h1 h2 => by
        obtain ⟨q1, q2, -⟩ := two_rd g (A := 36) (B := 37) (by decide) (k + 1) (r k) (s k) i
        rw [q1, q2]
        by_cases d : i = k + 1
        · rw [if_pos d, if_pos d, d]
          exact ⟨rfl, rfl⟩
        · rw [if_neg d, if_neg d]
          exact hi i (by omega) h2)
      refine ⟨h', wh_step (t := (nI k, sI (sI g 20 36 (k + 1) (r k)) 20 37 (k + 1) (s k))) ?_ f1, f2, f3, f4, fun i => ?_⟩
      · show fX2_insert_c25 34 t x (nI (k + 1)) g = _
        exact st
      · rw [f5]
        exact (two_rd g (A := 36) (B := 37) (by decide) (k + 1) (r k) (s k) i).2.2 35 (by decide) (by decide)
theorem insert_c {h : PH} (c : CSh h) {n : Nat} (hn : n < 100) {f r s : Nat → Int32} (T : FC n f r s h) (t x : Int32) : ∃ h', fX2_insert 34 t x h = some h' ∧ FC (n + 1) (putF f n t) (putF r (ip s x n) t) (putF s (ip s x n) x) h' ∧ onlyI isFC h h' := by
  obtain ⟨t1, t2⟩ := T
  have o1 : onlyI isFC h (sI h 20 35 n t) := onlyI_sI _ _ (fc35 n)
  have c1 := c.oI o1
  obtain ⟨h', f1, f2, f3, f4, f5⟩ := rank_c c1 hn (r := r) (s := s) t x n (sI h 20 35 n t) (Nat.le_refl _) (onlyI.rf _ _) (by rw [hI_sI, if_neg (by simp)]; exact t1) (fun i hi => by rw [hI_sI, if_neg (by simp), hI_sI, if_neg (by simp)]; exact (t2 i hi).2) (fun i h1 h2 => by omega)
  refine ⟨h', ?_, ⟨f3, fun i hi => ⟨?_, f4 i (by omega)⟩⟩, o1.tr f2⟩
  · unfold fX2_insert
    rw [gd_t (k_34 c), t1, if_pos (show nI n < (100 : Int32) from show nI n < nI 100 from nI_lt hn (by decide)), r2_34_0 c, gs_t, gd_t ⟨k_35 c, by rw [n_35 c]; exact inbI hn (by decide)⟩, lt_t, nI_clamp (by omega), hI_sI, if_neg (by simp), t1]
    exact f1
  · rw [f5, hI_sI]
    unfold putF
    by_cases d : i = n
    · rw [if_pos ⟨rfl, rfl, d⟩, if_neg (by omega), if_pos d]
    · rw [if_neg (fun q => d q.2.2), if_pos (by omega)]
      exact (t2 i (by omega)).1
