/-! ONE EVENT MORE: the class's ring of 100 and the reference's row of 100 -/
abbrev EVT : Type := Nat × Nat × (Nat → Int32) × (Nat → Int32) × (Nat → Int32)
def EVC (E : EVT) (h : PH) : Prop := E.1 ≤ 100 ∧ E.2.1 < 100 ∧ hI h 1 30 3 = nI E.2.1 ∧ hI h 1 30 4 = nI E.1 ∧ ∀ i, i < E.1 → hI h 20 31 ((E.2.1 + i) % 100) = E.2.2.1 i ∧ hI h 20 32 ((E.2.1 + i) % 100) = E.2.2.2.1 i ∧ hI h 20 33 ((E.2.1 + i) % 100) = E.2.2.2.2 i
def EVM (E : EVT) (h : PH) : Prop := hI h 12 45 18 = nI E.1 ∧ ∀ i, i < E.1 → hI h 20 56 i = E.2.2.1 i ∧ hI h 20 57 i = E.2.2.2.1 i ∧ hI h 20 58 i = E.2.2.2.2 i
theorem EVn.two {E : EVT} {h : PH} (T : EVn E.1 E.2.1 E.2.2.1 E.2.2.2.1 E.2.2.2.2 h) : EVC E h ∧ EVM E h := ⟨⟨T.1, T.2.1, T.2.2.1, T.2.2.2.1, fun i hi => ⟨(T.2.2.2.2.2 i hi).1, (T.2.2.2.2.2 i hi).2.2.1, (T.2.2.2.2.2 i hi).2.2.2.2.1⟩⟩, T.2.2.2.2.1, fun i hi => ⟨(T.2.2.2.2.2 i hi).2.1, (T.2.2.2.2.2 i hi).2.2.2.1, (T.2.2.2.2.2 i hi).2.2.2.2.2⟩⟩
theorem EVn.one {E : EVT} {h : PH} (a : EVC E h) (b : EVM E h) : EVn E.1 E.2.1 E.2.2.1 E.2.2.2.1 E.2.2.2.2 h := ⟨a.1, a.2.1, a.2.2.1, a.2.2.2.1, b.1, fun i hi => ⟨(a.2.2.2.2 i hi).1, (b.2 i hi).1, (a.2.2.2.2 i hi).2.1, (b.2 i hi).2.1, (a.2.2.2.2 i hi).2.2, (b.2 i hi).2.2⟩⟩
def dropE (E : EVT) : EVT := (99, (E.2.1 + 1) % 100, fun i => E.2.2.1 (i + 1), fun i => E.2.2.2.1 (i + 1), fun i => E.2.2.2.2 (i + 1))
def addE (E : EVT) (x y z : Int32) : EVT := (E.1 + 1, E.2.1, fun i => if i = E.1 then x else E.2.2.1 i, fun i => if i = E.1 then y else E.2.2.2.1 i, fun i => if i = E.1 then z else E.2.2.2.2 i)
def pushE (E : EVT) (x y z : Int32) : EVT := addE (if E.1 = 100 then dropE E else E) x y z
def isEC (c a k : Nat) : Bool := (c == 1 && a == 30 && (k == 3 || k == 4)) || (c == 20 && (a == 31 || a == 32 || a == 33))
def isEM (c a k : Nat) : Bool := (c == 12 && a == 45 && k == 18) || (c == 20 && (a == 56 || a == 57 || a == 58))
theorem ec31 (k : Nat) : isEC 20 31 k = true := rfl
theorem ec32 (k : Nat) : isEC 20 32 k = true := rfl
theorem ec33 (k : Nat) : isEC 20 33 k = true := rfl
theorem em56 (k : Nat) : isEM 20 56 k = true := rfl
theorem em57 (k : Nat) : isEM 20 57 k = true := rfl
theorem em58 (k : Nat) : isEM 20 58 k = true := rfl
theorem rdA (g : PH) (A k i : Nat) (x : Int32) : hI (sI g 20 A k x) 20 A i = if i = k then x else hI g 20 A i := by
  rw [hI_sI]
  by_cases d : i = k
  · rw [if_pos ⟨rfl, rfl, d⟩, if_pos d]
  · rw [if_neg (fun q => d q.2.2), if_neg d]
theorem rdN (g : PH) {A B k i : Nat} (x : Int32) (h : B ≠ A) : hI (sI g 20 A k x) 20 B i = hI g 20 B i := by
  rw [hI_sI, if_neg (fun q => h q.2.1)]
theorem bIf {α : Type} (b : Bool) (f : Int32 → α) : (if bI b = 0 then f 0 else f 1) = f (bI b) := by
  cases b
  · exact if_pos rfl
  · exact if_neg (by decide)
theorem record_add {g : PH} (c : CSh g) {E : EVT} (V : EVC E g) (hn : E.1 < 100) (x y : Int32) (b : Bool) : ∃ h', fX1_record_b32 30 x y (bI b) g = some h' ∧ EVC (addE E x y (bI b)) h' ∧ onlyI isEC g h' := by
  obtain ⟨n, q, f0, f1, f2⟩ := E
  obtain ⟨v1, v2, v3, v4, v5⟩ := V
  have hn : n < 100 := hn
  have v2 : q < 100 := v2
  have v3 : hI g 1 30 3 = nI q := v3
  have v4 : hI g 1 30 4 = nI n := v4
  have rg : (nI q + nI n) - (nI q + nI n) / (100 : Int32) * (100 : Int32) = nI ((q + n) % 100) := ring (k := 100) (by decide) (by decide) (by omega)
  have hs : (q + n) % 100 < 100 := Nat.mod_lt _ (by decide)
  have ck : Int32.toNatClampNeg (nI ((q + n) % 100)) = (q + n) % 100 := nI_clamp (by omega)
  have o1 : onlyI isEC g (sI g 20 31 ((q + n) % 100) x) := onlyI_sI _ _ (ec31 _)
  have c1 := c.oI o1
  have o2 : onlyI isEC g (sI (sI g 20 31 ((q + n) % 100) x) 20 32 ((q + n) % 100) y) := o1.tr (onlyI_sI _ _ (ec32 _))
  have c2 := c.oI o2
  have o3 : onlyI isEC g (sI (sI (sI g 20 31 ((q + n) % 100) x) 20 32 ((q + n) % 100) y) 20 33 ((q + n) % 100) (bI b)) := o2.tr (onlyI_sI _ _ (ec33 _))
  have c3 := c.oI o3
  have e4 : hI (sI (sI (sI g 20 31 ((q + n) % 100) x) 20 32 ((q + n) % 100) y) 20 33 ((q + n) % 100) (bI b)) 1 30 4 = nI n := by rw [c20 _ _ _ _ (by decide), c20 _ _ _ _ (by decide), c20 _ _ _ _ (by decide)]; exact v4
  have e3 : hI (sI (sI (sI g 20 31 ((q + n) % 100) x) 20 32 ((q + n) % 100) y) 20 33 ((q + n) % 100) (bI b)) 1 30 3 = nI q := by rw [c20 _ _ _ _ (by decide), c20 _ _ _ _ (by decide), c20 _ _ _ _ (by decide)]; exact v3
  refine ⟨sI (sI (sI (sI g 20 31 ((q + n) % 100) x) 20 32 ((q + n) % 100) y) 20 33 ((q + n) % 100) (bI b)) 1 30 4 (nI (n + 1)), ?_, ⟨?_, v2, ?_, ?_, fun i hi => ?_⟩, o3.tr (onlyI_sI _ _ rfl)⟩
  · unfold fX1_record_b32
    rw [gd_t (k_30 c), v3, v4, rg, r1_30_0 c, gs_t, gd_t ⟨k_31 c, by rw [n_31 c]; exact inbI hs (by decide)⟩, lt_t]
    simp only [ck]
    rw [r1_30_1 c1, gs_t, gd_t ⟨k_32 c1, by rw [n_32 c1]; exact inbI hs (by decide)⟩, lt_t, r1_30_2 c2, bIf b (fun z => fX1_record_b77 30 (some 33) (nI ((q + n) % 100)) z _)]
    unfold fX1_record_b77
    rw [gs_t, gd_t ⟨k_33 c2, by rw [n_33 c2]; exact inbI hs (by decide)⟩, lt_t, ck, gd_t (k_30 c3), lt_t, e4, nI_1]
  · show n + 1 ≤ 100
    omega
  · rw [hI_sI, if_neg (by simp)]
    exact e3
  · rw [hI_sI, if_pos ⟨rfl, rfl, rfl⟩]
    rfl
  · have hi : i < n + 1 := hi
    rw [n20 (c := 1) _ _ (by decide), n20 (c := 1) _ _ (by decide), n20 (c := 1) _ _ (by decide)]
    show hI (sI (sI (sI g 20 31 ((q + n) % 100) x) 20 32 ((q + n) % 100) y) 20 33 ((q + n) % 100) (bI b)) 20 31 ((q + i) % 100) = (if i = n then x else f0 i) ∧ hI (sI (sI (sI g 20 31 ((q + n) % 100) x) 20 32 ((q + n) % 100) y) 20 33 ((q + n) % 100) (bI b)) 20 32 ((q + i) % 100) = (if i = n then y else f1 i) ∧ hI (sI (sI (sI g 20 31 ((q + n) % 100) x) 20 32 ((q + n) % 100) y) 20 33 ((q + n) % 100) (bI b)) 20 33 ((q + i) % 100) = (if i = n then bI b else f2 i)
    rw [rdN _ _ (by decide), rdN _ _ (by decide), rdA, rdN _ _ (by decide), rdA, rdN _ _ (by decide), rdA, rdN _ _ (by decide), rdN _ _ (by decide)]
    by_cases d : i = n
    · subst d
      rw [if_pos rfl, if_pos rfl, if_pos rfl, if_pos rfl, if_pos rfl, if_pos rfl]
      exact ⟨rfl, rfl, rfl⟩
    · have hne : ¬ (q + i) % 100 = (q + n) % 100 := by omega
      rw [if_neg hne, if_neg hne, if_neg hne, if_neg d, if_neg d, if_neg d]
      exact v5 i (by show i < n; omega)
theorem record_c {h : PH} (c : CSh h) {E : EVT} (V : EVC E h) (x y : Int32) (b : Bool) : ∃ h', fX1_record 30 x y (bI b) h = some h' ∧ EVC (pushE E x y (bI b)) h' ∧ onlyI isEC h h' := by
  have v1 := V.1
  have v2 := V.2.1
  unfold fX1_record pushE
  rw [gd_t (k_30 c), V.2.2.2.1]
  by_cases d : E.1 = 100
  · rw [if_pos d, d, if_neg (fun z => z rfl), lt_t, V.2.2.1, show nI E.2.1 + 1 - (nI E.2.1 + 1) / 100 * 100 = nI ((E.2.1 + 1) % 100) from ring (i := 1) (k := 100) (by decide) (by decide) (by omega), lt_t]
    have o1 : onlyI isEC h (sI h 1 30 3 (nI ((E.2.1 + 1) % 100))) := onlyI_sI _ _ rfl
    have o2 : onlyI isEC h (sI (sI h 1 30 3 (nI ((E.2.1 + 1) % 100))) 1 30 4 (nI 99)) := o1.tr (onlyI_sI _ _ rfl)
    have e4 : hI (sI h 1 30 3 (nI ((E.2.1 + 1) % 100))) 1 30 4 - 1 = nI 99 := by
      rw [hI_sI, if_neg (by simp), V.2.2.2.1, d]
      rfl
    rw [e4]
    obtain ⟨h', f1, f2, f3⟩ := record_add (c.oI o2) (E := dropE E) ⟨by show 99 ≤ 100; decide, Nat.mod_lt _ (by decide), by rw [hI_sI, if_neg (by simp), hI_sI, if_pos ⟨rfl, rfl, rfl⟩]; rfl, by rw [hI_sI, if_pos ⟨rfl, rfl, rfl⟩]; rfl, fun i hi => by
      have hi : i < 99 := hi
      have := V.2.2.2.2 (i + 1) (by omega)
      rw [n20 _ _ (by decide), n20 _ _ (by decide), n20 _ _ (by decide), n20 _ _ (by decide), n20 _ _ (by decide), n20 _ _ (by decide), show ((dropE E).2.1 + i) % 100 = (E.2.1 + (i + 1)) % 100 by show ((E.2.1 + 1) % 100 + i) % 100 = _; omega]
      exact this⟩ (by show 99 < 100; decide) x y b
    exact ⟨h', f1, f2, o2.tr f3⟩
  · rw [if_neg d, if_pos (show ¬ nI E.1 = 100 from fun z => d ((nI_eq (b := 100) (by omega) (by decide)).mp z))]
    exact record_add c V (by omega) x y b
