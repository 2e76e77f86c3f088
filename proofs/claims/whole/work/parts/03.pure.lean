/-! THE PURE HEAP. Addresses 0 .. 9: cells outside (statics, the script); from 10 on the run's own cells, in the order in which they are made. Kinds 0 .. 14: objects (places in pcl); 19: no cell that we look at; 20 .. 28: arrays. -/
/-- ints, references, longs, doubles (by kind, address, place), kind, length, the live cells, the next address, cells and slots used -/
abbrev PH : Type := (Nat → Nat → Nat → Int32) × (Nat → Nat → Nat → Option Nat) × (Nat → Nat → Nat → Int64) × (Nat → Nat → UInt64) × (Nat → Nat) × (Nat → Nat) × List Nat × Nat × Nat × Nat
def hI (h : PH) : Nat → Nat → Nat → Int32 := h.1
def hR (h : PH) : Nat → Nat → Nat → Option Nat := h.2.1
def hL (h : PH) : Nat → Nat → Nat → Int64 := h.2.2.1
def hD (h : PH) : Nat → Nat → UInt64 := h.2.2.2.1
def hK (h : PH) : Nat → Nat := h.2.2.2.2.1
def hN (h : PH) : Nat → Nat := h.2.2.2.2.2.1
def hC (h : PH) : List Nat := h.2.2.2.2.2.2.1
def hX (h : PH) : Nat := h.2.2.2.2.2.2.2.1
def hU (h : PH) : Nat := h.2.2.2.2.2.2.2.2.1
def hV (h : PH) : Nat := h.2.2.2.2.2.2.2.2.2
def sI (h : PH) (c a k : Nat) (v : Int32) : PH := (fun c' a' k' => if c' = c ∧ a' = a ∧ k' = k then v else h.1 c' a' k', h.2)
def sR (h : PH) (c a k : Nat) (v : Option Nat) : PH := (h.1, fun c' a' k' => if c' = c ∧ a' = a ∧ k' = k then v else h.2.1 c' a' k', h.2.2)
def sL (h : PH) (c a k : Nat) (v : Int64) : PH := (h.1, h.2.1, fun c' a' k' => if c' = c ∧ a' = a ∧ k' = k then v else h.2.2.1 c' a' k', h.2.2.2)
def sD (h : PH) (a k : Nat) (v : UInt64) : PH := (h.1, h.2.1, h.2.2.1, fun a' k' => if a' = a ∧ k' = k then v else h.2.2.2.1 a' k', h.2.2.2.2)
/-- a whole array of ints, of references -/
def sIa (h : PH) (c a : Nat) (f : Nat → Int32) : PH := (fun c' a' => if c' = c ∧ a' = a then f else h.1 c' a', h.2)
def sRa (h : PH) (c a : Nat) (f : Nat → Option Nat) : PH := (h.1, fun c' a' => if c' = c ∧ a' = a then f else h.2.1 c' a', h.2.2)
/-- a new cell of kind c with n slots, at the next address -/
def hnew (h : PH) (c n : Nat) : PH := (fun c' a' k' => if a' = hX h then 0 else hI h c' a' k', fun c' a' k' => if a' = hX h then none else hR h c' a' k', fun c' a' k' => if a' = hX h then 0 else hL h c' a' k', fun a' k' => if a' = hX h then 0 else hD h a' k', fun a' => if a' = hX h then c else hK h a', fun a' => if a' = hX h then n else hN h a', hC h ++ [hX h], hX h + 1, hU h + 1, hV h + n)
/-- addresses pass that we don't look at -/
def hbump (h : PH) (n : Nat) : PH := (h.1, h.2.1, h.2.2.1, h.2.2.2.1, h.2.2.2.2.1, h.2.2.2.2.2.1, h.2.2.2.2.2.2.1, n, hU h + 1, hV h + 6)
/-- the classes whose objects we look at -/
abbrev pcl : List vw_C := [(RX0, TX0, 5), (RX1, TX1, 5), (RX2, TX2, 4), (RX3, TX3, 2), (RX4, TX4, 4), (RX5, TX5, 4), (RX6, TX6, 8), (RX7, TX7, 3), (RX8, TX8, 2), (RX9, TX9, 2), (RX10, TX10, 3), (RX11, TX11, 11), (RX12, TX12, 60), (RJ4, TJ4, 4), (RJx4a65c, TJx4a65c, 3)]
def pfn (c : Nat) : Nat := match pcl[c]? with
  | some q => q.2.2
  | none => 0
def pft (c : Nat) : Nat → FieldType := match c with
  | 0 => tyX0
  | 1 => tyX1
  | 2 => tyX2
  | 3 => tyX3
  | 4 => tyX4
  | 5 => tyX5
  | 6 => tyX6
  | 7 => tyX7
  | 8 => tyX8
  | 9 => tyX9
  | 10 => tyX10
  | 11 => tyX11
  | 12 => tyX12
  | 13 => tyJ4
  | _ => tyJx4a65c
/-- the arrays' element types by kind -/
def pat (c : Nat) : FieldType := match c with
  | 20 => .int
  | 21 => .boolean
  | 22 => .byte
  | 23 => .long
  | 24 => .double
  | 25 => .object RX4
  | 26 => .object RX8
  | 27 => .object RX9
  | _ => .object "java/lang/Object"
/-- the surroundings: the outside cells' addresses, the classes, the arrays' classes, the law's start -/
abbrev PE : Type := (Nat → Nat) × va_G × (Nat → ClassId) × State
/-- a pure address as the machine's -/
def ad (E : PE) (a : Nat) : Nat := if a < 10 then E.1 a else E.2.2.2.heap.size + (a - 10)
def avr (E : PE) (r : Option Nat) : Option Nat := r.map (ad E)
def av (E : PE) (v : Value) : Value := match v with
  | .ref a => .ref (ad E a)
  | w => w
def pA (E : PE) : Nat → Prop := fun q => E.2.2.2.heap.size ≤ q
def pfv (E : PE) (h : PH) (c a k : Nat) : Value := match pft c k with
  | .long => .long (hL h c a k)
  | .object _ => va_rf (avr E (hR h c a k))
  | .array _ => va_rf (avr E (hR h c a k))
  | _ => .int (hI h c a k)
def pfs (E : PE) (h : PH) (c a : Nat) : List Value := (List.range (pfn c)).map (pfv E h c a)
def par (E : PE) (h : PH) (c a : Nat) : vp_A := match pat c with
  | .long => (hN h a, .inr (.inl (hL h c a)))
  | .double => (hN h a, .inr (.inr (.inr (.inl (hD h a)))))
  | .object _ => (hN h a, .inr (.inr (.inr (.inr (fun k => avr E (hR h c a k))))))
  | _ => (hN h a, .inl (hI h c a))
/-- the cell at an address -/
def pce (E : PE) (h : PH) (a : Nat) : va_E := if hK h a < 19 then .inr (hK h a, pfs E h (hK h a) a) else .inl (E.2.2.1 (hK h a), par E h (hK h a) a)
def pws (E : PE) (h : PH) : va_W := (hC h).map (fun a => (ad E a, pce E h a))
abbrev ptys (E : PE) : List (ClassId × FieldType) := (List.range 9).map (fun k => (E.2.2.1 (20 + k), pat (20 + k)))
/-- the machine's heap holds the pure one -/
def Rl (E : PE) (h : PH) (H : Heap) : Prop :=
  (∀ q : Nat, q < E.2.2.2.heap.size → H[q]? = E.2.2.2.heap[q]?) ∧ H.size + 10 = E.2.2.2.heap.size + hX h ∧ 10 ≤ hX h ∧ va_P E.2.1 pcl (pws E h) H ∧ va_D (pA E) (pws E h) ∧
  (∀ a, hK h a ≠ 19 → a = 3 ∨ a ∈ hC h) ∧ (∀ a ∈ hC h, 10 ≤ a ∧ a < hX h ∧ (hK h a < 15 ∨ (20 ≤ hK h a ∧ hK h a ≤ 28))) ∧ hK h 3 = 28 ∧ hN h 3 = 0
theorem ad_lo {E : PE} {a b : Nat} (ha : 10 ≤ a) (hb : 10 ≤ b) (h : ad E a = ad E b) : a = b := by
  unfold ad at h
  rw [if_neg (by omega), if_neg (by omega)] at h
  omega
theorem av_cat (E : PE) (v : Value) : (av E v).category = v.category := by cases v <;> rfl
theorem av_rf (E : PE) (r : Option Nat) : av E (va_rf r) = va_rf (avr E r) := by cases r <;> rfl
theorem Rl.K {E : PE} {h : PH} {H : Heap} (r : Rl E h H) {a c : Nat} (hk : hK h a = c) (hc : c ≠ 19) (ha : a ≠ 3) : a ∈ hC h := by
  rcases r.2.2.2.2.2.1 a (by rw [hk]; exact hc) with e | e
  · exact absurd e ha
  · exact e
theorem pws_get {E : PE} {h : PH} {a : Nat} (ha : a ∈ hC h) : ∃ k : Nat, (hC h)[k]? = some a ∧ (pws E h)[k]? = some (ad E a, pce E h a) := by
  obtain ⟨k, hk⟩ := List.getElem?_of_mem ha
  exact ⟨k, hk, by unfold pws; rw [List.getElem?_map, hk]; rfl⟩
theorem pws_obj {E : PE} {h : PH} {H : Heap} (r : Rl E h H) {a c : Nat} (hk : hK h a = c) (hc : c < 19) : ∃ k : Nat, (hC h)[k]? = some a ∧ (pws E h)[k]? = some (ad E a, .inr (c, pfs E h c a)) := by
  obtain ⟨k, h1, h2⟩ := pws_get (E := E) (r.K hk (by omega) (fun e => by subst e; rw [r.2.2.2.2.2.2.2.1] at hk; omega))
  refine ⟨k, h1, h2.trans ?_⟩
  unfold pce
  rw [hk, if_pos hc]
theorem pws_arr {E : PE} {h : PH} {H : Heap} (r : Rl E h H) {a c : Nat} (hk : hK h a = c) (hc : 19 < c) (h3 : a ≠ 3) : ∃ k : Nat, (hC h)[k]? = some a ∧ (pws E h)[k]? = some (ad E a, .inl (E.2.2.1 c, par E h c a)) := by
  obtain ⟨k, h1, h2⟩ := pws_get (E := E) (r.K hk (by omega) h3)
  refine ⟨k, h1, h2.trans ?_⟩
  unfold pce
  rw [hk, if_neg (by omega)]
theorem pws_len {E : PE} {h : PH} : (pws E h).length = (hC h).length := by unfold pws; rw [List.length_map]
/-- one cell is written -/
theorem pws_set {E : PE} {h h' : PH} {H : Heap} (r : Rl E h H) {a k : Nat} (hk : (hC h)[k]? = some a) (hC' : hC h' = hC h) (he : ∀ b, b ≠ a → pce E h' b = pce E h b) : (pws E h).set k (ad E a, pce E h' a) = pws E h' := by
  refine List.ext_getElem? fun j => ?_
  have hl : k < (pws E h).length := by rw [pws_len]; exact (List.getElem?_eq_some_iff.mp hk).1
  by_cases hj : j = k
  · subst hj
    rw [List.getElem?_set_self hl]
    unfold pws
    rw [List.getElem?_map, hC', hk]
    rfl
  · rw [List.getElem?_set_ne (Ne.symm hj)]
    unfold pws
    rw [List.getElem?_map, List.getElem?_map, hC']
    cases hb : (hC h)[j]? with
    | none => rfl
    | some b =>
      have hne : b ≠ a := by
        intro e
        subst e
        refine hj (r.2.2.2.2.1.1 j k (ad E b, pce E h b) (ad E b, pce E h b) ?_ ?_ rfl)
        · unfold pws; rw [List.getElem?_map, hb]; rfl
        · unfold pws; rw [List.getElem?_map, hk]; rfl
      show some (ad E b, pce E h b) = some (ad E b, pce E h' b)
      rw [he b hne]
theorem Rl.set {E : PE} {h h' : PH} {H H1 : Heap} (r : Rl E h H) (hP : va_P E.2.1 pcl (pws E h') H1) (hD : va_D (pA E) (pws E h')) (hsz : H1.size = H.size) (hold : ∀ q : Nat, q < E.2.2.2.heap.size → H1[q]? = H[q]?)
    (hC' : hC h' = hC h) (hK' : hK h' = hK h) (hN' : hN h' = hN h) (hX' : hX h' = hX h) : Rl E h' H1 := by
  obtain ⟨a1, a2, a3, a4, a5, a6, a7, a8, a9⟩ := r
  refine ⟨fun q hq => (hold q hq).trans (a1 q hq), by rw [hsz, hX']; exact a2, by rw [hX']; exact a3, hP, hD, ?_, ?_, by rw [hK']; exact a8, by rw [hN']; exact a9⟩
  · rw [hK', hC']; exact a6
  · rw [hK', hC', hX']; exact a7
/-- one live cell is written, the rest stays -/
theorem Rl.put {E : PE} {h h' : PH} {H H1 : Heap} (r : Rl E h H) {a k : Nat} (hk : (hC h)[k]? = some a) (he : va_at E.2.1 pcl (ad E a, pce E h' a) H1) (z : H1.size = H.size) (oq : ∀ q : Nat, q ≠ ad E a → H1[q]? = H[q]?)
    (hb : ∀ b, b ≠ a → pce E h' b = pce E h b) (hC' : hC h' = hC h) (hK' : hK h' = hK h) (hN' : hN h' = hN h) (hX' : hX h' = hX h) : Rl E h' H1 := by
  have hp : (pws E h)[k]? = some (ad E a, pce E h a) := by unfold pws; rw [List.getElem?_map, hk]; rfl
  have e := pws_set (h' := h') r hk hC' hb
  have h10 := (r.2.2.2.2.2.2.1 a (List.mem_of_getElem? hk)).1
  refine r.set ?_ ?_ z (fun q hq => oq q ?_) hC' hK' hN' hX'
  · rw [← e]; exact r.2.2.2.1.set r.2.2.2.2.1 hp he oq
  · rw [← e]; exact r.2.2.2.2.1.set hp
  · unfold ad; rw [if_neg (by omega)]; omega
theorem Rl.pAt {E : PE} {h : PH} {H : Heap} (r : Rl E h H) {a k : Nat} (hk : (hC h)[k]? = some a) : pA E (ad E a) := by
  have hp : (pws E h)[k]? = some (ad E a, pce E h a) := by unfold pws; rw [List.getElem?_map, hk]; rfl
  exact r.2.2.2.2.1.2 k _ hp
/-- the cell that a kind tells -/
theorem pce_obj {E : PE} {h : PH} {a c : Nat} (hk : hK h a = c) (hc : c < 19) : pce E h a = .inr (c, pfs E h c a) := by
  unfold pce; rw [hk, if_pos hc]
theorem pce_arr {E : PE} {h : PH} {a c : Nat} (hk : hK h a = c) (hc : 19 < c) : pce E h a = .inl (E.2.2.1 c, par E h c a) := by
  unfold pce; rw [hk, if_neg (by omega)]
theorem pfs_get (E : PE) (h : PH) {c a k : Nat} (hk : k < pfn c) : (pfs E h c a)[k]? = some (pfv E h c a k) := by
  unfold pfs; rw [List.getElem?_map, List.getElem?_range hk]; rfl
theorem pfs_len (E : PE) (h : PH) (c a : Nat) : (pfs E h c a).length = pfn c := by unfold pfs; rw [List.length_map, List.length_range]
theorem pfs_set (E : PE) (h h' : PH) {c a k : Nat} {v : Value} (hv : pfv E h' c a k = v) (ho : ∀ j, j ≠ k → pfv E h' c a j = pfv E h c a j) : (pfs E h c a).set k v = pfs E h' c a := by
  refine List.ext_getElem? fun j => ?_
  by_cases hj : j = k
  · subst hj
    by_cases hl : j < pfn c
    · rw [List.getElem?_set_self (by rw [pfs_len]; exact hl), pfs_get E h' hl, hv]
    · rw [List.getElem?_eq_none (by rw [List.length_set, pfs_len]; omega), List.getElem?_eq_none (by rw [pfs_len]; omega)]
  · rw [List.getElem?_set_ne (Ne.symm hj)]
    unfold pfs
    rw [List.getElem?_map, List.getElem?_map]
    by_cases hl : j < pfn c
    · rw [List.getElem?_range hl]
      show some (pfv E h c a j) = some (pfv E h' c a j)
      rw [ho j hj]
    · rw [List.getElem?_eq_none (by rw [List.length_range]; omega)]
      rfl
