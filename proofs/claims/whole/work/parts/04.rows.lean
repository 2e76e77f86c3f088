/-! ONE INSTRUCTION, ONE ROW, over the pure heap: what a method's body needs of its start (Cx), what a point of it is (PW) -/
def Tall : List Cond := lw_tbl.filter goodWord
theorem Tall_of {w : Cond} (h : w ∈ lw_tbl) (g : goodWord w = true) : w ∈ Tall := List.mem_filter.mpr ⟨h, g⟩
theorem Tall_good {ws : List Cond} (h : ∀ w ∈ ws, w ∈ Tall) : GoodIn Tall ws := fun w hw => ⟨h w hw, good_of_word (List.mem_filter.mp (h w hw)).2⟩
/-- locals: what is known of each (the first entry counts) -/
abbrev PL : Type := List (Nat × Option Value)
def lvO (E : PE) (L : PL) : List (Nat × Value) := L.filterMap (fun q => match L.lookup q.1 with
  | some (some v) => some (q.1, av E v)
  | _ => none)
theorem lkp_mem {α : Type} {L : List (Nat × α)} {i : Nat} {x : α} (h : L.lookup i = some x) : ∃ q ∈ L, q.1 = i := by
  induction L with
  | nil => cases h
  | cons q L ih =>
    obtain ⟨j, y⟩ := q
    by_cases e : i = j
    · exact ⟨(j, y), List.mem_cons_self, e.symm⟩
    · rw [List.lookup_cons, show (i == j) = false from by simpa using e] at h
      obtain ⟨q, h1, h2⟩ := ih h
      exact ⟨q, List.mem_cons_of_mem _ h1, h2⟩
theorem lvO_mem {E : PE} {L : PL} {i : Nat} {w : Value} : (i, w) ∈ lvO E L ↔ ∃ v, L.lookup i = some (some v) ∧ w = av E v := by
  unfold lvO
  rw [List.mem_filterMap]
  constructor
  · rintro ⟨q, -, h⟩
    revert h
    split
    · rename_i v hv
      intro h
      cases h
      exact ⟨v, hv, rfl⟩
    · intro h; cases h
  · rintro ⟨v, hv, rfl⟩
    obtain ⟨q, h1, rfl⟩ := lkp_mem hv
    refine ⟨q, h1, ?_⟩
    rw [hv]
theorem lvO_at {E : PE} {L : PL} {ls : Array Slot} {nL i : Nat} {v : Value} (h : lv_has ls nL (lvO E L)) (hv : L.lookup i = some (some v)) : ls[i]? = some (.val (av E v)) := h.2.2 (i, av E v) (lvO_mem.mpr ⟨v, hv, rfl⟩)
/-- no long or double begins ahead of the place -/
def nw1 (L : PL) (i : Nat) : Bool := match i with
  | 0 => true
  | k + 1 => match L.lookup k with
    | some (some v) => v.category != 2
    | _ => true
theorem nw1_of {L : PL} {j i : Nat} {v : Value} (h : nw1 L i = true) (hj : j + 1 = i) (hv : L.lookup j = some (some v)) : v.category ≠ 2 := by
  subst hj
  unfold nw1 at h
  simp only [hv] at h
  simpa using h
theorem lvO_st1 {E : PE} {L : PL} {ls : Array Slot} {nL i : Nat} {v : Value} (h : lv_has ls nL ((i, av E v) :: (lvO E L).filter (fun q => !(q.1 == i) && !(q.1 + 1 == i && q.2.category == 2)))) (hw : nw1 L i = true) : lv_has ls nL (lvO E ((i, some v) :: L)) := by
  refine ⟨h.1, h.2.1, fun q hq => ?_⟩
  obtain ⟨j, w⟩ := q
  obtain ⟨x, hx, rfl⟩ := lvO_mem.mp hq
  by_cases e : j = i
  · subst e
    rw [List.lookup_cons_self] at hx
    cases hx
    exact h.2.2 _ List.mem_cons_self
  · rw [List.lookup_cons, show (j == i) = false from by simpa using e] at hx
    refine h.2.2 _ (List.mem_cons_of_mem _ (List.mem_filter.mpr ⟨lvO_mem.mpr ⟨x, hx, rfl⟩, ?_⟩))
    by_cases e2 : j + 1 = i
    · have := nw1_of hw e2 hx
      simp [e, av_cat, this]
    · simp [e, e2]
theorem lvO_st2 {E : PE} {L : PL} {ls : Array Slot} {nL i : Nat} {v : Value} (h : lv_has ls nL ((i, av E v) :: (lvO E L).filter (fun q => !(q.1 == i) && (!(q.1 == i + 1) && !(q.1 + 1 == i && q.2.category == 2))))) (hw : nw1 L i = true) : lv_has ls nL (lvO E ((i, some v) :: (i + 1, none) :: L)) := by
  refine ⟨h.1, h.2.1, fun q hq => ?_⟩
  obtain ⟨j, w⟩ := q
  obtain ⟨x, hx, rfl⟩ := lvO_mem.mp hq
  by_cases e : j = i
  · subst e
    rw [List.lookup_cons_self] at hx
    cases hx
    exact h.2.2 _ List.mem_cons_self
  · rw [List.lookup_cons, show (j == i) = false from by simpa using e] at hx
    by_cases e3 : j = i + 1
    · subst e3
      rw [List.lookup_cons_self] at hx
      cases hx
    · rw [List.lookup_cons, show (j == i + 1) = false from by simpa using e3] at hx
      refine h.2.2 _ (List.mem_cons_of_mem _ (List.mem_filter.mpr ⟨lvO_mem.mpr ⟨x, hx, rfl⟩, ?_⟩))
      by_cases e2 : j + 1 = i
      · have := nw1_of hw e2 hx
        simp [e, e3, av_cat, this]
      · simp [e, e2, e3]
/-- some of the locals -/
def pk (L : PL) (ks : List Nat) : PL := ks.map (fun i => (i, (L.lookup i).getD none))
theorem pk_has {E : PE} {L : PL} {ls : Array Slot} {nL : Nat} (ks : List Nat) (h : lv_has ls nL (lvO E L)) : lv_has ls nL (lvO E (pk L ks)) := by
  refine ⟨h.1, h.2.1, fun q hq => ?_⟩
  obtain ⟨j, w⟩ := q
  obtain ⟨x, hx, rfl⟩ := lvO_mem.mp hq
  refine h.2.2 _ (lvO_mem.mpr ⟨x, ?_, rfl⟩)
  clear hq
  induction ks with
  | nil => cases hx
  | cons k ks ih =>
    unfold pk at hx
    rw [List.map_cons] at hx
    by_cases e : j = k
    · subst e
      rw [List.lookup_cons_self] at hx
      cases hl : L.lookup j with
      | none => rw [hl] at hx; cases hx
      | some y => rw [hl] at hx; exact hx
    · rw [List.lookup_cons, show (j == k) = false from by simpa using e] at hx
      exact ih hx
/-- what the law's start gives -/
def pwv (j : Nat) : Int32 := nI (27 ^ j)
/-- a static's value, an array outside, as the law's start has them -/
abbrev gZ (E : PE) (C n d : String) (v : Value) : Prop := va_Z C n d v (pA E) E.2.2.2 E.2.2.2.heap
abbrev gT (E : PE) (ty : FieldType) (a N : Nat) (f : Nat → Value) : Prop := va_T ty (E.1 a) N f (pA E) E.2.2.2 E.2.2.2.heap
def Gz (E : PE) : Prop := (gZ E RX10 "POWERS" "[I" (.ref (E.1 1)) ∧ gT E .int 1 7 (fun j => .int (pwv j))) ∧ (gZ E RX4 "NO_WORDS" "[I" (.ref (E.1 2))) ∧
  (gZ E RJx4a65c "DEFAULTCAPACITY_EMPTY_ELEMENTDATA" "[Ljava/lang/Object;" (.ref (E.1 3)) ∧ gT E (.object "java/lang/Object") 3 0 (fun _ => .null)) ∧ gZ E RJ0 "COMPACT_STRINGS" "Z" (.int 1) ∧
  (gZ E RJ6 "DigitOnes" "[B" (.ref (E.1 4)) ∧ gT E .byte 4 100 (fun j => .int (nI (48 + j % 10)))) ∧ (gZ E RJ6 "DigitTens" "[B" (.ref (E.1 5)) ∧ gT E .byte 5 100 (fun j => .int (nI (48 + j / 10)))) ∧
  (∃ v : Value, (v = .null ∨ v = .ref (E.1 6)) ∧ gZ E RJ3 "SIOOBE_FORMATTER" "Ljava/util/function/BiFunction;" v) ∧
  vx_Zq Bundle.tN "UNASSIGNED_STACK" Bundle.steD (pA E) E.2.2.2 E.2.2.2.heap ∧ vx_Zq Bundle.tN "SUPPRESSED_SENTINEL" Bundle.listD (pA E) E.2.2.2 E.2.2.2.heap ∧ va_Mi "[Ljava/lang/Object;" (E.1 7) E.2.2.2
def Gs (E : PE) (l : Launch) : Prop := (∃ A0, ∀ w ∈ lw_tbl, w.before A0 E.2.2.2 = true) ∧ va_K E.2.1 pcl (ptys E) E.2.2.2 ∧ l.stackTraces = false ∧ E.1 3 < E.2.2.2.heap.size ∧ True ∧ Gz E
def Cx (E : PE) (p : Program) (l : Launch) (e : Env) (R : Room) (s : State) (m : MethodId) (args : Array Value) (below : List Frame) (meth : Method) (c : Code) (own : String) (cc : ByteArray) (nL : Nat) (ret : Option FieldType) : Prop :=
  p.tables.exec = Jvm.exec ∧ c.code = cc ∧ c.maxLocals = nL ∧ s.vm.findClass own = some m.cls ∧ (∀ w ∈ Tall, w.before args s = true) ∧ E.2.2.2.WarmedH s.vm ∧ Gs E l ∧ meth.locks = false ∧ meth.sig.returnType = ret ∧ E.2.2.2.heap.size ≤ s.heap.size ∧ (∀ q : Nat, q < E.2.2.2.heap.size → s.heap[q]? = E.2.2.2.heap[q]?)
def PW (E : PE) (p : Program) (l : Launch) (e : Env) (R : Room) (s : State) (m : MethodId) (args : Array Value) (below : List Frame) (meth : Method) (c : Code) (nL uc us : Nat) (Q : State → Prop) (h : PH) (pc : Nat) (L : PL) (st : List Value) : Prop :=
  ∀ (H : Heap) (locs : List Loc) (ls : Array Slot), Rl E h H → va_S (pA E) s.heap H locs → lv_has ls nL (lvO E L) → W p l e R s m args below meth c H locs uc us Q (F0 m pc ls (st.map (av E)))
section PR
variable {E : PE} {p : Program} {l : Launch} {e : Env} {R : Room} {s : State} {m : MethodId} {args : Array Value} {below : List Frame} {meth : Method} {c : Code} {own : String} {cc : ByteArray} {nL : Nat} {ret : Option FieldType} {uc us : Nat} {Q : State → Prop} {h : PH} {pc : Nat} {L : PL} {st : List Value}
theorem p_pick (ks : List Nat) (k : PW E p l e R s m args below meth c nL uc us Q h pc (pk L ks) st) : PW E p l e R s m args below meth c nL uc us Q h pc L st := fun H locs ls hR hS hl => k H locs ls hR hS (pk_has ks hl)
theorem p_widen {uc' us' : Nat} (h1 : uc ≤ uc') (h2 : us ≤ us') (k : PW E p l e R s m args below meth c nL uc' us' Q h pc L st) : PW E p l e R s m args below meth c nL uc us Q h pc L st := fun H locs ls hR hS hl => W.widen h1 h2 (k H locs ls hR hS hl)
theorem Cx.K (X : Cx E p l e R s m args below meth c own cc nL ret) : va_K E.2.1 pcl (ptys E) s := va_K.moved X.2.2.2.2.2.1.alike X.2.2.2.2.2.2.1.2.1

theorem p_iconst (X : Cx E p l e R s m args below meth c own cc nL ret) {n : Int} {v : Int32} (hd : decode cc pc = .ok (.iconst n, 1)) (hv : Int32.ofInt n = v) (k : PW E p l e R s m args below meth c nL uc us Q h (pc + 1) L (.int v :: st)) : PW E p l e R s m args below meth c nL uc us Q h pc L st := fun H locs ls hR hS hl => lv_iconst X.1 X.2.1 hd hv (k H locs ls hR hS hl)
theorem p_bipush (X : Cx E p l e R s m args below meth c own cc nL ret) {n : Int} {v : Int32} (hd : decode cc pc = .ok (.bipush n, 2)) (hv : (Int8.ofInt n).toInt32 = v) (k : PW E p l e R s m args below meth c nL uc us Q h (pc + 2) L (.int v :: st)) : PW E p l e R s m args below meth c nL uc us Q h pc L st := fun H locs ls hR hS hl => lv_bipush X.1 X.2.1 hd hv (k H locs ls hR hS hl)
theorem p_sipush (X : Cx E p l e R s m args below meth c own cc nL ret) {n : Int} {v : Int32} (hd : decode cc pc = .ok (.sipush n, 3)) (hv : (Int16.ofInt n).toInt32 = v) (k : PW E p l e R s m args below meth c nL uc us Q h (pc + 3) L (.int v :: st)) : PW E p l e R s m args below meth c nL uc us Q h pc L st := fun H locs ls hR hS hl => lv_sipush X.1 X.2.1 hd hv (k H locs ls hR hS hl)
theorem p_lconst (X : Cx E p l e R s m args below meth c own cc nL ret) {n : Fin 2} {v : Int64} (hd : decode cc pc = .ok (.lconst n, 1)) (hv : Int64.ofNat (n : Nat) = v) (k : PW E p l e R s m args below meth c nL uc us Q h (pc + 1) L (.long v :: st)) : PW E p l e R s m args below meth c nL uc us Q h pc L st := fun H locs ls hR hS hl => lv_lconst X.1 X.2.1 hd hv (k H locs ls hR hS hl)
theorem p_null (X : Cx E p l e R s m args below meth c own cc nL ret)  (hd : decode cc pc = .ok (.aconst_null, 1))  (k : PW E p l e R s m args below meth c nL uc us Q h (pc + 1) L (va_rf none :: st)) : PW E p l e R s m args below meth c nL uc us Q h pc L st := fun H locs ls hR hS hl => lv_null X.1 X.2.1 hd (k H locs ls hR hS hl)
theorem p_iload_n (X : Cx E p l e R s m args below meth c own cc nL ret) {k0 : Fin 4} {i : Nat} {x : Int32} (hd : decode cc pc = .ok (.iload_n k0, 1)) (hi : (k0 : Nat) = i) (hx : L.lookup i = some (some (.int x))) (k : PW E p l e R s m args below meth c nL uc us Q h (pc + 1) L (.int x :: st)) : PW E p l e R s m args below meth c nL uc us Q h pc L st := fun H locs ls hR hS hl => lv_iload_n (x := x) X.1 X.2.1 hd hi (lvO_at hl hx) (k H locs ls hR hS hl)
theorem p_lload_n (X : Cx E p l e R s m args below meth c own cc nL ret) {k0 : Fin 4} {i : Nat} {x : Int64} (hd : decode cc pc = .ok (.lload_n k0, 1)) (hi : (k0 : Nat) = i) (hx : L.lookup i = some (some (.long x))) (k : PW E p l e R s m args below meth c nL uc us Q h (pc + 1) L (.long x :: st)) : PW E p l e R s m args below meth c nL uc us Q h pc L st := fun H locs ls hR hS hl => lv_lload_n (x := x) X.1 X.2.1 hd hi (lvO_at hl hx) (k H locs ls hR hS hl)
theorem p_aload_n (X : Cx E p l e R s m args below meth c own cc nL ret) {k0 : Fin 4} {i : Nat} {x : Nat} (hd : decode cc pc = .ok (.aload_n k0, 1)) (hi : (k0 : Nat) = i) (hx : L.lookup i = some (some (.ref x))) (k : PW E p l e R s m args below meth c nL uc us Q h (pc + 1) L (.ref x :: st)) : PW E p l e R s m args below meth c nL uc us Q h pc L st := fun H locs ls hR hS hl => lv_aload_n (x := (ad E x)) X.1 X.2.1 hd hi (lvO_at hl hx) (k H locs ls hR hS hl)
theorem p_iload (X : Cx E p l e R s m args below meth c own cc nL ret) {i : Nat} {x : Int32} (hd : decode cc pc = .ok (.iload i, 2)) (hx : L.lookup i = some (some (.int x))) (k : PW E p l e R s m args below meth c nL uc us Q h (pc + 2) L (.int x :: st)) : PW E p l e R s m args below meth c nL uc us Q h pc L st := fun H locs ls hR hS hl => lv_iload (x := x) X.1 X.2.1 hd (lvO_at hl hx) (k H locs ls hR hS hl)
theorem p_dload (X : Cx E p l e R s m args below meth c own cc nL ret) {i : Nat} {x : UInt64} (hd : decode cc pc = .ok (.dload i, 2)) (hx : L.lookup i = some (some (.double x))) (k : PW E p l e R s m args below meth c nL uc us Q h (pc + 2) L (.double x :: st)) : PW E p l e R s m args below meth c nL uc us Q h pc L st := fun H locs ls hR hS hl => lv_dload (x := x) X.1 X.2.1 hd (lvO_at hl hx) (k H locs ls hR hS hl)
theorem p_fload (X : Cx E p l e R s m args below meth c own cc nL ret) {i : Nat} {x : UInt32} (hd : decode cc pc = .ok (.fload i, 2)) (hx : L.lookup i = some (some (.float x))) (k : PW E p l e R s m args below meth c nL uc us Q h (pc + 2) L (.float x :: st)) : PW E p l e R s m args below meth c nL uc us Q h pc L st := fun H locs ls hR hS hl => lv_fload (x := x) X.1 X.2.1 hd (lvO_at hl hx) (k H locs ls hR hS hl)
theorem p_aload (X : Cx E p l e R s m args below meth c own cc nL ret) {i : Nat} {x : Nat} (hd : decode cc pc = .ok (.aload i, 2)) (hx : L.lookup i = some (some (.ref x))) (k : PW E p l e R s m args below meth c nL uc us Q h (pc + 2) L (.ref x :: st)) : PW E p l e R s m args below meth c nL uc us Q h pc L st := fun H locs ls hR hS hl => lv_aload (x := (ad E x)) X.1 X.2.1 hd (lvO_at hl hx) (k H locs ls hR hS hl)
theorem p_aloadq_n (X : Cx E p l e R s m args below meth c own cc nL ret) {k0 : Fin 4} {i : Nat} {r : Option Nat} (hd : decode cc pc = .ok (.aload_n k0, 1)) (hi : (k0 : Nat) = i) (hx : L.lookup i = some (some (va_rf r))) (k : PW E p l e R s m args below meth c nL uc us Q h (pc + 1) L (va_rf r :: st)) : PW E p l e R s m args below meth c nL uc us Q h pc L st := fun H locs ls hR hS hl => by
  cases r with
  | none => exact lv_aload_nN X.1 X.2.1 hd hi (lvO_at hl hx) (k H locs ls hR hS hl)
  | some a => exact lv_aload_n (x := ad E a) X.1 X.2.1 hd hi (lvO_at hl hx) (k H locs ls hR hS hl)
theorem p_aloadq (X : Cx E p l e R s m args below meth c own cc nL ret) {i : Nat} {r : Option Nat} (hd : decode cc pc = .ok (.aload i, 2)) (hx : L.lookup i = some (some (va_rf r))) (k : PW E p l e R s m args below meth c nL uc us Q h (pc + 2) L (va_rf r :: st)) : PW E p l e R s m args below meth c nL uc us Q h pc L st := fun H locs ls hR hS hl => by
  cases r with
  | none => exact lv_aloadN X.1 X.2.1 hd (lvO_at hl hx) (k H locs ls hR hS hl)
  | some a => exact lv_aload (x := ad E a) X.1 X.2.1 hd (lvO_at hl hx) (k H locs ls hR hS hl)
theorem p_istore_n (X : Cx E p l e R s m args below meth c own cc nL ret) {k0 : Fin 4} {i : Nat} {x : Int32} (hd : decode cc pc = .ok (.istore_n k0, 1)) (hi : (k0 : Nat) = i) (hn : i < nL) (hw : nw1 L i = true) (k : PW E p l e R s m args below meth c nL uc us Q h (pc + 1) ((i, some (.int x)) :: L) st) : PW E p l e R s m args below meth c nL uc us Q h pc L (.int x :: st) := fun H locs ls hR hS hl => lv_istore_n (x := x) X.1 X.2.1 hd hi hl hn rfl (fun ls2 hl2 => k H locs ls2 hR hS (lvO_st1 hl2 hw))
theorem p_lstore_n (X : Cx E p l e R s m args below meth c own cc nL ret) {k0 : Fin 4} {i : Nat} {x : Int64} (hd : decode cc pc = .ok (.lstore_n k0, 1)) (hi : (k0 : Nat) = i) (hn : i + 1 < nL) (hw : nw1 L i = true) (k : PW E p l e R s m args below meth c nL uc us Q h (pc + 1) ((i, some (.long x)) :: (i + 1, none) :: L) st) : PW E p l e R s m args below meth c nL uc us Q h pc L (.long x :: st) := fun H locs ls hR hS hl => lv_lstore_n (x := x) X.1 X.2.1 hd hi hl hn rfl (fun ls2 hl2 => k H locs ls2 hR hS (lvO_st2 hl2 hw))
theorem p_astore_n (X : Cx E p l e R s m args below meth c own cc nL ret) {k0 : Fin 4} {i : Nat} {x : Nat} (hd : decode cc pc = .ok (.astore_n k0, 1)) (hi : (k0 : Nat) = i) (hn : i < nL) (hw : nw1 L i = true) (k : PW E p l e R s m args below meth c nL uc us Q h (pc + 1) ((i, some (.ref x)) :: L) st) : PW E p l e R s m args below meth c nL uc us Q h pc L (.ref x :: st) := fun H locs ls hR hS hl => lv_astore_n (x := (ad E x)) X.1 X.2.1 hd hi hl hn rfl (fun ls2 hl2 => k H locs ls2 hR hS (lvO_st1 hl2 hw))
theorem p_istore (X : Cx E p l e R s m args below meth c own cc nL ret) {i : Nat} {x : Int32} (hd : decode cc pc = .ok (.istore i, 2)) (hn : i < nL) (hw : nw1 L i = true) (k : PW E p l e R s m args below meth c nL uc us Q h (pc + 2) ((i, some (.int x)) :: L) st) : PW E p l e R s m args below meth c nL uc us Q h pc L (.int x :: st) := fun H locs ls hR hS hl => lv_istore (x := x) X.1 X.2.1 hd hl hn rfl (fun ls2 hl2 => k H locs ls2 hR hS (lvO_st1 hl2 hw))
theorem p_dstore (X : Cx E p l e R s m args below meth c own cc nL ret) {i : Nat} {x : UInt64} (hd : decode cc pc = .ok (.dstore i, 2)) (hn : i + 1 < nL) (hw : nw1 L i = true) (k : PW E p l e R s m args below meth c nL uc us Q h (pc + 2) ((i, some (.double x)) :: (i + 1, none) :: L) st) : PW E p l e R s m args below meth c nL uc us Q h pc L (.double x :: st) := fun H locs ls hR hS hl => lv_dstore (x := x) X.1 X.2.1 hd hl hn rfl (fun ls2 hl2 => k H locs ls2 hR hS (lvO_st2 hl2 hw))
theorem p_fstore (X : Cx E p l e R s m args below meth c own cc nL ret) {i : Nat} {x : UInt32} (hd : decode cc pc = .ok (.fstore i, 2)) (hn : i < nL) (hw : nw1 L i = true) (k : PW E p l e R s m args below meth c nL uc us Q h (pc + 2) ((i, some (.float x)) :: L) st) : PW E p l e R s m args below meth c nL uc us Q h pc L (.float x :: st) := fun H locs ls hR hS hl => lv_fstore (x := x) X.1 X.2.1 hd hl hn rfl (fun ls2 hl2 => k H locs ls2 hR hS (lvO_st1 hl2 hw))
theorem p_astore (X : Cx E p l e R s m args below meth c own cc nL ret) {i : Nat} {x : Nat} (hd : decode cc pc = .ok (.astore i, 2)) (hn : i < nL) (hw : nw1 L i = true) (k : PW E p l e R s m args below meth c nL uc us Q h (pc + 2) ((i, some (.ref x)) :: L) st) : PW E p l e R s m args below meth c nL uc us Q h pc L (.ref x :: st) := fun H locs ls hR hS hl => lv_astore (x := (ad E x)) X.1 X.2.1 hd hl hn rfl (fun ls2 hl2 => k H locs ls2 hR hS (lvO_st1 hl2 hw))
theorem p_astoreq_n (X : Cx E p l e R s m args below meth c own cc nL ret) {k0 : Fin 4} {i : Nat} {r : Option Nat} (hd : decode cc pc = .ok (.astore_n k0, 1)) (hi : (k0 : Nat) = i) (hn : i < nL) (hw : nw1 L i = true) (k : PW E p l e R s m args below meth c nL uc us Q h (pc + 1) ((i, some (va_rf r)) :: L) st) : PW E p l e R s m args below meth c nL uc us Q h pc L (va_rf r :: st) := fun H locs ls hR hS hl => by
  cases r with
  | none => exact lv_astore_nN X.1 X.2.1 hd hi hl hn rfl (fun ls2 hl2 => k H locs ls2 hR hS (lvO_st1 hl2 hw))
  | some a => exact lv_astore_n (x := ad E a) X.1 X.2.1 hd hi hl hn rfl (fun ls2 hl2 => k H locs ls2 hR hS (lvO_st1 hl2 hw))
theorem p_astoreq (X : Cx E p l e R s m args below meth c own cc nL ret) {i : Nat} {r : Option Nat} (hd : decode cc pc = .ok (.astore i, 2)) (hn : i < nL) (hw : nw1 L i = true) (k : PW E p l e R s m args below meth c nL uc us Q h (pc + 2) ((i, some (va_rf r)) :: L) st) : PW E p l e R s m args below meth c nL uc us Q h pc L (va_rf r :: st) := fun H locs ls hR hS hl => by
  cases r with
  | none => exact lv_astoreN X.1 X.2.1 hd hl hn rfl (fun ls2 hl2 => k H locs ls2 hR hS (lvO_st1 hl2 hw))
  | some a => exact lv_astore (x := ad E a) X.1 X.2.1 hd hl hn rfl (fun ls2 hl2 => k H locs ls2 hR hS (lvO_st1 hl2 hw))
theorem p_iinc (X : Cx E p l e R s m args below meth c own cc nL ret) {i : Nat} {n : Int} {x v : Int32} (hd : decode cc pc = .ok (.iinc i n, 3)) (hx : L.lookup i = some (some (.int x))) (hv : Int32.ofInt n = v) (hn : i < nL) (hw : nw1 L i = true) (k : PW E p l e R s m args below meth c nL uc us Q h (pc + 3) ((i, some (.int (x + v))) :: L) st) : PW E p l e R s m args below meth c nL uc us Q h pc L st := fun H locs ls hR hS hl => by
  obtain ⟨j, hj⟩ := List.getElem?_of_mem (lvO_mem.mpr ⟨_, hx, rfl⟩ : (i, av E (.int x)) ∈ lvO E L)
  exact lv_iinc (v := x + v) X.1 X.2.1 hd hl hj (by rw [hv]) hn rfl (fun ls2 hl2 => k H locs ls2 hR hS (lvO_st1 (v := .int (x + v)) hl2 hw))
theorem p_iadd (X : Cx E p l e R s m args below meth c own cc nL ret) {x : Int32} {y : Int32} (hd : decode cc pc = .ok (.iadd, 1))  (k : PW E p l e R s m args below meth c nL uc us Q h (pc + 1) L (.int (x + y) :: st)) : PW E p l e R s m args below meth c nL uc us Q h pc L (.int y :: .int x :: st) := fun H locs ls hR hS hl => lv_iadd X.1 X.2.1 hd  (k H locs ls hR hS hl)
theorem p_isub (X : Cx E p l e R s m args below meth c own cc nL ret) {x : Int32} {y : Int32} (hd : decode cc pc = .ok (.isub, 1))  (k : PW E p l e R s m args below meth c nL uc us Q h (pc + 1) L (.int (x - y) :: st)) : PW E p l e R s m args below meth c nL uc us Q h pc L (.int y :: .int x :: st) := fun H locs ls hR hS hl => lv_isub X.1 X.2.1 hd  (k H locs ls hR hS hl)
theorem p_imul (X : Cx E p l e R s m args below meth c own cc nL ret) {x : Int32} {y : Int32} (hd : decode cc pc = .ok (.imul, 1))  (k : PW E p l e R s m args below meth c nL uc us Q h (pc + 1) L (.int (x * y) :: st)) : PW E p l e R s m args below meth c nL uc us Q h pc L (.int y :: .int x :: st) := fun H locs ls hR hS hl => lv_imul X.1 X.2.1 hd  (k H locs ls hR hS hl)
theorem p_iand (X : Cx E p l e R s m args below meth c own cc nL ret) {x : Int32} {y : Int32} (hd : decode cc pc = .ok (.iand, 1))  (k : PW E p l e R s m args below meth c nL uc us Q h (pc + 1) L (.int (x &&& y) :: st)) : PW E p l e R s m args below meth c nL uc us Q h pc L (.int y :: .int x :: st) := fun H locs ls hR hS hl => lv_iand X.1 X.2.1 hd  (k H locs ls hR hS hl)
theorem p_ior (X : Cx E p l e R s m args below meth c own cc nL ret) {x : Int32} {y : Int32} (hd : decode cc pc = .ok (.ior, 1))  (k : PW E p l e R s m args below meth c nL uc us Q h (pc + 1) L (.int (x ||| y) :: st)) : PW E p l e R s m args below meth c nL uc us Q h pc L (.int y :: .int x :: st) := fun H locs ls hR hS hl => lv_ior X.1 X.2.1 hd  (k H locs ls hR hS hl)
theorem p_ixor (X : Cx E p l e R s m args below meth c own cc nL ret) {x : Int32} {y : Int32} (hd : decode cc pc = .ok (.ixor, 1))  (k : PW E p l e R s m args below meth c nL uc us Q h (pc + 1) L (.int (x ^^^ y) :: st)) : PW E p l e R s m args below meth c nL uc us Q h pc L (.int y :: .int x :: st) := fun H locs ls hR hS hl => lv_ixor X.1 X.2.1 hd  (k H locs ls hR hS hl)
theorem p_ishl (X : Cx E p l e R s m args below meth c own cc nL ret) {x : Int32} {y : Int32} (hd : decode cc pc = .ok (.ishl, 1))  (k : PW E p l e R s m args below meth c nL uc us Q h (pc + 1) L (.int (x <<< (y &&& 31)) :: st)) : PW E p l e R s m args below meth c nL uc us Q h pc L (.int y :: .int x :: st) := fun H locs ls hR hS hl => lv_ishl X.1 X.2.1 hd  (k H locs ls hR hS hl)
theorem p_ishr (X : Cx E p l e R s m args below meth c own cc nL ret) {x : Int32} {y : Int32} (hd : decode cc pc = .ok (.ishr, 1))  (k : PW E p l e R s m args below meth c nL uc us Q h (pc + 1) L (.int (x >>> (y &&& 31)) :: st)) : PW E p l e R s m args below meth c nL uc us Q h pc L (.int y :: .int x :: st) := fun H locs ls hR hS hl => lv_ishr X.1 X.2.1 hd  (k H locs ls hR hS hl)
theorem p_iushr (X : Cx E p l e R s m args below meth c own cc nL ret) {x : Int32} {y : Int32} (hd : decode cc pc = .ok (.iushr, 1))  (k : PW E p l e R s m args below meth c nL uc us Q h (pc + 1) L (.int ((x.toUInt32 >>> (y.toUInt32 &&& Int32.toUInt32 31)).toInt32) :: st)) : PW E p l e R s m args below meth c nL uc us Q h pc L (.int y :: .int x :: st) := fun H locs ls hR hS hl => lv_iushr X.1 X.2.1 hd rfl (k H locs ls hR hS hl)
theorem p_idiv (X : Cx E p l e R s m args below meth c own cc nL ret) {x : Int32} {y : Int32} (hd : decode cc pc = .ok (.idiv, 1)) (hne : ¬ y = 0) (k : PW E p l e R s m args below meth c nL uc us Q h (pc + 1) L (.int (x / y) :: st)) : PW E p l e R s m args below meth c nL uc us Q h pc L (.int y :: .int x :: st) := fun H locs ls hR hS hl => lv_idiv X.1 X.2.1 hd hne (k H locs ls hR hS hl)
theorem p_irem (X : Cx E p l e R s m args below meth c own cc nL ret) {x : Int32} {y : Int32} (hd : decode cc pc = .ok (.irem, 1)) (hne : ¬ y = 0) (k : PW E p l e R s m args below meth c nL uc us Q h (pc + 1) L (.int (x - x / y * y) :: st)) : PW E p l e R s m args below meth c nL uc us Q h pc L (.int y :: .int x :: st) := fun H locs ls hR hS hl => lv_irem X.1 X.2.1 hd hne (k H locs ls hR hS hl)
theorem p_ladd (X : Cx E p l e R s m args below meth c own cc nL ret) {x : Int64} {y : Int64} (hd : decode cc pc = .ok (.ladd, 1))  (k : PW E p l e R s m args below meth c nL uc us Q h (pc + 1) L (.long (x + y) :: st)) : PW E p l e R s m args below meth c nL uc us Q h pc L (.long y :: .long x :: st) := fun H locs ls hR hS hl => lv_ladd X.1 X.2.1 hd  (k H locs ls hR hS hl)
theorem p_lsub (X : Cx E p l e R s m args below meth c own cc nL ret) {x : Int64} {y : Int64} (hd : decode cc pc = .ok (.lsub, 1))  (k : PW E p l e R s m args below meth c nL uc us Q h (pc + 1) L (.long (x - y) :: st)) : PW E p l e R s m args below meth c nL uc us Q h pc L (.long y :: .long x :: st) := fun H locs ls hR hS hl => lv_lsub X.1 X.2.1 hd  (k H locs ls hR hS hl)
theorem p_land (X : Cx E p l e R s m args below meth c own cc nL ret) {x : Int64} {y : Int64} (hd : decode cc pc = .ok (.land, 1))  (k : PW E p l e R s m args below meth c nL uc us Q h (pc + 1) L (.long (x &&& y) :: st)) : PW E p l e R s m args below meth c nL uc us Q h pc L (.long y :: .long x :: st) := fun H locs ls hR hS hl => lv_land X.1 X.2.1 hd  (k H locs ls hR hS hl)
theorem p_lor (X : Cx E p l e R s m args below meth c own cc nL ret) {x : Int64} {y : Int64} (hd : decode cc pc = .ok (.lor, 1))  (k : PW E p l e R s m args below meth c nL uc us Q h (pc + 1) L (.long (x ||| y) :: st)) : PW E p l e R s m args below meth c nL uc us Q h pc L (.long y :: .long x :: st) := fun H locs ls hR hS hl => lv_lor X.1 X.2.1 hd  (k H locs ls hR hS hl)
theorem p_lxor (X : Cx E p l e R s m args below meth c own cc nL ret) {x : Int64} {y : Int64} (hd : decode cc pc = .ok (.lxor, 1))  (k : PW E p l e R s m args below meth c nL uc us Q h (pc + 1) L (.long (x ^^^ y) :: st)) : PW E p l e R s m args below meth c nL uc us Q h pc L (.long y :: .long x :: st) := fun H locs ls hR hS hl => lv_lxor X.1 X.2.1 hd  (k H locs ls hR hS hl)
theorem p_lshl (X : Cx E p l e R s m args below meth c own cc nL ret) {x : Int64} {y : Int32} (hd : decode cc pc = .ok (.lshl, 1))  (k : PW E p l e R s m args below meth c nL uc us Q h (pc + 1) L (.long (x <<< (y.toInt64 &&& 63)) :: st)) : PW E p l e R s m args below meth c nL uc us Q h pc L (.int y :: .long x :: st) := fun H locs ls hR hS hl => lv_lshl X.1 X.2.1 hd rfl (k H locs ls hR hS hl)
theorem p_lushr (X : Cx E p l e R s m args below meth c own cc nL ret) {x : Int64} {y : Int32} (hd : decode cc pc = .ok (.lushr, 1))  (k : PW E p l e R s m args below meth c nL uc us Q h (pc + 1) L (.long ((x.toUInt64 >>> (y.toInt64.toUInt64 &&& Int64.toUInt64 63)).toInt64) :: st)) : PW E p l e R s m args below meth c nL uc us Q h pc L (.int y :: .long x :: st) := fun H locs ls hR hS hl => lv_lushr X.1 X.2.1 hd rfl (k H locs ls hR hS hl)
theorem p_lcmp (X : Cx E p l e R s m args below meth c own cc nL ret) {x y : Int64} (hd : decode cc pc = .ok (.lcmp, 1)) (k : PW E p l e R s m args below meth c nL uc us Q h (pc + 1) L (.int (lg_cmp x y) :: st)) : PW E p l e R s m args below meth c nL uc us Q h pc L (.long y :: .long x :: st) := fun H locs ls hR hS hl => W.lcmp X.1 X.2.1 hd (k H locs ls hR hS hl)
theorem p_ddiv (X : Cx E p l e R s m args below meth c own cc nL ret) {x : UInt64} {y : UInt64} (hd : decode cc pc = .ok (.ddiv, 1)) (hne : vf_n64 (FP.ddiv x y)) (k : PW E p l e R s m args below meth c nL uc us Q h (pc + 1) L (.double (FP.ddiv x y) :: st)) : PW E p l e R s m args below meth c nL uc us Q h pc L (.double y :: .double x :: st) := fun H locs ls hR hS hl => lv_ddiv X.1 X.2.1 hd hne (k H locs ls hR hS hl)
theorem p_fdiv (X : Cx E p l e R s m args below meth c own cc nL ret) {x : UInt32} {y : UInt32} (hd : decode cc pc = .ok (.fdiv, 1)) (hne : vf_n32 (FP.fdiv x y)) (k : PW E p l e R s m args below meth c nL uc us Q h (pc + 1) L (.float (FP.fdiv x y) :: st)) : PW E p l e R s m args below meth c nL uc us Q h pc L (.float y :: .float x :: st) := fun H locs ls hR hS hl => lv_fdiv X.1 X.2.1 hd hne (k H locs ls hR hS hl)
theorem p_dcmp (X : Cx E p l e R s m args below meth c own cc nL ret) {x y : UInt64} {op : CmpOp} (hd : decode cc pc = .ok (.dcmp op, 1)) (k : PW E p l e R s m args below meth c nL uc us Q h (pc + 1) L (.int (Op.cmpValue (FP.dcmp x y) op) :: st)) : PW E p l e R s m args below meth c nL uc us Q h pc L (.double y :: .double x :: st) := fun H locs ls hR hS hl => lv_dcmp X.1 X.2.1 hd (k H locs ls hR hS hl)
theorem p_fcmp (X : Cx E p l e R s m args below meth c own cc nL ret) {x y : UInt32} {op : CmpOp} (hd : decode cc pc = .ok (.fcmp op, 1)) (k : PW E p l e R s m args below meth c nL uc us Q h (pc + 1) L (.int (Op.cmpValue (FP.fcmp x y) op) :: st)) : PW E p l e R s m args below meth c nL uc us Q h pc L (.float y :: .float x :: st) := fun H locs ls hR hS hl => lv_fcmp X.1 X.2.1 hd (k H locs ls hR hS hl)
theorem p_ineg (X : Cx E p l e R s m args below meth c own cc nL ret) {x : Int32} (hd : decode cc pc = .ok (.ineg, 1))  (k : PW E p l e R s m args below meth c nL uc us Q h (pc + 1) L (.int (-x) :: st)) : PW E p l e R s m args below meth c nL uc us Q h pc L (.int x :: st) := fun H locs ls hR hS hl => lv_ineg X.1 X.2.1 hd  (k H locs ls hR hS hl)
theorem p_i2l (X : Cx E p l e R s m args below meth c own cc nL ret) {x : Int32} (hd : decode cc pc = .ok (.i2l, 1))  (k : PW E p l e R s m args below meth c nL uc us Q h (pc + 1) L (.long (x.toInt64) :: st)) : PW E p l e R s m args below meth c nL uc us Q h pc L (.int x :: st) := fun H locs ls hR hS hl => lv_i2l X.1 X.2.1 hd rfl (k H locs ls hR hS hl)
theorem p_l2i (X : Cx E p l e R s m args below meth c own cc nL ret) {x : Int64} (hd : decode cc pc = .ok (.l2i, 1))  (k : PW E p l e R s m args below meth c nL uc us Q h (pc + 1) L (.int (x.toInt32) :: st)) : PW E p l e R s m args below meth c nL uc us Q h pc L (.long x :: st) := fun H locs ls hR hS hl => lv_l2i X.1 X.2.1 hd rfl (k H locs ls hR hS hl)
theorem p_i2b (X : Cx E p l e R s m args below meth c own cc nL ret) {x : Int32} (hd : decode cc pc = .ok (.i2b, 1))  (k : PW E p l e R s m args below meth c nL uc us Q h (pc + 1) L (.int (x.toInt8.toInt32) :: st)) : PW E p l e R s m args below meth c nL uc us Q h pc L (.int x :: st) := fun H locs ls hR hS hl => lv_i2b X.1 X.2.1 hd rfl (k H locs ls hR hS hl)
theorem p_i2c (X : Cx E p l e R s m args below meth c own cc nL ret) {x : Int32} (hd : decode cc pc = .ok (.i2c, 1))  (k : PW E p l e R s m args below meth c nL uc us Q h (pc + 1) L (.int ((x.toUInt32 % 65536).toInt32) :: st)) : PW E p l e R s m args below meth c nL uc us Q h pc L (.int x :: st) := fun H locs ls hR hS hl => lv_i2c X.1 X.2.1 hd rfl (k H locs ls hR hS hl)
theorem p_i2d (X : Cx E p l e R s m args below meth c own cc nL ret) {x : Int32} (hd : decode cc pc = .ok (.i2d, 1))  (k : PW E p l e R s m args below meth c nL uc us Q h (pc + 1) L (.double (FP.i2d x) :: st)) : PW E p l e R s m args below meth c nL uc us Q h pc L (.int x :: st) := fun H locs ls hR hS hl => lv_i2d X.1 X.2.1 hd  (k H locs ls hR hS hl)
theorem p_i2f (X : Cx E p l e R s m args below meth c own cc nL ret) {x : Int32} (hd : decode cc pc = .ok (.i2f, 1))  (k : PW E p l e R s m args below meth c nL uc us Q h (pc + 1) L (.float (FP.i2f x) :: st)) : PW E p l e R s m args below meth c nL uc us Q h pc L (.int x :: st) := fun H locs ls hR hS hl => lv_i2f X.1 X.2.1 hd  (k H locs ls hR hS hl)
theorem p_dup (X : Cx E p l e R s m args below meth c own cc nL ret) {v : Value} (hd : decode cc pc = .ok (.dup, 1)) (hv : v.category = 1) (k : PW E p l e R s m args below meth c nL uc us Q h (pc + 1) L (v :: v :: st)) : PW E p l e R s m args below meth c nL uc us Q h pc L (v :: st) := fun H locs ls hR hS hl => lv_dup X.1 X.2.1 hd ((av_cat E v).trans hv) (k H locs ls hR hS hl)
theorem p_pop (X : Cx E p l e R s m args below meth c own cc nL ret) {v : Value} (hd : decode cc pc = .ok (.pop, 1)) (hv : v.category = 1) (k : PW E p l e R s m args below meth c nL uc us Q h (pc + 1) L st) : PW E p l e R s m args below meth c nL uc us Q h pc L (v :: st) := fun H locs ls hR hS hl => lv_pop X.1 X.2.1 hd ((av_cat E v).trans hv) (k H locs ls hR hS hl)
theorem p_dup_x1 (X : Cx E p l e R s m args below meth c own cc nL ret) {v z : Value} (hd : decode cc pc = .ok (.dup_x1, 1)) (hv : v.category = 1) (hz : z.category = 1) (k : PW E p l e R s m args below meth c nL uc us Q h (pc + 1) L (v :: z :: v :: st)) : PW E p l e R s m args below meth c nL uc us Q h pc L (v :: z :: st) := fun H locs ls hR hS hl => lv_dup_x1 X.1 X.2.1 hd ((av_cat E v).trans hv) ((av_cat E z).trans hz) (k H locs ls hR hS hl)
theorem p_icmp_eq (X : Cx E p l e R s m args below meth c own cc nL ret) {x y : Int32} {off : Int} {tgt : Nat} (hd : decode cc pc = .ok (.if_icmp .eq off, 3)) (ht : (pc : Int) + off = (tgt : Int)) (kt : x = y → PW E p l e R s m args below meth c nL uc us Q h tgt L st) (kf : ¬ (x = y) → PW E p l e R s m args below meth c nL uc us Q h (pc + 3) L st) : PW E p l e R s m args below meth c nL uc us Q h pc L (.int y :: .int x :: st) := fun H locs ls hR hS hl => lv_icmp_eq X.1 X.2.1 hd ht (fun q => kt q H locs ls hR hS hl) (fun q => kf (by first | exact q | exact fun z => z q) H locs ls hR hS hl)
theorem p_if_eq (X : Cx E p l e R s m args below meth c own cc nL ret) {x : Int32} {off : Int} {tgt : Nat} (hd : decode cc pc = .ok (.ifCond .eq off, 3)) (ht : (pc : Int) + off = (tgt : Int)) (kt : x = 0 → PW E p l e R s m args below meth c nL uc us Q h tgt L st) (kf : ¬ (x = 0) → PW E p l e R s m args below meth c nL uc us Q h (pc + 3) L st) : PW E p l e R s m args below meth c nL uc us Q h pc L (.int x :: st) := fun H locs ls hR hS hl => lv_if_eq X.1 X.2.1 hd ht (fun q => kt q H locs ls hR hS hl) (fun q => kf (by first | exact q | exact fun z => z q) H locs ls hR hS hl)
theorem p_icmp_ne (X : Cx E p l e R s m args below meth c own cc nL ret) {x y : Int32} {off : Int} {tgt : Nat} (hd : decode cc pc = .ok (.if_icmp .ne off, 3)) (ht : (pc : Int) + off = (tgt : Int)) (kt : ¬ x = y → PW E p l e R s m args below meth c nL uc us Q h tgt L st) (kf : ¬ (¬ x = y) → PW E p l e R s m args below meth c nL uc us Q h (pc + 3) L st) : PW E p l e R s m args below meth c nL uc us Q h pc L (.int y :: .int x :: st) := fun H locs ls hR hS hl => lv_icmp_ne X.1 X.2.1 hd ht (fun q => kt q H locs ls hR hS hl) (fun q => kf (by first | exact q | exact fun z => z q) H locs ls hR hS hl)
theorem p_if_ne (X : Cx E p l e R s m args below meth c own cc nL ret) {x : Int32} {off : Int} {tgt : Nat} (hd : decode cc pc = .ok (.ifCond .ne off, 3)) (ht : (pc : Int) + off = (tgt : Int)) (kt : ¬ x = 0 → PW E p l e R s m args below meth c nL uc us Q h tgt L st) (kf : ¬ (¬ x = 0) → PW E p l e R s m args below meth c nL uc us Q h (pc + 3) L st) : PW E p l e R s m args below meth c nL uc us Q h pc L (.int x :: st) := fun H locs ls hR hS hl => lv_if_ne X.1 X.2.1 hd ht (fun q => kt q H locs ls hR hS hl) (fun q => kf (by first | exact q | exact fun z => z q) H locs ls hR hS hl)
theorem p_icmp_lt (X : Cx E p l e R s m args below meth c own cc nL ret) {x y : Int32} {off : Int} {tgt : Nat} (hd : decode cc pc = .ok (.if_icmp .lt off, 3)) (ht : (pc : Int) + off = (tgt : Int)) (kt : x < y → PW E p l e R s m args below meth c nL uc us Q h tgt L st) (kf : ¬ (x < y) → PW E p l e R s m args below meth c nL uc us Q h (pc + 3) L st) : PW E p l e R s m args below meth c nL uc us Q h pc L (.int y :: .int x :: st) := fun H locs ls hR hS hl => lv_icmp_lt X.1 X.2.1 hd ht (fun q => kt q H locs ls hR hS hl) (fun q => kf (by first | exact q | exact fun z => z q) H locs ls hR hS hl)
theorem p_if_lt (X : Cx E p l e R s m args below meth c own cc nL ret) {x : Int32} {off : Int} {tgt : Nat} (hd : decode cc pc = .ok (.ifCond .lt off, 3)) (ht : (pc : Int) + off = (tgt : Int)) (kt : x < 0 → PW E p l e R s m args below meth c nL uc us Q h tgt L st) (kf : ¬ (x < 0) → PW E p l e R s m args below meth c nL uc us Q h (pc + 3) L st) : PW E p l e R s m args below meth c nL uc us Q h pc L (.int x :: st) := fun H locs ls hR hS hl => lv_if_lt X.1 X.2.1 hd ht (fun q => kt q H locs ls hR hS hl) (fun q => kf (by first | exact q | exact fun z => z q) H locs ls hR hS hl)
theorem p_icmp_ge (X : Cx E p l e R s m args below meth c own cc nL ret) {x y : Int32} {off : Int} {tgt : Nat} (hd : decode cc pc = .ok (.if_icmp .ge off, 3)) (ht : (pc : Int) + off = (tgt : Int)) (kt : y ≤ x → PW E p l e R s m args below meth c nL uc us Q h tgt L st) (kf : ¬ (y ≤ x) → PW E p l e R s m args below meth c nL uc us Q h (pc + 3) L st) : PW E p l e R s m args below meth c nL uc us Q h pc L (.int y :: .int x :: st) := fun H locs ls hR hS hl => lv_icmp_ge X.1 X.2.1 hd ht (fun q => kt q H locs ls hR hS hl) (fun q => kf (by first | exact q | exact fun z => z q) H locs ls hR hS hl)
theorem p_if_ge (X : Cx E p l e R s m args below meth c own cc nL ret) {x : Int32} {off : Int} {tgt : Nat} (hd : decode cc pc = .ok (.ifCond .ge off, 3)) (ht : (pc : Int) + off = (tgt : Int)) (kt : 0 ≤ x → PW E p l e R s m args below meth c nL uc us Q h tgt L st) (kf : ¬ (0 ≤ x) → PW E p l e R s m args below meth c nL uc us Q h (pc + 3) L st) : PW E p l e R s m args below meth c nL uc us Q h pc L (.int x :: st) := fun H locs ls hR hS hl => lv_if_ge X.1 X.2.1 hd ht (fun q => kt q H locs ls hR hS hl) (fun q => kf (by first | exact q | exact fun z => z q) H locs ls hR hS hl)
theorem p_icmp_gt (X : Cx E p l e R s m args below meth c own cc nL ret) {x y : Int32} {off : Int} {tgt : Nat} (hd : decode cc pc = .ok (.if_icmp .gt off, 3)) (ht : (pc : Int) + off = (tgt : Int)) (kt : y < x → PW E p l e R s m args below meth c nL uc us Q h tgt L st) (kf : ¬ (y < x) → PW E p l e R s m args below meth c nL uc us Q h (pc + 3) L st) : PW E p l e R s m args below meth c nL uc us Q h pc L (.int y :: .int x :: st) := fun H locs ls hR hS hl => lv_icmp_gt X.1 X.2.1 hd ht (fun q => kt q H locs ls hR hS hl) (fun q => kf (by first | exact q | exact fun z => z q) H locs ls hR hS hl)
theorem p_if_gt (X : Cx E p l e R s m args below meth c own cc nL ret) {x : Int32} {off : Int} {tgt : Nat} (hd : decode cc pc = .ok (.ifCond .gt off, 3)) (ht : (pc : Int) + off = (tgt : Int)) (kt : 0 < x → PW E p l e R s m args below meth c nL uc us Q h tgt L st) (kf : ¬ (0 < x) → PW E p l e R s m args below meth c nL uc us Q h (pc + 3) L st) : PW E p l e R s m args below meth c nL uc us Q h pc L (.int x :: st) := fun H locs ls hR hS hl => lv_if_gt X.1 X.2.1 hd ht (fun q => kt q H locs ls hR hS hl) (fun q => kf (by first | exact q | exact fun z => z q) H locs ls hR hS hl)
theorem p_icmp_le (X : Cx E p l e R s m args below meth c own cc nL ret) {x y : Int32} {off : Int} {tgt : Nat} (hd : decode cc pc = .ok (.if_icmp .le off, 3)) (ht : (pc : Int) + off = (tgt : Int)) (kt : x ≤ y → PW E p l e R s m args below meth c nL uc us Q h tgt L st) (kf : ¬ (x ≤ y) → PW E p l e R s m args below meth c nL uc us Q h (pc + 3) L st) : PW E p l e R s m args below meth c nL uc us Q h pc L (.int y :: .int x :: st) := fun H locs ls hR hS hl => lv_icmp_le X.1 X.2.1 hd ht (fun q => kt q H locs ls hR hS hl) (fun q => kf (by first | exact q | exact fun z => z q) H locs ls hR hS hl)
theorem p_if_le (X : Cx E p l e R s m args below meth c own cc nL ret) {x : Int32} {off : Int} {tgt : Nat} (hd : decode cc pc = .ok (.ifCond .le off, 3)) (ht : (pc : Int) + off = (tgt : Int)) (kt : x ≤ 0 → PW E p l e R s m args below meth c nL uc us Q h tgt L st) (kf : ¬ (x ≤ 0) → PW E p l e R s m args below meth c nL uc us Q h (pc + 3) L st) : PW E p l e R s m args below meth c nL uc us Q h pc L (.int x :: st) := fun H locs ls hR hS hl => lv_if_le X.1 X.2.1 hd ht (fun q => kt q H locs ls hR hS hl) (fun q => kf (by first | exact q | exact fun z => z q) H locs ls hR hS hl)
theorem p_goto (X : Cx E p l e R s m args below meth c own cc nL ret) {off : Int} {tgt : Nat} (hd : decode cc pc = .ok (.goto off, 3)) (ht : (pc : Int) + off = (tgt : Int)) (k : PW E p l e R s m args below meth c nL uc us Q h tgt L st) : PW E p l e R s m args below meth c nL uc us Q h pc L st := fun H locs ls hR hS hl => lv_goto X.1 X.2.1 hd ht (k H locs ls hR hS hl)
theorem p_ifnull (X : Cx E p l e R s m args below meth c own cc nL ret) {r : Option Nat} {off : Int} {tgt : Nat} (hd : decode cc pc = .ok (.ifnull off, 3)) (ht : (pc : Int) + off = (tgt : Int)) (kt : r = none → PW E p l e R s m args below meth c nL uc us Q h tgt L st) (kf : ∀ a, r = some a → PW E p l e R s m args below meth c nL uc us Q h (pc + 3) L st) : PW E p l e R s m args below meth c nL uc us Q h pc L (va_rf r :: st) := fun H locs ls hR hS hl => by
  cases r with
  | none => exact lv_ifnullN X.1 X.2.1 hd ht (kt rfl H locs ls hR hS hl)
  | some a => exact lv_ifnull X.1 X.2.1 hd (kf a rfl H locs ls hR hS hl)
theorem p_ifnonnull (X : Cx E p l e R s m args below meth c own cc nL ret) {r : Option Nat} {off : Int} {tgt : Nat} (hd : decode cc pc = .ok (.ifnonnull off, 3)) (ht : (pc : Int) + off = (tgt : Int)) (kt : ∀ a, r = some a → PW E p l e R s m args below meth c nL uc us Q h tgt L st) (kf : r = none → PW E p l e R s m args below meth c nL uc us Q h (pc + 3) L st) : PW E p l e R s m args below meth c nL uc us Q h pc L (va_rf r :: st) := fun H locs ls hR hS hl => by
  cases r with
  | none => exact lv_ifnonnullN X.1 X.2.1 hd (kf rfl H locs ls hR hS hl)
  | some a => exact lv_ifnonnull X.1 X.2.1 hd ht (kt a rfl H locs ls hR hS hl)
theorem p_tableIn (X : Cx E p l e R s m args below meth c own cc nL ret) {dflt lo hi : Int} {offs : Array Int} {len : Nat} {x : Int32} {off : Int} {tgt : Nat} (hd : decode cc pc = .ok (.tableswitch dflt lo hi offs, len)) (h1 : ¬ x.toInt < lo) (h2 : ¬ hi < x.toInt) (ho : offs[(x.toInt - lo).toNat]? = some off) (ht : (pc : Int) + off = (tgt : Int)) (k : PW E p l e R s m args below meth c nL uc us Q h tgt L st) : PW E p l e R s m args below meth c nL uc us Q h pc L (.int x :: st) := fun H locs ls hR hS hl => lv_tableIn X.1 X.2.1 hd h1 h2 ho ht (k H locs ls hR hS hl)
theorem p_tableOut (X : Cx E p l e R s m args below meth c own cc nL ret) {dflt lo hi : Int} {offs : Array Int} {len : Nat} {x : Int32} {tgt : Nat} (hd : decode cc pc = .ok (.tableswitch dflt lo hi offs, len)) (h0 : x.toInt < lo ∨ hi < x.toInt) (ht : (pc : Int) + dflt = (tgt : Int)) (k : PW E p l e R s m args below meth c nL uc us Q h tgt L st) : PW E p l e R s m args below meth c nL uc us Q h pc L (.int x :: st) := fun H locs ls hR hS hl => lv_tableOut X.1 X.2.1 hd h0 ht (k H locs ls hR hS hl)
theorem p_lookup (X : Cx E p l e R s m args below meth c own cc nL ret) {dflt : Int} {ps : Array (Int × Int)} {len : Nat} {x : Int32} {off : Int} {tgt : Nat} (hd : decode cc pc = .ok (.lookupswitch dflt ps, len)) (hp : (ps.toList.zip (ps.toList.drop 1)).all (fun (a, next) => a.1 < next.1) = true) (ho : Op.lookupswitch.offset ps.toList dflt x.toInt = off) (ht : (pc : Int) + off = (tgt : Int)) (k : PW E p l e R s m args below meth c nL uc us Q h tgt L st) : PW E p l e R s m args below meth c nL uc us Q h pc L (.int x :: st) := fun H locs ls hR hS hl => lv_lookup X.1 X.2.1 hd hp ho ht (k H locs ls hR hS hl)
end PR
