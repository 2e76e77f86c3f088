/-! CONTRACTS over the pure heap: bodies, returns, calls, throws -/
def rmv (d mc ms : Nat) : Room := { frames := d, cells := mc, slots := ms, locals := 100 * d }
def QG (E : PE) (Q : Option Value → PH → Prop) : Array Value → State → Outcome → State → Prop := fun _ st oc t => ∃ (v : Option Value) (u : PH), oc = .returned (v.map (av E)) ∧ Q v u ∧ Rl E u t.heap ∧ va_F (pA E) st t
def XG (E : PE) (QX : String → PH → Prop) : String → State → State → Prop := fun En st t => ∃ u : PH, QX En u ∧ Rl E u t.heap ∧ va_F (pA E) st t
def pPc (E : PE) (As : List Value) (h : PH) : Array Value → State → Prop := va_Pc (As.map (av E)) (fun U => E.2.2.2.WarmedH U.vm ∧ Rl E h U.heap)
/-- a method's contract on one start: it returns, with Q; mc cells, ms slots at most -/
def Ct (E : PE) (l : Launch) (d mc ms : Nat) (y : MethodName) (cc : ByteArray) (nL : Nat) (ret : Option FieldType) (As : List Value) (h : PH) (Q : Option Value → PH → Prop) : Prop :=
  Met l y (.code y cc nL ret :: Tall) (rmv d mc ms) (pPc E As h) (QG E Q) mc ms (pA E)
/-- the same of a method that may throw: an exception of class En leaves it, with QX En -/
def CtX (E : PE) (l : Launch) (d mc ms : Nat) (y : MethodName) (cc : ByteArray) (nL : Nat) (ret : Option FieldType) (As : List Value) (h : PH) (Q : Option Value → PH → Prop) (QX : String → PH → Prop) : Prop :=
  vx_Met l y (.code y cc nL ret :: Tall) (rmv d mc ms) (pPc E As h) (QG E Q) (XG E QX) mc ms (pA E)
def pargs : Nat → List Value → PL
  | _, [] => []
  | i, v :: vs => (i, some v) :: pargs (if v.category = 2 then i + 2 else i + 1) vs
theorem pargs_in (E : PE) : ∀ (As : List Value) (i j : Nat) (v : Value), (pargs i As).lookup j = some (some v) → (j, av E v) ∈ lv_args i (As.map (av E))
  | [], _, _, _, h => by cases h
  | a :: As, i, j, v, h => by
    unfold pargs at h
    rw [List.map_cons]
    unfold lv_args
    by_cases e : j = i
    · subst e
      rw [List.lookup_cons_self] at h
      cases h
      exact List.mem_cons_self
    · rw [List.lookup_cons, show (j == i) = false from by simpa using e] at h
      rw [av_cat]
      exact List.mem_cons_of_mem _ (pargs_in E As _ j v h)
theorem lg_sl_av (E : PE) (As : List Value) : (lg_sl (As.map (av E))).length = (lg_sl As).length := by
  unfold lg_sl
  induction As with
  | nil => rfl
  | cons a As ih =>
    rw [List.map_cons, List.flatMap_cons, List.flatMap_cons, List.length_append, List.length_append, ih, av_cat]
    congr 1
    split <;> rfl
theorem pPc_blind (E : PE) (As : List Value) (h : PH) : FrameBlind (pPc E As h) := fun a U g mk q => ⟨q.1, q.2.1, q.2.2⟩
theorem ct_start {E : PE} {l : Launch} {d mc ms : Nat} {y : MethodName} {cc : ByteArray} {nL : Nat} {ret : Option FieldType} {As : List Value} {h : PH} {p : Program} {e : Env} {s : State} {m : MethodId} {args : Array Value} {below : List Frame} {meth : Method} {c : Code} {s₁ : State} {Q : State → Prop} (hG : Gs E l) (hlen : (lg_sl As).length ≤ nL)
    (B : BodyLoose p l y (headSpec (.code y cc nL ret :: Tall) (rmv d mc ms)) cc nL ret e s m args below meth c s₁) (hml : c.maxLocals = nL) (hv : pPc E As h args s)
    (k : Cx E p l e (rmv d mc ms) s m args below meth c y.cls cc nL ret → PW E p l e (rmv d mc ms) s m args below meth c nL 0 0 Q h 0 (pargs 0 As) []) :
    W p l e (rmv d mc ms) s m args below meth c s.heap [] 0 0 Q (entryFrame m args nL) := by
  obtain ⟨rfl, hW, hR0⟩ := hv
  have hts : ∀ w ∈ (Cond.code y cc nL ret :: Tall), w.before _ s = true := atoms_spec (ws := Cond.code y cc nL ret :: Tall) B.pre
  have X : Cx E p l e (rmv d mc ms) s m _ below meth c y.cls cc nL ret := ⟨B.exec, B.bytes, hml, findClass_of_methodNamed B.named, fun w hw => hts w (List.mem_cons_of_mem _ hw), hW, hG, B.notSynchronized, B.returns, by have h1 := hR0.2.1; have h2 := hR0.2.2.1; omega, hR0.1⟩
  have hl := lv_entry (As.map (av E)) (n := nL) (by rw [lg_sl_av]; exact hlen)
  rw [lg_entry_eq]
  generalize (lg_sl (As.map (av E)) ++ List.replicate (nL - (lg_sl (As.map (av E))).length) Slot.unset).toArray = ls at hl ⊢
  refine k X s.heap [] ls hR0 va_S.rf ⟨hl.1, hl.2.1, fun q hq => ?_⟩
  obtain ⟨j, v⟩ := q
  obtain ⟨x, hx, rfl⟩ := lvO_mem.mp hq
  exact hl.2.2 _ (pargs_in E As 0 j x hx)
theorem ct_of {E : PE} {l : Launch} {d mc ms : Nat} {y : MethodName} {cc : ByteArray} {nL : Nat} {ret : Option FieldType} {As : List Value} {h : PH} {Q : Option Value → PH → Prop} (hG : Gs E l) (hy : plainName y.cls = true) (hlen : (lg_sl As).length ≤ nL)
    (body : ∀ (p : Program) (e : Env) (s : State) (m : MethodId) (args : Array Value) (below : List Frame) (meth : Method) (c : Code), Cx E p l e (rmv d mc ms) s m args below meth c y.cls cc nL ret → meth.name = y.name →
      PW E p l e (rmv d mc ms) s m args below meth c nL 0 0 (MQ below (QG E Q) args s mc ms (pA E)) h 0 (pargs 0 As) []) : Ct E l d mc ms y cc nL ret As h Q := by
  refine Met.ofW (cc := cc) (maxL := nL) (ret := ret) hy rfl ?_
  intro p e s m args below meth c s₁ B hml hv
  exact ct_start hG hlen B hml hv (fun X => body p e s m args below meth c X (name_of_methodNamed B.named B.method).1)
theorem ctx_of {E : PE} {l : Launch} {d mc ms : Nat} {y : MethodName} {cc : ByteArray} {nL : Nat} {ret : Option FieldType} {As : List Value} {h : PH} {Q : Option Value → PH → Prop} {QX : String → PH → Prop} (hG : Gs E l) (hy : plainName y.cls = true) (hlen : (lg_sl As).length ≤ nL)
    (body : ∀ (p : Program) (e : Env) (s : State) (m : MethodId) (args : Array Value) (below : List Frame) (meth : Method) (c : Code), Cx E p l e (rmv d mc ms) s m args below meth c y.cls cc nL ret → (∀ x ∈ c.exceptionTable.toList, False) →
      PW E p l e (rmv d mc ms) s m args below meth c nL 0 0 (vx_MQ below (QG E Q) (XG E QX) args s mc ms (pA E)) h 0 (pargs 0 As) []) : CtX E l d mc ms y cc nL ret As h Q QX := by
  refine vx_ofW (cc := cc) (maxL := nL) (ret := ret) hy rfl ?_
  intro p e s m args below meth c s₁ B hml hex hv
  exact ct_start hG hlen B hml hv (fun X => body p e s m args below meth c X hex)
theorem Ct.weaken {E : PE} {l : Launch} {d mc ms : Nat} {y : MethodName} {cc : ByteArray} {nL : Nat} {ret : Option FieldType} {As : List Value} {h : PH} {Q Q' : Option Value → PH → Prop} (k : Ct E l d mc ms y cc nL ret As h Q) (hq : Q = Q') : Ct E l d mc ms y cc nL ret As h Q' := hq ▸ k
theorem room4 {st : List Value} (h : st.length ≤ 4) : (st.map fun v => v.category).sum ≤ 8 := by
  have k : ∀ st : List Value, (st.map fun v => v.category).sum ≤ 2 * st.length := by
    intro st
    induction st with
    | nil => exact Nat.le_refl _
    | cons v st ih =>
      rw [List.map_cons, List.sum_cons, List.length_cons]
      have := lv_cat v
      omega
  have := k st
  omega
theorem catsum_av (E : PE) (st : List Value) : ((st.map (av E)).map fun v => v.category).sum = (st.map fun v => v.category).sum := by
  rw [List.map_map, show (fun v : Value => v.category) ∘ av E = (fun v : Value => v.category) from funext (av_cat E)]
/-- a call's words: virtual (of the class itself), static, a constructor; the same across a nest -/
def notMH (y : MethodName) : Prop := y.cls ≠ "java/lang/invoke/MethodHandle" ∧ y.cls ≠ "java/lang/invoke/VarHandle"
def MLB (own : String) (idx : Nat) (y : MethodName) (cc : ByteArray) (nL : Nat) (ret : Option FieldType) (n : Nat) : Prop := notMH y ∧ (parseMethodDescriptor y.desc).map (fun d => d.parameters.length) = some n ∧ Cond.methodLink own idx y ∈ Tall ∧ Cond.initialized y.cls ∈ Tall ∧ Cond.code y cc nL ret ∈ Tall ∧ nL ≤ 70
def MLV (own : String) (idx : Nat) (y : MethodName) (cc : ByteArray) (nL : Nat) (ret : Option FieldType) (n ci : Nat) : Prop := MLB own idx y cc nL ret n ∧ Cond.instanceMethod y ∈ Tall ∧ Cond.selects y.cls y y ∈ Tall ∧ ∃ q : vw_C, pcl[ci]? = some q ∧ q.1 = y.cls
def MLS (own : String) (idx : Nat) (y : MethodName) (cc : ByteArray) (nL : Nat) (ret : Option FieldType) (n : Nat) : Prop := MLB own idx y cc nL ret n ∧ Cond.static y ∈ Tall
def MLI (own : String) (idx : Nat) (y : MethodName) (cc : ByteArray) (nL : Nat) (n : Nat) : Prop := MLB own idx y cc nL none n ∧ y.name = "<init>" ∧ Cond.instanceMethod y ∈ Tall
def MNB (own : String) (idx : Nat) (y : MethodName) (cc : ByteArray) (nL : Nat) (ret : Option FieldType) (n : Nat) : Prop := notMH y ∧ (parseMethodDescriptor y.desc).map (fun d => d.parameters.length) = some n ∧ (∃ host : String, Cond.methodLinkNest own idx y host ∈ lw_tbl) ∧ Cond.initialized y.cls ∈ Tall ∧ Cond.code y cc nL ret ∈ Tall ∧ nL ≤ 70
def MNV (own : String) (idx : Nat) (y : MethodName) (cc : ByteArray) (nL : Nat) (ret : Option FieldType) (n ci : Nat) : Prop := MNB own idx y cc nL ret n ∧ Cond.instanceMethod y ∈ Tall ∧ Cond.selects y.cls y y ∈ Tall ∧ ∃ q : vw_C, pcl[ci]? = some q ∧ q.1 = y.cls
def MNS (own : String) (idx : Nat) (y : MethodName) (cc : ByteArray) (nL : Nat) (ret : Option FieldType) (n : Nat) : Prop := MNB own idx y cc nL ret n ∧ Cond.static y ∈ Tall
def MNI (own : String) (idx : Nat) (y : MethodName) (cc : ByteArray) (nL : Nat) (n : Nat) : Prop := MNB own idx y cc nL none n ∧ y.name = "<init>" ∧ Cond.instanceMethod y ∈ Tall
theorem Rl.bump {E : PE} {h : PH} {H H1 : Heap} (r : Rl E h H) (z : H.size ≤ H1.size) (o : ∀ q : Nat, q < H.size → H1[q]? = H[q]?) : hX h ≤ H1.size + 10 - E.2.2.2.heap.size ∧ Rl E (hbump h (H1.size + 10 - E.2.2.2.heap.size)) H1 := by
  obtain ⟨a1, a2, a3, a4, a5, a6, a7, a8, a9⟩ := r
  have hx : hX (hbump h (H1.size + 10 - E.2.2.2.heap.size)) = H1.size + 10 - E.2.2.2.heap.size := rfl
  refine ⟨by omega, fun q hq => (o q (by omega)).trans (a1 q hq), by rw [hx]; omega, by rw [hx]; omega, a4.kept fun k q hk => o q.1 (a4 k q hk).lt, a5, a6, fun a ha => ?_, a8, a9⟩
  have := a7 a ha
  rw [hx]
  exact ⟨this.1, by omega, this.2.2⟩
section PC
variable {E : PE} {p : Program} {l : Launch} {e : Env} {R : Room} {s : State} {m : MethodId} {args : Array Value} {below : List Frame} {meth : Method} {c : Code} {own : String} {cc : ByteArray} {nL : Nat} {ret : Option FieldType} {uc us : Nat} {Qf : State → Prop} {h : PH} {pc : Nat} {L : PL} {st : List Value} {Q : Option Value → PH → Prop} {QX : String → PH → Prop} {mc ms D MC MS : Nat}
theorem p_iret (X : Cx E p l e R s m args below meth c own cc nL ret) (hret : ret = some .int) {v : Int32} (hd : decode cc pc = .ok (.ireturn, 1)) (hQ : Q (some (.int v)) h) (hc : uc ≤ mc) (hs : us ≤ ms) : PW E p l e R s m args below meth c nL uc us (MQ below (QG E Q) args s mc ms (pA E)) h pc L [.int v] := fun H locs ls rl hS hl =>
  W.widen hc hs (W.iret X.1 X.2.1 (X.2.2.2.2.2.2.2.2.1.trans hret) (fun t ht hW => ⟨some (.int v), h, rfl, hQ, by rw [ht]; exact rl, hS.F ht⟩) hS.2.2 hd X.2.2.2.2.2.2.2.1)
theorem p_lret (X : Cx E p l e R s m args below meth c own cc nL ret) (hret : ret = some .long) {v : Int64} (hd : decode cc pc = .ok (.lreturn, 1)) (hQ : Q (some (.long v)) h) (hc : uc ≤ mc) (hs : us ≤ ms) : PW E p l e R s m args below meth c nL uc us (MQ below (QG E Q) args s mc ms (pA E)) h pc L [.long v] := fun H locs ls rl hS hl =>
  W.widen hc hs (W.lret X.1 X.2.1 (X.2.2.2.2.2.2.2.2.1.trans hret) (fun t ht hW => ⟨some (.long v), h, rfl, hQ, by rw [ht]; exact rl, hS.F ht⟩) hS.2.2 hd X.2.2.2.2.2.2.2.1)
theorem p_dret (X : Cx E p l e R s m args below meth c own cc nL ret) (hret : ret = some .double) {v : UInt64} (hd : decode cc pc = .ok (.dreturn, 1)) (hQ : Q (some (.double v)) h) (hc : uc ≤ mc) (hs : us ≤ ms) : PW E p l e R s m args below meth c nL uc us (MQ below (QG E Q) args s mc ms (pA E)) h pc L [.double v] := fun H locs ls rl hS hl =>
  W.widen hc hs (W.dret X.1 X.2.1 (X.2.2.2.2.2.2.2.2.1.trans hret) (fun t ht hW => ⟨some (.double v), h, rfl, hQ, by rw [ht]; exact rl, hS.F ht⟩) hS.2.2 hd X.2.2.2.2.2.2.2.1)
theorem p_fret (X : Cx E p l e R s m args below meth c own cc nL ret) (hret : ret = some .float) {v : UInt32} (hd : decode cc pc = .ok (.freturn, 1)) (hQ : Q (some (.float v)) h) (hc : uc ≤ mc) (hs : us ≤ ms) : PW E p l e R s m args below meth c nL uc us (MQ below (QG E Q) args s mc ms (pA E)) h pc L [.float v] := fun H locs ls rl hS hl =>
  W.widen hc hs (W.fret X.1 X.2.1 (X.2.2.2.2.2.2.2.2.1.trans hret) (fun t ht hW => ⟨some (.float v), h, rfl, hQ, by rw [ht]; exact rl, hS.F ht⟩) hS.2.2 hd X.2.2.2.2.2.2.2.1)
theorem p_zret (X : Cx E p l e R s m args below meth c own cc nL ret) {ty : FieldType} (hret : ret = some ty) {v : Int32} (hn : narrow ty (.int v) = .int v) (hd : decode cc pc = .ok (.ireturn, 1)) (hQ : Q (some (.int v)) h) (hc : uc ≤ mc) (hs : us ≤ ms) : PW E p l e R s m args below meth c nL uc us (MQ below (QG E Q) args s mc ms (pA E)) h pc L [.int v] := fun H locs ls rl hS hl =>
  W.widen hc hs (W.zret X.1 X.2.1 (X.2.2.2.2.2.2.2.2.1.trans hret) hn (fun t ht hW => ⟨some (.int v), h, rfl, hQ, by rw [ht]; exact rl, hS.F ht⟩) hS.2.2 hd X.2.2.2.2.2.2.2.1)
theorem p_aret (X : Cx E p l e R s m args below meth c own cc nL ret) {rt : FieldType} (hret : ret = some rt) (hrt : (∃ n, rt = .object n) ∨ ∃ t, rt = .array t) {r : Option Nat} (hd : decode cc pc = .ok (.areturn, 1)) (hQ : Q (some (va_rf r)) h) (hc : uc ≤ mc) (hs : us ≤ ms) : PW E p l e R s m args below meth c nL uc us (MQ below (QG E Q) args s mc ms (pA E)) h pc L [va_rf r] := fun H locs ls rl hS hl =>
  W.widen hc hs (W.aret (v := av E (va_rf r)) X.1 X.2.1 (X.2.2.2.2.2.2.2.2.1.trans hret) hrt (by cases r with | none => exact Or.inl rfl | some a => exact Or.inr ⟨_, rfl⟩) (fun t ht hW => ⟨some (va_rf r), h, rfl, hQ, by rw [ht]; exact rl, hS.F ht⟩) hS.2.2 hd X.2.2.2.2.2.2.2.1)
theorem p_vret (X : Cx E p l e R s m args below meth c own cc nL ret) (hret : ret = none) (hd : decode cc pc = .ok (.return_, 1)) (hQ : Q none h) (hc : uc ≤ mc) (hs : us ≤ ms) : PW E p l e R s m args below meth c nL uc us (MQ below (QG E Q) args s mc ms (pA E)) h pc L [] := fun H locs ls rl hS hl =>
  W.widen hc hs (W.vret X.1 X.2.1 (X.2.2.2.2.2.2.2.2.1.trans hret) (fun t ht hW => ⟨none, h, rfl, hQ, by rw [ht]; exact rl, hS.F ht⟩) hS.2.2 hd X.2.2.2.2.2.2.2.1)
/-- a point of a method that may throw, at its end -/
theorem p_vx (k : PW E p l e R s m args below meth c nL uc us (MQ below (QG E Q) args s mc ms (pA E)) h pc L st) : PW E p l e R s m args below meth c nL uc us (vx_MQ below (QG E Q) (XG E QX) args s mc ms (pA E)) h pc L st := fun H locs ls rl hS hl => vx_ret (k H locs ls rl hS hl)
/-- behind a call -/
theorem p_back {H : Heap} {locs : List Loc} {ls : Array Slot} {st0 : List Value} {a : Array Value} {Q1 : Option Value → PH → Prop} {mc1 ms1 : Nat} (hS : va_S (pA E) s.heap H locs) (hl : lv_has ls nL (lvO E L))
    (hr : va_Run p l e R s m args below meth c H locs uc us mc1 ms1 (F0 m pc ls st0) (st.map (av E)) (QG E Q1 a) (pA E)) (kk : ∀ (v : Option Value) (u : PH), Q1 v u → PW E p l e R s m args below meth c nL (uc + mc1) (us + ms1) Qf u (pc + 3) L (v.toList ++ st)) : W p l e R s m args below meth c H locs uc us Qf (F0 m pc ls st0) := by
  intro T hT X0
  obtain ⟨v, st₀, t, T', L', h0, X', hL, e1, e2, ⟨pv, u, hv, hq, hrl, hz, hk⟩, stp⟩ := hr T hT X0
  cases hv
  rw [h0] at hz hk
  obtain ⟨t2, a1, b1⟩ := kk pv u hq T'.heap (locs ++ L') ls (by rw [e1]; exact hrl) ⟨Nat.le_trans hS.1 (by rw [e1]; exact hz), fun q h1 h2 => by rw [e1, hk q (Nat.lt_of_lt_of_le h1 hS.1) h2]; exact hS.2.1 q h1 h2, fun q hq => by
      rcases List.mem_append.mp hq with h | h
      · exact hS.2.2 q h
      · exact hL q h⟩ hl T' rfl X'
  refine ⟨t2, stp t2 ?_, b1⟩
  have e3 : (pv.toList ++ st).map (av E) = (pv.map (av E)).toList ++ st.map (av E) := by cases pv <;> rfl
  rw [e3] at a1
  exact a1
/-- behind a call that may throw, an exception going on to the caller -/
theorem p_backX {H : Heap} {locs : List Loc} {ls : Array Slot} {st0 : List Value} {a : Array Value} {Q1 : Option Value → PH → Prop} {QX1 : String → PH → Prop} {mc1 ms1 : Nat} (hex : ∀ x ∈ c.exceptionTable.toList, False) (hlocks : meth.locks = false) (hS : va_S (pA E) s.heap H locs) (hl : lv_has ls nL (lvO E L))
    (hr : vx_Run p l e R s m args below meth c H locs uc us mc1 ms1 (F0 m pc ls st0) (st.map (av E)) (QG E Q1 a) (XG E QX1) (pA E)) (hc : uc + mc1 ≤ mc) (hs : us + ms1 ≤ ms) (kx : ∀ En u, QX1 En u → QX En u)
    (kk : ∀ (v : Option Value) (u : PH), Q1 v u → PW E p l e R s m args below meth c nL (uc + mc1) (us + ms1) (vx_MQ below (QG E Q) (XG E QX) args s mc ms (pA E)) u (pc + 3) L (v.toList ++ st)) : W p l e R s m args below meth c H locs uc us (vx_MQ below (QG E Q) (XG E QX) args s mc ms (pA E)) (F0 m pc ls st0) := by
  intro T hT X0
  rcases hr T hT X0 with ⟨v, st₀, t, T', L', h0, X', hL, e1, e2, ⟨pv, u, hv, hq, hrl, hz, hk⟩, stp⟩ | ⟨q, st₀, t, T', L', En, ce, h0, X', hL, e1, e2, ⟨u, hqx, hrl, hz, hk⟩, hce, hcv, hcl, stp⟩
  · cases hv
    rw [h0] at hz hk
    obtain ⟨t2, a1, b1⟩ := kk pv u hq T'.heap (locs ++ L') ls (by rw [e1]; exact hrl) ⟨Nat.le_trans hS.1 (by rw [e1]; exact hz), fun q h1 h2 => by rw [e1, hk q (Nat.lt_of_lt_of_le h1 hS.1) h2]; exact hS.2.1 q h1 h2, fun q hq => by
        rcases List.mem_append.mp hq with h | h
        · exact hS.2.2 q h
        · exact hL q h⟩ hl T' rfl X'
    refine ⟨t2, stp t2 ?_, b1⟩
    have e3 : (pv.toList ++ st).map (av E) = (pv.map (av E)).toList ++ st.map (av E) := by cases pv <;> rfl
    rw [e3] at a1
    exact a1
  · rw [h0] at hz hk
    have hS1 : va_S (pA E) s.heap T'.heap (locs ++ L') := ⟨Nat.le_trans hS.1 (by rw [e1]; exact hz), fun q h1 h2 => by rw [e1, hk q (Nat.lt_of_lt_of_le h1 hS.1) h2]; exact hS.2.1 q h1 h2, fun q hq => by
        rcases List.mem_append.mp hq with h | h
        · exact hS.2.2 q h
        · exact hL q h⟩
    have k : vx_W p l e R s m args below meth c T'.heap (locs ++ L') (uc + mc1) (us + ms1) (vx_MQ below (QG E Q) (XG E QX) args s mc ms (pA E)) (F0 m pc ls (st.map (av E))) q :=
      vx_out (E := En) (ce := ce) (fun x hx => (hex x hx).elim) hlocks (by rw [e1]; exact hce) hcv hcl (fun t1 ht1 hal => ⟨u, kx En u hqx, by rw [ht1, e1]; exact hrl, hS1.F ht1⟩) hS1.2.2 hc hs
    obtain ⟨t2, a1, b1⟩ := k T' rfl X'
    exact ⟨t2, stp.trans a1, b1⟩
def thD : List Cond := [Cond.declares ⟨"java/lang/RuntimeException", "<init>", "()V"⟩, Cond.declares ⟨"java/lang/Exception", "<init>", "()V"⟩, Cond.declares ⟨"java/lang/Throwable", "<init>", "()V"⟩]
theorem Cx.Dc (X : Cx E p l e R s m args below meth c own cc nL ret) {y : MethodName} (h : Cond.declares y ∈ lw_tbl) : va_Nw (.declares y) s := by
  obtain ⟨A0, hA0⟩ := X.2.2.2.2.2.2.1.1
  exact va_Nw.warmD X.2.2.2.2.2.1 (va_tabs rfl rfl (hA0 _ h) : va_Nw _ E.2.2.2)
theorem Cx.thD (X : Cx E p l e R s m args below meth c own cc nL ret) : ∀ w ∈ thD, w.before args s = true :=
  vx_c (va_Nw.use rfl (X.Dc (List.mem_of_getElem? (i := 538) (by decide +kernel)))) (vx_c (va_Nw.use rfl (X.Dc (List.mem_of_getElem? (i := 540) (by decide +kernel)))) (vx_c (va_Nw.use rfl (X.Dc (List.mem_of_getElem? (i := 542) (by decide +kernel)))) vx_n))
/-- an exception is made and thrown here -/
theorem p_throw0 (X : Cx E p l e R s m args below meth c own cc nL ret) {cls : String} {names : List String} {ik ic : Nat} (hex : ∀ x ∈ c.exceptionTable.toList, False) (hcls : Bundle.fit cls = true) (hnames : ∀ n ∈ names, Bundle.fit n = true) (hk : Cond.classLink own ik cls ∈ Tall) (hini : Cond.initialized cls ∈ Tall) (hat : ∀ w ∈ (vx_at0 own ic cls names).filter goodWord, w ∈ Tall) (hng : ∀ w ∈ (vx_at0 own ic cls names).filter (fun w => !goodWord w), w ∈ Cond.castable cls cls :: thD) (hcs : Cond.castable cls cls ∈ lw_tbl) (hgood : ∀ w ∈ Cond.classLink own ik cls :: Cond.initialized cls :: vx_at0 own ic cls names, vx_ot w = true)
    (d0 : decode cc pc = .ok (.new ik, 3)) (d3 : decode cc (pc + 3) = .ok (.dup, 1)) (d4 : decode cc (pc + 4) = .ok (.invokespecial ic, 3)) (d7 : decode cc (pc + 7) = .ok (.athrow, 1)) (hfr : names.length + 3 < R.frames) (hlo : (st.map fun v => v.category).sum + (13 * (names.length + 1) + 42) ≤ R.locals) (hRc : uc + 1 ≤ R.cells) (hRs : us + 6 ≤ R.slots) (hc : uc + 1 ≤ mc) (hs : us + 6 ≤ ms)
    (hQ : ∀ n, hX h ≤ n → QX cls (hbump h n)) : PW E p l e R s m args below meth c nL uc us (vx_MQ below (QG E Q) (XG E QX) args s mc ms (pA E)) h pc L st := fun H locs ls rl hS hl => by
  have hw : ∀ w ∈ vx_at0 own ic cls names, w.before args s = true := vx_hat (fun w hw => X.tb (hat w hw)) hng (vx_c (va_Nw.use rfl (X.N hcs)) X.thD)
  have hzz := X.2.2.2.2.2.2.1.2.2.2.2.2.2.2.2.2.2.2.2
  exact vx_throw0 X.1 X.2.1 X.2.2.2.2.2.2.1.2.2.1 X.2.2.2.1 hcls hnames (X.tb hk) (X.tb hini) hw hgood (X.Zq hzz.1) (X.Zq hzz.2.1) hS (hl.1.trans X.2.2.1.symm) d0 d3 d4 d7 (fun x hx => (hex x hx).elim) hfr (by rw [catsum_av]; exact hlo) hRc hRs X.2.2.2.2.2.2.2.1
    (fun t hal hz ho => ⟨_, hQ _ (rl.bump hz ho).1, (rl.bump hz ho).2, ⟨Nat.le_trans hS.1 hz, fun q h1 h2 => (ho q (Nat.lt_of_lt_of_le h1 hS.1)).trans (hS.2.1 q h1 h2)⟩⟩) hS.2.2 hc hs

theorem p_callV (X : Cx E p l e (rmv D MC MS) s m args below meth c own cc nL ret) {idx n ci nL1 d1 mc1 ms1 a : Nat} {y : MethodName} {cc1 : ByteArray} {ret1 : Option FieldType} {As : List Value} {Q1 : Option Value → PH → Prop} {stk : List Value} (M : MLV own idx y cc1 nL1 ret1 n ci) (hd : decode cc pc = .ok (.invokevirtual idx, 3)) (hst : stk = As.reverse ++ .ref a :: st) (hn : As.length = n) (hk : hK h a = ci) (hM : Ct E l d1 mc1 ms1 y cc1 nL1 ret1 (.ref a :: As) h Q1) (hD : d1 + 1 ≤ D) (hroom : (st.map fun v => v.category).sum ≤ 8) (hc : uc + mc1 ≤ MC) (hs : us + ms1 ≤ MS) (kk : ∀ (v : Option Value) (u : PH), Q1 v u → PW E p l e (rmv D MC MS) s m args below meth c nL (uc + mc1) (us + ms1) (Qf) u (pc + 3) L (v.toList ++ st)) : PW E p l e (rmv D MC MS) s m args below meth c nL uc us (Qf) h pc L stk := fun H locs ls rl hS hl => by
  subst hst
  obtain ⟨hb, hin, hsel, q, hq, hqc⟩ := M
  obtain ⟨j, h1, h2⟩ := pws_obj (E := E) rl hk (show ci < 19 by have := (List.getElem?_eq_some_iff.mp hq).1; simp [pcl] at this; omega)
  have hrecv := va_recv X.K rl.2.2.2.1 hq h2
  rw [hqc] at hrecv
  have hRR : (rmv d1 mc1 ms1).frames + 1 ≤ (rmv D MC MS).frames ∧ 8 + (nL1 + 11) + (rmv d1 mc1 ms1).locals ≤ (rmv D MC MS).locals := ⟨hD, by have := hb.2.2.2.2.2; show 8 + (nL1 + 11) + 100 * d1 ≤ 100 * D; omega⟩
  have hT0 : GoodIn Tall (Cond.code y cc1 nL1 ret1 :: Tall) := Tall_good (fun w hw => by rcases List.mem_cons.mp hw with rfl | hw; exact hb.2.2.2.2.1; exact hw)
  have hB : CallB (rmv D MC MS) s args own idx y cc1 nL1 ret1 (Cond.code y cc1 nL1 ret1 :: Tall) (rmv d1 mc1 ms1) mc1 ms1 n := callB_of n (fun w hw => X.tb hw) hT0 rfl rfl rfl (X.tb hb.2.2.2.1) (X.tb hb.2.2.1) ⟨hb.1.1, hb.1.2, hb.2.1⟩ hRR
  exact p_back hS hl (va_runV (C := y.cls) (As := As.map (av E)) (rest := st.map (av E)) (g := F0 m pc ls ((As.reverse ++ .ref a :: st).map (av E))) ⟨X.1, X.2.1, X.2.2.1, X.2.2.2.1, fun w hw => X.tb hw⟩ hM ⟨hB, X.tb hin, X.tb hsel⟩ ⟨pPc_blind E _ h, hrecv, fun U hU hW => ⟨rfl, X.2.2.2.2.2.1.trans hW, by rw [hU]; exact rl⟩⟩ rfl (by rw [List.length_map]; exact hn) hl.1 (by rw [List.map_append, List.map_reverse]; rfl) (lv_room (by rw [catsum_av]; exact hroom)) hd ⟨hc, hs⟩) kk
theorem p_callVX (X : Cx E p l e (rmv D MC MS) s m args below meth c own cc nL ret) {idx n ci nL1 d1 mc1 ms1 a : Nat} {y : MethodName} {cc1 : ByteArray} {ret1 : Option FieldType} {As : List Value} {Q1 : Option Value → PH → Prop} {QX1 : String → PH → Prop} {stk : List Value} (hex : ∀ x ∈ c.exceptionTable.toList, False) (M : MLV own idx y cc1 nL1 ret1 n ci) (hd : decode cc pc = .ok (.invokevirtual idx, 3)) (hst : stk = As.reverse ++ .ref a :: st) (hn : As.length = n) (hk : hK h a = ci) (hM : CtX E l d1 mc1 ms1 y cc1 nL1 ret1 (.ref a :: As) h Q1 QX1) (hD : d1 + 1 ≤ D) (hroom : (st.map fun v => v.category).sum ≤ 8) (hc : uc + mc1 ≤ MC) (hs : us + ms1 ≤ MS) (hc2 : uc + mc1 ≤ mc) (hs2 : us + ms1 ≤ ms) (kx : ∀ En u, QX1 En u → QX En u) (kk : ∀ (v : Option Value) (u : PH), Q1 v u → PW E p l e (rmv D MC MS) s m args below meth c nL (uc + mc1) (us + ms1) (vx_MQ below (QG E Q) (XG E QX) args s mc ms (pA E)) u (pc + 3) L (v.toList ++ st)) : PW E p l e (rmv D MC MS) s m args below meth c nL uc us (vx_MQ below (QG E Q) (XG E QX) args s mc ms (pA E)) h pc L stk := fun H locs ls rl hS hl => by
  subst hst
  obtain ⟨hb, hin, hsel, q, hq, hqc⟩ := M
  obtain ⟨j, h1, h2⟩ := pws_obj (E := E) rl hk (show ci < 19 by have := (List.getElem?_eq_some_iff.mp hq).1; simp [pcl] at this; omega)
  have hrecv := va_recv X.K rl.2.2.2.1 hq h2
  rw [hqc] at hrecv
  have hRR : (rmv d1 mc1 ms1).frames + 1 ≤ (rmv D MC MS).frames ∧ 8 + (nL1 + 11) + (rmv d1 mc1 ms1).locals ≤ (rmv D MC MS).locals := ⟨hD, by have := hb.2.2.2.2.2; show 8 + (nL1 + 11) + 100 * d1 ≤ 100 * D; omega⟩
  have hT0 : GoodIn Tall (Cond.code y cc1 nL1 ret1 :: Tall) := Tall_good (fun w hw => by rcases List.mem_cons.mp hw with rfl | hw; exact hb.2.2.2.2.1; exact hw)
  have hB : CallB (rmv D MC MS) s args own idx y cc1 nL1 ret1 (Cond.code y cc1 nL1 ret1 :: Tall) (rmv d1 mc1 ms1) mc1 ms1 n := callB_of n (fun w hw => X.tb hw) hT0 rfl rfl rfl (X.tb hb.2.2.2.1) (X.tb hb.2.2.1) ⟨hb.1.1, hb.1.2, hb.2.1⟩ hRR
  exact p_backX hex X.2.2.2.2.2.2.2.1 hS hl (vx_runV (C := y.cls) (As := As.map (av E)) (rest := st.map (av E)) (g := F0 m pc ls ((As.reverse ++ .ref a :: st).map (av E))) ⟨X.1, X.2.1, X.2.2.1, X.2.2.2.1, fun w hw => X.tb hw⟩ hM ⟨hB, X.tb hin, X.tb hsel⟩ ⟨pPc_blind E _ h, hrecv, fun U hU hW => ⟨rfl, X.2.2.2.2.2.1.trans hW, by rw [hU]; exact rl⟩⟩ rfl (by rw [List.length_map]; exact hn) hl.1 (by rw [List.map_append, List.map_reverse]; rfl) (lv_room (by rw [catsum_av]; exact hroom)) hd ⟨hc, hs⟩) hc2 hs2 kx kk
theorem p_callS (X : Cx E p l e (rmv D MC MS) s m args below meth c own cc nL ret) {idx n nL1 d1 mc1 ms1 : Nat} {y : MethodName} {cc1 : ByteArray} {ret1 : Option FieldType} {As : List Value} {Q1 : Option Value → PH → Prop} {stk : List Value} (M : MLS own idx y cc1 nL1 ret1 n) (hd : decode cc pc = .ok (.invokestatic idx, 3)) (hst : stk = As.reverse ++ st) (hn : As.length = n) (hM : Ct E l d1 mc1 ms1 y cc1 nL1 ret1 (As) h Q1) (hD : d1 + 1 ≤ D) (hroom : (st.map fun v => v.category).sum ≤ 8) (hc : uc + mc1 ≤ MC) (hs : us + ms1 ≤ MS) (kk : ∀ (v : Option Value) (u : PH), Q1 v u → PW E p l e (rmv D MC MS) s m args below meth c nL (uc + mc1) (us + ms1) (Qf) u (pc + 3) L (v.toList ++ st)) : PW E p l e (rmv D MC MS) s m args below meth c nL uc us (Qf) h pc L stk := fun H locs ls rl hS hl => by
  subst hst
  obtain ⟨hb, hsta⟩ := M
  have hRR : (rmv d1 mc1 ms1).frames + 1 ≤ (rmv D MC MS).frames ∧ 8 + (nL1 + 11) + (rmv d1 mc1 ms1).locals ≤ (rmv D MC MS).locals := ⟨hD, by have := hb.2.2.2.2.2; show 8 + (nL1 + 11) + 100 * d1 ≤ 100 * D; omega⟩
  have hT0 : GoodIn Tall (Cond.code y cc1 nL1 ret1 :: Tall) := Tall_good (fun w hw => by rcases List.mem_cons.mp hw with rfl | hw; exact hb.2.2.2.2.1; exact hw)
  have hB : CallB (rmv D MC MS) s args own idx y cc1 nL1 ret1 (Cond.code y cc1 nL1 ret1 :: Tall) (rmv d1 mc1 ms1) mc1 ms1 n := callB_of n (fun w hw => X.tb hw) hT0 rfl rfl rfl (X.tb hb.2.2.2.1) (X.tb hb.2.2.1) ⟨hb.1.1, hb.1.2, hb.2.1⟩ hRR
  exact p_back hS hl (va_runS (As := As.map (av E)) (rest := st.map (av E)) (g := F0 m pc ls ((As.reverse ++ st).map (av E))) ⟨X.1, X.2.1, X.2.2.1, X.2.2.2.1, fun w hw => X.tb hw⟩ hM ⟨hB, X.tb hsta⟩ ⟨pPc_blind E _ h, fun U hU hW => ⟨rfl, X.2.2.2.2.2.1.trans hW, by rw [hU]; exact rl⟩⟩ rfl (by rw [List.length_map]; exact hn) hl.1 (by rw [List.map_append, List.map_reverse]) (lv_room (by rw [catsum_av]; exact hroom)) hd ⟨hc, hs⟩) kk
theorem p_callSX (X : Cx E p l e (rmv D MC MS) s m args below meth c own cc nL ret) {idx n nL1 d1 mc1 ms1 : Nat} {y : MethodName} {cc1 : ByteArray} {ret1 : Option FieldType} {As : List Value} {Q1 : Option Value → PH → Prop} {QX1 : String → PH → Prop} {stk : List Value} (hex : ∀ x ∈ c.exceptionTable.toList, False) (M : MLS own idx y cc1 nL1 ret1 n) (hd : decode cc pc = .ok (.invokestatic idx, 3)) (hst : stk = As.reverse ++ st) (hn : As.length = n) (hM : CtX E l d1 mc1 ms1 y cc1 nL1 ret1 (As) h Q1 QX1) (hD : d1 + 1 ≤ D) (hroom : (st.map fun v => v.category).sum ≤ 8) (hc : uc + mc1 ≤ MC) (hs : us + ms1 ≤ MS) (hc2 : uc + mc1 ≤ mc) (hs2 : us + ms1 ≤ ms) (kx : ∀ En u, QX1 En u → QX En u) (kk : ∀ (v : Option Value) (u : PH), Q1 v u → PW E p l e (rmv D MC MS) s m args below meth c nL (uc + mc1) (us + ms1) (vx_MQ below (QG E Q) (XG E QX) args s mc ms (pA E)) u (pc + 3) L (v.toList ++ st)) : PW E p l e (rmv D MC MS) s m args below meth c nL uc us (vx_MQ below (QG E Q) (XG E QX) args s mc ms (pA E)) h pc L stk := fun H locs ls rl hS hl => by
  subst hst
  obtain ⟨hb, hsta⟩ := M
  have hRR : (rmv d1 mc1 ms1).frames + 1 ≤ (rmv D MC MS).frames ∧ 8 + (nL1 + 11) + (rmv d1 mc1 ms1).locals ≤ (rmv D MC MS).locals := ⟨hD, by have := hb.2.2.2.2.2; show 8 + (nL1 + 11) + 100 * d1 ≤ 100 * D; omega⟩
  have hT0 : GoodIn Tall (Cond.code y cc1 nL1 ret1 :: Tall) := Tall_good (fun w hw => by rcases List.mem_cons.mp hw with rfl | hw; exact hb.2.2.2.2.1; exact hw)
  have hB : CallB (rmv D MC MS) s args own idx y cc1 nL1 ret1 (Cond.code y cc1 nL1 ret1 :: Tall) (rmv d1 mc1 ms1) mc1 ms1 n := callB_of n (fun w hw => X.tb hw) hT0 rfl rfl rfl (X.tb hb.2.2.2.1) (X.tb hb.2.2.1) ⟨hb.1.1, hb.1.2, hb.2.1⟩ hRR
  exact p_backX hex X.2.2.2.2.2.2.2.1 hS hl (vx_runS (As := As.map (av E)) (rest := st.map (av E)) (g := F0 m pc ls ((As.reverse ++ st).map (av E))) ⟨X.1, X.2.1, X.2.2.1, X.2.2.2.1, fun w hw => X.tb hw⟩ hM ⟨hB, X.tb hsta⟩ ⟨pPc_blind E _ h, fun U hU hW => ⟨rfl, X.2.2.2.2.2.1.trans hW, by rw [hU]; exact rl⟩⟩ rfl (by rw [List.length_map]; exact hn) hl.1 (by rw [List.map_append, List.map_reverse]) (lv_room (by rw [catsum_av]; exact hroom)) hd ⟨hc, hs⟩) hc2 hs2 kx kk
theorem p_callI (X : Cx E p l e (rmv D MC MS) s m args below meth c own cc nL ret) {idx n nL1 d1 mc1 ms1 a : Nat} {y : MethodName} {cc1 : ByteArray} {ret1 : Option FieldType} {As : List Value} {Q1 : Option Value → PH → Prop} {stk : List Value} (M : MLI own idx y cc1 nL1 n) (hd : decode cc pc = .ok (.invokespecial idx, 3)) (hst : stk = As.reverse ++ .ref a :: st) (hn : As.length = n) (hM : Ct E l d1 mc1 ms1 y cc1 nL1 none (.ref a :: As) h Q1) (hD : d1 + 1 ≤ D) (hroom : (st.map fun v => v.category).sum ≤ 8) (hc : uc + mc1 ≤ MC) (hs : us + ms1 ≤ MS) (kk : ∀ (v : Option Value) (u : PH), Q1 v u → PW E p l e (rmv D MC MS) s m args below meth c nL (uc + mc1) (us + ms1) (Qf) u (pc + 3) L (v.toList ++ st)) : PW E p l e (rmv D MC MS) s m args below meth c nL uc us (Qf) h pc L stk := fun H locs ls rl hS hl => by
  subst hst
  obtain ⟨hb, hinit, hin⟩ := M
  have hRR : (rmv d1 mc1 ms1).frames + 1 ≤ (rmv D MC MS).frames ∧ 8 + (nL1 + 11) + (rmv d1 mc1 ms1).locals ≤ (rmv D MC MS).locals := ⟨hD, by have := hb.2.2.2.2.2; show 8 + (nL1 + 11) + 100 * d1 ≤ 100 * D; omega⟩
  have hT0 : GoodIn Tall (Cond.code y cc1 nL1 none :: Tall) := Tall_good (fun w hw => by rcases List.mem_cons.mp hw with rfl | hw; exact hb.2.2.2.2.1; exact hw)
  have hB : CallB (rmv D MC MS) s args own idx y cc1 nL1 none (Cond.code y cc1 nL1 none :: Tall) (rmv d1 mc1 ms1) mc1 ms1 n := callB_of n (fun w hw => X.tb hw) hT0 rfl rfl rfl (X.tb hb.2.2.2.1) (X.tb hb.2.2.1) ⟨hb.1.1, hb.1.2, hb.2.1⟩ hRR
  exact p_back hS hl (va_runI (As := As.map (av E)) (rest := st.map (av E)) (g := F0 m pc ls ((As.reverse ++ .ref a :: st).map (av E))) ⟨X.1, X.2.1, X.2.2.1, X.2.2.2.1, fun w hw => X.tb hw⟩ hM ⟨hB, hinit, X.tb hin⟩ ⟨pPc_blind E _ h, fun U hU hW => ⟨rfl, X.2.2.2.2.2.1.trans hW, by rw [hU]; exact rl⟩⟩ rfl (by rw [List.length_map]; exact hn) hl.1 (by rw [List.map_append, List.map_reverse]; rfl) (lv_room (by rw [catsum_av]; exact hroom)) hd ⟨hc, hs⟩) kk
theorem p_callVn (X : Cx E p l e (rmv D MC MS) s m args below meth c own cc nL ret) {idx n ci nL1 d1 mc1 ms1 a : Nat} {y : MethodName} {cc1 : ByteArray} {ret1 : Option FieldType} {As : List Value} {Q1 : Option Value → PH → Prop} {stk : List Value} (M : MNV own idx y cc1 nL1 ret1 n ci) (hd : decode cc pc = .ok (.invokevirtual idx, 3)) (hst : stk = As.reverse ++ .ref a :: st) (hn : As.length = n) (hk : hK h a = ci) (hM : Ct E l d1 mc1 ms1 y cc1 nL1 ret1 (.ref a :: As) h Q1) (hD : d1 + 1 ≤ D) (hroom : (st.map fun v => v.category).sum ≤ 8) (hc : uc + mc1 ≤ MC) (hs : us + ms1 ≤ MS) (kk : ∀ (v : Option Value) (u : PH), Q1 v u → PW E p l e (rmv D MC MS) s m args below meth c nL (uc + mc1) (us + ms1) (Qf) u (pc + 3) L (v.toList ++ st)) : PW E p l e (rmv D MC MS) s m args below meth c nL uc us (Qf) h pc L stk := fun H locs ls rl hS hl => by
  subst hst
  obtain ⟨hb, hin, hsel, q, hq, hqc⟩ := M
  obtain ⟨j, h1, h2⟩ := pws_obj (E := E) rl hk (show ci < 19 by have := (List.getElem?_eq_some_iff.mp hq).1; simp [pcl] at this; omega)
  have hrecv := va_recv X.K rl.2.2.2.1 hq h2
  rw [hqc] at hrecv
  have hRR : (rmv d1 mc1 ms1).frames + 1 ≤ (rmv D MC MS).frames ∧ 8 + (nL1 + 11) + (rmv d1 mc1 ms1).locals ≤ (rmv D MC MS).locals := ⟨hD, by have := hb.2.2.2.2.2; show 8 + (nL1 + 11) + 100 * d1 ≤ 100 * D; omega⟩
  have hT0 : GoodIn Tall (Cond.code y cc1 nL1 ret1 :: Tall) := Tall_good (fun w hw => by rcases List.mem_cons.mp hw with rfl | hw; exact hb.2.2.2.2.1; exact hw)
  obtain ⟨host, hhost⟩ := hb.2.2.1
  obtain ⟨A0, hA0⟩ := X.2.2.2.2.2.2.1.1
  have hnw := va_Nw.warmM X.2.2.2.2.2.1 (va_tabs rfl rfl (hA0 _ hhost) : va_Nw _ E.2.2.2)
  have hB := va_cnB n (fun w hw => X.tb hw) hT0 rfl rfl rfl hnw (X.tb hb.2.2.2.1) ⟨hb.1.1, hb.1.2, hb.2.1⟩ hRR
  exact p_back hS hl (va_runVN (C := y.cls) (As := As.map (av E)) (rest := st.map (av E)) (g := F0 m pc ls ((As.reverse ++ .ref a :: st).map (av E))) ⟨X.1, X.2.1, X.2.2.1, X.2.2.2.1, fun w hw => X.tb hw⟩ hM ⟨hB, X.tb hin, X.tb hsel⟩ ⟨pPc_blind E _ h, hrecv, fun U hU hW => ⟨rfl, X.2.2.2.2.2.1.trans hW, by rw [hU]; exact rl⟩⟩ rfl (by rw [List.length_map]; exact hn) hl.1 (by rw [List.map_append, List.map_reverse]; rfl) (lv_room (by rw [catsum_av]; exact hroom)) hd ⟨hc, hs⟩) kk
theorem p_callSn (X : Cx E p l e (rmv D MC MS) s m args below meth c own cc nL ret) {idx n nL1 d1 mc1 ms1 : Nat} {y : MethodName} {cc1 : ByteArray} {ret1 : Option FieldType} {As : List Value} {Q1 : Option Value → PH → Prop} {stk : List Value} (M : MNS own idx y cc1 nL1 ret1 n) (hd : decode cc pc = .ok (.invokestatic idx, 3)) (hst : stk = As.reverse ++ st) (hn : As.length = n) (hM : Ct E l d1 mc1 ms1 y cc1 nL1 ret1 (As) h Q1) (hD : d1 + 1 ≤ D) (hroom : (st.map fun v => v.category).sum ≤ 8) (hc : uc + mc1 ≤ MC) (hs : us + ms1 ≤ MS) (kk : ∀ (v : Option Value) (u : PH), Q1 v u → PW E p l e (rmv D MC MS) s m args below meth c nL (uc + mc1) (us + ms1) (Qf) u (pc + 3) L (v.toList ++ st)) : PW E p l e (rmv D MC MS) s m args below meth c nL uc us (Qf) h pc L stk := fun H locs ls rl hS hl => by
  subst hst
  obtain ⟨hb, hsta⟩ := M
  have hRR : (rmv d1 mc1 ms1).frames + 1 ≤ (rmv D MC MS).frames ∧ 8 + (nL1 + 11) + (rmv d1 mc1 ms1).locals ≤ (rmv D MC MS).locals := ⟨hD, by have := hb.2.2.2.2.2; show 8 + (nL1 + 11) + 100 * d1 ≤ 100 * D; omega⟩
  have hT0 : GoodIn Tall (Cond.code y cc1 nL1 ret1 :: Tall) := Tall_good (fun w hw => by rcases List.mem_cons.mp hw with rfl | hw; exact hb.2.2.2.2.1; exact hw)
  obtain ⟨host, hhost⟩ := hb.2.2.1
  obtain ⟨A0, hA0⟩ := X.2.2.2.2.2.2.1.1
  have hnw := va_Nw.warmM X.2.2.2.2.2.1 (va_tabs rfl rfl (hA0 _ hhost) : va_Nw _ E.2.2.2)
  have hB := va_cnB n (fun w hw => X.tb hw) hT0 rfl rfl rfl hnw (X.tb hb.2.2.2.1) ⟨hb.1.1, hb.1.2, hb.2.1⟩ hRR
  exact p_back hS hl (va_runSN (As := As.map (av E)) (rest := st.map (av E)) (g := F0 m pc ls ((As.reverse ++ st).map (av E))) ⟨X.1, X.2.1, X.2.2.1, X.2.2.2.1, fun w hw => X.tb hw⟩ hM ⟨hB, X.tb hsta, trivial⟩ ⟨pPc_blind E _ h, fun U hU hW => ⟨rfl, X.2.2.2.2.2.1.trans hW, by rw [hU]; exact rl⟩⟩ rfl (by rw [List.length_map]; exact hn) hl.1 (by rw [List.map_append, List.map_reverse]) (lv_room (by rw [catsum_av]; exact hroom)) hd ⟨hc, hs⟩) kk
theorem p_callIn (X : Cx E p l e (rmv D MC MS) s m args below meth c own cc nL ret) {idx n nL1 d1 mc1 ms1 a : Nat} {y : MethodName} {cc1 : ByteArray} {ret1 : Option FieldType} {As : List Value} {Q1 : Option Value → PH → Prop} {stk : List Value} (M : MNI own idx y cc1 nL1 n) (hd : decode cc pc = .ok (.invokespecial idx, 3)) (hst : stk = As.reverse ++ .ref a :: st) (hn : As.length = n) (hM : Ct E l d1 mc1 ms1 y cc1 nL1 none (.ref a :: As) h Q1) (hD : d1 + 1 ≤ D) (hroom : (st.map fun v => v.category).sum ≤ 8) (hc : uc + mc1 ≤ MC) (hs : us + ms1 ≤ MS) (kk : ∀ (v : Option Value) (u : PH), Q1 v u → PW E p l e (rmv D MC MS) s m args below meth c nL (uc + mc1) (us + ms1) (Qf) u (pc + 3) L (v.toList ++ st)) : PW E p l e (rmv D MC MS) s m args below meth c nL uc us (Qf) h pc L stk := fun H locs ls rl hS hl => by
  subst hst
  obtain ⟨hb, hinit, hin⟩ := M
  have hRR : (rmv d1 mc1 ms1).frames + 1 ≤ (rmv D MC MS).frames ∧ 8 + (nL1 + 11) + (rmv d1 mc1 ms1).locals ≤ (rmv D MC MS).locals := ⟨hD, by have := hb.2.2.2.2.2; show 8 + (nL1 + 11) + 100 * d1 ≤ 100 * D; omega⟩
  have hT0 : GoodIn Tall (Cond.code y cc1 nL1 none :: Tall) := Tall_good (fun w hw => by rcases List.mem_cons.mp hw with rfl | hw; exact hb.2.2.2.2.1; exact hw)
  obtain ⟨host, hhost⟩ := hb.2.2.1
  obtain ⟨A0, hA0⟩ := X.2.2.2.2.2.2.1.1
  have hnw := va_Nw.warmM X.2.2.2.2.2.1 (va_tabs rfl rfl (hA0 _ hhost) : va_Nw _ E.2.2.2)
  have hB := va_cnB n (fun w hw => X.tb hw) hT0 rfl rfl rfl hnw (X.tb hb.2.2.2.1) ⟨hb.1.1, hb.1.2, hb.2.1⟩ hRR
  exact p_back hS hl (va_runIN (As := As.map (av E)) (rest := st.map (av E)) (g := F0 m pc ls ((As.reverse ++ .ref a :: st).map (av E))) ⟨X.1, X.2.1, X.2.2.1, X.2.2.2.1, fun w hw => X.tb hw⟩ hM ⟨hB, hinit, X.tb hin⟩ ⟨pPc_blind E _ h, fun U hU hW => ⟨rfl, X.2.2.2.2.2.1.trans hW, by rw [hU]; exact rl⟩⟩ rfl (by rw [List.length_map]; exact hn) hl.1 (by rw [List.map_append, List.map_reverse]; rfl) (lv_room (by rw [catsum_av]; exact hroom)) hd ⟨hc, hs⟩) kk
end PC
