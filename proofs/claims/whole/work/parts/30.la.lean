/-! THE LAW'S OWN METHODS: bodies with handlers, calls whose throws are caught there -/
def CtH (E : PE) (l : Launch) (d mc ms : Nat) (y : MethodName) (cc : ByteArray) (nL : Nat) (ret : Option FieldType) (hh : List (Nat × Nat × Nat × Nat)) (As : List Value) (h : PH) (Q : Option Value → PH → Prop) : Prop :=
  Met l y (.codeWith y cc nL ret hh :: Tall) (rmv d mc ms) (pPc E As h) (QG E Q) mc ms (pA E)
theorem cth_of {E : PE} {l : Launch} {d mc ms : Nat} {y : MethodName} {cc : ByteArray} {nL : Nat} {ret : Option FieldType} {hh : List (Nat × Nat × Nat × Nat)} {As : List Value} {h : PH} {Q : Option Value → PH → Prop} (hG : Gs E l) (hy : plainName y.cls = true) (hlen : (lg_sl As).length ≤ nL)
    (body : ∀ (p : Program) (e : Env) (s : State) (m : MethodId) (args : Array Value) (below : List Frame) (meth : Method) (c : Code), Cx E p l e (rmv d mc ms) s m args below meth c y.cls cc nL ret → c.exceptionTable.toList = tableOf hh →
      PW E p l e (rmv d mc ms) s m args below meth c nL 0 0 (MQ below (QG E Q) args s mc ms (pA E)) h 0 (pargs 0 As) []) : CtH E l d mc ms y cc nL ret hh As h Q := by
  unfold CtH Met
  refine MetFree.of_bodyS (code := cc) (maxLocals := nL) (ret := ret) hy ?_ ?_
  · intro args s m h hn
    obtain ⟨m9, meth, c, hn9, h1, h2, h3, h4, -, h5, h6, -⟩ := Cond.codeWith_spec (atoms_spec (ws := Cond.codeWith y cc nL ret hh :: Tall) h _ List.mem_cons_self)
    cases hn.symm.trans hn9
    exact ⟨meth, c, h1, h2, h3, h4, h5, h6⟩
  · intro p e s m args below meth c s₁ B hml hv _
    have hh0 : s₁.heap = s.heap := by rw [B.state]; rfl
    obtain ⟨rfl, hW, hR0⟩ := hv
    have hts : ∀ w ∈ (Cond.codeWith y cc nL ret hh :: Tall), w.before _ s = true := atoms_spec (ws := Cond.codeWith y cc nL ret hh :: Tall) B.pre
    have hex := vx_table (x := y) B (hts _ List.mem_cons_self)
    have X : Cx E p l e (rmv d mc ms) s m _ below meth c y.cls cc nL ret := ⟨B.exec, B.bytes, hml, findClass_of_methodNamed B.named, fun w hw => hts w (List.mem_cons_of_mem _ hw), hW, hG, B.notSynchronized, B.returns, by have h1 := hR0.2.1; have h2 := hR0.2.2.1; omega, hR0.1⟩
    have hl := lv_entry (As.map (av E)) (n := nL) (by rw [lg_sl_av]; exact hlen)
    have hk : W p l e (rmv d mc ms) s m (As.map (av E)).toArray below meth c s.heap [] 0 0 (MQ below (QG E Q) (As.map (av E)).toArray s mc ms (pA E)) (entryFrame m (As.map (av E)).toArray nL) := by
      rw [lg_entry_eq]
      generalize (lg_sl (As.map (av E)) ++ List.replicate (nL - (lg_sl (As.map (av E))).length) Slot.unset).toArray = ls at hl ⊢
      refine body p e s m _ below meth c X hex s.heap [] ls hR0 va_S.rf ⟨hl.1, hl.2.1, fun q hq => ?_⟩
      obtain ⟨j, v⟩ := q
      obtain ⟨x, hx, rfl⟩ := lvO_mem.mp hq
      exact hl.2.2 _ (pargs_in E As 0 j x hx)
    obtain ⟨t, a1, o, b1, b2, b3⟩ := hk s₁ hh0 (Stand.of_body B)
    exact ⟨t, o, a1, b1, b2, ⟨b3.1, b3.2⟩⟩
/-- exceptions of one class are no other's -/
def Gn (E : PE) : Prop := ∀ i j, i < 4 → j < 4 → i ≠ j → va_Nc (exn i) (exn j) E.2.2.2
section PL
variable {E : PE} {p : Program} {l : Launch} {e : Env} {R : Room} {s : State} {m : MethodId} {args : Array Value} {below : List Frame} {meth : Method} {c : Code} {own : String} {cc : ByteArray} {nL : Nat} {ret : Option FieldType} {uc us : Nat} {Qf : State → Prop} {h : PH} {pc : Nat} {L : PL} {st : List Value} {Q : Option Value → PH → Prop} {QX : String → PH → Prop} {mc ms D MC MS : Nat}
theorem p_backC {H : Heap} {locs : List Loc} {ls : Array Slot} {st0 : List Value} {a : Array Value} {Q1 : Option Value → PH → Prop} {QX1 : String → PH → Prop} {mc1 ms1 : Nat} (hS : va_S (pA E) s.heap H locs) (hl : lv_has ls nL (lvO E L))
    (hr : vx_Run p l e R s m args below meth c H locs uc us mc1 ms1 (F0 m pc ls st0) (st.map (av E)) (QG E Q1 a) (XG E QX1) (pA E))
    (kx : ∀ (En : String) (u : PH), QX1 En u → ∀ (H1 : Heap) (locs1 : List Loc) (q : Addr) (ce : Cell), Rl E u H1 → va_S (pA E) s.heap H1 locs1 → H1[q]? = some ce → ce.vm = .none → s.vm.findClass En = some ce.cls → vx_W p l e R s m args below meth c H1 locs1 (uc + mc1) (us + ms1) Qf (F0 m pc ls (st.map (av E))) q)
    (kk : ∀ (v : Option Value) (u : PH), Q1 v u → PW E p l e R s m args below meth c nL (uc + mc1) (us + ms1) Qf u (pc + 3) L (v.toList ++ st)) : W p l e R s m args below meth c H locs uc us Qf (F0 m pc ls st0) := by
  intro T hT X0
  rcases hr T hT X0 with ⟨v, st₀, t, T', L', h0, X', hL, e1, e2, ⟨pv, u, hv, hq, hrl, hz, hk⟩, stp⟩ | ⟨q, st₀, t, T', L', En, ce, h0, X', hL, e1, e2, ⟨u, hqx, hrl, hz, hk⟩, hce, hcv, hcl, stp⟩
  · cases hv
    rw [h0] at hz hk
    obtain ⟨t2, a1, b1⟩ := kk pv u hq T'.heap (locs ++ L') ls (by rw [e1]; exact hrl) ⟨Nat.le_trans hS.1 (by rw [e1]; exact hz), fun q h1 h2 => by rw [e1, hk q (Nat.lt_of_lt_of_le h1 hS.1) h2]; exact hS.2.1 q h1 h2, fun q hq => by
        rcases List.mem_append.mp hq with h | h
        · exact hS.2.2 q h
        · exact hL q h⟩ hl T' rfl X'
    refine ⟨t2, stp t2 ?_, b1⟩
    have e3 : (pv.toList ++ st).map (av E) = (pv.map (av E)).toList ++ st.map (av E) := by cases pv <;> rfl
    rw [e3] at a1
    exact a1
  · rw [h0] at hz hk
    have hS1 : va_S (pA E) s.heap T'.heap (locs ++ L') := ⟨Nat.le_trans hS.1 (by rw [e1]; exact hz), fun q h1 h2 => by rw [e1, hk q (Nat.lt_of_lt_of_le h1 hS.1) h2]; exact hS.2.1 q h1 h2, fun q hq => by
        rcases List.mem_append.mp hq with h | h
        · exact hS.2.2 q h
        · exact hL q h⟩
    obtain ⟨t2, a1, b1⟩ := kx En u hqx T'.heap (locs ++ L') q ce (by rw [e1]; exact hrl) hS1 (by rw [e1]; exact hce) hcv hcl T' rfl X'
    exact ⟨t2, stp.trans a1, b1⟩
theorem p_callVC (X : Cx E p l e (rmv D MC MS) s m args below meth c own cc nL ret) {idx n ci nL1 d1 mc1 ms1 a : Nat} {y : MethodName} {cc1 : ByteArray} {ret1 : Option FieldType} {As : List Value} {Q1 : Option Value → PH → Prop} {QX1 : String → PH → Prop} {stk : List Value} (M : MLV own idx y cc1 nL1 ret1 n ci) (hd : decode cc pc = .ok (.invokevirtual idx, 3)) (hst : stk = As.reverse ++ .ref a :: st) (hn : As.length = n) (hk : hK h a = ci) (hM : CtX E l d1 mc1 ms1 y cc1 nL1 ret1 (.ref a :: As) h Q1 QX1) (hD : d1 + 1 ≤ D) (hroom : (st.map fun v => v.category).sum ≤ 8) (hc : uc + mc1 ≤ MC) (hs : us + ms1 ≤ MS)
    (kx : ∀ (En : String) (u : PH), QX1 En u → ∀ (H1 : Heap) (locs1 : List Loc) (ls : Array Slot) (q : Addr) (ce : Cell), Rl E u H1 → va_S (pA E) s.heap H1 locs1 → lv_has ls nL (lvO E L) → H1[q]? = some ce → ce.vm = .none → s.vm.findClass En = some ce.cls → vx_W p l e (rmv D MC MS) s m args below meth c H1 locs1 (uc + mc1) (us + ms1) Qf (F0 m pc ls (st.map (av E))) q)
    (kk : ∀ (v : Option Value) (u : PH), Q1 v u → PW E p l e (rmv D MC MS) s m args below meth c nL (uc + mc1) (us + ms1) Qf u (pc + 3) L (v.toList ++ st)) : PW E p l e (rmv D MC MS) s m args below meth c nL uc us Qf h pc L stk := fun H locs ls rl hS hl => by
  subst hst
  obtain ⟨hb, hin, hsel, q, hq, hqc⟩ := M
  obtain ⟨j, h1, h2⟩ := pws_obj (E := E) rl hk (show ci < 19 by have := (List.getElem?_eq_some_iff.mp hq).1; simp [pcl] at this; omega)
  have hrecv := va_recv X.K rl.2.2.2.1 hq h2
  rw [hqc] at hrecv
  have hRR : (rmv d1 mc1 ms1).frames + 1 ≤ (rmv D MC MS).frames ∧ 8 + (nL1 + 11) + (rmv d1 mc1 ms1).locals ≤ (rmv D MC MS).locals := ⟨hD, by have := hb.2.2.2.2.2; show 8 + (nL1 + 11) + 100 * d1 ≤ 100 * D; omega⟩
  have hT0 : GoodIn Tall (Cond.code y cc1 nL1 ret1 :: Tall) := Tall_good (fun w hw => by rcases List.mem_cons.mp hw with rfl | hw; exact hb.2.2.2.2.1; exact hw)
  have hB : CallB (rmv D MC MS) s args own idx y cc1 nL1 ret1 (Cond.code y cc1 nL1 ret1 :: Tall) (rmv d1 mc1 ms1) mc1 ms1 n := callB_of n (fun w hw => X.tb hw) hT0 rfl rfl rfl (X.tb hb.2.2.2.1) (X.tb hb.2.2.1) ⟨hb.1.1, hb.1.2, hb.2.1⟩ hRR
  exact p_backC hS hl (vx_runV (C := y.cls) (As := As.map (av E)) (rest := st.map (av E)) (g := F0 m pc ls ((As.reverse ++ .ref a :: st).map (av E))) ⟨X.1, X.2.1, X.2.2.1, X.2.2.2.1, fun w hw => X.tb hw⟩ hM ⟨hB, X.tb hin, X.tb hsel⟩ ⟨pPc_blind E _ h, hrecv, fun U hU hW => ⟨rfl, X.2.2.2.2.2.1.trans hW, by rw [hU]; exact rl⟩⟩ rfl (by rw [List.length_map]; exact hn) hl.1 (by rw [List.map_append, List.map_reverse]; rfl) (lv_room (by rw [catsum_av]; exact hroom)) hd ⟨hc, hs⟩) (fun En u hx H1 locs1 q ce r1 s1 c1 c2 c3 => kx En u hx H1 locs1 ls q ce r1 s1 hl c1 c2 c3) kk
/-- caught at an entry of the table; what was thrown is stored away -/
theorem p_catch (X : Cx E p l e R s m args below meth c own cc nL ret) (hn : Gn E) {hh : List (Nat × Nat × Nat × Nat)} (hex : c.exceptionTable.toList = tableOf hh) {k f t hp ct v i : Nat} {pre suf : List (Nat × Nat × Nat × Nat)} {pk : List Nat} (hsplit : hh = pre ++ (f, t, hp, ct) :: suf) (hk : k < 4) (hpk : pre.length = pk.length) (hpass : ∀ z ∈ pre.zip pk, z.1.2.2.2 ≠ 0 ∧ z.2 < 4 ∧ z.2 ≠ k ∧ Cond.classLink own z.1.2.2.2 (exn z.2) ∈ Tall) (hf : f ≤ pc) (ht : pc < t) (h0 : ct ≠ 0) (hlink : Cond.classLink own ct (exn k) ∈ Tall) (hcast : Cond.castable (exn k) (exn k) ∈ lw_tbl)
    (hst : (∃ n : Fin 4, (n : Nat) = i ∧ v = 1 ∧ decode cc hp = .ok (.astore_n n, 1)) ∨ (v = 2 ∧ decode cc hp = .ok (.astore i, 2))) (hi : i < nL)
    {H : Heap} {locs : List Loc} {ls : Array Slot} {q : Addr} {ce : Cell} {u : PH} (rl : Rl E u H) (hS : va_S (pA E) s.heap H locs) (hl : lv_has ls nL (lvO E L)) (hcell : H[q]? = some ce) (hv : ce.vm = .none) (hcl : s.vm.findClass (exn k) = some ce.cls)
    (kk : PW E p l e R s m args below meth c nL uc us Qf u (hp + v) [] []) : vx_W p l e R s m args below meth c H locs uc us Qf (F0 m pc ls (st.map (av E))) q := by
  subst hsplit
  refine vx_catch (own := own) (name := exn k) (E := exn k) X.2.2.2.1 (tableOf pre) ⟨f, t, hp, ct⟩ (tableOf suf) (by rw [hex]; simp [tableOf]) ?_ (by simp [covers, hf, ht]) h0 (X.tb hlink) (va_Nw.use rfl (X.N hcast)) hcell hv hcl ?_
  · intro z hz
    obtain ⟨z0, hz0, rfl⟩ := List.mem_map.mp hz
    obtain ⟨j, hj, e⟩ := List.getElem_of_mem hz0
    subst e
    have hm := hpass (pre[j], pk[j]'(by omega)) (by rw [List.mem_iff_getElem]; exact ⟨j, by simp; omega, by simp⟩)
    exact Or.inr ⟨hm.1, exn (pk[j]'(by omega)), X.tb hm.2.2.2, va_Nc.moved X.2.2.2.2.2.1.alike (hn k _ hk hm.2.1 (Ne.symm hm.2.2.1))⟩
  · have hnil : ∀ ls2 : Array Slot, ls2.size = nL → (∀ i, i < nL → True) → True := fun _ _ _ => trivial
    rcases hst with ⟨n, rfl, rfl, hd⟩ | ⟨rfl, hd⟩
    · exact lv_astore_n (x := q) X.1 X.2.1 hd rfl hl hi rfl (fun ls2 hl2 => kk H locs ls2 rl hS ⟨hl2.1, hl2.2.1, fun q hq => absurd hq List.not_mem_nil⟩)
    · exact lv_astore (x := q) X.1 X.2.1 hd hl hi rfl (fun ls2 hl2 => kk H locs ls2 rl hS ⟨hl2.1, hl2.2.1, fun q hq => absurd hq List.not_mem_nil⟩)
end PL
/-- the law's script, the room -/
def LX (E : PE) (s : State) (N : Nat) (xs : Nat → Int32) : Prop := va_X (E.1 0) N xs s s.heap ∧ E.1 0 < s.heap.size ∧ ¬ pA E (E.1 0)
def IB (i : Int32) (N : Nat) : Prop := inb i N ∧ inb (i + 1) N ∧ inb (i + 2) N ∧ inb (i + 3) N ∧ inb (i + 4) N ∧ inb (i + 5) N
def MLH (own : String) (idx : Nat) (y : MethodName) (cc : ByteArray) (nL : Nat) (ret : Option FieldType) (hh : List (Nat × Nat × Nat × Nat)) (n : Nat) : Prop := notMH y ∧ (parseMethodDescriptor y.desc).map (fun d => d.parameters.length) = some n ∧ Cond.methodLink own idx y ∈ Tall ∧ Cond.initialized y.cls ∈ Tall ∧ Cond.codeWith y cc nL ret hh ∈ Tall ∧ Cond.static y ∈ Tall ∧ nL ≤ 70
section PM
variable {E : PE} {p : Program} {l : Launch} {e : Env} {R : Room} {s : State} {m : MethodId} {args : Array Value} {below : List Frame} {meth : Method} {c : Code} {own : String} {cc : ByteArray} {nL : Nat} {ret : Option FieldType} {uc us : Nat} {Qf : State → Prop} {h : PH} {pc : Nat} {L : PL} {st : List Value} {Q : Option Value → PH → Prop} {QX : String → PH → Prop} {mc ms D MC MS : Nat}
theorem p_sld (X : Cx E p l e R s m args below meth c own cc nL ret) {N : Nat} {xs : Nat → Int32} (hX : LX E s N xs) {i : Int32} (hd : decode cc pc = .ok (.iaload, 1)) (hin : vp_in i N) (kk : PW E p l e R s m args below meth c nL uc us Qf h (pc + 1) L (.int (xs i.toNatClampNeg) :: st)) : PW E p l e R s m args below meth c nL uc us Qf h pc L (.int i :: .ref 0 :: st) := fun H locs ls rl hS hl =>
  va_sld X.1 X.2.1 hX.1 hX.2.1 hX.2.2 hS hin hd (kk H locs ls rl hS hl)
theorem p_slen (X : Cx E p l e R s m args below meth c own cc nL ret) {N : Nat} {xs : Nat → Int32} (hX : LX E s N xs) (hd : decode cc pc = .ok (.arraylength, 1)) (kk : PW E p l e R s m args below meth c nL uc us Qf h (pc + 1) L (.int (Int32.ofNat N) :: st)) : PW E p l e R s m args below meth c nL uc us Qf h pc L (.ref 0 :: st) := fun H locs ls rl hS hl =>
  va_slen X.1 X.2.1 hX.1 hX.2.1 hX.2.2 hS hd (kk H locs ls rl hS hl)
theorem p_callSH (X : Cx E p l e (rmv D MC MS) s m args below meth c own cc nL ret) {idx n nL1 d1 mc1 ms1 : Nat} {y : MethodName} {cc1 : ByteArray} {ret1 : Option FieldType} {hh : List (Nat × Nat × Nat × Nat)} {As : List Value} {Q1 : Option Value → PH → Prop} {stk : List Value} (M : MLH own idx y cc1 nL1 ret1 hh n) (hd : decode cc pc = .ok (.invokestatic idx, 3)) (hst : stk = As.reverse ++ st) (hn : As.length = n) (hM : CtH E l d1 mc1 ms1 y cc1 nL1 ret1 hh As h Q1) (hD : d1 + 1 ≤ D) (hroom : (st.map fun v => v.category).sum ≤ 8) (hc : uc + mc1 ≤ MC) (hs : us + ms1 ≤ MS) (kk : ∀ (v : Option Value) (u : PH), Q1 v u → PW E p l e (rmv D MC MS) s m args below meth c nL (uc + mc1) (us + ms1) Qf u (pc + 3) L (v.toList ++ st)) : PW E p l e (rmv D MC MS) s m args below meth c nL uc us Qf h pc L stk := fun H locs ls rl hS hl => by
  subst hst
  obtain ⟨hmh, hpar, hlink, hini, hcode, hsta, h70⟩ := M
  have hT0 : GoodIn Tall (Cond.codeWith y cc1 nL1 ret1 hh :: Tall) := Tall_good (fun w hw => by rcases List.mem_cons.mp hw with rfl | hw; exact hcode; exact hw)
  have cw : vx_CSW (rmv D MC MS) s args own idx y cc1 nL1 ret1 hh (Cond.codeWith y cc1 nL1 ret1 hh :: Tall) (rmv d1 mc1 ms1) mc1 ms1 n :=
    ⟨⟨rfl, rfl, hD, by show 8 + (nL1 + 11) + 100 * d1 ≤ 100 * D; omega, pay_in (fun w hw => X.tb hw) hT0, List.mem_cons_self⟩, X.tb hcode, X.tb hini, hmh, fun sig h => by rw [h] at hpar; exact (Option.some.inj hpar).symm, X.tb hlink, X.tb hsta⟩
  exact p_back hS hl (vx_runSW (As := As.map (av E)) (rest := st.map (av E)) (g := F0 m pc ls ((As.reverse ++ st).map (av E))) ⟨X.1, X.2.1, X.2.2.1, X.2.2.2.1, fun w hw => X.tb hw⟩ hM cw ⟨pPc_blind E _ h, fun U hU hW => ⟨rfl, X.2.2.2.2.2.1.trans hW, by rw [hU]; exact rl⟩⟩ rfl (by rw [List.length_map]; exact hn) hl.1 (by rw [List.map_append, List.map_reverse]) (lv_room (by rw [catsum_av]; exact hroom)) hd ⟨hc, hs⟩) kk
theorem lg_cmp_self (x : Int64) : lg_cmp x x = 0 := by
  unfold lg_cmp
  rw [if_neg (by intro h; exact absurd h (by simp [Int64.lt_iff_toInt_lt])), if_pos rfl]
theorem hasRoom_le {s : State} {pl : Platform} {r r' : Room} (hf : r.frames ≤ r'.frames) (hl : r.locals ≤ r'.locals) (hc : r.cells ≤ r'.cells) (hs : r.slots ≤ r'.slots) (h : s.hasRoom pl r' = true) : s.hasRoom pl r = true := by
  simp only [State.hasRoom, Bool.and_eq_true, decide_eq_true_eq] at h ⊢
  obtain ⟨⟨⟨⟨h1, h2, h3, h4, h5, h6⟩, h7⟩, h8⟩, h9⟩ := h
  exact ⟨⟨⟨⟨by omega, by omega, by omega, by omega, by omega, h6⟩, by omega⟩, by omega⟩, h9⟩
theorem W_room {R' : Room} {H : Heap} {locs : List Loc} {cells slots : Nat} {Q : State → Prop} {g : JFrame} (hf : R'.frames ≤ R.frames) (hl : R'.locals ≤ R.locals) (hc : R'.cells ≤ R.cells) (hs : R'.slots ≤ R.slots) (k : W p l e R' s m args below meth c H locs cells slots Q g) : W p l e R s m args below meth c H locs cells slots Q g := fun T hT X =>
  k T hT ⟨X.admits, X.cas, X.clock, X.frames, hasRoom_le hf hl hc hs X.room, X.hears, X.method, X.code, X.here, X.tail, X.warmed, X.limits, X.bytes, X.same⟩
end PM
