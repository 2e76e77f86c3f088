/-! THE WALK over an invariant (by program: wip/whole/mkwalk.py) -/
theorem tw_142 : Jvm.Cond.methodLink "WordFinderLaw" (151 : Nat) ({ cls := "WordFinder", name := "<init>", desc := "()V" } : Jvm.MethodName) ∈ Tall := Tall_of (List.mem_of_getElem? (i := 142) (by decide +kernel)) (by decide +kernel)
theorem tw_144 : Jvm.Cond.code ({ cls := "WordFinder", name := "<init>", desc := "()V" } : Jvm.MethodName) prog_1_method_1_code (2 : Nat) (Option.none : Option Jvm.ClassFile.FieldType) ∈ Tall := Tall_of (List.mem_of_getElem? (i := 144) (by decide +kernel)) (by decide +kernel)
theorem tw_143 : Jvm.Cond.instanceMethod ({ cls := "WordFinder", name := "<init>", desc := "()V" } : Jvm.MethodName) ∈ Tall := Tall_of (List.mem_of_getElem? (i := 143) (by decide +kernel)) (by decide +kernel)
theorem ml_L_151 : MLI RL 151 yX11_init cX11_init 2 0 := ⟨⟨⟨by decide, by decide⟩, by decide +kernel, tw_142, tw_100, tw_144, by decide⟩, rfl, tw_143⟩
theorem tw_1879 : Jvm.Cond.methodLink "WordFinderLaw" (154 : Nat) ({ cls := "WordFinderModel", name := "<init>", desc := "()V" } : Jvm.MethodName) ∈ Tall := Tall_of (List.mem_of_getElem? (i := 1879) (by decide +kernel)) (by decide +kernel)
theorem tw_1881 : Jvm.Cond.code ({ cls := "WordFinderModel", name := "<init>", desc := "()V" } : Jvm.MethodName) prog_14_method_4_code (1 : Nat) (Option.none : Option Jvm.ClassFile.FieldType) ∈ Tall := Tall_of (List.mem_of_getElem? (i := 1881) (by decide +kernel)) (by decide +kernel)
theorem tw_1880 : Jvm.Cond.instanceMethod ({ cls := "WordFinderModel", name := "<init>", desc := "()V" } : Jvm.MethodName) ∈ Tall := Tall_of (List.mem_of_getElem? (i := 1880) (by decide +kernel)) (by decide +kernel)
theorem ml_L_154 : MLI RL 154 yX12_init cX12_init 1 0 := ⟨⟨⟨by decide, by decide⟩, by decide +kernel, tw_1879, tw_117, tw_1881, by decide⟩, rfl, tw_1880⟩
theorem tw_140 : Jvm.Cond.classLink "WordFinderLaw" (8 : Nat) "WordFinder" ∈ Tall := Tall_of (List.mem_of_getElem? (i := 140) (by decide +kernel)) (by decide +kernel)
theorem tw_141 : Jvm.Cond.instantiable "WordFinder" (11 : Nat) ∈ Tall := Tall_of (List.mem_of_getElem? (i := 141) (by decide +kernel)) (by decide +kernel)
theorem tw_1877 : Jvm.Cond.classLink "WordFinderLaw" (152 : Nat) "WordFinderModel" ∈ Tall := Tall_of (List.mem_of_getElem? (i := 1877) (by decide +kernel)) (by decide +kernel)
theorem tw_1878 : Jvm.Cond.instantiable "WordFinderModel" (60 : Nat) ∈ Tall := Tall_of (List.mem_of_getElem? (i := 1878) (by decide +kernel)) (by decide +kernel)
theorem tw_2560 : Jvm.Cond.arrayClass Jvm.ClassFile.FieldType.long ∈ Tall := Tall_of (List.mem_of_getElem? (i := 2560) (by decide +kernel)) (by decide +kernel)
theorem tw_2561 : Jvm.Cond.arrayClass Jvm.ClassFile.FieldType.double ∈ Tall := Tall_of (List.mem_of_getElem? (i := 2561) (by decide +kernel)) (by decide +kernel)
set_option maxRecDepth 100000 in
theorem law_start {E : PE} {p : Program} {l : Launch} {e : Env} {s : State} {m : MethodId} {args : Array Value} {below : List Frame} {meth : Method} {c : Code} {Qf : State → Prop} {MC MS : Nat} (X : Cx E p l e (rmv 840 MC MS) s m args below meth c RL code 10 ret) (hG : Gs E l) {h r1 r2 : PH} (hf1 : fX11_init (hX h) (hnew h 11 11) = some r1) (hf2 : fX12_init (hX r1) (hnew r1 12 60) = some r2) (h1 : hX r2 + 2 - hX h ≤ MC) (h2 : hV r2 + 2 - hV h ≤ MS)
    (K : PW E p l e (rmv 840 MC MS) s m args below meth c 10 (hX r2 + 2 - hX h) (hV r2 + 2 - hV h) Qf (hnew (hnew r2 23 (Int32.toNatClampNeg 1)) 24 (Int32.toNatClampNeg 1)) 28 [(0, some (.ref 0)), (1, some (.ref (hX h))), (2, some (.ref (hX r1))), (3, some (.ref (hX r2))), (4, some (.ref (hX r2 + 1))), (5, some (.int (nI (6 * 0))))] []) : PW E p l e (rmv 840 MC MS) s m args below meth c 10 0 0 Qf h 0 [(0, some (.ref 0))] [] := by
  have g1 := mX11_init hf1
  have g2 := mX12_init hf2
  have k1 : hX h + 1 ≤ hX r1 := g1.1
  have k2 : hV h + 11 ≤ hV r1 := g1.2
  have k3 : hX r1 + 1 ≤ hX r2 := g2.1
  have k4 : hV r1 + 60 ≤ hV r2 := g2.2
  have e1 : hX (hnew h 11 11) = hX h + 1 := rfl
  have e2 : hV (hnew h 11 11) = hV h + 11 := rfl
  have e3 : hX (hnew r1 12 60) = hX r1 + 1 := rfl
  have e4 : hV (hnew r1 12 60) = hV r1 + 60 := rfl
  have e5 : Int32.toNatClampNeg 1 = 1 := rfl
  refine p_newN (ci := 11) (q := (RX11, TX11, 11)) (n := 11) X rfl rfl (by decide) tw_140 tw_141 tw_100 (dcg dcl_head 0 rfl) (show 0 + 1 ≤ MC from by omega) (show 0 + 11 ≤ MS from by omega) ?_
  refine p_dup X (dcg dcl_head 1 rfl) rfl ?_
  refine p_callI (As := []) (ret1 := none) X ml_L_151 (dcg dcl_head 2 rfl) rfl rfl (wX11_init hG hf1) (by decide) (room4 (Nat.le_of_ble_eq_true rfl)) (by omega) (by omega) ?_
  rintro _ u9 ⟨rfl, e9⟩; have e9 := e9.symm; subst e9
  refine p_astore_n X (dcg dcl_head 3 rfl) rfl (by decide) rfl ?_
  refine p_newN (ci := 12) (q := (RX12, TX12, 60)) (n := 60) X rfl rfl (by decide) tw_1877 tw_1878 tw_117 (dcg dcl_head 4 rfl) (show _ + 1 ≤ MC from by omega) (show _ + 60 ≤ MS from by omega) ?_
  refine p_dup X (dcg dcl_head 5 rfl) rfl ?_
  refine p_callI (As := []) (ret1 := none) X ml_L_154 (dcg dcl_head 6 rfl) rfl rfl (wX12_init hG hf2) (by decide) (room4 (Nat.le_of_ble_eq_true rfl)) (by omega) (by omega) ?_
  rintro _ u9 ⟨rfl, e9⟩; have e9 := e9.symm; subst e9
  refine p_astore_n X (dcg dcl_head 7 rfl) rfl (by decide) rfl ?_
  refine p_iconst (v := 1) X (dcg dcl_head 8 rfl) (by decide) ?_
  refine p_newa23 X tw_2560 (dcg dcl_head 9 rfl) (by decide) (by decide) (show _ + 1 ≤ MC from by omega) (show _ + Int32.toNatClampNeg 1 ≤ MS from by omega) ?_
  refine p_astore_n X (dcg dcl_head 10 rfl) rfl (by decide) rfl ?_
  refine p_iconst (v := 1) X (dcg dcl_head 11 rfl) (by decide) ?_
  refine p_newa24 X tw_2561 (dcg dcl_head 12 rfl) (by decide) (by decide) (show _ + 1 ≤ MC from by omega) (show _ + Int32.toNatClampNeg 1 ≤ MS from by omega) ?_
  refine p_astore X (dcg dcl_head 13 rfl) (by decide) rfl ?_
  refine p_iconst (v := 0) X (dcg dcl_head 14 rfl) (by decide) ?_
  refine p_istore X (dcg dcl_head 15 rfl) (by decide) rfl ?_
  refine p_widen (uc' := hX r2 + 2 - hX h) (us' := hV r2 + 2 - hV h) (by omega) (by omega) ?_
  refine p_pick [0, 1, 2, 3, 4, 5] ?_
  exact K
set_option maxRecDepth 100000 in
/-- the whole walk, over an invariant of the calls -/
theorem whole_inv (Inv : Nat → PH → Prop) (T : Nat) (hT : T ≤ 512) {r1 r2 : PH} (hf1 : fX11_init 10 (hnew h0 11 11) = some r1) (hf2 : fX12_init (hX r1) (hnew r1 12 60) = some r2) (hb1 : hX r2 ≤ 12000) (hb2 : hV r2 ≤ 125000) (hI0 : Inv 0 (hnew (hnew r2 23 (Int32.toNatClampNeg 1)) 24 (Int32.toNatClampNeg 1)))
    (step : ∀ (j : Nat) (h : PH) (a1 a2 a3 a4 a5 : Int32), j < T → Inv j h → LSall 10 (hX r1) (hX r2) (hX r2 + 1) a1 a2 a3 a4 a5 h (Inv (j + 1)))
    {p : Program} {e : Env} {s : State} {m : MethodId} {below : List Frame} {meth : Method} {c : Code} (l : Launch) (hflags : l.flags = flags0) {b L : Nat} {xs : Nat → Int32} (hL : L / 6 ≤ T) (hL2 : L ≤ 3072) (C0 : lw_At p s m meth c b L xs) : W p l e room_1 s m #[Value.ref b] below meth c s.heap [] 0 0 (lw_Z below #[Value.ref b] s) (entryFrame m ([Value.ref b] : List Value).toArray 10) := by
  obtain ⟨hx, hb, hr, hml, hown, hts, hX0, hbl, hlocks, hgv⟩ := id C0
  obtain ⟨E, hE, hE0, hG, hgn, hlx, hrl⟩ := s_E hflags hX0 hbl hts hgv
  refine W_room (R' := rmv 840 601024 7293034) (Nat.le_of_ble_eq_true rfl) (Nat.le_of_ble_eq_true rfl) (Nat.le_refl _) (Nat.le_refl _) ?_
  have X : Cx E p l e (rmv 840 601024 7293034) s m #[Value.ref b] below meth c RL code 10 ret := ⟨hx, hb, hml, hown, fun w hw => hts w (List.mem_filter.mp hw).1, by rw [hE]; exact State.WarmedH.refl s, hG, hlocks, hr, by rw [hE]; exact Nat.le_refl _, fun q _ => by rw [hE]⟩
  have hl := lv_entry ([.ref b]) (n := 10) (Nat.le_of_ble_eq_true rfl)
  rw [lg_entry_eq]
  generalize (lg_sl ([.ref b]) ++ List.replicate (10 - (lg_sl ([.ref b])).length) Slot.unset).toArray = ls at hl ⊢
  have hl : lv_has ls 10 (lvO E [(0, some (.ref 0))]) := by
    have e : lvO E [(0, some (.ref 0))] = [(0, .ref b)] := by
      show [(0, av E (.ref 0))] = _
      rw [show av E (.ref 0) = .ref (E.1 0) from rfl, hE0]
    rw [e]; exact hl
  refine law_start X hG (h := h0) hf1 hf2 (by omega) (by omega) ?_ s.heap [] ls hrl va_S.rf hl
  refine law_loop X hG hgn hlx (by omega) Inv (fun j h a1 a2 a3 a4 a5 hj hi => step j h a1 a2 a3 a4 a5 (by omega) hi) ?_ (L / 6) 0 _ _ _ (by omega) ?_ ?_ hI0
  · intro h uc us i hu hv
    refine p_iconst (v := 1) X (dcg dcl_tail 2 rfl) (by decide) ?_
    intro H locs ls rl hS hl
    refine va_forget (fun q hq => by have := hS.2.2 q hq; unfold pA at this; rw [hE] at this; exact this) ?_
    refine W.widen (k := 601024) (n := 7293034) hu hv ?_
    exact lw_retR (d0 := s.drawn) (Drawn.sameBut.refl s.drawn lw_cs) hx hb hr hlocks (dcg dcl_tail 3 rfl)
  · have : hX h0 = 10 := rfl
    omega
  · have : hV h0 = 0 := rfl
    omega
