/-! CALLS of a superclass's private methods on an object of its subclass -/
def MLP (own : String) (idx : Nat) (y : MethodName) (cc : ByteArray) (nL : Nat) (ret : Option FieldType) (n ci : Nat) : Prop := MLB own idx y cc nL ret n ∧ Cond.instanceMethod y ∈ Tall ∧ Cond.sameMethod y.cls y.cls y.name y.desc ∈ Tall ∧ ∃ (q : vw_C) (y0 : MethodName), pcl[ci]? = some q ∧ Cond.privateMethod y ∈ lw_tbl ∧ y0.cls = y.cls ∧ Cond.selects q.1 y0 y0 ∈ Tall
section PP
variable {E : PE} {p : Program} {l : Launch} {e : Env} {s : State} {m : MethodId} {args : Array Value} {below : List Frame} {meth : Method} {c : Code} {own : String} {cc : ByteArray} {nL : Nat} {ret : Option FieldType} {uc us : Nat} {Qf : State → Prop} {h : PH} {pc : Nat} {L : PL} {st : List Value} {Q : Option Value → PH → Prop} {QX : String → PH → Prop} {mc ms D MC MS : Nat}
theorem p_callP (X : Cx E p l e (rmv D MC MS) s m args below meth c own cc nL ret) {idx n ci nL1 d1 mc1 ms1 a : Nat} {y : MethodName} {cc1 : ByteArray} {ret1 : Option FieldType} {As : List Value} {Q1 : Option Value → PH → Prop} {stk : List Value} (M : MLP own idx y cc1 nL1 ret1 n ci) (hd : decode cc pc = .ok (.invokevirtual idx, 3)) (hst : stk = As.reverse ++ .ref a :: st) (hn : As.length = n) (hk : hK h a = ci) (hM : Ct E l d1 mc1 ms1 y cc1 nL1 ret1 (.ref a :: As) h Q1) (hD : d1 + 1 ≤ D) (hroom : (st.map fun v => v.category).sum ≤ 8) (hc : uc + mc1 ≤ MC) (hs : us + ms1 ≤ MS) (kk : ∀ (v : Option Value) (u : PH), Q1 v u → PW E p l e (rmv D MC MS) s m args below meth c nL (uc + mc1) (us + ms1) (Qf) u (pc + 3) L (v.toList ++ st)) : PW E p l e (rmv D MC MS) s m args below meth c nL uc us (Qf) h pc L stk := fun H locs ls rl hS hl => by
  subst hst
  obtain ⟨hb, hin, hsame, q, y0, hq, z1, z2, z3⟩ := M
  obtain ⟨j, h1, h2⟩ := pws_obj (E := E) rl hk (show ci < 19 by have := (List.getElem?_eq_some_iff.mp hq).1; simp [pcl] at this; omega)
  have hrecv := va_recv X.K rl.2.2.2.1 hq h2
  have hRR : (rmv d1 mc1 ms1).frames + 1 ≤ (rmv D MC MS).frames ∧ 8 + (nL1 + 11) + (rmv d1 mc1 ms1).locals ≤ (rmv D MC MS).locals := ⟨hD, by have := hb.2.2.2.2.2; show 8 + (nL1 + 11) + 100 * d1 ≤ 100 * D; omega⟩
  have hsw : (Cond.selects q.1 y y).before args s = true := by
    obtain ⟨A0, hA0⟩ := X.2.2.2.2.2.2.1.1
    have h0 : (Cond.selects q.1 y y).before A0 E.2.2.2 = true := sel_priv (hA0 _ (List.mem_filter.mp z3).1) z2 hb.1 (hA0 _ z1) (hA0 _ (List.mem_filter.mp hin).1)
    exact word_at X.2.2.2.2.2.1 (good_of_word rfl) h0
  have hB := va_cwU (R := rmv D MC MS) (s := s) (args := args) (own := own) (C := q.1) (owner := y.cls) (index := idx) (x := y) (y := y) (bytes := cc1) (maxL := nL1) (ret := ret1) (Ts := Cond.selects q.1 y y :: Tall) (ws := Cond.code y cc1 nL1 ret1 :: Tall) (rm := rmv d1 mc1 ms1) (mc := mc1) (ms := ms1) n (fun w hw => by
    rcases List.mem_cons.mp hw with rfl | hw
    · exact hsw
    · exact X.tb hw) (fun w hw => by
    have cs : w = Cond.selects q.1 y y ∨ w ∈ Tall := by
      unfold va_wsU at hw
      rcases List.mem_append.mp hw with z | z
      · simp only [List.mem_cons, List.not_mem_nil, or_false] at z
        rcases z with z | z | z | z | z
        · exact Or.inr (by rw [z]; exact hb.2.2.1)
        · exact Or.inr (by rw [z]; exact hsame)
        · exact Or.inl z
        · exact Or.inr (by rw [z]; exact hin)
        · exact Or.inr (by rw [z]; exact hb.2.2.2.1)
      · rcases List.mem_cons.mp z with z | z
        · exact Or.inr (by rw [z]; exact hb.2.2.2.2.1)
        · exact Or.inr z
    rcases cs with z | z
    · exact ⟨by rw [z]; exact List.mem_cons_self, by rw [z]; exact good_of_word rfl⟩
    · exact ⟨List.mem_cons_of_mem _ z, good_of_word (List.mem_filter.mp z).2⟩) rfl rfl rfl rfl ⟨hb.1.1, hb.1.2, hb.2.1⟩ hRR
  exact p_back hS hl (va_runU (C := q.1) (As := As.map (av E)) (rest := st.map (av E)) (g := F0 m pc ls ((As.reverse ++ .ref a :: st).map (av E))) (Ts := Tall) ⟨X.1, X.2.1, X.2.2.1, X.2.2.2.1, fun w hw => X.tb hw⟩ hM hB ⟨pPc_blind E _ h, hrecv, fun U hU hW => ⟨rfl, X.2.2.2.2.2.1.trans hW, by rw [hU]; exact rl⟩⟩ rfl (by rw [List.length_map]; exact hn) hl.1 (by rw [List.map_append, List.map_reverse]; rfl) (lv_room (by rw [catsum_av]; exact hroom)) hd ⟨hc, hs⟩) kk
end PP
