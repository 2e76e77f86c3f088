/-! SWITCHES, CONSTANTS -/
theorem off_none {d k : Int} : ∀ l : List (Int × Int), (∀ q ∈ l, k ≠ q.1) → Op.lookupswitch.offset l d k = d
  | [], _ => rfl
  | (a, b) :: r, h => by
    have ih := off_none (d := d) r (fun q hq => h q (List.mem_cons_of_mem _ hq))
    have hk : k ≠ a := h (a, b) List.mem_cons_self
    rw [Op.lookupswitch.offset_cons]
    simp [hk, Ne.symm hk, ih]
theorem nst1 {σ ρ : Type} {x : σ ⊕ ρ} {P : Prop} (a : ∀ z, x = .inl z → P) (b : ∀ z, x = .inr z → P) : P := by
  cases x with
  | inl z => exact a z rfl
  | inr z => exact b z rfl
theorem nst2 {σ ρ : Type} {x : σ ⊕ ρ} {P : Prop} (a : ∀ z, x = .inl z → P) (b : ∀ y, x = .inr y → P) : P := nst1 a b
theorem i32_back (x : Int32) : Int32.ofInt x.toInt = x := Int32.ofInt_toInt x
section PS
variable {E : PE} {p : Program} {l : Launch} {e : Env} {R : Room} {s : State} {m : MethodId} {args : Array Value} {below : List Frame} {meth : Method} {c : Code} {own : String} {cc : ByteArray} {nL : Nat} {ret : Option FieldType} {uc us : Nat} {Q : State → Prop} {h : PH} {pc : Nat} {L : PL} {st : List Value}
theorem p_ldc (X : Cx E p l e R s m args below meth c own cc nL ret) {idx : Nat} {v : Int32} (hl0 : Cond.constant own idx v ∈ Tall) (hd : decode cc pc = .ok (.ldc idx, 2)) (k : PW E p l e R s m args below meth c nL uc us Q h (pc + 2) L (.int v :: st)) : PW E p l e R s m args below meth c nL uc us Q h pc L st := fun H locs ls rl hS hl => lv_ldc X.1 X.2.1 X.2.2.2.1 (X.tb hl0) hd (k H locs ls rl hS hl)
theorem p_ldc_w (X : Cx E p l e R s m args below meth c own cc nL ret) {idx : Nat} {v : Int32} (hl0 : Cond.constant own idx v ∈ Tall) (hd : decode cc pc = .ok (.ldc_w idx, 3)) (k : PW E p l e R s m args below meth c nL uc us Q h (pc + 3) L (.int v :: st)) : PW E p l e R s m args below meth c nL uc us Q h pc L st := fun H locs ls rl hS hl => lv_ldcw X.1 X.2.1 X.2.2.2.1 (X.tb hl0) hd (k H locs ls rl hS hl)
theorem p_ldc2 (X : Cx E p l e R s m args below meth c own cc nL ret) {idx : Nat} {v : Int64} (hl0 : Cond.constantLong own idx v ∈ Tall) (hd : decode cc pc = .ok (.ldc2_w idx, 3)) (k : PW E p l e R s m args below meth c nL uc us Q h (pc + 3) L (.long v :: st)) : PW E p l e R s m args below meth c nL uc us Q h pc L st := fun H locs ls rl hS hl => lv_ldc2 X.1 X.2.1 X.2.2.2.1 (X.tb hl0) hd (k H locs ls rl hS hl)
theorem p_tableK (X : Cx E p l e R s m args below meth c own cc nL ret) {dflt lo hi : Int} {offs : Array Int} {len : Nat} {x k : Int32} {tgt : Nat} (hd : decode cc pc = .ok (.tableswitch dflt lo hi offs, len)) (h1 : ¬ k.toInt < lo) (hx : x = k) (h2 : ¬ hi < k.toInt) (ho : offs[(k.toInt - lo).toNat]? = some ((tgt : Int) - (pc : Int))) (_h3 : True) (kk : PW E p l e R s m args below meth c nL uc us Q h tgt L st) : PW E p l e R s m args below meth c nL uc us Q h pc L (.int x :: st) := by
  subst hx
  exact p_tableIn X hd h1 h2 ho (by omega) kk
theorem p_tableD (X : Cx E p l e R s m args below meth c own cc nL ret) {dflt lo hi : Int} {offs : Array Int} {len : Nat} {x : Int32} {tgt : Nat} {ks : List Int32} (hd : decode cc pc = .ok (.tableswitch dflt lo hi offs, len)) (h1 : ∀ n : Nat, n < (hi + 1 - lo).toNat → Int32.ofInt (lo + n) ∈ ks) (hks : ∀ k ∈ ks, ¬ x = k) (ht : (pc : Int) + dflt = (tgt : Int)) (kk : PW E p l e R s m args below meth c nL uc us Q h tgt L st) : PW E p l e R s m args below meth c nL uc us Q h pc L (.int x :: st) := by
  refine p_tableOut X hd ?_ ht kk
  by_cases a : x.toInt < lo
  · exact Or.inl a
  · by_cases b : hi < x.toInt
    · exact Or.inr b
    · exfalso
      have := h1 (x.toInt - lo).toNat (by omega)
      rw [show lo + ((x.toInt - lo).toNat : Int) = x.toInt by omega, i32_back] at this
      exact hks _ this rfl
theorem p_lookupK (X : Cx E p l e R s m args below meth c own cc nL ret) {dflt : Int} {ps : Array (Int × Int)} {len : Nat} {x k : Int32} {tgt : Nat} (hd : decode cc pc = .ok (.lookupswitch dflt ps, len)) (hp : (ps.toList.zip (ps.toList.drop 1)).all (fun (a, next) => a.1 < next.1) = true) (hx : x = k) (ho : Op.lookupswitch.offset ps.toList dflt k.toInt = (tgt : Int) - (pc : Int)) (_h2 : True) (_h3 : True) (kk : PW E p l e R s m args below meth c nL uc us Q h tgt L st) : PW E p l e R s m args below meth c nL uc us Q h pc L (.int x :: st) := by
  subst hx
  exact p_lookup X hd hp ho (by omega) kk
theorem p_lookupD (X : Cx E p l e R s m args below meth c own cc nL ret) {dflt : Int} {ps : Array (Int × Int)} {len : Nat} {x : Int32} {tgt : Nat} {ks : List Int32} (hd : decode cc pc = .ok (.lookupswitch dflt ps, len)) (h1 : (ps.toList.zip (ps.toList.drop 1)).all (fun (a, next) => a.1 < next.1) = true ∧ ∀ q ∈ ps.toList, Int32.ofInt q.1 ∈ ks) (hks : ∀ k ∈ ks, ¬ x = k) (ht : (pc : Int) + dflt = (tgt : Int)) (kk : PW E p l e R s m args below meth c nL uc us Q h tgt L st) : PW E p l e R s m args below meth c nL uc us Q h pc L (.int x :: st) := by
  refine p_lookup X hd h1.1 (off_none _ (fun q hq e => ?_)) ht kk
  have := h1.2 q hq
  rw [← e, i32_back] at this
  exact hks _ this rfl
theorem p_mmin (X : Cx E p l e R s m args below meth c own cc nL ret) {idx : Nat} {x y : Int32} (hlink : Cond.methodLink own idx Lib.Math.min.name ∈ Tall) (hst : Cond.static Lib.Math.min.name ∈ Tall) (hini : Cond.initialized "java/lang/Math" ∈ Tall) (hcode : Cond.code Lib.Math.min.name Lib.Math.min.code 2 (some .int) ∈ Tall) (hd : decode cc pc = .ok (.invokestatic idx, 3)) (hfr : 1 ≤ R.frames) (hlo : (st.map fun v => v.category).sum + 13 ≤ R.locals) (hc : uc ≤ R.cells) (hs : us ≤ R.slots) (hsz : ∀ ls : Array Slot, lv_has ls nL (lvO E L) → c.maxLocals = ls.size) (kk : PW E p l e R s m args below meth c nL uc us Q h (pc + 3) L (.int (if y < x then y else x) :: st)) : PW E p l e R s m args below meth c nL uc us Q h pc L (.int y :: .int x :: st) := fun H locs ls rl hS hl =>
  va_mmin X.1 X.2.1 (hsz ls hl) X.2.2.2.1 (X.tb hlink) (X.tb hst) (X.tb hini) (X.tb hcode) hfr (by rw [catsum_av]; exact hlo) hc hs hd (kk H locs ls rl hS hl)
end PS
