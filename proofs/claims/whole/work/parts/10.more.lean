/-! SMALL THINGS that the program's rows use -/
theorem nar_rf {ty : FieldType} (r : Option Nat) (h : (match ty with | .object _ => true | .array _ => true | _ => false) = true) : narrow ty (va_rf r) = va_rf r := by
  cases r <;> cases ty <;> first | rfl | (simp at h; done)
theorem fit_rf {ty : FieldType} (r : Option Nat) (h : (match ty with | .object _ => true | .array _ => true | _ => false) = true) : fits ty (va_rf r) = true := by
  cases r <;> cases ty <;> first | rfl | (simp at h; done)
def okq (h : PH) (c : Nat) (r : Option Nat) : Bool := match r with
  | none => true
  | some b => hK h b == c
theorem okq_of {h : PH} {c : Nat} {r : Option Nat} (k : okq h c r = true) : ∀ b, r = some b → hK h b = c := by
  intro b e
  subst e
  simpa [okq] using k
theorem gz_pow {E : PE} {l : Launch} (g : Gs E l) : gZ E RX10 "POWERS" "[I" (av E (.ref 1)) := g.2.2.2.2.2.1.1
theorem gz_now {E : PE} {l : Launch} (g : Gs E l) : gZ E RX4 "NO_WORDS" "[I" (av E (.ref 2)) := g.2.2.2.2.2.2.1
theorem gz_emp {E : PE} {l : Launch} (g : Gs E l) : gZ E RJx4a65c "DEFAULTCAPACITY_EMPTY_ELEMENTDATA" "[Ljava/lang/Object;" (av E (.ref 3)) := g.2.2.2.2.2.2.2.1.1
theorem gz_cmp {E : PE} {l : Launch} (g : Gs E l) : gZ E RJ0 "COMPACT_STRINGS" "Z" (av E (.int 1)) := g.2.2.2.2.2.2.2.2.1
theorem gz_ones {E : PE} {l : Launch} (g : Gs E l) : gZ E RJ6 "DigitOnes" "[B" (av E (.ref 4)) := g.2.2.2.2.2.2.2.2.2.1.1
theorem gz_tens {E : PE} {l : Launch} (g : Gs E l) : gZ E RJ6 "DigitTens" "[B" (av E (.ref 5)) := g.2.2.2.2.2.2.2.2.2.2.1.1
section PM
variable {E : PE} {p : Program} {l : Launch} {e : Env} {R : Room} {s : State} {m : MethodId} {args : Array Value} {below : List Frame} {meth : Method} {c : Code} {own : String} {cc : ByteArray} {nL : Nat} {ret : Option FieldType} {uc us : Nat} {Q : State → Prop} {h : PH} {pc : Nat} {L : PL} {st : List Value}
theorem p_objinit (X : Cx E p l e R s m args below meth c own cc nL ret) {idx a : Nat} (hl0 : Cond.methodLink own idx objectInit ∈ Tall) (hi : Cond.instanceMethod objectInit ∈ Tall) (hc : Cond.code objectInit ⟨#[0xb1]⟩ 1 none ∈ Tall) (hd : decode cc pc = .ok (.invokespecial idx, 3)) (hfr : 1 ≤ R.frames) (hlo : (st.map fun v => v.category).sum + 12 ≤ R.locals) (hsz : ∀ ls : Array Slot, lv_has ls nL (lvO E L) → ls.size = c.maxLocals) (k : PW E p l e R s m args below meth c nL uc us Q h (pc + 3) L st) : PW E p l e R s m args below meth c nL uc us Q h pc L (.ref a :: st) := fun H locs ls rl hS hl =>
  W.objInit X.1 X.2.1 X.2.2.2.1 (X.tb hl0) (X.tb hi) (X.tb hc) rfl (hsz ls hl) rfl hd hfr (by show 2 * 0 + _ + 12 ≤ _; rw [catsum_av]; omega) (k H locs ls rl hS hl)
end PM
