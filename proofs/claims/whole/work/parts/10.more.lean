/-! SMALL THINGS that the program's rows use -/
theorem nar_rf {ty : FieldType} (r : Option Nat) (h : (match ty with | .object _ => true | .array _ => true | _ => false) = true) : narrow ty (va_rf r) = va_rf r := by
  cases r <;> cases ty <;> first | rfl | (simp at h; done)
theorem fit_rf {ty : FieldType} (r : Option Nat) (h : (match ty with | .object _ => true | .array _ => true | _ => false) = true) : fits ty (va_rf r) = true := by
  cases r <;> cases ty <;> first | rfl | (simp at h; done)
def okq (h : PH) (c : Nat) (r : Option Nat) : Bool := match r with
  | none => true
  | some b => hK h b == c
theorem okq_of {h : PH} {c : Nat} {r : Option Nat} (k : okq h c r = true) : ∀ b, r = some b → hK h b = c := by
  intro b e
  subst e
  simpa [okq] using k
theorem gz_pow {E : PE} {l : Launch} (g : Gs E l) : gZ E RX10 "POWERS" "[I" (av E (.ref 1)) := g.2.2.2.2.2.1.1
theorem gz_now {E : PE} {l : Launch} (g : Gs E l) : gZ E RX4 "NO_WORDS" "[I" (av E (.ref 2)) := g.2.2.2.2.2.2.1
theorem gz_emp {E : PE} {l : Launch} (g : Gs E l) : gZ E RJx4a65c "DEFAULTCAPACITY_EMPTY_ELEMENTDATA" "[Ljava/lang/Object;" (av E (.ref 3)) := g.2.2.2.2.2.2.2.1.1
theorem gz_cmp {E : PE} {l : Launch} (g : Gs E l) : gZ E RJ0 "COMPACT_STRINGS" "Z" (av E (.int 1)) := g.2.2.2.2.2.2.2.2.1
theorem gz_ones {E : PE} {l : Launch} (g : Gs E l) : gZ E RJ6 "DigitOnes" "[B" (av E (.ref 4)) := g.2.2.2.2.2.2.2.2.2.1.1
theorem gz_tens {E : PE} {l : Launch} (g : Gs E l) : gZ E RJ6 "DigitTens" "[B" (av E (.ref 5)) := g.2.2.2.2.2.2.2.2.2.2.1.1
theorem gz_fmt {E : PE} {l : Launch} (g : Gs E l) : ∃ v : Value, (v = .null ∨ v = .ref (E.1 6)) ∧ gZ E RJ3 "SIOOBE_FORMATTER" "Ljava/util/function/BiFunction;" v := g.2.2.2.2.2.2.2.2.2.2.2.1
abbrev n64 (r : UInt64) : Prop := r &&& 0x7fffffffffffffff ≤ 0x7ff0000000000000
abbrev n32 (r : UInt32) : Prop := r &&& 0x7fffffff ≤ 0x7f800000
def dcn (_ : Nat) : UInt64 := 0
def fcn (_ : Nat) : UInt32 := 0
section PM
variable {E : PE} {p : Program} {l : Launch} {e : Env} {R : Room} {s : State} {m : MethodId} {args : Array Value} {below : List Frame} {meth : Method} {c : Code} {own : String} {cc : ByteArray} {nL : Nat} {ret : Option FieldType} {uc us : Nat} {Q : State → Prop} {h : PH} {pc : Nat} {L : PL} {st : List Value}
theorem p_objinit (X : Cx E p l e R s m args below meth c own cc nL ret) {idx a : Nat} (hl0 : Cond.methodLink own idx objectInit ∈ Tall) (hi : Cond.instanceMethod objectInit ∈ Tall) (hc : Cond.code objectInit ⟨#[0xb1]⟩ 1 none ∈ Tall) (hd : decode cc pc = .ok (.invokespecial idx, 3)) (hfr : 1 ≤ R.frames) (hlo : (st.map fun v => v.category).sum + 12 ≤ R.locals) (hsz : ∀ ls : Array Slot, lv_has ls nL (lvO E L) → ls.size = c.maxLocals) (k : PW E p l e R s m args below meth c nL uc us Q h (pc + 3) L st) : PW E p l e R s m args below meth c nL uc us Q h pc L (.ref a :: st) := fun H locs ls rl hS hl =>
  W.objInit X.1 X.2.1 X.2.2.2.1 (X.tb hl0) (X.tb hi) (X.tb hc) rfl (hsz ls hl) rfl hd hfr (by show 2 * 0 + _ + 12 ≤ _; rw [catsum_av]; omega) (k H locs ls rl hS hl)
theorem p_newN (X : Cx E p l e R s m args below meth c own cc nL ret) {idx ci n : Nat} {q : vw_C} (hq : pcl[ci]? = some q) (hn : q.2.2 = n) (hdv : ∀ k, k < n → pnd (pft ci k) = true) (hcl : Cond.classLink own idx q.1 ∈ Tall) (hins : Cond.instantiable q.1 q.2.2 ∈ Tall) (hini : Cond.initialized q.1 ∈ Tall) (hd : decode cc pc = .ok (.new idx, 3)) (hcells : uc + 1 ≤ R.cells) (hslots : us + n ≤ R.slots) (kk : PW E p l e R s m args below meth c nL (uc + 1) (us + n) Q (hnew h ci n) (pc + 3) L (.ref (hX h) :: st)) : PW E p l e R s m args below meth c nL uc us Q h pc L st := by
  subst hn
  exact p_new X hq hdv hcl hins hini hd hcells hslots kk
theorem p_dup2 (X : Cx E p l e R s m args below meth c own cc nL ret) {v z : Value} (hd : decode cc pc = .ok (.dup2, 1)) (hv : v.category = 1) (hz : z.category = 1) (k : PW E p l e R s m args below meth c nL uc us Q h (pc + 1) L (v :: z :: v :: z :: st)) : PW E p l e R s m args below meth c nL uc us Q h pc L (v :: z :: st) := fun H locs ls hR hS hl => lv_dup2_11 X.1 X.2.1 hd ((av_cat E v).trans hv) ((av_cat E z).trans hz) (k H locs ls hR hS hl)
theorem p_dconst (X : Cx E p l e R s m args below meth c own cc nL ret) (hd : decode cc pc = .ok (.dconst 0, 1)) (k : PW E p l e R s m args below meth c nL uc us Q h (pc + 1) L (.double (dcn 0) :: st)) : PW E p l e R s m args below meth c nL uc us Q h pc L st := fun H locs ls hR hS hl => lv_dconst0 X.1 X.2.1 hd (k H locs ls hR hS hl)
theorem p_fconst (X : Cx E p l e R s m args below meth c own cc nL ret) (hd : decode cc pc = .ok (.fconst 0, 1)) (k : PW E p l e R s m args below meth c nL uc us Q h (pc + 1) L (.float (fcn 0) :: st)) : PW E p l e R s m args below meth c nL uc us Q h pc L st := fun H locs ls hR hS hl => lv_fconst0 X.1 X.2.1 hd (k H locs ls hR hS hl)
theorem p_f2d (X : Cx E p l e R s m args below meth c own cc nL ret) {x : UInt32} (hd : decode cc pc = .ok (.f2d, 1)) (hne : vf_n64 (FP.f2d x)) (k : PW E p l e R s m args below meth c nL uc us Q h (pc + 1) L (.double (FP.f2d x) :: st)) : PW E p l e R s m args below meth c nL uc us Q h pc L (.float x :: st) := fun H locs ls hR hS hl => lv_f2d X.1 X.2.1 hd hne (k H locs ls hR hS hl)
end PM
theorem cat_r (a : Nat) : (Value.ref a).category = 1 := rfl
theorem cat_i (a : Int32) : (Value.int a).category = 1 := rfl
theorem cat_l (a : Int64) : (Value.long a).category = 2 := rfl
theorem cat_d (a : UInt64) : (Value.double a).category = 2 := rfl
theorem cat_f (a : UInt32) : (Value.float a).category = 1 := rfl
theorem nwq {L : PL} {k : Nat} {r : Option Nat} (h : L.lookup k = some (some (va_rf r))) : nw1 L (k + 1) = true := by
  show (match L.lookup k with
    | some (some v) => v.category != 2
    | _ => true) = true
  rw [h]
  show ((va_rf r).category != 2) = true
  rw [cat_rf]
  rfl
/-! THE HEAP'S GROWTH -/
def lez (h : PH) (x v : Nat) : Prop := hX h ≤ x ∧ hV h ≤ v
def eqz (h : PH) (x v : Nat) : Prop := hX h = x ∧ hV h = v
theorem lez_rf (h : PH) : lez h (hX h) (hV h) := ⟨Nat.le_refl _, Nat.le_refl _⟩
theorem eqz_rf (h : PH) : eqz h (hX h) (hV h) := ⟨rfl, rfl⟩
theorem lez_tr {h h1 : PH} {x v : Nat} (a : lez h (hX h1) (hV h1)) (b : lez h1 x v) : lez h x v := ⟨Nat.le_trans a.1 b.1, Nat.le_trans a.2 b.2⟩
theorem eqz_tr {h h1 : PH} {x v : Nat} (a : eqz h (hX h1) (hV h1)) (b : eqz h1 x v) : eqz h x v := ⟨a.1.trans b.1, a.2.trans b.2⟩
theorem lez_rt {h h1 : PH} {x v : Nat} (b : lez h1 x v) (a : lez h (hX h1) (hV h1)) : lez h x v := lez_tr a b
theorem eqz_rt {h h1 : PH} {x v : Nat} (b : eqz h1 x v) (a : eqz h (hX h1) (hV h1)) : eqz h x v := eqz_tr a b
theorem lez_eq {h : PH} {x v : Nat} (a : eqz h x v) : lez h x v := ⟨Nat.le_of_eq a.1, Nat.le_of_eq a.2⟩
theorem lez_up {h g : PH} (a : lez h (hX g) (hV g)) : lez h (hX g + 1) (hV g + 6) := ⟨Nat.le_add_right_of_le a.1, Nat.le_add_right_of_le a.2⟩
theorem lez_new {h : PH} {c n x v : Nat} (a : lez (hnew h c n) x v) : hX h + 1 ≤ x ∧ hV h + n ≤ v := a
theorem lez_nw {h g : PH} {c n : Nat} (a : lez h (hX g) (hV g)) : lez h (hX (hnew g c n)) (hV (hnew g c n)) := ⟨Nat.le_add_right_of_le a.1, Nat.le_add_right_of_le a.2⟩
theorem hX_sI (h : PH) (c a k : Nat) (v : Int32) : hX (sI h c a k v) = hX h := rfl
theorem hX_sR (h : PH) (c a k : Nat) (v : Option Nat) : hX (sR h c a k v) = hX h := rfl
theorem hX_sL (h : PH) (c a k : Nat) (v : Int64) : hX (sL h c a k v) = hX h := rfl
theorem hX_sD (h : PH) (a k : Nat) (v : UInt64) : hX (sD h a k v) = hX h := rfl
theorem hX_sIa (h : PH) (c a : Nat) (v : Nat → Int32) : hX (sIa h c a v) = hX h := rfl
theorem hX_sRa (h : PH) (c a : Nat) (v : Nat → Option Nat) : hX (sRa h c a v) = hX h := rfl
theorem hX_new (h : PH) (c n : Nat) : hX (hnew h c n) = hX h + 1 := rfl
theorem hV_sI (h : PH) (c a k : Nat) (v : Int32) : hV (sI h c a k v) = hV h := rfl
theorem hV_sR (h : PH) (c a k : Nat) (v : Option Nat) : hV (sR h c a k v) = hV h := rfl
theorem hV_sL (h : PH) (c a k : Nat) (v : Int64) : hV (sL h c a k v) = hV h := rfl
theorem hV_sD (h : PH) (a k : Nat) (v : UInt64) : hV (sD h a k v) = hV h := rfl
theorem hV_sIa (h : PH) (c a : Nat) (v : Nat → Int32) : hV (sIa h c a v) = hV h := rfl
theorem hV_sRa (h : PH) (c a : Nat) (v : Nat → Option Nat) : hV (sRa h c a v) = hV h := rfl
theorem hV_new (h : PH) (c n : Nat) : hV (hnew h c n) = hV h + n := rfl
/-- the heap's measure in the result of a method that may throw -/
def xT1 (r : PH ⊕ (Nat × PH)) : Nat := match r with
  | .inl h => hX h
  | .inr q => hX q.2 + 1
def vT1 (r : PH ⊕ (Nat × PH)) : Nat := match r with
  | .inl h => hV h
  | .inr q => hV q.2 + 6
def xT2 {α : Type} (r : (α × PH) ⊕ (Nat × PH)) : Nat := match r with
  | .inl z => hX z.2
  | .inr q => hX q.2 + 1
def vT2 {α : Type} (r : (α × PH) ⊕ (Nat × PH)) : Nat := match r with
  | .inl z => hV z.2
  | .inr q => hV q.2 + 6
def exn : Nat → String
  | 0 => "java/lang/IllegalStateException"
  | 1 => "java/lang/IllegalArgumentException"
  | 2 => "java/lang/IndexOutOfBoundsException"
  | _ => "java/util/NoSuchElementException"
theorem ite_or {α : Type} {c : Prop} [Decidable c] {a b x : α} (h : (if c then a else b) = x) : (c ∧ (if c then a else b) = x) ∨ (¬ c ∧ (if c then a else b) = x) := by
  by_cases q : c
  · exact Or.inl ⟨q, h⟩
  · exact Or.inr ⟨q, h⟩
theorem mq_or {α : Type} {r : Option Nat} {x : Option α} {k : Nat → Option α} {y : Option α} (h : mq r x k = y) : (r = none ∧ mq r x k = y) ∨ (∃ a, r = some a ∧ mq r x k = y) := by
  cases r with
  | none => exact Or.inl ⟨rfl, h⟩
  | some a => exact Or.inr ⟨a, rfl, h⟩
theorem wh_back {σ ρ : Type} {c : σ → Option (σ ⊕ ρ)} {s t : σ} (h : c s = some (.inl t)) {r : ρ} (k : wh c s = some r) : wh c t = some r := by
  obtain ⟨n, hn⟩ := wh_some k
  cases n with
  | zero => cases hn
  | succ n =>
    unfold whf at hn
    rw [h] at hn
    exact wh_of hn
theorem wh_ind2 {σ ρ : Type} {c : σ → Option (σ ⊕ ρ)} {r : ρ} {P : σ → Prop} (k : ∀ s x, c s = some x → (∀ t, x = .inl t → P t ∧ wh c t = some r) → (∀ q, x = .inr q → q = r) → P s) (s : σ) (h : wh c s = some r) : P s := by
  have := wh_ind (c := c) (r := r) (P := fun s => wh c s = some r → P s) (fun s x hs i1 i2 hw => k s x hs (fun t e => ⟨i1 t e (by subst e; exact wh_back hs hw), by subst e; exact wh_back hs hw⟩) i2) s h
  exact this h
