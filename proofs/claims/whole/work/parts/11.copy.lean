/-! System.arraycopy over the pure heap -/
theorem nn_of {z : Int32} (hz : ¬ z < 0) : z.toInt = (z.toNatClampNeg : Int) := by
  have hz0 : (0 : Int) ≤ z.toInt := by
    have := Int32.not_lt.mp hz
    simpa using Int32.le_iff_toInt_le.mp this
  show z.toInt = ((z.toInt.toNat : Nat) : Int)
  omega
section PY
variable {E : PE} {p : Program} {l : Launch} {e : Env} {R : Room} {s : State} {m : MethodId} {args : Array Value} {below : List Frame} {meth : Method} {c : Code} {own : String} {cc : ByteArray} {nL : Nat} {ret : Option FieldType} {uc us : Nat} {Q : State → Prop} {h : PH} {pc : Nat} {L : PL} {st : List Value}
/-- the row of a copy, with the heap behind it said outright -/
theorem w_copy (X : Cx E p l e R s m args below meth c own cc nL ret) {idx : Nat} (hl0 : Cond.methodLink own idx arraycopyName ∈ Tall) (hn0 : Cond.native arraycopyName ∈ Tall) (hs0 : Cond.static arraycopyName ∈ Tall) (hi0 : Cond.initialized "java/lang/System" ∈ Tall)
    {H : Heap} {locs : List Loc} {ls : Array Slot} {rest : List Value} (hml : c.maxLocals = ls.size) {src dst : Nat} {cs cd : Cell} {ks kd : Class} {sComp dComp : ClassId} {sType dType : FieldType} {sp dp n : Int32} (hs : H[src]? = some cs) (hd : H[dst]? = some cd) (hvs : cs.vm = .none) (hvd : cd.vm = .none)
    (hks : s.vm.classes[cs.cls]? = some ks) (hkd : s.vm.classes[cd.cls]? = some kd) (hsk : ks.kind = .array sComp sType) (hdk : kd.kind = .array dComp dType) (hty : ((refKind sType != refKind dType) || (!refKind sType && sType != dType)) = false)
    (h1 : ¬ sp < 0) (h2 : ¬ dp < 0) (h3 : ¬ n < 0) (h4 : sp.toNatClampNeg + n.toNatClampNeg ≤ cs.slots.size) (h5 : dp.toNatClampNeg + n.toNatClampNeg ≤ cd.slots.size)
    (hvals : ∀ (T : State) (vm' : Vm), T.heap = H → s.vm.Alike vm' → ∀ i, i < n.toNatClampNeg → fits dType (cs.slots.getD (sp.toNatClampNeg + i) .null) = true ∧ (T.setVm vm').takes dComp (cs.slots.getD (sp.toNatClampNeg + i) .null))
    (hdg : decode cc pc = .ok (.invokestatic idx, 3)) (hfr : 1 ≤ R.frames) (hlo : (rest.map fun v => v.category).sum + (nativeFrameWords "java/lang/System" "arraycopy" 5 + 11) ≤ R.locals)
    (kk : ∀ locs1 : List Loc, (∀ q ∈ locs1, q ∈ locs ∨ q.base = dst) → W p l e R s m args below meth c (H.setIfInBounds dst (copied cs cd sp dp n)) locs1 uc us Q (F0 m (pc + 3) ls rest)) :
    W p l e R s m args below meth c H locs uc us Q (F0 m pc ls (.int n :: .int dp :: .ref dst :: .int sp :: .ref src :: rest)) := by
  intro T hT Y
  obtain ⟨vm', Y', step⟩ := Y.arraycopy X.1 X.2.2.2.1 (X.tb hl0) (X.tb hn0) (X.tb hs0) (X.tb hi0) (src := src) (dst := dst) (srcPos := sp) (destPos := dp) (n := n) (by rw [hT]; exact hs) (by rw [hT]; exact hd) (fun k q => by rw [hvs] at q; cases q) (fun k q => by rw [hvd] at q; cases q) (fun q => by rw [hvs] at q; cases q) (fun q => by rw [hvd] at q; cases q) hks hkd hsk hdk hty h1 h2 h3 (by rw [nn_of h1, nn_of h3]; omega) (by rw [nn_of h2, nn_of h3]; omega) (fun vm1 ha i hi => hvals T vm1 hT ha i hi)
    (g := F0 m pc ls (.int n :: .int dp :: .ref dst :: .int sp :: .ref src :: rest)) rfl hml.symm (rest := rest) rfl (by rw [X.2.1]; exact hdg) hfr (by show 2 * 0 + _ + _ ≤ _; omega)
  obtain ⟨t, a1, b1⟩ := kk _ (fun q hq => by
    rcases List.mem_append.mp hq with z | z
    · exact Or.inl z
    · obtain ⟨x, -, hx⟩ := List.mem_map.mp z
      exact Or.inr (by rw [← hx])) _ (by show (T.heap.setIfInBounds dst _) = _; rw [hT]) Y'
  exact ⟨t, step t a1, b1⟩
theorem nfw5 : nativeFrameWords "java/lang/System" "arraycopy" 5 + 11 ≤ 40 := by decide
def bfit (h : PH) (b : Nat) (sp n : Int32) : Bool := (List.range n.toNatClampNeg).all (fun i => fits .byte (.int (hI h 22 b (sp.toNatClampNeg + i))))
theorem bfit_of {h : PH} {b : Nat} {sp n : Int32} (k : bfit h b sp n = true) : ∀ i, i < n.toNatClampNeg → fits .byte (.int (hI h 22 b (sp.toNatClampNeg + i))) = true := fun i hi => List.all_eq_true.mp k i (List.mem_range.mpr hi)
theorem hX_cpyI (h : PH) (c b a : Nat) (sp dp n : Int32) : hX (sIa h c a (va_cpy (hI h c b) (hI h c a) sp.toNatClampNeg dp.toNatClampNeg n.toNatClampNeg)) = hX h := rfl
abbrev cpyok (h : PH) (c b a : Nat) (sp dp n : Int32) : Prop := hK h b = c ∧ hK h a = c ∧ ¬ sp < 0 ∧ ¬ dp < 0 ∧ ¬ n < 0 ∧ sp.toNatClampNeg + n.toNatClampNeg ≤ hN h b ∧ dp.toNatClampNeg + n.toNatClampNeg ≤ hN h a
def okrs (h : PH) (b : Nat) (sp n : Int32) : Bool := (List.range n.toNatClampNeg).all (fun i => okr h (hR h 28 b (sp.toNatClampNeg + i)))
abbrev cpyI (h : PH) (c b a : Nat) (sp dp n : Int32) : PH := sIa h c a (va_cpy (hI h c b) (hI h c a) sp.toNatClampNeg dp.toNatClampNeg n.toNatClampNeg)
abbrev cpyR (h : PH) (c b a : Nat) (sp dp n : Int32) : PH := sRa h c a (va_cpy (hR h c b) (hR h c a) sp.toNatClampNeg dp.toNatClampNeg n.toNatClampNeg)
theorem va_S.cp {A : Nat → Prop} {H0 H H1 : Heap} {locs locs1 : List Loc} {a : Nat} (h : va_S A H0 H locs) (z : H1.size = H.size) (oq : ∀ q : Nat, q ≠ a → H1[q]? = H[q]?) (ha : A a) (hl : ∀ q ∈ locs1, q ∈ locs ∨ q.base = a) : va_S A H0 H1 locs1 :=
  ⟨by rw [z]; exact h.1, fun q g1 g2 => (oq q (fun e => g2 (by rw [e]; exact ha))).trans (h.2.1 q g1 g2), fun q hq => (hl q hq).elim (h.2.2 q) (fun e => by rw [e]; exact ha)⟩
theorem p_copyI (X : Cx E p l e R s m args below meth c own cc nL ret) {idx : Nat} (hl0 : Cond.methodLink own idx arraycopyName ∈ Tall) (hn0 : Cond.native arraycopyName ∈ Tall) (hs0 : Cond.static arraycopyName ∈ Tall) (hi0 : Cond.initialized "java/lang/System" ∈ Tall) {a b : Nat} {sp dp n : Int32} (hc : cpyok h 20 b a sp dp n)  (hd : decode cc pc = .ok (.invokestatic idx, 3)) (hfr : 1 ≤ R.frames) (hroom : (st.map fun v => v.category).sum ≤ 8) (hlo : 48 ≤ R.locals)
    (kk : PW E p l e R s m args below meth c nL uc us Q (cpyI h 20 b a sp dp n) (pc + 3) L st) : PW E p l e R s m args below meth c nL uc us Q h pc L (.int n :: .int dp :: .ref a :: .int sp :: .ref b :: st) := fun H locs ls rl hS hl => by
  obtain ⟨kb, ka, h1, h2, h3, h4, h5⟩ := hc
  obtain ⟨ja, a1, a2⟩ := pws_arr (E := E) rl ka (by decide) (rl.ne3 ka (by decide))
  obtain ⟨jb, b1, b2⟩ := pws_arr (E := E) rl kb (by decide) (rl.ne3 kb (by decide))
  have ca : H[ad E a]? = some (arrV (E.2.2.1 20) (hN h a) (fun j => .int (hI h 20 a j))) := rl.2.2.2.1 ja _ a2
  have cb : H[ad E b]? = some (arrV (E.2.2.1 20) (hN h b) (fun j => .int (hI h 20 b j))) := rl.2.2.2.1 jb _ b2
  obtain ⟨-, ka0, hka, cma, hkka⟩ := (X.K.2 0 _ rfl).1 (hN h a) (fun j => .int (hI h 20 a j))
  obtain ⟨-, kb0, hkb, cmb, hkkb⟩ := (X.K.2 0 _ rfl).1 (hN h b) (fun j => .int (hI h 20 b j))
  have hl1 : ad E a < H.size := (Array.getElem?_eq_some_iff.mp ca).1
  have e1 : copied (arrV (E.2.2.1 20) (hN h b) (fun j => .int (hI h 20 b j))) (arrV (E.2.2.1 20) (hN h a) (fun j => .int (hI h 20 a j))) sp dp n = arrV (E.2.2.1 20) (hN h a) (fun j => .int (va_cpy (hI h 20 b) (hI h 20 a) sp.toNatClampNeg dp.toNatClampNeg n.toNatClampNeg j)) := va_copied (fun z => .int z) _ _ _ _ h4
  refine w_copy X hl0 hn0 hs0 hi0 (X.2.2.1.trans hl.1.symm) cb ca rfl rfl hkb hka hkkb hkka (by simp [refKind]) h1 h2 h3 (by rw [arrV_size]; exact h4) (by rw [arrV_size]; exact h5) (fun T vm1 hT ha i hi => ?_) hd hfr (by rw [catsum_av]; have := nfw5; omega) (fun locs1 hlc => ?_)
  · have e : (arrV (E.2.2.1 20) (hN h b) (fun j => .int (hI h 20 b j))).slots.getD (sp.toNatClampNeg + i) .null = .int (hI h 20 b (sp.toNatClampNeg + i)) := by
      rw [Array.getD_eq_getD_getElem?, arrV_read _ _ (by omega)]
      rfl
    rw [e]
    exact ⟨rfl, trivial⟩
  · rw [e1]
    have oq : ∀ q : Nat, q ≠ ad E a → (H.setIfInBounds (ad E a) (arrV (E.2.2.1 20) (hN h a) (fun j => .int (va_cpy (hI h 20 b) (hI h 20 a) sp.toNatClampNeg dp.toNatClampNeg n.toNatClampNeg j))))[q]? = H[q]? := fun q hq => by simp [Array.getElem?_setIfInBounds, Ne.symm hq]
    refine kk _ _ ls (rl.put (h' := cpyI h 20 b a sp dp n) a1 ?_ (by simp) oq (fun x hb => pce_eq rfl rfl (fun j => by unfold hI cpyI sIa; first | rfl | simp [hb]) (fun j => rfl) (fun j => rfl) (fun j => rfl)) rfl rfl rfl rfl) (hS.cp (by simp) oq (rl.pAt a1) hlc) hl
    rw [pce_arr (h := cpyI h 20 b a sp dp n) (c := 20) (show hK (cpyI h 20 b a sp dp n) a = 20 from ka) (by decide)]
    show (H.setIfInBounds (ad E a) _)[ad E a]? = some (arrV (E.2.2.1 20) (hN h a) (fun j => .int (hI (cpyI h 20 b a sp dp n) 20 a j)))
    rw [Array.getElem?_setIfInBounds_self_of_lt hl1]
    congr 2
    funext q
    simp [hI, cpyI, sIa]
theorem p_copyB (X : Cx E p l e R s m args below meth c own cc nL ret) {idx : Nat} (hl0 : Cond.methodLink own idx arraycopyName ∈ Tall) (hn0 : Cond.native arraycopyName ∈ Tall) (hs0 : Cond.static arraycopyName ∈ Tall) (hi0 : Cond.initialized "java/lang/System" ∈ Tall) {a b : Nat} {sp dp n : Int32} (hc : cpyok h 22 b a sp dp n) (hfit : ∀ i, i < n.toNatClampNeg → fits .byte (.int (hI h 22 b (sp.toNatClampNeg + i))) = true) (hd : decode cc pc = .ok (.invokestatic idx, 3)) (hfr : 1 ≤ R.frames) (hroom : (st.map fun v => v.category).sum ≤ 8) (hlo : 48 ≤ R.locals)
    (kk : PW E p l e R s m args below meth c nL uc us Q (cpyI h 22 b a sp dp n) (pc + 3) L st) : PW E p l e R s m args below meth c nL uc us Q h pc L (.int n :: .int dp :: .ref a :: .int sp :: .ref b :: st) := fun H locs ls rl hS hl => by
  obtain ⟨kb, ka, h1, h2, h3, h4, h5⟩ := hc
  obtain ⟨ja, a1, a2⟩ := pws_arr (E := E) rl ka (by decide) (rl.ne3 ka (by decide))
  obtain ⟨jb, b1, b2⟩ := pws_arr (E := E) rl kb (by decide) (rl.ne3 kb (by decide))
  have ca : H[ad E a]? = some (arrV (E.2.2.1 22) (hN h a) (fun j => .int (hI h 22 a j))) := rl.2.2.2.1 ja _ a2
  have cb : H[ad E b]? = some (arrV (E.2.2.1 22) (hN h b) (fun j => .int (hI h 22 b j))) := rl.2.2.2.1 jb _ b2
  obtain ⟨-, ka0, hka, cma, hkka⟩ := (X.K.2 2 _ rfl).1 (hN h a) (fun j => .int (hI h 22 a j))
  obtain ⟨-, kb0, hkb, cmb, hkkb⟩ := (X.K.2 2 _ rfl).1 (hN h b) (fun j => .int (hI h 22 b j))
  have hl1 : ad E a < H.size := (Array.getElem?_eq_some_iff.mp ca).1
  have e1 : copied (arrV (E.2.2.1 22) (hN h b) (fun j => .int (hI h 22 b j))) (arrV (E.2.2.1 22) (hN h a) (fun j => .int (hI h 22 a j))) sp dp n = arrV (E.2.2.1 22) (hN h a) (fun j => .int (va_cpy (hI h 22 b) (hI h 22 a) sp.toNatClampNeg dp.toNatClampNeg n.toNatClampNeg j)) := va_copied (fun z => .int z) _ _ _ _ h4
  refine w_copy X hl0 hn0 hs0 hi0 (X.2.2.1.trans hl.1.symm) cb ca rfl rfl hkb hka hkkb hkka (by simp [refKind]) h1 h2 h3 (by rw [arrV_size]; exact h4) (by rw [arrV_size]; exact h5) (fun T vm1 hT ha i hi => ?_) hd hfr (by rw [catsum_av]; have := nfw5; omega) (fun locs1 hlc => ?_)
  · have e : (arrV (E.2.2.1 22) (hN h b) (fun j => .int (hI h 22 b j))).slots.getD (sp.toNatClampNeg + i) .null = .int (hI h 22 b (sp.toNatClampNeg + i)) := by
      rw [Array.getD_eq_getD_getElem?, arrV_read _ _ (by omega)]
      rfl
    rw [e]
    exact ⟨hfit i hi, trivial⟩
  · rw [e1]
    have oq : ∀ q : Nat, q ≠ ad E a → (H.setIfInBounds (ad E a) (arrV (E.2.2.1 22) (hN h a) (fun j => .int (va_cpy (hI h 22 b) (hI h 22 a) sp.toNatClampNeg dp.toNatClampNeg n.toNatClampNeg j))))[q]? = H[q]? := fun q hq => by simp [Array.getElem?_setIfInBounds, Ne.symm hq]
    refine kk _ _ ls (rl.put (h' := cpyI h 22 b a sp dp n) a1 ?_ (by simp) oq (fun x hb => pce_eq rfl rfl (fun j => by unfold hI cpyI sIa; first | rfl | simp [hb]) (fun j => rfl) (fun j => rfl) (fun j => rfl)) rfl rfl rfl rfl) (hS.cp (by simp) oq (rl.pAt a1) hlc) hl
    rw [pce_arr (h := cpyI h 22 b a sp dp n) (c := 22) (show hK (cpyI h 22 b a sp dp n) a = 22 from ka) (by decide)]
    show (H.setIfInBounds (ad E a) _)[ad E a]? = some (arrV (E.2.2.1 22) (hN h a) (fun j => .int (hI (cpyI h 22 b a sp dp n) 22 a j)))
    rw [Array.getElem?_setIfInBounds_self_of_lt hl1]
    congr 2
    funext q
    simp [hI, cpyI, sIa]
theorem p_copyR (X : Cx E p l e R s m args below meth c own cc nL ret) {idx : Nat} (hl0 : Cond.methodLink own idx arraycopyName ∈ Tall) (hn0 : Cond.native arraycopyName ∈ Tall) (hs0 : Cond.static arraycopyName ∈ Tall) (hi0 : Cond.initialized "java/lang/System" ∈ Tall) {a b : Nat} {sp dp n : Int32} (hc : cpyok h 28 b a sp dp n ∧ hN h a ≠ 0 ∧ hN h b ≠ 0) (hv : okrs h b sp n = true) (hd : decode cc pc = .ok (.invokestatic idx, 3)) (hfr : 1 ≤ R.frames) (hroom : (st.map fun v => v.category).sum ≤ 8) (hlo : 48 ≤ R.locals)
    (kk : PW E p l e R s m args below meth c nL uc us Q (cpyR h 28 b a sp dp n) (pc + 3) L st) : PW E p l e R s m args below meth c nL uc us Q h pc L (.int n :: .int dp :: .ref a :: .int sp :: .ref b :: st) := fun H locs ls rl hS hl => by
  obtain ⟨⟨kb, ka, h1, h2, h3, h4, h5⟩, na, nb⟩ := hc
  have n3 : ∀ x, hN h x ≠ 0 → x ≠ 3 := fun x hx => rl.ne3n (i := 0) (fun q => by
    rcases q with q | q
    · exact absurd q (by decide)
    · exact hx (Nat.le_zero.mp q))
  obtain ⟨ja, a1, a2⟩ := pws_arr (E := E) rl ka (by decide) (n3 a na)
  obtain ⟨jb, b1, b2⟩ := pws_arr (E := E) rl kb (by decide) (n3 b nb)
  have ca : H[ad E a]? = some (arrV (E.2.2.1 28) (hN h a) (fun j => va_rf (avr E (hR h 28 a j)))) := rl.2.2.2.1 ja _ a2
  have cb : H[ad E b]? = some (arrV (E.2.2.1 28) (hN h b) (fun j => va_rf (avr E (hR h 28 b j)))) := rl.2.2.2.1 jb _ b2
  obtain ⟨-, ka0, hka, cma, hkka⟩ := (X.K.2 8 _ rfl).1 (hN h a) (fun j => va_rf (avr E (hR h 28 a j)))
  obtain ⟨-, kb0, hkb, cmb, hkkb⟩ := (X.K.2 8 _ rfl).1 (hN h b) (fun j => va_rf (avr E (hR h 28 b j)))
  have hl1 : ad E a < H.size := (Array.getElem?_eq_some_iff.mp ca).1
  have e1 : copied (arrV (E.2.2.1 28) (hN h b) (fun j => va_rf (avr E (hR h 28 b j)))) (arrV (E.2.2.1 28) (hN h a) (fun j => va_rf (avr E (hR h 28 a j)))) sp dp n = arrV (E.2.2.1 28) (hN h a) (fun j => va_rf (va_cpy (fun j => avr E (hR h 28 b j)) (fun j => avr E (hR h 28 a j)) sp.toNatClampNeg dp.toNatClampNeg n.toNatClampNeg j)) := va_copied (fun z => va_rf z) _ _ _ _ h4
  refine w_copy X hl0 hn0 hs0 hi0 (X.2.2.1.trans hl.1.symm) cb ca rfl rfl hkb hka hkkb hkka rfl h1 h2 h3 (by rw [arrV_size]; exact h4) (by rw [arrV_size]; exact h5) (fun T vm1 hT hal i hi => ?_) hd hfr (by rw [catsum_av]; have := nfw5; omega) (fun locs1 hlc => ?_)
  · have e : (arrV (E.2.2.1 28) (hN h b) (fun j => va_rf (avr E (hR h 28 b j)))).slots.getD (sp.toNatClampNeg + i) .null = va_rf (avr E (hR h 28 b (sp.toNatClampNeg + i))) := by
      rw [Array.getD_eq_getD_getElem?, arrV_read _ _ (by omega)]
      rfl
    rw [e]
    have hok := List.all_eq_true.mp hv i (List.mem_range.mpr hi)
    cases hy : hR h 28 b (sp.toNatClampNeg + i) with
    | none => exact ⟨rfl, trivial⟩
    | some y =>
      rw [hy] at hok
      have hb : hK h y < 15 := by simpa [okr] using hok
      obtain ⟨jy, -, hy2⟩ := pws_obj (E := E) rl rfl (show hK h y < 19 by omega)
      obtain ⟨r, hr, cellV, g1, g2, g3, -⟩ := rl.2.2.2.1 jy _ hy2
      have hcls := (X.K.1 _ r hr).2
      obtain ⟨kA, comp, k1, k2, k3, -⟩ := (X.K.2 8 _ rfl).2
      cases hka.symm.trans k1
      cases hkka.symm.trans k2
      obtain ⟨c0, t1, f1, f2, f3⟩ := Cond.castable_spec (va_Nw.use (A := args) rfl (X.N (cO_X r (List.mem_of_getElem? hr))))
      cases hcls.1.symm.trans f1
      cases k3.symm.trans f2
      obtain ⟨kC, hkC, -⟩ := hcls.2
      obtain ⟨kE, hkE, -⟩ := Vm.findClass_spec k3
      obtain ⟨kC', hkC', -⟩ := hal.2.2 _ _ hkC
      obtain ⟨kE', hkE', -⟩ := hal.2.2 _ _ hkE
      refine ⟨rfl, cellV, (show T.heap[ad E y]? = some cellV by rw [hT]; exact g1), (fun q h => by rw [g3] at h; cases h), ⟨kC', by rw [g2]; exact hkC'⟩, ⟨kE', hkE'⟩, ?_⟩
      show vm1.assignable _ _ = true
      rw [hal.assignable, g2]
      exact f3
  · rw [e1]
    have oq : ∀ q : Nat, q ≠ ad E a → (H.setIfInBounds (ad E a) (arrV (E.2.2.1 28) (hN h a) (fun j => va_rf (va_cpy (fun j => avr E (hR h 28 b j)) (fun j => avr E (hR h 28 a j)) sp.toNatClampNeg dp.toNatClampNeg n.toNatClampNeg j))))[q]? = H[q]? := fun q hq => by simp [Array.getElem?_setIfInBounds, Ne.symm hq]
    refine kk _ _ ls (rl.put (h' := cpyR h 28 b a sp dp n) a1 ?_ (by simp) oq (fun x hb => pce_eq rfl rfl (fun j => rfl) (fun j => by unfold hR cpyR sRa; first | rfl | simp [hb]) (fun j => rfl) (fun j => rfl)) rfl rfl rfl rfl) (hS.cp (by simp) oq (rl.pAt a1) hlc) hl
    rw [pce_arr (h := cpyR h 28 b a sp dp n) (c := 28) (show hK (cpyR h 28 b a sp dp n) a = 28 from ka) (by decide)]
    show (H.setIfInBounds (ad E a) _)[ad E a]? = some (arrV (E.2.2.1 28) (hN h a) (fun j => va_rf (avr E (hR (cpyR h 28 b a sp dp n) 28 a j))))
    rw [Array.getElem?_setIfInBounds_self_of_lt hl1]
    congr 2
    funext q
    have e9 : hR (cpyR h 28 b a sp dp n) 28 a q = va_cpy (hR h 28 b) (hR h 28 a) sp.toNatClampNeg dp.toNatClampNeg n.toNatClampNeg q := by simp [hR, cpyR, sRa]
    rw [e9]
    unfold va_cpy
    split <;> rfl
theorem p_ldcM (X : Cx E p l e R s m args below meth c own cc nL ret) {idx : Nat} (hl0 : Cond.classLink own idx "[Ljava/lang/Object;" ∈ Tall) (hd : decode cc pc = .ok (.ldc idx, 2)) (k : PW E p l e R s m args below meth c nL uc us Q h (pc + 2) L (.ref 7 :: st)) : PW E p l e R s m args below meth c nL uc us Q h pc L st := fun H locs ls rl hS hl =>
  va_ldcM X.1 X.2.1 X.2.2.2.1 (X.tb hl0) (va_Mi.moved X.2.2.2.2.2.1.alike X.2.2.2.2.2.2.1.2.2.2.2.2.2.2.2.2.2.2.2.2.2) hd (k H locs ls rl hS hl)
theorem p_getC (X : Cx E p l e R s m args below meth c own cc nL ret) {idx a : Nat} (hl0 : Cond.methodLink own idx ⟨"java/lang/Object", "getClass", "()Ljava/lang/Class;"⟩ ∈ Tall) (h2 : Cond.selects "[Ljava/lang/Object;" ⟨"java/lang/Object", "getClass", "()Ljava/lang/Class;"⟩ ⟨"java/lang/Object", "getClass", "()Ljava/lang/Class;"⟩ ∈ Tall) (h3 : Cond.instanceMethod ⟨"java/lang/Object", "getClass", "()Ljava/lang/Class;"⟩ ∈ Tall) (h4 : Cond.native ⟨"java/lang/Object", "getClass", "()Ljava/lang/Class;"⟩ ∈ Tall) (h5 : Cond.declares ⟨"java/lang/Object", "getClass", "()Ljava/lang/Class;"⟩ ∈ lw_tbl) (hk : hK h a = 28 ∧ hN h a ≠ 0) (hd : decode cc pc = .ok (.invokevirtual idx, 3)) (hfr : 1 ≤ R.frames) (hroom : (st.map fun v => v.category).sum ≤ 8) (hlo : 48 ≤ R.locals)
    (k : PW E p l e R s m args below meth c nL uc us Q h (pc + 3) L (.ref 7 :: st)) : PW E p l e R s m args below meth c nL uc us Q h pc L (.ref a :: st) := fun H locs ls rl hS hl => by
  have n3 : a ≠ 3 := rl.ne3n (i := 0) (fun q => by
    rcases q with q | q
    · exact absurd q (by decide)
    · exact hk.2 (Nat.le_zero.mp q))
  obtain ⟨ja, a1, a2⟩ := pws_arr (E := E) rl hk.1 (by decide) n3
  have ca : H[ad E a]? = some (arrV (E.2.2.1 28) (hN h a) (fun j => va_rf (avr E (hR h 28 a j)))) := rl.2.2.2.1 ja _ a2
  have hcl : s.vm.findClass "[Ljava/lang/Object;" = some (E.2.2.1 28) := va_nmO (X.K.2 8 _ rfl).2 (by decide +kernel)
  exact va_getC X.1 X.2.1 (X.2.2.1.trans hl.1.symm) X.2.2.2.1 (X.tb hl0) (va_Nw.use rfl (X.Dc h5)) (X.tb h2) (X.tb h3) (X.tb h4) (va_Mi.moved X.2.2.2.2.2.1.alike X.2.2.2.2.2.2.1.2.2.2.2.2.2.2.2.2.2.2.2.2.2) ⟨_, ca, rfl, hcl⟩ hfr (by rw [catsum_av]; omega) hd (k H locs ls rl hS hl)
end PY
