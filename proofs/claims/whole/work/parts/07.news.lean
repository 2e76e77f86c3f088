/-! ARRAYS OF REFERENCES, NEW CELLS, STATICS, CASTS, COPIES over the pure heap -/
def pnd (t : FieldType) : Bool := match t with
  | .double => false
  | .float => false
  | _ => true
theorem pfv_new {E : PE} {h : PH} {c n c' k : Nat} (hp : pnd (pft c' k) = true) : pfv E (hnew h c n) c' (hX h) k = defaultValue (pft c' k) := by
  unfold pfv hI hR hL hnew
  cases hT : pft c' k <;> first | (rw [hT] at hp; cases hp; done) | (simp [defaultValue, avr, va_rf])
theorem hnew_I {h : PH} {c n c' a k : Nat} (ha : a ≠ hX h) : hI (hnew h c n) c' a k = hI h c' a k := by unfold hI hnew; simp [ha, hI]
theorem hnew_R {h : PH} {c n c' a k : Nat} (ha : a ≠ hX h) : hR (hnew h c n) c' a k = hR h c' a k := by unfold hR hnew; simp [ha, hR]
theorem hnew_L {h : PH} {c n c' a k : Nat} (ha : a ≠ hX h) : hL (hnew h c n) c' a k = hL h c' a k := by unfold hL hnew; simp [ha, hL]
theorem hnew_D {h : PH} {c n a k : Nat} (ha : a ≠ hX h) : hD (hnew h c n) a k = hD h a k := by unfold hD hnew; simp [ha, hD]
theorem hnew_K {h : PH} {c n a : Nat} (ha : a ≠ hX h) : hK (hnew h c n) a = hK h a := by unfold hK hnew; simp [ha, hK]
theorem hnew_N {h : PH} {c n a : Nat} (ha : a ≠ hX h) : hN (hnew h c n) a = hN h a := by unfold hN hnew; simp [ha, hN]
theorem hnew_Kx {h : PH} {c n : Nat} : hK (hnew h c n) (hX h) = c := by unfold hK hnew; simp
theorem hnew_Nx {h : PH} {c n : Nat} : hN (hnew h c n) (hX h) = n := by unfold hN hnew; simp
theorem Rl.adX {E : PE} {h : PH} {H : Heap} (r : Rl E h H) : ad E (hX h) = H.size := by
  have h1 := r.2.1
  have h2 := r.2.2.1
  unfold ad
  rw [if_neg (by omega)]
  omega
theorem Rl.new {E : PE} {h : PH} {H H1 : Heap} (r : Rl E h H) {c n : Nat} (hc : c < 15 ∨ (20 ≤ c ∧ c ≤ 28)) (hat : va_at E.2.1 pcl (H.size, pce E (hnew h c n) (hX h)) H1) (z : H1.size = H.size + 1) (o : ∀ q : Nat, q < H.size → H1[q]? = H[q]?) : Rl E (hnew h c n) H1 := by
  have hadx := r.adX
  obtain ⟨a1, a2, a3, a4, a5, a6, a7, a8, a9⟩ := r
  have hw : pws E (hnew h c n) = pws E h ++ [(H.size, pce E (hnew h c n) (hX h))] := by
    unfold pws
    show (hC h ++ [hX h]).map _ = _
    rw [List.map_append, List.map_cons, List.map_nil, hadx]
    congr 1
    refine List.map_congr_left fun b hb => ?_
    have hne : b ≠ hX h := by have := (a7 b hb).2.1; omega
    rw [pce_eq (h := h) (h' := hnew h c n) (hnew_K hne) (hnew_N hne) (fun k => hnew_I hne) (fun k => hnew_R hne) (fun k => hnew_L hne) (fun k => hnew_D hne)]
  have hpa : pA E H.size := by show E.2.2.2.heap.size ≤ H.size; omega
  refine ⟨fun q hq => (o q (by omega)).trans (a1 q hq), ?_, ?_, ?_, ?_, ?_, ?_, ?_, ?_⟩
  · rw [z]; show H.size + 1 + 10 = _ + (hX h + 1); omega
  · show 10 ≤ hX h + 1; omega
  · rw [hw]
    refine va_P.app (a4.kept fun k q hk => o q.1 (a4 k q hk).lt) fun k q hk => ?_
    have hz : k < 1 := (List.getElem?_eq_some_iff.mp hk).1
    rw [show k = 0 by omega] at hk
    cases hk
    exact hat
  · rw [hw]; exact a5.push a4 rfl hpa
  · intro a ha
    by_cases e : a = hX h
    · exact Or.inr (by show a ∈ hC h ++ [hX h]; rw [e]; simp)
    · rw [hnew_K e] at ha
      rcases a6 a ha with h1 | h1
      · exact Or.inl h1
      · exact Or.inr (List.mem_append_left _ h1)
  · intro a ha
    rcases List.mem_append.mp (show a ∈ hC h ++ [hX h] from ha) with h1 | h1
    · have hne : a ≠ hX h := by have := (a7 a h1).2.1; omega
      rw [hnew_K hne]
      exact ⟨(a7 a h1).1, by show a < hX h + 1; have := (a7 a h1).2.1; omega, (a7 a h1).2.2⟩
    · have e : a = hX h := by simpa using h1
      rw [e, hnew_Kx]
      exact ⟨a3, by show hX h < hX h + 1; omega, by rcases hc with h1 | h1 <;> omega⟩
  · rw [hnew_K (by omega)]; exact a8
  · rw [hnew_N (by omega)]; exact a9
theorem va_S.new {E : PE} {H0 H H1 : Heap} {locs : List Loc} (hS : va_S (pA E) H0 H locs) (z : H1.size = H.size + 1) (o : ∀ q : Nat, q < H.size → H1[q]? = H[q]?) : va_S (pA E) H0 H1 locs :=
  ⟨by have := hS.1; omega, fun q h1 h2 => (o q (Nat.lt_of_lt_of_le h1 hS.1)).trans (hS.2.1 q h1 h2), hS.2.2⟩
/-- a reference that may be put into an array of Objects -/
def okr (h : PH) (r : Option Nat) : Bool := match r with
  | none => true
  | some b => decide (hK h b < 15)
theorem cO_X : ∀ q ∈ pcl, Cond.castable q.1 "java/lang/Object" ∈ lw_tbl := by decide +kernel
section PN
variable {E : PE} {p : Program} {l : Launch} {e : Env} {R : Room} {s : State} {m : MethodId} {args : Array Value} {below : List Frame} {meth : Method} {c : Code} {own : String} {cc : ByteArray} {nL : Nat} {ret : Option FieldType} {uc us : Nat} {Q : State → Prop} {h : PH} {pc : Nat} {L : PL} {st : List Value}
theorem p_aast25 (X : Cx E p l e R s m args below meth c own cc nL ret) {i : Int32} {v : Option Nat} {a : Nat} (hd : decode cc pc = .ok (.aastore, 1)) (hk : hK h a = 25) (hin : vp_in i (hN h a)) (hv : ∀ b, v = some b → hK h b = 4) (kk : PW E p l e R s m args below meth c nL uc us Q (sR h 25 a i.toNatClampNeg v) (pc + 1) L st) : PW E p l e R s m args below meth c nL uc us Q h pc L (va_rf v :: .int i :: .ref a :: st) := fun H locs ls rl hS hl => by
  obtain ⟨j, h1, h2⟩ := pws_arr (E := E) rl hk (by decide) (rl.ne3n hin)
  have done : ∀ H1 : Heap, H1[ad E a]? = some ((vp_cell (E.2.2.1 25) (par E h 25 a)).setSlot i.toNatClampNeg (va_rf (avr E v))) → H1.size = H.size → (∀ q : Nat, q ≠ ad E a → H1[q]? = H[q]?) → W p l e R s m args below meth c H1 (locs ++ [⟨ad E a, i.toNatClampNeg⟩]) uc us Q (F0 m (pc + 1) ls (st.map (av E))) := by
    intro H1 e1 z oq
    refine kk H1 _ ls (rl.put (h' := sR h 25 a i.toNatClampNeg v) h1 ?_ z oq (fun b hb => pce_eq rfl rfl (fun j => by unfold hI sR; first | rfl | simp [hb]) (fun j => by unfold hR sR; first | rfl | simp [hb]) (fun j => by unfold hL sR; first | rfl | simp [hb]) (fun j => by unfold hD sR; first | rfl | simp [hb])) rfl rfl rfl rfl) (hS.put z oq (rl.pAt h1)) hl
    rw [pce_arr (h := sR h 25 a i.toNatClampNeg v) (c := 25) (show hK (sR h 25 a i.toNatClampNeg v) a = 25 from hk) (by decide)]
    show H1[ad E a]? = some (vp_cell _ _)
    rw [e1]
    show some ((arrV (E.2.2.1 25) (hN h a) (fun j => va_rf (avr E (hR h 25 a j)))).setSlot _ (va_rf (avr E v))) = some (arrV (E.2.2.1 25) (hN h a) (fun j => va_rf (avr E (hR (sR h 25 a i.toNatClampNeg v) 25 a j))))
    rw [arrV_store]
    congr 2
    funext q
    by_cases hq : q = i.toNatClampNeg
    · subst hq
      simp [updV, hR, sR]
    · unfold sR
      simp [updV, hR, hq]
  cases v with
  | none =>
    exact va_WaastN X.1 X.2.1 (rl.2.2.2.1 j _ h2) ((X.K.2 5 _ rfl).1 (hN h a) (fun j => va_rf (avr E (hR h 25 a j)))) (fun q => by cases q) (by show ¬ (i < 0 ∨ (arrV _ _ _).slots.size ≤ _); rw [arrV_size]; exact hin) rfl rfl hd fun H1 e1 z oq => done H1 e1 z oq
  | some b =>
    obtain ⟨jb, -, hb2⟩ := pws_obj (E := E) rl (hv b rfl) (by decide)
    obtain ⟨r, hr, cellV, g1, g2, g3, -⟩ := rl.2.2.2.1 jb _ hb2
    cases hr
    have hcls := (X.K.1 4 _ rfl).2
    obtain ⟨kA, comp, k1, k2, k3, -⟩ := (X.K.2 5 _ rfl).2
    have hcomp : comp = E.2.1.1 4 := Option.some.inj (k3.symm.trans hcls.1)
    subst hcomp
    obtain ⟨kC, hkC, -⟩ := hcls.2
    exact W.aast X.1 X.2.1 (rl.2.2.2.1 j _ h2) (fun q h => by cases h) (fun h => by cases h) k1 k2 rfl hkC ⟨fun q => hin (Or.inl q), by show _ < (arrV _ _ _).slots.size; rw [arrV_size]; exact Nat.not_le.mp fun q => hin (Or.inr q)⟩ g1 (fun q h => by rw [g3] at h; cases h) (by rw [g2]; exact hkC) (by rw [g2]; exact va_assign hcls) rfl rfl hd fun H1 e1 z oq => done H1 e1 z oq
theorem p_aast26 (X : Cx E p l e R s m args below meth c own cc nL ret) {i : Int32} {v : Option Nat} {a : Nat} (hd : decode cc pc = .ok (.aastore, 1)) (hk : hK h a = 26) (hin : vp_in i (hN h a)) (hv : ∀ b, v = some b → hK h b = 8) (kk : PW E p l e R s m args below meth c nL uc us Q (sR h 26 a i.toNatClampNeg v) (pc + 1) L st) : PW E p l e R s m args below meth c nL uc us Q h pc L (va_rf v :: .int i :: .ref a :: st) := fun H locs ls rl hS hl => by
  obtain ⟨j, h1, h2⟩ := pws_arr (E := E) rl hk (by decide) (rl.ne3n hin)
  have done : ∀ H1 : Heap, H1[ad E a]? = some ((vp_cell (E.2.2.1 26) (par E h 26 a)).setSlot i.toNatClampNeg (va_rf (avr E v))) → H1.size = H.size → (∀ q : Nat, q ≠ ad E a → H1[q]? = H[q]?) → W p l e R s m args below meth c H1 (locs ++ [⟨ad E a, i.toNatClampNeg⟩]) uc us Q (F0 m (pc + 1) ls (st.map (av E))) := by
    intro H1 e1 z oq
    refine kk H1 _ ls (rl.put (h' := sR h 26 a i.toNatClampNeg v) h1 ?_ z oq (fun b hb => pce_eq rfl rfl (fun j => by unfold hI sR; first | rfl | simp [hb]) (fun j => by unfold hR sR; first | rfl | simp [hb]) (fun j => by unfold hL sR; first | rfl | simp [hb]) (fun j => by unfold hD sR; first | rfl | simp [hb])) rfl rfl rfl rfl) (hS.put z oq (rl.pAt h1)) hl
    rw [pce_arr (h := sR h 26 a i.toNatClampNeg v) (c := 26) (show hK (sR h 26 a i.toNatClampNeg v) a = 26 from hk) (by decide)]
    show H1[ad E a]? = some (vp_cell _ _)
    rw [e1]
    show some ((arrV (E.2.2.1 26) (hN h a) (fun j => va_rf (avr E (hR h 26 a j)))).setSlot _ (va_rf (avr E v))) = some (arrV (E.2.2.1 26) (hN h a) (fun j => va_rf (avr E (hR (sR h 26 a i.toNatClampNeg v) 26 a j))))
    rw [arrV_store]
    congr 2
    funext q
    by_cases hq : q = i.toNatClampNeg
    · subst hq
      simp [updV, hR, sR]
    · unfold sR
      simp [updV, hR, hq]
  cases v with
  | none =>
    exact va_WaastN X.1 X.2.1 (rl.2.2.2.1 j _ h2) ((X.K.2 6 _ rfl).1 (hN h a) (fun j => va_rf (avr E (hR h 26 a j)))) (fun q => by cases q) (by show ¬ (i < 0 ∨ (arrV _ _ _).slots.size ≤ _); rw [arrV_size]; exact hin) rfl rfl hd fun H1 e1 z oq => done H1 e1 z oq
  | some b =>
    obtain ⟨jb, -, hb2⟩ := pws_obj (E := E) rl (hv b rfl) (by decide)
    obtain ⟨r, hr, cellV, g1, g2, g3, -⟩ := rl.2.2.2.1 jb _ hb2
    cases hr
    have hcls := (X.K.1 8 _ rfl).2
    obtain ⟨kA, comp, k1, k2, k3, -⟩ := (X.K.2 6 _ rfl).2
    have hcomp : comp = E.2.1.1 8 := Option.some.inj (k3.symm.trans hcls.1)
    subst hcomp
    obtain ⟨kC, hkC, -⟩ := hcls.2
    exact W.aast X.1 X.2.1 (rl.2.2.2.1 j _ h2) (fun q h => by cases h) (fun h => by cases h) k1 k2 rfl hkC ⟨fun q => hin (Or.inl q), by show _ < (arrV _ _ _).slots.size; rw [arrV_size]; exact Nat.not_le.mp fun q => hin (Or.inr q)⟩ g1 (fun q h => by rw [g3] at h; cases h) (by rw [g2]; exact hkC) (by rw [g2]; exact va_assign hcls) rfl rfl hd fun H1 e1 z oq => done H1 e1 z oq
theorem p_aast27 (X : Cx E p l e R s m args below meth c own cc nL ret) {i : Int32} {v : Option Nat} {a : Nat} (hd : decode cc pc = .ok (.aastore, 1)) (hk : hK h a = 27) (hin : vp_in i (hN h a)) (hv : ∀ b, v = some b → hK h b = 9) (kk : PW E p l e R s m args below meth c nL uc us Q (sR h 27 a i.toNatClampNeg v) (pc + 1) L st) : PW E p l e R s m args below meth c nL uc us Q h pc L (va_rf v :: .int i :: .ref a :: st) := fun H locs ls rl hS hl => by
  obtain ⟨j, h1, h2⟩ := pws_arr (E := E) rl hk (by decide) (rl.ne3n hin)
  have done : ∀ H1 : Heap, H1[ad E a]? = some ((vp_cell (E.2.2.1 27) (par E h 27 a)).setSlot i.toNatClampNeg (va_rf (avr E v))) → H1.size = H.size → (∀ q : Nat, q ≠ ad E a → H1[q]? = H[q]?) → W p l e R s m args below meth c H1 (locs ++ [⟨ad E a, i.toNatClampNeg⟩]) uc us Q (F0 m (pc + 1) ls (st.map (av E))) := by
    intro H1 e1 z oq
    refine kk H1 _ ls (rl.put (h' := sR h 27 a i.toNatClampNeg v) h1 ?_ z oq (fun b hb => pce_eq rfl rfl (fun j => by unfold hI sR; first | rfl | simp [hb]) (fun j => by unfold hR sR; first | rfl | simp [hb]) (fun j => by unfold hL sR; first | rfl | simp [hb]) (fun j => by unfold hD sR; first | rfl | simp [hb])) rfl rfl rfl rfl) (hS.put z oq (rl.pAt h1)) hl
    rw [pce_arr (h := sR h 27 a i.toNatClampNeg v) (c := 27) (show hK (sR h 27 a i.toNatClampNeg v) a = 27 from hk) (by decide)]
    show H1[ad E a]? = some (vp_cell _ _)
    rw [e1]
    show some ((arrV (E.2.2.1 27) (hN h a) (fun j => va_rf (avr E (hR h 27 a j)))).setSlot _ (va_rf (avr E v))) = some (arrV (E.2.2.1 27) (hN h a) (fun j => va_rf (avr E (hR (sR h 27 a i.toNatClampNeg v) 27 a j))))
    rw [arrV_store]
    congr 2
    funext q
    by_cases hq : q = i.toNatClampNeg
    · subst hq
      simp [updV, hR, sR]
    · unfold sR
      simp [updV, hR, hq]
  cases v with
  | none =>
    exact va_WaastN X.1 X.2.1 (rl.2.2.2.1 j _ h2) ((X.K.2 7 _ rfl).1 (hN h a) (fun j => va_rf (avr E (hR h 27 a j)))) (fun q => by cases q) (by show ¬ (i < 0 ∨ (arrV _ _ _).slots.size ≤ _); rw [arrV_size]; exact hin) rfl rfl hd fun H1 e1 z oq => done H1 e1 z oq
  | some b =>
    obtain ⟨jb, -, hb2⟩ := pws_obj (E := E) rl (hv b rfl) (by decide)
    obtain ⟨r, hr, cellV, g1, g2, g3, -⟩ := rl.2.2.2.1 jb _ hb2
    cases hr
    have hcls := (X.K.1 9 _ rfl).2
    obtain ⟨kA, comp, k1, k2, k3, -⟩ := (X.K.2 7 _ rfl).2
    have hcomp : comp = E.2.1.1 9 := Option.some.inj (k3.symm.trans hcls.1)
    subst hcomp
    obtain ⟨kC, hkC, -⟩ := hcls.2
    exact W.aast X.1 X.2.1 (rl.2.2.2.1 j _ h2) (fun q h => by cases h) (fun h => by cases h) k1 k2 rfl hkC ⟨fun q => hin (Or.inl q), by show _ < (arrV _ _ _).slots.size; rw [arrV_size]; exact Nat.not_le.mp fun q => hin (Or.inr q)⟩ g1 (fun q h => by rw [g3] at h; cases h) (by rw [g2]; exact hkC) (by rw [g2]; exact va_assign hcls) rfl rfl hd fun H1 e1 z oq => done H1 e1 z oq
theorem p_aast28 (X : Cx E p l e R s m args below meth c own cc nL ret) {i : Int32} {v : Option Nat} {a : Nat} (hd : decode cc pc = .ok (.aastore, 1)) (hk : hK h a = 28) (hin : vp_in i (hN h a)) (hv : okr h v = true) (kk : PW E p l e R s m args below meth c nL uc us Q (sR h 28 a i.toNatClampNeg v) (pc + 1) L st) : PW E p l e R s m args below meth c nL uc us Q h pc L (va_rf v :: .int i :: .ref a :: st) := fun H locs ls rl hS hl => by
  obtain ⟨j, h1, h2⟩ := pws_arr (E := E) rl hk (by decide) (rl.ne3n hin)
  have done : ∀ H1 : Heap, H1[ad E a]? = some ((vp_cell (E.2.2.1 28) (par E h 28 a)).setSlot i.toNatClampNeg (va_rf (avr E v))) → H1.size = H.size → (∀ q : Nat, q ≠ ad E a → H1[q]? = H[q]?) → W p l e R s m args below meth c H1 (locs ++ [⟨ad E a, i.toNatClampNeg⟩]) uc us Q (F0 m (pc + 1) ls (st.map (av E))) := by
    intro H1 e1 z oq
    refine kk H1 _ ls (rl.put (h' := sR h 28 a i.toNatClampNeg v) h1 ?_ z oq (fun b hb => pce_eq rfl rfl (fun j => by unfold hI sR; first | rfl | simp [hb]) (fun j => by unfold hR sR; first | rfl | simp [hb]) (fun j => by unfold hL sR; first | rfl | simp [hb]) (fun j => by unfold hD sR; first | rfl | simp [hb])) rfl rfl rfl rfl) (hS.put z oq (rl.pAt h1)) hl
    rw [pce_arr (h := sR h 28 a i.toNatClampNeg v) (c := 28) (show hK (sR h 28 a i.toNatClampNeg v) a = 28 from hk) (by decide)]
    show H1[ad E a]? = some (vp_cell _ _)
    rw [e1]
    show some ((arrV (E.2.2.1 28) (hN h a) (fun j => va_rf (avr E (hR h 28 a j)))).setSlot _ (va_rf (avr E v))) = some (arrV (E.2.2.1 28) (hN h a) (fun j => va_rf (avr E (hR (sR h 28 a i.toNatClampNeg v) 28 a j))))
    rw [arrV_store]
    congr 2
    funext q
    by_cases hq : q = i.toNatClampNeg
    · subst hq
      simp [updV, hR, sR]
    · unfold sR
      simp [updV, hR, hq]
  cases v with
  | none =>
    exact va_WaastN X.1 X.2.1 (rl.2.2.2.1 j _ h2) ((X.K.2 8 _ rfl).1 (hN h a) (fun j => va_rf (avr E (hR h 28 a j)))) (fun q => by cases q) (by show ¬ (i < 0 ∨ (arrV _ _ _).slots.size ≤ _); rw [arrV_size]; exact hin) rfl rfl hd fun H1 e1 z oq => done H1 e1 z oq
  | some b =>
    have hb : hK h b < 15 := by simpa [okr] using hv
    obtain ⟨jb, -, hb2⟩ := pws_obj (E := E) rl rfl (show hK h b < 19 by omega)
    obtain ⟨r, hr, cellV, g1, g2, g3, -⟩ := rl.2.2.2.1 jb _ hb2
    have hcls := (X.K.1 _ r hr).2
    obtain ⟨kA, comp, k1, k2, k3, -⟩ := (X.K.2 8 _ rfl).2
    obtain ⟨kE, hkE, -⟩ := Vm.findClass_spec k3
    obtain ⟨c0, t1, f1, f2, f3⟩ := Cond.castable_spec (va_Nw.use (A := args) rfl (X.N (cO_X r (List.mem_of_getElem? hr))))
    cases hcls.1.symm.trans f1
    cases k3.symm.trans f2
    obtain ⟨kC, hkC, -⟩ := hcls.2
    exact W.aast X.1 X.2.1 (rl.2.2.2.1 j _ h2) (fun q h => by cases h) (fun h => by cases h) k1 k2 rfl hkE ⟨fun q => hin (Or.inl q), by show _ < (arrV _ _ _).slots.size; rw [arrV_size]; exact Nat.not_le.mp fun q => hin (Or.inr q)⟩ g1 (fun q h => by rw [g3] at h; cases h) (by rw [g2]; exact hkC) (by rw [g2]; exact f3) rfl rfl hd fun H1 e1 z oq => done H1 e1 z oq
theorem p_new (X : Cx E p l e R s m args below meth c own cc nL ret) {idx ci : Nat} {q : vw_C} (hq : pcl[ci]? = some q) (hdv : ∀ k, k < q.2.2 → pnd (pft ci k) = true) (hcl : Cond.classLink own idx q.1 ∈ Tall) (hins : Cond.instantiable q.1 q.2.2 ∈ Tall) (hini : Cond.initialized q.1 ∈ Tall) (hd : decode cc pc = .ok (.new idx, 3)) (hcells : uc + 1 ≤ R.cells) (hslots : us + q.2.2 ≤ R.slots) (kk : PW E p l e R s m args below meth c nL (uc + 1) (us + q.2.2) Q (hnew h ci q.2.2) (pc + 3) L (.ref (hX h) :: st)) : PW E p l e R s m args below meth c nL uc us Q h pc L st := fun H locs ls rl hS hl => by
  have hKn := X.K.1 ci q hq
  have hci : ci < 15 := by
    have := (List.getElem?_eq_some_iff.mp hq).1
    simpa [pcl] using this
  refine W.newcK X.1 X.2.1 X.2.2.2.1 (X.tb hcl) (X.tb hins) (X.tb hini) rfl hd hcells hslots hKn.2.1 rfl fun H1 kC hkC e1 z1 o1 => ?_
  have hat : va_at E.2.1 pcl (H.size, pce E (hnew h ci q.2.2) (hX h)) H1 := by
    rw [pce_obj hnew_Kx (by omega)]
    refine ⟨q, hq, (u_born (pft ci) (fun w hw => X.tb hw) (pcl_in ci q hq) hKn hkC e1 (pcl_ok ci q hq).1).to (fun k hk => ?_)⟩
    show _ = (pfs E (hnew h ci q.2.2) ci (hX h)).getD k .null
    rw [List.getD_eq_getElem?_getD, pfs_get E _ (by rw [pfn_of hq]; exact hk), pfv_new (hdv k hk)]
    rfl
  have k1 := kk H1 locs ls (rl.new (Or.inl hci) hat z1 o1) (va_S.new hS z1 o1) hl
  rw [List.map_cons, show av E (.ref (hX h)) = .ref (ad E (hX h)) from rfl, rl.adX] at k1
  exact k1
theorem p_newa20 (X : Cx E p l e R s m args below meth c own cc nL ret) {n : Int32} (hac : Cond.arrayClass .int ∈ Tall) (hd : decode cc pc = .ok (.newarray .int, 2)) (hn : ¬ n < 0) (hm : n.toNatClampNeg ≤ 1000000) (hcells : uc + 1 ≤ R.cells) (hslots : us + n.toNatClampNeg ≤ R.slots) (kk : PW E p l e R s m args below meth c nL (uc + 1) (us + n.toNatClampNeg) Q (hnew h 20 n.toNatClampNeg) (pc + 2) L (.ref (hX h) :: st)) : PW E p l e R s m args below meth c nL uc us Q h pc L (.int n :: st) := fun H locs ls rl hS hl => by
  refine va_newaK (atype := .int) X.1 X.2.1 (X.tb hac) rfl hd rfl hn rfl (by show _ * 4 ≤ _; omega) hcells hslots rfl fun H1 cA e1 z1 o1 _ hf => ?_
  have hcy : cA = E.2.2.1 20 := Option.some.inj (hf.symm.trans (X.K.2 0 _ rfl).2)
  subst hcy
  have hat : va_at E.2.1 pcl (H.size, pce E (hnew h 20 n.toNatClampNeg) (hX h)) H1 := by
    rw [pce_arr hnew_Kx (by decide)]
    show H1[H.size]? = some (vp_cell _ _)
    rw [e1]
    show some (arrV (E.2.2.1 20) n.toNatClampNeg (fun _ => .int 0)) = some (arrV (E.2.2.1 20) (hN (hnew h 20 n.toNatClampNeg) (hX h)) (fun j => .int (hI (hnew h 20 n.toNatClampNeg) 20 (hX h) j)))
    rw [hnew_Nx]
    congr 2
    funext j
    simp [hI, hnew]
  have k1 := kk H1 locs ls (rl.new (Or.inr (by omega)) hat z1 o1) (va_S.new hS z1 o1) hl
  rw [List.map_cons, show av E (.ref (hX h)) = .ref (ad E (hX h)) from rfl, rl.adX] at k1
  exact k1
theorem p_newa21 (X : Cx E p l e R s m args below meth c own cc nL ret) {n : Int32} (hac : Cond.arrayClass .boolean ∈ Tall) (hd : decode cc pc = .ok (.newarray .boolean, 2)) (hn : ¬ n < 0) (hm : n.toNatClampNeg ≤ 1000000) (hcells : uc + 1 ≤ R.cells) (hslots : us + n.toNatClampNeg ≤ R.slots) (kk : PW E p l e R s m args below meth c nL (uc + 1) (us + n.toNatClampNeg) Q (hnew h 21 n.toNatClampNeg) (pc + 2) L (.ref (hX h) :: st)) : PW E p l e R s m args below meth c nL uc us Q h pc L (.int n :: st) := fun H locs ls rl hS hl => by
  refine va_newaK (atype := .boolean) X.1 X.2.1 (X.tb hac) rfl hd rfl hn rfl (by show _ * 1 ≤ _; omega) hcells hslots rfl fun H1 cA e1 z1 o1 _ hf => ?_
  have hcy : cA = E.2.2.1 21 := Option.some.inj (hf.symm.trans (X.K.2 1 _ rfl).2)
  subst hcy
  have hat : va_at E.2.1 pcl (H.size, pce E (hnew h 21 n.toNatClampNeg) (hX h)) H1 := by
    rw [pce_arr hnew_Kx (by decide)]
    show H1[H.size]? = some (vp_cell _ _)
    rw [e1]
    show some (arrV (E.2.2.1 21) n.toNatClampNeg (fun _ => .int 0)) = some (arrV (E.2.2.1 21) (hN (hnew h 21 n.toNatClampNeg) (hX h)) (fun j => .int (hI (hnew h 21 n.toNatClampNeg) 21 (hX h) j)))
    rw [hnew_Nx]
    congr 2
    funext j
    simp [hI, hnew]
  have k1 := kk H1 locs ls (rl.new (Or.inr (by omega)) hat z1 o1) (va_S.new hS z1 o1) hl
  rw [List.map_cons, show av E (.ref (hX h)) = .ref (ad E (hX h)) from rfl, rl.adX] at k1
  exact k1
theorem p_newa22 (X : Cx E p l e R s m args below meth c own cc nL ret) {n : Int32} (hac : Cond.arrayClass .byte ∈ Tall) (hd : decode cc pc = .ok (.newarray .byte, 2)) (hn : ¬ n < 0) (hm : n.toNatClampNeg ≤ 1000000) (hcells : uc + 1 ≤ R.cells) (hslots : us + n.toNatClampNeg ≤ R.slots) (kk : PW E p l e R s m args below meth c nL (uc + 1) (us + n.toNatClampNeg) Q (hnew h 22 n.toNatClampNeg) (pc + 2) L (.ref (hX h) :: st)) : PW E p l e R s m args below meth c nL uc us Q h pc L (.int n :: st) := fun H locs ls rl hS hl => by
  refine va_newaK (atype := .byte) X.1 X.2.1 (X.tb hac) rfl hd rfl hn rfl (by show _ * 1 ≤ _; omega) hcells hslots rfl fun H1 cA e1 z1 o1 _ hf => ?_
  have hcy : cA = E.2.2.1 22 := Option.some.inj (hf.symm.trans (X.K.2 2 _ rfl).2)
  subst hcy
  have hat : va_at E.2.1 pcl (H.size, pce E (hnew h 22 n.toNatClampNeg) (hX h)) H1 := by
    rw [pce_arr hnew_Kx (by decide)]
    show H1[H.size]? = some (vp_cell _ _)
    rw [e1]
    show some (arrV (E.2.2.1 22) n.toNatClampNeg (fun _ => .int 0)) = some (arrV (E.2.2.1 22) (hN (hnew h 22 n.toNatClampNeg) (hX h)) (fun j => .int (hI (hnew h 22 n.toNatClampNeg) 22 (hX h) j)))
    rw [hnew_Nx]
    congr 2
    funext j
    simp [hI, hnew]
  have k1 := kk H1 locs ls (rl.new (Or.inr (by omega)) hat z1 o1) (va_S.new hS z1 o1) hl
  rw [List.map_cons, show av E (.ref (hX h)) = .ref (ad E (hX h)) from rfl, rl.adX] at k1
  exact k1
theorem p_newa23 (X : Cx E p l e R s m args below meth c own cc nL ret) {n : Int32} (hac : Cond.arrayClass .long ∈ Tall) (hd : decode cc pc = .ok (.newarray .long, 2)) (hn : ¬ n < 0) (hm : n.toNatClampNeg ≤ 1000000) (hcells : uc + 1 ≤ R.cells) (hslots : us + n.toNatClampNeg ≤ R.slots) (kk : PW E p l e R s m args below meth c nL (uc + 1) (us + n.toNatClampNeg) Q (hnew h 23 n.toNatClampNeg) (pc + 2) L (.ref (hX h) :: st)) : PW E p l e R s m args below meth c nL uc us Q h pc L (.int n :: st) := fun H locs ls rl hS hl => by
  refine va_newaK (atype := .long) X.1 X.2.1 (X.tb hac) rfl hd rfl hn rfl (by show _ * 8 ≤ _; omega) hcells hslots rfl fun H1 cA e1 z1 o1 _ hf => ?_
  have hcy : cA = E.2.2.1 23 := Option.some.inj (hf.symm.trans (X.K.2 3 _ rfl).2)
  subst hcy
  have hat : va_at E.2.1 pcl (H.size, pce E (hnew h 23 n.toNatClampNeg) (hX h)) H1 := by
    rw [pce_arr hnew_Kx (by decide)]
    show H1[H.size]? = some (vp_cell _ _)
    rw [e1]
    show some (arrV (E.2.2.1 23) n.toNatClampNeg (fun _ => .long 0)) = some (arrV (E.2.2.1 23) (hN (hnew h 23 n.toNatClampNeg) (hX h)) (fun j => .long (hL (hnew h 23 n.toNatClampNeg) 23 (hX h) j)))
    rw [hnew_Nx]
    congr 2
    funext j
    simp [hL, hnew]
  have k1 := kk H1 locs ls (rl.new (Or.inr (by omega)) hat z1 o1) (va_S.new hS z1 o1) hl
  rw [List.map_cons, show av E (.ref (hX h)) = .ref (ad E (hX h)) from rfl, rl.adX] at k1
  exact k1
theorem p_newa24 (X : Cx E p l e R s m args below meth c own cc nL ret) {n : Int32} (hac : Cond.arrayClass .double ∈ Tall) (hd : decode cc pc = .ok (.newarray .double, 2)) (hn : ¬ n < 0) (hm : n.toNatClampNeg ≤ 1000000) (hcells : uc + 1 ≤ R.cells) (hslots : us + n.toNatClampNeg ≤ R.slots) (kk : PW E p l e R s m args below meth c nL (uc + 1) (us + n.toNatClampNeg) Q (hnew h 24 n.toNatClampNeg) (pc + 2) L (.ref (hX h) :: st)) : PW E p l e R s m args below meth c nL uc us Q h pc L (.int n :: st) := fun H locs ls rl hS hl => by
  refine va_newaK (atype := .double) X.1 X.2.1 (X.tb hac) rfl hd rfl hn rfl (by show _ * 8 ≤ _; omega) hcells hslots rfl fun H1 cA e1 z1 o1 _ hf => ?_
  have hcy : cA = E.2.2.1 24 := Option.some.inj (hf.symm.trans (X.K.2 4 _ rfl).2)
  subst hcy
  have hat : va_at E.2.1 pcl (H.size, pce E (hnew h 24 n.toNatClampNeg) (hX h)) H1 := by
    rw [pce_arr hnew_Kx (by decide)]
    show H1[H.size]? = some (vp_cell _ _)
    rw [e1]
    show some (arrV (E.2.2.1 24) n.toNatClampNeg (fun _ => .double 0)) = some (arrV (E.2.2.1 24) (hN (hnew h 24 n.toNatClampNeg) (hX h)) (fun j => .double (hD (hnew h 24 n.toNatClampNeg) (hX h) j)))
    rw [hnew_Nx]
    congr 2
    funext j
    simp [hD, hnew]
  have k1 := kk H1 locs ls (rl.new (Or.inr (by omega)) hat z1 o1) (va_S.new hS z1 o1) hl
  rw [List.map_cons, show av E (.ref (hX h)) = .ref (ad E (hX h)) from rfl, rl.adX] at k1
  exact k1
theorem p_newq25 (X : Cx E p l e R s m args below meth c own cc nL ret) {n : Int32} {idx : Nat} (hcl : Cond.classLink own idx RX4 ∈ Tall) (hao : Cond.arrayOver (.object RX4) ∈ lw_tbl) (hd : decode cc pc = .ok (.anewarray idx, 3)) (hn : ¬ n < 0) (hm : n.toNatClampNeg ≤ 1000000) (hcells : uc + 1 ≤ R.cells) (hslots : us + n.toNatClampNeg ≤ R.slots) (kk : PW E p l e R s m args below meth c nL (uc + 1) (us + n.toNatClampNeg) Q (hnew h 25 n.toNatClampNeg) (pc + 3) L (.ref (hX h) :: st)) : PW E p l e R s m args below meth c nL uc us Q h pc L (.int n :: st) := fun H locs ls rl hS hl => by
  refine W.anew X.1 X.2.1 X.2.2.2.1 (X.tb hcl) (va_AO.use (X.AO hao)) rfl hd rfl hn (by omega) hcells hslots fun cA kA comp f1 f2 f3 f4 => ?_
  obtain ⟨_, _, _, _, _, f5⟩ := (X.K.2 5 _ rfl).2
  have hcy : cA = E.2.2.1 25 := Option.some.inj (f1.symm.trans f5)
  subst hcy
  generalize hH1 : H.push ({ cls := E.2.2.1 25, slots := Array.replicate n.toNatClampNeg .null, vm := .none } : Cell) = H1
  have z1 : H1.size = H.size + 1 := by rw [← hH1, Array.size_push]
  have e1 : H1[H.size]? = some (arrV (E.2.2.1 25) n.toNatClampNeg (fun _ => .null)) := by rw [← hH1, Array.getElem?_push_size, ← arrV_new]
  have o1 : ∀ q : Nat, q < H.size → H1[q]? = H[q]? := fun q hq => by rw [← hH1, Array.getElem?_push, if_neg (Nat.ne_of_lt hq)]
  have hat : va_at E.2.1 pcl (H.size, pce E (hnew h 25 n.toNatClampNeg) (hX h)) H1 := by
    rw [pce_arr hnew_Kx (by decide)]
    show H1[H.size]? = some (vp_cell _ _)
    rw [e1]
    show some (arrV (E.2.2.1 25) n.toNatClampNeg (fun _ => .null)) = some (arrV (E.2.2.1 25) (hN (hnew h 25 n.toNatClampNeg) (hX h)) (fun j => va_rf (avr E (hR (hnew h 25 n.toNatClampNeg) 25 (hX h) j))))
    rw [hnew_Nx]
    congr 2
    funext j
    simp [hR, hnew, avr, va_rf]
  have k1 := kk H1 locs ls (rl.new (Or.inr (by omega)) hat z1 o1) (va_S.new hS z1 o1) hl
  rw [List.map_cons, show av E (.ref (hX h)) = .ref (ad E (hX h)) from rfl, rl.adX] at k1
  exact k1
theorem p_newq26 (X : Cx E p l e R s m args below meth c own cc nL ret) {n : Int32} {idx : Nat} (hcl : Cond.classLink own idx RX8 ∈ Tall) (hao : Cond.arrayOver (.object RX8) ∈ lw_tbl) (hd : decode cc pc = .ok (.anewarray idx, 3)) (hn : ¬ n < 0) (hm : n.toNatClampNeg ≤ 1000000) (hcells : uc + 1 ≤ R.cells) (hslots : us + n.toNatClampNeg ≤ R.slots) (kk : PW E p l e R s m args below meth c nL (uc + 1) (us + n.toNatClampNeg) Q (hnew h 26 n.toNatClampNeg) (pc + 3) L (.ref (hX h) :: st)) : PW E p l e R s m args below meth c nL uc us Q h pc L (.int n :: st) := fun H locs ls rl hS hl => by
  refine W.anew X.1 X.2.1 X.2.2.2.1 (X.tb hcl) (va_AO.use (X.AO hao)) rfl hd rfl hn (by omega) hcells hslots fun cA kA comp f1 f2 f3 f4 => ?_
  obtain ⟨_, _, _, _, _, f5⟩ := (X.K.2 6 _ rfl).2
  have hcy : cA = E.2.2.1 26 := Option.some.inj (f1.symm.trans f5)
  subst hcy
  generalize hH1 : H.push ({ cls := E.2.2.1 26, slots := Array.replicate n.toNatClampNeg .null, vm := .none } : Cell) = H1
  have z1 : H1.size = H.size + 1 := by rw [← hH1, Array.size_push]
  have e1 : H1[H.size]? = some (arrV (E.2.2.1 26) n.toNatClampNeg (fun _ => .null)) := by rw [← hH1, Array.getElem?_push_size, ← arrV_new]
  have o1 : ∀ q : Nat, q < H.size → H1[q]? = H[q]? := fun q hq => by rw [← hH1, Array.getElem?_push, if_neg (Nat.ne_of_lt hq)]
  have hat : va_at E.2.1 pcl (H.size, pce E (hnew h 26 n.toNatClampNeg) (hX h)) H1 := by
    rw [pce_arr hnew_Kx (by decide)]
    show H1[H.size]? = some (vp_cell _ _)
    rw [e1]
    show some (arrV (E.2.2.1 26) n.toNatClampNeg (fun _ => .null)) = some (arrV (E.2.2.1 26) (hN (hnew h 26 n.toNatClampNeg) (hX h)) (fun j => va_rf (avr E (hR (hnew h 26 n.toNatClampNeg) 26 (hX h) j))))
    rw [hnew_Nx]
    congr 2
    funext j
    simp [hR, hnew, avr, va_rf]
  have k1 := kk H1 locs ls (rl.new (Or.inr (by omega)) hat z1 o1) (va_S.new hS z1 o1) hl
  rw [List.map_cons, show av E (.ref (hX h)) = .ref (ad E (hX h)) from rfl, rl.adX] at k1
  exact k1
theorem p_newq27 (X : Cx E p l e R s m args below meth c own cc nL ret) {n : Int32} {idx : Nat} (hcl : Cond.classLink own idx RX9 ∈ Tall) (hao : Cond.arrayOver (.object RX9) ∈ lw_tbl) (hd : decode cc pc = .ok (.anewarray idx, 3)) (hn : ¬ n < 0) (hm : n.toNatClampNeg ≤ 1000000) (hcells : uc + 1 ≤ R.cells) (hslots : us + n.toNatClampNeg ≤ R.slots) (kk : PW E p l e R s m args below meth c nL (uc + 1) (us + n.toNatClampNeg) Q (hnew h 27 n.toNatClampNeg) (pc + 3) L (.ref (hX h) :: st)) : PW E p l e R s m args below meth c nL uc us Q h pc L (.int n :: st) := fun H locs ls rl hS hl => by
  refine W.anew X.1 X.2.1 X.2.2.2.1 (X.tb hcl) (va_AO.use (X.AO hao)) rfl hd rfl hn (by omega) hcells hslots fun cA kA comp f1 f2 f3 f4 => ?_
  obtain ⟨_, _, _, _, _, f5⟩ := (X.K.2 7 _ rfl).2
  have hcy : cA = E.2.2.1 27 := Option.some.inj (f1.symm.trans f5)
  subst hcy
  generalize hH1 : H.push ({ cls := E.2.2.1 27, slots := Array.replicate n.toNatClampNeg .null, vm := .none } : Cell) = H1
  have z1 : H1.size = H.size + 1 := by rw [← hH1, Array.size_push]
  have e1 : H1[H.size]? = some (arrV (E.2.2.1 27) n.toNatClampNeg (fun _ => .null)) := by rw [← hH1, Array.getElem?_push_size, ← arrV_new]
  have o1 : ∀ q : Nat, q < H.size → H1[q]? = H[q]? := fun q hq => by rw [← hH1, Array.getElem?_push, if_neg (Nat.ne_of_lt hq)]
  have hat : va_at E.2.1 pcl (H.size, pce E (hnew h 27 n.toNatClampNeg) (hX h)) H1 := by
    rw [pce_arr hnew_Kx (by decide)]
    show H1[H.size]? = some (vp_cell _ _)
    rw [e1]
    show some (arrV (E.2.2.1 27) n.toNatClampNeg (fun _ => .null)) = some (arrV (E.2.2.1 27) (hN (hnew h 27 n.toNatClampNeg) (hX h)) (fun j => va_rf (avr E (hR (hnew h 27 n.toNatClampNeg) 27 (hX h) j))))
    rw [hnew_Nx]
    congr 2
    funext j
    simp [hR, hnew, avr, va_rf]
  have k1 := kk H1 locs ls (rl.new (Or.inr (by omega)) hat z1 o1) (va_S.new hS z1 o1) hl
  rw [List.map_cons, show av E (.ref (hX h)) = .ref (ad E (hX h)) from rfl, rl.adX] at k1
  exact k1
theorem p_newq28 (X : Cx E p l e R s m args below meth c own cc nL ret) {n : Int32} {idx : Nat} (hcl : Cond.classLink own idx "java/lang/Object" ∈ Tall) (hao : Cond.arrayOver (.object "java/lang/Object") ∈ lw_tbl) (hd : decode cc pc = .ok (.anewarray idx, 3)) (hn : ¬ n < 0) (hm : n.toNatClampNeg ≤ 1000000) (hcells : uc + 1 ≤ R.cells) (hslots : us + n.toNatClampNeg ≤ R.slots) (kk : PW E p l e R s m args below meth c nL (uc + 1) (us + n.toNatClampNeg) Q (hnew h 28 n.toNatClampNeg) (pc + 3) L (.ref (hX h) :: st)) : PW E p l e R s m args below meth c nL uc us Q h pc L (.int n :: st) := fun H locs ls rl hS hl => by
  refine W.anew X.1 X.2.1 X.2.2.2.1 (X.tb hcl) (va_AO.use (X.AO hao)) rfl hd rfl hn (by omega) hcells hslots fun cA kA comp f1 f2 f3 f4 => ?_
  obtain ⟨_, _, _, _, _, f5⟩ := (X.K.2 8 _ rfl).2
  have hcy : cA = E.2.2.1 28 := Option.some.inj (f1.symm.trans f5)
  subst hcy
  generalize hH1 : H.push ({ cls := E.2.2.1 28, slots := Array.replicate n.toNatClampNeg .null, vm := .none } : Cell) = H1
  have z1 : H1.size = H.size + 1 := by rw [← hH1, Array.size_push]
  have e1 : H1[H.size]? = some (arrV (E.2.2.1 28) n.toNatClampNeg (fun _ => .null)) := by rw [← hH1, Array.getElem?_push_size, ← arrV_new]
  have o1 : ∀ q : Nat, q < H.size → H1[q]? = H[q]? := fun q hq => by rw [← hH1, Array.getElem?_push, if_neg (Nat.ne_of_lt hq)]
  have hat : va_at E.2.1 pcl (H.size, pce E (hnew h 28 n.toNatClampNeg) (hX h)) H1 := by
    rw [pce_arr hnew_Kx (by decide)]
    show H1[H.size]? = some (vp_cell _ _)
    rw [e1]
    show some (arrV (E.2.2.1 28) n.toNatClampNeg (fun _ => .null)) = some (arrV (E.2.2.1 28) (hN (hnew h 28 n.toNatClampNeg) (hX h)) (fun j => va_rf (avr E (hR (hnew h 28 n.toNatClampNeg) 28 (hX h) j))))
    rw [hnew_Nx]
    congr 2
    funext j
    simp [hR, hnew, avr, va_rf]
  have k1 := kk H1 locs ls (rl.new (Or.inr (by omega)) hat z1 o1) (va_S.new hS z1 o1) hl
  rw [List.map_cons, show av E (.ref (hX h)) = .ref (ad E (hX h)) from rfl, rl.adX] at k1
  exact k1
theorem p_gets (X : Cx E p l e R s m args below meth c own cc nL ret) {C n d : String} {v : Value} {idx : Nat} (z : gZ E C n d (av E v)) (hlink : Cond.fieldLink own idx C n d ∈ Tall) (hd : decode cc pc = .ok (.getstatic idx, 3)) (kk : PW E p l e R s m args below meth c nL uc us Q h (pc + 3) L (v :: st)) : PW E p l e R s m args below meth c nL uc us Q h pc L st := fun H locs ls rl hS hl =>
  va_gets X.1 X.2.1 (X.Z z) hS X.2.2.2.1 (X.tb hlink) (fun _ h => h) hd (kk H locs ls rl hS hl)
theorem p_powers (X : Cx E p l e R s m args below meth c own cc nL ret) {i : Int32} (hd : decode cc pc = .ok (.iaload, 1)) (hin : vp_in i 7) (kk : PW E p l e R s m args below meth c nL uc us Q h (pc + 1) L (.int (pwv i.toNatClampNeg) :: st)) : PW E p l e R s m args below meth c nL uc us Q h pc L (.int i :: .ref 1 :: st) := fun H locs ls rl hS hl =>
  va_ti X.1 X.2.1 (X.T X.2.2.2.2.2.2.1.2.2.2.2.2.1.2) hS hin rfl hd (kk H locs ls rl hS hl)
theorem p_ones (X : Cx E p l e R s m args below meth c own cc nL ret) {i : Int32} (hd : decode cc pc = .ok (.baload, 1)) (hin : vp_in i 100) (kk : PW E p l e R s m args below meth c nL uc us Q h (pc + 1) L (.int (nI (48 + i.toNatClampNeg % 10)) :: st)) : PW E p l e R s m args below meth c nL uc us Q h pc L (.int i :: .ref 4 :: st) := fun H locs ls rl hS hl =>
  va_tb X.1 X.2.1 (X.T X.2.2.2.2.2.2.1.2.2.2.2.2.2.2.2.2.1.2) hS hin rfl hd (kk H locs ls rl hS hl)
theorem p_tens (X : Cx E p l e R s m args below meth c own cc nL ret) {i : Int32} (hd : decode cc pc = .ok (.baload, 1)) (hin : vp_in i 100) (kk : PW E p l e R s m args below meth c nL uc us Q h (pc + 1) L (.int (nI (48 + i.toNatClampNeg / 10)) :: st)) : PW E p l e R s m args below meth c nL uc us Q h pc L (.int i :: .ref 5 :: st) := fun H locs ls rl hS hl =>
  va_tb X.1 X.2.1 (X.T X.2.2.2.2.2.2.1.2.2.2.2.2.2.2.2.2.2.1.2) hS hin rfl hd (kk H locs ls rl hS hl)
theorem p_cast (X : Cx E p l e R s m args below meth c own cc nL ret) {idx ci a : Nat} {q : vw_C} (hq : pcl[ci]? = some q) (hcl : Cond.classLink own idx q.1 ∈ Tall) (hd : decode cc pc = .ok (.checkcast idx, 3)) (hk : hK h a = ci) (kk : PW E p l e R s m args below meth c nL uc us Q h (pc + 3) L (.ref a :: st)) : PW E p l e R s m args below meth c nL uc us Q h pc L (.ref a :: st) := fun H locs ls rl hS hl => by
  have hci : ci < 15 := by
    have := (List.getElem?_eq_some_iff.mp hq).1
    simpa [pcl] using this
  obtain ⟨j, h1, h2⟩ := pws_obj (E := E) rl hk (by omega)
  exact va_castS X.1 X.2.1 X.2.2.2.1 (X.tb hcl) (X.K.1 ci q hq).2 (va_recv X.K rl.2.2.2.1 hq h2) hd (kk H locs ls rl hS hl)
/-- references that a comparison may meet: null, ArrayList's empty array, own cells -/
def okc (r : Option Nat) : Bool := match r with
  | none => true
  | some a => a == 3 || decide (10 ≤ a)
def acg (x y : Option Nat) : Bool := decide (x = y) || (okc x && okc y)
theorem avr_inj {E : PE} {l : Launch} (g : Gs E l) {x y : Option Nat} (hg : acg x y = true) : avr E x = avr E y ↔ x = y := by
  constructor
  · intro e
    unfold acg at hg
    rw [Bool.or_eq_true, Bool.and_eq_true, decide_eq_true_eq] at hg
    rcases hg with hg | ⟨hx, hy⟩
    · exact hg
    cases x with
    | none => cases y with
      | none => rfl
      | some b => cases e
    | some a => cases y with
      | none => cases e
      | some b =>
        have e1 : ad E a = ad E b := Option.some.inj e
        have kx : a = 3 ∨ 10 ≤ a := by simpa [okc] using hx
        have ky : b = 3 ∨ 10 ≤ b := by simpa [okc] using hy
        unfold ad at e1
        have g1 := g.2.2.2.1
        rcases kx with rfl | kx <;> rcases ky with rfl | ky
        · rfl
        · rw [if_pos (by omega), if_neg (by omega)] at e1
          omega
        · rw [if_neg (by omega), if_pos (by omega)] at e1
          omega
        · rw [if_neg (by omega), if_neg (by omega)] at e1
          rw [show a = b by omega]
  · rintro rfl; rfl
theorem p_acmp_eq (X : Cx E p l e R s m args below meth c own cc nL ret) {rx ry : Option Nat} (hg : acg rx ry = true) {off : Int} {tgt : Nat} (hd : decode cc pc = .ok (.if_acmp .eq off, 3)) (ht : (pc : Int) + off = (tgt : Int)) (kt : rx = ry → PW E p l e R s m args below meth c nL uc us Q h tgt L st) (kf : ¬ (rx = ry) → PW E p l e R s m args below meth c nL uc us Q h (pc + 3) L st) : PW E p l e R s m args below meth c nL uc us Q h pc L (va_rf ry :: va_rf rx :: st) := fun H locs ls rl hS hl => by
  have g := X.2.2.2.2.2.2.1
  refine W.eq (g2 := F0 m pc ls (va_rf (avr E ry) :: va_rf (avr E rx) :: st.map (av E))) (by rw [List.map_cons, List.map_cons, av_rf, av_rf]) ?_
  refine lv_acmp_eq X.1 X.2.1 hd ht (fun q => ?_) (fun q => ?_)
  · exact kt (by rw [avr_inj g hg] at q; exact q) H locs ls rl hS hl
  · exact kf (by rw [avr_inj g hg] at q; first | exact q | exact fun z => z q) H locs ls rl hS hl
theorem p_acmp_ne (X : Cx E p l e R s m args below meth c own cc nL ret) {rx ry : Option Nat} (hg : acg rx ry = true) {off : Int} {tgt : Nat} (hd : decode cc pc = .ok (.if_acmp .ne off, 3)) (ht : (pc : Int) + off = (tgt : Int)) (kt : ¬ rx = ry → PW E p l e R s m args below meth c nL uc us Q h tgt L st) (kf : ¬ (¬ rx = ry) → PW E p l e R s m args below meth c nL uc us Q h (pc + 3) L st) : PW E p l e R s m args below meth c nL uc us Q h pc L (va_rf ry :: va_rf rx :: st) := fun H locs ls rl hS hl => by
  have g := X.2.2.2.2.2.2.1
  refine W.eq (g2 := F0 m pc ls (va_rf (avr E ry) :: va_rf (avr E rx) :: st.map (av E))) (by rw [List.map_cons, List.map_cons, av_rf, av_rf]) ?_
  refine lv_acmp_ne X.1 X.2.1 hd ht (fun q => ?_) (fun q => ?_)
  · exact kt (by rw [avr_inj g hg] at q; exact q) H locs ls rl hS hl
  · exact kf (by rw [avr_inj g hg] at q; first | exact q | exact fun z => z q) H locs ls rl hS hl
theorem p_mmax (X : Cx E p l e R s m args below meth c own cc nL ret) {idx : Nat} {x y : Int32} (hlink : Cond.methodLink own idx Lib.Math.max.name ∈ Tall) (hst : Cond.static Lib.Math.max.name ∈ Tall) (hini : Cond.initialized "java/lang/Math" ∈ Tall) (hcode : Cond.code Lib.Math.max.name Lib.Math.max.code 2 (some .int) ∈ Tall) (hd : decode cc pc = .ok (.invokestatic idx, 3)) (hfr : 1 ≤ R.frames) (hlo : (st.map fun v => v.category).sum + 13 ≤ R.locals) (hc : uc ≤ R.cells) (hs : us ≤ R.slots) (hsz : ∀ ls : Array Slot, lv_has ls nL (lvO E L) → c.maxLocals = ls.size) (kk : PW E p l e R s m args below meth c nL uc us Q h (pc + 3) L (.int (if x < y then y else x) :: st)) : PW E p l e R s m args below meth c nL uc us Q h pc L (.int y :: .int x :: st) := fun H locs ls rl hS hl =>
  va_mmax X.1 X.2.1 (hsz ls hl) X.2.2.2.1 (X.tb hlink) (X.tb hst) (X.tb hini) (X.tb hcode) hfr (by rw [List.map_map, show (fun v : Value => v.category) ∘ av E = (fun v : Value => v.category) from funext (av_cat E)]; exact hlo) hc hs hd (kk H locs ls rl hS hl)
theorem p_mabs (X : Cx E p l e R s m args below meth c own cc nL ret) {idx : Nat} {x : Int32} (hlink : Cond.methodLink own idx Lib.Math.abs.name ∈ Tall) (hst : Cond.static Lib.Math.abs.name ∈ Tall) (hini : Cond.initialized "java/lang/Math" ∈ Tall) (hcode : Cond.code Lib.Math.abs.name Lib.Math.abs.code 1 (some .int) ∈ Tall) (hd : decode cc pc = .ok (.invokestatic idx, 3)) (hfr : 1 ≤ R.frames) (hlo : (st.map fun v => v.category).sum + 13 ≤ R.locals) (hc : uc ≤ R.cells) (hs : us ≤ R.slots) (hsz : ∀ ls : Array Slot, lv_has ls nL (lvO E L) → c.maxLocals = ls.size) (kk : PW E p l e R s m args below meth c nL uc us Q h (pc + 3) L (.int (if 0 ≤ x then x else 0 - x) :: st)) : PW E p l e R s m args below meth c nL uc us Q h pc L (.int x :: st) := fun H locs ls rl hS hl =>
  va_mabs X.1 X.2.1 (hsz ls hl) X.2.2.2.1 (X.tb hlink) (X.tb hst) (X.tb hini) (X.tb hcode) hfr (by rw [List.map_map, show (fun v : Value => v.category) ∘ av E = (fun v : Value => v.category) from funext (av_cat E)]; exact hlo) hc hs hd (kk H locs ls rl hS hl)
end PN
