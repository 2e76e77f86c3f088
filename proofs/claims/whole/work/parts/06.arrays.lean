/-! ARRAYS, NEW CELLS, STATICS, CASTS over the pure heap -/
theorem par_i {E : PE} {h : PH} {a : Nat} : par E h 20 a = (hN h a, .inl (hI h 20 a)) := rfl
theorem ad3 {E : PE} : ad E 3 = E.1 3 := rfl
theorem Rl.ne3 {E : PE} {h : PH} {H : Heap} (r : Rl E h H) {a c : Nat} (hk : hK h a = c) (hc : c ≠ 28) : a ≠ 3 := fun e => by
  subst e
  exact hc (hk.symm.trans r.2.2.2.2.2.2.2.1)
theorem Rl.ne3n {E : PE} {h : PH} {H : Heap} (r : Rl E h H) {a : Nat} {i : Int32} (hin : vp_in i (hN h a)) : a ≠ 3 := fun e => by
  subst e
  rw [r.2.2.2.2.2.2.2.2] at hin
  exact hin (Or.inr (Nat.zero_le _))
section PA
variable {E : PE} {p : Program} {l : Launch} {e : Env} {R : Room} {s : State} {m : MethodId} {args : Array Value} {below : List Frame} {meth : Method} {c : Code} {own : String} {cc : ByteArray} {nL : Nat} {ret : Option FieldType} {uc us : Nat} {Q : State → Prop} {h : PH} {pc : Nat} {L : PL} {st : List Value}
theorem Cx.Z (X : Cx E p l e R s m args below meth c own cc nL ret) {C n d : String} {v : Value} (z : gZ E C n d v) : va_Z C n d v (pA E) s s.heap := va_Z.kept (va_Z.moved X.2.2.2.2.2.1.alike z) (fun a h _ => X.2.2.2.2.2.2.2.2.2.2 a h)
theorem Cx.T (X : Cx E p l e R s m args below meth c own cc nL ret) {ty : FieldType} {a N : Nat} {f : Nat → Value} (z : gT E ty a N f) : va_T ty (E.1 a) N f (pA E) s s.heap := va_T.kept (va_T.moved X.2.2.2.2.2.1.alike z) (fun a h _ => X.2.2.2.2.2.2.2.2.2.2 a h)
theorem Cx.Zq (X : Cx E p l e R s m args below meth c own cc nL ret) {C n d : String} (z : vx_Zq C n d (pA E) E.2.2.2 E.2.2.2.heap) : vx_Zq C n d (pA E) s s.heap := vx_Zq.kept (vx_Zq.moved X.2.2.2.2.2.1.alike z) (fun a h _ => X.2.2.2.2.2.2.2.2.2.2 a h)
theorem Cx.N (X : Cx E p l e R s m args below meth c own cc nL ret) {a b : String} (h : Cond.castable a b ∈ lw_tbl) : va_Nw (.castable a b) s := by
  obtain ⟨A0, hA0⟩ := X.2.2.2.2.2.2.1.1
  exact va_Nw.warmC X.2.2.2.2.2.1 (va_tabs rfl rfl (hA0 _ h) : va_Nw _ E.2.2.2)
theorem Cx.AO (X : Cx E p l e R s m args below meth c own cc nL ret) {a : String} (h : Cond.arrayOver (.object a) ∈ lw_tbl) : va_AO a s := by
  obtain ⟨A0, hA0⟩ := X.2.2.2.2.2.2.1.1
  exact va_AO.moved X.2.2.2.2.2.1.alike (va_AO.of (hA0 _ h))
theorem p_iald (X : Cx E p l e R s m args below meth c own cc nL ret) {i : Int32} {a : Nat} (hd : decode cc pc = .ok (.iaload, 1)) (hk : hK h a = 20) (hin : vp_in i (hN h a)) (kk : PW E p l e R s m args below meth c nL uc us Q h (pc + 1) L (.int (hI h 20 a i.toNatClampNeg) :: st)) : PW E p l e R s m args below meth c nL uc us Q h pc L (.int i :: .ref a :: st) := fun H locs ls rl hS hl => by
  obtain ⟨j, h1, h2⟩ := pws_arr (E := E) rl hk (by decide) (rl.ne3 hk (by decide))
  exact va_iald X.1 X.2.1 X.K rl.2.2.2.1 j 0 h2 rfl hin hd (kk H locs ls rl hS hl)
theorem p_zald (X : Cx E p l e R s m args below meth c own cc nL ret) {i : Int32} {a : Nat} (hd : decode cc pc = .ok (.baload, 1)) (hk : hK h a = 21) (hin : vp_in i (hN h a)) (kk : PW E p l e R s m args below meth c nL uc us Q h (pc + 1) L (.int (hI h 21 a i.toNatClampNeg) :: st)) : PW E p l e R s m args below meth c nL uc us Q h pc L (.int i :: .ref a :: st) := fun H locs ls rl hS hl => by
  obtain ⟨j, h1, h2⟩ := pws_arr (E := E) rl hk (by decide) (rl.ne3 hk (by decide))
  exact va_zald X.1 X.2.1 X.K rl.2.2.2.1 j 1 h2 rfl hin hd (kk H locs ls rl hS hl)
theorem p_bald (X : Cx E p l e R s m args below meth c own cc nL ret) {i : Int32} {a : Nat} (hd : decode cc pc = .ok (.baload, 1)) (hk : hK h a = 22) (hin : vp_in i (hN h a)) (kk : PW E p l e R s m args below meth c nL uc us Q h (pc + 1) L (.int (hI h 22 a i.toNatClampNeg) :: st)) : PW E p l e R s m args below meth c nL uc us Q h pc L (.int i :: .ref a :: st) := fun H locs ls rl hS hl => by
  obtain ⟨j, h1, h2⟩ := pws_arr (E := E) rl hk (by decide) (rl.ne3 hk (by decide))
  exact va_bald X.1 X.2.1 X.K rl.2.2.2.1 j 2 h2 rfl hin hd (kk H locs ls rl hS hl)
theorem p_lald (X : Cx E p l e R s m args below meth c own cc nL ret) {i : Int32} {a : Nat} (hd : decode cc pc = .ok (.laload, 1)) (hk : hK h a = 23) (hin : vp_in i (hN h a)) (kk : PW E p l e R s m args below meth c nL uc us Q h (pc + 1) L (.long (hL h 23 a i.toNatClampNeg) :: st)) : PW E p l e R s m args below meth c nL uc us Q h pc L (.int i :: .ref a :: st) := fun H locs ls rl hS hl => by
  obtain ⟨j, h1, h2⟩ := pws_arr (E := E) rl hk (by decide) (rl.ne3 hk (by decide))
  exact va_lald X.1 X.2.1 X.K rl.2.2.2.1 j 3 h2 rfl hin hd (kk H locs ls rl hS hl)
theorem p_dald (X : Cx E p l e R s m args below meth c own cc nL ret) {i : Int32} {a : Nat} (hd : decode cc pc = .ok (.daload, 1)) (hk : hK h a = 24) (hin : vp_in i (hN h a)) (kk : PW E p l e R s m args below meth c nL uc us Q h (pc + 1) L (.double (hD h a i.toNatClampNeg) :: st)) : PW E p l e R s m args below meth c nL uc us Q h pc L (.int i :: .ref a :: st) := fun H locs ls rl hS hl => by
  obtain ⟨j, h1, h2⟩ := pws_arr (E := E) rl hk (by decide) (rl.ne3 hk (by decide))
  exact va_dald X.1 X.2.1 X.K rl.2.2.2.1 j 4 h2 rfl hin hd (kk H locs ls rl hS hl)
theorem p_aald25 (X : Cx E p l e R s m args below meth c own cc nL ret) {i : Int32} {a : Nat} (hd : decode cc pc = .ok (.aaload, 1)) (hk : hK h a = 25) (hin : vp_in i (hN h a)) (kk : PW E p l e R s m args below meth c nL uc us Q h (pc + 1) L (va_rf (hR h 25 a i.toNatClampNeg) :: st)) : PW E p l e R s m args below meth c nL uc us Q h pc L (.int i :: .ref a :: st) := fun H locs ls rl hS hl => by
  obtain ⟨j, h1, h2⟩ := pws_arr (E := E) rl hk (by decide) (rl.ne3n hin)
  refine va_aldq X.1 X.2.1 X.K rl.2.2.2.1 j 5 h2 rfl hin hd ?_
  have k1 := kk H locs ls rl hS hl
  rw [List.map_cons, av_rf] at k1
  exact k1
theorem p_aald26 (X : Cx E p l e R s m args below meth c own cc nL ret) {i : Int32} {a : Nat} (hd : decode cc pc = .ok (.aaload, 1)) (hk : hK h a = 26) (hin : vp_in i (hN h a)) (kk : PW E p l e R s m args below meth c nL uc us Q h (pc + 1) L (va_rf (hR h 26 a i.toNatClampNeg) :: st)) : PW E p l e R s m args below meth c nL uc us Q h pc L (.int i :: .ref a :: st) := fun H locs ls rl hS hl => by
  obtain ⟨j, h1, h2⟩ := pws_arr (E := E) rl hk (by decide) (rl.ne3n hin)
  refine va_aldq X.1 X.2.1 X.K rl.2.2.2.1 j 6 h2 rfl hin hd ?_
  have k1 := kk H locs ls rl hS hl
  rw [List.map_cons, av_rf] at k1
  exact k1
theorem p_aald27 (X : Cx E p l e R s m args below meth c own cc nL ret) {i : Int32} {a : Nat} (hd : decode cc pc = .ok (.aaload, 1)) (hk : hK h a = 27) (hin : vp_in i (hN h a)) (kk : PW E p l e R s m args below meth c nL uc us Q h (pc + 1) L (va_rf (hR h 27 a i.toNatClampNeg) :: st)) : PW E p l e R s m args below meth c nL uc us Q h pc L (.int i :: .ref a :: st) := fun H locs ls rl hS hl => by
  obtain ⟨j, h1, h2⟩ := pws_arr (E := E) rl hk (by decide) (rl.ne3n hin)
  refine va_aldq X.1 X.2.1 X.K rl.2.2.2.1 j 7 h2 rfl hin hd ?_
  have k1 := kk H locs ls rl hS hl
  rw [List.map_cons, av_rf] at k1
  exact k1
theorem p_aald28 (X : Cx E p l e R s m args below meth c own cc nL ret) {i : Int32} {a : Nat} (hd : decode cc pc = .ok (.aaload, 1)) (hk : hK h a = 28) (hin : vp_in i (hN h a)) (kk : PW E p l e R s m args below meth c nL uc us Q h (pc + 1) L (va_rf (hR h 28 a i.toNatClampNeg) :: st)) : PW E p l e R s m args below meth c nL uc us Q h pc L (.int i :: .ref a :: st) := fun H locs ls rl hS hl => by
  obtain ⟨j, h1, h2⟩ := pws_arr (E := E) rl hk (by decide) (rl.ne3n hin)
  refine va_aldq X.1 X.2.1 X.K rl.2.2.2.1 j 8 h2 rfl hin hd ?_
  have k1 := kk H locs ls rl hS hl
  rw [List.map_cons, av_rf] at k1
  exact k1
theorem p_alen20 (X : Cx E p l e R s m args below meth c own cc nL ret) {a : Nat} (hd : decode cc pc = .ok (.arraylength, 1)) (hk : hK h a = 20) (kk : PW E p l e R s m args below meth c nL uc us Q h (pc + 1) L (.int (nI (hN h a)) :: st)) : PW E p l e R s m args below meth c nL uc us Q h pc L (.ref a :: st) := fun H locs ls rl hS hl => by
  obtain ⟨j, h1, h2⟩ := pws_arr (E := E) rl hk (by decide) (rl.ne3 hk (by decide))
  exact va_alen X.1 X.2.1 X.K rl.2.2.2.1 j 0 h2 rfl rfl hd (kk H locs ls rl hS hl)
theorem p_alen21 (X : Cx E p l e R s m args below meth c own cc nL ret) {a : Nat} (hd : decode cc pc = .ok (.arraylength, 1)) (hk : hK h a = 21) (kk : PW E p l e R s m args below meth c nL uc us Q h (pc + 1) L (.int (nI (hN h a)) :: st)) : PW E p l e R s m args below meth c nL uc us Q h pc L (.ref a :: st) := fun H locs ls rl hS hl => by
  obtain ⟨j, h1, h2⟩ := pws_arr (E := E) rl hk (by decide) (rl.ne3 hk (by decide))
  exact va_alen X.1 X.2.1 X.K rl.2.2.2.1 j 1 h2 rfl rfl hd (kk H locs ls rl hS hl)
theorem p_alen22 (X : Cx E p l e R s m args below meth c own cc nL ret) {a : Nat} (hd : decode cc pc = .ok (.arraylength, 1)) (hk : hK h a = 22) (kk : PW E p l e R s m args below meth c nL uc us Q h (pc + 1) L (.int (nI (hN h a)) :: st)) : PW E p l e R s m args below meth c nL uc us Q h pc L (.ref a :: st) := fun H locs ls rl hS hl => by
  obtain ⟨j, h1, h2⟩ := pws_arr (E := E) rl hk (by decide) (rl.ne3 hk (by decide))
  exact va_alen X.1 X.2.1 X.K rl.2.2.2.1 j 2 h2 rfl rfl hd (kk H locs ls rl hS hl)
theorem p_alen23 (X : Cx E p l e R s m args below meth c own cc nL ret) {a : Nat} (hd : decode cc pc = .ok (.arraylength, 1)) (hk : hK h a = 23) (kk : PW E p l e R s m args below meth c nL uc us Q h (pc + 1) L (.int (nI (hN h a)) :: st)) : PW E p l e R s m args below meth c nL uc us Q h pc L (.ref a :: st) := fun H locs ls rl hS hl => by
  obtain ⟨j, h1, h2⟩ := pws_arr (E := E) rl hk (by decide) (rl.ne3 hk (by decide))
  exact va_alen X.1 X.2.1 X.K rl.2.2.2.1 j 3 h2 rfl rfl hd (kk H locs ls rl hS hl)
theorem p_alen24 (X : Cx E p l e R s m args below meth c own cc nL ret) {a : Nat} (hd : decode cc pc = .ok (.arraylength, 1)) (hk : hK h a = 24) (kk : PW E p l e R s m args below meth c nL uc us Q h (pc + 1) L (.int (nI (hN h a)) :: st)) : PW E p l e R s m args below meth c nL uc us Q h pc L (.ref a :: st) := fun H locs ls rl hS hl => by
  obtain ⟨j, h1, h2⟩ := pws_arr (E := E) rl hk (by decide) (rl.ne3 hk (by decide))
  exact va_alen X.1 X.2.1 X.K rl.2.2.2.1 j 4 h2 rfl rfl hd (kk H locs ls rl hS hl)
theorem p_alen25 (X : Cx E p l e R s m args below meth c own cc nL ret) {a : Nat} (hd : decode cc pc = .ok (.arraylength, 1)) (hk : hK h a = 25) (kk : PW E p l e R s m args below meth c nL uc us Q h (pc + 1) L (.int (nI (hN h a)) :: st)) : PW E p l e R s m args below meth c nL uc us Q h pc L (.ref a :: st) := fun H locs ls rl hS hl => by
  obtain ⟨j, h1, h2⟩ := pws_arr (E := E) rl hk (by decide) (rl.ne3 hk (by decide))
  exact va_alen X.1 X.2.1 X.K rl.2.2.2.1 j 5 h2 rfl rfl hd (kk H locs ls rl hS hl)
theorem p_alen26 (X : Cx E p l e R s m args below meth c own cc nL ret) {a : Nat} (hd : decode cc pc = .ok (.arraylength, 1)) (hk : hK h a = 26) (kk : PW E p l e R s m args below meth c nL uc us Q h (pc + 1) L (.int (nI (hN h a)) :: st)) : PW E p l e R s m args below meth c nL uc us Q h pc L (.ref a :: st) := fun H locs ls rl hS hl => by
  obtain ⟨j, h1, h2⟩ := pws_arr (E := E) rl hk (by decide) (rl.ne3 hk (by decide))
  exact va_alen X.1 X.2.1 X.K rl.2.2.2.1 j 6 h2 rfl rfl hd (kk H locs ls rl hS hl)
theorem p_alen27 (X : Cx E p l e R s m args below meth c own cc nL ret) {a : Nat} (hd : decode cc pc = .ok (.arraylength, 1)) (hk : hK h a = 27) (kk : PW E p l e R s m args below meth c nL uc us Q h (pc + 1) L (.int (nI (hN h a)) :: st)) : PW E p l e R s m args below meth c nL uc us Q h pc L (.ref a :: st) := fun H locs ls rl hS hl => by
  obtain ⟨j, h1, h2⟩ := pws_arr (E := E) rl hk (by decide) (rl.ne3 hk (by decide))
  exact va_alen X.1 X.2.1 X.K rl.2.2.2.1 j 7 h2 rfl rfl hd (kk H locs ls rl hS hl)
theorem p_alen28 (X : Cx E p l e R s m args below meth c own cc nL ret) {a : Nat} (hd : decode cc pc = .ok (.arraylength, 1)) (hk : hK h a = 28) (kk : PW E p l e R s m args below meth c nL uc us Q h (pc + 1) L (.int (nI (hN h a)) :: st)) : PW E p l e R s m args below meth c nL uc us Q h pc L (.ref a :: st) := fun H locs ls rl hS hl => by
  by_cases h3 : a = 3
  · subst h3
    have hz := X.2.2.2.2.2.2.1.2.2.2.2.2.2.2.1.2
    rw [rl.2.2.2.2.2.2.2.2] at kk
    exact va_tlen X.1 X.2.1 (X.T hz) hS rfl hd (kk H locs ls rl hS hl)
  · obtain ⟨j, h1, h2⟩ := pws_arr (E := E) rl hk (by decide) h3
    exact va_alen X.1 X.2.1 X.K rl.2.2.2.1 j 8 h2 rfl rfl hd (kk H locs ls rl hS hl)
theorem p_iast (X : Cx E p l e R s m args below meth c own cc nL ret) {i : Int32} {v : Int32} {a : Nat} (hd : decode cc pc = .ok (.iastore, 1)) (hk : hK h a = 20) (hin : vp_in i (hN h a)) (kk : PW E p l e R s m args below meth c nL uc us Q (sI h 20 a i.toNatClampNeg v) (pc + 1) L st) : PW E p l e R s m args below meth c nL uc us Q h pc L (.int v :: .int i :: .ref a :: st) := fun H locs ls rl hS hl => by
  obtain ⟨j, h1, h2⟩ := pws_arr (E := E) rl hk (by decide) (rl.ne3 hk (by decide))
  refine W.iast X.1 X.2.1 (rl.2.2.2.1 j _ h2) ((X.K.2 0 _ rfl).1 (hN h a) (fun j => .int (hI h 20 a j))) (fun q => by cases q) (by show ¬ (i < 0 ∨ (arrV _ _ _).slots.size ≤ _); rw [arrV_size]; exact hin) rfl rfl hd fun H1 e1 z oq => ?_
  refine kk H1 _ ls (rl.put (h' := sI h 20 a i.toNatClampNeg v) h1 ?_ z oq (fun b hb => pce_eq rfl rfl (fun j => by unfold hI sI; first | rfl | simp [hb]) (fun j => by unfold hR sI; first | rfl | simp [hb]) (fun j => by unfold hL sI; first | rfl | simp [hb]) (fun j => by unfold hD sI; first | rfl | simp [hb])) rfl rfl rfl rfl) (hS.put z oq (rl.pAt h1)) hl
  rw [pce_arr (h := sI h 20 a i.toNatClampNeg v) (c := 20) (show hK (sI h 20 a i.toNatClampNeg v) a = 20 from hk) (by decide)]
  show H1[ad E a]? = some (vp_cell _ _)
  rw [e1]
  show some ((arrV (E.2.2.1 20) (hN h a) (fun j => .int (hI h 20 a j))).setSlot _ (.int v)) = some (arrV (E.2.2.1 20) (hN h a) (fun j => .int (hI (sI h 20 a i.toNatClampNeg v) 20 a j)))
  rw [arrV_store]
  congr 2
  funext q
  by_cases hq : q = i.toNatClampNeg
  · subst hq
    simp [updV, hI, sI]
  · unfold sI
    simp [updV, hI, hL, hD, hq]
theorem p_zast (X : Cx E p l e R s m args below meth c own cc nL ret) {i : Int32} {v : Int32} {a : Nat} (hd : decode cc pc = .ok (.bastore, 1)) (hk : hK h a = 21) (hin : vp_in i (hN h a)) (kk : PW E p l e R s m args below meth c nL uc us Q (sI h 21 a i.toNatClampNeg (v &&& 1)) (pc + 1) L st) : PW E p l e R s m args below meth c nL uc us Q h pc L (.int v :: .int i :: .ref a :: st) := fun H locs ls rl hS hl => by
  obtain ⟨j, h1, h2⟩ := pws_arr (E := E) rl hk (by decide) (rl.ne3 hk (by decide))
  refine W.zast X.1 X.2.1 (rl.2.2.2.1 j _ h2) ((X.K.2 1 _ rfl).1 (hN h a) (fun j => .int (hI h 21 a j))) (fun q => by cases q) (by show ¬ (i < 0 ∨ (arrV _ _ _).slots.size ≤ _); rw [arrV_size]; exact hin) rfl rfl hd fun H1 e1 z oq => ?_
  refine kk H1 _ ls (rl.put (h' := sI h 21 a i.toNatClampNeg (v &&& 1)) h1 ?_ z oq (fun b hb => pce_eq rfl rfl (fun j => by unfold hI sI; first | rfl | simp [hb]) (fun j => by unfold hR sI; first | rfl | simp [hb]) (fun j => by unfold hL sI; first | rfl | simp [hb]) (fun j => by unfold hD sI; first | rfl | simp [hb])) rfl rfl rfl rfl) (hS.put z oq (rl.pAt h1)) hl
  rw [pce_arr (h := sI h 21 a i.toNatClampNeg (v &&& 1)) (c := 21) (show hK (sI h 21 a i.toNatClampNeg (v &&& 1)) a = 21 from hk) (by decide)]
  show H1[ad E a]? = some (vp_cell _ _)
  rw [e1]
  show some ((arrV (E.2.2.1 21) (hN h a) (fun j => .int (hI h 21 a j))).setSlot _ (narrow .boolean (.int v))) = some (arrV (E.2.2.1 21) (hN h a) (fun j => .int (hI (sI h 21 a i.toNatClampNeg (v &&& 1)) 21 a j)))
  rw [arrV_store]
  congr 2
  funext q
  by_cases hq : q = i.toNatClampNeg
  · subst hq
    simp [updV, hI, sI, narrow]
  · unfold sI
    simp [updV, hI, hL, hD, hq]
theorem p_bast (X : Cx E p l e R s m args below meth c own cc nL ret) {i : Int32} {v : Int32} {a : Nat} (hd : decode cc pc = .ok (.bastore, 1)) (hk : hK h a = 22) (hin : vp_in i (hN h a)) (kk : PW E p l e R s m args below meth c nL uc us Q (sI h 22 a i.toNatClampNeg v.toInt8.toInt32) (pc + 1) L st) : PW E p l e R s m args below meth c nL uc us Q h pc L (.int v :: .int i :: .ref a :: st) := fun H locs ls rl hS hl => by
  obtain ⟨j, h1, h2⟩ := pws_arr (E := E) rl hk (by decide) (rl.ne3 hk (by decide))
  refine W.bast X.1 X.2.1 (rl.2.2.2.1 j _ h2) ((X.K.2 2 _ rfl).1 (hN h a) (fun j => .int (hI h 22 a j))) (fun q => by cases q) (by show ¬ (i < 0 ∨ (arrV _ _ _).slots.size ≤ _); rw [arrV_size]; exact hin) rfl rfl hd fun H1 e1 z oq => ?_
  refine kk H1 _ ls (rl.put (h' := sI h 22 a i.toNatClampNeg v.toInt8.toInt32) h1 ?_ z oq (fun b hb => pce_eq rfl rfl (fun j => by unfold hI sI; first | rfl | simp [hb]) (fun j => by unfold hR sI; first | rfl | simp [hb]) (fun j => by unfold hL sI; first | rfl | simp [hb]) (fun j => by unfold hD sI; first | rfl | simp [hb])) rfl rfl rfl rfl) (hS.put z oq (rl.pAt h1)) hl
  rw [pce_arr (h := sI h 22 a i.toNatClampNeg v.toInt8.toInt32) (c := 22) (show hK (sI h 22 a i.toNatClampNeg v.toInt8.toInt32) a = 22 from hk) (by decide)]
  show H1[ad E a]? = some (vp_cell _ _)
  rw [e1]
  show some ((arrV (E.2.2.1 22) (hN h a) (fun j => .int (hI h 22 a j))).setSlot _ (narrow .byte (.int v))) = some (arrV (E.2.2.1 22) (hN h a) (fun j => .int (hI (sI h 22 a i.toNatClampNeg v.toInt8.toInt32) 22 a j)))
  rw [arrV_store]
  congr 2
  funext q
  by_cases hq : q = i.toNatClampNeg
  · subst hq
    simp [updV, hI, sI, narrow]
  · unfold sI
    simp [updV, hI, hL, hD, hq]
theorem p_last (X : Cx E p l e R s m args below meth c own cc nL ret) {i : Int32} {v : Int64} {a : Nat} (hd : decode cc pc = .ok (.lastore, 1)) (hk : hK h a = 23) (hin : vp_in i (hN h a)) (kk : PW E p l e R s m args below meth c nL uc us Q (sL h 23 a i.toNatClampNeg v) (pc + 1) L st) : PW E p l e R s m args below meth c nL uc us Q h pc L (.long v :: .int i :: .ref a :: st) := fun H locs ls rl hS hl => by
  obtain ⟨j, h1, h2⟩ := pws_arr (E := E) rl hk (by decide) (rl.ne3 hk (by decide))
  refine W.last X.1 X.2.1 (rl.2.2.2.1 j _ h2) ((X.K.2 3 _ rfl).1 (hN h a) (fun j => .long (hL h 23 a j))) (fun q => by cases q) (by show ¬ (i < 0 ∨ (arrV _ _ _).slots.size ≤ _); rw [arrV_size]; exact hin) rfl rfl hd fun H1 e1 z oq => ?_
  refine kk H1 _ ls (rl.put (h' := sL h 23 a i.toNatClampNeg v) h1 ?_ z oq (fun b hb => pce_eq rfl rfl (fun j => by unfold hI sL; first | rfl | simp [hb]) (fun j => by unfold hR sL; first | rfl | simp [hb]) (fun j => by unfold hL sL; first | rfl | simp [hb]) (fun j => by unfold hD sL; first | rfl | simp [hb])) rfl rfl rfl rfl) (hS.put z oq (rl.pAt h1)) hl
  rw [pce_arr (h := sL h 23 a i.toNatClampNeg v) (c := 23) (show hK (sL h 23 a i.toNatClampNeg v) a = 23 from hk) (by decide)]
  show H1[ad E a]? = some (vp_cell _ _)
  rw [e1]
  show some ((arrV (E.2.2.1 23) (hN h a) (fun j => .long (hL h 23 a j))).setSlot _ (.long v)) = some (arrV (E.2.2.1 23) (hN h a) (fun j => .long (hL (sL h 23 a i.toNatClampNeg v) 23 a j)))
  rw [arrV_store]
  congr 2
  funext q
  by_cases hq : q = i.toNatClampNeg
  · subst hq
    simp [updV, hL, sL]
  · unfold sL
    simp [updV, hI, hL, hD, hq]
theorem p_dast (X : Cx E p l e R s m args below meth c own cc nL ret) {i : Int32} {v : UInt64} {a : Nat} (hd : decode cc pc = .ok (.dastore, 1)) (hk : hK h a = 24) (hin : vp_in i (hN h a)) (kk : PW E p l e R s m args below meth c nL uc us Q (sD h a i.toNatClampNeg v) (pc + 1) L st) : PW E p l e R s m args below meth c nL uc us Q h pc L (.double v :: .int i :: .ref a :: st) := fun H locs ls rl hS hl => by
  obtain ⟨j, h1, h2⟩ := pws_arr (E := E) rl hk (by decide) (rl.ne3 hk (by decide))
  refine W.dast X.1 X.2.1 (rl.2.2.2.1 j _ h2) ((X.K.2 4 _ rfl).1 (hN h a) (fun j => .double (hD h a j))) (fun q => by cases q) (by show ¬ (i < 0 ∨ (arrV _ _ _).slots.size ≤ _); rw [arrV_size]; exact hin) rfl rfl hd fun H1 e1 z oq => ?_
  refine kk H1 _ ls (rl.put (h' := sD h a i.toNatClampNeg v) h1 ?_ z oq (fun b hb => pce_eq rfl rfl (fun j => by unfold hI sD; first | rfl | simp [hb]) (fun j => by unfold hR sD; first | rfl | simp [hb]) (fun j => by unfold hL sD; first | rfl | simp [hb]) (fun j => by unfold hD sD; first | rfl | simp [hb])) rfl rfl rfl rfl) (hS.put z oq (rl.pAt h1)) hl
  rw [pce_arr (h := sD h a i.toNatClampNeg v) (c := 24) (show hK (sD h a i.toNatClampNeg v) a = 24 from hk) (by decide)]
  show H1[ad E a]? = some (vp_cell _ _)
  rw [e1]
  show some ((arrV (E.2.2.1 24) (hN h a) (fun j => .double (hD h a j))).setSlot _ (.double v)) = some (arrV (E.2.2.1 24) (hN h a) (fun j => .double (hD (sD h a i.toNatClampNeg v) a j)))
  rw [arrV_store]
  congr 2
  funext q
  by_cases hq : q = i.toNatClampNeg
  · subst hq
    simp [updV, hD, sD]
  · unfold sD
    simp [updV, hI, hL, hD, hq]
end PA
