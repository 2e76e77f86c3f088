/-! FIELDS, ARRAYS, NEW CELLS over the pure heap -/
theorem pcl_ok : ∀ (c : Nat) (q : vw_C), pcl[c]? = some q → (∀ k, k < q.2.2 → parseFieldDescriptor (q.2.1 k).2.2.1 = some (pft c k)) ∧ (∀ a, a < q.2.2 → ∀ b, b < q.2.2 → a ≠ b → (q.2.1 a).2.1 ≠ (q.2.1 b).2.1) := by
  intro c q h
  match c, h with
  | 0, h => cases h; exact ⟨tyX0_ok, nmX0⟩
  | 1, h => cases h; exact ⟨tyX1_ok, nmX1⟩
  | 2, h => cases h; exact ⟨tyX2_ok, nmX2⟩
  | 3, h => cases h; exact ⟨tyX3_ok, nmX3⟩
  | 4, h => cases h; exact ⟨tyX4_ok, nmX4⟩
  | 5, h => cases h; exact ⟨tyX5_ok, nmX5⟩
  | 6, h => cases h; exact ⟨tyX6_ok, nmX6⟩
  | 7, h => cases h; exact ⟨tyX7_ok, nmX7⟩
  | 8, h => cases h; exact ⟨tyX8_ok, nmX8⟩
  | 9, h => cases h; exact ⟨tyX9_ok, nmX9⟩
  | 10, h => cases h; exact ⟨tyX10_ok, nmX10⟩
  | 11, h => cases h; exact ⟨tyX11_ok, nmX11⟩
  | 12, h => cases h; exact ⟨tyX12_ok, nmX12⟩
  | 13, h => cases h; exact ⟨tyJ4_ok, nmJ4⟩
  | 14, h => cases h; exact ⟨tyJx4a65c_ok, nmJx4a65c⟩
  | c + 15, h => simp [pcl] at h
theorem pin_X0 : ∀ w ∈ u_ws RX0 TX0 5, w ∈ Tall := by decide +kernel
theorem pin_X1 : ∀ w ∈ u_ws RX1 TX1 5, w ∈ Tall := by decide +kernel
theorem pin_X2 : ∀ w ∈ u_ws RX2 TX2 4, w ∈ Tall := by decide +kernel
theorem pin_X3 : ∀ w ∈ u_ws RX3 TX3 2, w ∈ Tall := by decide +kernel
theorem pin_X4 : ∀ w ∈ u_ws RX4 TX4 4, w ∈ Tall := by decide +kernel
theorem pin_X5 : ∀ w ∈ u_ws RX5 TX5 4, w ∈ Tall := by decide +kernel
theorem pin_X6 : ∀ w ∈ u_ws RX6 TX6 8, w ∈ Tall := by decide +kernel
theorem pin_X7 : ∀ w ∈ u_ws RX7 TX7 3, w ∈ Tall := by decide +kernel
theorem pin_X8 : ∀ w ∈ u_ws RX8 TX8 2, w ∈ Tall := by decide +kernel
theorem pin_X9 : ∀ w ∈ u_ws RX9 TX9 2, w ∈ Tall := by decide +kernel
theorem pin_X10 : ∀ w ∈ u_ws RX10 TX10 3, w ∈ Tall := by decide +kernel
theorem pin_X11 : ∀ w ∈ u_ws RX11 TX11 11, w ∈ Tall := by decide +kernel
theorem pin_X12 : ∀ w ∈ u_ws RX12 TX12 60, w ∈ Tall := by decide +kernel
theorem pin_J4 : ∀ w ∈ u_ws RJ4 TJ4 4, w ∈ Tall := by decide +kernel
theorem pin_Jx4a65c : ∀ w ∈ u_ws RJx4a65c TJx4a65c 3, w ∈ Tall := by decide +kernel
theorem pcl_in : ∀ (c : Nat) (q : vw_C), pcl[c]? = some q → ∀ w ∈ u_ws q.1 q.2.1 q.2.2, w ∈ Tall := by
  intro c q h
  match c, h with
  | 0, h => cases h; exact pin_X0
  | 1, h => cases h; exact pin_X1
  | 2, h => cases h; exact pin_X2
  | 3, h => cases h; exact pin_X3
  | 4, h => cases h; exact pin_X4
  | 5, h => cases h; exact pin_X5
  | 6, h => cases h; exact pin_X6
  | 7, h => cases h; exact pin_X7
  | 8, h => cases h; exact pin_X8
  | 9, h => cases h; exact pin_X9
  | 10, h => cases h; exact pin_X10
  | 11, h => cases h; exact pin_X11
  | 12, h => cases h; exact pin_X12
  | 13, h => cases h; exact pin_J4
  | 14, h => cases h; exact pin_Jx4a65c
  | c + 15, h => simp [pcl] at h
theorem pfn_of {c : Nat} {q : vw_C} (h : pcl[c]? = some q) : pfn c = q.2.2 := by unfold pfn; rw [h]
/-- a field of a class by an entry of a pool -/
def FL (own : String) (idx c k : Nat) : Prop := ∃ (q : vw_C) (ref : String), pcl[c]? = some q ∧ k < q.2.2 ∧ Cond.fieldLink own idx ref (q.2.1 k).2.1 (q.2.1 k).2.2.1 ∈ Tall ∧ ((q.2.1 k).1 = ref ∨ Cond.sameField ref (q.2.1 k).1 (q.2.1 k).2.1 (q.2.1 k).2.2.1 ∈ Tall)
def FN (own : String) (idx c k : Nat) : Prop := ∃ (q : vw_C) (host : String), pcl[c]? = some q ∧ k < q.2.2 ∧ Cond.fieldLinkNest own idx (q.2.1 k).1 (q.2.1 k).2.1 (q.2.1 k).2.2.1 host ∈ lw_tbl
def ptk (c k : Nat) : Nat := match pft c k with
  | .long => 2
  | .object _ => 1
  | .array _ => 1
  | _ => 0
theorem pfv_I {E : PE} {h : PH} {c a k : Nat} (ht : ptk c k = 0) : pfv E h c a k = .int (hI h c a k) := by
  unfold ptk at ht; unfold pfv
  split <;> simp_all
theorem pfv_R {E : PE} {h : PH} {c a k : Nat} (ht : ptk c k = 1) : pfv E h c a k = va_rf (avr E (hR h c a k)) := by
  unfold ptk at ht; unfold pfv
  split <;> simp_all
theorem pfv_L {E : PE} {h : PH} {c a k : Nat} (ht : ptk c k = 2) : pfv E h c a k = .long (hL h c a k) := by
  unfold ptk at ht; unfold pfv
  split <;> simp_all
theorem pfv_eq {E : PE} {h h' : PH} {c a k : Nat} (h1 : hI h' c a k = hI h c a k) (h2 : hR h' c a k = hR h c a k) (h3 : hL h' c a k = hL h c a k) : pfv E h' c a k = pfv E h c a k := by
  unfold pfv; rw [h1, h2, h3]
theorem pce_eq {E : PE} {h h' : PH} {a : Nat} (hk : hK h' a = hK h a) (hn : hN h' a = hN h a) (h1 : ∀ k, hI h' (hK h a) a k = hI h (hK h a) a k) (h2 : ∀ k, hR h' (hK h a) a k = hR h (hK h a) a k) (h3 : ∀ k, hL h' (hK h a) a k = hL h (hK h a) a k) (h4 : ∀ k, hD h' a k = hD h a k) : pce E h' a = pce E h a := by
  have e1 : pfs E h' (hK h a) a = pfs E h (hK h a) a := by
    unfold pfs
    congr 1
    funext k
    exact pfv_eq (h1 k) (h2 k) (h3 k)
  have e2 : par E h' (hK h a) a = par E h (hK h a) a := by
    have f1 : hI h' (hK h a) a = hI h (hK h a) a := funext h1
    have f2 : hR h' (hK h a) a = hR h (hK h a) a := funext h2
    have f3 : hL h' (hK h a) a = hL h (hK h a) a := funext h3
    have f4 : hD h' a = hD h a := funext h4
    unfold par
    rw [hn, f1, f2, f3, f4]
  unfold pce
  rw [hk, e1, e2]
section PF
variable {E : PE} {p : Program} {l : Launch} {e : Env} {R : Room} {s : State} {m : MethodId} {args : Array Value} {below : List Frame} {meth : Method} {c : Code} {own : String} {cc : ByteArray} {nL : Nat} {ret : Option FieldType} {uc us : Nat} {Q : State → Prop} {h : PH} {pc : Nat} {L : PL} {st : List Value}
theorem Cx.tb (X : Cx E p l e R s m args below meth c own cc nL ret) {w : Cond} (hw : w ∈ Tall) : w.before args s = true := X.2.2.2.2.1 w hw
theorem FL.same (X : Cx E p l e R s m args below meth c own cc nL ret) {ref o n d : String} (h : o = ref ∨ Cond.sameField ref o n d ∈ Tall) : ∀ x, s.fieldFound? o n d = some x → s.fieldFound? ref n d = some x := by
  rcases h with rfl | h
  · exact fun _ h => h
  · exact fun x hx => u_same (X.tb h) x hx
theorem p_getI (X : Cx E p l e R s m args below meth c own cc nL ret) {idx ci k a : Nat} (F : FL own idx ci k) (ht : ptk ci k = 0) (hc : ci < 19) (hd : decode cc pc = .ok (.getfield idx, 3)) (hk : hK h a = ci) (kk : PW E p l e R s m args below meth c nL uc us Q h (pc + 3) L (.int (hI h ci a k) :: st)) : PW E p l e R s m args below meth c nL uc us Q h pc L (.ref a :: st) := fun H locs ls rl hS hl => by
  obtain ⟨q, ref, hq, hkq, hlink, hsame⟩ := F
  obtain ⟨j, h1, h2⟩ := pws_obj (E := E) rl hk hc
  have hv : (pfs E h ci a)[k]? = some (av E (.int (hI h ci a k))) := (pfs_get E h (by rw [pfn_of hq]; exact hkq)).trans (congrArg some (pfv_I ht))
  exact va_get X.1 X.2.1 (fun w hw => X.tb hw) (pcl_in ci q hq) X.2.2.2.1 X.K rl.2.2.2.1 j h2 hq k hkq (X.tb hlink) (FL.same X hsame) hv hd (kk H locs ls rl hS hl)
theorem p_getIn (X : Cx E p l e R s m args below meth c own cc nL ret) {idx ci k a : Nat} (F : FN own idx ci k) (ht : ptk ci k = 0) (hc : ci < 19) (hd : decode cc pc = .ok (.getfield idx, 3)) (hk : hK h a = ci) (kk : PW E p l e R s m args below meth c nL uc us Q h (pc + 3) L (.int (hI h ci a k) :: st)) : PW E p l e R s m args below meth c nL uc us Q h pc L (.ref a :: st) := fun H locs ls rl hS hl => by
  obtain ⟨q, host, hq, hkq, hlink⟩ := F
  obtain ⟨A0, hA0⟩ := X.2.2.2.2.2.2.1.1
  have hn := va_Nw.warmF X.2.2.2.2.2.1 (va_tabs rfl rfl (hA0 _ hlink) : va_Nw _ E.2.2.2)
  obtain ⟨j, h1, h2⟩ := pws_obj (E := E) rl hk hc
  have hv : (pfs E h ci a)[k]? = some (av E (.int (hI h ci a k))) := (pfs_get E h (by rw [pfn_of hq]; exact hkq)).trans (congrArg some (pfv_I ht))
  exact va_getN X.1 X.2.1 (fun w hw => X.tb hw) (pcl_in ci q hq) X.2.2.2.1 X.K rl.2.2.2.1 j h2 hq k hkq (va_Nw.use rfl hn) (fun _ h => h) hv hd (kk H locs ls rl hS hl)
theorem p_getR (X : Cx E p l e R s m args below meth c own cc nL ret) {idx ci k a : Nat} (F : FL own idx ci k) (ht : ptk ci k = 1) (hc : ci < 19) (hd : decode cc pc = .ok (.getfield idx, 3)) (hk : hK h a = ci) (kk : PW E p l e R s m args below meth c nL uc us Q h (pc + 3) L (va_rf (hR h ci a k) :: st)) : PW E p l e R s m args below meth c nL uc us Q h pc L (.ref a :: st) := fun H locs ls rl hS hl => by
  obtain ⟨q, ref, hq, hkq, hlink, hsame⟩ := F
  obtain ⟨j, h1, h2⟩ := pws_obj (E := E) rl hk hc
  have hv : (pfs E h ci a)[k]? = some (av E (va_rf (hR h ci a k))) := (pfs_get E h (by rw [pfn_of hq]; exact hkq)).trans (congrArg some ((pfv_R ht).trans (av_rf E _).symm))
  exact va_get X.1 X.2.1 (fun w hw => X.tb hw) (pcl_in ci q hq) X.2.2.2.1 X.K rl.2.2.2.1 j h2 hq k hkq (X.tb hlink) (FL.same X hsame) hv hd (kk H locs ls rl hS hl)
theorem p_getRn (X : Cx E p l e R s m args below meth c own cc nL ret) {idx ci k a : Nat} (F : FN own idx ci k) (ht : ptk ci k = 1) (hc : ci < 19) (hd : decode cc pc = .ok (.getfield idx, 3)) (hk : hK h a = ci) (kk : PW E p l e R s m args below meth c nL uc us Q h (pc + 3) L (va_rf (hR h ci a k) :: st)) : PW E p l e R s m args below meth c nL uc us Q h pc L (.ref a :: st) := fun H locs ls rl hS hl => by
  obtain ⟨q, host, hq, hkq, hlink⟩ := F
  obtain ⟨A0, hA0⟩ := X.2.2.2.2.2.2.1.1
  have hn := va_Nw.warmF X.2.2.2.2.2.1 (va_tabs rfl rfl (hA0 _ hlink) : va_Nw _ E.2.2.2)
  obtain ⟨j, h1, h2⟩ := pws_obj (E := E) rl hk hc
  have hv : (pfs E h ci a)[k]? = some (av E (va_rf (hR h ci a k))) := (pfs_get E h (by rw [pfn_of hq]; exact hkq)).trans (congrArg some ((pfv_R ht).trans (av_rf E _).symm))
  exact va_getN X.1 X.2.1 (fun w hw => X.tb hw) (pcl_in ci q hq) X.2.2.2.1 X.K rl.2.2.2.1 j h2 hq k hkq (va_Nw.use rfl hn) (fun _ h => h) hv hd (kk H locs ls rl hS hl)
theorem p_getL (X : Cx E p l e R s m args below meth c own cc nL ret) {idx ci k a : Nat} (F : FL own idx ci k) (ht : ptk ci k = 2) (hc : ci < 19) (hd : decode cc pc = .ok (.getfield idx, 3)) (hk : hK h a = ci) (kk : PW E p l e R s m args below meth c nL uc us Q h (pc + 3) L (.long (hL h ci a k) :: st)) : PW E p l e R s m args below meth c nL uc us Q h pc L (.ref a :: st) := fun H locs ls rl hS hl => by
  obtain ⟨q, ref, hq, hkq, hlink, hsame⟩ := F
  obtain ⟨j, h1, h2⟩ := pws_obj (E := E) rl hk hc
  have hv : (pfs E h ci a)[k]? = some (av E (.long (hL h ci a k))) := (pfs_get E h (by rw [pfn_of hq]; exact hkq)).trans (congrArg some (pfv_L ht))
  exact va_get X.1 X.2.1 (fun w hw => X.tb hw) (pcl_in ci q hq) X.2.2.2.1 X.K rl.2.2.2.1 j h2 hq k hkq (X.tb hlink) (FL.same X hsame) hv hd (kk H locs ls rl hS hl)
theorem p_getLn (X : Cx E p l e R s m args below meth c own cc nL ret) {idx ci k a : Nat} (F : FN own idx ci k) (ht : ptk ci k = 2) (hc : ci < 19) (hd : decode cc pc = .ok (.getfield idx, 3)) (hk : hK h a = ci) (kk : PW E p l e R s m args below meth c nL uc us Q h (pc + 3) L (.long (hL h ci a k) :: st)) : PW E p l e R s m args below meth c nL uc us Q h pc L (.ref a :: st) := fun H locs ls rl hS hl => by
  obtain ⟨q, host, hq, hkq, hlink⟩ := F
  obtain ⟨A0, hA0⟩ := X.2.2.2.2.2.2.1.1
  have hn := va_Nw.warmF X.2.2.2.2.2.1 (va_tabs rfl rfl (hA0 _ hlink) : va_Nw _ E.2.2.2)
  obtain ⟨j, h1, h2⟩ := pws_obj (E := E) rl hk hc
  have hv : (pfs E h ci a)[k]? = some (av E (.long (hL h ci a k))) := (pfs_get E h (by rw [pfn_of hq]; exact hkq)).trans (congrArg some (pfv_L ht))
  exact va_getN X.1 X.2.1 (fun w hw => X.tb hw) (pcl_in ci q hq) X.2.2.2.1 X.K rl.2.2.2.1 j h2 hq k hkq (va_Nw.use rfl hn) (fun _ h => h) hv hd (kk H locs ls rl hS hl)
theorem pput_at {E : PE} {h h' : PH} {s : State} {H' : Heap} {ci a k : Nat} {q : vw_C} {v : Value} {cell : Cell} (hq : pcl[ci]? = some q) (hkq : k < q.2.2) (hK' : hK h' a = ci) (hc : ci < 19) (hv : pfv E h' ci a k = v) (ho : ∀ j, j ≠ k → pfv E h' ci a j = pfv E h ci a j)
    (hap : ∀ x y, x < q.2.2 → y < q.2.2 → x ≠ y → (E.2.1.2 ci) x ≠ (E.2.1.2 ci) y) (q2 : cell.cls = E.2.1.1 ci) (q3 : cell.vm = .none) (q4 : ∀ j, j < q.2.2 → cell.slots[E.2.1.2 ci j]? = some (vp_V (pfs E h ci a) j)) (e1 : H'[ad E a]? = some (cell.setSlot (E.2.1.2 ci k) v)) : va_at E.2.1 pcl (ad E a, pce E h' a) H' := by
  rw [pce_obj hK' hc]
  refine ⟨_, hq, t_OB.to (V := updV (vp_V (pfs E h ci a)) k v) ⟨_, e1, q2, q3, t_set q4 hap hkq v⟩ (fun j _ => ?_)⟩
  rw [vp_updV_set (by rw [pfs_len, pfn_of hq]; exact hkq), pfs_set E h h' hv ho]
theorem p_putI (X : Cx E p l e R s m args below meth c own cc nL ret) {idx ci k a : Nat} {v : Int32} (F : FL own idx ci k) (ht : ptk ci k = 0) (hc : ci < 19) (hfin : ∀ q, pcl[ci]? = some q → (q.2.1 k).2.2.2 = false) (hn : narrow (pft ci k) (.int v) = (.int v)) (hf : fits (pft ci k) (.int v) = true) (hd : decode cc pc = .ok (.putfield idx, 3)) (hk : hK h a = ci) (kk : PW E p l e R s m args below meth c nL uc us Q (sI h ci a k v) (pc + 3) L st) : PW E p l e R s m args below meth c nL uc us Q h pc L (.int v :: .ref a :: st) := fun H locs ls rl hS hl => by
  obtain ⟨q, ref, hq, hkq, hlink, hsame⟩ := F
  have hlink := X.tb hlink
  have hsame := FL.same X hsame
  have hts : ∀ w ∈ Tall, w.before args s = true := fun w hw => X.tb hw
  have hin := pcl_in ci q hq
  have hap := va_apart (own := own) hts hin (pft ci) (pcl_ok ci q hq).1 (pcl_ok ci q hq).2 X.K hq
  obtain ⟨j, h1, h2⟩ := pws_obj (E := E) rl hk hc
  obtain ⟨r, hr, cell, q1, q2, q3, q4⟩ := rl.2.2.2.1 j _ h2
  have hr : r = q := Option.some.inj (hr.symm.trans hq)
  subst hr
  obtain ⟨hS0, hfc, kC, hkC, hkind⟩ := X.K.1 ci _ hq
  obtain ⟨cf, kf, fi, f, hi, hsl⟩ := hS0 k hkq
  have hlay := hts _ (hin _ (u_in_lay hkq))
  unfold u_lay at hlay
  have hst := (u_facts hfc hkC (u_lays hts hin hkq) hi).1
  have hdsc := (pcl_ok ci r hq).1 k hkq
  rw [if_neg (by rw [hfin r hq]; decide)] at hlay
  have h6 := u_store hfc hkC hkind hlay hi hdsc hn hf
  refine W.eq (g2 := F0 m pc ls ((.int v) :: .ref (ad E a) :: st.map (av E))) (congrArg (fun z => F0 m pc ls (z :: .ref (ad E a) :: st.map (av E))) (rfl)) ?_
  refine W.putK X.1 X.2.1 (f := f) ⟨X.2.2.2.1, hlink, ⟨_, _, _, hsame _ hi⟩, hst⟩ (by rw [q2]; exact h6) q1 q3 (by rw [hsl]; exact k2_hasslot (q4 k hkq)) rfl rfl hd fun H' e1 e2 e3 => ?_
  rw [hsl] at e1 ⊢
  have hpa := rl.pAt h1
  refine kk H' _ ls (rl.put (h' := sI h ci a k v) h1 (pput_at (h := h) (s := s) hq hkq hk hc ((pfv_I ht).trans (by unfold hI sI; simp)) (fun j hj => pfv_eq (by unfold hI sI; first | rfl | simp [hj]) (by unfold hR sI; first | rfl | simp [hj]) (by unfold hL sI; first | rfl | simp [hj])) hap q2 q3 q4 e1) e2 e3 (fun b hb => pce_eq rfl rfl (fun j => by unfold hI sI; first | rfl | simp [hb]) (fun j => by unfold hR sI; first | rfl | simp [hb]) (fun j => by unfold hL sI; first | rfl | simp [hb]) (fun j => rfl)) rfl rfl rfl rfl) (hS.put e2 e3 hpa) hl
theorem p_putIn (X : Cx E p l e R s m args below meth c own cc nL ret) {idx ci k a : Nat} {v : Int32} (F : FN own idx ci k) (ht : ptk ci k = 0) (hc : ci < 19) (hfin : ∀ q, pcl[ci]? = some q → (q.2.1 k).2.2.2 = false) (hn : narrow (pft ci k) (.int v) = (.int v)) (hf : fits (pft ci k) (.int v) = true) (hd : decode cc pc = .ok (.putfield idx, 3)) (hk : hK h a = ci) (kk : PW E p l e R s m args below meth c nL uc us Q (sI h ci a k v) (pc + 3) L st) : PW E p l e R s m args below meth c nL uc us Q h pc L (.int v :: .ref a :: st) := fun H locs ls rl hS hl => by
  obtain ⟨q, host, hq, hkq, hlink⟩ := F
  obtain ⟨A0, hA0⟩ := X.2.2.2.2.2.2.1.1
  have hlink := va_Nw.use (A := args) rfl (va_Nw.warmF X.2.2.2.2.2.1 (va_tabs rfl rfl (hA0 _ hlink) : va_Nw _ E.2.2.2))
  have hsame : ∀ x, s.fieldFound? (q.2.1 k).1 (q.2.1 k).2.1 (q.2.1 k).2.2.1 = some x → s.fieldFound? (q.2.1 k).1 (q.2.1 k).2.1 (q.2.1 k).2.2.1 = some x := fun _ h => h
  have hts : ∀ w ∈ Tall, w.before args s = true := fun w hw => X.tb hw
  have hin := pcl_in ci q hq
  have hap := va_apart (own := own) hts hin (pft ci) (pcl_ok ci q hq).1 (pcl_ok ci q hq).2 X.K hq
  obtain ⟨j, h1, h2⟩ := pws_obj (E := E) rl hk hc
  obtain ⟨r, hr, cell, q1, q2, q3, q4⟩ := rl.2.2.2.1 j _ h2
  have hr : r = q := Option.some.inj (hr.symm.trans hq)
  subst hr
  obtain ⟨hS0, hfc, kC, hkC, hkind⟩ := X.K.1 ci _ hq
  obtain ⟨cf, kf, fi, f, hi, hsl⟩ := hS0 k hkq
  have hlay := hts _ (hin _ (u_in_lay hkq))
  unfold u_lay at hlay
  have hst := (u_facts hfc hkC (u_lays hts hin hkq) hi).1
  have hdsc := (pcl_ok ci r hq).1 k hkq
  rw [if_neg (by rw [hfin r hq]; decide)] at hlay
  have h6 := u_store hfc hkC hkind hlay hi hdsc hn hf
  refine W.eq (g2 := F0 m pc ls ((.int v) :: .ref (ad E a) :: st.map (av E))) (congrArg (fun z => F0 m pc ls (z :: .ref (ad E a) :: st.map (av E))) (rfl)) ?_
  refine va_WputK X.1 X.2.1 (f := f) X.2.2.2.1 hlink (hsame _ hi) hst (by rw [q2]; exact h6) q1 q3 (by rw [hsl]; exact k2_hasslot (q4 k hkq)) rfl rfl hd fun H' e1 e2 e3 => ?_
  rw [hsl] at e1 ⊢
  have hpa := rl.pAt h1
  refine kk H' _ ls (rl.put (h' := sI h ci a k v) h1 (pput_at (h := h) (s := s) hq hkq hk hc ((pfv_I ht).trans (by unfold hI sI; simp)) (fun j hj => pfv_eq (by unfold hI sI; first | rfl | simp [hj]) (by unfold hR sI; first | rfl | simp [hj]) (by unfold hL sI; first | rfl | simp [hj])) hap q2 q3 q4 e1) e2 e3 (fun b hb => pce_eq rfl rfl (fun j => by unfold hI sI; first | rfl | simp [hb]) (fun j => by unfold hR sI; first | rfl | simp [hb]) (fun j => by unfold hL sI; first | rfl | simp [hb]) (fun j => rfl)) rfl rfl rfl rfl) (hS.put e2 e3 hpa) hl
theorem p_putIf (X : Cx E p l e R s m args below meth c own cc nL ret) {idx ci k a : Nat} {v : Int32} (F : FL own idx ci k) (ht : ptk ci k = 0) (hc : ci < 19) (hfin : ∀ q, pcl[ci]? = some q → (q.2.1 k).2.2.2 = true ∧ (q.2.1 k).1 = own) (hin2 : meth.name = "<init>") (hn : narrow (pft ci k) (.int v) = (.int v)) (hf : fits (pft ci k) (.int v) = true) (hd : decode cc pc = .ok (.putfield idx, 3)) (hk : hK h a = ci) (kk : PW E p l e R s m args below meth c nL uc us Q (sI h ci a k v) (pc + 3) L st) : PW E p l e R s m args below meth c nL uc us Q h pc L (.int v :: .ref a :: st) := fun H locs ls rl hS hl => by
  obtain ⟨q, ref, hq, hkq, hlink, hsame⟩ := F
  have hlink := X.tb hlink
  have hsame := FL.same X hsame
  have hts : ∀ w ∈ Tall, w.before args s = true := fun w hw => X.tb hw
  have hin := pcl_in ci q hq
  have hap := va_apart (own := own) hts hin (pft ci) (pcl_ok ci q hq).1 (pcl_ok ci q hq).2 X.K hq
  obtain ⟨j, h1, h2⟩ := pws_obj (E := E) rl hk hc
  obtain ⟨r, hr, cell, q1, q2, q3, q4⟩ := rl.2.2.2.1 j _ h2
  have hr : r = q := Option.some.inj (hr.symm.trans hq)
  subst hr
  obtain ⟨hS0, hfc, kC, hkC, hkind⟩ := X.K.1 ci _ hq
  obtain ⟨cf, kf, fi, f, hi, hsl⟩ := hS0 k hkq
  have hlay := hts _ (hin _ (u_in_lay hkq))
  unfold u_lay at hlay
  have hst := (u_facts hfc hkC (u_lays hts hin hkq) hi).1
  have hdsc := (pcl_ok ci r hq).1 k hkq
  rw [if_pos (hfin r hq).1] at hlay
  have hcf : m.cls = cf := by
    obtain ⟨_, _, c', _, _, _, -, -, hf', -, -, -, hown2, -⟩ := Cond.laysFinal_spec hlay
    have e1 : c' = cf := by have := hi.symm.trans hf'; simp at this; exact this.1.symm
    rw [(hfin r hq).2] at hown2
    rw [← e1]; exact Option.some.inj (X.2.2.2.1.symm.trans hown2)
  have h6 := u_fits hfc hkC hkind (Or.inr hlay) hi hdsc hn hf
  refine W.eq (g2 := F0 m pc ls ((.int v) :: .ref (ad E a) :: st.map (av E))) (congrArg (fun z => F0 m pc ls (z :: .ref (ad E a) :: st.map (av E))) (rfl)) ?_
  refine W.putFinK X.1 X.2.1 X.2.2.2.1 hlink (hsame _ hi) hst hcf hin2 (by rw [q2]; exact h6) q1 q3 (by rw [hsl]; exact k2_hasslot (q4 k hkq)) rfl rfl hd fun H' e1 e2 e3 => ?_
  rw [hsl] at e1 ⊢
  have hpa := rl.pAt h1
  refine kk H' _ ls (rl.put (h' := sI h ci a k v) h1 (pput_at (h := h) (s := s) hq hkq hk hc ((pfv_I ht).trans (by unfold hI sI; simp)) (fun j hj => pfv_eq (by unfold hI sI; first | rfl | simp [hj]) (by unfold hR sI; first | rfl | simp [hj]) (by unfold hL sI; first | rfl | simp [hj])) hap q2 q3 q4 e1) e2 e3 (fun b hb => pce_eq rfl rfl (fun j => by unfold hI sI; first | rfl | simp [hb]) (fun j => by unfold hR sI; first | rfl | simp [hb]) (fun j => by unfold hL sI; first | rfl | simp [hb]) (fun j => rfl)) rfl rfl rfl rfl) (hS.put e2 e3 hpa) hl
theorem p_putR (X : Cx E p l e R s m args below meth c own cc nL ret) {idx ci k a : Nat} {v : Option Nat} (F : FL own idx ci k) (ht : ptk ci k = 1) (hc : ci < 19) (hfin : ∀ q, pcl[ci]? = some q → (q.2.1 k).2.2.2 = false) (hn : narrow (pft ci k) (va_rf (avr E v)) = (va_rf (avr E v))) (hf : fits (pft ci k) (va_rf (avr E v)) = true) (hd : decode cc pc = .ok (.putfield idx, 3)) (hk : hK h a = ci) (kk : PW E p l e R s m args below meth c nL uc us Q (sR h ci a k v) (pc + 3) L st) : PW E p l e R s m args below meth c nL uc us Q h pc L (va_rf v :: .ref a :: st) := fun H locs ls rl hS hl => by
  obtain ⟨q, ref, hq, hkq, hlink, hsame⟩ := F
  have hlink := X.tb hlink
  have hsame := FL.same X hsame
  have hts : ∀ w ∈ Tall, w.before args s = true := fun w hw => X.tb hw
  have hin := pcl_in ci q hq
  have hap := va_apart (own := own) hts hin (pft ci) (pcl_ok ci q hq).1 (pcl_ok ci q hq).2 X.K hq
  obtain ⟨j, h1, h2⟩ := pws_obj (E := E) rl hk hc
  obtain ⟨r, hr, cell, q1, q2, q3, q4⟩ := rl.2.2.2.1 j _ h2
  have hr : r = q := Option.some.inj (hr.symm.trans hq)
  subst hr
  obtain ⟨hS0, hfc, kC, hkC, hkind⟩ := X.K.1 ci _ hq
  obtain ⟨cf, kf, fi, f, hi, hsl⟩ := hS0 k hkq
  have hlay := hts _ (hin _ (u_in_lay hkq))
  unfold u_lay at hlay
  have hst := (u_facts hfc hkC (u_lays hts hin hkq) hi).1
  have hdsc := (pcl_ok ci r hq).1 k hkq
  rw [if_neg (by rw [hfin r hq]; decide)] at hlay
  have h6 := u_store hfc hkC hkind hlay hi hdsc hn hf
  refine W.eq (g2 := F0 m pc ls ((va_rf (avr E v)) :: .ref (ad E a) :: st.map (av E))) (congrArg (fun z => F0 m pc ls (z :: .ref (ad E a) :: st.map (av E))) (av_rf E v)) ?_
  refine W.putK X.1 X.2.1 (f := f) ⟨X.2.2.2.1, hlink, ⟨_, _, _, hsame _ hi⟩, hst⟩ (by rw [q2]; exact h6) q1 q3 (by rw [hsl]; exact k2_hasslot (q4 k hkq)) rfl rfl hd fun H' e1 e2 e3 => ?_
  rw [hsl] at e1 ⊢
  have hpa := rl.pAt h1
  refine kk H' _ ls (rl.put (h' := sR h ci a k v) h1 (pput_at (h := h) (s := s) hq hkq hk hc ((pfv_R ht).trans (by unfold hR sR; simp)) (fun j hj => pfv_eq (by unfold hI sR; first | rfl | simp [hj]) (by unfold hR sR; first | rfl | simp [hj]) (by unfold hL sR; first | rfl | simp [hj])) hap q2 q3 q4 e1) e2 e3 (fun b hb => pce_eq rfl rfl (fun j => by unfold hI sR; first | rfl | simp [hb]) (fun j => by unfold hR sR; first | rfl | simp [hb]) (fun j => by unfold hL sR; first | rfl | simp [hb]) (fun j => rfl)) rfl rfl rfl rfl) (hS.put e2 e3 hpa) hl
theorem p_putRn (X : Cx E p l e R s m args below meth c own cc nL ret) {idx ci k a : Nat} {v : Option Nat} (F : FN own idx ci k) (ht : ptk ci k = 1) (hc : ci < 19) (hfin : ∀ q, pcl[ci]? = some q → (q.2.1 k).2.2.2 = false) (hn : narrow (pft ci k) (va_rf (avr E v)) = (va_rf (avr E v))) (hf : fits (pft ci k) (va_rf (avr E v)) = true) (hd : decode cc pc = .ok (.putfield idx, 3)) (hk : hK h a = ci) (kk : PW E p l e R s m args below meth c nL uc us Q (sR h ci a k v) (pc + 3) L st) : PW E p l e R s m args below meth c nL uc us Q h pc L (va_rf v :: .ref a :: st) := fun H locs ls rl hS hl => by
  obtain ⟨q, host, hq, hkq, hlink⟩ := F
  obtain ⟨A0, hA0⟩ := X.2.2.2.2.2.2.1.1
  have hlink := va_Nw.use (A := args) rfl (va_Nw.warmF X.2.2.2.2.2.1 (va_tabs rfl rfl (hA0 _ hlink) : va_Nw _ E.2.2.2))
  have hsame : ∀ x, s.fieldFound? (q.2.1 k).1 (q.2.1 k).2.1 (q.2.1 k).2.2.1 = some x → s.fieldFound? (q.2.1 k).1 (q.2.1 k).2.1 (q.2.1 k).2.2.1 = some x := fun _ h => h
  have hts : ∀ w ∈ Tall, w.before args s = true := fun w hw => X.tb hw
  have hin := pcl_in ci q hq
  have hap := va_apart (own := own) hts hin (pft ci) (pcl_ok ci q hq).1 (pcl_ok ci q hq).2 X.K hq
  obtain ⟨j, h1, h2⟩ := pws_obj (E := E) rl hk hc
  obtain ⟨r, hr, cell, q1, q2, q3, q4⟩ := rl.2.2.2.1 j _ h2
  have hr : r = q := Option.some.inj (hr.symm.trans hq)
  subst hr
  obtain ⟨hS0, hfc, kC, hkC, hkind⟩ := X.K.1 ci _ hq
  obtain ⟨cf, kf, fi, f, hi, hsl⟩ := hS0 k hkq
  have hlay := hts _ (hin _ (u_in_lay hkq))
  unfold u_lay at hlay
  have hst := (u_facts hfc hkC (u_lays hts hin hkq) hi).1
  have hdsc := (pcl_ok ci r hq).1 k hkq
  rw [if_neg (by rw [hfin r hq]; decide)] at hlay
  have h6 := u_store hfc hkC hkind hlay hi hdsc hn hf
  refine W.eq (g2 := F0 m pc ls ((va_rf (avr E v)) :: .ref (ad E a) :: st.map (av E))) (congrArg (fun z => F0 m pc ls (z :: .ref (ad E a) :: st.map (av E))) (av_rf E v)) ?_
  refine va_WputK X.1 X.2.1 (f := f) X.2.2.2.1 hlink (hsame _ hi) hst (by rw [q2]; exact h6) q1 q3 (by rw [hsl]; exact k2_hasslot (q4 k hkq)) rfl rfl hd fun H' e1 e2 e3 => ?_
  rw [hsl] at e1 ⊢
  have hpa := rl.pAt h1
  refine kk H' _ ls (rl.put (h' := sR h ci a k v) h1 (pput_at (h := h) (s := s) hq hkq hk hc ((pfv_R ht).trans (by unfold hR sR; simp)) (fun j hj => pfv_eq (by unfold hI sR; first | rfl | simp [hj]) (by unfold hR sR; first | rfl | simp [hj]) (by unfold hL sR; first | rfl | simp [hj])) hap q2 q3 q4 e1) e2 e3 (fun b hb => pce_eq rfl rfl (fun j => by unfold hI sR; first | rfl | simp [hb]) (fun j => by unfold hR sR; first | rfl | simp [hb]) (fun j => by unfold hL sR; first | rfl | simp [hb]) (fun j => rfl)) rfl rfl rfl rfl) (hS.put e2 e3 hpa) hl
theorem p_putRf (X : Cx E p l e R s m args below meth c own cc nL ret) {idx ci k a : Nat} {v : Option Nat} (F : FL own idx ci k) (ht : ptk ci k = 1) (hc : ci < 19) (hfin : ∀ q, pcl[ci]? = some q → (q.2.1 k).2.2.2 = true ∧ (q.2.1 k).1 = own) (hin2 : meth.name = "<init>") (hn : narrow (pft ci k) (va_rf (avr E v)) = (va_rf (avr E v))) (hf : fits (pft ci k) (va_rf (avr E v)) = true) (hd : decode cc pc = .ok (.putfield idx, 3)) (hk : hK h a = ci) (kk : PW E p l e R s m args below meth c nL uc us Q (sR h ci a k v) (pc + 3) L st) : PW E p l e R s m args below meth c nL uc us Q h pc L (va_rf v :: .ref a :: st) := fun H locs ls rl hS hl => by
  obtain ⟨q, ref, hq, hkq, hlink, hsame⟩ := F
  have hlink := X.tb hlink
  have hsame := FL.same X hsame
  have hts : ∀ w ∈ Tall, w.before args s = true := fun w hw => X.tb hw
  have hin := pcl_in ci q hq
  have hap := va_apart (own := own) hts hin (pft ci) (pcl_ok ci q hq).1 (pcl_ok ci q hq).2 X.K hq
  obtain ⟨j, h1, h2⟩ := pws_obj (E := E) rl hk hc
  obtain ⟨r, hr, cell, q1, q2, q3, q4⟩ := rl.2.2.2.1 j _ h2
  have hr : r = q := Option.some.inj (hr.symm.trans hq)
  subst hr
  obtain ⟨hS0, hfc, kC, hkC, hkind⟩ := X.K.1 ci _ hq
  obtain ⟨cf, kf, fi, f, hi, hsl⟩ := hS0 k hkq
  have hlay := hts _ (hin _ (u_in_lay hkq))
  unfold u_lay at hlay
  have hst := (u_facts hfc hkC (u_lays hts hin hkq) hi).1
  have hdsc := (pcl_ok ci r hq).1 k hkq
  rw [if_pos (hfin r hq).1] at hlay
  have hcf : m.cls = cf := by
    obtain ⟨_, _, c', _, _, _, -, -, hf', -, -, -, hown2, -⟩ := Cond.laysFinal_spec hlay
    have e1 : c' = cf := by have := hi.symm.trans hf'; simp at this; exact this.1.symm
    rw [(hfin r hq).2] at hown2
    rw [← e1]; exact Option.some.inj (X.2.2.2.1.symm.trans hown2)
  have h6 := u_fits hfc hkC hkind (Or.inr hlay) hi hdsc hn hf
  refine W.eq (g2 := F0 m pc ls ((va_rf (avr E v)) :: .ref (ad E a) :: st.map (av E))) (congrArg (fun z => F0 m pc ls (z :: .ref (ad E a) :: st.map (av E))) (av_rf E v)) ?_
  refine W.putFinK X.1 X.2.1 X.2.2.2.1 hlink (hsame _ hi) hst hcf hin2 (by rw [q2]; exact h6) q1 q3 (by rw [hsl]; exact k2_hasslot (q4 k hkq)) rfl rfl hd fun H' e1 e2 e3 => ?_
  rw [hsl] at e1 ⊢
  have hpa := rl.pAt h1
  refine kk H' _ ls (rl.put (h' := sR h ci a k v) h1 (pput_at (h := h) (s := s) hq hkq hk hc ((pfv_R ht).trans (by unfold hR sR; simp)) (fun j hj => pfv_eq (by unfold hI sR; first | rfl | simp [hj]) (by unfold hR sR; first | rfl | simp [hj]) (by unfold hL sR; first | rfl | simp [hj])) hap q2 q3 q4 e1) e2 e3 (fun b hb => pce_eq rfl rfl (fun j => by unfold hI sR; first | rfl | simp [hb]) (fun j => by unfold hR sR; first | rfl | simp [hb]) (fun j => by unfold hL sR; first | rfl | simp [hb]) (fun j => rfl)) rfl rfl rfl rfl) (hS.put e2 e3 hpa) hl
theorem p_putL (X : Cx E p l e R s m args below meth c own cc nL ret) {idx ci k a : Nat} {v : Int64} (F : FL own idx ci k) (ht : ptk ci k = 2) (hc : ci < 19) (hfin : ∀ q, pcl[ci]? = some q → (q.2.1 k).2.2.2 = false) (hn : narrow (pft ci k) (.long v) = (.long v)) (hf : fits (pft ci k) (.long v) = true) (hd : decode cc pc = .ok (.putfield idx, 3)) (hk : hK h a = ci) (kk : PW E p l e R s m args below meth c nL uc us Q (sL h ci a k v) (pc + 3) L st) : PW E p l e R s m args below meth c nL uc us Q h pc L (.long v :: .ref a :: st) := fun H locs ls rl hS hl => by
  obtain ⟨q, ref, hq, hkq, hlink, hsame⟩ := F
  have hlink := X.tb hlink
  have hsame := FL.same X hsame
  have hts : ∀ w ∈ Tall, w.before args s = true := fun w hw => X.tb hw
  have hin := pcl_in ci q hq
  have hap := va_apart (own := own) hts hin (pft ci) (pcl_ok ci q hq).1 (pcl_ok ci q hq).2 X.K hq
  obtain ⟨j, h1, h2⟩ := pws_obj (E := E) rl hk hc
  obtain ⟨r, hr, cell, q1, q2, q3, q4⟩ := rl.2.2.2.1 j _ h2
  have hr : r = q := Option.some.inj (hr.symm.trans hq)
  subst hr
  obtain ⟨hS0, hfc, kC, hkC, hkind⟩ := X.K.1 ci _ hq
  obtain ⟨cf, kf, fi, f, hi, hsl⟩ := hS0 k hkq
  have hlay := hts _ (hin _ (u_in_lay hkq))
  unfold u_lay at hlay
  have hst := (u_facts hfc hkC (u_lays hts hin hkq) hi).1
  have hdsc := (pcl_ok ci r hq).1 k hkq
  rw [if_neg (by rw [hfin r hq]; decide)] at hlay
  have h6 := u_store hfc hkC hkind hlay hi hdsc hn hf
  refine W.eq (g2 := F0 m pc ls ((.long v) :: .ref (ad E a) :: st.map (av E))) (congrArg (fun z => F0 m pc ls (z :: .ref (ad E a) :: st.map (av E))) (rfl)) ?_
  refine W.putK X.1 X.2.1 (f := f) ⟨X.2.2.2.1, hlink, ⟨_, _, _, hsame _ hi⟩, hst⟩ (by rw [q2]; exact h6) q1 q3 (by rw [hsl]; exact k2_hasslot (q4 k hkq)) rfl rfl hd fun H' e1 e2 e3 => ?_
  rw [hsl] at e1 ⊢
  have hpa := rl.pAt h1
  refine kk H' _ ls (rl.put (h' := sL h ci a k v) h1 (pput_at (h := h) (s := s) hq hkq hk hc ((pfv_L ht).trans (by unfold hL sL; simp)) (fun j hj => pfv_eq (by unfold hI sL; first | rfl | simp [hj]) (by unfold hR sL; first | rfl | simp [hj]) (by unfold hL sL; first | rfl | simp [hj])) hap q2 q3 q4 e1) e2 e3 (fun b hb => pce_eq rfl rfl (fun j => by unfold hI sL; first | rfl | simp [hb]) (fun j => by unfold hR sL; first | rfl | simp [hb]) (fun j => by unfold hL sL; first | rfl | simp [hb]) (fun j => rfl)) rfl rfl rfl rfl) (hS.put e2 e3 hpa) hl
theorem p_putLn (X : Cx E p l e R s m args below meth c own cc nL ret) {idx ci k a : Nat} {v : Int64} (F : FN own idx ci k) (ht : ptk ci k = 2) (hc : ci < 19) (hfin : ∀ q, pcl[ci]? = some q → (q.2.1 k).2.2.2 = false) (hn : narrow (pft ci k) (.long v) = (.long v)) (hf : fits (pft ci k) (.long v) = true) (hd : decode cc pc = .ok (.putfield idx, 3)) (hk : hK h a = ci) (kk : PW E p l e R s m args below meth c nL uc us Q (sL h ci a k v) (pc + 3) L st) : PW E p l e R s m args below meth c nL uc us Q h pc L (.long v :: .ref a :: st) := fun H locs ls rl hS hl => by
  obtain ⟨q, host, hq, hkq, hlink⟩ := F
  obtain ⟨A0, hA0⟩ := X.2.2.2.2.2.2.1.1
  have hlink := va_Nw.use (A := args) rfl (va_Nw.warmF X.2.2.2.2.2.1 (va_tabs rfl rfl (hA0 _ hlink) : va_Nw _ E.2.2.2))
  have hsame : ∀ x, s.fieldFound? (q.2.1 k).1 (q.2.1 k).2.1 (q.2.1 k).2.2.1 = some x → s.fieldFound? (q.2.1 k).1 (q.2.1 k).2.1 (q.2.1 k).2.2.1 = some x := fun _ h => h
  have hts : ∀ w ∈ Tall, w.before args s = true := fun w hw => X.tb hw
  have hin := pcl_in ci q hq
  have hap := va_apart (own := own) hts hin (pft ci) (pcl_ok ci q hq).1 (pcl_ok ci q hq).2 X.K hq
  obtain ⟨j, h1, h2⟩ := pws_obj (E := E) rl hk hc
  obtain ⟨r, hr, cell, q1, q2, q3, q4⟩ := rl.2.2.2.1 j _ h2
  have hr : r = q := Option.some.inj (hr.symm.trans hq)
  subst hr
  obtain ⟨hS0, hfc, kC, hkC, hkind⟩ := X.K.1 ci _ hq
  obtain ⟨cf, kf, fi, f, hi, hsl⟩ := hS0 k hkq
  have hlay := hts _ (hin _ (u_in_lay hkq))
  unfold u_lay at hlay
  have hst := (u_facts hfc hkC (u_lays hts hin hkq) hi).1
  have hdsc := (pcl_ok ci r hq).1 k hkq
  rw [if_neg (by rw [hfin r hq]; decide)] at hlay
  have h6 := u_store hfc hkC hkind hlay hi hdsc hn hf
  refine W.eq (g2 := F0 m pc ls ((.long v) :: .ref (ad E a) :: st.map (av E))) (congrArg (fun z => F0 m pc ls (z :: .ref (ad E a) :: st.map (av E))) (rfl)) ?_
  refine va_WputK X.1 X.2.1 (f := f) X.2.2.2.1 hlink (hsame _ hi) hst (by rw [q2]; exact h6) q1 q3 (by rw [hsl]; exact k2_hasslot (q4 k hkq)) rfl rfl hd fun H' e1 e2 e3 => ?_
  rw [hsl] at e1 ⊢
  have hpa := rl.pAt h1
  refine kk H' _ ls (rl.put (h' := sL h ci a k v) h1 (pput_at (h := h) (s := s) hq hkq hk hc ((pfv_L ht).trans (by unfold hL sL; simp)) (fun j hj => pfv_eq (by unfold hI sL; first | rfl | simp [hj]) (by unfold hR sL; first | rfl | simp [hj]) (by unfold hL sL; first | rfl | simp [hj])) hap q2 q3 q4 e1) e2 e3 (fun b hb => pce_eq rfl rfl (fun j => by unfold hI sL; first | rfl | simp [hb]) (fun j => by unfold hR sL; first | rfl | simp [hb]) (fun j => by unfold hL sL; first | rfl | simp [hb]) (fun j => rfl)) rfl rfl rfl rfl) (hS.put e2 e3 hpa) hl
theorem p_putLf (X : Cx E p l e R s m args below meth c own cc nL ret) {idx ci k a : Nat} {v : Int64} (F : FL own idx ci k) (ht : ptk ci k = 2) (hc : ci < 19) (hfin : ∀ q, pcl[ci]? = some q → (q.2.1 k).2.2.2 = true ∧ (q.2.1 k).1 = own) (hin2 : meth.name = "<init>") (hn : narrow (pft ci k) (.long v) = (.long v)) (hf : fits (pft ci k) (.long v) = true) (hd : decode cc pc = .ok (.putfield idx, 3)) (hk : hK h a = ci) (kk : PW E p l e R s m args below meth c nL uc us Q (sL h ci a k v) (pc + 3) L st) : PW E p l e R s m args below meth c nL uc us Q h pc L (.long v :: .ref a :: st) := fun H locs ls rl hS hl => by
  obtain ⟨q, ref, hq, hkq, hlink, hsame⟩ := F
  have hlink := X.tb hlink
  have hsame := FL.same X hsame
  have hts : ∀ w ∈ Tall, w.before args s = true := fun w hw => X.tb hw
  have hin := pcl_in ci q hq
  have hap := va_apart (own := own) hts hin (pft ci) (pcl_ok ci q hq).1 (pcl_ok ci q hq).2 X.K hq
  obtain ⟨j, h1, h2⟩ := pws_obj (E := E) rl hk hc
  obtain ⟨r, hr, cell, q1, q2, q3, q4⟩ := rl.2.2.2.1 j _ h2
  have hr : r = q := Option.some.inj (hr.symm.trans hq)
  subst hr
  obtain ⟨hS0, hfc, kC, hkC, hkind⟩ := X.K.1 ci _ hq
  obtain ⟨cf, kf, fi, f, hi, hsl⟩ := hS0 k hkq
  have hlay := hts _ (hin _ (u_in_lay hkq))
  unfold u_lay at hlay
  have hst := (u_facts hfc hkC (u_lays hts hin hkq) hi).1
  have hdsc := (pcl_ok ci r hq).1 k hkq
  rw [if_pos (hfin r hq).1] at hlay
  have hcf : m.cls = cf := by
    obtain ⟨_, _, c', _, _, _, -, -, hf', -, -, -, hown2, -⟩ := Cond.laysFinal_spec hlay
    have e1 : c' = cf := by have := hi.symm.trans hf'; simp at this; exact this.1.symm
    rw [(hfin r hq).2] at hown2
    rw [← e1]; exact Option.some.inj (X.2.2.2.1.symm.trans hown2)
  have h6 := u_fits hfc hkC hkind (Or.inr hlay) hi hdsc hn hf
  refine W.eq (g2 := F0 m pc ls ((.long v) :: .ref (ad E a) :: st.map (av E))) (congrArg (fun z => F0 m pc ls (z :: .ref (ad E a) :: st.map (av E))) (rfl)) ?_
  refine W.putFinK X.1 X.2.1 X.2.2.2.1 hlink (hsame _ hi) hst hcf hin2 (by rw [q2]; exact h6) q1 q3 (by rw [hsl]; exact k2_hasslot (q4 k hkq)) rfl rfl hd fun H' e1 e2 e3 => ?_
  rw [hsl] at e1 ⊢
  have hpa := rl.pAt h1
  refine kk H' _ ls (rl.put (h' := sL h ci a k v) h1 (pput_at (h := h) (s := s) hq hkq hk hc ((pfv_L ht).trans (by unfold hL sL; simp)) (fun j hj => pfv_eq (by unfold hI sL; first | rfl | simp [hj]) (by unfold hR sL; first | rfl | simp [hj]) (by unfold hL sL; first | rfl | simp [hj])) hap q2 q3 q4 e1) e2 e3 (fun b hb => pce_eq rfl rfl (fun j => by unfold hI sL; first | rfl | simp [hb]) (fun j => by unfold hR sL; first | rfl | simp [hb]) (fun j => by unfold hL sL; first | rfl | simp [hb]) (fun j => rfl)) rfl rfl rfl rfl) (hS.put e2 e3 hpa) hl
end PF
