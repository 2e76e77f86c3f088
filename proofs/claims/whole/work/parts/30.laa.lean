/-! THE START: what the Statement gives (by program: wip/whole/mkstart.py) -/
abbrev sFl : List Cond := flatC narrow_1
theorem sGv {b : Addr} {s : State} (hgv : (Jvm.Cond.and given_1 narrow_1).before #[Value.ref b] s = true) {w : Cond} (hw : w ∈ sFl) : w.before #[Value.ref b] s = true := flat_of_before (Jvm.Cond.and given_1 narrow_1) hgv w (List.mem_append_right _ hw)
theorem sa_P : Cond.arrayOf (Term.static "WordFinder$Word" "POWERS" "[I") .int ∈ sFl := List.mem_of_getElem? (i := 8) (by decide +kernel)
theorem sl_P : Cond.eq (.length (Term.static "WordFinder$Word" "POWERS" "[I")) (.int 7) ∈ sFl := List.mem_of_getElem? (i := 9) (by decide +kernel)
theorem se_P : (sFl.drop 10).take 7 = (List.range 7).map (fun j => Cond.eq (.elem (Term.static "WordFinder$Word" "POWERS" "[I") (.int (Int32.ofNat j))) (.int (pwv j))) := by decide +kernel
theorem sa_W : Cond.arrayOf (Term.static "WordFinder$Node" "NO_WORDS" "[I") .int ∈ sFl := List.mem_of_getElem? (i := 235) (by decide +kernel)
theorem sl_W : Cond.eq (.length (Term.static "WordFinder$Node" "NO_WORDS" "[I")) (.int 0) ∈ sFl := List.mem_of_getElem? (i := 236) (by decide +kernel)
theorem sa_E : Cond.arrayOf (Term.static "java/util/ArrayList" "DEFAULTCAPACITY_EMPTY_ELEMENTDATA" "[Ljava/lang/Object;") (.object "java/lang/Object") ∈ sFl := List.mem_of_getElem? (i := 3) (by decide +kernel)
theorem sl_E : Cond.eq (.length (Term.static "java/util/ArrayList" "DEFAULTCAPACITY_EMPTY_ELEMENTDATA" "[Ljava/lang/Object;")) (.int 0) ∈ sFl := List.mem_of_getElem? (i := 5) (by decide +kernel)
theorem sa_O : Cond.arrayOf (Term.static "java/lang/Integer" "DigitOnes" "[B") .byte ∈ sFl := List.mem_of_getElem? (i := 24) (by decide +kernel)
theorem sl_O : Cond.eq (.length (Term.static "java/lang/Integer" "DigitOnes" "[B")) (.int 100) ∈ sFl := List.mem_of_getElem? (i := 25) (by decide +kernel)
theorem se_O : (sFl.drop 26).take 100 = (List.range 100).map (fun j => Cond.eq (.elem (Term.static "java/lang/Integer" "DigitOnes" "[B") (.int (Int32.ofNat j))) (.int (nI (48 + j % 10)))) := by decide +kernel
theorem sa_T : Cond.arrayOf (Term.static "java/lang/Integer" "DigitTens" "[B") .byte ∈ sFl := List.mem_of_getElem? (i := 127) (by decide +kernel)
theorem sl_T : Cond.eq (.length (Term.static "java/lang/Integer" "DigitTens" "[B")) (.int 100) ∈ sFl := List.mem_of_getElem? (i := 128) (by decide +kernel)
theorem se_T : (sFl.drop 129).take 100 = (List.range 100).map (fun j => Cond.eq (.elem (Term.static "java/lang/Integer" "DigitTens" "[B") (.int (Int32.ofNat j))) (.int (nI (48 + j / 10)))) := by decide +kernel
theorem s_el {L : List Cond} {a N : Nat} {f : Nat → Cond} (h : (L.drop a).take N = (List.range N).map f) {j : Nat} (hj : j < N) : f j ∈ L := by
  have : f j ∈ (L.drop a).take N := by rw [h]; exact List.mem_map.mpr ⟨j, List.mem_range.mpr hj, rfl⟩
  exact List.mem_of_mem_drop (List.mem_of_mem_take this)
theorem s_arr {A0 : Array Value} {s : State} {A : Nat → Prop} (hA : ∀ a : Nat, a < s.heap.size → ¬ A a) {C n d : String} {ty : FieldType} {N : Nat} {f : Nat → Value} (hN : N < 2 ^ 31) (h1 : (Cond.laysStatic C n d).before A0 s = true) (h2 : (Cond.initialized C).before A0 s = true) (h3 : (Cond.arrayOf (.static C n d) ty).before A0 s = true) (h4 : (Term.length (.static C n d)).eval A0 s none [] s = some (.int (Int32.ofNat N))) (h5 : ∀ j : Nat, j < N → (Term.elem (.static C n d) (.int (Int32.ofNat j))).eval A0 s none [] s = some (f j)) : ∃ t : Nat, t < s.heap.size ∧ va_Z C n d (.ref t) A s s.heap ∧ va_T ty t N f A s s.heap := by
  obtain ⟨t, ht, hT⟩ := va_Tof hN h3 h4 h5 hA
  obtain ⟨cell, hc, -⟩ := id hT
  exact ⟨t, (Array.getElem?_eq_some_iff.mp hc).1, va_Zref h1 h2 ht hA, hT⟩
theorem sx_P : Cond.laysStatic "WordFinder$Word" "POWERS" "[I" ∈ lw_tbl := List.mem_of_getElem? (i := 479) (by decide +kernel)
theorem sy_P : Cond.initialized "WordFinder$Word" ∈ lw_tbl := List.mem_of_getElem? (i := 124) (by decide +kernel)
theorem sx_W : Cond.laysStatic "WordFinder$Node" "NO_WORDS" "[I" ∈ lw_tbl := List.mem_of_getElem? (i := 1549) (by decide +kernel)
theorem sy_W : Cond.initialized "WordFinder$Node" ∈ lw_tbl := List.mem_of_getElem? (i := 135) (by decide +kernel)
theorem sx_E : Cond.laysStatic "java/util/ArrayList" "DEFAULTCAPACITY_EMPTY_ELEMENTDATA" "[Ljava/lang/Object;" ∈ lw_tbl := List.mem_of_getElem? (i := 221) (by decide +kernel)
theorem sy_E : Cond.initialized "java/util/ArrayList" ∈ lw_tbl := List.mem_of_getElem? (i := 106) (by decide +kernel)
theorem sx_O : Cond.laysStatic "java/lang/Integer" "DigitOnes" "[B" ∈ lw_tbl := List.mem_of_getElem? (i := 718) (by decide +kernel)
theorem sy_O : Cond.initialized "java/lang/Integer" ∈ lw_tbl := List.mem_of_getElem? (i := 133) (by decide +kernel)
theorem sx_T : Cond.laysStatic "java/lang/Integer" "DigitTens" "[B" ∈ lw_tbl := List.mem_of_getElem? (i := 720) (by decide +kernel)
theorem sy_T : Cond.initialized "java/lang/Integer" ∈ lw_tbl := List.mem_of_getElem? (i := 133) (by decide +kernel)
theorem sx_C : Cond.laysStatic "java/lang/String" "COMPACT_STRINGS" "Z" ∈ lw_tbl := List.mem_of_getElem? (i := 367) (by decide +kernel)
theorem sy_C : Cond.initialized "java/lang/String" ∈ lw_tbl := List.mem_of_getElem? (i := 115) (by decide +kernel)
theorem sv_C : Cond.eq (.static "java/lang/String" "COMPACT_STRINGS" "Z") (.int 1) ∈ sFl := List.mem_of_getElem? (i := 6) (by decide +kernel)
theorem sx_F : Cond.laysStatic "jdk/internal/util/Preconditions" "SIOOBE_FORMATTER" "Ljava/util/function/BiFunction;" ∈ lw_tbl := List.mem_of_getElem? (i := 648) (by decide +kernel)
theorem sy_F : Cond.initialized "jdk/internal/util/Preconditions" ∈ lw_tbl := List.mem_of_getElem? (i := 126) (by decide +kernel)
theorem sv_F : Cond.isRef (.static "jdk/internal/util/Preconditions" "SIOOBE_FORMATTER" "Ljava/util/function/BiFunction;") ∈ sFl := List.mem_of_getElem? (i := 19) (by decide +kernel)
theorem sx_U : Cond.laysStatic "java/lang/Throwable" "UNASSIGNED_STACK" "[Ljava/lang/StackTraceElement;" ∈ lw_tbl := List.mem_of_getElem? (i := 562) (by decide +kernel)
theorem sy_U : Cond.initialized "java/lang/Throwable" ∈ lw_tbl := List.mem_of_getElem? (i := 118) (by decide +kernel)
theorem sv_U : Cond.isRef (.static "java/lang/Throwable" "UNASSIGNED_STACK" "[Ljava/lang/StackTraceElement;") ∈ sFl := List.mem_of_getElem? (i := 17) (by decide +kernel)
theorem sx_S : Cond.laysStatic "java/lang/Throwable" "SUPPRESSED_SENTINEL" "Ljava/util/List;" ∈ lw_tbl := List.mem_of_getElem? (i := 564) (by decide +kernel)
theorem sy_S : Cond.initialized "java/lang/Throwable" ∈ lw_tbl := List.mem_of_getElem? (i := 118) (by decide +kernel)
theorem sv_S : Cond.isRef (.static "java/lang/Throwable" "SUPPRESSED_SENTINEL" "Ljava/util/List;") ∈ sFl := List.mem_of_getElem? (i := 18) (by decide +kernel)
theorem sv_M : Cond.isRef (.mirror "[Ljava/lang/Object;") ∈ sFl := List.mem_of_getElem? (i := 392) (by decide +kernel)
theorem sn_01 : Cond.not (.castable "java/lang/IllegalStateException" "java/lang/IllegalArgumentException") ∈ sFl := List.mem_of_getElem? (i := 272) (by decide +kernel)
theorem sn_02 : Cond.not (.castable "java/lang/IllegalStateException" "java/lang/IndexOutOfBoundsException") ∈ sFl := List.mem_of_getElem? (i := 294) (by decide +kernel)
theorem sn_03 : Cond.not (.castable "java/lang/IllegalStateException" "java/util/NoSuchElementException") ∈ sFl := List.mem_of_getElem? (i := 314) (by decide +kernel)
theorem sn_10 : Cond.not (.castable "java/lang/IllegalArgumentException" "java/lang/IllegalStateException") ∈ sFl := List.mem_of_getElem? (i := 250) (by decide +kernel)
theorem sn_12 : Cond.not (.castable "java/lang/IllegalArgumentException" "java/lang/IndexOutOfBoundsException") ∈ sFl := List.mem_of_getElem? (i := 295) (by decide +kernel)
theorem sn_13 : Cond.not (.castable "java/lang/IllegalArgumentException" "java/util/NoSuchElementException") ∈ sFl := List.mem_of_getElem? (i := 315) (by decide +kernel)
theorem sn_20 : Cond.not (.castable "java/lang/IndexOutOfBoundsException" "java/lang/IllegalStateException") ∈ sFl := List.mem_of_getElem? (i := 252) (by decide +kernel)
theorem sn_21 : Cond.not (.castable "java/lang/IndexOutOfBoundsException" "java/lang/IllegalArgumentException") ∈ sFl := List.mem_of_getElem? (i := 274) (by decide +kernel)
theorem sn_23 : Cond.not (.castable "java/lang/IndexOutOfBoundsException" "java/util/NoSuchElementException") ∈ sFl := List.mem_of_getElem? (i := 317) (by decide +kernel)
theorem sn_30 : Cond.not (.castable "java/util/NoSuchElementException" "java/lang/IllegalStateException") ∈ sFl := List.mem_of_getElem? (i := 254) (by decide +kernel)
theorem sn_31 : Cond.not (.castable "java/util/NoSuchElementException" "java/lang/IllegalArgumentException") ∈ sFl := List.mem_of_getElem? (i := 276) (by decide +kernel)
theorem sn_32 : Cond.not (.castable "java/util/NoSuchElementException" "java/lang/IndexOutOfBoundsException") ∈ sFl := List.mem_of_getElem? (i := 298) (by decide +kernel)
theorem s_Gn {E : PE} {b : Addr} (hgv : (Jvm.Cond.and given_1 narrow_1).before #[Value.ref b] E.2.2.2 = true) : Gn E := by
  intro i j hi hj hne
  match i, j, hi, hj, hne with
  | 0, 0, _, _, h => exact absurd rfl h
  | 0, 1, _, _, _ => exact va_Nc.of (sGv hgv sn_01)
  | 0, 2, _, _, _ => exact va_Nc.of (sGv hgv sn_02)
  | 0, 3, _, _, _ => exact va_Nc.of (sGv hgv sn_03)
  | 1, 0, _, _, _ => exact va_Nc.of (sGv hgv sn_10)
  | 1, 1, _, _, h => exact absurd rfl h
  | 1, 2, _, _, _ => exact va_Nc.of (sGv hgv sn_12)
  | 1, 3, _, _, _ => exact va_Nc.of (sGv hgv sn_13)
  | 2, 0, _, _, _ => exact va_Nc.of (sGv hgv sn_20)
  | 2, 1, _, _, _ => exact va_Nc.of (sGv hgv sn_21)
  | 2, 2, _, _, h => exact absurd rfl h
  | 2, 3, _, _, _ => exact va_Nc.of (sGv hgv sn_23)
  | 3, 0, _, _, _ => exact va_Nc.of (sGv hgv sn_30)
  | 3, 1, _, _, _ => exact va_Nc.of (sGv hgv sn_31)
  | 3, 2, _, _, _ => exact va_Nc.of (sGv hgv sn_32)
  | 3, 3, _, _, h => exact absurd rfl h
  | i + 4, _, h, _, _ => omega
  | _, j + 4, _, h, _ => omega
theorem iw_0 : ∀ w ∈ u_ws RX0 TX0 5, w ∈ lw_tbl := by decide +kernel
theorem ii_0 : Cond.instantiable RX0 5 ∈ lw_tbl := List.mem_of_getElem? (i := 322) (by decide +kernel)
theorem iw_1 : ∀ w ∈ u_ws RX1 TX1 5, w ∈ lw_tbl := by decide +kernel
theorem ii_1 : Cond.instantiable RX1 5 ∈ lw_tbl := List.mem_of_getElem? (i := 279) (by decide +kernel)
theorem iw_2 : ∀ w ∈ u_ws RX2 TX2 4, w ∈ lw_tbl := by decide +kernel
theorem ii_2 : Cond.instantiable RX2 4 ∈ lw_tbl := List.mem_of_getElem? (i := 302) (by decide +kernel)
theorem iw_3 : ∀ w ∈ u_ws RX3 TX3 2, w ∈ lw_tbl := by decide +kernel
theorem ii_3 : Cond.instantiable RX3 2 ∈ lw_tbl := List.mem_of_getElem? (i := 203) (by decide +kernel)
theorem iw_4 : ∀ w ∈ u_ws RX4 TX4 4, w ∈ lw_tbl := by decide +kernel
theorem ii_4 : Cond.instantiable RX4 4 ∈ lw_tbl := List.mem_of_getElem? (i := 933) (by decide +kernel)
theorem iw_5 : ∀ w ∈ u_ws RX5 TX5 4, w ∈ lw_tbl := by decide +kernel
theorem ii_5 : Cond.instantiable RX5 4 ∈ lw_tbl := List.mem_of_getElem? (i := 242) (by decide +kernel)
theorem iw_6 : ∀ w ∈ u_ws RX6 TX6 8, w ∈ lw_tbl := by decide +kernel
theorem ii_6 : Cond.instantiable RX6 8 ∈ lw_tbl := List.mem_of_getElem? (i := 170) (by decide +kernel)
theorem iw_7 : ∀ w ∈ u_ws RX7 TX7 3, w ∈ lw_tbl := by decide +kernel
theorem ii_7 : Cond.instantiable RX7 3 ∈ lw_tbl := List.mem_of_getElem? (i := 149) (by decide +kernel)
theorem iw_8 : ∀ w ∈ u_ws RX8 TX8 2, w ∈ lw_tbl := by decide +kernel
theorem ii_8 : Cond.instantiable RX8 2 ∈ lw_tbl := List.mem_of_getElem? (i := 328) (by decide +kernel)
theorem iw_9 : ∀ w ∈ u_ws RX9 TX9 2, w ∈ lw_tbl := by decide +kernel
theorem ii_9 : Cond.instantiable RX9 2 ∈ lw_tbl := List.mem_of_getElem? (i := 266) (by decide +kernel)
theorem iw_10 : ∀ w ∈ u_ws RX10 TX10 3, w ∈ lw_tbl := by decide +kernel
theorem ii_10 : Cond.instantiable RX10 3 ∈ lw_tbl := List.mem_of_getElem? (i := 506) (by decide +kernel)
theorem iw_11 : ∀ w ∈ u_ws RX11 TX11 11, w ∈ lw_tbl := by decide +kernel
theorem ii_11 : Cond.instantiable RX11 11 ∈ lw_tbl := List.mem_of_getElem? (i := 141) (by decide +kernel)
theorem iw_12 : ∀ w ∈ u_ws RX12 TX12 60, w ∈ lw_tbl := by decide +kernel
theorem ii_12 : Cond.instantiable RX12 60 ∈ lw_tbl := List.mem_of_getElem? (i := 1878) (by decide +kernel)
theorem iw_13 : ∀ w ∈ u_ws RJ4 TJ4 4, w ∈ lw_tbl := by decide +kernel
theorem ii_13 : Cond.instantiable RJ4 4 ∈ lw_tbl := List.mem_of_getElem? (i := 358) (by decide +kernel)
theorem iw_14 : ∀ w ∈ u_ws RJx4a65c TJx4a65c 3, w ∈ lw_tbl := by decide +kernel
theorem ii_14 : Cond.instantiable RJx4a65c 3 ∈ lw_tbl := List.mem_of_getElem? (i := 209) (by decide +kernel)
theorem s_cls {s : State} {A0 : Array Value} (hts : ∀ w ∈ lw_tbl, w.before A0 s = true) : ∃ D : va_G, ∀ (k : Nat) (q : vw_C), pcl[k]? = some q → u_Kn s q.1 q.2.1 q.2.2 (D.1 k) (D.2 k) := by
  have hk : ∀ (k : Nat) (q : vw_C), pcl[k]? = some q → ∃ (c : ClassId) (i : Nat → Nat), u_Kn s q.1 q.2.1 q.2.2 c i := by
    intro k q hq
    match k, hq with
    | 0, hq => cases hq; exact u_known hts iw_0 (hts _ ii_0)
    | 1, hq => cases hq; exact u_known hts iw_1 (hts _ ii_1)
    | 2, hq => cases hq; exact u_known hts iw_2 (hts _ ii_2)
    | 3, hq => cases hq; exact u_known hts iw_3 (hts _ ii_3)
    | 4, hq => cases hq; exact u_known hts iw_4 (hts _ ii_4)
    | 5, hq => cases hq; exact u_known hts iw_5 (hts _ ii_5)
    | 6, hq => cases hq; exact u_known hts iw_6 (hts _ ii_6)
    | 7, hq => cases hq; exact u_known hts iw_7 (hts _ ii_7)
    | 8, hq => cases hq; exact u_known hts iw_8 (hts _ ii_8)
    | 9, hq => cases hq; exact u_known hts iw_9 (hts _ ii_9)
    | 10, hq => cases hq; exact u_known hts iw_10 (hts _ ii_10)
    | 11, hq => cases hq; exact u_known hts iw_11 (hts _ ii_11)
    | 12, hq => cases hq; exact u_known hts iw_12 (hts _ ii_12)
    | 13, hq => cases hq; exact u_known hts iw_13 (hts _ ii_13)
    | 14, hq => cases hq; exact u_known hts iw_14 (hts _ ii_14)
    | k + 15, hq => simp [pcl] at hq
  have h2 : ∀ k : Nat, ∃ p : ClassId × (Nat → Nat), ∀ q, pcl[k]? = some q → u_Kn s q.1 q.2.1 q.2.2 p.1 p.2 := by
    intro k
    cases e : pcl[k]? with
    | none => exact ⟨(0, fun _ => 0), fun q hq => by cases hq⟩
    | some q =>
      obtain ⟨c, i, h⟩ := hk k q e
      exact ⟨(c, i), fun q' hq => by cases hq; exact h⟩
  obtain ⟨f, hf⟩ := Classical.axiomOfChoice h2
  exact ⟨(fun k => (f k).1, fun k => (f k).2), hf⟩
theorem ia_0 : Cond.arrayClass .int ∈ lw_tbl := List.mem_of_getElem? (i := 168) (by decide +kernel)
theorem ia_1 : Cond.arrayClass .boolean ∈ lw_tbl := List.mem_of_getElem? (i := 2064) (by decide +kernel)
theorem ia_2 : Cond.arrayClass .byte ∈ lw_tbl := List.mem_of_getElem? (i := 389) (by decide +kernel)
theorem ia_3 : Cond.arrayClass .long ∈ lw_tbl := List.mem_of_getElem? (i := 2560) (by decide +kernel)
theorem ia_4 : Cond.arrayClass .double ∈ lw_tbl := List.mem_of_getElem? (i := 2561) (by decide +kernel)
theorem ia_5 : Cond.arrayOver (.object "WordFinder$Node") ∈ lw_tbl := List.mem_of_getElem? (i := 263) (by decide +kernel)
theorem ia_6 : Cond.arrayOver (.object "WordFinder$Text") ∈ lw_tbl := List.mem_of_getElem? (i := 201) (by decide +kernel)
theorem ia_7 : Cond.arrayOver (.object "WordFinder$TextSet") ∈ lw_tbl := List.mem_of_getElem? (i := 265) (by decide +kernel)
theorem ia_8 : Cond.arrayOver (.object "java/lang/Object") ∈ lw_tbl := List.mem_of_getElem? (i := 879) (by decide +kernel)
theorem s_prim {s : State} {A0 : Array Value} {t : FieldType} (h : (Cond.arrayClass t).before A0 s = true) : ∃ c : ClassId, ArrOfT s c t ∧ s.vm.findClass ("[" ++ t.toString) = some c := by
  obtain ⟨c, k, comp, h1, h2, h3⟩ := Cond.arrayClass_spec h
  exact ⟨c, fun n z => ⟨(fun k h => by cases h), k, h2, comp, h3⟩, h1⟩
theorem s_obj {s : State} {A0 : Array Value} {n : String} (h : (Cond.arrayOver (.object n)).before A0 s = true) : ∃ c : ClassId, ArrOfT s c (.object n) ∧ va_RA s c (.object n) := by
  obtain ⟨comp, c, k, h1, -, h3, h4, h5⟩ := Cond.arrayOver_spec h
  exact ⟨c, fun N z => ⟨(fun k h => by cases h), k, h3, comp, h4⟩, k, comp, h3, h4, h1, h5⟩
theorem s_arrs {s : State} {A0 : Array Value} (hts : ∀ w ∈ lw_tbl, w.before A0 s = true) : ∃ f : Nat → ClassId, ∀ k, k < 9 → ArrOfT s (f (20 + k)) (pat (20 + k)) ∧ va_RA s (f (20 + k)) (pat (20 + k)) := by
  have hk : ∀ k : Nat, ∃ c : ClassId, k < 9 → ArrOfT s c (pat (20 + k)) ∧ va_RA s c (pat (20 + k)) := by
    intro k
    match k with
    | 0 => obtain ⟨c, h1, h2⟩ := s_prim (hts _ ia_0); exact ⟨c, fun _ => ⟨h1, h2⟩⟩
    | 1 => obtain ⟨c, h1, h2⟩ := s_prim (hts _ ia_1); exact ⟨c, fun _ => ⟨h1, h2⟩⟩
    | 2 => obtain ⟨c, h1, h2⟩ := s_prim (hts _ ia_2); exact ⟨c, fun _ => ⟨h1, h2⟩⟩
    | 3 => obtain ⟨c, h1, h2⟩ := s_prim (hts _ ia_3); exact ⟨c, fun _ => ⟨h1, h2⟩⟩
    | 4 => obtain ⟨c, h1, h2⟩ := s_prim (hts _ ia_4); exact ⟨c, fun _ => ⟨h1, h2⟩⟩
    | 5 => obtain ⟨c, h1, h2⟩ := s_obj (hts _ ia_5); exact ⟨c, fun _ => ⟨h1, h2⟩⟩
    | 6 => obtain ⟨c, h1, h2⟩ := s_obj (hts _ ia_6); exact ⟨c, fun _ => ⟨h1, h2⟩⟩
    | 7 => obtain ⟨c, h1, h2⟩ := s_obj (hts _ ia_7); exact ⟨c, fun _ => ⟨h1, h2⟩⟩
    | 8 => obtain ⟨c, h1, h2⟩ := s_obj (hts _ ia_8); exact ⟨c, fun _ => ⟨h1, h2⟩⟩
    | k + 9 => exact ⟨0, fun h => by omega⟩
  obtain ⟨f, hf⟩ := Classical.axiomOfChoice hk
  exact ⟨fun j => f (j - 20), fun k h => by
    show ArrOfT s (f (20 + k - 20)) _ ∧ va_RA s (f (20 + k - 20)) _
    rw [show 20 + k - 20 = k by omega]
    exact hf k h⟩
/-- the pure heap at the start -/
def h0 : PH := (fun _ _ _ => 0, fun _ _ _ => none, fun _ _ _ => 0, fun _ _ => 0, fun a => if a = 3 then 28 else 19, fun _ => 0, [], 10, 0, 0)
theorem s_E {l : Launch} (hflags : l.flags = flags0) {s : State} {b N : Nat} {xs : Nat → Int32} (hX : va_X b N xs s s.heap) (hbl : b < s.heap.size) (hts : ∀ w ∈ lw_tbl, w.before #[Value.ref b] s = true) (hgv : (Jvm.Cond.and given_1 narrow_1).before #[Value.ref b] s = true) :
    ∃ E : PE, E.2.2.2 = s ∧ E.1 0 = b ∧ Gs E l ∧ Gn E ∧ LX E s N xs ∧ Rl E h0 s.heap := by
  have hA : ∀ a : Nat, a < s.heap.size → ¬ (fun q : Nat => s.heap.size ≤ q) a := fun a h => Nat.not_le.mpr h
  obtain ⟨D, hD⟩ := s_cls hts
  obtain ⟨f, hf⟩ := s_arrs hts
  obtain ⟨tP, bP, zP, aP⟩ := s_arr (A := fun q : Nat => s.heap.size ≤ q) (N := 7) (f := fun j => .int (pwv j)) hA (by decide) (hts _ sx_P) (hts _ sy_P) (sGv hgv sa_P) (va_eqt (sGv hgv sl_P)) (fun j hj => va_eqt (sGv hgv (s_el se_P hj)))
  obtain ⟨tW, bW, zW, aW⟩ := s_arr (A := fun q : Nat => s.heap.size ≤ q) (N := 0) (f := fun _ => .int 0) hA (by decide) (hts _ sx_W) (hts _ sy_W) (sGv hgv sa_W) (va_eqt (sGv hgv sl_W)) (fun j hj => absurd hj (Nat.not_lt_zero j))
  obtain ⟨tE, bE, zE, aE⟩ := s_arr (A := fun q : Nat => s.heap.size ≤ q) (N := 0) (f := fun _ => .null) hA (by decide) (hts _ sx_E) (hts _ sy_E) (sGv hgv sa_E) (va_eqt (sGv hgv sl_E)) (fun j hj => absurd hj (Nat.not_lt_zero j))
  obtain ⟨tO, bO, zO, aO⟩ := s_arr (A := fun q : Nat => s.heap.size ≤ q) (N := 100) (f := fun j => .int (nI (48 + j % 10))) hA (by decide) (hts _ sx_O) (hts _ sy_O) (sGv hgv sa_O) (va_eqt (sGv hgv sl_O)) (fun j hj => va_eqt (sGv hgv (s_el se_O hj)))
  obtain ⟨tT, bT, zT, aT⟩ := s_arr (A := fun q : Nat => s.heap.size ≤ q) (N := 100) (f := fun j => .int (nI (48 + j / 10))) hA (by decide) (hts _ sx_T) (hts _ sy_T) (sGv hgv sa_T) (va_eqt (sGv hgv sl_T)) (fun j hj => va_eqt (sGv hgv (s_el se_T hj)))
  obtain ⟨tM, hM⟩ := va_Mi.of (sGv hgv sv_M)
  have hF := va_Zqof (A := fun q : Nat => s.heap.size ≤ q) (hts _ sx_F) (hts _ sy_F) (sGv hgv sv_F) hA
  obtain ⟨tF, vF, hvF, hzF⟩ : ∃ (tF : Nat) (v : Value), (v = .null ∨ v = .ref tF) ∧ va_Z RJ3 "SIOOBE_FORMATTER" "Ljava/util/function/BiFunction;" v (fun q : Nat => s.heap.size ≤ q) s s.heap := by
    rcases hF with h | ⟨t, h⟩
    · exact ⟨0, .null, Or.inl rfl, h⟩
    · exact ⟨t, .ref t, Or.inr rfl, h⟩
  refine ⟨(fun a => match a with | 0 => b | 1 => tP | 2 => tW | 3 => tE | 4 => tO | 5 => tT | 6 => tF | 7 => tM | _ => b, D, f, s), rfl, rfl, ?_, ?_, ?_, ?_⟩
  · refine ⟨⟨_, hts⟩, ⟨hD, fun k q hq => ?_⟩, ?_, bE, trivial, ⟨zP, aP⟩, zW, ⟨zE, aE⟩, va_Zof (hts _ sx_C) (hts _ sy_C) (va_eqt (sGv hgv sv_C)) hA, ⟨zO, aO⟩, ⟨zT, aT⟩, ⟨vF, hvF, hzF⟩, vx_Zqof (hts _ sx_U) (hts _ sy_U) (sGv hgv sv_U) hA, vx_Zqof (hts _ sx_S) (hts _ sy_S) (sGv hgv sv_S) hA, hM⟩
    · rw [List.getElem?_map] at hq
      cases hr : (List.range 9)[k]? with
      | none => rw [hr] at hq; cases hq
      | some j =>
        rw [hr] at hq
        cases hq
        have hj : j < 9 := List.mem_range.mp (List.mem_of_getElem? hr)
        exact hf j hj
    · unfold Launch.stackTraces; rw [hflags]; decide +kernel
  · exact s_Gn (b := b) hgv
  · exact ⟨hX, hbl, Nat.not_le.mpr hbl⟩
  · refine ⟨fun q _ => rfl, rfl, Nat.le_refl _, fun k q hq => ?_, ⟨fun i j p q hp => ?_, fun k q hq => ?_⟩, fun a ha => ?_, fun a ha => ?_, rfl, rfl⟩
    · exact absurd hq (by simp [pws, hC, h0])
    · exact absurd hp (by simp [pws, hC, h0])
    · exact absurd hq (by simp [pws, hC, h0])
    · left
      by_cases e : a = 3
      · exact e
      · exact absurd (show hK h0 a = 19 from if_neg e) ha
    · exact absurd ha (by simp [hC, h0])
