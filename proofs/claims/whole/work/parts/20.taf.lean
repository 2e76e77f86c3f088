/-! test: words (by program: wip/whole/gen2.py) -/
theorem tw_2125 : Jvm.Cond.methodLink "WordFinderModel" (144 : Nat) ({ cls := "WordFinderModel", name := "letters", desc := "(I)I" } : Jvm.MethodName) ∈ Tall := Tall_of (List.mem_of_getElem? (i := 2125) (by decide +kernel)) (by decide +kernel)
theorem tw_117 : Jvm.Cond.initialized "WordFinderModel" ∈ Tall := Tall_of (List.mem_of_getElem? (i := 117) (by decide +kernel)) (by decide +kernel)
theorem tw_2127 : Jvm.Cond.code ({ cls := "WordFinderModel", name := "letters", desc := "(I)I" } : Jvm.MethodName) prog_14_method_5_code (3 : Nat) (Option.some Jvm.ClassFile.FieldType.int) ∈ Tall := Tall_of (List.mem_of_getElem? (i := 2127) (by decide +kernel)) (by decide +kernel)
theorem tw_2126 : Jvm.Cond.static ({ cls := "WordFinderModel", name := "letters", desc := "(I)I" } : Jvm.MethodName) ∈ Tall := Tall_of (List.mem_of_getElem? (i := 2126) (by decide +kernel)) (by decide +kernel)
theorem ml_X12_144 : MLS RX12 144 yX12_letters cX12_letters 3 (some .int) 1 := ⟨⟨⟨by decide, by decide⟩, by decide +kernel, tw_2125, tw_117, tw_2127, by decide⟩, tw_2126⟩
theorem tw_2099 : Jvm.Cond.methodLink "WordFinderModel" (148 : Nat) ({ cls := "WordFinderModel", name := "in", desc := "(III)Z" } : Jvm.MethodName) ∈ Tall := Tall_of (List.mem_of_getElem? (i := 2099) (by decide +kernel)) (by decide +kernel)
theorem tw_2101 : Jvm.Cond.code ({ cls := "WordFinderModel", name := "in", desc := "(III)Z" } : Jvm.MethodName) prog_14_method_2_code (3 : Nat) (Option.some Jvm.ClassFile.FieldType.boolean) ∈ Tall := Tall_of (List.mem_of_getElem? (i := 2101) (by decide +kernel)) (by decide +kernel)
theorem tw_2100 : Jvm.Cond.static ({ cls := "WordFinderModel", name := "in", desc := "(III)Z" } : Jvm.MethodName) ∈ Tall := Tall_of (List.mem_of_getElem? (i := 2100) (by decide +kernel)) (by decide +kernel)
theorem ml_X12_148 : MLS RX12 148 yX12_in cX12_in 3 (some .boolean) 3 := ⟨⟨⟨by decide, by decide⟩, by decide +kernel, tw_2099, tw_117, tw_2101, by decide⟩, tw_2100⟩
theorem tw_478 : Jvm.Cond.fieldLink "WordFinder$Word" (23 : Nat) "WordFinder$Word" "POWERS" "[I" ∈ Tall := Tall_of (List.mem_of_getElem? (i := 478) (by decide +kernel)) (by decide +kernel)
theorem tw_480 : Jvm.Cond.methodLink "WordFinder$Word" (27 : Nat) ({ cls := "WordFinder$Word", name := "lettersOf", desc := "(I)I" } : Jvm.MethodName) ∈ Tall := Tall_of (List.mem_of_getElem? (i := 480) (by decide +kernel)) (by decide +kernel)
theorem tw_124 : Jvm.Cond.initialized "WordFinder$Word" ∈ Tall := Tall_of (List.mem_of_getElem? (i := 124) (by decide +kernel)) (by decide +kernel)
theorem tw_482 : Jvm.Cond.code ({ cls := "WordFinder$Word", name := "lettersOf", desc := "(I)I" } : Jvm.MethodName) prog_12_method_3_code (2 : Nat) (Option.some Jvm.ClassFile.FieldType.int) ∈ Tall := Tall_of (List.mem_of_getElem? (i := 482) (by decide +kernel)) (by decide +kernel)
theorem tw_481 : Jvm.Cond.static ({ cls := "WordFinder$Word", name := "lettersOf", desc := "(I)I" } : Jvm.MethodName) ∈ Tall := Tall_of (List.mem_of_getElem? (i := 481) (by decide +kernel)) (by decide +kernel)
theorem ml_X10_27 : MLS RX10 27 yX10_lettersOf cX10_lettersOf 2 (some .int) 1 := ⟨⟨⟨by decide, by decide⟩, by decide +kernel, tw_480, tw_124, tw_482, by decide⟩, tw_481⟩
theorem tw_272 : Jvm.Cond.fieldLink "WordFinder$TextSet" (15 : Nat) "WordFinder$TextSet" "high" "J" ∈ Tall := Tall_of (List.mem_of_getElem? (i := 272) (by decide +kernel)) (by decide +kernel)
theorem fl_X9_15 : FL RX9 15 9 1 := ⟨(RX9, TX9, 2), "WordFinder$TextSet", rfl, by decide, tw_272, Or.inl rfl⟩
theorem tw_271 : Jvm.Cond.fieldLink "WordFinder$TextSet" (11 : Nat) "WordFinder$TextSet" "low" "J" ∈ Tall := Tall_of (List.mem_of_getElem? (i := 271) (by decide +kernel)) (by decide +kernel)
theorem fl_X9_11 : FL RX9 11 9 0 := ⟨(RX9, TX9, 2), "WordFinder$TextSet", rfl, by decide, tw_271, Or.inl rfl⟩
