/-! test: words (by program: wip/whole/gen2.py) -/
theorem tw_334 : Jvm.Cond.fieldLink "WordFinder$Text" (15 : Nat) "WordFinder$Text" "count" "I" ∈ Tall := Tall_of (List.mem_of_getElem? (i := 334) (by decide +kernel)) (by decide +kernel)
theorem fl_X8_15 : FL RX8 15 8 1 := ⟨(RX8, TX8, 2), "WordFinder$Text", rfl, by decide, tw_334, Or.inl rfl⟩
theorem tw_333 : Jvm.Cond.fieldLink "WordFinder$Text" (11 : Nat) "WordFinder$Text" "row" "[I" ∈ Tall := Tall_of (List.mem_of_getElem? (i := 333) (by decide +kernel)) (by decide +kernel)
theorem fl_X8_11 : FL RX8 11 8 0 := ⟨(RX8, TX8, 2), "WordFinder$Text", rfl, by decide, tw_333, Or.inl rfl⟩
theorem tw_958 : Jvm.Cond.methodLink "WordFinder$Text" (34 : Nat) ({ cls := "java/lang/Math", name := "abs", desc := "(I)I" } : Jvm.MethodName) ∈ Tall := Tall_of (List.mem_of_getElem? (i := 958) (by decide +kernel)) (by decide +kernel)
theorem tw_959 : Jvm.Cond.static ({ cls := "java/lang/Math", name := "abs", desc := "(I)I" } : Jvm.MethodName) ∈ Tall := Tall_of (List.mem_of_getElem? (i := 959) (by decide +kernel)) (by decide +kernel)
theorem tw_123 : Jvm.Cond.initialized "java/lang/Math" ∈ Tall := Tall_of (List.mem_of_getElem? (i := 123) (by decide +kernel)) (by decide +kernel)
theorem tw_960 : Jvm.Cond.code ({ cls := "java/lang/Math", name := "abs", desc := "(I)I" } : Jvm.MethodName) prog_30_method_59_code (1 : Nat) (Option.some Jvm.ClassFile.FieldType.int) ∈ Tall := Tall_of (List.mem_of_getElem? (i := 960) (by decide +kernel)) (by decide +kernel)
theorem tw_157 : Jvm.Cond.fieldLink "WordFinder$Tape" (19 : Nat) "WordFinder$Tape" "size" "I" ∈ Tall := Tall_of (List.mem_of_getElem? (i := 157) (by decide +kernel)) (by decide +kernel)
theorem fl_X7_19 : FL RX7 19 7 1 := ⟨(RX7, TX7, 3), "WordFinder$Tape", rfl, by decide, tw_157, Or.inl rfl⟩
theorem tw_154 : Jvm.Cond.fieldLink "WordFinder$Tape" (11 : Nat) "WordFinder$Tape" "bytes" "[I" ∈ Tall := Tall_of (List.mem_of_getElem? (i := 154) (by decide +kernel)) (by decide +kernel)
theorem fl_X7_11 : FL RX7 11 7 0 := ⟨(RX7, TX7, 3), "WordFinder$Tape", rfl, by decide, tw_154, Or.inl rfl⟩
