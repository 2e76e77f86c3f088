/-! methods of the program: words (by program: wip/whole/gen2.py) -/
theorem tw_250 : Jvm.Cond.fieldLink "WordFinder$Past" (23 : Nat) "WordFinder$Past" "oldest" "I" ∈ Tall := Tall_of (List.mem_of_getElem? (i := 250) (by decide +kernel)) (by decide +kernel)
theorem fl_X5_23 : FL RX5 23 5 2 := ⟨(RX5, TX5, 4), "WordFinder$Past", rfl, by decide, tw_250, Or.inl rfl⟩
theorem tw_251 : Jvm.Cond.fieldLink "WordFinder$Past" (19 : Nat) "WordFinder$Past" "count" "I" ∈ Tall := Tall_of (List.mem_of_getElem? (i := 251) (by decide +kernel)) (by decide +kernel)
theorem fl_X5_19 : FL RX5 19 5 3 := ⟨(RX5, TX5, 4), "WordFinder$Past", rfl, by decide, tw_251, Or.inl rfl⟩
theorem tw_444 : Jvm.Cond.methodLink "WordFinder$Past" (30 : Nat) ({ cls := "java/lang/Math", name := "max", desc := "(II)I" } : Jvm.MethodName) ∈ Tall := Tall_of (List.mem_of_getElem? (i := 444) (by decide +kernel)) (by decide +kernel)
theorem tw_445 : Jvm.Cond.static ({ cls := "java/lang/Math", name := "max", desc := "(II)I" } : Jvm.MethodName) ∈ Tall := Tall_of (List.mem_of_getElem? (i := 445) (by decide +kernel)) (by decide +kernel)
theorem tw_446 : Jvm.Cond.code ({ cls := "java/lang/Math", name := "max", desc := "(II)I" } : Jvm.MethodName) prog_30_method_65_code (2 : Nat) (Option.some Jvm.ClassFile.FieldType.int) ∈ Tall := Tall_of (List.mem_of_getElem? (i := 446) (by decide +kernel)) (by decide +kernel)
theorem tw_440 : Jvm.Cond.methodLink "WordFinder$Past" (26 : Nat) ({ cls := "WordFinder$Past", name := "latestSlot", desc := "()I" } : Jvm.MethodName) ∈ Tall := Tall_of (List.mem_of_getElem? (i := 440) (by decide +kernel)) (by decide +kernel)
theorem tw_107 : Jvm.Cond.initialized "WordFinder$Past" ∈ Tall := Tall_of (List.mem_of_getElem? (i := 107) (by decide +kernel)) (by decide +kernel)
theorem tw_443 : Jvm.Cond.code ({ cls := "WordFinder$Past", name := "latestSlot", desc := "()I" } : Jvm.MethodName) prog_7_method_6_code (1 : Nat) (Option.some Jvm.ClassFile.FieldType.int) ∈ Tall := Tall_of (List.mem_of_getElem? (i := 443) (by decide +kernel)) (by decide +kernel)
theorem tw_442 : Jvm.Cond.instanceMethod ({ cls := "WordFinder$Past", name := "latestSlot", desc := "()I" } : Jvm.MethodName) ∈ Tall := Tall_of (List.mem_of_getElem? (i := 442) (by decide +kernel)) (by decide +kernel)
theorem tw_0 : Cond.selects "WordFinder$Past" ⟨"WordFinder$Past", "latestSlot", "()I"⟩ ⟨"WordFinder$Past", "latestSlot", "()I"⟩ ∈ Tall := Tall_of (List.mem_of_getElem? (i := 0) (by decide +kernel)) (by decide +kernel)
theorem ml_X5_26 : MLV RX5 26 yX5_latestSlot cX5_latestSlot 1 (some .int) 0 5 := ⟨⟨⟨by decide, by decide⟩, by decide +kernel, tw_440, tw_107, tw_443, by decide⟩, tw_442, tw_0, (RX5, TX5, 4), rfl, rfl⟩
theorem tw_174 : Jvm.Cond.methodLink "WordFinder$QueryReader" (3 : Nat) ({ cls := "java/lang/Object", name := "<init>", desc := "()V" } : Jvm.MethodName) ∈ Tall := Tall_of (List.mem_of_getElem? (i := 174) (by decide +kernel)) (by decide +kernel)
theorem tw_176 : Jvm.Cond.fieldLink "WordFinder$QueryReader" (11 : Nat) "WordFinder$QueryReader" "row" "[I" ∈ Tall := Tall_of (List.mem_of_getElem? (i := 176) (by decide +kernel)) (by decide +kernel)
theorem fl_X6_11 : FL RX6 11 6 1 := ⟨(RX6, TX6, 8), "WordFinder$QueryReader", rfl, by decide, tw_176, Or.inl rfl⟩
theorem tw_175 : Jvm.Cond.fieldLink "WordFinder$QueryReader" (15 : Nat) "WordFinder$QueryReader" "tape" "LWordFinder$Tape;" ∈ Tall := Tall_of (List.mem_of_getElem? (i := 175) (by decide +kernel)) (by decide +kernel)
theorem fl_X6_15 : FL RX6 15 6 0 := ⟨(RX6, TX6, 8), "WordFinder$QueryReader", rfl, by decide, tw_175, Or.inl rfl⟩
theorem tw_177 : Jvm.Cond.fieldLink "WordFinder$QueryReader" (19 : Nat) "WordFinder$QueryReader" "behind" "I" ∈ Tall := Tall_of (List.mem_of_getElem? (i := 177) (by decide +kernel)) (by decide +kernel)
theorem fl_X6_19 : FL RX6 19 6 2 := ⟨(RX6, TX6, 8), "WordFinder$QueryReader", rfl, by decide, tw_177, Or.inl rfl⟩
theorem tl_158 : Jvm.Cond.fieldLinkNest "WordFinder$QueryReader" (96 : Nat) "WordFinder$Tape" "size" "I" "WordFinder" ∈ lw_tbl := List.mem_of_getElem? (i := 158) (by decide +kernel)
theorem fl_X6_96 : FN RX6 96 7 1 := ⟨(RX7, TX7, 3), "WordFinder", rfl, by decide, tl_158⟩
theorem tw_181 : Jvm.Cond.fieldLink "WordFinder$QueryReader" (23 : Nat) "WordFinder$QueryReader" "wordsRead" "I" ∈ Tall := Tall_of (List.mem_of_getElem? (i := 181) (by decide +kernel)) (by decide +kernel)
theorem fl_X6_23 : FL RX6 23 6 6 := ⟨(RX6, TX6, 8), "WordFinder$QueryReader", rfl, by decide, tw_181, Or.inl rfl⟩
theorem tw_179 : Jvm.Cond.fieldLink "WordFinder$QueryReader" (49 : Nat) "WordFinder$QueryReader" "tokenStart" "I" ∈ Tall := Tall_of (List.mem_of_getElem? (i := 179) (by decide +kernel)) (by decide +kernel)
theorem fl_X6_49 : FL RX6 49 6 4 := ⟨(RX6, TX6, 8), "WordFinder$QueryReader", rfl, by decide, tw_179, Or.inl rfl⟩
theorem tw_178 : Jvm.Cond.fieldLink "WordFinder$QueryReader" (36 : Nat) "WordFinder$QueryReader" "token" "I" ∈ Tall := Tall_of (List.mem_of_getElem? (i := 178) (by decide +kernel)) (by decide +kernel)
theorem fl_X6_36 : FL RX6 36 6 3 := ⟨(RX6, TX6, 8), "WordFinder$QueryReader", rfl, by decide, tw_178, Or.inl rfl⟩
theorem tl_155 : Jvm.Cond.fieldLinkNest "WordFinder$QueryReader" (99 : Nat) "WordFinder$Tape" "bytes" "[I" "WordFinder" ∈ lw_tbl := List.mem_of_getElem? (i := 155) (by decide +kernel)
theorem fl_X6_99 : FN RX6 99 7 0 := ⟨(RX7, TX7, 3), "WordFinder", rfl, by decide, tl_155⟩
theorem tw_180 : Jvm.Cond.fieldLink "WordFinder$QueryReader" (83 : Nat) "WordFinder$QueryReader" "tokenValue" "I" ∈ Tall := Tall_of (List.mem_of_getElem? (i := 180) (by decide +kernel)) (by decide +kernel)
theorem fl_X6_83 : FL RX6 83 6 5 := ⟨(RX6, TX6, 8), "WordFinder$QueryReader", rfl, by decide, tw_180, Or.inl rfl⟩
theorem tw_1490 : Jvm.Cond.methodLink "WordFinder$QueryReader" (108 : Nat) ({ cls := "WordFinder$QueryReader", name := "isSign", desc := "(I)Z" } : Jvm.MethodName) ∈ Tall := Tall_of (List.mem_of_getElem? (i := 1490) (by decide +kernel)) (by decide +kernel)
theorem tw_102 : Jvm.Cond.initialized "WordFinder$QueryReader" ∈ Tall := Tall_of (List.mem_of_getElem? (i := 102) (by decide +kernel)) (by decide +kernel)
theorem tw_1492 : Jvm.Cond.code ({ cls := "WordFinder$QueryReader", name := "isSign", desc := "(I)Z" } : Jvm.MethodName) prog_8_method_12_code (1 : Nat) (Option.some Jvm.ClassFile.FieldType.boolean) ∈ Tall := Tall_of (List.mem_of_getElem? (i := 1492) (by decide +kernel)) (by decide +kernel)
theorem tw_1491 : Jvm.Cond.static ({ cls := "WordFinder$QueryReader", name := "isSign", desc := "(I)Z" } : Jvm.MethodName) ∈ Tall := Tall_of (List.mem_of_getElem? (i := 1491) (by decide +kernel)) (by decide +kernel)
theorem ml_X6_108 : MLS RX6 108 yX6_isSign cX6_isSign 1 (some .boolean) 1 := ⟨⟨⟨by decide, by decide⟩, by decide +kernel, tw_1490, tw_102, tw_1492, by decide⟩, tw_1491⟩
theorem tw_1486 : Jvm.Cond.methodLink "WordFinder$QueryReader" (105 : Nat) ({ cls := "WordFinder$QueryReader", name := "advanceNumber", desc := "()V" } : Jvm.MethodName) ∈ Tall := Tall_of (List.mem_of_getElem? (i := 1486) (by decide +kernel)) (by decide +kernel)
theorem tw_1489 : Jvm.Cond.code ({ cls := "WordFinder$QueryReader", name := "advanceNumber", desc := "()V" } : Jvm.MethodName) prog_8_method_11_code (2 : Nat) (Option.none : Option Jvm.ClassFile.FieldType) ∈ Tall := Tall_of (List.mem_of_getElem? (i := 1489) (by decide +kernel)) (by decide +kernel)
theorem tw_1488 : Jvm.Cond.instanceMethod ({ cls := "WordFinder$QueryReader", name := "advanceNumber", desc := "()V" } : Jvm.MethodName) ∈ Tall := Tall_of (List.mem_of_getElem? (i := 1488) (by decide +kernel)) (by decide +kernel)
theorem tw_25 : Cond.selects "WordFinder$QueryReader" ⟨"WordFinder$QueryReader", "advanceNumber", "()V"⟩ ⟨"WordFinder$QueryReader", "advanceNumber", "()V"⟩ ∈ Tall := Tall_of (List.mem_of_getElem? (i := 25) (by decide +kernel)) (by decide +kernel)
theorem ml_X6_105 : MLV RX6 105 yX6_advanceNumber cX6_advanceNumber 2 (none) 0 6 := ⟨⟨⟨by decide, by decide⟩, by decide +kernel, tw_1486, tw_102, tw_1489, by decide⟩, tw_1488, tw_25, (RX6, TX6, 8), rfl, rfl⟩
theorem tw_1482 : Jvm.Cond.methodLink "WordFinder$QueryReader" (102 : Nat) ({ cls := "WordFinder$QueryReader", name := "advanceWord", desc := "()V" } : Jvm.MethodName) ∈ Tall := Tall_of (List.mem_of_getElem? (i := 1482) (by decide +kernel)) (by decide +kernel)
theorem tw_1485 : Jvm.Cond.code ({ cls := "WordFinder$QueryReader", name := "advanceWord", desc := "()V" } : Jvm.MethodName) prog_8_method_10_code (2 : Nat) (Option.none : Option Jvm.ClassFile.FieldType) ∈ Tall := Tall_of (List.mem_of_getElem? (i := 1485) (by decide +kernel)) (by decide +kernel)
theorem tw_1484 : Jvm.Cond.instanceMethod ({ cls := "WordFinder$QueryReader", name := "advanceWord", desc := "()V" } : Jvm.MethodName) ∈ Tall := Tall_of (List.mem_of_getElem? (i := 1484) (by decide +kernel)) (by decide +kernel)
theorem tw_24 : Cond.selects "WordFinder$QueryReader" ⟨"WordFinder$QueryReader", "advanceWord", "()V"⟩ ⟨"WordFinder$QueryReader", "advanceWord", "()V"⟩ ∈ Tall := Tall_of (List.mem_of_getElem? (i := 24) (by decide +kernel)) (by decide +kernel)
theorem ml_X6_102 : MLV RX6 102 yX6_advanceWord cX6_advanceWord 2 (none) 0 6 := ⟨⟨⟨by decide, by decide⟩, by decide +kernel, tw_1482, tw_102, tw_1485, by decide⟩, tw_1484, tw_24, (RX6, TX6, 8), rfl, rfl⟩
theorem tw_182 : Jvm.Cond.fieldLink "WordFinder$QueryReader" (26 : Nat) "WordFinder$QueryReader" "errorAt" "I" ∈ Tall := Tall_of (List.mem_of_getElem? (i := 182) (by decide +kernel)) (by decide +kernel)
theorem fl_X6_26 : FL RX6 26 6 7 := ⟨(RX6, TX6, 8), "WordFinder$QueryReader", rfl, by decide, tw_182, Or.inl rfl⟩
theorem tw_157 : Jvm.Cond.fieldLink "WordFinder$Tape" (19 : Nat) "WordFinder$Tape" "size" "I" ∈ Tall := Tall_of (List.mem_of_getElem? (i := 157) (by decide +kernel)) (by decide +kernel)
theorem fl_X7_19 : FL RX7 19 7 1 := ⟨(RX7, TX7, 3), "WordFinder$Tape", rfl, by decide, tw_157, Or.inl rfl⟩
theorem tw_159 : Jvm.Cond.fieldLink "WordFinder$Tape" (15 : Nat) "WordFinder$Tape" "errorAt" "I" ∈ Tall := Tall_of (List.mem_of_getElem? (i := 159) (by decide +kernel)) (by decide +kernel)
theorem fl_X7_15 : FL RX7 15 7 2 := ⟨(RX7, TX7, 3), "WordFinder$Tape", rfl, by decide, tw_159, Or.inl rfl⟩
theorem tw_153 : Jvm.Cond.methodLink "WordFinder$Tape" (3 : Nat) ({ cls := "java/lang/Object", name := "<init>", desc := "()V" } : Jvm.MethodName) ∈ Tall := Tall_of (List.mem_of_getElem? (i := 153) (by decide +kernel)) (by decide +kernel)
theorem tw_154 : Jvm.Cond.fieldLink "WordFinder$Tape" (11 : Nat) "WordFinder$Tape" "bytes" "[I" ∈ Tall := Tall_of (List.mem_of_getElem? (i := 154) (by decide +kernel)) (by decide +kernel)
theorem fl_X7_11 : FL RX7 11 7 0 := ⟨(RX7, TX7, 3), "WordFinder$Tape", rfl, by decide, tw_154, Or.inl rfl⟩
theorem tw_1171 : Jvm.Cond.methodLink "WordFinder$Tape" (37 : Nat) ({ cls := "WordFinder$Text", name := "add", desc := "(I)V" } : Jvm.MethodName) ∈ Tall := Tall_of (List.mem_of_getElem? (i := 1171) (by decide +kernel)) (by decide +kernel)
theorem ml_X7_37 : MLV RX7 37 yX8_add cX8_add 2 (none) 1 8 := ⟨⟨⟨by decide, by decide⟩, by decide +kernel, tw_1171, tw_112, tw_1174, by decide⟩, tw_1172, tw_1173, (RX8, TX8, 2), rfl, rfl⟩
theorem tw_1168 : Jvm.Cond.methodLink "WordFinder$Tape" (33 : Nat) ({ cls := "WordFinder$Tape", name := "letterAtByte", desc := "(I)I" } : Jvm.MethodName) ∈ Tall := Tall_of (List.mem_of_getElem? (i := 1168) (by decide +kernel)) (by decide +kernel)
theorem tw_101 : Jvm.Cond.initialized "WordFinder$Tape" ∈ Tall := Tall_of (List.mem_of_getElem? (i := 101) (by decide +kernel)) (by decide +kernel)
theorem tw_1170 : Jvm.Cond.code ({ cls := "WordFinder$Tape", name := "letterAtByte", desc := "(I)I" } : Jvm.MethodName) prog_9_method_7_code (1 : Nat) (Option.some Jvm.ClassFile.FieldType.int) ∈ Tall := Tall_of (List.mem_of_getElem? (i := 1170) (by decide +kernel)) (by decide +kernel)
theorem tw_1169 : Jvm.Cond.static ({ cls := "WordFinder$Tape", name := "letterAtByte", desc := "(I)I" } : Jvm.MethodName) ∈ Tall := Tall_of (List.mem_of_getElem? (i := 1169) (by decide +kernel)) (by decide +kernel)
theorem ml_X7_33 : MLS RX7 33 yX7_letterAtByte cX7_letterAtByte 1 (some .int) 1 := ⟨⟨⟨by decide, by decide⟩, by decide +kernel, tw_1168, tw_101, tw_1170, by decide⟩, tw_1169⟩
theorem tw_1175 : Jvm.Cond.methodLink "WordFinder$Tape" (42 : Nat) ({ cls := "WordFinder$Text", name := "size", desc := "()I" } : Jvm.MethodName) ∈ Tall := Tall_of (List.mem_of_getElem? (i := 1175) (by decide +kernel)) (by decide +kernel)
theorem tw_466 : Jvm.Cond.code ({ cls := "WordFinder$Text", name := "size", desc := "()I" } : Jvm.MethodName) prog_10_method_2_code (1 : Nat) (Option.some Jvm.ClassFile.FieldType.int) ∈ Tall := Tall_of (List.mem_of_getElem? (i := 466) (by decide +kernel)) (by decide +kernel)
theorem tw_464 : Jvm.Cond.instanceMethod ({ cls := "WordFinder$Text", name := "size", desc := "()I" } : Jvm.MethodName) ∈ Tall := Tall_of (List.mem_of_getElem? (i := 464) (by decide +kernel)) (by decide +kernel)
theorem tw_465 : Jvm.Cond.selects "WordFinder$Text" ({ cls := "WordFinder$Text", name := "size", desc := "()I" } : Jvm.MethodName) ({ cls := "WordFinder$Text", name := "size", desc := "()I" } : Jvm.MethodName) ∈ Tall := Tall_of (List.mem_of_getElem? (i := 465) (by decide +kernel)) (by decide +kernel)
theorem ml_X7_42 : MLV RX7 42 yX8_size cX8_size 1 (some .int) 0 8 := ⟨⟨⟨by decide, by decide⟩, by decide +kernel, tw_1175, tw_112, tw_466, by decide⟩, tw_464, tw_465, (RX8, TX8, 2), rfl, rfl⟩
