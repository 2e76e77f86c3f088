/-! methods of the program: words (by program: wip/whole/gen2.py) -/
theorem tw_306 : Jvm.Cond.methodLink "WordFinder$Found" (3 : Nat) ({ cls := "java/lang/Object", name := "<init>", desc := "()V" } : Jvm.MethodName) ∈ Tall := Tall_of (List.mem_of_getElem? (i := 306) (by decide +kernel)) (by decide +kernel)
theorem tw_307 : Jvm.Cond.fieldLink "WordFinder$Found" (9 : Nat) "WordFinder$Found" "numbers" "[I" ∈ Tall := Tall_of (List.mem_of_getElem? (i := 307) (by decide +kernel)) (by decide +kernel)
theorem fl_X2_9 : FL RX2 9 2 0 := ⟨(RX2, TX2, 4), "WordFinder$Found", rfl, by decide, tw_307, Or.inl rfl⟩
theorem tw_308 : Jvm.Cond.fieldLink "WordFinder$Found" (15 : Nat) "WordFinder$Found" "ranked" "[I" ∈ Tall := Tall_of (List.mem_of_getElem? (i := 308) (by decide +kernel)) (by decide +kernel)
theorem fl_X2_15 : FL RX2 15 2 1 := ⟨(RX2, TX2, 4), "WordFinder$Found", rfl, by decide, tw_308, Or.inl rfl⟩
theorem tw_309 : Jvm.Cond.fieldLink "WordFinder$Found" (18 : Nat) "WordFinder$Found" "scores" "[I" ∈ Tall := Tall_of (List.mem_of_getElem? (i := 309) (by decide +kernel)) (by decide +kernel)
theorem fl_X2_18 : FL RX2 18 2 2 := ⟨(RX2, TX2, 4), "WordFinder$Found", rfl, by decide, tw_309, Or.inl rfl⟩
theorem tw_310 : Jvm.Cond.fieldLink "WordFinder$Found" (21 : Nat) "WordFinder$Found" "count" "I" ∈ Tall := Tall_of (List.mem_of_getElem? (i := 310) (by decide +kernel)) (by decide +kernel)
theorem fl_X2_21 : FL RX2 21 2 3 := ⟨(RX2, TX2, 4), "WordFinder$Found", rfl, by decide, tw_310, Or.inl rfl⟩
theorem tw_270 : Jvm.Cond.methodLink "WordFinder$TextSet" (3 : Nat) ({ cls := "java/lang/Object", name := "<init>", desc := "()V" } : Jvm.MethodName) ∈ Tall := Tall_of (List.mem_of_getElem? (i := 270) (by decide +kernel)) (by decide +kernel)
theorem tw_510 : Jvm.Cond.methodLink "WordFinder$Word" (1 : Nat) ({ cls := "java/lang/Object", name := "<init>", desc := "()V" } : Jvm.MethodName) ∈ Tall := Tall_of (List.mem_of_getElem? (i := 510) (by decide +kernel)) (by decide +kernel)
theorem tw_513 : Jvm.Cond.fieldLink "WordFinder$Word" (7 : Nat) "WordFinder$Word" "number" "I" ∈ Tall := Tall_of (List.mem_of_getElem? (i := 513) (by decide +kernel)) (by decide +kernel)
theorem fl_X10_7 : FL RX10 7 10 0 := ⟨(RX10, TX10, 3), "WordFinder$Word", rfl, by decide, tw_513, Or.inl rfl⟩
theorem tw_515 : Jvm.Cond.fieldLink "WordFinder$Word" (13 : Nat) "WordFinder$Word" "order" "I" ∈ Tall := Tall_of (List.mem_of_getElem? (i := 515) (by decide +kernel)) (by decide +kernel)
theorem fl_X10_13 : FL RX10 13 10 1 := ⟨(RX10, TX10, 3), "WordFinder$Word", rfl, by decide, tw_515, Or.inl rfl⟩
theorem tw_511 : Jvm.Cond.classLink "WordFinder$Word" (16 : Nat) "WordFinder$TextSet" ∈ Tall := Tall_of (List.mem_of_getElem? (i := 511) (by decide +kernel)) (by decide +kernel)
theorem tw_266 : Jvm.Cond.instantiable "WordFinder$TextSet" (2 : Nat) ∈ Tall := Tall_of (List.mem_of_getElem? (i := 266) (by decide +kernel)) (by decide +kernel)
theorem tw_108 : Jvm.Cond.initialized "WordFinder$TextSet" ∈ Tall := Tall_of (List.mem_of_getElem? (i := 108) (by decide +kernel)) (by decide +kernel)
theorem tl_512 : Jvm.Cond.methodLinkNest "WordFinder$Word" (18 : Nat) ({ cls := "WordFinder$TextSet", name := "<init>", desc := "()V" } : Jvm.MethodName) "WordFinder" ∈ lw_tbl := List.mem_of_getElem? (i := 512) (by decide +kernel)
theorem tw_269 : Jvm.Cond.code ({ cls := "WordFinder$TextSet", name := "<init>", desc := "()V" } : Jvm.MethodName) prog_11_method_1_code (1 : Nat) (Option.none : Option Jvm.ClassFile.FieldType) ∈ Tall := Tall_of (List.mem_of_getElem? (i := 269) (by decide +kernel)) (by decide +kernel)
theorem tw_268 : Jvm.Cond.instanceMethod ({ cls := "WordFinder$TextSet", name := "<init>", desc := "()V" } : Jvm.MethodName) ∈ Tall := Tall_of (List.mem_of_getElem? (i := 268) (by decide +kernel)) (by decide +kernel)
theorem ml_X10_18 : MNI RX10 18 yX9_init cX9_init 1 0 := ⟨⟨⟨by decide, by decide⟩, by decide +kernel, ⟨"WordFinder", tl_512⟩, tw_108, tw_269, by decide⟩, rfl, tw_268⟩
theorem tw_517 : Jvm.Cond.fieldLink "WordFinder$Word" (19 : Nat) "WordFinder$Word" "within" "LWordFinder$TextSet;" ∈ Tall := Tall_of (List.mem_of_getElem? (i := 517) (by decide +kernel)) (by decide +kernel)
theorem fl_X10_19 : FL RX10 19 10 2 := ⟨(RX10, TX10, 3), "WordFinder$Word", rfl, by decide, tw_517, Or.inl rfl⟩
theorem tw_272 : Jvm.Cond.fieldLink "WordFinder$TextSet" (15 : Nat) "WordFinder$TextSet" "high" "J" ∈ Tall := Tall_of (List.mem_of_getElem? (i := 272) (by decide +kernel)) (by decide +kernel)
theorem fl_X9_15 : FL RX9 15 9 1 := ⟨(RX9, TX9, 2), "WordFinder$TextSet", rfl, by decide, tw_272, Or.inl rfl⟩
theorem tw_271 : Jvm.Cond.fieldLink "WordFinder$TextSet" (11 : Nat) "WordFinder$TextSet" "low" "J" ∈ Tall := Tall_of (List.mem_of_getElem? (i := 271) (by decide +kernel)) (by decide +kernel)
theorem fl_X9_11 : FL RX9 11 9 0 := ⟨(RX9, TX9, 2), "WordFinder$TextSet", rfl, by decide, tw_271, Or.inl rfl⟩
theorem tw_892 : Jvm.Cond.methodLink "WordFinder$Text" (24 : Nat) ({ cls := "WordFinder$Text", name := "placeOf", desc := "(II)I" } : Jvm.MethodName) ∈ Tall := Tall_of (List.mem_of_getElem? (i := 892) (by decide +kernel)) (by decide +kernel)
theorem tw_895 : Jvm.Cond.code ({ cls := "WordFinder$Text", name := "placeOf", desc := "(II)I" } : Jvm.MethodName) prog_10_method_10_code (5 : Nat) (Option.some Jvm.ClassFile.FieldType.int) ∈ Tall := Tall_of (List.mem_of_getElem? (i := 895) (by decide +kernel)) (by decide +kernel)
theorem tw_893 : Jvm.Cond.instanceMethod ({ cls := "WordFinder$Text", name := "placeOf", desc := "(II)I" } : Jvm.MethodName) ∈ Tall := Tall_of (List.mem_of_getElem? (i := 893) (by decide +kernel)) (by decide +kernel)
theorem tw_894 : Jvm.Cond.selects "WordFinder$Text" ({ cls := "WordFinder$Text", name := "placeOf", desc := "(II)I" } : Jvm.MethodName) ({ cls := "WordFinder$Text", name := "placeOf", desc := "(II)I" } : Jvm.MethodName) ∈ Tall := Tall_of (List.mem_of_getElem? (i := 894) (by decide +kernel)) (by decide +kernel)
theorem ml_X8_24 : MLV RX8 24 yX8_placeOf cX8_placeOf 5 (some .int) 2 8 := ⟨⟨⟨by decide, by decide⟩, by decide +kernel, tw_892, tw_112, tw_895, by decide⟩, tw_893, tw_894, (RX8, TX8, 2), rfl, rfl⟩
theorem tw_904 : Jvm.Cond.constantLong "WordFinder$TextSet" (18 : Nat) (-1 : Int64) ∈ Tall := Tall_of (List.mem_of_getElem? (i := 904) (by decide +kernel)) (by decide +kernel)
theorem tw_1453 : Jvm.Cond.methodLink "WordFinder$Word" (35 : Nat) ({ cls := "WordFinder$Word", name := "isOneLeftOut", desc := "(III)Z" } : Jvm.MethodName) ∈ Tall := Tall_of (List.mem_of_getElem? (i := 1453) (by decide +kernel)) (by decide +kernel)
theorem tw_1455 : Jvm.Cond.code ({ cls := "WordFinder$Word", name := "isOneLeftOut", desc := "(III)Z" } : Jvm.MethodName) prog_12_method_10_code (4 : Nat) (Option.some Jvm.ClassFile.FieldType.boolean) ∈ Tall := Tall_of (List.mem_of_getElem? (i := 1455) (by decide +kernel)) (by decide +kernel)
theorem tw_1454 : Jvm.Cond.static ({ cls := "WordFinder$Word", name := "isOneLeftOut", desc := "(III)Z" } : Jvm.MethodName) ∈ Tall := Tall_of (List.mem_of_getElem? (i := 1454) (by decide +kernel)) (by decide +kernel)
theorem ml_X10_35 : MLS RX10 35 yX10_isOneLeftOut cX10_isOneLeftOut 4 (some .boolean) 3 := ⟨⟨⟨by decide, by decide⟩, by decide +kernel, tw_1453, tw_124, tw_1455, by decide⟩, tw_1454⟩
theorem tw_1450 : Jvm.Cond.methodLink "WordFinder$Word" (31 : Nat) ({ cls := "WordFinder$Word", name := "isOneChanged", desc := "(III)Z" } : Jvm.MethodName) ∈ Tall := Tall_of (List.mem_of_getElem? (i := 1450) (by decide +kernel)) (by decide +kernel)
theorem tw_1452 : Jvm.Cond.code ({ cls := "WordFinder$Word", name := "isOneChanged", desc := "(III)Z" } : Jvm.MethodName) prog_12_method_9_code (6 : Nat) (Option.some Jvm.ClassFile.FieldType.boolean) ∈ Tall := Tall_of (List.mem_of_getElem? (i := 1452) (by decide +kernel)) (by decide +kernel)
theorem tw_1451 : Jvm.Cond.static ({ cls := "WordFinder$Word", name := "isOneChanged", desc := "(III)Z" } : Jvm.MethodName) ∈ Tall := Tall_of (List.mem_of_getElem? (i := 1451) (by decide +kernel)) (by decide +kernel)
theorem ml_X10_31 : MLS RX10 31 yX10_isOneChanged cX10_isOneChanged 6 (some .boolean) 3 := ⟨⟨⟨by decide, by decide⟩, by decide +kernel, tw_1450, tw_124, tw_1452, by decide⟩, tw_1451⟩
theorem tw_246 : Jvm.Cond.methodLink "WordFinder$Past" (1 : Nat) ({ cls := "java/lang/Object", name := "<init>", desc := "()V" } : Jvm.MethodName) ∈ Tall := Tall_of (List.mem_of_getElem? (i := 246) (by decide +kernel)) (by decide +kernel)
theorem tw_248 : Jvm.Cond.fieldLink "WordFinder$Past" (9 : Nat) "WordFinder$Past" "numbers" "[I" ∈ Tall := Tall_of (List.mem_of_getElem? (i := 248) (by decide +kernel)) (by decide +kernel)
theorem fl_X5_9 : FL RX5 9 5 0 := ⟨(RX5, TX5, 4), "WordFinder$Past", rfl, by decide, tw_248, Or.inl rfl⟩
theorem tw_247 : Jvm.Cond.classLink "WordFinder$Past" (13 : Nat) "WordFinder$Text" ∈ Tall := Tall_of (List.mem_of_getElem? (i := 247) (by decide +kernel)) (by decide +kernel)
theorem tl_201 : Jvm.Cond.arrayOver (Jvm.ClassFile.FieldType.object "WordFinder$Text") ∈ lw_tbl := List.mem_of_getElem? (i := 201) (by decide +kernel)
theorem tw_249 : Jvm.Cond.fieldLink "WordFinder$Past" (15 : Nat) "WordFinder$Past" "olds" "[LWordFinder$Text;" ∈ Tall := Tall_of (List.mem_of_getElem? (i := 249) (by decide +kernel)) (by decide +kernel)
theorem fl_X5_15 : FL RX5 15 5 1 := ⟨(RX5, TX5, 4), "WordFinder$Past", rfl, by decide, tw_249, Or.inl rfl⟩
