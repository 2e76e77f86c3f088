/-! methods of the program: words (by program: wip/whole/gen2.py) -/
theorem tw_1883 : Jvm.Cond.fieldLink "WordFinderModel" (1 : Nat) "WordFinderModel" "thrown" "I" ∈ Tall := Tall_of (List.mem_of_getElem? (i := 1883) (by decide +kernel)) (by decide +kernel)
theorem fl_X12_1 : FL RX12 1 12 0 := ⟨(RX12, TX12, 60), "WordFinderModel", rfl, by decide, tw_1883, Or.inl rfl⟩
theorem tw_1882 : Jvm.Cond.methodLink "WordFinderModel" (7 : Nat) ({ cls := "java/lang/Object", name := "<init>", desc := "()V" } : Jvm.MethodName) ∈ Tall := Tall_of (List.mem_of_getElem? (i := 1882) (by decide +kernel)) (by decide +kernel)
theorem tw_146 : Jvm.Cond.instanceMethod ({ cls := "java/lang/Object", name := "<init>", desc := "()V" } : Jvm.MethodName) ∈ Tall := Tall_of (List.mem_of_getElem? (i := 146) (by decide +kernel)) (by decide +kernel)
theorem tw_147 : Jvm.Cond.code ({ cls := "java/lang/Object", name := "<init>", desc := "()V" } : Jvm.MethodName) object_method_1_code (1 : Nat) (Option.none : Option Jvm.ClassFile.FieldType) ∈ Tall := Tall_of (List.mem_of_getElem? (i := 147) (by decide +kernel)) (by decide +kernel)
theorem tw_168 : Jvm.Cond.arrayClass Jvm.ClassFile.FieldType.int ∈ Tall := Tall_of (List.mem_of_getElem? (i := 168) (by decide +kernel)) (by decide +kernel)
theorem tw_1884 : Jvm.Cond.fieldLink "WordFinderModel" (13 : Nat) "WordFinderModel" "tape" "[I" ∈ Tall := Tall_of (List.mem_of_getElem? (i := 1884) (by decide +kernel)) (by decide +kernel)
theorem fl_X12_13 : FL RX12 13 12 1 := ⟨(RX12, TX12, 60), "WordFinderModel", rfl, by decide, tw_1884, Or.inl rfl⟩
theorem tw_1886 : Jvm.Cond.fieldLink "WordFinderModel" (17 : Nat) "WordFinderModel" "errorAt" "I" ∈ Tall := Tall_of (List.mem_of_getElem? (i := 1886) (by decide +kernel)) (by decide +kernel)
theorem fl_X12_17 : FL RX12 17 12 3 := ⟨(RX12, TX12, 60), "WordFinderModel", rfl, by decide, tw_1886, Or.inl rfl⟩
theorem tw_2064 : Jvm.Cond.arrayClass Jvm.ClassFile.FieldType.boolean ∈ Tall := Tall_of (List.mem_of_getElem? (i := 2064) (by decide +kernel)) (by decide +kernel)
theorem tw_1887 : Jvm.Cond.fieldLink "WordFinderModel" (20 : Nat) "WordFinderModel" "isText" "[Z" ∈ Tall := Tall_of (List.mem_of_getElem? (i := 1887) (by decide +kernel)) (by decide +kernel)
theorem fl_X12_20 : FL RX12 20 12 4 := ⟨(RX12, TX12, 60), "WordFinderModel", rfl, by decide, tw_1887, Or.inl rfl⟩
theorem tw_1888 : Jvm.Cond.fieldLink "WordFinderModel" (24 : Nat) "WordFinderModel" "textWord" "[I" ∈ Tall := Tall_of (List.mem_of_getElem? (i := 1888) (by decide +kernel)) (by decide +kernel)
theorem fl_X12_24 : FL RX12 24 12 5 := ⟨(RX12, TX12, 60), "WordFinderModel", rfl, by decide, tw_1888, Or.inl rfl⟩
theorem tw_1889 : Jvm.Cond.fieldLink "WordFinderModel" (27 : Nat) "WordFinderModel" "textMany" "[I" ∈ Tall := Tall_of (List.mem_of_getElem? (i := 1889) (by decide +kernel)) (by decide +kernel)
theorem fl_X12_27 : FL RX12 27 12 6 := ⟨(RX12, TX12, 60), "WordFinderModel", rfl, by decide, tw_1889, Or.inl rfl⟩
theorem tw_1890 : Jvm.Cond.fieldLink "WordFinderModel" (30 : Nat) "WordFinderModel" "read" "[I" ∈ Tall := Tall_of (List.mem_of_getElem? (i := 1890) (by decide +kernel)) (by decide +kernel)
theorem fl_X12_30 : FL RX12 30 12 7 := ⟨(RX12, TX12, 60), "WordFinderModel", rfl, by decide, tw_1890, Or.inl rfl⟩
theorem tw_1892 : Jvm.Cond.fieldLink "WordFinderModel" (33 : Nat) "WordFinderModel" "wasText" "[I" ∈ Tall := Tall_of (List.mem_of_getElem? (i := 1892) (by decide +kernel)) (by decide +kernel)
theorem fl_X12_33 : FL RX12 33 12 9 := ⟨(RX12, TX12, 60), "WordFinderModel", rfl, by decide, tw_1892, Or.inl rfl⟩
theorem tw_1893 : Jvm.Cond.fieldLink "WordFinderModel" (36 : Nat) "WordFinderModel" "wasMany" "[I" ∈ Tall := Tall_of (List.mem_of_getElem? (i := 1893) (by decide +kernel)) (by decide +kernel)
theorem fl_X12_36 : FL RX12 36 12 10 := ⟨(RX12, TX12, 60), "WordFinderModel", rfl, by decide, tw_1893, Or.inl rfl⟩
theorem tw_1894 : Jvm.Cond.fieldLink "WordFinderModel" (39 : Nat) "WordFinderModel" "wasWord" "[I" ∈ Tall := Tall_of (List.mem_of_getElem? (i := 1894) (by decide +kernel)) (by decide +kernel)
theorem fl_X12_39 : FL RX12 39 12 11 := ⟨(RX12, TX12, 60), "WordFinderModel", rfl, by decide, tw_1894, Or.inl rfl⟩
theorem tw_1895 : Jvm.Cond.fieldLink "WordFinderModel" (42 : Nat) "WordFinderModel" "wasThere" "[Z" ∈ Tall := Tall_of (List.mem_of_getElem? (i := 1895) (by decide +kernel)) (by decide +kernel)
theorem fl_X12_42 : FL RX12 42 12 12 := ⟨(RX12, TX12, 60), "WordFinderModel", rfl, by decide, tw_1895, Or.inl rfl⟩
theorem tw_1896 : Jvm.Cond.fieldLink "WordFinderModel" (45 : Nat) "WordFinderModel" "wasFound" "[Z" ∈ Tall := Tall_of (List.mem_of_getElem? (i := 1896) (by decide +kernel)) (by decide +kernel)
theorem fl_X12_45 : FL RX12 45 12 13 := ⟨(RX12, TX12, 60), "WordFinderModel", rfl, by decide, tw_1896, Or.inl rfl⟩
theorem tw_1898 : Jvm.Cond.fieldLink "WordFinderModel" (48 : Nat) "WordFinderModel" "eventPlace" "[I" ∈ Tall := Tall_of (List.mem_of_getElem? (i := 1898) (by decide +kernel)) (by decide +kernel)
theorem fl_X12_48 : FL RX12 48 12 15 := ⟨(RX12, TX12, 60), "WordFinderModel", rfl, by decide, tw_1898, Or.inl rfl⟩
theorem tw_1899 : Jvm.Cond.fieldLink "WordFinderModel" (51 : Nat) "WordFinderModel" "eventText" "[I" ∈ Tall := Tall_of (List.mem_of_getElem? (i := 1899) (by decide +kernel)) (by decide +kernel)
theorem fl_X12_51 : FL RX12 51 12 16 := ⟨(RX12, TX12, 60), "WordFinderModel", rfl, by decide, tw_1899, Or.inl rfl⟩
theorem tw_1900 : Jvm.Cond.fieldLink "WordFinderModel" (54 : Nat) "WordFinderModel" "eventCame" "[I" ∈ Tall := Tall_of (List.mem_of_getElem? (i := 1900) (by decide +kernel)) (by decide +kernel)
theorem fl_X12_54 : FL RX12 54 12 17 := ⟨(RX12, TX12, 60), "WordFinderModel", rfl, by decide, tw_1900, Or.inl rfl⟩
theorem tw_1902 : Jvm.Cond.fieldLink "WordFinderModel" (57 : Nat) "WordFinderModel" "known" "[I" ∈ Tall := Tall_of (List.mem_of_getElem? (i := 1902) (by decide +kernel)) (by decide +kernel)
theorem fl_X12_57 : FL RX12 57 12 19 := ⟨(RX12, TX12, 60), "WordFinderModel", rfl, by decide, tw_1902, Or.inl rfl⟩
theorem tw_1908 : Jvm.Cond.fieldLink "WordFinderModel" (60 : Nat) "WordFinderModel" "kind" "[I" ∈ Tall := Tall_of (List.mem_of_getElem? (i := 1908) (by decide +kernel)) (by decide +kernel)
theorem fl_X12_60 : FL RX12 60 12 25 := ⟨(RX12, TX12, 60), "WordFinderModel", rfl, by decide, tw_1908, Or.inl rfl⟩
theorem tw_1909 : Jvm.Cond.fieldLink "WordFinderModel" (63 : Nat) "WordFinderModel" "one" "[I" ∈ Tall := Tall_of (List.mem_of_getElem? (i := 1909) (by decide +kernel)) (by decide +kernel)
theorem fl_X12_63 : FL RX12 63 12 26 := ⟨(RX12, TX12, 60), "WordFinderModel", rfl, by decide, tw_1909, Or.inl rfl⟩
theorem tw_1910 : Jvm.Cond.fieldLink "WordFinderModel" (66 : Nat) "WordFinderModel" "two" "[I" ∈ Tall := Tall_of (List.mem_of_getElem? (i := 1910) (by decide +kernel)) (by decide +kernel)
theorem fl_X12_66 : FL RX12 66 12 27 := ⟨(RX12, TX12, 60), "WordFinderModel", rfl, by decide, tw_1910, Or.inl rfl⟩
theorem tw_1911 : Jvm.Cond.fieldLink "WordFinderModel" (69 : Nat) "WordFinderModel" "apart" "[I" ∈ Tall := Tall_of (List.mem_of_getElem? (i := 1911) (by decide +kernel)) (by decide +kernel)
theorem fl_X12_69 : FL RX12 69 12 28 := ⟨(RX12, TX12, 60), "WordFinderModel", rfl, by decide, tw_1911, Or.inl rfl⟩
theorem tw_1912 : Jvm.Cond.fieldLink "WordFinderModel" (72 : Nat) "WordFinderModel" "part" "[I" ∈ Tall := Tall_of (List.mem_of_getElem? (i := 1912) (by decide +kernel)) (by decide +kernel)
theorem fl_X12_72 : FL RX12 72 12 29 := ⟨(RX12, TX12, 60), "WordFinderModel", rfl, by decide, tw_1912, Or.inl rfl⟩
theorem tw_1913 : Jvm.Cond.fieldLink "WordFinderModel" (75 : Nat) "WordFinderModel" "beside" "[I" ∈ Tall := Tall_of (List.mem_of_getElem? (i := 1913) (by decide +kernel)) (by decide +kernel)
theorem fl_X12_75 : FL RX12 75 12 30 := ⟨(RX12, TX12, 60), "WordFinderModel", rfl, by decide, tw_1913, Or.inl rfl⟩
theorem tw_1914 : Jvm.Cond.fieldLink "WordFinderModel" (78 : Nat) "WordFinderModel" "line" "[I" ∈ Tall := Tall_of (List.mem_of_getElem? (i := 1914) (by decide +kernel)) (by decide +kernel)
theorem fl_X12_78 : FL RX12 78 12 31 := ⟨(RX12, TX12, 60), "WordFinderModel", rfl, by decide, tw_1914, Or.inl rfl⟩
theorem tw_1915 : Jvm.Cond.fieldLink "WordFinderModel" (81 : Nat) "WordFinderModel" "nodes" "[I" ∈ Tall := Tall_of (List.mem_of_getElem? (i := 1915) (by decide +kernel)) (by decide +kernel)
theorem fl_X12_81 : FL RX12 81 12 32 := ⟨(RX12, TX12, 60), "WordFinderModel", rfl, by decide, tw_1915, Or.inl rfl⟩
theorem tw_1916 : Jvm.Cond.fieldLink "WordFinderModel" (84 : Nat) "WordFinderModel" "lineMany" "[I" ∈ Tall := Tall_of (List.mem_of_getElem? (i := 1916) (by decide +kernel)) (by decide +kernel)
theorem fl_X12_84 : FL RX12 84 12 33 := ⟨(RX12, TX12, 60), "WordFinderModel", rfl, by decide, tw_1916, Or.inl rfl⟩
theorem tw_1917 : Jvm.Cond.fieldLink "WordFinderModel" (87 : Nat) "WordFinderModel" "root" "[I" ∈ Tall := Tall_of (List.mem_of_getElem? (i := 1917) (by decide +kernel)) (by decide +kernel)
theorem fl_X12_87 : FL RX12 87 12 34 := ⟨(RX12, TX12, 60), "WordFinderModel", rfl, by decide, tw_1917, Or.inl rfl⟩
theorem tw_1918 : Jvm.Cond.fieldLink "WordFinderModel" (90 : Nat) "WordFinderModel" "andFirst" "[I" ∈ Tall := Tall_of (List.mem_of_getElem? (i := 1918) (by decide +kernel)) (by decide +kernel)
theorem fl_X12_90 : FL RX12 90 12 35 := ⟨(RX12, TX12, 60), "WordFinderModel", rfl, by decide, tw_1918, Or.inl rfl⟩
theorem tw_1919 : Jvm.Cond.fieldLink "WordFinderModel" (93 : Nat) "WordFinderModel" "andLast" "[I" ∈ Tall := Tall_of (List.mem_of_getElem? (i := 1919) (by decide +kernel)) (by decide +kernel)
theorem fl_X12_93 : FL RX12 93 12 36 := ⟨(RX12, TX12, 60), "WordFinderModel", rfl, by decide, tw_1919, Or.inl rfl⟩
theorem tw_1920 : Jvm.Cond.fieldLink "WordFinderModel" (96 : Nat) "WordFinderModel" "andMany" "[I" ∈ Tall := Tall_of (List.mem_of_getElem? (i := 1920) (by decide +kernel)) (by decide +kernel)
theorem fl_X12_96 : FL RX12 96 12 37 := ⟨(RX12, TX12, 60), "WordFinderModel", rfl, by decide, tw_1920, Or.inl rfl⟩
theorem tw_1921 : Jvm.Cond.fieldLink "WordFinderModel" (99 : Nat) "WordFinderModel" "orFirst" "[I" ∈ Tall := Tall_of (List.mem_of_getElem? (i := 1921) (by decide +kernel)) (by decide +kernel)
theorem fl_X12_99 : FL RX12 99 12 38 := ⟨(RX12, TX12, 60), "WordFinderModel", rfl, by decide, tw_1921, Or.inl rfl⟩
theorem tw_1922 : Jvm.Cond.fieldLink "WordFinderModel" (102 : Nat) "WordFinderModel" "orLast" "[I" ∈ Tall := Tall_of (List.mem_of_getElem? (i := 1922) (by decide +kernel)) (by decide +kernel)
theorem fl_X12_102 : FL RX12 102 12 39 := ⟨(RX12, TX12, 60), "WordFinderModel", rfl, by decide, tw_1922, Or.inl rfl⟩
theorem tw_1923 : Jvm.Cond.fieldLink "WordFinderModel" (105 : Nat) "WordFinderModel" "orMany" "[I" ∈ Tall := Tall_of (List.mem_of_getElem? (i := 1923) (by decide +kernel)) (by decide +kernel)
theorem fl_X12_105 : FL RX12 105 12 40 := ⟨(RX12, TX12, 60), "WordFinderModel", rfl, by decide, tw_1923, Or.inl rfl⟩
theorem tw_1924 : Jvm.Cond.fieldLink "WordFinderModel" (108 : Nat) "WordFinderModel" "waits" "[I" ∈ Tall := Tall_of (List.mem_of_getElem? (i := 1924) (by decide +kernel)) (by decide +kernel)
theorem fl_X12_108 : FL RX12 108 12 41 := ⟨(RX12, TX12, 60), "WordFinderModel", rfl, by decide, tw_1924, Or.inl rfl⟩
theorem tw_1929 : Jvm.Cond.fieldLink "WordFinderModel" (111 : Nat) "WordFinderModel" "holds" "[Z" ∈ Tall := Tall_of (List.mem_of_getElem? (i := 1929) (by decide +kernel)) (by decide +kernel)
theorem fl_X12_111 : FL RX12 111 12 46 := ⟨(RX12, TX12, 60), "WordFinderModel", rfl, by decide, tw_1929, Or.inl rfl⟩
theorem tw_1930 : Jvm.Cond.fieldLink "WordFinderModel" (114 : Nat) "WordFinderModel" "isTurned" "[Z" ∈ Tall := Tall_of (List.mem_of_getElem? (i := 1930) (by decide +kernel)) (by decide +kernel)
theorem fl_X12_114 : FL RX12 114 12 47 := ⟨(RX12, TX12, 60), "WordFinderModel", rfl, by decide, tw_1930, Or.inl rfl⟩
theorem tw_1931 : Jvm.Cond.fieldLink "WordFinderModel" (117 : Nat) "WordFinderModel" "found" "[I" ∈ Tall := Tall_of (List.mem_of_getElem? (i := 1931) (by decide +kernel)) (by decide +kernel)
theorem fl_X12_117 : FL RX12 117 12 48 := ⟨(RX12, TX12, 60), "WordFinderModel", rfl, by decide, tw_1931, Or.inl rfl⟩
theorem tw_1932 : Jvm.Cond.fieldLink "WordFinderModel" (120 : Nat) "WordFinderModel" "ranked" "[I" ∈ Tall := Tall_of (List.mem_of_getElem? (i := 1932) (by decide +kernel)) (by decide +kernel)
theorem fl_X12_120 : FL RX12 120 12 49 := ⟨(RX12, TX12, 60), "WordFinderModel", rfl, by decide, tw_1932, Or.inl rfl⟩
theorem tw_1933 : Jvm.Cond.fieldLink "WordFinderModel" (123 : Nat) "WordFinderModel" "scored" "[I" ∈ Tall := Tall_of (List.mem_of_getElem? (i := 1933) (by decide +kernel)) (by decide +kernel)
theorem fl_X12_123 : FL RX12 123 12 50 := ⟨(RX12, TX12, 60), "WordFinderModel", rfl, by decide, tw_1933, Or.inl rfl⟩
theorem tw_1935 : Jvm.Cond.fieldLink "WordFinderModel" (126 : Nat) "WordFinderModel" "becomes" "[I" ∈ Tall := Tall_of (List.mem_of_getElem? (i := 1935) (by decide +kernel)) (by decide +kernel)
theorem fl_X12_126 : FL RX12 126 12 52 := ⟨(RX12, TX12, 60), "WordFinderModel", rfl, by decide, tw_1935, Or.inl rfl⟩
theorem tw_1936 : Jvm.Cond.fieldLink "WordFinderModel" (129 : Nat) "WordFinderModel" "whom" "[I" ∈ Tall := Tall_of (List.mem_of_getElem? (i := 1936) (by decide +kernel)) (by decide +kernel)
theorem fl_X12_129 : FL RX12 129 12 53 := ⟨(RX12, TX12, 60), "WordFinderModel", rfl, by decide, tw_1936, Or.inl rfl⟩
theorem tw_1937 : Jvm.Cond.fieldLink "WordFinderModel" (132 : Nat) "WordFinderModel" "text" "[I" ∈ Tall := Tall_of (List.mem_of_getElem? (i := 1937) (by decide +kernel)) (by decide +kernel)
theorem fl_X12_132 : FL RX12 132 12 54 := ⟨(RX12, TX12, 60), "WordFinderModel", rfl, by decide, tw_1937, Or.inl rfl⟩
theorem tw_1938 : Jvm.Cond.fieldLink "WordFinderModel" (135 : Nat) "WordFinderModel" "stack" "[I" ∈ Tall := Tall_of (List.mem_of_getElem? (i := 1938) (by decide +kernel)) (by decide +kernel)
theorem fl_X12_135 : FL RX12 135 12 55 := ⟨(RX12, TX12, 60), "WordFinderModel", rfl, by decide, tw_1938, Or.inl rfl⟩
theorem tw_1941 : Jvm.Cond.fieldLink "WordFinderModel" (138 : Nat) "WordFinderModel" "differs" "[I" ∈ Tall := Tall_of (List.mem_of_getElem? (i := 1941) (by decide +kernel)) (by decide +kernel)
theorem fl_X12_138 : FL RX12 138 12 58 := ⟨(RX12, TX12, 60), "WordFinderModel", rfl, by decide, tw_1941, Or.inl rfl⟩
theorem tw_1942 : Jvm.Cond.fieldLink "WordFinderModel" (141 : Nat) "WordFinderModel" "differMany" "I" ∈ Tall := Tall_of (List.mem_of_getElem? (i := 1942) (by decide +kernel)) (by decide +kernel)
theorem fl_X12_141 : FL RX12 141 12 59 := ⟨(RX12, TX12, 60), "WordFinderModel", rfl, by decide, tw_1942, Or.inl rfl⟩
theorem tw_2125 : Jvm.Cond.methodLink "WordFinderModel" (144 : Nat) ({ cls := "WordFinderModel", name := "letters", desc := "(I)I" } : Jvm.MethodName) ∈ Tall := Tall_of (List.mem_of_getElem? (i := 2125) (by decide +kernel)) (by decide +kernel)
theorem tw_117 : Jvm.Cond.initialized "WordFinderModel" ∈ Tall := Tall_of (List.mem_of_getElem? (i := 117) (by decide +kernel)) (by decide +kernel)
theorem tw_2127 : Jvm.Cond.code ({ cls := "WordFinderModel", name := "letters", desc := "(I)I" } : Jvm.MethodName) prog_14_method_5_code (3 : Nat) (Option.some Jvm.ClassFile.FieldType.int) ∈ Tall := Tall_of (List.mem_of_getElem? (i := 2127) (by decide +kernel)) (by decide +kernel)
theorem tw_2126 : Jvm.Cond.static ({ cls := "WordFinderModel", name := "letters", desc := "(I)I" } : Jvm.MethodName) ∈ Tall := Tall_of (List.mem_of_getElem? (i := 2126) (by decide +kernel)) (by decide +kernel)
theorem ml_X12_144 : MLS RX12 144 yX12_letters cX12_letters 3 (some .int) 1 := ⟨⟨⟨by decide, by decide⟩, by decide +kernel, tw_2125, tw_117, tw_2127, by decide⟩, tw_2126⟩
theorem tw_2099 : Jvm.Cond.methodLink "WordFinderModel" (148 : Nat) ({ cls := "WordFinderModel", name := "in", desc := "(III)Z" } : Jvm.MethodName) ∈ Tall := Tall_of (List.mem_of_getElem? (i := 2099) (by decide +kernel)) (by decide +kernel)
theorem tw_2101 : Jvm.Cond.code ({ cls := "WordFinderModel", name := "in", desc := "(III)Z" } : Jvm.MethodName) prog_14_method_2_code (3 : Nat) (Option.some Jvm.ClassFile.FieldType.boolean) ∈ Tall := Tall_of (List.mem_of_getElem? (i := 2101) (by decide +kernel)) (by decide +kernel)
theorem tw_2100 : Jvm.Cond.static ({ cls := "WordFinderModel", name := "in", desc := "(III)Z" } : Jvm.MethodName) ∈ Tall := Tall_of (List.mem_of_getElem? (i := 2100) (by decide +kernel)) (by decide +kernel)
theorem ml_X12_148 : MLS RX12 148 yX12_in cX12_in 3 (some .boolean) 3 := ⟨⟨⟨by decide, by decide⟩, by decide +kernel, tw_2099, tw_117, tw_2101, by decide⟩, tw_2100⟩
theorem tw_2164 : Jvm.Cond.methodLink "WordFinderModel" (152 : Nat) ({ cls := "WordFinderModel", name := "isWord", desc := "(I)Z" } : Jvm.MethodName) ∈ Tall := Tall_of (List.mem_of_getElem? (i := 2164) (by decide +kernel)) (by decide +kernel)
theorem tw_2166 : Jvm.Cond.code ({ cls := "WordFinderModel", name := "isWord", desc := "(I)Z" } : Jvm.MethodName) prog_14_method_6_code (2 : Nat) (Option.some Jvm.ClassFile.FieldType.boolean) ∈ Tall := Tall_of (List.mem_of_getElem? (i := 2166) (by decide +kernel)) (by decide +kernel)
theorem tw_2165 : Jvm.Cond.static ({ cls := "WordFinderModel", name := "isWord", desc := "(I)Z" } : Jvm.MethodName) ∈ Tall := Tall_of (List.mem_of_getElem? (i := 2165) (by decide +kernel)) (by decide +kernel)
theorem ml_X12_152 : MLS RX12 152 yX12_isWord cX12_isWord 2 (some .boolean) 1 := ⟨⟨⟨by decide, by decide⟩, by decide +kernel, tw_2164, tw_117, tw_2166, by decide⟩, tw_2165⟩
theorem tw_2072 : Jvm.Cond.methodLink "WordFinderModel" (156 : Nat) ({ cls := "WordFinderModel", name := "fails", desc := "(ZI)Z" } : Jvm.MethodName) ∈ Tall := Tall_of (List.mem_of_getElem? (i := 2072) (by decide +kernel)) (by decide +kernel)
theorem tw_2075 : Jvm.Cond.code ({ cls := "WordFinderModel", name := "fails", desc := "(ZI)Z" } : Jvm.MethodName) prog_14_method_3_code (3 : Nat) (Option.some Jvm.ClassFile.FieldType.boolean) ∈ Tall := Tall_of (List.mem_of_getElem? (i := 2075) (by decide +kernel)) (by decide +kernel)
theorem tw_2074 : Jvm.Cond.instanceMethod ({ cls := "WordFinderModel", name := "fails", desc := "(ZI)Z" } : Jvm.MethodName) ∈ Tall := Tall_of (List.mem_of_getElem? (i := 2074) (by decide +kernel)) (by decide +kernel)
theorem tw_40 : Cond.selects "WordFinderModel" ⟨"WordFinderModel", "fails", "(ZI)Z"⟩ ⟨"WordFinderModel", "fails", "(ZI)Z"⟩ ∈ Tall := Tall_of (List.mem_of_getElem? (i := 40) (by decide +kernel)) (by decide +kernel)
theorem ml_X12_156 : MLV RX12 156 yX12_fails cX12_fails 3 (some .boolean) 2 12 := ⟨⟨⟨by decide, by decide⟩, by decide +kernel, tw_2072, tw_117, tw_2075, by decide⟩, tw_2074, tw_40, (RX12, TX12, 60), rfl, rfl⟩
theorem tw_2229 : Jvm.Cond.methodLink "WordFinderModel" (160 : Nat) ({ cls := "WordFinderModel", name := "order", desc := "(I)I" } : Jvm.MethodName) ∈ Tall := Tall_of (List.mem_of_getElem? (i := 2229) (by decide +kernel)) (by decide +kernel)
theorem tw_2231 : Jvm.Cond.code ({ cls := "WordFinderModel", name := "order", desc := "(I)I" } : Jvm.MethodName) prog_14_method_8_code (3 : Nat) (Option.some Jvm.ClassFile.FieldType.int) ∈ Tall := Tall_of (List.mem_of_getElem? (i := 2231) (by decide +kernel)) (by decide +kernel)
theorem tw_2230 : Jvm.Cond.static ({ cls := "WordFinderModel", name := "order", desc := "(I)I" } : Jvm.MethodName) ∈ Tall := Tall_of (List.mem_of_getElem? (i := 2230) (by decide +kernel)) (by decide +kernel)
theorem ml_X12_160 : MLS RX12 160 yX12_order cX12_order 3 (some .int) 1 := ⟨⟨⟨by decide, by decide⟩, by decide +kernel, tw_2229, tw_117, tw_2231, by decide⟩, tw_2230⟩
theorem tw_1885 : Jvm.Cond.fieldLink "WordFinderModel" (163 : Nat) "WordFinderModel" "tapeMany" "I" ∈ Tall := Tall_of (List.mem_of_getElem? (i := 1885) (by decide +kernel)) (by decide +kernel)
theorem fl_X12_163 : FL RX12 163 12 2 := ⟨(RX12, TX12, 60), "WordFinderModel", rfl, by decide, tw_1885, Or.inl rfl⟩
theorem tw_2069 : Jvm.Cond.methodLink "WordFinderModel" (166 : Nat) ({ cls := "WordFinderModel", name := "bytesIn", desc := "(I)I" } : Jvm.MethodName) ∈ Tall := Tall_of (List.mem_of_getElem? (i := 2069) (by decide +kernel)) (by decide +kernel)
theorem tw_2071 : Jvm.Cond.code ({ cls := "WordFinderModel", name := "bytesIn", desc := "(I)I" } : Jvm.MethodName) prog_14_method_12_code (3 : Nat) (Option.some Jvm.ClassFile.FieldType.int) ∈ Tall := Tall_of (List.mem_of_getElem? (i := 2071) (by decide +kernel)) (by decide +kernel)
theorem tw_2070 : Jvm.Cond.static ({ cls := "WordFinderModel", name := "bytesIn", desc := "(I)I" } : Jvm.MethodName) ∈ Tall := Tall_of (List.mem_of_getElem? (i := 2070) (by decide +kernel)) (by decide +kernel)
theorem ml_X12_166 : MLS RX12 166 yX12_bytesIn cX12_bytesIn 3 (some .int) 1 := ⟨⟨⟨by decide, by decide⟩, by decide +kernel, tw_2069, tw_117, tw_2071, by decide⟩, tw_2070⟩
theorem tw_2076 : Jvm.Cond.methodLink "WordFinderModel" (169 : Nat) ({ cls := "WordFinderModel", name := "takesBytes", desc := "(I)V" } : Jvm.MethodName) ∈ Tall := Tall_of (List.mem_of_getElem? (i := 2076) (by decide +kernel)) (by decide +kernel)
theorem tw_2079 : Jvm.Cond.code ({ cls := "WordFinderModel", name := "takesBytes", desc := "(I)V" } : Jvm.MethodName) prog_14_method_13_code (4 : Nat) (Option.none : Option Jvm.ClassFile.FieldType) ∈ Tall := Tall_of (List.mem_of_getElem? (i := 2079) (by decide +kernel)) (by decide +kernel)
theorem tw_2078 : Jvm.Cond.instanceMethod ({ cls := "WordFinderModel", name := "takesBytes", desc := "(I)V" } : Jvm.MethodName) ∈ Tall := Tall_of (List.mem_of_getElem? (i := 2078) (by decide +kernel)) (by decide +kernel)
theorem tw_41 : Cond.selects "WordFinderModel" ⟨"WordFinderModel", "takesBytes", "(I)V"⟩ ⟨"WordFinderModel", "takesBytes", "(I)V"⟩ ∈ Tall := Tall_of (List.mem_of_getElem? (i := 41) (by decide +kernel)) (by decide +kernel)
theorem ml_X12_169 : MLV RX12 169 yX12_takesBytes cX12_takesBytes 4 (none) 1 12 := ⟨⟨⟨by decide, by decide⟩, by decide +kernel, tw_2076, tw_117, tw_2079, by decide⟩, tw_2078, tw_41, (RX12, TX12, 60), rfl, rfl⟩
