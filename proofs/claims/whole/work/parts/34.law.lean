theorem w_3_44 : (Jvm.Cond.methodLink "OwlsLentLaw" (25 : Nat) ({ cls := "OwlsLent", name := "feed", desc := "(IIIII)I" } : Jvm.MethodName)) ∈ GT := GT_in (tlw (tin_3 (List.mem_of_getElem? (i := 44) rfl))) rfl
theorem w_3_45 : (Jvm.Cond.instanceMethod ({ cls := "OwlsLent", name := "feed", desc := "(IIIII)I" } : Jvm.MethodName)) ∈ GT := GT_in (tlw (tin_3 (List.mem_of_getElem? (i := 45) rfl))) rfl
theorem w_3_46 : (Jvm.Cond.selects "OwlsLent" ({ cls := "OwlsLent", name := "feed", desc := "(IIIII)I" } : Jvm.MethodName) ({ cls := "OwlsLent", name := "feed", desc := "(IIIII)I" } : Jvm.MethodName)) ∈ GT := GT_in (tlw (tin_3 (List.mem_of_getElem? (i := 46) rfl))) rfl
theorem w_3_47 : (Jvm.Cond.code ({ cls := "OwlsLent", name := "feed", desc := "(IIIII)I" } : Jvm.MethodName) prog_1_method_2_code (6 : Nat) (Option.some Jvm.ClassFile.FieldType.int)) ∈ GT := GT_in (tlw (tin_3 (List.mem_of_getElem? (i := 47) rfl))) rfl
theorem w_3_56 : (Jvm.Cond.methodLink "OwlsLentLaw" (30 : Nat) ({ cls := "OwlsLent", name := "end", desc := "(I)Z" } : Jvm.MethodName)) ∈ GT := GT_in (tlw (tin_3 (List.mem_of_getElem? (i := 56) rfl))) rfl
theorem w_3_57 : (Jvm.Cond.instanceMethod ({ cls := "OwlsLent", name := "end", desc := "(I)Z" } : Jvm.MethodName)) ∈ GT := GT_in (tlw (tin_3 (List.mem_of_getElem? (i := 57) rfl))) rfl
theorem w_3_58 : (Jvm.Cond.selects "OwlsLent" ({ cls := "OwlsLent", name := "end", desc := "(I)Z" } : Jvm.MethodName) ({ cls := "OwlsLent", name := "end", desc := "(I)Z" } : Jvm.MethodName)) ∈ GT := GT_in (tlw (tin_3 (List.mem_of_getElem? (i := 58) rfl))) rfl
theorem w_3_59 : (Jvm.Cond.code ({ cls := "OwlsLent", name := "end", desc := "(I)Z" } : Jvm.MethodName) prog_1_method_3_code (2 : Nat) (Option.some Jvm.ClassFile.FieldType.boolean)) ∈ GT := GT_in (tlw (tin_3 (List.mem_of_getElem? (i := 59) rfl))) rfl
theorem w_3_60 : (Jvm.Cond.methodLink "OwlsLentLaw" (35 : Nat) ({ cls := "OwlsLent", name := "house", desc := "()I" } : Jvm.MethodName)) ∈ GT := GT_in (tlw (tin_3 (List.mem_of_getElem? (i := 60) rfl))) rfl
theorem w_3_61 : (Jvm.Cond.instanceMethod ({ cls := "OwlsLent", name := "house", desc := "()I" } : Jvm.MethodName)) ∈ GT := GT_in (tlw (tin_3 (List.mem_of_getElem? (i := 61) rfl))) rfl
theorem w_3_62 : (Jvm.Cond.selects "OwlsLent" ({ cls := "OwlsLent", name := "house", desc := "()I" } : Jvm.MethodName) ({ cls := "OwlsLent", name := "house", desc := "()I" } : Jvm.MethodName)) ∈ GT := GT_in (tlw (tin_3 (List.mem_of_getElem? (i := 62) rfl))) rfl
theorem w_3_63 : (Jvm.Cond.code ({ cls := "OwlsLent", name := "house", desc := "()I" } : Jvm.MethodName) prog_1_method_4_code (2 : Nat) (Option.some Jvm.ClassFile.FieldType.int)) ∈ GT := GT_in (tlw (tin_3 (List.mem_of_getElem? (i := 63) rfl))) rfl
theorem w_3_196 : (Jvm.Cond.methodLink "OwlsLentLaw" (40 : Nat) ({ cls := "OwlsLent", name := "fault", desc := "()I" } : Jvm.MethodName)) ∈ GT := GT_in (tlw (tin_3 (List.mem_of_getElem? (i := 196) rfl))) rfl
theorem w_3_197 : (Jvm.Cond.instanceMethod ({ cls := "OwlsLent", name := "fault", desc := "()I" } : Jvm.MethodName)) ∈ GT := GT_in (tlw (tin_3 (List.mem_of_getElem? (i := 197) rfl))) rfl
theorem w_3_198 : (Jvm.Cond.selects "OwlsLent" ({ cls := "OwlsLent", name := "fault", desc := "()I" } : Jvm.MethodName) ({ cls := "OwlsLent", name := "fault", desc := "()I" } : Jvm.MethodName)) ∈ GT := GT_in (tlw (tin_3 (List.mem_of_getElem? (i := 198) rfl))) rfl
theorem w_3_199 : (Jvm.Cond.code ({ cls := "OwlsLent", name := "fault", desc := "()I" } : Jvm.MethodName) prog_1_method_5_code (1 : Nat) (Option.some Jvm.ClassFile.FieldType.int)) ∈ GT := GT_in (tlw (tin_3 (List.mem_of_getElem? (i := 199) rfl))) rfl
theorem w_3_200 : (Jvm.Cond.methodLink "OwlsLentLaw" (56 : Nat) ({ cls := "OwlsLent", name := "sound", desc := "(II)I" } : Jvm.MethodName)) ∈ GT := GT_in (tlw (tin_3 (List.mem_of_getElem? (i := 200) rfl))) rfl
theorem w_3_201 : (Jvm.Cond.instanceMethod ({ cls := "OwlsLent", name := "sound", desc := "(II)I" } : Jvm.MethodName)) ∈ GT := GT_in (tlw (tin_3 (List.mem_of_getElem? (i := 201) rfl))) rfl
theorem w_3_202 : (Jvm.Cond.selects "OwlsLent" ({ cls := "OwlsLent", name := "sound", desc := "(II)I" } : Jvm.MethodName) ({ cls := "OwlsLent", name := "sound", desc := "(II)I" } : Jvm.MethodName)) ∈ GT := GT_in (tlw (tin_3 (List.mem_of_getElem? (i := 202) rfl))) rfl
theorem w_3_203 : (Jvm.Cond.code ({ cls := "OwlsLent", name := "sound", desc := "(II)I" } : Jvm.MethodName) prog_1_method_9_code (5 : Nat) (Option.some Jvm.ClassFile.FieldType.int)) ∈ GT := GT_in (tlw (tin_3 (List.mem_of_getElem? (i := 203) rfl))) rfl
theorem w_3_215 : (Jvm.Cond.methodLink "OwlsLentLaw" (60 : Nat) ({ cls := "OwlsLent", name := "now", desc := "(I)I" } : Jvm.MethodName)) ∈ GT := GT_in (tlw (tin_3 (List.mem_of_getElem? (i := 215) rfl))) rfl
theorem w_3_216 : (Jvm.Cond.instanceMethod ({ cls := "OwlsLent", name := "now", desc := "(I)I" } : Jvm.MethodName)) ∈ GT := GT_in (tlw (tin_3 (List.mem_of_getElem? (i := 216) rfl))) rfl
theorem w_3_217 : (Jvm.Cond.selects "OwlsLent" ({ cls := "OwlsLent", name := "now", desc := "(I)I" } : Jvm.MethodName) ({ cls := "OwlsLent", name := "now", desc := "(I)I" } : Jvm.MethodName)) ∈ GT := GT_in (tlw (tin_3 (List.mem_of_getElem? (i := 217) rfl))) rfl
theorem w_3_218 : (Jvm.Cond.code ({ cls := "OwlsLent", name := "now", desc := "(I)I" } : Jvm.MethodName) prog_1_method_10_code (4 : Nat) (Option.some Jvm.ClassFile.FieldType.int)) ∈ GT := GT_in (tlw (tin_3 (List.mem_of_getElem? (i := 218) rfl))) rfl
theorem w_4_23 : (Jvm.Cond.methodLink "OwlsLentLaw" (197 : Nat) ({ cls := "OwlsLent", name := "count", desc := "(I)I" } : Jvm.MethodName)) ∈ GT := GT_in (tlw (tin_4 (List.mem_of_getElem? (i := 23) rfl))) rfl
theorem w_4_24 : (Jvm.Cond.instanceMethod ({ cls := "OwlsLent", name := "count", desc := "(I)I" } : Jvm.MethodName)) ∈ GT := GT_in (tlw (tin_4 (List.mem_of_getElem? (i := 24) rfl))) rfl
theorem w_4_25 : (Jvm.Cond.selects "OwlsLent" ({ cls := "OwlsLent", name := "count", desc := "(I)I" } : Jvm.MethodName) ({ cls := "OwlsLent", name := "count", desc := "(I)I" } : Jvm.MethodName)) ∈ GT := GT_in (tlw (tin_4 (List.mem_of_getElem? (i := 25) rfl))) rfl
theorem w_4_26 : (Jvm.Cond.code ({ cls := "OwlsLent", name := "count", desc := "(I)I" } : Jvm.MethodName) prog_1_method_11_code (3 : Nat) (Option.some Jvm.ClassFile.FieldType.int)) ∈ GT := GT_in (tlw (tin_4 (List.mem_of_getElem? (i := 26) rfl))) rfl
theorem w_4_27 : (Jvm.Cond.methodLink "OwlsLentLaw" (65 : Nat) ({ cls := "OwlsLent", name := "lend", desc := "(II)I" } : Jvm.MethodName)) ∈ GT := GT_in (tlw (tin_4 (List.mem_of_getElem? (i := 27) rfl))) rfl
theorem w_4_28 : (Jvm.Cond.instanceMethod ({ cls := "OwlsLent", name := "lend", desc := "(II)I" } : Jvm.MethodName)) ∈ GT := GT_in (tlw (tin_4 (List.mem_of_getElem? (i := 28) rfl))) rfl
theorem w_4_29 : (Jvm.Cond.selects "OwlsLent" ({ cls := "OwlsLent", name := "lend", desc := "(II)I" } : Jvm.MethodName) ({ cls := "OwlsLent", name := "lend", desc := "(II)I" } : Jvm.MethodName)) ∈ GT := GT_in (tlw (tin_4 (List.mem_of_getElem? (i := 29) rfl))) rfl
theorem w_4_30 : (Jvm.Cond.code ({ cls := "OwlsLent", name := "lend", desc := "(II)I" } : Jvm.MethodName) prog_1_method_12_code (4 : Nat) (Option.some Jvm.ClassFile.FieldType.int)) ∈ GT := GT_in (tlw (tin_4 (List.mem_of_getElem? (i := 30) rfl))) rfl
theorem w_4_66 : (Jvm.Cond.methodLink "OwlsLentLaw" (69 : Nat) ({ cls := "OwlsLent", name := "hush", desc := "(I)I" } : Jvm.MethodName)) ∈ GT := GT_in (tlw (tin_4 (List.mem_of_getElem? (i := 66) rfl))) rfl
theorem w_4_67 : (Jvm.Cond.instanceMethod ({ cls := "OwlsLent", name := "hush", desc := "(I)I" } : Jvm.MethodName)) ∈ GT := GT_in (tlw (tin_4 (List.mem_of_getElem? (i := 67) rfl))) rfl
theorem w_4_68 : (Jvm.Cond.selects "OwlsLent" ({ cls := "OwlsLent", name := "hush", desc := "(I)I" } : Jvm.MethodName) ({ cls := "OwlsLent", name := "hush", desc := "(I)I" } : Jvm.MethodName)) ∈ GT := GT_in (tlw (tin_4 (List.mem_of_getElem? (i := 68) rfl))) rfl
theorem w_4_69 : (Jvm.Cond.code ({ cls := "OwlsLent", name := "hush", desc := "(I)I" } : Jvm.MethodName) prog_1_method_13_code (2 : Nat) (Option.some Jvm.ClassFile.FieldType.int)) ∈ GT := GT_in (tlw (tin_4 (List.mem_of_getElem? (i := 69) rfl))) rfl
theorem w_4_74 : (Jvm.Cond.methodLink "OwlsLentLaw" (73 : Nat) ({ cls := "OwlsLent", name := "let", desc := "(I)I" } : Jvm.MethodName)) ∈ GT := GT_in (tlw (tin_4 (List.mem_of_getElem? (i := 74) rfl))) rfl
theorem w_4_75 : (Jvm.Cond.instanceMethod ({ cls := "OwlsLent", name := "let", desc := "(I)I" } : Jvm.MethodName)) ∈ GT := GT_in (tlw (tin_4 (List.mem_of_getElem? (i := 75) rfl))) rfl
theorem w_4_76 : (Jvm.Cond.selects "OwlsLent" ({ cls := "OwlsLent", name := "let", desc := "(I)I" } : Jvm.MethodName) ({ cls := "OwlsLent", name := "let", desc := "(I)I" } : Jvm.MethodName)) ∈ GT := GT_in (tlw (tin_4 (List.mem_of_getElem? (i := 76) rfl))) rfl
theorem w_4_77 : (Jvm.Cond.code ({ cls := "OwlsLent", name := "let", desc := "(I)I" } : Jvm.MethodName) prog_1_method_14_code (2 : Nat) (Option.some Jvm.ClassFile.FieldType.int)) ∈ GT := GT_in (tlw (tin_4 (List.mem_of_getElem? (i := 77) rfl))) rfl
theorem w_4_82 : (Jvm.Cond.methodLink "OwlsLentLaw" (77 : Nat) ({ cls := "OwlsLent", name := "shout", desc := "(III)I" } : Jvm.MethodName)) ∈ GT := GT_in (tlw (tin_4 (List.mem_of_getElem? (i := 82) rfl))) rfl
theorem w_4_83 : (Jvm.Cond.instanceMethod ({ cls := "OwlsLent", name := "shout", desc := "(III)I" } : Jvm.MethodName)) ∈ GT := GT_in (tlw (tin_4 (List.mem_of_getElem? (i := 83) rfl))) rfl
theorem w_4_84 : (Jvm.Cond.selects "OwlsLent" ({ cls := "OwlsLent", name := "shout", desc := "(III)I" } : Jvm.MethodName) ({ cls := "OwlsLent", name := "shout", desc := "(III)I" } : Jvm.MethodName)) ∈ GT := GT_in (tlw (tin_4 (List.mem_of_getElem? (i := 84) rfl))) rfl
theorem w_4_85 : (Jvm.Cond.code ({ cls := "OwlsLent", name := "shout", desc := "(III)I" } : Jvm.MethodName) prog_1_method_15_code (4 : Nat) (Option.some Jvm.ClassFile.FieldType.int)) ∈ GT := GT_in (tlw (tin_4 (List.mem_of_getElem? (i := 85) rfl))) rfl
theorem w_4_98 : (Jvm.Cond.methodLink "OwlsLentLaw" (82 : Nat) ({ cls := "OwlsLent", name := "hours", desc := "(I)I" } : Jvm.MethodName)) ∈ GT := GT_in (tlw (tin_4 (List.mem_of_getElem? (i := 98) rfl))) rfl
theorem w_4_99 : (Jvm.Cond.instanceMethod ({ cls := "OwlsLent", name := "hours", desc := "(I)I" } : Jvm.MethodName)) ∈ GT := GT_in (tlw (tin_4 (List.mem_of_getElem? (i := 99) rfl))) rfl
theorem w_4_100 : (Jvm.Cond.selects "OwlsLent" ({ cls := "OwlsLent", name := "hours", desc := "(I)I" } : Jvm.MethodName) ({ cls := "OwlsLent", name := "hours", desc := "(I)I" } : Jvm.MethodName)) ∈ GT := GT_in (tlw (tin_4 (List.mem_of_getElem? (i := 100) rfl))) rfl
theorem w_4_101 : (Jvm.Cond.code ({ cls := "OwlsLent", name := "hours", desc := "(I)I" } : Jvm.MethodName) prog_1_method_16_code (4 : Nat) (Option.some Jvm.ClassFile.FieldType.int)) ∈ GT := GT_in (tlw (tin_4 (List.mem_of_getElem? (i := 101) rfl))) rfl
theorem w_4_107 : (Jvm.Cond.methodLink "OwlsLentLaw" (165 : Nat) ({ cls := "OwlsLent", name := "drawn", desc := "(II)I" } : Jvm.MethodName)) ∈ GT := GT_in (tlw (tin_4 (List.mem_of_getElem? (i := 107) rfl))) rfl
theorem w_4_108 : (Jvm.Cond.instanceMethod ({ cls := "OwlsLent", name := "drawn", desc := "(II)I" } : Jvm.MethodName)) ∈ GT := GT_in (tlw (tin_4 (List.mem_of_getElem? (i := 108) rfl))) rfl
theorem w_4_109 : (Jvm.Cond.selects "OwlsLent" ({ cls := "OwlsLent", name := "drawn", desc := "(II)I" } : Jvm.MethodName) ({ cls := "OwlsLent", name := "drawn", desc := "(II)I" } : Jvm.MethodName)) ∈ GT := GT_in (tlw (tin_4 (List.mem_of_getElem? (i := 109) rfl))) rfl
theorem w_4_110 : (Jvm.Cond.code ({ cls := "OwlsLent", name := "drawn", desc := "(II)I" } : Jvm.MethodName) prog_1_method_17_code (4 : Nat) (Option.some Jvm.ClassFile.FieldType.int)) ∈ GT := GT_in (tlw (tin_4 (List.mem_of_getElem? (i := 110) rfl))) rfl
theorem w_4_124 : (Jvm.Cond.methodLink "OwlsLentLaw" (86 : Nat) ({ cls := "OwlsLent", name := "undo", desc := "()I" } : Jvm.MethodName)) ∈ GT := GT_in (tlw (tin_4 (List.mem_of_getElem? (i := 124) rfl))) rfl
theorem w_4_125 : (Jvm.Cond.instanceMethod ({ cls := "OwlsLent", name := "undo", desc := "()I" } : Jvm.MethodName)) ∈ GT := GT_in (tlw (tin_4 (List.mem_of_getElem? (i := 125) rfl))) rfl
theorem w_4_126 : (Jvm.Cond.selects "OwlsLent" ({ cls := "OwlsLent", name := "undo", desc := "()I" } : Jvm.MethodName) ({ cls := "OwlsLent", name := "undo", desc := "()I" } : Jvm.MethodName)) ∈ GT := GT_in (tlw (tin_4 (List.mem_of_getElem? (i := 126) rfl))) rfl
theorem w_4_127 : (Jvm.Cond.code ({ cls := "OwlsLent", name := "undo", desc := "()I" } : Jvm.MethodName) prog_1_method_18_code (1 : Nat) (Option.some Jvm.ClassFile.FieldType.int)) ∈ GT := GT_in (tlw (tin_4 (List.mem_of_getElem? (i := 127) rfl))) rfl
theorem w_4_132 : (Jvm.Cond.methodLink "OwlsLentLaw" (90 : Nat) ({ cls := "OwlsLent", name := "hears", desc := "(I)I" } : Jvm.MethodName)) ∈ GT := GT_in (tlw (tin_4 (List.mem_of_getElem? (i := 132) rfl))) rfl
theorem w_4_133 : (Jvm.Cond.instanceMethod ({ cls := "OwlsLent", name := "hears", desc := "(I)I" } : Jvm.MethodName)) ∈ GT := GT_in (tlw (tin_4 (List.mem_of_getElem? (i := 133) rfl))) rfl
theorem w_4_134 : (Jvm.Cond.selects "OwlsLent" ({ cls := "OwlsLent", name := "hears", desc := "(I)I" } : Jvm.MethodName) ({ cls := "OwlsLent", name := "hears", desc := "(I)I" } : Jvm.MethodName)) ∈ GT := GT_in (tlw (tin_4 (List.mem_of_getElem? (i := 134) rfl))) rfl
theorem w_4_135 : (Jvm.Cond.code ({ cls := "OwlsLent", name := "hears", desc := "(I)I" } : Jvm.MethodName) prog_1_method_21_code (4 : Nat) (Option.some Jvm.ClassFile.FieldType.int)) ∈ GT := GT_in (tlw (tin_4 (List.mem_of_getElem? (i := 135) rfl))) rfl
theorem w_4_140 : (Jvm.Cond.methodLink "OwlsLentLaw" (94 : Nat) ({ cls := "OwlsLent", name := "would", desc := "(II)I" } : Jvm.MethodName)) ∈ GT := GT_in (tlw (tin_4 (List.mem_of_getElem? (i := 140) rfl))) rfl
theorem w_4_141 : (Jvm.Cond.instanceMethod ({ cls := "OwlsLent", name := "would", desc := "(II)I" } : Jvm.MethodName)) ∈ GT := GT_in (tlw (tin_4 (List.mem_of_getElem? (i := 141) rfl))) rfl
theorem w_4_142 : (Jvm.Cond.selects "OwlsLent" ({ cls := "OwlsLent", name := "would", desc := "(II)I" } : Jvm.MethodName) ({ cls := "OwlsLent", name := "would", desc := "(II)I" } : Jvm.MethodName)) ∈ GT := GT_in (tlw (tin_4 (List.mem_of_getElem? (i := 142) rfl))) rfl
theorem w_4_143 : (Jvm.Cond.code ({ cls := "OwlsLent", name := "would", desc := "(II)I" } : Jvm.MethodName) prog_1_method_22_code (5 : Nat) (Option.some Jvm.ClassFile.FieldType.int)) ∈ GT := GT_in (tlw (tin_4 (List.mem_of_getElem? (i := 143) rfl))) rfl
theorem w_4_150 : (Jvm.Cond.methodLink "OwlsLentLaw" (98 : Nat) ({ cls := "OwlsLent", name := "when", desc := "(II)I" } : Jvm.MethodName)) ∈ GT := GT_in (tlw (tin_4 (List.mem_of_getElem? (i := 150) rfl))) rfl
theorem w_4_151 : (Jvm.Cond.instanceMethod ({ cls := "OwlsLent", name := "when", desc := "(II)I" } : Jvm.MethodName)) ∈ GT := GT_in (tlw (tin_4 (List.mem_of_getElem? (i := 151) rfl))) rfl
theorem w_4_152 : (Jvm.Cond.selects "OwlsLent" ({ cls := "OwlsLent", name := "when", desc := "(II)I" } : Jvm.MethodName) ({ cls := "OwlsLent", name := "when", desc := "(II)I" } : Jvm.MethodName)) ∈ GT := GT_in (tlw (tin_4 (List.mem_of_getElem? (i := 152) rfl))) rfl
theorem w_4_153 : (Jvm.Cond.code ({ cls := "OwlsLent", name := "when", desc := "(II)I" } : Jvm.MethodName) prog_1_method_23_code (8 : Nat) (Option.some Jvm.ClassFile.FieldType.int)) ∈ GT := GT_in (tlw (tin_4 (List.mem_of_getElem? (i := 153) rfl))) rfl
theorem w_4_154 : (Jvm.Cond.methodLink "OwlsLentLaw" (153 : Nat) ({ cls := "OwlsLent", name := "worth", desc := "(II)I" } : Jvm.MethodName)) ∈ GT := GT_in (tlw (tin_4 (List.mem_of_getElem? (i := 154) rfl))) rfl
theorem w_4_155 : (Jvm.Cond.instanceMethod ({ cls := "OwlsLent", name := "worth", desc := "(II)I" } : Jvm.MethodName)) ∈ GT := GT_in (tlw (tin_4 (List.mem_of_getElem? (i := 155) rfl))) rfl
theorem w_4_156 : (Jvm.Cond.selects "OwlsLent" ({ cls := "OwlsLent", name := "worth", desc := "(II)I" } : Jvm.MethodName) ({ cls := "OwlsLent", name := "worth", desc := "(II)I" } : Jvm.MethodName)) ∈ GT := GT_in (tlw (tin_4 (List.mem_of_getElem? (i := 156) rfl))) rfl
theorem w_4_157 : (Jvm.Cond.code ({ cls := "OwlsLent", name := "worth", desc := "(II)I" } : Jvm.MethodName) prog_1_method_25_code (10 : Nat) (Option.some Jvm.ClassFile.FieldType.int)) ∈ GT := GT_in (tlw (tin_4 (List.mem_of_getElem? (i := 157) rfl))) rfl
theorem w_4_161 : (Jvm.Cond.methodLink "OwlsLentLaw" (105 : Nat) ({ cls := "OwlsLent", name := "spots", desc := "()I" } : Jvm.MethodName)) ∈ GT := GT_in (tlw (tin_4 (List.mem_of_getElem? (i := 161) rfl))) rfl
theorem w_4_162 : (Jvm.Cond.instanceMethod ({ cls := "OwlsLent", name := "spots", desc := "()I" } : Jvm.MethodName)) ∈ GT := GT_in (tlw (tin_4 (List.mem_of_getElem? (i := 162) rfl))) rfl
theorem w_4_163 : (Jvm.Cond.selects "OwlsLent" ({ cls := "OwlsLent", name := "spots", desc := "()I" } : Jvm.MethodName) ({ cls := "OwlsLent", name := "spots", desc := "()I" } : Jvm.MethodName)) ∈ GT := GT_in (tlw (tin_4 (List.mem_of_getElem? (i := 163) rfl))) rfl
theorem w_4_164 : (Jvm.Cond.code ({ cls := "OwlsLent", name := "spots", desc := "()I" } : Jvm.MethodName) prog_1_method_26_code (2 : Nat) (Option.some Jvm.ClassFile.FieldType.int)) ∈ GT := GT_in (tlw (tin_4 (List.mem_of_getElem? (i := 164) rfl))) rfl
theorem w_4_189 : (Jvm.Cond.methodLink "OwlsLentLaw" (109 : Nat) ({ cls := "OwlsLent", name := "spotAt", desc := "(I)I" } : Jvm.MethodName)) ∈ GT := GT_in (tlw (tin_4 (List.mem_of_getElem? (i := 189) rfl))) rfl
theorem w_4_190 : (Jvm.Cond.instanceMethod ({ cls := "OwlsLent", name := "spotAt", desc := "(I)I" } : Jvm.MethodName)) ∈ GT := GT_in (tlw (tin_4 (List.mem_of_getElem? (i := 190) rfl))) rfl
theorem w_4_191 : (Jvm.Cond.selects "OwlsLent" ({ cls := "OwlsLent", name := "spotAt", desc := "(I)I" } : Jvm.MethodName) ({ cls := "OwlsLent", name := "spotAt", desc := "(I)I" } : Jvm.MethodName)) ∈ GT := GT_in (tlw (tin_4 (List.mem_of_getElem? (i := 191) rfl))) rfl
theorem w_4_192 : (Jvm.Cond.code ({ cls := "OwlsLent", name := "spotAt", desc := "(I)I" } : Jvm.MethodName) prog_1_method_27_code (2 : Nat) (Option.some Jvm.ClassFile.FieldType.int)) ∈ GT := GT_in (tlw (tin_4 (List.mem_of_getElem? (i := 192) rfl))) rfl
theorem w_4_193 : (Jvm.Cond.methodLink "OwlsLentLaw" (113 : Nat) ({ cls := "OwlsLent", name := "next", desc := "()I" } : Jvm.MethodName)) ∈ GT := GT_in (tlw (tin_4 (List.mem_of_getElem? (i := 193) rfl))) rfl
theorem w_4_194 : (Jvm.Cond.instanceMethod ({ cls := "OwlsLent", name := "next", desc := "()I" } : Jvm.MethodName)) ∈ GT := GT_in (tlw (tin_4 (List.mem_of_getElem? (i := 194) rfl))) rfl
theorem w_4_195 : (Jvm.Cond.selects "OwlsLent" ({ cls := "OwlsLent", name := "next", desc := "()I" } : Jvm.MethodName) ({ cls := "OwlsLent", name := "next", desc := "()I" } : Jvm.MethodName)) ∈ GT := GT_in (tlw (tin_4 (List.mem_of_getElem? (i := 195) rfl))) rfl
theorem w_4_196 : (Jvm.Cond.code ({ cls := "OwlsLent", name := "next", desc := "()I" } : Jvm.MethodName) prog_1_method_28_code (1 : Nat) (Option.some Jvm.ClassFile.FieldType.int)) ∈ GT := GT_in (tlw (tin_4 (List.mem_of_getElem? (i := 196) rfl))) rfl
theorem w_4_197 : (Jvm.Cond.methodLink "OwlsLentLaw" (117 : Nat) ({ cls := "OwlsLent", name := "keen", desc := "()I" } : Jvm.MethodName)) ∈ GT := GT_in (tlw (tin_4 (List.mem_of_getElem? (i := 197) rfl))) rfl
theorem w_4_198 : (Jvm.Cond.instanceMethod ({ cls := "OwlsLent", name := "keen", desc := "()I" } : Jvm.MethodName)) ∈ GT := GT_in (tlw (tin_4 (List.mem_of_getElem? (i := 198) rfl))) rfl
theorem w_4_199 : (Jvm.Cond.selects "OwlsLent" ({ cls := "OwlsLent", name := "keen", desc := "()I" } : Jvm.MethodName) ({ cls := "OwlsLent", name := "keen", desc := "()I" } : Jvm.MethodName)) ∈ GT := GT_in (tlw (tin_4 (List.mem_of_getElem? (i := 199) rfl))) rfl
theorem w_4_200 : (Jvm.Cond.code ({ cls := "OwlsLent", name := "keen", desc := "()I" } : Jvm.MethodName) prog_1_method_29_code (7 : Nat) (Option.some Jvm.ClassFile.FieldType.int)) ∈ GT := GT_in (tlw (tin_4 (List.mem_of_getElem? (i := 200) rfl))) rfl
theorem w_4_203 : (Jvm.Cond.methodLink "OwlsLentLaw" (121 : Nat) ({ cls := "OwlsLent", name := "keenLeast", desc := "()I" } : Jvm.MethodName)) ∈ GT := GT_in (tlw (tin_4 (List.mem_of_getElem? (i := 203) rfl))) rfl
theorem w_4_204 : (Jvm.Cond.instanceMethod ({ cls := "OwlsLent", name := "keenLeast", desc := "()I" } : Jvm.MethodName)) ∈ GT := GT_in (tlw (tin_4 (List.mem_of_getElem? (i := 204) rfl))) rfl
theorem w_4_205 : (Jvm.Cond.selects "OwlsLent" ({ cls := "OwlsLent", name := "keenLeast", desc := "()I" } : Jvm.MethodName) ({ cls := "OwlsLent", name := "keenLeast", desc := "()I" } : Jvm.MethodName)) ∈ GT := GT_in (tlw (tin_4 (List.mem_of_getElem? (i := 205) rfl))) rfl
theorem w_4_206 : (Jvm.Cond.code ({ cls := "OwlsLent", name := "keenLeast", desc := "()I" } : Jvm.MethodName) prog_1_method_30_code (1 : Nat) (Option.some Jvm.ClassFile.FieldType.int)) ∈ GT := GT_in (tlw (tin_4 (List.mem_of_getElem? (i := 206) rfl))) rfl
theorem w_4_207 : (Jvm.Cond.methodLink "OwlsLentLaw" (125 : Nat) ({ cls := "OwlsLent", name := "keenMost", desc := "()I" } : Jvm.MethodName)) ∈ GT := GT_in (tlw (tin_4 (List.mem_of_getElem? (i := 207) rfl))) rfl
theorem w_4_208 : (Jvm.Cond.instanceMethod ({ cls := "OwlsLent", name := "keenMost", desc := "()I" } : Jvm.MethodName)) ∈ GT := GT_in (tlw (tin_4 (List.mem_of_getElem? (i := 208) rfl))) rfl
theorem w_4_209 : (Jvm.Cond.selects "OwlsLent" ({ cls := "OwlsLent", name := "keenMost", desc := "()I" } : Jvm.MethodName) ({ cls := "OwlsLent", name := "keenMost", desc := "()I" } : Jvm.MethodName)) ∈ GT := GT_in (tlw (tin_4 (List.mem_of_getElem? (i := 209) rfl))) rfl
theorem w_4_210 : (Jvm.Cond.code ({ cls := "OwlsLent", name := "keenMost", desc := "()I" } : Jvm.MethodName) prog_1_method_31_code (1 : Nat) (Option.some Jvm.ClassFile.FieldType.int)) ∈ GT := GT_in (tlw (tin_4 (List.mem_of_getElem? (i := 210) rfl))) rfl
theorem w_4_211 : (Jvm.Cond.methodLink "OwlsLentLaw" (129 : Nat) ({ cls := "OwlsLent", name := "best", desc := "()I" } : Jvm.MethodName)) ∈ GT := GT_in (tlw (tin_4 (List.mem_of_getElem? (i := 211) rfl))) rfl
theorem w_4_212 : (Jvm.Cond.instanceMethod ({ cls := "OwlsLent", name := "best", desc := "()I" } : Jvm.MethodName)) ∈ GT := GT_in (tlw (tin_4 (List.mem_of_getElem? (i := 212) rfl))) rfl
theorem w_4_213 : (Jvm.Cond.selects "OwlsLent" ({ cls := "OwlsLent", name := "best", desc := "()I" } : Jvm.MethodName) ({ cls := "OwlsLent", name := "best", desc := "()I" } : Jvm.MethodName)) ∈ GT := GT_in (tlw (tin_4 (List.mem_of_getElem? (i := 213) rfl))) rfl
theorem w_4_214 : (Jvm.Cond.code ({ cls := "OwlsLent", name := "best", desc := "()I" } : Jvm.MethodName) prog_1_method_32_code (1 : Nat) (Option.some Jvm.ClassFile.FieldType.int)) ∈ GT := GT_in (tlw (tin_4 (List.mem_of_getElem? (i := 214) rfl))) rfl
theorem w_4_231 : (Jvm.Cond.methodLink "OwlsLentLaw" (133 : Nat) ({ cls := "OwlsLent", name := "bestAt", desc := "(I)I" } : Jvm.MethodName)) ∈ GT := GT_in (tlw (tin_4 (List.mem_of_getElem? (i := 231) rfl))) rfl
theorem w_4_232 : (Jvm.Cond.instanceMethod ({ cls := "OwlsLent", name := "bestAt", desc := "(I)I" } : Jvm.MethodName)) ∈ GT := GT_in (tlw (tin_4 (List.mem_of_getElem? (i := 232) rfl))) rfl
theorem w_4_233 : (Jvm.Cond.selects "OwlsLent" ({ cls := "OwlsLent", name := "bestAt", desc := "(I)I" } : Jvm.MethodName) ({ cls := "OwlsLent", name := "bestAt", desc := "(I)I" } : Jvm.MethodName)) ∈ GT := GT_in (tlw (tin_4 (List.mem_of_getElem? (i := 233) rfl))) rfl
theorem w_4_234 : (Jvm.Cond.code ({ cls := "OwlsLent", name := "bestAt", desc := "(I)I" } : Jvm.MethodName) prog_1_method_33_code (2 : Nat) (Option.some Jvm.ClassFile.FieldType.int)) ∈ GT := GT_in (tlw (tin_4 (List.mem_of_getElem? (i := 234) rfl))) rfl
theorem w_4_235 : (Jvm.Cond.methodLink "OwlsLentLaw" (137 : Nat) ({ cls := "OwlsLent", name := "code", desc := "(I)I" } : Jvm.MethodName)) ∈ GT := GT_in (tlw (tin_4 (List.mem_of_getElem? (i := 235) rfl))) rfl
theorem w_4_236 : (Jvm.Cond.instanceMethod ({ cls := "OwlsLent", name := "code", desc := "(I)I" } : Jvm.MethodName)) ∈ GT := GT_in (tlw (tin_4 (List.mem_of_getElem? (i := 236) rfl))) rfl
theorem w_4_237 : (Jvm.Cond.selects "OwlsLent" ({ cls := "OwlsLent", name := "code", desc := "(I)I" } : Jvm.MethodName) ({ cls := "OwlsLent", name := "code", desc := "(I)I" } : Jvm.MethodName)) ∈ GT := GT_in (tlw (tin_4 (List.mem_of_getElem? (i := 237) rfl))) rfl
theorem w_4_238 : (Jvm.Cond.code ({ cls := "OwlsLent", name := "code", desc := "(I)I" } : Jvm.MethodName) prog_1_method_34_code (4 : Nat) (Option.some Jvm.ClassFile.FieldType.int)) ∈ GT := GT_in (tlw (tin_4 (List.mem_of_getElem? (i := 238) rfl))) rfl
theorem w_5_5 : (Jvm.Cond.methodLink "OwlsLentLaw" (141 : Nat) ({ cls := "OwlsLent", name := "codeAt", desc := "(I)I" } : Jvm.MethodName)) ∈ GT := GT_in (tlw (tin_5 (List.mem_of_getElem? (i := 5) rfl))) rfl
theorem w_5_6 : (Jvm.Cond.instanceMethod ({ cls := "OwlsLent", name := "codeAt", desc := "(I)I" } : Jvm.MethodName)) ∈ GT := GT_in (tlw (tin_5 (List.mem_of_getElem? (i := 6) rfl))) rfl
theorem w_5_7 : (Jvm.Cond.selects "OwlsLent" ({ cls := "OwlsLent", name := "codeAt", desc := "(I)I" } : Jvm.MethodName) ({ cls := "OwlsLent", name := "codeAt", desc := "(I)I" } : Jvm.MethodName)) ∈ GT := GT_in (tlw (tin_5 (List.mem_of_getElem? (i := 7) rfl))) rfl
theorem w_5_8 : (Jvm.Cond.code ({ cls := "OwlsLent", name := "codeAt", desc := "(I)I" } : Jvm.MethodName) prog_1_method_35_code (2 : Nat) (Option.some Jvm.ClassFile.FieldType.int)) ∈ GT := GT_in (tlw (tin_5 (List.mem_of_getElem? (i := 8) rfl))) rfl
theorem w_5_9 : (Jvm.Cond.methodLink "OwlsLentLaw" (145 : Nat) ({ cls := "OwlsLent", name := "duel", desc := "(III)I" } : Jvm.MethodName)) ∈ GT := GT_in (tlw (tin_5 (List.mem_of_getElem? (i := 9) rfl))) rfl
theorem w_5_10 : (Jvm.Cond.instanceMethod ({ cls := "OwlsLent", name := "duel", desc := "(III)I" } : Jvm.MethodName)) ∈ GT := GT_in (tlw (tin_5 (List.mem_of_getElem? (i := 10) rfl))) rfl
theorem w_5_11 : (Jvm.Cond.selects "OwlsLent" ({ cls := "OwlsLent", name := "duel", desc := "(III)I" } : Jvm.MethodName) ({ cls := "OwlsLent", name := "duel", desc := "(III)I" } : Jvm.MethodName)) ∈ GT := GT_in (tlw (tin_5 (List.mem_of_getElem? (i := 11) rfl))) rfl
theorem w_5_12 : (Jvm.Cond.code ({ cls := "OwlsLent", name := "duel", desc := "(III)I" } : Jvm.MethodName) prog_1_method_37_code (10 : Nat) (Option.some Jvm.ClassFile.FieldType.int)) ∈ GT := GT_in (tlw (tin_5 (List.mem_of_getElem? (i := 12) rfl))) rfl
theorem w_5_17 : (Jvm.Cond.methodLink "OwlsLentLaw" (149 : Nat) ({ cls := "OwlsLent", name := "duelAt", desc := "()I" } : Jvm.MethodName)) ∈ GT := GT_in (tlw (tin_5 (List.mem_of_getElem? (i := 17) rfl))) rfl
theorem w_5_18 : (Jvm.Cond.instanceMethod ({ cls := "OwlsLent", name := "duelAt", desc := "()I" } : Jvm.MethodName)) ∈ GT := GT_in (tlw (tin_5 (List.mem_of_getElem? (i := 18) rfl))) rfl
theorem w_5_19 : (Jvm.Cond.selects "OwlsLent" ({ cls := "OwlsLent", name := "duelAt", desc := "()I" } : Jvm.MethodName) ({ cls := "OwlsLent", name := "duelAt", desc := "()I" } : Jvm.MethodName)) ∈ GT := GT_in (tlw (tin_5 (List.mem_of_getElem? (i := 19) rfl))) rfl
theorem w_5_20 : (Jvm.Cond.code ({ cls := "OwlsLent", name := "duelAt", desc := "()I" } : Jvm.MethodName) prog_1_method_39_code (1 : Nat) (Option.some Jvm.ClassFile.FieldType.int)) ∈ GT := GT_in (tlw (tin_5 (List.mem_of_getElem? (i := 20) rfl))) rfl
theorem w_5_21 : (Jvm.Cond.methodLink "OwlsLentLaw" (169 : Nat) ({ cls := "OwlsLent", name := "odds", desc := "(III)I" } : Jvm.MethodName)) ∈ GT := GT_in (tlw (tin_5 (List.mem_of_getElem? (i := 21) rfl))) rfl
theorem w_5_22 : (Jvm.Cond.instanceMethod ({ cls := "OwlsLent", name := "odds", desc := "(III)I" } : Jvm.MethodName)) ∈ GT := GT_in (tlw (tin_5 (List.mem_of_getElem? (i := 22) rfl))) rfl
theorem w_5_23 : (Jvm.Cond.selects "OwlsLent" ({ cls := "OwlsLent", name := "odds", desc := "(III)I" } : Jvm.MethodName) ({ cls := "OwlsLent", name := "odds", desc := "(III)I" } : Jvm.MethodName)) ∈ GT := GT_in (tlw (tin_5 (List.mem_of_getElem? (i := 23) rfl))) rfl
theorem w_5_24 : (Jvm.Cond.code ({ cls := "OwlsLent", name := "odds", desc := "(III)I" } : Jvm.MethodName) prog_1_method_40_code (7 : Nat) (Option.some Jvm.ClassFile.FieldType.int)) ∈ GT := GT_in (tlw (tin_5 (List.mem_of_getElem? (i := 24) rfl))) rfl
theorem w_5_25 : (Jvm.Cond.methodLink "OwlsLentLaw" (157 : Nat) ({ cls := "OwlsLent", name := "note", desc := "(I)I" } : Jvm.MethodName)) ∈ GT := GT_in (tlw (tin_5 (List.mem_of_getElem? (i := 25) rfl))) rfl
theorem w_5_26 : (Jvm.Cond.instanceMethod ({ cls := "OwlsLent", name := "note", desc := "(I)I" } : Jvm.MethodName)) ∈ GT := GT_in (tlw (tin_5 (List.mem_of_getElem? (i := 26) rfl))) rfl
theorem w_5_27 : (Jvm.Cond.selects "OwlsLent" ({ cls := "OwlsLent", name := "note", desc := "(I)I" } : Jvm.MethodName) ({ cls := "OwlsLent", name := "note", desc := "(I)I" } : Jvm.MethodName)) ∈ GT := GT_in (tlw (tin_5 (List.mem_of_getElem? (i := 27) rfl))) rfl
theorem w_5_28 : (Jvm.Cond.code ({ cls := "OwlsLent", name := "note", desc := "(I)I" } : Jvm.MethodName) prog_1_method_41_code (6 : Nat) (Option.some Jvm.ClassFile.FieldType.int)) ∈ GT := GT_in (tlw (tin_5 (List.mem_of_getElem? (i := 28) rfl))) rfl
theorem w_5_45 : (Jvm.Cond.methodLink "OwlsLentLaw" (161 : Nat) ({ cls := "OwlsLent", name := "byteAt", desc := "(I)I" } : Jvm.MethodName)) ∈ GT := GT_in (tlw (tin_5 (List.mem_of_getElem? (i := 45) rfl))) rfl
theorem w_5_46 : (Jvm.Cond.instanceMethod ({ cls := "OwlsLent", name := "byteAt", desc := "(I)I" } : Jvm.MethodName)) ∈ GT := GT_in (tlw (tin_5 (List.mem_of_getElem? (i := 46) rfl))) rfl
theorem w_5_47 : (Jvm.Cond.selects "OwlsLent" ({ cls := "OwlsLent", name := "byteAt", desc := "(I)I" } : Jvm.MethodName) ({ cls := "OwlsLent", name := "byteAt", desc := "(I)I" } : Jvm.MethodName)) ∈ GT := GT_in (tlw (tin_5 (List.mem_of_getElem? (i := 47) rfl))) rfl
theorem w_5_48 : (Jvm.Cond.code ({ cls := "OwlsLent", name := "byteAt", desc := "(I)I" } : Jvm.MethodName) prog_1_method_42_code (2 : Nat) (Option.some Jvm.ClassFile.FieldType.int)) ∈ GT := GT_in (tlw (tin_5 (List.mem_of_getElem? (i := 48) rfl))) rfl
theorem w_5_49 : (Jvm.Cond.methodLink "OwlsLentLaw" (173 : Nat) ({ cls := "OwlsLent", name := "book", desc := "(I)I" } : Jvm.MethodName)) ∈ GT := GT_in (tlw (tin_5 (List.mem_of_getElem? (i := 49) rfl))) rfl
theorem w_5_50 : (Jvm.Cond.instanceMethod ({ cls := "OwlsLent", name := "book", desc := "(I)I" } : Jvm.MethodName)) ∈ GT := GT_in (tlw (tin_5 (List.mem_of_getElem? (i := 50) rfl))) rfl
theorem w_5_51 : (Jvm.Cond.selects "OwlsLent" ({ cls := "OwlsLent", name := "book", desc := "(I)I" } : Jvm.MethodName) ({ cls := "OwlsLent", name := "book", desc := "(I)I" } : Jvm.MethodName)) ∈ GT := GT_in (tlw (tin_5 (List.mem_of_getElem? (i := 51) rfl))) rfl
theorem w_5_52 : (Jvm.Cond.code ({ cls := "OwlsLent", name := "book", desc := "(I)I" } : Jvm.MethodName) prog_1_method_43_code (2 : Nat) (Option.some Jvm.ClassFile.FieldType.int)) ∈ GT := GT_in (tlw (tin_5 (List.mem_of_getElem? (i := 52) rfl))) rfl
theorem w_5_79 : (Jvm.Cond.methodLink "OwlsLentLaw" (177 : Nat) ({ cls := "OwlsLent", name := "told", desc := "(I)I" } : Jvm.MethodName)) ∈ GT := GT_in (tlw (tin_5 (List.mem_of_getElem? (i := 79) rfl))) rfl
theorem w_5_80 : (Jvm.Cond.instanceMethod ({ cls := "OwlsLent", name := "told", desc := "(I)I" } : Jvm.MethodName)) ∈ GT := GT_in (tlw (tin_5 (List.mem_of_getElem? (i := 80) rfl))) rfl
theorem w_5_81 : (Jvm.Cond.selects "OwlsLent" ({ cls := "OwlsLent", name := "told", desc := "(I)I" } : Jvm.MethodName) ({ cls := "OwlsLent", name := "told", desc := "(I)I" } : Jvm.MethodName)) ∈ GT := GT_in (tlw (tin_5 (List.mem_of_getElem? (i := 81) rfl))) rfl
theorem w_5_82 : (Jvm.Cond.code ({ cls := "OwlsLent", name := "told", desc := "(I)I" } : Jvm.MethodName) prog_1_method_44_code (2 : Nat) (Option.some Jvm.ClassFile.FieldType.int)) ∈ GT := GT_in (tlw (tin_5 (List.mem_of_getElem? (i := 82) rfl))) rfl
theorem w_5_83 : (Jvm.Cond.methodLink "OwlsLentLaw" (181 : Nat) ({ cls := "OwlsLent", name := "sentence", desc := "()I" } : Jvm.MethodName)) ∈ GT := GT_in (tlw (tin_5 (List.mem_of_getElem? (i := 83) rfl))) rfl
theorem w_5_84 : (Jvm.Cond.instanceMethod ({ cls := "OwlsLent", name := "sentence", desc := "()I" } : Jvm.MethodName)) ∈ GT := GT_in (tlw (tin_5 (List.mem_of_getElem? (i := 84) rfl))) rfl
theorem w_5_85 : (Jvm.Cond.selects "OwlsLent" ({ cls := "OwlsLent", name := "sentence", desc := "()I" } : Jvm.MethodName) ({ cls := "OwlsLent", name := "sentence", desc := "()I" } : Jvm.MethodName)) ∈ GT := GT_in (tlw (tin_5 (List.mem_of_getElem? (i := 85) rfl))) rfl
theorem w_5_86 : (Jvm.Cond.code ({ cls := "OwlsLent", name := "sentence", desc := "()I" } : Jvm.MethodName) prog_1_method_45_code (1 : Nat) (Option.some Jvm.ClassFile.FieldType.int)) ∈ GT := GT_in (tlw (tin_5 (List.mem_of_getElem? (i := 86) rfl))) rfl
theorem w_5_123 : (Jvm.Cond.methodLink "OwlsLentLaw" (185 : Nat) ({ cls := "OwlsLent", name := "said", desc := "(I)I" } : Jvm.MethodName)) ∈ GT := GT_in (tlw (tin_5 (List.mem_of_getElem? (i := 123) rfl))) rfl
theorem w_5_124 : (Jvm.Cond.instanceMethod ({ cls := "OwlsLent", name := "said", desc := "(I)I" } : Jvm.MethodName)) ∈ GT := GT_in (tlw (tin_5 (List.mem_of_getElem? (i := 124) rfl))) rfl
theorem w_5_125 : (Jvm.Cond.selects "OwlsLent" ({ cls := "OwlsLent", name := "said", desc := "(I)I" } : Jvm.MethodName) ({ cls := "OwlsLent", name := "said", desc := "(I)I" } : Jvm.MethodName)) ∈ GT := GT_in (tlw (tin_5 (List.mem_of_getElem? (i := 125) rfl))) rfl
theorem w_5_126 : (Jvm.Cond.code ({ cls := "OwlsLent", name := "said", desc := "(I)I" } : Jvm.MethodName) prog_1_method_46_code (5 : Nat) (Option.some Jvm.ClassFile.FieldType.int)) ∈ GT := GT_in (tlw (tin_5 (List.mem_of_getElem? (i := 126) rfl))) rfl
theorem w_5_143 : (Jvm.Cond.methodLink "OwlsLentLaw" (189 : Nat) ({ cls := "OwlsLent", name := "image", desc := "(I)Z" } : Jvm.MethodName)) ∈ GT := GT_in (tlw (tin_5 (List.mem_of_getElem? (i := 143) rfl))) rfl
theorem w_5_144 : (Jvm.Cond.instanceMethod ({ cls := "OwlsLent", name := "image", desc := "(I)Z" } : Jvm.MethodName)) ∈ GT := GT_in (tlw (tin_5 (List.mem_of_getElem? (i := 144) rfl))) rfl
theorem w_5_145 : (Jvm.Cond.selects "OwlsLent" ({ cls := "OwlsLent", name := "image", desc := "(I)Z" } : Jvm.MethodName) ({ cls := "OwlsLent", name := "image", desc := "(I)Z" } : Jvm.MethodName)) ∈ GT := GT_in (tlw (tin_5 (List.mem_of_getElem? (i := 145) rfl))) rfl
theorem w_5_146 : (Jvm.Cond.code ({ cls := "OwlsLent", name := "image", desc := "(I)Z" } : Jvm.MethodName) prog_1_method_47_code (2 : Nat) (Option.some Jvm.ClassFile.FieldType.boolean)) ∈ GT := GT_in (tlw (tin_5 (List.mem_of_getElem? (i := 146) rfl))) rfl
theorem w_5_153 : (Jvm.Cond.methodLink "OwlsLentLaw" (193 : Nat) ({ cls := "OwlsLent", name := "restore", desc := "(I)Z" } : Jvm.MethodName)) ∈ GT := GT_in (tlw (tin_5 (List.mem_of_getElem? (i := 153) rfl))) rfl
theorem w_5_154 : (Jvm.Cond.instanceMethod ({ cls := "OwlsLent", name := "restore", desc := "(I)Z" } : Jvm.MethodName)) ∈ GT := GT_in (tlw (tin_5 (List.mem_of_getElem? (i := 154) rfl))) rfl
theorem w_5_155 : (Jvm.Cond.selects "OwlsLent" ({ cls := "OwlsLent", name := "restore", desc := "(I)Z" } : Jvm.MethodName) ({ cls := "OwlsLent", name := "restore", desc := "(I)Z" } : Jvm.MethodName)) ∈ GT := GT_in (tlw (tin_5 (List.mem_of_getElem? (i := 155) rfl))) rfl
theorem w_5_156 : (Jvm.Cond.code ({ cls := "OwlsLent", name := "restore", desc := "(I)Z" } : Jvm.MethodName) prog_1_method_48_code (2 : Nat) (Option.some Jvm.ClassFile.FieldType.boolean)) ∈ GT := GT_in (tlw (tin_5 (List.mem_of_getElem? (i := 156) rfl))) rfl
theorem w_6_6 : (Jvm.Cond.methodLink "OwlsLentLaw" (50 : Nat) ({ cls := "OwlsLentModel", name := "thrown", desc := "()I" } : Jvm.MethodName)) ∈ GT := GT_in (tlw (tin_6 (List.mem_of_getElem? (i := 6) rfl))) rfl
theorem w_6_7 : (Jvm.Cond.instanceMethod ({ cls := "OwlsLentModel", name := "thrown", desc := "()I" } : Jvm.MethodName)) ∈ GT := GT_in (tlw (tin_6 (List.mem_of_getElem? (i := 7) rfl))) rfl
theorem w_6_8 : (Jvm.Cond.selects "OwlsLentModel" ({ cls := "OwlsLentModel", name := "thrown", desc := "()I" } : Jvm.MethodName) ({ cls := "OwlsLentModel", name := "thrown", desc := "()I" } : Jvm.MethodName)) ∈ GT := GT_in (tlw (tin_6 (List.mem_of_getElem? (i := 8) rfl))) rfl
theorem w_6_9 : (Jvm.Cond.code ({ cls := "OwlsLentModel", name := "thrown", desc := "()I" } : Jvm.MethodName) prog_14_method_1_code (1 : Nat) (Option.some Jvm.ClassFile.FieldType.int)) ∈ GT := GT_in (tlw (tin_6 (List.mem_of_getElem? (i := 9) rfl))) rfl
theorem w_6_10 : (Jvm.Cond.methodLink "OwlsLentLaw" (29 : Nat) ({ cls := "OwlsLentModel", name := "feed", desc := "(IIIII)I" } : Jvm.MethodName)) ∈ GT := GT_in (tlw (tin_6 (List.mem_of_getElem? (i := 10) rfl))) rfl
theorem w_6_11 : (Jvm.Cond.instanceMethod ({ cls := "OwlsLentModel", name := "feed", desc := "(IIIII)I" } : Jvm.MethodName)) ∈ GT := GT_in (tlw (tin_6 (List.mem_of_getElem? (i := 11) rfl))) rfl
theorem w_6_12 : (Jvm.Cond.selects "OwlsLentModel" ({ cls := "OwlsLentModel", name := "feed", desc := "(IIIII)I" } : Jvm.MethodName) ({ cls := "OwlsLentModel", name := "feed", desc := "(IIIII)I" } : Jvm.MethodName)) ∈ GT := GT_in (tlw (tin_6 (List.mem_of_getElem? (i := 12) rfl))) rfl
theorem w_6_13 : (Jvm.Cond.code ({ cls := "OwlsLentModel", name := "feed", desc := "(IIIII)I" } : Jvm.MethodName) prog_14_method_3_code (6 : Nat) (Option.some Jvm.ClassFile.FieldType.int)) ∈ GT := GT_in (tlw (tin_6 (List.mem_of_getElem? (i := 13) rfl))) rfl
theorem w_6_19 : (Jvm.Cond.methodLink "OwlsLentLaw" (34 : Nat) ({ cls := "OwlsLentModel", name := "end", desc := "(I)Z" } : Jvm.MethodName)) ∈ GT := GT_in (tlw (tin_6 (List.mem_of_getElem? (i := 19) rfl))) rfl
theorem w_6_20 : (Jvm.Cond.instanceMethod ({ cls := "OwlsLentModel", name := "end", desc := "(I)Z" } : Jvm.MethodName)) ∈ GT := GT_in (tlw (tin_6 (List.mem_of_getElem? (i := 20) rfl))) rfl
theorem w_6_21 : (Jvm.Cond.selects "OwlsLentModel" ({ cls := "OwlsLentModel", name := "end", desc := "(I)Z" } : Jvm.MethodName) ({ cls := "OwlsLentModel", name := "end", desc := "(I)Z" } : Jvm.MethodName)) ∈ GT := GT_in (tlw (tin_6 (List.mem_of_getElem? (i := 21) rfl))) rfl
theorem w_6_22 : (Jvm.Cond.code ({ cls := "OwlsLentModel", name := "end", desc := "(I)Z" } : Jvm.MethodName) prog_14_method_5_code (2 : Nat) (Option.some Jvm.ClassFile.FieldType.boolean)) ∈ GT := GT_in (tlw (tin_6 (List.mem_of_getElem? (i := 22) rfl))) rfl
theorem w_6_239 : (Jvm.Cond.methodLink "OwlsLentLaw" (39 : Nat) ({ cls := "OwlsLentModel", name := "house", desc := "()I" } : Jvm.MethodName)) ∈ GT := GT_in (tlw (tin_6 (List.mem_of_getElem? (i := 239) rfl))) rfl
theorem w_7_0 : (Jvm.Cond.instanceMethod ({ cls := "OwlsLentModel", name := "house", desc := "()I" } : Jvm.MethodName)) ∈ GT := GT_in (tlw (tin_7 (List.mem_of_getElem? (i := 0) rfl))) rfl
theorem w_7_1 : (Jvm.Cond.selects "OwlsLentModel" ({ cls := "OwlsLentModel", name := "house", desc := "()I" } : Jvm.MethodName) ({ cls := "OwlsLentModel", name := "house", desc := "()I" } : Jvm.MethodName)) ∈ GT := GT_in (tlw (tin_7 (List.mem_of_getElem? (i := 1) rfl))) rfl
theorem w_7_2 : (Jvm.Cond.code ({ cls := "OwlsLentModel", name := "house", desc := "()I" } : Jvm.MethodName) prog_14_method_39_code (2 : Nat) (Option.some Jvm.ClassFile.FieldType.int)) ∈ GT := GT_in (tlw (tin_7 (List.mem_of_getElem? (i := 2) rfl))) rfl
theorem w_7_111 : (Jvm.Cond.methodLink "OwlsLentLaw" (43 : Nat) ({ cls := "OwlsLentModel", name := "fault", desc := "()I" } : Jvm.MethodName)) ∈ GT := GT_in (tlw (tin_7 (List.mem_of_getElem? (i := 111) rfl))) rfl
theorem w_7_112 : (Jvm.Cond.instanceMethod ({ cls := "OwlsLentModel", name := "fault", desc := "()I" } : Jvm.MethodName)) ∈ GT := GT_in (tlw (tin_7 (List.mem_of_getElem? (i := 112) rfl))) rfl
theorem w_7_113 : (Jvm.Cond.selects "OwlsLentModel" ({ cls := "OwlsLentModel", name := "fault", desc := "()I" } : Jvm.MethodName) ({ cls := "OwlsLentModel", name := "fault", desc := "()I" } : Jvm.MethodName)) ∈ GT := GT_in (tlw (tin_7 (List.mem_of_getElem? (i := 113) rfl))) rfl
theorem w_7_114 : (Jvm.Cond.code ({ cls := "OwlsLentModel", name := "fault", desc := "()I" } : Jvm.MethodName) prog_14_method_40_code (1 : Nat) (Option.some Jvm.ClassFile.FieldType.int)) ∈ GT := GT_in (tlw (tin_7 (List.mem_of_getElem? (i := 114) rfl))) rfl
theorem w_7_115 : (Jvm.Cond.methodLink "OwlsLentLaw" (49 : Nat) ({ cls := "OwlsLentModel", name := "bed", desc := "(II)I" } : Jvm.MethodName)) ∈ GT := GT_in (tlw (tin_7 (List.mem_of_getElem? (i := 115) rfl))) rfl
theorem w_7_116 : (Jvm.Cond.instanceMethod ({ cls := "OwlsLentModel", name := "bed", desc := "(II)I" } : Jvm.MethodName)) ∈ GT := GT_in (tlw (tin_7 (List.mem_of_getElem? (i := 116) rfl))) rfl
theorem w_7_117 : (Jvm.Cond.selects "OwlsLentModel" ({ cls := "OwlsLentModel", name := "bed", desc := "(II)I" } : Jvm.MethodName) ({ cls := "OwlsLentModel", name := "bed", desc := "(II)I" } : Jvm.MethodName)) ∈ GT := GT_in (tlw (tin_7 (List.mem_of_getElem? (i := 117) rfl))) rfl
theorem w_7_118 : (Jvm.Cond.code ({ cls := "OwlsLentModel", name := "bed", desc := "(II)I" } : Jvm.MethodName) prog_14_method_60_code (3 : Nat) (Option.some Jvm.ClassFile.FieldType.int)) ∈ GT := GT_in (tlw (tin_7 (List.mem_of_getElem? (i := 118) rfl))) rfl
theorem w_7_131 : (Jvm.Cond.methodLink "OwlsLentLaw" (55 : Nat) ({ cls := "OwlsLentModel", name := "owl", desc := "(II)I" } : Jvm.MethodName)) ∈ GT := GT_in (tlw (tin_7 (List.mem_of_getElem? (i := 131) rfl))) rfl
theorem w_7_132 : (Jvm.Cond.instanceMethod ({ cls := "OwlsLentModel", name := "owl", desc := "(II)I" } : Jvm.MethodName)) ∈ GT := GT_in (tlw (tin_7 (List.mem_of_getElem? (i := 132) rfl))) rfl
theorem w_7_133 : (Jvm.Cond.selects "OwlsLentModel" ({ cls := "OwlsLentModel", name := "owl", desc := "(II)I" } : Jvm.MethodName) ({ cls := "OwlsLentModel", name := "owl", desc := "(II)I" } : Jvm.MethodName)) ∈ GT := GT_in (tlw (tin_7 (List.mem_of_getElem? (i := 133) rfl))) rfl
theorem w_7_134 : (Jvm.Cond.code ({ cls := "OwlsLentModel", name := "owl", desc := "(II)I" } : Jvm.MethodName) prog_14_method_61_code (3 : Nat) (Option.some Jvm.ClassFile.FieldType.int)) ∈ GT := GT_in (tlw (tin_7 (List.mem_of_getElem? (i := 134) rfl))) rfl
theorem w_7_197 : (Jvm.Cond.methodLink "OwlsLentLaw" (59 : Nat) ({ cls := "OwlsLentModel", name := "sound", desc := "(II)I" } : Jvm.MethodName)) ∈ GT := GT_in (tlw (tin_7 (List.mem_of_getElem? (i := 197) rfl))) rfl
theorem w_7_198 : (Jvm.Cond.instanceMethod ({ cls := "OwlsLentModel", name := "sound", desc := "(II)I" } : Jvm.MethodName)) ∈ GT := GT_in (tlw (tin_7 (List.mem_of_getElem? (i := 198) rfl))) rfl
theorem w_7_199 : (Jvm.Cond.selects "OwlsLentModel" ({ cls := "OwlsLentModel", name := "sound", desc := "(II)I" } : Jvm.MethodName) ({ cls := "OwlsLentModel", name := "sound", desc := "(II)I" } : Jvm.MethodName)) ∈ GT := GT_in (tlw (tin_7 (List.mem_of_getElem? (i := 199) rfl))) rfl
theorem w_7_200 : (Jvm.Cond.code ({ cls := "OwlsLentModel", name := "sound", desc := "(II)I" } : Jvm.MethodName) prog_14_method_62_code (3 : Nat) (Option.some Jvm.ClassFile.FieldType.int)) ∈ GT := GT_in (tlw (tin_7 (List.mem_of_getElem? (i := 200) rfl))) rfl
theorem w_7_205 : (Jvm.Cond.methodLink "OwlsLentLaw" (64 : Nat) ({ cls := "OwlsLentModel", name := "now", desc := "(I)I" } : Jvm.MethodName)) ∈ GT := GT_in (tlw (tin_7 (List.mem_of_getElem? (i := 205) rfl))) rfl
theorem w_7_206 : (Jvm.Cond.instanceMethod ({ cls := "OwlsLentModel", name := "now", desc := "(I)I" } : Jvm.MethodName)) ∈ GT := GT_in (tlw (tin_7 (List.mem_of_getElem? (i := 206) rfl))) rfl
theorem w_7_207 : (Jvm.Cond.selects "OwlsLentModel" ({ cls := "OwlsLentModel", name := "now", desc := "(I)I" } : Jvm.MethodName) ({ cls := "OwlsLentModel", name := "now", desc := "(I)I" } : Jvm.MethodName)) ∈ GT := GT_in (tlw (tin_7 (List.mem_of_getElem? (i := 207) rfl))) rfl
theorem w_7_208 : (Jvm.Cond.code ({ cls := "OwlsLentModel", name := "now", desc := "(I)I" } : Jvm.MethodName) prog_14_method_65_code (4 : Nat) (Option.some Jvm.ClassFile.FieldType.int)) ∈ GT := GT_in (tlw (tin_7 (List.mem_of_getElem? (i := 208) rfl))) rfl
theorem w_7_217 : (Jvm.Cond.methodLink "OwlsLentLaw" (68 : Nat) ({ cls := "OwlsLentModel", name := "lend", desc := "(II)I" } : Jvm.MethodName)) ∈ GT := GT_in (tlw (tin_7 (List.mem_of_getElem? (i := 217) rfl))) rfl
theorem w_7_218 : (Jvm.Cond.instanceMethod ({ cls := "OwlsLentModel", name := "lend", desc := "(II)I" } : Jvm.MethodName)) ∈ GT := GT_in (tlw (tin_7 (List.mem_of_getElem? (i := 218) rfl))) rfl
theorem w_7_219 : (Jvm.Cond.selects "OwlsLentModel" ({ cls := "OwlsLentModel", name := "lend", desc := "(II)I" } : Jvm.MethodName) ({ cls := "OwlsLentModel", name := "lend", desc := "(II)I" } : Jvm.MethodName)) ∈ GT := GT_in (tlw (tin_7 (List.mem_of_getElem? (i := 219) rfl))) rfl
theorem w_7_220 : (Jvm.Cond.code ({ cls := "OwlsLentModel", name := "lend", desc := "(II)I" } : Jvm.MethodName) prog_14_method_70_code (4 : Nat) (Option.some Jvm.ClassFile.FieldType.int)) ∈ GT := GT_in (tlw (tin_7 (List.mem_of_getElem? (i := 220) rfl))) rfl
theorem w_7_229 : (Jvm.Cond.methodLink "OwlsLentLaw" (72 : Nat) ({ cls := "OwlsLentModel", name := "hush", desc := "(I)I" } : Jvm.MethodName)) ∈ GT := GT_in (tlw (tin_7 (List.mem_of_getElem? (i := 229) rfl))) rfl
theorem w_7_230 : (Jvm.Cond.instanceMethod ({ cls := "OwlsLentModel", name := "hush", desc := "(I)I" } : Jvm.MethodName)) ∈ GT := GT_in (tlw (tin_7 (List.mem_of_getElem? (i := 230) rfl))) rfl
theorem w_7_231 : (Jvm.Cond.selects "OwlsLentModel" ({ cls := "OwlsLentModel", name := "hush", desc := "(I)I" } : Jvm.MethodName) ({ cls := "OwlsLentModel", name := "hush", desc := "(I)I" } : Jvm.MethodName)) ∈ GT := GT_in (tlw (tin_7 (List.mem_of_getElem? (i := 231) rfl))) rfl
theorem w_7_232 : (Jvm.Cond.code ({ cls := "OwlsLentModel", name := "hush", desc := "(I)I" } : Jvm.MethodName) prog_14_method_72_code (2 : Nat) (Option.some Jvm.ClassFile.FieldType.int)) ∈ GT := GT_in (tlw (tin_7 (List.mem_of_getElem? (i := 232) rfl))) rfl
theorem w_7_237 : (Jvm.Cond.methodLink "OwlsLentLaw" (76 : Nat) ({ cls := "OwlsLentModel", name := "let", desc := "(I)I" } : Jvm.MethodName)) ∈ GT := GT_in (tlw (tin_7 (List.mem_of_getElem? (i := 237) rfl))) rfl
theorem w_7_238 : (Jvm.Cond.instanceMethod ({ cls := "OwlsLentModel", name := "let", desc := "(I)I" } : Jvm.MethodName)) ∈ GT := GT_in (tlw (tin_7 (List.mem_of_getElem? (i := 238) rfl))) rfl
theorem w_7_239 : (Jvm.Cond.selects "OwlsLentModel" ({ cls := "OwlsLentModel", name := "let", desc := "(I)I" } : Jvm.MethodName) ({ cls := "OwlsLentModel", name := "let", desc := "(I)I" } : Jvm.MethodName)) ∈ GT := GT_in (tlw (tin_7 (List.mem_of_getElem? (i := 239) rfl))) rfl
theorem w_8_0 : (Jvm.Cond.code ({ cls := "OwlsLentModel", name := "let", desc := "(I)I" } : Jvm.MethodName) prog_14_method_73_code (2 : Nat) (Option.some Jvm.ClassFile.FieldType.int)) ∈ GT := GT_in (tlw (tin_8 (List.mem_of_getElem? (i := 0) rfl))) rfl
theorem w_8_1 : (Jvm.Cond.methodLink "OwlsLentLaw" (81 : Nat) ({ cls := "OwlsLentModel", name := "shout", desc := "(III)I" } : Jvm.MethodName)) ∈ GT := GT_in (tlw (tin_8 (List.mem_of_getElem? (i := 1) rfl))) rfl
theorem w_8_2 : (Jvm.Cond.instanceMethod ({ cls := "OwlsLentModel", name := "shout", desc := "(III)I" } : Jvm.MethodName)) ∈ GT := GT_in (tlw (tin_8 (List.mem_of_getElem? (i := 2) rfl))) rfl
theorem w_8_3 : (Jvm.Cond.selects "OwlsLentModel" ({ cls := "OwlsLentModel", name := "shout", desc := "(III)I" } : Jvm.MethodName) ({ cls := "OwlsLentModel", name := "shout", desc := "(III)I" } : Jvm.MethodName)) ∈ GT := GT_in (tlw (tin_8 (List.mem_of_getElem? (i := 3) rfl))) rfl
theorem w_8_4 : (Jvm.Cond.code ({ cls := "OwlsLentModel", name := "shout", desc := "(III)I" } : Jvm.MethodName) prog_14_method_74_code (4 : Nat) (Option.some Jvm.ClassFile.FieldType.int)) ∈ GT := GT_in (tlw (tin_8 (List.mem_of_getElem? (i := 4) rfl))) rfl
theorem w_8_13 : (Jvm.Cond.methodLink "OwlsLentLaw" (85 : Nat) ({ cls := "OwlsLentModel", name := "hours", desc := "(I)I" } : Jvm.MethodName)) ∈ GT := GT_in (tlw (tin_8 (List.mem_of_getElem? (i := 13) rfl))) rfl
theorem w_8_14 : (Jvm.Cond.instanceMethod ({ cls := "OwlsLentModel", name := "hours", desc := "(I)I" } : Jvm.MethodName)) ∈ GT := GT_in (tlw (tin_8 (List.mem_of_getElem? (i := 14) rfl))) rfl
theorem w_8_15 : (Jvm.Cond.selects "OwlsLentModel" ({ cls := "OwlsLentModel", name := "hours", desc := "(I)I" } : Jvm.MethodName) ({ cls := "OwlsLentModel", name := "hours", desc := "(I)I" } : Jvm.MethodName)) ∈ GT := GT_in (tlw (tin_8 (List.mem_of_getElem? (i := 15) rfl))) rfl
theorem w_8_16 : (Jvm.Cond.code ({ cls := "OwlsLentModel", name := "hours", desc := "(I)I" } : Jvm.MethodName) prog_14_method_75_code (2 : Nat) (Option.some Jvm.ClassFile.FieldType.int)) ∈ GT := GT_in (tlw (tin_8 (List.mem_of_getElem? (i := 16) rfl))) rfl
theorem w_8_25 : (Jvm.Cond.methodLink "OwlsLentLaw" (89 : Nat) ({ cls := "OwlsLentModel", name := "undo", desc := "()I" } : Jvm.MethodName)) ∈ GT := GT_in (tlw (tin_8 (List.mem_of_getElem? (i := 25) rfl))) rfl
theorem w_8_26 : (Jvm.Cond.instanceMethod ({ cls := "OwlsLentModel", name := "undo", desc := "()I" } : Jvm.MethodName)) ∈ GT := GT_in (tlw (tin_8 (List.mem_of_getElem? (i := 26) rfl))) rfl
theorem w_8_27 : (Jvm.Cond.selects "OwlsLentModel" ({ cls := "OwlsLentModel", name := "undo", desc := "()I" } : Jvm.MethodName) ({ cls := "OwlsLentModel", name := "undo", desc := "()I" } : Jvm.MethodName)) ∈ GT := GT_in (tlw (tin_8 (List.mem_of_getElem? (i := 27) rfl))) rfl
theorem w_8_28 : (Jvm.Cond.code ({ cls := "OwlsLentModel", name := "undo", desc := "()I" } : Jvm.MethodName) prog_14_method_77_code (2 : Nat) (Option.some Jvm.ClassFile.FieldType.int)) ∈ GT := GT_in (tlw (tin_8 (List.mem_of_getElem? (i := 28) rfl))) rfl
theorem w_8_29 : (Jvm.Cond.methodLink "OwlsLentLaw" (93 : Nat) ({ cls := "OwlsLentModel", name := "hears", desc := "(I)I" } : Jvm.MethodName)) ∈ GT := GT_in (tlw (tin_8 (List.mem_of_getElem? (i := 29) rfl))) rfl
theorem w_8_30 : (Jvm.Cond.instanceMethod ({ cls := "OwlsLentModel", name := "hears", desc := "(I)I" } : Jvm.MethodName)) ∈ GT := GT_in (tlw (tin_8 (List.mem_of_getElem? (i := 30) rfl))) rfl
theorem w_8_31 : (Jvm.Cond.selects "OwlsLentModel" ({ cls := "OwlsLentModel", name := "hears", desc := "(I)I" } : Jvm.MethodName) ({ cls := "OwlsLentModel", name := "hears", desc := "(I)I" } : Jvm.MethodName)) ∈ GT := GT_in (tlw (tin_8 (List.mem_of_getElem? (i := 31) rfl))) rfl
theorem w_8_32 : (Jvm.Cond.code ({ cls := "OwlsLentModel", name := "hears", desc := "(I)I" } : Jvm.MethodName) prog_14_method_80_code (2 : Nat) (Option.some Jvm.ClassFile.FieldType.int)) ∈ GT := GT_in (tlw (tin_8 (List.mem_of_getElem? (i := 32) rfl))) rfl
theorem w_8_33 : (Jvm.Cond.methodLink "OwlsLentLaw" (97 : Nat) ({ cls := "OwlsLentModel", name := "would", desc := "(II)I" } : Jvm.MethodName)) ∈ GT := GT_in (tlw (tin_8 (List.mem_of_getElem? (i := 33) rfl))) rfl
theorem w_8_34 : (Jvm.Cond.instanceMethod ({ cls := "OwlsLentModel", name := "would", desc := "(II)I" } : Jvm.MethodName)) ∈ GT := GT_in (tlw (tin_8 (List.mem_of_getElem? (i := 34) rfl))) rfl
theorem w_8_35 : (Jvm.Cond.selects "OwlsLentModel" ({ cls := "OwlsLentModel", name := "would", desc := "(II)I" } : Jvm.MethodName) ({ cls := "OwlsLentModel", name := "would", desc := "(II)I" } : Jvm.MethodName)) ∈ GT := GT_in (tlw (tin_8 (List.mem_of_getElem? (i := 35) rfl))) rfl
theorem w_8_36 : (Jvm.Cond.code ({ cls := "OwlsLentModel", name := "would", desc := "(II)I" } : Jvm.MethodName) prog_14_method_81_code (3 : Nat) (Option.some Jvm.ClassFile.FieldType.int)) ∈ GT := GT_in (tlw (tin_8 (List.mem_of_getElem? (i := 36) rfl))) rfl
theorem w_8_37 : (Jvm.Cond.methodLink "OwlsLentLaw" (101 : Nat) ({ cls := "OwlsLentModel", name := "when", desc := "(II)I" } : Jvm.MethodName)) ∈ GT := GT_in (tlw (tin_8 (List.mem_of_getElem? (i := 37) rfl))) rfl
theorem w_8_38 : (Jvm.Cond.instanceMethod ({ cls := "OwlsLentModel", name := "when", desc := "(II)I" } : Jvm.MethodName)) ∈ GT := GT_in (tlw (tin_8 (List.mem_of_getElem? (i := 38) rfl))) rfl
theorem w_8_39 : (Jvm.Cond.selects "OwlsLentModel" ({ cls := "OwlsLentModel", name := "when", desc := "(II)I" } : Jvm.MethodName) ({ cls := "OwlsLentModel", name := "when", desc := "(II)I" } : Jvm.MethodName)) ∈ GT := GT_in (tlw (tin_8 (List.mem_of_getElem? (i := 39) rfl))) rfl
theorem w_8_40 : (Jvm.Cond.code ({ cls := "OwlsLentModel", name := "when", desc := "(II)I" } : Jvm.MethodName) prog_14_method_82_code (5 : Nat) (Option.some Jvm.ClassFile.FieldType.int)) ∈ GT := GT_in (tlw (tin_8 (List.mem_of_getElem? (i := 40) rfl))) rfl
theorem w_8_49 : (Jvm.Cond.methodLink "OwlsLentLaw" (104 : Nat) ({ cls := "OwlsLentModel", name := "loud", desc := "(II)I" } : Jvm.MethodName)) ∈ GT := GT_in (tlw (tin_8 (List.mem_of_getElem? (i := 49) rfl))) rfl
theorem w_8_50 : (Jvm.Cond.instanceMethod ({ cls := "OwlsLentModel", name := "loud", desc := "(II)I" } : Jvm.MethodName)) ∈ GT := GT_in (tlw (tin_8 (List.mem_of_getElem? (i := 50) rfl))) rfl
theorem w_8_51 : (Jvm.Cond.selects "OwlsLentModel" ({ cls := "OwlsLentModel", name := "loud", desc := "(II)I" } : Jvm.MethodName) ({ cls := "OwlsLentModel", name := "loud", desc := "(II)I" } : Jvm.MethodName)) ∈ GT := GT_in (tlw (tin_8 (List.mem_of_getElem? (i := 51) rfl))) rfl
theorem w_8_52 : (Jvm.Cond.code ({ cls := "OwlsLentModel", name := "loud", desc := "(II)I" } : Jvm.MethodName) prog_14_method_83_code (3 : Nat) (Option.some Jvm.ClassFile.FieldType.int)) ∈ GT := GT_in (tlw (tin_8 (List.mem_of_getElem? (i := 52) rfl))) rfl
theorem w_8_53 : (Jvm.Cond.methodLink "OwlsLentLaw" (108 : Nat) ({ cls := "OwlsLentModel", name := "spots", desc := "()I" } : Jvm.MethodName)) ∈ GT := GT_in (tlw (tin_8 (List.mem_of_getElem? (i := 53) rfl))) rfl
theorem w_8_54 : (Jvm.Cond.instanceMethod ({ cls := "OwlsLentModel", name := "spots", desc := "()I" } : Jvm.MethodName)) ∈ GT := GT_in (tlw (tin_8 (List.mem_of_getElem? (i := 54) rfl))) rfl
theorem w_8_55 : (Jvm.Cond.selects "OwlsLentModel" ({ cls := "OwlsLentModel", name := "spots", desc := "()I" } : Jvm.MethodName) ({ cls := "OwlsLentModel", name := "spots", desc := "()I" } : Jvm.MethodName)) ∈ GT := GT_in (tlw (tin_8 (List.mem_of_getElem? (i := 55) rfl))) rfl
theorem w_8_56 : (Jvm.Cond.code ({ cls := "OwlsLentModel", name := "spots", desc := "()I" } : Jvm.MethodName) prog_14_method_87_code (4 : Nat) (Option.some Jvm.ClassFile.FieldType.int)) ∈ GT := GT_in (tlw (tin_8 (List.mem_of_getElem? (i := 56) rfl))) rfl
theorem w_8_76 : (Jvm.Cond.methodLink "OwlsLentLaw" (112 : Nat) ({ cls := "OwlsLentModel", name := "spotAt", desc := "(I)I" } : Jvm.MethodName)) ∈ GT := GT_in (tlw (tin_8 (List.mem_of_getElem? (i := 76) rfl))) rfl
theorem w_8_77 : (Jvm.Cond.instanceMethod ({ cls := "OwlsLentModel", name := "spotAt", desc := "(I)I" } : Jvm.MethodName)) ∈ GT := GT_in (tlw (tin_8 (List.mem_of_getElem? (i := 77) rfl))) rfl
theorem w_8_78 : (Jvm.Cond.selects "OwlsLentModel" ({ cls := "OwlsLentModel", name := "spotAt", desc := "(I)I" } : Jvm.MethodName) ({ cls := "OwlsLentModel", name := "spotAt", desc := "(I)I" } : Jvm.MethodName)) ∈ GT := GT_in (tlw (tin_8 (List.mem_of_getElem? (i := 78) rfl))) rfl
theorem w_8_79 : (Jvm.Cond.code ({ cls := "OwlsLentModel", name := "spotAt", desc := "(I)I" } : Jvm.MethodName) prog_14_method_88_code (2 : Nat) (Option.some Jvm.ClassFile.FieldType.int)) ∈ GT := GT_in (tlw (tin_8 (List.mem_of_getElem? (i := 79) rfl))) rfl
theorem w_8_80 : (Jvm.Cond.methodLink "OwlsLentLaw" (116 : Nat) ({ cls := "OwlsLentModel", name := "next", desc := "()I" } : Jvm.MethodName)) ∈ GT := GT_in (tlw (tin_8 (List.mem_of_getElem? (i := 80) rfl))) rfl
theorem w_8_81 : (Jvm.Cond.instanceMethod ({ cls := "OwlsLentModel", name := "next", desc := "()I" } : Jvm.MethodName)) ∈ GT := GT_in (tlw (tin_8 (List.mem_of_getElem? (i := 81) rfl))) rfl
theorem w_8_82 : (Jvm.Cond.selects "OwlsLentModel" ({ cls := "OwlsLentModel", name := "next", desc := "()I" } : Jvm.MethodName) ({ cls := "OwlsLentModel", name := "next", desc := "()I" } : Jvm.MethodName)) ∈ GT := GT_in (tlw (tin_8 (List.mem_of_getElem? (i := 82) rfl))) rfl
theorem w_8_83 : (Jvm.Cond.code ({ cls := "OwlsLentModel", name := "next", desc := "()I" } : Jvm.MethodName) prog_14_method_89_code (1 : Nat) (Option.some Jvm.ClassFile.FieldType.int)) ∈ GT := GT_in (tlw (tin_8 (List.mem_of_getElem? (i := 83) rfl))) rfl
theorem w_8_84 : (Jvm.Cond.methodLink "OwlsLentLaw" (120 : Nat) ({ cls := "OwlsLentModel", name := "keen", desc := "()I" } : Jvm.MethodName)) ∈ GT := GT_in (tlw (tin_8 (List.mem_of_getElem? (i := 84) rfl))) rfl
theorem w_8_85 : (Jvm.Cond.instanceMethod ({ cls := "OwlsLentModel", name := "keen", desc := "()I" } : Jvm.MethodName)) ∈ GT := GT_in (tlw (tin_8 (List.mem_of_getElem? (i := 85) rfl))) rfl
theorem w_8_86 : (Jvm.Cond.selects "OwlsLentModel" ({ cls := "OwlsLentModel", name := "keen", desc := "()I" } : Jvm.MethodName) ({ cls := "OwlsLentModel", name := "keen", desc := "()I" } : Jvm.MethodName)) ∈ GT := GT_in (tlw (tin_8 (List.mem_of_getElem? (i := 86) rfl))) rfl
theorem w_8_87 : (Jvm.Cond.code ({ cls := "OwlsLentModel", name := "keen", desc := "()I" } : Jvm.MethodName) prog_14_method_91_code (5 : Nat) (Option.some Jvm.ClassFile.FieldType.int)) ∈ GT := GT_in (tlw (tin_8 (List.mem_of_getElem? (i := 87) rfl))) rfl
theorem w_8_92 : (Jvm.Cond.methodLink "OwlsLentLaw" (124 : Nat) ({ cls := "OwlsLentModel", name := "keenLeast", desc := "()I" } : Jvm.MethodName)) ∈ GT := GT_in (tlw (tin_8 (List.mem_of_getElem? (i := 92) rfl))) rfl
theorem w_8_93 : (Jvm.Cond.instanceMethod ({ cls := "OwlsLentModel", name := "keenLeast", desc := "()I" } : Jvm.MethodName)) ∈ GT := GT_in (tlw (tin_8 (List.mem_of_getElem? (i := 93) rfl))) rfl
theorem w_8_94 : (Jvm.Cond.selects "OwlsLentModel" ({ cls := "OwlsLentModel", name := "keenLeast", desc := "()I" } : Jvm.MethodName) ({ cls := "OwlsLentModel", name := "keenLeast", desc := "()I" } : Jvm.MethodName)) ∈ GT := GT_in (tlw (tin_8 (List.mem_of_getElem? (i := 94) rfl))) rfl
theorem w_8_95 : (Jvm.Cond.code ({ cls := "OwlsLentModel", name := "keenLeast", desc := "()I" } : Jvm.MethodName) prog_14_method_92_code (1 : Nat) (Option.some Jvm.ClassFile.FieldType.int)) ∈ GT := GT_in (tlw (tin_8 (List.mem_of_getElem? (i := 95) rfl))) rfl
theorem w_8_96 : (Jvm.Cond.methodLink "OwlsLentLaw" (128 : Nat) ({ cls := "OwlsLentModel", name := "keenMost", desc := "()I" } : Jvm.MethodName)) ∈ GT := GT_in (tlw (tin_8 (List.mem_of_getElem? (i := 96) rfl))) rfl
theorem w_8_97 : (Jvm.Cond.instanceMethod ({ cls := "OwlsLentModel", name := "keenMost", desc := "()I" } : Jvm.MethodName)) ∈ GT := GT_in (tlw (tin_8 (List.mem_of_getElem? (i := 97) rfl))) rfl
theorem w_8_98 : (Jvm.Cond.selects "OwlsLentModel" ({ cls := "OwlsLentModel", name := "keenMost", desc := "()I" } : Jvm.MethodName) ({ cls := "OwlsLentModel", name := "keenMost", desc := "()I" } : Jvm.MethodName)) ∈ GT := GT_in (tlw (tin_8 (List.mem_of_getElem? (i := 98) rfl))) rfl
theorem w_8_99 : (Jvm.Cond.code ({ cls := "OwlsLentModel", name := "keenMost", desc := "()I" } : Jvm.MethodName) prog_14_method_93_code (1 : Nat) (Option.some Jvm.ClassFile.FieldType.int)) ∈ GT := GT_in (tlw (tin_8 (List.mem_of_getElem? (i := 99) rfl))) rfl
theorem w_8_100 : (Jvm.Cond.methodLink "OwlsLentLaw" (132 : Nat) ({ cls := "OwlsLentModel", name := "best", desc := "()I" } : Jvm.MethodName)) ∈ GT := GT_in (tlw (tin_8 (List.mem_of_getElem? (i := 100) rfl))) rfl
theorem w_8_101 : (Jvm.Cond.instanceMethod ({ cls := "OwlsLentModel", name := "best", desc := "()I" } : Jvm.MethodName)) ∈ GT := GT_in (tlw (tin_8 (List.mem_of_getElem? (i := 101) rfl))) rfl
theorem w_8_102 : (Jvm.Cond.selects "OwlsLentModel" ({ cls := "OwlsLentModel", name := "best", desc := "()I" } : Jvm.MethodName) ({ cls := "OwlsLentModel", name := "best", desc := "()I" } : Jvm.MethodName)) ∈ GT := GT_in (tlw (tin_8 (List.mem_of_getElem? (i := 102) rfl))) rfl
theorem w_8_103 : (Jvm.Cond.code ({ cls := "OwlsLentModel", name := "best", desc := "()I" } : Jvm.MethodName) prog_14_method_96_code (5 : Nat) (Option.some Jvm.ClassFile.FieldType.int)) ∈ GT := GT_in (tlw (tin_8 (List.mem_of_getElem? (i := 103) rfl))) rfl
theorem w_8_113 : (Jvm.Cond.methodLink "OwlsLentLaw" (136 : Nat) ({ cls := "OwlsLentModel", name := "bestAt", desc := "(I)I" } : Jvm.MethodName)) ∈ GT := GT_in (tlw (tin_8 (List.mem_of_getElem? (i := 113) rfl))) rfl
theorem w_8_114 : (Jvm.Cond.instanceMethod ({ cls := "OwlsLentModel", name := "bestAt", desc := "(I)I" } : Jvm.MethodName)) ∈ GT := GT_in (tlw (tin_8 (List.mem_of_getElem? (i := 114) rfl))) rfl
theorem w_8_115 : (Jvm.Cond.selects "OwlsLentModel" ({ cls := "OwlsLentModel", name := "bestAt", desc := "(I)I" } : Jvm.MethodName) ({ cls := "OwlsLentModel", name := "bestAt", desc := "(I)I" } : Jvm.MethodName)) ∈ GT := GT_in (tlw (tin_8 (List.mem_of_getElem? (i := 115) rfl))) rfl
theorem w_8_116 : (Jvm.Cond.code ({ cls := "OwlsLentModel", name := "bestAt", desc := "(I)I" } : Jvm.MethodName) prog_14_method_97_code (2 : Nat) (Option.some Jvm.ClassFile.FieldType.int)) ∈ GT := GT_in (tlw (tin_8 (List.mem_of_getElem? (i := 116) rfl))) rfl
theorem w_8_117 : (Jvm.Cond.methodLink "OwlsLentLaw" (140 : Nat) ({ cls := "OwlsLentModel", name := "code", desc := "(I)I" } : Jvm.MethodName)) ∈ GT := GT_in (tlw (tin_8 (List.mem_of_getElem? (i := 117) rfl))) rfl
theorem w_8_118 : (Jvm.Cond.instanceMethod ({ cls := "OwlsLentModel", name := "code", desc := "(I)I" } : Jvm.MethodName)) ∈ GT := GT_in (tlw (tin_8 (List.mem_of_getElem? (i := 118) rfl))) rfl
theorem w_8_119 : (Jvm.Cond.selects "OwlsLentModel" ({ cls := "OwlsLentModel", name := "code", desc := "(I)I" } : Jvm.MethodName) ({ cls := "OwlsLentModel", name := "code", desc := "(I)I" } : Jvm.MethodName)) ∈ GT := GT_in (tlw (tin_8 (List.mem_of_getElem? (i := 119) rfl))) rfl
theorem w_8_120 : (Jvm.Cond.code ({ cls := "OwlsLentModel", name := "code", desc := "(I)I" } : Jvm.MethodName) prog_14_method_99_code (3 : Nat) (Option.some Jvm.ClassFile.FieldType.int)) ∈ GT := GT_in (tlw (tin_8 (List.mem_of_getElem? (i := 120) rfl))) rfl
theorem w_8_125 : (Jvm.Cond.methodLink "OwlsLentLaw" (144 : Nat) ({ cls := "OwlsLentModel", name := "codeAt", desc := "(I)I" } : Jvm.MethodName)) ∈ GT := GT_in (tlw (tin_8 (List.mem_of_getElem? (i := 125) rfl))) rfl
theorem w_8_126 : (Jvm.Cond.instanceMethod ({ cls := "OwlsLentModel", name := "codeAt", desc := "(I)I" } : Jvm.MethodName)) ∈ GT := GT_in (tlw (tin_8 (List.mem_of_getElem? (i := 126) rfl))) rfl
theorem w_8_127 : (Jvm.Cond.selects "OwlsLentModel" ({ cls := "OwlsLentModel", name := "codeAt", desc := "(I)I" } : Jvm.MethodName) ({ cls := "OwlsLentModel", name := "codeAt", desc := "(I)I" } : Jvm.MethodName)) ∈ GT := GT_in (tlw (tin_8 (List.mem_of_getElem? (i := 127) rfl))) rfl
theorem w_8_128 : (Jvm.Cond.code ({ cls := "OwlsLentModel", name := "codeAt", desc := "(I)I" } : Jvm.MethodName) prog_14_method_100_code (2 : Nat) (Option.some Jvm.ClassFile.FieldType.int)) ∈ GT := GT_in (tlw (tin_8 (List.mem_of_getElem? (i := 128) rfl))) rfl
theorem w_8_129 : (Jvm.Cond.methodLink "OwlsLentLaw" (148 : Nat) ({ cls := "OwlsLentModel", name := "duel", desc := "(III)I" } : Jvm.MethodName)) ∈ GT := GT_in (tlw (tin_8 (List.mem_of_getElem? (i := 129) rfl))) rfl
theorem w_8_130 : (Jvm.Cond.instanceMethod ({ cls := "OwlsLentModel", name := "duel", desc := "(III)I" } : Jvm.MethodName)) ∈ GT := GT_in (tlw (tin_8 (List.mem_of_getElem? (i := 130) rfl))) rfl
theorem w_8_131 : (Jvm.Cond.selects "OwlsLentModel" ({ cls := "OwlsLentModel", name := "duel", desc := "(III)I" } : Jvm.MethodName) ({ cls := "OwlsLentModel", name := "duel", desc := "(III)I" } : Jvm.MethodName)) ∈ GT := GT_in (tlw (tin_8 (List.mem_of_getElem? (i := 131) rfl))) rfl
theorem w_8_132 : (Jvm.Cond.code ({ cls := "OwlsLentModel", name := "duel", desc := "(III)I" } : Jvm.MethodName) prog_14_method_103_code (7 : Nat) (Option.some Jvm.ClassFile.FieldType.int)) ∈ GT := GT_in (tlw (tin_8 (List.mem_of_getElem? (i := 132) rfl))) rfl
theorem w_8_141 : (Jvm.Cond.methodLink "OwlsLentLaw" (152 : Nat) ({ cls := "OwlsLentModel", name := "duelAt", desc := "()I" } : Jvm.MethodName)) ∈ GT := GT_in (tlw (tin_8 (List.mem_of_getElem? (i := 141) rfl))) rfl
theorem w_8_142 : (Jvm.Cond.instanceMethod ({ cls := "OwlsLentModel", name := "duelAt", desc := "()I" } : Jvm.MethodName)) ∈ GT := GT_in (tlw (tin_8 (List.mem_of_getElem? (i := 142) rfl))) rfl
theorem w_8_143 : (Jvm.Cond.selects "OwlsLentModel" ({ cls := "OwlsLentModel", name := "duelAt", desc := "()I" } : Jvm.MethodName) ({ cls := "OwlsLentModel", name := "duelAt", desc := "()I" } : Jvm.MethodName)) ∈ GT := GT_in (tlw (tin_8 (List.mem_of_getElem? (i := 143) rfl))) rfl
theorem w_8_144 : (Jvm.Cond.code ({ cls := "OwlsLentModel", name := "duelAt", desc := "()I" } : Jvm.MethodName) prog_14_method_104_code (1 : Nat) (Option.some Jvm.ClassFile.FieldType.int)) ∈ GT := GT_in (tlw (tin_8 (List.mem_of_getElem? (i := 144) rfl))) rfl
theorem w_8_145 : (Jvm.Cond.methodLink "OwlsLentLaw" (156 : Nat) ({ cls := "OwlsLentModel", name := "worth", desc := "(II)I" } : Jvm.MethodName)) ∈ GT := GT_in (tlw (tin_8 (List.mem_of_getElem? (i := 145) rfl))) rfl
theorem w_8_146 : (Jvm.Cond.instanceMethod ({ cls := "OwlsLentModel", name := "worth", desc := "(II)I" } : Jvm.MethodName)) ∈ GT := GT_in (tlw (tin_8 (List.mem_of_getElem? (i := 146) rfl))) rfl
theorem w_8_147 : (Jvm.Cond.selects "OwlsLentModel" ({ cls := "OwlsLentModel", name := "worth", desc := "(II)I" } : Jvm.MethodName) ({ cls := "OwlsLentModel", name := "worth", desc := "(II)I" } : Jvm.MethodName)) ∈ GT := GT_in (tlw (tin_8 (List.mem_of_getElem? (i := 147) rfl))) rfl
theorem w_8_148 : (Jvm.Cond.code ({ cls := "OwlsLentModel", name := "worth", desc := "(II)I" } : Jvm.MethodName) prog_14_method_105_code (6 : Nat) (Option.some Jvm.ClassFile.FieldType.int)) ∈ GT := GT_in (tlw (tin_8 (List.mem_of_getElem? (i := 148) rfl))) rfl
theorem w_8_149 : (Jvm.Cond.methodLink "OwlsLentLaw" (160 : Nat) ({ cls := "OwlsLentModel", name := "note", desc := "(I)I" } : Jvm.MethodName)) ∈ GT := GT_in (tlw (tin_8 (List.mem_of_getElem? (i := 149) rfl))) rfl
theorem w_8_150 : (Jvm.Cond.instanceMethod ({ cls := "OwlsLentModel", name := "note", desc := "(I)I" } : Jvm.MethodName)) ∈ GT := GT_in (tlw (tin_8 (List.mem_of_getElem? (i := 150) rfl))) rfl
theorem w_8_151 : (Jvm.Cond.selects "OwlsLentModel" ({ cls := "OwlsLentModel", name := "note", desc := "(I)I" } : Jvm.MethodName) ({ cls := "OwlsLentModel", name := "note", desc := "(I)I" } : Jvm.MethodName)) ∈ GT := GT_in (tlw (tin_8 (List.mem_of_getElem? (i := 151) rfl))) rfl
theorem w_8_152 : (Jvm.Cond.code ({ cls := "OwlsLentModel", name := "note", desc := "(I)I" } : Jvm.MethodName) prog_14_method_109_code (4 : Nat) (Option.some Jvm.ClassFile.FieldType.int)) ∈ GT := GT_in (tlw (tin_8 (List.mem_of_getElem? (i := 152) rfl))) rfl
theorem w_8_169 : (Jvm.Cond.methodLink "OwlsLentLaw" (164 : Nat) ({ cls := "OwlsLentModel", name := "byteAt", desc := "(I)I" } : Jvm.MethodName)) ∈ GT := GT_in (tlw (tin_8 (List.mem_of_getElem? (i := 169) rfl))) rfl
theorem w_8_170 : (Jvm.Cond.instanceMethod ({ cls := "OwlsLentModel", name := "byteAt", desc := "(I)I" } : Jvm.MethodName)) ∈ GT := GT_in (tlw (tin_8 (List.mem_of_getElem? (i := 170) rfl))) rfl
theorem w_8_171 : (Jvm.Cond.selects "OwlsLentModel" ({ cls := "OwlsLentModel", name := "byteAt", desc := "(I)I" } : Jvm.MethodName) ({ cls := "OwlsLentModel", name := "byteAt", desc := "(I)I" } : Jvm.MethodName)) ∈ GT := GT_in (tlw (tin_8 (List.mem_of_getElem? (i := 171) rfl))) rfl
theorem w_8_172 : (Jvm.Cond.code ({ cls := "OwlsLentModel", name := "byteAt", desc := "(I)I" } : Jvm.MethodName) prog_14_method_110_code (2 : Nat) (Option.some Jvm.ClassFile.FieldType.int)) ∈ GT := GT_in (tlw (tin_8 (List.mem_of_getElem? (i := 172) rfl))) rfl
theorem w_8_173 : (Jvm.Cond.methodLink "OwlsLentLaw" (168 : Nat) ({ cls := "OwlsLentModel", name := "drawn", desc := "(II)I" } : Jvm.MethodName)) ∈ GT := GT_in (tlw (tin_8 (List.mem_of_getElem? (i := 173) rfl))) rfl
theorem w_8_174 : (Jvm.Cond.instanceMethod ({ cls := "OwlsLentModel", name := "drawn", desc := "(II)I" } : Jvm.MethodName)) ∈ GT := GT_in (tlw (tin_8 (List.mem_of_getElem? (i := 174) rfl))) rfl
theorem w_8_175 : (Jvm.Cond.selects "OwlsLentModel" ({ cls := "OwlsLentModel", name := "drawn", desc := "(II)I" } : Jvm.MethodName) ({ cls := "OwlsLentModel", name := "drawn", desc := "(II)I" } : Jvm.MethodName)) ∈ GT := GT_in (tlw (tin_8 (List.mem_of_getElem? (i := 175) rfl))) rfl
theorem w_8_176 : (Jvm.Cond.code ({ cls := "OwlsLentModel", name := "drawn", desc := "(II)I" } : Jvm.MethodName) prog_14_method_113_code (3 : Nat) (Option.some Jvm.ClassFile.FieldType.int)) ∈ GT := GT_in (tlw (tin_8 (List.mem_of_getElem? (i := 176) rfl))) rfl
theorem w_8_186 : (Jvm.Cond.methodLink "OwlsLentLaw" (172 : Nat) ({ cls := "OwlsLentModel", name := "odds", desc := "(III)I" } : Jvm.MethodName)) ∈ GT := GT_in (tlw (tin_8 (List.mem_of_getElem? (i := 186) rfl))) rfl
theorem w_8_187 : (Jvm.Cond.instanceMethod ({ cls := "OwlsLentModel", name := "odds", desc := "(III)I" } : Jvm.MethodName)) ∈ GT := GT_in (tlw (tin_8 (List.mem_of_getElem? (i := 187) rfl))) rfl
theorem w_8_188 : (Jvm.Cond.selects "OwlsLentModel" ({ cls := "OwlsLentModel", name := "odds", desc := "(III)I" } : Jvm.MethodName) ({ cls := "OwlsLentModel", name := "odds", desc := "(III)I" } : Jvm.MethodName)) ∈ GT := GT_in (tlw (tin_8 (List.mem_of_getElem? (i := 188) rfl))) rfl
theorem w_8_189 : (Jvm.Cond.code ({ cls := "OwlsLentModel", name := "odds", desc := "(III)I" } : Jvm.MethodName) prog_14_method_114_code (7 : Nat) (Option.some Jvm.ClassFile.FieldType.int)) ∈ GT := GT_in (tlw (tin_8 (List.mem_of_getElem? (i := 189) rfl))) rfl
theorem w_8_190 : (Jvm.Cond.methodLink "OwlsLentLaw" (176 : Nat) ({ cls := "OwlsLentModel", name := "book", desc := "(I)I" } : Jvm.MethodName)) ∈ GT := GT_in (tlw (tin_8 (List.mem_of_getElem? (i := 190) rfl))) rfl
theorem w_8_191 : (Jvm.Cond.instanceMethod ({ cls := "OwlsLentModel", name := "book", desc := "(I)I" } : Jvm.MethodName)) ∈ GT := GT_in (tlw (tin_8 (List.mem_of_getElem? (i := 191) rfl))) rfl
theorem w_8_192 : (Jvm.Cond.selects "OwlsLentModel" ({ cls := "OwlsLentModel", name := "book", desc := "(I)I" } : Jvm.MethodName) ({ cls := "OwlsLentModel", name := "book", desc := "(I)I" } : Jvm.MethodName)) ∈ GT := GT_in (tlw (tin_8 (List.mem_of_getElem? (i := 192) rfl))) rfl
theorem w_8_193 : (Jvm.Cond.code ({ cls := "OwlsLentModel", name := "book", desc := "(I)I" } : Jvm.MethodName) prog_14_method_117_code (4 : Nat) (Option.some Jvm.ClassFile.FieldType.int)) ∈ GT := GT_in (tlw (tin_8 (List.mem_of_getElem? (i := 193) rfl))) rfl
theorem w_8_202 : (Jvm.Cond.methodLink "OwlsLentLaw" (180 : Nat) ({ cls := "OwlsLentModel", name := "told", desc := "(I)I" } : Jvm.MethodName)) ∈ GT := GT_in (tlw (tin_8 (List.mem_of_getElem? (i := 202) rfl))) rfl
theorem w_8_203 : (Jvm.Cond.instanceMethod ({ cls := "OwlsLentModel", name := "told", desc := "(I)I" } : Jvm.MethodName)) ∈ GT := GT_in (tlw (tin_8 (List.mem_of_getElem? (i := 203) rfl))) rfl
theorem w_8_204 : (Jvm.Cond.selects "OwlsLentModel" ({ cls := "OwlsLentModel", name := "told", desc := "(I)I" } : Jvm.MethodName) ({ cls := "OwlsLentModel", name := "told", desc := "(I)I" } : Jvm.MethodName)) ∈ GT := GT_in (tlw (tin_8 (List.mem_of_getElem? (i := 204) rfl))) rfl
theorem w_8_205 : (Jvm.Cond.code ({ cls := "OwlsLentModel", name := "told", desc := "(I)I" } : Jvm.MethodName) prog_14_method_118_code (2 : Nat) (Option.some Jvm.ClassFile.FieldType.int)) ∈ GT := GT_in (tlw (tin_8 (List.mem_of_getElem? (i := 205) rfl))) rfl
theorem w_8_206 : (Jvm.Cond.methodLink "OwlsLentLaw" (184 : Nat) ({ cls := "OwlsLentModel", name := "sentence", desc := "()I" } : Jvm.MethodName)) ∈ GT := GT_in (tlw (tin_8 (List.mem_of_getElem? (i := 206) rfl))) rfl
theorem w_8_207 : (Jvm.Cond.instanceMethod ({ cls := "OwlsLentModel", name := "sentence", desc := "()I" } : Jvm.MethodName)) ∈ GT := GT_in (tlw (tin_8 (List.mem_of_getElem? (i := 207) rfl))) rfl
theorem w_8_208 : (Jvm.Cond.selects "OwlsLentModel" ({ cls := "OwlsLentModel", name := "sentence", desc := "()I" } : Jvm.MethodName) ({ cls := "OwlsLentModel", name := "sentence", desc := "()I" } : Jvm.MethodName)) ∈ GT := GT_in (tlw (tin_8 (List.mem_of_getElem? (i := 208) rfl))) rfl
theorem w_8_209 : (Jvm.Cond.code ({ cls := "OwlsLentModel", name := "sentence", desc := "()I" } : Jvm.MethodName) prog_14_method_125_code (3 : Nat) (Option.some Jvm.ClassFile.FieldType.int)) ∈ GT := GT_in (tlw (tin_8 (List.mem_of_getElem? (i := 209) rfl))) rfl
theorem w_8_234 : (Jvm.Cond.methodLink "OwlsLentLaw" (188 : Nat) ({ cls := "OwlsLentModel", name := "said", desc := "(I)I" } : Jvm.MethodName)) ∈ GT := GT_in (tlw (tin_8 (List.mem_of_getElem? (i := 234) rfl))) rfl
theorem w_8_235 : (Jvm.Cond.instanceMethod ({ cls := "OwlsLentModel", name := "said", desc := "(I)I" } : Jvm.MethodName)) ∈ GT := GT_in (tlw (tin_8 (List.mem_of_getElem? (i := 235) rfl))) rfl
theorem w_8_236 : (Jvm.Cond.selects "OwlsLentModel" ({ cls := "OwlsLentModel", name := "said", desc := "(I)I" } : Jvm.MethodName) ({ cls := "OwlsLentModel", name := "said", desc := "(I)I" } : Jvm.MethodName)) ∈ GT := GT_in (tlw (tin_8 (List.mem_of_getElem? (i := 236) rfl))) rfl
theorem w_8_237 : (Jvm.Cond.code ({ cls := "OwlsLentModel", name := "said", desc := "(I)I" } : Jvm.MethodName) prog_14_method_128_code (4 : Nat) (Option.some Jvm.ClassFile.FieldType.int)) ∈ GT := GT_in (tlw (tin_8 (List.mem_of_getElem? (i := 237) rfl))) rfl
theorem w_9_6 : (Jvm.Cond.methodLink "OwlsLentLaw" (192 : Nat) ({ cls := "OwlsLentModel", name := "image", desc := "(I)Z" } : Jvm.MethodName)) ∈ GT := GT_in (tlw (tin_9 (List.mem_of_getElem? (i := 6) rfl))) rfl
theorem w_9_7 : (Jvm.Cond.instanceMethod ({ cls := "OwlsLentModel", name := "image", desc := "(I)Z" } : Jvm.MethodName)) ∈ GT := GT_in (tlw (tin_9 (List.mem_of_getElem? (i := 7) rfl))) rfl
theorem w_9_8 : (Jvm.Cond.selects "OwlsLentModel" ({ cls := "OwlsLentModel", name := "image", desc := "(I)Z" } : Jvm.MethodName) ({ cls := "OwlsLentModel", name := "image", desc := "(I)Z" } : Jvm.MethodName)) ∈ GT := GT_in (tlw (tin_9 (List.mem_of_getElem? (i := 8) rfl))) rfl
theorem w_9_9 : (Jvm.Cond.code ({ cls := "OwlsLentModel", name := "image", desc := "(I)Z" } : Jvm.MethodName) prog_14_method_129_code (3 : Nat) (Option.some Jvm.ClassFile.FieldType.boolean)) ∈ GT := GT_in (tlw (tin_9 (List.mem_of_getElem? (i := 9) rfl))) rfl
theorem w_9_10 : (Jvm.Cond.methodLink "OwlsLentLaw" (196 : Nat) ({ cls := "OwlsLentModel", name := "restore", desc := "(I)Z" } : Jvm.MethodName)) ∈ GT := GT_in (tlw (tin_9 (List.mem_of_getElem? (i := 10) rfl))) rfl
theorem w_9_11 : (Jvm.Cond.instanceMethod ({ cls := "OwlsLentModel", name := "restore", desc := "(I)Z" } : Jvm.MethodName)) ∈ GT := GT_in (tlw (tin_9 (List.mem_of_getElem? (i := 11) rfl))) rfl
theorem w_9_12 : (Jvm.Cond.selects "OwlsLentModel" ({ cls := "OwlsLentModel", name := "restore", desc := "(I)Z" } : Jvm.MethodName) ({ cls := "OwlsLentModel", name := "restore", desc := "(I)Z" } : Jvm.MethodName)) ∈ GT := GT_in (tlw (tin_9 (List.mem_of_getElem? (i := 12) rfl))) rfl
theorem w_9_13 : (Jvm.Cond.code ({ cls := "OwlsLentModel", name := "restore", desc := "(I)Z" } : Jvm.MethodName) prog_14_method_130_code (3 : Nat) (Option.some Jvm.ClassFile.FieldType.boolean)) ∈ GT := GT_in (tlw (tin_9 (List.mem_of_getElem? (i := 13) rfl))) rfl
theorem w_9_14 : (Jvm.Cond.methodLink "OwlsLentLaw" (200 : Nat) ({ cls := "OwlsLentModel", name := "count", desc := "(I)I" } : Jvm.MethodName)) ∈ GT := GT_in (tlw (tin_9 (List.mem_of_getElem? (i := 14) rfl))) rfl
theorem w_9_15 : (Jvm.Cond.instanceMethod ({ cls := "OwlsLentModel", name := "count", desc := "(I)I" } : Jvm.MethodName)) ∈ GT := GT_in (tlw (tin_9 (List.mem_of_getElem? (i := 15) rfl))) rfl
theorem w_9_16 : (Jvm.Cond.selects "OwlsLentModel" ({ cls := "OwlsLentModel", name := "count", desc := "(I)I" } : Jvm.MethodName) ({ cls := "OwlsLentModel", name := "count", desc := "(I)I" } : Jvm.MethodName)) ∈ GT := GT_in (tlw (tin_9 (List.mem_of_getElem? (i := 16) rfl))) rfl
theorem w_9_17 : (Jvm.Cond.code ({ cls := "OwlsLentModel", name := "count", desc := "(I)I" } : Jvm.MethodName) prog_14_method_131_code (2 : Nat) (Option.some Jvm.ClassFile.FieldType.int)) ∈ GT := GT_in (tlw (tin_9 (List.mem_of_getElem? (i := 17) rfl))) rfl
theorem ml_L_25 : xML RXL 25 10 yX11_feed cX11_feed 6 (some .int) 5 := ⟨w_3_44, w_3_45, w_3_46, w_1_1, w_3_47, ⟨TX11, 19, rfl⟩, neM_11, neV_11, rfl⟩
theorem ml_L_29 : xML RXL 29 11 yX12_feed cX12_feed 6 (some .int) 5 := ⟨w_6_10, w_6_11, w_6_12, w_1_17, w_6_13, ⟨TX12, 58, rfl⟩, neM_12, neV_12, rfl⟩
theorem ml_L_30 : xML RXL 30 10 yX11_end cX11_end 2 (some .boolean) 1 := ⟨w_3_56, w_3_57, w_3_58, w_1_1, w_3_59, ⟨TX11, 19, rfl⟩, neM_11, neV_11, rfl⟩
theorem ml_L_34 : xML RXL 34 11 yX12_end cX12_end 2 (some .boolean) 1 := ⟨w_6_19, w_6_20, w_6_21, w_1_17, w_6_22, ⟨TX12, 58, rfl⟩, neM_12, neV_12, rfl⟩
theorem ml_L_35 : xML RXL 35 10 yX11_house cX11_house 2 (some .int) 0 := ⟨w_3_60, w_3_61, w_3_62, w_1_1, w_3_63, ⟨TX11, 19, rfl⟩, neM_11, neV_11, rfl⟩
theorem ml_L_39 : xML RXL 39 11 yX12_house cX12_house 2 (some .int) 0 := ⟨w_6_239, w_7_0, w_7_1, w_1_17, w_7_2, ⟨TX12, 58, rfl⟩, neM_12, neV_12, rfl⟩
theorem ml_L_40 : xML RXL 40 10 yX11_fault cX11_fault 1 (some .int) 0 := ⟨w_3_196, w_3_197, w_3_198, w_1_1, w_3_199, ⟨TX11, 19, rfl⟩, neM_11, neV_11, rfl⟩
theorem ml_L_43 : xML RXL 43 11 yX12_fault cX12_fault 1 (some .int) 0 := ⟨w_7_111, w_7_112, w_7_113, w_1_17, w_7_114, ⟨TX12, 58, rfl⟩, neM_12, neV_12, rfl⟩
theorem ml_L_49 : xML RXL 49 11 yX12_bed cX12_bed 3 (some .int) 2 := ⟨w_7_115, w_7_116, w_7_117, w_1_17, w_7_118, ⟨TX12, 58, rfl⟩, neM_12, neV_12, rfl⟩
theorem ml_L_50 : xML RXL 50 11 yX12_thrown cX12_thrown 1 (some .int) 0 := ⟨w_6_6, w_6_7, w_6_8, w_1_17, w_6_9, ⟨TX12, 58, rfl⟩, neM_12, neV_12, rfl⟩
theorem ml_L_55 : xML RXL 55 11 yX12_owl cX12_owl 3 (some .int) 2 := ⟨w_7_131, w_7_132, w_7_133, w_1_17, w_7_134, ⟨TX12, 58, rfl⟩, neM_12, neV_12, rfl⟩
theorem ml_L_56 : xML RXL 56 10 yX11_sound cX11_sound 5 (some .int) 2 := ⟨w_3_200, w_3_201, w_3_202, w_1_1, w_3_203, ⟨TX11, 19, rfl⟩, neM_11, neV_11, rfl⟩
theorem ml_L_59 : xML RXL 59 11 yX12_sound cX12_sound 3 (some .int) 2 := ⟨w_7_197, w_7_198, w_7_199, w_1_17, w_7_200, ⟨TX12, 58, rfl⟩, neM_12, neV_12, rfl⟩
theorem ml_L_60 : xML RXL 60 10 yX11_now cX11_now 4 (some .int) 1 := ⟨w_3_215, w_3_216, w_3_217, w_1_1, w_3_218, ⟨TX11, 19, rfl⟩, neM_11, neV_11, rfl⟩
theorem ml_L_64 : xML RXL 64 11 yX12_now cX12_now 4 (some .int) 1 := ⟨w_7_205, w_7_206, w_7_207, w_1_17, w_7_208, ⟨TX12, 58, rfl⟩, neM_12, neV_12, rfl⟩
theorem ml_L_65 : xML RXL 65 10 yX11_lend cX11_lend 4 (some .int) 2 := ⟨w_4_27, w_4_28, w_4_29, w_1_1, w_4_30, ⟨TX11, 19, rfl⟩, neM_11, neV_11, rfl⟩
theorem ml_L_68 : xML RXL 68 11 yX12_lend cX12_lend 4 (some .int) 2 := ⟨w_7_217, w_7_218, w_7_219, w_1_17, w_7_220, ⟨TX12, 58, rfl⟩, neM_12, neV_12, rfl⟩
theorem ml_L_69 : xML RXL 69 10 yX11_hush cX11_hush 2 (some .int) 1 := ⟨w_4_66, w_4_67, w_4_68, w_1_1, w_4_69, ⟨TX11, 19, rfl⟩, neM_11, neV_11, rfl⟩
theorem ml_L_72 : xML RXL 72 11 yX12_hush cX12_hush 2 (some .int) 1 := ⟨w_7_229, w_7_230, w_7_231, w_1_17, w_7_232, ⟨TX12, 58, rfl⟩, neM_12, neV_12, rfl⟩
theorem ml_L_73 : xML RXL 73 10 yX11_let cX11_let 2 (some .int) 1 := ⟨w_4_74, w_4_75, w_4_76, w_1_1, w_4_77, ⟨TX11, 19, rfl⟩, neM_11, neV_11, rfl⟩
theorem ml_L_76 : xML RXL 76 11 yX12_let cX12_let 2 (some .int) 1 := ⟨w_7_237, w_7_238, w_7_239, w_1_17, w_8_0, ⟨TX12, 58, rfl⟩, neM_12, neV_12, rfl⟩
theorem ml_L_77 : xML RXL 77 10 yX11_shout cX11_shout 4 (some .int) 3 := ⟨w_4_82, w_4_83, w_4_84, w_1_1, w_4_85, ⟨TX11, 19, rfl⟩, neM_11, neV_11, rfl⟩
theorem ml_L_81 : xML RXL 81 11 yX12_shout cX12_shout 4 (some .int) 3 := ⟨w_8_1, w_8_2, w_8_3, w_1_17, w_8_4, ⟨TX12, 58, rfl⟩, neM_12, neV_12, rfl⟩
theorem ml_L_82 : xML RXL 82 10 yX11_hours cX11_hours 4 (some .int) 1 := ⟨w_4_98, w_4_99, w_4_100, w_1_1, w_4_101, ⟨TX11, 19, rfl⟩, neM_11, neV_11, rfl⟩
theorem ml_L_85 : xML RXL 85 11 yX12_hours cX12_hours 2 (some .int) 1 := ⟨w_8_13, w_8_14, w_8_15, w_1_17, w_8_16, ⟨TX12, 58, rfl⟩, neM_12, neV_12, rfl⟩
theorem ml_L_86 : xML RXL 86 10 yX11_undo cX11_undo 1 (some .int) 0 := ⟨w_4_124, w_4_125, w_4_126, w_1_1, w_4_127, ⟨TX11, 19, rfl⟩, neM_11, neV_11, rfl⟩
theorem ml_L_89 : xML RXL 89 11 yX12_undo cX12_undo 2 (some .int) 0 := ⟨w_8_25, w_8_26, w_8_27, w_1_17, w_8_28, ⟨TX12, 58, rfl⟩, neM_12, neV_12, rfl⟩
theorem ml_L_90 : xML RXL 90 10 yX11_hears cX11_hears 4 (some .int) 1 := ⟨w_4_132, w_4_133, w_4_134, w_1_1, w_4_135, ⟨TX11, 19, rfl⟩, neM_11, neV_11, rfl⟩
theorem ml_L_93 : xML RXL 93 11 yX12_hears cX12_hears 2 (some .int) 1 := ⟨w_8_29, w_8_30, w_8_31, w_1_17, w_8_32, ⟨TX12, 58, rfl⟩, neM_12, neV_12, rfl⟩
theorem ml_L_94 : xML RXL 94 10 yX11_would cX11_would 5 (some .int) 2 := ⟨w_4_140, w_4_141, w_4_142, w_1_1, w_4_143, ⟨TX11, 19, rfl⟩, neM_11, neV_11, rfl⟩
theorem ml_L_97 : xML RXL 97 11 yX12_would cX12_would 3 (some .int) 2 := ⟨w_8_33, w_8_34, w_8_35, w_1_17, w_8_36, ⟨TX12, 58, rfl⟩, neM_12, neV_12, rfl⟩
theorem ml_L_98 : xML RXL 98 10 yX11_when cX11_when 8 (some .int) 2 := ⟨w_4_150, w_4_151, w_4_152, w_1_1, w_4_153, ⟨TX11, 19, rfl⟩, neM_11, neV_11, rfl⟩
theorem ml_L_101 : xML RXL 101 11 yX12_when cX12_when 5 (some .int) 2 := ⟨w_8_37, w_8_38, w_8_39, w_1_17, w_8_40, ⟨TX12, 58, rfl⟩, neM_12, neV_12, rfl⟩
theorem ml_L_104 : xML RXL 104 11 yX12_loud cX12_loud 3 (some .int) 2 := ⟨w_8_49, w_8_50, w_8_51, w_1_17, w_8_52, ⟨TX12, 58, rfl⟩, neM_12, neV_12, rfl⟩
theorem ml_L_105 : xML RXL 105 10 yX11_spots cX11_spots 2 (some .int) 0 := ⟨w_4_161, w_4_162, w_4_163, w_1_1, w_4_164, ⟨TX11, 19, rfl⟩, neM_11, neV_11, rfl⟩
theorem ml_L_108 : xML RXL 108 11 yX12_spots cX12_spots 4 (some .int) 0 := ⟨w_8_53, w_8_54, w_8_55, w_1_17, w_8_56, ⟨TX12, 58, rfl⟩, neM_12, neV_12, rfl⟩
theorem ml_L_109 : xML RXL 109 10 yX11_spotAt cX11_spotAt 2 (some .int) 1 := ⟨w_4_189, w_4_190, w_4_191, w_1_1, w_4_192, ⟨TX11, 19, rfl⟩, neM_11, neV_11, rfl⟩
theorem ml_L_112 : xML RXL 112 11 yX12_spotAt cX12_spotAt 2 (some .int) 1 := ⟨w_8_76, w_8_77, w_8_78, w_1_17, w_8_79, ⟨TX12, 58, rfl⟩, neM_12, neV_12, rfl⟩
theorem ml_L_113 : xML RXL 113 10 yX11_next cX11_next 1 (some .int) 0 := ⟨w_4_193, w_4_194, w_4_195, w_1_1, w_4_196, ⟨TX11, 19, rfl⟩, neM_11, neV_11, rfl⟩
theorem ml_L_116 : xML RXL 116 11 yX12_next cX12_next 1 (some .int) 0 := ⟨w_8_80, w_8_81, w_8_82, w_1_17, w_8_83, ⟨TX12, 58, rfl⟩, neM_12, neV_12, rfl⟩
theorem ml_L_117 : xML RXL 117 10 yX11_keen cX11_keen 7 (some .int) 0 := ⟨w_4_197, w_4_198, w_4_199, w_1_1, w_4_200, ⟨TX11, 19, rfl⟩, neM_11, neV_11, rfl⟩
theorem ml_L_120 : xML RXL 120 11 yX12_keen cX12_keen 5 (some .int) 0 := ⟨w_8_84, w_8_85, w_8_86, w_1_17, w_8_87, ⟨TX12, 58, rfl⟩, neM_12, neV_12, rfl⟩
theorem ml_L_121 : xML RXL 121 10 yX11_keenLeast cX11_keenLeast 1 (some .int) 0 := ⟨w_4_203, w_4_204, w_4_205, w_1_1, w_4_206, ⟨TX11, 19, rfl⟩, neM_11, neV_11, rfl⟩
theorem ml_L_124 : xML RXL 124 11 yX12_keenLeast cX12_keenLeast 1 (some .int) 0 := ⟨w_8_92, w_8_93, w_8_94, w_1_17, w_8_95, ⟨TX12, 58, rfl⟩, neM_12, neV_12, rfl⟩
theorem ml_L_125 : xML RXL 125 10 yX11_keenMost cX11_keenMost 1 (some .int) 0 := ⟨w_4_207, w_4_208, w_4_209, w_1_1, w_4_210, ⟨TX11, 19, rfl⟩, neM_11, neV_11, rfl⟩
theorem ml_L_128 : xML RXL 128 11 yX12_keenMost cX12_keenMost 1 (some .int) 0 := ⟨w_8_96, w_8_97, w_8_98, w_1_17, w_8_99, ⟨TX12, 58, rfl⟩, neM_12, neV_12, rfl⟩
theorem ml_L_129 : xML RXL 129 10 yX11_best cX11_best 1 (some .int) 0 := ⟨w_4_211, w_4_212, w_4_213, w_1_1, w_4_214, ⟨TX11, 19, rfl⟩, neM_11, neV_11, rfl⟩
theorem ml_L_132 : xML RXL 132 11 yX12_best cX12_best 5 (some .int) 0 := ⟨w_8_100, w_8_101, w_8_102, w_1_17, w_8_103, ⟨TX12, 58, rfl⟩, neM_12, neV_12, rfl⟩
theorem ml_L_133 : xML RXL 133 10 yX11_bestAt cX11_bestAt 2 (some .int) 1 := ⟨w_4_231, w_4_232, w_4_233, w_1_1, w_4_234, ⟨TX11, 19, rfl⟩, neM_11, neV_11, rfl⟩
theorem ml_L_136 : xML RXL 136 11 yX12_bestAt cX12_bestAt 2 (some .int) 1 := ⟨w_8_113, w_8_114, w_8_115, w_1_17, w_8_116, ⟨TX12, 58, rfl⟩, neM_12, neV_12, rfl⟩
theorem ml_L_137 : xML RXL 137 10 yX11_code cX11_code 4 (some .int) 1 := ⟨w_4_235, w_4_236, w_4_237, w_1_1, w_4_238, ⟨TX11, 19, rfl⟩, neM_11, neV_11, rfl⟩
theorem ml_L_140 : xML RXL 140 11 yX12_code cX12_code 3 (some .int) 1 := ⟨w_8_117, w_8_118, w_8_119, w_1_17, w_8_120, ⟨TX12, 58, rfl⟩, neM_12, neV_12, rfl⟩
theorem ml_L_141 : xML RXL 141 10 yX11_codeAt cX11_codeAt 2 (some .int) 1 := ⟨w_5_5, w_5_6, w_5_7, w_1_1, w_5_8, ⟨TX11, 19, rfl⟩, neM_11, neV_11, rfl⟩
theorem ml_L_144 : xML RXL 144 11 yX12_codeAt cX12_codeAt 2 (some .int) 1 := ⟨w_8_125, w_8_126, w_8_127, w_1_17, w_8_128, ⟨TX12, 58, rfl⟩, neM_12, neV_12, rfl⟩
theorem ml_L_145 : xML RXL 145 10 yX11_duel cX11_duel 10 (some .int) 3 := ⟨w_5_9, w_5_10, w_5_11, w_1_1, w_5_12, ⟨TX11, 19, rfl⟩, neM_11, neV_11, rfl⟩
theorem ml_L_148 : xML RXL 148 11 yX12_duel cX12_duel 7 (some .int) 3 := ⟨w_8_129, w_8_130, w_8_131, w_1_17, w_8_132, ⟨TX12, 58, rfl⟩, neM_12, neV_12, rfl⟩
theorem ml_L_149 : xML RXL 149 10 yX11_duelAt cX11_duelAt 1 (some .int) 0 := ⟨w_5_17, w_5_18, w_5_19, w_1_1, w_5_20, ⟨TX11, 19, rfl⟩, neM_11, neV_11, rfl⟩
theorem ml_L_152 : xML RXL 152 11 yX12_duelAt cX12_duelAt 1 (some .int) 0 := ⟨w_8_141, w_8_142, w_8_143, w_1_17, w_8_144, ⟨TX12, 58, rfl⟩, neM_12, neV_12, rfl⟩
theorem ml_L_153 : xML RXL 153 10 yX11_worth cX11_worth 10 (some .int) 2 := ⟨w_4_154, w_4_155, w_4_156, w_1_1, w_4_157, ⟨TX11, 19, rfl⟩, neM_11, neV_11, rfl⟩
theorem ml_L_156 : xML RXL 156 11 yX12_worth cX12_worth 6 (some .int) 2 := ⟨w_8_145, w_8_146, w_8_147, w_1_17, w_8_148, ⟨TX12, 58, rfl⟩, neM_12, neV_12, rfl⟩
theorem ml_L_157 : xML RXL 157 10 yX11_note cX11_note 6 (some .int) 1 := ⟨w_5_25, w_5_26, w_5_27, w_1_1, w_5_28, ⟨TX11, 19, rfl⟩, neM_11, neV_11, rfl⟩
theorem ml_L_160 : xML RXL 160 11 yX12_note cX12_note 4 (some .int) 1 := ⟨w_8_149, w_8_150, w_8_151, w_1_17, w_8_152, ⟨TX12, 58, rfl⟩, neM_12, neV_12, rfl⟩
theorem ml_L_161 : xML RXL 161 10 yX11_byteAt cX11_byteAt 2 (some .int) 1 := ⟨w_5_45, w_5_46, w_5_47, w_1_1, w_5_48, ⟨TX11, 19, rfl⟩, neM_11, neV_11, rfl⟩
theorem ml_L_164 : xML RXL 164 11 yX12_byteAt cX12_byteAt 2 (some .int) 1 := ⟨w_8_169, w_8_170, w_8_171, w_1_17, w_8_172, ⟨TX12, 58, rfl⟩, neM_12, neV_12, rfl⟩
theorem ml_L_165 : xML RXL 165 10 yX11_drawn cX11_drawn 4 (some .int) 2 := ⟨w_4_107, w_4_108, w_4_109, w_1_1, w_4_110, ⟨TX11, 19, rfl⟩, neM_11, neV_11, rfl⟩
theorem ml_L_168 : xML RXL 168 11 yX12_drawn cX12_drawn 3 (some .int) 2 := ⟨w_8_173, w_8_174, w_8_175, w_1_17, w_8_176, ⟨TX12, 58, rfl⟩, neM_12, neV_12, rfl⟩
theorem ml_L_169 : xML RXL 169 10 yX11_odds cX11_odds 7 (some .int) 3 := ⟨w_5_21, w_5_22, w_5_23, w_1_1, w_5_24, ⟨TX11, 19, rfl⟩, neM_11, neV_11, rfl⟩
theorem ml_L_172 : xML RXL 172 11 yX12_odds cX12_odds 7 (some .int) 3 := ⟨w_8_186, w_8_187, w_8_188, w_1_17, w_8_189, ⟨TX12, 58, rfl⟩, neM_12, neV_12, rfl⟩
theorem ml_L_173 : xML RXL 173 10 yX11_book cX11_book 2 (some .int) 1 := ⟨w_5_49, w_5_50, w_5_51, w_1_1, w_5_52, ⟨TX11, 19, rfl⟩, neM_11, neV_11, rfl⟩
theorem ml_L_176 : xML RXL 176 11 yX12_book cX12_book 4 (some .int) 1 := ⟨w_8_190, w_8_191, w_8_192, w_1_17, w_8_193, ⟨TX12, 58, rfl⟩, neM_12, neV_12, rfl⟩
theorem ml_L_177 : xML RXL 177 10 yX11_told cX11_told 2 (some .int) 1 := ⟨w_5_79, w_5_80, w_5_81, w_1_1, w_5_82, ⟨TX11, 19, rfl⟩, neM_11, neV_11, rfl⟩
theorem ml_L_180 : xML RXL 180 11 yX12_told cX12_told 2 (some .int) 1 := ⟨w_8_202, w_8_203, w_8_204, w_1_17, w_8_205, ⟨TX12, 58, rfl⟩, neM_12, neV_12, rfl⟩
theorem ml_L_181 : xML RXL 181 10 yX11_sentence cX11_sentence 1 (some .int) 0 := ⟨w_5_83, w_5_84, w_5_85, w_1_1, w_5_86, ⟨TX11, 19, rfl⟩, neM_11, neV_11, rfl⟩
theorem ml_L_184 : xML RXL 184 11 yX12_sentence cX12_sentence 3 (some .int) 0 := ⟨w_8_206, w_8_207, w_8_208, w_1_17, w_8_209, ⟨TX12, 58, rfl⟩, neM_12, neV_12, rfl⟩
theorem ml_L_185 : xML RXL 185 10 yX11_said cX11_said 5 (some .int) 1 := ⟨w_5_123, w_5_124, w_5_125, w_1_1, w_5_126, ⟨TX11, 19, rfl⟩, neM_11, neV_11, rfl⟩
theorem ml_L_188 : xML RXL 188 11 yX12_said cX12_said 4 (some .int) 1 := ⟨w_8_234, w_8_235, w_8_236, w_1_17, w_8_237, ⟨TX12, 58, rfl⟩, neM_12, neV_12, rfl⟩
theorem ml_L_189 : xML RXL 189 10 yX11_image cX11_image 2 (some .boolean) 1 := ⟨w_5_143, w_5_144, w_5_145, w_1_1, w_5_146, ⟨TX11, 19, rfl⟩, neM_11, neV_11, rfl⟩
theorem ml_L_192 : xML RXL 192 11 yX12_image cX12_image 3 (some .boolean) 1 := ⟨w_9_6, w_9_7, w_9_8, w_1_17, w_9_9, ⟨TX12, 58, rfl⟩, neM_12, neV_12, rfl⟩
theorem ml_L_193 : xML RXL 193 10 yX11_restore cX11_restore 2 (some .boolean) 1 := ⟨w_5_153, w_5_154, w_5_155, w_1_1, w_5_156, ⟨TX11, 19, rfl⟩, neM_11, neV_11, rfl⟩
theorem ml_L_196 : xML RXL 196 11 yX12_restore cX12_restore 3 (some .boolean) 1 := ⟨w_9_10, w_9_11, w_9_12, w_1_17, w_9_13, ⟨TX12, 58, rfl⟩, neM_12, neV_12, rfl⟩
theorem ml_L_197 : xML RXL 197 10 yX11_count cX11_count 3 (some .int) 1 := ⟨w_4_23, w_4_24, w_4_25, w_1_1, w_4_26, ⟨TX11, 19, rfl⟩, neM_11, neV_11, rfl⟩
theorem ml_L_200 : xML RXL 200 11 yX12_count cX12_count 2 (some .int) 1 := ⟨w_9_14, w_9_15, w_9_16, w_1_17, w_9_17, ⟨TX12, 58, rfl⟩, neM_12, neV_12, rfl⟩
theorem bi_63 : (Int8.ofInt (63)).toInt32 = (63) := by decide
theorem ic_6 : Int32.ofInt (6) = (6) := by decide
def lS_feed (R : xMem → xMem → Prop) : Prop := ∀ (mC mM : xMem) (a1 a2 a3 a4 a5 : Int32), R mC mM → ∃ v mC' mM', O_feed mC a1 a2 a3 a4 a5 = some (v, mC') ∧ M_feed mM a1 a2 a3 a4 a5 = some (v, mM') ∧ R mC' mM'
def lS_end (R : xMem → xMem → Prop) : Prop := ∀ (mC mM : xMem) (a1 : Int32), R mC mM → ∃ v mC' mM', O_end mC a1 = some (v, mC') ∧ M_end mM a1 = some (v, mM') ∧ R mC' mM'
def lS_house (R : xMem → xMem → Prop) : Prop := ∀ (mC mM : xMem), R mC mM → ∃ v mC' mM', O_house mC = some (v, mC') ∧ M_house mM = some (v, mM') ∧ R mC' mM'
def lS_fault (R : xMem → xMem → Prop) : Prop := ∀ (mC mM : xMem), R mC mM → ∃ v mM', O_fault mC = some v ∧ M_fault mM = some (v, mM') ∧ R mC mM'
def lS_bed (R : xMem → xMem → Prop) : Prop := ∀ (mC mM : xMem) (a1 a2 : Int32), R mC mM → ∃ (o : Option Int32) (b : Int32) (mM' : xMem), O_bed mC a1 a2 = some o ∧ M_bed mM a1 a2 = some (b, mM') ∧ M_thrown mM' = some (lTr o) ∧ (∀ r, o = some r → r = b) ∧ R mC mM'
def lS_owl (R : xMem → xMem → Prop) : Prop := ∀ (mC mM : xMem) (a1 a2 : Int32), R mC mM → ∃ (o : Option Int32) (b : Int32) (mM' : xMem), O_owl mC a1 a2 = some o ∧ M_owl mM a1 a2 = some (b, mM') ∧ M_thrown mM' = some (lTr o) ∧ (∀ r, o = some r → r = b) ∧ R mC mM'
def lS_sound (R : xMem → xMem → Prop) : Prop := ∀ (mC mM : xMem) (a1 a2 : Int32), R mC mM → ∃ v mM', O_sound mC a1 a2 = some v ∧ M_sound mM a1 a2 = some (v, mM') ∧ R mC mM'
def lS_now (R : xMem → xMem → Prop) : Prop := ∀ (mC mM : xMem) (a1 : Int32), R mC mM → ∃ v mM', O_now mC a1 = some v ∧ M_now mM a1 = some (v, mM') ∧ R mC mM'
def lS_lend (R : xMem → xMem → Prop) : Prop := ∀ (mC mM : xMem) (a1 a2 : Int32), R mC mM → ∃ v mC' mM', O_lend mC a1 a2 = some (v, mC') ∧ M_lend mM a1 a2 = some (v, mM') ∧ R mC' mM'
def lS_hush (R : xMem → xMem → Prop) : Prop := ∀ (mC mM : xMem) (a1 : Int32), R mC mM → ∃ v mC' mM', O_hush mC a1 = some (v, mC') ∧ M_hush mM a1 = some (v, mM') ∧ R mC' mM'
def lS_let (R : xMem → xMem → Prop) : Prop := ∀ (mC mM : xMem) (a1 : Int32), R mC mM → ∃ v mC' mM', O_let mC a1 = some (v, mC') ∧ M_let mM a1 = some (v, mM') ∧ R mC' mM'
def lS_shout (R : xMem → xMem → Prop) : Prop := ∀ (mC mM : xMem) (a1 a2 a3 : Int32), R mC mM → ∃ v mC' mM', O_shout mC a1 a2 a3 = some (v, mC') ∧ M_shout mM a1 a2 a3 = some (v, mM') ∧ R mC' mM'
def lS_hours (R : xMem → xMem → Prop) : Prop := ∀ (mC mM : xMem) (a1 : Int32), R mC mM → ∃ v mC' mM', O_hours mC a1 = some (v, mC') ∧ M_hours mM a1 = some (v, mM') ∧ R mC' mM'
def lS_undo (R : xMem → xMem → Prop) : Prop := ∀ (mC mM : xMem), R mC mM → ∃ v mC' mM', O_undo mC = some (v, mC') ∧ M_undo mM = some (v, mM') ∧ R mC' mM'
def lS_hears (R : xMem → xMem → Prop) : Prop := ∀ (mC mM : xMem) (a1 : Int32), R mC mM → ∃ v mM', O_hears mC a1 = some v ∧ M_hears mM a1 = some (v, mM') ∧ R mC mM'
def lS_would (R : xMem → xMem → Prop) : Prop := ∀ (mC mM : xMem) (a1 a2 : Int32), R mC mM → ∃ v mM', O_would mC a1 a2 = some v ∧ M_would mM a1 a2 = some (v, mM') ∧ R mC mM'
def lS_when (R : xMem → xMem → Prop) : Prop := ∀ (mC mM : xMem) (a1 a2 : Int32), R mC mM → ∃ v mM', O_when mC a1 a2 = some v ∧ M_when mM a1 a2 = some (v, mM') ∧ R mC mM'
def lS_loud (R : xMem → xMem → Prop) : Prop := ∀ (mC mM : xMem) (a1 a2 : Int32), R mC mM → ∃ (o : Option Int32) (b : Int32) (mM' : xMem), O_loud mC a1 a2 = some o ∧ M_loud mM a1 a2 = some (b, mM') ∧ M_thrown mM' = some (lTr o) ∧ (∀ r, o = some r → r = b) ∧ R mC mM'
def lS_spots (R : xMem → xMem → Prop) : Prop := ∀ (mC mM : xMem), R mC mM → ∃ v mC' mM', O_spots mC = some (v, mC') ∧ M_spots mM = some (v, mM') ∧ R mC' mM'
def lS_spotAt (R : xMem → xMem → Prop) : Prop := ∀ (mC mM : xMem) (a1 : Int32), R mC mM → ∃ v mM', O_spotAt mC a1 = some v ∧ M_spotAt mM a1 = some (v, mM') ∧ R mC mM'
def lS_next (R : xMem → xMem → Prop) : Prop := ∀ (mC mM : xMem), R mC mM → ∃ v mM', O_next mC = some v ∧ M_next mM = some (v, mM') ∧ R mC mM'
def lS_keen (R : xMem → xMem → Prop) : Prop := ∀ (mC mM : xMem), R mC mM → ∃ v mC' mM', O_keen mC = some (v, mC') ∧ M_keen mM = some (v, mM') ∧ R mC' mM'
def lS_keenLeast (R : xMem → xMem → Prop) : Prop := ∀ (mC mM : xMem), R mC mM → ∃ v mM', O_keenLeast mC = some v ∧ M_keenLeast mM = some (v, mM') ∧ R mC mM'
def lS_keenMost (R : xMem → xMem → Prop) : Prop := ∀ (mC mM : xMem), R mC mM → ∃ v mM', O_keenMost mC = some v ∧ M_keenMost mM = some (v, mM') ∧ R mC mM'
def lS_best (R : xMem → xMem → Prop) : Prop := ∀ (mC mM : xMem), R mC mM → ∃ v mC' mM', O_best mC = some (v, mC') ∧ M_best mM = some (v, mM') ∧ R mC' mM'
def lS_bestAt (R : xMem → xMem → Prop) : Prop := ∀ (mC mM : xMem) (a1 : Int32), R mC mM → ∃ v mM', O_bestAt mC a1 = some v ∧ M_bestAt mM a1 = some (v, mM') ∧ R mC mM'
def lS_code (R : xMem → xMem → Prop) : Prop := ∀ (mC mM : xMem) (a1 : Int32), R mC mM → ∃ v mC' mM', O_code mC a1 = some (v, mC') ∧ M_code mM a1 = some (v, mM') ∧ R mC' mM'
def lS_codeAt (R : xMem → xMem → Prop) : Prop := ∀ (mC mM : xMem) (a1 : Int32), R mC mM → ∃ v mM', O_codeAt mC a1 = some v ∧ M_codeAt mM a1 = some (v, mM') ∧ R mC mM'
def lS_duel (R : xMem → xMem → Prop) : Prop := ∀ (mC mM : xMem) (a1 a2 a3 : Int32), R mC mM → ∃ v mC' mM', O_duel mC a1 a2 a3 = some (v, mC') ∧ M_duel mM a1 a2 a3 = some (v, mM') ∧ R mC' mM'
def lS_duelAt (R : xMem → xMem → Prop) : Prop := ∀ (mC mM : xMem), R mC mM → ∃ v mM', O_duelAt mC = some v ∧ M_duelAt mM = some (v, mM') ∧ R mC mM'
def lS_worth (R : xMem → xMem → Prop) : Prop := ∀ (mC mM : xMem) (a1 a2 : Int32), R mC mM → ∃ v mM', O_worth mC a1 a2 = some v ∧ M_worth mM a1 a2 = some (v, mM') ∧ R mC mM'
def lS_note (R : xMem → xMem → Prop) : Prop := ∀ (mC mM : xMem) (a1 : Int32), R mC mM → ∃ v mC' mM', O_note mC a1 = some (v, mC') ∧ M_note mM a1 = some (v, mM') ∧ R mC' mM'
def lS_byteAt (R : xMem → xMem → Prop) : Prop := ∀ (mC mM : xMem) (a1 : Int32), R mC mM → ∃ v mM', O_byteAt mC a1 = some v ∧ M_byteAt mM a1 = some (v, mM') ∧ R mC mM'
def lS_drawn (R : xMem → xMem → Prop) : Prop := ∀ (mC mM : xMem) (a1 a2 : Int32), R mC mM → ∃ v mC' mM', O_drawn mC a1 a2 = some (v, mC') ∧ M_drawn mM a1 a2 = some (v, mM') ∧ R mC' mM'
def lS_odds (R : xMem → xMem → Prop) : Prop := ∀ (mC mM : xMem) (a1 a2 a3 : Int32), R mC mM → ∃ v mC' mM', O_odds mC a1 a2 a3 = some (v, mC') ∧ M_odds mM a1 a2 a3 = some (v, mM') ∧ R mC' mM'
def lS_book (R : xMem → xMem → Prop) : Prop := ∀ (mC mM : xMem) (a1 : Int32), R mC mM → ∃ v mC' mM', O_book mC a1 = some (v, mC') ∧ M_book mM a1 = some (v, mM') ∧ R mC' mM'
def lS_told (R : xMem → xMem → Prop) : Prop := ∀ (mC mM : xMem) (a1 : Int32), R mC mM → ∃ v mM', O_told mC a1 = some v ∧ M_told mM a1 = some (v, mM') ∧ R mC mM'
def lS_sentence (R : xMem → xMem → Prop) : Prop := ∀ (mC mM : xMem), R mC mM → ∃ v mC' mM', O_sentence mC = some (v, mC') ∧ M_sentence mM = some (v, mM') ∧ R mC' mM'
def lS_said (R : xMem → xMem → Prop) : Prop := ∀ (mC mM : xMem) (a1 : Int32), R mC mM → ∃ v mC' mM', O_said mC a1 = some (v, mC') ∧ M_said mM a1 = some (v, mM') ∧ R mC' mM'
def lS_image (R : xMem → xMem → Prop) : Prop := ∀ (mC mM : xMem) (a1 : Int32), R mC mM → ∃ v mC' mM', O_image mC a1 = some (v, mC') ∧ M_image mM a1 = some (v, mM') ∧ R mC' mM'
def lS_restore (R : xMem → xMem → Prop) : Prop := ∀ (mC mM : xMem) (a1 : Int32), R mC mM → ∃ v mC' mM', O_restore mC a1 = some (v, mC') ∧ M_restore mM a1 = some (v, mM') ∧ R mC' mM'
def lS_count (R : xMem → xMem → Prop) : Prop := ∀ (mC mM : xMem) (a1 : Int32), R mC mM → ∃ v mM', O_count mC a1 = some v ∧ M_count mM a1 = some (v, mM') ∧ R mC mM'
/-- each call keeps the relation and answers alike -/
def lSim (R : xMem → xMem → Prop) : Prop := lS_feed R ∧ lS_end R ∧ lS_house R ∧ lS_fault R ∧ lS_bed R ∧ lS_owl R ∧ lS_sound R ∧ lS_now R ∧ lS_lend R ∧ lS_hush R ∧ lS_let R ∧ lS_shout R ∧ lS_hours R ∧ lS_undo R ∧ lS_hears R ∧ lS_would R ∧ lS_when R ∧ lS_loud R ∧ lS_spots R ∧ lS_spotAt R ∧ lS_next R ∧ lS_keen R ∧ lS_keenLeast R ∧ lS_keenMost R ∧ lS_best R ∧ lS_bestAt R ∧ lS_code R ∧ lS_codeAt R ∧ lS_duel R ∧ lS_duelAt R ∧ lS_worth R ∧ lS_note R ∧ lS_byteAt R ∧ lS_drawn R ∧ lS_odds R ∧ lS_book R ∧ lS_told R ∧ lS_sentence R ∧ lS_said R ∧ lS_image R ∧ lS_restore R ∧ lS_count R
/-! the law over a script: rows of the script, of known branches, of the end -/
section LW
def lA0 (sz b L : Nat) (xs : Nat → Int32) : (Nat → Prop) × (State → Prop) := (fun q => sz ≤ q, fun s => va_X b L xs s s.heap ∧ b < s.heap.size ∧ s.heap.size = sz)
abbrev lLv (GC GM : xG) (out b n : Nat) : List (Nat × Value) := [(4, .int (Int32.ofNat (6 * n))), (3, .ref out), (2, .ref (xad GM 0)), (1, .ref (xad GC 0)), (0, .ref b)]
theorem l_ix {n k : Nat} {w : Int32} (hw : w.toInt = (k : Int)) (h : 6 * n + k < 3072) (hk : k < 6) : (Int32.ofNat (6 * n) + w).toInt = ((6 * n + k : Nat) : Int) := by
  rw [Int32.toInt_add, Int32.toInt_ofNat_of_lt (by omega), hw, Int.bmod_eq_of_le (by omega) (by omega)]
  omega
theorem l_in {i : Int32} {j L : Nat} (hi : i.toInt = (j : Int)) (hj : j < L) : vp_in i L ∧ i.toNatClampNeg = j := by
  have h2 : i.toNatClampNeg = j := by show i.toInt.toNat = j; omega
  refine ⟨fun h => ?_, h2⟩
  rcases h with h | h
  · rw [Int32.lt_iff_toInt_lt, hi] at h
    have : (0 : Int32).toInt = 0 := by decide
    omega
  · omega
theorem l_nx (n : Nat) : Int32.ofNat (6 * n) + 6 = Int32.ofNat (6 * (n + 1)) := by
  rw [show 6 * (n + 1) = 6 * n + 6 by omega, Int32.ofNat_add]
  rfl
theorem l_end {n L : Nat} (hL : L ≤ 3072) (hn : 6 * n ≤ L) : (Int32.ofNat L - 6 < Int32.ofNat (6 * n)) ↔ L < 6 * n + 6 := by
  rw [Int32.lt_iff_toInt_lt, Int32.toInt_sub, Int32.toInt_ofNat_of_lt (by omega), Int32.toInt_ofNat_of_lt (by omega), show (6 : Int32).toInt = 6 by decide, Int.bmod_eq_of_le (by omega) (by omega)]
  omega
theorem Xg_pos {E : xE} {ρ : Type} {fin : ρ → State → Prop} {pc : Nat} {lv : List (Nat × Value)} {st : List Value} {wd : va_W} {res : Option ρ} (c : Prop) [Decidable c] (h : c) (k : Xg E fin pc lv st wd (if c then res else none)) : Xg E fin pc lv st wd res := by
  rw [if_pos h] at k
  exact k
theorem Xg_neg {E : xE} {ρ : Type} {fin : ρ → State → Prop} {pc : Nat} {lv : List (Nat × Value)} {st : List Value} {wd : va_W} {res : Option ρ} (c : Prop) [Decidable c] (h : ¬ c) (k : Xg E fin pc lv st wd (if c then none else res)) : Xg E fin pc lv st wd res := by
  rw [if_neg h] at k
  exact k
variable {E : xE} {l0 : Launch} {S0 : xS} {GC GM : xG} {out : Nat} {mC mM mC' mM' : xMem} {f : Nat → Int64} {own : String} {cc : ByteArray} {yy : MethodName} {n : Nat} {ret : Option FieldType} {R0 : Room} {ρ : Type} {fin : ρ → State → Prop} {pc : Nat} {lv : List (Nat × Value)} {st : List Value} {wd : va_W} {res : Option ρ} {ce0 sl0 mc ms : Nat} {sz b L i : Nat} {xs : Nat → Int32} {A0 : (Nat → Prop) × (State → Prop)}
theorem l_slen (g : xGood E l0 S0 own cc yy n ret R0) (cn : xCntL E ce0 sl0 (lA0 sz b L xs)) (d : decode cc pc = .ok (.arraylength, 1)) (k : Xg E fin (pc + 1) lv (.int (Int32.ofNat L) :: st) wd res) : Xg E fin pc lv (.ref b :: st) wd res := by
  obtain ⟨p, l, e, R, s, mm, args, below, meth, c, nL, ce, sl, A, S⟩ := E
  intro z hz H locs ls hl hP hD hS
  obtain ⟨rfl, rfl, hO, hA, hX, hb, hsz⟩ := cn
  exact va_slen g.1 g.2.1 hX hb (A := A) (by rw [hA]; show ¬ sz ≤ b; omega) hS d (k z hz H locs ls hl hP hD hS)
theorem l_sld (g : xGood E l0 S0 own cc yy n ret R0) (cn : xCntL E ce0 sl0 (lA0 sz b L xs)) {w : Int32} {j : Nat} (d : decode cc pc = .ok (.iaload, 1)) (hi : w.toInt = (j : Int)) (hj : j < L) (k : Xg E fin (pc + 1) lv (.int (xs j) :: st) wd res) : Xg E fin pc lv (.int w :: .ref b :: st) wd res := by
  obtain ⟨p, l, e, R, s, mm, args, below, meth, c, nL, ce, sl, A, S⟩ := E
  intro z hz H locs ls hl hP hD hS
  obtain ⟨rfl, rfl, hO, hA, hX, hb, hsz⟩ := cn
  obtain ⟨h1, h2⟩ := l_in hi hj
  have k2 := k z hz H locs ls hl hP hD hS
  rw [← h2] at k2
  exact va_sld g.1 g.2.1 hX hb (A := A) (by rw [hA]; show ¬ sz ≤ b; omega) hS h1 d k2
/-- script[i + k] -/
theorem l_pick (g : xGood E l0 S0 own cc yy n ret R0) (cn : xCntL E ce0 sl0 (lA0 sz b L xs)) {k a0 a4 : Nat} {q : Int} {w : Int32} (h0 : lv[a0]? = some (0, .ref b)) (h4 : lv[a4]? = some (4, .int (Int32.ofNat (6 * i)))) (hq : Int32.ofInt q = w) (hw : w.toInt = (k : Int)) (hk : k < 6) (hL : L ≤ 3072) (hi : 6 * i + 6 ≤ L) (d0 : decode cc pc = .ok (.aload_n 0, 1)) (d1 : decode cc (pc + 1) = .ok (.iload 4, 2)) (d3 : decode cc (pc + 3) = .ok (.iconst q, 1)) (d4 : decode cc (pc + 4) = .ok (.iadd, 1)) (d5 : decode cc (pc + 5) = .ok (.iaload, 1)) (kk : Xg E fin (pc + 6) lv (.int (xs (6 * i + k)) :: st) wd res) : Xg E fin pc lv st wd res := by
  refine x_aload_n (i := 0) (a := a0) g d0 rfl h0 ?_
  refine x_iload (a := a4) g d1 h4 ?_
  refine x_iconst g d3 hq ?_
  refine x_iadd g d4 ?_
  exact l_sld g cn d5 (l_ix hw (by omega) hk) (by omega) kk
theorem l_pick0 (g : xGood E l0 S0 own cc yy n ret R0) (cn : xCntL E ce0 sl0 (lA0 sz b L xs)) {a0 a4 : Nat} (h0 : lv[a0]? = some (0, .ref b)) (h4 : lv[a4]? = some (4, .int (Int32.ofNat (6 * i)))) (hL : L ≤ 3072) (hi : 6 * i + 6 ≤ L) (d0 : decode cc pc = .ok (.aload_n 0, 1)) (d1 : decode cc (pc + 1) = .ok (.iload 4, 2)) (d5 : decode cc (pc + 3) = .ok (.iaload, 1)) (kk : Xg E fin (pc + 4) lv (.int (xs (6 * i)) :: st) wd res) : Xg E fin pc lv st wd res := by
  refine x_aload_n (i := 0) (a := a0) g d0 rfl h0 ?_
  refine x_iload (a := a4) g d1 h4 ?_
  exact l_sld g cn d5 (Int32.toInt_ofNat_of_lt (by omega)) (by omega) kk
/-- out[0] -/
theorem l_lald0 (g : xGood E l0 GC.1 own cc yy n ret R0) (d : decode cc pc = .ok (.laload, 1)) (kk : Xg E fin (pc + 1) lv (.long (f 0) :: st) (lwd GC GM out mC mM f) res) : Xg E fin pc lv (.int 0 :: .ref out :: st) (lwd GC GM out mC mM f) res := by
  obtain ⟨p, l, e, R, s, mm, args, below, meth, c, nL, ce, sl, A, S⟩ := E
  intro z hz H locs ls hl hP hD hS
  obtain ⟨hx, hb, hml, hnl, hown, hts, hNW, hr, hlk, hR, hK, hSS, hll, hAA, hce, hst⟩ := g
  subst hSS
  have hat : (lwd GC GM out mC mM f)[(xwd GC mC).length + ((xwd GM mM).length + 0)]? = some (out, .inl (xcA GC 1, 1, .inr (.inl f))) := lAt_right (lAt_right rfl)
  exact va_lald hx hb hK hP _ 1 hat rfl (i := 0) (by unfold vp_in; decide) d (kk z hz H locs ls hl hP hD hS)
theorem l_zret {v : Int32} (g : xGood E l0 S0 own cc yy n ret R0) (cn : xCntL E ce0 sl0 A0) (d : decode cc pc = .ok (.ireturn, 1)) (hret : ret = some .boolean) (hv : v = 0 ∨ v = 1) (h1 : ce0 ≤ mc) (h2 : sl0 ≤ ms) : Xg E (lFin E mc ms) pc lv [.int v] wd (some v) := by
  obtain ⟨p, l, e, R, s, mm, args, below, meth, c, nL, ce, sl, A, S⟩ := E
  intro z hz H locs ls hl hP hD hS
  obtain ⟨hx, hb, hml, hnl, hown, hts, hNW, hr, hlk, hR, hK, hSS, hll, hAA, hce, hst⟩ := g
  obtain ⟨rfl, rfl, hO, hA⟩ := cn
  cases hz
  subst hret
  intro T hT Y
  obtain ⟨t, a1, o, c1, c2, c3, LL, c6, c7⟩ := W.zret (Qc := fun _ st oc t => oc = .returned (some (.int v)) ∧ va_F A st t) (v := v) hx hb hr (by rcases hv with rfl | rfl <;> rfl) (fun t ht hW => ⟨rfl, hS.F ht⟩) hS.2.2 d hlk T hT Y
  exact ⟨t, a1, o, c1, c2, c3, LL, ⟨c6.1, c6.2.1, c6.2.2.mono h1 h2⟩, c7⟩
end LW
section LWC
variable {E : xE} {l0 : Launch} {GC GM : xG} {out : Nat} {mC mM mC' mM' : xMem} {f : Nat → Int64} {ce0 sl0 mc ms sz b L i : Nat} {xs : Nat → Int32} {res : Option Int32}
theorem l_cmp0 (x : Int64) : lg_cmp (vp_updL f 0 x 0) x = 0 := by
  have h : vp_updL f 0 x 0 = x := by simp [vp_updL]
  rw [h]
  simp [lg_cmp]
theorem lw_feed (g : xGood E l0 GC.1 RXL cL_law yL_law 7 (some .boolean) room_1) (cn : xCntL E ce0 sl0 (lA0 sz b L xs)) (hW : WC GC) (hM : WM GM) (hgm : GC.1 = GM.1) (hL : L ≤ 3072) (hi : 6 * i + 6 ≤ L) {v : Int32} (e1 : O_feed mC (xs (6 * i + 1)) (xs (6 * i + 2)) (xs (6 * i + 3)) (xs (6 * i + 4)) (xs (6 * i + 5)) = some (v, mC')) (e2 : M_feed mM (xs (6 * i + 1)) (xs (6 * i + 2)) (xs (6 * i + 3)) (xs (6 * i + 4)) (xs (6 * i + 5)) = some (v, mM')) (kk : Xg E (lFin E mc ms) 1463 (lLv GC GM out b i) [] (lwd GC GM out mC' mM' f) res) : Xg E (lFin E mc ms) 224 (lLv GC GM out b i) [] (lwd GC GM out mC mM f) res := by
  refine x_aload_n (pc := 224) (i := 1) (a := 3) g dL_law_224 rfl rfl ?_
  refine l_pick (pc := 225) (k := 1) (a0 := 4) (a4 := 0) g cn rfl rfl ic_1 (by decide) (by decide) hL hi dL_law_225 dL_law_226 dL_law_228 dL_law_229 dL_law_230 ?_
  refine l_pick (pc := 231) (k := 2) (a0 := 4) (a4 := 0) g cn rfl rfl ic_2 (by decide) (by decide) hL hi dL_law_231 dL_law_232 dL_law_234 dL_law_235 dL_law_236 ?_
  refine l_pick (pc := 237) (k := 3) (a0 := 4) (a4 := 0) g cn rfl rfl ic_3 (by decide) (by decide) hL hi dL_law_237 dL_law_238 dL_law_240 dL_law_241 dL_law_242 ?_
  refine l_pick (pc := 243) (k := 4) (a0 := 4) (a4 := 0) g cn rfl rfl ic_4 (by decide) (by decide) hL hi dL_law_243 dL_law_244 dL_law_246 dL_law_247 dL_law_248 ?_
  refine l_pick (pc := 249) (k := 5) (a0 := 4) (a4 := 0) g cn rfl rfl ic_5 (by decide) (by decide) hL hi dL_law_249 dL_law_250 dL_law_252 dL_law_253 dL_law_254 ?_
  refine l_invC (pc := 255) (k := 0) (o := (some (.int v), mC')) (as := [.int (xs (6 * i + 1)), .int (xs (6 * i + 2)), .int (xs (6 * i + 3)), .int (xs (6 * i + 4)), .int (xs (6 * i + 5))]) (st := []) g hW (by have h := c_O_feed l0 GC hW mC (xs (6 * i + 1)) (xs (6 * i + 2)) (xs (6 * i + 3)) (xs (6 * i + 4)) (xs (6 * i + 5)); rw [e1] at h; exact h) dL_law_255 ml_L_25 (sOwlsLent isOwlsLent_0) rfl rfl (Nat.le_of_ble_eq_true rfl) ⟨rfl, rfl, Nat.le_of_ble_eq_true rfl, Nat.le_of_ble_eq_true rfl⟩ ?_
  refine x_aload_n (pc := 258) (i := 2) (a := 2) g dL_law_258 rfl rfl ?_
  refine l_pick (pc := 259) (k := 1) (a0 := 4) (a4 := 0) g cn rfl rfl ic_1 (by decide) (by decide) hL hi dL_law_259 dL_law_260 dL_law_262 dL_law_263 dL_law_264 ?_
  refine l_pick (pc := 265) (k := 2) (a0 := 4) (a4 := 0) g cn rfl rfl ic_2 (by decide) (by decide) hL hi dL_law_265 dL_law_266 dL_law_268 dL_law_269 dL_law_270 ?_
  refine l_pick (pc := 271) (k := 3) (a0 := 4) (a4 := 0) g cn rfl rfl ic_3 (by decide) (by decide) hL hi dL_law_271 dL_law_272 dL_law_274 dL_law_275 dL_law_276 ?_
  refine l_pick (pc := 277) (k := 4) (a0 := 4) (a4 := 0) g cn rfl rfl ic_4 (by decide) (by decide) hL hi dL_law_277 dL_law_278 dL_law_280 dL_law_281 dL_law_282 ?_
  refine l_pick (pc := 283) (k := 5) (a0 := 4) (a4 := 0) g cn rfl rfl ic_5 (by decide) (by decide) hL hi dL_law_283 dL_law_284 dL_law_286 dL_law_287 dL_law_288 ?_
  refine l_invM (pc := 289) (k := 0) (o := (some (.int v), mM')) (as := [.int (xs (6 * i + 1)), .int (xs (6 * i + 2)), .int (xs (6 * i + 3)), .int (xs (6 * i + 4)), .int (xs (6 * i + 5))]) (st := [.int v]) (hgm ▸ g) hM (by have h := c_M_feed l0 GM hM mM (xs (6 * i + 1)) (xs (6 * i + 2)) (xs (6 * i + 3)) (xs (6 * i + 4)) (xs (6 * i + 5)); rw [e2] at h; exact h) dL_law_289 ml_L_29 sm_0 rfl rfl (Nat.le_of_ble_eq_true rfl) ⟨rfl, rfl, Nat.le_of_ble_eq_true rfl, Nat.le_of_ble_eq_true rfl⟩ ?_
  refine Xg_pos (v = v) rfl ?_
  exact x_icmp_eq (pc := 292) (t := 1463) g dL_law_292 (by decide) kk x_none
theorem lw_end (g : xGood E l0 GC.1 RXL cL_law yL_law 7 (some .boolean) room_1) (cn : xCntL E ce0 sl0 (lA0 sz b L xs)) (hW : WC GC) (hM : WM GM) (hgm : GC.1 = GM.1) (hL : L ≤ 3072) (hi : 6 * i + 6 ≤ L) {v : Int32} (e1 : O_end mC (xs (6 * i + 1)) = some (v, mC')) (e2 : M_end mM (xs (6 * i + 1)) = some (v, mM')) (kk : Xg E (lFin E mc ms) 1463 (lLv GC GM out b i) [] (lwd GC GM out mC' mM' f) res) : Xg E (lFin E mc ms) 297 (lLv GC GM out b i) [] (lwd GC GM out mC mM f) res := by
  refine x_aload_n (pc := 297) (i := 1) (a := 3) g dL_law_297 rfl rfl ?_
  refine l_pick (pc := 298) (k := 1) (a0 := 4) (a4 := 0) g cn rfl rfl ic_1 (by decide) (by decide) hL hi dL_law_298 dL_law_299 dL_law_301 dL_law_302 dL_law_303 ?_
  refine l_invC (pc := 304) (k := 0) (o := (some (.int v), mC')) (as := [.int (xs (6 * i + 1))]) (st := []) g hW (by have h := c_O_end l0 GC hW mC (xs (6 * i + 1)); rw [e1] at h; exact h) dL_law_304 ml_L_30 (sOwlsLent isOwlsLent_0) rfl rfl (Nat.le_of_ble_eq_true rfl) ⟨rfl, rfl, Nat.le_of_ble_eq_true rfl, Nat.le_of_ble_eq_true rfl⟩ ?_
  refine x_aload_n (pc := 307) (i := 2) (a := 2) g dL_law_307 rfl rfl ?_
  refine l_pick (pc := 308) (k := 1) (a0 := 4) (a4 := 0) g cn rfl rfl ic_1 (by decide) (by decide) hL hi dL_law_308 dL_law_309 dL_law_311 dL_law_312 dL_law_313 ?_
  refine l_invM (pc := 314) (k := 0) (o := (some (.int v), mM')) (as := [.int (xs (6 * i + 1))]) (st := [.int v]) (hgm ▸ g) hM (by have h := c_M_end l0 GM hM mM (xs (6 * i + 1)); rw [e2] at h; exact h) dL_law_314 ml_L_34 sm_0 rfl rfl (Nat.le_of_ble_eq_true rfl) ⟨rfl, rfl, Nat.le_of_ble_eq_true rfl, Nat.le_of_ble_eq_true rfl⟩ ?_
  refine Xg_pos (v = v) rfl ?_
  exact x_icmp_eq (pc := 317) (t := 1463) g dL_law_317 (by decide) kk x_none
theorem lw_house (g : xGood E l0 GC.1 RXL cL_law yL_law 7 (some .boolean) room_1) (cn : xCntL E ce0 sl0 (lA0 sz b L xs)) (hW : WC GC) (hM : WM GM) (hgm : GC.1 = GM.1) (hL : L ≤ 3072) (hi : 6 * i + 6 ≤ L) {v : Int32} (e1 : O_house mC = some (v, mC')) (e2 : M_house mM = some (v, mM')) (kk : Xg E (lFin E mc ms) 1463 (lLv GC GM out b i) [] (lwd GC GM out mC' mM' f) res) : Xg E (lFin E mc ms) 322 (lLv GC GM out b i) [] (lwd GC GM out mC mM f) res := by
  refine x_aload_n (pc := 322) (i := 1) (a := 3) g dL_law_322 rfl rfl ?_
  refine l_invC (pc := 323) (k := 0) (o := (some (.int v), mC')) (as := []) (st := []) g hW (by have h := c_O_house l0 GC hW mC; rw [e1] at h; exact h) dL_law_323 ml_L_35 (sOwlsLent isOwlsLent_0) rfl rfl (Nat.le_of_ble_eq_true rfl) ⟨rfl, rfl, Nat.le_of_ble_eq_true rfl, Nat.le_of_ble_eq_true rfl⟩ ?_
  refine x_aload_n (pc := 326) (i := 2) (a := 2) g dL_law_326 rfl rfl ?_
  refine l_invM (pc := 327) (k := 0) (o := (some (.int v), mM')) (as := []) (st := [.int v]) (hgm ▸ g) hM (by have h := c_M_house l0 GM hM mM; rw [e2] at h; exact h) dL_law_327 ml_L_39 sm_0 rfl rfl (Nat.le_of_ble_eq_true rfl) ⟨rfl, rfl, Nat.le_of_ble_eq_true rfl, Nat.le_of_ble_eq_true rfl⟩ ?_
  refine Xg_pos (v = v) rfl ?_
  exact x_icmp_eq (pc := 330) (t := 1463) g dL_law_330 (by decide) kk x_none
theorem lw_fault (g : xGood E l0 GC.1 RXL cL_law yL_law 7 (some .boolean) room_1) (cn : xCntL E ce0 sl0 (lA0 sz b L xs)) (hW : WC GC) (hM : WM GM) (hgm : GC.1 = GM.1) (hL : L ≤ 3072) (hi : 6 * i + 6 ≤ L) {v : Int32} (e1 : O_fault mC = some v) (e2 : M_fault mM = some (v, mM')) (kk : Xg E (lFin E mc ms) 1463 (lLv GC GM out b i) [] (lwd GC GM out mC mM' f) res) : Xg E (lFin E mc ms) 335 (lLv GC GM out b i) [] (lwd GC GM out mC mM f) res := by
  refine x_aload_n (pc := 335) (i := 1) (a := 3) g dL_law_335 rfl rfl ?_
  refine l_invC (pc := 336) (k := 0) (o := (some (.int v), mC)) (as := []) (st := []) g hW (by have h := c_O_fault l0 GC hW mC; rw [e1] at h; exact h) dL_law_336 ml_L_40 (sOwlsLent isOwlsLent_0) rfl rfl (Nat.le_of_ble_eq_true rfl) ⟨rfl, rfl, Nat.le_of_ble_eq_true rfl, Nat.le_of_ble_eq_true rfl⟩ ?_
  refine x_aload_n (pc := 339) (i := 2) (a := 2) g dL_law_339 rfl rfl ?_
  refine l_invM (pc := 340) (k := 0) (o := (some (.int v), mM')) (as := []) (st := [.int v]) (hgm ▸ g) hM (by have h := c_M_fault l0 GM hM mM; rw [e2] at h; exact h) dL_law_340 ml_L_43 sm_0 rfl rfl (Nat.le_of_ble_eq_true rfl) ⟨rfl, rfl, Nat.le_of_ble_eq_true rfl, Nat.le_of_ble_eq_true rfl⟩ ?_
  refine Xg_pos (v = v) rfl ?_
  exact x_icmp_eq (pc := 343) (t := 1463) g dL_law_343 (by decide) kk x_none
theorem lw_bed (g : xGood E l0 GC.1 RXL cL_law yL_law 7 (some .boolean) room_1) (cn : xCntL E ce0 sl0 (lA0 sz b L xs)) (hW : WC GC) (hM : WM GM) (hgm : GC.1 = GM.1) (hL : L ≤ 3072) (hi : 6 * i + 6 ≤ L) {o : Option Int32} {v : Int32} (hl9 : l0.stackTraces = false) (e1 : O_bed mC (xs (6 * i + 1)) (xs (6 * i + 2)) = some o) (e2 : M_bed mM (xs (6 * i + 1)) (xs (6 * i + 2)) = some (v, mM')) (e3 : M_thrown mM' = some (lTr o)) (e4 : ∀ r, o = some r → r = v) (hce : ce0 + 1 ≤ 601024) (hsl : sl0 + 6 ≤ 7293034) (kk : ∀ E' : xE, xGood E' l0 GC.1 RXL cL_law yL_law 7 (some .boolean) room_1 → xCntL E' (ce0 + 1) (sl0 + 6) (lA0 sz b L xs) → Xg E' (lFin E' mc ms) 1463 (lLv GC GM out b i) [] (lwd GC GM out mC mM' (lTf f o)) res) : Xg E (lFin E mc ms) 348 (lLv GC GM out b i) [] (lwd GC GM out mC mM f) res := by
  refine x_aload_n (pc := 348) (i := 1) (a := 3) g dL_law_348 rfl rfl ?_
  refine l_pick (pc := 349) (k := 1) (a0 := 4) (a4 := 0) g cn rfl rfl ic_1 (by decide) (by decide) hL hi dL_law_349 dL_law_350 dL_law_352 dL_law_353 dL_law_354 ?_
  refine l_pick (pc := 355) (k := 2) (a0 := 4) (a4 := 0) g cn rfl rfl ic_2 (by decide) (by decide) hL hi dL_law_355 dL_law_356 dL_law_358 dL_law_359 dL_law_360 ?_
  refine x_aload_n (pc := 361) (i := 3) (a := 1) g dL_law_361 rfl rfl ?_
  refine l_callT (pc := 362) (st := []) g cn (by have h := c_L_bed l0 hl9 GC hW mC (xs (6 * i + 1)) (xs (6 * i + 2)); rw [e1] at h; exact h) dL_law_362 msw_bed (Nat.le_of_ble_eq_true rfl) ⟨Nat.le_of_ble_eq_true rfl, Nat.le_of_ble_eq_true rfl, hce, hsl⟩ (fun E g cn => ?_)
  refine x_istore (pc := 365) (lv' := (5, .int (lTr o)) :: lLv GC GM out b i) g dL_law_365 (by decide) rfl ?_
  refine x_aload_n (pc := 367) (i := 2) (a := 3) g dL_law_367 rfl rfl ?_
  refine l_pick (pc := 368) (k := 1) (a0 := 5) (a4 := 1) g cn rfl rfl ic_1 (by decide) (by decide) hL hi dL_law_368 dL_law_369 dL_law_371 dL_law_372 dL_law_373 ?_
  refine l_pick (pc := 374) (k := 2) (a0 := 5) (a4 := 1) g cn rfl rfl ic_2 (by decide) (by decide) hL hi dL_law_374 dL_law_375 dL_law_377 dL_law_378 dL_law_379 ?_
  refine l_invM (pc := 380) (k := 0) (o := (some (.int v), mM')) (as := [.int (xs (6 * i + 1)), .int (xs (6 * i + 2))]) (st := []) (hgm ▸ g) hM (by have h := c_M_bed l0 GM hM mM (xs (6 * i + 1)) (xs (6 * i + 2)); rw [e2] at h; exact h) dL_law_380 ml_L_49 sm_0 rfl rfl (Nat.le_of_ble_eq_true rfl) ⟨rfl, rfl, Nat.le_of_ble_eq_true rfl, Nat.le_of_ble_eq_true rfl⟩ ?_
  refine x_istore (pc := 383) (lv' := (6, .int v) :: (5, .int (lTr o)) :: lLv GC GM out b i) g dL_law_383 (by decide) rfl ?_
  refine x_aload_n (pc := 385) (i := 2) (a := 4) g dL_law_385 rfl rfl ?_
  refine l_invM (pc := 386) (k := 0) (o := (some (.int (lTr o)), mM')) (as := []) (st := []) (hgm ▸ g) hM (by have h := c_M_thrown l0 GM hM mM'; rw [e3] at h; exact h) dL_law_386 ml_L_50 sm_0 rfl rfl (Nat.le_of_ble_eq_true rfl) ⟨rfl, rfl, Nat.le_of_ble_eq_true rfl, Nat.le_of_ble_eq_true rfl⟩ ?_
  refine x_iload (pc := 389) (a := 1) g dL_law_389 rfl ?_
  refine Xg_pos (lTr o = lTr o) rfl ?_
  refine x_icmp_eq (pc := 391) (t := 396) g dL_law_391 (by decide) ?_ x_none
  refine x_iload (pc := 396) (a := 1) g dL_law_396 rfl ?_
  cases o with
  | none =>
    refine Xg_neg (lTr (none : Option Int32) = 0) (by decide) ?_
    refine x_if_ne (pc := 398) (t := 413) g dL_law_398 (by decide) x_none ?_
    exact x_goto (pc := 413) (t := 1463) g dL_law_413 (by decide) (x_sub [2, 3, 4, 5, 6] (kk E g cn) rfl)
  | some r =>
    refine Xg_pos (lTr (some r) = 0) rfl ?_
    refine x_if_ne (pc := 398) (t := 413) g dL_law_398 (by decide) ?_ x_none
    refine x_aload_n (pc := 401) (i := 3) (a := 3) g dL_law_401 rfl rfl ?_
    refine x_iconst (pc := 402) g dL_law_402 ic_0 ?_
    refine l_lald0 (pc := 403) g dL_law_403 ?_
    refine x_iload (pc := 404) (a := 0) g dL_law_404 rfl ?_
    refine x_i2l (pc := 406) g dL_law_406 ?_
    refine x_lcmp (pc := 407) g dL_law_407 ?_
    refine Xg_pos (lg_cmp (lTf f (some r) 0) (i_l v) = 0) (by rw [e4 r rfl]; exact l_cmp0 _) ?_
    refine x_if_eq (pc := 408) (t := 413) g dL_law_408 (by decide) ?_ x_none
    exact x_goto (pc := 413) (t := 1463) g dL_law_413 (by decide) (x_sub [2, 3, 4, 5, 6] (kk E g cn) rfl)
theorem lw_owl (g : xGood E l0 GC.1 RXL cL_law yL_law 7 (some .boolean) room_1) (cn : xCntL E ce0 sl0 (lA0 sz b L xs)) (hW : WC GC) (hM : WM GM) (hgm : GC.1 = GM.1) (hL : L ≤ 3072) (hi : 6 * i + 6 ≤ L) {o : Option Int32} {v : Int32} (hl9 : l0.stackTraces = false) (e1 : O_owl mC (xs (6 * i + 1)) (xs (6 * i + 2)) = some o) (e2 : M_owl mM (xs (6 * i + 1)) (xs (6 * i + 2)) = some (v, mM')) (e3 : M_thrown mM' = some (lTr o)) (e4 : ∀ r, o = some r → r = v) (hce : ce0 + 1 ≤ 601024) (hsl : sl0 + 6 ≤ 7293034) (kk : ∀ E' : xE, xGood E' l0 GC.1 RXL cL_law yL_law 7 (some .boolean) room_1 → xCntL E' (ce0 + 1) (sl0 + 6) (lA0 sz b L xs) → Xg E' (lFin E' mc ms) 1463 (lLv GC GM out b i) [] (lwd GC GM out mC mM' (lTf f o)) res) : Xg E (lFin E mc ms) 416 (lLv GC GM out b i) [] (lwd GC GM out mC mM f) res := by
  refine x_aload_n (pc := 416) (i := 1) (a := 3) g dL_law_416 rfl rfl ?_
  refine l_pick (pc := 417) (k := 1) (a0 := 4) (a4 := 0) g cn rfl rfl ic_1 (by decide) (by decide) hL hi dL_law_417 dL_law_418 dL_law_420 dL_law_421 dL_law_422 ?_
  refine l_pick (pc := 423) (k := 2) (a0 := 4) (a4 := 0) g cn rfl rfl ic_2 (by decide) (by decide) hL hi dL_law_423 dL_law_424 dL_law_426 dL_law_427 dL_law_428 ?_
  refine x_aload_n (pc := 429) (i := 3) (a := 1) g dL_law_429 rfl rfl ?_
  refine l_callT (pc := 430) (st := []) g cn (by have h := c_L_owl l0 hl9 GC hW mC (xs (6 * i + 1)) (xs (6 * i + 2)); rw [e1] at h; exact h) dL_law_430 msw_owl (Nat.le_of_ble_eq_true rfl) ⟨Nat.le_of_ble_eq_true rfl, Nat.le_of_ble_eq_true rfl, hce, hsl⟩ (fun E g cn => ?_)
  refine x_istore (pc := 433) (lv' := (5, .int (lTr o)) :: lLv GC GM out b i) g dL_law_433 (by decide) rfl ?_
  refine x_aload_n (pc := 435) (i := 2) (a := 3) g dL_law_435 rfl rfl ?_
  refine l_pick (pc := 436) (k := 1) (a0 := 5) (a4 := 1) g cn rfl rfl ic_1 (by decide) (by decide) hL hi dL_law_436 dL_law_437 dL_law_439 dL_law_440 dL_law_441 ?_
  refine l_pick (pc := 442) (k := 2) (a0 := 5) (a4 := 1) g cn rfl rfl ic_2 (by decide) (by decide) hL hi dL_law_442 dL_law_443 dL_law_445 dL_law_446 dL_law_447 ?_
  refine l_invM (pc := 448) (k := 0) (o := (some (.int v), mM')) (as := [.int (xs (6 * i + 1)), .int (xs (6 * i + 2))]) (st := []) (hgm ▸ g) hM (by have h := c_M_owl l0 GM hM mM (xs (6 * i + 1)) (xs (6 * i + 2)); rw [e2] at h; exact h) dL_law_448 ml_L_55 sm_0 rfl rfl (Nat.le_of_ble_eq_true rfl) ⟨rfl, rfl, Nat.le_of_ble_eq_true rfl, Nat.le_of_ble_eq_true rfl⟩ ?_
  refine x_istore (pc := 451) (lv' := (6, .int v) :: (5, .int (lTr o)) :: lLv GC GM out b i) g dL_law_451 (by decide) rfl ?_
  refine x_aload_n (pc := 453) (i := 2) (a := 4) g dL_law_453 rfl rfl ?_
  refine l_invM (pc := 454) (k := 0) (o := (some (.int (lTr o)), mM')) (as := []) (st := []) (hgm ▸ g) hM (by have h := c_M_thrown l0 GM hM mM'; rw [e3] at h; exact h) dL_law_454 ml_L_50 sm_0 rfl rfl (Nat.le_of_ble_eq_true rfl) ⟨rfl, rfl, Nat.le_of_ble_eq_true rfl, Nat.le_of_ble_eq_true rfl⟩ ?_
  refine x_iload (pc := 457) (a := 1) g dL_law_457 rfl ?_
  refine Xg_pos (lTr o = lTr o) rfl ?_
  refine x_icmp_eq (pc := 459) (t := 464) g dL_law_459 (by decide) ?_ x_none
  refine x_iload (pc := 464) (a := 1) g dL_law_464 rfl ?_
  cases o with
  | none =>
    refine Xg_neg (lTr (none : Option Int32) = 0) (by decide) ?_
    refine x_if_ne (pc := 466) (t := 481) g dL_law_466 (by decide) x_none ?_
    exact x_goto (pc := 481) (t := 1463) g dL_law_481 (by decide) (x_sub [2, 3, 4, 5, 6] (kk E g cn) rfl)
  | some r =>
    refine Xg_pos (lTr (some r) = 0) rfl ?_
    refine x_if_ne (pc := 466) (t := 481) g dL_law_466 (by decide) ?_ x_none
    refine x_aload_n (pc := 469) (i := 3) (a := 3) g dL_law_469 rfl rfl ?_
    refine x_iconst (pc := 470) g dL_law_470 ic_0 ?_
    refine l_lald0 (pc := 471) g dL_law_471 ?_
    refine x_iload (pc := 472) (a := 0) g dL_law_472 rfl ?_
    refine x_i2l (pc := 474) g dL_law_474 ?_
    refine x_lcmp (pc := 475) g dL_law_475 ?_
    refine Xg_pos (lg_cmp (lTf f (some r) 0) (i_l v) = 0) (by rw [e4 r rfl]; exact l_cmp0 _) ?_
    refine x_if_eq (pc := 476) (t := 481) g dL_law_476 (by decide) ?_ x_none
    exact x_goto (pc := 481) (t := 1463) g dL_law_481 (by decide) (x_sub [2, 3, 4, 5, 6] (kk E g cn) rfl)
theorem lw_sound (g : xGood E l0 GC.1 RXL cL_law yL_law 7 (some .boolean) room_1) (cn : xCntL E ce0 sl0 (lA0 sz b L xs)) (hW : WC GC) (hM : WM GM) (hgm : GC.1 = GM.1) (hL : L ≤ 3072) (hi : 6 * i + 6 ≤ L) {v : Int32} (e1 : O_sound mC (xs (6 * i + 1)) (xs (6 * i + 2)) = some v) (e2 : M_sound mM (xs (6 * i + 1)) (xs (6 * i + 2)) = some (v, mM')) (kk : Xg E (lFin E mc ms) 1463 (lLv GC GM out b i) [] (lwd GC GM out mC mM' f) res) : Xg E (lFin E mc ms) 484 (lLv GC GM out b i) [] (lwd GC GM out mC mM f) res := by
  refine x_aload_n (pc := 484) (i := 1) (a := 3) g dL_law_484 rfl rfl ?_
  refine l_pick (pc := 485) (k := 1) (a0 := 4) (a4 := 0) g cn rfl rfl ic_1 (by decide) (by decide) hL hi dL_law_485 dL_law_486 dL_law_488 dL_law_489 dL_law_490 ?_
  refine l_pick (pc := 491) (k := 2) (a0 := 4) (a4 := 0) g cn rfl rfl ic_2 (by decide) (by decide) hL hi dL_law_491 dL_law_492 dL_law_494 dL_law_495 dL_law_496 ?_
  refine l_invC (pc := 497) (k := 0) (o := (some (.int v), mC)) (as := [.int (xs (6 * i + 1)), .int (xs (6 * i + 2))]) (st := []) g hW (by have h := c_O_sound l0 GC hW mC (xs (6 * i + 1)) (xs (6 * i + 2)); rw [e1] at h; exact h) dL_law_497 ml_L_56 (sOwlsLent isOwlsLent_0) rfl rfl (Nat.le_of_ble_eq_true rfl) ⟨rfl, rfl, Nat.le_of_ble_eq_true rfl, Nat.le_of_ble_eq_true rfl⟩ ?_
  refine x_aload_n (pc := 500) (i := 2) (a := 2) g dL_law_500 rfl rfl ?_
  refine l_pick (pc := 501) (k := 1) (a0 := 4) (a4 := 0) g cn rfl rfl ic_1 (by decide) (by decide) hL hi dL_law_501 dL_law_502 dL_law_504 dL_law_505 dL_law_506 ?_
  refine l_pick (pc := 507) (k := 2) (a0 := 4) (a4 := 0) g cn rfl rfl ic_2 (by decide) (by decide) hL hi dL_law_507 dL_law_508 dL_law_510 dL_law_511 dL_law_512 ?_
  refine l_invM (pc := 513) (k := 0) (o := (some (.int v), mM')) (as := [.int (xs (6 * i + 1)), .int (xs (6 * i + 2))]) (st := [.int v]) (hgm ▸ g) hM (by have h := c_M_sound l0 GM hM mM (xs (6 * i + 1)) (xs (6 * i + 2)); rw [e2] at h; exact h) dL_law_513 ml_L_59 sm_0 rfl rfl (Nat.le_of_ble_eq_true rfl) ⟨rfl, rfl, Nat.le_of_ble_eq_true rfl, Nat.le_of_ble_eq_true rfl⟩ ?_
  refine Xg_pos (v = v) rfl ?_
  exact x_icmp_eq (pc := 516) (t := 1463) g dL_law_516 (by decide) kk x_none
theorem lw_now (g : xGood E l0 GC.1 RXL cL_law yL_law 7 (some .boolean) room_1) (cn : xCntL E ce0 sl0 (lA0 sz b L xs)) (hW : WC GC) (hM : WM GM) (hgm : GC.1 = GM.1) (hL : L ≤ 3072) (hi : 6 * i + 6 ≤ L) {v : Int32} (e1 : O_now mC (xs (6 * i + 1)) = some v) (e2 : M_now mM (xs (6 * i + 1)) = some (v, mM')) (kk : Xg E (lFin E mc ms) 1463 (lLv GC GM out b i) [] (lwd GC GM out mC mM' f) res) : Xg E (lFin E mc ms) 521 (lLv GC GM out b i) [] (lwd GC GM out mC mM f) res := by
  refine x_aload_n (pc := 521) (i := 1) (a := 3) g dL_law_521 rfl rfl ?_
  refine l_pick (pc := 522) (k := 1) (a0 := 4) (a4 := 0) g cn rfl rfl ic_1 (by decide) (by decide) hL hi dL_law_522 dL_law_523 dL_law_525 dL_law_526 dL_law_527 ?_
  refine l_invC (pc := 528) (k := 0) (o := (some (.int v), mC)) (as := [.int (xs (6 * i + 1))]) (st := []) g hW (by have h := c_O_now l0 GC hW mC (xs (6 * i + 1)); rw [e1] at h; exact h) dL_law_528 ml_L_60 (sOwlsLent isOwlsLent_0) rfl rfl (Nat.le_of_ble_eq_true rfl) ⟨rfl, rfl, Nat.le_of_ble_eq_true rfl, Nat.le_of_ble_eq_true rfl⟩ ?_
  refine x_aload_n (pc := 531) (i := 2) (a := 2) g dL_law_531 rfl rfl ?_
  refine l_pick (pc := 532) (k := 1) (a0 := 4) (a4 := 0) g cn rfl rfl ic_1 (by decide) (by decide) hL hi dL_law_532 dL_law_533 dL_law_535 dL_law_536 dL_law_537 ?_
  refine l_invM (pc := 538) (k := 0) (o := (some (.int v), mM')) (as := [.int (xs (6 * i + 1))]) (st := [.int v]) (hgm ▸ g) hM (by have h := c_M_now l0 GM hM mM (xs (6 * i + 1)); rw [e2] at h; exact h) dL_law_538 ml_L_64 sm_0 rfl rfl (Nat.le_of_ble_eq_true rfl) ⟨rfl, rfl, Nat.le_of_ble_eq_true rfl, Nat.le_of_ble_eq_true rfl⟩ ?_
  refine Xg_pos (v = v) rfl ?_
  exact x_icmp_eq (pc := 541) (t := 1463) g dL_law_541 (by decide) kk x_none
theorem lw_lend (g : xGood E l0 GC.1 RXL cL_law yL_law 7 (some .boolean) room_1) (cn : xCntL E ce0 sl0 (lA0 sz b L xs)) (hW : WC GC) (hM : WM GM) (hgm : GC.1 = GM.1) (hL : L ≤ 3072) (hi : 6 * i + 6 ≤ L) {v : Int32} (e1 : O_lend mC (xs (6 * i + 1)) (xs (6 * i + 2)) = some (v, mC')) (e2 : M_lend mM (xs (6 * i + 1)) (xs (6 * i + 2)) = some (v, mM')) (kk : Xg E (lFin E mc ms) 1463 (lLv GC GM out b i) [] (lwd GC GM out mC' mM' f) res) : Xg E (lFin E mc ms) 546 (lLv GC GM out b i) [] (lwd GC GM out mC mM f) res := by
  refine x_aload_n (pc := 546) (i := 1) (a := 3) g dL_law_546 rfl rfl ?_
  refine l_pick (pc := 547) (k := 1) (a0 := 4) (a4 := 0) g cn rfl rfl ic_1 (by decide) (by decide) hL hi dL_law_547 dL_law_548 dL_law_550 dL_law_551 dL_law_552 ?_
  refine l_pick (pc := 553) (k := 2) (a0 := 4) (a4 := 0) g cn rfl rfl ic_2 (by decide) (by decide) hL hi dL_law_553 dL_law_554 dL_law_556 dL_law_557 dL_law_558 ?_
  refine l_invC (pc := 559) (k := 0) (o := (some (.int v), mC')) (as := [.int (xs (6 * i + 1)), .int (xs (6 * i + 2))]) (st := []) g hW (by have h := c_O_lend l0 GC hW mC (xs (6 * i + 1)) (xs (6 * i + 2)); rw [e1] at h; exact h) dL_law_559 ml_L_65 (sOwlsLent isOwlsLent_0) rfl rfl (Nat.le_of_ble_eq_true rfl) ⟨rfl, rfl, Nat.le_of_ble_eq_true rfl, Nat.le_of_ble_eq_true rfl⟩ ?_
  refine x_aload_n (pc := 562) (i := 2) (a := 2) g dL_law_562 rfl rfl ?_
  refine l_pick (pc := 563) (k := 1) (a0 := 4) (a4 := 0) g cn rfl rfl ic_1 (by decide) (by decide) hL hi dL_law_563 dL_law_564 dL_law_566 dL_law_567 dL_law_568 ?_
  refine l_pick (pc := 569) (k := 2) (a0 := 4) (a4 := 0) g cn rfl rfl ic_2 (by decide) (by decide) hL hi dL_law_569 dL_law_570 dL_law_572 dL_law_573 dL_law_574 ?_
  refine l_invM (pc := 575) (k := 0) (o := (some (.int v), mM')) (as := [.int (xs (6 * i + 1)), .int (xs (6 * i + 2))]) (st := [.int v]) (hgm ▸ g) hM (by have h := c_M_lend l0 GM hM mM (xs (6 * i + 1)) (xs (6 * i + 2)); rw [e2] at h; exact h) dL_law_575 ml_L_68 sm_0 rfl rfl (Nat.le_of_ble_eq_true rfl) ⟨rfl, rfl, Nat.le_of_ble_eq_true rfl, Nat.le_of_ble_eq_true rfl⟩ ?_
  refine Xg_pos (v = v) rfl ?_
  exact x_icmp_eq (pc := 578) (t := 1463) g dL_law_578 (by decide) kk x_none
theorem lw_hush (g : xGood E l0 GC.1 RXL cL_law yL_law 7 (some .boolean) room_1) (cn : xCntL E ce0 sl0 (lA0 sz b L xs)) (hW : WC GC) (hM : WM GM) (hgm : GC.1 = GM.1) (hL : L ≤ 3072) (hi : 6 * i + 6 ≤ L) {v : Int32} (e1 : O_hush mC (xs (6 * i + 1)) = some (v, mC')) (e2 : M_hush mM (xs (6 * i + 1)) = some (v, mM')) (kk : Xg E (lFin E mc ms) 1463 (lLv GC GM out b i) [] (lwd GC GM out mC' mM' f) res) : Xg E (lFin E mc ms) 583 (lLv GC GM out b i) [] (lwd GC GM out mC mM f) res := by
  refine x_aload_n (pc := 583) (i := 1) (a := 3) g dL_law_583 rfl rfl ?_
  refine l_pick (pc := 584) (k := 1) (a0 := 4) (a4 := 0) g cn rfl rfl ic_1 (by decide) (by decide) hL hi dL_law_584 dL_law_585 dL_law_587 dL_law_588 dL_law_589 ?_
  refine l_invC (pc := 590) (k := 0) (o := (some (.int v), mC')) (as := [.int (xs (6 * i + 1))]) (st := []) g hW (by have h := c_O_hush l0 GC hW mC (xs (6 * i + 1)); rw [e1] at h; exact h) dL_law_590 ml_L_69 (sOwlsLent isOwlsLent_0) rfl rfl (Nat.le_of_ble_eq_true rfl) ⟨rfl, rfl, Nat.le_of_ble_eq_true rfl, Nat.le_of_ble_eq_true rfl⟩ ?_
  refine x_aload_n (pc := 593) (i := 2) (a := 2) g dL_law_593 rfl rfl ?_
  refine l_pick (pc := 594) (k := 1) (a0 := 4) (a4 := 0) g cn rfl rfl ic_1 (by decide) (by decide) hL hi dL_law_594 dL_law_595 dL_law_597 dL_law_598 dL_law_599 ?_
  refine l_invM (pc := 600) (k := 0) (o := (some (.int v), mM')) (as := [.int (xs (6 * i + 1))]) (st := [.int v]) (hgm ▸ g) hM (by have h := c_M_hush l0 GM hM mM (xs (6 * i + 1)); rw [e2] at h; exact h) dL_law_600 ml_L_72 sm_0 rfl rfl (Nat.le_of_ble_eq_true rfl) ⟨rfl, rfl, Nat.le_of_ble_eq_true rfl, Nat.le_of_ble_eq_true rfl⟩ ?_
  refine Xg_pos (v = v) rfl ?_
  exact x_icmp_eq (pc := 603) (t := 1463) g dL_law_603 (by decide) kk x_none
theorem lw_let (g : xGood E l0 GC.1 RXL cL_law yL_law 7 (some .boolean) room_1) (cn : xCntL E ce0 sl0 (lA0 sz b L xs)) (hW : WC GC) (hM : WM GM) (hgm : GC.1 = GM.1) (hL : L ≤ 3072) (hi : 6 * i + 6 ≤ L) {v : Int32} (e1 : O_let mC (xs (6 * i + 1)) = some (v, mC')) (e2 : M_let mM (xs (6 * i + 1)) = some (v, mM')) (kk : Xg E (lFin E mc ms) 1463 (lLv GC GM out b i) [] (lwd GC GM out mC' mM' f) res) : Xg E (lFin E mc ms) 608 (lLv GC GM out b i) [] (lwd GC GM out mC mM f) res := by
  refine x_aload_n (pc := 608) (i := 1) (a := 3) g dL_law_608 rfl rfl ?_
  refine l_pick (pc := 609) (k := 1) (a0 := 4) (a4 := 0) g cn rfl rfl ic_1 (by decide) (by decide) hL hi dL_law_609 dL_law_610 dL_law_612 dL_law_613 dL_law_614 ?_
  refine l_invC (pc := 615) (k := 0) (o := (some (.int v), mC')) (as := [.int (xs (6 * i + 1))]) (st := []) g hW (by have h := c_O_let l0 GC hW mC (xs (6 * i + 1)); rw [e1] at h; exact h) dL_law_615 ml_L_73 (sOwlsLent isOwlsLent_0) rfl rfl (Nat.le_of_ble_eq_true rfl) ⟨rfl, rfl, Nat.le_of_ble_eq_true rfl, Nat.le_of_ble_eq_true rfl⟩ ?_
  refine x_aload_n (pc := 618) (i := 2) (a := 2) g dL_law_618 rfl rfl ?_
  refine l_pick (pc := 619) (k := 1) (a0 := 4) (a4 := 0) g cn rfl rfl ic_1 (by decide) (by decide) hL hi dL_law_619 dL_law_620 dL_law_622 dL_law_623 dL_law_624 ?_
  refine l_invM (pc := 625) (k := 0) (o := (some (.int v), mM')) (as := [.int (xs (6 * i + 1))]) (st := [.int v]) (hgm ▸ g) hM (by have h := c_M_let l0 GM hM mM (xs (6 * i + 1)); rw [e2] at h; exact h) dL_law_625 ml_L_76 sm_0 rfl rfl (Nat.le_of_ble_eq_true rfl) ⟨rfl, rfl, Nat.le_of_ble_eq_true rfl, Nat.le_of_ble_eq_true rfl⟩ ?_
  refine Xg_pos (v = v) rfl ?_
  exact x_icmp_eq (pc := 628) (t := 1463) g dL_law_628 (by decide) kk x_none
theorem lw_shout (g : xGood E l0 GC.1 RXL cL_law yL_law 7 (some .boolean) room_1) (cn : xCntL E ce0 sl0 (lA0 sz b L xs)) (hW : WC GC) (hM : WM GM) (hgm : GC.1 = GM.1) (hL : L ≤ 3072) (hi : 6 * i + 6 ≤ L) {v : Int32} (e1 : O_shout mC (xs (6 * i + 1)) (xs (6 * i + 2)) (xs (6 * i + 3)) = some (v, mC')) (e2 : M_shout mM (xs (6 * i + 1)) (xs (6 * i + 2)) (xs (6 * i + 3)) = some (v, mM')) (kk : Xg E (lFin E mc ms) 1463 (lLv GC GM out b i) [] (lwd GC GM out mC' mM' f) res) : Xg E (lFin E mc ms) 633 (lLv GC GM out b i) [] (lwd GC GM out mC mM f) res := by
  refine x_aload_n (pc := 633) (i := 1) (a := 3) g dL_law_633 rfl rfl ?_
  refine l_pick (pc := 634) (k := 1) (a0 := 4) (a4 := 0) g cn rfl rfl ic_1 (by decide) (by decide) hL hi dL_law_634 dL_law_635 dL_law_637 dL_law_638 dL_law_639 ?_
  refine l_pick (pc := 640) (k := 2) (a0 := 4) (a4 := 0) g cn rfl rfl ic_2 (by decide) (by decide) hL hi dL_law_640 dL_law_641 dL_law_643 dL_law_644 dL_law_645 ?_
  refine l_pick (pc := 646) (k := 3) (a0 := 4) (a4 := 0) g cn rfl rfl ic_3 (by decide) (by decide) hL hi dL_law_646 dL_law_647 dL_law_649 dL_law_650 dL_law_651 ?_
  refine l_invC (pc := 652) (k := 0) (o := (some (.int v), mC')) (as := [.int (xs (6 * i + 1)), .int (xs (6 * i + 2)), .int (xs (6 * i + 3))]) (st := []) g hW (by have h := c_O_shout l0 GC hW mC (xs (6 * i + 1)) (xs (6 * i + 2)) (xs (6 * i + 3)); rw [e1] at h; exact h) dL_law_652 ml_L_77 (sOwlsLent isOwlsLent_0) rfl rfl (Nat.le_of_ble_eq_true rfl) ⟨rfl, rfl, Nat.le_of_ble_eq_true rfl, Nat.le_of_ble_eq_true rfl⟩ ?_
  refine x_aload_n (pc := 655) (i := 2) (a := 2) g dL_law_655 rfl rfl ?_
  refine l_pick (pc := 656) (k := 1) (a0 := 4) (a4 := 0) g cn rfl rfl ic_1 (by decide) (by decide) hL hi dL_law_656 dL_law_657 dL_law_659 dL_law_660 dL_law_661 ?_
  refine l_pick (pc := 662) (k := 2) (a0 := 4) (a4 := 0) g cn rfl rfl ic_2 (by decide) (by decide) hL hi dL_law_662 dL_law_663 dL_law_665 dL_law_666 dL_law_667 ?_
  refine l_pick (pc := 668) (k := 3) (a0 := 4) (a4 := 0) g cn rfl rfl ic_3 (by decide) (by decide) hL hi dL_law_668 dL_law_669 dL_law_671 dL_law_672 dL_law_673 ?_
  refine l_invM (pc := 674) (k := 0) (o := (some (.int v), mM')) (as := [.int (xs (6 * i + 1)), .int (xs (6 * i + 2)), .int (xs (6 * i + 3))]) (st := [.int v]) (hgm ▸ g) hM (by have h := c_M_shout l0 GM hM mM (xs (6 * i + 1)) (xs (6 * i + 2)) (xs (6 * i + 3)); rw [e2] at h; exact h) dL_law_674 ml_L_81 sm_0 rfl rfl (Nat.le_of_ble_eq_true rfl) ⟨rfl, rfl, Nat.le_of_ble_eq_true rfl, Nat.le_of_ble_eq_true rfl⟩ ?_
  refine Xg_pos (v = v) rfl ?_
  exact x_icmp_eq (pc := 677) (t := 1463) g dL_law_677 (by decide) kk x_none
theorem lw_hours (g : xGood E l0 GC.1 RXL cL_law yL_law 7 (some .boolean) room_1) (cn : xCntL E ce0 sl0 (lA0 sz b L xs)) (hW : WC GC) (hM : WM GM) (hgm : GC.1 = GM.1) (hL : L ≤ 3072) (hi : 6 * i + 6 ≤ L) {v : Int32} (e1 : O_hours mC (xs (6 * i + 1)) = some (v, mC')) (e2 : M_hours mM (xs (6 * i + 1)) = some (v, mM')) (kk : Xg E (lFin E mc ms) 1463 (lLv GC GM out b i) [] (lwd GC GM out mC' mM' f) res) : Xg E (lFin E mc ms) 682 (lLv GC GM out b i) [] (lwd GC GM out mC mM f) res := by
  refine x_aload_n (pc := 682) (i := 1) (a := 3) g dL_law_682 rfl rfl ?_
  refine l_pick (pc := 683) (k := 1) (a0 := 4) (a4 := 0) g cn rfl rfl ic_1 (by decide) (by decide) hL hi dL_law_683 dL_law_684 dL_law_686 dL_law_687 dL_law_688 ?_
  refine l_invC (pc := 689) (k := 0) (o := (some (.int v), mC')) (as := [.int (xs (6 * i + 1))]) (st := []) g hW (by have h := c_O_hours l0 GC hW mC (xs (6 * i + 1)); rw [e1] at h; exact h) dL_law_689 ml_L_82 (sOwlsLent isOwlsLent_0) rfl rfl (Nat.le_of_ble_eq_true rfl) ⟨rfl, rfl, Nat.le_of_ble_eq_true rfl, Nat.le_of_ble_eq_true rfl⟩ ?_
  refine x_aload_n (pc := 692) (i := 2) (a := 2) g dL_law_692 rfl rfl ?_
  refine l_pick (pc := 693) (k := 1) (a0 := 4) (a4 := 0) g cn rfl rfl ic_1 (by decide) (by decide) hL hi dL_law_693 dL_law_694 dL_law_696 dL_law_697 dL_law_698 ?_
  refine l_invM (pc := 699) (k := 0) (o := (some (.int v), mM')) (as := [.int (xs (6 * i + 1))]) (st := [.int v]) (hgm ▸ g) hM (by have h := c_M_hours l0 GM hM mM (xs (6 * i + 1)); rw [e2] at h; exact h) dL_law_699 ml_L_85 sm_0 rfl rfl (Nat.le_of_ble_eq_true rfl) ⟨rfl, rfl, Nat.le_of_ble_eq_true rfl, Nat.le_of_ble_eq_true rfl⟩ ?_
  refine Xg_pos (v = v) rfl ?_
  exact x_icmp_eq (pc := 702) (t := 1463) g dL_law_702 (by decide) kk x_none
theorem lw_undo (g : xGood E l0 GC.1 RXL cL_law yL_law 7 (some .boolean) room_1) (cn : xCntL E ce0 sl0 (lA0 sz b L xs)) (hW : WC GC) (hM : WM GM) (hgm : GC.1 = GM.1) (hL : L ≤ 3072) (hi : 6 * i + 6 ≤ L) {v : Int32} (e1 : O_undo mC = some (v, mC')) (e2 : M_undo mM = some (v, mM')) (kk : Xg E (lFin E mc ms) 1463 (lLv GC GM out b i) [] (lwd GC GM out mC' mM' f) res) : Xg E (lFin E mc ms) 707 (lLv GC GM out b i) [] (lwd GC GM out mC mM f) res := by
  refine x_aload_n (pc := 707) (i := 1) (a := 3) g dL_law_707 rfl rfl ?_
  refine l_invC (pc := 708) (k := 0) (o := (some (.int v), mC')) (as := []) (st := []) g hW (by have h := c_O_undo l0 GC hW mC; rw [e1] at h; exact h) dL_law_708 ml_L_86 (sOwlsLent isOwlsLent_0) rfl rfl (Nat.le_of_ble_eq_true rfl) ⟨rfl, rfl, Nat.le_of_ble_eq_true rfl, Nat.le_of_ble_eq_true rfl⟩ ?_
  refine x_aload_n (pc := 711) (i := 2) (a := 2) g dL_law_711 rfl rfl ?_
  refine l_invM (pc := 712) (k := 0) (o := (some (.int v), mM')) (as := []) (st := [.int v]) (hgm ▸ g) hM (by have h := c_M_undo l0 GM hM mM; rw [e2] at h; exact h) dL_law_712 ml_L_89 sm_0 rfl rfl (Nat.le_of_ble_eq_true rfl) ⟨rfl, rfl, Nat.le_of_ble_eq_true rfl, Nat.le_of_ble_eq_true rfl⟩ ?_
  refine Xg_pos (v = v) rfl ?_
  exact x_icmp_eq (pc := 715) (t := 1463) g dL_law_715 (by decide) kk x_none
theorem lw_hears (g : xGood E l0 GC.1 RXL cL_law yL_law 7 (some .boolean) room_1) (cn : xCntL E ce0 sl0 (lA0 sz b L xs)) (hW : WC GC) (hM : WM GM) (hgm : GC.1 = GM.1) (hL : L ≤ 3072) (hi : 6 * i + 6 ≤ L) {v : Int32} (e1 : O_hears mC (xs (6 * i + 1)) = some v) (e2 : M_hears mM (xs (6 * i + 1)) = some (v, mM')) (kk : Xg E (lFin E mc ms) 1463 (lLv GC GM out b i) [] (lwd GC GM out mC mM' f) res) : Xg E (lFin E mc ms) 720 (lLv GC GM out b i) [] (lwd GC GM out mC mM f) res := by
  refine x_aload_n (pc := 720) (i := 1) (a := 3) g dL_law_720 rfl rfl ?_
  refine l_pick (pc := 721) (k := 1) (a0 := 4) (a4 := 0) g cn rfl rfl ic_1 (by decide) (by decide) hL hi dL_law_721 dL_law_722 dL_law_724 dL_law_725 dL_law_726 ?_
  refine l_invC (pc := 727) (k := 0) (o := (some (.int v), mC)) (as := [.int (xs (6 * i + 1))]) (st := []) g hW (by have h := c_O_hears l0 GC hW mC (xs (6 * i + 1)); rw [e1] at h; exact h) dL_law_727 ml_L_90 (sOwlsLent isOwlsLent_0) rfl rfl (Nat.le_of_ble_eq_true rfl) ⟨rfl, rfl, Nat.le_of_ble_eq_true rfl, Nat.le_of_ble_eq_true rfl⟩ ?_
  refine x_aload_n (pc := 730) (i := 2) (a := 2) g dL_law_730 rfl rfl ?_
  refine l_pick (pc := 731) (k := 1) (a0 := 4) (a4 := 0) g cn rfl rfl ic_1 (by decide) (by decide) hL hi dL_law_731 dL_law_732 dL_law_734 dL_law_735 dL_law_736 ?_
  refine l_invM (pc := 737) (k := 0) (o := (some (.int v), mM')) (as := [.int (xs (6 * i + 1))]) (st := [.int v]) (hgm ▸ g) hM (by have h := c_M_hears l0 GM hM mM (xs (6 * i + 1)); rw [e2] at h; exact h) dL_law_737 ml_L_93 sm_0 rfl rfl (Nat.le_of_ble_eq_true rfl) ⟨rfl, rfl, Nat.le_of_ble_eq_true rfl, Nat.le_of_ble_eq_true rfl⟩ ?_
  refine Xg_pos (v = v) rfl ?_
  exact x_icmp_eq (pc := 740) (t := 1463) g dL_law_740 (by decide) kk x_none
theorem lw_would (g : xGood E l0 GC.1 RXL cL_law yL_law 7 (some .boolean) room_1) (cn : xCntL E ce0 sl0 (lA0 sz b L xs)) (hW : WC GC) (hM : WM GM) (hgm : GC.1 = GM.1) (hL : L ≤ 3072) (hi : 6 * i + 6 ≤ L) {v : Int32} (e1 : O_would mC (xs (6 * i + 1)) (xs (6 * i + 2)) = some v) (e2 : M_would mM (xs (6 * i + 1)) (xs (6 * i + 2)) = some (v, mM')) (kk : Xg E (lFin E mc ms) 1463 (lLv GC GM out b i) [] (lwd GC GM out mC mM' f) res) : Xg E (lFin E mc ms) 745 (lLv GC GM out b i) [] (lwd GC GM out mC mM f) res := by
  refine x_aload_n (pc := 745) (i := 1) (a := 3) g dL_law_745 rfl rfl ?_
  refine l_pick (pc := 746) (k := 1) (a0 := 4) (a4 := 0) g cn rfl rfl ic_1 (by decide) (by decide) hL hi dL_law_746 dL_law_747 dL_law_749 dL_law_750 dL_law_751 ?_
  refine l_pick (pc := 752) (k := 2) (a0 := 4) (a4 := 0) g cn rfl rfl ic_2 (by decide) (by decide) hL hi dL_law_752 dL_law_753 dL_law_755 dL_law_756 dL_law_757 ?_
  refine l_invC (pc := 758) (k := 0) (o := (some (.int v), mC)) (as := [.int (xs (6 * i + 1)), .int (xs (6 * i + 2))]) (st := []) g hW (by have h := c_O_would l0 GC hW mC (xs (6 * i + 1)) (xs (6 * i + 2)); rw [e1] at h; exact h) dL_law_758 ml_L_94 (sOwlsLent isOwlsLent_0) rfl rfl (Nat.le_of_ble_eq_true rfl) ⟨rfl, rfl, Nat.le_of_ble_eq_true rfl, Nat.le_of_ble_eq_true rfl⟩ ?_
  refine x_aload_n (pc := 761) (i := 2) (a := 2) g dL_law_761 rfl rfl ?_
  refine l_pick (pc := 762) (k := 1) (a0 := 4) (a4 := 0) g cn rfl rfl ic_1 (by decide) (by decide) hL hi dL_law_762 dL_law_763 dL_law_765 dL_law_766 dL_law_767 ?_
  refine l_pick (pc := 768) (k := 2) (a0 := 4) (a4 := 0) g cn rfl rfl ic_2 (by decide) (by decide) hL hi dL_law_768 dL_law_769 dL_law_771 dL_law_772 dL_law_773 ?_
  refine l_invM (pc := 774) (k := 0) (o := (some (.int v), mM')) (as := [.int (xs (6 * i + 1)), .int (xs (6 * i + 2))]) (st := [.int v]) (hgm ▸ g) hM (by have h := c_M_would l0 GM hM mM (xs (6 * i + 1)) (xs (6 * i + 2)); rw [e2] at h; exact h) dL_law_774 ml_L_97 sm_0 rfl rfl (Nat.le_of_ble_eq_true rfl) ⟨rfl, rfl, Nat.le_of_ble_eq_true rfl, Nat.le_of_ble_eq_true rfl⟩ ?_
  refine Xg_pos (v = v) rfl ?_
  exact x_icmp_eq (pc := 777) (t := 1463) g dL_law_777 (by decide) kk x_none
theorem lw_when (g : xGood E l0 GC.1 RXL cL_law yL_law 7 (some .boolean) room_1) (cn : xCntL E ce0 sl0 (lA0 sz b L xs)) (hW : WC GC) (hM : WM GM) (hgm : GC.1 = GM.1) (hL : L ≤ 3072) (hi : 6 * i + 6 ≤ L) {v : Int32} (e1 : O_when mC (xs (6 * i + 1)) (xs (6 * i + 2)) = some v) (e2 : M_when mM (xs (6 * i + 1)) (xs (6 * i + 2)) = some (v, mM')) (kk : Xg E (lFin E mc ms) 1463 (lLv GC GM out b i) [] (lwd GC GM out mC mM' f) res) : Xg E (lFin E mc ms) 782 (lLv GC GM out b i) [] (lwd GC GM out mC mM f) res := by
  refine x_aload_n (pc := 782) (i := 1) (a := 3) g dL_law_782 rfl rfl ?_
  refine l_pick (pc := 783) (k := 1) (a0 := 4) (a4 := 0) g cn rfl rfl ic_1 (by decide) (by decide) hL hi dL_law_783 dL_law_784 dL_law_786 dL_law_787 dL_law_788 ?_
  refine l_pick (pc := 789) (k := 2) (a0 := 4) (a4 := 0) g cn rfl rfl ic_2 (by decide) (by decide) hL hi dL_law_789 dL_law_790 dL_law_792 dL_law_793 dL_law_794 ?_
  refine l_invC (pc := 795) (k := 0) (o := (some (.int v), mC)) (as := [.int (xs (6 * i + 1)), .int (xs (6 * i + 2))]) (st := []) g hW (by have h := c_O_when l0 GC hW mC (xs (6 * i + 1)) (xs (6 * i + 2)); rw [e1] at h; exact h) dL_law_795 ml_L_98 (sOwlsLent isOwlsLent_0) rfl rfl (Nat.le_of_ble_eq_true rfl) ⟨rfl, rfl, Nat.le_of_ble_eq_true rfl, Nat.le_of_ble_eq_true rfl⟩ ?_
  refine x_aload_n (pc := 798) (i := 2) (a := 2) g dL_law_798 rfl rfl ?_
  refine l_pick (pc := 799) (k := 1) (a0 := 4) (a4 := 0) g cn rfl rfl ic_1 (by decide) (by decide) hL hi dL_law_799 dL_law_800 dL_law_802 dL_law_803 dL_law_804 ?_
  refine l_pick (pc := 805) (k := 2) (a0 := 4) (a4 := 0) g cn rfl rfl ic_2 (by decide) (by decide) hL hi dL_law_805 dL_law_806 dL_law_808 dL_law_809 dL_law_810 ?_
  refine l_invM (pc := 811) (k := 0) (o := (some (.int v), mM')) (as := [.int (xs (6 * i + 1)), .int (xs (6 * i + 2))]) (st := [.int v]) (hgm ▸ g) hM (by have h := c_M_when l0 GM hM mM (xs (6 * i + 1)) (xs (6 * i + 2)); rw [e2] at h; exact h) dL_law_811 ml_L_101 sm_0 rfl rfl (Nat.le_of_ble_eq_true rfl) ⟨rfl, rfl, Nat.le_of_ble_eq_true rfl, Nat.le_of_ble_eq_true rfl⟩ ?_
  refine Xg_pos (v = v) rfl ?_
  exact x_icmp_eq (pc := 814) (t := 1463) g dL_law_814 (by decide) kk x_none
theorem lw_loud (g : xGood E l0 GC.1 RXL cL_law yL_law 7 (some .boolean) room_1) (cn : xCntL E ce0 sl0 (lA0 sz b L xs)) (hW : WC GC) (hM : WM GM) (hgm : GC.1 = GM.1) (hL : L ≤ 3072) (hi : 6 * i + 6 ≤ L) {o : Option Int32} {v : Int32} (hl9 : l0.stackTraces = false) (e1 : O_loud mC (xs (6 * i + 1)) (xs (6 * i + 2)) = some o) (e2 : M_loud mM (xs (6 * i + 1)) (xs (6 * i + 2)) = some (v, mM')) (e3 : M_thrown mM' = some (lTr o)) (e4 : ∀ r, o = some r → r = v) (hce : ce0 + 1 ≤ 601024) (hsl : sl0 + 6 ≤ 7293034) (kk : ∀ E' : xE, xGood E' l0 GC.1 RXL cL_law yL_law 7 (some .boolean) room_1 → xCntL E' (ce0 + 1) (sl0 + 6) (lA0 sz b L xs) → Xg E' (lFin E' mc ms) 1463 (lLv GC GM out b i) [] (lwd GC GM out mC mM' (lTf f o)) res) : Xg E (lFin E mc ms) 819 (lLv GC GM out b i) [] (lwd GC GM out mC mM f) res := by
  refine x_aload_n (pc := 819) (i := 1) (a := 3) g dL_law_819 rfl rfl ?_
  refine l_pick (pc := 820) (k := 1) (a0 := 4) (a4 := 0) g cn rfl rfl ic_1 (by decide) (by decide) hL hi dL_law_820 dL_law_821 dL_law_823 dL_law_824 dL_law_825 ?_
  refine l_pick (pc := 826) (k := 2) (a0 := 4) (a4 := 0) g cn rfl rfl ic_2 (by decide) (by decide) hL hi dL_law_826 dL_law_827 dL_law_829 dL_law_830 dL_law_831 ?_
  refine x_aload_n (pc := 832) (i := 3) (a := 1) g dL_law_832 rfl rfl ?_
  refine l_callT (pc := 833) (st := []) g cn (by have h := c_L_loud l0 hl9 GC hW mC (xs (6 * i + 1)) (xs (6 * i + 2)); rw [e1] at h; exact h) dL_law_833 msw_loud (Nat.le_of_ble_eq_true rfl) ⟨Nat.le_of_ble_eq_true rfl, Nat.le_of_ble_eq_true rfl, hce, hsl⟩ (fun E g cn => ?_)
  refine x_istore (pc := 836) (lv' := (5, .int (lTr o)) :: lLv GC GM out b i) g dL_law_836 (by decide) rfl ?_
  refine x_aload_n (pc := 838) (i := 2) (a := 3) g dL_law_838 rfl rfl ?_
  refine l_pick (pc := 839) (k := 1) (a0 := 5) (a4 := 1) g cn rfl rfl ic_1 (by decide) (by decide) hL hi dL_law_839 dL_law_840 dL_law_842 dL_law_843 dL_law_844 ?_
  refine l_pick (pc := 845) (k := 2) (a0 := 5) (a4 := 1) g cn rfl rfl ic_2 (by decide) (by decide) hL hi dL_law_845 dL_law_846 dL_law_848 dL_law_849 dL_law_850 ?_
  refine l_invM (pc := 851) (k := 0) (o := (some (.int v), mM')) (as := [.int (xs (6 * i + 1)), .int (xs (6 * i + 2))]) (st := []) (hgm ▸ g) hM (by have h := c_M_loud l0 GM hM mM (xs (6 * i + 1)) (xs (6 * i + 2)); rw [e2] at h; exact h) dL_law_851 ml_L_104 sm_0 rfl rfl (Nat.le_of_ble_eq_true rfl) ⟨rfl, rfl, Nat.le_of_ble_eq_true rfl, Nat.le_of_ble_eq_true rfl⟩ ?_
  refine x_istore (pc := 854) (lv' := (6, .int v) :: (5, .int (lTr o)) :: lLv GC GM out b i) g dL_law_854 (by decide) rfl ?_
  refine x_aload_n (pc := 856) (i := 2) (a := 4) g dL_law_856 rfl rfl ?_
  refine l_invM (pc := 857) (k := 0) (o := (some (.int (lTr o)), mM')) (as := []) (st := []) (hgm ▸ g) hM (by have h := c_M_thrown l0 GM hM mM'; rw [e3] at h; exact h) dL_law_857 ml_L_50 sm_0 rfl rfl (Nat.le_of_ble_eq_true rfl) ⟨rfl, rfl, Nat.le_of_ble_eq_true rfl, Nat.le_of_ble_eq_true rfl⟩ ?_
  refine x_iload (pc := 860) (a := 1) g dL_law_860 rfl ?_
  refine Xg_pos (lTr o = lTr o) rfl ?_
  refine x_icmp_eq (pc := 862) (t := 867) g dL_law_862 (by decide) ?_ x_none
  refine x_iload (pc := 867) (a := 1) g dL_law_867 rfl ?_
  cases o with
  | none =>
    refine Xg_neg (lTr (none : Option Int32) = 0) (by decide) ?_
    refine x_if_ne (pc := 869) (t := 884) g dL_law_869 (by decide) x_none ?_
    exact x_goto (pc := 884) (t := 1463) g dL_law_884 (by decide) (x_sub [2, 3, 4, 5, 6] (kk E g cn) rfl)
  | some r =>
    refine Xg_pos (lTr (some r) = 0) rfl ?_
    refine x_if_ne (pc := 869) (t := 884) g dL_law_869 (by decide) ?_ x_none
    refine x_aload_n (pc := 872) (i := 3) (a := 3) g dL_law_872 rfl rfl ?_
    refine x_iconst (pc := 873) g dL_law_873 ic_0 ?_
    refine l_lald0 (pc := 874) g dL_law_874 ?_
    refine x_iload (pc := 875) (a := 0) g dL_law_875 rfl ?_
    refine x_i2l (pc := 877) g dL_law_877 ?_
    refine x_lcmp (pc := 878) g dL_law_878 ?_
    refine Xg_pos (lg_cmp (lTf f (some r) 0) (i_l v) = 0) (by rw [e4 r rfl]; exact l_cmp0 _) ?_
    refine x_if_eq (pc := 879) (t := 884) g dL_law_879 (by decide) ?_ x_none
    exact x_goto (pc := 884) (t := 1463) g dL_law_884 (by decide) (x_sub [2, 3, 4, 5, 6] (kk E g cn) rfl)
theorem lw_spots (g : xGood E l0 GC.1 RXL cL_law yL_law 7 (some .boolean) room_1) (cn : xCntL E ce0 sl0 (lA0 sz b L xs)) (hW : WC GC) (hM : WM GM) (hgm : GC.1 = GM.1) (hL : L ≤ 3072) (hi : 6 * i + 6 ≤ L) {v : Int32} (e1 : O_spots mC = some (v, mC')) (e2 : M_spots mM = some (v, mM')) (kk : Xg E (lFin E mc ms) 1463 (lLv GC GM out b i) [] (lwd GC GM out mC' mM' f) res) : Xg E (lFin E mc ms) 887 (lLv GC GM out b i) [] (lwd GC GM out mC mM f) res := by
  refine x_aload_n (pc := 887) (i := 1) (a := 3) g dL_law_887 rfl rfl ?_
  refine l_invC (pc := 888) (k := 0) (o := (some (.int v), mC')) (as := []) (st := []) g hW (by have h := c_O_spots l0 GC hW mC; rw [e1] at h; exact h) dL_law_888 ml_L_105 (sOwlsLent isOwlsLent_0) rfl rfl (Nat.le_of_ble_eq_true rfl) ⟨rfl, rfl, Nat.le_of_ble_eq_true rfl, Nat.le_of_ble_eq_true rfl⟩ ?_
  refine x_aload_n (pc := 891) (i := 2) (a := 2) g dL_law_891 rfl rfl ?_
  refine l_invM (pc := 892) (k := 0) (o := (some (.int v), mM')) (as := []) (st := [.int v]) (hgm ▸ g) hM (by have h := c_M_spots l0 GM hM mM; rw [e2] at h; exact h) dL_law_892 ml_L_108 sm_0 rfl rfl (Nat.le_of_ble_eq_true rfl) ⟨rfl, rfl, Nat.le_of_ble_eq_true rfl, Nat.le_of_ble_eq_true rfl⟩ ?_
  refine Xg_pos (v = v) rfl ?_
  exact x_icmp_eq (pc := 895) (t := 1463) g dL_law_895 (by decide) kk x_none
theorem lw_spotAt (g : xGood E l0 GC.1 RXL cL_law yL_law 7 (some .boolean) room_1) (cn : xCntL E ce0 sl0 (lA0 sz b L xs)) (hW : WC GC) (hM : WM GM) (hgm : GC.1 = GM.1) (hL : L ≤ 3072) (hi : 6 * i + 6 ≤ L) {v : Int32} (e1 : O_spotAt mC (xs (6 * i + 1)) = some v) (e2 : M_spotAt mM (xs (6 * i + 1)) = some (v, mM')) (kk : Xg E (lFin E mc ms) 1463 (lLv GC GM out b i) [] (lwd GC GM out mC mM' f) res) : Xg E (lFin E mc ms) 900 (lLv GC GM out b i) [] (lwd GC GM out mC mM f) res := by
  refine x_aload_n (pc := 900) (i := 1) (a := 3) g dL_law_900 rfl rfl ?_
  refine l_pick (pc := 901) (k := 1) (a0 := 4) (a4 := 0) g cn rfl rfl ic_1 (by decide) (by decide) hL hi dL_law_901 dL_law_902 dL_law_904 dL_law_905 dL_law_906 ?_
  refine l_invC (pc := 907) (k := 0) (o := (some (.int v), mC)) (as := [.int (xs (6 * i + 1))]) (st := []) g hW (by have h := c_O_spotAt l0 GC hW mC (xs (6 * i + 1)); rw [e1] at h; exact h) dL_law_907 ml_L_109 (sOwlsLent isOwlsLent_0) rfl rfl (Nat.le_of_ble_eq_true rfl) ⟨rfl, rfl, Nat.le_of_ble_eq_true rfl, Nat.le_of_ble_eq_true rfl⟩ ?_
  refine x_aload_n (pc := 910) (i := 2) (a := 2) g dL_law_910 rfl rfl ?_
  refine l_pick (pc := 911) (k := 1) (a0 := 4) (a4 := 0) g cn rfl rfl ic_1 (by decide) (by decide) hL hi dL_law_911 dL_law_912 dL_law_914 dL_law_915 dL_law_916 ?_
  refine l_invM (pc := 917) (k := 0) (o := (some (.int v), mM')) (as := [.int (xs (6 * i + 1))]) (st := [.int v]) (hgm ▸ g) hM (by have h := c_M_spotAt l0 GM hM mM (xs (6 * i + 1)); rw [e2] at h; exact h) dL_law_917 ml_L_112 sm_0 rfl rfl (Nat.le_of_ble_eq_true rfl) ⟨rfl, rfl, Nat.le_of_ble_eq_true rfl, Nat.le_of_ble_eq_true rfl⟩ ?_
  refine Xg_pos (v = v) rfl ?_
  exact x_icmp_eq (pc := 920) (t := 1463) g dL_law_920 (by decide) kk x_none
theorem lw_next (g : xGood E l0 GC.1 RXL cL_law yL_law 7 (some .boolean) room_1) (cn : xCntL E ce0 sl0 (lA0 sz b L xs)) (hW : WC GC) (hM : WM GM) (hgm : GC.1 = GM.1) (hL : L ≤ 3072) (hi : 6 * i + 6 ≤ L) {v : Int32} (e1 : O_next mC = some v) (e2 : M_next mM = some (v, mM')) (kk : Xg E (lFin E mc ms) 1463 (lLv GC GM out b i) [] (lwd GC GM out mC mM' f) res) : Xg E (lFin E mc ms) 925 (lLv GC GM out b i) [] (lwd GC GM out mC mM f) res := by
  refine x_aload_n (pc := 925) (i := 1) (a := 3) g dL_law_925 rfl rfl ?_
  refine l_invC (pc := 926) (k := 0) (o := (some (.int v), mC)) (as := []) (st := []) g hW (by have h := c_O_next l0 GC hW mC; rw [e1] at h; exact h) dL_law_926 ml_L_113 (sOwlsLent isOwlsLent_0) rfl rfl (Nat.le_of_ble_eq_true rfl) ⟨rfl, rfl, Nat.le_of_ble_eq_true rfl, Nat.le_of_ble_eq_true rfl⟩ ?_
  refine x_aload_n (pc := 929) (i := 2) (a := 2) g dL_law_929 rfl rfl ?_
  refine l_invM (pc := 930) (k := 0) (o := (some (.int v), mM')) (as := []) (st := [.int v]) (hgm ▸ g) hM (by have h := c_M_next l0 GM hM mM; rw [e2] at h; exact h) dL_law_930 ml_L_116 sm_0 rfl rfl (Nat.le_of_ble_eq_true rfl) ⟨rfl, rfl, Nat.le_of_ble_eq_true rfl, Nat.le_of_ble_eq_true rfl⟩ ?_
  refine Xg_pos (v = v) rfl ?_
  exact x_icmp_eq (pc := 933) (t := 1463) g dL_law_933 (by decide) kk x_none
theorem lw_keen (g : xGood E l0 GC.1 RXL cL_law yL_law 7 (some .boolean) room_1) (cn : xCntL E ce0 sl0 (lA0 sz b L xs)) (hW : WC GC) (hM : WM GM) (hgm : GC.1 = GM.1) (hL : L ≤ 3072) (hi : 6 * i + 6 ≤ L) {v : Int32} (e1 : O_keen mC = some (v, mC')) (e2 : M_keen mM = some (v, mM')) (kk : Xg E (lFin E mc ms) 1463 (lLv GC GM out b i) [] (lwd GC GM out mC' mM' f) res) : Xg E (lFin E mc ms) 938 (lLv GC GM out b i) [] (lwd GC GM out mC mM f) res := by
  refine x_aload_n (pc := 938) (i := 1) (a := 3) g dL_law_938 rfl rfl ?_
  refine l_invC (pc := 939) (k := 0) (o := (some (.int v), mC')) (as := []) (st := []) g hW (by have h := c_O_keen l0 GC hW mC; rw [e1] at h; exact h) dL_law_939 ml_L_117 (sOwlsLent isOwlsLent_0) rfl rfl (Nat.le_of_ble_eq_true rfl) ⟨rfl, rfl, Nat.le_of_ble_eq_true rfl, Nat.le_of_ble_eq_true rfl⟩ ?_
  refine x_aload_n (pc := 942) (i := 2) (a := 2) g dL_law_942 rfl rfl ?_
  refine l_invM (pc := 943) (k := 0) (o := (some (.int v), mM')) (as := []) (st := [.int v]) (hgm ▸ g) hM (by have h := c_M_keen l0 GM hM mM; rw [e2] at h; exact h) dL_law_943 ml_L_120 sm_0 rfl rfl (Nat.le_of_ble_eq_true rfl) ⟨rfl, rfl, Nat.le_of_ble_eq_true rfl, Nat.le_of_ble_eq_true rfl⟩ ?_
  refine Xg_pos (v = v) rfl ?_
  exact x_icmp_eq (pc := 946) (t := 1463) g dL_law_946 (by decide) kk x_none
theorem lw_keenLeast (g : xGood E l0 GC.1 RXL cL_law yL_law 7 (some .boolean) room_1) (cn : xCntL E ce0 sl0 (lA0 sz b L xs)) (hW : WC GC) (hM : WM GM) (hgm : GC.1 = GM.1) (hL : L ≤ 3072) (hi : 6 * i + 6 ≤ L) {v : Int32} (e1 : O_keenLeast mC = some v) (e2 : M_keenLeast mM = some (v, mM')) (kk : Xg E (lFin E mc ms) 1463 (lLv GC GM out b i) [] (lwd GC GM out mC mM' f) res) : Xg E (lFin E mc ms) 951 (lLv GC GM out b i) [] (lwd GC GM out mC mM f) res := by
  refine x_aload_n (pc := 951) (i := 1) (a := 3) g dL_law_951 rfl rfl ?_
  refine l_invC (pc := 952) (k := 0) (o := (some (.int v), mC)) (as := []) (st := []) g hW (by have h := c_O_keenLeast l0 GC hW mC; rw [e1] at h; exact h) dL_law_952 ml_L_121 (sOwlsLent isOwlsLent_0) rfl rfl (Nat.le_of_ble_eq_true rfl) ⟨rfl, rfl, Nat.le_of_ble_eq_true rfl, Nat.le_of_ble_eq_true rfl⟩ ?_
  refine x_aload_n (pc := 955) (i := 2) (a := 2) g dL_law_955 rfl rfl ?_
  refine l_invM (pc := 956) (k := 0) (o := (some (.int v), mM')) (as := []) (st := [.int v]) (hgm ▸ g) hM (by have h := c_M_keenLeast l0 GM hM mM; rw [e2] at h; exact h) dL_law_956 ml_L_124 sm_0 rfl rfl (Nat.le_of_ble_eq_true rfl) ⟨rfl, rfl, Nat.le_of_ble_eq_true rfl, Nat.le_of_ble_eq_true rfl⟩ ?_
  refine Xg_pos (v = v) rfl ?_
  exact x_icmp_eq (pc := 959) (t := 1463) g dL_law_959 (by decide) kk x_none
theorem lw_keenMost (g : xGood E l0 GC.1 RXL cL_law yL_law 7 (some .boolean) room_1) (cn : xCntL E ce0 sl0 (lA0 sz b L xs)) (hW : WC GC) (hM : WM GM) (hgm : GC.1 = GM.1) (hL : L ≤ 3072) (hi : 6 * i + 6 ≤ L) {v : Int32} (e1 : O_keenMost mC = some v) (e2 : M_keenMost mM = some (v, mM')) (kk : Xg E (lFin E mc ms) 1463 (lLv GC GM out b i) [] (lwd GC GM out mC mM' f) res) : Xg E (lFin E mc ms) 964 (lLv GC GM out b i) [] (lwd GC GM out mC mM f) res := by
  refine x_aload_n (pc := 964) (i := 1) (a := 3) g dL_law_964 rfl rfl ?_
  refine l_invC (pc := 965) (k := 0) (o := (some (.int v), mC)) (as := []) (st := []) g hW (by have h := c_O_keenMost l0 GC hW mC; rw [e1] at h; exact h) dL_law_965 ml_L_125 (sOwlsLent isOwlsLent_0) rfl rfl (Nat.le_of_ble_eq_true rfl) ⟨rfl, rfl, Nat.le_of_ble_eq_true rfl, Nat.le_of_ble_eq_true rfl⟩ ?_
  refine x_aload_n (pc := 968) (i := 2) (a := 2) g dL_law_968 rfl rfl ?_
  refine l_invM (pc := 969) (k := 0) (o := (some (.int v), mM')) (as := []) (st := [.int v]) (hgm ▸ g) hM (by have h := c_M_keenMost l0 GM hM mM; rw [e2] at h; exact h) dL_law_969 ml_L_128 sm_0 rfl rfl (Nat.le_of_ble_eq_true rfl) ⟨rfl, rfl, Nat.le_of_ble_eq_true rfl, Nat.le_of_ble_eq_true rfl⟩ ?_
  refine Xg_pos (v = v) rfl ?_
  exact x_icmp_eq (pc := 972) (t := 1463) g dL_law_972 (by decide) kk x_none
theorem lw_best (g : xGood E l0 GC.1 RXL cL_law yL_law 7 (some .boolean) room_1) (cn : xCntL E ce0 sl0 (lA0 sz b L xs)) (hW : WC GC) (hM : WM GM) (hgm : GC.1 = GM.1) (hL : L ≤ 3072) (hi : 6 * i + 6 ≤ L) {v : Int32} (e1 : O_best mC = some (v, mC')) (e2 : M_best mM = some (v, mM')) (kk : Xg E (lFin E mc ms) 1463 (lLv GC GM out b i) [] (lwd GC GM out mC' mM' f) res) : Xg E (lFin E mc ms) 977 (lLv GC GM out b i) [] (lwd GC GM out mC mM f) res := by
  refine x_aload_n (pc := 977) (i := 1) (a := 3) g dL_law_977 rfl rfl ?_
  refine l_invC (pc := 978) (k := 0) (o := (some (.int v), mC')) (as := []) (st := []) g hW (by have h := c_O_best l0 GC hW mC; rw [e1] at h; exact h) dL_law_978 ml_L_129 (sOwlsLent isOwlsLent_0) rfl rfl (Nat.le_of_ble_eq_true rfl) ⟨rfl, rfl, Nat.le_of_ble_eq_true rfl, Nat.le_of_ble_eq_true rfl⟩ ?_
  refine x_aload_n (pc := 981) (i := 2) (a := 2) g dL_law_981 rfl rfl ?_
  refine l_invM (pc := 982) (k := 0) (o := (some (.int v), mM')) (as := []) (st := [.int v]) (hgm ▸ g) hM (by have h := c_M_best l0 GM hM mM; rw [e2] at h; exact h) dL_law_982 ml_L_132 sm_0 rfl rfl (Nat.le_of_ble_eq_true rfl) ⟨rfl, rfl, Nat.le_of_ble_eq_true rfl, Nat.le_of_ble_eq_true rfl⟩ ?_
  refine Xg_pos (v = v) rfl ?_
  exact x_icmp_eq (pc := 985) (t := 1463) g dL_law_985 (by decide) kk x_none
theorem lw_bestAt (g : xGood E l0 GC.1 RXL cL_law yL_law 7 (some .boolean) room_1) (cn : xCntL E ce0 sl0 (lA0 sz b L xs)) (hW : WC GC) (hM : WM GM) (hgm : GC.1 = GM.1) (hL : L ≤ 3072) (hi : 6 * i + 6 ≤ L) {v : Int32} (e1 : O_bestAt mC (xs (6 * i + 1)) = some v) (e2 : M_bestAt mM (xs (6 * i + 1)) = some (v, mM')) (kk : Xg E (lFin E mc ms) 1463 (lLv GC GM out b i) [] (lwd GC GM out mC mM' f) res) : Xg E (lFin E mc ms) 990 (lLv GC GM out b i) [] (lwd GC GM out mC mM f) res := by
  refine x_aload_n (pc := 990) (i := 1) (a := 3) g dL_law_990 rfl rfl ?_
  refine l_pick (pc := 991) (k := 1) (a0 := 4) (a4 := 0) g cn rfl rfl ic_1 (by decide) (by decide) hL hi dL_law_991 dL_law_992 dL_law_994 dL_law_995 dL_law_996 ?_
  refine l_invC (pc := 997) (k := 0) (o := (some (.int v), mC)) (as := [.int (xs (6 * i + 1))]) (st := []) g hW (by have h := c_O_bestAt l0 GC hW mC (xs (6 * i + 1)); rw [e1] at h; exact h) dL_law_997 ml_L_133 (sOwlsLent isOwlsLent_0) rfl rfl (Nat.le_of_ble_eq_true rfl) ⟨rfl, rfl, Nat.le_of_ble_eq_true rfl, Nat.le_of_ble_eq_true rfl⟩ ?_
  refine x_aload_n (pc := 1000) (i := 2) (a := 2) g dL_law_1000 rfl rfl ?_
  refine l_pick (pc := 1001) (k := 1) (a0 := 4) (a4 := 0) g cn rfl rfl ic_1 (by decide) (by decide) hL hi dL_law_1001 dL_law_1002 dL_law_1004 dL_law_1005 dL_law_1006 ?_
  refine l_invM (pc := 1007) (k := 0) (o := (some (.int v), mM')) (as := [.int (xs (6 * i + 1))]) (st := [.int v]) (hgm ▸ g) hM (by have h := c_M_bestAt l0 GM hM mM (xs (6 * i + 1)); rw [e2] at h; exact h) dL_law_1007 ml_L_136 sm_0 rfl rfl (Nat.le_of_ble_eq_true rfl) ⟨rfl, rfl, Nat.le_of_ble_eq_true rfl, Nat.le_of_ble_eq_true rfl⟩ ?_
  refine Xg_pos (v = v) rfl ?_
  exact x_icmp_eq (pc := 1010) (t := 1463) g dL_law_1010 (by decide) kk x_none
theorem lw_code (g : xGood E l0 GC.1 RXL cL_law yL_law 7 (some .boolean) room_1) (cn : xCntL E ce0 sl0 (lA0 sz b L xs)) (hW : WC GC) (hM : WM GM) (hgm : GC.1 = GM.1) (hL : L ≤ 3072) (hi : 6 * i + 6 ≤ L) {v : Int32} (e1 : O_code mC (xs (6 * i + 1)) = some (v, mC')) (e2 : M_code mM (xs (6 * i + 1)) = some (v, mM')) (kk : Xg E (lFin E mc ms) 1463 (lLv GC GM out b i) [] (lwd GC GM out mC' mM' f) res) : Xg E (lFin E mc ms) 1015 (lLv GC GM out b i) [] (lwd GC GM out mC mM f) res := by
  refine x_aload_n (pc := 1015) (i := 1) (a := 3) g dL_law_1015 rfl rfl ?_
  refine l_pick (pc := 1016) (k := 1) (a0 := 4) (a4 := 0) g cn rfl rfl ic_1 (by decide) (by decide) hL hi dL_law_1016 dL_law_1017 dL_law_1019 dL_law_1020 dL_law_1021 ?_
  refine l_invC (pc := 1022) (k := 0) (o := (some (.int v), mC')) (as := [.int (xs (6 * i + 1))]) (st := []) g hW (by have h := c_O_code l0 GC hW mC (xs (6 * i + 1)); rw [e1] at h; exact h) dL_law_1022 ml_L_137 (sOwlsLent isOwlsLent_0) rfl rfl (Nat.le_of_ble_eq_true rfl) ⟨rfl, rfl, Nat.le_of_ble_eq_true rfl, Nat.le_of_ble_eq_true rfl⟩ ?_
  refine x_aload_n (pc := 1025) (i := 2) (a := 2) g dL_law_1025 rfl rfl ?_
  refine l_pick (pc := 1026) (k := 1) (a0 := 4) (a4 := 0) g cn rfl rfl ic_1 (by decide) (by decide) hL hi dL_law_1026 dL_law_1027 dL_law_1029 dL_law_1030 dL_law_1031 ?_
  refine l_invM (pc := 1032) (k := 0) (o := (some (.int v), mM')) (as := [.int (xs (6 * i + 1))]) (st := [.int v]) (hgm ▸ g) hM (by have h := c_M_code l0 GM hM mM (xs (6 * i + 1)); rw [e2] at h; exact h) dL_law_1032 ml_L_140 sm_0 rfl rfl (Nat.le_of_ble_eq_true rfl) ⟨rfl, rfl, Nat.le_of_ble_eq_true rfl, Nat.le_of_ble_eq_true rfl⟩ ?_
  refine Xg_pos (v = v) rfl ?_
  exact x_icmp_eq (pc := 1035) (t := 1463) g dL_law_1035 (by decide) kk x_none
theorem lw_codeAt (g : xGood E l0 GC.1 RXL cL_law yL_law 7 (some .boolean) room_1) (cn : xCntL E ce0 sl0 (lA0 sz b L xs)) (hW : WC GC) (hM : WM GM) (hgm : GC.1 = GM.1) (hL : L ≤ 3072) (hi : 6 * i + 6 ≤ L) {v : Int32} (e1 : O_codeAt mC (xs (6 * i + 1)) = some v) (e2 : M_codeAt mM (xs (6 * i + 1)) = some (v, mM')) (kk : Xg E (lFin E mc ms) 1463 (lLv GC GM out b i) [] (lwd GC GM out mC mM' f) res) : Xg E (lFin E mc ms) 1040 (lLv GC GM out b i) [] (lwd GC GM out mC mM f) res := by
  refine x_aload_n (pc := 1040) (i := 1) (a := 3) g dL_law_1040 rfl rfl ?_
  refine l_pick (pc := 1041) (k := 1) (a0 := 4) (a4 := 0) g cn rfl rfl ic_1 (by decide) (by decide) hL hi dL_law_1041 dL_law_1042 dL_law_1044 dL_law_1045 dL_law_1046 ?_
  refine l_invC (pc := 1047) (k := 0) (o := (some (.int v), mC)) (as := [.int (xs (6 * i + 1))]) (st := []) g hW (by have h := c_O_codeAt l0 GC hW mC (xs (6 * i + 1)); rw [e1] at h; exact h) dL_law_1047 ml_L_141 (sOwlsLent isOwlsLent_0) rfl rfl (Nat.le_of_ble_eq_true rfl) ⟨rfl, rfl, Nat.le_of_ble_eq_true rfl, Nat.le_of_ble_eq_true rfl⟩ ?_
  refine x_aload_n (pc := 1050) (i := 2) (a := 2) g dL_law_1050 rfl rfl ?_
  refine l_pick (pc := 1051) (k := 1) (a0 := 4) (a4 := 0) g cn rfl rfl ic_1 (by decide) (by decide) hL hi dL_law_1051 dL_law_1052 dL_law_1054 dL_law_1055 dL_law_1056 ?_
  refine l_invM (pc := 1057) (k := 0) (o := (some (.int v), mM')) (as := [.int (xs (6 * i + 1))]) (st := [.int v]) (hgm ▸ g) hM (by have h := c_M_codeAt l0 GM hM mM (xs (6 * i + 1)); rw [e2] at h; exact h) dL_law_1057 ml_L_144 sm_0 rfl rfl (Nat.le_of_ble_eq_true rfl) ⟨rfl, rfl, Nat.le_of_ble_eq_true rfl, Nat.le_of_ble_eq_true rfl⟩ ?_
  refine Xg_pos (v = v) rfl ?_
  exact x_icmp_eq (pc := 1060) (t := 1463) g dL_law_1060 (by decide) kk x_none
theorem lw_duel (g : xGood E l0 GC.1 RXL cL_law yL_law 7 (some .boolean) room_1) (cn : xCntL E ce0 sl0 (lA0 sz b L xs)) (hW : WC GC) (hM : WM GM) (hgm : GC.1 = GM.1) (hL : L ≤ 3072) (hi : 6 * i + 6 ≤ L) {v : Int32} (e1 : O_duel mC (xs (6 * i + 1)) (xs (6 * i + 2)) (xs (6 * i + 3)) = some (v, mC')) (e2 : M_duel mM (xs (6 * i + 1)) (xs (6 * i + 2)) (xs (6 * i + 3)) = some (v, mM')) (kk : Xg E (lFin E mc ms) 1463 (lLv GC GM out b i) [] (lwd GC GM out mC' mM' f) res) : Xg E (lFin E mc ms) 1065 (lLv GC GM out b i) [] (lwd GC GM out mC mM f) res := by
  refine x_aload_n (pc := 1065) (i := 1) (a := 3) g dL_law_1065 rfl rfl ?_
  refine l_pick (pc := 1066) (k := 1) (a0 := 4) (a4 := 0) g cn rfl rfl ic_1 (by decide) (by decide) hL hi dL_law_1066 dL_law_1067 dL_law_1069 dL_law_1070 dL_law_1071 ?_
  refine l_pick (pc := 1072) (k := 2) (a0 := 4) (a4 := 0) g cn rfl rfl ic_2 (by decide) (by decide) hL hi dL_law_1072 dL_law_1073 dL_law_1075 dL_law_1076 dL_law_1077 ?_
  refine l_pick (pc := 1078) (k := 3) (a0 := 4) (a4 := 0) g cn rfl rfl ic_3 (by decide) (by decide) hL hi dL_law_1078 dL_law_1079 dL_law_1081 dL_law_1082 dL_law_1083 ?_
  refine l_invC (pc := 1084) (k := 0) (o := (some (.int v), mC')) (as := [.int (xs (6 * i + 1)), .int (xs (6 * i + 2)), .int (xs (6 * i + 3))]) (st := []) g hW (by have h := c_O_duel l0 GC hW mC (xs (6 * i + 1)) (xs (6 * i + 2)) (xs (6 * i + 3)); rw [e1] at h; exact h) dL_law_1084 ml_L_145 (sOwlsLent isOwlsLent_0) rfl rfl (Nat.le_of_ble_eq_true rfl) ⟨rfl, rfl, Nat.le_of_ble_eq_true rfl, Nat.le_of_ble_eq_true rfl⟩ ?_
  refine x_aload_n (pc := 1087) (i := 2) (a := 2) g dL_law_1087 rfl rfl ?_
  refine l_pick (pc := 1088) (k := 1) (a0 := 4) (a4 := 0) g cn rfl rfl ic_1 (by decide) (by decide) hL hi dL_law_1088 dL_law_1089 dL_law_1091 dL_law_1092 dL_law_1093 ?_
  refine l_pick (pc := 1094) (k := 2) (a0 := 4) (a4 := 0) g cn rfl rfl ic_2 (by decide) (by decide) hL hi dL_law_1094 dL_law_1095 dL_law_1097 dL_law_1098 dL_law_1099 ?_
  refine l_pick (pc := 1100) (k := 3) (a0 := 4) (a4 := 0) g cn rfl rfl ic_3 (by decide) (by decide) hL hi dL_law_1100 dL_law_1101 dL_law_1103 dL_law_1104 dL_law_1105 ?_
  refine l_invM (pc := 1106) (k := 0) (o := (some (.int v), mM')) (as := [.int (xs (6 * i + 1)), .int (xs (6 * i + 2)), .int (xs (6 * i + 3))]) (st := [.int v]) (hgm ▸ g) hM (by have h := c_M_duel l0 GM hM mM (xs (6 * i + 1)) (xs (6 * i + 2)) (xs (6 * i + 3)); rw [e2] at h; exact h) dL_law_1106 ml_L_148 sm_0 rfl rfl (Nat.le_of_ble_eq_true rfl) ⟨rfl, rfl, Nat.le_of_ble_eq_true rfl, Nat.le_of_ble_eq_true rfl⟩ ?_
  refine Xg_pos (v = v) rfl ?_
  exact x_icmp_eq (pc := 1109) (t := 1463) g dL_law_1109 (by decide) kk x_none
theorem lw_duelAt (g : xGood E l0 GC.1 RXL cL_law yL_law 7 (some .boolean) room_1) (cn : xCntL E ce0 sl0 (lA0 sz b L xs)) (hW : WC GC) (hM : WM GM) (hgm : GC.1 = GM.1) (hL : L ≤ 3072) (hi : 6 * i + 6 ≤ L) {v : Int32} (e1 : O_duelAt mC = some v) (e2 : M_duelAt mM = some (v, mM')) (kk : Xg E (lFin E mc ms) 1463 (lLv GC GM out b i) [] (lwd GC GM out mC mM' f) res) : Xg E (lFin E mc ms) 1114 (lLv GC GM out b i) [] (lwd GC GM out mC mM f) res := by
  refine x_aload_n (pc := 1114) (i := 1) (a := 3) g dL_law_1114 rfl rfl ?_
  refine l_invC (pc := 1115) (k := 0) (o := (some (.int v), mC)) (as := []) (st := []) g hW (by have h := c_O_duelAt l0 GC hW mC; rw [e1] at h; exact h) dL_law_1115 ml_L_149 (sOwlsLent isOwlsLent_0) rfl rfl (Nat.le_of_ble_eq_true rfl) ⟨rfl, rfl, Nat.le_of_ble_eq_true rfl, Nat.le_of_ble_eq_true rfl⟩ ?_
  refine x_aload_n (pc := 1118) (i := 2) (a := 2) g dL_law_1118 rfl rfl ?_
  refine l_invM (pc := 1119) (k := 0) (o := (some (.int v), mM')) (as := []) (st := [.int v]) (hgm ▸ g) hM (by have h := c_M_duelAt l0 GM hM mM; rw [e2] at h; exact h) dL_law_1119 ml_L_152 sm_0 rfl rfl (Nat.le_of_ble_eq_true rfl) ⟨rfl, rfl, Nat.le_of_ble_eq_true rfl, Nat.le_of_ble_eq_true rfl⟩ ?_
  refine Xg_pos (v = v) rfl ?_
  exact x_icmp_eq (pc := 1122) (t := 1463) g dL_law_1122 (by decide) kk x_none
theorem lw_worth (g : xGood E l0 GC.1 RXL cL_law yL_law 7 (some .boolean) room_1) (cn : xCntL E ce0 sl0 (lA0 sz b L xs)) (hW : WC GC) (hM : WM GM) (hgm : GC.1 = GM.1) (hL : L ≤ 3072) (hi : 6 * i + 6 ≤ L) {v : Int32} (e1 : O_worth mC (xs (6 * i + 1)) (xs (6 * i + 2)) = some v) (e2 : M_worth mM (xs (6 * i + 1)) (xs (6 * i + 2)) = some (v, mM')) (kk : Xg E (lFin E mc ms) 1463 (lLv GC GM out b i) [] (lwd GC GM out mC mM' f) res) : Xg E (lFin E mc ms) 1127 (lLv GC GM out b i) [] (lwd GC GM out mC mM f) res := by
  refine x_aload_n (pc := 1127) (i := 1) (a := 3) g dL_law_1127 rfl rfl ?_
  refine l_pick (pc := 1128) (k := 1) (a0 := 4) (a4 := 0) g cn rfl rfl ic_1 (by decide) (by decide) hL hi dL_law_1128 dL_law_1129 dL_law_1131 dL_law_1132 dL_law_1133 ?_
  refine l_pick (pc := 1134) (k := 2) (a0 := 4) (a4 := 0) g cn rfl rfl ic_2 (by decide) (by decide) hL hi dL_law_1134 dL_law_1135 dL_law_1137 dL_law_1138 dL_law_1139 ?_
  refine l_invC (pc := 1140) (k := 0) (o := (some (.int v), mC)) (as := [.int (xs (6 * i + 1)), .int (xs (6 * i + 2))]) (st := []) g hW (by have h := c_O_worth l0 GC hW mC (xs (6 * i + 1)) (xs (6 * i + 2)); rw [e1] at h; exact h) dL_law_1140 ml_L_153 (sOwlsLent isOwlsLent_0) rfl rfl (Nat.le_of_ble_eq_true rfl) ⟨rfl, rfl, Nat.le_of_ble_eq_true rfl, Nat.le_of_ble_eq_true rfl⟩ ?_
  refine x_aload_n (pc := 1143) (i := 2) (a := 2) g dL_law_1143 rfl rfl ?_
  refine l_pick (pc := 1144) (k := 1) (a0 := 4) (a4 := 0) g cn rfl rfl ic_1 (by decide) (by decide) hL hi dL_law_1144 dL_law_1145 dL_law_1147 dL_law_1148 dL_law_1149 ?_
  refine l_pick (pc := 1150) (k := 2) (a0 := 4) (a4 := 0) g cn rfl rfl ic_2 (by decide) (by decide) hL hi dL_law_1150 dL_law_1151 dL_law_1153 dL_law_1154 dL_law_1155 ?_
  refine l_invM (pc := 1156) (k := 0) (o := (some (.int v), mM')) (as := [.int (xs (6 * i + 1)), .int (xs (6 * i + 2))]) (st := [.int v]) (hgm ▸ g) hM (by have h := c_M_worth l0 GM hM mM (xs (6 * i + 1)) (xs (6 * i + 2)); rw [e2] at h; exact h) dL_law_1156 ml_L_156 sm_0 rfl rfl (Nat.le_of_ble_eq_true rfl) ⟨rfl, rfl, Nat.le_of_ble_eq_true rfl, Nat.le_of_ble_eq_true rfl⟩ ?_
  refine Xg_pos (v = v) rfl ?_
  exact x_icmp_eq (pc := 1159) (t := 1463) g dL_law_1159 (by decide) kk x_none
theorem lw_note (g : xGood E l0 GC.1 RXL cL_law yL_law 7 (some .boolean) room_1) (cn : xCntL E ce0 sl0 (lA0 sz b L xs)) (hW : WC GC) (hM : WM GM) (hgm : GC.1 = GM.1) (hL : L ≤ 3072) (hi : 6 * i + 6 ≤ L) {v : Int32} (e1 : O_note mC (xs (6 * i + 1)) = some (v, mC')) (e2 : M_note mM (xs (6 * i + 1)) = some (v, mM')) (kk : Xg E (lFin E mc ms) 1463 (lLv GC GM out b i) [] (lwd GC GM out mC' mM' f) res) : Xg E (lFin E mc ms) 1164 (lLv GC GM out b i) [] (lwd GC GM out mC mM f) res := by
  refine x_aload_n (pc := 1164) (i := 1) (a := 3) g dL_law_1164 rfl rfl ?_
  refine l_pick (pc := 1165) (k := 1) (a0 := 4) (a4 := 0) g cn rfl rfl ic_1 (by decide) (by decide) hL hi dL_law_1165 dL_law_1166 dL_law_1168 dL_law_1169 dL_law_1170 ?_
  refine l_invC (pc := 1171) (k := 0) (o := (some (.int v), mC')) (as := [.int (xs (6 * i + 1))]) (st := []) g hW (by have h := c_O_note l0 GC hW mC (xs (6 * i + 1)); rw [e1] at h; exact h) dL_law_1171 ml_L_157 (sOwlsLent isOwlsLent_0) rfl rfl (Nat.le_of_ble_eq_true rfl) ⟨rfl, rfl, Nat.le_of_ble_eq_true rfl, Nat.le_of_ble_eq_true rfl⟩ ?_
  refine x_aload_n (pc := 1174) (i := 2) (a := 2) g dL_law_1174 rfl rfl ?_
  refine l_pick (pc := 1175) (k := 1) (a0 := 4) (a4 := 0) g cn rfl rfl ic_1 (by decide) (by decide) hL hi dL_law_1175 dL_law_1176 dL_law_1178 dL_law_1179 dL_law_1180 ?_
  refine l_invM (pc := 1181) (k := 0) (o := (some (.int v), mM')) (as := [.int (xs (6 * i + 1))]) (st := [.int v]) (hgm ▸ g) hM (by have h := c_M_note l0 GM hM mM (xs (6 * i + 1)); rw [e2] at h; exact h) dL_law_1181 ml_L_160 sm_0 rfl rfl (Nat.le_of_ble_eq_true rfl) ⟨rfl, rfl, Nat.le_of_ble_eq_true rfl, Nat.le_of_ble_eq_true rfl⟩ ?_
  refine Xg_pos (v = v) rfl ?_
  exact x_icmp_eq (pc := 1184) (t := 1463) g dL_law_1184 (by decide) kk x_none
theorem lw_byteAt (g : xGood E l0 GC.1 RXL cL_law yL_law 7 (some .boolean) room_1) (cn : xCntL E ce0 sl0 (lA0 sz b L xs)) (hW : WC GC) (hM : WM GM) (hgm : GC.1 = GM.1) (hL : L ≤ 3072) (hi : 6 * i + 6 ≤ L) {v : Int32} (e1 : O_byteAt mC (xs (6 * i + 1)) = some v) (e2 : M_byteAt mM (xs (6 * i + 1)) = some (v, mM')) (kk : Xg E (lFin E mc ms) 1463 (lLv GC GM out b i) [] (lwd GC GM out mC mM' f) res) : Xg E (lFin E mc ms) 1189 (lLv GC GM out b i) [] (lwd GC GM out mC mM f) res := by
  refine x_aload_n (pc := 1189) (i := 1) (a := 3) g dL_law_1189 rfl rfl ?_
  refine l_pick (pc := 1190) (k := 1) (a0 := 4) (a4 := 0) g cn rfl rfl ic_1 (by decide) (by decide) hL hi dL_law_1190 dL_law_1191 dL_law_1193 dL_law_1194 dL_law_1195 ?_
  refine l_invC (pc := 1196) (k := 0) (o := (some (.int v), mC)) (as := [.int (xs (6 * i + 1))]) (st := []) g hW (by have h := c_O_byteAt l0 GC hW mC (xs (6 * i + 1)); rw [e1] at h; exact h) dL_law_1196 ml_L_161 (sOwlsLent isOwlsLent_0) rfl rfl (Nat.le_of_ble_eq_true rfl) ⟨rfl, rfl, Nat.le_of_ble_eq_true rfl, Nat.le_of_ble_eq_true rfl⟩ ?_
  refine x_aload_n (pc := 1199) (i := 2) (a := 2) g dL_law_1199 rfl rfl ?_
  refine l_pick (pc := 1200) (k := 1) (a0 := 4) (a4 := 0) g cn rfl rfl ic_1 (by decide) (by decide) hL hi dL_law_1200 dL_law_1201 dL_law_1203 dL_law_1204 dL_law_1205 ?_
  refine l_invM (pc := 1206) (k := 0) (o := (some (.int v), mM')) (as := [.int (xs (6 * i + 1))]) (st := [.int v]) (hgm ▸ g) hM (by have h := c_M_byteAt l0 GM hM mM (xs (6 * i + 1)); rw [e2] at h; exact h) dL_law_1206 ml_L_164 sm_0 rfl rfl (Nat.le_of_ble_eq_true rfl) ⟨rfl, rfl, Nat.le_of_ble_eq_true rfl, Nat.le_of_ble_eq_true rfl⟩ ?_
  refine Xg_pos (v = v) rfl ?_
  exact x_icmp_eq (pc := 1209) (t := 1463) g dL_law_1209 (by decide) kk x_none
theorem lw_drawn (g : xGood E l0 GC.1 RXL cL_law yL_law 7 (some .boolean) room_1) (cn : xCntL E ce0 sl0 (lA0 sz b L xs)) (hW : WC GC) (hM : WM GM) (hgm : GC.1 = GM.1) (hL : L ≤ 3072) (hi : 6 * i + 6 ≤ L) {v : Int32} (e1 : O_drawn mC (xs (6 * i + 1)) (xs (6 * i + 2)) = some (v, mC')) (e2 : M_drawn mM (xs (6 * i + 1)) (xs (6 * i + 2)) = some (v, mM')) (kk : Xg E (lFin E mc ms) 1463 (lLv GC GM out b i) [] (lwd GC GM out mC' mM' f) res) : Xg E (lFin E mc ms) 1214 (lLv GC GM out b i) [] (lwd GC GM out mC mM f) res := by
  refine x_aload_n (pc := 1214) (i := 1) (a := 3) g dL_law_1214 rfl rfl ?_
  refine l_pick (pc := 1215) (k := 1) (a0 := 4) (a4 := 0) g cn rfl rfl ic_1 (by decide) (by decide) hL hi dL_law_1215 dL_law_1216 dL_law_1218 dL_law_1219 dL_law_1220 ?_
  refine l_pick (pc := 1221) (k := 2) (a0 := 4) (a4 := 0) g cn rfl rfl ic_2 (by decide) (by decide) hL hi dL_law_1221 dL_law_1222 dL_law_1224 dL_law_1225 dL_law_1226 ?_
  refine l_invC (pc := 1227) (k := 0) (o := (some (.int v), mC')) (as := [.int (xs (6 * i + 1)), .int (xs (6 * i + 2))]) (st := []) g hW (by have h := c_O_drawn l0 GC hW mC (xs (6 * i + 1)) (xs (6 * i + 2)); rw [e1] at h; exact h) dL_law_1227 ml_L_165 (sOwlsLent isOwlsLent_0) rfl rfl (Nat.le_of_ble_eq_true rfl) ⟨rfl, rfl, Nat.le_of_ble_eq_true rfl, Nat.le_of_ble_eq_true rfl⟩ ?_
  refine x_aload_n (pc := 1230) (i := 2) (a := 2) g dL_law_1230 rfl rfl ?_
  refine l_pick (pc := 1231) (k := 1) (a0 := 4) (a4 := 0) g cn rfl rfl ic_1 (by decide) (by decide) hL hi dL_law_1231 dL_law_1232 dL_law_1234 dL_law_1235 dL_law_1236 ?_
  refine l_pick (pc := 1237) (k := 2) (a0 := 4) (a4 := 0) g cn rfl rfl ic_2 (by decide) (by decide) hL hi dL_law_1237 dL_law_1238 dL_law_1240 dL_law_1241 dL_law_1242 ?_
  refine l_invM (pc := 1243) (k := 0) (o := (some (.int v), mM')) (as := [.int (xs (6 * i + 1)), .int (xs (6 * i + 2))]) (st := [.int v]) (hgm ▸ g) hM (by have h := c_M_drawn l0 GM hM mM (xs (6 * i + 1)) (xs (6 * i + 2)); rw [e2] at h; exact h) dL_law_1243 ml_L_168 sm_0 rfl rfl (Nat.le_of_ble_eq_true rfl) ⟨rfl, rfl, Nat.le_of_ble_eq_true rfl, Nat.le_of_ble_eq_true rfl⟩ ?_
  refine Xg_pos (v = v) rfl ?_
  exact x_icmp_eq (pc := 1246) (t := 1463) g dL_law_1246 (by decide) kk x_none
theorem lw_odds (g : xGood E l0 GC.1 RXL cL_law yL_law 7 (some .boolean) room_1) (cn : xCntL E ce0 sl0 (lA0 sz b L xs)) (hW : WC GC) (hM : WM GM) (hgm : GC.1 = GM.1) (hL : L ≤ 3072) (hi : 6 * i + 6 ≤ L) {v : Int32} (e1 : O_odds mC (xs (6 * i + 1)) (xs (6 * i + 2)) (xs (6 * i + 3)) = some (v, mC')) (e2 : M_odds mM (xs (6 * i + 1)) (xs (6 * i + 2)) (xs (6 * i + 3)) = some (v, mM')) (kk : Xg E (lFin E mc ms) 1463 (lLv GC GM out b i) [] (lwd GC GM out mC' mM' f) res) : Xg E (lFin E mc ms) 1251 (lLv GC GM out b i) [] (lwd GC GM out mC mM f) res := by
  refine x_aload_n (pc := 1251) (i := 1) (a := 3) g dL_law_1251 rfl rfl ?_
  refine l_pick (pc := 1252) (k := 1) (a0 := 4) (a4 := 0) g cn rfl rfl ic_1 (by decide) (by decide) hL hi dL_law_1252 dL_law_1253 dL_law_1255 dL_law_1256 dL_law_1257 ?_
  refine l_pick (pc := 1258) (k := 2) (a0 := 4) (a4 := 0) g cn rfl rfl ic_2 (by decide) (by decide) hL hi dL_law_1258 dL_law_1259 dL_law_1261 dL_law_1262 dL_law_1263 ?_
  refine l_pick (pc := 1264) (k := 3) (a0 := 4) (a4 := 0) g cn rfl rfl ic_3 (by decide) (by decide) hL hi dL_law_1264 dL_law_1265 dL_law_1267 dL_law_1268 dL_law_1269 ?_
  refine l_invC (pc := 1270) (k := 0) (o := (some (.int v), mC')) (as := [.int (xs (6 * i + 1)), .int (xs (6 * i + 2)), .int (xs (6 * i + 3))]) (st := []) g hW (by have h := c_O_odds l0 GC hW mC (xs (6 * i + 1)) (xs (6 * i + 2)) (xs (6 * i + 3)); rw [e1] at h; exact h) dL_law_1270 ml_L_169 (sOwlsLent isOwlsLent_0) rfl rfl (Nat.le_of_ble_eq_true rfl) ⟨rfl, rfl, Nat.le_of_ble_eq_true rfl, Nat.le_of_ble_eq_true rfl⟩ ?_
  refine x_aload_n (pc := 1273) (i := 2) (a := 2) g dL_law_1273 rfl rfl ?_
  refine l_pick (pc := 1274) (k := 1) (a0 := 4) (a4 := 0) g cn rfl rfl ic_1 (by decide) (by decide) hL hi dL_law_1274 dL_law_1275 dL_law_1277 dL_law_1278 dL_law_1279 ?_
  refine l_pick (pc := 1280) (k := 2) (a0 := 4) (a4 := 0) g cn rfl rfl ic_2 (by decide) (by decide) hL hi dL_law_1280 dL_law_1281 dL_law_1283 dL_law_1284 dL_law_1285 ?_
  refine l_pick (pc := 1286) (k := 3) (a0 := 4) (a4 := 0) g cn rfl rfl ic_3 (by decide) (by decide) hL hi dL_law_1286 dL_law_1287 dL_law_1289 dL_law_1290 dL_law_1291 ?_
  refine l_invM (pc := 1292) (k := 0) (o := (some (.int v), mM')) (as := [.int (xs (6 * i + 1)), .int (xs (6 * i + 2)), .int (xs (6 * i + 3))]) (st := [.int v]) (hgm ▸ g) hM (by have h := c_M_odds l0 GM hM mM (xs (6 * i + 1)) (xs (6 * i + 2)) (xs (6 * i + 3)); rw [e2] at h; exact h) dL_law_1292 ml_L_172 sm_0 rfl rfl (Nat.le_of_ble_eq_true rfl) ⟨rfl, rfl, Nat.le_of_ble_eq_true rfl, Nat.le_of_ble_eq_true rfl⟩ ?_
  refine Xg_pos (v = v) rfl ?_
  exact x_icmp_eq (pc := 1295) (t := 1463) g dL_law_1295 (by decide) kk x_none
theorem lw_book (g : xGood E l0 GC.1 RXL cL_law yL_law 7 (some .boolean) room_1) (cn : xCntL E ce0 sl0 (lA0 sz b L xs)) (hW : WC GC) (hM : WM GM) (hgm : GC.1 = GM.1) (hL : L ≤ 3072) (hi : 6 * i + 6 ≤ L) {v : Int32} (e1 : O_book mC (xs (6 * i + 1)) = some (v, mC')) (e2 : M_book mM (xs (6 * i + 1)) = some (v, mM')) (kk : Xg E (lFin E mc ms) 1463 (lLv GC GM out b i) [] (lwd GC GM out mC' mM' f) res) : Xg E (lFin E mc ms) 1300 (lLv GC GM out b i) [] (lwd GC GM out mC mM f) res := by
  refine x_aload_n (pc := 1300) (i := 1) (a := 3) g dL_law_1300 rfl rfl ?_
  refine l_pick (pc := 1301) (k := 1) (a0 := 4) (a4 := 0) g cn rfl rfl ic_1 (by decide) (by decide) hL hi dL_law_1301 dL_law_1302 dL_law_1304 dL_law_1305 dL_law_1306 ?_
  refine l_invC (pc := 1307) (k := 0) (o := (some (.int v), mC')) (as := [.int (xs (6 * i + 1))]) (st := []) g hW (by have h := c_O_book l0 GC hW mC (xs (6 * i + 1)); rw [e1] at h; exact h) dL_law_1307 ml_L_173 (sOwlsLent isOwlsLent_0) rfl rfl (Nat.le_of_ble_eq_true rfl) ⟨rfl, rfl, Nat.le_of_ble_eq_true rfl, Nat.le_of_ble_eq_true rfl⟩ ?_
  refine x_aload_n (pc := 1310) (i := 2) (a := 2) g dL_law_1310 rfl rfl ?_
  refine l_pick (pc := 1311) (k := 1) (a0 := 4) (a4 := 0) g cn rfl rfl ic_1 (by decide) (by decide) hL hi dL_law_1311 dL_law_1312 dL_law_1314 dL_law_1315 dL_law_1316 ?_
  refine l_invM (pc := 1317) (k := 0) (o := (some (.int v), mM')) (as := [.int (xs (6 * i + 1))]) (st := [.int v]) (hgm ▸ g) hM (by have h := c_M_book l0 GM hM mM (xs (6 * i + 1)); rw [e2] at h; exact h) dL_law_1317 ml_L_176 sm_0 rfl rfl (Nat.le_of_ble_eq_true rfl) ⟨rfl, rfl, Nat.le_of_ble_eq_true rfl, Nat.le_of_ble_eq_true rfl⟩ ?_
  refine Xg_pos (v = v) rfl ?_
  exact x_icmp_eq (pc := 1320) (t := 1463) g dL_law_1320 (by decide) kk x_none
theorem lw_told (g : xGood E l0 GC.1 RXL cL_law yL_law 7 (some .boolean) room_1) (cn : xCntL E ce0 sl0 (lA0 sz b L xs)) (hW : WC GC) (hM : WM GM) (hgm : GC.1 = GM.1) (hL : L ≤ 3072) (hi : 6 * i + 6 ≤ L) {v : Int32} (e1 : O_told mC (xs (6 * i + 1)) = some v) (e2 : M_told mM (xs (6 * i + 1)) = some (v, mM')) (kk : Xg E (lFin E mc ms) 1463 (lLv GC GM out b i) [] (lwd GC GM out mC mM' f) res) : Xg E (lFin E mc ms) 1325 (lLv GC GM out b i) [] (lwd GC GM out mC mM f) res := by
  refine x_aload_n (pc := 1325) (i := 1) (a := 3) g dL_law_1325 rfl rfl ?_
  refine l_pick (pc := 1326) (k := 1) (a0 := 4) (a4 := 0) g cn rfl rfl ic_1 (by decide) (by decide) hL hi dL_law_1326 dL_law_1327 dL_law_1329 dL_law_1330 dL_law_1331 ?_
  refine l_invC (pc := 1332) (k := 0) (o := (some (.int v), mC)) (as := [.int (xs (6 * i + 1))]) (st := []) g hW (by have h := c_O_told l0 GC hW mC (xs (6 * i + 1)); rw [e1] at h; exact h) dL_law_1332 ml_L_177 (sOwlsLent isOwlsLent_0) rfl rfl (Nat.le_of_ble_eq_true rfl) ⟨rfl, rfl, Nat.le_of_ble_eq_true rfl, Nat.le_of_ble_eq_true rfl⟩ ?_
  refine x_aload_n (pc := 1335) (i := 2) (a := 2) g dL_law_1335 rfl rfl ?_
  refine l_pick (pc := 1336) (k := 1) (a0 := 4) (a4 := 0) g cn rfl rfl ic_1 (by decide) (by decide) hL hi dL_law_1336 dL_law_1337 dL_law_1339 dL_law_1340 dL_law_1341 ?_
  refine l_invM (pc := 1342) (k := 0) (o := (some (.int v), mM')) (as := [.int (xs (6 * i + 1))]) (st := [.int v]) (hgm ▸ g) hM (by have h := c_M_told l0 GM hM mM (xs (6 * i + 1)); rw [e2] at h; exact h) dL_law_1342 ml_L_180 sm_0 rfl rfl (Nat.le_of_ble_eq_true rfl) ⟨rfl, rfl, Nat.le_of_ble_eq_true rfl, Nat.le_of_ble_eq_true rfl⟩ ?_
  refine Xg_pos (v = v) rfl ?_
  exact x_icmp_eq (pc := 1345) (t := 1463) g dL_law_1345 (by decide) kk x_none
theorem lw_sentence (g : xGood E l0 GC.1 RXL cL_law yL_law 7 (some .boolean) room_1) (cn : xCntL E ce0 sl0 (lA0 sz b L xs)) (hW : WC GC) (hM : WM GM) (hgm : GC.1 = GM.1) (hL : L ≤ 3072) (hi : 6 * i + 6 ≤ L) {v : Int32} (e1 : O_sentence mC = some (v, mC')) (e2 : M_sentence mM = some (v, mM')) (kk : Xg E (lFin E mc ms) 1463 (lLv GC GM out b i) [] (lwd GC GM out mC' mM' f) res) : Xg E (lFin E mc ms) 1350 (lLv GC GM out b i) [] (lwd GC GM out mC mM f) res := by
  refine x_aload_n (pc := 1350) (i := 1) (a := 3) g dL_law_1350 rfl rfl ?_
  refine l_invC (pc := 1351) (k := 0) (o := (some (.int v), mC')) (as := []) (st := []) g hW (by have h := c_O_sentence l0 GC hW mC; rw [e1] at h; exact h) dL_law_1351 ml_L_181 (sOwlsLent isOwlsLent_0) rfl rfl (Nat.le_of_ble_eq_true rfl) ⟨rfl, rfl, Nat.le_of_ble_eq_true rfl, Nat.le_of_ble_eq_true rfl⟩ ?_
  refine x_aload_n (pc := 1354) (i := 2) (a := 2) g dL_law_1354 rfl rfl ?_
  refine l_invM (pc := 1355) (k := 0) (o := (some (.int v), mM')) (as := []) (st := [.int v]) (hgm ▸ g) hM (by have h := c_M_sentence l0 GM hM mM; rw [e2] at h; exact h) dL_law_1355 ml_L_184 sm_0 rfl rfl (Nat.le_of_ble_eq_true rfl) ⟨rfl, rfl, Nat.le_of_ble_eq_true rfl, Nat.le_of_ble_eq_true rfl⟩ ?_
  refine Xg_pos (v = v) rfl ?_
  exact x_icmp_eq (pc := 1358) (t := 1463) g dL_law_1358 (by decide) kk x_none
theorem lw_said (g : xGood E l0 GC.1 RXL cL_law yL_law 7 (some .boolean) room_1) (cn : xCntL E ce0 sl0 (lA0 sz b L xs)) (hW : WC GC) (hM : WM GM) (hgm : GC.1 = GM.1) (hL : L ≤ 3072) (hi : 6 * i + 6 ≤ L) {v : Int32} (e1 : O_said mC (xs (6 * i + 1)) = some (v, mC')) (e2 : M_said mM (xs (6 * i + 1)) = some (v, mM')) (kk : Xg E (lFin E mc ms) 1463 (lLv GC GM out b i) [] (lwd GC GM out mC' mM' f) res) : Xg E (lFin E mc ms) 1363 (lLv GC GM out b i) [] (lwd GC GM out mC mM f) res := by
  refine x_aload_n (pc := 1363) (i := 1) (a := 3) g dL_law_1363 rfl rfl ?_
  refine l_pick (pc := 1364) (k := 1) (a0 := 4) (a4 := 0) g cn rfl rfl ic_1 (by decide) (by decide) hL hi dL_law_1364 dL_law_1365 dL_law_1367 dL_law_1368 dL_law_1369 ?_
  refine l_invC (pc := 1370) (k := 0) (o := (some (.int v), mC')) (as := [.int (xs (6 * i + 1))]) (st := []) g hW (by have h := c_O_said l0 GC hW mC (xs (6 * i + 1)); rw [e1] at h; exact h) dL_law_1370 ml_L_185 (sOwlsLent isOwlsLent_0) rfl rfl (Nat.le_of_ble_eq_true rfl) ⟨rfl, rfl, Nat.le_of_ble_eq_true rfl, Nat.le_of_ble_eq_true rfl⟩ ?_
  refine x_aload_n (pc := 1373) (i := 2) (a := 2) g dL_law_1373 rfl rfl ?_
  refine l_pick (pc := 1374) (k := 1) (a0 := 4) (a4 := 0) g cn rfl rfl ic_1 (by decide) (by decide) hL hi dL_law_1374 dL_law_1375 dL_law_1377 dL_law_1378 dL_law_1379 ?_
  refine l_invM (pc := 1380) (k := 0) (o := (some (.int v), mM')) (as := [.int (xs (6 * i + 1))]) (st := [.int v]) (hgm ▸ g) hM (by have h := c_M_said l0 GM hM mM (xs (6 * i + 1)); rw [e2] at h; exact h) dL_law_1380 ml_L_188 sm_0 rfl rfl (Nat.le_of_ble_eq_true rfl) ⟨rfl, rfl, Nat.le_of_ble_eq_true rfl, Nat.le_of_ble_eq_true rfl⟩ ?_
  refine Xg_pos (v = v) rfl ?_
  exact x_icmp_eq (pc := 1383) (t := 1463) g dL_law_1383 (by decide) kk x_none
theorem lw_image (g : xGood E l0 GC.1 RXL cL_law yL_law 7 (some .boolean) room_1) (cn : xCntL E ce0 sl0 (lA0 sz b L xs)) (hW : WC GC) (hM : WM GM) (hgm : GC.1 = GM.1) (hL : L ≤ 3072) (hi : 6 * i + 6 ≤ L) {v : Int32} (e1 : O_image mC (xs (6 * i + 1)) = some (v, mC')) (e2 : M_image mM (xs (6 * i + 1)) = some (v, mM')) (kk : Xg E (lFin E mc ms) 1463 (lLv GC GM out b i) [] (lwd GC GM out mC' mM' f) res) : Xg E (lFin E mc ms) 1388 (lLv GC GM out b i) [] (lwd GC GM out mC mM f) res := by
  refine x_aload_n (pc := 1388) (i := 1) (a := 3) g dL_law_1388 rfl rfl ?_
  refine l_pick (pc := 1389) (k := 1) (a0 := 4) (a4 := 0) g cn rfl rfl ic_1 (by decide) (by decide) hL hi dL_law_1389 dL_law_1390 dL_law_1392 dL_law_1393 dL_law_1394 ?_
  refine l_invC (pc := 1395) (k := 0) (o := (some (.int v), mC')) (as := [.int (xs (6 * i + 1))]) (st := []) g hW (by have h := c_O_image l0 GC hW mC (xs (6 * i + 1)); rw [e1] at h; exact h) dL_law_1395 ml_L_189 (sOwlsLent isOwlsLent_0) rfl rfl (Nat.le_of_ble_eq_true rfl) ⟨rfl, rfl, Nat.le_of_ble_eq_true rfl, Nat.le_of_ble_eq_true rfl⟩ ?_
  refine x_aload_n (pc := 1398) (i := 2) (a := 2) g dL_law_1398 rfl rfl ?_
  refine l_pick (pc := 1399) (k := 1) (a0 := 4) (a4 := 0) g cn rfl rfl ic_1 (by decide) (by decide) hL hi dL_law_1399 dL_law_1400 dL_law_1402 dL_law_1403 dL_law_1404 ?_
  refine l_invM (pc := 1405) (k := 0) (o := (some (.int v), mM')) (as := [.int (xs (6 * i + 1))]) (st := [.int v]) (hgm ▸ g) hM (by have h := c_M_image l0 GM hM mM (xs (6 * i + 1)); rw [e2] at h; exact h) dL_law_1405 ml_L_192 sm_0 rfl rfl (Nat.le_of_ble_eq_true rfl) ⟨rfl, rfl, Nat.le_of_ble_eq_true rfl, Nat.le_of_ble_eq_true rfl⟩ ?_
  refine Xg_pos (v = v) rfl ?_
  exact x_icmp_eq (pc := 1408) (t := 1463) g dL_law_1408 (by decide) kk x_none
theorem lw_restore (g : xGood E l0 GC.1 RXL cL_law yL_law 7 (some .boolean) room_1) (cn : xCntL E ce0 sl0 (lA0 sz b L xs)) (hW : WC GC) (hM : WM GM) (hgm : GC.1 = GM.1) (hL : L ≤ 3072) (hi : 6 * i + 6 ≤ L) {v : Int32} (e1 : O_restore mC (xs (6 * i + 1)) = some (v, mC')) (e2 : M_restore mM (xs (6 * i + 1)) = some (v, mM')) (kk : Xg E (lFin E mc ms) 1463 (lLv GC GM out b i) [] (lwd GC GM out mC' mM' f) res) : Xg E (lFin E mc ms) 1413 (lLv GC GM out b i) [] (lwd GC GM out mC mM f) res := by
  refine x_aload_n (pc := 1413) (i := 1) (a := 3) g dL_law_1413 rfl rfl ?_
  refine l_pick (pc := 1414) (k := 1) (a0 := 4) (a4 := 0) g cn rfl rfl ic_1 (by decide) (by decide) hL hi dL_law_1414 dL_law_1415 dL_law_1417 dL_law_1418 dL_law_1419 ?_
  refine l_invC (pc := 1420) (k := 0) (o := (some (.int v), mC')) (as := [.int (xs (6 * i + 1))]) (st := []) g hW (by have h := c_O_restore l0 GC hW mC (xs (6 * i + 1)); rw [e1] at h; exact h) dL_law_1420 ml_L_193 (sOwlsLent isOwlsLent_0) rfl rfl (Nat.le_of_ble_eq_true rfl) ⟨rfl, rfl, Nat.le_of_ble_eq_true rfl, Nat.le_of_ble_eq_true rfl⟩ ?_
  refine x_aload_n (pc := 1423) (i := 2) (a := 2) g dL_law_1423 rfl rfl ?_
  refine l_pick (pc := 1424) (k := 1) (a0 := 4) (a4 := 0) g cn rfl rfl ic_1 (by decide) (by decide) hL hi dL_law_1424 dL_law_1425 dL_law_1427 dL_law_1428 dL_law_1429 ?_
  refine l_invM (pc := 1430) (k := 0) (o := (some (.int v), mM')) (as := [.int (xs (6 * i + 1))]) (st := [.int v]) (hgm ▸ g) hM (by have h := c_M_restore l0 GM hM mM (xs (6 * i + 1)); rw [e2] at h; exact h) dL_law_1430 ml_L_196 sm_0 rfl rfl (Nat.le_of_ble_eq_true rfl) ⟨rfl, rfl, Nat.le_of_ble_eq_true rfl, Nat.le_of_ble_eq_true rfl⟩ ?_
  refine Xg_pos (v = v) rfl ?_
  exact x_icmp_eq (pc := 1433) (t := 1463) g dL_law_1433 (by decide) kk x_none
theorem lw_count (g : xGood E l0 GC.1 RXL cL_law yL_law 7 (some .boolean) room_1) (cn : xCntL E ce0 sl0 (lA0 sz b L xs)) (hW : WC GC) (hM : WM GM) (hgm : GC.1 = GM.1) (hL : L ≤ 3072) (hi : 6 * i + 6 ≤ L) {v : Int32} (e1 : O_count mC (xs (6 * i + 1)) = some v) (e2 : M_count mM (xs (6 * i + 1)) = some (v, mM')) (kk : Xg E (lFin E mc ms) 1463 (lLv GC GM out b i) [] (lwd GC GM out mC mM' f) res) : Xg E (lFin E mc ms) 1438 (lLv GC GM out b i) [] (lwd GC GM out mC mM f) res := by
  refine x_aload_n (pc := 1438) (i := 1) (a := 3) g dL_law_1438 rfl rfl ?_
  refine l_pick (pc := 1439) (k := 1) (a0 := 4) (a4 := 0) g cn rfl rfl ic_1 (by decide) (by decide) hL hi dL_law_1439 dL_law_1440 dL_law_1442 dL_law_1443 dL_law_1444 ?_
  refine l_invC (pc := 1445) (k := 0) (o := (some (.int v), mC)) (as := [.int (xs (6 * i + 1))]) (st := []) g hW (by have h := c_O_count l0 GC hW mC (xs (6 * i + 1)); rw [e1] at h; exact h) dL_law_1445 ml_L_197 (sOwlsLent isOwlsLent_0) rfl rfl (Nat.le_of_ble_eq_true rfl) ⟨rfl, rfl, Nat.le_of_ble_eq_true rfl, Nat.le_of_ble_eq_true rfl⟩ ?_
  refine x_aload_n (pc := 1448) (i := 2) (a := 2) g dL_law_1448 rfl rfl ?_
  refine l_pick (pc := 1449) (k := 1) (a0 := 4) (a4 := 0) g cn rfl rfl ic_1 (by decide) (by decide) hL hi dL_law_1449 dL_law_1450 dL_law_1452 dL_law_1453 dL_law_1454 ?_
  refine l_invM (pc := 1455) (k := 0) (o := (some (.int v), mM')) (as := [.int (xs (6 * i + 1))]) (st := [.int v]) (hgm ▸ g) hM (by have h := c_M_count l0 GM hM mM (xs (6 * i + 1)); rw [e2] at h; exact h) dL_law_1455 ml_L_200 sm_0 rfl rfl (Nat.le_of_ble_eq_true rfl) ⟨rfl, rfl, Nat.le_of_ble_eq_true rfl, Nat.le_of_ble_eq_true rfl⟩ ?_
  refine Xg_pos (v = v) rfl ?_
  exact x_icmp_eq (pc := 1458) (t := 1463) g dL_law_1458 (by decide) kk x_none
theorem lw_loop {R : xMem → xMem → Prop} (hs : lSim R) (hl9 : l0.stackTraces = false) (hW : WC GC) (hM : WM GM) (hgm : GC.1 = GM.1) (hL : L ≤ 3072) : ∀ (N i : Nat), L < 6 * i + 6 * N + 6 → 6 * i + 6 * N ≤ L → ∀ (E : xE) (ce sl : Nat) (mC mM : xMem) (f : Nat → Int64), xGood E l0 GC.1 RXL cL_law yL_law 7 (some .boolean) room_1 → xCntL E ce sl (lA0 sz b L xs) → R mC mM → ce + N ≤ 601024 → sl + 6 * N ≤ 7293034 → Xg E (lFin E 601024 7293034) 23 (lLv GC GM out b i) [] (lwd GC GM out mC mM f) (some 1) := by
  intro N
  induction N with
  | zero =>
    intro i h1 h2 E ce sl mC mM f g cn hR hce hsl
    refine x_iload (pc := 23) (a := 0) g dL_law_23 rfl ?_
    refine x_aload_n (pc := 25) (i := 0) (a := 4) g dL_law_25 rfl rfl ?_
    refine l_slen (pc := 26) g cn dL_law_26 ?_
    refine x_bipush (pc := 27) g dL_law_27 bi_6 ?_
    refine x_isub (pc := 29) g dL_law_29 ?_
    refine Xg_pos (Int32.ofNat L - 6 < Int32.ofNat (6 * i)) ((l_end hL (by omega)).mpr (by omega)) ?_
    refine x_icmp_gt (pc := 30) (t := 1469) g dL_law_30 (by decide) ?_ x_none
    refine x_iconst (pc := 1469) g dL_law_1469 ic_1 ?_
    exact l_zret (pc := 1470) g cn dL_law_1470 rfl (Or.inr rfl) (by omega) (by omega)
  | succ N ih =>
    intro i h1 h2 E ce sl mC mM f g cn hR hce hsl
    have hi : 6 * i + 6 ≤ L := by omega
    have nx : ∀ (E : xE) (ce sl : Nat) (mC mM : xMem) (f : Nat → Int64), xGood E l0 GC.1 RXL cL_law yL_law 7 (some .boolean) room_1 → xCntL E ce sl (lA0 sz b L xs) → R mC mM → ce + N ≤ 601024 → sl + 6 * N ≤ 7293034 → Xg E (lFin E 601024 7293034) 1463 (lLv GC GM out b i) [] (lwd GC GM out mC mM f) (some 1) := by
      intro E ce sl mC mM f g cn hR hce hsl
      refine x_iinc (pc := 1463) (a := 0) (lv' := (4, .int (Int32.ofNat (6 * i) + 6)) :: [(3, .ref out), (2, .ref (xad GM 0)), (1, .ref (xad GC 0)), (0, .ref b)]) g dL_law_1463 ic_6 rfl (by decide) rfl ?_
      rw [l_nx]
      refine x_goto (pc := 1466) (t := 23) g dL_law_1466 (by decide) ?_
      exact ih (i + 1) (by omega) (by omega) E ce sl mC mM f g cn hR hce hsl
    refine x_iload (pc := 23) (a := 0) g dL_law_23 rfl ?_
    refine x_aload_n (pc := 25) (i := 0) (a := 4) g dL_law_25 rfl rfl ?_
    refine l_slen (pc := 26) g cn dL_law_26 ?_
    refine x_bipush (pc := 27) g dL_law_27 bi_6 ?_
    refine x_isub (pc := 29) g dL_law_29 ?_
    refine Xg_neg (Int32.ofNat L - 6 < Int32.ofNat (6 * i)) (fun h => by have := (l_end hL (by omega)).mp h; omega) ?_
    refine x_icmp_gt (pc := 30) (t := 1469) g dL_law_30 (by decide) x_none ?_
    refine l_pick0 (pc := 33) (a0 := 4) (a4 := 0) g cn rfl rfl hL hi dL_law_33 dL_law_34 dL_law_36 ?_
    refine x_bipush (pc := 37) g dL_law_37 bi_63 ?_
    refine x_iand (pc := 39) g dL_law_39 ?_
    by_cases h0 : xs (6 * i) &&& 63 = 0
    · refine x_tabIn (pc := 40) (t := 224) (off := 184) g dL_law_40 h0 (by decide) ?_
      obtain ⟨v, mC', mM', e1, e2, hR'⟩ := hs.1 mC mM (xs (6 * i + 1)) (xs (6 * i + 2)) (xs (6 * i + 3)) (xs (6 * i + 4)) (xs (6 * i + 5)) hR
      exact lw_feed g cn hW hM hgm hL hi e1 e2 (nx E _ _ _ _ _ g cn hR' (by omega) (by omega))
    by_cases h1 : xs (6 * i) &&& 63 = 1
    · refine x_tabIn (pc := 40) (t := 297) (off := 257) g dL_law_40 h1 (by decide) ?_
      obtain ⟨v, mC', mM', e1, e2, hR'⟩ := hs.2.1 mC mM (xs (6 * i + 1)) hR
      exact lw_end g cn hW hM hgm hL hi e1 e2 (nx E _ _ _ _ _ g cn hR' (by omega) (by omega))
    by_cases h2 : xs (6 * i) &&& 63 = 2
    · refine x_tabIn (pc := 40) (t := 322) (off := 282) g dL_law_40 h2 (by decide) ?_
      obtain ⟨v, mC', mM', e1, e2, hR'⟩ := hs.2.2.1 mC mM hR
      exact lw_house g cn hW hM hgm hL hi e1 e2 (nx E _ _ _ _ _ g cn hR' (by omega) (by omega))
    by_cases h3 : xs (6 * i) &&& 63 = 3
    · refine x_tabIn (pc := 40) (t := 335) (off := 295) g dL_law_40 h3 (by decide) ?_
      obtain ⟨v, mM', e1, e2, hR'⟩ := hs.2.2.2.1 mC mM hR
      exact lw_fault g cn hW hM hgm hL hi e1 e2 (nx E _ _ _ _ _ g cn hR' (by omega) (by omega))
    by_cases h4 : xs (6 * i) &&& 63 = 4
    · refine x_tabIn (pc := 40) (t := 348) (off := 308) g dL_law_40 h4 (by decide) ?_
      obtain ⟨o, v, mM', e1, e2, e3, e4, hR'⟩ := hs.2.2.2.2.1 mC mM (xs (6 * i + 1)) (xs (6 * i + 2)) hR
      exact lw_bed g cn hW hM hgm hL hi hl9 e1 e2 e3 e4 (by omega) (by omega) (fun E' g' cn' => nx E' _ _ _ _ _ g' cn' hR' (by omega) (by omega))
    by_cases h5 : xs (6 * i) &&& 63 = 5
    · refine x_tabIn (pc := 40) (t := 416) (off := 376) g dL_law_40 h5 (by decide) ?_
      obtain ⟨o, v, mM', e1, e2, e3, e4, hR'⟩ := hs.2.2.2.2.2.1 mC mM (xs (6 * i + 1)) (xs (6 * i + 2)) hR
      exact lw_owl g cn hW hM hgm hL hi hl9 e1 e2 e3 e4 (by omega) (by omega) (fun E' g' cn' => nx E' _ _ _ _ _ g' cn' hR' (by omega) (by omega))
    by_cases h6 : xs (6 * i) &&& 63 = 6
    · refine x_tabIn (pc := 40) (t := 484) (off := 444) g dL_law_40 h6 (by decide) ?_
      obtain ⟨v, mM', e1, e2, hR'⟩ := hs.2.2.2.2.2.2.1 mC mM (xs (6 * i + 1)) (xs (6 * i + 2)) hR
      exact lw_sound g cn hW hM hgm hL hi e1 e2 (nx E _ _ _ _ _ g cn hR' (by omega) (by omega))
    by_cases h7 : xs (6 * i) &&& 63 = 7
    · refine x_tabIn (pc := 40) (t := 521) (off := 481) g dL_law_40 h7 (by decide) ?_
      obtain ⟨v, mM', e1, e2, hR'⟩ := hs.2.2.2.2.2.2.2.1 mC mM (xs (6 * i + 1)) hR
      exact lw_now g cn hW hM hgm hL hi e1 e2 (nx E _ _ _ _ _ g cn hR' (by omega) (by omega))
    by_cases h8 : xs (6 * i) &&& 63 = 8
    · refine x_tabIn (pc := 40) (t := 546) (off := 506) g dL_law_40 h8 (by decide) ?_
      obtain ⟨v, mC', mM', e1, e2, hR'⟩ := hs.2.2.2.2.2.2.2.2.1 mC mM (xs (6 * i + 1)) (xs (6 * i + 2)) hR
      exact lw_lend g cn hW hM hgm hL hi e1 e2 (nx E _ _ _ _ _ g cn hR' (by omega) (by omega))
    by_cases h9 : xs (6 * i) &&& 63 = 9
    · refine x_tabIn (pc := 40) (t := 583) (off := 543) g dL_law_40 h9 (by decide) ?_
      obtain ⟨v, mC', mM', e1, e2, hR'⟩ := hs.2.2.2.2.2.2.2.2.2.1 mC mM (xs (6 * i + 1)) hR
      exact lw_hush g cn hW hM hgm hL hi e1 e2 (nx E _ _ _ _ _ g cn hR' (by omega) (by omega))
    by_cases h10 : xs (6 * i) &&& 63 = 10
    · refine x_tabIn (pc := 40) (t := 608) (off := 568) g dL_law_40 h10 (by decide) ?_
      obtain ⟨v, mC', mM', e1, e2, hR'⟩ := hs.2.2.2.2.2.2.2.2.2.2.1 mC mM (xs (6 * i + 1)) hR
      exact lw_let g cn hW hM hgm hL hi e1 e2 (nx E _ _ _ _ _ g cn hR' (by omega) (by omega))
    by_cases h11 : xs (6 * i) &&& 63 = 11
    · refine x_tabIn (pc := 40) (t := 633) (off := 593) g dL_law_40 h11 (by decide) ?_
      obtain ⟨v, mC', mM', e1, e2, hR'⟩ := hs.2.2.2.2.2.2.2.2.2.2.2.1 mC mM (xs (6 * i + 1)) (xs (6 * i + 2)) (xs (6 * i + 3)) hR
      exact lw_shout g cn hW hM hgm hL hi e1 e2 (nx E _ _ _ _ _ g cn hR' (by omega) (by omega))
    by_cases h12 : xs (6 * i) &&& 63 = 12
    · refine x_tabIn (pc := 40) (t := 682) (off := 642) g dL_law_40 h12 (by decide) ?_
      obtain ⟨v, mC', mM', e1, e2, hR'⟩ := hs.2.2.2.2.2.2.2.2.2.2.2.2.1 mC mM (xs (6 * i + 1)) hR
      exact lw_hours g cn hW hM hgm hL hi e1 e2 (nx E _ _ _ _ _ g cn hR' (by omega) (by omega))
    by_cases h13 : xs (6 * i) &&& 63 = 13
    · refine x_tabIn (pc := 40) (t := 707) (off := 667) g dL_law_40 h13 (by decide) ?_
      obtain ⟨v, mC', mM', e1, e2, hR'⟩ := hs.2.2.2.2.2.2.2.2.2.2.2.2.2.1 mC mM hR
      exact lw_undo g cn hW hM hgm hL hi e1 e2 (nx E _ _ _ _ _ g cn hR' (by omega) (by omega))
    by_cases h14 : xs (6 * i) &&& 63 = 14
    · refine x_tabIn (pc := 40) (t := 720) (off := 680) g dL_law_40 h14 (by decide) ?_
      obtain ⟨v, mM', e1, e2, hR'⟩ := hs.2.2.2.2.2.2.2.2.2.2.2.2.2.2.1 mC mM (xs (6 * i + 1)) hR
      exact lw_hears g cn hW hM hgm hL hi e1 e2 (nx E _ _ _ _ _ g cn hR' (by omega) (by omega))
    by_cases h15 : xs (6 * i) &&& 63 = 15
    · refine x_tabIn (pc := 40) (t := 745) (off := 705) g dL_law_40 h15 (by decide) ?_
      obtain ⟨v, mM', e1, e2, hR'⟩ := hs.2.2.2.2.2.2.2.2.2.2.2.2.2.2.2.1 mC mM (xs (6 * i + 1)) (xs (6 * i + 2)) hR
      exact lw_would g cn hW hM hgm hL hi e1 e2 (nx E _ _ _ _ _ g cn hR' (by omega) (by omega))
    by_cases h16 : xs (6 * i) &&& 63 = 16
    · refine x_tabIn (pc := 40) (t := 782) (off := 742) g dL_law_40 h16 (by decide) ?_
      obtain ⟨v, mM', e1, e2, hR'⟩ := hs.2.2.2.2.2.2.2.2.2.2.2.2.2.2.2.2.1 mC mM (xs (6 * i + 1)) (xs (6 * i + 2)) hR
      exact lw_when g cn hW hM hgm hL hi e1 e2 (nx E _ _ _ _ _ g cn hR' (by omega) (by omega))
    by_cases h17 : xs (6 * i) &&& 63 = 17
    · refine x_tabIn (pc := 40) (t := 819) (off := 779) g dL_law_40 h17 (by decide) ?_
      obtain ⟨o, v, mM', e1, e2, e3, e4, hR'⟩ := hs.2.2.2.2.2.2.2.2.2.2.2.2.2.2.2.2.2.1 mC mM (xs (6 * i + 1)) (xs (6 * i + 2)) hR
      exact lw_loud g cn hW hM hgm hL hi hl9 e1 e2 e3 e4 (by omega) (by omega) (fun E' g' cn' => nx E' _ _ _ _ _ g' cn' hR' (by omega) (by omega))
    by_cases h18 : xs (6 * i) &&& 63 = 18
    · refine x_tabIn (pc := 40) (t := 887) (off := 847) g dL_law_40 h18 (by decide) ?_
      obtain ⟨v, mC', mM', e1, e2, hR'⟩ := hs.2.2.2.2.2.2.2.2.2.2.2.2.2.2.2.2.2.2.1 mC mM hR
      exact lw_spots g cn hW hM hgm hL hi e1 e2 (nx E _ _ _ _ _ g cn hR' (by omega) (by omega))
    by_cases h19 : xs (6 * i) &&& 63 = 19
    · refine x_tabIn (pc := 40) (t := 900) (off := 860) g dL_law_40 h19 (by decide) ?_
      obtain ⟨v, mM', e1, e2, hR'⟩ := hs.2.2.2.2.2.2.2.2.2.2.2.2.2.2.2.2.2.2.2.1 mC mM (xs (6 * i + 1)) hR
      exact lw_spotAt g cn hW hM hgm hL hi e1 e2 (nx E _ _ _ _ _ g cn hR' (by omega) (by omega))
    by_cases h20 : xs (6 * i) &&& 63 = 20
    · refine x_tabIn (pc := 40) (t := 925) (off := 885) g dL_law_40 h20 (by decide) ?_
      obtain ⟨v, mM', e1, e2, hR'⟩ := hs.2.2.2.2.2.2.2.2.2.2.2.2.2.2.2.2.2.2.2.2.1 mC mM hR
      exact lw_next g cn hW hM hgm hL hi e1 e2 (nx E _ _ _ _ _ g cn hR' (by omega) (by omega))
    by_cases h21 : xs (6 * i) &&& 63 = 21
    · refine x_tabIn (pc := 40) (t := 938) (off := 898) g dL_law_40 h21 (by decide) ?_
      obtain ⟨v, mC', mM', e1, e2, hR'⟩ := hs.2.2.2.2.2.2.2.2.2.2.2.2.2.2.2.2.2.2.2.2.2.1 mC mM hR
      exact lw_keen g cn hW hM hgm hL hi e1 e2 (nx E _ _ _ _ _ g cn hR' (by omega) (by omega))
    by_cases h22 : xs (6 * i) &&& 63 = 22
    · refine x_tabIn (pc := 40) (t := 951) (off := 911) g dL_law_40 h22 (by decide) ?_
      obtain ⟨v, mM', e1, e2, hR'⟩ := hs.2.2.2.2.2.2.2.2.2.2.2.2.2.2.2.2.2.2.2.2.2.2.1 mC mM hR
      exact lw_keenLeast g cn hW hM hgm hL hi e1 e2 (nx E _ _ _ _ _ g cn hR' (by omega) (by omega))
    by_cases h23 : xs (6 * i) &&& 63 = 23
    · refine x_tabIn (pc := 40) (t := 964) (off := 924) g dL_law_40 h23 (by decide) ?_
      obtain ⟨v, mM', e1, e2, hR'⟩ := hs.2.2.2.2.2.2.2.2.2.2.2.2.2.2.2.2.2.2.2.2.2.2.2.1 mC mM hR
      exact lw_keenMost g cn hW hM hgm hL hi e1 e2 (nx E _ _ _ _ _ g cn hR' (by omega) (by omega))
    by_cases h24 : xs (6 * i) &&& 63 = 24
    · refine x_tabIn (pc := 40) (t := 977) (off := 937) g dL_law_40 h24 (by decide) ?_
      obtain ⟨v, mC', mM', e1, e2, hR'⟩ := hs.2.2.2.2.2.2.2.2.2.2.2.2.2.2.2.2.2.2.2.2.2.2.2.2.1 mC mM hR
      exact lw_best g cn hW hM hgm hL hi e1 e2 (nx E _ _ _ _ _ g cn hR' (by omega) (by omega))
    by_cases h25 : xs (6 * i) &&& 63 = 25
    · refine x_tabIn (pc := 40) (t := 990) (off := 950) g dL_law_40 h25 (by decide) ?_
      obtain ⟨v, mM', e1, e2, hR'⟩ := hs.2.2.2.2.2.2.2.2.2.2.2.2.2.2.2.2.2.2.2.2.2.2.2.2.2.1 mC mM (xs (6 * i + 1)) hR
      exact lw_bestAt g cn hW hM hgm hL hi e1 e2 (nx E _ _ _ _ _ g cn hR' (by omega) (by omega))
    by_cases h26 : xs (6 * i) &&& 63 = 26
    · refine x_tabIn (pc := 40) (t := 1015) (off := 975) g dL_law_40 h26 (by decide) ?_
      obtain ⟨v, mC', mM', e1, e2, hR'⟩ := hs.2.2.2.2.2.2.2.2.2.2.2.2.2.2.2.2.2.2.2.2.2.2.2.2.2.2.1 mC mM (xs (6 * i + 1)) hR
      exact lw_code g cn hW hM hgm hL hi e1 e2 (nx E _ _ _ _ _ g cn hR' (by omega) (by omega))
    by_cases h27 : xs (6 * i) &&& 63 = 27
    · refine x_tabIn (pc := 40) (t := 1040) (off := 1000) g dL_law_40 h27 (by decide) ?_
      obtain ⟨v, mM', e1, e2, hR'⟩ := hs.2.2.2.2.2.2.2.2.2.2.2.2.2.2.2.2.2.2.2.2.2.2.2.2.2.2.2.1 mC mM (xs (6 * i + 1)) hR
      exact lw_codeAt g cn hW hM hgm hL hi e1 e2 (nx E _ _ _ _ _ g cn hR' (by omega) (by omega))
    by_cases h28 : xs (6 * i) &&& 63 = 28
    · refine x_tabIn (pc := 40) (t := 1065) (off := 1025) g dL_law_40 h28 (by decide) ?_
      obtain ⟨v, mC', mM', e1, e2, hR'⟩ := hs.2.2.2.2.2.2.2.2.2.2.2.2.2.2.2.2.2.2.2.2.2.2.2.2.2.2.2.2.1 mC mM (xs (6 * i + 1)) (xs (6 * i + 2)) (xs (6 * i + 3)) hR
      exact lw_duel g cn hW hM hgm hL hi e1 e2 (nx E _ _ _ _ _ g cn hR' (by omega) (by omega))
    by_cases h29 : xs (6 * i) &&& 63 = 29
    · refine x_tabIn (pc := 40) (t := 1114) (off := 1074) g dL_law_40 h29 (by decide) ?_
      obtain ⟨v, mM', e1, e2, hR'⟩ := hs.2.2.2.2.2.2.2.2.2.2.2.2.2.2.2.2.2.2.2.2.2.2.2.2.2.2.2.2.2.1 mC mM hR
      exact lw_duelAt g cn hW hM hgm hL hi e1 e2 (nx E _ _ _ _ _ g cn hR' (by omega) (by omega))
    by_cases h30 : xs (6 * i) &&& 63 = 30
    · refine x_tabIn (pc := 40) (t := 1127) (off := 1087) g dL_law_40 h30 (by decide) ?_
      obtain ⟨v, mM', e1, e2, hR'⟩ := hs.2.2.2.2.2.2.2.2.2.2.2.2.2.2.2.2.2.2.2.2.2.2.2.2.2.2.2.2.2.2.1 mC mM (xs (6 * i + 1)) (xs (6 * i + 2)) hR
      exact lw_worth g cn hW hM hgm hL hi e1 e2 (nx E _ _ _ _ _ g cn hR' (by omega) (by omega))
    by_cases h31 : xs (6 * i) &&& 63 = 31
    · refine x_tabIn (pc := 40) (t := 1164) (off := 1124) g dL_law_40 h31 (by decide) ?_
      obtain ⟨v, mC', mM', e1, e2, hR'⟩ := hs.2.2.2.2.2.2.2.2.2.2.2.2.2.2.2.2.2.2.2.2.2.2.2.2.2.2.2.2.2.2.2.1 mC mM (xs (6 * i + 1)) hR
      exact lw_note g cn hW hM hgm hL hi e1 e2 (nx E _ _ _ _ _ g cn hR' (by omega) (by omega))
    by_cases h32 : xs (6 * i) &&& 63 = 32
    · refine x_tabIn (pc := 40) (t := 1189) (off := 1149) g dL_law_40 h32 (by decide) ?_
      obtain ⟨v, mM', e1, e2, hR'⟩ := hs.2.2.2.2.2.2.2.2.2.2.2.2.2.2.2.2.2.2.2.2.2.2.2.2.2.2.2.2.2.2.2.2.1 mC mM (xs (6 * i + 1)) hR
      exact lw_byteAt g cn hW hM hgm hL hi e1 e2 (nx E _ _ _ _ _ g cn hR' (by omega) (by omega))
    by_cases h33 : xs (6 * i) &&& 63 = 33
    · refine x_tabIn (pc := 40) (t := 1214) (off := 1174) g dL_law_40 h33 (by decide) ?_
      obtain ⟨v, mC', mM', e1, e2, hR'⟩ := hs.2.2.2.2.2.2.2.2.2.2.2.2.2.2.2.2.2.2.2.2.2.2.2.2.2.2.2.2.2.2.2.2.2.1 mC mM (xs (6 * i + 1)) (xs (6 * i + 2)) hR
      exact lw_drawn g cn hW hM hgm hL hi e1 e2 (nx E _ _ _ _ _ g cn hR' (by omega) (by omega))
    by_cases h34 : xs (6 * i) &&& 63 = 34
    · refine x_tabIn (pc := 40) (t := 1251) (off := 1211) g dL_law_40 h34 (by decide) ?_
      obtain ⟨v, mC', mM', e1, e2, hR'⟩ := hs.2.2.2.2.2.2.2.2.2.2.2.2.2.2.2.2.2.2.2.2.2.2.2.2.2.2.2.2.2.2.2.2.2.2.1 mC mM (xs (6 * i + 1)) (xs (6 * i + 2)) (xs (6 * i + 3)) hR
      exact lw_odds g cn hW hM hgm hL hi e1 e2 (nx E _ _ _ _ _ g cn hR' (by omega) (by omega))
    by_cases h35 : xs (6 * i) &&& 63 = 35
    · refine x_tabIn (pc := 40) (t := 1300) (off := 1260) g dL_law_40 h35 (by decide) ?_
      obtain ⟨v, mC', mM', e1, e2, hR'⟩ := hs.2.2.2.2.2.2.2.2.2.2.2.2.2.2.2.2.2.2.2.2.2.2.2.2.2.2.2.2.2.2.2.2.2.2.2.1 mC mM (xs (6 * i + 1)) hR
      exact lw_book g cn hW hM hgm hL hi e1 e2 (nx E _ _ _ _ _ g cn hR' (by omega) (by omega))
    by_cases h36 : xs (6 * i) &&& 63 = 36
    · refine x_tabIn (pc := 40) (t := 1325) (off := 1285) g dL_law_40 h36 (by decide) ?_
      obtain ⟨v, mM', e1, e2, hR'⟩ := hs.2.2.2.2.2.2.2.2.2.2.2.2.2.2.2.2.2.2.2.2.2.2.2.2.2.2.2.2.2.2.2.2.2.2.2.2.1 mC mM (xs (6 * i + 1)) hR
      exact lw_told g cn hW hM hgm hL hi e1 e2 (nx E _ _ _ _ _ g cn hR' (by omega) (by omega))
    by_cases h37 : xs (6 * i) &&& 63 = 37
    · refine x_tabIn (pc := 40) (t := 1350) (off := 1310) g dL_law_40 h37 (by decide) ?_
      obtain ⟨v, mC', mM', e1, e2, hR'⟩ := hs.2.2.2.2.2.2.2.2.2.2.2.2.2.2.2.2.2.2.2.2.2.2.2.2.2.2.2.2.2.2.2.2.2.2.2.2.2.1 mC mM hR
      exact lw_sentence g cn hW hM hgm hL hi e1 e2 (nx E _ _ _ _ _ g cn hR' (by omega) (by omega))
    by_cases h38 : xs (6 * i) &&& 63 = 38
    · refine x_tabIn (pc := 40) (t := 1363) (off := 1323) g dL_law_40 h38 (by decide) ?_
      obtain ⟨v, mC', mM', e1, e2, hR'⟩ := hs.2.2.2.2.2.2.2.2.2.2.2.2.2.2.2.2.2.2.2.2.2.2.2.2.2.2.2.2.2.2.2.2.2.2.2.2.2.2.1 mC mM (xs (6 * i + 1)) hR
      exact lw_said g cn hW hM hgm hL hi e1 e2 (nx E _ _ _ _ _ g cn hR' (by omega) (by omega))
    by_cases h39 : xs (6 * i) &&& 63 = 39
    · refine x_tabIn (pc := 40) (t := 1388) (off := 1348) g dL_law_40 h39 (by decide) ?_
      obtain ⟨v, mC', mM', e1, e2, hR'⟩ := hs.2.2.2.2.2.2.2.2.2.2.2.2.2.2.2.2.2.2.2.2.2.2.2.2.2.2.2.2.2.2.2.2.2.2.2.2.2.2.2.1 mC mM (xs (6 * i + 1)) hR
      exact lw_image g cn hW hM hgm hL hi e1 e2 (nx E _ _ _ _ _ g cn hR' (by omega) (by omega))
    by_cases h40 : xs (6 * i) &&& 63 = 40
    · refine x_tabIn (pc := 40) (t := 1413) (off := 1373) g dL_law_40 h40 (by decide) ?_
      obtain ⟨v, mC', mM', e1, e2, hR'⟩ := hs.2.2.2.2.2.2.2.2.2.2.2.2.2.2.2.2.2.2.2.2.2.2.2.2.2.2.2.2.2.2.2.2.2.2.2.2.2.2.2.2.1 mC mM (xs (6 * i + 1)) hR
      exact lw_restore g cn hW hM hgm hL hi e1 e2 (nx E _ _ _ _ _ g cn hR' (by omega) (by omega))
    by_cases h41 : xs (6 * i) &&& 63 = 41
    · refine x_tabIn (pc := 40) (t := 1438) (off := 1398) g dL_law_40 h41 (by decide) ?_
      obtain ⟨v, mM', e1, e2, hR'⟩ := hs.2.2.2.2.2.2.2.2.2.2.2.2.2.2.2.2.2.2.2.2.2.2.2.2.2.2.2.2.2.2.2.2.2.2.2.2.2.2.2.2.2 mC mM (xs (6 * i + 1)) hR
      exact lw_count g cn hW hM hgm hL hi e1 e2 (nx E _ _ _ _ _ g cn hR' (by omega) (by omega))
    refine x_tabOut (pc := 40) (t := 1463) g dL_law_40 (by have z0 := ne_toInt (k := 0) h0 (by decide); have z1 := ne_toInt (k := 1) h1 (by decide); have z2 := ne_toInt (k := 2) h2 (by decide); have z3 := ne_toInt (k := 3) h3 (by decide); have z4 := ne_toInt (k := 4) h4 (by decide); have z5 := ne_toInt (k := 5) h5 (by decide); have z6 := ne_toInt (k := 6) h6 (by decide); have z7 := ne_toInt (k := 7) h7 (by decide); have z8 := ne_toInt (k := 8) h8 (by decide); have z9 := ne_toInt (k := 9) h9 (by decide); have z10 := ne_toInt (k := 10) h10 (by decide); have z11 := ne_toInt (k := 11) h11 (by decide); have z12 := ne_toInt (k := 12) h12 (by decide); have z13 := ne_toInt (k := 13) h13 (by decide); have z14 := ne_toInt (k := 14) h14 (by decide); have z15 := ne_toInt (k := 15) h15 (by decide); have z16 := ne_toInt (k := 16) h16 (by decide); have z17 := ne_toInt (k := 17) h17 (by decide); have z18 := ne_toInt (k := 18) h18 (by decide); have z19 := ne_toInt (k := 19) h19 (by decide); have z20 := ne_toInt (k := 20) h20 (by decide); have z21 := ne_toInt (k := 21) h21 (by decide); have z22 := ne_toInt (k := 22) h22 (by decide); have z23 := ne_toInt (k := 23) h23 (by decide); have z24 := ne_toInt (k := 24) h24 (by decide); have z25 := ne_toInt (k := 25) h25 (by decide); have z26 := ne_toInt (k := 26) h26 (by decide); have z27 := ne_toInt (k := 27) h27 (by decide); have z28 := ne_toInt (k := 28) h28 (by decide); have z29 := ne_toInt (k := 29) h29 (by decide); have z30 := ne_toInt (k := 30) h30 (by decide); have z31 := ne_toInt (k := 31) h31 (by decide); have z32 := ne_toInt (k := 32) h32 (by decide); have z33 := ne_toInt (k := 33) h33 (by decide); have z34 := ne_toInt (k := 34) h34 (by decide); have z35 := ne_toInt (k := 35) h35 (by decide); have z36 := ne_toInt (k := 36) h36 (by decide); have z37 := ne_toInt (k := 37) h37 (by decide); have z38 := ne_toInt (k := 38) h38 (by decide); have z39 := ne_toInt (k := 39) h39 (by decide); have z40 := ne_toInt (k := 40) h40 (by decide); have z41 := ne_toInt (k := 41) h41 (by decide); omega) (by decide) ?_
    exact nx E _ _ _ _ _ g cn hR (by omega) (by omega)
end LWC
