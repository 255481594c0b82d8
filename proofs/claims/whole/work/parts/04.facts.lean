/-! words of the tables; fields and calls by their places in the constant pools; the two worlds' shapes -/
theorem tlw {w : Cond} (h : w ∈ tables_1) : w ∈ lw_tbl := List.mem_append_right _ h
theorem psel {q : MethodName × Nat} (h : q ∈ lw_privs) : Cond.selects q.1.cls q.1 q.1 ∈ lw_tbl := List.mem_append_left _ (List.mem_map.mpr ⟨q, h, rfl⟩)
theorem pin_1 {w : MethodName × Nat} (h : w ∈ lw_privs_1) : w ∈ lw_privs := List.mem_append_left _ h
theorem pin_2 {w : MethodName × Nat} (h : w ∈ lw_privs_2) : w ∈ lw_privs := List.mem_append_right _ (List.mem_append_left _ h)
theorem pin_3 {w : MethodName × Nat} (h : w ∈ lw_privs_3) : w ∈ lw_privs := List.mem_append_right _ (List.mem_append_right _ (List.mem_append_left _ h))
theorem pin_4 {w : MethodName × Nat} (h : w ∈ lw_privs_4) : w ∈ lw_privs := List.mem_append_right _ (List.mem_append_right _ (List.mem_append_right _ (List.mem_append_left _ h)))
theorem pin_5 {w : MethodName × Nat} (h : w ∈ lw_privs_5) : w ∈ lw_privs := List.mem_append_right _ (List.mem_append_right _ (List.mem_append_right _ (List.mem_append_right _ (List.mem_append_left _ h))))
theorem pin_6 {w : MethodName × Nat} (h : w ∈ lw_privs_6) : w ∈ lw_privs := List.mem_append_right _ (List.mem_append_right _ (List.mem_append_right _ (List.mem_append_right _ (List.mem_append_right _ (List.mem_append_left _ h)))))
theorem pin_7 {w : MethodName × Nat} (h : w ∈ lw_privs_7) : w ∈ lw_privs := List.mem_append_right _ (List.mem_append_right _ (List.mem_append_right _ (List.mem_append_right _ (List.mem_append_right _ (List.mem_append_right _ (h))))))
theorem w_1_1 : (Jvm.Cond.initialized "OwlsLent") ∈ GT := GT_in (tlw (tin_1 (List.mem_of_getElem? (i := 1) rfl))) rfl
theorem w_1_2 : (Jvm.Cond.initialized "OwlsLent$Tape") ∈ GT := GT_in (tlw (tin_1 (List.mem_of_getElem? (i := 2) rfl))) rfl
theorem w_1_3 : (Jvm.Cond.initialized "java/lang/Math") ∈ GT := GT_in (tlw (tin_1 (List.mem_of_getElem? (i := 3) rfl))) rfl
theorem w_1_4 : (Jvm.Cond.initialized "OwlsLent$Tokens") ∈ GT := GT_in (tlw (tin_1 (List.mem_of_getElem? (i := 4) rfl))) rfl
theorem w_1_9 : (Jvm.Cond.initialized "OwlsLent$Image") ∈ GT := GT_in (tlw (tin_1 (List.mem_of_getElem? (i := 9) rfl))) rfl
theorem w_1_10 : (Jvm.Cond.initialized "OwlsLent$House") ∈ GT := GT_in (tlw (tin_1 (List.mem_of_getElem? (i := 10) rfl))) rfl
theorem w_1_11 : (Jvm.Cond.initialized "OwlsLent$State") ∈ GT := GT_in (tlw (tin_1 (List.mem_of_getElem? (i := 11) rfl))) rfl
theorem w_1_12 : (Jvm.Cond.initialized "OwlsLent$Sentence") ∈ GT := GT_in (tlw (tin_1 (List.mem_of_getElem? (i := 12) rfl))) rfl
theorem w_1_13 : (Jvm.Cond.initialized "OwlsLent$Book") ∈ GT := GT_in (tlw (tin_1 (List.mem_of_getElem? (i := 13) rfl))) rfl
theorem w_1_14 : (Jvm.Cond.initialized "OwlsLent$Undo") ∈ GT := GT_in (tlw (tin_1 (List.mem_of_getElem? (i := 14) rfl))) rfl
theorem w_1_15 : (Jvm.Cond.initialized "OwlsLent$Spots") ∈ GT := GT_in (tlw (tin_1 (List.mem_of_getElem? (i := 15) rfl))) rfl
theorem w_1_16 : (Jvm.Cond.initialized "OwlsLent$Best") ∈ GT := GT_in (tlw (tin_1 (List.mem_of_getElem? (i := 16) rfl))) rfl
theorem w_1_17 : (Jvm.Cond.initialized "OwlsLentModel") ∈ GT := GT_in (tlw (tin_1 (List.mem_of_getElem? (i := 17) rfl))) rfl
theorem w_1_18 : (Jvm.Cond.initialized "OwlsLent$HouseReader") ∈ GT := GT_in (tlw (tin_1 (List.mem_of_getElem? (i := 18) rfl))) rfl
theorem w_1_19 : (Jvm.Cond.initialized "java/lang/System") ∈ GT := GT_in (tlw (tin_1 (List.mem_of_getElem? (i := 19) rfl))) rfl
theorem w_1_39 : (Jvm.Cond.static ({ cls := "java/lang/Math", name := "max", desc := "(II)I" } : Jvm.MethodName)) ∈ GT := GT_in (tlw (tin_1 (List.mem_of_getElem? (i := 39) rfl))) rfl
theorem w_1_40 : (Jvm.Cond.code ({ cls := "java/lang/Math", name := "max", desc := "(II)I" } : Jvm.MethodName) prog_19_method_65_code (2 : Nat) (Option.some Jvm.ClassFile.FieldType.int)) ∈ GT := GT_in (tlw (tin_1 (List.mem_of_getElem? (i := 40) rfl))) rfl
theorem w_1_41 : (Jvm.Cond.fieldLink "OwlsLent$Tape" (19 : Nat) "OwlsLent$Tape" "bytes" "[I") ∈ GT := GT_in (tlw (tin_1 (List.mem_of_getElem? (i := 41) rfl))) rfl
theorem w_1_42 : (Jvm.Cond.fieldLink "OwlsLent$Tape" (7 : Nat) "OwlsLent$Tape" "length" "I") ∈ GT := GT_in (tlw (tin_1 (List.mem_of_getElem? (i := 42) rfl))) rfl
theorem w_1_46 : (Jvm.Cond.laysFinal "OwlsLent$Tape" "OwlsLent$Tape" "bytes" "[I") ∈ GT := GT_in (tlw (tin_1 (List.mem_of_getElem? (i := 46) rfl))) rfl
theorem w_1_48 : (Jvm.Cond.lays "OwlsLent$Tape" "OwlsLent$Tape" "length" "I") ∈ GT := GT_in (tlw (tin_1 (List.mem_of_getElem? (i := 48) rfl))) rfl
theorem w_1_107 : (Jvm.Cond.constantLong "OwlsLent$Tokens" (63 : Nat) (32 : Int64)) ∈ GT := GT_in (tlw (tin_1 (List.mem_of_getElem? (i := 107) rfl))) rfl
theorem w_1_108 : (Jvm.Cond.fieldLink "OwlsLent$Tokens" (47 : Nat) "OwlsLent$Tokens" "tape" "LOwlsLent$Tape;") ∈ GT := GT_in (tlw (tin_1 (List.mem_of_getElem? (i := 108) rfl))) rfl
theorem w_1_109 : (Jvm.Cond.fieldLink "OwlsLent$Tokens" (9 : Nat) "OwlsLent$Tokens" "reserved" "[J") ∈ GT := GT_in (tlw (tin_1 (List.mem_of_getElem? (i := 109) rfl))) rfl
theorem w_1_111 : (Jvm.Cond.fieldLink "OwlsLent$Tokens" (15 : Nat) "OwlsLent$Tokens" "most" "I") ∈ GT := GT_in (tlw (tin_1 (List.mem_of_getElem? (i := 111) rfl))) rfl
theorem w_1_112 : (Jvm.Cond.fieldLink "OwlsLent$Tokens" (19 : Nat) "OwlsLent$Tokens" "next" "I") ∈ GT := GT_in (tlw (tin_1 (List.mem_of_getElem? (i := 112) rfl))) rfl
theorem w_1_113 : (Jvm.Cond.fieldLink "OwlsLent$Tokens" (22 : Nat) "OwlsLent$Tokens" "kind" "I") ∈ GT := GT_in (tlw (tin_1 (List.mem_of_getElem? (i := 113) rfl))) rfl
theorem w_1_117 : (Jvm.Cond.fieldLink "OwlsLent$Tokens" (25 : Nat) "OwlsLent$Tokens" "place" "I") ∈ GT := GT_in (tlw (tin_1 (List.mem_of_getElem? (i := 117) rfl))) rfl
theorem w_1_118 : (Jvm.Cond.fieldLink "OwlsLent$Tokens" (28 : Nat) "OwlsLent$Tokens" "placeBehind" "I") ∈ GT := GT_in (tlw (tin_1 (List.mem_of_getElem? (i := 118) rfl))) rfl
theorem w_1_119 : (Jvm.Cond.fieldLink "OwlsLent$Tokens" (31 : Nat) "OwlsLent$Tokens" "value" "I") ∈ GT := GT_in (tlw (tin_1 (List.mem_of_getElem? (i := 119) rfl))) rfl
theorem w_1_121 : (Jvm.Cond.fieldLink "OwlsLent$Tokens" (34 : Nat) "OwlsLent$Tokens" "word" "I") ∈ GT := GT_in (tlw (tin_1 (List.mem_of_getElem? (i := 121) rfl))) rfl
theorem w_1_125 : (Jvm.Cond.fieldLink "OwlsLent$Tokens" (37 : Nat) "OwlsLent$Tokens" "name" "J") ∈ GT := GT_in (tlw (tin_1 (List.mem_of_getElem? (i := 125) rfl))) rfl
theorem w_1_126 : (Jvm.Cond.fieldLink "OwlsLent$Tokens" (41 : Nat) "OwlsLent$Tokens" "fault" "I") ∈ GT := GT_in (tlw (tin_1 (List.mem_of_getElem? (i := 126) rfl))) rfl
theorem w_1_128 : (Jvm.Cond.fieldLink "OwlsLent$Tokens" (44 : Nat) "OwlsLent$Tokens" "faultPlace" "I") ∈ GT := GT_in (tlw (tin_1 (List.mem_of_getElem? (i := 128) rfl))) rfl
theorem w_1_130 : (Jvm.Cond.laysFinal "OwlsLent$Tokens" "OwlsLent$Tokens" "tape" "LOwlsLent$Tape;") ∈ GT := GT_in (tlw (tin_1 (List.mem_of_getElem? (i := 130) rfl))) rfl
theorem w_1_132 : (Jvm.Cond.laysFinal "OwlsLent$Tokens" "OwlsLent$Tokens" "reserved" "[J") ∈ GT := GT_in (tlw (tin_1 (List.mem_of_getElem? (i := 132) rfl))) rfl
theorem w_1_134 : (Jvm.Cond.lays "OwlsLent$Tokens" "OwlsLent$Tokens" "most" "I") ∈ GT := GT_in (tlw (tin_1 (List.mem_of_getElem? (i := 134) rfl))) rfl
theorem w_1_136 : (Jvm.Cond.lays "OwlsLent$Tokens" "OwlsLent$Tokens" "next" "I") ∈ GT := GT_in (tlw (tin_1 (List.mem_of_getElem? (i := 136) rfl))) rfl
theorem w_1_138 : (Jvm.Cond.lays "OwlsLent$Tokens" "OwlsLent$Tokens" "kind" "I") ∈ GT := GT_in (tlw (tin_1 (List.mem_of_getElem? (i := 138) rfl))) rfl
theorem w_1_140 : (Jvm.Cond.lays "OwlsLent$Tokens" "OwlsLent$Tokens" "place" "I") ∈ GT := GT_in (tlw (tin_1 (List.mem_of_getElem? (i := 140) rfl))) rfl
theorem w_1_142 : (Jvm.Cond.lays "OwlsLent$Tokens" "OwlsLent$Tokens" "placeBehind" "I") ∈ GT := GT_in (tlw (tin_1 (List.mem_of_getElem? (i := 142) rfl))) rfl
theorem w_1_144 : (Jvm.Cond.lays "OwlsLent$Tokens" "OwlsLent$Tokens" "value" "I") ∈ GT := GT_in (tlw (tin_1 (List.mem_of_getElem? (i := 144) rfl))) rfl
theorem w_1_146 : (Jvm.Cond.lays "OwlsLent$Tokens" "OwlsLent$Tokens" "word" "I") ∈ GT := GT_in (tlw (tin_1 (List.mem_of_getElem? (i := 146) rfl))) rfl
theorem w_1_148 : (Jvm.Cond.lays "OwlsLent$Tokens" "OwlsLent$Tokens" "name" "J") ∈ GT := GT_in (tlw (tin_1 (List.mem_of_getElem? (i := 148) rfl))) rfl
theorem w_1_150 : (Jvm.Cond.lays "OwlsLent$Tokens" "OwlsLent$Tokens" "fault" "I") ∈ GT := GT_in (tlw (tin_1 (List.mem_of_getElem? (i := 150) rfl))) rfl
theorem w_1_152 : (Jvm.Cond.lays "OwlsLent$Tokens" "OwlsLent$Tokens" "faultPlace" "I") ∈ GT := GT_in (tlw (tin_1 (List.mem_of_getElem? (i := 152) rfl))) rfl
theorem w_1_171 : (Jvm.Cond.fieldLink "OwlsLent$House" (9 : Nat) "OwlsLent$House" "wide" "I") ∈ GT := GT_in (tlw (tin_1 (List.mem_of_getElem? (i := 171) rfl))) rfl
theorem w_1_176 : (Jvm.Cond.fieldLink "OwlsLent$House" (15 : Nat) "OwlsLent$House" "high" "I") ∈ GT := GT_in (tlw (tin_1 (List.mem_of_getElem? (i := 176) rfl))) rfl
theorem w_1_181 : (Jvm.Cond.fieldLink "OwlsLent$House" (18 : Nat) "OwlsLent$House" "shutFrom" "I") ∈ GT := GT_in (tlw (tin_1 (List.mem_of_getElem? (i := 181) rfl))) rfl
theorem w_1_183 : (Jvm.Cond.fieldLink "OwlsLent$House" (21 : Nat) "OwlsLent$House" "shutTill" "I") ∈ GT := GT_in (tlw (tin_1 (List.mem_of_getElem? (i := 183) rfl))) rfl
theorem w_1_185 : (Jvm.Cond.fieldLink "OwlsLent$House" (24 : Nat) "OwlsLent$House" "sized" "Z") ∈ GT := GT_in (tlw (tin_1 (List.mem_of_getElem? (i := 185) rfl))) rfl
theorem w_1_187 : (Jvm.Cond.fieldLink "OwlsLent$House" (28 : Nat) "OwlsLent$House" "shutTold" "Z") ∈ GT := GT_in (tlw (tin_1 (List.mem_of_getElem? (i := 187) rfl))) rfl
theorem w_1_189 : (Jvm.Cond.fieldLink "OwlsLent$House" (31 : Nat) "OwlsLent$House" "beds" "I") ∈ GT := GT_in (tlw (tin_1 (List.mem_of_getElem? (i := 189) rfl))) rfl
theorem w_1_195 : (Jvm.Cond.fieldLink "OwlsLent$House" (34 : Nat) "OwlsLent$House" "owls" "I") ∈ GT := GT_in (tlw (tin_1 (List.mem_of_getElem? (i := 195) rfl))) rfl
theorem w_1_203 : (Jvm.Cond.fieldLink "OwlsLent$House" (37 : Nat) "OwlsLent$House" "sounds" "I") ∈ GT := GT_in (tlw (tin_1 (List.mem_of_getElem? (i := 203) rfl))) rfl
theorem w_1_209 : (Jvm.Cond.fieldLink "OwlsLent$House" (40 : Nat) "OwlsLent$House" "bedName" "[J") ∈ GT := GT_in (tlw (tin_1 (List.mem_of_getElem? (i := 209) rfl))) rfl
theorem w_1_213 : (Jvm.Cond.fieldLink "OwlsLent$House" (44 : Nat) "OwlsLent$House" "owlName" "[J") ∈ GT := GT_in (tlw (tin_1 (List.mem_of_getElem? (i := 213) rfl))) rfl
theorem w_1_218 : (Jvm.Cond.fieldLink "OwlsLent$House" (47 : Nat) "OwlsLent$House" "soundName" "[J") ∈ GT := GT_in (tlw (tin_1 (List.mem_of_getElem? (i := 218) rfl))) rfl
theorem w_1_221 : (Jvm.Cond.fieldLink "OwlsLent$House" (52 : Nat) "OwlsLent$House" "bedRow" "[[I") ∈ GT := GT_in (tlw (tin_1 (List.mem_of_getElem? (i := 221) rfl))) rfl
theorem w_1_225 : (Jvm.Cond.fieldLink "OwlsLent$House" (55 : Nat) "OwlsLent$House" "owlRow" "[[I") ∈ GT := GT_in (tlw (tin_1 (List.mem_of_getElem? (i := 225) rfl))) rfl
theorem w_1_229 : (Jvm.Cond.fieldLink "OwlsLent$House" (58 : Nat) "OwlsLent$House" "soundRow" "[[I") ∈ GT := GT_in (tlw (tin_1 (List.mem_of_getElem? (i := 229) rfl))) rfl
theorem w_1_234 : (Jvm.Cond.lays "OwlsLent$House" "OwlsLent$House" "wide" "I") ∈ GT := GT_in (tlw (tin_1 (List.mem_of_getElem? (i := 234) rfl))) rfl
theorem w_1_236 : (Jvm.Cond.lays "OwlsLent$House" "OwlsLent$House" "high" "I") ∈ GT := GT_in (tlw (tin_1 (List.mem_of_getElem? (i := 236) rfl))) rfl
theorem w_1_238 : (Jvm.Cond.lays "OwlsLent$House" "OwlsLent$House" "shutFrom" "I") ∈ GT := GT_in (tlw (tin_1 (List.mem_of_getElem? (i := 238) rfl))) rfl
theorem w_2_0 : (Jvm.Cond.lays "OwlsLent$House" "OwlsLent$House" "shutTill" "I") ∈ GT := GT_in (tlw (tin_2 (List.mem_of_getElem? (i := 0) rfl))) rfl
theorem w_2_2 : (Jvm.Cond.lays "OwlsLent$House" "OwlsLent$House" "sized" "Z") ∈ GT := GT_in (tlw (tin_2 (List.mem_of_getElem? (i := 2) rfl))) rfl
theorem w_2_4 : (Jvm.Cond.lays "OwlsLent$House" "OwlsLent$House" "shutTold" "Z") ∈ GT := GT_in (tlw (tin_2 (List.mem_of_getElem? (i := 4) rfl))) rfl
theorem w_2_6 : (Jvm.Cond.lays "OwlsLent$House" "OwlsLent$House" "beds" "I") ∈ GT := GT_in (tlw (tin_2 (List.mem_of_getElem? (i := 6) rfl))) rfl
theorem w_2_8 : (Jvm.Cond.lays "OwlsLent$House" "OwlsLent$House" "owls" "I") ∈ GT := GT_in (tlw (tin_2 (List.mem_of_getElem? (i := 8) rfl))) rfl
theorem w_2_10 : (Jvm.Cond.lays "OwlsLent$House" "OwlsLent$House" "sounds" "I") ∈ GT := GT_in (tlw (tin_2 (List.mem_of_getElem? (i := 10) rfl))) rfl
theorem w_2_12 : (Jvm.Cond.laysFinal "OwlsLent$House" "OwlsLent$House" "bedName" "[J") ∈ GT := GT_in (tlw (tin_2 (List.mem_of_getElem? (i := 12) rfl))) rfl
theorem w_2_14 : (Jvm.Cond.laysFinal "OwlsLent$House" "OwlsLent$House" "owlName" "[J") ∈ GT := GT_in (tlw (tin_2 (List.mem_of_getElem? (i := 14) rfl))) rfl
theorem w_2_16 : (Jvm.Cond.laysFinal "OwlsLent$House" "OwlsLent$House" "soundName" "[J") ∈ GT := GT_in (tlw (tin_2 (List.mem_of_getElem? (i := 16) rfl))) rfl
theorem w_2_18 : (Jvm.Cond.laysFinal "OwlsLent$House" "OwlsLent$House" "bedRow" "[[I") ∈ GT := GT_in (tlw (tin_2 (List.mem_of_getElem? (i := 18) rfl))) rfl
theorem w_2_20 : (Jvm.Cond.laysFinal "OwlsLent$House" "OwlsLent$House" "owlRow" "[[I") ∈ GT := GT_in (tlw (tin_2 (List.mem_of_getElem? (i := 20) rfl))) rfl
theorem w_2_22 : (Jvm.Cond.laysFinal "OwlsLent$House" "OwlsLent$House" "soundRow" "[[I") ∈ GT := GT_in (tlw (tin_2 (List.mem_of_getElem? (i := 22) rfl))) rfl
theorem w_2_31 : (Jvm.Cond.fieldLink "OwlsLent$State" (9 : Nat) "OwlsLent$State" "hour" "I") ∈ GT := GT_in (tlw (tin_2 (List.mem_of_getElem? (i := 31) rfl))) rfl
theorem w_2_35 : (Jvm.Cond.fieldLink "OwlsLent$State" (15 : Nat) "OwlsLent$State" "hushed" "I") ∈ GT := GT_in (tlw (tin_2 (List.mem_of_getElem? (i := 35) rfl))) rfl
theorem w_2_37 : (Jvm.Cond.fieldLink "OwlsLent$State" (18 : Nat) "OwlsLent$State" "shouts" "I") ∈ GT := GT_in (tlw (tin_2 (List.mem_of_getElem? (i := 37) rfl))) rfl
theorem w_2_39 : (Jvm.Cond.fieldLink "OwlsLent$State" (21 : Nat) "OwlsLent$State" "shoutRow" "[I") ∈ GT := GT_in (tlw (tin_2 (List.mem_of_getElem? (i := 39) rfl))) rfl
theorem w_2_40 : (Jvm.Cond.fieldLink "OwlsLent$State" (25 : Nat) "OwlsLent$State" "owlBed" "[I") ∈ GT := GT_in (tlw (tin_2 (List.mem_of_getElem? (i := 40) rfl))) rfl
theorem w_2_43 : (Jvm.Cond.fieldLink "OwlsLent$State" (28 : Nat) "OwlsLent$State" "knows" "[I") ∈ GT := GT_in (tlw (tin_2 (List.mem_of_getElem? (i := 43) rfl))) rfl
theorem w_2_46 : (Jvm.Cond.fieldLink "OwlsLent$State" (31 : Nat) "OwlsLent$State" "misses" "[I") ∈ GT := GT_in (tlw (tin_2 (List.mem_of_getElem? (i := 46) rfl))) rfl
theorem w_2_49 : (Jvm.Cond.lays "OwlsLent$State" "OwlsLent$State" "hour" "I") ∈ GT := GT_in (tlw (tin_2 (List.mem_of_getElem? (i := 49) rfl))) rfl
theorem w_2_51 : (Jvm.Cond.lays "OwlsLent$State" "OwlsLent$State" "hushed" "I") ∈ GT := GT_in (tlw (tin_2 (List.mem_of_getElem? (i := 51) rfl))) rfl
theorem w_2_53 : (Jvm.Cond.lays "OwlsLent$State" "OwlsLent$State" "shouts" "I") ∈ GT := GT_in (tlw (tin_2 (List.mem_of_getElem? (i := 53) rfl))) rfl
theorem w_2_55 : (Jvm.Cond.laysFinal "OwlsLent$State" "OwlsLent$State" "shoutRow" "[I") ∈ GT := GT_in (tlw (tin_2 (List.mem_of_getElem? (i := 55) rfl))) rfl
theorem w_2_57 : (Jvm.Cond.laysFinal "OwlsLent$State" "OwlsLent$State" "owlBed" "[I") ∈ GT := GT_in (tlw (tin_2 (List.mem_of_getElem? (i := 57) rfl))) rfl
theorem w_2_59 : (Jvm.Cond.laysFinal "OwlsLent$State" "OwlsLent$State" "knows" "[I") ∈ GT := GT_in (tlw (tin_2 (List.mem_of_getElem? (i := 59) rfl))) rfl
theorem w_2_61 : (Jvm.Cond.laysFinal "OwlsLent$State" "OwlsLent$State" "misses" "[I") ∈ GT := GT_in (tlw (tin_2 (List.mem_of_getElem? (i := 61) rfl))) rfl
theorem w_2_70 : (Jvm.Cond.fieldLink "OwlsLent$Sentence" (11 : Nat) "OwlsLent$Sentence" "is" "Z") ∈ GT := GT_in (tlw (tin_2 (List.mem_of_getElem? (i := 70) rfl))) rfl
theorem w_2_73 : (Jvm.Cond.fieldLink "OwlsLent$Sentence" (15 : Nat) "OwlsLent$Sentence" "ones" "I") ∈ GT := GT_in (tlw (tin_2 (List.mem_of_getElem? (i := 73) rfl))) rfl
theorem w_2_75 : (Jvm.Cond.fieldLink "OwlsLent$Sentence" (19 : Nat) "OwlsLent$Sentence" "size" "I") ∈ GT := GT_in (tlw (tin_2 (List.mem_of_getElem? (i := 75) rfl))) rfl
theorem w_2_76 : (Jvm.Cond.fieldLink "OwlsLent$Sentence" (22 : Nat) "OwlsLent$Sentence" "steps" "[I") ∈ GT := GT_in (tlw (tin_2 (List.mem_of_getElem? (i := 76) rfl))) rfl
theorem w_2_77 : (Jvm.Cond.fieldLink "OwlsLent$Sentence" (26 : Nat) "OwlsLent$Sentence" "signs" "[I") ∈ GT := GT_in (tlw (tin_2 (List.mem_of_getElem? (i := 77) rfl))) rfl
theorem w_2_78 : (Jvm.Cond.fieldLink "OwlsLent$Sentence" (29 : Nat) "OwlsLent$Sentence" "numbers" "[I") ∈ GT := GT_in (tlw (tin_2 (List.mem_of_getElem? (i := 78) rfl))) rfl
theorem w_2_79 : (Jvm.Cond.fieldLink "OwlsLent$Sentence" (32 : Nat) "OwlsLent$Sentence" "stack" "[Z") ∈ GT := GT_in (tlw (tin_2 (List.mem_of_getElem? (i := 79) rfl))) rfl
theorem w_2_80 : (Jvm.Cond.lays "OwlsLent$Sentence" "OwlsLent$Sentence" "is" "Z") ∈ GT := GT_in (tlw (tin_2 (List.mem_of_getElem? (i := 80) rfl))) rfl
theorem w_2_82 : (Jvm.Cond.lays "OwlsLent$Sentence" "OwlsLent$Sentence" "ones" "I") ∈ GT := GT_in (tlw (tin_2 (List.mem_of_getElem? (i := 82) rfl))) rfl
theorem w_2_84 : (Jvm.Cond.lays "OwlsLent$Sentence" "OwlsLent$Sentence" "size" "I") ∈ GT := GT_in (tlw (tin_2 (List.mem_of_getElem? (i := 84) rfl))) rfl
theorem w_2_86 : (Jvm.Cond.laysFinal "OwlsLent$Sentence" "OwlsLent$Sentence" "steps" "[I") ∈ GT := GT_in (tlw (tin_2 (List.mem_of_getElem? (i := 86) rfl))) rfl
theorem w_2_88 : (Jvm.Cond.laysFinal "OwlsLent$Sentence" "OwlsLent$Sentence" "signs" "[I") ∈ GT := GT_in (tlw (tin_2 (List.mem_of_getElem? (i := 88) rfl))) rfl
theorem w_2_90 : (Jvm.Cond.laysFinal "OwlsLent$Sentence" "OwlsLent$Sentence" "numbers" "[I") ∈ GT := GT_in (tlw (tin_2 (List.mem_of_getElem? (i := 90) rfl))) rfl
theorem w_2_92 : (Jvm.Cond.laysFinal "OwlsLent$Sentence" "OwlsLent$Sentence" "stack" "[Z") ∈ GT := GT_in (tlw (tin_2 (List.mem_of_getElem? (i := 92) rfl))) rfl
theorem w_2_96 : (Jvm.Cond.fieldLink "OwlsLent$Image" (7 : Nat) "OwlsLent$Image" "is" "Z") ∈ GT := GT_in (tlw (tin_2 (List.mem_of_getElem? (i := 96) rfl))) rfl
theorem w_2_98 : (Jvm.Cond.fieldLink "OwlsLent$Image" (16 : Nat) "OwlsLent$Image" "home" "LOwlsLent$House;") ∈ GT := GT_in (tlw (tin_2 (List.mem_of_getElem? (i := 98) rfl))) rfl
theorem w_2_100 : (Jvm.Cond.fieldLink "OwlsLent$Image" (23 : Nat) "OwlsLent$Image" "state" "LOwlsLent$State;") ∈ GT := GT_in (tlw (tin_2 (List.mem_of_getElem? (i := 100) rfl))) rfl
theorem w_2_102 : (Jvm.Cond.fieldLink "OwlsLent$Image" (30 : Nat) "OwlsLent$Image" "saying" "LOwlsLent$Sentence;") ∈ GT := GT_in (tlw (tin_2 (List.mem_of_getElem? (i := 102) rfl))) rfl
theorem w_2_104 : (Jvm.Cond.lays "OwlsLent$Image" "OwlsLent$Image" "is" "Z") ∈ GT := GT_in (tlw (tin_2 (List.mem_of_getElem? (i := 104) rfl))) rfl
theorem w_2_106 : (Jvm.Cond.laysFinal "OwlsLent$Image" "OwlsLent$Image" "home" "LOwlsLent$House;") ∈ GT := GT_in (tlw (tin_2 (List.mem_of_getElem? (i := 106) rfl))) rfl
theorem w_2_108 : (Jvm.Cond.laysFinal "OwlsLent$Image" "OwlsLent$Image" "state" "LOwlsLent$State;") ∈ GT := GT_in (tlw (tin_2 (List.mem_of_getElem? (i := 108) rfl))) rfl
theorem w_2_110 : (Jvm.Cond.laysFinal "OwlsLent$Image" "OwlsLent$Image" "saying" "LOwlsLent$Sentence;") ∈ GT := GT_in (tlw (tin_2 (List.mem_of_getElem? (i := 110) rfl))) rfl
theorem w_2_125 : (Jvm.Cond.fieldLink "OwlsLent$Book" (13 : Nat) "OwlsLent$Book" "rows" "[[I") ∈ GT := GT_in (tlw (tin_2 (List.mem_of_getElem? (i := 125) rfl))) rfl
theorem w_2_126 : (Jvm.Cond.fieldLink "OwlsLent$Book" (16 : Nat) "OwlsLent$Book" "lines" "I") ∈ GT := GT_in (tlw (tin_2 (List.mem_of_getElem? (i := 126) rfl))) rfl
theorem w_2_127 : (Jvm.Cond.fieldLink "OwlsLent$Book" (20 : Nat) "OwlsLent$Book" "judged" "Z") ∈ GT := GT_in (tlw (tin_2 (List.mem_of_getElem? (i := 127) rfl))) rfl
theorem w_2_129 : (Jvm.Cond.fieldLink "OwlsLent$Book" (24 : Nat) "OwlsLent$Book" "why" "I") ∈ GT := GT_in (tlw (tin_2 (List.mem_of_getElem? (i := 129) rfl))) rfl
theorem w_2_131 : (Jvm.Cond.fieldLink "OwlsLent$Book" (27 : Nat) "OwlsLent$Book" "ahead" "I") ∈ GT := GT_in (tlw (tin_2 (List.mem_of_getElem? (i := 131) rfl))) rfl
theorem w_2_133 : (Jvm.Cond.fieldLink "OwlsLent$Book" (30 : Nat) "OwlsLent$Book" "hourThen" "I") ∈ GT := GT_in (tlw (tin_2 (List.mem_of_getElem? (i := 133) rfl))) rfl
theorem w_2_135 : (Jvm.Cond.fieldLink "OwlsLent$Book" (33 : Nat) "OwlsLent$Book" "lookingThen" "I") ∈ GT := GT_in (tlw (tin_2 (List.mem_of_getElem? (i := 135) rfl))) rfl
theorem w_2_137 : (Jvm.Cond.laysFinal "OwlsLent$Book" "OwlsLent$Book" "rows" "[[I") ∈ GT := GT_in (tlw (tin_2 (List.mem_of_getElem? (i := 137) rfl))) rfl
theorem w_2_139 : (Jvm.Cond.lays "OwlsLent$Book" "OwlsLent$Book" "lines" "I") ∈ GT := GT_in (tlw (tin_2 (List.mem_of_getElem? (i := 139) rfl))) rfl
theorem w_2_141 : (Jvm.Cond.lays "OwlsLent$Book" "OwlsLent$Book" "judged" "Z") ∈ GT := GT_in (tlw (tin_2 (List.mem_of_getElem? (i := 141) rfl))) rfl
theorem w_2_143 : (Jvm.Cond.lays "OwlsLent$Book" "OwlsLent$Book" "why" "I") ∈ GT := GT_in (tlw (tin_2 (List.mem_of_getElem? (i := 143) rfl))) rfl
theorem w_2_145 : (Jvm.Cond.lays "OwlsLent$Book" "OwlsLent$Book" "ahead" "I") ∈ GT := GT_in (tlw (tin_2 (List.mem_of_getElem? (i := 145) rfl))) rfl
theorem w_2_147 : (Jvm.Cond.lays "OwlsLent$Book" "OwlsLent$Book" "hourThen" "I") ∈ GT := GT_in (tlw (tin_2 (List.mem_of_getElem? (i := 147) rfl))) rfl
theorem w_2_149 : (Jvm.Cond.lays "OwlsLent$Book" "OwlsLent$Book" "lookingThen" "I") ∈ GT := GT_in (tlw (tin_2 (List.mem_of_getElem? (i := 149) rfl))) rfl
theorem w_2_163 : (Jvm.Cond.fieldLink "OwlsLent$Undo" (13 : Nat) "OwlsLent$Undo" "states" "[LOwlsLent$State;") ∈ GT := GT_in (tlw (tin_2 (List.mem_of_getElem? (i := 163) rfl))) rfl
theorem w_2_164 : (Jvm.Cond.fieldLink "OwlsLent$Undo" (17 : Nat) "OwlsLent$Undo" "top" "I") ∈ GT := GT_in (tlw (tin_2 (List.mem_of_getElem? (i := 164) rfl))) rfl
theorem w_2_165 : (Jvm.Cond.fieldLink "OwlsLent$Undo" (21 : Nat) "OwlsLent$Undo" "count" "I") ∈ GT := GT_in (tlw (tin_2 (List.mem_of_getElem? (i := 165) rfl))) rfl
theorem w_2_166 : (Jvm.Cond.laysFinal "OwlsLent$Undo" "OwlsLent$Undo" "states" "[LOwlsLent$State;") ∈ GT := GT_in (tlw (tin_2 (List.mem_of_getElem? (i := 166) rfl))) rfl
theorem w_2_168 : (Jvm.Cond.lays "OwlsLent$Undo" "OwlsLent$Undo" "top" "I") ∈ GT := GT_in (tlw (tin_2 (List.mem_of_getElem? (i := 168) rfl))) rfl
theorem w_2_170 : (Jvm.Cond.lays "OwlsLent$Undo" "OwlsLent$Undo" "count" "I") ∈ GT := GT_in (tlw (tin_2 (List.mem_of_getElem? (i := 170) rfl))) rfl
theorem w_2_179 : (Jvm.Cond.fieldLink "OwlsLent$Spots" (11 : Nat) "OwlsLent$Spots" "cells" "[I") ∈ GT := GT_in (tlw (tin_2 (List.mem_of_getElem? (i := 179) rfl))) rfl
theorem w_2_181 : (Jvm.Cond.fieldLink "OwlsLent$Spots" (15 : Nat) "OwlsLent$Spots" "cellsTried" "[I") ∈ GT := GT_in (tlw (tin_2 (List.mem_of_getElem? (i := 181) rfl))) rfl
theorem w_2_182 : (Jvm.Cond.fieldLink "OwlsLent$Spots" (18 : Nat) "OwlsLent$Spots" "voice" "[I") ∈ GT := GT_in (tlw (tin_2 (List.mem_of_getElem? (i := 182) rfl))) rfl
theorem w_2_183 : (Jvm.Cond.fieldLink "OwlsLent$Spots" (21 : Nat) "OwlsLent$Spots" "tally" "[I") ∈ GT := GT_in (tlw (tin_2 (List.mem_of_getElem? (i := 183) rfl))) rfl
theorem w_2_184 : (Jvm.Cond.fieldLink "OwlsLent$Spots" (24 : Nat) "OwlsLent$Spots" "count" "I") ∈ GT := GT_in (tlw (tin_2 (List.mem_of_getElem? (i := 184) rfl))) rfl
theorem w_2_186 : (Jvm.Cond.fieldLink "OwlsLent$Spots" (28 : Nat) "OwlsLent$Spots" "nextOwl" "I") ∈ GT := GT_in (tlw (tin_2 (List.mem_of_getElem? (i := 186) rfl))) rfl
theorem w_2_188 : (Jvm.Cond.laysFinal "OwlsLent$Spots" "OwlsLent$Spots" "cells" "[I") ∈ GT := GT_in (tlw (tin_2 (List.mem_of_getElem? (i := 188) rfl))) rfl
theorem w_2_190 : (Jvm.Cond.laysFinal "OwlsLent$Spots" "OwlsLent$Spots" "cellsTried" "[I") ∈ GT := GT_in (tlw (tin_2 (List.mem_of_getElem? (i := 190) rfl))) rfl
theorem w_2_192 : (Jvm.Cond.laysFinal "OwlsLent$Spots" "OwlsLent$Spots" "voice" "[I") ∈ GT := GT_in (tlw (tin_2 (List.mem_of_getElem? (i := 192) rfl))) rfl
theorem w_2_194 : (Jvm.Cond.laysFinal "OwlsLent$Spots" "OwlsLent$Spots" "tally" "[I") ∈ GT := GT_in (tlw (tin_2 (List.mem_of_getElem? (i := 194) rfl))) rfl
theorem w_2_196 : (Jvm.Cond.lays "OwlsLent$Spots" "OwlsLent$Spots" "count" "I") ∈ GT := GT_in (tlw (tin_2 (List.mem_of_getElem? (i := 196) rfl))) rfl
theorem w_2_198 : (Jvm.Cond.lays "OwlsLent$Spots" "OwlsLent$Spots" "nextOwl" "I") ∈ GT := GT_in (tlw (tin_2 (List.mem_of_getElem? (i := 198) rfl))) rfl
theorem w_2_208 : (Jvm.Cond.fieldLink "OwlsLent$Best" (11 : Nat) "OwlsLent$Best" "gain" "[[I") ∈ GT := GT_in (tlw (tin_2 (List.mem_of_getElem? (i := 208) rfl))) rfl
theorem w_2_209 : (Jvm.Cond.fieldLink "OwlsLent$Best" (16 : Nat) "OwlsLent$Best" "chosen" "[I") ∈ GT := GT_in (tlw (tin_2 (List.mem_of_getElem? (i := 209) rfl))) rfl
theorem w_2_210 : (Jvm.Cond.fieldLink "OwlsLent$Best" (20 : Nat) "OwlsLent$Best" "found" "[I") ∈ GT := GT_in (tlw (tin_2 (List.mem_of_getElem? (i := 210) rfl))) rfl
theorem w_2_212 : (Jvm.Cond.fieldLink "OwlsLent$Best" (23 : Nat) "OwlsLent$Best" "owls" "I") ∈ GT := GT_in (tlw (tin_2 (List.mem_of_getElem? (i := 212) rfl))) rfl
theorem w_2_214 : (Jvm.Cond.fieldLink "OwlsLent$Best" (27 : Nat) "OwlsLent$Best" "most" "I") ∈ GT := GT_in (tlw (tin_2 (List.mem_of_getElem? (i := 214) rfl))) rfl
theorem w_2_215 : (Jvm.Cond.laysFinal "OwlsLent$Best" "OwlsLent$Best" "gain" "[[I") ∈ GT := GT_in (tlw (tin_2 (List.mem_of_getElem? (i := 215) rfl))) rfl
theorem w_2_217 : (Jvm.Cond.laysFinal "OwlsLent$Best" "OwlsLent$Best" "chosen" "[I") ∈ GT := GT_in (tlw (tin_2 (List.mem_of_getElem? (i := 217) rfl))) rfl
theorem w_2_219 : (Jvm.Cond.laysFinal "OwlsLent$Best" "OwlsLent$Best" "found" "[I") ∈ GT := GT_in (tlw (tin_2 (List.mem_of_getElem? (i := 219) rfl))) rfl
theorem w_2_221 : (Jvm.Cond.lays "OwlsLent$Best" "OwlsLent$Best" "owls" "I") ∈ GT := GT_in (tlw (tin_2 (List.mem_of_getElem? (i := 221) rfl))) rfl
theorem w_2_223 : (Jvm.Cond.lays "OwlsLent$Best" "OwlsLent$Best" "most" "I") ∈ GT := GT_in (tlw (tin_2 (List.mem_of_getElem? (i := 223) rfl))) rfl
theorem w_2_226 : (Jvm.Cond.fieldLink "OwlsLent" (14 : Nat) "OwlsLent" "tape" "LOwlsLent$Tape;") ∈ GT := GT_in (tlw (tin_2 (List.mem_of_getElem? (i := 226) rfl))) rfl
theorem w_2_227 : (Jvm.Cond.fieldLink "OwlsLent" (23 : Nat) "OwlsLent" "tokens" "LOwlsLent$Tokens;") ∈ GT := GT_in (tlw (tin_2 (List.mem_of_getElem? (i := 227) rfl))) rfl
theorem w_2_228 : (Jvm.Cond.fieldLink "OwlsLent" (30 : Nat) "OwlsLent" "present" "LOwlsLent$Image;") ∈ GT := GT_in (tlw (tin_2 (List.mem_of_getElem? (i := 228) rfl))) rfl
theorem w_2_229 : (Jvm.Cond.fieldLink "OwlsLent" (34 : Nat) "OwlsLent" "kept" "[LOwlsLent$Image;") ∈ GT := GT_in (tlw (tin_2 (List.mem_of_getElem? (i := 229) rfl))) rfl
theorem w_2_230 : (Jvm.Cond.fieldLink "OwlsLent" (41 : Nat) "OwlsLent" "houseRead" "LOwlsLent$House;") ∈ GT := GT_in (tlw (tin_2 (List.mem_of_getElem? (i := 230) rfl))) rfl
theorem w_2_231 : (Jvm.Cond.fieldLink "OwlsLent" (48 : Nat) "OwlsLent" "sentenceRead" "LOwlsLent$Sentence;") ∈ GT := GT_in (tlw (tin_2 (List.mem_of_getElem? (i := 231) rfl))) rfl
theorem w_2_232 : (Jvm.Cond.fieldLink "OwlsLent" (55 : Nat) "OwlsLent" "bookRead" "LOwlsLent$Book;") ∈ GT := GT_in (tlw (tin_2 (List.mem_of_getElem? (i := 232) rfl))) rfl
theorem w_2_233 : (Jvm.Cond.fieldLink "OwlsLent" (62 : Nat) "OwlsLent" "trial" "LOwlsLent$State;") ∈ GT := GT_in (tlw (tin_2 (List.mem_of_getElem? (i := 233) rfl))) rfl
theorem w_2_234 : (Jvm.Cond.fieldLink "OwlsLent" (69 : Nat) "OwlsLent" "acts" "LOwlsLent$Undo;") ∈ GT := GT_in (tlw (tin_2 (List.mem_of_getElem? (i := 234) rfl))) rfl
theorem w_2_235 : (Jvm.Cond.fieldLink "OwlsLent" (76 : Nat) "OwlsLent" "spotted" "LOwlsLent$Spots;") ∈ GT := GT_in (tlw (tin_2 (List.mem_of_getElem? (i := 235) rfl))) rfl
theorem w_2_236 : (Jvm.Cond.fieldLink "OwlsLent" (83 : Nat) "OwlsLent" "placed" "LOwlsLent$Best;") ∈ GT := GT_in (tlw (tin_2 (List.mem_of_getElem? (i := 236) rfl))) rfl
theorem w_2_237 : (Jvm.Cond.fieldLink "OwlsLent" (87 : Nat) "OwlsLent" "written" "LOwlsLent$Tape;") ∈ GT := GT_in (tlw (tin_2 (List.mem_of_getElem? (i := 237) rfl))) rfl
theorem w_2_238 : (Jvm.Cond.fieldLink "OwlsLent" (90 : Nat) "OwlsLent" "codes" "[I") ∈ GT := GT_in (tlw (tin_2 (List.mem_of_getElem? (i := 238) rfl))) rfl
theorem w_2_239 : (Jvm.Cond.fieldLink "OwlsLent" (94 : Nat) "OwlsLent" "codesTried" "[I") ∈ GT := GT_in (tlw (tin_2 (List.mem_of_getElem? (i := 239) rfl))) rfl
theorem w_3_0 : (Jvm.Cond.fieldLink "OwlsLent" (97 : Nat) "OwlsLent" "codeCount" "I") ∈ GT := GT_in (tlw (tin_3 (List.mem_of_getElem? (i := 0) rfl))) rfl
theorem w_3_1 : (Jvm.Cond.fieldLink "OwlsLent" (101 : Nat) "OwlsLent" "leastKeen" "I") ∈ GT := GT_in (tlw (tin_3 (List.mem_of_getElem? (i := 1) rfl))) rfl
theorem w_3_2 : (Jvm.Cond.fieldLink "OwlsLent" (104 : Nat) "OwlsLent" "mostKeen" "I") ∈ GT := GT_in (tlw (tin_3 (List.mem_of_getElem? (i := 2) rfl))) rfl
theorem w_3_3 : (Jvm.Cond.fieldLink "OwlsLent" (107 : Nat) "OwlsLent" "duelFirst" "I") ∈ GT := GT_in (tlw (tin_3 (List.mem_of_getElem? (i := 3) rfl))) rfl
theorem w_3_4 : (Jvm.Cond.fieldLink "OwlsLent" (110 : Nat) "OwlsLent" "faultKind" "I") ∈ GT := GT_in (tlw (tin_3 (List.mem_of_getElem? (i := 4) rfl))) rfl
theorem w_3_5 : (Jvm.Cond.laysFinal "OwlsLent" "OwlsLent" "tape" "LOwlsLent$Tape;") ∈ GT := GT_in (tlw (tin_3 (List.mem_of_getElem? (i := 5) rfl))) rfl
theorem w_3_7 : (Jvm.Cond.laysFinal "OwlsLent" "OwlsLent" "tokens" "LOwlsLent$Tokens;") ∈ GT := GT_in (tlw (tin_3 (List.mem_of_getElem? (i := 7) rfl))) rfl
theorem w_3_9 : (Jvm.Cond.laysFinal "OwlsLent" "OwlsLent" "present" "LOwlsLent$Image;") ∈ GT := GT_in (tlw (tin_3 (List.mem_of_getElem? (i := 9) rfl))) rfl
theorem w_3_11 : (Jvm.Cond.laysFinal "OwlsLent" "OwlsLent" "kept" "[LOwlsLent$Image;") ∈ GT := GT_in (tlw (tin_3 (List.mem_of_getElem? (i := 11) rfl))) rfl
theorem w_3_13 : (Jvm.Cond.laysFinal "OwlsLent" "OwlsLent" "houseRead" "LOwlsLent$House;") ∈ GT := GT_in (tlw (tin_3 (List.mem_of_getElem? (i := 13) rfl))) rfl
theorem w_3_15 : (Jvm.Cond.laysFinal "OwlsLent" "OwlsLent" "sentenceRead" "LOwlsLent$Sentence;") ∈ GT := GT_in (tlw (tin_3 (List.mem_of_getElem? (i := 15) rfl))) rfl
theorem w_3_17 : (Jvm.Cond.laysFinal "OwlsLent" "OwlsLent" "bookRead" "LOwlsLent$Book;") ∈ GT := GT_in (tlw (tin_3 (List.mem_of_getElem? (i := 17) rfl))) rfl
theorem w_3_19 : (Jvm.Cond.laysFinal "OwlsLent" "OwlsLent" "trial" "LOwlsLent$State;") ∈ GT := GT_in (tlw (tin_3 (List.mem_of_getElem? (i := 19) rfl))) rfl
theorem w_3_21 : (Jvm.Cond.laysFinal "OwlsLent" "OwlsLent" "acts" "LOwlsLent$Undo;") ∈ GT := GT_in (tlw (tin_3 (List.mem_of_getElem? (i := 21) rfl))) rfl
theorem w_3_23 : (Jvm.Cond.laysFinal "OwlsLent" "OwlsLent" "spotted" "LOwlsLent$Spots;") ∈ GT := GT_in (tlw (tin_3 (List.mem_of_getElem? (i := 23) rfl))) rfl
theorem w_3_25 : (Jvm.Cond.laysFinal "OwlsLent" "OwlsLent" "placed" "LOwlsLent$Best;") ∈ GT := GT_in (tlw (tin_3 (List.mem_of_getElem? (i := 25) rfl))) rfl
theorem w_3_27 : (Jvm.Cond.laysFinal "OwlsLent" "OwlsLent" "written" "LOwlsLent$Tape;") ∈ GT := GT_in (tlw (tin_3 (List.mem_of_getElem? (i := 27) rfl))) rfl
theorem w_3_29 : (Jvm.Cond.laysFinal "OwlsLent" "OwlsLent" "codes" "[I") ∈ GT := GT_in (tlw (tin_3 (List.mem_of_getElem? (i := 29) rfl))) rfl
theorem w_3_31 : (Jvm.Cond.laysFinal "OwlsLent" "OwlsLent" "codesTried" "[I") ∈ GT := GT_in (tlw (tin_3 (List.mem_of_getElem? (i := 31) rfl))) rfl
theorem w_3_33 : (Jvm.Cond.lays "OwlsLent" "OwlsLent" "codeCount" "I") ∈ GT := GT_in (tlw (tin_3 (List.mem_of_getElem? (i := 33) rfl))) rfl
theorem w_3_35 : (Jvm.Cond.lays "OwlsLent" "OwlsLent" "leastKeen" "I") ∈ GT := GT_in (tlw (tin_3 (List.mem_of_getElem? (i := 35) rfl))) rfl
theorem w_3_37 : (Jvm.Cond.lays "OwlsLent" "OwlsLent" "mostKeen" "I") ∈ GT := GT_in (tlw (tin_3 (List.mem_of_getElem? (i := 37) rfl))) rfl
theorem w_3_39 : (Jvm.Cond.lays "OwlsLent" "OwlsLent" "duelFirst" "I") ∈ GT := GT_in (tlw (tin_3 (List.mem_of_getElem? (i := 39) rfl))) rfl
theorem w_3_41 : (Jvm.Cond.lays "OwlsLent" "OwlsLent" "faultKind" "I") ∈ GT := GT_in (tlw (tin_3 (List.mem_of_getElem? (i := 41) rfl))) rfl
theorem w_3_48 : (Jvm.Cond.methodLink "OwlsLent" (116 : Nat) ({ cls := "OwlsLent$Tape", name := "addFour", desc := "(I)V" } : Jvm.MethodName)) ∈ GT := GT_in (tlw (tin_3 (List.mem_of_getElem? (i := 48) rfl))) rfl
theorem w_3_49 : (Jvm.Cond.instanceMethod ({ cls := "OwlsLent$Tape", name := "addFour", desc := "(I)V" } : Jvm.MethodName)) ∈ GT := GT_in (tlw (tin_3 (List.mem_of_getElem? (i := 49) rfl))) rfl
theorem w_3_50 : (Jvm.Cond.selects "OwlsLent$Tape" ({ cls := "OwlsLent$Tape", name := "addFour", desc := "(I)V" } : Jvm.MethodName) ({ cls := "OwlsLent$Tape", name := "addFour", desc := "(I)V" } : Jvm.MethodName)) ∈ GT := GT_in (tlw (tin_3 (List.mem_of_getElem? (i := 50) rfl))) rfl
theorem w_3_51 : (Jvm.Cond.code ({ cls := "OwlsLent$Tape", name := "addFour", desc := "(I)V" } : Jvm.MethodName) prog_10_method_4_code (3 : Nat) (Option.none : Option Jvm.ClassFile.FieldType)) ∈ GT := GT_in (tlw (tin_3 (List.mem_of_getElem? (i := 51) rfl))) rfl
theorem w_3_52 : (Jvm.Cond.methodLink "OwlsLent$Tape" (23 : Nat) ({ cls := "OwlsLent$Tape", name := "add", desc := "(I)V" } : Jvm.MethodName)) ∈ GT := GT_in (tlw (tin_3 (List.mem_of_getElem? (i := 52) rfl))) rfl
theorem w_3_53 : (Jvm.Cond.instanceMethod ({ cls := "OwlsLent$Tape", name := "add", desc := "(I)V" } : Jvm.MethodName)) ∈ GT := GT_in (tlw (tin_3 (List.mem_of_getElem? (i := 53) rfl))) rfl
theorem w_3_54 : (Jvm.Cond.selects "OwlsLent$Tape" ({ cls := "OwlsLent$Tape", name := "add", desc := "(I)V" } : Jvm.MethodName) ({ cls := "OwlsLent$Tape", name := "add", desc := "(I)V" } : Jvm.MethodName)) ∈ GT := GT_in (tlw (tin_3 (List.mem_of_getElem? (i := 54) rfl))) rfl
theorem w_3_55 : (Jvm.Cond.code ({ cls := "OwlsLent$Tape", name := "add", desc := "(I)V" } : Jvm.MethodName) prog_10_method_3_code (2 : Nat) (Option.none : Option Jvm.ClassFile.FieldType)) ∈ GT := GT_in (tlw (tin_3 (List.mem_of_getElem? (i := 55) rfl))) rfl
theorem w_3_64 : (Jvm.Cond.methodLink "OwlsLent" (121 : Nat) ({ cls := "OwlsLent$Tokens", name := "start", desc := "(I)V" } : Jvm.MethodName)) ∈ GT := GT_in (tlw (tin_3 (List.mem_of_getElem? (i := 64) rfl))) rfl
theorem w_3_65 : (Jvm.Cond.instanceMethod ({ cls := "OwlsLent$Tokens", name := "start", desc := "(I)V" } : Jvm.MethodName)) ∈ GT := GT_in (tlw (tin_3 (List.mem_of_getElem? (i := 65) rfl))) rfl
theorem w_3_66 : (Jvm.Cond.selects "OwlsLent$Tokens" ({ cls := "OwlsLent$Tokens", name := "start", desc := "(I)V" } : Jvm.MethodName) ({ cls := "OwlsLent$Tokens", name := "start", desc := "(I)V" } : Jvm.MethodName)) ∈ GT := GT_in (tlw (tin_3 (List.mem_of_getElem? (i := 66) rfl))) rfl
theorem w_3_67 : (Jvm.Cond.code ({ cls := "OwlsLent$Tokens", name := "start", desc := "(I)V" } : Jvm.MethodName) prog_11_method_2_code (2 : Nat) (Option.none : Option Jvm.ClassFile.FieldType)) ∈ GT := GT_in (tlw (tin_3 (List.mem_of_getElem? (i := 67) rfl))) rfl
theorem w_3_68 : (Jvm.Cond.methodLink "OwlsLent$Tokens" (65 : Nat) ({ cls := "OwlsLent$Tokens", name := "advance", desc := "()V" } : Jvm.MethodName)) ∈ GT := GT_in (tlw (tin_3 (List.mem_of_getElem? (i := 68) rfl))) rfl
theorem w_3_69 : (Jvm.Cond.instanceMethod ({ cls := "OwlsLent$Tokens", name := "advance", desc := "()V" } : Jvm.MethodName)) ∈ GT := GT_in (tlw (tin_3 (List.mem_of_getElem? (i := 69) rfl))) rfl
theorem w_3_70 : (Jvm.Cond.selects "OwlsLent$Tokens" ({ cls := "OwlsLent$Tokens", name := "advance", desc := "()V" } : Jvm.MethodName) ({ cls := "OwlsLent$Tokens", name := "advance", desc := "()V" } : Jvm.MethodName)) ∈ GT := GT_in (tlw (tin_3 (List.mem_of_getElem? (i := 70) rfl))) rfl
theorem w_3_71 : (Jvm.Cond.code ({ cls := "OwlsLent$Tokens", name := "advance", desc := "()V" } : Jvm.MethodName) prog_11_method_3_code (2 : Nat) (Option.none : Option Jvm.ClassFile.FieldType)) ∈ GT := GT_in (tlw (tin_3 (List.mem_of_getElem? (i := 71) rfl))) rfl
theorem w_3_72 : (Jvm.Cond.methodLink "OwlsLent$Tokens" (72 : Nat) ({ cls := "OwlsLent$Tape", name := "at", desc := "(I)I" } : Jvm.MethodName)) ∈ GT := GT_in (tlw (tin_3 (List.mem_of_getElem? (i := 72) rfl))) rfl
theorem w_3_73 : (Jvm.Cond.instanceMethod ({ cls := "OwlsLent$Tape", name := "at", desc := "(I)I" } : Jvm.MethodName)) ∈ GT := GT_in (tlw (tin_3 (List.mem_of_getElem? (i := 73) rfl))) rfl
theorem w_3_74 : (Jvm.Cond.selects "OwlsLent$Tape" ({ cls := "OwlsLent$Tape", name := "at", desc := "(I)I" } : Jvm.MethodName) ({ cls := "OwlsLent$Tape", name := "at", desc := "(I)I" } : Jvm.MethodName)) ∈ GT := GT_in (tlw (tin_3 (List.mem_of_getElem? (i := 74) rfl))) rfl
theorem w_3_75 : (Jvm.Cond.code ({ cls := "OwlsLent$Tape", name := "at", desc := "(I)I" } : Jvm.MethodName) prog_10_method_2_code (2 : Nat) (Option.some Jvm.ClassFile.FieldType.int)) ∈ GT := GT_in (tlw (tin_3 (List.mem_of_getElem? (i := 75) rfl))) rfl
theorem w_3_76 : (Jvm.Cond.methodLink "OwlsLent$Tokens" (76 : Nat) ({ cls := "OwlsLent$Tokens", name := "readRun", desc := "()V" } : Jvm.MethodName)) ∈ GT := GT_in (tlw (tin_3 (List.mem_of_getElem? (i := 76) rfl))) rfl
theorem w_3_78 : (Jvm.Cond.instanceMethod ({ cls := "OwlsLent$Tokens", name := "readRun", desc := "()V" } : Jvm.MethodName)) ∈ GT := GT_in (tlw (tin_3 (List.mem_of_getElem? (i := 78) rfl))) rfl
theorem w_3_79 : (Jvm.Cond.code ({ cls := "OwlsLent$Tokens", name := "readRun", desc := "()V" } : Jvm.MethodName) prog_11_method_4_code (4 : Nat) (Option.none : Option Jvm.ClassFile.FieldType)) ∈ GT := GT_in (tlw (tin_3 (List.mem_of_getElem? (i := 79) rfl))) rfl
theorem w_3_80 : (Jvm.Cond.methodLink "OwlsLent$Tokens" (79 : Nat) ({ cls := "OwlsLent$Tokens", name := "numberOf", desc := "([JIJ)I" } : Jvm.MethodName)) ∈ GT := GT_in (tlw (tin_3 (List.mem_of_getElem? (i := 80) rfl))) rfl
theorem w_3_81 : (Jvm.Cond.static ({ cls := "OwlsLent$Tokens", name := "numberOf", desc := "([JIJ)I" } : Jvm.MethodName)) ∈ GT := GT_in (tlw (tin_3 (List.mem_of_getElem? (i := 81) rfl))) rfl
theorem w_3_82 : (Jvm.Cond.code ({ cls := "OwlsLent$Tokens", name := "numberOf", desc := "([JIJ)I" } : Jvm.MethodName) prog_11_method_5_code (5 : Nat) (Option.some Jvm.ClassFile.FieldType.int)) ∈ GT := GT_in (tlw (tin_3 (List.mem_of_getElem? (i := 82) rfl))) rfl
theorem w_3_83 : (Jvm.Cond.methodLink "OwlsLent" (124 : Nat) ({ cls := "OwlsLent$HouseReader", name := "readAll", desc := "(LOwlsLent$Tokens;LOwlsLent$House;)I" } : Jvm.MethodName)) ∈ GT := GT_in (tlw (tin_3 (List.mem_of_getElem? (i := 83) rfl))) rfl
theorem w_3_84 : (Jvm.Cond.static ({ cls := "OwlsLent$HouseReader", name := "readAll", desc := "(LOwlsLent$Tokens;LOwlsLent$House;)I" } : Jvm.MethodName)) ∈ GT := GT_in (tlw (tin_3 (List.mem_of_getElem? (i := 84) rfl))) rfl
theorem w_3_85 : (Jvm.Cond.code ({ cls := "OwlsLent$HouseReader", name := "readAll", desc := "(LOwlsLent$Tokens;LOwlsLent$House;)I" } : Jvm.MethodName) prog_5_method_2_code (4 : Nat) (Option.some Jvm.ClassFile.FieldType.int)) ∈ GT := GT_in (tlw (tin_3 (List.mem_of_getElem? (i := 85) rfl))) rfl
theorem w_3_86 : (Jvm.Cond.methodLink "OwlsLent$HouseReader" (9 : Nat) ({ cls := "OwlsLent$House", name := "clear", desc := "()V" } : Jvm.MethodName)) ∈ GT := GT_in (tlw (tin_3 (List.mem_of_getElem? (i := 86) rfl))) rfl
theorem w_3_87 : (Jvm.Cond.instanceMethod ({ cls := "OwlsLent$House", name := "clear", desc := "()V" } : Jvm.MethodName)) ∈ GT := GT_in (tlw (tin_3 (List.mem_of_getElem? (i := 87) rfl))) rfl
theorem w_3_88 : (Jvm.Cond.selects "OwlsLent$House" ({ cls := "OwlsLent$House", name := "clear", desc := "()V" } : Jvm.MethodName) ({ cls := "OwlsLent$House", name := "clear", desc := "()V" } : Jvm.MethodName)) ∈ GT := GT_in (tlw (tin_3 (List.mem_of_getElem? (i := 88) rfl))) rfl
theorem w_3_89 : (Jvm.Cond.code ({ cls := "OwlsLent$House", name := "clear", desc := "()V" } : Jvm.MethodName) prog_4_method_2_code (1 : Nat) (Option.none : Option Jvm.ClassFile.FieldType)) ∈ GT := GT_in (tlw (tin_3 (List.mem_of_getElem? (i := 89) rfl))) rfl
theorem w_3_90 : (Jvm.Cond.methodLink "OwlsLent$HouseReader" (25 : Nat) ({ cls := "OwlsLent$HouseReader", name := "readHouse", desc := "(LOwlsLent$Tokens;LOwlsLent$House;)Z" } : Jvm.MethodName)) ∈ GT := GT_in (tlw (tin_3 (List.mem_of_getElem? (i := 90) rfl))) rfl
theorem w_3_91 : (Jvm.Cond.static ({ cls := "OwlsLent$HouseReader", name := "readHouse", desc := "(LOwlsLent$Tokens;LOwlsLent$House;)Z" } : Jvm.MethodName)) ∈ GT := GT_in (tlw (tin_3 (List.mem_of_getElem? (i := 91) rfl))) rfl
theorem w_3_92 : (Jvm.Cond.code ({ cls := "OwlsLent$HouseReader", name := "readHouse", desc := "(LOwlsLent$Tokens;LOwlsLent$House;)Z" } : Jvm.MethodName) prog_5_method_3_code (4 : Nat) (Option.some Jvm.ClassFile.FieldType.boolean)) ∈ GT := GT_in (tlw (tin_3 (List.mem_of_getElem? (i := 92) rfl))) rfl
theorem w_3_93 : (Jvm.Cond.methodLink "OwlsLent$HouseReader" (50 : Nat) ({ cls := "OwlsLent$Tokens", name := "fail", desc := "(I)Z" } : Jvm.MethodName)) ∈ GT := GT_in (tlw (tin_3 (List.mem_of_getElem? (i := 93) rfl))) rfl
theorem w_3_94 : (Jvm.Cond.instanceMethod ({ cls := "OwlsLent$Tokens", name := "fail", desc := "(I)Z" } : Jvm.MethodName)) ∈ GT := GT_in (tlw (tin_3 (List.mem_of_getElem? (i := 94) rfl))) rfl
theorem w_3_95 : (Jvm.Cond.selects "OwlsLent$Tokens" ({ cls := "OwlsLent$Tokens", name := "fail", desc := "(I)Z" } : Jvm.MethodName) ({ cls := "OwlsLent$Tokens", name := "fail", desc := "(I)Z" } : Jvm.MethodName)) ∈ GT := GT_in (tlw (tin_3 (List.mem_of_getElem? (i := 95) rfl))) rfl
theorem w_3_96 : (Jvm.Cond.code ({ cls := "OwlsLent$Tokens", name := "fail", desc := "(I)Z" } : Jvm.MethodName) prog_11_method_6_code (2 : Nat) (Option.some Jvm.ClassFile.FieldType.boolean)) ∈ GT := GT_in (tlw (tin_3 (List.mem_of_getElem? (i := 96) rfl))) rfl
theorem w_3_97 : (Jvm.Cond.methodLink "OwlsLent$Tokens" (83 : Nat) ({ cls := "OwlsLent$Tokens", name := "failAt", desc := "(II)Z" } : Jvm.MethodName)) ∈ GT := GT_in (tlw (tin_3 (List.mem_of_getElem? (i := 97) rfl))) rfl
theorem w_3_99 : (Jvm.Cond.instanceMethod ({ cls := "OwlsLent$Tokens", name := "failAt", desc := "(II)Z" } : Jvm.MethodName)) ∈ GT := GT_in (tlw (tin_3 (List.mem_of_getElem? (i := 99) rfl))) rfl
theorem w_3_100 : (Jvm.Cond.code ({ cls := "OwlsLent$Tokens", name := "failAt", desc := "(II)Z" } : Jvm.MethodName) prog_11_method_8_code (3 : Nat) (Option.some Jvm.ClassFile.FieldType.boolean)) ∈ GT := GT_in (tlw (tin_3 (List.mem_of_getElem? (i := 100) rfl))) rfl
theorem w_3_101 : (Jvm.Cond.methodLink "OwlsLent$HouseReader" (68 : Nat) ({ cls := "OwlsLent$Tokens", name := "advance", desc := "()V" } : Jvm.MethodName)) ∈ GT := GT_in (tlw (tin_3 (List.mem_of_getElem? (i := 101) rfl))) rfl
theorem w_3_102 : (Jvm.Cond.methodLink "OwlsLent$HouseReader" (71 : Nat) ({ cls := "OwlsLent$Tokens", name := "takeNumber", desc := "(II)I" } : Jvm.MethodName)) ∈ GT := GT_in (tlw (tin_3 (List.mem_of_getElem? (i := 102) rfl))) rfl
theorem w_3_103 : (Jvm.Cond.instanceMethod ({ cls := "OwlsLent$Tokens", name := "takeNumber", desc := "(II)I" } : Jvm.MethodName)) ∈ GT := GT_in (tlw (tin_3 (List.mem_of_getElem? (i := 103) rfl))) rfl
theorem w_3_104 : (Jvm.Cond.selects "OwlsLent$Tokens" ({ cls := "OwlsLent$Tokens", name := "takeNumber", desc := "(II)I" } : Jvm.MethodName) ({ cls := "OwlsLent$Tokens", name := "takeNumber", desc := "(II)I" } : Jvm.MethodName)) ∈ GT := GT_in (tlw (tin_3 (List.mem_of_getElem? (i := 104) rfl))) rfl
theorem w_3_105 : (Jvm.Cond.code ({ cls := "OwlsLent$Tokens", name := "takeNumber", desc := "(II)I" } : Jvm.MethodName) prog_11_method_11_code (4 : Nat) (Option.some Jvm.ClassFile.FieldType.int)) ∈ GT := GT_in (tlw (tin_3 (List.mem_of_getElem? (i := 105) rfl))) rfl
theorem w_3_106 : (Jvm.Cond.methodLink "OwlsLent$Tokens" (91 : Nat) ({ cls := "OwlsLent$Tokens", name := "fail", desc := "(I)Z" } : Jvm.MethodName)) ∈ GT := GT_in (tlw (tin_3 (List.mem_of_getElem? (i := 106) rfl))) rfl
theorem w_3_107 : (Jvm.Cond.methodLink "OwlsLent$HouseReader" (29 : Nat) ({ cls := "OwlsLent$HouseReader", name := "readBed", desc := "(LOwlsLent$Tokens;LOwlsLent$House;)Z" } : Jvm.MethodName)) ∈ GT := GT_in (tlw (tin_3 (List.mem_of_getElem? (i := 107) rfl))) rfl
theorem w_3_108 : (Jvm.Cond.static ({ cls := "OwlsLent$HouseReader", name := "readBed", desc := "(LOwlsLent$Tokens;LOwlsLent$House;)Z" } : Jvm.MethodName)) ∈ GT := GT_in (tlw (tin_3 (List.mem_of_getElem? (i := 108) rfl))) rfl
theorem w_3_109 : (Jvm.Cond.code ({ cls := "OwlsLent$HouseReader", name := "readBed", desc := "(LOwlsLent$Tokens;LOwlsLent$House;)Z" } : Jvm.MethodName) prog_5_method_4_code (7 : Nat) (Option.some Jvm.ClassFile.FieldType.boolean)) ∈ GT := GT_in (tlw (tin_3 (List.mem_of_getElem? (i := 109) rfl))) rfl
theorem w_3_110 : (Jvm.Cond.methodLink "OwlsLent$HouseReader" (81 : Nat) ({ cls := "OwlsLent$Tokens", name := "takeNewName", desc := "(LOwlsLent$House;)J" } : Jvm.MethodName)) ∈ GT := GT_in (tlw (tin_3 (List.mem_of_getElem? (i := 110) rfl))) rfl
theorem w_3_111 : (Jvm.Cond.instanceMethod ({ cls := "OwlsLent$Tokens", name := "takeNewName", desc := "(LOwlsLent$House;)J" } : Jvm.MethodName)) ∈ GT := GT_in (tlw (tin_3 (List.mem_of_getElem? (i := 111) rfl))) rfl
theorem w_3_112 : (Jvm.Cond.selects "OwlsLent$Tokens" ({ cls := "OwlsLent$Tokens", name := "takeNewName", desc := "(LOwlsLent$House;)J" } : Jvm.MethodName) ({ cls := "OwlsLent$Tokens", name := "takeNewName", desc := "(LOwlsLent$House;)J" } : Jvm.MethodName)) ∈ GT := GT_in (tlw (tin_3 (List.mem_of_getElem? (i := 112) rfl))) rfl
theorem w_3_113 : (Jvm.Cond.code ({ cls := "OwlsLent$Tokens", name := "takeNewName", desc := "(LOwlsLent$House;)J" } : Jvm.MethodName) prog_11_method_13_code (4 : Nat) (Option.some Jvm.ClassFile.FieldType.long)) ∈ GT := GT_in (tlw (tin_3 (List.mem_of_getElem? (i := 113) rfl))) rfl
theorem w_3_114 : (Jvm.Cond.methodLink "OwlsLent$Tokens" (95 : Nat) ({ cls := "OwlsLent$House", name := "hasName", desc := "(J)Z" } : Jvm.MethodName)) ∈ GT := GT_in (tlw (tin_3 (List.mem_of_getElem? (i := 114) rfl))) rfl
theorem w_3_115 : (Jvm.Cond.instanceMethod ({ cls := "OwlsLent$House", name := "hasName", desc := "(J)Z" } : Jvm.MethodName)) ∈ GT := GT_in (tlw (tin_3 (List.mem_of_getElem? (i := 115) rfl))) rfl
theorem w_3_116 : (Jvm.Cond.selects "OwlsLent$House" ({ cls := "OwlsLent$House", name := "hasName", desc := "(J)Z" } : Jvm.MethodName) ({ cls := "OwlsLent$House", name := "hasName", desc := "(J)Z" } : Jvm.MethodName)) ∈ GT := GT_in (tlw (tin_3 (List.mem_of_getElem? (i := 116) rfl))) rfl
theorem w_3_117 : (Jvm.Cond.code ({ cls := "OwlsLent$House", name := "hasName", desc := "(J)Z" } : Jvm.MethodName) prog_4_method_9_code (3 : Nat) (Option.some Jvm.ClassFile.FieldType.boolean)) ∈ GT := GT_in (tlw (tin_3 (List.mem_of_getElem? (i := 117) rfl))) rfl
theorem w_3_118 : (Jvm.Cond.methodLink "OwlsLent$House" (77 : Nat) ({ cls := "OwlsLent$Tokens", name := "numberOf", desc := "([JIJ)I" } : Jvm.MethodName)) ∈ GT := GT_in (tlw (tin_3 (List.mem_of_getElem? (i := 118) rfl))) rfl
theorem w_3_119 : (Jvm.Cond.constantLong "OwlsLent$Tokens" (101 : Nat) (-1 : Int64)) ∈ GT := GT_in (tlw (tin_3 (List.mem_of_getElem? (i := 119) rfl))) rfl
theorem w_3_120 : (Jvm.Cond.constantLong "OwlsLent$HouseReader" (85 : Nat) (-1 : Int64)) ∈ GT := GT_in (tlw (tin_3 (List.mem_of_getElem? (i := 120) rfl))) rfl
theorem w_3_121 : (Jvm.Cond.methodLink "OwlsLent$HouseReader" (87 : Nat) ({ cls := "OwlsLent$House", name := "hasBedIn", desc := "(II)Z" } : Jvm.MethodName)) ∈ GT := GT_in (tlw (tin_3 (List.mem_of_getElem? (i := 121) rfl))) rfl
theorem w_3_122 : (Jvm.Cond.instanceMethod ({ cls := "OwlsLent$House", name := "hasBedIn", desc := "(II)Z" } : Jvm.MethodName)) ∈ GT := GT_in (tlw (tin_3 (List.mem_of_getElem? (i := 122) rfl))) rfl
theorem w_3_123 : (Jvm.Cond.selects "OwlsLent$House" ({ cls := "OwlsLent$House", name := "hasBedIn", desc := "(II)Z" } : Jvm.MethodName) ({ cls := "OwlsLent$House", name := "hasBedIn", desc := "(II)Z" } : Jvm.MethodName)) ∈ GT := GT_in (tlw (tin_3 (List.mem_of_getElem? (i := 123) rfl))) rfl
theorem w_3_124 : (Jvm.Cond.code ({ cls := "OwlsLent$House", name := "hasBedIn", desc := "(II)Z" } : Jvm.MethodName) prog_4_method_10_code (4 : Nat) (Option.some Jvm.ClassFile.FieldType.boolean)) ∈ GT := GT_in (tlw (tin_3 (List.mem_of_getElem? (i := 124) rfl))) rfl
theorem w_3_125 : (Jvm.Cond.methodLink "OwlsLent$HouseReader" (91 : Nat) ({ cls := "OwlsLent$Tokens", name := "failBehind", desc := "(I)Z" } : Jvm.MethodName)) ∈ GT := GT_in (tlw (tin_3 (List.mem_of_getElem? (i := 125) rfl))) rfl
theorem w_3_126 : (Jvm.Cond.instanceMethod ({ cls := "OwlsLent$Tokens", name := "failBehind", desc := "(I)Z" } : Jvm.MethodName)) ∈ GT := GT_in (tlw (tin_3 (List.mem_of_getElem? (i := 126) rfl))) rfl
theorem w_3_127 : (Jvm.Cond.selects "OwlsLent$Tokens" ({ cls := "OwlsLent$Tokens", name := "failBehind", desc := "(I)Z" } : Jvm.MethodName) ({ cls := "OwlsLent$Tokens", name := "failBehind", desc := "(I)Z" } : Jvm.MethodName)) ∈ GT := GT_in (tlw (tin_3 (List.mem_of_getElem? (i := 127) rfl))) rfl
theorem w_3_128 : (Jvm.Cond.code ({ cls := "OwlsLent$Tokens", name := "failBehind", desc := "(I)Z" } : Jvm.MethodName) prog_11_method_7_code (2 : Nat) (Option.some Jvm.ClassFile.FieldType.boolean)) ∈ GT := GT_in (tlw (tin_3 (List.mem_of_getElem? (i := 128) rfl))) rfl
theorem w_3_129 : (Jvm.Cond.methodLink "OwlsLent$HouseReader" (32 : Nat) ({ cls := "OwlsLent$HouseReader", name := "readOwl", desc := "(LOwlsLent$Tokens;LOwlsLent$House;)Z" } : Jvm.MethodName)) ∈ GT := GT_in (tlw (tin_3 (List.mem_of_getElem? (i := 129) rfl))) rfl
theorem w_3_130 : (Jvm.Cond.static ({ cls := "OwlsLent$HouseReader", name := "readOwl", desc := "(LOwlsLent$Tokens;LOwlsLent$House;)Z" } : Jvm.MethodName)) ∈ GT := GT_in (tlw (tin_3 (List.mem_of_getElem? (i := 130) rfl))) rfl
theorem w_3_131 : (Jvm.Cond.code ({ cls := "OwlsLent$HouseReader", name := "readOwl", desc := "(LOwlsLent$Tokens;LOwlsLent$House;)Z" } : Jvm.MethodName) prog_5_method_5_code (7 : Nat) (Option.some Jvm.ClassFile.FieldType.boolean)) ∈ GT := GT_in (tlw (tin_3 (List.mem_of_getElem? (i := 131) rfl))) rfl
theorem w_3_132 : (Jvm.Cond.methodLink "OwlsLent$HouseReader" (105 : Nat) ({ cls := "OwlsLent$Tokens", name := "takeKnown", desc := "([JI)I" } : Jvm.MethodName)) ∈ GT := GT_in (tlw (tin_3 (List.mem_of_getElem? (i := 132) rfl))) rfl
theorem w_3_133 : (Jvm.Cond.instanceMethod ({ cls := "OwlsLent$Tokens", name := "takeKnown", desc := "([JI)I" } : Jvm.MethodName)) ∈ GT := GT_in (tlw (tin_3 (List.mem_of_getElem? (i := 133) rfl))) rfl
theorem w_3_134 : (Jvm.Cond.selects "OwlsLent$Tokens" ({ cls := "OwlsLent$Tokens", name := "takeKnown", desc := "([JI)I" } : Jvm.MethodName) ({ cls := "OwlsLent$Tokens", name := "takeKnown", desc := "([JI)I" } : Jvm.MethodName)) ∈ GT := GT_in (tlw (tin_3 (List.mem_of_getElem? (i := 134) rfl))) rfl
theorem w_3_135 : (Jvm.Cond.code ({ cls := "OwlsLent$Tokens", name := "takeKnown", desc := "([JI)I" } : Jvm.MethodName) prog_11_method_14_code (4 : Nat) (Option.some Jvm.ClassFile.FieldType.int)) ∈ GT := GT_in (tlw (tin_3 (List.mem_of_getElem? (i := 135) rfl))) rfl
theorem w_3_136 : (Jvm.Cond.methodLink "OwlsLent$HouseReader" (109 : Nat) ({ cls := "OwlsLent$House", name := "hasOwlBy", desc := "(I)Z" } : Jvm.MethodName)) ∈ GT := GT_in (tlw (tin_3 (List.mem_of_getElem? (i := 136) rfl))) rfl
theorem w_3_137 : (Jvm.Cond.instanceMethod ({ cls := "OwlsLent$House", name := "hasOwlBy", desc := "(I)Z" } : Jvm.MethodName)) ∈ GT := GT_in (tlw (tin_3 (List.mem_of_getElem? (i := 137) rfl))) rfl
theorem w_3_138 : (Jvm.Cond.selects "OwlsLent$House" ({ cls := "OwlsLent$House", name := "hasOwlBy", desc := "(I)Z" } : Jvm.MethodName) ({ cls := "OwlsLent$House", name := "hasOwlBy", desc := "(I)Z" } : Jvm.MethodName)) ∈ GT := GT_in (tlw (tin_3 (List.mem_of_getElem? (i := 138) rfl))) rfl
theorem w_3_139 : (Jvm.Cond.code ({ cls := "OwlsLent$House", name := "hasOwlBy", desc := "(I)Z" } : Jvm.MethodName) prog_4_method_11_code (3 : Nat) (Option.some Jvm.ClassFile.FieldType.boolean)) ∈ GT := GT_in (tlw (tin_3 (List.mem_of_getElem? (i := 139) rfl))) rfl
theorem w_3_140 : (Jvm.Cond.methodLink "OwlsLent$HouseReader" (35 : Nat) ({ cls := "OwlsLent$HouseReader", name := "readBad", desc := "(LOwlsLent$Tokens;LOwlsLent$House;)Z" } : Jvm.MethodName)) ∈ GT := GT_in (tlw (tin_3 (List.mem_of_getElem? (i := 140) rfl))) rfl
theorem w_3_141 : (Jvm.Cond.static ({ cls := "OwlsLent$HouseReader", name := "readBad", desc := "(LOwlsLent$Tokens;LOwlsLent$House;)Z" } : Jvm.MethodName)) ∈ GT := GT_in (tlw (tin_3 (List.mem_of_getElem? (i := 141) rfl))) rfl
theorem w_3_142 : (Jvm.Cond.code ({ cls := "OwlsLent$HouseReader", name := "readBad", desc := "(LOwlsLent$Tokens;LOwlsLent$House;)Z" } : Jvm.MethodName) prog_5_method_6_code (3 : Nat) (Option.some Jvm.ClassFile.FieldType.boolean)) ∈ GT := GT_in (tlw (tin_3 (List.mem_of_getElem? (i := 142) rfl))) rfl
theorem w_3_143 : (Jvm.Cond.methodLink "OwlsLent$HouseReader" (118 : Nat) ({ cls := "OwlsLent$Tokens", name := "takeWord", desc := "(II)I" } : Jvm.MethodName)) ∈ GT := GT_in (tlw (tin_3 (List.mem_of_getElem? (i := 143) rfl))) rfl
theorem w_3_144 : (Jvm.Cond.instanceMethod ({ cls := "OwlsLent$Tokens", name := "takeWord", desc := "(II)I" } : Jvm.MethodName)) ∈ GT := GT_in (tlw (tin_3 (List.mem_of_getElem? (i := 144) rfl))) rfl
theorem w_3_145 : (Jvm.Cond.selects "OwlsLent$Tokens" ({ cls := "OwlsLent$Tokens", name := "takeWord", desc := "(II)I" } : Jvm.MethodName) ({ cls := "OwlsLent$Tokens", name := "takeWord", desc := "(II)I" } : Jvm.MethodName)) ∈ GT := GT_in (tlw (tin_3 (List.mem_of_getElem? (i := 145) rfl))) rfl
theorem w_3_146 : (Jvm.Cond.code ({ cls := "OwlsLent$Tokens", name := "takeWord", desc := "(II)I" } : Jvm.MethodName) prog_11_method_12_code (4 : Nat) (Option.some Jvm.ClassFile.FieldType.int)) ∈ GT := GT_in (tlw (tin_3 (List.mem_of_getElem? (i := 146) rfl))) rfl
theorem w_3_147 : (Jvm.Cond.methodLink "OwlsLent$HouseReader" (38 : Nat) ({ cls := "OwlsLent$HouseReader", name := "readDeaf", desc := "(LOwlsLent$Tokens;LOwlsLent$House;)Z" } : Jvm.MethodName)) ∈ GT := GT_in (tlw (tin_3 (List.mem_of_getElem? (i := 147) rfl))) rfl
theorem w_3_148 : (Jvm.Cond.static ({ cls := "OwlsLent$HouseReader", name := "readDeaf", desc := "(LOwlsLent$Tokens;LOwlsLent$House;)Z" } : Jvm.MethodName)) ∈ GT := GT_in (tlw (tin_3 (List.mem_of_getElem? (i := 148) rfl))) rfl
theorem w_3_149 : (Jvm.Cond.code ({ cls := "OwlsLent$HouseReader", name := "readDeaf", desc := "(LOwlsLent$Tokens;LOwlsLent$House;)Z" } : Jvm.MethodName) prog_5_method_7_code (4 : Nat) (Option.some Jvm.ClassFile.FieldType.boolean)) ∈ GT := GT_in (tlw (tin_3 (List.mem_of_getElem? (i := 149) rfl))) rfl
theorem w_3_150 : (Jvm.Cond.methodLink "OwlsLent$HouseReader" (41 : Nat) ({ cls := "OwlsLent$HouseReader", name := "readSound", desc := "(LOwlsLent$Tokens;LOwlsLent$House;)Z" } : Jvm.MethodName)) ∈ GT := GT_in (tlw (tin_3 (List.mem_of_getElem? (i := 150) rfl))) rfl
theorem w_3_151 : (Jvm.Cond.static ({ cls := "OwlsLent$HouseReader", name := "readSound", desc := "(LOwlsLent$Tokens;LOwlsLent$House;)Z" } : Jvm.MethodName)) ∈ GT := GT_in (tlw (tin_3 (List.mem_of_getElem? (i := 151) rfl))) rfl
theorem w_3_152 : (Jvm.Cond.code ({ cls := "OwlsLent$HouseReader", name := "readSound", desc := "(LOwlsLent$Tokens;LOwlsLent$House;)Z" } : Jvm.MethodName) prog_5_method_8_code (11 : Nat) (Option.some Jvm.ClassFile.FieldType.boolean)) ∈ GT := GT_in (tlw (tin_3 (List.mem_of_getElem? (i := 152) rfl))) rfl
theorem w_3_153 : (Jvm.Cond.methodLink "OwlsLent$HouseReader" (44 : Nat) ({ cls := "OwlsLent$HouseReader", name := "readWants", desc := "(LOwlsLent$Tokens;LOwlsLent$House;)Z" } : Jvm.MethodName)) ∈ GT := GT_in (tlw (tin_3 (List.mem_of_getElem? (i := 153) rfl))) rfl
theorem w_3_154 : (Jvm.Cond.static ({ cls := "OwlsLent$HouseReader", name := "readWants", desc := "(LOwlsLent$Tokens;LOwlsLent$House;)Z" } : Jvm.MethodName)) ∈ GT := GT_in (tlw (tin_3 (List.mem_of_getElem? (i := 154) rfl))) rfl
theorem w_3_155 : (Jvm.Cond.code ({ cls := "OwlsLent$HouseReader", name := "readWants", desc := "(LOwlsLent$Tokens;LOwlsLent$House;)Z" } : Jvm.MethodName) prog_5_method_9_code (3 : Nat) (Option.some Jvm.ClassFile.FieldType.boolean)) ∈ GT := GT_in (tlw (tin_3 (List.mem_of_getElem? (i := 155) rfl))) rfl
theorem w_3_156 : (Jvm.Cond.methodLink "OwlsLent$HouseReader" (47 : Nat) ({ cls := "OwlsLent$HouseReader", name := "readShut", desc := "(LOwlsLent$Tokens;LOwlsLent$House;)Z" } : Jvm.MethodName)) ∈ GT := GT_in (tlw (tin_3 (List.mem_of_getElem? (i := 156) rfl))) rfl
theorem w_3_157 : (Jvm.Cond.static ({ cls := "OwlsLent$HouseReader", name := "readShut", desc := "(LOwlsLent$Tokens;LOwlsLent$House;)Z" } : Jvm.MethodName)) ∈ GT := GT_in (tlw (tin_3 (List.mem_of_getElem? (i := 157) rfl))) rfl
theorem w_3_158 : (Jvm.Cond.code ({ cls := "OwlsLent$HouseReader", name := "readShut", desc := "(LOwlsLent$Tokens;LOwlsLent$House;)Z" } : Jvm.MethodName) prog_5_method_10_code (4 : Nat) (Option.some Jvm.ClassFile.FieldType.boolean)) ∈ GT := GT_in (tlw (tin_3 (List.mem_of_getElem? (i := 158) rfl))) rfl
theorem w_3_159 : (Jvm.Cond.methodLink "OwlsLent$HouseReader" (54 : Nat) ({ cls := "OwlsLent$Tokens", name := "skipSign", desc := "(C)Z" } : Jvm.MethodName)) ∈ GT := GT_in (tlw (tin_3 (List.mem_of_getElem? (i := 159) rfl))) rfl
theorem w_3_160 : (Jvm.Cond.instanceMethod ({ cls := "OwlsLent$Tokens", name := "skipSign", desc := "(C)Z" } : Jvm.MethodName)) ∈ GT := GT_in (tlw (tin_3 (List.mem_of_getElem? (i := 160) rfl))) rfl
theorem w_3_161 : (Jvm.Cond.selects "OwlsLent$Tokens" ({ cls := "OwlsLent$Tokens", name := "skipSign", desc := "(C)Z" } : Jvm.MethodName) ({ cls := "OwlsLent$Tokens", name := "skipSign", desc := "(C)Z" } : Jvm.MethodName)) ∈ GT := GT_in (tlw (tin_3 (List.mem_of_getElem? (i := 161) rfl))) rfl
theorem w_3_162 : (Jvm.Cond.code ({ cls := "OwlsLent$Tokens", name := "skipSign", desc := "(C)Z" } : Jvm.MethodName) prog_11_method_10_code (2 : Nat) (Option.some Jvm.ClassFile.FieldType.boolean)) ∈ GT := GT_in (tlw (tin_3 (List.mem_of_getElem? (i := 162) rfl))) rfl
theorem w_3_163 : (Jvm.Cond.methodLink "OwlsLent$Tokens" (87 : Nat) ({ cls := "OwlsLent$Tokens", name := "isSign", desc := "(C)Z" } : Jvm.MethodName)) ∈ GT := GT_in (tlw (tin_3 (List.mem_of_getElem? (i := 163) rfl))) rfl
theorem w_3_164 : (Jvm.Cond.instanceMethod ({ cls := "OwlsLent$Tokens", name := "isSign", desc := "(C)Z" } : Jvm.MethodName)) ∈ GT := GT_in (tlw (tin_3 (List.mem_of_getElem? (i := 164) rfl))) rfl
theorem w_3_165 : (Jvm.Cond.selects "OwlsLent$Tokens" ({ cls := "OwlsLent$Tokens", name := "isSign", desc := "(C)Z" } : Jvm.MethodName) ({ cls := "OwlsLent$Tokens", name := "isSign", desc := "(C)Z" } : Jvm.MethodName)) ∈ GT := GT_in (tlw (tin_3 (List.mem_of_getElem? (i := 165) rfl))) rfl
theorem w_3_166 : (Jvm.Cond.code ({ cls := "OwlsLent$Tokens", name := "isSign", desc := "(C)Z" } : Jvm.MethodName) prog_11_method_9_code (2 : Nat) (Option.some Jvm.ClassFile.FieldType.boolean)) ∈ GT := GT_in (tlw (tin_3 (List.mem_of_getElem? (i := 166) rfl))) rfl
theorem w_3_167 : (Jvm.Cond.methodLink "OwlsLent" (128 : Nat) ({ cls := "OwlsLent", name := "endText", desc := "()V" } : Jvm.MethodName)) ∈ GT := GT_in (tlw (tin_3 (List.mem_of_getElem? (i := 167) rfl))) rfl
theorem w_3_169 : (Jvm.Cond.instanceMethod ({ cls := "OwlsLent", name := "endText", desc := "()V" } : Jvm.MethodName)) ∈ GT := GT_in (tlw (tin_3 (List.mem_of_getElem? (i := 169) rfl))) rfl
theorem w_3_170 : (Jvm.Cond.code ({ cls := "OwlsLent", name := "endText", desc := "()V" } : Jvm.MethodName) prog_1_method_6_code (1 : Nat) (Option.none : Option Jvm.ClassFile.FieldType)) ∈ GT := GT_in (tlw (tin_3 (List.mem_of_getElem? (i := 170) rfl))) rfl
theorem w_3_171 : (Jvm.Cond.methodLink "OwlsLent" (134 : Nat) ({ cls := "OwlsLent$Image", name := "begin", desc := "(LOwlsLent$House;)V" } : Jvm.MethodName)) ∈ GT := GT_in (tlw (tin_3 (List.mem_of_getElem? (i := 171) rfl))) rfl
theorem w_3_172 : (Jvm.Cond.instanceMethod ({ cls := "OwlsLent$Image", name := "begin", desc := "(LOwlsLent$House;)V" } : Jvm.MethodName)) ∈ GT := GT_in (tlw (tin_3 (List.mem_of_getElem? (i := 172) rfl))) rfl
theorem w_3_173 : (Jvm.Cond.selects "OwlsLent$Image" ({ cls := "OwlsLent$Image", name := "begin", desc := "(LOwlsLent$House;)V" } : Jvm.MethodName) ({ cls := "OwlsLent$Image", name := "begin", desc := "(LOwlsLent$House;)V" } : Jvm.MethodName)) ∈ GT := GT_in (tlw (tin_3 (List.mem_of_getElem? (i := 173) rfl))) rfl
theorem w_3_174 : (Jvm.Cond.code ({ cls := "OwlsLent$Image", name := "begin", desc := "(LOwlsLent$House;)V" } : Jvm.MethodName) prog_6_method_2_code (2 : Nat) (Option.none : Option Jvm.ClassFile.FieldType)) ∈ GT := GT_in (tlw (tin_3 (List.mem_of_getElem? (i := 174) rfl))) rfl
theorem w_3_175 : (Jvm.Cond.methodLink "OwlsLent$Image" (34 : Nat) ({ cls := "OwlsLent$House", name := "copyFrom", desc := "(LOwlsLent$House;)V" } : Jvm.MethodName)) ∈ GT := GT_in (tlw (tin_3 (List.mem_of_getElem? (i := 175) rfl))) rfl
theorem w_3_176 : (Jvm.Cond.instanceMethod ({ cls := "OwlsLent$House", name := "copyFrom", desc := "(LOwlsLent$House;)V" } : Jvm.MethodName)) ∈ GT := GT_in (tlw (tin_3 (List.mem_of_getElem? (i := 176) rfl))) rfl
theorem w_3_177 : (Jvm.Cond.selects "OwlsLent$House" ({ cls := "OwlsLent$House", name := "copyFrom", desc := "(LOwlsLent$House;)V" } : Jvm.MethodName) ({ cls := "OwlsLent$House", name := "copyFrom", desc := "(LOwlsLent$House;)V" } : Jvm.MethodName)) ∈ GT := GT_in (tlw (tin_3 (List.mem_of_getElem? (i := 177) rfl))) rfl
theorem w_3_178 : (Jvm.Cond.code ({ cls := "OwlsLent$House", name := "copyFrom", desc := "(LOwlsLent$House;)V" } : Jvm.MethodName) prog_4_method_3_code (2 : Nat) (Option.none : Option Jvm.ClassFile.FieldType)) ∈ GT := GT_in (tlw (tin_3 (List.mem_of_getElem? (i := 178) rfl))) rfl
theorem w_3_179 : (Jvm.Cond.methodLink "OwlsLent$House" (61 : Nat) ({ cls := "java/lang/System", name := "arraycopy", desc := "(Ljava/lang/Object;ILjava/lang/Object;II)V" } : Jvm.MethodName)) ∈ GT := GT_in (tlw (tin_3 (List.mem_of_getElem? (i := 179) rfl))) rfl
theorem w_3_180 : (Jvm.Cond.static ({ cls := "java/lang/System", name := "arraycopy", desc := "(Ljava/lang/Object;ILjava/lang/Object;II)V" } : Jvm.MethodName)) ∈ GT := GT_in (tlw (tin_3 (List.mem_of_getElem? (i := 180) rfl))) rfl
theorem w_3_181 : (Jvm.Cond.native ({ cls := "java/lang/System", name := "arraycopy", desc := "(Ljava/lang/Object;ILjava/lang/Object;II)V" } : Jvm.MethodName)) ∈ GT := GT_in (tlw (tin_3 (List.mem_of_getElem? (i := 181) rfl))) rfl
theorem w_3_182 : (Jvm.Cond.methodLink "OwlsLent$House" (67 : Nat) ({ cls := "OwlsLent$House", name := "copyRows", desc := "([[I[[I)V" } : Jvm.MethodName)) ∈ GT := GT_in (tlw (tin_3 (List.mem_of_getElem? (i := 182) rfl))) rfl
theorem w_3_183 : (Jvm.Cond.static ({ cls := "OwlsLent$House", name := "copyRows", desc := "([[I[[I)V" } : Jvm.MethodName)) ∈ GT := GT_in (tlw (tin_3 (List.mem_of_getElem? (i := 183) rfl))) rfl
theorem w_3_184 : (Jvm.Cond.code ({ cls := "OwlsLent$House", name := "copyRows", desc := "([[I[[I)V" } : Jvm.MethodName) prog_4_method_4_code (3 : Nat) (Option.none : Option Jvm.ClassFile.FieldType)) ∈ GT := GT_in (tlw (tin_3 (List.mem_of_getElem? (i := 184) rfl))) rfl
theorem w_3_185 : (Jvm.Cond.methodLink "OwlsLent$House" (71 : Nat) ({ cls := "java/lang/Math", name := "min", desc := "(II)I" } : Jvm.MethodName)) ∈ GT := GT_in (tlw (tin_3 (List.mem_of_getElem? (i := 185) rfl))) rfl
theorem w_3_186 : (Jvm.Cond.static ({ cls := "java/lang/Math", name := "min", desc := "(II)I" } : Jvm.MethodName)) ∈ GT := GT_in (tlw (tin_3 (List.mem_of_getElem? (i := 186) rfl))) rfl
theorem w_3_187 : (Jvm.Cond.code ({ cls := "java/lang/Math", name := "min", desc := "(II)I" } : Jvm.MethodName) prog_19_method_69_code (2 : Nat) (Option.some Jvm.ClassFile.FieldType.int)) ∈ GT := GT_in (tlw (tin_3 (List.mem_of_getElem? (i := 187) rfl))) rfl
theorem w_3_188 : (Jvm.Cond.methodLink "OwlsLent$Image" (38 : Nat) ({ cls := "OwlsLent$State", name := "begin", desc := "(LOwlsLent$House;)V" } : Jvm.MethodName)) ∈ GT := GT_in (tlw (tin_3 (List.mem_of_getElem? (i := 188) rfl))) rfl
theorem w_3_189 : (Jvm.Cond.instanceMethod ({ cls := "OwlsLent$State", name := "begin", desc := "(LOwlsLent$House;)V" } : Jvm.MethodName)) ∈ GT := GT_in (tlw (tin_3 (List.mem_of_getElem? (i := 189) rfl))) rfl
theorem w_3_190 : (Jvm.Cond.selects "OwlsLent$State" ({ cls := "OwlsLent$State", name := "begin", desc := "(LOwlsLent$House;)V" } : Jvm.MethodName) ({ cls := "OwlsLent$State", name := "begin", desc := "(LOwlsLent$House;)V" } : Jvm.MethodName)) ∈ GT := GT_in (tlw (tin_3 (List.mem_of_getElem? (i := 190) rfl))) rfl
theorem w_3_191 : (Jvm.Cond.code ({ cls := "OwlsLent$State", name := "begin", desc := "(LOwlsLent$House;)V" } : Jvm.MethodName) prog_9_method_2_code (3 : Nat) (Option.none : Option Jvm.ClassFile.FieldType)) ∈ GT := GT_in (tlw (tin_3 (List.mem_of_getElem? (i := 191) rfl))) rfl
theorem w_3_192 : (Jvm.Cond.methodLink "OwlsLent" (138 : Nat) ({ cls := "OwlsLent$Undo", name := "forget", desc := "()V" } : Jvm.MethodName)) ∈ GT := GT_in (tlw (tin_3 (List.mem_of_getElem? (i := 192) rfl))) rfl
theorem w_3_193 : (Jvm.Cond.instanceMethod ({ cls := "OwlsLent$Undo", name := "forget", desc := "()V" } : Jvm.MethodName)) ∈ GT := GT_in (tlw (tin_3 (List.mem_of_getElem? (i := 193) rfl))) rfl
theorem w_3_194 : (Jvm.Cond.selects "OwlsLent$Undo" ({ cls := "OwlsLent$Undo", name := "forget", desc := "()V" } : Jvm.MethodName) ({ cls := "OwlsLent$Undo", name := "forget", desc := "()V" } : Jvm.MethodName)) ∈ GT := GT_in (tlw (tin_3 (List.mem_of_getElem? (i := 194) rfl))) rfl
theorem w_3_195 : (Jvm.Cond.code ({ cls := "OwlsLent$Undo", name := "forget", desc := "()V" } : Jvm.MethodName) prog_12_method_2_code (1 : Nat) (Option.none : Option Jvm.ClassFile.FieldType)) ∈ GT := GT_in (tlw (tin_3 (List.mem_of_getElem? (i := 195) rfl))) rfl
theorem w_3_204 : (Jvm.Cond.methodLink "OwlsLent" (194 : Nat) ({ cls := "OwlsLent$House", name := "hasSound", desc := "(I)Z" } : Jvm.MethodName)) ∈ GT := GT_in (tlw (tin_3 (List.mem_of_getElem? (i := 204) rfl))) rfl
theorem w_3_205 : (Jvm.Cond.instanceMethod ({ cls := "OwlsLent$House", name := "hasSound", desc := "(I)Z" } : Jvm.MethodName)) ∈ GT := GT_in (tlw (tin_3 (List.mem_of_getElem? (i := 205) rfl))) rfl
theorem w_3_206 : (Jvm.Cond.selects "OwlsLent$House" ({ cls := "OwlsLent$House", name := "hasSound", desc := "(I)Z" } : Jvm.MethodName) ({ cls := "OwlsLent$House", name := "hasSound", desc := "(I)Z" } : Jvm.MethodName)) ∈ GT := GT_in (tlw (tin_3 (List.mem_of_getElem? (i := 206) rfl))) rfl
theorem w_3_207 : (Jvm.Cond.code ({ cls := "OwlsLent$House", name := "hasSound", desc := "(I)Z" } : Jvm.MethodName) prog_4_method_7_code (2 : Nat) (Option.some Jvm.ClassFile.FieldType.boolean)) ∈ GT := GT_in (tlw (tin_3 (List.mem_of_getElem? (i := 207) rfl))) rfl
theorem w_3_208 : (Jvm.Cond.methodLink "OwlsLent" (200 : Nat) ({ cls := "OwlsLent$State", name := "onBits", desc := "(LOwlsLent$House;I)I" } : Jvm.MethodName)) ∈ GT := GT_in (tlw (tin_3 (List.mem_of_getElem? (i := 208) rfl))) rfl
theorem w_3_209 : (Jvm.Cond.instanceMethod ({ cls := "OwlsLent$State", name := "onBits", desc := "(LOwlsLent$House;I)I" } : Jvm.MethodName)) ∈ GT := GT_in (tlw (tin_3 (List.mem_of_getElem? (i := 209) rfl))) rfl
theorem w_3_210 : (Jvm.Cond.selects "OwlsLent$State" ({ cls := "OwlsLent$State", name := "onBits", desc := "(LOwlsLent$House;I)I" } : Jvm.MethodName) ({ cls := "OwlsLent$State", name := "onBits", desc := "(LOwlsLent$House;I)I" } : Jvm.MethodName)) ∈ GT := GT_in (tlw (tin_3 (List.mem_of_getElem? (i := 210) rfl))) rfl
theorem w_3_211 : (Jvm.Cond.code ({ cls := "OwlsLent$State", name := "onBits", desc := "(LOwlsLent$House;I)I" } : Jvm.MethodName) prog_9_method_7_code (6 : Nat) (Option.some Jvm.ClassFile.FieldType.int)) ∈ GT := GT_in (tlw (tin_3 (List.mem_of_getElem? (i := 211) rfl))) rfl
theorem w_3_212 : (Jvm.Cond.methodLink "OwlsLent$State" (59 : Nat) ({ cls := "OwlsLent$House", name := "within", desc := "(III)Z" } : Jvm.MethodName)) ∈ GT := GT_in (tlw (tin_3 (List.mem_of_getElem? (i := 212) rfl))) rfl
theorem w_3_213 : (Jvm.Cond.static ({ cls := "OwlsLent$House", name := "within", desc := "(III)Z" } : Jvm.MethodName)) ∈ GT := GT_in (tlw (tin_3 (List.mem_of_getElem? (i := 213) rfl))) rfl
theorem w_3_214 : (Jvm.Cond.code ({ cls := "OwlsLent$House", name := "within", desc := "(III)Z" } : Jvm.MethodName) prog_4_method_12_code (4 : Nat) (Option.some Jvm.ClassFile.FieldType.boolean)) ∈ GT := GT_in (tlw (tin_3 (List.mem_of_getElem? (i := 214) rfl))) rfl
theorem w_3_219 : (Jvm.Cond.methodLink "OwlsLent" (209 : Nat) ({ cls := "OwlsLent$State", name := "lookingBits", desc := "(LOwlsLent$House;)I" } : Jvm.MethodName)) ∈ GT := GT_in (tlw (tin_3 (List.mem_of_getElem? (i := 219) rfl))) rfl
theorem w_3_220 : (Jvm.Cond.instanceMethod ({ cls := "OwlsLent$State", name := "lookingBits", desc := "(LOwlsLent$House;)I" } : Jvm.MethodName)) ∈ GT := GT_in (tlw (tin_3 (List.mem_of_getElem? (i := 220) rfl))) rfl
theorem w_3_221 : (Jvm.Cond.selects "OwlsLent$State" ({ cls := "OwlsLent$State", name := "lookingBits", desc := "(LOwlsLent$House;)I" } : Jvm.MethodName) ({ cls := "OwlsLent$State", name := "lookingBits", desc := "(LOwlsLent$House;)I" } : Jvm.MethodName)) ∈ GT := GT_in (tlw (tin_3 (List.mem_of_getElem? (i := 221) rfl))) rfl
theorem w_3_222 : (Jvm.Cond.code ({ cls := "OwlsLent$State", name := "lookingBits", desc := "(LOwlsLent$House;)I" } : Jvm.MethodName) prog_9_method_13_code (4 : Nat) (Option.some Jvm.ClassFile.FieldType.int)) ∈ GT := GT_in (tlw (tin_3 (List.mem_of_getElem? (i := 222) rfl))) rfl
theorem w_3_223 : (Jvm.Cond.methodLink "OwlsLent$State" (93 : Nat) ({ cls := "OwlsLent$State", name := "lookOf", desc := "(LOwlsLent$House;III)I" } : Jvm.MethodName)) ∈ GT := GT_in (tlw (tin_3 (List.mem_of_getElem? (i := 223) rfl))) rfl
theorem w_3_224 : (Jvm.Cond.instanceMethod ({ cls := "OwlsLent$State", name := "lookOf", desc := "(LOwlsLent$House;III)I" } : Jvm.MethodName)) ∈ GT := GT_in (tlw (tin_3 (List.mem_of_getElem? (i := 224) rfl))) rfl
theorem w_3_225 : (Jvm.Cond.selects "OwlsLent$State" ({ cls := "OwlsLent$State", name := "lookOf", desc := "(LOwlsLent$House;III)I" } : Jvm.MethodName) ({ cls := "OwlsLent$State", name := "lookOf", desc := "(LOwlsLent$House;III)I" } : Jvm.MethodName)) ∈ GT := GT_in (tlw (tin_3 (List.mem_of_getElem? (i := 225) rfl))) rfl
theorem w_3_226 : (Jvm.Cond.code ({ cls := "OwlsLent$State", name := "lookOf", desc := "(LOwlsLent$House;III)I" } : Jvm.MethodName) prog_9_method_11_code (5 : Nat) (Option.some Jvm.ClassFile.FieldType.int)) ∈ GT := GT_in (tlw (tin_3 (List.mem_of_getElem? (i := 226) rfl))) rfl
theorem w_3_227 : (Jvm.Cond.methodLink "OwlsLent$State" (71 : Nat) ({ cls := "OwlsLent$House", name := "shutAt", desc := "(I)Z" } : Jvm.MethodName)) ∈ GT := GT_in (tlw (tin_3 (List.mem_of_getElem? (i := 227) rfl))) rfl
theorem w_3_228 : (Jvm.Cond.instanceMethod ({ cls := "OwlsLent$House", name := "shutAt", desc := "(I)Z" } : Jvm.MethodName)) ∈ GT := GT_in (tlw (tin_3 (List.mem_of_getElem? (i := 228) rfl))) rfl
theorem w_3_229 : (Jvm.Cond.selects "OwlsLent$House" ({ cls := "OwlsLent$House", name := "shutAt", desc := "(I)Z" } : Jvm.MethodName) ({ cls := "OwlsLent$House", name := "shutAt", desc := "(I)Z" } : Jvm.MethodName)) ∈ GT := GT_in (tlw (tin_3 (List.mem_of_getElem? (i := 229) rfl))) rfl
theorem w_3_230 : (Jvm.Cond.code ({ cls := "OwlsLent$House", name := "shutAt", desc := "(I)Z" } : Jvm.MethodName) prog_4_method_13_code (2 : Nat) (Option.some Jvm.ClassFile.FieldType.boolean)) ∈ GT := GT_in (tlw (tin_3 (List.mem_of_getElem? (i := 230) rfl))) rfl
theorem w_3_231 : (Jvm.Cond.methodLink "OwlsLent$House" (83 : Nat) ({ cls := "OwlsLent$House", name := "within", desc := "(III)Z" } : Jvm.MethodName)) ∈ GT := GT_in (tlw (tin_3 (List.mem_of_getElem? (i := 231) rfl))) rfl
theorem w_3_232 : (Jvm.Cond.methodLink "OwlsLent$State" (74 : Nat) ({ cls := "OwlsLent$State", name := "onBits", desc := "(LOwlsLent$House;I)I" } : Jvm.MethodName)) ∈ GT := GT_in (tlw (tin_3 (List.mem_of_getElem? (i := 232) rfl))) rfl
theorem w_3_233 : (Jvm.Cond.methodLink "OwlsLent$State" (78 : Nat) ({ cls := "OwlsLent$State", name := "heardBits", desc := "(LOwlsLent$House;III)I" } : Jvm.MethodName)) ∈ GT := GT_in (tlw (tin_3 (List.mem_of_getElem? (i := 233) rfl))) rfl
theorem w_3_234 : (Jvm.Cond.instanceMethod ({ cls := "OwlsLent$State", name := "heardBits", desc := "(LOwlsLent$House;III)I" } : Jvm.MethodName)) ∈ GT := GT_in (tlw (tin_3 (List.mem_of_getElem? (i := 234) rfl))) rfl
theorem w_3_235 : (Jvm.Cond.selects "OwlsLent$State" ({ cls := "OwlsLent$State", name := "heardBits", desc := "(LOwlsLent$House;III)I" } : Jvm.MethodName) ({ cls := "OwlsLent$State", name := "heardBits", desc := "(LOwlsLent$House;III)I" } : Jvm.MethodName)) ∈ GT := GT_in (tlw (tin_3 (List.mem_of_getElem? (i := 235) rfl))) rfl
theorem w_3_236 : (Jvm.Cond.code ({ cls := "OwlsLent$State", name := "heardBits", desc := "(LOwlsLent$House;III)I" } : Jvm.MethodName) prog_9_method_8_code (7 : Nat) (Option.some Jvm.ClassFile.FieldType.int)) ∈ GT := GT_in (tlw (tin_3 (List.mem_of_getElem? (i := 236) rfl))) rfl
theorem w_3_237 : (Jvm.Cond.methodLink "OwlsLent$State" (63 : Nat) ({ cls := "OwlsLent$State", name := "rowOf", desc := "(LOwlsLent$House;I)[I" } : Jvm.MethodName)) ∈ GT := GT_in (tlw (tin_3 (List.mem_of_getElem? (i := 237) rfl))) rfl
theorem w_3_238 : (Jvm.Cond.instanceMethod ({ cls := "OwlsLent$State", name := "rowOf", desc := "(LOwlsLent$House;I)[I" } : Jvm.MethodName)) ∈ GT := GT_in (tlw (tin_3 (List.mem_of_getElem? (i := 238) rfl))) rfl
theorem w_3_239 : (Jvm.Cond.selects "OwlsLent$State" ({ cls := "OwlsLent$State", name := "rowOf", desc := "(LOwlsLent$House;I)[I" } : Jvm.MethodName) ({ cls := "OwlsLent$State", name := "rowOf", desc := "(LOwlsLent$House;I)[I" } : Jvm.MethodName)) ∈ GT := GT_in (tlw (tin_3 (List.mem_of_getElem? (i := 239) rfl))) rfl
theorem w_4_0 : (Jvm.Cond.code ({ cls := "OwlsLent$State", name := "rowOf", desc := "(LOwlsLent$House;I)[I" } : Jvm.MethodName) prog_9_method_6_code (3 : Nat) (Option.some (Jvm.ClassFile.FieldType.array Jvm.ClassFile.FieldType.int))) ∈ GT := GT_in (tlw (tin_4 (List.mem_of_getElem? (i := 0) rfl))) rfl
theorem w_4_1 : (Jvm.Cond.methodLink "OwlsLent$State" (49 : Nat) ({ cls := "OwlsLent$House", name := "hasSound", desc := "(I)Z" } : Jvm.MethodName)) ∈ GT := GT_in (tlw (tin_4 (List.mem_of_getElem? (i := 1) rfl))) rfl
theorem w_4_2 : (Jvm.Cond.methodLink "OwlsLent$State" (67 : Nat) ({ cls := "OwlsLent$House", name := "heardSide", desc := "(II[I)I" } : Jvm.MethodName)) ∈ GT := GT_in (tlw (tin_4 (List.mem_of_getElem? (i := 2) rfl))) rfl
theorem w_4_3 : (Jvm.Cond.instanceMethod ({ cls := "OwlsLent$House", name := "heardSide", desc := "(II[I)I" } : Jvm.MethodName)) ∈ GT := GT_in (tlw (tin_4 (List.mem_of_getElem? (i := 3) rfl))) rfl
theorem w_4_4 : (Jvm.Cond.selects "OwlsLent$House" ({ cls := "OwlsLent$House", name := "heardSide", desc := "(II[I)I" } : Jvm.MethodName) ({ cls := "OwlsLent$House", name := "heardSide", desc := "(II[I)I" } : Jvm.MethodName)) ∈ GT := GT_in (tlw (tin_4 (List.mem_of_getElem? (i := 4) rfl))) rfl
theorem w_4_5 : (Jvm.Cond.code ({ cls := "OwlsLent$House", name := "heardSide", desc := "(II[I)I" } : Jvm.MethodName) prog_4_method_16_code (6 : Nat) (Option.some Jvm.ClassFile.FieldType.int)) ∈ GT := GT_in (tlw (tin_4 (List.mem_of_getElem? (i := 5) rfl))) rfl
theorem w_4_6 : (Jvm.Cond.methodLink "OwlsLent$House" (87 : Nat) ({ cls := "OwlsLent$House", name := "sideAt", desc := "(I[I)I" } : Jvm.MethodName)) ∈ GT := GT_in (tlw (tin_4 (List.mem_of_getElem? (i := 6) rfl))) rfl
theorem w_4_7 : (Jvm.Cond.instanceMethod ({ cls := "OwlsLent$House", name := "sideAt", desc := "(I[I)I" } : Jvm.MethodName)) ∈ GT := GT_in (tlw (tin_4 (List.mem_of_getElem? (i := 7) rfl))) rfl
theorem w_4_8 : (Jvm.Cond.selects "OwlsLent$House" ({ cls := "OwlsLent$House", name := "sideAt", desc := "(I[I)I" } : Jvm.MethodName) ({ cls := "OwlsLent$House", name := "sideAt", desc := "(I[I)I" } : Jvm.MethodName)) ∈ GT := GT_in (tlw (tin_4 (List.mem_of_getElem? (i := 8) rfl))) rfl
theorem w_4_9 : (Jvm.Cond.code ({ cls := "OwlsLent$House", name := "sideAt", desc := "(I[I)I" } : Jvm.MethodName) prog_4_method_15_code (5 : Nat) (Option.some Jvm.ClassFile.FieldType.int)) ∈ GT := GT_in (tlw (tin_4 (List.mem_of_getElem? (i := 9) rfl))) rfl
theorem w_4_10 : (Jvm.Cond.methodLink "OwlsLent$House" (91 : Nat) ({ cls := "OwlsLent$House", name := "loudAt", desc := "(I[I)I" } : Jvm.MethodName)) ∈ GT := GT_in (tlw (tin_4 (List.mem_of_getElem? (i := 10) rfl))) rfl
theorem w_4_11 : (Jvm.Cond.instanceMethod ({ cls := "OwlsLent$House", name := "loudAt", desc := "(I[I)I" } : Jvm.MethodName)) ∈ GT := GT_in (tlw (tin_4 (List.mem_of_getElem? (i := 11) rfl))) rfl
theorem w_4_12 : (Jvm.Cond.selects "OwlsLent$House" ({ cls := "OwlsLent$House", name := "loudAt", desc := "(I[I)I" } : Jvm.MethodName) ({ cls := "OwlsLent$House", name := "loudAt", desc := "(I[I)I" } : Jvm.MethodName)) ∈ GT := GT_in (tlw (tin_4 (List.mem_of_getElem? (i := 12) rfl))) rfl
theorem w_4_13 : (Jvm.Cond.code ({ cls := "OwlsLent$House", name := "loudAt", desc := "(I[I)I" } : Jvm.MethodName) prog_4_method_14_code (5 : Nat) (Option.some Jvm.ClassFile.FieldType.int)) ∈ GT := GT_in (tlw (tin_4 (List.mem_of_getElem? (i := 13) rfl))) rfl
theorem w_4_14 : (Jvm.Cond.methodLink "OwlsLent$State" (86 : Nat) ({ cls := "OwlsLent$State", name := "loudest", desc := "(LOwlsLent$House;II)I" } : Jvm.MethodName)) ∈ GT := GT_in (tlw (tin_4 (List.mem_of_getElem? (i := 14) rfl))) rfl
theorem w_4_15 : (Jvm.Cond.instanceMethod ({ cls := "OwlsLent$State", name := "loudest", desc := "(LOwlsLent$House;II)I" } : Jvm.MethodName)) ∈ GT := GT_in (tlw (tin_4 (List.mem_of_getElem? (i := 15) rfl))) rfl
theorem w_4_16 : (Jvm.Cond.selects "OwlsLent$State" ({ cls := "OwlsLent$State", name := "loudest", desc := "(LOwlsLent$House;II)I" } : Jvm.MethodName) ({ cls := "OwlsLent$State", name := "loudest", desc := "(LOwlsLent$House;II)I" } : Jvm.MethodName)) ∈ GT := GT_in (tlw (tin_4 (List.mem_of_getElem? (i := 16) rfl))) rfl
theorem w_4_17 : (Jvm.Cond.code ({ cls := "OwlsLent$State", name := "loudest", desc := "(LOwlsLent$House;II)I" } : Jvm.MethodName) prog_9_method_10_code (8 : Nat) (Option.some Jvm.ClassFile.FieldType.int)) ∈ GT := GT_in (tlw (tin_4 (List.mem_of_getElem? (i := 17) rfl))) rfl
theorem w_4_18 : (Jvm.Cond.methodLink "OwlsLent$State" (82 : Nat) ({ cls := "OwlsLent$House", name := "loudAt", desc := "(I[I)I" } : Jvm.MethodName)) ∈ GT := GT_in (tlw (tin_4 (List.mem_of_getElem? (i := 18) rfl))) rfl
theorem w_4_19 : (Jvm.Cond.methodLink "OwlsLent" (213 : Nat) ({ cls := "OwlsLent$House", name := "shutAt", desc := "(I)Z" } : Jvm.MethodName)) ∈ GT := GT_in (tlw (tin_4 (List.mem_of_getElem? (i := 19) rfl))) rfl
theorem w_4_20 : (Jvm.Cond.methodLink "OwlsLent" (219 : Nat) ({ cls := "OwlsLent$State", name := "total", desc := "([II)I" } : Jvm.MethodName)) ∈ GT := GT_in (tlw (tin_4 (List.mem_of_getElem? (i := 20) rfl))) rfl
theorem w_4_21 : (Jvm.Cond.static ({ cls := "OwlsLent$State", name := "total", desc := "([II)I" } : Jvm.MethodName)) ∈ GT := GT_in (tlw (tin_4 (List.mem_of_getElem? (i := 21) rfl))) rfl
theorem w_4_22 : (Jvm.Cond.code ({ cls := "OwlsLent$State", name := "total", desc := "([II)I" } : Jvm.MethodName) prog_9_method_4_code (4 : Nat) (Option.some Jvm.ClassFile.FieldType.int)) ∈ GT := GT_in (tlw (tin_4 (List.mem_of_getElem? (i := 22) rfl))) rfl
theorem w_4_31 : (Jvm.Cond.methodLink "OwlsLent" (175 : Nat) ({ cls := "OwlsLent$House", name := "hasOwl", desc := "(I)Z" } : Jvm.MethodName)) ∈ GT := GT_in (tlw (tin_4 (List.mem_of_getElem? (i := 31) rfl))) rfl
theorem w_4_32 : (Jvm.Cond.instanceMethod ({ cls := "OwlsLent$House", name := "hasOwl", desc := "(I)Z" } : Jvm.MethodName)) ∈ GT := GT_in (tlw (tin_4 (List.mem_of_getElem? (i := 32) rfl))) rfl
theorem w_4_33 : (Jvm.Cond.selects "OwlsLent$House" ({ cls := "OwlsLent$House", name := "hasOwl", desc := "(I)Z" } : Jvm.MethodName) ({ cls := "OwlsLent$House", name := "hasOwl", desc := "(I)Z" } : Jvm.MethodName)) ∈ GT := GT_in (tlw (tin_4 (List.mem_of_getElem? (i := 33) rfl))) rfl
theorem w_4_34 : (Jvm.Cond.code ({ cls := "OwlsLent$House", name := "hasOwl", desc := "(I)Z" } : Jvm.MethodName) prog_4_method_6_code (2 : Nat) (Option.some Jvm.ClassFile.FieldType.boolean)) ∈ GT := GT_in (tlw (tin_4 (List.mem_of_getElem? (i := 34) rfl))) rfl
theorem w_4_35 : (Jvm.Cond.methodLink "OwlsLent" (150 : Nat) ({ cls := "OwlsLent$House", name := "hasBed", desc := "(I)Z" } : Jvm.MethodName)) ∈ GT := GT_in (tlw (tin_4 (List.mem_of_getElem? (i := 35) rfl))) rfl
theorem w_4_36 : (Jvm.Cond.instanceMethod ({ cls := "OwlsLent$House", name := "hasBed", desc := "(I)Z" } : Jvm.MethodName)) ∈ GT := GT_in (tlw (tin_4 (List.mem_of_getElem? (i := 36) rfl))) rfl
theorem w_4_37 : (Jvm.Cond.selects "OwlsLent$House" ({ cls := "OwlsLent$House", name := "hasBed", desc := "(I)Z" } : Jvm.MethodName) ({ cls := "OwlsLent$House", name := "hasBed", desc := "(I)Z" } : Jvm.MethodName)) ∈ GT := GT_in (tlw (tin_4 (List.mem_of_getElem? (i := 37) rfl))) rfl
theorem w_4_38 : (Jvm.Cond.code ({ cls := "OwlsLent$House", name := "hasBed", desc := "(I)Z" } : Jvm.MethodName) prog_4_method_5_code (2 : Nat) (Option.some Jvm.ClassFile.FieldType.boolean)) ∈ GT := GT_in (tlw (tin_4 (List.mem_of_getElem? (i := 38) rfl))) rfl
theorem w_4_39 : (Jvm.Cond.methodLink "OwlsLent" (238 : Nat) ({ cls := "OwlsLent$State", name := "copyFrom", desc := "(LOwlsLent$State;)V" } : Jvm.MethodName)) ∈ GT := GT_in (tlw (tin_4 (List.mem_of_getElem? (i := 39) rfl))) rfl
theorem w_4_40 : (Jvm.Cond.instanceMethod ({ cls := "OwlsLent$State", name := "copyFrom", desc := "(LOwlsLent$State;)V" } : Jvm.MethodName)) ∈ GT := GT_in (tlw (tin_4 (List.mem_of_getElem? (i := 40) rfl))) rfl
theorem w_4_41 : (Jvm.Cond.selects "OwlsLent$State" ({ cls := "OwlsLent$State", name := "copyFrom", desc := "(LOwlsLent$State;)V" } : Jvm.MethodName) ({ cls := "OwlsLent$State", name := "copyFrom", desc := "(LOwlsLent$State;)V" } : Jvm.MethodName)) ∈ GT := GT_in (tlw (tin_4 (List.mem_of_getElem? (i := 41) rfl))) rfl
theorem w_4_42 : (Jvm.Cond.code ({ cls := "OwlsLent$State", name := "copyFrom", desc := "(LOwlsLent$State;)V" } : Jvm.MethodName) prog_9_method_3_code (2 : Nat) (Option.none : Option Jvm.ClassFile.FieldType)) ∈ GT := GT_in (tlw (tin_4 (List.mem_of_getElem? (i := 42) rfl))) rfl
theorem w_4_43 : (Jvm.Cond.methodLink "OwlsLent$State" (43 : Nat) ({ cls := "java/lang/System", name := "arraycopy", desc := "(Ljava/lang/Object;ILjava/lang/Object;II)V" } : Jvm.MethodName)) ∈ GT := GT_in (tlw (tin_4 (List.mem_of_getElem? (i := 43) rfl))) rfl
theorem w_4_44 : (Jvm.Cond.methodLink "OwlsLent" (242 : Nat) ({ cls := "OwlsLent$State", name := "lendTo", desc := "(LOwlsLent$House;II)I" } : Jvm.MethodName)) ∈ GT := GT_in (tlw (tin_4 (List.mem_of_getElem? (i := 44) rfl))) rfl
theorem w_4_45 : (Jvm.Cond.instanceMethod ({ cls := "OwlsLent$State", name := "lendTo", desc := "(LOwlsLent$House;II)I" } : Jvm.MethodName)) ∈ GT := GT_in (tlw (tin_4 (List.mem_of_getElem? (i := 45) rfl))) rfl
theorem w_4_46 : (Jvm.Cond.selects "OwlsLent$State" ({ cls := "OwlsLent$State", name := "lendTo", desc := "(LOwlsLent$House;II)I" } : Jvm.MethodName) ({ cls := "OwlsLent$State", name := "lendTo", desc := "(LOwlsLent$House;II)I" } : Jvm.MethodName)) ∈ GT := GT_in (tlw (tin_4 (List.mem_of_getElem? (i := 46) rfl))) rfl
theorem w_4_47 : (Jvm.Cond.code ({ cls := "OwlsLent$State", name := "lendTo", desc := "(LOwlsLent$House;II)I" } : Jvm.MethodName) prog_9_method_14_code (4 : Nat) (Option.some Jvm.ClassFile.FieldType.int)) ∈ GT := GT_in (tlw (tin_4 (List.mem_of_getElem? (i := 47) rfl))) rfl
theorem w_4_48 : (Jvm.Cond.methodLink "OwlsLent$State" (96 : Nat) ({ cls := "OwlsLent$State", name := "owlAt", desc := "(LOwlsLent$House;I)I" } : Jvm.MethodName)) ∈ GT := GT_in (tlw (tin_4 (List.mem_of_getElem? (i := 48) rfl))) rfl
theorem w_4_49 : (Jvm.Cond.instanceMethod ({ cls := "OwlsLent$State", name := "owlAt", desc := "(LOwlsLent$House;I)I" } : Jvm.MethodName)) ∈ GT := GT_in (tlw (tin_4 (List.mem_of_getElem? (i := 49) rfl))) rfl
theorem w_4_50 : (Jvm.Cond.selects "OwlsLent$State" ({ cls := "OwlsLent$State", name := "owlAt", desc := "(LOwlsLent$House;I)I" } : Jvm.MethodName) ({ cls := "OwlsLent$State", name := "owlAt", desc := "(LOwlsLent$House;I)I" } : Jvm.MethodName)) ∈ GT := GT_in (tlw (tin_4 (List.mem_of_getElem? (i := 50) rfl))) rfl
theorem w_4_51 : (Jvm.Cond.code ({ cls := "OwlsLent$State", name := "owlAt", desc := "(LOwlsLent$House;I)I" } : Jvm.MethodName) prog_9_method_5_code (4 : Nat) (Option.some Jvm.ClassFile.FieldType.int)) ∈ GT := GT_in (tlw (tin_4 (List.mem_of_getElem? (i := 51) rfl))) rfl
theorem w_4_52 : (Jvm.Cond.methodLink "OwlsLent" (245 : Nat) ({ cls := "OwlsLent", name := "keepDone", desc := "(I)I" } : Jvm.MethodName)) ∈ GT := GT_in (tlw (tin_4 (List.mem_of_getElem? (i := 52) rfl))) rfl
theorem w_4_54 : (Jvm.Cond.instanceMethod ({ cls := "OwlsLent", name := "keepDone", desc := "(I)I" } : Jvm.MethodName)) ∈ GT := GT_in (tlw (tin_4 (List.mem_of_getElem? (i := 54) rfl))) rfl
theorem w_4_55 : (Jvm.Cond.code ({ cls := "OwlsLent", name := "keepDone", desc := "(I)I" } : Jvm.MethodName) prog_1_method_19_code (2 : Nat) (Option.some Jvm.ClassFile.FieldType.int)) ∈ GT := GT_in (tlw (tin_4 (List.mem_of_getElem? (i := 55) rfl))) rfl
theorem w_4_56 : (Jvm.Cond.methodLink "OwlsLent" (272 : Nat) ({ cls := "OwlsLent", name := "keepTrial", desc := "()V" } : Jvm.MethodName)) ∈ GT := GT_in (tlw (tin_4 (List.mem_of_getElem? (i := 56) rfl))) rfl
theorem w_4_58 : (Jvm.Cond.instanceMethod ({ cls := "OwlsLent", name := "keepTrial", desc := "()V" } : Jvm.MethodName)) ∈ GT := GT_in (tlw (tin_4 (List.mem_of_getElem? (i := 58) rfl))) rfl
theorem w_4_59 : (Jvm.Cond.code ({ cls := "OwlsLent", name := "keepTrial", desc := "()V" } : Jvm.MethodName) prog_1_method_20_code (1 : Nat) (Option.none : Option Jvm.ClassFile.FieldType)) ∈ GT := GT_in (tlw (tin_4 (List.mem_of_getElem? (i := 59) rfl))) rfl
theorem w_4_60 : (Jvm.Cond.methodLink "OwlsLent" (283 : Nat) ({ cls := "OwlsLent$Undo", name := "keep", desc := "(LOwlsLent$State;)V" } : Jvm.MethodName)) ∈ GT := GT_in (tlw (tin_4 (List.mem_of_getElem? (i := 60) rfl))) rfl
theorem w_4_61 : (Jvm.Cond.instanceMethod ({ cls := "OwlsLent$Undo", name := "keep", desc := "(LOwlsLent$State;)V" } : Jvm.MethodName)) ∈ GT := GT_in (tlw (tin_4 (List.mem_of_getElem? (i := 61) rfl))) rfl
theorem w_4_62 : (Jvm.Cond.selects "OwlsLent$Undo" ({ cls := "OwlsLent$Undo", name := "keep", desc := "(LOwlsLent$State;)V" } : Jvm.MethodName) ({ cls := "OwlsLent$Undo", name := "keep", desc := "(LOwlsLent$State;)V" } : Jvm.MethodName)) ∈ GT := GT_in (tlw (tin_4 (List.mem_of_getElem? (i := 62) rfl))) rfl
theorem w_4_63 : (Jvm.Cond.code ({ cls := "OwlsLent$Undo", name := "keep", desc := "(LOwlsLent$State;)V" } : Jvm.MethodName) prog_12_method_3_code (2 : Nat) (Option.none : Option Jvm.ClassFile.FieldType)) ∈ GT := GT_in (tlw (tin_4 (List.mem_of_getElem? (i := 63) rfl))) rfl
theorem w_4_64 : (Jvm.Cond.methodLink "OwlsLent$Undo" (25 : Nat) ({ cls := "OwlsLent$State", name := "copyFrom", desc := "(LOwlsLent$State;)V" } : Jvm.MethodName)) ∈ GT := GT_in (tlw (tin_4 (List.mem_of_getElem? (i := 64) rfl))) rfl
theorem w_4_65 : (Jvm.Cond.methodLink "OwlsLent$Undo" (29 : Nat) ({ cls := "java/lang/Math", name := "min", desc := "(II)I" } : Jvm.MethodName)) ∈ GT := GT_in (tlw (tin_4 (List.mem_of_getElem? (i := 65) rfl))) rfl
theorem w_4_70 : (Jvm.Cond.methodLink "OwlsLent" (249 : Nat) ({ cls := "OwlsLent$State", name := "hushOne", desc := "(I)I" } : Jvm.MethodName)) ∈ GT := GT_in (tlw (tin_4 (List.mem_of_getElem? (i := 70) rfl))) rfl
theorem w_4_71 : (Jvm.Cond.instanceMethod ({ cls := "OwlsLent$State", name := "hushOne", desc := "(I)I" } : Jvm.MethodName)) ∈ GT := GT_in (tlw (tin_4 (List.mem_of_getElem? (i := 71) rfl))) rfl
theorem w_4_72 : (Jvm.Cond.selects "OwlsLent$State" ({ cls := "OwlsLent$State", name := "hushOne", desc := "(I)I" } : Jvm.MethodName) ({ cls := "OwlsLent$State", name := "hushOne", desc := "(I)I" } : Jvm.MethodName)) ∈ GT := GT_in (tlw (tin_4 (List.mem_of_getElem? (i := 72) rfl))) rfl
theorem w_4_73 : (Jvm.Cond.code ({ cls := "OwlsLent$State", name := "hushOne", desc := "(I)I" } : Jvm.MethodName) prog_9_method_15_code (2 : Nat) (Option.some Jvm.ClassFile.FieldType.int)) ∈ GT := GT_in (tlw (tin_4 (List.mem_of_getElem? (i := 73) rfl))) rfl
theorem w_4_78 : (Jvm.Cond.methodLink "OwlsLent" (252 : Nat) ({ cls := "OwlsLent$State", name := "letOne", desc := "(I)I" } : Jvm.MethodName)) ∈ GT := GT_in (tlw (tin_4 (List.mem_of_getElem? (i := 78) rfl))) rfl
theorem w_4_79 : (Jvm.Cond.instanceMethod ({ cls := "OwlsLent$State", name := "letOne", desc := "(I)I" } : Jvm.MethodName)) ∈ GT := GT_in (tlw (tin_4 (List.mem_of_getElem? (i := 79) rfl))) rfl
theorem w_4_80 : (Jvm.Cond.selects "OwlsLent$State" ({ cls := "OwlsLent$State", name := "letOne", desc := "(I)I" } : Jvm.MethodName) ({ cls := "OwlsLent$State", name := "letOne", desc := "(I)I" } : Jvm.MethodName)) ∈ GT := GT_in (tlw (tin_4 (List.mem_of_getElem? (i := 80) rfl))) rfl
theorem w_4_81 : (Jvm.Cond.code ({ cls := "OwlsLent$State", name := "letOne", desc := "(I)I" } : Jvm.MethodName) prog_9_method_16_code (2 : Nat) (Option.some Jvm.ClassFile.FieldType.int)) ∈ GT := GT_in (tlw (tin_4 (List.mem_of_getElem? (i := 81) rfl))) rfl
theorem w_4_86 : (Jvm.Cond.methodLink "OwlsLent" (255 : Nat) ({ cls := "OwlsLent$House", name := "hasCell", desc := "(II)Z" } : Jvm.MethodName)) ∈ GT := GT_in (tlw (tin_4 (List.mem_of_getElem? (i := 86) rfl))) rfl
theorem w_4_87 : (Jvm.Cond.instanceMethod ({ cls := "OwlsLent$House", name := "hasCell", desc := "(II)Z" } : Jvm.MethodName)) ∈ GT := GT_in (tlw (tin_4 (List.mem_of_getElem? (i := 87) rfl))) rfl
theorem w_4_88 : (Jvm.Cond.selects "OwlsLent$House" ({ cls := "OwlsLent$House", name := "hasCell", desc := "(II)Z" } : Jvm.MethodName) ({ cls := "OwlsLent$House", name := "hasCell", desc := "(II)Z" } : Jvm.MethodName)) ∈ GT := GT_in (tlw (tin_4 (List.mem_of_getElem? (i := 88) rfl))) rfl
theorem w_4_89 : (Jvm.Cond.code ({ cls := "OwlsLent$House", name := "hasCell", desc := "(II)Z" } : Jvm.MethodName) prog_4_method_8_code (3 : Nat) (Option.some Jvm.ClassFile.FieldType.boolean)) ∈ GT := GT_in (tlw (tin_4 (List.mem_of_getElem? (i := 89) rfl))) rfl
theorem w_4_90 : (Jvm.Cond.methodLink "OwlsLent" (259 : Nat) ({ cls := "OwlsLent$State", name := "shoutIn", desc := "(III)I" } : Jvm.MethodName)) ∈ GT := GT_in (tlw (tin_4 (List.mem_of_getElem? (i := 90) rfl))) rfl
theorem w_4_91 : (Jvm.Cond.instanceMethod ({ cls := "OwlsLent$State", name := "shoutIn", desc := "(III)I" } : Jvm.MethodName)) ∈ GT := GT_in (tlw (tin_4 (List.mem_of_getElem? (i := 91) rfl))) rfl
theorem w_4_92 : (Jvm.Cond.selects "OwlsLent$State" ({ cls := "OwlsLent$State", name := "shoutIn", desc := "(III)I" } : Jvm.MethodName) ({ cls := "OwlsLent$State", name := "shoutIn", desc := "(III)I" } : Jvm.MethodName)) ∈ GT := GT_in (tlw (tin_4 (List.mem_of_getElem? (i := 92) rfl))) rfl
theorem w_4_93 : (Jvm.Cond.code ({ cls := "OwlsLent$State", name := "shoutIn", desc := "(III)I" } : Jvm.MethodName) prog_9_method_18_code (4 : Nat) (Option.some Jvm.ClassFile.FieldType.int)) ∈ GT := GT_in (tlw (tin_4 (List.mem_of_getElem? (i := 93) rfl))) rfl
theorem w_4_94 : (Jvm.Cond.methodLink "OwlsLent$State" (99 : Nat) ({ cls := "OwlsLent$State", name := "isShouted", desc := "()Z" } : Jvm.MethodName)) ∈ GT := GT_in (tlw (tin_4 (List.mem_of_getElem? (i := 94) rfl))) rfl
theorem w_4_95 : (Jvm.Cond.instanceMethod ({ cls := "OwlsLent$State", name := "isShouted", desc := "()Z" } : Jvm.MethodName)) ∈ GT := GT_in (tlw (tin_4 (List.mem_of_getElem? (i := 95) rfl))) rfl
theorem w_4_96 : (Jvm.Cond.selects "OwlsLent$State" ({ cls := "OwlsLent$State", name := "isShouted", desc := "()Z" } : Jvm.MethodName) ({ cls := "OwlsLent$State", name := "isShouted", desc := "()Z" } : Jvm.MethodName)) ∈ GT := GT_in (tlw (tin_4 (List.mem_of_getElem? (i := 96) rfl))) rfl
theorem w_4_97 : (Jvm.Cond.code ({ cls := "OwlsLent$State", name := "isShouted", desc := "()Z" } : Jvm.MethodName) prog_9_method_17_code (1 : Nat) (Option.some Jvm.ClassFile.FieldType.boolean)) ∈ GT := GT_in (tlw (tin_4 (List.mem_of_getElem? (i := 97) rfl))) rfl
theorem w_4_102 : (Jvm.Cond.methodLink "OwlsLent" (263 : Nat) ({ cls := "java/lang/Math", name := "min", desc := "(II)I" } : Jvm.MethodName)) ∈ GT := GT_in (tlw (tin_4 (List.mem_of_getElem? (i := 102) rfl))) rfl
theorem w_4_103 : (Jvm.Cond.methodLink "OwlsLent" (269 : Nat) ({ cls := "OwlsLent$State", name := "passHour", desc := "(LOwlsLent$House;)V" } : Jvm.MethodName)) ∈ GT := GT_in (tlw (tin_4 (List.mem_of_getElem? (i := 103) rfl))) rfl
theorem w_4_104 : (Jvm.Cond.instanceMethod ({ cls := "OwlsLent$State", name := "passHour", desc := "(LOwlsLent$House;)V" } : Jvm.MethodName)) ∈ GT := GT_in (tlw (tin_4 (List.mem_of_getElem? (i := 104) rfl))) rfl
theorem w_4_105 : (Jvm.Cond.selects "OwlsLent$State" ({ cls := "OwlsLent$State", name := "passHour", desc := "(LOwlsLent$House;)V" } : Jvm.MethodName) ({ cls := "OwlsLent$State", name := "passHour", desc := "(LOwlsLent$House;)V" } : Jvm.MethodName)) ∈ GT := GT_in (tlw (tin_4 (List.mem_of_getElem? (i := 105) rfl))) rfl
theorem w_4_106 : (Jvm.Cond.code ({ cls := "OwlsLent$State", name := "passHour", desc := "(LOwlsLent$House;)V" } : Jvm.MethodName) prog_9_method_19_code (8 : Nat) (Option.none : Option Jvm.ClassFile.FieldType)) ∈ GT := GT_in (tlw (tin_4 (List.mem_of_getElem? (i := 106) rfl))) rfl
theorem w_4_111 : (Jvm.Cond.methodLink "OwlsLent" (275 : Nat) ({ cls := "OwlsLent$State", name := "passDrawn", desc := "(LOwlsLent$House;II)V" } : Jvm.MethodName)) ∈ GT := GT_in (tlw (tin_4 (List.mem_of_getElem? (i := 111) rfl))) rfl
theorem w_4_112 : (Jvm.Cond.instanceMethod ({ cls := "OwlsLent$State", name := "passDrawn", desc := "(LOwlsLent$House;II)V" } : Jvm.MethodName)) ∈ GT := GT_in (tlw (tin_4 (List.mem_of_getElem? (i := 112) rfl))) rfl
theorem w_4_113 : (Jvm.Cond.selects "OwlsLent$State" ({ cls := "OwlsLent$State", name := "passDrawn", desc := "(LOwlsLent$House;II)V" } : Jvm.MethodName) ({ cls := "OwlsLent$State", name := "passDrawn", desc := "(LOwlsLent$House;II)V" } : Jvm.MethodName)) ∈ GT := GT_in (tlw (tin_4 (List.mem_of_getElem? (i := 113) rfl))) rfl
theorem w_4_114 : (Jvm.Cond.code ({ cls := "OwlsLent$State", name := "passDrawn", desc := "(LOwlsLent$House;II)V" } : Jvm.MethodName) prog_9_method_20_code (8 : Nat) (Option.none : Option Jvm.ClassFile.FieldType)) ∈ GT := GT_in (tlw (tin_4 (List.mem_of_getElem? (i := 114) rfl))) rfl
theorem w_4_115 : (Jvm.Cond.methodLink "OwlsLent$State" (106 : Nat) ({ cls := "OwlsLent$State", name := "step", desc := "(I)I" } : Jvm.MethodName)) ∈ GT := GT_in (tlw (tin_4 (List.mem_of_getElem? (i := 115) rfl))) rfl
theorem w_4_116 : (Jvm.Cond.static ({ cls := "OwlsLent$State", name := "step", desc := "(I)I" } : Jvm.MethodName)) ∈ GT := GT_in (tlw (tin_4 (List.mem_of_getElem? (i := 116) rfl))) rfl
theorem w_4_117 : (Jvm.Cond.code ({ cls := "OwlsLent$State", name := "step", desc := "(I)I" } : Jvm.MethodName) prog_9_method_21_code (1 : Nat) (Option.some Jvm.ClassFile.FieldType.int)) ∈ GT := GT_in (tlw (tin_4 (List.mem_of_getElem? (i := 117) rfl))) rfl
theorem w_4_118 : (Jvm.Cond.constant "OwlsLent$State" (128 : Nat) (1103515245 : Int32)) ∈ GT := GT_in (tlw (tin_4 (List.mem_of_getElem? (i := 118) rfl))) rfl
theorem w_4_119 : (Jvm.Cond.methodLink "OwlsLent$State" (110 : Nat) ({ cls := "OwlsLent$State", name := "pick", desc := "(II)I" } : Jvm.MethodName)) ∈ GT := GT_in (tlw (tin_4 (List.mem_of_getElem? (i := 119) rfl))) rfl
theorem w_4_120 : (Jvm.Cond.static ({ cls := "OwlsLent$State", name := "pick", desc := "(II)I" } : Jvm.MethodName)) ∈ GT := GT_in (tlw (tin_4 (List.mem_of_getElem? (i := 120) rfl))) rfl
theorem w_4_121 : (Jvm.Cond.code ({ cls := "OwlsLent$State", name := "pick", desc := "(II)I" } : Jvm.MethodName) prog_9_method_22_code (2 : Nat) (Option.some Jvm.ClassFile.FieldType.int)) ∈ GT := GT_in (tlw (tin_4 (List.mem_of_getElem? (i := 121) rfl))) rfl
theorem w_4_122 : (Jvm.Cond.methodLink "OwlsLent$State" (120 : Nat) ({ cls := "OwlsLent$State", name := "shoutIn", desc := "(III)I" } : Jvm.MethodName)) ∈ GT := GT_in (tlw (tin_4 (List.mem_of_getElem? (i := 122) rfl))) rfl
theorem w_4_123 : (Jvm.Cond.methodLink "OwlsLent$State" (124 : Nat) ({ cls := "OwlsLent$State", name := "passHour", desc := "(LOwlsLent$House;)V" } : Jvm.MethodName)) ∈ GT := GT_in (tlw (tin_4 (List.mem_of_getElem? (i := 123) rfl))) rfl
theorem w_4_128 : (Jvm.Cond.methodLink "OwlsLent" (279 : Nat) ({ cls := "OwlsLent$Undo", name := "takeBack", desc := "(LOwlsLent$State;)I" } : Jvm.MethodName)) ∈ GT := GT_in (tlw (tin_4 (List.mem_of_getElem? (i := 128) rfl))) rfl
theorem w_4_129 : (Jvm.Cond.instanceMethod ({ cls := "OwlsLent$Undo", name := "takeBack", desc := "(LOwlsLent$State;)I" } : Jvm.MethodName)) ∈ GT := GT_in (tlw (tin_4 (List.mem_of_getElem? (i := 129) rfl))) rfl
theorem w_4_130 : (Jvm.Cond.selects "OwlsLent$Undo" ({ cls := "OwlsLent$Undo", name := "takeBack", desc := "(LOwlsLent$State;)I" } : Jvm.MethodName) ({ cls := "OwlsLent$Undo", name := "takeBack", desc := "(LOwlsLent$State;)I" } : Jvm.MethodName)) ∈ GT := GT_in (tlw (tin_4 (List.mem_of_getElem? (i := 130) rfl))) rfl
theorem w_4_131 : (Jvm.Cond.code ({ cls := "OwlsLent$Undo", name := "takeBack", desc := "(LOwlsLent$State;)I" } : Jvm.MethodName) prog_12_method_4_code (2 : Nat) (Option.some Jvm.ClassFile.FieldType.int)) ∈ GT := GT_in (tlw (tin_4 (List.mem_of_getElem? (i := 131) rfl))) rfl
theorem w_4_136 : (Jvm.Cond.methodLink "OwlsLent" (286 : Nat) ({ cls := "OwlsLent$State", name := "heardNow", desc := "(LOwlsLent$House;II)I" } : Jvm.MethodName)) ∈ GT := GT_in (tlw (tin_4 (List.mem_of_getElem? (i := 136) rfl))) rfl
theorem w_4_137 : (Jvm.Cond.instanceMethod ({ cls := "OwlsLent$State", name := "heardNow", desc := "(LOwlsLent$House;II)I" } : Jvm.MethodName)) ∈ GT := GT_in (tlw (tin_4 (List.mem_of_getElem? (i := 137) rfl))) rfl
theorem w_4_138 : (Jvm.Cond.selects "OwlsLent$State" ({ cls := "OwlsLent$State", name := "heardNow", desc := "(LOwlsLent$House;II)I" } : Jvm.MethodName) ({ cls := "OwlsLent$State", name := "heardNow", desc := "(LOwlsLent$House;II)I" } : Jvm.MethodName)) ∈ GT := GT_in (tlw (tin_4 (List.mem_of_getElem? (i := 138) rfl))) rfl
theorem w_4_139 : (Jvm.Cond.code ({ cls := "OwlsLent$State", name := "heardNow", desc := "(LOwlsLent$House;II)I" } : Jvm.MethodName) prog_9_method_9_code (4 : Nat) (Option.some Jvm.ClassFile.FieldType.int)) ∈ GT := GT_in (tlw (tin_4 (List.mem_of_getElem? (i := 139) rfl))) rfl
theorem w_4_144 : (Jvm.Cond.methodLink "OwlsLent" (186 : Nat) ({ cls := "OwlsLent$State", name := "lookOf", desc := "(LOwlsLent$House;III)I" } : Jvm.MethodName)) ∈ GT := GT_in (tlw (tin_4 (List.mem_of_getElem? (i := 144) rfl))) rfl
theorem w_4_145 : (Jvm.Cond.methodLink "OwlsLent" (190 : Nat) ({ cls := "OwlsLent$State", name := "sideFrom", desc := "(LOwlsLent$House;II)I" } : Jvm.MethodName)) ∈ GT := GT_in (tlw (tin_4 (List.mem_of_getElem? (i := 145) rfl))) rfl
theorem w_4_146 : (Jvm.Cond.instanceMethod ({ cls := "OwlsLent$State", name := "sideFrom", desc := "(LOwlsLent$House;II)I" } : Jvm.MethodName)) ∈ GT := GT_in (tlw (tin_4 (List.mem_of_getElem? (i := 146) rfl))) rfl
theorem w_4_147 : (Jvm.Cond.selects "OwlsLent$State" ({ cls := "OwlsLent$State", name := "sideFrom", desc := "(LOwlsLent$House;II)I" } : Jvm.MethodName) ({ cls := "OwlsLent$State", name := "sideFrom", desc := "(LOwlsLent$House;II)I" } : Jvm.MethodName)) ∈ GT := GT_in (tlw (tin_4 (List.mem_of_getElem? (i := 147) rfl))) rfl
theorem w_4_148 : (Jvm.Cond.code ({ cls := "OwlsLent$State", name := "sideFrom", desc := "(LOwlsLent$House;II)I" } : Jvm.MethodName) prog_9_method_12_code (4 : Nat) (Option.some Jvm.ClassFile.FieldType.int)) ∈ GT := GT_in (tlw (tin_4 (List.mem_of_getElem? (i := 148) rfl))) rfl
theorem w_4_149 : (Jvm.Cond.methodLink "OwlsLent$State" (90 : Nat) ({ cls := "OwlsLent$House", name := "sideAt", desc := "(I[I)I" } : Jvm.MethodName)) ∈ GT := GT_in (tlw (tin_4 (List.mem_of_getElem? (i := 149) rfl))) rfl
theorem w_4_158 : (Jvm.Cond.methodLink "OwlsLent" (165 : Nat) ({ cls := "OwlsLent$State", name := "owlAt", desc := "(LOwlsLent$House;I)I" } : Jvm.MethodName)) ∈ GT := GT_in (tlw (tin_4 (List.mem_of_getElem? (i := 158) rfl))) rfl
theorem w_4_159 : (Jvm.Cond.methodLink "OwlsLent" (295 : Nat) ({ cls := "OwlsLent$State", name := "rowOf", desc := "(LOwlsLent$House;I)[I" } : Jvm.MethodName)) ∈ GT := GT_in (tlw (tin_4 (List.mem_of_getElem? (i := 159) rfl))) rfl
theorem w_4_160 : (Jvm.Cond.methodLink "OwlsLent" (291 : Nat) ({ cls := "OwlsLent$House", name := "loudAt", desc := "(I[I)I" } : Jvm.MethodName)) ∈ GT := GT_in (tlw (tin_4 (List.mem_of_getElem? (i := 160) rfl))) rfl
theorem w_4_165 : (Jvm.Cond.methodLink "OwlsLent" (299 : Nat) ({ cls := "OwlsLent$Spots", name := "find", desc := "(LOwlsLent$Tape;LOwlsLent$House;LOwlsLent$State;)I" } : Jvm.MethodName)) ∈ GT := GT_in (tlw (tin_4 (List.mem_of_getElem? (i := 165) rfl))) rfl
theorem w_4_166 : (Jvm.Cond.instanceMethod ({ cls := "OwlsLent$Spots", name := "find", desc := "(LOwlsLent$Tape;LOwlsLent$House;LOwlsLent$State;)I" } : Jvm.MethodName)) ∈ GT := GT_in (tlw (tin_4 (List.mem_of_getElem? (i := 166) rfl))) rfl
theorem w_4_167 : (Jvm.Cond.selects "OwlsLent$Spots" ({ cls := "OwlsLent$Spots", name := "find", desc := "(LOwlsLent$Tape;LOwlsLent$House;LOwlsLent$State;)I" } : Jvm.MethodName) ({ cls := "OwlsLent$Spots", name := "find", desc := "(LOwlsLent$Tape;LOwlsLent$House;LOwlsLent$State;)I" } : Jvm.MethodName)) ∈ GT := GT_in (tlw (tin_4 (List.mem_of_getElem? (i := 167) rfl))) rfl
theorem w_4_168 : (Jvm.Cond.code ({ cls := "OwlsLent$Spots", name := "find", desc := "(LOwlsLent$Tape;LOwlsLent$House;LOwlsLent$State;)I" } : Jvm.MethodName) prog_8_method_2_code (7 : Nat) (Option.some Jvm.ClassFile.FieldType.int)) ∈ GT := GT_in (tlw (tin_4 (List.mem_of_getElem? (i := 168) rfl))) rfl
theorem w_4_169 : (Jvm.Cond.methodLink "OwlsLent$Spots" (31 : Nat) ({ cls := "OwlsLent$Spots", name := "isAsTold", desc := "(LOwlsLent$Tape;LOwlsLent$House;)Z" } : Jvm.MethodName)) ∈ GT := GT_in (tlw (tin_4 (List.mem_of_getElem? (i := 169) rfl))) rfl
theorem w_4_170 : (Jvm.Cond.static ({ cls := "OwlsLent$Spots", name := "isAsTold", desc := "(LOwlsLent$Tape;LOwlsLent$House;)Z" } : Jvm.MethodName)) ∈ GT := GT_in (tlw (tin_4 (List.mem_of_getElem? (i := 170) rfl))) rfl
theorem w_4_171 : (Jvm.Cond.code ({ cls := "OwlsLent$Spots", name := "isAsTold", desc := "(LOwlsLent$Tape;LOwlsLent$House;)Z" } : Jvm.MethodName) prog_8_method_3_code (5 : Nat) (Option.some Jvm.ClassFile.FieldType.boolean)) ∈ GT := GT_in (tlw (tin_4 (List.mem_of_getElem? (i := 171) rfl))) rfl
theorem w_4_172 : (Jvm.Cond.methodLink "OwlsLent$Spots" (35 : Nat) ({ cls := "OwlsLent$Tape", name := "at", desc := "(I)I" } : Jvm.MethodName)) ∈ GT := GT_in (tlw (tin_4 (List.mem_of_getElem? (i := 172) rfl))) rfl
theorem w_4_173 : (Jvm.Cond.methodLink "OwlsLent$Spots" (66 : Nat) ({ cls := "OwlsLent$House", name := "hasOwl", desc := "(I)Z" } : Jvm.MethodName)) ∈ GT := GT_in (tlw (tin_4 (List.mem_of_getElem? (i := 173) rfl))) rfl
theorem w_4_174 : (Jvm.Cond.methodLink "OwlsLent$Spots" (49 : Nat) ({ cls := "OwlsLent$Spots", name := "fits", desc := "(LOwlsLent$Tape;LOwlsLent$House;LOwlsLent$State;)Z" } : Jvm.MethodName)) ∈ GT := GT_in (tlw (tin_4 (List.mem_of_getElem? (i := 174) rfl))) rfl
theorem w_4_176 : (Jvm.Cond.instanceMethod ({ cls := "OwlsLent$Spots", name := "fits", desc := "(LOwlsLent$Tape;LOwlsLent$House;LOwlsLent$State;)Z" } : Jvm.MethodName)) ∈ GT := GT_in (tlw (tin_4 (List.mem_of_getElem? (i := 176) rfl))) rfl
theorem w_4_177 : (Jvm.Cond.code ({ cls := "OwlsLent$Spots", name := "fits", desc := "(LOwlsLent$Tape;LOwlsLent$House;LOwlsLent$State;)Z" } : Jvm.MethodName) prog_8_method_4_code (7 : Nat) (Option.some Jvm.ClassFile.FieldType.boolean)) ∈ GT := GT_in (tlw (tin_4 (List.mem_of_getElem? (i := 177) rfl))) rfl
theorem w_4_178 : (Jvm.Cond.methodLink "OwlsLent$Spots" (75 : Nat) ({ cls := "OwlsLent$House", name := "heardSide", desc := "(II[I)I" } : Jvm.MethodName)) ∈ GT := GT_in (tlw (tin_4 (List.mem_of_getElem? (i := 178) rfl))) rfl
theorem w_4_179 : (Jvm.Cond.methodLink "OwlsLent$Spots" (53 : Nat) ({ cls := "java/lang/System", name := "arraycopy", desc := "(Ljava/lang/Object;ILjava/lang/Object;II)V" } : Jvm.MethodName)) ∈ GT := GT_in (tlw (tin_4 (List.mem_of_getElem? (i := 179) rfl))) rfl
theorem w_4_180 : (Jvm.Cond.methodLink "OwlsLent$Spots" (59 : Nat) ({ cls := "OwlsLent$Spots", name := "findNext", desc := "(LOwlsLent$House;LOwlsLent$State;)I" } : Jvm.MethodName)) ∈ GT := GT_in (tlw (tin_4 (List.mem_of_getElem? (i := 180) rfl))) rfl
theorem w_4_182 : (Jvm.Cond.instanceMethod ({ cls := "OwlsLent$Spots", name := "findNext", desc := "(LOwlsLent$House;LOwlsLent$State;)I" } : Jvm.MethodName)) ∈ GT := GT_in (tlw (tin_4 (List.mem_of_getElem? (i := 182) rfl))) rfl
theorem w_4_183 : (Jvm.Cond.code ({ cls := "OwlsLent$Spots", name := "findNext", desc := "(LOwlsLent$House;LOwlsLent$State;)I" } : Jvm.MethodName) prog_8_method_5_code (7 : Nat) (Option.some Jvm.ClassFile.FieldType.int)) ∈ GT := GT_in (tlw (tin_4 (List.mem_of_getElem? (i := 183) rfl))) rfl
theorem w_4_184 : (Jvm.Cond.methodLink "OwlsLent$Spots" (82 : Nat) ({ cls := "OwlsLent$Spots", name := "mostLeft", desc := "(LOwlsLent$House;LOwlsLent$State;I)I" } : Jvm.MethodName)) ∈ GT := GT_in (tlw (tin_4 (List.mem_of_getElem? (i := 184) rfl))) rfl
theorem w_4_186 : (Jvm.Cond.instanceMethod ({ cls := "OwlsLent$Spots", name := "mostLeft", desc := "(LOwlsLent$House;LOwlsLent$State;I)I" } : Jvm.MethodName)) ∈ GT := GT_in (tlw (tin_4 (List.mem_of_getElem? (i := 186) rfl))) rfl
theorem w_4_187 : (Jvm.Cond.code ({ cls := "OwlsLent$Spots", name := "mostLeft", desc := "(LOwlsLent$House;LOwlsLent$State;I)I" } : Jvm.MethodName) prog_8_method_6_code (7 : Nat) (Option.some Jvm.ClassFile.FieldType.int)) ∈ GT := GT_in (tlw (tin_4 (List.mem_of_getElem? (i := 187) rfl))) rfl
theorem w_4_188 : (Jvm.Cond.methodLink "OwlsLent$Spots" (86 : Nat) ({ cls := "java/lang/Math", name := "max", desc := "(II)I" } : Jvm.MethodName)) ∈ GT := GT_in (tlw (tin_4 (List.mem_of_getElem? (i := 188) rfl))) rfl
theorem w_4_201 : (Jvm.Cond.methodLink "OwlsLent" (312 : Nat) ({ cls := "OwlsLent$Tape", name := "at", desc := "(I)I" } : Jvm.MethodName)) ∈ GT := GT_in (tlw (tin_4 (List.mem_of_getElem? (i := 201) rfl))) rfl
theorem w_4_202 : (Jvm.Cond.methodLink "OwlsLent" (315 : Nat) ({ cls := "java/lang/Math", name := "max", desc := "(II)I" } : Jvm.MethodName)) ∈ GT := GT_in (tlw (tin_4 (List.mem_of_getElem? (i := 202) rfl))) rfl
theorem w_4_215 : (Jvm.Cond.methodLink "OwlsLent" (318 : Nat) ({ cls := "OwlsLent$Best", name := "find", desc := "(LOwlsLent$House;LOwlsLent$State;)I" } : Jvm.MethodName)) ∈ GT := GT_in (tlw (tin_4 (List.mem_of_getElem? (i := 215) rfl))) rfl
theorem w_4_216 : (Jvm.Cond.instanceMethod ({ cls := "OwlsLent$Best", name := "find", desc := "(LOwlsLent$House;LOwlsLent$State;)I" } : Jvm.MethodName)) ∈ GT := GT_in (tlw (tin_4 (List.mem_of_getElem? (i := 216) rfl))) rfl
theorem w_4_217 : (Jvm.Cond.selects "OwlsLent$Best" ({ cls := "OwlsLent$Best", name := "find", desc := "(LOwlsLent$House;LOwlsLent$State;)I" } : Jvm.MethodName) ({ cls := "OwlsLent$Best", name := "find", desc := "(LOwlsLent$House;LOwlsLent$State;)I" } : Jvm.MethodName)) ∈ GT := GT_in (tlw (tin_4 (List.mem_of_getElem? (i := 217) rfl))) rfl
theorem w_4_218 : (Jvm.Cond.code ({ cls := "OwlsLent$Best", name := "find", desc := "(LOwlsLent$House;LOwlsLent$State;)I" } : Jvm.MethodName) prog_2_method_2_code (5 : Nat) (Option.some Jvm.ClassFile.FieldType.int)) ∈ GT := GT_in (tlw (tin_4 (List.mem_of_getElem? (i := 218) rfl))) rfl
theorem w_4_219 : (Jvm.Cond.methodLink "OwlsLent$Best" (41 : Nat) ({ cls := "OwlsLent$House", name := "shutAt", desc := "(I)Z" } : Jvm.MethodName)) ∈ GT := GT_in (tlw (tin_4 (List.mem_of_getElem? (i := 219) rfl))) rfl
theorem w_4_220 : (Jvm.Cond.methodLink "OwlsLent$Best" (45 : Nat) ({ cls := "OwlsLent$Best", name := "countHour", desc := "(LOwlsLent$House;LOwlsLent$State;I)V" } : Jvm.MethodName)) ∈ GT := GT_in (tlw (tin_4 (List.mem_of_getElem? (i := 220) rfl))) rfl
theorem w_4_222 : (Jvm.Cond.instanceMethod ({ cls := "OwlsLent$Best", name := "countHour", desc := "(LOwlsLent$House;LOwlsLent$State;I)V" } : Jvm.MethodName)) ∈ GT := GT_in (tlw (tin_4 (List.mem_of_getElem? (i := 222) rfl))) rfl
theorem w_4_223 : (Jvm.Cond.code ({ cls := "OwlsLent$Best", name := "countHour", desc := "(LOwlsLent$House;LOwlsLent$State;I)V" } : Jvm.MethodName) prog_2_method_3_code (8 : Nat) (Option.none : Option Jvm.ClassFile.FieldType)) ∈ GT := GT_in (tlw (tin_4 (List.mem_of_getElem? (i := 223) rfl))) rfl
theorem w_4_224 : (Jvm.Cond.methodLink "OwlsLent$Best" (53 : Nat) ({ cls := "OwlsLent$State", name := "onBits", desc := "(LOwlsLent$House;I)I" } : Jvm.MethodName)) ∈ GT := GT_in (tlw (tin_4 (List.mem_of_getElem? (i := 224) rfl))) rfl
theorem w_4_225 : (Jvm.Cond.methodLink "OwlsLent$Best" (60 : Nat) ({ cls := "OwlsLent$State", name := "heardBits", desc := "(LOwlsLent$House;III)I" } : Jvm.MethodName)) ∈ GT := GT_in (tlw (tin_4 (List.mem_of_getElem? (i := 225) rfl))) rfl
theorem w_4_226 : (Jvm.Cond.methodLink "OwlsLent$Best" (64 : Nat) ({ cls := "OwlsLent$State", name := "loudest", desc := "(LOwlsLent$House;II)I" } : Jvm.MethodName)) ∈ GT := GT_in (tlw (tin_4 (List.mem_of_getElem? (i := 226) rfl))) rfl
theorem w_4_227 : (Jvm.Cond.methodLink "OwlsLent$Best" (49 : Nat) ({ cls := "OwlsLent$Best", name := "choose", desc := "(LOwlsLent$Best;LOwlsLent$House;III)V" } : Jvm.MethodName)) ∈ GT := GT_in (tlw (tin_4 (List.mem_of_getElem? (i := 227) rfl))) rfl
theorem w_4_228 : (Jvm.Cond.static ({ cls := "OwlsLent$Best", name := "choose", desc := "(LOwlsLent$Best;LOwlsLent$House;III)V" } : Jvm.MethodName)) ∈ GT := GT_in (tlw (tin_4 (List.mem_of_getElem? (i := 228) rfl))) rfl
theorem w_4_229 : (Jvm.Cond.code ({ cls := "OwlsLent$Best", name := "choose", desc := "(LOwlsLent$Best;LOwlsLent$House;III)V" } : Jvm.MethodName) prog_2_method_4_code (6 : Nat) (Option.none : Option Jvm.ClassFile.FieldType)) ∈ GT := GT_in (tlw (tin_4 (List.mem_of_getElem? (i := 229) rfl))) rfl
theorem w_4_230 : (Jvm.Cond.methodLink "OwlsLent$Best" (74 : Nat) ({ cls := "java/lang/System", name := "arraycopy", desc := "(Ljava/lang/Object;ILjava/lang/Object;II)V" } : Jvm.MethodName)) ∈ GT := GT_in (tlw (tin_4 (List.mem_of_getElem? (i := 230) rfl))) rfl
theorem w_4_239 : (Jvm.Cond.methodLink "OwlsLent" (325 : Nat) ({ cls := "OwlsLent", name := "soundOnSide", desc := "(II)I" } : Jvm.MethodName)) ∈ GT := GT_in (tlw (tin_4 (List.mem_of_getElem? (i := 239) rfl))) rfl
theorem w_5_1 : (Jvm.Cond.instanceMethod ({ cls := "OwlsLent", name := "soundOnSide", desc := "(II)I" } : Jvm.MethodName)) ∈ GT := GT_in (tlw (tin_5 (List.mem_of_getElem? (i := 1) rfl))) rfl
theorem w_5_2 : (Jvm.Cond.code ({ cls := "OwlsLent", name := "soundOnSide", desc := "(II)I" } : Jvm.MethodName) prog_1_method_36_code (6 : Nat) (Option.some Jvm.ClassFile.FieldType.int)) ∈ GT := GT_in (tlw (tin_5 (List.mem_of_getElem? (i := 2) rfl))) rfl
theorem w_5_3 : (Jvm.Cond.methodLink "OwlsLent" (334 : Nat) ({ cls := "OwlsLent$House", name := "heardSide", desc := "(II[I)I" } : Jvm.MethodName)) ∈ GT := GT_in (tlw (tin_5 (List.mem_of_getElem? (i := 3) rfl))) rfl
theorem w_5_4 : (Jvm.Cond.methodLink "OwlsLent" (328 : Nat) ({ cls := "java/lang/System", name := "arraycopy", desc := "(Ljava/lang/Object;ILjava/lang/Object;II)V" } : Jvm.MethodName)) ∈ GT := GT_in (tlw (tin_5 (List.mem_of_getElem? (i := 4) rfl))) rfl
theorem w_5_13 : (Jvm.Cond.methodLink "OwlsLent" (338 : Nat) ({ cls := "OwlsLent", name := "endsOn", desc := "(LOwlsLent$Image;IIIIIZ)Z" } : Jvm.MethodName)) ∈ GT := GT_in (tlw (tin_5 (List.mem_of_getElem? (i := 13) rfl))) rfl
theorem w_5_14 : (Jvm.Cond.static ({ cls := "OwlsLent", name := "endsOn", desc := "(LOwlsLent$Image;IIIIIZ)Z" } : Jvm.MethodName)) ∈ GT := GT_in (tlw (tin_5 (List.mem_of_getElem? (i := 14) rfl))) rfl
theorem w_5_15 : (Jvm.Cond.code ({ cls := "OwlsLent", name := "endsOn", desc := "(LOwlsLent$Image;IIIIIZ)Z" } : Jvm.MethodName) prog_1_method_38_code (10 : Nat) (Option.some Jvm.ClassFile.FieldType.boolean)) ∈ GT := GT_in (tlw (tin_5 (List.mem_of_getElem? (i := 15) rfl))) rfl
theorem w_5_16 : (Jvm.Cond.methodLink "OwlsLent" (342 : Nat) ({ cls := "OwlsLent$State", name := "loudest", desc := "(LOwlsLent$House;II)I" } : Jvm.MethodName)) ∈ GT := GT_in (tlw (tin_5 (List.mem_of_getElem? (i := 16) rfl))) rfl
theorem w_5_53 : (Jvm.Cond.methodLink "OwlsLent" (374 : Nat) ({ cls := "OwlsLent$Book", name := "readAll", desc := "(LOwlsLent$Tokens;LOwlsLent$House;)Z" } : Jvm.MethodName)) ∈ GT := GT_in (tlw (tin_5 (List.mem_of_getElem? (i := 53) rfl))) rfl
theorem w_5_54 : (Jvm.Cond.instanceMethod ({ cls := "OwlsLent$Book", name := "readAll", desc := "(LOwlsLent$Tokens;LOwlsLent$House;)Z" } : Jvm.MethodName)) ∈ GT := GT_in (tlw (tin_5 (List.mem_of_getElem? (i := 54) rfl))) rfl
theorem w_5_55 : (Jvm.Cond.selects "OwlsLent$Book" ({ cls := "OwlsLent$Book", name := "readAll", desc := "(LOwlsLent$Tokens;LOwlsLent$House;)Z" } : Jvm.MethodName) ({ cls := "OwlsLent$Book", name := "readAll", desc := "(LOwlsLent$Tokens;LOwlsLent$House;)Z" } : Jvm.MethodName)) ∈ GT := GT_in (tlw (tin_5 (List.mem_of_getElem? (i := 55) rfl))) rfl
theorem w_5_56 : (Jvm.Cond.code ({ cls := "OwlsLent$Book", name := "readAll", desc := "(LOwlsLent$Tokens;LOwlsLent$House;)Z" } : Jvm.MethodName) prog_3_method_2_code (4 : Nat) (Option.some Jvm.ClassFile.FieldType.boolean)) ∈ GT := GT_in (tlw (tin_5 (List.mem_of_getElem? (i := 56) rfl))) rfl
theorem w_5_57 : (Jvm.Cond.methodLink "OwlsLent$Book" (44 : Nat) ({ cls := "OwlsLent$Tokens", name := "fail", desc := "(I)Z" } : Jvm.MethodName)) ∈ GT := GT_in (tlw (tin_5 (List.mem_of_getElem? (i := 57) rfl))) rfl
theorem w_5_58 : (Jvm.Cond.methodLink "OwlsLent$Book" (48 : Nat) ({ cls := "OwlsLent$Book", name := "readLine", desc := "(LOwlsLent$Tokens;LOwlsLent$House;[I)Z" } : Jvm.MethodName)) ∈ GT := GT_in (tlw (tin_5 (List.mem_of_getElem? (i := 58) rfl))) rfl
theorem w_5_59 : (Jvm.Cond.static ({ cls := "OwlsLent$Book", name := "readLine", desc := "(LOwlsLent$Tokens;LOwlsLent$House;[I)Z" } : Jvm.MethodName)) ∈ GT := GT_in (tlw (tin_5 (List.mem_of_getElem? (i := 59) rfl))) rfl
theorem w_5_60 : (Jvm.Cond.code ({ cls := "OwlsLent$Book", name := "readLine", desc := "(LOwlsLent$Tokens;LOwlsLent$House;[I)Z" } : Jvm.MethodName) prog_3_method_3_code (3 : Nat) (Option.some Jvm.ClassFile.FieldType.boolean)) ∈ GT := GT_in (tlw (tin_5 (List.mem_of_getElem? (i := 60) rfl))) rfl
theorem w_5_61 : (Jvm.Cond.methodLink "OwlsLent$Book" (56 : Nat) ({ cls := "OwlsLent$Tokens", name := "advance", desc := "()V" } : Jvm.MethodName)) ∈ GT := GT_in (tlw (tin_5 (List.mem_of_getElem? (i := 61) rfl))) rfl
theorem w_5_62 : (Jvm.Cond.methodLink "OwlsLent$Book" (68 : Nat) ({ cls := "OwlsLent$Tokens", name := "takeKnown", desc := "([JI)I" } : Jvm.MethodName)) ∈ GT := GT_in (tlw (tin_5 (List.mem_of_getElem? (i := 62) rfl))) rfl
theorem w_5_63 : (Jvm.Cond.methodLink "OwlsLent$Book" (78 : Nat) ({ cls := "OwlsLent$Tokens", name := "takeNumber", desc := "(II)I" } : Jvm.MethodName)) ∈ GT := GT_in (tlw (tin_5 (List.mem_of_getElem? (i := 63) rfl))) rfl
theorem w_5_64 : (Jvm.Cond.methodLink "OwlsLent$Book" (52 : Nat) ({ cls := "OwlsLent$Tokens", name := "skipSign", desc := "(C)Z" } : Jvm.MethodName)) ∈ GT := GT_in (tlw (tin_5 (List.mem_of_getElem? (i := 64) rfl))) rfl
theorem w_5_65 : (Jvm.Cond.methodLink "OwlsLent" (377 : Nat) ({ cls := "OwlsLent$Book", name := "live", desc := "(LOwlsLent$House;LOwlsLent$State;)V" } : Jvm.MethodName)) ∈ GT := GT_in (tlw (tin_5 (List.mem_of_getElem? (i := 65) rfl))) rfl
theorem w_5_66 : (Jvm.Cond.instanceMethod ({ cls := "OwlsLent$Book", name := "live", desc := "(LOwlsLent$House;LOwlsLent$State;)V" } : Jvm.MethodName)) ∈ GT := GT_in (tlw (tin_5 (List.mem_of_getElem? (i := 66) rfl))) rfl
theorem w_5_67 : (Jvm.Cond.selects "OwlsLent$Book" ({ cls := "OwlsLent$Book", name := "live", desc := "(LOwlsLent$House;LOwlsLent$State;)V" } : Jvm.MethodName) ({ cls := "OwlsLent$Book", name := "live", desc := "(LOwlsLent$House;LOwlsLent$State;)V" } : Jvm.MethodName)) ∈ GT := GT_in (tlw (tin_5 (List.mem_of_getElem? (i := 67) rfl))) rfl
theorem w_5_68 : (Jvm.Cond.code ({ cls := "OwlsLent$Book", name := "live", desc := "(LOwlsLent$House;LOwlsLent$State;)V" } : Jvm.MethodName) prog_3_method_4_code (4 : Nat) (Option.none : Option Jvm.ClassFile.FieldType)) ∈ GT := GT_in (tlw (tin_5 (List.mem_of_getElem? (i := 68) rfl))) rfl
theorem w_5_69 : (Jvm.Cond.methodLink "OwlsLent$Book" (88 : Nat) ({ cls := "OwlsLent$Book", name := "liveLine", desc := "(LOwlsLent$House;LOwlsLent$State;[I)I" } : Jvm.MethodName)) ∈ GT := GT_in (tlw (tin_5 (List.mem_of_getElem? (i := 69) rfl))) rfl
theorem w_5_70 : (Jvm.Cond.static ({ cls := "OwlsLent$Book", name := "liveLine", desc := "(LOwlsLent$House;LOwlsLent$State;[I)I" } : Jvm.MethodName)) ∈ GT := GT_in (tlw (tin_5 (List.mem_of_getElem? (i := 70) rfl))) rfl
theorem w_5_71 : (Jvm.Cond.code ({ cls := "OwlsLent$Book", name := "liveLine", desc := "(LOwlsLent$House;LOwlsLent$State;[I)I" } : Jvm.MethodName) prog_3_method_5_code (4 : Nat) (Option.some Jvm.ClassFile.FieldType.int)) ∈ GT := GT_in (tlw (tin_5 (List.mem_of_getElem? (i := 71) rfl))) rfl
theorem w_5_72 : (Jvm.Cond.methodLink "OwlsLent$Book" (101 : Nat) ({ cls := "OwlsLent$State", name := "lendTo", desc := "(LOwlsLent$House;II)I" } : Jvm.MethodName)) ∈ GT := GT_in (tlw (tin_5 (List.mem_of_getElem? (i := 72) rfl))) rfl
theorem w_5_73 : (Jvm.Cond.methodLink "OwlsLent$Book" (105 : Nat) ({ cls := "OwlsLent$State", name := "hushOne", desc := "(I)I" } : Jvm.MethodName)) ∈ GT := GT_in (tlw (tin_5 (List.mem_of_getElem? (i := 73) rfl))) rfl
theorem w_5_74 : (Jvm.Cond.methodLink "OwlsLent$Book" (109 : Nat) ({ cls := "OwlsLent$State", name := "letOne", desc := "(I)I" } : Jvm.MethodName)) ∈ GT := GT_in (tlw (tin_5 (List.mem_of_getElem? (i := 74) rfl))) rfl
theorem w_5_75 : (Jvm.Cond.methodLink "OwlsLent$Book" (112 : Nat) ({ cls := "OwlsLent$House", name := "hasCell", desc := "(II)Z" } : Jvm.MethodName)) ∈ GT := GT_in (tlw (tin_5 (List.mem_of_getElem? (i := 75) rfl))) rfl
theorem w_5_76 : (Jvm.Cond.methodLink "OwlsLent$Book" (116 : Nat) ({ cls := "OwlsLent$State", name := "shoutIn", desc := "(III)I" } : Jvm.MethodName)) ∈ GT := GT_in (tlw (tin_5 (List.mem_of_getElem? (i := 76) rfl))) rfl
theorem w_5_77 : (Jvm.Cond.methodLink "OwlsLent$Book" (120 : Nat) ({ cls := "OwlsLent$State", name := "passHour", desc := "(LOwlsLent$House;)V" } : Jvm.MethodName)) ∈ GT := GT_in (tlw (tin_5 (List.mem_of_getElem? (i := 77) rfl))) rfl
theorem w_5_78 : (Jvm.Cond.methodLink "OwlsLent$Book" (97 : Nat) ({ cls := "OwlsLent$State", name := "lookingBits", desc := "(LOwlsLent$House;)I" } : Jvm.MethodName)) ∈ GT := GT_in (tlw (tin_5 (List.mem_of_getElem? (i := 78) rfl))) rfl
theorem w_5_87 : (Jvm.Cond.methodLink "OwlsLent" (397 : Nat) ({ cls := "OwlsLent$Sentence", name := "readAll", desc := "(LOwlsLent$Tokens;LOwlsLent$House;)Z" } : Jvm.MethodName)) ∈ GT := GT_in (tlw (tin_5 (List.mem_of_getElem? (i := 87) rfl))) rfl
theorem w_5_88 : (Jvm.Cond.instanceMethod ({ cls := "OwlsLent$Sentence", name := "readAll", desc := "(LOwlsLent$Tokens;LOwlsLent$House;)Z" } : Jvm.MethodName)) ∈ GT := GT_in (tlw (tin_5 (List.mem_of_getElem? (i := 88) rfl))) rfl
theorem w_5_89 : (Jvm.Cond.selects "OwlsLent$Sentence" ({ cls := "OwlsLent$Sentence", name := "readAll", desc := "(LOwlsLent$Tokens;LOwlsLent$House;)Z" } : Jvm.MethodName) ({ cls := "OwlsLent$Sentence", name := "readAll", desc := "(LOwlsLent$Tokens;LOwlsLent$House;)Z" } : Jvm.MethodName)) ∈ GT := GT_in (tlw (tin_5 (List.mem_of_getElem? (i := 89) rfl))) rfl
theorem w_5_90 : (Jvm.Cond.code ({ cls := "OwlsLent$Sentence", name := "readAll", desc := "(LOwlsLent$Tokens;LOwlsLent$House;)Z" } : Jvm.MethodName) prog_7_method_3_code (3 : Nat) (Option.some Jvm.ClassFile.FieldType.boolean)) ∈ GT := GT_in (tlw (tin_5 (List.mem_of_getElem? (i := 90) rfl))) rfl
theorem w_5_91 : (Jvm.Cond.methodLink "OwlsLent$Sentence" (42 : Nat) ({ cls := "OwlsLent$Sentence", name := "readCond", desc := "(LOwlsLent$Tokens;LOwlsLent$House;I)Z" } : Jvm.MethodName)) ∈ GT := GT_in (tlw (tin_5 (List.mem_of_getElem? (i := 91) rfl))) rfl
theorem w_5_93 : (Jvm.Cond.instanceMethod ({ cls := "OwlsLent$Sentence", name := "readCond", desc := "(LOwlsLent$Tokens;LOwlsLent$House;I)Z" } : Jvm.MethodName)) ∈ GT := GT_in (tlw (tin_5 (List.mem_of_getElem? (i := 93) rfl))) rfl
theorem w_5_94 : (Jvm.Cond.code ({ cls := "OwlsLent$Sentence", name := "readCond", desc := "(LOwlsLent$Tokens;LOwlsLent$House;I)Z" } : Jvm.MethodName) prog_7_method_4_code (5 : Nat) (Option.some Jvm.ClassFile.FieldType.boolean)) ∈ GT := GT_in (tlw (tin_5 (List.mem_of_getElem? (i := 94) rfl))) rfl
theorem w_5_95 : (Jvm.Cond.methodLink "OwlsLent$Sentence" (55 : Nat) ({ cls := "OwlsLent$Sentence", name := "readAlls", desc := "(LOwlsLent$Tokens;LOwlsLent$House;I)Z" } : Jvm.MethodName)) ∈ GT := GT_in (tlw (tin_5 (List.mem_of_getElem? (i := 95) rfl))) rfl
theorem w_5_97 : (Jvm.Cond.instanceMethod ({ cls := "OwlsLent$Sentence", name := "readAlls", desc := "(LOwlsLent$Tokens;LOwlsLent$House;I)Z" } : Jvm.MethodName)) ∈ GT := GT_in (tlw (tin_5 (List.mem_of_getElem? (i := 97) rfl))) rfl
theorem w_5_98 : (Jvm.Cond.code ({ cls := "OwlsLent$Sentence", name := "readAlls", desc := "(LOwlsLent$Tokens;LOwlsLent$House;I)Z" } : Jvm.MethodName) prog_7_method_5_code (5 : Nat) (Option.some Jvm.ClassFile.FieldType.boolean)) ∈ GT := GT_in (tlw (tin_5 (List.mem_of_getElem? (i := 98) rfl))) rfl
theorem w_5_99 : (Jvm.Cond.methodLink "OwlsLent$Sentence" (68 : Nat) ({ cls := "OwlsLent$Sentence", name := "readOne", desc := "(LOwlsLent$Tokens;LOwlsLent$House;I)Z" } : Jvm.MethodName)) ∈ GT := GT_in (tlw (tin_5 (List.mem_of_getElem? (i := 99) rfl))) rfl
theorem w_5_101 : (Jvm.Cond.instanceMethod ({ cls := "OwlsLent$Sentence", name := "readOne", desc := "(LOwlsLent$Tokens;LOwlsLent$House;I)Z" } : Jvm.MethodName)) ∈ GT := GT_in (tlw (tin_5 (List.mem_of_getElem? (i := 101) rfl))) rfl
theorem w_5_102 : (Jvm.Cond.code ({ cls := "OwlsLent$Sentence", name := "readOne", desc := "(LOwlsLent$Tokens;LOwlsLent$House;I)Z" } : Jvm.MethodName) prog_7_method_6_code (6 : Nat) (Option.some Jvm.ClassFile.FieldType.boolean)) ∈ GT := GT_in (tlw (tin_5 (List.mem_of_getElem? (i := 102) rfl))) rfl
theorem w_5_103 : (Jvm.Cond.methodLink "OwlsLent$Sentence" (71 : Nat) ({ cls := "OwlsLent$Tokens", name := "isSign", desc := "(C)Z" } : Jvm.MethodName)) ∈ GT := GT_in (tlw (tin_5 (List.mem_of_getElem? (i := 103) rfl))) rfl
theorem w_5_104 : (Jvm.Cond.methodLink "OwlsLent$Sentence" (51 : Nat) ({ cls := "OwlsLent$Tokens", name := "fail", desc := "(I)Z" } : Jvm.MethodName)) ∈ GT := GT_in (tlw (tin_5 (List.mem_of_getElem? (i := 104) rfl))) rfl
theorem w_5_105 : (Jvm.Cond.methodLink "OwlsLent$Sentence" (61 : Nat) ({ cls := "OwlsLent$Tokens", name := "advance", desc := "()V" } : Jvm.MethodName)) ∈ GT := GT_in (tlw (tin_5 (List.mem_of_getElem? (i := 105) rfl))) rfl
theorem w_5_106 : (Jvm.Cond.methodLink "OwlsLent$Sentence" (75 : Nat) ({ cls := "OwlsLent$Tokens", name := "skipSign", desc := "(C)Z" } : Jvm.MethodName)) ∈ GT := GT_in (tlw (tin_5 (List.mem_of_getElem? (i := 106) rfl))) rfl
theorem w_5_107 : (Jvm.Cond.methodLink "OwlsLent$Sentence" (64 : Nat) ({ cls := "OwlsLent$Sentence", name := "addStep", desc := "(III)V" } : Jvm.MethodName)) ∈ GT := GT_in (tlw (tin_5 (List.mem_of_getElem? (i := 107) rfl))) rfl
theorem w_5_109 : (Jvm.Cond.instanceMethod ({ cls := "OwlsLent$Sentence", name := "addStep", desc := "(III)V" } : Jvm.MethodName)) ∈ GT := GT_in (tlw (tin_5 (List.mem_of_getElem? (i := 109) rfl))) rfl
theorem w_5_110 : (Jvm.Cond.code ({ cls := "OwlsLent$Sentence", name := "addStep", desc := "(III)V" } : Jvm.MethodName) prog_7_method_8_code (4 : Nat) (Option.none : Option Jvm.ClassFile.FieldType)) ∈ GT := GT_in (tlw (tin_5 (List.mem_of_getElem? (i := 110) rfl))) rfl
theorem w_5_111 : (Jvm.Cond.methodLink "OwlsLent$Sentence" (78 : Nat) ({ cls := "OwlsLent$Sentence", name := "readPlain", desc := "(LOwlsLent$Tokens;LOwlsLent$House;I)Z" } : Jvm.MethodName)) ∈ GT := GT_in (tlw (tin_5 (List.mem_of_getElem? (i := 111) rfl))) rfl
theorem w_5_113 : (Jvm.Cond.instanceMethod ({ cls := "OwlsLent$Sentence", name := "readPlain", desc := "(LOwlsLent$Tokens;LOwlsLent$House;I)Z" } : Jvm.MethodName)) ∈ GT := GT_in (tlw (tin_5 (List.mem_of_getElem? (i := 113) rfl))) rfl
theorem w_5_114 : (Jvm.Cond.code ({ cls := "OwlsLent$Sentence", name := "readPlain", desc := "(LOwlsLent$Tokens;LOwlsLent$House;I)Z" } : Jvm.MethodName) prog_7_method_7_code (6 : Nat) (Option.some Jvm.ClassFile.FieldType.boolean)) ∈ GT := GT_in (tlw (tin_5 (List.mem_of_getElem? (i := 114) rfl))) rfl
theorem w_5_115 : (Jvm.Cond.methodLink "OwlsLent$Sentence" (81 : Nat) ({ cls := "OwlsLent$Tokens", name := "takeWord", desc := "(II)I" } : Jvm.MethodName)) ∈ GT := GT_in (tlw (tin_5 (List.mem_of_getElem? (i := 115) rfl))) rfl
theorem w_5_116 : (Jvm.Cond.methodLink "OwlsLent$Sentence" (94 : Nat) ({ cls := "OwlsLent$Tokens", name := "takeKnown", desc := "([JI)I" } : Jvm.MethodName)) ∈ GT := GT_in (tlw (tin_5 (List.mem_of_getElem? (i := 116) rfl))) rfl
theorem w_5_117 : (Jvm.Cond.methodLink "OwlsLent$Sentence" (101 : Nat) ({ cls := "OwlsLent$Tokens", name := "takeNumber", desc := "(II)I" } : Jvm.MethodName)) ∈ GT := GT_in (tlw (tin_5 (List.mem_of_getElem? (i := 117) rfl))) rfl
theorem w_5_118 : (Jvm.Cond.methodLink "OwlsLent" (401 : Nat) ({ cls := "OwlsLent$Sentence", name := "copyFrom", desc := "(LOwlsLent$Sentence;)V" } : Jvm.MethodName)) ∈ GT := GT_in (tlw (tin_5 (List.mem_of_getElem? (i := 118) rfl))) rfl
theorem w_5_119 : (Jvm.Cond.instanceMethod ({ cls := "OwlsLent$Sentence", name := "copyFrom", desc := "(LOwlsLent$Sentence;)V" } : Jvm.MethodName)) ∈ GT := GT_in (tlw (tin_5 (List.mem_of_getElem? (i := 119) rfl))) rfl
theorem w_5_120 : (Jvm.Cond.selects "OwlsLent$Sentence" ({ cls := "OwlsLent$Sentence", name := "copyFrom", desc := "(LOwlsLent$Sentence;)V" } : Jvm.MethodName) ({ cls := "OwlsLent$Sentence", name := "copyFrom", desc := "(LOwlsLent$Sentence;)V" } : Jvm.MethodName)) ∈ GT := GT_in (tlw (tin_5 (List.mem_of_getElem? (i := 120) rfl))) rfl
theorem w_5_121 : (Jvm.Cond.code ({ cls := "OwlsLent$Sentence", name := "copyFrom", desc := "(LOwlsLent$Sentence;)V" } : Jvm.MethodName) prog_7_method_2_code (2 : Nat) (Option.none : Option Jvm.ClassFile.FieldType)) ∈ GT := GT_in (tlw (tin_5 (List.mem_of_getElem? (i := 121) rfl))) rfl
theorem w_5_122 : (Jvm.Cond.methodLink "OwlsLent$Sentence" (36 : Nat) ({ cls := "java/lang/System", name := "arraycopy", desc := "(Ljava/lang/Object;ILjava/lang/Object;II)V" } : Jvm.MethodName)) ∈ GT := GT_in (tlw (tin_5 (List.mem_of_getElem? (i := 122) rfl))) rfl
theorem w_5_127 : (Jvm.Cond.methodLink "OwlsLent" (410 : Nat) ({ cls := "OwlsLent$Sentence", name := "holds", desc := "(LOwlsLent$House;LOwlsLent$State;I)Z" } : Jvm.MethodName)) ∈ GT := GT_in (tlw (tin_5 (List.mem_of_getElem? (i := 127) rfl))) rfl
theorem w_5_128 : (Jvm.Cond.instanceMethod ({ cls := "OwlsLent$Sentence", name := "holds", desc := "(LOwlsLent$House;LOwlsLent$State;I)Z" } : Jvm.MethodName)) ∈ GT := GT_in (tlw (tin_5 (List.mem_of_getElem? (i := 128) rfl))) rfl
theorem w_5_129 : (Jvm.Cond.selects "OwlsLent$Sentence" ({ cls := "OwlsLent$Sentence", name := "holds", desc := "(LOwlsLent$House;LOwlsLent$State;I)Z" } : Jvm.MethodName) ({ cls := "OwlsLent$Sentence", name := "holds", desc := "(LOwlsLent$House;LOwlsLent$State;I)Z" } : Jvm.MethodName)) ∈ GT := GT_in (tlw (tin_5 (List.mem_of_getElem? (i := 129) rfl))) rfl
theorem w_5_130 : (Jvm.Cond.code ({ cls := "OwlsLent$Sentence", name := "holds", desc := "(LOwlsLent$House;LOwlsLent$State;I)Z" } : Jvm.MethodName) prog_7_method_9_code (9 : Nat) (Option.some Jvm.ClassFile.FieldType.boolean)) ∈ GT := GT_in (tlw (tin_5 (List.mem_of_getElem? (i := 130) rfl))) rfl
theorem w_5_131 : (Jvm.Cond.methodLink "OwlsLent$Sentence" (104 : Nat) ({ cls := "OwlsLent$State", name := "owlAt", desc := "(LOwlsLent$House;I)I" } : Jvm.MethodName)) ∈ GT := GT_in (tlw (tin_5 (List.mem_of_getElem? (i := 131) rfl))) rfl
theorem w_5_132 : (Jvm.Cond.methodLink "OwlsLent$Sentence" (110 : Nat) ({ cls := "OwlsLent$State", name := "lookOf", desc := "(LOwlsLent$House;III)I" } : Jvm.MethodName)) ∈ GT := GT_in (tlw (tin_5 (List.mem_of_getElem? (i := 132) rfl))) rfl
theorem w_5_133 : (Jvm.Cond.methodLink "OwlsLent$Sentence" (114 : Nat) ({ cls := "OwlsLent$Sentence", name := "compares", desc := "(LOwlsLent$State;II)Z" } : Jvm.MethodName)) ∈ GT := GT_in (tlw (tin_5 (List.mem_of_getElem? (i := 133) rfl))) rfl
theorem w_5_135 : (Jvm.Cond.instanceMethod ({ cls := "OwlsLent$Sentence", name := "compares", desc := "(LOwlsLent$State;II)Z" } : Jvm.MethodName)) ∈ GT := GT_in (tlw (tin_5 (List.mem_of_getElem? (i := 135) rfl))) rfl
theorem w_5_136 : (Jvm.Cond.code ({ cls := "OwlsLent$Sentence", name := "compares", desc := "(LOwlsLent$State;II)Z" } : Jvm.MethodName) prog_7_method_11_code (6 : Nat) (Option.some Jvm.ClassFile.FieldType.boolean)) ∈ GT := GT_in (tlw (tin_5 (List.mem_of_getElem? (i := 136) rfl))) rfl
theorem w_5_137 : (Jvm.Cond.methodLink "OwlsLent$Sentence" (118 : Nat) ({ cls := "OwlsLent$Sentence", name := "isSo", desc := "(LOwlsLent$House;LOwlsLent$State;III)Z" } : Jvm.MethodName)) ∈ GT := GT_in (tlw (tin_5 (List.mem_of_getElem? (i := 137) rfl))) rfl
theorem w_5_139 : (Jvm.Cond.instanceMethod ({ cls := "OwlsLent$Sentence", name := "isSo", desc := "(LOwlsLent$House;LOwlsLent$State;III)Z" } : Jvm.MethodName)) ∈ GT := GT_in (tlw (tin_5 (List.mem_of_getElem? (i := 139) rfl))) rfl
theorem w_5_140 : (Jvm.Cond.code ({ cls := "OwlsLent$Sentence", name := "isSo", desc := "(LOwlsLent$House;LOwlsLent$State;III)Z" } : Jvm.MethodName) prog_7_method_10_code (7 : Nat) (Option.some Jvm.ClassFile.FieldType.boolean)) ∈ GT := GT_in (tlw (tin_5 (List.mem_of_getElem? (i := 140) rfl))) rfl
theorem w_5_141 : (Jvm.Cond.methodLink "OwlsLent$Sentence" (122 : Nat) ({ cls := "OwlsLent$State", name := "sideFrom", desc := "(LOwlsLent$House;II)I" } : Jvm.MethodName)) ∈ GT := GT_in (tlw (tin_5 (List.mem_of_getElem? (i := 141) rfl))) rfl
theorem w_5_142 : (Jvm.Cond.methodLink "OwlsLent$Sentence" (126 : Nat) ({ cls := "OwlsLent$State", name := "rowOf", desc := "(LOwlsLent$House;I)[I" } : Jvm.MethodName)) ∈ GT := GT_in (tlw (tin_5 (List.mem_of_getElem? (i := 142) rfl))) rfl
theorem w_5_147 : (Jvm.Cond.methodLink "OwlsLent" (414 : Nat) ({ cls := "OwlsLent$Image", name := "copyFrom", desc := "(LOwlsLent$Image;)V" } : Jvm.MethodName)) ∈ GT := GT_in (tlw (tin_5 (List.mem_of_getElem? (i := 147) rfl))) rfl
theorem w_5_148 : (Jvm.Cond.instanceMethod ({ cls := "OwlsLent$Image", name := "copyFrom", desc := "(LOwlsLent$Image;)V" } : Jvm.MethodName)) ∈ GT := GT_in (tlw (tin_5 (List.mem_of_getElem? (i := 148) rfl))) rfl
theorem w_5_149 : (Jvm.Cond.selects "OwlsLent$Image" ({ cls := "OwlsLent$Image", name := "copyFrom", desc := "(LOwlsLent$Image;)V" } : Jvm.MethodName) ({ cls := "OwlsLent$Image", name := "copyFrom", desc := "(LOwlsLent$Image;)V" } : Jvm.MethodName)) ∈ GT := GT_in (tlw (tin_5 (List.mem_of_getElem? (i := 149) rfl))) rfl
theorem w_5_150 : (Jvm.Cond.code ({ cls := "OwlsLent$Image", name := "copyFrom", desc := "(LOwlsLent$Image;)V" } : Jvm.MethodName) prog_6_method_3_code (2 : Nat) (Option.none : Option Jvm.ClassFile.FieldType)) ∈ GT := GT_in (tlw (tin_5 (List.mem_of_getElem? (i := 150) rfl))) rfl
theorem w_5_151 : (Jvm.Cond.methodLink "OwlsLent$Image" (42 : Nat) ({ cls := "OwlsLent$State", name := "copyFrom", desc := "(LOwlsLent$State;)V" } : Jvm.MethodName)) ∈ GT := GT_in (tlw (tin_5 (List.mem_of_getElem? (i := 151) rfl))) rfl
theorem w_5_152 : (Jvm.Cond.methodLink "OwlsLent$Image" (45 : Nat) ({ cls := "OwlsLent$Sentence", name := "copyFrom", desc := "(LOwlsLent$Sentence;)V" } : Jvm.MethodName)) ∈ GT := GT_in (tlw (tin_5 (List.mem_of_getElem? (i := 152) rfl))) rfl
theorem w_6_14 : (Jvm.Cond.methodLink "OwlsLentModel" (10 : Nat) ({ cls := "OwlsLentModel", name := "four", desc := "(I)V" } : Jvm.MethodName)) ∈ GT := GT_in (tlw (tin_6 (List.mem_of_getElem? (i := 14) rfl))) rfl
theorem w_6_16 : (Jvm.Cond.instanceMethod ({ cls := "OwlsLentModel", name := "four", desc := "(I)V" } : Jvm.MethodName)) ∈ GT := GT_in (tlw (tin_6 (List.mem_of_getElem? (i := 16) rfl))) rfl
theorem w_6_18 : (Jvm.Cond.code ({ cls := "OwlsLentModel", name := "four", desc := "(I)V" } : Jvm.MethodName) prog_14_method_4_code (3 : Nat) (Option.none : Option Jvm.ClassFile.FieldType)) ∈ GT := GT_in (tlw (tin_6 (List.mem_of_getElem? (i := 18) rfl))) rfl
theorem w_6_28 : (Jvm.Cond.constantLong "OwlsLentModel" (114 : Nat) (448546567013 : Int64)) ∈ GT := GT_in (tlw (tin_6 (List.mem_of_getElem? (i := 28) rfl))) rfl
theorem w_6_29 : (Jvm.Cond.constantLong "OwlsLentModel" (116 : Nat) (6448484 : Int64)) ∈ GT := GT_in (tlw (tin_6 (List.mem_of_getElem? (i := 29) rfl))) rfl
theorem w_6_30 : (Jvm.Cond.constantLong "OwlsLentModel" (118 : Nat) (7305068 : Int64)) ∈ GT := GT_in (tlw (tin_6 (List.mem_of_getElem? (i := 30) rfl))) rfl
theorem w_6_31 : (Jvm.Cond.constantLong "OwlsLentModel" (120 : Nat) (6447460 : Int64)) ∈ GT := GT_in (tlw (tin_6 (List.mem_of_getElem? (i := 31) rfl))) rfl
theorem w_6_32 : (Jvm.Cond.constantLong "OwlsLentModel" (122 : Nat) (1684365670 : Int64)) ∈ GT := GT_in (tlw (tin_6 (List.mem_of_getElem? (i := 32) rfl))) rfl
theorem w_6_33 : (Jvm.Cond.constantLong "OwlsLentModel" (124 : Nat) (495791205988 : Int64)) ∈ GT := GT_in (tlw (tin_6 (List.mem_of_getElem? (i := 33) rfl))) rfl
theorem w_6_34 : (Jvm.Cond.constantLong "OwlsLentModel" (126 : Nat) (512735736947 : Int64)) ∈ GT := GT_in (tlw (tin_6 (List.mem_of_getElem? (i := 34) rfl))) rfl
theorem w_6_35 : (Jvm.Cond.constantLong "OwlsLentModel" (128 : Nat) (1936225652 : Int64)) ∈ GT := GT_in (tlw (tin_6 (List.mem_of_getElem? (i := 35) rfl))) rfl
theorem w_6_44 : (Jvm.Cond.constantLong "OwlsLentModel" (146 : Nat) (1818586724 : Int64)) ∈ GT := GT_in (tlw (tin_6 (List.mem_of_getElem? (i := 44) rfl))) rfl
theorem w_6_45 : (Jvm.Cond.constantLong "OwlsLentModel" (148 : Nat) (1752527720 : Int64)) ∈ GT := GT_in (tlw (tin_6 (List.mem_of_getElem? (i := 45) rfl))) rfl
theorem w_6_46 : (Jvm.Cond.constantLong "OwlsLentModel" (150 : Nat) (7103860 : Int64)) ∈ GT := GT_in (tlw (tin_6 (List.mem_of_getElem? (i := 46) rfl))) rfl
theorem w_6_47 : (Jvm.Cond.constantLong "OwlsLentModel" (152 : Nat) (495673374068 : Int64)) ∈ GT := GT_in (tlw (tin_6 (List.mem_of_getElem? (i := 47) rfl))) rfl
theorem w_6_48 : (Jvm.Cond.constantLong "OwlsLentModel" (154 : Nat) (1752135026 : Int64)) ∈ GT := GT_in (tlw (tin_6 (List.mem_of_getElem? (i := 48) rfl))) rfl
theorem w_6_49 : (Jvm.Cond.constantLong "OwlsLentModel" (156 : Nat) (28530 : Int64)) ∈ GT := GT_in (tlw (tin_6 (List.mem_of_getElem? (i := 49) rfl))) rfl
theorem w_6_50 : (Jvm.Cond.constantLong "OwlsLentModel" (158 : Nat) (6385252 : Int64)) ∈ GT := GT_in (tlw (tin_6 (List.mem_of_getElem? (i := 50) rfl))) rfl
theorem w_6_51 : (Jvm.Cond.constantLong "OwlsLentModel" (160 : Nat) (7237492 : Int64)) ∈ GT := GT_in (tlw (tin_6 (List.mem_of_getElem? (i := 51) rfl))) rfl
theorem w_6_52 : (Jvm.Cond.constantLong "OwlsLentModel" (162 : Nat) (422725643876 : Int64)) ∈ GT := GT_in (tlw (tin_6 (List.mem_of_getElem? (i := 52) rfl))) rfl
theorem w_6_53 : (Jvm.Cond.constantLong "OwlsLentModel" (164 : Nat) (1953459300 : Int64)) ∈ GT := GT_in (tlw (tin_6 (List.mem_of_getElem? (i := 53) rfl))) rfl
theorem w_6_54 : (Jvm.Cond.constantLong "OwlsLentModel" (166 : Nat) (465726040947 : Int64)) ∈ GT := GT_in (tlw (tin_6 (List.mem_of_getElem? (i := 54) rfl))) rfl
theorem w_6_55 : (Jvm.Cond.constantLong "OwlsLentModel" (168 : Nat) (25209 : Int64)) ∈ GT := GT_in (tlw (tin_6 (List.mem_of_getElem? (i := 55) rfl))) rfl
theorem w_6_56 : (Jvm.Cond.constantLong "OwlsLentModel" (170 : Nat) (448377483891 : Int64)) ∈ GT := GT_in (tlw (tin_6 (List.mem_of_getElem? (i := 56) rfl))) rfl
theorem w_6_57 : (Jvm.Cond.constantLong "OwlsLentModel" (172 : Nat) (461414299507 : Int64)) ∈ GT := GT_in (tlw (tin_6 (List.mem_of_getElem? (i := 57) rfl))) rfl
theorem w_6_58 : (Jvm.Cond.constantLong "OwlsLentModel" (174 : Nat) (120299675936100 : Int64)) ∈ GT := GT_in (tlw (tin_6 (List.mem_of_getElem? (i := 58) rfl))) rfl
theorem w_6_59 : (Jvm.Cond.constantLong "OwlsLentModel" (176 : Nat) (121450625394034 : Int64)) ∈ GT := GT_in (tlw (tin_6 (List.mem_of_getElem? (i := 59) rfl))) rfl
theorem w_6_60 : (Jvm.Cond.methodLink "OwlsLentModel" (178 : Nat) ({ cls := "OwlsLentModel", name := "clears", desc := "()V" } : Jvm.MethodName)) ∈ GT := GT_in (tlw (tin_6 (List.mem_of_getElem? (i := 60) rfl))) rfl
theorem w_6_62 : (Jvm.Cond.instanceMethod ({ cls := "OwlsLentModel", name := "clears", desc := "()V" } : Jvm.MethodName)) ∈ GT := GT_in (tlw (tin_6 (List.mem_of_getElem? (i := 62) rfl))) rfl
theorem w_6_63 : (Jvm.Cond.code ({ cls := "OwlsLentModel", name := "clears", desc := "()V" } : Jvm.MethodName) prog_14_method_13_code (2 : Nat) (Option.none : Option Jvm.ClassFile.FieldType)) ∈ GT := GT_in (tlw (tin_6 (List.mem_of_getElem? (i := 63) rfl))) rfl
theorem w_6_64 : (Jvm.Cond.fieldLink "OwlsLentModel" (1 : Nat) "OwlsLentModel" "thrown" "I") ∈ GT := GT_in (tlw (tin_6 (List.mem_of_getElem? (i := 64) rfl))) rfl
theorem w_6_65 : (Jvm.Cond.fieldLink "OwlsLentModel" (14 : Nat) "OwlsLentModel" "tape" "[B") ∈ GT := GT_in (tlw (tin_6 (List.mem_of_getElem? (i := 65) rfl))) rfl
theorem w_6_66 : (Jvm.Cond.fieldLink "OwlsLentModel" (7 : Nat) "OwlsLentModel" "length" "I") ∈ GT := GT_in (tlw (tin_6 (List.mem_of_getElem? (i := 66) rfl))) rfl
theorem w_6_67 : (Jvm.Cond.fieldLink "OwlsLentModel" (18 : Nat) "OwlsLentModel" "size" "I") ∈ GT := GT_in (tlw (tin_6 (List.mem_of_getElem? (i := 67) rfl))) rfl
theorem w_6_68 : (Jvm.Cond.fieldLink "OwlsLentModel" (21 : Nat) "OwlsLentModel" "p" "I") ∈ GT := GT_in (tlw (tin_6 (List.mem_of_getElem? (i := 68) rfl))) rfl
theorem w_6_69 : (Jvm.Cond.fieldLink "OwlsLentModel" (24 : Nat) "OwlsLentModel" "limit" "I") ∈ GT := GT_in (tlw (tin_6 (List.mem_of_getElem? (i := 69) rfl))) rfl
theorem w_6_70 : (Jvm.Cond.fieldLink "OwlsLentModel" (33 : Nat) "OwlsLentModel" "s" "[I") ∈ GT := GT_in (tlw (tin_6 (List.mem_of_getElem? (i := 70) rfl))) rfl
theorem w_6_71 : (Jvm.Cond.fieldLink "OwlsLentModel" (37 : Nat) "OwlsLentModel" "h" "[I") ∈ GT := GT_in (tlw (tin_6 (List.mem_of_getElem? (i := 71) rfl))) rfl
theorem w_6_72 : (Jvm.Cond.fieldLink "OwlsLentModel" (40 : Nat) "OwlsLentModel" "read" "[I") ∈ GT := GT_in (tlw (tin_6 (List.mem_of_getElem? (i := 72) rfl))) rfl
theorem w_6_73 : (Jvm.Cond.fieldLink "OwlsLentModel" (43 : Nat) "OwlsLentModel" "names" "[J") ∈ GT := GT_in (tlw (tin_6 (List.mem_of_getElem? (i := 73) rfl))) rfl
theorem w_6_74 : (Jvm.Cond.fieldLink "OwlsLentModel" (47 : Nat) "OwlsLentModel" "reserved" "[J") ∈ GT := GT_in (tlw (tin_6 (List.mem_of_getElem? (i := 74) rfl))) rfl
theorem w_6_75 : (Jvm.Cond.fieldLink "OwlsLentModel" (191 : Nat) "OwlsLentModel" "token" "I") ∈ GT := GT_in (tlw (tin_6 (List.mem_of_getElem? (i := 75) rfl))) rfl
theorem w_6_76 : (Jvm.Cond.fieldLink "OwlsLentModel" (185 : Nat) "OwlsLentModel" "at" "I") ∈ GT := GT_in (tlw (tin_6 (List.mem_of_getElem? (i := 76) rfl))) rfl
theorem w_6_77 : (Jvm.Cond.fieldLink "OwlsLentModel" (188 : Nat) "OwlsLentModel" "span" "I") ∈ GT := GT_in (tlw (tin_6 (List.mem_of_getElem? (i := 77) rfl))) rfl
theorem w_6_78 : (Jvm.Cond.fieldLink "OwlsLentModel" (201 : Nat) "OwlsLentModel" "number" "I") ∈ GT := GT_in (tlw (tin_6 (List.mem_of_getElem? (i := 78) rfl))) rfl
theorem w_6_79 : (Jvm.Cond.fieldLink "OwlsLentModel" (208 : Nat) "OwlsLentModel" "fault" "I") ∈ GT := GT_in (tlw (tin_6 (List.mem_of_getElem? (i := 79) rfl))) rfl
theorem w_6_80 : (Jvm.Cond.fieldLink "OwlsLentModel" (211 : Nat) "OwlsLentModel" "faultAt" "I") ∈ GT := GT_in (tlw (tin_6 (List.mem_of_getElem? (i := 80) rfl))) rfl
theorem w_6_81 : (Jvm.Cond.fieldLink "OwlsLentModel" (204 : Nat) "OwlsLentModel" "word" "J") ∈ GT := GT_in (tlw (tin_6 (List.mem_of_getElem? (i := 81) rfl))) rfl
theorem w_6_82 : (Jvm.Cond.fieldLink "OwlsLentModel" (227 : Nat) "OwlsLentModel" "got" "I") ∈ GT := GT_in (tlw (tin_6 (List.mem_of_getElem? (i := 82) rfl))) rfl
theorem w_6_83 : (Jvm.Cond.fieldLink "OwlsLentModel" (298 : Nat) "OwlsLentModel" "lines" "I") ∈ GT := GT_in (tlw (tin_6 (List.mem_of_getElem? (i := 83) rfl))) rfl
theorem w_6_84 : (Jvm.Cond.fieldLink "OwlsLentModel" (252 : Nat) "OwlsLentModel" "hasHouse" "Z") ∈ GT := GT_in (tlw (tin_6 (List.mem_of_getElem? (i := 84) rfl))) rfl
theorem w_6_85 : (Jvm.Cond.fieldLink "OwlsLentModel" (277 : Nat) "OwlsLentModel" "hasShut" "Z") ∈ GT := GT_in (tlw (tin_6 (List.mem_of_getElem? (i := 85) rfl))) rfl
theorem w_6_86 : (Jvm.Cond.fieldLink "OwlsLentModel" (50 : Nat) "OwlsLentModel" "undone" "[I") ∈ GT := GT_in (tlw (tin_6 (List.mem_of_getElem? (i := 86) rfl))) rfl
theorem w_6_87 : (Jvm.Cond.fieldLink "OwlsLentModel" (53 : Nat) "OwlsLentModel" "before" "[I") ∈ GT := GT_in (tlw (tin_6 (List.mem_of_getElem? (i := 87) rfl))) rfl
theorem w_6_88 : (Jvm.Cond.fieldLink "OwlsLentModel" (307 : Nat) "OwlsLentModel" "undoMany" "I") ∈ GT := GT_in (tlw (tin_6 (List.mem_of_getElem? (i := 88) rfl))) rfl
theorem w_6_89 : (Jvm.Cond.fieldLink "OwlsLentModel" (56 : Nat) "OwlsLentModel" "spotRow" "[I") ∈ GT := GT_in (tlw (tin_6 (List.mem_of_getElem? (i := 89) rfl))) rfl
theorem w_6_90 : (Jvm.Cond.fieldLink "OwlsLentModel" (59 : Nat) "OwlsLentModel" "groups" "[I") ∈ GT := GT_in (tlw (tin_6 (List.mem_of_getElem? (i := 90) rfl))) rfl
theorem w_6_91 : (Jvm.Cond.fieldLink "OwlsLentModel" (62 : Nat) "OwlsLentModel" "spotMany" "I") ∈ GT := GT_in (tlw (tin_6 (List.mem_of_getElem? (i := 91) rfl))) rfl
theorem w_6_92 : (Jvm.Cond.fieldLink "OwlsLentModel" (65 : Nat) "OwlsLentModel" "nextOwl" "I") ∈ GT := GT_in (tlw (tin_6 (List.mem_of_getElem? (i := 92) rfl))) rfl
theorem w_6_93 : (Jvm.Cond.fieldLink "OwlsLentModel" (430 : Nat) "OwlsLentModel" "keenFrom" "I") ∈ GT := GT_in (tlw (tin_6 (List.mem_of_getElem? (i := 93) rfl))) rfl
theorem w_6_94 : (Jvm.Cond.fieldLink "OwlsLentModel" (433 : Nat) "OwlsLentModel" "keenTo" "I") ∈ GT := GT_in (tlw (tin_6 (List.mem_of_getElem? (i := 94) rfl))) rfl
theorem w_6_95 : (Jvm.Cond.fieldLink "OwlsLentModel" (427 : Nat) "OwlsLentModel" "hasKeen" "Z") ∈ GT := GT_in (tlw (tin_6 (List.mem_of_getElem? (i := 95) rfl))) rfl
theorem w_6_96 : (Jvm.Cond.fieldLink "OwlsLentModel" (68 : Nat) "OwlsLentModel" "worths" "[I") ∈ GT := GT_in (tlw (tin_6 (List.mem_of_getElem? (i := 96) rfl))) rfl
theorem w_6_97 : (Jvm.Cond.fieldLink "OwlsLentModel" (71 : Nat) "OwlsLentModel" "rest" "[I") ∈ GT := GT_in (tlw (tin_6 (List.mem_of_getElem? (i := 97) rfl))) rfl
theorem w_6_98 : (Jvm.Cond.fieldLink "OwlsLentModel" (74 : Nat) "OwlsLentModel" "bestRow" "[I") ∈ GT := GT_in (tlw (tin_6 (List.mem_of_getElem? (i := 98) rfl))) rfl
theorem w_6_99 : (Jvm.Cond.fieldLink "OwlsLentModel" (77 : Nat) "OwlsLentModel" "bestMany" "I") ∈ GT := GT_in (tlw (tin_6 (List.mem_of_getElem? (i := 99) rfl))) rfl
theorem w_6_100 : (Jvm.Cond.fieldLink "OwlsLentModel" (80 : Nat) "OwlsLentModel" "codeRow" "[I") ∈ GT := GT_in (tlw (tin_6 (List.mem_of_getElem? (i := 100) rfl))) rfl
theorem w_6_101 : (Jvm.Cond.fieldLink "OwlsLentModel" (83 : Nat) "OwlsLentModel" "codeMany" "I") ∈ GT := GT_in (tlw (tin_6 (List.mem_of_getElem? (i := 101) rfl))) rfl
theorem w_6_102 : (Jvm.Cond.fieldLink "OwlsLentModel" (86 : Nat) "OwlsLentModel" "wins" "[Z") ∈ GT := GT_in (tlw (tin_6 (List.mem_of_getElem? (i := 102) rfl))) rfl
theorem w_6_103 : (Jvm.Cond.fieldLink "OwlsLentModel" (90 : Nat) "OwlsLentModel" "later" "[Z") ∈ GT := GT_in (tlw (tin_6 (List.mem_of_getElem? (i := 103) rfl))) rfl
theorem w_6_104 : (Jvm.Cond.fieldLink "OwlsLentModel" (457 : Nat) "OwlsLentModel" "duelOne" "I") ∈ GT := GT_in (tlw (tin_6 (List.mem_of_getElem? (i := 104) rfl))) rfl
theorem w_6_105 : (Jvm.Cond.fieldLink "OwlsLentModel" (454 : Nat) "OwlsLentModel" "hasDuel" "Z") ∈ GT := GT_in (tlw (tin_6 (List.mem_of_getElem? (i := 105) rfl))) rfl
theorem w_6_106 : (Jvm.Cond.fieldLink "OwlsLentModel" (93 : Nat) "OwlsLentModel" "text" "[B") ∈ GT := GT_in (tlw (tin_6 (List.mem_of_getElem? (i := 106) rfl))) rfl
theorem w_6_107 : (Jvm.Cond.fieldLink "OwlsLentModel" (460 : Nat) "OwlsLentModel" "textMany" "I") ∈ GT := GT_in (tlw (tin_6 (List.mem_of_getElem? (i := 107) rfl))) rfl
theorem w_6_108 : (Jvm.Cond.fieldLink "OwlsLentModel" (481 : Nat) "OwlsLentModel" "seed" "I") ∈ GT := GT_in (tlw (tin_6 (List.mem_of_getElem? (i := 108) rfl))) rfl
theorem w_6_109 : (Jvm.Cond.fieldLink "OwlsLentModel" (491 : Nat) "OwlsLentModel" "toldMany" "I") ∈ GT := GT_in (tlw (tin_6 (List.mem_of_getElem? (i := 109) rfl))) rfl
theorem w_6_110 : (Jvm.Cond.fieldLink "OwlsLentModel" (96 : Nat) "OwlsLentModel" "toldAt" "[I") ∈ GT := GT_in (tlw (tin_6 (List.mem_of_getElem? (i := 110) rfl))) rfl
theorem w_6_111 : (Jvm.Cond.fieldLink "OwlsLentModel" (500 : Nat) "OwlsLentModel" "hasTold" "Z") ∈ GT := GT_in (tlw (tin_6 (List.mem_of_getElem? (i := 111) rfl))) rfl
theorem w_6_112 : (Jvm.Cond.fieldLink "OwlsLentModel" (99 : Nat) "OwlsLentModel" "stack" "[I") ∈ GT := GT_in (tlw (tin_6 (List.mem_of_getElem? (i := 112) rfl))) rfl
theorem w_6_113 : (Jvm.Cond.fieldLink "OwlsLentModel" (503 : Nat) "OwlsLentModel" "codes" "I") ∈ GT := GT_in (tlw (tin_6 (List.mem_of_getElem? (i := 113) rfl))) rfl
theorem w_6_114 : (Jvm.Cond.fieldLink "OwlsLentModel" (518 : Nat) "OwlsLentModel" "ones" "I") ∈ GT := GT_in (tlw (tin_6 (List.mem_of_getElem? (i := 114) rfl))) rfl
theorem w_6_115 : (Jvm.Cond.fieldLink "OwlsLentModel" (506 : Nat) "OwlsLentModel" "top" "I") ∈ GT := GT_in (tlw (tin_6 (List.mem_of_getElem? (i := 115) rfl))) rfl
theorem w_6_116 : (Jvm.Cond.fieldLink "OwlsLentModel" (512 : Nat) "OwlsLentModel" "deep" "I") ∈ GT := GT_in (tlw (tin_6 (List.mem_of_getElem? (i := 116) rfl))) rfl
theorem w_6_117 : (Jvm.Cond.fieldLink "OwlsLentModel" (521 : Nat) "OwlsLentModel" "isWhole" "Z") ∈ GT := GT_in (tlw (tin_6 (List.mem_of_getElem? (i := 117) rfl))) rfl
theorem w_6_118 : (Jvm.Cond.fieldLink "OwlsLentModel" (102 : Nat) "OwlsLentModel" "truths" "[Z") ∈ GT := GT_in (tlw (tin_6 (List.mem_of_getElem? (i := 118) rfl))) rfl
theorem w_6_119 : (Jvm.Cond.fieldLink "OwlsLentModel" (105 : Nat) "OwlsLentModel" "imaged" "[I") ∈ GT := GT_in (tlw (tin_6 (List.mem_of_getElem? (i := 119) rfl))) rfl
theorem w_6_120 : (Jvm.Cond.fieldLink "OwlsLentModel" (108 : Nat) "OwlsLentModel" "namesKept" "[J") ∈ GT := GT_in (tlw (tin_6 (List.mem_of_getElem? (i := 120) rfl))) rfl
theorem w_6_121 : (Jvm.Cond.fieldLink "OwlsLentModel" (111 : Nat) "OwlsLentModel" "areKept" "[Z") ∈ GT := GT_in (tlw (tin_6 (List.mem_of_getElem? (i := 121) rfl))) rfl
theorem w_6_122 : (Jvm.Cond.lays "OwlsLentModel" "OwlsLentModel" "thrown" "I") ∈ GT := GT_in (tlw (tin_6 (List.mem_of_getElem? (i := 122) rfl))) rfl
theorem w_6_124 : (Jvm.Cond.laysFinal "OwlsLentModel" "OwlsLentModel" "tape" "[B") ∈ GT := GT_in (tlw (tin_6 (List.mem_of_getElem? (i := 124) rfl))) rfl
theorem w_6_126 : (Jvm.Cond.lays "OwlsLentModel" "OwlsLentModel" "length" "I") ∈ GT := GT_in (tlw (tin_6 (List.mem_of_getElem? (i := 126) rfl))) rfl
theorem w_6_128 : (Jvm.Cond.lays "OwlsLentModel" "OwlsLentModel" "size" "I") ∈ GT := GT_in (tlw (tin_6 (List.mem_of_getElem? (i := 128) rfl))) rfl
theorem w_6_130 : (Jvm.Cond.lays "OwlsLentModel" "OwlsLentModel" "p" "I") ∈ GT := GT_in (tlw (tin_6 (List.mem_of_getElem? (i := 130) rfl))) rfl
theorem w_6_132 : (Jvm.Cond.lays "OwlsLentModel" "OwlsLentModel" "limit" "I") ∈ GT := GT_in (tlw (tin_6 (List.mem_of_getElem? (i := 132) rfl))) rfl
theorem w_6_134 : (Jvm.Cond.laysFinal "OwlsLentModel" "OwlsLentModel" "s" "[I") ∈ GT := GT_in (tlw (tin_6 (List.mem_of_getElem? (i := 134) rfl))) rfl
theorem w_6_136 : (Jvm.Cond.laysFinal "OwlsLentModel" "OwlsLentModel" "h" "[I") ∈ GT := GT_in (tlw (tin_6 (List.mem_of_getElem? (i := 136) rfl))) rfl
theorem w_6_138 : (Jvm.Cond.laysFinal "OwlsLentModel" "OwlsLentModel" "read" "[I") ∈ GT := GT_in (tlw (tin_6 (List.mem_of_getElem? (i := 138) rfl))) rfl
theorem w_6_140 : (Jvm.Cond.laysFinal "OwlsLentModel" "OwlsLentModel" "names" "[J") ∈ GT := GT_in (tlw (tin_6 (List.mem_of_getElem? (i := 140) rfl))) rfl
theorem w_6_142 : (Jvm.Cond.laysFinal "OwlsLentModel" "OwlsLentModel" "reserved" "[J") ∈ GT := GT_in (tlw (tin_6 (List.mem_of_getElem? (i := 142) rfl))) rfl
theorem w_6_144 : (Jvm.Cond.lays "OwlsLentModel" "OwlsLentModel" "token" "I") ∈ GT := GT_in (tlw (tin_6 (List.mem_of_getElem? (i := 144) rfl))) rfl
theorem w_6_146 : (Jvm.Cond.lays "OwlsLentModel" "OwlsLentModel" "at" "I") ∈ GT := GT_in (tlw (tin_6 (List.mem_of_getElem? (i := 146) rfl))) rfl
theorem w_6_148 : (Jvm.Cond.lays "OwlsLentModel" "OwlsLentModel" "span" "I") ∈ GT := GT_in (tlw (tin_6 (List.mem_of_getElem? (i := 148) rfl))) rfl
theorem w_6_150 : (Jvm.Cond.lays "OwlsLentModel" "OwlsLentModel" "number" "I") ∈ GT := GT_in (tlw (tin_6 (List.mem_of_getElem? (i := 150) rfl))) rfl
theorem w_6_152 : (Jvm.Cond.lays "OwlsLentModel" "OwlsLentModel" "fault" "I") ∈ GT := GT_in (tlw (tin_6 (List.mem_of_getElem? (i := 152) rfl))) rfl
theorem w_6_154 : (Jvm.Cond.lays "OwlsLentModel" "OwlsLentModel" "faultAt" "I") ∈ GT := GT_in (tlw (tin_6 (List.mem_of_getElem? (i := 154) rfl))) rfl
theorem w_6_156 : (Jvm.Cond.lays "OwlsLentModel" "OwlsLentModel" "word" "J") ∈ GT := GT_in (tlw (tin_6 (List.mem_of_getElem? (i := 156) rfl))) rfl
theorem w_6_158 : (Jvm.Cond.lays "OwlsLentModel" "OwlsLentModel" "got" "I") ∈ GT := GT_in (tlw (tin_6 (List.mem_of_getElem? (i := 158) rfl))) rfl
theorem w_6_160 : (Jvm.Cond.lays "OwlsLentModel" "OwlsLentModel" "lines" "I") ∈ GT := GT_in (tlw (tin_6 (List.mem_of_getElem? (i := 160) rfl))) rfl
theorem w_6_162 : (Jvm.Cond.lays "OwlsLentModel" "OwlsLentModel" "hasHouse" "Z") ∈ GT := GT_in (tlw (tin_6 (List.mem_of_getElem? (i := 162) rfl))) rfl
theorem w_6_164 : (Jvm.Cond.lays "OwlsLentModel" "OwlsLentModel" "hasShut" "Z") ∈ GT := GT_in (tlw (tin_6 (List.mem_of_getElem? (i := 164) rfl))) rfl
theorem w_6_166 : (Jvm.Cond.laysFinal "OwlsLentModel" "OwlsLentModel" "undone" "[I") ∈ GT := GT_in (tlw (tin_6 (List.mem_of_getElem? (i := 166) rfl))) rfl
theorem w_6_168 : (Jvm.Cond.laysFinal "OwlsLentModel" "OwlsLentModel" "before" "[I") ∈ GT := GT_in (tlw (tin_6 (List.mem_of_getElem? (i := 168) rfl))) rfl
theorem w_6_170 : (Jvm.Cond.lays "OwlsLentModel" "OwlsLentModel" "undoMany" "I") ∈ GT := GT_in (tlw (tin_6 (List.mem_of_getElem? (i := 170) rfl))) rfl
theorem w_6_172 : (Jvm.Cond.laysFinal "OwlsLentModel" "OwlsLentModel" "spotRow" "[I") ∈ GT := GT_in (tlw (tin_6 (List.mem_of_getElem? (i := 172) rfl))) rfl
theorem w_6_174 : (Jvm.Cond.laysFinal "OwlsLentModel" "OwlsLentModel" "groups" "[I") ∈ GT := GT_in (tlw (tin_6 (List.mem_of_getElem? (i := 174) rfl))) rfl
theorem w_6_176 : (Jvm.Cond.lays "OwlsLentModel" "OwlsLentModel" "spotMany" "I") ∈ GT := GT_in (tlw (tin_6 (List.mem_of_getElem? (i := 176) rfl))) rfl
theorem w_6_178 : (Jvm.Cond.lays "OwlsLentModel" "OwlsLentModel" "nextOwl" "I") ∈ GT := GT_in (tlw (tin_6 (List.mem_of_getElem? (i := 178) rfl))) rfl
theorem w_6_180 : (Jvm.Cond.lays "OwlsLentModel" "OwlsLentModel" "keenFrom" "I") ∈ GT := GT_in (tlw (tin_6 (List.mem_of_getElem? (i := 180) rfl))) rfl
theorem w_6_182 : (Jvm.Cond.lays "OwlsLentModel" "OwlsLentModel" "keenTo" "I") ∈ GT := GT_in (tlw (tin_6 (List.mem_of_getElem? (i := 182) rfl))) rfl
theorem w_6_184 : (Jvm.Cond.lays "OwlsLentModel" "OwlsLentModel" "hasKeen" "Z") ∈ GT := GT_in (tlw (tin_6 (List.mem_of_getElem? (i := 184) rfl))) rfl
theorem w_6_186 : (Jvm.Cond.laysFinal "OwlsLentModel" "OwlsLentModel" "worths" "[I") ∈ GT := GT_in (tlw (tin_6 (List.mem_of_getElem? (i := 186) rfl))) rfl
theorem w_6_188 : (Jvm.Cond.laysFinal "OwlsLentModel" "OwlsLentModel" "rest" "[I") ∈ GT := GT_in (tlw (tin_6 (List.mem_of_getElem? (i := 188) rfl))) rfl
theorem w_6_190 : (Jvm.Cond.laysFinal "OwlsLentModel" "OwlsLentModel" "bestRow" "[I") ∈ GT := GT_in (tlw (tin_6 (List.mem_of_getElem? (i := 190) rfl))) rfl
theorem w_6_192 : (Jvm.Cond.lays "OwlsLentModel" "OwlsLentModel" "bestMany" "I") ∈ GT := GT_in (tlw (tin_6 (List.mem_of_getElem? (i := 192) rfl))) rfl
theorem w_6_194 : (Jvm.Cond.laysFinal "OwlsLentModel" "OwlsLentModel" "codeRow" "[I") ∈ GT := GT_in (tlw (tin_6 (List.mem_of_getElem? (i := 194) rfl))) rfl
theorem w_6_196 : (Jvm.Cond.lays "OwlsLentModel" "OwlsLentModel" "codeMany" "I") ∈ GT := GT_in (tlw (tin_6 (List.mem_of_getElem? (i := 196) rfl))) rfl
theorem w_6_198 : (Jvm.Cond.laysFinal "OwlsLentModel" "OwlsLentModel" "wins" "[Z") ∈ GT := GT_in (tlw (tin_6 (List.mem_of_getElem? (i := 198) rfl))) rfl
theorem w_6_200 : (Jvm.Cond.laysFinal "OwlsLentModel" "OwlsLentModel" "later" "[Z") ∈ GT := GT_in (tlw (tin_6 (List.mem_of_getElem? (i := 200) rfl))) rfl
theorem w_6_202 : (Jvm.Cond.lays "OwlsLentModel" "OwlsLentModel" "duelOne" "I") ∈ GT := GT_in (tlw (tin_6 (List.mem_of_getElem? (i := 202) rfl))) rfl
theorem w_6_204 : (Jvm.Cond.lays "OwlsLentModel" "OwlsLentModel" "hasDuel" "Z") ∈ GT := GT_in (tlw (tin_6 (List.mem_of_getElem? (i := 204) rfl))) rfl
theorem w_6_206 : (Jvm.Cond.laysFinal "OwlsLentModel" "OwlsLentModel" "text" "[B") ∈ GT := GT_in (tlw (tin_6 (List.mem_of_getElem? (i := 206) rfl))) rfl
theorem w_6_208 : (Jvm.Cond.lays "OwlsLentModel" "OwlsLentModel" "textMany" "I") ∈ GT := GT_in (tlw (tin_6 (List.mem_of_getElem? (i := 208) rfl))) rfl
theorem w_6_210 : (Jvm.Cond.lays "OwlsLentModel" "OwlsLentModel" "seed" "I") ∈ GT := GT_in (tlw (tin_6 (List.mem_of_getElem? (i := 210) rfl))) rfl
theorem w_6_212 : (Jvm.Cond.lays "OwlsLentModel" "OwlsLentModel" "toldMany" "I") ∈ GT := GT_in (tlw (tin_6 (List.mem_of_getElem? (i := 212) rfl))) rfl
theorem w_6_214 : (Jvm.Cond.laysFinal "OwlsLentModel" "OwlsLentModel" "toldAt" "[I") ∈ GT := GT_in (tlw (tin_6 (List.mem_of_getElem? (i := 214) rfl))) rfl
theorem w_6_216 : (Jvm.Cond.lays "OwlsLentModel" "OwlsLentModel" "hasTold" "Z") ∈ GT := GT_in (tlw (tin_6 (List.mem_of_getElem? (i := 216) rfl))) rfl
theorem w_6_218 : (Jvm.Cond.laysFinal "OwlsLentModel" "OwlsLentModel" "stack" "[I") ∈ GT := GT_in (tlw (tin_6 (List.mem_of_getElem? (i := 218) rfl))) rfl
theorem w_6_220 : (Jvm.Cond.lays "OwlsLentModel" "OwlsLentModel" "codes" "I") ∈ GT := GT_in (tlw (tin_6 (List.mem_of_getElem? (i := 220) rfl))) rfl
theorem w_6_222 : (Jvm.Cond.lays "OwlsLentModel" "OwlsLentModel" "ones" "I") ∈ GT := GT_in (tlw (tin_6 (List.mem_of_getElem? (i := 222) rfl))) rfl
theorem w_6_224 : (Jvm.Cond.lays "OwlsLentModel" "OwlsLentModel" "top" "I") ∈ GT := GT_in (tlw (tin_6 (List.mem_of_getElem? (i := 224) rfl))) rfl
theorem w_6_226 : (Jvm.Cond.lays "OwlsLentModel" "OwlsLentModel" "deep" "I") ∈ GT := GT_in (tlw (tin_6 (List.mem_of_getElem? (i := 226) rfl))) rfl
theorem w_6_228 : (Jvm.Cond.lays "OwlsLentModel" "OwlsLentModel" "isWhole" "Z") ∈ GT := GT_in (tlw (tin_6 (List.mem_of_getElem? (i := 228) rfl))) rfl
theorem w_6_230 : (Jvm.Cond.laysFinal "OwlsLentModel" "OwlsLentModel" "truths" "[Z") ∈ GT := GT_in (tlw (tin_6 (List.mem_of_getElem? (i := 230) rfl))) rfl
theorem w_6_232 : (Jvm.Cond.laysFinal "OwlsLentModel" "OwlsLentModel" "imaged" "[I") ∈ GT := GT_in (tlw (tin_6 (List.mem_of_getElem? (i := 232) rfl))) rfl
theorem w_6_234 : (Jvm.Cond.laysFinal "OwlsLentModel" "OwlsLentModel" "namesKept" "[J") ∈ GT := GT_in (tlw (tin_6 (List.mem_of_getElem? (i := 234) rfl))) rfl
theorem w_6_236 : (Jvm.Cond.laysFinal "OwlsLentModel" "OwlsLentModel" "areKept" "[Z") ∈ GT := GT_in (tlw (tin_6 (List.mem_of_getElem? (i := 236) rfl))) rfl
theorem w_7_3 : (Jvm.Cond.methodLink "OwlsLentModel" (295 : Nat) ({ cls := "OwlsLentModel", name := "taken", desc := "(I)V" } : Jvm.MethodName)) ∈ GT := GT_in (tlw (tin_7 (List.mem_of_getElem? (i := 3) rfl))) rfl
theorem w_7_5 : (Jvm.Cond.instanceMethod ({ cls := "OwlsLentModel", name := "taken", desc := "(I)V" } : Jvm.MethodName)) ∈ GT := GT_in (tlw (tin_7 (List.mem_of_getElem? (i := 5) rfl))) rfl
theorem w_7_6 : (Jvm.Cond.code ({ cls := "OwlsLentModel", name := "taken", desc := "(I)V" } : Jvm.MethodName) prog_14_method_6_code (2 : Nat) (Option.none : Option Jvm.ClassFile.FieldType)) ∈ GT := GT_in (tlw (tin_7 (List.mem_of_getElem? (i := 6) rfl))) rfl
theorem w_7_7 : (Jvm.Cond.methodLink "OwlsLentModel" (220 : Nat) ({ cls := "OwlsLentModel", name := "go", desc := "()V" } : Jvm.MethodName)) ∈ GT := GT_in (tlw (tin_7 (List.mem_of_getElem? (i := 7) rfl))) rfl
theorem w_7_9 : (Jvm.Cond.instanceMethod ({ cls := "OwlsLentModel", name := "go", desc := "()V" } : Jvm.MethodName)) ∈ GT := GT_in (tlw (tin_7 (List.mem_of_getElem? (i := 9) rfl))) rfl
theorem w_7_10 : (Jvm.Cond.code ({ cls := "OwlsLentModel", name := "go", desc := "()V" } : Jvm.MethodName) prog_14_method_17_code (4 : Nat) (Option.none : Option Jvm.ClassFile.FieldType)) ∈ GT := GT_in (tlw (tin_7 (List.mem_of_getElem? (i := 10) rfl))) rfl
theorem w_7_11 : (Jvm.Cond.methodLink "OwlsLentModel" (181 : Nat) ({ cls := "OwlsLentModel", name := "peek", desc := "()I" } : Jvm.MethodName)) ∈ GT := GT_in (tlw (tin_7 (List.mem_of_getElem? (i := 11) rfl))) rfl
theorem w_7_13 : (Jvm.Cond.instanceMethod ({ cls := "OwlsLentModel", name := "peek", desc := "()I" } : Jvm.MethodName)) ∈ GT := GT_in (tlw (tin_7 (List.mem_of_getElem? (i := 13) rfl))) rfl
theorem w_7_14 : (Jvm.Cond.code ({ cls := "OwlsLentModel", name := "peek", desc := "()I" } : Jvm.MethodName) prog_14_method_14_code (1 : Nat) (Option.some Jvm.ClassFile.FieldType.int)) ∈ GT := GT_in (tlw (tin_7 (List.mem_of_getElem? (i := 14) rfl))) rfl
theorem w_7_15 : (Jvm.Cond.methodLink "OwlsLentModel" (194 : Nat) ({ cls := "OwlsLentModel", name := "isSmall", desc := "(I)Z" } : Jvm.MethodName)) ∈ GT := GT_in (tlw (tin_7 (List.mem_of_getElem? (i := 15) rfl))) rfl
theorem w_7_16 : (Jvm.Cond.static ({ cls := "OwlsLentModel", name := "isSmall", desc := "(I)Z" } : Jvm.MethodName)) ∈ GT := GT_in (tlw (tin_7 (List.mem_of_getElem? (i := 16) rfl))) rfl
theorem w_7_17 : (Jvm.Cond.code ({ cls := "OwlsLentModel", name := "isSmall", desc := "(I)Z" } : Jvm.MethodName) prog_14_method_15_code (1 : Nat) (Option.some Jvm.ClassFile.FieldType.boolean)) ∈ GT := GT_in (tlw (tin_7 (List.mem_of_getElem? (i := 17) rfl))) rfl
theorem w_7_18 : (Jvm.Cond.methodLink "OwlsLentModel" (198 : Nat) ({ cls := "OwlsLentModel", name := "isDigit", desc := "(I)Z" } : Jvm.MethodName)) ∈ GT := GT_in (tlw (tin_7 (List.mem_of_getElem? (i := 18) rfl))) rfl
theorem w_7_19 : (Jvm.Cond.static ({ cls := "OwlsLentModel", name := "isDigit", desc := "(I)Z" } : Jvm.MethodName)) ∈ GT := GT_in (tlw (tin_7 (List.mem_of_getElem? (i := 19) rfl))) rfl
theorem w_7_20 : (Jvm.Cond.code ({ cls := "OwlsLentModel", name := "isDigit", desc := "(I)Z" } : Jvm.MethodName) prog_14_method_16_code (1 : Nat) (Option.some Jvm.ClassFile.FieldType.boolean)) ∈ GT := GT_in (tlw (tin_7 (List.mem_of_getElem? (i := 20) rfl))) rfl
theorem w_7_21 : (Jvm.Cond.methodLink "OwlsLentModel" (301 : Nat) ({ cls := "OwlsLentModel", name := "line", desc := "()Z" } : Jvm.MethodName)) ∈ GT := GT_in (tlw (tin_7 (List.mem_of_getElem? (i := 21) rfl))) rfl
theorem w_7_23 : (Jvm.Cond.instanceMethod ({ cls := "OwlsLentModel", name := "line", desc := "()Z" } : Jvm.MethodName)) ∈ GT := GT_in (tlw (tin_7 (List.mem_of_getElem? (i := 23) rfl))) rfl
theorem w_7_24 : (Jvm.Cond.code ({ cls := "OwlsLentModel", name := "line", desc := "()Z" } : Jvm.MethodName) prog_14_method_32_code (1 : Nat) (Option.some Jvm.ClassFile.FieldType.boolean)) ∈ GT := GT_in (tlw (tin_7 (List.mem_of_getElem? (i := 24) rfl))) rfl
theorem w_7_25 : (Jvm.Cond.methodLink "OwlsLentModel" (248 : Nat) ({ cls := "OwlsLentModel", name := "isWord", desc := "(J)Z" } : Jvm.MethodName)) ∈ GT := GT_in (tlw (tin_7 (List.mem_of_getElem? (i := 25) rfl))) rfl
theorem w_7_27 : (Jvm.Cond.instanceMethod ({ cls := "OwlsLentModel", name := "isWord", desc := "(J)Z" } : Jvm.MethodName)) ∈ GT := GT_in (tlw (tin_7 (List.mem_of_getElem? (i := 27) rfl))) rfl
theorem w_7_28 : (Jvm.Cond.code ({ cls := "OwlsLentModel", name := "isWord", desc := "(J)Z" } : Jvm.MethodName) prog_14_method_19_code (3 : Nat) (Option.some Jvm.ClassFile.FieldType.boolean)) ∈ GT := GT_in (tlw (tin_7 (List.mem_of_getElem? (i := 28) rfl))) rfl
theorem w_7_29 : (Jvm.Cond.methodLink "OwlsLentModel" (217 : Nat) ({ cls := "OwlsLentModel", name := "bad", desc := "(I)Z" } : Jvm.MethodName)) ∈ GT := GT_in (tlw (tin_7 (List.mem_of_getElem? (i := 29) rfl))) rfl
theorem w_7_31 : (Jvm.Cond.instanceMethod ({ cls := "OwlsLentModel", name := "bad", desc := "(I)Z" } : Jvm.MethodName)) ∈ GT := GT_in (tlw (tin_7 (List.mem_of_getElem? (i := 31) rfl))) rfl
theorem w_7_32 : (Jvm.Cond.code ({ cls := "OwlsLentModel", name := "bad", desc := "(I)Z" } : Jvm.MethodName) prog_14_method_18_code (2 : Nat) (Option.some Jvm.ClassFile.FieldType.boolean)) ∈ GT := GT_in (tlw (tin_7 (List.mem_of_getElem? (i := 32) rfl))) rfl
theorem w_7_33 : (Jvm.Cond.methodLink "OwlsLentModel" (256 : Nat) ({ cls := "OwlsLentModel", name := "puts", desc := "(III)Z" } : Jvm.MethodName)) ∈ GT := GT_in (tlw (tin_7 (List.mem_of_getElem? (i := 33) rfl))) rfl
theorem w_7_35 : (Jvm.Cond.instanceMethod ({ cls := "OwlsLentModel", name := "puts", desc := "(III)Z" } : Jvm.MethodName)) ∈ GT := GT_in (tlw (tin_7 (List.mem_of_getElem? (i := 35) rfl))) rfl
theorem w_7_36 : (Jvm.Cond.code ({ cls := "OwlsLentModel", name := "puts", desc := "(III)Z" } : Jvm.MethodName) prog_14_method_24_code (4 : Nat) (Option.some Jvm.ClassFile.FieldType.boolean)) ∈ GT := GT_in (tlw (tin_7 (List.mem_of_getElem? (i := 36) rfl))) rfl
theorem w_7_37 : (Jvm.Cond.methodLink "OwlsLentModel" (230 : Nat) ({ cls := "OwlsLentModel", name := "takes", desc := "(II)Z" } : Jvm.MethodName)) ∈ GT := GT_in (tlw (tin_7 (List.mem_of_getElem? (i := 37) rfl))) rfl
theorem w_7_39 : (Jvm.Cond.instanceMethod ({ cls := "OwlsLentModel", name := "takes", desc := "(II)Z" } : Jvm.MethodName)) ∈ GT := GT_in (tlw (tin_7 (List.mem_of_getElem? (i := 39) rfl))) rfl
theorem w_7_40 : (Jvm.Cond.code ({ cls := "OwlsLentModel", name := "takes", desc := "(II)Z" } : Jvm.MethodName) prog_14_method_23_code (3 : Nat) (Option.some Jvm.ClassFile.FieldType.boolean)) ∈ GT := GT_in (tlw (tin_7 (List.mem_of_getElem? (i := 40) rfl))) rfl
theorem w_7_41 : (Jvm.Cond.methodLink "OwlsLentModel" (223 : Nat) ({ cls := "OwlsLentModel", name := "isIn", desc := "(III)Z" } : Jvm.MethodName)) ∈ GT := GT_in (tlw (tin_7 (List.mem_of_getElem? (i := 41) rfl))) rfl
theorem w_7_42 : (Jvm.Cond.static ({ cls := "OwlsLentModel", name := "isIn", desc := "(III)Z" } : Jvm.MethodName)) ∈ GT := GT_in (tlw (tin_7 (List.mem_of_getElem? (i := 42) rfl))) rfl
theorem w_7_43 : (Jvm.Cond.code ({ cls := "OwlsLentModel", name := "isIn", desc := "(III)Z" } : Jvm.MethodName) prog_14_method_7_code (3 : Nat) (Option.some Jvm.ClassFile.FieldType.boolean)) ∈ GT := GT_in (tlw (tin_7 (List.mem_of_getElem? (i := 43) rfl))) rfl
theorem w_7_44 : (Jvm.Cond.methodLink "OwlsLentModel" (259 : Nat) ({ cls := "OwlsLentModel", name := "readBed", desc := "()Z" } : Jvm.MethodName)) ∈ GT := GT_in (tlw (tin_7 (List.mem_of_getElem? (i := 44) rfl))) rfl
theorem w_7_46 : (Jvm.Cond.instanceMethod ({ cls := "OwlsLentModel", name := "readBed", desc := "()Z" } : Jvm.MethodName)) ∈ GT := GT_in (tlw (tin_7 (List.mem_of_getElem? (i := 46) rfl))) rfl
theorem w_7_47 : (Jvm.Cond.code ({ cls := "OwlsLentModel", name := "readBed", desc := "()Z" } : Jvm.MethodName) prog_14_method_33_code (3 : Nat) (Option.some Jvm.ClassFile.FieldType.boolean)) ∈ GT := GT_in (tlw (tin_7 (List.mem_of_getElem? (i := 47) rfl))) rfl
theorem w_7_48 : (Jvm.Cond.methodLink "OwlsLentModel" (280 : Nat) ({ cls := "OwlsLentModel", name := "fresh", desc := "(I)Z" } : Jvm.MethodName)) ∈ GT := GT_in (tlw (tin_7 (List.mem_of_getElem? (i := 48) rfl))) rfl
theorem w_7_50 : (Jvm.Cond.instanceMethod ({ cls := "OwlsLentModel", name := "fresh", desc := "(I)Z" } : Jvm.MethodName)) ∈ GT := GT_in (tlw (tin_7 (List.mem_of_getElem? (i := 50) rfl))) rfl
theorem w_7_51 : (Jvm.Cond.code ({ cls := "OwlsLentModel", name := "fresh", desc := "(I)Z" } : Jvm.MethodName) prog_14_method_29_code (2 : Nat) (Option.some Jvm.ClassFile.FieldType.boolean)) ∈ GT := GT_in (tlw (tin_7 (List.mem_of_getElem? (i := 51) rfl))) rfl
theorem w_7_52 : (Jvm.Cond.methodLink "OwlsLentModel" (237 : Nat) ({ cls := "OwlsLentModel", name := "isName", desc := "()Z" } : Jvm.MethodName)) ∈ GT := GT_in (tlw (tin_7 (List.mem_of_getElem? (i := 52) rfl))) rfl
theorem w_7_54 : (Jvm.Cond.instanceMethod ({ cls := "OwlsLentModel", name := "isName", desc := "()Z" } : Jvm.MethodName)) ∈ GT := GT_in (tlw (tin_7 (List.mem_of_getElem? (i := 54) rfl))) rfl
theorem w_7_55 : (Jvm.Cond.code ({ cls := "OwlsLentModel", name := "isName", desc := "()Z" } : Jvm.MethodName) prog_14_method_22_code (3 : Nat) (Option.some Jvm.ClassFile.FieldType.boolean)) ∈ GT := GT_in (tlw (tin_7 (List.mem_of_getElem? (i := 55) rfl))) rfl
theorem w_7_56 : (Jvm.Cond.methodLink "OwlsLentModel" (241 : Nat) ({ cls := "OwlsLentModel", name := "find", desc := "(II)I" } : Jvm.MethodName)) ∈ GT := GT_in (tlw (tin_7 (List.mem_of_getElem? (i := 56) rfl))) rfl
theorem w_7_58 : (Jvm.Cond.instanceMethod ({ cls := "OwlsLentModel", name := "find", desc := "(II)I" } : Jvm.MethodName)) ∈ GT := GT_in (tlw (tin_7 (List.mem_of_getElem? (i := 58) rfl))) rfl
theorem w_7_59 : (Jvm.Cond.code ({ cls := "OwlsLentModel", name := "find", desc := "(II)I" } : Jvm.MethodName) prog_14_method_28_code (4 : Nat) (Option.some Jvm.ClassFile.FieldType.int)) ∈ GT := GT_in (tlw (tin_7 (List.mem_of_getElem? (i := 59) rfl))) rfl
theorem w_7_60 : (Jvm.Cond.methodLink "OwlsLentModel" (262 : Nat) ({ cls := "OwlsLentModel", name := "readOwl", desc := "()Z" } : Jvm.MethodName)) ∈ GT := GT_in (tlw (tin_7 (List.mem_of_getElem? (i := 60) rfl))) rfl
theorem w_7_62 : (Jvm.Cond.instanceMethod ({ cls := "OwlsLentModel", name := "readOwl", desc := "()Z" } : Jvm.MethodName)) ∈ GT := GT_in (tlw (tin_7 (List.mem_of_getElem? (i := 62) rfl))) rfl
theorem w_7_63 : (Jvm.Cond.code ({ cls := "OwlsLentModel", name := "readOwl", desc := "()Z" } : Jvm.MethodName) prog_14_method_34_code (3 : Nat) (Option.some Jvm.ClassFile.FieldType.boolean)) ∈ GT := GT_in (tlw (tin_7 (List.mem_of_getElem? (i := 63) rfl))) rfl
theorem w_7_64 : (Jvm.Cond.methodLink "OwlsLentModel" (245 : Nat) ({ cls := "OwlsLentModel", name := "looksAt", desc := "(II)Z" } : Jvm.MethodName)) ∈ GT := GT_in (tlw (tin_7 (List.mem_of_getElem? (i := 64) rfl))) rfl
theorem w_7_66 : (Jvm.Cond.instanceMethod ({ cls := "OwlsLentModel", name := "looksAt", desc := "(II)Z" } : Jvm.MethodName)) ∈ GT := GT_in (tlw (tin_7 (List.mem_of_getElem? (i := 66) rfl))) rfl
theorem w_7_67 : (Jvm.Cond.code ({ cls := "OwlsLentModel", name := "looksAt", desc := "(II)Z" } : Jvm.MethodName) prog_14_method_30_code (3 : Nat) (Option.some Jvm.ClassFile.FieldType.boolean)) ∈ GT := GT_in (tlw (tin_7 (List.mem_of_getElem? (i := 67) rfl))) rfl
theorem w_7_68 : (Jvm.Cond.methodLink "OwlsLentModel" (265 : Nat) ({ cls := "OwlsLentModel", name := "readBad", desc := "()Z" } : Jvm.MethodName)) ∈ GT := GT_in (tlw (tin_7 (List.mem_of_getElem? (i := 68) rfl))) rfl
theorem w_7_70 : (Jvm.Cond.instanceMethod ({ cls := "OwlsLentModel", name := "readBad", desc := "()Z" } : Jvm.MethodName)) ∈ GT := GT_in (tlw (tin_7 (List.mem_of_getElem? (i := 70) rfl))) rfl
theorem w_7_71 : (Jvm.Cond.code ({ cls := "OwlsLentModel", name := "readBad", desc := "()Z" } : Jvm.MethodName) prog_14_method_35_code (2 : Nat) (Option.some Jvm.ClassFile.FieldType.boolean)) ∈ GT := GT_in (tlw (tin_7 (List.mem_of_getElem? (i := 71) rfl))) rfl
theorem w_7_72 : (Jvm.Cond.methodLink "OwlsLentModel" (283 : Nat) ({ cls := "OwlsLentModel", name := "isSide", desc := "()Z" } : Jvm.MethodName)) ∈ GT := GT_in (tlw (tin_7 (List.mem_of_getElem? (i := 72) rfl))) rfl
theorem w_7_74 : (Jvm.Cond.instanceMethod ({ cls := "OwlsLentModel", name := "isSide", desc := "()Z" } : Jvm.MethodName)) ∈ GT := GT_in (tlw (tin_7 (List.mem_of_getElem? (i := 74) rfl))) rfl
theorem w_7_75 : (Jvm.Cond.code ({ cls := "OwlsLentModel", name := "isSide", desc := "()Z" } : Jvm.MethodName) prog_14_method_27_code (1 : Nat) (Option.some Jvm.ClassFile.FieldType.boolean)) ∈ GT := GT_in (tlw (tin_7 (List.mem_of_getElem? (i := 75) rfl))) rfl
theorem w_7_76 : (Jvm.Cond.methodLink "OwlsLentModel" (234 : Nat) ({ cls := "OwlsLentModel", name := "isOneOf", desc := "(I)Z" } : Jvm.MethodName)) ∈ GT := GT_in (tlw (tin_7 (List.mem_of_getElem? (i := 76) rfl))) rfl
theorem w_7_78 : (Jvm.Cond.instanceMethod ({ cls := "OwlsLentModel", name := "isOneOf", desc := "(I)Z" } : Jvm.MethodName)) ∈ GT := GT_in (tlw (tin_7 (List.mem_of_getElem? (i := 78) rfl))) rfl
theorem w_7_79 : (Jvm.Cond.code ({ cls := "OwlsLentModel", name := "isOneOf", desc := "(I)Z" } : Jvm.MethodName) prog_14_method_25_code (3 : Nat) (Option.some Jvm.ClassFile.FieldType.boolean)) ∈ GT := GT_in (tlw (tin_7 (List.mem_of_getElem? (i := 79) rfl))) rfl
theorem w_7_80 : (Jvm.Cond.methodLink "OwlsLentModel" (268 : Nat) ({ cls := "OwlsLentModel", name := "readDeaf", desc := "()Z" } : Jvm.MethodName)) ∈ GT := GT_in (tlw (tin_7 (List.mem_of_getElem? (i := 80) rfl))) rfl
theorem w_7_82 : (Jvm.Cond.instanceMethod ({ cls := "OwlsLentModel", name := "readDeaf", desc := "()Z" } : Jvm.MethodName)) ∈ GT := GT_in (tlw (tin_7 (List.mem_of_getElem? (i := 82) rfl))) rfl
theorem w_7_83 : (Jvm.Cond.code ({ cls := "OwlsLentModel", name := "readDeaf", desc := "()Z" } : Jvm.MethodName) prog_14_method_36_code (2 : Nat) (Option.some Jvm.ClassFile.FieldType.boolean)) ∈ GT := GT_in (tlw (tin_7 (List.mem_of_getElem? (i := 83) rfl))) rfl
theorem w_7_84 : (Jvm.Cond.methodLink "OwlsLentModel" (286 : Nat) ({ cls := "OwlsLentModel", name := "takesName", desc := "(II)Z" } : Jvm.MethodName)) ∈ GT := GT_in (tlw (tin_7 (List.mem_of_getElem? (i := 84) rfl))) rfl
theorem w_7_86 : (Jvm.Cond.instanceMethod ({ cls := "OwlsLentModel", name := "takesName", desc := "(II)Z" } : Jvm.MethodName)) ∈ GT := GT_in (tlw (tin_7 (List.mem_of_getElem? (i := 86) rfl))) rfl
theorem w_7_87 : (Jvm.Cond.code ({ cls := "OwlsLentModel", name := "takesName", desc := "(II)Z" } : Jvm.MethodName) prog_14_method_31_code (3 : Nat) (Option.some Jvm.ClassFile.FieldType.boolean)) ∈ GT := GT_in (tlw (tin_7 (List.mem_of_getElem? (i := 87) rfl))) rfl
theorem w_7_88 : (Jvm.Cond.methodLink "OwlsLentModel" (289 : Nat) ({ cls := "OwlsLentModel", name := "isKind", desc := "()Z" } : Jvm.MethodName)) ∈ GT := GT_in (tlw (tin_7 (List.mem_of_getElem? (i := 88) rfl))) rfl
theorem w_7_90 : (Jvm.Cond.instanceMethod ({ cls := "OwlsLentModel", name := "isKind", desc := "()Z" } : Jvm.MethodName)) ∈ GT := GT_in (tlw (tin_7 (List.mem_of_getElem? (i := 90) rfl))) rfl
theorem w_7_91 : (Jvm.Cond.code ({ cls := "OwlsLentModel", name := "isKind", desc := "()Z" } : Jvm.MethodName) prog_14_method_26_code (1 : Nat) (Option.some Jvm.ClassFile.FieldType.boolean)) ∈ GT := GT_in (tlw (tin_7 (List.mem_of_getElem? (i := 91) rfl))) rfl
theorem w_7_92 : (Jvm.Cond.methodLink "OwlsLentModel" (292 : Nat) ({ cls := "OwlsLentModel", name := "bitOf", desc := "(II)Z" } : Jvm.MethodName)) ∈ GT := GT_in (tlw (tin_7 (List.mem_of_getElem? (i := 92) rfl))) rfl
theorem w_7_93 : (Jvm.Cond.static ({ cls := "OwlsLentModel", name := "bitOf", desc := "(II)Z" } : Jvm.MethodName)) ∈ GT := GT_in (tlw (tin_7 (List.mem_of_getElem? (i := 93) rfl))) rfl
theorem w_7_94 : (Jvm.Cond.code ({ cls := "OwlsLentModel", name := "bitOf", desc := "(II)Z" } : Jvm.MethodName) prog_14_method_8_code (2 : Nat) (Option.some Jvm.ClassFile.FieldType.boolean)) ∈ GT := GT_in (tlw (tin_7 (List.mem_of_getElem? (i := 94) rfl))) rfl
theorem w_7_95 : (Jvm.Cond.methodLink "OwlsLentModel" (271 : Nat) ({ cls := "OwlsLentModel", name := "readSound", desc := "()Z" } : Jvm.MethodName)) ∈ GT := GT_in (tlw (tin_7 (List.mem_of_getElem? (i := 95) rfl))) rfl
theorem w_7_97 : (Jvm.Cond.instanceMethod ({ cls := "OwlsLentModel", name := "readSound", desc := "()Z" } : Jvm.MethodName)) ∈ GT := GT_in (tlw (tin_7 (List.mem_of_getElem? (i := 97) rfl))) rfl
theorem w_7_98 : (Jvm.Cond.code ({ cls := "OwlsLentModel", name := "readSound", desc := "()Z" } : Jvm.MethodName) prog_14_method_37_code (2 : Nat) (Option.some Jvm.ClassFile.FieldType.boolean)) ∈ GT := GT_in (tlw (tin_7 (List.mem_of_getElem? (i := 98) rfl))) rfl
theorem w_7_99 : (Jvm.Cond.methodLink "OwlsLentModel" (274 : Nat) ({ cls := "OwlsLentModel", name := "readWants", desc := "()Z" } : Jvm.MethodName)) ∈ GT := GT_in (tlw (tin_7 (List.mem_of_getElem? (i := 99) rfl))) rfl
theorem w_7_101 : (Jvm.Cond.instanceMethod ({ cls := "OwlsLentModel", name := "readWants", desc := "()Z" } : Jvm.MethodName)) ∈ GT := GT_in (tlw (tin_7 (List.mem_of_getElem? (i := 101) rfl))) rfl
theorem w_7_102 : (Jvm.Cond.code ({ cls := "OwlsLentModel", name := "readWants", desc := "()Z" } : Jvm.MethodName) prog_14_method_38_code (2 : Nat) (Option.some Jvm.ClassFile.FieldType.boolean)) ∈ GT := GT_in (tlw (tin_7 (List.mem_of_getElem? (i := 102) rfl))) rfl
theorem w_7_103 : (Jvm.Cond.methodLink "OwlsLentModel" (304 : Nat) ({ cls := "OwlsLentModel", name := "sign", desc := "(I)Z" } : Jvm.MethodName)) ∈ GT := GT_in (tlw (tin_7 (List.mem_of_getElem? (i := 103) rfl))) rfl
theorem w_7_105 : (Jvm.Cond.instanceMethod ({ cls := "OwlsLentModel", name := "sign", desc := "(I)Z" } : Jvm.MethodName)) ∈ GT := GT_in (tlw (tin_7 (List.mem_of_getElem? (i := 105) rfl))) rfl
theorem w_7_106 : (Jvm.Cond.code ({ cls := "OwlsLentModel", name := "sign", desc := "(I)Z" } : Jvm.MethodName) prog_14_method_21_code (2 : Nat) (Option.some Jvm.ClassFile.FieldType.boolean)) ∈ GT := GT_in (tlw (tin_7 (List.mem_of_getElem? (i := 106) rfl))) rfl
theorem w_7_107 : (Jvm.Cond.methodLink "OwlsLentModel" (214 : Nat) ({ cls := "OwlsLentModel", name := "isSign", desc := "(I)Z" } : Jvm.MethodName)) ∈ GT := GT_in (tlw (tin_7 (List.mem_of_getElem? (i := 107) rfl))) rfl
theorem w_7_109 : (Jvm.Cond.instanceMethod ({ cls := "OwlsLentModel", name := "isSign", desc := "(I)Z" } : Jvm.MethodName)) ∈ GT := GT_in (tlw (tin_7 (List.mem_of_getElem? (i := 109) rfl))) rfl
theorem w_7_110 : (Jvm.Cond.code ({ cls := "OwlsLentModel", name := "isSign", desc := "(I)Z" } : Jvm.MethodName) prog_14_method_20_code (2 : Nat) (Option.some Jvm.ClassFile.FieldType.boolean)) ∈ GT := GT_in (tlw (tin_7 (List.mem_of_getElem? (i := 110) rfl))) rfl
theorem w_7_119 : (Jvm.Cond.methodLink "OwlsLentModel" (355 : Nat) ({ cls := "OwlsLentModel", name := "isBed", desc := "(I)Z" } : Jvm.MethodName)) ∈ GT := GT_in (tlw (tin_7 (List.mem_of_getElem? (i := 119) rfl))) rfl
theorem w_7_121 : (Jvm.Cond.instanceMethod ({ cls := "OwlsLentModel", name := "isBed", desc := "(I)Z" } : Jvm.MethodName)) ∈ GT := GT_in (tlw (tin_7 (List.mem_of_getElem? (i := 121) rfl))) rfl
theorem w_7_122 : (Jvm.Cond.code ({ cls := "OwlsLentModel", name := "isBed", desc := "(I)Z" } : Jvm.MethodName) prog_14_method_41_code (2 : Nat) (Option.some Jvm.ClassFile.FieldType.boolean)) ∈ GT := GT_in (tlw (tin_7 (List.mem_of_getElem? (i := 122) rfl))) rfl
theorem w_7_123 : (Jvm.Cond.methodLink "OwlsLentModel" (358 : Nat) ({ cls := "OwlsLentModel", name := "throwsIf", desc := "(Z)Z" } : Jvm.MethodName)) ∈ GT := GT_in (tlw (tin_7 (List.mem_of_getElem? (i := 123) rfl))) rfl
theorem w_7_125 : (Jvm.Cond.instanceMethod ({ cls := "OwlsLentModel", name := "throwsIf", desc := "(Z)Z" } : Jvm.MethodName)) ∈ GT := GT_in (tlw (tin_7 (List.mem_of_getElem? (i := 125) rfl))) rfl
theorem w_7_126 : (Jvm.Cond.code ({ cls := "OwlsLentModel", name := "throwsIf", desc := "(Z)Z" } : Jvm.MethodName) prog_14_method_2_code (2 : Nat) (Option.some Jvm.ClassFile.FieldType.boolean)) ∈ GT := GT_in (tlw (tin_7 (List.mem_of_getElem? (i := 126) rfl))) rfl
theorem w_7_127 : (Jvm.Cond.methodLink "OwlsLentModel" (362 : Nat) ({ cls := "OwlsLentModel", name := "owlBy", desc := "(I)I" } : Jvm.MethodName)) ∈ GT := GT_in (tlw (tin_7 (List.mem_of_getElem? (i := 127) rfl))) rfl
theorem w_7_129 : (Jvm.Cond.instanceMethod ({ cls := "OwlsLentModel", name := "owlBy", desc := "(I)I" } : Jvm.MethodName)) ∈ GT := GT_in (tlw (tin_7 (List.mem_of_getElem? (i := 129) rfl))) rfl
theorem w_7_130 : (Jvm.Cond.code ({ cls := "OwlsLentModel", name := "owlBy", desc := "(I)I" } : Jvm.MethodName) prog_14_method_59_code (3 : Nat) (Option.some Jvm.ClassFile.FieldType.int)) ∈ GT := GT_in (tlw (tin_7 (List.mem_of_getElem? (i := 130) rfl))) rfl
theorem w_7_135 : (Jvm.Cond.methodLink "OwlsLentModel" (365 : Nat) ({ cls := "OwlsLentModel", name := "isOwl", desc := "(I)Z" } : Jvm.MethodName)) ∈ GT := GT_in (tlw (tin_7 (List.mem_of_getElem? (i := 135) rfl))) rfl
theorem w_7_137 : (Jvm.Cond.instanceMethod ({ cls := "OwlsLentModel", name := "isOwl", desc := "(I)Z" } : Jvm.MethodName)) ∈ GT := GT_in (tlw (tin_7 (List.mem_of_getElem? (i := 137) rfl))) rfl
theorem w_7_138 : (Jvm.Cond.code ({ cls := "OwlsLentModel", name := "isOwl", desc := "(I)Z" } : Jvm.MethodName) prog_14_method_42_code (2 : Nat) (Option.some Jvm.ClassFile.FieldType.boolean)) ∈ GT := GT_in (tlw (tin_7 (List.mem_of_getElem? (i := 138) rfl))) rfl
theorem w_7_139 : (Jvm.Cond.methodLink "OwlsLentModel" (368 : Nat) ({ cls := "OwlsLentModel", name := "lookBy", desc := "(II)I" } : Jvm.MethodName)) ∈ GT := GT_in (tlw (tin_7 (List.mem_of_getElem? (i := 139) rfl))) rfl
theorem w_7_141 : (Jvm.Cond.instanceMethod ({ cls := "OwlsLentModel", name := "lookBy", desc := "(II)I" } : Jvm.MethodName)) ∈ GT := GT_in (tlw (tin_7 (List.mem_of_getElem? (i := 141) rfl))) rfl
theorem w_7_142 : (Jvm.Cond.code ({ cls := "OwlsLentModel", name := "lookBy", desc := "(II)I" } : Jvm.MethodName) prog_14_method_58_code (4 : Nat) (Option.some Jvm.ClassFile.FieldType.int)) ∈ GT := GT_in (tlw (tin_7 (List.mem_of_getElem? (i := 142) rfl))) rfl
theorem w_7_143 : (Jvm.Cond.methodLink "OwlsLentModel" (352 : Nat) ({ cls := "OwlsLentModel", name := "seenBy", desc := "(II)I" } : Jvm.MethodName)) ∈ GT := GT_in (tlw (tin_7 (List.mem_of_getElem? (i := 143) rfl))) rfl
theorem w_7_145 : (Jvm.Cond.instanceMethod ({ cls := "OwlsLentModel", name := "seenBy", desc := "(II)I" } : Jvm.MethodName)) ∈ GT := GT_in (tlw (tin_7 (List.mem_of_getElem? (i := 145) rfl))) rfl
theorem w_7_146 : (Jvm.Cond.code ({ cls := "OwlsLentModel", name := "seenBy", desc := "(II)I" } : Jvm.MethodName) prog_14_method_57_code (6 : Nat) (Option.some Jvm.ClassFile.FieldType.int)) ∈ GT := GT_in (tlw (tin_7 (List.mem_of_getElem? (i := 146) rfl))) rfl
theorem w_7_147 : (Jvm.Cond.methodLink "OwlsLentModel" (346 : Nat) ({ cls := "OwlsLentModel", name := "heardBy", desc := "(II)I" } : Jvm.MethodName)) ∈ GT := GT_in (tlw (tin_7 (List.mem_of_getElem? (i := 147) rfl))) rfl
theorem w_7_149 : (Jvm.Cond.instanceMethod ({ cls := "OwlsLentModel", name := "heardBy", desc := "(II)I" } : Jvm.MethodName)) ∈ GT := GT_in (tlw (tin_7 (List.mem_of_getElem? (i := 149) rfl))) rfl
theorem w_7_150 : (Jvm.Cond.code ({ cls := "OwlsLentModel", name := "heardBy", desc := "(II)I" } : Jvm.MethodName) prog_14_method_56_code (5 : Nat) (Option.some Jvm.ClassFile.FieldType.int)) ∈ GT := GT_in (tlw (tin_7 (List.mem_of_getElem? (i := 150) rfl))) rfl
theorem w_7_151 : (Jvm.Cond.methodLink "OwlsLentModel" (337 : Nat) ({ cls := "OwlsLentModel", name := "isShut", desc := "()Z" } : Jvm.MethodName)) ∈ GT := GT_in (tlw (tin_7 (List.mem_of_getElem? (i := 151) rfl))) rfl
theorem w_7_153 : (Jvm.Cond.instanceMethod ({ cls := "OwlsLentModel", name := "isShut", desc := "()Z" } : Jvm.MethodName)) ∈ GT := GT_in (tlw (tin_7 (List.mem_of_getElem? (i := 153) rfl))) rfl
theorem w_7_154 : (Jvm.Cond.code ({ cls := "OwlsLentModel", name := "isShut", desc := "()Z" } : Jvm.MethodName) prog_14_method_46_code (1 : Nat) (Option.some Jvm.ClassFile.FieldType.boolean)) ∈ GT := GT_in (tlw (tin_7 (List.mem_of_getElem? (i := 154) rfl))) rfl
theorem w_7_155 : (Jvm.Cond.methodLink "OwlsLentModel" (310 : Nat) ({ cls := "OwlsLentModel", name := "isHour", desc := "(III)Z" } : Jvm.MethodName)) ∈ GT := GT_in (tlw (tin_7 (List.mem_of_getElem? (i := 155) rfl))) rfl
theorem w_7_156 : (Jvm.Cond.static ({ cls := "OwlsLentModel", name := "isHour", desc := "(III)Z" } : Jvm.MethodName)) ∈ GT := GT_in (tlw (tin_7 (List.mem_of_getElem? (i := 156) rfl))) rfl
theorem w_7_157 : (Jvm.Cond.code ({ cls := "OwlsLentModel", name := "isHour", desc := "(III)Z" } : Jvm.MethodName) prog_14_method_45_code (3 : Nat) (Option.some Jvm.ClassFile.FieldType.boolean)) ∈ GT := GT_in (tlw (tin_7 (List.mem_of_getElem? (i := 157) rfl))) rfl
theorem w_7_158 : (Jvm.Cond.methodLink "OwlsLentModel" (340 : Nat) ({ cls := "OwlsLentModel", name := "isOn", desc := "(I)Z" } : Jvm.MethodName)) ∈ GT := GT_in (tlw (tin_7 (List.mem_of_getElem? (i := 158) rfl))) rfl
theorem w_7_160 : (Jvm.Cond.instanceMethod ({ cls := "OwlsLentModel", name := "isOn", desc := "(I)Z" } : Jvm.MethodName)) ∈ GT := GT_in (tlw (tin_7 (List.mem_of_getElem? (i := 160) rfl))) rfl
theorem w_7_161 : (Jvm.Cond.code ({ cls := "OwlsLentModel", name := "isOn", desc := "(I)Z" } : Jvm.MethodName) prog_14_method_47_code (2 : Nat) (Option.some Jvm.ClassFile.FieldType.boolean)) ∈ GT := GT_in (tlw (tin_7 (List.mem_of_getElem? (i := 161) rfl))) rfl
theorem w_7_162 : (Jvm.Cond.methodLink "OwlsLentModel" (343 : Nat) ({ cls := "OwlsLentModel", name := "hearsOne", desc := "(III)Z" } : Jvm.MethodName)) ∈ GT := GT_in (tlw (tin_7 (List.mem_of_getElem? (i := 162) rfl))) rfl
theorem w_7_164 : (Jvm.Cond.instanceMethod ({ cls := "OwlsLentModel", name := "hearsOne", desc := "(III)Z" } : Jvm.MethodName)) ∈ GT := GT_in (tlw (tin_7 (List.mem_of_getElem? (i := 164) rfl))) rfl
theorem w_7_165 : (Jvm.Cond.code ({ cls := "OwlsLentModel", name := "hearsOne", desc := "(III)Z" } : Jvm.MethodName) prog_14_method_55_code (4 : Nat) (Option.some Jvm.ClassFile.FieldType.boolean)) ∈ GT := GT_in (tlw (tin_7 (List.mem_of_getElem? (i := 165) rfl))) rfl
theorem w_7_166 : (Jvm.Cond.methodLink "OwlsLentModel" (330 : Nat) ({ cls := "OwlsLentModel", name := "kindOf", desc := "(I)I" } : Jvm.MethodName)) ∈ GT := GT_in (tlw (tin_7 (List.mem_of_getElem? (i := 166) rfl))) rfl
theorem w_7_168 : (Jvm.Cond.instanceMethod ({ cls := "OwlsLentModel", name := "kindOf", desc := "(I)I" } : Jvm.MethodName)) ∈ GT := GT_in (tlw (tin_7 (List.mem_of_getElem? (i := 168) rfl))) rfl
theorem w_7_169 : (Jvm.Cond.code ({ cls := "OwlsLentModel", name := "kindOf", desc := "(I)I" } : Jvm.MethodName) prog_14_method_53_code (2 : Nat) (Option.some Jvm.ClassFile.FieldType.int)) ∈ GT := GT_in (tlw (tin_7 (List.mem_of_getElem? (i := 169) rfl))) rfl
theorem w_7_170 : (Jvm.Cond.methodLink "OwlsLentModel" (317 : Nat) ({ cls := "OwlsLentModel", name := "xOf", desc := "(I)I" } : Jvm.MethodName)) ∈ GT := GT_in (tlw (tin_7 (List.mem_of_getElem? (i := 170) rfl))) rfl
theorem w_7_172 : (Jvm.Cond.instanceMethod ({ cls := "OwlsLentModel", name := "xOf", desc := "(I)I" } : Jvm.MethodName)) ∈ GT := GT_in (tlw (tin_7 (List.mem_of_getElem? (i := 172) rfl))) rfl
theorem w_7_173 : (Jvm.Cond.code ({ cls := "OwlsLentModel", name := "xOf", desc := "(I)I" } : Jvm.MethodName) prog_14_method_48_code (2 : Nat) (Option.some Jvm.ClassFile.FieldType.int)) ∈ GT := GT_in (tlw (tin_7 (List.mem_of_getElem? (i := 173) rfl))) rfl
theorem w_7_174 : (Jvm.Cond.methodLink "OwlsLentModel" (320 : Nat) ({ cls := "OwlsLentModel", name := "yOf", desc := "(I)I" } : Jvm.MethodName)) ∈ GT := GT_in (tlw (tin_7 (List.mem_of_getElem? (i := 174) rfl))) rfl
theorem w_7_176 : (Jvm.Cond.instanceMethod ({ cls := "OwlsLentModel", name := "yOf", desc := "(I)I" } : Jvm.MethodName)) ∈ GT := GT_in (tlw (tin_7 (List.mem_of_getElem? (i := 176) rfl))) rfl
theorem w_7_177 : (Jvm.Cond.code ({ cls := "OwlsLentModel", name := "yOf", desc := "(I)I" } : Jvm.MethodName) prog_14_method_49_code (2 : Nat) (Option.some Jvm.ClassFile.FieldType.int)) ∈ GT := GT_in (tlw (tin_7 (List.mem_of_getElem? (i := 177) rfl))) rfl
theorem w_7_178 : (Jvm.Cond.methodLink "OwlsLentModel" (333 : Nat) ({ cls := "OwlsLentModel", name := "isHeard", desc := "(IIIIII)Z" } : Jvm.MethodName)) ∈ GT := GT_in (tlw (tin_7 (List.mem_of_getElem? (i := 178) rfl))) rfl
theorem w_7_180 : (Jvm.Cond.instanceMethod ({ cls := "OwlsLentModel", name := "isHeard", desc := "(IIIIII)Z" } : Jvm.MethodName)) ∈ GT := GT_in (tlw (tin_7 (List.mem_of_getElem? (i := 180) rfl))) rfl
theorem w_7_181 : (Jvm.Cond.code ({ cls := "OwlsLentModel", name := "isHeard", desc := "(IIIIII)Z" } : Jvm.MethodName) prog_14_method_54_code (7 : Nat) (Option.some Jvm.ClassFile.FieldType.boolean)) ∈ GT := GT_in (tlw (tin_7 (List.mem_of_getElem? (i := 181) rfl))) rfl
theorem w_7_182 : (Jvm.Cond.methodLink "OwlsLentModel" (327 : Nat) ({ cls := "OwlsLentModel", name := "sideOf", desc := "(III)I" } : Jvm.MethodName)) ∈ GT := GT_in (tlw (tin_7 (List.mem_of_getElem? (i := 182) rfl))) rfl
theorem w_7_184 : (Jvm.Cond.instanceMethod ({ cls := "OwlsLentModel", name := "sideOf", desc := "(III)I" } : Jvm.MethodName)) ∈ GT := GT_in (tlw (tin_7 (List.mem_of_getElem? (i := 184) rfl))) rfl
theorem w_7_185 : (Jvm.Cond.code ({ cls := "OwlsLentModel", name := "sideOf", desc := "(III)I" } : Jvm.MethodName) prog_14_method_51_code (6 : Nat) (Option.some Jvm.ClassFile.FieldType.int)) ∈ GT := GT_in (tlw (tin_7 (List.mem_of_getElem? (i := 185) rfl))) rfl
theorem w_7_186 : (Jvm.Cond.methodLink "OwlsLentModel" (313 : Nat) ({ cls := "OwlsLentModel", name := "absolute", desc := "(I)I" } : Jvm.MethodName)) ∈ GT := GT_in (tlw (tin_7 (List.mem_of_getElem? (i := 186) rfl))) rfl
theorem w_7_187 : (Jvm.Cond.static ({ cls := "OwlsLentModel", name := "absolute", desc := "(I)I" } : Jvm.MethodName)) ∈ GT := GT_in (tlw (tin_7 (List.mem_of_getElem? (i := 187) rfl))) rfl
theorem w_7_188 : (Jvm.Cond.code ({ cls := "OwlsLentModel", name := "absolute", desc := "(I)I" } : Jvm.MethodName) prog_14_method_10_code (1 : Nat) (Option.some Jvm.ClassFile.FieldType.int)) ∈ GT := GT_in (tlw (tin_7 (List.mem_of_getElem? (i := 188) rfl))) rfl
theorem w_7_189 : (Jvm.Cond.methodLink "OwlsLentModel" (323 : Nat) ({ cls := "OwlsLentModel", name := "farFrom", desc := "(III)I" } : Jvm.MethodName)) ∈ GT := GT_in (tlw (tin_7 (List.mem_of_getElem? (i := 189) rfl))) rfl
theorem w_7_191 : (Jvm.Cond.instanceMethod ({ cls := "OwlsLentModel", name := "farFrom", desc := "(III)I" } : Jvm.MethodName)) ∈ GT := GT_in (tlw (tin_7 (List.mem_of_getElem? (i := 191) rfl))) rfl
theorem w_7_192 : (Jvm.Cond.code ({ cls := "OwlsLentModel", name := "farFrom", desc := "(III)I" } : Jvm.MethodName) prog_14_method_50_code (4 : Nat) (Option.some Jvm.ClassFile.FieldType.int)) ∈ GT := GT_in (tlw (tin_7 (List.mem_of_getElem? (i := 192) rfl))) rfl
theorem w_7_193 : (Jvm.Cond.methodLink "OwlsLentModel" (349 : Nat) ({ cls := "OwlsLentModel", name := "loudAt", desc := "(II)I" } : Jvm.MethodName)) ∈ GT := GT_in (tlw (tin_7 (List.mem_of_getElem? (i := 193) rfl))) rfl
theorem w_7_195 : (Jvm.Cond.instanceMethod ({ cls := "OwlsLentModel", name := "loudAt", desc := "(II)I" } : Jvm.MethodName)) ∈ GT := GT_in (tlw (tin_7 (List.mem_of_getElem? (i := 195) rfl))) rfl
theorem w_7_196 : (Jvm.Cond.code ({ cls := "OwlsLentModel", name := "loudAt", desc := "(II)I" } : Jvm.MethodName) prog_14_method_52_code (3 : Nat) (Option.some Jvm.ClassFile.FieldType.int)) ∈ GT := GT_in (tlw (tin_7 (List.mem_of_getElem? (i := 196) rfl))) rfl
theorem w_7_201 : (Jvm.Cond.methodLink "OwlsLentModel" (371 : Nat) ({ cls := "OwlsLentModel", name := "isSound", desc := "(I)Z" } : Jvm.MethodName)) ∈ GT := GT_in (tlw (tin_7 (List.mem_of_getElem? (i := 201) rfl))) rfl
theorem w_7_203 : (Jvm.Cond.instanceMethod ({ cls := "OwlsLentModel", name := "isSound", desc := "(I)Z" } : Jvm.MethodName)) ∈ GT := GT_in (tlw (tin_7 (List.mem_of_getElem? (i := 203) rfl))) rfl
theorem w_7_204 : (Jvm.Cond.code ({ cls := "OwlsLentModel", name := "isSound", desc := "(I)Z" } : Jvm.MethodName) prog_14_method_43_code (2 : Nat) (Option.some Jvm.ClassFile.FieldType.boolean)) ∈ GT := GT_in (tlw (tin_7 (List.mem_of_getElem? (i := 204) rfl))) rfl
theorem w_7_209 : (Jvm.Cond.methodLink "OwlsLentModel" (374 : Nat) ({ cls := "OwlsLentModel", name := "lookers", desc := "()I" } : Jvm.MethodName)) ∈ GT := GT_in (tlw (tin_7 (List.mem_of_getElem? (i := 209) rfl))) rfl
theorem w_7_211 : (Jvm.Cond.instanceMethod ({ cls := "OwlsLentModel", name := "lookers", desc := "()I" } : Jvm.MethodName)) ∈ GT := GT_in (tlw (tin_7 (List.mem_of_getElem? (i := 211) rfl))) rfl
theorem w_7_212 : (Jvm.Cond.code ({ cls := "OwlsLentModel", name := "lookers", desc := "()I" } : Jvm.MethodName) prog_14_method_64_code (3 : Nat) (Option.some Jvm.ClassFile.FieldType.int)) ∈ GT := GT_in (tlw (tin_7 (List.mem_of_getElem? (i := 212) rfl))) rfl
theorem w_7_213 : (Jvm.Cond.methodLink "OwlsLentModel" (377 : Nat) ({ cls := "OwlsLentModel", name := "sumOf", desc := "(I)I" } : Jvm.MethodName)) ∈ GT := GT_in (tlw (tin_7 (List.mem_of_getElem? (i := 213) rfl))) rfl
theorem w_7_215 : (Jvm.Cond.instanceMethod ({ cls := "OwlsLentModel", name := "sumOf", desc := "(I)I" } : Jvm.MethodName)) ∈ GT := GT_in (tlw (tin_7 (List.mem_of_getElem? (i := 215) rfl))) rfl
theorem w_7_216 : (Jvm.Cond.code ({ cls := "OwlsLentModel", name := "sumOf", desc := "(I)I" } : Jvm.MethodName) prog_14_method_63_code (4 : Nat) (Option.some Jvm.ClassFile.FieldType.int)) ∈ GT := GT_in (tlw (tin_7 (List.mem_of_getElem? (i := 216) rfl))) rfl
theorem w_7_221 : (Jvm.Cond.methodLink "OwlsLentModel" (383 : Nat) ({ cls := "OwlsLentModel", name := "whyLend", desc := "(II)I" } : Jvm.MethodName)) ∈ GT := GT_in (tlw (tin_7 (List.mem_of_getElem? (i := 221) rfl))) rfl
theorem w_7_223 : (Jvm.Cond.instanceMethod ({ cls := "OwlsLentModel", name := "whyLend", desc := "(II)I" } : Jvm.MethodName)) ∈ GT := GT_in (tlw (tin_7 (List.mem_of_getElem? (i := 223) rfl))) rfl
theorem w_7_224 : (Jvm.Cond.code ({ cls := "OwlsLentModel", name := "whyLend", desc := "(II)I" } : Jvm.MethodName) prog_14_method_66_code (3 : Nat) (Option.some Jvm.ClassFile.FieldType.int)) ∈ GT := GT_in (tlw (tin_7 (List.mem_of_getElem? (i := 224) rfl))) rfl
theorem w_7_225 : (Jvm.Cond.methodLink "OwlsLentModel" (386 : Nat) ({ cls := "OwlsLentModel", name := "keep", desc := "()V" } : Jvm.MethodName)) ∈ GT := GT_in (tlw (tin_7 (List.mem_of_getElem? (i := 225) rfl))) rfl
theorem w_7_227 : (Jvm.Cond.instanceMethod ({ cls := "OwlsLentModel", name := "keep", desc := "()V" } : Jvm.MethodName)) ∈ GT := GT_in (tlw (tin_7 (List.mem_of_getElem? (i := 227) rfl))) rfl
theorem w_7_228 : (Jvm.Cond.code ({ cls := "OwlsLentModel", name := "keep", desc := "()V" } : Jvm.MethodName) prog_14_method_76_code (2 : Nat) (Option.none : Option Jvm.ClassFile.FieldType)) ∈ GT := GT_in (tlw (tin_7 (List.mem_of_getElem? (i := 228) rfl))) rfl
theorem w_7_233 : (Jvm.Cond.methodLink "OwlsLentModel" (389 : Nat) ({ cls := "OwlsLentModel", name := "turns", desc := "(II)I" } : Jvm.MethodName)) ∈ GT := GT_in (tlw (tin_7 (List.mem_of_getElem? (i := 233) rfl))) rfl
theorem w_7_235 : (Jvm.Cond.instanceMethod ({ cls := "OwlsLentModel", name := "turns", desc := "(II)I" } : Jvm.MethodName)) ∈ GT := GT_in (tlw (tin_7 (List.mem_of_getElem? (i := 235) rfl))) rfl
theorem w_7_236 : (Jvm.Cond.code ({ cls := "OwlsLentModel", name := "turns", desc := "(II)I" } : Jvm.MethodName) prog_14_method_71_code (3 : Nat) (Option.some Jvm.ClassFile.FieldType.int)) ∈ GT := GT_in (tlw (tin_7 (List.mem_of_getElem? (i := 236) rfl))) rfl
theorem w_8_5 : (Jvm.Cond.methodLink "OwlsLentModel" (392 : Nat) ({ cls := "OwlsLentModel", name := "isCell", desc := "(II)Z" } : Jvm.MethodName)) ∈ GT := GT_in (tlw (tin_8 (List.mem_of_getElem? (i := 5) rfl))) rfl
theorem w_8_7 : (Jvm.Cond.instanceMethod ({ cls := "OwlsLentModel", name := "isCell", desc := "(II)Z" } : Jvm.MethodName)) ∈ GT := GT_in (tlw (tin_8 (List.mem_of_getElem? (i := 7) rfl))) rfl
theorem w_8_8 : (Jvm.Cond.code ({ cls := "OwlsLentModel", name := "isCell", desc := "(II)Z" } : Jvm.MethodName) prog_14_method_44_code (3 : Nat) (Option.some Jvm.ClassFile.FieldType.boolean)) ∈ GT := GT_in (tlw (tin_8 (List.mem_of_getElem? (i := 8) rfl))) rfl
theorem w_8_9 : (Jvm.Cond.methodLink "OwlsLentModel" (395 : Nat) ({ cls := "OwlsLentModel", name := "cries", desc := "(III)V" } : Jvm.MethodName)) ∈ GT := GT_in (tlw (tin_8 (List.mem_of_getElem? (i := 9) rfl))) rfl
theorem w_8_11 : (Jvm.Cond.instanceMethod ({ cls := "OwlsLentModel", name := "cries", desc := "(III)V" } : Jvm.MethodName)) ∈ GT := GT_in (tlw (tin_8 (List.mem_of_getElem? (i := 11) rfl))) rfl
theorem w_8_12 : (Jvm.Cond.code ({ cls := "OwlsLentModel", name := "cries", desc := "(III)V" } : Jvm.MethodName) prog_14_method_67_code (4 : Nat) (Option.none : Option Jvm.ClassFile.FieldType)) ∈ GT := GT_in (tlw (tin_8 (List.mem_of_getElem? (i := 12) rfl))) rfl
theorem w_8_17 : (Jvm.Cond.methodLink "OwlsLentModel" (399 : Nat) ({ cls := "OwlsLentModel", name := "goesOn", desc := "(I)I" } : Jvm.MethodName)) ∈ GT := GT_in (tlw (tin_8 (List.mem_of_getElem? (i := 17) rfl))) rfl
theorem w_8_19 : (Jvm.Cond.instanceMethod ({ cls := "OwlsLentModel", name := "goesOn", desc := "(I)I" } : Jvm.MethodName)) ∈ GT := GT_in (tlw (tin_8 (List.mem_of_getElem? (i := 19) rfl))) rfl
theorem w_8_20 : (Jvm.Cond.code ({ cls := "OwlsLentModel", name := "goesOn", desc := "(I)I" } : Jvm.MethodName) prog_14_method_69_code (3 : Nat) (Option.some Jvm.ClassFile.FieldType.int)) ∈ GT := GT_in (tlw (tin_8 (List.mem_of_getElem? (i := 20) rfl))) rfl
theorem w_8_21 : (Jvm.Cond.methodLink "OwlsLentModel" (380 : Nat) ({ cls := "OwlsLentModel", name := "hour", desc := "()V" } : Jvm.MethodName)) ∈ GT := GT_in (tlw (tin_8 (List.mem_of_getElem? (i := 21) rfl))) rfl
theorem w_8_23 : (Jvm.Cond.instanceMethod ({ cls := "OwlsLentModel", name := "hour", desc := "()V" } : Jvm.MethodName)) ∈ GT := GT_in (tlw (tin_8 (List.mem_of_getElem? (i := 23) rfl))) rfl
theorem w_8_24 : (Jvm.Cond.code ({ cls := "OwlsLentModel", name := "hour", desc := "()V" } : Jvm.MethodName) prog_14_method_68_code (5 : Nat) (Option.none : Option Jvm.ClassFile.FieldType)) ∈ GT := GT_in (tlw (tin_8 (List.mem_of_getElem? (i := 24) rfl))) rfl
theorem w_8_41 : (Jvm.Cond.methodLink "OwlsLentModel" (402 : Nat) ({ cls := "OwlsLentModel", name := "tries", desc := "()V" } : Jvm.MethodName)) ∈ GT := GT_in (tlw (tin_8 (List.mem_of_getElem? (i := 41) rfl))) rfl
theorem w_8_43 : (Jvm.Cond.instanceMethod ({ cls := "OwlsLentModel", name := "tries", desc := "()V" } : Jvm.MethodName)) ∈ GT := GT_in (tlw (tin_8 (List.mem_of_getElem? (i := 43) rfl))) rfl
theorem w_8_44 : (Jvm.Cond.code ({ cls := "OwlsLentModel", name := "tries", desc := "()V" } : Jvm.MethodName) prog_14_method_78_code (2 : Nat) (Option.none : Option Jvm.ClassFile.FieldType)) ∈ GT := GT_in (tlw (tin_8 (List.mem_of_getElem? (i := 44) rfl))) rfl
theorem w_8_45 : (Jvm.Cond.methodLink "OwlsLentModel" (405 : Nat) ({ cls := "OwlsLentModel", name := "back", desc := "()V" } : Jvm.MethodName)) ∈ GT := GT_in (tlw (tin_8 (List.mem_of_getElem? (i := 45) rfl))) rfl
theorem w_8_47 : (Jvm.Cond.instanceMethod ({ cls := "OwlsLentModel", name := "back", desc := "()V" } : Jvm.MethodName)) ∈ GT := GT_in (tlw (tin_8 (List.mem_of_getElem? (i := 47) rfl))) rfl
theorem w_8_48 : (Jvm.Cond.code ({ cls := "OwlsLentModel", name := "back", desc := "()V" } : Jvm.MethodName) prog_14_method_79_code (2 : Nat) (Option.none : Option Jvm.ClassFile.FieldType)) ∈ GT := GT_in (tlw (tin_8 (List.mem_of_getElem? (i := 48) rfl))) rfl
theorem w_8_57 : (Jvm.Cond.methodLink "OwlsLentModel" (408 : Nat) ({ cls := "OwlsLentModel", name := "octet", desc := "(I)I" } : Jvm.MethodName)) ∈ GT := GT_in (tlw (tin_8 (List.mem_of_getElem? (i := 57) rfl))) rfl
theorem w_8_59 : (Jvm.Cond.instanceMethod ({ cls := "OwlsLentModel", name := "octet", desc := "(I)I" } : Jvm.MethodName)) ∈ GT := GT_in (tlw (tin_8 (List.mem_of_getElem? (i := 59) rfl))) rfl
theorem w_8_60 : (Jvm.Cond.code ({ cls := "OwlsLentModel", name := "octet", desc := "(I)I" } : Jvm.MethodName) prog_14_method_11_code (2 : Nat) (Option.some Jvm.ClassFile.FieldType.int)) ∈ GT := GT_in (tlw (tin_8 (List.mem_of_getElem? (i := 60) rfl))) rfl
theorem w_8_61 : (Jvm.Cond.methodLink "OwlsLentModel" (418 : Nat) ({ cls := "OwlsLentModel", name := "isSpot", desc := "(II)Z" } : Jvm.MethodName)) ∈ GT := GT_in (tlw (tin_8 (List.mem_of_getElem? (i := 61) rfl))) rfl
theorem w_8_63 : (Jvm.Cond.instanceMethod ({ cls := "OwlsLentModel", name := "isSpot", desc := "(II)Z" } : Jvm.MethodName)) ∈ GT := GT_in (tlw (tin_8 (List.mem_of_getElem? (i := 63) rfl))) rfl
theorem w_8_64 : (Jvm.Cond.code ({ cls := "OwlsLentModel", name := "isSpot", desc := "(II)Z" } : Jvm.MethodName) prog_14_method_85_code (5 : Nat) (Option.some Jvm.ClassFile.FieldType.boolean)) ∈ GT := GT_in (tlw (tin_8 (List.mem_of_getElem? (i := 64) rfl))) rfl
theorem w_8_65 : (Jvm.Cond.methodLink "OwlsLentModel" (411 : Nat) ({ cls := "OwlsLentModel", name := "lookAlone", desc := "(IIII)I" } : Jvm.MethodName)) ∈ GT := GT_in (tlw (tin_8 (List.mem_of_getElem? (i := 65) rfl))) rfl
theorem w_8_67 : (Jvm.Cond.instanceMethod ({ cls := "OwlsLentModel", name := "lookAlone", desc := "(IIII)I" } : Jvm.MethodName)) ∈ GT := GT_in (tlw (tin_8 (List.mem_of_getElem? (i := 67) rfl))) rfl
theorem w_8_68 : (Jvm.Cond.code ({ cls := "OwlsLentModel", name := "lookAlone", desc := "(IIII)I" } : Jvm.MethodName) prog_14_method_84_code (5 : Nat) (Option.some Jvm.ClassFile.FieldType.int)) ∈ GT := GT_in (tlw (tin_8 (List.mem_of_getElem? (i := 68) rfl))) rfl
theorem w_8_69 : (Jvm.Cond.methodLink "OwlsLentModel" (421 : Nat) ({ cls := "OwlsLentModel", name := "leftBy", desc := "(I)I" } : Jvm.MethodName)) ∈ GT := GT_in (tlw (tin_8 (List.mem_of_getElem? (i := 69) rfl))) rfl
theorem w_8_71 : (Jvm.Cond.instanceMethod ({ cls := "OwlsLentModel", name := "leftBy", desc := "(I)I" } : Jvm.MethodName)) ∈ GT := GT_in (tlw (tin_8 (List.mem_of_getElem? (i := 71) rfl))) rfl
theorem w_8_72 : (Jvm.Cond.code ({ cls := "OwlsLentModel", name := "leftBy", desc := "(I)I" } : Jvm.MethodName) prog_14_method_86_code (6 : Nat) (Option.some Jvm.ClassFile.FieldType.int)) ∈ GT := GT_in (tlw (tin_8 (List.mem_of_getElem? (i := 72) rfl))) rfl
theorem w_8_73 : (Jvm.Cond.methodLink "OwlsLentModel" (415 : Nat) ({ cls := "OwlsLentModel", name := "greater", desc := "(II)I" } : Jvm.MethodName)) ∈ GT := GT_in (tlw (tin_8 (List.mem_of_getElem? (i := 73) rfl))) rfl
theorem w_8_74 : (Jvm.Cond.static ({ cls := "OwlsLentModel", name := "greater", desc := "(II)I" } : Jvm.MethodName)) ∈ GT := GT_in (tlw (tin_8 (List.mem_of_getElem? (i := 74) rfl))) rfl
theorem w_8_75 : (Jvm.Cond.code ({ cls := "OwlsLentModel", name := "greater", desc := "(II)I" } : Jvm.MethodName) prog_14_method_9_code (2 : Nat) (Option.some Jvm.ClassFile.FieldType.int)) ∈ GT := GT_in (tlw (tin_8 (List.mem_of_getElem? (i := 75) rfl))) rfl
theorem w_8_88 : (Jvm.Cond.methodLink "OwlsLentModel" (424 : Nat) ({ cls := "OwlsLentModel", name := "isKeen", desc := "(I)Z" } : Jvm.MethodName)) ∈ GT := GT_in (tlw (tin_8 (List.mem_of_getElem? (i := 88) rfl))) rfl
theorem w_8_90 : (Jvm.Cond.instanceMethod ({ cls := "OwlsLentModel", name := "isKeen", desc := "(I)Z" } : Jvm.MethodName)) ∈ GT := GT_in (tlw (tin_8 (List.mem_of_getElem? (i := 90) rfl))) rfl
theorem w_8_91 : (Jvm.Cond.code ({ cls := "OwlsLentModel", name := "isKeen", desc := "(I)Z" } : Jvm.MethodName) prog_14_method_90_code (4 : Nat) (Option.some Jvm.ClassFile.FieldType.boolean)) ∈ GT := GT_in (tlw (tin_8 (List.mem_of_getElem? (i := 91) rfl))) rfl
theorem w_8_104 : (Jvm.Cond.methodLink "OwlsLentModel" (436 : Nat) ({ cls := "OwlsLentModel", name := "laysWorths", desc := "()V" } : Jvm.MethodName)) ∈ GT := GT_in (tlw (tin_8 (List.mem_of_getElem? (i := 104) rfl))) rfl
theorem w_8_106 : (Jvm.Cond.instanceMethod ({ cls := "OwlsLentModel", name := "laysWorths", desc := "()V" } : Jvm.MethodName)) ∈ GT := GT_in (tlw (tin_8 (List.mem_of_getElem? (i := 106) rfl))) rfl
theorem w_8_107 : (Jvm.Cond.code ({ cls := "OwlsLentModel", name := "laysWorths", desc := "()V" } : Jvm.MethodName) prog_14_method_94_code (5 : Nat) (Option.none : Option Jvm.ClassFile.FieldType)) ∈ GT := GT_in (tlw (tin_8 (List.mem_of_getElem? (i := 107) rfl))) rfl
theorem w_8_108 : (Jvm.Cond.constant "OwlsLentModel" (439 : Nat) (-1000000 : Int32)) ∈ GT := GT_in (tlw (tin_8 (List.mem_of_getElem? (i := 108) rfl))) rfl
theorem w_8_109 : (Jvm.Cond.methodLink "OwlsLentModel" (440 : Nat) ({ cls := "OwlsLentModel", name := "restBy", desc := "(III)I" } : Jvm.MethodName)) ∈ GT := GT_in (tlw (tin_8 (List.mem_of_getElem? (i := 109) rfl))) rfl
theorem w_8_111 : (Jvm.Cond.instanceMethod ({ cls := "OwlsLentModel", name := "restBy", desc := "(III)I" } : Jvm.MethodName)) ∈ GT := GT_in (tlw (tin_8 (List.mem_of_getElem? (i := 111) rfl))) rfl
theorem w_8_112 : (Jvm.Cond.code ({ cls := "OwlsLentModel", name := "restBy", desc := "(III)I" } : Jvm.MethodName) prog_14_method_95_code (4 : Nat) (Option.some Jvm.ClassFile.FieldType.int)) ∈ GT := GT_in (tlw (tin_8 (List.mem_of_getElem? (i := 112) rfl))) rfl
theorem w_8_121 : (Jvm.Cond.methodLink "OwlsLentModel" (443 : Nat) ({ cls := "OwlsLentModel", name := "soundFor", desc := "(II)I" } : Jvm.MethodName)) ∈ GT := GT_in (tlw (tin_8 (List.mem_of_getElem? (i := 121) rfl))) rfl
theorem w_8_123 : (Jvm.Cond.instanceMethod ({ cls := "OwlsLentModel", name := "soundFor", desc := "(II)I" } : Jvm.MethodName)) ∈ GT := GT_in (tlw (tin_8 (List.mem_of_getElem? (i := 123) rfl))) rfl
theorem w_8_124 : (Jvm.Cond.code ({ cls := "OwlsLentModel", name := "soundFor", desc := "(II)I" } : Jvm.MethodName) prog_14_method_98_code (5 : Nat) (Option.some Jvm.ClassFile.FieldType.int)) ∈ GT := GT_in (tlw (tin_8 (List.mem_of_getElem? (i := 124) rfl))) rfl
theorem w_8_133 : (Jvm.Cond.methodLink "OwlsLentModel" (446 : Nat) ({ cls := "OwlsLentModel", name := "laysEnds", desc := "(II)V" } : Jvm.MethodName)) ∈ GT := GT_in (tlw (tin_8 (List.mem_of_getElem? (i := 133) rfl))) rfl
theorem w_8_135 : (Jvm.Cond.instanceMethod ({ cls := "OwlsLentModel", name := "laysEnds", desc := "(II)V" } : Jvm.MethodName)) ∈ GT := GT_in (tlw (tin_8 (List.mem_of_getElem? (i := 135) rfl))) rfl
theorem w_8_136 : (Jvm.Cond.code ({ cls := "OwlsLentModel", name := "laysEnds", desc := "(II)V" } : Jvm.MethodName) prog_14_method_101_code (4 : Nat) (Option.none : Option Jvm.ClassFile.FieldType)) ∈ GT := GT_in (tlw (tin_8 (List.mem_of_getElem? (i := 136) rfl))) rfl
theorem w_8_137 : (Jvm.Cond.methodLink "OwlsLentModel" (450 : Nat) ({ cls := "OwlsLentModel", name := "laysMove", desc := "(Z)V" } : Jvm.MethodName)) ∈ GT := GT_in (tlw (tin_8 (List.mem_of_getElem? (i := 137) rfl))) rfl
theorem w_8_139 : (Jvm.Cond.instanceMethod ({ cls := "OwlsLentModel", name := "laysMove", desc := "(Z)V" } : Jvm.MethodName)) ∈ GT := GT_in (tlw (tin_8 (List.mem_of_getElem? (i := 139) rfl))) rfl
theorem w_8_140 : (Jvm.Cond.code ({ cls := "OwlsLentModel", name := "laysMove", desc := "(Z)V" } : Jvm.MethodName) prog_14_method_102_code (5 : Nat) (Option.none : Option Jvm.ClassFile.FieldType)) ∈ GT := GT_in (tlw (tin_8 (List.mem_of_getElem? (i := 140) rfl))) rfl
theorem w_8_153 : (Jvm.Cond.methodLink "OwlsLentModel" (468 : Nat) ({ cls := "OwlsLentModel", name := "spells", desc := "(J)V" } : Jvm.MethodName)) ∈ GT := GT_in (tlw (tin_8 (List.mem_of_getElem? (i := 153) rfl))) rfl
theorem w_8_155 : (Jvm.Cond.instanceMethod ({ cls := "OwlsLentModel", name := "spells", desc := "(J)V" } : Jvm.MethodName)) ∈ GT := GT_in (tlw (tin_8 (List.mem_of_getElem? (i := 155) rfl))) rfl
theorem w_8_156 : (Jvm.Cond.code ({ cls := "OwlsLentModel", name := "spells", desc := "(J)V" } : Jvm.MethodName) prog_14_method_107_code (4 : Nat) (Option.none : Option Jvm.ClassFile.FieldType)) ∈ GT := GT_in (tlw (tin_8 (List.mem_of_getElem? (i := 156) rfl))) rfl
theorem w_8_157 : (Jvm.Cond.constantLong "OwlsLentModel" (463 : Nat) (255 : Int64)) ∈ GT := GT_in (tlw (tin_8 (List.mem_of_getElem? (i := 157) rfl))) rfl
theorem w_8_158 : (Jvm.Cond.methodLink "OwlsLentModel" (465 : Nat) ({ cls := "OwlsLentModel", name := "lays", desc := "(I)V" } : Jvm.MethodName)) ∈ GT := GT_in (tlw (tin_8 (List.mem_of_getElem? (i := 158) rfl))) rfl
theorem w_8_160 : (Jvm.Cond.instanceMethod ({ cls := "OwlsLentModel", name := "lays", desc := "(I)V" } : Jvm.MethodName)) ∈ GT := GT_in (tlw (tin_8 (List.mem_of_getElem? (i := 160) rfl))) rfl
theorem w_8_161 : (Jvm.Cond.code ({ cls := "OwlsLentModel", name := "lays", desc := "(I)V" } : Jvm.MethodName) prog_14_method_106_code (2 : Nat) (Option.none : Option Jvm.ClassFile.FieldType)) ∈ GT := GT_in (tlw (tin_8 (List.mem_of_getElem? (i := 161) rfl))) rfl
theorem w_8_162 : (Jvm.Cond.constantLong "OwlsLentModel" (472 : Nat) (418431069797 : Int64)) ∈ GT := GT_in (tlw (tin_8 (List.mem_of_getElem? (i := 162) rfl))) rfl
theorem w_8_163 : (Jvm.Cond.methodLink "OwlsLentModel" (474 : Nat) ({ cls := "OwlsLentModel", name := "says", desc := "(J)V" } : Jvm.MethodName)) ∈ GT := GT_in (tlw (tin_8 (List.mem_of_getElem? (i := 163) rfl))) rfl
theorem w_8_165 : (Jvm.Cond.instanceMethod ({ cls := "OwlsLentModel", name := "says", desc := "(J)V" } : Jvm.MethodName)) ∈ GT := GT_in (tlw (tin_8 (List.mem_of_getElem? (i := 165) rfl))) rfl
theorem w_8_166 : (Jvm.Cond.code ({ cls := "OwlsLentModel", name := "says", desc := "(J)V" } : Jvm.MethodName) prog_14_method_108_code (3 : Nat) (Option.none : Option Jvm.ClassFile.FieldType)) ∈ GT := GT_in (tlw (tin_8 (List.mem_of_getElem? (i := 166) rfl))) rfl
theorem w_8_167 : (Jvm.Cond.constantLong "OwlsLentModel" (477 : Nat) (126909394808947 : Int64)) ∈ GT := GT_in (tlw (tin_8 (List.mem_of_getElem? (i := 167) rfl))) rfl
theorem w_8_168 : (Jvm.Cond.constantLong "OwlsLentModel" (479 : Nat) (1751478885 : Int64)) ∈ GT := GT_in (tlw (tin_8 (List.mem_of_getElem? (i := 168) rfl))) rfl
theorem w_8_177 : (Jvm.Cond.methodLink "OwlsLentModel" (488 : Nat) ({ cls := "OwlsLentModel", name := "draws", desc := "(II)I" } : Jvm.MethodName)) ∈ GT := GT_in (tlw (tin_8 (List.mem_of_getElem? (i := 177) rfl))) rfl
theorem w_8_179 : (Jvm.Cond.instanceMethod ({ cls := "OwlsLentModel", name := "draws", desc := "(II)I" } : Jvm.MethodName)) ∈ GT := GT_in (tlw (tin_8 (List.mem_of_getElem? (i := 179) rfl))) rfl
theorem w_8_180 : (Jvm.Cond.code ({ cls := "OwlsLentModel", name := "draws", desc := "(II)I" } : Jvm.MethodName) prog_14_method_112_code (6 : Nat) (Option.some Jvm.ClassFile.FieldType.int)) ∈ GT := GT_in (tlw (tin_8 (List.mem_of_getElem? (i := 180) rfl))) rfl
theorem w_8_181 : (Jvm.Cond.methodLink "OwlsLentModel" (485 : Nat) ({ cls := "OwlsLentModel", name := "draw", desc := "(I)I" } : Jvm.MethodName)) ∈ GT := GT_in (tlw (tin_8 (List.mem_of_getElem? (i := 181) rfl))) rfl
theorem w_8_183 : (Jvm.Cond.instanceMethod ({ cls := "OwlsLentModel", name := "draw", desc := "(I)I" } : Jvm.MethodName)) ∈ GT := GT_in (tlw (tin_8 (List.mem_of_getElem? (i := 183) rfl))) rfl
theorem w_8_184 : (Jvm.Cond.code ({ cls := "OwlsLentModel", name := "draw", desc := "(I)I" } : Jvm.MethodName) prog_14_method_111_code (2 : Nat) (Option.some Jvm.ClassFile.FieldType.int)) ∈ GT := GT_in (tlw (tin_8 (List.mem_of_getElem? (i := 184) rfl))) rfl
theorem w_8_185 : (Jvm.Cond.constant "OwlsLentModel" (484 : Nat) (1103515245 : Int32)) ∈ GT := GT_in (tlw (tin_8 (List.mem_of_getElem? (i := 185) rfl))) rfl
theorem w_8_194 : (Jvm.Cond.methodLink "OwlsLentModel" (494 : Nat) ({ cls := "OwlsLentModel", name := "bookLine", desc := "()Z" } : Jvm.MethodName)) ∈ GT := GT_in (tlw (tin_8 (List.mem_of_getElem? (i := 194) rfl))) rfl
theorem w_8_196 : (Jvm.Cond.instanceMethod ({ cls := "OwlsLentModel", name := "bookLine", desc := "()Z" } : Jvm.MethodName)) ∈ GT := GT_in (tlw (tin_8 (List.mem_of_getElem? (i := 196) rfl))) rfl
theorem w_8_197 : (Jvm.Cond.code ({ cls := "OwlsLentModel", name := "bookLine", desc := "()Z" } : Jvm.MethodName) prog_14_method_115_code (4 : Nat) (Option.some Jvm.ClassFile.FieldType.boolean)) ∈ GT := GT_in (tlw (tin_8 (List.mem_of_getElem? (i := 197) rfl))) rfl
theorem w_8_198 : (Jvm.Cond.methodLink "OwlsLentModel" (497 : Nat) ({ cls := "OwlsLentModel", name := "does", desc := "(IIII)I" } : Jvm.MethodName)) ∈ GT := GT_in (tlw (tin_8 (List.mem_of_getElem? (i := 198) rfl))) rfl
theorem w_8_200 : (Jvm.Cond.instanceMethod ({ cls := "OwlsLentModel", name := "does", desc := "(IIII)I" } : Jvm.MethodName)) ∈ GT := GT_in (tlw (tin_8 (List.mem_of_getElem? (i := 200) rfl))) rfl
theorem w_8_201 : (Jvm.Cond.code ({ cls := "OwlsLentModel", name := "does", desc := "(IIII)I" } : Jvm.MethodName) prog_14_method_116_code (6 : Nat) (Option.some Jvm.ClassFile.FieldType.int)) ∈ GT := GT_in (tlw (tin_8 (List.mem_of_getElem? (i := 201) rfl))) rfl
theorem w_8_210 : (Jvm.Cond.methodLink "OwlsLentModel" (524 : Nat) ({ cls := "OwlsLentModel", name := "nots", desc := "()V" } : Jvm.MethodName)) ∈ GT := GT_in (tlw (tin_8 (List.mem_of_getElem? (i := 210) rfl))) rfl
theorem w_8_212 : (Jvm.Cond.instanceMethod ({ cls := "OwlsLentModel", name := "nots", desc := "()V" } : Jvm.MethodName)) ∈ GT := GT_in (tlw (tin_8 (List.mem_of_getElem? (i := 212) rfl))) rfl
theorem w_8_213 : (Jvm.Cond.code ({ cls := "OwlsLentModel", name := "nots", desc := "()V" } : Jvm.MethodName) prog_14_method_121_code (1 : Nat) (Option.none : Option Jvm.ClassFile.FieldType)) ∈ GT := GT_in (tlw (tin_8 (List.mem_of_getElem? (i := 213) rfl))) rfl
theorem w_8_214 : (Jvm.Cond.methodLink "OwlsLentModel" (509 : Nat) ({ cls := "OwlsLentModel", name := "putCode", desc := "(III)V" } : Jvm.MethodName)) ∈ GT := GT_in (tlw (tin_8 (List.mem_of_getElem? (i := 214) rfl))) rfl
theorem w_8_216 : (Jvm.Cond.instanceMethod ({ cls := "OwlsLentModel", name := "putCode", desc := "(III)V" } : Jvm.MethodName)) ∈ GT := GT_in (tlw (tin_8 (List.mem_of_getElem? (i := 216) rfl))) rfl
theorem w_8_217 : (Jvm.Cond.code ({ cls := "OwlsLentModel", name := "putCode", desc := "(III)V" } : Jvm.MethodName) prog_14_method_119_code (4 : Nat) (Option.none : Option Jvm.ClassFile.FieldType)) ∈ GT := GT_in (tlw (tin_8 (List.mem_of_getElem? (i := 217) rfl))) rfl
theorem w_8_218 : (Jvm.Cond.methodLink "OwlsLentModel" (527 : Nat) ({ cls := "OwlsLentModel", name := "joins", desc := "(I)V" } : Jvm.MethodName)) ∈ GT := GT_in (tlw (tin_8 (List.mem_of_getElem? (i := 218) rfl))) rfl
theorem w_8_220 : (Jvm.Cond.instanceMethod ({ cls := "OwlsLentModel", name := "joins", desc := "(I)V" } : Jvm.MethodName)) ∈ GT := GT_in (tlw (tin_8 (List.mem_of_getElem? (i := 220) rfl))) rfl
theorem w_8_221 : (Jvm.Cond.code ({ cls := "OwlsLentModel", name := "joins", desc := "(I)V" } : Jvm.MethodName) prog_14_method_120_code (2 : Nat) (Option.none : Option Jvm.ClassFile.FieldType)) ∈ GT := GT_in (tlw (tin_8 (List.mem_of_getElem? (i := 221) rfl))) rfl
theorem w_8_222 : (Jvm.Cond.methodLink "OwlsLentModel" (530 : Nat) ({ cls := "OwlsLentModel", name := "behind", desc := "()Z" } : Jvm.MethodName)) ∈ GT := GT_in (tlw (tin_8 (List.mem_of_getElem? (i := 222) rfl))) rfl
theorem w_8_224 : (Jvm.Cond.instanceMethod ({ cls := "OwlsLentModel", name := "behind", desc := "()Z" } : Jvm.MethodName)) ∈ GT := GT_in (tlw (tin_8 (List.mem_of_getElem? (i := 224) rfl))) rfl
theorem w_8_225 : (Jvm.Cond.code ({ cls := "OwlsLentModel", name := "behind", desc := "()Z" } : Jvm.MethodName) prog_14_method_124_code (1 : Nat) (Option.some Jvm.ClassFile.FieldType.boolean)) ∈ GT := GT_in (tlw (tin_8 (List.mem_of_getElem? (i := 225) rfl))) rfl
theorem w_8_226 : (Jvm.Cond.methodLink "OwlsLentModel" (533 : Nat) ({ cls := "OwlsLentModel", name := "operand", desc := "()Z" } : Jvm.MethodName)) ∈ GT := GT_in (tlw (tin_8 (List.mem_of_getElem? (i := 226) rfl))) rfl
theorem w_8_228 : (Jvm.Cond.instanceMethod ({ cls := "OwlsLentModel", name := "operand", desc := "()Z" } : Jvm.MethodName)) ∈ GT := GT_in (tlw (tin_8 (List.mem_of_getElem? (i := 228) rfl))) rfl
theorem w_8_229 : (Jvm.Cond.code ({ cls := "OwlsLentModel", name := "operand", desc := "()Z" } : Jvm.MethodName) prog_14_method_123_code (5 : Nat) (Option.some Jvm.ClassFile.FieldType.boolean)) ∈ GT := GT_in (tlw (tin_8 (List.mem_of_getElem? (i := 229) rfl))) rfl
theorem w_8_230 : (Jvm.Cond.methodLink "OwlsLentModel" (515 : Nat) ({ cls := "OwlsLentModel", name := "leafOf", desc := "()I" } : Jvm.MethodName)) ∈ GT := GT_in (tlw (tin_8 (List.mem_of_getElem? (i := 230) rfl))) rfl
theorem w_8_232 : (Jvm.Cond.instanceMethod ({ cls := "OwlsLentModel", name := "leafOf", desc := "()I" } : Jvm.MethodName)) ∈ GT := GT_in (tlw (tin_8 (List.mem_of_getElem? (i := 232) rfl))) rfl
theorem w_8_233 : (Jvm.Cond.code ({ cls := "OwlsLentModel", name := "leafOf", desc := "()I" } : Jvm.MethodName) prog_14_method_122_code (1 : Nat) (Option.some Jvm.ClassFile.FieldType.int)) ∈ GT := GT_in (tlw (tin_8 (List.mem_of_getElem? (i := 233) rfl))) rfl
theorem w_8_238 : (Jvm.Cond.methodLink "OwlsLentModel" (540 : Nat) ({ cls := "OwlsLentModel", name := "isSaid", desc := "(I)Z" } : Jvm.MethodName)) ∈ GT := GT_in (tlw (tin_8 (List.mem_of_getElem? (i := 238) rfl))) rfl
theorem w_9_0 : (Jvm.Cond.instanceMethod ({ cls := "OwlsLentModel", name := "isSaid", desc := "(I)Z" } : Jvm.MethodName)) ∈ GT := GT_in (tlw (tin_9 (List.mem_of_getElem? (i := 0) rfl))) rfl
theorem w_9_1 : (Jvm.Cond.code ({ cls := "OwlsLentModel", name := "isSaid", desc := "(I)Z" } : Jvm.MethodName) prog_14_method_127_code (5 : Nat) (Option.some Jvm.ClassFile.FieldType.boolean)) ∈ GT := GT_in (tlw (tin_9 (List.mem_of_getElem? (i := 1) rfl))) rfl
theorem w_9_2 : (Jvm.Cond.methodLink "OwlsLentModel" (536 : Nat) ({ cls := "OwlsLentModel", name := "isLeaf", desc := "(IIII)Z" } : Jvm.MethodName)) ∈ GT := GT_in (tlw (tin_9 (List.mem_of_getElem? (i := 2) rfl))) rfl
theorem w_9_4 : (Jvm.Cond.instanceMethod ({ cls := "OwlsLentModel", name := "isLeaf", desc := "(IIII)Z" } : Jvm.MethodName)) ∈ GT := GT_in (tlw (tin_9 (List.mem_of_getElem? (i := 4) rfl))) rfl
theorem w_9_5 : (Jvm.Cond.code ({ cls := "OwlsLentModel", name := "isLeaf", desc := "(IIII)Z" } : Jvm.MethodName) prog_14_method_126_code (8 : Nat) (Option.some Jvm.ClassFile.FieldType.boolean)) ∈ GT := GT_in (tlw (tin_9 (List.mem_of_getElem? (i := 5) rfl))) rfl
theorem nw_1_43 : (Jvm.Cond.fieldLinkNest "OwlsLent" (113 : Nat) "OwlsLent$Tape" "length" "I" "OwlsLent") ∈ NT := List.mem_filter.mpr ⟨tin_1 (List.mem_of_getElem? (i := 43) rfl), rfl⟩
theorem nw_1_44 : (Jvm.Cond.fieldLinkNest "OwlsLent$Spots" (63 : Nat) "OwlsLent$Tape" "length" "I" "OwlsLent") ∈ NT := List.mem_filter.mpr ⟨tin_1 (List.mem_of_getElem? (i := 44) rfl), rfl⟩
theorem nw_1_45 : (Jvm.Cond.fieldLinkNest "OwlsLent$Tokens" (68 : Nat) "OwlsLent$Tape" "length" "I" "OwlsLent") ∈ NT := List.mem_filter.mpr ⟨tin_1 (List.mem_of_getElem? (i := 45) rfl), rfl⟩
theorem nw_1_114 : (Jvm.Cond.fieldLinkNest "OwlsLent$HouseReader" (16 : Nat) "OwlsLent$Tokens" "kind" "I" "OwlsLent") ∈ NT := List.mem_filter.mpr ⟨tin_1 (List.mem_of_getElem? (i := 114) rfl), rfl⟩
theorem nw_1_115 : (Jvm.Cond.fieldLinkNest "OwlsLent$Book" (36 : Nat) "OwlsLent$Tokens" "kind" "I" "OwlsLent") ∈ NT := List.mem_filter.mpr ⟨tin_1 (List.mem_of_getElem? (i := 115) rfl), rfl⟩
theorem nw_1_116 : (Jvm.Cond.fieldLinkNest "OwlsLent$Sentence" (46 : Nat) "OwlsLent$Tokens" "kind" "I" "OwlsLent") ∈ NT := List.mem_filter.mpr ⟨tin_1 (List.mem_of_getElem? (i := 116) rfl), rfl⟩
theorem nw_1_120 : (Jvm.Cond.fieldLinkNest "OwlsLent$Sentence" (98 : Nat) "OwlsLent$Tokens" "value" "I" "OwlsLent") ∈ NT := List.mem_filter.mpr ⟨tin_1 (List.mem_of_getElem? (i := 120) rfl), rfl⟩
theorem nw_1_122 : (Jvm.Cond.fieldLinkNest "OwlsLent$HouseReader" (22 : Nat) "OwlsLent$Tokens" "word" "I" "OwlsLent") ∈ NT := List.mem_filter.mpr ⟨tin_1 (List.mem_of_getElem? (i := 122) rfl), rfl⟩
theorem nw_1_123 : (Jvm.Cond.fieldLinkNest "OwlsLent$Book" (41 : Nat) "OwlsLent$Tokens" "word" "I" "OwlsLent") ∈ NT := List.mem_filter.mpr ⟨tin_1 (List.mem_of_getElem? (i := 123) rfl), rfl⟩
theorem nw_1_124 : (Jvm.Cond.fieldLinkNest "OwlsLent$Sentence" (58 : Nat) "OwlsLent$Tokens" "word" "I" "OwlsLent") ∈ NT := List.mem_filter.mpr ⟨tin_1 (List.mem_of_getElem? (i := 124) rfl), rfl⟩
theorem nw_1_127 : (Jvm.Cond.fieldLinkNest "OwlsLent" (141 : Nat) "OwlsLent$Tokens" "fault" "I" "OwlsLent") ∈ NT := List.mem_filter.mpr ⟨tin_1 (List.mem_of_getElem? (i := 127) rfl), rfl⟩
theorem nw_1_129 : (Jvm.Cond.fieldLinkNest "OwlsLent" (131 : Nat) "OwlsLent$Tokens" "faultPlace" "I" "OwlsLent") ∈ NT := List.mem_filter.mpr ⟨tin_1 (List.mem_of_getElem? (i := 129) rfl), rfl⟩
theorem nw_1_172 : (Jvm.Cond.fieldLinkNest "OwlsLent$Spots" (46 : Nat) "OwlsLent$House" "wide" "I" "OwlsLent") ∈ NT := List.mem_filter.mpr ⟨tin_1 (List.mem_of_getElem? (i := 172) rfl), rfl⟩
theorem nw_1_173 : (Jvm.Cond.fieldLinkNest "OwlsLent$HouseReader" (75 : Nat) "OwlsLent$House" "wide" "I" "OwlsLent") ∈ NT := List.mem_filter.mpr ⟨tin_1 (List.mem_of_getElem? (i := 173) rfl), rfl⟩
theorem nw_1_174 : (Jvm.Cond.fieldLinkNest "OwlsLent" (232 : Nat) "OwlsLent$House" "wide" "I" "OwlsLent") ∈ NT := List.mem_filter.mpr ⟨tin_1 (List.mem_of_getElem? (i := 174) rfl), rfl⟩
theorem nw_1_175 : (Jvm.Cond.fieldLinkNest "OwlsLent$State" (114 : Nat) "OwlsLent$House" "wide" "I" "OwlsLent") ∈ NT := List.mem_filter.mpr ⟨tin_1 (List.mem_of_getElem? (i := 175) rfl), rfl⟩
theorem nw_1_177 : (Jvm.Cond.fieldLinkNest "OwlsLent$Spots" (41 : Nat) "OwlsLent$House" "high" "I" "OwlsLent") ∈ NT := List.mem_filter.mpr ⟨tin_1 (List.mem_of_getElem? (i := 177) rfl), rfl⟩
theorem nw_1_178 : (Jvm.Cond.fieldLinkNest "OwlsLent$HouseReader" (78 : Nat) "OwlsLent$House" "high" "I" "OwlsLent") ∈ NT := List.mem_filter.mpr ⟨tin_1 (List.mem_of_getElem? (i := 178) rfl), rfl⟩
theorem nw_1_179 : (Jvm.Cond.fieldLinkNest "OwlsLent" (235 : Nat) "OwlsLent$House" "high" "I" "OwlsLent") ∈ NT := List.mem_filter.mpr ⟨tin_1 (List.mem_of_getElem? (i := 179) rfl), rfl⟩
theorem nw_1_180 : (Jvm.Cond.fieldLinkNest "OwlsLent$State" (117 : Nat) "OwlsLent$House" "high" "I" "OwlsLent") ∈ NT := List.mem_filter.mpr ⟨tin_1 (List.mem_of_getElem? (i := 180) rfl), rfl⟩
theorem nw_1_182 : (Jvm.Cond.fieldLinkNest "OwlsLent$HouseReader" (130 : Nat) "OwlsLent$House" "shutFrom" "I" "OwlsLent") ∈ NT := List.mem_filter.mpr ⟨tin_1 (List.mem_of_getElem? (i := 182) rfl), rfl⟩
theorem nw_1_184 : (Jvm.Cond.fieldLinkNest "OwlsLent$HouseReader" (133 : Nat) "OwlsLent$House" "shutTill" "I" "OwlsLent") ∈ NT := List.mem_filter.mpr ⟨tin_1 (List.mem_of_getElem? (i := 184) rfl), rfl⟩
theorem nw_1_186 : (Jvm.Cond.fieldLinkNest "OwlsLent$HouseReader" (58 : Nat) "OwlsLent$House" "sized" "Z" "OwlsLent") ∈ NT := List.mem_filter.mpr ⟨tin_1 (List.mem_of_getElem? (i := 186) rfl), rfl⟩
theorem nw_1_188 : (Jvm.Cond.fieldLinkNest "OwlsLent$HouseReader" (127 : Nat) "OwlsLent$House" "shutTold" "Z" "OwlsLent") ∈ NT := List.mem_filter.mpr ⟨tin_1 (List.mem_of_getElem? (i := 188) rfl), rfl⟩
theorem nw_1_190 : (Jvm.Cond.fieldLinkNest "OwlsLent$Best" (33 : Nat) "OwlsLent$House" "beds" "I" "OwlsLent") ∈ NT := List.mem_filter.mpr ⟨tin_1 (List.mem_of_getElem? (i := 190) rfl), rfl⟩
theorem nw_1_191 : (Jvm.Cond.fieldLinkNest "OwlsLent$HouseReader" (62 : Nat) "OwlsLent$House" "beds" "I" "OwlsLent") ∈ NT := List.mem_filter.mpr ⟨tin_1 (List.mem_of_getElem? (i := 191) rfl), rfl⟩
theorem nw_1_192 : (Jvm.Cond.fieldLinkNest "OwlsLent$Book" (75 : Nat) "OwlsLent$House" "beds" "I" "OwlsLent") ∈ NT := List.mem_filter.mpr ⟨tin_1 (List.mem_of_getElem? (i := 192) rfl), rfl⟩
theorem nw_1_193 : (Jvm.Cond.fieldLinkNest "OwlsLent" (216 : Nat) "OwlsLent$House" "beds" "I" "OwlsLent") ∈ NT := List.mem_filter.mpr ⟨tin_1 (List.mem_of_getElem? (i := 193) rfl), rfl⟩
theorem nw_1_194 : (Jvm.Cond.fieldLinkNest "OwlsLent$State" (103 : Nat) "OwlsLent$House" "beds" "I" "OwlsLent") ∈ NT := List.mem_filter.mpr ⟨tin_1 (List.mem_of_getElem? (i := 194) rfl), rfl⟩
theorem nw_1_196 : (Jvm.Cond.fieldLinkNest "OwlsLent$Best" (30 : Nat) "OwlsLent$House" "owls" "I" "OwlsLent") ∈ NT := List.mem_filter.mpr ⟨tin_1 (List.mem_of_getElem? (i := 196) rfl), rfl⟩
theorem nw_1_197 : (Jvm.Cond.fieldLinkNest "OwlsLent$State" (34 : Nat) "OwlsLent$House" "owls" "I" "OwlsLent") ∈ NT := List.mem_filter.mpr ⟨tin_1 (List.mem_of_getElem? (i := 197) rfl), rfl⟩
theorem nw_1_198 : (Jvm.Cond.fieldLinkNest "OwlsLent$Book" (65 : Nat) "OwlsLent$House" "owls" "I" "OwlsLent") ∈ NT := List.mem_filter.mpr ⟨tin_1 (List.mem_of_getElem? (i := 198) rfl), rfl⟩
theorem nw_1_199 : (Jvm.Cond.fieldLinkNest "OwlsLent$HouseReader" (102 : Nat) "OwlsLent$House" "owls" "I" "OwlsLent") ∈ NT := List.mem_filter.mpr ⟨tin_1 (List.mem_of_getElem? (i := 199) rfl), rfl⟩
theorem nw_1_200 : (Jvm.Cond.fieldLinkNest "OwlsLent$Spots" (79 : Nat) "OwlsLent$House" "owls" "I" "OwlsLent") ∈ NT := List.mem_filter.mpr ⟨tin_1 (List.mem_of_getElem? (i := 200) rfl), rfl⟩
theorem nw_1_201 : (Jvm.Cond.fieldLinkNest "OwlsLent$Sentence" (91 : Nat) "OwlsLent$House" "owls" "I" "OwlsLent") ∈ NT := List.mem_filter.mpr ⟨tin_1 (List.mem_of_getElem? (i := 201) rfl), rfl⟩
theorem nw_1_202 : (Jvm.Cond.fieldLinkNest "OwlsLent" (226 : Nat) "OwlsLent$House" "owls" "I" "OwlsLent") ∈ NT := List.mem_filter.mpr ⟨tin_1 (List.mem_of_getElem? (i := 202) rfl), rfl⟩
theorem nw_1_204 : (Jvm.Cond.fieldLinkNest "OwlsLent$Best" (57 : Nat) "OwlsLent$House" "sounds" "I" "OwlsLent") ∈ NT := List.mem_filter.mpr ⟨tin_1 (List.mem_of_getElem? (i := 204) rfl), rfl⟩
theorem nw_1_205 : (Jvm.Cond.fieldLinkNest "OwlsLent$HouseReader" (65 : Nat) "OwlsLent$House" "sounds" "I" "OwlsLent") ∈ NT := List.mem_filter.mpr ⟨tin_1 (List.mem_of_getElem? (i := 205) rfl), rfl⟩
theorem nw_1_206 : (Jvm.Cond.fieldLinkNest "OwlsLent$Book" (85 : Nat) "OwlsLent$House" "sounds" "I" "OwlsLent") ∈ NT := List.mem_filter.mpr ⟨tin_1 (List.mem_of_getElem? (i := 206) rfl), rfl⟩
theorem nw_1_207 : (Jvm.Cond.fieldLinkNest "OwlsLent$State" (56 : Nat) "OwlsLent$House" "sounds" "I" "OwlsLent") ∈ NT := List.mem_filter.mpr ⟨tin_1 (List.mem_of_getElem? (i := 207) rfl), rfl⟩
theorem nw_1_208 : (Jvm.Cond.fieldLinkNest "OwlsLent" (229 : Nat) "OwlsLent$House" "sounds" "I" "OwlsLent") ∈ NT := List.mem_filter.mpr ⟨tin_1 (List.mem_of_getElem? (i := 208) rfl), rfl⟩
theorem nw_1_210 : (Jvm.Cond.fieldLinkNest "OwlsLent$Book" (72 : Nat) "OwlsLent$House" "bedName" "[J" "OwlsLent") ∈ NT := List.mem_filter.mpr ⟨tin_1 (List.mem_of_getElem? (i := 210) rfl), rfl⟩
theorem nw_1_211 : (Jvm.Cond.fieldLinkNest "OwlsLent$HouseReader" (94 : Nat) "OwlsLent$House" "bedName" "[J" "OwlsLent") ∈ NT := List.mem_filter.mpr ⟨tin_1 (List.mem_of_getElem? (i := 211) rfl), rfl⟩
theorem nw_1_214 : (Jvm.Cond.fieldLinkNest "OwlsLent$Book" (59 : Nat) "OwlsLent$House" "owlName" "[J" "OwlsLent") ∈ NT := List.mem_filter.mpr ⟨tin_1 (List.mem_of_getElem? (i := 214) rfl), rfl⟩
theorem nw_1_215 : (Jvm.Cond.fieldLinkNest "OwlsLent$HouseReader" (112 : Nat) "OwlsLent$House" "owlName" "[J" "OwlsLent") ∈ NT := List.mem_filter.mpr ⟨tin_1 (List.mem_of_getElem? (i := 215) rfl), rfl⟩
theorem nw_1_216 : (Jvm.Cond.fieldLinkNest "OwlsLent$Sentence" (85 : Nat) "OwlsLent$House" "owlName" "[J" "OwlsLent") ∈ NT := List.mem_filter.mpr ⟨tin_1 (List.mem_of_getElem? (i := 216) rfl), rfl⟩
theorem nw_1_219 : (Jvm.Cond.fieldLinkNest "OwlsLent$Book" (82 : Nat) "OwlsLent$House" "soundName" "[J" "OwlsLent") ∈ NT := List.mem_filter.mpr ⟨tin_1 (List.mem_of_getElem? (i := 219) rfl), rfl⟩
theorem nw_1_220 : (Jvm.Cond.fieldLinkNest "OwlsLent$HouseReader" (121 : Nat) "OwlsLent$House" "soundName" "[J" "OwlsLent") ∈ NT := List.mem_filter.mpr ⟨tin_1 (List.mem_of_getElem? (i := 220) rfl), rfl⟩
theorem nw_1_222 : (Jvm.Cond.fieldLinkNest "OwlsLent$Best" (71 : Nat) "OwlsLent$House" "bedRow" "[[I" "OwlsLent") ∈ NT := List.mem_filter.mpr ⟨tin_1 (List.mem_of_getElem? (i := 222) rfl), rfl⟩
theorem nw_1_223 : (Jvm.Cond.fieldLinkNest "OwlsLent$HouseReader" (98 : Nat) "OwlsLent$House" "bedRow" "[[I" "OwlsLent") ∈ NT := List.mem_filter.mpr ⟨tin_1 (List.mem_of_getElem? (i := 223) rfl), rfl⟩
theorem nw_1_226 : (Jvm.Cond.fieldLinkNest "OwlsLent$State" (39 : Nat) "OwlsLent$House" "owlRow" "[[I" "OwlsLent") ∈ NT := List.mem_filter.mpr ⟨tin_1 (List.mem_of_getElem? (i := 226) rfl), rfl⟩
theorem nw_1_227 : (Jvm.Cond.fieldLinkNest "OwlsLent$HouseReader" (115 : Nat) "OwlsLent$House" "owlRow" "[[I" "OwlsLent") ∈ NT := List.mem_filter.mpr ⟨tin_1 (List.mem_of_getElem? (i := 227) rfl), rfl⟩
theorem nw_1_230 : (Jvm.Cond.fieldLinkNest "OwlsLent$Best" (68 : Nat) "OwlsLent$House" "soundRow" "[[I" "OwlsLent") ∈ NT := List.mem_filter.mpr ⟨tin_1 (List.mem_of_getElem? (i := 230) rfl), rfl⟩
theorem nw_1_231 : (Jvm.Cond.fieldLinkNest "OwlsLent$State" (53 : Nat) "OwlsLent$House" "soundRow" "[[I" "OwlsLent") ∈ NT := List.mem_filter.mpr ⟨tin_1 (List.mem_of_getElem? (i := 231) rfl), rfl⟩
theorem nw_1_232 : (Jvm.Cond.fieldLinkNest "OwlsLent$HouseReader" (124 : Nat) "OwlsLent$House" "soundRow" "[[I" "OwlsLent") ∈ NT := List.mem_filter.mpr ⟨tin_1 (List.mem_of_getElem? (i := 232) rfl), rfl⟩
theorem nw_1_233 : (Jvm.Cond.fieldLinkNest "OwlsLent" (197 : Nat) "OwlsLent$House" "soundRow" "[[I" "OwlsLent") ∈ NT := List.mem_filter.mpr ⟨tin_1 (List.mem_of_getElem? (i := 233) rfl), rfl⟩
theorem nw_2_32 : (Jvm.Cond.fieldLinkNest "OwlsLent$Best" (36 : Nat) "OwlsLent$State" "hour" "I" "OwlsLent") ∈ NT := List.mem_filter.mpr ⟨tin_2 (List.mem_of_getElem? (i := 32) rfl), rfl⟩
theorem nw_2_33 : (Jvm.Cond.fieldLinkNest "OwlsLent$Book" (92 : Nat) "OwlsLent$State" "hour" "I" "OwlsLent") ∈ NT := List.mem_filter.mpr ⟨tin_2 (List.mem_of_getElem? (i := 33) rfl), rfl⟩
theorem nw_2_34 : (Jvm.Cond.fieldLinkNest "OwlsLent" (206 : Nat) "OwlsLent$State" "hour" "I" "OwlsLent") ∈ NT := List.mem_filter.mpr ⟨tin_2 (List.mem_of_getElem? (i := 34) rfl), rfl⟩
theorem nw_2_36 : (Jvm.Cond.fieldLinkNest "OwlsLent" (203 : Nat) "OwlsLent$State" "hushed" "I" "OwlsLent") ∈ NT := List.mem_filter.mpr ⟨tin_2 (List.mem_of_getElem? (i := 36) rfl), rfl⟩
theorem nw_2_38 : (Jvm.Cond.fieldLinkNest "OwlsLent" (223 : Nat) "OwlsLent$State" "shouts" "I" "OwlsLent") ∈ NT := List.mem_filter.mpr ⟨tin_2 (List.mem_of_getElem? (i := 38) rfl), rfl⟩
theorem nw_2_41 : (Jvm.Cond.fieldLinkNest "OwlsLent$Spots" (70 : Nat) "OwlsLent$State" "owlBed" "[I" "OwlsLent") ∈ NT := List.mem_filter.mpr ⟨tin_2 (List.mem_of_getElem? (i := 41) rfl), rfl⟩
theorem nw_2_42 : (Jvm.Cond.fieldLinkNest "OwlsLent" (180 : Nat) "OwlsLent$State" "owlBed" "[I" "OwlsLent") ∈ NT := List.mem_filter.mpr ⟨tin_2 (List.mem_of_getElem? (i := 42) rfl), rfl⟩
theorem nw_2_44 : (Jvm.Cond.fieldLinkNest "OwlsLent" (169 : Nat) "OwlsLent$State" "knows" "[I" "OwlsLent") ∈ NT := List.mem_filter.mpr ⟨tin_2 (List.mem_of_getElem? (i := 44) rfl), rfl⟩
theorem nw_2_45 : (Jvm.Cond.fieldLinkNest "OwlsLent$Sentence" (130 : Nat) "OwlsLent$State" "knows" "[I" "OwlsLent") ∈ NT := List.mem_filter.mpr ⟨tin_2 (List.mem_of_getElem? (i := 45) rfl), rfl⟩
theorem nw_2_47 : (Jvm.Cond.fieldLinkNest "OwlsLent" (172 : Nat) "OwlsLent$State" "misses" "[I" "OwlsLent") ∈ NT := List.mem_filter.mpr ⟨tin_2 (List.mem_of_getElem? (i := 47) rfl), rfl⟩
theorem nw_2_48 : (Jvm.Cond.fieldLinkNest "OwlsLent$Sentence" (133 : Nat) "OwlsLent$State" "misses" "[I" "OwlsLent") ∈ NT := List.mem_filter.mpr ⟨tin_2 (List.mem_of_getElem? (i := 48) rfl), rfl⟩
theorem nw_2_71 : (Jvm.Cond.fieldLinkNest "OwlsLent$Image" (41 : Nat) "OwlsLent$Sentence" "is" "Z" "OwlsLent") ∈ NT := List.mem_filter.mpr ⟨tin_2 (List.mem_of_getElem? (i := 71) rfl), rfl⟩
theorem nw_2_72 : (Jvm.Cond.fieldLinkNest "OwlsLent" (407 : Nat) "OwlsLent$Sentence" "is" "Z" "OwlsLent") ∈ NT := List.mem_filter.mpr ⟨tin_2 (List.mem_of_getElem? (i := 72) rfl), rfl⟩
theorem nw_2_74 : (Jvm.Cond.fieldLinkNest "OwlsLent" (404 : Nat) "OwlsLent$Sentence" "ones" "I" "OwlsLent") ∈ NT := List.mem_filter.mpr ⟨tin_2 (List.mem_of_getElem? (i := 74) rfl), rfl⟩
theorem nw_2_97 : (Jvm.Cond.fieldLinkNest "OwlsLent" (417 : Nat) "OwlsLent$Image" "is" "Z" "OwlsLent") ∈ NT := List.mem_filter.mpr ⟨tin_2 (List.mem_of_getElem? (i := 97) rfl), rfl⟩
theorem nw_2_99 : (Jvm.Cond.fieldLinkNest "OwlsLent" (144 : Nat) "OwlsLent$Image" "home" "LOwlsLent$House;" "OwlsLent") ∈ NT := List.mem_filter.mpr ⟨tin_2 (List.mem_of_getElem? (i := 99) rfl), rfl⟩
theorem nw_2_101 : (Jvm.Cond.fieldLinkNest "OwlsLent" (147 : Nat) "OwlsLent$Image" "state" "LOwlsLent$State;" "OwlsLent") ∈ NT := List.mem_filter.mpr ⟨tin_2 (List.mem_of_getElem? (i := 101) rfl), rfl⟩
theorem nw_2_103 : (Jvm.Cond.fieldLinkNest "OwlsLent" (398 : Nat) "OwlsLent$Image" "saying" "LOwlsLent$Sentence;" "OwlsLent") ∈ NT := List.mem_filter.mpr ⟨tin_2 (List.mem_of_getElem? (i := 103) rfl), rfl⟩
theorem nw_2_128 : (Jvm.Cond.fieldLinkNest "OwlsLent" (387 : Nat) "OwlsLent$Book" "judged" "Z" "OwlsLent") ∈ NT := List.mem_filter.mpr ⟨tin_2 (List.mem_of_getElem? (i := 128) rfl), rfl⟩
theorem nw_2_130 : (Jvm.Cond.fieldLinkNest "OwlsLent" (384 : Nat) "OwlsLent$Book" "why" "I" "OwlsLent") ∈ NT := List.mem_filter.mpr ⟨tin_2 (List.mem_of_getElem? (i := 130) rfl), rfl⟩
theorem nw_2_132 : (Jvm.Cond.fieldLinkNest "OwlsLent" (381 : Nat) "OwlsLent$Book" "ahead" "I" "OwlsLent") ∈ NT := List.mem_filter.mpr ⟨tin_2 (List.mem_of_getElem? (i := 132) rfl), rfl⟩
theorem nw_2_134 : (Jvm.Cond.fieldLinkNest "OwlsLent" (391 : Nat) "OwlsLent$Book" "hourThen" "I" "OwlsLent") ∈ NT := List.mem_filter.mpr ⟨tin_2 (List.mem_of_getElem? (i := 134) rfl), rfl⟩
theorem nw_2_136 : (Jvm.Cond.fieldLinkNest "OwlsLent" (394 : Nat) "OwlsLent$Book" "lookingThen" "I" "OwlsLent") ∈ NT := List.mem_filter.mpr ⟨tin_2 (List.mem_of_getElem? (i := 136) rfl), rfl⟩
theorem nw_2_180 : (Jvm.Cond.fieldLinkNest "OwlsLent" (306 : Nat) "OwlsLent$Spots" "cells" "[I" "OwlsLent") ∈ NT := List.mem_filter.mpr ⟨tin_2 (List.mem_of_getElem? (i := 180) rfl), rfl⟩
theorem nw_2_185 : (Jvm.Cond.fieldLinkNest "OwlsLent" (303 : Nat) "OwlsLent$Spots" "count" "I" "OwlsLent") ∈ NT := List.mem_filter.mpr ⟨tin_2 (List.mem_of_getElem? (i := 185) rfl), rfl⟩
theorem nw_2_187 : (Jvm.Cond.fieldLinkNest "OwlsLent" (309 : Nat) "OwlsLent$Spots" "nextOwl" "I" "OwlsLent") ∈ NT := List.mem_filter.mpr ⟨tin_2 (List.mem_of_getElem? (i := 187) rfl), rfl⟩
theorem nw_2_211 : (Jvm.Cond.fieldLinkNest "OwlsLent" (322 : Nat) "OwlsLent$Best" "found" "[I" "OwlsLent") ∈ NT := List.mem_filter.mpr ⟨tin_2 (List.mem_of_getElem? (i := 211) rfl), rfl⟩
theorem nw_2_213 : (Jvm.Cond.fieldLinkNest "OwlsLent" (321 : Nat) "OwlsLent$Best" "owls" "I" "OwlsLent") ∈ NT := List.mem_filter.mpr ⟨tin_2 (List.mem_of_getElem? (i := 213) rfl), rfl⟩
theorem neM_0 : RX0 ≠ "java/lang/invoke/MethodHandle" := by decide
theorem neV_0 : RX0 ≠ "java/lang/invoke/VarHandle" := by decide
theorem neM_1 : RX1 ≠ "java/lang/invoke/MethodHandle" := by decide
theorem neV_1 : RX1 ≠ "java/lang/invoke/VarHandle" := by decide
theorem neM_2 : RX2 ≠ "java/lang/invoke/MethodHandle" := by decide
theorem neV_2 : RX2 ≠ "java/lang/invoke/VarHandle" := by decide
theorem neM_3 : RX3 ≠ "java/lang/invoke/MethodHandle" := by decide
theorem neV_3 : RX3 ≠ "java/lang/invoke/VarHandle" := by decide
theorem neM_4 : RX4 ≠ "java/lang/invoke/MethodHandle" := by decide
theorem neV_4 : RX4 ≠ "java/lang/invoke/VarHandle" := by decide
theorem neM_5 : RX5 ≠ "java/lang/invoke/MethodHandle" := by decide
theorem neV_5 : RX5 ≠ "java/lang/invoke/VarHandle" := by decide
theorem neM_6 : RX6 ≠ "java/lang/invoke/MethodHandle" := by decide
theorem neV_6 : RX6 ≠ "java/lang/invoke/VarHandle" := by decide
theorem neM_7 : RX7 ≠ "java/lang/invoke/MethodHandle" := by decide
theorem neV_7 : RX7 ≠ "java/lang/invoke/VarHandle" := by decide
theorem neM_8 : RX8 ≠ "java/lang/invoke/MethodHandle" := by decide
theorem neV_8 : RX8 ≠ "java/lang/invoke/VarHandle" := by decide
theorem neM_9 : RX9 ≠ "java/lang/invoke/MethodHandle" := by decide
theorem neV_9 : RX9 ≠ "java/lang/invoke/VarHandle" := by decide
theorem neM_10 : RX10 ≠ "java/lang/invoke/MethodHandle" := by decide
theorem neV_10 : RX10 ≠ "java/lang/invoke/VarHandle" := by decide
theorem neM_11 : RX11 ≠ "java/lang/invoke/MethodHandle" := by decide
theorem neV_11 : RX11 ≠ "java/lang/invoke/VarHandle" := by decide
theorem neM_12 : RX12 ≠ "java/lang/invoke/MethodHandle" := by decide
theorem neV_12 : RX12 ≠ "java/lang/invoke/VarHandle" := by decide
theorem uw_0 : ∀ w ∈ u_ws RX0 TX0 5, w ∈ GT := by
  have h : ∀ k, k < 5 → u_lay RX0 TX0 k ∈ GT := lt_s (lt_s (lt_s (lt_s (lt_s (lt_0) w_2_215) w_2_217) w_2_219) w_2_221) w_2_223
  intro w hw
  obtain ⟨k, hk, rfl⟩ := List.mem_map.mp hw
  exact h k (List.mem_range.mp hk)
theorem uw_1 : ∀ w ∈ u_ws RX1 TX1 7, w ∈ GT := by
  have h : ∀ k, k < 7 → u_lay RX1 TX1 k ∈ GT := lt_s (lt_s (lt_s (lt_s (lt_s (lt_s (lt_s (lt_0) w_2_137) w_2_139) w_2_141) w_2_143) w_2_145) w_2_147) w_2_149
  intro w hw
  obtain ⟨k, hk, rfl⟩ := List.mem_map.mp hw
  exact h k (List.mem_range.mp hk)
theorem uw_2 : ∀ w ∈ u_ws RX2 TX2 15, w ∈ GT := by
  have h : ∀ k, k < 15 → u_lay RX2 TX2 k ∈ GT := lt_s (lt_s (lt_s (lt_s (lt_s (lt_s (lt_s (lt_s (lt_s (lt_s (lt_s (lt_s (lt_s (lt_s (lt_s (lt_0) w_1_234) w_1_236) w_1_238) w_2_0) w_2_2) w_2_4) w_2_6) w_2_8) w_2_10) w_2_12) w_2_14) w_2_16) w_2_18) w_2_20) w_2_22
  intro w hw
  obtain ⟨k, hk, rfl⟩ := List.mem_map.mp hw
  exact h k (List.mem_range.mp hk)
theorem uw_4 : ∀ w ∈ u_ws RX4 TX4 4, w ∈ GT := by
  have h : ∀ k, k < 4 → u_lay RX4 TX4 k ∈ GT := lt_s (lt_s (lt_s (lt_s (lt_0) w_2_104) w_2_106) w_2_108) w_2_110
  intro w hw
  obtain ⟨k, hk, rfl⟩ := List.mem_map.mp hw
  exact h k (List.mem_range.mp hk)
theorem uw_5 : ∀ w ∈ u_ws RX5 TX5 7, w ∈ GT := by
  have h : ∀ k, k < 7 → u_lay RX5 TX5 k ∈ GT := lt_s (lt_s (lt_s (lt_s (lt_s (lt_s (lt_s (lt_0) w_2_80) w_2_82) w_2_84) w_2_86) w_2_88) w_2_90) w_2_92
  intro w hw
  obtain ⟨k, hk, rfl⟩ := List.mem_map.mp hw
  exact h k (List.mem_range.mp hk)
theorem uw_6 : ∀ w ∈ u_ws RX6 TX6 6, w ∈ GT := by
  have h : ∀ k, k < 6 → u_lay RX6 TX6 k ∈ GT := lt_s (lt_s (lt_s (lt_s (lt_s (lt_s (lt_0) w_2_188) w_2_190) w_2_192) w_2_194) w_2_196) w_2_198
  intro w hw
  obtain ⟨k, hk, rfl⟩ := List.mem_map.mp hw
  exact h k (List.mem_range.mp hk)
theorem uw_7 : ∀ w ∈ u_ws RX7 TX7 7, w ∈ GT := by
  have h : ∀ k, k < 7 → u_lay RX7 TX7 k ∈ GT := lt_s (lt_s (lt_s (lt_s (lt_s (lt_s (lt_s (lt_0) w_2_49) w_2_51) w_2_53) w_2_55) w_2_57) w_2_59) w_2_61
  intro w hw
  obtain ⟨k, hk, rfl⟩ := List.mem_map.mp hw
  exact h k (List.mem_range.mp hk)
theorem uw_8 : ∀ w ∈ u_ws RX8 TX8 2, w ∈ GT := by
  have h : ∀ k, k < 2 → u_lay RX8 TX8 k ∈ GT := lt_s (lt_s (lt_0) w_1_46) w_1_48
  intro w hw
  obtain ⟨k, hk, rfl⟩ := List.mem_map.mp hw
  exact h k (List.mem_range.mp hk)
theorem uw_9 : ∀ w ∈ u_ws RX9 TX9 12, w ∈ GT := by
  have h : ∀ k, k < 12 → u_lay RX9 TX9 k ∈ GT := lt_s (lt_s (lt_s (lt_s (lt_s (lt_s (lt_s (lt_s (lt_s (lt_s (lt_s (lt_s (lt_0) w_1_130) w_1_132) w_1_134) w_1_136) w_1_138) w_1_140) w_1_142) w_1_144) w_1_146) w_1_148) w_1_150) w_1_152
  intro w hw
  obtain ⟨k, hk, rfl⟩ := List.mem_map.mp hw
  exact h k (List.mem_range.mp hk)
theorem uw_10 : ∀ w ∈ u_ws RX10 TX10 3, w ∈ GT := by
  have h : ∀ k, k < 3 → u_lay RX10 TX10 k ∈ GT := lt_s (lt_s (lt_s (lt_0) w_2_166) w_2_168) w_2_170
  intro w hw
  obtain ⟨k, hk, rfl⟩ := List.mem_map.mp hw
  exact h k (List.mem_range.mp hk)
theorem uw_11 : ∀ w ∈ u_ws RX11 TX11 19, w ∈ GT := by
  have h : ∀ k, k < 19 → u_lay RX11 TX11 k ∈ GT := lt_s (lt_s (lt_s (lt_s (lt_s (lt_s (lt_s (lt_s (lt_s (lt_s (lt_s (lt_s (lt_s (lt_s (lt_s (lt_s (lt_s (lt_s (lt_s (lt_0) w_3_5) w_3_7) w_3_9) w_3_11) w_3_13) w_3_15) w_3_17) w_3_19) w_3_21) w_3_23) w_3_25) w_3_27) w_3_29) w_3_31) w_3_33) w_3_35) w_3_37) w_3_39) w_3_41
  intro w hw
  obtain ⟨k, hk, rfl⟩ := List.mem_map.mp hw
  exact h k (List.mem_range.mp hk)
theorem uw_12 : ∀ w ∈ u_ws RX12 TX12 58, w ∈ GT := by
  have h : ∀ k, k < 58 → u_lay RX12 TX12 k ∈ GT := lt_s (lt_s (lt_s (lt_s (lt_s (lt_s (lt_s (lt_s (lt_s (lt_s (lt_s (lt_s (lt_s (lt_s (lt_s (lt_s (lt_s (lt_s (lt_s (lt_s (lt_s (lt_s (lt_s (lt_s (lt_s (lt_s (lt_s (lt_s (lt_s (lt_s (lt_s (lt_s (lt_s (lt_s (lt_s (lt_s (lt_s (lt_s (lt_s (lt_s (lt_s (lt_s (lt_s (lt_s (lt_s (lt_s (lt_s (lt_s (lt_s (lt_s (lt_s (lt_s (lt_s (lt_s (lt_s (lt_s (lt_s (lt_s (lt_0) w_6_122) w_6_124) w_6_126) w_6_128) w_6_130) w_6_132) w_6_134) w_6_136) w_6_138) w_6_140) w_6_142) w_6_144) w_6_146) w_6_148) w_6_150) w_6_152) w_6_154) w_6_156) w_6_158) w_6_160) w_6_162) w_6_164) w_6_166) w_6_168) w_6_170) w_6_172) w_6_174) w_6_176) w_6_178) w_6_180) w_6_182) w_6_184) w_6_186) w_6_188) w_6_190) w_6_192) w_6_194) w_6_196) w_6_198) w_6_200) w_6_202) w_6_204) w_6_206) w_6_208) w_6_210) w_6_212) w_6_214) w_6_216) w_6_218) w_6_220) w_6_222) w_6_224) w_6_226) w_6_228) w_6_230) w_6_232) w_6_234) w_6_236
  intro w hw
  obtain ⟨k, hk, rfl⟩ := List.mem_map.mp hw
  exact h k (List.mem_range.mp hk)
theorem fl_2_18 : xFL RX2 18 2 2 := ⟨RX2, TX2, 15, rfl, by decide, uw_2, rfl, Or.inl w_1_181⟩
theorem fl_2_21 : xFL RX2 21 2 3 := ⟨RX2, TX2, 15, rfl, by decide, uw_2, rfl, Or.inl w_1_183⟩
theorem ms_2_83 : xMS RX2 83 yX2_within cX2_within 4 (some .boolean) 3 := ⟨w_3_231, w_3_213, w_1_10, w_3_214, neM_2, neV_2, rfl⟩
theorem fl_7_21 : xFL RX7 21 6 3 := ⟨RX7, TX7, 7, rfl, by decide, uw_7, rfl, Or.inl w_2_39⟩
theorem fl_7_56 : xFL RX7 56 2 8 := ⟨RX2, TX2, 15, rfl, by decide, uw_2, rfl, Or.inr ⟨_, nw_1_207⟩⟩
theorem fl_7_53 : xFL RX7 53 2 14 := ⟨RX2, TX2, 15, rfl, by decide, uw_2, rfl, Or.inr ⟨_, nw_1_231⟩⟩
theorem fl_7_15 : xFL RX7 15 6 1 := ⟨RX7, TX7, 7, rfl, by decide, uw_7, rfl, Or.inl w_2_35⟩
theorem fl_7_9 : xFL RX7 9 6 0 := ⟨RX7, TX7, 7, rfl, by decide, uw_7, rfl, Or.inl w_2_31⟩
theorem ms_7_59 : xMS RX7 59 yX2_within cX2_within 4 (some .boolean) 3 := ⟨w_3_212, w_3_213, w_1_10, w_3_214, neM_2, neV_2, rfl⟩
theorem fl_2_37 : xFL RX2 37 2 8 := ⟨RX2, TX2, 15, rfl, by decide, uw_2, rfl, Or.inl w_1_203⟩
theorem ml_7_49 : xML RX7 49 2 yX2_hasSound cX2_hasSound 2 (some .boolean) 1 := ⟨w_4_1, w_3_205, w_3_206, w_1_10, w_3_207, ⟨TX2, 15, rfl⟩, neM_2, neV_2, rfl⟩
theorem fl_2_52 : xFL RX2 52 2 12 := ⟨RX2, TX2, 15, rfl, by decide, uw_2, rfl, Or.inl w_1_221⟩
theorem ml_2_87 : xML RX2 87 2 yX2_sideAt cX2_sideAt 5 (some .int) 2 := ⟨w_4_6, w_4_7, w_4_8, w_1_10, w_4_9, ⟨TX2, 15, rfl⟩, neM_2, neV_2, rfl⟩
theorem fl_2_55 : xFL RX2 55 2 13 := ⟨RX2, TX2, 15, rfl, by decide, uw_2, rfl, Or.inl w_1_225⟩
theorem ml_2_91 : xML RX2 91 2 yX2_loudAt cX2_loudAt 5 (some .int) 2 := ⟨w_4_10, w_4_11, w_4_12, w_1_10, w_4_13, ⟨TX2, 15, rfl⟩, neM_2, neV_2, rfl⟩
theorem ml_7_63 : xML RX7 63 6 yX7_rowOf cX7_rowOf 3 (some (.array .int)) 2 := ⟨w_3_237, w_3_238, w_3_239, w_1_11, w_4_0, ⟨TX7, 7, rfl⟩, neM_7, neV_7, rfl⟩
theorem ml_7_67 : xML RX7 67 2 yX2_heardSide cX2_heardSide 6 (some .int) 3 := ⟨w_4_2, w_4_3, w_4_4, w_1_10, w_4_5, ⟨TX2, 15, rfl⟩, neM_2, neV_2, rfl⟩
theorem ml_7_82 : xML RX7 82 2 yX2_loudAt cX2_loudAt 5 (some .int) 2 := ⟨w_4_18, w_4_11, w_4_12, w_1_10, w_4_13, ⟨TX2, 15, rfl⟩, neM_2, neV_2, rfl⟩
theorem fl_9_41 : xFL RX9 41 8 10 := ⟨RX9, TX9, 12, rfl, by decide, uw_9, rfl, Or.inl w_1_126⟩
theorem ft_9_10 : xFT 8 10 .int := ⟨RX9, TX9, 12, tyX9, rfl, rfl, tyX9_ok, nmX9, rfl⟩
theorem fl_9_44 : xFL RX9 44 8 11 := ⟨RX9, TX9, 12, rfl, by decide, uw_9, rfl, Or.inl w_1_128⟩
theorem ft_9_11 : xFT 8 11 .int := ⟨RX9, TX9, 12, tyX9, rfl, rfl, tyX9_ok, nmX9, rfl⟩
theorem fl_9_25 : xFL RX9 25 8 5 := ⟨RX9, TX9, 12, rfl, by decide, uw_9, rfl, Or.inl w_1_117⟩
theorem sel_yX9_failAt : Cond.selects yX9_failAt.cls yX9_failAt yX9_failAt ∈ GT := GT_in (psel (pin_1 (List.mem_of_getElem? (i := 1) rfl))) rfl
theorem ml_9_83 : xML RX9 83 8 yX9_failAt cX9_failAt 3 (some .boolean) 2 := ⟨w_3_97, w_3_99, sel_yX9_failAt, w_1_4, w_3_100, ⟨TX9, 12, rfl⟩, neM_9, neV_9, rfl⟩
theorem fl_8_19 : xFL RX8 19 7 0 := ⟨RX8, TX8, 2, rfl, by decide, uw_8, rfl, Or.inl w_1_41⟩
theorem fl_9_31 : xFL RX9 31 8 7 := ⟨RX9, TX9, 12, rfl, by decide, uw_9, rfl, Or.inl w_1_119⟩
theorem ft_9_7 : xFT 8 7 .int := ⟨RX9, TX9, 12, tyX9, rfl, rfl, tyX9_ok, nmX9, rfl⟩
theorem fl_9_37 : xFL RX9 37 8 9 := ⟨RX9, TX9, 12, rfl, by decide, uw_9, rfl, Or.inl w_1_125⟩
theorem ft_9_9 : xFT 8 9 .long := ⟨RX9, TX9, 12, tyX9, rfl, rfl, tyX9_ok, nmX9, rfl⟩
theorem fl_9_19 : xFL RX9 19 8 3 := ⟨RX9, TX9, 12, rfl, by decide, uw_9, rfl, Or.inl w_1_112⟩
theorem fl_9_47 : xFL RX9 47 8 0 := ⟨RX9, TX9, 12, rfl, by decide, uw_9, rfl, Or.inl w_1_108⟩
theorem fl_9_68 : xFL RX9 68 7 1 := ⟨RX8, TX8, 2, rfl, by decide, uw_8, rfl, Or.inr ⟨_, nw_1_45⟩⟩
theorem ml_9_72 : xML RX9 72 7 yX8_at cX8_at 2 (some .int) 1 := ⟨w_3_72, w_3_73, w_3_74, w_1_2, w_3_75, ⟨TX8, 2, rfl⟩, neM_8, neV_8, rfl⟩
theorem kc_9_63 : Cond.constantLong RX9 63 (32) ∈ GT := w_1_107
theorem ft_9_3 : xFT 8 3 .int := ⟨RX9, TX9, 12, tyX9, rfl, rfl, tyX9_ok, nmX9, rfl⟩
theorem fl_9_22 : xFL RX9 22 8 4 := ⟨RX9, TX9, 12, rfl, by decide, uw_9, rfl, Or.inl w_1_113⟩
theorem ft_9_4 : xFT 8 4 .int := ⟨RX9, TX9, 12, tyX9, rfl, rfl, tyX9_ok, nmX9, rfl⟩
theorem fl_9_9 : xFL RX9 9 8 1 := ⟨RX9, TX9, 12, rfl, by decide, uw_9, rfl, Or.inl w_1_109⟩
theorem ms_9_79 : xMS RX9 79 yX9_numberOf cX9_numberOf 5 (some .int) 3 := ⟨w_3_80, w_3_81, w_1_4, w_3_82, neM_9, neV_9, rfl⟩
theorem fl_9_34 : xFL RX9 34 8 8 := ⟨RX9, TX9, 12, rfl, by decide, uw_9, rfl, Or.inl w_1_121⟩
theorem ft_9_8 : xFT 8 8 .int := ⟨RX9, TX9, 12, tyX9, rfl, rfl, tyX9_ok, nmX9, rfl⟩
theorem fl_9_28 : xFL RX9 28 8 6 := ⟨RX9, TX9, 12, rfl, by decide, uw_9, rfl, Or.inl w_1_118⟩
theorem ft_9_6 : xFT 8 6 .int := ⟨RX9, TX9, 12, tyX9, rfl, rfl, tyX9_ok, nmX9, rfl⟩
theorem fl_9_15 : xFL RX9 15 8 2 := ⟨RX9, TX9, 12, rfl, by decide, uw_9, rfl, Or.inl w_1_111⟩
theorem ft_9_5 : xFT 8 5 .int := ⟨RX9, TX9, 12, tyX9, rfl, rfl, tyX9_ok, nmX9, rfl⟩
theorem sel_yX9_readRun : Cond.selects yX9_readRun.cls yX9_readRun yX9_readRun ∈ GT := GT_in (psel (pin_1 (List.mem_of_getElem? (i := 0) rfl))) rfl
theorem ml_9_76 : xML RX9 76 8 yX9_readRun cX9_readRun 4 none 0 := ⟨w_3_76, w_3_78, sel_yX9_readRun, w_1_4, w_3_79, ⟨TX9, 12, rfl⟩, neM_9, neV_9, rfl⟩
theorem ml_9_91 : xML RX9 91 8 yX9_fail cX9_fail 2 (some .boolean) 1 := ⟨w_3_106, w_3_94, w_3_95, w_1_4, w_3_96, ⟨TX9, 12, rfl⟩, neM_9, neV_9, rfl⟩
theorem ml_9_65 : xML RX9 65 8 yX9_advance cX9_advance 2 none 0 := ⟨w_3_68, w_3_69, w_3_70, w_1_4, w_3_71, ⟨TX9, 12, rfl⟩, neM_9, neV_9, rfl⟩
theorem ml_9_87 : xML RX9 87 8 yX9_isSign cX9_isSign 2 (some .boolean) 1 := ⟨w_3_163, w_3_164, w_3_165, w_1_4, w_3_166, ⟨TX9, 12, rfl⟩, neM_9, neV_9, rfl⟩
theorem fl_7_34 : xFL RX7 34 2 7 := ⟨RX2, TX2, 15, rfl, by decide, uw_2, rfl, Or.inr ⟨_, nw_1_197⟩⟩
theorem fl_7_25 : xFL RX7 25 6 4 := ⟨RX7, TX7, 7, rfl, by decide, uw_7, rfl, Or.inl w_2_40⟩
theorem ml_7_96 : xML RX7 96 6 yX7_owlAt cX7_owlAt 4 (some .int) 2 := ⟨w_4_48, w_4_49, w_4_50, w_1_11, w_4_51, ⟨TX7, 7, rfl⟩, neM_7, neV_7, rfl⟩
theorem ft_7_1 : xFT 6 1 .int := ⟨RX7, TX7, 7, tyX7, rfl, rfl, tyX7_ok, nmX7, rfl⟩
theorem fl_2_9 : xFL RX2 9 2 0 := ⟨RX2, TX2, 15, rfl, by decide, uw_2, rfl, Or.inl w_1_171⟩
theorem fl_2_15 : xFL RX2 15 2 1 := ⟨RX2, TX2, 15, rfl, by decide, uw_2, rfl, Or.inl w_1_176⟩
theorem ml_7_99 : xML RX7 99 6 yX7_isShouted cX7_isShouted 1 (some .boolean) 0 := ⟨w_4_94, w_4_95, w_4_96, w_1_11, w_4_97, ⟨TX7, 7, rfl⟩, neM_7, neV_7, rfl⟩
theorem fl_7_18 : xFL RX7 18 6 2 := ⟨RX7, TX7, 7, rfl, by decide, uw_7, rfl, Or.inl w_2_37⟩
theorem ft_7_2 : xFT 6 2 .int := ⟨RX7, TX7, 7, tyX7, rfl, rfl, tyX7_ok, nmX7, rfl⟩
theorem ml_7_74 : xML RX7 74 6 yX7_onBits cX7_onBits 6 (some .int) 2 := ⟨w_3_232, w_3_209, w_3_210, w_1_11, w_3_211, ⟨TX7, 7, rfl⟩, neM_7, neV_7, rfl⟩
theorem ml_7_71 : xML RX7 71 2 yX2_shutAt cX2_shutAt 2 (some .boolean) 1 := ⟨w_3_227, w_3_228, w_3_229, w_1_10, w_3_230, ⟨TX2, 15, rfl⟩, neM_2, neV_2, rfl⟩
theorem fl_7_103 : xFL RX7 103 2 6 := ⟨RX2, TX2, 15, rfl, by decide, uw_2, rfl, Or.inr ⟨_, nw_1_194⟩⟩
theorem ml_7_78 : xML RX7 78 6 yX7_heardBits cX7_heardBits 7 (some .int) 4 := ⟨w_3_233, w_3_234, w_3_235, w_1_11, w_3_236, ⟨TX7, 7, rfl⟩, neM_7, neV_7, rfl⟩
theorem ml_7_86 : xML RX7 86 6 yX7_loudest cX7_loudest 8 (some .int) 3 := ⟨w_4_14, w_4_15, w_4_16, w_1_11, w_4_17, ⟨TX7, 7, rfl⟩, neM_7, neV_7, rfl⟩
theorem ft_7_0 : xFT 6 0 .int := ⟨RX7, TX7, 7, tyX7, rfl, rfl, tyX7_ok, nmX7, rfl⟩
theorem fl_7_28 : xFL RX7 28 6 5 := ⟨RX7, TX7, 7, rfl, by decide, uw_7, rfl, Or.inl w_2_43⟩
theorem fl_7_31 : xFL RX7 31 6 6 := ⟨RX7, TX7, 7, rfl, by decide, uw_7, rfl, Or.inl w_2_46⟩
theorem ml_7_93 : xML RX7 93 6 yX7_lookOf cX7_lookOf 5 (some .int) 4 := ⟨w_3_223, w_3_224, w_3_225, w_1_11, w_3_226, ⟨TX7, 7, rfl⟩, neM_7, neV_7, rfl⟩
theorem ft_2_0 : xFT 2 0 .int := ⟨RX2, TX2, 15, tyX2, rfl, rfl, tyX2_ok, nmX2, rfl⟩
theorem ft_2_1 : xFT 2 1 .int := ⟨RX2, TX2, 15, tyX2, rfl, rfl, tyX2_ok, nmX2, rfl⟩
theorem ft_2_2 : xFT 2 2 .int := ⟨RX2, TX2, 15, tyX2, rfl, rfl, tyX2_ok, nmX2, rfl⟩
theorem ft_2_3 : xFT 2 3 .int := ⟨RX2, TX2, 15, tyX2, rfl, rfl, tyX2_ok, nmX2, rfl⟩
theorem fl_2_24 : xFL RX2 24 2 4 := ⟨RX2, TX2, 15, rfl, by decide, uw_2, rfl, Or.inl w_1_185⟩
theorem ft_2_4 : xFT 2 4 .boolean := ⟨RX2, TX2, 15, tyX2, rfl, rfl, tyX2_ok, nmX2, rfl⟩
theorem fl_2_28 : xFL RX2 28 2 5 := ⟨RX2, TX2, 15, rfl, by decide, uw_2, rfl, Or.inl w_1_187⟩
theorem ft_2_5 : xFT 2 5 .boolean := ⟨RX2, TX2, 15, tyX2, rfl, rfl, tyX2_ok, nmX2, rfl⟩
theorem fl_2_31 : xFL RX2 31 2 6 := ⟨RX2, TX2, 15, rfl, by decide, uw_2, rfl, Or.inl w_1_189⟩
theorem ft_2_6 : xFT 2 6 .int := ⟨RX2, TX2, 15, tyX2, rfl, rfl, tyX2_ok, nmX2, rfl⟩
theorem fl_2_34 : xFL RX2 34 2 7 := ⟨RX2, TX2, 15, rfl, by decide, uw_2, rfl, Or.inl w_1_195⟩
theorem ft_2_7 : xFT 2 7 .int := ⟨RX2, TX2, 15, tyX2, rfl, rfl, tyX2_ok, nmX2, rfl⟩
theorem ft_2_8 : xFT 2 8 .int := ⟨RX2, TX2, 15, tyX2, rfl, rfl, tyX2_ok, nmX2, rfl⟩
theorem mm_min : Cond.static Lib.Math.min.name ∈ GT ∧ Cond.initialized "java/lang/Math" ∈ GT ∧ Cond.code Lib.Math.min.name Lib.Math.min.code 2 (some .int) ∈ GT := ⟨w_3_186, w_1_3, w_3_187⟩
theorem mk_2_71 : Cond.methodLink RX2 71 Lib.Math.min.name ∈ GT := w_3_185
theorem mm_arraycopy : Cond.native arraycopyName ∈ GT ∧ Cond.static arraycopyName ∈ GT ∧ Cond.initialized "java/lang/System" ∈ GT := ⟨w_3_181, w_3_180, w_1_19⟩
theorem mk_2_61 : Cond.methodLink RX2 61 arraycopyName ∈ GT := w_3_179
theorem fl_2_40 : xFL RX2 40 2 9 := ⟨RX2, TX2, 15, rfl, by decide, uw_2, rfl, Or.inl w_1_209⟩
theorem fl_2_44 : xFL RX2 44 2 10 := ⟨RX2, TX2, 15, rfl, by decide, uw_2, rfl, Or.inl w_1_213⟩
theorem fl_2_47 : xFL RX2 47 2 11 := ⟨RX2, TX2, 15, rfl, by decide, uw_2, rfl, Or.inl w_1_218⟩
theorem ms_2_67 : xMS RX2 67 yX2_copyRows cX2_copyRows 3 none 2 := ⟨w_3_182, w_3_183, w_1_10, w_3_184, neM_2, neV_2, rfl⟩
theorem fl_2_58 : xFL RX2 58 2 14 := ⟨RX2, TX2, 15, rfl, by decide, uw_2, rfl, Or.inl w_1_229⟩
theorem ms_2_77 : xMS RX2 77 yX9_numberOf cX9_numberOf 5 (some .int) 3 := ⟨w_3_118, w_3_81, w_1_4, w_3_82, neM_9, neV_9, rfl⟩
theorem ml_9_95 : xML RX9 95 2 yX2_hasName cX2_hasName 3 (some .boolean) 1 := ⟨w_3_114, w_3_115, w_3_116, w_1_10, w_3_117, ⟨TX2, 15, rfl⟩, neM_2, neV_2, rfl⟩
theorem kc_9_101 : Cond.constantLong RX9 101 (-1) ∈ GT := w_3_119
theorem fl_7_39 : xFL RX7 39 2 13 := ⟨RX2, TX2, 15, rfl, by decide, uw_2, rfl, Or.inr ⟨_, nw_1_226⟩⟩
theorem mk_7_43 : Cond.methodLink RX7 43 arraycopyName ∈ GT := w_4_43
theorem ml_7_90 : xML RX7 90 2 yX2_sideAt cX2_sideAt 5 (some .int) 2 := ⟨w_4_149, w_4_7, w_4_8, w_1_10, w_4_9, ⟨TX2, 15, rfl⟩, neM_2, neV_2, rfl⟩
theorem kc_7_128 : Cond.constant RX7 128 (1103515245) ∈ GT := w_4_118
theorem ms_7_106 : xMS RX7 106 yX7_step cX7_step 1 (some .int) 1 := ⟨w_4_115, w_4_116, w_1_11, w_4_117, neM_7, neV_7, rfl⟩
theorem ms_7_110 : xMS RX7 110 yX7_pick cX7_pick 2 (some .int) 2 := ⟨w_4_119, w_4_120, w_1_11, w_4_121, neM_7, neV_7, rfl⟩
theorem fl_7_114 : xFL RX7 114 2 0 := ⟨RX2, TX2, 15, rfl, by decide, uw_2, rfl, Or.inr ⟨_, nw_1_175⟩⟩
theorem fl_7_117 : xFL RX7 117 2 1 := ⟨RX2, TX2, 15, rfl, by decide, uw_2, rfl, Or.inr ⟨_, nw_1_180⟩⟩
theorem ml_7_120 : xML RX7 120 6 yX7_shoutIn cX7_shoutIn 4 (some .int) 3 := ⟨w_4_122, w_4_91, w_4_92, w_1_11, w_4_93, ⟨TX7, 7, rfl⟩, neM_7, neV_7, rfl⟩
theorem ml_7_124 : xML RX7 124 6 yX7_passHour cX7_passHour 8 none 1 := ⟨w_4_123, w_4_104, w_4_105, w_1_11, w_4_106, ⟨TX7, 7, rfl⟩, neM_7, neV_7, rfl⟩
theorem fl_8_7 : xFL RX8 7 7 1 := ⟨RX8, TX8, 2, rfl, by decide, uw_8, rfl, Or.inl w_1_42⟩
theorem ft_8_1 : xFT 7 1 .int := ⟨RX8, TX8, 2, tyX8, rfl, rfl, tyX8_ok, nmX8, rfl⟩
theorem ml_8_23 : xML RX8 23 7 yX8_add cX8_add 2 none 1 := ⟨w_3_52, w_3_53, w_3_54, w_1_2, w_3_55, ⟨TX8, 2, rfl⟩, neM_8, neV_8, rfl⟩
theorem ft_9_2 : xFT 8 2 .int := ⟨RX9, TX9, 12, tyX9, rfl, rfl, tyX9_ok, nmX9, rfl⟩
theorem ml_0_53 : xML RX0 53 6 yX7_onBits cX7_onBits 6 (some .int) 2 := ⟨w_4_224, w_3_209, w_3_210, w_1_11, w_3_211, ⟨TX7, 7, rfl⟩, neM_7, neV_7, rfl⟩
theorem fl_0_57 : xFL RX0 57 2 8 := ⟨RX2, TX2, 15, rfl, by decide, uw_2, rfl, Or.inr ⟨_, nw_1_204⟩⟩
theorem fl_0_30 : xFL RX0 30 2 7 := ⟨RX2, TX2, 15, rfl, by decide, uw_2, rfl, Or.inr ⟨_, nw_1_196⟩⟩
theorem fl_0_33 : xFL RX0 33 2 6 := ⟨RX2, TX2, 15, rfl, by decide, uw_2, rfl, Or.inr ⟨_, nw_1_190⟩⟩
theorem ml_0_60 : xML RX0 60 6 yX7_heardBits cX7_heardBits 7 (some .int) 4 := ⟨w_4_225, w_3_234, w_3_235, w_1_11, w_3_236, ⟨TX7, 7, rfl⟩, neM_7, neV_7, rfl⟩
theorem ml_0_64 : xML RX0 64 6 yX7_loudest cX7_loudest 8 (some .int) 3 := ⟨w_4_226, w_4_15, w_4_16, w_1_11, w_4_17, ⟨TX7, 7, rfl⟩, neM_7, neV_7, rfl⟩
theorem fl_0_68 : xFL RX0 68 2 14 := ⟨RX2, TX2, 15, rfl, by decide, uw_2, rfl, Or.inr ⟨_, nw_1_230⟩⟩
theorem fl_0_71 : xFL RX0 71 2 12 := ⟨RX2, TX2, 15, rfl, by decide, uw_2, rfl, Or.inr ⟨_, nw_1_222⟩⟩
theorem fl_0_11 : xFL RX0 11 0 0 := ⟨RX0, TX0, 5, rfl, by decide, uw_0, rfl, Or.inl w_2_208⟩
theorem fl_0_16 : xFL RX0 16 0 1 := ⟨RX0, TX0, 5, rfl, by decide, uw_0, rfl, Or.inl w_2_209⟩
theorem ms_0_49 : xMS RX0 49 yX0_choose cX0_choose 6 none 5 := ⟨w_4_227, w_4_228, w_1_16, w_4_229, neM_0, neV_0, rfl⟩
theorem fl_0_27 : xFL RX0 27 0 4 := ⟨RX0, TX0, 5, rfl, by decide, uw_0, rfl, Or.inl w_2_214⟩
theorem ft_0_4 : xFT 0 4 .int := ⟨RX0, TX0, 5, tyX0, rfl, rfl, tyX0_ok, nmX0, rfl⟩
theorem fl_0_20 : xFL RX0 20 0 2 := ⟨RX0, TX0, 5, rfl, by decide, uw_0, rfl, Or.inl w_2_210⟩
theorem mk_0_74 : Cond.methodLink RX0 74 arraycopyName ∈ GT := w_4_230
theorem fl_0_36 : xFL RX0 36 6 0 := ⟨RX7, TX7, 7, rfl, by decide, uw_7, rfl, Or.inr ⟨_, nw_2_32⟩⟩
theorem ml_0_41 : xML RX0 41 2 yX2_shutAt cX2_shutAt 2 (some .boolean) 1 := ⟨w_4_219, w_3_228, w_3_229, w_1_10, w_3_230, ⟨TX2, 15, rfl⟩, neM_2, neV_2, rfl⟩
theorem sel_yX0_countHour : Cond.selects yX0_countHour.cls yX0_countHour yX0_countHour ∈ GT := GT_in (psel (pin_1 (List.mem_of_getElem? (i := 8) rfl))) rfl
theorem ml_0_45 : xML RX0 45 0 yX0_countHour cX0_countHour 8 none 3 := ⟨w_4_220, w_4_222, sel_yX0_countHour, w_1_16, w_4_223, ⟨TX0, 5, rfl⟩, neM_0, neV_0, rfl⟩
theorem fl_0_23 : xFL RX0 23 0 3 := ⟨RX0, TX0, 5, rfl, by decide, uw_0, rfl, Or.inl w_2_212⟩
theorem ft_0_3 : xFT 0 3 .int := ⟨RX0, TX0, 5, tyX0, rfl, rfl, tyX0_ok, nmX0, rfl⟩
theorem fl_1_41 : xFL RX1 41 8 8 := ⟨RX9, TX9, 12, rfl, by decide, uw_9, rfl, Or.inr ⟨_, nw_1_123⟩⟩
theorem ml_1_56 : xML RX1 56 8 yX9_advance cX9_advance 2 none 0 := ⟨w_5_61, w_3_69, w_3_70, w_1_4, w_3_71, ⟨TX9, 12, rfl⟩, neM_9, neV_9, rfl⟩
theorem fl_1_59 : xFL RX1 59 2 10 := ⟨RX2, TX2, 15, rfl, by decide, uw_2, rfl, Or.inr ⟨_, nw_1_214⟩⟩
theorem fl_1_65 : xFL RX1 65 2 7 := ⟨RX2, TX2, 15, rfl, by decide, uw_2, rfl, Or.inr ⟨_, nw_1_198⟩⟩
theorem ml_1_68 : xML RX1 68 8 yX9_takeKnown cX9_takeKnown 4 (some .int) 2 := ⟨w_5_62, w_3_133, w_3_134, w_1_4, w_3_135, ⟨TX9, 12, rfl⟩, neM_9, neV_9, rfl⟩
theorem fl_1_72 : xFL RX1 72 2 9 := ⟨RX2, TX2, 15, rfl, by decide, uw_2, rfl, Or.inr ⟨_, nw_1_210⟩⟩
theorem fl_1_75 : xFL RX1 75 2 6 := ⟨RX2, TX2, 15, rfl, by decide, uw_2, rfl, Or.inr ⟨_, nw_1_192⟩⟩
theorem fl_1_82 : xFL RX1 82 2 11 := ⟨RX2, TX2, 15, rfl, by decide, uw_2, rfl, Or.inr ⟨_, nw_1_219⟩⟩
theorem fl_1_85 : xFL RX1 85 2 8 := ⟨RX2, TX2, 15, rfl, by decide, uw_2, rfl, Or.inr ⟨_, nw_1_206⟩⟩
theorem ml_1_78 : xML RX1 78 8 yX9_takeNumber cX9_takeNumber 4 (some .int) 2 := ⟨w_5_63, w_3_103, w_3_104, w_1_4, w_3_105, ⟨TX9, 12, rfl⟩, neM_9, neV_9, rfl⟩
theorem fl_1_16 : xFL RX1 16 1 1 := ⟨RX1, TX1, 7, rfl, by decide, uw_1, rfl, Or.inl w_2_126⟩
theorem ft_1_1 : xFT 1 1 .int := ⟨RX1, TX1, 7, tyX1, rfl, rfl, tyX1_ok, nmX1, rfl⟩
theorem fl_1_36 : xFL RX1 36 8 4 := ⟨RX9, TX9, 12, rfl, by decide, uw_9, rfl, Or.inr ⟨_, nw_1_115⟩⟩
theorem fl_1_13 : xFL RX1 13 1 0 := ⟨RX1, TX1, 7, rfl, by decide, uw_1, rfl, Or.inl w_2_125⟩
theorem ms_1_48 : xMS RX1 48 yX1_readLine cX1_readLine 3 (some .boolean) 3 := ⟨w_5_58, w_5_59, w_1_13, w_5_60, neM_1, neV_1, rfl⟩
theorem ml_1_52 : xML RX1 52 8 yX9_skipSign cX9_skipSign 2 (some .boolean) 1 := ⟨w_5_64, w_3_160, w_3_161, w_1_4, w_3_162, ⟨TX9, 12, rfl⟩, neM_9, neV_9, rfl⟩
theorem ml_1_44 : xML RX1 44 8 yX9_fail cX9_fail 2 (some .boolean) 1 := ⟨w_5_57, w_3_94, w_3_95, w_1_4, w_3_96, ⟨TX9, 12, rfl⟩, neM_9, neV_9, rfl⟩
theorem ml_1_101 : xML RX1 101 6 yX7_lendTo cX7_lendTo 4 (some .int) 3 := ⟨w_5_72, w_4_45, w_4_46, w_1_11, w_4_47, ⟨TX7, 7, rfl⟩, neM_7, neV_7, rfl⟩
theorem ml_1_105 : xML RX1 105 6 yX7_hushOne cX7_hushOne 2 (some .int) 1 := ⟨w_5_73, w_4_71, w_4_72, w_1_11, w_4_73, ⟨TX7, 7, rfl⟩, neM_7, neV_7, rfl⟩
theorem ml_1_109 : xML RX1 109 6 yX7_letOne cX7_letOne 2 (some .int) 1 := ⟨w_5_74, w_4_79, w_4_80, w_1_11, w_4_81, ⟨TX7, 7, rfl⟩, neM_7, neV_7, rfl⟩
theorem ml_1_112 : xML RX1 112 2 yX2_hasCell cX2_hasCell 3 (some .boolean) 2 := ⟨w_5_75, w_4_87, w_4_88, w_1_10, w_4_89, ⟨TX2, 15, rfl⟩, neM_2, neV_2, rfl⟩
theorem ml_1_116 : xML RX1 116 6 yX7_shoutIn cX7_shoutIn 4 (some .int) 3 := ⟨w_5_76, w_4_91, w_4_92, w_1_11, w_4_93, ⟨TX7, 7, rfl⟩, neM_7, neV_7, rfl⟩
theorem fl_1_92 : xFL RX1 92 6 0 := ⟨RX7, TX7, 7, rfl, by decide, uw_7, rfl, Or.inr ⟨_, nw_2_33⟩⟩
theorem ml_1_120 : xML RX1 120 6 yX7_passHour cX7_passHour 8 none 1 := ⟨w_5_77, w_4_104, w_4_105, w_1_11, w_4_106, ⟨TX7, 7, rfl⟩, neM_7, neV_7, rfl⟩
theorem fl_1_24 : xFL RX1 24 1 3 := ⟨RX1, TX1, 7, rfl, by decide, uw_1, rfl, Or.inl w_2_129⟩
theorem ft_1_3 : xFT 1 3 .int := ⟨RX1, TX1, 7, tyX1, rfl, rfl, tyX1_ok, nmX1, rfl⟩
theorem fl_1_27 : xFL RX1 27 1 4 := ⟨RX1, TX1, 7, rfl, by decide, uw_1, rfl, Or.inl w_2_131⟩
theorem ft_1_4 : xFT 1 4 .int := ⟨RX1, TX1, 7, tyX1, rfl, rfl, tyX1_ok, nmX1, rfl⟩
theorem ms_1_88 : xMS RX1 88 yX1_liveLine cX1_liveLine 4 (some .int) 3 := ⟨w_5_69, w_5_70, w_1_13, w_5_71, neM_1, neV_1, rfl⟩
theorem fl_1_30 : xFL RX1 30 1 5 := ⟨RX1, TX1, 7, rfl, by decide, uw_1, rfl, Or.inl w_2_133⟩
theorem ft_1_5 : xFT 1 5 .int := ⟨RX1, TX1, 7, tyX1, rfl, rfl, tyX1_ok, nmX1, rfl⟩
theorem ml_1_97 : xML RX1 97 6 yX7_lookingBits cX7_lookingBits 4 (some .int) 1 := ⟨w_5_78, w_3_220, w_3_221, w_1_11, w_3_222, ⟨TX7, 7, rfl⟩, neM_7, neV_7, rfl⟩
theorem fl_1_33 : xFL RX1 33 1 6 := ⟨RX1, TX1, 7, rfl, by decide, uw_1, rfl, Or.inl w_2_135⟩
theorem ft_1_6 : xFT 1 6 .int := ⟨RX1, TX1, 7, tyX1, rfl, rfl, tyX1_ok, nmX1, rfl⟩
theorem fl_1_20 : xFL RX1 20 1 2 := ⟨RX1, TX1, 7, rfl, by decide, uw_1, rfl, Or.inl w_2_127⟩
theorem ft_1_2 : xFT 1 2 .boolean := ⟨RX1, TX1, 7, tyX1, rfl, rfl, tyX1_ok, nmX1, rfl⟩
theorem fl_3_58 : xFL RX3 58 2 4 := ⟨RX2, TX2, 15, rfl, by decide, uw_2, rfl, Or.inr ⟨_, nw_1_186⟩⟩
theorem fl_3_62 : xFL RX3 62 2 6 := ⟨RX2, TX2, 15, rfl, by decide, uw_2, rfl, Or.inr ⟨_, nw_1_191⟩⟩
theorem fl_3_65 : xFL RX3 65 2 8 := ⟨RX2, TX2, 15, rfl, by decide, uw_2, rfl, Or.inr ⟨_, nw_1_205⟩⟩
theorem ml_3_68 : xML RX3 68 8 yX9_advance cX9_advance 2 none 0 := ⟨w_3_101, w_3_69, w_3_70, w_1_4, w_3_71, ⟨TX9, 12, rfl⟩, neM_9, neV_9, rfl⟩
theorem ml_3_71 : xML RX3 71 8 yX9_takeNumber cX9_takeNumber 4 (some .int) 2 := ⟨w_3_102, w_3_103, w_3_104, w_1_4, w_3_105, ⟨TX9, 12, rfl⟩, neM_9, neV_9, rfl⟩
theorem ml_3_50 : xML RX3 50 8 yX9_fail cX9_fail 2 (some .boolean) 1 := ⟨w_3_93, w_3_94, w_3_95, w_1_4, w_3_96, ⟨TX9, 12, rfl⟩, neM_9, neV_9, rfl⟩
theorem fl_3_75 : xFL RX3 75 2 0 := ⟨RX2, TX2, 15, rfl, by decide, uw_2, rfl, Or.inr ⟨_, nw_1_173⟩⟩
theorem fl_3_78 : xFL RX3 78 2 1 := ⟨RX2, TX2, 15, rfl, by decide, uw_2, rfl, Or.inr ⟨_, nw_1_178⟩⟩
theorem ml_3_81 : xML RX3 81 8 yX9_takeNewName cX9_takeNewName 4 (some .long) 1 := ⟨w_3_110, w_3_111, w_3_112, w_1_4, w_3_113, ⟨TX9, 12, rfl⟩, neM_9, neV_9, rfl⟩
theorem kc_3_85 : Cond.constantLong RX3 85 (-1) ∈ GT := w_3_120
theorem ml_3_87 : xML RX3 87 2 yX2_hasBedIn cX2_hasBedIn 4 (some .boolean) 2 := ⟨w_3_121, w_3_122, w_3_123, w_1_10, w_3_124, ⟨TX2, 15, rfl⟩, neM_2, neV_2, rfl⟩
theorem fl_3_94 : xFL RX3 94 2 9 := ⟨RX2, TX2, 15, rfl, by decide, uw_2, rfl, Or.inr ⟨_, nw_1_211⟩⟩
theorem fl_3_98 : xFL RX3 98 2 12 := ⟨RX2, TX2, 15, rfl, by decide, uw_2, rfl, Or.inr ⟨_, nw_1_223⟩⟩
theorem ml_3_91 : xML RX3 91 8 yX9_failBehind cX9_failBehind 2 (some .boolean) 1 := ⟨w_3_125, w_3_126, w_3_127, w_1_4, w_3_128, ⟨TX9, 12, rfl⟩, neM_9, neV_9, rfl⟩
theorem fl_3_102 : xFL RX3 102 2 7 := ⟨RX2, TX2, 15, rfl, by decide, uw_2, rfl, Or.inr ⟨_, nw_1_199⟩⟩
theorem ml_3_105 : xML RX3 105 8 yX9_takeKnown cX9_takeKnown 4 (some .int) 2 := ⟨w_3_132, w_3_133, w_3_134, w_1_4, w_3_135, ⟨TX9, 12, rfl⟩, neM_9, neV_9, rfl⟩
theorem ml_3_109 : xML RX3 109 2 yX2_hasOwlBy cX2_hasOwlBy 3 (some .boolean) 1 := ⟨w_3_136, w_3_137, w_3_138, w_1_10, w_3_139, ⟨TX2, 15, rfl⟩, neM_2, neV_2, rfl⟩
theorem fl_3_112 : xFL RX3 112 2 10 := ⟨RX2, TX2, 15, rfl, by decide, uw_2, rfl, Or.inr ⟨_, nw_1_215⟩⟩
theorem fl_3_115 : xFL RX3 115 2 13 := ⟨RX2, TX2, 15, rfl, by decide, uw_2, rfl, Or.inr ⟨_, nw_1_227⟩⟩
theorem ml_3_118 : xML RX3 118 8 yX9_takeWord cX9_takeWord 4 (some .int) 2 := ⟨w_3_143, w_3_144, w_3_145, w_1_4, w_3_146, ⟨TX9, 12, rfl⟩, neM_9, neV_9, rfl⟩
theorem fl_3_121 : xFL RX3 121 2 11 := ⟨RX2, TX2, 15, rfl, by decide, uw_2, rfl, Or.inr ⟨_, nw_1_220⟩⟩
theorem fl_3_124 : xFL RX3 124 2 14 := ⟨RX2, TX2, 15, rfl, by decide, uw_2, rfl, Or.inr ⟨_, nw_1_232⟩⟩
theorem fl_3_127 : xFL RX3 127 2 5 := ⟨RX2, TX2, 15, rfl, by decide, uw_2, rfl, Or.inr ⟨_, nw_1_188⟩⟩
theorem fl_3_130 : xFL RX3 130 2 2 := ⟨RX2, TX2, 15, rfl, by decide, uw_2, rfl, Or.inr ⟨_, nw_1_182⟩⟩
theorem fl_3_133 : xFL RX3 133 2 3 := ⟨RX2, TX2, 15, rfl, by decide, uw_2, rfl, Or.inr ⟨_, nw_1_184⟩⟩
theorem ml_3_9 : xML RX3 9 2 yX2_clear cX2_clear 1 none 0 := ⟨w_3_86, w_3_87, w_3_88, w_1_10, w_3_89, ⟨TX2, 15, rfl⟩, neM_2, neV_2, rfl⟩
theorem fl_3_16 : xFL RX3 16 8 4 := ⟨RX9, TX9, 12, rfl, by decide, uw_9, rfl, Or.inr ⟨_, nw_1_114⟩⟩
theorem fl_3_22 : xFL RX3 22 8 8 := ⟨RX9, TX9, 12, rfl, by decide, uw_9, rfl, Or.inr ⟨_, nw_1_122⟩⟩
theorem ms_3_25 : xMS RX3 25 yX3_readHouse cX3_readHouse 4 (some .boolean) 2 := ⟨w_3_90, w_3_91, w_1_18, w_3_92, neM_3, neV_3, rfl⟩
theorem ms_3_29 : xMS RX3 29 yX3_readBed cX3_readBed 7 (some .boolean) 2 := ⟨w_3_107, w_3_108, w_1_18, w_3_109, neM_3, neV_3, rfl⟩
theorem ms_3_32 : xMS RX3 32 yX3_readOwl cX3_readOwl 7 (some .boolean) 2 := ⟨w_3_129, w_3_130, w_1_18, w_3_131, neM_3, neV_3, rfl⟩
theorem ms_3_35 : xMS RX3 35 yX3_readBad cX3_readBad 3 (some .boolean) 2 := ⟨w_3_140, w_3_141, w_1_18, w_3_142, neM_3, neV_3, rfl⟩
theorem ms_3_38 : xMS RX3 38 yX3_readDeaf cX3_readDeaf 4 (some .boolean) 2 := ⟨w_3_147, w_3_148, w_1_18, w_3_149, neM_3, neV_3, rfl⟩
theorem ms_3_41 : xMS RX3 41 yX3_readSound cX3_readSound 11 (some .boolean) 2 := ⟨w_3_150, w_3_151, w_1_18, w_3_152, neM_3, neV_3, rfl⟩
theorem ms_3_44 : xMS RX3 44 yX3_readWants cX3_readWants 3 (some .boolean) 2 := ⟨w_3_153, w_3_154, w_1_18, w_3_155, neM_3, neV_3, rfl⟩
theorem ms_3_47 : xMS RX3 47 yX3_readShut cX3_readShut 4 (some .boolean) 2 := ⟨w_3_156, w_3_157, w_1_18, w_3_158, neM_3, neV_3, rfl⟩
theorem ml_3_54 : xML RX3 54 8 yX9_skipSign cX9_skipSign 2 (some .boolean) 1 := ⟨w_3_159, w_3_160, w_3_161, w_1_4, w_3_162, ⟨TX9, 12, rfl⟩, neM_9, neV_9, rfl⟩
theorem fl_4_16 : xFL RX4 16 3 1 := ⟨RX4, TX4, 4, rfl, by decide, uw_4, rfl, Or.inl w_2_98⟩
theorem ml_4_34 : xML RX4 34 2 yX2_copyFrom cX2_copyFrom 2 none 1 := ⟨w_3_175, w_3_176, w_3_177, w_1_10, w_3_178, ⟨TX2, 15, rfl⟩, neM_2, neV_2, rfl⟩
theorem fl_4_23 : xFL RX4 23 3 2 := ⟨RX4, TX4, 4, rfl, by decide, uw_4, rfl, Or.inl w_2_100⟩
theorem ml_4_38 : xML RX4 38 6 yX7_begin cX7_begin 3 none 1 := ⟨w_3_188, w_3_189, w_3_190, w_1_11, w_3_191, ⟨TX7, 7, rfl⟩, neM_7, neV_7, rfl⟩
theorem fl_4_30 : xFL RX4 30 3 3 := ⟨RX4, TX4, 4, rfl, by decide, uw_4, rfl, Or.inl w_2_102⟩
theorem fl_4_41 : xFL RX4 41 4 0 := ⟨RX5, TX5, 7, rfl, by decide, uw_5, rfl, Or.inr ⟨_, nw_2_71⟩⟩
theorem ft_5_0 : xFT 4 0 .boolean := ⟨RX5, TX5, 7, tyX5, rfl, rfl, tyX5_ok, nmX5, rfl⟩
theorem fl_5_11 : xFL RX5 11 4 0 := ⟨RX5, TX5, 7, rfl, by decide, uw_5, rfl, Or.inl w_2_70⟩
theorem fl_5_19 : xFL RX5 19 4 2 := ⟨RX5, TX5, 7, rfl, by decide, uw_5, rfl, Or.inl w_2_75⟩
theorem ft_5_2 : xFT 4 2 .int := ⟨RX5, TX5, 7, tyX5, rfl, rfl, tyX5_ok, nmX5, rfl⟩
theorem fl_5_22 : xFL RX5 22 4 3 := ⟨RX5, TX5, 7, rfl, by decide, uw_5, rfl, Or.inl w_2_76⟩
theorem mk_5_36 : Cond.methodLink RX5 36 arraycopyName ∈ GT := w_5_122
theorem fl_5_26 : xFL RX5 26 4 4 := ⟨RX5, TX5, 7, rfl, by decide, uw_5, rfl, Or.inl w_2_77⟩
theorem fl_5_29 : xFL RX5 29 4 5 := ⟨RX5, TX5, 7, rfl, by decide, uw_5, rfl, Or.inl w_2_78⟩
theorem fl_4_7 : xFL RX4 7 3 0 := ⟨RX4, TX4, 4, rfl, by decide, uw_4, rfl, Or.inl w_2_96⟩
theorem ft_4_0 : xFT 3 0 .boolean := ⟨RX4, TX4, 4, tyX4, rfl, rfl, tyX4_ok, nmX4, rfl⟩
theorem ml_4_42 : xML RX4 42 6 yX7_copyFrom cX7_copyFrom 2 none 1 := ⟨w_5_151, w_4_40, w_4_41, w_1_11, w_4_42, ⟨TX7, 7, rfl⟩, neM_7, neV_7, rfl⟩
theorem ml_4_45 : xML RX4 45 4 yX5_copyFrom cX5_copyFrom 2 none 1 := ⟨w_5_152, w_5_119, w_5_120, w_1_12, w_5_121, ⟨TX5, 7, rfl⟩, neM_5, neV_5, rfl⟩
theorem ml_5_81 : xML RX5 81 8 yX9_takeWord cX9_takeWord 4 (some .int) 2 := ⟨w_5_115, w_3_144, w_3_145, w_1_4, w_3_146, ⟨TX9, 12, rfl⟩, neM_9, neV_9, rfl⟩
theorem fl_5_85 : xFL RX5 85 2 10 := ⟨RX2, TX2, 15, rfl, by decide, uw_2, rfl, Or.inr ⟨_, nw_1_216⟩⟩
theorem fl_5_91 : xFL RX5 91 2 7 := ⟨RX2, TX2, 15, rfl, by decide, uw_2, rfl, Or.inr ⟨_, nw_1_201⟩⟩
theorem ml_5_94 : xML RX5 94 8 yX9_takeKnown cX9_takeKnown 4 (some .int) 2 := ⟨w_5_116, w_3_133, w_3_134, w_1_4, w_3_135, ⟨TX9, 12, rfl⟩, neM_9, neV_9, rfl⟩
theorem ml_5_71 : xML RX5 71 8 yX9_isSign cX9_isSign 2 (some .boolean) 1 := ⟨w_5_103, w_3_164, w_3_165, w_1_4, w_3_166, ⟨TX9, 12, rfl⟩, neM_9, neV_9, rfl⟩
theorem ml_5_51 : xML RX5 51 8 yX9_fail cX9_fail 2 (some .boolean) 1 := ⟨w_5_104, w_3_94, w_3_95, w_1_4, w_3_96, ⟨TX9, 12, rfl⟩, neM_9, neV_9, rfl⟩
theorem sel_yX5_addStep : Cond.selects yX5_addStep.cls yX5_addStep yX5_addStep ∈ GT := GT_in (psel (pin_1 (List.mem_of_getElem? (i := 13) rfl))) rfl
theorem ml_5_64 : xML RX5 64 4 yX5_addStep cX5_addStep 4 none 3 := ⟨w_5_107, w_5_109, sel_yX5_addStep, w_1_12, w_5_110, ⟨TX5, 7, rfl⟩, neM_5, neV_5, rfl⟩
theorem fl_5_98 : xFL RX5 98 8 7 := ⟨RX9, TX9, 12, rfl, by decide, uw_9, rfl, Or.inr ⟨_, nw_1_120⟩⟩
theorem ml_5_61 : xML RX5 61 8 yX9_advance cX9_advance 2 none 0 := ⟨w_5_105, w_3_69, w_3_70, w_1_4, w_3_71, ⟨TX9, 12, rfl⟩, neM_9, neV_9, rfl⟩
theorem ml_5_101 : xML RX5 101 8 yX9_takeNumber cX9_takeNumber 4 (some .int) 2 := ⟨w_5_117, w_3_103, w_3_104, w_1_4, w_3_105, ⟨TX9, 12, rfl⟩, neM_9, neV_9, rfl⟩
theorem sel_yX5_readOne : Cond.selects yX5_readOne.cls yX5_readOne yX5_readOne ∈ GT := GT_in (psel (pin_1 (List.mem_of_getElem? (i := 12) rfl))) rfl
theorem ml_5_68 : xML RX5 68 4 yX5_readOne cX5_readOne 6 (some .boolean) 3 := ⟨w_5_99, w_5_101, sel_yX5_readOne, w_1_12, w_5_102, ⟨TX5, 7, rfl⟩, neM_5, neV_5, rfl⟩
theorem fl_5_58 : xFL RX5 58 8 8 := ⟨RX9, TX9, 12, rfl, by decide, uw_9, rfl, Or.inr ⟨_, nw_1_124⟩⟩
theorem sel_yX5_readAlls : Cond.selects yX5_readAlls.cls yX5_readAlls yX5_readAlls ∈ GT := GT_in (psel (pin_1 (List.mem_of_getElem? (i := 11) rfl))) rfl
theorem ml_5_55 : xML RX5 55 4 yX5_readAlls cX5_readAlls 5 (some .boolean) 3 := ⟨w_5_95, w_5_97, sel_yX5_readAlls, w_1_12, w_5_98, ⟨TX5, 7, rfl⟩, neM_5, neV_5, rfl⟩
theorem fl_5_15 : xFL RX5 15 4 1 := ⟨RX5, TX5, 7, rfl, by decide, uw_5, rfl, Or.inl w_2_73⟩
theorem ft_5_1 : xFT 4 1 .int := ⟨RX5, TX5, 7, tyX5, rfl, rfl, tyX5_ok, nmX5, rfl⟩
theorem sel_yX5_readPlain : Cond.selects yX5_readPlain.cls yX5_readPlain yX5_readPlain ∈ GT := GT_in (psel (pin_1 (List.mem_of_getElem? (i := 14) rfl))) rfl
theorem ml_5_78 : xML RX5 78 4 yX5_readPlain cX5_readPlain 6 (some .boolean) 3 := ⟨w_5_111, w_5_113, sel_yX5_readPlain, w_1_12, w_5_114, ⟨TX5, 7, rfl⟩, neM_5, neV_5, rfl⟩
theorem sel_yX5_readCond : Cond.selects yX5_readCond.cls yX5_readCond yX5_readCond ∈ GT := GT_in (psel (pin_1 (List.mem_of_getElem? (i := 10) rfl))) rfl
theorem ml_5_42 : xML RX5 42 4 yX5_readCond cX5_readCond 5 (some .boolean) 3 := ⟨w_5_91, w_5_93, sel_yX5_readCond, w_1_12, w_5_94, ⟨TX5, 7, rfl⟩, neM_5, neV_5, rfl⟩
theorem ml_5_75 : xML RX5 75 8 yX9_skipSign cX9_skipSign 2 (some .boolean) 1 := ⟨w_5_106, w_3_160, w_3_161, w_1_4, w_3_162, ⟨TX9, 12, rfl⟩, neM_9, neV_9, rfl⟩
theorem fl_5_46 : xFL RX5 46 8 4 := ⟨RX9, TX9, 12, rfl, by decide, uw_9, rfl, Or.inr ⟨_, nw_1_116⟩⟩
theorem fl_5_130 : xFL RX5 130 6 5 := ⟨RX7, TX7, 7, rfl, by decide, uw_7, rfl, Or.inr ⟨_, nw_2_45⟩⟩
theorem fl_5_133 : xFL RX5 133 6 6 := ⟨RX7, TX7, 7, rfl, by decide, uw_7, rfl, Or.inr ⟨_, nw_2_48⟩⟩
theorem ml_5_104 : xML RX5 104 6 yX7_owlAt cX7_owlAt 4 (some .int) 2 := ⟨w_5_131, w_4_49, w_4_50, w_1_11, w_4_51, ⟨TX7, 7, rfl⟩, neM_7, neV_7, rfl⟩
theorem ml_5_122 : xML RX5 122 6 yX7_sideFrom cX7_sideFrom 4 (some .int) 3 := ⟨w_5_141, w_4_146, w_4_147, w_1_11, w_4_148, ⟨TX7, 7, rfl⟩, neM_7, neV_7, rfl⟩
theorem ml_5_126 : xML RX5 126 6 yX7_rowOf cX7_rowOf 3 (some (.array .int)) 2 := ⟨w_5_142, w_3_238, w_3_239, w_1_11, w_4_0, ⟨TX7, 7, rfl⟩, neM_7, neV_7, rfl⟩
theorem ml_5_110 : xML RX5 110 6 yX7_lookOf cX7_lookOf 5 (some .int) 4 := ⟨w_5_132, w_3_224, w_3_225, w_1_11, w_3_226, ⟨TX7, 7, rfl⟩, neM_7, neV_7, rfl⟩
theorem fl_5_32 : xFL RX5 32 4 6 := ⟨RX5, TX5, 7, rfl, by decide, uw_5, rfl, Or.inl w_2_79⟩
theorem sel_yX5_isSo : Cond.selects yX5_isSo.cls yX5_isSo yX5_isSo ∈ GT := GT_in (psel (pin_2 (List.mem_of_getElem? (i := 0) rfl))) rfl
theorem ml_5_118 : xML RX5 118 4 yX5_isSo cX5_isSo 7 (some .boolean) 5 := ⟨w_5_137, w_5_139, sel_yX5_isSo, w_1_12, w_5_140, ⟨TX5, 7, rfl⟩, neM_5, neV_5, rfl⟩
theorem sel_yX5_compares : Cond.selects yX5_compares.cls yX5_compares yX5_compares ∈ GT := GT_in (psel (pin_1 (List.mem_of_getElem? (i := 15) rfl))) rfl
theorem ml_5_114 : xML RX5 114 4 yX5_compares cX5_compares 6 (some .boolean) 3 := ⟨w_5_133, w_5_135, sel_yX5_compares, w_1_12, w_5_136, ⟨TX5, 7, rfl⟩, neM_5, neV_5, rfl⟩
theorem fl_6_63 : xFL RX6 63 7 1 := ⟨RX8, TX8, 2, rfl, by decide, uw_8, rfl, Or.inr ⟨_, nw_1_44⟩⟩
theorem ml_6_35 : xML RX6 35 7 yX8_at cX8_at 2 (some .int) 1 := ⟨w_4_172, w_3_73, w_3_74, w_1_2, w_3_75, ⟨TX8, 2, rfl⟩, neM_8, neV_8, rfl⟩
theorem ml_6_66 : xML RX6 66 2 yX2_hasOwl cX2_hasOwl 2 (some .boolean) 1 := ⟨w_4_173, w_4_32, w_4_33, w_1_10, w_4_34, ⟨TX2, 15, rfl⟩, neM_2, neV_2, rfl⟩
theorem fl_6_70 : xFL RX6 70 6 4 := ⟨RX7, TX7, 7, rfl, by decide, uw_7, rfl, Or.inr ⟨_, nw_2_41⟩⟩
theorem fl_6_18 : xFL RX6 18 5 2 := ⟨RX6, TX6, 6, rfl, by decide, uw_6, rfl, Or.inl w_2_182⟩
theorem ml_6_75 : xML RX6 75 2 yX2_heardSide cX2_heardSide 6 (some .int) 3 := ⟨w_4_178, w_4_3, w_4_4, w_1_10, w_4_5, ⟨TX2, 15, rfl⟩, neM_2, neV_2, rfl⟩
theorem fl_6_21 : xFL RX6 21 5 3 := ⟨RX6, TX6, 6, rfl, by decide, uw_6, rfl, Or.inl w_2_183⟩
theorem fl_6_24 : xFL RX6 24 5 4 := ⟨RX6, TX6, 6, rfl, by decide, uw_6, rfl, Or.inl w_2_184⟩
theorem fl_6_11 : xFL RX6 11 5 0 := ⟨RX6, TX6, 6, rfl, by decide, uw_6, rfl, Or.inl w_2_179⟩
theorem mm_max : Cond.static Lib.Math.max.name ∈ GT ∧ Cond.initialized "java/lang/Math" ∈ GT ∧ Cond.code Lib.Math.max.name Lib.Math.max.code 2 (some .int) ∈ GT := ⟨w_1_39, w_1_3, w_1_40⟩
theorem mk_6_86 : Cond.methodLink RX6 86 Lib.Math.max.name ∈ GT := w_4_188
theorem fl_6_79 : xFL RX6 79 2 7 := ⟨RX2, TX2, 15, rfl, by decide, uw_2, rfl, Or.inr ⟨_, nw_1_200⟩⟩
theorem sel_yX6_mostLeft : Cond.selects yX6_mostLeft.cls yX6_mostLeft yX6_mostLeft ∈ GT := GT_in (psel (pin_1 (List.mem_of_getElem? (i := 7) rfl))) rfl
theorem ml_6_82 : xML RX6 82 5 yX6_mostLeft cX6_mostLeft 7 (some .int) 3 := ⟨w_4_184, w_4_186, sel_yX6_mostLeft, w_1_15, w_4_187, ⟨TX6, 6, rfl⟩, neM_6, neV_6, rfl⟩
theorem ms_6_31 : xMS RX6 31 yX6_isAsTold cX6_isAsTold 5 (some .boolean) 2 := ⟨w_4_169, w_4_170, w_1_15, w_4_171, neM_6, neV_6, rfl⟩
theorem fl_6_41 : xFL RX6 41 2 1 := ⟨RX2, TX2, 15, rfl, by decide, uw_2, rfl, Or.inr ⟨_, nw_1_177⟩⟩
theorem fl_6_15 : xFL RX6 15 5 1 := ⟨RX6, TX6, 6, rfl, by decide, uw_6, rfl, Or.inl w_2_181⟩
theorem mk_6_53 : Cond.methodLink RX6 53 arraycopyName ∈ GT := w_4_179
theorem ft_6_4 : xFT 5 4 .int := ⟨RX6, TX6, 6, tyX6, rfl, rfl, tyX6_ok, nmX6, rfl⟩
theorem sel_yX6_findNext : Cond.selects yX6_findNext.cls yX6_findNext yX6_findNext ∈ GT := GT_in (psel (pin_1 (List.mem_of_getElem? (i := 6) rfl))) rfl
theorem ml_6_59 : xML RX6 59 5 yX6_findNext cX6_findNext 7 (some .int) 2 := ⟨w_4_180, w_4_182, sel_yX6_findNext, w_1_15, w_4_183, ⟨TX6, 6, rfl⟩, neM_6, neV_6, rfl⟩
theorem fl_6_28 : xFL RX6 28 5 5 := ⟨RX6, TX6, 6, rfl, by decide, uw_6, rfl, Or.inl w_2_186⟩
theorem ft_6_5 : xFT 5 5 .int := ⟨RX6, TX6, 6, tyX6, rfl, rfl, tyX6_ok, nmX6, rfl⟩
theorem fl_6_46 : xFL RX6 46 2 0 := ⟨RX2, TX2, 15, rfl, by decide, uw_2, rfl, Or.inr ⟨_, nw_1_172⟩⟩
theorem sel_yX6_fits : Cond.selects yX6_fits.cls yX6_fits yX6_fits ∈ GT := GT_in (psel (pin_1 (List.mem_of_getElem? (i := 5) rfl))) rfl
theorem ml_6_49 : xML RX6 49 5 yX6_fits cX6_fits 7 (some .boolean) 3 := ⟨w_4_174, w_4_176, sel_yX6_fits, w_1_15, w_4_177, ⟨TX6, 6, rfl⟩, neM_6, neV_6, rfl⟩
theorem fl_10_21 : xFL RX10 21 9 2 := ⟨RX10, TX10, 3, rfl, by decide, uw_10, rfl, Or.inl w_2_165⟩
theorem ft_10_2 : xFT 9 2 .int := ⟨RX10, TX10, 3, tyX10, rfl, rfl, tyX10_ok, nmX10, rfl⟩
theorem fl_10_13 : xFL RX10 13 9 0 := ⟨RX10, TX10, 3, rfl, by decide, uw_10, rfl, Or.inl w_2_163⟩
theorem fl_10_17 : xFL RX10 17 9 1 := ⟨RX10, TX10, 3, rfl, by decide, uw_10, rfl, Or.inl w_2_164⟩
theorem ml_10_25 : xML RX10 25 6 yX7_copyFrom cX7_copyFrom 2 none 1 := ⟨w_4_64, w_4_40, w_4_41, w_1_11, w_4_42, ⟨TX7, 7, rfl⟩, neM_7, neV_7, rfl⟩
theorem ft_10_1 : xFT 9 1 .int := ⟨RX10, TX10, 3, tyX10, rfl, rfl, tyX10_ok, nmX10, rfl⟩
theorem mk_10_29 : Cond.methodLink RX10 29 Lib.Math.min.name ∈ GT := w_4_65
theorem fl_11_14 : xFL RX11 14 10 0 := ⟨RX11, TX11, 19, rfl, by decide, uw_11, rfl, Or.inl w_2_226⟩
theorem fl_11_113 : xFL RX11 113 7 1 := ⟨RX8, TX8, 2, rfl, by decide, uw_8, rfl, Or.inr ⟨_, nw_1_43⟩⟩
theorem ml_11_116 : xML RX11 116 7 yX8_addFour cX8_addFour 3 none 1 := ⟨w_3_48, w_3_49, w_3_50, w_1_2, w_3_51, ⟨TX8, 2, rfl⟩, neM_8, neV_8, rfl⟩
theorem fl_11_23 : xFL RX11 23 10 1 := ⟨RX11, TX11, 19, rfl, by decide, uw_11, rfl, Or.inl w_2_227⟩
theorem fl_11_141 : xFL RX11 141 8 10 := ⟨RX9, TX9, 12, rfl, by decide, uw_9, rfl, Or.inr ⟨_, nw_1_127⟩⟩
theorem fl_11_110 : xFL RX11 110 10 18 := ⟨RX11, TX11, 19, rfl, by decide, uw_11, rfl, Or.inl w_3_4⟩
theorem ft_11_18 : xFT 10 18 .int := ⟨RX11, TX11, 19, tyX11, rfl, rfl, tyX11_ok, nmX11, rfl⟩
theorem ml_11_121 : xML RX11 121 8 yX9_start cX9_start 2 none 1 := ⟨w_3_64, w_3_65, w_3_66, w_1_4, w_3_67, ⟨TX9, 12, rfl⟩, neM_9, neV_9, rfl⟩
theorem fl_11_41 : xFL RX11 41 10 4 := ⟨RX11, TX11, 19, rfl, by decide, uw_11, rfl, Or.inl w_2_230⟩
theorem ms_11_124 : xMS RX11 124 yX3_readAll cX3_readAll 4 (some .int) 2 := ⟨w_3_83, w_3_84, w_1_18, w_3_85, neM_3, neV_3, rfl⟩
theorem sel_yX11_endText : Cond.selects yX11_endText.cls yX11_endText yX11_endText ∈ GT := GT_in (psel (pin_1 (List.mem_of_getElem? (i := 2) rfl))) rfl
theorem ml_11_128 : xML RX11 128 10 yX11_endText cX11_endText 1 none 0 := ⟨w_3_167, w_3_169, sel_yX11_endText, w_1_1, w_3_170, ⟨TX11, 19, rfl⟩, neM_11, neV_11, rfl⟩
theorem fl_11_30 : xFL RX11 30 10 2 := ⟨RX11, TX11, 19, rfl, by decide, uw_11, rfl, Or.inl w_2_228⟩
theorem ml_11_134 : xML RX11 134 3 yX4_begin cX4_begin 2 none 1 := ⟨w_3_171, w_3_172, w_3_173, w_1_9, w_3_174, ⟨TX4, 4, rfl⟩, neM_4, neV_4, rfl⟩
theorem fl_11_69 : xFL RX11 69 10 8 := ⟨RX11, TX11, 19, rfl, by decide, uw_11, rfl, Or.inl w_2_234⟩
theorem ml_11_138 : xML RX11 138 9 yX10_forget cX10_forget 1 none 0 := ⟨w_3_192, w_3_193, w_3_194, w_1_14, w_3_195, ⟨TX10, 3, rfl⟩, neM_10, neV_10, rfl⟩
theorem fl_11_131 : xFL RX11 131 8 11 := ⟨RX9, TX9, 12, rfl, by decide, uw_9, rfl, Or.inr ⟨_, nw_1_129⟩⟩
theorem fl_11_144 : xFL RX11 144 3 1 := ⟨RX4, TX4, 4, rfl, by decide, uw_4, rfl, Or.inr ⟨_, nw_2_99⟩⟩
theorem ml_11_194 : xML RX11 194 2 yX2_hasSound cX2_hasSound 2 (some .boolean) 1 := ⟨w_3_204, w_3_205, w_3_206, w_1_10, w_3_207, ⟨TX2, 15, rfl⟩, neM_2, neV_2, rfl⟩
theorem fl_11_147 : xFL RX11 147 3 2 := ⟨RX4, TX4, 4, rfl, by decide, uw_4, rfl, Or.inr ⟨_, nw_2_101⟩⟩
theorem ml_11_200 : xML RX11 200 6 yX7_onBits cX7_onBits 6 (some .int) 2 := ⟨w_3_208, w_3_209, w_3_210, w_1_11, w_3_211, ⟨TX7, 7, rfl⟩, neM_7, neV_7, rfl⟩
theorem fl_11_203 : xFL RX11 203 6 1 := ⟨RX7, TX7, 7, rfl, by decide, uw_7, rfl, Or.inr ⟨_, nw_2_36⟩⟩
theorem fl_11_197 : xFL RX11 197 2 14 := ⟨RX2, TX2, 15, rfl, by decide, uw_2, rfl, Or.inr ⟨_, nw_1_233⟩⟩
theorem fl_11_206 : xFL RX11 206 6 0 := ⟨RX7, TX7, 7, rfl, by decide, uw_7, rfl, Or.inr ⟨_, nw_2_34⟩⟩
theorem ml_11_209 : xML RX11 209 6 yX7_lookingBits cX7_lookingBits 4 (some .int) 1 := ⟨w_3_219, w_3_220, w_3_221, w_1_11, w_3_222, ⟨TX7, 7, rfl⟩, neM_7, neV_7, rfl⟩
theorem ml_11_213 : xML RX11 213 2 yX2_shutAt cX2_shutAt 2 (some .boolean) 1 := ⟨w_4_19, w_3_228, w_3_229, w_1_10, w_3_230, ⟨TX2, 15, rfl⟩, neM_2, neV_2, rfl⟩
theorem fl_11_169 : xFL RX11 169 6 5 := ⟨RX7, TX7, 7, rfl, by decide, uw_7, rfl, Or.inr ⟨_, nw_2_44⟩⟩
theorem fl_11_216 : xFL RX11 216 2 6 := ⟨RX2, TX2, 15, rfl, by decide, uw_2, rfl, Or.inr ⟨_, nw_1_193⟩⟩
theorem ms_11_219 : xMS RX11 219 yX7_total cX7_total 4 (some .int) 2 := ⟨w_4_20, w_4_21, w_1_11, w_4_22, neM_7, neV_7, rfl⟩
theorem fl_11_172 : xFL RX11 172 6 6 := ⟨RX7, TX7, 7, rfl, by decide, uw_7, rfl, Or.inr ⟨_, nw_2_47⟩⟩
theorem fl_11_223 : xFL RX11 223 6 2 := ⟨RX7, TX7, 7, rfl, by decide, uw_7, rfl, Or.inr ⟨_, nw_2_38⟩⟩
theorem fl_11_226 : xFL RX11 226 2 7 := ⟨RX2, TX2, 15, rfl, by decide, uw_2, rfl, Or.inr ⟨_, nw_1_202⟩⟩
theorem fl_11_229 : xFL RX11 229 2 8 := ⟨RX2, TX2, 15, rfl, by decide, uw_2, rfl, Or.inr ⟨_, nw_1_208⟩⟩
theorem fl_11_232 : xFL RX11 232 2 0 := ⟨RX2, TX2, 15, rfl, by decide, uw_2, rfl, Or.inr ⟨_, nw_1_174⟩⟩
theorem fl_11_235 : xFL RX11 235 2 1 := ⟨RX2, TX2, 15, rfl, by decide, uw_2, rfl, Or.inr ⟨_, nw_1_179⟩⟩
theorem ml_11_283 : xML RX11 283 9 yX10_keep cX10_keep 2 none 1 := ⟨w_4_60, w_4_61, w_4_62, w_1_14, w_4_63, ⟨TX10, 3, rfl⟩, neM_10, neV_10, rfl⟩
theorem fl_11_62 : xFL RX11 62 10 7 := ⟨RX11, TX11, 19, rfl, by decide, uw_11, rfl, Or.inl w_2_233⟩
theorem ml_11_238 : xML RX11 238 6 yX7_copyFrom cX7_copyFrom 2 none 1 := ⟨w_4_39, w_4_40, w_4_41, w_1_11, w_4_42, ⟨TX7, 7, rfl⟩, neM_7, neV_7, rfl⟩
theorem sel_yX11_keepTrial : Cond.selects yX11_keepTrial.cls yX11_keepTrial yX11_keepTrial ∈ GT := GT_in (psel (pin_1 (List.mem_of_getElem? (i := 4) rfl))) rfl
theorem ml_11_272 : xML RX11 272 10 yX11_keepTrial cX11_keepTrial 1 none 0 := ⟨w_4_56, w_4_58, sel_yX11_keepTrial, w_1_1, w_4_59, ⟨TX11, 19, rfl⟩, neM_11, neV_11, rfl⟩
theorem ml_11_175 : xML RX11 175 2 yX2_hasOwl cX2_hasOwl 2 (some .boolean) 1 := ⟨w_4_31, w_4_32, w_4_33, w_1_10, w_4_34, ⟨TX2, 15, rfl⟩, neM_2, neV_2, rfl⟩
theorem ml_11_150 : xML RX11 150 2 yX2_hasBed cX2_hasBed 2 (some .boolean) 1 := ⟨w_4_35, w_4_36, w_4_37, w_1_10, w_4_38, ⟨TX2, 15, rfl⟩, neM_2, neV_2, rfl⟩
theorem ml_11_242 : xML RX11 242 6 yX7_lendTo cX7_lendTo 4 (some .int) 3 := ⟨w_4_44, w_4_45, w_4_46, w_1_11, w_4_47, ⟨TX7, 7, rfl⟩, neM_7, neV_7, rfl⟩
theorem sel_yX11_keepDone : Cond.selects yX11_keepDone.cls yX11_keepDone yX11_keepDone ∈ GT := GT_in (psel (pin_1 (List.mem_of_getElem? (i := 3) rfl))) rfl
theorem ml_11_245 : xML RX11 245 10 yX11_keepDone cX11_keepDone 2 (some .int) 1 := ⟨w_4_52, w_4_54, sel_yX11_keepDone, w_1_1, w_4_55, ⟨TX11, 19, rfl⟩, neM_11, neV_11, rfl⟩
theorem ml_11_249 : xML RX11 249 6 yX7_hushOne cX7_hushOne 2 (some .int) 1 := ⟨w_4_70, w_4_71, w_4_72, w_1_11, w_4_73, ⟨TX7, 7, rfl⟩, neM_7, neV_7, rfl⟩
theorem ml_11_252 : xML RX11 252 6 yX7_letOne cX7_letOne 2 (some .int) 1 := ⟨w_4_78, w_4_79, w_4_80, w_1_11, w_4_81, ⟨TX7, 7, rfl⟩, neM_7, neV_7, rfl⟩
theorem ml_11_255 : xML RX11 255 2 yX2_hasCell cX2_hasCell 3 (some .boolean) 2 := ⟨w_4_86, w_4_87, w_4_88, w_1_10, w_4_89, ⟨TX2, 15, rfl⟩, neM_2, neV_2, rfl⟩
theorem ml_11_259 : xML RX11 259 6 yX7_shoutIn cX7_shoutIn 4 (some .int) 3 := ⟨w_4_90, w_4_91, w_4_92, w_1_11, w_4_93, ⟨TX7, 7, rfl⟩, neM_7, neV_7, rfl⟩
theorem mk_11_263 : Cond.methodLink RX11 263 Lib.Math.min.name ∈ GT := w_4_102
theorem ml_11_269 : xML RX11 269 6 yX7_passHour cX7_passHour 8 none 1 := ⟨w_4_103, w_4_104, w_4_105, w_1_11, w_4_106, ⟨TX7, 7, rfl⟩, neM_7, neV_7, rfl⟩
theorem ml_11_275 : xML RX11 275 6 yX7_passDrawn cX7_passDrawn 8 none 3 := ⟨w_4_111, w_4_112, w_4_113, w_1_11, w_4_114, ⟨TX7, 7, rfl⟩, neM_7, neV_7, rfl⟩
theorem ml_11_279 : xML RX11 279 9 yX10_takeBack cX10_takeBack 2 (some .int) 1 := ⟨w_4_128, w_4_129, w_4_130, w_1_14, w_4_131, ⟨TX10, 3, rfl⟩, neM_10, neV_10, rfl⟩
theorem fl_11_180 : xFL RX11 180 6 4 := ⟨RX7, TX7, 7, rfl, by decide, uw_7, rfl, Or.inr ⟨_, nw_2_42⟩⟩
theorem ml_11_286 : xML RX11 286 6 yX7_heardNow cX7_heardNow 4 (some .int) 3 := ⟨w_4_136, w_4_137, w_4_138, w_1_11, w_4_139, ⟨TX7, 7, rfl⟩, neM_7, neV_7, rfl⟩
theorem ml_11_186 : xML RX11 186 6 yX7_lookOf cX7_lookOf 5 (some .int) 4 := ⟨w_4_144, w_3_224, w_3_225, w_1_11, w_3_226, ⟨TX7, 7, rfl⟩, neM_7, neV_7, rfl⟩
theorem ml_11_190 : xML RX11 190 6 yX7_sideFrom cX7_sideFrom 4 (some .int) 3 := ⟨w_4_145, w_4_146, w_4_147, w_1_11, w_4_148, ⟨TX7, 7, rfl⟩, neM_7, neV_7, rfl⟩
theorem ml_11_165 : xML RX11 165 6 yX7_owlAt cX7_owlAt 4 (some .int) 2 := ⟨w_4_158, w_4_49, w_4_50, w_1_11, w_4_51, ⟨TX7, 7, rfl⟩, neM_7, neV_7, rfl⟩
theorem ml_11_295 : xML RX11 295 6 yX7_rowOf cX7_rowOf 3 (some (.array .int)) 2 := ⟨w_4_159, w_3_238, w_3_239, w_1_11, w_4_0, ⟨TX7, 7, rfl⟩, neM_7, neV_7, rfl⟩
theorem ml_11_291 : xML RX11 291 2 yX2_loudAt cX2_loudAt 5 (some .int) 2 := ⟨w_4_160, w_4_11, w_4_12, w_1_10, w_4_13, ⟨TX2, 15, rfl⟩, neM_2, neV_2, rfl⟩
theorem fl_11_76 : xFL RX11 76 10 9 := ⟨RX11, TX11, 19, rfl, by decide, uw_11, rfl, Or.inl w_2_235⟩
theorem ml_11_299 : xML RX11 299 5 yX6_find cX6_find 7 (some .int) 3 := ⟨w_4_165, w_4_166, w_4_167, w_1_15, w_4_168, ⟨TX6, 6, rfl⟩, neM_6, neV_6, rfl⟩
theorem fl_11_303 : xFL RX11 303 5 4 := ⟨RX6, TX6, 6, rfl, by decide, uw_6, rfl, Or.inr ⟨_, nw_2_185⟩⟩
theorem fl_11_306 : xFL RX11 306 5 0 := ⟨RX6, TX6, 6, rfl, by decide, uw_6, rfl, Or.inr ⟨_, nw_2_180⟩⟩
theorem fl_11_309 : xFL RX11 309 5 5 := ⟨RX6, TX6, 6, rfl, by decide, uw_6, rfl, Or.inr ⟨_, nw_2_187⟩⟩
theorem ml_11_312 : xML RX11 312 7 yX8_at cX8_at 2 (some .int) 1 := ⟨w_4_201, w_3_73, w_3_74, w_1_2, w_3_75, ⟨TX8, 2, rfl⟩, neM_8, neV_8, rfl⟩
theorem mk_11_315 : Cond.methodLink RX11 315 Lib.Math.max.name ∈ GT := w_4_202
theorem fl_11_101 : xFL RX11 101 10 15 := ⟨RX11, TX11, 19, rfl, by decide, uw_11, rfl, Or.inl w_3_1⟩
theorem ft_11_15 : xFT 10 15 .int := ⟨RX11, TX11, 19, tyX11, rfl, rfl, tyX11_ok, nmX11, rfl⟩
theorem fl_11_104 : xFL RX11 104 10 16 := ⟨RX11, TX11, 19, rfl, by decide, uw_11, rfl, Or.inl w_3_2⟩
theorem ft_11_16 : xFT 10 16 .int := ⟨RX11, TX11, 19, tyX11, rfl, rfl, tyX11_ok, nmX11, rfl⟩
theorem fl_11_83 : xFL RX11 83 10 10 := ⟨RX11, TX11, 19, rfl, by decide, uw_11, rfl, Or.inl w_2_236⟩
theorem ml_11_318 : xML RX11 318 0 yX0_find cX0_find 5 (some .int) 2 := ⟨w_4_215, w_4_216, w_4_217, w_1_16, w_4_218, ⟨TX0, 5, rfl⟩, neM_0, neV_0, rfl⟩
theorem fl_11_321 : xFL RX11 321 0 3 := ⟨RX0, TX0, 5, rfl, by decide, uw_0, rfl, Or.inr ⟨_, nw_2_213⟩⟩
theorem fl_11_322 : xFL RX11 322 0 2 := ⟨RX0, TX0, 5, rfl, by decide, uw_0, rfl, Or.inr ⟨_, nw_2_211⟩⟩
theorem ml_11_334 : xML RX11 334 2 yX2_heardSide cX2_heardSide 6 (some .int) 3 := ⟨w_5_3, w_4_3, w_4_4, w_1_10, w_4_5, ⟨TX2, 15, rfl⟩, neM_2, neV_2, rfl⟩
theorem fl_11_94 : xFL RX11 94 10 13 := ⟨RX11, TX11, 19, rfl, by decide, uw_11, rfl, Or.inl w_2_239⟩
theorem sel_yX11_soundOnSide : Cond.selects yX11_soundOnSide.cls yX11_soundOnSide yX11_soundOnSide ∈ GT := GT_in (psel (pin_1 (List.mem_of_getElem? (i := 9) rfl))) rfl
theorem ml_11_325 : xML RX11 325 10 yX11_soundOnSide cX11_soundOnSide 6 (some .int) 2 := ⟨w_4_239, w_5_1, sel_yX11_soundOnSide, w_1_1, w_5_2, ⟨TX11, 19, rfl⟩, neM_11, neV_11, rfl⟩
theorem fl_11_90 : xFL RX11 90 10 12 := ⟨RX11, TX11, 19, rfl, by decide, uw_11, rfl, Or.inl w_2_238⟩
theorem mk_11_328 : Cond.methodLink RX11 328 arraycopyName ∈ GT := w_5_4
theorem fl_11_97 : xFL RX11 97 10 14 := ⟨RX11, TX11, 19, rfl, by decide, uw_11, rfl, Or.inl w_3_0⟩
theorem ft_11_14 : xFT 10 14 .int := ⟨RX11, TX11, 19, tyX11, rfl, rfl, tyX11_ok, nmX11, rfl⟩
theorem ml_11_342 : xML RX11 342 6 yX7_loudest cX7_loudest 8 (some .int) 3 := ⟨w_5_16, w_4_15, w_4_16, w_1_11, w_4_17, ⟨TX7, 7, rfl⟩, neM_7, neV_7, rfl⟩
theorem ms_11_338 : xMS RX11 338 yX11_endsOn cX11_endsOn 10 (some .boolean) 7 := ⟨w_5_13, w_5_14, w_1_1, w_5_15, neM_11, neV_11, rfl⟩
theorem fl_11_107 : xFL RX11 107 10 17 := ⟨RX11, TX11, 19, rfl, by decide, uw_11, rfl, Or.inl w_3_3⟩
theorem ft_11_17 : xFT 10 17 .int := ⟨RX11, TX11, 19, tyX11, rfl, rfl, tyX11_ok, nmX11, rfl⟩
theorem fl_11_87 : xFL RX11 87 10 11 := ⟨RX11, TX11, 19, rfl, by decide, uw_11, rfl, Or.inl w_2_237⟩
theorem fl_11_55 : xFL RX11 55 10 6 := ⟨RX11, TX11, 19, rfl, by decide, uw_11, rfl, Or.inl w_2_232⟩
theorem ml_11_374 : xML RX11 374 1 yX1_readAll cX1_readAll 4 (some .boolean) 2 := ⟨w_5_53, w_5_54, w_5_55, w_1_13, w_5_56, ⟨TX1, 7, rfl⟩, neM_1, neV_1, rfl⟩
theorem ml_11_377 : xML RX11 377 1 yX1_live cX1_live 4 none 2 := ⟨w_5_65, w_5_66, w_5_67, w_1_13, w_5_68, ⟨TX1, 7, rfl⟩, neM_1, neV_1, rfl⟩
theorem fl_11_381 : xFL RX11 381 1 4 := ⟨RX1, TX1, 7, rfl, by decide, uw_1, rfl, Or.inr ⟨_, nw_2_132⟩⟩
theorem fl_11_384 : xFL RX11 384 1 3 := ⟨RX1, TX1, 7, rfl, by decide, uw_1, rfl, Or.inr ⟨_, nw_2_130⟩⟩
theorem fl_11_387 : xFL RX11 387 1 2 := ⟨RX1, TX1, 7, rfl, by decide, uw_1, rfl, Or.inr ⟨_, nw_2_128⟩⟩
theorem fl_11_391 : xFL RX11 391 1 5 := ⟨RX1, TX1, 7, rfl, by decide, uw_1, rfl, Or.inr ⟨_, nw_2_134⟩⟩
theorem fl_11_394 : xFL RX11 394 1 6 := ⟨RX1, TX1, 7, rfl, by decide, uw_1, rfl, Or.inr ⟨_, nw_2_136⟩⟩
theorem fl_11_48 : xFL RX11 48 10 5 := ⟨RX11, TX11, 19, rfl, by decide, uw_11, rfl, Or.inl w_2_231⟩
theorem ml_11_397 : xML RX11 397 4 yX5_readAll cX5_readAll 3 (some .boolean) 2 := ⟨w_5_87, w_5_88, w_5_89, w_1_12, w_5_90, ⟨TX5, 7, rfl⟩, neM_5, neV_5, rfl⟩
theorem fl_11_398 : xFL RX11 398 3 3 := ⟨RX4, TX4, 4, rfl, by decide, uw_4, rfl, Or.inr ⟨_, nw_2_103⟩⟩
theorem ml_11_401 : xML RX11 401 4 yX5_copyFrom cX5_copyFrom 2 none 1 := ⟨w_5_118, w_5_119, w_5_120, w_1_12, w_5_121, ⟨TX5, 7, rfl⟩, neM_5, neV_5, rfl⟩
theorem fl_11_404 : xFL RX11 404 4 1 := ⟨RX5, TX5, 7, rfl, by decide, uw_5, rfl, Or.inr ⟨_, nw_2_74⟩⟩
theorem fl_11_407 : xFL RX11 407 4 0 := ⟨RX5, TX5, 7, rfl, by decide, uw_5, rfl, Or.inr ⟨_, nw_2_72⟩⟩
theorem ml_11_410 : xML RX11 410 4 yX5_holds cX5_holds 9 (some .boolean) 3 := ⟨w_5_127, w_5_128, w_5_129, w_1_12, w_5_130, ⟨TX5, 7, rfl⟩, neM_5, neV_5, rfl⟩
theorem fl_11_34 : xFL RX11 34 10 3 := ⟨RX11, TX11, 19, rfl, by decide, uw_11, rfl, Or.inl w_2_229⟩
theorem ml_11_414 : xML RX11 414 3 yX4_copyFrom cX4_copyFrom 2 none 1 := ⟨w_5_147, w_5_148, w_5_149, w_1_9, w_5_150, ⟨TX4, 4, rfl⟩, neM_4, neV_4, rfl⟩
theorem fl_11_417 : xFL RX11 417 3 0 := ⟨RX4, TX4, 4, rfl, by decide, uw_4, rfl, Or.inr ⟨_, nw_2_97⟩⟩
theorem fl_12_1 : xFL RX12 1 11 0 := ⟨RX12, TX12, 58, rfl, by decide, uw_12, rfl, Or.inl w_6_64⟩
theorem ft_12_0 : xFT 11 0 .int := ⟨RX12, TX12, 58, tyX12, rfl, rfl, tyX12_ok, nmX12, rfl⟩
theorem fl_12_14 : xFL RX12 14 11 1 := ⟨RX12, TX12, 58, rfl, by decide, uw_12, rfl, Or.inl w_6_65⟩
theorem fl_12_7 : xFL RX12 7 11 2 := ⟨RX12, TX12, 58, rfl, by decide, uw_12, rfl, Or.inl w_6_66⟩
theorem ft_12_2 : xFT 11 2 .int := ⟨RX12, TX12, 58, tyX12, rfl, rfl, tyX12_ok, nmX12, rfl⟩
theorem sel_yX12_four : Cond.selects yX12_four.cls yX12_four yX12_four ∈ GT := GT_in (psel (pin_2 (List.mem_of_getElem? (i := 2) rfl))) rfl
theorem ml_12_10 : xML RX12 10 11 yX12_four cX12_four 3 none 1 := ⟨w_6_14, w_6_16, sel_yX12_four, w_1_17, w_6_18, ⟨TX12, 58, rfl⟩, neM_12, neV_12, rfl⟩
theorem fl_12_18 : xFL RX12 18 11 3 := ⟨RX12, TX12, 58, rfl, by decide, uw_12, rfl, Or.inl w_6_67⟩
theorem ft_12_3 : xFT 11 3 .int := ⟨RX12, TX12, 58, tyX12, rfl, rfl, tyX12_ok, nmX12, rfl⟩
theorem fl_12_21 : xFL RX12 21 11 4 := ⟨RX12, TX12, 58, rfl, by decide, uw_12, rfl, Or.inl w_6_68⟩
theorem ft_12_4 : xFT 11 4 .int := ⟨RX12, TX12, 58, tyX12, rfl, rfl, tyX12_ok, nmX12, rfl⟩
theorem fl_12_24 : xFL RX12 24 11 5 := ⟨RX12, TX12, 58, rfl, by decide, uw_12, rfl, Or.inl w_6_69⟩
theorem ft_12_5 : xFT 11 5 .int := ⟨RX12, TX12, 58, tyX12, rfl, rfl, tyX12_ok, nmX12, rfl⟩
theorem fl_12_37 : xFL RX12 37 11 7 := ⟨RX12, TX12, 58, rfl, by decide, uw_12, rfl, Or.inl w_6_71⟩
theorem sel_yX12_peek : Cond.selects yX12_peek.cls yX12_peek yX12_peek ∈ GT := GT_in (psel (pin_2 (List.mem_of_getElem? (i := 6) rfl))) rfl
theorem ml_12_181 : xML RX12 181 11 yX12_peek cX12_peek 1 (some .int) 0 := ⟨w_7_11, w_7_13, sel_yX12_peek, w_1_17, w_7_14, ⟨TX12, 58, rfl⟩, neM_12, neV_12, rfl⟩
theorem fl_12_185 : xFL RX12 185 11 12 := ⟨RX12, TX12, 58, rfl, by decide, uw_12, rfl, Or.inl w_6_76⟩
theorem ft_12_12 : xFT 11 12 .int := ⟨RX12, TX12, 58, tyX12, rfl, rfl, tyX12_ok, nmX12, rfl⟩
theorem fl_12_188 : xFL RX12 188 11 13 := ⟨RX12, TX12, 58, rfl, by decide, uw_12, rfl, Or.inl w_6_77⟩
theorem ft_12_13 : xFT 11 13 .int := ⟨RX12, TX12, 58, tyX12, rfl, rfl, tyX12_ok, nmX12, rfl⟩
theorem fl_12_191 : xFL RX12 191 11 11 := ⟨RX12, TX12, 58, rfl, by decide, uw_12, rfl, Or.inl w_6_75⟩
theorem ft_12_11 : xFT 11 11 .int := ⟨RX12, TX12, 58, tyX12, rfl, rfl, tyX12_ok, nmX12, rfl⟩
theorem ms_12_194 : xMS RX12 194 yX12_isSmall cX12_isSmall 1 (some .boolean) 1 := ⟨w_7_15, w_7_16, w_1_17, w_7_17, neM_12, neV_12, rfl⟩
theorem ms_12_198 : xMS RX12 198 yX12_isDigit cX12_isDigit 1 (some .boolean) 1 := ⟨w_7_18, w_7_19, w_1_17, w_7_20, neM_12, neV_12, rfl⟩
theorem fl_12_201 : xFL RX12 201 11 14 := ⟨RX12, TX12, 58, rfl, by decide, uw_12, rfl, Or.inl w_6_78⟩
theorem ft_12_14 : xFT 11 14 .int := ⟨RX12, TX12, 58, tyX12, rfl, rfl, tyX12_ok, nmX12, rfl⟩
theorem fl_12_204 : xFL RX12 204 11 17 := ⟨RX12, TX12, 58, rfl, by decide, uw_12, rfl, Or.inl w_6_81⟩
theorem ft_12_17 : xFT 11 17 .long := ⟨RX12, TX12, 58, tyX12, rfl, rfl, tyX12_ok, nmX12, rfl⟩
theorem fl_12_208 : xFL RX12 208 11 15 := ⟨RX12, TX12, 58, rfl, by decide, uw_12, rfl, Or.inl w_6_79⟩
theorem ft_12_15 : xFT 11 15 .int := ⟨RX12, TX12, 58, tyX12, rfl, rfl, tyX12_ok, nmX12, rfl⟩
theorem fl_12_211 : xFL RX12 211 11 16 := ⟨RX12, TX12, 58, rfl, by decide, uw_12, rfl, Or.inl w_6_80⟩
theorem ft_12_16 : xFT 11 16 .int := ⟨RX12, TX12, 58, tyX12, rfl, rfl, tyX12_ok, nmX12, rfl⟩
theorem sel_yX12_isSign : Cond.selects yX12_isSign.cls yX12_isSign yX12_isSign ∈ GT := GT_in (psel (pin_3 (List.mem_of_getElem? (i := 11) rfl))) rfl
theorem ml_12_214 : xML RX12 214 11 yX12_isSign cX12_isSign 2 (some .boolean) 1 := ⟨w_7_107, w_7_109, sel_yX12_isSign, w_1_17, w_7_110, ⟨TX12, 58, rfl⟩, neM_12, neV_12, rfl⟩
theorem sel_yX12_bad : Cond.selects yX12_bad.cls yX12_bad yX12_bad ∈ GT := GT_in (psel (pin_2 (List.mem_of_getElem? (i := 9) rfl))) rfl
theorem ml_12_217 : xML RX12 217 11 yX12_bad cX12_bad 2 (some .boolean) 1 := ⟨w_7_29, w_7_31, sel_yX12_bad, w_1_17, w_7_32, ⟨TX12, 58, rfl⟩, neM_12, neV_12, rfl⟩
theorem sel_yX12_go : Cond.selects yX12_go.cls yX12_go yX12_go ∈ GT := GT_in (psel (pin_2 (List.mem_of_getElem? (i := 5) rfl))) rfl
theorem ml_12_220 : xML RX12 220 11 yX12_go cX12_go 4 none 0 := ⟨w_7_7, w_7_9, sel_yX12_go, w_1_17, w_7_10, ⟨TX12, 58, rfl⟩, neM_12, neV_12, rfl⟩
theorem fl_12_47 : xFL RX12 47 11 10 := ⟨RX12, TX12, 58, rfl, by decide, uw_12, rfl, Or.inl w_6_74⟩
theorem ms_12_223 : xMS RX12 223 yX12_isIn cX12_isIn 3 (some .boolean) 3 := ⟨w_7_41, w_7_42, w_1_17, w_7_43, neM_12, neV_12, rfl⟩
theorem fl_12_227 : xFL RX12 227 11 18 := ⟨RX12, TX12, 58, rfl, by decide, uw_12, rfl, Or.inl w_6_82⟩
theorem ft_12_18 : xFT 11 18 .int := ⟨RX12, TX12, 58, tyX12, rfl, rfl, tyX12_ok, nmX12, rfl⟩
theorem sel_yX12_takes : Cond.selects yX12_takes.cls yX12_takes yX12_takes ∈ GT := GT_in (psel (pin_2 (List.mem_of_getElem? (i := 11) rfl))) rfl
theorem ml_12_230 : xML RX12 230 11 yX12_takes cX12_takes 3 (some .boolean) 2 := ⟨w_7_37, w_7_39, sel_yX12_takes, w_1_17, w_7_40, ⟨TX12, 58, rfl⟩, neM_12, neV_12, rfl⟩
theorem sel_yX12_isOneOf : Cond.selects yX12_isOneOf.cls yX12_isOneOf yX12_isOneOf ∈ GT := GT_in (psel (pin_3 (List.mem_of_getElem? (i := 4) rfl))) rfl
theorem ml_12_234 : xML RX12 234 11 yX12_isOneOf cX12_isOneOf 3 (some .boolean) 1 := ⟨w_7_76, w_7_78, sel_yX12_isOneOf, w_1_17, w_7_79, ⟨TX12, 58, rfl⟩, neM_12, neV_12, rfl⟩
theorem fl_12_43 : xFL RX12 43 11 9 := ⟨RX12, TX12, 58, rfl, by decide, uw_12, rfl, Or.inl w_6_73⟩
theorem sel_yX12_isName : Cond.selects yX12_isName.cls yX12_isName yX12_isName ∈ GT := GT_in (psel (pin_2 (List.mem_of_getElem? (i := 14) rfl))) rfl
theorem ml_12_237 : xML RX12 237 11 yX12_isName cX12_isName 3 (some .boolean) 0 := ⟨w_7_52, w_7_54, sel_yX12_isName, w_1_17, w_7_55, ⟨TX12, 58, rfl⟩, neM_12, neV_12, rfl⟩
theorem sel_yX12_find : Cond.selects yX12_find.cls yX12_find yX12_find ∈ GT := GT_in (psel (pin_2 (List.mem_of_getElem? (i := 15) rfl))) rfl
theorem ml_12_241 : xML RX12 241 11 yX12_find cX12_find 4 (some .int) 2 := ⟨w_7_56, w_7_58, sel_yX12_find, w_1_17, w_7_59, ⟨TX12, 58, rfl⟩, neM_12, neV_12, rfl⟩
theorem sel_yX12_looksAt : Cond.selects yX12_looksAt.cls yX12_looksAt yX12_looksAt ∈ GT := GT_in (psel (pin_3 (List.mem_of_getElem? (i := 1) rfl))) rfl
theorem ml_12_245 : xML RX12 245 11 yX12_looksAt cX12_looksAt 3 (some .boolean) 2 := ⟨w_7_64, w_7_66, sel_yX12_looksAt, w_1_17, w_7_67, ⟨TX12, 58, rfl⟩, neM_12, neV_12, rfl⟩
theorem fl_12_252 : xFL RX12 252 11 20 := ⟨RX12, TX12, 58, rfl, by decide, uw_12, rfl, Or.inl w_6_84⟩
theorem ft_12_20 : xFT 11 20 .boolean := ⟨RX12, TX12, 58, tyX12, rfl, rfl, tyX12_ok, nmX12, rfl⟩
theorem sel_yX12_fresh : Cond.selects yX12_fresh.cls yX12_fresh yX12_fresh ∈ GT := GT_in (psel (pin_2 (List.mem_of_getElem? (i := 13) rfl))) rfl
theorem ml_12_280 : xML RX12 280 11 yX12_fresh cX12_fresh 2 (some .boolean) 1 := ⟨w_7_48, w_7_50, sel_yX12_fresh, w_1_17, w_7_51, ⟨TX12, 58, rfl⟩, neM_12, neV_12, rfl⟩
theorem sel_yX12_puts : Cond.selects yX12_puts.cls yX12_puts yX12_puts ∈ GT := GT_in (psel (pin_2 (List.mem_of_getElem? (i := 10) rfl))) rfl
theorem ml_12_256 : xML RX12 256 11 yX12_puts cX12_puts 4 (some .boolean) 3 := ⟨w_7_33, w_7_35, sel_yX12_puts, w_1_17, w_7_36, ⟨TX12, 58, rfl⟩, neM_12, neV_12, rfl⟩
theorem sel_yX12_isSide : Cond.selects yX12_isSide.cls yX12_isSide yX12_isSide ∈ GT := GT_in (psel (pin_3 (List.mem_of_getElem? (i := 3) rfl))) rfl
theorem ml_12_283 : xML RX12 283 11 yX12_isSide cX12_isSide 1 (some .boolean) 0 := ⟨w_7_72, w_7_74, sel_yX12_isSide, w_1_17, w_7_75, ⟨TX12, 58, rfl⟩, neM_12, neV_12, rfl⟩
theorem sel_yX12_takesName : Cond.selects yX12_takesName.cls yX12_takesName yX12_takesName ∈ GT := GT_in (psel (pin_3 (List.mem_of_getElem? (i := 6) rfl))) rfl
theorem ml_12_286 : xML RX12 286 11 yX12_takesName cX12_takesName 3 (some .boolean) 2 := ⟨w_7_84, w_7_86, sel_yX12_takesName, w_1_17, w_7_87, ⟨TX12, 58, rfl⟩, neM_12, neV_12, rfl⟩
theorem sel_yX12_isKind : Cond.selects yX12_isKind.cls yX12_isKind yX12_isKind ∈ GT := GT_in (psel (pin_3 (List.mem_of_getElem? (i := 7) rfl))) rfl
theorem ml_12_289 : xML RX12 289 11 yX12_isKind cX12_isKind 1 (some .boolean) 0 := ⟨w_7_88, w_7_90, sel_yX12_isKind, w_1_17, w_7_91, ⟨TX12, 58, rfl⟩, neM_12, neV_12, rfl⟩
theorem ms_12_292 : xMS RX12 292 yX12_bitOf cX12_bitOf 2 (some .boolean) 2 := ⟨w_7_92, w_7_93, w_1_17, w_7_94, neM_12, neV_12, rfl⟩
theorem kc_12_114 : Cond.constantLong RX12 114 (448546567013) ∈ GT := w_6_28
theorem sel_yX12_isWord : Cond.selects yX12_isWord.cls yX12_isWord yX12_isWord ∈ GT := GT_in (psel (pin_2 (List.mem_of_getElem? (i := 8) rfl))) rfl
theorem ml_12_248 : xML RX12 248 11 yX12_isWord cX12_isWord 3 (some .boolean) 1 := ⟨w_7_25, w_7_27, sel_yX12_isWord, w_1_17, w_7_28, ⟨TX12, 58, rfl⟩, neM_12, neV_12, rfl⟩
theorem kc_12_116 : Cond.constantLong RX12 116 (6448484) ∈ GT := w_6_29
theorem kc_12_118 : Cond.constantLong RX12 118 (7305068) ∈ GT := w_6_30
theorem kc_12_120 : Cond.constantLong RX12 120 (6447460) ∈ GT := w_6_31
theorem kc_12_122 : Cond.constantLong RX12 122 (1684365670) ∈ GT := w_6_32
theorem kc_12_124 : Cond.constantLong RX12 124 (495791205988) ∈ GT := w_6_33
theorem kc_12_126 : Cond.constantLong RX12 126 (512735736947) ∈ GT := w_6_34
theorem kc_12_128 : Cond.constantLong RX12 128 (1936225652) ∈ GT := w_6_35
theorem fl_12_277 : xFL RX12 277 11 21 := ⟨RX12, TX12, 58, rfl, by decide, uw_12, rfl, Or.inl w_6_85⟩
theorem ft_12_21 : xFT 11 21 .boolean := ⟨RX12, TX12, 58, tyX12, rfl, rfl, tyX12_ok, nmX12, rfl⟩
theorem sel_yX12_readWants : Cond.selects yX12_readWants.cls yX12_readWants yX12_readWants ∈ GT := GT_in (psel (pin_3 (List.mem_of_getElem? (i := 9) rfl))) rfl
theorem ml_12_274 : xML RX12 274 11 yX12_readWants cX12_readWants 2 (some .boolean) 0 := ⟨w_7_99, w_7_101, sel_yX12_readWants, w_1_17, w_7_102, ⟨TX12, 58, rfl⟩, neM_12, neV_12, rfl⟩
theorem sel_yX12_readSound : Cond.selects yX12_readSound.cls yX12_readSound yX12_readSound ∈ GT := GT_in (psel (pin_3 (List.mem_of_getElem? (i := 8) rfl))) rfl
theorem ml_12_271 : xML RX12 271 11 yX12_readSound cX12_readSound 2 (some .boolean) 0 := ⟨w_7_95, w_7_97, sel_yX12_readSound, w_1_17, w_7_98, ⟨TX12, 58, rfl⟩, neM_12, neV_12, rfl⟩
theorem sel_yX12_readDeaf : Cond.selects yX12_readDeaf.cls yX12_readDeaf yX12_readDeaf ∈ GT := GT_in (psel (pin_3 (List.mem_of_getElem? (i := 5) rfl))) rfl
theorem ml_12_268 : xML RX12 268 11 yX12_readDeaf cX12_readDeaf 2 (some .boolean) 0 := ⟨w_7_80, w_7_82, sel_yX12_readDeaf, w_1_17, w_7_83, ⟨TX12, 58, rfl⟩, neM_12, neV_12, rfl⟩
theorem sel_yX12_readBad : Cond.selects yX12_readBad.cls yX12_readBad yX12_readBad ∈ GT := GT_in (psel (pin_3 (List.mem_of_getElem? (i := 2) rfl))) rfl
theorem ml_12_265 : xML RX12 265 11 yX12_readBad cX12_readBad 2 (some .boolean) 0 := ⟨w_7_68, w_7_70, sel_yX12_readBad, w_1_17, w_7_71, ⟨TX12, 58, rfl⟩, neM_12, neV_12, rfl⟩
theorem sel_yX12_readOwl : Cond.selects yX12_readOwl.cls yX12_readOwl yX12_readOwl ∈ GT := GT_in (psel (pin_3 (List.mem_of_getElem? (i := 0) rfl))) rfl
theorem ml_12_262 : xML RX12 262 11 yX12_readOwl cX12_readOwl 3 (some .boolean) 0 := ⟨w_7_60, w_7_62, sel_yX12_readOwl, w_1_17, w_7_63, ⟨TX12, 58, rfl⟩, neM_12, neV_12, rfl⟩
theorem sel_yX12_readBed : Cond.selects yX12_readBed.cls yX12_readBed yX12_readBed ∈ GT := GT_in (psel (pin_2 (List.mem_of_getElem? (i := 12) rfl))) rfl
theorem ml_12_259 : xML RX12 259 11 yX12_readBed cX12_readBed 3 (some .boolean) 0 := ⟨w_7_44, w_7_46, sel_yX12_readBed, w_1_17, w_7_47, ⟨TX12, 58, rfl⟩, neM_12, neV_12, rfl⟩
theorem sel_yX12_taken : Cond.selects yX12_taken.cls yX12_taken yX12_taken ∈ GT := GT_in (psel (pin_2 (List.mem_of_getElem? (i := 4) rfl))) rfl
theorem ml_12_295 : xML RX12 295 11 yX12_taken cX12_taken 2 none 1 := ⟨w_7_3, w_7_5, sel_yX12_taken, w_1_17, w_7_6, ⟨TX12, 58, rfl⟩, neM_12, neV_12, rfl⟩
theorem fl_12_298 : xFL RX12 298 11 19 := ⟨RX12, TX12, 58, rfl, by decide, uw_12, rfl, Or.inl w_6_83⟩
theorem ft_12_19 : xFT 11 19 .int := ⟨RX12, TX12, 58, tyX12, rfl, rfl, tyX12_ok, nmX12, rfl⟩
theorem sel_yX12_clears : Cond.selects yX12_clears.cls yX12_clears yX12_clears ∈ GT := GT_in (psel (pin_2 (List.mem_of_getElem? (i := 3) rfl))) rfl
theorem ml_12_178 : xML RX12 178 11 yX12_clears cX12_clears 2 none 0 := ⟨w_6_60, w_6_62, sel_yX12_clears, w_1_17, w_6_63, ⟨TX12, 58, rfl⟩, neM_12, neV_12, rfl⟩
theorem sel_yX12_line : Cond.selects yX12_line.cls yX12_line yX12_line ∈ GT := GT_in (psel (pin_2 (List.mem_of_getElem? (i := 7) rfl))) rfl
theorem ml_12_301 : xML RX12 301 11 yX12_line cX12_line 1 (some .boolean) 0 := ⟨w_7_21, w_7_23, sel_yX12_line, w_1_17, w_7_24, ⟨TX12, 58, rfl⟩, neM_12, neV_12, rfl⟩
theorem sel_yX12_sign : Cond.selects yX12_sign.cls yX12_sign yX12_sign ∈ GT := GT_in (psel (pin_3 (List.mem_of_getElem? (i := 10) rfl))) rfl
theorem ml_12_304 : xML RX12 304 11 yX12_sign cX12_sign 2 (some .boolean) 1 := ⟨w_7_103, w_7_105, sel_yX12_sign, w_1_17, w_7_106, ⟨TX12, 58, rfl⟩, neM_12, neV_12, rfl⟩
theorem fl_12_33 : xFL RX12 33 11 6 := ⟨RX12, TX12, 58, rfl, by decide, uw_12, rfl, Or.inl w_6_70⟩
theorem fl_12_307 : xFL RX12 307 11 24 := ⟨RX12, TX12, 58, rfl, by decide, uw_12, rfl, Or.inl w_6_88⟩
theorem ft_12_24 : xFT 11 24 .int := ⟨RX12, TX12, 58, tyX12, rfl, rfl, tyX12_ok, nmX12, rfl⟩
theorem ms_12_310 : xMS RX12 310 yX12_isHour cX12_isHour 3 (some .boolean) 3 := ⟨w_7_155, w_7_156, w_1_17, w_7_157, neM_12, neV_12, rfl⟩
theorem ms_12_313 : xMS RX12 313 yX12_absolute cX12_absolute 1 (some .int) 1 := ⟨w_7_186, w_7_187, w_1_17, w_7_188, neM_12, neV_12, rfl⟩
theorem sel_yX12_xOf : Cond.selects yX12_xOf.cls yX12_xOf yX12_xOf ∈ GT := GT_in (psel (pin_4 (List.mem_of_getElem? (i := 7) rfl))) rfl
theorem ml_12_317 : xML RX12 317 11 yX12_xOf cX12_xOf 2 (some .int) 1 := ⟨w_7_170, w_7_172, sel_yX12_xOf, w_1_17, w_7_173, ⟨TX12, 58, rfl⟩, neM_12, neV_12, rfl⟩
theorem sel_yX12_yOf : Cond.selects yX12_yOf.cls yX12_yOf yX12_yOf ∈ GT := GT_in (psel (pin_4 (List.mem_of_getElem? (i := 8) rfl))) rfl
theorem ml_12_320 : xML RX12 320 11 yX12_yOf cX12_yOf 2 (some .int) 1 := ⟨w_7_174, w_7_176, sel_yX12_yOf, w_1_17, w_7_177, ⟨TX12, 58, rfl⟩, neM_12, neV_12, rfl⟩
theorem sel_yX12_farFrom : Cond.selects yX12_farFrom.cls yX12_farFrom yX12_farFrom ∈ GT := GT_in (psel (pin_4 (List.mem_of_getElem? (i := 11) rfl))) rfl
theorem ml_12_323 : xML RX12 323 11 yX12_farFrom cX12_farFrom 4 (some .int) 3 := ⟨w_7_189, w_7_191, sel_yX12_farFrom, w_1_17, w_7_192, ⟨TX12, 58, rfl⟩, neM_12, neV_12, rfl⟩
theorem sel_yX12_sideOf : Cond.selects yX12_sideOf.cls yX12_sideOf yX12_sideOf ∈ GT := GT_in (psel (pin_4 (List.mem_of_getElem? (i := 10) rfl))) rfl
theorem ml_12_327 : xML RX12 327 11 yX12_sideOf cX12_sideOf 6 (some .int) 3 := ⟨w_7_182, w_7_184, sel_yX12_sideOf, w_1_17, w_7_185, ⟨TX12, 58, rfl⟩, neM_12, neV_12, rfl⟩
theorem sel_yX12_kindOf : Cond.selects yX12_kindOf.cls yX12_kindOf yX12_kindOf ∈ GT := GT_in (psel (pin_4 (List.mem_of_getElem? (i := 6) rfl))) rfl
theorem ml_12_330 : xML RX12 330 11 yX12_kindOf cX12_kindOf 2 (some .int) 1 := ⟨w_7_166, w_7_168, sel_yX12_kindOf, w_1_17, w_7_169, ⟨TX12, 58, rfl⟩, neM_12, neV_12, rfl⟩
theorem sel_yX12_isHeard : Cond.selects yX12_isHeard.cls yX12_isHeard yX12_isHeard ∈ GT := GT_in (psel (pin_4 (List.mem_of_getElem? (i := 9) rfl))) rfl
theorem ml_12_333 : xML RX12 333 11 yX12_isHeard cX12_isHeard 7 (some .boolean) 6 := ⟨w_7_178, w_7_180, sel_yX12_isHeard, w_1_17, w_7_181, ⟨TX12, 58, rfl⟩, neM_12, neV_12, rfl⟩
theorem sel_yX12_isShut : Cond.selects yX12_isShut.cls yX12_isShut yX12_isShut ∈ GT := GT_in (psel (pin_4 (List.mem_of_getElem? (i := 3) rfl))) rfl
theorem ml_12_337 : xML RX12 337 11 yX12_isShut cX12_isShut 1 (some .boolean) 0 := ⟨w_7_151, w_7_153, sel_yX12_isShut, w_1_17, w_7_154, ⟨TX12, 58, rfl⟩, neM_12, neV_12, rfl⟩
theorem sel_yX12_isOn : Cond.selects yX12_isOn.cls yX12_isOn yX12_isOn ∈ GT := GT_in (psel (pin_4 (List.mem_of_getElem? (i := 4) rfl))) rfl
theorem ml_12_340 : xML RX12 340 11 yX12_isOn cX12_isOn 2 (some .boolean) 1 := ⟨w_7_158, w_7_160, sel_yX12_isOn, w_1_17, w_7_161, ⟨TX12, 58, rfl⟩, neM_12, neV_12, rfl⟩
theorem sel_yX12_hearsOne : Cond.selects yX12_hearsOne.cls yX12_hearsOne yX12_hearsOne ∈ GT := GT_in (psel (pin_4 (List.mem_of_getElem? (i := 5) rfl))) rfl
theorem ml_12_343 : xML RX12 343 11 yX12_hearsOne cX12_hearsOne 4 (some .boolean) 3 := ⟨w_7_162, w_7_164, sel_yX12_hearsOne, w_1_17, w_7_165, ⟨TX12, 58, rfl⟩, neM_12, neV_12, rfl⟩
theorem sel_yX12_heardBy : Cond.selects yX12_heardBy.cls yX12_heardBy yX12_heardBy ∈ GT := GT_in (psel (pin_4 (List.mem_of_getElem? (i := 2) rfl))) rfl
theorem ml_12_346 : xML RX12 346 11 yX12_heardBy cX12_heardBy 5 (some .int) 2 := ⟨w_7_147, w_7_149, sel_yX12_heardBy, w_1_17, w_7_150, ⟨TX12, 58, rfl⟩, neM_12, neV_12, rfl⟩
theorem sel_yX12_loudAt : Cond.selects yX12_loudAt.cls yX12_loudAt yX12_loudAt ∈ GT := GT_in (psel (pin_4 (List.mem_of_getElem? (i := 12) rfl))) rfl
theorem ml_12_349 : xML RX12 349 11 yX12_loudAt cX12_loudAt 3 (some .int) 2 := ⟨w_7_193, w_7_195, sel_yX12_loudAt, w_1_17, w_7_196, ⟨TX12, 58, rfl⟩, neM_12, neV_12, rfl⟩
theorem sel_yX12_seenBy : Cond.selects yX12_seenBy.cls yX12_seenBy yX12_seenBy ∈ GT := GT_in (psel (pin_4 (List.mem_of_getElem? (i := 1) rfl))) rfl
theorem ml_12_352 : xML RX12 352 11 yX12_seenBy cX12_seenBy 6 (some .int) 2 := ⟨w_7_143, w_7_145, sel_yX12_seenBy, w_1_17, w_7_146, ⟨TX12, 58, rfl⟩, neM_12, neV_12, rfl⟩
theorem sel_yX12_isBed : Cond.selects yX12_isBed.cls yX12_isBed yX12_isBed ∈ GT := GT_in (psel (pin_3 (List.mem_of_getElem? (i := 12) rfl))) rfl
theorem ml_12_355 : xML RX12 355 11 yX12_isBed cX12_isBed 2 (some .boolean) 1 := ⟨w_7_119, w_7_121, sel_yX12_isBed, w_1_17, w_7_122, ⟨TX12, 58, rfl⟩, neM_12, neV_12, rfl⟩
theorem sel_yX12_throwsIf : Cond.selects yX12_throwsIf.cls yX12_throwsIf yX12_throwsIf ∈ GT := GT_in (psel (pin_3 (List.mem_of_getElem? (i := 13) rfl))) rfl
theorem ml_12_358 : xML RX12 358 11 yX12_throwsIf cX12_throwsIf 2 (some .boolean) 1 := ⟨w_7_123, w_7_125, sel_yX12_throwsIf, w_1_17, w_7_126, ⟨TX12, 58, rfl⟩, neM_12, neV_12, rfl⟩
theorem sel_yX12_owlBy : Cond.selects yX12_owlBy.cls yX12_owlBy yX12_owlBy ∈ GT := GT_in (psel (pin_3 (List.mem_of_getElem? (i := 14) rfl))) rfl
theorem ml_12_362 : xML RX12 362 11 yX12_owlBy cX12_owlBy 3 (some .int) 1 := ⟨w_7_127, w_7_129, sel_yX12_owlBy, w_1_17, w_7_130, ⟨TX12, 58, rfl⟩, neM_12, neV_12, rfl⟩
theorem sel_yX12_isOwl : Cond.selects yX12_isOwl.cls yX12_isOwl yX12_isOwl ∈ GT := GT_in (psel (pin_3 (List.mem_of_getElem? (i := 15) rfl))) rfl
theorem ml_12_365 : xML RX12 365 11 yX12_isOwl cX12_isOwl 2 (some .boolean) 1 := ⟨w_7_135, w_7_137, sel_yX12_isOwl, w_1_17, w_7_138, ⟨TX12, 58, rfl⟩, neM_12, neV_12, rfl⟩
theorem sel_yX12_lookBy : Cond.selects yX12_lookBy.cls yX12_lookBy yX12_lookBy ∈ GT := GT_in (psel (pin_4 (List.mem_of_getElem? (i := 0) rfl))) rfl
theorem ml_12_368 : xML RX12 368 11 yX12_lookBy cX12_lookBy 4 (some .int) 2 := ⟨w_7_139, w_7_141, sel_yX12_lookBy, w_1_17, w_7_142, ⟨TX12, 58, rfl⟩, neM_12, neV_12, rfl⟩
theorem sel_yX12_isSound : Cond.selects yX12_isSound.cls yX12_isSound yX12_isSound ∈ GT := GT_in (psel (pin_4 (List.mem_of_getElem? (i := 13) rfl))) rfl
theorem ml_12_371 : xML RX12 371 11 yX12_isSound cX12_isSound 2 (some .boolean) 1 := ⟨w_7_201, w_7_203, sel_yX12_isSound, w_1_17, w_7_204, ⟨TX12, 58, rfl⟩, neM_12, neV_12, rfl⟩
theorem sel_yX12_lookers : Cond.selects yX12_lookers.cls yX12_lookers yX12_lookers ∈ GT := GT_in (psel (pin_4 (List.mem_of_getElem? (i := 14) rfl))) rfl
theorem ml_12_374 : xML RX12 374 11 yX12_lookers cX12_lookers 3 (some .int) 0 := ⟨w_7_209, w_7_211, sel_yX12_lookers, w_1_17, w_7_212, ⟨TX12, 58, rfl⟩, neM_12, neV_12, rfl⟩
theorem sel_yX12_sumOf : Cond.selects yX12_sumOf.cls yX12_sumOf yX12_sumOf ∈ GT := GT_in (psel (pin_4 (List.mem_of_getElem? (i := 15) rfl))) rfl
theorem ml_12_377 : xML RX12 377 11 yX12_sumOf cX12_sumOf 4 (some .int) 1 := ⟨w_7_213, w_7_215, sel_yX12_sumOf, w_1_17, w_7_216, ⟨TX12, 58, rfl⟩, neM_12, neV_12, rfl⟩
theorem sel_yX12_hour : Cond.selects yX12_hour.cls yX12_hour yX12_hour ∈ GT := GT_in (psel (pin_5 (List.mem_of_getElem? (i := 6) rfl))) rfl
theorem ml_12_380 : xML RX12 380 11 yX12_hour cX12_hour 5 none 0 := ⟨w_8_21, w_8_23, sel_yX12_hour, w_1_17, w_8_24, ⟨TX12, 58, rfl⟩, neM_12, neV_12, rfl⟩
theorem fl_12_50 : xFL RX12 50 11 22 := ⟨RX12, TX12, 58, rfl, by decide, uw_12, rfl, Or.inl w_6_86⟩
theorem sel_yX12_whyLend : Cond.selects yX12_whyLend.cls yX12_whyLend yX12_whyLend ∈ GT := GT_in (psel (pin_5 (List.mem_of_getElem? (i := 0) rfl))) rfl
theorem ml_12_383 : xML RX12 383 11 yX12_whyLend cX12_whyLend 3 (some .int) 2 := ⟨w_7_221, w_7_223, sel_yX12_whyLend, w_1_17, w_7_224, ⟨TX12, 58, rfl⟩, neM_12, neV_12, rfl⟩
theorem sel_yX12_keep : Cond.selects yX12_keep.cls yX12_keep yX12_keep ∈ GT := GT_in (psel (pin_5 (List.mem_of_getElem? (i := 1) rfl))) rfl
theorem ml_12_386 : xML RX12 386 11 yX12_keep cX12_keep 2 none 0 := ⟨w_7_225, w_7_227, sel_yX12_keep, w_1_17, w_7_228, ⟨TX12, 58, rfl⟩, neM_12, neV_12, rfl⟩
theorem sel_yX12_turns : Cond.selects yX12_turns.cls yX12_turns yX12_turns ∈ GT := GT_in (psel (pin_5 (List.mem_of_getElem? (i := 2) rfl))) rfl
theorem ml_12_389 : xML RX12 389 11 yX12_turns cX12_turns 3 (some .int) 2 := ⟨w_7_233, w_7_235, sel_yX12_turns, w_1_17, w_7_236, ⟨TX12, 58, rfl⟩, neM_12, neV_12, rfl⟩
theorem sel_yX12_isCell : Cond.selects yX12_isCell.cls yX12_isCell yX12_isCell ∈ GT := GT_in (psel (pin_5 (List.mem_of_getElem? (i := 3) rfl))) rfl
theorem ml_12_392 : xML RX12 392 11 yX12_isCell cX12_isCell 3 (some .boolean) 2 := ⟨w_8_5, w_8_7, sel_yX12_isCell, w_1_17, w_8_8, ⟨TX12, 58, rfl⟩, neM_12, neV_12, rfl⟩
theorem sel_yX12_cries : Cond.selects yX12_cries.cls yX12_cries yX12_cries ∈ GT := GT_in (psel (pin_5 (List.mem_of_getElem? (i := 4) rfl))) rfl
theorem ml_12_395 : xML RX12 395 11 yX12_cries cX12_cries 4 none 3 := ⟨w_8_9, w_8_11, sel_yX12_cries, w_1_17, w_8_12, ⟨TX12, 58, rfl⟩, neM_12, neV_12, rfl⟩
theorem sel_yX12_goesOn : Cond.selects yX12_goesOn.cls yX12_goesOn yX12_goesOn ∈ GT := GT_in (psel (pin_5 (List.mem_of_getElem? (i := 5) rfl))) rfl
theorem ml_12_399 : xML RX12 399 11 yX12_goesOn cX12_goesOn 3 (some .int) 1 := ⟨w_8_17, w_8_19, sel_yX12_goesOn, w_1_17, w_8_20, ⟨TX12, 58, rfl⟩, neM_12, neV_12, rfl⟩
theorem fl_12_53 : xFL RX12 53 11 23 := ⟨RX12, TX12, 58, rfl, by decide, uw_12, rfl, Or.inl w_6_87⟩
theorem sel_yX12_tries : Cond.selects yX12_tries.cls yX12_tries yX12_tries ∈ GT := GT_in (psel (pin_5 (List.mem_of_getElem? (i := 7) rfl))) rfl
theorem ml_12_402 : xML RX12 402 11 yX12_tries cX12_tries 2 none 0 := ⟨w_8_41, w_8_43, sel_yX12_tries, w_1_17, w_8_44, ⟨TX12, 58, rfl⟩, neM_12, neV_12, rfl⟩
theorem sel_yX12_back : Cond.selects yX12_back.cls yX12_back yX12_back ∈ GT := GT_in (psel (pin_5 (List.mem_of_getElem? (i := 8) rfl))) rfl
theorem ml_12_405 : xML RX12 405 11 yX12_back cX12_back 2 none 0 := ⟨w_8_45, w_8_47, sel_yX12_back, w_1_17, w_8_48, ⟨TX12, 58, rfl⟩, neM_12, neV_12, rfl⟩
theorem sel_yX12_octet : Cond.selects yX12_octet.cls yX12_octet yX12_octet ∈ GT := GT_in (psel (pin_5 (List.mem_of_getElem? (i := 9) rfl))) rfl
theorem ml_12_408 : xML RX12 408 11 yX12_octet cX12_octet 2 (some .int) 1 := ⟨w_8_57, w_8_59, sel_yX12_octet, w_1_17, w_8_60, ⟨TX12, 58, rfl⟩, neM_12, neV_12, rfl⟩
theorem sel_yX12_lookAlone : Cond.selects yX12_lookAlone.cls yX12_lookAlone yX12_lookAlone ∈ GT := GT_in (psel (pin_5 (List.mem_of_getElem? (i := 11) rfl))) rfl
theorem ml_12_411 : xML RX12 411 11 yX12_lookAlone cX12_lookAlone 5 (some .int) 4 := ⟨w_8_65, w_8_67, sel_yX12_lookAlone, w_1_17, w_8_68, ⟨TX12, 58, rfl⟩, neM_12, neV_12, rfl⟩
theorem fl_12_59 : xFL RX12 59 11 26 := ⟨RX12, TX12, 58, rfl, by decide, uw_12, rfl, Or.inl w_6_90⟩
theorem fl_12_62 : xFL RX12 62 11 27 := ⟨RX12, TX12, 58, rfl, by decide, uw_12, rfl, Or.inl w_6_91⟩
theorem fl_12_56 : xFL RX12 56 11 25 := ⟨RX12, TX12, 58, rfl, by decide, uw_12, rfl, Or.inl w_6_89⟩
theorem ms_12_415 : xMS RX12 415 yX12_greater cX12_greater 2 (some .int) 2 := ⟨w_8_73, w_8_74, w_1_17, w_8_75, neM_12, neV_12, rfl⟩
theorem ft_12_27 : xFT 11 27 .int := ⟨RX12, TX12, 58, tyX12, rfl, rfl, tyX12_ok, nmX12, rfl⟩
theorem sel_yX12_isSpot : Cond.selects yX12_isSpot.cls yX12_isSpot yX12_isSpot ∈ GT := GT_in (psel (pin_5 (List.mem_of_getElem? (i := 10) rfl))) rfl
theorem ml_12_418 : xML RX12 418 11 yX12_isSpot cX12_isSpot 5 (some .boolean) 2 := ⟨w_8_61, w_8_63, sel_yX12_isSpot, w_1_17, w_8_64, ⟨TX12, 58, rfl⟩, neM_12, neV_12, rfl⟩
theorem fl_12_65 : xFL RX12 65 11 28 := ⟨RX12, TX12, 58, rfl, by decide, uw_12, rfl, Or.inl w_6_92⟩
theorem ft_12_28 : xFT 11 28 .int := ⟨RX12, TX12, 58, tyX12, rfl, rfl, tyX12_ok, nmX12, rfl⟩
theorem sel_yX12_leftBy : Cond.selects yX12_leftBy.cls yX12_leftBy yX12_leftBy ∈ GT := GT_in (psel (pin_5 (List.mem_of_getElem? (i := 12) rfl))) rfl
theorem ml_12_421 : xML RX12 421 11 yX12_leftBy cX12_leftBy 6 (some .int) 1 := ⟨w_8_69, w_8_71, sel_yX12_leftBy, w_1_17, w_8_72, ⟨TX12, 58, rfl⟩, neM_12, neV_12, rfl⟩
theorem fl_12_427 : xFL RX12 427 11 31 := ⟨RX12, TX12, 58, rfl, by decide, uw_12, rfl, Or.inl w_6_95⟩
theorem ft_12_31 : xFT 11 31 .boolean := ⟨RX12, TX12, 58, tyX12, rfl, rfl, tyX12_ok, nmX12, rfl⟩
theorem fl_12_430 : xFL RX12 430 11 29 := ⟨RX12, TX12, 58, rfl, by decide, uw_12, rfl, Or.inl w_6_93⟩
theorem ft_12_29 : xFT 11 29 .int := ⟨RX12, TX12, 58, tyX12, rfl, rfl, tyX12_ok, nmX12, rfl⟩
theorem fl_12_433 : xFL RX12 433 11 30 := ⟨RX12, TX12, 58, rfl, by decide, uw_12, rfl, Or.inl w_6_94⟩
theorem ft_12_30 : xFT 11 30 .int := ⟨RX12, TX12, 58, tyX12, rfl, rfl, tyX12_ok, nmX12, rfl⟩
theorem sel_yX12_isKeen : Cond.selects yX12_isKeen.cls yX12_isKeen yX12_isKeen ∈ GT := GT_in (psel (pin_5 (List.mem_of_getElem? (i := 13) rfl))) rfl
theorem ml_12_424 : xML RX12 424 11 yX12_isKeen cX12_isKeen 4 (some .boolean) 1 := ⟨w_8_88, w_8_90, sel_yX12_isKeen, w_1_17, w_8_91, ⟨TX12, 58, rfl⟩, neM_12, neV_12, rfl⟩
theorem fl_12_68 : xFL RX12 68 11 32 := ⟨RX12, TX12, 58, rfl, by decide, uw_12, rfl, Or.inl w_6_96⟩
theorem fl_12_71 : xFL RX12 71 11 33 := ⟨RX12, TX12, 58, rfl, by decide, uw_12, rfl, Or.inl w_6_97⟩
theorem sel_yX12_laysWorths : Cond.selects yX12_laysWorths.cls yX12_laysWorths yX12_laysWorths ∈ GT := GT_in (psel (pin_5 (List.mem_of_getElem? (i := 14) rfl))) rfl
theorem ml_12_436 : xML RX12 436 11 yX12_laysWorths cX12_laysWorths 5 none 0 := ⟨w_8_104, w_8_106, sel_yX12_laysWorths, w_1_17, w_8_107, ⟨TX12, 58, rfl⟩, neM_12, neV_12, rfl⟩
theorem fl_12_77 : xFL RX12 77 11 35 := ⟨RX12, TX12, 58, rfl, by decide, uw_12, rfl, Or.inl w_6_99⟩
theorem ft_12_35 : xFT 11 35 .int := ⟨RX12, TX12, 58, tyX12, rfl, rfl, tyX12_ok, nmX12, rfl⟩
theorem kc_12_439 : Cond.constant RX12 439 (-1000000) ∈ GT := w_8_108
theorem sel_yX12_restBy : Cond.selects yX12_restBy.cls yX12_restBy yX12_restBy ∈ GT := GT_in (psel (pin_5 (List.mem_of_getElem? (i := 15) rfl))) rfl
theorem ml_12_440 : xML RX12 440 11 yX12_restBy cX12_restBy 4 (some .int) 3 := ⟨w_8_109, w_8_111, sel_yX12_restBy, w_1_17, w_8_112, ⟨TX12, 58, rfl⟩, neM_12, neV_12, rfl⟩
theorem fl_12_74 : xFL RX12 74 11 34 := ⟨RX12, TX12, 58, rfl, by decide, uw_12, rfl, Or.inl w_6_98⟩
theorem sel_yX12_soundFor : Cond.selects yX12_soundFor.cls yX12_soundFor yX12_soundFor ∈ GT := GT_in (psel (pin_6 (List.mem_of_getElem? (i := 0) rfl))) rfl
theorem ml_12_443 : xML RX12 443 11 yX12_soundFor cX12_soundFor 5 (some .int) 2 := ⟨w_8_121, w_8_123, sel_yX12_soundFor, w_1_17, w_8_124, ⟨TX12, 58, rfl⟩, neM_12, neV_12, rfl⟩
theorem fl_12_83 : xFL RX12 83 11 37 := ⟨RX12, TX12, 58, rfl, by decide, uw_12, rfl, Or.inl w_6_101⟩
theorem ft_12_37 : xFT 11 37 .int := ⟨RX12, TX12, 58, tyX12, rfl, rfl, tyX12_ok, nmX12, rfl⟩
theorem fl_12_80 : xFL RX12 80 11 36 := ⟨RX12, TX12, 58, rfl, by decide, uw_12, rfl, Or.inl w_6_100⟩
theorem fl_12_86 : xFL RX12 86 11 38 := ⟨RX12, TX12, 58, rfl, by decide, uw_12, rfl, Or.inl w_6_102⟩
theorem fl_12_90 : xFL RX12 90 11 39 := ⟨RX12, TX12, 58, rfl, by decide, uw_12, rfl, Or.inl w_6_103⟩
theorem sel_yX12_laysEnds : Cond.selects yX12_laysEnds.cls yX12_laysEnds yX12_laysEnds ∈ GT := GT_in (psel (pin_6 (List.mem_of_getElem? (i := 1) rfl))) rfl
theorem ml_12_446 : xML RX12 446 11 yX12_laysEnds cX12_laysEnds 4 none 2 := ⟨w_8_133, w_8_135, sel_yX12_laysEnds, w_1_17, w_8_136, ⟨TX12, 58, rfl⟩, neM_12, neV_12, rfl⟩
theorem sel_yX12_laysMove : Cond.selects yX12_laysMove.cls yX12_laysMove yX12_laysMove ∈ GT := GT_in (psel (pin_6 (List.mem_of_getElem? (i := 2) rfl))) rfl
theorem ml_12_450 : xML RX12 450 11 yX12_laysMove cX12_laysMove 5 none 1 := ⟨w_8_137, w_8_139, sel_yX12_laysMove, w_1_17, w_8_140, ⟨TX12, 58, rfl⟩, neM_12, neV_12, rfl⟩
theorem fl_12_454 : xFL RX12 454 11 41 := ⟨RX12, TX12, 58, rfl, by decide, uw_12, rfl, Or.inl w_6_105⟩
theorem ft_12_41 : xFT 11 41 .boolean := ⟨RX12, TX12, 58, tyX12, rfl, rfl, tyX12_ok, nmX12, rfl⟩
theorem fl_12_457 : xFL RX12 457 11 40 := ⟨RX12, TX12, 58, rfl, by decide, uw_12, rfl, Or.inl w_6_104⟩
theorem ft_12_40 : xFT 11 40 .int := ⟨RX12, TX12, 58, tyX12, rfl, rfl, tyX12_ok, nmX12, rfl⟩
theorem fl_12_93 : xFL RX12 93 11 42 := ⟨RX12, TX12, 58, rfl, by decide, uw_12, rfl, Or.inl w_6_106⟩
theorem fl_12_460 : xFL RX12 460 11 43 := ⟨RX12, TX12, 58, rfl, by decide, uw_12, rfl, Or.inl w_6_107⟩
theorem ft_12_43 : xFT 11 43 .int := ⟨RX12, TX12, 58, tyX12, rfl, rfl, tyX12_ok, nmX12, rfl⟩
theorem kc_12_463 : Cond.constantLong RX12 463 (255) ∈ GT := w_8_157
theorem sel_yX12_lays : Cond.selects yX12_lays.cls yX12_lays yX12_lays ∈ GT := GT_in (psel (pin_6 (List.mem_of_getElem? (i := 4) rfl))) rfl
theorem ml_12_465 : xML RX12 465 11 yX12_lays cX12_lays 2 none 1 := ⟨w_8_158, w_8_160, sel_yX12_lays, w_1_17, w_8_161, ⟨TX12, 58, rfl⟩, neM_12, neV_12, rfl⟩
theorem sel_yX12_spells : Cond.selects yX12_spells.cls yX12_spells yX12_spells ∈ GT := GT_in (psel (pin_6 (List.mem_of_getElem? (i := 3) rfl))) rfl
theorem ml_12_468 : xML RX12 468 11 yX12_spells cX12_spells 4 none 1 := ⟨w_8_153, w_8_155, sel_yX12_spells, w_1_17, w_8_156, ⟨TX12, 58, rfl⟩, neM_12, neV_12, rfl⟩
theorem kc_12_472 : Cond.constantLong RX12 472 (418431069797) ∈ GT := w_8_162
theorem sel_yX12_says : Cond.selects yX12_says.cls yX12_says yX12_says ∈ GT := GT_in (psel (pin_6 (List.mem_of_getElem? (i := 5) rfl))) rfl
theorem ml_12_474 : xML RX12 474 11 yX12_says cX12_says 3 none 1 := ⟨w_8_163, w_8_165, sel_yX12_says, w_1_17, w_8_166, ⟨TX12, 58, rfl⟩, neM_12, neV_12, rfl⟩
theorem kc_12_477 : Cond.constantLong RX12 477 (126909394808947) ∈ GT := w_8_167
theorem kc_12_166 : Cond.constantLong RX12 166 (465726040947) ∈ GT := w_6_54
theorem kc_12_479 : Cond.constantLong RX12 479 (1751478885) ∈ GT := w_8_168
theorem fl_12_481 : xFL RX12 481 11 44 := ⟨RX12, TX12, 58, rfl, by decide, uw_12, rfl, Or.inl w_6_108⟩
theorem kc_12_484 : Cond.constant RX12 484 (1103515245) ∈ GT := w_8_185
theorem ft_12_44 : xFT 11 44 .int := ⟨RX12, TX12, 58, tyX12, rfl, rfl, tyX12_ok, nmX12, rfl⟩
theorem sel_yX12_draw : Cond.selects yX12_draw.cls yX12_draw yX12_draw ∈ GT := GT_in (psel (pin_6 (List.mem_of_getElem? (i := 7) rfl))) rfl
theorem ml_12_485 : xML RX12 485 11 yX12_draw cX12_draw 2 (some .int) 1 := ⟨w_8_181, w_8_183, sel_yX12_draw, w_1_17, w_8_184, ⟨TX12, 58, rfl⟩, neM_12, neV_12, rfl⟩
theorem sel_yX12_draws : Cond.selects yX12_draws.cls yX12_draws yX12_draws ∈ GT := GT_in (psel (pin_6 (List.mem_of_getElem? (i := 6) rfl))) rfl
theorem ml_12_488 : xML RX12 488 11 yX12_draws cX12_draws 6 (some .int) 2 := ⟨w_8_177, w_8_179, sel_yX12_draws, w_1_17, w_8_180, ⟨TX12, 58, rfl⟩, neM_12, neV_12, rfl⟩
theorem fl_12_491 : xFL RX12 491 11 45 := ⟨RX12, TX12, 58, rfl, by decide, uw_12, rfl, Or.inl w_6_109⟩
theorem kc_12_146 : Cond.constantLong RX12 146 (1818586724) ∈ GT := w_6_44
theorem kc_12_148 : Cond.constantLong RX12 148 (1752527720) ∈ GT := w_6_45
theorem kc_12_150 : Cond.constantLong RX12 150 (7103860) ∈ GT := w_6_46
theorem kc_12_152 : Cond.constantLong RX12 152 (495673374068) ∈ GT := w_6_47
theorem kc_12_154 : Cond.constantLong RX12 154 (1752135026) ∈ GT := w_6_48
theorem fl_12_40 : xFL RX12 40 11 8 := ⟨RX12, TX12, 58, rfl, by decide, uw_12, rfl, Or.inl w_6_72⟩
theorem ft_12_45 : xFT 11 45 .int := ⟨RX12, TX12, 58, tyX12, rfl, rfl, tyX12_ok, nmX12, rfl⟩
theorem sel_yX12_bookLine : Cond.selects yX12_bookLine.cls yX12_bookLine yX12_bookLine ∈ GT := GT_in (psel (pin_6 (List.mem_of_getElem? (i := 8) rfl))) rfl
theorem ml_12_494 : xML RX12 494 11 yX12_bookLine cX12_bookLine 4 (some .boolean) 0 := ⟨w_8_194, w_8_196, sel_yX12_bookLine, w_1_17, w_8_197, ⟨TX12, 58, rfl⟩, neM_12, neV_12, rfl⟩
theorem fl_12_96 : xFL RX12 96 11 46 := ⟨RX12, TX12, 58, rfl, by decide, uw_12, rfl, Or.inl w_6_110⟩
theorem sel_yX12_does : Cond.selects yX12_does.cls yX12_does yX12_does ∈ GT := GT_in (psel (pin_6 (List.mem_of_getElem? (i := 9) rfl))) rfl
theorem ml_12_497 : xML RX12 497 11 yX12_does cX12_does 6 (some .int) 4 := ⟨w_8_198, w_8_200, sel_yX12_does, w_1_17, w_8_201, ⟨TX12, 58, rfl⟩, neM_12, neV_12, rfl⟩
theorem fl_12_500 : xFL RX12 500 11 47 := ⟨RX12, TX12, 58, rfl, by decide, uw_12, rfl, Or.inl w_6_111⟩
theorem ft_12_47 : xFT 11 47 .boolean := ⟨RX12, TX12, 58, tyX12, rfl, rfl, tyX12_ok, nmX12, rfl⟩
theorem fl_12_503 : xFL RX12 503 11 49 := ⟨RX12, TX12, 58, rfl, by decide, uw_12, rfl, Or.inl w_6_113⟩
theorem ft_12_49 : xFT 11 49 .int := ⟨RX12, TX12, 58, tyX12, rfl, rfl, tyX12_ok, nmX12, rfl⟩
theorem fl_12_506 : xFL RX12 506 11 51 := ⟨RX12, TX12, 58, rfl, by decide, uw_12, rfl, Or.inl w_6_115⟩
theorem fl_12_99 : xFL RX12 99 11 48 := ⟨RX12, TX12, 58, rfl, by decide, uw_12, rfl, Or.inl w_6_112⟩
theorem ft_12_51 : xFT 11 51 .int := ⟨RX12, TX12, 58, tyX12, rfl, rfl, tyX12_ok, nmX12, rfl⟩
theorem sel_yX12_putCode : Cond.selects yX12_putCode.cls yX12_putCode yX12_putCode ∈ GT := GT_in (psel (pin_6 (List.mem_of_getElem? (i := 11) rfl))) rfl
theorem ml_12_509 : xML RX12 509 11 yX12_putCode cX12_putCode 4 none 3 := ⟨w_8_214, w_8_216, sel_yX12_putCode, w_1_17, w_8_217, ⟨TX12, 58, rfl⟩, neM_12, neV_12, rfl⟩
theorem fl_12_512 : xFL RX12 512 11 52 := ⟨RX12, TX12, 58, rfl, by decide, uw_12, rfl, Or.inl w_6_116⟩
theorem ft_12_52 : xFT 11 52 .int := ⟨RX12, TX12, 58, tyX12, rfl, rfl, tyX12_ok, nmX12, rfl⟩
theorem kc_12_162 : Cond.constantLong RX12 162 (422725643876) ∈ GT := w_6_52
theorem kc_12_164 : Cond.constantLong RX12 164 (1953459300) ∈ GT := w_6_53
theorem kc_12_168 : Cond.constantLong RX12 168 (25209) ∈ GT := w_6_55
theorem kc_12_170 : Cond.constantLong RX12 170 (448377483891) ∈ GT := w_6_56
theorem kc_12_172 : Cond.constantLong RX12 172 (461414299507) ∈ GT := w_6_57
theorem kc_12_174 : Cond.constantLong RX12 174 (120299675936100) ∈ GT := w_6_58
theorem kc_12_176 : Cond.constantLong RX12 176 (121450625394034) ∈ GT := w_6_59
theorem kc_12_160 : Cond.constantLong RX12 160 (7237492) ∈ GT := w_6_51
theorem sel_yX12_leafOf : Cond.selects yX12_leafOf.cls yX12_leafOf yX12_leafOf ∈ GT := GT_in (psel (pin_6 (List.mem_of_getElem? (i := 15) rfl))) rfl
theorem ml_12_515 : xML RX12 515 11 yX12_leafOf cX12_leafOf 1 (some .int) 0 := ⟨w_8_230, w_8_232, sel_yX12_leafOf, w_1_17, w_8_233, ⟨TX12, 58, rfl⟩, neM_12, neV_12, rfl⟩
theorem fl_12_518 : xFL RX12 518 11 50 := ⟨RX12, TX12, 58, rfl, by decide, uw_12, rfl, Or.inl w_6_114⟩
theorem ft_12_50 : xFT 11 50 .int := ⟨RX12, TX12, 58, tyX12, rfl, rfl, tyX12_ok, nmX12, rfl⟩
theorem fl_12_521 : xFL RX12 521 11 53 := ⟨RX12, TX12, 58, rfl, by decide, uw_12, rfl, Or.inl w_6_117⟩
theorem ft_12_53 : xFT 11 53 .boolean := ⟨RX12, TX12, 58, tyX12, rfl, rfl, tyX12_ok, nmX12, rfl⟩
theorem sel_yX12_nots : Cond.selects yX12_nots.cls yX12_nots yX12_nots ∈ GT := GT_in (psel (pin_6 (List.mem_of_getElem? (i := 10) rfl))) rfl
theorem ml_12_524 : xML RX12 524 11 yX12_nots cX12_nots 1 none 0 := ⟨w_8_210, w_8_212, sel_yX12_nots, w_1_17, w_8_213, ⟨TX12, 58, rfl⟩, neM_12, neV_12, rfl⟩
theorem kc_12_158 : Cond.constantLong RX12 158 (6385252) ∈ GT := w_6_50
theorem kc_12_156 : Cond.constantLong RX12 156 (28530) ∈ GT := w_6_49
theorem sel_yX12_joins : Cond.selects yX12_joins.cls yX12_joins yX12_joins ∈ GT := GT_in (psel (pin_6 (List.mem_of_getElem? (i := 12) rfl))) rfl
theorem ml_12_527 : xML RX12 527 11 yX12_joins cX12_joins 2 none 1 := ⟨w_8_218, w_8_220, sel_yX12_joins, w_1_17, w_8_221, ⟨TX12, 58, rfl⟩, neM_12, neV_12, rfl⟩
theorem sel_yX12_operand : Cond.selects yX12_operand.cls yX12_operand yX12_operand ∈ GT := GT_in (psel (pin_6 (List.mem_of_getElem? (i := 14) rfl))) rfl
theorem ml_12_533 : xML RX12 533 11 yX12_operand cX12_operand 5 (some .boolean) 0 := ⟨w_8_226, w_8_228, sel_yX12_operand, w_1_17, w_8_229, ⟨TX12, 58, rfl⟩, neM_12, neV_12, rfl⟩
theorem sel_yX12_behind : Cond.selects yX12_behind.cls yX12_behind yX12_behind ∈ GT := GT_in (psel (pin_6 (List.mem_of_getElem? (i := 13) rfl))) rfl
theorem ml_12_530 : xML RX12 530 11 yX12_behind cX12_behind 1 (some .boolean) 0 := ⟨w_8_222, w_8_224, sel_yX12_behind, w_1_17, w_8_225, ⟨TX12, 58, rfl⟩, neM_12, neV_12, rfl⟩
theorem fl_12_102 : xFL RX12 102 11 54 := ⟨RX12, TX12, 58, rfl, by decide, uw_12, rfl, Or.inl w_6_118⟩
theorem sel_yX12_isLeaf : Cond.selects yX12_isLeaf.cls yX12_isLeaf yX12_isLeaf ∈ GT := GT_in (psel (pin_7 (List.mem_of_getElem? (i := 1) rfl))) rfl
theorem ml_12_536 : xML RX12 536 11 yX12_isLeaf cX12_isLeaf 8 (some .boolean) 4 := ⟨w_9_2, w_9_4, sel_yX12_isLeaf, w_1_17, w_9_5, ⟨TX12, 58, rfl⟩, neM_12, neV_12, rfl⟩
theorem sel_yX12_isSaid : Cond.selects yX12_isSaid.cls yX12_isSaid yX12_isSaid ∈ GT := GT_in (psel (pin_7 (List.mem_of_getElem? (i := 0) rfl))) rfl
theorem ml_12_540 : xML RX12 540 11 yX12_isSaid cX12_isSaid 5 (some .boolean) 1 := ⟨w_8_238, w_9_0, sel_yX12_isSaid, w_1_17, w_9_1, ⟨TX12, 58, rfl⟩, neM_12, neV_12, rfl⟩
theorem fl_12_105 : xFL RX12 105 11 55 := ⟨RX12, TX12, 58, rfl, by decide, uw_12, rfl, Or.inl w_6_119⟩
theorem fl_12_108 : xFL RX12 108 11 56 := ⟨RX12, TX12, 58, rfl, by decide, uw_12, rfl, Or.inl w_6_120⟩
theorem fl_12_111 : xFL RX12 111 11 57 := ⟨RX12, TX12, 58, rfl, by decide, uw_12, rfl, Or.inl w_6_121⟩
theorem al_2 : Int32.ofNat 2 = 2 := by decide
theorem al_4 : Int32.ofNat 4 = 4 := by decide
theorem al_6 : Int32.ofNat 6 = 6 := by decide
theorem al_8 : Int32.ofNat 8 = 8 := by decide
theorem bi_m2 : (Int8.ofInt (-2)).toInt32 = (-2) := by decide
theorem bi_6 : (Int8.ofInt (6)).toInt32 = (6) := by decide
theorem bi_7 : (Int8.ofInt (7)).toInt32 = (7) := by decide
theorem bi_8 : (Int8.ofInt (8)).toInt32 = (8) := by decide
theorem bi_9 : (Int8.ofInt (9)).toInt32 = (9) := by decide
theorem bi_10 : (Int8.ofInt (10)).toInt32 = (10) := by decide
theorem bi_11 : (Int8.ofInt (11)).toInt32 = (11) := by decide
theorem bi_12 : (Int8.ofInt (12)).toInt32 = (12) := by decide
theorem bi_13 : (Int8.ofInt (13)).toInt32 = (13) := by decide
theorem bi_16 : (Int8.ofInt (16)).toInt32 = (16) := by decide
theorem bi_17 : (Int8.ofInt (17)).toInt32 = (17) := by decide
theorem bi_18 : (Int8.ofInt (18)).toInt32 = (18) := by decide
theorem bi_19 : (Int8.ofInt (19)).toInt32 = (19) := by decide
theorem bi_20 : (Int8.ofInt (20)).toInt32 = (20) := by decide
theorem bi_21 : (Int8.ofInt (21)).toInt32 = (21) := by decide
theorem bi_22 : (Int8.ofInt (22)).toInt32 = (22) := by decide
theorem bi_23 : (Int8.ofInt (23)).toInt32 = (23) := by decide
theorem bi_24 : (Int8.ofInt (24)).toInt32 = (24) := by decide
theorem bi_25 : (Int8.ofInt (25)).toInt32 = (25) := by decide
theorem bi_26 : (Int8.ofInt (26)).toInt32 = (26) := by decide
theorem bi_29 : (Int8.ofInt (29)).toInt32 = (29) := by decide
theorem bi_30 : (Int8.ofInt (30)).toInt32 = (30) := by decide
theorem bi_31 : (Int8.ofInt (31)).toInt32 = (31) := by decide
theorem bi_32 : (Int8.ofInt (32)).toInt32 = (32) := by decide
theorem bi_36 : (Int8.ofInt (36)).toInt32 = (36) := by decide
theorem bi_37 : (Int8.ofInt (37)).toInt32 = (37) := by decide
theorem bi_39 : (Int8.ofInt (39)).toInt32 = (39) := by decide
theorem bi_40 : (Int8.ofInt (40)).toInt32 = (40) := by decide
theorem bi_41 : (Int8.ofInt (41)).toInt32 = (41) := by decide
theorem bi_43 : (Int8.ofInt (43)).toInt32 = (43) := by decide
theorem bi_46 : (Int8.ofInt (46)).toInt32 = (46) := by decide
theorem bi_48 : (Int8.ofInt (48)).toInt32 = (48) := by decide
theorem bi_49 : (Int8.ofInt (49)).toInt32 = (49) := by decide
theorem bi_56 : (Int8.ofInt (56)).toInt32 = (56) := by decide
theorem bi_57 : (Int8.ofInt (57)).toInt32 = (57) := by decide
theorem bi_59 : (Int8.ofInt (59)).toInt32 = (59) := by decide
theorem bi_60 : (Int8.ofInt (60)).toInt32 = (60) := by decide
theorem bi_61 : (Int8.ofInt (61)).toInt32 = (61) := by decide
theorem bi_62 : (Int8.ofInt (62)).toInt32 = (62) := by decide
theorem bi_64 : (Int8.ofInt (64)).toInt32 = (64) := by decide
theorem bi_65 : (Int8.ofInt (65)).toInt32 = (65) := by decide
theorem bi_73 : (Int8.ofInt (73)).toInt32 = (73) := by decide
theorem bi_81 : (Int8.ofInt (81)).toInt32 = (81) := by decide
theorem bi_82 : (Int8.ofInt (82)).toInt32 = (82) := by decide
theorem bi_89 : (Int8.ofInt (89)).toInt32 = (89) := by decide
theorem bi_97 : (Int8.ofInt (97)).toInt32 = (97) := by decide
theorem bi_98 : (Int8.ofInt (98)).toInt32 = (98) := by decide
theorem bi_99 : (Int8.ofInt (99)).toInt32 = (99) := by decide
theorem bi_100 : (Int8.ofInt (100)).toInt32 = (100) := by decide
theorem bi_101 : (Int8.ofInt (101)).toInt32 = (101) := by decide
theorem bi_102 : (Int8.ofInt (102)).toInt32 = (102) := by decide
theorem bi_103 : (Int8.ofInt (103)).toInt32 = (103) := by decide
theorem bi_109 : (Int8.ofInt (109)).toInt32 = (109) := by decide
theorem bi_115 : (Int8.ofInt (115)).toInt32 = (115) := by decide
theorem bi_121 : (Int8.ofInt (121)).toInt32 = (121) := by decide
theorem bi_122 : (Int8.ofInt (122)).toInt32 = (122) := by decide
theorem ic_m8 : Int32.ofInt (-8) = (-8) := by decide
theorem ic_m5 : Int32.ofInt (-5) = (-5) := by decide
theorem ic_m1 : Int32.ofInt (-1) = (-1) := by decide
theorem ic_0 : Int32.ofInt (0) = (0) := by decide
theorem ic_1 : Int32.ofInt (1) = (1) := by decide
theorem ic_2 : Int32.ofInt (2) = (2) := by decide
theorem ic_3 : Int32.ofInt (3) = (3) := by decide
theorem ic_4 : Int32.ofInt (4) = (4) := by decide
theorem ic_5 : Int32.ofInt (5) = (5) := by decide
theorem ix_0_3 : ix 0 3 = some 0 := by decide
theorem ix_0_4 : ix 0 4 = some 0 := by decide
theorem ix_0_6 : ix 0 6 = some 0 := by decide
theorem ix_0_20 : ix 0 20 = some 0 := by decide
theorem ix_0_45 : ix 0 45 = some 0 := by decide
theorem ix_0_97 : ix 0 97 = some 0 := by decide
theorem ix_0_256 : ix 0 256 = some 0 := by decide
theorem ix_0_302 : ix 0 302 = some 0 := by decide
theorem ix_0_448 : ix 0 448 = some 0 := by decide
theorem ix_1_3 : ix 1 3 = some 1 := by decide
theorem ix_1_4 : ix 1 4 = some 1 := by decide
theorem ix_1_6 : ix 1 6 = some 1 := by decide
theorem ix_1_24 : ix 1 24 = some 1 := by decide
theorem ix_1_97 : ix 1 97 = some 1 := by decide
theorem ix_1_302 : ix 1 302 = some 1 := by decide
theorem ix_2_3 : ix 2 3 = some 2 := by decide
theorem ix_2_4 : ix 2 4 = some 2 := by decide
theorem ix_2_6 : ix 2 6 = some 2 := by decide
theorem ix_2_97 : ix 2 97 = some 2 := by decide
theorem ix_2_302 : ix 2 302 = some 2 := by decide
theorem ix_3_4 : ix 3 4 = some 3 := by decide
theorem ix_3_6 : ix 3 6 = some 3 := by decide
theorem ix_3_97 : ix 3 97 = some 3 := by decide
theorem ix_3_302 : ix 3 302 = some 3 := by decide
theorem ix_4_6 : ix 4 6 = some 4 := by decide
theorem ix_4_97 : ix 4 97 = some 4 := by decide
theorem ix_4_302 : ix 4 302 = some 4 := by decide
theorem ix_5_6 : ix 5 6 = some 5 := by decide
theorem ix_5_97 : ix 5 97 = some 5 := by decide
theorem ix_5_302 : ix 5 302 = some 5 := by decide
theorem ix_6_97 : ix 6 97 = some 6 := by decide
theorem ix_6_302 : ix 6 302 = some 6 := by decide
theorem ix_97_302 : ix 97 302 = some 97 := by decide
theorem ix_98_302 : ix 98 302 = some 98 := by decide
theorem ix_99_302 : ix 99 302 = some 99 := by decide
theorem ix_100_302 : ix 100 302 = some 100 := by decide
theorem ix_101_302 : ix 101 302 = some 101 := by decide
theorem ix_102_302 : ix 102 302 = some 102 := by decide
theorem ix_121_302 : ix 121 302 = some 121 := by decide
theorem ixc_4_4 : ixc 4 4 = some 4 := by decide
theorem ixc_6_6 : ixc 6 6 = some 6 := by decide
theorem ixc_8_8 : ixc 8 8 = some 8 := by decide
theorem ixc_40_40 : ixc 40 40 = some 40 := by decide
theorem lc_0 : Int64.ofNat (((0 : Fin 2) : Nat)) = (0) := by decide
theorem si_m1000 : (Int16.ofInt (-1000)).toInt32 = (-1000) := by decide
theorem si_168 : (Int16.ofInt (168)).toInt32 = (168) := by decide
theorem si_200 : (Int16.ofInt (200)).toInt32 = (200) := by decide
theorem si_255 : (Int16.ofInt (255)).toInt32 = (255) := by decide
theorem si_256 : (Int16.ofInt (256)).toInt32 = (256) := by decide
theorem si_302 : (Int16.ofInt (302)).toInt32 = (302) := by decide
theorem si_400 : (Int16.ofInt (400)).toInt32 = (400) := by decide
theorem si_900 : (Int16.ofInt (900)).toInt32 = (900) := by decide
theorem si_940 : (Int16.ofInt (940)).toInt32 = (940) := by decide
theorem si_999 : (Int16.ofInt (999)).toInt32 = (999) := by decide
theorem si_12345 : (Int16.ofInt (12345)).toInt32 = (12345) := by decide
def rowsL (b n : Nat) : List Nat := (List.range n).map (fun j => b + j)
theorem rowsL_get {b n j : Nat} (h : j < n) : (rowsL b n)[j]? = some (b + j) := by simp [rowsL, h]
def shCL : List xSh := [.inl (10, [3, 5, 7, 45, 46, 73, 78, 120, 125, 167, 172, 182, 184, 185, 0, 0, 0, 0, 0]), .inl (7, [4, 0]), .inr (0, 940, []), .inl (8, [3, 6, 0, 0, 0, 0, 0, 0, 0, 1, 0, 0]), .inr (1, 32, []), .inl (3, [0, 8, 35, 40]), .inl (2, [0, 0, 0, 0, 0, 0, 0, 0, 0, 9, 10, 11, 12, 19, 26]), .inr (1, 6, []), .inr (1, 6, []), .inr (1, 8, []), .inr (4, 6, [11, 12, 13, 14, 15, 16]), .inr (0, 3, []), .inr (0, 3, []), .inr (0, 3, []), .inr (0, 3, []), .inr (0, 3, []), .inr (0, 3, []), .inr (4, 6, [18, 19, 20, 21, 22, 23]), .inr (0, 4, []), .inr (0, 4, []), .inr (0, 4, []), .inr (0, 4, []), .inr (0, 4, []), .inr (0, 4, []), .inr (4, 8, [25, 26, 27, 28, 29, 30, 31, 32]), .inr (0, 6, []), .inr (0, 6, []), .inr (0, 6, []), .inr (0, 6, []), .inr (0, 6, []), .inr (0, 6, []), .inr (0, 6, []), .inr (0, 6, []), .inl (6, [0, 0, 0, 36, 37, 38, 39]), .inr (0, 4, []), .inr (0, 6, []), .inr (0, 6, []), .inr (0, 6, []), .inl (4, [0, 0, 0, 41, 42, 43, 44]), .inr (0, 40, []), .inr (0, 40, []), .inr (0, 40, []), .inr (3, 20, []), .inr (5, 2, [184, 222]), .inl (2, [0, 0, 0, 0, 0, 0, 0, 0, 0, 47, 48, 49, 50, 57, 64]), .inr (1, 6, []), .inr (1, 6, []), .inr (1, 8, []), .inr (4, 6, [49, 50, 51, 52, 53, 54]), .inr (0, 3, []), .inr (0, 3, []), .inr (0, 3, []), .inr (0, 3, []), .inr (0, 3, []), .inr (0, 3, []), .inr (4, 6, [56, 57, 58, 59, 60, 61]), .inr (0, 4, []), .inr (0, 4, []), .inr (0, 4, []), .inr (0, 4, []), .inr (0, 4, []), .inr (0, 4, []), .inr (4, 8, [63, 64, 65, 66, 67, 68, 69, 70]), .inr (0, 6, []), .inr (0, 6, []), .inr (0, 6, []), .inr (0, 6, []), .inr (0, 6, []), .inr (0, 6, []), .inr (0, 6, []), .inr (0, 6, []), .inl (4, [0, 0, 0, 74, 75, 76, 77]), .inr (0, 40, []), .inr (0, 40, []), .inr (0, 40, []), .inr (3, 20, []), .inl (1, [79, 0, 0, 0, 0, 0, 0]), .inr (4, 40, [78, 79, 80, 81, 82, 83, 84, 85, 86, 87, 88, 89, 90, 91, 92, 93, 94, 95, 96, 97, 98, 99, 100, 101, 102, 103, 104, 105, 106, 107, 108, 109, 110, 111, 112, 113, 114, 115, 116, 117]), .inr (0, 4, []), .inr (0, 4, []), .inr (0, 4, []), .inr (0, 4, []), .inr (0, 4, []), .inr (0, 4, []), .inr (0, 4, []), .inr (0, 4, []), .inr (0, 4, []), .inr (0, 4, []), .inr (0, 4, []), .inr (0, 4, []), .inr (0, 4, []), .inr (0, 4, []), .inr (0, 4, []), .inr (0, 4, []), .inr (0, 4, []), .inr (0, 4, []), .inr (0, 4, []), .inr (0, 4, []), .inr (0, 4, []), .inr (0, 4, []), .inr (0, 4, []), .inr (0, 4, []), .inr (0, 4, []), .inr (0, 4, []), .inr (0, 4, []), .inr (0, 4, []), .inr (0, 4, []), .inr (0, 4, []), .inr (0, 4, []), .inr (0, 4, []), .inr (0, 4, []), .inr (0, 4, []), .inr (0, 4, []), .inr (0, 4, []), .inr (0, 4, []), .inr (0, 4, []), .inr (0, 4, []), .inr (0, 4, []), .inl (6, [0, 0, 0, 121, 122, 123, 124]), .inr (0, 4, []), .inr (0, 6, []), .inr (0, 6, []), .inr (0, 6, []), .inl (9, [126, 0, 0]), .inr (6, 8, [125, 130, 135, 140, 145, 150, 155, 160]), .inl (6, [0, 0, 0, 128, 129, 130, 131]), .inr (0, 4, []), .inr (0, 6, []), .inr (0, 6, []), .inr (0, 6, []), .inl (6, [0, 0, 0, 133, 134, 135, 136]), .inr (0, 4, []), .inr (0, 6, []), .inr (0, 6, []), .inr (0, 6, []), .inl (6, [0, 0, 0, 138, 139, 140, 141]), .inr (0, 4, []), .inr (0, 6, []), .inr (0, 6, []), .inr (0, 6, []), .inl (6, [0, 0, 0, 143, 144, 145, 146]), .inr (0, 4, []), .inr (0, 6, []), .inr (0, 6, []), .inr (0, 6, []), .inl (6, [0, 0, 0, 148, 149, 150, 151]), .inr (0, 4, []), .inr (0, 6, []), .inr (0, 6, []), .inr (0, 6, []), .inl (6, [0, 0, 0, 153, 154, 155, 156]), .inr (0, 4, []), .inr (0, 6, []), .inr (0, 6, []), .inr (0, 6, []), .inl (6, [0, 0, 0, 158, 159, 160, 161]), .inr (0, 4, []), .inr (0, 6, []), .inr (0, 6, []), .inr (0, 6, []), .inl (6, [0, 0, 0, 163, 164, 165, 166]), .inr (0, 4, []), .inr (0, 6, []), .inr (0, 6, []), .inr (0, 6, []), .inl (5, [168, 169, 170, 171, 0, 0]), .inr (0, 81, []), .inr (0, 81, []), .inr (0, 4, []), .inr (0, 6, []), .inl (0, [173, 180, 181, 0, 0]), .inr (4, 6, [172, 173, 174, 175, 176, 177]), .inr (0, 6, []), .inr (0, 6, []), .inr (0, 6, []), .inr (0, 6, []), .inr (0, 6, []), .inr (0, 6, []), .inr (0, 6, []), .inr (0, 6, []), .inl (7, [183, 0]), .inr (0, 32, []), .inr (0, 8, []), .inr (0, 8, []), .inl (3, [0, 187, 214, 219]), .inl (2, [0, 0, 0, 0, 0, 0, 0, 0, 0, 188, 189, 190, 191, 198, 205]), .inr (1, 6, []), .inr (1, 6, []), .inr (1, 8, []), .inr (4, 6, [190, 191, 192, 193, 194, 195]), .inr (0, 3, []), .inr (0, 3, []), .inr (0, 3, []), .inr (0, 3, []), .inr (0, 3, []), .inr (0, 3, []), .inr (4, 6, [197, 198, 199, 200, 201, 202]), .inr (0, 4, []), .inr (0, 4, []), .inr (0, 4, []), .inr (0, 4, []), .inr (0, 4, []), .inr (0, 4, []), .inr (4, 8, [204, 205, 206, 207, 208, 209, 210, 211]), .inr (0, 6, []), .inr (0, 6, []), .inr (0, 6, []), .inr (0, 6, []), .inr (0, 6, []), .inr (0, 6, []), .inr (0, 6, []), .inr (0, 6, []), .inl (6, [0, 0, 0, 215, 216, 217, 218]), .inr (0, 4, []), .inr (0, 6, []), .inr (0, 6, []), .inr (0, 6, []), .inl (4, [0, 0, 0, 220, 221, 222, 223]), .inr (0, 40, []), .inr (0, 40, []), .inr (0, 40, []), .inr (3, 20, []), .inl (3, [0, 225, 252, 257]), .inl (2, [0, 0, 0, 0, 0, 0, 0, 0, 0, 226, 227, 228, 229, 236, 243]), .inr (1, 6, []), .inr (1, 6, []), .inr (1, 8, []), .inr (4, 6, [228, 229, 230, 231, 232, 233]), .inr (0, 3, []), .inr (0, 3, []), .inr (0, 3, []), .inr (0, 3, []), .inr (0, 3, []), .inr (0, 3, []), .inr (4, 6, [235, 236, 237, 238, 239, 240]), .inr (0, 4, []), .inr (0, 4, []), .inr (0, 4, []), .inr (0, 4, []), .inr (0, 4, []), .inr (0, 4, []), .inr (4, 8, [242, 243, 244, 245, 246, 247, 248, 249]), .inr (0, 6, []), .inr (0, 6, []), .inr (0, 6, []), .inr (0, 6, []), .inr (0, 6, []), .inr (0, 6, []), .inr (0, 6, []), .inr (0, 6, []), .inl (6, [0, 0, 0, 253, 254, 255, 256]), .inr (0, 4, []), .inr (0, 6, []), .inr (0, 6, []), .inr (0, 6, []), .inl (4, [0, 0, 0, 258, 259, 260, 261]), .inr (0, 40, []), .inr (0, 40, []), .inr (0, 40, []), .inr (3, 20, [])]
def shC (k : Nat) : xSh := shCL.getD k (.inr (9, 0, []))
set_option maxRecDepth 20000 in
theorem shC_out (k : Nat) (h : 260 ≤ k) : shC k = .inr (9, 0, []) := by unfold shC; rw [List.getD_eq_getElem?_getD, List.getElem?_eq_none (by exact h)]; rfl
def shML : List xSh := [.inl (11, [0, 3, 0, 0, 0, 0, 4, 5, 6, 7, 8, 0, 0, 0, 0, 0, 0, 1, 0, 0, 0, 0, 9, 10, 0, 11, 12, 0, 0, 0, 0, 0, 13, 14, 15, 0, 16, 0, 17, 18, 0, 0, 19, 0, 0, 0, 20, 0, 21, 0, 0, 0, 0, 0, 22, 23, 24, 25]), .inr (2, 940, []), .inr (0, 302, []), .inr (0, 97, []), .inr (0, 160, []), .inr (1, 40, []), .inr (1, 32, []), .inr (0, 192, []), .inr (0, 24, []), .inr (0, 81, []), .inr (0, 6, []), .inr (0, 36, []), .inr (0, 448, []), .inr (0, 6, []), .inr (0, 8, []), .inr (3, 256, []), .inr (3, 256, []), .inr (2, 48, []), .inr (0, 4, []), .inr (0, 45, []), .inr (3, 45, []), .inr (0, 604, []), .inr (1, 40, []), .inr (3, 2, [])]
def shM (k : Nat) : xSh := shML.getD k (.inr (9, 0, []))
set_option maxRecDepth 20000 in
theorem shM_out (k : Nat) (h : 24 ≤ k) : shM k = .inr (9, 0, []) := by unfold shM; rw [List.getD_eq_getElem?_getD, List.getElem?_eq_none (by exact h)]; rfl
theorem sm_0 : shM 0 = .inl (11, [0, 3, 0, 0, 0, 0, 4, 5, 6, 7, 8, 0, 0, 0, 0, 0, 0, 1, 0, 0, 0, 0, 9, 10, 0, 11, 12, 0, 0, 0, 0, 0, 13, 14, 15, 0, 16, 0, 17, 18, 0, 0, 19, 0, 0, 0, 20, 0, 21, 0, 0, 0, 0, 0, 22, 23, 24, 25]) := rfl
theorem sm_1 : shM 1 = .inr (2, 940, []) := rfl
theorem sm_2 : shM 2 = .inr (0, 302, []) := rfl
theorem sm_3 : shM 3 = .inr (0, 97, []) := rfl
theorem sm_4 : shM 4 = .inr (0, 160, []) := rfl
theorem sm_5 : shM 5 = .inr (1, 40, []) := rfl
theorem sm_6 : shM 6 = .inr (1, 32, []) := rfl
theorem sm_7 : shM 7 = .inr (0, 192, []) := rfl
theorem sm_8 : shM 8 = .inr (0, 24, []) := rfl
theorem sm_9 : shM 9 = .inr (0, 81, []) := rfl
theorem sm_10 : shM 10 = .inr (0, 6, []) := rfl
theorem sm_11 : shM 11 = .inr (0, 36, []) := rfl
theorem sm_12 : shM 12 = .inr (0, 448, []) := rfl
theorem sm_13 : shM 13 = .inr (0, 6, []) := rfl
theorem sm_14 : shM 14 = .inr (0, 8, []) := rfl
theorem sm_15 : shM 15 = .inr (3, 256, []) := rfl
theorem sm_16 : shM 16 = .inr (3, 256, []) := rfl
theorem sm_17 : shM 17 = .inr (2, 48, []) := rfl
theorem sm_18 : shM 18 = .inr (0, 4, []) := rfl
theorem sm_19 : shM 19 = .inr (0, 45, []) := rfl
theorem sm_20 : shM 20 = .inr (3, 45, []) := rfl
theorem sm_21 : shM 21 = .inr (0, 604, []) := rfl
theorem sm_22 : shM 22 = .inr (1, 40, []) := rfl
theorem sm_23 : shM 23 = .inr (3, 2, []) := rfl
def isOwlsLent (k : Nat) : Prop := k ∈ ([0] : List Nat)
def isTape (k : Nat) : Prop := k ∈ ([1, 180] : List Nat)
def isTokens (k : Nat) : Prop := k ∈ ([3] : List Nat)
def isImage (k : Nat) : Prop := k ∈ ([5, 184, 222] : List Nat)
def isHouse (k : Nat) : Prop := k ∈ ([6, 44, 185, 223] : List Nat)
def isState (k : Nat) : Prop := k ∈ ([33, 118, 212, 250, 125, 130, 135, 140, 145, 150, 155, 160] : List Nat)
def isSentence (k : Nat) : Prop := k ∈ ([38, 71, 217, 255] : List Nat)
def isBook (k : Nat) : Prop := k ∈ ([76] : List Nat)
def isUndo (k : Nat) : Prop := k ∈ ([123] : List Nat)
def isSpots (k : Nat) : Prop := k ∈ ([165] : List Nat)
def isBest (k : Nat) : Prop := k ∈ ([170] : List Nat)
def FOwlsLent (k : Nat) : List Nat := [k + 1 + 2, k + 3 + 2, k + 5 + 2, k + 43 + 2, k + 44 + 2, k + 71 + 2, k + 76 + 2, k + 118 + 2, k + 123 + 2, k + 165 + 2, k + 170 + 2, k + 180 + 2, k + 182 + 2, k + 183 + 2, 0, 0, 0, 0, 0]
theorem sOwlsLent : ∀ {k : Nat}, isOwlsLent k → shC k = .inl (10, FOwlsLent k) := by unfold isOwlsLent; decide +kernel
theorem isOwlsLent_0 : isOwlsLent 0 := by unfold isOwlsLent; decide
theorem sOwlsLent_tapeI : ∀ {k : Nat}, isOwlsLent k → isTape (k + 1) := by unfold isOwlsLent isTape; decide +kernel
theorem sOwlsLent_tokensI : ∀ {k : Nat}, isOwlsLent k → isTokens (k + 3) := by unfold isOwlsLent isTokens; decide +kernel
theorem sOwlsLent_presentI : ∀ {k : Nat}, isOwlsLent k → isImage (k + 5) := by unfold isOwlsLent isImage; decide +kernel
theorem sOwlsLent_kept : ∀ {k : Nat}, isOwlsLent k → shC (k + 43) = .inr (5, 2, (List.range 2).map (fun j => k + 184 + 38 * j)) := by unfold isOwlsLent; decide +kernel
theorem sOwlsLent_keptG {k : Nat} : ∀ j, j < 2 → ((List.range 2).map (fun j => k + 184 + 38 * j))[j]? = some (k + 184 + 38 * j) := fun j h => by simp [h]
theorem sOwlsLent_keptI : ∀ {k : Nat}, isOwlsLent k → ∀ {j : Nat}, j < 2 → isImage (k + 184 + 38 * j) := by unfold isOwlsLent isImage; decide +kernel
theorem sOwlsLent_houseReadI : ∀ {k : Nat}, isOwlsLent k → isHouse (k + 44) := by unfold isOwlsLent isHouse; decide +kernel
theorem sOwlsLent_sentenceReadI : ∀ {k : Nat}, isOwlsLent k → isSentence (k + 71) := by unfold isOwlsLent isSentence; decide +kernel
theorem sOwlsLent_bookReadI : ∀ {k : Nat}, isOwlsLent k → isBook (k + 76) := by unfold isOwlsLent isBook; decide +kernel
theorem sOwlsLent_trialI : ∀ {k : Nat}, isOwlsLent k → isState (k + 118) := by unfold isOwlsLent isState; decide +kernel
theorem sOwlsLent_actsI : ∀ {k : Nat}, isOwlsLent k → isUndo (k + 123) := by unfold isOwlsLent isUndo; decide +kernel
theorem sOwlsLent_spottedI : ∀ {k : Nat}, isOwlsLent k → isSpots (k + 165) := by unfold isOwlsLent isSpots; decide +kernel
theorem sOwlsLent_placedI : ∀ {k : Nat}, isOwlsLent k → isBest (k + 170) := by unfold isOwlsLent isBest; decide +kernel
theorem sOwlsLent_writtenI : ∀ {k : Nat}, isOwlsLent k → isTape (k + 180) := by unfold isOwlsLent isTape; decide +kernel
theorem sOwlsLent_codes : ∀ {k : Nat}, isOwlsLent k → shC (k + 182) = .inr (0, 8, []) := by unfold isOwlsLent; decide +kernel
theorem sOwlsLent_codesTried : ∀ {k : Nat}, isOwlsLent k → shC (k + 183) = .inr (0, 8, []) := by unfold isOwlsLent; decide +kernel
def FTape (k : Nat) : List Nat := [k + 1 + 2, 0]
theorem sTape : ∀ {k : Nat}, isTape k → shC k = .inl (7, FTape k) := by unfold isTape; decide +kernel
theorem isTape_1 : isTape 1 := by unfold isTape; decide
theorem isTape_180 : isTape 180 := by unfold isTape; decide
def tapeLen (k : Nat) : Nat := if k = 1 then 940 else 32
theorem sTape_bytes : ∀ {k : Nat}, isTape k → shC (k + 1) = .inr (0, tapeLen k, []) := by unfold isTape; decide +kernel
def FTokens (k : Nat) : List Nat := [1 + 2, k + 1 + 2, 0, 0, 0, 0, 0, 0, 0, 1, 0, 0]
theorem sTokens : ∀ {k : Nat}, isTokens k → shC k = .inl (8, FTokens k) := by unfold isTokens; decide +kernel
theorem isTokens_3 : isTokens 3 := by unfold isTokens; decide
theorem sTokens_reserved : ∀ {k : Nat}, isTokens k → shC (k + 1) = .inr (1, 32, []) := by unfold isTokens; decide +kernel
def FImage (k : Nat) : List Nat := [0, k + 1 + 2, k + 28 + 2, k + 33 + 2]
theorem sImage : ∀ {k : Nat}, isImage k → shC k = .inl (3, FImage k) := by unfold isImage; decide +kernel
theorem isImage_5 : isImage 5 := by unfold isImage; decide
theorem isImage_184 : isImage 184 := by unfold isImage; decide
theorem isImage_222 : isImage 222 := by unfold isImage; decide
theorem sImage_homeI : ∀ {k : Nat}, isImage k → isHouse (k + 1) := by unfold isImage isHouse; decide +kernel
theorem sImage_stateI : ∀ {k : Nat}, isImage k → isState (k + 28) := by unfold isImage isState; decide +kernel
theorem sImage_sayingI : ∀ {k : Nat}, isImage k → isSentence (k + 33) := by unfold isImage isSentence; decide +kernel
def FHouse (k : Nat) : List Nat := [0, 0, 0, 0, 0, 0, 0, 0, 0, k + 1 + 2, k + 2 + 2, k + 3 + 2, k + 4 + 2, k + 11 + 2, k + 18 + 2]
theorem sHouse : ∀ {k : Nat}, isHouse k → shC k = .inl (2, FHouse k) := by unfold isHouse; decide +kernel
theorem isHouse_6 : isHouse 6 := by unfold isHouse; decide
theorem isHouse_44 : isHouse 44 := by unfold isHouse; decide
theorem isHouse_185 : isHouse 185 := by unfold isHouse; decide
theorem isHouse_223 : isHouse 223 := by unfold isHouse; decide
theorem sHouse_bedName : ∀ {k : Nat}, isHouse k → shC (k + 1) = .inr (1, 6, []) := by unfold isHouse; decide +kernel
theorem sHouse_owlName : ∀ {k : Nat}, isHouse k → shC (k + 2) = .inr (1, 6, []) := by unfold isHouse; decide +kernel
theorem sHouse_soundName : ∀ {k : Nat}, isHouse k → shC (k + 3) = .inr (1, 8, []) := by unfold isHouse; decide +kernel
theorem sHouse_bedRow : ∀ {k : Nat}, isHouse k → shC (k + 4) = .inr (4, 6, rowsL (k + 5) 6) := by unfold isHouse; decide +kernel
theorem sHouse_bedRowR : ∀ {k : Nat}, isHouse k → ∀ {j : Nat}, j < 6 → shC (k + 5 + j) = .inr (0, 3, []) := by unfold isHouse; decide +kernel
theorem sHouse_owlRow : ∀ {k : Nat}, isHouse k → shC (k + 11) = .inr (4, 6, rowsL (k + 12) 6) := by unfold isHouse; decide +kernel
theorem sHouse_owlRowR : ∀ {k : Nat}, isHouse k → ∀ {j : Nat}, j < 6 → shC (k + 12 + j) = .inr (0, 4, []) := by unfold isHouse; decide +kernel
theorem sHouse_soundRow : ∀ {k : Nat}, isHouse k → shC (k + 18) = .inr (4, 8, rowsL (k + 19) 8) := by unfold isHouse; decide +kernel
theorem sHouse_soundRowR : ∀ {k : Nat}, isHouse k → ∀ {j : Nat}, j < 8 → shC (k + 19 + j) = .inr (0, 6, []) := by unfold isHouse; decide +kernel
def FState (k : Nat) : List Nat := [0, 0, 0, k + 1 + 2, k + 2 + 2, k + 3 + 2, k + 4 + 2]
theorem sState : ∀ {k : Nat}, isState k → shC k = .inl (6, FState k) := by unfold isState; decide +kernel
theorem isState_33 : isState 33 := by unfold isState; decide
theorem isState_118 : isState 118 := by unfold isState; decide
theorem isState_212 : isState 212 := by unfold isState; decide
theorem isState_250 : isState 250 := by unfold isState; decide
theorem isState_125 : isState 125 := by unfold isState; decide
theorem isState_130 : isState 130 := by unfold isState; decide
theorem isState_135 : isState 135 := by unfold isState; decide
theorem isState_140 : isState 140 := by unfold isState; decide
theorem isState_145 : isState 145 := by unfold isState; decide
theorem isState_150 : isState 150 := by unfold isState; decide
theorem isState_155 : isState 155 := by unfold isState; decide
theorem isState_160 : isState 160 := by unfold isState; decide
theorem sState_shoutRow : ∀ {k : Nat}, isState k → shC (k + 1) = .inr (0, 4, []) := by unfold isState; decide +kernel
theorem sState_owlBed : ∀ {k : Nat}, isState k → shC (k + 2) = .inr (0, 6, []) := by unfold isState; decide +kernel
theorem sState_knows : ∀ {k : Nat}, isState k → shC (k + 3) = .inr (0, 6, []) := by unfold isState; decide +kernel
theorem sState_misses : ∀ {k : Nat}, isState k → shC (k + 4) = .inr (0, 6, []) := by unfold isState; decide +kernel
def FSentence (k : Nat) : List Nat := [0, 0, 0, k + 1 + 2, k + 2 + 2, k + 3 + 2, k + 4 + 2]
theorem sSentence : ∀ {k : Nat}, isSentence k → shC k = .inl (4, FSentence k) := by unfold isSentence; decide +kernel
theorem isSentence_38 : isSentence 38 := by unfold isSentence; decide
theorem isSentence_71 : isSentence 71 := by unfold isSentence; decide
theorem isSentence_217 : isSentence 217 := by unfold isSentence; decide
theorem isSentence_255 : isSentence 255 := by unfold isSentence; decide
theorem sSentence_steps : ∀ {k : Nat}, isSentence k → shC (k + 1) = .inr (0, 40, []) := by unfold isSentence; decide +kernel
theorem sSentence_signs : ∀ {k : Nat}, isSentence k → shC (k + 2) = .inr (0, 40, []) := by unfold isSentence; decide +kernel
theorem sSentence_numbers : ∀ {k : Nat}, isSentence k → shC (k + 3) = .inr (0, 40, []) := by unfold isSentence; decide +kernel
theorem sSentence_stack : ∀ {k : Nat}, isSentence k → shC (k + 4) = .inr (3, 20, []) := by unfold isSentence; decide +kernel
def FBook (k : Nat) : List Nat := [k + 1 + 2, 0, 0, 0, 0, 0, 0]
theorem sBook : ∀ {k : Nat}, isBook k → shC k = .inl (1, FBook k) := by unfold isBook; decide +kernel
theorem isBook_76 : isBook 76 := by unfold isBook; decide
theorem sBook_rows : ∀ {k : Nat}, isBook k → shC (k + 1) = .inr (4, 40, rowsL (k + 2) 40) := by unfold isBook; decide +kernel
theorem sBook_rowsR : ∀ {k : Nat}, isBook k → ∀ {j : Nat}, j < 40 → shC (k + 2 + j) = .inr (0, 4, []) := by unfold isBook; decide +kernel
def FUndo (k : Nat) : List Nat := [k + 1 + 2, 0, 0]
theorem sUndo : ∀ {k : Nat}, isUndo k → shC k = .inl (9, FUndo k) := by unfold isUndo; decide +kernel
theorem isUndo_123 : isUndo 123 := by unfold isUndo; decide
theorem sUndo_states : ∀ {k : Nat}, isUndo k → shC (k + 1) = .inr (6, 8, (List.range 8).map (fun j => k + 2 + 5 * j)) := by unfold isUndo; decide +kernel
theorem sUndo_statesG {k : Nat} : ∀ j, j < 8 → ((List.range 8).map (fun j => k + 2 + 5 * j))[j]? = some (k + 2 + 5 * j) := fun j h => by simp [h]
theorem sUndo_statesI : ∀ {k : Nat}, isUndo k → ∀ {j : Nat}, j < 8 → isState (k + 2 + 5 * j) := by unfold isUndo isState; decide +kernel
def FSpots (k : Nat) : List Nat := [k + 1 + 2, k + 2 + 2, k + 3 + 2, k + 4 + 2, 0, 0]
theorem sSpots : ∀ {k : Nat}, isSpots k → shC k = .inl (5, FSpots k) := by unfold isSpots; decide +kernel
theorem isSpots_165 : isSpots 165 := by unfold isSpots; decide
theorem sSpots_cells : ∀ {k : Nat}, isSpots k → shC (k + 1) = .inr (0, 81, []) := by unfold isSpots; decide +kernel
theorem sSpots_cellsTried : ∀ {k : Nat}, isSpots k → shC (k + 2) = .inr (0, 81, []) := by unfold isSpots; decide +kernel
theorem sSpots_voice : ∀ {k : Nat}, isSpots k → shC (k + 3) = .inr (0, 4, []) := by unfold isSpots; decide +kernel
theorem sSpots_tally : ∀ {k : Nat}, isSpots k → shC (k + 4) = .inr (0, 6, []) := by unfold isSpots; decide +kernel
def FBest (k : Nat) : List Nat := [k + 1 + 2, k + 8 + 2, k + 9 + 2, 0, 0]
theorem sBest : ∀ {k : Nat}, isBest k → shC k = .inl (0, FBest k) := by unfold isBest; decide +kernel
theorem isBest_170 : isBest 170 := by unfold isBest; decide
theorem sBest_gain : ∀ {k : Nat}, isBest k → shC (k + 1) = .inr (4, 6, rowsL (k + 2) 6) := by unfold isBest; decide +kernel
theorem sBest_gainR : ∀ {k : Nat}, isBest k → ∀ {j : Nat}, j < 6 → shC (k + 2 + j) = .inr (0, 6, []) := by unfold isBest; decide +kernel
theorem sBest_chosen : ∀ {k : Nat}, isBest k → shC (k + 8) = .inr (0, 6, []) := by unfold isBest; decide +kernel
theorem sBest_found : ∀ {k : Nat}, isBest k → shC (k + 9) = .inr (0, 6, []) := by unfold isBest; decide +kernel
/-! what the walks need beside the rows -/
abbrev WC (G : xG) : Prop := xWG G shC
abbrev WM (G : xG) : Prop := xWG G shM
theorem ne_toInt {x c : Int32} {k : Int} (h : ¬ x = c) (hc : c.toInt = k) : x.toInt ≠ k := fun e => h (Int32.toInt_inj.mp (e.trans hc.symm))
theorem ix_lit {i : Int32} {k : Nat} (hk : i.toInt = k) {N : Nat} (h : k < N) : ix i N = some k := by
  unfold ix
  rw [if_pos ⟨by omega, by omega⟩]
  have : i.toNatClampNeg = i.toInt.toNat := rfl
  rw [this, hk]
  rfl
theorem ix_src_0 {N : Nat} (h : 4 ≤ N) : ix 0 N = some 0 := ix_lit (by decide) (by omega)
theorem ix_src_1 {N : Nat} (h : 4 ≤ N) : ix 1 N = some 1 := ix_lit (by decide) (by omega)
theorem ix_src_2 {N : Nat} (h : 4 ≤ N) : ix 2 N = some 2 := ix_lit (by decide) (by omega)
theorem ix_src_3 {N : Nat} (h : 4 ≤ N) : ix 3 N = some 3 := ix_lit (by decide) (by omega)
theorem x_rz {E : xE} {ρ : Type} {fin : ρ → State → Prop} {pc : Nat} {lv : List (Nat × Value)} {st : List Value} {wd : va_W} {v : Int32} {F : Int32 → Option ρ} (kk : ∀ w, w = 0 ∨ w = 1 → Xg E fin pc lv (.int w :: st) wd (F w)) : Xg E fin pc lv (.int v :: st) wd ((rz v).bind F) := by
  cases hj : rz v with
  | none => exact x_none
  | some w =>
    obtain ⟨rfl, h⟩ := rz_in hj
    exact kk v h
