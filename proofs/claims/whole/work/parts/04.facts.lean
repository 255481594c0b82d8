/-! words of the tables; fields and calls by their places in the constant pools; the two worlds' shapes -/
theorem tlw {w : Cond} (h : w ∈ tables_1) : w ∈ lw_tbl := List.mem_append_right _ h
theorem psel {q : MethodName × Nat} (h : q ∈ lw_privs) : Cond.selects q.1.cls q.1 q.1 ∈ lw_tbl := List.mem_append_left _ (List.mem_map.mpr ⟨q, h, rfl⟩)
theorem pin_1 {w : MethodName × Nat} (h : w ∈ lw_privs_1) : w ∈ lw_privs := List.mem_append_left _ h
theorem pin_2 {w : MethodName × Nat} (h : w ∈ lw_privs_2) : w ∈ lw_privs := List.mem_append_right _ (List.mem_append_left _ h)
theorem pin_3 {w : MethodName × Nat} (h : w ∈ lw_privs_3) : w ∈ lw_privs := List.mem_append_right _ (List.mem_append_right _ (List.mem_append_left _ h))
theorem pin_4 {w : MethodName × Nat} (h : w ∈ lw_privs_4) : w ∈ lw_privs := List.mem_append_right _ (List.mem_append_right _ (List.mem_append_right _ (List.mem_append_left _ h)))
theorem pin_5 {w : MethodName × Nat} (h : w ∈ lw_privs_5) : w ∈ lw_privs := List.mem_append_right _ (List.mem_append_right _ (List.mem_append_right _ (List.mem_append_right _ (List.mem_append_left _ h))))
theorem pin_6 {w : MethodName × Nat} (h : w ∈ lw_privs_6) : w ∈ lw_privs := List.mem_append_right _ (List.mem_append_right _ (List.mem_append_right _ (List.mem_append_right _ (List.mem_append_right _ (List.mem_append_left _ h)))))
theorem pin_7 {w : MethodName × Nat} (h : w ∈ lw_privs_7) : w ∈ lw_privs := List.mem_append_right _ (List.mem_append_right _ (List.mem_append_right _ (List.mem_append_right _ (List.mem_append_right _ (List.mem_append_right _ (h))))))
theorem w_1_2 : (Jvm.Cond.initialized "OwlsLent$Tape") ∈ GT := GT_in (tlw (tin_1 (List.mem_of_getElem? (i := 2) rfl))) rfl
theorem w_1_3 : (Jvm.Cond.initialized "java/lang/Math") ∈ GT := GT_in (tlw (tin_1 (List.mem_of_getElem? (i := 3) rfl))) rfl
theorem w_1_4 : (Jvm.Cond.initialized "OwlsLent$Tokens") ∈ GT := GT_in (tlw (tin_1 (List.mem_of_getElem? (i := 4) rfl))) rfl
theorem w_1_10 : (Jvm.Cond.initialized "OwlsLent$House") ∈ GT := GT_in (tlw (tin_1 (List.mem_of_getElem? (i := 10) rfl))) rfl
theorem w_1_11 : (Jvm.Cond.initialized "OwlsLent$State") ∈ GT := GT_in (tlw (tin_1 (List.mem_of_getElem? (i := 11) rfl))) rfl
theorem w_1_19 : (Jvm.Cond.initialized "java/lang/System") ∈ GT := GT_in (tlw (tin_1 (List.mem_of_getElem? (i := 19) rfl))) rfl
theorem w_1_41 : (Jvm.Cond.fieldLink "OwlsLent$Tape" (19 : Nat) "OwlsLent$Tape" "bytes" "[I") ∈ GT := GT_in (tlw (tin_1 (List.mem_of_getElem? (i := 41) rfl))) rfl
theorem w_1_42 : (Jvm.Cond.fieldLink "OwlsLent$Tape" (7 : Nat) "OwlsLent$Tape" "length" "I") ∈ GT := GT_in (tlw (tin_1 (List.mem_of_getElem? (i := 42) rfl))) rfl
theorem w_1_46 : (Jvm.Cond.laysFinal "OwlsLent$Tape" "OwlsLent$Tape" "bytes" "[I") ∈ GT := GT_in (tlw (tin_1 (List.mem_of_getElem? (i := 46) rfl))) rfl
theorem w_1_48 : (Jvm.Cond.lays "OwlsLent$Tape" "OwlsLent$Tape" "length" "I") ∈ GT := GT_in (tlw (tin_1 (List.mem_of_getElem? (i := 48) rfl))) rfl
theorem w_1_107 : (Jvm.Cond.constantLong "OwlsLent$Tokens" (63 : Nat) (32 : Int64)) ∈ GT := GT_in (tlw (tin_1 (List.mem_of_getElem? (i := 107) rfl))) rfl
theorem w_1_108 : (Jvm.Cond.fieldLink "OwlsLent$Tokens" (47 : Nat) "OwlsLent$Tokens" "tape" "LOwlsLent$Tape;") ∈ GT := GT_in (tlw (tin_1 (List.mem_of_getElem? (i := 108) rfl))) rfl
theorem w_1_109 : (Jvm.Cond.fieldLink "OwlsLent$Tokens" (9 : Nat) "OwlsLent$Tokens" "reserved" "[J") ∈ GT := GT_in (tlw (tin_1 (List.mem_of_getElem? (i := 109) rfl))) rfl
theorem w_1_111 : (Jvm.Cond.fieldLink "OwlsLent$Tokens" (15 : Nat) "OwlsLent$Tokens" "most" "I") ∈ GT := GT_in (tlw (tin_1 (List.mem_of_getElem? (i := 111) rfl))) rfl
theorem w_1_112 : (Jvm.Cond.fieldLink "OwlsLent$Tokens" (19 : Nat) "OwlsLent$Tokens" "next" "I") ∈ GT := GT_in (tlw (tin_1 (List.mem_of_getElem? (i := 112) rfl))) rfl
theorem w_1_113 : (Jvm.Cond.fieldLink "OwlsLent$Tokens" (22 : Nat) "OwlsLent$Tokens" "kind" "I") ∈ GT := GT_in (tlw (tin_1 (List.mem_of_getElem? (i := 113) rfl))) rfl
theorem w_1_117 : (Jvm.Cond.fieldLink "OwlsLent$Tokens" (25 : Nat) "OwlsLent$Tokens" "place" "I") ∈ GT := GT_in (tlw (tin_1 (List.mem_of_getElem? (i := 117) rfl))) rfl
theorem w_1_118 : (Jvm.Cond.fieldLink "OwlsLent$Tokens" (28 : Nat) "OwlsLent$Tokens" "placeBehind" "I") ∈ GT := GT_in (tlw (tin_1 (List.mem_of_getElem? (i := 118) rfl))) rfl
theorem w_1_119 : (Jvm.Cond.fieldLink "OwlsLent$Tokens" (31 : Nat) "OwlsLent$Tokens" "value" "I") ∈ GT := GT_in (tlw (tin_1 (List.mem_of_getElem? (i := 119) rfl))) rfl
theorem w_1_121 : (Jvm.Cond.fieldLink "OwlsLent$Tokens" (34 : Nat) "OwlsLent$Tokens" "word" "I") ∈ GT := GT_in (tlw (tin_1 (List.mem_of_getElem? (i := 121) rfl))) rfl
theorem w_1_125 : (Jvm.Cond.fieldLink "OwlsLent$Tokens" (37 : Nat) "OwlsLent$Tokens" "name" "J") ∈ GT := GT_in (tlw (tin_1 (List.mem_of_getElem? (i := 125) rfl))) rfl
theorem w_1_126 : (Jvm.Cond.fieldLink "OwlsLent$Tokens" (41 : Nat) "OwlsLent$Tokens" "fault" "I") ∈ GT := GT_in (tlw (tin_1 (List.mem_of_getElem? (i := 126) rfl))) rfl
theorem w_1_128 : (Jvm.Cond.fieldLink "OwlsLent$Tokens" (44 : Nat) "OwlsLent$Tokens" "faultPlace" "I") ∈ GT := GT_in (tlw (tin_1 (List.mem_of_getElem? (i := 128) rfl))) rfl
theorem w_1_130 : (Jvm.Cond.laysFinal "OwlsLent$Tokens" "OwlsLent$Tokens" "tape" "LOwlsLent$Tape;") ∈ GT := GT_in (tlw (tin_1 (List.mem_of_getElem? (i := 130) rfl))) rfl
theorem w_1_132 : (Jvm.Cond.laysFinal "OwlsLent$Tokens" "OwlsLent$Tokens" "reserved" "[J") ∈ GT := GT_in (tlw (tin_1 (List.mem_of_getElem? (i := 132) rfl))) rfl
theorem w_1_134 : (Jvm.Cond.lays "OwlsLent$Tokens" "OwlsLent$Tokens" "most" "I") ∈ GT := GT_in (tlw (tin_1 (List.mem_of_getElem? (i := 134) rfl))) rfl
theorem w_1_136 : (Jvm.Cond.lays "OwlsLent$Tokens" "OwlsLent$Tokens" "next" "I") ∈ GT := GT_in (tlw (tin_1 (List.mem_of_getElem? (i := 136) rfl))) rfl
theorem w_1_138 : (Jvm.Cond.lays "OwlsLent$Tokens" "OwlsLent$Tokens" "kind" "I") ∈ GT := GT_in (tlw (tin_1 (List.mem_of_getElem? (i := 138) rfl))) rfl
theorem w_1_140 : (Jvm.Cond.lays "OwlsLent$Tokens" "OwlsLent$Tokens" "place" "I") ∈ GT := GT_in (tlw (tin_1 (List.mem_of_getElem? (i := 140) rfl))) rfl
theorem w_1_142 : (Jvm.Cond.lays "OwlsLent$Tokens" "OwlsLent$Tokens" "placeBehind" "I") ∈ GT := GT_in (tlw (tin_1 (List.mem_of_getElem? (i := 142) rfl))) rfl
theorem w_1_144 : (Jvm.Cond.lays "OwlsLent$Tokens" "OwlsLent$Tokens" "value" "I") ∈ GT := GT_in (tlw (tin_1 (List.mem_of_getElem? (i := 144) rfl))) rfl
theorem w_1_146 : (Jvm.Cond.lays "OwlsLent$Tokens" "OwlsLent$Tokens" "word" "I") ∈ GT := GT_in (tlw (tin_1 (List.mem_of_getElem? (i := 146) rfl))) rfl
theorem w_1_148 : (Jvm.Cond.lays "OwlsLent$Tokens" "OwlsLent$Tokens" "name" "J") ∈ GT := GT_in (tlw (tin_1 (List.mem_of_getElem? (i := 148) rfl))) rfl
theorem w_1_150 : (Jvm.Cond.lays "OwlsLent$Tokens" "OwlsLent$Tokens" "fault" "I") ∈ GT := GT_in (tlw (tin_1 (List.mem_of_getElem? (i := 150) rfl))) rfl
theorem w_1_152 : (Jvm.Cond.lays "OwlsLent$Tokens" "OwlsLent$Tokens" "faultPlace" "I") ∈ GT := GT_in (tlw (tin_1 (List.mem_of_getElem? (i := 152) rfl))) rfl
theorem w_1_171 : (Jvm.Cond.fieldLink "OwlsLent$House" (9 : Nat) "OwlsLent$House" "wide" "I") ∈ GT := GT_in (tlw (tin_1 (List.mem_of_getElem? (i := 171) rfl))) rfl
theorem w_1_176 : (Jvm.Cond.fieldLink "OwlsLent$House" (15 : Nat) "OwlsLent$House" "high" "I") ∈ GT := GT_in (tlw (tin_1 (List.mem_of_getElem? (i := 176) rfl))) rfl
theorem w_1_181 : (Jvm.Cond.fieldLink "OwlsLent$House" (18 : Nat) "OwlsLent$House" "shutFrom" "I") ∈ GT := GT_in (tlw (tin_1 (List.mem_of_getElem? (i := 181) rfl))) rfl
theorem w_1_183 : (Jvm.Cond.fieldLink "OwlsLent$House" (21 : Nat) "OwlsLent$House" "shutTill" "I") ∈ GT := GT_in (tlw (tin_1 (List.mem_of_getElem? (i := 183) rfl))) rfl
theorem w_1_185 : (Jvm.Cond.fieldLink "OwlsLent$House" (24 : Nat) "OwlsLent$House" "sized" "Z") ∈ GT := GT_in (tlw (tin_1 (List.mem_of_getElem? (i := 185) rfl))) rfl
theorem w_1_187 : (Jvm.Cond.fieldLink "OwlsLent$House" (28 : Nat) "OwlsLent$House" "shutTold" "Z") ∈ GT := GT_in (tlw (tin_1 (List.mem_of_getElem? (i := 187) rfl))) rfl
theorem w_1_189 : (Jvm.Cond.fieldLink "OwlsLent$House" (31 : Nat) "OwlsLent$House" "beds" "I") ∈ GT := GT_in (tlw (tin_1 (List.mem_of_getElem? (i := 189) rfl))) rfl
theorem w_1_195 : (Jvm.Cond.fieldLink "OwlsLent$House" (34 : Nat) "OwlsLent$House" "owls" "I") ∈ GT := GT_in (tlw (tin_1 (List.mem_of_getElem? (i := 195) rfl))) rfl
theorem w_1_203 : (Jvm.Cond.fieldLink "OwlsLent$House" (37 : Nat) "OwlsLent$House" "sounds" "I") ∈ GT := GT_in (tlw (tin_1 (List.mem_of_getElem? (i := 203) rfl))) rfl
theorem w_1_209 : (Jvm.Cond.fieldLink "OwlsLent$House" (40 : Nat) "OwlsLent$House" "bedName" "[J") ∈ GT := GT_in (tlw (tin_1 (List.mem_of_getElem? (i := 209) rfl))) rfl
theorem w_1_213 : (Jvm.Cond.fieldLink "OwlsLent$House" (44 : Nat) "OwlsLent$House" "owlName" "[J") ∈ GT := GT_in (tlw (tin_1 (List.mem_of_getElem? (i := 213) rfl))) rfl
theorem w_1_218 : (Jvm.Cond.fieldLink "OwlsLent$House" (47 : Nat) "OwlsLent$House" "soundName" "[J") ∈ GT := GT_in (tlw (tin_1 (List.mem_of_getElem? (i := 218) rfl))) rfl
theorem w_1_221 : (Jvm.Cond.fieldLink "OwlsLent$House" (52 : Nat) "OwlsLent$House" "bedRow" "[[I") ∈ GT := GT_in (tlw (tin_1 (List.mem_of_getElem? (i := 221) rfl))) rfl
theorem w_1_225 : (Jvm.Cond.fieldLink "OwlsLent$House" (55 : Nat) "OwlsLent$House" "owlRow" "[[I") ∈ GT := GT_in (tlw (tin_1 (List.mem_of_getElem? (i := 225) rfl))) rfl
theorem w_1_229 : (Jvm.Cond.fieldLink "OwlsLent$House" (58 : Nat) "OwlsLent$House" "soundRow" "[[I") ∈ GT := GT_in (tlw (tin_1 (List.mem_of_getElem? (i := 229) rfl))) rfl
theorem w_1_234 : (Jvm.Cond.lays "OwlsLent$House" "OwlsLent$House" "wide" "I") ∈ GT := GT_in (tlw (tin_1 (List.mem_of_getElem? (i := 234) rfl))) rfl
theorem w_1_236 : (Jvm.Cond.lays "OwlsLent$House" "OwlsLent$House" "high" "I") ∈ GT := GT_in (tlw (tin_1 (List.mem_of_getElem? (i := 236) rfl))) rfl
theorem w_1_238 : (Jvm.Cond.lays "OwlsLent$House" "OwlsLent$House" "shutFrom" "I") ∈ GT := GT_in (tlw (tin_1 (List.mem_of_getElem? (i := 238) rfl))) rfl
theorem w_2_0 : (Jvm.Cond.lays "OwlsLent$House" "OwlsLent$House" "shutTill" "I") ∈ GT := GT_in (tlw (tin_2 (List.mem_of_getElem? (i := 0) rfl))) rfl
theorem w_2_2 : (Jvm.Cond.lays "OwlsLent$House" "OwlsLent$House" "sized" "Z") ∈ GT := GT_in (tlw (tin_2 (List.mem_of_getElem? (i := 2) rfl))) rfl
theorem w_2_4 : (Jvm.Cond.lays "OwlsLent$House" "OwlsLent$House" "shutTold" "Z") ∈ GT := GT_in (tlw (tin_2 (List.mem_of_getElem? (i := 4) rfl))) rfl
theorem w_2_6 : (Jvm.Cond.lays "OwlsLent$House" "OwlsLent$House" "beds" "I") ∈ GT := GT_in (tlw (tin_2 (List.mem_of_getElem? (i := 6) rfl))) rfl
theorem w_2_8 : (Jvm.Cond.lays "OwlsLent$House" "OwlsLent$House" "owls" "I") ∈ GT := GT_in (tlw (tin_2 (List.mem_of_getElem? (i := 8) rfl))) rfl
theorem w_2_10 : (Jvm.Cond.lays "OwlsLent$House" "OwlsLent$House" "sounds" "I") ∈ GT := GT_in (tlw (tin_2 (List.mem_of_getElem? (i := 10) rfl))) rfl
theorem w_2_12 : (Jvm.Cond.laysFinal "OwlsLent$House" "OwlsLent$House" "bedName" "[J") ∈ GT := GT_in (tlw (tin_2 (List.mem_of_getElem? (i := 12) rfl))) rfl
theorem w_2_14 : (Jvm.Cond.laysFinal "OwlsLent$House" "OwlsLent$House" "owlName" "[J") ∈ GT := GT_in (tlw (tin_2 (List.mem_of_getElem? (i := 14) rfl))) rfl
theorem w_2_16 : (Jvm.Cond.laysFinal "OwlsLent$House" "OwlsLent$House" "soundName" "[J") ∈ GT := GT_in (tlw (tin_2 (List.mem_of_getElem? (i := 16) rfl))) rfl
theorem w_2_18 : (Jvm.Cond.laysFinal "OwlsLent$House" "OwlsLent$House" "bedRow" "[[I") ∈ GT := GT_in (tlw (tin_2 (List.mem_of_getElem? (i := 18) rfl))) rfl
theorem w_2_20 : (Jvm.Cond.laysFinal "OwlsLent$House" "OwlsLent$House" "owlRow" "[[I") ∈ GT := GT_in (tlw (tin_2 (List.mem_of_getElem? (i := 20) rfl))) rfl
theorem w_2_22 : (Jvm.Cond.laysFinal "OwlsLent$House" "OwlsLent$House" "soundRow" "[[I") ∈ GT := GT_in (tlw (tin_2 (List.mem_of_getElem? (i := 22) rfl))) rfl
theorem w_2_31 : (Jvm.Cond.fieldLink "OwlsLent$State" (9 : Nat) "OwlsLent$State" "hour" "I") ∈ GT := GT_in (tlw (tin_2 (List.mem_of_getElem? (i := 31) rfl))) rfl
theorem w_2_35 : (Jvm.Cond.fieldLink "OwlsLent$State" (15 : Nat) "OwlsLent$State" "hushed" "I") ∈ GT := GT_in (tlw (tin_2 (List.mem_of_getElem? (i := 35) rfl))) rfl
theorem w_2_37 : (Jvm.Cond.fieldLink "OwlsLent$State" (18 : Nat) "OwlsLent$State" "shouts" "I") ∈ GT := GT_in (tlw (tin_2 (List.mem_of_getElem? (i := 37) rfl))) rfl
theorem w_2_39 : (Jvm.Cond.fieldLink "OwlsLent$State" (21 : Nat) "OwlsLent$State" "shoutRow" "[I") ∈ GT := GT_in (tlw (tin_2 (List.mem_of_getElem? (i := 39) rfl))) rfl
theorem w_2_40 : (Jvm.Cond.fieldLink "OwlsLent$State" (25 : Nat) "OwlsLent$State" "owlBed" "[I") ∈ GT := GT_in (tlw (tin_2 (List.mem_of_getElem? (i := 40) rfl))) rfl
theorem w_2_43 : (Jvm.Cond.fieldLink "OwlsLent$State" (28 : Nat) "OwlsLent$State" "knows" "[I") ∈ GT := GT_in (tlw (tin_2 (List.mem_of_getElem? (i := 43) rfl))) rfl
theorem w_2_46 : (Jvm.Cond.fieldLink "OwlsLent$State" (31 : Nat) "OwlsLent$State" "misses" "[I") ∈ GT := GT_in (tlw (tin_2 (List.mem_of_getElem? (i := 46) rfl))) rfl
theorem w_2_49 : (Jvm.Cond.lays "OwlsLent$State" "OwlsLent$State" "hour" "I") ∈ GT := GT_in (tlw (tin_2 (List.mem_of_getElem? (i := 49) rfl))) rfl
theorem w_2_51 : (Jvm.Cond.lays "OwlsLent$State" "OwlsLent$State" "hushed" "I") ∈ GT := GT_in (tlw (tin_2 (List.mem_of_getElem? (i := 51) rfl))) rfl
theorem w_2_53 : (Jvm.Cond.lays "OwlsLent$State" "OwlsLent$State" "shouts" "I") ∈ GT := GT_in (tlw (tin_2 (List.mem_of_getElem? (i := 53) rfl))) rfl
theorem w_2_55 : (Jvm.Cond.laysFinal "OwlsLent$State" "OwlsLent$State" "shoutRow" "[I") ∈ GT := GT_in (tlw (tin_2 (List.mem_of_getElem? (i := 55) rfl))) rfl
theorem w_2_57 : (Jvm.Cond.laysFinal "OwlsLent$State" "OwlsLent$State" "owlBed" "[I") ∈ GT := GT_in (tlw (tin_2 (List.mem_of_getElem? (i := 57) rfl))) rfl
theorem w_2_59 : (Jvm.Cond.laysFinal "OwlsLent$State" "OwlsLent$State" "knows" "[I") ∈ GT := GT_in (tlw (tin_2 (List.mem_of_getElem? (i := 59) rfl))) rfl
theorem w_2_61 : (Jvm.Cond.laysFinal "OwlsLent$State" "OwlsLent$State" "misses" "[I") ∈ GT := GT_in (tlw (tin_2 (List.mem_of_getElem? (i := 61) rfl))) rfl
theorem w_2_80 : (Jvm.Cond.lays "OwlsLent$Sentence" "OwlsLent$Sentence" "is" "Z") ∈ GT := GT_in (tlw (tin_2 (List.mem_of_getElem? (i := 80) rfl))) rfl
theorem w_2_82 : (Jvm.Cond.lays "OwlsLent$Sentence" "OwlsLent$Sentence" "ones" "I") ∈ GT := GT_in (tlw (tin_2 (List.mem_of_getElem? (i := 82) rfl))) rfl
theorem w_2_84 : (Jvm.Cond.lays "OwlsLent$Sentence" "OwlsLent$Sentence" "size" "I") ∈ GT := GT_in (tlw (tin_2 (List.mem_of_getElem? (i := 84) rfl))) rfl
theorem w_2_86 : (Jvm.Cond.laysFinal "OwlsLent$Sentence" "OwlsLent$Sentence" "steps" "[I") ∈ GT := GT_in (tlw (tin_2 (List.mem_of_getElem? (i := 86) rfl))) rfl
theorem w_2_88 : (Jvm.Cond.laysFinal "OwlsLent$Sentence" "OwlsLent$Sentence" "signs" "[I") ∈ GT := GT_in (tlw (tin_2 (List.mem_of_getElem? (i := 88) rfl))) rfl
theorem w_2_90 : (Jvm.Cond.laysFinal "OwlsLent$Sentence" "OwlsLent$Sentence" "numbers" "[I") ∈ GT := GT_in (tlw (tin_2 (List.mem_of_getElem? (i := 90) rfl))) rfl
theorem w_2_92 : (Jvm.Cond.laysFinal "OwlsLent$Sentence" "OwlsLent$Sentence" "stack" "[Z") ∈ GT := GT_in (tlw (tin_2 (List.mem_of_getElem? (i := 92) rfl))) rfl
theorem w_2_104 : (Jvm.Cond.lays "OwlsLent$Image" "OwlsLent$Image" "is" "Z") ∈ GT := GT_in (tlw (tin_2 (List.mem_of_getElem? (i := 104) rfl))) rfl
theorem w_2_106 : (Jvm.Cond.laysFinal "OwlsLent$Image" "OwlsLent$Image" "home" "LOwlsLent$House;") ∈ GT := GT_in (tlw (tin_2 (List.mem_of_getElem? (i := 106) rfl))) rfl
theorem w_2_108 : (Jvm.Cond.laysFinal "OwlsLent$Image" "OwlsLent$Image" "state" "LOwlsLent$State;") ∈ GT := GT_in (tlw (tin_2 (List.mem_of_getElem? (i := 108) rfl))) rfl
theorem w_2_110 : (Jvm.Cond.laysFinal "OwlsLent$Image" "OwlsLent$Image" "saying" "LOwlsLent$Sentence;") ∈ GT := GT_in (tlw (tin_2 (List.mem_of_getElem? (i := 110) rfl))) rfl
theorem w_2_137 : (Jvm.Cond.laysFinal "OwlsLent$Book" "OwlsLent$Book" "rows" "[[I") ∈ GT := GT_in (tlw (tin_2 (List.mem_of_getElem? (i := 137) rfl))) rfl
theorem w_2_139 : (Jvm.Cond.lays "OwlsLent$Book" "OwlsLent$Book" "lines" "I") ∈ GT := GT_in (tlw (tin_2 (List.mem_of_getElem? (i := 139) rfl))) rfl
theorem w_2_141 : (Jvm.Cond.lays "OwlsLent$Book" "OwlsLent$Book" "judged" "Z") ∈ GT := GT_in (tlw (tin_2 (List.mem_of_getElem? (i := 141) rfl))) rfl
theorem w_2_143 : (Jvm.Cond.lays "OwlsLent$Book" "OwlsLent$Book" "why" "I") ∈ GT := GT_in (tlw (tin_2 (List.mem_of_getElem? (i := 143) rfl))) rfl
theorem w_2_145 : (Jvm.Cond.lays "OwlsLent$Book" "OwlsLent$Book" "ahead" "I") ∈ GT := GT_in (tlw (tin_2 (List.mem_of_getElem? (i := 145) rfl))) rfl
theorem w_2_147 : (Jvm.Cond.lays "OwlsLent$Book" "OwlsLent$Book" "hourThen" "I") ∈ GT := GT_in (tlw (tin_2 (List.mem_of_getElem? (i := 147) rfl))) rfl
theorem w_2_149 : (Jvm.Cond.lays "OwlsLent$Book" "OwlsLent$Book" "lookingThen" "I") ∈ GT := GT_in (tlw (tin_2 (List.mem_of_getElem? (i := 149) rfl))) rfl
theorem w_2_166 : (Jvm.Cond.laysFinal "OwlsLent$Undo" "OwlsLent$Undo" "states" "[LOwlsLent$State;") ∈ GT := GT_in (tlw (tin_2 (List.mem_of_getElem? (i := 166) rfl))) rfl
theorem w_2_168 : (Jvm.Cond.lays "OwlsLent$Undo" "OwlsLent$Undo" "top" "I") ∈ GT := GT_in (tlw (tin_2 (List.mem_of_getElem? (i := 168) rfl))) rfl
theorem w_2_170 : (Jvm.Cond.lays "OwlsLent$Undo" "OwlsLent$Undo" "count" "I") ∈ GT := GT_in (tlw (tin_2 (List.mem_of_getElem? (i := 170) rfl))) rfl
theorem w_2_188 : (Jvm.Cond.laysFinal "OwlsLent$Spots" "OwlsLent$Spots" "cells" "[I") ∈ GT := GT_in (tlw (tin_2 (List.mem_of_getElem? (i := 188) rfl))) rfl
theorem w_2_190 : (Jvm.Cond.laysFinal "OwlsLent$Spots" "OwlsLent$Spots" "cellsTried" "[I") ∈ GT := GT_in (tlw (tin_2 (List.mem_of_getElem? (i := 190) rfl))) rfl
theorem w_2_192 : (Jvm.Cond.laysFinal "OwlsLent$Spots" "OwlsLent$Spots" "voice" "[I") ∈ GT := GT_in (tlw (tin_2 (List.mem_of_getElem? (i := 192) rfl))) rfl
theorem w_2_194 : (Jvm.Cond.laysFinal "OwlsLent$Spots" "OwlsLent$Spots" "tally" "[I") ∈ GT := GT_in (tlw (tin_2 (List.mem_of_getElem? (i := 194) rfl))) rfl
theorem w_2_196 : (Jvm.Cond.lays "OwlsLent$Spots" "OwlsLent$Spots" "count" "I") ∈ GT := GT_in (tlw (tin_2 (List.mem_of_getElem? (i := 196) rfl))) rfl
theorem w_2_198 : (Jvm.Cond.lays "OwlsLent$Spots" "OwlsLent$Spots" "nextOwl" "I") ∈ GT := GT_in (tlw (tin_2 (List.mem_of_getElem? (i := 198) rfl))) rfl
theorem w_2_215 : (Jvm.Cond.laysFinal "OwlsLent$Best" "OwlsLent$Best" "gain" "[[I") ∈ GT := GT_in (tlw (tin_2 (List.mem_of_getElem? (i := 215) rfl))) rfl
theorem w_2_217 : (Jvm.Cond.laysFinal "OwlsLent$Best" "OwlsLent$Best" "chosen" "[I") ∈ GT := GT_in (tlw (tin_2 (List.mem_of_getElem? (i := 217) rfl))) rfl
theorem w_2_219 : (Jvm.Cond.laysFinal "OwlsLent$Best" "OwlsLent$Best" "found" "[I") ∈ GT := GT_in (tlw (tin_2 (List.mem_of_getElem? (i := 219) rfl))) rfl
theorem w_2_221 : (Jvm.Cond.lays "OwlsLent$Best" "OwlsLent$Best" "owls" "I") ∈ GT := GT_in (tlw (tin_2 (List.mem_of_getElem? (i := 221) rfl))) rfl
theorem w_2_223 : (Jvm.Cond.lays "OwlsLent$Best" "OwlsLent$Best" "most" "I") ∈ GT := GT_in (tlw (tin_2 (List.mem_of_getElem? (i := 223) rfl))) rfl
theorem w_3_5 : (Jvm.Cond.laysFinal "OwlsLent" "OwlsLent" "tape" "LOwlsLent$Tape;") ∈ GT := GT_in (tlw (tin_3 (List.mem_of_getElem? (i := 5) rfl))) rfl
theorem w_3_7 : (Jvm.Cond.laysFinal "OwlsLent" "OwlsLent" "tokens" "LOwlsLent$Tokens;") ∈ GT := GT_in (tlw (tin_3 (List.mem_of_getElem? (i := 7) rfl))) rfl
theorem w_3_9 : (Jvm.Cond.laysFinal "OwlsLent" "OwlsLent" "present" "LOwlsLent$Image;") ∈ GT := GT_in (tlw (tin_3 (List.mem_of_getElem? (i := 9) rfl))) rfl
theorem w_3_11 : (Jvm.Cond.laysFinal "OwlsLent" "OwlsLent" "kept" "[LOwlsLent$Image;") ∈ GT := GT_in (tlw (tin_3 (List.mem_of_getElem? (i := 11) rfl))) rfl
theorem w_3_13 : (Jvm.Cond.laysFinal "OwlsLent" "OwlsLent" "houseRead" "LOwlsLent$House;") ∈ GT := GT_in (tlw (tin_3 (List.mem_of_getElem? (i := 13) rfl))) rfl
theorem w_3_15 : (Jvm.Cond.laysFinal "OwlsLent" "OwlsLent" "sentenceRead" "LOwlsLent$Sentence;") ∈ GT := GT_in (tlw (tin_3 (List.mem_of_getElem? (i := 15) rfl))) rfl
theorem w_3_17 : (Jvm.Cond.laysFinal "OwlsLent" "OwlsLent" "bookRead" "LOwlsLent$Book;") ∈ GT := GT_in (tlw (tin_3 (List.mem_of_getElem? (i := 17) rfl))) rfl
theorem w_3_19 : (Jvm.Cond.laysFinal "OwlsLent" "OwlsLent" "trial" "LOwlsLent$State;") ∈ GT := GT_in (tlw (tin_3 (List.mem_of_getElem? (i := 19) rfl))) rfl
theorem w_3_21 : (Jvm.Cond.laysFinal "OwlsLent" "OwlsLent" "acts" "LOwlsLent$Undo;") ∈ GT := GT_in (tlw (tin_3 (List.mem_of_getElem? (i := 21) rfl))) rfl
theorem w_3_23 : (Jvm.Cond.laysFinal "OwlsLent" "OwlsLent" "spotted" "LOwlsLent$Spots;") ∈ GT := GT_in (tlw (tin_3 (List.mem_of_getElem? (i := 23) rfl))) rfl
theorem w_3_25 : (Jvm.Cond.laysFinal "OwlsLent" "OwlsLent" "placed" "LOwlsLent$Best;") ∈ GT := GT_in (tlw (tin_3 (List.mem_of_getElem? (i := 25) rfl))) rfl
theorem w_3_27 : (Jvm.Cond.laysFinal "OwlsLent" "OwlsLent" "written" "LOwlsLent$Tape;") ∈ GT := GT_in (tlw (tin_3 (List.mem_of_getElem? (i := 27) rfl))) rfl
theorem w_3_29 : (Jvm.Cond.laysFinal "OwlsLent" "OwlsLent" "codes" "[I") ∈ GT := GT_in (tlw (tin_3 (List.mem_of_getElem? (i := 29) rfl))) rfl
theorem w_3_31 : (Jvm.Cond.laysFinal "OwlsLent" "OwlsLent" "codesTried" "[I") ∈ GT := GT_in (tlw (tin_3 (List.mem_of_getElem? (i := 31) rfl))) rfl
theorem w_3_33 : (Jvm.Cond.lays "OwlsLent" "OwlsLent" "codeCount" "I") ∈ GT := GT_in (tlw (tin_3 (List.mem_of_getElem? (i := 33) rfl))) rfl
theorem w_3_35 : (Jvm.Cond.lays "OwlsLent" "OwlsLent" "leastKeen" "I") ∈ GT := GT_in (tlw (tin_3 (List.mem_of_getElem? (i := 35) rfl))) rfl
theorem w_3_37 : (Jvm.Cond.lays "OwlsLent" "OwlsLent" "mostKeen" "I") ∈ GT := GT_in (tlw (tin_3 (List.mem_of_getElem? (i := 37) rfl))) rfl
theorem w_3_39 : (Jvm.Cond.lays "OwlsLent" "OwlsLent" "duelFirst" "I") ∈ GT := GT_in (tlw (tin_3 (List.mem_of_getElem? (i := 39) rfl))) rfl
theorem w_3_41 : (Jvm.Cond.lays "OwlsLent" "OwlsLent" "faultKind" "I") ∈ GT := GT_in (tlw (tin_3 (List.mem_of_getElem? (i := 41) rfl))) rfl
theorem w_3_52 : (Jvm.Cond.methodLink "OwlsLent$Tape" (23 : Nat) ({ cls := "OwlsLent$Tape", name := "add", desc := "(I)V" } : Jvm.MethodName)) ∈ GT := GT_in (tlw (tin_3 (List.mem_of_getElem? (i := 52) rfl))) rfl
theorem w_3_53 : (Jvm.Cond.instanceMethod ({ cls := "OwlsLent$Tape", name := "add", desc := "(I)V" } : Jvm.MethodName)) ∈ GT := GT_in (tlw (tin_3 (List.mem_of_getElem? (i := 53) rfl))) rfl
theorem w_3_54 : (Jvm.Cond.selects "OwlsLent$Tape" ({ cls := "OwlsLent$Tape", name := "add", desc := "(I)V" } : Jvm.MethodName) ({ cls := "OwlsLent$Tape", name := "add", desc := "(I)V" } : Jvm.MethodName)) ∈ GT := GT_in (tlw (tin_3 (List.mem_of_getElem? (i := 54) rfl))) rfl
theorem w_3_55 : (Jvm.Cond.code ({ cls := "OwlsLent$Tape", name := "add", desc := "(I)V" } : Jvm.MethodName) prog_10_method_3_code (2 : Nat) (Option.none : Option Jvm.ClassFile.FieldType)) ∈ GT := GT_in (tlw (tin_3 (List.mem_of_getElem? (i := 55) rfl))) rfl
theorem w_3_68 : (Jvm.Cond.methodLink "OwlsLent$Tokens" (65 : Nat) ({ cls := "OwlsLent$Tokens", name := "advance", desc := "()V" } : Jvm.MethodName)) ∈ GT := GT_in (tlw (tin_3 (List.mem_of_getElem? (i := 68) rfl))) rfl
theorem w_3_69 : (Jvm.Cond.instanceMethod ({ cls := "OwlsLent$Tokens", name := "advance", desc := "()V" } : Jvm.MethodName)) ∈ GT := GT_in (tlw (tin_3 (List.mem_of_getElem? (i := 69) rfl))) rfl
theorem w_3_70 : (Jvm.Cond.selects "OwlsLent$Tokens" ({ cls := "OwlsLent$Tokens", name := "advance", desc := "()V" } : Jvm.MethodName) ({ cls := "OwlsLent$Tokens", name := "advance", desc := "()V" } : Jvm.MethodName)) ∈ GT := GT_in (tlw (tin_3 (List.mem_of_getElem? (i := 70) rfl))) rfl
theorem w_3_71 : (Jvm.Cond.code ({ cls := "OwlsLent$Tokens", name := "advance", desc := "()V" } : Jvm.MethodName) prog_11_method_3_code (2 : Nat) (Option.none : Option Jvm.ClassFile.FieldType)) ∈ GT := GT_in (tlw (tin_3 (List.mem_of_getElem? (i := 71) rfl))) rfl
theorem w_3_72 : (Jvm.Cond.methodLink "OwlsLent$Tokens" (72 : Nat) ({ cls := "OwlsLent$Tape", name := "at", desc := "(I)I" } : Jvm.MethodName)) ∈ GT := GT_in (tlw (tin_3 (List.mem_of_getElem? (i := 72) rfl))) rfl
theorem w_3_73 : (Jvm.Cond.instanceMethod ({ cls := "OwlsLent$Tape", name := "at", desc := "(I)I" } : Jvm.MethodName)) ∈ GT := GT_in (tlw (tin_3 (List.mem_of_getElem? (i := 73) rfl))) rfl
theorem w_3_74 : (Jvm.Cond.selects "OwlsLent$Tape" ({ cls := "OwlsLent$Tape", name := "at", desc := "(I)I" } : Jvm.MethodName) ({ cls := "OwlsLent$Tape", name := "at", desc := "(I)I" } : Jvm.MethodName)) ∈ GT := GT_in (tlw (tin_3 (List.mem_of_getElem? (i := 74) rfl))) rfl
theorem w_3_75 : (Jvm.Cond.code ({ cls := "OwlsLent$Tape", name := "at", desc := "(I)I" } : Jvm.MethodName) prog_10_method_2_code (2 : Nat) (Option.some Jvm.ClassFile.FieldType.int)) ∈ GT := GT_in (tlw (tin_3 (List.mem_of_getElem? (i := 75) rfl))) rfl
theorem w_3_76 : (Jvm.Cond.methodLink "OwlsLent$Tokens" (76 : Nat) ({ cls := "OwlsLent$Tokens", name := "readRun", desc := "()V" } : Jvm.MethodName)) ∈ GT := GT_in (tlw (tin_3 (List.mem_of_getElem? (i := 76) rfl))) rfl
theorem w_3_78 : (Jvm.Cond.instanceMethod ({ cls := "OwlsLent$Tokens", name := "readRun", desc := "()V" } : Jvm.MethodName)) ∈ GT := GT_in (tlw (tin_3 (List.mem_of_getElem? (i := 78) rfl))) rfl
theorem w_3_79 : (Jvm.Cond.code ({ cls := "OwlsLent$Tokens", name := "readRun", desc := "()V" } : Jvm.MethodName) prog_11_method_4_code (4 : Nat) (Option.none : Option Jvm.ClassFile.FieldType)) ∈ GT := GT_in (tlw (tin_3 (List.mem_of_getElem? (i := 79) rfl))) rfl
theorem w_3_80 : (Jvm.Cond.methodLink "OwlsLent$Tokens" (79 : Nat) ({ cls := "OwlsLent$Tokens", name := "numberOf", desc := "([JIJ)I" } : Jvm.MethodName)) ∈ GT := GT_in (tlw (tin_3 (List.mem_of_getElem? (i := 80) rfl))) rfl
theorem w_3_81 : (Jvm.Cond.static ({ cls := "OwlsLent$Tokens", name := "numberOf", desc := "([JIJ)I" } : Jvm.MethodName)) ∈ GT := GT_in (tlw (tin_3 (List.mem_of_getElem? (i := 81) rfl))) rfl
theorem w_3_82 : (Jvm.Cond.code ({ cls := "OwlsLent$Tokens", name := "numberOf", desc := "([JIJ)I" } : Jvm.MethodName) prog_11_method_5_code (5 : Nat) (Option.some Jvm.ClassFile.FieldType.int)) ∈ GT := GT_in (tlw (tin_3 (List.mem_of_getElem? (i := 82) rfl))) rfl
theorem w_3_94 : (Jvm.Cond.instanceMethod ({ cls := "OwlsLent$Tokens", name := "fail", desc := "(I)Z" } : Jvm.MethodName)) ∈ GT := GT_in (tlw (tin_3 (List.mem_of_getElem? (i := 94) rfl))) rfl
theorem w_3_95 : (Jvm.Cond.selects "OwlsLent$Tokens" ({ cls := "OwlsLent$Tokens", name := "fail", desc := "(I)Z" } : Jvm.MethodName) ({ cls := "OwlsLent$Tokens", name := "fail", desc := "(I)Z" } : Jvm.MethodName)) ∈ GT := GT_in (tlw (tin_3 (List.mem_of_getElem? (i := 95) rfl))) rfl
theorem w_3_96 : (Jvm.Cond.code ({ cls := "OwlsLent$Tokens", name := "fail", desc := "(I)Z" } : Jvm.MethodName) prog_11_method_6_code (2 : Nat) (Option.some Jvm.ClassFile.FieldType.boolean)) ∈ GT := GT_in (tlw (tin_3 (List.mem_of_getElem? (i := 96) rfl))) rfl
theorem w_3_97 : (Jvm.Cond.methodLink "OwlsLent$Tokens" (83 : Nat) ({ cls := "OwlsLent$Tokens", name := "failAt", desc := "(II)Z" } : Jvm.MethodName)) ∈ GT := GT_in (tlw (tin_3 (List.mem_of_getElem? (i := 97) rfl))) rfl
theorem w_3_99 : (Jvm.Cond.instanceMethod ({ cls := "OwlsLent$Tokens", name := "failAt", desc := "(II)Z" } : Jvm.MethodName)) ∈ GT := GT_in (tlw (tin_3 (List.mem_of_getElem? (i := 99) rfl))) rfl
theorem w_3_100 : (Jvm.Cond.code ({ cls := "OwlsLent$Tokens", name := "failAt", desc := "(II)Z" } : Jvm.MethodName) prog_11_method_8_code (3 : Nat) (Option.some Jvm.ClassFile.FieldType.boolean)) ∈ GT := GT_in (tlw (tin_3 (List.mem_of_getElem? (i := 100) rfl))) rfl
theorem w_3_106 : (Jvm.Cond.methodLink "OwlsLent$Tokens" (91 : Nat) ({ cls := "OwlsLent$Tokens", name := "fail", desc := "(I)Z" } : Jvm.MethodName)) ∈ GT := GT_in (tlw (tin_3 (List.mem_of_getElem? (i := 106) rfl))) rfl
theorem w_3_114 : (Jvm.Cond.methodLink "OwlsLent$Tokens" (95 : Nat) ({ cls := "OwlsLent$House", name := "hasName", desc := "(J)Z" } : Jvm.MethodName)) ∈ GT := GT_in (tlw (tin_3 (List.mem_of_getElem? (i := 114) rfl))) rfl
theorem w_3_115 : (Jvm.Cond.instanceMethod ({ cls := "OwlsLent$House", name := "hasName", desc := "(J)Z" } : Jvm.MethodName)) ∈ GT := GT_in (tlw (tin_3 (List.mem_of_getElem? (i := 115) rfl))) rfl
theorem w_3_116 : (Jvm.Cond.selects "OwlsLent$House" ({ cls := "OwlsLent$House", name := "hasName", desc := "(J)Z" } : Jvm.MethodName) ({ cls := "OwlsLent$House", name := "hasName", desc := "(J)Z" } : Jvm.MethodName)) ∈ GT := GT_in (tlw (tin_3 (List.mem_of_getElem? (i := 116) rfl))) rfl
theorem w_3_117 : (Jvm.Cond.code ({ cls := "OwlsLent$House", name := "hasName", desc := "(J)Z" } : Jvm.MethodName) prog_4_method_9_code (3 : Nat) (Option.some Jvm.ClassFile.FieldType.boolean)) ∈ GT := GT_in (tlw (tin_3 (List.mem_of_getElem? (i := 117) rfl))) rfl
theorem w_3_118 : (Jvm.Cond.methodLink "OwlsLent$House" (77 : Nat) ({ cls := "OwlsLent$Tokens", name := "numberOf", desc := "([JIJ)I" } : Jvm.MethodName)) ∈ GT := GT_in (tlw (tin_3 (List.mem_of_getElem? (i := 118) rfl))) rfl
theorem w_3_119 : (Jvm.Cond.constantLong "OwlsLent$Tokens" (101 : Nat) (-1 : Int64)) ∈ GT := GT_in (tlw (tin_3 (List.mem_of_getElem? (i := 119) rfl))) rfl
theorem w_3_163 : (Jvm.Cond.methodLink "OwlsLent$Tokens" (87 : Nat) ({ cls := "OwlsLent$Tokens", name := "isSign", desc := "(C)Z" } : Jvm.MethodName)) ∈ GT := GT_in (tlw (tin_3 (List.mem_of_getElem? (i := 163) rfl))) rfl
theorem w_3_164 : (Jvm.Cond.instanceMethod ({ cls := "OwlsLent$Tokens", name := "isSign", desc := "(C)Z" } : Jvm.MethodName)) ∈ GT := GT_in (tlw (tin_3 (List.mem_of_getElem? (i := 164) rfl))) rfl
theorem w_3_165 : (Jvm.Cond.selects "OwlsLent$Tokens" ({ cls := "OwlsLent$Tokens", name := "isSign", desc := "(C)Z" } : Jvm.MethodName) ({ cls := "OwlsLent$Tokens", name := "isSign", desc := "(C)Z" } : Jvm.MethodName)) ∈ GT := GT_in (tlw (tin_3 (List.mem_of_getElem? (i := 165) rfl))) rfl
theorem w_3_166 : (Jvm.Cond.code ({ cls := "OwlsLent$Tokens", name := "isSign", desc := "(C)Z" } : Jvm.MethodName) prog_11_method_9_code (2 : Nat) (Option.some Jvm.ClassFile.FieldType.boolean)) ∈ GT := GT_in (tlw (tin_3 (List.mem_of_getElem? (i := 166) rfl))) rfl
theorem w_3_179 : (Jvm.Cond.methodLink "OwlsLent$House" (61 : Nat) ({ cls := "java/lang/System", name := "arraycopy", desc := "(Ljava/lang/Object;ILjava/lang/Object;II)V" } : Jvm.MethodName)) ∈ GT := GT_in (tlw (tin_3 (List.mem_of_getElem? (i := 179) rfl))) rfl
theorem w_3_180 : (Jvm.Cond.static ({ cls := "java/lang/System", name := "arraycopy", desc := "(Ljava/lang/Object;ILjava/lang/Object;II)V" } : Jvm.MethodName)) ∈ GT := GT_in (tlw (tin_3 (List.mem_of_getElem? (i := 180) rfl))) rfl
theorem w_3_181 : (Jvm.Cond.native ({ cls := "java/lang/System", name := "arraycopy", desc := "(Ljava/lang/Object;ILjava/lang/Object;II)V" } : Jvm.MethodName)) ∈ GT := GT_in (tlw (tin_3 (List.mem_of_getElem? (i := 181) rfl))) rfl
theorem w_3_182 : (Jvm.Cond.methodLink "OwlsLent$House" (67 : Nat) ({ cls := "OwlsLent$House", name := "copyRows", desc := "([[I[[I)V" } : Jvm.MethodName)) ∈ GT := GT_in (tlw (tin_3 (List.mem_of_getElem? (i := 182) rfl))) rfl
theorem w_3_183 : (Jvm.Cond.static ({ cls := "OwlsLent$House", name := "copyRows", desc := "([[I[[I)V" } : Jvm.MethodName)) ∈ GT := GT_in (tlw (tin_3 (List.mem_of_getElem? (i := 183) rfl))) rfl
theorem w_3_184 : (Jvm.Cond.code ({ cls := "OwlsLent$House", name := "copyRows", desc := "([[I[[I)V" } : Jvm.MethodName) prog_4_method_4_code (3 : Nat) (Option.none : Option Jvm.ClassFile.FieldType)) ∈ GT := GT_in (tlw (tin_3 (List.mem_of_getElem? (i := 184) rfl))) rfl
theorem w_3_185 : (Jvm.Cond.methodLink "OwlsLent$House" (71 : Nat) ({ cls := "java/lang/Math", name := "min", desc := "(II)I" } : Jvm.MethodName)) ∈ GT := GT_in (tlw (tin_3 (List.mem_of_getElem? (i := 185) rfl))) rfl
theorem w_3_186 : (Jvm.Cond.static ({ cls := "java/lang/Math", name := "min", desc := "(II)I" } : Jvm.MethodName)) ∈ GT := GT_in (tlw (tin_3 (List.mem_of_getElem? (i := 186) rfl))) rfl
theorem w_3_187 : (Jvm.Cond.code ({ cls := "java/lang/Math", name := "min", desc := "(II)I" } : Jvm.MethodName) prog_19_method_69_code (2 : Nat) (Option.some Jvm.ClassFile.FieldType.int)) ∈ GT := GT_in (tlw (tin_3 (List.mem_of_getElem? (i := 187) rfl))) rfl
theorem w_3_205 : (Jvm.Cond.instanceMethod ({ cls := "OwlsLent$House", name := "hasSound", desc := "(I)Z" } : Jvm.MethodName)) ∈ GT := GT_in (tlw (tin_3 (List.mem_of_getElem? (i := 205) rfl))) rfl
theorem w_3_206 : (Jvm.Cond.selects "OwlsLent$House" ({ cls := "OwlsLent$House", name := "hasSound", desc := "(I)Z" } : Jvm.MethodName) ({ cls := "OwlsLent$House", name := "hasSound", desc := "(I)Z" } : Jvm.MethodName)) ∈ GT := GT_in (tlw (tin_3 (List.mem_of_getElem? (i := 206) rfl))) rfl
theorem w_3_207 : (Jvm.Cond.code ({ cls := "OwlsLent$House", name := "hasSound", desc := "(I)Z" } : Jvm.MethodName) prog_4_method_7_code (2 : Nat) (Option.some Jvm.ClassFile.FieldType.boolean)) ∈ GT := GT_in (tlw (tin_3 (List.mem_of_getElem? (i := 207) rfl))) rfl
theorem w_3_209 : (Jvm.Cond.instanceMethod ({ cls := "OwlsLent$State", name := "onBits", desc := "(LOwlsLent$House;I)I" } : Jvm.MethodName)) ∈ GT := GT_in (tlw (tin_3 (List.mem_of_getElem? (i := 209) rfl))) rfl
theorem w_3_210 : (Jvm.Cond.selects "OwlsLent$State" ({ cls := "OwlsLent$State", name := "onBits", desc := "(LOwlsLent$House;I)I" } : Jvm.MethodName) ({ cls := "OwlsLent$State", name := "onBits", desc := "(LOwlsLent$House;I)I" } : Jvm.MethodName)) ∈ GT := GT_in (tlw (tin_3 (List.mem_of_getElem? (i := 210) rfl))) rfl
theorem w_3_211 : (Jvm.Cond.code ({ cls := "OwlsLent$State", name := "onBits", desc := "(LOwlsLent$House;I)I" } : Jvm.MethodName) prog_9_method_7_code (6 : Nat) (Option.some Jvm.ClassFile.FieldType.int)) ∈ GT := GT_in (tlw (tin_3 (List.mem_of_getElem? (i := 211) rfl))) rfl
theorem w_3_212 : (Jvm.Cond.methodLink "OwlsLent$State" (59 : Nat) ({ cls := "OwlsLent$House", name := "within", desc := "(III)Z" } : Jvm.MethodName)) ∈ GT := GT_in (tlw (tin_3 (List.mem_of_getElem? (i := 212) rfl))) rfl
theorem w_3_213 : (Jvm.Cond.static ({ cls := "OwlsLent$House", name := "within", desc := "(III)Z" } : Jvm.MethodName)) ∈ GT := GT_in (tlw (tin_3 (List.mem_of_getElem? (i := 213) rfl))) rfl
theorem w_3_214 : (Jvm.Cond.code ({ cls := "OwlsLent$House", name := "within", desc := "(III)Z" } : Jvm.MethodName) prog_4_method_12_code (4 : Nat) (Option.some Jvm.ClassFile.FieldType.boolean)) ∈ GT := GT_in (tlw (tin_3 (List.mem_of_getElem? (i := 214) rfl))) rfl
theorem w_3_223 : (Jvm.Cond.methodLink "OwlsLent$State" (93 : Nat) ({ cls := "OwlsLent$State", name := "lookOf", desc := "(LOwlsLent$House;III)I" } : Jvm.MethodName)) ∈ GT := GT_in (tlw (tin_3 (List.mem_of_getElem? (i := 223) rfl))) rfl
theorem w_3_224 : (Jvm.Cond.instanceMethod ({ cls := "OwlsLent$State", name := "lookOf", desc := "(LOwlsLent$House;III)I" } : Jvm.MethodName)) ∈ GT := GT_in (tlw (tin_3 (List.mem_of_getElem? (i := 224) rfl))) rfl
theorem w_3_225 : (Jvm.Cond.selects "OwlsLent$State" ({ cls := "OwlsLent$State", name := "lookOf", desc := "(LOwlsLent$House;III)I" } : Jvm.MethodName) ({ cls := "OwlsLent$State", name := "lookOf", desc := "(LOwlsLent$House;III)I" } : Jvm.MethodName)) ∈ GT := GT_in (tlw (tin_3 (List.mem_of_getElem? (i := 225) rfl))) rfl
theorem w_3_226 : (Jvm.Cond.code ({ cls := "OwlsLent$State", name := "lookOf", desc := "(LOwlsLent$House;III)I" } : Jvm.MethodName) prog_9_method_11_code (5 : Nat) (Option.some Jvm.ClassFile.FieldType.int)) ∈ GT := GT_in (tlw (tin_3 (List.mem_of_getElem? (i := 226) rfl))) rfl
theorem w_3_227 : (Jvm.Cond.methodLink "OwlsLent$State" (71 : Nat) ({ cls := "OwlsLent$House", name := "shutAt", desc := "(I)Z" } : Jvm.MethodName)) ∈ GT := GT_in (tlw (tin_3 (List.mem_of_getElem? (i := 227) rfl))) rfl
theorem w_3_228 : (Jvm.Cond.instanceMethod ({ cls := "OwlsLent$House", name := "shutAt", desc := "(I)Z" } : Jvm.MethodName)) ∈ GT := GT_in (tlw (tin_3 (List.mem_of_getElem? (i := 228) rfl))) rfl
theorem w_3_229 : (Jvm.Cond.selects "OwlsLent$House" ({ cls := "OwlsLent$House", name := "shutAt", desc := "(I)Z" } : Jvm.MethodName) ({ cls := "OwlsLent$House", name := "shutAt", desc := "(I)Z" } : Jvm.MethodName)) ∈ GT := GT_in (tlw (tin_3 (List.mem_of_getElem? (i := 229) rfl))) rfl
theorem w_3_230 : (Jvm.Cond.code ({ cls := "OwlsLent$House", name := "shutAt", desc := "(I)Z" } : Jvm.MethodName) prog_4_method_13_code (2 : Nat) (Option.some Jvm.ClassFile.FieldType.boolean)) ∈ GT := GT_in (tlw (tin_3 (List.mem_of_getElem? (i := 230) rfl))) rfl
theorem w_3_231 : (Jvm.Cond.methodLink "OwlsLent$House" (83 : Nat) ({ cls := "OwlsLent$House", name := "within", desc := "(III)Z" } : Jvm.MethodName)) ∈ GT := GT_in (tlw (tin_3 (List.mem_of_getElem? (i := 231) rfl))) rfl
theorem w_3_232 : (Jvm.Cond.methodLink "OwlsLent$State" (74 : Nat) ({ cls := "OwlsLent$State", name := "onBits", desc := "(LOwlsLent$House;I)I" } : Jvm.MethodName)) ∈ GT := GT_in (tlw (tin_3 (List.mem_of_getElem? (i := 232) rfl))) rfl
theorem w_3_233 : (Jvm.Cond.methodLink "OwlsLent$State" (78 : Nat) ({ cls := "OwlsLent$State", name := "heardBits", desc := "(LOwlsLent$House;III)I" } : Jvm.MethodName)) ∈ GT := GT_in (tlw (tin_3 (List.mem_of_getElem? (i := 233) rfl))) rfl
theorem w_3_234 : (Jvm.Cond.instanceMethod ({ cls := "OwlsLent$State", name := "heardBits", desc := "(LOwlsLent$House;III)I" } : Jvm.MethodName)) ∈ GT := GT_in (tlw (tin_3 (List.mem_of_getElem? (i := 234) rfl))) rfl
theorem w_3_235 : (Jvm.Cond.selects "OwlsLent$State" ({ cls := "OwlsLent$State", name := "heardBits", desc := "(LOwlsLent$House;III)I" } : Jvm.MethodName) ({ cls := "OwlsLent$State", name := "heardBits", desc := "(LOwlsLent$House;III)I" } : Jvm.MethodName)) ∈ GT := GT_in (tlw (tin_3 (List.mem_of_getElem? (i := 235) rfl))) rfl
theorem w_3_236 : (Jvm.Cond.code ({ cls := "OwlsLent$State", name := "heardBits", desc := "(LOwlsLent$House;III)I" } : Jvm.MethodName) prog_9_method_8_code (7 : Nat) (Option.some Jvm.ClassFile.FieldType.int)) ∈ GT := GT_in (tlw (tin_3 (List.mem_of_getElem? (i := 236) rfl))) rfl
theorem w_3_237 : (Jvm.Cond.methodLink "OwlsLent$State" (63 : Nat) ({ cls := "OwlsLent$State", name := "rowOf", desc := "(LOwlsLent$House;I)[I" } : Jvm.MethodName)) ∈ GT := GT_in (tlw (tin_3 (List.mem_of_getElem? (i := 237) rfl))) rfl
theorem w_3_238 : (Jvm.Cond.instanceMethod ({ cls := "OwlsLent$State", name := "rowOf", desc := "(LOwlsLent$House;I)[I" } : Jvm.MethodName)) ∈ GT := GT_in (tlw (tin_3 (List.mem_of_getElem? (i := 238) rfl))) rfl
theorem w_3_239 : (Jvm.Cond.selects "OwlsLent$State" ({ cls := "OwlsLent$State", name := "rowOf", desc := "(LOwlsLent$House;I)[I" } : Jvm.MethodName) ({ cls := "OwlsLent$State", name := "rowOf", desc := "(LOwlsLent$House;I)[I" } : Jvm.MethodName)) ∈ GT := GT_in (tlw (tin_3 (List.mem_of_getElem? (i := 239) rfl))) rfl
theorem w_4_0 : (Jvm.Cond.code ({ cls := "OwlsLent$State", name := "rowOf", desc := "(LOwlsLent$House;I)[I" } : Jvm.MethodName) prog_9_method_6_code (3 : Nat) (Option.some (Jvm.ClassFile.FieldType.array Jvm.ClassFile.FieldType.int))) ∈ GT := GT_in (tlw (tin_4 (List.mem_of_getElem? (i := 0) rfl))) rfl
theorem w_4_1 : (Jvm.Cond.methodLink "OwlsLent$State" (49 : Nat) ({ cls := "OwlsLent$House", name := "hasSound", desc := "(I)Z" } : Jvm.MethodName)) ∈ GT := GT_in (tlw (tin_4 (List.mem_of_getElem? (i := 1) rfl))) rfl
theorem w_4_2 : (Jvm.Cond.methodLink "OwlsLent$State" (67 : Nat) ({ cls := "OwlsLent$House", name := "heardSide", desc := "(II[I)I" } : Jvm.MethodName)) ∈ GT := GT_in (tlw (tin_4 (List.mem_of_getElem? (i := 2) rfl))) rfl
theorem w_4_3 : (Jvm.Cond.instanceMethod ({ cls := "OwlsLent$House", name := "heardSide", desc := "(II[I)I" } : Jvm.MethodName)) ∈ GT := GT_in (tlw (tin_4 (List.mem_of_getElem? (i := 3) rfl))) rfl
theorem w_4_4 : (Jvm.Cond.selects "OwlsLent$House" ({ cls := "OwlsLent$House", name := "heardSide", desc := "(II[I)I" } : Jvm.MethodName) ({ cls := "OwlsLent$House", name := "heardSide", desc := "(II[I)I" } : Jvm.MethodName)) ∈ GT := GT_in (tlw (tin_4 (List.mem_of_getElem? (i := 4) rfl))) rfl
theorem w_4_5 : (Jvm.Cond.code ({ cls := "OwlsLent$House", name := "heardSide", desc := "(II[I)I" } : Jvm.MethodName) prog_4_method_16_code (6 : Nat) (Option.some Jvm.ClassFile.FieldType.int)) ∈ GT := GT_in (tlw (tin_4 (List.mem_of_getElem? (i := 5) rfl))) rfl
theorem w_4_6 : (Jvm.Cond.methodLink "OwlsLent$House" (87 : Nat) ({ cls := "OwlsLent$House", name := "sideAt", desc := "(I[I)I" } : Jvm.MethodName)) ∈ GT := GT_in (tlw (tin_4 (List.mem_of_getElem? (i := 6) rfl))) rfl
theorem w_4_7 : (Jvm.Cond.instanceMethod ({ cls := "OwlsLent$House", name := "sideAt", desc := "(I[I)I" } : Jvm.MethodName)) ∈ GT := GT_in (tlw (tin_4 (List.mem_of_getElem? (i := 7) rfl))) rfl
theorem w_4_8 : (Jvm.Cond.selects "OwlsLent$House" ({ cls := "OwlsLent$House", name := "sideAt", desc := "(I[I)I" } : Jvm.MethodName) ({ cls := "OwlsLent$House", name := "sideAt", desc := "(I[I)I" } : Jvm.MethodName)) ∈ GT := GT_in (tlw (tin_4 (List.mem_of_getElem? (i := 8) rfl))) rfl
theorem w_4_9 : (Jvm.Cond.code ({ cls := "OwlsLent$House", name := "sideAt", desc := "(I[I)I" } : Jvm.MethodName) prog_4_method_15_code (5 : Nat) (Option.some Jvm.ClassFile.FieldType.int)) ∈ GT := GT_in (tlw (tin_4 (List.mem_of_getElem? (i := 9) rfl))) rfl
theorem w_4_10 : (Jvm.Cond.methodLink "OwlsLent$House" (91 : Nat) ({ cls := "OwlsLent$House", name := "loudAt", desc := "(I[I)I" } : Jvm.MethodName)) ∈ GT := GT_in (tlw (tin_4 (List.mem_of_getElem? (i := 10) rfl))) rfl
theorem w_4_11 : (Jvm.Cond.instanceMethod ({ cls := "OwlsLent$House", name := "loudAt", desc := "(I[I)I" } : Jvm.MethodName)) ∈ GT := GT_in (tlw (tin_4 (List.mem_of_getElem? (i := 11) rfl))) rfl
theorem w_4_12 : (Jvm.Cond.selects "OwlsLent$House" ({ cls := "OwlsLent$House", name := "loudAt", desc := "(I[I)I" } : Jvm.MethodName) ({ cls := "OwlsLent$House", name := "loudAt", desc := "(I[I)I" } : Jvm.MethodName)) ∈ GT := GT_in (tlw (tin_4 (List.mem_of_getElem? (i := 12) rfl))) rfl
theorem w_4_13 : (Jvm.Cond.code ({ cls := "OwlsLent$House", name := "loudAt", desc := "(I[I)I" } : Jvm.MethodName) prog_4_method_14_code (5 : Nat) (Option.some Jvm.ClassFile.FieldType.int)) ∈ GT := GT_in (tlw (tin_4 (List.mem_of_getElem? (i := 13) rfl))) rfl
theorem w_4_14 : (Jvm.Cond.methodLink "OwlsLent$State" (86 : Nat) ({ cls := "OwlsLent$State", name := "loudest", desc := "(LOwlsLent$House;II)I" } : Jvm.MethodName)) ∈ GT := GT_in (tlw (tin_4 (List.mem_of_getElem? (i := 14) rfl))) rfl
theorem w_4_15 : (Jvm.Cond.instanceMethod ({ cls := "OwlsLent$State", name := "loudest", desc := "(LOwlsLent$House;II)I" } : Jvm.MethodName)) ∈ GT := GT_in (tlw (tin_4 (List.mem_of_getElem? (i := 15) rfl))) rfl
theorem w_4_16 : (Jvm.Cond.selects "OwlsLent$State" ({ cls := "OwlsLent$State", name := "loudest", desc := "(LOwlsLent$House;II)I" } : Jvm.MethodName) ({ cls := "OwlsLent$State", name := "loudest", desc := "(LOwlsLent$House;II)I" } : Jvm.MethodName)) ∈ GT := GT_in (tlw (tin_4 (List.mem_of_getElem? (i := 16) rfl))) rfl
theorem w_4_17 : (Jvm.Cond.code ({ cls := "OwlsLent$State", name := "loudest", desc := "(LOwlsLent$House;II)I" } : Jvm.MethodName) prog_9_method_10_code (8 : Nat) (Option.some Jvm.ClassFile.FieldType.int)) ∈ GT := GT_in (tlw (tin_4 (List.mem_of_getElem? (i := 17) rfl))) rfl
theorem w_4_18 : (Jvm.Cond.methodLink "OwlsLent$State" (82 : Nat) ({ cls := "OwlsLent$House", name := "loudAt", desc := "(I[I)I" } : Jvm.MethodName)) ∈ GT := GT_in (tlw (tin_4 (List.mem_of_getElem? (i := 18) rfl))) rfl
theorem w_4_43 : (Jvm.Cond.methodLink "OwlsLent$State" (43 : Nat) ({ cls := "java/lang/System", name := "arraycopy", desc := "(Ljava/lang/Object;ILjava/lang/Object;II)V" } : Jvm.MethodName)) ∈ GT := GT_in (tlw (tin_4 (List.mem_of_getElem? (i := 43) rfl))) rfl
theorem w_4_48 : (Jvm.Cond.methodLink "OwlsLent$State" (96 : Nat) ({ cls := "OwlsLent$State", name := "owlAt", desc := "(LOwlsLent$House;I)I" } : Jvm.MethodName)) ∈ GT := GT_in (tlw (tin_4 (List.mem_of_getElem? (i := 48) rfl))) rfl
theorem w_4_49 : (Jvm.Cond.instanceMethod ({ cls := "OwlsLent$State", name := "owlAt", desc := "(LOwlsLent$House;I)I" } : Jvm.MethodName)) ∈ GT := GT_in (tlw (tin_4 (List.mem_of_getElem? (i := 49) rfl))) rfl
theorem w_4_50 : (Jvm.Cond.selects "OwlsLent$State" ({ cls := "OwlsLent$State", name := "owlAt", desc := "(LOwlsLent$House;I)I" } : Jvm.MethodName) ({ cls := "OwlsLent$State", name := "owlAt", desc := "(LOwlsLent$House;I)I" } : Jvm.MethodName)) ∈ GT := GT_in (tlw (tin_4 (List.mem_of_getElem? (i := 50) rfl))) rfl
theorem w_4_51 : (Jvm.Cond.code ({ cls := "OwlsLent$State", name := "owlAt", desc := "(LOwlsLent$House;I)I" } : Jvm.MethodName) prog_9_method_5_code (4 : Nat) (Option.some Jvm.ClassFile.FieldType.int)) ∈ GT := GT_in (tlw (tin_4 (List.mem_of_getElem? (i := 51) rfl))) rfl
theorem w_4_91 : (Jvm.Cond.instanceMethod ({ cls := "OwlsLent$State", name := "shoutIn", desc := "(III)I" } : Jvm.MethodName)) ∈ GT := GT_in (tlw (tin_4 (List.mem_of_getElem? (i := 91) rfl))) rfl
theorem w_4_92 : (Jvm.Cond.selects "OwlsLent$State" ({ cls := "OwlsLent$State", name := "shoutIn", desc := "(III)I" } : Jvm.MethodName) ({ cls := "OwlsLent$State", name := "shoutIn", desc := "(III)I" } : Jvm.MethodName)) ∈ GT := GT_in (tlw (tin_4 (List.mem_of_getElem? (i := 92) rfl))) rfl
theorem w_4_93 : (Jvm.Cond.code ({ cls := "OwlsLent$State", name := "shoutIn", desc := "(III)I" } : Jvm.MethodName) prog_9_method_18_code (4 : Nat) (Option.some Jvm.ClassFile.FieldType.int)) ∈ GT := GT_in (tlw (tin_4 (List.mem_of_getElem? (i := 93) rfl))) rfl
theorem w_4_94 : (Jvm.Cond.methodLink "OwlsLent$State" (99 : Nat) ({ cls := "OwlsLent$State", name := "isShouted", desc := "()Z" } : Jvm.MethodName)) ∈ GT := GT_in (tlw (tin_4 (List.mem_of_getElem? (i := 94) rfl))) rfl
theorem w_4_95 : (Jvm.Cond.instanceMethod ({ cls := "OwlsLent$State", name := "isShouted", desc := "()Z" } : Jvm.MethodName)) ∈ GT := GT_in (tlw (tin_4 (List.mem_of_getElem? (i := 95) rfl))) rfl
theorem w_4_96 : (Jvm.Cond.selects "OwlsLent$State" ({ cls := "OwlsLent$State", name := "isShouted", desc := "()Z" } : Jvm.MethodName) ({ cls := "OwlsLent$State", name := "isShouted", desc := "()Z" } : Jvm.MethodName)) ∈ GT := GT_in (tlw (tin_4 (List.mem_of_getElem? (i := 96) rfl))) rfl
theorem w_4_97 : (Jvm.Cond.code ({ cls := "OwlsLent$State", name := "isShouted", desc := "()Z" } : Jvm.MethodName) prog_9_method_17_code (1 : Nat) (Option.some Jvm.ClassFile.FieldType.boolean)) ∈ GT := GT_in (tlw (tin_4 (List.mem_of_getElem? (i := 97) rfl))) rfl
theorem w_4_104 : (Jvm.Cond.instanceMethod ({ cls := "OwlsLent$State", name := "passHour", desc := "(LOwlsLent$House;)V" } : Jvm.MethodName)) ∈ GT := GT_in (tlw (tin_4 (List.mem_of_getElem? (i := 104) rfl))) rfl
theorem w_4_105 : (Jvm.Cond.selects "OwlsLent$State" ({ cls := "OwlsLent$State", name := "passHour", desc := "(LOwlsLent$House;)V" } : Jvm.MethodName) ({ cls := "OwlsLent$State", name := "passHour", desc := "(LOwlsLent$House;)V" } : Jvm.MethodName)) ∈ GT := GT_in (tlw (tin_4 (List.mem_of_getElem? (i := 105) rfl))) rfl
theorem w_4_106 : (Jvm.Cond.code ({ cls := "OwlsLent$State", name := "passHour", desc := "(LOwlsLent$House;)V" } : Jvm.MethodName) prog_9_method_19_code (8 : Nat) (Option.none : Option Jvm.ClassFile.FieldType)) ∈ GT := GT_in (tlw (tin_4 (List.mem_of_getElem? (i := 106) rfl))) rfl
theorem w_4_115 : (Jvm.Cond.methodLink "OwlsLent$State" (106 : Nat) ({ cls := "OwlsLent$State", name := "step", desc := "(I)I" } : Jvm.MethodName)) ∈ GT := GT_in (tlw (tin_4 (List.mem_of_getElem? (i := 115) rfl))) rfl
theorem w_4_116 : (Jvm.Cond.static ({ cls := "OwlsLent$State", name := "step", desc := "(I)I" } : Jvm.MethodName)) ∈ GT := GT_in (tlw (tin_4 (List.mem_of_getElem? (i := 116) rfl))) rfl
theorem w_4_117 : (Jvm.Cond.code ({ cls := "OwlsLent$State", name := "step", desc := "(I)I" } : Jvm.MethodName) prog_9_method_21_code (1 : Nat) (Option.some Jvm.ClassFile.FieldType.int)) ∈ GT := GT_in (tlw (tin_4 (List.mem_of_getElem? (i := 117) rfl))) rfl
theorem w_4_118 : (Jvm.Cond.constant "OwlsLent$State" (128 : Nat) (1103515245 : Int32)) ∈ GT := GT_in (tlw (tin_4 (List.mem_of_getElem? (i := 118) rfl))) rfl
theorem w_4_119 : (Jvm.Cond.methodLink "OwlsLent$State" (110 : Nat) ({ cls := "OwlsLent$State", name := "pick", desc := "(II)I" } : Jvm.MethodName)) ∈ GT := GT_in (tlw (tin_4 (List.mem_of_getElem? (i := 119) rfl))) rfl
theorem w_4_120 : (Jvm.Cond.static ({ cls := "OwlsLent$State", name := "pick", desc := "(II)I" } : Jvm.MethodName)) ∈ GT := GT_in (tlw (tin_4 (List.mem_of_getElem? (i := 120) rfl))) rfl
theorem w_4_121 : (Jvm.Cond.code ({ cls := "OwlsLent$State", name := "pick", desc := "(II)I" } : Jvm.MethodName) prog_9_method_22_code (2 : Nat) (Option.some Jvm.ClassFile.FieldType.int)) ∈ GT := GT_in (tlw (tin_4 (List.mem_of_getElem? (i := 121) rfl))) rfl
theorem w_4_122 : (Jvm.Cond.methodLink "OwlsLent$State" (120 : Nat) ({ cls := "OwlsLent$State", name := "shoutIn", desc := "(III)I" } : Jvm.MethodName)) ∈ GT := GT_in (tlw (tin_4 (List.mem_of_getElem? (i := 122) rfl))) rfl
theorem w_4_123 : (Jvm.Cond.methodLink "OwlsLent$State" (124 : Nat) ({ cls := "OwlsLent$State", name := "passHour", desc := "(LOwlsLent$House;)V" } : Jvm.MethodName)) ∈ GT := GT_in (tlw (tin_4 (List.mem_of_getElem? (i := 123) rfl))) rfl
theorem w_4_149 : (Jvm.Cond.methodLink "OwlsLent$State" (90 : Nat) ({ cls := "OwlsLent$House", name := "sideAt", desc := "(I[I)I" } : Jvm.MethodName)) ∈ GT := GT_in (tlw (tin_4 (List.mem_of_getElem? (i := 149) rfl))) rfl
theorem w_6_124 : (Jvm.Cond.lays "OwlsLentModel" "OwlsLentModel" "thrown" "I") ∈ GT := GT_in (tlw (tin_6 (List.mem_of_getElem? (i := 124) rfl))) rfl
theorem w_6_126 : (Jvm.Cond.laysFinal "OwlsLentModel" "OwlsLentModel" "tape" "[B") ∈ GT := GT_in (tlw (tin_6 (List.mem_of_getElem? (i := 126) rfl))) rfl
theorem w_6_128 : (Jvm.Cond.lays "OwlsLentModel" "OwlsLentModel" "length" "I") ∈ GT := GT_in (tlw (tin_6 (List.mem_of_getElem? (i := 128) rfl))) rfl
theorem w_6_130 : (Jvm.Cond.lays "OwlsLentModel" "OwlsLentModel" "size" "I") ∈ GT := GT_in (tlw (tin_6 (List.mem_of_getElem? (i := 130) rfl))) rfl
theorem w_6_132 : (Jvm.Cond.lays "OwlsLentModel" "OwlsLentModel" "p" "I") ∈ GT := GT_in (tlw (tin_6 (List.mem_of_getElem? (i := 132) rfl))) rfl
theorem w_6_134 : (Jvm.Cond.lays "OwlsLentModel" "OwlsLentModel" "limit" "I") ∈ GT := GT_in (tlw (tin_6 (List.mem_of_getElem? (i := 134) rfl))) rfl
theorem w_6_136 : (Jvm.Cond.laysFinal "OwlsLentModel" "OwlsLentModel" "s" "[I") ∈ GT := GT_in (tlw (tin_6 (List.mem_of_getElem? (i := 136) rfl))) rfl
theorem w_6_138 : (Jvm.Cond.laysFinal "OwlsLentModel" "OwlsLentModel" "h" "[I") ∈ GT := GT_in (tlw (tin_6 (List.mem_of_getElem? (i := 138) rfl))) rfl
theorem w_6_140 : (Jvm.Cond.laysFinal "OwlsLentModel" "OwlsLentModel" "read" "[I") ∈ GT := GT_in (tlw (tin_6 (List.mem_of_getElem? (i := 140) rfl))) rfl
theorem w_6_142 : (Jvm.Cond.laysFinal "OwlsLentModel" "OwlsLentModel" "names" "[J") ∈ GT := GT_in (tlw (tin_6 (List.mem_of_getElem? (i := 142) rfl))) rfl
theorem w_6_144 : (Jvm.Cond.laysFinal "OwlsLentModel" "OwlsLentModel" "reserved" "[J") ∈ GT := GT_in (tlw (tin_6 (List.mem_of_getElem? (i := 144) rfl))) rfl
theorem w_6_146 : (Jvm.Cond.lays "OwlsLentModel" "OwlsLentModel" "token" "I") ∈ GT := GT_in (tlw (tin_6 (List.mem_of_getElem? (i := 146) rfl))) rfl
theorem w_6_148 : (Jvm.Cond.lays "OwlsLentModel" "OwlsLentModel" "at" "I") ∈ GT := GT_in (tlw (tin_6 (List.mem_of_getElem? (i := 148) rfl))) rfl
theorem w_6_150 : (Jvm.Cond.lays "OwlsLentModel" "OwlsLentModel" "span" "I") ∈ GT := GT_in (tlw (tin_6 (List.mem_of_getElem? (i := 150) rfl))) rfl
theorem w_6_152 : (Jvm.Cond.lays "OwlsLentModel" "OwlsLentModel" "number" "I") ∈ GT := GT_in (tlw (tin_6 (List.mem_of_getElem? (i := 152) rfl))) rfl
theorem w_6_154 : (Jvm.Cond.lays "OwlsLentModel" "OwlsLentModel" "fault" "I") ∈ GT := GT_in (tlw (tin_6 (List.mem_of_getElem? (i := 154) rfl))) rfl
theorem w_6_156 : (Jvm.Cond.lays "OwlsLentModel" "OwlsLentModel" "faultAt" "I") ∈ GT := GT_in (tlw (tin_6 (List.mem_of_getElem? (i := 156) rfl))) rfl
theorem w_6_158 : (Jvm.Cond.lays "OwlsLentModel" "OwlsLentModel" "word" "J") ∈ GT := GT_in (tlw (tin_6 (List.mem_of_getElem? (i := 158) rfl))) rfl
theorem w_6_160 : (Jvm.Cond.lays "OwlsLentModel" "OwlsLentModel" "got" "I") ∈ GT := GT_in (tlw (tin_6 (List.mem_of_getElem? (i := 160) rfl))) rfl
theorem w_6_162 : (Jvm.Cond.lays "OwlsLentModel" "OwlsLentModel" "lines" "I") ∈ GT := GT_in (tlw (tin_6 (List.mem_of_getElem? (i := 162) rfl))) rfl
theorem w_6_164 : (Jvm.Cond.lays "OwlsLentModel" "OwlsLentModel" "hasHouse" "Z") ∈ GT := GT_in (tlw (tin_6 (List.mem_of_getElem? (i := 164) rfl))) rfl
theorem w_6_166 : (Jvm.Cond.lays "OwlsLentModel" "OwlsLentModel" "hasShut" "Z") ∈ GT := GT_in (tlw (tin_6 (List.mem_of_getElem? (i := 166) rfl))) rfl
theorem w_6_168 : (Jvm.Cond.laysFinal "OwlsLentModel" "OwlsLentModel" "undone" "[I") ∈ GT := GT_in (tlw (tin_6 (List.mem_of_getElem? (i := 168) rfl))) rfl
theorem w_6_170 : (Jvm.Cond.laysFinal "OwlsLentModel" "OwlsLentModel" "before" "[I") ∈ GT := GT_in (tlw (tin_6 (List.mem_of_getElem? (i := 170) rfl))) rfl
theorem w_6_172 : (Jvm.Cond.lays "OwlsLentModel" "OwlsLentModel" "undoMany" "I") ∈ GT := GT_in (tlw (tin_6 (List.mem_of_getElem? (i := 172) rfl))) rfl
theorem w_6_174 : (Jvm.Cond.laysFinal "OwlsLentModel" "OwlsLentModel" "spotRow" "[I") ∈ GT := GT_in (tlw (tin_6 (List.mem_of_getElem? (i := 174) rfl))) rfl
theorem w_6_176 : (Jvm.Cond.laysFinal "OwlsLentModel" "OwlsLentModel" "groups" "[I") ∈ GT := GT_in (tlw (tin_6 (List.mem_of_getElem? (i := 176) rfl))) rfl
theorem w_6_178 : (Jvm.Cond.lays "OwlsLentModel" "OwlsLentModel" "spotMany" "I") ∈ GT := GT_in (tlw (tin_6 (List.mem_of_getElem? (i := 178) rfl))) rfl
theorem w_6_180 : (Jvm.Cond.lays "OwlsLentModel" "OwlsLentModel" "nextOwl" "I") ∈ GT := GT_in (tlw (tin_6 (List.mem_of_getElem? (i := 180) rfl))) rfl
theorem w_6_182 : (Jvm.Cond.lays "OwlsLentModel" "OwlsLentModel" "keenFrom" "I") ∈ GT := GT_in (tlw (tin_6 (List.mem_of_getElem? (i := 182) rfl))) rfl
theorem w_6_184 : (Jvm.Cond.lays "OwlsLentModel" "OwlsLentModel" "keenTo" "I") ∈ GT := GT_in (tlw (tin_6 (List.mem_of_getElem? (i := 184) rfl))) rfl
theorem w_6_186 : (Jvm.Cond.lays "OwlsLentModel" "OwlsLentModel" "hasKeen" "Z") ∈ GT := GT_in (tlw (tin_6 (List.mem_of_getElem? (i := 186) rfl))) rfl
theorem w_6_188 : (Jvm.Cond.laysFinal "OwlsLentModel" "OwlsLentModel" "worths" "[I") ∈ GT := GT_in (tlw (tin_6 (List.mem_of_getElem? (i := 188) rfl))) rfl
theorem w_6_190 : (Jvm.Cond.laysFinal "OwlsLentModel" "OwlsLentModel" "rest" "[I") ∈ GT := GT_in (tlw (tin_6 (List.mem_of_getElem? (i := 190) rfl))) rfl
theorem w_6_192 : (Jvm.Cond.laysFinal "OwlsLentModel" "OwlsLentModel" "bestRow" "[I") ∈ GT := GT_in (tlw (tin_6 (List.mem_of_getElem? (i := 192) rfl))) rfl
theorem w_6_194 : (Jvm.Cond.lays "OwlsLentModel" "OwlsLentModel" "bestMany" "I") ∈ GT := GT_in (tlw (tin_6 (List.mem_of_getElem? (i := 194) rfl))) rfl
theorem w_6_196 : (Jvm.Cond.laysFinal "OwlsLentModel" "OwlsLentModel" "codeRow" "[I") ∈ GT := GT_in (tlw (tin_6 (List.mem_of_getElem? (i := 196) rfl))) rfl
theorem w_6_198 : (Jvm.Cond.lays "OwlsLentModel" "OwlsLentModel" "codeMany" "I") ∈ GT := GT_in (tlw (tin_6 (List.mem_of_getElem? (i := 198) rfl))) rfl
theorem w_6_200 : (Jvm.Cond.laysFinal "OwlsLentModel" "OwlsLentModel" "wins" "[Z") ∈ GT := GT_in (tlw (tin_6 (List.mem_of_getElem? (i := 200) rfl))) rfl
theorem w_6_202 : (Jvm.Cond.laysFinal "OwlsLentModel" "OwlsLentModel" "later" "[Z") ∈ GT := GT_in (tlw (tin_6 (List.mem_of_getElem? (i := 202) rfl))) rfl
theorem w_6_204 : (Jvm.Cond.lays "OwlsLentModel" "OwlsLentModel" "duelOne" "I") ∈ GT := GT_in (tlw (tin_6 (List.mem_of_getElem? (i := 204) rfl))) rfl
theorem w_6_206 : (Jvm.Cond.lays "OwlsLentModel" "OwlsLentModel" "hasDuel" "Z") ∈ GT := GT_in (tlw (tin_6 (List.mem_of_getElem? (i := 206) rfl))) rfl
theorem w_6_208 : (Jvm.Cond.laysFinal "OwlsLentModel" "OwlsLentModel" "text" "[B") ∈ GT := GT_in (tlw (tin_6 (List.mem_of_getElem? (i := 208) rfl))) rfl
theorem w_6_210 : (Jvm.Cond.lays "OwlsLentModel" "OwlsLentModel" "textMany" "I") ∈ GT := GT_in (tlw (tin_6 (List.mem_of_getElem? (i := 210) rfl))) rfl
theorem w_6_212 : (Jvm.Cond.lays "OwlsLentModel" "OwlsLentModel" "seed" "I") ∈ GT := GT_in (tlw (tin_6 (List.mem_of_getElem? (i := 212) rfl))) rfl
theorem w_6_214 : (Jvm.Cond.lays "OwlsLentModel" "OwlsLentModel" "toldMany" "I") ∈ GT := GT_in (tlw (tin_6 (List.mem_of_getElem? (i := 214) rfl))) rfl
theorem w_6_216 : (Jvm.Cond.laysFinal "OwlsLentModel" "OwlsLentModel" "toldAt" "[I") ∈ GT := GT_in (tlw (tin_6 (List.mem_of_getElem? (i := 216) rfl))) rfl
theorem w_6_218 : (Jvm.Cond.lays "OwlsLentModel" "OwlsLentModel" "hasTold" "Z") ∈ GT := GT_in (tlw (tin_6 (List.mem_of_getElem? (i := 218) rfl))) rfl
theorem w_6_220 : (Jvm.Cond.laysFinal "OwlsLentModel" "OwlsLentModel" "stack" "[I") ∈ GT := GT_in (tlw (tin_6 (List.mem_of_getElem? (i := 220) rfl))) rfl
theorem w_6_222 : (Jvm.Cond.lays "OwlsLentModel" "OwlsLentModel" "codes" "I") ∈ GT := GT_in (tlw (tin_6 (List.mem_of_getElem? (i := 222) rfl))) rfl
theorem w_6_224 : (Jvm.Cond.lays "OwlsLentModel" "OwlsLentModel" "ones" "I") ∈ GT := GT_in (tlw (tin_6 (List.mem_of_getElem? (i := 224) rfl))) rfl
theorem w_6_226 : (Jvm.Cond.lays "OwlsLentModel" "OwlsLentModel" "top" "I") ∈ GT := GT_in (tlw (tin_6 (List.mem_of_getElem? (i := 226) rfl))) rfl
theorem w_6_228 : (Jvm.Cond.lays "OwlsLentModel" "OwlsLentModel" "deep" "I") ∈ GT := GT_in (tlw (tin_6 (List.mem_of_getElem? (i := 228) rfl))) rfl
theorem w_6_230 : (Jvm.Cond.lays "OwlsLentModel" "OwlsLentModel" "isWhole" "Z") ∈ GT := GT_in (tlw (tin_6 (List.mem_of_getElem? (i := 230) rfl))) rfl
theorem w_6_232 : (Jvm.Cond.laysFinal "OwlsLentModel" "OwlsLentModel" "truths" "[Z") ∈ GT := GT_in (tlw (tin_6 (List.mem_of_getElem? (i := 232) rfl))) rfl
theorem w_6_234 : (Jvm.Cond.laysFinal "OwlsLentModel" "OwlsLentModel" "imaged" "[I") ∈ GT := GT_in (tlw (tin_6 (List.mem_of_getElem? (i := 234) rfl))) rfl
theorem w_6_236 : (Jvm.Cond.laysFinal "OwlsLentModel" "OwlsLentModel" "namesKept" "[J") ∈ GT := GT_in (tlw (tin_6 (List.mem_of_getElem? (i := 236) rfl))) rfl
theorem w_6_238 : (Jvm.Cond.laysFinal "OwlsLentModel" "OwlsLentModel" "areKept" "[Z") ∈ GT := GT_in (tlw (tin_6 (List.mem_of_getElem? (i := 238) rfl))) rfl
theorem nw_1_45 : (Jvm.Cond.fieldLinkNest "OwlsLent$Tokens" (68 : Nat) "OwlsLent$Tape" "length" "I" "OwlsLent") ∈ NT := List.mem_filter.mpr ⟨tin_1 (List.mem_of_getElem? (i := 45) rfl), rfl⟩
theorem nw_1_175 : (Jvm.Cond.fieldLinkNest "OwlsLent$State" (114 : Nat) "OwlsLent$House" "wide" "I" "OwlsLent") ∈ NT := List.mem_filter.mpr ⟨tin_1 (List.mem_of_getElem? (i := 175) rfl), rfl⟩
theorem nw_1_180 : (Jvm.Cond.fieldLinkNest "OwlsLent$State" (117 : Nat) "OwlsLent$House" "high" "I" "OwlsLent") ∈ NT := List.mem_filter.mpr ⟨tin_1 (List.mem_of_getElem? (i := 180) rfl), rfl⟩
theorem nw_1_194 : (Jvm.Cond.fieldLinkNest "OwlsLent$State" (103 : Nat) "OwlsLent$House" "beds" "I" "OwlsLent") ∈ NT := List.mem_filter.mpr ⟨tin_1 (List.mem_of_getElem? (i := 194) rfl), rfl⟩
theorem nw_1_197 : (Jvm.Cond.fieldLinkNest "OwlsLent$State" (34 : Nat) "OwlsLent$House" "owls" "I" "OwlsLent") ∈ NT := List.mem_filter.mpr ⟨tin_1 (List.mem_of_getElem? (i := 197) rfl), rfl⟩
theorem nw_1_207 : (Jvm.Cond.fieldLinkNest "OwlsLent$State" (56 : Nat) "OwlsLent$House" "sounds" "I" "OwlsLent") ∈ NT := List.mem_filter.mpr ⟨tin_1 (List.mem_of_getElem? (i := 207) rfl), rfl⟩
theorem nw_1_226 : (Jvm.Cond.fieldLinkNest "OwlsLent$State" (39 : Nat) "OwlsLent$House" "owlRow" "[[I" "OwlsLent") ∈ NT := List.mem_filter.mpr ⟨tin_1 (List.mem_of_getElem? (i := 226) rfl), rfl⟩
theorem nw_1_231 : (Jvm.Cond.fieldLinkNest "OwlsLent$State" (53 : Nat) "OwlsLent$House" "soundRow" "[[I" "OwlsLent") ∈ NT := List.mem_filter.mpr ⟨tin_1 (List.mem_of_getElem? (i := 231) rfl), rfl⟩
theorem neM_0 : RX0 ≠ "java/lang/invoke/MethodHandle" := by decide
theorem neV_0 : RX0 ≠ "java/lang/invoke/VarHandle" := by decide
theorem neM_1 : RX1 ≠ "java/lang/invoke/MethodHandle" := by decide
theorem neV_1 : RX1 ≠ "java/lang/invoke/VarHandle" := by decide
theorem neM_2 : RX2 ≠ "java/lang/invoke/MethodHandle" := by decide
theorem neV_2 : RX2 ≠ "java/lang/invoke/VarHandle" := by decide
theorem neM_3 : RX3 ≠ "java/lang/invoke/MethodHandle" := by decide
theorem neV_3 : RX3 ≠ "java/lang/invoke/VarHandle" := by decide
theorem neM_4 : RX4 ≠ "java/lang/invoke/MethodHandle" := by decide
theorem neV_4 : RX4 ≠ "java/lang/invoke/VarHandle" := by decide
theorem neM_5 : RX5 ≠ "java/lang/invoke/MethodHandle" := by decide
theorem neV_5 : RX5 ≠ "java/lang/invoke/VarHandle" := by decide
theorem neM_6 : RX6 ≠ "java/lang/invoke/MethodHandle" := by decide
theorem neV_6 : RX6 ≠ "java/lang/invoke/VarHandle" := by decide
theorem neM_7 : RX7 ≠ "java/lang/invoke/MethodHandle" := by decide
theorem neV_7 : RX7 ≠ "java/lang/invoke/VarHandle" := by decide
theorem neM_8 : RX8 ≠ "java/lang/invoke/MethodHandle" := by decide
theorem neV_8 : RX8 ≠ "java/lang/invoke/VarHandle" := by decide
theorem neM_9 : RX9 ≠ "java/lang/invoke/MethodHandle" := by decide
theorem neV_9 : RX9 ≠ "java/lang/invoke/VarHandle" := by decide
theorem neM_10 : RX10 ≠ "java/lang/invoke/MethodHandle" := by decide
theorem neV_10 : RX10 ≠ "java/lang/invoke/VarHandle" := by decide
theorem neM_11 : RX11 ≠ "java/lang/invoke/MethodHandle" := by decide
theorem neV_11 : RX11 ≠ "java/lang/invoke/VarHandle" := by decide
theorem neM_12 : RX12 ≠ "java/lang/invoke/MethodHandle" := by decide
theorem neV_12 : RX12 ≠ "java/lang/invoke/VarHandle" := by decide
theorem uw_0 : ∀ w ∈ u_ws RX0 TX0 5, w ∈ GT := by
  have h : ∀ k, k < 5 → u_lay RX0 TX0 k ∈ GT := lt_s (lt_s (lt_s (lt_s (lt_s (lt_0) w_2_215) w_2_217) w_2_219) w_2_221) w_2_223
  intro w hw
  obtain ⟨k, hk, rfl⟩ := List.mem_map.mp hw
  exact h k (List.mem_range.mp hk)
theorem uw_1 : ∀ w ∈ u_ws RX1 TX1 7, w ∈ GT := by
  have h : ∀ k, k < 7 → u_lay RX1 TX1 k ∈ GT := lt_s (lt_s (lt_s (lt_s (lt_s (lt_s (lt_s (lt_0) w_2_137) w_2_139) w_2_141) w_2_143) w_2_145) w_2_147) w_2_149
  intro w hw
  obtain ⟨k, hk, rfl⟩ := List.mem_map.mp hw
  exact h k (List.mem_range.mp hk)
theorem uw_2 : ∀ w ∈ u_ws RX2 TX2 15, w ∈ GT := by
  have h : ∀ k, k < 15 → u_lay RX2 TX2 k ∈ GT := lt_s (lt_s (lt_s (lt_s (lt_s (lt_s (lt_s (lt_s (lt_s (lt_s (lt_s (lt_s (lt_s (lt_s (lt_s (lt_0) w_1_234) w_1_236) w_1_238) w_2_0) w_2_2) w_2_4) w_2_6) w_2_8) w_2_10) w_2_12) w_2_14) w_2_16) w_2_18) w_2_20) w_2_22
  intro w hw
  obtain ⟨k, hk, rfl⟩ := List.mem_map.mp hw
  exact h k (List.mem_range.mp hk)
theorem uw_4 : ∀ w ∈ u_ws RX4 TX4 4, w ∈ GT := by
  have h : ∀ k, k < 4 → u_lay RX4 TX4 k ∈ GT := lt_s (lt_s (lt_s (lt_s (lt_0) w_2_104) w_2_106) w_2_108) w_2_110
  intro w hw
  obtain ⟨k, hk, rfl⟩ := List.mem_map.mp hw
  exact h k (List.mem_range.mp hk)
theorem uw_5 : ∀ w ∈ u_ws RX5 TX5 7, w ∈ GT := by
  have h : ∀ k, k < 7 → u_lay RX5 TX5 k ∈ GT := lt_s (lt_s (lt_s (lt_s (lt_s (lt_s (lt_s (lt_0) w_2_80) w_2_82) w_2_84) w_2_86) w_2_88) w_2_90) w_2_92
  intro w hw
  obtain ⟨k, hk, rfl⟩ := List.mem_map.mp hw
  exact h k (List.mem_range.mp hk)
theorem uw_6 : ∀ w ∈ u_ws RX6 TX6 6, w ∈ GT := by
  have h : ∀ k, k < 6 → u_lay RX6 TX6 k ∈ GT := lt_s (lt_s (lt_s (lt_s (lt_s (lt_s (lt_0) w_2_188) w_2_190) w_2_192) w_2_194) w_2_196) w_2_198
  intro w hw
  obtain ⟨k, hk, rfl⟩ := List.mem_map.mp hw
  exact h k (List.mem_range.mp hk)
theorem uw_7 : ∀ w ∈ u_ws RX7 TX7 7, w ∈ GT := by
  have h : ∀ k, k < 7 → u_lay RX7 TX7 k ∈ GT := lt_s (lt_s (lt_s (lt_s (lt_s (lt_s (lt_s (lt_0) w_2_49) w_2_51) w_2_53) w_2_55) w_2_57) w_2_59) w_2_61
  intro w hw
  obtain ⟨k, hk, rfl⟩ := List.mem_map.mp hw
  exact h k (List.mem_range.mp hk)
theorem uw_8 : ∀ w ∈ u_ws RX8 TX8 2, w ∈ GT := by
  have h : ∀ k, k < 2 → u_lay RX8 TX8 k ∈ GT := lt_s (lt_s (lt_0) w_1_46) w_1_48
  intro w hw
  obtain ⟨k, hk, rfl⟩ := List.mem_map.mp hw
  exact h k (List.mem_range.mp hk)
theorem uw_9 : ∀ w ∈ u_ws RX9 TX9 12, w ∈ GT := by
  have h : ∀ k, k < 12 → u_lay RX9 TX9 k ∈ GT := lt_s (lt_s (lt_s (lt_s (lt_s (lt_s (lt_s (lt_s (lt_s (lt_s (lt_s (lt_s (lt_0) w_1_130) w_1_132) w_1_134) w_1_136) w_1_138) w_1_140) w_1_142) w_1_144) w_1_146) w_1_148) w_1_150) w_1_152
  intro w hw
  obtain ⟨k, hk, rfl⟩ := List.mem_map.mp hw
  exact h k (List.mem_range.mp hk)
theorem uw_10 : ∀ w ∈ u_ws RX10 TX10 3, w ∈ GT := by
  have h : ∀ k, k < 3 → u_lay RX10 TX10 k ∈ GT := lt_s (lt_s (lt_s (lt_0) w_2_166) w_2_168) w_2_170
  intro w hw
  obtain ⟨k, hk, rfl⟩ := List.mem_map.mp hw
  exact h k (List.mem_range.mp hk)
theorem uw_11 : ∀ w ∈ u_ws RX11 TX11 19, w ∈ GT := by
  have h : ∀ k, k < 19 → u_lay RX11 TX11 k ∈ GT := lt_s (lt_s (lt_s (lt_s (lt_s (lt_s (lt_s (lt_s (lt_s (lt_s (lt_s (lt_s (lt_s (lt_s (lt_s (lt_s (lt_s (lt_s (lt_s (lt_0) w_3_5) w_3_7) w_3_9) w_3_11) w_3_13) w_3_15) w_3_17) w_3_19) w_3_21) w_3_23) w_3_25) w_3_27) w_3_29) w_3_31) w_3_33) w_3_35) w_3_37) w_3_39) w_3_41
  intro w hw
  obtain ⟨k, hk, rfl⟩ := List.mem_map.mp hw
  exact h k (List.mem_range.mp hk)
theorem uw_12 : ∀ w ∈ u_ws RX12 TX12 58, w ∈ GT := by
  have h : ∀ k, k < 58 → u_lay RX12 TX12 k ∈ GT := lt_s (lt_s (lt_s (lt_s (lt_s (lt_s (lt_s (lt_s (lt_s (lt_s (lt_s (lt_s (lt_s (lt_s (lt_s (lt_s (lt_s (lt_s (lt_s (lt_s (lt_s (lt_s (lt_s (lt_s (lt_s (lt_s (lt_s (lt_s (lt_s (lt_s (lt_s (lt_s (lt_s (lt_s (lt_s (lt_s (lt_s (lt_s (lt_s (lt_s (lt_s (lt_s (lt_s (lt_s (lt_s (lt_s (lt_s (lt_s (lt_s (lt_s (lt_s (lt_s (lt_s (lt_s (lt_s (lt_s (lt_s (lt_s (lt_0) w_6_124) w_6_126) w_6_128) w_6_130) w_6_132) w_6_134) w_6_136) w_6_138) w_6_140) w_6_142) w_6_144) w_6_146) w_6_148) w_6_150) w_6_152) w_6_154) w_6_156) w_6_158) w_6_160) w_6_162) w_6_164) w_6_166) w_6_168) w_6_170) w_6_172) w_6_174) w_6_176) w_6_178) w_6_180) w_6_182) w_6_184) w_6_186) w_6_188) w_6_190) w_6_192) w_6_194) w_6_196) w_6_198) w_6_200) w_6_202) w_6_204) w_6_206) w_6_208) w_6_210) w_6_212) w_6_214) w_6_216) w_6_218) w_6_220) w_6_222) w_6_224) w_6_226) w_6_228) w_6_230) w_6_232) w_6_234) w_6_236) w_6_238
  intro w hw
  obtain ⟨k, hk, rfl⟩ := List.mem_map.mp hw
  exact h k (List.mem_range.mp hk)
theorem fl_2_18 : xFL RX2 18 2 2 := ⟨RX2, TX2, 15, rfl, by decide, uw_2, rfl, Or.inl w_1_181⟩
theorem fl_2_21 : xFL RX2 21 2 3 := ⟨RX2, TX2, 15, rfl, by decide, uw_2, rfl, Or.inl w_1_183⟩
theorem ms_2_83 : xMS RX2 83 yX2_within cX2_within 4 (some .boolean) 3 := ⟨w_3_231, w_3_213, w_1_10, w_3_214, neM_2, neV_2, rfl⟩
theorem fl_7_21 : xFL RX7 21 6 3 := ⟨RX7, TX7, 7, rfl, by decide, uw_7, rfl, Or.inl w_2_39⟩
theorem fl_7_56 : xFL RX7 56 2 8 := ⟨RX2, TX2, 15, rfl, by decide, uw_2, rfl, Or.inr ⟨_, nw_1_207⟩⟩
theorem fl_7_53 : xFL RX7 53 2 14 := ⟨RX2, TX2, 15, rfl, by decide, uw_2, rfl, Or.inr ⟨_, nw_1_231⟩⟩
theorem fl_7_15 : xFL RX7 15 6 1 := ⟨RX7, TX7, 7, rfl, by decide, uw_7, rfl, Or.inl w_2_35⟩
theorem fl_7_9 : xFL RX7 9 6 0 := ⟨RX7, TX7, 7, rfl, by decide, uw_7, rfl, Or.inl w_2_31⟩
theorem ms_7_59 : xMS RX7 59 yX2_within cX2_within 4 (some .boolean) 3 := ⟨w_3_212, w_3_213, w_1_10, w_3_214, neM_2, neV_2, rfl⟩
theorem fl_2_37 : xFL RX2 37 2 8 := ⟨RX2, TX2, 15, rfl, by decide, uw_2, rfl, Or.inl w_1_203⟩
theorem ml_7_49 : xML RX7 49 2 yX2_hasSound cX2_hasSound 2 (some .boolean) 1 := ⟨w_4_1, w_3_205, w_3_206, w_1_10, w_3_207, ⟨TX2, 15, rfl⟩, neM_2, neV_2, rfl⟩
theorem fl_2_52 : xFL RX2 52 2 12 := ⟨RX2, TX2, 15, rfl, by decide, uw_2, rfl, Or.inl w_1_221⟩
theorem ml_2_87 : xML RX2 87 2 yX2_sideAt cX2_sideAt 5 (some .int) 2 := ⟨w_4_6, w_4_7, w_4_8, w_1_10, w_4_9, ⟨TX2, 15, rfl⟩, neM_2, neV_2, rfl⟩
theorem fl_2_55 : xFL RX2 55 2 13 := ⟨RX2, TX2, 15, rfl, by decide, uw_2, rfl, Or.inl w_1_225⟩
theorem ml_2_91 : xML RX2 91 2 yX2_loudAt cX2_loudAt 5 (some .int) 2 := ⟨w_4_10, w_4_11, w_4_12, w_1_10, w_4_13, ⟨TX2, 15, rfl⟩, neM_2, neV_2, rfl⟩
theorem ml_7_63 : xML RX7 63 6 yX7_rowOf cX7_rowOf 3 (some (.array .int)) 2 := ⟨w_3_237, w_3_238, w_3_239, w_1_11, w_4_0, ⟨TX7, 7, rfl⟩, neM_7, neV_7, rfl⟩
theorem ml_7_67 : xML RX7 67 2 yX2_heardSide cX2_heardSide 6 (some .int) 3 := ⟨w_4_2, w_4_3, w_4_4, w_1_10, w_4_5, ⟨TX2, 15, rfl⟩, neM_2, neV_2, rfl⟩
theorem ml_7_82 : xML RX7 82 2 yX2_loudAt cX2_loudAt 5 (some .int) 2 := ⟨w_4_18, w_4_11, w_4_12, w_1_10, w_4_13, ⟨TX2, 15, rfl⟩, neM_2, neV_2, rfl⟩
theorem fl_9_41 : xFL RX9 41 8 10 := ⟨RX9, TX9, 12, rfl, by decide, uw_9, rfl, Or.inl w_1_126⟩
theorem ft_9_10 : xFT 8 10 .int := ⟨RX9, TX9, 12, tyX9, rfl, rfl, tyX9_ok, nmX9, rfl⟩
theorem fl_9_44 : xFL RX9 44 8 11 := ⟨RX9, TX9, 12, rfl, by decide, uw_9, rfl, Or.inl w_1_128⟩
theorem ft_9_11 : xFT 8 11 .int := ⟨RX9, TX9, 12, tyX9, rfl, rfl, tyX9_ok, nmX9, rfl⟩
theorem fl_9_25 : xFL RX9 25 8 5 := ⟨RX9, TX9, 12, rfl, by decide, uw_9, rfl, Or.inl w_1_117⟩
theorem sel_yX9_failAt : Cond.selects yX9_failAt.cls yX9_failAt yX9_failAt ∈ GT := GT_in (psel (pin_1 (List.mem_of_getElem? (i := 1) rfl))) rfl
theorem ml_9_83 : xML RX9 83 8 yX9_failAt cX9_failAt 3 (some .boolean) 2 := ⟨w_3_97, w_3_99, sel_yX9_failAt, w_1_4, w_3_100, ⟨TX9, 12, rfl⟩, neM_9, neV_9, rfl⟩
theorem fl_8_19 : xFL RX8 19 7 0 := ⟨RX8, TX8, 2, rfl, by decide, uw_8, rfl, Or.inl w_1_41⟩
theorem fl_9_31 : xFL RX9 31 8 7 := ⟨RX9, TX9, 12, rfl, by decide, uw_9, rfl, Or.inl w_1_119⟩
theorem ft_9_7 : xFT 8 7 .int := ⟨RX9, TX9, 12, tyX9, rfl, rfl, tyX9_ok, nmX9, rfl⟩
theorem fl_9_37 : xFL RX9 37 8 9 := ⟨RX9, TX9, 12, rfl, by decide, uw_9, rfl, Or.inl w_1_125⟩
theorem ft_9_9 : xFT 8 9 .long := ⟨RX9, TX9, 12, tyX9, rfl, rfl, tyX9_ok, nmX9, rfl⟩
theorem fl_9_19 : xFL RX9 19 8 3 := ⟨RX9, TX9, 12, rfl, by decide, uw_9, rfl, Or.inl w_1_112⟩
theorem fl_9_47 : xFL RX9 47 8 0 := ⟨RX9, TX9, 12, rfl, by decide, uw_9, rfl, Or.inl w_1_108⟩
theorem fl_9_68 : xFL RX9 68 7 1 := ⟨RX8, TX8, 2, rfl, by decide, uw_8, rfl, Or.inr ⟨_, nw_1_45⟩⟩
theorem ml_9_72 : xML RX9 72 7 yX8_at cX8_at 2 (some .int) 1 := ⟨w_3_72, w_3_73, w_3_74, w_1_2, w_3_75, ⟨TX8, 2, rfl⟩, neM_8, neV_8, rfl⟩
theorem kc_9_63 : Cond.constantLong RX9 63 (32) ∈ GT := w_1_107
theorem ft_9_3 : xFT 8 3 .int := ⟨RX9, TX9, 12, tyX9, rfl, rfl, tyX9_ok, nmX9, rfl⟩
theorem fl_9_22 : xFL RX9 22 8 4 := ⟨RX9, TX9, 12, rfl, by decide, uw_9, rfl, Or.inl w_1_113⟩
theorem ft_9_4 : xFT 8 4 .int := ⟨RX9, TX9, 12, tyX9, rfl, rfl, tyX9_ok, nmX9, rfl⟩
theorem fl_9_9 : xFL RX9 9 8 1 := ⟨RX9, TX9, 12, rfl, by decide, uw_9, rfl, Or.inl w_1_109⟩
theorem ms_9_79 : xMS RX9 79 yX9_numberOf cX9_numberOf 5 (some .int) 3 := ⟨w_3_80, w_3_81, w_1_4, w_3_82, neM_9, neV_9, rfl⟩
theorem fl_9_34 : xFL RX9 34 8 8 := ⟨RX9, TX9, 12, rfl, by decide, uw_9, rfl, Or.inl w_1_121⟩
theorem ft_9_8 : xFT 8 8 .int := ⟨RX9, TX9, 12, tyX9, rfl, rfl, tyX9_ok, nmX9, rfl⟩
theorem fl_9_28 : xFL RX9 28 8 6 := ⟨RX9, TX9, 12, rfl, by decide, uw_9, rfl, Or.inl w_1_118⟩
theorem ft_9_6 : xFT 8 6 .int := ⟨RX9, TX9, 12, tyX9, rfl, rfl, tyX9_ok, nmX9, rfl⟩
theorem fl_9_15 : xFL RX9 15 8 2 := ⟨RX9, TX9, 12, rfl, by decide, uw_9, rfl, Or.inl w_1_111⟩
theorem ft_9_5 : xFT 8 5 .int := ⟨RX9, TX9, 12, tyX9, rfl, rfl, tyX9_ok, nmX9, rfl⟩
theorem sel_yX9_readRun : Cond.selects yX9_readRun.cls yX9_readRun yX9_readRun ∈ GT := GT_in (psel (pin_1 (List.mem_of_getElem? (i := 0) rfl))) rfl
theorem ml_9_76 : xML RX9 76 8 yX9_readRun cX9_readRun 4 none 0 := ⟨w_3_76, w_3_78, sel_yX9_readRun, w_1_4, w_3_79, ⟨TX9, 12, rfl⟩, neM_9, neV_9, rfl⟩
theorem ml_9_91 : xML RX9 91 8 yX9_fail cX9_fail 2 (some .boolean) 1 := ⟨w_3_106, w_3_94, w_3_95, w_1_4, w_3_96, ⟨TX9, 12, rfl⟩, neM_9, neV_9, rfl⟩
theorem ml_9_65 : xML RX9 65 8 yX9_advance cX9_advance 2 none 0 := ⟨w_3_68, w_3_69, w_3_70, w_1_4, w_3_71, ⟨TX9, 12, rfl⟩, neM_9, neV_9, rfl⟩
theorem ml_9_87 : xML RX9 87 8 yX9_isSign cX9_isSign 2 (some .boolean) 1 := ⟨w_3_163, w_3_164, w_3_165, w_1_4, w_3_166, ⟨TX9, 12, rfl⟩, neM_9, neV_9, rfl⟩
theorem fl_7_34 : xFL RX7 34 2 7 := ⟨RX2, TX2, 15, rfl, by decide, uw_2, rfl, Or.inr ⟨_, nw_1_197⟩⟩
theorem fl_7_25 : xFL RX7 25 6 4 := ⟨RX7, TX7, 7, rfl, by decide, uw_7, rfl, Or.inl w_2_40⟩
theorem ml_7_96 : xML RX7 96 6 yX7_owlAt cX7_owlAt 4 (some .int) 2 := ⟨w_4_48, w_4_49, w_4_50, w_1_11, w_4_51, ⟨TX7, 7, rfl⟩, neM_7, neV_7, rfl⟩
theorem ft_7_1 : xFT 6 1 .int := ⟨RX7, TX7, 7, tyX7, rfl, rfl, tyX7_ok, nmX7, rfl⟩
theorem fl_2_9 : xFL RX2 9 2 0 := ⟨RX2, TX2, 15, rfl, by decide, uw_2, rfl, Or.inl w_1_171⟩
theorem fl_2_15 : xFL RX2 15 2 1 := ⟨RX2, TX2, 15, rfl, by decide, uw_2, rfl, Or.inl w_1_176⟩
theorem ml_7_99 : xML RX7 99 6 yX7_isShouted cX7_isShouted 1 (some .boolean) 0 := ⟨w_4_94, w_4_95, w_4_96, w_1_11, w_4_97, ⟨TX7, 7, rfl⟩, neM_7, neV_7, rfl⟩
theorem fl_7_18 : xFL RX7 18 6 2 := ⟨RX7, TX7, 7, rfl, by decide, uw_7, rfl, Or.inl w_2_37⟩
theorem ft_7_2 : xFT 6 2 .int := ⟨RX7, TX7, 7, tyX7, rfl, rfl, tyX7_ok, nmX7, rfl⟩
theorem ml_7_74 : xML RX7 74 6 yX7_onBits cX7_onBits 6 (some .int) 2 := ⟨w_3_232, w_3_209, w_3_210, w_1_11, w_3_211, ⟨TX7, 7, rfl⟩, neM_7, neV_7, rfl⟩
theorem ml_7_71 : xML RX7 71 2 yX2_shutAt cX2_shutAt 2 (some .boolean) 1 := ⟨w_3_227, w_3_228, w_3_229, w_1_10, w_3_230, ⟨TX2, 15, rfl⟩, neM_2, neV_2, rfl⟩
theorem fl_7_103 : xFL RX7 103 2 6 := ⟨RX2, TX2, 15, rfl, by decide, uw_2, rfl, Or.inr ⟨_, nw_1_194⟩⟩
theorem ml_7_78 : xML RX7 78 6 yX7_heardBits cX7_heardBits 7 (some .int) 4 := ⟨w_3_233, w_3_234, w_3_235, w_1_11, w_3_236, ⟨TX7, 7, rfl⟩, neM_7, neV_7, rfl⟩
theorem ml_7_86 : xML RX7 86 6 yX7_loudest cX7_loudest 8 (some .int) 3 := ⟨w_4_14, w_4_15, w_4_16, w_1_11, w_4_17, ⟨TX7, 7, rfl⟩, neM_7, neV_7, rfl⟩
theorem ft_7_0 : xFT 6 0 .int := ⟨RX7, TX7, 7, tyX7, rfl, rfl, tyX7_ok, nmX7, rfl⟩
theorem fl_7_28 : xFL RX7 28 6 5 := ⟨RX7, TX7, 7, rfl, by decide, uw_7, rfl, Or.inl w_2_43⟩
theorem fl_7_31 : xFL RX7 31 6 6 := ⟨RX7, TX7, 7, rfl, by decide, uw_7, rfl, Or.inl w_2_46⟩
theorem ml_7_93 : xML RX7 93 6 yX7_lookOf cX7_lookOf 5 (some .int) 4 := ⟨w_3_223, w_3_224, w_3_225, w_1_11, w_3_226, ⟨TX7, 7, rfl⟩, neM_7, neV_7, rfl⟩
theorem ft_2_0 : xFT 2 0 .int := ⟨RX2, TX2, 15, tyX2, rfl, rfl, tyX2_ok, nmX2, rfl⟩
theorem ft_2_1 : xFT 2 1 .int := ⟨RX2, TX2, 15, tyX2, rfl, rfl, tyX2_ok, nmX2, rfl⟩
theorem ft_2_2 : xFT 2 2 .int := ⟨RX2, TX2, 15, tyX2, rfl, rfl, tyX2_ok, nmX2, rfl⟩
theorem ft_2_3 : xFT 2 3 .int := ⟨RX2, TX2, 15, tyX2, rfl, rfl, tyX2_ok, nmX2, rfl⟩
theorem fl_2_24 : xFL RX2 24 2 4 := ⟨RX2, TX2, 15, rfl, by decide, uw_2, rfl, Or.inl w_1_185⟩
theorem ft_2_4 : xFT 2 4 .boolean := ⟨RX2, TX2, 15, tyX2, rfl, rfl, tyX2_ok, nmX2, rfl⟩
theorem fl_2_28 : xFL RX2 28 2 5 := ⟨RX2, TX2, 15, rfl, by decide, uw_2, rfl, Or.inl w_1_187⟩
theorem ft_2_5 : xFT 2 5 .boolean := ⟨RX2, TX2, 15, tyX2, rfl, rfl, tyX2_ok, nmX2, rfl⟩
theorem fl_2_31 : xFL RX2 31 2 6 := ⟨RX2, TX2, 15, rfl, by decide, uw_2, rfl, Or.inl w_1_189⟩
theorem ft_2_6 : xFT 2 6 .int := ⟨RX2, TX2, 15, tyX2, rfl, rfl, tyX2_ok, nmX2, rfl⟩
theorem fl_2_34 : xFL RX2 34 2 7 := ⟨RX2, TX2, 15, rfl, by decide, uw_2, rfl, Or.inl w_1_195⟩
theorem ft_2_7 : xFT 2 7 .int := ⟨RX2, TX2, 15, tyX2, rfl, rfl, tyX2_ok, nmX2, rfl⟩
theorem ft_2_8 : xFT 2 8 .int := ⟨RX2, TX2, 15, tyX2, rfl, rfl, tyX2_ok, nmX2, rfl⟩
theorem mm_min : Cond.static Lib.Math.min.name ∈ GT ∧ Cond.initialized "java/lang/Math" ∈ GT ∧ Cond.code Lib.Math.min.name Lib.Math.min.code 2 (some .int) ∈ GT := ⟨w_3_186, w_1_3, w_3_187⟩
theorem mk_2_71 : Cond.methodLink RX2 71 Lib.Math.min.name ∈ GT := w_3_185
theorem mm_arraycopy : Cond.native arraycopyName ∈ GT ∧ Cond.static arraycopyName ∈ GT ∧ Cond.initialized "java/lang/System" ∈ GT := ⟨w_3_181, w_3_180, w_1_19⟩
theorem mk_2_61 : Cond.methodLink RX2 61 arraycopyName ∈ GT := w_3_179
theorem fl_2_40 : xFL RX2 40 2 9 := ⟨RX2, TX2, 15, rfl, by decide, uw_2, rfl, Or.inl w_1_209⟩
theorem fl_2_44 : xFL RX2 44 2 10 := ⟨RX2, TX2, 15, rfl, by decide, uw_2, rfl, Or.inl w_1_213⟩
theorem fl_2_47 : xFL RX2 47 2 11 := ⟨RX2, TX2, 15, rfl, by decide, uw_2, rfl, Or.inl w_1_218⟩
theorem ms_2_67 : xMS RX2 67 yX2_copyRows cX2_copyRows 3 none 2 := ⟨w_3_182, w_3_183, w_1_10, w_3_184, neM_2, neV_2, rfl⟩
theorem fl_2_58 : xFL RX2 58 2 14 := ⟨RX2, TX2, 15, rfl, by decide, uw_2, rfl, Or.inl w_1_229⟩
theorem ms_2_77 : xMS RX2 77 yX9_numberOf cX9_numberOf 5 (some .int) 3 := ⟨w_3_118, w_3_81, w_1_4, w_3_82, neM_9, neV_9, rfl⟩
theorem ml_9_95 : xML RX9 95 2 yX2_hasName cX2_hasName 3 (some .boolean) 1 := ⟨w_3_114, w_3_115, w_3_116, w_1_10, w_3_117, ⟨TX2, 15, rfl⟩, neM_2, neV_2, rfl⟩
theorem kc_9_101 : Cond.constantLong RX9 101 (-1) ∈ GT := w_3_119
theorem fl_7_39 : xFL RX7 39 2 13 := ⟨RX2, TX2, 15, rfl, by decide, uw_2, rfl, Or.inr ⟨_, nw_1_226⟩⟩
theorem mk_7_43 : Cond.methodLink RX7 43 arraycopyName ∈ GT := w_4_43
theorem ml_7_90 : xML RX7 90 2 yX2_sideAt cX2_sideAt 5 (some .int) 2 := ⟨w_4_149, w_4_7, w_4_8, w_1_10, w_4_9, ⟨TX2, 15, rfl⟩, neM_2, neV_2, rfl⟩
theorem kc_7_128 : Cond.constant RX7 128 (1103515245) ∈ GT := w_4_118
theorem ms_7_106 : xMS RX7 106 yX7_step cX7_step 1 (some .int) 1 := ⟨w_4_115, w_4_116, w_1_11, w_4_117, neM_7, neV_7, rfl⟩
theorem ms_7_110 : xMS RX7 110 yX7_pick cX7_pick 2 (some .int) 2 := ⟨w_4_119, w_4_120, w_1_11, w_4_121, neM_7, neV_7, rfl⟩
theorem fl_7_114 : xFL RX7 114 2 0 := ⟨RX2, TX2, 15, rfl, by decide, uw_2, rfl, Or.inr ⟨_, nw_1_175⟩⟩
theorem fl_7_117 : xFL RX7 117 2 1 := ⟨RX2, TX2, 15, rfl, by decide, uw_2, rfl, Or.inr ⟨_, nw_1_180⟩⟩
theorem ml_7_120 : xML RX7 120 6 yX7_shoutIn cX7_shoutIn 4 (some .int) 3 := ⟨w_4_122, w_4_91, w_4_92, w_1_11, w_4_93, ⟨TX7, 7, rfl⟩, neM_7, neV_7, rfl⟩
theorem ml_7_124 : xML RX7 124 6 yX7_passHour cX7_passHour 8 none 1 := ⟨w_4_123, w_4_104, w_4_105, w_1_11, w_4_106, ⟨TX7, 7, rfl⟩, neM_7, neV_7, rfl⟩
theorem fl_8_7 : xFL RX8 7 7 1 := ⟨RX8, TX8, 2, rfl, by decide, uw_8, rfl, Or.inl w_1_42⟩
theorem ft_8_1 : xFT 7 1 .int := ⟨RX8, TX8, 2, tyX8, rfl, rfl, tyX8_ok, nmX8, rfl⟩
theorem ml_8_23 : xML RX8 23 7 yX8_add cX8_add 2 none 1 := ⟨w_3_52, w_3_53, w_3_54, w_1_2, w_3_55, ⟨TX8, 2, rfl⟩, neM_8, neV_8, rfl⟩
theorem ft_9_2 : xFT 8 2 .int := ⟨RX9, TX9, 12, tyX9, rfl, rfl, tyX9_ok, nmX9, rfl⟩
theorem al_4 : Int32.ofNat 4 = 4 := by decide
theorem bi_6 : (Int8.ofInt (6)).toInt32 = (6) := by decide
theorem bi_7 : (Int8.ofInt (7)).toInt32 = (7) := by decide
theorem bi_8 : (Int8.ofInt (8)).toInt32 = (8) := by decide
theorem bi_10 : (Int8.ofInt (10)).toInt32 = (10) := by decide
theorem bi_17 : (Int8.ofInt (17)).toInt32 = (17) := by decide
theorem bi_24 : (Int8.ofInt (24)).toInt32 = (24) := by decide
theorem bi_30 : (Int8.ofInt (30)).toInt32 = (30) := by decide
theorem bi_31 : (Int8.ofInt (31)).toInt32 = (31) := by decide
theorem bi_32 : (Int8.ofInt (32)).toInt32 = (32) := by decide
theorem bi_40 : (Int8.ofInt (40)).toInt32 = (40) := by decide
theorem bi_41 : (Int8.ofInt (41)).toInt32 = (41) := by decide
theorem bi_46 : (Int8.ofInt (46)).toInt32 = (46) := by decide
theorem bi_48 : (Int8.ofInt (48)).toInt32 = (48) := by decide
theorem bi_57 : (Int8.ofInt (57)).toInt32 = (57) := by decide
theorem bi_59 : (Int8.ofInt (59)).toInt32 = (59) := by decide
theorem bi_60 : (Int8.ofInt (60)).toInt32 = (60) := by decide
theorem bi_62 : (Int8.ofInt (62)).toInt32 = (62) := by decide
theorem bi_97 : (Int8.ofInt (97)).toInt32 = (97) := by decide
theorem bi_122 : (Int8.ofInt (122)).toInt32 = (122) := by decide
theorem ic_m8 : Int32.ofInt (-8) = (-8) := by decide
theorem ic_m5 : Int32.ofInt (-5) = (-5) := by decide
theorem ic_m1 : Int32.ofInt (-1) = (-1) := by decide
theorem ic_0 : Int32.ofInt (0) = (0) := by decide
theorem ic_1 : Int32.ofInt (1) = (1) := by decide
theorem ic_2 : Int32.ofInt (2) = (2) := by decide
theorem ic_3 : Int32.ofInt (3) = (3) := by decide
theorem ic_4 : Int32.ofInt (4) = (4) := by decide
theorem ic_5 : Int32.ofInt (5) = (5) := by decide
theorem ix_0_3 : ix 0 3 = some 0 := by decide
theorem ix_0_4 : ix 0 4 = some 0 := by decide
theorem ix_1_3 : ix 1 3 = some 1 := by decide
theorem ix_1_4 : ix 1 4 = some 1 := by decide
theorem ix_2_4 : ix 2 4 = some 2 := by decide
theorem ix_3_4 : ix 3 4 = some 3 := by decide
theorem ix_4_6 : ix 4 6 = some 4 := by decide
theorem ix_5_6 : ix 5 6 = some 5 := by decide
theorem ixc_4_4 : ixc 4 4 = some 4 := by decide
theorem ixc_6_6 : ixc 6 6 = some 6 := by decide
theorem ixc_8_8 : ixc 8 8 = some 8 := by decide
theorem lc_0 : Int64.ofNat (((0 : Fin 2) : Nat)) = (0) := by decide
theorem si_255 : (Int16.ofInt (255)).toInt32 = (255) := by decide
theorem si_12345 : (Int16.ofInt (12345)).toInt32 = (12345) := by decide
def rowsL (b n : Nat) : List Nat := (List.range n).map (fun j => b + j)
theorem rowsL_get {b n j : Nat} (h : j < n) : (rowsL b n)[j]? = some (b + j) := by simp [rowsL, h]
def shCL : List xSh := [.inl (10, [3, 5, 7, 45, 122, 149, 154, 196, 201, 243, 248, 258, 260, 261, 0, 0, 0, 0, 0]), .inl (7, [4, 0]), .inr (0, 940, []), .inl (8, [3, 6, 0, 0, 0, 0, 0, 0, 0, 1, 0, 0]), .inr (1, 32, []), .inl (3, [0, 8, 35, 40]), .inl (2, [0, 0, 0, 0, 0, 0, 0, 0, 0, 9, 10, 11, 12, 19, 26]), .inr (1, 6, []), .inr (1, 6, []), .inr (1, 8, []), .inr (4, 6, [11, 12, 13, 14, 15, 16]), .inr (0, 3, []), .inr (0, 3, []), .inr (0, 3, []), .inr (0, 3, []), .inr (0, 3, []), .inr (0, 3, []), .inr (4, 6, [18, 19, 20, 21, 22, 23]), .inr (0, 4, []), .inr (0, 4, []), .inr (0, 4, []), .inr (0, 4, []), .inr (0, 4, []), .inr (0, 4, []), .inr (4, 8, [25, 26, 27, 28, 29, 30, 31, 32]), .inr (0, 6, []), .inr (0, 6, []), .inr (0, 6, []), .inr (0, 6, []), .inr (0, 6, []), .inr (0, 6, []), .inr (0, 6, []), .inr (0, 6, []), .inl (6, [0, 0, 0, 36, 37, 38, 39]), .inr (0, 4, []), .inr (0, 6, []), .inr (0, 6, []), .inr (0, 6, []), .inl (4, [0, 0, 0, 41, 42, 43, 44]), .inr (0, 40, []), .inr (0, 40, []), .inr (0, 40, []), .inr (3, 20, []), .inr (5, 2, [44, 82]), .inl (3, [0, 47, 74, 79]), .inl (2, [0, 0, 0, 0, 0, 0, 0, 0, 0, 48, 49, 50, 51, 58, 65]), .inr (1, 6, []), .inr (1, 6, []), .inr (1, 8, []), .inr (4, 6, [50, 51, 52, 53, 54, 55]), .inr (0, 3, []), .inr (0, 3, []), .inr (0, 3, []), .inr (0, 3, []), .inr (0, 3, []), .inr (0, 3, []), .inr (4, 6, [57, 58, 59, 60, 61, 62]), .inr (0, 4, []), .inr (0, 4, []), .inr (0, 4, []), .inr (0, 4, []), .inr (0, 4, []), .inr (0, 4, []), .inr (4, 8, [64, 65, 66, 67, 68, 69, 70, 71]), .inr (0, 6, []), .inr (0, 6, []), .inr (0, 6, []), .inr (0, 6, []), .inr (0, 6, []), .inr (0, 6, []), .inr (0, 6, []), .inr (0, 6, []), .inl (6, [0, 0, 0, 75, 76, 77, 78]), .inr (0, 4, []), .inr (0, 6, []), .inr (0, 6, []), .inr (0, 6, []), .inl (4, [0, 0, 0, 80, 81, 82, 83]), .inr (0, 40, []), .inr (0, 40, []), .inr (0, 40, []), .inr (3, 20, []), .inl (3, [0, 85, 112, 117]), .inl (2, [0, 0, 0, 0, 0, 0, 0, 0, 0, 86, 87, 88, 89, 96, 103]), .inr (1, 6, []), .inr (1, 6, []), .inr (1, 8, []), .inr (4, 6, [88, 89, 90, 91, 92, 93]), .inr (0, 3, []), .inr (0, 3, []), .inr (0, 3, []), .inr (0, 3, []), .inr (0, 3, []), .inr (0, 3, []), .inr (4, 6, [95, 96, 97, 98, 99, 100]), .inr (0, 4, []), .inr (0, 4, []), .inr (0, 4, []), .inr (0, 4, []), .inr (0, 4, []), .inr (0, 4, []), .inr (4, 8, [102, 103, 104, 105, 106, 107, 108, 109]), .inr (0, 6, []), .inr (0, 6, []), .inr (0, 6, []), .inr (0, 6, []), .inr (0, 6, []), .inr (0, 6, []), .inr (0, 6, []), .inr (0, 6, []), .inl (6, [0, 0, 0, 113, 114, 115, 116]), .inr (0, 4, []), .inr (0, 6, []), .inr (0, 6, []), .inr (0, 6, []), .inl (4, [0, 0, 0, 118, 119, 120, 121]), .inr (0, 40, []), .inr (0, 40, []), .inr (0, 40, []), .inr (3, 20, []), .inl (2, [0, 0, 0, 0, 0, 0, 0, 0, 0, 123, 124, 125, 126, 133, 140]), .inr (1, 6, []), .inr (1, 6, []), .inr (1, 8, []), .inr (4, 6, [125, 126, 127, 128, 129, 130]), .inr (0, 3, []), .inr (0, 3, []), .inr (0, 3, []), .inr (0, 3, []), .inr (0, 3, []), .inr (0, 3, []), .inr (4, 6, [132, 133, 134, 135, 136, 137]), .inr (0, 4, []), .inr (0, 4, []), .inr (0, 4, []), .inr (0, 4, []), .inr (0, 4, []), .inr (0, 4, []), .inr (4, 8, [139, 140, 141, 142, 143, 144, 145, 146]), .inr (0, 6, []), .inr (0, 6, []), .inr (0, 6, []), .inr (0, 6, []), .inr (0, 6, []), .inr (0, 6, []), .inr (0, 6, []), .inr (0, 6, []), .inl (4, [0, 0, 0, 150, 151, 152, 153]), .inr (0, 40, []), .inr (0, 40, []), .inr (0, 40, []), .inr (3, 20, []), .inl (1, [155, 0, 0, 0, 0, 0, 0]), .inr (4, 40, [154, 155, 156, 157, 158, 159, 160, 161, 162, 163, 164, 165, 166, 167, 168, 169, 170, 171, 172, 173, 174, 175, 176, 177, 178, 179, 180, 181, 182, 183, 184, 185, 186, 187, 188, 189, 190, 191, 192, 193]), .inr (0, 4, []), .inr (0, 4, []), .inr (0, 4, []), .inr (0, 4, []), .inr (0, 4, []), .inr (0, 4, []), .inr (0, 4, []), .inr (0, 4, []), .inr (0, 4, []), .inr (0, 4, []), .inr (0, 4, []), .inr (0, 4, []), .inr (0, 4, []), .inr (0, 4, []), .inr (0, 4, []), .inr (0, 4, []), .inr (0, 4, []), .inr (0, 4, []), .inr (0, 4, []), .inr (0, 4, []), .inr (0, 4, []), .inr (0, 4, []), .inr (0, 4, []), .inr (0, 4, []), .inr (0, 4, []), .inr (0, 4, []), .inr (0, 4, []), .inr (0, 4, []), .inr (0, 4, []), .inr (0, 4, []), .inr (0, 4, []), .inr (0, 4, []), .inr (0, 4, []), .inr (0, 4, []), .inr (0, 4, []), .inr (0, 4, []), .inr (0, 4, []), .inr (0, 4, []), .inr (0, 4, []), .inr (0, 4, []), .inl (6, [0, 0, 0, 197, 198, 199, 200]), .inr (0, 4, []), .inr (0, 6, []), .inr (0, 6, []), .inr (0, 6, []), .inl (9, [202, 0, 0]), .inr (6, 8, [201, 206, 211, 216, 221, 226, 231, 236]), .inl (6, [0, 0, 0, 204, 205, 206, 207]), .inr (0, 4, []), .inr (0, 6, []), .inr (0, 6, []), .inr (0, 6, []), .inl (6, [0, 0, 0, 209, 210, 211, 212]), .inr (0, 4, []), .inr (0, 6, []), .inr (0, 6, []), .inr (0, 6, []), .inl (6, [0, 0, 0, 214, 215, 216, 217]), .inr (0, 4, []), .inr (0, 6, []), .inr (0, 6, []), .inr (0, 6, []), .inl (6, [0, 0, 0, 219, 220, 221, 222]), .inr (0, 4, []), .inr (0, 6, []), .inr (0, 6, []), .inr (0, 6, []), .inl (6, [0, 0, 0, 224, 225, 226, 227]), .inr (0, 4, []), .inr (0, 6, []), .inr (0, 6, []), .inr (0, 6, []), .inl (6, [0, 0, 0, 229, 230, 231, 232]), .inr (0, 4, []), .inr (0, 6, []), .inr (0, 6, []), .inr (0, 6, []), .inl (6, [0, 0, 0, 234, 235, 236, 237]), .inr (0, 4, []), .inr (0, 6, []), .inr (0, 6, []), .inr (0, 6, []), .inl (6, [0, 0, 0, 239, 240, 241, 242]), .inr (0, 4, []), .inr (0, 6, []), .inr (0, 6, []), .inr (0, 6, []), .inl (5, [244, 245, 246, 247, 0, 0]), .inr (0, 81, []), .inr (0, 81, []), .inr (0, 4, []), .inr (0, 6, []), .inl (0, [249, 256, 257, 0, 0]), .inr (4, 6, [248, 249, 250, 251, 252, 253]), .inr (0, 6, []), .inr (0, 6, []), .inr (0, 6, []), .inr (0, 6, []), .inr (0, 6, []), .inr (0, 6, []), .inr (0, 6, []), .inr (0, 6, []), .inl (7, [259, 0]), .inr (0, 32, []), .inr (0, 8, []), .inr (0, 8, [])]
def shC (k : Nat) : xSh := shCL.getD k (.inr (9, 0, []))
set_option maxRecDepth 20000 in
theorem shC_out (k : Nat) (h : 260 ≤ k) : shC k = .inr (9, 0, []) := by unfold shC; rw [List.getD_eq_getElem?_getD, List.getElem?_eq_none (by exact h)]; rfl
def shML : List xSh := [.inl (11, [0, 3, 0, 0, 0, 0, 4, 5, 6, 7, 8, 0, 0, 0, 0, 0, 0, 1, 0, 0, 0, 0, 9, 10, 0, 11, 12, 0, 0, 0, 0, 0, 13, 14, 15, 0, 16, 0, 17, 18, 0, 0, 19, 0, 0, 0, 20, 0, 21, 0, 0, 0, 0, 0, 22, 23, 24, 25]), .inr (2, 940, []), .inr (0, 302, []), .inr (0, 97, []), .inr (0, 160, []), .inr (1, 40, []), .inr (1, 32, []), .inr (0, 192, []), .inr (0, 24, []), .inr (0, 81, []), .inr (0, 6, []), .inr (0, 36, []), .inr (0, 448, []), .inr (0, 6, []), .inr (0, 8, []), .inr (3, 256, []), .inr (3, 256, []), .inr (2, 48, []), .inr (0, 4, []), .inr (0, 45, []), .inr (3, 45, []), .inr (0, 604, []), .inr (1, 40, []), .inr (3, 2, [])]
def shM (k : Nat) : xSh := shML.getD k (.inr (9, 0, []))
set_option maxRecDepth 20000 in
theorem shM_out (k : Nat) (h : 24 ≤ k) : shM k = .inr (9, 0, []) := by unfold shM; rw [List.getD_eq_getElem?_getD, List.getElem?_eq_none (by exact h)]; rfl
theorem sm_0 : shM 0 = .inl (11, [0, 3, 0, 0, 0, 0, 4, 5, 6, 7, 8, 0, 0, 0, 0, 0, 0, 1, 0, 0, 0, 0, 9, 10, 0, 11, 12, 0, 0, 0, 0, 0, 13, 14, 15, 0, 16, 0, 17, 18, 0, 0, 19, 0, 0, 0, 20, 0, 21, 0, 0, 0, 0, 0, 22, 23, 24, 25]) := rfl
theorem sm_1 : shM 1 = .inr (2, 940, []) := rfl
theorem sm_2 : shM 2 = .inr (0, 302, []) := rfl
theorem sm_3 : shM 3 = .inr (0, 97, []) := rfl
theorem sm_4 : shM 4 = .inr (0, 160, []) := rfl
theorem sm_5 : shM 5 = .inr (1, 40, []) := rfl
theorem sm_6 : shM 6 = .inr (1, 32, []) := rfl
theorem sm_7 : shM 7 = .inr (0, 192, []) := rfl
theorem sm_8 : shM 8 = .inr (0, 24, []) := rfl
theorem sm_9 : shM 9 = .inr (0, 81, []) := rfl
theorem sm_10 : shM 10 = .inr (0, 6, []) := rfl
theorem sm_11 : shM 11 = .inr (0, 36, []) := rfl
theorem sm_12 : shM 12 = .inr (0, 448, []) := rfl
theorem sm_13 : shM 13 = .inr (0, 6, []) := rfl
theorem sm_14 : shM 14 = .inr (0, 8, []) := rfl
theorem sm_15 : shM 15 = .inr (3, 256, []) := rfl
theorem sm_16 : shM 16 = .inr (3, 256, []) := rfl
theorem sm_17 : shM 17 = .inr (2, 48, []) := rfl
theorem sm_18 : shM 18 = .inr (0, 4, []) := rfl
theorem sm_19 : shM 19 = .inr (0, 45, []) := rfl
theorem sm_20 : shM 20 = .inr (3, 45, []) := rfl
theorem sm_21 : shM 21 = .inr (0, 604, []) := rfl
theorem sm_22 : shM 22 = .inr (1, 40, []) := rfl
theorem sm_23 : shM 23 = .inr (3, 2, []) := rfl
def isOwlsLent (k : Nat) : Prop := k ∈ ([0] : List Nat)
def isTape (k : Nat) : Prop := k ∈ ([1, 256] : List Nat)
def isTokens (k : Nat) : Prop := k ∈ ([3] : List Nat)
def isImage (k : Nat) : Prop := k ∈ ([5, 44, 82] : List Nat)
def isHouse (k : Nat) : Prop := k ∈ ([6, 45, 83, 120] : List Nat)
def isState (k : Nat) : Prop := k ∈ ([33, 72, 110, 194, 201, 206, 211, 216, 221, 226, 231, 236] : List Nat)
def isSentence (k : Nat) : Prop := k ∈ ([38, 77, 115, 147] : List Nat)
def isBook (k : Nat) : Prop := k ∈ ([152] : List Nat)
def isUndo (k : Nat) : Prop := k ∈ ([199] : List Nat)
def isSpots (k : Nat) : Prop := k ∈ ([241] : List Nat)
def isBest (k : Nat) : Prop := k ∈ ([246] : List Nat)
def FOwlsLent (k : Nat) : List Nat := [k + 1 + 2, k + 3 + 2, k + 5 + 2, k + 43 + 2, k + 120 + 2, k + 147 + 2, k + 152 + 2, k + 194 + 2, k + 199 + 2, k + 241 + 2, k + 246 + 2, k + 256 + 2, k + 258 + 2, k + 259 + 2, 0, 0, 0, 0, 0]
theorem sOwlsLent : ∀ {k : Nat}, isOwlsLent k → shC k = .inl (10, FOwlsLent k) := by unfold isOwlsLent; decide +kernel
theorem isOwlsLent_0 : isOwlsLent 0 := by unfold isOwlsLent; decide
theorem sOwlsLent_tapeI : ∀ {k : Nat}, isOwlsLent k → isTape (k + 1) := by unfold isOwlsLent isTape; decide +kernel
theorem sOwlsLent_tokensI : ∀ {k : Nat}, isOwlsLent k → isTokens (k + 3) := by unfold isOwlsLent isTokens; decide +kernel
theorem sOwlsLent_presentI : ∀ {k : Nat}, isOwlsLent k → isImage (k + 5) := by unfold isOwlsLent isImage; decide +kernel
theorem sOwlsLent_kept : ∀ {k : Nat}, isOwlsLent k → shC (k + 43) = .inr (5, 2, (List.range 2).map (fun j => k + 44 + 38 * j)) := by unfold isOwlsLent; decide +kernel
theorem sOwlsLent_keptG {k : Nat} : ∀ j, j < 2 → ((List.range 2).map (fun j => k + 44 + 38 * j))[j]? = some (k + 44 + 38 * j) := fun j h => by simp [h]
theorem sOwlsLent_keptI : ∀ {k : Nat}, isOwlsLent k → ∀ {j : Nat}, j < 2 → isImage (k + 44 + 38 * j) := by unfold isOwlsLent isImage; decide +kernel
theorem sOwlsLent_houseReadI : ∀ {k : Nat}, isOwlsLent k → isHouse (k + 120) := by unfold isOwlsLent isHouse; decide +kernel
theorem sOwlsLent_sentenceReadI : ∀ {k : Nat}, isOwlsLent k → isSentence (k + 147) := by unfold isOwlsLent isSentence; decide +kernel
theorem sOwlsLent_bookReadI : ∀ {k : Nat}, isOwlsLent k → isBook (k + 152) := by unfold isOwlsLent isBook; decide +kernel
theorem sOwlsLent_trialI : ∀ {k : Nat}, isOwlsLent k → isState (k + 194) := by unfold isOwlsLent isState; decide +kernel
theorem sOwlsLent_actsI : ∀ {k : Nat}, isOwlsLent k → isUndo (k + 199) := by unfold isOwlsLent isUndo; decide +kernel
theorem sOwlsLent_spottedI : ∀ {k : Nat}, isOwlsLent k → isSpots (k + 241) := by unfold isOwlsLent isSpots; decide +kernel
theorem sOwlsLent_placedI : ∀ {k : Nat}, isOwlsLent k → isBest (k + 246) := by unfold isOwlsLent isBest; decide +kernel
theorem sOwlsLent_writtenI : ∀ {k : Nat}, isOwlsLent k → isTape (k + 256) := by unfold isOwlsLent isTape; decide +kernel
theorem sOwlsLent_codes : ∀ {k : Nat}, isOwlsLent k → shC (k + 258) = .inr (0, 8, []) := by unfold isOwlsLent; decide +kernel
theorem sOwlsLent_codesTried : ∀ {k : Nat}, isOwlsLent k → shC (k + 259) = .inr (0, 8, []) := by unfold isOwlsLent; decide +kernel
def FTape (k : Nat) : List Nat := [k + 1 + 2, 0]
theorem sTape : ∀ {k : Nat}, isTape k → shC k = .inl (7, FTape k) := by unfold isTape; decide +kernel
theorem isTape_1 : isTape 1 := by unfold isTape; decide
theorem isTape_256 : isTape 256 := by unfold isTape; decide
def tapeLen (k : Nat) : Nat := if k = 1 then 940 else 32
theorem sTape_bytes : ∀ {k : Nat}, isTape k → shC (k + 1) = .inr (0, tapeLen k, []) := by unfold isTape; decide +kernel
def FTokens (k : Nat) : List Nat := [1 + 2, k + 1 + 2, 0, 0, 0, 0, 0, 0, 0, 1, 0, 0]
theorem sTokens : ∀ {k : Nat}, isTokens k → shC k = .inl (8, FTokens k) := by unfold isTokens; decide +kernel
theorem isTokens_3 : isTokens 3 := by unfold isTokens; decide
theorem sTokens_reserved : ∀ {k : Nat}, isTokens k → shC (k + 1) = .inr (1, 32, []) := by unfold isTokens; decide +kernel
def FImage (k : Nat) : List Nat := [0, k + 1 + 2, k + 28 + 2, k + 33 + 2]
theorem sImage : ∀ {k : Nat}, isImage k → shC k = .inl (3, FImage k) := by unfold isImage; decide +kernel
theorem isImage_5 : isImage 5 := by unfold isImage; decide
theorem isImage_44 : isImage 44 := by unfold isImage; decide
theorem isImage_82 : isImage 82 := by unfold isImage; decide
theorem sImage_homeI : ∀ {k : Nat}, isImage k → isHouse (k + 1) := by unfold isImage isHouse; decide +kernel
theorem sImage_stateI : ∀ {k : Nat}, isImage k → isState (k + 28) := by unfold isImage isState; decide +kernel
theorem sImage_sayingI : ∀ {k : Nat}, isImage k → isSentence (k + 33) := by unfold isImage isSentence; decide +kernel
def FHouse (k : Nat) : List Nat := [0, 0, 0, 0, 0, 0, 0, 0, 0, k + 1 + 2, k + 2 + 2, k + 3 + 2, k + 4 + 2, k + 11 + 2, k + 18 + 2]
theorem sHouse : ∀ {k : Nat}, isHouse k → shC k = .inl (2, FHouse k) := by unfold isHouse; decide +kernel
theorem isHouse_6 : isHouse 6 := by unfold isHouse; decide
theorem isHouse_45 : isHouse 45 := by unfold isHouse; decide
theorem isHouse_83 : isHouse 83 := by unfold isHouse; decide
theorem isHouse_120 : isHouse 120 := by unfold isHouse; decide
theorem sHouse_bedName : ∀ {k : Nat}, isHouse k → shC (k + 1) = .inr (1, 6, []) := by unfold isHouse; decide +kernel
theorem sHouse_owlName : ∀ {k : Nat}, isHouse k → shC (k + 2) = .inr (1, 6, []) := by unfold isHouse; decide +kernel
theorem sHouse_soundName : ∀ {k : Nat}, isHouse k → shC (k + 3) = .inr (1, 8, []) := by unfold isHouse; decide +kernel
theorem sHouse_bedRow : ∀ {k : Nat}, isHouse k → shC (k + 4) = .inr (4, 6, rowsL (k + 5) 6) := by unfold isHouse; decide +kernel
theorem sHouse_bedRowR : ∀ {k : Nat}, isHouse k → ∀ {j : Nat}, j < 6 → shC (k + 5 + j) = .inr (0, 3, []) := by unfold isHouse; decide +kernel
theorem sHouse_owlRow : ∀ {k : Nat}, isHouse k → shC (k + 11) = .inr (4, 6, rowsL (k + 12) 6) := by unfold isHouse; decide +kernel
theorem sHouse_owlRowR : ∀ {k : Nat}, isHouse k → ∀ {j : Nat}, j < 6 → shC (k + 12 + j) = .inr (0, 4, []) := by unfold isHouse; decide +kernel
theorem sHouse_soundRow : ∀ {k : Nat}, isHouse k → shC (k + 18) = .inr (4, 8, rowsL (k + 19) 8) := by unfold isHouse; decide +kernel
theorem sHouse_soundRowR : ∀ {k : Nat}, isHouse k → ∀ {j : Nat}, j < 8 → shC (k + 19 + j) = .inr (0, 6, []) := by unfold isHouse; decide +kernel
def FState (k : Nat) : List Nat := [0, 0, 0, k + 1 + 2, k + 2 + 2, k + 3 + 2, k + 4 + 2]
theorem sState : ∀ {k : Nat}, isState k → shC k = .inl (6, FState k) := by unfold isState; decide +kernel
theorem isState_33 : isState 33 := by unfold isState; decide
theorem isState_72 : isState 72 := by unfold isState; decide
theorem isState_110 : isState 110 := by unfold isState; decide
theorem isState_194 : isState 194 := by unfold isState; decide
theorem isState_201 : isState 201 := by unfold isState; decide
theorem isState_206 : isState 206 := by unfold isState; decide
theorem isState_211 : isState 211 := by unfold isState; decide
theorem isState_216 : isState 216 := by unfold isState; decide
theorem isState_221 : isState 221 := by unfold isState; decide
theorem isState_226 : isState 226 := by unfold isState; decide
theorem isState_231 : isState 231 := by unfold isState; decide
theorem isState_236 : isState 236 := by unfold isState; decide
theorem sState_shoutRow : ∀ {k : Nat}, isState k → shC (k + 1) = .inr (0, 4, []) := by unfold isState; decide +kernel
theorem sState_owlBed : ∀ {k : Nat}, isState k → shC (k + 2) = .inr (0, 6, []) := by unfold isState; decide +kernel
theorem sState_knows : ∀ {k : Nat}, isState k → shC (k + 3) = .inr (0, 6, []) := by unfold isState; decide +kernel
theorem sState_misses : ∀ {k : Nat}, isState k → shC (k + 4) = .inr (0, 6, []) := by unfold isState; decide +kernel
def FSentence (k : Nat) : List Nat := [0, 0, 0, k + 1 + 2, k + 2 + 2, k + 3 + 2, k + 4 + 2]
theorem sSentence : ∀ {k : Nat}, isSentence k → shC k = .inl (4, FSentence k) := by unfold isSentence; decide +kernel
theorem isSentence_38 : isSentence 38 := by unfold isSentence; decide
theorem isSentence_77 : isSentence 77 := by unfold isSentence; decide
theorem isSentence_115 : isSentence 115 := by unfold isSentence; decide
theorem isSentence_147 : isSentence 147 := by unfold isSentence; decide
theorem sSentence_steps : ∀ {k : Nat}, isSentence k → shC (k + 1) = .inr (0, 40, []) := by unfold isSentence; decide +kernel
theorem sSentence_signs : ∀ {k : Nat}, isSentence k → shC (k + 2) = .inr (0, 40, []) := by unfold isSentence; decide +kernel
theorem sSentence_numbers : ∀ {k : Nat}, isSentence k → shC (k + 3) = .inr (0, 40, []) := by unfold isSentence; decide +kernel
theorem sSentence_stack : ∀ {k : Nat}, isSentence k → shC (k + 4) = .inr (3, 20, []) := by unfold isSentence; decide +kernel
def FBook (k : Nat) : List Nat := [k + 1 + 2, 0, 0, 0, 0, 0, 0]
theorem sBook : ∀ {k : Nat}, isBook k → shC k = .inl (1, FBook k) := by unfold isBook; decide +kernel
theorem isBook_152 : isBook 152 := by unfold isBook; decide
theorem sBook_rows : ∀ {k : Nat}, isBook k → shC (k + 1) = .inr (4, 40, rowsL (k + 2) 40) := by unfold isBook; decide +kernel
theorem sBook_rowsR : ∀ {k : Nat}, isBook k → ∀ {j : Nat}, j < 40 → shC (k + 2 + j) = .inr (0, 4, []) := by unfold isBook; decide +kernel
def FUndo (k : Nat) : List Nat := [k + 1 + 2, 0, 0]
theorem sUndo : ∀ {k : Nat}, isUndo k → shC k = .inl (9, FUndo k) := by unfold isUndo; decide +kernel
theorem isUndo_199 : isUndo 199 := by unfold isUndo; decide
theorem sUndo_states : ∀ {k : Nat}, isUndo k → shC (k + 1) = .inr (6, 8, (List.range 8).map (fun j => k + 2 + 5 * j)) := by unfold isUndo; decide +kernel
theorem sUndo_statesG {k : Nat} : ∀ j, j < 8 → ((List.range 8).map (fun j => k + 2 + 5 * j))[j]? = some (k + 2 + 5 * j) := fun j h => by simp [h]
theorem sUndo_statesI : ∀ {k : Nat}, isUndo k → ∀ {j : Nat}, j < 8 → isState (k + 2 + 5 * j) := by unfold isUndo isState; decide +kernel
def FSpots (k : Nat) : List Nat := [k + 1 + 2, k + 2 + 2, k + 3 + 2, k + 4 + 2, 0, 0]
theorem sSpots : ∀ {k : Nat}, isSpots k → shC k = .inl (5, FSpots k) := by unfold isSpots; decide +kernel
theorem isSpots_241 : isSpots 241 := by unfold isSpots; decide
theorem sSpots_cells : ∀ {k : Nat}, isSpots k → shC (k + 1) = .inr (0, 81, []) := by unfold isSpots; decide +kernel
theorem sSpots_cellsTried : ∀ {k : Nat}, isSpots k → shC (k + 2) = .inr (0, 81, []) := by unfold isSpots; decide +kernel
theorem sSpots_voice : ∀ {k : Nat}, isSpots k → shC (k + 3) = .inr (0, 4, []) := by unfold isSpots; decide +kernel
theorem sSpots_tally : ∀ {k : Nat}, isSpots k → shC (k + 4) = .inr (0, 6, []) := by unfold isSpots; decide +kernel
def FBest (k : Nat) : List Nat := [k + 1 + 2, k + 8 + 2, k + 9 + 2, 0, 0]
theorem sBest : ∀ {k : Nat}, isBest k → shC k = .inl (0, FBest k) := by unfold isBest; decide +kernel
theorem isBest_246 : isBest 246 := by unfold isBest; decide
theorem sBest_gain : ∀ {k : Nat}, isBest k → shC (k + 1) = .inr (4, 6, rowsL (k + 2) 6) := by unfold isBest; decide +kernel
theorem sBest_gainR : ∀ {k : Nat}, isBest k → ∀ {j : Nat}, j < 6 → shC (k + 2 + j) = .inr (0, 6, []) := by unfold isBest; decide +kernel
theorem sBest_chosen : ∀ {k : Nat}, isBest k → shC (k + 8) = .inr (0, 6, []) := by unfold isBest; decide +kernel
theorem sBest_found : ∀ {k : Nat}, isBest k → shC (k + 9) = .inr (0, 6, []) := by unfold isBest; decide +kernel
/-! what the walks need beside the rows -/
def WC (G : xG) : Prop := xsh G = shC ∧ ∀ k, xN G ≤ k → shC k = .inr (9, 0, [])
def WM (G : xG) : Prop := xsh G = shM ∧ ∀ k, xN G ≤ k → shM k = .inr (9, 0, [])
theorem ne_toInt {x c : Int32} {k : Int} (h : ¬ x = c) (hc : c.toInt = k) : x.toInt ≠ k := fun e => h (Int32.toInt_inj.mp (e.trans hc.symm))
theorem ix_lit {i : Int32} {k : Nat} (hk : i.toInt = k) {N : Nat} (h : k < N) : ix i N = some k := by
  unfold ix
  rw [if_pos ⟨by omega, by omega⟩]
  have : i.toNatClampNeg = i.toInt.toNat := rfl
  rw [this, hk]
  rfl
theorem ix_src_0 {N : Nat} (h : 4 ≤ N) : ix 0 N = some 0 := ix_lit (by decide) (by omega)
theorem ix_src_1 {N : Nat} (h : 4 ≤ N) : ix 1 N = some 1 := ix_lit (by decide) (by omega)
theorem ix_src_2 {N : Nat} (h : 4 ≤ N) : ix 2 N = some 2 := ix_lit (by decide) (by omega)
theorem ix_src_3 {N : Nat} (h : 4 ≤ N) : ix 3 N = some 3 := ix_lit (by decide) (by omega)
theorem x_rz {E : xE} {ρ : Type} {fin : ρ → Option Value × xMem} {pc : Nat} {lv : List (Nat × Value)} {st : List Value} {m : xMem} {v : Int32} {F : Int32 → Option ρ} (kk : ∀ w, w = 0 ∨ w = 1 → X E fin pc lv (.int w :: st) m (F w)) : X E fin pc lv (.int v :: st) m ((rz v).bind F) := by
  cases hj : rz v with
  | none => exact x_none
  | some w =>
    obtain ⟨rfl, h⟩ := rz_in hj
    exact kk v h
