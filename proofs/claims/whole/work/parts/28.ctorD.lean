theorem w_1_156 : (Jvm.Cond.arrayClass Jvm.ClassFile.FieldType.byte) ∈ GT := GT_in (tlw (tin_1 (List.mem_of_getElem? (i := 156) rfl))) rfl
theorem w_6_27 : (Jvm.Cond.methodLink "OwlsLentModel" (27 : Nat) ({ cls := "java/lang/Object", name := "<init>", desc := "()V" } : Jvm.MethodName)) ∈ GT := GT_in (tlw (tin_6 (List.mem_of_getElem? (i := 27) rfl))) rfl
theorem w_6_36 : (Jvm.Cond.constantLong "OwlsLentModel" (130 : Nat) (470021403493 : Int64)) ∈ GT := GT_in (tlw (tin_6 (List.mem_of_getElem? (i := 36) rfl))) rfl
theorem w_6_37 : (Jvm.Cond.constantLong "OwlsLentModel" (132 : Nat) (508675318629 : Int64)) ∈ GT := GT_in (tlw (tin_6 (List.mem_of_getElem? (i := 37) rfl))) rfl
theorem w_6_38 : (Jvm.Cond.constantLong "OwlsLentModel" (134 : Nat) (1919902052 : Int64)) ∈ GT := GT_in (tlw (tin_6 (List.mem_of_getElem? (i := 38) rfl))) rfl
theorem w_6_39 : (Jvm.Cond.constantLong "OwlsLentModel" (136 : Nat) (1650814060 : Int64)) ∈ GT := GT_in (tlw (tin_6 (List.mem_of_getElem? (i := 39) rfl))) rfl
theorem w_6_40 : (Jvm.Cond.constantLong "OwlsLentModel" (138 : Nat) (1700885364 : Int64)) ∈ GT := GT_in (tlw (tin_6 (List.mem_of_getElem? (i := 40) rfl))) rfl
theorem w_6_41 : (Jvm.Cond.constantLong "OwlsLentModel" (140 : Nat) (495791207528 : Int64)) ∈ GT := GT_in (tlw (tin_6 (List.mem_of_getElem? (i := 41) rfl))) rfl
theorem w_6_42 : (Jvm.Cond.constantLong "OwlsLentModel" (142 : Nat) (2003137396 : Int64)) ∈ GT := GT_in (tlw (tin_6 (List.mem_of_getElem? (i := 42) rfl))) rfl
theorem w_6_43 : (Jvm.Cond.constantLong "OwlsLentModel" (144 : Nat) (474316174440 : Int64)) ∈ GT := GT_in (tlw (tin_6 (List.mem_of_getElem? (i := 43) rfl))) rfl
theorem kc_12_130 : Cond.constantLong RX12 130 (470021403493) ∈ GT := w_6_36
theorem kc_12_132 : Cond.constantLong RX12 132 (508675318629) ∈ GT := w_6_37
theorem kc_12_134 : Cond.constantLong RX12 134 (1919902052) ∈ GT := w_6_38
theorem kc_12_136 : Cond.constantLong RX12 136 (1650814060) ∈ GT := w_6_39
theorem kc_12_138 : Cond.constantLong RX12 138 (1700885364) ∈ GT := w_6_40
theorem kc_12_140 : Cond.constantLong RX12 140 (495791207528) ∈ GT := w_6_41
theorem kc_12_142 : Cond.constantLong RX12 142 (2003137396) ∈ GT := w_6_42
theorem kc_12_144 : Cond.constantLong RX12 144 (474316174440) ∈ GT := w_6_43
theorem bi_14 : (Int8.ofInt (14)).toInt32 = (14) := by decide
theorem bi_15 : (Int8.ofInt (15)).toInt32 = (15) := by decide
theorem bi_27 : (Int8.ofInt (27)).toInt32 = (27) := by decide
theorem bi_28 : (Int8.ofInt (28)).toInt32 = (28) := by decide
theorem bi_45 : (Int8.ofInt (45)).toInt32 = (45) := by decide
theorem ix_0_32 : ix 0 32 = some 0 := by decide
theorem ix_1_32 : ix 1 32 = some 1 := by decide
theorem ix_2_32 : ix 2 32 = some 2 := by decide
theorem ix_3_32 : ix 3 32 = some 3 := by decide
theorem ix_4_32 : ix 4 32 = some 4 := by decide
theorem ix_5_32 : ix 5 32 = some 5 := by decide
theorem ix_6_32 : ix 6 32 = some 6 := by decide
theorem ix_7_32 : ix 7 32 = some 7 := by decide
theorem ix_8_32 : ix 8 32 = some 8 := by decide
theorem ix_9_32 : ix 9 32 = some 9 := by decide
theorem ix_10_32 : ix 10 32 = some 10 := by decide
theorem ix_11_32 : ix 11 32 = some 11 := by decide
theorem ix_12_32 : ix 12 32 = some 12 := by decide
theorem ix_13_32 : ix 13 32 = some 13 := by decide
theorem ix_14_32 : ix 14 32 = some 14 := by decide
theorem ix_15_32 : ix 15 32 = some 15 := by decide
theorem ix_16_32 : ix 16 32 = some 16 := by decide
theorem ix_17_32 : ix 17 32 = some 17 := by decide
theorem ix_18_32 : ix 18 32 = some 18 := by decide
theorem ix_19_32 : ix 19 32 = some 19 := by decide
theorem ix_20_32 : ix 20 32 = some 20 := by decide
theorem ix_21_32 : ix 21 32 = some 21 := by decide
theorem ix_22_32 : ix 22 32 = some 22 := by decide
theorem ix_23_32 : ix 23 32 = some 23 := by decide
theorem ix_24_32 : ix 24 32 = some 24 := by decide
theorem ix_25_32 : ix 25 32 = some 25 := by decide
theorem ix_26_32 : ix 26 32 = some 26 := by decide
theorem ix_27_32 : ix 27 32 = some 27 := by decide
theorem ix_28_32 : ix 28 32 = some 28 := by decide
theorem ix_29_32 : ix 29 32 = some 29 := by decide
theorem ix_30_32 : ix 30 32 = some 30 := by decide
theorem ix_31_32 : ix 31 32 = some 31 := by decide
theorem si_160 : (Int16.ofInt (160)).toInt32 = (160) := by decide
theorem si_192 : (Int16.ofInt (192)).toInt32 = (192) := by decide
theorem si_448 : (Int16.ofInt (448)).toInt32 = (448) := by decide
theorem si_604 : (Int16.ofInt (604)).toInt32 = (604) := by decide
theorem fr_12_14 : xFR RX12 14 11 1 := ⟨RX12, TX12, 58, tyX12, .array .byte, rfl, by decide, uw_12, rfl, w_6_65, rfl, rfl, tyX12_ok, nmX12, rfl, fun _ => ⟨rfl, rfl⟩⟩
theorem fr_12_33 : xFR RX12 33 11 6 := ⟨RX12, TX12, 58, tyX12, .array .int, rfl, by decide, uw_12, rfl, w_6_70, rfl, rfl, tyX12_ok, nmX12, rfl, fun _ => ⟨rfl, rfl⟩⟩
theorem fr_12_37 : xFR RX12 37 11 7 := ⟨RX12, TX12, 58, tyX12, .array .int, rfl, by decide, uw_12, rfl, w_6_71, rfl, rfl, tyX12_ok, nmX12, rfl, fun _ => ⟨rfl, rfl⟩⟩
theorem fr_12_40 : xFR RX12 40 11 8 := ⟨RX12, TX12, 58, tyX12, .array .int, rfl, by decide, uw_12, rfl, w_6_72, rfl, rfl, tyX12_ok, nmX12, rfl, fun _ => ⟨rfl, rfl⟩⟩
theorem fr_12_43 : xFR RX12 43 11 9 := ⟨RX12, TX12, 58, tyX12, .array .long, rfl, by decide, uw_12, rfl, w_6_73, rfl, rfl, tyX12_ok, nmX12, rfl, fun _ => ⟨rfl, rfl⟩⟩
theorem fr_12_47 : xFR RX12 47 11 10 := ⟨RX12, TX12, 58, tyX12, .array .long, rfl, by decide, uw_12, rfl, w_6_74, rfl, rfl, tyX12_ok, nmX12, rfl, fun _ => ⟨rfl, rfl⟩⟩
theorem fr_12_50 : xFR RX12 50 11 22 := ⟨RX12, TX12, 58, tyX12, .array .int, rfl, by decide, uw_12, rfl, w_6_86, rfl, rfl, tyX12_ok, nmX12, rfl, fun _ => ⟨rfl, rfl⟩⟩
theorem fr_12_53 : xFR RX12 53 11 23 := ⟨RX12, TX12, 58, tyX12, .array .int, rfl, by decide, uw_12, rfl, w_6_87, rfl, rfl, tyX12_ok, nmX12, rfl, fun _ => ⟨rfl, rfl⟩⟩
theorem fr_12_56 : xFR RX12 56 11 25 := ⟨RX12, TX12, 58, tyX12, .array .int, rfl, by decide, uw_12, rfl, w_6_89, rfl, rfl, tyX12_ok, nmX12, rfl, fun _ => ⟨rfl, rfl⟩⟩
theorem fr_12_59 : xFR RX12 59 11 26 := ⟨RX12, TX12, 58, tyX12, .array .int, rfl, by decide, uw_12, rfl, w_6_90, rfl, rfl, tyX12_ok, nmX12, rfl, fun _ => ⟨rfl, rfl⟩⟩
theorem fr_12_68 : xFR RX12 68 11 32 := ⟨RX12, TX12, 58, tyX12, .array .int, rfl, by decide, uw_12, rfl, w_6_96, rfl, rfl, tyX12_ok, nmX12, rfl, fun _ => ⟨rfl, rfl⟩⟩
theorem fr_12_71 : xFR RX12 71 11 33 := ⟨RX12, TX12, 58, tyX12, .array .int, rfl, by decide, uw_12, rfl, w_6_97, rfl, rfl, tyX12_ok, nmX12, rfl, fun _ => ⟨rfl, rfl⟩⟩
theorem fr_12_74 : xFR RX12 74 11 34 := ⟨RX12, TX12, 58, tyX12, .array .int, rfl, by decide, uw_12, rfl, w_6_98, rfl, rfl, tyX12_ok, nmX12, rfl, fun _ => ⟨rfl, rfl⟩⟩
theorem fr_12_80 : xFR RX12 80 11 36 := ⟨RX12, TX12, 58, tyX12, .array .int, rfl, by decide, uw_12, rfl, w_6_100, rfl, rfl, tyX12_ok, nmX12, rfl, fun _ => ⟨rfl, rfl⟩⟩
theorem fr_12_86 : xFR RX12 86 11 38 := ⟨RX12, TX12, 58, tyX12, .array .boolean, rfl, by decide, uw_12, rfl, w_6_102, rfl, rfl, tyX12_ok, nmX12, rfl, fun _ => ⟨rfl, rfl⟩⟩
theorem fr_12_90 : xFR RX12 90 11 39 := ⟨RX12, TX12, 58, tyX12, .array .boolean, rfl, by decide, uw_12, rfl, w_6_103, rfl, rfl, tyX12_ok, nmX12, rfl, fun _ => ⟨rfl, rfl⟩⟩
theorem fr_12_93 : xFR RX12 93 11 42 := ⟨RX12, TX12, 58, tyX12, .array .byte, rfl, by decide, uw_12, rfl, w_6_106, rfl, rfl, tyX12_ok, nmX12, rfl, fun _ => ⟨rfl, rfl⟩⟩
theorem fr_12_96 : xFR RX12 96 11 46 := ⟨RX12, TX12, 58, tyX12, .array .int, rfl, by decide, uw_12, rfl, w_6_110, rfl, rfl, tyX12_ok, nmX12, rfl, fun _ => ⟨rfl, rfl⟩⟩
theorem fr_12_99 : xFR RX12 99 11 48 := ⟨RX12, TX12, 58, tyX12, .array .int, rfl, by decide, uw_12, rfl, w_6_112, rfl, rfl, tyX12_ok, nmX12, rfl, fun _ => ⟨rfl, rfl⟩⟩
theorem fr_12_102 : xFR RX12 102 11 54 := ⟨RX12, TX12, 58, tyX12, .array .boolean, rfl, by decide, uw_12, rfl, w_6_118, rfl, rfl, tyX12_ok, nmX12, rfl, fun _ => ⟨rfl, rfl⟩⟩
theorem fr_12_105 : xFR RX12 105 11 55 := ⟨RX12, TX12, 58, tyX12, .array .int, rfl, by decide, uw_12, rfl, w_6_119, rfl, rfl, tyX12_ok, nmX12, rfl, fun _ => ⟨rfl, rfl⟩⟩
theorem fr_12_108 : xFR RX12 108 11 56 := ⟨RX12, TX12, 58, tyX12, .array .long, rfl, by decide, uw_12, rfl, w_6_120, rfl, rfl, tyX12_ok, nmX12, rfl, fun _ => ⟨rfl, rfl⟩⟩
theorem fr_12_111 : xFR RX12 111 11 57 := ⟨RX12, TX12, 58, tyX12, .array .boolean, rfl, by decide, uw_12, rfl, w_6_121, rfl, rfl, tyX12_ok, nmX12, rfl, fun _ => ⟨rfl, rfl⟩⟩
def blX12 : List Value := [.int 0, .null, .int 0, .int 0, .int 0, .int 0, .null, .null, .null, .null, .null, .int 0, .int 0, .int 0, .int 0, .int 0, .int 0, .long 0, .int 0, .int 0, .int 0, .int 0, .null, .null, .int 0, .null, .null, .int 0, .int 0, .int 0, .int 0, .int 0, .null, .null, .null, .int 0, .null, .int 0, .null, .null, .int 0, .int 0, .null, .int 0, .int 0, .int 0, .null, .int 0, .null, .int 0, .int 0, .int 0, .int 0, .int 0, .null, .null, .null, .null]
theorem dfX12 : ∀ j, j < 58 → defaultValue (tyX12 j) = vp_V blX12 j := lt_s (lt_s (lt_s (lt_s (lt_s (lt_s (lt_s (lt_s (lt_s (lt_s (lt_s (lt_s (lt_s (lt_s (lt_s (lt_s (lt_s (lt_s (lt_s (lt_s (lt_s (lt_s (lt_s (lt_s (lt_s (lt_s (lt_s (lt_s (lt_s (lt_s (lt_s (lt_s (lt_s (lt_s (lt_s (lt_s (lt_s (lt_s (lt_s (lt_s (lt_s (lt_s (lt_s (lt_s (lt_s (lt_s (lt_s (lt_s (lt_s (lt_s (lt_s (lt_s (lt_s (lt_s (lt_s (lt_s (lt_s (lt_s (lt_0) rfl) rfl) rfl) rfl) rfl) rfl) rfl) rfl) rfl) rfl) rfl) rfl) rfl) rfl) rfl) rfl) rfl) rfl) rfl) rfl) rfl) rfl) rfl) rfl) rfl) rfl) rfl) rfl) rfl) rfl) rfl) rfl) rfl) rfl) rfl) rfl) rfl) rfl) rfl) rfl) rfl) rfl) rfl) rfl) rfl) rfl) rfl) rfl) rfl) rfl) rfl) rfl) rfl) rfl) rfl) rfl) rfl) rfl
theorem shM_out24 (k : Nat) (h : 24 ≤ k) : shM k = .inr (9, 0, []) := shM_out k h
def mR_Model0 : xMem := (fun k j => if k = 0 then (if j = 27 then (-1) else if j = 28 then (-1) else if j = 35 then (-1) else if j = 37 then (-1) else 0) else 0, fun _ _ => 0)
abbrev rm_M_init : Room := { frames := 1, cells := 23, slots := 3672, locals := 40 }
abbrev rm_y_Model : Room := { frames := 1, cells := 23, slots := 3672, locals := 40 }
def M_init_b534 : Nat → Int32 → xMem → Option (xMem)
  | 0, _, _ => none
  | n + 1, v1, m =>
    if v1 < 97 then
      (ix v1 97).bind fun j34 =>
      (ix v1 302).bind fun j36 => nm (upI m 2 j36 (m.1 3 j34)) fun m35 =>
      M_init_b534 n (v1 + 1) m35
    else
      some m
def M_init (m : xMem) : Option (xMem) :=
  nm (upL m 6 0 448546567013) fun m1 =>
  nm (upL m1 6 1 6448484) fun m2 =>
  nm (upL m2 6 2 7305068) fun m3 =>
  nm (upL m3 6 3 6447460) fun m4 =>
  nm (upL m4 6 4 1684365670) fun m5 =>
  nm (upL m5 6 5 495791205988) fun m6 =>
  nm (upL m6 6 6 512735736947) fun m7 =>
  nm (upL m7 6 7 1936225652) fun m8 =>
  nm (upL m8 6 8 470021403493) fun m9 =>
  nm (upL m9 6 9 508675318629) fun m10 =>
  nm (upL m10 6 10 1919902052) fun m11 =>
  nm (upL m11 6 11 1650814060) fun m12 =>
  nm (upL m12 6 12 1700885364) fun m13 =>
  nm (upL m13 6 13 495791207528) fun m14 =>
  nm (upL m14 6 14 2003137396) fun m15 =>
  nm (upL m15 6 15 474316174440) fun m16 =>
  nm (upL m16 6 16 1818586724) fun m17 =>
  nm (upL m17 6 17 1752527720) fun m18 =>
  nm (upL m18 6 18 7103860) fun m19 =>
  nm (upL m19 6 19 495673374068) fun m20 =>
  nm (upL m20 6 20 1752135026) fun m21 =>
  nm (upL m21 6 21 28530) fun m22 =>
  nm (upL m22 6 22 6385252) fun m23 =>
  nm (upL m23 6 23 7237492) fun m24 =>
  nm (upL m24 6 24 422725643876) fun m25 =>
  nm (upL m25 6 25 1953459300) fun m26 =>
  nm (upL m26 6 26 465726040947) fun m27 =>
  nm (upL m27 6 27 25209) fun m28 =>
  nm (upL m28 6 28 448377483891) fun m29 =>
  nm (upL m29 6 29 461414299507) fun m30 =>
  nm (upL m30 6 30 120299675936100) fun m31 =>
  nm (upL m31 6 31 121450625394034) fun m32 =>
  (M_clears m32).bind fun r33 =>
  M_init_b534 1000 0 r33
theorem T_M_init_b534 {l : Launch} {G : xG} {E : xE} (hM : WM G) (g : xGood E l G.1 RX12 cX12_init yX12_init 2 none rm_M_init) : ∀ (n : Nat) (v1 : Int32) (m : xMem), X E G (fun r : xMem => ((none : Option Value), r)) 534 [(0, .ref (xad G 0)), (1, .int v1)] [] m (M_init_b534 n v1 m) := by
  intro n
  induction n with
  | zero => intro v1 m; exact x_none
  | succ n ih =>
    intro v1 m
    rw [M_init_b534]
    refine x_iload_n (pc := 534) (i := 1) (a := 1) g dX12_init_534 rfl rfl ?_
    refine x_bipush (pc := 535) g dX12_init_535 bi_97 ?_
    refine x_icmp_ge (pc := 537) (t := 558) g dX12_init_537 (by decide) ?_ ?_
    · refine x_aload_n (pc := 540) (i := 0) (a := 0) g dX12_init_540 rfl rfl ?_
      refine x_getR (pc := 541) (x := 2) g hM dX12_init_541 fl_12_33 (sm_0) rfl ?_
      refine x_iload_n (pc := 544) (i := 1) (a := 1) g dX12_init_544 rfl rfl ?_
      refine x_aload_n (pc := 545) (i := 0) (a := 0) g dX12_init_545 rfl rfl ?_
      refine x_getR (pc := 546) (x := 3) g hM dX12_init_546 fl_12_37 (sm_0) rfl ?_
      refine x_iload_n (pc := 549) (i := 1) (a := 1) g dX12_init_549 rfl rfl ?_
      refine x_iald (pc := 550) g hM dX12_init_550 (sm_3) (fun j34 hj34 => ?_)
      refine x_iast (pc := 551) g hM dX12_init_551 (sm_2) (fun j36 hj36 m35 => ?_)
      refine x_iinc (pc := 552) (a := 1) (lv' := [(1, .int (v1 + 1)), (0, .ref (xad G 0))]) g dX12_init_552 ic_1 rfl (by decide) rfl ?_
      refine x_goto (pc := 555) (t := 534) g dX12_init_555 (by decide) ?_
      exact x_sub [1, 0] (ih (v1 + 1) m35) rfl
    · exact x_vret (pc := 558) g dX12_init_558 rfl (fun _ h => h)
theorem T_M_init {l : Launch} {G : xG} {E : xE} (hM : WM G) (g : xGood E l G.1 RX12 cX12_init yX12_init 2 none rm_M_init) (m : xMem) : X E G (fun r : xMem => ((none : Option Value), r)) 214 [(0, .ref (xad G 0))] [] m (M_init m) := by
  unfold M_init
  refine x_aload_n (pc := 214) (i := 0) (a := 0) g dX12_init_214 rfl rfl ?_
  refine x_getR (pc := 215) (x := 6) g hM dX12_init_215 fl_12_47 (sm_0) rfl ?_
  refine x_iconst (pc := 218) g dX12_init_218 ic_0 ?_
  refine x_ldc2 (pc := 219) g dX12_init_219 kc_12_114 ?_
  refine x_lastc (pc := 222) g hM dX12_init_222 (sm_6) ix_0_32 (fun m1 => ?_)
  refine x_aload_n (pc := 223) (i := 0) (a := 0) g dX12_init_223 rfl rfl ?_
  refine x_getR (pc := 224) (x := 6) g hM dX12_init_224 fl_12_47 (sm_0) rfl ?_
  refine x_iconst (pc := 227) g dX12_init_227 ic_1 ?_
  refine x_ldc2 (pc := 228) g dX12_init_228 kc_12_116 ?_
  refine x_lastc (pc := 231) g hM dX12_init_231 (sm_6) ix_1_32 (fun m2 => ?_)
  refine x_aload_n (pc := 232) (i := 0) (a := 0) g dX12_init_232 rfl rfl ?_
  refine x_getR (pc := 233) (x := 6) g hM dX12_init_233 fl_12_47 (sm_0) rfl ?_
  refine x_iconst (pc := 236) g dX12_init_236 ic_2 ?_
  refine x_ldc2 (pc := 237) g dX12_init_237 kc_12_118 ?_
  refine x_lastc (pc := 240) g hM dX12_init_240 (sm_6) ix_2_32 (fun m3 => ?_)
  refine x_aload_n (pc := 241) (i := 0) (a := 0) g dX12_init_241 rfl rfl ?_
  refine x_getR (pc := 242) (x := 6) g hM dX12_init_242 fl_12_47 (sm_0) rfl ?_
  refine x_iconst (pc := 245) g dX12_init_245 ic_3 ?_
  refine x_ldc2 (pc := 246) g dX12_init_246 kc_12_120 ?_
  refine x_lastc (pc := 249) g hM dX12_init_249 (sm_6) ix_3_32 (fun m4 => ?_)
  refine x_aload_n (pc := 250) (i := 0) (a := 0) g dX12_init_250 rfl rfl ?_
  refine x_getR (pc := 251) (x := 6) g hM dX12_init_251 fl_12_47 (sm_0) rfl ?_
  refine x_iconst (pc := 254) g dX12_init_254 ic_4 ?_
  refine x_ldc2 (pc := 255) g dX12_init_255 kc_12_122 ?_
  refine x_lastc (pc := 258) g hM dX12_init_258 (sm_6) ix_4_32 (fun m5 => ?_)
  refine x_aload_n (pc := 259) (i := 0) (a := 0) g dX12_init_259 rfl rfl ?_
  refine x_getR (pc := 260) (x := 6) g hM dX12_init_260 fl_12_47 (sm_0) rfl ?_
  refine x_iconst (pc := 263) g dX12_init_263 ic_5 ?_
  refine x_ldc2 (pc := 264) g dX12_init_264 kc_12_124 ?_
  refine x_lastc (pc := 267) g hM dX12_init_267 (sm_6) ix_5_32 (fun m6 => ?_)
  refine x_aload_n (pc := 268) (i := 0) (a := 0) g dX12_init_268 rfl rfl ?_
  refine x_getR (pc := 269) (x := 6) g hM dX12_init_269 fl_12_47 (sm_0) rfl ?_
  refine x_bipush (pc := 272) g dX12_init_272 bi_6 ?_
  refine x_ldc2 (pc := 274) g dX12_init_274 kc_12_126 ?_
  refine x_lastc (pc := 277) g hM dX12_init_277 (sm_6) ix_6_32 (fun m7 => ?_)
  refine x_aload_n (pc := 278) (i := 0) (a := 0) g dX12_init_278 rfl rfl ?_
  refine x_getR (pc := 279) (x := 6) g hM dX12_init_279 fl_12_47 (sm_0) rfl ?_
  refine x_bipush (pc := 282) g dX12_init_282 bi_7 ?_
  refine x_ldc2 (pc := 284) g dX12_init_284 kc_12_128 ?_
  refine x_lastc (pc := 287) g hM dX12_init_287 (sm_6) ix_7_32 (fun m8 => ?_)
  refine x_aload_n (pc := 288) (i := 0) (a := 0) g dX12_init_288 rfl rfl ?_
  refine x_getR (pc := 289) (x := 6) g hM dX12_init_289 fl_12_47 (sm_0) rfl ?_
  refine x_bipush (pc := 292) g dX12_init_292 bi_8 ?_
  refine x_ldc2 (pc := 294) g dX12_init_294 kc_12_130 ?_
  refine x_lastc (pc := 297) g hM dX12_init_297 (sm_6) ix_8_32 (fun m9 => ?_)
  refine x_aload_n (pc := 298) (i := 0) (a := 0) g dX12_init_298 rfl rfl ?_
  refine x_getR (pc := 299) (x := 6) g hM dX12_init_299 fl_12_47 (sm_0) rfl ?_
  refine x_bipush (pc := 302) g dX12_init_302 bi_9 ?_
  refine x_ldc2 (pc := 304) g dX12_init_304 kc_12_132 ?_
  refine x_lastc (pc := 307) g hM dX12_init_307 (sm_6) ix_9_32 (fun m10 => ?_)
  refine x_aload_n (pc := 308) (i := 0) (a := 0) g dX12_init_308 rfl rfl ?_
  refine x_getR (pc := 309) (x := 6) g hM dX12_init_309 fl_12_47 (sm_0) rfl ?_
  refine x_bipush (pc := 312) g dX12_init_312 bi_10 ?_
  refine x_ldc2 (pc := 314) g dX12_init_314 kc_12_134 ?_
  refine x_lastc (pc := 317) g hM dX12_init_317 (sm_6) ix_10_32 (fun m11 => ?_)
  refine x_aload_n (pc := 318) (i := 0) (a := 0) g dX12_init_318 rfl rfl ?_
  refine x_getR (pc := 319) (x := 6) g hM dX12_init_319 fl_12_47 (sm_0) rfl ?_
  refine x_bipush (pc := 322) g dX12_init_322 bi_11 ?_
  refine x_ldc2 (pc := 324) g dX12_init_324 kc_12_136 ?_
  refine x_lastc (pc := 327) g hM dX12_init_327 (sm_6) ix_11_32 (fun m12 => ?_)
  refine x_aload_n (pc := 328) (i := 0) (a := 0) g dX12_init_328 rfl rfl ?_
  refine x_getR (pc := 329) (x := 6) g hM dX12_init_329 fl_12_47 (sm_0) rfl ?_
  refine x_bipush (pc := 332) g dX12_init_332 bi_12 ?_
  refine x_ldc2 (pc := 334) g dX12_init_334 kc_12_138 ?_
  refine x_lastc (pc := 337) g hM dX12_init_337 (sm_6) ix_12_32 (fun m13 => ?_)
  refine x_aload_n (pc := 338) (i := 0) (a := 0) g dX12_init_338 rfl rfl ?_
  refine x_getR (pc := 339) (x := 6) g hM dX12_init_339 fl_12_47 (sm_0) rfl ?_
  refine x_bipush (pc := 342) g dX12_init_342 bi_13 ?_
  refine x_ldc2 (pc := 344) g dX12_init_344 kc_12_140 ?_
  refine x_lastc (pc := 347) g hM dX12_init_347 (sm_6) ix_13_32 (fun m14 => ?_)
  refine x_aload_n (pc := 348) (i := 0) (a := 0) g dX12_init_348 rfl rfl ?_
  refine x_getR (pc := 349) (x := 6) g hM dX12_init_349 fl_12_47 (sm_0) rfl ?_
  refine x_bipush (pc := 352) g dX12_init_352 bi_14 ?_
  refine x_ldc2 (pc := 354) g dX12_init_354 kc_12_142 ?_
  refine x_lastc (pc := 357) g hM dX12_init_357 (sm_6) ix_14_32 (fun m15 => ?_)
  refine x_aload_n (pc := 358) (i := 0) (a := 0) g dX12_init_358 rfl rfl ?_
  refine x_getR (pc := 359) (x := 6) g hM dX12_init_359 fl_12_47 (sm_0) rfl ?_
  refine x_bipush (pc := 362) g dX12_init_362 bi_15 ?_
  refine x_ldc2 (pc := 364) g dX12_init_364 kc_12_144 ?_
  refine x_lastc (pc := 367) g hM dX12_init_367 (sm_6) ix_15_32 (fun m16 => ?_)
  refine x_aload_n (pc := 368) (i := 0) (a := 0) g dX12_init_368 rfl rfl ?_
  refine x_getR (pc := 369) (x := 6) g hM dX12_init_369 fl_12_47 (sm_0) rfl ?_
  refine x_bipush (pc := 372) g dX12_init_372 bi_16 ?_
  refine x_ldc2 (pc := 374) g dX12_init_374 kc_12_146 ?_
  refine x_lastc (pc := 377) g hM dX12_init_377 (sm_6) ix_16_32 (fun m17 => ?_)
  refine x_aload_n (pc := 378) (i := 0) (a := 0) g dX12_init_378 rfl rfl ?_
  refine x_getR (pc := 379) (x := 6) g hM dX12_init_379 fl_12_47 (sm_0) rfl ?_
  refine x_bipush (pc := 382) g dX12_init_382 bi_17 ?_
  refine x_ldc2 (pc := 384) g dX12_init_384 kc_12_148 ?_
  refine x_lastc (pc := 387) g hM dX12_init_387 (sm_6) ix_17_32 (fun m18 => ?_)
  refine x_aload_n (pc := 388) (i := 0) (a := 0) g dX12_init_388 rfl rfl ?_
  refine x_getR (pc := 389) (x := 6) g hM dX12_init_389 fl_12_47 (sm_0) rfl ?_
  refine x_bipush (pc := 392) g dX12_init_392 bi_18 ?_
  refine x_ldc2 (pc := 394) g dX12_init_394 kc_12_150 ?_
  refine x_lastc (pc := 397) g hM dX12_init_397 (sm_6) ix_18_32 (fun m19 => ?_)
  refine x_aload_n (pc := 398) (i := 0) (a := 0) g dX12_init_398 rfl rfl ?_
  refine x_getR (pc := 399) (x := 6) g hM dX12_init_399 fl_12_47 (sm_0) rfl ?_
  refine x_bipush (pc := 402) g dX12_init_402 bi_19 ?_
  refine x_ldc2 (pc := 404) g dX12_init_404 kc_12_152 ?_
  refine x_lastc (pc := 407) g hM dX12_init_407 (sm_6) ix_19_32 (fun m20 => ?_)
  refine x_aload_n (pc := 408) (i := 0) (a := 0) g dX12_init_408 rfl rfl ?_
  refine x_getR (pc := 409) (x := 6) g hM dX12_init_409 fl_12_47 (sm_0) rfl ?_
  refine x_bipush (pc := 412) g dX12_init_412 bi_20 ?_
  refine x_ldc2 (pc := 414) g dX12_init_414 kc_12_154 ?_
  refine x_lastc (pc := 417) g hM dX12_init_417 (sm_6) ix_20_32 (fun m21 => ?_)
  refine x_aload_n (pc := 418) (i := 0) (a := 0) g dX12_init_418 rfl rfl ?_
  refine x_getR (pc := 419) (x := 6) g hM dX12_init_419 fl_12_47 (sm_0) rfl ?_
  refine x_bipush (pc := 422) g dX12_init_422 bi_21 ?_
  refine x_ldc2 (pc := 424) g dX12_init_424 kc_12_156 ?_
  refine x_lastc (pc := 427) g hM dX12_init_427 (sm_6) ix_21_32 (fun m22 => ?_)
  refine x_aload_n (pc := 428) (i := 0) (a := 0) g dX12_init_428 rfl rfl ?_
  refine x_getR (pc := 429) (x := 6) g hM dX12_init_429 fl_12_47 (sm_0) rfl ?_
  refine x_bipush (pc := 432) g dX12_init_432 bi_22 ?_
  refine x_ldc2 (pc := 434) g dX12_init_434 kc_12_158 ?_
  refine x_lastc (pc := 437) g hM dX12_init_437 (sm_6) ix_22_32 (fun m23 => ?_)
  refine x_aload_n (pc := 438) (i := 0) (a := 0) g dX12_init_438 rfl rfl ?_
  refine x_getR (pc := 439) (x := 6) g hM dX12_init_439 fl_12_47 (sm_0) rfl ?_
  refine x_bipush (pc := 442) g dX12_init_442 bi_23 ?_
  refine x_ldc2 (pc := 444) g dX12_init_444 kc_12_160 ?_
  refine x_lastc (pc := 447) g hM dX12_init_447 (sm_6) ix_23_32 (fun m24 => ?_)
  refine x_aload_n (pc := 448) (i := 0) (a := 0) g dX12_init_448 rfl rfl ?_
  refine x_getR (pc := 449) (x := 6) g hM dX12_init_449 fl_12_47 (sm_0) rfl ?_
  refine x_bipush (pc := 452) g dX12_init_452 bi_24 ?_
  refine x_ldc2 (pc := 454) g dX12_init_454 kc_12_162 ?_
  refine x_lastc (pc := 457) g hM dX12_init_457 (sm_6) ix_24_32 (fun m25 => ?_)
  refine x_aload_n (pc := 458) (i := 0) (a := 0) g dX12_init_458 rfl rfl ?_
  refine x_getR (pc := 459) (x := 6) g hM dX12_init_459 fl_12_47 (sm_0) rfl ?_
  refine x_bipush (pc := 462) g dX12_init_462 bi_25 ?_
  refine x_ldc2 (pc := 464) g dX12_init_464 kc_12_164 ?_
  refine x_lastc (pc := 467) g hM dX12_init_467 (sm_6) ix_25_32 (fun m26 => ?_)
  refine x_aload_n (pc := 468) (i := 0) (a := 0) g dX12_init_468 rfl rfl ?_
  refine x_getR (pc := 469) (x := 6) g hM dX12_init_469 fl_12_47 (sm_0) rfl ?_
  refine x_bipush (pc := 472) g dX12_init_472 bi_26 ?_
  refine x_ldc2 (pc := 474) g dX12_init_474 kc_12_166 ?_
  refine x_lastc (pc := 477) g hM dX12_init_477 (sm_6) ix_26_32 (fun m27 => ?_)
  refine x_aload_n (pc := 478) (i := 0) (a := 0) g dX12_init_478 rfl rfl ?_
  refine x_getR (pc := 479) (x := 6) g hM dX12_init_479 fl_12_47 (sm_0) rfl ?_
  refine x_bipush (pc := 482) g dX12_init_482 bi_27 ?_
  refine x_ldc2 (pc := 484) g dX12_init_484 kc_12_168 ?_
  refine x_lastc (pc := 487) g hM dX12_init_487 (sm_6) ix_27_32 (fun m28 => ?_)
  refine x_aload_n (pc := 488) (i := 0) (a := 0) g dX12_init_488 rfl rfl ?_
  refine x_getR (pc := 489) (x := 6) g hM dX12_init_489 fl_12_47 (sm_0) rfl ?_
  refine x_bipush (pc := 492) g dX12_init_492 bi_28 ?_
  refine x_ldc2 (pc := 494) g dX12_init_494 kc_12_170 ?_
  refine x_lastc (pc := 497) g hM dX12_init_497 (sm_6) ix_28_32 (fun m29 => ?_)
  refine x_aload_n (pc := 498) (i := 0) (a := 0) g dX12_init_498 rfl rfl ?_
  refine x_getR (pc := 499) (x := 6) g hM dX12_init_499 fl_12_47 (sm_0) rfl ?_
  refine x_bipush (pc := 502) g dX12_init_502 bi_29 ?_
  refine x_ldc2 (pc := 504) g dX12_init_504 kc_12_172 ?_
  refine x_lastc (pc := 507) g hM dX12_init_507 (sm_6) ix_29_32 (fun m30 => ?_)
  refine x_aload_n (pc := 508) (i := 0) (a := 0) g dX12_init_508 rfl rfl ?_
  refine x_getR (pc := 509) (x := 6) g hM dX12_init_509 fl_12_47 (sm_0) rfl ?_
  refine x_bipush (pc := 512) g dX12_init_512 bi_30 ?_
  refine x_ldc2 (pc := 514) g dX12_init_514 kc_12_174 ?_
  refine x_lastc (pc := 517) g hM dX12_init_517 (sm_6) ix_30_32 (fun m31 => ?_)
  refine x_aload_n (pc := 518) (i := 0) (a := 0) g dX12_init_518 rfl rfl ?_
  refine x_getR (pc := 519) (x := 6) g hM dX12_init_519 fl_12_47 (sm_0) rfl ?_
  refine x_bipush (pc := 522) g dX12_init_522 bi_31 ?_
  refine x_ldc2 (pc := 524) g dX12_init_524 kc_12_176 ?_
  refine x_lastc (pc := 527) g hM dX12_init_527 (sm_6) ix_31_32 (fun m32 => ?_)
  refine x_aload_n (pc := 528) (i := 0) (a := 0) g dX12_init_528 rfl rfl ?_
  refine x_Vv (pc := 529) g hM [] [] (c_M_clears l G hM m32) dX12_init_529 ml_12_178 (sm_0) rfl rfl (Nat.le_of_ble_eq_true rfl) ⟨rfl, rfl, Nat.le_of_ble_eq_true rfl, Nat.le_of_ble_eq_true rfl⟩ (fun r33 hr33 => ?_)
  refine x_iconst (pc := 532) g dX12_init_532 ic_0 ?_
  refine x_istore_n (pc := 533) (i := 1) (lv' := [(1, .int 0), (0, .ref (xad G 0))]) g dX12_init_533 rfl (by decide) rfl ?_
  exact x_sub [1, 0] (T_M_init_b534 hM g 1000 0 r33) rfl
set_option maxRecDepth 100000 in
theorem is_Model : (M_init mR_Model0).isSome = true := by decide +kernel
def mR_Model : xMem := (M_init mR_Model0).get is_Model
def adR_Model (q : Nat) (q1 : Nat) (q2 : Nat) (q3 : Nat) (q4 : Nat) (q5 : Nat) (q6 : Nat) (q7 : Nat) (q8 : Nat) (q9 : Nat) (q10 : Nat) (q11 : Nat) (q12 : Nat) (q13 : Nat) (q14 : Nat) (q15 : Nat) (q16 : Nat) (q17 : Nat) (q18 : Nat) (q19 : Nat) (q20 : Nat) (q21 : Nat) (q22 : Nat) (q23 : Nat) : Nat → Nat := fun k => ([q, q1, q2, q3, q4, q5, q6, q7, q8, q9, q10, q11, q12, q13, q14, q15, q16, q17, q18, q19, q20, q21, q22, q23] : List Nat).getD k 0
set_option maxRecDepth 20000 in
theorem seg_Model (F : Nat → Nat × va_E) : F 0 :: (((((((((((((((((((((((([] : va_W) ++ [F 1]) ++ [F 2]) ++ [F 3]) ++ [F 4]) ++ [F 5]) ++ [F 6]) ++ [F 7]) ++ [F 8]) ++ [F 9]) ++ [F 10]) ++ [F 11]) ++ [F 12]) ++ [F 13]) ++ [F 14]) ++ [F 15]) ++ [F 16]) ++ [F 17]) ++ [F 18]) ++ [F 19]) ++ [F 20]) ++ [F 21]) ++ [F 22]) ++ [F 23]) = xseg F 0 24 := by
  simp only [List.nil_append, List.cons_append, List.append_assoc]
  rfl
theorem eO_Model (S : xS) (q : Nat) (q1 : Nat) (q2 : Nat) (q3 : Nat) (q4 : Nat) (q5 : Nat) (q6 : Nat) (q7 : Nat) (q8 : Nat) (q9 : Nat) (q10 : Nat) (q11 : Nat) (q12 : Nat) (q13 : Nat) (q14 : Nat) (q15 : Nat) (q16 : Nat) (q17 : Nat) (q18 : Nat) (q19 : Nat) (q20 : Nat) (q21 : Nat) (q22 : Nat) (q23 : Nat) : ((adR_Model q q1 q2 q3 q4 q5 q6 q7 q8 q9 q10 q11 q12 q13 q14 q15 q16 q17 q18 q19 q20 q21 q22 q23) 0, xcel (adR_Model q q1 q2 q3 q4 q5 q6 q7 q8 q9 q10 q11 q12 q13 q14 q15 q16 q17 q18 q19 q20 q21 q22 q23) S.2.1 mR_Model0 0 (shM 0)) = (q, .inr (11, [.int 0, .ref q1, .int 0, .int 0, .int 0, .int 0, .ref q2, .ref q3, .ref q4, .ref q5, .ref q6, .int 0, .int 0, .int 0, .int 0, .int 0, .int 0, .long 0, .int 0, .int 0, .int 0, .int 0, .ref q7, .ref q8, .int 0, .ref q9, .ref q10, .int ((-1)), .int ((-1)), .int 0, .int 0, .int 0, .ref q11, .ref q12, .ref q13, .int ((-1)), .ref q14, .int ((-1)), .ref q15, .ref q16, .int 0, .int 0, .ref q17, .int 0, .int 0, .int 0, .ref q18, .int 0, .ref q19, .int 0, .int 0, .int 0, .int 0, .int 0, .ref q20, .ref q21, .ref q22, .ref q23])) := by
  rw [sm_0]
  simp [xcel, xfs, xfv, mR_Model0, adR_Model]
theorem eA_Model1 (S : xS) (q : Nat) (q1 : Nat) (q2 : Nat) (q3 : Nat) (q4 : Nat) (q5 : Nat) (q6 : Nat) (q7 : Nat) (q8 : Nat) (q9 : Nat) (q10 : Nat) (q11 : Nat) (q12 : Nat) (q13 : Nat) (q14 : Nat) (q15 : Nat) (q16 : Nat) (q17 : Nat) (q18 : Nat) (q19 : Nat) (q20 : Nat) (q21 : Nat) (q22 : Nat) (q23 : Nat) : ((adR_Model q q1 q2 q3 q4 q5 q6 q7 q8 q9 q10 q11 q12 q13 q14 q15 q16 q17 q18 q19 q20 q21 q22 q23) 1, xcel (adR_Model q q1 q2 q3 q4 q5 q6 q7 q8 q9 q10 q11 q12 q13 q14 q15 q16 q17 q18 q19 q20 q21 q22 q23) S.2.1 mR_Model0 1 (shM 1)) = (q1, .inl (S.2.1 2, 940, .inl (fun _ => 0))) := by
  rw [sm_1]
  rfl
theorem eA_Model2 (S : xS) (q : Nat) (q1 : Nat) (q2 : Nat) (q3 : Nat) (q4 : Nat) (q5 : Nat) (q6 : Nat) (q7 : Nat) (q8 : Nat) (q9 : Nat) (q10 : Nat) (q11 : Nat) (q12 : Nat) (q13 : Nat) (q14 : Nat) (q15 : Nat) (q16 : Nat) (q17 : Nat) (q18 : Nat) (q19 : Nat) (q20 : Nat) (q21 : Nat) (q22 : Nat) (q23 : Nat) : ((adR_Model q q1 q2 q3 q4 q5 q6 q7 q8 q9 q10 q11 q12 q13 q14 q15 q16 q17 q18 q19 q20 q21 q22 q23) 2, xcel (adR_Model q q1 q2 q3 q4 q5 q6 q7 q8 q9 q10 q11 q12 q13 q14 q15 q16 q17 q18 q19 q20 q21 q22 q23) S.2.1 mR_Model0 2 (shM 2)) = (q2, .inl (S.2.1 0, 302, .inl (fun _ => 0))) := by
  rw [sm_2]
  rfl
theorem eA_Model3 (S : xS) (q : Nat) (q1 : Nat) (q2 : Nat) (q3 : Nat) (q4 : Nat) (q5 : Nat) (q6 : Nat) (q7 : Nat) (q8 : Nat) (q9 : Nat) (q10 : Nat) (q11 : Nat) (q12 : Nat) (q13 : Nat) (q14 : Nat) (q15 : Nat) (q16 : Nat) (q17 : Nat) (q18 : Nat) (q19 : Nat) (q20 : Nat) (q21 : Nat) (q22 : Nat) (q23 : Nat) : ((adR_Model q q1 q2 q3 q4 q5 q6 q7 q8 q9 q10 q11 q12 q13 q14 q15 q16 q17 q18 q19 q20 q21 q22 q23) 3, xcel (adR_Model q q1 q2 q3 q4 q5 q6 q7 q8 q9 q10 q11 q12 q13 q14 q15 q16 q17 q18 q19 q20 q21 q22 q23) S.2.1 mR_Model0 3 (shM 3)) = (q3, .inl (S.2.1 0, 97, .inl (fun _ => 0))) := by
  rw [sm_3]
  rfl
theorem eA_Model4 (S : xS) (q : Nat) (q1 : Nat) (q2 : Nat) (q3 : Nat) (q4 : Nat) (q5 : Nat) (q6 : Nat) (q7 : Nat) (q8 : Nat) (q9 : Nat) (q10 : Nat) (q11 : Nat) (q12 : Nat) (q13 : Nat) (q14 : Nat) (q15 : Nat) (q16 : Nat) (q17 : Nat) (q18 : Nat) (q19 : Nat) (q20 : Nat) (q21 : Nat) (q22 : Nat) (q23 : Nat) : ((adR_Model q q1 q2 q3 q4 q5 q6 q7 q8 q9 q10 q11 q12 q13 q14 q15 q16 q17 q18 q19 q20 q21 q22 q23) 4, xcel (adR_Model q q1 q2 q3 q4 q5 q6 q7 q8 q9 q10 q11 q12 q13 q14 q15 q16 q17 q18 q19 q20 q21 q22 q23) S.2.1 mR_Model0 4 (shM 4)) = (q4, .inl (S.2.1 0, 160, .inl (fun _ => 0))) := by
  rw [sm_4]
  rfl
theorem eA_Model5 (S : xS) (q : Nat) (q1 : Nat) (q2 : Nat) (q3 : Nat) (q4 : Nat) (q5 : Nat) (q6 : Nat) (q7 : Nat) (q8 : Nat) (q9 : Nat) (q10 : Nat) (q11 : Nat) (q12 : Nat) (q13 : Nat) (q14 : Nat) (q15 : Nat) (q16 : Nat) (q17 : Nat) (q18 : Nat) (q19 : Nat) (q20 : Nat) (q21 : Nat) (q22 : Nat) (q23 : Nat) : ((adR_Model q q1 q2 q3 q4 q5 q6 q7 q8 q9 q10 q11 q12 q13 q14 q15 q16 q17 q18 q19 q20 q21 q22 q23) 5, xcel (adR_Model q q1 q2 q3 q4 q5 q6 q7 q8 q9 q10 q11 q12 q13 q14 q15 q16 q17 q18 q19 q20 q21 q22 q23) S.2.1 mR_Model0 5 (shM 5)) = (q5, .inl (S.2.1 1, 40, Sum.inr (.inl (fun _ => 0)))) := by
  rw [sm_5]
  rfl
theorem eA_Model6 (S : xS) (q : Nat) (q1 : Nat) (q2 : Nat) (q3 : Nat) (q4 : Nat) (q5 : Nat) (q6 : Nat) (q7 : Nat) (q8 : Nat) (q9 : Nat) (q10 : Nat) (q11 : Nat) (q12 : Nat) (q13 : Nat) (q14 : Nat) (q15 : Nat) (q16 : Nat) (q17 : Nat) (q18 : Nat) (q19 : Nat) (q20 : Nat) (q21 : Nat) (q22 : Nat) (q23 : Nat) : ((adR_Model q q1 q2 q3 q4 q5 q6 q7 q8 q9 q10 q11 q12 q13 q14 q15 q16 q17 q18 q19 q20 q21 q22 q23) 6, xcel (adR_Model q q1 q2 q3 q4 q5 q6 q7 q8 q9 q10 q11 q12 q13 q14 q15 q16 q17 q18 q19 q20 q21 q22 q23) S.2.1 mR_Model0 6 (shM 6)) = (q6, .inl (S.2.1 1, 32, Sum.inr (.inl (fun _ => 0)))) := by
  rw [sm_6]
  rfl
theorem eA_Model7 (S : xS) (q : Nat) (q1 : Nat) (q2 : Nat) (q3 : Nat) (q4 : Nat) (q5 : Nat) (q6 : Nat) (q7 : Nat) (q8 : Nat) (q9 : Nat) (q10 : Nat) (q11 : Nat) (q12 : Nat) (q13 : Nat) (q14 : Nat) (q15 : Nat) (q16 : Nat) (q17 : Nat) (q18 : Nat) (q19 : Nat) (q20 : Nat) (q21 : Nat) (q22 : Nat) (q23 : Nat) : ((adR_Model q q1 q2 q3 q4 q5 q6 q7 q8 q9 q10 q11 q12 q13 q14 q15 q16 q17 q18 q19 q20 q21 q22 q23) 7, xcel (adR_Model q q1 q2 q3 q4 q5 q6 q7 q8 q9 q10 q11 q12 q13 q14 q15 q16 q17 q18 q19 q20 q21 q22 q23) S.2.1 mR_Model0 7 (shM 7)) = (q7, .inl (S.2.1 0, 192, .inl (fun _ => 0))) := by
  rw [sm_7]
  rfl
theorem eA_Model8 (S : xS) (q : Nat) (q1 : Nat) (q2 : Nat) (q3 : Nat) (q4 : Nat) (q5 : Nat) (q6 : Nat) (q7 : Nat) (q8 : Nat) (q9 : Nat) (q10 : Nat) (q11 : Nat) (q12 : Nat) (q13 : Nat) (q14 : Nat) (q15 : Nat) (q16 : Nat) (q17 : Nat) (q18 : Nat) (q19 : Nat) (q20 : Nat) (q21 : Nat) (q22 : Nat) (q23 : Nat) : ((adR_Model q q1 q2 q3 q4 q5 q6 q7 q8 q9 q10 q11 q12 q13 q14 q15 q16 q17 q18 q19 q20 q21 q22 q23) 8, xcel (adR_Model q q1 q2 q3 q4 q5 q6 q7 q8 q9 q10 q11 q12 q13 q14 q15 q16 q17 q18 q19 q20 q21 q22 q23) S.2.1 mR_Model0 8 (shM 8)) = (q8, .inl (S.2.1 0, 24, .inl (fun _ => 0))) := by
  rw [sm_8]
  rfl
theorem eA_Model9 (S : xS) (q : Nat) (q1 : Nat) (q2 : Nat) (q3 : Nat) (q4 : Nat) (q5 : Nat) (q6 : Nat) (q7 : Nat) (q8 : Nat) (q9 : Nat) (q10 : Nat) (q11 : Nat) (q12 : Nat) (q13 : Nat) (q14 : Nat) (q15 : Nat) (q16 : Nat) (q17 : Nat) (q18 : Nat) (q19 : Nat) (q20 : Nat) (q21 : Nat) (q22 : Nat) (q23 : Nat) : ((adR_Model q q1 q2 q3 q4 q5 q6 q7 q8 q9 q10 q11 q12 q13 q14 q15 q16 q17 q18 q19 q20 q21 q22 q23) 9, xcel (adR_Model q q1 q2 q3 q4 q5 q6 q7 q8 q9 q10 q11 q12 q13 q14 q15 q16 q17 q18 q19 q20 q21 q22 q23) S.2.1 mR_Model0 9 (shM 9)) = (q9, .inl (S.2.1 0, 81, .inl (fun _ => 0))) := by
  rw [sm_9]
  rfl
theorem eA_Model10 (S : xS) (q : Nat) (q1 : Nat) (q2 : Nat) (q3 : Nat) (q4 : Nat) (q5 : Nat) (q6 : Nat) (q7 : Nat) (q8 : Nat) (q9 : Nat) (q10 : Nat) (q11 : Nat) (q12 : Nat) (q13 : Nat) (q14 : Nat) (q15 : Nat) (q16 : Nat) (q17 : Nat) (q18 : Nat) (q19 : Nat) (q20 : Nat) (q21 : Nat) (q22 : Nat) (q23 : Nat) : ((adR_Model q q1 q2 q3 q4 q5 q6 q7 q8 q9 q10 q11 q12 q13 q14 q15 q16 q17 q18 q19 q20 q21 q22 q23) 10, xcel (adR_Model q q1 q2 q3 q4 q5 q6 q7 q8 q9 q10 q11 q12 q13 q14 q15 q16 q17 q18 q19 q20 q21 q22 q23) S.2.1 mR_Model0 10 (shM 10)) = (q10, .inl (S.2.1 0, 6, .inl (fun _ => 0))) := by
  rw [sm_10]
  rfl
theorem eA_Model11 (S : xS) (q : Nat) (q1 : Nat) (q2 : Nat) (q3 : Nat) (q4 : Nat) (q5 : Nat) (q6 : Nat) (q7 : Nat) (q8 : Nat) (q9 : Nat) (q10 : Nat) (q11 : Nat) (q12 : Nat) (q13 : Nat) (q14 : Nat) (q15 : Nat) (q16 : Nat) (q17 : Nat) (q18 : Nat) (q19 : Nat) (q20 : Nat) (q21 : Nat) (q22 : Nat) (q23 : Nat) : ((adR_Model q q1 q2 q3 q4 q5 q6 q7 q8 q9 q10 q11 q12 q13 q14 q15 q16 q17 q18 q19 q20 q21 q22 q23) 11, xcel (adR_Model q q1 q2 q3 q4 q5 q6 q7 q8 q9 q10 q11 q12 q13 q14 q15 q16 q17 q18 q19 q20 q21 q22 q23) S.2.1 mR_Model0 11 (shM 11)) = (q11, .inl (S.2.1 0, 36, .inl (fun _ => 0))) := by
  rw [sm_11]
  rfl
theorem eA_Model12 (S : xS) (q : Nat) (q1 : Nat) (q2 : Nat) (q3 : Nat) (q4 : Nat) (q5 : Nat) (q6 : Nat) (q7 : Nat) (q8 : Nat) (q9 : Nat) (q10 : Nat) (q11 : Nat) (q12 : Nat) (q13 : Nat) (q14 : Nat) (q15 : Nat) (q16 : Nat) (q17 : Nat) (q18 : Nat) (q19 : Nat) (q20 : Nat) (q21 : Nat) (q22 : Nat) (q23 : Nat) : ((adR_Model q q1 q2 q3 q4 q5 q6 q7 q8 q9 q10 q11 q12 q13 q14 q15 q16 q17 q18 q19 q20 q21 q22 q23) 12, xcel (adR_Model q q1 q2 q3 q4 q5 q6 q7 q8 q9 q10 q11 q12 q13 q14 q15 q16 q17 q18 q19 q20 q21 q22 q23) S.2.1 mR_Model0 12 (shM 12)) = (q12, .inl (S.2.1 0, 448, .inl (fun _ => 0))) := by
  rw [sm_12]
  rfl
theorem eA_Model13 (S : xS) (q : Nat) (q1 : Nat) (q2 : Nat) (q3 : Nat) (q4 : Nat) (q5 : Nat) (q6 : Nat) (q7 : Nat) (q8 : Nat) (q9 : Nat) (q10 : Nat) (q11 : Nat) (q12 : Nat) (q13 : Nat) (q14 : Nat) (q15 : Nat) (q16 : Nat) (q17 : Nat) (q18 : Nat) (q19 : Nat) (q20 : Nat) (q21 : Nat) (q22 : Nat) (q23 : Nat) : ((adR_Model q q1 q2 q3 q4 q5 q6 q7 q8 q9 q10 q11 q12 q13 q14 q15 q16 q17 q18 q19 q20 q21 q22 q23) 13, xcel (adR_Model q q1 q2 q3 q4 q5 q6 q7 q8 q9 q10 q11 q12 q13 q14 q15 q16 q17 q18 q19 q20 q21 q22 q23) S.2.1 mR_Model0 13 (shM 13)) = (q13, .inl (S.2.1 0, 6, .inl (fun _ => 0))) := by
  rw [sm_13]
  rfl
theorem eA_Model14 (S : xS) (q : Nat) (q1 : Nat) (q2 : Nat) (q3 : Nat) (q4 : Nat) (q5 : Nat) (q6 : Nat) (q7 : Nat) (q8 : Nat) (q9 : Nat) (q10 : Nat) (q11 : Nat) (q12 : Nat) (q13 : Nat) (q14 : Nat) (q15 : Nat) (q16 : Nat) (q17 : Nat) (q18 : Nat) (q19 : Nat) (q20 : Nat) (q21 : Nat) (q22 : Nat) (q23 : Nat) : ((adR_Model q q1 q2 q3 q4 q5 q6 q7 q8 q9 q10 q11 q12 q13 q14 q15 q16 q17 q18 q19 q20 q21 q22 q23) 14, xcel (adR_Model q q1 q2 q3 q4 q5 q6 q7 q8 q9 q10 q11 q12 q13 q14 q15 q16 q17 q18 q19 q20 q21 q22 q23) S.2.1 mR_Model0 14 (shM 14)) = (q14, .inl (S.2.1 0, 8, .inl (fun _ => 0))) := by
  rw [sm_14]
  rfl
theorem eA_Model15 (S : xS) (q : Nat) (q1 : Nat) (q2 : Nat) (q3 : Nat) (q4 : Nat) (q5 : Nat) (q6 : Nat) (q7 : Nat) (q8 : Nat) (q9 : Nat) (q10 : Nat) (q11 : Nat) (q12 : Nat) (q13 : Nat) (q14 : Nat) (q15 : Nat) (q16 : Nat) (q17 : Nat) (q18 : Nat) (q19 : Nat) (q20 : Nat) (q21 : Nat) (q22 : Nat) (q23 : Nat) : ((adR_Model q q1 q2 q3 q4 q5 q6 q7 q8 q9 q10 q11 q12 q13 q14 q15 q16 q17 q18 q19 q20 q21 q22 q23) 15, xcel (adR_Model q q1 q2 q3 q4 q5 q6 q7 q8 q9 q10 q11 q12 q13 q14 q15 q16 q17 q18 q19 q20 q21 q22 q23) S.2.1 mR_Model0 15 (shM 15)) = (q15, .inl (S.2.1 3, 256, .inl (fun _ => 0))) := by
  rw [sm_15]
  rfl
theorem eA_Model16 (S : xS) (q : Nat) (q1 : Nat) (q2 : Nat) (q3 : Nat) (q4 : Nat) (q5 : Nat) (q6 : Nat) (q7 : Nat) (q8 : Nat) (q9 : Nat) (q10 : Nat) (q11 : Nat) (q12 : Nat) (q13 : Nat) (q14 : Nat) (q15 : Nat) (q16 : Nat) (q17 : Nat) (q18 : Nat) (q19 : Nat) (q20 : Nat) (q21 : Nat) (q22 : Nat) (q23 : Nat) : ((adR_Model q q1 q2 q3 q4 q5 q6 q7 q8 q9 q10 q11 q12 q13 q14 q15 q16 q17 q18 q19 q20 q21 q22 q23) 16, xcel (adR_Model q q1 q2 q3 q4 q5 q6 q7 q8 q9 q10 q11 q12 q13 q14 q15 q16 q17 q18 q19 q20 q21 q22 q23) S.2.1 mR_Model0 16 (shM 16)) = (q16, .inl (S.2.1 3, 256, .inl (fun _ => 0))) := by
  rw [sm_16]
  rfl
theorem eA_Model17 (S : xS) (q : Nat) (q1 : Nat) (q2 : Nat) (q3 : Nat) (q4 : Nat) (q5 : Nat) (q6 : Nat) (q7 : Nat) (q8 : Nat) (q9 : Nat) (q10 : Nat) (q11 : Nat) (q12 : Nat) (q13 : Nat) (q14 : Nat) (q15 : Nat) (q16 : Nat) (q17 : Nat) (q18 : Nat) (q19 : Nat) (q20 : Nat) (q21 : Nat) (q22 : Nat) (q23 : Nat) : ((adR_Model q q1 q2 q3 q4 q5 q6 q7 q8 q9 q10 q11 q12 q13 q14 q15 q16 q17 q18 q19 q20 q21 q22 q23) 17, xcel (adR_Model q q1 q2 q3 q4 q5 q6 q7 q8 q9 q10 q11 q12 q13 q14 q15 q16 q17 q18 q19 q20 q21 q22 q23) S.2.1 mR_Model0 17 (shM 17)) = (q17, .inl (S.2.1 2, 48, .inl (fun _ => 0))) := by
  rw [sm_17]
  rfl
theorem eA_Model18 (S : xS) (q : Nat) (q1 : Nat) (q2 : Nat) (q3 : Nat) (q4 : Nat) (q5 : Nat) (q6 : Nat) (q7 : Nat) (q8 : Nat) (q9 : Nat) (q10 : Nat) (q11 : Nat) (q12 : Nat) (q13 : Nat) (q14 : Nat) (q15 : Nat) (q16 : Nat) (q17 : Nat) (q18 : Nat) (q19 : Nat) (q20 : Nat) (q21 : Nat) (q22 : Nat) (q23 : Nat) : ((adR_Model q q1 q2 q3 q4 q5 q6 q7 q8 q9 q10 q11 q12 q13 q14 q15 q16 q17 q18 q19 q20 q21 q22 q23) 18, xcel (adR_Model q q1 q2 q3 q4 q5 q6 q7 q8 q9 q10 q11 q12 q13 q14 q15 q16 q17 q18 q19 q20 q21 q22 q23) S.2.1 mR_Model0 18 (shM 18)) = (q18, .inl (S.2.1 0, 4, .inl (fun _ => 0))) := by
  rw [sm_18]
  rfl
theorem eA_Model19 (S : xS) (q : Nat) (q1 : Nat) (q2 : Nat) (q3 : Nat) (q4 : Nat) (q5 : Nat) (q6 : Nat) (q7 : Nat) (q8 : Nat) (q9 : Nat) (q10 : Nat) (q11 : Nat) (q12 : Nat) (q13 : Nat) (q14 : Nat) (q15 : Nat) (q16 : Nat) (q17 : Nat) (q18 : Nat) (q19 : Nat) (q20 : Nat) (q21 : Nat) (q22 : Nat) (q23 : Nat) : ((adR_Model q q1 q2 q3 q4 q5 q6 q7 q8 q9 q10 q11 q12 q13 q14 q15 q16 q17 q18 q19 q20 q21 q22 q23) 19, xcel (adR_Model q q1 q2 q3 q4 q5 q6 q7 q8 q9 q10 q11 q12 q13 q14 q15 q16 q17 q18 q19 q20 q21 q22 q23) S.2.1 mR_Model0 19 (shM 19)) = (q19, .inl (S.2.1 0, 45, .inl (fun _ => 0))) := by
  rw [sm_19]
  rfl
theorem eA_Model20 (S : xS) (q : Nat) (q1 : Nat) (q2 : Nat) (q3 : Nat) (q4 : Nat) (q5 : Nat) (q6 : Nat) (q7 : Nat) (q8 : Nat) (q9 : Nat) (q10 : Nat) (q11 : Nat) (q12 : Nat) (q13 : Nat) (q14 : Nat) (q15 : Nat) (q16 : Nat) (q17 : Nat) (q18 : Nat) (q19 : Nat) (q20 : Nat) (q21 : Nat) (q22 : Nat) (q23 : Nat) : ((adR_Model q q1 q2 q3 q4 q5 q6 q7 q8 q9 q10 q11 q12 q13 q14 q15 q16 q17 q18 q19 q20 q21 q22 q23) 20, xcel (adR_Model q q1 q2 q3 q4 q5 q6 q7 q8 q9 q10 q11 q12 q13 q14 q15 q16 q17 q18 q19 q20 q21 q22 q23) S.2.1 mR_Model0 20 (shM 20)) = (q20, .inl (S.2.1 3, 45, .inl (fun _ => 0))) := by
  rw [sm_20]
  rfl
theorem eA_Model21 (S : xS) (q : Nat) (q1 : Nat) (q2 : Nat) (q3 : Nat) (q4 : Nat) (q5 : Nat) (q6 : Nat) (q7 : Nat) (q8 : Nat) (q9 : Nat) (q10 : Nat) (q11 : Nat) (q12 : Nat) (q13 : Nat) (q14 : Nat) (q15 : Nat) (q16 : Nat) (q17 : Nat) (q18 : Nat) (q19 : Nat) (q20 : Nat) (q21 : Nat) (q22 : Nat) (q23 : Nat) : ((adR_Model q q1 q2 q3 q4 q5 q6 q7 q8 q9 q10 q11 q12 q13 q14 q15 q16 q17 q18 q19 q20 q21 q22 q23) 21, xcel (adR_Model q q1 q2 q3 q4 q5 q6 q7 q8 q9 q10 q11 q12 q13 q14 q15 q16 q17 q18 q19 q20 q21 q22 q23) S.2.1 mR_Model0 21 (shM 21)) = (q21, .inl (S.2.1 0, 604, .inl (fun _ => 0))) := by
  rw [sm_21]
  rfl
theorem eA_Model22 (S : xS) (q : Nat) (q1 : Nat) (q2 : Nat) (q3 : Nat) (q4 : Nat) (q5 : Nat) (q6 : Nat) (q7 : Nat) (q8 : Nat) (q9 : Nat) (q10 : Nat) (q11 : Nat) (q12 : Nat) (q13 : Nat) (q14 : Nat) (q15 : Nat) (q16 : Nat) (q17 : Nat) (q18 : Nat) (q19 : Nat) (q20 : Nat) (q21 : Nat) (q22 : Nat) (q23 : Nat) : ((adR_Model q q1 q2 q3 q4 q5 q6 q7 q8 q9 q10 q11 q12 q13 q14 q15 q16 q17 q18 q19 q20 q21 q22 q23) 22, xcel (adR_Model q q1 q2 q3 q4 q5 q6 q7 q8 q9 q10 q11 q12 q13 q14 q15 q16 q17 q18 q19 q20 q21 q22 q23) S.2.1 mR_Model0 22 (shM 22)) = (q22, .inl (S.2.1 1, 40, Sum.inr (.inl (fun _ => 0)))) := by
  rw [sm_22]
  rfl
theorem eA_Model23 (S : xS) (q : Nat) (q1 : Nat) (q2 : Nat) (q3 : Nat) (q4 : Nat) (q5 : Nat) (q6 : Nat) (q7 : Nat) (q8 : Nat) (q9 : Nat) (q10 : Nat) (q11 : Nat) (q12 : Nat) (q13 : Nat) (q14 : Nat) (q15 : Nat) (q16 : Nat) (q17 : Nat) (q18 : Nat) (q19 : Nat) (q20 : Nat) (q21 : Nat) (q22 : Nat) (q23 : Nat) : ((adR_Model q q1 q2 q3 q4 q5 q6 q7 q8 q9 q10 q11 q12 q13 q14 q15 q16 q17 q18 q19 q20 q21 q22 q23) 23, xcel (adR_Model q q1 q2 q3 q4 q5 q6 q7 q8 q9 q10 q11 q12 q13 q14 q15 q16 q17 q18 q19 q20 q21 q22 q23) S.2.1 mR_Model0 23 (shM 23)) = (q23, .inl (S.2.1 3, 2, .inl (fun _ => 0))) := by
  rw [sm_23]
  rfl
theorem eW_Model (S : xS) (q : Nat) (q1 : Nat) (q2 : Nat) (q3 : Nat) (q4 : Nat) (q5 : Nat) (q6 : Nat) (q7 : Nat) (q8 : Nat) (q9 : Nat) (q10 : Nat) (q11 : Nat) (q12 : Nat) (q13 : Nat) (q14 : Nat) (q15 : Nat) (q16 : Nat) (q17 : Nat) (q18 : Nat) (q19 : Nat) (q20 : Nat) (q21 : Nat) (q22 : Nat) (q23 : Nat) : ((q, .inr (11, [.int 0, .ref q1, .int 0, .int 0, .int 0, .int 0, .ref q2, .ref q3, .ref q4, .ref q5, .ref q6, .int 0, .int 0, .int 0, .int 0, .int 0, .int 0, .long 0, .int 0, .int 0, .int 0, .int 0, .ref q7, .ref q8, .int 0, .ref q9, .ref q10, .int ((-1)), .int ((-1)), .int 0, .int 0, .int 0, .ref q11, .ref q12, .ref q13, .int ((-1)), .ref q14, .int ((-1)), .ref q15, .ref q16, .int 0, .int 0, .ref q17, .int 0, .int 0, .int 0, .ref q18, .int 0, .ref q19, .int 0, .int 0, .int 0, .int 0, .int 0, .ref q20, .ref q21, .ref q22, .ref q23])) : Nat × va_E) :: (((((((((((((((((((((((([] : va_W) ++ ([(q1, .inl (S.2.1 2, 940, .inl (fun _ => 0)))] : va_W)) ++ ([(q2, .inl (S.2.1 0, 302, .inl (fun _ => 0)))] : va_W)) ++ ([(q3, .inl (S.2.1 0, 97, .inl (fun _ => 0)))] : va_W)) ++ ([(q4, .inl (S.2.1 0, 160, .inl (fun _ => 0)))] : va_W)) ++ ([(q5, .inl (S.2.1 1, 40, Sum.inr (.inl (fun _ => 0))))] : va_W)) ++ ([(q6, .inl (S.2.1 1, 32, Sum.inr (.inl (fun _ => 0))))] : va_W)) ++ ([(q7, .inl (S.2.1 0, 192, .inl (fun _ => 0)))] : va_W)) ++ ([(q8, .inl (S.2.1 0, 24, .inl (fun _ => 0)))] : va_W)) ++ ([(q9, .inl (S.2.1 0, 81, .inl (fun _ => 0)))] : va_W)) ++ ([(q10, .inl (S.2.1 0, 6, .inl (fun _ => 0)))] : va_W)) ++ ([(q11, .inl (S.2.1 0, 36, .inl (fun _ => 0)))] : va_W)) ++ ([(q12, .inl (S.2.1 0, 448, .inl (fun _ => 0)))] : va_W)) ++ ([(q13, .inl (S.2.1 0, 6, .inl (fun _ => 0)))] : va_W)) ++ ([(q14, .inl (S.2.1 0, 8, .inl (fun _ => 0)))] : va_W)) ++ ([(q15, .inl (S.2.1 3, 256, .inl (fun _ => 0)))] : va_W)) ++ ([(q16, .inl (S.2.1 3, 256, .inl (fun _ => 0)))] : va_W)) ++ ([(q17, .inl (S.2.1 2, 48, .inl (fun _ => 0)))] : va_W)) ++ ([(q18, .inl (S.2.1 0, 4, .inl (fun _ => 0)))] : va_W)) ++ ([(q19, .inl (S.2.1 0, 45, .inl (fun _ => 0)))] : va_W)) ++ ([(q20, .inl (S.2.1 3, 45, .inl (fun _ => 0)))] : va_W)) ++ ([(q21, .inl (S.2.1 0, 604, .inl (fun _ => 0)))] : va_W)) ++ ([(q22, .inl (S.2.1 1, 40, Sum.inr (.inl (fun _ => 0))))] : va_W)) ++ ([(q23, .inl (S.2.1 3, 2, .inl (fun _ => 0)))] : va_W)) = xwd (S, shM, 24, (adR_Model q q1 q2 q3 q4 q5 q6 q7 q8 q9 q10 q11 q12 q13 q14 q15 q16 q17 q18 q19 q20 q21 q22 q23)) mR_Model0 := by
  rw [← eO_Model S q q1 q2 q3 q4 q5 q6 q7 q8 q9 q10 q11 q12 q13 q14 q15 q16 q17 q18 q19 q20 q21 q22 q23, ← eA_Model1 S q q1 q2 q3 q4 q5 q6 q7 q8 q9 q10 q11 q12 q13 q14 q15 q16 q17 q18 q19 q20 q21 q22 q23, ← eA_Model2 S q q1 q2 q3 q4 q5 q6 q7 q8 q9 q10 q11 q12 q13 q14 q15 q16 q17 q18 q19 q20 q21 q22 q23, ← eA_Model3 S q q1 q2 q3 q4 q5 q6 q7 q8 q9 q10 q11 q12 q13 q14 q15 q16 q17 q18 q19 q20 q21 q22 q23, ← eA_Model4 S q q1 q2 q3 q4 q5 q6 q7 q8 q9 q10 q11 q12 q13 q14 q15 q16 q17 q18 q19 q20 q21 q22 q23, ← eA_Model5 S q q1 q2 q3 q4 q5 q6 q7 q8 q9 q10 q11 q12 q13 q14 q15 q16 q17 q18 q19 q20 q21 q22 q23, ← eA_Model6 S q q1 q2 q3 q4 q5 q6 q7 q8 q9 q10 q11 q12 q13 q14 q15 q16 q17 q18 q19 q20 q21 q22 q23, ← eA_Model7 S q q1 q2 q3 q4 q5 q6 q7 q8 q9 q10 q11 q12 q13 q14 q15 q16 q17 q18 q19 q20 q21 q22 q23, ← eA_Model8 S q q1 q2 q3 q4 q5 q6 q7 q8 q9 q10 q11 q12 q13 q14 q15 q16 q17 q18 q19 q20 q21 q22 q23, ← eA_Model9 S q q1 q2 q3 q4 q5 q6 q7 q8 q9 q10 q11 q12 q13 q14 q15 q16 q17 q18 q19 q20 q21 q22 q23, ← eA_Model10 S q q1 q2 q3 q4 q5 q6 q7 q8 q9 q10 q11 q12 q13 q14 q15 q16 q17 q18 q19 q20 q21 q22 q23, ← eA_Model11 S q q1 q2 q3 q4 q5 q6 q7 q8 q9 q10 q11 q12 q13 q14 q15 q16 q17 q18 q19 q20 q21 q22 q23, ← eA_Model12 S q q1 q2 q3 q4 q5 q6 q7 q8 q9 q10 q11 q12 q13 q14 q15 q16 q17 q18 q19 q20 q21 q22 q23, ← eA_Model13 S q q1 q2 q3 q4 q5 q6 q7 q8 q9 q10 q11 q12 q13 q14 q15 q16 q17 q18 q19 q20 q21 q22 q23, ← eA_Model14 S q q1 q2 q3 q4 q5 q6 q7 q8 q9 q10 q11 q12 q13 q14 q15 q16 q17 q18 q19 q20 q21 q22 q23, ← eA_Model15 S q q1 q2 q3 q4 q5 q6 q7 q8 q9 q10 q11 q12 q13 q14 q15 q16 q17 q18 q19 q20 q21 q22 q23, ← eA_Model16 S q q1 q2 q3 q4 q5 q6 q7 q8 q9 q10 q11 q12 q13 q14 q15 q16 q17 q18 q19 q20 q21 q22 q23, ← eA_Model17 S q q1 q2 q3 q4 q5 q6 q7 q8 q9 q10 q11 q12 q13 q14 q15 q16 q17 q18 q19 q20 q21 q22 q23, ← eA_Model18 S q q1 q2 q3 q4 q5 q6 q7 q8 q9 q10 q11 q12 q13 q14 q15 q16 q17 q18 q19 q20 q21 q22 q23, ← eA_Model19 S q q1 q2 q3 q4 q5 q6 q7 q8 q9 q10 q11 q12 q13 q14 q15 q16 q17 q18 q19 q20 q21 q22 q23, ← eA_Model20 S q q1 q2 q3 q4 q5 q6 q7 q8 q9 q10 q11 q12 q13 q14 q15 q16 q17 q18 q19 q20 q21 q22 q23, ← eA_Model21 S q q1 q2 q3 q4 q5 q6 q7 q8 q9 q10 q11 q12 q13 q14 q15 q16 q17 q18 q19 q20 q21 q22 q23, ← eA_Model22 S q q1 q2 q3 q4 q5 q6 q7 q8 q9 q10 q11 q12 q13 q14 q15 q16 q17 q18 q19 q20 q21 q22 q23, ← eA_Model23 S q q1 q2 q3 q4 q5 q6 q7 q8 q9 q10 q11 q12 q13 q14 q15 q16 q17 q18 q19 q20 q21 q22 q23]
  rw [xwd_seg]
  exact seg_Model (fun k => ((adR_Model q q1 q2 q3 q4 q5 q6 q7 q8 q9 q10 q11 q12 q13 q14 q15 q16 q17 q18 q19 q20 q21 q22 q23) k, xcel (adR_Model q q1 q2 q3 q4 q5 q6 q7 q8 q9 q10 q11 q12 q13 q14 q15 q16 q17 q18 q19 q20 q21 q22 q23) S.2.1 mR_Model0 k (shM k)))
theorem y_Model (l : Launch) (S : xS) : yCt l S yX12_init cX12_init 2 rm_y_Model 11 blX12 [] 23 3672 shM 24 mR_Model (fun _ => True) := by
  refine yCt_of (own := RX12) (lv := fun q => [(0, .ref q)]) (by decide) rfl rfl (fun q => Nat.le_of_ble_eq_true rfl) (fun q => rfl) (fun E q sz g cn => ?_)
  show Xg E _ 0 [(0, .ref q)] [] _ _
  refine x_aload_n (pc := 0) (i := 0) (a := 0) g dX12_init_0 rfl rfl ?_
  refine y_obj (pc := 1) g dX12_init_1 w_6_27 objW ⟨by decide, Nat.le_of_ble_eq_true rfl⟩ ?_
  refine x_aload_n (pc := 4) (i := 0) (a := 0) g dX12_init_4 rfl rfl ?_
  refine x_sipush (pc := 5) g dX12_init_5 si_940 ?_
  refine y_newa (pc := 8) (ty := .byte) (t := 2) (N' := 940) (b := .inl (fun _ => 0)) g cn dX12_init_8 w_1_156 rfl rfl (fun _ => rfl) (by decide) (Nat.le_of_ble_eq_true rfl) ⟨Nat.le_of_ble_eq_true rfl, Nat.le_of_ble_eq_true rfl⟩ (fun E g cn q1 => ?_)
  refine y_cons ?_
  refine y_putRE (pc := 10) (fs' := [.int 0, .ref q1, .int 0, .int 0, .int 0, .int 0, .null, .null, .null, .null, .null, .int 0, .int 0, .int 0, .int 0, .int 0, .int 0, .long 0, .int 0, .int 0, .int 0, .int 0, .null, .null, .int 0, .null, .null, .int 0, .int 0, .int 0, .int 0, .int 0, .null, .null, .null, .int 0, .null, .int 0, .null, .null, .int 0, .int 0, .null, .int 0, .int 0, .int 0, .null, .int 0, .null, .int 0, .int 0, .int 0, .int 0, .int 0, .null, .null, .null, .null]) g cn dX12_init_10 fr_12_14 (Nat.le_of_ble_eq_true rfl) rfl ?_
  refine x_aload_n (pc := 13) (i := 0) (a := 0) g dX12_init_13 rfl rfl ?_
  refine x_sipush (pc := 14) g dX12_init_14 si_302 ?_
  refine y_newa (pc := 17) (ty := .int) (t := 0) (N' := 302) (b := .inl (fun _ => 0)) g cn dX12_init_17 w_1_51 rfl rfl (fun _ => rfl) (by decide) (Nat.le_of_ble_eq_true rfl) ⟨Nat.le_of_ble_eq_true rfl, Nat.le_of_ble_eq_true rfl⟩ (fun E g cn q2 => ?_)
  refine y_cons ?_
  refine y_putRE (pc := 19) (fs' := [.int 0, .ref q1, .int 0, .int 0, .int 0, .int 0, .ref q2, .null, .null, .null, .null, .int 0, .int 0, .int 0, .int 0, .int 0, .int 0, .long 0, .int 0, .int 0, .int 0, .int 0, .null, .null, .int 0, .null, .null, .int 0, .int 0, .int 0, .int 0, .int 0, .null, .null, .null, .int 0, .null, .int 0, .null, .null, .int 0, .int 0, .null, .int 0, .int 0, .int 0, .null, .int 0, .null, .int 0, .int 0, .int 0, .int 0, .int 0, .null, .null, .null, .null]) g cn dX12_init_19 fr_12_33 (Nat.le_of_ble_eq_true rfl) rfl ?_
  refine x_aload_n (pc := 22) (i := 0) (a := 0) g dX12_init_22 rfl rfl ?_
  refine x_bipush (pc := 23) g dX12_init_23 bi_97 ?_
  refine y_newa (pc := 25) (ty := .int) (t := 0) (N' := 97) (b := .inl (fun _ => 0)) g cn dX12_init_25 w_1_51 rfl rfl (fun _ => rfl) (by decide) (Nat.le_of_ble_eq_true rfl) ⟨Nat.le_of_ble_eq_true rfl, Nat.le_of_ble_eq_true rfl⟩ (fun E g cn q3 => ?_)
  refine y_cons ?_
  refine y_putRE (pc := 27) (fs' := [.int 0, .ref q1, .int 0, .int 0, .int 0, .int 0, .ref q2, .ref q3, .null, .null, .null, .int 0, .int 0, .int 0, .int 0, .int 0, .int 0, .long 0, .int 0, .int 0, .int 0, .int 0, .null, .null, .int 0, .null, .null, .int 0, .int 0, .int 0, .int 0, .int 0, .null, .null, .null, .int 0, .null, .int 0, .null, .null, .int 0, .int 0, .null, .int 0, .int 0, .int 0, .null, .int 0, .null, .int 0, .int 0, .int 0, .int 0, .int 0, .null, .null, .null, .null]) g cn dX12_init_27 fr_12_37 (Nat.le_of_ble_eq_true rfl) rfl ?_
  refine x_aload_n (pc := 30) (i := 0) (a := 0) g dX12_init_30 rfl rfl ?_
  refine x_sipush (pc := 31) g dX12_init_31 si_160 ?_
  refine y_newa (pc := 34) (ty := .int) (t := 0) (N' := 160) (b := .inl (fun _ => 0)) g cn dX12_init_34 w_1_51 rfl rfl (fun _ => rfl) (by decide) (Nat.le_of_ble_eq_true rfl) ⟨Nat.le_of_ble_eq_true rfl, Nat.le_of_ble_eq_true rfl⟩ (fun E g cn q4 => ?_)
  refine y_cons ?_
  refine y_putRE (pc := 36) (fs' := [.int 0, .ref q1, .int 0, .int 0, .int 0, .int 0, .ref q2, .ref q3, .ref q4, .null, .null, .int 0, .int 0, .int 0, .int 0, .int 0, .int 0, .long 0, .int 0, .int 0, .int 0, .int 0, .null, .null, .int 0, .null, .null, .int 0, .int 0, .int 0, .int 0, .int 0, .null, .null, .null, .int 0, .null, .int 0, .null, .null, .int 0, .int 0, .null, .int 0, .int 0, .int 0, .null, .int 0, .null, .int 0, .int 0, .int 0, .int 0, .int 0, .null, .null, .null, .null]) g cn dX12_init_36 fr_12_40 (Nat.le_of_ble_eq_true rfl) rfl ?_
  refine x_aload_n (pc := 39) (i := 0) (a := 0) g dX12_init_39 rfl rfl ?_
  refine x_bipush (pc := 40) g dX12_init_40 bi_40 ?_
  refine y_newa (pc := 42) (ty := .long) (t := 1) (N' := 40) (b := .inr (.inl (fun _ => 0))) g cn dX12_init_42 w_1_155 rfl rfl (fun _ => rfl) (by decide) (Nat.le_of_ble_eq_true rfl) ⟨Nat.le_of_ble_eq_true rfl, Nat.le_of_ble_eq_true rfl⟩ (fun E g cn q5 => ?_)
  refine y_cons ?_
  refine y_putRE (pc := 44) (fs' := [.int 0, .ref q1, .int 0, .int 0, .int 0, .int 0, .ref q2, .ref q3, .ref q4, .ref q5, .null, .int 0, .int 0, .int 0, .int 0, .int 0, .int 0, .long 0, .int 0, .int 0, .int 0, .int 0, .null, .null, .int 0, .null, .null, .int 0, .int 0, .int 0, .int 0, .int 0, .null, .null, .null, .int 0, .null, .int 0, .null, .null, .int 0, .int 0, .null, .int 0, .int 0, .int 0, .null, .int 0, .null, .int 0, .int 0, .int 0, .int 0, .int 0, .null, .null, .null, .null]) g cn dX12_init_44 fr_12_43 (Nat.le_of_ble_eq_true rfl) rfl ?_
  refine x_aload_n (pc := 47) (i := 0) (a := 0) g dX12_init_47 rfl rfl ?_
  refine x_bipush (pc := 48) g dX12_init_48 bi_32 ?_
  refine y_newa (pc := 50) (ty := .long) (t := 1) (N' := 32) (b := .inr (.inl (fun _ => 0))) g cn dX12_init_50 w_1_155 rfl rfl (fun _ => rfl) (by decide) (Nat.le_of_ble_eq_true rfl) ⟨Nat.le_of_ble_eq_true rfl, Nat.le_of_ble_eq_true rfl⟩ (fun E g cn q6 => ?_)
  refine y_cons ?_
  refine y_putRE (pc := 52) (fs' := [.int 0, .ref q1, .int 0, .int 0, .int 0, .int 0, .ref q2, .ref q3, .ref q4, .ref q5, .ref q6, .int 0, .int 0, .int 0, .int 0, .int 0, .int 0, .long 0, .int 0, .int 0, .int 0, .int 0, .null, .null, .int 0, .null, .null, .int 0, .int 0, .int 0, .int 0, .int 0, .null, .null, .null, .int 0, .null, .int 0, .null, .null, .int 0, .int 0, .null, .int 0, .int 0, .int 0, .null, .int 0, .null, .int 0, .int 0, .int 0, .int 0, .int 0, .null, .null, .null, .null]) g cn dX12_init_52 fr_12_47 (Nat.le_of_ble_eq_true rfl) rfl ?_
  refine x_aload_n (pc := 55) (i := 0) (a := 0) g dX12_init_55 rfl rfl ?_
  refine x_sipush (pc := 56) g dX12_init_56 si_192 ?_
  refine y_newa (pc := 59) (ty := .int) (t := 0) (N' := 192) (b := .inl (fun _ => 0)) g cn dX12_init_59 w_1_51 rfl rfl (fun _ => rfl) (by decide) (Nat.le_of_ble_eq_true rfl) ⟨Nat.le_of_ble_eq_true rfl, Nat.le_of_ble_eq_true rfl⟩ (fun E g cn q7 => ?_)
  refine y_cons ?_
  refine y_putRE (pc := 61) (fs' := [.int 0, .ref q1, .int 0, .int 0, .int 0, .int 0, .ref q2, .ref q3, .ref q4, .ref q5, .ref q6, .int 0, .int 0, .int 0, .int 0, .int 0, .int 0, .long 0, .int 0, .int 0, .int 0, .int 0, .ref q7, .null, .int 0, .null, .null, .int 0, .int 0, .int 0, .int 0, .int 0, .null, .null, .null, .int 0, .null, .int 0, .null, .null, .int 0, .int 0, .null, .int 0, .int 0, .int 0, .null, .int 0, .null, .int 0, .int 0, .int 0, .int 0, .int 0, .null, .null, .null, .null]) g cn dX12_init_61 fr_12_50 (Nat.le_of_ble_eq_true rfl) rfl ?_
  refine x_aload_n (pc := 64) (i := 0) (a := 0) g dX12_init_64 rfl rfl ?_
  refine x_bipush (pc := 65) g dX12_init_65 bi_24 ?_
  refine y_newa (pc := 67) (ty := .int) (t := 0) (N' := 24) (b := .inl (fun _ => 0)) g cn dX12_init_67 w_1_51 rfl rfl (fun _ => rfl) (by decide) (Nat.le_of_ble_eq_true rfl) ⟨Nat.le_of_ble_eq_true rfl, Nat.le_of_ble_eq_true rfl⟩ (fun E g cn q8 => ?_)
  refine y_cons ?_
  refine y_putRE (pc := 69) (fs' := [.int 0, .ref q1, .int 0, .int 0, .int 0, .int 0, .ref q2, .ref q3, .ref q4, .ref q5, .ref q6, .int 0, .int 0, .int 0, .int 0, .int 0, .int 0, .long 0, .int 0, .int 0, .int 0, .int 0, .ref q7, .ref q8, .int 0, .null, .null, .int 0, .int 0, .int 0, .int 0, .int 0, .null, .null, .null, .int 0, .null, .int 0, .null, .null, .int 0, .int 0, .null, .int 0, .int 0, .int 0, .null, .int 0, .null, .int 0, .int 0, .int 0, .int 0, .int 0, .null, .null, .null, .null]) g cn dX12_init_69 fr_12_53 (Nat.le_of_ble_eq_true rfl) rfl ?_
  refine x_aload_n (pc := 72) (i := 0) (a := 0) g dX12_init_72 rfl rfl ?_
  refine x_bipush (pc := 73) g dX12_init_73 bi_81 ?_
  refine y_newa (pc := 75) (ty := .int) (t := 0) (N' := 81) (b := .inl (fun _ => 0)) g cn dX12_init_75 w_1_51 rfl rfl (fun _ => rfl) (by decide) (Nat.le_of_ble_eq_true rfl) ⟨Nat.le_of_ble_eq_true rfl, Nat.le_of_ble_eq_true rfl⟩ (fun E g cn q9 => ?_)
  refine y_cons ?_
  refine y_putRE (pc := 77) (fs' := [.int 0, .ref q1, .int 0, .int 0, .int 0, .int 0, .ref q2, .ref q3, .ref q4, .ref q5, .ref q6, .int 0, .int 0, .int 0, .int 0, .int 0, .int 0, .long 0, .int 0, .int 0, .int 0, .int 0, .ref q7, .ref q8, .int 0, .ref q9, .null, .int 0, .int 0, .int 0, .int 0, .int 0, .null, .null, .null, .int 0, .null, .int 0, .null, .null, .int 0, .int 0, .null, .int 0, .int 0, .int 0, .null, .int 0, .null, .int 0, .int 0, .int 0, .int 0, .int 0, .null, .null, .null, .null]) g cn dX12_init_77 fr_12_56 (Nat.le_of_ble_eq_true rfl) rfl ?_
  refine x_aload_n (pc := 80) (i := 0) (a := 0) g dX12_init_80 rfl rfl ?_
  refine x_bipush (pc := 81) g dX12_init_81 bi_6 ?_
  refine y_newa (pc := 83) (ty := .int) (t := 0) (N' := 6) (b := .inl (fun _ => 0)) g cn dX12_init_83 w_1_51 rfl rfl (fun _ => rfl) (by decide) (Nat.le_of_ble_eq_true rfl) ⟨Nat.le_of_ble_eq_true rfl, Nat.le_of_ble_eq_true rfl⟩ (fun E g cn q10 => ?_)
  refine y_cons ?_
  refine y_putRE (pc := 85) (fs' := [.int 0, .ref q1, .int 0, .int 0, .int 0, .int 0, .ref q2, .ref q3, .ref q4, .ref q5, .ref q6, .int 0, .int 0, .int 0, .int 0, .int 0, .int 0, .long 0, .int 0, .int 0, .int 0, .int 0, .ref q7, .ref q8, .int 0, .ref q9, .ref q10, .int 0, .int 0, .int 0, .int 0, .int 0, .null, .null, .null, .int 0, .null, .int 0, .null, .null, .int 0, .int 0, .null, .int 0, .int 0, .int 0, .null, .int 0, .null, .int 0, .int 0, .int 0, .int 0, .int 0, .null, .null, .null, .null]) g cn dX12_init_85 fr_12_59 (Nat.le_of_ble_eq_true rfl) rfl ?_
  refine x_aload_n (pc := 88) (i := 0) (a := 0) g dX12_init_88 rfl rfl ?_
  refine x_iconst (pc := 89) g dX12_init_89 ic_m1 ?_
  refine y_putE (pc := 90) (fs' := [.int 0, .ref q1, .int 0, .int 0, .int 0, .int 0, .ref q2, .ref q3, .ref q4, .ref q5, .ref q6, .int 0, .int 0, .int 0, .int 0, .int 0, .int 0, .long 0, .int 0, .int 0, .int 0, .int 0, .ref q7, .ref q8, .int 0, .ref q9, .ref q10, .int ((-1)), .int 0, .int 0, .int 0, .int 0, .null, .null, .null, .int 0, .null, .int 0, .null, .null, .int 0, .int 0, .null, .int 0, .int 0, .int 0, .null, .int 0, .null, .int 0, .int 0, .int 0, .int 0, .int 0, .null, .null, .null, .null]) g dX12_init_90 fl_12_62 ft_12_27 ⟨rfl, rfl⟩ (Nat.le_of_ble_eq_true rfl) rfl ?_
  refine x_aload_n (pc := 93) (i := 0) (a := 0) g dX12_init_93 rfl rfl ?_
  refine x_iconst (pc := 94) g dX12_init_94 ic_m1 ?_
  refine y_putE (pc := 95) (fs' := [.int 0, .ref q1, .int 0, .int 0, .int 0, .int 0, .ref q2, .ref q3, .ref q4, .ref q5, .ref q6, .int 0, .int 0, .int 0, .int 0, .int 0, .int 0, .long 0, .int 0, .int 0, .int 0, .int 0, .ref q7, .ref q8, .int 0, .ref q9, .ref q10, .int ((-1)), .int ((-1)), .int 0, .int 0, .int 0, .null, .null, .null, .int 0, .null, .int 0, .null, .null, .int 0, .int 0, .null, .int 0, .int 0, .int 0, .null, .int 0, .null, .int 0, .int 0, .int 0, .int 0, .int 0, .null, .null, .null, .null]) g dX12_init_95 fl_12_65 ft_12_28 ⟨rfl, rfl⟩ (Nat.le_of_ble_eq_true rfl) rfl ?_
  refine x_aload_n (pc := 98) (i := 0) (a := 0) g dX12_init_98 rfl rfl ?_
  refine x_bipush (pc := 99) g dX12_init_99 bi_36 ?_
  refine y_newa (pc := 101) (ty := .int) (t := 0) (N' := 36) (b := .inl (fun _ => 0)) g cn dX12_init_101 w_1_51 rfl rfl (fun _ => rfl) (by decide) (Nat.le_of_ble_eq_true rfl) ⟨Nat.le_of_ble_eq_true rfl, Nat.le_of_ble_eq_true rfl⟩ (fun E g cn q11 => ?_)
  refine y_cons ?_
  refine y_putRE (pc := 103) (fs' := [.int 0, .ref q1, .int 0, .int 0, .int 0, .int 0, .ref q2, .ref q3, .ref q4, .ref q5, .ref q6, .int 0, .int 0, .int 0, .int 0, .int 0, .int 0, .long 0, .int 0, .int 0, .int 0, .int 0, .ref q7, .ref q8, .int 0, .ref q9, .ref q10, .int ((-1)), .int ((-1)), .int 0, .int 0, .int 0, .ref q11, .null, .null, .int 0, .null, .int 0, .null, .null, .int 0, .int 0, .null, .int 0, .int 0, .int 0, .null, .int 0, .null, .int 0, .int 0, .int 0, .int 0, .int 0, .null, .null, .null, .null]) g cn dX12_init_103 fr_12_68 (Nat.le_of_ble_eq_true rfl) rfl ?_
  refine x_aload_n (pc := 106) (i := 0) (a := 0) g dX12_init_106 rfl rfl ?_
  refine x_sipush (pc := 107) g dX12_init_107 si_448 ?_
  refine y_newa (pc := 110) (ty := .int) (t := 0) (N' := 448) (b := .inl (fun _ => 0)) g cn dX12_init_110 w_1_51 rfl rfl (fun _ => rfl) (by decide) (Nat.le_of_ble_eq_true rfl) ⟨Nat.le_of_ble_eq_true rfl, Nat.le_of_ble_eq_true rfl⟩ (fun E g cn q12 => ?_)
  refine y_cons ?_
  refine y_putRE (pc := 112) (fs' := [.int 0, .ref q1, .int 0, .int 0, .int 0, .int 0, .ref q2, .ref q3, .ref q4, .ref q5, .ref q6, .int 0, .int 0, .int 0, .int 0, .int 0, .int 0, .long 0, .int 0, .int 0, .int 0, .int 0, .ref q7, .ref q8, .int 0, .ref q9, .ref q10, .int ((-1)), .int ((-1)), .int 0, .int 0, .int 0, .ref q11, .ref q12, .null, .int 0, .null, .int 0, .null, .null, .int 0, .int 0, .null, .int 0, .int 0, .int 0, .null, .int 0, .null, .int 0, .int 0, .int 0, .int 0, .int 0, .null, .null, .null, .null]) g cn dX12_init_112 fr_12_71 (Nat.le_of_ble_eq_true rfl) rfl ?_
  refine x_aload_n (pc := 115) (i := 0) (a := 0) g dX12_init_115 rfl rfl ?_
  refine x_bipush (pc := 116) g dX12_init_116 bi_6 ?_
  refine y_newa (pc := 118) (ty := .int) (t := 0) (N' := 6) (b := .inl (fun _ => 0)) g cn dX12_init_118 w_1_51 rfl rfl (fun _ => rfl) (by decide) (Nat.le_of_ble_eq_true rfl) ⟨Nat.le_of_ble_eq_true rfl, Nat.le_of_ble_eq_true rfl⟩ (fun E g cn q13 => ?_)
  refine y_cons ?_
  refine y_putRE (pc := 120) (fs' := [.int 0, .ref q1, .int 0, .int 0, .int 0, .int 0, .ref q2, .ref q3, .ref q4, .ref q5, .ref q6, .int 0, .int 0, .int 0, .int 0, .int 0, .int 0, .long 0, .int 0, .int 0, .int 0, .int 0, .ref q7, .ref q8, .int 0, .ref q9, .ref q10, .int ((-1)), .int ((-1)), .int 0, .int 0, .int 0, .ref q11, .ref q12, .ref q13, .int 0, .null, .int 0, .null, .null, .int 0, .int 0, .null, .int 0, .int 0, .int 0, .null, .int 0, .null, .int 0, .int 0, .int 0, .int 0, .int 0, .null, .null, .null, .null]) g cn dX12_init_120 fr_12_74 (Nat.le_of_ble_eq_true rfl) rfl ?_
  refine x_aload_n (pc := 123) (i := 0) (a := 0) g dX12_init_123 rfl rfl ?_
  refine x_iconst (pc := 124) g dX12_init_124 ic_m1 ?_
  refine y_putE (pc := 125) (fs' := [.int 0, .ref q1, .int 0, .int 0, .int 0, .int 0, .ref q2, .ref q3, .ref q4, .ref q5, .ref q6, .int 0, .int 0, .int 0, .int 0, .int 0, .int 0, .long 0, .int 0, .int 0, .int 0, .int 0, .ref q7, .ref q8, .int 0, .ref q9, .ref q10, .int ((-1)), .int ((-1)), .int 0, .int 0, .int 0, .ref q11, .ref q12, .ref q13, .int ((-1)), .null, .int 0, .null, .null, .int 0, .int 0, .null, .int 0, .int 0, .int 0, .null, .int 0, .null, .int 0, .int 0, .int 0, .int 0, .int 0, .null, .null, .null, .null]) g dX12_init_125 fl_12_77 ft_12_35 ⟨rfl, rfl⟩ (Nat.le_of_ble_eq_true rfl) rfl ?_
  refine x_aload_n (pc := 128) (i := 0) (a := 0) g dX12_init_128 rfl rfl ?_
  refine x_bipush (pc := 129) g dX12_init_129 bi_8 ?_
  refine y_newa (pc := 131) (ty := .int) (t := 0) (N' := 8) (b := .inl (fun _ => 0)) g cn dX12_init_131 w_1_51 rfl rfl (fun _ => rfl) (by decide) (Nat.le_of_ble_eq_true rfl) ⟨Nat.le_of_ble_eq_true rfl, Nat.le_of_ble_eq_true rfl⟩ (fun E g cn q14 => ?_)
  refine y_cons ?_
  refine y_putRE (pc := 133) (fs' := [.int 0, .ref q1, .int 0, .int 0, .int 0, .int 0, .ref q2, .ref q3, .ref q4, .ref q5, .ref q6, .int 0, .int 0, .int 0, .int 0, .int 0, .int 0, .long 0, .int 0, .int 0, .int 0, .int 0, .ref q7, .ref q8, .int 0, .ref q9, .ref q10, .int ((-1)), .int ((-1)), .int 0, .int 0, .int 0, .ref q11, .ref q12, .ref q13, .int ((-1)), .ref q14, .int 0, .null, .null, .int 0, .int 0, .null, .int 0, .int 0, .int 0, .null, .int 0, .null, .int 0, .int 0, .int 0, .int 0, .int 0, .null, .null, .null, .null]) g cn dX12_init_133 fr_12_80 (Nat.le_of_ble_eq_true rfl) rfl ?_
  refine x_aload_n (pc := 136) (i := 0) (a := 0) g dX12_init_136 rfl rfl ?_
  refine x_iconst (pc := 137) g dX12_init_137 ic_m1 ?_
  refine y_putE (pc := 138) (fs' := [.int 0, .ref q1, .int 0, .int 0, .int 0, .int 0, .ref q2, .ref q3, .ref q4, .ref q5, .ref q6, .int 0, .int 0, .int 0, .int 0, .int 0, .int 0, .long 0, .int 0, .int 0, .int 0, .int 0, .ref q7, .ref q8, .int 0, .ref q9, .ref q10, .int ((-1)), .int ((-1)), .int 0, .int 0, .int 0, .ref q11, .ref q12, .ref q13, .int ((-1)), .ref q14, .int ((-1)), .null, .null, .int 0, .int 0, .null, .int 0, .int 0, .int 0, .null, .int 0, .null, .int 0, .int 0, .int 0, .int 0, .int 0, .null, .null, .null, .null]) g dX12_init_138 fl_12_83 ft_12_37 ⟨rfl, rfl⟩ (Nat.le_of_ble_eq_true rfl) rfl ?_
  refine x_aload_n (pc := 141) (i := 0) (a := 0) g dX12_init_141 rfl rfl ?_
  refine x_sipush (pc := 142) g dX12_init_142 si_256 ?_
  refine y_newa (pc := 145) (ty := .boolean) (t := 3) (N' := 256) (b := .inl (fun _ => 0)) g cn dX12_init_145 w_2_95 rfl rfl (fun _ => rfl) (by decide) (Nat.le_of_ble_eq_true rfl) ⟨Nat.le_of_ble_eq_true rfl, Nat.le_of_ble_eq_true rfl⟩ (fun E g cn q15 => ?_)
  refine y_cons ?_
  refine y_putRE (pc := 147) (fs' := [.int 0, .ref q1, .int 0, .int 0, .int 0, .int 0, .ref q2, .ref q3, .ref q4, .ref q5, .ref q6, .int 0, .int 0, .int 0, .int 0, .int 0, .int 0, .long 0, .int 0, .int 0, .int 0, .int 0, .ref q7, .ref q8, .int 0, .ref q9, .ref q10, .int ((-1)), .int ((-1)), .int 0, .int 0, .int 0, .ref q11, .ref q12, .ref q13, .int ((-1)), .ref q14, .int ((-1)), .ref q15, .null, .int 0, .int 0, .null, .int 0, .int 0, .int 0, .null, .int 0, .null, .int 0, .int 0, .int 0, .int 0, .int 0, .null, .null, .null, .null]) g cn dX12_init_147 fr_12_86 (Nat.le_of_ble_eq_true rfl) rfl ?_
  refine x_aload_n (pc := 150) (i := 0) (a := 0) g dX12_init_150 rfl rfl ?_
  refine x_sipush (pc := 151) g dX12_init_151 si_256 ?_
  refine y_newa (pc := 154) (ty := .boolean) (t := 3) (N' := 256) (b := .inl (fun _ => 0)) g cn dX12_init_154 w_2_95 rfl rfl (fun _ => rfl) (by decide) (Nat.le_of_ble_eq_true rfl) ⟨Nat.le_of_ble_eq_true rfl, Nat.le_of_ble_eq_true rfl⟩ (fun E g cn q16 => ?_)
  refine y_cons ?_
  refine y_putRE (pc := 156) (fs' := [.int 0, .ref q1, .int 0, .int 0, .int 0, .int 0, .ref q2, .ref q3, .ref q4, .ref q5, .ref q6, .int 0, .int 0, .int 0, .int 0, .int 0, .int 0, .long 0, .int 0, .int 0, .int 0, .int 0, .ref q7, .ref q8, .int 0, .ref q9, .ref q10, .int ((-1)), .int ((-1)), .int 0, .int 0, .int 0, .ref q11, .ref q12, .ref q13, .int ((-1)), .ref q14, .int ((-1)), .ref q15, .ref q16, .int 0, .int 0, .null, .int 0, .int 0, .int 0, .null, .int 0, .null, .int 0, .int 0, .int 0, .int 0, .int 0, .null, .null, .null, .null]) g cn dX12_init_156 fr_12_90 (Nat.le_of_ble_eq_true rfl) rfl ?_
  refine x_aload_n (pc := 159) (i := 0) (a := 0) g dX12_init_159 rfl rfl ?_
  refine x_bipush (pc := 160) g dX12_init_160 bi_48 ?_
  refine y_newa (pc := 162) (ty := .byte) (t := 2) (N' := 48) (b := .inl (fun _ => 0)) g cn dX12_init_162 w_1_156 rfl rfl (fun _ => rfl) (by decide) (Nat.le_of_ble_eq_true rfl) ⟨Nat.le_of_ble_eq_true rfl, Nat.le_of_ble_eq_true rfl⟩ (fun E g cn q17 => ?_)
  refine y_cons ?_
  refine y_putRE (pc := 164) (fs' := [.int 0, .ref q1, .int 0, .int 0, .int 0, .int 0, .ref q2, .ref q3, .ref q4, .ref q5, .ref q6, .int 0, .int 0, .int 0, .int 0, .int 0, .int 0, .long 0, .int 0, .int 0, .int 0, .int 0, .ref q7, .ref q8, .int 0, .ref q9, .ref q10, .int ((-1)), .int ((-1)), .int 0, .int 0, .int 0, .ref q11, .ref q12, .ref q13, .int ((-1)), .ref q14, .int ((-1)), .ref q15, .ref q16, .int 0, .int 0, .ref q17, .int 0, .int 0, .int 0, .null, .int 0, .null, .int 0, .int 0, .int 0, .int 0, .int 0, .null, .null, .null, .null]) g cn dX12_init_164 fr_12_93 (Nat.le_of_ble_eq_true rfl) rfl ?_
  refine x_aload_n (pc := 167) (i := 0) (a := 0) g dX12_init_167 rfl rfl ?_
  refine x_iconst (pc := 168) g dX12_init_168 ic_4 ?_
  refine y_newa (pc := 169) (ty := .int) (t := 0) (N' := 4) (b := .inl (fun _ => 0)) g cn dX12_init_169 w_1_51 rfl rfl (fun _ => rfl) (by decide) (Nat.le_of_ble_eq_true rfl) ⟨Nat.le_of_ble_eq_true rfl, Nat.le_of_ble_eq_true rfl⟩ (fun E g cn q18 => ?_)
  refine y_cons ?_
  refine y_putRE (pc := 171) (fs' := [.int 0, .ref q1, .int 0, .int 0, .int 0, .int 0, .ref q2, .ref q3, .ref q4, .ref q5, .ref q6, .int 0, .int 0, .int 0, .int 0, .int 0, .int 0, .long 0, .int 0, .int 0, .int 0, .int 0, .ref q7, .ref q8, .int 0, .ref q9, .ref q10, .int ((-1)), .int ((-1)), .int 0, .int 0, .int 0, .ref q11, .ref q12, .ref q13, .int ((-1)), .ref q14, .int ((-1)), .ref q15, .ref q16, .int 0, .int 0, .ref q17, .int 0, .int 0, .int 0, .ref q18, .int 0, .null, .int 0, .int 0, .int 0, .int 0, .int 0, .null, .null, .null, .null]) g cn dX12_init_171 fr_12_96 (Nat.le_of_ble_eq_true rfl) rfl ?_
  refine x_aload_n (pc := 174) (i := 0) (a := 0) g dX12_init_174 rfl rfl ?_
  refine x_bipush (pc := 175) g dX12_init_175 bi_45 ?_
  refine y_newa (pc := 177) (ty := .int) (t := 0) (N' := 45) (b := .inl (fun _ => 0)) g cn dX12_init_177 w_1_51 rfl rfl (fun _ => rfl) (by decide) (Nat.le_of_ble_eq_true rfl) ⟨Nat.le_of_ble_eq_true rfl, Nat.le_of_ble_eq_true rfl⟩ (fun E g cn q19 => ?_)
  refine y_cons ?_
  refine y_putRE (pc := 179) (fs' := [.int 0, .ref q1, .int 0, .int 0, .int 0, .int 0, .ref q2, .ref q3, .ref q4, .ref q5, .ref q6, .int 0, .int 0, .int 0, .int 0, .int 0, .int 0, .long 0, .int 0, .int 0, .int 0, .int 0, .ref q7, .ref q8, .int 0, .ref q9, .ref q10, .int ((-1)), .int ((-1)), .int 0, .int 0, .int 0, .ref q11, .ref q12, .ref q13, .int ((-1)), .ref q14, .int ((-1)), .ref q15, .ref q16, .int 0, .int 0, .ref q17, .int 0, .int 0, .int 0, .ref q18, .int 0, .ref q19, .int 0, .int 0, .int 0, .int 0, .int 0, .null, .null, .null, .null]) g cn dX12_init_179 fr_12_99 (Nat.le_of_ble_eq_true rfl) rfl ?_
  refine x_aload_n (pc := 182) (i := 0) (a := 0) g dX12_init_182 rfl rfl ?_
  refine x_bipush (pc := 183) g dX12_init_183 bi_45 ?_
  refine y_newa (pc := 185) (ty := .boolean) (t := 3) (N' := 45) (b := .inl (fun _ => 0)) g cn dX12_init_185 w_2_95 rfl rfl (fun _ => rfl) (by decide) (Nat.le_of_ble_eq_true rfl) ⟨Nat.le_of_ble_eq_true rfl, Nat.le_of_ble_eq_true rfl⟩ (fun E g cn q20 => ?_)
  refine y_cons ?_
  refine y_putRE (pc := 187) (fs' := [.int 0, .ref q1, .int 0, .int 0, .int 0, .int 0, .ref q2, .ref q3, .ref q4, .ref q5, .ref q6, .int 0, .int 0, .int 0, .int 0, .int 0, .int 0, .long 0, .int 0, .int 0, .int 0, .int 0, .ref q7, .ref q8, .int 0, .ref q9, .ref q10, .int ((-1)), .int ((-1)), .int 0, .int 0, .int 0, .ref q11, .ref q12, .ref q13, .int ((-1)), .ref q14, .int ((-1)), .ref q15, .ref q16, .int 0, .int 0, .ref q17, .int 0, .int 0, .int 0, .ref q18, .int 0, .ref q19, .int 0, .int 0, .int 0, .int 0, .int 0, .ref q20, .null, .null, .null]) g cn dX12_init_187 fr_12_102 (Nat.le_of_ble_eq_true rfl) rfl ?_
  refine x_aload_n (pc := 190) (i := 0) (a := 0) g dX12_init_190 rfl rfl ?_
  refine x_sipush (pc := 191) g dX12_init_191 si_604 ?_
  refine y_newa (pc := 194) (ty := .int) (t := 0) (N' := 604) (b := .inl (fun _ => 0)) g cn dX12_init_194 w_1_51 rfl rfl (fun _ => rfl) (by decide) (Nat.le_of_ble_eq_true rfl) ⟨Nat.le_of_ble_eq_true rfl, Nat.le_of_ble_eq_true rfl⟩ (fun E g cn q21 => ?_)
  refine y_cons ?_
  refine y_putRE (pc := 196) (fs' := [.int 0, .ref q1, .int 0, .int 0, .int 0, .int 0, .ref q2, .ref q3, .ref q4, .ref q5, .ref q6, .int 0, .int 0, .int 0, .int 0, .int 0, .int 0, .long 0, .int 0, .int 0, .int 0, .int 0, .ref q7, .ref q8, .int 0, .ref q9, .ref q10, .int ((-1)), .int ((-1)), .int 0, .int 0, .int 0, .ref q11, .ref q12, .ref q13, .int ((-1)), .ref q14, .int ((-1)), .ref q15, .ref q16, .int 0, .int 0, .ref q17, .int 0, .int 0, .int 0, .ref q18, .int 0, .ref q19, .int 0, .int 0, .int 0, .int 0, .int 0, .ref q20, .ref q21, .null, .null]) g cn dX12_init_196 fr_12_105 (Nat.le_of_ble_eq_true rfl) rfl ?_
  refine x_aload_n (pc := 199) (i := 0) (a := 0) g dX12_init_199 rfl rfl ?_
  refine x_bipush (pc := 200) g dX12_init_200 bi_40 ?_
  refine y_newa (pc := 202) (ty := .long) (t := 1) (N' := 40) (b := .inr (.inl (fun _ => 0))) g cn dX12_init_202 w_1_155 rfl rfl (fun _ => rfl) (by decide) (Nat.le_of_ble_eq_true rfl) ⟨Nat.le_of_ble_eq_true rfl, Nat.le_of_ble_eq_true rfl⟩ (fun E g cn q22 => ?_)
  refine y_cons ?_
  refine y_putRE (pc := 204) (fs' := [.int 0, .ref q1, .int 0, .int 0, .int 0, .int 0, .ref q2, .ref q3, .ref q4, .ref q5, .ref q6, .int 0, .int 0, .int 0, .int 0, .int 0, .int 0, .long 0, .int 0, .int 0, .int 0, .int 0, .ref q7, .ref q8, .int 0, .ref q9, .ref q10, .int ((-1)), .int ((-1)), .int 0, .int 0, .int 0, .ref q11, .ref q12, .ref q13, .int ((-1)), .ref q14, .int ((-1)), .ref q15, .ref q16, .int 0, .int 0, .ref q17, .int 0, .int 0, .int 0, .ref q18, .int 0, .ref q19, .int 0, .int 0, .int 0, .int 0, .int 0, .ref q20, .ref q21, .ref q22, .null]) g cn dX12_init_204 fr_12_108 (Nat.le_of_ble_eq_true rfl) rfl ?_
  refine x_aload_n (pc := 207) (i := 0) (a := 0) g dX12_init_207 rfl rfl ?_
  refine x_iconst (pc := 208) g dX12_init_208 ic_2 ?_
  refine y_newa (pc := 209) (ty := .boolean) (t := 3) (N' := 2) (b := .inl (fun _ => 0)) g cn dX12_init_209 w_2_95 rfl rfl (fun _ => rfl) (by decide) (Nat.le_of_ble_eq_true rfl) ⟨Nat.le_of_ble_eq_true rfl, Nat.le_of_ble_eq_true rfl⟩ (fun E g cn q23 => ?_)
  refine y_cons ?_
  refine y_putRE (pc := 211) (fs' := [.int 0, .ref q1, .int 0, .int 0, .int 0, .int 0, .ref q2, .ref q3, .ref q4, .ref q5, .ref q6, .int 0, .int 0, .int 0, .int 0, .int 0, .int 0, .long 0, .int 0, .int 0, .int 0, .int 0, .ref q7, .ref q8, .int 0, .ref q9, .ref q10, .int ((-1)), .int ((-1)), .int 0, .int 0, .int 0, .ref q11, .ref q12, .ref q13, .int ((-1)), .ref q14, .int ((-1)), .ref q15, .ref q16, .int 0, .int 0, .ref q17, .int 0, .int 0, .int 0, .ref q18, .int 0, .ref q19, .int 0, .int 0, .int 0, .int 0, .int 0, .ref q20, .ref q21, .ref q22, .ref q23]) g cn dX12_init_211 fr_12_111 (Nat.le_of_ble_eq_true rfl) rfl ?_
  refine x_sub [0] ?_ rfl
  refine y_wd (eW_Model S q q1 q2 q3 q4 q5 q6 q7 q8 q9 q10 q11 q12 q13 q14 q15 q16 q17 q18 q19 q20 q21 q22 q23) ?_
  exact y_mem cn (G := (S, shM, 24, (adR_Model q q1 q2 q3 q4 q5 q6 q7 q8 q9 q10 q11 q12 q13 q14 q15 q16 q17 q18 q19 q20 q21 q22 q23))) (some_get is_Model) (fun t hW hD => ⟨(adR_Model q q1 q2 q3 q4 q5 q6 q7 q8 q9 q10 q11 q12 q13 q14 q15 q16 q17 q18 q19 q20 q21 q22 q23), rfl, trivial, hW.1, hD⟩) (T_M_init (G := (S, shM, 24, (adR_Model q q1 q2 q3 q4 q5 q6 q7 q8 q9 q10 q11 q12 q13 q14 q15 q16 q17 q18 q19 q20 q21 q22 q23))) ⟨rfl, shM_out24⟩ g mR_Model0)
