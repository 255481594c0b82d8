theorem w_1_30 : (Jvm.Cond.instanceMethod ({ cls := "java/lang/Object", name := "<init>", desc := "()V" } : Jvm.MethodName)) ∈ GT := GT_in (tlw (tin_1 (List.mem_of_getElem? (i := 30) rfl))) rfl
theorem w_1_31 : (Jvm.Cond.code ({ cls := "java/lang/Object", name := "<init>", desc := "()V" } : Jvm.MethodName) object_method_1_code (1 : Nat) (Option.none : Option Jvm.ClassFile.FieldType)) ∈ GT := GT_in (tlw (tin_1 (List.mem_of_getElem? (i := 31) rfl))) rfl
theorem w_1_37 : (Jvm.Cond.methodLink "OwlsLent$Tape" (1 : Nat) ({ cls := "java/lang/Object", name := "<init>", desc := "()V" } : Jvm.MethodName)) ∈ GT := GT_in (tlw (tin_1 (List.mem_of_getElem? (i := 37) rfl))) rfl
theorem w_1_38 : (Jvm.Cond.methodLink "OwlsLent$Tape" (13 : Nat) ({ cls := "java/lang/Math", name := "max", desc := "(II)I" } : Jvm.MethodName)) ∈ GT := GT_in (tlw (tin_1 (List.mem_of_getElem? (i := 38) rfl))) rfl
theorem w_1_51 : (Jvm.Cond.arrayClass Jvm.ClassFile.FieldType.int) ∈ GT := GT_in (tlw (tin_1 (List.mem_of_getElem? (i := 51) rfl))) rfl
theorem w_1_155 : (Jvm.Cond.arrayClass Jvm.ClassFile.FieldType.long) ∈ GT := GT_in (tlw (tin_1 (List.mem_of_getElem? (i := 155) rfl))) rfl
theorem w_1_168 : (Jvm.Cond.methodLink "OwlsLent$House" (3 : Nat) ({ cls := "java/lang/Object", name := "<init>", desc := "()V" } : Jvm.MethodName)) ∈ GT := GT_in (tlw (tin_1 (List.mem_of_getElem? (i := 168) rfl))) rfl
theorem w_1_169 : (Jvm.Cond.classLink "OwlsLent$House" (50 : Nat) "[[I") ∈ GT := GT_in (tlw (tin_1 (List.mem_of_getElem? (i := 169) rfl))) rfl
theorem w_2_30 : (Jvm.Cond.methodLink "OwlsLent$State" (3 : Nat) ({ cls := "java/lang/Object", name := "<init>", desc := "()V" } : Jvm.MethodName)) ∈ GT := GT_in (tlw (tin_2 (List.mem_of_getElem? (i := 30) rfl))) rfl
theorem w_2_69 : (Jvm.Cond.methodLink "OwlsLent$Sentence" (5 : Nat) ({ cls := "java/lang/Object", name := "<init>", desc := "()V" } : Jvm.MethodName)) ∈ GT := GT_in (tlw (tin_2 (List.mem_of_getElem? (i := 69) rfl))) rfl
theorem w_2_95 : (Jvm.Cond.arrayClass Jvm.ClassFile.FieldType.boolean) ∈ GT := GT_in (tlw (tin_2 (List.mem_of_getElem? (i := 95) rfl))) rfl
theorem w_2_123 : (Jvm.Cond.methodLink "OwlsLent$Book" (3 : Nat) ({ cls := "java/lang/Object", name := "<init>", desc := "()V" } : Jvm.MethodName)) ∈ GT := GT_in (tlw (tin_2 (List.mem_of_getElem? (i := 123) rfl))) rfl
theorem w_2_124 : (Jvm.Cond.classLink "OwlsLent$Book" (11 : Nat) "[[I") ∈ GT := GT_in (tlw (tin_2 (List.mem_of_getElem? (i := 124) rfl))) rfl
theorem w_2_178 : (Jvm.Cond.methodLink "OwlsLent$Spots" (3 : Nat) ({ cls := "java/lang/Object", name := "<init>", desc := "()V" } : Jvm.MethodName)) ∈ GT := GT_in (tlw (tin_2 (List.mem_of_getElem? (i := 178) rfl))) rfl
theorem w_2_206 : (Jvm.Cond.methodLink "OwlsLent$Best" (3 : Nat) ({ cls := "java/lang/Object", name := "<init>", desc := "()V" } : Jvm.MethodName)) ∈ GT := GT_in (tlw (tin_2 (List.mem_of_getElem? (i := 206) rfl))) rfl
theorem w_2_207 : (Jvm.Cond.classLink "OwlsLent$Best" (9 : Nat) "[[I") ∈ GT := GT_in (tlw (tin_2 (List.mem_of_getElem? (i := 207) rfl))) rfl
theorem mk_8_13 : Cond.methodLink RX8 13 Lib.Math.max.name ∈ GT := w_1_38
theorem fr_8_19 : xFR RX8 19 7 0 := ⟨RX8, TX8, 2, tyX8, .array .int, rfl, by decide, uw_8, rfl, w_1_41, rfl, rfl, tyX8_ok, nmX8, rfl, fun _ => ⟨rfl, rfl⟩⟩
def blX8 : List Value := [.null, .int 0]
theorem dfX8 : ∀ j, j < 2 → defaultValue (tyX8 j) = vp_V blX8 j := lt_s (lt_s (lt_0) rfl) rfl
theorem fr_7_21 : xFR RX7 21 6 3 := ⟨RX7, TX7, 7, tyX7, .array .int, rfl, by decide, uw_7, rfl, w_2_39, rfl, rfl, tyX7_ok, nmX7, rfl, fun _ => ⟨rfl, rfl⟩⟩
theorem fr_7_25 : xFR RX7 25 6 4 := ⟨RX7, TX7, 7, tyX7, .array .int, rfl, by decide, uw_7, rfl, w_2_40, rfl, rfl, tyX7_ok, nmX7, rfl, fun _ => ⟨rfl, rfl⟩⟩
theorem fr_7_28 : xFR RX7 28 6 5 := ⟨RX7, TX7, 7, tyX7, .array .int, rfl, by decide, uw_7, rfl, w_2_43, rfl, rfl, tyX7_ok, nmX7, rfl, fun _ => ⟨rfl, rfl⟩⟩
theorem fr_7_31 : xFR RX7 31 6 6 := ⟨RX7, TX7, 7, tyX7, .array .int, rfl, by decide, uw_7, rfl, w_2_46, rfl, rfl, tyX7_ok, nmX7, rfl, fun _ => ⟨rfl, rfl⟩⟩
def blX7 : List Value := [.int 0, .int 0, .int 0, .null, .null, .null, .null]
theorem dfX7 : ∀ j, j < 7 → defaultValue (tyX7 j) = vp_V blX7 j := lt_s (lt_s (lt_s (lt_s (lt_s (lt_s (lt_s (lt_0) rfl) rfl) rfl) rfl) rfl) rfl) rfl
theorem fr_5_22 : xFR RX5 22 4 3 := ⟨RX5, TX5, 7, tyX5, .array .int, rfl, by decide, uw_5, rfl, w_2_76, rfl, rfl, tyX5_ok, nmX5, rfl, fun _ => ⟨rfl, rfl⟩⟩
theorem fr_5_26 : xFR RX5 26 4 4 := ⟨RX5, TX5, 7, tyX5, .array .int, rfl, by decide, uw_5, rfl, w_2_77, rfl, rfl, tyX5_ok, nmX5, rfl, fun _ => ⟨rfl, rfl⟩⟩
theorem fr_5_29 : xFR RX5 29 4 5 := ⟨RX5, TX5, 7, tyX5, .array .int, rfl, by decide, uw_5, rfl, w_2_78, rfl, rfl, tyX5_ok, nmX5, rfl, fun _ => ⟨rfl, rfl⟩⟩
theorem fr_5_32 : xFR RX5 32 4 6 := ⟨RX5, TX5, 7, tyX5, .array .boolean, rfl, by decide, uw_5, rfl, w_2_79, rfl, rfl, tyX5_ok, nmX5, rfl, fun _ => ⟨rfl, rfl⟩⟩
def blX5 : List Value := [.int 0, .int 0, .int 0, .null, .null, .null, .null]
theorem dfX5 : ∀ j, j < 7 → defaultValue (tyX5 j) = vp_V blX5 j := lt_s (lt_s (lt_s (lt_s (lt_s (lt_s (lt_s (lt_0) rfl) rfl) rfl) rfl) rfl) rfl) rfl
theorem fr_6_11 : xFR RX6 11 5 0 := ⟨RX6, TX6, 6, tyX6, .array .int, rfl, by decide, uw_6, rfl, w_2_179, rfl, rfl, tyX6_ok, nmX6, rfl, fun _ => ⟨rfl, rfl⟩⟩
theorem fr_6_15 : xFR RX6 15 5 1 := ⟨RX6, TX6, 6, tyX6, .array .int, rfl, by decide, uw_6, rfl, w_2_181, rfl, rfl, tyX6_ok, nmX6, rfl, fun _ => ⟨rfl, rfl⟩⟩
theorem fr_6_18 : xFR RX6 18 5 2 := ⟨RX6, TX6, 6, tyX6, .array .int, rfl, by decide, uw_6, rfl, w_2_182, rfl, rfl, tyX6_ok, nmX6, rfl, fun _ => ⟨rfl, rfl⟩⟩
theorem fr_6_21 : xFR RX6 21 5 3 := ⟨RX6, TX6, 6, tyX6, .array .int, rfl, by decide, uw_6, rfl, w_2_183, rfl, rfl, tyX6_ok, nmX6, rfl, fun _ => ⟨rfl, rfl⟩⟩
def blX6 : List Value := [.null, .null, .null, .null, .int 0, .int 0]
theorem dfX6 : ∀ j, j < 6 → defaultValue (tyX6 j) = vp_V blX6 j := lt_s (lt_s (lt_s (lt_s (lt_s (lt_s (lt_0) rfl) rfl) rfl) rfl) rfl) rfl
theorem fr_2_40 : xFR RX2 40 2 9 := ⟨RX2, TX2, 15, tyX2, .array .long, rfl, by decide, uw_2, rfl, w_1_209, rfl, rfl, tyX2_ok, nmX2, rfl, fun _ => ⟨rfl, rfl⟩⟩
theorem fr_2_44 : xFR RX2 44 2 10 := ⟨RX2, TX2, 15, tyX2, .array .long, rfl, by decide, uw_2, rfl, w_1_213, rfl, rfl, tyX2_ok, nmX2, rfl, fun _ => ⟨rfl, rfl⟩⟩
theorem fr_2_47 : xFR RX2 47 2 11 := ⟨RX2, TX2, 15, tyX2, .array .long, rfl, by decide, uw_2, rfl, w_1_218, rfl, rfl, tyX2_ok, nmX2, rfl, fun _ => ⟨rfl, rfl⟩⟩
theorem fr_2_52 : xFR RX2 52 2 12 := ⟨RX2, TX2, 15, tyX2, .array (.array .int), rfl, by decide, uw_2, rfl, w_1_221, rfl, rfl, tyX2_ok, nmX2, rfl, fun _ => ⟨rfl, rfl⟩⟩
theorem fr_2_55 : xFR RX2 55 2 13 := ⟨RX2, TX2, 15, tyX2, .array (.array .int), rfl, by decide, uw_2, rfl, w_1_225, rfl, rfl, tyX2_ok, nmX2, rfl, fun _ => ⟨rfl, rfl⟩⟩
theorem fr_2_58 : xFR RX2 58 2 14 := ⟨RX2, TX2, 15, tyX2, .array (.array .int), rfl, by decide, uw_2, rfl, w_1_229, rfl, rfl, tyX2_ok, nmX2, rfl, fun _ => ⟨rfl, rfl⟩⟩
def blX2 : List Value := [.int 0, .int 0, .int 0, .int 0, .int 0, .int 0, .int 0, .int 0, .int 0, .null, .null, .null, .null, .null, .null]
theorem dfX2 : ∀ j, j < 15 → defaultValue (tyX2 j) = vp_V blX2 j := lt_s (lt_s (lt_s (lt_s (lt_s (lt_s (lt_s (lt_s (lt_s (lt_s (lt_s (lt_s (lt_s (lt_s (lt_s (lt_0) rfl) rfl) rfl) rfl) rfl) rfl) rfl) rfl) rfl) rfl) rfl) rfl) rfl) rfl) rfl
theorem fr_0_11 : xFR RX0 11 0 0 := ⟨RX0, TX0, 5, tyX0, .array (.array .int), rfl, by decide, uw_0, rfl, w_2_208, rfl, rfl, tyX0_ok, nmX0, rfl, fun _ => ⟨rfl, rfl⟩⟩
theorem fr_0_16 : xFR RX0 16 0 1 := ⟨RX0, TX0, 5, tyX0, .array .int, rfl, by decide, uw_0, rfl, w_2_209, rfl, rfl, tyX0_ok, nmX0, rfl, fun _ => ⟨rfl, rfl⟩⟩
theorem fr_0_20 : xFR RX0 20 0 2 := ⟨RX0, TX0, 5, tyX0, .array .int, rfl, by decide, uw_0, rfl, w_2_210, rfl, rfl, tyX0_ok, nmX0, rfl, fun _ => ⟨rfl, rfl⟩⟩
def blX0 : List Value := [.null, .null, .null, .int 0, .int 0]
theorem dfX0 : ∀ j, j < 5 → defaultValue (tyX0 j) = vp_V blX0 j := lt_s (lt_s (lt_s (lt_s (lt_s (lt_0) rfl) rfl) rfl) rfl) rfl
theorem fr_1_13 : xFR RX1 13 1 0 := ⟨RX1, TX1, 7, tyX1, .array (.array .int), rfl, by decide, uw_1, rfl, w_2_125, rfl, rfl, tyX1_ok, nmX1, rfl, fun _ => ⟨rfl, rfl⟩⟩
def blX1 : List Value := [.null, .int 0, .int 0, .int 0, .int 0, .int 0, .int 0]
theorem dfX1 : ∀ j, j < 7 → defaultValue (tyX1 j) = vp_V blX1 j := lt_s (lt_s (lt_s (lt_s (lt_s (lt_s (lt_s (lt_0) rfl) rfl) rfl) rfl) rfl) rfl) rfl
theorem y_cons2 {E : xE} {ρ : Type} {fin : ρ → State → Prop} {pc : Nat} {lv : List (Nat × Value)} {st : List Value} {res : Option ρ} {x : Nat × va_E} {w u v : va_W} (k : Xg E fin pc lv st (x :: ((w ++ u) ++ v)) res) : Xg E fin pc lv st (((x :: w) ++ u) ++ v) res := k
theorem objW : Cond.instanceMethod Lib.objectInit ∈ GT ∧ Cond.code Lib.objectInit ⟨#[0xb1]⟩ 1 none ∈ GT := ⟨w_1_30, w_1_31⟩
def shR_Tape940 : Nat → xSh := fun k => ([.inl (7, [3, 0]), .inr (0, 940, [])] : List xSh).getD k (.inr (9, 0, []))
def mR_Tape940 : xMem := (fun k j => if k = 0 then ([0, 0] : List Int32).getD j 0 else 0, fun _ _ => 0)
def adR_Tape940 (q : Nat) (q1 : Nat) : Nat → Nat := fun k => ([q, q1] : List Nat).getD k 0
abbrev rm_y_Tape940 : Room := { frames := 1, cells := 1, slots := 940, locals := 40 }
theorem y_Tape940 (l : Launch) (S : xS) : yCt l S yX8_init cX8_init 2 rm_y_Tape940 7 blX8 [.int 940] 1 940 shR_Tape940 2 mR_Tape940 (fun _ => True) := by
  refine yCt_of (own := RX8) (lv := fun q => [(0, .ref q), (1, .int 940)]) (by decide) rfl rfl (fun q => Nat.le_of_ble_eq_true rfl) (fun q => rfl) (fun E q sz g cn => ?_)
  show Xg E _ 0 [(0, .ref q), (1, .int 940)] [] _ _
  refine x_aload_n (pc := 0) (i := 0) (a := 0) g dX8_init_0 rfl rfl ?_
  refine y_obj (pc := 1) g dX8_init_1 w_1_37 objW ⟨by decide, Nat.le_of_ble_eq_true rfl⟩ ?_
  refine x_aload_n (pc := 4) (i := 0) (a := 0) g dX8_init_4 rfl rfl ?_
  refine x_iconst (pc := 5) g dX8_init_5 ic_0 ?_
  refine y_putE (pc := 6) (fs' := [.null, .int 0]) g dX8_init_6 fl_8_7 ft_8_1 ⟨rfl, rfl⟩ (Nat.le_of_ble_eq_true rfl) rfl ?_
  refine x_aload_n (pc := 9) (i := 0) (a := 0) g dX8_init_9 rfl rfl ?_
  refine x_iconst (pc := 10) g dX8_init_10 ic_0 ?_
  refine x_iload_n (pc := 11) (i := 1) (a := 1) g dX8_init_11 rfl rfl ?_
  refine x_mmax (pc := 12) g dX8_init_12 mk_8_13 mm_max ⟨by decide, Nat.le_of_ble_eq_true rfl⟩ ?_
  refine y_top (y := 940) (by decide) ?_
  refine y_newa (pc := 15) (ty := .int) (t := 0) (N' := 940) (b := .inl (fun _ => 0)) g cn dX8_init_15 w_1_51 rfl rfl (fun _ => rfl) (by decide) (Nat.le_of_ble_eq_true rfl) ⟨Nat.le_of_ble_eq_true rfl, Nat.le_of_ble_eq_true rfl⟩ (fun E g cn q1 => ?_)
  refine y_cons ?_
  refine y_putRE (pc := 17) (fs' := [.ref q1, .int 0]) g cn dX8_init_17 fr_8_19 (Nat.le_of_ble_eq_true rfl) rfl ?_
  refine y_vret (pc := 20) g cn dX8_init_20 rfl (fun t hP hD => ?_)
  have e : ((q, .inr (7, [.ref q1, .int 0])) : Nat × va_E) :: (([] : va_W) ++ ([(q1, .inl (S.2.1 0, 940, .inl (fun _ => 0)))] : va_W)) = xwd (S, shR_Tape940, 2, (adR_Tape940 q q1)) mR_Tape940 := by
    rfl
  rw [e] at hP hD
  exact ⟨(adR_Tape940 q q1), rfl, trivial, hP, hD⟩
def shR_Tape32 : Nat → xSh := fun k => ([.inl (7, [3, 0]), .inr (0, 32, [])] : List xSh).getD k (.inr (9, 0, []))
def mR_Tape32 : xMem := (fun k j => if k = 0 then ([0, 0] : List Int32).getD j 0 else 0, fun _ _ => 0)
def adR_Tape32 (q : Nat) (q1 : Nat) : Nat → Nat := fun k => ([q, q1] : List Nat).getD k 0
abbrev rm_y_Tape32 : Room := { frames := 1, cells := 1, slots := 32, locals := 40 }
theorem y_Tape32 (l : Launch) (S : xS) : yCt l S yX8_init cX8_init 2 rm_y_Tape32 7 blX8 [.int 32] 1 32 shR_Tape32 2 mR_Tape32 (fun _ => True) := by
  refine yCt_of (own := RX8) (lv := fun q => [(0, .ref q), (1, .int 32)]) (by decide) rfl rfl (fun q => Nat.le_of_ble_eq_true rfl) (fun q => rfl) (fun E q sz g cn => ?_)
  show Xg E _ 0 [(0, .ref q), (1, .int 32)] [] _ _
  refine x_aload_n (pc := 0) (i := 0) (a := 0) g dX8_init_0 rfl rfl ?_
  refine y_obj (pc := 1) g dX8_init_1 w_1_37 objW ⟨by decide, Nat.le_of_ble_eq_true rfl⟩ ?_
  refine x_aload_n (pc := 4) (i := 0) (a := 0) g dX8_init_4 rfl rfl ?_
  refine x_iconst (pc := 5) g dX8_init_5 ic_0 ?_
  refine y_putE (pc := 6) (fs' := [.null, .int 0]) g dX8_init_6 fl_8_7 ft_8_1 ⟨rfl, rfl⟩ (Nat.le_of_ble_eq_true rfl) rfl ?_
  refine x_aload_n (pc := 9) (i := 0) (a := 0) g dX8_init_9 rfl rfl ?_
  refine x_iconst (pc := 10) g dX8_init_10 ic_0 ?_
  refine x_iload_n (pc := 11) (i := 1) (a := 1) g dX8_init_11 rfl rfl ?_
  refine x_mmax (pc := 12) g dX8_init_12 mk_8_13 mm_max ⟨by decide, Nat.le_of_ble_eq_true rfl⟩ ?_
  refine y_top (y := 32) (by decide) ?_
  refine y_newa (pc := 15) (ty := .int) (t := 0) (N' := 32) (b := .inl (fun _ => 0)) g cn dX8_init_15 w_1_51 rfl rfl (fun _ => rfl) (by decide) (Nat.le_of_ble_eq_true rfl) ⟨Nat.le_of_ble_eq_true rfl, Nat.le_of_ble_eq_true rfl⟩ (fun E g cn q1 => ?_)
  refine y_cons ?_
  refine y_putRE (pc := 17) (fs' := [.ref q1, .int 0]) g cn dX8_init_17 fr_8_19 (Nat.le_of_ble_eq_true rfl) rfl ?_
  refine y_vret (pc := 20) g cn dX8_init_20 rfl (fun t hP hD => ?_)
  have e : ((q, .inr (7, [.ref q1, .int 0])) : Nat × va_E) :: (([] : va_W) ++ ([(q1, .inl (S.2.1 0, 32, .inl (fun _ => 0)))] : va_W)) = xwd (S, shR_Tape32, 2, (adR_Tape32 q q1)) mR_Tape32 := by
    rfl
  rw [e] at hP hD
  exact ⟨(adR_Tape32 q q1), rfl, trivial, hP, hD⟩
def shR_State : Nat → xSh := fun k => ([.inl (6, [0, 0, 0, 3, 4, 5, 6]), .inr (0, 4, []), .inr (0, 6, []), .inr (0, 6, []), .inr (0, 6, [])] : List xSh).getD k (.inr (9, 0, []))
def mR_State : xMem := (fun k j => if k = 0 then ([0, 0, 0, 0, 0, 0, 0] : List Int32).getD j 0 else 0, fun _ _ => 0)
def adR_State (q : Nat) (q1 : Nat) (q2 : Nat) (q3 : Nat) (q4 : Nat) : Nat → Nat := fun k => ([q, q1, q2, q3, q4] : List Nat).getD k 0
abbrev rm_y_State : Room := { frames := 1, cells := 4, slots := 22, locals := 40 }
theorem y_State (l : Launch) (S : xS) : yCt l S yX7_init cX7_init 1 rm_y_State 6 blX7 [] 4 22 shR_State 5 mR_State (fun _ => True) := by
  refine yCt_of (own := RX7) (lv := fun q => [(0, .ref q)]) (by decide) rfl rfl (fun q => Nat.le_of_ble_eq_true rfl) (fun q => rfl) (fun E q sz g cn => ?_)
  show Xg E _ 0 [(0, .ref q)] [] _ _
  refine x_aload_n (pc := 0) (i := 0) (a := 0) g dX7_init_0 rfl rfl ?_
  refine y_obj (pc := 1) g dX7_init_1 w_2_30 objW ⟨by decide, Nat.le_of_ble_eq_true rfl⟩ ?_
  refine x_aload_n (pc := 4) (i := 0) (a := 0) g dX7_init_4 rfl rfl ?_
  refine x_iconst (pc := 5) g dX7_init_5 ic_0 ?_
  refine y_putE (pc := 6) (fs' := [.int 0, .int 0, .int 0, .null, .null, .null, .null]) g dX7_init_6 fl_7_9 ft_7_0 ⟨rfl, rfl⟩ (Nat.le_of_ble_eq_true rfl) rfl ?_
  refine x_aload_n (pc := 9) (i := 0) (a := 0) g dX7_init_9 rfl rfl ?_
  refine x_iconst (pc := 10) g dX7_init_10 ic_0 ?_
  refine y_putE (pc := 11) (fs' := [.int 0, .int 0, .int 0, .null, .null, .null, .null]) g dX7_init_11 fl_7_15 ft_7_1 ⟨rfl, rfl⟩ (Nat.le_of_ble_eq_true rfl) rfl ?_
  refine x_aload_n (pc := 14) (i := 0) (a := 0) g dX7_init_14 rfl rfl ?_
  refine x_iconst (pc := 15) g dX7_init_15 ic_0 ?_
  refine y_putE (pc := 16) (fs' := [.int 0, .int 0, .int 0, .null, .null, .null, .null]) g dX7_init_16 fl_7_18 ft_7_2 ⟨rfl, rfl⟩ (Nat.le_of_ble_eq_true rfl) rfl ?_
  refine x_aload_n (pc := 19) (i := 0) (a := 0) g dX7_init_19 rfl rfl ?_
  refine x_iconst (pc := 20) g dX7_init_20 ic_4 ?_
  refine y_newa (pc := 21) (ty := .int) (t := 0) (N' := 4) (b := .inl (fun _ => 0)) g cn dX7_init_21 w_1_51 rfl rfl (fun _ => rfl) (by decide) (Nat.le_of_ble_eq_true rfl) ⟨Nat.le_of_ble_eq_true rfl, Nat.le_of_ble_eq_true rfl⟩ (fun E g cn q1 => ?_)
  refine y_cons ?_
  refine y_putRE (pc := 23) (fs' := [.int 0, .int 0, .int 0, .ref q1, .null, .null, .null]) g cn dX7_init_23 fr_7_21 (Nat.le_of_ble_eq_true rfl) rfl ?_
  refine x_aload_n (pc := 26) (i := 0) (a := 0) g dX7_init_26 rfl rfl ?_
  refine x_bipush (pc := 27) g dX7_init_27 bi_6 ?_
  refine y_newa (pc := 29) (ty := .int) (t := 0) (N' := 6) (b := .inl (fun _ => 0)) g cn dX7_init_29 w_1_51 rfl rfl (fun _ => rfl) (by decide) (Nat.le_of_ble_eq_true rfl) ⟨Nat.le_of_ble_eq_true rfl, Nat.le_of_ble_eq_true rfl⟩ (fun E g cn q2 => ?_)
  refine y_cons ?_
  refine y_putRE (pc := 31) (fs' := [.int 0, .int 0, .int 0, .ref q1, .ref q2, .null, .null]) g cn dX7_init_31 fr_7_25 (Nat.le_of_ble_eq_true rfl) rfl ?_
  refine x_aload_n (pc := 34) (i := 0) (a := 0) g dX7_init_34 rfl rfl ?_
  refine x_bipush (pc := 35) g dX7_init_35 bi_6 ?_
  refine y_newa (pc := 37) (ty := .int) (t := 0) (N' := 6) (b := .inl (fun _ => 0)) g cn dX7_init_37 w_1_51 rfl rfl (fun _ => rfl) (by decide) (Nat.le_of_ble_eq_true rfl) ⟨Nat.le_of_ble_eq_true rfl, Nat.le_of_ble_eq_true rfl⟩ (fun E g cn q3 => ?_)
  refine y_cons ?_
  refine y_putRE (pc := 39) (fs' := [.int 0, .int 0, .int 0, .ref q1, .ref q2, .ref q3, .null]) g cn dX7_init_39 fr_7_28 (Nat.le_of_ble_eq_true rfl) rfl ?_
  refine x_aload_n (pc := 42) (i := 0) (a := 0) g dX7_init_42 rfl rfl ?_
  refine x_bipush (pc := 43) g dX7_init_43 bi_6 ?_
  refine y_newa (pc := 45) (ty := .int) (t := 0) (N' := 6) (b := .inl (fun _ => 0)) g cn dX7_init_45 w_1_51 rfl rfl (fun _ => rfl) (by decide) (Nat.le_of_ble_eq_true rfl) ⟨Nat.le_of_ble_eq_true rfl, Nat.le_of_ble_eq_true rfl⟩ (fun E g cn q4 => ?_)
  refine y_cons ?_
  refine y_putRE (pc := 47) (fs' := [.int 0, .int 0, .int 0, .ref q1, .ref q2, .ref q3, .ref q4]) g cn dX7_init_47 fr_7_31 (Nat.le_of_ble_eq_true rfl) rfl ?_
  refine y_vret (pc := 50) g cn dX7_init_50 rfl (fun t hP hD => ?_)
  have e : ((q, .inr (6, [.int 0, .int 0, .int 0, .ref q1, .ref q2, .ref q3, .ref q4])) : Nat × va_E) :: ((((([] : va_W) ++ ([(q1, .inl (S.2.1 0, 4, .inl (fun _ => 0)))] : va_W)) ++ ([(q2, .inl (S.2.1 0, 6, .inl (fun _ => 0)))] : va_W)) ++ ([(q3, .inl (S.2.1 0, 6, .inl (fun _ => 0)))] : va_W)) ++ ([(q4, .inl (S.2.1 0, 6, .inl (fun _ => 0)))] : va_W)) = xwd (S, shR_State, 5, (adR_State q q1 q2 q3 q4)) mR_State := by
    rfl
  rw [e] at hP hD
  exact ⟨(adR_State q q1 q2 q3 q4), rfl, trivial, hP, hD⟩
def shR_Sentence : Nat → xSh := fun k => ([.inl (4, [0, 0, 0, 3, 4, 5, 6]), .inr (0, 40, []), .inr (0, 40, []), .inr (0, 40, []), .inr (3, 20, [])] : List xSh).getD k (.inr (9, 0, []))
def mR_Sentence : xMem := (fun k j => if k = 0 then ([0, 0, 0, 0, 0, 0, 0] : List Int32).getD j 0 else 0, fun _ _ => 0)
def adR_Sentence (q : Nat) (q1 : Nat) (q2 : Nat) (q3 : Nat) (q4 : Nat) : Nat → Nat := fun k => ([q, q1, q2, q3, q4] : List Nat).getD k 0
abbrev rm_y_Sentence : Room := { frames := 1, cells := 4, slots := 140, locals := 40 }
theorem y_Sentence (l : Launch) (S : xS) : yCt l S yX5_init cX5_init 1 rm_y_Sentence 4 blX5 [] 4 140 shR_Sentence 5 mR_Sentence (fun _ => True) := by
  refine yCt_of (own := RX5) (lv := fun q => [(0, .ref q)]) (by decide) rfl rfl (fun q => Nat.le_of_ble_eq_true rfl) (fun q => rfl) (fun E q sz g cn => ?_)
  show Xg E _ 0 [(0, .ref q)] [] _ _
  refine x_aload_n (pc := 0) (i := 0) (a := 0) g dX5_init_0 rfl rfl ?_
  refine y_obj (pc := 1) g dX5_init_1 w_2_69 objW ⟨by decide, Nat.le_of_ble_eq_true rfl⟩ ?_
  refine x_aload_n (pc := 4) (i := 0) (a := 0) g dX5_init_4 rfl rfl ?_
  refine x_iconst (pc := 5) g dX5_init_5 ic_0 ?_
  refine y_putE (pc := 6) (fs' := [.int 0, .int 0, .int 0, .null, .null, .null, .null]) g dX5_init_6 fl_5_11 ft_5_0 ⟨rfl, rfl⟩ (Nat.le_of_ble_eq_true rfl) rfl ?_
  refine x_aload_n (pc := 9) (i := 0) (a := 0) g dX5_init_9 rfl rfl ?_
  refine x_iconst (pc := 10) g dX5_init_10 ic_0 ?_
  refine y_putE (pc := 11) (fs' := [.int 0, .int 0, .int 0, .null, .null, .null, .null]) g dX5_init_11 fl_5_15 ft_5_1 ⟨rfl, rfl⟩ (Nat.le_of_ble_eq_true rfl) rfl ?_
  refine x_aload_n (pc := 14) (i := 0) (a := 0) g dX5_init_14 rfl rfl ?_
  refine x_iconst (pc := 15) g dX5_init_15 ic_0 ?_
  refine y_putE (pc := 16) (fs' := [.int 0, .int 0, .int 0, .null, .null, .null, .null]) g dX5_init_16 fl_5_19 ft_5_2 ⟨rfl, rfl⟩ (Nat.le_of_ble_eq_true rfl) rfl ?_
  refine x_aload_n (pc := 19) (i := 0) (a := 0) g dX5_init_19 rfl rfl ?_
  refine x_bipush (pc := 20) g dX5_init_20 bi_40 ?_
  refine y_newa (pc := 22) (ty := .int) (t := 0) (N' := 40) (b := .inl (fun _ => 0)) g cn dX5_init_22 w_1_51 rfl rfl (fun _ => rfl) (by decide) (Nat.le_of_ble_eq_true rfl) ⟨Nat.le_of_ble_eq_true rfl, Nat.le_of_ble_eq_true rfl⟩ (fun E g cn q1 => ?_)
  refine y_cons ?_
  refine y_putRE (pc := 24) (fs' := [.int 0, .int 0, .int 0, .ref q1, .null, .null, .null]) g cn dX5_init_24 fr_5_22 (Nat.le_of_ble_eq_true rfl) rfl ?_
  refine x_aload_n (pc := 27) (i := 0) (a := 0) g dX5_init_27 rfl rfl ?_
  refine x_bipush (pc := 28) g dX5_init_28 bi_40 ?_
  refine y_newa (pc := 30) (ty := .int) (t := 0) (N' := 40) (b := .inl (fun _ => 0)) g cn dX5_init_30 w_1_51 rfl rfl (fun _ => rfl) (by decide) (Nat.le_of_ble_eq_true rfl) ⟨Nat.le_of_ble_eq_true rfl, Nat.le_of_ble_eq_true rfl⟩ (fun E g cn q2 => ?_)
  refine y_cons ?_
  refine y_putRE (pc := 32) (fs' := [.int 0, .int 0, .int 0, .ref q1, .ref q2, .null, .null]) g cn dX5_init_32 fr_5_26 (Nat.le_of_ble_eq_true rfl) rfl ?_
  refine x_aload_n (pc := 35) (i := 0) (a := 0) g dX5_init_35 rfl rfl ?_
  refine x_bipush (pc := 36) g dX5_init_36 bi_40 ?_
  refine y_newa (pc := 38) (ty := .int) (t := 0) (N' := 40) (b := .inl (fun _ => 0)) g cn dX5_init_38 w_1_51 rfl rfl (fun _ => rfl) (by decide) (Nat.le_of_ble_eq_true rfl) ⟨Nat.le_of_ble_eq_true rfl, Nat.le_of_ble_eq_true rfl⟩ (fun E g cn q3 => ?_)
  refine y_cons ?_
  refine y_putRE (pc := 40) (fs' := [.int 0, .int 0, .int 0, .ref q1, .ref q2, .ref q3, .null]) g cn dX5_init_40 fr_5_29 (Nat.le_of_ble_eq_true rfl) rfl ?_
  refine x_aload_n (pc := 43) (i := 0) (a := 0) g dX5_init_43 rfl rfl ?_
  refine x_bipush (pc := 44) g dX5_init_44 bi_20 ?_
  refine y_newa (pc := 46) (ty := .boolean) (t := 3) (N' := 20) (b := .inl (fun _ => 0)) g cn dX5_init_46 w_2_95 rfl rfl (fun _ => rfl) (by decide) (Nat.le_of_ble_eq_true rfl) ⟨Nat.le_of_ble_eq_true rfl, Nat.le_of_ble_eq_true rfl⟩ (fun E g cn q4 => ?_)
  refine y_cons ?_
  refine y_putRE (pc := 48) (fs' := [.int 0, .int 0, .int 0, .ref q1, .ref q2, .ref q3, .ref q4]) g cn dX5_init_48 fr_5_32 (Nat.le_of_ble_eq_true rfl) rfl ?_
  refine y_vret (pc := 51) g cn dX5_init_51 rfl (fun t hP hD => ?_)
  have e : ((q, .inr (4, [.int 0, .int 0, .int 0, .ref q1, .ref q2, .ref q3, .ref q4])) : Nat × va_E) :: ((((([] : va_W) ++ ([(q1, .inl (S.2.1 0, 40, .inl (fun _ => 0)))] : va_W)) ++ ([(q2, .inl (S.2.1 0, 40, .inl (fun _ => 0)))] : va_W)) ++ ([(q3, .inl (S.2.1 0, 40, .inl (fun _ => 0)))] : va_W)) ++ ([(q4, .inl (S.2.1 3, 20, .inl (fun _ => 0)))] : va_W)) = xwd (S, shR_Sentence, 5, (adR_Sentence q q1 q2 q3 q4)) mR_Sentence := by
    rfl
  rw [e] at hP hD
  exact ⟨(adR_Sentence q q1 q2 q3 q4), rfl, trivial, hP, hD⟩
def shR_Spots : Nat → xSh := fun k => ([.inl (5, [3, 4, 5, 6, 0, 0]), .inr (0, 81, []), .inr (0, 81, []), .inr (0, 4, []), .inr (0, 6, [])] : List xSh).getD k (.inr (9, 0, []))
def mR_Spots : xMem := (fun k j => if k = 0 then ([0, 0, 0, 0, 0, (-1)] : List Int32).getD j 0 else 0, fun _ _ => 0)
def adR_Spots (q : Nat) (q1 : Nat) (q2 : Nat) (q3 : Nat) (q4 : Nat) : Nat → Nat := fun k => ([q, q1, q2, q3, q4] : List Nat).getD k 0
abbrev rm_y_Spots : Room := { frames := 1, cells := 4, slots := 172, locals := 40 }
theorem y_Spots (l : Launch) (S : xS) : yCt l S yX6_init cX6_init 1 rm_y_Spots 5 blX6 [] 4 172 shR_Spots 5 mR_Spots (fun _ => True) := by
  refine yCt_of (own := RX6) (lv := fun q => [(0, .ref q)]) (by decide) rfl rfl (fun q => Nat.le_of_ble_eq_true rfl) (fun q => rfl) (fun E q sz g cn => ?_)
  show Xg E _ 0 [(0, .ref q)] [] _ _
  refine x_aload_n (pc := 0) (i := 0) (a := 0) g dX6_init_0 rfl rfl ?_
  refine y_obj (pc := 1) g dX6_init_1 w_2_178 objW ⟨by decide, Nat.le_of_ble_eq_true rfl⟩ ?_
  refine x_aload_n (pc := 4) (i := 0) (a := 0) g dX6_init_4 rfl rfl ?_
  refine x_bipush (pc := 5) g dX6_init_5 bi_81 ?_
  refine y_newa (pc := 7) (ty := .int) (t := 0) (N' := 81) (b := .inl (fun _ => 0)) g cn dX6_init_7 w_1_51 rfl rfl (fun _ => rfl) (by decide) (Nat.le_of_ble_eq_true rfl) ⟨Nat.le_of_ble_eq_true rfl, Nat.le_of_ble_eq_true rfl⟩ (fun E g cn q1 => ?_)
  refine y_cons ?_
  refine y_putRE (pc := 9) (fs' := [.ref q1, .null, .null, .null, .int 0, .int 0]) g cn dX6_init_9 fr_6_11 (Nat.le_of_ble_eq_true rfl) rfl ?_
  refine x_aload_n (pc := 12) (i := 0) (a := 0) g dX6_init_12 rfl rfl ?_
  refine x_bipush (pc := 13) g dX6_init_13 bi_81 ?_
  refine y_newa (pc := 15) (ty := .int) (t := 0) (N' := 81) (b := .inl (fun _ => 0)) g cn dX6_init_15 w_1_51 rfl rfl (fun _ => rfl) (by decide) (Nat.le_of_ble_eq_true rfl) ⟨Nat.le_of_ble_eq_true rfl, Nat.le_of_ble_eq_true rfl⟩ (fun E g cn q2 => ?_)
  refine y_cons ?_
  refine y_putRE (pc := 17) (fs' := [.ref q1, .ref q2, .null, .null, .int 0, .int 0]) g cn dX6_init_17 fr_6_15 (Nat.le_of_ble_eq_true rfl) rfl ?_
  refine x_aload_n (pc := 20) (i := 0) (a := 0) g dX6_init_20 rfl rfl ?_
  refine x_iconst (pc := 21) g dX6_init_21 ic_4 ?_
  refine y_newa (pc := 22) (ty := .int) (t := 0) (N' := 4) (b := .inl (fun _ => 0)) g cn dX6_init_22 w_1_51 rfl rfl (fun _ => rfl) (by decide) (Nat.le_of_ble_eq_true rfl) ⟨Nat.le_of_ble_eq_true rfl, Nat.le_of_ble_eq_true rfl⟩ (fun E g cn q3 => ?_)
  refine y_cons ?_
  refine y_putRE (pc := 24) (fs' := [.ref q1, .ref q2, .ref q3, .null, .int 0, .int 0]) g cn dX6_init_24 fr_6_18 (Nat.le_of_ble_eq_true rfl) rfl ?_
  refine x_aload_n (pc := 27) (i := 0) (a := 0) g dX6_init_27 rfl rfl ?_
  refine x_bipush (pc := 28) g dX6_init_28 bi_6 ?_
  refine y_newa (pc := 30) (ty := .int) (t := 0) (N' := 6) (b := .inl (fun _ => 0)) g cn dX6_init_30 w_1_51 rfl rfl (fun _ => rfl) (by decide) (Nat.le_of_ble_eq_true rfl) ⟨Nat.le_of_ble_eq_true rfl, Nat.le_of_ble_eq_true rfl⟩ (fun E g cn q4 => ?_)
  refine y_cons ?_
  refine y_putRE (pc := 32) (fs' := [.ref q1, .ref q2, .ref q3, .ref q4, .int 0, .int 0]) g cn dX6_init_32 fr_6_21 (Nat.le_of_ble_eq_true rfl) rfl ?_
  refine x_aload_n (pc := 35) (i := 0) (a := 0) g dX6_init_35 rfl rfl ?_
  refine x_iconst (pc := 36) g dX6_init_36 ic_0 ?_
  refine y_putE (pc := 37) (fs' := [.ref q1, .ref q2, .ref q3, .ref q4, .int 0, .int 0]) g dX6_init_37 fl_6_24 ft_6_4 ⟨rfl, rfl⟩ (Nat.le_of_ble_eq_true rfl) rfl ?_
  refine x_aload_n (pc := 40) (i := 0) (a := 0) g dX6_init_40 rfl rfl ?_
  refine x_iconst (pc := 41) g dX6_init_41 ic_m1 ?_
  refine y_putE (pc := 42) (fs' := [.ref q1, .ref q2, .ref q3, .ref q4, .int 0, .int ((-1))]) g dX6_init_42 fl_6_28 ft_6_5 ⟨rfl, rfl⟩ (Nat.le_of_ble_eq_true rfl) rfl ?_
  refine y_vret (pc := 45) g cn dX6_init_45 rfl (fun t hP hD => ?_)
  have e : ((q, .inr (5, [.ref q1, .ref q2, .ref q3, .ref q4, .int 0, .int ((-1))])) : Nat × va_E) :: ((((([] : va_W) ++ ([(q1, .inl (S.2.1 0, 81, .inl (fun _ => 0)))] : va_W)) ++ ([(q2, .inl (S.2.1 0, 81, .inl (fun _ => 0)))] : va_W)) ++ ([(q3, .inl (S.2.1 0, 4, .inl (fun _ => 0)))] : va_W)) ++ ([(q4, .inl (S.2.1 0, 6, .inl (fun _ => 0)))] : va_W)) = xwd (S, shR_Spots, 5, (adR_Spots q q1 q2 q3 q4)) mR_Spots := by
    rfl
  rw [e] at hP hD
  exact ⟨(adR_Spots q q1 q2 q3 q4), rfl, trivial, hP, hD⟩
def shR_House : Nat → xSh := fun k => ([.inl (2, [0, 0, 0, 0, 0, 0, 0, 0, 0, 3, 4, 5, 6, 13, 20]), .inr (1, 6, []), .inr (1, 6, []), .inr (1, 8, []), .inr (4, 6, [5, 6, 7, 8, 9, 10]), .inr (0, 3, []), .inr (0, 3, []), .inr (0, 3, []), .inr (0, 3, []), .inr (0, 3, []), .inr (0, 3, []), .inr (4, 6, [12, 13, 14, 15, 16, 17]), .inr (0, 4, []), .inr (0, 4, []), .inr (0, 4, []), .inr (0, 4, []), .inr (0, 4, []), .inr (0, 4, []), .inr (4, 8, [19, 20, 21, 22, 23, 24, 25, 26]), .inr (0, 6, []), .inr (0, 6, []), .inr (0, 6, []), .inr (0, 6, []), .inr (0, 6, []), .inr (0, 6, []), .inr (0, 6, []), .inr (0, 6, [])] : List xSh).getD k (.inr (9, 0, []))
def mR_House : xMem := (fun k j => if k = 0 then ([6, 6, 6, 17, 0, 0, 0, 0, 0, 0, 0, 0, 0, 0, 0] : List Int32).getD j 0 else 0, fun _ _ => 0)
def adR_House (q : Nat) (q1 : Nat) (q2 : Nat) (q3 : Nat) (q4 : Nat) (rq4 : Nat → Nat) (q5 : Nat) (rq5 : Nat → Nat) (q6 : Nat) (rq6 : Nat → Nat) : Nat → Nat := fun k => ([q, q1, q2, q3, q4, rq4 0, rq4 1, rq4 2, rq4 3, rq4 4, rq4 5, q5, rq5 0, rq5 1, rq5 2, rq5 3, rq5 4, rq5 5, q6, rq6 0, rq6 1, rq6 2, rq6 3, rq6 4, rq6 5, rq6 6, rq6 7] : List Nat).getD k 0
abbrev rm_y_House : Room := { frames := 1, cells := 26, slots := 130, locals := 40 }
theorem y_House (l : Launch) (S : xS) : yCt l S yX2_init cX2_init 1 rm_y_House 2 blX2 [] 26 130 shR_House 27 mR_House (fun _ => True) := by
  refine yCt_of (own := RX2) (lv := fun q => [(0, .ref q)]) (by decide) rfl rfl (fun q => Nat.le_of_ble_eq_true rfl) (fun q => rfl) (fun E q sz g cn => ?_)
  show Xg E _ 0 [(0, .ref q)] [] _ _
  refine x_aload_n (pc := 0) (i := 0) (a := 0) g dX2_init_0 rfl rfl ?_
  refine y_obj (pc := 1) g dX2_init_1 w_1_168 objW ⟨by decide, Nat.le_of_ble_eq_true rfl⟩ ?_
  refine x_aload_n (pc := 4) (i := 0) (a := 0) g dX2_init_4 rfl rfl ?_
  refine x_bipush (pc := 5) g dX2_init_5 bi_6 ?_
  refine y_putE (pc := 7) (fs' := [.int 6, .int 0, .int 0, .int 0, .int 0, .int 0, .int 0, .int 0, .int 0, .null, .null, .null, .null, .null, .null]) g dX2_init_7 fl_2_9 ft_2_0 ⟨rfl, rfl⟩ (Nat.le_of_ble_eq_true rfl) rfl ?_
  refine x_aload_n (pc := 10) (i := 0) (a := 0) g dX2_init_10 rfl rfl ?_
  refine x_bipush (pc := 11) g dX2_init_11 bi_6 ?_
  refine y_putE (pc := 13) (fs' := [.int 6, .int 6, .int 0, .int 0, .int 0, .int 0, .int 0, .int 0, .int 0, .null, .null, .null, .null, .null, .null]) g dX2_init_13 fl_2_15 ft_2_1 ⟨rfl, rfl⟩ (Nat.le_of_ble_eq_true rfl) rfl ?_
  refine x_aload_n (pc := 16) (i := 0) (a := 0) g dX2_init_16 rfl rfl ?_
  refine x_bipush (pc := 17) g dX2_init_17 bi_6 ?_
  refine y_putE (pc := 19) (fs' := [.int 6, .int 6, .int 6, .int 0, .int 0, .int 0, .int 0, .int 0, .int 0, .null, .null, .null, .null, .null, .null]) g dX2_init_19 fl_2_18 ft_2_2 ⟨rfl, rfl⟩ (Nat.le_of_ble_eq_true rfl) rfl ?_
  refine x_aload_n (pc := 22) (i := 0) (a := 0) g dX2_init_22 rfl rfl ?_
  refine x_bipush (pc := 23) g dX2_init_23 bi_17 ?_
  refine y_putE (pc := 25) (fs' := [.int 6, .int 6, .int 6, .int 17, .int 0, .int 0, .int 0, .int 0, .int 0, .null, .null, .null, .null, .null, .null]) g dX2_init_25 fl_2_21 ft_2_3 ⟨rfl, rfl⟩ (Nat.le_of_ble_eq_true rfl) rfl ?_
  refine x_aload_n (pc := 28) (i := 0) (a := 0) g dX2_init_28 rfl rfl ?_
  refine x_iconst (pc := 29) g dX2_init_29 ic_0 ?_
  refine y_putE (pc := 30) (fs' := [.int 6, .int 6, .int 6, .int 17, .int 0, .int 0, .int 0, .int 0, .int 0, .null, .null, .null, .null, .null, .null]) g dX2_init_30 fl_2_24 ft_2_4 ⟨rfl, rfl⟩ (Nat.le_of_ble_eq_true rfl) rfl ?_
  refine x_aload_n (pc := 33) (i := 0) (a := 0) g dX2_init_33 rfl rfl ?_
  refine x_iconst (pc := 34) g dX2_init_34 ic_0 ?_
  refine y_putE (pc := 35) (fs' := [.int 6, .int 6, .int 6, .int 17, .int 0, .int 0, .int 0, .int 0, .int 0, .null, .null, .null, .null, .null, .null]) g dX2_init_35 fl_2_28 ft_2_5 ⟨rfl, rfl⟩ (Nat.le_of_ble_eq_true rfl) rfl ?_
  refine x_aload_n (pc := 38) (i := 0) (a := 0) g dX2_init_38 rfl rfl ?_
  refine x_iconst (pc := 39) g dX2_init_39 ic_0 ?_
  refine y_putE (pc := 40) (fs' := [.int 6, .int 6, .int 6, .int 17, .int 0, .int 0, .int 0, .int 0, .int 0, .null, .null, .null, .null, .null, .null]) g dX2_init_40 fl_2_31 ft_2_6 ⟨rfl, rfl⟩ (Nat.le_of_ble_eq_true rfl) rfl ?_
  refine x_aload_n (pc := 43) (i := 0) (a := 0) g dX2_init_43 rfl rfl ?_
  refine x_iconst (pc := 44) g dX2_init_44 ic_0 ?_
  refine y_putE (pc := 45) (fs' := [.int 6, .int 6, .int 6, .int 17, .int 0, .int 0, .int 0, .int 0, .int 0, .null, .null, .null, .null, .null, .null]) g dX2_init_45 fl_2_34 ft_2_7 ⟨rfl, rfl⟩ (Nat.le_of_ble_eq_true rfl) rfl ?_
  refine x_aload_n (pc := 48) (i := 0) (a := 0) g dX2_init_48 rfl rfl ?_
  refine x_iconst (pc := 49) g dX2_init_49 ic_0 ?_
  refine y_putE (pc := 50) (fs' := [.int 6, .int 6, .int 6, .int 17, .int 0, .int 0, .int 0, .int 0, .int 0, .null, .null, .null, .null, .null, .null]) g dX2_init_50 fl_2_37 ft_2_8 ⟨rfl, rfl⟩ (Nat.le_of_ble_eq_true rfl) rfl ?_
  refine x_aload_n (pc := 53) (i := 0) (a := 0) g dX2_init_53 rfl rfl ?_
  refine x_bipush (pc := 54) g dX2_init_54 bi_6 ?_
  refine y_newa (pc := 56) (ty := .long) (t := 1) (N' := 6) (b := .inr (.inl (fun _ => 0))) g cn dX2_init_56 w_1_155 rfl rfl (fun _ => rfl) (by decide) (Nat.le_of_ble_eq_true rfl) ⟨Nat.le_of_ble_eq_true rfl, Nat.le_of_ble_eq_true rfl⟩ (fun E g cn q1 => ?_)
  refine y_cons ?_
  refine y_putRE (pc := 58) (fs' := [.int 6, .int 6, .int 6, .int 17, .int 0, .int 0, .int 0, .int 0, .int 0, .ref q1, .null, .null, .null, .null, .null]) g cn dX2_init_58 fr_2_40 (Nat.le_of_ble_eq_true rfl) rfl ?_
  refine x_aload_n (pc := 61) (i := 0) (a := 0) g dX2_init_61 rfl rfl ?_
  refine x_bipush (pc := 62) g dX2_init_62 bi_6 ?_
  refine y_newa (pc := 64) (ty := .long) (t := 1) (N' := 6) (b := .inr (.inl (fun _ => 0))) g cn dX2_init_64 w_1_155 rfl rfl (fun _ => rfl) (by decide) (Nat.le_of_ble_eq_true rfl) ⟨Nat.le_of_ble_eq_true rfl, Nat.le_of_ble_eq_true rfl⟩ (fun E g cn q2 => ?_)
  refine y_cons ?_
  refine y_putRE (pc := 66) (fs' := [.int 6, .int 6, .int 6, .int 17, .int 0, .int 0, .int 0, .int 0, .int 0, .ref q1, .ref q2, .null, .null, .null, .null]) g cn dX2_init_66 fr_2_44 (Nat.le_of_ble_eq_true rfl) rfl ?_
  refine x_aload_n (pc := 69) (i := 0) (a := 0) g dX2_init_69 rfl rfl ?_
  refine x_bipush (pc := 70) g dX2_init_70 bi_8 ?_
  refine y_newa (pc := 72) (ty := .long) (t := 1) (N' := 8) (b := .inr (.inl (fun _ => 0))) g cn dX2_init_72 w_1_155 rfl rfl (fun _ => rfl) (by decide) (Nat.le_of_ble_eq_true rfl) ⟨Nat.le_of_ble_eq_true rfl, Nat.le_of_ble_eq_true rfl⟩ (fun E g cn q3 => ?_)
  refine y_cons ?_
  refine y_putRE (pc := 74) (fs' := [.int 6, .int 6, .int 6, .int 17, .int 0, .int 0, .int 0, .int 0, .int 0, .ref q1, .ref q2, .ref q3, .null, .null, .null]) g cn dX2_init_74 fr_2_47 (Nat.le_of_ble_eq_true rfl) rfl ?_
  refine x_aload_n (pc := 77) (i := 0) (a := 0) g dX2_init_77 rfl rfl ?_
  refine x_bipush (pc := 78) g dX2_init_78 bi_6 ?_
  refine x_iconst (pc := 80) g dX2_init_80 ic_3 ?_
  refine y_mna (pc := 81) (N' := 6) (K' := 3) g cn dX2_init_81 ⟨w_1_169, w_1_51⟩ (by decide) (by decide) ⟨by decide, by decide⟩ ⟨Nat.le_of_ble_eq_true rfl, Nat.le_of_ble_eq_true rfl⟩ (fun E g cn q4 rq4 => ?_)
  refine y_cons2 ?_
  refine y_putRE (pc := 85) (fs' := [.int 6, .int 6, .int 6, .int 17, .int 0, .int 0, .int 0, .int 0, .int 0, .ref q1, .ref q2, .ref q3, .ref q4, .null, .null]) g cn dX2_init_85 fr_2_52 (Nat.le_of_ble_eq_true rfl) rfl ?_
  refine x_aload_n (pc := 88) (i := 0) (a := 0) g dX2_init_88 rfl rfl ?_
  refine x_bipush (pc := 89) g dX2_init_89 bi_6 ?_
  refine x_iconst (pc := 91) g dX2_init_91 ic_4 ?_
  refine y_mna (pc := 92) (N' := 6) (K' := 4) g cn dX2_init_92 ⟨w_1_169, w_1_51⟩ (by decide) (by decide) ⟨by decide, by decide⟩ ⟨Nat.le_of_ble_eq_true rfl, Nat.le_of_ble_eq_true rfl⟩ (fun E g cn q5 rq5 => ?_)
  refine y_cons2 ?_
  refine y_putRE (pc := 96) (fs' := [.int 6, .int 6, .int 6, .int 17, .int 0, .int 0, .int 0, .int 0, .int 0, .ref q1, .ref q2, .ref q3, .ref q4, .ref q5, .null]) g cn dX2_init_96 fr_2_55 (Nat.le_of_ble_eq_true rfl) rfl ?_
  refine x_aload_n (pc := 99) (i := 0) (a := 0) g dX2_init_99 rfl rfl ?_
  refine x_bipush (pc := 100) g dX2_init_100 bi_8 ?_
  refine x_bipush (pc := 102) g dX2_init_102 bi_6 ?_
  refine y_mna (pc := 104) (N' := 8) (K' := 6) g cn dX2_init_104 ⟨w_1_169, w_1_51⟩ (by decide) (by decide) ⟨by decide, by decide⟩ ⟨Nat.le_of_ble_eq_true rfl, Nat.le_of_ble_eq_true rfl⟩ (fun E g cn q6 rq6 => ?_)
  refine y_cons2 ?_
  refine y_putRE (pc := 108) (fs' := [.int 6, .int 6, .int 6, .int 17, .int 0, .int 0, .int 0, .int 0, .int 0, .ref q1, .ref q2, .ref q3, .ref q4, .ref q5, .ref q6]) g cn dX2_init_108 fr_2_58 (Nat.le_of_ble_eq_true rfl) rfl ?_
  refine y_vret (pc := 111) g cn dX2_init_111 rfl (fun t hP hD => ?_)
  have e : ((q, .inr (2, [.int 6, .int 6, .int 6, .int 17, .int 0, .int 0, .int 0, .int 0, .int 0, .ref q1, .ref q2, .ref q3, .ref q4, .ref q5, .ref q6])) : Nat × va_E) :: (((((((((([] : va_W) ++ ([(q1, .inl (S.2.1 1, 6, Sum.inr (.inl (fun _ => 0))))] : va_W)) ++ ([(q2, .inl (S.2.1 1, 6, Sum.inr (.inl (fun _ => 0))))] : va_W)) ++ ([(q3, .inl (S.2.1 1, 8, Sum.inr (.inl (fun _ => 0))))] : va_W)) ++ ([(q4, .inl (S.2.1 4, 6, .inr (.inr (.inr (.inr (fun i => if i < 6 then some (rq4 i) else none))))))] : va_W)) ++ (List.range 6).map (fun i => (rq4 i, .inl (S.2.1 0, 3, .inl (fun _ => 0))))) ++ ([(q5, .inl (S.2.1 4, 6, .inr (.inr (.inr (.inr (fun i => if i < 6 then some (rq5 i) else none))))))] : va_W)) ++ (List.range 6).map (fun i => (rq5 i, .inl (S.2.1 0, 4, .inl (fun _ => 0))))) ++ ([(q6, .inl (S.2.1 4, 8, .inr (.inr (.inr (.inr (fun i => if i < 8 then some (rq6 i) else none))))))] : va_W)) ++ (List.range 8).map (fun i => (rq6 i, .inl (S.2.1 0, 6, .inl (fun _ => 0))))) = xwd (S, shR_House, 27, (adR_House q q1 q2 q3 q4 rq4 q5 rq5 q6 rq6)) mR_House := by
    rw [grid_eq (N := 6) (b := 5) (r := rq4) (ad := (adR_House q q1 q2 q3 q4 rq4 q5 rq5 q6 rq6)) (rs := [5, 6, 7, 8, 9, 10]) rfl (lt_s (lt_s (lt_s (lt_s (lt_s (lt_s (lt_0) rfl) rfl) rfl) rfl) rfl) rfl)]
    rw [grid_eq (N := 6) (b := 12) (r := rq5) (ad := (adR_House q q1 q2 q3 q4 rq4 q5 rq5 q6 rq6)) (rs := [12, 13, 14, 15, 16, 17]) rfl (lt_s (lt_s (lt_s (lt_s (lt_s (lt_s (lt_0) rfl) rfl) rfl) rfl) rfl) rfl)]
    rw [grid_eq (N := 8) (b := 19) (r := rq6) (ad := (adR_House q q1 q2 q3 q4 rq4 q5 rq5 q6 rq6)) (rs := [19, 20, 21, 22, 23, 24, 25, 26]) rfl (lt_s (lt_s (lt_s (lt_s (lt_s (lt_s (lt_s (lt_s (lt_0) rfl) rfl) rfl) rfl) rfl) rfl) rfl) rfl)]
    rfl
  rw [e] at hP hD
  exact ⟨(adR_House q q1 q2 q3 q4 rq4 q5 rq5 q6 rq6), rfl, trivial, hP, hD⟩
def shR_Best : Nat → xSh := fun k => ([.inl (0, [3, 10, 11, 0, 0]), .inr (4, 6, [2, 3, 4, 5, 6, 7]), .inr (0, 6, []), .inr (0, 6, []), .inr (0, 6, []), .inr (0, 6, []), .inr (0, 6, []), .inr (0, 6, []), .inr (0, 6, []), .inr (0, 6, [])] : List xSh).getD k (.inr (9, 0, []))
def mR_Best : xMem := (fun k j => if k = 0 then ([0, 0, 0, 0, 0] : List Int32).getD j 0 else 0, fun _ _ => 0)
def adR_Best (q : Nat) (q1 : Nat) (rq1 : Nat → Nat) (q2 : Nat) (q3 : Nat) : Nat → Nat := fun k => ([q, q1, rq1 0, rq1 1, rq1 2, rq1 3, rq1 4, rq1 5, q2, q3] : List Nat).getD k 0
abbrev rm_y_Best : Room := { frames := 1, cells := 9, slots := 54, locals := 40 }
theorem y_Best (l : Launch) (S : xS) : yCt l S yX0_init cX0_init 1 rm_y_Best 0 blX0 [] 9 54 shR_Best 10 mR_Best (fun _ => True) := by
  refine yCt_of (own := RX0) (lv := fun q => [(0, .ref q)]) (by decide) rfl rfl (fun q => Nat.le_of_ble_eq_true rfl) (fun q => rfl) (fun E q sz g cn => ?_)
  show Xg E _ 0 [(0, .ref q)] [] _ _
  refine x_aload_n (pc := 0) (i := 0) (a := 0) g dX0_init_0 rfl rfl ?_
  refine y_obj (pc := 1) g dX0_init_1 w_2_206 objW ⟨by decide, Nat.le_of_ble_eq_true rfl⟩ ?_
  refine x_aload_n (pc := 4) (i := 0) (a := 0) g dX0_init_4 rfl rfl ?_
  refine x_bipush (pc := 5) g dX0_init_5 bi_6 ?_
  refine x_bipush (pc := 7) g dX0_init_7 bi_6 ?_
  refine y_mna (pc := 9) (N' := 6) (K' := 6) g cn dX0_init_9 ⟨w_2_207, w_1_51⟩ (by decide) (by decide) ⟨by decide, by decide⟩ ⟨Nat.le_of_ble_eq_true rfl, Nat.le_of_ble_eq_true rfl⟩ (fun E g cn q1 rq1 => ?_)
  refine y_cons2 ?_
  refine y_putRE (pc := 13) (fs' := [.ref q1, .null, .null, .int 0, .int 0]) g cn dX0_init_13 fr_0_11 (Nat.le_of_ble_eq_true rfl) rfl ?_
  refine x_aload_n (pc := 16) (i := 0) (a := 0) g dX0_init_16 rfl rfl ?_
  refine x_bipush (pc := 17) g dX0_init_17 bi_6 ?_
  refine y_newa (pc := 19) (ty := .int) (t := 0) (N' := 6) (b := .inl (fun _ => 0)) g cn dX0_init_19 w_1_51 rfl rfl (fun _ => rfl) (by decide) (Nat.le_of_ble_eq_true rfl) ⟨Nat.le_of_ble_eq_true rfl, Nat.le_of_ble_eq_true rfl⟩ (fun E g cn q2 => ?_)
  refine y_cons ?_
  refine y_putRE (pc := 21) (fs' := [.ref q1, .ref q2, .null, .int 0, .int 0]) g cn dX0_init_21 fr_0_16 (Nat.le_of_ble_eq_true rfl) rfl ?_
  refine x_aload_n (pc := 24) (i := 0) (a := 0) g dX0_init_24 rfl rfl ?_
  refine x_bipush (pc := 25) g dX0_init_25 bi_6 ?_
  refine y_newa (pc := 27) (ty := .int) (t := 0) (N' := 6) (b := .inl (fun _ => 0)) g cn dX0_init_27 w_1_51 rfl rfl (fun _ => rfl) (by decide) (Nat.le_of_ble_eq_true rfl) ⟨Nat.le_of_ble_eq_true rfl, Nat.le_of_ble_eq_true rfl⟩ (fun E g cn q3 => ?_)
  refine y_cons ?_
  refine y_putRE (pc := 29) (fs' := [.ref q1, .ref q2, .ref q3, .int 0, .int 0]) g cn dX0_init_29 fr_0_20 (Nat.le_of_ble_eq_true rfl) rfl ?_
  refine x_aload_n (pc := 32) (i := 0) (a := 0) g dX0_init_32 rfl rfl ?_
  refine x_iconst (pc := 33) g dX0_init_33 ic_0 ?_
  refine y_putE (pc := 34) (fs' := [.ref q1, .ref q2, .ref q3, .int 0, .int 0]) g dX0_init_34 fl_0_23 ft_0_3 ⟨rfl, rfl⟩ (Nat.le_of_ble_eq_true rfl) rfl ?_
  refine x_aload_n (pc := 37) (i := 0) (a := 0) g dX0_init_37 rfl rfl ?_
  refine x_iconst (pc := 38) g dX0_init_38 ic_0 ?_
  refine y_putE (pc := 39) (fs' := [.ref q1, .ref q2, .ref q3, .int 0, .int 0]) g dX0_init_39 fl_0_27 ft_0_4 ⟨rfl, rfl⟩ (Nat.le_of_ble_eq_true rfl) rfl ?_
  refine y_vret (pc := 42) g cn dX0_init_42 rfl (fun t hP hD => ?_)
  have e : ((q, .inr (0, [.ref q1, .ref q2, .ref q3, .int 0, .int 0])) : Nat × va_E) :: ((((([] : va_W) ++ ([(q1, .inl (S.2.1 4, 6, .inr (.inr (.inr (.inr (fun i => if i < 6 then some (rq1 i) else none))))))] : va_W)) ++ (List.range 6).map (fun i => (rq1 i, .inl (S.2.1 0, 6, .inl (fun _ => 0))))) ++ ([(q2, .inl (S.2.1 0, 6, .inl (fun _ => 0)))] : va_W)) ++ ([(q3, .inl (S.2.1 0, 6, .inl (fun _ => 0)))] : va_W)) = xwd (S, shR_Best, 10, (adR_Best q q1 rq1 q2 q3)) mR_Best := by
    rw [grid_eq (N := 6) (b := 2) (r := rq1) (ad := (adR_Best q q1 rq1 q2 q3)) (rs := [2, 3, 4, 5, 6, 7]) rfl (lt_s (lt_s (lt_s (lt_s (lt_s (lt_s (lt_0) rfl) rfl) rfl) rfl) rfl) rfl)]
    rfl
  rw [e] at hP hD
  exact ⟨(adR_Best q q1 rq1 q2 q3), rfl, trivial, hP, hD⟩
def shR_Book : Nat → xSh := fun k => ([.inl (1, [3, 0, 0, 0, 0, 0, 0]), .inr (4, 40, [2, 3, 4, 5, 6, 7, 8, 9, 10, 11, 12, 13, 14, 15, 16, 17, 18, 19, 20, 21, 22, 23, 24, 25, 26, 27, 28, 29, 30, 31, 32, 33, 34, 35, 36, 37, 38, 39, 40, 41]), .inr (0, 4, []), .inr (0, 4, []), .inr (0, 4, []), .inr (0, 4, []), .inr (0, 4, []), .inr (0, 4, []), .inr (0, 4, []), .inr (0, 4, []), .inr (0, 4, []), .inr (0, 4, []), .inr (0, 4, []), .inr (0, 4, []), .inr (0, 4, []), .inr (0, 4, []), .inr (0, 4, []), .inr (0, 4, []), .inr (0, 4, []), .inr (0, 4, []), .inr (0, 4, []), .inr (0, 4, []), .inr (0, 4, []), .inr (0, 4, []), .inr (0, 4, []), .inr (0, 4, []), .inr (0, 4, []), .inr (0, 4, []), .inr (0, 4, []), .inr (0, 4, []), .inr (0, 4, []), .inr (0, 4, []), .inr (0, 4, []), .inr (0, 4, []), .inr (0, 4, []), .inr (0, 4, []), .inr (0, 4, []), .inr (0, 4, []), .inr (0, 4, []), .inr (0, 4, []), .inr (0, 4, []), .inr (0, 4, [])] : List xSh).getD k (.inr (9, 0, []))
def mR_Book : xMem := (fun k j => if k = 0 then ([0, 0, 0, 0, 0, 0, 0] : List Int32).getD j 0 else 0, fun _ _ => 0)
def adR_Book (q : Nat) (q1 : Nat) (rq1 : Nat → Nat) : Nat → Nat := fun k => ([q, q1, rq1 0, rq1 1, rq1 2, rq1 3, rq1 4, rq1 5, rq1 6, rq1 7, rq1 8, rq1 9, rq1 10, rq1 11, rq1 12, rq1 13, rq1 14, rq1 15, rq1 16, rq1 17, rq1 18, rq1 19, rq1 20, rq1 21, rq1 22, rq1 23, rq1 24, rq1 25, rq1 26, rq1 27, rq1 28, rq1 29, rq1 30, rq1 31, rq1 32, rq1 33, rq1 34, rq1 35, rq1 36, rq1 37, rq1 38, rq1 39] : List Nat).getD k 0
abbrev rm_y_Book : Room := { frames := 1, cells := 41, slots := 200, locals := 40 }
theorem y_Book (l : Launch) (S : xS) : yCt l S yX1_init cX1_init 1 rm_y_Book 1 blX1 [] 41 200 shR_Book 42 mR_Book (fun _ => True) := by
  refine yCt_of (own := RX1) (lv := fun q => [(0, .ref q)]) (by decide) rfl rfl (fun q => Nat.le_of_ble_eq_true rfl) (fun q => rfl) (fun E q sz g cn => ?_)
  show Xg E _ 0 [(0, .ref q)] [] _ _
  refine x_aload_n (pc := 0) (i := 0) (a := 0) g dX1_init_0 rfl rfl ?_
  refine y_obj (pc := 1) g dX1_init_1 w_2_123 objW ⟨by decide, Nat.le_of_ble_eq_true rfl⟩ ?_
  refine x_aload_n (pc := 4) (i := 0) (a := 0) g dX1_init_4 rfl rfl ?_
  refine x_bipush (pc := 5) g dX1_init_5 bi_40 ?_
  refine x_iconst (pc := 7) g dX1_init_7 ic_4 ?_
  refine y_mna (pc := 8) (N' := 40) (K' := 4) g cn dX1_init_8 ⟨w_2_124, w_1_51⟩ (by decide) (by decide) ⟨by decide, by decide⟩ ⟨Nat.le_of_ble_eq_true rfl, Nat.le_of_ble_eq_true rfl⟩ (fun E g cn q1 rq1 => ?_)
  refine y_cons2 ?_
  refine y_putRE (pc := 12) (fs' := [.ref q1, .int 0, .int 0, .int 0, .int 0, .int 0, .int 0]) g cn dX1_init_12 fr_1_13 (Nat.le_of_ble_eq_true rfl) rfl ?_
  refine x_aload_n (pc := 15) (i := 0) (a := 0) g dX1_init_15 rfl rfl ?_
  refine x_iconst (pc := 16) g dX1_init_16 ic_0 ?_
  refine y_putE (pc := 17) (fs' := [.ref q1, .int 0, .int 0, .int 0, .int 0, .int 0, .int 0]) g dX1_init_17 fl_1_16 ft_1_1 ⟨rfl, rfl⟩ (Nat.le_of_ble_eq_true rfl) rfl ?_
  refine x_aload_n (pc := 20) (i := 0) (a := 0) g dX1_init_20 rfl rfl ?_
  refine x_iconst (pc := 21) g dX1_init_21 ic_0 ?_
  refine y_putE (pc := 22) (fs' := [.ref q1, .int 0, .int 0, .int 0, .int 0, .int 0, .int 0]) g dX1_init_22 fl_1_20 ft_1_2 ⟨rfl, rfl⟩ (Nat.le_of_ble_eq_true rfl) rfl ?_
  refine x_aload_n (pc := 25) (i := 0) (a := 0) g dX1_init_25 rfl rfl ?_
  refine x_iconst (pc := 26) g dX1_init_26 ic_0 ?_
  refine y_putE (pc := 27) (fs' := [.ref q1, .int 0, .int 0, .int 0, .int 0, .int 0, .int 0]) g dX1_init_27 fl_1_24 ft_1_3 ⟨rfl, rfl⟩ (Nat.le_of_ble_eq_true rfl) rfl ?_
  refine x_aload_n (pc := 30) (i := 0) (a := 0) g dX1_init_30 rfl rfl ?_
  refine x_iconst (pc := 31) g dX1_init_31 ic_0 ?_
  refine y_putE (pc := 32) (fs' := [.ref q1, .int 0, .int 0, .int 0, .int 0, .int 0, .int 0]) g dX1_init_32 fl_1_27 ft_1_4 ⟨rfl, rfl⟩ (Nat.le_of_ble_eq_true rfl) rfl ?_
  refine x_aload_n (pc := 35) (i := 0) (a := 0) g dX1_init_35 rfl rfl ?_
  refine x_iconst (pc := 36) g dX1_init_36 ic_0 ?_
  refine y_putE (pc := 37) (fs' := [.ref q1, .int 0, .int 0, .int 0, .int 0, .int 0, .int 0]) g dX1_init_37 fl_1_30 ft_1_5 ⟨rfl, rfl⟩ (Nat.le_of_ble_eq_true rfl) rfl ?_
  refine x_aload_n (pc := 40) (i := 0) (a := 0) g dX1_init_40 rfl rfl ?_
  refine x_iconst (pc := 41) g dX1_init_41 ic_0 ?_
  refine y_putE (pc := 42) (fs' := [.ref q1, .int 0, .int 0, .int 0, .int 0, .int 0, .int 0]) g dX1_init_42 fl_1_33 ft_1_6 ⟨rfl, rfl⟩ (Nat.le_of_ble_eq_true rfl) rfl ?_
  refine y_vret (pc := 45) g cn dX1_init_45 rfl (fun t hP hD => ?_)
  have e : ((q, .inr (1, [.ref q1, .int 0, .int 0, .int 0, .int 0, .int 0, .int 0])) : Nat × va_E) :: ((([] : va_W) ++ ([(q1, .inl (S.2.1 4, 40, .inr (.inr (.inr (.inr (fun i => if i < 40 then some (rq1 i) else none))))))] : va_W)) ++ (List.range 40).map (fun i => (rq1 i, .inl (S.2.1 0, 4, .inl (fun _ => 0))))) = xwd (S, shR_Book, 42, (adR_Book q q1 rq1)) mR_Book := by
    rw [grid_eq (N := 40) (b := 2) (r := rq1) (ad := (adR_Book q q1 rq1)) (rs := [2, 3, 4, 5, 6, 7, 8, 9, 10, 11, 12, 13, 14, 15, 16, 17, 18, 19, 20, 21, 22, 23, 24, 25, 26, 27, 28, 29, 30, 31, 32, 33, 34, 35, 36, 37, 38, 39, 40, 41]) rfl (lt_s (lt_s (lt_s (lt_s (lt_s (lt_s (lt_s (lt_s (lt_s (lt_s (lt_s (lt_s (lt_s (lt_s (lt_s (lt_s (lt_s (lt_s (lt_s (lt_s (lt_s (lt_s (lt_s (lt_s (lt_s (lt_s (lt_s (lt_s (lt_s (lt_s (lt_s (lt_s (lt_s (lt_s (lt_s (lt_s (lt_s (lt_s (lt_s (lt_s (lt_0) rfl) rfl) rfl) rfl) rfl) rfl) rfl) rfl) rfl) rfl) rfl) rfl) rfl) rfl) rfl) rfl) rfl) rfl) rfl) rfl) rfl) rfl) rfl) rfl) rfl) rfl) rfl) rfl) rfl) rfl) rfl) rfl) rfl) rfl) rfl) rfl) rfl) rfl) rfl) rfl)]
    rfl
  rw [e] at hP hD
  exact ⟨(adR_Book q q1 rq1), rfl, trivial, hP, hD⟩
