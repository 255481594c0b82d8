theorem w_1_60 : (Jvm.Cond.instanceMethod ({ cls := "java/lang/String", name := "length", desc := "()I" } : Jvm.MethodName)) ∈ GT := GT_in (tlw (tin_1 (List.mem_of_getElem? (i := 60) rfl))) rfl
theorem w_1_61 : (Jvm.Cond.selects "java/lang/String" ({ cls := "java/lang/String", name := "length", desc := "()I" } : Jvm.MethodName) ({ cls := "java/lang/String", name := "length", desc := "()I" } : Jvm.MethodName)) ∈ GT := GT_in (tlw (tin_1 (List.mem_of_getElem? (i := 61) rfl))) rfl
theorem w_1_62 : (Jvm.Cond.code ({ cls := "java/lang/String", name := "length", desc := "()I" } : Jvm.MethodName) prog_21_method_54_code (1 : Nat) (Option.some Jvm.ClassFile.FieldType.int)) ∈ GT := GT_in (tlw (tin_1 (List.mem_of_getElem? (i := 62) rfl))) rfl
theorem w_1_70 : (Jvm.Cond.instanceMethod ({ cls := "java/lang/String", name := "charAt", desc := "(I)C" } : Jvm.MethodName)) ∈ GT := GT_in (tlw (tin_1 (List.mem_of_getElem? (i := 70) rfl))) rfl
theorem w_1_71 : (Jvm.Cond.selects "java/lang/String" ({ cls := "java/lang/String", name := "charAt", desc := "(I)C" } : Jvm.MethodName) ({ cls := "java/lang/String", name := "charAt", desc := "(I)C" } : Jvm.MethodName)) ∈ GT := GT_in (tlw (tin_1 (List.mem_of_getElem? (i := 71) rfl))) rfl
theorem w_1_72 : (Jvm.Cond.code ({ cls := "java/lang/String", name := "charAt", desc := "(I)C" } : Jvm.MethodName) prog_21_method_56_code (2 : Nat) (Option.some Jvm.ClassFile.FieldType.char)) ∈ GT := GT_in (tlw (tin_1 (List.mem_of_getElem? (i := 72) rfl))) rfl
theorem w_5_29 : (Jvm.Cond.methodLink "OwlsLent" (349 : Nat) ({ cls := "OwlsLent$Tape", name := "addName", desc := "(J)V" } : Jvm.MethodName)) ∈ GT := GT_in (tlw (tin_5 (List.mem_of_getElem? (i := 29) rfl))) rfl
theorem w_5_30 : (Jvm.Cond.instanceMethod ({ cls := "OwlsLent$Tape", name := "addName", desc := "(J)V" } : Jvm.MethodName)) ∈ GT := GT_in (tlw (tin_5 (List.mem_of_getElem? (i := 30) rfl))) rfl
theorem w_5_31 : (Jvm.Cond.selects "OwlsLent$Tape" ({ cls := "OwlsLent$Tape", name := "addName", desc := "(J)V" } : Jvm.MethodName) ({ cls := "OwlsLent$Tape", name := "addName", desc := "(J)V" } : Jvm.MethodName)) ∈ GT := GT_in (tlw (tin_5 (List.mem_of_getElem? (i := 31) rfl))) rfl
theorem w_5_32 : (Jvm.Cond.code ({ cls := "OwlsLent$Tape", name := "addName", desc := "(J)V" } : Jvm.MethodName) prog_10_method_6_code (5 : Nat) (Option.none : Option Jvm.ClassFile.FieldType)) ∈ GT := GT_in (tlw (tin_5 (List.mem_of_getElem? (i := 32) rfl))) rfl
theorem w_5_34 : (Jvm.Cond.methodLink "OwlsLent" (355 : Nat) ({ cls := "OwlsLent$Tape", name := "addText", desc := "(Ljava/lang/String;)V" } : Jvm.MethodName)) ∈ GT := GT_in (tlw (tin_5 (List.mem_of_getElem? (i := 34) rfl))) rfl
theorem w_5_35 : (Jvm.Cond.instanceMethod ({ cls := "OwlsLent$Tape", name := "addText", desc := "(Ljava/lang/String;)V" } : Jvm.MethodName)) ∈ GT := GT_in (tlw (tin_5 (List.mem_of_getElem? (i := 35) rfl))) rfl
theorem w_5_36 : (Jvm.Cond.selects "OwlsLent$Tape" ({ cls := "OwlsLent$Tape", name := "addText", desc := "(Ljava/lang/String;)V" } : Jvm.MethodName) ({ cls := "OwlsLent$Tape", name := "addText", desc := "(Ljava/lang/String;)V" } : Jvm.MethodName)) ∈ GT := GT_in (tlw (tin_5 (List.mem_of_getElem? (i := 36) rfl))) rfl
theorem w_5_37 : (Jvm.Cond.code ({ cls := "OwlsLent$Tape", name := "addText", desc := "(Ljava/lang/String;)V" } : Jvm.MethodName) prog_10_method_5_code (3 : Nat) (Option.none : Option Jvm.ClassFile.FieldType)) ∈ GT := GT_in (tlw (tin_5 (List.mem_of_getElem? (i := 37) rfl))) rfl
theorem w_5_38 : (Jvm.Cond.methodLink "OwlsLent$Tape" (27 : Nat) ({ cls := "java/lang/String", name := "length", desc := "()I" } : Jvm.MethodName)) ∈ GT := GT_in (tlw (tin_5 (List.mem_of_getElem? (i := 38) rfl))) rfl
theorem w_5_39 : (Jvm.Cond.methodLink "OwlsLent$Tape" (32 : Nat) ({ cls := "java/lang/String", name := "charAt", desc := "(I)C" } : Jvm.MethodName)) ∈ GT := GT_in (tlw (tin_5 (List.mem_of_getElem? (i := 39) rfl))) rfl
theorem nw_1_110 : (Jvm.Cond.fieldLinkNest "OwlsLent" (371 : Nat) "OwlsLent$Tokens" "reserved" "[J" "OwlsLent") ∈ NT := List.mem_filter.mpr ⟨tin_1 (List.mem_of_getElem? (i := 110) rfl), rfl⟩
theorem nw_1_212 : (Jvm.Cond.fieldLinkNest "OwlsLent" (345 : Nat) "OwlsLent$House" "bedName" "[J" "OwlsLent") ∈ NT := List.mem_filter.mpr ⟨tin_1 (List.mem_of_getElem? (i := 212) rfl), rfl⟩
theorem nw_1_217 : (Jvm.Cond.fieldLinkNest "OwlsLent" (360 : Nat) "OwlsLent$House" "owlName" "[J" "OwlsLent") ∈ NT := List.mem_filter.mpr ⟨tin_1 (List.mem_of_getElem? (i := 217) rfl), rfl⟩
theorem mls_8_27 : xMLs RX8 27 yJ0_length_8abf5 cJ0_length_8abf5 1 (some .int) 0 := ⟨w_5_38, w_1_60, w_1_61, w_1_5, w_1_62, by decide, by decide, rfl⟩
theorem mls_8_32 : xMLs RX8 32 yJ0_charAt_5068e cJ0_charAt_5068e 2 (some .char) 1 := ⟨w_5_39, w_1_70, w_1_71, w_1_5, w_1_72, by decide, by decide, rfl⟩
theorem fl_11_345 : xFL RX11 345 2 9 := ⟨RX2, TX2, 15, rfl, by decide, uw_2, rfl, Or.inr ⟨_, nw_1_212⟩⟩
theorem ml_11_349 : xML RX11 349 7 yX8_addName cX8_addName 5 none 1 := ⟨w_5_29, w_5_30, w_5_31, w_1_2, w_5_32, ⟨TX8, 2, rfl⟩, neM_8, neV_8, rfl⟩
theorem ml_11_355 : xML RX11 355 7 yX8_addText cX8_addText 3 none 1 := ⟨w_5_34, w_5_35, w_5_36, w_1_2, w_5_37, ⟨TX8, 2, rfl⟩, neM_8, neV_8, rfl⟩
theorem fl_11_360 : xFL RX11 360 2 10 := ⟨RX2, TX2, 15, rfl, by decide, uw_2, rfl, Or.inr ⟨_, nw_1_217⟩⟩
theorem fl_11_371 : xFL RX11 371 8 1 := ⟨RX9, TX9, 12, rfl, by decide, uw_9, rfl, Or.inr ⟨_, nw_1_110⟩⟩
abbrev rm_Tape_addText : Room := { frames := 4, cells := 0, slots := 0, locals := 85 }
def Tape_addText_b2 (o : Nat) (p0 : Nat) : Nat → Int32 → xMem → Option (xMem)
  | 0, _, _ => none
  | n + 1, v2, m =>
    if v2 < (nI (xLen.getD p0 0)) then
      (ix v2 (xLen.getD p0 0)).bind fun j1 =>
      (Tape_add m o (xChr p0 j1)).bind fun r2 =>
      Tape_addText_b2 o p0 n (v2 + 1) r2
    else
      some m
def Tape_addText (m : xMem) (o : Nat) (p0 : Nat) : Option (xMem) :=
  Tape_addText_b2 o p0 1000 0 m
abbrev rm_O_note : Room := { frames := 5, cells := 0, slots := 0, locals := 107 }
def O_note (m : xMem) (p0 : Int32) : Option (Int32 × xMem) :=
  (House_hasBed m 6 p0).bind fun r1 =>
  if r1 = 0 then
    some ((-1), m)
  else
    (State_owlAt m 33 6 p0).bind fun r2 =>
    nm (upI m 180 1 0) fun m3 =>
    (ix p0 6).bind fun j4 =>
    (Tape_addName m3 180 (m3.2 7 j4)).bind fun r5 =>
    if r2 = ((-1)) then
      (Tape_addText r5 180 1).bind fun r6 =>
      some (r6.1 180 1, r6)
    else
      (Tape_addText r5 180 2).bind fun r7 =>
      (ix r2 6).bind fun j8 =>
      (Tape_addName r7 180 (r7.2 8 j8)).bind fun r9 =>
      (State_lookOf r9 33 6 r2 p0 0).bind fun r10 =>
      (State_sideFrom r9 33 6 p0 r10).bind fun r11 =>
      (House_shutAt r9 6 (r9.1 33 0)).bind fun r12 =>
      if r12 = 0 then
        if r11 = ((-1)) then
          (Tape_addText r9 180 4).bind fun r13 =>
          some (r13.1 180 1, r13)
        else
          if r11 = 4 then
            (Tape_addText r9 180 5).bind fun r14 =>
            some (r14.1 180 1, r14)
          else
            (Tape_addText r9 180 6).bind fun r15 =>
            (ix (12 + r11) 32).bind fun j16 =>
            (Tape_addName r15 180 (r15.2 4 j16)).bind fun r17 =>
            some (r17.1 180 1, r17)
      else
        (Tape_addText r9 180 3).bind fun r18 =>
        some (r18.1 180 1, r18)
theorem T_Tape_addText_b2 {l : Launch} {G : xG} {E : xE} (hW : WC G) (g : xGood E l G.1 RX8 cX8_addText yX8_addText 3 none rm_Tape_addText) (o : Nat) (p0 : Nat) (ho : isTape o) (hp0 : p0 < 10) : ∀ (n : Nat) (v2 : Int32) (m : xMem), X E G (fun r : xMem => ((none : Option Value), r)) 2 [(0, .ref (xad G o)), (1, .ref (G.1.2.2.1 p0)), (2, .int v2)] [] m (Tape_addText_b2 o p0 n v2 m) := by
  intro n
  induction n with
  | zero => intro v2 m; exact x_none
  | succ n ih =>
    intro v2 m
    rw [Tape_addText_b2]
    refine x_iload_n (pc := 2) (i := 2) (a := 2) g dX8_addText_2 rfl rfl ?_
    refine x_aload_n (pc := 3) (i := 1) (a := 1) g dX8_addText_3 rfl rfl ?_
    refine x_slen (pc := 4) g dX8_addText_4 hp0 mls_8_27 (Nat.le_of_ble_eq_true rfl) ⟨rfl, rfl, Nat.le_of_ble_eq_true rfl, Nat.le_of_ble_eq_true rfl⟩ ?_
    refine x_icmp_ge (pc := 7) (t := 25) g dX8_addText_7 (by decide) ?_ ?_
    · refine x_aload_n (pc := 10) (i := 0) (a := 0) g dX8_addText_10 rfl rfl ?_
      refine x_aload_n (pc := 11) (i := 1) (a := 1) g dX8_addText_11 rfl rfl ?_
      refine x_iload_n (pc := 12) (i := 2) (a := 2) g dX8_addText_12 rfl rfl ?_
      refine x_schar (pc := 13) g dX8_addText_13 hp0 mls_8_32 (Nat.le_of_ble_eq_true rfl) ⟨rfl, rfl, Nat.le_of_ble_eq_true rfl, Nat.le_of_ble_eq_true rfl⟩ (fun j1 hj1 => ?_)
      refine x_Vv (pc := 16) g hW [.int (xChr p0 j1)] [] (c_Tape_add l G hW m o (xChr p0 j1) ho) dX8_addText_16 ml_8_23 (sTape ho) rfl rfl (Nat.le_of_ble_eq_true rfl) ⟨rfl, rfl, Nat.le_of_ble_eq_true rfl, Nat.le_of_ble_eq_true rfl⟩ (fun r2 hr2 => ?_)
      refine x_iinc (pc := 19) (a := 2) (lv' := [(2, .int (v2 + 1)), (0, .ref (xad G o)), (1, .ref (G.1.2.2.1 p0))]) g dX8_addText_19 ic_1 rfl (by decide) rfl ?_
      refine x_goto (pc := 22) (t := 2) g dX8_addText_22 (by decide) ?_
      exact x_sub [1, 2, 0] (ih (v2 + 1) r2) rfl
    · exact x_vret (pc := 25) g dX8_addText_25 rfl (fun _ h => h)
theorem T_Tape_addText {l : Launch} {G : xG} {E : xE} (hW : WC G) (g : xGood E l G.1 RX8 cX8_addText yX8_addText 3 none rm_Tape_addText) (m : xMem) (o : Nat) (p0 : Nat) (ho : isTape o) (hp0 : p0 < 10) : X E G (fun r : xMem => ((none : Option Value), r)) 0 [(0, .ref (xad G o)), (1, .ref (G.1.2.2.1 p0))] [] m (Tape_addText m o p0) := by
  unfold Tape_addText
  refine x_iconst (pc := 0) g dX8_addText_0 ic_0 ?_
  refine x_istore_n (pc := 1) (i := 2) (lv' := [(2, .int 0), (0, .ref (xad G o)), (1, .ref (G.1.2.2.1 p0))]) g dX8_addText_1 rfl (by decide) rfl ?_
  exact x_sub [1, 2, 0] (T_Tape_addText_b2 hW g o p0 ho hp0 1000 0 m) rfl
theorem c_Tape_addText (l : Launch) (G : xG) (hW : WC G) (m : xMem) (o : Nat) (p0 : Nat) (ho : isTape o) (hp0 : p0 < 10) : xCv l G yX8_addText cX8_addText 3 none rm_Tape_addText [.ref (xad G o), .ref (G.1.2.2.1 p0)] m (Tape_addText m o p0) :=
  xCt_of (own := RX8) (by decide) rfl (Nat.le_of_ble_eq_true rfl) rfl ⟨rfl, rfl⟩ (fun E g => T_Tape_addText hW g m o p0 ho hp0)
theorem T_O_note {l : Launch} {G : xG} {E : xE} (hW : WC G) (g : xGood E l G.1 RX11 cX11_note yX11_note 6 (some .int) rm_O_note) (m : xMem) (p0 : Int32) : X E G (fun r : Int32 × xMem => (some (Value.int r.1), r.2)) 0 [(0, .ref (xad G 0)), (1, .int p0)] [] m (O_note m p0) := by
  unfold O_note
  refine x_aload_n (pc := 0) (i := 0) (a := 0) g dX11_note_0 rfl rfl ?_
  refine x_getR (pc := 1) (x := 5) g hW dX11_note_1 fl_11_30 (sOwlsLent isOwlsLent_0) rfl ?_
  refine x_getR (pc := 4) (x := 6) g hW dX11_note_4 fl_11_144 (sImage isImage_5) rfl ?_
  refine x_astore_n (pc := 7) (i := 2) (lv' := [(2, .ref (xad G 6)), (0, .ref (xad G 0)), (1, .int p0)]) g dX11_note_7 rfl (by decide) rfl ?_
  refine x_aload_n (pc := 8) (i := 0) (a := 1) g dX11_note_8 rfl rfl ?_
  refine x_getR (pc := 9) (x := 5) g hW dX11_note_9 fl_11_30 (sOwlsLent isOwlsLent_0) rfl ?_
  refine x_getR (pc := 12) (x := 33) g hW dX11_note_12 fl_11_147 (sImage isImage_5) rfl ?_
  refine x_astore_n (pc := 15) (i := 3) (lv' := [(3, .ref (xad G 33)), (2, .ref (xad G 6)), (0, .ref (xad G 0)), (1, .int p0)]) g dX11_note_15 rfl (by decide) rfl ?_
  refine x_aload_n (pc := 16) (i := 2) (a := 1) g dX11_note_16 rfl rfl ?_
  refine x_iload_n (pc := 17) (i := 1) (a := 3) g dX11_note_17 rfl rfl ?_
  refine x_Vi (pc := 18) g hW [.int p0] [] (c_House_hasBed l G hW m 6 p0 isHouse_6) dX11_note_18 ml_11_150 (sHouse isHouse_6) rfl rfl (Nat.le_of_ble_eq_true rfl) ⟨rfl, rfl, Nat.le_of_ble_eq_true rfl, Nat.le_of_ble_eq_true rfl⟩ (fun r1 hr1 => ?_)
  refine x_if_ne (pc := 21) (t := 26) g dX11_note_21 (by decide) ?_ ?_
  · refine x_iconst (pc := 24) g dX11_note_24 ic_m1 ?_
    exact x_iret (pc := 25) g dX11_note_25 rfl (fun _ h => h)
  · refine x_aload_n (pc := 26) (i := 3) (a := 0) g dX11_note_26 rfl rfl ?_
    refine x_aload_n (pc := 27) (i := 2) (a := 1) g dX11_note_27 rfl rfl ?_
    refine x_iload_n (pc := 28) (i := 1) (a := 3) g dX11_note_28 rfl rfl ?_
    refine x_Vi (pc := 29) g hW [.ref (xad G 6), .int p0] [] (c_State_owlAt l G hW m 33 6 p0 isState_33 isHouse_6) dX11_note_29 ml_11_165 (sState isState_33) rfl rfl (Nat.le_of_ble_eq_true rfl) ⟨rfl, rfl, Nat.le_of_ble_eq_true rfl, Nat.le_of_ble_eq_true rfl⟩ (fun r2 hr2 => ?_)
    refine x_istore (pc := 32) (lv' := [(4, .int r2), (3, .ref (xad G 33)), (2, .ref (xad G 6)), (0, .ref (xad G 0)), (1, .int p0)]) g dX11_note_32 (by decide) rfl ?_
    refine x_aload_n (pc := 34) (i := 0) (a := 3) g dX11_note_34 rfl rfl ?_
    refine x_getR (pc := 35) (x := 180) g hW dX11_note_35 fl_11_87 (sOwlsLent isOwlsLent_0) rfl ?_
    refine x_iconst (pc := 38) g dX11_note_38 ic_0 ?_
    refine x_putI (pc := 39) g hW dX11_note_39 fl_11_113 ft_8_1 (sTape isTape_180) rfl (fun m3 => ?_)
    refine x_aload_n (pc := 42) (i := 0) (a := 3) g dX11_note_42 rfl rfl ?_
    refine x_getR (pc := 43) (x := 180) g hW dX11_note_43 fl_11_87 (sOwlsLent isOwlsLent_0) rfl ?_
    refine x_aload_n (pc := 46) (i := 2) (a := 2) g dX11_note_46 rfl rfl ?_
    refine x_getR (pc := 47) (x := 7) g hW dX11_note_47 fl_11_345 (sHouse isHouse_6) rfl ?_
    refine x_iload_n (pc := 50) (i := 1) (a := 4) g dX11_note_50 rfl rfl ?_
    refine x_lald (pc := 51) g hW dX11_note_51 (sHouse_bedName isHouse_6) (fun j4 hj4 => ?_)
    refine x_Vv (pc := 52) g hW [.long (m3.2 7 j4)] [] (c_Tape_addName l G hW m3 180 (m3.2 7 j4) isTape_180) dX11_note_52 ml_11_349 (sTape isTape_180) rfl rfl (Nat.le_of_ble_eq_true rfl) ⟨rfl, rfl, Nat.le_of_ble_eq_true rfl, Nat.le_of_ble_eq_true rfl⟩ (fun r5 hr5 => ?_)
    refine x_iload (pc := 55) (a := 0) g dX11_note_55 rfl ?_
    refine x_iconst (pc := 57) g dX11_note_57 ic_m1 ?_
    refine x_icmp_ne (pc := 58) (t := 79) g dX11_note_58 (by decide) ?_ ?_
    · refine x_aload_n (pc := 61) (i := 0) (a := 3) g dX11_note_61 rfl rfl ?_
      refine x_getR (pc := 62) (x := 180) g hW dX11_note_62 fl_11_87 (sOwlsLent isOwlsLent_0) rfl ?_
      refine x_sldcw (pc := 65) (i := 1) g dX11_note_65 (by decide) ⟨rfl, rfl⟩ ?_
      refine x_Vv (pc := 68) g hW [.ref (G.1.2.2.1 1)] [] (c_Tape_addText l G hW r5 180 1 isTape_180 (by decide)) dX11_note_68 ml_11_355 (sTape isTape_180) rfl rfl (Nat.le_of_ble_eq_true rfl) ⟨rfl, rfl, Nat.le_of_ble_eq_true rfl, Nat.le_of_ble_eq_true rfl⟩ (fun r6 hr6 => ?_)
      refine x_aload_n (pc := 71) (i := 0) (a := 3) g dX11_note_71 rfl rfl ?_
      refine x_getR (pc := 72) (x := 180) g hW dX11_note_72 fl_11_87 (sOwlsLent isOwlsLent_0) rfl ?_
      refine x_getI (pc := 75) g hW dX11_note_75 fl_11_113 (sTape isTape_180) rfl ?_
      exact x_iret (pc := 78) g dX11_note_78 rfl (fun _ h => h)
    · refine x_aload_n (pc := 79) (i := 0) (a := 3) g dX11_note_79 rfl rfl ?_
      refine x_getR (pc := 80) (x := 180) g hW dX11_note_80 fl_11_87 (sOwlsLent isOwlsLent_0) rfl ?_
      refine x_sldcw (pc := 83) (i := 2) g dX11_note_83 (by decide) ⟨rfl, rfl⟩ ?_
      refine x_Vv (pc := 86) g hW [.ref (G.1.2.2.1 2)] [] (c_Tape_addText l G hW r5 180 2 isTape_180 (by decide)) dX11_note_86 ml_11_355 (sTape isTape_180) rfl rfl (Nat.le_of_ble_eq_true rfl) ⟨rfl, rfl, Nat.le_of_ble_eq_true rfl, Nat.le_of_ble_eq_true rfl⟩ (fun r7 hr7 => ?_)
      refine x_aload_n (pc := 89) (i := 0) (a := 3) g dX11_note_89 rfl rfl ?_
      refine x_getR (pc := 90) (x := 180) g hW dX11_note_90 fl_11_87 (sOwlsLent isOwlsLent_0) rfl ?_
      refine x_aload_n (pc := 93) (i := 2) (a := 2) g dX11_note_93 rfl rfl ?_
      refine x_getR (pc := 94) (x := 8) g hW dX11_note_94 fl_11_360 (sHouse isHouse_6) rfl ?_
      refine x_iload (pc := 97) (a := 0) g dX11_note_97 rfl ?_
      refine x_lald (pc := 99) g hW dX11_note_99 (sHouse_owlName isHouse_6) (fun j8 hj8 => ?_)
      refine x_Vv (pc := 100) g hW [.long (r7.2 8 j8)] [] (c_Tape_addName l G hW r7 180 (r7.2 8 j8) isTape_180) dX11_note_100 ml_11_349 (sTape isTape_180) rfl rfl (Nat.le_of_ble_eq_true rfl) ⟨rfl, rfl, Nat.le_of_ble_eq_true rfl, Nat.le_of_ble_eq_true rfl⟩ (fun r9 hr9 => ?_)
      refine x_aload_n (pc := 103) (i := 3) (a := 1) g dX11_note_103 rfl rfl ?_
      refine x_aload_n (pc := 104) (i := 2) (a := 2) g dX11_note_104 rfl rfl ?_
      refine x_iload_n (pc := 105) (i := 1) (a := 4) g dX11_note_105 rfl rfl ?_
      refine x_aload_n (pc := 106) (i := 3) (a := 1) g dX11_note_106 rfl rfl ?_
      refine x_aload_n (pc := 107) (i := 2) (a := 2) g dX11_note_107 rfl rfl ?_
      refine x_iload (pc := 108) (a := 0) g dX11_note_108 rfl ?_
      refine x_iload_n (pc := 110) (i := 1) (a := 4) g dX11_note_110 rfl rfl ?_
      refine x_iconst (pc := 111) g dX11_note_111 ic_0 ?_
      refine x_Vi (pc := 112) g hW [.ref (xad G 6), .int r2, .int p0, .int 0] [.int p0, .ref (xad G 6), .ref (xad G 33)] (c_State_lookOf l G hW r9 33 6 r2 p0 0 isState_33 isHouse_6) dX11_note_112 ml_11_186 (sState isState_33) rfl rfl (Nat.le_of_ble_eq_true rfl) ⟨rfl, rfl, Nat.le_of_ble_eq_true rfl, Nat.le_of_ble_eq_true rfl⟩ (fun r10 hr10 => ?_)
      refine x_Vi (pc := 115) g hW [.ref (xad G 6), .int p0, .int r10] [] (c_State_sideFrom l G hW r9 33 6 p0 r10 isState_33 isHouse_6) dX11_note_115 ml_11_190 (sState isState_33) rfl rfl (Nat.le_of_ble_eq_true rfl) ⟨rfl, rfl, Nat.le_of_ble_eq_true rfl, Nat.le_of_ble_eq_true rfl⟩ (fun r11 hr11 => ?_)
      refine x_istore (pc := 118) (lv' := [(5, .int r11), (4, .int r2), (3, .ref (xad G 33)), (2, .ref (xad G 6)), (0, .ref (xad G 0)), (1, .int p0)]) g dX11_note_118 (by decide) rfl ?_
      refine x_aload_n (pc := 120) (i := 2) (a := 3) g dX11_note_120 rfl rfl ?_
      refine x_aload_n (pc := 121) (i := 3) (a := 2) g dX11_note_121 rfl rfl ?_
      refine x_getI (pc := 122) g hW dX11_note_122 fl_11_206 (sState isState_33) rfl ?_
      refine x_Vi (pc := 125) g hW [.int (r9.1 33 0)] [] (c_House_shutAt l G hW r9 6 (r9.1 33 0) isHouse_6) dX11_note_125 ml_11_213 (sHouse isHouse_6) rfl rfl (Nat.le_of_ble_eq_true rfl) ⟨rfl, rfl, Nat.le_of_ble_eq_true rfl, Nat.le_of_ble_eq_true rfl⟩ (fun r12 hr12 => ?_)
      refine x_if_eq (pc := 128) (t := 144) g dX11_note_128 (by decide) ?_ ?_
      · refine x_iload (pc := 144) (a := 0) g dX11_note_144 rfl ?_
        refine x_iconst (pc := 146) g dX11_note_146 ic_m1 ?_
        refine x_icmp_ne (pc := 147) (t := 163) g dX11_note_147 (by decide) ?_ ?_
        · refine x_aload_n (pc := 150) (i := 0) (a := 4) g dX11_note_150 rfl rfl ?_
          refine x_getR (pc := 151) (x := 180) g hW dX11_note_151 fl_11_87 (sOwlsLent isOwlsLent_0) rfl ?_
          refine x_sldcw (pc := 154) (i := 4) g dX11_note_154 (by decide) ⟨rfl, rfl⟩ ?_
          refine x_Vv (pc := 157) g hW [.ref (G.1.2.2.1 4)] [] (c_Tape_addText l G hW r9 180 4 isTape_180 (by decide)) dX11_note_157 ml_11_355 (sTape isTape_180) rfl rfl (Nat.le_of_ble_eq_true rfl) ⟨rfl, rfl, Nat.le_of_ble_eq_true rfl, Nat.le_of_ble_eq_true rfl⟩ (fun r13 hr13 => ?_)
          refine x_goto (pc := 160) (t := 212) g dX11_note_160 (by decide) ?_
          refine x_aload_n (pc := 212) (i := 0) (a := 4) g dX11_note_212 rfl rfl ?_
          refine x_getR (pc := 213) (x := 180) g hW dX11_note_213 fl_11_87 (sOwlsLent isOwlsLent_0) rfl ?_
          refine x_getI (pc := 216) g hW dX11_note_216 fl_11_113 (sTape isTape_180) rfl ?_
          exact x_iret (pc := 219) g dX11_note_219 rfl (fun _ h => h)
        · refine x_iload (pc := 163) (a := 0) g dX11_note_163 rfl ?_
          refine x_iconst (pc := 165) g dX11_note_165 ic_4 ?_
          refine x_icmp_ne (pc := 166) (t := 182) g dX11_note_166 (by decide) ?_ ?_
          · refine x_aload_n (pc := 169) (i := 0) (a := 4) g dX11_note_169 rfl rfl ?_
            refine x_getR (pc := 170) (x := 180) g hW dX11_note_170 fl_11_87 (sOwlsLent isOwlsLent_0) rfl ?_
            refine x_sldcw (pc := 173) (i := 5) g dX11_note_173 (by decide) ⟨rfl, rfl⟩ ?_
            refine x_Vv (pc := 176) g hW [.ref (G.1.2.2.1 5)] [] (c_Tape_addText l G hW r9 180 5 isTape_180 (by decide)) dX11_note_176 ml_11_355 (sTape isTape_180) rfl rfl (Nat.le_of_ble_eq_true rfl) ⟨rfl, rfl, Nat.le_of_ble_eq_true rfl, Nat.le_of_ble_eq_true rfl⟩ (fun r14 hr14 => ?_)
            refine x_goto (pc := 179) (t := 212) g dX11_note_179 (by decide) ?_
            refine x_aload_n (pc := 212) (i := 0) (a := 4) g dX11_note_212 rfl rfl ?_
            refine x_getR (pc := 213) (x := 180) g hW dX11_note_213 fl_11_87 (sOwlsLent isOwlsLent_0) rfl ?_
            refine x_getI (pc := 216) g hW dX11_note_216 fl_11_113 (sTape isTape_180) rfl ?_
            exact x_iret (pc := 219) g dX11_note_219 rfl (fun _ h => h)
          · refine x_aload_n (pc := 182) (i := 0) (a := 4) g dX11_note_182 rfl rfl ?_
            refine x_getR (pc := 183) (x := 180) g hW dX11_note_183 fl_11_87 (sOwlsLent isOwlsLent_0) rfl ?_
            refine x_sldcw (pc := 186) (i := 6) g dX11_note_186 (by decide) ⟨rfl, rfl⟩ ?_
            refine x_Vv (pc := 189) g hW [.ref (G.1.2.2.1 6)] [] (c_Tape_addText l G hW r9 180 6 isTape_180 (by decide)) dX11_note_189 ml_11_355 (sTape isTape_180) rfl rfl (Nat.le_of_ble_eq_true rfl) ⟨rfl, rfl, Nat.le_of_ble_eq_true rfl, Nat.le_of_ble_eq_true rfl⟩ (fun r15 hr15 => ?_)
            refine x_aload_n (pc := 192) (i := 0) (a := 4) g dX11_note_192 rfl rfl ?_
            refine x_getR (pc := 193) (x := 180) g hW dX11_note_193 fl_11_87 (sOwlsLent isOwlsLent_0) rfl ?_
            refine x_aload_n (pc := 196) (i := 0) (a := 4) g dX11_note_196 rfl rfl ?_
            refine x_getR (pc := 197) (x := 3) g hW dX11_note_197 fl_11_23 (sOwlsLent isOwlsLent_0) rfl ?_
            refine x_getR (pc := 200) (x := 4) g hW dX11_note_200 fl_11_371 (sTokens isTokens_3) rfl ?_
            refine x_bipush (pc := 203) g dX11_note_203 bi_12 ?_
            refine x_iload (pc := 205) (a := 0) g dX11_note_205 rfl ?_
            refine x_iadd (pc := 207) g dX11_note_207 ?_
            refine x_lald (pc := 208) g hW dX11_note_208 (sTokens_reserved isTokens_3) (fun j16 hj16 => ?_)
            refine x_Vv (pc := 209) g hW [.long (r15.2 4 j16)] [] (c_Tape_addName l G hW r15 180 (r15.2 4 j16) isTape_180) dX11_note_209 ml_11_349 (sTape isTape_180) rfl rfl (Nat.le_of_ble_eq_true rfl) ⟨rfl, rfl, Nat.le_of_ble_eq_true rfl, Nat.le_of_ble_eq_true rfl⟩ (fun r17 hr17 => ?_)
            refine x_aload_n (pc := 212) (i := 0) (a := 4) g dX11_note_212 rfl rfl ?_
            refine x_getR (pc := 213) (x := 180) g hW dX11_note_213 fl_11_87 (sOwlsLent isOwlsLent_0) rfl ?_
            refine x_getI (pc := 216) g hW dX11_note_216 fl_11_113 (sTape isTape_180) rfl ?_
            exact x_iret (pc := 219) g dX11_note_219 rfl (fun _ h => h)
      · refine x_aload_n (pc := 131) (i := 0) (a := 4) g dX11_note_131 rfl rfl ?_
        refine x_getR (pc := 132) (x := 180) g hW dX11_note_132 fl_11_87 (sOwlsLent isOwlsLent_0) rfl ?_
        refine x_sldcw (pc := 135) (i := 3) g dX11_note_135 (by decide) ⟨rfl, rfl⟩ ?_
        refine x_Vv (pc := 138) g hW [.ref (G.1.2.2.1 3)] [] (c_Tape_addText l G hW r9 180 3 isTape_180 (by decide)) dX11_note_138 ml_11_355 (sTape isTape_180) rfl rfl (Nat.le_of_ble_eq_true rfl) ⟨rfl, rfl, Nat.le_of_ble_eq_true rfl, Nat.le_of_ble_eq_true rfl⟩ (fun r18 hr18 => ?_)
        refine x_goto (pc := 141) (t := 212) g dX11_note_141 (by decide) ?_
        refine x_aload_n (pc := 212) (i := 0) (a := 4) g dX11_note_212 rfl rfl ?_
        refine x_getR (pc := 213) (x := 180) g hW dX11_note_213 fl_11_87 (sOwlsLent isOwlsLent_0) rfl ?_
        refine x_getI (pc := 216) g hW dX11_note_216 fl_11_113 (sTape isTape_180) rfl ?_
        exact x_iret (pc := 219) g dX11_note_219 rfl (fun _ h => h)
theorem c_O_note (l : Launch) (G : xG) (hW : WC G) (m : xMem) (p0 : Int32) : xCim l G yX11_note cX11_note 6 (some .int) rm_O_note [.ref (xad G 0), .int p0] m (O_note m p0) :=
  xCt_of (own := RX11) (by decide) rfl (Nat.le_of_ble_eq_true rfl) rfl ⟨rfl, rfl⟩ (fun E g => T_O_note hW g m p0)
