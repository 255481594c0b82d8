theorem T_O_feed {l : Launch} {G : xG} {E : xE} (hW : WC G) (g : xGood E l G.1 RX11 cX11_feed yX11_feed 6 (some .int) rm_O_feed) (m : xMem) (p0 : Int32) (p1 : Int32) (p2 : Int32) (p3 : Int32) (p4 : Int32) : X E G (fun r : Int32 × xMem => (some (Value.int r.1), r.2)) 0 [(0, .ref (xad G 0)), (1, .int p0), (2, .int p1), (3, .int p2), (4, .int p3), (5, .int p4)] [] m (O_feed m p0 p1 p2 p3 p4) := by
  unfold O_feed
  refine x_aload_n (pc := 0) (i := 0) (a := 0) g dX11_feed_0 rfl rfl ?_
  refine x_getR (pc := 1) (x := 1) g hW dX11_feed_1 fl_11_14 (sOwlsLent isOwlsLent_0) rfl ?_
  refine x_getI (pc := 4) g hW dX11_feed_4 fl_11_113 (sTape isTape_1) rfl ?_
  refine x_bipush (pc := 7) g dX11_feed_7 bi_20 ?_
  refine x_iadd (pc := 9) g dX11_feed_9 ?_
  refine x_sipush (pc := 10) g dX11_feed_10 si_940 ?_
  refine x_icmp_le (pc := 13) (t := 18) g dX11_feed_13 (by decide) ?_ ?_
  · refine x_iconst (pc := 16) g dX11_feed_16 ic_m1 ?_
    exact x_iret (pc := 17) g dX11_feed_17 rfl (fun _ h => h)
  · refine x_aload_n (pc := 18) (i := 0) (a := 0) g dX11_feed_18 rfl rfl ?_
    refine x_getR (pc := 19) (x := 1) g hW dX11_feed_19 fl_11_14 (sOwlsLent isOwlsLent_0) rfl ?_
    refine x_iload_n (pc := 22) (i := 1) (a := 1) g dX11_feed_22 rfl rfl ?_
    refine x_Vv (pc := 23) g hW [.int p0] [] (c_Tape_addFour l G hW m 1 p0 isTape_1) dX11_feed_23 ml_11_116 (sTape isTape_1) rfl rfl (Nat.le_of_ble_eq_true rfl) ⟨rfl, rfl, Nat.le_of_ble_eq_true rfl, Nat.le_of_ble_eq_true rfl⟩ (fun r1 hr1 => ?_)
    refine x_aload_n (pc := 26) (i := 0) (a := 0) g dX11_feed_26 rfl rfl ?_
    refine x_getR (pc := 27) (x := 1) g hW dX11_feed_27 fl_11_14 (sOwlsLent isOwlsLent_0) rfl ?_
    refine x_iload_n (pc := 30) (i := 2) (a := 2) g dX11_feed_30 rfl rfl ?_
    refine x_Vv (pc := 31) g hW [.int p1] [] (c_Tape_addFour l G hW r1 1 p1 isTape_1) dX11_feed_31 ml_11_116 (sTape isTape_1) rfl rfl (Nat.le_of_ble_eq_true rfl) ⟨rfl, rfl, Nat.le_of_ble_eq_true rfl, Nat.le_of_ble_eq_true rfl⟩ (fun r2 hr2 => ?_)
    refine x_aload_n (pc := 34) (i := 0) (a := 0) g dX11_feed_34 rfl rfl ?_
    refine x_getR (pc := 35) (x := 1) g hW dX11_feed_35 fl_11_14 (sOwlsLent isOwlsLent_0) rfl ?_
    refine x_iload_n (pc := 38) (i := 3) (a := 3) g dX11_feed_38 rfl rfl ?_
    refine x_Vv (pc := 39) g hW [.int p2] [] (c_Tape_addFour l G hW r2 1 p2 isTape_1) dX11_feed_39 ml_11_116 (sTape isTape_1) rfl rfl (Nat.le_of_ble_eq_true rfl) ⟨rfl, rfl, Nat.le_of_ble_eq_true rfl, Nat.le_of_ble_eq_true rfl⟩ (fun r3 hr3 => ?_)
    refine x_aload_n (pc := 42) (i := 0) (a := 0) g dX11_feed_42 rfl rfl ?_
    refine x_getR (pc := 43) (x := 1) g hW dX11_feed_43 fl_11_14 (sOwlsLent isOwlsLent_0) rfl ?_
    refine x_iload (pc := 46) (a := 4) g dX11_feed_46 rfl ?_
    refine x_Vv (pc := 48) g hW [.int p3] [] (c_Tape_addFour l G hW r3 1 p3 isTape_1) dX11_feed_48 ml_11_116 (sTape isTape_1) rfl rfl (Nat.le_of_ble_eq_true rfl) ⟨rfl, rfl, Nat.le_of_ble_eq_true rfl, Nat.le_of_ble_eq_true rfl⟩ (fun r4 hr4 => ?_)
    refine x_aload_n (pc := 51) (i := 0) (a := 0) g dX11_feed_51 rfl rfl ?_
    refine x_getR (pc := 52) (x := 1) g hW dX11_feed_52 fl_11_14 (sOwlsLent isOwlsLent_0) rfl ?_
    refine x_iload (pc := 55) (a := 5) g dX11_feed_55 rfl ?_
    refine x_Vv (pc := 57) g hW [.int p4] [] (c_Tape_addFour l G hW r4 1 p4 isTape_1) dX11_feed_57 ml_11_116 (sTape isTape_1) rfl rfl (Nat.le_of_ble_eq_true rfl) ⟨rfl, rfl, Nat.le_of_ble_eq_true rfl, Nat.le_of_ble_eq_true rfl⟩ (fun r5 hr5 => ?_)
    refine x_aload_n (pc := 60) (i := 0) (a := 0) g dX11_feed_60 rfl rfl ?_
    refine x_getR (pc := 61) (x := 1) g hW dX11_feed_61 fl_11_14 (sOwlsLent isOwlsLent_0) rfl ?_
    refine x_getI (pc := 64) g hW dX11_feed_64 fl_11_113 (sTape isTape_1) rfl ?_
    exact x_iret (pc := 67) g dX11_feed_67 rfl (fun _ h => h)
theorem c_O_feed (l : Launch) (G : xG) (hW : WC G) (m : xMem) (p0 : Int32) (p1 : Int32) (p2 : Int32) (p3 : Int32) (p4 : Int32) : xCim l G yX11_feed cX11_feed 6 (some .int) rm_O_feed [.ref (xad G 0), .int p0, .int p1, .int p2, .int p3, .int p4] m (O_feed m p0 p1 p2 p3 p4) :=
  xCt_of (own := RX11) (by decide) rfl (Nat.le_of_ble_eq_true rfl) rfl ⟨rfl, rfl⟩ (fun E g => T_O_feed hW g m p0 p1 p2 p3 p4)
theorem T_O_end {l : Launch} {G : xG} {E : xE} (hW : WC G) (g : xGood E l G.1 RX11 cX11_end yX11_end 2 (some .boolean) rm_O_end) (m : xMem) (p0 : Int32) : X E G (fun r : Int32 × xMem => (some (Value.int r.1), r.2)) 0 [(0, .ref (xad G 0)), (1, .int p0)] [] m (O_end m p0) := by
  unfold O_end
  refine x_iload_n (pc := 0) (i := 1) (a := 1) g dX11_end_0 rfl rfl ?_
  refine x_if_lt (pc := 1) (t := 15) g dX11_end_1 (by decide) ?_ ?_
  · refine x_iconst (pc := 15) g dX11_end_15 ic_0 ?_
    exact x_zretc (pc := 16) g dX11_end_16 rfl (Or.inl rfl) (fun _ h => h)
  · refine x_iload_n (pc := 4) (i := 1) (a := 1) g dX11_end_4 rfl rfl ?_
    refine x_aload_n (pc := 5) (i := 0) (a := 0) g dX11_end_5 rfl rfl ?_
    refine x_getR (pc := 6) (x := 1) g hW dX11_end_6 fl_11_14 (sOwlsLent isOwlsLent_0) rfl ?_
    refine x_getI (pc := 9) g hW dX11_end_9 fl_11_113 (sTape isTape_1) rfl ?_
    refine x_icmp_le (pc := 12) (t := 17) g dX11_end_12 (by decide) ?_ ?_
    · refine x_iconst (pc := 15) g dX11_end_15 ic_0 ?_
      exact x_zretc (pc := 16) g dX11_end_16 rfl (Or.inl rfl) (fun _ h => h)
    · refine x_aload_n (pc := 17) (i := 0) (a := 0) g dX11_end_17 rfl rfl ?_
      refine x_getR (pc := 18) (x := 1) g hW dX11_end_18 fl_11_14 (sOwlsLent isOwlsLent_0) rfl ?_
      refine x_iload_n (pc := 21) (i := 1) (a := 1) g dX11_end_21 rfl rfl ?_
      refine x_putI (pc := 22) g hW dX11_end_22 fl_11_113 ft_8_1 (sTape isTape_1) rfl (fun m1 => ?_)
      refine x_iconst (pc := 25) g dX11_end_25 ic_1 ?_
      exact x_zretc (pc := 26) g dX11_end_26 rfl (Or.inr rfl) (fun _ h => h)
theorem c_O_end (l : Launch) (G : xG) (hW : WC G) (m : xMem) (p0 : Int32) : xCim l G yX11_end cX11_end 2 (some .boolean) rm_O_end [.ref (xad G 0), .int p0] m (O_end m p0) :=
  xCt_of (own := RX11) (by decide) rfl (Nat.le_of_ble_eq_true rfl) rfl ⟨rfl, rfl⟩ (fun E g => T_O_end hW g m p0)
theorem T_O_endText {l : Launch} {G : xG} {E : xE} (hW : WC G) (g : xGood E l G.1 RX11 cX11_endText yX11_endText 1 none rm_O_endText) (m : xMem) : X E G (fun r : xMem => ((none : Option Value), r)) 0 [(0, .ref (xad G 0))] [] m (O_endText m) := by
  unfold O_endText
  refine x_aload_n (pc := 0) (i := 0) (a := 0) g dX11_endText_0 rfl rfl ?_
  refine x_getR (pc := 1) (x := 1) g hW dX11_endText_1 fl_11_14 (sOwlsLent isOwlsLent_0) rfl ?_
  refine x_iconst (pc := 4) g dX11_endText_4 ic_0 ?_
  refine x_putI (pc := 5) g hW dX11_endText_5 fl_11_113 ft_8_1 (sTape isTape_1) rfl (fun m1 => ?_)
  refine x_aload_n (pc := 8) (i := 0) (a := 0) g dX11_endText_8 rfl rfl ?_
  refine x_aload_n (pc := 9) (i := 0) (a := 0) g dX11_endText_9 rfl rfl ?_
  refine x_getR (pc := 10) (x := 3) g hW dX11_endText_10 fl_11_23 (sOwlsLent isOwlsLent_0) rfl ?_
  refine x_getI (pc := 13) g hW dX11_endText_13 fl_11_141 (sTokens isTokens_3) rfl ?_
  refine x_putI (pc := 16) g hW dX11_endText_16 fl_11_110 ft_11_18 (sOwlsLent isOwlsLent_0) rfl (fun m2 => ?_)
  exact x_vret (pc := 19) g dX11_endText_19 rfl (fun _ h => h)
theorem c_O_endText (l : Launch) (G : xG) (hW : WC G) (m : xMem) : xCv l G yX11_endText cX11_endText 1 none rm_O_endText [.ref (xad G 0)] m (O_endText m) :=
  xCt_of (own := RX11) (by decide) rfl (Nat.le_of_ble_eq_true rfl) rfl ⟨rfl, rfl⟩ (fun E g => T_O_endText hW g m)
theorem T_O_house {l : Launch} {G : xG} {E : xE} (hW : WC G) (g : xGood E l G.1 RX11 cX11_house yX11_house 2 (some .int) rm_O_house) (m : xMem) : X E G (fun r : Int32 × xMem => (some (Value.int r.1), r.2)) 0 [(0, .ref (xad G 0))] [] m (O_house m) := by
  unfold O_house
  refine x_aload_n (pc := 0) (i := 0) (a := 0) g dX11_house_0 rfl rfl ?_
  refine x_getR (pc := 1) (x := 3) g hW dX11_house_1 fl_11_23 (sOwlsLent isOwlsLent_0) rfl ?_
  refine x_sipush (pc := 4) g dX11_house_4 si_900 ?_
  refine x_Vv (pc := 7) g hW [.int 900] [] (c_Tokens_start l G hW m 900) dX11_house_7 ml_11_121 (sTokens isTokens_3) rfl rfl (Nat.le_of_ble_eq_true rfl) ⟨rfl, rfl, Nat.le_of_ble_eq_true rfl, Nat.le_of_ble_eq_true rfl⟩ (fun r1 hr1 => ?_)
  refine x_aload_n (pc := 10) (i := 0) (a := 0) g dX11_house_10 rfl rfl ?_
  refine x_getR (pc := 11) (x := 3) g hW dX11_house_11 fl_11_23 (sOwlsLent isOwlsLent_0) rfl ?_
  refine x_aload_n (pc := 14) (i := 0) (a := 0) g dX11_house_14 rfl rfl ?_
  refine x_getR (pc := 15) (x := 44) g hW dX11_house_15 fl_11_41 (sOwlsLent isOwlsLent_0) rfl ?_
  refine x_Sim (pc := 18) g [.ref (xad G 3), .ref (xad G 44)] [] (c_HouseReader_readAll l G hW r1 44 isHouse_44) dX11_house_18 ms_11_124 rfl rfl (Nat.le_of_ble_eq_true rfl) ⟨rfl, rfl, Nat.le_of_ble_eq_true rfl, Nat.le_of_ble_eq_true rfl⟩ (fun r2 hr2 => ?_)
  refine x_istore_n (pc := 21) (i := 1) (lv' := [(1, .int r2.1), (0, .ref (xad G 0))]) g dX11_house_21 rfl (by decide) rfl ?_
  refine x_aload_n (pc := 22) (i := 0) (a := 1) g dX11_house_22 rfl rfl ?_
  refine x_Vv (pc := 23) g hW [] [] (c_O_endText l G hW r2.2) dX11_house_23 ml_11_128 (sOwlsLent isOwlsLent_0) rfl rfl (Nat.le_of_ble_eq_true rfl) ⟨rfl, rfl, Nat.le_of_ble_eq_true rfl, Nat.le_of_ble_eq_true rfl⟩ (fun r3 hr3 => ?_)
  refine x_aload_n (pc := 26) (i := 0) (a := 1) g dX11_house_26 rfl rfl ?_
  refine x_getI (pc := 27) g hW dX11_house_27 fl_11_110 (sOwlsLent isOwlsLent_0) rfl ?_
  refine x_if_eq (pc := 30) (t := 43) g dX11_house_30 (by decide) ?_ ?_
  · refine x_aload_n (pc := 43) (i := 0) (a := 1) g dX11_house_43 rfl rfl ?_
    refine x_getR (pc := 44) (x := 5) g hW dX11_house_44 fl_11_30 (sOwlsLent isOwlsLent_0) rfl ?_
    refine x_aload_n (pc := 47) (i := 0) (a := 1) g dX11_house_47 rfl rfl ?_
    refine x_getR (pc := 48) (x := 44) g hW dX11_house_48 fl_11_41 (sOwlsLent isOwlsLent_0) rfl ?_
    refine x_Vv (pc := 51) g hW [.ref (xad G 44)] [] (c_Image_begin l G hW r3 5 44 isImage_5 isHouse_44) dX11_house_51 ml_11_134 (sImage isImage_5) rfl rfl (Nat.le_of_ble_eq_true rfl) ⟨rfl, rfl, Nat.le_of_ble_eq_true rfl, Nat.le_of_ble_eq_true rfl⟩ (fun r4 hr4 => ?_)
    refine x_aload_n (pc := 54) (i := 0) (a := 1) g dX11_house_54 rfl rfl ?_
    refine x_getR (pc := 55) (x := 123) g hW dX11_house_55 fl_11_69 (sOwlsLent isOwlsLent_0) rfl ?_
    refine x_Vv (pc := 58) g hW [] [] (c_Undo_forget l G hW r4) dX11_house_58 ml_11_138 (sUndo isUndo_123) rfl rfl (Nat.le_of_ble_eq_true rfl) ⟨rfl, rfl, Nat.le_of_ble_eq_true rfl, Nat.le_of_ble_eq_true rfl⟩ (fun r5 hr5 => ?_)
    refine x_iload_n (pc := 61) (i := 1) (a := 0) g dX11_house_61 rfl rfl ?_
    exact x_iret (pc := 62) g dX11_house_62 rfl (fun _ h => h)
  · refine x_iconst (pc := 33) g dX11_house_33 ic_m1 ?_
    refine x_aload_n (pc := 34) (i := 0) (a := 1) g dX11_house_34 rfl rfl ?_
    refine x_getR (pc := 35) (x := 3) g hW dX11_house_35 fl_11_23 (sOwlsLent isOwlsLent_0) rfl ?_
    refine x_getI (pc := 38) g hW dX11_house_38 fl_11_131 (sTokens isTokens_3) rfl ?_
    refine x_isub (pc := 41) g dX11_house_41 ?_
    exact x_iret (pc := 42) g dX11_house_42 rfl (fun _ h => h)
theorem c_O_house (l : Launch) (G : xG) (hW : WC G) (m : xMem) : xCim l G yX11_house cX11_house 2 (some .int) rm_O_house [.ref (xad G 0)] m (O_house m) :=
  xCt_of (own := RX11) (by decide) rfl (Nat.le_of_ble_eq_true rfl) rfl ⟨rfl, rfl⟩ (fun E g => T_O_house hW g m)
theorem T_O_fault {l : Launch} {G : xG} {E : xE} (hW : WC G) (g : xGood E l G.1 RX11 cX11_fault yX11_fault 1 (some .int) rm_O_fault) (m : xMem) : X E G (fun r : Int32 => (some (Value.int r), m)) 0 [(0, .ref (xad G 0))] [] m (O_fault m) := by
  unfold O_fault
  refine x_aload_n (pc := 0) (i := 0) (a := 0) g dX11_fault_0 rfl rfl ?_
  refine x_getI (pc := 1) g hW dX11_fault_1 fl_11_110 (sOwlsLent isOwlsLent_0) rfl ?_
  exact x_iret (pc := 4) g dX11_fault_4 rfl (fun _ h => h)
theorem c_O_fault (l : Launch) (G : xG) (hW : WC G) (m : xMem) : xCi l G yX11_fault cX11_fault 1 (some .int) rm_O_fault [.ref (xad G 0)] m (O_fault m) :=
  xCt_of (own := RX11) (by decide) rfl (Nat.le_of_ble_eq_true rfl) rfl ⟨rfl, rfl⟩ (fun E g => T_O_fault hW g m)
theorem T_O_sound {l : Launch} {G : xG} {E : xE} (hW : WC G) (g : xGood E l G.1 RX11 cX11_sound yX11_sound 5 (some .int) rm_O_sound) (m : xMem) (p0 : Int32) (p1 : Int32) : X E G (fun r : Int32 => (some (Value.int r), m)) 0 [(0, .ref (xad G 0)), (1, .int p0), (2, .int p1)] [] m (O_sound m p0 p1) := by
  unfold O_sound
  refine x_aload_n (pc := 0) (i := 0) (a := 0) g dX11_sound_0 rfl rfl ?_
  refine x_getR (pc := 1) (x := 5) g hW dX11_sound_1 fl_11_30 (sOwlsLent isOwlsLent_0) rfl ?_
  refine x_getR (pc := 4) (x := 6) g hW dX11_sound_4 fl_11_144 (sImage isImage_5) rfl ?_
  refine x_astore_n (pc := 7) (i := 3) (lv' := [(3, .ref (xad G 6)), (0, .ref (xad G 0)), (1, .int p0), (2, .int p1)]) g dX11_sound_7 rfl (by decide) rfl ?_
  refine x_aload_n (pc := 8) (i := 3) (a := 0) g dX11_sound_8 rfl rfl ?_
  refine x_iload_n (pc := 9) (i := 1) (a := 2) g dX11_sound_9 rfl rfl ?_
  refine x_Vi (pc := 10) g hW [.int p0] [] (c_House_hasSound l G hW m 6 p0 isHouse_6) dX11_sound_10 ml_11_194 (sHouse isHouse_6) rfl rfl (Nat.le_of_ble_eq_true rfl) ⟨rfl, rfl, Nat.le_of_ble_eq_true rfl, Nat.le_of_ble_eq_true rfl⟩ (fun r1 hr1 => ?_)
  refine x_if_eq (pc := 13) (t := 25) g dX11_sound_13 (by decide) ?_ ?_
  · refine x_iconst (pc := 25) g dX11_sound_25 ic_m1 ?_
    exact x_iret (pc := 26) g dX11_sound_26 rfl (fun _ h => h)
  · refine x_iload_n (pc := 16) (i := 2) (a := 3) g dX11_sound_16 rfl rfl ?_
    refine x_if_lt (pc := 17) (t := 25) g dX11_sound_17 (by decide) ?_ ?_
    · refine x_iconst (pc := 25) g dX11_sound_25 ic_m1 ?_
      exact x_iret (pc := 26) g dX11_sound_26 rfl (fun _ h => h)
    · refine x_iload_n (pc := 20) (i := 2) (a := 3) g dX11_sound_20 rfl rfl ?_
      refine x_iconst (pc := 21) g dX11_sound_21 ic_5 ?_
      refine x_icmp_le (pc := 22) (t := 27) g dX11_sound_22 (by decide) ?_ ?_
      · refine x_iconst (pc := 25) g dX11_sound_25 ic_m1 ?_
        exact x_iret (pc := 26) g dX11_sound_26 rfl (fun _ h => h)
      · refine x_iload_n (pc := 27) (i := 2) (a := 3) g dX11_sound_27 rfl rfl ?_
        refine x_iconst (pc := 28) g dX11_sound_28 ic_3 ?_
        refine x_icmp_gt (pc := 29) (t := 41) g dX11_sound_29 (by decide) ?_ ?_
        · refine x_iload_n (pc := 41) (i := 2) (a := 3) g dX11_sound_41 rfl rfl ?_
          refine x_iconst (pc := 42) g dX11_sound_42 ic_4 ?_
          refine x_icmp_ne (pc := 43) (t := 61) g dX11_sound_43 (by decide) ?_ ?_
          · refine x_aload_n (pc := 46) (i := 0) (a := 1) g dX11_sound_46 rfl rfl ?_
            refine x_getR (pc := 47) (x := 5) g hW dX11_sound_47 fl_11_30 (sOwlsLent isOwlsLent_0) rfl ?_
            refine x_getR (pc := 50) (x := 33) g hW dX11_sound_50 fl_11_147 (sImage isImage_5) rfl ?_
            refine x_aload_n (pc := 53) (i := 3) (a := 0) g dX11_sound_53 rfl rfl ?_
            refine x_iconst (pc := 54) g dX11_sound_54 ic_0 ?_
            refine x_Vi (pc := 55) g hW [.ref (xad G 6), .int 0] [] (c_State_onBits l G hW m 33 6 0 isState_33 isHouse_6) dX11_sound_55 ml_11_200 (sState isState_33) rfl rfl (Nat.le_of_ble_eq_true rfl) ⟨rfl, rfl, Nat.le_of_ble_eq_true rfl, Nat.le_of_ble_eq_true rfl⟩ (fun r2 hr2 => ?_)
            refine x_goto (pc := 58) (t := 71) g dX11_sound_58 (by decide) ?_
            refine x_istore (pc := 71) (lv' := [(4, .int r2), (3, .ref (xad G 6)), (0, .ref (xad G 0)), (1, .int p0), (2, .int p1)]) g dX11_sound_71 (by decide) rfl ?_
            refine x_iload (pc := 73) (a := 0) g dX11_sound_73 rfl ?_
            refine x_iload_n (pc := 75) (i := 1) (a := 3) g dX11_sound_75 rfl rfl ?_
            refine x_ishr (pc := 76) g dX11_sound_76 ?_
            refine x_iconst (pc := 77) g dX11_sound_77 ic_1 ?_
            refine x_iand (pc := 78) g dX11_sound_78 ?_
            exact x_iret (pc := 79) g dX11_sound_79 rfl (fun _ h => h)
          · refine x_aload_n (pc := 61) (i := 0) (a := 1) g dX11_sound_61 rfl rfl ?_
            refine x_getR (pc := 62) (x := 5) g hW dX11_sound_62 fl_11_30 (sOwlsLent isOwlsLent_0) rfl ?_
            refine x_getR (pc := 65) (x := 33) g hW dX11_sound_65 fl_11_147 (sImage isImage_5) rfl ?_
            refine x_getI (pc := 68) g hW dX11_sound_68 fl_11_203 (sState isState_33) rfl ?_
            refine x_nmI (fun x3 => ?_)
            refine x_istore (pc := 71) (lv' := [(4, .int x3), (3, .ref (xad G 6)), (0, .ref (xad G 0)), (1, .int p0), (2, .int p1)]) g dX11_sound_71 (by decide) rfl ?_
            refine x_iload (pc := 73) (a := 0) g dX11_sound_73 rfl ?_
            refine x_iload_n (pc := 75) (i := 1) (a := 3) g dX11_sound_75 rfl rfl ?_
            refine x_ishr (pc := 76) g dX11_sound_76 ?_
            refine x_iconst (pc := 77) g dX11_sound_77 ic_1 ?_
            refine x_iand (pc := 78) g dX11_sound_78 ?_
            exact x_iret (pc := 79) g dX11_sound_79 rfl (fun _ h => h)
        · refine x_aload_n (pc := 32) (i := 3) (a := 0) g dX11_sound_32 rfl rfl ?_
          refine x_getR (pc := 33) (x := 24) g hW dX11_sound_33 fl_11_197 (sHouse isHouse_6) rfl ?_
          refine x_iload_n (pc := 36) (i := 1) (a := 2) g dX11_sound_36 rfl rfl ?_
          refine x_aald4 (pc := 37) (r := fun j => 25 + j) g hW dX11_sound_37 (sHouse_soundRow isHouse_6) (fun j h => rowsL_get h) (fun j4 hj4 => ?_)
          refine x_iload_n (pc := 38) (i := 2) (a := 3) g dX11_sound_38 rfl rfl ?_
          refine x_iald (pc := 39) g hW dX11_sound_39 (sHouse_soundRowR isHouse_6 hj4) (fun j5 hj5 => ?_)
          exact x_iret (pc := 40) g dX11_sound_40 rfl (fun _ h => h)
theorem c_O_sound (l : Launch) (G : xG) (hW : WC G) (m : xMem) (p0 : Int32) (p1 : Int32) : xCi l G yX11_sound cX11_sound 5 (some .int) rm_O_sound [.ref (xad G 0), .int p0, .int p1] m (O_sound m p0 p1) :=
  xCt_of (own := RX11) (by decide) rfl (Nat.le_of_ble_eq_true rfl) rfl ⟨rfl, rfl⟩ (fun E g => T_O_sound hW g m p0 p1)
theorem T_O_now {l : Launch} {G : xG} {E : xE} (hW : WC G) (g : xGood E l G.1 RX11 cX11_now yX11_now 4 (some .int) rm_O_now) (m : xMem) (p0 : Int32) : X E G (fun r : Int32 => (some (Value.int r), m)) 0 [(0, .ref (xad G 0)), (1, .int p0)] [] m (O_now m p0) := by
  unfold O_now
  refine x_aload_n (pc := 0) (i := 0) (a := 0) g dX11_now_0 rfl rfl ?_
  refine x_getR (pc := 1) (x := 5) g hW dX11_now_1 fl_11_30 (sOwlsLent isOwlsLent_0) rfl ?_
  refine x_getR (pc := 4) (x := 6) g hW dX11_now_4 fl_11_144 (sImage isImage_5) rfl ?_
  refine x_astore_n (pc := 7) (i := 2) (lv' := [(2, .ref (xad G 6)), (0, .ref (xad G 0)), (1, .int p0)]) g dX11_now_7 rfl (by decide) rfl ?_
  refine x_aload_n (pc := 8) (i := 0) (a := 1) g dX11_now_8 rfl rfl ?_
  refine x_getR (pc := 9) (x := 5) g hW dX11_now_9 fl_11_30 (sOwlsLent isOwlsLent_0) rfl ?_
  refine x_getR (pc := 12) (x := 33) g hW dX11_now_12 fl_11_147 (sImage isImage_5) rfl ?_
  refine x_astore_n (pc := 15) (i := 3) (lv' := [(3, .ref (xad G 33)), (2, .ref (xad G 6)), (0, .ref (xad G 0)), (1, .int p0)]) g dX11_now_15 rfl (by decide) rfl ?_
  refine x_iload_n (pc := 16) (i := 1) (a := 3) g dX11_now_16 rfl rfl ?_
  refine x_if (fun h17_0 => ?_) (fun h17_0 => ?_)
  · refine x_tabIn (pc := 17) (t := 64) (off := 47) g dX11_now_17 h17_0 (by decide) ?_
    refine x_aload_n (pc := 64) (i := 3) (a := 0) g dX11_now_64 rfl rfl ?_
    refine x_getI (pc := 65) g hW dX11_now_65 fl_11_206 (sState isState_33) rfl ?_
    exact x_iret (pc := 68) g dX11_now_68 rfl (fun _ h => h)
  refine x_if (fun h17_1 => ?_) (fun h17_1 => ?_)
  · refine x_tabIn (pc := 17) (t := 69) (off := 52) g dX11_now_17 h17_1 (by decide) ?_
    refine x_aload_n (pc := 69) (i := 3) (a := 0) g dX11_now_69 rfl rfl ?_
    refine x_aload_n (pc := 70) (i := 2) (a := 1) g dX11_now_70 rfl rfl ?_
    refine x_iconst (pc := 71) g dX11_now_71 ic_0 ?_
    refine x_Vi (pc := 72) g hW [.ref (xad G 6), .int 0] [] (c_State_onBits l G hW m 33 6 0 isState_33 isHouse_6) dX11_now_72 ml_11_200 (sState isState_33) rfl rfl (Nat.le_of_ble_eq_true rfl) ⟨rfl, rfl, Nat.le_of_ble_eq_true rfl, Nat.le_of_ble_eq_true rfl⟩ (fun r1 hr1 => ?_)
    exact x_iret (pc := 75) g dX11_now_75 rfl (fun _ h => h)
  refine x_if (fun h17_2 => ?_) (fun h17_2 => ?_)
  · refine x_tabIn (pc := 17) (t := 76) (off := 59) g dX11_now_17 h17_2 (by decide) ?_
    refine x_aload_n (pc := 76) (i := 3) (a := 0) g dX11_now_76 rfl rfl ?_
    refine x_getI (pc := 77) g hW dX11_now_77 fl_11_203 (sState isState_33) rfl ?_
    exact x_iret (pc := 80) g dX11_now_80 rfl (fun _ h => h)
  refine x_if (fun h17_3 => ?_) (fun h17_3 => ?_)
  · refine x_tabIn (pc := 17) (t := 81) (off := 64) g dX11_now_17 h17_3 (by decide) ?_
    refine x_aload_n (pc := 81) (i := 3) (a := 0) g dX11_now_81 rfl rfl ?_
    refine x_aload_n (pc := 82) (i := 2) (a := 1) g dX11_now_82 rfl rfl ?_
    refine x_Vi (pc := 83) g hW [.ref (xad G 6)] [] (c_State_lookingBits l G hW m 33 6 isState_33 isHouse_6) dX11_now_83 ml_11_209 (sState isState_33) rfl rfl (Nat.le_of_ble_eq_true rfl) ⟨rfl, rfl, Nat.le_of_ble_eq_true rfl, Nat.le_of_ble_eq_true rfl⟩ (fun r2 hr2 => ?_)
    exact x_iret (pc := 86) g dX11_now_86 rfl (fun _ h => h)
  refine x_if (fun h17_4 => ?_) (fun h17_4 => ?_)
  · refine x_tabIn (pc := 17) (t := 87) (off := 70) g dX11_now_17 h17_4 (by decide) ?_
    refine x_aload_n (pc := 87) (i := 2) (a := 1) g dX11_now_87 rfl rfl ?_
    refine x_aload_n (pc := 88) (i := 3) (a := 0) g dX11_now_88 rfl rfl ?_
    refine x_getI (pc := 89) g hW dX11_now_89 fl_11_206 (sState isState_33) rfl ?_
    refine x_Vi (pc := 92) g hW [.int (m.1 33 0)] [] (c_House_shutAt l G hW m 6 (m.1 33 0) isHouse_6) dX11_now_92 ml_11_213 (sHouse isHouse_6) rfl rfl (Nat.le_of_ble_eq_true rfl) ⟨rfl, rfl, Nat.le_of_ble_eq_true rfl, Nat.le_of_ble_eq_true rfl⟩ (fun r3 hr3 => ?_)
    refine x_if_eq (pc := 95) (t := 102) g dX11_now_95 (by decide) ?_ ?_
    · refine x_iconst (pc := 102) g dX11_now_102 ic_0 ?_
      exact x_iret (pc := 103) g dX11_now_103 rfl (fun _ h => h)
    · refine x_iconst (pc := 98) g dX11_now_98 ic_1 ?_
      refine x_goto (pc := 99) (t := 103) g dX11_now_99 (by decide) ?_
      exact x_iret (pc := 103) g dX11_now_103 rfl (fun _ h => h)
  refine x_if (fun h17_5 => ?_) (fun h17_5 => ?_)
  · refine x_tabIn (pc := 17) (t := 104) (off := 87) g dX11_now_17 h17_5 (by decide) ?_
    refine x_aload_n (pc := 104) (i := 3) (a := 0) g dX11_now_104 rfl rfl ?_
    refine x_getR (pc := 105) (x := 36) g hW dX11_now_105 fl_11_169 (sState isState_33) rfl ?_
    refine x_aload_n (pc := 108) (i := 2) (a := 1) g dX11_now_108 rfl rfl ?_
    refine x_getI (pc := 109) g hW dX11_now_109 fl_11_216 (sHouse isHouse_6) rfl ?_
    refine x_Si (pc := 112) g [.ref (xad G 36), .int (m.1 6 6)] [] (c_State_total l G hW m 36 6 (m.1 6 6) (sState_knows isState_33)) dX11_now_112 ms_11_219 rfl rfl (Nat.le_of_ble_eq_true rfl) ⟨rfl, rfl, Nat.le_of_ble_eq_true rfl, Nat.le_of_ble_eq_true rfl⟩ (fun r4 hr4 => ?_)
    exact x_iret (pc := 115) g dX11_now_115 rfl (fun _ h => h)
  refine x_if (fun h17_6 => ?_) (fun h17_6 => ?_)
  · refine x_tabIn (pc := 17) (t := 116) (off := 99) g dX11_now_17 h17_6 (by decide) ?_
    refine x_aload_n (pc := 116) (i := 3) (a := 0) g dX11_now_116 rfl rfl ?_
    refine x_getR (pc := 117) (x := 37) g hW dX11_now_117 fl_11_172 (sState isState_33) rfl ?_
    refine x_aload_n (pc := 120) (i := 2) (a := 1) g dX11_now_120 rfl rfl ?_
    refine x_getI (pc := 121) g hW dX11_now_121 fl_11_216 (sHouse isHouse_6) rfl ?_
    refine x_Si (pc := 124) g [.ref (xad G 37), .int (m.1 6 6)] [] (c_State_total l G hW m 37 6 (m.1 6 6) (sState_misses isState_33)) dX11_now_124 ms_11_219 rfl rfl (Nat.le_of_ble_eq_true rfl) ⟨rfl, rfl, Nat.le_of_ble_eq_true rfl, Nat.le_of_ble_eq_true rfl⟩ (fun r5 hr5 => ?_)
    exact x_iret (pc := 127) g dX11_now_127 rfl (fun _ h => h)
  refine x_if (fun h17_7 => ?_) (fun h17_7 => ?_)
  · refine x_tabIn (pc := 17) (t := 128) (off := 111) g dX11_now_17 h17_7 (by decide) ?_
    refine x_aload_n (pc := 128) (i := 3) (a := 0) g dX11_now_128 rfl rfl ?_
    refine x_getI (pc := 129) g hW dX11_now_129 fl_11_223 (sState isState_33) rfl ?_
    exact x_iret (pc := 132) g dX11_now_132 rfl (fun _ h => h)
  refine x_tabOut (pc := 17) (t := 133) g dX11_now_17 (by have z0 := ne_toInt (k := 0) h17_0 (by decide); have z1 := ne_toInt (k := 1) h17_1 (by decide); have z2 := ne_toInt (k := 2) h17_2 (by decide); have z3 := ne_toInt (k := 3) h17_3 (by decide); have z4 := ne_toInt (k := 4) h17_4 (by decide); have z5 := ne_toInt (k := 5) h17_5 (by decide); have z6 := ne_toInt (k := 6) h17_6 (by decide); have z7 := ne_toInt (k := 7) h17_7 (by decide); omega) (by decide) ?_
  refine x_iconst (pc := 133) g dX11_now_133 ic_m1 ?_
  exact x_iret (pc := 134) g dX11_now_134 rfl (fun _ h => h)
theorem c_O_now (l : Launch) (G : xG) (hW : WC G) (m : xMem) (p0 : Int32) : xCi l G yX11_now cX11_now 4 (some .int) rm_O_now [.ref (xad G 0), .int p0] m (O_now m p0) :=
  xCt_of (own := RX11) (by decide) rfl (Nat.le_of_ble_eq_true rfl) rfl ⟨rfl, rfl⟩ (fun E g => T_O_now hW g m p0)
theorem T_O_count {l : Launch} {G : xG} {E : xE} (hW : WC G) (g : xGood E l G.1 RX11 cX11_count yX11_count 3 (some .int) rm_O_count) (m : xMem) (p0 : Int32) : X E G (fun r : Int32 => (some (Value.int r), m)) 0 [(0, .ref (xad G 0)), (1, .int p0)] [] m (O_count m p0) := by
  unfold O_count
  refine x_aload_n (pc := 0) (i := 0) (a := 0) g dX11_count_0 rfl rfl ?_
  refine x_getR (pc := 1) (x := 5) g hW dX11_count_1 fl_11_30 (sOwlsLent isOwlsLent_0) rfl ?_
  refine x_getR (pc := 4) (x := 6) g hW dX11_count_4 fl_11_144 (sImage isImage_5) rfl ?_
  refine x_astore_n (pc := 7) (i := 2) (lv' := [(2, .ref (xad G 6)), (0, .ref (xad G 0)), (1, .int p0)]) g dX11_count_7 rfl (by decide) rfl ?_
  refine x_iload_n (pc := 8) (i := 1) (a := 2) g dX11_count_8 rfl rfl ?_
  refine x_if (fun h9_0 => ?_) (fun h9_0 => ?_)
  · refine x_tabIn (pc := 9) (t := 48) (off := 39) g dX11_count_9 h9_0 (by decide) ?_
    refine x_aload_n (pc := 48) (i := 2) (a := 0) g dX11_count_48 rfl rfl ?_
    refine x_getI (pc := 49) g hW dX11_count_49 fl_11_216 (sHouse isHouse_6) rfl ?_
    exact x_iret (pc := 52) g dX11_count_52 rfl (fun _ h => h)
  refine x_if (fun h9_1 => ?_) (fun h9_1 => ?_)
  · refine x_tabIn (pc := 9) (t := 53) (off := 44) g dX11_count_9 h9_1 (by decide) ?_
    refine x_aload_n (pc := 53) (i := 2) (a := 0) g dX11_count_53 rfl rfl ?_
    refine x_getI (pc := 54) g hW dX11_count_54 fl_11_226 (sHouse isHouse_6) rfl ?_
    exact x_iret (pc := 57) g dX11_count_57 rfl (fun _ h => h)
  refine x_if (fun h9_2 => ?_) (fun h9_2 => ?_)
  · refine x_tabIn (pc := 9) (t := 58) (off := 49) g dX11_count_9 h9_2 (by decide) ?_
    refine x_aload_n (pc := 58) (i := 2) (a := 0) g dX11_count_58 rfl rfl ?_
    refine x_getI (pc := 59) g hW dX11_count_59 fl_11_229 (sHouse isHouse_6) rfl ?_
    exact x_iret (pc := 62) g dX11_count_62 rfl (fun _ h => h)
  refine x_if (fun h9_3 => ?_) (fun h9_3 => ?_)
  · refine x_tabIn (pc := 9) (t := 63) (off := 54) g dX11_count_9 h9_3 (by decide) ?_
    refine x_aload_n (pc := 63) (i := 2) (a := 0) g dX11_count_63 rfl rfl ?_
    refine x_getI (pc := 64) g hW dX11_count_64 fl_11_232 (sHouse isHouse_6) rfl ?_
    exact x_iret (pc := 67) g dX11_count_67 rfl (fun _ h => h)
  refine x_if (fun h9_4 => ?_) (fun h9_4 => ?_)
  · refine x_tabIn (pc := 9) (t := 68) (off := 59) g dX11_count_9 h9_4 (by decide) ?_
    refine x_aload_n (pc := 68) (i := 2) (a := 0) g dX11_count_68 rfl rfl ?_
    refine x_getI (pc := 69) g hW dX11_count_69 fl_11_235 (sHouse isHouse_6) rfl ?_
    exact x_iret (pc := 72) g dX11_count_72 rfl (fun _ h => h)
  refine x_if (fun h9_5 => ?_) (fun h9_5 => ?_)
  · refine x_tabIn (pc := 9) (t := 73) (off := 64) g dX11_count_9 h9_5 (by decide) ?_
    refine x_aload_n (pc := 73) (i := 0) (a := 1) g dX11_count_73 rfl rfl ?_
    refine x_getR (pc := 74) (x := 1) g hW dX11_count_74 fl_11_14 (sOwlsLent isOwlsLent_0) rfl ?_
    refine x_getI (pc := 77) g hW dX11_count_77 fl_11_113 (sTape isTape_1) rfl ?_
    exact x_iret (pc := 80) g dX11_count_80 rfl (fun _ h => h)
  refine x_tabOut (pc := 9) (t := 81) g dX11_count_9 (by have z0 := ne_toInt (k := 0) h9_0 (by decide); have z1 := ne_toInt (k := 1) h9_1 (by decide); have z2 := ne_toInt (k := 2) h9_2 (by decide); have z3 := ne_toInt (k := 3) h9_3 (by decide); have z4 := ne_toInt (k := 4) h9_4 (by decide); have z5 := ne_toInt (k := 5) h9_5 (by decide); omega) (by decide) ?_
  refine x_iconst (pc := 81) g dX11_count_81 ic_m1 ?_
  exact x_iret (pc := 82) g dX11_count_82 rfl (fun _ h => h)
theorem c_O_count (l : Launch) (G : xG) (hW : WC G) (m : xMem) (p0 : Int32) : xCi l G yX11_count cX11_count 3 (some .int) rm_O_count [.ref (xad G 0), .int p0] m (O_count m p0) :=
  xCt_of (own := RX11) (by decide) rfl (Nat.le_of_ble_eq_true rfl) rfl ⟨rfl, rfl⟩ (fun E g => T_O_count hW g m p0)
theorem T_O_keepTrial {l : Launch} {G : xG} {E : xE} (hW : WC G) (g : xGood E l G.1 RX11 cX11_keepTrial yX11_keepTrial 1 none rm_O_keepTrial) (m : xMem) : X E G (fun r : xMem => ((none : Option Value), r)) 0 [(0, .ref (xad G 0))] [] m (O_keepTrial m) := by
  unfold O_keepTrial
  refine x_aload_n (pc := 0) (i := 0) (a := 0) g dX11_keepTrial_0 rfl rfl ?_
  refine x_getR (pc := 1) (x := 123) g hW dX11_keepTrial_1 fl_11_69 (sOwlsLent isOwlsLent_0) rfl ?_
  refine x_aload_n (pc := 4) (i := 0) (a := 0) g dX11_keepTrial_4 rfl rfl ?_
  refine x_getR (pc := 5) (x := 5) g hW dX11_keepTrial_5 fl_11_30 (sOwlsLent isOwlsLent_0) rfl ?_
  refine x_getR (pc := 8) (x := 33) g hW dX11_keepTrial_8 fl_11_147 (sImage isImage_5) rfl ?_
  refine x_Vv (pc := 11) g hW [.ref (xad G 33)] [] (c_Undo_keep l G hW m 33 isState_33) dX11_keepTrial_11 ml_11_283 (sUndo isUndo_123) rfl rfl (Nat.le_of_ble_eq_true rfl) ⟨rfl, rfl, Nat.le_of_ble_eq_true rfl, Nat.le_of_ble_eq_true rfl⟩ (fun r1 hr1 => ?_)
  refine x_aload_n (pc := 14) (i := 0) (a := 0) g dX11_keepTrial_14 rfl rfl ?_
  refine x_getR (pc := 15) (x := 5) g hW dX11_keepTrial_15 fl_11_30 (sOwlsLent isOwlsLent_0) rfl ?_
  refine x_getR (pc := 18) (x := 33) g hW dX11_keepTrial_18 fl_11_147 (sImage isImage_5) rfl ?_
  refine x_aload_n (pc := 21) (i := 0) (a := 0) g dX11_keepTrial_21 rfl rfl ?_
  refine x_getR (pc := 22) (x := 118) g hW dX11_keepTrial_22 fl_11_62 (sOwlsLent isOwlsLent_0) rfl ?_
  refine x_Vv (pc := 25) g hW [.ref (xad G 118)] [] (c_State_copyFrom l G hW r1 33 118 isState_33 isState_118) dX11_keepTrial_25 ml_11_238 (sState isState_33) rfl rfl (Nat.le_of_ble_eq_true rfl) ⟨rfl, rfl, Nat.le_of_ble_eq_true rfl, Nat.le_of_ble_eq_true rfl⟩ (fun r2 hr2 => ?_)
  exact x_vret (pc := 28) g dX11_keepTrial_28 rfl (fun _ h => h)
theorem c_O_keepTrial (l : Launch) (G : xG) (hW : WC G) (m : xMem) : xCv l G yX11_keepTrial cX11_keepTrial 1 none rm_O_keepTrial [.ref (xad G 0)] m (O_keepTrial m) :=
  xCt_of (own := RX11) (by decide) rfl (Nat.le_of_ble_eq_true rfl) rfl ⟨rfl, rfl⟩ (fun E g => T_O_keepTrial hW g m)
theorem T_O_keepDone {l : Launch} {G : xG} {E : xE} (hW : WC G) (g : xGood E l G.1 RX11 cX11_keepDone yX11_keepDone 2 (some .int) rm_O_keepDone) (m : xMem) (p0 : Int32) : X E G (fun r : Int32 × xMem => (some (Value.int r.1), r.2)) 0 [(0, .ref (xad G 0)), (1, .int p0)] [] m (O_keepDone m p0) := by
  unfold O_keepDone
  refine x_iload_n (pc := 0) (i := 1) (a := 1) g dX11_keepDone_0 rfl rfl ?_
  refine x_if_ne (pc := 1) (t := 8) g dX11_keepDone_1 (by decide) ?_ ?_
  · refine x_aload_n (pc := 4) (i := 0) (a := 0) g dX11_keepDone_4 rfl rfl ?_
    refine x_Vv (pc := 5) g hW [] [] (c_O_keepTrial l G hW m) dX11_keepDone_5 ml_11_272 (sOwlsLent isOwlsLent_0) rfl rfl (Nat.le_of_ble_eq_true rfl) ⟨rfl, rfl, Nat.le_of_ble_eq_true rfl, Nat.le_of_ble_eq_true rfl⟩ (fun r1 hr1 => ?_)
    refine x_iload_n (pc := 8) (i := 1) (a := 1) g dX11_keepDone_8 rfl rfl ?_
    exact x_iret (pc := 9) g dX11_keepDone_9 rfl (fun _ h => h)
  · refine x_iload_n (pc := 8) (i := 1) (a := 1) g dX11_keepDone_8 rfl rfl ?_
    exact x_iret (pc := 9) g dX11_keepDone_9 rfl (fun _ h => h)
theorem c_O_keepDone (l : Launch) (G : xG) (hW : WC G) (m : xMem) (p0 : Int32) : xCim l G yX11_keepDone cX11_keepDone 2 (some .int) rm_O_keepDone [.ref (xad G 0), .int p0] m (O_keepDone m p0) :=
  xCt_of (own := RX11) (by decide) rfl (Nat.le_of_ble_eq_true rfl) rfl ⟨rfl, rfl⟩ (fun E g => T_O_keepDone hW g m p0)
theorem T_O_lend {l : Launch} {G : xG} {E : xE} (hW : WC G) (g : xGood E l G.1 RX11 cX11_lend yX11_lend 4 (some .int) rm_O_lend) (m : xMem) (p0 : Int32) (p1 : Int32) : X E G (fun r : Int32 × xMem => (some (Value.int r.1), r.2)) 0 [(0, .ref (xad G 0)), (1, .int p0), (2, .int p1)] [] m (O_lend m p0 p1) := by
  unfold O_lend
  refine x_aload_n (pc := 0) (i := 0) (a := 0) g dX11_lend_0 rfl rfl ?_
  refine x_getR (pc := 1) (x := 5) g hW dX11_lend_1 fl_11_30 (sOwlsLent isOwlsLent_0) rfl ?_
  refine x_getR (pc := 4) (x := 6) g hW dX11_lend_4 fl_11_144 (sImage isImage_5) rfl ?_
  refine x_astore_n (pc := 7) (i := 3) (lv' := [(3, .ref (xad G 6)), (0, .ref (xad G 0)), (1, .int p0), (2, .int p1)]) g dX11_lend_7 rfl (by decide) rfl ?_
  refine x_aload_n (pc := 8) (i := 3) (a := 0) g dX11_lend_8 rfl rfl ?_
  refine x_iload_n (pc := 9) (i := 1) (a := 2) g dX11_lend_9 rfl rfl ?_
  refine x_Vi (pc := 10) g hW [.int p0] [] (c_House_hasOwl l G hW m 6 p0 isHouse_6) dX11_lend_10 ml_11_175 (sHouse isHouse_6) rfl rfl (Nat.le_of_ble_eq_true rfl) ⟨rfl, rfl, Nat.le_of_ble_eq_true rfl, Nat.le_of_ble_eq_true rfl⟩ (fun r1 hr1 => ?_)
  refine x_if_eq (pc := 13) (t := 24) g dX11_lend_13 (by decide) ?_ ?_
  · refine x_iconst (pc := 24) g dX11_lend_24 ic_m1 ?_
    exact x_iret (pc := 25) g dX11_lend_25 rfl (fun _ h => h)
  · refine x_aload_n (pc := 16) (i := 3) (a := 0) g dX11_lend_16 rfl rfl ?_
    refine x_iload_n (pc := 17) (i := 2) (a := 3) g dX11_lend_17 rfl rfl ?_
    refine x_Vi (pc := 18) g hW [.int p1] [] (c_House_hasBed l G hW m 6 p1 isHouse_6) dX11_lend_18 ml_11_150 (sHouse isHouse_6) rfl rfl (Nat.le_of_ble_eq_true rfl) ⟨rfl, rfl, Nat.le_of_ble_eq_true rfl, Nat.le_of_ble_eq_true rfl⟩ (fun r2 hr2 => ?_)
    refine x_if_ne (pc := 21) (t := 26) g dX11_lend_21 (by decide) ?_ ?_
    · refine x_iconst (pc := 24) g dX11_lend_24 ic_m1 ?_
      exact x_iret (pc := 25) g dX11_lend_25 rfl (fun _ h => h)
    · refine x_aload_n (pc := 26) (i := 0) (a := 1) g dX11_lend_26 rfl rfl ?_
      refine x_getR (pc := 27) (x := 118) g hW dX11_lend_27 fl_11_62 (sOwlsLent isOwlsLent_0) rfl ?_
      refine x_aload_n (pc := 30) (i := 0) (a := 1) g dX11_lend_30 rfl rfl ?_
      refine x_getR (pc := 31) (x := 5) g hW dX11_lend_31 fl_11_30 (sOwlsLent isOwlsLent_0) rfl ?_
      refine x_getR (pc := 34) (x := 33) g hW dX11_lend_34 fl_11_147 (sImage isImage_5) rfl ?_
      refine x_Vv (pc := 37) g hW [.ref (xad G 33)] [] (c_State_copyFrom l G hW m 118 33 isState_118 isState_33) dX11_lend_37 ml_11_238 (sState isState_118) rfl rfl (Nat.le_of_ble_eq_true rfl) ⟨rfl, rfl, Nat.le_of_ble_eq_true rfl, Nat.le_of_ble_eq_true rfl⟩ (fun r3 hr3 => ?_)
      refine x_aload_n (pc := 40) (i := 0) (a := 1) g dX11_lend_40 rfl rfl ?_
      refine x_aload_n (pc := 41) (i := 0) (a := 1) g dX11_lend_41 rfl rfl ?_
      refine x_getR (pc := 42) (x := 118) g hW dX11_lend_42 fl_11_62 (sOwlsLent isOwlsLent_0) rfl ?_
      refine x_aload_n (pc := 45) (i := 3) (a := 0) g dX11_lend_45 rfl rfl ?_
      refine x_iload_n (pc := 46) (i := 1) (a := 2) g dX11_lend_46 rfl rfl ?_
      refine x_iload_n (pc := 47) (i := 2) (a := 3) g dX11_lend_47 rfl rfl ?_
      refine x_Vim (pc := 48) g hW [.ref (xad G 6), .int p0, .int p1] [.ref (xad G 0)] (c_State_lendTo l G hW r3 118 6 p0 p1 isState_118 isHouse_6) dX11_lend_48 ml_11_242 (sState isState_118) rfl rfl (Nat.le_of_ble_eq_true rfl) ⟨rfl, rfl, Nat.le_of_ble_eq_true rfl, Nat.le_of_ble_eq_true rfl⟩ (fun r4 hr4 => ?_)
      refine x_Vim (pc := 51) g hW [.int r4.1] [] (c_O_keepDone l G hW r4.2 r4.1) dX11_lend_51 ml_11_245 (sOwlsLent isOwlsLent_0) rfl rfl (Nat.le_of_ble_eq_true rfl) ⟨rfl, rfl, Nat.le_of_ble_eq_true rfl, Nat.le_of_ble_eq_true rfl⟩ (fun r5 hr5 => ?_)
      exact x_iret (pc := 54) g dX11_lend_54 rfl (fun _ h => h)
theorem c_O_lend (l : Launch) (G : xG) (hW : WC G) (m : xMem) (p0 : Int32) (p1 : Int32) : xCim l G yX11_lend cX11_lend 4 (some .int) rm_O_lend [.ref (xad G 0), .int p0, .int p1] m (O_lend m p0 p1) :=
  xCt_of (own := RX11) (by decide) rfl (Nat.le_of_ble_eq_true rfl) rfl ⟨rfl, rfl⟩ (fun E g => T_O_lend hW g m p0 p1)
theorem T_O_hush {l : Launch} {G : xG} {E : xE} (hW : WC G) (g : xGood E l G.1 RX11 cX11_hush yX11_hush 2 (some .int) rm_O_hush) (m : xMem) (p0 : Int32) : X E G (fun r : Int32 × xMem => (some (Value.int r.1), r.2)) 0 [(0, .ref (xad G 0)), (1, .int p0)] [] m (O_hush m p0) := by
  unfold O_hush
  refine x_aload_n (pc := 0) (i := 0) (a := 0) g dX11_hush_0 rfl rfl ?_
  refine x_getR (pc := 1) (x := 5) g hW dX11_hush_1 fl_11_30 (sOwlsLent isOwlsLent_0) rfl ?_
  refine x_getR (pc := 4) (x := 6) g hW dX11_hush_4 fl_11_144 (sImage isImage_5) rfl ?_
  refine x_iload_n (pc := 7) (i := 1) (a := 1) g dX11_hush_7 rfl rfl ?_
  refine x_Vi (pc := 8) g hW [.int p0] [] (c_House_hasSound l G hW m 6 p0 isHouse_6) dX11_hush_8 ml_11_194 (sHouse isHouse_6) rfl rfl (Nat.le_of_ble_eq_true rfl) ⟨rfl, rfl, Nat.le_of_ble_eq_true rfl, Nat.le_of_ble_eq_true rfl⟩ (fun r1 hr1 => ?_)
  refine x_if_ne (pc := 11) (t := 16) g dX11_hush_11 (by decide) ?_ ?_
  · refine x_iconst (pc := 14) g dX11_hush_14 ic_m1 ?_
    exact x_iret (pc := 15) g dX11_hush_15 rfl (fun _ h => h)
  · refine x_aload_n (pc := 16) (i := 0) (a := 0) g dX11_hush_16 rfl rfl ?_
    refine x_getR (pc := 17) (x := 118) g hW dX11_hush_17 fl_11_62 (sOwlsLent isOwlsLent_0) rfl ?_
    refine x_aload_n (pc := 20) (i := 0) (a := 0) g dX11_hush_20 rfl rfl ?_
    refine x_getR (pc := 21) (x := 5) g hW dX11_hush_21 fl_11_30 (sOwlsLent isOwlsLent_0) rfl ?_
    refine x_getR (pc := 24) (x := 33) g hW dX11_hush_24 fl_11_147 (sImage isImage_5) rfl ?_
    refine x_Vv (pc := 27) g hW [.ref (xad G 33)] [] (c_State_copyFrom l G hW m 118 33 isState_118 isState_33) dX11_hush_27 ml_11_238 (sState isState_118) rfl rfl (Nat.le_of_ble_eq_true rfl) ⟨rfl, rfl, Nat.le_of_ble_eq_true rfl, Nat.le_of_ble_eq_true rfl⟩ (fun r2 hr2 => ?_)
    refine x_aload_n (pc := 30) (i := 0) (a := 0) g dX11_hush_30 rfl rfl ?_
    refine x_aload_n (pc := 31) (i := 0) (a := 0) g dX11_hush_31 rfl rfl ?_
    refine x_getR (pc := 32) (x := 118) g hW dX11_hush_32 fl_11_62 (sOwlsLent isOwlsLent_0) rfl ?_
    refine x_iload_n (pc := 35) (i := 1) (a := 1) g dX11_hush_35 rfl rfl ?_
    refine x_Vim (pc := 36) g hW [.int p0] [.ref (xad G 0)] (c_State_hushOne l G hW r2 118 p0 isState_118) dX11_hush_36 ml_11_249 (sState isState_118) rfl rfl (Nat.le_of_ble_eq_true rfl) ⟨rfl, rfl, Nat.le_of_ble_eq_true rfl, Nat.le_of_ble_eq_true rfl⟩ (fun r3 hr3 => ?_)
    refine x_Vim (pc := 39) g hW [.int r3.1] [] (c_O_keepDone l G hW r3.2 r3.1) dX11_hush_39 ml_11_245 (sOwlsLent isOwlsLent_0) rfl rfl (Nat.le_of_ble_eq_true rfl) ⟨rfl, rfl, Nat.le_of_ble_eq_true rfl, Nat.le_of_ble_eq_true rfl⟩ (fun r4 hr4 => ?_)
    exact x_iret (pc := 42) g dX11_hush_42 rfl (fun _ h => h)
theorem c_O_hush (l : Launch) (G : xG) (hW : WC G) (m : xMem) (p0 : Int32) : xCim l G yX11_hush cX11_hush 2 (some .int) rm_O_hush [.ref (xad G 0), .int p0] m (O_hush m p0) :=
  xCt_of (own := RX11) (by decide) rfl (Nat.le_of_ble_eq_true rfl) rfl ⟨rfl, rfl⟩ (fun E g => T_O_hush hW g m p0)
theorem T_O_let {l : Launch} {G : xG} {E : xE} (hW : WC G) (g : xGood E l G.1 RX11 cX11_let yX11_let 2 (some .int) rm_O_let) (m : xMem) (p0 : Int32) : X E G (fun r : Int32 × xMem => (some (Value.int r.1), r.2)) 0 [(0, .ref (xad G 0)), (1, .int p0)] [] m (O_let m p0) := by
  unfold O_let
  refine x_aload_n (pc := 0) (i := 0) (a := 0) g dX11_let_0 rfl rfl ?_
  refine x_getR (pc := 1) (x := 5) g hW dX11_let_1 fl_11_30 (sOwlsLent isOwlsLent_0) rfl ?_
  refine x_getR (pc := 4) (x := 6) g hW dX11_let_4 fl_11_144 (sImage isImage_5) rfl ?_
  refine x_iload_n (pc := 7) (i := 1) (a := 1) g dX11_let_7 rfl rfl ?_
  refine x_Vi (pc := 8) g hW [.int p0] [] (c_House_hasSound l G hW m 6 p0 isHouse_6) dX11_let_8 ml_11_194 (sHouse isHouse_6) rfl rfl (Nat.le_of_ble_eq_true rfl) ⟨rfl, rfl, Nat.le_of_ble_eq_true rfl, Nat.le_of_ble_eq_true rfl⟩ (fun r1 hr1 => ?_)
  refine x_if_ne (pc := 11) (t := 16) g dX11_let_11 (by decide) ?_ ?_
  · refine x_iconst (pc := 14) g dX11_let_14 ic_m1 ?_
    exact x_iret (pc := 15) g dX11_let_15 rfl (fun _ h => h)
  · refine x_aload_n (pc := 16) (i := 0) (a := 0) g dX11_let_16 rfl rfl ?_
    refine x_getR (pc := 17) (x := 118) g hW dX11_let_17 fl_11_62 (sOwlsLent isOwlsLent_0) rfl ?_
    refine x_aload_n (pc := 20) (i := 0) (a := 0) g dX11_let_20 rfl rfl ?_
    refine x_getR (pc := 21) (x := 5) g hW dX11_let_21 fl_11_30 (sOwlsLent isOwlsLent_0) rfl ?_
    refine x_getR (pc := 24) (x := 33) g hW dX11_let_24 fl_11_147 (sImage isImage_5) rfl ?_
    refine x_Vv (pc := 27) g hW [.ref (xad G 33)] [] (c_State_copyFrom l G hW m 118 33 isState_118 isState_33) dX11_let_27 ml_11_238 (sState isState_118) rfl rfl (Nat.le_of_ble_eq_true rfl) ⟨rfl, rfl, Nat.le_of_ble_eq_true rfl, Nat.le_of_ble_eq_true rfl⟩ (fun r2 hr2 => ?_)
    refine x_aload_n (pc := 30) (i := 0) (a := 0) g dX11_let_30 rfl rfl ?_
    refine x_aload_n (pc := 31) (i := 0) (a := 0) g dX11_let_31 rfl rfl ?_
    refine x_getR (pc := 32) (x := 118) g hW dX11_let_32 fl_11_62 (sOwlsLent isOwlsLent_0) rfl ?_
    refine x_iload_n (pc := 35) (i := 1) (a := 1) g dX11_let_35 rfl rfl ?_
    refine x_Vim (pc := 36) g hW [.int p0] [.ref (xad G 0)] (c_State_letOne l G hW r2 118 p0 isState_118) dX11_let_36 ml_11_252 (sState isState_118) rfl rfl (Nat.le_of_ble_eq_true rfl) ⟨rfl, rfl, Nat.le_of_ble_eq_true rfl, Nat.le_of_ble_eq_true rfl⟩ (fun r3 hr3 => ?_)
    refine x_Vim (pc := 39) g hW [.int r3.1] [] (c_O_keepDone l G hW r3.2 r3.1) dX11_let_39 ml_11_245 (sOwlsLent isOwlsLent_0) rfl rfl (Nat.le_of_ble_eq_true rfl) ⟨rfl, rfl, Nat.le_of_ble_eq_true rfl, Nat.le_of_ble_eq_true rfl⟩ (fun r4 hr4 => ?_)
    exact x_iret (pc := 42) g dX11_let_42 rfl (fun _ h => h)
theorem c_O_let (l : Launch) (G : xG) (hW : WC G) (m : xMem) (p0 : Int32) : xCim l G yX11_let cX11_let 2 (some .int) rm_O_let [.ref (xad G 0), .int p0] m (O_let m p0) :=
  xCt_of (own := RX11) (by decide) rfl (Nat.le_of_ble_eq_true rfl) rfl ⟨rfl, rfl⟩ (fun E g => T_O_let hW g m p0)
theorem T_O_shout {l : Launch} {G : xG} {E : xE} (hW : WC G) (g : xGood E l G.1 RX11 cX11_shout yX11_shout 4 (some .int) rm_O_shout) (m : xMem) (p0 : Int32) (p1 : Int32) (p2 : Int32) : X E G (fun r : Int32 × xMem => (some (Value.int r.1), r.2)) 0 [(0, .ref (xad G 0)), (1, .int p0), (2, .int p1), (3, .int p2)] [] m (O_shout m p0 p1 p2) := by
  unfold O_shout
  refine x_aload_n (pc := 0) (i := 0) (a := 0) g dX11_shout_0 rfl rfl ?_
  refine x_getR (pc := 1) (x := 5) g hW dX11_shout_1 fl_11_30 (sOwlsLent isOwlsLent_0) rfl ?_
  refine x_getR (pc := 4) (x := 6) g hW dX11_shout_4 fl_11_144 (sImage isImage_5) rfl ?_
  refine x_iload_n (pc := 7) (i := 1) (a := 1) g dX11_shout_7 rfl rfl ?_
  refine x_iload_n (pc := 8) (i := 2) (a := 2) g dX11_shout_8 rfl rfl ?_
  refine x_Vi (pc := 9) g hW [.int p0, .int p1] [] (c_House_hasCell l G hW m 6 p0 p1 isHouse_6) dX11_shout_9 ml_11_255 (sHouse isHouse_6) rfl rfl (Nat.le_of_ble_eq_true rfl) ⟨rfl, rfl, Nat.le_of_ble_eq_true rfl, Nat.le_of_ble_eq_true rfl⟩ (fun r1 hr1 => ?_)
  refine x_if_eq (pc := 12) (t := 26) g dX11_shout_12 (by decide) ?_ ?_
  · refine x_iconst (pc := 26) g dX11_shout_26 ic_m1 ?_
    exact x_iret (pc := 27) g dX11_shout_27 rfl (fun _ h => h)
  · refine x_iload_n (pc := 15) (i := 3) (a := 3) g dX11_shout_15 rfl rfl ?_
    refine x_iconst (pc := 16) g dX11_shout_16 ic_1 ?_
    refine x_icmp_lt (pc := 17) (t := 26) g dX11_shout_17 (by decide) ?_ ?_
    · refine x_iconst (pc := 26) g dX11_shout_26 ic_m1 ?_
      exact x_iret (pc := 27) g dX11_shout_27 rfl (fun _ h => h)
    · refine x_iload_n (pc := 20) (i := 3) (a := 3) g dX11_shout_20 rfl rfl ?_
      refine x_bipush (pc := 21) g dX11_shout_21 bi_30 ?_
      refine x_icmp_le (pc := 23) (t := 28) g dX11_shout_23 (by decide) ?_ ?_
      · refine x_iconst (pc := 26) g dX11_shout_26 ic_m1 ?_
        exact x_iret (pc := 27) g dX11_shout_27 rfl (fun _ h => h)
      · refine x_aload_n (pc := 28) (i := 0) (a := 0) g dX11_shout_28 rfl rfl ?_
        refine x_getR (pc := 29) (x := 118) g hW dX11_shout_29 fl_11_62 (sOwlsLent isOwlsLent_0) rfl ?_
        refine x_aload_n (pc := 32) (i := 0) (a := 0) g dX11_shout_32 rfl rfl ?_
        refine x_getR (pc := 33) (x := 5) g hW dX11_shout_33 fl_11_30 (sOwlsLent isOwlsLent_0) rfl ?_
        refine x_getR (pc := 36) (x := 33) g hW dX11_shout_36 fl_11_147 (sImage isImage_5) rfl ?_
        refine x_Vv (pc := 39) g hW [.ref (xad G 33)] [] (c_State_copyFrom l G hW m 118 33 isState_118 isState_33) dX11_shout_39 ml_11_238 (sState isState_118) rfl rfl (Nat.le_of_ble_eq_true rfl) ⟨rfl, rfl, Nat.le_of_ble_eq_true rfl, Nat.le_of_ble_eq_true rfl⟩ (fun r2 hr2 => ?_)
        refine x_aload_n (pc := 42) (i := 0) (a := 0) g dX11_shout_42 rfl rfl ?_
        refine x_aload_n (pc := 43) (i := 0) (a := 0) g dX11_shout_43 rfl rfl ?_
        refine x_getR (pc := 44) (x := 118) g hW dX11_shout_44 fl_11_62 (sOwlsLent isOwlsLent_0) rfl ?_
        refine x_iload_n (pc := 47) (i := 1) (a := 1) g dX11_shout_47 rfl rfl ?_
        refine x_iload_n (pc := 48) (i := 2) (a := 2) g dX11_shout_48 rfl rfl ?_
        refine x_iload_n (pc := 49) (i := 3) (a := 3) g dX11_shout_49 rfl rfl ?_
        refine x_Vim (pc := 50) g hW [.int p0, .int p1, .int p2] [.ref (xad G 0)] (c_State_shoutIn l G hW r2 118 p0 p1 p2 isState_118) dX11_shout_50 ml_11_259 (sState isState_118) rfl rfl (Nat.le_of_ble_eq_true rfl) ⟨rfl, rfl, Nat.le_of_ble_eq_true rfl, Nat.le_of_ble_eq_true rfl⟩ (fun r3 hr3 => ?_)
        refine x_Vim (pc := 53) g hW [.int r3.1] [] (c_O_keepDone l G hW r3.2 r3.1) dX11_shout_53 ml_11_245 (sOwlsLent isOwlsLent_0) rfl rfl (Nat.le_of_ble_eq_true rfl) ⟨rfl, rfl, Nat.le_of_ble_eq_true rfl, Nat.le_of_ble_eq_true rfl⟩ (fun r4 hr4 => ?_)
        exact x_iret (pc := 56) g dX11_shout_56 rfl (fun _ h => h)
theorem c_O_shout (l : Launch) (G : xG) (hW : WC G) (m : xMem) (p0 : Int32) (p1 : Int32) (p2 : Int32) : xCim l G yX11_shout cX11_shout 4 (some .int) rm_O_shout [.ref (xad G 0), .int p0, .int p1, .int p2] m (O_shout m p0 p1 p2) :=
  xCt_of (own := RX11) (by decide) rfl (Nat.le_of_ble_eq_true rfl) rfl ⟨rfl, rfl⟩ (fun E g => T_O_shout hW g m p0 p1 p2)
theorem T_O_hours_b48 {l : Launch} {G : xG} {E : xE} (hW : WC G) (g : xGood E l G.1 RX11 cX11_hours yX11_hours 4 (some .int) rm_O_hours) (p0 : Int32) : ∀ (n : Nat) (v2 : Int32) (v3 : Int32) (m : xMem), X E G (fun r : Int32 × xMem => (some (Value.int r.1), r.2)) 48 [(0, .ref (xad G 0)), (2, .int v2), (3, .int v3)] [] m (O_hours_b48 p0 n v2 v3 m) := by
  intro n
  induction n with
  | zero => intro v2 v3 m; exact x_none
  | succ n ih =>
    intro v2 v3 m
    rw [O_hours_b48]
    refine x_iload_n (pc := 48) (i := 3) (a := 2) g dX11_hours_48 rfl rfl ?_
    refine x_iload_n (pc := 49) (i := 2) (a := 1) g dX11_hours_49 rfl rfl ?_
    refine x_icmp_ge (pc := 50) (t := 73) g dX11_hours_50 (by decide) ?_ ?_
    · refine x_aload_n (pc := 53) (i := 0) (a := 0) g dX11_hours_53 rfl rfl ?_
      refine x_getR (pc := 54) (x := 118) g hW dX11_hours_54 fl_11_62 (sOwlsLent isOwlsLent_0) rfl ?_
      refine x_aload_n (pc := 57) (i := 0) (a := 0) g dX11_hours_57 rfl rfl ?_
      refine x_getR (pc := 58) (x := 5) g hW dX11_hours_58 fl_11_30 (sOwlsLent isOwlsLent_0) rfl ?_
      refine x_getR (pc := 61) (x := 6) g hW dX11_hours_61 fl_11_144 (sImage isImage_5) rfl ?_
      refine x_Vv (pc := 64) g hW [.ref (xad G 6)] [] (c_State_passHour l G hW m 118 6 isState_118 isHouse_6) dX11_hours_64 ml_11_269 (sState isState_118) rfl rfl (Nat.le_of_ble_eq_true rfl) ⟨rfl, rfl, Nat.le_of_ble_eq_true rfl, Nat.le_of_ble_eq_true rfl⟩ (fun r3 hr3 => ?_)
      refine x_iinc (pc := 67) (a := 2) (lv' := [(3, .int (v3 + 1)), (0, .ref (xad G 0)), (2, .int v2)]) g dX11_hours_67 ic_1 rfl (by decide) rfl ?_
      refine x_goto (pc := 70) (t := 48) g dX11_hours_70 (by decide) ?_
      exact x_sub [1, 2, 0] (ih v2 (v3 + 1) r3) rfl
    · refine x_iload_n (pc := 73) (i := 2) (a := 1) g dX11_hours_73 rfl rfl ?_
      refine x_if_le (pc := 74) (t := 81) g dX11_hours_74 (by decide) ?_ ?_
      · refine x_aload_n (pc := 77) (i := 0) (a := 0) g dX11_hours_77 rfl rfl ?_
        refine x_Vv (pc := 78) g hW [] [] (c_O_keepTrial l G hW m) dX11_hours_78 ml_11_272 (sOwlsLent isOwlsLent_0) rfl rfl (Nat.le_of_ble_eq_true rfl) ⟨rfl, rfl, Nat.le_of_ble_eq_true rfl, Nat.le_of_ble_eq_true rfl⟩ (fun r4 hr4 => ?_)
        refine x_iload_n (pc := 81) (i := 2) (a := 1) g dX11_hours_81 rfl rfl ?_
        exact x_iret (pc := 82) g dX11_hours_82 rfl (fun _ h => h)
      · refine x_iload_n (pc := 81) (i := 2) (a := 1) g dX11_hours_81 rfl rfl ?_
        exact x_iret (pc := 82) g dX11_hours_82 rfl (fun _ h => h)
theorem T_O_hours {l : Launch} {G : xG} {E : xE} (hW : WC G) (g : xGood E l G.1 RX11 cX11_hours yX11_hours 4 (some .int) rm_O_hours) (m : xMem) (p0 : Int32) : X E G (fun r : Int32 × xMem => (some (Value.int r.1), r.2)) 0 [(0, .ref (xad G 0)), (1, .int p0)] [] m (O_hours m p0) := by
  unfold O_hours
  refine x_iload_n (pc := 0) (i := 1) (a := 1) g dX11_hours_0 rfl rfl ?_
  refine x_iconst (pc := 1) g dX11_hours_1 ic_1 ?_
  refine x_icmp_lt (pc := 2) (t := 11) g dX11_hours_2 (by decide) ?_ ?_
  · refine x_iconst (pc := 11) g dX11_hours_11 ic_m1 ?_
    exact x_iret (pc := 12) g dX11_hours_12 rfl (fun _ h => h)
  · refine x_iload_n (pc := 5) (i := 1) (a := 1) g dX11_hours_5 rfl rfl ?_
    refine x_bipush (pc := 6) g dX11_hours_6 bi_60 ?_
    refine x_icmp_le (pc := 8) (t := 13) g dX11_hours_8 (by decide) ?_ ?_
    · refine x_iconst (pc := 11) g dX11_hours_11 ic_m1 ?_
      exact x_iret (pc := 12) g dX11_hours_12 rfl (fun _ h => h)
    · refine x_iload_n (pc := 13) (i := 1) (a := 1) g dX11_hours_13 rfl rfl ?_
      refine x_sipush (pc := 14) g dX11_hours_14 si_400 ?_
      refine x_aload_n (pc := 17) (i := 0) (a := 0) g dX11_hours_17 rfl rfl ?_
      refine x_getR (pc := 18) (x := 5) g hW dX11_hours_18 fl_11_30 (sOwlsLent isOwlsLent_0) rfl ?_
      refine x_getR (pc := 21) (x := 33) g hW dX11_hours_21 fl_11_147 (sImage isImage_5) rfl ?_
      refine x_getI (pc := 24) g hW dX11_hours_24 fl_11_206 (sState isState_33) rfl ?_
      refine x_isub (pc := 27) g dX11_hours_27 ?_
      refine x_mmin (pc := 28) g dX11_hours_28 mk_11_263 mm_min ⟨by decide, Nat.le_of_ble_eq_true rfl⟩ ?_
      refine x_nmI (fun x1 => ?_)
      refine x_istore_n (pc := 31) (i := 2) (lv' := [(2, .int x1), (0, .ref (xad G 0)), (1, .int p0)]) g dX11_hours_31 rfl (by decide) rfl ?_
      refine x_aload_n (pc := 32) (i := 0) (a := 1) g dX11_hours_32 rfl rfl ?_
      refine x_getR (pc := 33) (x := 118) g hW dX11_hours_33 fl_11_62 (sOwlsLent isOwlsLent_0) rfl ?_
      refine x_aload_n (pc := 36) (i := 0) (a := 1) g dX11_hours_36 rfl rfl ?_
      refine x_getR (pc := 37) (x := 5) g hW dX11_hours_37 fl_11_30 (sOwlsLent isOwlsLent_0) rfl ?_
      refine x_getR (pc := 40) (x := 33) g hW dX11_hours_40 fl_11_147 (sImage isImage_5) rfl ?_
      refine x_Vv (pc := 43) g hW [.ref (xad G 33)] [] (c_State_copyFrom l G hW m 118 33 isState_118 isState_33) dX11_hours_43 ml_11_238 (sState isState_118) rfl rfl (Nat.le_of_ble_eq_true rfl) ⟨rfl, rfl, Nat.le_of_ble_eq_true rfl, Nat.le_of_ble_eq_true rfl⟩ (fun r2 hr2 => ?_)
      refine x_iconst (pc := 46) g dX11_hours_46 ic_0 ?_
      refine x_istore_n (pc := 47) (i := 3) (lv' := [(3, .int 0), (2, .int x1), (0, .ref (xad G 0)), (1, .int p0)]) g dX11_hours_47 rfl (by decide) rfl ?_
      exact x_sub [2, 1, 0] (T_O_hours_b48 hW g p0 1000 x1 0 r2) rfl
theorem c_O_hours (l : Launch) (G : xG) (hW : WC G) (m : xMem) (p0 : Int32) : xCim l G yX11_hours cX11_hours 4 (some .int) rm_O_hours [.ref (xad G 0), .int p0] m (O_hours m p0) :=
  xCt_of (own := RX11) (by decide) rfl (Nat.le_of_ble_eq_true rfl) rfl ⟨rfl, rfl⟩ (fun E g => T_O_hours hW g m p0)
theorem T_O_drawn {l : Launch} {G : xG} {E : xE} (hW : WC G) (g : xGood E l G.1 RX11 cX11_drawn yX11_drawn 4 (some .int) rm_O_drawn) (m : xMem) (p0 : Int32) (p1 : Int32) : X E G (fun r : Int32 × xMem => (some (Value.int r.1), r.2)) 0 [(0, .ref (xad G 0)), (1, .int p0), (2, .int p1)] [] m (O_drawn m p0 p1) := by
  unfold O_drawn
  refine x_iload_n (pc := 0) (i := 1) (a := 1) g dX11_drawn_0 rfl rfl ?_
  refine x_iconst (pc := 1) g dX11_drawn_1 ic_1 ?_
  refine x_icmp_lt (pc := 2) (t := 11) g dX11_drawn_2 (by decide) ?_ ?_
  · refine x_iconst (pc := 11) g dX11_drawn_11 ic_m1 ?_
    exact x_iret (pc := 12) g dX11_drawn_12 rfl (fun _ h => h)
  · refine x_iload_n (pc := 5) (i := 1) (a := 1) g dX11_drawn_5 rfl rfl ?_
    refine x_bipush (pc := 6) g dX11_drawn_6 bi_60 ?_
    refine x_icmp_le (pc := 8) (t := 13) g dX11_drawn_8 (by decide) ?_ ?_
    · refine x_iconst (pc := 11) g dX11_drawn_11 ic_m1 ?_
      exact x_iret (pc := 12) g dX11_drawn_12 rfl (fun _ h => h)
    · refine x_iload_n (pc := 13) (i := 1) (a := 1) g dX11_drawn_13 rfl rfl ?_
      refine x_sipush (pc := 14) g dX11_drawn_14 si_400 ?_
      refine x_aload_n (pc := 17) (i := 0) (a := 0) g dX11_drawn_17 rfl rfl ?_
      refine x_getR (pc := 18) (x := 5) g hW dX11_drawn_18 fl_11_30 (sOwlsLent isOwlsLent_0) rfl ?_
      refine x_getR (pc := 21) (x := 33) g hW dX11_drawn_21 fl_11_147 (sImage isImage_5) rfl ?_
      refine x_getI (pc := 24) g hW dX11_drawn_24 fl_11_206 (sState isState_33) rfl ?_
      refine x_isub (pc := 27) g dX11_drawn_27 ?_
      refine x_mmin (pc := 28) g dX11_drawn_28 mk_11_263 mm_min ⟨by decide, Nat.le_of_ble_eq_true rfl⟩ ?_
      refine x_nmI (fun x1 => ?_)
      refine x_istore_n (pc := 31) (i := 3) (lv' := [(3, .int x1), (0, .ref (xad G 0)), (1, .int p0), (2, .int p1)]) g dX11_drawn_31 rfl (by decide) rfl ?_
      refine x_aload_n (pc := 32) (i := 0) (a := 1) g dX11_drawn_32 rfl rfl ?_
      refine x_getR (pc := 33) (x := 118) g hW dX11_drawn_33 fl_11_62 (sOwlsLent isOwlsLent_0) rfl ?_
      refine x_aload_n (pc := 36) (i := 0) (a := 1) g dX11_drawn_36 rfl rfl ?_
      refine x_getR (pc := 37) (x := 5) g hW dX11_drawn_37 fl_11_30 (sOwlsLent isOwlsLent_0) rfl ?_
      refine x_getR (pc := 40) (x := 33) g hW dX11_drawn_40 fl_11_147 (sImage isImage_5) rfl ?_
      refine x_Vv (pc := 43) g hW [.ref (xad G 33)] [] (c_State_copyFrom l G hW m 118 33 isState_118 isState_33) dX11_drawn_43 ml_11_238 (sState isState_118) rfl rfl (Nat.le_of_ble_eq_true rfl) ⟨rfl, rfl, Nat.le_of_ble_eq_true rfl, Nat.le_of_ble_eq_true rfl⟩ (fun r2 hr2 => ?_)
      refine x_aload_n (pc := 46) (i := 0) (a := 1) g dX11_drawn_46 rfl rfl ?_
      refine x_getR (pc := 47) (x := 118) g hW dX11_drawn_47 fl_11_62 (sOwlsLent isOwlsLent_0) rfl ?_
      refine x_aload_n (pc := 50) (i := 0) (a := 1) g dX11_drawn_50 rfl rfl ?_
      refine x_getR (pc := 51) (x := 5) g hW dX11_drawn_51 fl_11_30 (sOwlsLent isOwlsLent_0) rfl ?_
      refine x_getR (pc := 54) (x := 6) g hW dX11_drawn_54 fl_11_144 (sImage isImage_5) rfl ?_
      refine x_iload_n (pc := 57) (i := 3) (a := 0) g dX11_drawn_57 rfl rfl ?_
      refine x_iload_n (pc := 58) (i := 2) (a := 3) g dX11_drawn_58 rfl rfl ?_
      refine x_Vv (pc := 59) g hW [.ref (xad G 6), .int x1, .int p1] [] (c_State_passDrawn l G hW r2 118 6 x1 p1 isState_118 isHouse_6) dX11_drawn_59 ml_11_275 (sState isState_118) rfl rfl (Nat.le_of_ble_eq_true rfl) ⟨rfl, rfl, Nat.le_of_ble_eq_true rfl, Nat.le_of_ble_eq_true rfl⟩ (fun r3 hr3 => ?_)
      refine x_iload_n (pc := 62) (i := 3) (a := 0) g dX11_drawn_62 rfl rfl ?_
      refine x_if_le (pc := 63) (t := 70) g dX11_drawn_63 (by decide) ?_ ?_
      · refine x_aload_n (pc := 66) (i := 0) (a := 1) g dX11_drawn_66 rfl rfl ?_
        refine x_Vv (pc := 67) g hW [] [] (c_O_keepTrial l G hW r3) dX11_drawn_67 ml_11_272 (sOwlsLent isOwlsLent_0) rfl rfl (Nat.le_of_ble_eq_true rfl) ⟨rfl, rfl, Nat.le_of_ble_eq_true rfl, Nat.le_of_ble_eq_true rfl⟩ (fun r4 hr4 => ?_)
        refine x_iload_n (pc := 70) (i := 3) (a := 0) g dX11_drawn_70 rfl rfl ?_
        exact x_iret (pc := 71) g dX11_drawn_71 rfl (fun _ h => h)
      · refine x_iload_n (pc := 70) (i := 3) (a := 0) g dX11_drawn_70 rfl rfl ?_
        exact x_iret (pc := 71) g dX11_drawn_71 rfl (fun _ h => h)
theorem c_O_drawn (l : Launch) (G : xG) (hW : WC G) (m : xMem) (p0 : Int32) (p1 : Int32) : xCim l G yX11_drawn cX11_drawn 4 (some .int) rm_O_drawn [.ref (xad G 0), .int p0, .int p1] m (O_drawn m p0 p1) :=
  xCt_of (own := RX11) (by decide) rfl (Nat.le_of_ble_eq_true rfl) rfl ⟨rfl, rfl⟩ (fun E g => T_O_drawn hW g m p0 p1)
theorem T_O_undo {l : Launch} {G : xG} {E : xE} (hW : WC G) (g : xGood E l G.1 RX11 cX11_undo yX11_undo 1 (some .int) rm_O_undo) (m : xMem) : X E G (fun r : Int32 × xMem => (some (Value.int r.1), r.2)) 0 [(0, .ref (xad G 0))] [] m (O_undo m) := by
  unfold O_undo
  refine x_aload_n (pc := 0) (i := 0) (a := 0) g dX11_undo_0 rfl rfl ?_
  refine x_getR (pc := 1) (x := 123) g hW dX11_undo_1 fl_11_69 (sOwlsLent isOwlsLent_0) rfl ?_
  refine x_aload_n (pc := 4) (i := 0) (a := 0) g dX11_undo_4 rfl rfl ?_
  refine x_getR (pc := 5) (x := 5) g hW dX11_undo_5 fl_11_30 (sOwlsLent isOwlsLent_0) rfl ?_
  refine x_getR (pc := 8) (x := 33) g hW dX11_undo_8 fl_11_147 (sImage isImage_5) rfl ?_
  refine x_Vim (pc := 11) g hW [.ref (xad G 33)] [] (c_Undo_takeBack l G hW m 33 isState_33) dX11_undo_11 ml_11_279 (sUndo isUndo_123) rfl rfl (Nat.le_of_ble_eq_true rfl) ⟨rfl, rfl, Nat.le_of_ble_eq_true rfl, Nat.le_of_ble_eq_true rfl⟩ (fun r1 hr1 => ?_)
  exact x_iret (pc := 14) g dX11_undo_14 rfl (fun _ h => h)
theorem c_O_undo (l : Launch) (G : xG) (hW : WC G) (m : xMem) : xCim l G yX11_undo cX11_undo 1 (some .int) rm_O_undo [.ref (xad G 0)] m (O_undo m) :=
  xCt_of (own := RX11) (by decide) rfl (Nat.le_of_ble_eq_true rfl) rfl ⟨rfl, rfl⟩ (fun E g => T_O_undo hW g m)
theorem T_O_hears {l : Launch} {G : xG} {E : xE} (hW : WC G) (g : xGood E l G.1 RX11 cX11_hears yX11_hears 4 (some .int) rm_O_hears) (m : xMem) (p0 : Int32) : X E G (fun r : Int32 => (some (Value.int r), m)) 0 [(0, .ref (xad G 0)), (1, .int p0)] [] m (O_hears m p0) := by
  unfold O_hears
  refine x_aload_n (pc := 0) (i := 0) (a := 0) g dX11_hears_0 rfl rfl ?_
  refine x_getR (pc := 1) (x := 5) g hW dX11_hears_1 fl_11_30 (sOwlsLent isOwlsLent_0) rfl ?_
  refine x_getR (pc := 4) (x := 6) g hW dX11_hears_4 fl_11_144 (sImage isImage_5) rfl ?_
  refine x_astore_n (pc := 7) (i := 2) (lv' := [(2, .ref (xad G 6)), (0, .ref (xad G 0)), (1, .int p0)]) g dX11_hears_7 rfl (by decide) rfl ?_
  refine x_aload_n (pc := 8) (i := 0) (a := 1) g dX11_hears_8 rfl rfl ?_
  refine x_getR (pc := 9) (x := 5) g hW dX11_hears_9 fl_11_30 (sOwlsLent isOwlsLent_0) rfl ?_
  refine x_getR (pc := 12) (x := 33) g hW dX11_hears_12 fl_11_147 (sImage isImage_5) rfl ?_
  refine x_astore_n (pc := 15) (i := 3) (lv' := [(3, .ref (xad G 33)), (2, .ref (xad G 6)), (0, .ref (xad G 0)), (1, .int p0)]) g dX11_hears_15 rfl (by decide) rfl ?_
  refine x_aload_n (pc := 16) (i := 2) (a := 1) g dX11_hears_16 rfl rfl ?_
  refine x_iload_n (pc := 17) (i := 1) (a := 3) g dX11_hears_17 rfl rfl ?_
  refine x_Vi (pc := 18) g hW [.int p0] [] (c_House_hasOwl l G hW m 6 p0 isHouse_6) dX11_hears_18 ml_11_175 (sHouse isHouse_6) rfl rfl (Nat.le_of_ble_eq_true rfl) ⟨rfl, rfl, Nat.le_of_ble_eq_true rfl, Nat.le_of_ble_eq_true rfl⟩ (fun r1 hr1 => ?_)
  refine x_if_eq (pc := 21) (t := 39) g dX11_hears_21 (by decide) ?_ ?_
  · refine x_iconst (pc := 39) g dX11_hears_39 ic_m1 ?_
    exact x_iret (pc := 40) g dX11_hears_40 rfl (fun _ h => h)
  · refine x_aload_n (pc := 24) (i := 3) (a := 0) g dX11_hears_24 rfl rfl ?_
    refine x_aload_n (pc := 25) (i := 2) (a := 1) g dX11_hears_25 rfl rfl ?_
    refine x_iload_n (pc := 26) (i := 1) (a := 3) g dX11_hears_26 rfl rfl ?_
    refine x_aload_n (pc := 27) (i := 3) (a := 0) g dX11_hears_27 rfl rfl ?_
    refine x_getR (pc := 28) (x := 35) g hW dX11_hears_28 fl_11_180 (sState isState_33) rfl ?_
    refine x_iload_n (pc := 31) (i := 1) (a := 3) g dX11_hears_31 rfl rfl ?_
    refine x_iald (pc := 32) g hW dX11_hears_32 (sState_owlBed isState_33) (fun j2 hj2 => ?_)
    refine x_Vi (pc := 33) g hW [.ref (xad G 6), .int p0, .int (m.1 35 j2)] [] (c_State_heardNow l G hW m 33 6 p0 (m.1 35 j2) isState_33 isHouse_6) dX11_hears_33 ml_11_286 (sState isState_33) rfl rfl (Nat.le_of_ble_eq_true rfl) ⟨rfl, rfl, Nat.le_of_ble_eq_true rfl, Nat.le_of_ble_eq_true rfl⟩ (fun r3 hr3 => ?_)
    refine x_goto (pc := 36) (t := 40) g dX11_hears_36 (by decide) ?_
    exact x_iret (pc := 40) g dX11_hears_40 rfl (fun _ h => h)
theorem c_O_hears (l : Launch) (G : xG) (hW : WC G) (m : xMem) (p0 : Int32) : xCi l G yX11_hears cX11_hears 4 (some .int) rm_O_hears [.ref (xad G 0), .int p0] m (O_hears m p0) :=
  xCt_of (own := RX11) (by decide) rfl (Nat.le_of_ble_eq_true rfl) rfl ⟨rfl, rfl⟩ (fun E g => T_O_hears hW g m p0)
theorem T_O_would {l : Launch} {G : xG} {E : xE} (hW : WC G) (g : xGood E l G.1 RX11 cX11_would yX11_would 5 (some .int) rm_O_would) (m : xMem) (p0 : Int32) (p1 : Int32) : X E G (fun r : Int32 => (some (Value.int r), m)) 0 [(0, .ref (xad G 0)), (1, .int p0), (2, .int p1)] [] m (O_would m p0 p1) := by
  unfold O_would
  refine x_aload_n (pc := 0) (i := 0) (a := 0) g dX11_would_0 rfl rfl ?_
  refine x_getR (pc := 1) (x := 5) g hW dX11_would_1 fl_11_30 (sOwlsLent isOwlsLent_0) rfl ?_
  refine x_getR (pc := 4) (x := 6) g hW dX11_would_4 fl_11_144 (sImage isImage_5) rfl ?_
  refine x_astore_n (pc := 7) (i := 3) (lv' := [(3, .ref (xad G 6)), (0, .ref (xad G 0)), (1, .int p0), (2, .int p1)]) g dX11_would_7 rfl (by decide) rfl ?_
  refine x_aload_n (pc := 8) (i := 0) (a := 1) g dX11_would_8 rfl rfl ?_
  refine x_getR (pc := 9) (x := 5) g hW dX11_would_9 fl_11_30 (sOwlsLent isOwlsLent_0) rfl ?_
  refine x_getR (pc := 12) (x := 33) g hW dX11_would_12 fl_11_147 (sImage isImage_5) rfl ?_
  refine x_astore (pc := 15) (lv' := [(4, .ref (xad G 33)), (3, .ref (xad G 6)), (0, .ref (xad G 0)), (1, .int p0), (2, .int p1)]) g dX11_would_15 (by decide) rfl ?_
  refine x_aload_n (pc := 17) (i := 3) (a := 1) g dX11_would_17 rfl rfl ?_
  refine x_iload_n (pc := 18) (i := 1) (a := 3) g dX11_would_18 rfl rfl ?_
  refine x_Vi (pc := 19) g hW [.int p0] [] (c_House_hasOwl l G hW m 6 p0 isHouse_6) dX11_would_19 ml_11_175 (sHouse isHouse_6) rfl rfl (Nat.le_of_ble_eq_true rfl) ⟨rfl, rfl, Nat.le_of_ble_eq_true rfl, Nat.le_of_ble_eq_true rfl⟩ (fun r1 hr1 => ?_)
  refine x_if_eq (pc := 22) (t := 33) g dX11_would_22 (by decide) ?_ ?_
  · refine x_iconst (pc := 33) g dX11_would_33 ic_m1 ?_
    exact x_iret (pc := 34) g dX11_would_34 rfl (fun _ h => h)
  · refine x_aload_n (pc := 25) (i := 3) (a := 1) g dX11_would_25 rfl rfl ?_
    refine x_iload_n (pc := 26) (i := 2) (a := 4) g dX11_would_26 rfl rfl ?_
    refine x_Vi (pc := 27) g hW [.int p1] [] (c_House_hasBed l G hW m 6 p1 isHouse_6) dX11_would_27 ml_11_150 (sHouse isHouse_6) rfl rfl (Nat.le_of_ble_eq_true rfl) ⟨rfl, rfl, Nat.le_of_ble_eq_true rfl, Nat.le_of_ble_eq_true rfl⟩ (fun r2 hr2 => ?_)
    refine x_if_ne (pc := 30) (t := 35) g dX11_would_30 (by decide) ?_ ?_
    · refine x_iconst (pc := 33) g dX11_would_33 ic_m1 ?_
      exact x_iret (pc := 34) g dX11_would_34 rfl (fun _ h => h)
    · refine x_aload (pc := 35) (a := 0) g dX11_would_35 rfl ?_
      refine x_aload_n (pc := 37) (i := 3) (a := 1) g dX11_would_37 rfl rfl ?_
      refine x_iload_n (pc := 38) (i := 2) (a := 4) g dX11_would_38 rfl rfl ?_
      refine x_aload (pc := 39) (a := 0) g dX11_would_39 rfl ?_
      refine x_aload_n (pc := 41) (i := 3) (a := 1) g dX11_would_41 rfl rfl ?_
      refine x_iload_n (pc := 42) (i := 1) (a := 3) g dX11_would_42 rfl rfl ?_
      refine x_iload_n (pc := 43) (i := 2) (a := 4) g dX11_would_43 rfl rfl ?_
      refine x_iconst (pc := 44) g dX11_would_44 ic_0 ?_
      refine x_Vi (pc := 45) g hW [.ref (xad G 6), .int p0, .int p1, .int 0] [.int p1, .ref (xad G 6), .ref (xad G 33)] (c_State_lookOf l G hW m 33 6 p0 p1 0 isState_33 isHouse_6) dX11_would_45 ml_11_186 (sState isState_33) rfl rfl (Nat.le_of_ble_eq_true rfl) ⟨rfl, rfl, Nat.le_of_ble_eq_true rfl, Nat.le_of_ble_eq_true rfl⟩ (fun r3 hr3 => ?_)
      refine x_Vi (pc := 48) g hW [.ref (xad G 6), .int p1, .int r3] [] (c_State_sideFrom l G hW m 33 6 p1 r3 isState_33 isHouse_6) dX11_would_48 ml_11_190 (sState isState_33) rfl rfl (Nat.le_of_ble_eq_true rfl) ⟨rfl, rfl, Nat.le_of_ble_eq_true rfl, Nat.le_of_ble_eq_true rfl⟩ (fun r4 hr4 => ?_)
      exact x_iret (pc := 51) g dX11_would_51 rfl (fun _ h => h)
theorem c_O_would (l : Launch) (G : xG) (hW : WC G) (m : xMem) (p0 : Int32) (p1 : Int32) : xCi l G yX11_would cX11_would 5 (some .int) rm_O_would [.ref (xad G 0), .int p0, .int p1] m (O_would m p0 p1) :=
  xCt_of (own := RX11) (by decide) rfl (Nat.le_of_ble_eq_true rfl) rfl ⟨rfl, rfl⟩ (fun E g => T_O_would hW g m p0 p1)
theorem T_O_when_b64 {l : Launch} {G : xG} {E : xE} (hW : WC G) (g : xGood E l G.1 RX11 cX11_when yX11_when 8 (some .int) rm_O_when) (m : xMem) (p0 : Int32) (p1 : Int32) : ∀ (n : Nat) (v5 : Int32) (v6 : Int32) (v7 : Int32), X E G (fun r : Int32 => (some (Value.int r), m)) 64 [(1, .int p0), (2, .int p1), (3, .ref (xad G 6)), (4, .ref (xad G 33)), (5, .int v5), (6, .int v6), (7, .int v7)] [] m (O_when_b64 m p0 p1 n v5 v6 v7) := by
  intro n
  induction n with
  | zero => intro v5 v6 v7; exact x_none
  | succ n ih =>
    intro v5 v6 v7
    rw [O_when_b64]
    refine x_iload (pc := 64) (a := 6) g dX11_when_64 rfl ?_
    refine x_iload (pc := 66) (a := 5) g dX11_when_66 rfl ?_
    refine x_icmp_gt (pc := 68) (t := 103) g dX11_when_68 (by decide) ?_ ?_
    · refine x_iconst (pc := 103) g dX11_when_103 ic_m1 ?_
      exact x_iret (pc := 104) g dX11_when_104 rfl (fun _ h => h)
    · refine x_aload (pc := 71) (a := 3) g dX11_when_71 rfl ?_
      refine x_aload_n (pc := 73) (i := 3) (a := 2) g dX11_when_73 rfl rfl ?_
      refine x_iload (pc := 74) (a := 4) g dX11_when_74 rfl ?_
      refine x_aload (pc := 76) (a := 3) g dX11_when_76 rfl ?_
      refine x_aload_n (pc := 78) (i := 3) (a := 2) g dX11_when_78 rfl rfl ?_
      refine x_iload_n (pc := 79) (i := 1) (a := 0) g dX11_when_79 rfl rfl ?_
      refine x_iload (pc := 80) (a := 4) g dX11_when_80 rfl ?_
      refine x_iload (pc := 82) (a := 6) g dX11_when_82 rfl ?_
      refine x_Vi (pc := 84) g hW [.ref (xad G 6), .int p0, .int v5, .int v7] [.int v5, .ref (xad G 6), .ref (xad G 33)] (c_State_lookOf l G hW m 33 6 p0 v5 v7 isState_33 isHouse_6) dX11_when_84 ml_11_186 (sState isState_33) rfl rfl (Nat.le_of_ble_eq_true rfl) ⟨rfl, rfl, Nat.le_of_ble_eq_true rfl, Nat.le_of_ble_eq_true rfl⟩ (fun r5 hr5 => ?_)
      refine x_Vi (pc := 87) g hW [.ref (xad G 6), .int v5, .int r5] [] (c_State_sideFrom l G hW m 33 6 v5 r5 isState_33 isHouse_6) dX11_when_87 ml_11_190 (sState isState_33) rfl rfl (Nat.le_of_ble_eq_true rfl) ⟨rfl, rfl, Nat.le_of_ble_eq_true rfl, Nat.le_of_ble_eq_true rfl⟩ (fun r6 hr6 => ?_)
      refine x_iload_n (pc := 90) (i := 2) (a := 1) g dX11_when_90 rfl rfl ?_
      refine x_icmp_ne (pc := 91) (t := 97) g dX11_when_91 (by decide) ?_ ?_
      · refine x_iload (pc := 94) (a := 6) g dX11_when_94 rfl ?_
        exact x_iret (pc := 96) g dX11_when_96 rfl (fun _ h => h)
      · refine x_iinc (pc := 97) (a := 6) (lv' := [(7, .int (v7 + 1)), (1, .int p0), (2, .int p1), (3, .ref (xad G 6)), (4, .ref (xad G 33)), (5, .int v5), (6, .int v6)]) g dX11_when_97 ic_1 rfl (by decide) rfl ?_
        refine x_goto (pc := 100) (t := 64) g dX11_when_100 (by decide) ?_
        exact x_sub [1, 2, 3, 4, 5, 6, 0] (ih v5 v6 (v7 + 1)) rfl
theorem T_O_when {l : Launch} {G : xG} {E : xE} (hW : WC G) (g : xGood E l G.1 RX11 cX11_when yX11_when 8 (some .int) rm_O_when) (m : xMem) (p0 : Int32) (p1 : Int32) : X E G (fun r : Int32 => (some (Value.int r), m)) 0 [(0, .ref (xad G 0)), (1, .int p0), (2, .int p1)] [] m (O_when m p0 p1) := by
  unfold O_when
  refine x_aload_n (pc := 0) (i := 0) (a := 0) g dX11_when_0 rfl rfl ?_
  refine x_getR (pc := 1) (x := 5) g hW dX11_when_1 fl_11_30 (sOwlsLent isOwlsLent_0) rfl ?_
  refine x_getR (pc := 4) (x := 6) g hW dX11_when_4 fl_11_144 (sImage isImage_5) rfl ?_
  refine x_astore_n (pc := 7) (i := 3) (lv' := [(3, .ref (xad G 6)), (0, .ref (xad G 0)), (1, .int p0), (2, .int p1)]) g dX11_when_7 rfl (by decide) rfl ?_
  refine x_aload_n (pc := 8) (i := 0) (a := 1) g dX11_when_8 rfl rfl ?_
  refine x_getR (pc := 9) (x := 5) g hW dX11_when_9 fl_11_30 (sOwlsLent isOwlsLent_0) rfl ?_
  refine x_getR (pc := 12) (x := 33) g hW dX11_when_12 fl_11_147 (sImage isImage_5) rfl ?_
  refine x_astore (pc := 15) (lv' := [(4, .ref (xad G 33)), (3, .ref (xad G 6)), (0, .ref (xad G 0)), (1, .int p0), (2, .int p1)]) g dX11_when_15 (by decide) rfl ?_
  refine x_aload_n (pc := 17) (i := 3) (a := 1) g dX11_when_17 rfl rfl ?_
  refine x_iload_n (pc := 18) (i := 1) (a := 3) g dX11_when_18 rfl rfl ?_
  refine x_Vi (pc := 19) g hW [.int p0] [] (c_House_hasOwl l G hW m 6 p0 isHouse_6) dX11_when_19 ml_11_175 (sHouse isHouse_6) rfl rfl (Nat.le_of_ble_eq_true rfl) ⟨rfl, rfl, Nat.le_of_ble_eq_true rfl, Nat.le_of_ble_eq_true rfl⟩ (fun r1 hr1 => ?_)
  refine x_if_eq (pc := 22) (t := 34) g dX11_when_22 (by decide) ?_ ?_
  · refine x_iconst (pc := 34) g dX11_when_34 ic_m1 ?_
    exact x_iret (pc := 35) g dX11_when_35 rfl (fun _ h => h)
  · refine x_iload_n (pc := 25) (i := 2) (a := 4) g dX11_when_25 rfl rfl ?_
    refine x_if_lt (pc := 26) (t := 34) g dX11_when_26 (by decide) ?_ ?_
    · refine x_iconst (pc := 34) g dX11_when_34 ic_m1 ?_
      exact x_iret (pc := 35) g dX11_when_35 rfl (fun _ h => h)
    · refine x_iload_n (pc := 29) (i := 2) (a := 4) g dX11_when_29 rfl rfl ?_
      refine x_iconst (pc := 30) g dX11_when_30 ic_4 ?_
      refine x_icmp_le (pc := 31) (t := 36) g dX11_when_31 (by decide) ?_ ?_
      · refine x_iconst (pc := 34) g dX11_when_34 ic_m1 ?_
        exact x_iret (pc := 35) g dX11_when_35 rfl (fun _ h => h)
      · refine x_aload (pc := 36) (a := 0) g dX11_when_36 rfl ?_
        refine x_getR (pc := 38) (x := 35) g hW dX11_when_38 fl_11_180 (sState isState_33) rfl ?_
        refine x_iload_n (pc := 41) (i := 1) (a := 3) g dX11_when_41 rfl rfl ?_
        refine x_iald (pc := 42) g hW dX11_when_42 (sState_owlBed isState_33) (fun j2 hj2 => ?_)
        refine x_nmI (fun x3 => ?_)
        refine x_istore (pc := 43) (lv' := [(5, .int x3), (4, .ref (xad G 33)), (3, .ref (xad G 6)), (0, .ref (xad G 0)), (1, .int p0), (2, .int p1)]) g dX11_when_43 (by decide) rfl ?_
        refine x_bipush (pc := 45) g dX11_when_45 bi_48 ?_
        refine x_sipush (pc := 47) g dX11_when_47 si_400 ?_
        refine x_aload (pc := 50) (a := 1) g dX11_when_50 rfl ?_
        refine x_getI (pc := 52) g hW dX11_when_52 fl_11_206 (sState isState_33) rfl ?_
        refine x_isub (pc := 55) g dX11_when_55 ?_
        refine x_mmin (pc := 56) g dX11_when_56 mk_11_263 mm_min ⟨by decide, Nat.le_of_ble_eq_true rfl⟩ ?_
        refine x_nmI (fun x4 => ?_)
        refine x_istore (pc := 59) (lv' := [(6, .int x4), (5, .int x3), (4, .ref (xad G 33)), (3, .ref (xad G 6)), (0, .ref (xad G 0)), (1, .int p0), (2, .int p1)]) g dX11_when_59 (by decide) rfl ?_
        refine x_iconst (pc := 61) g dX11_when_61 ic_0 ?_
        refine x_istore (pc := 62) (lv' := [(7, .int 0), (6, .int x4), (5, .int x3), (4, .ref (xad G 33)), (3, .ref (xad G 6)), (0, .ref (xad G 0)), (1, .int p0), (2, .int p1)]) g dX11_when_62 (by decide) rfl ?_
        exact x_sub [6, 7, 4, 3, 2, 1, 0] (T_O_when_b64 hW g m p0 p1 1000 x3 x4 0) rfl
theorem c_O_when (l : Launch) (G : xG) (hW : WC G) (m : xMem) (p0 : Int32) (p1 : Int32) : xCi l G yX11_when cX11_when 8 (some .int) rm_O_when [.ref (xad G 0), .int p0, .int p1] m (O_when m p0 p1) :=
  xCt_of (own := RX11) (by decide) rfl (Nat.le_of_ble_eq_true rfl) rfl ⟨rfl, rfl⟩ (fun E g => T_O_when hW g m p0 p1)
theorem T_O_worth_b78 {l : Launch} {G : xG} {E : xE} (hW : WC G) (g : xGood E l G.1 RX11 cX11_worth yX11_worth 10 (some .int) rm_O_worth) (m : xMem) (p0 : Int32) (p1 : Int32) : ∀ (n : Nat) (v5 : Int32) (v6 : Int32) (v7 : Int32) (v8 : Int32), X E G (fun r : Int32 => (some (Value.int r), m)) 78 [(1, .int p0), (3, .ref (xad G 6)), (4, .ref (xad G 33)), (5, .int v5), (6, .int v6), (7, .int v7), (8, .int v8)] [] m (O_worth_b78 m p0 p1 n v5 v6 v7 v8) := by
  intro n
  induction n with
  | zero => intro v5 v6 v7 v8; exact x_none
  | succ n ih =>
    intro v5 v6 v7 v8
    rw [O_worth_b78]
    refine x_iload (pc := 78) (a := 6) g dX11_worth_78 rfl ?_
    refine x_iload (pc := 80) (a := 4) g dX11_worth_80 rfl ?_
    refine x_icmp_ge (pc := 82) (t := 130) g dX11_worth_82 (by decide) ?_ ?_
    · refine x_aload (pc := 85) (a := 2) g dX11_worth_85 rfl ?_
      refine x_aload_n (pc := 87) (i := 3) (a := 1) g dX11_worth_87 rfl rfl ?_
      refine x_iload (pc := 88) (a := 3) g dX11_worth_88 rfl ?_
      refine x_iload_n (pc := 90) (i := 1) (a := 0) g dX11_worth_90 rfl rfl ?_
      refine x_iload (pc := 91) (a := 6) g dX11_worth_91 rfl ?_
      refine x_Vi (pc := 93) g hW [.ref (xad G 6), .int v5, .int p0, .int v8] [] (c_State_lookOf l G hW m 33 6 v5 p0 v8 isState_33 isHouse_6) dX11_worth_93 ml_11_186 (sState isState_33) rfl rfl (Nat.le_of_ble_eq_true rfl) ⟨rfl, rfl, Nat.le_of_ble_eq_true rfl, Nat.le_of_ble_eq_true rfl⟩ (fun r4 hr4 => ?_)
      refine x_istore (pc := 96) (lv' := [(9, .int r4), (1, .int p0), (3, .ref (xad G 6)), (4, .ref (xad G 33)), (5, .int v5), (6, .int v6), (7, .int v7), (8, .int v8)]) g dX11_worth_96 (by decide) rfl ?_
      refine x_iload (pc := 98) (a := 0) g dX11_worth_98 rfl ?_
      refine x_iconst (pc := 100) g dX11_worth_100 ic_m1 ?_
      refine x_icmp_eq (pc := 101) (t := 124) g dX11_worth_101 (by decide) ?_ ?_
      · refine x_iinc (pc := 124) (a := 7) (lv' := [(8, .int (v8 + 1)), (9, .int r4), (1, .int p0), (3, .ref (xad G 6)), (4, .ref (xad G 33)), (5, .int v5), (6, .int v6), (7, .int v7)]) g dX11_worth_124 ic_1 rfl (by decide) rfl ?_
        refine x_goto (pc := 127) (t := 78) g dX11_worth_127 (by decide) ?_
        exact x_sub [2, 3, 4, 5, 6, 7, 0] (ih v5 v6 v7 (v8 + 1)) rfl
      · refine x_aload_n (pc := 104) (i := 3) (a := 2) g dX11_worth_104 rfl rfl ?_
        refine x_iload_n (pc := 105) (i := 1) (a := 1) g dX11_worth_105 rfl rfl ?_
        refine x_aload (pc := 106) (a := 3) g dX11_worth_106 rfl ?_
        refine x_aload_n (pc := 108) (i := 3) (a := 2) g dX11_worth_108 rfl rfl ?_
        refine x_iload (pc := 109) (a := 0) g dX11_worth_109 rfl ?_
        refine x_Vn (pc := 111) g hW [.ref (xad G 6), .int r4] [.int p0, .ref (xad G 6)] (c_State_rowOf l G hW m 33 6 r4 isState_33 isHouse_6) dX11_worth_111 ml_11_295 (sState isState_33) rfl rfl (Nat.le_of_ble_eq_true rfl) ⟨rfl, rfl, Nat.le_of_ble_eq_true rfl, Nat.le_of_ble_eq_true rfl⟩ (fun r5 hr5 => ?_)
        obtain ⟨Nr5, h4r5, hSr5⟩ := rowOf_src isState_33 isHouse_6 hr5
        refine x_Vi (pc := 114) g hW [.int p0, .ref (xad G r5)] [] (c_House_loudAt l G hW m 6 p0 r5 isHouse_6 hSr5 h4r5) dX11_worth_114 ml_11_291 (sHouse isHouse_6) rfl rfl (Nat.le_of_ble_eq_true rfl) ⟨rfl, rfl, Nat.le_of_ble_eq_true rfl, Nat.le_of_ble_eq_true rfl⟩ (fun r6 hr6 => ?_)
        refine x_iconst (pc := 117) g dX11_worth_117 ic_5 ?_
        refine x_icmp_lt (pc := 118) (t := 124) g dX11_worth_118 (by decide) ?_ ?_
        · refine x_iinc (pc := 124) (a := 7) (lv' := [(8, .int (v8 + 1)), (9, .int r4), (1, .int p0), (3, .ref (xad G 6)), (4, .ref (xad G 33)), (5, .int v5), (6, .int v6), (7, .int v7)]) g dX11_worth_124 ic_1 rfl (by decide) rfl ?_
          refine x_goto (pc := 127) (t := 78) g dX11_worth_127 (by decide) ?_
          exact x_sub [2, 3, 4, 5, 6, 7, 0] (ih v5 v6 v7 (v8 + 1)) rfl
        · refine x_iinc (pc := 121) (a := 6) (lv' := [(7, .int (v7 + 1)), (9, .int r4), (1, .int p0), (3, .ref (xad G 6)), (4, .ref (xad G 33)), (5, .int v5), (6, .int v6), (8, .int v8)]) g dX11_worth_121 ic_1 rfl (by decide) rfl ?_
          refine x_iinc (pc := 124) (a := 7) (lv' := [(8, .int (v8 + 1)), (7, .int (v7 + 1)), (9, .int r4), (1, .int p0), (3, .ref (xad G 6)), (4, .ref (xad G 33)), (5, .int v5), (6, .int v6)]) g dX11_worth_124 ic_1 rfl (by decide) rfl ?_
          refine x_goto (pc := 127) (t := 78) g dX11_worth_127 (by decide) ?_
          exact x_sub [3, 4, 5, 6, 7, 1, 0] (ih v5 v6 (v7 + 1) (v8 + 1)) rfl
    · refine x_iload (pc := 130) (a := 5) g dX11_worth_130 rfl ?_
      exact x_iret (pc := 132) g dX11_worth_132 rfl (fun _ h => h)
theorem T_O_worth_b36 {l : Launch} {G : xG} {E : xE} (hW : WC G) (g : xGood E l G.1 RX11 cX11_worth yX11_worth 10 (some .int) rm_O_worth) (m : xMem) (p0 : Int32) (p1 : Int32) (s0 : Int32) : X E G (fun r : Int32 => (some (Value.int r), m)) 36 [(1, .int p0), (2, .int p1), (3, .ref (xad G 6)), (4, .ref (xad G 33))] [.int s0] m (O_worth_b36 m p0 p1 s0) := by
  unfold O_worth_b36
  refine x_istore (pc := 36) (lv' := [(5, .int s0), (1, .int p0), (2, .int p1), (3, .ref (xad G 6)), (4, .ref (xad G 33))]) g dX11_worth_36 (by decide) rfl ?_
  refine x_iload (pc := 38) (a := 0) g dX11_worth_38 rfl ?_
  refine x_iconst (pc := 40) g dX11_worth_40 ic_m1 ?_
  refine x_icmp_eq (pc := 41) (t := 55) g dX11_worth_41 (by decide) ?_ ?_
  · refine x_iconst (pc := 55) g dX11_worth_55 ic_m1 ?_
    exact x_iret (pc := 56) g dX11_worth_56 rfl (fun _ h => h)
  · refine x_iload_n (pc := 44) (i := 2) (a := 2) g dX11_worth_44 rfl rfl ?_
    refine x_iconst (pc := 45) g dX11_worth_45 ic_1 ?_
    refine x_icmp_lt (pc := 46) (t := 55) g dX11_worth_46 (by decide) ?_ ?_
    · refine x_iconst (pc := 55) g dX11_worth_55 ic_m1 ?_
      exact x_iret (pc := 56) g dX11_worth_56 rfl (fun _ h => h)
    · refine x_iload_n (pc := 49) (i := 2) (a := 2) g dX11_worth_49 rfl rfl ?_
      refine x_bipush (pc := 50) g dX11_worth_50 bi_60 ?_
      refine x_icmp_le (pc := 52) (t := 57) g dX11_worth_52 (by decide) ?_ ?_
      · refine x_iconst (pc := 55) g dX11_worth_55 ic_m1 ?_
        exact x_iret (pc := 56) g dX11_worth_56 rfl (fun _ h => h)
      · refine x_iload_n (pc := 57) (i := 2) (a := 2) g dX11_worth_57 rfl rfl ?_
        refine x_sipush (pc := 58) g dX11_worth_58 si_400 ?_
        refine x_aload (pc := 61) (a := 4) g dX11_worth_61 rfl ?_
        refine x_getI (pc := 63) g hW dX11_worth_63 fl_11_206 (sState isState_33) rfl ?_
        refine x_isub (pc := 66) g dX11_worth_66 ?_
        refine x_mmin (pc := 67) g dX11_worth_67 mk_11_263 mm_min ⟨by decide, Nat.le_of_ble_eq_true rfl⟩ ?_
        refine x_nmI (fun x3 => ?_)
        refine x_istore (pc := 70) (lv' := [(6, .int x3), (5, .int s0), (1, .int p0), (2, .int p1), (3, .ref (xad G 6)), (4, .ref (xad G 33))]) g dX11_worth_70 (by decide) rfl ?_
        refine x_iconst (pc := 72) g dX11_worth_72 ic_0 ?_
        refine x_istore (pc := 73) (lv' := [(7, .int 0), (6, .int x3), (5, .int s0), (1, .int p0), (2, .int p1), (3, .ref (xad G 6)), (4, .ref (xad G 33))]) g dX11_worth_73 (by decide) rfl ?_
        refine x_iconst (pc := 75) g dX11_worth_75 ic_0 ?_
        refine x_istore (pc := 76) (lv' := [(8, .int 0), (7, .int 0), (6, .int x3), (5, .int s0), (1, .int p0), (2, .int p1), (3, .ref (xad G 6)), (4, .ref (xad G 33))]) g dX11_worth_76 (by decide) rfl ?_
        exact x_sub [4, 6, 7, 3, 2, 1, 0] (T_O_worth_b78 hW g m p0 p1 1000 s0 x3 0 0) rfl
theorem T_O_worth {l : Launch} {G : xG} {E : xE} (hW : WC G) (g : xGood E l G.1 RX11 cX11_worth yX11_worth 10 (some .int) rm_O_worth) (m : xMem) (p0 : Int32) (p1 : Int32) : X E G (fun r : Int32 => (some (Value.int r), m)) 0 [(0, .ref (xad G 0)), (1, .int p0), (2, .int p1)] [] m (O_worth m p0 p1) := by
  unfold O_worth
  refine x_aload_n (pc := 0) (i := 0) (a := 0) g dX11_worth_0 rfl rfl ?_
  refine x_getR (pc := 1) (x := 5) g hW dX11_worth_1 fl_11_30 (sOwlsLent isOwlsLent_0) rfl ?_
  refine x_getR (pc := 4) (x := 6) g hW dX11_worth_4 fl_11_144 (sImage isImage_5) rfl ?_
  refine x_astore_n (pc := 7) (i := 3) (lv' := [(3, .ref (xad G 6)), (0, .ref (xad G 0)), (1, .int p0), (2, .int p1)]) g dX11_worth_7 rfl (by decide) rfl ?_
  refine x_aload_n (pc := 8) (i := 0) (a := 1) g dX11_worth_8 rfl rfl ?_
  refine x_getR (pc := 9) (x := 5) g hW dX11_worth_9 fl_11_30 (sOwlsLent isOwlsLent_0) rfl ?_
  refine x_getR (pc := 12) (x := 33) g hW dX11_worth_12 fl_11_147 (sImage isImage_5) rfl ?_
  refine x_astore (pc := 15) (lv' := [(4, .ref (xad G 33)), (3, .ref (xad G 6)), (0, .ref (xad G 0)), (1, .int p0), (2, .int p1)]) g dX11_worth_15 (by decide) rfl ?_
  refine x_aload_n (pc := 17) (i := 3) (a := 1) g dX11_worth_17 rfl rfl ?_
  refine x_iload_n (pc := 18) (i := 1) (a := 3) g dX11_worth_18 rfl rfl ?_
  refine x_Vi (pc := 19) g hW [.int p0] [] (c_House_hasBed l G hW m 6 p0 isHouse_6) dX11_worth_19 ml_11_150 (sHouse isHouse_6) rfl rfl (Nat.le_of_ble_eq_true rfl) ⟨rfl, rfl, Nat.le_of_ble_eq_true rfl, Nat.le_of_ble_eq_true rfl⟩ (fun r1 hr1 => ?_)
  refine x_if_eq (pc := 22) (t := 35) g dX11_worth_22 (by decide) ?_ ?_
  · refine x_iconst (pc := 35) g dX11_worth_35 ic_m1 ?_
    exact x_sub [3, 4, 1, 0] (T_O_worth_b36 hW g m p0 p1 ((-1))) rfl
  · refine x_aload (pc := 25) (a := 0) g dX11_worth_25 rfl ?_
    refine x_aload_n (pc := 27) (i := 3) (a := 1) g dX11_worth_27 rfl rfl ?_
    refine x_iload_n (pc := 28) (i := 1) (a := 3) g dX11_worth_28 rfl rfl ?_
    refine x_Vi (pc := 29) g hW [.ref (xad G 6), .int p0] [] (c_State_owlAt l G hW m 33 6 p0 isState_33 isHouse_6) dX11_worth_29 ml_11_165 (sState isState_33) rfl rfl (Nat.le_of_ble_eq_true rfl) ⟨rfl, rfl, Nat.le_of_ble_eq_true rfl, Nat.le_of_ble_eq_true rfl⟩ (fun r2 hr2 => ?_)
    refine x_goto (pc := 32) (t := 36) g dX11_worth_32 (by decide) ?_
    exact x_sub [3, 4, 1, 0] (T_O_worth_b36 hW g m p0 p1 r2) rfl
theorem c_O_worth (l : Launch) (G : xG) (hW : WC G) (m : xMem) (p0 : Int32) (p1 : Int32) : xCi l G yX11_worth cX11_worth 10 (some .int) rm_O_worth [.ref (xad G 0), .int p0, .int p1] m (O_worth m p0 p1) :=
  xCt_of (own := RX11) (by decide) rfl (Nat.le_of_ble_eq_true rfl) rfl ⟨rfl, rfl⟩ (fun E g => T_O_worth hW g m p0 p1)
theorem T_O_spots {l : Launch} {G : xG} {E : xE} (hW : WC G) (g : xGood E l G.1 RX11 cX11_spots yX11_spots 2 (some .int) rm_O_spots) (m : xMem) : X E G (fun r : Int32 × xMem => (some (Value.int r.1), r.2)) 0 [(0, .ref (xad G 0))] [] m (O_spots m) := by
  unfold O_spots
  refine x_aload_n (pc := 0) (i := 0) (a := 0) g dX11_spots_0 rfl rfl ?_
  refine x_getR (pc := 1) (x := 165) g hW dX11_spots_1 fl_11_76 (sOwlsLent isOwlsLent_0) rfl ?_
  refine x_aload_n (pc := 4) (i := 0) (a := 0) g dX11_spots_4 rfl rfl ?_
  refine x_getR (pc := 5) (x := 1) g hW dX11_spots_5 fl_11_14 (sOwlsLent isOwlsLent_0) rfl ?_
  refine x_aload_n (pc := 8) (i := 0) (a := 0) g dX11_spots_8 rfl rfl ?_
  refine x_getR (pc := 9) (x := 5) g hW dX11_spots_9 fl_11_30 (sOwlsLent isOwlsLent_0) rfl ?_
  refine x_getR (pc := 12) (x := 6) g hW dX11_spots_12 fl_11_144 (sImage isImage_5) rfl ?_
  refine x_aload_n (pc := 15) (i := 0) (a := 0) g dX11_spots_15 rfl rfl ?_
  refine x_getR (pc := 16) (x := 5) g hW dX11_spots_16 fl_11_30 (sOwlsLent isOwlsLent_0) rfl ?_
  refine x_getR (pc := 19) (x := 33) g hW dX11_spots_19 fl_11_147 (sImage isImage_5) rfl ?_
  refine x_Vim (pc := 22) g hW [.ref (xad G 1), .ref (xad G 6), .ref (xad G 33)] [] (c_Spots_find l G hW m 1 6 33 isTape_1 isHouse_6 isState_33) dX11_spots_22 ml_11_299 (sSpots isSpots_165) rfl rfl (Nat.le_of_ble_eq_true rfl) ⟨rfl, rfl, Nat.le_of_ble_eq_true rfl, Nat.le_of_ble_eq_true rfl⟩ (fun r1 hr1 => ?_)
  refine x_istore_n (pc := 25) (i := 1) (lv' := [(1, .int r1.1), (0, .ref (xad G 0))]) g dX11_spots_25 rfl (by decide) rfl ?_
  refine x_aload_n (pc := 26) (i := 0) (a := 1) g dX11_spots_26 rfl rfl ?_
  refine x_getR (pc := 27) (x := 1) g hW dX11_spots_27 fl_11_14 (sOwlsLent isOwlsLent_0) rfl ?_
  refine x_iconst (pc := 30) g dX11_spots_30 ic_0 ?_
  refine x_putI (pc := 31) g hW dX11_spots_31 fl_11_113 ft_8_1 (sTape isTape_1) rfl (fun m2 => ?_)
  refine x_iload_n (pc := 34) (i := 1) (a := 0) g dX11_spots_34 rfl rfl ?_
  exact x_iret (pc := 35) g dX11_spots_35 rfl (fun _ h => h)
theorem c_O_spots (l : Launch) (G : xG) (hW : WC G) (m : xMem) : xCim l G yX11_spots cX11_spots 2 (some .int) rm_O_spots [.ref (xad G 0)] m (O_spots m) :=
  xCt_of (own := RX11) (by decide) rfl (Nat.le_of_ble_eq_true rfl) rfl ⟨rfl, rfl⟩ (fun E g => T_O_spots hW g m)
theorem T_O_spotAt {l : Launch} {G : xG} {E : xE} (hW : WC G) (g : xGood E l G.1 RX11 cX11_spotAt yX11_spotAt 2 (some .int) rm_O_spotAt) (m : xMem) (p0 : Int32) : X E G (fun r : Int32 => (some (Value.int r), m)) 0 [(0, .ref (xad G 0)), (1, .int p0)] [] m (O_spotAt m p0) := by
  unfold O_spotAt
  refine x_iload_n (pc := 0) (i := 1) (a := 1) g dX11_spotAt_0 rfl rfl ?_
  refine x_if_lt (pc := 1) (t := 27) g dX11_spotAt_1 (by decide) ?_ ?_
  · refine x_iconst (pc := 27) g dX11_spotAt_27 ic_m1 ?_
    exact x_iret (pc := 28) g dX11_spotAt_28 rfl (fun _ h => h)
  · refine x_iload_n (pc := 4) (i := 1) (a := 1) g dX11_spotAt_4 rfl rfl ?_
    refine x_aload_n (pc := 5) (i := 0) (a := 0) g dX11_spotAt_5 rfl rfl ?_
    refine x_getR (pc := 6) (x := 165) g hW dX11_spotAt_6 fl_11_76 (sOwlsLent isOwlsLent_0) rfl ?_
    refine x_getI (pc := 9) g hW dX11_spotAt_9 fl_11_303 (sSpots isSpots_165) rfl ?_
    refine x_icmp_ge (pc := 12) (t := 27) g dX11_spotAt_12 (by decide) ?_ ?_
    · refine x_aload_n (pc := 15) (i := 0) (a := 0) g dX11_spotAt_15 rfl rfl ?_
      refine x_getR (pc := 16) (x := 165) g hW dX11_spotAt_16 fl_11_76 (sOwlsLent isOwlsLent_0) rfl ?_
      refine x_getR (pc := 19) (x := 166) g hW dX11_spotAt_19 fl_11_306 (sSpots isSpots_165) rfl ?_
      refine x_iload_n (pc := 22) (i := 1) (a := 1) g dX11_spotAt_22 rfl rfl ?_
      refine x_iald (pc := 23) g hW dX11_spotAt_23 (sSpots_cells isSpots_165) (fun j1 hj1 => ?_)
      refine x_goto (pc := 24) (t := 28) g dX11_spotAt_24 (by decide) ?_
      exact x_iret (pc := 28) g dX11_spotAt_28 rfl (fun _ h => h)
    · refine x_iconst (pc := 27) g dX11_spotAt_27 ic_m1 ?_
      exact x_iret (pc := 28) g dX11_spotAt_28 rfl (fun _ h => h)
theorem c_O_spotAt (l : Launch) (G : xG) (hW : WC G) (m : xMem) (p0 : Int32) : xCi l G yX11_spotAt cX11_spotAt 2 (some .int) rm_O_spotAt [.ref (xad G 0), .int p0] m (O_spotAt m p0) :=
  xCt_of (own := RX11) (by decide) rfl (Nat.le_of_ble_eq_true rfl) rfl ⟨rfl, rfl⟩ (fun E g => T_O_spotAt hW g m p0)
theorem T_O_next {l : Launch} {G : xG} {E : xE} (hW : WC G) (g : xGood E l G.1 RX11 cX11_next yX11_next 1 (some .int) rm_O_next) (m : xMem) : X E G (fun r : Int32 => (some (Value.int r), m)) 0 [(0, .ref (xad G 0))] [] m (O_next m) := by
  unfold O_next
  refine x_aload_n (pc := 0) (i := 0) (a := 0) g dX11_next_0 rfl rfl ?_
  refine x_getR (pc := 1) (x := 165) g hW dX11_next_1 fl_11_76 (sOwlsLent isOwlsLent_0) rfl ?_
  refine x_getI (pc := 4) g hW dX11_next_4 fl_11_309 (sSpots isSpots_165) rfl ?_
  exact x_iret (pc := 7) g dX11_next_7 rfl (fun _ h => h)
theorem c_O_next (l : Launch) (G : xG) (hW : WC G) (m : xMem) : xCi l G yX11_next cX11_next 1 (some .int) rm_O_next [.ref (xad G 0)] m (O_next m) :=
  xCt_of (own := RX11) (by decide) rfl (Nat.le_of_ble_eq_true rfl) rfl ⟨rfl, rfl⟩ (fun E g => T_O_next hW g m)
theorem T_O_keen_b43 {l : Launch} {G : xG} {E : xE} (hW : WC G) (g : xGood E l G.1 RX11 cX11_keen yX11_keen 7 (some .int) rm_O_keen) : ∀ (n : Nat) (v1 : Int32) (v2 : Int32) (v3 : Int32) (v4 : Int32) (m : xMem), X E G (fun r : Int32 × xMem => (some (Value.int r.1), r.2)) 43 [(0, .ref (xad G 0)), (1, .int v1), (2, .int v2), (3, .int v3), (4, .int v4)] [] m (O_keen_b43 n v1 v2 v3 v4 m) := by
  intro n
  induction n with
  | zero => intro v1 v2 v3 v4 m; exact x_none
  | succ n ih =>
    intro v1 v2 v3 v4 m
    rw [O_keen_b43]
    refine x_iload (pc := 43) (a := 4) g dX11_keen_43 rfl ?_
    refine x_iconst (pc := 45) g dX11_keen_45 ic_2 ?_
    refine x_iadd (pc := 46) g dX11_keen_46 ?_
    refine x_iload_n (pc := 47) (i := 1) (a := 1) g dX11_keen_47 rfl rfl ?_
    refine x_icmp_ge (pc := 48) (t := 126) g dX11_keen_48 (by decide) ?_ ?_
    · refine x_aload_n (pc := 51) (i := 0) (a := 0) g dX11_keen_51 rfl rfl ?_
      refine x_getR (pc := 52) (x := 1) g hW dX11_keen_52 fl_11_14 (sOwlsLent isOwlsLent_0) rfl ?_
      refine x_iload (pc := 55) (a := 4) g dX11_keen_55 rfl ?_
      refine x_Vi (pc := 57) g hW [.int v4] [] (c_Tape_at l G hW m 1 v4 isTape_1) dX11_keen_57 ml_11_312 (sTape isTape_1) rfl rfl (Nat.le_of_ble_eq_true rfl) ⟨rfl, rfl, Nat.le_of_ble_eq_true rfl, Nat.le_of_ble_eq_true rfl⟩ (fun r3 hr3 => ?_)
      refine x_aload_n (pc := 60) (i := 0) (a := 0) g dX11_keen_60 rfl rfl ?_
      refine x_getR (pc := 61) (x := 1) g hW dX11_keen_61 fl_11_14 (sOwlsLent isOwlsLent_0) rfl ?_
      refine x_iload (pc := 64) (a := 4) g dX11_keen_64 rfl ?_
      refine x_iconst (pc := 66) g dX11_keen_66 ic_1 ?_
      refine x_iadd (pc := 67) g dX11_keen_67 ?_
      refine x_Vi (pc := 68) g hW [.int (v4 + 1)] [.int r3] (c_Tape_at l G hW m 1 (v4 + 1) isTape_1) dX11_keen_68 ml_11_312 (sTape isTape_1) rfl rfl (Nat.le_of_ble_eq_true rfl) ⟨rfl, rfl, Nat.le_of_ble_eq_true rfl, Nat.le_of_ble_eq_true rfl⟩ (fun r4 hr4 => ?_)
      refine x_isub (pc := 71) g dX11_keen_71 ?_
      refine x_nmI (fun x5 => ?_)
      refine x_istore (pc := 72) (lv' := [(5, .int x5), (0, .ref (xad G 0)), (1, .int v1), (2, .int v2), (3, .int v3), (4, .int v4)]) g dX11_keen_72 (by decide) rfl ?_
      refine x_aload_n (pc := 74) (i := 0) (a := 1) g dX11_keen_74 rfl rfl ?_
      refine x_getR (pc := 75) (x := 1) g hW dX11_keen_75 fl_11_14 (sOwlsLent isOwlsLent_0) rfl ?_
      refine x_iload (pc := 78) (a := 5) g dX11_keen_78 rfl ?_
      refine x_iconst (pc := 80) g dX11_keen_80 ic_2 ?_
      refine x_iadd (pc := 81) g dX11_keen_81 ?_
      refine x_Vi (pc := 82) g hW [.int (v4 + 2)] [] (c_Tape_at l G hW m 1 (v4 + 2) isTape_1) dX11_keen_82 ml_11_312 (sTape isTape_1) rfl rfl (Nat.le_of_ble_eq_true rfl) ⟨rfl, rfl, Nat.le_of_ble_eq_true rfl, Nat.le_of_ble_eq_true rfl⟩ (fun r6 hr6 => ?_)
      refine x_istore (pc := 85) (lv' := [(6, .int r6), (5, .int x5), (0, .ref (xad G 0)), (1, .int v1), (2, .int v2), (3, .int v3), (4, .int v4)]) g dX11_keen_85 (by decide) rfl ?_
      refine x_iload (pc := 87) (a := 0) g dX11_keen_87 rfl ?_
      refine x_iconst (pc := 89) g dX11_keen_89 ic_1 ?_
      refine x_icmp_le (pc := 90) (t := 95) g dX11_keen_90 (by decide) ?_ ?_
      · refine x_iconst (pc := 93) g dX11_keen_93 ic_m1 ?_
        exact x_iret (pc := 94) g dX11_keen_94 rfl (fun _ h => h)
      · refine x_iload (pc := 95) (a := 0) g dX11_keen_95 rfl ?_
        refine x_iconst (pc := 97) g dX11_keen_97 ic_1 ?_
        refine x_icmp_ne (pc := 98) (t := 111) g dX11_keen_98 (by decide) ?_ ?_
        · refine x_iload_n (pc := 101) (i := 3) (a := 5) g dX11_keen_101 rfl rfl ?_
          refine x_iload (pc := 102) (a := 1) g dX11_keen_102 rfl ?_
          refine x_mmin (pc := 104) g dX11_keen_104 mk_11_263 mm_min ⟨by decide, Nat.le_of_ble_eq_true rfl⟩ ?_
          refine x_nmI (fun x7 => ?_)
          refine x_istore_n (pc := 107) (i := 3) (lv' := [(3, .int x7), (6, .int r6), (5, .int x5), (0, .ref (xad G 0)), (1, .int v1), (2, .int v2), (4, .int v4)]) g dX11_keen_107 rfl (by decide) rfl ?_
          refine x_goto (pc := 108) (t := 120) g dX11_keen_108 (by decide) ?_
          refine x_iinc (pc := 120) (a := 6) (lv' := [(4, .int (v4 + 3)), (3, .int x7), (6, .int r6), (5, .int x5), (0, .ref (xad G 0)), (1, .int v1), (2, .int v2)]) g dX11_keen_120 ic_3 rfl (by decide) rfl ?_
          refine x_goto (pc := 123) (t := 43) g dX11_keen_123 (by decide) ?_
          exact x_sub [4, 5, 6, 1, 0] (ih v1 v2 x7 (v4 + 3) m) rfl
        · refine x_iload_n (pc := 111) (i := 2) (a := 4) g dX11_keen_111 rfl rfl ?_
          refine x_iload (pc := 112) (a := 1) g dX11_keen_112 rfl ?_
          refine x_iconst (pc := 114) g dX11_keen_114 ic_1 ?_
          refine x_iadd (pc := 115) g dX11_keen_115 ?_
          refine x_mmax (pc := 116) g dX11_keen_116 mk_11_315 mm_max ⟨by decide, Nat.le_of_ble_eq_true rfl⟩ ?_
          refine x_nmI (fun x8 => ?_)
          refine x_istore_n (pc := 119) (i := 2) (lv' := [(2, .int x8), (6, .int r6), (5, .int x5), (0, .ref (xad G 0)), (1, .int v1), (3, .int v3), (4, .int v4)]) g dX11_keen_119 rfl (by decide) rfl ?_
          refine x_iinc (pc := 120) (a := 6) (lv' := [(4, .int (v4 + 3)), (2, .int x8), (6, .int r6), (5, .int x5), (0, .ref (xad G 0)), (1, .int v1), (3, .int v3)]) g dX11_keen_120 ic_3 rfl (by decide) rfl ?_
          refine x_goto (pc := 123) (t := 43) g dX11_keen_123 (by decide) ?_
          exact x_sub [4, 5, 1, 6, 0] (ih v1 x8 v3 (v4 + 3) m) rfl
    · refine x_iload_n (pc := 126) (i := 3) (a := 3) g dX11_keen_126 rfl rfl ?_
      refine x_iload_n (pc := 127) (i := 2) (a := 2) g dX11_keen_127 rfl rfl ?_
      refine x_icmp_ge (pc := 128) (t := 133) g dX11_keen_128 (by decide) ?_ ?_
      · refine x_iconst (pc := 131) g dX11_keen_131 ic_0 ?_
        exact x_iret (pc := 132) g dX11_keen_132 rfl (fun _ h => h)
      · refine x_aload_n (pc := 133) (i := 0) (a := 0) g dX11_keen_133 rfl rfl ?_
        refine x_iload_n (pc := 134) (i := 2) (a := 2) g dX11_keen_134 rfl rfl ?_
        refine x_putI (pc := 135) g hW dX11_keen_135 fl_11_101 ft_11_15 (sOwlsLent isOwlsLent_0) rfl (fun m9 => ?_)
        refine x_aload_n (pc := 138) (i := 0) (a := 0) g dX11_keen_138 rfl rfl ?_
        refine x_iload_n (pc := 139) (i := 3) (a := 3) g dX11_keen_139 rfl rfl ?_
        refine x_putI (pc := 140) g hW dX11_keen_140 fl_11_104 ft_11_16 (sOwlsLent isOwlsLent_0) rfl (fun m10 => ?_)
        refine x_iload_n (pc := 143) (i := 3) (a := 3) g dX11_keen_143 rfl rfl ?_
        refine x_iload_n (pc := 144) (i := 2) (a := 2) g dX11_keen_144 rfl rfl ?_
        refine x_isub (pc := 145) g dX11_keen_145 ?_
        refine x_iconst (pc := 146) g dX11_keen_146 ic_1 ?_
        refine x_iadd (pc := 147) g dX11_keen_147 ?_
        exact x_iret (pc := 148) g dX11_keen_148 rfl (fun _ h => h)
theorem T_O_keen {l : Launch} {G : xG} {E : xE} (hW : WC G) (g : xGood E l G.1 RX11 cX11_keen yX11_keen 7 (some .int) rm_O_keen) (m : xMem) : X E G (fun r : Int32 × xMem => (some (Value.int r.1), r.2)) 0 [(0, .ref (xad G 0))] [] m (O_keen m) := by
  unfold O_keen
  refine x_aload_n (pc := 0) (i := 0) (a := 0) g dX11_keen_0 rfl rfl ?_
  refine x_getR (pc := 1) (x := 1) g hW dX11_keen_1 fl_11_14 (sOwlsLent isOwlsLent_0) rfl ?_
  refine x_getI (pc := 4) g hW dX11_keen_4 fl_11_113 (sTape isTape_1) rfl ?_
  refine x_nmI (fun x1 => ?_)
  refine x_istore_n (pc := 7) (i := 1) (lv' := [(1, .int x1), (0, .ref (xad G 0))]) g dX11_keen_7 rfl (by decide) rfl ?_
  refine x_aload_n (pc := 8) (i := 0) (a := 1) g dX11_keen_8 rfl rfl ?_
  refine x_getR (pc := 9) (x := 1) g hW dX11_keen_9 fl_11_14 (sOwlsLent isOwlsLent_0) rfl ?_
  refine x_iconst (pc := 12) g dX11_keen_12 ic_0 ?_
  refine x_putI (pc := 13) g hW dX11_keen_13 fl_11_113 ft_8_1 (sTape isTape_1) rfl (fun m2 => ?_)
  refine x_iload_n (pc := 16) (i := 1) (a := 0) g dX11_keen_16 rfl rfl ?_
  refine x_iconst (pc := 17) g dX11_keen_17 ic_3 ?_
  refine x_icmp_lt (pc := 18) (t := 33) g dX11_keen_18 (by decide) ?_ ?_
  · refine x_iconst (pc := 33) g dX11_keen_33 ic_m1 ?_
    exact x_iret (pc := 34) g dX11_keen_34 rfl (fun _ h => h)
  · refine x_iload_n (pc := 21) (i := 1) (a := 0) g dX11_keen_21 rfl rfl ?_
    refine x_bipush (pc := 22) g dX11_keen_22 bi_18 ?_
    refine x_icmp_gt (pc := 24) (t := 33) g dX11_keen_24 (by decide) ?_ ?_
    · refine x_iconst (pc := 33) g dX11_keen_33 ic_m1 ?_
      exact x_iret (pc := 34) g dX11_keen_34 rfl (fun _ h => h)
    · refine x_iload_n (pc := 27) (i := 1) (a := 0) g dX11_keen_27 rfl rfl ?_
      refine x_iconst (pc := 28) g dX11_keen_28 ic_3 ?_
      refine x_irem (pc := 29) g dX11_keen_29 (by decide) ?_
      refine x_if_eq (pc := 30) (t := 35) g dX11_keen_30 (by decide) ?_ ?_
      · refine x_iconst (pc := 35) g dX11_keen_35 ic_1 ?_
        refine x_istore_n (pc := 36) (i := 2) (lv' := [(2, .int 1), (1, .int x1), (0, .ref (xad G 0))]) g dX11_keen_36 rfl (by decide) rfl ?_
        refine x_bipush (pc := 37) g dX11_keen_37 bi_20 ?_
        refine x_istore_n (pc := 39) (i := 3) (lv' := [(3, .int 20), (2, .int 1), (1, .int x1), (0, .ref (xad G 0))]) g dX11_keen_39 rfl (by decide) rfl ?_
        refine x_iconst (pc := 40) g dX11_keen_40 ic_0 ?_
        refine x_istore (pc := 41) (lv' := [(4, .int 0), (3, .int 20), (2, .int 1), (1, .int x1), (0, .ref (xad G 0))]) g dX11_keen_41 (by decide) rfl ?_
        exact x_sub [4, 3, 2, 1, 0] (T_O_keen_b43 hW g 1000 x1 1 20 0 m2) rfl
      · refine x_iconst (pc := 33) g dX11_keen_33 ic_m1 ?_
        exact x_iret (pc := 34) g dX11_keen_34 rfl (fun _ h => h)
theorem c_O_keen (l : Launch) (G : xG) (hW : WC G) (m : xMem) : xCim l G yX11_keen cX11_keen 7 (some .int) rm_O_keen [.ref (xad G 0)] m (O_keen m) :=
  xCt_of (own := RX11) (by decide) rfl (Nat.le_of_ble_eq_true rfl) rfl ⟨rfl, rfl⟩ (fun E g => T_O_keen hW g m)
theorem T_O_keenLeast {l : Launch} {G : xG} {E : xE} (hW : WC G) (g : xGood E l G.1 RX11 cX11_keenLeast yX11_keenLeast 1 (some .int) rm_O_keenLeast) (m : xMem) : X E G (fun r : Int32 => (some (Value.int r), m)) 0 [(0, .ref (xad G 0))] [] m (O_keenLeast m) := by
  unfold O_keenLeast
  refine x_aload_n (pc := 0) (i := 0) (a := 0) g dX11_keenLeast_0 rfl rfl ?_
  refine x_getI (pc := 1) g hW dX11_keenLeast_1 fl_11_101 (sOwlsLent isOwlsLent_0) rfl ?_
  exact x_iret (pc := 4) g dX11_keenLeast_4 rfl (fun _ h => h)
theorem c_O_keenLeast (l : Launch) (G : xG) (hW : WC G) (m : xMem) : xCi l G yX11_keenLeast cX11_keenLeast 1 (some .int) rm_O_keenLeast [.ref (xad G 0)] m (O_keenLeast m) :=
  xCt_of (own := RX11) (by decide) rfl (Nat.le_of_ble_eq_true rfl) rfl ⟨rfl, rfl⟩ (fun E g => T_O_keenLeast hW g m)
theorem T_O_keenMost {l : Launch} {G : xG} {E : xE} (hW : WC G) (g : xGood E l G.1 RX11 cX11_keenMost yX11_keenMost 1 (some .int) rm_O_keenMost) (m : xMem) : X E G (fun r : Int32 => (some (Value.int r), m)) 0 [(0, .ref (xad G 0))] [] m (O_keenMost m) := by
  unfold O_keenMost
  refine x_aload_n (pc := 0) (i := 0) (a := 0) g dX11_keenMost_0 rfl rfl ?_
  refine x_getI (pc := 1) g hW dX11_keenMost_1 fl_11_104 (sOwlsLent isOwlsLent_0) rfl ?_
  exact x_iret (pc := 4) g dX11_keenMost_4 rfl (fun _ h => h)
theorem c_O_keenMost (l : Launch) (G : xG) (hW : WC G) (m : xMem) : xCi l G yX11_keenMost cX11_keenMost 1 (some .int) rm_O_keenMost [.ref (xad G 0)] m (O_keenMost m) :=
  xCt_of (own := RX11) (by decide) rfl (Nat.le_of_ble_eq_true rfl) rfl ⟨rfl, rfl⟩ (fun E g => T_O_keenMost hW g m)
theorem T_O_best {l : Launch} {G : xG} {E : xE} (hW : WC G) (g : xGood E l G.1 RX11 cX11_best yX11_best 1 (some .int) rm_O_best) (m : xMem) : X E G (fun r : Int32 × xMem => (some (Value.int r.1), r.2)) 0 [(0, .ref (xad G 0))] [] m (O_best m) := by
  unfold O_best
  refine x_aload_n (pc := 0) (i := 0) (a := 0) g dX11_best_0 rfl rfl ?_
  refine x_getR (pc := 1) (x := 170) g hW dX11_best_1 fl_11_83 (sOwlsLent isOwlsLent_0) rfl ?_
  refine x_aload_n (pc := 4) (i := 0) (a := 0) g dX11_best_4 rfl rfl ?_
  refine x_getR (pc := 5) (x := 5) g hW dX11_best_5 fl_11_30 (sOwlsLent isOwlsLent_0) rfl ?_
  refine x_getR (pc := 8) (x := 6) g hW dX11_best_8 fl_11_144 (sImage isImage_5) rfl ?_
  refine x_aload_n (pc := 11) (i := 0) (a := 0) g dX11_best_11 rfl rfl ?_
  refine x_getR (pc := 12) (x := 5) g hW dX11_best_12 fl_11_30 (sOwlsLent isOwlsLent_0) rfl ?_
  refine x_getR (pc := 15) (x := 33) g hW dX11_best_15 fl_11_147 (sImage isImage_5) rfl ?_
  refine x_Vim (pc := 18) g hW [.ref (xad G 6), .ref (xad G 33)] [] (c_Best_find l G hW m 6 33 isHouse_6 isState_33) dX11_best_18 ml_11_318 (sBest isBest_170) rfl rfl (Nat.le_of_ble_eq_true rfl) ⟨rfl, rfl, Nat.le_of_ble_eq_true rfl, Nat.le_of_ble_eq_true rfl⟩ (fun r1 hr1 => ?_)
  exact x_iret (pc := 21) g dX11_best_21 rfl (fun _ h => h)
theorem c_O_best (l : Launch) (G : xG) (hW : WC G) (m : xMem) : xCim l G yX11_best cX11_best 1 (some .int) rm_O_best [.ref (xad G 0)] m (O_best m) :=
  xCt_of (own := RX11) (by decide) rfl (Nat.le_of_ble_eq_true rfl) rfl ⟨rfl, rfl⟩ (fun E g => T_O_best hW g m)
theorem T_O_bestAt {l : Launch} {G : xG} {E : xE} (hW : WC G) (g : xGood E l G.1 RX11 cX11_bestAt yX11_bestAt 2 (some .int) rm_O_bestAt) (m : xMem) (p0 : Int32) : X E G (fun r : Int32 => (some (Value.int r), m)) 0 [(0, .ref (xad G 0)), (1, .int p0)] [] m (O_bestAt m p0) := by
  unfold O_bestAt
  refine x_iload_n (pc := 0) (i := 1) (a := 1) g dX11_bestAt_0 rfl rfl ?_
  refine x_if_lt (pc := 1) (t := 27) g dX11_bestAt_1 (by decide) ?_ ?_
  · refine x_iconst (pc := 27) g dX11_bestAt_27 ic_m1 ?_
    exact x_iret (pc := 28) g dX11_bestAt_28 rfl (fun _ h => h)
  · refine x_iload_n (pc := 4) (i := 1) (a := 1) g dX11_bestAt_4 rfl rfl ?_
    refine x_aload_n (pc := 5) (i := 0) (a := 0) g dX11_bestAt_5 rfl rfl ?_
    refine x_getR (pc := 6) (x := 170) g hW dX11_bestAt_6 fl_11_83 (sOwlsLent isOwlsLent_0) rfl ?_
    refine x_getI (pc := 9) g hW dX11_bestAt_9 fl_11_321 (sBest isBest_170) rfl ?_
    refine x_icmp_ge (pc := 12) (t := 27) g dX11_bestAt_12 (by decide) ?_ ?_
    · refine x_aload_n (pc := 15) (i := 0) (a := 0) g dX11_bestAt_15 rfl rfl ?_
      refine x_getR (pc := 16) (x := 170) g hW dX11_bestAt_16 fl_11_83 (sOwlsLent isOwlsLent_0) rfl ?_
      refine x_getR (pc := 19) (x := 179) g hW dX11_bestAt_19 fl_11_322 (sBest isBest_170) rfl ?_
      refine x_iload_n (pc := 22) (i := 1) (a := 1) g dX11_bestAt_22 rfl rfl ?_
      refine x_iald (pc := 23) g hW dX11_bestAt_23 (sBest_found isBest_170) (fun j1 hj1 => ?_)
      refine x_goto (pc := 24) (t := 28) g dX11_bestAt_24 (by decide) ?_
      exact x_iret (pc := 28) g dX11_bestAt_28 rfl (fun _ h => h)
    · refine x_iconst (pc := 27) g dX11_bestAt_27 ic_m1 ?_
      exact x_iret (pc := 28) g dX11_bestAt_28 rfl (fun _ h => h)
theorem c_O_bestAt (l : Launch) (G : xG) (hW : WC G) (m : xMem) (p0 : Int32) : xCi l G yX11_bestAt cX11_bestAt 2 (some .int) rm_O_bestAt [.ref (xad G 0), .int p0] m (O_bestAt m p0) :=
  xCt_of (own := RX11) (by decide) rfl (Nat.le_of_ble_eq_true rfl) rfl ⟨rfl, rfl⟩ (fun E g => T_O_bestAt hW g m p0)
theorem T_O_soundOnSide_b25 {l : Launch} {G : xG} {E : xE} (hW : WC G) (g : xGood E l G.1 RX11 cX11_soundOnSide yX11_soundOnSide 6 (some .int) rm_O_soundOnSide) (m : xMem) (p0 : Int32) (p1 : Int32) : ∀ (n : Nat) (v4 : Int32) (v5 : Int32), X E G (fun r : Int32 => (some (Value.int r), m)) 25 [(1, .int p0), (2, .int p1), (3, .ref (xad G 6)), (4, .int v4), (5, .int v5)] [] m (O_soundOnSide_b25 m p0 p1 n v4 v5) := by
  intro n
  induction n with
  | zero => intro v4 v5; exact x_none
  | succ n ih =>
    intro v4 v5
    rw [O_soundOnSide_b25]
    refine x_iload (pc := 25) (a := 4) g dX11_soundOnSide_25 rfl ?_
    refine x_aload_n (pc := 27) (i := 3) (a := 2) g dX11_soundOnSide_27 rfl rfl ?_
    refine x_getI (pc := 28) g hW dX11_soundOnSide_28 fl_11_229 (sHouse isHouse_6) rfl ?_
    refine x_icmp_ge (pc := 31) (t := 61) g dX11_soundOnSide_31 (by decide) ?_ ?_
    · refine x_aload_n (pc := 34) (i := 3) (a := 2) g dX11_soundOnSide_34 rfl rfl ?_
      refine x_iload_n (pc := 35) (i := 1) (a := 0) g dX11_soundOnSide_35 rfl rfl ?_
      refine x_iload (pc := 36) (a := 3) g dX11_soundOnSide_36 rfl ?_
      refine x_aload_n (pc := 38) (i := 3) (a := 2) g dX11_soundOnSide_38 rfl rfl ?_
      refine x_getR (pc := 39) (x := 24) g hW dX11_soundOnSide_39 fl_11_197 (sHouse isHouse_6) rfl ?_
      refine x_iload (pc := 42) (a := 4) g dX11_soundOnSide_42 rfl ?_
      refine x_aald4 (pc := 44) (r := fun j => 25 + j) g hW dX11_soundOnSide_44 (sHouse_soundRow isHouse_6) (fun j h => rowsL_get h) (fun j3 hj3 => ?_)
      refine x_Vi (pc := 45) g hW [.int p0, .int v4, .ref (xad G (25 + j3))] [] (c_House_heardSide l G hW m 6 p0 v4 (25 + j3) isHouse_6 (sHouse_soundRowR isHouse_6 hj3) (by decide)) dX11_soundOnSide_45 ml_11_334 (sHouse isHouse_6) rfl rfl (Nat.le_of_ble_eq_true rfl) ⟨rfl, rfl, Nat.le_of_ble_eq_true rfl, Nat.le_of_ble_eq_true rfl⟩ (fun r4 hr4 => ?_)
      refine x_iload_n (pc := 48) (i := 2) (a := 1) g dX11_soundOnSide_48 rfl rfl ?_
      refine x_icmp_ne (pc := 49) (t := 55) g dX11_soundOnSide_49 (by decide) ?_ ?_
      · refine x_iload (pc := 52) (a := 4) g dX11_soundOnSide_52 rfl ?_
        exact x_iret (pc := 54) g dX11_soundOnSide_54 rfl (fun _ h => h)
      · refine x_iinc (pc := 55) (a := 4) (lv' := [(5, .int (v5 + 1)), (1, .int p0), (2, .int p1), (3, .ref (xad G 6)), (4, .int v4)]) g dX11_soundOnSide_55 ic_1 rfl (by decide) rfl ?_
        refine x_goto (pc := 58) (t := 25) g dX11_soundOnSide_58 (by decide) ?_
        exact x_sub [1, 2, 3, 4, 0] (ih v4 (v5 + 1)) rfl
    · refine x_iconst (pc := 61) g dX11_soundOnSide_61 ic_m1 ?_
      exact x_iret (pc := 62) g dX11_soundOnSide_62 rfl (fun _ h => h)
theorem T_O_soundOnSide {l : Launch} {G : xG} {E : xE} (hW : WC G) (g : xGood E l G.1 RX11 cX11_soundOnSide yX11_soundOnSide 6 (some .int) rm_O_soundOnSide) (m : xMem) (p0 : Int32) (p1 : Int32) : X E G (fun r : Int32 => (some (Value.int r), m)) 0 [(0, .ref (xad G 0)), (1, .int p0), (2, .int p1)] [] m (O_soundOnSide m p0 p1) := by
  unfold O_soundOnSide
  refine x_aload_n (pc := 0) (i := 0) (a := 0) g dX11_soundOnSide_0 rfl rfl ?_
  refine x_getR (pc := 1) (x := 5) g hW dX11_soundOnSide_1 fl_11_30 (sOwlsLent isOwlsLent_0) rfl ?_
  refine x_getR (pc := 4) (x := 6) g hW dX11_soundOnSide_4 fl_11_144 (sImage isImage_5) rfl ?_
  refine x_astore_n (pc := 7) (i := 3) (lv' := [(3, .ref (xad G 6)), (0, .ref (xad G 0)), (1, .int p0), (2, .int p1)]) g dX11_soundOnSide_7 rfl (by decide) rfl ?_
  refine x_aload_n (pc := 8) (i := 0) (a := 1) g dX11_soundOnSide_8 rfl rfl ?_
  refine x_getR (pc := 9) (x := 5) g hW dX11_soundOnSide_9 fl_11_30 (sOwlsLent isOwlsLent_0) rfl ?_
  refine x_getR (pc := 12) (x := 33) g hW dX11_soundOnSide_12 fl_11_147 (sImage isImage_5) rfl ?_
  refine x_getR (pc := 15) (x := 35) g hW dX11_soundOnSide_15 fl_11_180 (sState isState_33) rfl ?_
  refine x_iload_n (pc := 18) (i := 1) (a := 2) g dX11_soundOnSide_18 rfl rfl ?_
  refine x_iald (pc := 19) g hW dX11_soundOnSide_19 (sState_owlBed isState_33) (fun j1 hj1 => ?_)
  refine x_nmI (fun x2 => ?_)
  refine x_istore (pc := 20) (lv' := [(4, .int x2), (3, .ref (xad G 6)), (0, .ref (xad G 0)), (1, .int p0), (2, .int p1)]) g dX11_soundOnSide_20 (by decide) rfl ?_
  refine x_iconst (pc := 22) g dX11_soundOnSide_22 ic_0 ?_
  refine x_istore (pc := 23) (lv' := [(5, .int 0), (4, .int x2), (3, .ref (xad G 6)), (0, .ref (xad G 0)), (1, .int p0), (2, .int p1)]) g dX11_soundOnSide_23 (by decide) rfl ?_
  exact x_sub [4, 5, 2, 1, 0] (T_O_soundOnSide_b25 hW g m p0 p1 1000 x2 0) rfl
theorem c_O_soundOnSide (l : Launch) (G : xG) (hW : WC G) (m : xMem) (p0 : Int32) (p1 : Int32) : xCi l G yX11_soundOnSide cX11_soundOnSide 6 (some .int) rm_O_soundOnSide [.ref (xad G 0), .int p0, .int p1] m (O_soundOnSide m p0 p1) :=
  xCt_of (own := RX11) (by decide) rfl (Nat.le_of_ble_eq_true rfl) rfl ⟨rfl, rfl⟩ (fun E g => T_O_soundOnSide hW g m p0 p1)
theorem T_O_code_b75 {l : Launch} {G : xG} {E : xE} (hW : WC G) (g : xGood E l G.1 RX11 cX11_code yX11_code 4 (some .int) rm_O_code) (p0 : Int32) : ∀ (n : Nat) (v2 : Int32) (v3 : Int32) (m : xMem), X E G (fun r : Int32 × xMem => (some (Value.int r.1), r.2)) 75 [(0, .ref (xad G 0)), (1, .int p0), (2, .int v2), (3, .int v3)] [] m (O_code_b75 p0 n v2 v3 m) := by
  intro n
  induction n with
  | zero => intro v2 v3 m; exact x_none
  | succ n ih =>
    intro v2 v3 m
    rw [O_code_b75]
    refine x_iload_n (pc := 75) (i := 3) (a := 3) g dX11_code_75 rfl rfl ?_
    refine x_iload_n (pc := 76) (i := 2) (a := 2) g dX11_code_76 rfl rfl ?_
    refine x_icmp_ge (pc := 77) (t := 120) g dX11_code_77 (by decide) ?_ ?_
    · refine x_aload_n (pc := 80) (i := 0) (a := 0) g dX11_code_80 rfl rfl ?_
      refine x_getR (pc := 81) (x := 183) g hW dX11_code_81 fl_11_94 (sOwlsLent isOwlsLent_0) rfl ?_
      refine x_iload_n (pc := 84) (i := 3) (a := 3) g dX11_code_84 rfl rfl ?_
      refine x_aload_n (pc := 85) (i := 0) (a := 0) g dX11_code_85 rfl rfl ?_
      refine x_iload_n (pc := 86) (i := 1) (a := 1) g dX11_code_86 rfl rfl ?_
      refine x_aload_n (pc := 87) (i := 0) (a := 0) g dX11_code_87 rfl rfl ?_
      refine x_getR (pc := 88) (x := 1) g hW dX11_code_88 fl_11_14 (sOwlsLent isOwlsLent_0) rfl ?_
      refine x_iload_n (pc := 91) (i := 3) (a := 3) g dX11_code_91 rfl rfl ?_
      refine x_Vi (pc := 92) g hW [.int v3] [.int p0, .ref (xad G 0), .int v3, .ref (xad G 183)] (c_Tape_at l G hW m 1 v3 isTape_1) dX11_code_92 ml_11_312 (sTape isTape_1) rfl rfl (Nat.le_of_ble_eq_true rfl) ⟨rfl, rfl, Nat.le_of_ble_eq_true rfl, Nat.le_of_ble_eq_true rfl⟩ (fun r5 hr5 => ?_)
      refine x_Vi (pc := 95) g hW [.int p0, .int r5] [.int v3, .ref (xad G 183)] (c_O_soundOnSide l G hW m p0 r5) dX11_code_95 ml_11_325 (sOwlsLent isOwlsLent_0) rfl rfl (Nat.le_of_ble_eq_true rfl) ⟨rfl, rfl, Nat.le_of_ble_eq_true rfl, Nat.le_of_ble_eq_true rfl⟩ (fun r6 hr6 => ?_)
      refine x_iast (pc := 98) g hW dX11_code_98 (sOwlsLent_codesTried isOwlsLent_0) (fun j8 hj8 m7 => ?_)
      refine x_aload_n (pc := 99) (i := 0) (a := 0) g dX11_code_99 rfl rfl ?_
      refine x_getR (pc := 100) (x := 183) g hW dX11_code_100 fl_11_94 (sOwlsLent isOwlsLent_0) rfl ?_
      refine x_iload_n (pc := 103) (i := 3) (a := 3) g dX11_code_103 rfl rfl ?_
      refine x_iald (pc := 104) g hW dX11_code_104 (sOwlsLent_codesTried isOwlsLent_0) (fun j9 hj9 => ?_)
      refine x_iconst (pc := 105) g dX11_code_105 ic_m1 ?_
      refine x_icmp_ne (pc := 106) (t := 114) g dX11_code_106 (by decide) ?_ ?_
      · refine x_bipush (pc := 109) g dX11_code_109 bi_m2 ?_
        refine x_iload_n (pc := 111) (i := 3) (a := 3) g dX11_code_111 rfl rfl ?_
        refine x_isub (pc := 112) g dX11_code_112 ?_
        exact x_iret (pc := 113) g dX11_code_113 rfl (fun _ h => h)
      · refine x_iinc (pc := 114) (a := 3) (lv' := [(3, .int (v3 + 1)), (0, .ref (xad G 0)), (1, .int p0), (2, .int v2)]) g dX11_code_114 ic_1 rfl (by decide) rfl ?_
        refine x_goto (pc := 117) (t := 75) g dX11_code_117 (by decide) ?_
        exact x_sub [1, 2, 3, 0] (ih v2 (v3 + 1) m7) rfl
    · refine x_aload_n (pc := 120) (i := 0) (a := 0) g dX11_code_120 rfl rfl ?_
      refine x_getR (pc := 121) (x := 183) g hW dX11_code_121 fl_11_94 (sOwlsLent isOwlsLent_0) rfl ?_
      refine x_iconst (pc := 124) g dX11_code_124 ic_0 ?_
      refine x_aload_n (pc := 125) (i := 0) (a := 0) g dX11_code_125 rfl rfl ?_
      refine x_getR (pc := 126) (x := 182) g hW dX11_code_126 fl_11_90 (sOwlsLent isOwlsLent_0) rfl ?_
      refine x_iconst (pc := 129) g dX11_code_129 ic_0 ?_
      refine x_iload_n (pc := 130) (i := 2) (a := 2) g dX11_code_130 rfl rfl ?_
      refine x_copyI (pc := 131) g hW dX11_code_131 mk_11_328 mm_arraycopy (sOwlsLent_codesTried isOwlsLent_0) (sOwlsLent_codes isOwlsLent_0) ⟨by decide, Nat.le_of_ble_eq_true rfl⟩ (fun j11 hj11 m10 => ?_)
      refine x_aload_n (pc := 134) (i := 0) (a := 0) g dX11_code_134 rfl rfl ?_
      refine x_iload_n (pc := 135) (i := 2) (a := 2) g dX11_code_135 rfl rfl ?_
      refine x_putI (pc := 136) g hW dX11_code_136 fl_11_97 ft_11_14 (sOwlsLent isOwlsLent_0) rfl (fun m12 => ?_)
      refine x_iload_n (pc := 139) (i := 2) (a := 2) g dX11_code_139 rfl rfl ?_
      exact x_iret (pc := 140) g dX11_code_140 rfl (fun _ h => h)
theorem T_O_code_b48 {l : Launch} {G : xG} {E : xE} (hW : WC G) (g : xGood E l G.1 RX11 cX11_code yX11_code 4 (some .int) rm_O_code) (p0 : Int32) : ∀ (n : Nat) (v2 : Int32) (v3 : Int32) (m : xMem), X E G (fun r : Int32 × xMem => (some (Value.int r.1), r.2)) 48 [(0, .ref (xad G 0)), (1, .int p0), (2, .int v2), (3, .int v3)] [] m (O_code_b48 p0 n v2 v3 m) := by
  intro n
  induction n with
  | zero => intro v2 v3 m; exact x_none
  | succ n ih =>
    intro v2 v3 m
    rw [O_code_b48]
    refine x_iload_n (pc := 48) (i := 3) (a := 3) g dX11_code_48 rfl rfl ?_
    refine x_iload_n (pc := 49) (i := 2) (a := 2) g dX11_code_49 rfl rfl ?_
    refine x_icmp_ge (pc := 50) (t := 73) g dX11_code_50 (by decide) ?_ ?_
    · refine x_aload_n (pc := 53) (i := 0) (a := 0) g dX11_code_53 rfl rfl ?_
      refine x_getR (pc := 54) (x := 1) g hW dX11_code_54 fl_11_14 (sOwlsLent isOwlsLent_0) rfl ?_
      refine x_iload_n (pc := 57) (i := 3) (a := 3) g dX11_code_57 rfl rfl ?_
      refine x_Vi (pc := 58) g hW [.int v3] [] (c_Tape_at l G hW m 1 v3 isTape_1) dX11_code_58 ml_11_312 (sTape isTape_1) rfl rfl (Nat.le_of_ble_eq_true rfl) ⟨rfl, rfl, Nat.le_of_ble_eq_true rfl, Nat.le_of_ble_eq_true rfl⟩ (fun r4 hr4 => ?_)
      refine x_iconst (pc := 61) g dX11_code_61 ic_4 ?_
      refine x_icmp_le (pc := 62) (t := 67) g dX11_code_62 (by decide) ?_ ?_
      · refine x_iconst (pc := 65) g dX11_code_65 ic_m1 ?_
        exact x_iret (pc := 66) g dX11_code_66 rfl (fun _ h => h)
      · refine x_iinc (pc := 67) (a := 3) (lv' := [(3, .int (v3 + 1)), (0, .ref (xad G 0)), (1, .int p0), (2, .int v2)]) g dX11_code_67 ic_1 rfl (by decide) rfl ?_
        refine x_goto (pc := 70) (t := 48) g dX11_code_70 (by decide) ?_
        exact x_sub [1, 2, 3, 0] (ih v2 (v3 + 1) m) rfl
    · refine x_iconst (pc := 73) g dX11_code_73 ic_0 ?_
      refine x_istore_n (pc := 74) (i := 3) (lv' := [(3, .int 0), (0, .ref (xad G 0)), (1, .int p0), (2, .int v2)]) g dX11_code_74 rfl (by decide) rfl ?_
      exact x_sub [1, 2, 3, 0] (T_O_code_b75 hW g p0 1000 v2 0 m) rfl
theorem T_O_code {l : Launch} {G : xG} {E : xE} (hW : WC G) (g : xGood E l G.1 RX11 cX11_code yX11_code 4 (some .int) rm_O_code) (m : xMem) (p0 : Int32) : X E G (fun r : Int32 × xMem => (some (Value.int r.1), r.2)) 0 [(0, .ref (xad G 0)), (1, .int p0)] [] m (O_code m p0) := by
  unfold O_code
  refine x_aload_n (pc := 0) (i := 0) (a := 0) g dX11_code_0 rfl rfl ?_
  refine x_getR (pc := 1) (x := 1) g hW dX11_code_1 fl_11_14 (sOwlsLent isOwlsLent_0) rfl ?_
  refine x_getI (pc := 4) g hW dX11_code_4 fl_11_113 (sTape isTape_1) rfl ?_
  refine x_nmI (fun x1 => ?_)
  refine x_istore_n (pc := 7) (i := 2) (lv' := [(2, .int x1), (0, .ref (xad G 0)), (1, .int p0)]) g dX11_code_7 rfl (by decide) rfl ?_
  refine x_aload_n (pc := 8) (i := 0) (a := 1) g dX11_code_8 rfl rfl ?_
  refine x_getR (pc := 9) (x := 1) g hW dX11_code_9 fl_11_14 (sOwlsLent isOwlsLent_0) rfl ?_
  refine x_iconst (pc := 12) g dX11_code_12 ic_0 ?_
  refine x_putI (pc := 13) g hW dX11_code_13 fl_11_113 ft_8_1 (sTape isTape_1) rfl (fun m2 => ?_)
  refine x_aload_n (pc := 16) (i := 0) (a := 1) g dX11_code_16 rfl rfl ?_
  refine x_getR (pc := 17) (x := 5) g hW dX11_code_17 fl_11_30 (sOwlsLent isOwlsLent_0) rfl ?_
  refine x_getR (pc := 20) (x := 6) g hW dX11_code_20 fl_11_144 (sImage isImage_5) rfl ?_
  refine x_iload_n (pc := 23) (i := 1) (a := 2) g dX11_code_23 rfl rfl ?_
  refine x_Vi (pc := 24) g hW [.int p0] [] (c_House_hasOwl l G hW m2 6 p0 isHouse_6) dX11_code_24 ml_11_175 (sHouse isHouse_6) rfl rfl (Nat.le_of_ble_eq_true rfl) ⟨rfl, rfl, Nat.le_of_ble_eq_true rfl, Nat.le_of_ble_eq_true rfl⟩ (fun r3 hr3 => ?_)
  refine x_if_eq (pc := 27) (t := 44) g dX11_code_27 (by decide) ?_ ?_
  · refine x_iconst (pc := 44) g dX11_code_44 ic_m1 ?_
    exact x_iret (pc := 45) g dX11_code_45 rfl (fun _ h => h)
  · refine x_iload_n (pc := 30) (i := 2) (a := 0) g dX11_code_30 rfl rfl ?_
    refine x_iconst (pc := 31) g dX11_code_31 ic_1 ?_
    refine x_icmp_lt (pc := 32) (t := 44) g dX11_code_32 (by decide) ?_ ?_
    · refine x_iconst (pc := 44) g dX11_code_44 ic_m1 ?_
      exact x_iret (pc := 45) g dX11_code_45 rfl (fun _ h => h)
    · refine x_iload_n (pc := 35) (i := 2) (a := 0) g dX11_code_35 rfl rfl ?_
      refine x_aload_n (pc := 36) (i := 0) (a := 1) g dX11_code_36 rfl rfl ?_
      refine x_getR (pc := 37) (x := 183) g hW dX11_code_37 fl_11_94 (sOwlsLent isOwlsLent_0) rfl ?_
      refine x_alen (pc := 40) g hW dX11_code_40 (sOwlsLent_codesTried isOwlsLent_0) (by decide) al_8 ?_
      refine x_icmp_le (pc := 41) (t := 46) g dX11_code_41 (by decide) ?_ ?_
      · refine x_iconst (pc := 44) g dX11_code_44 ic_m1 ?_
        exact x_iret (pc := 45) g dX11_code_45 rfl (fun _ h => h)
      · refine x_iconst (pc := 46) g dX11_code_46 ic_0 ?_
        refine x_istore_n (pc := 47) (i := 3) (lv' := [(3, .int 0), (2, .int x1), (0, .ref (xad G 0)), (1, .int p0)]) g dX11_code_47 rfl (by decide) rfl ?_
        exact x_sub [2, 3, 1, 0] (T_O_code_b48 hW g p0 1000 x1 0 m2) rfl
theorem c_O_code (l : Launch) (G : xG) (hW : WC G) (m : xMem) (p0 : Int32) : xCim l G yX11_code cX11_code 4 (some .int) rm_O_code [.ref (xad G 0), .int p0] m (O_code m p0) :=
  xCt_of (own := RX11) (by decide) rfl (Nat.le_of_ble_eq_true rfl) rfl ⟨rfl, rfl⟩ (fun E g => T_O_code hW g m p0)
theorem T_O_codeAt {l : Launch} {G : xG} {E : xE} (hW : WC G) (g : xGood E l G.1 RX11 cX11_codeAt yX11_codeAt 2 (some .int) rm_O_codeAt) (m : xMem) (p0 : Int32) : X E G (fun r : Int32 => (some (Value.int r), m)) 0 [(0, .ref (xad G 0)), (1, .int p0)] [] m (O_codeAt m p0) := by
  unfold O_codeAt
  refine x_iload_n (pc := 0) (i := 1) (a := 1) g dX11_codeAt_0 rfl rfl ?_
  refine x_if_lt (pc := 1) (t := 21) g dX11_codeAt_1 (by decide) ?_ ?_
  · refine x_iconst (pc := 21) g dX11_codeAt_21 ic_m1 ?_
    exact x_iret (pc := 22) g dX11_codeAt_22 rfl (fun _ h => h)
  · refine x_iload_n (pc := 4) (i := 1) (a := 1) g dX11_codeAt_4 rfl rfl ?_
    refine x_aload_n (pc := 5) (i := 0) (a := 0) g dX11_codeAt_5 rfl rfl ?_
    refine x_getI (pc := 6) g hW dX11_codeAt_6 fl_11_97 (sOwlsLent isOwlsLent_0) rfl ?_
    refine x_icmp_ge (pc := 9) (t := 21) g dX11_codeAt_9 (by decide) ?_ ?_
    · refine x_aload_n (pc := 12) (i := 0) (a := 0) g dX11_codeAt_12 rfl rfl ?_
      refine x_getR (pc := 13) (x := 182) g hW dX11_codeAt_13 fl_11_90 (sOwlsLent isOwlsLent_0) rfl ?_
      refine x_iload_n (pc := 16) (i := 1) (a := 1) g dX11_codeAt_16 rfl rfl ?_
      refine x_iald (pc := 17) g hW dX11_codeAt_17 (sOwlsLent_codes isOwlsLent_0) (fun j1 hj1 => ?_)
      refine x_goto (pc := 18) (t := 22) g dX11_codeAt_18 (by decide) ?_
      exact x_iret (pc := 22) g dX11_codeAt_22 rfl (fun _ h => h)
    · refine x_iconst (pc := 21) g dX11_codeAt_21 ic_m1 ?_
      exact x_iret (pc := 22) g dX11_codeAt_22 rfl (fun _ h => h)
theorem c_O_codeAt (l : Launch) (G : xG) (hW : WC G) (m : xMem) (p0 : Int32) : xCi l G yX11_codeAt cX11_codeAt 2 (some .int) rm_O_codeAt [.ref (xad G 0), .int p0] m (O_codeAt m p0) :=
  xCt_of (own := RX11) (by decide) rfl (Nat.le_of_ble_eq_true rfl) rfl ⟨rfl, rfl⟩ (fun E g => T_O_codeAt hW g m p0)
theorem T_O_endsOn_b144 {l : Launch} {G : xG} {E : xE} {d : Nat} (hW : WC G) (g : xGood E l G.1 RX11 cX11_endsOn yX11_endsOn 10 (some .boolean) (rmx_O_endsOn (d + 1))) (fr : xMem → Nat → Int32 → Int32 → Int32 → Int32 → Int32 → Int32 → Option (Int32)) (hq : ∀ (m : xMem) (p0 : Nat) (p1 : Int32) (p2 : Int32) (p3 : Int32) (p4 : Int32) (p5 : Int32) (p6 : Int32) (hp0 : isImage p0), xCi l G yX11_endsOn cX11_endsOn 10 (some .boolean) (rmx_O_endsOn d) [.ref (xad G p0), .int p1, .int p2, .int p3, .int p4, .int p5, .int p6] m (fr m p0 p1 p2 p3 p4 p5 p6)) (m : xMem) (p0 : Nat) (p1 : Int32) (p2 : Int32) (p3 : Int32) (p4 : Int32) (p5 : Int32) (p6 : Int32) (hp0 : isImage p0) (k89 : Int32 → Option (Int32)) (hk89 : ∀ (v8 : Int32), X E G (fun r : Int32 => (some (Value.int r), m)) 89 [(0, .ref (xad G p0)), (1, .int p1), (2, .int p2), (3, .int p3), (4, .int p4), (5, .int p5), (6, .int p6), (7, .ref (xad G (p0 + 1))), (8, .int v8)] [] m (k89 v8)) (v8 : Int32) (s0 : Int32) (s1 : Int32) (s2 : Int32) : X E G (fun r : Int32 => (some (Value.int r), m)) 144 [(0, .ref (xad G p0)), (1, .int p1), (2, .int p2), (3, .int p3), (4, .int p4), (5, .int p5), (6, .int p6), (7, .ref (xad G (p0 + 1))), (8, .int v8)] [.int s0, .int s1, .int s2, .int (p3 - 1), .int p2, .int p1, .ref (xad G p0)] m (O_endsOn_b144 fr m p0 p1 p2 p3 p4 p5 p6 k89 v8 s0 s1 s2) := by
  unfold O_endsOn_b144
  refine x_Si (pc := 144) g [.ref (xad G p0), .int p1, .int p2, .int (p3 - 1), .int s2, .int s1, .int s0] [] (hq m p0 p1 p2 (p3 - 1) s2 s1 s0 hp0) dX11_endsOn_144 ms_11_338 rfl rfl (Nat.le_of_ble_eq_true rfl) ⟨rfl, rfl, by simp only [rmx_O_endsOn, rmx_O_endsOn]; omega, by simp only [rmx_O_endsOn, rmx_O_endsOn]; omega⟩ (fun r7 hr7 => ?_)
  refine x_iload (pc := 147) (a := 6) g dX11_endsOn_147 rfl ?_
  refine x_icmp_ne (pc := 149) (t := 155) g dX11_endsOn_149 (by decide) ?_ ?_
  · refine x_iload (pc := 152) (a := 6) g dX11_endsOn_152 rfl ?_
    exact x_zret (pc := 154) g dX11_endsOn_154 rfl (fun _ _ h => h)
  · refine x_iinc (pc := 155) (a := 8) (lv' := [(8, .int (v8 + 1)), (0, .ref (xad G p0)), (1, .int p1), (2, .int p2), (3, .int p3), (4, .int p4), (5, .int p5), (6, .int p6), (7, .ref (xad G (p0 + 1)))]) g dX11_endsOn_155 ic_1 rfl (by decide) rfl ?_
    refine x_goto (pc := 158) (t := 89) g dX11_endsOn_158 (by decide) ?_
    exact x_sub [1, 2, 3, 4, 5, 6, 7, 8, 0] (hk89 (v8 + 1)) rfl
theorem T_O_endsOn_b89 {l : Launch} {G : xG} {E : xE} {d : Nat} (hW : WC G) (g : xGood E l G.1 RX11 cX11_endsOn yX11_endsOn 10 (some .boolean) (rmx_O_endsOn (d + 1))) (fr : xMem → Nat → Int32 → Int32 → Int32 → Int32 → Int32 → Int32 → Option (Int32)) (hq : ∀ (m : xMem) (p0 : Nat) (p1 : Int32) (p2 : Int32) (p3 : Int32) (p4 : Int32) (p5 : Int32) (p6 : Int32) (hp0 : isImage p0), xCi l G yX11_endsOn cX11_endsOn 10 (some .boolean) (rmx_O_endsOn d) [.ref (xad G p0), .int p1, .int p2, .int p3, .int p4, .int p5, .int p6] m (fr m p0 p1 p2 p3 p4 p5 p6)) (m : xMem) (p0 : Nat) (p1 : Int32) (p2 : Int32) (p3 : Int32) (p4 : Int32) (p5 : Int32) (p6 : Int32) (hp0 : isImage p0) : ∀ (n : Nat) (v8 : Int32), X E G (fun r : Int32 => (some (Value.int r), m)) 89 [(0, .ref (xad G p0)), (1, .int p1), (2, .int p2), (3, .int p3), (4, .int p4), (5, .int p5), (6, .int p6), (7, .ref (xad G (p0 + 1))), (8, .int v8)] [] m (O_endsOn_b89 fr m p0 p1 p2 p3 p4 p5 p6 n v8) := by
  intro n
  induction n with
  | zero => intro v8; exact x_none
  | succ n ih =>
    intro v8
    rw [O_endsOn_b89]
    refine x_iload (pc := 89) (a := 8) g dX11_endsOn_89 rfl ?_
    refine x_aload (pc := 91) (a := 7) g dX11_endsOn_91 rfl ?_
    refine x_getI (pc := 93) g hW dX11_endsOn_93 fl_11_229 (sHouse (sImage_homeI hp0)) rfl ?_
    refine x_icmp_ge (pc := 96) (t := 161) g dX11_endsOn_96 (by decide) ?_ ?_
    · refine x_iconst (pc := 99) g dX11_endsOn_99 ic_1 ?_
      refine x_iload (pc := 100) (a := 8) g dX11_endsOn_100 rfl ?_
      refine x_ishl (pc := 102) g dX11_endsOn_102 ?_
      refine x_iconst (pc := 103) g dX11_endsOn_103 ic_m1 ?_
      refine x_ixor (pc := 104) g dX11_endsOn_104 ?_
      refine x_nmI (fun x6 => ?_)
      refine x_istore (pc := 105) (lv' := [(9, .int x6), (0, .ref (xad G p0)), (1, .int p1), (2, .int p2), (3, .int p3), (4, .int p4), (5, .int p5), (6, .int p6), (7, .ref (xad G (p0 + 1))), (8, .int v8)]) g dX11_endsOn_105 (by decide) rfl ?_
      refine x_iload (pc := 107) (a := 6) g dX11_endsOn_107 rfl ?_
      refine x_iload (pc := 109) (a := 9) g dX11_endsOn_109 rfl ?_
      refine x_ishr (pc := 111) g dX11_endsOn_111 ?_
      refine x_iconst (pc := 112) g dX11_endsOn_112 ic_1 ?_
      refine x_iand (pc := 113) g dX11_endsOn_113 ?_
      refine x_iconst (pc := 114) g dX11_endsOn_114 ic_1 ?_
      refine x_icmp_ne (pc := 115) (t := 155) g dX11_endsOn_115 (by decide) ?_ ?_
      · refine x_aload_n (pc := 118) (i := 0) (a := 1) g dX11_endsOn_118 rfl rfl ?_
        refine x_iload_n (pc := 119) (i := 1) (a := 2) g dX11_endsOn_119 rfl rfl ?_
        refine x_iload_n (pc := 120) (i := 2) (a := 3) g dX11_endsOn_120 rfl rfl ?_
        refine x_iload_n (pc := 121) (i := 3) (a := 4) g dX11_endsOn_121 rfl rfl ?_
        refine x_iconst (pc := 122) g dX11_endsOn_122 ic_1 ?_
        refine x_isub (pc := 123) g dX11_endsOn_123 ?_
        refine x_iload (pc := 124) (a := 5) g dX11_endsOn_124 rfl ?_
        refine x_iload (pc := 126) (a := 0) g dX11_endsOn_126 rfl ?_
        refine x_iand (pc := 128) g dX11_endsOn_128 ?_
        refine x_iload (pc := 129) (a := 6) g dX11_endsOn_129 rfl ?_
        refine x_iload (pc := 131) (a := 0) g dX11_endsOn_131 rfl ?_
        refine x_iand (pc := 133) g dX11_endsOn_133 ?_
        refine x_iload (pc := 134) (a := 7) g dX11_endsOn_134 rfl ?_
        refine x_if_ne (pc := 136) (t := 143) g dX11_endsOn_136 (by decide) ?_ ?_
        · refine x_iconst (pc := 139) g dX11_endsOn_139 ic_1 ?_
          refine x_goto (pc := 140) (t := 144) g dX11_endsOn_140 (by decide) ?_
          exact x_sub [1, 2, 3, 4, 5, 6, 7, 8, 9] (T_O_endsOn_b144 hW g fr hq m p0 p1 p2 p3 p4 p5 p6 hp0 (O_endsOn_b89 fr m p0 p1 p2 p3 p4 p5 p6 n) ih v8 1 (p5 &&& x6) (p4 &&& x6)) rfl
        · refine x_iconst (pc := 143) g dX11_endsOn_143 ic_0 ?_
          exact x_sub [1, 2, 3, 4, 5, 6, 7, 8, 9] (T_O_endsOn_b144 hW g fr hq m p0 p1 p2 p3 p4 p5 p6 hp0 (O_endsOn_b89 fr m p0 p1 p2 p3 p4 p5 p6 n) ih v8 0 (p5 &&& x6) (p4 &&& x6)) rfl
      · refine x_iinc (pc := 155) (a := 9) (lv' := [(8, .int (v8 + 1)), (9, .int x6), (0, .ref (xad G p0)), (1, .int p1), (2, .int p2), (3, .int p3), (4, .int p4), (5, .int p5), (6, .int p6), (7, .ref (xad G (p0 + 1)))]) g dX11_endsOn_155 ic_1 rfl (by decide) rfl ?_
        refine x_goto (pc := 158) (t := 89) g dX11_endsOn_158 (by decide) ?_
        exact x_sub [2, 3, 4, 5, 6, 7, 8, 9, 0] (ih (v8 + 1)) rfl
    · refine x_iload (pc := 161) (a := 6) g dX11_endsOn_161 rfl ?_
      refine x_if_ne (pc := 163) (t := 170) g dX11_endsOn_163 (by decide) ?_ ?_
      · refine x_iconst (pc := 166) g dX11_endsOn_166 ic_1 ?_
        refine x_goto (pc := 167) (t := 171) g dX11_endsOn_167 (by decide) ?_
        exact x_zretc (pc := 171) g dX11_endsOn_171 rfl (Or.inr rfl) (fun _ h => h)
      · refine x_iconst (pc := 170) g dX11_endsOn_170 ic_0 ?_
        exact x_zretc (pc := 171) g dX11_endsOn_171 rfl (Or.inl rfl) (fun _ h => h)
theorem T_O_endsOn_b75 {l : Launch} {G : xG} {E : xE} {d : Nat} (hW : WC G) (g : xGood E l G.1 RX11 cX11_endsOn yX11_endsOn 10 (some .boolean) (rmx_O_endsOn (d + 1))) (fr : xMem → Nat → Int32 → Int32 → Int32 → Int32 → Int32 → Int32 → Option (Int32)) (hq : ∀ (m : xMem) (p0 : Nat) (p1 : Int32) (p2 : Int32) (p3 : Int32) (p4 : Int32) (p5 : Int32) (p6 : Int32) (hp0 : isImage p0), xCi l G yX11_endsOn cX11_endsOn 10 (some .boolean) (rmx_O_endsOn d) [.ref (xad G p0), .int p1, .int p2, .int p3, .int p4, .int p5, .int p6] m (fr m p0 p1 p2 p3 p4 p5 p6)) (m : xMem) (p0 : Nat) (p1 : Int32) (p2 : Int32) (p3 : Int32) (p4 : Int32) (p5 : Int32) (p6 : Int32) (hp0 : isImage p0) (s0 : Int32) : X E G (fun r : Int32 => (some (Value.int r), m)) 75 [(0, .ref (xad G p0)), (1, .int p1), (2, .int p2), (3, .int p3), (4, .int p4), (5, .int p5), (6, .int p6), (7, .ref (xad G (p0 + 1)))] [.int s0, .int p5, .int p4, .int (p3 - 1), .int p2, .int p1, .ref (xad G p0)] m (O_endsOn_b75 fr m p0 p1 p2 p3 p4 p5 p6 s0) := by
  unfold O_endsOn_b75
  refine x_Si (pc := 75) g [.ref (xad G p0), .int p1, .int p2, .int (p3 - 1), .int p4, .int p5, .int s0] [] (hq m p0 p1 p2 (p3 - 1) p4 p5 s0 hp0) dX11_endsOn_75 ms_11_338 rfl rfl (Nat.le_of_ble_eq_true rfl) ⟨rfl, rfl, by simp only [rmx_O_endsOn, rmx_O_endsOn]; omega, by simp only [rmx_O_endsOn, rmx_O_endsOn]; omega⟩ (fun r5 hr5 => ?_)
  refine x_iload (pc := 78) (a := 6) g dX11_endsOn_78 rfl ?_
  refine x_icmp_ne (pc := 80) (t := 86) g dX11_endsOn_80 (by decide) ?_ ?_
  · refine x_iload (pc := 83) (a := 6) g dX11_endsOn_83 rfl ?_
    exact x_zret (pc := 85) g dX11_endsOn_85 rfl (fun _ _ h => h)
  · refine x_iconst (pc := 86) g dX11_endsOn_86 ic_0 ?_
    refine x_istore (pc := 87) (lv' := [(8, .int 0), (0, .ref (xad G p0)), (1, .int p1), (2, .int p2), (3, .int p3), (4, .int p4), (5, .int p5), (6, .int p6), (7, .ref (xad G (p0 + 1)))]) g dX11_endsOn_87 (by decide) rfl ?_
    exact x_sub [1, 2, 3, 4, 5, 6, 7, 8, 0] (T_O_endsOn_b89 hW g fr hq m p0 p1 p2 p3 p4 p5 p6 hp0 1000 0) rfl
theorem T_O_endsOn_body {l : Launch} {G : xG} {E : xE} {d : Nat} (hW : WC G) (g : xGood E l G.1 RX11 cX11_endsOn yX11_endsOn 10 (some .boolean) (rmx_O_endsOn (d + 1))) (fr : xMem → Nat → Int32 → Int32 → Int32 → Int32 → Int32 → Int32 → Option (Int32)) (hq : ∀ (m : xMem) (p0 : Nat) (p1 : Int32) (p2 : Int32) (p3 : Int32) (p4 : Int32) (p5 : Int32) (p6 : Int32) (hp0 : isImage p0), xCi l G yX11_endsOn cX11_endsOn 10 (some .boolean) (rmx_O_endsOn d) [.ref (xad G p0), .int p1, .int p2, .int p3, .int p4, .int p5, .int p6] m (fr m p0 p1 p2 p3 p4 p5 p6)) (m : xMem) (p0 : Nat) (p1 : Int32) (p2 : Int32) (p3 : Int32) (p4 : Int32) (p5 : Int32) (p6 : Int32) (hp0 : isImage p0) : X E G (fun r : Int32 => (some (Value.int r), m)) 0 [(0, .ref (xad G p0)), (1, .int p1), (2, .int p2), (3, .int p3), (4, .int p4), (5, .int p5), (6, .int p6)] [] m (O_endsOn_body fr m p0 p1 p2 p3 p4 p5 p6) := by
  unfold O_endsOn_body
  refine x_aload_n (pc := 0) (i := 0) (a := 0) g dX11_endsOn_0 rfl rfl ?_
  refine x_getR (pc := 1) (x := p0 + 1) g hW dX11_endsOn_1 fl_11_144 (sImage hp0) rfl ?_
  refine x_astore (pc := 4) (lv' := [(7, .ref (xad G (p0 + 1))), (0, .ref (xad G p0)), (1, .int p1), (2, .int p2), (3, .int p3), (4, .int p4), (5, .int p5), (6, .int p6)]) g dX11_endsOn_4 (by decide) rfl ?_
  refine x_iload_n (pc := 6) (i := 3) (a := 4) g dX11_endsOn_6 rfl rfl ?_
  refine x_if_gt (pc := 7) (t := 55) g dX11_endsOn_7 (by decide) ?_ ?_
  · refine x_aload_n (pc := 55) (i := 0) (a := 1) g dX11_endsOn_55 rfl rfl ?_
    refine x_iload_n (pc := 56) (i := 1) (a := 2) g dX11_endsOn_56 rfl rfl ?_
    refine x_iload_n (pc := 57) (i := 2) (a := 3) g dX11_endsOn_57 rfl rfl ?_
    refine x_iload_n (pc := 58) (i := 3) (a := 4) g dX11_endsOn_58 rfl rfl ?_
    refine x_iconst (pc := 59) g dX11_endsOn_59 ic_1 ?_
    refine x_isub (pc := 60) g dX11_endsOn_60 ?_
    refine x_iload (pc := 61) (a := 5) g dX11_endsOn_61 rfl ?_
    refine x_iload (pc := 63) (a := 6) g dX11_endsOn_63 rfl ?_
    refine x_iload (pc := 65) (a := 7) g dX11_endsOn_65 rfl ?_
    refine x_if_ne (pc := 67) (t := 74) g dX11_endsOn_67 (by decide) ?_ ?_
    · refine x_iconst (pc := 70) g dX11_endsOn_70 ic_1 ?_
      refine x_goto (pc := 71) (t := 75) g dX11_endsOn_71 (by decide) ?_
      exact x_sub [1, 2, 3, 4, 5, 6, 7, 0] (T_O_endsOn_b75 hW g fr hq m p0 p1 p2 p3 p4 p5 p6 hp0 1) rfl
    · refine x_iconst (pc := 74) g dX11_endsOn_74 ic_0 ?_
      exact x_sub [1, 2, 3, 4, 5, 6, 7, 0] (T_O_endsOn_b75 hW g fr hq m p0 p1 p2 p3 p4 p5 p6 hp0 0) rfl
  · refine x_aload_n (pc := 10) (i := 0) (a := 1) g dX11_endsOn_10 rfl rfl ?_
    refine x_getR (pc := 11) (x := p0 + 28) g hW dX11_endsOn_11 fl_11_147 (sImage hp0) rfl ?_
    refine x_getR (pc := 14) (x := p0 + 30) g hW dX11_endsOn_14 fl_11_180 (sState (sImage_stateI hp0)) rfl ?_
    refine x_iload_n (pc := 17) (i := 1) (a := 2) g dX11_endsOn_17 rfl rfl ?_
    refine x_iald (pc := 18) g hW dX11_endsOn_18 (sState_owlBed (sImage_stateI hp0)) (fun j1 hj1 => ?_)
    refine x_nmI (fun x2 => ?_)
    refine x_istore (pc := 19) (lv' := [(8, .int x2), (7, .ref (xad G (p0 + 1))), (0, .ref (xad G p0)), (1, .int p1), (2, .int p2), (3, .int p3), (4, .int p4), (5, .int p5), (6, .int p6)]) g dX11_endsOn_19 (by decide) rfl ?_
    refine x_aload_n (pc := 21) (i := 0) (a := 2) g dX11_endsOn_21 rfl rfl ?_
    refine x_getR (pc := 22) (x := p0 + 28) g hW dX11_endsOn_22 fl_11_147 (sImage hp0) rfl ?_
    refine x_aload (pc := 25) (a := 1) g dX11_endsOn_25 rfl ?_
    refine x_iload (pc := 27) (a := 0) g dX11_endsOn_27 rfl ?_
    refine x_aload_n (pc := 29) (i := 0) (a := 2) g dX11_endsOn_29 rfl rfl ?_
    refine x_getR (pc := 30) (x := p0 + 28) g hW dX11_endsOn_30 fl_11_147 (sImage hp0) rfl ?_
    refine x_aload (pc := 33) (a := 1) g dX11_endsOn_33 rfl ?_
    refine x_iload (pc := 35) (a := 0) g dX11_endsOn_35 rfl ?_
    refine x_iload (pc := 37) (a := 6) g dX11_endsOn_37 rfl ?_
    refine x_Vi (pc := 39) g hW [.ref (xad G (p0 + 1)), .int x2, .int p4] [.int x2, .ref (xad G (p0 + 1)), .ref (xad G (p0 + 28))] (c_State_loudest l G hW m (p0 + 28) (p0 + 1) x2 p4 (sImage_stateI hp0) (sImage_homeI hp0)) dX11_endsOn_39 ml_11_342 (sState (sImage_stateI hp0)) rfl rfl (Nat.le_of_ble_eq_true rfl) ⟨rfl, rfl, by simp only [rmx_O_endsOn, rm_State_loudest]; omega, by simp only [rmx_O_endsOn, rm_State_loudest]; omega⟩ (fun r3 hr3 => ?_)
    refine x_Vi (pc := 42) g hW [.ref (xad G (p0 + 1)), .int x2, .int r3] [] (c_State_sideFrom l G hW m (p0 + 28) (p0 + 1) x2 r3 (sImage_stateI hp0) (sImage_homeI hp0)) dX11_endsOn_42 ml_11_190 (sState (sImage_stateI hp0)) rfl rfl (Nat.le_of_ble_eq_true rfl) ⟨rfl, rfl, by simp only [rmx_O_endsOn, rm_State_sideFrom]; omega, by simp only [rmx_O_endsOn, rm_State_sideFrom]; omega⟩ (fun r4 hr4 => ?_)
    refine x_iload_n (pc := 45) (i := 2) (a := 4) g dX11_endsOn_45 rfl rfl ?_
    refine x_icmp_ne (pc := 46) (t := 53) g dX11_endsOn_46 (by decide) ?_ ?_
    · refine x_iconst (pc := 49) g dX11_endsOn_49 ic_1 ?_
      refine x_goto (pc := 50) (t := 54) g dX11_endsOn_50 (by decide) ?_
      exact x_zretc (pc := 54) g dX11_endsOn_54 rfl (Or.inr rfl) (fun _ h => h)
    · refine x_iconst (pc := 53) g dX11_endsOn_53 ic_0 ?_
      exact x_zretc (pc := 54) g dX11_endsOn_54 rfl (Or.inl rfl) (fun _ h => h)
theorem c_O_endsOn (l : Launch) (G : xG) (hW : WC G) : ∀ (d : Nat) (m : xMem) (p0 : Nat) (p1 : Int32) (p2 : Int32) (p3 : Int32) (p4 : Int32) (p5 : Int32) (p6 : Int32) (hp0 : isImage p0), xCi l G yX11_endsOn cX11_endsOn 10 (some .boolean) (rmx_O_endsOn d) [.ref (xad G p0), .int p1, .int p2, .int p3, .int p4, .int p5, .int p6] m (O_endsOn d m p0 p1 p2 p3 p4 p5 p6) := by
  intro d
  induction d with
  | zero => intro m p0 p1 p2 p3 p4 p5 p6 hp0 z hz; cases hz
  | succ d ih =>
    intro m p0 p1 p2 p3 p4 p5 p6 hp0
    exact xCt_of (own := RX11) (by decide) rfl (Nat.le_of_ble_eq_true rfl) rfl ⟨rfl, rfl⟩ (fun E g => T_O_endsOn_body hW g (O_endsOn d) ih m p0 p1 p2 p3 p4 p5 p6 hp0)
theorem T_O_duel_b114 {l : Launch} {G : xG} {E : xE} (hW : WC G) (g : xGood E l G.1 RX11 cX11_duel yX11_duel 10 (some .int) rm_O_duel) (p0 : Int32) (p1 : Int32) (p2 : Int32) : ∀ (n : Nat) (v6 : Int32) (v7 : Int32) (v8 : Int32) (m : xMem), X E G (fun r : Int32 × xMem => (some (Value.int r.1), r.2)) 114 [(0, .ref (xad G 0)), (1, .int p0), (2, .int p1), (3, .int p2), (4, .ref (xad G 6)), (6, .int v6), (7, .int v7), (8, .int v8)] [] m (O_duel_b114 p0 p1 p2 n v6 v7 v8 m) := by
  intro n
  induction n with
  | zero => intro v6 v7 v8 m; exact x_none
  | succ n ih =>
    intro v6 v7 v8 m
    rw [O_duel_b114]
    refine x_iload (pc := 114) (a := 7) g dX11_duel_114 rfl ?_
    refine x_aload (pc := 116) (a := 4) g dX11_duel_116 rfl ?_
    refine x_getI (pc := 118) g hW dX11_duel_118 fl_11_229 (sHouse isHouse_6) rfl ?_
    refine x_icmp_ge (pc := 121) (t := 183) g dX11_duel_121 (by decide) ?_ ?_
    · refine x_iconst (pc := 124) g dX11_duel_124 ic_1 ?_
      refine x_iload (pc := 125) (a := 7) g dX11_duel_125 rfl ?_
      refine x_ishl (pc := 127) g dX11_duel_127 ?_
      refine x_iconst (pc := 128) g dX11_duel_128 ic_m1 ?_
      refine x_ixor (pc := 129) g dX11_duel_129 ?_
      refine x_nmI (fun x7 => ?_)
      refine x_istore (pc := 130) (lv' := [(9, .int x7), (0, .ref (xad G 0)), (1, .int p0), (2, .int p1), (3, .int p2), (4, .ref (xad G 6)), (6, .int v6), (7, .int v7), (8, .int v8)]) g dX11_duel_130 (by decide) rfl ?_
      refine x_iload (pc := 132) (a := 7) g dX11_duel_132 rfl ?_
      refine x_iload (pc := 134) (a := 8) g dX11_duel_134 rfl ?_
      refine x_ishr (pc := 136) g dX11_duel_136 ?_
      refine x_iconst (pc := 137) g dX11_duel_137 ic_1 ?_
      refine x_iand (pc := 138) g dX11_duel_138 ?_
      refine x_iconst (pc := 139) g dX11_duel_139 ic_1 ?_
      refine x_icmp_ne (pc := 140) (t := 177) g dX11_duel_140 (by decide) ?_ ?_
      · refine x_aload_n (pc := 143) (i := 0) (a := 1) g dX11_duel_143 rfl rfl ?_
        refine x_getR (pc := 144) (x := 5) g hW dX11_duel_144 fl_11_30 (sOwlsLent isOwlsLent_0) rfl ?_
        refine x_iload_n (pc := 147) (i := 1) (a := 2) g dX11_duel_147 rfl rfl ?_
        refine x_iload_n (pc := 148) (i := 2) (a := 3) g dX11_duel_148 rfl rfl ?_
        refine x_iload_n (pc := 149) (i := 3) (a := 4) g dX11_duel_149 rfl rfl ?_
        refine x_iconst (pc := 150) g dX11_duel_150 ic_1 ?_
        refine x_isub (pc := 151) g dX11_duel_151 ?_
        refine x_iload (pc := 152) (a := 6) g dX11_duel_152 rfl ?_
        refine x_iload (pc := 154) (a := 0) g dX11_duel_154 rfl ?_
        refine x_iand (pc := 156) g dX11_duel_156 ?_
        refine x_iload (pc := 157) (a := 7) g dX11_duel_157 rfl ?_
        refine x_iload (pc := 159) (a := 0) g dX11_duel_159 rfl ?_
        refine x_iand (pc := 161) g dX11_duel_161 ?_
        refine x_iconst (pc := 162) g dX11_duel_162 ic_0 ?_
        refine x_Si (pc := 163) g [.ref (xad G 5), .int p0, .int p1, .int (p2 - 1), .int (v6 &&& x7), .int (v7 &&& x7), .int 0] [] (c_O_endsOn l G hW 6 m 5 p0 p1 (p2 - 1) (v6 &&& x7) (v7 &&& x7) 0 isImage_5) dX11_duel_163 ms_11_338 rfl rfl (Nat.le_of_ble_eq_true rfl) ⟨rfl, rfl, by decide, by decide⟩ (fun r8 hr8 => ?_)
        refine x_if_eq (pc := 166) (t := 177) g dX11_duel_166 (by decide) ?_ ?_
        · refine x_iinc (pc := 177) (a := 8) (lv' := [(8, .int (v8 + 1)), (9, .int x7), (0, .ref (xad G 0)), (1, .int p0), (2, .int p1), (3, .int p2), (4, .ref (xad G 6)), (6, .int v6), (7, .int v7)]) g dX11_duel_177 ic_1 rfl (by decide) rfl ?_
          refine x_goto (pc := 180) (t := 114) g dX11_duel_180 (by decide) ?_
          exact x_sub [2, 3, 4, 5, 6, 7, 8, 0] (ih v6 v7 (v8 + 1) m) rfl
        · refine x_aload_n (pc := 169) (i := 0) (a := 1) g dX11_duel_169 rfl rfl ?_
          refine x_iload (pc := 170) (a := 8) g dX11_duel_170 rfl ?_
          refine x_putI (pc := 172) g hW dX11_duel_172 fl_11_107 ft_11_17 (sOwlsLent isOwlsLent_0) rfl (fun m9 => ?_)
          refine x_iconst (pc := 175) g dX11_duel_175 ic_1 ?_
          exact x_iret (pc := 176) g dX11_duel_176 rfl (fun _ h => h)
      · refine x_iinc (pc := 177) (a := 8) (lv' := [(8, .int (v8 + 1)), (9, .int x7), (0, .ref (xad G 0)), (1, .int p0), (2, .int p1), (3, .int p2), (4, .ref (xad G 6)), (6, .int v6), (7, .int v7)]) g dX11_duel_177 ic_1 rfl (by decide) rfl ?_
        refine x_goto (pc := 180) (t := 114) g dX11_duel_180 (by decide) ?_
        exact x_sub [2, 3, 4, 5, 6, 7, 8, 0] (ih v6 v7 (v8 + 1) m) rfl
    · refine x_iconst (pc := 183) g dX11_duel_183 ic_0 ?_
      exact x_iret (pc := 184) g dX11_duel_184 rfl (fun _ h => h)
theorem T_O_duel {l : Launch} {G : xG} {E : xE} (hW : WC G) (g : xGood E l G.1 RX11 cX11_duel yX11_duel 10 (some .int) rm_O_duel) (m : xMem) (p0 : Int32) (p1 : Int32) (p2 : Int32) : X E G (fun r : Int32 × xMem => (some (Value.int r.1), r.2)) 0 [(0, .ref (xad G 0)), (1, .int p0), (2, .int p1), (3, .int p2)] [] m (O_duel m p0 p1 p2) := by
  unfold O_duel
  refine x_aload_n (pc := 0) (i := 0) (a := 0) g dX11_duel_0 rfl rfl ?_
  refine x_getR (pc := 1) (x := 5) g hW dX11_duel_1 fl_11_30 (sOwlsLent isOwlsLent_0) rfl ?_
  refine x_getR (pc := 4) (x := 6) g hW dX11_duel_4 fl_11_144 (sImage isImage_5) rfl ?_
  refine x_astore (pc := 7) (lv' := [(4, .ref (xad G 6)), (0, .ref (xad G 0)), (1, .int p0), (2, .int p1), (3, .int p2)]) g dX11_duel_7 (by decide) rfl ?_
  refine x_aload_n (pc := 9) (i := 0) (a := 1) g dX11_duel_9 rfl rfl ?_
  refine x_getR (pc := 10) (x := 5) g hW dX11_duel_10 fl_11_30 (sOwlsLent isOwlsLent_0) rfl ?_
  refine x_getR (pc := 13) (x := 33) g hW dX11_duel_13 fl_11_147 (sImage isImage_5) rfl ?_
  refine x_astore (pc := 16) (lv' := [(5, .ref (xad G 33)), (4, .ref (xad G 6)), (0, .ref (xad G 0)), (1, .int p0), (2, .int p1), (3, .int p2)]) g dX11_duel_16 (by decide) rfl ?_
  refine x_aload (pc := 18) (a := 1) g dX11_duel_18 rfl ?_
  refine x_iload_n (pc := 20) (i := 1) (a := 3) g dX11_duel_20 rfl rfl ?_
  refine x_Vi (pc := 21) g hW [.int p0] [] (c_House_hasOwl l G hW m 6 p0 isHouse_6) dX11_duel_21 ml_11_175 (sHouse isHouse_6) rfl rfl (Nat.le_of_ble_eq_true rfl) ⟨rfl, rfl, Nat.le_of_ble_eq_true rfl, Nat.le_of_ble_eq_true rfl⟩ (fun r1 hr1 => ?_)
  refine x_if_eq (pc := 24) (t := 46) g dX11_duel_24 (by decide) ?_ ?_
  · refine x_iconst (pc := 46) g dX11_duel_46 ic_m1 ?_
    exact x_iret (pc := 47) g dX11_duel_47 rfl (fun _ h => h)
  · refine x_iload_n (pc := 27) (i := 2) (a := 4) g dX11_duel_27 rfl rfl ?_
    refine x_if_lt (pc := 28) (t := 46) g dX11_duel_28 (by decide) ?_ ?_
    · refine x_iconst (pc := 46) g dX11_duel_46 ic_m1 ?_
      exact x_iret (pc := 47) g dX11_duel_47 rfl (fun _ h => h)
    · refine x_iload_n (pc := 31) (i := 2) (a := 4) g dX11_duel_31 rfl rfl ?_
      refine x_iconst (pc := 32) g dX11_duel_32 ic_4 ?_
      refine x_icmp_gt (pc := 33) (t := 46) g dX11_duel_33 (by decide) ?_ ?_
      · refine x_iconst (pc := 46) g dX11_duel_46 ic_m1 ?_
        exact x_iret (pc := 47) g dX11_duel_47 rfl (fun _ h => h)
      · refine x_iload_n (pc := 36) (i := 3) (a := 5) g dX11_duel_36 rfl rfl ?_
        refine x_iconst (pc := 37) g dX11_duel_37 ic_1 ?_
        refine x_icmp_lt (pc := 38) (t := 46) g dX11_duel_38 (by decide) ?_ ?_
        · refine x_iconst (pc := 46) g dX11_duel_46 ic_m1 ?_
          exact x_iret (pc := 47) g dX11_duel_47 rfl (fun _ h => h)
        · refine x_iload_n (pc := 41) (i := 3) (a := 5) g dX11_duel_41 rfl rfl ?_
          refine x_iconst (pc := 42) g dX11_duel_42 ic_4 ?_
          refine x_icmp_le (pc := 43) (t := 48) g dX11_duel_43 (by decide) ?_ ?_
          · refine x_iconst (pc := 46) g dX11_duel_46 ic_m1 ?_
            exact x_iret (pc := 47) g dX11_duel_47 rfl (fun _ h => h)
          · refine x_aload_n (pc := 48) (i := 0) (a := 2) g dX11_duel_48 rfl rfl ?_
            refine x_iconst (pc := 49) g dX11_duel_49 ic_m1 ?_
            refine x_putI (pc := 50) g hW dX11_duel_50 fl_11_107 ft_11_17 (sOwlsLent isOwlsLent_0) rfl (fun m2 => ?_)
            refine x_aload (pc := 53) (a := 0) g dX11_duel_53 rfl ?_
            refine x_aload (pc := 55) (a := 1) g dX11_duel_55 rfl ?_
            refine x_iload_n (pc := 57) (i := 1) (a := 3) g dX11_duel_57 rfl rfl ?_
            refine x_aload (pc := 58) (a := 0) g dX11_duel_58 rfl ?_
            refine x_getR (pc := 60) (x := 35) g hW dX11_duel_60 fl_11_180 (sState isState_33) rfl ?_
            refine x_iload_n (pc := 63) (i := 1) (a := 3) g dX11_duel_63 rfl rfl ?_
            refine x_iald (pc := 64) g hW dX11_duel_64 (sState_owlBed isState_33) (fun j3 hj3 => ?_)
            refine x_Vi (pc := 65) g hW [.ref (xad G 6), .int p0, .int (m2.1 35 j3)] [] (c_State_heardNow l G hW m2 33 6 p0 (m2.1 35 j3) isState_33 isHouse_6) dX11_duel_65 ml_11_286 (sState isState_33) rfl rfl (Nat.le_of_ble_eq_true rfl) ⟨rfl, rfl, Nat.le_of_ble_eq_true rfl, Nat.le_of_ble_eq_true rfl⟩ (fun r4 hr4 => ?_)
            refine x_istore (pc := 68) (lv' := [(6, .int r4), (5, .ref (xad G 33)), (4, .ref (xad G 6)), (0, .ref (xad G 0)), (1, .int p0), (2, .int p1), (3, .int p2)]) g dX11_duel_68 (by decide) rfl ?_
            refine x_iconst (pc := 70) g dX11_duel_70 ic_1 ?_
            refine x_aload (pc := 71) (a := 2) g dX11_duel_71 rfl ?_
            refine x_getI (pc := 73) g hW dX11_duel_73 fl_11_229 (sHouse isHouse_6) rfl ?_
            refine x_ishl (pc := 76) g dX11_duel_76 ?_
            refine x_iconst (pc := 77) g dX11_duel_77 ic_1 ?_
            refine x_isub (pc := 78) g dX11_duel_78 ?_
            refine x_aload (pc := 79) (a := 1) g dX11_duel_79 rfl ?_
            refine x_getI (pc := 81) g hW dX11_duel_81 fl_11_203 (sState isState_33) rfl ?_
            refine x_iconst (pc := 84) g dX11_duel_84 ic_m1 ?_
            refine x_ixor (pc := 85) g dX11_duel_85 ?_
            refine x_iand (pc := 86) g dX11_duel_86 ?_
            refine x_nmI (fun x5 => ?_)
            refine x_istore (pc := 87) (lv' := [(7, .int x5), (6, .int r4), (5, .ref (xad G 33)), (4, .ref (xad G 6)), (0, .ref (xad G 0)), (1, .int p0), (2, .int p1), (3, .int p2)]) g dX11_duel_87 (by decide) rfl ?_
            refine x_aload_n (pc := 89) (i := 0) (a := 4) g dX11_duel_89 rfl rfl ?_
            refine x_getR (pc := 90) (x := 5) g hW dX11_duel_90 fl_11_30 (sOwlsLent isOwlsLent_0) rfl ?_
            refine x_iload_n (pc := 93) (i := 1) (a := 5) g dX11_duel_93 rfl rfl ?_
            refine x_iload_n (pc := 94) (i := 2) (a := 6) g dX11_duel_94 rfl rfl ?_
            refine x_iload_n (pc := 95) (i := 3) (a := 7) g dX11_duel_95 rfl rfl ?_
            refine x_iconst (pc := 96) g dX11_duel_96 ic_1 ?_
            refine x_isub (pc := 97) g dX11_duel_97 ?_
            refine x_iload (pc := 98) (a := 1) g dX11_duel_98 rfl ?_
            refine x_iload (pc := 100) (a := 0) g dX11_duel_100 rfl ?_
            refine x_iconst (pc := 102) g dX11_duel_102 ic_0 ?_
            refine x_Si (pc := 103) g [.ref (xad G 5), .int p0, .int p1, .int (p2 - 1), .int r4, .int x5, .int 0] [] (c_O_endsOn l G hW 6 m2 5 p0 p1 (p2 - 1) r4 x5 0 isImage_5) dX11_duel_103 ms_11_338 rfl rfl (Nat.le_of_ble_eq_true rfl) ⟨rfl, rfl, by decide, by decide⟩ (fun r6 hr6 => ?_)
            refine x_if_eq (pc := 106) (t := 111) g dX11_duel_106 (by decide) ?_ ?_
            · refine x_iconst (pc := 111) g dX11_duel_111 ic_0 ?_
              refine x_istore (pc := 112) (lv' := [(8, .int 0), (7, .int x5), (6, .int r4), (5, .ref (xad G 33)), (4, .ref (xad G 6)), (0, .ref (xad G 0)), (1, .int p0), (2, .int p1), (3, .int p2)]) g dX11_duel_112 (by decide) rfl ?_
              exact x_sub [5, 6, 7, 8, 4, 2, 1, 0] (T_O_duel_b114 hW g p0 p1 p2 1000 r4 x5 0 m2) rfl
            · refine x_iconst (pc := 109) g dX11_duel_109 ic_1 ?_
              exact x_iret (pc := 110) g dX11_duel_110 rfl (fun _ h => h)
theorem c_O_duel (l : Launch) (G : xG) (hW : WC G) (m : xMem) (p0 : Int32) (p1 : Int32) (p2 : Int32) : xCim l G yX11_duel cX11_duel 10 (some .int) rm_O_duel [.ref (xad G 0), .int p0, .int p1, .int p2] m (O_duel m p0 p1 p2) :=
  xCt_of (own := RX11) (by decide) rfl (Nat.le_of_ble_eq_true rfl) rfl ⟨rfl, rfl⟩ (fun E g => T_O_duel hW g m p0 p1 p2)
theorem T_O_duelAt {l : Launch} {G : xG} {E : xE} (hW : WC G) (g : xGood E l G.1 RX11 cX11_duelAt yX11_duelAt 1 (some .int) rm_O_duelAt) (m : xMem) : X E G (fun r : Int32 => (some (Value.int r), m)) 0 [(0, .ref (xad G 0))] [] m (O_duelAt m) := by
  unfold O_duelAt
  refine x_aload_n (pc := 0) (i := 0) (a := 0) g dX11_duelAt_0 rfl rfl ?_
  refine x_getI (pc := 1) g hW dX11_duelAt_1 fl_11_107 (sOwlsLent isOwlsLent_0) rfl ?_
  exact x_iret (pc := 4) g dX11_duelAt_4 rfl (fun _ h => h)
theorem c_O_duelAt (l : Launch) (G : xG) (hW : WC G) (m : xMem) : xCi l G yX11_duelAt cX11_duelAt 1 (some .int) rm_O_duelAt [.ref (xad G 0)] m (O_duelAt m) :=
  xCt_of (own := RX11) (by decide) rfl (Nat.le_of_ble_eq_true rfl) rfl ⟨rfl, rfl⟩ (fun E g => T_O_duelAt hW g m)
theorem T_O_odds_b54 {l : Launch} {G : xG} {E : xE} (hW : WC G) (g : xGood E l G.1 RX11 cX11_odds yX11_odds 7 (some .int) rm_O_odds) (p0 : Int32) (p1 : Int32) (p2 : Int32) : ∀ (n : Nat) (v4 : Int32) (v5 : Int32) (v6 : Int32) (m : xMem), X E G (fun r : Int32 × xMem => (some (Value.int r.1), r.2)) 54 [(0, .ref (xad G 0)), (1, .int p0), (2, .int p1), (3, .int p2), (4, .int v4), (5, .int v5), (6, .int v6)] [] m (O_odds_b54 p0 p1 p2 n v4 v5 v6 m) := by
  intro n
  induction n with
  | zero => intro v4 v5 v6 m; exact x_none
  | succ n ih =>
    intro v4 v5 v6 m
    rw [O_odds_b54]
    refine x_iload (pc := 54) (a := 6) g dX11_odds_54 rfl ?_
    refine x_iload_n (pc := 56) (i := 2) (a := 2) g dX11_odds_56 rfl rfl ?_
    refine x_icmp_ge (pc := 57) (t := 127) g dX11_odds_57 (by decide) ?_ ?_
    · refine x_aload_n (pc := 60) (i := 0) (a := 0) g dX11_odds_60 rfl rfl ?_
      refine x_getR (pc := 61) (x := 118) g hW dX11_odds_61 fl_11_62 (sOwlsLent isOwlsLent_0) rfl ?_
      refine x_aload_n (pc := 64) (i := 0) (a := 0) g dX11_odds_64 rfl rfl ?_
      refine x_getR (pc := 65) (x := 5) g hW dX11_odds_65 fl_11_30 (sOwlsLent isOwlsLent_0) rfl ?_
      refine x_getR (pc := 68) (x := 33) g hW dX11_odds_68 fl_11_147 (sImage isImage_5) rfl ?_
      refine x_Vv (pc := 71) g hW [.ref (xad G 33)] [] (c_State_copyFrom l G hW m 118 33 isState_118 isState_33) dX11_odds_71 ml_11_238 (sState isState_118) rfl rfl (Nat.le_of_ble_eq_true rfl) ⟨rfl, rfl, Nat.le_of_ble_eq_true rfl, Nat.le_of_ble_eq_true rfl⟩ (fun r3 hr3 => ?_)
      refine x_aload_n (pc := 74) (i := 0) (a := 0) g dX11_odds_74 rfl rfl ?_
      refine x_getR (pc := 75) (x := 118) g hW dX11_odds_75 fl_11_62 (sOwlsLent isOwlsLent_0) rfl ?_
      refine x_aload_n (pc := 78) (i := 0) (a := 0) g dX11_odds_78 rfl rfl ?_
      refine x_getR (pc := 79) (x := 5) g hW dX11_odds_79 fl_11_30 (sOwlsLent isOwlsLent_0) rfl ?_
      refine x_getR (pc := 82) (x := 6) g hW dX11_odds_82 fl_11_144 (sImage isImage_5) rfl ?_
      refine x_iload (pc := 85) (a := 4) g dX11_odds_85 rfl ?_
      refine x_iload_n (pc := 87) (i := 3) (a := 3) g dX11_odds_87 rfl rfl ?_
      refine x_iload (pc := 88) (a := 6) g dX11_odds_88 rfl ?_
      refine x_iadd (pc := 90) g dX11_odds_90 ?_
      refine x_Vv (pc := 91) g hW [.ref (xad G 6), .int v4, .int (p2 + v6)] [] (c_State_passDrawn l G hW r3 118 6 v4 (p2 + v6) isState_118 isHouse_6) dX11_odds_91 ml_11_275 (sState isState_118) rfl rfl (Nat.le_of_ble_eq_true rfl) ⟨rfl, rfl, Nat.le_of_ble_eq_true rfl, Nat.le_of_ble_eq_true rfl⟩ (fun r4 hr4 => ?_)
      refine x_aload_n (pc := 94) (i := 0) (a := 0) g dX11_odds_94 rfl rfl ?_
      refine x_getR (pc := 95) (x := 118) g hW dX11_odds_95 fl_11_62 (sOwlsLent isOwlsLent_0) rfl ?_
      refine x_getR (pc := 98) (x := 122) g hW dX11_odds_98 fl_11_172 (sState isState_118) rfl ?_
      refine x_iload_n (pc := 101) (i := 1) (a := 1) g dX11_odds_101 rfl rfl ?_
      refine x_iald (pc := 102) g hW dX11_odds_102 (sState_misses isState_118) (fun j5 hj5 => ?_)
      refine x_aload_n (pc := 103) (i := 0) (a := 0) g dX11_odds_103 rfl rfl ?_
      refine x_getR (pc := 104) (x := 5) g hW dX11_odds_104 fl_11_30 (sOwlsLent isOwlsLent_0) rfl ?_
      refine x_getR (pc := 107) (x := 33) g hW dX11_odds_107 fl_11_147 (sImage isImage_5) rfl ?_
      refine x_getR (pc := 110) (x := 37) g hW dX11_odds_110 fl_11_172 (sState isState_33) rfl ?_
      refine x_iload_n (pc := 113) (i := 1) (a := 1) g dX11_odds_113 rfl rfl ?_
      refine x_iald (pc := 114) g hW dX11_odds_114 (sState_misses isState_33) (fun j6 hj6 => ?_)
      refine x_icmp_ne (pc := 115) (t := 121) g dX11_odds_115 (by decide) ?_ ?_
      · refine x_iinc (pc := 118) (a := 5) (lv' := [(5, .int (v5 + 1)), (0, .ref (xad G 0)), (1, .int p0), (2, .int p1), (3, .int p2), (4, .int v4), (6, .int v6)]) g dX11_odds_118 ic_1 rfl (by decide) rfl ?_
        refine x_iinc (pc := 121) (a := 6) (lv' := [(6, .int (v6 + 1)), (5, .int (v5 + 1)), (0, .ref (xad G 0)), (1, .int p0), (2, .int p1), (3, .int p2), (4, .int v4)]) g dX11_odds_121 ic_1 rfl (by decide) rfl ?_
        refine x_goto (pc := 124) (t := 54) g dX11_odds_124 (by decide) ?_
        exact x_sub [2, 3, 4, 5, 6, 1, 0] (ih v4 (v5 + 1) (v6 + 1) r4) rfl
      · refine x_iinc (pc := 121) (a := 6) (lv' := [(6, .int (v6 + 1)), (0, .ref (xad G 0)), (1, .int p0), (2, .int p1), (3, .int p2), (4, .int v4), (5, .int v5)]) g dX11_odds_121 ic_1 rfl (by decide) rfl ?_
        refine x_goto (pc := 124) (t := 54) g dX11_odds_124 (by decide) ?_
        exact x_sub [1, 2, 3, 4, 5, 6, 0] (ih v4 v5 (v6 + 1) r4) rfl
    · refine x_iload (pc := 127) (a := 5) g dX11_odds_127 rfl ?_
      exact x_iret (pc := 129) g dX11_odds_129 rfl (fun _ h => h)
theorem T_O_odds {l : Launch} {G : xG} {E : xE} (hW : WC G) (g : xGood E l G.1 RX11 cX11_odds yX11_odds 7 (some .int) rm_O_odds) (m : xMem) (p0 : Int32) (p1 : Int32) (p2 : Int32) : X E G (fun r : Int32 × xMem => (some (Value.int r.1), r.2)) 0 [(0, .ref (xad G 0)), (1, .int p0), (2, .int p1), (3, .int p2)] [] m (O_odds m p0 p1 p2) := by
  unfold O_odds
  refine x_aload_n (pc := 0) (i := 0) (a := 0) g dX11_odds_0 rfl rfl ?_
  refine x_getR (pc := 1) (x := 5) g hW dX11_odds_1 fl_11_30 (sOwlsLent isOwlsLent_0) rfl ?_
  refine x_getR (pc := 4) (x := 6) g hW dX11_odds_4 fl_11_144 (sImage isImage_5) rfl ?_
  refine x_iload_n (pc := 7) (i := 1) (a := 1) g dX11_odds_7 rfl rfl ?_
  refine x_Vi (pc := 8) g hW [.int p0] [] (c_House_hasBed l G hW m 6 p0 isHouse_6) dX11_odds_8 ml_11_150 (sHouse isHouse_6) rfl rfl (Nat.le_of_ble_eq_true rfl) ⟨rfl, rfl, Nat.le_of_ble_eq_true rfl, Nat.le_of_ble_eq_true rfl⟩ (fun r1 hr1 => ?_)
  refine x_if_eq (pc := 11) (t := 25) g dX11_odds_11 (by decide) ?_ ?_
  · refine x_iconst (pc := 25) g dX11_odds_25 ic_m1 ?_
    exact x_iret (pc := 26) g dX11_odds_26 rfl (fun _ h => h)
  · refine x_iload_n (pc := 14) (i := 2) (a := 2) g dX11_odds_14 rfl rfl ?_
    refine x_iconst (pc := 15) g dX11_odds_15 ic_1 ?_
    refine x_icmp_lt (pc := 16) (t := 25) g dX11_odds_16 (by decide) ?_ ?_
    · refine x_iconst (pc := 25) g dX11_odds_25 ic_m1 ?_
      exact x_iret (pc := 26) g dX11_odds_26 rfl (fun _ h => h)
    · refine x_iload_n (pc := 19) (i := 2) (a := 2) g dX11_odds_19 rfl rfl ?_
      refine x_bipush (pc := 20) g dX11_odds_20 bi_30 ?_
      refine x_icmp_le (pc := 22) (t := 27) g dX11_odds_22 (by decide) ?_ ?_
      · refine x_iconst (pc := 25) g dX11_odds_25 ic_m1 ?_
        exact x_iret (pc := 26) g dX11_odds_26 rfl (fun _ h => h)
      · refine x_bipush (pc := 27) g dX11_odds_27 bi_12 ?_
        refine x_sipush (pc := 29) g dX11_odds_29 si_400 ?_
        refine x_aload_n (pc := 32) (i := 0) (a := 0) g dX11_odds_32 rfl rfl ?_
        refine x_getR (pc := 33) (x := 5) g hW dX11_odds_33 fl_11_30 (sOwlsLent isOwlsLent_0) rfl ?_
        refine x_getR (pc := 36) (x := 33) g hW dX11_odds_36 fl_11_147 (sImage isImage_5) rfl ?_
        refine x_getI (pc := 39) g hW dX11_odds_39 fl_11_206 (sState isState_33) rfl ?_
        refine x_isub (pc := 42) g dX11_odds_42 ?_
        refine x_mmin (pc := 43) g dX11_odds_43 mk_11_263 mm_min ⟨by decide, Nat.le_of_ble_eq_true rfl⟩ ?_
        refine x_nmI (fun x2 => ?_)
        refine x_istore (pc := 46) (lv' := [(4, .int x2), (0, .ref (xad G 0)), (1, .int p0), (2, .int p1), (3, .int p2)]) g dX11_odds_46 (by decide) rfl ?_
        refine x_iconst (pc := 48) g dX11_odds_48 ic_0 ?_
        refine x_istore (pc := 49) (lv' := [(5, .int 0), (4, .int x2), (0, .ref (xad G 0)), (1, .int p0), (2, .int p1), (3, .int p2)]) g dX11_odds_49 (by decide) rfl ?_
        refine x_iconst (pc := 51) g dX11_odds_51 ic_0 ?_
        refine x_istore (pc := 52) (lv' := [(6, .int 0), (5, .int 0), (4, .int x2), (0, .ref (xad G 0)), (1, .int p0), (2, .int p1), (3, .int p2)]) g dX11_odds_52 (by decide) rfl ?_
        exact x_sub [3, 4, 5, 6, 2, 1, 0] (T_O_odds_b54 hW g p0 p1 p2 1000 x2 0 0 m) rfl
theorem c_O_odds (l : Launch) (G : xG) (hW : WC G) (m : xMem) (p0 : Int32) (p1 : Int32) (p2 : Int32) : xCim l G yX11_odds cX11_odds 7 (some .int) rm_O_odds [.ref (xad G 0), .int p0, .int p1, .int p2] m (O_odds m p0 p1 p2) :=
  xCt_of (own := RX11) (by decide) rfl (Nat.le_of_ble_eq_true rfl) rfl ⟨rfl, rfl⟩ (fun E g => T_O_odds hW g m p0 p1 p2)
theorem T_O_byteAt {l : Launch} {G : xG} {E : xE} (hW : WC G) (g : xGood E l G.1 RX11 cX11_byteAt yX11_byteAt 2 (some .int) rm_O_byteAt) (m : xMem) (p0 : Int32) : X E G (fun r : Int32 => (some (Value.int r), m)) 0 [(0, .ref (xad G 0)), (1, .int p0)] [] m (O_byteAt m p0) := by
  unfold O_byteAt
  refine x_iload_n (pc := 0) (i := 1) (a := 1) g dX11_byteAt_0 rfl rfl ?_
  refine x_if_lt (pc := 1) (t := 26) g dX11_byteAt_1 (by decide) ?_ ?_
  · refine x_iconst (pc := 26) g dX11_byteAt_26 ic_m1 ?_
    exact x_iret (pc := 27) g dX11_byteAt_27 rfl (fun _ h => h)
  · refine x_iload_n (pc := 4) (i := 1) (a := 1) g dX11_byteAt_4 rfl rfl ?_
    refine x_aload_n (pc := 5) (i := 0) (a := 0) g dX11_byteAt_5 rfl rfl ?_
    refine x_getR (pc := 6) (x := 180) g hW dX11_byteAt_6 fl_11_87 (sOwlsLent isOwlsLent_0) rfl ?_
    refine x_getI (pc := 9) g hW dX11_byteAt_9 fl_11_113 (sTape isTape_180) rfl ?_
    refine x_icmp_ge (pc := 12) (t := 26) g dX11_byteAt_12 (by decide) ?_ ?_
    · refine x_aload_n (pc := 15) (i := 0) (a := 0) g dX11_byteAt_15 rfl rfl ?_
      refine x_getR (pc := 16) (x := 180) g hW dX11_byteAt_16 fl_11_87 (sOwlsLent isOwlsLent_0) rfl ?_
      refine x_iload_n (pc := 19) (i := 1) (a := 1) g dX11_byteAt_19 rfl rfl ?_
      refine x_Vi (pc := 20) g hW [.int p0] [] (c_Tape_at l G hW m 180 p0 isTape_180) dX11_byteAt_20 ml_11_312 (sTape isTape_180) rfl rfl (Nat.le_of_ble_eq_true rfl) ⟨rfl, rfl, Nat.le_of_ble_eq_true rfl, Nat.le_of_ble_eq_true rfl⟩ (fun r1 hr1 => ?_)
      refine x_goto (pc := 23) (t := 27) g dX11_byteAt_23 (by decide) ?_
      exact x_iret (pc := 27) g dX11_byteAt_27 rfl (fun _ h => h)
    · refine x_iconst (pc := 26) g dX11_byteAt_26 ic_m1 ?_
      exact x_iret (pc := 27) g dX11_byteAt_27 rfl (fun _ h => h)
theorem c_O_byteAt (l : Launch) (G : xG) (hW : WC G) (m : xMem) (p0 : Int32) : xCi l G yX11_byteAt cX11_byteAt 2 (some .int) rm_O_byteAt [.ref (xad G 0), .int p0] m (O_byteAt m p0) :=
  xCt_of (own := RX11) (by decide) rfl (Nat.le_of_ble_eq_true rfl) rfl ⟨rfl, rfl⟩ (fun E g => T_O_byteAt hW g m p0)
theorem T_O_book_b115 {l : Launch} {G : xG} {E : xE} (hW : WC G) (g : xGood E l G.1 RX11 cX11_book yX11_book 2 (some .int) rm_O_book) (p0 : Int32) (m : xMem) : X E G (fun r : Int32 × xMem => (some (Value.int r.1), r.2)) 115 [(0, .ref (xad G 0))] [] m (O_book_b115 p0 m) := by
  unfold O_book_b115
  refine x_aload_n (pc := 115) (i := 0) (a := 0) g dX11_book_115 rfl rfl ?_
  refine x_getR (pc := 116) (x := 76) g hW dX11_book_116 fl_11_55 (sOwlsLent isOwlsLent_0) rfl ?_
  refine x_getI (pc := 119) g hW dX11_book_119 fl_11_384 (sBook isBook_76) rfl ?_
  refine x_if_ne (pc := 122) (t := 129) g dX11_book_122 (by decide) ?_ ?_
  · refine x_iconst (pc := 125) g dX11_book_125 ic_m1 ?_
    refine x_goto (pc := 126) (t := 136) g dX11_book_126 (by decide) ?_
    exact x_iret (pc := 136) g dX11_book_136 rfl (fun _ h => h)
  · refine x_aload_n (pc := 129) (i := 0) (a := 0) g dX11_book_129 rfl rfl ?_
    refine x_getR (pc := 130) (x := 76) g hW dX11_book_130 fl_11_55 (sOwlsLent isOwlsLent_0) rfl ?_
    refine x_getI (pc := 133) g hW dX11_book_133 fl_11_381 (sBook isBook_76) rfl ?_
    exact x_iret (pc := 136) g dX11_book_136 rfl (fun _ h => h)
theorem T_O_book_b13 {l : Launch} {G : xG} {E : xE} (hW : WC G) (g : xGood E l G.1 RX11 cX11_book yX11_book 2 (some .int) rm_O_book) (p0 : Int32) (m : xMem) : X E G (fun r : Int32 × xMem => (some (Value.int r.1), r.2)) 13 [(0, .ref (xad G 0)), (1, .int p0)] [] m (O_book_b13 p0 m) := by
  unfold O_book_b13
  refine x_aload_n (pc := 13) (i := 0) (a := 0) g dX11_book_13 rfl rfl ?_
  refine x_getR (pc := 14) (x := 3) g hW dX11_book_14 fl_11_23 (sOwlsLent isOwlsLent_0) rfl ?_
  refine x_sipush (pc := 17) g dX11_book_17 si_400 ?_
  refine x_Vv (pc := 20) g hW [.int 400] [] (c_Tokens_start l G hW m 400) dX11_book_20 ml_11_121 (sTokens isTokens_3) rfl rfl (Nat.le_of_ble_eq_true rfl) ⟨rfl, rfl, Nat.le_of_ble_eq_true rfl, Nat.le_of_ble_eq_true rfl⟩ (fun r1 hr1 => ?_)
  refine x_aload_n (pc := 23) (i := 0) (a := 0) g dX11_book_23 rfl rfl ?_
  refine x_getR (pc := 24) (x := 76) g hW dX11_book_24 fl_11_55 (sOwlsLent isOwlsLent_0) rfl ?_
  refine x_aload_n (pc := 27) (i := 0) (a := 0) g dX11_book_27 rfl rfl ?_
  refine x_getR (pc := 28) (x := 3) g hW dX11_book_28 fl_11_23 (sOwlsLent isOwlsLent_0) rfl ?_
  refine x_aload_n (pc := 31) (i := 0) (a := 0) g dX11_book_31 rfl rfl ?_
  refine x_getR (pc := 32) (x := 5) g hW dX11_book_32 fl_11_30 (sOwlsLent isOwlsLent_0) rfl ?_
  refine x_getR (pc := 35) (x := 6) g hW dX11_book_35 fl_11_144 (sImage isImage_5) rfl ?_
  refine x_Vim (pc := 38) g hW [.ref (xad G 3), .ref (xad G 6)] [] (c_Book_readAll l G hW r1 6 isHouse_6) dX11_book_38 ml_11_374 (sBook isBook_76) rfl rfl (Nat.le_of_ble_eq_true rfl) ⟨rfl, rfl, Nat.le_of_ble_eq_true rfl, Nat.le_of_ble_eq_true rfl⟩ (fun r2 hr2 => ?_)
  refine x_pop (pc := 41) g dX11_book_41 rfl ?_
  refine x_aload_n (pc := 42) (i := 0) (a := 0) g dX11_book_42 rfl rfl ?_
  refine x_Vv (pc := 43) g hW [] [] (c_O_endText l G hW r2.2) dX11_book_43 ml_11_128 (sOwlsLent isOwlsLent_0) rfl rfl (Nat.le_of_ble_eq_true rfl) ⟨rfl, rfl, Nat.le_of_ble_eq_true rfl, Nat.le_of_ble_eq_true rfl⟩ (fun r3 hr3 => ?_)
  refine x_aload_n (pc := 46) (i := 0) (a := 0) g dX11_book_46 rfl rfl ?_
  refine x_getI (pc := 47) g hW dX11_book_47 fl_11_110 (sOwlsLent isOwlsLent_0) rfl ?_
  refine x_if_eq (pc := 50) (t := 64) g dX11_book_50 (by decide) ?_ ?_
  · refine x_aload_n (pc := 64) (i := 0) (a := 0) g dX11_book_64 rfl rfl ?_
    refine x_getR (pc := 65) (x := 118) g hW dX11_book_65 fl_11_62 (sOwlsLent isOwlsLent_0) rfl ?_
    refine x_aload_n (pc := 68) (i := 0) (a := 0) g dX11_book_68 rfl rfl ?_
    refine x_getR (pc := 69) (x := 5) g hW dX11_book_69 fl_11_30 (sOwlsLent isOwlsLent_0) rfl ?_
    refine x_getR (pc := 72) (x := 33) g hW dX11_book_72 fl_11_147 (sImage isImage_5) rfl ?_
    refine x_Vv (pc := 75) g hW [.ref (xad G 33)] [] (c_State_copyFrom l G hW r3 118 33 isState_118 isState_33) dX11_book_75 ml_11_238 (sState isState_118) rfl rfl (Nat.le_of_ble_eq_true rfl) ⟨rfl, rfl, Nat.le_of_ble_eq_true rfl, Nat.le_of_ble_eq_true rfl⟩ (fun r4 hr4 => ?_)
    refine x_aload_n (pc := 78) (i := 0) (a := 0) g dX11_book_78 rfl rfl ?_
    refine x_getR (pc := 79) (x := 76) g hW dX11_book_79 fl_11_55 (sOwlsLent isOwlsLent_0) rfl ?_
    refine x_aload_n (pc := 82) (i := 0) (a := 0) g dX11_book_82 rfl rfl ?_
    refine x_getR (pc := 83) (x := 5) g hW dX11_book_83 fl_11_30 (sOwlsLent isOwlsLent_0) rfl ?_
    refine x_getR (pc := 86) (x := 6) g hW dX11_book_86 fl_11_144 (sImage isImage_5) rfl ?_
    refine x_aload_n (pc := 89) (i := 0) (a := 0) g dX11_book_89 rfl rfl ?_
    refine x_getR (pc := 90) (x := 118) g hW dX11_book_90 fl_11_62 (sOwlsLent isOwlsLent_0) rfl ?_
    refine x_Vv (pc := 93) g hW [.ref (xad G 6), .ref (xad G 118)] [] (c_Book_live l G hW r4 6 118 isHouse_6 isState_118) dX11_book_93 ml_11_377 (sBook isBook_76) rfl rfl (Nat.le_of_ble_eq_true rfl) ⟨rfl, rfl, Nat.le_of_ble_eq_true rfl, Nat.le_of_ble_eq_true rfl⟩ (fun r5 hr5 => ?_)
    refine x_iload_n (pc := 96) (i := 1) (a := 1) g dX11_book_96 rfl rfl ?_
    refine x_iconst (pc := 97) g dX11_book_97 ic_1 ?_
    refine x_icmp_ne (pc := 98) (t := 115) g dX11_book_98 (by decide) ?_ ?_
    · refine x_aload_n (pc := 101) (i := 0) (a := 0) g dX11_book_101 rfl rfl ?_
      refine x_getR (pc := 102) (x := 76) g hW dX11_book_102 fl_11_55 (sOwlsLent isOwlsLent_0) rfl ?_
      refine x_getI (pc := 105) g hW dX11_book_105 fl_11_381 (sBook isBook_76) rfl ?_
      refine x_if_le (pc := 108) (t := 115) g dX11_book_108 (by decide) ?_ ?_
      · refine x_aload_n (pc := 111) (i := 0) (a := 0) g dX11_book_111 rfl rfl ?_
        refine x_Vv (pc := 112) g hW [] [] (c_O_keepTrial l G hW r5) dX11_book_112 ml_11_272 (sOwlsLent isOwlsLent_0) rfl rfl (Nat.le_of_ble_eq_true rfl) ⟨rfl, rfl, Nat.le_of_ble_eq_true rfl, Nat.le_of_ble_eq_true rfl⟩ (fun r6 hr6 => ?_)
        exact x_sub [0] (T_O_book_b115 hW g p0 r6) rfl
      · exact x_sub [0] (T_O_book_b115 hW g p0 r5) rfl
    · exact x_sub [0] (T_O_book_b115 hW g p0 r5) rfl
  · refine x_bipush (pc := 53) g dX11_book_53 bi_m2 ?_
    refine x_aload_n (pc := 55) (i := 0) (a := 0) g dX11_book_55 rfl rfl ?_
    refine x_getR (pc := 56) (x := 3) g hW dX11_book_56 fl_11_23 (sOwlsLent isOwlsLent_0) rfl ?_
    refine x_getI (pc := 59) g hW dX11_book_59 fl_11_131 (sTokens isTokens_3) rfl ?_
    refine x_isub (pc := 62) g dX11_book_62 ?_
    exact x_iret (pc := 63) g dX11_book_63 rfl (fun _ h => h)
theorem T_O_book {l : Launch} {G : xG} {E : xE} (hW : WC G) (g : xGood E l G.1 RX11 cX11_book yX11_book 2 (some .int) rm_O_book) (m : xMem) (p0 : Int32) : X E G (fun r : Int32 × xMem => (some (Value.int r.1), r.2)) 0 [(0, .ref (xad G 0)), (1, .int p0)] [] m (O_book m p0) := by
  unfold O_book
  refine x_iload_n (pc := 0) (i := 1) (a := 1) g dX11_book_0 rfl rfl ?_
  refine x_if_eq (pc := 1) (t := 13) g dX11_book_1 (by decide) ?_ ?_
  · exact x_sub [0, 1] (T_O_book_b13 hW g p0 m) rfl
  · refine x_iload_n (pc := 4) (i := 1) (a := 1) g dX11_book_4 rfl rfl ?_
    refine x_iconst (pc := 5) g dX11_book_5 ic_1 ?_
    refine x_icmp_eq (pc := 6) (t := 13) g dX11_book_6 (by decide) ?_ ?_
    · exact x_sub [0, 1] (T_O_book_b13 hW g p0 m) rfl
    · refine x_sipush (pc := 9) g dX11_book_9 si_m1000 ?_
      exact x_iret (pc := 12) g dX11_book_12 rfl (fun _ h => h)
theorem c_O_book (l : Launch) (G : xG) (hW : WC G) (m : xMem) (p0 : Int32) : xCim l G yX11_book cX11_book 2 (some .int) rm_O_book [.ref (xad G 0), .int p0] m (O_book m p0) :=
  xCt_of (own := RX11) (by decide) rfl (Nat.le_of_ble_eq_true rfl) rfl ⟨rfl, rfl⟩ (fun E g => T_O_book hW g m p0)
theorem T_O_told {l : Launch} {G : xG} {E : xE} (hW : WC G) (g : xGood E l G.1 RX11 cX11_told yX11_told 2 (some .int) rm_O_told) (m : xMem) (p0 : Int32) : X E G (fun r : Int32 => (some (Value.int r), m)) 0 [(0, .ref (xad G 0)), (1, .int p0)] [] m (O_told m p0) := by
  unfold O_told
  refine x_aload_n (pc := 0) (i := 0) (a := 0) g dX11_told_0 rfl rfl ?_
  refine x_getR (pc := 1) (x := 76) g hW dX11_told_1 fl_11_55 (sOwlsLent isOwlsLent_0) rfl ?_
  refine x_getI (pc := 4) g hW dX11_told_4 fl_11_387 (sBook isBook_76) rfl ?_
  refine x_if_ne (pc := 7) (t := 12) g dX11_told_7 (by decide) ?_ ?_
  · refine x_iconst (pc := 10) g dX11_told_10 ic_m1 ?_
    exact x_iret (pc := 11) g dX11_told_11 rfl (fun _ h => h)
  · refine x_iload_n (pc := 12) (i := 1) (a := 1) g dX11_told_12 rfl rfl ?_
    refine x_if (fun h13_0 => ?_) (fun h13_0 => ?_)
    · refine x_tabIn (pc := 13) (t := 44) (off := 31) g dX11_told_13 h13_0 (by decide) ?_
      refine x_aload_n (pc := 44) (i := 0) (a := 0) g dX11_told_44 rfl rfl ?_
      refine x_getR (pc := 45) (x := 76) g hW dX11_told_45 fl_11_55 (sOwlsLent isOwlsLent_0) rfl ?_
      refine x_getI (pc := 48) g hW dX11_told_48 fl_11_384 (sBook isBook_76) rfl ?_
      exact x_iret (pc := 51) g dX11_told_51 rfl (fun _ h => h)
    refine x_if (fun h13_1 => ?_) (fun h13_1 => ?_)
    · refine x_tabIn (pc := 13) (t := 52) (off := 39) g dX11_told_13 h13_1 (by decide) ?_
      refine x_aload_n (pc := 52) (i := 0) (a := 0) g dX11_told_52 rfl rfl ?_
      refine x_getR (pc := 53) (x := 76) g hW dX11_told_53 fl_11_55 (sOwlsLent isOwlsLent_0) rfl ?_
      refine x_getI (pc := 56) g hW dX11_told_56 fl_11_381 (sBook isBook_76) rfl ?_
      exact x_iret (pc := 59) g dX11_told_59 rfl (fun _ h => h)
    refine x_if (fun h13_2 => ?_) (fun h13_2 => ?_)
    · refine x_tabIn (pc := 13) (t := 60) (off := 47) g dX11_told_13 h13_2 (by decide) ?_
      refine x_aload_n (pc := 60) (i := 0) (a := 0) g dX11_told_60 rfl rfl ?_
      refine x_getR (pc := 61) (x := 76) g hW dX11_told_61 fl_11_55 (sOwlsLent isOwlsLent_0) rfl ?_
      refine x_getI (pc := 64) g hW dX11_told_64 fl_11_391 (sBook isBook_76) rfl ?_
      exact x_iret (pc := 67) g dX11_told_67 rfl (fun _ h => h)
    refine x_if (fun h13_3 => ?_) (fun h13_3 => ?_)
    · refine x_tabIn (pc := 13) (t := 68) (off := 55) g dX11_told_13 h13_3 (by decide) ?_
      refine x_aload_n (pc := 68) (i := 0) (a := 0) g dX11_told_68 rfl rfl ?_
      refine x_getR (pc := 69) (x := 76) g hW dX11_told_69 fl_11_55 (sOwlsLent isOwlsLent_0) rfl ?_
      refine x_getI (pc := 72) g hW dX11_told_72 fl_11_394 (sBook isBook_76) rfl ?_
      exact x_iret (pc := 75) g dX11_told_75 rfl (fun _ h => h)
    refine x_tabOut (pc := 13) (t := 76) g dX11_told_13 (by have z0 := ne_toInt (k := 0) h13_0 (by decide); have z1 := ne_toInt (k := 1) h13_1 (by decide); have z2 := ne_toInt (k := 2) h13_2 (by decide); have z3 := ne_toInt (k := 3) h13_3 (by decide); omega) (by decide) ?_
    refine x_iconst (pc := 76) g dX11_told_76 ic_m1 ?_
    exact x_iret (pc := 77) g dX11_told_77 rfl (fun _ h => h)
theorem c_O_told (l : Launch) (G : xG) (hW : WC G) (m : xMem) (p0 : Int32) : xCi l G yX11_told cX11_told 2 (some .int) rm_O_told [.ref (xad G 0), .int p0] m (O_told m p0) :=
  xCt_of (own := RX11) (by decide) rfl (Nat.le_of_ble_eq_true rfl) rfl ⟨rfl, rfl⟩ (fun E g => T_O_told hW g m p0)
theorem T_O_sentence {l : Launch} {G : xG} {E : xE} (hW : WC G) (g : xGood E l G.1 RX11 cX11_sentence yX11_sentence 1 (some .int) rm_O_sentence) (m : xMem) : X E G (fun r : Int32 × xMem => (some (Value.int r.1), r.2)) 0 [(0, .ref (xad G 0))] [] m (O_sentence m) := by
  unfold O_sentence
  refine x_aload_n (pc := 0) (i := 0) (a := 0) g dX11_sentence_0 rfl rfl ?_
  refine x_getR (pc := 1) (x := 3) g hW dX11_sentence_1 fl_11_23 (sOwlsLent isOwlsLent_0) rfl ?_
  refine x_sipush (pc := 4) g dX11_sentence_4 si_200 ?_
  refine x_Vv (pc := 7) g hW [.int 200] [] (c_Tokens_start l G hW m 200) dX11_sentence_7 ml_11_121 (sTokens isTokens_3) rfl rfl (Nat.le_of_ble_eq_true rfl) ⟨rfl, rfl, Nat.le_of_ble_eq_true rfl, Nat.le_of_ble_eq_true rfl⟩ (fun r1 hr1 => ?_)
  refine x_aload_n (pc := 10) (i := 0) (a := 0) g dX11_sentence_10 rfl rfl ?_
  refine x_getR (pc := 11) (x := 71) g hW dX11_sentence_11 fl_11_48 (sOwlsLent isOwlsLent_0) rfl ?_
  refine x_aload_n (pc := 14) (i := 0) (a := 0) g dX11_sentence_14 rfl rfl ?_
  refine x_getR (pc := 15) (x := 3) g hW dX11_sentence_15 fl_11_23 (sOwlsLent isOwlsLent_0) rfl ?_
  refine x_aload_n (pc := 18) (i := 0) (a := 0) g dX11_sentence_18 rfl rfl ?_
  refine x_getR (pc := 19) (x := 5) g hW dX11_sentence_19 fl_11_30 (sOwlsLent isOwlsLent_0) rfl ?_
  refine x_getR (pc := 22) (x := 6) g hW dX11_sentence_22 fl_11_144 (sImage isImage_5) rfl ?_
  refine x_Vim (pc := 25) g hW [.ref (xad G 3), .ref (xad G 6)] [] (c_Sentence_readAll l G hW r1 71 6 isSentence_71 isHouse_6) dX11_sentence_25 ml_11_397 (sSentence isSentence_71) rfl rfl (Nat.le_of_ble_eq_true rfl) ⟨rfl, rfl, Nat.le_of_ble_eq_true rfl, Nat.le_of_ble_eq_true rfl⟩ (fun r2 hr2 => ?_)
  refine x_pop (pc := 28) g dX11_sentence_28 rfl ?_
  refine x_aload_n (pc := 29) (i := 0) (a := 0) g dX11_sentence_29 rfl rfl ?_
  refine x_Vv (pc := 30) g hW [] [] (c_O_endText l G hW r2.2) dX11_sentence_30 ml_11_128 (sOwlsLent isOwlsLent_0) rfl rfl (Nat.le_of_ble_eq_true rfl) ⟨rfl, rfl, Nat.le_of_ble_eq_true rfl, Nat.le_of_ble_eq_true rfl⟩ (fun r3 hr3 => ?_)
  refine x_aload_n (pc := 33) (i := 0) (a := 0) g dX11_sentence_33 rfl rfl ?_
  refine x_getI (pc := 34) g hW dX11_sentence_34 fl_11_110 (sOwlsLent isOwlsLent_0) rfl ?_
  refine x_if_eq (pc := 37) (t := 50) g dX11_sentence_37 (by decide) ?_ ?_
  · refine x_aload_n (pc := 50) (i := 0) (a := 0) g dX11_sentence_50 rfl rfl ?_
    refine x_getR (pc := 51) (x := 5) g hW dX11_sentence_51 fl_11_30 (sOwlsLent isOwlsLent_0) rfl ?_
    refine x_getR (pc := 54) (x := 38) g hW dX11_sentence_54 fl_11_398 (sImage isImage_5) rfl ?_
    refine x_aload_n (pc := 57) (i := 0) (a := 0) g dX11_sentence_57 rfl rfl ?_
    refine x_getR (pc := 58) (x := 71) g hW dX11_sentence_58 fl_11_48 (sOwlsLent isOwlsLent_0) rfl ?_
    refine x_Vv (pc := 61) g hW [.ref (xad G 71)] [] (c_Sentence_copyFrom l G hW r3 38 71 isSentence_38 isSentence_71) dX11_sentence_61 ml_11_401 (sSentence isSentence_38) rfl rfl (Nat.le_of_ble_eq_true rfl) ⟨rfl, rfl, Nat.le_of_ble_eq_true rfl, Nat.le_of_ble_eq_true rfl⟩ (fun r4 hr4 => ?_)
    refine x_aload_n (pc := 64) (i := 0) (a := 0) g dX11_sentence_64 rfl rfl ?_
    refine x_getR (pc := 65) (x := 71) g hW dX11_sentence_65 fl_11_48 (sOwlsLent isOwlsLent_0) rfl ?_
    refine x_getI (pc := 68) g hW dX11_sentence_68 fl_11_404 (sSentence isSentence_71) rfl ?_
    exact x_iret (pc := 71) g dX11_sentence_71 rfl (fun _ h => h)
  · refine x_iconst (pc := 40) g dX11_sentence_40 ic_m1 ?_
    refine x_aload_n (pc := 41) (i := 0) (a := 0) g dX11_sentence_41 rfl rfl ?_
    refine x_getR (pc := 42) (x := 3) g hW dX11_sentence_42 fl_11_23 (sOwlsLent isOwlsLent_0) rfl ?_
    refine x_getI (pc := 45) g hW dX11_sentence_45 fl_11_131 (sTokens isTokens_3) rfl ?_
    refine x_isub (pc := 48) g dX11_sentence_48 ?_
    exact x_iret (pc := 49) g dX11_sentence_49 rfl (fun _ h => h)
theorem c_O_sentence (l : Launch) (G : xG) (hW : WC G) (m : xMem) : xCim l G yX11_sentence cX11_sentence 1 (some .int) rm_O_sentence [.ref (xad G 0)] m (O_sentence m) :=
  xCt_of (own := RX11) (by decide) rfl (Nat.le_of_ble_eq_true rfl) rfl ⟨rfl, rfl⟩ (fun E g => T_O_sentence hW g m)
theorem T_O_said_b33 {l : Launch} {G : xG} {E : xE} (hW : WC G) (g : xGood E l G.1 RX11 cX11_said yX11_said 5 (some .int) rm_O_said) (p0 : Int32) : ∀ (n : Nat) (v3 : Int32) (v4 : Int32) (m : xMem), X E G (fun r : Int32 × xMem => (some (Value.int r.1), r.2)) 33 [(0, .ref (xad G 0)), (1, .int p0), (2, .ref (xad G 6)), (3, .int v3), (4, .int v4)] [] m (O_said_b33 p0 n v3 v4 m) := by
  intro n
  induction n with
  | zero => intro v3 v4 m; exact x_none
  | succ n ih =>
    intro v3 v4 m
    rw [O_said_b33]
    refine x_iload (pc := 33) (a := 4) g dX11_said_33 rfl ?_
    refine x_aload_n (pc := 35) (i := 2) (a := 2) g dX11_said_35 rfl rfl ?_
    refine x_getI (pc := 36) g hW dX11_said_36 fl_11_216 (sHouse isHouse_6) rfl ?_
    refine x_icmp_ge (pc := 39) (t := 82) g dX11_said_39 (by decide) ?_ ?_
    · refine x_aload_n (pc := 42) (i := 0) (a := 0) g dX11_said_42 rfl rfl ?_
      refine x_getR (pc := 43) (x := 5) g hW dX11_said_43 fl_11_30 (sOwlsLent isOwlsLent_0) rfl ?_
      refine x_getR (pc := 46) (x := 38) g hW dX11_said_46 fl_11_398 (sImage isImage_5) rfl ?_
      refine x_aload_n (pc := 49) (i := 2) (a := 2) g dX11_said_49 rfl rfl ?_
      refine x_aload_n (pc := 50) (i := 0) (a := 0) g dX11_said_50 rfl rfl ?_
      refine x_getR (pc := 51) (x := 5) g hW dX11_said_51 fl_11_30 (sOwlsLent isOwlsLent_0) rfl ?_
      refine x_getR (pc := 54) (x := 33) g hW dX11_said_54 fl_11_147 (sImage isImage_5) rfl ?_
      refine x_iload (pc := 57) (a := 4) g dX11_said_57 rfl ?_
      refine x_Vim (pc := 59) g hW [.ref (xad G 6), .ref (xad G 33), .int v4] [] (c_Sentence_holds l G hW m 38 6 33 v4 isSentence_38 isHouse_6 isState_33) dX11_said_59 ml_11_410 (sSentence isSentence_38) rfl rfl (Nat.le_of_ble_eq_true rfl) ⟨rfl, rfl, Nat.le_of_ble_eq_true rfl, Nat.le_of_ble_eq_true rfl⟩ (fun r1 hr1 => ?_)
      refine x_if_eq (pc := 62) (t := 76) g dX11_said_62 (by decide) ?_ ?_
      · refine x_iinc (pc := 76) (a := 4) (lv' := [(4, .int (v4 + 1)), (0, .ref (xad G 0)), (1, .int p0), (2, .ref (xad G 6)), (3, .int v3)]) g dX11_said_76 ic_1 rfl (by decide) rfl ?_
        refine x_goto (pc := 79) (t := 33) g dX11_said_79 (by decide) ?_
        exact x_sub [1, 2, 3, 4, 0] (ih v3 (v4 + 1) r1.2) rfl
      · refine x_iload_n (pc := 65) (i := 3) (a := 3) g dX11_said_65 rfl rfl ?_
        refine x_iload_n (pc := 66) (i := 1) (a := 1) g dX11_said_66 rfl rfl ?_
        refine x_icmp_ne (pc := 67) (t := 73) g dX11_said_67 (by decide) ?_ ?_
        · refine x_iload (pc := 70) (a := 4) g dX11_said_70 rfl ?_
          exact x_iret (pc := 72) g dX11_said_72 rfl (fun _ h => h)
        · refine x_iinc (pc := 73) (a := 3) (lv' := [(3, .int (v3 + 1)), (0, .ref (xad G 0)), (1, .int p0), (2, .ref (xad G 6)), (4, .int v4)]) g dX11_said_73 ic_1 rfl (by decide) rfl ?_
          refine x_iinc (pc := 76) (a := 4) (lv' := [(4, .int (v4 + 1)), (3, .int (v3 + 1)), (0, .ref (xad G 0)), (1, .int p0), (2, .ref (xad G 6))]) g dX11_said_76 ic_1 rfl (by decide) rfl ?_
          refine x_goto (pc := 79) (t := 33) g dX11_said_79 (by decide) ?_
          exact x_sub [2, 3, 4, 1, 0] (ih (v3 + 1) (v4 + 1) r1.2) rfl
    · refine x_iload_n (pc := 82) (i := 1) (a := 1) g dX11_said_82 rfl rfl ?_
      refine x_iconst (pc := 83) g dX11_said_83 ic_m1 ?_
      refine x_icmp_ne (pc := 84) (t := 91) g dX11_said_84 (by decide) ?_ ?_
      · refine x_iload_n (pc := 87) (i := 3) (a := 3) g dX11_said_87 rfl rfl ?_
        refine x_goto (pc := 88) (t := 92) g dX11_said_88 (by decide) ?_
        exact x_iret (pc := 92) g dX11_said_92 rfl (fun _ h => h)
      · refine x_iconst (pc := 91) g dX11_said_91 ic_m1 ?_
        exact x_iret (pc := 92) g dX11_said_92 rfl (fun _ h => h)
theorem T_O_said {l : Launch} {G : xG} {E : xE} (hW : WC G) (g : xGood E l G.1 RX11 cX11_said yX11_said 5 (some .int) rm_O_said) (m : xMem) (p0 : Int32) : X E G (fun r : Int32 × xMem => (some (Value.int r.1), r.2)) 0 [(0, .ref (xad G 0)), (1, .int p0)] [] m (O_said m p0) := by
  unfold O_said
  refine x_aload_n (pc := 0) (i := 0) (a := 0) g dX11_said_0 rfl rfl ?_
  refine x_getR (pc := 1) (x := 5) g hW dX11_said_1 fl_11_30 (sOwlsLent isOwlsLent_0) rfl ?_
  refine x_getR (pc := 4) (x := 6) g hW dX11_said_4 fl_11_144 (sImage isImage_5) rfl ?_
  refine x_astore_n (pc := 7) (i := 2) (lv' := [(2, .ref (xad G 6)), (0, .ref (xad G 0)), (1, .int p0)]) g dX11_said_7 rfl (by decide) rfl ?_
  refine x_aload_n (pc := 8) (i := 0) (a := 1) g dX11_said_8 rfl rfl ?_
  refine x_getR (pc := 9) (x := 5) g hW dX11_said_9 fl_11_30 (sOwlsLent isOwlsLent_0) rfl ?_
  refine x_getR (pc := 12) (x := 38) g hW dX11_said_12 fl_11_398 (sImage isImage_5) rfl ?_
  refine x_getI (pc := 15) g hW dX11_said_15 fl_11_407 (sSentence isSentence_38) rfl ?_
  refine x_if_eq (pc := 18) (t := 26) g dX11_said_18 (by decide) ?_ ?_
  · refine x_iconst (pc := 26) g dX11_said_26 ic_m1 ?_
    exact x_iret (pc := 27) g dX11_said_27 rfl (fun _ h => h)
  · refine x_iload_n (pc := 21) (i := 1) (a := 2) g dX11_said_21 rfl rfl ?_
    refine x_iconst (pc := 22) g dX11_said_22 ic_m1 ?_
    refine x_icmp_ge (pc := 23) (t := 28) g dX11_said_23 (by decide) ?_ ?_
    · refine x_iconst (pc := 26) g dX11_said_26 ic_m1 ?_
      exact x_iret (pc := 27) g dX11_said_27 rfl (fun _ h => h)
    · refine x_iconst (pc := 28) g dX11_said_28 ic_0 ?_
      refine x_istore_n (pc := 29) (i := 3) (lv' := [(3, .int 0), (2, .ref (xad G 6)), (0, .ref (xad G 0)), (1, .int p0)]) g dX11_said_29 rfl (by decide) rfl ?_
      refine x_iconst (pc := 30) g dX11_said_30 ic_0 ?_
      refine x_istore (pc := 31) (lv' := [(4, .int 0), (3, .int 0), (2, .ref (xad G 6)), (0, .ref (xad G 0)), (1, .int p0)]) g dX11_said_31 (by decide) rfl ?_
      exact x_sub [3, 4, 2, 1, 0] (T_O_said_b33 hW g p0 1000 0 0 m) rfl
theorem c_O_said (l : Launch) (G : xG) (hW : WC G) (m : xMem) (p0 : Int32) : xCim l G yX11_said cX11_said 5 (some .int) rm_O_said [.ref (xad G 0), .int p0] m (O_said m p0) :=
  xCt_of (own := RX11) (by decide) rfl (Nat.le_of_ble_eq_true rfl) rfl ⟨rfl, rfl⟩ (fun E g => T_O_said hW g m p0)
theorem T_O_image {l : Launch} {G : xG} {E : xE} (hW : WC G) (g : xGood E l G.1 RX11 cX11_image yX11_image 2 (some .boolean) rm_O_image) (m : xMem) (p0 : Int32) : X E G (fun r : Int32 × xMem => (some (Value.int r.1), r.2)) 0 [(0, .ref (xad G 0)), (1, .int p0)] [] m (O_image m p0) := by
  unfold O_image
  refine x_iload_n (pc := 0) (i := 1) (a := 1) g dX11_image_0 rfl rfl ?_
  refine x_if_lt (pc := 1) (t := 13) g dX11_image_1 (by decide) ?_ ?_
  · refine x_iconst (pc := 13) g dX11_image_13 ic_0 ?_
    exact x_zretc (pc := 14) g dX11_image_14 rfl (Or.inl rfl) (fun _ h => h)
  · refine x_iload_n (pc := 4) (i := 1) (a := 1) g dX11_image_4 rfl rfl ?_
    refine x_aload_n (pc := 5) (i := 0) (a := 0) g dX11_image_5 rfl rfl ?_
    refine x_getR (pc := 6) (x := 43) g hW dX11_image_6 fl_11_34 (sOwlsLent isOwlsLent_0) rfl ?_
    refine x_alen (pc := 9) g hW dX11_image_9 (sOwlsLent_kept isOwlsLent_0) (by decide) al_2 ?_
    refine x_icmp_lt (pc := 10) (t := 15) g dX11_image_10 (by decide) ?_ ?_
    · refine x_aload_n (pc := 15) (i := 0) (a := 0) g dX11_image_15 rfl rfl ?_
      refine x_getR (pc := 16) (x := 43) g hW dX11_image_16 fl_11_34 (sOwlsLent isOwlsLent_0) rfl ?_
      refine x_iload_n (pc := 19) (i := 1) (a := 1) g dX11_image_19 rfl rfl ?_
      refine x_aald5 (pc := 20) (r := fun j => 184 + 38 * j) g hW dX11_image_20 (sOwlsLent_kept isOwlsLent_0) sOwlsLent_keptG (fun j1 hj1 => ?_)
      refine x_aload_n (pc := 21) (i := 0) (a := 0) g dX11_image_21 rfl rfl ?_
      refine x_getR (pc := 22) (x := 5) g hW dX11_image_22 fl_11_30 (sOwlsLent isOwlsLent_0) rfl ?_
      refine x_Vv (pc := 25) g hW [.ref (xad G 5)] [] (c_Image_copyFrom l G hW m (184 + 38 * j1) 5 (sOwlsLent_keptI isOwlsLent_0 hj1) isImage_5) dX11_image_25 ml_11_414 (sImage (sOwlsLent_keptI isOwlsLent_0 hj1)) rfl rfl (Nat.le_of_ble_eq_true rfl) ⟨rfl, rfl, Nat.le_of_ble_eq_true rfl, Nat.le_of_ble_eq_true rfl⟩ (fun r2 hr2 => ?_)
      refine x_iconst (pc := 28) g dX11_image_28 ic_1 ?_
      exact x_zretc (pc := 29) g dX11_image_29 rfl (Or.inr rfl) (fun _ h => h)
    · refine x_iconst (pc := 13) g dX11_image_13 ic_0 ?_
      exact x_zretc (pc := 14) g dX11_image_14 rfl (Or.inl rfl) (fun _ h => h)
theorem c_O_image (l : Launch) (G : xG) (hW : WC G) (m : xMem) (p0 : Int32) : xCim l G yX11_image cX11_image 2 (some .boolean) rm_O_image [.ref (xad G 0), .int p0] m (O_image m p0) :=
  xCt_of (own := RX11) (by decide) rfl (Nat.le_of_ble_eq_true rfl) rfl ⟨rfl, rfl⟩ (fun E g => T_O_image hW g m p0)
theorem T_O_restore {l : Launch} {G : xG} {E : xE} (hW : WC G) (g : xGood E l G.1 RX11 cX11_restore yX11_restore 2 (some .boolean) rm_O_restore) (m : xMem) (p0 : Int32) : X E G (fun r : Int32 × xMem => (some (Value.int r.1), r.2)) 0 [(0, .ref (xad G 0)), (1, .int p0)] [] m (O_restore m p0) := by
  unfold O_restore
  refine x_iload_n (pc := 0) (i := 1) (a := 1) g dX11_restore_0 rfl rfl ?_
  refine x_if_lt (pc := 1) (t := 25) g dX11_restore_1 (by decide) ?_ ?_
  · refine x_iconst (pc := 25) g dX11_restore_25 ic_0 ?_
    exact x_zretc (pc := 26) g dX11_restore_26 rfl (Or.inl rfl) (fun _ h => h)
  · refine x_iload_n (pc := 4) (i := 1) (a := 1) g dX11_restore_4 rfl rfl ?_
    refine x_aload_n (pc := 5) (i := 0) (a := 0) g dX11_restore_5 rfl rfl ?_
    refine x_getR (pc := 6) (x := 43) g hW dX11_restore_6 fl_11_34 (sOwlsLent isOwlsLent_0) rfl ?_
    refine x_alen (pc := 9) g hW dX11_restore_9 (sOwlsLent_kept isOwlsLent_0) (by decide) al_2 ?_
    refine x_icmp_ge (pc := 10) (t := 25) g dX11_restore_10 (by decide) ?_ ?_
    · refine x_aload_n (pc := 13) (i := 0) (a := 0) g dX11_restore_13 rfl rfl ?_
      refine x_getR (pc := 14) (x := 43) g hW dX11_restore_14 fl_11_34 (sOwlsLent isOwlsLent_0) rfl ?_
      refine x_iload_n (pc := 17) (i := 1) (a := 1) g dX11_restore_17 rfl rfl ?_
      refine x_aald5 (pc := 18) (r := fun j => 184 + 38 * j) g hW dX11_restore_18 (sOwlsLent_kept isOwlsLent_0) sOwlsLent_keptG (fun j1 hj1 => ?_)
      refine x_getI (pc := 19) g hW dX11_restore_19 fl_11_417 (sImage (sOwlsLent_keptI isOwlsLent_0 hj1)) rfl ?_
      refine x_if_ne (pc := 22) (t := 27) g dX11_restore_22 (by decide) ?_ ?_
      · refine x_iconst (pc := 25) g dX11_restore_25 ic_0 ?_
        exact x_zretc (pc := 26) g dX11_restore_26 rfl (Or.inl rfl) (fun _ h => h)
      · refine x_aload_n (pc := 27) (i := 0) (a := 0) g dX11_restore_27 rfl rfl ?_
        refine x_getR (pc := 28) (x := 5) g hW dX11_restore_28 fl_11_30 (sOwlsLent isOwlsLent_0) rfl ?_
        refine x_aload_n (pc := 31) (i := 0) (a := 0) g dX11_restore_31 rfl rfl ?_
        refine x_getR (pc := 32) (x := 43) g hW dX11_restore_32 fl_11_34 (sOwlsLent isOwlsLent_0) rfl ?_
        refine x_iload_n (pc := 35) (i := 1) (a := 1) g dX11_restore_35 rfl rfl ?_
        refine x_aald5 (pc := 36) (r := fun j => 184 + 38 * j) g hW dX11_restore_36 (sOwlsLent_kept isOwlsLent_0) sOwlsLent_keptG (fun j2 hj2 => ?_)
        refine x_Vv (pc := 37) g hW [.ref (xad G (184 + 38 * j2))] [] (c_Image_copyFrom l G hW m 5 (184 + 38 * j2) isImage_5 (sOwlsLent_keptI isOwlsLent_0 hj2)) dX11_restore_37 ml_11_414 (sImage isImage_5) rfl rfl (Nat.le_of_ble_eq_true rfl) ⟨rfl, rfl, Nat.le_of_ble_eq_true rfl, Nat.le_of_ble_eq_true rfl⟩ (fun r3 hr3 => ?_)
        refine x_aload_n (pc := 40) (i := 0) (a := 0) g dX11_restore_40 rfl rfl ?_
        refine x_getR (pc := 41) (x := 123) g hW dX11_restore_41 fl_11_69 (sOwlsLent isOwlsLent_0) rfl ?_
        refine x_Vv (pc := 44) g hW [] [] (c_Undo_forget l G hW r3) dX11_restore_44 ml_11_138 (sUndo isUndo_123) rfl rfl (Nat.le_of_ble_eq_true rfl) ⟨rfl, rfl, Nat.le_of_ble_eq_true rfl, Nat.le_of_ble_eq_true rfl⟩ (fun r4 hr4 => ?_)
        refine x_iconst (pc := 47) g dX11_restore_47 ic_1 ?_
        exact x_zretc (pc := 48) g dX11_restore_48 rfl (Or.inr rfl) (fun _ h => h)
    · refine x_iconst (pc := 25) g dX11_restore_25 ic_0 ?_
      exact x_zretc (pc := 26) g dX11_restore_26 rfl (Or.inl rfl) (fun _ h => h)
theorem c_O_restore (l : Launch) (G : xG) (hW : WC G) (m : xMem) (p0 : Int32) : xCim l G yX11_restore cX11_restore 2 (some .boolean) rm_O_restore [.ref (xad G 0), .int p0] m (O_restore m p0) :=
  xCt_of (own := RX11) (by decide) rfl (Nat.le_of_ble_eq_true rfl) rfl ⟨rfl, rfl⟩ (fun E g => T_O_restore hW g m p0)
