theorem T_House_within {l : Launch} {G : xG} {E : xE} (hW : WC G) (g : xGood E l G.1 RX2 cX2_within yX2_within 4 (some .boolean) rm_House_within) (m : xMem) (p0 : Int32) (p1 : Int32) (p2 : Int32) : X E G (fun r : Int32 => (some (Value.int r), m)) 0 [(0, .int p0), (1, .int p1), (2, .int p2)] [] m (House_within m p0 p1 p2) := by
  unfold House_within
  refine x_iload_n (pc := 0) (i := 2) (a := 2) g dX2_within_0 rfl rfl ?_
  refine x_bipush (pc := 1) g dX2_within_1 bi_24 ?_
  refine x_irem (pc := 3) g dX2_within_3 (by decide) ?_
  refine x_nmI (fun x1 => ?_)
  refine x_istore_n (pc := 4) (i := 3) (lv' := [(3, .int x1), (0, .int p0), (1, .int p1), (2, .int p2)]) g dX2_within_4 rfl (by decide) rfl ?_
  refine x_iload_n (pc := 5) (i := 0) (a := 1) g dX2_within_5 rfl rfl ?_
  refine x_iload_n (pc := 6) (i := 1) (a := 2) g dX2_within_6 rfl rfl ?_
  refine x_icmp_gt (pc := 7) (t := 28) g dX2_within_7 (by decide) ?_ ?_
  · refine x_iload_n (pc := 28) (i := 3) (a := 0) g dX2_within_28 rfl rfl ?_
    refine x_iload_n (pc := 29) (i := 0) (a := 1) g dX2_within_29 rfl rfl ?_
    refine x_icmp_ge (pc := 30) (t := 38) g dX2_within_30 (by decide) ?_ ?_
    · refine x_iload_n (pc := 33) (i := 3) (a := 0) g dX2_within_33 rfl rfl ?_
      refine x_iload_n (pc := 34) (i := 1) (a := 2) g dX2_within_34 rfl rfl ?_
      refine x_icmp_gt (pc := 35) (t := 42) g dX2_within_35 (by decide) ?_ ?_
      · refine x_iconst (pc := 42) g dX2_within_42 ic_0 ?_
        exact x_zretc (pc := 43) g dX2_within_43 rfl (Or.inl rfl) (fun _ h => h)
      · refine x_iconst (pc := 38) g dX2_within_38 ic_1 ?_
        refine x_goto (pc := 39) (t := 43) g dX2_within_39 (by decide) ?_
        exact x_zretc (pc := 43) g dX2_within_43 rfl (Or.inr rfl) (fun _ h => h)
    · refine x_iconst (pc := 38) g dX2_within_38 ic_1 ?_
      refine x_goto (pc := 39) (t := 43) g dX2_within_39 (by decide) ?_
      exact x_zretc (pc := 43) g dX2_within_43 rfl (Or.inr rfl) (fun _ h => h)
  · refine x_iload_n (pc := 10) (i := 3) (a := 0) g dX2_within_10 rfl rfl ?_
    refine x_iload_n (pc := 11) (i := 0) (a := 1) g dX2_within_11 rfl rfl ?_
    refine x_icmp_lt (pc := 12) (t := 24) g dX2_within_12 (by decide) ?_ ?_
    · refine x_iconst (pc := 24) g dX2_within_24 ic_0 ?_
      refine x_goto (pc := 25) (t := 43) g dX2_within_25 (by decide) ?_
      exact x_zretc (pc := 43) g dX2_within_43 rfl (Or.inl rfl) (fun _ h => h)
    · refine x_iload_n (pc := 15) (i := 3) (a := 0) g dX2_within_15 rfl rfl ?_
      refine x_iload_n (pc := 16) (i := 1) (a := 2) g dX2_within_16 rfl rfl ?_
      refine x_icmp_gt (pc := 17) (t := 24) g dX2_within_17 (by decide) ?_ ?_
      · refine x_iconst (pc := 24) g dX2_within_24 ic_0 ?_
        refine x_goto (pc := 25) (t := 43) g dX2_within_25 (by decide) ?_
        exact x_zretc (pc := 43) g dX2_within_43 rfl (Or.inl rfl) (fun _ h => h)
      · refine x_iconst (pc := 20) g dX2_within_20 ic_1 ?_
        refine x_goto (pc := 21) (t := 43) g dX2_within_21 (by decide) ?_
        exact x_zretc (pc := 43) g dX2_within_43 rfl (Or.inr rfl) (fun _ h => h)
theorem c_House_within (l : Launch) (G : xG) (hW : WC G) (m : xMem) (p0 : Int32) (p1 : Int32) (p2 : Int32) : xCi l G yX2_within cX2_within 4 (some .boolean) rm_House_within [.int p0, .int p1, .int p2] m (House_within m p0 p1 p2) :=
  xCt_of (own := RX2) (by decide) rfl (Nat.le_of_ble_eq_true rfl) rfl ⟨rfl, rfl⟩ (fun E g => T_House_within hW g m p0 p1 p2)
theorem T_House_shutAt {l : Launch} {G : xG} {E : xE} (hW : WC G) (g : xGood E l G.1 RX2 cX2_shutAt yX2_shutAt 2 (some .boolean) rm_House_shutAt) (m : xMem) (o : Nat) (p0 : Int32) (ho : isHouse o) : X E G (fun r : Int32 => (some (Value.int r), m)) 0 [(0, .ref (xad G o)), (1, .int p0)] [] m (House_shutAt m o p0) := by
  unfold House_shutAt
  refine x_aload_n (pc := 0) (i := 0) (a := 0) g dX2_shutAt_0 rfl rfl ?_
  refine x_getI (pc := 1) g hW dX2_shutAt_1 fl_2_18 (sHouse ho) rfl ?_
  refine x_aload_n (pc := 4) (i := 0) (a := 0) g dX2_shutAt_4 rfl rfl ?_
  refine x_getI (pc := 5) g hW dX2_shutAt_5 fl_2_21 (sHouse ho) rfl ?_
  refine x_iload_n (pc := 8) (i := 1) (a := 1) g dX2_shutAt_8 rfl rfl ?_
  refine x_Si (pc := 9) g [.int (m.1 o 2), .int (m.1 o 3), .int p0] [] (c_House_within l G hW m (m.1 o 2) (m.1 o 3) p0) dX2_shutAt_9 ms_2_83 rfl rfl (Nat.le_of_ble_eq_true rfl) ⟨rfl, rfl, Nat.le_of_ble_eq_true rfl, Nat.le_of_ble_eq_true rfl⟩ (fun r1 hr1 => ?_)
  exact x_zret (pc := 12) g dX2_shutAt_12 rfl (fun _ _ h => h)
theorem c_House_shutAt (l : Launch) (G : xG) (hW : WC G) (m : xMem) (o : Nat) (p0 : Int32) (ho : isHouse o) : xCi l G yX2_shutAt cX2_shutAt 2 (some .boolean) rm_House_shutAt [.ref (xad G o), .int p0] m (House_shutAt m o p0) :=
  xCt_of (own := RX2) (by decide) rfl (Nat.le_of_ble_eq_true rfl) rfl ⟨rfl, rfl⟩ (fun E g => T_House_shutAt hW g m o p0 ho)
theorem T_State_onBits_b27 {l : Launch} {G : xG} {E : xE} (hW : WC G) (g : xGood E l G.1 RX7 cX7_onBits yX7_onBits 6 (some .int) rm_State_onBits) (m : xMem) (o : Nat) (p0 : Nat) (p1 : Int32) (ho : isState o) (hp0 : isHouse p0) : ∀ (n : Nat) (v3 : Int32) (v4 : Int32), X E G (fun r : Int32 => (some (Value.int r), m)) 27 [(0, .ref (xad G o)), (1, .ref (xad G p0)), (2, .int p1), (3, .int v3), (4, .int v4)] [] m (State_onBits_b27 m o p0 p1 n v3 v4) := by
  intro n
  induction n with
  | zero => intro v3 v4; exact x_none
  | succ n ih =>
    intro v3 v4
    rw [State_onBits_b27]
    refine x_iload (pc := 27) (a := 4) g dX7_onBits_27 rfl ?_
    refine x_aload_n (pc := 29) (i := 1) (a := 1) g dX7_onBits_29 rfl rfl ?_
    refine x_getI (pc := 30) g hW dX7_onBits_30 fl_7_56 (sHouse hp0) rfl ?_
    refine x_icmp_ge (pc := 33) (t := 90) g dX7_onBits_33 (by decide) ?_ ?_
    · refine x_aload_n (pc := 36) (i := 1) (a := 1) g dX7_onBits_36 rfl rfl ?_
      refine x_getR (pc := 37) (x := p0 + 18) g hW dX7_onBits_37 fl_7_53 (sHouse hp0) rfl ?_
      refine x_iload (pc := 40) (a := 4) g dX7_onBits_40 rfl ?_
      refine x_aald4 (pc := 42) (r := fun j => p0 + 19 + j) g hW dX7_onBits_42 (sHouse_soundRow hp0) (fun j h => rowsL_get h) (fun j2 hj2 => ?_)
      refine x_astore (pc := 43) (lv' := [(5, .ref (xad G (p0 + 19 + j2))), (0, .ref (xad G o)), (1, .ref (xad G p0)), (2, .int p1), (3, .int v3), (4, .int v4)]) g dX7_onBits_43 (by decide) rfl ?_
      refine x_aload_n (pc := 45) (i := 0) (a := 1) g dX7_onBits_45 rfl rfl ?_
      refine x_getI (pc := 46) g hW dX7_onBits_46 fl_7_15 (sState ho) rfl ?_
      refine x_iload (pc := 49) (a := 5) g dX7_onBits_49 rfl ?_
      refine x_ishr (pc := 51) g dX7_onBits_51 ?_
      refine x_iconst (pc := 52) g dX7_onBits_52 ic_1 ?_
      refine x_iand (pc := 53) g dX7_onBits_53 ?_
      refine x_if_ne (pc := 54) (t := 84) g dX7_onBits_54 (by decide) ?_ ?_
      · refine x_aload (pc := 57) (a := 0) g dX7_onBits_57 rfl ?_
        refine x_iconst (pc := 59) g dX7_onBits_59 ic_4 ?_
        refine x_ialdc (pc := 60) g hW dX7_onBits_60 (sHouse_soundRowR hp0 hj2) ix_4_6 ?_
        refine x_aload (pc := 61) (a := 0) g dX7_onBits_61 rfl ?_
        refine x_iconst (pc := 63) g dX7_onBits_63 ic_5 ?_
        refine x_ialdc (pc := 64) g hW dX7_onBits_64 (sHouse_soundRowR hp0 hj2) ix_5_6 ?_
        refine x_aload_n (pc := 65) (i := 0) (a := 1) g dX7_onBits_65 rfl rfl ?_
        refine x_getI (pc := 66) g hW dX7_onBits_66 fl_7_9 (sState ho) rfl ?_
        refine x_iload_n (pc := 69) (i := 2) (a := 3) g dX7_onBits_69 rfl rfl ?_
        refine x_iadd (pc := 70) g dX7_onBits_70 ?_
        refine x_Si (pc := 71) g [.int (m.1 (p0 + 19 + j2) 4), .int (m.1 (p0 + 19 + j2) 5), .int ((m.1 o 0) + p1)] [] (c_House_within l G hW m (m.1 (p0 + 19 + j2) 4) (m.1 (p0 + 19 + j2) 5) ((m.1 o 0) + p1)) dX7_onBits_71 ms_7_59 rfl rfl (Nat.le_of_ble_eq_true rfl) ⟨rfl, rfl, Nat.le_of_ble_eq_true rfl, Nat.le_of_ble_eq_true rfl⟩ (fun r3 hr3 => ?_)
        refine x_if_eq (pc := 74) (t := 84) g dX7_onBits_74 (by decide) ?_ ?_
        · refine x_iinc (pc := 84) (a := 5) (lv' := [(4, .int (v4 + 1)), (5, .ref (xad G (p0 + 19 + j2))), (0, .ref (xad G o)), (1, .ref (xad G p0)), (2, .int p1), (3, .int v3)]) g dX7_onBits_84 ic_1 rfl (by decide) rfl ?_
          refine x_goto (pc := 87) (t := 27) g dX7_onBits_87 (by decide) ?_
          exact x_sub [2, 3, 4, 5, 0] (ih v3 (v4 + 1)) rfl
        · refine x_iload_n (pc := 77) (i := 3) (a := 4) g dX7_onBits_77 rfl rfl ?_
          refine x_iconst (pc := 78) g dX7_onBits_78 ic_1 ?_
          refine x_iload (pc := 79) (a := 5) g dX7_onBits_79 rfl ?_
          refine x_ishl (pc := 81) g dX7_onBits_81 ?_
          refine x_ior (pc := 82) g dX7_onBits_82 ?_
          refine x_nmI (fun x4 => ?_)
          refine x_istore_n (pc := 83) (i := 3) (lv' := [(3, .int x4), (5, .ref (xad G (p0 + 19 + j2))), (0, .ref (xad G o)), (1, .ref (xad G p0)), (2, .int p1), (4, .int v4)]) g dX7_onBits_83 rfl (by decide) rfl ?_
          refine x_iinc (pc := 84) (a := 5) (lv' := [(4, .int (v4 + 1)), (3, .int x4), (5, .ref (xad G (p0 + 19 + j2))), (0, .ref (xad G o)), (1, .ref (xad G p0)), (2, .int p1)]) g dX7_onBits_84 ic_1 rfl (by decide) rfl ?_
          refine x_goto (pc := 87) (t := 27) g dX7_onBits_87 (by decide) ?_
          exact x_sub [3, 4, 5, 1, 0] (ih x4 (v4 + 1)) rfl
      · refine x_iinc (pc := 84) (a := 5) (lv' := [(4, .int (v4 + 1)), (5, .ref (xad G (p0 + 19 + j2))), (0, .ref (xad G o)), (1, .ref (xad G p0)), (2, .int p1), (3, .int v3)]) g dX7_onBits_84 ic_1 rfl (by decide) rfl ?_
        refine x_goto (pc := 87) (t := 27) g dX7_onBits_87 (by decide) ?_
        exact x_sub [2, 3, 4, 5, 0] (ih v3 (v4 + 1)) rfl
    · refine x_iload_n (pc := 90) (i := 3) (a := 3) g dX7_onBits_90 rfl rfl ?_
      exact x_iret (pc := 91) g dX7_onBits_91 rfl (fun _ h => h)
theorem T_State_onBits {l : Launch} {G : xG} {E : xE} (hW : WC G) (g : xGood E l G.1 RX7 cX7_onBits yX7_onBits 6 (some .int) rm_State_onBits) (m : xMem) (o : Nat) (p0 : Nat) (p1 : Int32) (ho : isState o) (hp0 : isHouse p0) : X E G (fun r : Int32 => (some (Value.int r), m)) 0 [(0, .ref (xad G o)), (1, .ref (xad G p0)), (2, .int p1)] [] m (State_onBits m o p0 p1) := by
  unfold State_onBits
  refine x_iload_n (pc := 0) (i := 2) (a := 2) g dX7_onBits_0 rfl rfl ?_
  refine x_if_ne (pc := 1) (t := 22) g dX7_onBits_1 (by decide) ?_ ?_
  · refine x_aload_n (pc := 4) (i := 0) (a := 0) g dX7_onBits_4 rfl rfl ?_
    refine x_getR (pc := 5) (x := o + 1) g hW dX7_onBits_5 fl_7_21 (sState ho) rfl ?_
    refine x_iconst (pc := 8) g dX7_onBits_8 ic_3 ?_
    refine x_ialdc (pc := 9) g hW dX7_onBits_9 (sState_shoutRow ho) ix_3_4 ?_
    refine x_if_le (pc := 10) (t := 22) g dX7_onBits_10 (by decide) ?_ ?_
    · refine x_iconst (pc := 13) g dX7_onBits_13 ic_1 ?_
      refine x_aload_n (pc := 14) (i := 1) (a := 1) g dX7_onBits_14 rfl rfl ?_
      refine x_getI (pc := 15) g hW dX7_onBits_15 fl_7_56 (sHouse hp0) rfl ?_
      refine x_ishl (pc := 18) g dX7_onBits_18 ?_
      refine x_goto (pc := 19) (t := 23) g dX7_onBits_19 (by decide) ?_
      refine x_nmI (fun x1 => ?_)
      refine x_istore_n (pc := 23) (i := 3) (lv' := [(3, .int x1), (0, .ref (xad G o)), (1, .ref (xad G p0)), (2, .int p1)]) g dX7_onBits_23 rfl (by decide) rfl ?_
      refine x_iconst (pc := 24) g dX7_onBits_24 ic_0 ?_
      refine x_istore (pc := 25) (lv' := [(4, .int 0), (3, .int x1), (0, .ref (xad G o)), (1, .ref (xad G p0)), (2, .int p1)]) g dX7_onBits_25 (by decide) rfl ?_
      exact x_sub [2, 3, 4, 1, 0] (T_State_onBits_b27 hW g m o p0 p1 ho hp0 1000 x1 0) rfl
    · refine x_iconst (pc := 22) g dX7_onBits_22 ic_0 ?_
      refine x_istore_n (pc := 23) (i := 3) (lv' := [(3, .int 0), (0, .ref (xad G o)), (1, .ref (xad G p0)), (2, .int p1)]) g dX7_onBits_23 rfl (by decide) rfl ?_
      refine x_iconst (pc := 24) g dX7_onBits_24 ic_0 ?_
      refine x_istore (pc := 25) (lv' := [(4, .int 0), (3, .int 0), (0, .ref (xad G o)), (1, .ref (xad G p0)), (2, .int p1)]) g dX7_onBits_25 (by decide) rfl ?_
      exact x_sub [2, 3, 4, 1, 0] (T_State_onBits_b27 hW g m o p0 p1 ho hp0 1000 0 0) rfl
  · refine x_iconst (pc := 22) g dX7_onBits_22 ic_0 ?_
    refine x_istore_n (pc := 23) (i := 3) (lv' := [(3, .int 0), (0, .ref (xad G o)), (1, .ref (xad G p0)), (2, .int p1)]) g dX7_onBits_23 rfl (by decide) rfl ?_
    refine x_iconst (pc := 24) g dX7_onBits_24 ic_0 ?_
    refine x_istore (pc := 25) (lv' := [(4, .int 0), (3, .int 0), (0, .ref (xad G o)), (1, .ref (xad G p0)), (2, .int p1)]) g dX7_onBits_25 (by decide) rfl ?_
    exact x_sub [2, 3, 4, 1, 0] (T_State_onBits_b27 hW g m o p0 p1 ho hp0 1000 0 0) rfl
theorem c_State_onBits (l : Launch) (G : xG) (hW : WC G) (m : xMem) (o : Nat) (p0 : Nat) (p1 : Int32) (ho : isState o) (hp0 : isHouse p0) : xCi l G yX7_onBits cX7_onBits 6 (some .int) rm_State_onBits [.ref (xad G o), .ref (xad G p0), .int p1] m (State_onBits m o p0 p1) :=
  xCt_of (own := RX7) (by decide) rfl (Nat.le_of_ble_eq_true rfl) rfl ⟨rfl, rfl⟩ (fun E g => T_State_onBits hW g m o p0 p1 ho hp0)
theorem T_House_hasSound {l : Launch} {G : xG} {E : xE} (hW : WC G) (g : xGood E l G.1 RX2 cX2_hasSound yX2_hasSound 2 (some .boolean) rm_House_hasSound) (m : xMem) (o : Nat) (p0 : Int32) (ho : isHouse o) : X E G (fun r : Int32 => (some (Value.int r), m)) 0 [(0, .ref (xad G o)), (1, .int p0)] [] m (House_hasSound m o p0) := by
  unfold House_hasSound
  refine x_iload_n (pc := 0) (i := 1) (a := 1) g dX2_hasSound_0 rfl rfl ?_
  refine x_if_lt (pc := 1) (t := 16) g dX2_hasSound_1 (by decide) ?_ ?_
  · refine x_iconst (pc := 16) g dX2_hasSound_16 ic_0 ?_
    exact x_zretc (pc := 17) g dX2_hasSound_17 rfl (Or.inl rfl) (fun _ h => h)
  · refine x_iload_n (pc := 4) (i := 1) (a := 1) g dX2_hasSound_4 rfl rfl ?_
    refine x_aload_n (pc := 5) (i := 0) (a := 0) g dX2_hasSound_5 rfl rfl ?_
    refine x_getI (pc := 6) g hW dX2_hasSound_6 fl_2_37 (sHouse ho) rfl ?_
    refine x_icmp_ge (pc := 9) (t := 16) g dX2_hasSound_9 (by decide) ?_ ?_
    · refine x_iconst (pc := 12) g dX2_hasSound_12 ic_1 ?_
      refine x_goto (pc := 13) (t := 17) g dX2_hasSound_13 (by decide) ?_
      exact x_zretc (pc := 17) g dX2_hasSound_17 rfl (Or.inr rfl) (fun _ h => h)
    · refine x_iconst (pc := 16) g dX2_hasSound_16 ic_0 ?_
      exact x_zretc (pc := 17) g dX2_hasSound_17 rfl (Or.inl rfl) (fun _ h => h)
theorem c_House_hasSound (l : Launch) (G : xG) (hW : WC G) (m : xMem) (o : Nat) (p0 : Int32) (ho : isHouse o) : xCi l G yX2_hasSound cX2_hasSound 2 (some .boolean) rm_House_hasSound [.ref (xad G o), .int p0] m (House_hasSound m o p0) :=
  xCt_of (own := RX2) (by decide) rfl (Nat.le_of_ble_eq_true rfl) rfl ⟨rfl, rfl⟩ (fun E g => T_House_hasSound hW g m o p0 ho)
theorem T_State_rowOf {l : Launch} {G : xG} {E : xE} (hW : WC G) (g : xGood E l G.1 RX7 cX7_rowOf yX7_rowOf 3 (some (.array .int)) rm_State_rowOf) (m : xMem) (o : Nat) (p0 : Nat) (p1 : Int32) (ho : isState o) (hp0 : isHouse p0) : X E G (fun r : Nat => (some (Value.ref (xad G r)), m)) 0 [(0, .ref (xad G o)), (1, .ref (xad G p0)), (2, .int p1)] [] m (State_rowOf m o p0 p1) := by
  unfold State_rowOf
  refine x_aload_n (pc := 0) (i := 1) (a := 1) g dX7_rowOf_0 rfl rfl ?_
  refine x_iload_n (pc := 1) (i := 2) (a := 2) g dX7_rowOf_1 rfl rfl ?_
  refine x_Vi (pc := 2) g hW [.int p1] [] (c_House_hasSound l G hW m p0 p1 hp0) dX7_rowOf_2 ml_7_49 (sHouse hp0) rfl rfl (Nat.le_of_ble_eq_true rfl) ⟨rfl, rfl, Nat.le_of_ble_eq_true rfl, Nat.le_of_ble_eq_true rfl⟩ (fun r1 hr1 => ?_)
  refine x_if_eq (pc := 5) (t := 17) g dX7_rowOf_5 (by decide) ?_ ?_
  · refine x_aload_n (pc := 17) (i := 0) (a := 0) g dX7_rowOf_17 rfl rfl ?_
    refine x_getR (pc := 18) (x := o + 1) g hW dX7_rowOf_18 fl_7_21 (sState ho) rfl ?_
    exact x_aret (pc := 21) g dX7_rowOf_21 rfl (fun _ h => h)
  · refine x_aload_n (pc := 8) (i := 1) (a := 1) g dX7_rowOf_8 rfl rfl ?_
    refine x_getR (pc := 9) (x := p0 + 18) g hW dX7_rowOf_9 fl_7_53 (sHouse hp0) rfl ?_
    refine x_iload_n (pc := 12) (i := 2) (a := 2) g dX7_rowOf_12 rfl rfl ?_
    refine x_aald4 (pc := 13) (r := fun j => p0 + 19 + j) g hW dX7_rowOf_13 (sHouse_soundRow hp0) (fun j h => rowsL_get h) (fun j2 hj2 => ?_)
    refine x_goto (pc := 14) (t := 21) g dX7_rowOf_14 (by decide) ?_
    exact x_aret (pc := 21) g dX7_rowOf_21 rfl (fun _ h => h)
theorem c_State_rowOf (l : Launch) (G : xG) (hW : WC G) (m : xMem) (o : Nat) (p0 : Nat) (p1 : Int32) (ho : isState o) (hp0 : isHouse p0) : xCn l G yX7_rowOf cX7_rowOf 3 (some (.array .int)) rm_State_rowOf [.ref (xad G o), .ref (xad G p0), .int p1] m (State_rowOf m o p0 p1) :=
  xCt_of (own := RX7) (by decide) rfl (Nat.le_of_ble_eq_true rfl) rfl ⟨rfl, rfl⟩ (fun E g => T_State_rowOf hW g m o p0 p1 ho hp0)
theorem T_House_sideAt_b61 {l : Launch} {G : xG} {E : xE} (hW : WC G) (g : xGood E l G.1 RX2 cX2_sideAt yX2_sideAt 5 (some .int) rm_House_sideAt) (m : xMem) (o : Nat) (p0 : Int32) (p1 : Nat) (ho : isHouse o) {Np1 : Nat} (hp1 : shC p1 = .inr (0, Np1, [])) (h4p1 : 4 ≤ Np1) (v3 : Int32) (v4 : Int32) (s0 : Int32) (s1 : Int32) : X E G (fun r : Int32 => (some (Value.int r), m)) 61 [(3, .int v3), (4, .int v4)] [.int s0, .int s1] m (House_sideAt_b61 m o p0 p1 v3 v4 s0 s1) := by
  unfold House_sideAt_b61
  refine x_icmp_lt (pc := 61) (t := 74) g dX2_sideAt_61 (by decide) ?_ ?_
  · refine x_iload (pc := 74) (a := 1) g dX2_sideAt_74 rfl ?_
    refine x_if_le (pc := 76) (t := 83) g dX2_sideAt_76 (by decide) ?_ ?_
    · refine x_iconst (pc := 79) g dX2_sideAt_79 ic_1 ?_
      refine x_goto (pc := 80) (t := 84) g dX2_sideAt_80 (by decide) ?_
      exact x_iret (pc := 84) g dX2_sideAt_84 rfl (fun _ h => h)
    · refine x_iconst (pc := 83) g dX2_sideAt_83 ic_3 ?_
      exact x_iret (pc := 84) g dX2_sideAt_84 rfl (fun _ h => h)
  · refine x_iload_n (pc := 64) (i := 3) (a := 0) g dX2_sideAt_64 rfl rfl ?_
    refine x_if_le (pc := 65) (t := 72) g dX2_sideAt_65 (by decide) ?_ ?_
    · refine x_iconst (pc := 68) g dX2_sideAt_68 ic_0 ?_
      refine x_goto (pc := 69) (t := 73) g dX2_sideAt_69 (by decide) ?_
      exact x_iret (pc := 73) g dX2_sideAt_73 rfl (fun _ h => h)
    · refine x_iconst (pc := 72) g dX2_sideAt_72 ic_2 ?_
      exact x_iret (pc := 73) g dX2_sideAt_73 rfl (fun _ h => h)
theorem T_House_sideAt_b38 {l : Launch} {G : xG} {E : xE} (hW : WC G) (g : xGood E l G.1 RX2 cX2_sideAt yX2_sideAt 5 (some .int) rm_House_sideAt) (m : xMem) (o : Nat) (p0 : Int32) (p1 : Nat) (ho : isHouse o) {Np1 : Nat} (hp1 : shC p1 = .inr (0, Np1, [])) (h4p1 : 4 ≤ Np1) (v3 : Int32) (v4 : Int32) : X E G (fun r : Int32 => (some (Value.int r), m)) 38 [(3, .int v3), (4, .int v4)] [] m (House_sideAt_b38 m o p0 p1 v3 v4) := by
  unfold House_sideAt_b38
  refine x_iload_n (pc := 38) (i := 3) (a := 0) g dX2_sideAt_38 rfl rfl ?_
  refine x_if_ge (pc := 39) (t := 47) g dX2_sideAt_39 (by decide) ?_ ?_
  · refine x_iload_n (pc := 42) (i := 3) (a := 0) g dX2_sideAt_42 rfl rfl ?_
    refine x_ineg (pc := 43) g dX2_sideAt_43 ?_
    refine x_goto (pc := 44) (t := 48) g dX2_sideAt_44 (by decide) ?_
    refine x_iload (pc := 48) (a := 1) g dX2_sideAt_48 rfl ?_
    refine x_if_ge (pc := 50) (t := 59) g dX2_sideAt_50 (by decide) ?_ ?_
    · refine x_iload (pc := 53) (a := 1) g dX2_sideAt_53 rfl ?_
      refine x_ineg (pc := 55) g dX2_sideAt_55 ?_
      refine x_goto (pc := 56) (t := 61) g dX2_sideAt_56 (by decide) ?_
      exact x_sub [0, 1] (T_House_sideAt_b61 hW g m o p0 p1 ho hp1 h4p1 v3 v4 (-v4) (-v3)) rfl
    · refine x_iload (pc := 59) (a := 1) g dX2_sideAt_59 rfl ?_
      exact x_sub [0, 1] (T_House_sideAt_b61 hW g m o p0 p1 ho hp1 h4p1 v3 v4 v4 (-v3)) rfl
  · refine x_iload_n (pc := 47) (i := 3) (a := 0) g dX2_sideAt_47 rfl rfl ?_
    refine x_iload (pc := 48) (a := 1) g dX2_sideAt_48 rfl ?_
    refine x_if_ge (pc := 50) (t := 59) g dX2_sideAt_50 (by decide) ?_ ?_
    · refine x_iload (pc := 53) (a := 1) g dX2_sideAt_53 rfl ?_
      refine x_ineg (pc := 55) g dX2_sideAt_55 ?_
      refine x_goto (pc := 56) (t := 61) g dX2_sideAt_56 (by decide) ?_
      exact x_sub [0, 1] (T_House_sideAt_b61 hW g m o p0 p1 ho hp1 h4p1 v3 v4 (-v4) v3) rfl
    · refine x_iload (pc := 59) (a := 1) g dX2_sideAt_59 rfl ?_
      exact x_sub [0, 1] (T_House_sideAt_b61 hW g m o p0 p1 ho hp1 h4p1 v3 v4 v4 v3) rfl
theorem T_House_sideAt {l : Launch} {G : xG} {E : xE} (hW : WC G) (g : xGood E l G.1 RX2 cX2_sideAt yX2_sideAt 5 (some .int) rm_House_sideAt) (m : xMem) (o : Nat) (p0 : Int32) (p1 : Nat) (ho : isHouse o) {Np1 : Nat} (hp1 : shC p1 = .inr (0, Np1, [])) (h4p1 : 4 ≤ Np1) : X E G (fun r : Int32 => (some (Value.int r), m)) 0 [(0, .ref (xad G o)), (1, .int p0), (2, .ref (xad G p1))] [] m (House_sideAt m o p0 p1) := by
  unfold House_sideAt
  refine x_aload_n (pc := 0) (i := 2) (a := 2) g dX2_sideAt_0 rfl rfl ?_
  refine x_iconst (pc := 1) g dX2_sideAt_1 ic_1 ?_
  refine x_ialdc (pc := 2) g hW dX2_sideAt_2 (hp1) (ix_src_1 h4p1) ?_
  refine x_aload_n (pc := 3) (i := 0) (a := 0) g dX2_sideAt_3 rfl rfl ?_
  refine x_getR (pc := 4) (x := o + 4) g hW dX2_sideAt_4 fl_2_52 (sHouse ho) rfl ?_
  refine x_iload_n (pc := 7) (i := 1) (a := 1) g dX2_sideAt_7 rfl rfl ?_
  refine x_aald4 (pc := 8) (r := fun j => o + 5 + j) g hW dX2_sideAt_8 (sHouse_bedRow ho) (fun j h => rowsL_get h) (fun j1 hj1 => ?_)
  refine x_iconst (pc := 9) g dX2_sideAt_9 ic_0 ?_
  refine x_ialdc (pc := 10) g hW dX2_sideAt_10 (sHouse_bedRowR ho hj1) ix_0_3 ?_
  refine x_isub (pc := 11) g dX2_sideAt_11 ?_
  refine x_nmI (fun x2 => ?_)
  refine x_istore_n (pc := 12) (i := 3) (lv' := [(3, .int x2), (0, .ref (xad G o)), (1, .int p0), (2, .ref (xad G p1))]) g dX2_sideAt_12 rfl (by decide) rfl ?_
  refine x_aload_n (pc := 13) (i := 2) (a := 3) g dX2_sideAt_13 rfl rfl ?_
  refine x_iconst (pc := 14) g dX2_sideAt_14 ic_2 ?_
  refine x_ialdc (pc := 15) g hW dX2_sideAt_15 (hp1) (ix_src_2 h4p1) ?_
  refine x_aload_n (pc := 16) (i := 0) (a := 1) g dX2_sideAt_16 rfl rfl ?_
  refine x_getR (pc := 17) (x := o + 4) g hW dX2_sideAt_17 fl_2_52 (sHouse ho) rfl ?_
  refine x_iload_n (pc := 20) (i := 1) (a := 2) g dX2_sideAt_20 rfl rfl ?_
  refine x_aald4 (pc := 21) (r := fun j => o + 5 + j) g hW dX2_sideAt_21 (sHouse_bedRow ho) (fun j h => rowsL_get h) (fun j3 hj3 => ?_)
  refine x_iconst (pc := 22) g dX2_sideAt_22 ic_1 ?_
  refine x_ialdc (pc := 23) g hW dX2_sideAt_23 (sHouse_bedRowR ho hj3) ix_1_3 ?_
  refine x_isub (pc := 24) g dX2_sideAt_24 ?_
  refine x_nmI (fun x4 => ?_)
  refine x_istore (pc := 25) (lv' := [(4, .int x4), (3, .int x2), (0, .ref (xad G o)), (1, .int p0), (2, .ref (xad G p1))]) g dX2_sideAt_25 (by decide) rfl ?_
  refine x_iload_n (pc := 27) (i := 3) (a := 1) g dX2_sideAt_27 rfl rfl ?_
  refine x_if_ne (pc := 28) (t := 38) g dX2_sideAt_28 (by decide) ?_ ?_
  · refine x_iload (pc := 31) (a := 0) g dX2_sideAt_31 rfl ?_
    refine x_if_ne (pc := 33) (t := 38) g dX2_sideAt_33 (by decide) ?_ ?_
    · refine x_iconst (pc := 36) g dX2_sideAt_36 ic_4 ?_
      exact x_iret (pc := 37) g dX2_sideAt_37 rfl (fun _ h => h)
    · exact x_sub [1, 0] (T_House_sideAt_b38 hW g m o p0 p1 ho hp1 h4p1 x2 x4) rfl
  · exact x_sub [1, 0] (T_House_sideAt_b38 hW g m o p0 p1 ho hp1 h4p1 x2 x4) rfl
theorem c_House_sideAt (l : Launch) (G : xG) (hW : WC G) (m : xMem) (o : Nat) (p0 : Int32) (p1 : Nat) (ho : isHouse o) {Np1 : Nat} (hp1 : shC p1 = .inr (0, Np1, [])) (h4p1 : 4 ≤ Np1) : xCi l G yX2_sideAt cX2_sideAt 5 (some .int) rm_House_sideAt [.ref (xad G o), .int p0, .ref (xad G p1)] m (House_sideAt m o p0 p1) :=
  xCt_of (own := RX2) (by decide) rfl (Nat.le_of_ble_eq_true rfl) rfl ⟨rfl, rfl⟩ (fun E g => T_House_sideAt hW g m o p0 p1 ho hp1 h4p1)
theorem T_House_loudAt_b40 {l : Launch} {G : xG} {E : xE} (hW : WC G) (g : xGood E l G.1 RX2 cX2_loudAt yX2_loudAt 5 (some .int) rm_House_loudAt) (m : xMem) (o : Nat) (p0 : Int32) (p1 : Nat) (ho : isHouse o) {Np1 : Nat} (hp1 : shC p1 = .inr (0, Np1, [])) (h4p1 : 4 ≤ Np1) (v4 : Int32) (s0 : Int32) (s1 : Int32) : X E G (fun r : Int32 => (some (Value.int r), m)) 40 [(4, .int v4)] [.int s0, .int s1] m (House_loudAt_b40 m o p0 p1 v4 s0 s1) := by
  unfold House_loudAt_b40
  refine x_isub (pc := 40) g dX2_loudAt_40 ?_
  refine x_iload (pc := 41) (a := 0) g dX2_loudAt_41 rfl ?_
  refine x_if_ge (pc := 43) (t := 52) g dX2_loudAt_43 (by decide) ?_ ?_
  · refine x_iload (pc := 46) (a := 0) g dX2_loudAt_46 rfl ?_
    refine x_ineg (pc := 48) g dX2_loudAt_48 ?_
    refine x_goto (pc := 49) (t := 54) g dX2_loudAt_49 (by decide) ?_
    refine x_isub (pc := 54) g dX2_loudAt_54 ?_
    exact x_iret (pc := 55) g dX2_loudAt_55 rfl (fun _ h => h)
  · refine x_iload (pc := 52) (a := 0) g dX2_loudAt_52 rfl ?_
    refine x_isub (pc := 54) g dX2_loudAt_54 ?_
    exact x_iret (pc := 55) g dX2_loudAt_55 rfl (fun _ h => h)
theorem T_House_loudAt {l : Launch} {G : xG} {E : xE} (hW : WC G) (g : xGood E l G.1 RX2 cX2_loudAt yX2_loudAt 5 (some .int) rm_House_loudAt) (m : xMem) (o : Nat) (p0 : Int32) (p1 : Nat) (ho : isHouse o) {Np1 : Nat} (hp1 : shC p1 = .inr (0, Np1, [])) (h4p1 : 4 ≤ Np1) : X E G (fun r : Int32 => (some (Value.int r), m)) 0 [(0, .ref (xad G o)), (1, .int p0), (2, .ref (xad G p1))] [] m (House_loudAt m o p0 p1) := by
  unfold House_loudAt
  refine x_aload_n (pc := 0) (i := 2) (a := 2) g dX2_loudAt_0 rfl rfl ?_
  refine x_iconst (pc := 1) g dX2_loudAt_1 ic_1 ?_
  refine x_ialdc (pc := 2) g hW dX2_loudAt_2 (hp1) (ix_src_1 h4p1) ?_
  refine x_aload_n (pc := 3) (i := 0) (a := 0) g dX2_loudAt_3 rfl rfl ?_
  refine x_getR (pc := 4) (x := o + 4) g hW dX2_loudAt_4 fl_2_52 (sHouse ho) rfl ?_
  refine x_iload_n (pc := 7) (i := 1) (a := 1) g dX2_loudAt_7 rfl rfl ?_
  refine x_aald4 (pc := 8) (r := fun j => o + 5 + j) g hW dX2_loudAt_8 (sHouse_bedRow ho) (fun j h => rowsL_get h) (fun j1 hj1 => ?_)
  refine x_iconst (pc := 9) g dX2_loudAt_9 ic_0 ?_
  refine x_ialdc (pc := 10) g hW dX2_loudAt_10 (sHouse_bedRowR ho hj1) ix_0_3 ?_
  refine x_isub (pc := 11) g dX2_loudAt_11 ?_
  refine x_nmI (fun x2 => ?_)
  refine x_istore_n (pc := 12) (i := 3) (lv' := [(3, .int x2), (0, .ref (xad G o)), (1, .int p0), (2, .ref (xad G p1))]) g dX2_loudAt_12 rfl (by decide) rfl ?_
  refine x_aload_n (pc := 13) (i := 2) (a := 3) g dX2_loudAt_13 rfl rfl ?_
  refine x_iconst (pc := 14) g dX2_loudAt_14 ic_2 ?_
  refine x_ialdc (pc := 15) g hW dX2_loudAt_15 (hp1) (ix_src_2 h4p1) ?_
  refine x_aload_n (pc := 16) (i := 0) (a := 1) g dX2_loudAt_16 rfl rfl ?_
  refine x_getR (pc := 17) (x := o + 4) g hW dX2_loudAt_17 fl_2_52 (sHouse ho) rfl ?_
  refine x_iload_n (pc := 20) (i := 1) (a := 2) g dX2_loudAt_20 rfl rfl ?_
  refine x_aald4 (pc := 21) (r := fun j => o + 5 + j) g hW dX2_loudAt_21 (sHouse_bedRow ho) (fun j h => rowsL_get h) (fun j3 hj3 => ?_)
  refine x_iconst (pc := 22) g dX2_loudAt_22 ic_1 ?_
  refine x_ialdc (pc := 23) g hW dX2_loudAt_23 (sHouse_bedRowR ho hj3) ix_1_3 ?_
  refine x_isub (pc := 24) g dX2_loudAt_24 ?_
  refine x_nmI (fun x4 => ?_)
  refine x_istore (pc := 25) (lv' := [(4, .int x4), (3, .int x2), (0, .ref (xad G o)), (1, .int p0), (2, .ref (xad G p1))]) g dX2_loudAt_25 (by decide) rfl ?_
  refine x_aload_n (pc := 27) (i := 2) (a := 4) g dX2_loudAt_27 rfl rfl ?_
  refine x_iconst (pc := 28) g dX2_loudAt_28 ic_3 ?_
  refine x_ialdc (pc := 29) g hW dX2_loudAt_29 (hp1) (ix_src_3 h4p1) ?_
  refine x_iload_n (pc := 30) (i := 3) (a := 1) g dX2_loudAt_30 rfl rfl ?_
  refine x_if_ge (pc := 31) (t := 39) g dX2_loudAt_31 (by decide) ?_ ?_
  · refine x_iload_n (pc := 34) (i := 3) (a := 1) g dX2_loudAt_34 rfl rfl ?_
    refine x_ineg (pc := 35) g dX2_loudAt_35 ?_
    refine x_goto (pc := 36) (t := 40) g dX2_loudAt_36 (by decide) ?_
    exact x_sub [0] (T_House_loudAt_b40 hW g m o p0 p1 ho hp1 h4p1 x4 (-x2) (m.1 p1 3)) rfl
  · refine x_iload_n (pc := 39) (i := 3) (a := 1) g dX2_loudAt_39 rfl rfl ?_
    exact x_sub [0] (T_House_loudAt_b40 hW g m o p0 p1 ho hp1 h4p1 x4 x2 (m.1 p1 3)) rfl
theorem c_House_loudAt (l : Launch) (G : xG) (hW : WC G) (m : xMem) (o : Nat) (p0 : Int32) (p1 : Nat) (ho : isHouse o) {Np1 : Nat} (hp1 : shC p1 = .inr (0, Np1, [])) (h4p1 : 4 ≤ Np1) : xCi l G yX2_loudAt cX2_loudAt 5 (some .int) rm_House_loudAt [.ref (xad G o), .int p0, .ref (xad G p1)] m (House_loudAt m o p0 p1) :=
  xCt_of (own := RX2) (by decide) rfl (Nat.le_of_ble_eq_true rfl) rfl ⟨rfl, rfl⟩ (fun E g => T_House_loudAt hW g m o p0 p1 ho hp1 h4p1)
theorem T_House_heardSide_b31 {l : Launch} {G : xG} {E : xE} (hW : WC G) (g : xGood E l G.1 RX2 cX2_heardSide yX2_heardSide 6 (some .int) rm_House_heardSide) (m : xMem) (o : Nat) (p0 : Int32) (p1 : Int32) (p2 : Nat) (ho : isHouse o) {Np2 : Nat} (hp2 : shC p2 = .inr (0, Np2, [])) (h4p2 : 4 ≤ Np2) (v4 : Int32) (s0 : Int32) : X E G (fun r : Int32 => (some (Value.int r), m)) 31 [(0, .ref (xad G o)), (1, .int p0), (2, .int p1), (3, .ref (xad G p2)), (4, .int v4)] [.int s0] m (House_heardSide_b31 m o p0 p1 p2 v4 s0) := by
  unfold House_heardSide_b31
  refine x_istore (pc := 31) (lv' := [(5, .int s0), (0, .ref (xad G o)), (1, .int p0), (2, .int p1), (3, .ref (xad G p2)), (4, .int v4)]) g dX2_heardSide_31 (by decide) rfl ?_
  refine x_iload (pc := 33) (a := 0) g dX2_heardSide_33 rfl ?_
  refine x_if_ne (pc := 35) (t := 68) g dX2_heardSide_35 (by decide) ?_ ?_
  · refine x_iload (pc := 38) (a := 5) g dX2_heardSide_38 rfl ?_
    refine x_aload_n (pc := 40) (i := 0) (a := 1) g dX2_heardSide_40 rfl rfl ?_
    refine x_getR (pc := 41) (x := o + 11) g hW dX2_heardSide_41 fl_2_55 (sHouse ho) rfl ?_
    refine x_iload_n (pc := 44) (i := 1) (a := 2) g dX2_heardSide_44 rfl rfl ?_
    refine x_aald4 (pc := 45) (r := fun j => o + 12 + j) g hW dX2_heardSide_45 (sHouse_owlRow ho) (fun j h => rowsL_get h) (fun j3 hj3 => ?_)
    refine x_iconst (pc := 46) g dX2_heardSide_46 ic_2 ?_
    refine x_ialdc (pc := 47) g hW dX2_heardSide_47 (sHouse_owlRowR ho hj3) ix_2_4 ?_
    refine x_icmp_eq (pc := 48) (t := 68) g dX2_heardSide_48 (by decide) ?_ ?_
    · refine x_iconst (pc := 68) g dX2_heardSide_68 ic_m1 ?_
      exact x_iret (pc := 69) g dX2_heardSide_69 rfl (fun _ h => h)
    · refine x_aload_n (pc := 51) (i := 0) (a := 1) g dX2_heardSide_51 rfl rfl ?_
      refine x_iload_n (pc := 52) (i := 2) (a := 3) g dX2_heardSide_52 rfl rfl ?_
      refine x_aload_n (pc := 53) (i := 3) (a := 4) g dX2_heardSide_53 rfl rfl ?_
      refine x_Vi (pc := 54) g hW [.int p1, .ref (xad G p2)] [] (c_House_loudAt l G hW m o p1 p2 ho hp2 h4p2) dX2_heardSide_54 ml_2_91 (sHouse ho) rfl rfl (Nat.le_of_ble_eq_true rfl) ⟨rfl, rfl, Nat.le_of_ble_eq_true rfl, Nat.le_of_ble_eq_true rfl⟩ (fun r4 hr4 => ?_)
      refine x_aload_n (pc := 57) (i := 0) (a := 1) g dX2_heardSide_57 rfl rfl ?_
      refine x_getR (pc := 58) (x := o + 11) g hW dX2_heardSide_58 fl_2_55 (sHouse ho) rfl ?_
      refine x_iload_n (pc := 61) (i := 1) (a := 2) g dX2_heardSide_61 rfl rfl ?_
      refine x_aald4 (pc := 62) (r := fun j => o + 12 + j) g hW dX2_heardSide_62 (sHouse_owlRow ho) (fun j h => rowsL_get h) (fun j5 hj5 => ?_)
      refine x_iconst (pc := 63) g dX2_heardSide_63 ic_1 ?_
      refine x_ialdc (pc := 64) g hW dX2_heardSide_64 (sHouse_owlRowR ho hj5) ix_1_4 ?_
      refine x_icmp_ge (pc := 65) (t := 70) g dX2_heardSide_65 (by decide) ?_ ?_
      · refine x_iconst (pc := 68) g dX2_heardSide_68 ic_m1 ?_
        exact x_iret (pc := 69) g dX2_heardSide_69 rfl (fun _ h => h)
      · refine x_iload (pc := 70) (a := 5) g dX2_heardSide_70 rfl ?_
        exact x_iret (pc := 72) g dX2_heardSide_72 rfl (fun _ h => h)
  · refine x_iconst (pc := 68) g dX2_heardSide_68 ic_m1 ?_
    exact x_iret (pc := 69) g dX2_heardSide_69 rfl (fun _ h => h)
theorem T_House_heardSide {l : Launch} {G : xG} {E : xE} (hW : WC G) (g : xGood E l G.1 RX2 cX2_heardSide yX2_heardSide 6 (some .int) rm_House_heardSide) (m : xMem) (o : Nat) (p0 : Int32) (p1 : Int32) (p2 : Nat) (ho : isHouse o) {Np2 : Nat} (hp2 : shC p2 = .inr (0, Np2, [])) (h4p2 : 4 ≤ Np2) : X E G (fun r : Int32 => (some (Value.int r), m)) 0 [(0, .ref (xad G o)), (1, .int p0), (2, .int p1), (3, .ref (xad G p2))] [] m (House_heardSide m o p0 p1 p2) := by
  unfold House_heardSide
  refine x_aload_n (pc := 0) (i := 0) (a := 0) g dX2_heardSide_0 rfl rfl ?_
  refine x_iload_n (pc := 1) (i := 2) (a := 2) g dX2_heardSide_1 rfl rfl ?_
  refine x_aload_n (pc := 2) (i := 3) (a := 3) g dX2_heardSide_2 rfl rfl ?_
  refine x_Vi (pc := 3) g hW [.int p1, .ref (xad G p2)] [] (c_House_sideAt l G hW m o p1 p2 ho hp2 h4p2) dX2_heardSide_3 ml_2_87 (sHouse ho) rfl rfl (Nat.le_of_ble_eq_true rfl) ⟨rfl, rfl, Nat.le_of_ble_eq_true rfl, Nat.le_of_ble_eq_true rfl⟩ (fun r1 hr1 => ?_)
  refine x_istore (pc := 6) (lv' := [(4, .int r1), (0, .ref (xad G o)), (1, .int p0), (2, .int p1), (3, .ref (xad G p2))]) g dX2_heardSide_6 (by decide) rfl ?_
  refine x_aload_n (pc := 8) (i := 0) (a := 1) g dX2_heardSide_8 rfl rfl ?_
  refine x_getR (pc := 9) (x := o + 11) g hW dX2_heardSide_9 fl_2_55 (sHouse ho) rfl ?_
  refine x_iload_n (pc := 12) (i := 1) (a := 2) g dX2_heardSide_12 rfl rfl ?_
  refine x_aald4 (pc := 13) (r := fun j => o + 12 + j) g hW dX2_heardSide_13 (sHouse_owlRow ho) (fun j h => rowsL_get h) (fun j2 hj2 => ?_)
  refine x_iconst (pc := 14) g dX2_heardSide_14 ic_3 ?_
  refine x_ialdc (pc := 15) g hW dX2_heardSide_15 (sHouse_owlRowR ho hj2) ix_3_4 ?_
  refine x_aload_n (pc := 16) (i := 3) (a := 4) g dX2_heardSide_16 rfl rfl ?_
  refine x_iconst (pc := 17) g dX2_heardSide_17 ic_0 ?_
  refine x_ialdc (pc := 18) g hW dX2_heardSide_18 (hp2) (ix_src_0 h4p2) ?_
  refine x_ishr (pc := 19) g dX2_heardSide_19 ?_
  refine x_iconst (pc := 20) g dX2_heardSide_20 ic_1 ?_
  refine x_iand (pc := 21) g dX2_heardSide_21 ?_
  refine x_iconst (pc := 22) g dX2_heardSide_22 ic_1 ?_
  refine x_icmp_ne (pc := 23) (t := 30) g dX2_heardSide_23 (by decide) ?_ ?_
  · refine x_iconst (pc := 26) g dX2_heardSide_26 ic_1 ?_
    refine x_goto (pc := 27) (t := 31) g dX2_heardSide_27 (by decide) ?_
    exact x_sub [1, 2, 3, 4, 0] (T_House_heardSide_b31 hW g m o p0 p1 p2 ho hp2 h4p2 r1 1) rfl
  · refine x_iconst (pc := 30) g dX2_heardSide_30 ic_0 ?_
    exact x_sub [1, 2, 3, 4, 0] (T_House_heardSide_b31 hW g m o p0 p1 p2 ho hp2 h4p2 r1 0) rfl
theorem c_House_heardSide (l : Launch) (G : xG) (hW : WC G) (m : xMem) (o : Nat) (p0 : Int32) (p1 : Int32) (p2 : Nat) (ho : isHouse o) {Np2 : Nat} (hp2 : shC p2 = .inr (0, Np2, [])) (h4p2 : 4 ≤ Np2) : xCi l G yX2_heardSide cX2_heardSide 6 (some .int) rm_House_heardSide [.ref (xad G o), .int p0, .int p1, .ref (xad G p2)] m (House_heardSide m o p0 p1 p2) :=
  xCt_of (own := RX2) (by decide) rfl (Nat.le_of_ble_eq_true rfl) rfl ⟨rfl, rfl⟩ (fun E g => T_House_heardSide hW g m o p0 p1 p2 ho hp2 h4p2)
theorem T_State_heardBits_b6 {l : Launch} {G : xG} {E : xE} (hW : WC G) (g : xGood E l G.1 RX7 cX7_heardBits yX7_heardBits 7 (some .int) rm_State_heardBits) (m : xMem) (o : Nat) (p0 : Nat) (p1 : Int32) (p2 : Int32) (p3 : Int32) (ho : isState o) (hp0 : isHouse p0) : ∀ (n : Nat) (v5 : Int32) (v6 : Int32), X E G (fun r : Int32 => (some (Value.int r), m)) 6 [(0, .ref (xad G o)), (1, .ref (xad G p0)), (2, .int p1), (3, .int p2), (4, .int p3), (5, .int v5), (6, .int v6)] [] m (State_heardBits_b6 m o p0 p1 p2 p3 n v5 v6) := by
  intro n
  induction n with
  | zero => intro v5 v6; exact x_none
  | succ n ih =>
    intro v5 v6
    rw [State_heardBits_b6]
    refine x_iload (pc := 6) (a := 6) g dX7_heardBits_6 rfl ?_
    refine x_aload_n (pc := 8) (i := 1) (a := 1) g dX7_heardBits_8 rfl rfl ?_
    refine x_getI (pc := 9) g hW dX7_heardBits_9 fl_7_56 (sHouse hp0) rfl ?_
    refine x_icmp_gt (pc := 12) (t := 58) g dX7_heardBits_12 (by decide) ?_ ?_
    · refine x_iload (pc := 58) (a := 5) g dX7_heardBits_58 rfl ?_
      exact x_iret (pc := 60) g dX7_heardBits_60 rfl (fun _ h => h)
    · refine x_iload (pc := 15) (a := 4) g dX7_heardBits_15 rfl ?_
      refine x_iload (pc := 17) (a := 6) g dX7_heardBits_17 rfl ?_
      refine x_ishr (pc := 19) g dX7_heardBits_19 ?_
      refine x_iconst (pc := 20) g dX7_heardBits_20 ic_1 ?_
      refine x_iand (pc := 21) g dX7_heardBits_21 ?_
      refine x_iconst (pc := 22) g dX7_heardBits_22 ic_1 ?_
      refine x_icmp_ne (pc := 23) (t := 52) g dX7_heardBits_23 (by decide) ?_ ?_
      · refine x_aload_n (pc := 26) (i := 1) (a := 1) g dX7_heardBits_26 rfl rfl ?_
        refine x_iload_n (pc := 27) (i := 2) (a := 2) g dX7_heardBits_27 rfl rfl ?_
        refine x_iload_n (pc := 28) (i := 3) (a := 3) g dX7_heardBits_28 rfl rfl ?_
        refine x_aload_n (pc := 29) (i := 0) (a := 0) g dX7_heardBits_29 rfl rfl ?_
        refine x_aload_n (pc := 30) (i := 1) (a := 1) g dX7_heardBits_30 rfl rfl ?_
        refine x_iload (pc := 31) (a := 6) g dX7_heardBits_31 rfl ?_
        refine x_Vn (pc := 33) g hW [.ref (xad G p0), .int v6] [.int p2, .int p1, .ref (xad G p0)] (c_State_rowOf l G hW m o p0 v6 ho hp0) dX7_heardBits_33 ml_7_63 (sState ho) rfl rfl (Nat.le_of_ble_eq_true rfl) ⟨rfl, rfl, Nat.le_of_ble_eq_true rfl, Nat.le_of_ble_eq_true rfl⟩ (fun r1 hr1 => ?_)
        obtain ⟨Nr1, h4r1, hSr1⟩ := rowOf_src ho hp0 hr1
        refine x_Vi (pc := 36) g hW [.int p1, .int p2, .ref (xad G r1)] [] (c_House_heardSide l G hW m p0 p1 p2 r1 hp0 hSr1 h4r1) dX7_heardBits_36 ml_7_67 (sHouse hp0) rfl rfl (Nat.le_of_ble_eq_true rfl) ⟨rfl, rfl, Nat.le_of_ble_eq_true rfl, Nat.le_of_ble_eq_true rfl⟩ (fun r2 hr2 => ?_)
        refine x_iconst (pc := 39) g dX7_heardBits_39 ic_m1 ?_
        refine x_icmp_eq (pc := 40) (t := 52) g dX7_heardBits_40 (by decide) ?_ ?_
        · refine x_iinc (pc := 52) (a := 6) (lv' := [(6, .int (v6 + 1)), (0, .ref (xad G o)), (1, .ref (xad G p0)), (2, .int p1), (3, .int p2), (4, .int p3), (5, .int v5)]) g dX7_heardBits_52 ic_1 rfl (by decide) rfl ?_
          refine x_goto (pc := 55) (t := 6) g dX7_heardBits_55 (by decide) ?_
          exact x_sub [1, 2, 3, 4, 5, 6, 0] (ih v5 (v6 + 1)) rfl
        · refine x_iload (pc := 43) (a := 5) g dX7_heardBits_43 rfl ?_
          refine x_iconst (pc := 45) g dX7_heardBits_45 ic_1 ?_
          refine x_iload (pc := 46) (a := 6) g dX7_heardBits_46 rfl ?_
          refine x_ishl (pc := 48) g dX7_heardBits_48 ?_
          refine x_ior (pc := 49) g dX7_heardBits_49 ?_
          refine x_nmI (fun x3 => ?_)
          refine x_istore (pc := 50) (lv' := [(5, .int x3), (0, .ref (xad G o)), (1, .ref (xad G p0)), (2, .int p1), (3, .int p2), (4, .int p3), (6, .int v6)]) g dX7_heardBits_50 (by decide) rfl ?_
          refine x_iinc (pc := 52) (a := 6) (lv' := [(6, .int (v6 + 1)), (5, .int x3), (0, .ref (xad G o)), (1, .ref (xad G p0)), (2, .int p1), (3, .int p2), (4, .int p3)]) g dX7_heardBits_52 ic_1 rfl (by decide) rfl ?_
          refine x_goto (pc := 55) (t := 6) g dX7_heardBits_55 (by decide) ?_
          exact x_sub [2, 3, 4, 5, 6, 1, 0] (ih x3 (v6 + 1)) rfl
      · refine x_iinc (pc := 52) (a := 6) (lv' := [(6, .int (v6 + 1)), (0, .ref (xad G o)), (1, .ref (xad G p0)), (2, .int p1), (3, .int p2), (4, .int p3), (5, .int v5)]) g dX7_heardBits_52 ic_1 rfl (by decide) rfl ?_
        refine x_goto (pc := 55) (t := 6) g dX7_heardBits_55 (by decide) ?_
        exact x_sub [1, 2, 3, 4, 5, 6, 0] (ih v5 (v6 + 1)) rfl
theorem T_State_heardBits {l : Launch} {G : xG} {E : xE} (hW : WC G) (g : xGood E l G.1 RX7 cX7_heardBits yX7_heardBits 7 (some .int) rm_State_heardBits) (m : xMem) (o : Nat) (p0 : Nat) (p1 : Int32) (p2 : Int32) (p3 : Int32) (ho : isState o) (hp0 : isHouse p0) : X E G (fun r : Int32 => (some (Value.int r), m)) 0 [(0, .ref (xad G o)), (1, .ref (xad G p0)), (2, .int p1), (3, .int p2), (4, .int p3)] [] m (State_heardBits m o p0 p1 p2 p3) := by
  unfold State_heardBits
  refine x_iconst (pc := 0) g dX7_heardBits_0 ic_0 ?_
  refine x_istore (pc := 1) (lv' := [(5, .int 0), (0, .ref (xad G o)), (1, .ref (xad G p0)), (2, .int p1), (3, .int p2), (4, .int p3)]) g dX7_heardBits_1 (by decide) rfl ?_
  refine x_iconst (pc := 3) g dX7_heardBits_3 ic_0 ?_
  refine x_istore (pc := 4) (lv' := [(6, .int 0), (5, .int 0), (0, .ref (xad G o)), (1, .ref (xad G p0)), (2, .int p1), (3, .int p2), (4, .int p3)]) g dX7_heardBits_4 (by decide) rfl ?_
  exact x_sub [2, 3, 4, 5, 6, 1, 0] (T_State_heardBits_b6 hW g m o p0 p1 p2 p3 ho hp0 1000 0 0) rfl
theorem c_State_heardBits (l : Launch) (G : xG) (hW : WC G) (m : xMem) (o : Nat) (p0 : Nat) (p1 : Int32) (p2 : Int32) (p3 : Int32) (ho : isState o) (hp0 : isHouse p0) : xCi l G yX7_heardBits cX7_heardBits 7 (some .int) rm_State_heardBits [.ref (xad G o), .ref (xad G p0), .int p1, .int p2, .int p3] m (State_heardBits m o p0 p1 p2 p3) :=
  xCt_of (own := RX7) (by decide) rfl (Nat.le_of_ble_eq_true rfl) rfl ⟨rfl, rfl⟩ (fun E g => T_State_heardBits hW g m o p0 p1 p2 p3 ho hp0)
theorem T_State_loudest_b9 {l : Launch} {G : xG} {E : xE} (hW : WC G) (g : xGood E l G.1 RX7 cX7_loudest yX7_loudest 8 (some .int) rm_State_loudest) (m : xMem) (o : Nat) (p0 : Nat) (p1 : Int32) (p2 : Int32) (ho : isState o) (hp0 : isHouse p0) : ∀ (n : Nat) (v4 : Int32) (v5 : Int32) (v6 : Int32), X E G (fun r : Int32 => (some (Value.int r), m)) 9 [(0, .ref (xad G o)), (1, .ref (xad G p0)), (2, .int p1), (3, .int p2), (4, .int v4), (5, .int v5), (6, .int v6)] [] m (State_loudest_b9 m o p0 p1 p2 n v4 v5 v6) := by
  intro n
  induction n with
  | zero => intro v4 v5 v6; exact x_none
  | succ n ih =>
    intro v4 v5 v6
    rw [State_loudest_b9]
    refine x_iload (pc := 9) (a := 6) g dX7_loudest_9 rfl ?_
    refine x_aload_n (pc := 11) (i := 1) (a := 1) g dX7_loudest_11 rfl rfl ?_
    refine x_getI (pc := 12) g hW dX7_loudest_12 fl_7_56 (sHouse hp0) rfl ?_
    refine x_icmp_gt (pc := 15) (t := 69) g dX7_loudest_15 (by decide) ?_ ?_
    · refine x_iload (pc := 69) (a := 4) g dX7_loudest_69 rfl ?_
      exact x_iret (pc := 71) g dX7_loudest_71 rfl (fun _ h => h)
    · refine x_iload_n (pc := 18) (i := 3) (a := 3) g dX7_loudest_18 rfl rfl ?_
      refine x_iload (pc := 19) (a := 6) g dX7_loudest_19 rfl ?_
      refine x_ishr (pc := 21) g dX7_loudest_21 ?_
      refine x_iconst (pc := 22) g dX7_loudest_22 ic_1 ?_
      refine x_iand (pc := 23) g dX7_loudest_23 ?_
      refine x_iconst (pc := 24) g dX7_loudest_24 ic_1 ?_
      refine x_icmp_ne (pc := 25) (t := 63) g dX7_loudest_25 (by decide) ?_ ?_
      · refine x_aload_n (pc := 28) (i := 1) (a := 1) g dX7_loudest_28 rfl rfl ?_
        refine x_iload_n (pc := 29) (i := 2) (a := 2) g dX7_loudest_29 rfl rfl ?_
        refine x_aload_n (pc := 30) (i := 0) (a := 0) g dX7_loudest_30 rfl rfl ?_
        refine x_aload_n (pc := 31) (i := 1) (a := 1) g dX7_loudest_31 rfl rfl ?_
        refine x_iload (pc := 32) (a := 6) g dX7_loudest_32 rfl ?_
        refine x_Vn (pc := 34) g hW [.ref (xad G p0), .int v6] [.int p1, .ref (xad G p0)] (c_State_rowOf l G hW m o p0 v6 ho hp0) dX7_loudest_34 ml_7_63 (sState ho) rfl rfl (Nat.le_of_ble_eq_true rfl) ⟨rfl, rfl, Nat.le_of_ble_eq_true rfl, Nat.le_of_ble_eq_true rfl⟩ (fun r1 hr1 => ?_)
        obtain ⟨Nr1, h4r1, hSr1⟩ := rowOf_src ho hp0 hr1
        refine x_Vi (pc := 37) g hW [.int p1, .ref (xad G r1)] [] (c_House_loudAt l G hW m p0 p1 r1 hp0 hSr1 h4r1) dX7_loudest_37 ml_7_82 (sHouse hp0) rfl rfl (Nat.le_of_ble_eq_true rfl) ⟨rfl, rfl, Nat.le_of_ble_eq_true rfl, Nat.le_of_ble_eq_true rfl⟩ (fun r2 hr2 => ?_)
        refine x_istore (pc := 40) (lv' := [(7, .int r2), (0, .ref (xad G o)), (1, .ref (xad G p0)), (2, .int p1), (3, .int p2), (4, .int v4), (5, .int v5), (6, .int v6)]) g dX7_loudest_40 (by decide) rfl ?_
        refine x_iload (pc := 42) (a := 5) g dX7_loudest_42 rfl ?_
        refine x_iconst (pc := 44) g dX7_loudest_44 ic_m1 ?_
        refine x_icmp_eq (pc := 45) (t := 55) g dX7_loudest_45 (by decide) ?_ ?_
        · refine x_iload (pc := 55) (a := 7) g dX7_loudest_55 rfl ?_
          refine x_istore (pc := 57) (lv' := [(4, .int v6), (7, .int r2), (0, .ref (xad G o)), (1, .ref (xad G p0)), (2, .int p1), (3, .int p2), (5, .int v5), (6, .int v6)]) g dX7_loudest_57 (by decide) rfl ?_
          refine x_iload (pc := 59) (a := 1) g dX7_loudest_59 rfl ?_
          refine x_istore (pc := 61) (lv' := [(5, .int r2), (4, .int v6), (7, .int r2), (0, .ref (xad G o)), (1, .ref (xad G p0)), (2, .int p1), (3, .int p2), (6, .int v6)]) g dX7_loudest_61 (by decide) rfl ?_
          refine x_iinc (pc := 63) (a := 7) (lv' := [(6, .int (v6 + 1)), (5, .int r2), (4, .int v6), (7, .int r2), (0, .ref (xad G o)), (1, .ref (xad G p0)), (2, .int p1), (3, .int p2)]) g dX7_loudest_63 ic_1 rfl (by decide) rfl ?_
          refine x_goto (pc := 66) (t := 9) g dX7_loudest_66 (by decide) ?_
          exact x_sub [4, 5, 6, 7, 2, 1, 0] (ih v6 r2 (v6 + 1)) rfl
        · refine x_iload (pc := 48) (a := 0) g dX7_loudest_48 rfl ?_
          refine x_iload (pc := 50) (a := 6) g dX7_loudest_50 rfl ?_
          refine x_icmp_le (pc := 52) (t := 63) g dX7_loudest_52 (by decide) ?_ ?_
          · refine x_iload (pc := 55) (a := 7) g dX7_loudest_55 rfl ?_
            refine x_istore (pc := 57) (lv' := [(4, .int v6), (7, .int r2), (0, .ref (xad G o)), (1, .ref (xad G p0)), (2, .int p1), (3, .int p2), (5, .int v5), (6, .int v6)]) g dX7_loudest_57 (by decide) rfl ?_
            refine x_iload (pc := 59) (a := 1) g dX7_loudest_59 rfl ?_
            refine x_istore (pc := 61) (lv' := [(5, .int r2), (4, .int v6), (7, .int r2), (0, .ref (xad G o)), (1, .ref (xad G p0)), (2, .int p1), (3, .int p2), (6, .int v6)]) g dX7_loudest_61 (by decide) rfl ?_
            refine x_iinc (pc := 63) (a := 7) (lv' := [(6, .int (v6 + 1)), (5, .int r2), (4, .int v6), (7, .int r2), (0, .ref (xad G o)), (1, .ref (xad G p0)), (2, .int p1), (3, .int p2)]) g dX7_loudest_63 ic_1 rfl (by decide) rfl ?_
            refine x_goto (pc := 66) (t := 9) g dX7_loudest_66 (by decide) ?_
            exact x_sub [4, 5, 6, 7, 2, 1, 0] (ih v6 r2 (v6 + 1)) rfl
          · refine x_iinc (pc := 63) (a := 7) (lv' := [(6, .int (v6 + 1)), (7, .int r2), (0, .ref (xad G o)), (1, .ref (xad G p0)), (2, .int p1), (3, .int p2), (4, .int v4), (5, .int v5)]) g dX7_loudest_63 ic_1 rfl (by decide) rfl ?_
            refine x_goto (pc := 66) (t := 9) g dX7_loudest_66 (by decide) ?_
            exact x_sub [2, 3, 4, 5, 6, 7, 0] (ih v4 v5 (v6 + 1)) rfl
      · refine x_iinc (pc := 63) (a := 6) (lv' := [(6, .int (v6 + 1)), (0, .ref (xad G o)), (1, .ref (xad G p0)), (2, .int p1), (3, .int p2), (4, .int v4), (5, .int v5)]) g dX7_loudest_63 ic_1 rfl (by decide) rfl ?_
        refine x_goto (pc := 66) (t := 9) g dX7_loudest_66 (by decide) ?_
        exact x_sub [1, 2, 3, 4, 5, 6, 0] (ih v4 v5 (v6 + 1)) rfl
theorem T_State_loudest {l : Launch} {G : xG} {E : xE} (hW : WC G) (g : xGood E l G.1 RX7 cX7_loudest yX7_loudest 8 (some .int) rm_State_loudest) (m : xMem) (o : Nat) (p0 : Nat) (p1 : Int32) (p2 : Int32) (ho : isState o) (hp0 : isHouse p0) : X E G (fun r : Int32 => (some (Value.int r), m)) 0 [(0, .ref (xad G o)), (1, .ref (xad G p0)), (2, .int p1), (3, .int p2)] [] m (State_loudest m o p0 p1 p2) := by
  unfold State_loudest
  refine x_iconst (pc := 0) g dX7_loudest_0 ic_m1 ?_
  refine x_istore (pc := 1) (lv' := [(4, .int ((-1))), (0, .ref (xad G o)), (1, .ref (xad G p0)), (2, .int p1), (3, .int p2)]) g dX7_loudest_1 (by decide) rfl ?_
  refine x_iconst (pc := 3) g dX7_loudest_3 ic_0 ?_
  refine x_istore (pc := 4) (lv' := [(5, .int 0), (4, .int ((-1))), (0, .ref (xad G o)), (1, .ref (xad G p0)), (2, .int p1), (3, .int p2)]) g dX7_loudest_4 (by decide) rfl ?_
  refine x_iconst (pc := 6) g dX7_loudest_6 ic_0 ?_
  refine x_istore (pc := 7) (lv' := [(6, .int 0), (5, .int 0), (4, .int ((-1))), (0, .ref (xad G o)), (1, .ref (xad G p0)), (2, .int p1), (3, .int p2)]) g dX7_loudest_7 (by decide) rfl ?_
  exact x_sub [3, 4, 5, 6, 2, 1, 0] (T_State_loudest_b9 hW g m o p0 p1 p2 ho hp0 1000 ((-1)) 0 0) rfl
theorem c_State_loudest (l : Launch) (G : xG) (hW : WC G) (m : xMem) (o : Nat) (p0 : Nat) (p1 : Int32) (p2 : Int32) (ho : isState o) (hp0 : isHouse p0) : xCi l G yX7_loudest cX7_loudest 8 (some .int) rm_State_loudest [.ref (xad G o), .ref (xad G p0), .int p1, .int p2] m (State_loudest m o p0 p1 p2) :=
  xCt_of (own := RX7) (by decide) rfl (Nat.le_of_ble_eq_true rfl) rfl ⟨rfl, rfl⟩ (fun E g => T_State_loudest hW g m o p0 p1 p2 ho hp0)
theorem T_Tokens_failAt {l : Launch} {G : xG} {E : xE} (hW : WC G) (g : xGood E l G.1 RX9 cX9_failAt yX9_failAt 3 (some .boolean) rm_Tokens_failAt) (m : xMem) (p0 : Int32) (p1 : Int32) : X E G (fun r : Int32 × xMem => (some (Value.int r.1), r.2)) 0 [(0, .ref (xad G 3)), (1, .int p0), (2, .int p1)] [] m (Tokens_failAt m p0 p1) := by
  unfold Tokens_failAt
  refine x_aload_n (pc := 0) (i := 0) (a := 0) g dX9_failAt_0 rfl rfl ?_
  refine x_getI (pc := 1) g hW dX9_failAt_1 fl_9_41 (sTokens isTokens_3) rfl ?_
  refine x_if_ne (pc := 4) (t := 17) g dX9_failAt_4 (by decide) ?_ ?_
  · refine x_aload_n (pc := 7) (i := 0) (a := 0) g dX9_failAt_7 rfl rfl ?_
    refine x_iload_n (pc := 8) (i := 1) (a := 1) g dX9_failAt_8 rfl rfl ?_
    refine x_putI (pc := 9) g hW dX9_failAt_9 fl_9_41 ft_9_10 (sTokens isTokens_3) rfl (fun m1 => ?_)
    refine x_aload_n (pc := 12) (i := 0) (a := 0) g dX9_failAt_12 rfl rfl ?_
    refine x_iload_n (pc := 13) (i := 2) (a := 2) g dX9_failAt_13 rfl rfl ?_
    refine x_putI (pc := 14) g hW dX9_failAt_14 fl_9_44 ft_9_11 (sTokens isTokens_3) rfl (fun m2 => ?_)
    refine x_iconst (pc := 17) g dX9_failAt_17 ic_0 ?_
    exact x_zretc (pc := 18) g dX9_failAt_18 rfl (Or.inl rfl) (fun _ h => h)
  · refine x_iconst (pc := 17) g dX9_failAt_17 ic_0 ?_
    exact x_zretc (pc := 18) g dX9_failAt_18 rfl (Or.inl rfl) (fun _ h => h)
theorem c_Tokens_failAt (l : Launch) (G : xG) (hW : WC G) (m : xMem) (p0 : Int32) (p1 : Int32) : xCim l G yX9_failAt cX9_failAt 3 (some .boolean) rm_Tokens_failAt [.ref (xad G 3), .int p0, .int p1] m (Tokens_failAt m p0 p1) :=
  xCt_of (own := RX9) (by decide) rfl (Nat.le_of_ble_eq_true rfl) rfl ⟨rfl, rfl⟩ (fun E g => T_Tokens_failAt hW g m p0 p1)
theorem T_Tokens_fail {l : Launch} {G : xG} {E : xE} (hW : WC G) (g : xGood E l G.1 RX9 cX9_fail yX9_fail 2 (some .boolean) rm_Tokens_fail) (m : xMem) (p0 : Int32) : X E G (fun r : Int32 × xMem => (some (Value.int r.1), r.2)) 0 [(0, .ref (xad G 3)), (1, .int p0)] [] m (Tokens_fail m p0) := by
  unfold Tokens_fail
  refine x_aload_n (pc := 0) (i := 0) (a := 0) g dX9_fail_0 rfl rfl ?_
  refine x_iload_n (pc := 1) (i := 1) (a := 1) g dX9_fail_1 rfl rfl ?_
  refine x_aload_n (pc := 2) (i := 0) (a := 0) g dX9_fail_2 rfl rfl ?_
  refine x_getI (pc := 3) g hW dX9_fail_3 fl_9_25 (sTokens isTokens_3) rfl ?_
  refine x_Vim (pc := 6) g hW [.int p0, .int (m.1 3 5)] [] (c_Tokens_failAt l G hW m p0 (m.1 3 5)) dX9_fail_6 ml_9_83 (sTokens isTokens_3) rfl rfl (Nat.le_of_ble_eq_true rfl) ⟨rfl, rfl, Nat.le_of_ble_eq_true rfl, Nat.le_of_ble_eq_true rfl⟩ (fun r1 hr1 => ?_)
  exact x_zret (pc := 9) g dX9_fail_9 rfl (fun _ _ h => h)
theorem c_Tokens_fail (l : Launch) (G : xG) (hW : WC G) (m : xMem) (p0 : Int32) : xCim l G yX9_fail cX9_fail 2 (some .boolean) rm_Tokens_fail [.ref (xad G 3), .int p0] m (Tokens_fail m p0) :=
  xCt_of (own := RX9) (by decide) rfl (Nat.le_of_ble_eq_true rfl) rfl ⟨rfl, rfl⟩ (fun E g => T_Tokens_fail hW g m p0)
theorem T_Tape_at {l : Launch} {G : xG} {E : xE} (hW : WC G) (g : xGood E l G.1 RX8 cX8_at yX8_at 2 (some .int) rm_Tape_at) (m : xMem) (o : Nat) (p0 : Int32) (ho : isTape o) : X E G (fun r : Int32 => (some (Value.int r), m)) 0 [(0, .ref (xad G o)), (1, .int p0)] [] m (Tape_at m o p0) := by
  unfold Tape_at
  refine x_iload_n (pc := 0) (i := 1) (a := 1) g dX8_at_0 rfl rfl ?_
  refine x_if_lt (pc := 1) (t := 22) g dX8_at_1 (by decide) ?_ ?_
  · refine x_iconst (pc := 22) g dX8_at_22 ic_0 ?_
    exact x_iret (pc := 23) g dX8_at_23 rfl (fun _ h => h)
  · refine x_iload_n (pc := 4) (i := 1) (a := 1) g dX8_at_4 rfl rfl ?_
    refine x_aload_n (pc := 5) (i := 0) (a := 0) g dX8_at_5 rfl rfl ?_
    refine x_getR (pc := 6) (x := o + 1) g hW dX8_at_6 fl_8_19 (sTape ho) rfl ?_
    refine x_alen (pc := 9) (v := nI ((tapeLen o))) g hW dX8_at_9 (sTape_bytes ho) (by decide) rfl ?_
    refine x_icmp_ge (pc := 10) (t := 22) g dX8_at_10 (by decide) ?_ ?_
    · refine x_aload_n (pc := 13) (i := 0) (a := 0) g dX8_at_13 rfl rfl ?_
      refine x_getR (pc := 14) (x := o + 1) g hW dX8_at_14 fl_8_19 (sTape ho) rfl ?_
      refine x_iload_n (pc := 17) (i := 1) (a := 1) g dX8_at_17 rfl rfl ?_
      refine x_iald (pc := 18) g hW dX8_at_18 (sTape_bytes ho) (fun j1 hj1 => ?_)
      refine x_goto (pc := 19) (t := 23) g dX8_at_19 (by decide) ?_
      exact x_iret (pc := 23) g dX8_at_23 rfl (fun _ h => h)
    · refine x_iconst (pc := 22) g dX8_at_22 ic_0 ?_
      exact x_iret (pc := 23) g dX8_at_23 rfl (fun _ h => h)
theorem c_Tape_at (l : Launch) (G : xG) (hW : WC G) (m : xMem) (o : Nat) (p0 : Int32) (ho : isTape o) : xCi l G yX8_at cX8_at 2 (some .int) rm_Tape_at [.ref (xad G o), .int p0] m (Tape_at m o p0) :=
  xCt_of (own := RX8) (by decide) rfl (Nat.le_of_ble_eq_true rfl) rfl ⟨rfl, rfl⟩ (fun E g => T_Tape_at hW g m o p0 ho)
theorem T_Tokens_numberOf_b3 {l : Launch} {G : xG} {E : xE} (hW : WC G) (g : xGood E l G.1 RX9 cX9_numberOf yX9_numberOf 5 (some .int) rm_Tokens_numberOf) (m : xMem) (p0 : Nat) (Np0 : Nat) (p1 : Int32) (p2 : Int64) (hp0 : shC p0 = .inr (1, Np0, [])) : ∀ (n : Nat) (v4 : Int32), X E G (fun r : Int32 => (some (Value.int r), m)) 3 [(0, .ref (xad G p0)), (1, .int p1), (2, .long p2), (4, .int v4)] [] m (Tokens_numberOf_b3 m p0 Np0 p1 p2 n v4) := by
  intro n
  induction n with
  | zero => intro v4; exact x_none
  | succ n ih =>
    intro v4
    rw [Tokens_numberOf_b3]
    refine x_iload (pc := 3) (a := 3) g dX9_numberOf_3 rfl ?_
    refine x_iload_n (pc := 5) (i := 1) (a := 1) g dX9_numberOf_5 rfl rfl ?_
    refine x_icmp_ge (pc := 6) (t := 34) g dX9_numberOf_6 (by decide) ?_ ?_
    · refine x_iload (pc := 9) (a := 3) g dX9_numberOf_9 rfl ?_
      refine x_aload_n (pc := 11) (i := 0) (a := 0) g dX9_numberOf_11 rfl rfl ?_
      refine x_alen (pc := 12) (v := nI Np0) g hW dX9_numberOf_12 (hp0) (by decide) rfl ?_
      refine x_icmp_ge (pc := 13) (t := 34) g dX9_numberOf_13 (by decide) ?_ ?_
      · refine x_aload_n (pc := 16) (i := 0) (a := 0) g dX9_numberOf_16 rfl rfl ?_
        refine x_iload (pc := 17) (a := 3) g dX9_numberOf_17 rfl ?_
        refine x_lald (pc := 19) g hW dX9_numberOf_19 (hp0) (fun j1 hj1 => ?_)
        refine x_lload_n (pc := 20) (i := 2) (a := 2) g dX9_numberOf_20 rfl rfl ?_
        refine x_lcmp (pc := 21) g dX9_numberOf_21 ?_
        refine x_if_ne (pc := 22) (t := 28) g dX9_numberOf_22 (by decide) ?_ ?_
        · refine x_iload (pc := 25) (a := 3) g dX9_numberOf_25 rfl ?_
          exact x_iret (pc := 27) g dX9_numberOf_27 rfl (fun _ h => h)
        · refine x_iinc (pc := 28) (a := 3) (lv' := [(4, .int (v4 + 1)), (0, .ref (xad G p0)), (1, .int p1), (2, .long p2)]) g dX9_numberOf_28 ic_1 rfl (by decide) rfl ?_
          refine x_goto (pc := 31) (t := 3) g dX9_numberOf_31 (by decide) ?_
          exact x_sub [1, 2, 3, 0] (ih (v4 + 1)) rfl
      · refine x_iconst (pc := 34) g dX9_numberOf_34 ic_m1 ?_
        exact x_iret (pc := 35) g dX9_numberOf_35 rfl (fun _ h => h)
    · refine x_iconst (pc := 34) g dX9_numberOf_34 ic_m1 ?_
      exact x_iret (pc := 35) g dX9_numberOf_35 rfl (fun _ h => h)
theorem T_Tokens_numberOf {l : Launch} {G : xG} {E : xE} (hW : WC G) (g : xGood E l G.1 RX9 cX9_numberOf yX9_numberOf 5 (some .int) rm_Tokens_numberOf) (m : xMem) (p0 : Nat) (Np0 : Nat) (p1 : Int32) (p2 : Int64) (hp0 : shC p0 = .inr (1, Np0, [])) : X E G (fun r : Int32 => (some (Value.int r), m)) 0 [(0, .ref (xad G p0)), (1, .int p1), (2, .long p2)] [] m (Tokens_numberOf m p0 Np0 p1 p2) := by
  unfold Tokens_numberOf
  refine x_iconst (pc := 0) g dX9_numberOf_0 ic_0 ?_
  refine x_istore (pc := 1) (lv' := [(4, .int 0), (0, .ref (xad G p0)), (1, .int p1), (2, .long p2)]) g dX9_numberOf_1 (by decide) rfl ?_
  exact x_sub [1, 2, 3, 0] (T_Tokens_numberOf_b3 hW g m p0 Np0 p1 p2 hp0 1000 0) rfl
theorem c_Tokens_numberOf (l : Launch) (G : xG) (hW : WC G) (m : xMem) (p0 : Nat) (Np0 : Nat) (p1 : Int32) (p2 : Int64) (hp0 : shC p0 = .inr (1, Np0, [])) : xCi l G yX9_numberOf cX9_numberOf 5 (some .int) rm_Tokens_numberOf [.ref (xad G p0), .int p1, .long p2] m (Tokens_numberOf m p0 Np0 p1 p2) :=
  xCt_of (own := RX9) (by decide) rfl (Nat.le_of_ble_eq_true rfl) rfl ⟨rfl, rfl⟩ (fun E g => T_Tokens_numberOf hW g m p0 Np0 p1 p2 hp0)
theorem T_Tokens_readRun_b109 {l : Launch} {G : xG} {E : xE} (hW : WC G) (g : xGood E l G.1 RX9 cX9_readRun yX9_readRun 4 none rm_Tokens_readRun) (k14 : Int32 → Int32 → xMem → Option (xMem)) (hk14 : ∀ (v1 : Int32) (v2 : Int32) (m : xMem), X E G (fun r : xMem => ((none : Option Value), r)) 14 [(0, .ref (xad G 3)), (1, .int v1), (2, .int v2)] [] m (k14 v1 v2 m)) (v1 : Int32) (v2 : Int32) (m : xMem) : X E G (fun r : xMem => ((none : Option Value), r)) 109 [(0, .ref (xad G 3)), (1, .int v1), (2, .int v2)] [] m (Tokens_readRun_b109 k14 v1 v2 m) := by
  unfold Tokens_readRun_b109
  refine x_aload_n (pc := 109) (i := 0) (a := 0) g dX9_readRun_109 rfl rfl ?_
  refine x_dup (pc := 110) g dX9_readRun_110 rfl ?_
  refine x_getI (pc := 111) g hW dX9_readRun_111 fl_9_19 (sTokens isTokens_3) rfl ?_
  refine x_iconst (pc := 114) g dX9_readRun_114 ic_1 ?_
  refine x_iadd (pc := 115) g dX9_readRun_115 ?_
  refine x_putI (pc := 116) g hW dX9_readRun_116 fl_9_19 ft_9_3 (sTokens isTokens_3) rfl (fun m6 => ?_)
  refine x_goto (pc := 119) (t := 14) g dX9_readRun_119 (by decide) ?_
  exact x_sub [0, 1, 2] (hk14 v1 v2 m6) rfl
theorem T_Tokens_readRun_b172 {l : Launch} {G : xG} {E : xE} (hW : WC G) (g : xGood E l G.1 RX9 cX9_readRun yX9_readRun 4 none rm_Tokens_readRun) (s0 : Int32) (m : xMem) : X E G (fun r : xMem => ((none : Option Value), r)) 172 [] [.int s0, .ref (xad G 3)] m (Tokens_readRun_b172 s0 m) := by
  unfold Tokens_readRun_b172
  refine x_putI (pc := 172) g hW dX9_readRun_172 fl_9_22 ft_9_4 (sTokens isTokens_3) rfl (fun m10 => ?_)
  exact x_vret (pc := 175) g dX9_readRun_175 rfl (fun _ h => h)
theorem T_Tokens_readRun_b157 {l : Launch} {G : xG} {E : xE} (hW : WC G) (g : xGood E l G.1 RX9 cX9_readRun yX9_readRun 4 none rm_Tokens_readRun) (v1 : Int32) (v2 : Int32) (m : xMem) : X E G (fun r : xMem => ((none : Option Value), r)) 157 [(0, .ref (xad G 3)), (1, .int v1), (2, .int v2)] [] m (Tokens_readRun_b157 v1 v2 m) := by
  unfold Tokens_readRun_b157
  refine x_aload_n (pc := 157) (i := 0) (a := 0) g dX9_readRun_157 rfl rfl ?_
  refine x_iload_n (pc := 158) (i := 1) (a := 1) g dX9_readRun_158 rfl rfl ?_
  refine x_if_ne (pc := 159) (t := 171) g dX9_readRun_159 (by decide) ?_ ?_
  · refine x_iload_n (pc := 162) (i := 2) (a := 2) g dX9_readRun_162 rfl rfl ?_
    refine x_iconst (pc := 163) g dX9_readRun_163 ic_3 ?_
    refine x_icmp_gt (pc := 164) (t := 171) g dX9_readRun_164 (by decide) ?_ ?_
    · refine x_iconst (pc := 171) g dX9_readRun_171 ic_1 ?_
      exact x_sub [] (T_Tokens_readRun_b172 hW g 1 m) rfl
    · refine x_iconst (pc := 167) g dX9_readRun_167 ic_3 ?_
      refine x_goto (pc := 168) (t := 172) g dX9_readRun_168 (by decide) ?_
      exact x_sub [] (T_Tokens_readRun_b172 hW g 3 m) rfl
  · refine x_iconst (pc := 171) g dX9_readRun_171 ic_1 ?_
    exact x_sub [] (T_Tokens_readRun_b172 hW g 1 m) rfl
theorem T_Tokens_readRun_b122 {l : Launch} {G : xG} {E : xE} (hW : WC G) (g : xGood E l G.1 RX9 cX9_readRun yX9_readRun 4 none rm_Tokens_readRun) (v1 : Int32) (v2 : Int32) (m : xMem) : X E G (fun r : xMem => ((none : Option Value), r)) 122 [(0, .ref (xad G 3)), (1, .int v1), (2, .int v2)] [] m (Tokens_readRun_b122 v1 v2 m) := by
  unfold Tokens_readRun_b122
  refine x_iload_n (pc := 122) (i := 2) (a := 2) g dX9_readRun_122 rfl rfl ?_
  refine x_if_ne (pc := 123) (t := 157) g dX9_readRun_123 (by decide) ?_ ?_
  · refine x_iload_n (pc := 126) (i := 1) (a := 1) g dX9_readRun_126 rfl rfl ?_
    refine x_bipush (pc := 127) g dX9_readRun_127 bi_7 ?_
    refine x_icmp_gt (pc := 129) (t := 157) g dX9_readRun_129 (by decide) ?_ ?_
    · exact x_sub [0, 1, 2] (T_Tokens_readRun_b157 hW g v1 v2 m) rfl
    · refine x_aload_n (pc := 132) (i := 0) (a := 0) g dX9_readRun_132 rfl rfl ?_
      refine x_iconst (pc := 133) g dX9_readRun_133 ic_2 ?_
      refine x_putI (pc := 134) g hW dX9_readRun_134 fl_9_22 ft_9_4 (sTokens isTokens_3) rfl (fun m7 => ?_)
      refine x_aload_n (pc := 137) (i := 0) (a := 0) g dX9_readRun_137 rfl rfl ?_
      refine x_aload_n (pc := 138) (i := 0) (a := 0) g dX9_readRun_138 rfl rfl ?_
      refine x_getR (pc := 139) (x := 4) g hW dX9_readRun_139 fl_9_9 (sTokens isTokens_3) rfl ?_
      refine x_bipush (pc := 142) g dX9_readRun_142 bi_32 ?_
      refine x_aload_n (pc := 144) (i := 0) (a := 0) g dX9_readRun_144 rfl rfl ?_
      refine x_getL (pc := 145) g hW dX9_readRun_145 fl_9_37 (sTokens isTokens_3) rfl ?_
      refine x_Si (pc := 148) g [.ref (xad G 4), .int 32, .long (m7.2 3 9)] [.ref (xad G 3)] (c_Tokens_numberOf l G hW m7 4 32 32 (m7.2 3 9) (sTokens_reserved isTokens_3)) dX9_readRun_148 ms_9_79 rfl rfl (Nat.le_of_ble_eq_true rfl) ⟨rfl, rfl, Nat.le_of_ble_eq_true rfl, Nat.le_of_ble_eq_true rfl⟩ (fun r8 hr8 => ?_)
      refine x_putI (pc := 151) g hW dX9_readRun_151 fl_9_34 ft_9_8 (sTokens isTokens_3) rfl (fun m9 => ?_)
      refine x_goto (pc := 154) (t := 175) g dX9_readRun_154 (by decide) ?_
      exact x_vret (pc := 175) g dX9_readRun_175 rfl (fun _ h => h)
  · exact x_sub [0, 1, 2] (T_Tokens_readRun_b157 hW g v1 v2 m) rfl
theorem T_Tokens_readRun_b78 {l : Launch} {G : xG} {E : xE} (hW : WC G) (g : xGood E l G.1 RX9 cX9_readRun yX9_readRun 4 none rm_Tokens_readRun) (k14 : Int32 → Int32 → xMem → Option (xMem)) (hk14 : ∀ (v1 : Int32) (v2 : Int32) (m : xMem), X E G (fun r : xMem => ((none : Option Value), r)) 14 [(0, .ref (xad G 3)), (1, .int v1), (2, .int v2)] [] m (k14 v1 v2 m)) (v1 : Int32) (v2 : Int32) (v3 : Int32) (m : xMem) : X E G (fun r : xMem => ((none : Option Value), r)) 78 [(0, .ref (xad G 3)), (1, .int v1), (2, .int v2), (3, .int v3)] [] m (Tokens_readRun_b78 k14 v1 v2 v3 m) := by
  unfold Tokens_readRun_b78
  refine x_iload_n (pc := 78) (i := 3) (a := 3) g dX9_readRun_78 rfl rfl ?_
  refine x_bipush (pc := 79) g dX9_readRun_79 bi_48 ?_
  refine x_icmp_lt (pc := 81) (t := 122) g dX9_readRun_81 (by decide) ?_ ?_
  · exact x_sub [0, 1, 2] (T_Tokens_readRun_b122 hW g v1 v2 m) rfl
  · refine x_iload_n (pc := 84) (i := 3) (a := 3) g dX9_readRun_84 rfl rfl ?_
    refine x_bipush (pc := 85) g dX9_readRun_85 bi_57 ?_
    refine x_icmp_gt (pc := 87) (t := 122) g dX9_readRun_87 (by decide) ?_ ?_
    · exact x_sub [0, 1, 2] (T_Tokens_readRun_b122 hW g v1 v2 m) rfl
    · refine x_iinc (pc := 90) (a := 2) (lv' := [(2, .int (v2 + 1)), (0, .ref (xad G 3)), (1, .int v1), (3, .int v3)]) g dX9_readRun_90 ic_1 rfl (by decide) rfl ?_
      refine x_aload_n (pc := 93) (i := 0) (a := 1) g dX9_readRun_93 rfl rfl ?_
      refine x_aload_n (pc := 94) (i := 0) (a := 1) g dX9_readRun_94 rfl rfl ?_
      refine x_getI (pc := 95) g hW dX9_readRun_95 fl_9_31 (sTokens isTokens_3) rfl ?_
      refine x_bipush (pc := 98) g dX9_readRun_98 bi_10 ?_
      refine x_imul (pc := 100) g dX9_readRun_100 ?_
      refine x_iload_n (pc := 101) (i := 3) (a := 3) g dX9_readRun_101 rfl rfl ?_
      refine x_bipush (pc := 102) g dX9_readRun_102 bi_48 ?_
      refine x_isub (pc := 104) g dX9_readRun_104 ?_
      refine x_iadd (pc := 105) g dX9_readRun_105 ?_
      refine x_putI (pc := 106) g hW dX9_readRun_106 fl_9_31 ft_9_7 (sTokens isTokens_3) rfl (fun m5 => ?_)
      exact x_sub [1, 2, 0] (T_Tokens_readRun_b109 hW g k14 hk14 v1 (v2 + 1) m5) rfl
theorem T_Tokens_readRun_b14 {l : Launch} {G : xG} {E : xE} (hW : WC G) (g : xGood E l G.1 RX9 cX9_readRun yX9_readRun 4 none rm_Tokens_readRun) : ∀ (n : Nat) (v1 : Int32) (v2 : Int32) (m : xMem), X E G (fun r : xMem => ((none : Option Value), r)) 14 [(0, .ref (xad G 3)), (1, .int v1), (2, .int v2)] [] m (Tokens_readRun_b14 n v1 v2 m) := by
  intro n
  induction n with
  | zero => intro v1 v2 m; exact x_none
  | succ n ih =>
    intro v1 v2 m
    rw [Tokens_readRun_b14]
    refine x_aload_n (pc := 14) (i := 0) (a := 0) g dX9_readRun_14 rfl rfl ?_
    refine x_getI (pc := 15) g hW dX9_readRun_15 fl_9_19 (sTokens isTokens_3) rfl ?_
    refine x_aload_n (pc := 18) (i := 0) (a := 0) g dX9_readRun_18 rfl rfl ?_
    refine x_getR (pc := 19) (x := 1) g hW dX9_readRun_19 fl_9_47 (sTokens isTokens_3) rfl ?_
    refine x_getI (pc := 22) g hW dX9_readRun_22 fl_9_68 (sTape isTape_1) rfl ?_
    refine x_icmp_ge (pc := 25) (t := 122) g dX9_readRun_25 (by decide) ?_ ?_
    · refine x_aload_n (pc := 28) (i := 0) (a := 0) g dX9_readRun_28 rfl rfl ?_
      refine x_getR (pc := 29) (x := 1) g hW dX9_readRun_29 fl_9_47 (sTokens isTokens_3) rfl ?_
      refine x_aload_n (pc := 32) (i := 0) (a := 0) g dX9_readRun_32 rfl rfl ?_
      refine x_getI (pc := 33) g hW dX9_readRun_33 fl_9_19 (sTokens isTokens_3) rfl ?_
      refine x_Vi (pc := 36) g hW [.int (m.1 3 3)] [] (c_Tape_at l G hW m 1 (m.1 3 3) isTape_1) dX9_readRun_36 ml_9_72 (sTape isTape_1) rfl rfl (Nat.le_of_ble_eq_true rfl) ⟨rfl, rfl, Nat.le_of_ble_eq_true rfl, Nat.le_of_ble_eq_true rfl⟩ (fun r3 hr3 => ?_)
      refine x_istore_n (pc := 39) (i := 3) (lv' := [(3, .int r3), (0, .ref (xad G 3)), (1, .int v1), (2, .int v2)]) g dX9_readRun_39 rfl (by decide) rfl ?_
      refine x_iload_n (pc := 40) (i := 3) (a := 0) g dX9_readRun_40 rfl rfl ?_
      refine x_bipush (pc := 41) g dX9_readRun_41 bi_97 ?_
      refine x_icmp_lt (pc := 43) (t := 78) g dX9_readRun_43 (by decide) ?_ ?_
      · exact x_sub [1, 2, 3, 0] (T_Tokens_readRun_b78 hW g (Tokens_readRun_b14 n) ih v1 v2 r3 m) rfl
      · refine x_iload_n (pc := 46) (i := 3) (a := 0) g dX9_readRun_46 rfl rfl ?_
        refine x_bipush (pc := 47) g dX9_readRun_47 bi_122 ?_
        refine x_icmp_gt (pc := 49) (t := 78) g dX9_readRun_49 (by decide) ?_ ?_
        · exact x_sub [1, 2, 3, 0] (T_Tokens_readRun_b78 hW g (Tokens_readRun_b14 n) ih v1 v2 r3 m) rfl
        · refine x_iinc (pc := 52) (a := 2) (lv' := [(1, .int (v1 + 1)), (3, .int r3), (0, .ref (xad G 3)), (2, .int v2)]) g dX9_readRun_52 ic_1 rfl (by decide) rfl ?_
          refine x_aload_n (pc := 55) (i := 0) (a := 2) g dX9_readRun_55 rfl rfl ?_
          refine x_aload_n (pc := 56) (i := 0) (a := 2) g dX9_readRun_56 rfl rfl ?_
          refine x_getL (pc := 57) g hW dX9_readRun_57 fl_9_37 (sTokens isTokens_3) rfl ?_
          refine x_ldc2 (pc := 60) g dX9_readRun_60 kc_9_63 ?_
          refine x_lmul (pc := 63) g dX9_readRun_63 ?_
          refine x_iload_n (pc := 64) (i := 3) (a := 1) g dX9_readRun_64 rfl rfl ?_
          refine x_bipush (pc := 65) g dX9_readRun_65 bi_97 ?_
          refine x_isub (pc := 67) g dX9_readRun_67 ?_
          refine x_iconst (pc := 68) g dX9_readRun_68 ic_1 ?_
          refine x_iadd (pc := 69) g dX9_readRun_69 ?_
          refine x_i2l (pc := 70) g dX9_readRun_70 ?_
          refine x_ladd (pc := 71) g dX9_readRun_71 ?_
          refine x_putL (pc := 72) g hW dX9_readRun_72 fl_9_37 ft_9_9 (sTokens isTokens_3) rfl (fun m4 => ?_)
          refine x_goto (pc := 75) (t := 109) g dX9_readRun_75 (by decide) ?_
          exact x_sub [2, 0, 3] (T_Tokens_readRun_b109 hW g (Tokens_readRun_b14 n) ih (v1 + 1) v2 m4) rfl
    · exact x_sub [0, 1, 2] (T_Tokens_readRun_b122 hW g v1 v2 m) rfl
theorem T_Tokens_readRun {l : Launch} {G : xG} {E : xE} (hW : WC G) (g : xGood E l G.1 RX9 cX9_readRun yX9_readRun 4 none rm_Tokens_readRun) (m : xMem) : X E G (fun r : xMem => ((none : Option Value), r)) 0 [(0, .ref (xad G 3))] [] m (Tokens_readRun m) := by
  unfold Tokens_readRun
  refine x_iconst (pc := 0) g dX9_readRun_0 ic_0 ?_
  refine x_istore_n (pc := 1) (i := 1) (lv' := [(1, .int 0), (0, .ref (xad G 3))]) g dX9_readRun_1 rfl (by decide) rfl ?_
  refine x_iconst (pc := 2) g dX9_readRun_2 ic_0 ?_
  refine x_istore_n (pc := 3) (i := 2) (lv' := [(2, .int 0), (1, .int 0), (0, .ref (xad G 3))]) g dX9_readRun_3 rfl (by decide) rfl ?_
  refine x_aload_n (pc := 4) (i := 0) (a := 2) g dX9_readRun_4 rfl rfl ?_
  refine x_iconst (pc := 5) g dX9_readRun_5 ic_0 ?_
  refine x_putI (pc := 6) g hW dX9_readRun_6 fl_9_31 ft_9_7 (sTokens isTokens_3) rfl (fun m1 => ?_)
  refine x_aload_n (pc := 9) (i := 0) (a := 2) g dX9_readRun_9 rfl rfl ?_
  refine x_lconst (pc := 10) g dX9_readRun_10 lc_0 ?_
  refine x_putL (pc := 11) g hW dX9_readRun_11 fl_9_37 ft_9_9 (sTokens isTokens_3) rfl (fun m2 => ?_)
  exact x_sub [2, 1, 0] (T_Tokens_readRun_b14 hW g 1000 0 0 m2) rfl
theorem c_Tokens_readRun (l : Launch) (G : xG) (hW : WC G) (m : xMem) : xCv l G yX9_readRun cX9_readRun 4 none rm_Tokens_readRun [.ref (xad G 3)] m (Tokens_readRun m) :=
  xCt_of (own := RX9) (by decide) rfl (Nat.le_of_ble_eq_true rfl) rfl ⟨rfl, rfl⟩ (fun E g => T_Tokens_readRun hW g m)
theorem T_Tokens_advance_b59 {l : Launch} {G : xG} {E : xE} (hW : WC G) (g : xGood E l G.1 RX9 cX9_advance yX9_advance 2 none rm_Tokens_advance) (k13 : xMem → Option (xMem)) (hk13 : ∀ (m : xMem), X E G (fun r : xMem => ((none : Option Value), r)) 13 [(0, .ref (xad G 3))] [] m (k13 m)) (m : xMem) : X E G (fun r : xMem => ((none : Option Value), r)) 59 [(0, .ref (xad G 3))] [] m (Tokens_advance_b59 k13 m) := by
  unfold Tokens_advance_b59
  refine x_aload_n (pc := 59) (i := 0) (a := 0) g dX9_advance_59 rfl rfl ?_
  refine x_dup (pc := 60) g dX9_advance_60 rfl ?_
  refine x_getI (pc := 61) g hW dX9_advance_61 fl_9_19 (sTokens isTokens_3) rfl ?_
  refine x_iconst (pc := 64) g dX9_advance_64 ic_1 ?_
  refine x_iadd (pc := 65) g dX9_advance_65 ?_
  refine x_putI (pc := 66) g hW dX9_advance_66 fl_9_19 ft_9_3 (sTokens isTokens_3) rfl (fun m5 => ?_)
  refine x_goto (pc := 69) (t := 13) g dX9_advance_69 (by decide) ?_
  exact x_sub [0] (hk13 m5) rfl
theorem T_Tokens_advance_b175 {l : Launch} {G : xG} {E : xE} (hW : WC G) (g : xGood E l G.1 RX9 cX9_advance yX9_advance 2 none rm_Tokens_advance) (m : xMem) : X E G (fun r : xMem => ((none : Option Value), r)) 175 [(0, .ref (xad G 3))] [] m (Tokens_advance_b175 m) := by
  unfold Tokens_advance_b175
  refine x_aload_n (pc := 175) (i := 0) (a := 0) g dX9_advance_175 rfl rfl ?_
  refine x_Vv (pc := 176) g hW [] [] (c_Tokens_readRun l G hW m) dX9_advance_176 ml_9_76 (sTokens isTokens_3) rfl rfl (Nat.le_of_ble_eq_true rfl) ⟨rfl, rfl, Nat.le_of_ble_eq_true rfl, Nat.le_of_ble_eq_true rfl⟩ (fun r11 hr11 => ?_)
  exact x_vret (pc := 179) g dX9_advance_179 rfl (fun _ h => h)
theorem T_Tokens_advance_b237 {l : Launch} {G : xG} {E : xE} (hW : WC G) (g : xGood E l G.1 RX9 cX9_advance yX9_advance 2 none rm_Tokens_advance) (s0 : Int32) (m : xMem) : X E G (fun r : xMem => ((none : Option Value), r)) 237 [] [.int s0, .ref (xad G 3)] m (Tokens_advance_b237 s0 m) := by
  unfold Tokens_advance_b237
  refine x_putI (pc := 237) g hW dX9_advance_237 fl_9_22 ft_9_4 (sTokens isTokens_3) rfl (fun m14 => ?_)
  exact x_vret (pc := 240) g dX9_advance_240 rfl (fun _ h => h)
theorem T_Tokens_advance_b214 {l : Launch} {G : xG} {E : xE} (hW : WC G) (g : xGood E l G.1 RX9 cX9_advance yX9_advance 2 none rm_Tokens_advance) (v1 : Int32) (m : xMem) : X E G (fun r : xMem => ((none : Option Value), r)) 214 [(1, .int v1)] [.ref (xad G 3)] m (Tokens_advance_b214 v1 m) := by
  unfold Tokens_advance_b214
  refine x_iload_n (pc := 214) (i := 1) (a := 0) g dX9_advance_214 rfl rfl ?_
  refine x_bipush (pc := 215) g dX9_advance_215 bi_40 ?_
  refine x_icmp_eq (pc := 217) (t := 232) g dX9_advance_217 (by decide) ?_ ?_
  · refine x_iconst (pc := 232) g dX9_advance_232 ic_4 ?_
    refine x_goto (pc := 233) (t := 237) g dX9_advance_233 (by decide) ?_
    exact x_sub [] (T_Tokens_advance_b237 hW g 4 m) rfl
  · refine x_iload_n (pc := 220) (i := 1) (a := 0) g dX9_advance_220 rfl rfl ?_
    refine x_bipush (pc := 221) g dX9_advance_221 bi_41 ?_
    refine x_icmp_eq (pc := 223) (t := 232) g dX9_advance_223 (by decide) ?_ ?_
    · refine x_iconst (pc := 232) g dX9_advance_232 ic_4 ?_
      refine x_goto (pc := 233) (t := 237) g dX9_advance_233 (by decide) ?_
      exact x_sub [] (T_Tokens_advance_b237 hW g 4 m) rfl
    · refine x_iload_n (pc := 226) (i := 1) (a := 0) g dX9_advance_226 rfl rfl ?_
      refine x_bipush (pc := 227) g dX9_advance_227 bi_46 ?_
      refine x_icmp_ne (pc := 229) (t := 236) g dX9_advance_229 (by decide) ?_ ?_
      · refine x_iconst (pc := 232) g dX9_advance_232 ic_4 ?_
        refine x_goto (pc := 233) (t := 237) g dX9_advance_233 (by decide) ?_
        exact x_sub [] (T_Tokens_advance_b237 hW g 4 m) rfl
      · refine x_iconst (pc := 236) g dX9_advance_236 ic_1 ?_
        exact x_sub [] (T_Tokens_advance_b237 hW g 1 m) rfl
theorem T_Tokens_advance_b180 {l : Launch} {G : xG} {E : xE} (hW : WC G) (g : xGood E l G.1 RX9 cX9_advance yX9_advance 2 none rm_Tokens_advance) (v1 : Int32) (m : xMem) : X E G (fun r : xMem => ((none : Option Value), r)) 180 [(0, .ref (xad G 3)), (1, .int v1)] [] m (Tokens_advance_b180 v1 m) := by
  unfold Tokens_advance_b180
  refine x_aload_n (pc := 180) (i := 0) (a := 0) g dX9_advance_180 rfl rfl ?_
  refine x_dup (pc := 181) g dX9_advance_181 rfl ?_
  refine x_getI (pc := 182) g hW dX9_advance_182 fl_9_19 (sTokens isTokens_3) rfl ?_
  refine x_iconst (pc := 185) g dX9_advance_185 ic_1 ?_
  refine x_iadd (pc := 186) g dX9_advance_186 ?_
  refine x_putI (pc := 187) g hW dX9_advance_187 fl_9_19 ft_9_3 (sTokens isTokens_3) rfl (fun m12 => ?_)
  refine x_aload_n (pc := 190) (i := 0) (a := 0) g dX9_advance_190 rfl rfl ?_
  refine x_iload_n (pc := 191) (i := 1) (a := 1) g dX9_advance_191 rfl rfl ?_
  refine x_putI (pc := 192) g hW dX9_advance_192 fl_9_31 ft_9_7 (sTokens isTokens_3) rfl (fun m13 => ?_)
  refine x_aload_n (pc := 195) (i := 0) (a := 0) g dX9_advance_195 rfl rfl ?_
  refine x_iload_n (pc := 196) (i := 1) (a := 1) g dX9_advance_196 rfl rfl ?_
  refine x_bipush (pc := 197) g dX9_advance_197 bi_59 ?_
  refine x_icmp_eq (pc := 199) (t := 232) g dX9_advance_199 (by decide) ?_ ?_
  · refine x_iconst (pc := 232) g dX9_advance_232 ic_4 ?_
    refine x_goto (pc := 233) (t := 237) g dX9_advance_233 (by decide) ?_
    exact x_sub [] (T_Tokens_advance_b237 hW g 4 m13) rfl
  · refine x_iload_n (pc := 202) (i := 1) (a := 1) g dX9_advance_202 rfl rfl ?_
    refine x_bipush (pc := 203) g dX9_advance_203 bi_60 ?_
    refine x_icmp_lt (pc := 205) (t := 214) g dX9_advance_205 (by decide) ?_ ?_
    · exact x_sub [1] (T_Tokens_advance_b214 hW g v1 m13) rfl
    · refine x_iload_n (pc := 208) (i := 1) (a := 1) g dX9_advance_208 rfl rfl ?_
      refine x_bipush (pc := 209) g dX9_advance_209 bi_62 ?_
      refine x_icmp_le (pc := 211) (t := 232) g dX9_advance_211 (by decide) ?_ ?_
      · exact x_sub [1] (T_Tokens_advance_b214 hW g v1 m13) rfl
      · refine x_iconst (pc := 232) g dX9_advance_232 ic_4 ?_
        refine x_goto (pc := 233) (t := 237) g dX9_advance_233 (by decide) ?_
        exact x_sub [] (T_Tokens_advance_b237 hW g 4 m13) rfl
theorem T_Tokens_advance_b163 {l : Launch} {G : xG} {E : xE} (hW : WC G) (g : xGood E l G.1 RX9 cX9_advance yX9_advance 2 none rm_Tokens_advance) (v1 : Int32) (m : xMem) : X E G (fun r : xMem => ((none : Option Value), r)) 163 [(0, .ref (xad G 3)), (1, .int v1)] [] m (Tokens_advance_b163 v1 m) := by
  unfold Tokens_advance_b163
  refine x_iload_n (pc := 163) (i := 1) (a := 1) g dX9_advance_163 rfl rfl ?_
  refine x_bipush (pc := 164) g dX9_advance_164 bi_48 ?_
  refine x_icmp_lt (pc := 166) (t := 180) g dX9_advance_166 (by decide) ?_ ?_
  · exact x_sub [0, 1] (T_Tokens_advance_b180 hW g v1 m) rfl
  · refine x_iload_n (pc := 169) (i := 1) (a := 1) g dX9_advance_169 rfl rfl ?_
    refine x_bipush (pc := 170) g dX9_advance_170 bi_57 ?_
    refine x_icmp_gt (pc := 172) (t := 180) g dX9_advance_172 (by decide) ?_ ?_
    · exact x_sub [0, 1] (T_Tokens_advance_b180 hW g v1 m) rfl
    · exact x_sub [0] (T_Tokens_advance_b175 hW g m) rfl
theorem T_Tokens_advance_b111 {l : Launch} {G : xG} {E : xE} (hW : WC G) (g : xGood E l G.1 RX9 cX9_advance yX9_advance 2 none rm_Tokens_advance) (m : xMem) : X E G (fun r : xMem => ((none : Option Value), r)) 111 [(0, .ref (xad G 3))] [] m (Tokens_advance_b111 m) := by
  unfold Tokens_advance_b111
  refine x_aload_n (pc := 111) (i := 0) (a := 0) g dX9_advance_111 rfl rfl ?_
  refine x_aload_n (pc := 112) (i := 0) (a := 0) g dX9_advance_112 rfl rfl ?_
  refine x_getI (pc := 113) g hW dX9_advance_113 fl_9_19 (sTokens isTokens_3) rfl ?_
  refine x_putI (pc := 116) g hW dX9_advance_116 fl_9_25 ft_9_5 (sTokens isTokens_3) rfl (fun m8 => ?_)
  refine x_aload_n (pc := 119) (i := 0) (a := 0) g dX9_advance_119 rfl rfl ?_
  refine x_getI (pc := 120) g hW dX9_advance_120 fl_9_19 (sTokens isTokens_3) rfl ?_
  refine x_aload_n (pc := 123) (i := 0) (a := 0) g dX9_advance_123 rfl rfl ?_
  refine x_getR (pc := 124) (x := 1) g hW dX9_advance_124 fl_9_47 (sTokens isTokens_3) rfl ?_
  refine x_getI (pc := 127) g hW dX9_advance_127 fl_9_68 (sTape isTape_1) rfl ?_
  refine x_icmp_lt (pc := 130) (t := 139) g dX9_advance_130 (by decide) ?_ ?_
  · refine x_aload_n (pc := 139) (i := 0) (a := 0) g dX9_advance_139 rfl rfl ?_
    refine x_getR (pc := 140) (x := 1) g hW dX9_advance_140 fl_9_47 (sTokens isTokens_3) rfl ?_
    refine x_aload_n (pc := 143) (i := 0) (a := 0) g dX9_advance_143 rfl rfl ?_
    refine x_getI (pc := 144) g hW dX9_advance_144 fl_9_19 (sTokens isTokens_3) rfl ?_
    refine x_Vi (pc := 147) g hW [.int (m8.1 3 3)] [] (c_Tape_at l G hW m8 1 (m8.1 3 3) isTape_1) dX9_advance_147 ml_9_72 (sTape isTape_1) rfl rfl (Nat.le_of_ble_eq_true rfl) ⟨rfl, rfl, Nat.le_of_ble_eq_true rfl, Nat.le_of_ble_eq_true rfl⟩ (fun r9 hr9 => ?_)
    refine x_istore_n (pc := 150) (i := 1) (lv' := [(1, .int r9), (0, .ref (xad G 3))]) g dX9_advance_150 rfl (by decide) rfl ?_
    refine x_iload_n (pc := 151) (i := 1) (a := 0) g dX9_advance_151 rfl rfl ?_
    refine x_bipush (pc := 152) g dX9_advance_152 bi_97 ?_
    refine x_icmp_lt (pc := 154) (t := 163) g dX9_advance_154 (by decide) ?_ ?_
    · exact x_sub [1, 0] (T_Tokens_advance_b163 hW g r9 m8) rfl
    · refine x_iload_n (pc := 157) (i := 1) (a := 0) g dX9_advance_157 rfl rfl ?_
      refine x_bipush (pc := 158) g dX9_advance_158 bi_122 ?_
      refine x_icmp_le (pc := 160) (t := 175) g dX9_advance_160 (by decide) ?_ ?_
      · exact x_sub [1, 0] (T_Tokens_advance_b163 hW g r9 m8) rfl
      · exact x_sub [1] (T_Tokens_advance_b175 hW g m8) rfl
  · refine x_aload_n (pc := 133) (i := 0) (a := 0) g dX9_advance_133 rfl rfl ?_
    refine x_iconst (pc := 134) g dX9_advance_134 ic_0 ?_
    refine x_putI (pc := 135) g hW dX9_advance_135 fl_9_22 ft_9_4 (sTokens isTokens_3) rfl (fun m10 => ?_)
    exact x_vret (pc := 138) g dX9_advance_138 rfl (fun _ h => h)
theorem T_Tokens_advance_b72 {l : Launch} {G : xG} {E : xE} (hW : WC G) (g : xGood E l G.1 RX9 cX9_advance yX9_advance 2 none rm_Tokens_advance) (m : xMem) : X E G (fun r : xMem => ((none : Option Value), r)) 72 [(0, .ref (xad G 3))] [] m (Tokens_advance_b72 m) := by
  unfold Tokens_advance_b72
  refine x_aload_n (pc := 72) (i := 0) (a := 0) g dX9_advance_72 rfl rfl ?_
  refine x_getI (pc := 73) g hW dX9_advance_73 fl_9_19 (sTokens isTokens_3) rfl ?_
  refine x_aload_n (pc := 76) (i := 0) (a := 0) g dX9_advance_76 rfl rfl ?_
  refine x_getI (pc := 77) g hW dX9_advance_77 fl_9_15 (sTokens isTokens_3) rfl ?_
  refine x_icmp_lt (pc := 80) (t := 111) g dX9_advance_80 (by decide) ?_ ?_
  · exact x_sub [0] (T_Tokens_advance_b111 hW g m) rfl
  · refine x_aload_n (pc := 83) (i := 0) (a := 0) g dX9_advance_83 rfl rfl ?_
    refine x_getR (pc := 84) (x := 1) g hW dX9_advance_84 fl_9_47 (sTokens isTokens_3) rfl ?_
    refine x_getI (pc := 87) g hW dX9_advance_87 fl_9_68 (sTape isTape_1) rfl ?_
    refine x_aload_n (pc := 90) (i := 0) (a := 0) g dX9_advance_90 rfl rfl ?_
    refine x_getI (pc := 91) g hW dX9_advance_91 fl_9_15 (sTokens isTokens_3) rfl ?_
    refine x_icmp_le (pc := 94) (t := 111) g dX9_advance_94 (by decide) ?_ ?_
    · refine x_aload_n (pc := 97) (i := 0) (a := 0) g dX9_advance_97 rfl rfl ?_
      refine x_iconst (pc := 98) g dX9_advance_98 ic_1 ?_
      refine x_putI (pc := 99) g hW dX9_advance_99 fl_9_22 ft_9_4 (sTokens isTokens_3) rfl (fun m6 => ?_)
      refine x_aload_n (pc := 102) (i := 0) (a := 0) g dX9_advance_102 rfl rfl ?_
      refine x_aload_n (pc := 103) (i := 0) (a := 0) g dX9_advance_103 rfl rfl ?_
      refine x_getI (pc := 104) g hW dX9_advance_104 fl_9_15 (sTokens isTokens_3) rfl ?_
      refine x_putI (pc := 107) g hW dX9_advance_107 fl_9_25 ft_9_5 (sTokens isTokens_3) rfl (fun m7 => ?_)
      exact x_vret (pc := 110) g dX9_advance_110 rfl (fun _ h => h)
    · exact x_sub [0] (T_Tokens_advance_b111 hW g m) rfl
theorem T_Tokens_advance_b13 {l : Launch} {G : xG} {E : xE} (hW : WC G) (g : xGood E l G.1 RX9 cX9_advance yX9_advance 2 none rm_Tokens_advance) : ∀ (n : Nat) (m : xMem), X E G (fun r : xMem => ((none : Option Value), r)) 13 [(0, .ref (xad G 3))] [] m (Tokens_advance_b13 n m) := by
  intro n
  induction n with
  | zero => intro m; exact x_none
  | succ n ih =>
    intro m
    rw [Tokens_advance_b13]
    refine x_aload_n (pc := 13) (i := 0) (a := 0) g dX9_advance_13 rfl rfl ?_
    refine x_getI (pc := 14) g hW dX9_advance_14 fl_9_19 (sTokens isTokens_3) rfl ?_
    refine x_aload_n (pc := 17) (i := 0) (a := 0) g dX9_advance_17 rfl rfl ?_
    refine x_getR (pc := 18) (x := 1) g hW dX9_advance_18 fl_9_47 (sTokens isTokens_3) rfl ?_
    refine x_getI (pc := 21) g hW dX9_advance_21 fl_9_68 (sTape isTape_1) rfl ?_
    refine x_icmp_ge (pc := 24) (t := 72) g dX9_advance_24 (by decide) ?_ ?_
    · refine x_aload_n (pc := 27) (i := 0) (a := 0) g dX9_advance_27 rfl rfl ?_
      refine x_getR (pc := 28) (x := 1) g hW dX9_advance_28 fl_9_47 (sTokens isTokens_3) rfl ?_
      refine x_aload_n (pc := 31) (i := 0) (a := 0) g dX9_advance_31 rfl rfl ?_
      refine x_getI (pc := 32) g hW dX9_advance_32 fl_9_19 (sTokens isTokens_3) rfl ?_
      refine x_Vi (pc := 35) g hW [.int (m.1 3 3)] [] (c_Tape_at l G hW m 1 (m.1 3 3) isTape_1) dX9_advance_35 ml_9_72 (sTape isTape_1) rfl rfl (Nat.le_of_ble_eq_true rfl) ⟨rfl, rfl, Nat.le_of_ble_eq_true rfl, Nat.le_of_ble_eq_true rfl⟩ (fun r3 hr3 => ?_)
      refine x_bipush (pc := 38) g dX9_advance_38 bi_32 ?_
      refine x_icmp_eq (pc := 40) (t := 59) g dX9_advance_40 (by decide) ?_ ?_
      · exact x_sub [0] (T_Tokens_advance_b59 hW g (Tokens_advance_b13 n) ih m) rfl
      · refine x_aload_n (pc := 43) (i := 0) (a := 0) g dX9_advance_43 rfl rfl ?_
        refine x_getR (pc := 44) (x := 1) g hW dX9_advance_44 fl_9_47 (sTokens isTokens_3) rfl ?_
        refine x_aload_n (pc := 47) (i := 0) (a := 0) g dX9_advance_47 rfl rfl ?_
        refine x_getI (pc := 48) g hW dX9_advance_48 fl_9_19 (sTokens isTokens_3) rfl ?_
        refine x_Vi (pc := 51) g hW [.int (m.1 3 3)] [] (c_Tape_at l G hW m 1 (m.1 3 3) isTape_1) dX9_advance_51 ml_9_72 (sTape isTape_1) rfl rfl (Nat.le_of_ble_eq_true rfl) ⟨rfl, rfl, Nat.le_of_ble_eq_true rfl, Nat.le_of_ble_eq_true rfl⟩ (fun r4 hr4 => ?_)
        refine x_bipush (pc := 54) g dX9_advance_54 bi_10 ?_
        refine x_icmp_ne (pc := 56) (t := 72) g dX9_advance_56 (by decide) ?_ ?_
        · exact x_sub [0] (T_Tokens_advance_b59 hW g (Tokens_advance_b13 n) ih m) rfl
        · exact x_sub [0] (T_Tokens_advance_b72 hW g m) rfl
    · exact x_sub [0] (T_Tokens_advance_b72 hW g m) rfl
theorem T_Tokens_advance {l : Launch} {G : xG} {E : xE} (hW : WC G) (g : xGood E l G.1 RX9 cX9_advance yX9_advance 2 none rm_Tokens_advance) (m : xMem) : X E G (fun r : xMem => ((none : Option Value), r)) 0 [(0, .ref (xad G 3))] [] m (Tokens_advance m) := by
  unfold Tokens_advance
  refine x_aload_n (pc := 0) (i := 0) (a := 0) g dX9_advance_0 rfl rfl ?_
  refine x_aload_n (pc := 1) (i := 0) (a := 0) g dX9_advance_1 rfl rfl ?_
  refine x_getI (pc := 2) g hW dX9_advance_2 fl_9_25 (sTokens isTokens_3) rfl ?_
  refine x_putI (pc := 5) g hW dX9_advance_5 fl_9_28 ft_9_6 (sTokens isTokens_3) rfl (fun m1 => ?_)
  refine x_aload_n (pc := 8) (i := 0) (a := 0) g dX9_advance_8 rfl rfl ?_
  refine x_iconst (pc := 9) g dX9_advance_9 ic_m1 ?_
  refine x_putI (pc := 10) g hW dX9_advance_10 fl_9_34 ft_9_8 (sTokens isTokens_3) rfl (fun m2 => ?_)
  exact x_sub [0] (T_Tokens_advance_b13 hW g 1000 m2) rfl
theorem c_Tokens_advance (l : Launch) (G : xG) (hW : WC G) (m : xMem) : xCv l G yX9_advance cX9_advance 2 none rm_Tokens_advance [.ref (xad G 3)] m (Tokens_advance m) :=
  xCt_of (own := RX9) (by decide) rfl (Nat.le_of_ble_eq_true rfl) rfl ⟨rfl, rfl⟩ (fun E g => T_Tokens_advance hW g m)
theorem T_Tokens_takeKnown_b16 {l : Launch} {G : xG} {E : xE} (hW : WC G) (g : xGood E l G.1 RX9 cX9_takeKnown yX9_takeKnown 4 (some .int) rm_Tokens_takeKnown) (p0 : Nat) (Np0 : Nat) (p1 : Int32) (hp0 : shC p0 = .inr (1, Np0, [])) (m : xMem) : X E G (fun r : Int32 × xMem => (some (Value.int r.1), r.2)) 16 [(0, .ref (xad G 3))] [] m (Tokens_takeKnown_b16 p0 Np0 p1 m) := by
  unfold Tokens_takeKnown_b16
  refine x_aload_n (pc := 16) (i := 0) (a := 0) g dX9_takeKnown_16 rfl rfl ?_
  refine x_iconst (pc := 17) g dX9_takeKnown_17 ic_1 ?_
  refine x_Vim (pc := 18) g hW [.int 1] [] (c_Tokens_fail l G hW m 1) dX9_takeKnown_18 ml_9_91 (sTokens isTokens_3) rfl rfl (Nat.le_of_ble_eq_true rfl) ⟨rfl, rfl, Nat.le_of_ble_eq_true rfl, Nat.le_of_ble_eq_true rfl⟩ (fun r4 hr4 => ?_)
  refine x_pop (pc := 21) g dX9_takeKnown_21 rfl ?_
  refine x_iconst (pc := 22) g dX9_takeKnown_22 ic_m1 ?_
  exact x_iret (pc := 23) g dX9_takeKnown_23 rfl (fun _ h => h)
theorem T_Tokens_takeKnown {l : Launch} {G : xG} {E : xE} (hW : WC G) (g : xGood E l G.1 RX9 cX9_takeKnown yX9_takeKnown 4 (some .int) rm_Tokens_takeKnown) (m : xMem) (p0 : Nat) (Np0 : Nat) (p1 : Int32) (hp0 : shC p0 = .inr (1, Np0, [])) : X E G (fun r : Int32 × xMem => (some (Value.int r.1), r.2)) 0 [(0, .ref (xad G 3)), (1, .ref (xad G p0)), (2, .int p1)] [] m (Tokens_takeKnown m p0 Np0 p1) := by
  unfold Tokens_takeKnown
  refine x_aload_n (pc := 0) (i := 0) (a := 0) g dX9_takeKnown_0 rfl rfl ?_
  refine x_getI (pc := 1) g hW dX9_takeKnown_1 fl_9_22 (sTokens isTokens_3) rfl ?_
  refine x_iconst (pc := 4) g dX9_takeKnown_4 ic_2 ?_
  refine x_icmp_ne (pc := 5) (t := 16) g dX9_takeKnown_5 (by decide) ?_ ?_
  · refine x_aload_n (pc := 8) (i := 0) (a := 0) g dX9_takeKnown_8 rfl rfl ?_
    refine x_getI (pc := 9) g hW dX9_takeKnown_9 fl_9_34 (sTokens isTokens_3) rfl ?_
    refine x_iconst (pc := 12) g dX9_takeKnown_12 ic_m1 ?_
    refine x_icmp_eq (pc := 13) (t := 24) g dX9_takeKnown_13 (by decide) ?_ ?_
    · refine x_aload_n (pc := 24) (i := 1) (a := 1) g dX9_takeKnown_24 rfl rfl ?_
      refine x_iload_n (pc := 25) (i := 2) (a := 2) g dX9_takeKnown_25 rfl rfl ?_
      refine x_aload_n (pc := 26) (i := 0) (a := 0) g dX9_takeKnown_26 rfl rfl ?_
      refine x_getL (pc := 27) g hW dX9_takeKnown_27 fl_9_37 (sTokens isTokens_3) rfl ?_
      refine x_Si (pc := 30) g [.ref (xad G p0), .int p1, .long (m.2 3 9)] [] (c_Tokens_numberOf l G hW m p0 Np0 p1 (m.2 3 9) (hp0)) dX9_takeKnown_30 ms_9_79 rfl rfl (Nat.le_of_ble_eq_true rfl) ⟨rfl, rfl, Nat.le_of_ble_eq_true rfl, Nat.le_of_ble_eq_true rfl⟩ (fun r1 hr1 => ?_)
      refine x_istore_n (pc := 33) (i := 3) (lv' := [(3, .int r1), (0, .ref (xad G 3)), (1, .ref (xad G p0)), (2, .int p1)]) g dX9_takeKnown_33 rfl (by decide) rfl ?_
      refine x_iload_n (pc := 34) (i := 3) (a := 0) g dX9_takeKnown_34 rfl rfl ?_
      refine x_iconst (pc := 35) g dX9_takeKnown_35 ic_m1 ?_
      refine x_icmp_ne (pc := 36) (t := 47) g dX9_takeKnown_36 (by decide) ?_ ?_
      · refine x_aload_n (pc := 39) (i := 0) (a := 1) g dX9_takeKnown_39 rfl rfl ?_
        refine x_iconst (pc := 40) g dX9_takeKnown_40 ic_3 ?_
        refine x_Vim (pc := 41) g hW [.int 3] [] (c_Tokens_fail l G hW m 3) dX9_takeKnown_41 ml_9_91 (sTokens isTokens_3) rfl rfl (Nat.le_of_ble_eq_true rfl) ⟨rfl, rfl, Nat.le_of_ble_eq_true rfl, Nat.le_of_ble_eq_true rfl⟩ (fun r2 hr2 => ?_)
        refine x_pop (pc := 44) g dX9_takeKnown_44 rfl ?_
        refine x_iconst (pc := 45) g dX9_takeKnown_45 ic_m1 ?_
        exact x_iret (pc := 46) g dX9_takeKnown_46 rfl (fun _ h => h)
      · refine x_aload_n (pc := 47) (i := 0) (a := 1) g dX9_takeKnown_47 rfl rfl ?_
        refine x_Vv (pc := 48) g hW [] [] (c_Tokens_advance l G hW m) dX9_takeKnown_48 ml_9_65 (sTokens isTokens_3) rfl rfl (Nat.le_of_ble_eq_true rfl) ⟨rfl, rfl, Nat.le_of_ble_eq_true rfl, Nat.le_of_ble_eq_true rfl⟩ (fun r3 hr3 => ?_)
        refine x_iload_n (pc := 51) (i := 3) (a := 0) g dX9_takeKnown_51 rfl rfl ?_
        exact x_iret (pc := 52) g dX9_takeKnown_52 rfl (fun _ h => h)
    · exact x_sub [0] (T_Tokens_takeKnown_b16 hW g p0 Np0 p1 hp0 m) rfl
  · exact x_sub [0] (T_Tokens_takeKnown_b16 hW g p0 Np0 p1 hp0 m) rfl
theorem c_Tokens_takeKnown (l : Launch) (G : xG) (hW : WC G) (m : xMem) (p0 : Nat) (Np0 : Nat) (p1 : Int32) (hp0 : shC p0 = .inr (1, Np0, [])) : xCim l G yX9_takeKnown cX9_takeKnown 4 (some .int) rm_Tokens_takeKnown [.ref (xad G 3), .ref (xad G p0), .int p1] m (Tokens_takeKnown m p0 Np0 p1) :=
  xCt_of (own := RX9) (by decide) rfl (Nat.le_of_ble_eq_true rfl) rfl ⟨rfl, rfl⟩ (fun E g => T_Tokens_takeKnown hW g m p0 Np0 p1 hp0)
theorem T_Tokens_takeNumber_b37 {l : Launch} {G : xG} {E : xE} (hW : WC G) (g : xGood E l G.1 RX9 cX9_takeNumber yX9_takeNumber 4 (some .int) rm_Tokens_takeNumber) (p0 : Int32) (p1 : Int32) (s0 : Int32) (m : xMem) : X E G (fun r : Int32 × xMem => (some (Value.int r.1), r.2)) 37 [] [.int s0, .ref (xad G 3)] m (Tokens_takeNumber_b37 p0 p1 s0 m) := by
  unfold Tokens_takeNumber_b37
  refine x_Vim (pc := 37) g hW [.int s0] [] (c_Tokens_fail l G hW m s0) dX9_takeNumber_37 ml_9_91 (sTokens isTokens_3) rfl rfl (Nat.le_of_ble_eq_true rfl) ⟨rfl, rfl, Nat.le_of_ble_eq_true rfl, Nat.le_of_ble_eq_true rfl⟩ (fun r3 hr3 => ?_)
  refine x_pop (pc := 40) g dX9_takeNumber_40 rfl ?_
  refine x_iconst (pc := 41) g dX9_takeNumber_41 ic_m1 ?_
  exact x_iret (pc := 42) g dX9_takeNumber_42 rfl (fun _ h => h)
theorem T_Tokens_takeNumber_b23 {l : Launch} {G : xG} {E : xE} (hW : WC G) (g : xGood E l G.1 RX9 cX9_takeNumber yX9_takeNumber 4 (some .int) rm_Tokens_takeNumber) (p0 : Int32) (p1 : Int32) (m : xMem) : X E G (fun r : Int32 × xMem => (some (Value.int r.1), r.2)) 23 [(0, .ref (xad G 3))] [] m (Tokens_takeNumber_b23 p0 p1 m) := by
  unfold Tokens_takeNumber_b23
  refine x_aload_n (pc := 23) (i := 0) (a := 0) g dX9_takeNumber_23 rfl rfl ?_
  refine x_aload_n (pc := 24) (i := 0) (a := 0) g dX9_takeNumber_24 rfl rfl ?_
  refine x_getI (pc := 25) g hW dX9_takeNumber_25 fl_9_22 (sTokens isTokens_3) rfl ?_
  refine x_iconst (pc := 28) g dX9_takeNumber_28 ic_3 ?_
  refine x_icmp_eq (pc := 29) (t := 36) g dX9_takeNumber_29 (by decide) ?_ ?_
  · refine x_iconst (pc := 36) g dX9_takeNumber_36 ic_2 ?_
    exact x_sub [] (T_Tokens_takeNumber_b37 hW g p0 p1 2 m) rfl
  · refine x_iconst (pc := 32) g dX9_takeNumber_32 ic_1 ?_
    refine x_goto (pc := 33) (t := 37) g dX9_takeNumber_33 (by decide) ?_
    exact x_sub [] (T_Tokens_takeNumber_b37 hW g p0 p1 1 m) rfl
theorem T_Tokens_takeNumber {l : Launch} {G : xG} {E : xE} (hW : WC G) (g : xGood E l G.1 RX9 cX9_takeNumber yX9_takeNumber 4 (some .int) rm_Tokens_takeNumber) (m : xMem) (p0 : Int32) (p1 : Int32) : X E G (fun r : Int32 × xMem => (some (Value.int r.1), r.2)) 0 [(0, .ref (xad G 3)), (1, .int p0), (2, .int p1)] [] m (Tokens_takeNumber m p0 p1) := by
  unfold Tokens_takeNumber
  refine x_aload_n (pc := 0) (i := 0) (a := 0) g dX9_takeNumber_0 rfl rfl ?_
  refine x_getI (pc := 1) g hW dX9_takeNumber_1 fl_9_31 (sTokens isTokens_3) rfl ?_
  refine x_nmI (fun x1 => ?_)
  refine x_istore_n (pc := 4) (i := 3) (lv' := [(3, .int x1), (0, .ref (xad G 3)), (1, .int p0), (2, .int p1)]) g dX9_takeNumber_4 rfl (by decide) rfl ?_
  refine x_aload_n (pc := 5) (i := 0) (a := 1) g dX9_takeNumber_5 rfl rfl ?_
  refine x_getI (pc := 6) g hW dX9_takeNumber_6 fl_9_22 (sTokens isTokens_3) rfl ?_
  refine x_iconst (pc := 9) g dX9_takeNumber_9 ic_3 ?_
  refine x_icmp_ne (pc := 10) (t := 23) g dX9_takeNumber_10 (by decide) ?_ ?_
  · refine x_iload_n (pc := 13) (i := 3) (a := 0) g dX9_takeNumber_13 rfl rfl ?_
    refine x_iload_n (pc := 14) (i := 1) (a := 2) g dX9_takeNumber_14 rfl rfl ?_
    refine x_icmp_lt (pc := 15) (t := 23) g dX9_takeNumber_15 (by decide) ?_ ?_
    · exact x_sub [1] (T_Tokens_takeNumber_b23 hW g p0 p1 m) rfl
    · refine x_iload_n (pc := 18) (i := 3) (a := 0) g dX9_takeNumber_18 rfl rfl ?_
      refine x_iload_n (pc := 19) (i := 2) (a := 3) g dX9_takeNumber_19 rfl rfl ?_
      refine x_icmp_le (pc := 20) (t := 43) g dX9_takeNumber_20 (by decide) ?_ ?_
      · exact x_sub [1] (T_Tokens_takeNumber_b23 hW g p0 p1 m) rfl
      · refine x_aload_n (pc := 43) (i := 0) (a := 1) g dX9_takeNumber_43 rfl rfl ?_
        refine x_Vv (pc := 44) g hW [] [] (c_Tokens_advance l G hW m) dX9_takeNumber_44 ml_9_65 (sTokens isTokens_3) rfl rfl (Nat.le_of_ble_eq_true rfl) ⟨rfl, rfl, Nat.le_of_ble_eq_true rfl, Nat.le_of_ble_eq_true rfl⟩ (fun r2 hr2 => ?_)
        refine x_iload_n (pc := 47) (i := 3) (a := 0) g dX9_takeNumber_47 rfl rfl ?_
        exact x_iret (pc := 48) g dX9_takeNumber_48 rfl (fun _ h => h)
  · exact x_sub [1] (T_Tokens_takeNumber_b23 hW g p0 p1 m) rfl
theorem c_Tokens_takeNumber (l : Launch) (G : xG) (hW : WC G) (m : xMem) (p0 : Int32) (p1 : Int32) : xCim l G yX9_takeNumber cX9_takeNumber 4 (some .int) rm_Tokens_takeNumber [.ref (xad G 3), .int p0, .int p1] m (Tokens_takeNumber m p0 p1) :=
  xCt_of (own := RX9) (by decide) rfl (Nat.le_of_ble_eq_true rfl) rfl ⟨rfl, rfl⟩ (fun E g => T_Tokens_takeNumber hW g m p0 p1)
theorem T_Tokens_isSign {l : Launch} {G : xG} {E : xE} (hW : WC G) (g : xGood E l G.1 RX9 cX9_isSign yX9_isSign 2 (some .boolean) rm_Tokens_isSign) (m : xMem) (p0 : Int32) : X E G (fun r : Int32 => (some (Value.int r), m)) 0 [(0, .ref (xad G 3)), (1, .int p0)] [] m (Tokens_isSign m p0) := by
  unfold Tokens_isSign
  refine x_aload_n (pc := 0) (i := 0) (a := 0) g dX9_isSign_0 rfl rfl ?_
  refine x_getI (pc := 1) g hW dX9_isSign_1 fl_9_22 (sTokens isTokens_3) rfl ?_
  refine x_iconst (pc := 4) g dX9_isSign_4 ic_4 ?_
  refine x_icmp_ne (pc := 5) (t := 20) g dX9_isSign_5 (by decide) ?_ ?_
  · refine x_aload_n (pc := 8) (i := 0) (a := 0) g dX9_isSign_8 rfl rfl ?_
    refine x_getI (pc := 9) g hW dX9_isSign_9 fl_9_31 (sTokens isTokens_3) rfl ?_
    refine x_iload_n (pc := 12) (i := 1) (a := 1) g dX9_isSign_12 rfl rfl ?_
    refine x_icmp_ne (pc := 13) (t := 20) g dX9_isSign_13 (by decide) ?_ ?_
    · refine x_iconst (pc := 16) g dX9_isSign_16 ic_1 ?_
      refine x_goto (pc := 17) (t := 21) g dX9_isSign_17 (by decide) ?_
      exact x_zretc (pc := 21) g dX9_isSign_21 rfl (Or.inr rfl) (fun _ h => h)
    · refine x_iconst (pc := 20) g dX9_isSign_20 ic_0 ?_
      exact x_zretc (pc := 21) g dX9_isSign_21 rfl (Or.inl rfl) (fun _ h => h)
  · refine x_iconst (pc := 20) g dX9_isSign_20 ic_0 ?_
    exact x_zretc (pc := 21) g dX9_isSign_21 rfl (Or.inl rfl) (fun _ h => h)
theorem c_Tokens_isSign (l : Launch) (G : xG) (hW : WC G) (m : xMem) (p0 : Int32) : xCi l G yX9_isSign cX9_isSign 2 (some .boolean) rm_Tokens_isSign [.ref (xad G 3), .int p0] m (Tokens_isSign m p0) :=
  xCt_of (own := RX9) (by decide) rfl (Nat.le_of_ble_eq_true rfl) rfl ⟨rfl, rfl⟩ (fun E g => T_Tokens_isSign hW g m p0)
theorem T_Tokens_skipSign {l : Launch} {G : xG} {E : xE} (hW : WC G) (g : xGood E l G.1 RX9 cX9_skipSign yX9_skipSign 2 (some .boolean) rm_Tokens_skipSign) (m : xMem) (p0 : Int32) : X E G (fun r : Int32 × xMem => (some (Value.int r.1), r.2)) 0 [(0, .ref (xad G 3)), (1, .int p0)] [] m (Tokens_skipSign m p0) := by
  unfold Tokens_skipSign
  refine x_aload_n (pc := 0) (i := 0) (a := 0) g dX9_skipSign_0 rfl rfl ?_
  refine x_iload_n (pc := 1) (i := 1) (a := 1) g dX9_skipSign_1 rfl rfl ?_
  refine x_Vi (pc := 2) g hW [.int p0] [] (c_Tokens_isSign l G hW m p0) dX9_skipSign_2 ml_9_87 (sTokens isTokens_3) rfl rfl (Nat.le_of_ble_eq_true rfl) ⟨rfl, rfl, Nat.le_of_ble_eq_true rfl, Nat.le_of_ble_eq_true rfl⟩ (fun r1 hr1 => ?_)
  refine x_if_ne (pc := 5) (t := 14) g dX9_skipSign_5 (by decide) ?_ ?_
  · refine x_aload_n (pc := 8) (i := 0) (a := 0) g dX9_skipSign_8 rfl rfl ?_
    refine x_iconst (pc := 9) g dX9_skipSign_9 ic_1 ?_
    refine x_Vim (pc := 10) g hW [.int 1] [] (c_Tokens_fail l G hW m 1) dX9_skipSign_10 ml_9_91 (sTokens isTokens_3) rfl rfl (Nat.le_of_ble_eq_true rfl) ⟨rfl, rfl, Nat.le_of_ble_eq_true rfl, Nat.le_of_ble_eq_true rfl⟩ (fun r2 hr2 => ?_)
    exact x_zret (pc := 13) g dX9_skipSign_13 rfl (fun _ _ h => h)
  · refine x_aload_n (pc := 14) (i := 0) (a := 0) g dX9_skipSign_14 rfl rfl ?_
    refine x_Vv (pc := 15) g hW [] [] (c_Tokens_advance l G hW m) dX9_skipSign_15 ml_9_65 (sTokens isTokens_3) rfl rfl (Nat.le_of_ble_eq_true rfl) ⟨rfl, rfl, Nat.le_of_ble_eq_true rfl, Nat.le_of_ble_eq_true rfl⟩ (fun r3 hr3 => ?_)
    refine x_iconst (pc := 18) g dX9_skipSign_18 ic_1 ?_
    exact x_zretc (pc := 19) g dX9_skipSign_19 rfl (Or.inr rfl) (fun _ h => h)
theorem c_Tokens_skipSign (l : Launch) (G : xG) (hW : WC G) (m : xMem) (p0 : Int32) : xCim l G yX9_skipSign cX9_skipSign 2 (some .boolean) rm_Tokens_skipSign [.ref (xad G 3), .int p0] m (Tokens_skipSign m p0) :=
  xCt_of (own := RX9) (by decide) rfl (Nat.le_of_ble_eq_true rfl) rfl ⟨rfl, rfl⟩ (fun E g => T_Tokens_skipSign hW g m p0)
theorem T_State_owlAt_b2 {l : Launch} {G : xG} {E : xE} (hW : WC G) (g : xGood E l G.1 RX7 cX7_owlAt yX7_owlAt 4 (some .int) rm_State_owlAt) (m : xMem) (o : Nat) (p0 : Nat) (p1 : Int32) (ho : isState o) (hp0 : isHouse p0) : ∀ (n : Nat) (v3 : Int32), X E G (fun r : Int32 => (some (Value.int r), m)) 2 [(0, .ref (xad G o)), (1, .ref (xad G p0)), (2, .int p1), (3, .int v3)] [] m (State_owlAt_b2 m o p0 p1 n v3) := by
  intro n
  induction n with
  | zero => intro v3; exact x_none
  | succ n ih =>
    intro v3
    rw [State_owlAt_b2]
    refine x_iload_n (pc := 2) (i := 3) (a := 3) g dX7_owlAt_2 rfl rfl ?_
    refine x_aload_n (pc := 3) (i := 1) (a := 1) g dX7_owlAt_3 rfl rfl ?_
    refine x_getI (pc := 4) g hW dX7_owlAt_4 fl_7_34 (sHouse hp0) rfl ?_
    refine x_icmp_ge (pc := 7) (t := 28) g dX7_owlAt_7 (by decide) ?_ ?_
    · refine x_aload_n (pc := 10) (i := 0) (a := 0) g dX7_owlAt_10 rfl rfl ?_
      refine x_getR (pc := 11) (x := o + 2) g hW dX7_owlAt_11 fl_7_25 (sState ho) rfl ?_
      refine x_iload_n (pc := 14) (i := 3) (a := 3) g dX7_owlAt_14 rfl rfl ?_
      refine x_iald (pc := 15) g hW dX7_owlAt_15 (sState_owlBed ho) (fun j1 hj1 => ?_)
      refine x_iload_n (pc := 16) (i := 2) (a := 2) g dX7_owlAt_16 rfl rfl ?_
      refine x_icmp_ne (pc := 17) (t := 22) g dX7_owlAt_17 (by decide) ?_ ?_
      · refine x_iload_n (pc := 20) (i := 3) (a := 3) g dX7_owlAt_20 rfl rfl ?_
        exact x_iret (pc := 21) g dX7_owlAt_21 rfl (fun _ h => h)
      · refine x_iinc (pc := 22) (a := 3) (lv' := [(3, .int (v3 + 1)), (0, .ref (xad G o)), (1, .ref (xad G p0)), (2, .int p1)]) g dX7_owlAt_22 ic_1 rfl (by decide) rfl ?_
        refine x_goto (pc := 25) (t := 2) g dX7_owlAt_25 (by decide) ?_
        exact x_sub [1, 2, 3, 0] (ih (v3 + 1)) rfl
    · refine x_iconst (pc := 28) g dX7_owlAt_28 ic_m1 ?_
      exact x_iret (pc := 29) g dX7_owlAt_29 rfl (fun _ h => h)
theorem T_State_owlAt {l : Launch} {G : xG} {E : xE} (hW : WC G) (g : xGood E l G.1 RX7 cX7_owlAt yX7_owlAt 4 (some .int) rm_State_owlAt) (m : xMem) (o : Nat) (p0 : Nat) (p1 : Int32) (ho : isState o) (hp0 : isHouse p0) : X E G (fun r : Int32 => (some (Value.int r), m)) 0 [(0, .ref (xad G o)), (1, .ref (xad G p0)), (2, .int p1)] [] m (State_owlAt m o p0 p1) := by
  unfold State_owlAt
  refine x_iconst (pc := 0) g dX7_owlAt_0 ic_0 ?_
  refine x_istore_n (pc := 1) (i := 3) (lv' := [(3, .int 0), (0, .ref (xad G o)), (1, .ref (xad G p0)), (2, .int p1)]) g dX7_owlAt_1 rfl (by decide) rfl ?_
  exact x_sub [1, 2, 3, 0] (T_State_owlAt_b2 hW g m o p0 p1 ho hp0 1000 0) rfl
theorem c_State_owlAt (l : Launch) (G : xG) (hW : WC G) (m : xMem) (o : Nat) (p0 : Nat) (p1 : Int32) (ho : isState o) (hp0 : isHouse p0) : xCi l G yX7_owlAt cX7_owlAt 4 (some .int) rm_State_owlAt [.ref (xad G o), .ref (xad G p0), .int p1] m (State_owlAt m o p0 p1) :=
  xCt_of (own := RX7) (by decide) rfl (Nat.le_of_ble_eq_true rfl) rfl ⟨rfl, rfl⟩ (fun E g => T_State_owlAt hW g m o p0 p1 ho hp0)
theorem T_State_lendTo {l : Launch} {G : xG} {E : xE} (hW : WC G) (g : xGood E l G.1 RX7 cX7_lendTo yX7_lendTo 4 (some .int) rm_State_lendTo) (m : xMem) (o : Nat) (p0 : Nat) (p1 : Int32) (p2 : Int32) (ho : isState o) (hp0 : isHouse p0) : X E G (fun r : Int32 × xMem => (some (Value.int r.1), r.2)) 0 [(0, .ref (xad G o)), (1, .ref (xad G p0)), (2, .int p1), (3, .int p2)] [] m (State_lendTo m o p0 p1 p2) := by
  unfold State_lendTo
  refine x_aload_n (pc := 0) (i := 0) (a := 0) g dX7_lendTo_0 rfl rfl ?_
  refine x_getR (pc := 1) (x := o + 2) g hW dX7_lendTo_1 fl_7_25 (sState ho) rfl ?_
  refine x_iload_n (pc := 4) (i := 2) (a := 2) g dX7_lendTo_4 rfl rfl ?_
  refine x_iald (pc := 5) g hW dX7_lendTo_5 (sState_owlBed ho) (fun j1 hj1 => ?_)
  refine x_iload_n (pc := 6) (i := 3) (a := 3) g dX7_lendTo_6 rfl rfl ?_
  refine x_icmp_ne (pc := 7) (t := 12) g dX7_lendTo_7 (by decide) ?_ ?_
  · refine x_iconst (pc := 10) g dX7_lendTo_10 ic_1 ?_
    exact x_iret (pc := 11) g dX7_lendTo_11 rfl (fun _ h => h)
  · refine x_aload_n (pc := 12) (i := 0) (a := 0) g dX7_lendTo_12 rfl rfl ?_
    refine x_aload_n (pc := 13) (i := 1) (a := 1) g dX7_lendTo_13 rfl rfl ?_
    refine x_iload_n (pc := 14) (i := 3) (a := 3) g dX7_lendTo_14 rfl rfl ?_
    refine x_Vi (pc := 15) g hW [.ref (xad G p0), .int p2] [] (c_State_owlAt l G hW m o p0 p2 ho hp0) dX7_lendTo_15 ml_7_96 (sState ho) rfl rfl (Nat.le_of_ble_eq_true rfl) ⟨rfl, rfl, Nat.le_of_ble_eq_true rfl, Nat.le_of_ble_eq_true rfl⟩ (fun r2 hr2 => ?_)
    refine x_iconst (pc := 18) g dX7_lendTo_18 ic_m1 ?_
    refine x_icmp_eq (pc := 19) (t := 24) g dX7_lendTo_19 (by decide) ?_ ?_
    · refine x_aload_n (pc := 24) (i := 0) (a := 0) g dX7_lendTo_24 rfl rfl ?_
      refine x_getR (pc := 25) (x := o + 2) g hW dX7_lendTo_25 fl_7_25 (sState ho) rfl ?_
      refine x_iload_n (pc := 28) (i := 2) (a := 2) g dX7_lendTo_28 rfl rfl ?_
      refine x_iload_n (pc := 29) (i := 3) (a := 3) g dX7_lendTo_29 rfl rfl ?_
      refine x_iast (pc := 30) g hW dX7_lendTo_30 (sState_owlBed ho) (fun j4 hj4 m3 => ?_)
      refine x_iconst (pc := 31) g dX7_lendTo_31 ic_0 ?_
      exact x_iret (pc := 32) g dX7_lendTo_32 rfl (fun _ h => h)
    · refine x_iconst (pc := 22) g dX7_lendTo_22 ic_2 ?_
      exact x_iret (pc := 23) g dX7_lendTo_23 rfl (fun _ h => h)
theorem c_State_lendTo (l : Launch) (G : xG) (hW : WC G) (m : xMem) (o : Nat) (p0 : Nat) (p1 : Int32) (p2 : Int32) (ho : isState o) (hp0 : isHouse p0) : xCim l G yX7_lendTo cX7_lendTo 4 (some .int) rm_State_lendTo [.ref (xad G o), .ref (xad G p0), .int p1, .int p2] m (State_lendTo m o p0 p1 p2) :=
  xCt_of (own := RX7) (by decide) rfl (Nat.le_of_ble_eq_true rfl) rfl ⟨rfl, rfl⟩ (fun E g => T_State_lendTo hW g m o p0 p1 p2 ho hp0)
theorem T_State_hushOne {l : Launch} {G : xG} {E : xE} (hW : WC G) (g : xGood E l G.1 RX7 cX7_hushOne yX7_hushOne 2 (some .int) rm_State_hushOne) (m : xMem) (o : Nat) (p0 : Int32) (ho : isState o) : X E G (fun r : Int32 × xMem => (some (Value.int r.1), r.2)) 0 [(0, .ref (xad G o)), (1, .int p0)] [] m (State_hushOne m o p0) := by
  unfold State_hushOne
  refine x_aload_n (pc := 0) (i := 0) (a := 0) g dX7_hushOne_0 rfl rfl ?_
  refine x_getI (pc := 1) g hW dX7_hushOne_1 fl_7_15 (sState ho) rfl ?_
  refine x_iload_n (pc := 4) (i := 1) (a := 1) g dX7_hushOne_4 rfl rfl ?_
  refine x_ishr (pc := 5) g dX7_hushOne_5 ?_
  refine x_iconst (pc := 6) g dX7_hushOne_6 ic_1 ?_
  refine x_iand (pc := 7) g dX7_hushOne_7 ?_
  refine x_iconst (pc := 8) g dX7_hushOne_8 ic_1 ?_
  refine x_icmp_ne (pc := 9) (t := 14) g dX7_hushOne_9 (by decide) ?_ ?_
  · refine x_iconst (pc := 12) g dX7_hushOne_12 ic_1 ?_
    exact x_iret (pc := 13) g dX7_hushOne_13 rfl (fun _ h => h)
  · refine x_aload_n (pc := 14) (i := 0) (a := 0) g dX7_hushOne_14 rfl rfl ?_
    refine x_dup (pc := 15) g dX7_hushOne_15 rfl ?_
    refine x_getI (pc := 16) g hW dX7_hushOne_16 fl_7_15 (sState ho) rfl ?_
    refine x_iconst (pc := 19) g dX7_hushOne_19 ic_1 ?_
    refine x_iload_n (pc := 20) (i := 1) (a := 1) g dX7_hushOne_20 rfl rfl ?_
    refine x_ishl (pc := 21) g dX7_hushOne_21 ?_
    refine x_ior (pc := 22) g dX7_hushOne_22 ?_
    refine x_putI (pc := 23) g hW dX7_hushOne_23 fl_7_15 ft_7_1 (sState ho) rfl (fun m1 => ?_)
    refine x_iconst (pc := 26) g dX7_hushOne_26 ic_0 ?_
    exact x_iret (pc := 27) g dX7_hushOne_27 rfl (fun _ h => h)
theorem c_State_hushOne (l : Launch) (G : xG) (hW : WC G) (m : xMem) (o : Nat) (p0 : Int32) (ho : isState o) : xCim l G yX7_hushOne cX7_hushOne 2 (some .int) rm_State_hushOne [.ref (xad G o), .int p0] m (State_hushOne m o p0) :=
  xCt_of (own := RX7) (by decide) rfl (Nat.le_of_ble_eq_true rfl) rfl ⟨rfl, rfl⟩ (fun E g => T_State_hushOne hW g m o p0 ho)
theorem T_State_letOne {l : Launch} {G : xG} {E : xE} (hW : WC G) (g : xGood E l G.1 RX7 cX7_letOne yX7_letOne 2 (some .int) rm_State_letOne) (m : xMem) (o : Nat) (p0 : Int32) (ho : isState o) : X E G (fun r : Int32 × xMem => (some (Value.int r.1), r.2)) 0 [(0, .ref (xad G o)), (1, .int p0)] [] m (State_letOne m o p0) := by
  unfold State_letOne
  refine x_aload_n (pc := 0) (i := 0) (a := 0) g dX7_letOne_0 rfl rfl ?_
  refine x_getI (pc := 1) g hW dX7_letOne_1 fl_7_15 (sState ho) rfl ?_
  refine x_iload_n (pc := 4) (i := 1) (a := 1) g dX7_letOne_4 rfl rfl ?_
  refine x_ishr (pc := 5) g dX7_letOne_5 ?_
  refine x_iconst (pc := 6) g dX7_letOne_6 ic_1 ?_
  refine x_iand (pc := 7) g dX7_letOne_7 ?_
  refine x_if_ne (pc := 8) (t := 13) g dX7_letOne_8 (by decide) ?_ ?_
  · refine x_iconst (pc := 11) g dX7_letOne_11 ic_1 ?_
    exact x_iret (pc := 12) g dX7_letOne_12 rfl (fun _ h => h)
  · refine x_aload_n (pc := 13) (i := 0) (a := 0) g dX7_letOne_13 rfl rfl ?_
    refine x_dup (pc := 14) g dX7_letOne_14 rfl ?_
    refine x_getI (pc := 15) g hW dX7_letOne_15 fl_7_15 (sState ho) rfl ?_
    refine x_iconst (pc := 18) g dX7_letOne_18 ic_1 ?_
    refine x_iload_n (pc := 19) (i := 1) (a := 1) g dX7_letOne_19 rfl rfl ?_
    refine x_ishl (pc := 20) g dX7_letOne_20 ?_
    refine x_iconst (pc := 21) g dX7_letOne_21 ic_m1 ?_
    refine x_ixor (pc := 22) g dX7_letOne_22 ?_
    refine x_iand (pc := 23) g dX7_letOne_23 ?_
    refine x_putI (pc := 24) g hW dX7_letOne_24 fl_7_15 ft_7_1 (sState ho) rfl (fun m1 => ?_)
    refine x_iconst (pc := 27) g dX7_letOne_27 ic_0 ?_
    exact x_iret (pc := 28) g dX7_letOne_28 rfl (fun _ h => h)
theorem c_State_letOne (l : Launch) (G : xG) (hW : WC G) (m : xMem) (o : Nat) (p0 : Int32) (ho : isState o) : xCim l G yX7_letOne cX7_letOne 2 (some .int) rm_State_letOne [.ref (xad G o), .int p0] m (State_letOne m o p0) :=
  xCt_of (own := RX7) (by decide) rfl (Nat.le_of_ble_eq_true rfl) rfl ⟨rfl, rfl⟩ (fun E g => T_State_letOne hW g m o p0 ho)
theorem T_House_hasCell {l : Launch} {G : xG} {E : xE} (hW : WC G) (g : xGood E l G.1 RX2 cX2_hasCell yX2_hasCell 3 (some .boolean) rm_House_hasCell) (m : xMem) (o : Nat) (p0 : Int32) (p1 : Int32) (ho : isHouse o) : X E G (fun r : Int32 => (some (Value.int r), m)) 0 [(0, .ref (xad G o)), (1, .int p0), (2, .int p1)] [] m (House_hasCell m o p0 p1) := by
  unfold House_hasCell
  refine x_iload_n (pc := 0) (i := 1) (a := 1) g dX2_hasCell_0 rfl rfl ?_
  refine x_if_lt (pc := 1) (t := 28) g dX2_hasCell_1 (by decide) ?_ ?_
  · refine x_iconst (pc := 28) g dX2_hasCell_28 ic_0 ?_
    exact x_zretc (pc := 29) g dX2_hasCell_29 rfl (Or.inl rfl) (fun _ h => h)
  · refine x_iload_n (pc := 4) (i := 1) (a := 1) g dX2_hasCell_4 rfl rfl ?_
    refine x_aload_n (pc := 5) (i := 0) (a := 0) g dX2_hasCell_5 rfl rfl ?_
    refine x_getI (pc := 6) g hW dX2_hasCell_6 fl_2_9 (sHouse ho) rfl ?_
    refine x_icmp_ge (pc := 9) (t := 28) g dX2_hasCell_9 (by decide) ?_ ?_
    · refine x_iload_n (pc := 12) (i := 2) (a := 2) g dX2_hasCell_12 rfl rfl ?_
      refine x_if_lt (pc := 13) (t := 28) g dX2_hasCell_13 (by decide) ?_ ?_
      · refine x_iconst (pc := 28) g dX2_hasCell_28 ic_0 ?_
        exact x_zretc (pc := 29) g dX2_hasCell_29 rfl (Or.inl rfl) (fun _ h => h)
      · refine x_iload_n (pc := 16) (i := 2) (a := 2) g dX2_hasCell_16 rfl rfl ?_
        refine x_aload_n (pc := 17) (i := 0) (a := 0) g dX2_hasCell_17 rfl rfl ?_
        refine x_getI (pc := 18) g hW dX2_hasCell_18 fl_2_15 (sHouse ho) rfl ?_
        refine x_icmp_ge (pc := 21) (t := 28) g dX2_hasCell_21 (by decide) ?_ ?_
        · refine x_iconst (pc := 24) g dX2_hasCell_24 ic_1 ?_
          refine x_goto (pc := 25) (t := 29) g dX2_hasCell_25 (by decide) ?_
          exact x_zretc (pc := 29) g dX2_hasCell_29 rfl (Or.inr rfl) (fun _ h => h)
        · refine x_iconst (pc := 28) g dX2_hasCell_28 ic_0 ?_
          exact x_zretc (pc := 29) g dX2_hasCell_29 rfl (Or.inl rfl) (fun _ h => h)
    · refine x_iconst (pc := 28) g dX2_hasCell_28 ic_0 ?_
      exact x_zretc (pc := 29) g dX2_hasCell_29 rfl (Or.inl rfl) (fun _ h => h)
theorem c_House_hasCell (l : Launch) (G : xG) (hW : WC G) (m : xMem) (o : Nat) (p0 : Int32) (p1 : Int32) (ho : isHouse o) : xCi l G yX2_hasCell cX2_hasCell 3 (some .boolean) rm_House_hasCell [.ref (xad G o), .int p0, .int p1] m (House_hasCell m o p0 p1) :=
  xCt_of (own := RX2) (by decide) rfl (Nat.le_of_ble_eq_true rfl) rfl ⟨rfl, rfl⟩ (fun E g => T_House_hasCell hW g m o p0 p1 ho)
theorem T_State_isShouted {l : Launch} {G : xG} {E : xE} (hW : WC G) (g : xGood E l G.1 RX7 cX7_isShouted yX7_isShouted 1 (some .boolean) rm_State_isShouted) (m : xMem) (o : Nat) (ho : isState o) : X E G (fun r : Int32 => (some (Value.int r), m)) 0 [(0, .ref (xad G o))] [] m (State_isShouted m o) := by
  unfold State_isShouted
  refine x_aload_n (pc := 0) (i := 0) (a := 0) g dX7_isShouted_0 rfl rfl ?_
  refine x_getR (pc := 1) (x := o + 1) g hW dX7_isShouted_1 fl_7_21 (sState ho) rfl ?_
  refine x_iconst (pc := 4) g dX7_isShouted_4 ic_3 ?_
  refine x_ialdc (pc := 5) g hW dX7_isShouted_5 (sState_shoutRow ho) ix_3_4 ?_
  refine x_if_le (pc := 6) (t := 13) g dX7_isShouted_6 (by decide) ?_ ?_
  · refine x_iconst (pc := 9) g dX7_isShouted_9 ic_1 ?_
    refine x_goto (pc := 10) (t := 14) g dX7_isShouted_10 (by decide) ?_
    exact x_zretc (pc := 14) g dX7_isShouted_14 rfl (Or.inr rfl) (fun _ h => h)
  · refine x_iconst (pc := 13) g dX7_isShouted_13 ic_0 ?_
    exact x_zretc (pc := 14) g dX7_isShouted_14 rfl (Or.inl rfl) (fun _ h => h)
theorem c_State_isShouted (l : Launch) (G : xG) (hW : WC G) (m : xMem) (o : Nat) (ho : isState o) : xCi l G yX7_isShouted cX7_isShouted 1 (some .boolean) rm_State_isShouted [.ref (xad G o)] m (State_isShouted m o) :=
  xCt_of (own := RX7) (by decide) rfl (Nat.le_of_ble_eq_true rfl) rfl ⟨rfl, rfl⟩ (fun E g => T_State_isShouted hW g m o ho)
theorem T_State_shoutIn {l : Launch} {G : xG} {E : xE} (hW : WC G) (g : xGood E l G.1 RX7 cX7_shoutIn yX7_shoutIn 4 (some .int) rm_State_shoutIn) (m : xMem) (o : Nat) (p0 : Int32) (p1 : Int32) (p2 : Int32) (ho : isState o) : X E G (fun r : Int32 × xMem => (some (Value.int r.1), r.2)) 0 [(0, .ref (xad G o)), (1, .int p0), (2, .int p1), (3, .int p2)] [] m (State_shoutIn m o p0 p1 p2) := by
  unfold State_shoutIn
  refine x_aload_n (pc := 0) (i := 0) (a := 0) g dX7_shoutIn_0 rfl rfl ?_
  refine x_Vi (pc := 1) g hW [] [] (c_State_isShouted l G hW m o ho) dX7_shoutIn_1 ml_7_99 (sState ho) rfl rfl (Nat.le_of_ble_eq_true rfl) ⟨rfl, rfl, Nat.le_of_ble_eq_true rfl, Nat.le_of_ble_eq_true rfl⟩ (fun r1 hr1 => ?_)
  refine x_if_eq (pc := 4) (t := 9) g dX7_shoutIn_4 (by decide) ?_ ?_
  · refine x_aload_n (pc := 9) (i := 0) (a := 0) g dX7_shoutIn_9 rfl rfl ?_
    refine x_getR (pc := 10) (x := o + 1) g hW dX7_shoutIn_10 fl_7_21 (sState ho) rfl ?_
    refine x_iconst (pc := 13) g dX7_shoutIn_13 ic_0 ?_
    refine x_iconst (pc := 14) g dX7_shoutIn_14 ic_1 ?_
    refine x_iastc (pc := 15) g hW dX7_shoutIn_15 (sState_shoutRow ho) ix_0_4 (fun m2 => ?_)
    refine x_aload_n (pc := 16) (i := 0) (a := 0) g dX7_shoutIn_16 rfl rfl ?_
    refine x_getR (pc := 17) (x := o + 1) g hW dX7_shoutIn_17 fl_7_21 (sState ho) rfl ?_
    refine x_iconst (pc := 20) g dX7_shoutIn_20 ic_1 ?_
    refine x_iload_n (pc := 21) (i := 1) (a := 1) g dX7_shoutIn_21 rfl rfl ?_
    refine x_iastc (pc := 22) g hW dX7_shoutIn_22 (sState_shoutRow ho) ix_1_4 (fun m3 => ?_)
    refine x_aload_n (pc := 23) (i := 0) (a := 0) g dX7_shoutIn_23 rfl rfl ?_
    refine x_getR (pc := 24) (x := o + 1) g hW dX7_shoutIn_24 fl_7_21 (sState ho) rfl ?_
    refine x_iconst (pc := 27) g dX7_shoutIn_27 ic_2 ?_
    refine x_iload_n (pc := 28) (i := 2) (a := 2) g dX7_shoutIn_28 rfl rfl ?_
    refine x_iastc (pc := 29) g hW dX7_shoutIn_29 (sState_shoutRow ho) ix_2_4 (fun m4 => ?_)
    refine x_aload_n (pc := 30) (i := 0) (a := 0) g dX7_shoutIn_30 rfl rfl ?_
    refine x_getR (pc := 31) (x := o + 1) g hW dX7_shoutIn_31 fl_7_21 (sState ho) rfl ?_
    refine x_iconst (pc := 34) g dX7_shoutIn_34 ic_3 ?_
    refine x_iload_n (pc := 35) (i := 3) (a := 3) g dX7_shoutIn_35 rfl rfl ?_
    refine x_iastc (pc := 36) g hW dX7_shoutIn_36 (sState_shoutRow ho) ix_3_4 (fun m5 => ?_)
    refine x_aload_n (pc := 37) (i := 0) (a := 0) g dX7_shoutIn_37 rfl rfl ?_
    refine x_dup (pc := 38) g dX7_shoutIn_38 rfl ?_
    refine x_getI (pc := 39) g hW dX7_shoutIn_39 fl_7_18 (sState ho) rfl ?_
    refine x_iconst (pc := 42) g dX7_shoutIn_42 ic_1 ?_
    refine x_iadd (pc := 43) g dX7_shoutIn_43 ?_
    refine x_putI (pc := 44) g hW dX7_shoutIn_44 fl_7_18 ft_7_2 (sState ho) rfl (fun m6 => ?_)
    refine x_iconst (pc := 47) g dX7_shoutIn_47 ic_0 ?_
    exact x_iret (pc := 48) g dX7_shoutIn_48 rfl (fun _ h => h)
  · refine x_iconst (pc := 7) g dX7_shoutIn_7 ic_1 ?_
    exact x_iret (pc := 8) g dX7_shoutIn_8 rfl (fun _ h => h)
theorem c_State_shoutIn (l : Launch) (G : xG) (hW : WC G) (m : xMem) (o : Nat) (p0 : Int32) (p1 : Int32) (p2 : Int32) (ho : isState o) : xCim l G yX7_shoutIn cX7_shoutIn 4 (some .int) rm_State_shoutIn [.ref (xad G o), .int p0, .int p1, .int p2] m (State_shoutIn m o p0 p1 p2) :=
  xCt_of (own := RX7) (by decide) rfl (Nat.le_of_ble_eq_true rfl) rfl ⟨rfl, rfl⟩ (fun E g => T_State_shoutIn hW g m o p0 p1 p2 ho)
theorem T_State_passHour_b90 {l : Launch} {G : xG} {E : xE} (hW : WC G) (g : xGood E l G.1 RX7 cX7_passHour yX7_passHour 8 none rm_State_passHour) (o : Nat) (p0 : Nat) (ho : isState o) (hp0 : isHouse p0) (k19 : Int32 → Int32 → Int32 → xMem → Option (xMem)) (hk19 : ∀ (v2 : Int32) (v3 : Int32) (v4 : Int32) (m : xMem), X E G (fun r : xMem => ((none : Option Value), r)) 19 [(0, .ref (xad G o)), (1, .ref (xad G p0)), (2, .int v2), (3, .int v3), (4, .int v4)] [] m (k19 v2 v3 v4 m)) : ∀ (n : Nat) (v2 : Int32) (v3 : Int32) (v4 : Int32) (v6 : Int32) (v7 : Int32) (m : xMem), X E G (fun r : xMem => ((none : Option Value), r)) 90 [(0, .ref (xad G o)), (1, .ref (xad G p0)), (2, .int v2), (3, .int v3), (4, .int v4), (6, .int v6), (7, .int v7)] [] m (State_passHour_b90 o p0 k19 n v2 v3 v4 v6 v7 m) := by
  intro n
  induction n with
  | zero => intro v2 v3 v4 v6 v7 m; exact x_none
  | succ n ih =>
    intro v2 v3 v4 v6 v7 m
    rw [State_passHour_b90]
    refine x_iload (pc := 90) (a := 6) g dX7_passHour_90 rfl ?_
    refine x_aload_n (pc := 92) (i := 1) (a := 1) g dX7_passHour_92 rfl rfl ?_
    refine x_getI (pc := 93) g hW dX7_passHour_93 fl_7_56 (sHouse hp0) rfl ?_
    refine x_icmp_gt (pc := 96) (t := 150) g dX7_passHour_96 (by decide) ?_ ?_
    · refine x_iinc (pc := 150) (a := 4) (lv' := [(4, .int (v4 + 1)), (0, .ref (xad G o)), (1, .ref (xad G p0)), (2, .int v2), (3, .int v3), (6, .int v6), (7, .int v7)]) g dX7_passHour_150 ic_1 rfl (by decide) rfl ?_
      refine x_goto (pc := 153) (t := 19) g dX7_passHour_153 (by decide) ?_
      exact x_sub [1, 2, 3, 4, 0] (hk19 v2 v3 (v4 + 1) m) rfl
    · refine x_iload_n (pc := 99) (i := 2) (a := 2) g dX7_passHour_99 rfl rfl ?_
      refine x_iload (pc := 100) (a := 6) g dX7_passHour_100 rfl ?_
      refine x_ishr (pc := 102) g dX7_passHour_102 ?_
      refine x_iconst (pc := 103) g dX7_passHour_103 ic_1 ?_
      refine x_iand (pc := 104) g dX7_passHour_104 ?_
      refine x_iconst (pc := 105) g dX7_passHour_105 ic_1 ?_
      refine x_icmp_ne (pc := 106) (t := 144) g dX7_passHour_106 (by decide) ?_ ?_
      · refine x_iload (pc := 109) (a := 6) g dX7_passHour_109 rfl ?_
        refine x_iload (pc := 111) (a := 5) g dX7_passHour_111 rfl ?_
        refine x_icmp_eq (pc := 113) (t := 144) g dX7_passHour_113 (by decide) ?_ ?_
        · refine x_iinc (pc := 144) (a := 6) (lv' := [(7, .int (v7 + 1)), (0, .ref (xad G o)), (1, .ref (xad G p0)), (2, .int v2), (3, .int v3), (4, .int v4), (6, .int v6)]) g dX7_passHour_144 ic_1 rfl (by decide) rfl ?_
          refine x_goto (pc := 147) (t := 90) g dX7_passHour_147 (by decide) ?_
          exact x_sub [1, 2, 3, 4, 5, 6, 0] (ih v2 v3 v4 v6 (v7 + 1) m) rfl
        · refine x_aload_n (pc := 116) (i := 1) (a := 1) g dX7_passHour_116 rfl rfl ?_
          refine x_iload (pc := 117) (a := 4) g dX7_passHour_117 rfl ?_
          refine x_aload_n (pc := 119) (i := 0) (a := 0) g dX7_passHour_119 rfl rfl ?_
          refine x_aload_n (pc := 120) (i := 1) (a := 1) g dX7_passHour_120 rfl rfl ?_
          refine x_iload (pc := 121) (a := 6) g dX7_passHour_121 rfl ?_
          refine x_Vn (pc := 123) g hW [.ref (xad G p0), .int v7] [.int v4, .ref (xad G p0)] (c_State_rowOf l G hW m o p0 v7 ho hp0) dX7_passHour_123 ml_7_63 (sState ho) rfl rfl (Nat.le_of_ble_eq_true rfl) ⟨rfl, rfl, Nat.le_of_ble_eq_true rfl, Nat.le_of_ble_eq_true rfl⟩ (fun r11 hr11 => ?_)
          obtain ⟨Nr11, h4r11, hSr11⟩ := rowOf_src ho hp0 hr11
          refine x_Vi (pc := 126) g hW [.int v4, .ref (xad G r11)] [] (c_House_loudAt l G hW m p0 v4 r11 hp0 hSr11 h4r11) dX7_passHour_126 ml_7_82 (sHouse hp0) rfl rfl (Nat.le_of_ble_eq_true rfl) ⟨rfl, rfl, Nat.le_of_ble_eq_true rfl, Nat.le_of_ble_eq_true rfl⟩ (fun r12 hr12 => ?_)
          refine x_iconst (pc := 129) g dX7_passHour_129 ic_5 ?_
          refine x_icmp_lt (pc := 130) (t := 144) g dX7_passHour_130 (by decide) ?_ ?_
          · refine x_iinc (pc := 144) (a := 6) (lv' := [(7, .int (v7 + 1)), (0, .ref (xad G o)), (1, .ref (xad G p0)), (2, .int v2), (3, .int v3), (4, .int v4), (6, .int v6)]) g dX7_passHour_144 ic_1 rfl (by decide) rfl ?_
            refine x_goto (pc := 147) (t := 90) g dX7_passHour_147 (by decide) ?_
            exact x_sub [1, 2, 3, 4, 5, 6, 0] (ih v2 v3 v4 v6 (v7 + 1) m) rfl
          · refine x_aload_n (pc := 133) (i := 0) (a := 0) g dX7_passHour_133 rfl rfl ?_
            refine x_getR (pc := 134) (x := o + 4) g hW dX7_passHour_134 fl_7_31 (sState ho) rfl ?_
            refine x_iload (pc := 137) (a := 4) g dX7_passHour_137 rfl ?_
            refine x_dup2 (pc := 139) g dX7_passHour_139 rfl rfl ?_
            refine x_iald (pc := 140) g hW dX7_passHour_140 (sState_misses ho) (fun j13 hj13 => ?_)
            refine x_iconst (pc := 141) g dX7_passHour_141 ic_1 ?_
            refine x_iadd (pc := 142) g dX7_passHour_142 ?_
            refine x_iast (pc := 143) g hW dX7_passHour_143 (sState_misses ho) (fun j15 hj15 m14 => ?_)
            refine x_iinc (pc := 144) (a := 6) (lv' := [(7, .int (v7 + 1)), (0, .ref (xad G o)), (1, .ref (xad G p0)), (2, .int v2), (3, .int v3), (4, .int v4), (6, .int v6)]) g dX7_passHour_144 ic_1 rfl (by decide) rfl ?_
            refine x_goto (pc := 147) (t := 90) g dX7_passHour_147 (by decide) ?_
            exact x_sub [1, 2, 3, 4, 5, 6, 0] (ih v2 v3 v4 v6 (v7 + 1) m14) rfl
      · refine x_iinc (pc := 144) (a := 6) (lv' := [(7, .int (v7 + 1)), (0, .ref (xad G o)), (1, .ref (xad G p0)), (2, .int v2), (3, .int v3), (4, .int v4), (6, .int v6)]) g dX7_passHour_144 ic_1 rfl (by decide) rfl ?_
        refine x_goto (pc := 147) (t := 90) g dX7_passHour_147 (by decide) ?_
        exact x_sub [1, 2, 3, 4, 5, 6, 0] (ih v2 v3 v4 v6 (v7 + 1) m) rfl
theorem T_State_passHour_b68 {l : Launch} {G : xG} {E : xE} (hW : WC G) (g : xGood E l G.1 RX7 cX7_passHour yX7_passHour 8 none rm_State_passHour) (o : Nat) (p0 : Nat) (ho : isState o) (hp0 : isHouse p0) (k19 : Int32 → Int32 → Int32 → xMem → Option (xMem)) (hk19 : ∀ (v2 : Int32) (v3 : Int32) (v4 : Int32) (m : xMem), X E G (fun r : xMem => ((none : Option Value), r)) 19 [(0, .ref (xad G o)), (1, .ref (xad G p0)), (2, .int v2), (3, .int v3), (4, .int v4)] [] m (k19 v2 v3 v4 m)) (v2 : Int32) (v3 : Int32) (v4 : Int32) (s0 : Int32) (m : xMem) : X E G (fun r : xMem => ((none : Option Value), r)) 68 [(0, .ref (xad G o)), (1, .ref (xad G p0)), (2, .int v2), (3, .int v3), (4, .int v4)] [.int s0] m (State_passHour_b68 o p0 k19 v2 v3 v4 s0 m) := by
  unfold State_passHour_b68
  refine x_istore (pc := 68) (lv' := [(6, .int s0), (0, .ref (xad G o)), (1, .ref (xad G p0)), (2, .int v2), (3, .int v3), (4, .int v4)]) g dX7_passHour_68 (by decide) rfl ?_
  refine x_iload (pc := 70) (a := 0) g dX7_passHour_70 rfl ?_
  refine x_iconst (pc := 72) g dX7_passHour_72 ic_m1 ?_
  refine x_icmp_eq (pc := 73) (t := 87) g dX7_passHour_73 (by decide) ?_ ?_
  · refine x_iconst (pc := 87) g dX7_passHour_87 ic_0 ?_
    refine x_istore (pc := 88) (lv' := [(7, .int 0), (6, .int s0), (0, .ref (xad G o)), (1, .ref (xad G p0)), (2, .int v2), (3, .int v3), (4, .int v4)]) g dX7_passHour_88 (by decide) rfl ?_
    exact x_sub [2, 3, 4, 5, 6, 1, 0] (T_State_passHour_b90 hW g o p0 ho hp0 k19 hk19 1000 v2 v3 v4 s0 0 m) rfl
  · refine x_aload_n (pc := 76) (i := 0) (a := 1) g dX7_passHour_76 rfl rfl ?_
    refine x_getR (pc := 77) (x := o + 3) g hW dX7_passHour_77 fl_7_28 (sState ho) rfl ?_
    refine x_iload (pc := 80) (a := 5) g dX7_passHour_80 rfl ?_
    refine x_dup2 (pc := 82) g dX7_passHour_82 rfl rfl ?_
    refine x_iald (pc := 83) g hW dX7_passHour_83 (sState_knows ho) (fun j8 hj8 => ?_)
    refine x_iconst (pc := 84) g dX7_passHour_84 ic_1 ?_
    refine x_iadd (pc := 85) g dX7_passHour_85 ?_
    refine x_iast (pc := 86) g hW dX7_passHour_86 (sState_knows ho) (fun j10 hj10 m9 => ?_)
    refine x_iconst (pc := 87) g dX7_passHour_87 ic_0 ?_
    refine x_istore (pc := 88) (lv' := [(7, .int 0), (6, .int s0), (0, .ref (xad G o)), (1, .ref (xad G p0)), (2, .int v2), (3, .int v3), (4, .int v4)]) g dX7_passHour_88 (by decide) rfl ?_
    exact x_sub [2, 3, 4, 5, 6, 1, 0] (T_State_passHour_b90 hW g o p0 ho hp0 k19 hk19 1000 v2 v3 v4 s0 0 m9) rfl
theorem T_State_passHour_b19 {l : Launch} {G : xG} {E : xE} (hW : WC G) (g : xGood E l G.1 RX7 cX7_passHour yX7_passHour 8 none rm_State_passHour) (o : Nat) (p0 : Nat) (ho : isState o) (hp0 : isHouse p0) : ∀ (n : Nat) (v2 : Int32) (v3 : Int32) (v4 : Int32) (m : xMem), X E G (fun r : xMem => ((none : Option Value), r)) 19 [(0, .ref (xad G o)), (1, .ref (xad G p0)), (2, .int v2), (3, .int v3), (4, .int v4)] [] m (State_passHour_b19 o p0 n v2 v3 v4 m) := by
  intro n
  induction n with
  | zero => intro v2 v3 v4 m; exact x_none
  | succ n ih =>
    intro v2 v3 v4 m
    rw [State_passHour_b19]
    refine x_iload (pc := 19) (a := 4) g dX7_passHour_19 rfl ?_
    refine x_aload_n (pc := 21) (i := 1) (a := 1) g dX7_passHour_21 rfl rfl ?_
    refine x_getI (pc := 22) g hW dX7_passHour_22 fl_7_103 (sHouse hp0) rfl ?_
    refine x_icmp_ge (pc := 25) (t := 156) g dX7_passHour_25 (by decide) ?_ ?_
    · refine x_aload_n (pc := 28) (i := 0) (a := 0) g dX7_passHour_28 rfl rfl ?_
      refine x_aload_n (pc := 29) (i := 1) (a := 1) g dX7_passHour_29 rfl rfl ?_
      refine x_iload (pc := 30) (a := 4) g dX7_passHour_30 rfl ?_
      refine x_Vi (pc := 32) g hW [.ref (xad G p0), .int v4] [] (c_State_owlAt l G hW m o p0 v4 ho hp0) dX7_passHour_32 ml_7_96 (sState ho) rfl rfl (Nat.le_of_ble_eq_true rfl) ⟨rfl, rfl, Nat.le_of_ble_eq_true rfl, Nat.le_of_ble_eq_true rfl⟩ (fun r3 hr3 => ?_)
      refine x_istore (pc := 35) (lv' := [(5, .int r3), (0, .ref (xad G o)), (1, .ref (xad G p0)), (2, .int v2), (3, .int v3), (4, .int v4)]) g dX7_passHour_35 (by decide) rfl ?_
      refine x_iload (pc := 37) (a := 0) g dX7_passHour_37 rfl ?_
      refine x_iconst (pc := 39) g dX7_passHour_39 ic_m1 ?_
      refine x_icmp_eq (pc := 40) (t := 47) g dX7_passHour_40 (by decide) ?_ ?_
      · refine x_iconst (pc := 47) g dX7_passHour_47 ic_m1 ?_
        refine x_goto (pc := 48) (t := 68) g dX7_passHour_48 (by decide) ?_
        exact x_sub [1, 2, 3, 4, 5] (T_State_passHour_b68 hW g o p0 ho hp0 (State_passHour_b19 o p0 n) ih v2 v3 v4 ((-1)) m) rfl
      · refine x_iload_n (pc := 43) (i := 3) (a := 4) g dX7_passHour_43 rfl rfl ?_
        refine x_if_eq (pc := 44) (t := 51) g dX7_passHour_44 (by decide) ?_ ?_
        · refine x_aload_n (pc := 51) (i := 0) (a := 1) g dX7_passHour_51 rfl rfl ?_
          refine x_aload_n (pc := 52) (i := 1) (a := 2) g dX7_passHour_52 rfl rfl ?_
          refine x_iload (pc := 53) (a := 5) g dX7_passHour_53 rfl ?_
          refine x_aload_n (pc := 55) (i := 0) (a := 1) g dX7_passHour_55 rfl rfl ?_
          refine x_aload_n (pc := 56) (i := 1) (a := 2) g dX7_passHour_56 rfl rfl ?_
          refine x_iload (pc := 57) (a := 0) g dX7_passHour_57 rfl ?_
          refine x_iload (pc := 59) (a := 5) g dX7_passHour_59 rfl ?_
          refine x_iload_n (pc := 61) (i := 2) (a := 3) g dX7_passHour_61 rfl rfl ?_
          refine x_Vi (pc := 62) g hW [.ref (xad G p0), .int r3, .int v4, .int v2] [.int v4, .ref (xad G p0), .ref (xad G o)] (c_State_heardBits l G hW m o p0 r3 v4 v2 ho hp0) dX7_passHour_62 ml_7_78 (sState ho) rfl rfl (Nat.le_of_ble_eq_true rfl) ⟨rfl, rfl, Nat.le_of_ble_eq_true rfl, Nat.le_of_ble_eq_true rfl⟩ (fun r4 hr4 => ?_)
          refine x_Vi (pc := 65) g hW [.ref (xad G p0), .int v4, .int r4] [] (c_State_loudest l G hW m o p0 v4 r4 ho hp0) dX7_passHour_65 ml_7_86 (sState ho) rfl rfl (Nat.le_of_ble_eq_true rfl) ⟨rfl, rfl, Nat.le_of_ble_eq_true rfl, Nat.le_of_ble_eq_true rfl⟩ (fun r5 hr5 => ?_)
          exact x_sub [1, 2, 3, 4, 5] (T_State_passHour_b68 hW g o p0 ho hp0 (State_passHour_b19 o p0 n) ih v2 v3 v4 r5 m) rfl
        · refine x_iconst (pc := 47) g dX7_passHour_47 ic_m1 ?_
          refine x_goto (pc := 48) (t := 68) g dX7_passHour_48 (by decide) ?_
          exact x_sub [1, 2, 3, 4, 5] (T_State_passHour_b68 hW g o p0 ho hp0 (State_passHour_b19 o p0 n) ih v2 v3 v4 ((-1)) m) rfl
    · refine x_aload_n (pc := 156) (i := 0) (a := 0) g dX7_passHour_156 rfl rfl ?_
      refine x_dup (pc := 157) g dX7_passHour_157 rfl ?_
      refine x_getI (pc := 158) g hW dX7_passHour_158 fl_7_9 (sState ho) rfl ?_
      refine x_iconst (pc := 161) g dX7_passHour_161 ic_1 ?_
      refine x_iadd (pc := 162) g dX7_passHour_162 ?_
      refine x_putI (pc := 163) g hW dX7_passHour_163 fl_7_9 ft_7_0 (sState ho) rfl (fun m6 => ?_)
      refine x_aload_n (pc := 166) (i := 0) (a := 0) g dX7_passHour_166 rfl rfl ?_
      refine x_getR (pc := 167) (x := o + 1) g hW dX7_passHour_167 fl_7_21 (sState ho) rfl ?_
      refine x_iconst (pc := 170) g dX7_passHour_170 ic_3 ?_
      refine x_iconst (pc := 171) g dX7_passHour_171 ic_0 ?_
      refine x_iastc (pc := 172) g hW dX7_passHour_172 (sState_shoutRow ho) ix_3_4 (fun m7 => ?_)
      exact x_vret (pc := 173) g dX7_passHour_173 rfl (fun _ h => h)
theorem T_State_passHour {l : Launch} {G : xG} {E : xE} (hW : WC G) (g : xGood E l G.1 RX7 cX7_passHour yX7_passHour 8 none rm_State_passHour) (m : xMem) (o : Nat) (p0 : Nat) (ho : isState o) (hp0 : isHouse p0) : X E G (fun r : xMem => ((none : Option Value), r)) 0 [(0, .ref (xad G o)), (1, .ref (xad G p0))] [] m (State_passHour m o p0) := by
  unfold State_passHour
  refine x_aload_n (pc := 0) (i := 0) (a := 0) g dX7_passHour_0 rfl rfl ?_
  refine x_aload_n (pc := 1) (i := 1) (a := 1) g dX7_passHour_1 rfl rfl ?_
  refine x_iconst (pc := 2) g dX7_passHour_2 ic_0 ?_
  refine x_Vi (pc := 3) g hW [.ref (xad G p0), .int 0] [] (c_State_onBits l G hW m o p0 0 ho hp0) dX7_passHour_3 ml_7_74 (sState ho) rfl rfl (Nat.le_of_ble_eq_true rfl) ⟨rfl, rfl, Nat.le_of_ble_eq_true rfl, Nat.le_of_ble_eq_true rfl⟩ (fun r1 hr1 => ?_)
  refine x_istore_n (pc := 6) (i := 2) (lv' := [(2, .int r1), (0, .ref (xad G o)), (1, .ref (xad G p0))]) g dX7_passHour_6 rfl (by decide) rfl ?_
  refine x_aload_n (pc := 7) (i := 1) (a := 2) g dX7_passHour_7 rfl rfl ?_
  refine x_aload_n (pc := 8) (i := 0) (a := 1) g dX7_passHour_8 rfl rfl ?_
  refine x_getI (pc := 9) g hW dX7_passHour_9 fl_7_9 (sState ho) rfl ?_
  refine x_Vi (pc := 12) g hW [.int (m.1 o 0)] [] (c_House_shutAt l G hW m p0 (m.1 o 0) hp0) dX7_passHour_12 ml_7_71 (sHouse hp0) rfl rfl (Nat.le_of_ble_eq_true rfl) ⟨rfl, rfl, Nat.le_of_ble_eq_true rfl, Nat.le_of_ble_eq_true rfl⟩ (fun r2 hr2 => ?_)
  refine x_istore_n (pc := 15) (i := 3) (lv' := [(3, .int r2), (2, .int r1), (0, .ref (xad G o)), (1, .ref (xad G p0))]) g dX7_passHour_15 rfl (by decide) rfl ?_
  refine x_iconst (pc := 16) g dX7_passHour_16 ic_0 ?_
  refine x_istore (pc := 17) (lv' := [(4, .int 0), (3, .int r2), (2, .int r1), (0, .ref (xad G o)), (1, .ref (xad G p0))]) g dX7_passHour_17 (by decide) rfl ?_
  exact x_sub [3, 4, 2, 1, 0] (T_State_passHour_b19 hW g o p0 ho hp0 1000 r1 r2 0 m) rfl
theorem c_State_passHour (l : Launch) (G : xG) (hW : WC G) (m : xMem) (o : Nat) (p0 : Nat) (ho : isState o) (hp0 : isHouse p0) : xCv l G yX7_passHour cX7_passHour 8 none rm_State_passHour [.ref (xad G o), .ref (xad G p0)] m (State_passHour m o p0) :=
  xCt_of (own := RX7) (by decide) rfl (Nat.le_of_ble_eq_true rfl) rfl ⟨rfl, rfl⟩ (fun E g => T_State_passHour hW g m o p0 ho hp0)
theorem T_State_lookOf {l : Launch} {G : xG} {E : xE} (hW : WC G) (g : xGood E l G.1 RX7 cX7_lookOf yX7_lookOf 5 (some .int) rm_State_lookOf) (m : xMem) (o : Nat) (p0 : Nat) (p1 : Int32) (p2 : Int32) (p3 : Int32) (ho : isState o) (hp0 : isHouse p0) : X E G (fun r : Int32 => (some (Value.int r), m)) 0 [(0, .ref (xad G o)), (1, .ref (xad G p0)), (2, .int p1), (3, .int p2), (4, .int p3)] [] m (State_lookOf m o p0 p1 p2 p3) := by
  unfold State_lookOf
  refine x_aload_n (pc := 0) (i := 1) (a := 1) g dX7_lookOf_0 rfl rfl ?_
  refine x_aload_n (pc := 1) (i := 0) (a := 0) g dX7_lookOf_1 rfl rfl ?_
  refine x_getI (pc := 2) g hW dX7_lookOf_2 fl_7_9 (sState ho) rfl ?_
  refine x_iload (pc := 5) (a := 4) g dX7_lookOf_5 rfl ?_
  refine x_iadd (pc := 7) g dX7_lookOf_7 ?_
  refine x_Vi (pc := 8) g hW [.int ((m.1 o 0) + p3)] [] (c_House_shutAt l G hW m p0 ((m.1 o 0) + p3) hp0) dX7_lookOf_8 ml_7_71 (sHouse hp0) rfl rfl (Nat.le_of_ble_eq_true rfl) ⟨rfl, rfl, Nat.le_of_ble_eq_true rfl, Nat.le_of_ble_eq_true rfl⟩ (fun r1 hr1 => ?_)
  refine x_if_eq (pc := 11) (t := 16) g dX7_lookOf_11 (by decide) ?_ ?_
  · refine x_aload_n (pc := 16) (i := 0) (a := 0) g dX7_lookOf_16 rfl rfl ?_
    refine x_aload_n (pc := 17) (i := 1) (a := 1) g dX7_lookOf_17 rfl rfl ?_
    refine x_iload_n (pc := 18) (i := 3) (a := 3) g dX7_lookOf_18 rfl rfl ?_
    refine x_aload_n (pc := 19) (i := 0) (a := 0) g dX7_lookOf_19 rfl rfl ?_
    refine x_aload_n (pc := 20) (i := 1) (a := 1) g dX7_lookOf_20 rfl rfl ?_
    refine x_iload_n (pc := 21) (i := 2) (a := 2) g dX7_lookOf_21 rfl rfl ?_
    refine x_iload_n (pc := 22) (i := 3) (a := 3) g dX7_lookOf_22 rfl rfl ?_
    refine x_aload_n (pc := 23) (i := 0) (a := 0) g dX7_lookOf_23 rfl rfl ?_
    refine x_aload_n (pc := 24) (i := 1) (a := 1) g dX7_lookOf_24 rfl rfl ?_
    refine x_iload (pc := 25) (a := 4) g dX7_lookOf_25 rfl ?_
    refine x_Vi (pc := 27) g hW [.ref (xad G p0), .int p3] [.int p2, .int p1, .ref (xad G p0), .ref (xad G o), .int p2, .ref (xad G p0), .ref (xad G o)] (c_State_onBits l G hW m o p0 p3 ho hp0) dX7_lookOf_27 ml_7_74 (sState ho) rfl rfl (Nat.le_of_ble_eq_true rfl) ⟨rfl, rfl, Nat.le_of_ble_eq_true rfl, Nat.le_of_ble_eq_true rfl⟩ (fun r2 hr2 => ?_)
    refine x_Vi (pc := 30) g hW [.ref (xad G p0), .int p1, .int p2, .int r2] [.int p2, .ref (xad G p0), .ref (xad G o)] (c_State_heardBits l G hW m o p0 p1 p2 r2 ho hp0) dX7_lookOf_30 ml_7_78 (sState ho) rfl rfl (Nat.le_of_ble_eq_true rfl) ⟨rfl, rfl, Nat.le_of_ble_eq_true rfl, Nat.le_of_ble_eq_true rfl⟩ (fun r3 hr3 => ?_)
    refine x_Vi (pc := 33) g hW [.ref (xad G p0), .int p2, .int r3] [] (c_State_loudest l G hW m o p0 p2 r3 ho hp0) dX7_lookOf_33 ml_7_86 (sState ho) rfl rfl (Nat.le_of_ble_eq_true rfl) ⟨rfl, rfl, Nat.le_of_ble_eq_true rfl, Nat.le_of_ble_eq_true rfl⟩ (fun r4 hr4 => ?_)
    exact x_iret (pc := 36) g dX7_lookOf_36 rfl (fun _ h => h)
  · refine x_iconst (pc := 14) g dX7_lookOf_14 ic_m1 ?_
    exact x_iret (pc := 15) g dX7_lookOf_15 rfl (fun _ h => h)
theorem c_State_lookOf (l : Launch) (G : xG) (hW : WC G) (m : xMem) (o : Nat) (p0 : Nat) (p1 : Int32) (p2 : Int32) (p3 : Int32) (ho : isState o) (hp0 : isHouse p0) : xCi l G yX7_lookOf cX7_lookOf 5 (some .int) rm_State_lookOf [.ref (xad G o), .ref (xad G p0), .int p1, .int p2, .int p3] m (State_lookOf m o p0 p1 p2 p3) :=
  xCt_of (own := RX7) (by decide) rfl (Nat.le_of_ble_eq_true rfl) rfl ⟨rfl, rfl⟩ (fun E g => T_State_lookOf hW g m o p0 p1 p2 p3 ho hp0)
theorem T_State_lookingBits_b4 {l : Launch} {G : xG} {E : xE} (hW : WC G) (g : xGood E l G.1 RX7 cX7_lookingBits yX7_lookingBits 4 (some .int) rm_State_lookingBits) (m : xMem) (o : Nat) (p0 : Nat) (ho : isState o) (hp0 : isHouse p0) : ∀ (n : Nat) (v2 : Int32) (v3 : Int32), X E G (fun r : Int32 => (some (Value.int r), m)) 4 [(0, .ref (xad G o)), (1, .ref (xad G p0)), (2, .int v2), (3, .int v3)] [] m (State_lookingBits_b4 m o p0 n v2 v3) := by
  intro n
  induction n with
  | zero => intro v2 v3; exact x_none
  | succ n ih =>
    intro v2 v3
    rw [State_lookingBits_b4]
    refine x_iload_n (pc := 4) (i := 3) (a := 3) g dX7_lookingBits_4 rfl rfl ?_
    refine x_aload_n (pc := 5) (i := 1) (a := 1) g dX7_lookingBits_5 rfl rfl ?_
    refine x_getI (pc := 6) g hW dX7_lookingBits_6 fl_7_34 (sHouse hp0) rfl ?_
    refine x_icmp_ge (pc := 9) (t := 41) g dX7_lookingBits_9 (by decide) ?_ ?_
    · refine x_aload_n (pc := 12) (i := 0) (a := 0) g dX7_lookingBits_12 rfl rfl ?_
      refine x_aload_n (pc := 13) (i := 1) (a := 1) g dX7_lookingBits_13 rfl rfl ?_
      refine x_iload_n (pc := 14) (i := 3) (a := 3) g dX7_lookingBits_14 rfl rfl ?_
      refine x_aload_n (pc := 15) (i := 0) (a := 0) g dX7_lookingBits_15 rfl rfl ?_
      refine x_getR (pc := 16) (x := o + 2) g hW dX7_lookingBits_16 fl_7_25 (sState ho) rfl ?_
      refine x_iload_n (pc := 19) (i := 3) (a := 3) g dX7_lookingBits_19 rfl rfl ?_
      refine x_iald (pc := 20) g hW dX7_lookingBits_20 (sState_owlBed ho) (fun j1 hj1 => ?_)
      refine x_iconst (pc := 21) g dX7_lookingBits_21 ic_0 ?_
      refine x_Vi (pc := 22) g hW [.ref (xad G p0), .int v3, .int (m.1 (o + 2) j1), .int 0] [] (c_State_lookOf l G hW m o p0 v3 (m.1 (o + 2) j1) 0 ho hp0) dX7_lookingBits_22 ml_7_93 (sState ho) rfl rfl (Nat.le_of_ble_eq_true rfl) ⟨rfl, rfl, Nat.le_of_ble_eq_true rfl, Nat.le_of_ble_eq_true rfl⟩ (fun r2 hr2 => ?_)
      refine x_iconst (pc := 25) g dX7_lookingBits_25 ic_m1 ?_
      refine x_icmp_eq (pc := 26) (t := 35) g dX7_lookingBits_26 (by decide) ?_ ?_
      · refine x_iinc (pc := 35) (a := 3) (lv' := [(3, .int (v3 + 1)), (0, .ref (xad G o)), (1, .ref (xad G p0)), (2, .int v2)]) g dX7_lookingBits_35 ic_1 rfl (by decide) rfl ?_
        refine x_goto (pc := 38) (t := 4) g dX7_lookingBits_38 (by decide) ?_
        exact x_sub [1, 2, 3, 0] (ih v2 (v3 + 1)) rfl
      · refine x_iload_n (pc := 29) (i := 2) (a := 2) g dX7_lookingBits_29 rfl rfl ?_
        refine x_iconst (pc := 30) g dX7_lookingBits_30 ic_1 ?_
        refine x_iload_n (pc := 31) (i := 3) (a := 3) g dX7_lookingBits_31 rfl rfl ?_
        refine x_ishl (pc := 32) g dX7_lookingBits_32 ?_
        refine x_ior (pc := 33) g dX7_lookingBits_33 ?_
        refine x_nmI (fun x3 => ?_)
        refine x_istore_n (pc := 34) (i := 2) (lv' := [(2, .int x3), (0, .ref (xad G o)), (1, .ref (xad G p0)), (3, .int v3)]) g dX7_lookingBits_34 rfl (by decide) rfl ?_
        refine x_iinc (pc := 35) (a := 3) (lv' := [(3, .int (v3 + 1)), (2, .int x3), (0, .ref (xad G o)), (1, .ref (xad G p0))]) g dX7_lookingBits_35 ic_1 rfl (by decide) rfl ?_
        refine x_goto (pc := 38) (t := 4) g dX7_lookingBits_38 (by decide) ?_
        exact x_sub [2, 3, 1, 0] (ih x3 (v3 + 1)) rfl
    · refine x_iload_n (pc := 41) (i := 2) (a := 2) g dX7_lookingBits_41 rfl rfl ?_
      exact x_iret (pc := 42) g dX7_lookingBits_42 rfl (fun _ h => h)
theorem T_State_lookingBits {l : Launch} {G : xG} {E : xE} (hW : WC G) (g : xGood E l G.1 RX7 cX7_lookingBits yX7_lookingBits 4 (some .int) rm_State_lookingBits) (m : xMem) (o : Nat) (p0 : Nat) (ho : isState o) (hp0 : isHouse p0) : X E G (fun r : Int32 => (some (Value.int r), m)) 0 [(0, .ref (xad G o)), (1, .ref (xad G p0))] [] m (State_lookingBits m o p0) := by
  unfold State_lookingBits
  refine x_iconst (pc := 0) g dX7_lookingBits_0 ic_0 ?_
  refine x_istore_n (pc := 1) (i := 2) (lv' := [(2, .int 0), (0, .ref (xad G o)), (1, .ref (xad G p0))]) g dX7_lookingBits_1 rfl (by decide) rfl ?_
  refine x_iconst (pc := 2) g dX7_lookingBits_2 ic_0 ?_
  refine x_istore_n (pc := 3) (i := 3) (lv' := [(3, .int 0), (2, .int 0), (0, .ref (xad G o)), (1, .ref (xad G p0))]) g dX7_lookingBits_3 rfl (by decide) rfl ?_
  exact x_sub [2, 3, 1, 0] (T_State_lookingBits_b4 hW g m o p0 ho hp0 1000 0 0) rfl
theorem c_State_lookingBits (l : Launch) (G : xG) (hW : WC G) (m : xMem) (o : Nat) (p0 : Nat) (ho : isState o) (hp0 : isHouse p0) : xCi l G yX7_lookingBits cX7_lookingBits 4 (some .int) rm_State_lookingBits [.ref (xad G o), .ref (xad G p0)] m (State_lookingBits m o p0) :=
  xCt_of (own := RX7) (by decide) rfl (Nat.le_of_ble_eq_true rfl) rfl ⟨rfl, rfl⟩ (fun E g => T_State_lookingBits hW g m o p0 ho hp0)
theorem T_House_clear {l : Launch} {G : xG} {E : xE} (hW : WC G) (g : xGood E l G.1 RX2 cX2_clear yX2_clear 1 none rm_House_clear) (m : xMem) (o : Nat) (ho : isHouse o) : X E G (fun r : xMem => ((none : Option Value), r)) 0 [(0, .ref (xad G o))] [] m (House_clear m o) := by
  unfold House_clear
  refine x_aload_n (pc := 0) (i := 0) (a := 0) g dX2_clear_0 rfl rfl ?_
  refine x_bipush (pc := 1) g dX2_clear_1 bi_6 ?_
  refine x_putI (pc := 3) g hW dX2_clear_3 fl_2_9 ft_2_0 (sHouse ho) rfl (fun m1 => ?_)
  refine x_aload_n (pc := 6) (i := 0) (a := 0) g dX2_clear_6 rfl rfl ?_
  refine x_bipush (pc := 7) g dX2_clear_7 bi_6 ?_
  refine x_putI (pc := 9) g hW dX2_clear_9 fl_2_15 ft_2_1 (sHouse ho) rfl (fun m2 => ?_)
  refine x_aload_n (pc := 12) (i := 0) (a := 0) g dX2_clear_12 rfl rfl ?_
  refine x_bipush (pc := 13) g dX2_clear_13 bi_6 ?_
  refine x_putI (pc := 15) g hW dX2_clear_15 fl_2_18 ft_2_2 (sHouse ho) rfl (fun m3 => ?_)
  refine x_aload_n (pc := 18) (i := 0) (a := 0) g dX2_clear_18 rfl rfl ?_
  refine x_bipush (pc := 19) g dX2_clear_19 bi_17 ?_
  refine x_putI (pc := 21) g hW dX2_clear_21 fl_2_21 ft_2_3 (sHouse ho) rfl (fun m4 => ?_)
  refine x_aload_n (pc := 24) (i := 0) (a := 0) g dX2_clear_24 rfl rfl ?_
  refine x_iconst (pc := 25) g dX2_clear_25 ic_0 ?_
  refine x_putZ (pc := 26) g hW dX2_clear_26 fl_2_24 ft_2_4 (sHouse ho) rfl (Or.inl rfl) (fun m5 => ?_)
  refine x_aload_n (pc := 29) (i := 0) (a := 0) g dX2_clear_29 rfl rfl ?_
  refine x_iconst (pc := 30) g dX2_clear_30 ic_0 ?_
  refine x_putZ (pc := 31) g hW dX2_clear_31 fl_2_28 ft_2_5 (sHouse ho) rfl (Or.inl rfl) (fun m6 => ?_)
  refine x_aload_n (pc := 34) (i := 0) (a := 0) g dX2_clear_34 rfl rfl ?_
  refine x_iconst (pc := 35) g dX2_clear_35 ic_0 ?_
  refine x_putI (pc := 36) g hW dX2_clear_36 fl_2_31 ft_2_6 (sHouse ho) rfl (fun m7 => ?_)
  refine x_aload_n (pc := 39) (i := 0) (a := 0) g dX2_clear_39 rfl rfl ?_
  refine x_iconst (pc := 40) g dX2_clear_40 ic_0 ?_
  refine x_putI (pc := 41) g hW dX2_clear_41 fl_2_34 ft_2_7 (sHouse ho) rfl (fun m8 => ?_)
  refine x_aload_n (pc := 44) (i := 0) (a := 0) g dX2_clear_44 rfl rfl ?_
  refine x_iconst (pc := 45) g dX2_clear_45 ic_0 ?_
  refine x_putI (pc := 46) g hW dX2_clear_46 fl_2_37 ft_2_8 (sHouse ho) rfl (fun m9 => ?_)
  exact x_vret (pc := 49) g dX2_clear_49 rfl (fun _ h => h)
theorem c_House_clear (l : Launch) (G : xG) (hW : WC G) (m : xMem) (o : Nat) (ho : isHouse o) : xCv l G yX2_clear cX2_clear 1 none rm_House_clear [.ref (xad G o)] m (House_clear m o) :=
  xCt_of (own := RX2) (by decide) rfl (Nat.le_of_ble_eq_true rfl) rfl ⟨rfl, rfl⟩ (fun E g => T_House_clear hW g m o ho)
theorem T_House_copyRows_b2 {l : Launch} {G : xG} {E : xE} (hW : WC G) (g : xGood E l G.1 RX2 cX2_copyRows yX2_copyRows 3 none rm_House_copyRows) (p0 : Nat) (Np0 : Nat) (Wp0 : Nat) (p1 : Nat) (Np1 : Nat) (Wp1 : Nat) (hp0 : shC p0 = .inr (4, Np0, rowsL (p0 + 1) Np0)) (hRp0 : ∀ j, j < Np0 → shC (p0 + 1 + j) = .inr (0, Wp0, [])) (hp1 : shC p1 = .inr (4, Np1, rowsL (p1 + 1) Np1)) (hRp1 : ∀ j, j < Np1 → shC (p1 + 1 + j) = .inr (0, Wp1, [])) : ∀ (n : Nat) (v2 : Int32) (m : xMem), X E G (fun r : xMem => ((none : Option Value), r)) 2 [(0, .ref (xad G p0)), (1, .ref (xad G p1)), (2, .int v2)] [] m (House_copyRows_b2 p0 Np0 Wp0 p1 Np1 Wp1 n v2 m) := by
  intro n
  induction n with
  | zero => intro v2 m; exact x_none
  | succ n ih =>
    intro v2 m
    rw [House_copyRows_b2]
    refine x_iload_n (pc := 2) (i := 2) (a := 2) g dX2_copyRows_2 rfl rfl ?_
    refine x_aload_n (pc := 3) (i := 0) (a := 0) g dX2_copyRows_3 rfl rfl ?_
    refine x_alen (pc := 4) (v := nI Np0) g hW dX2_copyRows_4 (hp0) (by decide) rfl ?_
    refine x_icmp_ge (pc := 5) (t := 42) g dX2_copyRows_5 (by decide) ?_ ?_
    · refine x_iload_n (pc := 8) (i := 2) (a := 2) g dX2_copyRows_8 rfl rfl ?_
      refine x_aload_n (pc := 9) (i := 1) (a := 1) g dX2_copyRows_9 rfl rfl ?_
      refine x_alen (pc := 10) (v := nI Np1) g hW dX2_copyRows_10 (hp1) (by decide) rfl ?_
      refine x_icmp_ge (pc := 11) (t := 42) g dX2_copyRows_11 (by decide) ?_ ?_
      · refine x_aload_n (pc := 14) (i := 0) (a := 0) g dX2_copyRows_14 rfl rfl ?_
        refine x_iload_n (pc := 15) (i := 2) (a := 2) g dX2_copyRows_15 rfl rfl ?_
        refine x_aald4 (pc := 16) (r := fun j => p0 + 1 + j) g hW dX2_copyRows_16 (hp0) (fun j h => rowsL_get h) (fun j1 hj1 => ?_)
        refine x_iconst (pc := 17) g dX2_copyRows_17 ic_0 ?_
        refine x_aload_n (pc := 18) (i := 1) (a := 1) g dX2_copyRows_18 rfl rfl ?_
        refine x_iload_n (pc := 19) (i := 2) (a := 2) g dX2_copyRows_19 rfl rfl ?_
        refine x_aald4 (pc := 20) (r := fun j => p1 + 1 + j) g hW dX2_copyRows_20 (hp1) (fun j h => rowsL_get h) (fun j2 hj2 => ?_)
        refine x_iconst (pc := 21) g dX2_copyRows_21 ic_0 ?_
        refine x_aload_n (pc := 22) (i := 0) (a := 0) g dX2_copyRows_22 rfl rfl ?_
        refine x_iload_n (pc := 23) (i := 2) (a := 2) g dX2_copyRows_23 rfl rfl ?_
        refine x_aald4 (pc := 24) (r := fun j => p0 + 1 + j) g hW dX2_copyRows_24 (hp0) (fun j h => rowsL_get h) (fun j3 hj3 => ?_)
        refine x_alen (pc := 25) (v := nI Wp0) g hW dX2_copyRows_25 (hRp0 _ hj3) (by decide) rfl ?_
        refine x_aload_n (pc := 26) (i := 1) (a := 1) g dX2_copyRows_26 rfl rfl ?_
        refine x_iload_n (pc := 27) (i := 2) (a := 2) g dX2_copyRows_27 rfl rfl ?_
        refine x_aald4 (pc := 28) (r := fun j => p1 + 1 + j) g hW dX2_copyRows_28 (hp1) (fun j h => rowsL_get h) (fun j4 hj4 => ?_)
        refine x_alen (pc := 29) (v := nI Wp1) g hW dX2_copyRows_29 (hRp1 _ hj4) (by decide) rfl ?_
        refine x_mmin (pc := 30) g dX2_copyRows_30 mk_2_71 mm_min ⟨by decide, Nat.le_of_ble_eq_true rfl⟩ ?_
        refine x_copyI (pc := 33) g hW dX2_copyRows_33 mk_2_61 mm_arraycopy (hRp0 _ hj1) (hRp1 _ hj2) ⟨by decide, Nat.le_of_ble_eq_true rfl⟩ (fun j6 hj6 m5 => ?_)
        refine x_iinc (pc := 36) (a := 2) (lv' := [(2, .int (v2 + 1)), (0, .ref (xad G p0)), (1, .ref (xad G p1))]) g dX2_copyRows_36 ic_1 rfl (by decide) rfl ?_
        refine x_goto (pc := 39) (t := 2) g dX2_copyRows_39 (by decide) ?_
        exact x_sub [1, 2, 0] (ih (v2 + 1) m5) rfl
      · exact x_vret (pc := 42) g dX2_copyRows_42 rfl (fun _ h => h)
    · exact x_vret (pc := 42) g dX2_copyRows_42 rfl (fun _ h => h)
theorem T_House_copyRows {l : Launch} {G : xG} {E : xE} (hW : WC G) (g : xGood E l G.1 RX2 cX2_copyRows yX2_copyRows 3 none rm_House_copyRows) (m : xMem) (p0 : Nat) (Np0 : Nat) (Wp0 : Nat) (p1 : Nat) (Np1 : Nat) (Wp1 : Nat) (hp0 : shC p0 = .inr (4, Np0, rowsL (p0 + 1) Np0)) (hRp0 : ∀ j, j < Np0 → shC (p0 + 1 + j) = .inr (0, Wp0, [])) (hp1 : shC p1 = .inr (4, Np1, rowsL (p1 + 1) Np1)) (hRp1 : ∀ j, j < Np1 → shC (p1 + 1 + j) = .inr (0, Wp1, [])) : X E G (fun r : xMem => ((none : Option Value), r)) 0 [(0, .ref (xad G p0)), (1, .ref (xad G p1))] [] m (House_copyRows m p0 Np0 Wp0 p1 Np1 Wp1) := by
  unfold House_copyRows
  refine x_iconst (pc := 0) g dX2_copyRows_0 ic_0 ?_
  refine x_istore_n (pc := 1) (i := 2) (lv' := [(2, .int 0), (0, .ref (xad G p0)), (1, .ref (xad G p1))]) g dX2_copyRows_1 rfl (by decide) rfl ?_
  exact x_sub [1, 2, 0] (T_House_copyRows_b2 hW g p0 Np0 Wp0 p1 Np1 Wp1 hp0 hRp0 hp1 hRp1 1000 0 m) rfl
theorem c_House_copyRows (l : Launch) (G : xG) (hW : WC G) (m : xMem) (p0 : Nat) (Np0 : Nat) (Wp0 : Nat) (p1 : Nat) (Np1 : Nat) (Wp1 : Nat) (hp0 : shC p0 = .inr (4, Np0, rowsL (p0 + 1) Np0)) (hRp0 : ∀ j, j < Np0 → shC (p0 + 1 + j) = .inr (0, Wp0, [])) (hp1 : shC p1 = .inr (4, Np1, rowsL (p1 + 1) Np1)) (hRp1 : ∀ j, j < Np1 → shC (p1 + 1 + j) = .inr (0, Wp1, [])) : xCv l G yX2_copyRows cX2_copyRows 3 none rm_House_copyRows [.ref (xad G p0), .ref (xad G p1)] m (House_copyRows m p0 Np0 Wp0 p1 Np1 Wp1) :=
  xCt_of (own := RX2) (by decide) rfl (Nat.le_of_ble_eq_true rfl) rfl ⟨rfl, rfl⟩ (fun E g => T_House_copyRows hW g m p0 Np0 Wp0 p1 Np1 Wp1 hp0 hRp0 hp1 hRp1)
theorem T_House_copyFrom {l : Launch} {G : xG} {E : xE} (hW : WC G) (g : xGood E l G.1 RX2 cX2_copyFrom yX2_copyFrom 2 none rm_House_copyFrom) (m : xMem) (o : Nat) (p0 : Nat) (ho : isHouse o) (hp0 : isHouse p0) : X E G (fun r : xMem => ((none : Option Value), r)) 0 [(0, .ref (xad G o)), (1, .ref (xad G p0))] [] m (House_copyFrom m o p0) := by
  unfold House_copyFrom
  refine x_aload_n (pc := 0) (i := 0) (a := 0) g dX2_copyFrom_0 rfl rfl ?_
  refine x_aload_n (pc := 1) (i := 1) (a := 1) g dX2_copyFrom_1 rfl rfl ?_
  refine x_getI (pc := 2) g hW dX2_copyFrom_2 fl_2_9 (sHouse hp0) rfl ?_
  refine x_putI (pc := 5) g hW dX2_copyFrom_5 fl_2_9 ft_2_0 (sHouse ho) rfl (fun m1 => ?_)
  refine x_aload_n (pc := 8) (i := 0) (a := 0) g dX2_copyFrom_8 rfl rfl ?_
  refine x_aload_n (pc := 9) (i := 1) (a := 1) g dX2_copyFrom_9 rfl rfl ?_
  refine x_getI (pc := 10) g hW dX2_copyFrom_10 fl_2_15 (sHouse hp0) rfl ?_
  refine x_putI (pc := 13) g hW dX2_copyFrom_13 fl_2_15 ft_2_1 (sHouse ho) rfl (fun m2 => ?_)
  refine x_aload_n (pc := 16) (i := 0) (a := 0) g dX2_copyFrom_16 rfl rfl ?_
  refine x_aload_n (pc := 17) (i := 1) (a := 1) g dX2_copyFrom_17 rfl rfl ?_
  refine x_getI (pc := 18) g hW dX2_copyFrom_18 fl_2_18 (sHouse hp0) rfl ?_
  refine x_putI (pc := 21) g hW dX2_copyFrom_21 fl_2_18 ft_2_2 (sHouse ho) rfl (fun m3 => ?_)
  refine x_aload_n (pc := 24) (i := 0) (a := 0) g dX2_copyFrom_24 rfl rfl ?_
  refine x_aload_n (pc := 25) (i := 1) (a := 1) g dX2_copyFrom_25 rfl rfl ?_
  refine x_getI (pc := 26) g hW dX2_copyFrom_26 fl_2_21 (sHouse hp0) rfl ?_
  refine x_putI (pc := 29) g hW dX2_copyFrom_29 fl_2_21 ft_2_3 (sHouse ho) rfl (fun m4 => ?_)
  refine x_aload_n (pc := 32) (i := 0) (a := 0) g dX2_copyFrom_32 rfl rfl ?_
  refine x_aload_n (pc := 33) (i := 1) (a := 1) g dX2_copyFrom_33 rfl rfl ?_
  refine x_getI (pc := 34) g hW dX2_copyFrom_34 fl_2_31 (sHouse hp0) rfl ?_
  refine x_putI (pc := 37) g hW dX2_copyFrom_37 fl_2_31 ft_2_6 (sHouse ho) rfl (fun m5 => ?_)
  refine x_aload_n (pc := 40) (i := 0) (a := 0) g dX2_copyFrom_40 rfl rfl ?_
  refine x_aload_n (pc := 41) (i := 1) (a := 1) g dX2_copyFrom_41 rfl rfl ?_
  refine x_getI (pc := 42) g hW dX2_copyFrom_42 fl_2_34 (sHouse hp0) rfl ?_
  refine x_putI (pc := 45) g hW dX2_copyFrom_45 fl_2_34 ft_2_7 (sHouse ho) rfl (fun m6 => ?_)
  refine x_aload_n (pc := 48) (i := 0) (a := 0) g dX2_copyFrom_48 rfl rfl ?_
  refine x_aload_n (pc := 49) (i := 1) (a := 1) g dX2_copyFrom_49 rfl rfl ?_
  refine x_getI (pc := 50) g hW dX2_copyFrom_50 fl_2_37 (sHouse hp0) rfl ?_
  refine x_putI (pc := 53) g hW dX2_copyFrom_53 fl_2_37 ft_2_8 (sHouse ho) rfl (fun m7 => ?_)
  refine x_aload_n (pc := 56) (i := 1) (a := 1) g dX2_copyFrom_56 rfl rfl ?_
  refine x_getR (pc := 57) (x := p0 + 1) g hW dX2_copyFrom_57 fl_2_40 (sHouse hp0) rfl ?_
  refine x_iconst (pc := 60) g dX2_copyFrom_60 ic_0 ?_
  refine x_aload_n (pc := 61) (i := 0) (a := 0) g dX2_copyFrom_61 rfl rfl ?_
  refine x_getR (pc := 62) (x := o + 1) g hW dX2_copyFrom_62 fl_2_40 (sHouse ho) rfl ?_
  refine x_iconst (pc := 65) g dX2_copyFrom_65 ic_0 ?_
  refine x_bipush (pc := 66) g dX2_copyFrom_66 bi_6 ?_
  refine x_copyLc (pc := 68) g hW dX2_copyFrom_68 mk_2_61 mm_arraycopy (sHouse_bedName hp0) (sHouse_bedName ho) ixc_6_6 ⟨by decide, Nat.le_of_ble_eq_true rfl⟩ (fun m8 => ?_)
  refine x_aload_n (pc := 71) (i := 1) (a := 1) g dX2_copyFrom_71 rfl rfl ?_
  refine x_getR (pc := 72) (x := p0 + 2) g hW dX2_copyFrom_72 fl_2_44 (sHouse hp0) rfl ?_
  refine x_iconst (pc := 75) g dX2_copyFrom_75 ic_0 ?_
  refine x_aload_n (pc := 76) (i := 0) (a := 0) g dX2_copyFrom_76 rfl rfl ?_
  refine x_getR (pc := 77) (x := o + 2) g hW dX2_copyFrom_77 fl_2_44 (sHouse ho) rfl ?_
  refine x_iconst (pc := 80) g dX2_copyFrom_80 ic_0 ?_
  refine x_bipush (pc := 81) g dX2_copyFrom_81 bi_6 ?_
  refine x_copyLc (pc := 83) g hW dX2_copyFrom_83 mk_2_61 mm_arraycopy (sHouse_owlName hp0) (sHouse_owlName ho) ixc_6_6 ⟨by decide, Nat.le_of_ble_eq_true rfl⟩ (fun m9 => ?_)
  refine x_aload_n (pc := 86) (i := 1) (a := 1) g dX2_copyFrom_86 rfl rfl ?_
  refine x_getR (pc := 87) (x := p0 + 3) g hW dX2_copyFrom_87 fl_2_47 (sHouse hp0) rfl ?_
  refine x_iconst (pc := 90) g dX2_copyFrom_90 ic_0 ?_
  refine x_aload_n (pc := 91) (i := 0) (a := 0) g dX2_copyFrom_91 rfl rfl ?_
  refine x_getR (pc := 92) (x := o + 3) g hW dX2_copyFrom_92 fl_2_47 (sHouse ho) rfl ?_
  refine x_iconst (pc := 95) g dX2_copyFrom_95 ic_0 ?_
  refine x_bipush (pc := 96) g dX2_copyFrom_96 bi_8 ?_
  refine x_copyLc (pc := 98) g hW dX2_copyFrom_98 mk_2_61 mm_arraycopy (sHouse_soundName hp0) (sHouse_soundName ho) ixc_8_8 ⟨by decide, Nat.le_of_ble_eq_true rfl⟩ (fun m10 => ?_)
  refine x_aload_n (pc := 101) (i := 1) (a := 1) g dX2_copyFrom_101 rfl rfl ?_
  refine x_getR (pc := 102) (x := p0 + 4) g hW dX2_copyFrom_102 fl_2_52 (sHouse hp0) rfl ?_
  refine x_aload_n (pc := 105) (i := 0) (a := 0) g dX2_copyFrom_105 rfl rfl ?_
  refine x_getR (pc := 106) (x := o + 4) g hW dX2_copyFrom_106 fl_2_52 (sHouse ho) rfl ?_
  refine x_Sv (pc := 109) g [.ref (xad G (p0 + 4)), .ref (xad G (o + 4))] [] (c_House_copyRows l G hW m10 (p0 + 4) 6 3 (o + 4) 6 3 (sHouse_bedRow hp0) (fun j h => sHouse_bedRowR hp0 h) (sHouse_bedRow ho) (fun j h => sHouse_bedRowR ho h)) dX2_copyFrom_109 ms_2_67 rfl rfl (Nat.le_of_ble_eq_true rfl) ⟨rfl, rfl, Nat.le_of_ble_eq_true rfl, Nat.le_of_ble_eq_true rfl⟩ (fun r11 hr11 => ?_)
  refine x_aload_n (pc := 112) (i := 1) (a := 1) g dX2_copyFrom_112 rfl rfl ?_
  refine x_getR (pc := 113) (x := p0 + 11) g hW dX2_copyFrom_113 fl_2_55 (sHouse hp0) rfl ?_
  refine x_aload_n (pc := 116) (i := 0) (a := 0) g dX2_copyFrom_116 rfl rfl ?_
  refine x_getR (pc := 117) (x := o + 11) g hW dX2_copyFrom_117 fl_2_55 (sHouse ho) rfl ?_
  refine x_Sv (pc := 120) g [.ref (xad G (p0 + 11)), .ref (xad G (o + 11))] [] (c_House_copyRows l G hW r11 (p0 + 11) 6 4 (o + 11) 6 4 (sHouse_owlRow hp0) (fun j h => sHouse_owlRowR hp0 h) (sHouse_owlRow ho) (fun j h => sHouse_owlRowR ho h)) dX2_copyFrom_120 ms_2_67 rfl rfl (Nat.le_of_ble_eq_true rfl) ⟨rfl, rfl, Nat.le_of_ble_eq_true rfl, Nat.le_of_ble_eq_true rfl⟩ (fun r12 hr12 => ?_)
  refine x_aload_n (pc := 123) (i := 1) (a := 1) g dX2_copyFrom_123 rfl rfl ?_
  refine x_getR (pc := 124) (x := p0 + 18) g hW dX2_copyFrom_124 fl_2_58 (sHouse hp0) rfl ?_
  refine x_aload_n (pc := 127) (i := 0) (a := 0) g dX2_copyFrom_127 rfl rfl ?_
  refine x_getR (pc := 128) (x := o + 18) g hW dX2_copyFrom_128 fl_2_58 (sHouse ho) rfl ?_
  refine x_Sv (pc := 131) g [.ref (xad G (p0 + 18)), .ref (xad G (o + 18))] [] (c_House_copyRows l G hW r12 (p0 + 18) 8 6 (o + 18) 8 6 (sHouse_soundRow hp0) (fun j h => sHouse_soundRowR hp0 h) (sHouse_soundRow ho) (fun j h => sHouse_soundRowR ho h)) dX2_copyFrom_131 ms_2_67 rfl rfl (Nat.le_of_ble_eq_true rfl) ⟨rfl, rfl, Nat.le_of_ble_eq_true rfl, Nat.le_of_ble_eq_true rfl⟩ (fun r13 hr13 => ?_)
  exact x_vret (pc := 134) g dX2_copyFrom_134 rfl (fun _ h => h)
theorem c_House_copyFrom (l : Launch) (G : xG) (hW : WC G) (m : xMem) (o : Nat) (p0 : Nat) (ho : isHouse o) (hp0 : isHouse p0) : xCv l G yX2_copyFrom cX2_copyFrom 2 none rm_House_copyFrom [.ref (xad G o), .ref (xad G p0)] m (House_copyFrom m o p0) :=
  xCt_of (own := RX2) (by decide) rfl (Nat.le_of_ble_eq_true rfl) rfl ⟨rfl, rfl⟩ (fun E g => T_House_copyFrom hW g m o p0 ho hp0)
theorem T_House_hasBed {l : Launch} {G : xG} {E : xE} (hW : WC G) (g : xGood E l G.1 RX2 cX2_hasBed yX2_hasBed 2 (some .boolean) rm_House_hasBed) (m : xMem) (o : Nat) (p0 : Int32) (ho : isHouse o) : X E G (fun r : Int32 => (some (Value.int r), m)) 0 [(0, .ref (xad G o)), (1, .int p0)] [] m (House_hasBed m o p0) := by
  unfold House_hasBed
  refine x_iload_n (pc := 0) (i := 1) (a := 1) g dX2_hasBed_0 rfl rfl ?_
  refine x_if_lt (pc := 1) (t := 16) g dX2_hasBed_1 (by decide) ?_ ?_
  · refine x_iconst (pc := 16) g dX2_hasBed_16 ic_0 ?_
    exact x_zretc (pc := 17) g dX2_hasBed_17 rfl (Or.inl rfl) (fun _ h => h)
  · refine x_iload_n (pc := 4) (i := 1) (a := 1) g dX2_hasBed_4 rfl rfl ?_
    refine x_aload_n (pc := 5) (i := 0) (a := 0) g dX2_hasBed_5 rfl rfl ?_
    refine x_getI (pc := 6) g hW dX2_hasBed_6 fl_2_31 (sHouse ho) rfl ?_
    refine x_icmp_ge (pc := 9) (t := 16) g dX2_hasBed_9 (by decide) ?_ ?_
    · refine x_iconst (pc := 12) g dX2_hasBed_12 ic_1 ?_
      refine x_goto (pc := 13) (t := 17) g dX2_hasBed_13 (by decide) ?_
      exact x_zretc (pc := 17) g dX2_hasBed_17 rfl (Or.inr rfl) (fun _ h => h)
    · refine x_iconst (pc := 16) g dX2_hasBed_16 ic_0 ?_
      exact x_zretc (pc := 17) g dX2_hasBed_17 rfl (Or.inl rfl) (fun _ h => h)
theorem c_House_hasBed (l : Launch) (G : xG) (hW : WC G) (m : xMem) (o : Nat) (p0 : Int32) (ho : isHouse o) : xCi l G yX2_hasBed cX2_hasBed 2 (some .boolean) rm_House_hasBed [.ref (xad G o), .int p0] m (House_hasBed m o p0) :=
  xCt_of (own := RX2) (by decide) rfl (Nat.le_of_ble_eq_true rfl) rfl ⟨rfl, rfl⟩ (fun E g => T_House_hasBed hW g m o p0 ho)
theorem T_House_hasOwl {l : Launch} {G : xG} {E : xE} (hW : WC G) (g : xGood E l G.1 RX2 cX2_hasOwl yX2_hasOwl 2 (some .boolean) rm_House_hasOwl) (m : xMem) (o : Nat) (p0 : Int32) (ho : isHouse o) : X E G (fun r : Int32 => (some (Value.int r), m)) 0 [(0, .ref (xad G o)), (1, .int p0)] [] m (House_hasOwl m o p0) := by
  unfold House_hasOwl
  refine x_iload_n (pc := 0) (i := 1) (a := 1) g dX2_hasOwl_0 rfl rfl ?_
  refine x_if_lt (pc := 1) (t := 16) g dX2_hasOwl_1 (by decide) ?_ ?_
  · refine x_iconst (pc := 16) g dX2_hasOwl_16 ic_0 ?_
    exact x_zretc (pc := 17) g dX2_hasOwl_17 rfl (Or.inl rfl) (fun _ h => h)
  · refine x_iload_n (pc := 4) (i := 1) (a := 1) g dX2_hasOwl_4 rfl rfl ?_
    refine x_aload_n (pc := 5) (i := 0) (a := 0) g dX2_hasOwl_5 rfl rfl ?_
    refine x_getI (pc := 6) g hW dX2_hasOwl_6 fl_2_34 (sHouse ho) rfl ?_
    refine x_icmp_ge (pc := 9) (t := 16) g dX2_hasOwl_9 (by decide) ?_ ?_
    · refine x_iconst (pc := 12) g dX2_hasOwl_12 ic_1 ?_
      refine x_goto (pc := 13) (t := 17) g dX2_hasOwl_13 (by decide) ?_
      exact x_zretc (pc := 17) g dX2_hasOwl_17 rfl (Or.inr rfl) (fun _ h => h)
    · refine x_iconst (pc := 16) g dX2_hasOwl_16 ic_0 ?_
      exact x_zretc (pc := 17) g dX2_hasOwl_17 rfl (Or.inl rfl) (fun _ h => h)
theorem c_House_hasOwl (l : Launch) (G : xG) (hW : WC G) (m : xMem) (o : Nat) (p0 : Int32) (ho : isHouse o) : xCi l G yX2_hasOwl cX2_hasOwl 2 (some .boolean) rm_House_hasOwl [.ref (xad G o), .int p0] m (House_hasOwl m o p0) :=
  xCt_of (own := RX2) (by decide) rfl (Nat.le_of_ble_eq_true rfl) rfl ⟨rfl, rfl⟩ (fun E g => T_House_hasOwl hW g m o p0 ho)
theorem T_House_hasName {l : Launch} {G : xG} {E : xE} (hW : WC G) (g : xGood E l G.1 RX2 cX2_hasName yX2_hasName 3 (some .boolean) rm_House_hasName) (m : xMem) (o : Nat) (p0 : Int64) (ho : isHouse o) : X E G (fun r : Int32 => (some (Value.int r), m)) 0 [(0, .ref (xad G o)), (1, .long p0)] [] m (House_hasName m o p0) := by
  unfold House_hasName
  refine x_aload_n (pc := 0) (i := 0) (a := 0) g dX2_hasName_0 rfl rfl ?_
  refine x_getR (pc := 1) (x := o + 1) g hW dX2_hasName_1 fl_2_40 (sHouse ho) rfl ?_
  refine x_aload_n (pc := 4) (i := 0) (a := 0) g dX2_hasName_4 rfl rfl ?_
  refine x_getI (pc := 5) g hW dX2_hasName_5 fl_2_31 (sHouse ho) rfl ?_
  refine x_lload_n (pc := 8) (i := 1) (a := 1) g dX2_hasName_8 rfl rfl ?_
  refine x_Si (pc := 9) g [.ref (xad G (o + 1)), .int (m.1 o 6), .long p0] [] (c_Tokens_numberOf l G hW m (o + 1) 6 (m.1 o 6) p0 (sHouse_bedName ho)) dX2_hasName_9 ms_2_77 rfl rfl (Nat.le_of_ble_eq_true rfl) ⟨rfl, rfl, Nat.le_of_ble_eq_true rfl, Nat.le_of_ble_eq_true rfl⟩ (fun r1 hr1 => ?_)
  refine x_iconst (pc := 12) g dX2_hasName_12 ic_m1 ?_
  refine x_icmp_ne (pc := 13) (t := 48) g dX2_hasName_13 (by decide) ?_ ?_
  · refine x_aload_n (pc := 16) (i := 0) (a := 0) g dX2_hasName_16 rfl rfl ?_
    refine x_getR (pc := 17) (x := o + 2) g hW dX2_hasName_17 fl_2_44 (sHouse ho) rfl ?_
    refine x_aload_n (pc := 20) (i := 0) (a := 0) g dX2_hasName_20 rfl rfl ?_
    refine x_getI (pc := 21) g hW dX2_hasName_21 fl_2_34 (sHouse ho) rfl ?_
    refine x_lload_n (pc := 24) (i := 1) (a := 1) g dX2_hasName_24 rfl rfl ?_
    refine x_Si (pc := 25) g [.ref (xad G (o + 2)), .int (m.1 o 7), .long p0] [] (c_Tokens_numberOf l G hW m (o + 2) 6 (m.1 o 7) p0 (sHouse_owlName ho)) dX2_hasName_25 ms_2_77 rfl rfl (Nat.le_of_ble_eq_true rfl) ⟨rfl, rfl, Nat.le_of_ble_eq_true rfl, Nat.le_of_ble_eq_true rfl⟩ (fun r2 hr2 => ?_)
    refine x_iconst (pc := 28) g dX2_hasName_28 ic_m1 ?_
    refine x_icmp_ne (pc := 29) (t := 48) g dX2_hasName_29 (by decide) ?_ ?_
    · refine x_aload_n (pc := 32) (i := 0) (a := 0) g dX2_hasName_32 rfl rfl ?_
      refine x_getR (pc := 33) (x := o + 3) g hW dX2_hasName_33 fl_2_47 (sHouse ho) rfl ?_
      refine x_aload_n (pc := 36) (i := 0) (a := 0) g dX2_hasName_36 rfl rfl ?_
      refine x_getI (pc := 37) g hW dX2_hasName_37 fl_2_37 (sHouse ho) rfl ?_
      refine x_lload_n (pc := 40) (i := 1) (a := 1) g dX2_hasName_40 rfl rfl ?_
      refine x_Si (pc := 41) g [.ref (xad G (o + 3)), .int (m.1 o 8), .long p0] [] (c_Tokens_numberOf l G hW m (o + 3) 8 (m.1 o 8) p0 (sHouse_soundName ho)) dX2_hasName_41 ms_2_77 rfl rfl (Nat.le_of_ble_eq_true rfl) ⟨rfl, rfl, Nat.le_of_ble_eq_true rfl, Nat.le_of_ble_eq_true rfl⟩ (fun r3 hr3 => ?_)
      refine x_iconst (pc := 44) g dX2_hasName_44 ic_m1 ?_
      refine x_icmp_eq (pc := 45) (t := 52) g dX2_hasName_45 (by decide) ?_ ?_
      · refine x_iconst (pc := 52) g dX2_hasName_52 ic_0 ?_
        exact x_zretc (pc := 53) g dX2_hasName_53 rfl (Or.inl rfl) (fun _ h => h)
      · refine x_iconst (pc := 48) g dX2_hasName_48 ic_1 ?_
        refine x_goto (pc := 49) (t := 53) g dX2_hasName_49 (by decide) ?_
        exact x_zretc (pc := 53) g dX2_hasName_53 rfl (Or.inr rfl) (fun _ h => h)
    · refine x_iconst (pc := 48) g dX2_hasName_48 ic_1 ?_
      refine x_goto (pc := 49) (t := 53) g dX2_hasName_49 (by decide) ?_
      exact x_zretc (pc := 53) g dX2_hasName_53 rfl (Or.inr rfl) (fun _ h => h)
  · refine x_iconst (pc := 48) g dX2_hasName_48 ic_1 ?_
    refine x_goto (pc := 49) (t := 53) g dX2_hasName_49 (by decide) ?_
    exact x_zretc (pc := 53) g dX2_hasName_53 rfl (Or.inr rfl) (fun _ h => h)
theorem c_House_hasName (l : Launch) (G : xG) (hW : WC G) (m : xMem) (o : Nat) (p0 : Int64) (ho : isHouse o) : xCi l G yX2_hasName cX2_hasName 3 (some .boolean) rm_House_hasName [.ref (xad G o), .long p0] m (House_hasName m o p0) :=
  xCt_of (own := RX2) (by decide) rfl (Nat.le_of_ble_eq_true rfl) rfl ⟨rfl, rfl⟩ (fun E g => T_House_hasName hW g m o p0 ho)
theorem T_House_hasBedIn_b2 {l : Launch} {G : xG} {E : xE} (hW : WC G) (g : xGood E l G.1 RX2 cX2_hasBedIn yX2_hasBedIn 4 (some .boolean) rm_House_hasBedIn) (m : xMem) (o : Nat) (p0 : Int32) (p1 : Int32) (ho : isHouse o) : ∀ (n : Nat) (v3 : Int32), X E G (fun r : Int32 => (some (Value.int r), m)) 2 [(0, .ref (xad G o)), (1, .int p0), (2, .int p1), (3, .int v3)] [] m (House_hasBedIn_b2 m o p0 p1 n v3) := by
  intro n
  induction n with
  | zero => intro v3; exact x_none
  | succ n ih =>
    intro v3
    rw [House_hasBedIn_b2]
    refine x_iload_n (pc := 2) (i := 3) (a := 3) g dX2_hasBedIn_2 rfl rfl ?_
    refine x_aload_n (pc := 3) (i := 0) (a := 0) g dX2_hasBedIn_3 rfl rfl ?_
    refine x_getI (pc := 4) g hW dX2_hasBedIn_4 fl_2_31 (sHouse ho) rfl ?_
    refine x_icmp_ge (pc := 7) (t := 42) g dX2_hasBedIn_7 (by decide) ?_ ?_
    · refine x_aload_n (pc := 10) (i := 0) (a := 0) g dX2_hasBedIn_10 rfl rfl ?_
      refine x_getR (pc := 11) (x := o + 4) g hW dX2_hasBedIn_11 fl_2_52 (sHouse ho) rfl ?_
      refine x_iload_n (pc := 14) (i := 3) (a := 3) g dX2_hasBedIn_14 rfl rfl ?_
      refine x_aald4 (pc := 15) (r := fun j => o + 5 + j) g hW dX2_hasBedIn_15 (sHouse_bedRow ho) (fun j h => rowsL_get h) (fun j1 hj1 => ?_)
      refine x_iconst (pc := 16) g dX2_hasBedIn_16 ic_0 ?_
      refine x_ialdc (pc := 17) g hW dX2_hasBedIn_17 (sHouse_bedRowR ho hj1) ix_0_3 ?_
      refine x_iload_n (pc := 18) (i := 1) (a := 1) g dX2_hasBedIn_18 rfl rfl ?_
      refine x_icmp_ne (pc := 19) (t := 36) g dX2_hasBedIn_19 (by decide) ?_ ?_
      · refine x_aload_n (pc := 22) (i := 0) (a := 0) g dX2_hasBedIn_22 rfl rfl ?_
        refine x_getR (pc := 23) (x := o + 4) g hW dX2_hasBedIn_23 fl_2_52 (sHouse ho) rfl ?_
        refine x_iload_n (pc := 26) (i := 3) (a := 3) g dX2_hasBedIn_26 rfl rfl ?_
        refine x_aald4 (pc := 27) (r := fun j => o + 5 + j) g hW dX2_hasBedIn_27 (sHouse_bedRow ho) (fun j h => rowsL_get h) (fun j2 hj2 => ?_)
        refine x_iconst (pc := 28) g dX2_hasBedIn_28 ic_1 ?_
        refine x_ialdc (pc := 29) g hW dX2_hasBedIn_29 (sHouse_bedRowR ho hj2) ix_1_3 ?_
        refine x_iload_n (pc := 30) (i := 2) (a := 2) g dX2_hasBedIn_30 rfl rfl ?_
        refine x_icmp_ne (pc := 31) (t := 36) g dX2_hasBedIn_31 (by decide) ?_ ?_
        · refine x_iconst (pc := 34) g dX2_hasBedIn_34 ic_1 ?_
          exact x_zretc (pc := 35) g dX2_hasBedIn_35 rfl (Or.inr rfl) (fun _ h => h)
        · refine x_iinc (pc := 36) (a := 3) (lv' := [(3, .int (v3 + 1)), (0, .ref (xad G o)), (1, .int p0), (2, .int p1)]) g dX2_hasBedIn_36 ic_1 rfl (by decide) rfl ?_
          refine x_goto (pc := 39) (t := 2) g dX2_hasBedIn_39 (by decide) ?_
          exact x_sub [1, 2, 3, 0] (ih (v3 + 1)) rfl
      · refine x_iinc (pc := 36) (a := 3) (lv' := [(3, .int (v3 + 1)), (0, .ref (xad G o)), (1, .int p0), (2, .int p1)]) g dX2_hasBedIn_36 ic_1 rfl (by decide) rfl ?_
        refine x_goto (pc := 39) (t := 2) g dX2_hasBedIn_39 (by decide) ?_
        exact x_sub [1, 2, 3, 0] (ih (v3 + 1)) rfl
    · refine x_iconst (pc := 42) g dX2_hasBedIn_42 ic_0 ?_
      exact x_zretc (pc := 43) g dX2_hasBedIn_43 rfl (Or.inl rfl) (fun _ h => h)
theorem T_House_hasBedIn {l : Launch} {G : xG} {E : xE} (hW : WC G) (g : xGood E l G.1 RX2 cX2_hasBedIn yX2_hasBedIn 4 (some .boolean) rm_House_hasBedIn) (m : xMem) (o : Nat) (p0 : Int32) (p1 : Int32) (ho : isHouse o) : X E G (fun r : Int32 => (some (Value.int r), m)) 0 [(0, .ref (xad G o)), (1, .int p0), (2, .int p1)] [] m (House_hasBedIn m o p0 p1) := by
  unfold House_hasBedIn
  refine x_iconst (pc := 0) g dX2_hasBedIn_0 ic_0 ?_
  refine x_istore_n (pc := 1) (i := 3) (lv' := [(3, .int 0), (0, .ref (xad G o)), (1, .int p0), (2, .int p1)]) g dX2_hasBedIn_1 rfl (by decide) rfl ?_
  exact x_sub [1, 2, 3, 0] (T_House_hasBedIn_b2 hW g m o p0 p1 ho 1000 0) rfl
theorem c_House_hasBedIn (l : Launch) (G : xG) (hW : WC G) (m : xMem) (o : Nat) (p0 : Int32) (p1 : Int32) (ho : isHouse o) : xCi l G yX2_hasBedIn cX2_hasBedIn 4 (some .boolean) rm_House_hasBedIn [.ref (xad G o), .int p0, .int p1] m (House_hasBedIn m o p0 p1) :=
  xCt_of (own := RX2) (by decide) rfl (Nat.le_of_ble_eq_true rfl) rfl ⟨rfl, rfl⟩ (fun E g => T_House_hasBedIn hW g m o p0 p1 ho)
theorem T_House_hasOwlBy_b2 {l : Launch} {G : xG} {E : xE} (hW : WC G) (g : xGood E l G.1 RX2 cX2_hasOwlBy yX2_hasOwlBy 3 (some .boolean) rm_House_hasOwlBy) (m : xMem) (o : Nat) (p0 : Int32) (ho : isHouse o) : ∀ (n : Nat) (v2 : Int32), X E G (fun r : Int32 => (some (Value.int r), m)) 2 [(0, .ref (xad G o)), (1, .int p0), (2, .int v2)] [] m (House_hasOwlBy_b2 m o p0 n v2) := by
  intro n
  induction n with
  | zero => intro v2; exact x_none
  | succ n ih =>
    intro v2
    rw [House_hasOwlBy_b2]
    refine x_iload_n (pc := 2) (i := 2) (a := 2) g dX2_hasOwlBy_2 rfl rfl ?_
    refine x_aload_n (pc := 3) (i := 0) (a := 0) g dX2_hasOwlBy_3 rfl rfl ?_
    refine x_getI (pc := 4) g hW dX2_hasOwlBy_4 fl_2_34 (sHouse ho) rfl ?_
    refine x_icmp_ge (pc := 7) (t := 30) g dX2_hasOwlBy_7 (by decide) ?_ ?_
    · refine x_aload_n (pc := 10) (i := 0) (a := 0) g dX2_hasOwlBy_10 rfl rfl ?_
      refine x_getR (pc := 11) (x := o + 11) g hW dX2_hasOwlBy_11 fl_2_55 (sHouse ho) rfl ?_
      refine x_iload_n (pc := 14) (i := 2) (a := 2) g dX2_hasOwlBy_14 rfl rfl ?_
      refine x_aald4 (pc := 15) (r := fun j => o + 12 + j) g hW dX2_hasOwlBy_15 (sHouse_owlRow ho) (fun j h => rowsL_get h) (fun j1 hj1 => ?_)
      refine x_iconst (pc := 16) g dX2_hasOwlBy_16 ic_0 ?_
      refine x_ialdc (pc := 17) g hW dX2_hasOwlBy_17 (sHouse_owlRowR ho hj1) ix_0_4 ?_
      refine x_iload_n (pc := 18) (i := 1) (a := 1) g dX2_hasOwlBy_18 rfl rfl ?_
      refine x_icmp_ne (pc := 19) (t := 24) g dX2_hasOwlBy_19 (by decide) ?_ ?_
      · refine x_iconst (pc := 22) g dX2_hasOwlBy_22 ic_1 ?_
        exact x_zretc (pc := 23) g dX2_hasOwlBy_23 rfl (Or.inr rfl) (fun _ h => h)
      · refine x_iinc (pc := 24) (a := 2) (lv' := [(2, .int (v2 + 1)), (0, .ref (xad G o)), (1, .int p0)]) g dX2_hasOwlBy_24 ic_1 rfl (by decide) rfl ?_
        refine x_goto (pc := 27) (t := 2) g dX2_hasOwlBy_27 (by decide) ?_
        exact x_sub [1, 2, 0] (ih (v2 + 1)) rfl
    · refine x_iconst (pc := 30) g dX2_hasOwlBy_30 ic_0 ?_
      exact x_zretc (pc := 31) g dX2_hasOwlBy_31 rfl (Or.inl rfl) (fun _ h => h)
theorem T_House_hasOwlBy {l : Launch} {G : xG} {E : xE} (hW : WC G) (g : xGood E l G.1 RX2 cX2_hasOwlBy yX2_hasOwlBy 3 (some .boolean) rm_House_hasOwlBy) (m : xMem) (o : Nat) (p0 : Int32) (ho : isHouse o) : X E G (fun r : Int32 => (some (Value.int r), m)) 0 [(0, .ref (xad G o)), (1, .int p0)] [] m (House_hasOwlBy m o p0) := by
  unfold House_hasOwlBy
  refine x_iconst (pc := 0) g dX2_hasOwlBy_0 ic_0 ?_
  refine x_istore_n (pc := 1) (i := 2) (lv' := [(2, .int 0), (0, .ref (xad G o)), (1, .int p0)]) g dX2_hasOwlBy_1 rfl (by decide) rfl ?_
  exact x_sub [1, 2, 0] (T_House_hasOwlBy_b2 hW g m o p0 ho 1000 0) rfl
theorem c_House_hasOwlBy (l : Launch) (G : xG) (hW : WC G) (m : xMem) (o : Nat) (p0 : Int32) (ho : isHouse o) : xCi l G yX2_hasOwlBy cX2_hasOwlBy 3 (some .boolean) rm_House_hasOwlBy [.ref (xad G o), .int p0] m (House_hasOwlBy m o p0) :=
  xCt_of (own := RX2) (by decide) rfl (Nat.le_of_ble_eq_true rfl) rfl ⟨rfl, rfl⟩ (fun E g => T_House_hasOwlBy hW g m o p0 ho)
theorem T_Tokens_takeNewName_b51 {l : Launch} {G : xG} {E : xE} (hW : WC G) (g : xGood E l G.1 RX9 cX9_takeNewName yX9_takeNewName 4 (some .long) rm_Tokens_takeNewName) (p0 : Nat) (hp0 : isHouse p0) (s0 : Int32) (m : xMem) : X E G (fun r : Int64 × xMem => (some (Value.long r.1), r.2)) 51 [] [.int s0, .ref (xad G 3)] m (Tokens_takeNewName_b51 p0 s0 m) := by
  unfold Tokens_takeNewName_b51
  refine x_Vim (pc := 51) g hW [.int s0] [] (c_Tokens_fail l G hW m s0) dX9_takeNewName_51 ml_9_91 (sTokens isTokens_3) rfl rfl (Nat.le_of_ble_eq_true rfl) ⟨rfl, rfl, Nat.le_of_ble_eq_true rfl, Nat.le_of_ble_eq_true rfl⟩ (fun r4 hr4 => ?_)
  refine x_pop (pc := 54) g dX9_takeNewName_54 rfl ?_
  refine x_ldc2 (pc := 55) g dX9_takeNewName_55 kc_9_101 ?_
  exact x_lret (pc := 58) g dX9_takeNewName_58 rfl (fun _ h => h)
theorem T_Tokens_takeNewName_b29 {l : Launch} {G : xG} {E : xE} (hW : WC G) (g : xGood E l G.1 RX9 cX9_takeNewName yX9_takeNewName 4 (some .long) rm_Tokens_takeNewName) (p0 : Nat) (hp0 : isHouse p0) (m : xMem) : X E G (fun r : Int64 × xMem => (some (Value.long r.1), r.2)) 29 [(0, .ref (xad G 3))] [] m (Tokens_takeNewName_b29 p0 m) := by
  unfold Tokens_takeNewName_b29
  refine x_aload_n (pc := 29) (i := 0) (a := 0) g dX9_takeNewName_29 rfl rfl ?_
  refine x_aload_n (pc := 30) (i := 0) (a := 0) g dX9_takeNewName_30 rfl rfl ?_
  refine x_getI (pc := 31) g hW dX9_takeNewName_31 fl_9_22 (sTokens isTokens_3) rfl ?_
  refine x_iconst (pc := 34) g dX9_takeNewName_34 ic_2 ?_
  refine x_icmp_ne (pc := 35) (t := 46) g dX9_takeNewName_35 (by decide) ?_ ?_
  · refine x_aload_n (pc := 38) (i := 0) (a := 0) g dX9_takeNewName_38 rfl rfl ?_
    refine x_getI (pc := 39) g hW dX9_takeNewName_39 fl_9_34 (sTokens isTokens_3) rfl ?_
    refine x_iconst (pc := 42) g dX9_takeNewName_42 ic_m1 ?_
    refine x_icmp_eq (pc := 43) (t := 50) g dX9_takeNewName_43 (by decide) ?_ ?_
    · refine x_iconst (pc := 50) g dX9_takeNewName_50 ic_3 ?_
      exact x_sub [] (T_Tokens_takeNewName_b51 hW g p0 hp0 3 m) rfl
    · refine x_iconst (pc := 46) g dX9_takeNewName_46 ic_1 ?_
      refine x_goto (pc := 47) (t := 51) g dX9_takeNewName_47 (by decide) ?_
      exact x_sub [] (T_Tokens_takeNewName_b51 hW g p0 hp0 1 m) rfl
  · refine x_iconst (pc := 46) g dX9_takeNewName_46 ic_1 ?_
    refine x_goto (pc := 47) (t := 51) g dX9_takeNewName_47 (by decide) ?_
    exact x_sub [] (T_Tokens_takeNewName_b51 hW g p0 hp0 1 m) rfl
theorem T_Tokens_takeNewName {l : Launch} {G : xG} {E : xE} (hW : WC G) (g : xGood E l G.1 RX9 cX9_takeNewName yX9_takeNewName 4 (some .long) rm_Tokens_takeNewName) (m : xMem) (p0 : Nat) (hp0 : isHouse p0) : X E G (fun r : Int64 × xMem => (some (Value.long r.1), r.2)) 0 [(0, .ref (xad G 3)), (1, .ref (xad G p0))] [] m (Tokens_takeNewName m p0) := by
  unfold Tokens_takeNewName
  refine x_aload_n (pc := 0) (i := 0) (a := 0) g dX9_takeNewName_0 rfl rfl ?_
  refine x_getL (pc := 1) g hW dX9_takeNewName_1 fl_9_37 (sTokens isTokens_3) rfl ?_
  refine x_nmL (fun y1 => ?_)
  refine x_lstore_n (pc := 4) (i := 2) (lv' := [(2, .long y1), (0, .ref (xad G 3)), (1, .ref (xad G p0))]) g dX9_takeNewName_4 rfl (by decide) rfl ?_
  refine x_aload_n (pc := 5) (i := 0) (a := 1) g dX9_takeNewName_5 rfl rfl ?_
  refine x_getI (pc := 6) g hW dX9_takeNewName_6 fl_9_22 (sTokens isTokens_3) rfl ?_
  refine x_iconst (pc := 9) g dX9_takeNewName_9 ic_2 ?_
  refine x_icmp_ne (pc := 10) (t := 29) g dX9_takeNewName_10 (by decide) ?_ ?_
  · refine x_aload_n (pc := 13) (i := 0) (a := 1) g dX9_takeNewName_13 rfl rfl ?_
    refine x_getI (pc := 14) g hW dX9_takeNewName_14 fl_9_34 (sTokens isTokens_3) rfl ?_
    refine x_iconst (pc := 17) g dX9_takeNewName_17 ic_m1 ?_
    refine x_icmp_ne (pc := 18) (t := 29) g dX9_takeNewName_18 (by decide) ?_ ?_
    · refine x_aload_n (pc := 21) (i := 1) (a := 2) g dX9_takeNewName_21 rfl rfl ?_
      refine x_lload_n (pc := 22) (i := 2) (a := 0) g dX9_takeNewName_22 rfl rfl ?_
      refine x_Vi (pc := 23) g hW [.long y1] [] (c_House_hasName l G hW m p0 y1 hp0) dX9_takeNewName_23 ml_9_95 (sHouse hp0) rfl rfl (Nat.le_of_ble_eq_true rfl) ⟨rfl, rfl, Nat.le_of_ble_eq_true rfl, Nat.le_of_ble_eq_true rfl⟩ (fun r2 hr2 => ?_)
      refine x_if_eq (pc := 26) (t := 59) g dX9_takeNewName_26 (by decide) ?_ ?_
      · refine x_aload_n (pc := 59) (i := 0) (a := 1) g dX9_takeNewName_59 rfl rfl ?_
        refine x_Vv (pc := 60) g hW [] [] (c_Tokens_advance l G hW m) dX9_takeNewName_60 ml_9_65 (sTokens isTokens_3) rfl rfl (Nat.le_of_ble_eq_true rfl) ⟨rfl, rfl, Nat.le_of_ble_eq_true rfl, Nat.le_of_ble_eq_true rfl⟩ (fun r3 hr3 => ?_)
        refine x_lload_n (pc := 63) (i := 2) (a := 0) g dX9_takeNewName_63 rfl rfl ?_
        exact x_lret (pc := 64) g dX9_takeNewName_64 rfl (fun _ h => h)
      · exact x_sub [1] (T_Tokens_takeNewName_b29 hW g p0 hp0 m) rfl
    · exact x_sub [1] (T_Tokens_takeNewName_b29 hW g p0 hp0 m) rfl
  · exact x_sub [1] (T_Tokens_takeNewName_b29 hW g p0 hp0 m) rfl
theorem c_Tokens_takeNewName (l : Launch) (G : xG) (hW : WC G) (m : xMem) (p0 : Nat) (hp0 : isHouse p0) : xClm l G yX9_takeNewName cX9_takeNewName 4 (some .long) rm_Tokens_takeNewName [.ref (xad G 3), .ref (xad G p0)] m (Tokens_takeNewName m p0) :=
  xCt_of (own := RX9) (by decide) rfl (Nat.le_of_ble_eq_true rfl) rfl ⟨rfl, rfl⟩ (fun E g => T_Tokens_takeNewName hW g m p0 hp0)
theorem T_Tokens_failBehind {l : Launch} {G : xG} {E : xE} (hW : WC G) (g : xGood E l G.1 RX9 cX9_failBehind yX9_failBehind 2 (some .boolean) rm_Tokens_failBehind) (m : xMem) (p0 : Int32) : X E G (fun r : Int32 × xMem => (some (Value.int r.1), r.2)) 0 [(0, .ref (xad G 3)), (1, .int p0)] [] m (Tokens_failBehind m p0) := by
  unfold Tokens_failBehind
  refine x_aload_n (pc := 0) (i := 0) (a := 0) g dX9_failBehind_0 rfl rfl ?_
  refine x_iload_n (pc := 1) (i := 1) (a := 1) g dX9_failBehind_1 rfl rfl ?_
  refine x_aload_n (pc := 2) (i := 0) (a := 0) g dX9_failBehind_2 rfl rfl ?_
  refine x_getI (pc := 3) g hW dX9_failBehind_3 fl_9_28 (sTokens isTokens_3) rfl ?_
  refine x_Vim (pc := 6) g hW [.int p0, .int (m.1 3 6)] [] (c_Tokens_failAt l G hW m p0 (m.1 3 6)) dX9_failBehind_6 ml_9_83 (sTokens isTokens_3) rfl rfl (Nat.le_of_ble_eq_true rfl) ⟨rfl, rfl, Nat.le_of_ble_eq_true rfl, Nat.le_of_ble_eq_true rfl⟩ (fun r1 hr1 => ?_)
  exact x_zret (pc := 9) g dX9_failBehind_9 rfl (fun _ _ h => h)
theorem c_Tokens_failBehind (l : Launch) (G : xG) (hW : WC G) (m : xMem) (p0 : Int32) : xCim l G yX9_failBehind cX9_failBehind 2 (some .boolean) rm_Tokens_failBehind [.ref (xad G 3), .int p0] m (Tokens_failBehind m p0) :=
  xCt_of (own := RX9) (by decide) rfl (Nat.le_of_ble_eq_true rfl) rfl ⟨rfl, rfl⟩ (fun E g => T_Tokens_failBehind hW g m p0)
theorem T_Tokens_takeWord_b24 {l : Launch} {G : xG} {E : xE} (hW : WC G) (g : xGood E l G.1 RX9 cX9_takeWord yX9_takeWord 4 (some .int) rm_Tokens_takeWord) (p0 : Int32) (p1 : Int32) (m : xMem) : X E G (fun r : Int32 × xMem => (some (Value.int r.1), r.2)) 24 [(0, .ref (xad G 3))] [] m (Tokens_takeWord_b24 p0 p1 m) := by
  unfold Tokens_takeWord_b24
  refine x_aload_n (pc := 24) (i := 0) (a := 0) g dX9_takeWord_24 rfl rfl ?_
  refine x_iconst (pc := 25) g dX9_takeWord_25 ic_1 ?_
  refine x_Vim (pc := 26) g hW [.int 1] [] (c_Tokens_fail l G hW m 1) dX9_takeWord_26 ml_9_91 (sTokens isTokens_3) rfl rfl (Nat.le_of_ble_eq_true rfl) ⟨rfl, rfl, Nat.le_of_ble_eq_true rfl, Nat.le_of_ble_eq_true rfl⟩ (fun r3 hr3 => ?_)
  refine x_pop (pc := 29) g dX9_takeWord_29 rfl ?_
  refine x_iconst (pc := 30) g dX9_takeWord_30 ic_m1 ?_
  exact x_iret (pc := 31) g dX9_takeWord_31 rfl (fun _ h => h)
theorem T_Tokens_takeWord {l : Launch} {G : xG} {E : xE} (hW : WC G) (g : xGood E l G.1 RX9 cX9_takeWord yX9_takeWord 4 (some .int) rm_Tokens_takeWord) (m : xMem) (p0 : Int32) (p1 : Int32) : X E G (fun r : Int32 × xMem => (some (Value.int r.1), r.2)) 0 [(0, .ref (xad G 3)), (1, .int p0), (2, .int p1)] [] m (Tokens_takeWord m p0 p1) := by
  unfold Tokens_takeWord
  refine x_aload_n (pc := 0) (i := 0) (a := 0) g dX9_takeWord_0 rfl rfl ?_
  refine x_getI (pc := 1) g hW dX9_takeWord_1 fl_9_34 (sTokens isTokens_3) rfl ?_
  refine x_iload_n (pc := 4) (i := 1) (a := 1) g dX9_takeWord_4 rfl rfl ?_
  refine x_isub (pc := 5) g dX9_takeWord_5 ?_
  refine x_nmI (fun x1 => ?_)
  refine x_istore_n (pc := 6) (i := 3) (lv' := [(3, .int x1), (0, .ref (xad G 3)), (1, .int p0), (2, .int p1)]) g dX9_takeWord_6 rfl (by decide) rfl ?_
  refine x_aload_n (pc := 7) (i := 0) (a := 1) g dX9_takeWord_7 rfl rfl ?_
  refine x_getI (pc := 8) g hW dX9_takeWord_8 fl_9_34 (sTokens isTokens_3) rfl ?_
  refine x_iconst (pc := 11) g dX9_takeWord_11 ic_m1 ?_
  refine x_icmp_eq (pc := 12) (t := 24) g dX9_takeWord_12 (by decide) ?_ ?_
  · exact x_sub [1] (T_Tokens_takeWord_b24 hW g p0 p1 m) rfl
  · refine x_iload_n (pc := 15) (i := 3) (a := 0) g dX9_takeWord_15 rfl rfl ?_
    refine x_if_lt (pc := 16) (t := 24) g dX9_takeWord_16 (by decide) ?_ ?_
    · exact x_sub [1] (T_Tokens_takeWord_b24 hW g p0 p1 m) rfl
    · refine x_iload_n (pc := 19) (i := 3) (a := 0) g dX9_takeWord_19 rfl rfl ?_
      refine x_iload_n (pc := 20) (i := 2) (a := 3) g dX9_takeWord_20 rfl rfl ?_
      refine x_icmp_lt (pc := 21) (t := 32) g dX9_takeWord_21 (by decide) ?_ ?_
      · refine x_aload_n (pc := 32) (i := 0) (a := 1) g dX9_takeWord_32 rfl rfl ?_
        refine x_Vv (pc := 33) g hW [] [] (c_Tokens_advance l G hW m) dX9_takeWord_33 ml_9_65 (sTokens isTokens_3) rfl rfl (Nat.le_of_ble_eq_true rfl) ⟨rfl, rfl, Nat.le_of_ble_eq_true rfl, Nat.le_of_ble_eq_true rfl⟩ (fun r2 hr2 => ?_)
        refine x_iload_n (pc := 36) (i := 3) (a := 0) g dX9_takeWord_36 rfl rfl ?_
        exact x_iret (pc := 37) g dX9_takeWord_37 rfl (fun _ h => h)
      · exact x_sub [1] (T_Tokens_takeWord_b24 hW g p0 p1 m) rfl
theorem c_Tokens_takeWord (l : Launch) (G : xG) (hW : WC G) (m : xMem) (p0 : Int32) (p1 : Int32) : xCim l G yX9_takeWord cX9_takeWord 4 (some .int) rm_Tokens_takeWord [.ref (xad G 3), .int p0, .int p1] m (Tokens_takeWord m p0 p1) :=
  xCt_of (own := RX9) (by decide) rfl (Nat.le_of_ble_eq_true rfl) rfl ⟨rfl, rfl⟩ (fun E g => T_Tokens_takeWord hW g m p0 p1)
theorem T_State_begin_b54 {l : Launch} {G : xG} {E : xE} (hW : WC G) (g : xGood E l G.1 RX7 cX7_begin yX7_begin 3 none rm_State_begin) (o : Nat) (p0 : Nat) (ho : isState o) (hp0 : isHouse p0) : ∀ (n : Nat) (v2 : Int32) (m : xMem), X E G (fun r : xMem => ((none : Option Value), r)) 54 [(0, .ref (xad G o)), (2, .int v2)] [] m (State_begin_b54 o p0 n v2 m) := by
  intro n
  induction n with
  | zero => intro v2 m; exact x_none
  | succ n ih =>
    intro v2 m
    rw [State_begin_b54]
    refine x_iload_n (pc := 54) (i := 2) (a := 1) g dX7_begin_54 rfl rfl ?_
    refine x_bipush (pc := 55) g dX7_begin_55 bi_6 ?_
    refine x_icmp_ge (pc := 57) (t := 80) g dX7_begin_57 (by decide) ?_ ?_
    · refine x_aload_n (pc := 60) (i := 0) (a := 0) g dX7_begin_60 rfl rfl ?_
      refine x_getR (pc := 61) (x := o + 3) g hW dX7_begin_61 fl_7_28 (sState ho) rfl ?_
      refine x_iload_n (pc := 64) (i := 2) (a := 1) g dX7_begin_64 rfl rfl ?_
      refine x_iconst (pc := 65) g dX7_begin_65 ic_0 ?_
      refine x_iast (pc := 66) g hW dX7_begin_66 (sState_knows ho) (fun j9 hj9 m8 => ?_)
      refine x_aload_n (pc := 67) (i := 0) (a := 0) g dX7_begin_67 rfl rfl ?_
      refine x_getR (pc := 68) (x := o + 4) g hW dX7_begin_68 fl_7_31 (sState ho) rfl ?_
      refine x_iload_n (pc := 71) (i := 2) (a := 1) g dX7_begin_71 rfl rfl ?_
      refine x_iconst (pc := 72) g dX7_begin_72 ic_0 ?_
      refine x_iast (pc := 73) g hW dX7_begin_73 (sState_misses ho) (fun j11 hj11 m10 => ?_)
      refine x_iinc (pc := 74) (a := 1) (lv' := [(2, .int (v2 + 1)), (0, .ref (xad G o))]) g dX7_begin_74 ic_1 rfl (by decide) rfl ?_
      refine x_goto (pc := 77) (t := 54) g dX7_begin_77 (by decide) ?_
      exact x_sub [1, 0] (ih (v2 + 1) m10) rfl
    · exact x_vret (pc := 80) g dX7_begin_80 rfl (fun _ h => h)
theorem T_State_begin_b24 {l : Launch} {G : xG} {E : xE} (hW : WC G) (g : xGood E l G.1 RX7 cX7_begin yX7_begin 3 none rm_State_begin) (o : Nat) (p0 : Nat) (ho : isState o) (hp0 : isHouse p0) : ∀ (n : Nat) (v2 : Int32) (m : xMem), X E G (fun r : xMem => ((none : Option Value), r)) 24 [(0, .ref (xad G o)), (1, .ref (xad G p0)), (2, .int v2)] [] m (State_begin_b24 o p0 n v2 m) := by
  intro n
  induction n with
  | zero => intro v2 m; exact x_none
  | succ n ih =>
    intro v2 m
    rw [State_begin_b24]
    refine x_iload_n (pc := 24) (i := 2) (a := 2) g dX7_begin_24 rfl rfl ?_
    refine x_aload_n (pc := 25) (i := 1) (a := 1) g dX7_begin_25 rfl rfl ?_
    refine x_getI (pc := 26) g hW dX7_begin_26 fl_7_34 (sHouse hp0) rfl ?_
    refine x_icmp_ge (pc := 29) (t := 52) g dX7_begin_29 (by decide) ?_ ?_
    · refine x_aload_n (pc := 32) (i := 0) (a := 0) g dX7_begin_32 rfl rfl ?_
      refine x_getR (pc := 33) (x := o + 2) g hW dX7_begin_33 fl_7_25 (sState ho) rfl ?_
      refine x_iload_n (pc := 36) (i := 2) (a := 2) g dX7_begin_36 rfl rfl ?_
      refine x_aload_n (pc := 37) (i := 1) (a := 1) g dX7_begin_37 rfl rfl ?_
      refine x_getR (pc := 38) (x := p0 + 11) g hW dX7_begin_38 fl_7_39 (sHouse hp0) rfl ?_
      refine x_iload_n (pc := 41) (i := 2) (a := 2) g dX7_begin_41 rfl rfl ?_
      refine x_aald4 (pc := 42) (r := fun j => p0 + 12 + j) g hW dX7_begin_42 (sHouse_owlRow hp0) (fun j h => rowsL_get h) (fun j5 hj5 => ?_)
      refine x_iconst (pc := 43) g dX7_begin_43 ic_0 ?_
      refine x_ialdc (pc := 44) g hW dX7_begin_44 (sHouse_owlRowR hp0 hj5) ix_0_4 ?_
      refine x_iast (pc := 45) g hW dX7_begin_45 (sState_owlBed ho) (fun j7 hj7 m6 => ?_)
      refine x_iinc (pc := 46) (a := 2) (lv' := [(2, .int (v2 + 1)), (0, .ref (xad G o)), (1, .ref (xad G p0))]) g dX7_begin_46 ic_1 rfl (by decide) rfl ?_
      refine x_goto (pc := 49) (t := 24) g dX7_begin_49 (by decide) ?_
      exact x_sub [1, 2, 0] (ih (v2 + 1) m6) rfl
    · refine x_iconst (pc := 52) g dX7_begin_52 ic_0 ?_
      refine x_istore_n (pc := 53) (i := 2) (lv' := [(2, .int 0), (0, .ref (xad G o)), (1, .ref (xad G p0))]) g dX7_begin_53 rfl (by decide) rfl ?_
      exact x_sub [1, 0] (T_State_begin_b54 hW g o p0 ho hp0 1000 0 m) rfl
theorem T_State_begin {l : Launch} {G : xG} {E : xE} (hW : WC G) (g : xGood E l G.1 RX7 cX7_begin yX7_begin 3 none rm_State_begin) (m : xMem) (o : Nat) (p0 : Nat) (ho : isState o) (hp0 : isHouse p0) : X E G (fun r : xMem => ((none : Option Value), r)) 0 [(0, .ref (xad G o)), (1, .ref (xad G p0))] [] m (State_begin m o p0) := by
  unfold State_begin
  refine x_aload_n (pc := 0) (i := 0) (a := 0) g dX7_begin_0 rfl rfl ?_
  refine x_iconst (pc := 1) g dX7_begin_1 ic_0 ?_
  refine x_putI (pc := 2) g hW dX7_begin_2 fl_7_9 ft_7_0 (sState ho) rfl (fun m1 => ?_)
  refine x_aload_n (pc := 5) (i := 0) (a := 0) g dX7_begin_5 rfl rfl ?_
  refine x_iconst (pc := 6) g dX7_begin_6 ic_0 ?_
  refine x_putI (pc := 7) g hW dX7_begin_7 fl_7_15 ft_7_1 (sState ho) rfl (fun m2 => ?_)
  refine x_aload_n (pc := 10) (i := 0) (a := 0) g dX7_begin_10 rfl rfl ?_
  refine x_iconst (pc := 11) g dX7_begin_11 ic_0 ?_
  refine x_putI (pc := 12) g hW dX7_begin_12 fl_7_18 ft_7_2 (sState ho) rfl (fun m3 => ?_)
  refine x_aload_n (pc := 15) (i := 0) (a := 0) g dX7_begin_15 rfl rfl ?_
  refine x_getR (pc := 16) (x := o + 1) g hW dX7_begin_16 fl_7_21 (sState ho) rfl ?_
  refine x_iconst (pc := 19) g dX7_begin_19 ic_3 ?_
  refine x_iconst (pc := 20) g dX7_begin_20 ic_0 ?_
  refine x_iastc (pc := 21) g hW dX7_begin_21 (sState_shoutRow ho) ix_3_4 (fun m4 => ?_)
  refine x_iconst (pc := 22) g dX7_begin_22 ic_0 ?_
  refine x_istore_n (pc := 23) (i := 2) (lv' := [(2, .int 0), (0, .ref (xad G o)), (1, .ref (xad G p0))]) g dX7_begin_23 rfl (by decide) rfl ?_
  exact x_sub [1, 2, 0] (T_State_begin_b24 hW g o p0 ho hp0 1000 0 m4) rfl
theorem c_State_begin (l : Launch) (G : xG) (hW : WC G) (m : xMem) (o : Nat) (p0 : Nat) (ho : isState o) (hp0 : isHouse p0) : xCv l G yX7_begin cX7_begin 3 none rm_State_begin [.ref (xad G o), .ref (xad G p0)] m (State_begin m o p0) :=
  xCt_of (own := RX7) (by decide) rfl (Nat.le_of_ble_eq_true rfl) rfl ⟨rfl, rfl⟩ (fun E g => T_State_begin hW g m o p0 ho hp0)
theorem T_State_copyFrom {l : Launch} {G : xG} {E : xE} (hW : WC G) (g : xGood E l G.1 RX7 cX7_copyFrom yX7_copyFrom 2 none rm_State_copyFrom) (m : xMem) (o : Nat) (p0 : Nat) (ho : isState o) (hp0 : isState p0) : X E G (fun r : xMem => ((none : Option Value), r)) 0 [(0, .ref (xad G o)), (1, .ref (xad G p0))] [] m (State_copyFrom m o p0) := by
  unfold State_copyFrom
  refine x_aload_n (pc := 0) (i := 0) (a := 0) g dX7_copyFrom_0 rfl rfl ?_
  refine x_aload_n (pc := 1) (i := 1) (a := 1) g dX7_copyFrom_1 rfl rfl ?_
  refine x_getI (pc := 2) g hW dX7_copyFrom_2 fl_7_9 (sState hp0) rfl ?_
  refine x_putI (pc := 5) g hW dX7_copyFrom_5 fl_7_9 ft_7_0 (sState ho) rfl (fun m1 => ?_)
  refine x_aload_n (pc := 8) (i := 0) (a := 0) g dX7_copyFrom_8 rfl rfl ?_
  refine x_aload_n (pc := 9) (i := 1) (a := 1) g dX7_copyFrom_9 rfl rfl ?_
  refine x_getI (pc := 10) g hW dX7_copyFrom_10 fl_7_15 (sState hp0) rfl ?_
  refine x_putI (pc := 13) g hW dX7_copyFrom_13 fl_7_15 ft_7_1 (sState ho) rfl (fun m2 => ?_)
  refine x_aload_n (pc := 16) (i := 0) (a := 0) g dX7_copyFrom_16 rfl rfl ?_
  refine x_aload_n (pc := 17) (i := 1) (a := 1) g dX7_copyFrom_17 rfl rfl ?_
  refine x_getI (pc := 18) g hW dX7_copyFrom_18 fl_7_18 (sState hp0) rfl ?_
  refine x_putI (pc := 21) g hW dX7_copyFrom_21 fl_7_18 ft_7_2 (sState ho) rfl (fun m3 => ?_)
  refine x_aload_n (pc := 24) (i := 1) (a := 1) g dX7_copyFrom_24 rfl rfl ?_
  refine x_getR (pc := 25) (x := p0 + 1) g hW dX7_copyFrom_25 fl_7_21 (sState hp0) rfl ?_
  refine x_iconst (pc := 28) g dX7_copyFrom_28 ic_0 ?_
  refine x_aload_n (pc := 29) (i := 0) (a := 0) g dX7_copyFrom_29 rfl rfl ?_
  refine x_getR (pc := 30) (x := o + 1) g hW dX7_copyFrom_30 fl_7_21 (sState ho) rfl ?_
  refine x_iconst (pc := 33) g dX7_copyFrom_33 ic_0 ?_
  refine x_aload_n (pc := 34) (i := 0) (a := 0) g dX7_copyFrom_34 rfl rfl ?_
  refine x_getR (pc := 35) (x := o + 1) g hW dX7_copyFrom_35 fl_7_21 (sState ho) rfl ?_
  refine x_alen (pc := 38) g hW dX7_copyFrom_38 (sState_shoutRow ho) (by decide) al_4 ?_
  refine x_copyIc (pc := 39) g hW dX7_copyFrom_39 mk_7_43 mm_arraycopy (sState_shoutRow hp0) (sState_shoutRow ho) ixc_4_4 ⟨by decide, Nat.le_of_ble_eq_true rfl⟩ (fun m4 => ?_)
  refine x_aload_n (pc := 42) (i := 1) (a := 1) g dX7_copyFrom_42 rfl rfl ?_
  refine x_getR (pc := 43) (x := p0 + 2) g hW dX7_copyFrom_43 fl_7_25 (sState hp0) rfl ?_
  refine x_iconst (pc := 46) g dX7_copyFrom_46 ic_0 ?_
  refine x_aload_n (pc := 47) (i := 0) (a := 0) g dX7_copyFrom_47 rfl rfl ?_
  refine x_getR (pc := 48) (x := o + 2) g hW dX7_copyFrom_48 fl_7_25 (sState ho) rfl ?_
  refine x_iconst (pc := 51) g dX7_copyFrom_51 ic_0 ?_
  refine x_bipush (pc := 52) g dX7_copyFrom_52 bi_6 ?_
  refine x_copyIc (pc := 54) g hW dX7_copyFrom_54 mk_7_43 mm_arraycopy (sState_owlBed hp0) (sState_owlBed ho) ixc_6_6 ⟨by decide, Nat.le_of_ble_eq_true rfl⟩ (fun m5 => ?_)
  refine x_aload_n (pc := 57) (i := 1) (a := 1) g dX7_copyFrom_57 rfl rfl ?_
  refine x_getR (pc := 58) (x := p0 + 3) g hW dX7_copyFrom_58 fl_7_28 (sState hp0) rfl ?_
  refine x_iconst (pc := 61) g dX7_copyFrom_61 ic_0 ?_
  refine x_aload_n (pc := 62) (i := 0) (a := 0) g dX7_copyFrom_62 rfl rfl ?_
  refine x_getR (pc := 63) (x := o + 3) g hW dX7_copyFrom_63 fl_7_28 (sState ho) rfl ?_
  refine x_iconst (pc := 66) g dX7_copyFrom_66 ic_0 ?_
  refine x_bipush (pc := 67) g dX7_copyFrom_67 bi_6 ?_
  refine x_copyIc (pc := 69) g hW dX7_copyFrom_69 mk_7_43 mm_arraycopy (sState_knows hp0) (sState_knows ho) ixc_6_6 ⟨by decide, Nat.le_of_ble_eq_true rfl⟩ (fun m6 => ?_)
  refine x_aload_n (pc := 72) (i := 1) (a := 1) g dX7_copyFrom_72 rfl rfl ?_
  refine x_getR (pc := 73) (x := p0 + 4) g hW dX7_copyFrom_73 fl_7_31 (sState hp0) rfl ?_
  refine x_iconst (pc := 76) g dX7_copyFrom_76 ic_0 ?_
  refine x_aload_n (pc := 77) (i := 0) (a := 0) g dX7_copyFrom_77 rfl rfl ?_
  refine x_getR (pc := 78) (x := o + 4) g hW dX7_copyFrom_78 fl_7_31 (sState ho) rfl ?_
  refine x_iconst (pc := 81) g dX7_copyFrom_81 ic_0 ?_
  refine x_bipush (pc := 82) g dX7_copyFrom_82 bi_6 ?_
  refine x_copyIc (pc := 84) g hW dX7_copyFrom_84 mk_7_43 mm_arraycopy (sState_misses hp0) (sState_misses ho) ixc_6_6 ⟨by decide, Nat.le_of_ble_eq_true rfl⟩ (fun m7 => ?_)
  exact x_vret (pc := 87) g dX7_copyFrom_87 rfl (fun _ h => h)
theorem c_State_copyFrom (l : Launch) (G : xG) (hW : WC G) (m : xMem) (o : Nat) (p0 : Nat) (ho : isState o) (hp0 : isState p0) : xCv l G yX7_copyFrom cX7_copyFrom 2 none rm_State_copyFrom [.ref (xad G o), .ref (xad G p0)] m (State_copyFrom m o p0) :=
  xCt_of (own := RX7) (by decide) rfl (Nat.le_of_ble_eq_true rfl) rfl ⟨rfl, rfl⟩ (fun E g => T_State_copyFrom hW g m o p0 ho hp0)
theorem T_State_sideFrom {l : Launch} {G : xG} {E : xE} (hW : WC G) (g : xGood E l G.1 RX7 cX7_sideFrom yX7_sideFrom 4 (some .int) rm_State_sideFrom) (m : xMem) (o : Nat) (p0 : Nat) (p1 : Int32) (p2 : Int32) (ho : isState o) (hp0 : isHouse p0) : X E G (fun r : Int32 => (some (Value.int r), m)) 0 [(0, .ref (xad G o)), (1, .ref (xad G p0)), (2, .int p1), (3, .int p2)] [] m (State_sideFrom m o p0 p1 p2) := by
  unfold State_sideFrom
  refine x_iload_n (pc := 0) (i := 3) (a := 3) g dX7_sideFrom_0 rfl rfl ?_
  refine x_iconst (pc := 1) g dX7_sideFrom_1 ic_m1 ?_
  refine x_icmp_ne (pc := 2) (t := 9) g dX7_sideFrom_2 (by decide) ?_ ?_
  · refine x_iconst (pc := 5) g dX7_sideFrom_5 ic_m1 ?_
    refine x_goto (pc := 6) (t := 20) g dX7_sideFrom_6 (by decide) ?_
    exact x_iret (pc := 20) g dX7_sideFrom_20 rfl (fun _ h => h)
  · refine x_aload_n (pc := 9) (i := 1) (a := 1) g dX7_sideFrom_9 rfl rfl ?_
    refine x_iload_n (pc := 10) (i := 2) (a := 2) g dX7_sideFrom_10 rfl rfl ?_
    refine x_aload_n (pc := 11) (i := 0) (a := 0) g dX7_sideFrom_11 rfl rfl ?_
    refine x_aload_n (pc := 12) (i := 1) (a := 1) g dX7_sideFrom_12 rfl rfl ?_
    refine x_iload_n (pc := 13) (i := 3) (a := 3) g dX7_sideFrom_13 rfl rfl ?_
    refine x_Vn (pc := 14) g hW [.ref (xad G p0), .int p2] [.int p1, .ref (xad G p0)] (c_State_rowOf l G hW m o p0 p2 ho hp0) dX7_sideFrom_14 ml_7_63 (sState ho) rfl rfl (Nat.le_of_ble_eq_true rfl) ⟨rfl, rfl, Nat.le_of_ble_eq_true rfl, Nat.le_of_ble_eq_true rfl⟩ (fun r1 hr1 => ?_)
    obtain ⟨Nr1, h4r1, hSr1⟩ := rowOf_src ho hp0 hr1
    refine x_Vi (pc := 17) g hW [.int p1, .ref (xad G r1)] [] (c_House_sideAt l G hW m p0 p1 r1 hp0 hSr1 h4r1) dX7_sideFrom_17 ml_7_90 (sHouse hp0) rfl rfl (Nat.le_of_ble_eq_true rfl) ⟨rfl, rfl, Nat.le_of_ble_eq_true rfl, Nat.le_of_ble_eq_true rfl⟩ (fun r2 hr2 => ?_)
    exact x_iret (pc := 20) g dX7_sideFrom_20 rfl (fun _ h => h)
theorem c_State_sideFrom (l : Launch) (G : xG) (hW : WC G) (m : xMem) (o : Nat) (p0 : Nat) (p1 : Int32) (p2 : Int32) (ho : isState o) (hp0 : isHouse p0) : xCi l G yX7_sideFrom cX7_sideFrom 4 (some .int) rm_State_sideFrom [.ref (xad G o), .ref (xad G p0), .int p1, .int p2] m (State_sideFrom m o p0 p1 p2) :=
  xCt_of (own := RX7) (by decide) rfl (Nat.le_of_ble_eq_true rfl) rfl ⟨rfl, rfl⟩ (fun E g => T_State_sideFrom hW g m o p0 p1 p2 ho hp0)
theorem T_State_total_b4 {l : Launch} {G : xG} {E : xE} (hW : WC G) (g : xGood E l G.1 RX7 cX7_total yX7_total 4 (some .int) rm_State_total) (m : xMem) (p0 : Nat) (Np0 : Nat) (p1 : Int32) (hp0 : shC p0 = .inr (0, Np0, [])) : ∀ (n : Nat) (v2 : Int32) (v3 : Int32), X E G (fun r : Int32 => (some (Value.int r), m)) 4 [(0, .ref (xad G p0)), (1, .int p1), (2, .int v2), (3, .int v3)] [] m (State_total_b4 m p0 Np0 p1 n v2 v3) := by
  intro n
  induction n with
  | zero => intro v2 v3; exact x_none
  | succ n ih =>
    intro v2 v3
    rw [State_total_b4]
    refine x_iload_n (pc := 4) (i := 3) (a := 3) g dX7_total_4 rfl rfl ?_
    refine x_iload_n (pc := 5) (i := 1) (a := 1) g dX7_total_5 rfl rfl ?_
    refine x_icmp_ge (pc := 6) (t := 27) g dX7_total_6 (by decide) ?_ ?_
    · refine x_iload_n (pc := 9) (i := 3) (a := 3) g dX7_total_9 rfl rfl ?_
      refine x_aload_n (pc := 10) (i := 0) (a := 0) g dX7_total_10 rfl rfl ?_
      refine x_alen (pc := 11) (v := nI Np0) g hW dX7_total_11 (hp0) (by decide) rfl ?_
      refine x_icmp_ge (pc := 12) (t := 27) g dX7_total_12 (by decide) ?_ ?_
      · refine x_iload_n (pc := 15) (i := 2) (a := 2) g dX7_total_15 rfl rfl ?_
        refine x_aload_n (pc := 16) (i := 0) (a := 0) g dX7_total_16 rfl rfl ?_
        refine x_iload_n (pc := 17) (i := 3) (a := 3) g dX7_total_17 rfl rfl ?_
        refine x_iald (pc := 18) g hW dX7_total_18 (hp0) (fun j1 hj1 => ?_)
        refine x_iadd (pc := 19) g dX7_total_19 ?_
        refine x_nmI (fun x2 => ?_)
        refine x_istore_n (pc := 20) (i := 2) (lv' := [(2, .int x2), (0, .ref (xad G p0)), (1, .int p1), (3, .int v3)]) g dX7_total_20 rfl (by decide) rfl ?_
        refine x_iinc (pc := 21) (a := 3) (lv' := [(3, .int (v3 + 1)), (2, .int x2), (0, .ref (xad G p0)), (1, .int p1)]) g dX7_total_21 ic_1 rfl (by decide) rfl ?_
        refine x_goto (pc := 24) (t := 4) g dX7_total_24 (by decide) ?_
        exact x_sub [2, 3, 1, 0] (ih x2 (v3 + 1)) rfl
      · refine x_iload_n (pc := 27) (i := 2) (a := 2) g dX7_total_27 rfl rfl ?_
        exact x_iret (pc := 28) g dX7_total_28 rfl (fun _ h => h)
    · refine x_iload_n (pc := 27) (i := 2) (a := 2) g dX7_total_27 rfl rfl ?_
      exact x_iret (pc := 28) g dX7_total_28 rfl (fun _ h => h)
theorem T_State_total {l : Launch} {G : xG} {E : xE} (hW : WC G) (g : xGood E l G.1 RX7 cX7_total yX7_total 4 (some .int) rm_State_total) (m : xMem) (p0 : Nat) (Np0 : Nat) (p1 : Int32) (hp0 : shC p0 = .inr (0, Np0, [])) : X E G (fun r : Int32 => (some (Value.int r), m)) 0 [(0, .ref (xad G p0)), (1, .int p1)] [] m (State_total m p0 Np0 p1) := by
  unfold State_total
  refine x_iconst (pc := 0) g dX7_total_0 ic_0 ?_
  refine x_istore_n (pc := 1) (i := 2) (lv' := [(2, .int 0), (0, .ref (xad G p0)), (1, .int p1)]) g dX7_total_1 rfl (by decide) rfl ?_
  refine x_iconst (pc := 2) g dX7_total_2 ic_0 ?_
  refine x_istore_n (pc := 3) (i := 3) (lv' := [(3, .int 0), (2, .int 0), (0, .ref (xad G p0)), (1, .int p1)]) g dX7_total_3 rfl (by decide) rfl ?_
  exact x_sub [2, 3, 1, 0] (T_State_total_b4 hW g m p0 Np0 p1 hp0 1000 0 0) rfl
theorem c_State_total (l : Launch) (G : xG) (hW : WC G) (m : xMem) (p0 : Nat) (Np0 : Nat) (p1 : Int32) (hp0 : shC p0 = .inr (0, Np0, [])) : xCi l G yX7_total cX7_total 4 (some .int) rm_State_total [.ref (xad G p0), .int p1] m (State_total m p0 Np0 p1) :=
  xCt_of (own := RX7) (by decide) rfl (Nat.le_of_ble_eq_true rfl) rfl ⟨rfl, rfl⟩ (fun E g => T_State_total hW g m p0 Np0 p1 hp0)
theorem T_State_heardNow {l : Launch} {G : xG} {E : xE} (hW : WC G) (g : xGood E l G.1 RX7 cX7_heardNow yX7_heardNow 4 (some .int) rm_State_heardNow) (m : xMem) (o : Nat) (p0 : Nat) (p1 : Int32) (p2 : Int32) (ho : isState o) (hp0 : isHouse p0) : X E G (fun r : Int32 => (some (Value.int r), m)) 0 [(0, .ref (xad G o)), (1, .ref (xad G p0)), (2, .int p1), (3, .int p2)] [] m (State_heardNow m o p0 p1 p2) := by
  unfold State_heardNow
  refine x_aload_n (pc := 0) (i := 1) (a := 1) g dX7_heardNow_0 rfl rfl ?_
  refine x_aload_n (pc := 1) (i := 0) (a := 0) g dX7_heardNow_1 rfl rfl ?_
  refine x_getI (pc := 2) g hW dX7_heardNow_2 fl_7_9 (sState ho) rfl ?_
  refine x_Vi (pc := 5) g hW [.int (m.1 o 0)] [] (c_House_shutAt l G hW m p0 (m.1 o 0) hp0) dX7_heardNow_5 ml_7_71 (sHouse hp0) rfl rfl (Nat.le_of_ble_eq_true rfl) ⟨rfl, rfl, Nat.le_of_ble_eq_true rfl, Nat.le_of_ble_eq_true rfl⟩ (fun r1 hr1 => ?_)
  refine x_if_eq (pc := 8) (t := 15) g dX7_heardNow_8 (by decide) ?_ ?_
  · refine x_aload_n (pc := 15) (i := 0) (a := 0) g dX7_heardNow_15 rfl rfl ?_
    refine x_aload_n (pc := 16) (i := 1) (a := 1) g dX7_heardNow_16 rfl rfl ?_
    refine x_iload_n (pc := 17) (i := 2) (a := 2) g dX7_heardNow_17 rfl rfl ?_
    refine x_iload_n (pc := 18) (i := 3) (a := 3) g dX7_heardNow_18 rfl rfl ?_
    refine x_aload_n (pc := 19) (i := 0) (a := 0) g dX7_heardNow_19 rfl rfl ?_
    refine x_aload_n (pc := 20) (i := 1) (a := 1) g dX7_heardNow_20 rfl rfl ?_
    refine x_iconst (pc := 21) g dX7_heardNow_21 ic_0 ?_
    refine x_Vi (pc := 22) g hW [.ref (xad G p0), .int 0] [.int p2, .int p1, .ref (xad G p0), .ref (xad G o)] (c_State_onBits l G hW m o p0 0 ho hp0) dX7_heardNow_22 ml_7_74 (sState ho) rfl rfl (Nat.le_of_ble_eq_true rfl) ⟨rfl, rfl, Nat.le_of_ble_eq_true rfl, Nat.le_of_ble_eq_true rfl⟩ (fun r2 hr2 => ?_)
    refine x_Vi (pc := 25) g hW [.ref (xad G p0), .int p1, .int p2, .int r2] [] (c_State_heardBits l G hW m o p0 p1 p2 r2 ho hp0) dX7_heardNow_25 ml_7_78 (sState ho) rfl rfl (Nat.le_of_ble_eq_true rfl) ⟨rfl, rfl, Nat.le_of_ble_eq_true rfl, Nat.le_of_ble_eq_true rfl⟩ (fun r3 hr3 => ?_)
    exact x_iret (pc := 28) g dX7_heardNow_28 rfl (fun _ h => h)
  · refine x_iconst (pc := 11) g dX7_heardNow_11 ic_0 ?_
    refine x_goto (pc := 12) (t := 28) g dX7_heardNow_12 (by decide) ?_
    exact x_iret (pc := 28) g dX7_heardNow_28 rfl (fun _ h => h)
theorem c_State_heardNow (l : Launch) (G : xG) (hW : WC G) (m : xMem) (o : Nat) (p0 : Nat) (p1 : Int32) (p2 : Int32) (ho : isState o) (hp0 : isHouse p0) : xCi l G yX7_heardNow cX7_heardNow 4 (some .int) rm_State_heardNow [.ref (xad G o), .ref (xad G p0), .int p1, .int p2] m (State_heardNow m o p0 p1 p2) :=
  xCt_of (own := RX7) (by decide) rfl (Nat.le_of_ble_eq_true rfl) rfl ⟨rfl, rfl⟩ (fun E g => T_State_heardNow hW g m o p0 p1 p2 ho hp0)
theorem T_State_step {l : Launch} {G : xG} {E : xE} (hW : WC G) (g : xGood E l G.1 RX7 cX7_step yX7_step 1 (some .int) rm_State_step) (m : xMem) (p0 : Int32) : X E G (fun r : Int32 => (some (Value.int r), m)) 0 [(0, .int p0)] [] m (State_step m p0) := by
  unfold State_step
  refine x_iload_n (pc := 0) (i := 0) (a := 0) g dX7_step_0 rfl rfl ?_
  refine x_ldc (pc := 1) g dX7_step_1 kc_7_128 ?_
  refine x_imul (pc := 3) g dX7_step_3 ?_
  refine x_sipush (pc := 4) g dX7_step_4 si_12345 ?_
  refine x_iadd (pc := 7) g dX7_step_7 ?_
  exact x_iret (pc := 8) g dX7_step_8 rfl (fun _ h => h)
theorem c_State_step (l : Launch) (G : xG) (hW : WC G) (m : xMem) (p0 : Int32) : xCi l G yX7_step cX7_step 1 (some .int) rm_State_step [.int p0] m (State_step m p0) :=
  xCt_of (own := RX7) (by decide) rfl (Nat.le_of_ble_eq_true rfl) rfl ⟨rfl, rfl⟩ (fun E g => T_State_step hW g m p0)
theorem T_State_pick {l : Launch} {G : xG} {E : xE} (hW : WC G) (g : xGood E l G.1 RX7 cX7_pick yX7_pick 2 (some .int) rm_State_pick) (m : xMem) (p0 : Int32) (p1 : Int32) : X E G (fun r : Int32 => (some (Value.int r), m)) 0 [(0, .int p0), (1, .int p1)] [] m (State_pick m p0 p1) := by
  unfold State_pick
  refine x_iload_n (pc := 0) (i := 1) (a := 1) g dX7_pick_0 rfl rfl ?_
  refine x_if_le (pc := 1) (t := 13) g dX7_pick_1 (by decide) ?_ ?_
  · refine x_iload_n (pc := 4) (i := 0) (a := 0) g dX7_pick_4 rfl rfl ?_
    refine x_bipush (pc := 5) g dX7_pick_5 bi_8 ?_
    refine x_iushr (pc := 7) g dX7_pick_7 ?_
    refine x_iload_n (pc := 8) (i := 1) (a := 1) g dX7_pick_8 rfl rfl ?_
    refine x_if (fun _ => x_none) (fun h0 => ?_)
    refine x_irem (pc := 9) g dX7_pick_9 h0 ?_
    refine x_goto (pc := 10) (t := 14) g dX7_pick_10 (by decide) ?_
    exact x_iret (pc := 14) g dX7_pick_14 rfl (fun _ h => h)
  · refine x_iconst (pc := 13) g dX7_pick_13 ic_0 ?_
    exact x_iret (pc := 14) g dX7_pick_14 rfl (fun _ h => h)
theorem c_State_pick (l : Launch) (G : xG) (hW : WC G) (m : xMem) (p0 : Int32) (p1 : Int32) : xCi l G yX7_pick cX7_pick 2 (some .int) rm_State_pick [.int p0, .int p1] m (State_pick m p0 p1) :=
  xCt_of (own := RX7) (by decide) rfl (Nat.le_of_ble_eq_true rfl) rfl ⟨rfl, rfl⟩ (fun E g => T_State_pick hW g m p0 p1)
theorem T_State_passDrawn_b137 {l : Launch} {G : xG} {E : xE} (hW : WC G) (g : xGood E l G.1 RX7 cX7_passDrawn yX7_passDrawn 8 none rm_State_passDrawn) (o : Nat) (p0 : Nat) (p1 : Int32) (p2 : Int32) (ho : isState o) (hp0 : isHouse p0) (k6 : Int32 → Int32 → xMem → Option (xMem)) (hk6 : ∀ (v4 : Int32) (v5 : Int32) (m : xMem), X E G (fun r : xMem => ((none : Option Value), r)) 6 [(0, .ref (xad G o)), (1, .ref (xad G p0)), (2, .int p1), (4, .int v4), (5, .int v5)] [] m (k6 v4 v5 m)) (v4 : Int32) (v5 : Int32) (m : xMem) : X E G (fun r : xMem => ((none : Option Value), r)) 137 [(0, .ref (xad G o)), (1, .ref (xad G p0)), (2, .int p1), (4, .int v4), (5, .int v5)] [] m (State_passDrawn_b137 o p0 p1 p2 k6 v4 v5 m) := by
  unfold State_passDrawn_b137
  refine x_aload_n (pc := 137) (i := 0) (a := 0) g dX7_passDrawn_137 rfl rfl ?_
  refine x_aload_n (pc := 138) (i := 1) (a := 1) g dX7_passDrawn_138 rfl rfl ?_
  refine x_Vv (pc := 139) g hW [.ref (xad G p0)] [] (c_State_passHour l G hW m o p0 ho hp0) dX7_passDrawn_139 ml_7_124 (sState ho) rfl rfl (Nat.le_of_ble_eq_true rfl) ⟨rfl, rfl, Nat.le_of_ble_eq_true rfl, Nat.le_of_ble_eq_true rfl⟩ (fun r14 hr14 => ?_)
  refine x_iinc (pc := 142) (a := 4) (lv' := [(5, .int (v5 + 1)), (0, .ref (xad G o)), (1, .ref (xad G p0)), (2, .int p1), (4, .int v4)]) g dX7_passDrawn_142 ic_1 rfl (by decide) rfl ?_
  refine x_goto (pc := 145) (t := 6) g dX7_passDrawn_145 (by decide) ?_
  exact x_sub [1, 2, 3, 4, 0] (hk6 v4 (v5 + 1) r14) rfl
theorem T_State_passDrawn_b15 {l : Launch} {G : xG} {E : xE} (hW : WC G) (g : xGood E l G.1 RX7 cX7_passDrawn yX7_passDrawn 8 none rm_State_passDrawn) (o : Nat) (p0 : Nat) (p1 : Int32) (p2 : Int32) (ho : isState o) (hp0 : isHouse p0) (k6 : Int32 → Int32 → xMem → Option (xMem)) (hk6 : ∀ (v4 : Int32) (v5 : Int32) (m : xMem), X E G (fun r : xMem => ((none : Option Value), r)) 6 [(0, .ref (xad G o)), (1, .ref (xad G p0)), (2, .int p1), (4, .int v4), (5, .int v5)] [] m (k6 v4 v5 m)) : ∀ (n : Nat) (v4 : Int32) (v5 : Int32) (v6 : Int32) (m : xMem), X E G (fun r : xMem => ((none : Option Value), r)) 15 [(0, .ref (xad G o)), (1, .ref (xad G p0)), (2, .int p1), (4, .int v4), (5, .int v5), (6, .int v6)] [] m (State_passDrawn_b15 o p0 p1 p2 k6 n v4 v5 v6 m) := by
  intro n
  induction n with
  | zero => intro v4 v5 v6 m; exact x_none
  | succ n ih =>
    intro v4 v5 v6 m
    rw [State_passDrawn_b15]
    refine x_iload (pc := 15) (a := 5) g dX7_passDrawn_15 rfl ?_
    refine x_aload_n (pc := 17) (i := 1) (a := 1) g dX7_passDrawn_17 rfl rfl ?_
    refine x_getI (pc := 18) g hW dX7_passDrawn_18 fl_7_56 (sHouse hp0) rfl ?_
    refine x_icmp_ge (pc := 21) (t := 60) g dX7_passDrawn_21 (by decide) ?_ ?_
    · refine x_iload (pc := 24) (a := 3) g dX7_passDrawn_24 rfl ?_
      refine x_Si (pc := 26) g [.int v4] [] (c_State_step l G hW m v4) dX7_passDrawn_26 ms_7_106 rfl rfl (Nat.le_of_ble_eq_true rfl) ⟨rfl, rfl, Nat.le_of_ble_eq_true rfl, Nat.le_of_ble_eq_true rfl⟩ (fun r1 hr1 => ?_)
      refine x_istore (pc := 29) (lv' := [(4, .int r1), (0, .ref (xad G o)), (1, .ref (xad G p0)), (2, .int p1), (5, .int v5), (6, .int v6)]) g dX7_passDrawn_29 (by decide) rfl ?_
      refine x_iload (pc := 31) (a := 0) g dX7_passDrawn_31 rfl ?_
      refine x_bipush (pc := 33) g dX7_passDrawn_33 bi_8 ?_
      refine x_Si (pc := 35) g [.int r1, .int 8] [] (c_State_pick l G hW m r1 8) dX7_passDrawn_35 ms_7_110 rfl rfl (Nat.le_of_ble_eq_true rfl) ⟨rfl, rfl, Nat.le_of_ble_eq_true rfl, Nat.le_of_ble_eq_true rfl⟩ (fun r2 hr2 => ?_)
      refine x_if_ne (pc := 38) (t := 54) g dX7_passDrawn_38 (by decide) ?_ ?_
      · refine x_aload_n (pc := 41) (i := 0) (a := 1) g dX7_passDrawn_41 rfl rfl ?_
        refine x_dup (pc := 42) g dX7_passDrawn_42 rfl ?_
        refine x_getI (pc := 43) g hW dX7_passDrawn_43 fl_7_15 (sState ho) rfl ?_
        refine x_iconst (pc := 46) g dX7_passDrawn_46 ic_1 ?_
        refine x_iload (pc := 47) (a := 5) g dX7_passDrawn_47 rfl ?_
        refine x_ishl (pc := 49) g dX7_passDrawn_49 ?_
        refine x_ixor (pc := 50) g dX7_passDrawn_50 ?_
        refine x_putI (pc := 51) g hW dX7_passDrawn_51 fl_7_15 ft_7_1 (sState ho) rfl (fun m3 => ?_)
        refine x_iinc (pc := 54) (a := 5) (lv' := [(6, .int (v6 + 1)), (4, .int r1), (0, .ref (xad G o)), (1, .ref (xad G p0)), (2, .int p1), (5, .int v5)]) g dX7_passDrawn_54 ic_1 rfl (by decide) rfl ?_
        refine x_goto (pc := 57) (t := 15) g dX7_passDrawn_57 (by decide) ?_
        exact x_sub [2, 3, 4, 1, 5, 0] (ih r1 v5 (v6 + 1) m3) rfl
      · refine x_iinc (pc := 54) (a := 5) (lv' := [(6, .int (v6 + 1)), (4, .int r1), (0, .ref (xad G o)), (1, .ref (xad G p0)), (2, .int p1), (5, .int v5)]) g dX7_passDrawn_54 ic_1 rfl (by decide) rfl ?_
        refine x_goto (pc := 57) (t := 15) g dX7_passDrawn_57 (by decide) ?_
        exact x_sub [2, 3, 4, 1, 5, 0] (ih r1 v5 (v6 + 1) m) rfl
    · refine x_iload (pc := 60) (a := 3) g dX7_passDrawn_60 rfl ?_
      refine x_Si (pc := 62) g [.int v4] [] (c_State_step l G hW m v4) dX7_passDrawn_62 ms_7_106 rfl rfl (Nat.le_of_ble_eq_true rfl) ⟨rfl, rfl, Nat.le_of_ble_eq_true rfl, Nat.le_of_ble_eq_true rfl⟩ (fun r4 hr4 => ?_)
      refine x_istore (pc := 65) (lv' := [(4, .int r4), (0, .ref (xad G o)), (1, .ref (xad G p0)), (2, .int p1), (5, .int v5), (6, .int v6)]) g dX7_passDrawn_65 (by decide) rfl ?_
      refine x_iload (pc := 67) (a := 0) g dX7_passDrawn_67 rfl ?_
      refine x_bipush (pc := 69) g dX7_passDrawn_69 bi_6 ?_
      refine x_Si (pc := 71) g [.int r4, .int 6] [] (c_State_pick l G hW m r4 6) dX7_passDrawn_71 ms_7_110 rfl rfl (Nat.le_of_ble_eq_true rfl) ⟨rfl, rfl, Nat.le_of_ble_eq_true rfl, Nat.le_of_ble_eq_true rfl⟩ (fun r5 hr5 => ?_)
      refine x_if_ne (pc := 74) (t := 137) g dX7_passDrawn_74 (by decide) ?_ ?_
      · refine x_aload_n (pc := 77) (i := 0) (a := 1) g dX7_passDrawn_77 rfl rfl ?_
        refine x_Vi (pc := 78) g hW [] [] (c_State_isShouted l G hW m o ho) dX7_passDrawn_78 ml_7_99 (sState ho) rfl rfl (Nat.le_of_ble_eq_true rfl) ⟨rfl, rfl, Nat.le_of_ble_eq_true rfl, Nat.le_of_ble_eq_true rfl⟩ (fun r6 hr6 => ?_)
        refine x_if_ne (pc := 81) (t := 137) g dX7_passDrawn_81 (by decide) ?_ ?_
        · refine x_iload (pc := 84) (a := 0) g dX7_passDrawn_84 rfl ?_
          refine x_Si (pc := 86) g [.int r4] [] (c_State_step l G hW m r4) dX7_passDrawn_86 ms_7_106 rfl rfl (Nat.le_of_ble_eq_true rfl) ⟨rfl, rfl, Nat.le_of_ble_eq_true rfl, Nat.le_of_ble_eq_true rfl⟩ (fun r7 hr7 => ?_)
          refine x_istore (pc := 89) (lv' := [(6, .int r7), (4, .int r4), (0, .ref (xad G o)), (1, .ref (xad G p0)), (2, .int p1), (5, .int v5)]) g dX7_passDrawn_89 (by decide) rfl ?_
          refine x_iload (pc := 91) (a := 0) g dX7_passDrawn_91 rfl ?_
          refine x_Si (pc := 93) g [.int r7] [] (c_State_step l G hW m r7) dX7_passDrawn_93 ms_7_106 rfl rfl (Nat.le_of_ble_eq_true rfl) ⟨rfl, rfl, Nat.le_of_ble_eq_true rfl, Nat.le_of_ble_eq_true rfl⟩ (fun r8 hr8 => ?_)
          refine x_istore (pc := 96) (lv' := [(7, .int r8), (6, .int r7), (4, .int r4), (0, .ref (xad G o)), (1, .ref (xad G p0)), (2, .int p1), (5, .int v5)]) g dX7_passDrawn_96 (by decide) rfl ?_
          refine x_iload (pc := 98) (a := 0) g dX7_passDrawn_98 rfl ?_
          refine x_Si (pc := 100) g [.int r8] [] (c_State_step l G hW m r8) dX7_passDrawn_100 ms_7_106 rfl rfl (Nat.le_of_ble_eq_true rfl) ⟨rfl, rfl, Nat.le_of_ble_eq_true rfl, Nat.le_of_ble_eq_true rfl⟩ (fun r9 hr9 => ?_)
          refine x_istore (pc := 103) (lv' := [(4, .int r9), (7, .int r8), (6, .int r7), (0, .ref (xad G o)), (1, .ref (xad G p0)), (2, .int p1), (5, .int v5)]) g dX7_passDrawn_103 (by decide) rfl ?_
          refine x_aload_n (pc := 105) (i := 0) (a := 3) g dX7_passDrawn_105 rfl rfl ?_
          refine x_iload (pc := 106) (a := 2) g dX7_passDrawn_106 rfl ?_
          refine x_aload_n (pc := 108) (i := 1) (a := 4) g dX7_passDrawn_108 rfl rfl ?_
          refine x_getI (pc := 109) g hW dX7_passDrawn_109 fl_7_114 (sHouse hp0) rfl ?_
          refine x_Si (pc := 112) g [.int r7, .int (m.1 p0 0)] [.ref (xad G o)] (c_State_pick l G hW m r7 (m.1 p0 0)) dX7_passDrawn_112 ms_7_110 rfl rfl (Nat.le_of_ble_eq_true rfl) ⟨rfl, rfl, Nat.le_of_ble_eq_true rfl, Nat.le_of_ble_eq_true rfl⟩ (fun r10 hr10 => ?_)
          refine x_iload (pc := 115) (a := 1) g dX7_passDrawn_115 rfl ?_
          refine x_aload_n (pc := 117) (i := 1) (a := 4) g dX7_passDrawn_117 rfl rfl ?_
          refine x_getI (pc := 118) g hW dX7_passDrawn_118 fl_7_117 (sHouse hp0) rfl ?_
          refine x_Si (pc := 121) g [.int r8, .int (m.1 p0 1)] [.int r10, .ref (xad G o)] (c_State_pick l G hW m r8 (m.1 p0 1)) dX7_passDrawn_121 ms_7_110 rfl rfl (Nat.le_of_ble_eq_true rfl) ⟨rfl, rfl, Nat.le_of_ble_eq_true rfl, Nat.le_of_ble_eq_true rfl⟩ (fun r11 hr11 => ?_)
          refine x_iload (pc := 124) (a := 0) g dX7_passDrawn_124 rfl ?_
          refine x_bipush (pc := 126) g dX7_passDrawn_126 bi_30 ?_
          refine x_Si (pc := 128) g [.int r9, .int 30] [.int r11, .int r10, .ref (xad G o)] (c_State_pick l G hW m r9 30) dX7_passDrawn_128 ms_7_110 rfl rfl (Nat.le_of_ble_eq_true rfl) ⟨rfl, rfl, Nat.le_of_ble_eq_true rfl, Nat.le_of_ble_eq_true rfl⟩ (fun r12 hr12 => ?_)
          refine x_iconst (pc := 131) g dX7_passDrawn_131 ic_1 ?_
          refine x_iadd (pc := 132) g dX7_passDrawn_132 ?_
          refine x_Vim (pc := 133) g hW [.int r10, .int r11, .int (r12 + 1)] [] (c_State_shoutIn l G hW m o r10 r11 (r12 + 1) ho) dX7_passDrawn_133 ml_7_120 (sState ho) rfl rfl (Nat.le_of_ble_eq_true rfl) ⟨rfl, rfl, Nat.le_of_ble_eq_true rfl, Nat.le_of_ble_eq_true rfl⟩ (fun r13 hr13 => ?_)
          refine x_pop (pc := 136) g dX7_passDrawn_136 rfl ?_
          exact x_sub [3, 4, 5, 0, 6] (T_State_passDrawn_b137 hW g o p0 p1 p2 ho hp0 k6 hk6 r9 v5 r13.2) rfl
        · exact x_sub [1, 2, 3, 0, 4] (T_State_passDrawn_b137 hW g o p0 p1 p2 ho hp0 k6 hk6 r4 v5 m) rfl
      · exact x_sub [1, 2, 3, 0, 4] (T_State_passDrawn_b137 hW g o p0 p1 p2 ho hp0 k6 hk6 r4 v5 m) rfl
theorem T_State_passDrawn_b6 {l : Launch} {G : xG} {E : xE} (hW : WC G) (g : xGood E l G.1 RX7 cX7_passDrawn yX7_passDrawn 8 none rm_State_passDrawn) (o : Nat) (p0 : Nat) (p1 : Int32) (p2 : Int32) (ho : isState o) (hp0 : isHouse p0) : ∀ (n : Nat) (v4 : Int32) (v5 : Int32) (m : xMem), X E G (fun r : xMem => ((none : Option Value), r)) 6 [(0, .ref (xad G o)), (1, .ref (xad G p0)), (2, .int p1), (4, .int v4), (5, .int v5)] [] m (State_passDrawn_b6 o p0 p1 p2 n v4 v5 m) := by
  intro n
  induction n with
  | zero => intro v4 v5 m; exact x_none
  | succ n ih =>
    intro v4 v5 m
    rw [State_passDrawn_b6]
    refine x_iload (pc := 6) (a := 4) g dX7_passDrawn_6 rfl ?_
    refine x_iload_n (pc := 8) (i := 2) (a := 2) g dX7_passDrawn_8 rfl rfl ?_
    refine x_icmp_ge (pc := 9) (t := 148) g dX7_passDrawn_9 (by decide) ?_ ?_
    · refine x_iconst (pc := 12) g dX7_passDrawn_12 ic_0 ?_
      refine x_istore (pc := 13) (lv' := [(6, .int 0), (0, .ref (xad G o)), (1, .ref (xad G p0)), (2, .int p1), (4, .int v4), (5, .int v5)]) g dX7_passDrawn_13 (by decide) rfl ?_
      exact x_sub [1, 2, 3, 4, 5, 0] (T_State_passDrawn_b15 hW g o p0 p1 p2 ho hp0 (State_passDrawn_b6 o p0 p1 p2 n) ih 1000 v4 v5 0 m) rfl
    · exact x_vret (pc := 148) g dX7_passDrawn_148 rfl (fun _ h => h)
theorem T_State_passDrawn {l : Launch} {G : xG} {E : xE} (hW : WC G) (g : xGood E l G.1 RX7 cX7_passDrawn yX7_passDrawn 8 none rm_State_passDrawn) (m : xMem) (o : Nat) (p0 : Nat) (p1 : Int32) (p2 : Int32) (ho : isState o) (hp0 : isHouse p0) : X E G (fun r : xMem => ((none : Option Value), r)) 0 [(0, .ref (xad G o)), (1, .ref (xad G p0)), (2, .int p1), (3, .int p2)] [] m (State_passDrawn m o p0 p1 p2) := by
  unfold State_passDrawn
  refine x_iload_n (pc := 0) (i := 3) (a := 3) g dX7_passDrawn_0 rfl rfl ?_
  refine x_istore (pc := 1) (lv' := [(4, .int p2), (0, .ref (xad G o)), (1, .ref (xad G p0)), (2, .int p1), (3, .int p2)]) g dX7_passDrawn_1 (by decide) rfl ?_
  refine x_iconst (pc := 3) g dX7_passDrawn_3 ic_0 ?_
  refine x_istore (pc := 4) (lv' := [(5, .int 0), (4, .int p2), (0, .ref (xad G o)), (1, .ref (xad G p0)), (2, .int p1), (3, .int p2)]) g dX7_passDrawn_4 (by decide) rfl ?_
  exact x_sub [2, 3, 4, 1, 0] (T_State_passDrawn_b6 hW g o p0 p1 p2 ho hp0 1000 p2 0 m) rfl
theorem c_State_passDrawn (l : Launch) (G : xG) (hW : WC G) (m : xMem) (o : Nat) (p0 : Nat) (p1 : Int32) (p2 : Int32) (ho : isState o) (hp0 : isHouse p0) : xCv l G yX7_passDrawn cX7_passDrawn 8 none rm_State_passDrawn [.ref (xad G o), .ref (xad G p0), .int p1, .int p2] m (State_passDrawn m o p0 p1 p2) :=
  xCt_of (own := RX7) (by decide) rfl (Nat.le_of_ble_eq_true rfl) rfl ⟨rfl, rfl⟩ (fun E g => T_State_passDrawn hW g m o p0 p1 p2 ho hp0)
theorem T_Tape_add {l : Launch} {G : xG} {E : xE} (hW : WC G) (g : xGood E l G.1 RX8 cX8_add yX8_add 2 none rm_Tape_add) (m : xMem) (o : Nat) (p0 : Int32) (ho : isTape o) : X E G (fun r : xMem => ((none : Option Value), r)) 0 [(0, .ref (xad G o)), (1, .int p0)] [] m (Tape_add m o p0) := by
  unfold Tape_add
  refine x_aload_n (pc := 0) (i := 0) (a := 0) g dX8_add_0 rfl rfl ?_
  refine x_getI (pc := 1) g hW dX8_add_1 fl_8_7 (sTape ho) rfl ?_
  refine x_aload_n (pc := 4) (i := 0) (a := 0) g dX8_add_4 rfl rfl ?_
  refine x_getR (pc := 5) (x := o + 1) g hW dX8_add_5 fl_8_19 (sTape ho) rfl ?_
  refine x_alen (pc := 8) (v := nI ((tapeLen o))) g hW dX8_add_8 (sTape_bytes ho) (by decide) rfl ?_
  refine x_icmp_ge (pc := 9) (t := 36) g dX8_add_9 (by decide) ?_ ?_
  · refine x_aload_n (pc := 12) (i := 0) (a := 0) g dX8_add_12 rfl rfl ?_
    refine x_getR (pc := 13) (x := o + 1) g hW dX8_add_13 fl_8_19 (sTape ho) rfl ?_
    refine x_aload_n (pc := 16) (i := 0) (a := 0) g dX8_add_16 rfl rfl ?_
    refine x_getI (pc := 17) g hW dX8_add_17 fl_8_7 (sTape ho) rfl ?_
    refine x_iload_n (pc := 20) (i := 1) (a := 1) g dX8_add_20 rfl rfl ?_
    refine x_sipush (pc := 21) g dX8_add_21 si_255 ?_
    refine x_iand (pc := 24) g dX8_add_24 ?_
    refine x_iast (pc := 25) g hW dX8_add_25 (sTape_bytes ho) (fun j2 hj2 m1 => ?_)
    refine x_aload_n (pc := 26) (i := 0) (a := 0) g dX8_add_26 rfl rfl ?_
    refine x_dup (pc := 27) g dX8_add_27 rfl ?_
    refine x_getI (pc := 28) g hW dX8_add_28 fl_8_7 (sTape ho) rfl ?_
    refine x_iconst (pc := 31) g dX8_add_31 ic_1 ?_
    refine x_iadd (pc := 32) g dX8_add_32 ?_
    refine x_putI (pc := 33) g hW dX8_add_33 fl_8_7 ft_8_1 (sTape ho) rfl (fun m3 => ?_)
    exact x_vret (pc := 36) g dX8_add_36 rfl (fun _ h => h)
  · exact x_vret (pc := 36) g dX8_add_36 rfl (fun _ h => h)
theorem c_Tape_add (l : Launch) (G : xG) (hW : WC G) (m : xMem) (o : Nat) (p0 : Int32) (ho : isTape o) : xCv l G yX8_add cX8_add 2 none rm_Tape_add [.ref (xad G o), .int p0] m (Tape_add m o p0) :=
  xCt_of (own := RX8) (by decide) rfl (Nat.le_of_ble_eq_true rfl) rfl ⟨rfl, rfl⟩ (fun E g => T_Tape_add hW g m o p0 ho)
theorem T_Tape_addFour_b3 {l : Launch} {G : xG} {E : xE} (hW : WC G) (g : xGood E l G.1 RX8 cX8_addFour yX8_addFour 3 none rm_Tape_addFour) (o : Nat) (p0 : Int32) (ho : isTape o) : ∀ (n : Nat) (v2 : Int32) (m : xMem), X E G (fun r : xMem => ((none : Option Value), r)) 3 [(0, .ref (xad G o)), (1, .int p0), (2, .int v2)] [] m (Tape_addFour_b3 o p0 n v2 m) := by
  intro n
  induction n with
  | zero => intro v2 m; exact x_none
  | succ n ih =>
    intro v2 m
    rw [Tape_addFour_b3]
    refine x_iload_n (pc := 3) (i := 2) (a := 2) g dX8_addFour_3 rfl rfl ?_
    refine x_if_lt (pc := 4) (t := 20) g dX8_addFour_4 (by decide) ?_ ?_
    · exact x_vret (pc := 20) g dX8_addFour_20 rfl (fun _ h => h)
    · refine x_aload_n (pc := 7) (i := 0) (a := 0) g dX8_addFour_7 rfl rfl ?_
      refine x_iload_n (pc := 8) (i := 1) (a := 1) g dX8_addFour_8 rfl rfl ?_
      refine x_iload_n (pc := 9) (i := 2) (a := 2) g dX8_addFour_9 rfl rfl ?_
      refine x_iushr (pc := 10) g dX8_addFour_10 ?_
      refine x_Vv (pc := 11) g hW [.int (i_ushr p0 v2)] [] (c_Tape_add l G hW m o (i_ushr p0 v2) ho) dX8_addFour_11 ml_8_23 (sTape ho) rfl rfl (Nat.le_of_ble_eq_true rfl) ⟨rfl, rfl, Nat.le_of_ble_eq_true rfl, Nat.le_of_ble_eq_true rfl⟩ (fun r1 hr1 => ?_)
      refine x_iinc (pc := 14) (a := 2) (lv' := [(2, .int (v2 + (-8))), (0, .ref (xad G o)), (1, .int p0)]) g dX8_addFour_14 ic_m8 rfl (by decide) rfl ?_
      refine x_goto (pc := 17) (t := 3) g dX8_addFour_17 (by decide) ?_
      exact x_sub [1, 2, 0] (ih (v2 + (-8)) r1) rfl
theorem T_Tape_addFour {l : Launch} {G : xG} {E : xE} (hW : WC G) (g : xGood E l G.1 RX8 cX8_addFour yX8_addFour 3 none rm_Tape_addFour) (m : xMem) (o : Nat) (p0 : Int32) (ho : isTape o) : X E G (fun r : xMem => ((none : Option Value), r)) 0 [(0, .ref (xad G o)), (1, .int p0)] [] m (Tape_addFour m o p0) := by
  unfold Tape_addFour
  refine x_bipush (pc := 0) g dX8_addFour_0 bi_24 ?_
  refine x_istore_n (pc := 2) (i := 2) (lv' := [(2, .int 24), (0, .ref (xad G o)), (1, .int p0)]) g dX8_addFour_2 rfl (by decide) rfl ?_
  exact x_sub [1, 2, 0] (T_Tape_addFour_b3 hW g o p0 ho 1000 24 m) rfl
theorem c_Tape_addFour (l : Launch) (G : xG) (hW : WC G) (m : xMem) (o : Nat) (p0 : Int32) (ho : isTape o) : xCv l G yX8_addFour cX8_addFour 3 none rm_Tape_addFour [.ref (xad G o), .int p0] m (Tape_addFour m o p0) :=
  xCt_of (own := RX8) (by decide) rfl (Nat.le_of_ble_eq_true rfl) rfl ⟨rfl, rfl⟩ (fun E g => T_Tape_addFour hW g m o p0 ho)
theorem T_Tape_addName_b3 {l : Launch} {G : xG} {E : xE} (hW : WC G) (g : xGood E l G.1 RX8 cX8_addName yX8_addName 5 none rm_Tape_addName) (o : Nat) (p0 : Int64) (ho : isTape o) : ∀ (n : Nat) (v3 : Int32) (m : xMem), X E G (fun r : xMem => ((none : Option Value), r)) 3 [(0, .ref (xad G o)), (1, .long p0), (3, .int v3)] [] m (Tape_addName_b3 o p0 n v3 m) := by
  intro n
  induction n with
  | zero => intro v3 m; exact x_none
  | succ n ih =>
    intro v3 m
    rw [Tape_addName_b3]
    refine x_iload_n (pc := 3) (i := 3) (a := 2) g dX8_addName_3 rfl rfl ?_
    refine x_if_lt (pc := 4) (t := 38) g dX8_addName_4 (by decide) ?_ ?_
    · exact x_vret (pc := 38) g dX8_addName_38 rfl (fun _ h => h)
    · refine x_lload_n (pc := 7) (i := 1) (a := 1) g dX8_addName_7 rfl rfl ?_
      refine x_iload_n (pc := 8) (i := 3) (a := 2) g dX8_addName_8 rfl rfl ?_
      refine x_lshr (pc := 9) g dX8_addName_9 ?_
      refine x_l2i (pc := 10) g dX8_addName_10 ?_
      refine x_bipush (pc := 11) g dX8_addName_11 bi_31 ?_
      refine x_iand (pc := 13) g dX8_addName_13 ?_
      refine x_nmI (fun x1 => ?_)
      refine x_istore (pc := 14) (lv' := [(4, .int x1), (0, .ref (xad G o)), (1, .long p0), (3, .int v3)]) g dX8_addName_14 (by decide) rfl ?_
      refine x_iload (pc := 16) (a := 0) g dX8_addName_16 rfl ?_
      refine x_if_eq (pc := 18) (t := 32) g dX8_addName_18 (by decide) ?_ ?_
      · refine x_iinc (pc := 32) (a := 3) (lv' := [(3, .int (v3 + (-5))), (4, .int x1), (0, .ref (xad G o)), (1, .long p0)]) g dX8_addName_32 ic_m5 rfl (by decide) rfl ?_
        refine x_goto (pc := 35) (t := 3) g dX8_addName_35 (by decide) ?_
        exact x_sub [2, 3, 0] (ih (v3 + (-5)) m) rfl
      · refine x_aload_n (pc := 21) (i := 0) (a := 1) g dX8_addName_21 rfl rfl ?_
        refine x_bipush (pc := 22) g dX8_addName_22 bi_97 ?_
        refine x_iload (pc := 24) (a := 0) g dX8_addName_24 rfl ?_
        refine x_iadd (pc := 26) g dX8_addName_26 ?_
        refine x_iconst (pc := 27) g dX8_addName_27 ic_1 ?_
        refine x_isub (pc := 28) g dX8_addName_28 ?_
        refine x_Vv (pc := 29) g hW [.int ((97 + x1) - 1)] [] (c_Tape_add l G hW m o ((97 + x1) - 1) ho) dX8_addName_29 ml_8_23 (sTape ho) rfl rfl (Nat.le_of_ble_eq_true rfl) ⟨rfl, rfl, Nat.le_of_ble_eq_true rfl, Nat.le_of_ble_eq_true rfl⟩ (fun r2 hr2 => ?_)
        refine x_iinc (pc := 32) (a := 3) (lv' := [(3, .int (v3 + (-5))), (4, .int x1), (0, .ref (xad G o)), (1, .long p0)]) g dX8_addName_32 ic_m5 rfl (by decide) rfl ?_
        refine x_goto (pc := 35) (t := 3) g dX8_addName_35 (by decide) ?_
        exact x_sub [2, 3, 0] (ih (v3 + (-5)) r2) rfl
theorem T_Tape_addName {l : Launch} {G : xG} {E : xE} (hW : WC G) (g : xGood E l G.1 RX8 cX8_addName yX8_addName 5 none rm_Tape_addName) (m : xMem) (o : Nat) (p0 : Int64) (ho : isTape o) : X E G (fun r : xMem => ((none : Option Value), r)) 0 [(0, .ref (xad G o)), (1, .long p0)] [] m (Tape_addName m o p0) := by
  unfold Tape_addName
  refine x_bipush (pc := 0) g dX8_addName_0 bi_30 ?_
  refine x_istore_n (pc := 2) (i := 3) (lv' := [(3, .int 30), (0, .ref (xad G o)), (1, .long p0)]) g dX8_addName_2 rfl (by decide) rfl ?_
  exact x_sub [1, 2, 0] (T_Tape_addName_b3 hW g o p0 ho 1000 30 m) rfl
theorem c_Tape_addName (l : Launch) (G : xG) (hW : WC G) (m : xMem) (o : Nat) (p0 : Int64) (ho : isTape o) : xCv l G yX8_addName cX8_addName 5 none rm_Tape_addName [.ref (xad G o), .long p0] m (Tape_addName m o p0) :=
  xCt_of (own := RX8) (by decide) rfl (Nat.le_of_ble_eq_true rfl) rfl ⟨rfl, rfl⟩ (fun E g => T_Tape_addName hW g m o p0 ho)
theorem T_Tokens_start {l : Launch} {G : xG} {E : xE} (hW : WC G) (g : xGood E l G.1 RX9 cX9_start yX9_start 2 none rm_Tokens_start) (m : xMem) (p0 : Int32) : X E G (fun r : xMem => ((none : Option Value), r)) 0 [(0, .ref (xad G 3)), (1, .int p0)] [] m (Tokens_start m p0) := by
  unfold Tokens_start
  refine x_aload_n (pc := 0) (i := 0) (a := 0) g dX9_start_0 rfl rfl ?_
  refine x_iload_n (pc := 1) (i := 1) (a := 1) g dX9_start_1 rfl rfl ?_
  refine x_putI (pc := 2) g hW dX9_start_2 fl_9_15 ft_9_2 (sTokens isTokens_3) rfl (fun m1 => ?_)
  refine x_aload_n (pc := 5) (i := 0) (a := 0) g dX9_start_5 rfl rfl ?_
  refine x_iconst (pc := 6) g dX9_start_6 ic_0 ?_
  refine x_putI (pc := 7) g hW dX9_start_7 fl_9_19 ft_9_3 (sTokens isTokens_3) rfl (fun m2 => ?_)
  refine x_aload_n (pc := 10) (i := 0) (a := 0) g dX9_start_10 rfl rfl ?_
  refine x_iconst (pc := 11) g dX9_start_11 ic_0 ?_
  refine x_putI (pc := 12) g hW dX9_start_12 fl_9_25 ft_9_5 (sTokens isTokens_3) rfl (fun m3 => ?_)
  refine x_aload_n (pc := 15) (i := 0) (a := 0) g dX9_start_15 rfl rfl ?_
  refine x_iconst (pc := 16) g dX9_start_16 ic_0 ?_
  refine x_putI (pc := 17) g hW dX9_start_17 fl_9_41 ft_9_10 (sTokens isTokens_3) rfl (fun m4 => ?_)
  refine x_aload_n (pc := 20) (i := 0) (a := 0) g dX9_start_20 rfl rfl ?_
  refine x_iconst (pc := 21) g dX9_start_21 ic_0 ?_
  refine x_putI (pc := 22) g hW dX9_start_22 fl_9_44 ft_9_11 (sTokens isTokens_3) rfl (fun m5 => ?_)
  refine x_aload_n (pc := 25) (i := 0) (a := 0) g dX9_start_25 rfl rfl ?_
  refine x_Vv (pc := 26) g hW [] [] (c_Tokens_advance l G hW m5) dX9_start_26 ml_9_65 (sTokens isTokens_3) rfl rfl (Nat.le_of_ble_eq_true rfl) ⟨rfl, rfl, Nat.le_of_ble_eq_true rfl, Nat.le_of_ble_eq_true rfl⟩ (fun r6 hr6 => ?_)
  exact x_vret (pc := 29) g dX9_start_29 rfl (fun _ h => h)
theorem c_Tokens_start (l : Launch) (G : xG) (hW : WC G) (m : xMem) (p0 : Int32) : xCv l G yX9_start cX9_start 2 none rm_Tokens_start [.ref (xad G 3), .int p0] m (Tokens_start m p0) :=
  xCt_of (own := RX9) (by decide) rfl (Nat.le_of_ble_eq_true rfl) rfl ⟨rfl, rfl⟩ (fun E g => T_Tokens_start hW g m p0)
