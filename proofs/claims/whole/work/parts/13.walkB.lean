theorem T_Best_countHour_b32 {l : Launch} {G : xG} {E : xE} (hW : WC G) (g : xGood E l G.1 RX0 cX0_countHour yX0_countHour 8 none rm_Best_countHour) (p0 : Nat) (p1 : Nat) (p2 : Int32) (hp0 : isHouse p0) (hp1 : isState p1) (k20 : Int32 → Int32 → xMem → Option (xMem)) (hk20 : ∀ (v4 : Int32) (v5 : Int32) (m : xMem), X E G (fun r : xMem => ((none : Option Value), r)) 20 [(0, .ref (xad G 170)), (1, .ref (xad G p0)), (2, .ref (xad G p1)), (4, .int v4), (5, .int v5)] [] m (k20 v4 v5 m)) : ∀ (n : Nat) (v4 : Int32) (v5 : Int32) (v6 : Int32) (m : xMem), X E G (fun r : xMem => ((none : Option Value), r)) 32 [(0, .ref (xad G 170)), (1, .ref (xad G p0)), (2, .ref (xad G p1)), (4, .int v4), (5, .int v5), (6, .int v6)] [] m (Best_countHour_b32 p0 p1 p2 k20 n v4 v5 v6 m) := by
  intro n
  induction n with
  | zero => intro v4 v5 v6 m; exact x_none
  | succ n ih =>
    intro v4 v5 v6 m
    rw [Best_countHour_b32]
    refine x_iload (pc := 32) (a := 5) g dX0_countHour_32 rfl ?_
    refine x_aload_n (pc := 34) (i := 1) (a := 1) g dX0_countHour_34 rfl rfl ?_
    refine x_getI (pc := 35) g hW dX0_countHour_35 fl_0_33 (sHouse hp0) rfl ?_
    refine x_icmp_ge (pc := 38) (t := 108) g dX0_countHour_38 (by decide) ?_ ?_
    · refine x_aload_n (pc := 41) (i := 2) (a := 2) g dX0_countHour_41 rfl rfl ?_
      refine x_aload_n (pc := 42) (i := 1) (a := 1) g dX0_countHour_42 rfl rfl ?_
      refine x_iload (pc := 43) (a := 5) g dX0_countHour_43 rfl ?_
      refine x_aload_n (pc := 45) (i := 2) (a := 2) g dX0_countHour_45 rfl rfl ?_
      refine x_aload_n (pc := 46) (i := 1) (a := 1) g dX0_countHour_46 rfl rfl ?_
      refine x_iload (pc := 47) (a := 4) g dX0_countHour_47 rfl ?_
      refine x_iload (pc := 49) (a := 5) g dX0_countHour_49 rfl ?_
      refine x_iload (pc := 51) (a := 3) g dX0_countHour_51 rfl ?_
      refine x_Vi (pc := 53) g hW [.ref (xad G p0), .int v5, .int v6, .int v4] [.int v6, .ref (xad G p0), .ref (xad G p1)] (c_State_heardBits l G hW m p1 p0 v5 v6 v4 hp1 hp0) dX0_countHour_53 ml_0_60 (sState hp1) rfl rfl (Nat.le_of_ble_eq_true rfl) ⟨rfl, rfl, Nat.le_of_ble_eq_true rfl, Nat.le_of_ble_eq_true rfl⟩ (fun r3 hr3 => ?_)
      refine x_Vi (pc := 56) g hW [.ref (xad G p0), .int v6, .int r3] [] (c_State_loudest l G hW m p1 p0 v6 r3 hp1 hp0) dX0_countHour_56 ml_0_64 (sState hp1) rfl rfl (Nat.le_of_ble_eq_true rfl) ⟨rfl, rfl, Nat.le_of_ble_eq_true rfl, Nat.le_of_ble_eq_true rfl⟩ (fun r4 hr4 => ?_)
      refine x_istore (pc := 59) (lv' := [(7, .int r4), (0, .ref (xad G 170)), (1, .ref (xad G p0)), (2, .ref (xad G p1)), (4, .int v4), (5, .int v5), (6, .int v6)]) g dX0_countHour_59 (by decide) rfl ?_
      refine x_iload (pc := 61) (a := 0) g dX0_countHour_61 rfl ?_
      refine x_iconst (pc := 63) g dX0_countHour_63 ic_m1 ?_
      refine x_icmp_eq (pc := 64) (t := 102) g dX0_countHour_64 (by decide) ?_ ?_
      · refine x_iinc (pc := 102) (a := 6) (lv' := [(6, .int (v6 + 1)), (7, .int r4), (0, .ref (xad G 170)), (1, .ref (xad G p0)), (2, .ref (xad G p1)), (4, .int v4), (5, .int v5)]) g dX0_countHour_102 ic_1 rfl (by decide) rfl ?_
        refine x_goto (pc := 105) (t := 32) g dX0_countHour_105 (by decide) ?_
        exact x_sub [2, 3, 4, 5, 6, 0] (ih v4 v5 (v6 + 1) m) rfl
      · refine x_aload_n (pc := 67) (i := 1) (a := 2) g dX0_countHour_67 rfl rfl ?_
        refine x_getR (pc := 68) (x := p0 + 18) g hW dX0_countHour_68 fl_0_68 (sHouse hp0) rfl ?_
        refine x_iload (pc := 71) (a := 0) g dX0_countHour_71 rfl ?_
        refine x_aald4 (pc := 73) (r := fun j => p0 + 19 + j) g hW dX0_countHour_73 (sHouse_soundRow hp0) (fun j h => rowsL_get h) (fun j5 hj5 => ?_)
        refine x_iconst (pc := 74) g dX0_countHour_74 ic_0 ?_
        refine x_ialdc (pc := 75) g hW dX0_countHour_75 (sHouse_soundRowR hp0 hj5) ix_0_6 ?_
        refine x_aload_n (pc := 76) (i := 1) (a := 2) g dX0_countHour_76 rfl rfl ?_
        refine x_getR (pc := 77) (x := p0 + 4) g hW dX0_countHour_77 fl_0_71 (sHouse hp0) rfl ?_
        refine x_iload (pc := 80) (a := 6) g dX0_countHour_80 rfl ?_
        refine x_aald4 (pc := 82) (r := fun j => p0 + 5 + j) g hW dX0_countHour_82 (sHouse_bedRow hp0) (fun j h => rowsL_get h) (fun j6 hj6 => ?_)
        refine x_iconst (pc := 83) g dX0_countHour_83 ic_2 ?_
        refine x_ialdc (pc := 84) g hW dX0_countHour_84 (sHouse_bedRowR hp0 hj6) ix_2_3 ?_
        refine x_icmp_ne (pc := 85) (t := 102) g dX0_countHour_85 (by decide) ?_ ?_
        · refine x_aload_n (pc := 88) (i := 0) (a := 1) g dX0_countHour_88 rfl rfl ?_
          refine x_getR (pc := 89) (x := 171) g hW dX0_countHour_89 fl_0_11 (sBest isBest_170) rfl ?_
          refine x_iload (pc := 92) (a := 5) g dX0_countHour_92 rfl ?_
          refine x_aald4 (pc := 94) (r := fun j => 172 + j) g hW dX0_countHour_94 (sBest_gain isBest_170) (fun j h => rowsL_get h) (fun j7 hj7 => ?_)
          refine x_iload (pc := 95) (a := 6) g dX0_countHour_95 rfl ?_
          refine x_dup2 (pc := 97) g dX0_countHour_97 rfl rfl ?_
          refine x_iald (pc := 98) g hW dX0_countHour_98 (sBest_gainR isBest_170 hj7) (fun j8 hj8 => ?_)
          refine x_iconst (pc := 99) g dX0_countHour_99 ic_1 ?_
          refine x_iadd (pc := 100) g dX0_countHour_100 ?_
          refine x_iast (pc := 101) g hW dX0_countHour_101 (sBest_gainR isBest_170 hj7) (fun j10 hj10 m9 => ?_)
          refine x_iinc (pc := 102) (a := 6) (lv' := [(6, .int (v6 + 1)), (7, .int r4), (0, .ref (xad G 170)), (1, .ref (xad G p0)), (2, .ref (xad G p1)), (4, .int v4), (5, .int v5)]) g dX0_countHour_102 ic_1 rfl (by decide) rfl ?_
          refine x_goto (pc := 105) (t := 32) g dX0_countHour_105 (by decide) ?_
          exact x_sub [2, 3, 4, 5, 6, 0] (ih v4 v5 (v6 + 1) m9) rfl
        · refine x_iinc (pc := 102) (a := 6) (lv' := [(6, .int (v6 + 1)), (7, .int r4), (0, .ref (xad G 170)), (1, .ref (xad G p0)), (2, .ref (xad G p1)), (4, .int v4), (5, .int v5)]) g dX0_countHour_102 ic_1 rfl (by decide) rfl ?_
          refine x_goto (pc := 105) (t := 32) g dX0_countHour_105 (by decide) ?_
          exact x_sub [2, 3, 4, 5, 6, 0] (ih v4 v5 (v6 + 1) m) rfl
    · refine x_iinc (pc := 108) (a := 4) (lv' := [(5, .int (v5 + 1)), (0, .ref (xad G 170)), (1, .ref (xad G p0)), (2, .ref (xad G p1)), (4, .int v4), (6, .int v6)]) g dX0_countHour_108 ic_1 rfl (by decide) rfl ?_
      refine x_goto (pc := 111) (t := 20) g dX0_countHour_111 (by decide) ?_
      exact x_sub [1, 2, 3, 4, 0] (hk20 v4 (v5 + 1) m) rfl
theorem T_Best_countHour_b20 {l : Launch} {G : xG} {E : xE} (hW : WC G) (g : xGood E l G.1 RX0 cX0_countHour yX0_countHour 8 none rm_Best_countHour) (p0 : Nat) (p1 : Nat) (p2 : Int32) (hp0 : isHouse p0) (hp1 : isState p1) : ∀ (n : Nat) (v4 : Int32) (v5 : Int32) (m : xMem), X E G (fun r : xMem => ((none : Option Value), r)) 20 [(0, .ref (xad G 170)), (1, .ref (xad G p0)), (2, .ref (xad G p1)), (4, .int v4), (5, .int v5)] [] m (Best_countHour_b20 p0 p1 p2 n v4 v5 m) := by
  intro n
  induction n with
  | zero => intro v4 v5 m; exact x_none
  | succ n ih =>
    intro v4 v5 m
    rw [Best_countHour_b20]
    refine x_iload (pc := 20) (a := 4) g dX0_countHour_20 rfl ?_
    refine x_aload_n (pc := 22) (i := 1) (a := 1) g dX0_countHour_22 rfl rfl ?_
    refine x_getI (pc := 23) g hW dX0_countHour_23 fl_0_30 (sHouse hp0) rfl ?_
    refine x_icmp_ge (pc := 26) (t := 114) g dX0_countHour_26 (by decide) ?_ ?_
    · refine x_iconst (pc := 29) g dX0_countHour_29 ic_0 ?_
      refine x_istore (pc := 30) (lv' := [(6, .int 0), (0, .ref (xad G 170)), (1, .ref (xad G p0)), (2, .ref (xad G p1)), (4, .int v4), (5, .int v5)]) g dX0_countHour_30 (by decide) rfl ?_
      exact x_sub [1, 2, 3, 4, 5, 0] (T_Best_countHour_b32 hW g p0 p1 p2 hp0 hp1 (Best_countHour_b20 p0 p1 p2 n) ih 1000 v4 v5 0 m) rfl
    · exact x_vret (pc := 114) g dX0_countHour_114 rfl (fun _ h => h)
theorem T_Best_countHour {l : Launch} {G : xG} {E : xE} (hW : WC G) (g : xGood E l G.1 RX0 cX0_countHour yX0_countHour 8 none rm_Best_countHour) (m : xMem) (p0 : Nat) (p1 : Nat) (p2 : Int32) (hp0 : isHouse p0) (hp1 : isState p1) : X E G (fun r : xMem => ((none : Option Value), r)) 0 [(0, .ref (xad G 170)), (1, .ref (xad G p0)), (2, .ref (xad G p1)), (3, .int p2)] [] m (Best_countHour m p0 p1 p2) := by
  unfold Best_countHour
  refine x_aload_n (pc := 0) (i := 2) (a := 2) g dX0_countHour_0 rfl rfl ?_
  refine x_aload_n (pc := 1) (i := 1) (a := 1) g dX0_countHour_1 rfl rfl ?_
  refine x_iload_n (pc := 2) (i := 3) (a := 3) g dX0_countHour_2 rfl rfl ?_
  refine x_Vi (pc := 3) g hW [.ref (xad G p0), .int p2] [] (c_State_onBits l G hW m p1 p0 p2 hp1 hp0) dX0_countHour_3 ml_0_53 (sState hp1) rfl rfl (Nat.le_of_ble_eq_true rfl) ⟨rfl, rfl, Nat.le_of_ble_eq_true rfl, Nat.le_of_ble_eq_true rfl⟩ (fun r1 hr1 => ?_)
  refine x_iconst (pc := 6) g dX0_countHour_6 ic_1 ?_
  refine x_aload_n (pc := 7) (i := 1) (a := 1) g dX0_countHour_7 rfl rfl ?_
  refine x_getI (pc := 8) g hW dX0_countHour_8 fl_0_57 (sHouse hp0) rfl ?_
  refine x_ishl (pc := 11) g dX0_countHour_11 ?_
  refine x_iconst (pc := 12) g dX0_countHour_12 ic_1 ?_
  refine x_isub (pc := 13) g dX0_countHour_13 ?_
  refine x_iand (pc := 14) g dX0_countHour_14 ?_
  refine x_nmI (fun x2 => ?_)
  refine x_istore (pc := 15) (lv' := [(4, .int x2), (0, .ref (xad G 170)), (1, .ref (xad G p0)), (2, .ref (xad G p1)), (3, .int p2)]) g dX0_countHour_15 (by decide) rfl ?_
  refine x_iconst (pc := 17) g dX0_countHour_17 ic_0 ?_
  refine x_istore (pc := 18) (lv' := [(5, .int 0), (4, .int x2), (0, .ref (xad G 170)), (1, .ref (xad G p0)), (2, .ref (xad G p1)), (3, .int p2)]) g dX0_countHour_18 (by decide) rfl ?_
  exact x_sub [2, 3, 4, 1, 0] (T_Best_countHour_b20 hW g p0 p1 p2 hp0 hp1 1000 x2 0 m) rfl
theorem c_Best_countHour (l : Launch) (G : xG) (hW : WC G) (m : xMem) (p0 : Nat) (p1 : Nat) (p2 : Int32) (hp0 : isHouse p0) (hp1 : isState p1) : xCv l G yX0_countHour cX0_countHour 8 none rm_Best_countHour [.ref (xad G 170), .ref (xad G p0), .ref (xad G p1), .int p2] m (Best_countHour m p0 p1 p2) :=
  xCt_of (own := RX0) (by decide) rfl (Nat.le_of_ble_eq_true rfl) rfl ⟨rfl, rfl⟩ (fun E g => T_Best_countHour hW g m p0 p1 p2 hp0 hp1)
theorem T_Best_choose_b14 {l : Launch} {G : xG} {E : xE} {d : Nat} (hW : WC G) (g : xGood E l G.1 RX0 cX0_choose yX0_choose 6 none (rmx_Best_choose (d + 1))) (fr : xMem → Nat → Int32 → Int32 → Int32 → Option (xMem)) (hq : ∀ (m : xMem) (p1 : Nat) (p2 : Int32) (p3 : Int32) (p4 : Int32) (hp1 : isHouse p1), xCv l G yX0_choose cX0_choose 6 none (rmx_Best_choose d) [.ref (xad G 170), .ref (xad G p1), .int p2, .int p3, .int p4] m (fr m p1 p2 p3 p4)) (p1 : Nat) (p2 : Int32) (p3 : Int32) (p4 : Int32) (hp1 : isHouse p1) (m : xMem) : X E G (fun r : xMem => ((none : Option Value), r)) 14 [(0, .ref (xad G 170)), (4, .int p4)] [] m (Best_choose_b14 fr p1 p2 p3 p4 m) := by
  unfold Best_choose_b14
  refine x_iload (pc := 14) (a := 1) g dX0_choose_14 rfl ?_
  refine x_aload_n (pc := 16) (i := 0) (a := 0) g dX0_choose_16 rfl rfl ?_
  refine x_getI (pc := 17) g hW dX0_choose_17 fl_0_27 (sBest isBest_170) rfl ?_
  refine x_icmp_le (pc := 20) (t := 44) g dX0_choose_20 (by decide) ?_ ?_
  · refine x_aload_n (pc := 23) (i := 0) (a := 0) g dX0_choose_23 rfl rfl ?_
    refine x_iload (pc := 24) (a := 1) g dX0_choose_24 rfl ?_
    refine x_putI (pc := 26) g hW dX0_choose_26 fl_0_27 ft_0_4 (sBest isBest_170) rfl (fun m6 => ?_)
    refine x_aload_n (pc := 29) (i := 0) (a := 0) g dX0_choose_29 rfl rfl ?_
    refine x_getR (pc := 30) (x := 178) g hW dX0_choose_30 fl_0_16 (sBest isBest_170) rfl ?_
    refine x_iconst (pc := 33) g dX0_choose_33 ic_0 ?_
    refine x_aload_n (pc := 34) (i := 0) (a := 0) g dX0_choose_34 rfl rfl ?_
    refine x_getR (pc := 35) (x := 179) g hW dX0_choose_35 fl_0_20 (sBest isBest_170) rfl ?_
    refine x_iconst (pc := 38) g dX0_choose_38 ic_0 ?_
    refine x_bipush (pc := 39) g dX0_choose_39 bi_6 ?_
    refine x_copyIc (pc := 41) g hW dX0_choose_41 mk_0_74 mm_arraycopy (sBest_chosen isBest_170) (sBest_found isBest_170) ixc_6_6 ⟨by simp only [rmx_Best_choose]; omega, Nat.le_trans (m := 64) (Nat.le_of_ble_eq_true rfl) (by simp only [rmx_Best_choose]; omega)⟩ (fun m7 => ?_)
    exact x_vret (pc := 44) g dX0_choose_44 rfl (fun _ h => h)
  · exact x_vret (pc := 44) g dX0_choose_44 rfl (fun _ h => h)
theorem T_Best_choose_b48 {l : Launch} {G : xG} {E : xE} {d : Nat} (hW : WC G) (g : xGood E l G.1 RX0 cX0_choose yX0_choose 6 none (rmx_Best_choose (d + 1))) (fr : xMem → Nat → Int32 → Int32 → Int32 → Option (xMem)) (hq : ∀ (m : xMem) (p1 : Nat) (p2 : Int32) (p3 : Int32) (p4 : Int32) (hp1 : isHouse p1), xCv l G yX0_choose cX0_choose 6 none (rmx_Best_choose d) [.ref (xad G 170), .ref (xad G p1), .int p2, .int p3, .int p4] m (fr m p1 p2 p3 p4)) (p1 : Nat) (p2 : Int32) (p3 : Int32) (p4 : Int32) (hp1 : isHouse p1) : ∀ (n : Nat) (v5 : Int32) (m : xMem), X E G (fun r : xMem => ((none : Option Value), r)) 48 [(0, .ref (xad G 170)), (1, .ref (xad G p1)), (2, .int p2), (3, .int p3), (4, .int p4), (5, .int v5)] [] m (Best_choose_b48 fr p1 p2 p3 p4 n v5 m) := by
  intro n
  induction n with
  | zero => intro v5 m; exact x_none
  | succ n ih =>
    intro v5 m
    rw [Best_choose_b48]
    refine x_iload (pc := 48) (a := 5) g dX0_choose_48 rfl ?_
    refine x_aload_n (pc := 50) (i := 1) (a := 1) g dX0_choose_50 rfl rfl ?_
    refine x_getI (pc := 51) g hW dX0_choose_51 fl_0_33 (sHouse hp1) rfl ?_
    refine x_icmp_ge (pc := 54) (t := 106) g dX0_choose_54 (by decide) ?_ ?_
    · refine x_iload_n (pc := 57) (i := 3) (a := 3) g dX0_choose_57 rfl rfl ?_
      refine x_iload (pc := 58) (a := 5) g dX0_choose_58 rfl ?_
      refine x_ishr (pc := 60) g dX0_choose_60 ?_
      refine x_iconst (pc := 61) g dX0_choose_61 ic_1 ?_
      refine x_iand (pc := 62) g dX0_choose_62 ?_
      refine x_if_ne (pc := 63) (t := 100) g dX0_choose_63 (by decide) ?_ ?_
      · refine x_aload_n (pc := 66) (i := 0) (a := 0) g dX0_choose_66 rfl rfl ?_
        refine x_getR (pc := 67) (x := 178) g hW dX0_choose_67 fl_0_16 (sBest isBest_170) rfl ?_
        refine x_iload_n (pc := 70) (i := 2) (a := 2) g dX0_choose_70 rfl rfl ?_
        refine x_iload (pc := 71) (a := 5) g dX0_choose_71 rfl ?_
        refine x_iast (pc := 73) g hW dX0_choose_73 (sBest_chosen isBest_170) (fun j2 hj2 m1 => ?_)
        refine x_aload_n (pc := 74) (i := 0) (a := 0) g dX0_choose_74 rfl rfl ?_
        refine x_aload_n (pc := 75) (i := 1) (a := 1) g dX0_choose_75 rfl rfl ?_
        refine x_iload_n (pc := 76) (i := 2) (a := 2) g dX0_choose_76 rfl rfl ?_
        refine x_iconst (pc := 77) g dX0_choose_77 ic_1 ?_
        refine x_iadd (pc := 78) g dX0_choose_78 ?_
        refine x_iload_n (pc := 79) (i := 3) (a := 3) g dX0_choose_79 rfl rfl ?_
        refine x_iconst (pc := 80) g dX0_choose_80 ic_1 ?_
        refine x_iload (pc := 81) (a := 5) g dX0_choose_81 rfl ?_
        refine x_ishl (pc := 83) g dX0_choose_83 ?_
        refine x_ior (pc := 84) g dX0_choose_84 ?_
        refine x_iload (pc := 85) (a := 4) g dX0_choose_85 rfl ?_
        refine x_aload_n (pc := 87) (i := 0) (a := 0) g dX0_choose_87 rfl rfl ?_
        refine x_getR (pc := 88) (x := 171) g hW dX0_choose_88 fl_0_11 (sBest isBest_170) rfl ?_
        refine x_iload_n (pc := 91) (i := 2) (a := 2) g dX0_choose_91 rfl rfl ?_
        refine x_aald4 (pc := 92) (r := fun j => 172 + j) g hW dX0_choose_92 (sBest_gain isBest_170) (fun j h => rowsL_get h) (fun j3 hj3 => ?_)
        refine x_iload (pc := 93) (a := 5) g dX0_choose_93 rfl ?_
        refine x_iald (pc := 95) g hW dX0_choose_95 (sBest_gainR isBest_170 hj3) (fun j4 hj4 => ?_)
        refine x_iadd (pc := 96) g dX0_choose_96 ?_
        refine x_Sv (pc := 97) g [.ref (xad G 170), .ref (xad G p1), .int (p2 + 1), .int (p3 ||| (i_shl 1 v5)), .int (p4 + (m1.1 (172 + j3) j4))] [] (hq m1 p1 (p2 + 1) (p3 ||| (i_shl 1 v5)) (p4 + (m1.1 (172 + j3) j4)) hp1) dX0_choose_97 ms_0_49 rfl rfl (Nat.le_of_ble_eq_true rfl) ⟨rfl, rfl, by simp only [rmx_Best_choose, rmx_Best_choose]; omega, by simp only [rmx_Best_choose, rmx_Best_choose]; omega⟩ (fun r5 hr5 => ?_)
        refine x_iinc (pc := 100) (a := 5) (lv' := [(5, .int (v5 + 1)), (0, .ref (xad G 170)), (1, .ref (xad G p1)), (2, .int p2), (3, .int p3), (4, .int p4)]) g dX0_choose_100 ic_1 rfl (by decide) rfl ?_
        refine x_goto (pc := 103) (t := 48) g dX0_choose_103 (by decide) ?_
        exact x_sub [1, 2, 3, 4, 5, 0] (ih (v5 + 1) r5) rfl
      · refine x_iinc (pc := 100) (a := 5) (lv' := [(5, .int (v5 + 1)), (0, .ref (xad G 170)), (1, .ref (xad G p1)), (2, .int p2), (3, .int p3), (4, .int p4)]) g dX0_choose_100 ic_1 rfl (by decide) rfl ?_
        refine x_goto (pc := 103) (t := 48) g dX0_choose_103 (by decide) ?_
        exact x_sub [1, 2, 3, 4, 5, 0] (ih (v5 + 1) m) rfl
    · exact x_vret (pc := 106) g dX0_choose_106 rfl (fun _ h => h)
theorem T_Best_choose_body {l : Launch} {G : xG} {E : xE} {d : Nat} (hW : WC G) (g : xGood E l G.1 RX0 cX0_choose yX0_choose 6 none (rmx_Best_choose (d + 1))) (fr : xMem → Nat → Int32 → Int32 → Int32 → Option (xMem)) (hq : ∀ (m : xMem) (p1 : Nat) (p2 : Int32) (p3 : Int32) (p4 : Int32) (hp1 : isHouse p1), xCv l G yX0_choose cX0_choose 6 none (rmx_Best_choose d) [.ref (xad G 170), .ref (xad G p1), .int p2, .int p3, .int p4] m (fr m p1 p2 p3 p4)) (m : xMem) (p1 : Nat) (p2 : Int32) (p3 : Int32) (p4 : Int32) (hp1 : isHouse p1) : X E G (fun r : xMem => ((none : Option Value), r)) 0 [(0, .ref (xad G 170)), (1, .ref (xad G p1)), (2, .int p2), (3, .int p3), (4, .int p4)] [] m (Best_choose_body fr m p1 p2 p3 p4) := by
  unfold Best_choose_body
  refine x_iload_n (pc := 0) (i := 2) (a := 2) g dX0_choose_0 rfl rfl ?_
  refine x_aload_n (pc := 1) (i := 1) (a := 1) g dX0_choose_1 rfl rfl ?_
  refine x_getI (pc := 2) g hW dX0_choose_2 fl_0_30 (sHouse hp1) rfl ?_
  refine x_icmp_ge (pc := 5) (t := 14) g dX0_choose_5 (by decide) ?_ ?_
  · refine x_iload_n (pc := 8) (i := 2) (a := 2) g dX0_choose_8 rfl rfl ?_
    refine x_bipush (pc := 9) g dX0_choose_9 bi_6 ?_
    refine x_icmp_lt (pc := 11) (t := 45) g dX0_choose_11 (by decide) ?_ ?_
    · refine x_iconst (pc := 45) g dX0_choose_45 ic_0 ?_
      refine x_istore (pc := 46) (lv' := [(5, .int 0), (0, .ref (xad G 170)), (1, .ref (xad G p1)), (2, .int p2), (3, .int p3), (4, .int p4)]) g dX0_choose_46 (by decide) rfl ?_
      exact x_sub [1, 2, 3, 4, 5, 0] (T_Best_choose_b48 hW g fr hq p1 p2 p3 p4 hp1 1000 0 m) rfl
    · exact x_sub [0, 4] (T_Best_choose_b14 hW g fr hq p1 p2 p3 p4 hp1 m) rfl
  · exact x_sub [0, 4] (T_Best_choose_b14 hW g fr hq p1 p2 p3 p4 hp1 m) rfl
theorem c_Best_choose (l : Launch) (G : xG) (hW : WC G) : ∀ (d : Nat) (m : xMem) (p1 : Nat) (p2 : Int32) (p3 : Int32) (p4 : Int32) (hp1 : isHouse p1), xCv l G yX0_choose cX0_choose 6 none (rmx_Best_choose d) [.ref (xad G 170), .ref (xad G p1), .int p2, .int p3, .int p4] m (Best_choose d m p1 p2 p3 p4) := by
  intro d
  induction d with
  | zero => intro m p1 p2 p3 p4 hp1 z hz; cases hz
  | succ d ih =>
    intro m p1 p2 p3 p4 hp1
    exact xCt_of (own := RX0) (by decide) rfl (Nat.le_of_ble_eq_true rfl) rfl ⟨rfl, rfl⟩ (fun E g => T_Best_choose_body hW g (Best_choose d) ih m p1 p2 p3 p4 hp1)
theorem T_Best_find_b13 {l : Launch} {G : xG} {E : xE} (hW : WC G) (g : xGood E l G.1 RX0 cX0_find yX0_find 5 (some .int) rm_Best_find) (p0 : Nat) (p1 : Nat) (hp0 : isHouse p0) (hp1 : isState p1) (k2 : Int32 → xMem → Option (Int32 × xMem)) (hk2 : ∀ (v3 : Int32) (m : xMem), X E G (fun r : Int32 × xMem => (some (Value.int r.1), r.2)) 2 [(0, .ref (xad G 170)), (1, .ref (xad G p0)), (2, .ref (xad G p1)), (3, .int v3)] [] m (k2 v3 m)) : ∀ (n : Nat) (v3 : Int32) (v4 : Int32) (m : xMem), X E G (fun r : Int32 × xMem => (some (Value.int r.1), r.2)) 13 [(0, .ref (xad G 170)), (1, .ref (xad G p0)), (2, .ref (xad G p1)), (3, .int v3), (4, .int v4)] [] m (Best_find_b13 p0 p1 k2 n v3 v4 m) := by
  intro n
  induction n with
  | zero => intro v3 v4 m; exact x_none
  | succ n ih =>
    intro v3 v4 m
    rw [Best_find_b13]
    refine x_iload (pc := 13) (a := 4) g dX0_find_13 rfl ?_
    refine x_aload_n (pc := 15) (i := 1) (a := 1) g dX0_find_15 rfl rfl ?_
    refine x_getI (pc := 16) g hW dX0_find_16 fl_0_33 (sHouse hp0) rfl ?_
    refine x_icmp_ge (pc := 19) (t := 38) g dX0_find_19 (by decide) ?_ ?_
    · refine x_aload_n (pc := 22) (i := 0) (a := 0) g dX0_find_22 rfl rfl ?_
      refine x_getR (pc := 23) (x := 171) g hW dX0_find_23 fl_0_11 (sBest isBest_170) rfl ?_
      refine x_iload_n (pc := 26) (i := 3) (a := 3) g dX0_find_26 rfl rfl ?_
      refine x_aald4 (pc := 27) (r := fun j => 172 + j) g hW dX0_find_27 (sBest_gain isBest_170) (fun j h => rowsL_get h) (fun j1 hj1 => ?_)
      refine x_iload (pc := 28) (a := 4) g dX0_find_28 rfl ?_
      refine x_iconst (pc := 30) g dX0_find_30 ic_0 ?_
      refine x_iast (pc := 31) g hW dX0_find_31 (sBest_gainR isBest_170 hj1) (fun j3 hj3 m2 => ?_)
      refine x_iinc (pc := 32) (a := 4) (lv' := [(4, .int (v4 + 1)), (0, .ref (xad G 170)), (1, .ref (xad G p0)), (2, .ref (xad G p1)), (3, .int v3)]) g dX0_find_32 ic_1 rfl (by decide) rfl ?_
      refine x_goto (pc := 35) (t := 13) g dX0_find_35 (by decide) ?_
      exact x_sub [1, 2, 3, 4, 0] (ih v3 (v4 + 1) m2) rfl
    · refine x_iinc (pc := 38) (a := 3) (lv' := [(3, .int (v3 + 1)), (0, .ref (xad G 170)), (1, .ref (xad G p0)), (2, .ref (xad G p1)), (4, .int v4)]) g dX0_find_38 ic_1 rfl (by decide) rfl ?_
      refine x_goto (pc := 41) (t := 2) g dX0_find_41 (by decide) ?_
      exact x_sub [1, 2, 3, 0] (hk2 (v3 + 1) m) rfl
theorem T_Best_find_b46 {l : Launch} {G : xG} {E : xE} (hW : WC G) (g : xGood E l G.1 RX0 cX0_find yX0_find 5 (some .int) rm_Best_find) (p0 : Nat) (p1 : Nat) (hp0 : isHouse p0) (hp1 : isState p1) : ∀ (n : Nat) (v3 : Int32) (m : xMem), X E G (fun r : Int32 × xMem => (some (Value.int r.1), r.2)) 46 [(0, .ref (xad G 170)), (1, .ref (xad G p0)), (2, .ref (xad G p1)), (3, .int v3)] [] m (Best_find_b46 p0 p1 n v3 m) := by
  intro n
  induction n with
  | zero => intro v3 m; exact x_none
  | succ n ih =>
    intro v3 m
    rw [Best_find_b46]
    refine x_iload_n (pc := 46) (i := 3) (a := 3) g dX0_find_46 rfl rfl ?_
    refine x_bipush (pc := 47) g dX0_find_47 bi_24 ?_
    refine x_icmp_ge (pc := 49) (t := 78) g dX0_find_49 (by decide) ?_ ?_
    · refine x_aload_n (pc := 52) (i := 1) (a := 1) g dX0_find_52 rfl rfl ?_
      refine x_aload_n (pc := 53) (i := 2) (a := 2) g dX0_find_53 rfl rfl ?_
      refine x_getI (pc := 54) g hW dX0_find_54 fl_0_36 (sState hp1) rfl ?_
      refine x_iload_n (pc := 57) (i := 3) (a := 3) g dX0_find_57 rfl rfl ?_
      refine x_iadd (pc := 58) g dX0_find_58 ?_
      refine x_Vi (pc := 59) g hW [.int ((m.1 p1 0) + v3)] [] (c_House_shutAt l G hW m p0 ((m.1 p1 0) + v3) hp0) dX0_find_59 ml_0_41 (sHouse hp0) rfl rfl (Nat.le_of_ble_eq_true rfl) ⟨rfl, rfl, Nat.le_of_ble_eq_true rfl, Nat.le_of_ble_eq_true rfl⟩ (fun r4 hr4 => ?_)
      refine x_if_ne (pc := 62) (t := 72) g dX0_find_62 (by decide) ?_ ?_
      · refine x_aload_n (pc := 65) (i := 0) (a := 0) g dX0_find_65 rfl rfl ?_
        refine x_aload_n (pc := 66) (i := 1) (a := 1) g dX0_find_66 rfl rfl ?_
        refine x_aload_n (pc := 67) (i := 2) (a := 2) g dX0_find_67 rfl rfl ?_
        refine x_iload_n (pc := 68) (i := 3) (a := 3) g dX0_find_68 rfl rfl ?_
        refine x_Vv (pc := 69) g hW [.ref (xad G p0), .ref (xad G p1), .int v3] [] (c_Best_countHour l G hW m p0 p1 v3 hp0 hp1) dX0_find_69 ml_0_45 (sBest isBest_170) rfl rfl (Nat.le_of_ble_eq_true rfl) ⟨rfl, rfl, Nat.le_of_ble_eq_true rfl, Nat.le_of_ble_eq_true rfl⟩ (fun r5 hr5 => ?_)
        refine x_iinc (pc := 72) (a := 3) (lv' := [(3, .int (v3 + 1)), (0, .ref (xad G 170)), (1, .ref (xad G p0)), (2, .ref (xad G p1))]) g dX0_find_72 ic_1 rfl (by decide) rfl ?_
        refine x_goto (pc := 75) (t := 46) g dX0_find_75 (by decide) ?_
        exact x_sub [1, 2, 3, 0] (ih (v3 + 1) r5) rfl
      · refine x_iinc (pc := 72) (a := 3) (lv' := [(3, .int (v3 + 1)), (0, .ref (xad G 170)), (1, .ref (xad G p0)), (2, .ref (xad G p1))]) g dX0_find_72 ic_1 rfl (by decide) rfl ?_
        refine x_goto (pc := 75) (t := 46) g dX0_find_75 (by decide) ?_
        exact x_sub [1, 2, 3, 0] (ih (v3 + 1) m) rfl
    · refine x_aload_n (pc := 78) (i := 0) (a := 0) g dX0_find_78 rfl rfl ?_
      refine x_aload_n (pc := 79) (i := 1) (a := 1) g dX0_find_79 rfl rfl ?_
      refine x_getI (pc := 80) g hW dX0_find_80 fl_0_30 (sHouse hp0) rfl ?_
      refine x_putI (pc := 83) g hW dX0_find_83 fl_0_23 ft_0_3 (sBest isBest_170) rfl (fun m6 => ?_)
      refine x_aload_n (pc := 86) (i := 0) (a := 0) g dX0_find_86 rfl rfl ?_
      refine x_iconst (pc := 87) g dX0_find_87 ic_m1 ?_
      refine x_putI (pc := 88) g hW dX0_find_88 fl_0_27 ft_0_4 (sBest isBest_170) rfl (fun m7 => ?_)
      refine x_aload_n (pc := 91) (i := 0) (a := 0) g dX0_find_91 rfl rfl ?_
      refine x_aload_n (pc := 92) (i := 1) (a := 1) g dX0_find_92 rfl rfl ?_
      refine x_iconst (pc := 93) g dX0_find_93 ic_0 ?_
      refine x_iconst (pc := 94) g dX0_find_94 ic_0 ?_
      refine x_iconst (pc := 95) g dX0_find_95 ic_0 ?_
      refine x_Sv (pc := 96) g [.ref (xad G 170), .ref (xad G p0), .int 0, .int 0, .int 0] [] (c_Best_choose l G hW 8 m7 p0 0 0 0 hp0) dX0_find_96 ms_0_49 rfl rfl (Nat.le_of_ble_eq_true rfl) ⟨rfl, rfl, by decide, by decide⟩ (fun r8 hr8 => ?_)
      refine x_aload_n (pc := 99) (i := 0) (a := 0) g dX0_find_99 rfl rfl ?_
      refine x_getI (pc := 100) g hW dX0_find_100 fl_0_27 (sBest isBest_170) rfl ?_
      exact x_iret (pc := 103) g dX0_find_103 rfl (fun _ h => h)
theorem T_Best_find_b2 {l : Launch} {G : xG} {E : xE} (hW : WC G) (g : xGood E l G.1 RX0 cX0_find yX0_find 5 (some .int) rm_Best_find) (p0 : Nat) (p1 : Nat) (hp0 : isHouse p0) (hp1 : isState p1) : ∀ (n : Nat) (v3 : Int32) (m : xMem), X E G (fun r : Int32 × xMem => (some (Value.int r.1), r.2)) 2 [(0, .ref (xad G 170)), (1, .ref (xad G p0)), (2, .ref (xad G p1)), (3, .int v3)] [] m (Best_find_b2 p0 p1 n v3 m) := by
  intro n
  induction n with
  | zero => intro v3 m; exact x_none
  | succ n ih =>
    intro v3 m
    rw [Best_find_b2]
    refine x_iload_n (pc := 2) (i := 3) (a := 3) g dX0_find_2 rfl rfl ?_
    refine x_aload_n (pc := 3) (i := 1) (a := 1) g dX0_find_3 rfl rfl ?_
    refine x_getI (pc := 4) g hW dX0_find_4 fl_0_30 (sHouse hp0) rfl ?_
    refine x_icmp_ge (pc := 7) (t := 44) g dX0_find_7 (by decide) ?_ ?_
    · refine x_iconst (pc := 10) g dX0_find_10 ic_0 ?_
      refine x_istore (pc := 11) (lv' := [(4, .int 0), (0, .ref (xad G 170)), (1, .ref (xad G p0)), (2, .ref (xad G p1)), (3, .int v3)]) g dX0_find_11 (by decide) rfl ?_
      exact x_sub [1, 2, 3, 4, 0] (T_Best_find_b13 hW g p0 p1 hp0 hp1 (Best_find_b2 p0 p1 n) ih 1000 v3 0 m) rfl
    · refine x_iconst (pc := 44) g dX0_find_44 ic_0 ?_
      refine x_istore_n (pc := 45) (i := 3) (lv' := [(3, .int 0), (0, .ref (xad G 170)), (1, .ref (xad G p0)), (2, .ref (xad G p1))]) g dX0_find_45 rfl (by decide) rfl ?_
      exact x_sub [1, 2, 3, 0] (T_Best_find_b46 hW g p0 p1 hp0 hp1 1000 0 m) rfl
theorem T_Best_find {l : Launch} {G : xG} {E : xE} (hW : WC G) (g : xGood E l G.1 RX0 cX0_find yX0_find 5 (some .int) rm_Best_find) (m : xMem) (p0 : Nat) (p1 : Nat) (hp0 : isHouse p0) (hp1 : isState p1) : X E G (fun r : Int32 × xMem => (some (Value.int r.1), r.2)) 0 [(0, .ref (xad G 170)), (1, .ref (xad G p0)), (2, .ref (xad G p1))] [] m (Best_find m p0 p1) := by
  unfold Best_find
  refine x_iconst (pc := 0) g dX0_find_0 ic_0 ?_
  refine x_istore_n (pc := 1) (i := 3) (lv' := [(3, .int 0), (0, .ref (xad G 170)), (1, .ref (xad G p0)), (2, .ref (xad G p1))]) g dX0_find_1 rfl (by decide) rfl ?_
  exact x_sub [1, 2, 3, 0] (T_Best_find_b2 hW g p0 p1 hp0 hp1 1000 0 m) rfl
theorem c_Best_find (l : Launch) (G : xG) (hW : WC G) (m : xMem) (p0 : Nat) (p1 : Nat) (hp0 : isHouse p0) (hp1 : isState p1) : xCim l G yX0_find cX0_find 5 (some .int) rm_Best_find [.ref (xad G 170), .ref (xad G p0), .ref (xad G p1)] m (Best_find m p0 p1) :=
  xCt_of (own := RX0) (by decide) rfl (Nat.le_of_ble_eq_true rfl) rfl ⟨rfl, rfl⟩ (fun E g => T_Best_find hW g m p0 p1 hp0 hp1)
theorem T_Book_readLine_b88 {l : Launch} {G : xG} {E : xE} (hW : WC G) (g : xGood E l G.1 RX1 cX1_readLine yX1_readLine 3 (some .boolean) rm_Book_readLine) (p1 : Nat) (p2 : Nat) (hp1 : isHouse p1) (hp2 : shC p2 = .inr (0, 4, [])) (s0 : Int32) (s1 : Int32) (m : xMem) : X E G (fun r : Int32 × xMem => (some (Value.int r.1), r.2)) 88 [(2, .ref (xad G p2))] [.int s0, .int s1, .ref (xad G p2)] m (Book_readLine_b88 p1 p2 s0 s1 m) := by
  unfold Book_readLine_b88
  refine x_iast (pc := 88) g hW dX1_readLine_88 (hp2) (fun j19 hj19 m18 => ?_)
  refine x_aload_n (pc := 89) (i := 2) (a := 0) g dX1_readLine_89 rfl rfl ?_
  refine x_iconst (pc := 90) g dX1_readLine_90 ic_2 ?_
  refine x_ialdc (pc := 91) g hW dX1_readLine_91 (hp2) ix_2_4 ?_
  refine x_iconst (pc := 92) g dX1_readLine_92 ic_m1 ?_
  refine x_icmp_eq (pc := 93) (t := 100) g dX1_readLine_93 (by decide) ?_ ?_
  · refine x_iconst (pc := 100) g dX1_readLine_100 ic_0 ?_
    exact x_zretc (pc := 101) g dX1_readLine_101 rfl (Or.inl rfl) (fun _ h => h)
  · refine x_iconst (pc := 96) g dX1_readLine_96 ic_1 ?_
    refine x_goto (pc := 97) (t := 101) g dX1_readLine_97 (by decide) ?_
    exact x_zretc (pc := 101) g dX1_readLine_101 rfl (Or.inr rfl) (fun _ h => h)
theorem T_Book_readLine_b153 {l : Launch} {G : xG} {E : xE} (hW : WC G) (g : xGood E l G.1 RX1 cX1_readLine yX1_readLine 3 (some .boolean) rm_Book_readLine) (p1 : Nat) (p2 : Nat) (hp1 : isHouse p1) (hp2 : shC p2 = .inr (0, 4, [])) (s0 : Int32) (s1 : Int32) (m : xMem) : X E G (fun r : Int32 × xMem => (some (Value.int r.1), r.2)) 153 [(2, .ref (xad G p2))] [.int s0, .int s1, .ref (xad G p2)] m (Book_readLine_b153 p1 p2 s0 s1 m) := by
  unfold Book_readLine_b153
  refine x_iast (pc := 153) g hW dX1_readLine_153 (hp2) (fun j24 hj24 m23 => ?_)
  refine x_aload_n (pc := 154) (i := 2) (a := 0) g dX1_readLine_154 rfl rfl ?_
  refine x_iconst (pc := 155) g dX1_readLine_155 ic_3 ?_
  refine x_ialdc (pc := 156) g hW dX1_readLine_156 (hp2) ix_3_4 ?_
  refine x_iconst (pc := 157) g dX1_readLine_157 ic_m1 ?_
  refine x_icmp_eq (pc := 158) (t := 165) g dX1_readLine_158 (by decide) ?_ ?_
  · refine x_iconst (pc := 165) g dX1_readLine_165 ic_0 ?_
    exact x_zretc (pc := 166) g dX1_readLine_166 rfl (Or.inl rfl) (fun _ h => h)
  · refine x_iconst (pc := 161) g dX1_readLine_161 ic_1 ?_
    refine x_goto (pc := 162) (t := 166) g dX1_readLine_162 (by decide) ?_
    exact x_zretc (pc := 166) g dX1_readLine_166 rfl (Or.inr rfl) (fun _ h => h)
theorem T_Book_readLine_b132 {l : Launch} {G : xG} {E : xE} (hW : WC G) (g : xGood E l G.1 RX1 cX1_readLine yX1_readLine 3 (some .boolean) rm_Book_readLine) (p1 : Nat) (p2 : Nat) (hp1 : isHouse p1) (hp2 : shC p2 = .inr (0, 4, [])) (s0 : Int32) (s1 : Int32) (m : xMem) : X E G (fun r : Int32 × xMem => (some (Value.int r.1), r.2)) 132 [(0, .ref (xad G 3)), (2, .ref (xad G p2))] [.int s0, .int s1, .ref (xad G p2)] m (Book_readLine_b132 p1 p2 s0 s1 m) := by
  unfold Book_readLine_b132
  refine x_iast (pc := 132) g hW dX1_readLine_132 (hp2) (fun j21 hj21 m20 => ?_)
  refine x_aload_n (pc := 133) (i := 2) (a := 1) g dX1_readLine_133 rfl rfl ?_
  refine x_iconst (pc := 134) g dX1_readLine_134 ic_3 ?_
  refine x_aload_n (pc := 135) (i := 2) (a := 1) g dX1_readLine_135 rfl rfl ?_
  refine x_iconst (pc := 136) g dX1_readLine_136 ic_2 ?_
  refine x_ialdc (pc := 137) g hW dX1_readLine_137 (hp2) ix_2_4 ?_
  refine x_iconst (pc := 138) g dX1_readLine_138 ic_m1 ?_
  refine x_icmp_ne (pc := 139) (t := 146) g dX1_readLine_139 (by decide) ?_ ?_
  · refine x_iconst (pc := 142) g dX1_readLine_142 ic_m1 ?_
    refine x_goto (pc := 143) (t := 153) g dX1_readLine_143 (by decide) ?_
    exact x_sub [1] (T_Book_readLine_b153 hW g p1 p2 hp1 hp2 ((-1)) 3 m20) rfl
  · refine x_aload_n (pc := 146) (i := 0) (a := 0) g dX1_readLine_146 rfl rfl ?_
    refine x_iconst (pc := 147) g dX1_readLine_147 ic_1 ?_
    refine x_bipush (pc := 148) g dX1_readLine_148 bi_30 ?_
    refine x_Vim (pc := 150) g hW [.int 1, .int 30] [.int 3, .ref (xad G p2)] (c_Tokens_takeNumber l G hW m20 1 30) dX1_readLine_150 ml_1_78 (sTokens isTokens_3) rfl rfl (Nat.le_of_ble_eq_true rfl) ⟨rfl, rfl, Nat.le_of_ble_eq_true rfl, Nat.le_of_ble_eq_true rfl⟩ (fun r22 hr22 => ?_)
    exact x_sub [1] (T_Book_readLine_b153 hW g p1 p2 hp1 hp2 r22.1 3 r22.2) rfl
theorem T_Book_readLine {l : Launch} {G : xG} {E : xE} (hW : WC G) (g : xGood E l G.1 RX1 cX1_readLine yX1_readLine 3 (some .boolean) rm_Book_readLine) (m : xMem) (p1 : Nat) (p2 : Nat) (hp1 : isHouse p1) (hp2 : shC p2 = .inr (0, 4, [])) : X E G (fun r : Int32 × xMem => (some (Value.int r.1), r.2)) 0 [(0, .ref (xad G 3)), (1, .ref (xad G p1)), (2, .ref (xad G p2))] [] m (Book_readLine m p1 p2) := by
  unfold Book_readLine
  refine x_aload_n (pc := 0) (i := 2) (a := 2) g dX1_readLine_0 rfl rfl ?_
  refine x_iconst (pc := 1) g dX1_readLine_1 ic_0 ?_
  refine x_aload_n (pc := 2) (i := 0) (a := 0) g dX1_readLine_2 rfl rfl ?_
  refine x_getI (pc := 3) g hW dX1_readLine_3 fl_1_41 (sTokens isTokens_3) rfl ?_
  refine x_iastc (pc := 6) g hW dX1_readLine_6 (hp2) ix_0_4 (fun m1 => ?_)
  refine x_aload_n (pc := 7) (i := 0) (a := 0) g dX1_readLine_7 rfl rfl ?_
  refine x_Vv (pc := 8) g hW [] [] (c_Tokens_advance l G hW m1) dX1_readLine_8 ml_1_56 (sTokens isTokens_3) rfl rfl (Nat.le_of_ble_eq_true rfl) ⟨rfl, rfl, Nat.le_of_ble_eq_true rfl, Nat.le_of_ble_eq_true rfl⟩ (fun r2 hr2 => ?_)
  refine x_aload_n (pc := 11) (i := 2) (a := 2) g dX1_readLine_11 rfl rfl ?_
  refine x_iconst (pc := 12) g dX1_readLine_12 ic_0 ?_
  refine x_ialdc (pc := 13) g hW dX1_readLine_13 (hp2) ix_0_4 ?_
  refine x_nmI (fun x3 => ?_)
  refine x_if (fun h14_0 => ?_) (fun h14_0 => ?_)
  · refine x_tabIn (pc := 14) (t := 48) (off := 34) g dX1_readLine_14 h14_0 (by decide) ?_
    refine x_aload_n (pc := 48) (i := 2) (a := 2) g dX1_readLine_48 rfl rfl ?_
    refine x_iconst (pc := 49) g dX1_readLine_49 ic_1 ?_
    refine x_aload_n (pc := 50) (i := 0) (a := 0) g dX1_readLine_50 rfl rfl ?_
    refine x_aload_n (pc := 51) (i := 1) (a := 1) g dX1_readLine_51 rfl rfl ?_
    refine x_getR (pc := 52) (x := p1 + 2) g hW dX1_readLine_52 fl_1_59 (sHouse hp1) rfl ?_
    refine x_aload_n (pc := 55) (i := 1) (a := 1) g dX1_readLine_55 rfl rfl ?_
    refine x_getI (pc := 56) g hW dX1_readLine_56 fl_1_65 (sHouse hp1) rfl ?_
    refine x_Vim (pc := 59) g hW [.ref (xad G (p1 + 2)), .int (r2.1 p1 7)] [.int 1, .ref (xad G p2)] (c_Tokens_takeKnown l G hW r2 (p1 + 2) 6 (r2.1 p1 7) (sHouse_owlName hp1)) dX1_readLine_59 ml_1_68 (sTokens isTokens_3) rfl rfl (Nat.le_of_ble_eq_true rfl) ⟨rfl, rfl, Nat.le_of_ble_eq_true rfl, Nat.le_of_ble_eq_true rfl⟩ (fun r4 hr4 => ?_)
    refine x_iastc (pc := 62) g hW dX1_readLine_62 (hp2) ix_1_4 (fun m5 => ?_)
    refine x_aload_n (pc := 63) (i := 2) (a := 2) g dX1_readLine_63 rfl rfl ?_
    refine x_iconst (pc := 64) g dX1_readLine_64 ic_2 ?_
    refine x_aload_n (pc := 65) (i := 2) (a := 2) g dX1_readLine_65 rfl rfl ?_
    refine x_iconst (pc := 66) g dX1_readLine_66 ic_1 ?_
    refine x_ialdc (pc := 67) g hW dX1_readLine_67 (hp2) ix_1_4 ?_
    refine x_iconst (pc := 68) g dX1_readLine_68 ic_m1 ?_
    refine x_icmp_ne (pc := 69) (t := 76) g dX1_readLine_69 (by decide) ?_ ?_
    · refine x_iconst (pc := 72) g dX1_readLine_72 ic_m1 ?_
      refine x_goto (pc := 73) (t := 88) g dX1_readLine_73 (by decide) ?_
      exact x_sub [2] (T_Book_readLine_b88 hW g p1 p2 hp1 hp2 ((-1)) 2 m5) rfl
    · refine x_aload_n (pc := 76) (i := 0) (a := 0) g dX1_readLine_76 rfl rfl ?_
      refine x_aload_n (pc := 77) (i := 1) (a := 1) g dX1_readLine_77 rfl rfl ?_
      refine x_getR (pc := 78) (x := p1 + 1) g hW dX1_readLine_78 fl_1_72 (sHouse hp1) rfl ?_
      refine x_aload_n (pc := 81) (i := 1) (a := 1) g dX1_readLine_81 rfl rfl ?_
      refine x_getI (pc := 82) g hW dX1_readLine_82 fl_1_75 (sHouse hp1) rfl ?_
      refine x_Vim (pc := 85) g hW [.ref (xad G (p1 + 1)), .int (m5.1 p1 6)] [.int 2, .ref (xad G p2)] (c_Tokens_takeKnown l G hW m5 (p1 + 1) 6 (m5.1 p1 6) (sHouse_bedName hp1)) dX1_readLine_85 ml_1_68 (sTokens isTokens_3) rfl rfl (Nat.le_of_ble_eq_true rfl) ⟨rfl, rfl, Nat.le_of_ble_eq_true rfl, Nat.le_of_ble_eq_true rfl⟩ (fun r6 hr6 => ?_)
      exact x_sub [2] (T_Book_readLine_b88 hW g p1 p2 hp1 hp2 r6.1 2 r6.2) rfl
  refine x_if (fun h14_1 => ?_) (fun h14_1 => ?_)
  · refine x_tabIn (pc := 14) (t := 190) (off := 176) g dX1_readLine_14 h14_1 (by decide) ?_
    refine x_aload_n (pc := 190) (i := 2) (a := 2) g dX1_readLine_190 rfl rfl ?_
    refine x_iconst (pc := 191) g dX1_readLine_191 ic_1 ?_
    refine x_aload_n (pc := 192) (i := 0) (a := 0) g dX1_readLine_192 rfl rfl ?_
    refine x_aload_n (pc := 193) (i := 1) (a := 1) g dX1_readLine_193 rfl rfl ?_
    refine x_getR (pc := 194) (x := p1 + 3) g hW dX1_readLine_194 fl_1_82 (sHouse hp1) rfl ?_
    refine x_aload_n (pc := 197) (i := 1) (a := 1) g dX1_readLine_197 rfl rfl ?_
    refine x_getI (pc := 198) g hW dX1_readLine_198 fl_1_85 (sHouse hp1) rfl ?_
    refine x_Vim (pc := 201) g hW [.ref (xad G (p1 + 3)), .int (r2.1 p1 8)] [.int 1, .ref (xad G p2)] (c_Tokens_takeKnown l G hW r2 (p1 + 3) 8 (r2.1 p1 8) (sHouse_soundName hp1)) dX1_readLine_201 ml_1_68 (sTokens isTokens_3) rfl rfl (Nat.le_of_ble_eq_true rfl) ⟨rfl, rfl, Nat.le_of_ble_eq_true rfl, Nat.le_of_ble_eq_true rfl⟩ (fun r7 hr7 => ?_)
    refine x_iastc (pc := 204) g hW dX1_readLine_204 (hp2) ix_1_4 (fun m8 => ?_)
    refine x_aload_n (pc := 205) (i := 2) (a := 2) g dX1_readLine_205 rfl rfl ?_
    refine x_iconst (pc := 206) g dX1_readLine_206 ic_1 ?_
    refine x_ialdc (pc := 207) g hW dX1_readLine_207 (hp2) ix_1_4 ?_
    refine x_iconst (pc := 208) g dX1_readLine_208 ic_m1 ?_
    refine x_icmp_eq (pc := 209) (t := 216) g dX1_readLine_209 (by decide) ?_ ?_
    · refine x_iconst (pc := 216) g dX1_readLine_216 ic_0 ?_
      exact x_zretc (pc := 217) g dX1_readLine_217 rfl (Or.inl rfl) (fun _ h => h)
    · refine x_iconst (pc := 212) g dX1_readLine_212 ic_1 ?_
      refine x_goto (pc := 213) (t := 217) g dX1_readLine_213 (by decide) ?_
      exact x_zretc (pc := 217) g dX1_readLine_217 rfl (Or.inr rfl) (fun _ h => h)
  refine x_if (fun h14_2 => ?_) (fun h14_2 => ?_)
  · refine x_tabIn (pc := 14) (t := 190) (off := 176) g dX1_readLine_14 h14_2 (by decide) ?_
    refine x_aload_n (pc := 190) (i := 2) (a := 2) g dX1_readLine_190 rfl rfl ?_
    refine x_iconst (pc := 191) g dX1_readLine_191 ic_1 ?_
    refine x_aload_n (pc := 192) (i := 0) (a := 0) g dX1_readLine_192 rfl rfl ?_
    refine x_aload_n (pc := 193) (i := 1) (a := 1) g dX1_readLine_193 rfl rfl ?_
    refine x_getR (pc := 194) (x := p1 + 3) g hW dX1_readLine_194 fl_1_82 (sHouse hp1) rfl ?_
    refine x_aload_n (pc := 197) (i := 1) (a := 1) g dX1_readLine_197 rfl rfl ?_
    refine x_getI (pc := 198) g hW dX1_readLine_198 fl_1_85 (sHouse hp1) rfl ?_
    refine x_Vim (pc := 201) g hW [.ref (xad G (p1 + 3)), .int (r2.1 p1 8)] [.int 1, .ref (xad G p2)] (c_Tokens_takeKnown l G hW r2 (p1 + 3) 8 (r2.1 p1 8) (sHouse_soundName hp1)) dX1_readLine_201 ml_1_68 (sTokens isTokens_3) rfl rfl (Nat.le_of_ble_eq_true rfl) ⟨rfl, rfl, Nat.le_of_ble_eq_true rfl, Nat.le_of_ble_eq_true rfl⟩ (fun r9 hr9 => ?_)
    refine x_iastc (pc := 204) g hW dX1_readLine_204 (hp2) ix_1_4 (fun m10 => ?_)
    refine x_aload_n (pc := 205) (i := 2) (a := 2) g dX1_readLine_205 rfl rfl ?_
    refine x_iconst (pc := 206) g dX1_readLine_206 ic_1 ?_
    refine x_ialdc (pc := 207) g hW dX1_readLine_207 (hp2) ix_1_4 ?_
    refine x_iconst (pc := 208) g dX1_readLine_208 ic_m1 ?_
    refine x_icmp_eq (pc := 209) (t := 216) g dX1_readLine_209 (by decide) ?_ ?_
    · refine x_iconst (pc := 216) g dX1_readLine_216 ic_0 ?_
      exact x_zretc (pc := 217) g dX1_readLine_217 rfl (Or.inl rfl) (fun _ h => h)
    · refine x_iconst (pc := 212) g dX1_readLine_212 ic_1 ?_
      refine x_goto (pc := 213) (t := 217) g dX1_readLine_213 (by decide) ?_
      exact x_zretc (pc := 217) g dX1_readLine_217 rfl (Or.inr rfl) (fun _ h => h)
  refine x_if (fun h14_3 => ?_) (fun h14_3 => ?_)
  · refine x_tabIn (pc := 14) (t := 102) (off := 88) g dX1_readLine_14 h14_3 (by decide) ?_
    refine x_aload_n (pc := 102) (i := 2) (a := 2) g dX1_readLine_102 rfl rfl ?_
    refine x_iconst (pc := 103) g dX1_readLine_103 ic_1 ?_
    refine x_aload_n (pc := 104) (i := 0) (a := 0) g dX1_readLine_104 rfl rfl ?_
    refine x_iconst (pc := 105) g dX1_readLine_105 ic_0 ?_
    refine x_bipush (pc := 106) g dX1_readLine_106 bi_8 ?_
    refine x_Vim (pc := 108) g hW [.int 0, .int 8] [.int 1, .ref (xad G p2)] (c_Tokens_takeNumber l G hW r2 0 8) dX1_readLine_108 ml_1_78 (sTokens isTokens_3) rfl rfl (Nat.le_of_ble_eq_true rfl) ⟨rfl, rfl, Nat.le_of_ble_eq_true rfl, Nat.le_of_ble_eq_true rfl⟩ (fun r11 hr11 => ?_)
    refine x_iastc (pc := 111) g hW dX1_readLine_111 (hp2) ix_1_4 (fun m12 => ?_)
    refine x_aload_n (pc := 112) (i := 2) (a := 2) g dX1_readLine_112 rfl rfl ?_
    refine x_iconst (pc := 113) g dX1_readLine_113 ic_2 ?_
    refine x_aload_n (pc := 114) (i := 2) (a := 2) g dX1_readLine_114 rfl rfl ?_
    refine x_iconst (pc := 115) g dX1_readLine_115 ic_1 ?_
    refine x_ialdc (pc := 116) g hW dX1_readLine_116 (hp2) ix_1_4 ?_
    refine x_iconst (pc := 117) g dX1_readLine_117 ic_m1 ?_
    refine x_icmp_ne (pc := 118) (t := 125) g dX1_readLine_118 (by decide) ?_ ?_
    · refine x_iconst (pc := 121) g dX1_readLine_121 ic_m1 ?_
      refine x_goto (pc := 122) (t := 132) g dX1_readLine_122 (by decide) ?_
      exact x_sub [0, 2] (T_Book_readLine_b132 hW g p1 p2 hp1 hp2 ((-1)) 2 m12) rfl
    · refine x_aload_n (pc := 125) (i := 0) (a := 0) g dX1_readLine_125 rfl rfl ?_
      refine x_iconst (pc := 126) g dX1_readLine_126 ic_0 ?_
      refine x_bipush (pc := 127) g dX1_readLine_127 bi_8 ?_
      refine x_Vim (pc := 129) g hW [.int 0, .int 8] [.int 2, .ref (xad G p2)] (c_Tokens_takeNumber l G hW m12 0 8) dX1_readLine_129 ml_1_78 (sTokens isTokens_3) rfl rfl (Nat.le_of_ble_eq_true rfl) ⟨rfl, rfl, Nat.le_of_ble_eq_true rfl, Nat.le_of_ble_eq_true rfl⟩ (fun r13 hr13 => ?_)
      exact x_sub [0, 2] (T_Book_readLine_b132 hW g p1 p2 hp1 hp2 r13.1 2 r13.2) rfl
  refine x_if (fun h14_4 => ?_) (fun h14_4 => ?_)
  · refine x_tabIn (pc := 14) (t := 167) (off := 153) g dX1_readLine_14 h14_4 (by decide) ?_
    refine x_aload_n (pc := 167) (i := 2) (a := 2) g dX1_readLine_167 rfl rfl ?_
    refine x_iconst (pc := 168) g dX1_readLine_168 ic_1 ?_
    refine x_aload_n (pc := 169) (i := 0) (a := 0) g dX1_readLine_169 rfl rfl ?_
    refine x_iconst (pc := 170) g dX1_readLine_170 ic_1 ?_
    refine x_bipush (pc := 171) g dX1_readLine_171 bi_60 ?_
    refine x_Vim (pc := 173) g hW [.int 1, .int 60] [.int 1, .ref (xad G p2)] (c_Tokens_takeNumber l G hW r2 1 60) dX1_readLine_173 ml_1_78 (sTokens isTokens_3) rfl rfl (Nat.le_of_ble_eq_true rfl) ⟨rfl, rfl, Nat.le_of_ble_eq_true rfl, Nat.le_of_ble_eq_true rfl⟩ (fun r14 hr14 => ?_)
    refine x_iastc (pc := 176) g hW dX1_readLine_176 (hp2) ix_1_4 (fun m15 => ?_)
    refine x_aload_n (pc := 177) (i := 2) (a := 2) g dX1_readLine_177 rfl rfl ?_
    refine x_iconst (pc := 178) g dX1_readLine_178 ic_1 ?_
    refine x_ialdc (pc := 179) g hW dX1_readLine_179 (hp2) ix_1_4 ?_
    refine x_iconst (pc := 180) g dX1_readLine_180 ic_m1 ?_
    refine x_icmp_eq (pc := 181) (t := 188) g dX1_readLine_181 (by decide) ?_ ?_
    · refine x_iconst (pc := 188) g dX1_readLine_188 ic_0 ?_
      exact x_zretc (pc := 189) g dX1_readLine_189 rfl (Or.inl rfl) (fun _ h => h)
    · refine x_iconst (pc := 184) g dX1_readLine_184 ic_1 ?_
      refine x_goto (pc := 185) (t := 189) g dX1_readLine_185 (by decide) ?_
      exact x_zretc (pc := 189) g dX1_readLine_189 rfl (Or.inr rfl) (fun _ h => h)
  refine x_tabOut (pc := 14) (t := 190) g dX1_readLine_14 (by have z16 := ne_toInt (k := 16) h14_0 (by decide); have z17 := ne_toInt (k := 17) h14_1 (by decide); have z18 := ne_toInt (k := 18) h14_2 (by decide); have z19 := ne_toInt (k := 19) h14_3 (by decide); have z20 := ne_toInt (k := 20) h14_4 (by decide); omega) (by decide) ?_
  refine x_aload_n (pc := 190) (i := 2) (a := 2) g dX1_readLine_190 rfl rfl ?_
  refine x_iconst (pc := 191) g dX1_readLine_191 ic_1 ?_
  refine x_aload_n (pc := 192) (i := 0) (a := 0) g dX1_readLine_192 rfl rfl ?_
  refine x_aload_n (pc := 193) (i := 1) (a := 1) g dX1_readLine_193 rfl rfl ?_
  refine x_getR (pc := 194) (x := p1 + 3) g hW dX1_readLine_194 fl_1_82 (sHouse hp1) rfl ?_
  refine x_aload_n (pc := 197) (i := 1) (a := 1) g dX1_readLine_197 rfl rfl ?_
  refine x_getI (pc := 198) g hW dX1_readLine_198 fl_1_85 (sHouse hp1) rfl ?_
  refine x_Vim (pc := 201) g hW [.ref (xad G (p1 + 3)), .int (r2.1 p1 8)] [.int 1, .ref (xad G p2)] (c_Tokens_takeKnown l G hW r2 (p1 + 3) 8 (r2.1 p1 8) (sHouse_soundName hp1)) dX1_readLine_201 ml_1_68 (sTokens isTokens_3) rfl rfl (Nat.le_of_ble_eq_true rfl) ⟨rfl, rfl, Nat.le_of_ble_eq_true rfl, Nat.le_of_ble_eq_true rfl⟩ (fun r16 hr16 => ?_)
  refine x_iastc (pc := 204) g hW dX1_readLine_204 (hp2) ix_1_4 (fun m17 => ?_)
  refine x_aload_n (pc := 205) (i := 2) (a := 2) g dX1_readLine_205 rfl rfl ?_
  refine x_iconst (pc := 206) g dX1_readLine_206 ic_1 ?_
  refine x_ialdc (pc := 207) g hW dX1_readLine_207 (hp2) ix_1_4 ?_
  refine x_iconst (pc := 208) g dX1_readLine_208 ic_m1 ?_
  refine x_icmp_eq (pc := 209) (t := 216) g dX1_readLine_209 (by decide) ?_ ?_
  · refine x_iconst (pc := 216) g dX1_readLine_216 ic_0 ?_
    exact x_zretc (pc := 217) g dX1_readLine_217 rfl (Or.inl rfl) (fun _ h => h)
  · refine x_iconst (pc := 212) g dX1_readLine_212 ic_1 ?_
    refine x_goto (pc := 213) (t := 217) g dX1_readLine_213 (by decide) ?_
    exact x_zretc (pc := 217) g dX1_readLine_217 rfl (Or.inr rfl) (fun _ h => h)
theorem c_Book_readLine (l : Launch) (G : xG) (hW : WC G) (m : xMem) (p1 : Nat) (p2 : Nat) (hp1 : isHouse p1) (hp2 : shC p2 = .inr (0, 4, [])) : xCim l G yX1_readLine cX1_readLine 3 (some .boolean) rm_Book_readLine [.ref (xad G 3), .ref (xad G p1), .ref (xad G p2)] m (Book_readLine m p1 p2) :=
  xCt_of (own := RX1) (by decide) rfl (Nat.le_of_ble_eq_true rfl) rfl ⟨rfl, rfl⟩ (fun E g => T_Book_readLine hW g m p1 p2 hp1 hp2)
theorem T_Book_readAll_b40 {l : Launch} {G : xG} {E : xE} (hW : WC G) (g : xGood E l G.1 RX1 cX1_readAll yX1_readAll 4 (some .boolean) rm_Book_readAll) (p1 : Nat) (hp1 : isHouse p1) (m : xMem) : X E G (fun r : Int32 × xMem => (some (Value.int r.1), r.2)) 40 [(1, .ref (xad G 3))] [] m (Book_readAll_b40 p1 m) := by
  unfold Book_readAll_b40
  refine x_aload_n (pc := 40) (i := 1) (a := 0) g dX1_readAll_40 rfl rfl ?_
  refine x_iconst (pc := 41) g dX1_readAll_41 ic_1 ?_
  refine x_Vim (pc := 42) g hW [.int 1] [] (c_Tokens_fail l G hW m 1) dX1_readAll_42 ml_1_44 (sTokens isTokens_3) rfl rfl (Nat.le_of_ble_eq_true rfl) ⟨rfl, rfl, Nat.le_of_ble_eq_true rfl, Nat.le_of_ble_eq_true rfl⟩ (fun r7 hr7 => ?_)
  exact x_zret (pc := 45) g dX1_readAll_45 rfl (fun _ _ h => h)
theorem T_Book_readAll_b7 {l : Launch} {G : xG} {E : xE} (hW : WC G) (g : xGood E l G.1 RX1 cX1_readAll yX1_readAll 4 (some .boolean) rm_Book_readAll) (p1 : Nat) (hp1 : isHouse p1) : ∀ (n : Nat) (v3 : Int32) (m : xMem), X E G (fun r : Int32 × xMem => (some (Value.int r.1), r.2)) 7 [(0, .ref (xad G 76)), (1, .ref (xad G 3)), (2, .ref (xad G p1)), (3, .int v3)] [] m (Book_readAll_b7 p1 n v3 m) := by
  intro n
  induction n with
  | zero => intro v3 m; exact x_none
  | succ n ih =>
    intro v3 m
    rw [Book_readAll_b7]
    refine x_iload_n (pc := 7) (i := 3) (a := 3) g dX1_readAll_7 rfl rfl ?_
    refine x_bipush (pc := 8) g dX1_readAll_8 bi_40 ?_
    refine x_icmp_gt (pc := 10) (t := 96) g dX1_readAll_10 (by decide) ?_ ?_
    · refine x_iconst (pc := 96) g dX1_readAll_96 ic_0 ?_
      exact x_zretc (pc := 97) g dX1_readAll_97 rfl (Or.inl rfl) (fun _ h => h)
    · refine x_aload_n (pc := 13) (i := 1) (a := 1) g dX1_readAll_13 rfl rfl ?_
      refine x_getI (pc := 14) g hW dX1_readAll_14 fl_1_36 (sTokens isTokens_3) rfl ?_
      refine x_if_ne (pc := 17) (t := 22) g dX1_readAll_17 (by decide) ?_ ?_
      · refine x_iconst (pc := 20) g dX1_readAll_20 ic_1 ?_
        exact x_zretc (pc := 21) g dX1_readAll_21 rfl (Or.inr rfl) (fun _ h => h)
      · refine x_aload_n (pc := 22) (i := 1) (a := 1) g dX1_readAll_22 rfl rfl ?_
        refine x_getI (pc := 23) g hW dX1_readAll_23 fl_1_41 (sTokens isTokens_3) rfl ?_
        refine x_bipush (pc := 26) g dX1_readAll_26 bi_16 ?_
        refine x_icmp_lt (pc := 28) (t := 40) g dX1_readAll_28 (by decide) ?_ ?_
        · exact x_sub [1] (T_Book_readAll_b40 hW g p1 hp1 m) rfl
        · refine x_aload_n (pc := 31) (i := 1) (a := 1) g dX1_readAll_31 rfl rfl ?_
          refine x_getI (pc := 32) g hW dX1_readAll_32 fl_1_41 (sTokens isTokens_3) rfl ?_
          refine x_bipush (pc := 35) g dX1_readAll_35 bi_20 ?_
          refine x_icmp_le (pc := 37) (t := 46) g dX1_readAll_37 (by decide) ?_ ?_
          · exact x_sub [1] (T_Book_readAll_b40 hW g p1 hp1 m) rfl
          · refine x_iload_n (pc := 46) (i := 3) (a := 3) g dX1_readAll_46 rfl rfl ?_
            refine x_bipush (pc := 47) g dX1_readAll_47 bi_40 ?_
            refine x_icmp_lt (pc := 49) (t := 58) g dX1_readAll_49 (by decide) ?_ ?_
            · refine x_aload_n (pc := 58) (i := 1) (a := 1) g dX1_readAll_58 rfl rfl ?_
              refine x_aload_n (pc := 59) (i := 2) (a := 2) g dX1_readAll_59 rfl rfl ?_
              refine x_aload_n (pc := 60) (i := 0) (a := 0) g dX1_readAll_60 rfl rfl ?_
              refine x_getR (pc := 61) (x := 77) g hW dX1_readAll_61 fl_1_13 (sBook isBook_76) rfl ?_
              refine x_iload_n (pc := 64) (i := 3) (a := 3) g dX1_readAll_64 rfl rfl ?_
              refine x_aald4 (pc := 65) (r := fun j => 78 + j) g hW dX1_readAll_65 (sBook_rows isBook_76) (fun j h => rowsL_get h) (fun j2 hj2 => ?_)
              refine x_Sim (pc := 66) g [.ref (xad G 3), .ref (xad G p1), .ref (xad G (78 + j2))] [] (c_Book_readLine l G hW m p1 (78 + j2) hp1 (sBook_rowsR isBook_76 hj2)) dX1_readAll_66 ms_1_48 rfl rfl (Nat.le_of_ble_eq_true rfl) ⟨rfl, rfl, Nat.le_of_ble_eq_true rfl, Nat.le_of_ble_eq_true rfl⟩ (fun r3 hr3 => ?_)
              refine x_if_eq (pc := 69) (t := 81) g dX1_readAll_69 (by decide) ?_ ?_
              · refine x_iconst (pc := 81) g dX1_readAll_81 ic_0 ?_
                exact x_zretc (pc := 82) g dX1_readAll_82 rfl (Or.inl rfl) (fun _ h => h)
              · refine x_aload_n (pc := 72) (i := 1) (a := 1) g dX1_readAll_72 rfl rfl ?_
                refine x_bipush (pc := 73) g dX1_readAll_73 bi_59 ?_
                refine x_Vim (pc := 75) g hW [.int 59] [] (c_Tokens_skipSign l G hW r3.2 59) dX1_readAll_75 ml_1_52 (sTokens isTokens_3) rfl rfl (Nat.le_of_ble_eq_true rfl) ⟨rfl, rfl, Nat.le_of_ble_eq_true rfl, Nat.le_of_ble_eq_true rfl⟩ (fun r4 hr4 => ?_)
                refine x_if_ne (pc := 78) (t := 83) g dX1_readAll_78 (by decide) ?_ ?_
                · refine x_iconst (pc := 81) g dX1_readAll_81 ic_0 ?_
                  exact x_zretc (pc := 82) g dX1_readAll_82 rfl (Or.inl rfl) (fun _ h => h)
                · refine x_aload_n (pc := 83) (i := 0) (a := 0) g dX1_readAll_83 rfl rfl ?_
                  refine x_iload_n (pc := 84) (i := 3) (a := 3) g dX1_readAll_84 rfl rfl ?_
                  refine x_iconst (pc := 85) g dX1_readAll_85 ic_1 ?_
                  refine x_iadd (pc := 86) g dX1_readAll_86 ?_
                  refine x_putI (pc := 87) g hW dX1_readAll_87 fl_1_16 ft_1_1 (sBook isBook_76) rfl (fun m5 => ?_)
                  refine x_iinc (pc := 90) (a := 3) (lv' := [(3, .int (v3 + 1)), (0, .ref (xad G 76)), (1, .ref (xad G 3)), (2, .ref (xad G p1))]) g dX1_readAll_90 ic_1 rfl (by decide) rfl ?_
                  refine x_goto (pc := 93) (t := 7) g dX1_readAll_93 (by decide) ?_
                  exact x_sub [1, 2, 3, 0] (ih (v3 + 1) m5) rfl
            · refine x_aload_n (pc := 52) (i := 1) (a := 1) g dX1_readAll_52 rfl rfl ?_
              refine x_iconst (pc := 53) g dX1_readAll_53 ic_4 ?_
              refine x_Vim (pc := 54) g hW [.int 4] [] (c_Tokens_fail l G hW m 4) dX1_readAll_54 ml_1_44 (sTokens isTokens_3) rfl rfl (Nat.le_of_ble_eq_true rfl) ⟨rfl, rfl, Nat.le_of_ble_eq_true rfl, Nat.le_of_ble_eq_true rfl⟩ (fun r6 hr6 => ?_)
              exact x_zret (pc := 57) g dX1_readAll_57 rfl (fun _ _ h => h)
theorem T_Book_readAll {l : Launch} {G : xG} {E : xE} (hW : WC G) (g : xGood E l G.1 RX1 cX1_readAll yX1_readAll 4 (some .boolean) rm_Book_readAll) (m : xMem) (p1 : Nat) (hp1 : isHouse p1) : X E G (fun r : Int32 × xMem => (some (Value.int r.1), r.2)) 0 [(0, .ref (xad G 76)), (1, .ref (xad G 3)), (2, .ref (xad G p1))] [] m (Book_readAll m p1) := by
  unfold Book_readAll
  refine x_aload_n (pc := 0) (i := 0) (a := 0) g dX1_readAll_0 rfl rfl ?_
  refine x_iconst (pc := 1) g dX1_readAll_1 ic_0 ?_
  refine x_putI (pc := 2) g hW dX1_readAll_2 fl_1_16 ft_1_1 (sBook isBook_76) rfl (fun m1 => ?_)
  refine x_iconst (pc := 5) g dX1_readAll_5 ic_0 ?_
  refine x_istore_n (pc := 6) (i := 3) (lv' := [(3, .int 0), (0, .ref (xad G 76)), (1, .ref (xad G 3)), (2, .ref (xad G p1))]) g dX1_readAll_6 rfl (by decide) rfl ?_
  exact x_sub [1, 2, 3, 0] (T_Book_readAll_b7 hW g p1 hp1 1000 0 m1) rfl
theorem c_Book_readAll (l : Launch) (G : xG) (hW : WC G) (m : xMem) (p1 : Nat) (hp1 : isHouse p1) : xCim l G yX1_readAll cX1_readAll 4 (some .boolean) rm_Book_readAll [.ref (xad G 76), .ref (xad G 3), .ref (xad G p1)] m (Book_readAll m p1) :=
  xCt_of (own := RX1) (by decide) rfl (Nat.le_of_ble_eq_true rfl) rfl ⟨rfl, rfl⟩ (fun E g => T_Book_readAll hW g m p1 hp1)
theorem T_Book_liveLine_b136 {l : Launch} {G : xG} {E : xE} (hW : WC G) (g : xGood E l G.1 RX1 cX1_liveLine yX1_liveLine 4 (some .int) rm_Book_liveLine) (p0 : Nat) (p1 : Nat) (p2 : Nat) (hp0 : isHouse p0) (hp1 : isState p1) (hp2 : shC p2 = .inr (0, 4, [])) : ∀ (n : Nat) (v3 : Int32) (m : xMem), X E G (fun r : Int32 × xMem => (some (Value.int r.1), r.2)) 136 [(0, .ref (xad G p0)), (1, .ref (xad G p1)), (2, .ref (xad G p2)), (3, .int v3)] [] m (Book_liveLine_b136 p0 p1 p2 n v3 m) := by
  intro n
  induction n with
  | zero => intro v3 m; exact x_none
  | succ n ih =>
    intro v3 m
    rw [Book_liveLine_b136]
    refine x_iload_n (pc := 136) (i := 3) (a := 3) g dX1_liveLine_136 rfl rfl ?_
    refine x_aload_n (pc := 137) (i := 2) (a := 2) g dX1_liveLine_137 rfl rfl ?_
    refine x_iconst (pc := 138) g dX1_liveLine_138 ic_1 ?_
    refine x_ialdc (pc := 139) g hW dX1_liveLine_139 (hp2) ix_1_4 ?_
    refine x_icmp_ge (pc := 140) (t := 154) g dX1_liveLine_140 (by decide) ?_ ?_
    · refine x_aload_n (pc := 143) (i := 1) (a := 1) g dX1_liveLine_143 rfl rfl ?_
      refine x_aload_n (pc := 144) (i := 0) (a := 0) g dX1_liveLine_144 rfl rfl ?_
      refine x_Vv (pc := 145) g hW [.ref (xad G p0)] [] (c_State_passHour l G hW m p1 p0 hp1 hp0) dX1_liveLine_145 ml_1_120 (sState hp1) rfl rfl (Nat.le_of_ble_eq_true rfl) ⟨rfl, rfl, Nat.le_of_ble_eq_true rfl, Nat.le_of_ble_eq_true rfl⟩ (fun r7 hr7 => ?_)
      refine x_iinc (pc := 148) (a := 3) (lv' := [(3, .int (v3 + 1)), (0, .ref (xad G p0)), (1, .ref (xad G p1)), (2, .ref (xad G p2))]) g dX1_liveLine_148 ic_1 rfl (by decide) rfl ?_
      refine x_goto (pc := 151) (t := 136) g dX1_liveLine_151 (by decide) ?_
      exact x_sub [1, 2, 3, 0] (ih (v3 + 1) r7) rfl
    · refine x_iconst (pc := 154) g dX1_liveLine_154 ic_0 ?_
      exact x_iret (pc := 155) g dX1_liveLine_155 rfl (fun _ h => h)
theorem T_Book_liveLine {l : Launch} {G : xG} {E : xE} (hW : WC G) (g : xGood E l G.1 RX1 cX1_liveLine yX1_liveLine 4 (some .int) rm_Book_liveLine) (m : xMem) (p0 : Nat) (p1 : Nat) (p2 : Nat) (hp0 : isHouse p0) (hp1 : isState p1) (hp2 : shC p2 = .inr (0, 4, [])) : X E G (fun r : Int32 × xMem => (some (Value.int r.1), r.2)) 0 [(0, .ref (xad G p0)), (1, .ref (xad G p1)), (2, .ref (xad G p2))] [] m (Book_liveLine m p0 p1 p2) := by
  unfold Book_liveLine
  refine x_aload_n (pc := 0) (i := 2) (a := 2) g dX1_liveLine_0 rfl rfl ?_
  refine x_iconst (pc := 1) g dX1_liveLine_1 ic_0 ?_
  refine x_ialdc (pc := 2) g hW dX1_liveLine_2 (hp2) ix_0_4 ?_
  refine x_nmI (fun x1 => ?_)
  refine x_if (fun h3_0 => ?_) (fun h3_0 => ?_)
  · refine x_tabIn (pc := 3) (t := 32) (off := 29) g dX1_liveLine_3 h3_0 (by decide) ?_
    refine x_aload_n (pc := 32) (i := 1) (a := 1) g dX1_liveLine_32 rfl rfl ?_
    refine x_aload_n (pc := 33) (i := 0) (a := 0) g dX1_liveLine_33 rfl rfl ?_
    refine x_aload_n (pc := 34) (i := 2) (a := 2) g dX1_liveLine_34 rfl rfl ?_
    refine x_iconst (pc := 35) g dX1_liveLine_35 ic_1 ?_
    refine x_ialdc (pc := 36) g hW dX1_liveLine_36 (hp2) ix_1_4 ?_
    refine x_aload_n (pc := 37) (i := 2) (a := 2) g dX1_liveLine_37 rfl rfl ?_
    refine x_iconst (pc := 38) g dX1_liveLine_38 ic_2 ?_
    refine x_ialdc (pc := 39) g hW dX1_liveLine_39 (hp2) ix_2_4 ?_
    refine x_Vim (pc := 40) g hW [.ref (xad G p0), .int (m.1 p2 1), .int (m.1 p2 2)] [] (c_State_lendTo l G hW m p1 p0 (m.1 p2 1) (m.1 p2 2) hp1 hp0) dX1_liveLine_40 ml_1_101 (sState hp1) rfl rfl (Nat.le_of_ble_eq_true rfl) ⟨rfl, rfl, Nat.le_of_ble_eq_true rfl, Nat.le_of_ble_eq_true rfl⟩ (fun r2 hr2 => ?_)
    exact x_iret (pc := 43) g dX1_liveLine_43 rfl (fun _ h => h)
  refine x_if (fun h3_1 => ?_) (fun h3_1 => ?_)
  · refine x_tabIn (pc := 3) (t := 44) (off := 41) g dX1_liveLine_3 h3_1 (by decide) ?_
    refine x_aload_n (pc := 44) (i := 1) (a := 1) g dX1_liveLine_44 rfl rfl ?_
    refine x_aload_n (pc := 45) (i := 2) (a := 2) g dX1_liveLine_45 rfl rfl ?_
    refine x_iconst (pc := 46) g dX1_liveLine_46 ic_1 ?_
    refine x_ialdc (pc := 47) g hW dX1_liveLine_47 (hp2) ix_1_4 ?_
    refine x_Vim (pc := 48) g hW [.int (m.1 p2 1)] [] (c_State_hushOne l G hW m p1 (m.1 p2 1) hp1) dX1_liveLine_48 ml_1_105 (sState hp1) rfl rfl (Nat.le_of_ble_eq_true rfl) ⟨rfl, rfl, Nat.le_of_ble_eq_true rfl, Nat.le_of_ble_eq_true rfl⟩ (fun r3 hr3 => ?_)
    refine x_if_ne (pc := 51) (t := 58) g dX1_liveLine_51 (by decide) ?_ ?_
    · refine x_iconst (pc := 54) g dX1_liveLine_54 ic_0 ?_
      refine x_goto (pc := 55) (t := 60) g dX1_liveLine_55 (by decide) ?_
      exact x_iret (pc := 60) g dX1_liveLine_60 rfl (fun _ h => h)
    · refine x_bipush (pc := 58) g dX1_liveLine_58 bi_11 ?_
      exact x_iret (pc := 60) g dX1_liveLine_60 rfl (fun _ h => h)
  refine x_if (fun h3_2 => ?_) (fun h3_2 => ?_)
  · refine x_tabIn (pc := 3) (t := 61) (off := 58) g dX1_liveLine_3 h3_2 (by decide) ?_
    refine x_aload_n (pc := 61) (i := 1) (a := 1) g dX1_liveLine_61 rfl rfl ?_
    refine x_aload_n (pc := 62) (i := 2) (a := 2) g dX1_liveLine_62 rfl rfl ?_
    refine x_iconst (pc := 63) g dX1_liveLine_63 ic_1 ?_
    refine x_ialdc (pc := 64) g hW dX1_liveLine_64 (hp2) ix_1_4 ?_
    refine x_Vim (pc := 65) g hW [.int (m.1 p2 1)] [] (c_State_letOne l G hW m p1 (m.1 p2 1) hp1) dX1_liveLine_65 ml_1_109 (sState hp1) rfl rfl (Nat.le_of_ble_eq_true rfl) ⟨rfl, rfl, Nat.le_of_ble_eq_true rfl, Nat.le_of_ble_eq_true rfl⟩ (fun r4 hr4 => ?_)
    refine x_if_ne (pc := 68) (t := 75) g dX1_liveLine_68 (by decide) ?_ ?_
    · refine x_iconst (pc := 71) g dX1_liveLine_71 ic_0 ?_
      refine x_goto (pc := 72) (t := 77) g dX1_liveLine_72 (by decide) ?_
      exact x_iret (pc := 77) g dX1_liveLine_77 rfl (fun _ h => h)
    · refine x_bipush (pc := 75) g dX1_liveLine_75 bi_21 ?_
      exact x_iret (pc := 77) g dX1_liveLine_77 rfl (fun _ h => h)
  refine x_if (fun h3_3 => ?_) (fun h3_3 => ?_)
  · refine x_tabIn (pc := 3) (t := 78) (off := 75) g dX1_liveLine_3 h3_3 (by decide) ?_
    refine x_aload_n (pc := 78) (i := 0) (a := 0) g dX1_liveLine_78 rfl rfl ?_
    refine x_aload_n (pc := 79) (i := 2) (a := 2) g dX1_liveLine_79 rfl rfl ?_
    refine x_iconst (pc := 80) g dX1_liveLine_80 ic_1 ?_
    refine x_ialdc (pc := 81) g hW dX1_liveLine_81 (hp2) ix_1_4 ?_
    refine x_aload_n (pc := 82) (i := 2) (a := 2) g dX1_liveLine_82 rfl rfl ?_
    refine x_iconst (pc := 83) g dX1_liveLine_83 ic_2 ?_
    refine x_ialdc (pc := 84) g hW dX1_liveLine_84 (hp2) ix_2_4 ?_
    refine x_Vi (pc := 85) g hW [.int (m.1 p2 1), .int (m.1 p2 2)] [] (c_House_hasCell l G hW m p0 (m.1 p2 1) (m.1 p2 2) hp0) dX1_liveLine_85 ml_1_112 (sHouse hp0) rfl rfl (Nat.le_of_ble_eq_true rfl) ⟨rfl, rfl, Nat.le_of_ble_eq_true rfl, Nat.le_of_ble_eq_true rfl⟩ (fun r5 hr5 => ?_)
    refine x_if_ne (pc := 88) (t := 94) g dX1_liveLine_88 (by decide) ?_ ?_
    · refine x_bipush (pc := 91) g dX1_liveLine_91 bi_39 ?_
      exact x_iret (pc := 93) g dX1_liveLine_93 rfl (fun _ h => h)
    · refine x_aload_n (pc := 94) (i := 1) (a := 1) g dX1_liveLine_94 rfl rfl ?_
      refine x_aload_n (pc := 95) (i := 2) (a := 2) g dX1_liveLine_95 rfl rfl ?_
      refine x_iconst (pc := 96) g dX1_liveLine_96 ic_1 ?_
      refine x_ialdc (pc := 97) g hW dX1_liveLine_97 (hp2) ix_1_4 ?_
      refine x_aload_n (pc := 98) (i := 2) (a := 2) g dX1_liveLine_98 rfl rfl ?_
      refine x_iconst (pc := 99) g dX1_liveLine_99 ic_2 ?_
      refine x_ialdc (pc := 100) g hW dX1_liveLine_100 (hp2) ix_2_4 ?_
      refine x_aload_n (pc := 101) (i := 2) (a := 2) g dX1_liveLine_101 rfl rfl ?_
      refine x_iconst (pc := 102) g dX1_liveLine_102 ic_3 ?_
      refine x_ialdc (pc := 103) g hW dX1_liveLine_103 (hp2) ix_3_4 ?_
      refine x_Vim (pc := 104) g hW [.int (m.1 p2 1), .int (m.1 p2 2), .int (m.1 p2 3)] [] (c_State_shoutIn l G hW m p1 (m.1 p2 1) (m.1 p2 2) (m.1 p2 3) hp1) dX1_liveLine_104 ml_1_116 (sState hp1) rfl rfl (Nat.le_of_ble_eq_true rfl) ⟨rfl, rfl, Nat.le_of_ble_eq_true rfl, Nat.le_of_ble_eq_true rfl⟩ (fun r6 hr6 => ?_)
      refine x_if_ne (pc := 107) (t := 114) g dX1_liveLine_107 (by decide) ?_ ?_
      · refine x_iconst (pc := 110) g dX1_liveLine_110 ic_0 ?_
        refine x_goto (pc := 111) (t := 116) g dX1_liveLine_111 (by decide) ?_
        exact x_iret (pc := 116) g dX1_liveLine_116 rfl (fun _ h => h)
      · refine x_bipush (pc := 114) g dX1_liveLine_114 bi_31 ?_
        exact x_iret (pc := 116) g dX1_liveLine_116 rfl (fun _ h => h)
  refine x_tabOut (pc := 3) (t := 117) g dX1_liveLine_3 (by have z16 := ne_toInt (k := 16) h3_0 (by decide); have z17 := ne_toInt (k := 17) h3_1 (by decide); have z18 := ne_toInt (k := 18) h3_2 (by decide); have z19 := ne_toInt (k := 19) h3_3 (by decide); omega) (by decide) ?_
  refine x_aload_n (pc := 117) (i := 2) (a := 2) g dX1_liveLine_117 rfl rfl ?_
  refine x_iconst (pc := 118) g dX1_liveLine_118 ic_1 ?_
  refine x_ialdc (pc := 119) g hW dX1_liveLine_119 (hp2) ix_1_4 ?_
  refine x_sipush (pc := 120) g dX1_liveLine_120 si_400 ?_
  refine x_aload_n (pc := 123) (i := 1) (a := 1) g dX1_liveLine_123 rfl rfl ?_
  refine x_getI (pc := 124) g hW dX1_liveLine_124 fl_1_92 (sState hp1) rfl ?_
  refine x_isub (pc := 127) g dX1_liveLine_127 ?_
  refine x_icmp_le (pc := 128) (t := 134) g dX1_liveLine_128 (by decide) ?_ ?_
  · refine x_bipush (pc := 131) g dX1_liveLine_131 bi_41 ?_
    exact x_iret (pc := 133) g dX1_liveLine_133 rfl (fun _ h => h)
  · refine x_iconst (pc := 134) g dX1_liveLine_134 ic_0 ?_
    refine x_istore_n (pc := 135) (i := 3) (lv' := [(3, .int 0), (0, .ref (xad G p0)), (1, .ref (xad G p1)), (2, .ref (xad G p2))]) g dX1_liveLine_135 rfl (by decide) rfl ?_
    exact x_sub [1, 2, 3, 0] (T_Book_liveLine_b136 hW g p0 p1 p2 hp0 hp1 hp2 1000 0 m) rfl
theorem c_Book_liveLine (l : Launch) (G : xG) (hW : WC G) (m : xMem) (p0 : Nat) (p1 : Nat) (p2 : Nat) (hp0 : isHouse p0) (hp1 : isState p1) (hp2 : shC p2 = .inr (0, 4, [])) : xCim l G yX1_liveLine cX1_liveLine 4 (some .int) rm_Book_liveLine [.ref (xad G p0), .ref (xad G p1), .ref (xad G p2)] m (Book_liveLine m p0 p1 p2) :=
  xCt_of (own := RX1) (by decide) rfl (Nat.le_of_ble_eq_true rfl) rfl ⟨rfl, rfl⟩ (fun E g => T_Book_liveLine hW g m p0 p1 p2 hp0 hp1 hp2)
theorem T_Book_live_b65 {l : Launch} {G : xG} {E : xE} (hW : WC G) (g : xGood E l G.1 RX1 cX1_live yX1_live 4 none rm_Book_live) (p0 : Nat) (p1 : Nat) (hp0 : isHouse p0) (hp1 : isState p1) (m : xMem) : X E G (fun r : xMem => ((none : Option Value), r)) 65 [(0, .ref (xad G 76)), (1, .ref (xad G p0)), (2, .ref (xad G p1))] [] m (Book_live_b65 p0 p1 m) := by
  unfold Book_live_b65
  refine x_aload_n (pc := 65) (i := 0) (a := 0) g dX1_live_65 rfl rfl ?_
  refine x_aload_n (pc := 66) (i := 2) (a := 2) g dX1_live_66 rfl rfl ?_
  refine x_getI (pc := 67) g hW dX1_live_67 fl_1_92 (sState hp1) rfl ?_
  refine x_putI (pc := 70) g hW dX1_live_70 fl_1_30 ft_1_5 (sBook isBook_76) rfl (fun m7 => ?_)
  refine x_aload_n (pc := 73) (i := 0) (a := 0) g dX1_live_73 rfl rfl ?_
  refine x_aload_n (pc := 74) (i := 2) (a := 2) g dX1_live_74 rfl rfl ?_
  refine x_aload_n (pc := 75) (i := 1) (a := 1) g dX1_live_75 rfl rfl ?_
  refine x_Vi (pc := 76) g hW [.ref (xad G p0)] [.ref (xad G 76)] (c_State_lookingBits l G hW m7 p1 p0 hp1 hp0) dX1_live_76 ml_1_97 (sState hp1) rfl rfl (Nat.le_of_ble_eq_true rfl) ⟨rfl, rfl, Nat.le_of_ble_eq_true rfl, Nat.le_of_ble_eq_true rfl⟩ (fun r8 hr8 => ?_)
  refine x_putI (pc := 79) g hW dX1_live_79 fl_1_33 ft_1_6 (sBook isBook_76) rfl (fun m9 => ?_)
  refine x_aload_n (pc := 82) (i := 0) (a := 0) g dX1_live_82 rfl rfl ?_
  refine x_iconst (pc := 83) g dX1_live_83 ic_1 ?_
  refine x_putZ (pc := 84) g hW dX1_live_84 fl_1_20 ft_1_2 (sBook isBook_76) rfl (Or.inr rfl) (fun m10 => ?_)
  exact x_vret (pc := 87) g dX1_live_87 rfl (fun _ h => h)
theorem T_Book_live_b12 {l : Launch} {G : xG} {E : xE} (hW : WC G) (g : xGood E l G.1 RX1 cX1_live yX1_live 4 none rm_Book_live) (p0 : Nat) (p1 : Nat) (hp0 : isHouse p0) (hp1 : isState p1) : ∀ (n : Nat) (v3 : Int32) (m : xMem), X E G (fun r : xMem => ((none : Option Value), r)) 12 [(0, .ref (xad G 76)), (1, .ref (xad G p0)), (2, .ref (xad G p1)), (3, .int v3)] [] m (Book_live_b12 p0 p1 n v3 m) := by
  intro n
  induction n with
  | zero => intro v3 m; exact x_none
  | succ n ih =>
    intro v3 m
    rw [Book_live_b12]
    refine x_iload_n (pc := 12) (i := 3) (a := 3) g dX1_live_12 rfl rfl ?_
    refine x_aload_n (pc := 13) (i := 0) (a := 0) g dX1_live_13 rfl rfl ?_
    refine x_getI (pc := 14) g hW dX1_live_14 fl_1_16 (sBook isBook_76) rfl ?_
    refine x_icmp_ge (pc := 17) (t := 65) g dX1_live_17 (by decide) ?_ ?_
    · refine x_aload_n (pc := 20) (i := 0) (a := 0) g dX1_live_20 rfl rfl ?_
      refine x_getI (pc := 21) g hW dX1_live_21 fl_1_24 (sBook isBook_76) rfl ?_
      refine x_if_ne (pc := 24) (t := 65) g dX1_live_24 (by decide) ?_ ?_
      · refine x_aload_n (pc := 27) (i := 0) (a := 0) g dX1_live_27 rfl rfl ?_
        refine x_aload_n (pc := 28) (i := 1) (a := 1) g dX1_live_28 rfl rfl ?_
        refine x_aload_n (pc := 29) (i := 2) (a := 2) g dX1_live_29 rfl rfl ?_
        refine x_aload_n (pc := 30) (i := 0) (a := 0) g dX1_live_30 rfl rfl ?_
        refine x_getR (pc := 31) (x := 77) g hW dX1_live_31 fl_1_13 (sBook isBook_76) rfl ?_
        refine x_iload_n (pc := 34) (i := 3) (a := 3) g dX1_live_34 rfl rfl ?_
        refine x_aald4 (pc := 35) (r := fun j => 78 + j) g hW dX1_live_35 (sBook_rows isBook_76) (fun j h => rowsL_get h) (fun j3 hj3 => ?_)
        refine x_Sim (pc := 36) g [.ref (xad G p0), .ref (xad G p1), .ref (xad G (78 + j3))] [.ref (xad G 76)] (c_Book_liveLine l G hW m p0 p1 (78 + j3) hp0 hp1 (sBook_rowsR isBook_76 hj3)) dX1_live_36 ms_1_88 rfl rfl (Nat.le_of_ble_eq_true rfl) ⟨rfl, rfl, Nat.le_of_ble_eq_true rfl, Nat.le_of_ble_eq_true rfl⟩ (fun r4 hr4 => ?_)
        refine x_putI (pc := 39) g hW dX1_live_39 fl_1_24 ft_1_3 (sBook isBook_76) rfl (fun m5 => ?_)
        refine x_aload_n (pc := 42) (i := 0) (a := 0) g dX1_live_42 rfl rfl ?_
        refine x_getI (pc := 43) g hW dX1_live_43 fl_1_24 (sBook isBook_76) rfl ?_
        refine x_if_ne (pc := 46) (t := 59) g dX1_live_46 (by decide) ?_ ?_
        · refine x_aload_n (pc := 49) (i := 0) (a := 0) g dX1_live_49 rfl rfl ?_
          refine x_dup (pc := 50) g dX1_live_50 rfl ?_
          refine x_getI (pc := 51) g hW dX1_live_51 fl_1_27 (sBook isBook_76) rfl ?_
          refine x_iconst (pc := 54) g dX1_live_54 ic_1 ?_
          refine x_iadd (pc := 55) g dX1_live_55 ?_
          refine x_putI (pc := 56) g hW dX1_live_56 fl_1_27 ft_1_4 (sBook isBook_76) rfl (fun m6 => ?_)
          refine x_iinc (pc := 59) (a := 3) (lv' := [(3, .int (v3 + 1)), (0, .ref (xad G 76)), (1, .ref (xad G p0)), (2, .ref (xad G p1))]) g dX1_live_59 ic_1 rfl (by decide) rfl ?_
          refine x_goto (pc := 62) (t := 12) g dX1_live_62 (by decide) ?_
          exact x_sub [1, 2, 3, 0] (ih (v3 + 1) m6) rfl
        · refine x_iinc (pc := 59) (a := 3) (lv' := [(3, .int (v3 + 1)), (0, .ref (xad G 76)), (1, .ref (xad G p0)), (2, .ref (xad G p1))]) g dX1_live_59 ic_1 rfl (by decide) rfl ?_
          refine x_goto (pc := 62) (t := 12) g dX1_live_62 (by decide) ?_
          exact x_sub [1, 2, 3, 0] (ih (v3 + 1) m5) rfl
      · exact x_sub [0, 1, 2] (T_Book_live_b65 hW g p0 p1 hp0 hp1 m) rfl
    · exact x_sub [0, 1, 2] (T_Book_live_b65 hW g p0 p1 hp0 hp1 m) rfl
theorem T_Book_live {l : Launch} {G : xG} {E : xE} (hW : WC G) (g : xGood E l G.1 RX1 cX1_live yX1_live 4 none rm_Book_live) (m : xMem) (p0 : Nat) (p1 : Nat) (hp0 : isHouse p0) (hp1 : isState p1) : X E G (fun r : xMem => ((none : Option Value), r)) 0 [(0, .ref (xad G 76)), (1, .ref (xad G p0)), (2, .ref (xad G p1))] [] m (Book_live m p0 p1) := by
  unfold Book_live
  refine x_aload_n (pc := 0) (i := 0) (a := 0) g dX1_live_0 rfl rfl ?_
  refine x_iconst (pc := 1) g dX1_live_1 ic_0 ?_
  refine x_putI (pc := 2) g hW dX1_live_2 fl_1_24 ft_1_3 (sBook isBook_76) rfl (fun m1 => ?_)
  refine x_aload_n (pc := 5) (i := 0) (a := 0) g dX1_live_5 rfl rfl ?_
  refine x_iconst (pc := 6) g dX1_live_6 ic_0 ?_
  refine x_putI (pc := 7) g hW dX1_live_7 fl_1_27 ft_1_4 (sBook isBook_76) rfl (fun m2 => ?_)
  refine x_iconst (pc := 10) g dX1_live_10 ic_0 ?_
  refine x_istore_n (pc := 11) (i := 3) (lv' := [(3, .int 0), (0, .ref (xad G 76)), (1, .ref (xad G p0)), (2, .ref (xad G p1))]) g dX1_live_11 rfl (by decide) rfl ?_
  exact x_sub [1, 2, 3, 0] (T_Book_live_b12 hW g p0 p1 hp0 hp1 1000 0 m2) rfl
theorem c_Book_live (l : Launch) (G : xG) (hW : WC G) (m : xMem) (p0 : Nat) (p1 : Nat) (hp0 : isHouse p0) (hp1 : isState p1) : xCv l G yX1_live cX1_live 4 none rm_Book_live [.ref (xad G 76), .ref (xad G p0), .ref (xad G p1)] m (Book_live m p0 p1) :=
  xCt_of (own := RX1) (by decide) rfl (Nat.le_of_ble_eq_true rfl) rfl ⟨rfl, rfl⟩ (fun E g => T_Book_live hW g m p0 p1 hp0 hp1)
theorem T_HouseReader_readHouse_b21 {l : Launch} {G : xG} {E : xE} (hW : WC G) (g : xGood E l G.1 RX3 cX3_readHouse yX3_readHouse 4 (some .boolean) rm_HouseReader_readHouse) (p1 : Nat) (hp1 : isHouse p1) (m : xMem) : X E G (fun r : Int32 × xMem => (some (Value.int r.1), r.2)) 21 [(0, .ref (xad G 3))] [] m (HouseReader_readHouse_b21 p1 m) := by
  unfold HouseReader_readHouse_b21
  refine x_aload_n (pc := 21) (i := 0) (a := 0) g dX3_readHouse_21 rfl rfl ?_
  refine x_iconst (pc := 22) g dX3_readHouse_22 ic_3 ?_
  refine x_Vim (pc := 23) g hW [.int 3] [] (c_Tokens_fail l G hW m 3) dX3_readHouse_23 ml_3_50 (sTokens isTokens_3) rfl rfl (Nat.le_of_ble_eq_true rfl) ⟨rfl, rfl, Nat.le_of_ble_eq_true rfl, Nat.le_of_ble_eq_true rfl⟩ (fun r4 hr4 => ?_)
  exact x_zret (pc := 26) g dX3_readHouse_26 rfl (fun _ _ h => h)
theorem T_HouseReader_readHouse_b55 {l : Launch} {G : xG} {E : xE} (hW : WC G) (g : xGood E l G.1 RX3 cX3_readHouse yX3_readHouse 4 (some .boolean) rm_HouseReader_readHouse) (p1 : Nat) (hp1 : isHouse p1) (v2 : Int32) (s0 : Int32) (m : xMem) : X E G (fun r : Int32 × xMem => (some (Value.int r.1), r.2)) 55 [(1, .ref (xad G p1)), (2, .int v2)] [.int s0] m (HouseReader_readHouse_b55 p1 v2 s0 m) := by
  unfold HouseReader_readHouse_b55
  refine x_istore_n (pc := 55) (i := 3) (lv' := [(3, .int s0), (1, .ref (xad G p1)), (2, .int v2)]) g dX3_readHouse_55 rfl (by decide) rfl ?_
  refine x_iload_n (pc := 56) (i := 3) (a := 0) g dX3_readHouse_56 rfl rfl ?_
  refine x_iconst (pc := 57) g dX3_readHouse_57 ic_m1 ?_
  refine x_icmp_ne (pc := 58) (t := 63) g dX3_readHouse_58 (by decide) ?_ ?_
  · refine x_iconst (pc := 61) g dX3_readHouse_61 ic_0 ?_
    exact x_zretc (pc := 62) g dX3_readHouse_62 rfl (Or.inl rfl) (fun _ h => h)
  · refine x_aload_n (pc := 63) (i := 1) (a := 1) g dX3_readHouse_63 rfl rfl ?_
    refine x_iload_n (pc := 64) (i := 2) (a := 2) g dX3_readHouse_64 rfl rfl ?_
    refine x_putI (pc := 65) g hW dX3_readHouse_65 fl_3_75 ft_2_0 (sHouse hp1) rfl (fun m5 => ?_)
    refine x_aload_n (pc := 68) (i := 1) (a := 1) g dX3_readHouse_68 rfl rfl ?_
    refine x_iload_n (pc := 69) (i := 3) (a := 0) g dX3_readHouse_69 rfl rfl ?_
    refine x_putI (pc := 70) g hW dX3_readHouse_70 fl_3_78 ft_2_1 (sHouse hp1) rfl (fun m6 => ?_)
    refine x_aload_n (pc := 73) (i := 1) (a := 1) g dX3_readHouse_73 rfl rfl ?_
    refine x_iconst (pc := 74) g dX3_readHouse_74 ic_1 ?_
    refine x_putZ (pc := 75) g hW dX3_readHouse_75 fl_3_58 ft_2_4 (sHouse hp1) rfl (Or.inr rfl) (fun m7 => ?_)
    refine x_iconst (pc := 78) g dX3_readHouse_78 ic_1 ?_
    exact x_zretc (pc := 79) g dX3_readHouse_79 rfl (Or.inr rfl) (fun _ h => h)
theorem T_HouseReader_readHouse {l : Launch} {G : xG} {E : xE} (hW : WC G) (g : xGood E l G.1 RX3 cX3_readHouse yX3_readHouse 4 (some .boolean) rm_HouseReader_readHouse) (m : xMem) (p1 : Nat) (hp1 : isHouse p1) : X E G (fun r : Int32 × xMem => (some (Value.int r.1), r.2)) 0 [(0, .ref (xad G 3)), (1, .ref (xad G p1))] [] m (HouseReader_readHouse m p1) := by
  unfold HouseReader_readHouse
  refine x_aload_n (pc := 0) (i := 1) (a := 1) g dX3_readHouse_0 rfl rfl ?_
  refine x_getI (pc := 1) g hW dX3_readHouse_1 fl_3_58 (sHouse hp1) rfl ?_
  refine x_if_ne (pc := 4) (t := 21) g dX3_readHouse_4 (by decide) ?_ ?_
  · refine x_aload_n (pc := 7) (i := 1) (a := 1) g dX3_readHouse_7 rfl rfl ?_
    refine x_getI (pc := 8) g hW dX3_readHouse_8 fl_3_62 (sHouse hp1) rfl ?_
    refine x_if_gt (pc := 11) (t := 21) g dX3_readHouse_11 (by decide) ?_ ?_
    · exact x_sub [0] (T_HouseReader_readHouse_b21 hW g p1 hp1 m) rfl
    · refine x_aload_n (pc := 14) (i := 1) (a := 1) g dX3_readHouse_14 rfl rfl ?_
      refine x_getI (pc := 15) g hW dX3_readHouse_15 fl_3_65 (sHouse hp1) rfl ?_
      refine x_if_le (pc := 18) (t := 27) g dX3_readHouse_18 (by decide) ?_ ?_
      · exact x_sub [0] (T_HouseReader_readHouse_b21 hW g p1 hp1 m) rfl
      · refine x_aload_n (pc := 27) (i := 0) (a := 0) g dX3_readHouse_27 rfl rfl ?_
        refine x_Vv (pc := 28) g hW [] [] (c_Tokens_advance l G hW m) dX3_readHouse_28 ml_3_68 (sTokens isTokens_3) rfl rfl (Nat.le_of_ble_eq_true rfl) ⟨rfl, rfl, Nat.le_of_ble_eq_true rfl, Nat.le_of_ble_eq_true rfl⟩ (fun r1 hr1 => ?_)
        refine x_aload_n (pc := 31) (i := 0) (a := 0) g dX3_readHouse_31 rfl rfl ?_
        refine x_iconst (pc := 32) g dX3_readHouse_32 ic_2 ?_
        refine x_bipush (pc := 33) g dX3_readHouse_33 bi_9 ?_
        refine x_Vim (pc := 35) g hW [.int 2, .int 9] [] (c_Tokens_takeNumber l G hW r1 2 9) dX3_readHouse_35 ml_3_71 (sTokens isTokens_3) rfl rfl (Nat.le_of_ble_eq_true rfl) ⟨rfl, rfl, Nat.le_of_ble_eq_true rfl, Nat.le_of_ble_eq_true rfl⟩ (fun r2 hr2 => ?_)
        refine x_istore_n (pc := 38) (i := 2) (lv' := [(2, .int r2.1), (0, .ref (xad G 3)), (1, .ref (xad G p1))]) g dX3_readHouse_38 rfl (by decide) rfl ?_
        refine x_iload_n (pc := 39) (i := 2) (a := 0) g dX3_readHouse_39 rfl rfl ?_
        refine x_iconst (pc := 40) g dX3_readHouse_40 ic_m1 ?_
        refine x_icmp_ne (pc := 41) (t := 48) g dX3_readHouse_41 (by decide) ?_ ?_
        · refine x_iconst (pc := 44) g dX3_readHouse_44 ic_m1 ?_
          refine x_goto (pc := 45) (t := 55) g dX3_readHouse_45 (by decide) ?_
          exact x_sub [2, 0] (T_HouseReader_readHouse_b55 hW g p1 hp1 r2.1 ((-1)) r2.2) rfl
        · refine x_aload_n (pc := 48) (i := 0) (a := 1) g dX3_readHouse_48 rfl rfl ?_
          refine x_iconst (pc := 49) g dX3_readHouse_49 ic_2 ?_
          refine x_bipush (pc := 50) g dX3_readHouse_50 bi_9 ?_
          refine x_Vim (pc := 52) g hW [.int 2, .int 9] [] (c_Tokens_takeNumber l G hW r2.2 2 9) dX3_readHouse_52 ml_3_71 (sTokens isTokens_3) rfl rfl (Nat.le_of_ble_eq_true rfl) ⟨rfl, rfl, Nat.le_of_ble_eq_true rfl, Nat.le_of_ble_eq_true rfl⟩ (fun r3 hr3 => ?_)
          exact x_sub [2, 0] (T_HouseReader_readHouse_b55 hW g p1 hp1 r2.1 r3.1 r3.2) rfl
  · exact x_sub [0] (T_HouseReader_readHouse_b21 hW g p1 hp1 m) rfl
theorem c_HouseReader_readHouse (l : Launch) (G : xG) (hW : WC G) (m : xMem) (p1 : Nat) (hp1 : isHouse p1) : xCim l G yX3_readHouse cX3_readHouse 4 (some .boolean) rm_HouseReader_readHouse [.ref (xad G 3), .ref (xad G p1)] m (HouseReader_readHouse m p1) :=
  xCt_of (own := RX3) (by decide) rfl (Nat.le_of_ble_eq_true rfl) rfl ⟨rfl, rfl⟩ (fun E g => T_HouseReader_readHouse hW g m p1 hp1)
theorem T_HouseReader_readBed_b73 {l : Launch} {G : xG} {E : xE} (hW : WC G) (g : xGood E l G.1 RX3 cX3_readBed yX3_readBed 7 (some .boolean) rm_HouseReader_readBed) (p1 : Nat) (hp1 : isHouse p1) (v2 : Int32) (v3 : Int64) (v5 : Int32) (s0 : Int32) (m : xMem) : X E G (fun r : Int32 × xMem => (some (Value.int r.1), r.2)) 73 [(0, .ref (xad G 3)), (1, .ref (xad G p1)), (2, .int v2), (3, .long v3), (5, .int v5)] [.int s0] m (HouseReader_readBed_b73 p1 v2 v3 v5 s0 m) := by
  unfold HouseReader_readBed_b73
  refine x_istore (pc := 73) (lv' := [(6, .int s0), (0, .ref (xad G 3)), (1, .ref (xad G p1)), (2, .int v2), (3, .long v3), (5, .int v5)]) g dX3_readBed_73 (by decide) rfl ?_
  refine x_iload (pc := 75) (a := 0) g dX3_readBed_75 rfl ?_
  refine x_iconst (pc := 77) g dX3_readBed_77 ic_m1 ?_
  refine x_icmp_ne (pc := 78) (t := 83) g dX3_readBed_78 (by decide) ?_ ?_
  · refine x_iconst (pc := 81) g dX3_readBed_81 ic_0 ?_
    exact x_zretc (pc := 82) g dX3_readBed_82 rfl (Or.inl rfl) (fun _ h => h)
  · refine x_aload_n (pc := 83) (i := 1) (a := 2) g dX3_readBed_83 rfl rfl ?_
    refine x_iload (pc := 84) (a := 5) g dX3_readBed_84 rfl ?_
    refine x_iload (pc := 86) (a := 0) g dX3_readBed_86 rfl ?_
    refine x_Vi (pc := 88) g hW [.int v5, .int s0] [] (c_House_hasBedIn l G hW m p1 v5 s0 hp1) dX3_readBed_88 ml_3_87 (sHouse hp1) rfl rfl (Nat.le_of_ble_eq_true rfl) ⟨rfl, rfl, Nat.le_of_ble_eq_true rfl, Nat.le_of_ble_eq_true rfl⟩ (fun r7 hr7 => ?_)
    refine x_if_eq (pc := 91) (t := 100) g dX3_readBed_91 (by decide) ?_ ?_
    · refine x_aload_n (pc := 100) (i := 1) (a := 2) g dX3_readBed_100 rfl rfl ?_
      refine x_getR (pc := 101) (x := p1 + 1) g hW dX3_readBed_101 fl_3_94 (sHouse hp1) rfl ?_
      refine x_iload_n (pc := 104) (i := 2) (a := 3) g dX3_readBed_104 rfl rfl ?_
      refine x_lload_n (pc := 105) (i := 3) (a := 4) g dX3_readBed_105 rfl rfl ?_
      refine x_last (pc := 106) g hW dX3_readBed_106 (sHouse_bedName hp1) (fun j9 hj9 m8 => ?_)
      refine x_aload_n (pc := 107) (i := 1) (a := 2) g dX3_readBed_107 rfl rfl ?_
      refine x_getR (pc := 108) (x := p1 + 4) g hW dX3_readBed_108 fl_3_98 (sHouse hp1) rfl ?_
      refine x_iload_n (pc := 111) (i := 2) (a := 3) g dX3_readBed_111 rfl rfl ?_
      refine x_aald4 (pc := 112) (r := fun j => p1 + 5 + j) g hW dX3_readBed_112 (sHouse_bedRow hp1) (fun j h => rowsL_get h) (fun j10 hj10 => ?_)
      refine x_iconst (pc := 113) g dX3_readBed_113 ic_0 ?_
      refine x_iload (pc := 114) (a := 5) g dX3_readBed_114 rfl ?_
      refine x_iastc (pc := 116) g hW dX3_readBed_116 (sHouse_bedRowR hp1 hj10) ix_0_3 (fun m11 => ?_)
      refine x_aload_n (pc := 117) (i := 1) (a := 2) g dX3_readBed_117 rfl rfl ?_
      refine x_getR (pc := 118) (x := p1 + 4) g hW dX3_readBed_118 fl_3_98 (sHouse hp1) rfl ?_
      refine x_iload_n (pc := 121) (i := 2) (a := 3) g dX3_readBed_121 rfl rfl ?_
      refine x_aald4 (pc := 122) (r := fun j => p1 + 5 + j) g hW dX3_readBed_122 (sHouse_bedRow hp1) (fun j h => rowsL_get h) (fun j12 hj12 => ?_)
      refine x_iconst (pc := 123) g dX3_readBed_123 ic_1 ?_
      refine x_iload (pc := 124) (a := 0) g dX3_readBed_124 rfl ?_
      refine x_iastc (pc := 126) g hW dX3_readBed_126 (sHouse_bedRowR hp1 hj12) ix_1_3 (fun m13 => ?_)
      refine x_aload_n (pc := 127) (i := 1) (a := 2) g dX3_readBed_127 rfl rfl ?_
      refine x_getR (pc := 128) (x := p1 + 4) g hW dX3_readBed_128 fl_3_98 (sHouse hp1) rfl ?_
      refine x_iload_n (pc := 131) (i := 2) (a := 3) g dX3_readBed_131 rfl rfl ?_
      refine x_aald4 (pc := 132) (r := fun j => p1 + 5 + j) g hW dX3_readBed_132 (sHouse_bedRow hp1) (fun j h => rowsL_get h) (fun j14 hj14 => ?_)
      refine x_iconst (pc := 133) g dX3_readBed_133 ic_2 ?_
      refine x_iconst (pc := 134) g dX3_readBed_134 ic_m1 ?_
      refine x_iastc (pc := 135) g hW dX3_readBed_135 (sHouse_bedRowR hp1 hj14) ix_2_3 (fun m15 => ?_)
      refine x_aload_n (pc := 136) (i := 1) (a := 2) g dX3_readBed_136 rfl rfl ?_
      refine x_iload_n (pc := 137) (i := 2) (a := 3) g dX3_readBed_137 rfl rfl ?_
      refine x_iconst (pc := 138) g dX3_readBed_138 ic_1 ?_
      refine x_iadd (pc := 139) g dX3_readBed_139 ?_
      refine x_putI (pc := 140) g hW dX3_readBed_140 fl_3_62 ft_2_6 (sHouse hp1) rfl (fun m16 => ?_)
      refine x_iconst (pc := 143) g dX3_readBed_143 ic_1 ?_
      exact x_zretc (pc := 144) g dX3_readBed_144 rfl (Or.inr rfl) (fun _ h => h)
    · refine x_aload_n (pc := 94) (i := 0) (a := 1) g dX3_readBed_94 rfl rfl ?_
      refine x_iconst (pc := 95) g dX3_readBed_95 ic_3 ?_
      refine x_Vim (pc := 96) g hW [.int 3] [] (c_Tokens_failBehind l G hW m 3) dX3_readBed_96 ml_3_91 (sTokens isTokens_3) rfl rfl (Nat.le_of_ble_eq_true rfl) ⟨rfl, rfl, Nat.le_of_ble_eq_true rfl, Nat.le_of_ble_eq_true rfl⟩ (fun r17 hr17 => ?_)
      exact x_zret (pc := 99) g dX3_readBed_99 rfl (fun _ _ h => h)
theorem T_HouseReader_readBed_b50 {l : Launch} {G : xG} {E : xE} (hW : WC G) (g : xGood E l G.1 RX3 cX3_readBed yX3_readBed 7 (some .boolean) rm_HouseReader_readBed) (p1 : Nat) (hp1 : isHouse p1) (v2 : Int32) (v3 : Int64) (s0 : Int32) (m : xMem) : X E G (fun r : Int32 × xMem => (some (Value.int r.1), r.2)) 50 [(0, .ref (xad G 3)), (1, .ref (xad G p1)), (2, .int v2), (3, .long v3)] [.int s0] m (HouseReader_readBed_b50 p1 v2 v3 s0 m) := by
  unfold HouseReader_readBed_b50
  refine x_istore (pc := 50) (lv' := [(5, .int s0), (0, .ref (xad G 3)), (1, .ref (xad G p1)), (2, .int v2), (3, .long v3)]) g dX3_readBed_50 (by decide) rfl ?_
  refine x_iload (pc := 52) (a := 0) g dX3_readBed_52 rfl ?_
  refine x_iconst (pc := 54) g dX3_readBed_54 ic_m1 ?_
  refine x_icmp_ne (pc := 55) (t := 62) g dX3_readBed_55 (by decide) ?_ ?_
  · refine x_iconst (pc := 58) g dX3_readBed_58 ic_m1 ?_
    refine x_goto (pc := 59) (t := 73) g dX3_readBed_59 (by decide) ?_
    exact x_sub [1, 2, 3, 4, 0] (T_HouseReader_readBed_b73 hW g p1 hp1 v2 v3 s0 ((-1)) m) rfl
  · refine x_aload_n (pc := 62) (i := 0) (a := 1) g dX3_readBed_62 rfl rfl ?_
    refine x_iconst (pc := 63) g dX3_readBed_63 ic_0 ?_
    refine x_aload_n (pc := 64) (i := 1) (a := 2) g dX3_readBed_64 rfl rfl ?_
    refine x_getI (pc := 65) g hW dX3_readBed_65 fl_3_78 (sHouse hp1) rfl ?_
    refine x_iconst (pc := 68) g dX3_readBed_68 ic_1 ?_
    refine x_isub (pc := 69) g dX3_readBed_69 ?_
    refine x_Vim (pc := 70) g hW [.int 0, .int ((m.1 p1 1) - 1)] [] (c_Tokens_takeNumber l G hW m 0 ((m.1 p1 1) - 1)) dX3_readBed_70 ml_3_71 (sTokens isTokens_3) rfl rfl (Nat.le_of_ble_eq_true rfl) ⟨rfl, rfl, Nat.le_of_ble_eq_true rfl, Nat.le_of_ble_eq_true rfl⟩ (fun r6 hr6 => ?_)
    exact x_sub [1, 2, 3, 4, 0] (T_HouseReader_readBed_b73 hW g p1 hp1 v2 v3 s0 r6.1 r6.2) rfl
theorem T_HouseReader_readBed {l : Launch} {G : xG} {E : xE} (hW : WC G) (g : xGood E l G.1 RX3 cX3_readBed yX3_readBed 7 (some .boolean) rm_HouseReader_readBed) (m : xMem) (p1 : Nat) (hp1 : isHouse p1) : X E G (fun r : Int32 × xMem => (some (Value.int r.1), r.2)) 0 [(0, .ref (xad G 3)), (1, .ref (xad G p1))] [] m (HouseReader_readBed m p1) := by
  unfold HouseReader_readBed
  refine x_aload_n (pc := 0) (i := 1) (a := 1) g dX3_readBed_0 rfl rfl ?_
  refine x_getI (pc := 1) g hW dX3_readBed_1 fl_3_62 (sHouse hp1) rfl ?_
  refine x_nmI (fun x1 => ?_)
  refine x_istore_n (pc := 4) (i := 2) (lv' := [(2, .int x1), (0, .ref (xad G 3)), (1, .ref (xad G p1))]) g dX3_readBed_4 rfl (by decide) rfl ?_
  refine x_iload_n (pc := 5) (i := 2) (a := 0) g dX3_readBed_5 rfl rfl ?_
  refine x_bipush (pc := 6) g dX3_readBed_6 bi_6 ?_
  refine x_icmp_lt (pc := 8) (t := 17) g dX3_readBed_8 (by decide) ?_ ?_
  · refine x_aload_n (pc := 17) (i := 0) (a := 1) g dX3_readBed_17 rfl rfl ?_
    refine x_Vv (pc := 18) g hW [] [] (c_Tokens_advance l G hW m) dX3_readBed_18 ml_3_68 (sTokens isTokens_3) rfl rfl (Nat.le_of_ble_eq_true rfl) ⟨rfl, rfl, Nat.le_of_ble_eq_true rfl, Nat.le_of_ble_eq_true rfl⟩ (fun r2 hr2 => ?_)
    refine x_aload_n (pc := 21) (i := 0) (a := 1) g dX3_readBed_21 rfl rfl ?_
    refine x_aload_n (pc := 22) (i := 1) (a := 2) g dX3_readBed_22 rfl rfl ?_
    refine x_Vlm (pc := 23) g hW [.ref (xad G p1)] [] (c_Tokens_takeNewName l G hW r2 p1 hp1) dX3_readBed_23 ml_3_81 (sTokens isTokens_3) rfl rfl (Nat.le_of_ble_eq_true rfl) ⟨rfl, rfl, Nat.le_of_ble_eq_true rfl, Nat.le_of_ble_eq_true rfl⟩ (fun r3 hr3 => ?_)
    refine x_lstore_n (pc := 26) (i := 3) (lv' := [(3, .long r3.1), (2, .int x1), (0, .ref (xad G 3)), (1, .ref (xad G p1))]) g dX3_readBed_26 rfl (by decide) rfl ?_
    refine x_lload_n (pc := 27) (i := 3) (a := 0) g dX3_readBed_27 rfl rfl ?_
    refine x_ldc2 (pc := 28) g dX3_readBed_28 kc_3_85 ?_
    refine x_lcmp (pc := 31) g dX3_readBed_31 ?_
    refine x_if_ne (pc := 32) (t := 39) g dX3_readBed_32 (by decide) ?_ ?_
    · refine x_iconst (pc := 35) g dX3_readBed_35 ic_m1 ?_
      refine x_goto (pc := 36) (t := 50) g dX3_readBed_36 (by decide) ?_
      exact x_sub [2, 3, 1, 0] (T_HouseReader_readBed_b50 hW g p1 hp1 x1 r3.1 ((-1)) r3.2) rfl
    · refine x_aload_n (pc := 39) (i := 0) (a := 2) g dX3_readBed_39 rfl rfl ?_
      refine x_iconst (pc := 40) g dX3_readBed_40 ic_0 ?_
      refine x_aload_n (pc := 41) (i := 1) (a := 3) g dX3_readBed_41 rfl rfl ?_
      refine x_getI (pc := 42) g hW dX3_readBed_42 fl_3_75 (sHouse hp1) rfl ?_
      refine x_iconst (pc := 45) g dX3_readBed_45 ic_1 ?_
      refine x_isub (pc := 46) g dX3_readBed_46 ?_
      refine x_Vim (pc := 47) g hW [.int 0, .int ((r3.2.1 p1 0) - 1)] [] (c_Tokens_takeNumber l G hW r3.2 0 ((r3.2.1 p1 0) - 1)) dX3_readBed_47 ml_3_71 (sTokens isTokens_3) rfl rfl (Nat.le_of_ble_eq_true rfl) ⟨rfl, rfl, Nat.le_of_ble_eq_true rfl, Nat.le_of_ble_eq_true rfl⟩ (fun r4 hr4 => ?_)
      exact x_sub [2, 3, 1, 0] (T_HouseReader_readBed_b50 hW g p1 hp1 x1 r3.1 r4.1 r4.2) rfl
  · refine x_aload_n (pc := 11) (i := 0) (a := 1) g dX3_readBed_11 rfl rfl ?_
    refine x_iconst (pc := 12) g dX3_readBed_12 ic_4 ?_
    refine x_Vim (pc := 13) g hW [.int 4] [] (c_Tokens_fail l G hW m 4) dX3_readBed_13 ml_3_50 (sTokens isTokens_3) rfl rfl (Nat.le_of_ble_eq_true rfl) ⟨rfl, rfl, Nat.le_of_ble_eq_true rfl, Nat.le_of_ble_eq_true rfl⟩ (fun r5 hr5 => ?_)
    exact x_zret (pc := 16) g dX3_readBed_16 rfl (fun _ _ h => h)
theorem c_HouseReader_readBed (l : Launch) (G : xG) (hW : WC G) (m : xMem) (p1 : Nat) (hp1 : isHouse p1) : xCim l G yX3_readBed cX3_readBed 7 (some .boolean) rm_HouseReader_readBed [.ref (xad G 3), .ref (xad G p1)] m (HouseReader_readBed m p1) :=
  xCt_of (own := RX3) (by decide) rfl (Nat.le_of_ble_eq_true rfl) rfl ⟨rfl, rfl⟩ (fun E g => T_HouseReader_readBed hW g m p1 hp1)
theorem T_HouseReader_readOwl_b51 {l : Launch} {G : xG} {E : xE} (hW : WC G) (g : xGood E l G.1 RX3 cX3_readOwl yX3_readOwl 7 (some .boolean) rm_HouseReader_readOwl) (p1 : Nat) (hp1 : isHouse p1) (v2 : Int32) (v3 : Int64) (s0 : Int32) (m : xMem) : X E G (fun r : Int32 × xMem => (some (Value.int r.1), r.2)) 51 [(0, .ref (xad G 3)), (1, .ref (xad G p1)), (2, .int v2), (3, .long v3)] [.int s0] m (HouseReader_readOwl_b51 p1 v2 v3 s0 m) := by
  unfold HouseReader_readOwl_b51
  refine x_istore (pc := 51) (lv' := [(5, .int s0), (0, .ref (xad G 3)), (1, .ref (xad G p1)), (2, .int v2), (3, .long v3)]) g dX3_readOwl_51 (by decide) rfl ?_
  refine x_iload (pc := 53) (a := 0) g dX3_readOwl_53 rfl ?_
  refine x_iconst (pc := 55) g dX3_readOwl_55 ic_m1 ?_
  refine x_icmp_ne (pc := 56) (t := 61) g dX3_readOwl_56 (by decide) ?_ ?_
  · refine x_iconst (pc := 59) g dX3_readOwl_59 ic_0 ?_
    exact x_zretc (pc := 60) g dX3_readOwl_60 rfl (Or.inl rfl) (fun _ h => h)
  · refine x_aload_n (pc := 61) (i := 1) (a := 2) g dX3_readOwl_61 rfl rfl ?_
    refine x_iload (pc := 62) (a := 0) g dX3_readOwl_62 rfl ?_
    refine x_Vi (pc := 64) g hW [.int s0] [] (c_House_hasOwlBy l G hW m p1 s0 hp1) dX3_readOwl_64 ml_3_109 (sHouse hp1) rfl rfl (Nat.le_of_ble_eq_true rfl) ⟨rfl, rfl, Nat.le_of_ble_eq_true rfl, Nat.le_of_ble_eq_true rfl⟩ (fun r6 hr6 => ?_)
    refine x_if_eq (pc := 67) (t := 76) g dX3_readOwl_67 (by decide) ?_ ?_
    · refine x_aload_n (pc := 76) (i := 0) (a := 1) g dX3_readOwl_76 rfl rfl ?_
      refine x_iconst (pc := 77) g dX3_readOwl_77 ic_1 ?_
      refine x_bipush (pc := 78) g dX3_readOwl_78 bi_20 ?_
      refine x_Vim (pc := 80) g hW [.int 1, .int 20] [] (c_Tokens_takeNumber l G hW m 1 20) dX3_readOwl_80 ml_3_71 (sTokens isTokens_3) rfl rfl (Nat.le_of_ble_eq_true rfl) ⟨rfl, rfl, Nat.le_of_ble_eq_true rfl, Nat.le_of_ble_eq_true rfl⟩ (fun r7 hr7 => ?_)
      refine x_istore (pc := 83) (lv' := [(6, .int r7.1), (5, .int s0), (0, .ref (xad G 3)), (1, .ref (xad G p1)), (2, .int v2), (3, .long v3)]) g dX3_readOwl_83 (by decide) rfl ?_
      refine x_iload (pc := 85) (a := 0) g dX3_readOwl_85 rfl ?_
      refine x_iconst (pc := 87) g dX3_readOwl_87 ic_m1 ?_
      refine x_icmp_ne (pc := 88) (t := 93) g dX3_readOwl_88 (by decide) ?_ ?_
      · refine x_iconst (pc := 91) g dX3_readOwl_91 ic_0 ?_
        exact x_zretc (pc := 92) g dX3_readOwl_92 rfl (Or.inl rfl) (fun _ h => h)
      · refine x_aload_n (pc := 93) (i := 1) (a := 3) g dX3_readOwl_93 rfl rfl ?_
        refine x_getR (pc := 94) (x := p1 + 2) g hW dX3_readOwl_94 fl_3_112 (sHouse hp1) rfl ?_
        refine x_iload_n (pc := 97) (i := 2) (a := 4) g dX3_readOwl_97 rfl rfl ?_
        refine x_lload_n (pc := 98) (i := 3) (a := 5) g dX3_readOwl_98 rfl rfl ?_
        refine x_last (pc := 99) g hW dX3_readOwl_99 (sHouse_owlName hp1) (fun j9 hj9 m8 => ?_)
        refine x_aload_n (pc := 100) (i := 1) (a := 3) g dX3_readOwl_100 rfl rfl ?_
        refine x_getR (pc := 101) (x := p1 + 11) g hW dX3_readOwl_101 fl_3_115 (sHouse hp1) rfl ?_
        refine x_iload_n (pc := 104) (i := 2) (a := 4) g dX3_readOwl_104 rfl rfl ?_
        refine x_aald4 (pc := 105) (r := fun j => p1 + 12 + j) g hW dX3_readOwl_105 (sHouse_owlRow hp1) (fun j h => rowsL_get h) (fun j10 hj10 => ?_)
        refine x_iconst (pc := 106) g dX3_readOwl_106 ic_0 ?_
        refine x_iload (pc := 107) (a := 1) g dX3_readOwl_107 rfl ?_
        refine x_iastc (pc := 109) g hW dX3_readOwl_109 (sHouse_owlRowR hp1 hj10) ix_0_4 (fun m11 => ?_)
        refine x_aload_n (pc := 110) (i := 1) (a := 3) g dX3_readOwl_110 rfl rfl ?_
        refine x_getR (pc := 111) (x := p1 + 11) g hW dX3_readOwl_111 fl_3_115 (sHouse hp1) rfl ?_
        refine x_iload_n (pc := 114) (i := 2) (a := 4) g dX3_readOwl_114 rfl rfl ?_
        refine x_aald4 (pc := 115) (r := fun j => p1 + 12 + j) g hW dX3_readOwl_115 (sHouse_owlRow hp1) (fun j h => rowsL_get h) (fun j12 hj12 => ?_)
        refine x_iconst (pc := 116) g dX3_readOwl_116 ic_1 ?_
        refine x_iload (pc := 117) (a := 0) g dX3_readOwl_117 rfl ?_
        refine x_iastc (pc := 119) g hW dX3_readOwl_119 (sHouse_owlRowR hp1 hj12) ix_1_4 (fun m13 => ?_)
        refine x_aload_n (pc := 120) (i := 1) (a := 3) g dX3_readOwl_120 rfl rfl ?_
        refine x_getR (pc := 121) (x := p1 + 11) g hW dX3_readOwl_121 fl_3_115 (sHouse hp1) rfl ?_
        refine x_iload_n (pc := 124) (i := 2) (a := 4) g dX3_readOwl_124 rfl rfl ?_
        refine x_aald4 (pc := 125) (r := fun j => p1 + 12 + j) g hW dX3_readOwl_125 (sHouse_owlRow hp1) (fun j h => rowsL_get h) (fun j14 hj14 => ?_)
        refine x_iconst (pc := 126) g dX3_readOwl_126 ic_2 ?_
        refine x_iconst (pc := 127) g dX3_readOwl_127 ic_m1 ?_
        refine x_iastc (pc := 128) g hW dX3_readOwl_128 (sHouse_owlRowR hp1 hj14) ix_2_4 (fun m15 => ?_)
        refine x_aload_n (pc := 129) (i := 1) (a := 3) g dX3_readOwl_129 rfl rfl ?_
        refine x_getR (pc := 130) (x := p1 + 11) g hW dX3_readOwl_130 fl_3_115 (sHouse hp1) rfl ?_
        refine x_iload_n (pc := 133) (i := 2) (a := 4) g dX3_readOwl_133 rfl rfl ?_
        refine x_aald4 (pc := 134) (r := fun j => p1 + 12 + j) g hW dX3_readOwl_134 (sHouse_owlRow hp1) (fun j h => rowsL_get h) (fun j16 hj16 => ?_)
        refine x_iconst (pc := 135) g dX3_readOwl_135 ic_3 ?_
        refine x_iconst (pc := 136) g dX3_readOwl_136 ic_0 ?_
        refine x_iastc (pc := 137) g hW dX3_readOwl_137 (sHouse_owlRowR hp1 hj16) ix_3_4 (fun m17 => ?_)
        refine x_aload_n (pc := 138) (i := 1) (a := 3) g dX3_readOwl_138 rfl rfl ?_
        refine x_iload_n (pc := 139) (i := 2) (a := 4) g dX3_readOwl_139 rfl rfl ?_
        refine x_iconst (pc := 140) g dX3_readOwl_140 ic_1 ?_
        refine x_iadd (pc := 141) g dX3_readOwl_141 ?_
        refine x_putI (pc := 142) g hW dX3_readOwl_142 fl_3_102 ft_2_7 (sHouse hp1) rfl (fun m18 => ?_)
        refine x_iconst (pc := 145) g dX3_readOwl_145 ic_1 ?_
        exact x_zretc (pc := 146) g dX3_readOwl_146 rfl (Or.inr rfl) (fun _ h => h)
    · refine x_aload_n (pc := 70) (i := 0) (a := 1) g dX3_readOwl_70 rfl rfl ?_
      refine x_iconst (pc := 71) g dX3_readOwl_71 ic_3 ?_
      refine x_Vim (pc := 72) g hW [.int 3] [] (c_Tokens_failBehind l G hW m 3) dX3_readOwl_72 ml_3_91 (sTokens isTokens_3) rfl rfl (Nat.le_of_ble_eq_true rfl) ⟨rfl, rfl, Nat.le_of_ble_eq_true rfl, Nat.le_of_ble_eq_true rfl⟩ (fun r19 hr19 => ?_)
      exact x_zret (pc := 75) g dX3_readOwl_75 rfl (fun _ _ h => h)
theorem T_HouseReader_readOwl {l : Launch} {G : xG} {E : xE} (hW : WC G) (g : xGood E l G.1 RX3 cX3_readOwl yX3_readOwl 7 (some .boolean) rm_HouseReader_readOwl) (m : xMem) (p1 : Nat) (hp1 : isHouse p1) : X E G (fun r : Int32 × xMem => (some (Value.int r.1), r.2)) 0 [(0, .ref (xad G 3)), (1, .ref (xad G p1))] [] m (HouseReader_readOwl m p1) := by
  unfold HouseReader_readOwl
  refine x_aload_n (pc := 0) (i := 1) (a := 1) g dX3_readOwl_0 rfl rfl ?_
  refine x_getI (pc := 1) g hW dX3_readOwl_1 fl_3_102 (sHouse hp1) rfl ?_
  refine x_nmI (fun x1 => ?_)
  refine x_istore_n (pc := 4) (i := 2) (lv' := [(2, .int x1), (0, .ref (xad G 3)), (1, .ref (xad G p1))]) g dX3_readOwl_4 rfl (by decide) rfl ?_
  refine x_iload_n (pc := 5) (i := 2) (a := 0) g dX3_readOwl_5 rfl rfl ?_
  refine x_bipush (pc := 6) g dX3_readOwl_6 bi_6 ?_
  refine x_icmp_lt (pc := 8) (t := 17) g dX3_readOwl_8 (by decide) ?_ ?_
  · refine x_aload_n (pc := 17) (i := 0) (a := 1) g dX3_readOwl_17 rfl rfl ?_
    refine x_Vv (pc := 18) g hW [] [] (c_Tokens_advance l G hW m) dX3_readOwl_18 ml_3_68 (sTokens isTokens_3) rfl rfl (Nat.le_of_ble_eq_true rfl) ⟨rfl, rfl, Nat.le_of_ble_eq_true rfl, Nat.le_of_ble_eq_true rfl⟩ (fun r2 hr2 => ?_)
    refine x_aload_n (pc := 21) (i := 0) (a := 1) g dX3_readOwl_21 rfl rfl ?_
    refine x_aload_n (pc := 22) (i := 1) (a := 2) g dX3_readOwl_22 rfl rfl ?_
    refine x_Vlm (pc := 23) g hW [.ref (xad G p1)] [] (c_Tokens_takeNewName l G hW r2 p1 hp1) dX3_readOwl_23 ml_3_81 (sTokens isTokens_3) rfl rfl (Nat.le_of_ble_eq_true rfl) ⟨rfl, rfl, Nat.le_of_ble_eq_true rfl, Nat.le_of_ble_eq_true rfl⟩ (fun r3 hr3 => ?_)
    refine x_lstore_n (pc := 26) (i := 3) (lv' := [(3, .long r3.1), (2, .int x1), (0, .ref (xad G 3)), (1, .ref (xad G p1))]) g dX3_readOwl_26 rfl (by decide) rfl ?_
    refine x_lload_n (pc := 27) (i := 3) (a := 0) g dX3_readOwl_27 rfl rfl ?_
    refine x_ldc2 (pc := 28) g dX3_readOwl_28 kc_3_85 ?_
    refine x_lcmp (pc := 31) g dX3_readOwl_31 ?_
    refine x_if_ne (pc := 32) (t := 39) g dX3_readOwl_32 (by decide) ?_ ?_
    · refine x_iconst (pc := 35) g dX3_readOwl_35 ic_m1 ?_
      refine x_goto (pc := 36) (t := 51) g dX3_readOwl_36 (by decide) ?_
      exact x_sub [2, 3, 1, 0] (T_HouseReader_readOwl_b51 hW g p1 hp1 x1 r3.1 ((-1)) r3.2) rfl
    · refine x_aload_n (pc := 39) (i := 0) (a := 2) g dX3_readOwl_39 rfl rfl ?_
      refine x_aload_n (pc := 40) (i := 1) (a := 3) g dX3_readOwl_40 rfl rfl ?_
      refine x_getR (pc := 41) (x := p1 + 1) g hW dX3_readOwl_41 fl_3_94 (sHouse hp1) rfl ?_
      refine x_aload_n (pc := 44) (i := 1) (a := 3) g dX3_readOwl_44 rfl rfl ?_
      refine x_getI (pc := 45) g hW dX3_readOwl_45 fl_3_62 (sHouse hp1) rfl ?_
      refine x_Vim (pc := 48) g hW [.ref (xad G (p1 + 1)), .int (r3.2.1 p1 6)] [] (c_Tokens_takeKnown l G hW r3.2 (p1 + 1) 6 (r3.2.1 p1 6) (sHouse_bedName hp1)) dX3_readOwl_48 ml_3_105 (sTokens isTokens_3) rfl rfl (Nat.le_of_ble_eq_true rfl) ⟨rfl, rfl, Nat.le_of_ble_eq_true rfl, Nat.le_of_ble_eq_true rfl⟩ (fun r4 hr4 => ?_)
      exact x_sub [2, 3, 1, 0] (T_HouseReader_readOwl_b51 hW g p1 hp1 x1 r3.1 r4.1 r4.2) rfl
  · refine x_aload_n (pc := 11) (i := 0) (a := 1) g dX3_readOwl_11 rfl rfl ?_
    refine x_iconst (pc := 12) g dX3_readOwl_12 ic_4 ?_
    refine x_Vim (pc := 13) g hW [.int 4] [] (c_Tokens_fail l G hW m 4) dX3_readOwl_13 ml_3_50 (sTokens isTokens_3) rfl rfl (Nat.le_of_ble_eq_true rfl) ⟨rfl, rfl, Nat.le_of_ble_eq_true rfl, Nat.le_of_ble_eq_true rfl⟩ (fun r5 hr5 => ?_)
    exact x_zret (pc := 16) g dX3_readOwl_16 rfl (fun _ _ h => h)
theorem c_HouseReader_readOwl (l : Launch) (G : xG) (hW : WC G) (m : xMem) (p1 : Nat) (hp1 : isHouse p1) : xCim l G yX3_readOwl cX3_readOwl 7 (some .boolean) rm_HouseReader_readOwl [.ref (xad G 3), .ref (xad G p1)] m (HouseReader_readOwl m p1) :=
  xCt_of (own := RX3) (by decide) rfl (Nat.le_of_ble_eq_true rfl) rfl ⟨rfl, rfl⟩ (fun E g => T_HouseReader_readOwl hW g m p1 hp1)
theorem T_HouseReader_readBad {l : Launch} {G : xG} {E : xE} (hW : WC G) (g : xGood E l G.1 RX3 cX3_readBad yX3_readBad 3 (some .boolean) rm_HouseReader_readBad) (m : xMem) (p1 : Nat) (hp1 : isHouse p1) : X E G (fun r : Int32 × xMem => (some (Value.int r.1), r.2)) 0 [(0, .ref (xad G 3)), (1, .ref (xad G p1))] [] m (HouseReader_readBad m p1) := by
  unfold HouseReader_readBad
  refine x_aload_n (pc := 0) (i := 0) (a := 0) g dX3_readBad_0 rfl rfl ?_
  refine x_Vv (pc := 1) g hW [] [] (c_Tokens_advance l G hW m) dX3_readBad_1 ml_3_68 (sTokens isTokens_3) rfl rfl (Nat.le_of_ble_eq_true rfl) ⟨rfl, rfl, Nat.le_of_ble_eq_true rfl, Nat.le_of_ble_eq_true rfl⟩ (fun r1 hr1 => ?_)
  refine x_aload_n (pc := 4) (i := 0) (a := 0) g dX3_readBad_4 rfl rfl ?_
  refine x_aload_n (pc := 5) (i := 1) (a := 1) g dX3_readBad_5 rfl rfl ?_
  refine x_getR (pc := 6) (x := p1 + 2) g hW dX3_readBad_6 fl_3_112 (sHouse hp1) rfl ?_
  refine x_aload_n (pc := 9) (i := 1) (a := 1) g dX3_readBad_9 rfl rfl ?_
  refine x_getI (pc := 10) g hW dX3_readBad_10 fl_3_102 (sHouse hp1) rfl ?_
  refine x_Vim (pc := 13) g hW [.ref (xad G (p1 + 2)), .int (r1.1 p1 7)] [] (c_Tokens_takeKnown l G hW r1 (p1 + 2) 6 (r1.1 p1 7) (sHouse_owlName hp1)) dX3_readBad_13 ml_3_105 (sTokens isTokens_3) rfl rfl (Nat.le_of_ble_eq_true rfl) ⟨rfl, rfl, Nat.le_of_ble_eq_true rfl, Nat.le_of_ble_eq_true rfl⟩ (fun r2 hr2 => ?_)
  refine x_istore_n (pc := 16) (i := 2) (lv' := [(2, .int r2.1), (0, .ref (xad G 3)), (1, .ref (xad G p1))]) g dX3_readBad_16 rfl (by decide) rfl ?_
  refine x_iload_n (pc := 17) (i := 2) (a := 0) g dX3_readBad_17 rfl rfl ?_
  refine x_iconst (pc := 18) g dX3_readBad_18 ic_m1 ?_
  refine x_icmp_ne (pc := 19) (t := 24) g dX3_readBad_19 (by decide) ?_ ?_
  · refine x_iconst (pc := 22) g dX3_readBad_22 ic_0 ?_
    exact x_zretc (pc := 23) g dX3_readBad_23 rfl (Or.inl rfl) (fun _ h => h)
  · refine x_aload_n (pc := 24) (i := 1) (a := 2) g dX3_readBad_24 rfl rfl ?_
    refine x_getR (pc := 25) (x := p1 + 11) g hW dX3_readBad_25 fl_3_115 (sHouse hp1) rfl ?_
    refine x_iload_n (pc := 28) (i := 2) (a := 0) g dX3_readBad_28 rfl rfl ?_
    refine x_aald4 (pc := 29) (r := fun j => p1 + 12 + j) g hW dX3_readBad_29 (sHouse_owlRow hp1) (fun j h => rowsL_get h) (fun j3 hj3 => ?_)
    refine x_iconst (pc := 30) g dX3_readBad_30 ic_2 ?_
    refine x_ialdc (pc := 31) g hW dX3_readBad_31 (sHouse_owlRowR hp1 hj3) ix_2_4 ?_
    refine x_iconst (pc := 32) g dX3_readBad_32 ic_m1 ?_
    refine x_icmp_eq (pc := 33) (t := 42) g dX3_readBad_33 (by decide) ?_ ?_
    · refine x_aload_n (pc := 42) (i := 1) (a := 2) g dX3_readBad_42 rfl rfl ?_
      refine x_getR (pc := 43) (x := p1 + 11) g hW dX3_readBad_43 fl_3_115 (sHouse hp1) rfl ?_
      refine x_iload_n (pc := 46) (i := 2) (a := 0) g dX3_readBad_46 rfl rfl ?_
      refine x_aald4 (pc := 47) (r := fun j => p1 + 12 + j) g hW dX3_readBad_47 (sHouse_owlRow hp1) (fun j h => rowsL_get h) (fun j4 hj4 => ?_)
      refine x_iconst (pc := 48) g dX3_readBad_48 ic_2 ?_
      refine x_aload_n (pc := 49) (i := 0) (a := 1) g dX3_readBad_49 rfl rfl ?_
      refine x_bipush (pc := 50) g dX3_readBad_50 bi_12 ?_
      refine x_iconst (pc := 52) g dX3_readBad_52 ic_4 ?_
      refine x_Vim (pc := 53) g hW [.int 12, .int 4] [.int 2, .ref (xad G (p1 + 12 + j4))] (c_Tokens_takeWord l G hW r2.2 12 4) dX3_readBad_53 ml_3_118 (sTokens isTokens_3) rfl rfl (Nat.le_of_ble_eq_true rfl) ⟨rfl, rfl, Nat.le_of_ble_eq_true rfl, Nat.le_of_ble_eq_true rfl⟩ (fun r5 hr5 => ?_)
      refine x_iastc (pc := 56) g hW dX3_readBad_56 (sHouse_owlRowR hp1 hj4) ix_2_4 (fun m6 => ?_)
      refine x_aload_n (pc := 57) (i := 1) (a := 2) g dX3_readBad_57 rfl rfl ?_
      refine x_getR (pc := 58) (x := p1 + 11) g hW dX3_readBad_58 fl_3_115 (sHouse hp1) rfl ?_
      refine x_iload_n (pc := 61) (i := 2) (a := 0) g dX3_readBad_61 rfl rfl ?_
      refine x_aald4 (pc := 62) (r := fun j => p1 + 12 + j) g hW dX3_readBad_62 (sHouse_owlRow hp1) (fun j h => rowsL_get h) (fun j7 hj7 => ?_)
      refine x_iconst (pc := 63) g dX3_readBad_63 ic_2 ?_
      refine x_ialdc (pc := 64) g hW dX3_readBad_64 (sHouse_owlRowR hp1 hj7) ix_2_4 ?_
      refine x_iconst (pc := 65) g dX3_readBad_65 ic_m1 ?_
      refine x_icmp_eq (pc := 66) (t := 73) g dX3_readBad_66 (by decide) ?_ ?_
      · refine x_iconst (pc := 73) g dX3_readBad_73 ic_0 ?_
        exact x_zretc (pc := 74) g dX3_readBad_74 rfl (Or.inl rfl) (fun _ h => h)
      · refine x_iconst (pc := 69) g dX3_readBad_69 ic_1 ?_
        refine x_goto (pc := 70) (t := 74) g dX3_readBad_70 (by decide) ?_
        exact x_zretc (pc := 74) g dX3_readBad_74 rfl (Or.inr rfl) (fun _ h => h)
    · refine x_aload_n (pc := 36) (i := 0) (a := 1) g dX3_readBad_36 rfl rfl ?_
      refine x_iconst (pc := 37) g dX3_readBad_37 ic_3 ?_
      refine x_Vim (pc := 38) g hW [.int 3] [] (c_Tokens_failBehind l G hW r2.2 3) dX3_readBad_38 ml_3_91 (sTokens isTokens_3) rfl rfl (Nat.le_of_ble_eq_true rfl) ⟨rfl, rfl, Nat.le_of_ble_eq_true rfl, Nat.le_of_ble_eq_true rfl⟩ (fun r8 hr8 => ?_)
      exact x_zret (pc := 41) g dX3_readBad_41 rfl (fun _ _ h => h)
theorem c_HouseReader_readBad (l : Launch) (G : xG) (hW : WC G) (m : xMem) (p1 : Nat) (hp1 : isHouse p1) : xCim l G yX3_readBad cX3_readBad 3 (some .boolean) rm_HouseReader_readBad [.ref (xad G 3), .ref (xad G p1)] m (HouseReader_readBad m p1) :=
  xCt_of (own := RX3) (by decide) rfl (Nat.le_of_ble_eq_true rfl) rfl ⟨rfl, rfl⟩ (fun E g => T_HouseReader_readBad hW g m p1 hp1)
theorem T_HouseReader_readDeaf_b33 {l : Launch} {G : xG} {E : xE} (hW : WC G) (g : xGood E l G.1 RX3 cX3_readDeaf yX3_readDeaf 4 (some .boolean) rm_HouseReader_readDeaf) (p1 : Nat) (hp1 : isHouse p1) (v2 : Int32) (s0 : Int32) (m : xMem) : X E G (fun r : Int32 × xMem => (some (Value.int r.1), r.2)) 33 [(0, .ref (xad G 3)), (1, .ref (xad G p1)), (2, .int v2)] [.int s0] m (HouseReader_readDeaf_b33 p1 v2 s0 m) := by
  unfold HouseReader_readDeaf_b33
  refine x_istore_n (pc := 33) (i := 3) (lv' := [(3, .int s0), (0, .ref (xad G 3)), (1, .ref (xad G p1)), (2, .int v2)]) g dX3_readDeaf_33 rfl (by decide) rfl ?_
  refine x_iload_n (pc := 34) (i := 3) (a := 0) g dX3_readDeaf_34 rfl rfl ?_
  refine x_iconst (pc := 35) g dX3_readDeaf_35 ic_m1 ?_
  refine x_icmp_ne (pc := 36) (t := 41) g dX3_readDeaf_36 (by decide) ?_ ?_
  · refine x_iconst (pc := 39) g dX3_readDeaf_39 ic_0 ?_
    exact x_zretc (pc := 40) g dX3_readDeaf_40 rfl (Or.inl rfl) (fun _ h => h)
  · refine x_aload_n (pc := 41) (i := 1) (a := 2) g dX3_readDeaf_41 rfl rfl ?_
    refine x_getR (pc := 42) (x := p1 + 11) g hW dX3_readDeaf_42 fl_3_115 (sHouse hp1) rfl ?_
    refine x_iload_n (pc := 45) (i := 2) (a := 3) g dX3_readDeaf_45 rfl rfl ?_
    refine x_aald4 (pc := 46) (r := fun j => p1 + 12 + j) g hW dX3_readDeaf_46 (sHouse_owlRow hp1) (fun j h => rowsL_get h) (fun j4 hj4 => ?_)
    refine x_iconst (pc := 47) g dX3_readDeaf_47 ic_3 ?_
    refine x_ialdc (pc := 48) g hW dX3_readDeaf_48 (sHouse_owlRowR hp1 hj4) ix_3_4 ?_
    refine x_iload_n (pc := 49) (i := 3) (a := 0) g dX3_readDeaf_49 rfl rfl ?_
    refine x_ishr (pc := 50) g dX3_readDeaf_50 ?_
    refine x_iconst (pc := 51) g dX3_readDeaf_51 ic_1 ?_
    refine x_iand (pc := 52) g dX3_readDeaf_52 ?_
    refine x_iconst (pc := 53) g dX3_readDeaf_53 ic_1 ?_
    refine x_icmp_ne (pc := 54) (t := 63) g dX3_readDeaf_54 (by decide) ?_ ?_
    · refine x_aload_n (pc := 57) (i := 0) (a := 1) g dX3_readDeaf_57 rfl rfl ?_
      refine x_iconst (pc := 58) g dX3_readDeaf_58 ic_3 ?_
      refine x_Vim (pc := 59) g hW [.int 3] [] (c_Tokens_failBehind l G hW m 3) dX3_readDeaf_59 ml_3_91 (sTokens isTokens_3) rfl rfl (Nat.le_of_ble_eq_true rfl) ⟨rfl, rfl, Nat.le_of_ble_eq_true rfl, Nat.le_of_ble_eq_true rfl⟩ (fun r5 hr5 => ?_)
      exact x_zret (pc := 62) g dX3_readDeaf_62 rfl (fun _ _ h => h)
    · refine x_aload_n (pc := 63) (i := 1) (a := 2) g dX3_readDeaf_63 rfl rfl ?_
      refine x_getR (pc := 64) (x := p1 + 11) g hW dX3_readDeaf_64 fl_3_115 (sHouse hp1) rfl ?_
      refine x_iload_n (pc := 67) (i := 2) (a := 3) g dX3_readDeaf_67 rfl rfl ?_
      refine x_aald4 (pc := 68) (r := fun j => p1 + 12 + j) g hW dX3_readDeaf_68 (sHouse_owlRow hp1) (fun j h => rowsL_get h) (fun j6 hj6 => ?_)
      refine x_iconst (pc := 69) g dX3_readDeaf_69 ic_3 ?_
      refine x_dup2 (pc := 70) g dX3_readDeaf_70 rfl rfl ?_
      refine x_ialdc (pc := 71) g hW dX3_readDeaf_71 (sHouse_owlRowR hp1 hj6) ix_3_4 ?_
      refine x_iconst (pc := 72) g dX3_readDeaf_72 ic_1 ?_
      refine x_iload_n (pc := 73) (i := 3) (a := 0) g dX3_readDeaf_73 rfl rfl ?_
      refine x_ishl (pc := 74) g dX3_readDeaf_74 ?_
      refine x_ior (pc := 75) g dX3_readDeaf_75 ?_
      refine x_iastc (pc := 76) g hW dX3_readDeaf_76 (sHouse_owlRowR hp1 hj6) ix_3_4 (fun m7 => ?_)
      refine x_iconst (pc := 77) g dX3_readDeaf_77 ic_1 ?_
      exact x_zretc (pc := 78) g dX3_readDeaf_78 rfl (Or.inr rfl) (fun _ h => h)
theorem T_HouseReader_readDeaf {l : Launch} {G : xG} {E : xE} (hW : WC G) (g : xGood E l G.1 RX3 cX3_readDeaf yX3_readDeaf 4 (some .boolean) rm_HouseReader_readDeaf) (m : xMem) (p1 : Nat) (hp1 : isHouse p1) : X E G (fun r : Int32 × xMem => (some (Value.int r.1), r.2)) 0 [(0, .ref (xad G 3)), (1, .ref (xad G p1))] [] m (HouseReader_readDeaf m p1) := by
  unfold HouseReader_readDeaf
  refine x_aload_n (pc := 0) (i := 0) (a := 0) g dX3_readDeaf_0 rfl rfl ?_
  refine x_Vv (pc := 1) g hW [] [] (c_Tokens_advance l G hW m) dX3_readDeaf_1 ml_3_68 (sTokens isTokens_3) rfl rfl (Nat.le_of_ble_eq_true rfl) ⟨rfl, rfl, Nat.le_of_ble_eq_true rfl, Nat.le_of_ble_eq_true rfl⟩ (fun r1 hr1 => ?_)
  refine x_aload_n (pc := 4) (i := 0) (a := 0) g dX3_readDeaf_4 rfl rfl ?_
  refine x_aload_n (pc := 5) (i := 1) (a := 1) g dX3_readDeaf_5 rfl rfl ?_
  refine x_getR (pc := 6) (x := p1 + 2) g hW dX3_readDeaf_6 fl_3_112 (sHouse hp1) rfl ?_
  refine x_aload_n (pc := 9) (i := 1) (a := 1) g dX3_readDeaf_9 rfl rfl ?_
  refine x_getI (pc := 10) g hW dX3_readDeaf_10 fl_3_102 (sHouse hp1) rfl ?_
  refine x_Vim (pc := 13) g hW [.ref (xad G (p1 + 2)), .int (r1.1 p1 7)] [] (c_Tokens_takeKnown l G hW r1 (p1 + 2) 6 (r1.1 p1 7) (sHouse_owlName hp1)) dX3_readDeaf_13 ml_3_105 (sTokens isTokens_3) rfl rfl (Nat.le_of_ble_eq_true rfl) ⟨rfl, rfl, Nat.le_of_ble_eq_true rfl, Nat.le_of_ble_eq_true rfl⟩ (fun r2 hr2 => ?_)
  refine x_istore_n (pc := 16) (i := 2) (lv' := [(2, .int r2.1), (0, .ref (xad G 3)), (1, .ref (xad G p1))]) g dX3_readDeaf_16 rfl (by decide) rfl ?_
  refine x_iload_n (pc := 17) (i := 2) (a := 0) g dX3_readDeaf_17 rfl rfl ?_
  refine x_iconst (pc := 18) g dX3_readDeaf_18 ic_m1 ?_
  refine x_icmp_ne (pc := 19) (t := 26) g dX3_readDeaf_19 (by decide) ?_ ?_
  · refine x_iconst (pc := 22) g dX3_readDeaf_22 ic_m1 ?_
    refine x_goto (pc := 23) (t := 33) g dX3_readDeaf_23 (by decide) ?_
    exact x_sub [1, 2, 0] (T_HouseReader_readDeaf_b33 hW g p1 hp1 r2.1 ((-1)) r2.2) rfl
  · refine x_aload_n (pc := 26) (i := 0) (a := 1) g dX3_readDeaf_26 rfl rfl ?_
    refine x_bipush (pc := 27) g dX3_readDeaf_27 bi_8 ?_
    refine x_iconst (pc := 29) g dX3_readDeaf_29 ic_4 ?_
    refine x_Vim (pc := 30) g hW [.int 8, .int 4] [] (c_Tokens_takeWord l G hW r2.2 8 4) dX3_readDeaf_30 ml_3_118 (sTokens isTokens_3) rfl rfl (Nat.le_of_ble_eq_true rfl) ⟨rfl, rfl, Nat.le_of_ble_eq_true rfl, Nat.le_of_ble_eq_true rfl⟩ (fun r3 hr3 => ?_)
    exact x_sub [1, 2, 0] (T_HouseReader_readDeaf_b33 hW g p1 hp1 r2.1 r3.1 r3.2) rfl
theorem c_HouseReader_readDeaf (l : Launch) (G : xG) (hW : WC G) (m : xMem) (p1 : Nat) (hp1 : isHouse p1) : xCim l G yX3_readDeaf cX3_readDeaf 4 (some .boolean) rm_HouseReader_readDeaf [.ref (xad G 3), .ref (xad G p1)] m (HouseReader_readDeaf m p1) :=
  xCt_of (own := RX3) (by decide) rfl (Nat.le_of_ble_eq_true rfl) rfl ⟨rfl, rfl⟩ (fun E g => T_HouseReader_readDeaf hW g m p1 hp1)
theorem T_HouseReader_readSound_b149 {l : Launch} {G : xG} {E : xE} (hW : WC G) (g : xGood E l G.1 RX3 cX3_readSound yX3_readSound 11 (some .boolean) rm_HouseReader_readSound) (p1 : Nat) (hp1 : isHouse p1) (v2 : Int32) (v3 : Int64) (v5 : Int32) (v6 : Int32) (v7 : Int32) (v8 : Int32) (v9 : Int32) (s0 : Int32) (m : xMem) : X E G (fun r : Int32 × xMem => (some (Value.int r.1), r.2)) 149 [(1, .ref (xad G p1)), (2, .int v2), (3, .long v3), (5, .int v5), (6, .int v6), (7, .int v7), (8, .int v8), (9, .int v9)] [.int s0] m (HouseReader_readSound_b149 p1 v2 v3 v5 v6 v7 v8 v9 s0 m) := by
  unfold HouseReader_readSound_b149
  refine x_istore (pc := 149) (lv' := [(10, .int s0), (1, .ref (xad G p1)), (2, .int v2), (3, .long v3), (5, .int v5), (6, .int v6), (7, .int v7), (8, .int v8), (9, .int v9)]) g dX3_readSound_149 (by decide) rfl ?_
  refine x_iload (pc := 151) (a := 0) g dX3_readSound_151 rfl ?_
  refine x_iconst (pc := 153) g dX3_readSound_153 ic_m1 ?_
  refine x_icmp_ne (pc := 154) (t := 159) g dX3_readSound_154 (by decide) ?_ ?_
  · refine x_iconst (pc := 157) g dX3_readSound_157 ic_0 ?_
    exact x_zretc (pc := 158) g dX3_readSound_158 rfl (Or.inl rfl) (fun _ h => h)
  · refine x_aload_n (pc := 159) (i := 1) (a := 1) g dX3_readSound_159 rfl rfl ?_
    refine x_getR (pc := 160) (x := p1 + 3) g hW dX3_readSound_160 fl_3_121 (sHouse hp1) rfl ?_
    refine x_iload_n (pc := 163) (i := 2) (a := 2) g dX3_readSound_163 rfl rfl ?_
    refine x_lload_n (pc := 164) (i := 3) (a := 3) g dX3_readSound_164 rfl rfl ?_
    refine x_last (pc := 165) g hW dX3_readSound_165 (sHouse_soundName hp1) (fun j12 hj12 m11 => ?_)
    refine x_aload_n (pc := 166) (i := 1) (a := 1) g dX3_readSound_166 rfl rfl ?_
    refine x_getR (pc := 167) (x := p1 + 18) g hW dX3_readSound_167 fl_3_124 (sHouse hp1) rfl ?_
    refine x_iload_n (pc := 170) (i := 2) (a := 2) g dX3_readSound_170 rfl rfl ?_
    refine x_aald4 (pc := 171) (r := fun j => p1 + 19 + j) g hW dX3_readSound_171 (sHouse_soundRow hp1) (fun j h => rowsL_get h) (fun j13 hj13 => ?_)
    refine x_iconst (pc := 172) g dX3_readSound_172 ic_0 ?_
    refine x_iload (pc := 173) (a := 4) g dX3_readSound_173 rfl ?_
    refine x_iastc (pc := 175) g hW dX3_readSound_175 (sHouse_soundRowR hp1 hj13) ix_0_6 (fun m14 => ?_)
    refine x_aload_n (pc := 176) (i := 1) (a := 1) g dX3_readSound_176 rfl rfl ?_
    refine x_getR (pc := 177) (x := p1 + 18) g hW dX3_readSound_177 fl_3_124 (sHouse hp1) rfl ?_
    refine x_iload_n (pc := 180) (i := 2) (a := 2) g dX3_readSound_180 rfl rfl ?_
    refine x_aald4 (pc := 181) (r := fun j => p1 + 19 + j) g hW dX3_readSound_181 (sHouse_soundRow hp1) (fun j h => rowsL_get h) (fun j15 hj15 => ?_)
    refine x_iconst (pc := 182) g dX3_readSound_182 ic_1 ?_
    refine x_iload (pc := 183) (a := 5) g dX3_readSound_183 rfl ?_
    refine x_iastc (pc := 185) g hW dX3_readSound_185 (sHouse_soundRowR hp1 hj15) ix_1_6 (fun m16 => ?_)
    refine x_aload_n (pc := 186) (i := 1) (a := 1) g dX3_readSound_186 rfl rfl ?_
    refine x_getR (pc := 187) (x := p1 + 18) g hW dX3_readSound_187 fl_3_124 (sHouse hp1) rfl ?_
    refine x_iload_n (pc := 190) (i := 2) (a := 2) g dX3_readSound_190 rfl rfl ?_
    refine x_aald4 (pc := 191) (r := fun j => p1 + 19 + j) g hW dX3_readSound_191 (sHouse_soundRow hp1) (fun j h => rowsL_get h) (fun j17 hj17 => ?_)
    refine x_iconst (pc := 192) g dX3_readSound_192 ic_2 ?_
    refine x_iload (pc := 193) (a := 6) g dX3_readSound_193 rfl ?_
    refine x_iastc (pc := 195) g hW dX3_readSound_195 (sHouse_soundRowR hp1 hj17) ix_2_6 (fun m18 => ?_)
    refine x_aload_n (pc := 196) (i := 1) (a := 1) g dX3_readSound_196 rfl rfl ?_
    refine x_getR (pc := 197) (x := p1 + 18) g hW dX3_readSound_197 fl_3_124 (sHouse hp1) rfl ?_
    refine x_iload_n (pc := 200) (i := 2) (a := 2) g dX3_readSound_200 rfl rfl ?_
    refine x_aald4 (pc := 201) (r := fun j => p1 + 19 + j) g hW dX3_readSound_201 (sHouse_soundRow hp1) (fun j h => rowsL_get h) (fun j19 hj19 => ?_)
    refine x_iconst (pc := 202) g dX3_readSound_202 ic_3 ?_
    refine x_iload (pc := 203) (a := 7) g dX3_readSound_203 rfl ?_
    refine x_iastc (pc := 205) g hW dX3_readSound_205 (sHouse_soundRowR hp1 hj19) ix_3_6 (fun m20 => ?_)
    refine x_aload_n (pc := 206) (i := 1) (a := 1) g dX3_readSound_206 rfl rfl ?_
    refine x_getR (pc := 207) (x := p1 + 18) g hW dX3_readSound_207 fl_3_124 (sHouse hp1) rfl ?_
    refine x_iload_n (pc := 210) (i := 2) (a := 2) g dX3_readSound_210 rfl rfl ?_
    refine x_aald4 (pc := 211) (r := fun j => p1 + 19 + j) g hW dX3_readSound_211 (sHouse_soundRow hp1) (fun j h => rowsL_get h) (fun j21 hj21 => ?_)
    refine x_iconst (pc := 212) g dX3_readSound_212 ic_4 ?_
    refine x_iload (pc := 213) (a := 8) g dX3_readSound_213 rfl ?_
    refine x_iastc (pc := 215) g hW dX3_readSound_215 (sHouse_soundRowR hp1 hj21) ix_4_6 (fun m22 => ?_)
    refine x_aload_n (pc := 216) (i := 1) (a := 1) g dX3_readSound_216 rfl rfl ?_
    refine x_getR (pc := 217) (x := p1 + 18) g hW dX3_readSound_217 fl_3_124 (sHouse hp1) rfl ?_
    refine x_iload_n (pc := 220) (i := 2) (a := 2) g dX3_readSound_220 rfl rfl ?_
    refine x_aald4 (pc := 221) (r := fun j => p1 + 19 + j) g hW dX3_readSound_221 (sHouse_soundRow hp1) (fun j h => rowsL_get h) (fun j23 hj23 => ?_)
    refine x_iconst (pc := 222) g dX3_readSound_222 ic_5 ?_
    refine x_iload (pc := 223) (a := 0) g dX3_readSound_223 rfl ?_
    refine x_iastc (pc := 225) g hW dX3_readSound_225 (sHouse_soundRowR hp1 hj23) ix_5_6 (fun m24 => ?_)
    refine x_aload_n (pc := 226) (i := 1) (a := 1) g dX3_readSound_226 rfl rfl ?_
    refine x_iload_n (pc := 227) (i := 2) (a := 2) g dX3_readSound_227 rfl rfl ?_
    refine x_iconst (pc := 228) g dX3_readSound_228 ic_1 ?_
    refine x_iadd (pc := 229) g dX3_readSound_229 ?_
    refine x_putI (pc := 230) g hW dX3_readSound_230 fl_3_65 ft_2_8 (sHouse hp1) rfl (fun m25 => ?_)
    refine x_iconst (pc := 233) g dX3_readSound_233 ic_1 ?_
    exact x_zretc (pc := 234) g dX3_readSound_234 rfl (Or.inr rfl) (fun _ h => h)
theorem T_HouseReader_readSound_b130 {l : Launch} {G : xG} {E : xE} (hW : WC G) (g : xGood E l G.1 RX3 cX3_readSound yX3_readSound 11 (some .boolean) rm_HouseReader_readSound) (p1 : Nat) (hp1 : isHouse p1) (v2 : Int32) (v3 : Int64) (v5 : Int32) (v6 : Int32) (v7 : Int32) (v8 : Int32) (s0 : Int32) (m : xMem) : X E G (fun r : Int32 × xMem => (some (Value.int r.1), r.2)) 130 [(0, .ref (xad G 3)), (1, .ref (xad G p1)), (2, .int v2), (3, .long v3), (5, .int v5), (6, .int v6), (7, .int v7), (8, .int v8)] [.int s0] m (HouseReader_readSound_b130 p1 v2 v3 v5 v6 v7 v8 s0 m) := by
  unfold HouseReader_readSound_b130
  refine x_istore (pc := 130) (lv' := [(9, .int s0), (0, .ref (xad G 3)), (1, .ref (xad G p1)), (2, .int v2), (3, .long v3), (5, .int v5), (6, .int v6), (7, .int v7), (8, .int v8)]) g dX3_readSound_130 (by decide) rfl ?_
  refine x_iload (pc := 132) (a := 0) g dX3_readSound_132 rfl ?_
  refine x_iconst (pc := 134) g dX3_readSound_134 ic_m1 ?_
  refine x_icmp_ne (pc := 135) (t := 142) g dX3_readSound_135 (by decide) ?_ ?_
  · refine x_iconst (pc := 138) g dX3_readSound_138 ic_m1 ?_
    refine x_goto (pc := 139) (t := 149) g dX3_readSound_139 (by decide) ?_
    exact x_sub [2, 3, 4, 5, 6, 7, 8, 0] (T_HouseReader_readSound_b149 hW g p1 hp1 v2 v3 v5 v6 v7 v8 s0 ((-1)) m) rfl
  · refine x_aload_n (pc := 142) (i := 0) (a := 1) g dX3_readSound_142 rfl rfl ?_
    refine x_iconst (pc := 143) g dX3_readSound_143 ic_0 ?_
    refine x_bipush (pc := 144) g dX3_readSound_144 bi_23 ?_
    refine x_Vim (pc := 146) g hW [.int 0, .int 23] [] (c_Tokens_takeNumber l G hW m 0 23) dX3_readSound_146 ml_3_71 (sTokens isTokens_3) rfl rfl (Nat.le_of_ble_eq_true rfl) ⟨rfl, rfl, Nat.le_of_ble_eq_true rfl, Nat.le_of_ble_eq_true rfl⟩ (fun r10 hr10 => ?_)
    exact x_sub [2, 3, 4, 5, 6, 7, 8, 0] (T_HouseReader_readSound_b149 hW g p1 hp1 v2 v3 v5 v6 v7 v8 s0 r10.1 r10.2) rfl
theorem T_HouseReader_readSound_b111 {l : Launch} {G : xG} {E : xE} (hW : WC G) (g : xGood E l G.1 RX3 cX3_readSound yX3_readSound 11 (some .boolean) rm_HouseReader_readSound) (p1 : Nat) (hp1 : isHouse p1) (v2 : Int32) (v3 : Int64) (v5 : Int32) (v6 : Int32) (v7 : Int32) (s0 : Int32) (m : xMem) : X E G (fun r : Int32 × xMem => (some (Value.int r.1), r.2)) 111 [(0, .ref (xad G 3)), (1, .ref (xad G p1)), (2, .int v2), (3, .long v3), (5, .int v5), (6, .int v6), (7, .int v7)] [.int s0] m (HouseReader_readSound_b111 p1 v2 v3 v5 v6 v7 s0 m) := by
  unfold HouseReader_readSound_b111
  refine x_istore (pc := 111) (lv' := [(8, .int s0), (0, .ref (xad G 3)), (1, .ref (xad G p1)), (2, .int v2), (3, .long v3), (5, .int v5), (6, .int v6), (7, .int v7)]) g dX3_readSound_111 (by decide) rfl ?_
  refine x_iload (pc := 113) (a := 0) g dX3_readSound_113 rfl ?_
  refine x_iconst (pc := 115) g dX3_readSound_115 ic_m1 ?_
  refine x_icmp_ne (pc := 116) (t := 123) g dX3_readSound_116 (by decide) ?_ ?_
  · refine x_iconst (pc := 119) g dX3_readSound_119 ic_m1 ?_
    refine x_goto (pc := 120) (t := 130) g dX3_readSound_120 (by decide) ?_
    exact x_sub [1, 2, 3, 4, 5, 6, 7, 0] (T_HouseReader_readSound_b130 hW g p1 hp1 v2 v3 v5 v6 v7 s0 ((-1)) m) rfl
  · refine x_aload_n (pc := 123) (i := 0) (a := 1) g dX3_readSound_123 rfl rfl ?_
    refine x_iconst (pc := 124) g dX3_readSound_124 ic_0 ?_
    refine x_bipush (pc := 125) g dX3_readSound_125 bi_23 ?_
    refine x_Vim (pc := 127) g hW [.int 0, .int 23] [] (c_Tokens_takeNumber l G hW m 0 23) dX3_readSound_127 ml_3_71 (sTokens isTokens_3) rfl rfl (Nat.le_of_ble_eq_true rfl) ⟨rfl, rfl, Nat.le_of_ble_eq_true rfl, Nat.le_of_ble_eq_true rfl⟩ (fun r9 hr9 => ?_)
    exact x_sub [1, 2, 3, 4, 5, 6, 7, 0] (T_HouseReader_readSound_b130 hW g p1 hp1 v2 v3 v5 v6 v7 s0 r9.1 r9.2) rfl
theorem T_HouseReader_readSound_b92 {l : Launch} {G : xG} {E : xE} (hW : WC G) (g : xGood E l G.1 RX3 cX3_readSound yX3_readSound 11 (some .boolean) rm_HouseReader_readSound) (p1 : Nat) (hp1 : isHouse p1) (v2 : Int32) (v3 : Int64) (v5 : Int32) (v6 : Int32) (s0 : Int32) (m : xMem) : X E G (fun r : Int32 × xMem => (some (Value.int r.1), r.2)) 92 [(0, .ref (xad G 3)), (1, .ref (xad G p1)), (2, .int v2), (3, .long v3), (5, .int v5), (6, .int v6)] [.int s0] m (HouseReader_readSound_b92 p1 v2 v3 v5 v6 s0 m) := by
  unfold HouseReader_readSound_b92
  refine x_istore (pc := 92) (lv' := [(7, .int s0), (0, .ref (xad G 3)), (1, .ref (xad G p1)), (2, .int v2), (3, .long v3), (5, .int v5), (6, .int v6)]) g dX3_readSound_92 (by decide) rfl ?_
  refine x_iload (pc := 94) (a := 0) g dX3_readSound_94 rfl ?_
  refine x_iconst (pc := 96) g dX3_readSound_96 ic_m1 ?_
  refine x_icmp_ne (pc := 97) (t := 104) g dX3_readSound_97 (by decide) ?_ ?_
  · refine x_iconst (pc := 100) g dX3_readSound_100 ic_m1 ?_
    refine x_goto (pc := 101) (t := 111) g dX3_readSound_101 (by decide) ?_
    exact x_sub [1, 2, 3, 4, 5, 6, 0] (T_HouseReader_readSound_b111 hW g p1 hp1 v2 v3 v5 v6 s0 ((-1)) m) rfl
  · refine x_aload_n (pc := 104) (i := 0) (a := 1) g dX3_readSound_104 rfl rfl ?_
    refine x_iconst (pc := 105) g dX3_readSound_105 ic_1 ?_
    refine x_bipush (pc := 106) g dX3_readSound_106 bi_30 ?_
    refine x_Vim (pc := 108) g hW [.int 1, .int 30] [] (c_Tokens_takeNumber l G hW m 1 30) dX3_readSound_108 ml_3_71 (sTokens isTokens_3) rfl rfl (Nat.le_of_ble_eq_true rfl) ⟨rfl, rfl, Nat.le_of_ble_eq_true rfl, Nat.le_of_ble_eq_true rfl⟩ (fun r8 hr8 => ?_)
    exact x_sub [1, 2, 3, 4, 5, 6, 0] (T_HouseReader_readSound_b111 hW g p1 hp1 v2 v3 v5 v6 s0 r8.1 r8.2) rfl
theorem T_HouseReader_readSound_b69 {l : Launch} {G : xG} {E : xE} (hW : WC G) (g : xGood E l G.1 RX3 cX3_readSound yX3_readSound 11 (some .boolean) rm_HouseReader_readSound) (p1 : Nat) (hp1 : isHouse p1) (v2 : Int32) (v3 : Int64) (v5 : Int32) (s0 : Int32) (m : xMem) : X E G (fun r : Int32 × xMem => (some (Value.int r.1), r.2)) 69 [(0, .ref (xad G 3)), (1, .ref (xad G p1)), (2, .int v2), (3, .long v3), (5, .int v5)] [.int s0] m (HouseReader_readSound_b69 p1 v2 v3 v5 s0 m) := by
  unfold HouseReader_readSound_b69
  refine x_istore (pc := 69) (lv' := [(6, .int s0), (0, .ref (xad G 3)), (1, .ref (xad G p1)), (2, .int v2), (3, .long v3), (5, .int v5)]) g dX3_readSound_69 (by decide) rfl ?_
  refine x_iload (pc := 71) (a := 0) g dX3_readSound_71 rfl ?_
  refine x_iconst (pc := 73) g dX3_readSound_73 ic_m1 ?_
  refine x_icmp_ne (pc := 74) (t := 81) g dX3_readSound_74 (by decide) ?_ ?_
  · refine x_iconst (pc := 77) g dX3_readSound_77 ic_m1 ?_
    refine x_goto (pc := 78) (t := 92) g dX3_readSound_78 (by decide) ?_
    exact x_sub [1, 2, 3, 4, 5, 0] (T_HouseReader_readSound_b92 hW g p1 hp1 v2 v3 v5 s0 ((-1)) m) rfl
  · refine x_aload_n (pc := 81) (i := 0) (a := 1) g dX3_readSound_81 rfl rfl ?_
    refine x_iconst (pc := 82) g dX3_readSound_82 ic_0 ?_
    refine x_aload_n (pc := 83) (i := 1) (a := 2) g dX3_readSound_83 rfl rfl ?_
    refine x_getI (pc := 84) g hW dX3_readSound_84 fl_3_78 (sHouse hp1) rfl ?_
    refine x_iconst (pc := 87) g dX3_readSound_87 ic_1 ?_
    refine x_isub (pc := 88) g dX3_readSound_88 ?_
    refine x_Vim (pc := 89) g hW [.int 0, .int ((m.1 p1 1) - 1)] [] (c_Tokens_takeNumber l G hW m 0 ((m.1 p1 1) - 1)) dX3_readSound_89 ml_3_71 (sTokens isTokens_3) rfl rfl (Nat.le_of_ble_eq_true rfl) ⟨rfl, rfl, Nat.le_of_ble_eq_true rfl, Nat.le_of_ble_eq_true rfl⟩ (fun r7 hr7 => ?_)
    exact x_sub [1, 2, 3, 4, 5, 0] (T_HouseReader_readSound_b92 hW g p1 hp1 v2 v3 v5 s0 r7.1 r7.2) rfl
theorem T_HouseReader_readSound_b46 {l : Launch} {G : xG} {E : xE} (hW : WC G) (g : xGood E l G.1 RX3 cX3_readSound yX3_readSound 11 (some .boolean) rm_HouseReader_readSound) (p1 : Nat) (hp1 : isHouse p1) (v2 : Int32) (v3 : Int64) (s0 : Int32) (m : xMem) : X E G (fun r : Int32 × xMem => (some (Value.int r.1), r.2)) 46 [(0, .ref (xad G 3)), (1, .ref (xad G p1)), (2, .int v2), (3, .long v3)] [.int s0] m (HouseReader_readSound_b46 p1 v2 v3 s0 m) := by
  unfold HouseReader_readSound_b46
  refine x_istore (pc := 46) (lv' := [(5, .int s0), (0, .ref (xad G 3)), (1, .ref (xad G p1)), (2, .int v2), (3, .long v3)]) g dX3_readSound_46 (by decide) rfl ?_
  refine x_iload (pc := 48) (a := 0) g dX3_readSound_48 rfl ?_
  refine x_iconst (pc := 50) g dX3_readSound_50 ic_m1 ?_
  refine x_icmp_ne (pc := 51) (t := 58) g dX3_readSound_51 (by decide) ?_ ?_
  · refine x_iconst (pc := 54) g dX3_readSound_54 ic_m1 ?_
    refine x_goto (pc := 55) (t := 69) g dX3_readSound_55 (by decide) ?_
    exact x_sub [1, 2, 3, 4, 0] (T_HouseReader_readSound_b69 hW g p1 hp1 v2 v3 s0 ((-1)) m) rfl
  · refine x_aload_n (pc := 58) (i := 0) (a := 1) g dX3_readSound_58 rfl rfl ?_
    refine x_iconst (pc := 59) g dX3_readSound_59 ic_0 ?_
    refine x_aload_n (pc := 60) (i := 1) (a := 2) g dX3_readSound_60 rfl rfl ?_
    refine x_getI (pc := 61) g hW dX3_readSound_61 fl_3_75 (sHouse hp1) rfl ?_
    refine x_iconst (pc := 64) g dX3_readSound_64 ic_1 ?_
    refine x_isub (pc := 65) g dX3_readSound_65 ?_
    refine x_Vim (pc := 66) g hW [.int 0, .int ((m.1 p1 0) - 1)] [] (c_Tokens_takeNumber l G hW m 0 ((m.1 p1 0) - 1)) dX3_readSound_66 ml_3_71 (sTokens isTokens_3) rfl rfl (Nat.le_of_ble_eq_true rfl) ⟨rfl, rfl, Nat.le_of_ble_eq_true rfl, Nat.le_of_ble_eq_true rfl⟩ (fun r6 hr6 => ?_)
    exact x_sub [1, 2, 3, 4, 0] (T_HouseReader_readSound_b69 hW g p1 hp1 v2 v3 s0 r6.1 r6.2) rfl
theorem T_HouseReader_readSound {l : Launch} {G : xG} {E : xE} (hW : WC G) (g : xGood E l G.1 RX3 cX3_readSound yX3_readSound 11 (some .boolean) rm_HouseReader_readSound) (m : xMem) (p1 : Nat) (hp1 : isHouse p1) : X E G (fun r : Int32 × xMem => (some (Value.int r.1), r.2)) 0 [(0, .ref (xad G 3)), (1, .ref (xad G p1))] [] m (HouseReader_readSound m p1) := by
  unfold HouseReader_readSound
  refine x_aload_n (pc := 0) (i := 1) (a := 1) g dX3_readSound_0 rfl rfl ?_
  refine x_getI (pc := 1) g hW dX3_readSound_1 fl_3_65 (sHouse hp1) rfl ?_
  refine x_nmI (fun x1 => ?_)
  refine x_istore_n (pc := 4) (i := 2) (lv' := [(2, .int x1), (0, .ref (xad G 3)), (1, .ref (xad G p1))]) g dX3_readSound_4 rfl (by decide) rfl ?_
  refine x_iload_n (pc := 5) (i := 2) (a := 0) g dX3_readSound_5 rfl rfl ?_
  refine x_bipush (pc := 6) g dX3_readSound_6 bi_8 ?_
  refine x_icmp_lt (pc := 8) (t := 17) g dX3_readSound_8 (by decide) ?_ ?_
  · refine x_aload_n (pc := 17) (i := 0) (a := 1) g dX3_readSound_17 rfl rfl ?_
    refine x_Vv (pc := 18) g hW [] [] (c_Tokens_advance l G hW m) dX3_readSound_18 ml_3_68 (sTokens isTokens_3) rfl rfl (Nat.le_of_ble_eq_true rfl) ⟨rfl, rfl, Nat.le_of_ble_eq_true rfl, Nat.le_of_ble_eq_true rfl⟩ (fun r2 hr2 => ?_)
    refine x_aload_n (pc := 21) (i := 0) (a := 1) g dX3_readSound_21 rfl rfl ?_
    refine x_aload_n (pc := 22) (i := 1) (a := 2) g dX3_readSound_22 rfl rfl ?_
    refine x_Vlm (pc := 23) g hW [.ref (xad G p1)] [] (c_Tokens_takeNewName l G hW r2 p1 hp1) dX3_readSound_23 ml_3_81 (sTokens isTokens_3) rfl rfl (Nat.le_of_ble_eq_true rfl) ⟨rfl, rfl, Nat.le_of_ble_eq_true rfl, Nat.le_of_ble_eq_true rfl⟩ (fun r3 hr3 => ?_)
    refine x_lstore_n (pc := 26) (i := 3) (lv' := [(3, .long r3.1), (2, .int x1), (0, .ref (xad G 3)), (1, .ref (xad G p1))]) g dX3_readSound_26 rfl (by decide) rfl ?_
    refine x_lload_n (pc := 27) (i := 3) (a := 0) g dX3_readSound_27 rfl rfl ?_
    refine x_ldc2 (pc := 28) g dX3_readSound_28 kc_3_85 ?_
    refine x_lcmp (pc := 31) g dX3_readSound_31 ?_
    refine x_if_ne (pc := 32) (t := 39) g dX3_readSound_32 (by decide) ?_ ?_
    · refine x_iconst (pc := 35) g dX3_readSound_35 ic_m1 ?_
      refine x_goto (pc := 36) (t := 46) g dX3_readSound_36 (by decide) ?_
      exact x_sub [2, 3, 1, 0] (T_HouseReader_readSound_b46 hW g p1 hp1 x1 r3.1 ((-1)) r3.2) rfl
    · refine x_aload_n (pc := 39) (i := 0) (a := 2) g dX3_readSound_39 rfl rfl ?_
      refine x_bipush (pc := 40) g dX3_readSound_40 bi_8 ?_
      refine x_iconst (pc := 42) g dX3_readSound_42 ic_4 ?_
      refine x_Vim (pc := 43) g hW [.int 8, .int 4] [] (c_Tokens_takeWord l G hW r3.2 8 4) dX3_readSound_43 ml_3_118 (sTokens isTokens_3) rfl rfl (Nat.le_of_ble_eq_true rfl) ⟨rfl, rfl, Nat.le_of_ble_eq_true rfl, Nat.le_of_ble_eq_true rfl⟩ (fun r4 hr4 => ?_)
      exact x_sub [2, 3, 1, 0] (T_HouseReader_readSound_b46 hW g p1 hp1 x1 r3.1 r4.1 r4.2) rfl
  · refine x_aload_n (pc := 11) (i := 0) (a := 1) g dX3_readSound_11 rfl rfl ?_
    refine x_iconst (pc := 12) g dX3_readSound_12 ic_4 ?_
    refine x_Vim (pc := 13) g hW [.int 4] [] (c_Tokens_fail l G hW m 4) dX3_readSound_13 ml_3_50 (sTokens isTokens_3) rfl rfl (Nat.le_of_ble_eq_true rfl) ⟨rfl, rfl, Nat.le_of_ble_eq_true rfl, Nat.le_of_ble_eq_true rfl⟩ (fun r5 hr5 => ?_)
    exact x_zret (pc := 16) g dX3_readSound_16 rfl (fun _ _ h => h)
theorem c_HouseReader_readSound (l : Launch) (G : xG) (hW : WC G) (m : xMem) (p1 : Nat) (hp1 : isHouse p1) : xCim l G yX3_readSound cX3_readSound 11 (some .boolean) rm_HouseReader_readSound [.ref (xad G 3), .ref (xad G p1)] m (HouseReader_readSound m p1) :=
  xCt_of (own := RX3) (by decide) rfl (Nat.le_of_ble_eq_true rfl) rfl ⟨rfl, rfl⟩ (fun E g => T_HouseReader_readSound hW g m p1 hp1)
theorem T_HouseReader_readWants {l : Launch} {G : xG} {E : xE} (hW : WC G) (g : xGood E l G.1 RX3 cX3_readWants yX3_readWants 3 (some .boolean) rm_HouseReader_readWants) (m : xMem) (p1 : Nat) (hp1 : isHouse p1) : X E G (fun r : Int32 × xMem => (some (Value.int r.1), r.2)) 0 [(0, .ref (xad G 3)), (1, .ref (xad G p1))] [] m (HouseReader_readWants m p1) := by
  unfold HouseReader_readWants
  refine x_aload_n (pc := 0) (i := 0) (a := 0) g dX3_readWants_0 rfl rfl ?_
  refine x_Vv (pc := 1) g hW [] [] (c_Tokens_advance l G hW m) dX3_readWants_1 ml_3_68 (sTokens isTokens_3) rfl rfl (Nat.le_of_ble_eq_true rfl) ⟨rfl, rfl, Nat.le_of_ble_eq_true rfl, Nat.le_of_ble_eq_true rfl⟩ (fun r1 hr1 => ?_)
  refine x_aload_n (pc := 4) (i := 0) (a := 0) g dX3_readWants_4 rfl rfl ?_
  refine x_aload_n (pc := 5) (i := 1) (a := 1) g dX3_readWants_5 rfl rfl ?_
  refine x_getR (pc := 6) (x := p1 + 1) g hW dX3_readWants_6 fl_3_94 (sHouse hp1) rfl ?_
  refine x_aload_n (pc := 9) (i := 1) (a := 1) g dX3_readWants_9 rfl rfl ?_
  refine x_getI (pc := 10) g hW dX3_readWants_10 fl_3_62 (sHouse hp1) rfl ?_
  refine x_Vim (pc := 13) g hW [.ref (xad G (p1 + 1)), .int (r1.1 p1 6)] [] (c_Tokens_takeKnown l G hW r1 (p1 + 1) 6 (r1.1 p1 6) (sHouse_bedName hp1)) dX3_readWants_13 ml_3_105 (sTokens isTokens_3) rfl rfl (Nat.le_of_ble_eq_true rfl) ⟨rfl, rfl, Nat.le_of_ble_eq_true rfl, Nat.le_of_ble_eq_true rfl⟩ (fun r2 hr2 => ?_)
  refine x_istore_n (pc := 16) (i := 2) (lv' := [(2, .int r2.1), (0, .ref (xad G 3)), (1, .ref (xad G p1))]) g dX3_readWants_16 rfl (by decide) rfl ?_
  refine x_iload_n (pc := 17) (i := 2) (a := 0) g dX3_readWants_17 rfl rfl ?_
  refine x_iconst (pc := 18) g dX3_readWants_18 ic_m1 ?_
  refine x_icmp_ne (pc := 19) (t := 24) g dX3_readWants_19 (by decide) ?_ ?_
  · refine x_iconst (pc := 22) g dX3_readWants_22 ic_0 ?_
    exact x_zretc (pc := 23) g dX3_readWants_23 rfl (Or.inl rfl) (fun _ h => h)
  · refine x_aload_n (pc := 24) (i := 1) (a := 2) g dX3_readWants_24 rfl rfl ?_
    refine x_getR (pc := 25) (x := p1 + 4) g hW dX3_readWants_25 fl_3_98 (sHouse hp1) rfl ?_
    refine x_iload_n (pc := 28) (i := 2) (a := 0) g dX3_readWants_28 rfl rfl ?_
    refine x_aald4 (pc := 29) (r := fun j => p1 + 5 + j) g hW dX3_readWants_29 (sHouse_bedRow hp1) (fun j h => rowsL_get h) (fun j3 hj3 => ?_)
    refine x_iconst (pc := 30) g dX3_readWants_30 ic_2 ?_
    refine x_ialdc (pc := 31) g hW dX3_readWants_31 (sHouse_bedRowR hp1 hj3) ix_2_3 ?_
    refine x_iconst (pc := 32) g dX3_readWants_32 ic_m1 ?_
    refine x_icmp_eq (pc := 33) (t := 42) g dX3_readWants_33 (by decide) ?_ ?_
    · refine x_aload_n (pc := 42) (i := 1) (a := 2) g dX3_readWants_42 rfl rfl ?_
      refine x_getR (pc := 43) (x := p1 + 4) g hW dX3_readWants_43 fl_3_98 (sHouse hp1) rfl ?_
      refine x_iload_n (pc := 46) (i := 2) (a := 0) g dX3_readWants_46 rfl rfl ?_
      refine x_aald4 (pc := 47) (r := fun j => p1 + 5 + j) g hW dX3_readWants_47 (sHouse_bedRow hp1) (fun j h => rowsL_get h) (fun j4 hj4 => ?_)
      refine x_iconst (pc := 48) g dX3_readWants_48 ic_2 ?_
      refine x_aload_n (pc := 49) (i := 0) (a := 1) g dX3_readWants_49 rfl rfl ?_
      refine x_bipush (pc := 50) g dX3_readWants_50 bi_8 ?_
      refine x_iconst (pc := 52) g dX3_readWants_52 ic_4 ?_
      refine x_Vim (pc := 53) g hW [.int 8, .int 4] [.int 2, .ref (xad G (p1 + 5 + j4))] (c_Tokens_takeWord l G hW r2.2 8 4) dX3_readWants_53 ml_3_118 (sTokens isTokens_3) rfl rfl (Nat.le_of_ble_eq_true rfl) ⟨rfl, rfl, Nat.le_of_ble_eq_true rfl, Nat.le_of_ble_eq_true rfl⟩ (fun r5 hr5 => ?_)
      refine x_iastc (pc := 56) g hW dX3_readWants_56 (sHouse_bedRowR hp1 hj4) ix_2_3 (fun m6 => ?_)
      refine x_aload_n (pc := 57) (i := 1) (a := 2) g dX3_readWants_57 rfl rfl ?_
      refine x_getR (pc := 58) (x := p1 + 4) g hW dX3_readWants_58 fl_3_98 (sHouse hp1) rfl ?_
      refine x_iload_n (pc := 61) (i := 2) (a := 0) g dX3_readWants_61 rfl rfl ?_
      refine x_aald4 (pc := 62) (r := fun j => p1 + 5 + j) g hW dX3_readWants_62 (sHouse_bedRow hp1) (fun j h => rowsL_get h) (fun j7 hj7 => ?_)
      refine x_iconst (pc := 63) g dX3_readWants_63 ic_2 ?_
      refine x_ialdc (pc := 64) g hW dX3_readWants_64 (sHouse_bedRowR hp1 hj7) ix_2_3 ?_
      refine x_iconst (pc := 65) g dX3_readWants_65 ic_m1 ?_
      refine x_icmp_eq (pc := 66) (t := 73) g dX3_readWants_66 (by decide) ?_ ?_
      · refine x_iconst (pc := 73) g dX3_readWants_73 ic_0 ?_
        exact x_zretc (pc := 74) g dX3_readWants_74 rfl (Or.inl rfl) (fun _ h => h)
      · refine x_iconst (pc := 69) g dX3_readWants_69 ic_1 ?_
        refine x_goto (pc := 70) (t := 74) g dX3_readWants_70 (by decide) ?_
        exact x_zretc (pc := 74) g dX3_readWants_74 rfl (Or.inr rfl) (fun _ h => h)
    · refine x_aload_n (pc := 36) (i := 0) (a := 1) g dX3_readWants_36 rfl rfl ?_
      refine x_iconst (pc := 37) g dX3_readWants_37 ic_3 ?_
      refine x_Vim (pc := 38) g hW [.int 3] [] (c_Tokens_failBehind l G hW r2.2 3) dX3_readWants_38 ml_3_91 (sTokens isTokens_3) rfl rfl (Nat.le_of_ble_eq_true rfl) ⟨rfl, rfl, Nat.le_of_ble_eq_true rfl, Nat.le_of_ble_eq_true rfl⟩ (fun r8 hr8 => ?_)
      exact x_zret (pc := 41) g dX3_readWants_41 rfl (fun _ _ h => h)
theorem c_HouseReader_readWants (l : Launch) (G : xG) (hW : WC G) (m : xMem) (p1 : Nat) (hp1 : isHouse p1) : xCim l G yX3_readWants cX3_readWants 3 (some .boolean) rm_HouseReader_readWants [.ref (xad G 3), .ref (xad G p1)] m (HouseReader_readWants m p1) :=
  xCt_of (own := RX3) (by decide) rfl (Nat.le_of_ble_eq_true rfl) rfl ⟨rfl, rfl⟩ (fun E g => T_HouseReader_readWants hW g m p1 hp1)
theorem T_HouseReader_readShut_b41 {l : Launch} {G : xG} {E : xE} (hW : WC G) (g : xGood E l G.1 RX3 cX3_readShut yX3_readShut 4 (some .boolean) rm_HouseReader_readShut) (p1 : Nat) (hp1 : isHouse p1) (v2 : Int32) (s0 : Int32) (m : xMem) : X E G (fun r : Int32 × xMem => (some (Value.int r.1), r.2)) 41 [(1, .ref (xad G p1)), (2, .int v2)] [.int s0] m (HouseReader_readShut_b41 p1 v2 s0 m) := by
  unfold HouseReader_readShut_b41
  refine x_istore_n (pc := 41) (i := 3) (lv' := [(3, .int s0), (1, .ref (xad G p1)), (2, .int v2)]) g dX3_readShut_41 rfl (by decide) rfl ?_
  refine x_iload_n (pc := 42) (i := 3) (a := 0) g dX3_readShut_42 rfl rfl ?_
  refine x_iconst (pc := 43) g dX3_readShut_43 ic_m1 ?_
  refine x_icmp_ne (pc := 44) (t := 49) g dX3_readShut_44 (by decide) ?_ ?_
  · refine x_iconst (pc := 47) g dX3_readShut_47 ic_0 ?_
    exact x_zretc (pc := 48) g dX3_readShut_48 rfl (Or.inl rfl) (fun _ h => h)
  · refine x_aload_n (pc := 49) (i := 1) (a := 1) g dX3_readShut_49 rfl rfl ?_
    refine x_iload_n (pc := 50) (i := 2) (a := 2) g dX3_readShut_50 rfl rfl ?_
    refine x_putI (pc := 51) g hW dX3_readShut_51 fl_3_130 ft_2_2 (sHouse hp1) rfl (fun m5 => ?_)
    refine x_aload_n (pc := 54) (i := 1) (a := 1) g dX3_readShut_54 rfl rfl ?_
    refine x_iload_n (pc := 55) (i := 3) (a := 0) g dX3_readShut_55 rfl rfl ?_
    refine x_putI (pc := 56) g hW dX3_readShut_56 fl_3_133 ft_2_3 (sHouse hp1) rfl (fun m6 => ?_)
    refine x_aload_n (pc := 59) (i := 1) (a := 1) g dX3_readShut_59 rfl rfl ?_
    refine x_iconst (pc := 60) g dX3_readShut_60 ic_1 ?_
    refine x_putZ (pc := 61) g hW dX3_readShut_61 fl_3_127 ft_2_5 (sHouse hp1) rfl (Or.inr rfl) (fun m7 => ?_)
    refine x_iconst (pc := 64) g dX3_readShut_64 ic_1 ?_
    exact x_zretc (pc := 65) g dX3_readShut_65 rfl (Or.inr rfl) (fun _ h => h)
theorem T_HouseReader_readShut {l : Launch} {G : xG} {E : xE} (hW : WC G) (g : xGood E l G.1 RX3 cX3_readShut yX3_readShut 4 (some .boolean) rm_HouseReader_readShut) (m : xMem) (p1 : Nat) (hp1 : isHouse p1) : X E G (fun r : Int32 × xMem => (some (Value.int r.1), r.2)) 0 [(0, .ref (xad G 3)), (1, .ref (xad G p1))] [] m (HouseReader_readShut m p1) := by
  unfold HouseReader_readShut
  refine x_aload_n (pc := 0) (i := 1) (a := 1) g dX3_readShut_0 rfl rfl ?_
  refine x_getI (pc := 1) g hW dX3_readShut_1 fl_3_127 (sHouse hp1) rfl ?_
  refine x_if_eq (pc := 4) (t := 13) g dX3_readShut_4 (by decide) ?_ ?_
  · refine x_aload_n (pc := 13) (i := 0) (a := 0) g dX3_readShut_13 rfl rfl ?_
    refine x_Vv (pc := 14) g hW [] [] (c_Tokens_advance l G hW m) dX3_readShut_14 ml_3_68 (sTokens isTokens_3) rfl rfl (Nat.le_of_ble_eq_true rfl) ⟨rfl, rfl, Nat.le_of_ble_eq_true rfl, Nat.le_of_ble_eq_true rfl⟩ (fun r1 hr1 => ?_)
    refine x_aload_n (pc := 17) (i := 0) (a := 0) g dX3_readShut_17 rfl rfl ?_
    refine x_iconst (pc := 18) g dX3_readShut_18 ic_0 ?_
    refine x_bipush (pc := 19) g dX3_readShut_19 bi_23 ?_
    refine x_Vim (pc := 21) g hW [.int 0, .int 23] [] (c_Tokens_takeNumber l G hW r1 0 23) dX3_readShut_21 ml_3_71 (sTokens isTokens_3) rfl rfl (Nat.le_of_ble_eq_true rfl) ⟨rfl, rfl, Nat.le_of_ble_eq_true rfl, Nat.le_of_ble_eq_true rfl⟩ (fun r2 hr2 => ?_)
    refine x_istore_n (pc := 24) (i := 2) (lv' := [(2, .int r2.1), (0, .ref (xad G 3)), (1, .ref (xad G p1))]) g dX3_readShut_24 rfl (by decide) rfl ?_
    refine x_iload_n (pc := 25) (i := 2) (a := 0) g dX3_readShut_25 rfl rfl ?_
    refine x_iconst (pc := 26) g dX3_readShut_26 ic_m1 ?_
    refine x_icmp_ne (pc := 27) (t := 34) g dX3_readShut_27 (by decide) ?_ ?_
    · refine x_iconst (pc := 30) g dX3_readShut_30 ic_m1 ?_
      refine x_goto (pc := 31) (t := 41) g dX3_readShut_31 (by decide) ?_
      exact x_sub [2, 0] (T_HouseReader_readShut_b41 hW g p1 hp1 r2.1 ((-1)) r2.2) rfl
    · refine x_aload_n (pc := 34) (i := 0) (a := 1) g dX3_readShut_34 rfl rfl ?_
      refine x_iconst (pc := 35) g dX3_readShut_35 ic_0 ?_
      refine x_bipush (pc := 36) g dX3_readShut_36 bi_23 ?_
      refine x_Vim (pc := 38) g hW [.int 0, .int 23] [] (c_Tokens_takeNumber l G hW r2.2 0 23) dX3_readShut_38 ml_3_71 (sTokens isTokens_3) rfl rfl (Nat.le_of_ble_eq_true rfl) ⟨rfl, rfl, Nat.le_of_ble_eq_true rfl, Nat.le_of_ble_eq_true rfl⟩ (fun r3 hr3 => ?_)
      exact x_sub [2, 0] (T_HouseReader_readShut_b41 hW g p1 hp1 r2.1 r3.1 r3.2) rfl
  · refine x_aload_n (pc := 7) (i := 0) (a := 0) g dX3_readShut_7 rfl rfl ?_
    refine x_iconst (pc := 8) g dX3_readShut_8 ic_3 ?_
    refine x_Vim (pc := 9) g hW [.int 3] [] (c_Tokens_fail l G hW m 3) dX3_readShut_9 ml_3_50 (sTokens isTokens_3) rfl rfl (Nat.le_of_ble_eq_true rfl) ⟨rfl, rfl, Nat.le_of_ble_eq_true rfl, Nat.le_of_ble_eq_true rfl⟩ (fun r4 hr4 => ?_)
    exact x_zret (pc := 12) g dX3_readShut_12 rfl (fun _ _ h => h)
theorem c_HouseReader_readShut (l : Launch) (G : xG) (hW : WC G) (m : xMem) (p1 : Nat) (hp1 : isHouse p1) : xCim l G yX3_readShut cX3_readShut 4 (some .boolean) rm_HouseReader_readShut [.ref (xad G 3), .ref (xad G p1)] m (HouseReader_readShut m p1) :=
  xCt_of (own := RX3) (by decide) rfl (Nat.le_of_ble_eq_true rfl) rfl ⟨rfl, rfl⟩ (fun E g => T_HouseReader_readShut hW g m p1 hp1)
theorem T_HouseReader_readAll_b150 {l : Launch} {G : xG} {E : xE} (hW : WC G) (g : xGood E l G.1 RX3 cX3_readAll yX3_readAll 4 (some .int) rm_HouseReader_readAll) (p1 : Nat) (hp1 : isHouse p1) (k6 : Int32 → xMem → Option (Int32 × xMem)) (hk6 : ∀ (v2 : Int32) (m : xMem), X E G (fun r : Int32 × xMem => (some (Value.int r.1), r.2)) 6 [(0, .ref (xad G 3)), (1, .ref (xad G p1)), (2, .int v2)] [] m (k6 v2 m)) (v2 : Int32) (v3 : Int32) (m : xMem) : X E G (fun r : Int32 × xMem => (some (Value.int r.1), r.2)) 150 [(0, .ref (xad G 3)), (1, .ref (xad G p1)), (2, .int v2), (3, .int v3)] [] m (HouseReader_readAll_b150 p1 k6 v2 v3 m) := by
  unfold HouseReader_readAll_b150
  refine x_iload_n (pc := 150) (i := 3) (a := 3) g dX3_readAll_150 rfl rfl ?_
  refine x_if_eq (pc := 151) (t := 163) g dX3_readAll_151 (by decide) ?_ ?_
  · refine x_iconst (pc := 163) g dX3_readAll_163 ic_m1 ?_
    exact x_iret (pc := 164) g dX3_readAll_164 rfl (fun _ h => h)
  · refine x_aload_n (pc := 154) (i := 0) (a := 0) g dX3_readAll_154 rfl rfl ?_
    refine x_bipush (pc := 155) g dX3_readAll_155 bi_59 ?_
    refine x_Vim (pc := 157) g hW [.int 59] [] (c_Tokens_skipSign l G hW m 59) dX3_readAll_157 ml_3_54 (sTokens isTokens_3) rfl rfl (Nat.le_of_ble_eq_true rfl) ⟨rfl, rfl, Nat.le_of_ble_eq_true rfl, Nat.le_of_ble_eq_true rfl⟩ (fun r12 hr12 => ?_)
    refine x_if_ne (pc := 160) (t := 165) g dX3_readAll_160 (by decide) ?_ ?_
    · refine x_iconst (pc := 163) g dX3_readAll_163 ic_m1 ?_
      exact x_iret (pc := 164) g dX3_readAll_164 rfl (fun _ h => h)
    · refine x_iinc (pc := 165) (a := 2) (lv' := [(2, .int (v2 + 1)), (0, .ref (xad G 3)), (1, .ref (xad G p1)), (3, .int v3)]) g dX3_readAll_165 ic_1 rfl (by decide) rfl ?_
      refine x_goto (pc := 168) (t := 6) g dX3_readAll_168 (by decide) ?_
      exact x_sub [1, 2, 0] (hk6 (v2 + 1) r12.2) rfl
theorem T_HouseReader_readAll_b6 {l : Launch} {G : xG} {E : xE} (hW : WC G) (g : xGood E l G.1 RX3 cX3_readAll yX3_readAll 4 (some .int) rm_HouseReader_readAll) (p1 : Nat) (hp1 : isHouse p1) : ∀ (n : Nat) (v2 : Int32) (m : xMem), X E G (fun r : Int32 × xMem => (some (Value.int r.1), r.2)) 6 [(0, .ref (xad G 3)), (1, .ref (xad G p1)), (2, .int v2)] [] m (HouseReader_readAll_b6 p1 n v2 m) := by
  intro n
  induction n with
  | zero => intro v2 m; exact x_none
  | succ n ih =>
    intro v2 m
    rw [HouseReader_readAll_b6]
    refine x_iload_n (pc := 6) (i := 2) (a := 2) g dX3_readAll_6 rfl rfl ?_
    refine x_sipush (pc := 7) g dX3_readAll_7 si_900 ?_
    refine x_icmp_gt (pc := 10) (t := 171) g dX3_readAll_10 (by decide) ?_ ?_
    · refine x_iconst (pc := 171) g dX3_readAll_171 ic_m1 ?_
      exact x_iret (pc := 172) g dX3_readAll_172 rfl (fun _ h => h)
    · refine x_aload_n (pc := 13) (i := 0) (a := 0) g dX3_readAll_13 rfl rfl ?_
      refine x_getI (pc := 14) g hW dX3_readAll_14 fl_3_16 (sTokens isTokens_3) rfl ?_
      refine x_if_ne (pc := 17) (t := 22) g dX3_readAll_17 (by decide) ?_ ?_
      · refine x_iload_n (pc := 20) (i := 2) (a := 2) g dX3_readAll_20 rfl rfl ?_
        exact x_iret (pc := 21) g dX3_readAll_21 rfl (fun _ h => h)
      · refine x_aload_n (pc := 22) (i := 0) (a := 0) g dX3_readAll_22 rfl rfl ?_
        refine x_getI (pc := 23) g hW dX3_readAll_23 fl_3_22 (sTokens isTokens_3) rfl ?_
        refine x_nmI (fun x2 => ?_)
        refine x_if (fun h26_0 => ?_) (fun h26_0 => ?_)
        · refine x_tabIn (pc := 26) (t := 72) (off := 46) g dX3_readAll_26 h26_0 (by decide) ?_
          refine x_aload_n (pc := 72) (i := 0) (a := 0) g dX3_readAll_72 rfl rfl ?_
          refine x_aload_n (pc := 73) (i := 1) (a := 1) g dX3_readAll_73 rfl rfl ?_
          refine x_Sim (pc := 74) g [.ref (xad G 3), .ref (xad G p1)] [] (c_HouseReader_readHouse l G hW m p1 hp1) dX3_readAll_74 ms_3_25 rfl rfl (Nat.le_of_ble_eq_true rfl) ⟨rfl, rfl, Nat.le_of_ble_eq_true rfl, Nat.le_of_ble_eq_true rfl⟩ (fun r3 hr3 => ?_)
          refine x_istore_n (pc := 77) (i := 3) (lv' := [(3, .int r3.1), (0, .ref (xad G 3)), (1, .ref (xad G p1)), (2, .int v2)]) g dX3_readAll_77 rfl (by decide) rfl ?_
          refine x_goto (pc := 78) (t := 150) g dX3_readAll_78 (by decide) ?_
          exact x_sub [1, 2, 3, 0] (T_HouseReader_readAll_b150 hW g p1 hp1 (HouseReader_readAll_b6 p1 n) ih v2 r3.1 r3.2) rfl
        refine x_if (fun h26_1 => ?_) (fun h26_1 => ?_)
        · refine x_tabIn (pc := 26) (t := 81) (off := 55) g dX3_readAll_26 h26_1 (by decide) ?_
          refine x_aload_n (pc := 81) (i := 0) (a := 0) g dX3_readAll_81 rfl rfl ?_
          refine x_aload_n (pc := 82) (i := 1) (a := 1) g dX3_readAll_82 rfl rfl ?_
          refine x_Sim (pc := 83) g [.ref (xad G 3), .ref (xad G p1)] [] (c_HouseReader_readBed l G hW m p1 hp1) dX3_readAll_83 ms_3_29 rfl rfl (Nat.le_of_ble_eq_true rfl) ⟨rfl, rfl, Nat.le_of_ble_eq_true rfl, Nat.le_of_ble_eq_true rfl⟩ (fun r4 hr4 => ?_)
          refine x_istore_n (pc := 86) (i := 3) (lv' := [(3, .int r4.1), (0, .ref (xad G 3)), (1, .ref (xad G p1)), (2, .int v2)]) g dX3_readAll_86 rfl (by decide) rfl ?_
          refine x_goto (pc := 87) (t := 150) g dX3_readAll_87 (by decide) ?_
          exact x_sub [1, 2, 3, 0] (T_HouseReader_readAll_b150 hW g p1 hp1 (HouseReader_readAll_b6 p1 n) ih v2 r4.1 r4.2) rfl
        refine x_if (fun h26_2 => ?_) (fun h26_2 => ?_)
        · refine x_tabIn (pc := 26) (t := 90) (off := 64) g dX3_readAll_26 h26_2 (by decide) ?_
          refine x_aload_n (pc := 90) (i := 0) (a := 0) g dX3_readAll_90 rfl rfl ?_
          refine x_aload_n (pc := 91) (i := 1) (a := 1) g dX3_readAll_91 rfl rfl ?_
          refine x_Sim (pc := 92) g [.ref (xad G 3), .ref (xad G p1)] [] (c_HouseReader_readOwl l G hW m p1 hp1) dX3_readAll_92 ms_3_32 rfl rfl (Nat.le_of_ble_eq_true rfl) ⟨rfl, rfl, Nat.le_of_ble_eq_true rfl, Nat.le_of_ble_eq_true rfl⟩ (fun r5 hr5 => ?_)
          refine x_istore_n (pc := 95) (i := 3) (lv' := [(3, .int r5.1), (0, .ref (xad G 3)), (1, .ref (xad G p1)), (2, .int v2)]) g dX3_readAll_95 rfl (by decide) rfl ?_
          refine x_goto (pc := 96) (t := 150) g dX3_readAll_96 (by decide) ?_
          exact x_sub [1, 2, 3, 0] (T_HouseReader_readAll_b150 hW g p1 hp1 (HouseReader_readAll_b6 p1 n) ih v2 r5.1 r5.2) rfl
        refine x_if (fun h26_3 => ?_) (fun h26_3 => ?_)
        · refine x_tabIn (pc := 26) (t := 99) (off := 73) g dX3_readAll_26 h26_3 (by decide) ?_
          refine x_aload_n (pc := 99) (i := 0) (a := 0) g dX3_readAll_99 rfl rfl ?_
          refine x_aload_n (pc := 100) (i := 1) (a := 1) g dX3_readAll_100 rfl rfl ?_
          refine x_Sim (pc := 101) g [.ref (xad G 3), .ref (xad G p1)] [] (c_HouseReader_readBad l G hW m p1 hp1) dX3_readAll_101 ms_3_35 rfl rfl (Nat.le_of_ble_eq_true rfl) ⟨rfl, rfl, Nat.le_of_ble_eq_true rfl, Nat.le_of_ble_eq_true rfl⟩ (fun r6 hr6 => ?_)
          refine x_istore_n (pc := 104) (i := 3) (lv' := [(3, .int r6.1), (0, .ref (xad G 3)), (1, .ref (xad G p1)), (2, .int v2)]) g dX3_readAll_104 rfl (by decide) rfl ?_
          refine x_goto (pc := 105) (t := 150) g dX3_readAll_105 (by decide) ?_
          exact x_sub [1, 2, 3, 0] (T_HouseReader_readAll_b150 hW g p1 hp1 (HouseReader_readAll_b6 p1 n) ih v2 r6.1 r6.2) rfl
        refine x_if (fun h26_4 => ?_) (fun h26_4 => ?_)
        · refine x_tabIn (pc := 26) (t := 108) (off := 82) g dX3_readAll_26 h26_4 (by decide) ?_
          refine x_aload_n (pc := 108) (i := 0) (a := 0) g dX3_readAll_108 rfl rfl ?_
          refine x_aload_n (pc := 109) (i := 1) (a := 1) g dX3_readAll_109 rfl rfl ?_
          refine x_Sim (pc := 110) g [.ref (xad G 3), .ref (xad G p1)] [] (c_HouseReader_readDeaf l G hW m p1 hp1) dX3_readAll_110 ms_3_38 rfl rfl (Nat.le_of_ble_eq_true rfl) ⟨rfl, rfl, Nat.le_of_ble_eq_true rfl, Nat.le_of_ble_eq_true rfl⟩ (fun r7 hr7 => ?_)
          refine x_istore_n (pc := 113) (i := 3) (lv' := [(3, .int r7.1), (0, .ref (xad G 3)), (1, .ref (xad G p1)), (2, .int v2)]) g dX3_readAll_113 rfl (by decide) rfl ?_
          refine x_goto (pc := 114) (t := 150) g dX3_readAll_114 (by decide) ?_
          exact x_sub [1, 2, 3, 0] (T_HouseReader_readAll_b150 hW g p1 hp1 (HouseReader_readAll_b6 p1 n) ih v2 r7.1 r7.2) rfl
        refine x_if (fun h26_5 => ?_) (fun h26_5 => ?_)
        · refine x_tabIn (pc := 26) (t := 117) (off := 91) g dX3_readAll_26 h26_5 (by decide) ?_
          refine x_aload_n (pc := 117) (i := 0) (a := 0) g dX3_readAll_117 rfl rfl ?_
          refine x_aload_n (pc := 118) (i := 1) (a := 1) g dX3_readAll_118 rfl rfl ?_
          refine x_Sim (pc := 119) g [.ref (xad G 3), .ref (xad G p1)] [] (c_HouseReader_readSound l G hW m p1 hp1) dX3_readAll_119 ms_3_41 rfl rfl (Nat.le_of_ble_eq_true rfl) ⟨rfl, rfl, Nat.le_of_ble_eq_true rfl, Nat.le_of_ble_eq_true rfl⟩ (fun r8 hr8 => ?_)
          refine x_istore_n (pc := 122) (i := 3) (lv' := [(3, .int r8.1), (0, .ref (xad G 3)), (1, .ref (xad G p1)), (2, .int v2)]) g dX3_readAll_122 rfl (by decide) rfl ?_
          refine x_goto (pc := 123) (t := 150) g dX3_readAll_123 (by decide) ?_
          exact x_sub [1, 2, 3, 0] (T_HouseReader_readAll_b150 hW g p1 hp1 (HouseReader_readAll_b6 p1 n) ih v2 r8.1 r8.2) rfl
        refine x_if (fun h26_6 => ?_) (fun h26_6 => ?_)
        · refine x_tabIn (pc := 26) (t := 126) (off := 100) g dX3_readAll_26 h26_6 (by decide) ?_
          refine x_aload_n (pc := 126) (i := 0) (a := 0) g dX3_readAll_126 rfl rfl ?_
          refine x_aload_n (pc := 127) (i := 1) (a := 1) g dX3_readAll_127 rfl rfl ?_
          refine x_Sim (pc := 128) g [.ref (xad G 3), .ref (xad G p1)] [] (c_HouseReader_readWants l G hW m p1 hp1) dX3_readAll_128 ms_3_44 rfl rfl (Nat.le_of_ble_eq_true rfl) ⟨rfl, rfl, Nat.le_of_ble_eq_true rfl, Nat.le_of_ble_eq_true rfl⟩ (fun r9 hr9 => ?_)
          refine x_istore_n (pc := 131) (i := 3) (lv' := [(3, .int r9.1), (0, .ref (xad G 3)), (1, .ref (xad G p1)), (2, .int v2)]) g dX3_readAll_131 rfl (by decide) rfl ?_
          refine x_goto (pc := 132) (t := 150) g dX3_readAll_132 (by decide) ?_
          exact x_sub [1, 2, 3, 0] (T_HouseReader_readAll_b150 hW g p1 hp1 (HouseReader_readAll_b6 p1 n) ih v2 r9.1 r9.2) rfl
        refine x_if (fun h26_7 => ?_) (fun h26_7 => ?_)
        · refine x_tabIn (pc := 26) (t := 135) (off := 109) g dX3_readAll_26 h26_7 (by decide) ?_
          refine x_aload_n (pc := 135) (i := 0) (a := 0) g dX3_readAll_135 rfl rfl ?_
          refine x_aload_n (pc := 136) (i := 1) (a := 1) g dX3_readAll_136 rfl rfl ?_
          refine x_Sim (pc := 137) g [.ref (xad G 3), .ref (xad G p1)] [] (c_HouseReader_readShut l G hW m p1 hp1) dX3_readAll_137 ms_3_47 rfl rfl (Nat.le_of_ble_eq_true rfl) ⟨rfl, rfl, Nat.le_of_ble_eq_true rfl, Nat.le_of_ble_eq_true rfl⟩ (fun r10 hr10 => ?_)
          refine x_istore_n (pc := 140) (i := 3) (lv' := [(3, .int r10.1), (0, .ref (xad G 3)), (1, .ref (xad G p1)), (2, .int v2)]) g dX3_readAll_140 rfl (by decide) rfl ?_
          refine x_goto (pc := 141) (t := 150) g dX3_readAll_141 (by decide) ?_
          exact x_sub [1, 2, 3, 0] (T_HouseReader_readAll_b150 hW g p1 hp1 (HouseReader_readAll_b6 p1 n) ih v2 r10.1 r10.2) rfl
        refine x_tabOut (pc := 26) (t := 144) g dX3_readAll_26 (by have z0 := ne_toInt (k := 0) h26_0 (by decide); have z1 := ne_toInt (k := 1) h26_1 (by decide); have z2 := ne_toInt (k := 2) h26_2 (by decide); have z3 := ne_toInt (k := 3) h26_3 (by decide); have z4 := ne_toInt (k := 4) h26_4 (by decide); have z5 := ne_toInt (k := 5) h26_5 (by decide); have z6 := ne_toInt (k := 6) h26_6 (by decide); have z7 := ne_toInt (k := 7) h26_7 (by decide); omega) (by decide) ?_
        refine x_aload_n (pc := 144) (i := 0) (a := 0) g dX3_readAll_144 rfl rfl ?_
        refine x_iconst (pc := 145) g dX3_readAll_145 ic_1 ?_
        refine x_Vim (pc := 146) g hW [.int 1] [] (c_Tokens_fail l G hW m 1) dX3_readAll_146 ml_3_50 (sTokens isTokens_3) rfl rfl (Nat.le_of_ble_eq_true rfl) ⟨rfl, rfl, Nat.le_of_ble_eq_true rfl, Nat.le_of_ble_eq_true rfl⟩ (fun r11 hr11 => ?_)
        refine x_istore_n (pc := 149) (i := 3) (lv' := [(3, .int r11.1), (0, .ref (xad G 3)), (1, .ref (xad G p1)), (2, .int v2)]) g dX3_readAll_149 rfl (by decide) rfl ?_
        exact x_sub [1, 2, 3, 0] (T_HouseReader_readAll_b150 hW g p1 hp1 (HouseReader_readAll_b6 p1 n) ih v2 r11.1 r11.2) rfl
theorem T_HouseReader_readAll {l : Launch} {G : xG} {E : xE} (hW : WC G) (g : xGood E l G.1 RX3 cX3_readAll yX3_readAll 4 (some .int) rm_HouseReader_readAll) (m : xMem) (p1 : Nat) (hp1 : isHouse p1) : X E G (fun r : Int32 × xMem => (some (Value.int r.1), r.2)) 0 [(0, .ref (xad G 3)), (1, .ref (xad G p1))] [] m (HouseReader_readAll m p1) := by
  unfold HouseReader_readAll
  refine x_aload_n (pc := 0) (i := 1) (a := 1) g dX3_readAll_0 rfl rfl ?_
  refine x_Vv (pc := 1) g hW [] [] (c_House_clear l G hW m p1 hp1) dX3_readAll_1 ml_3_9 (sHouse hp1) rfl rfl (Nat.le_of_ble_eq_true rfl) ⟨rfl, rfl, Nat.le_of_ble_eq_true rfl, Nat.le_of_ble_eq_true rfl⟩ (fun r1 hr1 => ?_)
  refine x_iconst (pc := 4) g dX3_readAll_4 ic_0 ?_
  refine x_istore_n (pc := 5) (i := 2) (lv' := [(2, .int 0), (0, .ref (xad G 3)), (1, .ref (xad G p1))]) g dX3_readAll_5 rfl (by decide) rfl ?_
  exact x_sub [1, 2, 0] (T_HouseReader_readAll_b6 hW g p1 hp1 1000 0 r1) rfl
theorem c_HouseReader_readAll (l : Launch) (G : xG) (hW : WC G) (m : xMem) (p1 : Nat) (hp1 : isHouse p1) : xCim l G yX3_readAll cX3_readAll 4 (some .int) rm_HouseReader_readAll [.ref (xad G 3), .ref (xad G p1)] m (HouseReader_readAll m p1) :=
  xCt_of (own := RX3) (by decide) rfl (Nat.le_of_ble_eq_true rfl) rfl ⟨rfl, rfl⟩ (fun E g => T_HouseReader_readAll hW g m p1 hp1)
theorem T_Image_begin {l : Launch} {G : xG} {E : xE} (hW : WC G) (g : xGood E l G.1 RX4 cX4_begin yX4_begin 2 none rm_Image_begin) (m : xMem) (o : Nat) (p0 : Nat) (ho : isImage o) (hp0 : isHouse p0) : X E G (fun r : xMem => ((none : Option Value), r)) 0 [(0, .ref (xad G o)), (1, .ref (xad G p0))] [] m (Image_begin m o p0) := by
  unfold Image_begin
  refine x_aload_n (pc := 0) (i := 0) (a := 0) g dX4_begin_0 rfl rfl ?_
  refine x_getR (pc := 1) (x := o + 1) g hW dX4_begin_1 fl_4_16 (sImage ho) rfl ?_
  refine x_aload_n (pc := 4) (i := 1) (a := 1) g dX4_begin_4 rfl rfl ?_
  refine x_Vv (pc := 5) g hW [.ref (xad G p0)] [] (c_House_copyFrom l G hW m (o + 1) p0 (sImage_homeI ho) hp0) dX4_begin_5 ml_4_34 (sHouse (sImage_homeI ho)) rfl rfl (Nat.le_of_ble_eq_true rfl) ⟨rfl, rfl, Nat.le_of_ble_eq_true rfl, Nat.le_of_ble_eq_true rfl⟩ (fun r1 hr1 => ?_)
  refine x_aload_n (pc := 8) (i := 0) (a := 0) g dX4_begin_8 rfl rfl ?_
  refine x_getR (pc := 9) (x := o + 28) g hW dX4_begin_9 fl_4_23 (sImage ho) rfl ?_
  refine x_aload_n (pc := 12) (i := 1) (a := 1) g dX4_begin_12 rfl rfl ?_
  refine x_Vv (pc := 13) g hW [.ref (xad G p0)] [] (c_State_begin l G hW r1 (o + 28) p0 (sImage_stateI ho) hp0) dX4_begin_13 ml_4_38 (sState (sImage_stateI ho)) rfl rfl (Nat.le_of_ble_eq_true rfl) ⟨rfl, rfl, Nat.le_of_ble_eq_true rfl, Nat.le_of_ble_eq_true rfl⟩ (fun r2 hr2 => ?_)
  refine x_aload_n (pc := 16) (i := 0) (a := 0) g dX4_begin_16 rfl rfl ?_
  refine x_getR (pc := 17) (x := o + 33) g hW dX4_begin_17 fl_4_30 (sImage ho) rfl ?_
  refine x_iconst (pc := 20) g dX4_begin_20 ic_0 ?_
  refine x_putZ (pc := 21) g hW dX4_begin_21 fl_4_41 ft_5_0 (sSentence (sImage_sayingI ho)) rfl (Or.inl rfl) (fun m3 => ?_)
  exact x_vret (pc := 24) g dX4_begin_24 rfl (fun _ h => h)
theorem c_Image_begin (l : Launch) (G : xG) (hW : WC G) (m : xMem) (o : Nat) (p0 : Nat) (ho : isImage o) (hp0 : isHouse p0) : xCv l G yX4_begin cX4_begin 2 none rm_Image_begin [.ref (xad G o), .ref (xad G p0)] m (Image_begin m o p0) :=
  xCt_of (own := RX4) (by decide) rfl (Nat.le_of_ble_eq_true rfl) rfl ⟨rfl, rfl⟩ (fun E g => T_Image_begin hW g m o p0 ho hp0)
theorem T_Sentence_copyFrom {l : Launch} {G : xG} {E : xE} (hW : WC G) (g : xGood E l G.1 RX5 cX5_copyFrom yX5_copyFrom 2 none rm_Sentence_copyFrom) (m : xMem) (o : Nat) (p0 : Nat) (ho : isSentence o) (hp0 : isSentence p0) : X E G (fun r : xMem => ((none : Option Value), r)) 0 [(0, .ref (xad G o)), (1, .ref (xad G p0))] [] m (Sentence_copyFrom m o p0) := by
  unfold Sentence_copyFrom
  refine x_aload_n (pc := 0) (i := 0) (a := 0) g dX5_copyFrom_0 rfl rfl ?_
  refine x_aload_n (pc := 1) (i := 1) (a := 1) g dX5_copyFrom_1 rfl rfl ?_
  refine x_getI (pc := 2) g hW dX5_copyFrom_2 fl_5_11 (sSentence hp0) rfl ?_
  refine x_rz (fun z2 hz2 => ?_)
  refine x_putZ (pc := 5) g hW dX5_copyFrom_5 fl_5_11 ft_5_0 (sSentence ho) rfl hz2 (fun m1 => ?_)
  refine x_aload_n (pc := 8) (i := 0) (a := 0) g dX5_copyFrom_8 rfl rfl ?_
  refine x_aload_n (pc := 9) (i := 1) (a := 1) g dX5_copyFrom_9 rfl rfl ?_
  refine x_getI (pc := 10) g hW dX5_copyFrom_10 fl_5_19 (sSentence hp0) rfl ?_
  refine x_putI (pc := 13) g hW dX5_copyFrom_13 fl_5_19 ft_5_2 (sSentence ho) rfl (fun m3 => ?_)
  refine x_aload_n (pc := 16) (i := 1) (a := 1) g dX5_copyFrom_16 rfl rfl ?_
  refine x_getR (pc := 17) (x := p0 + 1) g hW dX5_copyFrom_17 fl_5_22 (sSentence hp0) rfl ?_
  refine x_iconst (pc := 20) g dX5_copyFrom_20 ic_0 ?_
  refine x_aload_n (pc := 21) (i := 0) (a := 0) g dX5_copyFrom_21 rfl rfl ?_
  refine x_getR (pc := 22) (x := o + 1) g hW dX5_copyFrom_22 fl_5_22 (sSentence ho) rfl ?_
  refine x_iconst (pc := 25) g dX5_copyFrom_25 ic_0 ?_
  refine x_bipush (pc := 26) g dX5_copyFrom_26 bi_40 ?_
  refine x_copyIc (pc := 28) g hW dX5_copyFrom_28 mk_5_36 mm_arraycopy (sSentence_steps hp0) (sSentence_steps ho) ixc_40_40 ⟨by decide, Nat.le_of_ble_eq_true rfl⟩ (fun m4 => ?_)
  refine x_aload_n (pc := 31) (i := 1) (a := 1) g dX5_copyFrom_31 rfl rfl ?_
  refine x_getR (pc := 32) (x := p0 + 2) g hW dX5_copyFrom_32 fl_5_26 (sSentence hp0) rfl ?_
  refine x_iconst (pc := 35) g dX5_copyFrom_35 ic_0 ?_
  refine x_aload_n (pc := 36) (i := 0) (a := 0) g dX5_copyFrom_36 rfl rfl ?_
  refine x_getR (pc := 37) (x := o + 2) g hW dX5_copyFrom_37 fl_5_26 (sSentence ho) rfl ?_
  refine x_iconst (pc := 40) g dX5_copyFrom_40 ic_0 ?_
  refine x_bipush (pc := 41) g dX5_copyFrom_41 bi_40 ?_
  refine x_copyIc (pc := 43) g hW dX5_copyFrom_43 mk_5_36 mm_arraycopy (sSentence_signs hp0) (sSentence_signs ho) ixc_40_40 ⟨by decide, Nat.le_of_ble_eq_true rfl⟩ (fun m5 => ?_)
  refine x_aload_n (pc := 46) (i := 1) (a := 1) g dX5_copyFrom_46 rfl rfl ?_
  refine x_getR (pc := 47) (x := p0 + 3) g hW dX5_copyFrom_47 fl_5_29 (sSentence hp0) rfl ?_
  refine x_iconst (pc := 50) g dX5_copyFrom_50 ic_0 ?_
  refine x_aload_n (pc := 51) (i := 0) (a := 0) g dX5_copyFrom_51 rfl rfl ?_
  refine x_getR (pc := 52) (x := o + 3) g hW dX5_copyFrom_52 fl_5_29 (sSentence ho) rfl ?_
  refine x_iconst (pc := 55) g dX5_copyFrom_55 ic_0 ?_
  refine x_bipush (pc := 56) g dX5_copyFrom_56 bi_40 ?_
  refine x_copyIc (pc := 58) g hW dX5_copyFrom_58 mk_5_36 mm_arraycopy (sSentence_numbers hp0) (sSentence_numbers ho) ixc_40_40 ⟨by decide, Nat.le_of_ble_eq_true rfl⟩ (fun m6 => ?_)
  exact x_vret (pc := 61) g dX5_copyFrom_61 rfl (fun _ h => h)
theorem c_Sentence_copyFrom (l : Launch) (G : xG) (hW : WC G) (m : xMem) (o : Nat) (p0 : Nat) (ho : isSentence o) (hp0 : isSentence p0) : xCv l G yX5_copyFrom cX5_copyFrom 2 none rm_Sentence_copyFrom [.ref (xad G o), .ref (xad G p0)] m (Sentence_copyFrom m o p0) :=
  xCt_of (own := RX5) (by decide) rfl (Nat.le_of_ble_eq_true rfl) rfl ⟨rfl, rfl⟩ (fun E g => T_Sentence_copyFrom hW g m o p0 ho hp0)
theorem T_Image_copyFrom {l : Launch} {G : xG} {E : xE} (hW : WC G) (g : xGood E l G.1 RX4 cX4_copyFrom yX4_copyFrom 2 none rm_Image_copyFrom) (m : xMem) (o : Nat) (p0 : Nat) (ho : isImage o) (hp0 : isImage p0) : X E G (fun r : xMem => ((none : Option Value), r)) 0 [(0, .ref (xad G o)), (1, .ref (xad G p0))] [] m (Image_copyFrom m o p0) := by
  unfold Image_copyFrom
  refine x_aload_n (pc := 0) (i := 0) (a := 0) g dX4_copyFrom_0 rfl rfl ?_
  refine x_iconst (pc := 1) g dX4_copyFrom_1 ic_1 ?_
  refine x_putZ (pc := 2) g hW dX4_copyFrom_2 fl_4_7 ft_4_0 (sImage ho) rfl (Or.inr rfl) (fun m1 => ?_)
  refine x_aload_n (pc := 5) (i := 0) (a := 0) g dX4_copyFrom_5 rfl rfl ?_
  refine x_getR (pc := 6) (x := o + 1) g hW dX4_copyFrom_6 fl_4_16 (sImage ho) rfl ?_
  refine x_aload_n (pc := 9) (i := 1) (a := 1) g dX4_copyFrom_9 rfl rfl ?_
  refine x_getR (pc := 10) (x := p0 + 1) g hW dX4_copyFrom_10 fl_4_16 (sImage hp0) rfl ?_
  refine x_Vv (pc := 13) g hW [.ref (xad G (p0 + 1))] [] (c_House_copyFrom l G hW m1 (o + 1) (p0 + 1) (sImage_homeI ho) (sImage_homeI hp0)) dX4_copyFrom_13 ml_4_34 (sHouse (sImage_homeI ho)) rfl rfl (Nat.le_of_ble_eq_true rfl) ⟨rfl, rfl, Nat.le_of_ble_eq_true rfl, Nat.le_of_ble_eq_true rfl⟩ (fun r2 hr2 => ?_)
  refine x_aload_n (pc := 16) (i := 0) (a := 0) g dX4_copyFrom_16 rfl rfl ?_
  refine x_getR (pc := 17) (x := o + 28) g hW dX4_copyFrom_17 fl_4_23 (sImage ho) rfl ?_
  refine x_aload_n (pc := 20) (i := 1) (a := 1) g dX4_copyFrom_20 rfl rfl ?_
  refine x_getR (pc := 21) (x := p0 + 28) g hW dX4_copyFrom_21 fl_4_23 (sImage hp0) rfl ?_
  refine x_Vv (pc := 24) g hW [.ref (xad G (p0 + 28))] [] (c_State_copyFrom l G hW r2 (o + 28) (p0 + 28) (sImage_stateI ho) (sImage_stateI hp0)) dX4_copyFrom_24 ml_4_42 (sState (sImage_stateI ho)) rfl rfl (Nat.le_of_ble_eq_true rfl) ⟨rfl, rfl, Nat.le_of_ble_eq_true rfl, Nat.le_of_ble_eq_true rfl⟩ (fun r3 hr3 => ?_)
  refine x_aload_n (pc := 27) (i := 0) (a := 0) g dX4_copyFrom_27 rfl rfl ?_
  refine x_getR (pc := 28) (x := o + 33) g hW dX4_copyFrom_28 fl_4_30 (sImage ho) rfl ?_
  refine x_aload_n (pc := 31) (i := 1) (a := 1) g dX4_copyFrom_31 rfl rfl ?_
  refine x_getR (pc := 32) (x := p0 + 33) g hW dX4_copyFrom_32 fl_4_30 (sImage hp0) rfl ?_
  refine x_Vv (pc := 35) g hW [.ref (xad G (p0 + 33))] [] (c_Sentence_copyFrom l G hW r3 (o + 33) (p0 + 33) (sImage_sayingI ho) (sImage_sayingI hp0)) dX4_copyFrom_35 ml_4_45 (sSentence (sImage_sayingI ho)) rfl rfl (Nat.le_of_ble_eq_true rfl) ⟨rfl, rfl, Nat.le_of_ble_eq_true rfl, Nat.le_of_ble_eq_true rfl⟩ (fun r4 hr4 => ?_)
  exact x_vret (pc := 38) g dX4_copyFrom_38 rfl (fun _ h => h)
theorem c_Image_copyFrom (l : Launch) (G : xG) (hW : WC G) (m : xMem) (o : Nat) (p0 : Nat) (ho : isImage o) (hp0 : isImage p0) : xCv l G yX4_copyFrom cX4_copyFrom 2 none rm_Image_copyFrom [.ref (xad G o), .ref (xad G p0)] m (Image_copyFrom m o p0) :=
  xCt_of (own := RX4) (by decide) rfl (Nat.le_of_ble_eq_true rfl) rfl ⟨rfl, rfl⟩ (fun E g => T_Image_copyFrom hW g m o p0 ho hp0)
theorem T_Sentence_addStep {l : Launch} {G : xG} {E : xE} (hW : WC G) (g : xGood E l G.1 RX5 cX5_addStep yX5_addStep 4 none rm_Sentence_addStep) (m : xMem) (o : Nat) (p0 : Int32) (p1 : Int32) (p2 : Int32) (ho : isSentence o) : X E G (fun r : xMem => ((none : Option Value), r)) 0 [(0, .ref (xad G o)), (1, .int p0), (2, .int p1), (3, .int p2)] [] m (Sentence_addStep m o p0 p1 p2) := by
  unfold Sentence_addStep
  refine x_aload_n (pc := 0) (i := 0) (a := 0) g dX5_addStep_0 rfl rfl ?_
  refine x_getI (pc := 1) g hW dX5_addStep_1 fl_5_19 (sSentence ho) rfl ?_
  refine x_bipush (pc := 4) g dX5_addStep_4 bi_40 ?_
  refine x_icmp_ge (pc := 6) (t := 49) g dX5_addStep_6 (by decide) ?_ ?_
  · refine x_aload_n (pc := 9) (i := 0) (a := 0) g dX5_addStep_9 rfl rfl ?_
    refine x_getR (pc := 10) (x := o + 1) g hW dX5_addStep_10 fl_5_22 (sSentence ho) rfl ?_
    refine x_aload_n (pc := 13) (i := 0) (a := 0) g dX5_addStep_13 rfl rfl ?_
    refine x_getI (pc := 14) g hW dX5_addStep_14 fl_5_19 (sSentence ho) rfl ?_
    refine x_iload_n (pc := 17) (i := 1) (a := 1) g dX5_addStep_17 rfl rfl ?_
    refine x_iast (pc := 18) g hW dX5_addStep_18 (sSentence_steps ho) (fun j2 hj2 m1 => ?_)
    refine x_aload_n (pc := 19) (i := 0) (a := 0) g dX5_addStep_19 rfl rfl ?_
    refine x_getR (pc := 20) (x := o + 2) g hW dX5_addStep_20 fl_5_26 (sSentence ho) rfl ?_
    refine x_aload_n (pc := 23) (i := 0) (a := 0) g dX5_addStep_23 rfl rfl ?_
    refine x_getI (pc := 24) g hW dX5_addStep_24 fl_5_19 (sSentence ho) rfl ?_
    refine x_iload_n (pc := 27) (i := 2) (a := 2) g dX5_addStep_27 rfl rfl ?_
    refine x_iast (pc := 28) g hW dX5_addStep_28 (sSentence_signs ho) (fun j4 hj4 m3 => ?_)
    refine x_aload_n (pc := 29) (i := 0) (a := 0) g dX5_addStep_29 rfl rfl ?_
    refine x_getR (pc := 30) (x := o + 3) g hW dX5_addStep_30 fl_5_29 (sSentence ho) rfl ?_
    refine x_aload_n (pc := 33) (i := 0) (a := 0) g dX5_addStep_33 rfl rfl ?_
    refine x_getI (pc := 34) g hW dX5_addStep_34 fl_5_19 (sSentence ho) rfl ?_
    refine x_iload_n (pc := 37) (i := 3) (a := 3) g dX5_addStep_37 rfl rfl ?_
    refine x_iast (pc := 38) g hW dX5_addStep_38 (sSentence_numbers ho) (fun j6 hj6 m5 => ?_)
    refine x_aload_n (pc := 39) (i := 0) (a := 0) g dX5_addStep_39 rfl rfl ?_
    refine x_dup (pc := 40) g dX5_addStep_40 rfl ?_
    refine x_getI (pc := 41) g hW dX5_addStep_41 fl_5_19 (sSentence ho) rfl ?_
    refine x_iconst (pc := 44) g dX5_addStep_44 ic_1 ?_
    refine x_iadd (pc := 45) g dX5_addStep_45 ?_
    refine x_putI (pc := 46) g hW dX5_addStep_46 fl_5_19 ft_5_2 (sSentence ho) rfl (fun m7 => ?_)
    exact x_vret (pc := 49) g dX5_addStep_49 rfl (fun _ h => h)
  · exact x_vret (pc := 49) g dX5_addStep_49 rfl (fun _ h => h)
theorem c_Sentence_addStep (l : Launch) (G : xG) (hW : WC G) (m : xMem) (o : Nat) (p0 : Int32) (p1 : Int32) (p2 : Int32) (ho : isSentence o) : xCv l G yX5_addStep cX5_addStep 4 none rm_Sentence_addStep [.ref (xad G o), .int p0, .int p1, .int p2] m (Sentence_addStep m o p0 p1 p2) :=
  xCt_of (own := RX5) (by decide) rfl (Nat.le_of_ble_eq_true rfl) rfl ⟨rfl, rfl⟩ (fun E g => T_Sentence_addStep hW g m o p0 p1 p2 ho)
theorem T_Sentence_readPlain_b137 {l : Launch} {G : xG} {E : xE} (hW : WC G) (g : xGood E l G.1 RX5 cX5_readPlain yX5_readPlain 6 (some .boolean) rm_Sentence_readPlain) (o : Nat) (p1 : Nat) (p2 : Int32) (ho : isSentence o) (hp1 : isHouse p1) (v4 : Int32) (v5 : Int32) (m : xMem) : X E G (fun r : Int32 × xMem => (some (Value.int r.1), r.2)) 137 [(0, .ref (xad G o)), (3, .int p2), (4, .int v4), (5, .int v5)] [] m (Sentence_readPlain_b137 o p1 p2 v4 v5 m) := by
  unfold Sentence_readPlain_b137
  refine x_aload_n (pc := 137) (i := 0) (a := 0) g dX5_readPlain_137 rfl rfl ?_
  refine x_iload_n (pc := 138) (i := 3) (a := 1) g dX5_readPlain_138 rfl rfl ?_
  refine x_iload (pc := 139) (a := 2) g dX5_readPlain_139 rfl ?_
  refine x_iload (pc := 141) (a := 3) g dX5_readPlain_141 rfl ?_
  refine x_Vv (pc := 143) g hW [.int p2, .int v4, .int v5] [] (c_Sentence_addStep l G hW m o p2 v4 v5 ho) dX5_readPlain_143 ml_5_64 (sSentence ho) rfl rfl (Nat.le_of_ble_eq_true rfl) ⟨rfl, rfl, Nat.le_of_ble_eq_true rfl, Nat.le_of_ble_eq_true rfl⟩ (fun r8 hr8 => ?_)
  refine x_iload (pc := 146) (a := 3) g dX5_readPlain_146 rfl ?_
  refine x_iconst (pc := 148) g dX5_readPlain_148 ic_m1 ?_
  refine x_icmp_eq (pc := 149) (t := 156) g dX5_readPlain_149 (by decide) ?_ ?_
  · refine x_iconst (pc := 156) g dX5_readPlain_156 ic_0 ?_
    exact x_zretc (pc := 157) g dX5_readPlain_157 rfl (Or.inl rfl) (fun _ h => h)
  · refine x_iconst (pc := 152) g dX5_readPlain_152 ic_1 ?_
    refine x_goto (pc := 153) (t := 157) g dX5_readPlain_153 (by decide) ?_
    exact x_zretc (pc := 157) g dX5_readPlain_157 rfl (Or.inr rfl) (fun _ h => h)
theorem T_Sentence_readPlain_b117 {l : Launch} {G : xG} {E : xE} (hW : WC G) (g : xGood E l G.1 RX5 cX5_readPlain yX5_readPlain 6 (some .boolean) rm_Sentence_readPlain) (o : Nat) (p1 : Nat) (p2 : Int32) (ho : isSentence o) (hp1 : isHouse p1) (m : xMem) : X E G (fun r : Int32 × xMem => (some (Value.int r.1), r.2)) 117 [(0, .ref (xad G o)), (1, .ref (xad G 3)), (3, .int p2)] [] m (Sentence_readPlain_b117 o p1 p2 m) := by
  unfold Sentence_readPlain_b117
  refine x_aload_n (pc := 117) (i := 1) (a := 1) g dX5_readPlain_117 rfl rfl ?_
  refine x_getI (pc := 118) g hW dX5_readPlain_118 fl_5_98 (sTokens isTokens_3) rfl ?_
  refine x_nmI (fun x9 => ?_)
  refine x_istore (pc := 121) (lv' := [(4, .int x9), (0, .ref (xad G o)), (1, .ref (xad G 3)), (3, .int p2)]) g dX5_readPlain_121 (by decide) rfl ?_
  refine x_aload_n (pc := 123) (i := 1) (a := 2) g dX5_readPlain_123 rfl rfl ?_
  refine x_Vv (pc := 124) g hW [] [] (c_Tokens_advance l G hW m) dX5_readPlain_124 ml_5_61 (sTokens isTokens_3) rfl rfl (Nat.le_of_ble_eq_true rfl) ⟨rfl, rfl, Nat.le_of_ble_eq_true rfl, Nat.le_of_ble_eq_true rfl⟩ (fun r10 hr10 => ?_)
  refine x_aload_n (pc := 127) (i := 1) (a := 2) g dX5_readPlain_127 rfl rfl ?_
  refine x_iconst (pc := 128) g dX5_readPlain_128 ic_0 ?_
  refine x_sipush (pc := 129) g dX5_readPlain_129 si_999 ?_
  refine x_Vim (pc := 132) g hW [.int 0, .int 999] [] (c_Tokens_takeNumber l G hW r10 0 999) dX5_readPlain_132 ml_5_101 (sTokens isTokens_3) rfl rfl (Nat.le_of_ble_eq_true rfl) ⟨rfl, rfl, Nat.le_of_ble_eq_true rfl, Nat.le_of_ble_eq_true rfl⟩ (fun r11 hr11 => ?_)
  refine x_istore (pc := 135) (lv' := [(5, .int r11.1), (4, .int x9), (0, .ref (xad G o)), (1, .ref (xad G 3)), (3, .int p2)]) g dX5_readPlain_135 (by decide) rfl ?_
  exact x_sub [2, 4, 1, 0] (T_Sentence_readPlain_b137 hW g o p1 p2 ho hp1 x9 r11.1 r11.2) rfl
theorem T_Sentence_readPlain {l : Launch} {G : xG} {E : xE} (hW : WC G) (g : xGood E l G.1 RX5 cX5_readPlain yX5_readPlain 6 (some .boolean) rm_Sentence_readPlain) (m : xMem) (o : Nat) (p1 : Nat) (p2 : Int32) (ho : isSentence o) (hp1 : isHouse p1) : X E G (fun r : Int32 × xMem => (some (Value.int r.1), r.2)) 0 [(0, .ref (xad G o)), (1, .ref (xad G 3)), (2, .ref (xad G p1)), (3, .int p2)] [] m (Sentence_readPlain m o p1 p2) := by
  unfold Sentence_readPlain
  refine x_iconst (pc := 0) g dX5_readPlain_0 ic_0 ?_
  refine x_istore (pc := 1) (lv' := [(4, .int 0), (0, .ref (xad G o)), (1, .ref (xad G 3)), (2, .ref (xad G p1)), (3, .int p2)]) g dX5_readPlain_1 (by decide) rfl ?_
  refine x_iconst (pc := 3) g dX5_readPlain_3 ic_0 ?_
  refine x_istore (pc := 4) (lv' := [(5, .int 0), (4, .int 0), (0, .ref (xad G o)), (1, .ref (xad G 3)), (2, .ref (xad G p1)), (3, .int p2)]) g dX5_readPlain_4 (by decide) rfl ?_
  refine x_iload_n (pc := 6) (i := 3) (a := 5) g dX5_readPlain_6 rfl rfl ?_
  refine x_if (fun h7_0 => ?_) (fun h7_0 => ?_)
  · refine x_tabIn (pc := 7) (t := 40) (off := 33) g dX5_readPlain_7 h7_0 (by decide) ?_
    refine x_goto (pc := 40) (t := 137) g dX5_readPlain_40 (by decide) ?_
    exact x_sub [2, 5, 1, 0] (T_Sentence_readPlain_b137 hW g o p1 p2 ho hp1 0 0 m) rfl
  refine x_if (fun h7_1 => ?_) (fun h7_1 => ?_)
  · refine x_tabIn (pc := 7) (t := 40) (off := 33) g dX5_readPlain_7 h7_1 (by decide) ?_
    refine x_goto (pc := 40) (t := 137) g dX5_readPlain_40 (by decide) ?_
    exact x_sub [2, 5, 1, 0] (T_Sentence_readPlain_b137 hW g o p1 p2 ho hp1 0 0 m) rfl
  refine x_if (fun h7_2 => ?_) (fun h7_2 => ?_)
  · refine x_tabIn (pc := 7) (t := 43) (off := 36) g dX5_readPlain_7 h7_2 (by decide) ?_
    refine x_aload_n (pc := 43) (i := 1) (a := 3) g dX5_readPlain_43 rfl rfl ?_
    refine x_bipush (pc := 44) g dX5_readPlain_44 bi_12 ?_
    refine x_iconst (pc := 46) g dX5_readPlain_46 ic_4 ?_
    refine x_Vim (pc := 47) g hW [.int 12, .int 4] [] (c_Tokens_takeWord l G hW m 12 4) dX5_readPlain_47 ml_5_81 (sTokens isTokens_3) rfl rfl (Nat.le_of_ble_eq_true rfl) ⟨rfl, rfl, Nat.le_of_ble_eq_true rfl, Nat.le_of_ble_eq_true rfl⟩ (fun r1 hr1 => ?_)
    refine x_istore (pc := 50) (lv' := [(5, .int r1.1), (4, .int 0), (0, .ref (xad G o)), (1, .ref (xad G 3)), (2, .ref (xad G p1)), (3, .int p2)]) g dX5_readPlain_50 (by decide) rfl ?_
    refine x_goto (pc := 52) (t := 137) g dX5_readPlain_52 (by decide) ?_
    exact x_sub [2, 5, 1, 0] (T_Sentence_readPlain_b137 hW g o p1 p2 ho hp1 0 r1.1 r1.2) rfl
  refine x_if (fun h7_3 => ?_) (fun h7_3 => ?_)
  · refine x_tabIn (pc := 7) (t := 55) (off := 48) g dX5_readPlain_7 h7_3 (by decide) ?_
    refine x_aload_n (pc := 55) (i := 1) (a := 3) g dX5_readPlain_55 rfl rfl ?_
    refine x_aload_n (pc := 56) (i := 2) (a := 4) g dX5_readPlain_56 rfl rfl ?_
    refine x_getR (pc := 57) (x := p1 + 2) g hW dX5_readPlain_57 fl_5_85 (sHouse hp1) rfl ?_
    refine x_aload_n (pc := 60) (i := 2) (a := 4) g dX5_readPlain_60 rfl rfl ?_
    refine x_getI (pc := 61) g hW dX5_readPlain_61 fl_5_91 (sHouse hp1) rfl ?_
    refine x_Vim (pc := 64) g hW [.ref (xad G (p1 + 2)), .int (m.1 p1 7)] [] (c_Tokens_takeKnown l G hW m (p1 + 2) 6 (m.1 p1 7) (sHouse_owlName hp1)) dX5_readPlain_64 ml_5_94 (sTokens isTokens_3) rfl rfl (Nat.le_of_ble_eq_true rfl) ⟨rfl, rfl, Nat.le_of_ble_eq_true rfl, Nat.le_of_ble_eq_true rfl⟩ (fun r2 hr2 => ?_)
    refine x_istore (pc := 67) (lv' := [(5, .int r2.1), (4, .int 0), (0, .ref (xad G o)), (1, .ref (xad G 3)), (2, .ref (xad G p1)), (3, .int p2)]) g dX5_readPlain_67 (by decide) rfl ?_
    refine x_goto (pc := 69) (t := 137) g dX5_readPlain_69 (by decide) ?_
    exact x_sub [2, 5, 1, 0] (T_Sentence_readPlain_b137 hW g o p1 p2 ho hp1 0 r2.1 r2.2) rfl
  refine x_if (fun h7_4 => ?_) (fun h7_4 => ?_)
  · refine x_tabIn (pc := 7) (t := 72) (off := 65) g dX5_readPlain_7 h7_4 (by decide) ?_
    refine x_aload_n (pc := 72) (i := 1) (a := 3) g dX5_readPlain_72 rfl rfl ?_
    refine x_bipush (pc := 73) g dX5_readPlain_73 bi_8 ?_
    refine x_iconst (pc := 75) g dX5_readPlain_75 ic_4 ?_
    refine x_Vim (pc := 76) g hW [.int 8, .int 4] [] (c_Tokens_takeWord l G hW m 8 4) dX5_readPlain_76 ml_5_81 (sTokens isTokens_3) rfl rfl (Nat.le_of_ble_eq_true rfl) ⟨rfl, rfl, Nat.le_of_ble_eq_true rfl, Nat.le_of_ble_eq_true rfl⟩ (fun r3 hr3 => ?_)
    refine x_istore (pc := 79) (lv' := [(5, .int r3.1), (4, .int 0), (0, .ref (xad G o)), (1, .ref (xad G 3)), (2, .ref (xad G p1)), (3, .int p2)]) g dX5_readPlain_79 (by decide) rfl ?_
    refine x_goto (pc := 81) (t := 137) g dX5_readPlain_81 (by decide) ?_
    exact x_sub [2, 5, 1, 0] (T_Sentence_readPlain_b137 hW g o p1 p2 ho hp1 0 r3.1 r3.2) rfl
  refine x_tabOut (pc := 7) (t := 84) g dX5_readPlain_7 (by have z24 := ne_toInt (k := 24) h7_0 (by decide); have z25 := ne_toInt (k := 25) h7_1 (by decide); have z26 := ne_toInt (k := 26) h7_2 (by decide); have z27 := ne_toInt (k := 27) h7_3 (by decide); have z28 := ne_toInt (k := 28) h7_4 (by decide); omega) (by decide) ?_
  refine x_aload_n (pc := 84) (i := 1) (a := 3) g dX5_readPlain_84 rfl rfl ?_
  refine x_bipush (pc := 85) g dX5_readPlain_85 bi_60 ?_
  refine x_Vi (pc := 87) g hW [.int 60] [] (c_Tokens_isSign l G hW m 60) dX5_readPlain_87 ml_5_71 (sTokens isTokens_3) rfl rfl (Nat.le_of_ble_eq_true rfl) ⟨rfl, rfl, Nat.le_of_ble_eq_true rfl, Nat.le_of_ble_eq_true rfl⟩ (fun r4 hr4 => ?_)
  refine x_if_ne (pc := 90) (t := 117) g dX5_readPlain_90 (by decide) ?_ ?_
  · refine x_aload_n (pc := 93) (i := 1) (a := 3) g dX5_readPlain_93 rfl rfl ?_
    refine x_bipush (pc := 94) g dX5_readPlain_94 bi_61 ?_
    refine x_Vi (pc := 96) g hW [.int 61] [] (c_Tokens_isSign l G hW m 61) dX5_readPlain_96 ml_5_71 (sTokens isTokens_3) rfl rfl (Nat.le_of_ble_eq_true rfl) ⟨rfl, rfl, Nat.le_of_ble_eq_true rfl, Nat.le_of_ble_eq_true rfl⟩ (fun r5 hr5 => ?_)
    refine x_if_ne (pc := 99) (t := 117) g dX5_readPlain_99 (by decide) ?_ ?_
    · refine x_aload_n (pc := 102) (i := 1) (a := 3) g dX5_readPlain_102 rfl rfl ?_
      refine x_bipush (pc := 103) g dX5_readPlain_103 bi_62 ?_
      refine x_Vi (pc := 105) g hW [.int 62] [] (c_Tokens_isSign l G hW m 62) dX5_readPlain_105 ml_5_71 (sTokens isTokens_3) rfl rfl (Nat.le_of_ble_eq_true rfl) ⟨rfl, rfl, Nat.le_of_ble_eq_true rfl, Nat.le_of_ble_eq_true rfl⟩ (fun r6 hr6 => ?_)
      refine x_if_ne (pc := 108) (t := 117) g dX5_readPlain_108 (by decide) ?_ ?_
      · refine x_aload_n (pc := 111) (i := 1) (a := 3) g dX5_readPlain_111 rfl rfl ?_
        refine x_iconst (pc := 112) g dX5_readPlain_112 ic_1 ?_
        refine x_Vim (pc := 113) g hW [.int 1] [] (c_Tokens_fail l G hW m 1) dX5_readPlain_113 ml_5_51 (sTokens isTokens_3) rfl rfl (Nat.le_of_ble_eq_true rfl) ⟨rfl, rfl, Nat.le_of_ble_eq_true rfl, Nat.le_of_ble_eq_true rfl⟩ (fun r7 hr7 => ?_)
        exact x_zret (pc := 116) g dX5_readPlain_116 rfl (fun _ _ h => h)
      · exact x_sub [2, 3, 5] (T_Sentence_readPlain_b117 hW g o p1 p2 ho hp1 m) rfl
    · exact x_sub [2, 3, 5] (T_Sentence_readPlain_b117 hW g o p1 p2 ho hp1 m) rfl
  · exact x_sub [2, 3, 5] (T_Sentence_readPlain_b117 hW g o p1 p2 ho hp1 m) rfl
theorem c_Sentence_readPlain (l : Launch) (G : xG) (hW : WC G) (m : xMem) (o : Nat) (p1 : Nat) (p2 : Int32) (ho : isSentence o) (hp1 : isHouse p1) : xCim l G yX5_readPlain cX5_readPlain 6 (some .boolean) rm_Sentence_readPlain [.ref (xad G o), .ref (xad G 3), .ref (xad G p1), .int p2] m (Sentence_readPlain m o p1 p2) :=
  xCt_of (own := RX5) (by decide) rfl (Nat.le_of_ble_eq_true rfl) rfl ⟨rfl, rfl⟩ (fun E g => T_Sentence_readPlain hW g m o p1 p2 ho hp1)
theorem T_Sentence_readAlls_b15 {l : Launch} {G : xG} {E : xE} {d : Nat} (hW : WC G) (g : xGood E l G.1 RX5 cX5_readAlls yX5_readAlls 5 (some .boolean) (rmx_Sentence_readAlls d)) (fr : xMem → Nat → Nat → Int32 → Option (Int32 × xMem)) (hq : ∀ (m : xMem) (o : Nat) (p1 : Nat) (p2 : Int32) (ho : isSentence o) (hp1 : isHouse p1), xCim l G yX5_readOne cX5_readOne 6 (some .boolean) (rmx_Sentence_readOne d) [.ref (xad G o), .ref (xad G 3), .ref (xad G p1), .int p2] m (fr m o p1 p2)) (o : Nat) (p1 : Nat) (p2 : Int32) (ho : isSentence o) (hp1 : isHouse p1) : ∀ (n : Nat) (v4 : Int32) (m : xMem), X E G (fun r : Int32 × xMem => (some (Value.int r.1), r.2)) 15 [(0, .ref (xad G o)), (1, .ref (xad G 3)), (2, .ref (xad G p1)), (3, .int p2), (4, .int v4)] [] m (Sentence_readAlls_b15 fr o p1 p2 n v4 m) := by
  intro n
  induction n with
  | zero => intro v4 m; exact x_none
  | succ n ih =>
    intro v4 m
    rw [Sentence_readAlls_b15]
    refine x_iload (pc := 15) (a := 4) g dX5_readAlls_15 rfl ?_
    refine x_bipush (pc := 17) g dX5_readAlls_17 bi_20 ?_
    refine x_icmp_ge (pc := 19) (t := 61) g dX5_readAlls_19 (by decide) ?_ ?_
    · refine x_aload_n (pc := 22) (i := 1) (a := 1) g dX5_readAlls_22 rfl rfl ?_
      refine x_getI (pc := 23) g hW dX5_readAlls_23 fl_5_58 (sTokens isTokens_3) rfl ?_
      refine x_bipush (pc := 26) g dX5_readAlls_26 bi_22 ?_
      refine x_icmp_ne (pc := 28) (t := 61) g dX5_readAlls_28 (by decide) ?_ ?_
      · refine x_aload_n (pc := 31) (i := 1) (a := 1) g dX5_readAlls_31 rfl rfl ?_
        refine x_Vv (pc := 32) g hW [] [] (c_Tokens_advance l G hW m) dX5_readAlls_32 ml_5_61 (sTokens isTokens_3) rfl rfl (Nat.le_of_ble_eq_true rfl) ⟨rfl, rfl, by simp only [rmx_Sentence_readAlls, rm_Tokens_advance]; omega, by simp only [rmx_Sentence_readAlls, rm_Tokens_advance]; omega⟩ (fun r2 hr2 => ?_)
        refine x_aload_n (pc := 35) (i := 0) (a := 0) g dX5_readAlls_35 rfl rfl ?_
        refine x_aload_n (pc := 36) (i := 1) (a := 1) g dX5_readAlls_36 rfl rfl ?_
        refine x_aload_n (pc := 37) (i := 2) (a := 2) g dX5_readAlls_37 rfl rfl ?_
        refine x_iload_n (pc := 38) (i := 3) (a := 3) g dX5_readAlls_38 rfl rfl ?_
        refine x_Vim (pc := 39) g hW [.ref (xad G 3), .ref (xad G p1), .int p2] [] (hq r2 o p1 p2 ho hp1) dX5_readAlls_39 ml_5_68 (sSentence ho) rfl rfl (Nat.le_of_ble_eq_true rfl) ⟨rfl, rfl, by simp only [rmx_Sentence_readAlls, rmx_Sentence_readOne]; omega, by simp only [rmx_Sentence_readAlls, rmx_Sentence_readOne]; omega⟩ (fun r3 hr3 => ?_)
        refine x_if_ne (pc := 42) (t := 47) g dX5_readAlls_42 (by decide) ?_ ?_
        · refine x_iconst (pc := 45) g dX5_readAlls_45 ic_0 ?_
          exact x_zretc (pc := 46) g dX5_readAlls_46 rfl (Or.inl rfl) (fun _ h => h)
        · refine x_aload_n (pc := 47) (i := 0) (a := 0) g dX5_readAlls_47 rfl rfl ?_
          refine x_bipush (pc := 48) g dX5_readAlls_48 bi_22 ?_
          refine x_iconst (pc := 50) g dX5_readAlls_50 ic_0 ?_
          refine x_iconst (pc := 51) g dX5_readAlls_51 ic_0 ?_
          refine x_Vv (pc := 52) g hW [.int 22, .int 0, .int 0] [] (c_Sentence_addStep l G hW r3.2 o 22 0 0 ho) dX5_readAlls_52 ml_5_64 (sSentence ho) rfl rfl (Nat.le_of_ble_eq_true rfl) ⟨rfl, rfl, by simp only [rmx_Sentence_readAlls, rm_Sentence_addStep]; omega, by simp only [rmx_Sentence_readAlls, rm_Sentence_addStep]; omega⟩ (fun r4 hr4 => ?_)
          refine x_iinc (pc := 55) (a := 4) (lv' := [(4, .int (v4 + 1)), (0, .ref (xad G o)), (1, .ref (xad G 3)), (2, .ref (xad G p1)), (3, .int p2)]) g dX5_readAlls_55 ic_1 rfl (by decide) rfl ?_
          refine x_goto (pc := 58) (t := 15) g dX5_readAlls_58 (by decide) ?_
          exact x_sub [1, 2, 3, 4, 0] (ih (v4 + 1) r4) rfl
      · refine x_iconst (pc := 61) g dX5_readAlls_61 ic_1 ?_
        exact x_zretc (pc := 62) g dX5_readAlls_62 rfl (Or.inr rfl) (fun _ h => h)
    · refine x_iconst (pc := 61) g dX5_readAlls_61 ic_1 ?_
      exact x_zretc (pc := 62) g dX5_readAlls_62 rfl (Or.inr rfl) (fun _ h => h)
theorem T_Sentence_readAlls {l : Launch} {G : xG} {E : xE} {d : Nat} (hW : WC G) (g : xGood E l G.1 RX5 cX5_readAlls yX5_readAlls 5 (some .boolean) (rmx_Sentence_readAlls d)) (fr : xMem → Nat → Nat → Int32 → Option (Int32 × xMem)) (hq : ∀ (m : xMem) (o : Nat) (p1 : Nat) (p2 : Int32) (ho : isSentence o) (hp1 : isHouse p1), xCim l G yX5_readOne cX5_readOne 6 (some .boolean) (rmx_Sentence_readOne d) [.ref (xad G o), .ref (xad G 3), .ref (xad G p1), .int p2] m (fr m o p1 p2)) (m : xMem) (o : Nat) (p1 : Nat) (p2 : Int32) (ho : isSentence o) (hp1 : isHouse p1) : X E G (fun r : Int32 × xMem => (some (Value.int r.1), r.2)) 0 [(0, .ref (xad G o)), (1, .ref (xad G 3)), (2, .ref (xad G p1)), (3, .int p2)] [] m (Sentence_readAlls fr m o p1 p2) := by
  unfold Sentence_readAlls
  refine x_aload_n (pc := 0) (i := 0) (a := 0) g dX5_readAlls_0 rfl rfl ?_
  refine x_aload_n (pc := 1) (i := 1) (a := 1) g dX5_readAlls_1 rfl rfl ?_
  refine x_aload_n (pc := 2) (i := 2) (a := 2) g dX5_readAlls_2 rfl rfl ?_
  refine x_iload_n (pc := 3) (i := 3) (a := 3) g dX5_readAlls_3 rfl rfl ?_
  refine x_Vim (pc := 4) g hW [.ref (xad G 3), .ref (xad G p1), .int p2] [] (hq m o p1 p2 ho hp1) dX5_readAlls_4 ml_5_68 (sSentence ho) rfl rfl (Nat.le_of_ble_eq_true rfl) ⟨rfl, rfl, by simp only [rmx_Sentence_readAlls, rmx_Sentence_readOne]; omega, by simp only [rmx_Sentence_readAlls, rmx_Sentence_readOne]; omega⟩ (fun r1 hr1 => ?_)
  refine x_if_ne (pc := 7) (t := 12) g dX5_readAlls_7 (by decide) ?_ ?_
  · refine x_iconst (pc := 10) g dX5_readAlls_10 ic_0 ?_
    exact x_zretc (pc := 11) g dX5_readAlls_11 rfl (Or.inl rfl) (fun _ h => h)
  · refine x_iconst (pc := 12) g dX5_readAlls_12 ic_0 ?_
    refine x_istore (pc := 13) (lv' := [(4, .int 0), (0, .ref (xad G o)), (1, .ref (xad G 3)), (2, .ref (xad G p1)), (3, .int p2)]) g dX5_readAlls_13 (by decide) rfl ?_
    exact x_sub [1, 2, 3, 4, 0] (T_Sentence_readAlls_b15 hW g fr hq o p1 p2 ho hp1 1000 0 r1.2) rfl
theorem c_Sentence_readAlls (l : Launch) (G : xG) (hW : WC G) (fr : xMem → Nat → Nat → Int32 → Option (Int32 × xMem)) (d : Nat) (hq : ∀ (m : xMem) (o : Nat) (p1 : Nat) (p2 : Int32) (ho : isSentence o) (hp1 : isHouse p1), xCim l G yX5_readOne cX5_readOne 6 (some .boolean) (rmx_Sentence_readOne d) [.ref (xad G o), .ref (xad G 3), .ref (xad G p1), .int p2] m (fr m o p1 p2)) (m : xMem) (o : Nat) (p1 : Nat) (p2 : Int32) (ho : isSentence o) (hp1 : isHouse p1) : xCim l G yX5_readAlls cX5_readAlls 5 (some .boolean) (rmx_Sentence_readAlls d) [.ref (xad G o), .ref (xad G 3), .ref (xad G p1), .int p2] m (Sentence_readAlls fr m o p1 p2) :=
  xCt_of (own := RX5) (by decide) rfl (Nat.le_of_ble_eq_true rfl) rfl ⟨rfl, rfl⟩ (fun E g => T_Sentence_readAlls hW g fr hq m o p1 p2 ho hp1)
theorem T_Sentence_readCond_b15 {l : Launch} {G : xG} {E : xE} {d : Nat} (hW : WC G) (g : xGood E l G.1 RX5 cX5_readCond yX5_readCond 5 (some .boolean) (rmx_Sentence_readCond d)) (fr : xMem → Nat → Nat → Int32 → Option (Int32 × xMem)) (hq : ∀ (m : xMem) (o : Nat) (p1 : Nat) (p2 : Int32) (ho : isSentence o) (hp1 : isHouse p1), xCim l G yX5_readOne cX5_readOne 6 (some .boolean) (rmx_Sentence_readOne d) [.ref (xad G o), .ref (xad G 3), .ref (xad G p1), .int p2] m (fr m o p1 p2)) (o : Nat) (p1 : Nat) (p2 : Int32) (ho : isSentence o) (hp1 : isHouse p1) : ∀ (n : Nat) (v4 : Int32) (m : xMem), X E G (fun r : Int32 × xMem => (some (Value.int r.1), r.2)) 15 [(0, .ref (xad G o)), (1, .ref (xad G 3)), (2, .ref (xad G p1)), (3, .int p2), (4, .int v4)] [] m (Sentence_readCond_b15 fr o p1 p2 n v4 m) := by
  intro n
  induction n with
  | zero => intro v4 m; exact x_none
  | succ n ih =>
    intro v4 m
    rw [Sentence_readCond_b15]
    refine x_iload (pc := 15) (a := 4) g dX5_readCond_15 rfl ?_
    refine x_bipush (pc := 17) g dX5_readCond_17 bi_20 ?_
    refine x_icmp_ge (pc := 19) (t := 61) g dX5_readCond_19 (by decide) ?_ ?_
    · refine x_aload_n (pc := 22) (i := 1) (a := 1) g dX5_readCond_22 rfl rfl ?_
      refine x_getI (pc := 23) g hW dX5_readCond_23 fl_5_58 (sTokens isTokens_3) rfl ?_
      refine x_bipush (pc := 26) g dX5_readCond_26 bi_21 ?_
      refine x_icmp_ne (pc := 28) (t := 61) g dX5_readCond_28 (by decide) ?_ ?_
      · refine x_aload_n (pc := 31) (i := 1) (a := 1) g dX5_readCond_31 rfl rfl ?_
        refine x_Vv (pc := 32) g hW [] [] (c_Tokens_advance l G hW m) dX5_readCond_32 ml_5_61 (sTokens isTokens_3) rfl rfl (Nat.le_of_ble_eq_true rfl) ⟨rfl, rfl, by simp only [rmx_Sentence_readCond, rm_Tokens_advance]; omega, by simp only [rmx_Sentence_readCond, rm_Tokens_advance]; omega⟩ (fun r2 hr2 => ?_)
        refine x_aload_n (pc := 35) (i := 0) (a := 0) g dX5_readCond_35 rfl rfl ?_
        refine x_aload_n (pc := 36) (i := 1) (a := 1) g dX5_readCond_36 rfl rfl ?_
        refine x_aload_n (pc := 37) (i := 2) (a := 2) g dX5_readCond_37 rfl rfl ?_
        refine x_iload_n (pc := 38) (i := 3) (a := 3) g dX5_readCond_38 rfl rfl ?_
        refine x_Vim (pc := 39) g hW [.ref (xad G 3), .ref (xad G p1), .int p2] [] (c_Sentence_readAlls l G hW fr d hq r2 o p1 p2 ho hp1) dX5_readCond_39 ml_5_55 (sSentence ho) rfl rfl (Nat.le_of_ble_eq_true rfl) ⟨rfl, rfl, by simp only [rmx_Sentence_readCond, rmx_Sentence_readAlls]; omega, by simp only [rmx_Sentence_readCond, rmx_Sentence_readAlls]; omega⟩ (fun r3 hr3 => ?_)
        refine x_if_ne (pc := 42) (t := 47) g dX5_readCond_42 (by decide) ?_ ?_
        · refine x_iconst (pc := 45) g dX5_readCond_45 ic_0 ?_
          exact x_zretc (pc := 46) g dX5_readCond_46 rfl (Or.inl rfl) (fun _ h => h)
        · refine x_aload_n (pc := 47) (i := 0) (a := 0) g dX5_readCond_47 rfl rfl ?_
          refine x_bipush (pc := 48) g dX5_readCond_48 bi_21 ?_
          refine x_iconst (pc := 50) g dX5_readCond_50 ic_0 ?_
          refine x_iconst (pc := 51) g dX5_readCond_51 ic_0 ?_
          refine x_Vv (pc := 52) g hW [.int 21, .int 0, .int 0] [] (c_Sentence_addStep l G hW r3.2 o 21 0 0 ho) dX5_readCond_52 ml_5_64 (sSentence ho) rfl rfl (Nat.le_of_ble_eq_true rfl) ⟨rfl, rfl, by simp only [rmx_Sentence_readCond, rm_Sentence_addStep]; omega, by simp only [rmx_Sentence_readCond, rm_Sentence_addStep]; omega⟩ (fun r4 hr4 => ?_)
          refine x_iinc (pc := 55) (a := 4) (lv' := [(4, .int (v4 + 1)), (0, .ref (xad G o)), (1, .ref (xad G 3)), (2, .ref (xad G p1)), (3, .int p2)]) g dX5_readCond_55 ic_1 rfl (by decide) rfl ?_
          refine x_goto (pc := 58) (t := 15) g dX5_readCond_58 (by decide) ?_
          exact x_sub [1, 2, 3, 4, 0] (ih (v4 + 1) r4) rfl
      · refine x_iconst (pc := 61) g dX5_readCond_61 ic_1 ?_
        exact x_zretc (pc := 62) g dX5_readCond_62 rfl (Or.inr rfl) (fun _ h => h)
    · refine x_iconst (pc := 61) g dX5_readCond_61 ic_1 ?_
      exact x_zretc (pc := 62) g dX5_readCond_62 rfl (Or.inr rfl) (fun _ h => h)
theorem T_Sentence_readCond {l : Launch} {G : xG} {E : xE} {d : Nat} (hW : WC G) (g : xGood E l G.1 RX5 cX5_readCond yX5_readCond 5 (some .boolean) (rmx_Sentence_readCond d)) (fr : xMem → Nat → Nat → Int32 → Option (Int32 × xMem)) (hq : ∀ (m : xMem) (o : Nat) (p1 : Nat) (p2 : Int32) (ho : isSentence o) (hp1 : isHouse p1), xCim l G yX5_readOne cX5_readOne 6 (some .boolean) (rmx_Sentence_readOne d) [.ref (xad G o), .ref (xad G 3), .ref (xad G p1), .int p2] m (fr m o p1 p2)) (m : xMem) (o : Nat) (p1 : Nat) (p2 : Int32) (ho : isSentence o) (hp1 : isHouse p1) : X E G (fun r : Int32 × xMem => (some (Value.int r.1), r.2)) 0 [(0, .ref (xad G o)), (1, .ref (xad G 3)), (2, .ref (xad G p1)), (3, .int p2)] [] m (Sentence_readCond fr m o p1 p2) := by
  unfold Sentence_readCond
  refine x_aload_n (pc := 0) (i := 0) (a := 0) g dX5_readCond_0 rfl rfl ?_
  refine x_aload_n (pc := 1) (i := 1) (a := 1) g dX5_readCond_1 rfl rfl ?_
  refine x_aload_n (pc := 2) (i := 2) (a := 2) g dX5_readCond_2 rfl rfl ?_
  refine x_iload_n (pc := 3) (i := 3) (a := 3) g dX5_readCond_3 rfl rfl ?_
  refine x_Vim (pc := 4) g hW [.ref (xad G 3), .ref (xad G p1), .int p2] [] (c_Sentence_readAlls l G hW fr d hq m o p1 p2 ho hp1) dX5_readCond_4 ml_5_55 (sSentence ho) rfl rfl (Nat.le_of_ble_eq_true rfl) ⟨rfl, rfl, by simp only [rmx_Sentence_readCond, rmx_Sentence_readAlls]; omega, by simp only [rmx_Sentence_readCond, rmx_Sentence_readAlls]; omega⟩ (fun r1 hr1 => ?_)
  refine x_if_ne (pc := 7) (t := 12) g dX5_readCond_7 (by decide) ?_ ?_
  · refine x_iconst (pc := 10) g dX5_readCond_10 ic_0 ?_
    exact x_zretc (pc := 11) g dX5_readCond_11 rfl (Or.inl rfl) (fun _ h => h)
  · refine x_iconst (pc := 12) g dX5_readCond_12 ic_0 ?_
    refine x_istore (pc := 13) (lv' := [(4, .int 0), (0, .ref (xad G o)), (1, .ref (xad G 3)), (2, .ref (xad G p1)), (3, .int p2)]) g dX5_readCond_13 (by decide) rfl ?_
    exact x_sub [1, 2, 3, 4, 0] (T_Sentence_readCond_b15 hW g fr hq o p1 p2 ho hp1 1000 0 r1.2) rfl
theorem c_Sentence_readCond (l : Launch) (G : xG) (hW : WC G) (fr : xMem → Nat → Nat → Int32 → Option (Int32 × xMem)) (d : Nat) (hq : ∀ (m : xMem) (o : Nat) (p1 : Nat) (p2 : Int32) (ho : isSentence o) (hp1 : isHouse p1), xCim l G yX5_readOne cX5_readOne 6 (some .boolean) (rmx_Sentence_readOne d) [.ref (xad G o), .ref (xad G 3), .ref (xad G p1), .int p2] m (fr m o p1 p2)) (m : xMem) (o : Nat) (p1 : Nat) (p2 : Int32) (ho : isSentence o) (hp1 : isHouse p1) : xCim l G yX5_readCond cX5_readCond 5 (some .boolean) (rmx_Sentence_readCond d) [.ref (xad G o), .ref (xad G 3), .ref (xad G p1), .int p2] m (Sentence_readCond fr m o p1 p2) :=
  xCt_of (own := RX5) (by decide) rfl (Nat.le_of_ble_eq_true rfl) rfl ⟨rfl, rfl⟩ (fun E g => T_Sentence_readCond hW g fr hq m o p1 p2 ho hp1)
theorem T_Sentence_readOne_b33 {l : Launch} {G : xG} {E : xE} {d : Nat} (hW : WC G) (g : xGood E l G.1 RX5 cX5_readOne yX5_readOne 6 (some .boolean) (rmx_Sentence_readOne (d + 1))) (fr : xMem → Nat → Nat → Int32 → Option (Int32 × xMem)) (hq : ∀ (m : xMem) (o : Nat) (p1 : Nat) (p2 : Int32) (ho : isSentence o) (hp1 : isHouse p1), xCim l G yX5_readOne cX5_readOne 6 (some .boolean) (rmx_Sentence_readOne d) [.ref (xad G o), .ref (xad G 3), .ref (xad G p1), .int p2] m (fr m o p1 p2)) (o : Nat) (p1 : Nat) (p2 : Int32) (ho : isSentence o) (hp1 : isHouse p1) (m : xMem) : X E G (fun r : Int32 × xMem => (some (Value.int r.1), r.2)) 33 [(1, .ref (xad G 3))] [] m (Sentence_readOne_b33 fr o p1 p2 m) := by
  unfold Sentence_readOne_b33
  refine x_aload_n (pc := 33) (i := 1) (a := 0) g dX5_readOne_33 rfl rfl ?_
  refine x_iconst (pc := 34) g dX5_readOne_34 ic_1 ?_
  refine x_Vim (pc := 35) g hW [.int 1] [] (c_Tokens_fail l G hW m 1) dX5_readOne_35 ml_5_51 (sTokens isTokens_3) rfl rfl (Nat.le_of_ble_eq_true rfl) ⟨rfl, rfl, by simp only [rmx_Sentence_readOne, rm_Tokens_fail]; omega, by simp only [rmx_Sentence_readOne, rm_Tokens_fail]; omega⟩ (fun r3 hr3 => ?_)
  exact x_zret (pc := 38) g dX5_readOne_38 rfl (fun _ _ h => h)
theorem T_Sentence_readOne_b54 {l : Launch} {G : xG} {E : xE} {d : Nat} (hW : WC G) (g : xGood E l G.1 RX5 cX5_readOne yX5_readOne 6 (some .boolean) (rmx_Sentence_readOne (d + 1))) (fr : xMem → Nat → Nat → Int32 → Option (Int32 × xMem)) (hq : ∀ (m : xMem) (o : Nat) (p1 : Nat) (p2 : Int32) (ho : isSentence o) (hp1 : isHouse p1), xCim l G yX5_readOne cX5_readOne 6 (some .boolean) (rmx_Sentence_readOne d) [.ref (xad G o), .ref (xad G 3), .ref (xad G p1), .int p2] m (fr m o p1 p2)) (o : Nat) (p1 : Nat) (p2 : Int32) (ho : isSentence o) (hp1 : isHouse p1) (m : xMem) : X E G (fun r : Int32 × xMem => (some (Value.int r.1), r.2)) 54 [(1, .ref (xad G 3))] [] m (Sentence_readOne_b54 fr o p1 p2 m) := by
  unfold Sentence_readOne_b54
  refine x_aload_n (pc := 54) (i := 1) (a := 0) g dX5_readOne_54 rfl rfl ?_
  refine x_iconst (pc := 55) g dX5_readOne_55 ic_4 ?_
  refine x_Vim (pc := 56) g hW [.int 4] [] (c_Tokens_fail l G hW m 4) dX5_readOne_56 ml_5_51 (sTokens isTokens_3) rfl rfl (Nat.le_of_ble_eq_true rfl) ⟨rfl, rfl, by simp only [rmx_Sentence_readOne, rm_Tokens_fail]; omega, by simp only [rmx_Sentence_readOne, rm_Tokens_fail]; omega⟩ (fun r11 hr11 => ?_)
  exact x_zret (pc := 59) g dX5_readOne_59 rfl (fun _ _ h => h)
theorem T_Sentence_readOne_b39 {l : Launch} {G : xG} {E : xE} {d : Nat} (hW : WC G) (g : xGood E l G.1 RX5 cX5_readOne yX5_readOne 6 (some .boolean) (rmx_Sentence_readOne (d + 1))) (fr : xMem → Nat → Nat → Int32 → Option (Int32 × xMem)) (hq : ∀ (m : xMem) (o : Nat) (p1 : Nat) (p2 : Int32) (ho : isSentence o) (hp1 : isHouse p1), xCim l G yX5_readOne cX5_readOne 6 (some .boolean) (rmx_Sentence_readOne d) [.ref (xad G o), .ref (xad G 3), .ref (xad G p1), .int p2] m (fr m o p1 p2)) (o : Nat) (p1 : Nat) (p2 : Int32) (ho : isSentence o) (hp1 : isHouse p1) (v4 : Int32) (v5 : Int32) (m : xMem) : X E G (fun r : Int32 × xMem => (some (Value.int r.1), r.2)) 39 [(0, .ref (xad G o)), (1, .ref (xad G 3)), (2, .ref (xad G p1)), (3, .int p2), (4, .int v4), (5, .int v5)] [] m (Sentence_readOne_b39 fr o p1 p2 v4 v5 m) := by
  unfold Sentence_readOne_b39
  refine x_aload_n (pc := 39) (i := 0) (a := 0) g dX5_readOne_39 rfl rfl ?_
  refine x_getI (pc := 40) g hW dX5_readOne_40 fl_5_15 (sSentence ho) rfl ?_
  refine x_bipush (pc := 43) g dX5_readOne_43 bi_20 ?_
  refine x_icmp_ge (pc := 45) (t := 54) g dX5_readOne_45 (by decide) ?_ ?_
  · refine x_iload_n (pc := 48) (i := 3) (a := 3) g dX5_readOne_48 rfl rfl ?_
    refine x_bipush (pc := 49) g dX5_readOne_49 bi_8 ?_
    refine x_icmp_le (pc := 51) (t := 60) g dX5_readOne_51 (by decide) ?_ ?_
    · exact x_sub [1] (T_Sentence_readOne_b54 hW g fr hq o p1 p2 ho hp1 m) rfl
    · refine x_aload_n (pc := 60) (i := 0) (a := 0) g dX5_readOne_60 rfl rfl ?_
      refine x_dup (pc := 61) g dX5_readOne_61 rfl ?_
      refine x_getI (pc := 62) g hW dX5_readOne_62 fl_5_15 (sSentence ho) rfl ?_
      refine x_iconst (pc := 65) g dX5_readOne_65 ic_1 ?_
      refine x_iadd (pc := 66) g dX5_readOne_66 ?_
      refine x_putI (pc := 67) g hW dX5_readOne_67 fl_5_15 ft_5_1 (sSentence ho) rfl (fun m4 => ?_)
      refine x_aload_n (pc := 70) (i := 1) (a := 1) g dX5_readOne_70 rfl rfl ?_
      refine x_Vv (pc := 71) g hW [] [] (c_Tokens_advance l G hW m4) dX5_readOne_71 ml_5_61 (sTokens isTokens_3) rfl rfl (Nat.le_of_ble_eq_true rfl) ⟨rfl, rfl, by simp only [rmx_Sentence_readOne, rm_Tokens_advance]; omega, by simp only [rmx_Sentence_readOne, rm_Tokens_advance]; omega⟩ (fun r5 hr5 => ?_)
      refine x_iload (pc := 74) (a := 4) g dX5_readOne_74 rfl ?_
      refine x_if_eq (pc := 76) (t := 106) g dX5_readOne_76 (by decide) ?_ ?_
      · refine x_iload (pc := 106) (a := 5) g dX5_readOne_106 rfl ?_
        refine x_bipush (pc := 108) g dX5_readOne_108 bi_23 ?_
        refine x_icmp_ne (pc := 110) (t := 137) g dX5_readOne_110 (by decide) ?_ ?_
        · refine x_aload_n (pc := 113) (i := 0) (a := 0) g dX5_readOne_113 rfl rfl ?_
          refine x_aload_n (pc := 114) (i := 1) (a := 1) g dX5_readOne_114 rfl rfl ?_
          refine x_aload_n (pc := 115) (i := 2) (a := 2) g dX5_readOne_115 rfl rfl ?_
          refine x_iload_n (pc := 116) (i := 3) (a := 3) g dX5_readOne_116 rfl rfl ?_
          refine x_iconst (pc := 117) g dX5_readOne_117 ic_1 ?_
          refine x_iadd (pc := 118) g dX5_readOne_118 ?_
          refine x_Vim (pc := 119) g hW [.ref (xad G 3), .ref (xad G p1), .int (p2 + 1)] [] (hq r5 o p1 (p2 + 1) ho hp1) dX5_readOne_119 ml_5_68 (sSentence ho) rfl rfl (Nat.le_of_ble_eq_true rfl) ⟨rfl, rfl, by simp only [rmx_Sentence_readOne, rmx_Sentence_readOne]; omega, by simp only [rmx_Sentence_readOne, rmx_Sentence_readOne]; omega⟩ (fun r6 hr6 => ?_)
          refine x_if_ne (pc := 122) (t := 127) g dX5_readOne_122 (by decide) ?_ ?_
          · refine x_iconst (pc := 125) g dX5_readOne_125 ic_0 ?_
            exact x_zretc (pc := 126) g dX5_readOne_126 rfl (Or.inl rfl) (fun _ h => h)
          · refine x_aload_n (pc := 127) (i := 0) (a := 0) g dX5_readOne_127 rfl rfl ?_
            refine x_bipush (pc := 128) g dX5_readOne_128 bi_23 ?_
            refine x_iconst (pc := 130) g dX5_readOne_130 ic_0 ?_
            refine x_iconst (pc := 131) g dX5_readOne_131 ic_0 ?_
            refine x_Vv (pc := 132) g hW [.int 23, .int 0, .int 0] [] (c_Sentence_addStep l G hW r6.2 o 23 0 0 ho) dX5_readOne_132 ml_5_64 (sSentence ho) rfl rfl (Nat.le_of_ble_eq_true rfl) ⟨rfl, rfl, by simp only [rmx_Sentence_readOne, rm_Sentence_addStep]; omega, by simp only [rmx_Sentence_readOne, rm_Sentence_addStep]; omega⟩ (fun r7 hr7 => ?_)
            refine x_iconst (pc := 135) g dX5_readOne_135 ic_1 ?_
            exact x_zretc (pc := 136) g dX5_readOne_136 rfl (Or.inr rfl) (fun _ h => h)
        · refine x_aload_n (pc := 137) (i := 0) (a := 0) g dX5_readOne_137 rfl rfl ?_
          refine x_aload_n (pc := 138) (i := 1) (a := 1) g dX5_readOne_138 rfl rfl ?_
          refine x_aload_n (pc := 139) (i := 2) (a := 2) g dX5_readOne_139 rfl rfl ?_
          refine x_iload (pc := 140) (a := 5) g dX5_readOne_140 rfl ?_
          refine x_Vim (pc := 142) g hW [.ref (xad G 3), .ref (xad G p1), .int v5] [] (c_Sentence_readPlain l G hW r5 o p1 v5 ho hp1) dX5_readOne_142 ml_5_78 (sSentence ho) rfl rfl (Nat.le_of_ble_eq_true rfl) ⟨rfl, rfl, by simp only [rmx_Sentence_readOne, rm_Sentence_readPlain]; omega, by simp only [rmx_Sentence_readOne, rm_Sentence_readPlain]; omega⟩ (fun r8 hr8 => ?_)
          exact x_zret (pc := 145) g dX5_readOne_145 rfl (fun _ _ h => h)
      · refine x_aload_n (pc := 79) (i := 0) (a := 0) g dX5_readOne_79 rfl rfl ?_
        refine x_aload_n (pc := 80) (i := 1) (a := 1) g dX5_readOne_80 rfl rfl ?_
        refine x_aload_n (pc := 81) (i := 2) (a := 2) g dX5_readOne_81 rfl rfl ?_
        refine x_iload_n (pc := 82) (i := 3) (a := 3) g dX5_readOne_82 rfl rfl ?_
        refine x_iconst (pc := 83) g dX5_readOne_83 ic_1 ?_
        refine x_iadd (pc := 84) g dX5_readOne_84 ?_
        refine x_Vim (pc := 85) g hW [.ref (xad G 3), .ref (xad G p1), .int (p2 + 1)] [] (c_Sentence_readCond l G hW fr d hq r5 o p1 (p2 + 1) ho hp1) dX5_readOne_85 ml_5_42 (sSentence ho) rfl rfl (Nat.le_of_ble_eq_true rfl) ⟨rfl, rfl, by simp only [rmx_Sentence_readOne, rmx_Sentence_readCond]; omega, by simp only [rmx_Sentence_readOne, rmx_Sentence_readCond]; omega⟩ (fun r9 hr9 => ?_)
        refine x_if_eq (pc := 88) (t := 104) g dX5_readOne_88 (by decide) ?_ ?_
        · refine x_iconst (pc := 104) g dX5_readOne_104 ic_0 ?_
          exact x_zretc (pc := 105) g dX5_readOne_105 rfl (Or.inl rfl) (fun _ h => h)
        · refine x_aload_n (pc := 91) (i := 1) (a := 1) g dX5_readOne_91 rfl rfl ?_
          refine x_bipush (pc := 92) g dX5_readOne_92 bi_41 ?_
          refine x_Vim (pc := 94) g hW [.int 41] [] (c_Tokens_skipSign l G hW r9.2 41) dX5_readOne_94 ml_5_75 (sTokens isTokens_3) rfl rfl (Nat.le_of_ble_eq_true rfl) ⟨rfl, rfl, by simp only [rmx_Sentence_readOne, rm_Tokens_skipSign]; omega, by simp only [rmx_Sentence_readOne, rm_Tokens_skipSign]; omega⟩ (fun r10 hr10 => ?_)
          refine x_if_eq (pc := 97) (t := 104) g dX5_readOne_97 (by decide) ?_ ?_
          · refine x_iconst (pc := 104) g dX5_readOne_104 ic_0 ?_
            exact x_zretc (pc := 105) g dX5_readOne_105 rfl (Or.inl rfl) (fun _ h => h)
          · refine x_iconst (pc := 100) g dX5_readOne_100 ic_1 ?_
            refine x_goto (pc := 101) (t := 105) g dX5_readOne_101 (by decide) ?_
            exact x_zretc (pc := 105) g dX5_readOne_105 rfl (Or.inr rfl) (fun _ h => h)
  · exact x_sub [1] (T_Sentence_readOne_b54 hW g fr hq o p1 p2 ho hp1 m) rfl
theorem T_Sentence_readOne_body {l : Launch} {G : xG} {E : xE} {d : Nat} (hW : WC G) (g : xGood E l G.1 RX5 cX5_readOne yX5_readOne 6 (some .boolean) (rmx_Sentence_readOne (d + 1))) (fr : xMem → Nat → Nat → Int32 → Option (Int32 × xMem)) (hq : ∀ (m : xMem) (o : Nat) (p1 : Nat) (p2 : Int32) (ho : isSentence o) (hp1 : isHouse p1), xCim l G yX5_readOne cX5_readOne 6 (some .boolean) (rmx_Sentence_readOne d) [.ref (xad G o), .ref (xad G 3), .ref (xad G p1), .int p2] m (fr m o p1 p2)) (m : xMem) (o : Nat) (p1 : Nat) (p2 : Int32) (ho : isSentence o) (hp1 : isHouse p1) : X E G (fun r : Int32 × xMem => (some (Value.int r.1), r.2)) 0 [(0, .ref (xad G o)), (1, .ref (xad G 3)), (2, .ref (xad G p1)), (3, .int p2)] [] m (Sentence_readOne_body fr m o p1 p2) := by
  unfold Sentence_readOne_body
  refine x_aload_n (pc := 0) (i := 1) (a := 1) g dX5_readOne_0 rfl rfl ?_
  refine x_bipush (pc := 1) g dX5_readOne_1 bi_40 ?_
  refine x_Vi (pc := 3) g hW [.int 40] [] (c_Tokens_isSign l G hW m 40) dX5_readOne_3 ml_5_71 (sTokens isTokens_3) rfl rfl (Nat.le_of_ble_eq_true rfl) ⟨rfl, rfl, by simp only [rmx_Sentence_readOne, rm_Tokens_isSign]; omega, by simp only [rmx_Sentence_readOne, rm_Tokens_isSign]; omega⟩ (fun r1 hr1 => ?_)
  refine x_istore (pc := 6) (lv' := [(4, .int r1), (0, .ref (xad G o)), (1, .ref (xad G 3)), (2, .ref (xad G p1)), (3, .int p2)]) g dX5_readOne_6 (by decide) rfl ?_
  refine x_aload_n (pc := 8) (i := 1) (a := 2) g dX5_readOne_8 rfl rfl ?_
  refine x_getI (pc := 9) g hW dX5_readOne_9 fl_5_58 (sTokens isTokens_3) rfl ?_
  refine x_nmI (fun x2 => ?_)
  refine x_istore (pc := 12) (lv' := [(5, .int x2), (4, .int r1), (0, .ref (xad G o)), (1, .ref (xad G 3)), (2, .ref (xad G p1)), (3, .int p2)]) g dX5_readOne_12 (by decide) rfl ?_
  refine x_iload (pc := 14) (a := 1) g dX5_readOne_14 rfl ?_
  refine x_if_ne (pc := 16) (t := 39) g dX5_readOne_16 (by decide) ?_ ?_
  · refine x_iload (pc := 19) (a := 0) g dX5_readOne_19 rfl ?_
    refine x_bipush (pc := 21) g dX5_readOne_21 bi_23 ?_
    refine x_icmp_lt (pc := 23) (t := 33) g dX5_readOne_23 (by decide) ?_ ?_
    · exact x_sub [3] (T_Sentence_readOne_b33 hW g fr hq o p1 p2 ho hp1 m) rfl
    · refine x_iload (pc := 26) (a := 0) g dX5_readOne_26 rfl ?_
      refine x_bipush (pc := 28) g dX5_readOne_28 bi_31 ?_
      refine x_icmp_le (pc := 30) (t := 39) g dX5_readOne_30 (by decide) ?_ ?_
      · exact x_sub [3] (T_Sentence_readOne_b33 hW g fr hq o p1 p2 ho hp1 m) rfl
      · exact x_sub [2, 3, 4, 5, 1, 0] (T_Sentence_readOne_b39 hW g fr hq o p1 p2 ho hp1 r1 x2 m) rfl
  · exact x_sub [2, 3, 4, 5, 1, 0] (T_Sentence_readOne_b39 hW g fr hq o p1 p2 ho hp1 r1 x2 m) rfl
theorem c_Sentence_readOne (l : Launch) (G : xG) (hW : WC G) : ∀ (d : Nat) (m : xMem) (o : Nat) (p1 : Nat) (p2 : Int32) (ho : isSentence o) (hp1 : isHouse p1), xCim l G yX5_readOne cX5_readOne 6 (some .boolean) (rmx_Sentence_readOne d) [.ref (xad G o), .ref (xad G 3), .ref (xad G p1), .int p2] m (Sentence_readOne d m o p1 p2) := by
  intro d
  induction d with
  | zero => intro m o p1 p2 ho hp1 z hz; cases hz
  | succ d ih =>
    intro m o p1 p2 ho hp1
    exact xCt_of (own := RX5) (by decide) rfl (Nat.le_of_ble_eq_true rfl) rfl ⟨rfl, rfl⟩ (fun E g => T_Sentence_readOne_body hW g (Sentence_readOne d) ih m o p1 p2 ho hp1)
theorem T_Sentence_readAll_b41 {l : Launch} {G : xG} {E : xE} (hW : WC G) (g : xGood E l G.1 RX5 cX5_readAll yX5_readAll 3 (some .boolean) rm_Sentence_readAll) (o : Nat) (p1 : Nat) (ho : isSentence o) (hp1 : isHouse p1) (s0 : Int32) (m : xMem) : X E G (fun r : Int32 × xMem => (some (Value.int r.1), r.2)) 41 [(0, .ref (xad G o))] [.int s0, .ref (xad G o)] m (Sentence_readAll_b41 o p1 s0 m) := by
  unfold Sentence_readAll_b41
  refine x_rz (fun z6 hz6 => ?_)
  refine x_putZ (pc := 41) g hW dX5_readAll_41 fl_5_11 ft_5_0 (sSentence ho) rfl hz6 (fun m5 => ?_)
  refine x_aload_n (pc := 44) (i := 0) (a := 0) g dX5_readAll_44 rfl rfl ?_
  refine x_getI (pc := 45) g hW dX5_readAll_45 fl_5_11 (sSentence ho) rfl ?_
  exact x_zret (pc := 48) g dX5_readAll_48 rfl (fun _ _ h => h)
theorem T_Sentence_readAll {l : Launch} {G : xG} {E : xE} (hW : WC G) (g : xGood E l G.1 RX5 cX5_readAll yX5_readAll 3 (some .boolean) rm_Sentence_readAll) (m : xMem) (o : Nat) (p1 : Nat) (ho : isSentence o) (hp1 : isHouse p1) : X E G (fun r : Int32 × xMem => (some (Value.int r.1), r.2)) 0 [(0, .ref (xad G o)), (1, .ref (xad G 3)), (2, .ref (xad G p1))] [] m (Sentence_readAll m o p1) := by
  unfold Sentence_readAll
  refine x_aload_n (pc := 0) (i := 0) (a := 0) g dX5_readAll_0 rfl rfl ?_
  refine x_iconst (pc := 1) g dX5_readAll_1 ic_0 ?_
  refine x_putI (pc := 2) g hW dX5_readAll_2 fl_5_15 ft_5_1 (sSentence ho) rfl (fun m1 => ?_)
  refine x_aload_n (pc := 5) (i := 0) (a := 0) g dX5_readAll_5 rfl rfl ?_
  refine x_iconst (pc := 6) g dX5_readAll_6 ic_0 ?_
  refine x_putI (pc := 7) g hW dX5_readAll_7 fl_5_19 ft_5_2 (sSentence ho) rfl (fun m2 => ?_)
  refine x_aload_n (pc := 10) (i := 0) (a := 0) g dX5_readAll_10 rfl rfl ?_
  refine x_aload_n (pc := 11) (i := 0) (a := 0) g dX5_readAll_11 rfl rfl ?_
  refine x_aload_n (pc := 12) (i := 1) (a := 1) g dX5_readAll_12 rfl rfl ?_
  refine x_aload_n (pc := 13) (i := 2) (a := 2) g dX5_readAll_13 rfl rfl ?_
  refine x_iconst (pc := 14) g dX5_readAll_14 ic_1 ?_
  refine x_Vim (pc := 15) g hW [.ref (xad G 3), .ref (xad G p1), .int 1] [.ref (xad G o)] (c_Sentence_readCond l G hW (Sentence_readOne 12) 12 (c_Sentence_readOne l G hW 12) m2 o p1 1 ho hp1) dX5_readAll_15 ml_5_42 (sSentence ho) rfl rfl (Nat.le_of_ble_eq_true rfl) ⟨rfl, rfl, by decide, by decide⟩ (fun r3 hr3 => ?_)
  refine x_if_eq (pc := 18) (t := 40) g dX5_readAll_18 (by decide) ?_ ?_
  · refine x_iconst (pc := 40) g dX5_readAll_40 ic_0 ?_
    exact x_sub [0] (T_Sentence_readAll_b41 hW g o p1 ho hp1 0 r3.2) rfl
  · refine x_aload_n (pc := 21) (i := 1) (a := 1) g dX5_readAll_21 rfl rfl ?_
    refine x_getI (pc := 22) g hW dX5_readAll_22 fl_5_46 (sTokens isTokens_3) rfl ?_
    refine x_if_eq (pc := 25) (t := 36) g dX5_readAll_25 (by decide) ?_ ?_
    · refine x_iconst (pc := 36) g dX5_readAll_36 ic_1 ?_
      refine x_goto (pc := 37) (t := 41) g dX5_readAll_37 (by decide) ?_
      exact x_sub [0] (T_Sentence_readAll_b41 hW g o p1 ho hp1 1 r3.2) rfl
    · refine x_aload_n (pc := 28) (i := 1) (a := 1) g dX5_readAll_28 rfl rfl ?_
      refine x_iconst (pc := 29) g dX5_readAll_29 ic_1 ?_
      refine x_Vim (pc := 30) g hW [.int 1] [.ref (xad G o)] (c_Tokens_fail l G hW r3.2 1) dX5_readAll_30 ml_5_51 (sTokens isTokens_3) rfl rfl (Nat.le_of_ble_eq_true rfl) ⟨rfl, rfl, Nat.le_of_ble_eq_true rfl, Nat.le_of_ble_eq_true rfl⟩ (fun r4 hr4 => ?_)
      refine x_if_eq (pc := 33) (t := 40) g dX5_readAll_33 (by decide) ?_ ?_
      · refine x_iconst (pc := 40) g dX5_readAll_40 ic_0 ?_
        exact x_sub [0] (T_Sentence_readAll_b41 hW g o p1 ho hp1 0 r4.2) rfl
      · refine x_iconst (pc := 36) g dX5_readAll_36 ic_1 ?_
        refine x_goto (pc := 37) (t := 41) g dX5_readAll_37 (by decide) ?_
        exact x_sub [0] (T_Sentence_readAll_b41 hW g o p1 ho hp1 1 r4.2) rfl
theorem c_Sentence_readAll (l : Launch) (G : xG) (hW : WC G) (m : xMem) (o : Nat) (p1 : Nat) (ho : isSentence o) (hp1 : isHouse p1) : xCim l G yX5_readAll cX5_readAll 3 (some .boolean) rm_Sentence_readAll [.ref (xad G o), .ref (xad G 3), .ref (xad G p1)] m (Sentence_readAll m o p1) :=
  xCt_of (own := RX5) (by decide) rfl (Nat.le_of_ble_eq_true rfl) rfl ⟨rfl, rfl⟩ (fun E g => T_Sentence_readAll hW g m o p1 ho hp1)
theorem T_Sentence_compares_b44 {l : Launch} {G : xG} {E : xE} (hW : WC G) (g : xGood E l G.1 RX5 cX5_compares yX5_compares 6 (some .boolean) rm_Sentence_compares) (m : xMem) (o : Nat) (p0 : Nat) (p1 : Int32) (p2 : Int32) (ho : isSentence o) (hp0 : isState p0) (v4 : Int32) : X E G (fun r : Int32 => (some (Value.int r), m)) 44 [(0, .ref (xad G o)), (3, .int p2), (4, .int v4)] [] m (Sentence_compares_b44 m o p0 p1 p2 v4) := by
  unfold Sentence_compares_b44
  refine x_aload_n (pc := 44) (i := 0) (a := 0) g dX5_compares_44 rfl rfl ?_
  refine x_getR (pc := 45) (x := o + 3) g hW dX5_compares_45 fl_5_29 (sSentence ho) rfl ?_
  refine x_iload_n (pc := 48) (i := 3) (a := 1) g dX5_compares_48 rfl rfl ?_
  refine x_iald (pc := 49) g hW dX5_compares_49 (sSentence_numbers ho) (fun j7 hj7 => ?_)
  refine x_nmI (fun x8 => ?_)
  refine x_istore (pc := 50) (lv' := [(5, .int x8), (0, .ref (xad G o)), (3, .int p2), (4, .int v4)]) g dX5_compares_50 (by decide) rfl ?_
  refine x_aload_n (pc := 52) (i := 0) (a := 1) g dX5_compares_52 rfl rfl ?_
  refine x_getR (pc := 53) (x := o + 2) g hW dX5_compares_53 fl_5_26 (sSentence ho) rfl ?_
  refine x_iload_n (pc := 56) (i := 3) (a := 2) g dX5_compares_56 rfl rfl ?_
  refine x_iald (pc := 57) g hW dX5_compares_57 (sSentence_signs ho) (fun j9 hj9 => ?_)
  refine x_bipush (pc := 58) g dX5_compares_58 bi_60 ?_
  refine x_icmp_ne (pc := 60) (t := 76) g dX5_compares_60 (by decide) ?_ ?_
  · refine x_iload (pc := 63) (a := 3) g dX5_compares_63 rfl ?_
    refine x_iload (pc := 65) (a := 0) g dX5_compares_65 rfl ?_
    refine x_icmp_ge (pc := 67) (t := 74) g dX5_compares_67 (by decide) ?_ ?_
    · refine x_iconst (pc := 70) g dX5_compares_70 ic_1 ?_
      refine x_goto (pc := 71) (t := 75) g dX5_compares_71 (by decide) ?_
      exact x_zretc (pc := 75) g dX5_compares_75 rfl (Or.inr rfl) (fun _ h => h)
    · refine x_iconst (pc := 74) g dX5_compares_74 ic_0 ?_
      exact x_zretc (pc := 75) g dX5_compares_75 rfl (Or.inl rfl) (fun _ h => h)
  · refine x_aload_n (pc := 76) (i := 0) (a := 1) g dX5_compares_76 rfl rfl ?_
    refine x_getR (pc := 77) (x := o + 2) g hW dX5_compares_77 fl_5_26 (sSentence ho) rfl ?_
    refine x_iload_n (pc := 80) (i := 3) (a := 2) g dX5_compares_80 rfl rfl ?_
    refine x_iald (pc := 81) g hW dX5_compares_81 (sSentence_signs ho) (fun j10 hj10 => ?_)
    refine x_bipush (pc := 82) g dX5_compares_82 bi_61 ?_
    refine x_icmp_ne (pc := 84) (t := 102) g dX5_compares_84 (by decide) ?_ ?_
    · refine x_iload (pc := 87) (a := 3) g dX5_compares_87 rfl ?_
      refine x_iload (pc := 89) (a := 0) g dX5_compares_89 rfl ?_
      refine x_icmp_ne (pc := 91) (t := 98) g dX5_compares_91 (by decide) ?_ ?_
      · refine x_iconst (pc := 94) g dX5_compares_94 ic_1 ?_
        refine x_goto (pc := 95) (t := 114) g dX5_compares_95 (by decide) ?_
        exact x_zretc (pc := 114) g dX5_compares_114 rfl (Or.inr rfl) (fun _ h => h)
      · refine x_iconst (pc := 98) g dX5_compares_98 ic_0 ?_
        refine x_goto (pc := 99) (t := 114) g dX5_compares_99 (by decide) ?_
        exact x_zretc (pc := 114) g dX5_compares_114 rfl (Or.inl rfl) (fun _ h => h)
    · refine x_iload (pc := 102) (a := 3) g dX5_compares_102 rfl ?_
      refine x_iload (pc := 104) (a := 0) g dX5_compares_104 rfl ?_
      refine x_icmp_le (pc := 106) (t := 113) g dX5_compares_106 (by decide) ?_ ?_
      · refine x_iconst (pc := 109) g dX5_compares_109 ic_1 ?_
        refine x_goto (pc := 110) (t := 114) g dX5_compares_110 (by decide) ?_
        exact x_zretc (pc := 114) g dX5_compares_114 rfl (Or.inr rfl) (fun _ h => h)
      · refine x_iconst (pc := 113) g dX5_compares_113 ic_0 ?_
        exact x_zretc (pc := 114) g dX5_compares_114 rfl (Or.inl rfl) (fun _ h => h)
theorem T_Sentence_compares {l : Launch} {G : xG} {E : xE} (hW : WC G) (g : xGood E l G.1 RX5 cX5_compares yX5_compares 6 (some .boolean) rm_Sentence_compares) (m : xMem) (o : Nat) (p0 : Nat) (p1 : Int32) (p2 : Int32) (ho : isSentence o) (hp0 : isState p0) : X E G (fun r : Int32 => (some (Value.int r), m)) 0 [(0, .ref (xad G o)), (1, .ref (xad G p0)), (2, .int p1), (3, .int p2)] [] m (Sentence_compares m o p0 p1 p2) := by
  unfold Sentence_compares
  refine x_iload_n (pc := 0) (i := 2) (a := 2) g dX5_compares_0 rfl rfl ?_
  refine x_istore (pc := 1) (lv' := [(4, .int p1), (0, .ref (xad G o)), (1, .ref (xad G p0)), (2, .int p1), (3, .int p2)]) g dX5_compares_1 (by decide) rfl ?_
  refine x_aload_n (pc := 3) (i := 0) (a := 1) g dX5_compares_3 rfl rfl ?_
  refine x_getR (pc := 4) (x := o + 1) g hW dX5_compares_4 fl_5_22 (sSentence ho) rfl ?_
  refine x_iload_n (pc := 7) (i := 3) (a := 4) g dX5_compares_7 rfl rfl ?_
  refine x_iald (pc := 8) g hW dX5_compares_8 (sSentence_steps ho) (fun j1 hj1 => ?_)
  refine x_bipush (pc := 9) g dX5_compares_9 bi_29 ?_
  refine x_icmp_ne (pc := 11) (t := 25) g dX5_compares_11 (by decide) ?_ ?_
  · refine x_aload_n (pc := 14) (i := 1) (a := 2) g dX5_compares_14 rfl rfl ?_
    refine x_getR (pc := 15) (x := p0 + 3) g hW dX5_compares_15 fl_5_130 (sState hp0) rfl ?_
    refine x_iload_n (pc := 18) (i := 2) (a := 3) g dX5_compares_18 rfl rfl ?_
    refine x_iald (pc := 19) g hW dX5_compares_19 (sState_knows hp0) (fun j2 hj2 => ?_)
    refine x_nmI (fun x3 => ?_)
    refine x_istore (pc := 20) (lv' := [(4, .int x3), (0, .ref (xad G o)), (1, .ref (xad G p0)), (2, .int p1), (3, .int p2)]) g dX5_compares_20 (by decide) rfl ?_
    refine x_goto (pc := 22) (t := 44) g dX5_compares_22 (by decide) ?_
    exact x_sub [1, 4, 0] (T_Sentence_compares_b44 hW g m o p0 p1 p2 ho hp0 x3) rfl
  · refine x_aload_n (pc := 25) (i := 0) (a := 1) g dX5_compares_25 rfl rfl ?_
    refine x_getR (pc := 26) (x := o + 1) g hW dX5_compares_26 fl_5_22 (sSentence ho) rfl ?_
    refine x_iload_n (pc := 29) (i := 3) (a := 4) g dX5_compares_29 rfl rfl ?_
    refine x_iald (pc := 30) g hW dX5_compares_30 (sSentence_steps ho) (fun j4 hj4 => ?_)
    refine x_bipush (pc := 31) g dX5_compares_31 bi_30 ?_
    refine x_icmp_ne (pc := 33) (t := 44) g dX5_compares_33 (by decide) ?_ ?_
    · refine x_aload_n (pc := 36) (i := 1) (a := 2) g dX5_compares_36 rfl rfl ?_
      refine x_getR (pc := 37) (x := p0 + 4) g hW dX5_compares_37 fl_5_133 (sState hp0) rfl ?_
      refine x_iload_n (pc := 40) (i := 2) (a := 3) g dX5_compares_40 rfl rfl ?_
      refine x_iald (pc := 41) g hW dX5_compares_41 (sState_misses hp0) (fun j5 hj5 => ?_)
      refine x_nmI (fun x6 => ?_)
      refine x_istore (pc := 42) (lv' := [(4, .int x6), (0, .ref (xad G o)), (1, .ref (xad G p0)), (2, .int p1), (3, .int p2)]) g dX5_compares_42 (by decide) rfl ?_
      exact x_sub [1, 4, 0] (T_Sentence_compares_b44 hW g m o p0 p1 p2 ho hp0 x6) rfl
    · exact x_sub [1, 4, 0] (T_Sentence_compares_b44 hW g m o p0 p1 p2 ho hp0 p1) rfl
theorem c_Sentence_compares (l : Launch) (G : xG) (hW : WC G) (m : xMem) (o : Nat) (p0 : Nat) (p1 : Int32) (p2 : Int32) (ho : isSentence o) (hp0 : isState p0) : xCi l G yX5_compares cX5_compares 6 (some .boolean) rm_Sentence_compares [.ref (xad G o), .ref (xad G p0), .int p1, .int p2] m (Sentence_compares m o p0 p1 p2) :=
  xCt_of (own := RX5) (by decide) rfl (Nat.le_of_ble_eq_true rfl) rfl ⟨rfl, rfl⟩ (fun E g => T_Sentence_compares hW g m o p0 p1 p2 ho hp0)
theorem T_Sentence_isSo {l : Launch} {G : xG} {E : xE} (hW : WC G) (g : xGood E l G.1 RX5 cX5_isSo yX5_isSo 7 (some .boolean) rm_Sentence_isSo) (m : xMem) (o : Nat) (p0 : Nat) (p1 : Nat) (p2 : Int32) (p3 : Int32) (p4 : Int32) (ho : isSentence o) (hp0 : isHouse p0) (hp1 : isState p1) : X E G (fun r : Int32 => (some (Value.int r), m)) 0 [(0, .ref (xad G o)), (1, .ref (xad G p0)), (2, .ref (xad G p1)), (3, .int p2), (4, .int p3), (5, .int p4)] [] m (Sentence_isSo m o p0 p1 p2 p3 p4) := by
  unfold Sentence_isSo
  refine x_aload_n (pc := 0) (i := 0) (a := 0) g dX5_isSo_0 rfl rfl ?_
  refine x_getR (pc := 1) (x := o + 3) g hW dX5_isSo_1 fl_5_29 (sSentence ho) rfl ?_
  refine x_iload (pc := 4) (a := 5) g dX5_isSo_4 rfl ?_
  refine x_iald (pc := 6) g hW dX5_isSo_6 (sSentence_numbers ho) (fun j1 hj1 => ?_)
  refine x_nmI (fun x2 => ?_)
  refine x_istore (pc := 7) (lv' := [(6, .int x2), (0, .ref (xad G o)), (1, .ref (xad G p0)), (2, .ref (xad G p1)), (3, .int p2), (4, .int p3), (5, .int p4)]) g dX5_isSo_7 (by decide) rfl ?_
  refine x_aload_n (pc := 9) (i := 0) (a := 1) g dX5_isSo_9 rfl rfl ?_
  refine x_getR (pc := 10) (x := o + 1) g hW dX5_isSo_10 fl_5_22 (sSentence ho) rfl ?_
  refine x_iload (pc := 13) (a := 6) g dX5_isSo_13 rfl ?_
  refine x_iald (pc := 15) g hW dX5_isSo_15 (sSentence_steps ho) (fun j3 hj3 => ?_)
  refine x_nmI (fun x4 => ?_)
  refine x_if (fun h16_0 => ?_) (fun h16_0 => ?_)
  · refine x_tabIn (pc := 16) (t := 48) (off := 32) g dX5_isSo_16 h16_0 (by decide) ?_
    refine x_aload_n (pc := 48) (i := 2) (a := 3) g dX5_isSo_48 rfl rfl ?_
    refine x_aload_n (pc := 49) (i := 1) (a := 2) g dX5_isSo_49 rfl rfl ?_
    refine x_iload_n (pc := 50) (i := 3) (a := 4) g dX5_isSo_50 rfl rfl ?_
    refine x_Vi (pc := 51) g hW [.ref (xad G p0), .int p2] [] (c_State_owlAt l G hW m p1 p0 p2 hp1 hp0) dX5_isSo_51 ml_5_104 (sState hp1) rfl rfl (Nat.le_of_ble_eq_true rfl) ⟨rfl, rfl, Nat.le_of_ble_eq_true rfl, Nat.le_of_ble_eq_true rfl⟩ (fun r5 hr5 => ?_)
    refine x_iconst (pc := 54) g dX5_isSo_54 ic_m1 ?_
    refine x_icmp_ne (pc := 55) (t := 62) g dX5_isSo_55 (by decide) ?_ ?_
    · refine x_iconst (pc := 58) g dX5_isSo_58 ic_1 ?_
      refine x_goto (pc := 59) (t := 63) g dX5_isSo_59 (by decide) ?_
      exact x_zretc (pc := 63) g dX5_isSo_63 rfl (Or.inr rfl) (fun _ h => h)
    · refine x_iconst (pc := 62) g dX5_isSo_62 ic_0 ?_
      exact x_zretc (pc := 63) g dX5_isSo_63 rfl (Or.inl rfl) (fun _ h => h)
  refine x_if (fun h16_1 => ?_) (fun h16_1 => ?_)
  · refine x_tabIn (pc := 16) (t := 64) (off := 48) g dX5_isSo_16 h16_1 (by decide) ?_
    refine x_iload (pc := 64) (a := 5) g dX5_isSo_64 rfl ?_
    refine x_iconst (pc := 66) g dX5_isSo_66 ic_m1 ?_
    refine x_icmp_eq (pc := 67) (t := 74) g dX5_isSo_67 (by decide) ?_ ?_
    · refine x_iconst (pc := 74) g dX5_isSo_74 ic_0 ?_
      exact x_zretc (pc := 75) g dX5_isSo_75 rfl (Or.inl rfl) (fun _ h => h)
    · refine x_iconst (pc := 70) g dX5_isSo_70 ic_1 ?_
      refine x_goto (pc := 71) (t := 75) g dX5_isSo_71 (by decide) ?_
      exact x_zretc (pc := 75) g dX5_isSo_75 rfl (Or.inr rfl) (fun _ h => h)
  refine x_if (fun h16_2 => ?_) (fun h16_2 => ?_)
  · refine x_tabIn (pc := 16) (t := 76) (off := 60) g dX5_isSo_16 h16_2 (by decide) ?_
    refine x_aload_n (pc := 76) (i := 2) (a := 3) g dX5_isSo_76 rfl rfl ?_
    refine x_aload_n (pc := 77) (i := 1) (a := 2) g dX5_isSo_77 rfl rfl ?_
    refine x_iload_n (pc := 78) (i := 3) (a := 4) g dX5_isSo_78 rfl rfl ?_
    refine x_iload (pc := 79) (a := 5) g dX5_isSo_79 rfl ?_
    refine x_Vi (pc := 81) g hW [.ref (xad G p0), .int p2, .int p3] [] (c_State_sideFrom l G hW m p1 p0 p2 p3 hp1 hp0) dX5_isSo_81 ml_5_122 (sState hp1) rfl rfl (Nat.le_of_ble_eq_true rfl) ⟨rfl, rfl, Nat.le_of_ble_eq_true rfl, Nat.le_of_ble_eq_true rfl⟩ (fun r6 hr6 => ?_)
    refine x_iload (pc := 84) (a := 0) g dX5_isSo_84 rfl ?_
    refine x_icmp_ne (pc := 86) (t := 93) g dX5_isSo_86 (by decide) ?_ ?_
    · refine x_iconst (pc := 89) g dX5_isSo_89 ic_1 ?_
      refine x_goto (pc := 90) (t := 94) g dX5_isSo_90 (by decide) ?_
      exact x_zretc (pc := 94) g dX5_isSo_94 rfl (Or.inr rfl) (fun _ h => h)
    · refine x_iconst (pc := 93) g dX5_isSo_93 ic_0 ?_
      exact x_zretc (pc := 94) g dX5_isSo_94 rfl (Or.inl rfl) (fun _ h => h)
  refine x_if (fun h16_3 => ?_) (fun h16_3 => ?_)
  · refine x_tabIn (pc := 16) (t := 95) (off := 79) g dX5_isSo_16 h16_3 (by decide) ?_
    refine x_aload_n (pc := 95) (i := 2) (a := 3) g dX5_isSo_95 rfl rfl ?_
    refine x_aload_n (pc := 96) (i := 1) (a := 2) g dX5_isSo_96 rfl rfl ?_
    refine x_iload_n (pc := 97) (i := 3) (a := 4) g dX5_isSo_97 rfl rfl ?_
    refine x_Vi (pc := 98) g hW [.ref (xad G p0), .int p2] [] (c_State_owlAt l G hW m p1 p0 p2 hp1 hp0) dX5_isSo_98 ml_5_104 (sState hp1) rfl rfl (Nat.le_of_ble_eq_true rfl) ⟨rfl, rfl, Nat.le_of_ble_eq_true rfl, Nat.le_of_ble_eq_true rfl⟩ (fun r7 hr7 => ?_)
    refine x_iload (pc := 101) (a := 0) g dX5_isSo_101 rfl ?_
    refine x_icmp_ne (pc := 103) (t := 110) g dX5_isSo_103 (by decide) ?_ ?_
    · refine x_iconst (pc := 106) g dX5_isSo_106 ic_1 ?_
      refine x_goto (pc := 107) (t := 111) g dX5_isSo_107 (by decide) ?_
      exact x_zretc (pc := 111) g dX5_isSo_111 rfl (Or.inr rfl) (fun _ h => h)
    · refine x_iconst (pc := 110) g dX5_isSo_110 ic_0 ?_
      exact x_zretc (pc := 111) g dX5_isSo_111 rfl (Or.inl rfl) (fun _ h => h)
  refine x_tabOut (pc := 16) (t := 112) g dX5_isSo_16 (by have z24 := ne_toInt (k := 24) h16_0 (by decide); have z25 := ne_toInt (k := 25) h16_1 (by decide); have z26 := ne_toInt (k := 26) h16_2 (by decide); have z27 := ne_toInt (k := 27) h16_3 (by decide); omega) (by decide) ?_
  refine x_iload (pc := 112) (a := 5) g dX5_isSo_112 rfl ?_
  refine x_iconst (pc := 114) g dX5_isSo_114 ic_m1 ?_
  refine x_icmp_eq (pc := 115) (t := 136) g dX5_isSo_115 (by decide) ?_ ?_
  · refine x_iconst (pc := 136) g dX5_isSo_136 ic_0 ?_
    exact x_zretc (pc := 137) g dX5_isSo_137 rfl (Or.inl rfl) (fun _ h => h)
  · refine x_aload_n (pc := 118) (i := 2) (a := 3) g dX5_isSo_118 rfl rfl ?_
    refine x_aload_n (pc := 119) (i := 1) (a := 2) g dX5_isSo_119 rfl rfl ?_
    refine x_iload (pc := 120) (a := 5) g dX5_isSo_120 rfl ?_
    refine x_Vn (pc := 122) g hW [.ref (xad G p0), .int p3] [] (c_State_rowOf l G hW m p1 p0 p3 hp1 hp0) dX5_isSo_122 ml_5_126 (sState hp1) rfl rfl (Nat.le_of_ble_eq_true rfl) ⟨rfl, rfl, Nat.le_of_ble_eq_true rfl, Nat.le_of_ble_eq_true rfl⟩ (fun r8 hr8 => ?_)
    obtain ⟨Nr8, h4r8, hSr8⟩ := rowOf_src hp1 hp0 hr8
    refine x_iconst (pc := 125) g dX5_isSo_125 ic_0 ?_
    refine x_ialdc (pc := 126) g hW dX5_isSo_126 (hSr8) (ix_src_0 h4r8) ?_
    refine x_iload (pc := 127) (a := 0) g dX5_isSo_127 rfl ?_
    refine x_icmp_ne (pc := 129) (t := 136) g dX5_isSo_129 (by decide) ?_ ?_
    · refine x_iconst (pc := 132) g dX5_isSo_132 ic_1 ?_
      refine x_goto (pc := 133) (t := 137) g dX5_isSo_133 (by decide) ?_
      exact x_zretc (pc := 137) g dX5_isSo_137 rfl (Or.inr rfl) (fun _ h => h)
    · refine x_iconst (pc := 136) g dX5_isSo_136 ic_0 ?_
      exact x_zretc (pc := 137) g dX5_isSo_137 rfl (Or.inl rfl) (fun _ h => h)
theorem c_Sentence_isSo (l : Launch) (G : xG) (hW : WC G) (m : xMem) (o : Nat) (p0 : Nat) (p1 : Nat) (p2 : Int32) (p3 : Int32) (p4 : Int32) (ho : isSentence o) (hp0 : isHouse p0) (hp1 : isState p1) : xCi l G yX5_isSo cX5_isSo 7 (some .boolean) rm_Sentence_isSo [.ref (xad G o), .ref (xad G p0), .ref (xad G p1), .int p2, .int p3, .int p4] m (Sentence_isSo m o p0 p1 p2 p3 p4) :=
  xCt_of (own := RX5) (by decide) rfl (Nat.le_of_ble_eq_true rfl) rfl ⟨rfl, rfl⟩ (fun E g => T_Sentence_isSo hW g m o p0 p1 p2 p3 p4 ho hp0 hp1)
theorem T_Sentence_holds_b91 {l : Launch} {G : xG} {E : xE} (hW : WC G) (g : xGood E l G.1 RX5 cX5_holds yX5_holds 9 (some .boolean) rm_Sentence_holds) (o : Nat) (p0 : Nat) (p1 : Nat) (p2 : Int32) (ho : isSentence o) (hp0 : isHouse p0) (hp1 : isState p1) (k35 : Int32 → Int32 → Int32 → xMem → Option (Int32 × xMem)) (hk35 : ∀ (v5 : Int32) (v6 : Int32) (v7 : Int32) (m : xMem), X E G (fun r : Int32 × xMem => (some (Value.int r.1), r.2)) 35 [(0, .ref (xad G o)), (1, .ref (xad G p0)), (2, .ref (xad G p1)), (3, .int p2), (5, .int v5), (6, .int v6), (7, .int v7)] [] m (k35 v5 v6 v7 m)) (v5 : Int32) (v6 : Int32) (v7 : Int32) (s0 : Int32) (s1 : Int32) (m : xMem) : X E G (fun r : Int32 × xMem => (some (Value.int r.1), r.2)) 91 [(0, .ref (xad G o)), (1, .ref (xad G p0)), (2, .ref (xad G p1)), (3, .int p2), (5, .int v5), (6, .int v6), (7, .int v7)] [.int s0, .int s1, .ref (xad G (o + 4))] m (Sentence_holds_b91 o p0 p1 p2 k35 v5 v6 v7 s0 s1 m) := by
  unfold Sentence_holds_b91
  refine x_zast (pc := 91) g hW dX5_holds_91 (sSentence_stack ho) (fun j9 hj9 m8 => ?_)
  refine x_goto (pc := 92) (t := 251) g dX5_holds_92 (by decide) ?_
  refine x_iinc (pc := 251) (a := 6) (lv' := [(7, .int (v7 + 1)), (0, .ref (xad G o)), (1, .ref (xad G p0)), (2, .ref (xad G p1)), (3, .int p2), (5, .int v5), (6, .int v6)]) g dX5_holds_251 ic_1 rfl (by decide) rfl ?_
  refine x_goto (pc := 254) (t := 35) g dX5_holds_254 (by decide) ?_
  exact x_sub [1, 2, 3, 4, 5, 6, 0] (hk35 v5 v6 (v7 + 1) m8) rfl
theorem T_Sentence_holds_b146 {l : Launch} {G : xG} {E : xE} (hW : WC G) (g : xGood E l G.1 RX5 cX5_holds yX5_holds 9 (some .boolean) rm_Sentence_holds) (o : Nat) (p0 : Nat) (p1 : Nat) (p2 : Int32) (ho : isSentence o) (hp0 : isHouse p0) (hp1 : isState p1) (k35 : Int32 → Int32 → Int32 → xMem → Option (Int32 × xMem)) (hk35 : ∀ (v5 : Int32) (v6 : Int32) (v7 : Int32) (m : xMem), X E G (fun r : Int32 × xMem => (some (Value.int r.1), r.2)) 35 [(0, .ref (xad G o)), (1, .ref (xad G p0)), (2, .ref (xad G p1)), (3, .int p2), (5, .int v5), (6, .int v6), (7, .int v7)] [] m (k35 v5 v6 v7 m)) (v5 : Int32) (v6 : Int32) (v7 : Int32) (s0 : Int32) (s1 : Int32) (m : xMem) : X E G (fun r : Int32 × xMem => (some (Value.int r.1), r.2)) 146 [(0, .ref (xad G o)), (1, .ref (xad G p0)), (2, .ref (xad G p1)), (3, .int p2), (5, .int v5), (6, .int v6), (7, .int v7)] [.int s0, .int s1, .ref (xad G (o + 4))] m (Sentence_holds_b146 o p0 p1 p2 k35 v5 v6 v7 s0 s1 m) := by
  unfold Sentence_holds_b146
  refine x_zast (pc := 146) g hW dX5_holds_146 (sSentence_stack ho) (fun j13 hj13 m12 => ?_)
  refine x_goto (pc := 147) (t := 251) g dX5_holds_147 (by decide) ?_
  refine x_iinc (pc := 251) (a := 6) (lv' := [(7, .int (v7 + 1)), (0, .ref (xad G o)), (1, .ref (xad G p0)), (2, .ref (xad G p1)), (3, .int p2), (5, .int v5), (6, .int v6)]) g dX5_holds_251 ic_1 rfl (by decide) rfl ?_
  refine x_goto (pc := 254) (t := 35) g dX5_holds_254 (by decide) ?_
  exact x_sub [1, 2, 3, 4, 5, 6, 0] (hk35 v5 v6 (v7 + 1) m12) rfl
theorem T_Sentence_holds_b201 {l : Launch} {G : xG} {E : xE} (hW : WC G) (g : xGood E l G.1 RX5 cX5_holds yX5_holds 9 (some .boolean) rm_Sentence_holds) (o : Nat) (p0 : Nat) (p1 : Nat) (p2 : Int32) (ho : isSentence o) (hp0 : isHouse p0) (hp1 : isState p1) (k35 : Int32 → Int32 → Int32 → xMem → Option (Int32 × xMem)) (hk35 : ∀ (v5 : Int32) (v6 : Int32) (v7 : Int32) (m : xMem), X E G (fun r : Int32 × xMem => (some (Value.int r.1), r.2)) 35 [(0, .ref (xad G o)), (1, .ref (xad G p0)), (2, .ref (xad G p1)), (3, .int p2), (5, .int v5), (6, .int v6), (7, .int v7)] [] m (k35 v5 v6 v7 m)) (v5 : Int32) (v6 : Int32) (v7 : Int32) (s0 : Int32) (s1 : Int32) (m : xMem) : X E G (fun r : Int32 × xMem => (some (Value.int r.1), r.2)) 201 [(0, .ref (xad G o)), (1, .ref (xad G p0)), (2, .ref (xad G p1)), (3, .int p2), (5, .int v5), (6, .int v6), (7, .int v7)] [.int s0, .int s1, .ref (xad G (o + 4))] m (Sentence_holds_b201 o p0 p1 p2 k35 v5 v6 v7 s0 s1 m) := by
  unfold Sentence_holds_b201
  refine x_zast (pc := 201) g hW dX5_holds_201 (sSentence_stack ho) (fun j17 hj17 m16 => ?_)
  refine x_goto (pc := 202) (t := 251) g dX5_holds_202 (by decide) ?_
  refine x_iinc (pc := 251) (a := 6) (lv' := [(7, .int (v7 + 1)), (0, .ref (xad G o)), (1, .ref (xad G p0)), (2, .ref (xad G p1)), (3, .int p2), (5, .int v5), (6, .int v6)]) g dX5_holds_251 ic_1 rfl (by decide) rfl ?_
  refine x_goto (pc := 254) (t := 35) g dX5_holds_254 (by decide) ?_
  exact x_sub [1, 2, 3, 4, 5, 6, 0] (hk35 v5 v6 (v7 + 1) m16) rfl
theorem T_Sentence_holds_b247 {l : Launch} {G : xG} {E : xE} (hW : WC G) (g : xGood E l G.1 RX5 cX5_holds yX5_holds 9 (some .boolean) rm_Sentence_holds) (o : Nat) (p0 : Nat) (p1 : Nat) (p2 : Int32) (ho : isSentence o) (hp0 : isHouse p0) (hp1 : isState p1) (k35 : Int32 → Int32 → Int32 → xMem → Option (Int32 × xMem)) (hk35 : ∀ (v5 : Int32) (v6 : Int32) (v7 : Int32) (m : xMem), X E G (fun r : Int32 × xMem => (some (Value.int r.1), r.2)) 35 [(0, .ref (xad G o)), (1, .ref (xad G p0)), (2, .ref (xad G p1)), (3, .int p2), (5, .int v5), (6, .int v6), (7, .int v7)] [] m (k35 v5 v6 v7 m)) (v5 : Int32) (v6 : Int32) (v7 : Int32) (s0 : Int32) (s1 : Int32) (m : xMem) : X E G (fun r : Int32 × xMem => (some (Value.int r.1), r.2)) 247 [(0, .ref (xad G o)), (1, .ref (xad G p0)), (2, .ref (xad G p1)), (3, .int p2), (5, .int v5), (6, .int v6), (7, .int v7)] [.int s0, .int s1, .ref (xad G (o + 4))] m (Sentence_holds_b247 o p0 p1 p2 k35 v5 v6 v7 s0 s1 m) := by
  unfold Sentence_holds_b247
  refine x_zast (pc := 247) g hW dX5_holds_247 (sSentence_stack ho) (fun j19 hj19 m18 => ?_)
  refine x_iinc (pc := 248) (a := 5) (lv' := [(6, .int (v6 + 1)), (0, .ref (xad G o)), (1, .ref (xad G p0)), (2, .ref (xad G p1)), (3, .int p2), (5, .int v5), (7, .int v7)]) g dX5_holds_248 ic_1 rfl (by decide) rfl ?_
  refine x_iinc (pc := 251) (a := 6) (lv' := [(7, .int (v7 + 1)), (6, .int (v6 + 1)), (0, .ref (xad G o)), (1, .ref (xad G p0)), (2, .ref (xad G p1)), (3, .int p2), (5, .int v5)]) g dX5_holds_251 ic_1 rfl (by decide) rfl ?_
  refine x_goto (pc := 254) (t := 35) g dX5_holds_254 (by decide) ?_
  exact x_sub [2, 3, 4, 5, 6, 1, 0] (hk35 v5 (v6 + 1) (v7 + 1) m18) rfl
theorem T_Sentence_holds_b205 {l : Launch} {G : xG} {E : xE} (hW : WC G) (g : xGood E l G.1 RX5 cX5_holds yX5_holds 9 (some .boolean) rm_Sentence_holds) (o : Nat) (p0 : Nat) (p1 : Nat) (p2 : Int32) (ho : isSentence o) (hp0 : isHouse p0) (hp1 : isState p1) (k35 : Int32 → Int32 → Int32 → xMem → Option (Int32 × xMem)) (hk35 : ∀ (v5 : Int32) (v6 : Int32) (v7 : Int32) (m : xMem), X E G (fun r : Int32 × xMem => (some (Value.int r.1), r.2)) 35 [(0, .ref (xad G o)), (1, .ref (xad G p0)), (2, .ref (xad G p1)), (3, .int p2), (5, .int v5), (6, .int v6), (7, .int v7)] [] m (k35 v5 v6 v7 m)) (v5 : Int32) (v6 : Int32) (v7 : Int32) (v8 : Int32) (m : xMem) : X E G (fun r : Int32 × xMem => (some (Value.int r.1), r.2)) 205 [(0, .ref (xad G o)), (1, .ref (xad G p0)), (2, .ref (xad G p1)), (3, .int p2), (5, .int v5), (6, .int v6), (7, .int v7), (8, .int v8)] [] m (Sentence_holds_b205 o p0 p1 p2 k35 v5 v6 v7 v8 m) := by
  unfold Sentence_holds_b205
  refine x_iload (pc := 205) (a := 5) g dX5_holds_205 rfl ?_
  refine x_bipush (pc := 207) g dX5_holds_207 bi_20 ?_
  refine x_icmp_ge (pc := 209) (t := 251) g dX5_holds_209 (by decide) ?_ ?_
  · refine x_aload_n (pc := 212) (i := 0) (a := 0) g dX5_holds_212 rfl rfl ?_
    refine x_getR (pc := 213) (x := o + 4) g hW dX5_holds_213 fl_5_32 (sSentence ho) rfl ?_
    refine x_iload (pc := 216) (a := 5) g dX5_holds_216 rfl ?_
    refine x_iload (pc := 218) (a := 7) g dX5_holds_218 rfl ?_
    refine x_bipush (pc := 220) g dX5_holds_220 bi_29 ?_
    refine x_icmp_lt (pc := 222) (t := 236) g dX5_holds_222 (by decide) ?_ ?_
    · refine x_aload_n (pc := 236) (i := 0) (a := 0) g dX5_holds_236 rfl rfl ?_
      refine x_aload_n (pc := 237) (i := 1) (a := 1) g dX5_holds_237 rfl rfl ?_
      refine x_aload_n (pc := 238) (i := 2) (a := 2) g dX5_holds_238 rfl rfl ?_
      refine x_iload_n (pc := 239) (i := 3) (a := 3) g dX5_holds_239 rfl rfl ?_
      refine x_iload (pc := 240) (a := 4) g dX5_holds_240 rfl ?_
      refine x_iload (pc := 242) (a := 6) g dX5_holds_242 rfl ?_
      refine x_Vi (pc := 244) g hW [.ref (xad G p0), .ref (xad G p1), .int p2, .int v5, .int v7] [.int v6, .ref (xad G (o + 4))] (c_Sentence_isSo l G hW m o p0 p1 p2 v5 v7 ho hp0 hp1) dX5_holds_244 ml_5_118 (sSentence ho) rfl rfl (Nat.le_of_ble_eq_true rfl) ⟨rfl, rfl, Nat.le_of_ble_eq_true rfl, Nat.le_of_ble_eq_true rfl⟩ (fun r14 hr14 => ?_)
      exact x_sub [0, 1, 2, 3, 4, 5, 6] (T_Sentence_holds_b247 hW g o p0 p1 p2 ho hp0 hp1 k35 hk35 v5 v6 v7 r14 v6 m) rfl
    · refine x_aload_n (pc := 225) (i := 0) (a := 0) g dX5_holds_225 rfl rfl ?_
      refine x_aload_n (pc := 226) (i := 2) (a := 2) g dX5_holds_226 rfl rfl ?_
      refine x_iload_n (pc := 227) (i := 3) (a := 3) g dX5_holds_227 rfl rfl ?_
      refine x_iload (pc := 228) (a := 6) g dX5_holds_228 rfl ?_
      refine x_Vi (pc := 230) g hW [.ref (xad G p1), .int p2, .int v7] [.int v6, .ref (xad G (o + 4))] (c_Sentence_compares l G hW m o p1 p2 v7 ho hp1) dX5_holds_230 ml_5_114 (sSentence ho) rfl rfl (Nat.le_of_ble_eq_true rfl) ⟨rfl, rfl, Nat.le_of_ble_eq_true rfl, Nat.le_of_ble_eq_true rfl⟩ (fun r15 hr15 => ?_)
      refine x_goto (pc := 233) (t := 247) g dX5_holds_233 (by decide) ?_
      exact x_sub [0, 1, 2, 3, 4, 5, 6] (T_Sentence_holds_b247 hW g o p0 p1 p2 ho hp0 hp1 k35 hk35 v5 v6 v7 r15 v6 m) rfl
  · refine x_iinc (pc := 251) (a := 6) (lv' := [(7, .int (v7 + 1)), (0, .ref (xad G o)), (1, .ref (xad G p0)), (2, .ref (xad G p1)), (3, .int p2), (5, .int v5), (6, .int v6), (8, .int v8)]) g dX5_holds_251 ic_1 rfl (by decide) rfl ?_
    refine x_goto (pc := 254) (t := 35) g dX5_holds_254 (by decide) ?_
    exact x_sub [1, 2, 3, 4, 5, 6, 0] (hk35 v5 v6 (v7 + 1) m) rfl
theorem T_Sentence_holds_b150 {l : Launch} {G : xG} {E : xE} (hW : WC G) (g : xGood E l G.1 RX5 cX5_holds yX5_holds 9 (some .boolean) rm_Sentence_holds) (o : Nat) (p0 : Nat) (p1 : Nat) (p2 : Int32) (ho : isSentence o) (hp0 : isHouse p0) (hp1 : isState p1) (k35 : Int32 → Int32 → Int32 → xMem → Option (Int32 × xMem)) (hk35 : ∀ (v5 : Int32) (v6 : Int32) (v7 : Int32) (m : xMem), X E G (fun r : Int32 × xMem => (some (Value.int r.1), r.2)) 35 [(0, .ref (xad G o)), (1, .ref (xad G p0)), (2, .ref (xad G p1)), (3, .int p2), (5, .int v5), (6, .int v6), (7, .int v7)] [] m (k35 v5 v6 v7 m)) (v5 : Int32) (v6 : Int32) (v7 : Int32) (v8 : Int32) (m : xMem) : X E G (fun r : Int32 × xMem => (some (Value.int r.1), r.2)) 150 [(0, .ref (xad G o)), (1, .ref (xad G p0)), (2, .ref (xad G p1)), (3, .int p2), (5, .int v5), (6, .int v6), (7, .int v7), (8, .int v8)] [] m (Sentence_holds_b150 o p0 p1 p2 k35 v5 v6 v7 v8 m) := by
  unfold Sentence_holds_b150
  refine x_iload (pc := 150) (a := 7) g dX5_holds_150 rfl ?_
  refine x_bipush (pc := 152) g dX5_holds_152 bi_21 ?_
  refine x_icmp_ne (pc := 154) (t := 205) g dX5_holds_154 (by decide) ?_ ?_
  · refine x_iload (pc := 157) (a := 5) g dX5_holds_157 rfl ?_
    refine x_iconst (pc := 159) g dX5_holds_159 ic_2 ?_
    refine x_icmp_lt (pc := 160) (t := 205) g dX5_holds_160 (by decide) ?_ ?_
    · exact x_sub [0, 1, 2, 3, 4, 5, 6, 7] (T_Sentence_holds_b205 hW g o p0 p1 p2 ho hp0 hp1 k35 hk35 v5 v6 v7 v8 m) rfl
    · refine x_iinc (pc := 163) (a := 5) (lv' := [(6, .int (v6 + (-1))), (0, .ref (xad G o)), (1, .ref (xad G p0)), (2, .ref (xad G p1)), (3, .int p2), (5, .int v5), (7, .int v7), (8, .int v8)]) g dX5_holds_163 ic_m1 rfl (by decide) rfl ?_
      refine x_aload_n (pc := 166) (i := 0) (a := 1) g dX5_holds_166 rfl rfl ?_
      refine x_getR (pc := 167) (x := o + 4) g hW dX5_holds_167 fl_5_32 (sSentence ho) rfl ?_
      refine x_iload (pc := 170) (a := 0) g dX5_holds_170 rfl ?_
      refine x_iconst (pc := 172) g dX5_holds_172 ic_1 ?_
      refine x_isub (pc := 173) g dX5_holds_173 ?_
      refine x_aload_n (pc := 174) (i := 0) (a := 1) g dX5_holds_174 rfl rfl ?_
      refine x_getR (pc := 175) (x := o + 4) g hW dX5_holds_175 fl_5_32 (sSentence ho) rfl ?_
      refine x_iload (pc := 178) (a := 0) g dX5_holds_178 rfl ?_
      refine x_iconst (pc := 180) g dX5_holds_180 ic_1 ?_
      refine x_isub (pc := 181) g dX5_holds_181 ?_
      refine x_zald (pc := 182) g hW dX5_holds_182 (sSentence_stack ho) (fun j10 hj10 => ?_)
      refine x_if_ne (pc := 183) (t := 196) g dX5_holds_183 (by decide) ?_ ?_
      · refine x_aload_n (pc := 186) (i := 0) (a := 1) g dX5_holds_186 rfl rfl ?_
        refine x_getR (pc := 187) (x := o + 4) g hW dX5_holds_187 fl_5_32 (sSentence ho) rfl ?_
        refine x_iload (pc := 190) (a := 0) g dX5_holds_190 rfl ?_
        refine x_zald (pc := 192) g hW dX5_holds_192 (sSentence_stack ho) (fun j11 hj11 => ?_)
        refine x_if_eq (pc := 193) (t := 200) g dX5_holds_193 (by decide) ?_ ?_
        · refine x_iconst (pc := 200) g dX5_holds_200 ic_0 ?_
          exact x_sub [1, 2, 3, 4, 5, 0, 6] (T_Sentence_holds_b201 hW g o p0 p1 p2 ho hp0 hp1 k35 hk35 v5 (v6 + (-1)) v7 0 ((v6 + (-1)) - 1) m) rfl
        · refine x_iconst (pc := 196) g dX5_holds_196 ic_1 ?_
          refine x_goto (pc := 197) (t := 201) g dX5_holds_197 (by decide) ?_
          exact x_sub [1, 2, 3, 4, 5, 0, 6] (T_Sentence_holds_b201 hW g o p0 p1 p2 ho hp0 hp1 k35 hk35 v5 (v6 + (-1)) v7 1 ((v6 + (-1)) - 1) m) rfl
      · refine x_iconst (pc := 196) g dX5_holds_196 ic_1 ?_
        refine x_goto (pc := 197) (t := 201) g dX5_holds_197 (by decide) ?_
        exact x_sub [1, 2, 3, 4, 5, 0, 6] (T_Sentence_holds_b201 hW g o p0 p1 p2 ho hp0 hp1 k35 hk35 v5 (v6 + (-1)) v7 1 ((v6 + (-1)) - 1) m) rfl
  · exact x_sub [0, 1, 2, 3, 4, 5, 6, 7] (T_Sentence_holds_b205 hW g o p0 p1 p2 ho hp0 hp1 k35 hk35 v5 v6 v7 v8 m) rfl
theorem T_Sentence_holds_b95 {l : Launch} {G : xG} {E : xE} (hW : WC G) (g : xGood E l G.1 RX5 cX5_holds yX5_holds 9 (some .boolean) rm_Sentence_holds) (o : Nat) (p0 : Nat) (p1 : Nat) (p2 : Int32) (ho : isSentence o) (hp0 : isHouse p0) (hp1 : isState p1) (k35 : Int32 → Int32 → Int32 → xMem → Option (Int32 × xMem)) (hk35 : ∀ (v5 : Int32) (v6 : Int32) (v7 : Int32) (m : xMem), X E G (fun r : Int32 × xMem => (some (Value.int r.1), r.2)) 35 [(0, .ref (xad G o)), (1, .ref (xad G p0)), (2, .ref (xad G p1)), (3, .int p2), (5, .int v5), (6, .int v6), (7, .int v7)] [] m (k35 v5 v6 v7 m)) (v5 : Int32) (v6 : Int32) (v7 : Int32) (v8 : Int32) (m : xMem) : X E G (fun r : Int32 × xMem => (some (Value.int r.1), r.2)) 95 [(0, .ref (xad G o)), (1, .ref (xad G p0)), (2, .ref (xad G p1)), (3, .int p2), (5, .int v5), (6, .int v6), (7, .int v7), (8, .int v8)] [] m (Sentence_holds_b95 o p0 p1 p2 k35 v5 v6 v7 v8 m) := by
  unfold Sentence_holds_b95
  refine x_iload (pc := 95) (a := 7) g dX5_holds_95 rfl ?_
  refine x_bipush (pc := 97) g dX5_holds_97 bi_22 ?_
  refine x_icmp_ne (pc := 99) (t := 150) g dX5_holds_99 (by decide) ?_ ?_
  · refine x_iload (pc := 102) (a := 5) g dX5_holds_102 rfl ?_
    refine x_iconst (pc := 104) g dX5_holds_104 ic_2 ?_
    refine x_icmp_lt (pc := 105) (t := 150) g dX5_holds_105 (by decide) ?_ ?_
    · exact x_sub [0, 1, 2, 3, 4, 5, 6, 7] (T_Sentence_holds_b150 hW g o p0 p1 p2 ho hp0 hp1 k35 hk35 v5 v6 v7 v8 m) rfl
    · refine x_iinc (pc := 108) (a := 5) (lv' := [(6, .int (v6 + (-1))), (0, .ref (xad G o)), (1, .ref (xad G p0)), (2, .ref (xad G p1)), (3, .int p2), (5, .int v5), (7, .int v7), (8, .int v8)]) g dX5_holds_108 ic_m1 rfl (by decide) rfl ?_
      refine x_aload_n (pc := 111) (i := 0) (a := 1) g dX5_holds_111 rfl rfl ?_
      refine x_getR (pc := 112) (x := o + 4) g hW dX5_holds_112 fl_5_32 (sSentence ho) rfl ?_
      refine x_iload (pc := 115) (a := 0) g dX5_holds_115 rfl ?_
      refine x_iconst (pc := 117) g dX5_holds_117 ic_1 ?_
      refine x_isub (pc := 118) g dX5_holds_118 ?_
      refine x_aload_n (pc := 119) (i := 0) (a := 1) g dX5_holds_119 rfl rfl ?_
      refine x_getR (pc := 120) (x := o + 4) g hW dX5_holds_120 fl_5_32 (sSentence ho) rfl ?_
      refine x_iload (pc := 123) (a := 0) g dX5_holds_123 rfl ?_
      refine x_iconst (pc := 125) g dX5_holds_125 ic_1 ?_
      refine x_isub (pc := 126) g dX5_holds_126 ?_
      refine x_zald (pc := 127) g hW dX5_holds_127 (sSentence_stack ho) (fun j6 hj6 => ?_)
      refine x_if_eq (pc := 128) (t := 145) g dX5_holds_128 (by decide) ?_ ?_
      · refine x_iconst (pc := 145) g dX5_holds_145 ic_0 ?_
        exact x_sub [1, 2, 3, 4, 5, 0, 6] (T_Sentence_holds_b146 hW g o p0 p1 p2 ho hp0 hp1 k35 hk35 v5 (v6 + (-1)) v7 0 ((v6 + (-1)) - 1) m) rfl
      · refine x_aload_n (pc := 131) (i := 0) (a := 1) g dX5_holds_131 rfl rfl ?_
        refine x_getR (pc := 132) (x := o + 4) g hW dX5_holds_132 fl_5_32 (sSentence ho) rfl ?_
        refine x_iload (pc := 135) (a := 0) g dX5_holds_135 rfl ?_
        refine x_zald (pc := 137) g hW dX5_holds_137 (sSentence_stack ho) (fun j7 hj7 => ?_)
        refine x_if_eq (pc := 138) (t := 145) g dX5_holds_138 (by decide) ?_ ?_
        · refine x_iconst (pc := 145) g dX5_holds_145 ic_0 ?_
          exact x_sub [1, 2, 3, 4, 5, 0, 6] (T_Sentence_holds_b146 hW g o p0 p1 p2 ho hp0 hp1 k35 hk35 v5 (v6 + (-1)) v7 0 ((v6 + (-1)) - 1) m) rfl
        · refine x_iconst (pc := 141) g dX5_holds_141 ic_1 ?_
          refine x_goto (pc := 142) (t := 146) g dX5_holds_142 (by decide) ?_
          exact x_sub [1, 2, 3, 4, 5, 0, 6] (T_Sentence_holds_b146 hW g o p0 p1 p2 ho hp0 hp1 k35 hk35 v5 (v6 + (-1)) v7 1 ((v6 + (-1)) - 1) m) rfl
  · exact x_sub [0, 1, 2, 3, 4, 5, 6, 7] (T_Sentence_holds_b150 hW g o p0 p1 p2 ho hp0 hp1 k35 hk35 v5 v6 v7 v8 m) rfl
theorem T_Sentence_holds_b35 {l : Launch} {G : xG} {E : xE} (hW : WC G) (g : xGood E l G.1 RX5 cX5_holds yX5_holds 9 (some .boolean) rm_Sentence_holds) (o : Nat) (p0 : Nat) (p1 : Nat) (p2 : Int32) (ho : isSentence o) (hp0 : isHouse p0) (hp1 : isState p1) : ∀ (n : Nat) (v5 : Int32) (v6 : Int32) (v7 : Int32) (m : xMem), X E G (fun r : Int32 × xMem => (some (Value.int r.1), r.2)) 35 [(0, .ref (xad G o)), (1, .ref (xad G p0)), (2, .ref (xad G p1)), (3, .int p2), (5, .int v5), (6, .int v6), (7, .int v7)] [] m (Sentence_holds_b35 o p0 p1 p2 n v5 v6 v7 m) := by
  intro n
  induction n with
  | zero => intro v5 v6 v7 m; exact x_none
  | succ n ih =>
    intro v5 v6 v7 m
    rw [Sentence_holds_b35]
    refine x_iload (pc := 35) (a := 6) g dX5_holds_35 rfl ?_
    refine x_aload_n (pc := 37) (i := 0) (a := 0) g dX5_holds_37 rfl rfl ?_
    refine x_getI (pc := 38) g hW dX5_holds_38 fl_5_19 (sSentence ho) rfl ?_
    refine x_icmp_ge (pc := 41) (t := 257) g dX5_holds_41 (by decide) ?_ ?_
    · refine x_aload_n (pc := 44) (i := 0) (a := 0) g dX5_holds_44 rfl rfl ?_
      refine x_getR (pc := 45) (x := o + 1) g hW dX5_holds_45 fl_5_22 (sSentence ho) rfl ?_
      refine x_iload (pc := 48) (a := 6) g dX5_holds_48 rfl ?_
      refine x_iald (pc := 50) g hW dX5_holds_50 (sSentence_steps ho) (fun j3 hj3 => ?_)
      refine x_nmI (fun x4 => ?_)
      refine x_istore (pc := 51) (lv' := [(8, .int x4), (0, .ref (xad G o)), (1, .ref (xad G p0)), (2, .ref (xad G p1)), (3, .int p2), (5, .int v5), (6, .int v6), (7, .int v7)]) g dX5_holds_51 (by decide) rfl ?_
      refine x_iload (pc := 53) (a := 0) g dX5_holds_53 rfl ?_
      refine x_bipush (pc := 55) g dX5_holds_55 bi_23 ?_
      refine x_icmp_ne (pc := 57) (t := 95) g dX5_holds_57 (by decide) ?_ ?_
      · refine x_iload (pc := 60) (a := 6) g dX5_holds_60 rfl ?_
        refine x_iconst (pc := 62) g dX5_holds_62 ic_1 ?_
        refine x_icmp_lt (pc := 63) (t := 95) g dX5_holds_63 (by decide) ?_ ?_
        · exact x_sub [1, 2, 3, 4, 5, 6, 7, 0] (T_Sentence_holds_b95 hW g o p0 p1 p2 ho hp0 hp1 (Sentence_holds_b35 o p0 p1 p2 n) ih v5 v6 v7 x4 m) rfl
        · refine x_aload_n (pc := 66) (i := 0) (a := 1) g dX5_holds_66 rfl rfl ?_
          refine x_getR (pc := 67) (x := o + 4) g hW dX5_holds_67 fl_5_32 (sSentence ho) rfl ?_
          refine x_iload (pc := 70) (a := 6) g dX5_holds_70 rfl ?_
          refine x_iconst (pc := 72) g dX5_holds_72 ic_1 ?_
          refine x_isub (pc := 73) g dX5_holds_73 ?_
          refine x_aload_n (pc := 74) (i := 0) (a := 1) g dX5_holds_74 rfl rfl ?_
          refine x_getR (pc := 75) (x := o + 4) g hW dX5_holds_75 fl_5_32 (sSentence ho) rfl ?_
          refine x_iload (pc := 78) (a := 6) g dX5_holds_78 rfl ?_
          refine x_iconst (pc := 80) g dX5_holds_80 ic_1 ?_
          refine x_isub (pc := 81) g dX5_holds_81 ?_
          refine x_zald (pc := 82) g hW dX5_holds_82 (sSentence_stack ho) (fun j5 hj5 => ?_)
          refine x_if_ne (pc := 83) (t := 90) g dX5_holds_83 (by decide) ?_ ?_
          · refine x_iconst (pc := 86) g dX5_holds_86 ic_1 ?_
            refine x_goto (pc := 87) (t := 91) g dX5_holds_87 (by decide) ?_
            exact x_sub [1, 2, 3, 4, 5, 6, 7] (T_Sentence_holds_b91 hW g o p0 p1 p2 ho hp0 hp1 (Sentence_holds_b35 o p0 p1 p2 n) ih v5 v6 v7 1 (v6 - 1) m) rfl
          · refine x_iconst (pc := 90) g dX5_holds_90 ic_0 ?_
            exact x_sub [1, 2, 3, 4, 5, 6, 7] (T_Sentence_holds_b91 hW g o p0 p1 p2 ho hp0 hp1 (Sentence_holds_b35 o p0 p1 p2 n) ih v5 v6 v7 0 (v6 - 1) m) rfl
      · exact x_sub [1, 2, 3, 4, 5, 6, 7, 0] (T_Sentence_holds_b95 hW g o p0 p1 p2 ho hp0 hp1 (Sentence_holds_b35 o p0 p1 p2 n) ih v5 v6 v7 x4 m) rfl
    · refine x_iload (pc := 257) (a := 5) g dX5_holds_257 rfl ?_
      refine x_iconst (pc := 259) g dX5_holds_259 ic_1 ?_
      refine x_icmp_ne (pc := 260) (t := 276) g dX5_holds_260 (by decide) ?_ ?_
      · refine x_aload_n (pc := 263) (i := 0) (a := 0) g dX5_holds_263 rfl rfl ?_
        refine x_getR (pc := 264) (x := o + 4) g hW dX5_holds_264 fl_5_32 (sSentence ho) rfl ?_
        refine x_iconst (pc := 267) g dX5_holds_267 ic_0 ?_
        refine x_zaldc (pc := 268) g hW dX5_holds_268 (sSentence_stack ho) ix_0_20 ?_
        refine x_if_eq (pc := 269) (t := 276) g dX5_holds_269 (by decide) ?_ ?_
        · refine x_iconst (pc := 276) g dX5_holds_276 ic_0 ?_
          exact x_zretc (pc := 277) g dX5_holds_277 rfl (Or.inl rfl) (fun _ h => h)
        · refine x_iconst (pc := 272) g dX5_holds_272 ic_1 ?_
          refine x_goto (pc := 273) (t := 277) g dX5_holds_273 (by decide) ?_
          exact x_zretc (pc := 277) g dX5_holds_277 rfl (Or.inr rfl) (fun _ h => h)
      · refine x_iconst (pc := 276) g dX5_holds_276 ic_0 ?_
        exact x_zretc (pc := 277) g dX5_holds_277 rfl (Or.inl rfl) (fun _ h => h)
theorem T_Sentence_holds {l : Launch} {G : xG} {E : xE} (hW : WC G) (g : xGood E l G.1 RX5 cX5_holds yX5_holds 9 (some .boolean) rm_Sentence_holds) (m : xMem) (o : Nat) (p0 : Nat) (p1 : Nat) (p2 : Int32) (ho : isSentence o) (hp0 : isHouse p0) (hp1 : isState p1) : X E G (fun r : Int32 × xMem => (some (Value.int r.1), r.2)) 0 [(0, .ref (xad G o)), (1, .ref (xad G p0)), (2, .ref (xad G p1)), (3, .int p2)] [] m (Sentence_holds m o p0 p1 p2) := by
  unfold Sentence_holds
  refine x_aload_n (pc := 0) (i := 2) (a := 2) g dX5_holds_0 rfl rfl ?_
  refine x_aload_n (pc := 1) (i := 1) (a := 1) g dX5_holds_1 rfl rfl ?_
  refine x_iload_n (pc := 2) (i := 3) (a := 3) g dX5_holds_2 rfl rfl ?_
  refine x_Vi (pc := 3) g hW [.ref (xad G p0), .int p2] [] (c_State_owlAt l G hW m p1 p0 p2 hp1 hp0) dX5_holds_3 ml_5_104 (sState hp1) rfl rfl (Nat.le_of_ble_eq_true rfl) ⟨rfl, rfl, Nat.le_of_ble_eq_true rfl, Nat.le_of_ble_eq_true rfl⟩ (fun r1 hr1 => ?_)
  refine x_istore (pc := 6) (lv' := [(4, .int r1), (0, .ref (xad G o)), (1, .ref (xad G p0)), (2, .ref (xad G p1)), (3, .int p2)]) g dX5_holds_6 (by decide) rfl ?_
  refine x_iload (pc := 8) (a := 0) g dX5_holds_8 rfl ?_
  refine x_iconst (pc := 10) g dX5_holds_10 ic_m1 ?_
  refine x_icmp_ne (pc := 11) (t := 18) g dX5_holds_11 (by decide) ?_ ?_
  · refine x_iconst (pc := 14) g dX5_holds_14 ic_m1 ?_
    refine x_goto (pc := 15) (t := 27) g dX5_holds_15 (by decide) ?_
    refine x_istore (pc := 27) (lv' := [(5, .int ((-1))), (4, .int r1), (0, .ref (xad G o)), (1, .ref (xad G p0)), (2, .ref (xad G p1)), (3, .int p2)]) g dX5_holds_27 (by decide) rfl ?_
    refine x_iconst (pc := 29) g dX5_holds_29 ic_0 ?_
    refine x_istore (pc := 30) (lv' := [(6, .int 0), (5, .int ((-1))), (4, .int r1), (0, .ref (xad G o)), (1, .ref (xad G p0)), (2, .ref (xad G p1)), (3, .int p2)]) g dX5_holds_30 (by decide) rfl ?_
    refine x_iconst (pc := 32) g dX5_holds_32 ic_0 ?_
    refine x_istore (pc := 33) (lv' := [(7, .int 0), (6, .int 0), (5, .int ((-1))), (4, .int r1), (0, .ref (xad G o)), (1, .ref (xad G p0)), (2, .ref (xad G p1)), (3, .int p2)]) g dX5_holds_33 (by decide) rfl ?_
    exact x_sub [4, 5, 6, 7, 2, 1, 0] (T_Sentence_holds_b35 hW g o p0 p1 p2 ho hp0 hp1 1000 ((-1)) 0 0 m) rfl
  · refine x_aload_n (pc := 18) (i := 2) (a := 3) g dX5_holds_18 rfl rfl ?_
    refine x_aload_n (pc := 19) (i := 1) (a := 2) g dX5_holds_19 rfl rfl ?_
    refine x_iload (pc := 20) (a := 0) g dX5_holds_20 rfl ?_
    refine x_iload_n (pc := 22) (i := 3) (a := 4) g dX5_holds_22 rfl rfl ?_
    refine x_iconst (pc := 23) g dX5_holds_23 ic_0 ?_
    refine x_Vi (pc := 24) g hW [.ref (xad G p0), .int r1, .int p2, .int 0] [] (c_State_lookOf l G hW m p1 p0 r1 p2 0 hp1 hp0) dX5_holds_24 ml_5_110 (sState hp1) rfl rfl (Nat.le_of_ble_eq_true rfl) ⟨rfl, rfl, Nat.le_of_ble_eq_true rfl, Nat.le_of_ble_eq_true rfl⟩ (fun r2 hr2 => ?_)
    refine x_istore (pc := 27) (lv' := [(5, .int r2), (4, .int r1), (0, .ref (xad G o)), (1, .ref (xad G p0)), (2, .ref (xad G p1)), (3, .int p2)]) g dX5_holds_27 (by decide) rfl ?_
    refine x_iconst (pc := 29) g dX5_holds_29 ic_0 ?_
    refine x_istore (pc := 30) (lv' := [(6, .int 0), (5, .int r2), (4, .int r1), (0, .ref (xad G o)), (1, .ref (xad G p0)), (2, .ref (xad G p1)), (3, .int p2)]) g dX5_holds_30 (by decide) rfl ?_
    refine x_iconst (pc := 32) g dX5_holds_32 ic_0 ?_
    refine x_istore (pc := 33) (lv' := [(7, .int 0), (6, .int 0), (5, .int r2), (4, .int r1), (0, .ref (xad G o)), (1, .ref (xad G p0)), (2, .ref (xad G p1)), (3, .int p2)]) g dX5_holds_33 (by decide) rfl ?_
    exact x_sub [4, 5, 6, 7, 2, 1, 0] (T_Sentence_holds_b35 hW g o p0 p1 p2 ho hp0 hp1 1000 r2 0 0 m) rfl
theorem c_Sentence_holds (l : Launch) (G : xG) (hW : WC G) (m : xMem) (o : Nat) (p0 : Nat) (p1 : Nat) (p2 : Int32) (ho : isSentence o) (hp0 : isHouse p0) (hp1 : isState p1) : xCim l G yX5_holds cX5_holds 9 (some .boolean) rm_Sentence_holds [.ref (xad G o), .ref (xad G p0), .ref (xad G p1), .int p2] m (Sentence_holds m o p0 p1 p2) :=
  xCt_of (own := RX5) (by decide) rfl (Nat.le_of_ble_eq_true rfl) rfl ⟨rfl, rfl⟩ (fun E g => T_Sentence_holds hW g m o p0 p1 p2 ho hp0 hp1)
theorem T_Spots_isAsTold_b45 {l : Launch} {G : xG} {E : xE} (hW : WC G) (g : xGood E l G.1 RX6 cX6_isAsTold yX6_isAsTold 5 (some .boolean) rm_Spots_isAsTold) (m : xMem) (p0 : Nat) (p1 : Nat) (hp0 : isTape p0) (hp1 : isHouse p1) : ∀ (n : Nat) (v2 : Int32) (v3 : Int32), X E G (fun r : Int32 => (some (Value.int r), m)) 45 [(0, .ref (xad G p0)), (1, .ref (xad G p1)), (2, .int v2), (3, .int v3)] [] m (Spots_isAsTold_b45 m p0 p1 n v2 v3) := by
  intro n
  induction n with
  | zero => intro v2 v3; exact x_none
  | succ n ih =>
    intro v2 v3
    rw [Spots_isAsTold_b45]
    refine x_iload_n (pc := 45) (i := 3) (a := 3) g dX6_isAsTold_45 rfl rfl ?_
    refine x_iload_n (pc := 46) (i := 2) (a := 2) g dX6_isAsTold_46 rfl rfl ?_
    refine x_icmp_ge (pc := 47) (t := 93) g dX6_isAsTold_47 (by decide) ?_ ?_
    · refine x_aload_n (pc := 50) (i := 0) (a := 0) g dX6_isAsTold_50 rfl rfl ?_
      refine x_iload_n (pc := 51) (i := 3) (a := 3) g dX6_isAsTold_51 rfl rfl ?_
      refine x_iconst (pc := 52) g dX6_isAsTold_52 ic_1 ?_
      refine x_iadd (pc := 53) g dX6_isAsTold_53 ?_
      refine x_Vi (pc := 54) g hW [.int (v3 + 1)] [] (c_Tape_at l G hW m p0 (v3 + 1) hp0) dX6_isAsTold_54 ml_6_35 (sTape hp0) rfl rfl (Nat.le_of_ble_eq_true rfl) ⟨rfl, rfl, Nat.le_of_ble_eq_true rfl, Nat.le_of_ble_eq_true rfl⟩ (fun r4 hr4 => ?_)
      refine x_istore (pc := 57) (lv' := [(4, .int r4), (0, .ref (xad G p0)), (1, .ref (xad G p1)), (2, .int v2), (3, .int v3)]) g dX6_isAsTold_57 (by decide) rfl ?_
      refine x_aload_n (pc := 59) (i := 1) (a := 2) g dX6_isAsTold_59 rfl rfl ?_
      refine x_aload_n (pc := 60) (i := 0) (a := 1) g dX6_isAsTold_60 rfl rfl ?_
      refine x_iload_n (pc := 61) (i := 3) (a := 4) g dX6_isAsTold_61 rfl rfl ?_
      refine x_Vi (pc := 62) g hW [.int v3] [.ref (xad G p1)] (c_Tape_at l G hW m p0 v3 hp0) dX6_isAsTold_62 ml_6_35 (sTape hp0) rfl rfl (Nat.le_of_ble_eq_true rfl) ⟨rfl, rfl, Nat.le_of_ble_eq_true rfl, Nat.le_of_ble_eq_true rfl⟩ (fun r5 hr5 => ?_)
      refine x_Vi (pc := 65) g hW [.int r5] [] (c_House_hasOwl l G hW m p1 r5 hp1) dX6_isAsTold_65 ml_6_66 (sHouse hp1) rfl rfl (Nat.le_of_ble_eq_true rfl) ⟨rfl, rfl, Nat.le_of_ble_eq_true rfl, Nat.le_of_ble_eq_true rfl⟩ (fun r6 hr6 => ?_)
      refine x_if_eq (pc := 68) (t := 85) g dX6_isAsTold_68 (by decide) ?_ ?_
      · refine x_iconst (pc := 85) g dX6_isAsTold_85 ic_0 ?_
        exact x_zretc (pc := 86) g dX6_isAsTold_86 rfl (Or.inl rfl) (fun _ h => h)
      · refine x_iload (pc := 71) (a := 0) g dX6_isAsTold_71 rfl ?_
        refine x_iconst (pc := 73) g dX6_isAsTold_73 ic_4 ?_
        refine x_icmp_le (pc := 74) (t := 87) g dX6_isAsTold_74 (by decide) ?_ ?_
        · refine x_iload (pc := 77) (a := 0) g dX6_isAsTold_77 rfl ?_
          refine x_sipush (pc := 79) g dX6_isAsTold_79 si_255 ?_
          refine x_icmp_eq (pc := 82) (t := 87) g dX6_isAsTold_82 (by decide) ?_ ?_
          · refine x_iinc (pc := 87) (a := 4) (lv' := [(3, .int (v3 + 2)), (4, .int r4), (0, .ref (xad G p0)), (1, .ref (xad G p1)), (2, .int v2)]) g dX6_isAsTold_87 ic_2 rfl (by decide) rfl ?_
            refine x_goto (pc := 90) (t := 45) g dX6_isAsTold_90 (by decide) ?_
            exact x_sub [2, 3, 4, 0] (ih v2 (v3 + 2)) rfl
          · refine x_iconst (pc := 85) g dX6_isAsTold_85 ic_0 ?_
            exact x_zretc (pc := 86) g dX6_isAsTold_86 rfl (Or.inl rfl) (fun _ h => h)
        · refine x_iinc (pc := 87) (a := 4) (lv' := [(3, .int (v3 + 2)), (4, .int r4), (0, .ref (xad G p0)), (1, .ref (xad G p1)), (2, .int v2)]) g dX6_isAsTold_87 ic_2 rfl (by decide) rfl ?_
          refine x_goto (pc := 90) (t := 45) g dX6_isAsTold_90 (by decide) ?_
          exact x_sub [2, 3, 4, 0] (ih v2 (v3 + 2)) rfl
    · refine x_iconst (pc := 93) g dX6_isAsTold_93 ic_1 ?_
      exact x_zretc (pc := 94) g dX6_isAsTold_94 rfl (Or.inr rfl) (fun _ h => h)
theorem T_Spots_isAsTold {l : Launch} {G : xG} {E : xE} (hW : WC G) (g : xGood E l G.1 RX6 cX6_isAsTold yX6_isAsTold 5 (some .boolean) rm_Spots_isAsTold) (m : xMem) (p0 : Nat) (p1 : Nat) (hp0 : isTape p0) (hp1 : isHouse p1) : X E G (fun r : Int32 => (some (Value.int r), m)) 0 [(0, .ref (xad G p0)), (1, .ref (xad G p1))] [] m (Spots_isAsTold m p0 p1) := by
  unfold Spots_isAsTold
  refine x_aload_n (pc := 0) (i := 0) (a := 0) g dX6_isAsTold_0 rfl rfl ?_
  refine x_getI (pc := 1) g hW dX6_isAsTold_1 fl_6_63 (sTape hp0) rfl ?_
  refine x_nmI (fun x1 => ?_)
  refine x_istore_n (pc := 4) (i := 2) (lv' := [(2, .int x1), (0, .ref (xad G p0)), (1, .ref (xad G p1))]) g dX6_isAsTold_4 rfl (by decide) rfl ?_
  refine x_iload_n (pc := 5) (i := 2) (a := 0) g dX6_isAsTold_5 rfl rfl ?_
  refine x_iconst (pc := 6) g dX6_isAsTold_6 ic_3 ?_
  refine x_icmp_lt (pc := 7) (t := 41) g dX6_isAsTold_7 (by decide) ?_ ?_
  · refine x_iconst (pc := 41) g dX6_isAsTold_41 ic_0 ?_
    exact x_zretc (pc := 42) g dX6_isAsTold_42 rfl (Or.inl rfl) (fun _ h => h)
  · refine x_iload_n (pc := 10) (i := 2) (a := 0) g dX6_isAsTold_10 rfl rfl ?_
    refine x_bipush (pc := 11) g dX6_isAsTold_11 bi_13 ?_
    refine x_icmp_gt (pc := 13) (t := 41) g dX6_isAsTold_13 (by decide) ?_ ?_
    · refine x_iconst (pc := 41) g dX6_isAsTold_41 ic_0 ?_
      exact x_zretc (pc := 42) g dX6_isAsTold_42 rfl (Or.inl rfl) (fun _ h => h)
    · refine x_iload_n (pc := 16) (i := 2) (a := 0) g dX6_isAsTold_16 rfl rfl ?_
      refine x_iconst (pc := 17) g dX6_isAsTold_17 ic_2 ?_
      refine x_irem (pc := 18) g dX6_isAsTold_18 (by decide) ?_
      refine x_if_eq (pc := 19) (t := 41) g dX6_isAsTold_19 (by decide) ?_ ?_
      · refine x_iconst (pc := 41) g dX6_isAsTold_41 ic_0 ?_
        exact x_zretc (pc := 42) g dX6_isAsTold_42 rfl (Or.inl rfl) (fun _ h => h)
      · refine x_aload_n (pc := 22) (i := 0) (a := 1) g dX6_isAsTold_22 rfl rfl ?_
        refine x_iconst (pc := 23) g dX6_isAsTold_23 ic_0 ?_
        refine x_Vi (pc := 24) g hW [.int 0] [] (c_Tape_at l G hW m p0 0 hp0) dX6_isAsTold_24 ml_6_35 (sTape hp0) rfl rfl (Nat.le_of_ble_eq_true rfl) ⟨rfl, rfl, Nat.le_of_ble_eq_true rfl, Nat.le_of_ble_eq_true rfl⟩ (fun r2 hr2 => ?_)
        refine x_iconst (pc := 27) g dX6_isAsTold_27 ic_1 ?_
        refine x_icmp_lt (pc := 28) (t := 41) g dX6_isAsTold_28 (by decide) ?_ ?_
        · refine x_iconst (pc := 41) g dX6_isAsTold_41 ic_0 ?_
          exact x_zretc (pc := 42) g dX6_isAsTold_42 rfl (Or.inl rfl) (fun _ h => h)
        · refine x_aload_n (pc := 31) (i := 0) (a := 1) g dX6_isAsTold_31 rfl rfl ?_
          refine x_iconst (pc := 32) g dX6_isAsTold_32 ic_0 ?_
          refine x_Vi (pc := 33) g hW [.int 0] [] (c_Tape_at l G hW m p0 0 hp0) dX6_isAsTold_33 ml_6_35 (sTape hp0) rfl rfl (Nat.le_of_ble_eq_true rfl) ⟨rfl, rfl, Nat.le_of_ble_eq_true rfl, Nat.le_of_ble_eq_true rfl⟩ (fun r3 hr3 => ?_)
          refine x_bipush (pc := 36) g dX6_isAsTold_36 bi_30 ?_
          refine x_icmp_le (pc := 38) (t := 43) g dX6_isAsTold_38 (by decide) ?_ ?_
          · refine x_iconst (pc := 41) g dX6_isAsTold_41 ic_0 ?_
            exact x_zretc (pc := 42) g dX6_isAsTold_42 rfl (Or.inl rfl) (fun _ h => h)
          · refine x_iconst (pc := 43) g dX6_isAsTold_43 ic_1 ?_
            refine x_istore_n (pc := 44) (i := 3) (lv' := [(3, .int 1), (2, .int x1), (0, .ref (xad G p0)), (1, .ref (xad G p1))]) g dX6_isAsTold_44 rfl (by decide) rfl ?_
            exact x_sub [2, 3, 1, 0] (T_Spots_isAsTold_b45 hW g m p0 p1 hp0 hp1 1000 x1 1) rfl
theorem c_Spots_isAsTold (l : Launch) (G : xG) (hW : WC G) (m : xMem) (p0 : Nat) (p1 : Nat) (hp0 : isTape p0) (hp1 : isHouse p1) : xCi l G yX6_isAsTold cX6_isAsTold 5 (some .boolean) rm_Spots_isAsTold [.ref (xad G p0), .ref (xad G p1)] m (Spots_isAsTold m p0 p1) :=
  xCt_of (own := RX6) (by decide) rfl (Nat.le_of_ble_eq_true rfl) rfl ⟨rfl, rfl⟩ (fun E g => T_Spots_isAsTold hW g m p0 p1 hp0 hp1)
theorem T_Spots_fits_b46 {l : Launch} {G : xG} {E : xE} (hW : WC G) (g : xGood E l G.1 RX6 cX6_fits yX6_fits 7 (some .boolean) rm_Spots_fits) (m : xMem) (p0 : Nat) (p1 : Nat) (p2 : Nat) (hp0 : isTape p0) (hp1 : isHouse p1) (hp2 : isState p2) (k3 : Int32 → Option (Int32)) (hk3 : ∀ (v4 : Int32), X E G (fun r : Int32 => (some (Value.int r), m)) 3 [(0, .ref (xad G 165)), (1, .ref (xad G p0)), (2, .ref (xad G p1)), (3, .ref (xad G p2)), (4, .int v4)] [] m (k3 v4)) (v4 : Int32) (v5 : Int32) (s0 : Int32) : X E G (fun r : Int32 => (some (Value.int r), m)) 46 [(0, .ref (xad G 165)), (1, .ref (xad G p0)), (2, .ref (xad G p1)), (3, .ref (xad G p2)), (4, .int v4), (5, .int v5)] [.int s0] m (Spots_fits_b46 m p0 p1 p2 k3 v4 v5 s0) := by
  unfold Spots_fits_b46
  refine x_istore (pc := 46) (lv' := [(6, .int s0), (0, .ref (xad G 165)), (1, .ref (xad G p0)), (2, .ref (xad G p1)), (3, .ref (xad G p2)), (4, .int v4), (5, .int v5)]) g dX6_fits_46 (by decide) rfl ?_
  refine x_aload_n (pc := 48) (i := 2) (a := 3) g dX6_fits_48 rfl rfl ?_
  refine x_iload (pc := 49) (a := 6) g dX6_fits_49 rfl ?_
  refine x_Vi (pc := 51) g hW [.int v5] [] (c_House_hasOwl l G hW m p1 v5 hp1) dX6_fits_51 ml_6_66 (sHouse hp1) rfl rfl (Nat.le_of_ble_eq_true rfl) ⟨rfl, rfl, Nat.le_of_ble_eq_true rfl, Nat.le_of_ble_eq_true rfl⟩ (fun r4 hr4 => ?_)
  refine x_if_eq (pc := 54) (t := 79) g dX6_fits_54 (by decide) ?_ ?_
  · refine x_iconst (pc := 79) g dX6_fits_79 ic_0 ?_
    exact x_zretc (pc := 80) g dX6_fits_80 rfl (Or.inl rfl) (fun _ h => h)
  · refine x_aload_n (pc := 57) (i := 2) (a := 3) g dX6_fits_57 rfl rfl ?_
    refine x_iload (pc := 58) (a := 6) g dX6_fits_58 rfl ?_
    refine x_aload_n (pc := 60) (i := 3) (a := 4) g dX6_fits_60 rfl rfl ?_
    refine x_getR (pc := 61) (x := p2 + 2) g hW dX6_fits_61 fl_6_70 (sState hp2) rfl ?_
    refine x_iload (pc := 64) (a := 6) g dX6_fits_64 rfl ?_
    refine x_iald (pc := 66) g hW dX6_fits_66 (sState_owlBed hp2) (fun j5 hj5 => ?_)
    refine x_aload_n (pc := 67) (i := 0) (a := 1) g dX6_fits_67 rfl rfl ?_
    refine x_getR (pc := 68) (x := 168) g hW dX6_fits_68 fl_6_18 (sSpots isSpots_165) rfl ?_
    refine x_Vi (pc := 71) g hW [.int v5, .int (m.1 (p2 + 2) j5), .ref (xad G 168)] [] (c_House_heardSide l G hW m p1 v5 (m.1 (p2 + 2) j5) 168 hp1 (sSpots_voice isSpots_165) (by decide)) dX6_fits_71 ml_6_75 (sHouse hp1) rfl rfl (Nat.le_of_ble_eq_true rfl) ⟨rfl, rfl, Nat.le_of_ble_eq_true rfl, Nat.le_of_ble_eq_true rfl⟩ (fun r6 hr6 => ?_)
    refine x_iload (pc := 74) (a := 0) g dX6_fits_74 rfl ?_
    refine x_icmp_eq (pc := 76) (t := 81) g dX6_fits_76 (by decide) ?_ ?_
    · refine x_iinc (pc := 81) (a := 5) (lv' := [(4, .int (v4 + 2)), (6, .int s0), (0, .ref (xad G 165)), (1, .ref (xad G p0)), (2, .ref (xad G p1)), (3, .ref (xad G p2)), (5, .int v5)]) g dX6_fits_81 ic_2 rfl (by decide) rfl ?_
      refine x_goto (pc := 84) (t := 3) g dX6_fits_84 (by decide) ?_
      exact x_sub [2, 3, 4, 5, 0] (hk3 (v4 + 2)) rfl
    · refine x_iconst (pc := 79) g dX6_fits_79 ic_0 ?_
      exact x_zretc (pc := 80) g dX6_fits_80 rfl (Or.inl rfl) (fun _ h => h)
theorem T_Spots_fits_b3 {l : Launch} {G : xG} {E : xE} (hW : WC G) (g : xGood E l G.1 RX6 cX6_fits yX6_fits 7 (some .boolean) rm_Spots_fits) (m : xMem) (p0 : Nat) (p1 : Nat) (p2 : Nat) (hp0 : isTape p0) (hp1 : isHouse p1) (hp2 : isState p2) : ∀ (n : Nat) (v4 : Int32), X E G (fun r : Int32 => (some (Value.int r), m)) 3 [(0, .ref (xad G 165)), (1, .ref (xad G p0)), (2, .ref (xad G p1)), (3, .ref (xad G p2)), (4, .int v4)] [] m (Spots_fits_b3 m p0 p1 p2 n v4) := by
  intro n
  induction n with
  | zero => intro v4; exact x_none
  | succ n ih =>
    intro v4
    rw [Spots_fits_b3]
    refine x_iload (pc := 3) (a := 4) g dX6_fits_3 rfl ?_
    refine x_aload_n (pc := 5) (i := 1) (a := 1) g dX6_fits_5 rfl rfl ?_
    refine x_getI (pc := 6) g hW dX6_fits_6 fl_6_63 (sTape hp0) rfl ?_
    refine x_icmp_ge (pc := 9) (t := 87) g dX6_fits_9 (by decide) ?_ ?_
    · refine x_aload_n (pc := 12) (i := 1) (a := 1) g dX6_fits_12 rfl rfl ?_
      refine x_iload (pc := 13) (a := 4) g dX6_fits_13 rfl ?_
      refine x_Vi (pc := 15) g hW [.int v4] [] (c_Tape_at l G hW m p0 v4 hp0) dX6_fits_15 ml_6_35 (sTape hp0) rfl rfl (Nat.le_of_ble_eq_true rfl) ⟨rfl, rfl, Nat.le_of_ble_eq_true rfl, Nat.le_of_ble_eq_true rfl⟩ (fun r1 hr1 => ?_)
      refine x_istore (pc := 18) (lv' := [(5, .int r1), (0, .ref (xad G 165)), (1, .ref (xad G p0)), (2, .ref (xad G p1)), (3, .ref (xad G p2)), (4, .int v4)]) g dX6_fits_18 (by decide) rfl ?_
      refine x_aload_n (pc := 20) (i := 1) (a := 2) g dX6_fits_20 rfl rfl ?_
      refine x_iload (pc := 21) (a := 5) g dX6_fits_21 rfl ?_
      refine x_iconst (pc := 23) g dX6_fits_23 ic_1 ?_
      refine x_iadd (pc := 24) g dX6_fits_24 ?_
      refine x_Vi (pc := 25) g hW [.int (v4 + 1)] [] (c_Tape_at l G hW m p0 (v4 + 1) hp0) dX6_fits_25 ml_6_35 (sTape hp0) rfl rfl (Nat.le_of_ble_eq_true rfl) ⟨rfl, rfl, Nat.le_of_ble_eq_true rfl, Nat.le_of_ble_eq_true rfl⟩ (fun r2 hr2 => ?_)
      refine x_sipush (pc := 28) g dX6_fits_28 si_255 ?_
      refine x_icmp_ne (pc := 31) (t := 38) g dX6_fits_31 (by decide) ?_ ?_
      · refine x_iconst (pc := 34) g dX6_fits_34 ic_m1 ?_
        refine x_goto (pc := 35) (t := 46) g dX6_fits_35 (by decide) ?_
        exact x_sub [1, 2, 3, 4, 5, 0] (T_Spots_fits_b46 hW g m p0 p1 p2 hp0 hp1 hp2 (Spots_fits_b3 m p0 p1 p2 n) ih v4 r1 ((-1))) rfl
      · refine x_aload_n (pc := 38) (i := 1) (a := 2) g dX6_fits_38 rfl rfl ?_
        refine x_iload (pc := 39) (a := 5) g dX6_fits_39 rfl ?_
        refine x_iconst (pc := 41) g dX6_fits_41 ic_1 ?_
        refine x_iadd (pc := 42) g dX6_fits_42 ?_
        refine x_Vi (pc := 43) g hW [.int (v4 + 1)] [] (c_Tape_at l G hW m p0 (v4 + 1) hp0) dX6_fits_43 ml_6_35 (sTape hp0) rfl rfl (Nat.le_of_ble_eq_true rfl) ⟨rfl, rfl, Nat.le_of_ble_eq_true rfl, Nat.le_of_ble_eq_true rfl⟩ (fun r3 hr3 => ?_)
        exact x_sub [1, 2, 3, 4, 5, 0] (T_Spots_fits_b46 hW g m p0 p1 p2 hp0 hp1 hp2 (Spots_fits_b3 m p0 p1 p2 n) ih v4 r1 r3) rfl
    · refine x_iconst (pc := 87) g dX6_fits_87 ic_1 ?_
      exact x_zretc (pc := 88) g dX6_fits_88 rfl (Or.inr rfl) (fun _ h => h)
theorem T_Spots_fits {l : Launch} {G : xG} {E : xE} (hW : WC G) (g : xGood E l G.1 RX6 cX6_fits yX6_fits 7 (some .boolean) rm_Spots_fits) (m : xMem) (p0 : Nat) (p1 : Nat) (p2 : Nat) (hp0 : isTape p0) (hp1 : isHouse p1) (hp2 : isState p2) : X E G (fun r : Int32 => (some (Value.int r), m)) 0 [(0, .ref (xad G 165)), (1, .ref (xad G p0)), (2, .ref (xad G p1)), (3, .ref (xad G p2))] [] m (Spots_fits m p0 p1 p2) := by
  unfold Spots_fits
  refine x_iconst (pc := 0) g dX6_fits_0 ic_1 ?_
  refine x_istore (pc := 1) (lv' := [(4, .int 1), (0, .ref (xad G 165)), (1, .ref (xad G p0)), (2, .ref (xad G p1)), (3, .ref (xad G p2))]) g dX6_fits_1 (by decide) rfl ?_
  exact x_sub [1, 2, 3, 4, 0] (T_Spots_fits_b3 hW g m p0 p1 p2 hp0 hp1 hp2 1000 1) rfl
theorem c_Spots_fits (l : Launch) (G : xG) (hW : WC G) (m : xMem) (p0 : Nat) (p1 : Nat) (p2 : Nat) (hp0 : isTape p0) (hp1 : isHouse p1) (hp2 : isState p2) : xCi l G yX6_fits cX6_fits 7 (some .boolean) rm_Spots_fits [.ref (xad G 165), .ref (xad G p0), .ref (xad G p1), .ref (xad G p2)] m (Spots_fits m p0 p1 p2) :=
  xCt_of (own := RX6) (by decide) rfl (Nat.le_of_ble_eq_true rfl) rfl ⟨rfl, rfl⟩ (fun E g => T_Spots_fits hW g m p0 p1 p2 hp0 hp1 hp2)
theorem T_Spots_mostLeft_b33 {l : Launch} {G : xG} {E : xE} (hW : WC G) (g : xGood E l G.1 RX6 cX6_mostLeft yX6_mostLeft 7 (some .int) rm_Spots_mostLeft) (p0 : Nat) (p1 : Nat) (p2 : Int32) (hp0 : isHouse p0) (hp1 : isState p1) : ∀ (n : Nat) (v4 : Int32) (v5 : Int32) (m : xMem), X E G (fun r : Int32 × xMem => (some (Value.int r.1), r.2)) 33 [(0, .ref (xad G 165)), (1, .ref (xad G p0)), (2, .ref (xad G p1)), (3, .int p2), (4, .int v4), (5, .int v5)] [] m (Spots_mostLeft_b33 p0 p1 p2 n v4 v5 m) := by
  intro n
  induction n with
  | zero => intro v4 v5 m; exact x_none
  | succ n ih =>
    intro v4 v5 m
    rw [Spots_mostLeft_b33]
    refine x_iload (pc := 33) (a := 5) g dX6_mostLeft_33 rfl ?_
    refine x_aload_n (pc := 35) (i := 0) (a := 0) g dX6_mostLeft_35 rfl rfl ?_
    refine x_getI (pc := 36) g hW dX6_mostLeft_36 fl_6_24 (sSpots isSpots_165) rfl ?_
    refine x_icmp_ge (pc := 39) (t := 124) g dX6_mostLeft_39 (by decide) ?_ ?_
    · refine x_aload_n (pc := 42) (i := 0) (a := 0) g dX6_mostLeft_42 rfl rfl ?_
      refine x_getR (pc := 43) (x := 168) g hW dX6_mostLeft_43 fl_6_18 (sSpots isSpots_165) rfl ?_
      refine x_iconst (pc := 46) g dX6_mostLeft_46 ic_1 ?_
      refine x_aload_n (pc := 47) (i := 0) (a := 0) g dX6_mostLeft_47 rfl rfl ?_
      refine x_getR (pc := 48) (x := 166) g hW dX6_mostLeft_48 fl_6_11 (sSpots isSpots_165) rfl ?_
      refine x_iload (pc := 51) (a := 5) g dX6_mostLeft_51 rfl ?_
      refine x_iald (pc := 53) g hW dX6_mostLeft_53 (sSpots_cells isSpots_165) (fun j3 hj3 => ?_)
      refine x_bipush (pc := 54) g dX6_mostLeft_54 bi_9 ?_
      refine x_irem (pc := 56) g dX6_mostLeft_56 (by decide) ?_
      refine x_iastc (pc := 57) g hW dX6_mostLeft_57 (sSpots_voice isSpots_165) ix_1_4 (fun m4 => ?_)
      refine x_aload_n (pc := 58) (i := 0) (a := 0) g dX6_mostLeft_58 rfl rfl ?_
      refine x_getR (pc := 59) (x := 168) g hW dX6_mostLeft_59 fl_6_18 (sSpots isSpots_165) rfl ?_
      refine x_iconst (pc := 62) g dX6_mostLeft_62 ic_2 ?_
      refine x_aload_n (pc := 63) (i := 0) (a := 0) g dX6_mostLeft_63 rfl rfl ?_
      refine x_getR (pc := 64) (x := 166) g hW dX6_mostLeft_64 fl_6_11 (sSpots isSpots_165) rfl ?_
      refine x_iload (pc := 67) (a := 5) g dX6_mostLeft_67 rfl ?_
      refine x_iald (pc := 69) g hW dX6_mostLeft_69 (sSpots_cells isSpots_165) (fun j5 hj5 => ?_)
      refine x_bipush (pc := 70) g dX6_mostLeft_70 bi_9 ?_
      refine x_idiv (pc := 72) g dX6_mostLeft_72 (by decide) ?_
      refine x_iastc (pc := 73) g hW dX6_mostLeft_73 (sSpots_voice isSpots_165) ix_2_4 (fun m6 => ?_)
      refine x_aload_n (pc := 74) (i := 1) (a := 1) g dX6_mostLeft_74 rfl rfl ?_
      refine x_iload_n (pc := 75) (i := 3) (a := 3) g dX6_mostLeft_75 rfl rfl ?_
      refine x_aload_n (pc := 76) (i := 2) (a := 2) g dX6_mostLeft_76 rfl rfl ?_
      refine x_getR (pc := 77) (x := p1 + 2) g hW dX6_mostLeft_77 fl_6_70 (sState hp1) rfl ?_
      refine x_iload_n (pc := 80) (i := 3) (a := 3) g dX6_mostLeft_80 rfl rfl ?_
      refine x_iald (pc := 81) g hW dX6_mostLeft_81 (sState_owlBed hp1) (fun j7 hj7 => ?_)
      refine x_aload_n (pc := 82) (i := 0) (a := 0) g dX6_mostLeft_82 rfl rfl ?_
      refine x_getR (pc := 83) (x := 168) g hW dX6_mostLeft_83 fl_6_18 (sSpots isSpots_165) rfl ?_
      refine x_Vi (pc := 86) g hW [.int p2, .int (m6.1 (p1 + 2) j7), .ref (xad G 168)] [] (c_House_heardSide l G hW m6 p0 p2 (m6.1 (p1 + 2) j7) 168 hp0 (sSpots_voice isSpots_165) (by decide)) dX6_mostLeft_86 ml_6_75 (sHouse hp0) rfl rfl (Nat.le_of_ble_eq_true rfl) ⟨rfl, rfl, Nat.le_of_ble_eq_true rfl, Nat.le_of_ble_eq_true rfl⟩ (fun r8 hr8 => ?_)
      refine x_iconst (pc := 89) g dX6_mostLeft_89 ic_1 ?_
      refine x_iadd (pc := 90) g dX6_mostLeft_90 ?_
      refine x_nmI (fun x9 => ?_)
      refine x_istore (pc := 91) (lv' := [(6, .int x9), (0, .ref (xad G 165)), (1, .ref (xad G p0)), (2, .ref (xad G p1)), (3, .int p2), (4, .int v4), (5, .int v5)]) g dX6_mostLeft_91 (by decide) rfl ?_
      refine x_aload_n (pc := 93) (i := 0) (a := 1) g dX6_mostLeft_93 rfl rfl ?_
      refine x_getR (pc := 94) (x := 169) g hW dX6_mostLeft_94 fl_6_21 (sSpots isSpots_165) rfl ?_
      refine x_iload (pc := 97) (a := 0) g dX6_mostLeft_97 rfl ?_
      refine x_dup2 (pc := 99) g dX6_mostLeft_99 rfl rfl ?_
      refine x_iald (pc := 100) g hW dX6_mostLeft_100 (sSpots_tally isSpots_165) (fun j10 hj10 => ?_)
      refine x_iconst (pc := 101) g dX6_mostLeft_101 ic_1 ?_
      refine x_iadd (pc := 102) g dX6_mostLeft_102 ?_
      refine x_iast (pc := 103) g hW dX6_mostLeft_103 (sSpots_tally isSpots_165) (fun j12 hj12 m11 => ?_)
      refine x_iload (pc := 104) (a := 5) g dX6_mostLeft_104 rfl ?_
      refine x_aload_n (pc := 106) (i := 0) (a := 1) g dX6_mostLeft_106 rfl rfl ?_
      refine x_getR (pc := 107) (x := 169) g hW dX6_mostLeft_107 fl_6_21 (sSpots isSpots_165) rfl ?_
      refine x_iload (pc := 110) (a := 0) g dX6_mostLeft_110 rfl ?_
      refine x_iald (pc := 112) g hW dX6_mostLeft_112 (sSpots_tally isSpots_165) (fun j13 hj13 => ?_)
      refine x_mmax (pc := 113) g dX6_mostLeft_113 mk_6_86 mm_max ⟨by decide, Nat.le_of_ble_eq_true rfl⟩ ?_
      refine x_nmI (fun x14 => ?_)
      refine x_istore (pc := 116) (lv' := [(4, .int x14), (6, .int x9), (0, .ref (xad G 165)), (1, .ref (xad G p0)), (2, .ref (xad G p1)), (3, .int p2), (5, .int v5)]) g dX6_mostLeft_116 (by decide) rfl ?_
      refine x_iinc (pc := 118) (a := 6) (lv' := [(5, .int (v5 + 1)), (4, .int x14), (6, .int x9), (0, .ref (xad G 165)), (1, .ref (xad G p0)), (2, .ref (xad G p1)), (3, .int p2)]) g dX6_mostLeft_118 ic_1 rfl (by decide) rfl ?_
      refine x_goto (pc := 121) (t := 33) g dX6_mostLeft_121 (by decide) ?_
      exact x_sub [3, 4, 5, 6, 1, 0] (ih x14 (v5 + 1) m11) rfl
    · refine x_iload (pc := 124) (a := 4) g dX6_mostLeft_124 rfl ?_
      exact x_iret (pc := 126) g dX6_mostLeft_126 rfl (fun _ h => h)
theorem T_Spots_mostLeft_b3 {l : Launch} {G : xG} {E : xE} (hW : WC G) (g : xGood E l G.1 RX6 cX6_mostLeft yX6_mostLeft 7 (some .int) rm_Spots_mostLeft) (p0 : Nat) (p1 : Nat) (p2 : Int32) (hp0 : isHouse p0) (hp1 : isState p1) : ∀ (n : Nat) (v4 : Int32) (m : xMem), X E G (fun r : Int32 × xMem => (some (Value.int r.1), r.2)) 3 [(0, .ref (xad G 165)), (1, .ref (xad G p0)), (2, .ref (xad G p1)), (3, .int p2), (4, .int v4)] [] m (Spots_mostLeft_b3 p0 p1 p2 n v4 m) := by
  intro n
  induction n with
  | zero => intro v4 m; exact x_none
  | succ n ih =>
    intro v4 m
    rw [Spots_mostLeft_b3]
    refine x_iload (pc := 3) (a := 4) g dX6_mostLeft_3 rfl ?_
    refine x_aload_n (pc := 5) (i := 0) (a := 0) g dX6_mostLeft_5 rfl rfl ?_
    refine x_getR (pc := 6) (x := 169) g hW dX6_mostLeft_6 fl_6_21 (sSpots isSpots_165) rfl ?_
    refine x_alen (pc := 9) g hW dX6_mostLeft_9 (sSpots_tally isSpots_165) (by decide) al_6 ?_
    refine x_icmp_ge (pc := 10) (t := 27) g dX6_mostLeft_10 (by decide) ?_ ?_
    · refine x_aload_n (pc := 13) (i := 0) (a := 0) g dX6_mostLeft_13 rfl rfl ?_
      refine x_getR (pc := 14) (x := 169) g hW dX6_mostLeft_14 fl_6_21 (sSpots isSpots_165) rfl ?_
      refine x_iload (pc := 17) (a := 4) g dX6_mostLeft_17 rfl ?_
      refine x_iconst (pc := 19) g dX6_mostLeft_19 ic_0 ?_
      refine x_iast (pc := 20) g hW dX6_mostLeft_20 (sSpots_tally isSpots_165) (fun j2 hj2 m1 => ?_)
      refine x_iinc (pc := 21) (a := 4) (lv' := [(4, .int (v4 + 1)), (0, .ref (xad G 165)), (1, .ref (xad G p0)), (2, .ref (xad G p1)), (3, .int p2)]) g dX6_mostLeft_21 ic_1 rfl (by decide) rfl ?_
      refine x_goto (pc := 24) (t := 3) g dX6_mostLeft_24 (by decide) ?_
      exact x_sub [1, 2, 3, 4, 0] (ih (v4 + 1) m1) rfl
    · refine x_iconst (pc := 27) g dX6_mostLeft_27 ic_0 ?_
      refine x_istore (pc := 28) (lv' := [(4, .int 0), (0, .ref (xad G 165)), (1, .ref (xad G p0)), (2, .ref (xad G p1)), (3, .int p2)]) g dX6_mostLeft_28 (by decide) rfl ?_
      refine x_iconst (pc := 30) g dX6_mostLeft_30 ic_0 ?_
      refine x_istore (pc := 31) (lv' := [(5, .int 0), (4, .int 0), (0, .ref (xad G 165)), (1, .ref (xad G p0)), (2, .ref (xad G p1)), (3, .int p2)]) g dX6_mostLeft_31 (by decide) rfl ?_
      exact x_sub [2, 3, 4, 5, 1, 0] (T_Spots_mostLeft_b33 hW g p0 p1 p2 hp0 hp1 1000 0 0 m) rfl
theorem T_Spots_mostLeft {l : Launch} {G : xG} {E : xE} (hW : WC G) (g : xGood E l G.1 RX6 cX6_mostLeft yX6_mostLeft 7 (some .int) rm_Spots_mostLeft) (m : xMem) (p0 : Nat) (p1 : Nat) (p2 : Int32) (hp0 : isHouse p0) (hp1 : isState p1) : X E G (fun r : Int32 × xMem => (some (Value.int r.1), r.2)) 0 [(0, .ref (xad G 165)), (1, .ref (xad G p0)), (2, .ref (xad G p1)), (3, .int p2)] [] m (Spots_mostLeft m p0 p1 p2) := by
  unfold Spots_mostLeft
  refine x_iconst (pc := 0) g dX6_mostLeft_0 ic_0 ?_
  refine x_istore (pc := 1) (lv' := [(4, .int 0), (0, .ref (xad G 165)), (1, .ref (xad G p0)), (2, .ref (xad G p1)), (3, .int p2)]) g dX6_mostLeft_1 (by decide) rfl ?_
  exact x_sub [1, 2, 3, 4, 0] (T_Spots_mostLeft_b3 hW g p0 p1 p2 hp0 hp1 1000 0 m) rfl
theorem c_Spots_mostLeft (l : Launch) (G : xG) (hW : WC G) (m : xMem) (p0 : Nat) (p1 : Nat) (p2 : Int32) (hp0 : isHouse p0) (hp1 : isState p1) : xCim l G yX6_mostLeft cX6_mostLeft 7 (some .int) rm_Spots_mostLeft [.ref (xad G 165), .ref (xad G p0), .ref (xad G p1), .int p2] m (Spots_mostLeft m p0 p1 p2) :=
  xCt_of (own := RX6) (by decide) rfl (Nat.le_of_ble_eq_true rfl) rfl ⟨rfl, rfl⟩ (fun E g => T_Spots_mostLeft hW g m p0 p1 p2 hp0 hp1)
theorem T_Spots_findNext_b9 {l : Launch} {G : xG} {E : xE} (hW : WC G) (g : xGood E l G.1 RX6 cX6_findNext yX6_findNext 7 (some .int) rm_Spots_findNext) (p0 : Nat) (p1 : Nat) (hp0 : isHouse p0) (hp1 : isState p1) : ∀ (n : Nat) (v3 : Int32) (v4 : Int32) (v5 : Int32) (m : xMem), X E G (fun r : Int32 × xMem => (some (Value.int r.1), r.2)) 9 [(0, .ref (xad G 165)), (1, .ref (xad G p0)), (2, .ref (xad G p1)), (3, .int v3), (4, .int v4), (5, .int v5)] [] m (Spots_findNext_b9 p0 p1 n v3 v4 v5 m) := by
  intro n
  induction n with
  | zero => intro v3 v4 v5 m; exact x_none
  | succ n ih =>
    intro v3 v4 v5 m
    rw [Spots_findNext_b9]
    refine x_iload (pc := 9) (a := 5) g dX6_findNext_9 rfl ?_
    refine x_aload_n (pc := 11) (i := 1) (a := 1) g dX6_findNext_11 rfl rfl ?_
    refine x_getI (pc := 12) g hW dX6_findNext_12 fl_6_79 (sHouse hp0) rfl ?_
    refine x_icmp_ge (pc := 15) (t := 48) g dX6_findNext_15 (by decide) ?_ ?_
    · refine x_aload_n (pc := 18) (i := 0) (a := 0) g dX6_findNext_18 rfl rfl ?_
      refine x_aload_n (pc := 19) (i := 1) (a := 1) g dX6_findNext_19 rfl rfl ?_
      refine x_aload_n (pc := 20) (i := 2) (a := 2) g dX6_findNext_20 rfl rfl ?_
      refine x_iload (pc := 21) (a := 5) g dX6_findNext_21 rfl ?_
      refine x_Vim (pc := 23) g hW [.ref (xad G p0), .ref (xad G p1), .int v5] [] (c_Spots_mostLeft l G hW m p0 p1 v5 hp0 hp1) dX6_findNext_23 ml_6_82 (sSpots isSpots_165) rfl rfl (Nat.le_of_ble_eq_true rfl) ⟨rfl, rfl, Nat.le_of_ble_eq_true rfl, Nat.le_of_ble_eq_true rfl⟩ (fun r1 hr1 => ?_)
      refine x_istore (pc := 26) (lv' := [(6, .int r1.1), (0, .ref (xad G 165)), (1, .ref (xad G p0)), (2, .ref (xad G p1)), (3, .int v3), (4, .int v4), (5, .int v5)]) g dX6_findNext_26 (by decide) rfl ?_
      refine x_iload (pc := 28) (a := 0) g dX6_findNext_28 rfl ?_
      refine x_iload (pc := 30) (a := 5) g dX6_findNext_30 rfl ?_
      refine x_icmp_ge (pc := 32) (t := 42) g dX6_findNext_32 (by decide) ?_ ?_
      · refine x_iload (pc := 35) (a := 0) g dX6_findNext_35 rfl ?_
        refine x_istore (pc := 37) (lv' := [(4, .int r1.1), (6, .int r1.1), (0, .ref (xad G 165)), (1, .ref (xad G p0)), (2, .ref (xad G p1)), (3, .int v3), (5, .int v5)]) g dX6_findNext_37 (by decide) rfl ?_
        refine x_iload (pc := 39) (a := 6) g dX6_findNext_39 rfl ?_
        refine x_istore_n (pc := 41) (i := 3) (lv' := [(3, .int v5), (4, .int r1.1), (6, .int r1.1), (0, .ref (xad G 165)), (1, .ref (xad G p0)), (2, .ref (xad G p1)), (5, .int v5)]) g dX6_findNext_41 rfl (by decide) rfl ?_
        refine x_iinc (pc := 42) (a := 6) (lv' := [(5, .int (v5 + 1)), (3, .int v5), (4, .int r1.1), (6, .int r1.1), (0, .ref (xad G 165)), (1, .ref (xad G p0)), (2, .ref (xad G p1))]) g dX6_findNext_42 ic_1 rfl (by decide) rfl ?_
        refine x_goto (pc := 45) (t := 9) g dX6_findNext_45 (by decide) ?_
        exact x_sub [4, 5, 6, 1, 2, 0] (ih v5 r1.1 (v5 + 1) r1.2) rfl
      · refine x_iinc (pc := 42) (a := 6) (lv' := [(5, .int (v5 + 1)), (6, .int r1.1), (0, .ref (xad G 165)), (1, .ref (xad G p0)), (2, .ref (xad G p1)), (3, .int v3), (4, .int v4)]) g dX6_findNext_42 ic_1 rfl (by decide) rfl ?_
        refine x_goto (pc := 45) (t := 9) g dX6_findNext_45 (by decide) ?_
        exact x_sub [2, 3, 4, 5, 6, 0] (ih v3 v4 (v5 + 1) r1.2) rfl
    · refine x_iload_n (pc := 48) (i := 3) (a := 3) g dX6_findNext_48 rfl rfl ?_
      exact x_iret (pc := 49) g dX6_findNext_49 rfl (fun _ h => h)
theorem T_Spots_findNext {l : Launch} {G : xG} {E : xE} (hW : WC G) (g : xGood E l G.1 RX6 cX6_findNext yX6_findNext 7 (some .int) rm_Spots_findNext) (m : xMem) (p0 : Nat) (p1 : Nat) (hp0 : isHouse p0) (hp1 : isState p1) : X E G (fun r : Int32 × xMem => (some (Value.int r.1), r.2)) 0 [(0, .ref (xad G 165)), (1, .ref (xad G p0)), (2, .ref (xad G p1))] [] m (Spots_findNext m p0 p1) := by
  unfold Spots_findNext
  refine x_iconst (pc := 0) g dX6_findNext_0 ic_m1 ?_
  refine x_istore_n (pc := 1) (i := 3) (lv' := [(3, .int ((-1))), (0, .ref (xad G 165)), (1, .ref (xad G p0)), (2, .ref (xad G p1))]) g dX6_findNext_1 rfl (by decide) rfl ?_
  refine x_bipush (pc := 2) g dX6_findNext_2 bi_82 ?_
  refine x_istore (pc := 4) (lv' := [(4, .int 82), (3, .int ((-1))), (0, .ref (xad G 165)), (1, .ref (xad G p0)), (2, .ref (xad G p1))]) g dX6_findNext_4 (by decide) rfl ?_
  refine x_iconst (pc := 6) g dX6_findNext_6 ic_0 ?_
  refine x_istore (pc := 7) (lv' := [(5, .int 0), (4, .int 82), (3, .int ((-1))), (0, .ref (xad G 165)), (1, .ref (xad G p0)), (2, .ref (xad G p1))]) g dX6_findNext_7 (by decide) rfl ?_
  exact x_sub [3, 4, 5, 2, 1, 0] (T_Spots_findNext_b9 hW g p0 p1 hp0 hp1 1000 ((-1)) 82 0 m) rfl
theorem c_Spots_findNext (l : Launch) (G : xG) (hW : WC G) (m : xMem) (p0 : Nat) (p1 : Nat) (hp0 : isHouse p0) (hp1 : isState p1) : xCim l G yX6_findNext cX6_findNext 7 (some .int) rm_Spots_findNext [.ref (xad G 165), .ref (xad G p0), .ref (xad G p1)] m (Spots_findNext m p0 p1) :=
  xCt_of (own := RX6) (by decide) rfl (Nat.le_of_ble_eq_true rfl) rfl ⟨rfl, rfl⟩ (fun E g => T_Spots_findNext hW g m p0 p1 hp0 hp1)
theorem T_Spots_find_b46 {l : Launch} {G : xG} {E : xE} (hW : WC G) (g : xGood E l G.1 RX6 cX6_find yX6_find 7 (some .int) rm_Spots_find) (p0 : Nat) (p1 : Nat) (p2 : Nat) (hp0 : isTape p0) (hp1 : isHouse p1) (hp2 : isState p2) (k34 : Int32 → Int32 → xMem → Option (Int32 × xMem)) (hk34 : ∀ (v4 : Int32) (v5 : Int32) (m : xMem), X E G (fun r : Int32 × xMem => (some (Value.int r.1), r.2)) 34 [(0, .ref (xad G 165)), (1, .ref (xad G p0)), (2, .ref (xad G p1)), (3, .ref (xad G p2)), (4, .int v4), (5, .int v5)] [] m (k34 v4 v5 m)) : ∀ (n : Nat) (v4 : Int32) (v5 : Int32) (v6 : Int32) (m : xMem), X E G (fun r : Int32 × xMem => (some (Value.int r.1), r.2)) 46 [(0, .ref (xad G 165)), (1, .ref (xad G p0)), (2, .ref (xad G p1)), (3, .ref (xad G p2)), (4, .int v4), (5, .int v5), (6, .int v6)] [] m (Spots_find_b46 p0 p1 p2 k34 n v4 v5 v6 m) := by
  intro n
  induction n with
  | zero => intro v4 v5 v6 m; exact x_none
  | succ n ih =>
    intro v4 v5 v6 m
    rw [Spots_find_b46]
    refine x_iload (pc := 46) (a := 6) g dX6_find_46 rfl ?_
    refine x_aload_n (pc := 48) (i := 2) (a := 2) g dX6_find_48 rfl rfl ?_
    refine x_getI (pc := 49) g hW dX6_find_49 fl_6_46 (sHouse hp1) rfl ?_
    refine x_icmp_ge (pc := 52) (t := 112) g dX6_find_52 (by decide) ?_ ?_
    · refine x_aload_n (pc := 55) (i := 0) (a := 0) g dX6_find_55 rfl rfl ?_
      refine x_getR (pc := 56) (x := 168) g hW dX6_find_56 fl_6_18 (sSpots isSpots_165) rfl ?_
      refine x_iconst (pc := 59) g dX6_find_59 ic_1 ?_
      refine x_iload (pc := 60) (a := 6) g dX6_find_60 rfl ?_
      refine x_iastc (pc := 62) g hW dX6_find_62 (sSpots_voice isSpots_165) ix_1_4 (fun m10 => ?_)
      refine x_aload_n (pc := 63) (i := 0) (a := 0) g dX6_find_63 rfl rfl ?_
      refine x_getR (pc := 64) (x := 168) g hW dX6_find_64 fl_6_18 (sSpots isSpots_165) rfl ?_
      refine x_iconst (pc := 67) g dX6_find_67 ic_2 ?_
      refine x_iload (pc := 68) (a := 5) g dX6_find_68 rfl ?_
      refine x_iastc (pc := 70) g hW dX6_find_70 (sSpots_voice isSpots_165) ix_2_4 (fun m11 => ?_)
      refine x_iload (pc := 71) (a := 4) g dX6_find_71 rfl ?_
      refine x_bipush (pc := 73) g dX6_find_73 bi_81 ?_
      refine x_icmp_ge (pc := 75) (t := 106) g dX6_find_75 (by decide) ?_ ?_
      · refine x_aload_n (pc := 78) (i := 0) (a := 0) g dX6_find_78 rfl rfl ?_
        refine x_aload_n (pc := 79) (i := 1) (a := 1) g dX6_find_79 rfl rfl ?_
        refine x_aload_n (pc := 80) (i := 2) (a := 2) g dX6_find_80 rfl rfl ?_
        refine x_aload_n (pc := 81) (i := 3) (a := 3) g dX6_find_81 rfl rfl ?_
        refine x_Vi (pc := 82) g hW [.ref (xad G p0), .ref (xad G p1), .ref (xad G p2)] [] (c_Spots_fits l G hW m11 p0 p1 p2 hp0 hp1 hp2) dX6_find_82 ml_6_49 (sSpots isSpots_165) rfl rfl (Nat.le_of_ble_eq_true rfl) ⟨rfl, rfl, Nat.le_of_ble_eq_true rfl, Nat.le_of_ble_eq_true rfl⟩ (fun r12 hr12 => ?_)
        refine x_if_eq (pc := 85) (t := 106) g dX6_find_85 (by decide) ?_ ?_
        · refine x_iinc (pc := 106) (a := 6) (lv' := [(6, .int (v6 + 1)), (0, .ref (xad G 165)), (1, .ref (xad G p0)), (2, .ref (xad G p1)), (3, .ref (xad G p2)), (4, .int v4), (5, .int v5)]) g dX6_find_106 ic_1 rfl (by decide) rfl ?_
          refine x_goto (pc := 109) (t := 46) g dX6_find_109 (by decide) ?_
          exact x_sub [1, 2, 3, 4, 5, 6, 0] (ih v4 v5 (v6 + 1) m11) rfl
        · refine x_aload_n (pc := 88) (i := 0) (a := 0) g dX6_find_88 rfl rfl ?_
          refine x_getR (pc := 89) (x := 167) g hW dX6_find_89 fl_6_15 (sSpots isSpots_165) rfl ?_
          refine x_iload (pc := 92) (a := 4) g dX6_find_92 rfl ?_
          refine x_bipush (pc := 94) g dX6_find_94 bi_9 ?_
          refine x_iload (pc := 96) (a := 5) g dX6_find_96 rfl ?_
          refine x_imul (pc := 98) g dX6_find_98 ?_
          refine x_iload (pc := 99) (a := 6) g dX6_find_99 rfl ?_
          refine x_iadd (pc := 101) g dX6_find_101 ?_
          refine x_iast (pc := 102) g hW dX6_find_102 (sSpots_cellsTried isSpots_165) (fun j14 hj14 m13 => ?_)
          refine x_iinc (pc := 103) (a := 4) (lv' := [(4, .int (v4 + 1)), (0, .ref (xad G 165)), (1, .ref (xad G p0)), (2, .ref (xad G p1)), (3, .ref (xad G p2)), (5, .int v5), (6, .int v6)]) g dX6_find_103 ic_1 rfl (by decide) rfl ?_
          refine x_iinc (pc := 106) (a := 6) (lv' := [(6, .int (v6 + 1)), (4, .int (v4 + 1)), (0, .ref (xad G 165)), (1, .ref (xad G p0)), (2, .ref (xad G p1)), (3, .ref (xad G p2)), (5, .int v5)]) g dX6_find_106 ic_1 rfl (by decide) rfl ?_
          refine x_goto (pc := 109) (t := 46) g dX6_find_109 (by decide) ?_
          exact x_sub [2, 3, 4, 5, 1, 6, 0] (ih (v4 + 1) v5 (v6 + 1) m13) rfl
      · refine x_iinc (pc := 106) (a := 6) (lv' := [(6, .int (v6 + 1)), (0, .ref (xad G 165)), (1, .ref (xad G p0)), (2, .ref (xad G p1)), (3, .ref (xad G p2)), (4, .int v4), (5, .int v5)]) g dX6_find_106 ic_1 rfl (by decide) rfl ?_
        refine x_goto (pc := 109) (t := 46) g dX6_find_109 (by decide) ?_
        exact x_sub [1, 2, 3, 4, 5, 6, 0] (ih v4 v5 (v6 + 1) m11) rfl
    · refine x_iinc (pc := 112) (a := 5) (lv' := [(5, .int (v5 + 1)), (0, .ref (xad G 165)), (1, .ref (xad G p0)), (2, .ref (xad G p1)), (3, .ref (xad G p2)), (4, .int v4), (6, .int v6)]) g dX6_find_112 ic_1 rfl (by decide) rfl ?_
      refine x_goto (pc := 115) (t := 34) g dX6_find_115 (by decide) ?_
      exact x_sub [1, 2, 3, 4, 5, 0] (hk34 v4 (v5 + 1) m) rfl
theorem T_Spots_find_b34 {l : Launch} {G : xG} {E : xE} (hW : WC G) (g : xGood E l G.1 RX6 cX6_find yX6_find 7 (some .int) rm_Spots_find) (p0 : Nat) (p1 : Nat) (p2 : Nat) (hp0 : isTape p0) (hp1 : isHouse p1) (hp2 : isState p2) : ∀ (n : Nat) (v4 : Int32) (v5 : Int32) (m : xMem), X E G (fun r : Int32 × xMem => (some (Value.int r.1), r.2)) 34 [(0, .ref (xad G 165)), (1, .ref (xad G p0)), (2, .ref (xad G p1)), (3, .ref (xad G p2)), (4, .int v4), (5, .int v5)] [] m (Spots_find_b34 p0 p1 p2 n v4 v5 m) := by
  intro n
  induction n with
  | zero => intro v4 v5 m; exact x_none
  | succ n ih =>
    intro v4 v5 m
    rw [Spots_find_b34]
    refine x_iload (pc := 34) (a := 5) g dX6_find_34 rfl ?_
    refine x_aload_n (pc := 36) (i := 2) (a := 2) g dX6_find_36 rfl rfl ?_
    refine x_getI (pc := 37) g hW dX6_find_37 fl_6_41 (sHouse hp1) rfl ?_
    refine x_icmp_ge (pc := 40) (t := 118) g dX6_find_40 (by decide) ?_ ?_
    · refine x_iconst (pc := 43) g dX6_find_43 ic_0 ?_
      refine x_istore (pc := 44) (lv' := [(6, .int 0), (0, .ref (xad G 165)), (1, .ref (xad G p0)), (2, .ref (xad G p1)), (3, .ref (xad G p2)), (4, .int v4), (5, .int v5)]) g dX6_find_44 (by decide) rfl ?_
      exact x_sub [1, 2, 3, 4, 5, 6, 0] (T_Spots_find_b46 hW g p0 p1 p2 hp0 hp1 hp2 (Spots_find_b34 p0 p1 p2 n) ih 1000 v4 v5 0 m) rfl
    · refine x_iload (pc := 118) (a := 4) g dX6_find_118 rfl ?_
      refine x_if_le (pc := 120) (t := 154) g dX6_find_120 (by decide) ?_ ?_
      · refine x_aload_n (pc := 123) (i := 0) (a := 0) g dX6_find_123 rfl rfl ?_
        refine x_getR (pc := 124) (x := 167) g hW dX6_find_124 fl_6_15 (sSpots isSpots_165) rfl ?_
        refine x_iconst (pc := 127) g dX6_find_127 ic_0 ?_
        refine x_aload_n (pc := 128) (i := 0) (a := 0) g dX6_find_128 rfl rfl ?_
        refine x_getR (pc := 129) (x := 166) g hW dX6_find_129 fl_6_11 (sSpots isSpots_165) rfl ?_
        refine x_iconst (pc := 132) g dX6_find_132 ic_0 ?_
        refine x_iload (pc := 133) (a := 4) g dX6_find_133 rfl ?_
        refine x_copyI (pc := 135) g hW dX6_find_135 mk_6_53 mm_arraycopy (sSpots_cellsTried isSpots_165) (sSpots_cells isSpots_165) ⟨by decide, Nat.le_of_ble_eq_true rfl⟩ (fun j6 hj6 m5 => ?_)
        refine x_aload_n (pc := 138) (i := 0) (a := 0) g dX6_find_138 rfl rfl ?_
        refine x_iload (pc := 139) (a := 4) g dX6_find_139 rfl ?_
        refine x_putI (pc := 141) g hW dX6_find_141 fl_6_24 ft_6_4 (sSpots isSpots_165) rfl (fun m7 => ?_)
        refine x_aload_n (pc := 144) (i := 0) (a := 0) g dX6_find_144 rfl rfl ?_
        refine x_aload_n (pc := 145) (i := 0) (a := 0) g dX6_find_145 rfl rfl ?_
        refine x_aload_n (pc := 146) (i := 2) (a := 2) g dX6_find_146 rfl rfl ?_
        refine x_aload_n (pc := 147) (i := 3) (a := 3) g dX6_find_147 rfl rfl ?_
        refine x_Vim (pc := 148) g hW [.ref (xad G p1), .ref (xad G p2)] [.ref (xad G 165)] (c_Spots_findNext l G hW m7 p1 p2 hp1 hp2) dX6_find_148 ml_6_59 (sSpots isSpots_165) rfl rfl (Nat.le_of_ble_eq_true rfl) ⟨rfl, rfl, Nat.le_of_ble_eq_true rfl, Nat.le_of_ble_eq_true rfl⟩ (fun r8 hr8 => ?_)
        refine x_putI (pc := 151) g hW dX6_find_151 fl_6_28 ft_6_5 (sSpots isSpots_165) rfl (fun m9 => ?_)
        refine x_iload (pc := 154) (a := 4) g dX6_find_154 rfl ?_
        exact x_iret (pc := 156) g dX6_find_156 rfl (fun _ h => h)
      · refine x_iload (pc := 154) (a := 4) g dX6_find_154 rfl ?_
        exact x_iret (pc := 156) g dX6_find_156 rfl (fun _ h => h)
theorem T_Spots_find {l : Launch} {G : xG} {E : xE} (hW : WC G) (g : xGood E l G.1 RX6 cX6_find yX6_find 7 (some .int) rm_Spots_find) (m : xMem) (p0 : Nat) (p1 : Nat) (p2 : Nat) (hp0 : isTape p0) (hp1 : isHouse p1) (hp2 : isState p2) : X E G (fun r : Int32 × xMem => (some (Value.int r.1), r.2)) 0 [(0, .ref (xad G 165)), (1, .ref (xad G p0)), (2, .ref (xad G p1)), (3, .ref (xad G p2))] [] m (Spots_find m p0 p1 p2) := by
  unfold Spots_find
  refine x_aload_n (pc := 0) (i := 1) (a := 1) g dX6_find_0 rfl rfl ?_
  refine x_aload_n (pc := 1) (i := 2) (a := 2) g dX6_find_1 rfl rfl ?_
  refine x_Si (pc := 2) g [.ref (xad G p0), .ref (xad G p1)] [] (c_Spots_isAsTold l G hW m p0 p1 hp0 hp1) dX6_find_2 ms_6_31 rfl rfl (Nat.le_of_ble_eq_true rfl) ⟨rfl, rfl, Nat.le_of_ble_eq_true rfl, Nat.le_of_ble_eq_true rfl⟩ (fun r1 hr1 => ?_)
  refine x_if_ne (pc := 5) (t := 10) g dX6_find_5 (by decide) ?_ ?_
  · refine x_iconst (pc := 8) g dX6_find_8 ic_m1 ?_
    exact x_iret (pc := 9) g dX6_find_9 rfl (fun _ h => h)
  · refine x_aload_n (pc := 10) (i := 0) (a := 0) g dX6_find_10 rfl rfl ?_
    refine x_getR (pc := 11) (x := 168) g hW dX6_find_11 fl_6_18 (sSpots isSpots_165) rfl ?_
    refine x_iconst (pc := 14) g dX6_find_14 ic_0 ?_
    refine x_iconst (pc := 15) g dX6_find_15 ic_1 ?_
    refine x_iastc (pc := 16) g hW dX6_find_16 (sSpots_voice isSpots_165) ix_0_4 (fun m2 => ?_)
    refine x_aload_n (pc := 17) (i := 0) (a := 0) g dX6_find_17 rfl rfl ?_
    refine x_getR (pc := 18) (x := 168) g hW dX6_find_18 fl_6_18 (sSpots isSpots_165) rfl ?_
    refine x_iconst (pc := 21) g dX6_find_21 ic_3 ?_
    refine x_aload_n (pc := 22) (i := 1) (a := 1) g dX6_find_22 rfl rfl ?_
    refine x_iconst (pc := 23) g dX6_find_23 ic_0 ?_
    refine x_Vi (pc := 24) g hW [.int 0] [.int 3, .ref (xad G 168)] (c_Tape_at l G hW m2 p0 0 hp0) dX6_find_24 ml_6_35 (sTape hp0) rfl rfl (Nat.le_of_ble_eq_true rfl) ⟨rfl, rfl, Nat.le_of_ble_eq_true rfl, Nat.le_of_ble_eq_true rfl⟩ (fun r3 hr3 => ?_)
    refine x_iastc (pc := 27) g hW dX6_find_27 (sSpots_voice isSpots_165) ix_3_4 (fun m4 => ?_)
    refine x_iconst (pc := 28) g dX6_find_28 ic_0 ?_
    refine x_istore (pc := 29) (lv' := [(4, .int 0), (0, .ref (xad G 165)), (1, .ref (xad G p0)), (2, .ref (xad G p1)), (3, .ref (xad G p2))]) g dX6_find_29 (by decide) rfl ?_
    refine x_iconst (pc := 31) g dX6_find_31 ic_0 ?_
    refine x_istore (pc := 32) (lv' := [(5, .int 0), (4, .int 0), (0, .ref (xad G 165)), (1, .ref (xad G p0)), (2, .ref (xad G p1)), (3, .ref (xad G p2))]) g dX6_find_32 (by decide) rfl ?_
    exact x_sub [2, 3, 4, 5, 1, 0] (T_Spots_find_b34 hW g p0 p1 p2 hp0 hp1 hp2 1000 0 0 m4) rfl
theorem c_Spots_find (l : Launch) (G : xG) (hW : WC G) (m : xMem) (p0 : Nat) (p1 : Nat) (p2 : Nat) (hp0 : isTape p0) (hp1 : isHouse p1) (hp2 : isState p2) : xCim l G yX6_find cX6_find 7 (some .int) rm_Spots_find [.ref (xad G 165), .ref (xad G p0), .ref (xad G p1), .ref (xad G p2)] m (Spots_find m p0 p1 p2) :=
  xCt_of (own := RX6) (by decide) rfl (Nat.le_of_ble_eq_true rfl) rfl ⟨rfl, rfl⟩ (fun E g => T_Spots_find hW g m p0 p1 p2 hp0 hp1 hp2)
theorem T_Undo_forget {l : Launch} {G : xG} {E : xE} (hW : WC G) (g : xGood E l G.1 RX10 cX10_forget yX10_forget 1 none rm_Undo_forget) (m : xMem) : X E G (fun r : xMem => ((none : Option Value), r)) 0 [(0, .ref (xad G 123))] [] m (Undo_forget m) := by
  unfold Undo_forget
  refine x_aload_n (pc := 0) (i := 0) (a := 0) g dX10_forget_0 rfl rfl ?_
  refine x_iconst (pc := 1) g dX10_forget_1 ic_0 ?_
  refine x_putI (pc := 2) g hW dX10_forget_2 fl_10_21 ft_10_2 (sUndo isUndo_123) rfl (fun m1 => ?_)
  exact x_vret (pc := 5) g dX10_forget_5 rfl (fun _ h => h)
theorem c_Undo_forget (l : Launch) (G : xG) (hW : WC G) (m : xMem) : xCv l G yX10_forget cX10_forget 1 none rm_Undo_forget [.ref (xad G 123)] m (Undo_forget m) :=
  xCt_of (own := RX10) (by decide) rfl (Nat.le_of_ble_eq_true rfl) rfl ⟨rfl, rfl⟩ (fun E g => T_Undo_forget hW g m)
theorem T_Undo_keep {l : Launch} {G : xG} {E : xE} (hW : WC G) (g : xGood E l G.1 RX10 cX10_keep yX10_keep 2 none rm_Undo_keep) (m : xMem) (p0 : Nat) (hp0 : isState p0) : X E G (fun r : xMem => ((none : Option Value), r)) 0 [(0, .ref (xad G 123)), (1, .ref (xad G p0))] [] m (Undo_keep m p0) := by
  unfold Undo_keep
  refine x_aload_n (pc := 0) (i := 0) (a := 0) g dX10_keep_0 rfl rfl ?_
  refine x_getR (pc := 1) (x := 124) g hW dX10_keep_1 fl_10_13 (sUndo isUndo_123) rfl ?_
  refine x_aload_n (pc := 4) (i := 0) (a := 0) g dX10_keep_4 rfl rfl ?_
  refine x_getI (pc := 5) g hW dX10_keep_5 fl_10_17 (sUndo isUndo_123) rfl ?_
  refine x_aald6 (pc := 8) (r := fun j => 125 + 5 * j) g hW dX10_keep_8 (sUndo_states isUndo_123) sUndo_statesG (fun j1 hj1 => ?_)
  refine x_aload_n (pc := 9) (i := 1) (a := 1) g dX10_keep_9 rfl rfl ?_
  refine x_Vv (pc := 10) g hW [.ref (xad G p0)] [] (c_State_copyFrom l G hW m (125 + 5 * j1) p0 (sUndo_statesI isUndo_123 hj1) hp0) dX10_keep_10 ml_10_25 (sState (sUndo_statesI isUndo_123 hj1)) rfl rfl (Nat.le_of_ble_eq_true rfl) ⟨rfl, rfl, Nat.le_of_ble_eq_true rfl, Nat.le_of_ble_eq_true rfl⟩ (fun r2 hr2 => ?_)
  refine x_aload_n (pc := 13) (i := 0) (a := 0) g dX10_keep_13 rfl rfl ?_
  refine x_aload_n (pc := 14) (i := 0) (a := 0) g dX10_keep_14 rfl rfl ?_
  refine x_getI (pc := 15) g hW dX10_keep_15 fl_10_17 (sUndo isUndo_123) rfl ?_
  refine x_iconst (pc := 18) g dX10_keep_18 ic_1 ?_
  refine x_iadd (pc := 19) g dX10_keep_19 ?_
  refine x_bipush (pc := 20) g dX10_keep_20 bi_8 ?_
  refine x_irem (pc := 22) g dX10_keep_22 (by decide) ?_
  refine x_putI (pc := 23) g hW dX10_keep_23 fl_10_17 ft_10_1 (sUndo isUndo_123) rfl (fun m3 => ?_)
  refine x_aload_n (pc := 26) (i := 0) (a := 0) g dX10_keep_26 rfl rfl ?_
  refine x_bipush (pc := 27) g dX10_keep_27 bi_8 ?_
  refine x_aload_n (pc := 29) (i := 0) (a := 0) g dX10_keep_29 rfl rfl ?_
  refine x_getI (pc := 30) g hW dX10_keep_30 fl_10_21 (sUndo isUndo_123) rfl ?_
  refine x_iconst (pc := 33) g dX10_keep_33 ic_1 ?_
  refine x_iadd (pc := 34) g dX10_keep_34 ?_
  refine x_mmin (pc := 35) g dX10_keep_35 mk_10_29 mm_min ⟨by decide, Nat.le_of_ble_eq_true rfl⟩ ?_
  refine x_putI (pc := 38) g hW dX10_keep_38 fl_10_21 ft_10_2 (sUndo isUndo_123) rfl (fun m4 => ?_)
  exact x_vret (pc := 41) g dX10_keep_41 rfl (fun _ h => h)
theorem c_Undo_keep (l : Launch) (G : xG) (hW : WC G) (m : xMem) (p0 : Nat) (hp0 : isState p0) : xCv l G yX10_keep cX10_keep 2 none rm_Undo_keep [.ref (xad G 123), .ref (xad G p0)] m (Undo_keep m p0) :=
  xCt_of (own := RX10) (by decide) rfl (Nat.le_of_ble_eq_true rfl) rfl ⟨rfl, rfl⟩ (fun E g => T_Undo_keep hW g m p0 hp0)
theorem T_Undo_takeBack {l : Launch} {G : xG} {E : xE} (hW : WC G) (g : xGood E l G.1 RX10 cX10_takeBack yX10_takeBack 2 (some .int) rm_Undo_takeBack) (m : xMem) (p0 : Nat) (hp0 : isState p0) : X E G (fun r : Int32 × xMem => (some (Value.int r.1), r.2)) 0 [(0, .ref (xad G 123)), (1, .ref (xad G p0))] [] m (Undo_takeBack m p0) := by
  unfold Undo_takeBack
  refine x_aload_n (pc := 0) (i := 0) (a := 0) g dX10_takeBack_0 rfl rfl ?_
  refine x_getI (pc := 1) g hW dX10_takeBack_1 fl_10_21 (sUndo isUndo_123) rfl ?_
  refine x_if_ne (pc := 4) (t := 9) g dX10_takeBack_4 (by decide) ?_ ?_
  · refine x_iconst (pc := 7) g dX10_takeBack_7 ic_m1 ?_
    exact x_iret (pc := 8) g dX10_takeBack_8 rfl (fun _ h => h)
  · refine x_aload_n (pc := 9) (i := 0) (a := 0) g dX10_takeBack_9 rfl rfl ?_
    refine x_aload_n (pc := 10) (i := 0) (a := 0) g dX10_takeBack_10 rfl rfl ?_
    refine x_getI (pc := 11) g hW dX10_takeBack_11 fl_10_17 (sUndo isUndo_123) rfl ?_
    refine x_bipush (pc := 14) g dX10_takeBack_14 bi_8 ?_
    refine x_iadd (pc := 16) g dX10_takeBack_16 ?_
    refine x_iconst (pc := 17) g dX10_takeBack_17 ic_1 ?_
    refine x_isub (pc := 18) g dX10_takeBack_18 ?_
    refine x_bipush (pc := 19) g dX10_takeBack_19 bi_8 ?_
    refine x_irem (pc := 21) g dX10_takeBack_21 (by decide) ?_
    refine x_putI (pc := 22) g hW dX10_takeBack_22 fl_10_17 ft_10_1 (sUndo isUndo_123) rfl (fun m1 => ?_)
    refine x_aload_n (pc := 25) (i := 0) (a := 0) g dX10_takeBack_25 rfl rfl ?_
    refine x_dup (pc := 26) g dX10_takeBack_26 rfl ?_
    refine x_getI (pc := 27) g hW dX10_takeBack_27 fl_10_21 (sUndo isUndo_123) rfl ?_
    refine x_iconst (pc := 30) g dX10_takeBack_30 ic_1 ?_
    refine x_isub (pc := 31) g dX10_takeBack_31 ?_
    refine x_putI (pc := 32) g hW dX10_takeBack_32 fl_10_21 ft_10_2 (sUndo isUndo_123) rfl (fun m2 => ?_)
    refine x_aload_n (pc := 35) (i := 1) (a := 1) g dX10_takeBack_35 rfl rfl ?_
    refine x_aload_n (pc := 36) (i := 0) (a := 0) g dX10_takeBack_36 rfl rfl ?_
    refine x_getR (pc := 37) (x := 124) g hW dX10_takeBack_37 fl_10_13 (sUndo isUndo_123) rfl ?_
    refine x_aload_n (pc := 40) (i := 0) (a := 0) g dX10_takeBack_40 rfl rfl ?_
    refine x_getI (pc := 41) g hW dX10_takeBack_41 fl_10_17 (sUndo isUndo_123) rfl ?_
    refine x_aald6 (pc := 44) (r := fun j => 125 + 5 * j) g hW dX10_takeBack_44 (sUndo_states isUndo_123) sUndo_statesG (fun j3 hj3 => ?_)
    refine x_Vv (pc := 45) g hW [.ref (xad G (125 + 5 * j3))] [] (c_State_copyFrom l G hW m2 p0 (125 + 5 * j3) hp0 (sUndo_statesI isUndo_123 hj3)) dX10_takeBack_45 ml_10_25 (sState hp0) rfl rfl (Nat.le_of_ble_eq_true rfl) ⟨rfl, rfl, Nat.le_of_ble_eq_true rfl, Nat.le_of_ble_eq_true rfl⟩ (fun r4 hr4 => ?_)
    refine x_aload_n (pc := 48) (i := 0) (a := 0) g dX10_takeBack_48 rfl rfl ?_
    refine x_getI (pc := 49) g hW dX10_takeBack_49 fl_10_21 (sUndo isUndo_123) rfl ?_
    exact x_iret (pc := 52) g dX10_takeBack_52 rfl (fun _ h => h)
theorem c_Undo_takeBack (l : Launch) (G : xG) (hW : WC G) (m : xMem) (p0 : Nat) (hp0 : isState p0) : xCim l G yX10_takeBack cX10_takeBack 2 (some .int) rm_Undo_takeBack [.ref (xad G 123), .ref (xad G p0)] m (Undo_takeBack m p0) :=
  xCt_of (own := RX10) (by decide) rfl (Nat.le_of_ble_eq_true rfl) rfl ⟨rfl, rfl⟩ (fun E g => T_Undo_takeBack hW g m p0 hp0)
