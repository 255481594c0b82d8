theorem T_M_thrown {l : Launch} {G : xG} {E : xE} (hM : WM G) (g : xGood E l G.1 RX12 cX12_thrown yX12_thrown 1 (some .int) rm_M_thrown) (m : xMem) : X E G (fun r : Int32 => (some (Value.int r), m)) 0 [(0, .ref (xad G 0))] [] m (M_thrown m) := by
  unfold M_thrown
  refine x_aload_n (pc := 0) (i := 0) (a := 0) g dX12_thrown_0 rfl rfl ?_
  refine x_getI (pc := 1) g hM dX12_thrown_1 fl_12_1 (sm_0) rfl ?_
  exact x_iret (pc := 4) g dX12_thrown_4 rfl (fun _ h => h)
theorem c_M_thrown (l : Launch) (G : xG) (hM : WM G) (m : xMem) : xCi l G yX12_thrown cX12_thrown 1 (some .int) rm_M_thrown [.ref (xad G 0)] m (M_thrown m) :=
  xCt_of (own := RX12) (by decide) rfl (Nat.le_of_ble_eq_true rfl) rfl ⟨rfl, rfl⟩ (fun E g => T_M_thrown hM g m)
theorem T_M_throwsIf_b10 {l : Launch} {G : xG} {E : xE} (hM : WM G) (g : xGood E l G.1 RX12 cX12_throwsIf yX12_throwsIf 2 (some .boolean) rm_M_throwsIf) (p0 : Int32) (s0 : Int32) (m : xMem) : X E G (fun r : Int32 × xMem => (some (Value.int r.1), r.2)) 10 [(1, .int p0)] [.int s0, .ref (xad G 0)] m (M_throwsIf_b10 p0 s0 m) := by
  unfold M_throwsIf_b10
  refine x_putI (pc := 10) g hM dX12_throwsIf_10 fl_12_1 ft_12_0 (sm_0) rfl (fun m1 => ?_)
  refine x_iload_n (pc := 13) (i := 1) (a := 0) g dX12_throwsIf_13 rfl rfl ?_
  exact x_zret (pc := 14) g dX12_throwsIf_14 rfl (fun _ _ h => h)
theorem T_M_throwsIf {l : Launch} {G : xG} {E : xE} (hM : WM G) (g : xGood E l G.1 RX12 cX12_throwsIf yX12_throwsIf 2 (some .boolean) rm_M_throwsIf) (m : xMem) (p0 : Int32) : X E G (fun r : Int32 × xMem => (some (Value.int r.1), r.2)) 0 [(0, .ref (xad G 0)), (1, .int p0)] [] m (M_throwsIf m p0) := by
  unfold M_throwsIf
  refine x_aload_n (pc := 0) (i := 0) (a := 0) g dX12_throwsIf_0 rfl rfl ?_
  refine x_iload_n (pc := 1) (i := 1) (a := 1) g dX12_throwsIf_1 rfl rfl ?_
  refine x_if_eq (pc := 2) (t := 9) g dX12_throwsIf_2 (by decide) ?_ ?_
  · refine x_iconst (pc := 9) g dX12_throwsIf_9 ic_0 ?_
    exact x_sub [1] (T_M_throwsIf_b10 hM g p0 0 m) rfl
  · refine x_iconst (pc := 5) g dX12_throwsIf_5 ic_1 ?_
    refine x_goto (pc := 6) (t := 10) g dX12_throwsIf_6 (by decide) ?_
    exact x_sub [1] (T_M_throwsIf_b10 hM g p0 1 m) rfl
theorem c_M_throwsIf (l : Launch) (G : xG) (hM : WM G) (m : xMem) (p0 : Int32) : xCim l G yX12_throwsIf cX12_throwsIf 2 (some .boolean) rm_M_throwsIf [.ref (xad G 0), .int p0] m (M_throwsIf m p0) :=
  xCt_of (own := RX12) (by decide) rfl (Nat.le_of_ble_eq_true rfl) rfl ⟨rfl, rfl⟩ (fun E g => T_M_throwsIf hM g m p0)
theorem T_M_four_b3 {l : Launch} {G : xG} {E : xE} (hM : WM G) (g : xGood E l G.1 RX12 cX12_four yX12_four 3 none rm_M_four) (p0 : Int32) : ∀ (n : Nat) (v2 : Int32) (m : xMem), X E G (fun r : xMem => ((none : Option Value), r)) 3 [(0, .ref (xad G 0)), (1, .int p0), (2, .int v2)] [] m (M_four_b3 p0 n v2 m) := by
  intro n
  induction n with
  | zero => intro v2 m; exact x_none
  | succ n ih =>
    intro v2 m
    rw [M_four_b3]
    refine x_iload_n (pc := 3) (i := 2) (a := 2) g dX12_four_3 rfl rfl ?_
    refine x_if_lt (pc := 4) (t := 36) g dX12_four_4 (by decide) ?_ ?_
    · exact x_vret (pc := 36) g dX12_four_36 rfl (fun _ h => h)
    · refine x_aload_n (pc := 7) (i := 0) (a := 0) g dX12_four_7 rfl rfl ?_
      refine x_getR (pc := 8) (x := 1) g hM dX12_four_8 fl_12_14 (sm_0) rfl ?_
      refine x_aload_n (pc := 11) (i := 0) (a := 0) g dX12_four_11 rfl rfl ?_
      refine x_getI (pc := 12) g hM dX12_four_12 fl_12_7 (sm_0) rfl ?_
      refine x_iload_n (pc := 15) (i := 1) (a := 1) g dX12_four_15 rfl rfl ?_
      refine x_iload_n (pc := 16) (i := 2) (a := 2) g dX12_four_16 rfl rfl ?_
      refine x_ishr (pc := 17) g dX12_four_17 ?_
      refine x_i2b (pc := 18) g dX12_four_18 ?_
      refine x_bast (pc := 19) g hM dX12_four_19 (sm_1) (fun j2 hj2 m1 => ?_)
      refine x_aload_n (pc := 20) (i := 0) (a := 0) g dX12_four_20 rfl rfl ?_
      refine x_dup (pc := 21) g dX12_four_21 rfl ?_
      refine x_getI (pc := 22) g hM dX12_four_22 fl_12_7 (sm_0) rfl ?_
      refine x_iconst (pc := 25) g dX12_four_25 ic_1 ?_
      refine x_iadd (pc := 26) g dX12_four_26 ?_
      refine x_putI (pc := 27) g hM dX12_four_27 fl_12_7 ft_12_2 (sm_0) rfl (fun m3 => ?_)
      refine x_iinc (pc := 30) (a := 2) (lv' := [(2, .int (v2 + (-8))), (0, .ref (xad G 0)), (1, .int p0)]) g dX12_four_30 ic_m8 rfl (by decide) rfl ?_
      refine x_goto (pc := 33) (t := 3) g dX12_four_33 (by decide) ?_
      exact x_sub [1, 2, 0] (ih (v2 + (-8)) m3) rfl
theorem T_M_four {l : Launch} {G : xG} {E : xE} (hM : WM G) (g : xGood E l G.1 RX12 cX12_four yX12_four 3 none rm_M_four) (m : xMem) (p0 : Int32) : X E G (fun r : xMem => ((none : Option Value), r)) 0 [(0, .ref (xad G 0)), (1, .int p0)] [] m (M_four m p0) := by
  unfold M_four
  refine x_bipush (pc := 0) g dX12_four_0 bi_24 ?_
  refine x_istore_n (pc := 2) (i := 2) (lv' := [(2, .int 24), (0, .ref (xad G 0)), (1, .int p0)]) g dX12_four_2 rfl (by decide) rfl ?_
  exact x_sub [1, 2, 0] (T_M_four_b3 hM g p0 1000 24 m) rfl
theorem c_M_four (l : Launch) (G : xG) (hM : WM G) (m : xMem) (p0 : Int32) : xCv l G yX12_four cX12_four 3 none rm_M_four [.ref (xad G 0), .int p0] m (M_four m p0) :=
  xCt_of (own := RX12) (by decide) rfl (Nat.le_of_ble_eq_true rfl) rfl ⟨rfl, rfl⟩ (fun E g => T_M_four hM g m p0)
theorem T_M_feed {l : Launch} {G : xG} {E : xE} (hM : WM G) (g : xGood E l G.1 RX12 cX12_feed yX12_feed 6 (some .int) rm_M_feed) (m : xMem) (p0 : Int32) (p1 : Int32) (p2 : Int32) (p3 : Int32) (p4 : Int32) : X E G (fun r : Int32 × xMem => (some (Value.int r.1), r.2)) 0 [(0, .ref (xad G 0)), (1, .int p0), (2, .int p1), (3, .int p2), (4, .int p3), (5, .int p4)] [] m (M_feed m p0 p1 p2 p3 p4) := by
  unfold M_feed
  refine x_aload_n (pc := 0) (i := 0) (a := 0) g dX12_feed_0 rfl rfl ?_
  refine x_iconst (pc := 1) g dX12_feed_1 ic_0 ?_
  refine x_putI (pc := 2) g hM dX12_feed_2 fl_12_1 ft_12_0 (sm_0) rfl (fun m1 => ?_)
  refine x_aload_n (pc := 5) (i := 0) (a := 0) g dX12_feed_5 rfl rfl ?_
  refine x_getI (pc := 6) g hM dX12_feed_6 fl_12_7 (sm_0) rfl ?_
  refine x_bipush (pc := 9) g dX12_feed_9 bi_20 ?_
  refine x_iadd (pc := 11) g dX12_feed_11 ?_
  refine x_sipush (pc := 12) g dX12_feed_12 si_940 ?_
  refine x_icmp_le (pc := 15) (t := 20) g dX12_feed_15 (by decide) ?_ ?_
  · refine x_iconst (pc := 18) g dX12_feed_18 ic_m1 ?_
    exact x_iret (pc := 19) g dX12_feed_19 rfl (fun _ h => h)
  · refine x_aload_n (pc := 20) (i := 0) (a := 0) g dX12_feed_20 rfl rfl ?_
    refine x_iload_n (pc := 21) (i := 1) (a := 1) g dX12_feed_21 rfl rfl ?_
    refine x_Vv (pc := 22) g hM [.int p0] [] (c_M_four l G hM m1 p0) dX12_feed_22 ml_12_10 (sm_0) rfl rfl (Nat.le_of_ble_eq_true rfl) ⟨rfl, rfl, Nat.le_of_ble_eq_true rfl, Nat.le_of_ble_eq_true rfl⟩ (fun r2 hr2 => ?_)
    refine x_aload_n (pc := 25) (i := 0) (a := 0) g dX12_feed_25 rfl rfl ?_
    refine x_iload_n (pc := 26) (i := 2) (a := 2) g dX12_feed_26 rfl rfl ?_
    refine x_Vv (pc := 27) g hM [.int p1] [] (c_M_four l G hM r2 p1) dX12_feed_27 ml_12_10 (sm_0) rfl rfl (Nat.le_of_ble_eq_true rfl) ⟨rfl, rfl, Nat.le_of_ble_eq_true rfl, Nat.le_of_ble_eq_true rfl⟩ (fun r3 hr3 => ?_)
    refine x_aload_n (pc := 30) (i := 0) (a := 0) g dX12_feed_30 rfl rfl ?_
    refine x_iload_n (pc := 31) (i := 3) (a := 3) g dX12_feed_31 rfl rfl ?_
    refine x_Vv (pc := 32) g hM [.int p2] [] (c_M_four l G hM r3 p2) dX12_feed_32 ml_12_10 (sm_0) rfl rfl (Nat.le_of_ble_eq_true rfl) ⟨rfl, rfl, Nat.le_of_ble_eq_true rfl, Nat.le_of_ble_eq_true rfl⟩ (fun r4 hr4 => ?_)
    refine x_aload_n (pc := 35) (i := 0) (a := 0) g dX12_feed_35 rfl rfl ?_
    refine x_iload (pc := 36) (a := 4) g dX12_feed_36 rfl ?_
    refine x_Vv (pc := 38) g hM [.int p3] [] (c_M_four l G hM r4 p3) dX12_feed_38 ml_12_10 (sm_0) rfl rfl (Nat.le_of_ble_eq_true rfl) ⟨rfl, rfl, Nat.le_of_ble_eq_true rfl, Nat.le_of_ble_eq_true rfl⟩ (fun r5 hr5 => ?_)
    refine x_aload_n (pc := 41) (i := 0) (a := 0) g dX12_feed_41 rfl rfl ?_
    refine x_iload (pc := 42) (a := 5) g dX12_feed_42 rfl ?_
    refine x_Vv (pc := 44) g hM [.int p4] [] (c_M_four l G hM r5 p4) dX12_feed_44 ml_12_10 (sm_0) rfl rfl (Nat.le_of_ble_eq_true rfl) ⟨rfl, rfl, Nat.le_of_ble_eq_true rfl, Nat.le_of_ble_eq_true rfl⟩ (fun r6 hr6 => ?_)
    refine x_aload_n (pc := 47) (i := 0) (a := 0) g dX12_feed_47 rfl rfl ?_
    refine x_getI (pc := 48) g hM dX12_feed_48 fl_12_7 (sm_0) rfl ?_
    exact x_iret (pc := 51) g dX12_feed_51 rfl (fun _ h => h)
theorem c_M_feed (l : Launch) (G : xG) (hM : WM G) (m : xMem) (p0 : Int32) (p1 : Int32) (p2 : Int32) (p3 : Int32) (p4 : Int32) : xCim l G yX12_feed cX12_feed 6 (some .int) rm_M_feed [.ref (xad G 0), .int p0, .int p1, .int p2, .int p3, .int p4] m (M_feed m p0 p1 p2 p3 p4) :=
  xCt_of (own := RX12) (by decide) rfl (Nat.le_of_ble_eq_true rfl) rfl ⟨rfl, rfl⟩ (fun E g => T_M_feed hM g m p0 p1 p2 p3 p4)
theorem T_M_end {l : Launch} {G : xG} {E : xE} (hM : WM G) (g : xGood E l G.1 RX12 cX12_end yX12_end 2 (some .boolean) rm_M_end) (m : xMem) (p0 : Int32) : X E G (fun r : Int32 × xMem => (some (Value.int r.1), r.2)) 0 [(0, .ref (xad G 0)), (1, .int p0)] [] m (M_end m p0) := by
  unfold M_end
  refine x_aload_n (pc := 0) (i := 0) (a := 0) g dX12_end_0 rfl rfl ?_
  refine x_iconst (pc := 1) g dX12_end_1 ic_0 ?_
  refine x_putI (pc := 2) g hM dX12_end_2 fl_12_1 ft_12_0 (sm_0) rfl (fun m1 => ?_)
  refine x_iload_n (pc := 5) (i := 1) (a := 1) g dX12_end_5 rfl rfl ?_
  refine x_if_lt (pc := 6) (t := 17) g dX12_end_6 (by decide) ?_ ?_
  · refine x_iconst (pc := 17) g dX12_end_17 ic_0 ?_
    exact x_zretc (pc := 18) g dX12_end_18 rfl (Or.inl rfl) (fun _ h => h)
  · refine x_iload_n (pc := 9) (i := 1) (a := 1) g dX12_end_9 rfl rfl ?_
    refine x_aload_n (pc := 10) (i := 0) (a := 0) g dX12_end_10 rfl rfl ?_
    refine x_getI (pc := 11) g hM dX12_end_11 fl_12_7 (sm_0) rfl ?_
    refine x_icmp_le (pc := 14) (t := 19) g dX12_end_14 (by decide) ?_ ?_
    · refine x_iconst (pc := 17) g dX12_end_17 ic_0 ?_
      exact x_zretc (pc := 18) g dX12_end_18 rfl (Or.inl rfl) (fun _ h => h)
    · refine x_aload_n (pc := 19) (i := 0) (a := 0) g dX12_end_19 rfl rfl ?_
      refine x_iload_n (pc := 20) (i := 1) (a := 1) g dX12_end_20 rfl rfl ?_
      refine x_putI (pc := 21) g hM dX12_end_21 fl_12_7 ft_12_2 (sm_0) rfl (fun m2 => ?_)
      refine x_iconst (pc := 24) g dX12_end_24 ic_1 ?_
      exact x_zretc (pc := 25) g dX12_end_25 rfl (Or.inr rfl) (fun _ h => h)
theorem c_M_end (l : Launch) (G : xG) (hM : WM G) (m : xMem) (p0 : Int32) : xCim l G yX12_end cX12_end 2 (some .boolean) rm_M_end [.ref (xad G 0), .int p0] m (M_end m p0) :=
  xCt_of (own := RX12) (by decide) rfl (Nat.le_of_ble_eq_true rfl) rfl ⟨rfl, rfl⟩ (fun E g => T_M_end hM g m p0)
theorem T_M_taken {l : Launch} {G : xG} {E : xE} (hM : WM G) (g : xGood E l G.1 RX12 cX12_taken yX12_taken 2 none rm_M_taken) (m : xMem) (p0 : Int32) : X E G (fun r : xMem => ((none : Option Value), r)) 0 [(0, .ref (xad G 0)), (1, .int p0)] [] m (M_taken m p0) := by
  unfold M_taken
  refine x_aload_n (pc := 0) (i := 0) (a := 0) g dX12_taken_0 rfl rfl ?_
  refine x_aload_n (pc := 1) (i := 0) (a := 0) g dX12_taken_1 rfl rfl ?_
  refine x_getI (pc := 2) g hM dX12_taken_2 fl_12_7 (sm_0) rfl ?_
  refine x_putI (pc := 5) g hM dX12_taken_5 fl_12_18 ft_12_3 (sm_0) rfl (fun m1 => ?_)
  refine x_aload_n (pc := 8) (i := 0) (a := 0) g dX12_taken_8 rfl rfl ?_
  refine x_iconst (pc := 9) g dX12_taken_9 ic_0 ?_
  refine x_putI (pc := 10) g hM dX12_taken_10 fl_12_7 ft_12_2 (sm_0) rfl (fun m2 => ?_)
  refine x_aload_n (pc := 13) (i := 0) (a := 0) g dX12_taken_13 rfl rfl ?_
  refine x_iconst (pc := 14) g dX12_taken_14 ic_0 ?_
  refine x_putI (pc := 15) g hM dX12_taken_15 fl_12_21 ft_12_4 (sm_0) rfl (fun m3 => ?_)
  refine x_aload_n (pc := 18) (i := 0) (a := 0) g dX12_taken_18 rfl rfl ?_
  refine x_iload_n (pc := 19) (i := 1) (a := 1) g dX12_taken_19 rfl rfl ?_
  refine x_putI (pc := 20) g hM dX12_taken_20 fl_12_24 ft_12_5 (sm_0) rfl (fun m4 => ?_)
  exact x_vret (pc := 23) g dX12_taken_23 rfl (fun _ h => h)
theorem c_M_taken (l : Launch) (G : xG) (hM : WM G) (m : xMem) (p0 : Int32) : xCv l G yX12_taken cX12_taken 2 none rm_M_taken [.ref (xad G 0), .int p0] m (M_taken m p0) :=
  xCt_of (own := RX12) (by decide) rfl (Nat.le_of_ble_eq_true rfl) rfl ⟨rfl, rfl⟩ (fun E g => T_M_taken hM g m p0)
theorem T_M_isIn {l : Launch} {G : xG} {E : xE} (hM : WM G) (g : xGood E l G.1 RX12 cX12_isIn yX12_isIn 3 (some .boolean) rm_M_isIn) (m : xMem) (p0 : Int32) (p1 : Int32) (p2 : Int32) : X E G (fun r : Int32 => (some (Value.int r), m)) 0 [(0, .int p0), (1, .int p1), (2, .int p2)] [] m (M_isIn m p0 p1 p2) := by
  unfold M_isIn
  refine x_iload_n (pc := 0) (i := 0) (a := 0) g dX12_isIn_0 rfl rfl ?_
  refine x_iload_n (pc := 1) (i := 1) (a := 1) g dX12_isIn_1 rfl rfl ?_
  refine x_icmp_lt (pc := 2) (t := 14) g dX12_isIn_2 (by decide) ?_ ?_
  · refine x_iconst (pc := 14) g dX12_isIn_14 ic_0 ?_
    exact x_zretc (pc := 15) g dX12_isIn_15 rfl (Or.inl rfl) (fun _ h => h)
  · refine x_iload_n (pc := 5) (i := 0) (a := 0) g dX12_isIn_5 rfl rfl ?_
    refine x_iload_n (pc := 6) (i := 2) (a := 2) g dX12_isIn_6 rfl rfl ?_
    refine x_icmp_gt (pc := 7) (t := 14) g dX12_isIn_7 (by decide) ?_ ?_
    · refine x_iconst (pc := 14) g dX12_isIn_14 ic_0 ?_
      exact x_zretc (pc := 15) g dX12_isIn_15 rfl (Or.inl rfl) (fun _ h => h)
    · refine x_iconst (pc := 10) g dX12_isIn_10 ic_1 ?_
      refine x_goto (pc := 11) (t := 15) g dX12_isIn_11 (by decide) ?_
      exact x_zretc (pc := 15) g dX12_isIn_15 rfl (Or.inr rfl) (fun _ h => h)
theorem c_M_isIn (l : Launch) (G : xG) (hM : WM G) (m : xMem) (p0 : Int32) (p1 : Int32) (p2 : Int32) : xCi l G yX12_isIn cX12_isIn 3 (some .boolean) rm_M_isIn [.int p0, .int p1, .int p2] m (M_isIn m p0 p1 p2) :=
  xCt_of (own := RX12) (by decide) rfl (Nat.le_of_ble_eq_true rfl) rfl ⟨rfl, rfl⟩ (fun E g => T_M_isIn hM g m p0 p1 p2)
theorem T_M_bitOf {l : Launch} {G : xG} {E : xE} (hM : WM G) (g : xGood E l G.1 RX12 cX12_bitOf yX12_bitOf 2 (some .boolean) rm_M_bitOf) (m : xMem) (p0 : Int32) (p1 : Int32) : X E G (fun r : Int32 => (some (Value.int r), m)) 0 [(0, .int p0), (1, .int p1)] [] m (M_bitOf m p0 p1) := by
  unfold M_bitOf
  refine x_iload_n (pc := 0) (i := 0) (a := 0) g dX12_bitOf_0 rfl rfl ?_
  refine x_iload_n (pc := 1) (i := 1) (a := 1) g dX12_bitOf_1 rfl rfl ?_
  refine x_ishr (pc := 2) g dX12_bitOf_2 ?_
  refine x_iconst (pc := 3) g dX12_bitOf_3 ic_1 ?_
  refine x_iand (pc := 4) g dX12_bitOf_4 ?_
  refine x_iconst (pc := 5) g dX12_bitOf_5 ic_1 ?_
  refine x_icmp_ne (pc := 6) (t := 13) g dX12_bitOf_6 (by decide) ?_ ?_
  · refine x_iconst (pc := 9) g dX12_bitOf_9 ic_1 ?_
    refine x_goto (pc := 10) (t := 14) g dX12_bitOf_10 (by decide) ?_
    exact x_zretc (pc := 14) g dX12_bitOf_14 rfl (Or.inr rfl) (fun _ h => h)
  · refine x_iconst (pc := 13) g dX12_bitOf_13 ic_0 ?_
    exact x_zretc (pc := 14) g dX12_bitOf_14 rfl (Or.inl rfl) (fun _ h => h)
theorem c_M_bitOf (l : Launch) (G : xG) (hM : WM G) (m : xMem) (p0 : Int32) (p1 : Int32) : xCi l G yX12_bitOf cX12_bitOf 2 (some .boolean) rm_M_bitOf [.int p0, .int p1] m (M_bitOf m p0 p1) :=
  xCt_of (own := RX12) (by decide) rfl (Nat.le_of_ble_eq_true rfl) rfl ⟨rfl, rfl⟩ (fun E g => T_M_bitOf hM g m p0 p1)
theorem T_M_greater {l : Launch} {G : xG} {E : xE} (hM : WM G) (g : xGood E l G.1 RX12 cX12_greater yX12_greater 2 (some .int) rm_M_greater) (m : xMem) (p0 : Int32) (p1 : Int32) : X E G (fun r : Int32 => (some (Value.int r), m)) 0 [(0, .int p0), (1, .int p1)] [] m (M_greater m p0 p1) := by
  unfold M_greater
  refine x_iload_n (pc := 0) (i := 0) (a := 0) g dX12_greater_0 rfl rfl ?_
  refine x_iload_n (pc := 1) (i := 1) (a := 1) g dX12_greater_1 rfl rfl ?_
  refine x_icmp_le (pc := 2) (t := 9) g dX12_greater_2 (by decide) ?_ ?_
  · refine x_iload_n (pc := 5) (i := 0) (a := 0) g dX12_greater_5 rfl rfl ?_
    refine x_goto (pc := 6) (t := 10) g dX12_greater_6 (by decide) ?_
    exact x_iret (pc := 10) g dX12_greater_10 rfl (fun _ h => h)
  · refine x_iload_n (pc := 9) (i := 1) (a := 1) g dX12_greater_9 rfl rfl ?_
    exact x_iret (pc := 10) g dX12_greater_10 rfl (fun _ h => h)
theorem c_M_greater (l : Launch) (G : xG) (hM : WM G) (m : xMem) (p0 : Int32) (p1 : Int32) : xCi l G yX12_greater cX12_greater 2 (some .int) rm_M_greater [.int p0, .int p1] m (M_greater m p0 p1) :=
  xCt_of (own := RX12) (by decide) rfl (Nat.le_of_ble_eq_true rfl) rfl ⟨rfl, rfl⟩ (fun E g => T_M_greater hM g m p0 p1)
theorem T_M_absolute {l : Launch} {G : xG} {E : xE} (hM : WM G) (g : xGood E l G.1 RX12 cX12_absolute yX12_absolute 1 (some .int) rm_M_absolute) (m : xMem) (p0 : Int32) : X E G (fun r : Int32 => (some (Value.int r), m)) 0 [(0, .int p0)] [] m (M_absolute m p0) := by
  unfold M_absolute
  refine x_iload_n (pc := 0) (i := 0) (a := 0) g dX12_absolute_0 rfl rfl ?_
  refine x_if_ge (pc := 1) (t := 9) g dX12_absolute_1 (by decide) ?_ ?_
  · refine x_iload_n (pc := 4) (i := 0) (a := 0) g dX12_absolute_4 rfl rfl ?_
    refine x_ineg (pc := 5) g dX12_absolute_5 ?_
    refine x_goto (pc := 6) (t := 10) g dX12_absolute_6 (by decide) ?_
    exact x_iret (pc := 10) g dX12_absolute_10 rfl (fun _ h => h)
  · refine x_iload_n (pc := 9) (i := 0) (a := 0) g dX12_absolute_9 rfl rfl ?_
    exact x_iret (pc := 10) g dX12_absolute_10 rfl (fun _ h => h)
theorem c_M_absolute (l : Launch) (G : xG) (hM : WM G) (m : xMem) (p0 : Int32) : xCi l G yX12_absolute cX12_absolute 1 (some .int) rm_M_absolute [.int p0] m (M_absolute m p0) :=
  xCt_of (own := RX12) (by decide) rfl (Nat.le_of_ble_eq_true rfl) rfl ⟨rfl, rfl⟩ (fun E g => T_M_absolute hM g m p0)
theorem T_M_octet {l : Launch} {G : xG} {E : xE} (hM : WM G) (g : xGood E l G.1 RX12 cX12_octet yX12_octet 2 (some .int) rm_M_octet) (m : xMem) (p0 : Int32) : X E G (fun r : Int32 => (some (Value.int r), m)) 0 [(0, .ref (xad G 0)), (1, .int p0)] [] m (M_octet m p0) := by
  unfold M_octet
  refine x_aload_n (pc := 0) (i := 0) (a := 0) g dX12_octet_0 rfl rfl ?_
  refine x_getR (pc := 1) (x := 1) g hM dX12_octet_1 fl_12_14 (sm_0) rfl ?_
  refine x_iload_n (pc := 4) (i := 1) (a := 1) g dX12_octet_4 rfl rfl ?_
  refine x_bald (pc := 5) g hM dX12_octet_5 (sm_1) (fun j1 hj1 => ?_)
  refine x_sipush (pc := 6) g dX12_octet_6 si_255 ?_
  refine x_iand (pc := 9) g dX12_octet_9 ?_
  exact x_iret (pc := 10) g dX12_octet_10 rfl (fun _ h => h)
theorem c_M_octet (l : Launch) (G : xG) (hM : WM G) (m : xMem) (p0 : Int32) : xCi l G yX12_octet cX12_octet 2 (some .int) rm_M_octet [.ref (xad G 0), .int p0] m (M_octet m p0) :=
  xCt_of (own := RX12) (by decide) rfl (Nat.le_of_ble_eq_true rfl) rfl ⟨rfl, rfl⟩ (fun E g => T_M_octet hM g m p0)
theorem T_M_clears_b2 {l : Launch} {G : xG} {E : xE} (hM : WM G) (g : xGood E l G.1 RX12 cX12_clears yX12_clears 2 none rm_M_clears) : ∀ (n : Nat) (v1 : Int32) (m : xMem), X E G (fun r : xMem => ((none : Option Value), r)) 2 [(0, .ref (xad G 0)), (1, .int v1)] [] m (M_clears_b2 n v1 m) := by
  intro n
  induction n with
  | zero => intro v1 m; exact x_none
  | succ n ih =>
    intro v1 m
    rw [M_clears_b2]
    refine x_iload_n (pc := 2) (i := 1) (a := 1) g dX12_clears_2 rfl rfl ?_
    refine x_bipush (pc := 3) g dX12_clears_3 bi_97 ?_
    refine x_icmp_ge (pc := 5) (t := 21) g dX12_clears_5 (by decide) ?_ ?_
    · refine x_aload_n (pc := 8) (i := 0) (a := 0) g dX12_clears_8 rfl rfl ?_
      refine x_getR (pc := 9) (x := 3) g hM dX12_clears_9 fl_12_37 (sm_0) rfl ?_
      refine x_iload_n (pc := 12) (i := 1) (a := 1) g dX12_clears_12 rfl rfl ?_
      refine x_iconst (pc := 13) g dX12_clears_13 ic_0 ?_
      refine x_iast (pc := 14) g hM dX12_clears_14 (sm_3) (fun j2 hj2 m1 => ?_)
      refine x_iinc (pc := 15) (a := 1) (lv' := [(1, .int (v1 + 1)), (0, .ref (xad G 0))]) g dX12_clears_15 ic_1 rfl (by decide) rfl ?_
      refine x_goto (pc := 18) (t := 2) g dX12_clears_18 (by decide) ?_
      exact x_sub [1, 0] (ih (v1 + 1) m1) rfl
    · refine x_aload_n (pc := 21) (i := 0) (a := 0) g dX12_clears_21 rfl rfl ?_
      refine x_getR (pc := 22) (x := 3) g hM dX12_clears_22 fl_12_37 (sm_0) rfl ?_
      refine x_iconst (pc := 25) g dX12_clears_25 ic_3 ?_
      refine x_bipush (pc := 26) g dX12_clears_26 bi_6 ?_
      refine x_iastc (pc := 28) g hM dX12_clears_28 (sm_3) ix_3_97 (fun m3 => ?_)
      refine x_aload_n (pc := 29) (i := 0) (a := 0) g dX12_clears_29 rfl rfl ?_
      refine x_getR (pc := 30) (x := 3) g hM dX12_clears_30 fl_12_37 (sm_0) rfl ?_
      refine x_iconst (pc := 33) g dX12_clears_33 ic_4 ?_
      refine x_bipush (pc := 34) g dX12_clears_34 bi_6 ?_
      refine x_iastc (pc := 36) g hM dX12_clears_36 (sm_3) ix_4_97 (fun m4 => ?_)
      refine x_aload_n (pc := 37) (i := 0) (a := 0) g dX12_clears_37 rfl rfl ?_
      refine x_getR (pc := 38) (x := 3) g hM dX12_clears_38 fl_12_37 (sm_0) rfl ?_
      refine x_iconst (pc := 41) g dX12_clears_41 ic_5 ?_
      refine x_bipush (pc := 42) g dX12_clears_42 bi_6 ?_
      refine x_iastc (pc := 44) g hM dX12_clears_44 (sm_3) ix_5_97 (fun m5 => ?_)
      refine x_aload_n (pc := 45) (i := 0) (a := 0) g dX12_clears_45 rfl rfl ?_
      refine x_getR (pc := 46) (x := 3) g hM dX12_clears_46 fl_12_37 (sm_0) rfl ?_
      refine x_bipush (pc := 49) g dX12_clears_49 bi_6 ?_
      refine x_bipush (pc := 51) g dX12_clears_51 bi_17 ?_
      refine x_iastc (pc := 53) g hM dX12_clears_53 (sm_3) ix_6_97 (fun m6 => ?_)
      exact x_vret (pc := 54) g dX12_clears_54 rfl (fun _ h => h)
theorem T_M_clears {l : Launch} {G : xG} {E : xE} (hM : WM G) (g : xGood E l G.1 RX12 cX12_clears yX12_clears 2 none rm_M_clears) (m : xMem) : X E G (fun r : xMem => ((none : Option Value), r)) 0 [(0, .ref (xad G 0))] [] m (M_clears m) := by
  unfold M_clears
  refine x_iconst (pc := 0) g dX12_clears_0 ic_0 ?_
  refine x_istore_n (pc := 1) (i := 1) (lv' := [(1, .int 0), (0, .ref (xad G 0))]) g dX12_clears_1 rfl (by decide) rfl ?_
  exact x_sub [1, 0] (T_M_clears_b2 hM g 1000 0 m) rfl
theorem c_M_clears (l : Launch) (G : xG) (hM : WM G) (m : xMem) : xCv l G yX12_clears cX12_clears 2 none rm_M_clears [.ref (xad G 0)] m (M_clears m) :=
  xCt_of (own := RX12) (by decide) rfl (Nat.le_of_ble_eq_true rfl) rfl ⟨rfl, rfl⟩ (fun E g => T_M_clears hM g m)
theorem T_M_peek {l : Launch} {G : xG} {E : xE} (hM : WM G) (g : xGood E l G.1 RX12 cX12_peek yX12_peek 1 (some .int) rm_M_peek) (m : xMem) : X E G (fun r : Int32 => (some (Value.int r), m)) 0 [(0, .ref (xad G 0))] [] m (M_peek m) := by
  unfold M_peek
  refine x_aload_n (pc := 0) (i := 0) (a := 0) g dX12_peek_0 rfl rfl ?_
  refine x_getI (pc := 1) g hM dX12_peek_1 fl_12_21 (sm_0) rfl ?_
  refine x_aload_n (pc := 4) (i := 0) (a := 0) g dX12_peek_4 rfl rfl ?_
  refine x_getI (pc := 5) g hM dX12_peek_5 fl_12_18 (sm_0) rfl ?_
  refine x_icmp_ge (pc := 8) (t := 27) g dX12_peek_8 (by decide) ?_ ?_
  · refine x_aload_n (pc := 11) (i := 0) (a := 0) g dX12_peek_11 rfl rfl ?_
    refine x_getR (pc := 12) (x := 1) g hM dX12_peek_12 fl_12_14 (sm_0) rfl ?_
    refine x_aload_n (pc := 15) (i := 0) (a := 0) g dX12_peek_15 rfl rfl ?_
    refine x_getI (pc := 16) g hM dX12_peek_16 fl_12_21 (sm_0) rfl ?_
    refine x_bald (pc := 19) g hM dX12_peek_19 (sm_1) (fun j1 hj1 => ?_)
    refine x_sipush (pc := 20) g dX12_peek_20 si_255 ?_
    refine x_iand (pc := 23) g dX12_peek_23 ?_
    refine x_goto (pc := 24) (t := 28) g dX12_peek_24 (by decide) ?_
    exact x_iret (pc := 28) g dX12_peek_28 rfl (fun _ h => h)
  · refine x_iconst (pc := 27) g dX12_peek_27 ic_m1 ?_
    exact x_iret (pc := 28) g dX12_peek_28 rfl (fun _ h => h)
theorem c_M_peek (l : Launch) (G : xG) (hM : WM G) (m : xMem) : xCi l G yX12_peek cX12_peek 1 (some .int) rm_M_peek [.ref (xad G 0)] m (M_peek m) :=
  xCt_of (own := RX12) (by decide) rfl (Nat.le_of_ble_eq_true rfl) rfl ⟨rfl, rfl⟩ (fun E g => T_M_peek hM g m)
theorem T_M_isSmall {l : Launch} {G : xG} {E : xE} (hM : WM G) (g : xGood E l G.1 RX12 cX12_isSmall yX12_isSmall 1 (some .boolean) rm_M_isSmall) (m : xMem) (p0 : Int32) : X E G (fun r : Int32 => (some (Value.int r), m)) 0 [(0, .int p0)] [] m (M_isSmall m p0) := by
  unfold M_isSmall
  refine x_iload_n (pc := 0) (i := 0) (a := 0) g dX12_isSmall_0 rfl rfl ?_
  refine x_bipush (pc := 1) g dX12_isSmall_1 bi_97 ?_
  refine x_icmp_lt (pc := 3) (t := 16) g dX12_isSmall_3 (by decide) ?_ ?_
  · refine x_iconst (pc := 16) g dX12_isSmall_16 ic_0 ?_
    exact x_zretc (pc := 17) g dX12_isSmall_17 rfl (Or.inl rfl) (fun _ h => h)
  · refine x_iload_n (pc := 6) (i := 0) (a := 0) g dX12_isSmall_6 rfl rfl ?_
    refine x_bipush (pc := 7) g dX12_isSmall_7 bi_122 ?_
    refine x_icmp_gt (pc := 9) (t := 16) g dX12_isSmall_9 (by decide) ?_ ?_
    · refine x_iconst (pc := 16) g dX12_isSmall_16 ic_0 ?_
      exact x_zretc (pc := 17) g dX12_isSmall_17 rfl (Or.inl rfl) (fun _ h => h)
    · refine x_iconst (pc := 12) g dX12_isSmall_12 ic_1 ?_
      refine x_goto (pc := 13) (t := 17) g dX12_isSmall_13 (by decide) ?_
      exact x_zretc (pc := 17) g dX12_isSmall_17 rfl (Or.inr rfl) (fun _ h => h)
theorem c_M_isSmall (l : Launch) (G : xG) (hM : WM G) (m : xMem) (p0 : Int32) : xCi l G yX12_isSmall cX12_isSmall 1 (some .boolean) rm_M_isSmall [.int p0] m (M_isSmall m p0) :=
  xCt_of (own := RX12) (by decide) rfl (Nat.le_of_ble_eq_true rfl) rfl ⟨rfl, rfl⟩ (fun E g => T_M_isSmall hM g m p0)
theorem T_M_isDigit {l : Launch} {G : xG} {E : xE} (hM : WM G) (g : xGood E l G.1 RX12 cX12_isDigit yX12_isDigit 1 (some .boolean) rm_M_isDigit) (m : xMem) (p0 : Int32) : X E G (fun r : Int32 => (some (Value.int r), m)) 0 [(0, .int p0)] [] m (M_isDigit m p0) := by
  unfold M_isDigit
  refine x_iload_n (pc := 0) (i := 0) (a := 0) g dX12_isDigit_0 rfl rfl ?_
  refine x_bipush (pc := 1) g dX12_isDigit_1 bi_48 ?_
  refine x_icmp_lt (pc := 3) (t := 16) g dX12_isDigit_3 (by decide) ?_ ?_
  · refine x_iconst (pc := 16) g dX12_isDigit_16 ic_0 ?_
    exact x_zretc (pc := 17) g dX12_isDigit_17 rfl (Or.inl rfl) (fun _ h => h)
  · refine x_iload_n (pc := 6) (i := 0) (a := 0) g dX12_isDigit_6 rfl rfl ?_
    refine x_bipush (pc := 7) g dX12_isDigit_7 bi_57 ?_
    refine x_icmp_gt (pc := 9) (t := 16) g dX12_isDigit_9 (by decide) ?_ ?_
    · refine x_iconst (pc := 16) g dX12_isDigit_16 ic_0 ?_
      exact x_zretc (pc := 17) g dX12_isDigit_17 rfl (Or.inl rfl) (fun _ h => h)
    · refine x_iconst (pc := 12) g dX12_isDigit_12 ic_1 ?_
      refine x_goto (pc := 13) (t := 17) g dX12_isDigit_13 (by decide) ?_
      exact x_zretc (pc := 17) g dX12_isDigit_17 rfl (Or.inr rfl) (fun _ h => h)
theorem c_M_isDigit (l : Launch) (G : xG) (hM : WM G) (m : xMem) (p0 : Int32) : xCi l G yX12_isDigit cX12_isDigit 1 (some .boolean) rm_M_isDigit [.int p0] m (M_isDigit m p0) :=
  xCt_of (own := RX12) (by decide) rfl (Nat.le_of_ble_eq_true rfl) rfl ⟨rfl, rfl⟩ (fun E g => T_M_isDigit hM g m p0)
theorem T_M_go_b18 {l : Launch} {G : xG} {E : xE} (hM : WM G) (g : xGood E l G.1 RX12 cX12_go yX12_go 4 none rm_M_go) (k0 : xMem → Option (xMem)) (hk0 : ∀ (m : xMem), X E G (fun r : xMem => ((none : Option Value), r)) 0 [(0, .ref (xad G 0))] [] m (k0 m)) (m : xMem) : X E G (fun r : xMem => ((none : Option Value), r)) 18 [(0, .ref (xad G 0))] [] m (M_go_b18 k0 m) := by
  unfold M_go_b18
  refine x_aload_n (pc := 18) (i := 0) (a := 0) g dX12_go_18 rfl rfl ?_
  refine x_dup (pc := 19) g dX12_go_19 rfl ?_
  refine x_getI (pc := 20) g hM dX12_go_20 fl_12_21 (sm_0) rfl ?_
  refine x_iconst (pc := 23) g dX12_go_23 ic_1 ?_
  refine x_iadd (pc := 24) g dX12_go_24 ?_
  refine x_putI (pc := 25) g hM dX12_go_25 fl_12_21 ft_12_4 (sm_0) rfl (fun m7 => ?_)
  refine x_goto (pc := 28) (t := 0) g dX12_go_28 (by decide) ?_
  exact x_sub [0] (hk0 m7) rfl
theorem T_M_go_b145 {l : Launch} {G : xG} {E : xE} (hM : WM G) (g : xGood E l G.1 RX12 cX12_go yX12_go 4 none rm_M_go) (v1 : Int32) (s0 : Int32) (m : xMem) : X E G (fun r : xMem => ((none : Option Value), r)) 145 [(0, .ref (xad G 0)), (1, .int v1)] [.int s0, .ref (xad G 0)] m (M_go_b145 v1 s0 m) := by
  unfold M_go_b145
  refine x_putI (pc := 145) g hM dX12_go_145 fl_12_191 ft_12_11 (sm_0) rfl (fun m12 => ?_)
  refine x_aload_n (pc := 148) (i := 0) (a := 0) g dX12_go_148 rfl rfl ?_
  refine x_iload_n (pc := 149) (i := 1) (a := 1) g dX12_go_149 rfl rfl ?_
  refine x_putI (pc := 150) g hM dX12_go_150 fl_12_201 ft_12_14 (sm_0) rfl (fun m13 => ?_)
  refine x_aload_n (pc := 153) (i := 0) (a := 0) g dX12_go_153 rfl rfl ?_
  refine x_dup (pc := 154) g dX12_go_154 rfl ?_
  refine x_getI (pc := 155) g hM dX12_go_155 fl_12_21 (sm_0) rfl ?_
  refine x_iconst (pc := 158) g dX12_go_158 ic_1 ?_
  refine x_iadd (pc := 159) g dX12_go_159 ?_
  refine x_putI (pc := 160) g hM dX12_go_160 fl_12_21 ft_12_4 (sm_0) rfl (fun m14 => ?_)
  exact x_vret (pc := 163) g dX12_go_163 rfl (fun _ h => h)
theorem T_M_go_b275 {l : Launch} {G : xG} {E : xE} (hM : WM G) (g : xGood E l G.1 RX12 cX12_go yX12_go 4 none rm_M_go) (k181 : Int32 → Int32 → xMem → Option (xMem)) (hk181 : ∀ (v2 : Int32) (v3 : Int32) (m : xMem), X E G (fun r : xMem => ((none : Option Value), r)) 181 [(0, .ref (xad G 0)), (2, .int v2), (3, .int v3)] [] m (k181 v2 v3 m)) (v2 : Int32) (v3 : Int32) (m : xMem) : X E G (fun r : xMem => ((none : Option Value), r)) 275 [(0, .ref (xad G 0)), (2, .int v2), (3, .int v3)] [] m (M_go_b275 k181 v2 v3 m) := by
  unfold M_go_b275
  refine x_aload_n (pc := 275) (i := 0) (a := 0) g dX12_go_275 rfl rfl ?_
  refine x_dup (pc := 276) g dX12_go_276 rfl ?_
  refine x_getI (pc := 277) g hM dX12_go_277 fl_12_188 (sm_0) rfl ?_
  refine x_iconst (pc := 280) g dX12_go_280 ic_1 ?_
  refine x_iadd (pc := 281) g dX12_go_281 ?_
  refine x_putI (pc := 282) g hM dX12_go_282 fl_12_188 ft_12_13 (sm_0) rfl (fun m29 => ?_)
  refine x_aload_n (pc := 285) (i := 0) (a := 0) g dX12_go_285 rfl rfl ?_
  refine x_dup (pc := 286) g dX12_go_286 rfl ?_
  refine x_getI (pc := 287) g hM dX12_go_287 fl_12_21 (sm_0) rfl ?_
  refine x_iconst (pc := 290) g dX12_go_290 ic_1 ?_
  refine x_iadd (pc := 291) g dX12_go_291 ?_
  refine x_putI (pc := 292) g hM dX12_go_292 fl_12_21 ft_12_4 (sm_0) rfl (fun m30 => ?_)
  refine x_goto (pc := 295) (t := 181) g dX12_go_295 (by decide) ?_
  exact x_sub [0, 1, 2] (hk181 v2 v3 m30) rfl
theorem T_M_go_b248 {l : Launch} {G : xG} {E : xE} (hM : WM G) (g : xGood E l G.1 RX12 cX12_go yX12_go 4 none rm_M_go) (k181 : Int32 → Int32 → xMem → Option (xMem)) (hk181 : ∀ (v2 : Int32) (v3 : Int32) (m : xMem), X E G (fun r : xMem => ((none : Option Value), r)) 181 [(0, .ref (xad G 0)), (2, .int v2), (3, .int v3)] [] m (k181 v2 v3 m)) (v2 : Int32) (v3 : Int32) (m : xMem) : X E G (fun r : xMem => ((none : Option Value), r)) 248 [(0, .ref (xad G 0)), (2, .int v2), (3, .int v3)] [] m (M_go_b248 k181 v2 v3 m) := by
  unfold M_go_b248
  refine x_aload_n (pc := 248) (i := 0) (a := 0) g dX12_go_248 rfl rfl ?_
  refine x_getI (pc := 249) g hM dX12_go_249 fl_12_188 (sm_0) rfl ?_
  refine x_iconst (pc := 252) g dX12_go_252 ic_3 ?_
  refine x_icmp_ge (pc := 253) (t := 275) g dX12_go_253 (by decide) ?_ ?_
  · refine x_aload_n (pc := 256) (i := 0) (a := 0) g dX12_go_256 rfl rfl ?_
    refine x_bipush (pc := 257) g dX12_go_257 bi_10 ?_
    refine x_aload_n (pc := 259) (i := 0) (a := 0) g dX12_go_259 rfl rfl ?_
    refine x_getI (pc := 260) g hM dX12_go_260 fl_12_201 (sm_0) rfl ?_
    refine x_imul (pc := 263) g dX12_go_263 ?_
    refine x_aload_n (pc := 264) (i := 0) (a := 0) g dX12_go_264 rfl rfl ?_
    refine x_Vi (pc := 265) g hM [] [.int (10 * (m.1 0 14)), .ref (xad G 0)] (c_M_peek l G hM m) dX12_go_265 ml_12_181 (sm_0) rfl rfl (Nat.le_of_ble_eq_true rfl) ⟨rfl, rfl, Nat.le_of_ble_eq_true rfl, Nat.le_of_ble_eq_true rfl⟩ (fun r27 hr27 => ?_)
    refine x_iadd (pc := 268) g dX12_go_268 ?_
    refine x_bipush (pc := 269) g dX12_go_269 bi_48 ?_
    refine x_isub (pc := 271) g dX12_go_271 ?_
    refine x_putI (pc := 272) g hM dX12_go_272 fl_12_201 ft_12_14 (sm_0) rfl (fun m28 => ?_)
    exact x_sub [0, 1, 2] (T_M_go_b275 hM g k181 hk181 v2 v3 m28) rfl
  · exact x_sub [0, 1, 2] (T_M_go_b275 hM g k181 hk181 v2 v3 m) rfl
theorem T_M_go_b221 {l : Launch} {G : xG} {E : xE} (hM : WM G) (g : xGood E l G.1 RX12 cX12_go yX12_go 4 none rm_M_go) (k181 : Int32 → Int32 → xMem → Option (xMem)) (hk181 : ∀ (v2 : Int32) (v3 : Int32) (m : xMem), X E G (fun r : xMem => ((none : Option Value), r)) 181 [(0, .ref (xad G 0)), (2, .int v2), (3, .int v3)] [] m (k181 v2 v3 m)) (v2 : Int32) (s0 : Int32) (m : xMem) : X E G (fun r : xMem => ((none : Option Value), r)) 221 [(0, .ref (xad G 0)), (2, .int v2)] [.int s0] m (M_go_b221 k181 v2 s0 m) := by
  unfold M_go_b221
  refine x_istore_n (pc := 221) (i := 3) (lv' := [(3, .int s0), (0, .ref (xad G 0)), (2, .int v2)]) g dX12_go_221 rfl (by decide) rfl ?_
  refine x_aload_n (pc := 222) (i := 0) (a := 1) g dX12_go_222 rfl rfl ?_
  refine x_getI (pc := 223) g hM dX12_go_223 fl_12_188 (sm_0) rfl ?_
  refine x_bipush (pc := 226) g dX12_go_226 bi_7 ?_
  refine x_icmp_ge (pc := 228) (t := 248) g dX12_go_228 (by decide) ?_ ?_
  · refine x_aload_n (pc := 231) (i := 0) (a := 1) g dX12_go_231 rfl rfl ?_
    refine x_aload_n (pc := 232) (i := 0) (a := 1) g dX12_go_232 rfl rfl ?_
    refine x_getL (pc := 233) g hM dX12_go_233 fl_12_204 (sm_0) rfl ?_
    refine x_bipush (pc := 236) g dX12_go_236 bi_8 ?_
    refine x_lshl (pc := 238) g dX12_go_238 ?_
    refine x_aload_n (pc := 239) (i := 0) (a := 1) g dX12_go_239 rfl rfl ?_
    refine x_Vi (pc := 240) g hM [] [.long (l_shl (m.2 0 17) 8), .ref (xad G 0)] (c_M_peek l G hM m) dX12_go_240 ml_12_181 (sm_0) rfl rfl (Nat.le_of_ble_eq_true rfl) ⟨rfl, rfl, Nat.le_of_ble_eq_true rfl, Nat.le_of_ble_eq_true rfl⟩ (fun r25 hr25 => ?_)
    refine x_i2l (pc := 243) g dX12_go_243 ?_
    refine x_lor (pc := 244) g dX12_go_244 ?_
    refine x_putL (pc := 245) g hM dX12_go_245 fl_12_204 ft_12_17 (sm_0) rfl (fun m26 => ?_)
    exact x_sub [1, 2, 0] (T_M_go_b248 hM g k181 hk181 v2 s0 m26) rfl
  · exact x_sub [1, 2, 0] (T_M_go_b248 hM g k181 hk181 v2 s0 m) rfl
theorem T_M_go_b201 {l : Launch} {G : xG} {E : xE} (hM : WM G) (g : xGood E l G.1 RX12 cX12_go yX12_go 4 none rm_M_go) (k181 : Int32 → Int32 → xMem → Option (xMem)) (hk181 : ∀ (v2 : Int32) (v3 : Int32) (m : xMem), X E G (fun r : xMem => ((none : Option Value), r)) 181 [(0, .ref (xad G 0)), (2, .int v2), (3, .int v3)] [] m (k181 v2 v3 m)) (v2 : Int32) (v3 : Int32) (m : xMem) : X E G (fun r : xMem => ((none : Option Value), r)) 201 [(0, .ref (xad G 0)), (2, .int v2), (3, .int v3)] [] m (M_go_b201 k181 v2 v3 m) := by
  unfold M_go_b201
  refine x_iload_n (pc := 201) (i := 3) (a := 2) g dX12_go_201 rfl rfl ?_
  refine x_if_eq (pc := 202) (t := 220) g dX12_go_202 (by decide) ?_ ?_
  · refine x_iconst (pc := 220) g dX12_go_220 ic_0 ?_
    exact x_sub [0, 1] (T_M_go_b221 hM g k181 hk181 v2 0 m) rfl
  · refine x_aload_n (pc := 205) (i := 0) (a := 0) g dX12_go_205 rfl rfl ?_
    refine x_Vi (pc := 206) g hM [] [] (c_M_peek l G hM m) dX12_go_206 ml_12_181 (sm_0) rfl rfl (Nat.le_of_ble_eq_true rfl) ⟨rfl, rfl, Nat.le_of_ble_eq_true rfl, Nat.le_of_ble_eq_true rfl⟩ (fun r23 hr23 => ?_)
    refine x_Si (pc := 209) g [.int r23] [] (c_M_isSmall l G hM m r23) dX12_go_209 ms_12_194 rfl rfl (Nat.le_of_ble_eq_true rfl) ⟨rfl, rfl, Nat.le_of_ble_eq_true rfl, Nat.le_of_ble_eq_true rfl⟩ (fun r24 hr24 => ?_)
    refine x_iload_n (pc := 212) (i := 2) (a := 1) g dX12_go_212 rfl rfl ?_
    refine x_icmp_ne (pc := 213) (t := 220) g dX12_go_213 (by decide) ?_ ?_
    · refine x_iconst (pc := 216) g dX12_go_216 ic_1 ?_
      refine x_goto (pc := 217) (t := 221) g dX12_go_217 (by decide) ?_
      exact x_sub [0, 1] (T_M_go_b221 hM g k181 hk181 v2 1 m) rfl
    · refine x_iconst (pc := 220) g dX12_go_220 ic_0 ?_
      exact x_sub [0, 1] (T_M_go_b221 hM g k181 hk181 v2 0 m) rfl
theorem T_M_go_b333 {l : Launch} {G : xG} {E : xE} (hM : WM G) (g : xGood E l G.1 RX12 cX12_go yX12_go 4 none rm_M_go) (s0 : Int32) (m : xMem) : X E G (fun r : xMem => ((none : Option Value), r)) 333 [] [.int s0, .ref (xad G 0)] m (M_go_b333 s0 m) := by
  unfold M_go_b333
  refine x_putI (pc := 333) g hM dX12_go_333 fl_12_191 ft_12_11 (sm_0) rfl (fun m22 => ?_)
  exact x_vret (pc := 336) g dX12_go_336 rfl (fun _ h => h)
theorem T_M_go_b317 {l : Launch} {G : xG} {E : xE} (hM : WM G) (g : xGood E l G.1 RX12 cX12_go yX12_go 4 none rm_M_go) (v2 : Int32) (s0 : Int32) (s1 : Int32) (m : xMem) : X E G (fun r : xMem => ((none : Option Value), r)) 317 [(2, .int v2)] [.int s0, .int s1, .ref (xad G 0)] m (M_go_b317 v2 s0 s1 m) := by
  unfold M_go_b317
  refine x_icmp_le (pc := 317) (t := 324) g dX12_go_317 (by decide) ?_ ?_
  · refine x_iconst (pc := 320) g dX12_go_320 ic_4 ?_
    refine x_goto (pc := 321) (t := 333) g dX12_go_321 (by decide) ?_
    exact x_sub [] (T_M_go_b333 hM g 4 m) rfl
  · refine x_iload_n (pc := 324) (i := 2) (a := 0) g dX12_go_324 rfl rfl ?_
    refine x_if_eq (pc := 325) (t := 332) g dX12_go_325 (by decide) ?_ ?_
    · refine x_iconst (pc := 332) g dX12_go_332 ic_2 ?_
      exact x_sub [] (T_M_go_b333 hM g 2 m) rfl
    · refine x_iconst (pc := 328) g dX12_go_328 ic_1 ?_
      refine x_goto (pc := 329) (t := 333) g dX12_go_329 (by decide) ?_
      exact x_sub [] (T_M_go_b333 hM g 1 m) rfl
theorem T_M_go_b181 {l : Launch} {G : xG} {E : xE} (hM : WM G) (g : xGood E l G.1 RX12 cX12_go yX12_go 4 none rm_M_go) : ∀ (n : Nat) (v2 : Int32) (v3 : Int32) (m : xMem), X E G (fun r : xMem => ((none : Option Value), r)) 181 [(0, .ref (xad G 0)), (2, .int v2), (3, .int v3)] [] m (M_go_b181 n v2 v3 m) := by
  intro n
  induction n with
  | zero => intro v2 v3 m; exact x_none
  | succ n ih =>
    intro v2 v3 m
    rw [M_go_b181]
    refine x_aload_n (pc := 181) (i := 0) (a := 0) g dX12_go_181 rfl rfl ?_
    refine x_Vi (pc := 182) g hM [] [] (c_M_peek l G hM m) dX12_go_182 ml_12_181 (sm_0) rfl rfl (Nat.le_of_ble_eq_true rfl) ⟨rfl, rfl, Nat.le_of_ble_eq_true rfl, Nat.le_of_ble_eq_true rfl⟩ (fun r18 hr18 => ?_)
    refine x_Si (pc := 185) g [.int r18] [] (c_M_isSmall l G hM m r18) dX12_go_185 ms_12_194 rfl rfl (Nat.le_of_ble_eq_true rfl) ⟨rfl, rfl, Nat.le_of_ble_eq_true rfl, Nat.le_of_ble_eq_true rfl⟩ (fun r19 hr19 => ?_)
    refine x_if_ne (pc := 188) (t := 201) g dX12_go_188 (by decide) ?_ ?_
    · refine x_aload_n (pc := 191) (i := 0) (a := 0) g dX12_go_191 rfl rfl ?_
      refine x_Vi (pc := 192) g hM [] [] (c_M_peek l G hM m) dX12_go_192 ml_12_181 (sm_0) rfl rfl (Nat.le_of_ble_eq_true rfl) ⟨rfl, rfl, Nat.le_of_ble_eq_true rfl, Nat.le_of_ble_eq_true rfl⟩ (fun r20 hr20 => ?_)
      refine x_Si (pc := 195) g [.int r20] [] (c_M_isDigit l G hM m r20) dX12_go_195 ms_12_198 rfl rfl (Nat.le_of_ble_eq_true rfl) ⟨rfl, rfl, Nat.le_of_ble_eq_true rfl, Nat.le_of_ble_eq_true rfl⟩ (fun r21 hr21 => ?_)
      refine x_if_eq (pc := 198) (t := 298) g dX12_go_198 (by decide) ?_ ?_
      · refine x_aload_n (pc := 298) (i := 0) (a := 0) g dX12_go_298 rfl rfl ?_
        refine x_iload_n (pc := 299) (i := 3) (a := 2) g dX12_go_299 rfl rfl ?_
        refine x_if_eq (pc := 300) (t := 320) g dX12_go_300 (by decide) ?_ ?_
        · refine x_iconst (pc := 320) g dX12_go_320 ic_4 ?_
          refine x_goto (pc := 321) (t := 333) g dX12_go_321 (by decide) ?_
          exact x_sub [] (T_M_go_b333 hM g 4 m) rfl
        · refine x_aload_n (pc := 303) (i := 0) (a := 0) g dX12_go_303 rfl rfl ?_
          refine x_getI (pc := 304) g hM dX12_go_304 fl_12_188 (sm_0) rfl ?_
          refine x_iload_n (pc := 307) (i := 2) (a := 1) g dX12_go_307 rfl rfl ?_
          refine x_if_eq (pc := 308) (t := 316) g dX12_go_308 (by decide) ?_ ?_
          · refine x_iconst (pc := 316) g dX12_go_316 ic_3 ?_
            exact x_sub [1] (T_M_go_b317 hM g v2 3 (m.1 0 13) m) rfl
          · refine x_bipush (pc := 311) g dX12_go_311 bi_7 ?_
            refine x_goto (pc := 313) (t := 317) g dX12_go_313 (by decide) ?_
            exact x_sub [1] (T_M_go_b317 hM g v2 7 (m.1 0 13) m) rfl
      · exact x_sub [0, 1, 2] (T_M_go_b201 hM g (M_go_b181 n) ih v2 v3 m) rfl
    · exact x_sub [0, 1, 2] (T_M_go_b201 hM g (M_go_b181 n) ih v2 v3 m) rfl
theorem T_M_go_b164 {l : Launch} {G : xG} {E : xE} (hM : WM G) (g : xGood E l G.1 RX12 cX12_go yX12_go 4 none rm_M_go) (v1 : Int32) (m : xMem) : X E G (fun r : xMem => ((none : Option Value), r)) 164 [(0, .ref (xad G 0)), (1, .int v1)] [] m (M_go_b164 v1 m) := by
  unfold M_go_b164
  refine x_iload_n (pc := 164) (i := 1) (a := 1) g dX12_go_164 rfl rfl ?_
  refine x_Si (pc := 165) g [.int v1] [] (c_M_isSmall l G hM m v1) dX12_go_165 ms_12_194 rfl rfl (Nat.le_of_ble_eq_true rfl) ⟨rfl, rfl, Nat.le_of_ble_eq_true rfl, Nat.le_of_ble_eq_true rfl⟩ (fun r15 hr15 => ?_)
  refine x_istore_n (pc := 168) (i := 2) (lv' := [(2, .int r15), (0, .ref (xad G 0)), (1, .int v1)]) g dX12_go_168 rfl (by decide) rfl ?_
  refine x_iconst (pc := 169) g dX12_go_169 ic_1 ?_
  refine x_istore_n (pc := 170) (i := 3) (lv' := [(3, .int 1), (2, .int r15), (0, .ref (xad G 0)), (1, .int v1)]) g dX12_go_170 rfl (by decide) rfl ?_
  refine x_aload_n (pc := 171) (i := 0) (a := 2) g dX12_go_171 rfl rfl ?_
  refine x_lconst (pc := 172) g dX12_go_172 lc_0 ?_
  refine x_putL (pc := 173) g hM dX12_go_173 fl_12_204 ft_12_17 (sm_0) rfl (fun m16 => ?_)
  refine x_aload_n (pc := 176) (i := 0) (a := 2) g dX12_go_176 rfl rfl ?_
  refine x_iconst (pc := 177) g dX12_go_177 ic_0 ?_
  refine x_putI (pc := 178) g hM dX12_go_178 fl_12_201 ft_12_14 (sm_0) rfl (fun m17 => ?_)
  exact x_sub [2, 1, 0] (T_M_go_b181 hM g 1000 r15 1 m17) rfl
theorem T_M_go_b80 {l : Launch} {G : xG} {E : xE} (hM : WM G) (g : xGood E l G.1 RX12 cX12_go yX12_go 4 none rm_M_go) (m : xMem) : X E G (fun r : xMem => ((none : Option Value), r)) 80 [(0, .ref (xad G 0))] [] m (M_go_b80 m) := by
  unfold M_go_b80
  refine x_aload_n (pc := 80) (i := 0) (a := 0) g dX12_go_80 rfl rfl ?_
  refine x_Vi (pc := 81) g hM [] [] (c_M_peek l G hM m) dX12_go_81 ml_12_181 (sm_0) rfl rfl (Nat.le_of_ble_eq_true rfl) ⟨rfl, rfl, Nat.le_of_ble_eq_true rfl, Nat.le_of_ble_eq_true rfl⟩ (fun r8 hr8 => ?_)
  refine x_istore_n (pc := 84) (i := 1) (lv' := [(1, .int r8), (0, .ref (xad G 0))]) g dX12_go_84 rfl (by decide) rfl ?_
  refine x_iload_n (pc := 85) (i := 1) (a := 0) g dX12_go_85 rfl rfl ?_
  refine x_if_ge (pc := 86) (t := 95) g dX12_go_86 (by decide) ?_ ?_
  · refine x_aload_n (pc := 89) (i := 0) (a := 1) g dX12_go_89 rfl rfl ?_
    refine x_iconst (pc := 90) g dX12_go_90 ic_0 ?_
    refine x_putI (pc := 91) g hM dX12_go_91 fl_12_191 ft_12_11 (sm_0) rfl (fun m9 => ?_)
    exact x_vret (pc := 94) g dX12_go_94 rfl (fun _ h => h)
  · refine x_iload_n (pc := 95) (i := 1) (a := 0) g dX12_go_95 rfl rfl ?_
    refine x_Si (pc := 96) g [.int r8] [] (c_M_isSmall l G hM m r8) dX12_go_96 ms_12_194 rfl rfl (Nat.le_of_ble_eq_true rfl) ⟨rfl, rfl, Nat.le_of_ble_eq_true rfl, Nat.le_of_ble_eq_true rfl⟩ (fun r10 hr10 => ?_)
    refine x_if_ne (pc := 99) (t := 164) g dX12_go_99 (by decide) ?_ ?_
    · refine x_iload_n (pc := 102) (i := 1) (a := 0) g dX12_go_102 rfl rfl ?_
      refine x_Si (pc := 103) g [.int r8] [] (c_M_isDigit l G hM m r8) dX12_go_103 ms_12_198 rfl rfl (Nat.le_of_ble_eq_true rfl) ⟨rfl, rfl, Nat.le_of_ble_eq_true rfl, Nat.le_of_ble_eq_true rfl⟩ (fun r11 hr11 => ?_)
      refine x_if_ne (pc := 106) (t := 164) g dX12_go_106 (by decide) ?_ ?_
      · refine x_aload_n (pc := 109) (i := 0) (a := 1) g dX12_go_109 rfl rfl ?_
        refine x_iload_n (pc := 110) (i := 1) (a := 0) g dX12_go_110 rfl rfl ?_
        refine x_bipush (pc := 111) g dX12_go_111 bi_59 ?_
        refine x_icmp_eq (pc := 113) (t := 140) g dX12_go_113 (by decide) ?_ ?_
        · refine x_iconst (pc := 140) g dX12_go_140 ic_3 ?_
          refine x_goto (pc := 141) (t := 145) g dX12_go_141 (by decide) ?_
          exact x_sub [1, 0] (T_M_go_b145 hM g r8 3 m) rfl
        · refine x_iload_n (pc := 116) (i := 1) (a := 0) g dX12_go_116 rfl rfl ?_
          refine x_bipush (pc := 117) g dX12_go_117 bi_40 ?_
          refine x_icmp_eq (pc := 119) (t := 140) g dX12_go_119 (by decide) ?_ ?_
          · refine x_iconst (pc := 140) g dX12_go_140 ic_3 ?_
            refine x_goto (pc := 141) (t := 145) g dX12_go_141 (by decide) ?_
            exact x_sub [1, 0] (T_M_go_b145 hM g r8 3 m) rfl
          · refine x_iload_n (pc := 122) (i := 1) (a := 0) g dX12_go_122 rfl rfl ?_
            refine x_bipush (pc := 123) g dX12_go_123 bi_41 ?_
            refine x_icmp_eq (pc := 125) (t := 140) g dX12_go_125 (by decide) ?_ ?_
            · refine x_iconst (pc := 140) g dX12_go_140 ic_3 ?_
              refine x_goto (pc := 141) (t := 145) g dX12_go_141 (by decide) ?_
              exact x_sub [1, 0] (T_M_go_b145 hM g r8 3 m) rfl
            · refine x_iload_n (pc := 128) (i := 1) (a := 0) g dX12_go_128 rfl rfl ?_
              refine x_bipush (pc := 129) g dX12_go_129 bi_60 ?_
              refine x_icmp_lt (pc := 131) (t := 144) g dX12_go_131 (by decide) ?_ ?_
              · refine x_iconst (pc := 144) g dX12_go_144 ic_4 ?_
                exact x_sub [1, 0] (T_M_go_b145 hM g r8 4 m) rfl
              · refine x_iload_n (pc := 134) (i := 1) (a := 0) g dX12_go_134 rfl rfl ?_
                refine x_bipush (pc := 135) g dX12_go_135 bi_62 ?_
                refine x_icmp_gt (pc := 137) (t := 144) g dX12_go_137 (by decide) ?_ ?_
                · refine x_iconst (pc := 144) g dX12_go_144 ic_4 ?_
                  exact x_sub [1, 0] (T_M_go_b145 hM g r8 4 m) rfl
                · refine x_iconst (pc := 140) g dX12_go_140 ic_3 ?_
                  refine x_goto (pc := 141) (t := 145) g dX12_go_141 (by decide) ?_
                  exact x_sub [1, 0] (T_M_go_b145 hM g r8 3 m) rfl
      · exact x_sub [1, 0] (T_M_go_b164 hM g r8 m) rfl
    · exact x_sub [1, 0] (T_M_go_b164 hM g r8 m) rfl
theorem T_M_go_b0 {l : Launch} {G : xG} {E : xE} (hM : WM G) (g : xGood E l G.1 RX12 cX12_go yX12_go 4 none rm_M_go) : ∀ (n : Nat) (m : xMem), X E G (fun r : xMem => ((none : Option Value), r)) 0 [(0, .ref (xad G 0))] [] m (M_go_b0 n m) := by
  intro n
  induction n with
  | zero => intro m; exact x_none
  | succ n ih =>
    intro m
    rw [M_go_b0]
    refine x_aload_n (pc := 0) (i := 0) (a := 0) g dX12_go_0 rfl rfl ?_
    refine x_Vi (pc := 1) g hM [] [] (c_M_peek l G hM m) dX12_go_1 ml_12_181 (sm_0) rfl rfl (Nat.le_of_ble_eq_true rfl) ⟨rfl, rfl, Nat.le_of_ble_eq_true rfl, Nat.le_of_ble_eq_true rfl⟩ (fun r1 hr1 => ?_)
    refine x_bipush (pc := 4) g dX12_go_4 bi_32 ?_
    refine x_icmp_eq (pc := 6) (t := 18) g dX12_go_6 (by decide) ?_ ?_
    · exact x_sub [0] (T_M_go_b18 hM g (M_go_b0 n) ih m) rfl
    · refine x_aload_n (pc := 9) (i := 0) (a := 0) g dX12_go_9 rfl rfl ?_
      refine x_Vi (pc := 10) g hM [] [] (c_M_peek l G hM m) dX12_go_10 ml_12_181 (sm_0) rfl rfl (Nat.le_of_ble_eq_true rfl) ⟨rfl, rfl, Nat.le_of_ble_eq_true rfl, Nat.le_of_ble_eq_true rfl⟩ (fun r2 hr2 => ?_)
      refine x_bipush (pc := 13) g dX12_go_13 bi_10 ?_
      refine x_icmp_ne (pc := 15) (t := 31) g dX12_go_15 (by decide) ?_ ?_
      · exact x_sub [0] (T_M_go_b18 hM g (M_go_b0 n) ih m) rfl
      · refine x_aload_n (pc := 31) (i := 0) (a := 0) g dX12_go_31 rfl rfl ?_
        refine x_aload_n (pc := 32) (i := 0) (a := 0) g dX12_go_32 rfl rfl ?_
        refine x_getI (pc := 33) g hM dX12_go_33 fl_12_21 (sm_0) rfl ?_
        refine x_putI (pc := 36) g hM dX12_go_36 fl_12_185 ft_12_12 (sm_0) rfl (fun m3 => ?_)
        refine x_aload_n (pc := 39) (i := 0) (a := 0) g dX12_go_39 rfl rfl ?_
        refine x_iconst (pc := 40) g dX12_go_40 ic_0 ?_
        refine x_putI (pc := 41) g hM dX12_go_41 fl_12_188 ft_12_13 (sm_0) rfl (fun m4 => ?_)
        refine x_aload_n (pc := 44) (i := 0) (a := 0) g dX12_go_44 rfl rfl ?_
        refine x_getI (pc := 45) g hM dX12_go_45 fl_12_18 (sm_0) rfl ?_
        refine x_aload_n (pc := 48) (i := 0) (a := 0) g dX12_go_48 rfl rfl ?_
        refine x_getI (pc := 49) g hM dX12_go_49 fl_12_24 (sm_0) rfl ?_
        refine x_icmp_le (pc := 52) (t := 80) g dX12_go_52 (by decide) ?_ ?_
        · refine x_aload_n (pc := 55) (i := 0) (a := 0) g dX12_go_55 rfl rfl ?_
          refine x_getI (pc := 56) g hM dX12_go_56 fl_12_21 (sm_0) rfl ?_
          refine x_aload_n (pc := 59) (i := 0) (a := 0) g dX12_go_59 rfl rfl ?_
          refine x_getI (pc := 60) g hM dX12_go_60 fl_12_24 (sm_0) rfl ?_
          refine x_icmp_lt (pc := 63) (t := 80) g dX12_go_63 (by decide) ?_ ?_
          · exact x_sub [0] (T_M_go_b80 hM g m4) rfl
          · refine x_aload_n (pc := 66) (i := 0) (a := 0) g dX12_go_66 rfl rfl ?_
            refine x_aload_n (pc := 67) (i := 0) (a := 0) g dX12_go_67 rfl rfl ?_
            refine x_getI (pc := 68) g hM dX12_go_68 fl_12_24 (sm_0) rfl ?_
            refine x_putI (pc := 71) g hM dX12_go_71 fl_12_185 ft_12_12 (sm_0) rfl (fun m5 => ?_)
            refine x_aload_n (pc := 74) (i := 0) (a := 0) g dX12_go_74 rfl rfl ?_
            refine x_iconst (pc := 75) g dX12_go_75 ic_4 ?_
            refine x_putI (pc := 76) g hM dX12_go_76 fl_12_191 ft_12_11 (sm_0) rfl (fun m6 => ?_)
            exact x_vret (pc := 79) g dX12_go_79 rfl (fun _ h => h)
        · exact x_sub [0] (T_M_go_b80 hM g m4) rfl
theorem T_M_go {l : Launch} {G : xG} {E : xE} (hM : WM G) (g : xGood E l G.1 RX12 cX12_go yX12_go 4 none rm_M_go) (m : xMem) : X E G (fun r : xMem => ((none : Option Value), r)) 0 [(0, .ref (xad G 0))] [] m (M_go m) := by
  unfold M_go
  exact x_sub [0] (T_M_go_b0 hM g 1000 m) rfl
theorem c_M_go (l : Launch) (G : xG) (hM : WM G) (m : xMem) : xCv l G yX12_go cX12_go 4 none rm_M_go [.ref (xad G 0)] m (M_go m) :=
  xCt_of (own := RX12) (by decide) rfl (Nat.le_of_ble_eq_true rfl) rfl ⟨rfl, rfl⟩ (fun E g => T_M_go hM g m)
theorem T_M_bad {l : Launch} {G : xG} {E : xE} (hM : WM G) (g : xGood E l G.1 RX12 cX12_bad yX12_bad 2 (some .boolean) rm_M_bad) (m : xMem) (p0 : Int32) : X E G (fun r : Int32 × xMem => (some (Value.int r.1), r.2)) 0 [(0, .ref (xad G 0)), (1, .int p0)] [] m (M_bad m p0) := by
  unfold M_bad
  refine x_aload_n (pc := 0) (i := 0) (a := 0) g dX12_bad_0 rfl rfl ?_
  refine x_iload_n (pc := 1) (i := 1) (a := 1) g dX12_bad_1 rfl rfl ?_
  refine x_putI (pc := 2) g hM dX12_bad_2 fl_12_208 ft_12_15 (sm_0) rfl (fun m1 => ?_)
  refine x_aload_n (pc := 5) (i := 0) (a := 0) g dX12_bad_5 rfl rfl ?_
  refine x_aload_n (pc := 6) (i := 0) (a := 0) g dX12_bad_6 rfl rfl ?_
  refine x_getI (pc := 7) g hM dX12_bad_7 fl_12_185 (sm_0) rfl ?_
  refine x_putI (pc := 10) g hM dX12_bad_10 fl_12_211 ft_12_16 (sm_0) rfl (fun m2 => ?_)
  refine x_iconst (pc := 13) g dX12_bad_13 ic_0 ?_
  exact x_zretc (pc := 14) g dX12_bad_14 rfl (Or.inl rfl) (fun _ h => h)
theorem c_M_bad (l : Launch) (G : xG) (hM : WM G) (m : xMem) (p0 : Int32) : xCim l G yX12_bad cX12_bad 2 (some .boolean) rm_M_bad [.ref (xad G 0), .int p0] m (M_bad m p0) :=
  xCt_of (own := RX12) (by decide) rfl (Nat.le_of_ble_eq_true rfl) rfl ⟨rfl, rfl⟩ (fun E g => T_M_bad hM g m p0)
theorem T_M_isWord {l : Launch} {G : xG} {E : xE} (hM : WM G) (g : xGood E l G.1 RX12 cX12_isWord yX12_isWord 3 (some .boolean) rm_M_isWord) (m : xMem) (p0 : Int64) : X E G (fun r : Int32 => (some (Value.int r), m)) 0 [(0, .ref (xad G 0)), (1, .long p0)] [] m (M_isWord m p0) := by
  unfold M_isWord
  refine x_aload_n (pc := 0) (i := 0) (a := 0) g dX12_isWord_0 rfl rfl ?_
  refine x_getI (pc := 1) g hM dX12_isWord_1 fl_12_191 (sm_0) rfl ?_
  refine x_iconst (pc := 4) g dX12_isWord_4 ic_1 ?_
  refine x_icmp_ne (pc := 5) (t := 21) g dX12_isWord_5 (by decide) ?_ ?_
  · refine x_aload_n (pc := 8) (i := 0) (a := 0) g dX12_isWord_8 rfl rfl ?_
    refine x_getL (pc := 9) g hM dX12_isWord_9 fl_12_204 (sm_0) rfl ?_
    refine x_lload_n (pc := 12) (i := 1) (a := 1) g dX12_isWord_12 rfl rfl ?_
    refine x_lcmp (pc := 13) g dX12_isWord_13 ?_
    refine x_if_ne (pc := 14) (t := 21) g dX12_isWord_14 (by decide) ?_ ?_
    · refine x_iconst (pc := 17) g dX12_isWord_17 ic_1 ?_
      refine x_goto (pc := 18) (t := 22) g dX12_isWord_18 (by decide) ?_
      exact x_zretc (pc := 22) g dX12_isWord_22 rfl (Or.inr rfl) (fun _ h => h)
    · refine x_iconst (pc := 21) g dX12_isWord_21 ic_0 ?_
      exact x_zretc (pc := 22) g dX12_isWord_22 rfl (Or.inl rfl) (fun _ h => h)
  · refine x_iconst (pc := 21) g dX12_isWord_21 ic_0 ?_
    exact x_zretc (pc := 22) g dX12_isWord_22 rfl (Or.inl rfl) (fun _ h => h)
theorem c_M_isWord (l : Launch) (G : xG) (hM : WM G) (m : xMem) (p0 : Int64) : xCi l G yX12_isWord cX12_isWord 3 (some .boolean) rm_M_isWord [.ref (xad G 0), .long p0] m (M_isWord m p0) :=
  xCt_of (own := RX12) (by decide) rfl (Nat.le_of_ble_eq_true rfl) rfl ⟨rfl, rfl⟩ (fun E g => T_M_isWord hM g m p0)
theorem T_M_isSign {l : Launch} {G : xG} {E : xE} (hM : WM G) (g : xGood E l G.1 RX12 cX12_isSign yX12_isSign 2 (some .boolean) rm_M_isSign) (m : xMem) (p0 : Int32) : X E G (fun r : Int32 => (some (Value.int r), m)) 0 [(0, .ref (xad G 0)), (1, .int p0)] [] m (M_isSign m p0) := by
  unfold M_isSign
  refine x_aload_n (pc := 0) (i := 0) (a := 0) g dX12_isSign_0 rfl rfl ?_
  refine x_getI (pc := 1) g hM dX12_isSign_1 fl_12_191 (sm_0) rfl ?_
  refine x_iconst (pc := 4) g dX12_isSign_4 ic_3 ?_
  refine x_icmp_ne (pc := 5) (t := 20) g dX12_isSign_5 (by decide) ?_ ?_
  · refine x_aload_n (pc := 8) (i := 0) (a := 0) g dX12_isSign_8 rfl rfl ?_
    refine x_getI (pc := 9) g hM dX12_isSign_9 fl_12_201 (sm_0) rfl ?_
    refine x_iload_n (pc := 12) (i := 1) (a := 1) g dX12_isSign_12 rfl rfl ?_
    refine x_icmp_ne (pc := 13) (t := 20) g dX12_isSign_13 (by decide) ?_ ?_
    · refine x_iconst (pc := 16) g dX12_isSign_16 ic_1 ?_
      refine x_goto (pc := 17) (t := 21) g dX12_isSign_17 (by decide) ?_
      exact x_zretc (pc := 21) g dX12_isSign_21 rfl (Or.inr rfl) (fun _ h => h)
    · refine x_iconst (pc := 20) g dX12_isSign_20 ic_0 ?_
      exact x_zretc (pc := 21) g dX12_isSign_21 rfl (Or.inl rfl) (fun _ h => h)
  · refine x_iconst (pc := 20) g dX12_isSign_20 ic_0 ?_
    exact x_zretc (pc := 21) g dX12_isSign_21 rfl (Or.inl rfl) (fun _ h => h)
theorem c_M_isSign (l : Launch) (G : xG) (hM : WM G) (m : xMem) (p0 : Int32) : xCi l G yX12_isSign cX12_isSign 2 (some .boolean) rm_M_isSign [.ref (xad G 0), .int p0] m (M_isSign m p0) :=
  xCt_of (own := RX12) (by decide) rfl (Nat.le_of_ble_eq_true rfl) rfl ⟨rfl, rfl⟩ (fun E g => T_M_isSign hM g m p0)
theorem T_M_sign {l : Launch} {G : xG} {E : xE} (hM : WM G) (g : xGood E l G.1 RX12 cX12_sign yX12_sign 2 (some .boolean) rm_M_sign) (m : xMem) (p0 : Int32) : X E G (fun r : Int32 × xMem => (some (Value.int r.1), r.2)) 0 [(0, .ref (xad G 0)), (1, .int p0)] [] m (M_sign m p0) := by
  unfold M_sign
  refine x_aload_n (pc := 0) (i := 0) (a := 0) g dX12_sign_0 rfl rfl ?_
  refine x_iload_n (pc := 1) (i := 1) (a := 1) g dX12_sign_1 rfl rfl ?_
  refine x_Vi (pc := 2) g hM [.int p0] [] (c_M_isSign l G hM m p0) dX12_sign_2 ml_12_214 (sm_0) rfl rfl (Nat.le_of_ble_eq_true rfl) ⟨rfl, rfl, Nat.le_of_ble_eq_true rfl, Nat.le_of_ble_eq_true rfl⟩ (fun r1 hr1 => ?_)
  refine x_if_ne (pc := 5) (t := 14) g dX12_sign_5 (by decide) ?_ ?_
  · refine x_aload_n (pc := 8) (i := 0) (a := 0) g dX12_sign_8 rfl rfl ?_
    refine x_iconst (pc := 9) g dX12_sign_9 ic_1 ?_
    refine x_Vim (pc := 10) g hM [.int 1] [] (c_M_bad l G hM m 1) dX12_sign_10 ml_12_217 (sm_0) rfl rfl (Nat.le_of_ble_eq_true rfl) ⟨rfl, rfl, Nat.le_of_ble_eq_true rfl, Nat.le_of_ble_eq_true rfl⟩ (fun r2 hr2 => ?_)
    exact x_zret (pc := 13) g dX12_sign_13 rfl (fun _ _ h => h)
  · refine x_aload_n (pc := 14) (i := 0) (a := 0) g dX12_sign_14 rfl rfl ?_
    refine x_Vv (pc := 15) g hM [] [] (c_M_go l G hM m) dX12_sign_15 ml_12_220 (sm_0) rfl rfl (Nat.le_of_ble_eq_true rfl) ⟨rfl, rfl, Nat.le_of_ble_eq_true rfl, Nat.le_of_ble_eq_true rfl⟩ (fun r3 hr3 => ?_)
    refine x_iconst (pc := 18) g dX12_sign_18 ic_1 ?_
    exact x_zretc (pc := 19) g dX12_sign_19 rfl (Or.inr rfl) (fun _ h => h)
theorem c_M_sign (l : Launch) (G : xG) (hM : WM G) (m : xMem) (p0 : Int32) : xCim l G yX12_sign cX12_sign 2 (some .boolean) rm_M_sign [.ref (xad G 0), .int p0] m (M_sign m p0) :=
  xCt_of (own := RX12) (by decide) rfl (Nat.le_of_ble_eq_true rfl) rfl ⟨rfl, rfl⟩ (fun E g => T_M_sign hM g m p0)
theorem T_M_isName_b16 {l : Launch} {G : xG} {E : xE} (hM : WM G) (g : xGood E l G.1 RX12 cX12_isName yX12_isName 3 (some .boolean) rm_M_isName) (m : xMem) : ∀ (n : Nat) (v1 : Int32) (v2 : Int32), X E G (fun r : Int32 => (some (Value.int r), m)) 16 [(0, .ref (xad G 0)), (1, .int v1), (2, .int v2)] [] m (M_isName_b16 m n v1 v2) := by
  intro n
  induction n with
  | zero => intro v1 v2; exact x_none
  | succ n ih =>
    intro v1 v2
    rw [M_isName_b16]
    refine x_iload_n (pc := 16) (i := 2) (a := 2) g dX12_isName_16 rfl rfl ?_
    refine x_bipush (pc := 17) g dX12_isName_17 bi_32 ?_
    refine x_icmp_ge (pc := 19) (t := 52) g dX12_isName_19 (by decide) ?_ ?_
    · refine x_iload_n (pc := 22) (i := 1) (a := 1) g dX12_isName_22 rfl rfl ?_
      refine x_if_eq (pc := 23) (t := 44) g dX12_isName_23 (by decide) ?_ ?_
      · refine x_iconst (pc := 44) g dX12_isName_44 ic_0 ?_
        refine x_istore_n (pc := 45) (i := 1) (lv' := [(1, .int 0), (0, .ref (xad G 0)), (2, .int v2)]) g dX12_isName_45 rfl (by decide) rfl ?_
        refine x_iinc (pc := 46) (a := 2) (lv' := [(2, .int (v2 + 1)), (1, .int 0), (0, .ref (xad G 0))]) g dX12_isName_46 ic_1 rfl (by decide) rfl ?_
        refine x_goto (pc := 49) (t := 16) g dX12_isName_49 (by decide) ?_
        exact x_sub [2, 1, 0] (ih 0 (v2 + 1)) rfl
      · refine x_aload_n (pc := 26) (i := 0) (a := 0) g dX12_isName_26 rfl rfl ?_
        refine x_getL (pc := 27) g hM dX12_isName_27 fl_12_204 (sm_0) rfl ?_
        refine x_aload_n (pc := 30) (i := 0) (a := 0) g dX12_isName_30 rfl rfl ?_
        refine x_getR (pc := 31) (x := 6) g hM dX12_isName_31 fl_12_47 (sm_0) rfl ?_
        refine x_iload_n (pc := 34) (i := 2) (a := 2) g dX12_isName_34 rfl rfl ?_
        refine x_lald (pc := 35) g hM dX12_isName_35 (sm_6) (fun j1 hj1 => ?_)
        refine x_lcmp (pc := 36) g dX12_isName_36 ?_
        refine x_if_eq (pc := 37) (t := 44) g dX12_isName_37 (by decide) ?_ ?_
        · refine x_iconst (pc := 44) g dX12_isName_44 ic_0 ?_
          refine x_istore_n (pc := 45) (i := 1) (lv' := [(1, .int 0), (0, .ref (xad G 0)), (2, .int v2)]) g dX12_isName_45 rfl (by decide) rfl ?_
          refine x_iinc (pc := 46) (a := 2) (lv' := [(2, .int (v2 + 1)), (1, .int 0), (0, .ref (xad G 0))]) g dX12_isName_46 ic_1 rfl (by decide) rfl ?_
          refine x_goto (pc := 49) (t := 16) g dX12_isName_49 (by decide) ?_
          exact x_sub [2, 1, 0] (ih 0 (v2 + 1)) rfl
        · refine x_iconst (pc := 40) g dX12_isName_40 ic_1 ?_
          refine x_goto (pc := 41) (t := 45) g dX12_isName_41 (by decide) ?_
          refine x_istore_n (pc := 45) (i := 1) (lv' := [(1, .int 1), (0, .ref (xad G 0)), (2, .int v2)]) g dX12_isName_45 rfl (by decide) rfl ?_
          refine x_iinc (pc := 46) (a := 2) (lv' := [(2, .int (v2 + 1)), (1, .int 1), (0, .ref (xad G 0))]) g dX12_isName_46 ic_1 rfl (by decide) rfl ?_
          refine x_goto (pc := 49) (t := 16) g dX12_isName_49 (by decide) ?_
          exact x_sub [2, 1, 0] (ih 1 (v2 + 1)) rfl
    · refine x_iload_n (pc := 52) (i := 1) (a := 1) g dX12_isName_52 rfl rfl ?_
      exact x_zret (pc := 53) g dX12_isName_53 rfl (fun _ _ h => h)
theorem T_M_isName {l : Launch} {G : xG} {E : xE} (hM : WM G) (g : xGood E l G.1 RX12 cX12_isName yX12_isName 3 (some .boolean) rm_M_isName) (m : xMem) : X E G (fun r : Int32 => (some (Value.int r), m)) 0 [(0, .ref (xad G 0))] [] m (M_isName m) := by
  unfold M_isName
  refine x_aload_n (pc := 0) (i := 0) (a := 0) g dX12_isName_0 rfl rfl ?_
  refine x_getI (pc := 1) g hM dX12_isName_1 fl_12_191 (sm_0) rfl ?_
  refine x_iconst (pc := 4) g dX12_isName_4 ic_1 ?_
  refine x_icmp_ne (pc := 5) (t := 12) g dX12_isName_5 (by decide) ?_ ?_
  · refine x_iconst (pc := 8) g dX12_isName_8 ic_1 ?_
    refine x_goto (pc := 9) (t := 13) g dX12_isName_9 (by decide) ?_
    refine x_istore_n (pc := 13) (i := 1) (lv' := [(1, .int 1), (0, .ref (xad G 0))]) g dX12_isName_13 rfl (by decide) rfl ?_
    refine x_iconst (pc := 14) g dX12_isName_14 ic_0 ?_
    refine x_istore_n (pc := 15) (i := 2) (lv' := [(2, .int 0), (1, .int 1), (0, .ref (xad G 0))]) g dX12_isName_15 rfl (by decide) rfl ?_
    exact x_sub [2, 1, 0] (T_M_isName_b16 hM g m 1000 1 0) rfl
  · refine x_iconst (pc := 12) g dX12_isName_12 ic_0 ?_
    refine x_istore_n (pc := 13) (i := 1) (lv' := [(1, .int 0), (0, .ref (xad G 0))]) g dX12_isName_13 rfl (by decide) rfl ?_
    refine x_iconst (pc := 14) g dX12_isName_14 ic_0 ?_
    refine x_istore_n (pc := 15) (i := 2) (lv' := [(2, .int 0), (1, .int 0), (0, .ref (xad G 0))]) g dX12_isName_15 rfl (by decide) rfl ?_
    exact x_sub [2, 1, 0] (T_M_isName_b16 hM g m 1000 0 0) rfl
theorem c_M_isName (l : Launch) (G : xG) (hM : WM G) (m : xMem) : xCi l G yX12_isName cX12_isName 3 (some .boolean) rm_M_isName [.ref (xad G 0)] m (M_isName m) :=
  xCt_of (own := RX12) (by decide) rfl (Nat.le_of_ble_eq_true rfl) rfl ⟨rfl, rfl⟩ (fun E g => T_M_isName hM g m)
theorem T_M_takes {l : Launch} {G : xG} {E : xE} (hM : WM G) (g : xGood E l G.1 RX12 cX12_takes yX12_takes 3 (some .boolean) rm_M_takes) (m : xMem) (p0 : Int32) (p1 : Int32) : X E G (fun r : Int32 × xMem => (some (Value.int r.1), r.2)) 0 [(0, .ref (xad G 0)), (1, .int p0), (2, .int p1)] [] m (M_takes m p0 p1) := by
  unfold M_takes
  refine x_aload_n (pc := 0) (i := 0) (a := 0) g dX12_takes_0 rfl rfl ?_
  refine x_getI (pc := 1) g hM dX12_takes_1 fl_12_191 (sm_0) rfl ?_
  refine x_iconst (pc := 4) g dX12_takes_4 ic_2 ?_
  refine x_icmp_eq (pc := 5) (t := 14) g dX12_takes_5 (by decide) ?_ ?_
  · refine x_aload_n (pc := 14) (i := 0) (a := 0) g dX12_takes_14 rfl rfl ?_
    refine x_getI (pc := 15) g hM dX12_takes_15 fl_12_201 (sm_0) rfl ?_
    refine x_iload_n (pc := 18) (i := 1) (a := 1) g dX12_takes_18 rfl rfl ?_
    refine x_iload_n (pc := 19) (i := 2) (a := 2) g dX12_takes_19 rfl rfl ?_
    refine x_Si (pc := 20) g [.int (m.1 0 14), .int p0, .int p1] [] (c_M_isIn l G hM m (m.1 0 14) p0 p1) dX12_takes_20 ms_12_223 rfl rfl (Nat.le_of_ble_eq_true rfl) ⟨rfl, rfl, Nat.le_of_ble_eq_true rfl, Nat.le_of_ble_eq_true rfl⟩ (fun r1 hr1 => ?_)
    refine x_if_ne (pc := 23) (t := 32) g dX12_takes_23 (by decide) ?_ ?_
    · refine x_aload_n (pc := 26) (i := 0) (a := 0) g dX12_takes_26 rfl rfl ?_
      refine x_iconst (pc := 27) g dX12_takes_27 ic_2 ?_
      refine x_Vim (pc := 28) g hM [.int 2] [] (c_M_bad l G hM m 2) dX12_takes_28 ml_12_217 (sm_0) rfl rfl (Nat.le_of_ble_eq_true rfl) ⟨rfl, rfl, Nat.le_of_ble_eq_true rfl, Nat.le_of_ble_eq_true rfl⟩ (fun r2 hr2 => ?_)
      exact x_zret (pc := 31) g dX12_takes_31 rfl (fun _ _ h => h)
    · refine x_aload_n (pc := 32) (i := 0) (a := 0) g dX12_takes_32 rfl rfl ?_
      refine x_aload_n (pc := 33) (i := 0) (a := 0) g dX12_takes_33 rfl rfl ?_
      refine x_getI (pc := 34) g hM dX12_takes_34 fl_12_201 (sm_0) rfl ?_
      refine x_putI (pc := 37) g hM dX12_takes_37 fl_12_227 ft_12_18 (sm_0) rfl (fun m3 => ?_)
      refine x_aload_n (pc := 40) (i := 0) (a := 0) g dX12_takes_40 rfl rfl ?_
      refine x_Vv (pc := 41) g hM [] [] (c_M_go l G hM m3) dX12_takes_41 ml_12_220 (sm_0) rfl rfl (Nat.le_of_ble_eq_true rfl) ⟨rfl, rfl, Nat.le_of_ble_eq_true rfl, Nat.le_of_ble_eq_true rfl⟩ (fun r4 hr4 => ?_)
      refine x_iconst (pc := 44) g dX12_takes_44 ic_1 ?_
      exact x_zretc (pc := 45) g dX12_takes_45 rfl (Or.inr rfl) (fun _ h => h)
  · refine x_aload_n (pc := 8) (i := 0) (a := 0) g dX12_takes_8 rfl rfl ?_
    refine x_iconst (pc := 9) g dX12_takes_9 ic_1 ?_
    refine x_Vim (pc := 10) g hM [.int 1] [] (c_M_bad l G hM m 1) dX12_takes_10 ml_12_217 (sm_0) rfl rfl (Nat.le_of_ble_eq_true rfl) ⟨rfl, rfl, Nat.le_of_ble_eq_true rfl, Nat.le_of_ble_eq_true rfl⟩ (fun r5 hr5 => ?_)
    exact x_zret (pc := 13) g dX12_takes_13 rfl (fun _ _ h => h)
theorem c_M_takes (l : Launch) (G : xG) (hM : WM G) (m : xMem) (p0 : Int32) (p1 : Int32) : xCim l G yX12_takes cX12_takes 3 (some .boolean) rm_M_takes [.ref (xad G 0), .int p0, .int p1] m (M_takes m p0 p1) :=
  xCt_of (own := RX12) (by decide) rfl (Nat.le_of_ble_eq_true rfl) rfl ⟨rfl, rfl⟩ (fun E g => T_M_takes hM g m p0 p1)
theorem T_M_puts {l : Launch} {G : xG} {E : xE} (hM : WM G) (g : xGood E l G.1 RX12 cX12_puts yX12_puts 4 (some .boolean) rm_M_puts) (m : xMem) (p0 : Int32) (p1 : Int32) (p2 : Int32) : X E G (fun r : Int32 × xMem => (some (Value.int r.1), r.2)) 0 [(0, .ref (xad G 0)), (1, .int p0), (2, .int p1), (3, .int p2)] [] m (M_puts m p0 p1 p2) := by
  unfold M_puts
  refine x_aload_n (pc := 0) (i := 0) (a := 0) g dX12_puts_0 rfl rfl ?_
  refine x_iload_n (pc := 1) (i := 2) (a := 2) g dX12_puts_1 rfl rfl ?_
  refine x_iload_n (pc := 2) (i := 3) (a := 3) g dX12_puts_2 rfl rfl ?_
  refine x_Vim (pc := 3) g hM [.int p1, .int p2] [] (c_M_takes l G hM m p1 p2) dX12_puts_3 ml_12_230 (sm_0) rfl rfl (Nat.le_of_ble_eq_true rfl) ⟨rfl, rfl, Nat.le_of_ble_eq_true rfl, Nat.le_of_ble_eq_true rfl⟩ (fun r1 hr1 => ?_)
  refine x_if_ne (pc := 6) (t := 11) g dX12_puts_6 (by decide) ?_ ?_
  · refine x_iconst (pc := 9) g dX12_puts_9 ic_0 ?_
    exact x_zretc (pc := 10) g dX12_puts_10 rfl (Or.inl rfl) (fun _ h => h)
  · refine x_aload_n (pc := 11) (i := 0) (a := 0) g dX12_puts_11 rfl rfl ?_
    refine x_getR (pc := 12) (x := 3) g hM dX12_puts_12 fl_12_37 (sm_0) rfl ?_
    refine x_iload_n (pc := 15) (i := 1) (a := 1) g dX12_puts_15 rfl rfl ?_
    refine x_aload_n (pc := 16) (i := 0) (a := 0) g dX12_puts_16 rfl rfl ?_
    refine x_getI (pc := 17) g hM dX12_puts_17 fl_12_227 (sm_0) rfl ?_
    refine x_iast (pc := 20) g hM dX12_puts_20 (sm_3) (fun j3 hj3 m2 => ?_)
    refine x_iconst (pc := 21) g dX12_puts_21 ic_1 ?_
    exact x_zretc (pc := 22) g dX12_puts_22 rfl (Or.inr rfl) (fun _ h => h)
theorem c_M_puts (l : Launch) (G : xG) (hM : WM G) (m : xMem) (p0 : Int32) (p1 : Int32) (p2 : Int32) : xCim l G yX12_puts cX12_puts 4 (some .boolean) rm_M_puts [.ref (xad G 0), .int p0, .int p1, .int p2] m (M_puts m p0 p1 p2) :=
  xCt_of (own := RX12) (by decide) rfl (Nat.le_of_ble_eq_true rfl) rfl ⟨rfl, rfl⟩ (fun E g => T_M_puts hM g m p0 p1 p2)
theorem T_M_isOneOf_b45 {l : Launch} {G : xG} {E : xE} (hM : WM G) (g : xGood E l G.1 RX12 cX12_isOneOf yX12_isOneOf 3 (some .boolean) rm_M_isOneOf) (p0 : Int32) (k7 : Int32 → xMem → Option (Int32 × xMem)) (hk7 : ∀ (v2 : Int32) (m : xMem), X E G (fun r : Int32 × xMem => (some (Value.int r.1), r.2)) 7 [(0, .ref (xad G 0)), (1, .int p0), (2, .int v2)] [] m (k7 v2 m)) (v2 : Int32) (s0 : Int32) (m : xMem) : X E G (fun r : Int32 × xMem => (some (Value.int r.1), r.2)) 45 [(0, .ref (xad G 0)), (1, .int p0), (2, .int v2)] [.int s0, .ref (xad G 0)] m (M_isOneOf_b45 p0 k7 v2 s0 m) := by
  unfold M_isOneOf_b45
  refine x_putI (pc := 45) g hM dX12_isOneOf_45 fl_12_227 ft_12_18 (sm_0) rfl (fun m4 => ?_)
  refine x_iinc (pc := 48) (a := 2) (lv' := [(2, .int (v2 + 1)), (0, .ref (xad G 0)), (1, .int p0)]) g dX12_isOneOf_48 ic_1 rfl (by decide) rfl ?_
  refine x_goto (pc := 51) (t := 7) g dX12_isOneOf_51 (by decide) ?_
  exact x_sub [1, 2, 0] (hk7 (v2 + 1) m4) rfl
theorem T_M_isOneOf_b7 {l : Launch} {G : xG} {E : xE} (hM : WM G) (g : xGood E l G.1 RX12 cX12_isOneOf yX12_isOneOf 3 (some .boolean) rm_M_isOneOf) (p0 : Int32) : ∀ (n : Nat) (v2 : Int32) (m : xMem), X E G (fun r : Int32 × xMem => (some (Value.int r.1), r.2)) 7 [(0, .ref (xad G 0)), (1, .int p0), (2, .int v2)] [] m (M_isOneOf_b7 p0 n v2 m) := by
  intro n
  induction n with
  | zero => intro v2 m; exact x_none
  | succ n ih =>
    intro v2 m
    rw [M_isOneOf_b7]
    refine x_iload_n (pc := 7) (i := 2) (a := 2) g dX12_isOneOf_7 rfl rfl ?_
    refine x_iconst (pc := 8) g dX12_isOneOf_8 ic_4 ?_
    refine x_icmp_ge (pc := 9) (t := 54) g dX12_isOneOf_9 (by decide) ?_ ?_
    · refine x_aload_n (pc := 12) (i := 0) (a := 0) g dX12_isOneOf_12 rfl rfl ?_
      refine x_aload_n (pc := 13) (i := 0) (a := 0) g dX12_isOneOf_13 rfl rfl ?_
      refine x_getI (pc := 14) g hM dX12_isOneOf_14 fl_12_191 (sm_0) rfl ?_
      refine x_iconst (pc := 17) g dX12_isOneOf_17 ic_1 ?_
      refine x_icmp_ne (pc := 18) (t := 41) g dX12_isOneOf_18 (by decide) ?_ ?_
      · refine x_aload_n (pc := 21) (i := 0) (a := 0) g dX12_isOneOf_21 rfl rfl ?_
        refine x_getL (pc := 22) g hM dX12_isOneOf_22 fl_12_204 (sm_0) rfl ?_
        refine x_aload_n (pc := 25) (i := 0) (a := 0) g dX12_isOneOf_25 rfl rfl ?_
        refine x_getR (pc := 26) (x := 6) g hM dX12_isOneOf_26 fl_12_47 (sm_0) rfl ?_
        refine x_iload_n (pc := 29) (i := 1) (a := 1) g dX12_isOneOf_29 rfl rfl ?_
        refine x_iload_n (pc := 30) (i := 2) (a := 2) g dX12_isOneOf_30 rfl rfl ?_
        refine x_iadd (pc := 31) g dX12_isOneOf_31 ?_
        refine x_lald (pc := 32) g hM dX12_isOneOf_32 (sm_6) (fun j2 hj2 => ?_)
        refine x_lcmp (pc := 33) g dX12_isOneOf_33 ?_
        refine x_if_ne (pc := 34) (t := 41) g dX12_isOneOf_34 (by decide) ?_ ?_
        · refine x_iload_n (pc := 37) (i := 2) (a := 2) g dX12_isOneOf_37 rfl rfl ?_
          refine x_goto (pc := 38) (t := 45) g dX12_isOneOf_38 (by decide) ?_
          exact x_sub [0, 1, 2] (T_M_isOneOf_b45 hM g p0 (M_isOneOf_b7 p0 n) ih v2 v2 m) rfl
        · refine x_aload_n (pc := 41) (i := 0) (a := 0) g dX12_isOneOf_41 rfl rfl ?_
          refine x_getI (pc := 42) g hM dX12_isOneOf_42 fl_12_227 (sm_0) rfl ?_
          exact x_sub [0, 1, 2] (T_M_isOneOf_b45 hM g p0 (M_isOneOf_b7 p0 n) ih v2 (m.1 0 18) m) rfl
      · refine x_aload_n (pc := 41) (i := 0) (a := 0) g dX12_isOneOf_41 rfl rfl ?_
        refine x_getI (pc := 42) g hM dX12_isOneOf_42 fl_12_227 (sm_0) rfl ?_
        exact x_sub [0, 1, 2] (T_M_isOneOf_b45 hM g p0 (M_isOneOf_b7 p0 n) ih v2 (m.1 0 18) m) rfl
    · refine x_aload_n (pc := 54) (i := 0) (a := 0) g dX12_isOneOf_54 rfl rfl ?_
      refine x_getI (pc := 55) g hM dX12_isOneOf_55 fl_12_227 (sm_0) rfl ?_
      refine x_if_ge (pc := 58) (t := 69) g dX12_isOneOf_58 (by decide) ?_ ?_
      · refine x_aload_n (pc := 61) (i := 0) (a := 0) g dX12_isOneOf_61 rfl rfl ?_
        refine x_iconst (pc := 62) g dX12_isOneOf_62 ic_1 ?_
        refine x_Vim (pc := 63) g hM [.int 1] [] (c_M_bad l G hM m 1) dX12_isOneOf_63 ml_12_217 (sm_0) rfl rfl (Nat.le_of_ble_eq_true rfl) ⟨rfl, rfl, Nat.le_of_ble_eq_true rfl, Nat.le_of_ble_eq_true rfl⟩ (fun r3 hr3 => ?_)
        refine x_if_eq (pc := 66) (t := 73) g dX12_isOneOf_66 (by decide) ?_ ?_
        · refine x_iconst (pc := 73) g dX12_isOneOf_73 ic_0 ?_
          exact x_zretc (pc := 74) g dX12_isOneOf_74 rfl (Or.inl rfl) (fun _ h => h)
        · refine x_iconst (pc := 69) g dX12_isOneOf_69 ic_1 ?_
          refine x_goto (pc := 70) (t := 74) g dX12_isOneOf_70 (by decide) ?_
          exact x_zretc (pc := 74) g dX12_isOneOf_74 rfl (Or.inr rfl) (fun _ h => h)
      · refine x_iconst (pc := 69) g dX12_isOneOf_69 ic_1 ?_
        refine x_goto (pc := 70) (t := 74) g dX12_isOneOf_70 (by decide) ?_
        exact x_zretc (pc := 74) g dX12_isOneOf_74 rfl (Or.inr rfl) (fun _ h => h)
theorem T_M_isOneOf {l : Launch} {G : xG} {E : xE} (hM : WM G) (g : xGood E l G.1 RX12 cX12_isOneOf yX12_isOneOf 3 (some .boolean) rm_M_isOneOf) (m : xMem) (p0 : Int32) : X E G (fun r : Int32 × xMem => (some (Value.int r.1), r.2)) 0 [(0, .ref (xad G 0)), (1, .int p0)] [] m (M_isOneOf m p0) := by
  unfold M_isOneOf
  refine x_aload_n (pc := 0) (i := 0) (a := 0) g dX12_isOneOf_0 rfl rfl ?_
  refine x_iconst (pc := 1) g dX12_isOneOf_1 ic_m1 ?_
  refine x_putI (pc := 2) g hM dX12_isOneOf_2 fl_12_227 ft_12_18 (sm_0) rfl (fun m1 => ?_)
  refine x_iconst (pc := 5) g dX12_isOneOf_5 ic_0 ?_
  refine x_istore_n (pc := 6) (i := 2) (lv' := [(2, .int 0), (0, .ref (xad G 0)), (1, .int p0)]) g dX12_isOneOf_6 rfl (by decide) rfl ?_
  exact x_sub [1, 2, 0] (T_M_isOneOf_b7 hM g p0 1000 0 m1) rfl
theorem c_M_isOneOf (l : Launch) (G : xG) (hM : WM G) (m : xMem) (p0 : Int32) : xCim l G yX12_isOneOf cX12_isOneOf 3 (some .boolean) rm_M_isOneOf [.ref (xad G 0), .int p0] m (M_isOneOf m p0) :=
  xCt_of (own := RX12) (by decide) rfl (Nat.le_of_ble_eq_true rfl) rfl ⟨rfl, rfl⟩ (fun E g => T_M_isOneOf hM g m p0)
theorem T_M_isKind {l : Launch} {G : xG} {E : xE} (hM : WM G) (g : xGood E l G.1 RX12 cX12_isKind yX12_isKind 1 (some .boolean) rm_M_isKind) (m : xMem) : X E G (fun r : Int32 × xMem => (some (Value.int r.1), r.2)) 0 [(0, .ref (xad G 0))] [] m (M_isKind m) := by
  unfold M_isKind
  refine x_aload_n (pc := 0) (i := 0) (a := 0) g dX12_isKind_0 rfl rfl ?_
  refine x_bipush (pc := 1) g dX12_isKind_1 bi_8 ?_
  refine x_Vim (pc := 3) g hM [.int 8] [] (c_M_isOneOf l G hM m 8) dX12_isKind_3 ml_12_234 (sm_0) rfl rfl (Nat.le_of_ble_eq_true rfl) ⟨rfl, rfl, Nat.le_of_ble_eq_true rfl, Nat.le_of_ble_eq_true rfl⟩ (fun r1 hr1 => ?_)
  exact x_zret (pc := 6) g dX12_isKind_6 rfl (fun _ _ h => h)
theorem c_M_isKind (l : Launch) (G : xG) (hM : WM G) (m : xMem) : xCim l G yX12_isKind cX12_isKind 1 (some .boolean) rm_M_isKind [.ref (xad G 0)] m (M_isKind m) :=
  xCt_of (own := RX12) (by decide) rfl (Nat.le_of_ble_eq_true rfl) rfl ⟨rfl, rfl⟩ (fun E g => T_M_isKind hM g m)
theorem T_M_isSide {l : Launch} {G : xG} {E : xE} (hM : WM G) (g : xGood E l G.1 RX12 cX12_isSide yX12_isSide 1 (some .boolean) rm_M_isSide) (m : xMem) : X E G (fun r : Int32 × xMem => (some (Value.int r.1), r.2)) 0 [(0, .ref (xad G 0))] [] m (M_isSide m) := by
  unfold M_isSide
  refine x_aload_n (pc := 0) (i := 0) (a := 0) g dX12_isSide_0 rfl rfl ?_
  refine x_bipush (pc := 1) g dX12_isSide_1 bi_12 ?_
  refine x_Vim (pc := 3) g hM [.int 12] [] (c_M_isOneOf l G hM m 12) dX12_isSide_3 ml_12_234 (sm_0) rfl rfl (Nat.le_of_ble_eq_true rfl) ⟨rfl, rfl, Nat.le_of_ble_eq_true rfl, Nat.le_of_ble_eq_true rfl⟩ (fun r1 hr1 => ?_)
  exact x_zret (pc := 6) g dX12_isSide_6 rfl (fun _ _ h => h)
theorem c_M_isSide (l : Launch) (G : xG) (hM : WM G) (m : xMem) : xCim l G yX12_isSide cX12_isSide 1 (some .boolean) rm_M_isSide [.ref (xad G 0)] m (M_isSide m) :=
  xCt_of (own := RX12) (by decide) rfl (Nat.le_of_ble_eq_true rfl) rfl ⟨rfl, rfl⟩ (fun E g => T_M_isSide hM g m)
theorem T_M_find_b2 {l : Launch} {G : xG} {E : xE} (hM : WM G) (g : xGood E l G.1 RX12 cX12_find yX12_find 4 (some .int) rm_M_find) (m : xMem) (p0 : Int32) (p1 : Int32) : ∀ (n : Nat) (v3 : Int32), X E G (fun r : Int32 => (some (Value.int r), m)) 2 [(0, .ref (xad G 0)), (1, .int p0), (2, .int p1), (3, .int v3)] [] m (M_find_b2 m p0 p1 n v3) := by
  intro n
  induction n with
  | zero => intro v3; exact x_none
  | succ n ih =>
    intro v3
    rw [M_find_b2]
    refine x_iload_n (pc := 2) (i := 3) (a := 3) g dX12_find_2 rfl rfl ?_
    refine x_iload_n (pc := 3) (i := 2) (a := 2) g dX12_find_3 rfl rfl ?_
    refine x_icmp_ge (pc := 4) (t := 31) g dX12_find_4 (by decide) ?_ ?_
    · refine x_aload_n (pc := 7) (i := 0) (a := 0) g dX12_find_7 rfl rfl ?_
      refine x_getR (pc := 8) (x := 5) g hM dX12_find_8 fl_12_43 (sm_0) rfl ?_
      refine x_iload_n (pc := 11) (i := 1) (a := 1) g dX12_find_11 rfl rfl ?_
      refine x_iload_n (pc := 12) (i := 3) (a := 3) g dX12_find_12 rfl rfl ?_
      refine x_iadd (pc := 13) g dX12_find_13 ?_
      refine x_lald (pc := 14) g hM dX12_find_14 (sm_5) (fun j1 hj1 => ?_)
      refine x_aload_n (pc := 15) (i := 0) (a := 0) g dX12_find_15 rfl rfl ?_
      refine x_getL (pc := 16) g hM dX12_find_16 fl_12_204 (sm_0) rfl ?_
      refine x_lcmp (pc := 19) g dX12_find_19 ?_
      refine x_if_ne (pc := 20) (t := 25) g dX12_find_20 (by decide) ?_ ?_
      · refine x_iload_n (pc := 23) (i := 3) (a := 3) g dX12_find_23 rfl rfl ?_
        exact x_iret (pc := 24) g dX12_find_24 rfl (fun _ h => h)
      · refine x_iinc (pc := 25) (a := 3) (lv' := [(3, .int (v3 + 1)), (0, .ref (xad G 0)), (1, .int p0), (2, .int p1)]) g dX12_find_25 ic_1 rfl (by decide) rfl ?_
        refine x_goto (pc := 28) (t := 2) g dX12_find_28 (by decide) ?_
        exact x_sub [1, 2, 3, 0] (ih (v3 + 1)) rfl
    · refine x_iconst (pc := 31) g dX12_find_31 ic_m1 ?_
      exact x_iret (pc := 32) g dX12_find_32 rfl (fun _ h => h)
theorem T_M_find {l : Launch} {G : xG} {E : xE} (hM : WM G) (g : xGood E l G.1 RX12 cX12_find yX12_find 4 (some .int) rm_M_find) (m : xMem) (p0 : Int32) (p1 : Int32) : X E G (fun r : Int32 => (some (Value.int r), m)) 0 [(0, .ref (xad G 0)), (1, .int p0), (2, .int p1)] [] m (M_find m p0 p1) := by
  unfold M_find
  refine x_iconst (pc := 0) g dX12_find_0 ic_0 ?_
  refine x_istore_n (pc := 1) (i := 3) (lv' := [(3, .int 0), (0, .ref (xad G 0)), (1, .int p0), (2, .int p1)]) g dX12_find_1 rfl (by decide) rfl ?_
  exact x_sub [1, 2, 3, 0] (T_M_find_b2 hM g m p0 p1 1000 0) rfl
theorem c_M_find (l : Launch) (G : xG) (hM : WM G) (m : xMem) (p0 : Int32) (p1 : Int32) : xCi l G yX12_find cX12_find 4 (some .int) rm_M_find [.ref (xad G 0), .int p0, .int p1] m (M_find m p0 p1) :=
  xCt_of (own := RX12) (by decide) rfl (Nat.le_of_ble_eq_true rfl) rfl ⟨rfl, rfl⟩ (fun E g => T_M_find hM g m p0 p1)
theorem T_M_fresh_b58 {l : Launch} {G : xG} {E : xE} (hM : WM G) (g : xGood E l G.1 RX12 cX12_fresh yX12_fresh 2 (some .boolean) rm_M_fresh) (p0 : Int32) (m : xMem) : X E G (fun r : Int32 × xMem => (some (Value.int r.1), r.2)) 58 [(0, .ref (xad G 0))] [] m (M_fresh_b58 p0 m) := by
  unfold M_fresh_b58
  refine x_aload_n (pc := 58) (i := 0) (a := 0) g dX12_fresh_58 rfl rfl ?_
  refine x_iconst (pc := 59) g dX12_fresh_59 ic_3 ?_
  refine x_Vim (pc := 60) g hM [.int 3] [] (c_M_bad l G hM m 3) dX12_fresh_60 ml_12_217 (sm_0) rfl rfl (Nat.le_of_ble_eq_true rfl) ⟨rfl, rfl, Nat.le_of_ble_eq_true rfl, Nat.le_of_ble_eq_true rfl⟩ (fun r9 hr9 => ?_)
  exact x_zret (pc := 63) g dX12_fresh_63 rfl (fun _ _ h => h)
theorem T_M_fresh {l : Launch} {G : xG} {E : xE} (hM : WM G) (g : xGood E l G.1 RX12 cX12_fresh yX12_fresh 2 (some .boolean) rm_M_fresh) (m : xMem) (p0 : Int32) : X E G (fun r : Int32 × xMem => (some (Value.int r.1), r.2)) 0 [(0, .ref (xad G 0)), (1, .int p0)] [] m (M_fresh m p0) := by
  unfold M_fresh
  refine x_aload_n (pc := 0) (i := 0) (a := 0) g dX12_fresh_0 rfl rfl ?_
  refine x_Vi (pc := 1) g hM [] [] (c_M_isName l G hM m) dX12_fresh_1 ml_12_237 (sm_0) rfl rfl (Nat.le_of_ble_eq_true rfl) ⟨rfl, rfl, Nat.le_of_ble_eq_true rfl, Nat.le_of_ble_eq_true rfl⟩ (fun r1 hr1 => ?_)
  refine x_if_ne (pc := 4) (t := 13) g dX12_fresh_4 (by decide) ?_ ?_
  · refine x_aload_n (pc := 7) (i := 0) (a := 0) g dX12_fresh_7 rfl rfl ?_
    refine x_iconst (pc := 8) g dX12_fresh_8 ic_1 ?_
    refine x_Vim (pc := 9) g hM [.int 1] [] (c_M_bad l G hM m 1) dX12_fresh_9 ml_12_217 (sm_0) rfl rfl (Nat.le_of_ble_eq_true rfl) ⟨rfl, rfl, Nat.le_of_ble_eq_true rfl, Nat.le_of_ble_eq_true rfl⟩ (fun r2 hr2 => ?_)
    exact x_zret (pc := 12) g dX12_fresh_12 rfl (fun _ _ h => h)
  · refine x_aload_n (pc := 13) (i := 0) (a := 0) g dX12_fresh_13 rfl rfl ?_
    refine x_bipush (pc := 14) g dX12_fresh_14 bi_20 ?_
    refine x_aload_n (pc := 16) (i := 0) (a := 0) g dX12_fresh_16 rfl rfl ?_
    refine x_getR (pc := 17) (x := 3) g hM dX12_fresh_17 fl_12_37 (sm_0) rfl ?_
    refine x_iconst (pc := 20) g dX12_fresh_20 ic_0 ?_
    refine x_ialdc (pc := 21) g hM dX12_fresh_21 (sm_3) ix_0_97 ?_
    refine x_Vi (pc := 22) g hM [.int 20, .int (m.1 3 0)] [] (c_M_find l G hM m 20 (m.1 3 0)) dX12_fresh_22 ml_12_241 (sm_0) rfl rfl (Nat.le_of_ble_eq_true rfl) ⟨rfl, rfl, Nat.le_of_ble_eq_true rfl, Nat.le_of_ble_eq_true rfl⟩ (fun r3 hr3 => ?_)
    refine x_if_ge (pc := 25) (t := 58) g dX12_fresh_25 (by decide) ?_ ?_
    · refine x_aload_n (pc := 28) (i := 0) (a := 0) g dX12_fresh_28 rfl rfl ?_
      refine x_bipush (pc := 29) g dX12_fresh_29 bi_26 ?_
      refine x_aload_n (pc := 31) (i := 0) (a := 0) g dX12_fresh_31 rfl rfl ?_
      refine x_getR (pc := 32) (x := 3) g hM dX12_fresh_32 fl_12_37 (sm_0) rfl ?_
      refine x_iconst (pc := 35) g dX12_fresh_35 ic_1 ?_
      refine x_ialdc (pc := 36) g hM dX12_fresh_36 (sm_3) ix_1_97 ?_
      refine x_Vi (pc := 37) g hM [.int 26, .int (m.1 3 1)] [] (c_M_find l G hM m 26 (m.1 3 1)) dX12_fresh_37 ml_12_241 (sm_0) rfl rfl (Nat.le_of_ble_eq_true rfl) ⟨rfl, rfl, Nat.le_of_ble_eq_true rfl, Nat.le_of_ble_eq_true rfl⟩ (fun r4 hr4 => ?_)
      refine x_if_ge (pc := 40) (t := 58) g dX12_fresh_40 (by decide) ?_ ?_
      · refine x_aload_n (pc := 43) (i := 0) (a := 0) g dX12_fresh_43 rfl rfl ?_
        refine x_bipush (pc := 44) g dX12_fresh_44 bi_32 ?_
        refine x_aload_n (pc := 46) (i := 0) (a := 0) g dX12_fresh_46 rfl rfl ?_
        refine x_getR (pc := 47) (x := 3) g hM dX12_fresh_47 fl_12_37 (sm_0) rfl ?_
        refine x_iconst (pc := 50) g dX12_fresh_50 ic_2 ?_
        refine x_ialdc (pc := 51) g hM dX12_fresh_51 (sm_3) ix_2_97 ?_
        refine x_Vi (pc := 52) g hM [.int 32, .int (m.1 3 2)] [] (c_M_find l G hM m 32 (m.1 3 2)) dX12_fresh_52 ml_12_241 (sm_0) rfl rfl (Nat.le_of_ble_eq_true rfl) ⟨rfl, rfl, Nat.le_of_ble_eq_true rfl, Nat.le_of_ble_eq_true rfl⟩ (fun r5 hr5 => ?_)
        refine x_if_lt (pc := 55) (t := 64) g dX12_fresh_55 (by decide) ?_ ?_
        · refine x_aload_n (pc := 64) (i := 0) (a := 0) g dX12_fresh_64 rfl rfl ?_
          refine x_getR (pc := 65) (x := 5) g hM dX12_fresh_65 fl_12_43 (sm_0) rfl ?_
          refine x_iload_n (pc := 68) (i := 1) (a := 1) g dX12_fresh_68 rfl rfl ?_
          refine x_aload_n (pc := 69) (i := 0) (a := 0) g dX12_fresh_69 rfl rfl ?_
          refine x_getL (pc := 70) g hM dX12_fresh_70 fl_12_204 (sm_0) rfl ?_
          refine x_last (pc := 73) g hM dX12_fresh_73 (sm_5) (fun j7 hj7 m6 => ?_)
          refine x_aload_n (pc := 74) (i := 0) (a := 0) g dX12_fresh_74 rfl rfl ?_
          refine x_Vv (pc := 75) g hM [] [] (c_M_go l G hM m6) dX12_fresh_75 ml_12_220 (sm_0) rfl rfl (Nat.le_of_ble_eq_true rfl) ⟨rfl, rfl, Nat.le_of_ble_eq_true rfl, Nat.le_of_ble_eq_true rfl⟩ (fun r8 hr8 => ?_)
          refine x_iconst (pc := 78) g dX12_fresh_78 ic_1 ?_
          exact x_zretc (pc := 79) g dX12_fresh_79 rfl (Or.inr rfl) (fun _ h => h)
        · exact x_sub [0] (T_M_fresh_b58 hM g p0 m) rfl
      · exact x_sub [0] (T_M_fresh_b58 hM g p0 m) rfl
    · exact x_sub [0] (T_M_fresh_b58 hM g p0 m) rfl
theorem c_M_fresh (l : Launch) (G : xG) (hM : WM G) (m : xMem) (p0 : Int32) : xCim l G yX12_fresh cX12_fresh 2 (some .boolean) rm_M_fresh [.ref (xad G 0), .int p0] m (M_fresh m p0) :=
  xCt_of (own := RX12) (by decide) rfl (Nat.le_of_ble_eq_true rfl) rfl ⟨rfl, rfl⟩ (fun E g => T_M_fresh hM g m p0)
theorem T_M_looksAt {l : Launch} {G : xG} {E : xE} (hM : WM G) (g : xGood E l G.1 RX12 cX12_looksAt yX12_looksAt 3 (some .boolean) rm_M_looksAt) (m : xMem) (p0 : Int32) (p1 : Int32) : X E G (fun r : Int32 × xMem => (some (Value.int r.1), r.2)) 0 [(0, .ref (xad G 0)), (1, .int p0), (2, .int p1)] [] m (M_looksAt m p0 p1) := by
  unfold M_looksAt
  refine x_aload_n (pc := 0) (i := 0) (a := 0) g dX12_looksAt_0 rfl rfl ?_
  refine x_Vi (pc := 1) g hM [] [] (c_M_isName l G hM m) dX12_looksAt_1 ml_12_237 (sm_0) rfl rfl (Nat.le_of_ble_eq_true rfl) ⟨rfl, rfl, Nat.le_of_ble_eq_true rfl, Nat.le_of_ble_eq_true rfl⟩ (fun r1 hr1 => ?_)
  refine x_if_ne (pc := 4) (t := 13) g dX12_looksAt_4 (by decide) ?_ ?_
  · refine x_aload_n (pc := 7) (i := 0) (a := 0) g dX12_looksAt_7 rfl rfl ?_
    refine x_iconst (pc := 8) g dX12_looksAt_8 ic_1 ?_
    refine x_Vim (pc := 9) g hM [.int 1] [] (c_M_bad l G hM m 1) dX12_looksAt_9 ml_12_217 (sm_0) rfl rfl (Nat.le_of_ble_eq_true rfl) ⟨rfl, rfl, Nat.le_of_ble_eq_true rfl, Nat.le_of_ble_eq_true rfl⟩ (fun r2 hr2 => ?_)
    exact x_zret (pc := 12) g dX12_looksAt_12 rfl (fun _ _ h => h)
  · refine x_aload_n (pc := 13) (i := 0) (a := 0) g dX12_looksAt_13 rfl rfl ?_
    refine x_aload_n (pc := 14) (i := 0) (a := 0) g dX12_looksAt_14 rfl rfl ?_
    refine x_iload_n (pc := 15) (i := 1) (a := 1) g dX12_looksAt_15 rfl rfl ?_
    refine x_iload_n (pc := 16) (i := 2) (a := 2) g dX12_looksAt_16 rfl rfl ?_
    refine x_Vi (pc := 17) g hM [.int p0, .int p1] [.ref (xad G 0)] (c_M_find l G hM m p0 p1) dX12_looksAt_17 ml_12_241 (sm_0) rfl rfl (Nat.le_of_ble_eq_true rfl) ⟨rfl, rfl, Nat.le_of_ble_eq_true rfl, Nat.le_of_ble_eq_true rfl⟩ (fun r3 hr3 => ?_)
    refine x_putI (pc := 20) g hM dX12_looksAt_20 fl_12_227 ft_12_18 (sm_0) rfl (fun m4 => ?_)
    refine x_aload_n (pc := 23) (i := 0) (a := 0) g dX12_looksAt_23 rfl rfl ?_
    refine x_getI (pc := 24) g hM dX12_looksAt_24 fl_12_227 (sm_0) rfl ?_
    refine x_if_ge (pc := 27) (t := 38) g dX12_looksAt_27 (by decide) ?_ ?_
    · refine x_aload_n (pc := 30) (i := 0) (a := 0) g dX12_looksAt_30 rfl rfl ?_
      refine x_iconst (pc := 31) g dX12_looksAt_31 ic_3 ?_
      refine x_Vim (pc := 32) g hM [.int 3] [] (c_M_bad l G hM m4 3) dX12_looksAt_32 ml_12_217 (sm_0) rfl rfl (Nat.le_of_ble_eq_true rfl) ⟨rfl, rfl, Nat.le_of_ble_eq_true rfl, Nat.le_of_ble_eq_true rfl⟩ (fun r5 hr5 => ?_)
      refine x_if_eq (pc := 35) (t := 42) g dX12_looksAt_35 (by decide) ?_ ?_
      · refine x_iconst (pc := 42) g dX12_looksAt_42 ic_0 ?_
        exact x_zretc (pc := 43) g dX12_looksAt_43 rfl (Or.inl rfl) (fun _ h => h)
      · refine x_iconst (pc := 38) g dX12_looksAt_38 ic_1 ?_
        refine x_goto (pc := 39) (t := 43) g dX12_looksAt_39 (by decide) ?_
        exact x_zretc (pc := 43) g dX12_looksAt_43 rfl (Or.inr rfl) (fun _ h => h)
    · refine x_iconst (pc := 38) g dX12_looksAt_38 ic_1 ?_
      refine x_goto (pc := 39) (t := 43) g dX12_looksAt_39 (by decide) ?_
      exact x_zretc (pc := 43) g dX12_looksAt_43 rfl (Or.inr rfl) (fun _ h => h)
theorem c_M_looksAt (l : Launch) (G : xG) (hM : WM G) (m : xMem) (p0 : Int32) (p1 : Int32) : xCim l G yX12_looksAt cX12_looksAt 3 (some .boolean) rm_M_looksAt [.ref (xad G 0), .int p0, .int p1] m (M_looksAt m p0 p1) :=
  xCt_of (own := RX12) (by decide) rfl (Nat.le_of_ble_eq_true rfl) rfl ⟨rfl, rfl⟩ (fun E g => T_M_looksAt hM g m p0 p1)
theorem T_M_takesName {l : Launch} {G : xG} {E : xE} (hM : WM G) (g : xGood E l G.1 RX12 cX12_takesName yX12_takesName 3 (some .boolean) rm_M_takesName) (m : xMem) (p0 : Int32) (p1 : Int32) : X E G (fun r : Int32 × xMem => (some (Value.int r.1), r.2)) 0 [(0, .ref (xad G 0)), (1, .int p0), (2, .int p1)] [] m (M_takesName m p0 p1) := by
  unfold M_takesName
  refine x_aload_n (pc := 0) (i := 0) (a := 0) g dX12_takesName_0 rfl rfl ?_
  refine x_iload_n (pc := 1) (i := 1) (a := 1) g dX12_takesName_1 rfl rfl ?_
  refine x_iload_n (pc := 2) (i := 2) (a := 2) g dX12_takesName_2 rfl rfl ?_
  refine x_Vim (pc := 3) g hM [.int p0, .int p1] [] (c_M_looksAt l G hM m p0 p1) dX12_takesName_3 ml_12_245 (sm_0) rfl rfl (Nat.le_of_ble_eq_true rfl) ⟨rfl, rfl, Nat.le_of_ble_eq_true rfl, Nat.le_of_ble_eq_true rfl⟩ (fun r1 hr1 => ?_)
  refine x_if_ne (pc := 6) (t := 11) g dX12_takesName_6 (by decide) ?_ ?_
  · refine x_iconst (pc := 9) g dX12_takesName_9 ic_0 ?_
    exact x_zretc (pc := 10) g dX12_takesName_10 rfl (Or.inl rfl) (fun _ h => h)
  · refine x_aload_n (pc := 11) (i := 0) (a := 0) g dX12_takesName_11 rfl rfl ?_
    refine x_Vv (pc := 12) g hM [] [] (c_M_go l G hM r1.2) dX12_takesName_12 ml_12_220 (sm_0) rfl rfl (Nat.le_of_ble_eq_true rfl) ⟨rfl, rfl, Nat.le_of_ble_eq_true rfl, Nat.le_of_ble_eq_true rfl⟩ (fun r2 hr2 => ?_)
    refine x_iconst (pc := 15) g dX12_takesName_15 ic_1 ?_
    exact x_zretc (pc := 16) g dX12_takesName_16 rfl (Or.inr rfl) (fun _ h => h)
theorem c_M_takesName (l : Launch) (G : xG) (hM : WM G) (m : xMem) (p0 : Int32) (p1 : Int32) : xCim l G yX12_takesName cX12_takesName 3 (some .boolean) rm_M_takesName [.ref (xad G 0), .int p0, .int p1] m (M_takesName m p0 p1) :=
  xCt_of (own := RX12) (by decide) rfl (Nat.le_of_ble_eq_true rfl) rfl ⟨rfl, rfl⟩ (fun E g => T_M_takesName hM g m p0 p1)
theorem T_M_readBed_b96 {l : Launch} {G : xG} {E : xE} (hM : WM G) (g : xGood E l G.1 RX12 cX12_readBed yX12_readBed 3 (some .boolean) rm_M_readBed) : ∀ (n : Nat) (v1 : Int32) (v2 : Int32) (m : xMem), X E G (fun r : Int32 × xMem => (some (Value.int r.1), r.2)) 96 [(0, .ref (xad G 0)), (1, .int v1), (2, .int v2)] [] m (M_readBed_b96 n v1 v2 m) := by
  intro n
  induction n with
  | zero => intro v1 v2 m; exact x_none
  | succ n ih =>
    intro v1 v2 m
    rw [M_readBed_b96]
    refine x_iload_n (pc := 96) (i := 2) (a := 2) g dX12_readBed_96 rfl rfl ?_
    refine x_iload_n (pc := 97) (i := 1) (a := 1) g dX12_readBed_97 rfl rfl ?_
    refine x_icmp_ge (pc := 98) (t := 150) g dX12_readBed_98 (by decide) ?_ ?_
    · refine x_aload_n (pc := 101) (i := 0) (a := 0) g dX12_readBed_101 rfl rfl ?_
      refine x_getR (pc := 102) (x := 3) g hM dX12_readBed_102 fl_12_37 (sm_0) rfl ?_
      refine x_bipush (pc := 105) g dX12_readBed_105 bi_7 ?_
      refine x_iload_n (pc := 107) (i := 2) (a := 2) g dX12_readBed_107 rfl rfl ?_
      refine x_iadd (pc := 108) g dX12_readBed_108 ?_
      refine x_iald (pc := 109) g hM dX12_readBed_109 (sm_3) (fun j9 hj9 => ?_)
      refine x_aload_n (pc := 110) (i := 0) (a := 0) g dX12_readBed_110 rfl rfl ?_
      refine x_getR (pc := 111) (x := 3) g hM dX12_readBed_111 fl_12_37 (sm_0) rfl ?_
      refine x_bipush (pc := 114) g dX12_readBed_114 bi_7 ?_
      refine x_iload_n (pc := 116) (i := 1) (a := 1) g dX12_readBed_116 rfl rfl ?_
      refine x_iadd (pc := 117) g dX12_readBed_117 ?_
      refine x_iald (pc := 118) g hM dX12_readBed_118 (sm_3) (fun j10 hj10 => ?_)
      refine x_icmp_ne (pc := 119) (t := 144) g dX12_readBed_119 (by decide) ?_ ?_
      · refine x_aload_n (pc := 122) (i := 0) (a := 0) g dX12_readBed_122 rfl rfl ?_
        refine x_getR (pc := 123) (x := 3) g hM dX12_readBed_123 fl_12_37 (sm_0) rfl ?_
        refine x_bipush (pc := 126) g dX12_readBed_126 bi_13 ?_
        refine x_iload_n (pc := 128) (i := 2) (a := 2) g dX12_readBed_128 rfl rfl ?_
        refine x_iadd (pc := 129) g dX12_readBed_129 ?_
        refine x_iald (pc := 130) g hM dX12_readBed_130 (sm_3) (fun j11 hj11 => ?_)
        refine x_aload_n (pc := 131) (i := 0) (a := 0) g dX12_readBed_131 rfl rfl ?_
        refine x_getI (pc := 132) g hM dX12_readBed_132 fl_12_201 (sm_0) rfl ?_
        refine x_icmp_ne (pc := 135) (t := 144) g dX12_readBed_135 (by decide) ?_ ?_
        · refine x_aload_n (pc := 138) (i := 0) (a := 0) g dX12_readBed_138 rfl rfl ?_
          refine x_iconst (pc := 139) g dX12_readBed_139 ic_3 ?_
          refine x_Vim (pc := 140) g hM [.int 3] [] (c_M_bad l G hM m 3) dX12_readBed_140 ml_12_217 (sm_0) rfl rfl (Nat.le_of_ble_eq_true rfl) ⟨rfl, rfl, Nat.le_of_ble_eq_true rfl, Nat.le_of_ble_eq_true rfl⟩ (fun r12 hr12 => ?_)
          exact x_zret (pc := 143) g dX12_readBed_143 rfl (fun _ _ h => h)
        · refine x_iinc (pc := 144) (a := 2) (lv' := [(2, .int (v2 + 1)), (0, .ref (xad G 0)), (1, .int v1)]) g dX12_readBed_144 ic_1 rfl (by decide) rfl ?_
          refine x_goto (pc := 147) (t := 96) g dX12_readBed_147 (by decide) ?_
          exact x_sub [1, 2, 0] (ih v1 (v2 + 1) m) rfl
      · refine x_iinc (pc := 144) (a := 2) (lv' := [(2, .int (v2 + 1)), (0, .ref (xad G 0)), (1, .int v1)]) g dX12_readBed_144 ic_1 rfl (by decide) rfl ?_
        refine x_goto (pc := 147) (t := 96) g dX12_readBed_147 (by decide) ?_
        exact x_sub [1, 2, 0] (ih v1 (v2 + 1) m) rfl
    · refine x_aload_n (pc := 150) (i := 0) (a := 0) g dX12_readBed_150 rfl rfl ?_
      refine x_getR (pc := 151) (x := 3) g hM dX12_readBed_151 fl_12_37 (sm_0) rfl ?_
      refine x_bipush (pc := 154) g dX12_readBed_154 bi_13 ?_
      refine x_iload_n (pc := 156) (i := 1) (a := 1) g dX12_readBed_156 rfl rfl ?_
      refine x_iadd (pc := 157) g dX12_readBed_157 ?_
      refine x_aload_n (pc := 158) (i := 0) (a := 0) g dX12_readBed_158 rfl rfl ?_
      refine x_getI (pc := 159) g hM dX12_readBed_159 fl_12_201 (sm_0) rfl ?_
      refine x_iast (pc := 162) g hM dX12_readBed_162 (sm_3) (fun j14 hj14 m13 => ?_)
      refine x_aload_n (pc := 163) (i := 0) (a := 0) g dX12_readBed_163 rfl rfl ?_
      refine x_getR (pc := 164) (x := 3) g hM dX12_readBed_164 fl_12_37 (sm_0) rfl ?_
      refine x_bipush (pc := 167) g dX12_readBed_167 bi_19 ?_
      refine x_iload_n (pc := 169) (i := 1) (a := 1) g dX12_readBed_169 rfl rfl ?_
      refine x_iadd (pc := 170) g dX12_readBed_170 ?_
      refine x_iconst (pc := 171) g dX12_readBed_171 ic_0 ?_
      refine x_iast (pc := 172) g hM dX12_readBed_172 (sm_3) (fun j16 hj16 m15 => ?_)
      refine x_aload_n (pc := 173) (i := 0) (a := 0) g dX12_readBed_173 rfl rfl ?_
      refine x_getR (pc := 174) (x := 3) g hM dX12_readBed_174 fl_12_37 (sm_0) rfl ?_
      refine x_iconst (pc := 177) g dX12_readBed_177 ic_0 ?_
      refine x_dup2 (pc := 178) g dX12_readBed_178 rfl rfl ?_
      refine x_ialdc (pc := 179) g hM dX12_readBed_179 (sm_3) ix_0_97 ?_
      refine x_iconst (pc := 180) g dX12_readBed_180 ic_1 ?_
      refine x_iadd (pc := 181) g dX12_readBed_181 ?_
      refine x_iastc (pc := 182) g hM dX12_readBed_182 (sm_3) ix_0_97 (fun m17 => ?_)
      refine x_aload_n (pc := 183) (i := 0) (a := 0) g dX12_readBed_183 rfl rfl ?_
      refine x_Vv (pc := 184) g hM [] [] (c_M_go l G hM m17) dX12_readBed_184 ml_12_220 (sm_0) rfl rfl (Nat.le_of_ble_eq_true rfl) ⟨rfl, rfl, Nat.le_of_ble_eq_true rfl, Nat.le_of_ble_eq_true rfl⟩ (fun r18 hr18 => ?_)
      refine x_iconst (pc := 187) g dX12_readBed_187 ic_1 ?_
      exact x_zretc (pc := 188) g dX12_readBed_188 rfl (Or.inr rfl) (fun _ h => h)
theorem T_M_readBed {l : Launch} {G : xG} {E : xE} (hM : WM G) (g : xGood E l G.1 RX12 cX12_readBed yX12_readBed 3 (some .boolean) rm_M_readBed) (m : xMem) : X E G (fun r : Int32 × xMem => (some (Value.int r.1), r.2)) 0 [(0, .ref (xad G 0))] [] m (M_readBed m) := by
  unfold M_readBed
  refine x_aload_n (pc := 0) (i := 0) (a := 0) g dX12_readBed_0 rfl rfl ?_
  refine x_getR (pc := 1) (x := 3) g hM dX12_readBed_1 fl_12_37 (sm_0) rfl ?_
  refine x_iconst (pc := 4) g dX12_readBed_4 ic_0 ?_
  refine x_ialdc (pc := 5) g hM dX12_readBed_5 (sm_3) ix_0_97 ?_
  refine x_nmI (fun x1 => ?_)
  refine x_istore_n (pc := 6) (i := 1) (lv' := [(1, .int x1), (0, .ref (xad G 0))]) g dX12_readBed_6 rfl (by decide) rfl ?_
  refine x_iload_n (pc := 7) (i := 1) (a := 0) g dX12_readBed_7 rfl rfl ?_
  refine x_bipush (pc := 8) g dX12_readBed_8 bi_6 ?_
  refine x_icmp_ne (pc := 10) (t := 19) g dX12_readBed_10 (by decide) ?_ ?_
  · refine x_aload_n (pc := 13) (i := 0) (a := 1) g dX12_readBed_13 rfl rfl ?_
    refine x_iconst (pc := 14) g dX12_readBed_14 ic_4 ?_
    refine x_Vim (pc := 15) g hM [.int 4] [] (c_M_bad l G hM m 4) dX12_readBed_15 ml_12_217 (sm_0) rfl rfl (Nat.le_of_ble_eq_true rfl) ⟨rfl, rfl, Nat.le_of_ble_eq_true rfl, Nat.le_of_ble_eq_true rfl⟩ (fun r2 hr2 => ?_)
    exact x_zret (pc := 18) g dX12_readBed_18 rfl (fun _ _ h => h)
  · refine x_aload_n (pc := 19) (i := 0) (a := 1) g dX12_readBed_19 rfl rfl ?_
    refine x_iconst (pc := 20) g dX12_readBed_20 ic_1 ?_
    refine x_putZ (pc := 21) g hM dX12_readBed_21 fl_12_252 ft_12_20 (sm_0) rfl (Or.inr rfl) (fun m3 => ?_)
    refine x_aload_n (pc := 24) (i := 0) (a := 1) g dX12_readBed_24 rfl rfl ?_
    refine x_Vv (pc := 25) g hM [] [] (c_M_go l G hM m3) dX12_readBed_25 ml_12_220 (sm_0) rfl rfl (Nat.le_of_ble_eq_true rfl) ⟨rfl, rfl, Nat.le_of_ble_eq_true rfl, Nat.le_of_ble_eq_true rfl⟩ (fun r4 hr4 => ?_)
    refine x_aload_n (pc := 28) (i := 0) (a := 1) g dX12_readBed_28 rfl rfl ?_
    refine x_bipush (pc := 29) g dX12_readBed_29 bi_20 ?_
    refine x_iload_n (pc := 31) (i := 1) (a := 0) g dX12_readBed_31 rfl rfl ?_
    refine x_iadd (pc := 32) g dX12_readBed_32 ?_
    refine x_Vim (pc := 33) g hM [.int (20 + x1)] [] (c_M_fresh l G hM r4 (20 + x1)) dX12_readBed_33 ml_12_280 (sm_0) rfl rfl (Nat.le_of_ble_eq_true rfl) ⟨rfl, rfl, Nat.le_of_ble_eq_true rfl, Nat.le_of_ble_eq_true rfl⟩ (fun r5 hr5 => ?_)
    refine x_if_eq (pc := 36) (t := 59) g dX12_readBed_36 (by decide) ?_ ?_
    · refine x_iconst (pc := 59) g dX12_readBed_59 ic_0 ?_
      exact x_zretc (pc := 60) g dX12_readBed_60 rfl (Or.inl rfl) (fun _ h => h)
    · refine x_aload_n (pc := 39) (i := 0) (a := 1) g dX12_readBed_39 rfl rfl ?_
      refine x_bipush (pc := 40) g dX12_readBed_40 bi_7 ?_
      refine x_iload_n (pc := 42) (i := 1) (a := 0) g dX12_readBed_42 rfl rfl ?_
      refine x_iadd (pc := 43) g dX12_readBed_43 ?_
      refine x_iconst (pc := 44) g dX12_readBed_44 ic_0 ?_
      refine x_aload_n (pc := 45) (i := 0) (a := 1) g dX12_readBed_45 rfl rfl ?_
      refine x_getR (pc := 46) (x := 3) g hM dX12_readBed_46 fl_12_37 (sm_0) rfl ?_
      refine x_iconst (pc := 49) g dX12_readBed_49 ic_3 ?_
      refine x_ialdc (pc := 50) g hM dX12_readBed_50 (sm_3) ix_3_97 ?_
      refine x_iconst (pc := 51) g dX12_readBed_51 ic_1 ?_
      refine x_isub (pc := 52) g dX12_readBed_52 ?_
      refine x_Vim (pc := 53) g hM [.int (7 + x1), .int 0, .int ((r5.2.1 3 3) - 1)] [] (c_M_puts l G hM r5.2 (7 + x1) 0 ((r5.2.1 3 3) - 1)) dX12_readBed_53 ml_12_256 (sm_0) rfl rfl (Nat.le_of_ble_eq_true rfl) ⟨rfl, rfl, Nat.le_of_ble_eq_true rfl, Nat.le_of_ble_eq_true rfl⟩ (fun r6 hr6 => ?_)
      refine x_if_ne (pc := 56) (t := 61) g dX12_readBed_56 (by decide) ?_ ?_
      · refine x_iconst (pc := 59) g dX12_readBed_59 ic_0 ?_
        exact x_zretc (pc := 60) g dX12_readBed_60 rfl (Or.inl rfl) (fun _ h => h)
      · refine x_aload_n (pc := 61) (i := 0) (a := 1) g dX12_readBed_61 rfl rfl ?_
        refine x_getI (pc := 62) g hM dX12_readBed_62 fl_12_191 (sm_0) rfl ?_
        refine x_iconst (pc := 65) g dX12_readBed_65 ic_2 ?_
        refine x_icmp_eq (pc := 66) (t := 75) g dX12_readBed_66 (by decide) ?_ ?_
        · refine x_aload_n (pc := 75) (i := 0) (a := 1) g dX12_readBed_75 rfl rfl ?_
          refine x_getI (pc := 76) g hM dX12_readBed_76 fl_12_201 (sm_0) rfl ?_
          refine x_aload_n (pc := 79) (i := 0) (a := 1) g dX12_readBed_79 rfl rfl ?_
          refine x_getR (pc := 80) (x := 3) g hM dX12_readBed_80 fl_12_37 (sm_0) rfl ?_
          refine x_iconst (pc := 83) g dX12_readBed_83 ic_4 ?_
          refine x_ialdc (pc := 84) g hM dX12_readBed_84 (sm_3) ix_4_97 ?_
          refine x_icmp_lt (pc := 85) (t := 94) g dX12_readBed_85 (by decide) ?_ ?_
          · refine x_iconst (pc := 94) g dX12_readBed_94 ic_0 ?_
            refine x_istore_n (pc := 95) (i := 2) (lv' := [(2, .int 0), (1, .int x1), (0, .ref (xad G 0))]) g dX12_readBed_95 rfl (by decide) rfl ?_
            exact x_sub [2, 1, 0] (T_M_readBed_b96 hM g 1000 x1 0 r6.2) rfl
          · refine x_aload_n (pc := 88) (i := 0) (a := 1) g dX12_readBed_88 rfl rfl ?_
            refine x_iconst (pc := 89) g dX12_readBed_89 ic_2 ?_
            refine x_Vim (pc := 90) g hM [.int 2] [] (c_M_bad l G hM r6.2 2) dX12_readBed_90 ml_12_217 (sm_0) rfl rfl (Nat.le_of_ble_eq_true rfl) ⟨rfl, rfl, Nat.le_of_ble_eq_true rfl, Nat.le_of_ble_eq_true rfl⟩ (fun r7 hr7 => ?_)
            exact x_zret (pc := 93) g dX12_readBed_93 rfl (fun _ _ h => h)
        · refine x_aload_n (pc := 69) (i := 0) (a := 1) g dX12_readBed_69 rfl rfl ?_
          refine x_iconst (pc := 70) g dX12_readBed_70 ic_1 ?_
          refine x_Vim (pc := 71) g hM [.int 1] [] (c_M_bad l G hM r6.2 1) dX12_readBed_71 ml_12_217 (sm_0) rfl rfl (Nat.le_of_ble_eq_true rfl) ⟨rfl, rfl, Nat.le_of_ble_eq_true rfl, Nat.le_of_ble_eq_true rfl⟩ (fun r8 hr8 => ?_)
          exact x_zret (pc := 74) g dX12_readBed_74 rfl (fun _ _ h => h)
theorem c_M_readBed (l : Launch) (G : xG) (hM : WM G) (m : xMem) : xCim l G yX12_readBed cX12_readBed 3 (some .boolean) rm_M_readBed [.ref (xad G 0)] m (M_readBed m) :=
  xCt_of (own := RX12) (by decide) rfl (Nat.le_of_ble_eq_true rfl) rfl ⟨rfl, rfl⟩ (fun E g => T_M_readBed hM g m)
theorem T_M_readOwl_b53 {l : Launch} {G : xG} {E : xE} (hM : WM G) (g : xGood E l G.1 RX12 cX12_readOwl yX12_readOwl 3 (some .boolean) rm_M_readOwl) : ∀ (n : Nat) (v1 : Int32) (v2 : Int32) (m : xMem), X E G (fun r : Int32 × xMem => (some (Value.int r.1), r.2)) 53 [(0, .ref (xad G 0)), (1, .int v1), (2, .int v2)] [] m (M_readOwl_b53 n v1 v2 m) := by
  intro n
  induction n with
  | zero => intro v1 v2 m; exact x_none
  | succ n ih =>
    intro v1 v2 m
    rw [M_readOwl_b53]
    refine x_iload_n (pc := 53) (i := 2) (a := 2) g dX12_readOwl_53 rfl rfl ?_
    refine x_iload_n (pc := 54) (i := 1) (a := 1) g dX12_readOwl_54 rfl rfl ?_
    refine x_icmp_ge (pc := 55) (t := 86) g dX12_readOwl_55 (by decide) ?_ ?_
    · refine x_aload_n (pc := 58) (i := 0) (a := 0) g dX12_readOwl_58 rfl rfl ?_
      refine x_getR (pc := 59) (x := 3) g hM dX12_readOwl_59 fl_12_37 (sm_0) rfl ?_
      refine x_bipush (pc := 62) g dX12_readOwl_62 bi_25 ?_
      refine x_iload_n (pc := 64) (i := 2) (a := 2) g dX12_readOwl_64 rfl rfl ?_
      refine x_iadd (pc := 65) g dX12_readOwl_65 ?_
      refine x_iald (pc := 66) g hM dX12_readOwl_66 (sm_3) (fun j6 hj6 => ?_)
      refine x_aload_n (pc := 67) (i := 0) (a := 0) g dX12_readOwl_67 rfl rfl ?_
      refine x_getI (pc := 68) g hM dX12_readOwl_68 fl_12_227 (sm_0) rfl ?_
      refine x_icmp_ne (pc := 71) (t := 80) g dX12_readOwl_71 (by decide) ?_ ?_
      · refine x_aload_n (pc := 74) (i := 0) (a := 0) g dX12_readOwl_74 rfl rfl ?_
        refine x_iconst (pc := 75) g dX12_readOwl_75 ic_3 ?_
        refine x_Vim (pc := 76) g hM [.int 3] [] (c_M_bad l G hM m 3) dX12_readOwl_76 ml_12_217 (sm_0) rfl rfl (Nat.le_of_ble_eq_true rfl) ⟨rfl, rfl, Nat.le_of_ble_eq_true rfl, Nat.le_of_ble_eq_true rfl⟩ (fun r7 hr7 => ?_)
        exact x_zret (pc := 79) g dX12_readOwl_79 rfl (fun _ _ h => h)
      · refine x_iinc (pc := 80) (a := 2) (lv' := [(2, .int (v2 + 1)), (0, .ref (xad G 0)), (1, .int v1)]) g dX12_readOwl_80 ic_1 rfl (by decide) rfl ?_
        refine x_goto (pc := 83) (t := 53) g dX12_readOwl_83 (by decide) ?_
        exact x_sub [1, 2, 0] (ih v1 (v2 + 1) m) rfl
    · refine x_aload_n (pc := 86) (i := 0) (a := 0) g dX12_readOwl_86 rfl rfl ?_
      refine x_getR (pc := 87) (x := 3) g hM dX12_readOwl_87 fl_12_37 (sm_0) rfl ?_
      refine x_bipush (pc := 90) g dX12_readOwl_90 bi_25 ?_
      refine x_iload_n (pc := 92) (i := 1) (a := 1) g dX12_readOwl_92 rfl rfl ?_
      refine x_iadd (pc := 93) g dX12_readOwl_93 ?_
      refine x_aload_n (pc := 94) (i := 0) (a := 0) g dX12_readOwl_94 rfl rfl ?_
      refine x_getI (pc := 95) g hM dX12_readOwl_95 fl_12_227 (sm_0) rfl ?_
      refine x_iast (pc := 98) g hM dX12_readOwl_98 (sm_3) (fun j9 hj9 m8 => ?_)
      refine x_aload_n (pc := 99) (i := 0) (a := 0) g dX12_readOwl_99 rfl rfl ?_
      refine x_Vv (pc := 100) g hM [] [] (c_M_go l G hM m8) dX12_readOwl_100 ml_12_220 (sm_0) rfl rfl (Nat.le_of_ble_eq_true rfl) ⟨rfl, rfl, Nat.le_of_ble_eq_true rfl, Nat.le_of_ble_eq_true rfl⟩ (fun r10 hr10 => ?_)
      refine x_aload_n (pc := 103) (i := 0) (a := 0) g dX12_readOwl_103 rfl rfl ?_
      refine x_bipush (pc := 104) g dX12_readOwl_104 bi_31 ?_
      refine x_iload_n (pc := 106) (i := 1) (a := 1) g dX12_readOwl_106 rfl rfl ?_
      refine x_iadd (pc := 107) g dX12_readOwl_107 ?_
      refine x_iconst (pc := 108) g dX12_readOwl_108 ic_1 ?_
      refine x_bipush (pc := 109) g dX12_readOwl_109 bi_20 ?_
      refine x_Vim (pc := 111) g hM [.int (31 + v1), .int 1, .int 20] [] (c_M_puts l G hM r10 (31 + v1) 1 20) dX12_readOwl_111 ml_12_256 (sm_0) rfl rfl (Nat.le_of_ble_eq_true rfl) ⟨rfl, rfl, Nat.le_of_ble_eq_true rfl, Nat.le_of_ble_eq_true rfl⟩ (fun r11 hr11 => ?_)
      refine x_if_ne (pc := 114) (t := 119) g dX12_readOwl_114 (by decide) ?_ ?_
      · refine x_iconst (pc := 117) g dX12_readOwl_117 ic_0 ?_
        exact x_zretc (pc := 118) g dX12_readOwl_118 rfl (Or.inl rfl) (fun _ h => h)
      · refine x_aload_n (pc := 119) (i := 0) (a := 0) g dX12_readOwl_119 rfl rfl ?_
        refine x_getR (pc := 120) (x := 3) g hM dX12_readOwl_120 fl_12_37 (sm_0) rfl ?_
        refine x_iconst (pc := 123) g dX12_readOwl_123 ic_1 ?_
        refine x_dup2 (pc := 124) g dX12_readOwl_124 rfl rfl ?_
        refine x_ialdc (pc := 125) g hM dX12_readOwl_125 (sm_3) ix_1_97 ?_
        refine x_iconst (pc := 126) g dX12_readOwl_126 ic_1 ?_
        refine x_iadd (pc := 127) g dX12_readOwl_127 ?_
        refine x_iastc (pc := 128) g hM dX12_readOwl_128 (sm_3) ix_1_97 (fun m12 => ?_)
        refine x_iconst (pc := 129) g dX12_readOwl_129 ic_1 ?_
        exact x_zretc (pc := 130) g dX12_readOwl_130 rfl (Or.inr rfl) (fun _ h => h)
theorem T_M_readOwl {l : Launch} {G : xG} {E : xE} (hM : WM G) (g : xGood E l G.1 RX12 cX12_readOwl yX12_readOwl 3 (some .boolean) rm_M_readOwl) (m : xMem) : X E G (fun r : Int32 × xMem => (some (Value.int r.1), r.2)) 0 [(0, .ref (xad G 0))] [] m (M_readOwl m) := by
  unfold M_readOwl
  refine x_aload_n (pc := 0) (i := 0) (a := 0) g dX12_readOwl_0 rfl rfl ?_
  refine x_getR (pc := 1) (x := 3) g hM dX12_readOwl_1 fl_12_37 (sm_0) rfl ?_
  refine x_iconst (pc := 4) g dX12_readOwl_4 ic_1 ?_
  refine x_ialdc (pc := 5) g hM dX12_readOwl_5 (sm_3) ix_1_97 ?_
  refine x_nmI (fun x1 => ?_)
  refine x_istore_n (pc := 6) (i := 1) (lv' := [(1, .int x1), (0, .ref (xad G 0))]) g dX12_readOwl_6 rfl (by decide) rfl ?_
  refine x_iload_n (pc := 7) (i := 1) (a := 0) g dX12_readOwl_7 rfl rfl ?_
  refine x_bipush (pc := 8) g dX12_readOwl_8 bi_6 ?_
  refine x_icmp_ne (pc := 10) (t := 19) g dX12_readOwl_10 (by decide) ?_ ?_
  · refine x_aload_n (pc := 13) (i := 0) (a := 1) g dX12_readOwl_13 rfl rfl ?_
    refine x_iconst (pc := 14) g dX12_readOwl_14 ic_4 ?_
    refine x_Vim (pc := 15) g hM [.int 4] [] (c_M_bad l G hM m 4) dX12_readOwl_15 ml_12_217 (sm_0) rfl rfl (Nat.le_of_ble_eq_true rfl) ⟨rfl, rfl, Nat.le_of_ble_eq_true rfl, Nat.le_of_ble_eq_true rfl⟩ (fun r2 hr2 => ?_)
    exact x_zret (pc := 18) g dX12_readOwl_18 rfl (fun _ _ h => h)
  · refine x_aload_n (pc := 19) (i := 0) (a := 1) g dX12_readOwl_19 rfl rfl ?_
    refine x_Vv (pc := 20) g hM [] [] (c_M_go l G hM m) dX12_readOwl_20 ml_12_220 (sm_0) rfl rfl (Nat.le_of_ble_eq_true rfl) ⟨rfl, rfl, Nat.le_of_ble_eq_true rfl, Nat.le_of_ble_eq_true rfl⟩ (fun r3 hr3 => ?_)
    refine x_aload_n (pc := 23) (i := 0) (a := 1) g dX12_readOwl_23 rfl rfl ?_
    refine x_bipush (pc := 24) g dX12_readOwl_24 bi_26 ?_
    refine x_iload_n (pc := 26) (i := 1) (a := 0) g dX12_readOwl_26 rfl rfl ?_
    refine x_iadd (pc := 27) g dX12_readOwl_27 ?_
    refine x_Vim (pc := 28) g hM [.int (26 + x1)] [] (c_M_fresh l G hM r3 (26 + x1)) dX12_readOwl_28 ml_12_280 (sm_0) rfl rfl (Nat.le_of_ble_eq_true rfl) ⟨rfl, rfl, Nat.le_of_ble_eq_true rfl, Nat.le_of_ble_eq_true rfl⟩ (fun r4 hr4 => ?_)
    refine x_if_eq (pc := 31) (t := 49) g dX12_readOwl_31 (by decide) ?_ ?_
    · refine x_iconst (pc := 49) g dX12_readOwl_49 ic_0 ?_
      exact x_zretc (pc := 50) g dX12_readOwl_50 rfl (Or.inl rfl) (fun _ h => h)
    · refine x_aload_n (pc := 34) (i := 0) (a := 1) g dX12_readOwl_34 rfl rfl ?_
      refine x_bipush (pc := 35) g dX12_readOwl_35 bi_20 ?_
      refine x_aload_n (pc := 37) (i := 0) (a := 1) g dX12_readOwl_37 rfl rfl ?_
      refine x_getR (pc := 38) (x := 3) g hM dX12_readOwl_38 fl_12_37 (sm_0) rfl ?_
      refine x_iconst (pc := 41) g dX12_readOwl_41 ic_0 ?_
      refine x_ialdc (pc := 42) g hM dX12_readOwl_42 (sm_3) ix_0_97 ?_
      refine x_Vim (pc := 43) g hM [.int 20, .int (r4.2.1 3 0)] [] (c_M_looksAt l G hM r4.2 20 (r4.2.1 3 0)) dX12_readOwl_43 ml_12_245 (sm_0) rfl rfl (Nat.le_of_ble_eq_true rfl) ⟨rfl, rfl, Nat.le_of_ble_eq_true rfl, Nat.le_of_ble_eq_true rfl⟩ (fun r5 hr5 => ?_)
      refine x_if_ne (pc := 46) (t := 51) g dX12_readOwl_46 (by decide) ?_ ?_
      · refine x_iconst (pc := 49) g dX12_readOwl_49 ic_0 ?_
        exact x_zretc (pc := 50) g dX12_readOwl_50 rfl (Or.inl rfl) (fun _ h => h)
      · refine x_iconst (pc := 51) g dX12_readOwl_51 ic_0 ?_
        refine x_istore_n (pc := 52) (i := 2) (lv' := [(2, .int 0), (1, .int x1), (0, .ref (xad G 0))]) g dX12_readOwl_52 rfl (by decide) rfl ?_
        exact x_sub [2, 1, 0] (T_M_readOwl_b53 hM g 1000 x1 0 r5.2) rfl
theorem c_M_readOwl (l : Launch) (G : xG) (hM : WM G) (m : xMem) : xCim l G yX12_readOwl cX12_readOwl 3 (some .boolean) rm_M_readOwl [.ref (xad G 0)] m (M_readOwl m) :=
  xCt_of (own := RX12) (by decide) rfl (Nat.le_of_ble_eq_true rfl) rfl ⟨rfl, rfl⟩ (fun E g => T_M_readOwl hM g m)
theorem T_M_readBad {l : Launch} {G : xG} {E : xE} (hM : WM G) (g : xGood E l G.1 RX12 cX12_readBad yX12_readBad 2 (some .boolean) rm_M_readBad) (m : xMem) : X E G (fun r : Int32 × xMem => (some (Value.int r.1), r.2)) 0 [(0, .ref (xad G 0))] [] m (M_readBad m) := by
  unfold M_readBad
  refine x_aload_n (pc := 0) (i := 0) (a := 0) g dX12_readBad_0 rfl rfl ?_
  refine x_Vv (pc := 1) g hM [] [] (c_M_go l G hM m) dX12_readBad_1 ml_12_220 (sm_0) rfl rfl (Nat.le_of_ble_eq_true rfl) ⟨rfl, rfl, Nat.le_of_ble_eq_true rfl, Nat.le_of_ble_eq_true rfl⟩ (fun r1 hr1 => ?_)
  refine x_aload_n (pc := 4) (i := 0) (a := 0) g dX12_readBad_4 rfl rfl ?_
  refine x_bipush (pc := 5) g dX12_readBad_5 bi_26 ?_
  refine x_aload_n (pc := 7) (i := 0) (a := 0) g dX12_readBad_7 rfl rfl ?_
  refine x_getR (pc := 8) (x := 3) g hM dX12_readBad_8 fl_12_37 (sm_0) rfl ?_
  refine x_iconst (pc := 11) g dX12_readBad_11 ic_1 ?_
  refine x_ialdc (pc := 12) g hM dX12_readBad_12 (sm_3) ix_1_97 ?_
  refine x_Vim (pc := 13) g hM [.int 26, .int (r1.1 3 1)] [] (c_M_looksAt l G hM r1 26 (r1.1 3 1)) dX12_readBad_13 ml_12_245 (sm_0) rfl rfl (Nat.le_of_ble_eq_true rfl) ⟨rfl, rfl, Nat.le_of_ble_eq_true rfl, Nat.le_of_ble_eq_true rfl⟩ (fun r2 hr2 => ?_)
  refine x_if_ne (pc := 16) (t := 21) g dX12_readBad_16 (by decide) ?_ ?_
  · refine x_iconst (pc := 19) g dX12_readBad_19 ic_0 ?_
    exact x_zretc (pc := 20) g dX12_readBad_20 rfl (Or.inl rfl) (fun _ h => h)
  · refine x_aload_n (pc := 21) (i := 0) (a := 0) g dX12_readBad_21 rfl rfl ?_
    refine x_getI (pc := 22) g hM dX12_readBad_22 fl_12_227 (sm_0) rfl ?_
    refine x_nmI (fun x3 => ?_)
    refine x_istore_n (pc := 25) (i := 1) (lv' := [(1, .int x3), (0, .ref (xad G 0))]) g dX12_readBad_25 rfl (by decide) rfl ?_
    refine x_aload_n (pc := 26) (i := 0) (a := 1) g dX12_readBad_26 rfl rfl ?_
    refine x_getR (pc := 27) (x := 3) g hM dX12_readBad_27 fl_12_37 (sm_0) rfl ?_
    refine x_bipush (pc := 30) g dX12_readBad_30 bi_37 ?_
    refine x_iload_n (pc := 32) (i := 1) (a := 0) g dX12_readBad_32 rfl rfl ?_
    refine x_iadd (pc := 33) g dX12_readBad_33 ?_
    refine x_iald (pc := 34) g hM dX12_readBad_34 (sm_3) (fun j4 hj4 => ?_)
    refine x_if_le (pc := 35) (t := 44) g dX12_readBad_35 (by decide) ?_ ?_
    · refine x_aload_n (pc := 38) (i := 0) (a := 1) g dX12_readBad_38 rfl rfl ?_
      refine x_iconst (pc := 39) g dX12_readBad_39 ic_3 ?_
      refine x_Vim (pc := 40) g hM [.int 3] [] (c_M_bad l G hM r2.2 3) dX12_readBad_40 ml_12_217 (sm_0) rfl rfl (Nat.le_of_ble_eq_true rfl) ⟨rfl, rfl, Nat.le_of_ble_eq_true rfl, Nat.le_of_ble_eq_true rfl⟩ (fun r5 hr5 => ?_)
      exact x_zret (pc := 43) g dX12_readBad_43 rfl (fun _ _ h => h)
    · refine x_aload_n (pc := 44) (i := 0) (a := 1) g dX12_readBad_44 rfl rfl ?_
      refine x_Vv (pc := 45) g hM [] [] (c_M_go l G hM r2.2) dX12_readBad_45 ml_12_220 (sm_0) rfl rfl (Nat.le_of_ble_eq_true rfl) ⟨rfl, rfl, Nat.le_of_ble_eq_true rfl, Nat.le_of_ble_eq_true rfl⟩ (fun r6 hr6 => ?_)
      refine x_aload_n (pc := 48) (i := 0) (a := 1) g dX12_readBad_48 rfl rfl ?_
      refine x_Vim (pc := 49) g hM [] [] (c_M_isSide l G hM r6) dX12_readBad_49 ml_12_283 (sm_0) rfl rfl (Nat.le_of_ble_eq_true rfl) ⟨rfl, rfl, Nat.le_of_ble_eq_true rfl, Nat.le_of_ble_eq_true rfl⟩ (fun r7 hr7 => ?_)
      refine x_if_ne (pc := 52) (t := 57) g dX12_readBad_52 (by decide) ?_ ?_
      · refine x_iconst (pc := 55) g dX12_readBad_55 ic_0 ?_
        exact x_zretc (pc := 56) g dX12_readBad_56 rfl (Or.inl rfl) (fun _ h => h)
      · refine x_aload_n (pc := 57) (i := 0) (a := 1) g dX12_readBad_57 rfl rfl ?_
        refine x_getR (pc := 58) (x := 3) g hM dX12_readBad_58 fl_12_37 (sm_0) rfl ?_
        refine x_bipush (pc := 61) g dX12_readBad_61 bi_37 ?_
        refine x_iload_n (pc := 63) (i := 1) (a := 0) g dX12_readBad_63 rfl rfl ?_
        refine x_iadd (pc := 64) g dX12_readBad_64 ?_
        refine x_aload_n (pc := 65) (i := 0) (a := 1) g dX12_readBad_65 rfl rfl ?_
        refine x_getI (pc := 66) g hM dX12_readBad_66 fl_12_227 (sm_0) rfl ?_
        refine x_iconst (pc := 69) g dX12_readBad_69 ic_1 ?_
        refine x_iadd (pc := 70) g dX12_readBad_70 ?_
        refine x_iast (pc := 71) g hM dX12_readBad_71 (sm_3) (fun j9 hj9 m8 => ?_)
        refine x_aload_n (pc := 72) (i := 0) (a := 1) g dX12_readBad_72 rfl rfl ?_
        refine x_Vv (pc := 73) g hM [] [] (c_M_go l G hM m8) dX12_readBad_73 ml_12_220 (sm_0) rfl rfl (Nat.le_of_ble_eq_true rfl) ⟨rfl, rfl, Nat.le_of_ble_eq_true rfl, Nat.le_of_ble_eq_true rfl⟩ (fun r10 hr10 => ?_)
        refine x_iconst (pc := 76) g dX12_readBad_76 ic_1 ?_
        exact x_zretc (pc := 77) g dX12_readBad_77 rfl (Or.inr rfl) (fun _ h => h)
theorem c_M_readBad (l : Launch) (G : xG) (hM : WM G) (m : xMem) : xCim l G yX12_readBad cX12_readBad 2 (some .boolean) rm_M_readBad [.ref (xad G 0)] m (M_readBad m) :=
  xCt_of (own := RX12) (by decide) rfl (Nat.le_of_ble_eq_true rfl) rfl ⟨rfl, rfl⟩ (fun E g => T_M_readBad hM g m)
theorem T_M_readDeaf {l : Launch} {G : xG} {E : xE} (hM : WM G) (g : xGood E l G.1 RX12 cX12_readDeaf yX12_readDeaf 2 (some .boolean) rm_M_readDeaf) (m : xMem) : X E G (fun r : Int32 × xMem => (some (Value.int r.1), r.2)) 0 [(0, .ref (xad G 0))] [] m (M_readDeaf m) := by
  unfold M_readDeaf
  refine x_aload_n (pc := 0) (i := 0) (a := 0) g dX12_readDeaf_0 rfl rfl ?_
  refine x_Vv (pc := 1) g hM [] [] (c_M_go l G hM m) dX12_readDeaf_1 ml_12_220 (sm_0) rfl rfl (Nat.le_of_ble_eq_true rfl) ⟨rfl, rfl, Nat.le_of_ble_eq_true rfl, Nat.le_of_ble_eq_true rfl⟩ (fun r1 hr1 => ?_)
  refine x_aload_n (pc := 4) (i := 0) (a := 0) g dX12_readDeaf_4 rfl rfl ?_
  refine x_bipush (pc := 5) g dX12_readDeaf_5 bi_26 ?_
  refine x_aload_n (pc := 7) (i := 0) (a := 0) g dX12_readDeaf_7 rfl rfl ?_
  refine x_getR (pc := 8) (x := 3) g hM dX12_readDeaf_8 fl_12_37 (sm_0) rfl ?_
  refine x_iconst (pc := 11) g dX12_readDeaf_11 ic_1 ?_
  refine x_ialdc (pc := 12) g hM dX12_readDeaf_12 (sm_3) ix_1_97 ?_
  refine x_Vim (pc := 13) g hM [.int 26, .int (r1.1 3 1)] [] (c_M_takesName l G hM r1 26 (r1.1 3 1)) dX12_readDeaf_13 ml_12_286 (sm_0) rfl rfl (Nat.le_of_ble_eq_true rfl) ⟨rfl, rfl, Nat.le_of_ble_eq_true rfl, Nat.le_of_ble_eq_true rfl⟩ (fun r2 hr2 => ?_)
  refine x_if_ne (pc := 16) (t := 21) g dX12_readDeaf_16 (by decide) ?_ ?_
  · refine x_iconst (pc := 19) g dX12_readDeaf_19 ic_0 ?_
    exact x_zretc (pc := 20) g dX12_readDeaf_20 rfl (Or.inl rfl) (fun _ h => h)
  · refine x_aload_n (pc := 21) (i := 0) (a := 0) g dX12_readDeaf_21 rfl rfl ?_
    refine x_getI (pc := 22) g hM dX12_readDeaf_22 fl_12_227 (sm_0) rfl ?_
    refine x_nmI (fun x3 => ?_)
    refine x_istore_n (pc := 25) (i := 1) (lv' := [(1, .int x3), (0, .ref (xad G 0))]) g dX12_readDeaf_25 rfl (by decide) rfl ?_
    refine x_aload_n (pc := 26) (i := 0) (a := 1) g dX12_readDeaf_26 rfl rfl ?_
    refine x_Vim (pc := 27) g hM [] [] (c_M_isKind l G hM r2.2) dX12_readDeaf_27 ml_12_289 (sm_0) rfl rfl (Nat.le_of_ble_eq_true rfl) ⟨rfl, rfl, Nat.le_of_ble_eq_true rfl, Nat.le_of_ble_eq_true rfl⟩ (fun r4 hr4 => ?_)
    refine x_if_ne (pc := 30) (t := 35) g dX12_readDeaf_30 (by decide) ?_ ?_
    · refine x_iconst (pc := 33) g dX12_readDeaf_33 ic_0 ?_
      exact x_zretc (pc := 34) g dX12_readDeaf_34 rfl (Or.inl rfl) (fun _ h => h)
    · refine x_aload_n (pc := 35) (i := 0) (a := 1) g dX12_readDeaf_35 rfl rfl ?_
      refine x_getR (pc := 36) (x := 3) g hM dX12_readDeaf_36 fl_12_37 (sm_0) rfl ?_
      refine x_bipush (pc := 39) g dX12_readDeaf_39 bi_43 ?_
      refine x_iload_n (pc := 41) (i := 1) (a := 0) g dX12_readDeaf_41 rfl rfl ?_
      refine x_iadd (pc := 42) g dX12_readDeaf_42 ?_
      refine x_iald (pc := 43) g hM dX12_readDeaf_43 (sm_3) (fun j5 hj5 => ?_)
      refine x_aload_n (pc := 44) (i := 0) (a := 1) g dX12_readDeaf_44 rfl rfl ?_
      refine x_getI (pc := 45) g hM dX12_readDeaf_45 fl_12_227 (sm_0) rfl ?_
      refine x_Si (pc := 48) g [.int (r4.2.1 3 j5), .int (r4.2.1 0 18)] [] (c_M_bitOf l G hM r4.2 (r4.2.1 3 j5) (r4.2.1 0 18)) dX12_readDeaf_48 ms_12_292 rfl rfl (Nat.le_of_ble_eq_true rfl) ⟨rfl, rfl, Nat.le_of_ble_eq_true rfl, Nat.le_of_ble_eq_true rfl⟩ (fun r6 hr6 => ?_)
      refine x_if_eq (pc := 51) (t := 60) g dX12_readDeaf_51 (by decide) ?_ ?_
      · refine x_aload_n (pc := 60) (i := 0) (a := 1) g dX12_readDeaf_60 rfl rfl ?_
        refine x_getR (pc := 61) (x := 3) g hM dX12_readDeaf_61 fl_12_37 (sm_0) rfl ?_
        refine x_bipush (pc := 64) g dX12_readDeaf_64 bi_43 ?_
        refine x_iload_n (pc := 66) (i := 1) (a := 0) g dX12_readDeaf_66 rfl rfl ?_
        refine x_iadd (pc := 67) g dX12_readDeaf_67 ?_
        refine x_nmI (fun x7 => ?_)
        refine x_dup2 (pc := 68) g dX12_readDeaf_68 rfl rfl ?_
        refine x_iald (pc := 69) g hM dX12_readDeaf_69 (sm_3) (fun j8 hj8 => ?_)
        refine x_iconst (pc := 70) g dX12_readDeaf_70 ic_1 ?_
        refine x_aload_n (pc := 71) (i := 0) (a := 1) g dX12_readDeaf_71 rfl rfl ?_
        refine x_getI (pc := 72) g hM dX12_readDeaf_72 fl_12_227 (sm_0) rfl ?_
        refine x_ishl (pc := 75) g dX12_readDeaf_75 ?_
        refine x_ior (pc := 76) g dX12_readDeaf_76 ?_
        refine x_iast (pc := 77) g hM dX12_readDeaf_77 (sm_3) (fun j10 hj10 m9 => ?_)
        refine x_aload_n (pc := 78) (i := 0) (a := 1) g dX12_readDeaf_78 rfl rfl ?_
        refine x_Vv (pc := 79) g hM [] [] (c_M_go l G hM m9) dX12_readDeaf_79 ml_12_220 (sm_0) rfl rfl (Nat.le_of_ble_eq_true rfl) ⟨rfl, rfl, Nat.le_of_ble_eq_true rfl, Nat.le_of_ble_eq_true rfl⟩ (fun r11 hr11 => ?_)
        refine x_iconst (pc := 82) g dX12_readDeaf_82 ic_1 ?_
        exact x_zretc (pc := 83) g dX12_readDeaf_83 rfl (Or.inr rfl) (fun _ h => h)
      · refine x_aload_n (pc := 54) (i := 0) (a := 1) g dX12_readDeaf_54 rfl rfl ?_
        refine x_iconst (pc := 55) g dX12_readDeaf_55 ic_3 ?_
        refine x_Vim (pc := 56) g hM [.int 3] [] (c_M_bad l G hM r4.2 3) dX12_readDeaf_56 ml_12_217 (sm_0) rfl rfl (Nat.le_of_ble_eq_true rfl) ⟨rfl, rfl, Nat.le_of_ble_eq_true rfl, Nat.le_of_ble_eq_true rfl⟩ (fun r12 hr12 => ?_)
        exact x_zret (pc := 59) g dX12_readDeaf_59 rfl (fun _ _ h => h)
theorem c_M_readDeaf (l : Launch) (G : xG) (hM : WM G) (m : xMem) : xCim l G yX12_readDeaf cX12_readDeaf 2 (some .boolean) rm_M_readDeaf [.ref (xad G 0)] m (M_readDeaf m) :=
  xCt_of (own := RX12) (by decide) rfl (Nat.le_of_ble_eq_true rfl) rfl ⟨rfl, rfl⟩ (fun E g => T_M_readDeaf hM g m)
theorem T_M_readSound {l : Launch} {G : xG} {E : xE} (hM : WM G) (g : xGood E l G.1 RX12 cX12_readSound yX12_readSound 2 (some .boolean) rm_M_readSound) (m : xMem) : X E G (fun r : Int32 × xMem => (some (Value.int r.1), r.2)) 0 [(0, .ref (xad G 0))] [] m (M_readSound m) := by
  unfold M_readSound
  refine x_aload_n (pc := 0) (i := 0) (a := 0) g dX12_readSound_0 rfl rfl ?_
  refine x_getR (pc := 1) (x := 3) g hM dX12_readSound_1 fl_12_37 (sm_0) rfl ?_
  refine x_iconst (pc := 4) g dX12_readSound_4 ic_2 ?_
  refine x_ialdc (pc := 5) g hM dX12_readSound_5 (sm_3) ix_2_97 ?_
  refine x_nmI (fun x1 => ?_)
  refine x_istore_n (pc := 6) (i := 1) (lv' := [(1, .int x1), (0, .ref (xad G 0))]) g dX12_readSound_6 rfl (by decide) rfl ?_
  refine x_iload_n (pc := 7) (i := 1) (a := 0) g dX12_readSound_7 rfl rfl ?_
  refine x_bipush (pc := 8) g dX12_readSound_8 bi_8 ?_
  refine x_icmp_ne (pc := 10) (t := 19) g dX12_readSound_10 (by decide) ?_ ?_
  · refine x_aload_n (pc := 13) (i := 0) (a := 1) g dX12_readSound_13 rfl rfl ?_
    refine x_iconst (pc := 14) g dX12_readSound_14 ic_4 ?_
    refine x_Vim (pc := 15) g hM [.int 4] [] (c_M_bad l G hM m 4) dX12_readSound_15 ml_12_217 (sm_0) rfl rfl (Nat.le_of_ble_eq_true rfl) ⟨rfl, rfl, Nat.le_of_ble_eq_true rfl, Nat.le_of_ble_eq_true rfl⟩ (fun r2 hr2 => ?_)
    exact x_zret (pc := 18) g dX12_readSound_18 rfl (fun _ _ h => h)
  · refine x_aload_n (pc := 19) (i := 0) (a := 1) g dX12_readSound_19 rfl rfl ?_
    refine x_iconst (pc := 20) g dX12_readSound_20 ic_1 ?_
    refine x_putZ (pc := 21) g hM dX12_readSound_21 fl_12_252 ft_12_20 (sm_0) rfl (Or.inr rfl) (fun m3 => ?_)
    refine x_aload_n (pc := 24) (i := 0) (a := 1) g dX12_readSound_24 rfl rfl ?_
    refine x_Vv (pc := 25) g hM [] [] (c_M_go l G hM m3) dX12_readSound_25 ml_12_220 (sm_0) rfl rfl (Nat.le_of_ble_eq_true rfl) ⟨rfl, rfl, Nat.le_of_ble_eq_true rfl, Nat.le_of_ble_eq_true rfl⟩ (fun r4 hr4 => ?_)
    refine x_aload_n (pc := 28) (i := 0) (a := 1) g dX12_readSound_28 rfl rfl ?_
    refine x_bipush (pc := 29) g dX12_readSound_29 bi_32 ?_
    refine x_iload_n (pc := 31) (i := 1) (a := 0) g dX12_readSound_31 rfl rfl ?_
    refine x_iadd (pc := 32) g dX12_readSound_32 ?_
    refine x_Vim (pc := 33) g hM [.int (32 + x1)] [] (c_M_fresh l G hM r4 (32 + x1)) dX12_readSound_33 ml_12_280 (sm_0) rfl rfl (Nat.le_of_ble_eq_true rfl) ⟨rfl, rfl, Nat.le_of_ble_eq_true rfl, Nat.le_of_ble_eq_true rfl⟩ (fun r5 hr5 => ?_)
    refine x_if_eq (pc := 36) (t := 46) g dX12_readSound_36 (by decide) ?_ ?_
    · refine x_iconst (pc := 46) g dX12_readSound_46 ic_0 ?_
      exact x_zretc (pc := 47) g dX12_readSound_47 rfl (Or.inl rfl) (fun _ h => h)
    · refine x_aload_n (pc := 39) (i := 0) (a := 1) g dX12_readSound_39 rfl rfl ?_
      refine x_Vim (pc := 40) g hM [] [] (c_M_isKind l G hM r5.2) dX12_readSound_40 ml_12_289 (sm_0) rfl rfl (Nat.le_of_ble_eq_true rfl) ⟨rfl, rfl, Nat.le_of_ble_eq_true rfl, Nat.le_of_ble_eq_true rfl⟩ (fun r6 hr6 => ?_)
      refine x_if_ne (pc := 43) (t := 48) g dX12_readSound_43 (by decide) ?_ ?_
      · refine x_iconst (pc := 46) g dX12_readSound_46 ic_0 ?_
        exact x_zretc (pc := 47) g dX12_readSound_47 rfl (Or.inl rfl) (fun _ h => h)
      · refine x_aload_n (pc := 48) (i := 0) (a := 1) g dX12_readSound_48 rfl rfl ?_
        refine x_getR (pc := 49) (x := 3) g hM dX12_readSound_49 fl_12_37 (sm_0) rfl ?_
        refine x_bipush (pc := 52) g dX12_readSound_52 bi_49 ?_
        refine x_iload_n (pc := 54) (i := 1) (a := 0) g dX12_readSound_54 rfl rfl ?_
        refine x_iadd (pc := 55) g dX12_readSound_55 ?_
        refine x_aload_n (pc := 56) (i := 0) (a := 1) g dX12_readSound_56 rfl rfl ?_
        refine x_getI (pc := 57) g hM dX12_readSound_57 fl_12_227 (sm_0) rfl ?_
        refine x_iast (pc := 60) g hM dX12_readSound_60 (sm_3) (fun j8 hj8 m7 => ?_)
        refine x_aload_n (pc := 61) (i := 0) (a := 1) g dX12_readSound_61 rfl rfl ?_
        refine x_Vv (pc := 62) g hM [] [] (c_M_go l G hM m7) dX12_readSound_62 ml_12_220 (sm_0) rfl rfl (Nat.le_of_ble_eq_true rfl) ⟨rfl, rfl, Nat.le_of_ble_eq_true rfl, Nat.le_of_ble_eq_true rfl⟩ (fun r9 hr9 => ?_)
        refine x_aload_n (pc := 65) (i := 0) (a := 1) g dX12_readSound_65 rfl rfl ?_
        refine x_bipush (pc := 66) g dX12_readSound_66 bi_57 ?_
        refine x_iload_n (pc := 68) (i := 1) (a := 0) g dX12_readSound_68 rfl rfl ?_
        refine x_iadd (pc := 69) g dX12_readSound_69 ?_
        refine x_iconst (pc := 70) g dX12_readSound_70 ic_0 ?_
        refine x_aload_n (pc := 71) (i := 0) (a := 1) g dX12_readSound_71 rfl rfl ?_
        refine x_getR (pc := 72) (x := 3) g hM dX12_readSound_72 fl_12_37 (sm_0) rfl ?_
        refine x_iconst (pc := 75) g dX12_readSound_75 ic_3 ?_
        refine x_ialdc (pc := 76) g hM dX12_readSound_76 (sm_3) ix_3_97 ?_
        refine x_iconst (pc := 77) g dX12_readSound_77 ic_1 ?_
        refine x_isub (pc := 78) g dX12_readSound_78 ?_
        refine x_Vim (pc := 79) g hM [.int (57 + x1), .int 0, .int ((r9.1 3 3) - 1)] [] (c_M_puts l G hM r9 (57 + x1) 0 ((r9.1 3 3) - 1)) dX12_readSound_79 ml_12_256 (sm_0) rfl rfl (Nat.le_of_ble_eq_true rfl) ⟨rfl, rfl, Nat.le_of_ble_eq_true rfl, Nat.le_of_ble_eq_true rfl⟩ (fun r10 hr10 => ?_)
        refine x_if_eq (pc := 82) (t := 147) g dX12_readSound_82 (by decide) ?_ ?_
        · refine x_iconst (pc := 147) g dX12_readSound_147 ic_0 ?_
          exact x_zretc (pc := 148) g dX12_readSound_148 rfl (Or.inl rfl) (fun _ h => h)
        · refine x_aload_n (pc := 85) (i := 0) (a := 1) g dX12_readSound_85 rfl rfl ?_
          refine x_bipush (pc := 86) g dX12_readSound_86 bi_65 ?_
          refine x_iload_n (pc := 88) (i := 1) (a := 0) g dX12_readSound_88 rfl rfl ?_
          refine x_iadd (pc := 89) g dX12_readSound_89 ?_
          refine x_iconst (pc := 90) g dX12_readSound_90 ic_0 ?_
          refine x_aload_n (pc := 91) (i := 0) (a := 1) g dX12_readSound_91 rfl rfl ?_
          refine x_getR (pc := 92) (x := 3) g hM dX12_readSound_92 fl_12_37 (sm_0) rfl ?_
          refine x_iconst (pc := 95) g dX12_readSound_95 ic_4 ?_
          refine x_ialdc (pc := 96) g hM dX12_readSound_96 (sm_3) ix_4_97 ?_
          refine x_iconst (pc := 97) g dX12_readSound_97 ic_1 ?_
          refine x_isub (pc := 98) g dX12_readSound_98 ?_
          refine x_Vim (pc := 99) g hM [.int (65 + x1), .int 0, .int ((r10.2.1 3 4) - 1)] [] (c_M_puts l G hM r10.2 (65 + x1) 0 ((r10.2.1 3 4) - 1)) dX12_readSound_99 ml_12_256 (sm_0) rfl rfl (Nat.le_of_ble_eq_true rfl) ⟨rfl, rfl, Nat.le_of_ble_eq_true rfl, Nat.le_of_ble_eq_true rfl⟩ (fun r11 hr11 => ?_)
          refine x_if_eq (pc := 102) (t := 147) g dX12_readSound_102 (by decide) ?_ ?_
          · refine x_iconst (pc := 147) g dX12_readSound_147 ic_0 ?_
            exact x_zretc (pc := 148) g dX12_readSound_148 rfl (Or.inl rfl) (fun _ h => h)
          · refine x_aload_n (pc := 105) (i := 0) (a := 1) g dX12_readSound_105 rfl rfl ?_
            refine x_bipush (pc := 106) g dX12_readSound_106 bi_73 ?_
            refine x_iload_n (pc := 108) (i := 1) (a := 0) g dX12_readSound_108 rfl rfl ?_
            refine x_iadd (pc := 109) g dX12_readSound_109 ?_
            refine x_iconst (pc := 110) g dX12_readSound_110 ic_1 ?_
            refine x_bipush (pc := 111) g dX12_readSound_111 bi_30 ?_
            refine x_Vim (pc := 113) g hM [.int (73 + x1), .int 1, .int 30] [] (c_M_puts l G hM r11.2 (73 + x1) 1 30) dX12_readSound_113 ml_12_256 (sm_0) rfl rfl (Nat.le_of_ble_eq_true rfl) ⟨rfl, rfl, Nat.le_of_ble_eq_true rfl, Nat.le_of_ble_eq_true rfl⟩ (fun r12 hr12 => ?_)
            refine x_if_eq (pc := 116) (t := 147) g dX12_readSound_116 (by decide) ?_ ?_
            · refine x_iconst (pc := 147) g dX12_readSound_147 ic_0 ?_
              exact x_zretc (pc := 148) g dX12_readSound_148 rfl (Or.inl rfl) (fun _ h => h)
            · refine x_aload_n (pc := 119) (i := 0) (a := 1) g dX12_readSound_119 rfl rfl ?_
              refine x_bipush (pc := 120) g dX12_readSound_120 bi_81 ?_
              refine x_iload_n (pc := 122) (i := 1) (a := 0) g dX12_readSound_122 rfl rfl ?_
              refine x_iadd (pc := 123) g dX12_readSound_123 ?_
              refine x_iconst (pc := 124) g dX12_readSound_124 ic_0 ?_
              refine x_bipush (pc := 125) g dX12_readSound_125 bi_23 ?_
              refine x_Vim (pc := 127) g hM [.int (81 + x1), .int 0, .int 23] [] (c_M_puts l G hM r12.2 (81 + x1) 0 23) dX12_readSound_127 ml_12_256 (sm_0) rfl rfl (Nat.le_of_ble_eq_true rfl) ⟨rfl, rfl, Nat.le_of_ble_eq_true rfl, Nat.le_of_ble_eq_true rfl⟩ (fun r13 hr13 => ?_)
              refine x_if_eq (pc := 130) (t := 147) g dX12_readSound_130 (by decide) ?_ ?_
              · refine x_iconst (pc := 147) g dX12_readSound_147 ic_0 ?_
                exact x_zretc (pc := 148) g dX12_readSound_148 rfl (Or.inl rfl) (fun _ h => h)
              · refine x_aload_n (pc := 133) (i := 0) (a := 1) g dX12_readSound_133 rfl rfl ?_
                refine x_bipush (pc := 134) g dX12_readSound_134 bi_89 ?_
                refine x_iload_n (pc := 136) (i := 1) (a := 0) g dX12_readSound_136 rfl rfl ?_
                refine x_iadd (pc := 137) g dX12_readSound_137 ?_
                refine x_iconst (pc := 138) g dX12_readSound_138 ic_0 ?_
                refine x_bipush (pc := 139) g dX12_readSound_139 bi_23 ?_
                refine x_Vim (pc := 141) g hM [.int (89 + x1), .int 0, .int 23] [] (c_M_puts l G hM r13.2 (89 + x1) 0 23) dX12_readSound_141 ml_12_256 (sm_0) rfl rfl (Nat.le_of_ble_eq_true rfl) ⟨rfl, rfl, Nat.le_of_ble_eq_true rfl, Nat.le_of_ble_eq_true rfl⟩ (fun r14 hr14 => ?_)
                refine x_if_ne (pc := 144) (t := 149) g dX12_readSound_144 (by decide) ?_ ?_
                · refine x_iconst (pc := 147) g dX12_readSound_147 ic_0 ?_
                  exact x_zretc (pc := 148) g dX12_readSound_148 rfl (Or.inl rfl) (fun _ h => h)
                · refine x_aload_n (pc := 149) (i := 0) (a := 1) g dX12_readSound_149 rfl rfl ?_
                  refine x_getR (pc := 150) (x := 3) g hM dX12_readSound_150 fl_12_37 (sm_0) rfl ?_
                  refine x_iconst (pc := 153) g dX12_readSound_153 ic_2 ?_
                  refine x_dup2 (pc := 154) g dX12_readSound_154 rfl rfl ?_
                  refine x_ialdc (pc := 155) g hM dX12_readSound_155 (sm_3) ix_2_97 ?_
                  refine x_iconst (pc := 156) g dX12_readSound_156 ic_1 ?_
                  refine x_iadd (pc := 157) g dX12_readSound_157 ?_
                  refine x_iastc (pc := 158) g hM dX12_readSound_158 (sm_3) ix_2_97 (fun m15 => ?_)
                  refine x_iconst (pc := 159) g dX12_readSound_159 ic_1 ?_
                  exact x_zretc (pc := 160) g dX12_readSound_160 rfl (Or.inr rfl) (fun _ h => h)
theorem c_M_readSound (l : Launch) (G : xG) (hM : WM G) (m : xMem) : xCim l G yX12_readSound cX12_readSound 2 (some .boolean) rm_M_readSound [.ref (xad G 0)] m (M_readSound m) :=
  xCt_of (own := RX12) (by decide) rfl (Nat.le_of_ble_eq_true rfl) rfl ⟨rfl, rfl⟩ (fun E g => T_M_readSound hM g m)
theorem T_M_readWants {l : Launch} {G : xG} {E : xE} (hM : WM G) (g : xGood E l G.1 RX12 cX12_readWants yX12_readWants 2 (some .boolean) rm_M_readWants) (m : xMem) : X E G (fun r : Int32 × xMem => (some (Value.int r.1), r.2)) 0 [(0, .ref (xad G 0))] [] m (M_readWants m) := by
  unfold M_readWants
  refine x_aload_n (pc := 0) (i := 0) (a := 0) g dX12_readWants_0 rfl rfl ?_
  refine x_Vv (pc := 1) g hM [] [] (c_M_go l G hM m) dX12_readWants_1 ml_12_220 (sm_0) rfl rfl (Nat.le_of_ble_eq_true rfl) ⟨rfl, rfl, Nat.le_of_ble_eq_true rfl, Nat.le_of_ble_eq_true rfl⟩ (fun r1 hr1 => ?_)
  refine x_aload_n (pc := 4) (i := 0) (a := 0) g dX12_readWants_4 rfl rfl ?_
  refine x_bipush (pc := 5) g dX12_readWants_5 bi_20 ?_
  refine x_aload_n (pc := 7) (i := 0) (a := 0) g dX12_readWants_7 rfl rfl ?_
  refine x_getR (pc := 8) (x := 3) g hM dX12_readWants_8 fl_12_37 (sm_0) rfl ?_
  refine x_iconst (pc := 11) g dX12_readWants_11 ic_0 ?_
  refine x_ialdc (pc := 12) g hM dX12_readWants_12 (sm_3) ix_0_97 ?_
  refine x_Vim (pc := 13) g hM [.int 20, .int (r1.1 3 0)] [] (c_M_looksAt l G hM r1 20 (r1.1 3 0)) dX12_readWants_13 ml_12_245 (sm_0) rfl rfl (Nat.le_of_ble_eq_true rfl) ⟨rfl, rfl, Nat.le_of_ble_eq_true rfl, Nat.le_of_ble_eq_true rfl⟩ (fun r2 hr2 => ?_)
  refine x_if_ne (pc := 16) (t := 21) g dX12_readWants_16 (by decide) ?_ ?_
  · refine x_iconst (pc := 19) g dX12_readWants_19 ic_0 ?_
    exact x_zretc (pc := 20) g dX12_readWants_20 rfl (Or.inl rfl) (fun _ h => h)
  · refine x_aload_n (pc := 21) (i := 0) (a := 0) g dX12_readWants_21 rfl rfl ?_
    refine x_getI (pc := 22) g hM dX12_readWants_22 fl_12_227 (sm_0) rfl ?_
    refine x_nmI (fun x3 => ?_)
    refine x_istore_n (pc := 25) (i := 1) (lv' := [(1, .int x3), (0, .ref (xad G 0))]) g dX12_readWants_25 rfl (by decide) rfl ?_
    refine x_aload_n (pc := 26) (i := 0) (a := 1) g dX12_readWants_26 rfl rfl ?_
    refine x_getR (pc := 27) (x := 3) g hM dX12_readWants_27 fl_12_37 (sm_0) rfl ?_
    refine x_bipush (pc := 30) g dX12_readWants_30 bi_19 ?_
    refine x_iload_n (pc := 32) (i := 1) (a := 0) g dX12_readWants_32 rfl rfl ?_
    refine x_iadd (pc := 33) g dX12_readWants_33 ?_
    refine x_iald (pc := 34) g hM dX12_readWants_34 (sm_3) (fun j4 hj4 => ?_)
    refine x_if_le (pc := 35) (t := 44) g dX12_readWants_35 (by decide) ?_ ?_
    · refine x_aload_n (pc := 38) (i := 0) (a := 1) g dX12_readWants_38 rfl rfl ?_
      refine x_iconst (pc := 39) g dX12_readWants_39 ic_3 ?_
      refine x_Vim (pc := 40) g hM [.int 3] [] (c_M_bad l G hM r2.2 3) dX12_readWants_40 ml_12_217 (sm_0) rfl rfl (Nat.le_of_ble_eq_true rfl) ⟨rfl, rfl, Nat.le_of_ble_eq_true rfl, Nat.le_of_ble_eq_true rfl⟩ (fun r5 hr5 => ?_)
      exact x_zret (pc := 43) g dX12_readWants_43 rfl (fun _ _ h => h)
    · refine x_aload_n (pc := 44) (i := 0) (a := 1) g dX12_readWants_44 rfl rfl ?_
      refine x_Vv (pc := 45) g hM [] [] (c_M_go l G hM r2.2) dX12_readWants_45 ml_12_220 (sm_0) rfl rfl (Nat.le_of_ble_eq_true rfl) ⟨rfl, rfl, Nat.le_of_ble_eq_true rfl, Nat.le_of_ble_eq_true rfl⟩ (fun r6 hr6 => ?_)
      refine x_aload_n (pc := 48) (i := 0) (a := 1) g dX12_readWants_48 rfl rfl ?_
      refine x_Vim (pc := 49) g hM [] [] (c_M_isKind l G hM r6) dX12_readWants_49 ml_12_289 (sm_0) rfl rfl (Nat.le_of_ble_eq_true rfl) ⟨rfl, rfl, Nat.le_of_ble_eq_true rfl, Nat.le_of_ble_eq_true rfl⟩ (fun r7 hr7 => ?_)
      refine x_if_ne (pc := 52) (t := 57) g dX12_readWants_52 (by decide) ?_ ?_
      · refine x_iconst (pc := 55) g dX12_readWants_55 ic_0 ?_
        exact x_zretc (pc := 56) g dX12_readWants_56 rfl (Or.inl rfl) (fun _ h => h)
      · refine x_aload_n (pc := 57) (i := 0) (a := 1) g dX12_readWants_57 rfl rfl ?_
        refine x_getR (pc := 58) (x := 3) g hM dX12_readWants_58 fl_12_37 (sm_0) rfl ?_
        refine x_bipush (pc := 61) g dX12_readWants_61 bi_19 ?_
        refine x_iload_n (pc := 63) (i := 1) (a := 0) g dX12_readWants_63 rfl rfl ?_
        refine x_iadd (pc := 64) g dX12_readWants_64 ?_
        refine x_aload_n (pc := 65) (i := 0) (a := 1) g dX12_readWants_65 rfl rfl ?_
        refine x_getI (pc := 66) g hM dX12_readWants_66 fl_12_227 (sm_0) rfl ?_
        refine x_iconst (pc := 69) g dX12_readWants_69 ic_1 ?_
        refine x_iadd (pc := 70) g dX12_readWants_70 ?_
        refine x_iast (pc := 71) g hM dX12_readWants_71 (sm_3) (fun j9 hj9 m8 => ?_)
        refine x_aload_n (pc := 72) (i := 0) (a := 1) g dX12_readWants_72 rfl rfl ?_
        refine x_Vv (pc := 73) g hM [] [] (c_M_go l G hM m8) dX12_readWants_73 ml_12_220 (sm_0) rfl rfl (Nat.le_of_ble_eq_true rfl) ⟨rfl, rfl, Nat.le_of_ble_eq_true rfl, Nat.le_of_ble_eq_true rfl⟩ (fun r10 hr10 => ?_)
        refine x_iconst (pc := 76) g dX12_readWants_76 ic_1 ?_
        exact x_zretc (pc := 77) g dX12_readWants_77 rfl (Or.inr rfl) (fun _ h => h)
theorem c_M_readWants (l : Launch) (G : xG) (hM : WM G) (m : xMem) : xCim l G yX12_readWants cX12_readWants 2 (some .boolean) rm_M_readWants [.ref (xad G 0)] m (M_readWants m) :=
  xCt_of (own := RX12) (by decide) rfl (Nat.le_of_ble_eq_true rfl) rfl ⟨rfl, rfl⟩ (fun E g => T_M_readWants hM g m)
theorem T_M_line {l : Launch} {G : xG} {E : xE} (hM : WM G) (g : xGood E l G.1 RX12 cX12_line yX12_line 1 (some .boolean) rm_M_line) (m : xMem) : X E G (fun r : Int32 × xMem => (some (Value.int r.1), r.2)) 0 [(0, .ref (xad G 0))] [] m (M_line m) := by
  unfold M_line
  refine x_aload_n (pc := 0) (i := 0) (a := 0) g dX12_line_0 rfl rfl ?_
  refine x_ldc2 (pc := 1) g dX12_line_1 kc_12_114 ?_
  refine x_Vi (pc := 4) g hM [.long 448546567013] [] (c_M_isWord l G hM m 448546567013) dX12_line_4 ml_12_248 (sm_0) rfl rfl (Nat.le_of_ble_eq_true rfl) ⟨rfl, rfl, Nat.le_of_ble_eq_true rfl, Nat.le_of_ble_eq_true rfl⟩ (fun r1 hr1 => ?_)
  refine x_if_eq (pc := 7) (t := 60) g dX12_line_7 (by decide) ?_ ?_
  · refine x_aload_n (pc := 60) (i := 0) (a := 0) g dX12_line_60 rfl rfl ?_
    refine x_ldc2 (pc := 61) g dX12_line_61 kc_12_116 ?_
    refine x_Vi (pc := 64) g hM [.long 6448484] [] (c_M_isWord l G hM m 6448484) dX12_line_64 ml_12_248 (sm_0) rfl rfl (Nat.le_of_ble_eq_true rfl) ⟨rfl, rfl, Nat.le_of_ble_eq_true rfl, Nat.le_of_ble_eq_true rfl⟩ (fun r2 hr2 => ?_)
    refine x_if_eq (pc := 67) (t := 75) g dX12_line_67 (by decide) ?_ ?_
    · refine x_aload_n (pc := 75) (i := 0) (a := 0) g dX12_line_75 rfl rfl ?_
      refine x_ldc2 (pc := 76) g dX12_line_76 kc_12_118 ?_
      refine x_Vi (pc := 79) g hM [.long 7305068] [] (c_M_isWord l G hM m 7305068) dX12_line_79 ml_12_248 (sm_0) rfl rfl (Nat.le_of_ble_eq_true rfl) ⟨rfl, rfl, Nat.le_of_ble_eq_true rfl, Nat.le_of_ble_eq_true rfl⟩ (fun r3 hr3 => ?_)
      refine x_if_eq (pc := 82) (t := 90) g dX12_line_82 (by decide) ?_ ?_
      · refine x_aload_n (pc := 90) (i := 0) (a := 0) g dX12_line_90 rfl rfl ?_
        refine x_ldc2 (pc := 91) g dX12_line_91 kc_12_120 ?_
        refine x_Vi (pc := 94) g hM [.long 6447460] [] (c_M_isWord l G hM m 6447460) dX12_line_94 ml_12_248 (sm_0) rfl rfl (Nat.le_of_ble_eq_true rfl) ⟨rfl, rfl, Nat.le_of_ble_eq_true rfl, Nat.le_of_ble_eq_true rfl⟩ (fun r4 hr4 => ?_)
        refine x_if_eq (pc := 97) (t := 105) g dX12_line_97 (by decide) ?_ ?_
        · refine x_aload_n (pc := 105) (i := 0) (a := 0) g dX12_line_105 rfl rfl ?_
          refine x_ldc2 (pc := 106) g dX12_line_106 kc_12_122 ?_
          refine x_Vi (pc := 109) g hM [.long 1684365670] [] (c_M_isWord l G hM m 1684365670) dX12_line_109 ml_12_248 (sm_0) rfl rfl (Nat.le_of_ble_eq_true rfl) ⟨rfl, rfl, Nat.le_of_ble_eq_true rfl, Nat.le_of_ble_eq_true rfl⟩ (fun r5 hr5 => ?_)
          refine x_if_eq (pc := 112) (t := 120) g dX12_line_112 (by decide) ?_ ?_
          · refine x_aload_n (pc := 120) (i := 0) (a := 0) g dX12_line_120 rfl rfl ?_
            refine x_ldc2 (pc := 121) g dX12_line_121 kc_12_124 ?_
            refine x_Vi (pc := 124) g hM [.long 495791205988] [] (c_M_isWord l G hM m 495791205988) dX12_line_124 ml_12_248 (sm_0) rfl rfl (Nat.le_of_ble_eq_true rfl) ⟨rfl, rfl, Nat.le_of_ble_eq_true rfl, Nat.le_of_ble_eq_true rfl⟩ (fun r6 hr6 => ?_)
            refine x_if_eq (pc := 127) (t := 135) g dX12_line_127 (by decide) ?_ ?_
            · refine x_aload_n (pc := 135) (i := 0) (a := 0) g dX12_line_135 rfl rfl ?_
              refine x_ldc2 (pc := 136) g dX12_line_136 kc_12_126 ?_
              refine x_Vi (pc := 139) g hM [.long 512735736947] [] (c_M_isWord l G hM m 512735736947) dX12_line_139 ml_12_248 (sm_0) rfl rfl (Nat.le_of_ble_eq_true rfl) ⟨rfl, rfl, Nat.le_of_ble_eq_true rfl, Nat.le_of_ble_eq_true rfl⟩ (fun r7 hr7 => ?_)
              refine x_if_eq (pc := 142) (t := 150) g dX12_line_142 (by decide) ?_ ?_
              · refine x_aload_n (pc := 150) (i := 0) (a := 0) g dX12_line_150 rfl rfl ?_
                refine x_ldc2 (pc := 151) g dX12_line_151 kc_12_128 ?_
                refine x_Vi (pc := 154) g hM [.long 1936225652] [] (c_M_isWord l G hM m 1936225652) dX12_line_154 ml_12_248 (sm_0) rfl rfl (Nat.le_of_ble_eq_true rfl) ⟨rfl, rfl, Nat.le_of_ble_eq_true rfl, Nat.le_of_ble_eq_true rfl⟩ (fun r8 hr8 => ?_)
                refine x_if_ne (pc := 157) (t := 166) g dX12_line_157 (by decide) ?_ ?_
                · refine x_aload_n (pc := 160) (i := 0) (a := 0) g dX12_line_160 rfl rfl ?_
                  refine x_iconst (pc := 161) g dX12_line_161 ic_1 ?_
                  refine x_Vim (pc := 162) g hM [.int 1] [] (c_M_bad l G hM m 1) dX12_line_162 ml_12_217 (sm_0) rfl rfl (Nat.le_of_ble_eq_true rfl) ⟨rfl, rfl, Nat.le_of_ble_eq_true rfl, Nat.le_of_ble_eq_true rfl⟩ (fun r9 hr9 => ?_)
                  exact x_zret (pc := 165) g dX12_line_165 rfl (fun _ _ h => h)
                · refine x_aload_n (pc := 166) (i := 0) (a := 0) g dX12_line_166 rfl rfl ?_
                  refine x_getI (pc := 167) g hM dX12_line_167 fl_12_277 (sm_0) rfl ?_
                  refine x_if_eq (pc := 170) (t := 179) g dX12_line_170 (by decide) ?_ ?_
                  · refine x_aload_n (pc := 179) (i := 0) (a := 0) g dX12_line_179 rfl rfl ?_
                    refine x_iconst (pc := 180) g dX12_line_180 ic_1 ?_
                    refine x_putZ (pc := 181) g hM dX12_line_181 fl_12_277 ft_12_21 (sm_0) rfl (Or.inr rfl) (fun m10 => ?_)
                    refine x_aload_n (pc := 184) (i := 0) (a := 0) g dX12_line_184 rfl rfl ?_
                    refine x_Vv (pc := 185) g hM [] [] (c_M_go l G hM m10) dX12_line_185 ml_12_220 (sm_0) rfl rfl (Nat.le_of_ble_eq_true rfl) ⟨rfl, rfl, Nat.le_of_ble_eq_true rfl, Nat.le_of_ble_eq_true rfl⟩ (fun r11 hr11 => ?_)
                    refine x_aload_n (pc := 188) (i := 0) (a := 0) g dX12_line_188 rfl rfl ?_
                    refine x_iconst (pc := 189) g dX12_line_189 ic_5 ?_
                    refine x_iconst (pc := 190) g dX12_line_190 ic_0 ?_
                    refine x_bipush (pc := 191) g dX12_line_191 bi_23 ?_
                    refine x_Vim (pc := 193) g hM [.int 5, .int 0, .int 23] [] (c_M_puts l G hM r11 5 0 23) dX12_line_193 ml_12_256 (sm_0) rfl rfl (Nat.le_of_ble_eq_true rfl) ⟨rfl, rfl, Nat.le_of_ble_eq_true rfl, Nat.le_of_ble_eq_true rfl⟩ (fun r12 hr12 => ?_)
                    refine x_if_eq (pc := 196) (t := 215) g dX12_line_196 (by decide) ?_ ?_
                    · refine x_iconst (pc := 215) g dX12_line_215 ic_0 ?_
                      exact x_zretc (pc := 216) g dX12_line_216 rfl (Or.inl rfl) (fun _ h => h)
                    · refine x_aload_n (pc := 199) (i := 0) (a := 0) g dX12_line_199 rfl rfl ?_
                      refine x_bipush (pc := 200) g dX12_line_200 bi_6 ?_
                      refine x_iconst (pc := 202) g dX12_line_202 ic_0 ?_
                      refine x_bipush (pc := 203) g dX12_line_203 bi_23 ?_
                      refine x_Vim (pc := 205) g hM [.int 6, .int 0, .int 23] [] (c_M_puts l G hM r12.2 6 0 23) dX12_line_205 ml_12_256 (sm_0) rfl rfl (Nat.le_of_ble_eq_true rfl) ⟨rfl, rfl, Nat.le_of_ble_eq_true rfl, Nat.le_of_ble_eq_true rfl⟩ (fun r13 hr13 => ?_)
                      refine x_if_eq (pc := 208) (t := 215) g dX12_line_208 (by decide) ?_ ?_
                      · refine x_iconst (pc := 215) g dX12_line_215 ic_0 ?_
                        exact x_zretc (pc := 216) g dX12_line_216 rfl (Or.inl rfl) (fun _ h => h)
                      · refine x_iconst (pc := 211) g dX12_line_211 ic_1 ?_
                        refine x_goto (pc := 212) (t := 216) g dX12_line_212 (by decide) ?_
                        exact x_zretc (pc := 216) g dX12_line_216 rfl (Or.inr rfl) (fun _ h => h)
                  · refine x_aload_n (pc := 173) (i := 0) (a := 0) g dX12_line_173 rfl rfl ?_
                    refine x_iconst (pc := 174) g dX12_line_174 ic_3 ?_
                    refine x_Vim (pc := 175) g hM [.int 3] [] (c_M_bad l G hM m 3) dX12_line_175 ml_12_217 (sm_0) rfl rfl (Nat.le_of_ble_eq_true rfl) ⟨rfl, rfl, Nat.le_of_ble_eq_true rfl, Nat.le_of_ble_eq_true rfl⟩ (fun r14 hr14 => ?_)
                    exact x_zret (pc := 178) g dX12_line_178 rfl (fun _ _ h => h)
              · refine x_aload_n (pc := 145) (i := 0) (a := 0) g dX12_line_145 rfl rfl ?_
                refine x_Vim (pc := 146) g hM [] [] (c_M_readWants l G hM m) dX12_line_146 ml_12_274 (sm_0) rfl rfl (Nat.le_of_ble_eq_true rfl) ⟨rfl, rfl, Nat.le_of_ble_eq_true rfl, Nat.le_of_ble_eq_true rfl⟩ (fun r15 hr15 => ?_)
                exact x_zret (pc := 149) g dX12_line_149 rfl (fun _ _ h => h)
            · refine x_aload_n (pc := 130) (i := 0) (a := 0) g dX12_line_130 rfl rfl ?_
              refine x_Vim (pc := 131) g hM [] [] (c_M_readSound l G hM m) dX12_line_131 ml_12_271 (sm_0) rfl rfl (Nat.le_of_ble_eq_true rfl) ⟨rfl, rfl, Nat.le_of_ble_eq_true rfl, Nat.le_of_ble_eq_true rfl⟩ (fun r16 hr16 => ?_)
              exact x_zret (pc := 134) g dX12_line_134 rfl (fun _ _ h => h)
          · refine x_aload_n (pc := 115) (i := 0) (a := 0) g dX12_line_115 rfl rfl ?_
            refine x_Vim (pc := 116) g hM [] [] (c_M_readDeaf l G hM m) dX12_line_116 ml_12_268 (sm_0) rfl rfl (Nat.le_of_ble_eq_true rfl) ⟨rfl, rfl, Nat.le_of_ble_eq_true rfl, Nat.le_of_ble_eq_true rfl⟩ (fun r17 hr17 => ?_)
            exact x_zret (pc := 119) g dX12_line_119 rfl (fun _ _ h => h)
        · refine x_aload_n (pc := 100) (i := 0) (a := 0) g dX12_line_100 rfl rfl ?_
          refine x_Vim (pc := 101) g hM [] [] (c_M_readBad l G hM m) dX12_line_101 ml_12_265 (sm_0) rfl rfl (Nat.le_of_ble_eq_true rfl) ⟨rfl, rfl, Nat.le_of_ble_eq_true rfl, Nat.le_of_ble_eq_true rfl⟩ (fun r18 hr18 => ?_)
          exact x_zret (pc := 104) g dX12_line_104 rfl (fun _ _ h => h)
      · refine x_aload_n (pc := 85) (i := 0) (a := 0) g dX12_line_85 rfl rfl ?_
        refine x_Vim (pc := 86) g hM [] [] (c_M_readOwl l G hM m) dX12_line_86 ml_12_262 (sm_0) rfl rfl (Nat.le_of_ble_eq_true rfl) ⟨rfl, rfl, Nat.le_of_ble_eq_true rfl, Nat.le_of_ble_eq_true rfl⟩ (fun r19 hr19 => ?_)
        exact x_zret (pc := 89) g dX12_line_89 rfl (fun _ _ h => h)
    · refine x_aload_n (pc := 70) (i := 0) (a := 0) g dX12_line_70 rfl rfl ?_
      refine x_Vim (pc := 71) g hM [] [] (c_M_readBed l G hM m) dX12_line_71 ml_12_259 (sm_0) rfl rfl (Nat.le_of_ble_eq_true rfl) ⟨rfl, rfl, Nat.le_of_ble_eq_true rfl, Nat.le_of_ble_eq_true rfl⟩ (fun r20 hr20 => ?_)
      exact x_zret (pc := 74) g dX12_line_74 rfl (fun _ _ h => h)
  · refine x_aload_n (pc := 10) (i := 0) (a := 0) g dX12_line_10 rfl rfl ?_
    refine x_getI (pc := 11) g hM dX12_line_11 fl_12_252 (sm_0) rfl ?_
    refine x_if_eq (pc := 14) (t := 23) g dX12_line_14 (by decide) ?_ ?_
    · refine x_aload_n (pc := 23) (i := 0) (a := 0) g dX12_line_23 rfl rfl ?_
      refine x_iconst (pc := 24) g dX12_line_24 ic_1 ?_
      refine x_putZ (pc := 25) g hM dX12_line_25 fl_12_252 ft_12_20 (sm_0) rfl (Or.inr rfl) (fun m21 => ?_)
      refine x_aload_n (pc := 28) (i := 0) (a := 0) g dX12_line_28 rfl rfl ?_
      refine x_Vv (pc := 29) g hM [] [] (c_M_go l G hM m21) dX12_line_29 ml_12_220 (sm_0) rfl rfl (Nat.le_of_ble_eq_true rfl) ⟨rfl, rfl, Nat.le_of_ble_eq_true rfl, Nat.le_of_ble_eq_true rfl⟩ (fun r22 hr22 => ?_)
      refine x_aload_n (pc := 32) (i := 0) (a := 0) g dX12_line_32 rfl rfl ?_
      refine x_iconst (pc := 33) g dX12_line_33 ic_3 ?_
      refine x_iconst (pc := 34) g dX12_line_34 ic_2 ?_
      refine x_bipush (pc := 35) g dX12_line_35 bi_9 ?_
      refine x_Vim (pc := 37) g hM [.int 3, .int 2, .int 9] [] (c_M_puts l G hM r22 3 2 9) dX12_line_37 ml_12_256 (sm_0) rfl rfl (Nat.le_of_ble_eq_true rfl) ⟨rfl, rfl, Nat.le_of_ble_eq_true rfl, Nat.le_of_ble_eq_true rfl⟩ (fun r23 hr23 => ?_)
      refine x_if_eq (pc := 40) (t := 58) g dX12_line_40 (by decide) ?_ ?_
      · refine x_iconst (pc := 58) g dX12_line_58 ic_0 ?_
        exact x_zretc (pc := 59) g dX12_line_59 rfl (Or.inl rfl) (fun _ h => h)
      · refine x_aload_n (pc := 43) (i := 0) (a := 0) g dX12_line_43 rfl rfl ?_
        refine x_iconst (pc := 44) g dX12_line_44 ic_4 ?_
        refine x_iconst (pc := 45) g dX12_line_45 ic_2 ?_
        refine x_bipush (pc := 46) g dX12_line_46 bi_9 ?_
        refine x_Vim (pc := 48) g hM [.int 4, .int 2, .int 9] [] (c_M_puts l G hM r23.2 4 2 9) dX12_line_48 ml_12_256 (sm_0) rfl rfl (Nat.le_of_ble_eq_true rfl) ⟨rfl, rfl, Nat.le_of_ble_eq_true rfl, Nat.le_of_ble_eq_true rfl⟩ (fun r24 hr24 => ?_)
        refine x_if_eq (pc := 51) (t := 58) g dX12_line_51 (by decide) ?_ ?_
        · refine x_iconst (pc := 58) g dX12_line_58 ic_0 ?_
          exact x_zretc (pc := 59) g dX12_line_59 rfl (Or.inl rfl) (fun _ h => h)
        · refine x_iconst (pc := 54) g dX12_line_54 ic_1 ?_
          refine x_goto (pc := 55) (t := 59) g dX12_line_55 (by decide) ?_
          exact x_zretc (pc := 59) g dX12_line_59 rfl (Or.inr rfl) (fun _ h => h)
    · refine x_aload_n (pc := 17) (i := 0) (a := 0) g dX12_line_17 rfl rfl ?_
      refine x_iconst (pc := 18) g dX12_line_18 ic_3 ?_
      refine x_Vim (pc := 19) g hM [.int 3] [] (c_M_bad l G hM m 3) dX12_line_19 ml_12_217 (sm_0) rfl rfl (Nat.le_of_ble_eq_true rfl) ⟨rfl, rfl, Nat.le_of_ble_eq_true rfl, Nat.le_of_ble_eq_true rfl⟩ (fun r25 hr25 => ?_)
      exact x_zret (pc := 22) g dX12_line_22 rfl (fun _ _ h => h)
theorem c_M_line (l : Launch) (G : xG) (hM : WM G) (m : xMem) : xCim l G yX12_line cX12_line 1 (some .boolean) rm_M_line [.ref (xad G 0)] m (M_line m) :=
  xCt_of (own := RX12) (by decide) rfl (Nat.le_of_ble_eq_true rfl) rfl ⟨rfl, rfl⟩ (fun E g => T_M_line hM g m)
theorem T_M_house_b113 {l : Launch} {G : xG} {E : xE} (hM : WM G) (g : xGood E l G.1 RX12 cX12_house yX12_house 2 (some .int) rm_M_house) (k85 : Int32 → xMem → Option (Int32 × xMem)) (hk85 : ∀ (v1 : Int32) (m : xMem), X E G (fun r : Int32 × xMem => (some (Value.int r.1), r.2)) 85 [(0, .ref (xad G 0)), (1, .int v1)] [] m (k85 v1 m)) (v1 : Int32) (s0 : Int32) (s1 : Int32) (m : xMem) : X E G (fun r : Int32 × xMem => (some (Value.int r.1), r.2)) 113 [(0, .ref (xad G 0)), (1, .int v1)] [.int s0, .int s1, .ref (xad G 2)] m (M_house_b113 k85 v1 s0 s1 m) := by
  unfold M_house_b113
  refine x_iast (pc := 113) g hM dX12_house_113 (sm_2) (fun j14 hj14 m13 => ?_)
  refine x_iinc (pc := 114) (a := 1) (lv' := [(1, .int (v1 + 1)), (0, .ref (xad G 0))]) g dX12_house_114 ic_1 rfl (by decide) rfl ?_
  refine x_goto (pc := 117) (t := 85) g dX12_house_117 (by decide) ?_
  exact x_sub [1, 0] (hk85 (v1 + 1) m13) rfl
theorem T_M_house_b151 {l : Launch} {G : xG} {E : xE} (hM : WM G) (g : xGood E l G.1 RX12 cX12_house yX12_house 2 (some .int) rm_M_house) : ∀ (n : Nat) (v1 : Int32) (m : xMem), X E G (fun r : Int32 × xMem => (some (Value.int r.1), r.2)) 151 [(0, .ref (xad G 0)), (1, .int v1)] [] m (M_house_b151 n v1 m) := by
  intro n
  induction n with
  | zero => intro v1 m; exact x_none
  | succ n ih =>
    intro v1 m
    rw [M_house_b151]
    refine x_iload_n (pc := 151) (i := 1) (a := 1) g dX12_house_151 rfl rfl ?_
    refine x_bipush (pc := 152) g dX12_house_152 bi_6 ?_
    refine x_icmp_ge (pc := 154) (t := 181) g dX12_house_154 (by decide) ?_ ?_
    · refine x_aload_n (pc := 157) (i := 0) (a := 0) g dX12_house_157 rfl rfl ?_
      refine x_getR (pc := 158) (x := 2) g hM dX12_house_158 fl_12_33 (sm_0) rfl ?_
      refine x_bipush (pc := 161) g dX12_house_161 bi_103 ?_
      refine x_iload_n (pc := 163) (i := 1) (a := 1) g dX12_house_163 rfl rfl ?_
      refine x_iadd (pc := 164) g dX12_house_164 ?_
      refine x_aload_n (pc := 165) (i := 0) (a := 0) g dX12_house_165 rfl rfl ?_
      refine x_getR (pc := 166) (x := 2) g hM dX12_house_166 fl_12_33 (sm_0) rfl ?_
      refine x_bipush (pc := 169) g dX12_house_169 bi_25 ?_
      refine x_iload_n (pc := 171) (i := 1) (a := 1) g dX12_house_171 rfl rfl ?_
      refine x_iadd (pc := 172) g dX12_house_172 ?_
      refine x_iald (pc := 173) g hM dX12_house_173 (sm_2) (fun j18 hj18 => ?_)
      refine x_iast (pc := 174) g hM dX12_house_174 (sm_2) (fun j20 hj20 m19 => ?_)
      refine x_iinc (pc := 175) (a := 1) (lv' := [(1, .int (v1 + 1)), (0, .ref (xad G 0))]) g dX12_house_175 ic_1 rfl (by decide) rfl ?_
      refine x_goto (pc := 178) (t := 151) g dX12_house_178 (by decide) ?_
      exact x_sub [1, 0] (ih (v1 + 1) m19) rfl
    · refine x_aload_n (pc := 181) (i := 0) (a := 0) g dX12_house_181 rfl rfl ?_
      refine x_iconst (pc := 182) g dX12_house_182 ic_0 ?_
      refine x_putI (pc := 183) g hM dX12_house_183 fl_12_307 ft_12_24 (sm_0) rfl (fun m21 => ?_)
      refine x_aload_n (pc := 186) (i := 0) (a := 0) g dX12_house_186 rfl rfl ?_
      refine x_getI (pc := 187) g hM dX12_house_187 fl_12_298 (sm_0) rfl ?_
      exact x_iret (pc := 190) g dX12_house_190 rfl (fun _ h => h)
theorem T_M_house_b122 {l : Launch} {G : xG} {E : xE} (hM : WM G) (g : xGood E l G.1 RX12 cX12_house yX12_house 2 (some .int) rm_M_house) : ∀ (n : Nat) (v1 : Int32) (m : xMem), X E G (fun r : Int32 × xMem => (some (Value.int r.1), r.2)) 122 [(0, .ref (xad G 0)), (1, .int v1)] [] m (M_house_b122 n v1 m) := by
  intro n
  induction n with
  | zero => intro v1 m; exact x_none
  | succ n ih =>
    intro v1 m
    rw [M_house_b122]
    refine x_iload_n (pc := 122) (i := 1) (a := 1) g dX12_house_122 rfl rfl ?_
    refine x_bipush (pc := 123) g dX12_house_123 bi_20 ?_
    refine x_icmp_ge (pc := 125) (t := 149) g dX12_house_125 (by decide) ?_ ?_
    · refine x_aload_n (pc := 128) (i := 0) (a := 0) g dX12_house_128 rfl rfl ?_
      refine x_getR (pc := 129) (x := 5) g hM dX12_house_129 fl_12_43 (sm_0) rfl ?_
      refine x_iload_n (pc := 132) (i := 1) (a := 1) g dX12_house_132 rfl rfl ?_
      refine x_aload_n (pc := 133) (i := 0) (a := 0) g dX12_house_133 rfl rfl ?_
      refine x_getR (pc := 134) (x := 5) g hM dX12_house_134 fl_12_43 (sm_0) rfl ?_
      refine x_bipush (pc := 137) g dX12_house_137 bi_20 ?_
      refine x_iload_n (pc := 139) (i := 1) (a := 1) g dX12_house_139 rfl rfl ?_
      refine x_iadd (pc := 140) g dX12_house_140 ?_
      refine x_lald (pc := 141) g hM dX12_house_141 (sm_5) (fun j15 hj15 => ?_)
      refine x_last (pc := 142) g hM dX12_house_142 (sm_5) (fun j17 hj17 m16 => ?_)
      refine x_iinc (pc := 143) (a := 1) (lv' := [(1, .int (v1 + 1)), (0, .ref (xad G 0))]) g dX12_house_143 ic_1 rfl (by decide) rfl ?_
      refine x_goto (pc := 146) (t := 122) g dX12_house_146 (by decide) ?_
      exact x_sub [1, 0] (ih (v1 + 1) m16) rfl
    · refine x_iconst (pc := 149) g dX12_house_149 ic_0 ?_
      refine x_istore_n (pc := 150) (i := 1) (lv' := [(1, .int 0), (0, .ref (xad G 0))]) g dX12_house_150 rfl (by decide) rfl ?_
      exact x_sub [1, 0] (T_M_house_b151 hM g 1000 0 m) rfl
theorem T_M_house_b85 {l : Launch} {G : xG} {E : xE} (hM : WM G) (g : xGood E l G.1 RX12 cX12_house yX12_house 2 (some .int) rm_M_house) : ∀ (n : Nat) (v1 : Int32) (m : xMem), X E G (fun r : Int32 × xMem => (some (Value.int r.1), r.2)) 85 [(0, .ref (xad G 0)), (1, .int v1)] [] m (M_house_b85 n v1 m) := by
  intro n
  induction n with
  | zero => intro v1 m; exact x_none
  | succ n ih =>
    intro v1 m
    rw [M_house_b85]
    refine x_iload_n (pc := 85) (i := 1) (a := 1) g dX12_house_85 rfl rfl ?_
    refine x_sipush (pc := 86) g dX12_house_86 si_302 ?_
    refine x_icmp_ge (pc := 89) (t := 120) g dX12_house_89 (by decide) ?_ ?_
    · refine x_aload_n (pc := 92) (i := 0) (a := 0) g dX12_house_92 rfl rfl ?_
      refine x_getR (pc := 93) (x := 2) g hM dX12_house_93 fl_12_33 (sm_0) rfl ?_
      refine x_iload_n (pc := 96) (i := 1) (a := 1) g dX12_house_96 rfl rfl ?_
      refine x_iload_n (pc := 97) (i := 1) (a := 1) g dX12_house_97 rfl rfl ?_
      refine x_bipush (pc := 98) g dX12_house_98 bi_97 ?_
      refine x_icmp_ge (pc := 100) (t := 112) g dX12_house_100 (by decide) ?_ ?_
      · refine x_aload_n (pc := 103) (i := 0) (a := 0) g dX12_house_103 rfl rfl ?_
        refine x_getR (pc := 104) (x := 3) g hM dX12_house_104 fl_12_37 (sm_0) rfl ?_
        refine x_iload_n (pc := 107) (i := 1) (a := 1) g dX12_house_107 rfl rfl ?_
        refine x_iald (pc := 108) g hM dX12_house_108 (sm_3) (fun j12 hj12 => ?_)
        refine x_goto (pc := 109) (t := 113) g dX12_house_109 (by decide) ?_
        exact x_sub [0, 1] (T_M_house_b113 hM g (M_house_b85 n) ih v1 (m.1 3 j12) v1 m) rfl
      · refine x_iconst (pc := 112) g dX12_house_112 ic_0 ?_
        exact x_sub [0, 1] (T_M_house_b113 hM g (M_house_b85 n) ih v1 0 v1 m) rfl
    · refine x_iconst (pc := 120) g dX12_house_120 ic_0 ?_
      refine x_istore_n (pc := 121) (i := 1) (lv' := [(1, .int 0), (0, .ref (xad G 0))]) g dX12_house_121 rfl (by decide) rfl ?_
      exact x_sub [1, 0] (T_M_house_b122 hM g 1000 0 m) rfl
theorem T_M_house_b40 {l : Launch} {G : xG} {E : xE} (hM : WM G) (g : xGood E l G.1 RX12 cX12_house yX12_house 2 (some .int) rm_M_house) : ∀ (n : Nat) (m : xMem), X E G (fun r : Int32 × xMem => (some (Value.int r.1), r.2)) 40 [(0, .ref (xad G 0))] [] m (M_house_b40 n m) := by
  intro n
  induction n with
  | zero => intro m; exact x_none
  | succ n ih =>
    intro m
    rw [M_house_b40]
    refine x_aload_n (pc := 40) (i := 0) (a := 0) g dX12_house_40 rfl rfl ?_
    refine x_getI (pc := 41) g hM dX12_house_41 fl_12_191 (sm_0) rfl ?_
    refine x_if_eq (pc := 44) (t := 83) g dX12_house_44 (by decide) ?_ ?_
    · refine x_iconst (pc := 83) g dX12_house_83 ic_0 ?_
      refine x_istore_n (pc := 84) (i := 1) (lv' := [(1, .int 0), (0, .ref (xad G 0))]) g dX12_house_84 rfl (by decide) rfl ?_
      exact x_sub [1, 0] (T_M_house_b85 hM g 1000 0 m) rfl
    · refine x_aload_n (pc := 47) (i := 0) (a := 0) g dX12_house_47 rfl rfl ?_
      refine x_Vim (pc := 48) g hM [] [] (c_M_line l G hM m) dX12_house_48 ml_12_301 (sm_0) rfl rfl (Nat.le_of_ble_eq_true rfl) ⟨rfl, rfl, Nat.le_of_ble_eq_true rfl, Nat.le_of_ble_eq_true rfl⟩ (fun r9 hr9 => ?_)
      refine x_if_eq (pc := 51) (t := 63) g dX12_house_51 (by decide) ?_ ?_
      · refine x_iconst (pc := 63) g dX12_house_63 ic_m1 ?_
        refine x_aload_n (pc := 64) (i := 0) (a := 0) g dX12_house_64 rfl rfl ?_
        refine x_getI (pc := 65) g hM dX12_house_65 fl_12_211 (sm_0) rfl ?_
        refine x_isub (pc := 68) g dX12_house_68 ?_
        exact x_iret (pc := 69) g dX12_house_69 rfl (fun _ h => h)
      · refine x_aload_n (pc := 54) (i := 0) (a := 0) g dX12_house_54 rfl rfl ?_
        refine x_bipush (pc := 55) g dX12_house_55 bi_59 ?_
        refine x_Vim (pc := 57) g hM [.int 59] [] (c_M_sign l G hM r9.2 59) dX12_house_57 ml_12_304 (sm_0) rfl rfl (Nat.le_of_ble_eq_true rfl) ⟨rfl, rfl, Nat.le_of_ble_eq_true rfl, Nat.le_of_ble_eq_true rfl⟩ (fun r10 hr10 => ?_)
        refine x_if_ne (pc := 60) (t := 70) g dX12_house_60 (by decide) ?_ ?_
        · refine x_iconst (pc := 63) g dX12_house_63 ic_m1 ?_
          refine x_aload_n (pc := 64) (i := 0) (a := 0) g dX12_house_64 rfl rfl ?_
          refine x_getI (pc := 65) g hM dX12_house_65 fl_12_211 (sm_0) rfl ?_
          refine x_isub (pc := 68) g dX12_house_68 ?_
          exact x_iret (pc := 69) g dX12_house_69 rfl (fun _ h => h)
        · refine x_aload_n (pc := 70) (i := 0) (a := 0) g dX12_house_70 rfl rfl ?_
          refine x_dup (pc := 71) g dX12_house_71 rfl ?_
          refine x_getI (pc := 72) g hM dX12_house_72 fl_12_298 (sm_0) rfl ?_
          refine x_iconst (pc := 75) g dX12_house_75 ic_1 ?_
          refine x_iadd (pc := 76) g dX12_house_76 ?_
          refine x_putI (pc := 77) g hM dX12_house_77 fl_12_298 ft_12_19 (sm_0) rfl (fun m11 => ?_)
          refine x_goto (pc := 80) (t := 40) g dX12_house_80 (by decide) ?_
          exact x_sub [0] (ih m11) rfl
theorem T_M_house {l : Launch} {G : xG} {E : xE} (hM : WM G) (g : xGood E l G.1 RX12 cX12_house yX12_house 2 (some .int) rm_M_house) (m : xMem) : X E G (fun r : Int32 × xMem => (some (Value.int r.1), r.2)) 0 [(0, .ref (xad G 0))] [] m (M_house m) := by
  unfold M_house
  refine x_aload_n (pc := 0) (i := 0) (a := 0) g dX12_house_0 rfl rfl ?_
  refine x_iconst (pc := 1) g dX12_house_1 ic_0 ?_
  refine x_putI (pc := 2) g hM dX12_house_2 fl_12_1 ft_12_0 (sm_0) rfl (fun m1 => ?_)
  refine x_aload_n (pc := 5) (i := 0) (a := 0) g dX12_house_5 rfl rfl ?_
  refine x_sipush (pc := 6) g dX12_house_6 si_900 ?_
  refine x_Vv (pc := 9) g hM [.int 900] [] (c_M_taken l G hM m1 900) dX12_house_9 ml_12_295 (sm_0) rfl rfl (Nat.le_of_ble_eq_true rfl) ⟨rfl, rfl, Nat.le_of_ble_eq_true rfl, Nat.le_of_ble_eq_true rfl⟩ (fun r2 hr2 => ?_)
  refine x_aload_n (pc := 12) (i := 0) (a := 0) g dX12_house_12 rfl rfl ?_
  refine x_iconst (pc := 13) g dX12_house_13 ic_0 ?_
  refine x_putI (pc := 14) g hM dX12_house_14 fl_12_208 ft_12_15 (sm_0) rfl (fun m3 => ?_)
  refine x_aload_n (pc := 17) (i := 0) (a := 0) g dX12_house_17 rfl rfl ?_
  refine x_iconst (pc := 18) g dX12_house_18 ic_0 ?_
  refine x_putI (pc := 19) g hM dX12_house_19 fl_12_298 ft_12_19 (sm_0) rfl (fun m4 => ?_)
  refine x_aload_n (pc := 22) (i := 0) (a := 0) g dX12_house_22 rfl rfl ?_
  refine x_iconst (pc := 23) g dX12_house_23 ic_0 ?_
  refine x_putZ (pc := 24) g hM dX12_house_24 fl_12_252 ft_12_20 (sm_0) rfl (Or.inl rfl) (fun m5 => ?_)
  refine x_aload_n (pc := 27) (i := 0) (a := 0) g dX12_house_27 rfl rfl ?_
  refine x_iconst (pc := 28) g dX12_house_28 ic_0 ?_
  refine x_putZ (pc := 29) g hM dX12_house_29 fl_12_277 ft_12_21 (sm_0) rfl (Or.inl rfl) (fun m6 => ?_)
  refine x_aload_n (pc := 32) (i := 0) (a := 0) g dX12_house_32 rfl rfl ?_
  refine x_Vv (pc := 33) g hM [] [] (c_M_clears l G hM m6) dX12_house_33 ml_12_178 (sm_0) rfl rfl (Nat.le_of_ble_eq_true rfl) ⟨rfl, rfl, Nat.le_of_ble_eq_true rfl, Nat.le_of_ble_eq_true rfl⟩ (fun r7 hr7 => ?_)
  refine x_aload_n (pc := 36) (i := 0) (a := 0) g dX12_house_36 rfl rfl ?_
  refine x_Vv (pc := 37) g hM [] [] (c_M_go l G hM r7) dX12_house_37 ml_12_220 (sm_0) rfl rfl (Nat.le_of_ble_eq_true rfl) ⟨rfl, rfl, Nat.le_of_ble_eq_true rfl, Nat.le_of_ble_eq_true rfl⟩ (fun r8 hr8 => ?_)
  exact x_sub [0] (T_M_house_b40 hM g 1000 r8) rfl
theorem c_M_house (l : Launch) (G : xG) (hM : WM G) (m : xMem) : xCim l G yX12_house cX12_house 2 (some .int) rm_M_house [.ref (xad G 0)] m (M_house m) :=
  xCt_of (own := RX12) (by decide) rfl (Nat.le_of_ble_eq_true rfl) rfl ⟨rfl, rfl⟩ (fun E g => T_M_house hM g m)
theorem T_M_fault {l : Launch} {G : xG} {E : xE} (hM : WM G) (g : xGood E l G.1 RX12 cX12_fault yX12_fault 1 (some .int) rm_M_fault) (m : xMem) : X E G (fun r : Int32 × xMem => (some (Value.int r.1), r.2)) 0 [(0, .ref (xad G 0))] [] m (M_fault m) := by
  unfold M_fault
  refine x_aload_n (pc := 0) (i := 0) (a := 0) g dX12_fault_0 rfl rfl ?_
  refine x_iconst (pc := 1) g dX12_fault_1 ic_0 ?_
  refine x_putI (pc := 2) g hM dX12_fault_2 fl_12_1 ft_12_0 (sm_0) rfl (fun m1 => ?_)
  refine x_aload_n (pc := 5) (i := 0) (a := 0) g dX12_fault_5 rfl rfl ?_
  refine x_getI (pc := 6) g hM dX12_fault_6 fl_12_208 (sm_0) rfl ?_
  exact x_iret (pc := 9) g dX12_fault_9 rfl (fun _ h => h)
theorem c_M_fault (l : Launch) (G : xG) (hM : WM G) (m : xMem) : xCim l G yX12_fault cX12_fault 1 (some .int) rm_M_fault [.ref (xad G 0)] m (M_fault m) :=
  xCt_of (own := RX12) (by decide) rfl (Nat.le_of_ble_eq_true rfl) rfl ⟨rfl, rfl⟩ (fun E g => T_M_fault hM g m)
theorem T_M_isBed {l : Launch} {G : xG} {E : xE} (hM : WM G) (g : xGood E l G.1 RX12 cX12_isBed yX12_isBed 2 (some .boolean) rm_M_isBed) (m : xMem) (p0 : Int32) : X E G (fun r : Int32 => (some (Value.int r), m)) 0 [(0, .ref (xad G 0)), (1, .int p0)] [] m (M_isBed m p0) := by
  unfold M_isBed
  refine x_iload_n (pc := 0) (i := 1) (a := 1) g dX12_isBed_0 rfl rfl ?_
  refine x_iconst (pc := 1) g dX12_isBed_1 ic_0 ?_
  refine x_aload_n (pc := 2) (i := 0) (a := 0) g dX12_isBed_2 rfl rfl ?_
  refine x_getR (pc := 3) (x := 2) g hM dX12_isBed_3 fl_12_33 (sm_0) rfl ?_
  refine x_iconst (pc := 6) g dX12_isBed_6 ic_0 ?_
  refine x_ialdc (pc := 7) g hM dX12_isBed_7 (sm_2) ix_0_302 ?_
  refine x_iconst (pc := 8) g dX12_isBed_8 ic_1 ?_
  refine x_isub (pc := 9) g dX12_isBed_9 ?_
  refine x_Si (pc := 10) g [.int p0, .int 0, .int ((m.1 2 0) - 1)] [] (c_M_isIn l G hM m p0 0 ((m.1 2 0) - 1)) dX12_isBed_10 ms_12_223 rfl rfl (Nat.le_of_ble_eq_true rfl) ⟨rfl, rfl, Nat.le_of_ble_eq_true rfl, Nat.le_of_ble_eq_true rfl⟩ (fun r1 hr1 => ?_)
  exact x_zret (pc := 13) g dX12_isBed_13 rfl (fun _ _ h => h)
theorem c_M_isBed (l : Launch) (G : xG) (hM : WM G) (m : xMem) (p0 : Int32) : xCi l G yX12_isBed cX12_isBed 2 (some .boolean) rm_M_isBed [.ref (xad G 0), .int p0] m (M_isBed m p0) :=
  xCt_of (own := RX12) (by decide) rfl (Nat.le_of_ble_eq_true rfl) rfl ⟨rfl, rfl⟩ (fun E g => T_M_isBed hM g m p0)
theorem T_M_isOwl {l : Launch} {G : xG} {E : xE} (hM : WM G) (g : xGood E l G.1 RX12 cX12_isOwl yX12_isOwl 2 (some .boolean) rm_M_isOwl) (m : xMem) (p0 : Int32) : X E G (fun r : Int32 => (some (Value.int r), m)) 0 [(0, .ref (xad G 0)), (1, .int p0)] [] m (M_isOwl m p0) := by
  unfold M_isOwl
  refine x_iload_n (pc := 0) (i := 1) (a := 1) g dX12_isOwl_0 rfl rfl ?_
  refine x_iconst (pc := 1) g dX12_isOwl_1 ic_0 ?_
  refine x_aload_n (pc := 2) (i := 0) (a := 0) g dX12_isOwl_2 rfl rfl ?_
  refine x_getR (pc := 3) (x := 2) g hM dX12_isOwl_3 fl_12_33 (sm_0) rfl ?_
  refine x_iconst (pc := 6) g dX12_isOwl_6 ic_1 ?_
  refine x_ialdc (pc := 7) g hM dX12_isOwl_7 (sm_2) ix_1_302 ?_
  refine x_iconst (pc := 8) g dX12_isOwl_8 ic_1 ?_
  refine x_isub (pc := 9) g dX12_isOwl_9 ?_
  refine x_Si (pc := 10) g [.int p0, .int 0, .int ((m.1 2 1) - 1)] [] (c_M_isIn l G hM m p0 0 ((m.1 2 1) - 1)) dX12_isOwl_10 ms_12_223 rfl rfl (Nat.le_of_ble_eq_true rfl) ⟨rfl, rfl, Nat.le_of_ble_eq_true rfl, Nat.le_of_ble_eq_true rfl⟩ (fun r1 hr1 => ?_)
  exact x_zret (pc := 13) g dX12_isOwl_13 rfl (fun _ _ h => h)
theorem c_M_isOwl (l : Launch) (G : xG) (hM : WM G) (m : xMem) (p0 : Int32) : xCi l G yX12_isOwl cX12_isOwl 2 (some .boolean) rm_M_isOwl [.ref (xad G 0), .int p0] m (M_isOwl m p0) :=
  xCt_of (own := RX12) (by decide) rfl (Nat.le_of_ble_eq_true rfl) rfl ⟨rfl, rfl⟩ (fun E g => T_M_isOwl hM g m p0)
theorem T_M_isSound {l : Launch} {G : xG} {E : xE} (hM : WM G) (g : xGood E l G.1 RX12 cX12_isSound yX12_isSound 2 (some .boolean) rm_M_isSound) (m : xMem) (p0 : Int32) : X E G (fun r : Int32 => (some (Value.int r), m)) 0 [(0, .ref (xad G 0)), (1, .int p0)] [] m (M_isSound m p0) := by
  unfold M_isSound
  refine x_iload_n (pc := 0) (i := 1) (a := 1) g dX12_isSound_0 rfl rfl ?_
  refine x_iconst (pc := 1) g dX12_isSound_1 ic_0 ?_
  refine x_aload_n (pc := 2) (i := 0) (a := 0) g dX12_isSound_2 rfl rfl ?_
  refine x_getR (pc := 3) (x := 2) g hM dX12_isSound_3 fl_12_33 (sm_0) rfl ?_
  refine x_iconst (pc := 6) g dX12_isSound_6 ic_2 ?_
  refine x_ialdc (pc := 7) g hM dX12_isSound_7 (sm_2) ix_2_302 ?_
  refine x_iconst (pc := 8) g dX12_isSound_8 ic_1 ?_
  refine x_isub (pc := 9) g dX12_isSound_9 ?_
  refine x_Si (pc := 10) g [.int p0, .int 0, .int ((m.1 2 2) - 1)] [] (c_M_isIn l G hM m p0 0 ((m.1 2 2) - 1)) dX12_isSound_10 ms_12_223 rfl rfl (Nat.le_of_ble_eq_true rfl) ⟨rfl, rfl, Nat.le_of_ble_eq_true rfl, Nat.le_of_ble_eq_true rfl⟩ (fun r1 hr1 => ?_)
  exact x_zret (pc := 13) g dX12_isSound_13 rfl (fun _ _ h => h)
theorem c_M_isSound (l : Launch) (G : xG) (hM : WM G) (m : xMem) (p0 : Int32) : xCi l G yX12_isSound cX12_isSound 2 (some .boolean) rm_M_isSound [.ref (xad G 0), .int p0] m (M_isSound m p0) :=
  xCt_of (own := RX12) (by decide) rfl (Nat.le_of_ble_eq_true rfl) rfl ⟨rfl, rfl⟩ (fun E g => T_M_isSound hM g m p0)
theorem T_M_isCell {l : Launch} {G : xG} {E : xE} (hM : WM G) (g : xGood E l G.1 RX12 cX12_isCell yX12_isCell 3 (some .boolean) rm_M_isCell) (m : xMem) (p0 : Int32) (p1 : Int32) : X E G (fun r : Int32 => (some (Value.int r), m)) 0 [(0, .ref (xad G 0)), (1, .int p0), (2, .int p1)] [] m (M_isCell m p0 p1) := by
  unfold M_isCell
  refine x_iload_n (pc := 0) (i := 1) (a := 1) g dX12_isCell_0 rfl rfl ?_
  refine x_iconst (pc := 1) g dX12_isCell_1 ic_0 ?_
  refine x_aload_n (pc := 2) (i := 0) (a := 0) g dX12_isCell_2 rfl rfl ?_
  refine x_getR (pc := 3) (x := 2) g hM dX12_isCell_3 fl_12_33 (sm_0) rfl ?_
  refine x_iconst (pc := 6) g dX12_isCell_6 ic_3 ?_
  refine x_ialdc (pc := 7) g hM dX12_isCell_7 (sm_2) ix_3_302 ?_
  refine x_iconst (pc := 8) g dX12_isCell_8 ic_1 ?_
  refine x_isub (pc := 9) g dX12_isCell_9 ?_
  refine x_Si (pc := 10) g [.int p0, .int 0, .int ((m.1 2 3) - 1)] [] (c_M_isIn l G hM m p0 0 ((m.1 2 3) - 1)) dX12_isCell_10 ms_12_223 rfl rfl (Nat.le_of_ble_eq_true rfl) ⟨rfl, rfl, Nat.le_of_ble_eq_true rfl, Nat.le_of_ble_eq_true rfl⟩ (fun r1 hr1 => ?_)
  refine x_if_eq (pc := 13) (t := 36) g dX12_isCell_13 (by decide) ?_ ?_
  · refine x_iconst (pc := 36) g dX12_isCell_36 ic_0 ?_
    exact x_zretc (pc := 37) g dX12_isCell_37 rfl (Or.inl rfl) (fun _ h => h)
  · refine x_iload_n (pc := 16) (i := 2) (a := 2) g dX12_isCell_16 rfl rfl ?_
    refine x_iconst (pc := 17) g dX12_isCell_17 ic_0 ?_
    refine x_aload_n (pc := 18) (i := 0) (a := 0) g dX12_isCell_18 rfl rfl ?_
    refine x_getR (pc := 19) (x := 2) g hM dX12_isCell_19 fl_12_33 (sm_0) rfl ?_
    refine x_iconst (pc := 22) g dX12_isCell_22 ic_4 ?_
    refine x_ialdc (pc := 23) g hM dX12_isCell_23 (sm_2) ix_4_302 ?_
    refine x_iconst (pc := 24) g dX12_isCell_24 ic_1 ?_
    refine x_isub (pc := 25) g dX12_isCell_25 ?_
    refine x_Si (pc := 26) g [.int p1, .int 0, .int ((m.1 2 4) - 1)] [] (c_M_isIn l G hM m p1 0 ((m.1 2 4) - 1)) dX12_isCell_26 ms_12_223 rfl rfl (Nat.le_of_ble_eq_true rfl) ⟨rfl, rfl, Nat.le_of_ble_eq_true rfl, Nat.le_of_ble_eq_true rfl⟩ (fun r2 hr2 => ?_)
    refine x_if_eq (pc := 29) (t := 36) g dX12_isCell_29 (by decide) ?_ ?_
    · refine x_iconst (pc := 36) g dX12_isCell_36 ic_0 ?_
      exact x_zretc (pc := 37) g dX12_isCell_37 rfl (Or.inl rfl) (fun _ h => h)
    · refine x_iconst (pc := 32) g dX12_isCell_32 ic_1 ?_
      refine x_goto (pc := 33) (t := 37) g dX12_isCell_33 (by decide) ?_
      exact x_zretc (pc := 37) g dX12_isCell_37 rfl (Or.inr rfl) (fun _ h => h)
theorem c_M_isCell (l : Launch) (G : xG) (hM : WM G) (m : xMem) (p0 : Int32) (p1 : Int32) : xCi l G yX12_isCell cX12_isCell 3 (some .boolean) rm_M_isCell [.ref (xad G 0), .int p0, .int p1] m (M_isCell m p0 p1) :=
  xCt_of (own := RX12) (by decide) rfl (Nat.le_of_ble_eq_true rfl) rfl ⟨rfl, rfl⟩ (fun E g => T_M_isCell hM g m p0 p1)
theorem T_M_isHour {l : Launch} {G : xG} {E : xE} (hM : WM G) (g : xGood E l G.1 RX12 cX12_isHour yX12_isHour 3 (some .boolean) rm_M_isHour) (m : xMem) (p0 : Int32) (p1 : Int32) (p2 : Int32) : X E G (fun r : Int32 => (some (Value.int r), m)) 0 [(0, .int p0), (1, .int p1), (2, .int p2)] [] m (M_isHour m p0 p1 p2) := by
  unfold M_isHour
  refine x_iload_n (pc := 0) (i := 1) (a := 1) g dX12_isHour_0 rfl rfl ?_
  refine x_iload_n (pc := 1) (i := 2) (a := 2) g dX12_isHour_1 rfl rfl ?_
  refine x_icmp_gt (pc := 2) (t := 14) g dX12_isHour_2 (by decide) ?_ ?_
  · refine x_iload_n (pc := 14) (i := 0) (a := 0) g dX12_isHour_14 rfl rfl ?_
    refine x_iload_n (pc := 15) (i := 1) (a := 1) g dX12_isHour_15 rfl rfl ?_
    refine x_icmp_ge (pc := 16) (t := 24) g dX12_isHour_16 (by decide) ?_ ?_
    · refine x_iload_n (pc := 19) (i := 0) (a := 0) g dX12_isHour_19 rfl rfl ?_
      refine x_iload_n (pc := 20) (i := 2) (a := 2) g dX12_isHour_20 rfl rfl ?_
      refine x_icmp_gt (pc := 21) (t := 28) g dX12_isHour_21 (by decide) ?_ ?_
      · refine x_iconst (pc := 28) g dX12_isHour_28 ic_0 ?_
        exact x_zretc (pc := 29) g dX12_isHour_29 rfl (Or.inl rfl) (fun _ h => h)
      · refine x_iconst (pc := 24) g dX12_isHour_24 ic_1 ?_
        refine x_goto (pc := 25) (t := 29) g dX12_isHour_25 (by decide) ?_
        exact x_zretc (pc := 29) g dX12_isHour_29 rfl (Or.inr rfl) (fun _ h => h)
    · refine x_iconst (pc := 24) g dX12_isHour_24 ic_1 ?_
      refine x_goto (pc := 25) (t := 29) g dX12_isHour_25 (by decide) ?_
      exact x_zretc (pc := 29) g dX12_isHour_29 rfl (Or.inr rfl) (fun _ h => h)
  · refine x_iload_n (pc := 5) (i := 0) (a := 0) g dX12_isHour_5 rfl rfl ?_
    refine x_iload_n (pc := 6) (i := 1) (a := 1) g dX12_isHour_6 rfl rfl ?_
    refine x_iload_n (pc := 7) (i := 2) (a := 2) g dX12_isHour_7 rfl rfl ?_
    refine x_Si (pc := 8) g [.int p0, .int p1, .int p2] [] (c_M_isIn l G hM m p0 p1 p2) dX12_isHour_8 ms_12_223 rfl rfl (Nat.le_of_ble_eq_true rfl) ⟨rfl, rfl, Nat.le_of_ble_eq_true rfl, Nat.le_of_ble_eq_true rfl⟩ (fun r1 hr1 => ?_)
    refine x_goto (pc := 11) (t := 29) g dX12_isHour_11 (by decide) ?_
    exact x_zret (pc := 29) g dX12_isHour_29 rfl (fun _ _ h => h)
theorem c_M_isHour (l : Launch) (G : xG) (hM : WM G) (m : xMem) (p0 : Int32) (p1 : Int32) (p2 : Int32) : xCi l G yX12_isHour cX12_isHour 3 (some .boolean) rm_M_isHour [.int p0, .int p1, .int p2] m (M_isHour m p0 p1 p2) :=
  xCt_of (own := RX12) (by decide) rfl (Nat.le_of_ble_eq_true rfl) rfl ⟨rfl, rfl⟩ (fun E g => T_M_isHour hM g m p0 p1 p2)
theorem T_M_isShut {l : Launch} {G : xG} {E : xE} (hM : WM G) (g : xGood E l G.1 RX12 cX12_isShut yX12_isShut 1 (some .boolean) rm_M_isShut) (m : xMem) : X E G (fun r : Int32 => (some (Value.int r), m)) 0 [(0, .ref (xad G 0))] [] m (M_isShut m) := by
  unfold M_isShut
  refine x_aload_n (pc := 0) (i := 0) (a := 0) g dX12_isShut_0 rfl rfl ?_
  refine x_getR (pc := 1) (x := 2) g hM dX12_isShut_1 fl_12_33 (sm_0) rfl ?_
  refine x_bipush (pc := 4) g dX12_isShut_4 bi_97 ?_
  refine x_ialdc (pc := 6) g hM dX12_isShut_6 (sm_2) ix_97_302 ?_
  refine x_bipush (pc := 7) g dX12_isShut_7 bi_24 ?_
  refine x_irem (pc := 9) g dX12_isShut_9 (by decide) ?_
  refine x_aload_n (pc := 10) (i := 0) (a := 0) g dX12_isShut_10 rfl rfl ?_
  refine x_getR (pc := 11) (x := 2) g hM dX12_isShut_11 fl_12_33 (sm_0) rfl ?_
  refine x_iconst (pc := 14) g dX12_isShut_14 ic_5 ?_
  refine x_ialdc (pc := 15) g hM dX12_isShut_15 (sm_2) ix_5_302 ?_
  refine x_aload_n (pc := 16) (i := 0) (a := 0) g dX12_isShut_16 rfl rfl ?_
  refine x_getR (pc := 17) (x := 2) g hM dX12_isShut_17 fl_12_33 (sm_0) rfl ?_
  refine x_bipush (pc := 20) g dX12_isShut_20 bi_6 ?_
  refine x_ialdc (pc := 22) g hM dX12_isShut_22 (sm_2) ix_6_302 ?_
  refine x_Si (pc := 23) g [.int (i_rem (m.1 2 97) 24), .int (m.1 2 5), .int (m.1 2 6)] [] (c_M_isHour l G hM m (i_rem (m.1 2 97) 24) (m.1 2 5) (m.1 2 6)) dX12_isShut_23 ms_12_310 rfl rfl (Nat.le_of_ble_eq_true rfl) ⟨rfl, rfl, Nat.le_of_ble_eq_true rfl, Nat.le_of_ble_eq_true rfl⟩ (fun r1 hr1 => ?_)
  exact x_zret (pc := 26) g dX12_isShut_26 rfl (fun _ _ h => h)
theorem c_M_isShut (l : Launch) (G : xG) (hM : WM G) (m : xMem) : xCi l G yX12_isShut cX12_isShut 1 (some .boolean) rm_M_isShut [.ref (xad G 0)] m (M_isShut m) :=
  xCt_of (own := RX12) (by decide) rfl (Nat.le_of_ble_eq_true rfl) rfl ⟨rfl, rfl⟩ (fun E g => T_M_isShut hM g m)
theorem T_M_isOn {l : Launch} {G : xG} {E : xE} (hM : WM G) (g : xGood E l G.1 RX12 cX12_isOn yX12_isOn 2 (some .boolean) rm_M_isOn) (m : xMem) (p0 : Int32) : X E G (fun r : Int32 => (some (Value.int r), m)) 0 [(0, .ref (xad G 0)), (1, .int p0)] [] m (M_isOn m p0) := by
  unfold M_isOn
  refine x_iload_n (pc := 0) (i := 1) (a := 1) g dX12_isOn_0 rfl rfl ?_
  refine x_aload_n (pc := 1) (i := 0) (a := 0) g dX12_isOn_1 rfl rfl ?_
  refine x_getR (pc := 2) (x := 2) g hM dX12_isOn_2 fl_12_33 (sm_0) rfl ?_
  refine x_iconst (pc := 5) g dX12_isOn_5 ic_2 ?_
  refine x_ialdc (pc := 6) g hM dX12_isOn_6 (sm_2) ix_2_302 ?_
  refine x_icmp_ne (pc := 7) (t := 26) g dX12_isOn_7 (by decide) ?_ ?_
  · refine x_aload_n (pc := 10) (i := 0) (a := 0) g dX12_isOn_10 rfl rfl ?_
    refine x_getR (pc := 11) (x := 2) g hM dX12_isOn_11 fl_12_33 (sm_0) rfl ?_
    refine x_bipush (pc := 14) g dX12_isOn_14 bi_100 ?_
    refine x_ialdc (pc := 16) g hM dX12_isOn_16 (sm_2) ix_100_302 ?_
    refine x_if_le (pc := 17) (t := 24) g dX12_isOn_17 (by decide) ?_ ?_
    · refine x_iconst (pc := 20) g dX12_isOn_20 ic_1 ?_
      refine x_goto (pc := 21) (t := 25) g dX12_isOn_21 (by decide) ?_
      exact x_zretc (pc := 25) g dX12_isOn_25 rfl (Or.inr rfl) (fun _ h => h)
    · refine x_iconst (pc := 24) g dX12_isOn_24 ic_0 ?_
      exact x_zretc (pc := 25) g dX12_isOn_25 rfl (Or.inl rfl) (fun _ h => h)
  · refine x_aload_n (pc := 26) (i := 0) (a := 0) g dX12_isOn_26 rfl rfl ?_
    refine x_getR (pc := 27) (x := 2) g hM dX12_isOn_27 fl_12_33 (sm_0) rfl ?_
    refine x_bipush (pc := 30) g dX12_isOn_30 bi_98 ?_
    refine x_ialdc (pc := 32) g hM dX12_isOn_32 (sm_2) ix_98_302 ?_
    refine x_iload_n (pc := 33) (i := 1) (a := 1) g dX12_isOn_33 rfl rfl ?_
    refine x_Si (pc := 34) g [.int (m.1 2 98), .int p0] [] (c_M_bitOf l G hM m (m.1 2 98) p0) dX12_isOn_34 ms_12_292 rfl rfl (Nat.le_of_ble_eq_true rfl) ⟨rfl, rfl, Nat.le_of_ble_eq_true rfl, Nat.le_of_ble_eq_true rfl⟩ (fun r1 hr1 => ?_)
    refine x_if_ne (pc := 37) (t := 78) g dX12_isOn_37 (by decide) ?_ ?_
    · refine x_aload_n (pc := 40) (i := 0) (a := 0) g dX12_isOn_40 rfl rfl ?_
      refine x_getR (pc := 41) (x := 2) g hM dX12_isOn_41 fl_12_33 (sm_0) rfl ?_
      refine x_bipush (pc := 44) g dX12_isOn_44 bi_97 ?_
      refine x_ialdc (pc := 46) g hM dX12_isOn_46 (sm_2) ix_97_302 ?_
      refine x_bipush (pc := 47) g dX12_isOn_47 bi_24 ?_
      refine x_irem (pc := 49) g dX12_isOn_49 (by decide) ?_
      refine x_aload_n (pc := 50) (i := 0) (a := 0) g dX12_isOn_50 rfl rfl ?_
      refine x_getR (pc := 51) (x := 2) g hM dX12_isOn_51 fl_12_33 (sm_0) rfl ?_
      refine x_bipush (pc := 54) g dX12_isOn_54 bi_81 ?_
      refine x_iload_n (pc := 56) (i := 1) (a := 1) g dX12_isOn_56 rfl rfl ?_
      refine x_iadd (pc := 57) g dX12_isOn_57 ?_
      refine x_iald (pc := 58) g hM dX12_isOn_58 (sm_2) (fun j2 hj2 => ?_)
      refine x_aload_n (pc := 59) (i := 0) (a := 0) g dX12_isOn_59 rfl rfl ?_
      refine x_getR (pc := 60) (x := 2) g hM dX12_isOn_60 fl_12_33 (sm_0) rfl ?_
      refine x_bipush (pc := 63) g dX12_isOn_63 bi_89 ?_
      refine x_iload_n (pc := 65) (i := 1) (a := 1) g dX12_isOn_65 rfl rfl ?_
      refine x_iadd (pc := 66) g dX12_isOn_66 ?_
      refine x_iald (pc := 67) g hM dX12_isOn_67 (sm_2) (fun j3 hj3 => ?_)
      refine x_Si (pc := 68) g [.int (i_rem (m.1 2 97) 24), .int (m.1 2 j2), .int (m.1 2 j3)] [] (c_M_isHour l G hM m (i_rem (m.1 2 97) 24) (m.1 2 j2) (m.1 2 j3)) dX12_isOn_68 ms_12_310 rfl rfl (Nat.le_of_ble_eq_true rfl) ⟨rfl, rfl, Nat.le_of_ble_eq_true rfl, Nat.le_of_ble_eq_true rfl⟩ (fun r4 hr4 => ?_)
      refine x_if_eq (pc := 71) (t := 78) g dX12_isOn_71 (by decide) ?_ ?_
      · refine x_iconst (pc := 78) g dX12_isOn_78 ic_0 ?_
        exact x_zretc (pc := 79) g dX12_isOn_79 rfl (Or.inl rfl) (fun _ h => h)
      · refine x_iconst (pc := 74) g dX12_isOn_74 ic_1 ?_
        refine x_goto (pc := 75) (t := 79) g dX12_isOn_75 (by decide) ?_
        exact x_zretc (pc := 79) g dX12_isOn_79 rfl (Or.inr rfl) (fun _ h => h)
    · refine x_iconst (pc := 78) g dX12_isOn_78 ic_0 ?_
      exact x_zretc (pc := 79) g dX12_isOn_79 rfl (Or.inl rfl) (fun _ h => h)
theorem c_M_isOn (l : Launch) (G : xG) (hM : WM G) (m : xMem) (p0 : Int32) : xCi l G yX12_isOn cX12_isOn 2 (some .boolean) rm_M_isOn [.ref (xad G 0), .int p0] m (M_isOn m p0) :=
  xCt_of (own := RX12) (by decide) rfl (Nat.le_of_ble_eq_true rfl) rfl ⟨rfl, rfl⟩ (fun E g => T_M_isOn hM g m p0)
theorem T_M_xOf {l : Launch} {G : xG} {E : xE} (hM : WM G) (g : xGood E l G.1 RX12 cX12_xOf yX12_xOf 2 (some .int) rm_M_xOf) (m : xMem) (p0 : Int32) : X E G (fun r : Int32 => (some (Value.int r), m)) 0 [(0, .ref (xad G 0)), (1, .int p0)] [] m (M_xOf m p0) := by
  unfold M_xOf
  refine x_iload_n (pc := 0) (i := 1) (a := 1) g dX12_xOf_0 rfl rfl ?_
  refine x_aload_n (pc := 1) (i := 0) (a := 0) g dX12_xOf_1 rfl rfl ?_
  refine x_getR (pc := 2) (x := 2) g hM dX12_xOf_2 fl_12_33 (sm_0) rfl ?_
  refine x_iconst (pc := 5) g dX12_xOf_5 ic_2 ?_
  refine x_ialdc (pc := 6) g hM dX12_xOf_6 (sm_2) ix_2_302 ?_
  refine x_icmp_ne (pc := 7) (t := 20) g dX12_xOf_7 (by decide) ?_ ?_
  · refine x_aload_n (pc := 10) (i := 0) (a := 0) g dX12_xOf_10 rfl rfl ?_
    refine x_getR (pc := 11) (x := 2) g hM dX12_xOf_11 fl_12_33 (sm_0) rfl ?_
    refine x_bipush (pc := 14) g dX12_xOf_14 bi_101 ?_
    refine x_ialdc (pc := 16) g hM dX12_xOf_16 (sm_2) ix_101_302 ?_
    refine x_goto (pc := 17) (t := 29) g dX12_xOf_17 (by decide) ?_
    exact x_iret (pc := 29) g dX12_xOf_29 rfl (fun _ h => h)
  · refine x_aload_n (pc := 20) (i := 0) (a := 0) g dX12_xOf_20 rfl rfl ?_
    refine x_getR (pc := 21) (x := 2) g hM dX12_xOf_21 fl_12_33 (sm_0) rfl ?_
    refine x_bipush (pc := 24) g dX12_xOf_24 bi_57 ?_
    refine x_iload_n (pc := 26) (i := 1) (a := 1) g dX12_xOf_26 rfl rfl ?_
    refine x_iadd (pc := 27) g dX12_xOf_27 ?_
    refine x_iald (pc := 28) g hM dX12_xOf_28 (sm_2) (fun j1 hj1 => ?_)
    exact x_iret (pc := 29) g dX12_xOf_29 rfl (fun _ h => h)
theorem c_M_xOf (l : Launch) (G : xG) (hM : WM G) (m : xMem) (p0 : Int32) : xCi l G yX12_xOf cX12_xOf 2 (some .int) rm_M_xOf [.ref (xad G 0), .int p0] m (M_xOf m p0) :=
  xCt_of (own := RX12) (by decide) rfl (Nat.le_of_ble_eq_true rfl) rfl ⟨rfl, rfl⟩ (fun E g => T_M_xOf hM g m p0)
theorem T_M_yOf {l : Launch} {G : xG} {E : xE} (hM : WM G) (g : xGood E l G.1 RX12 cX12_yOf yX12_yOf 2 (some .int) rm_M_yOf) (m : xMem) (p0 : Int32) : X E G (fun r : Int32 => (some (Value.int r), m)) 0 [(0, .ref (xad G 0)), (1, .int p0)] [] m (M_yOf m p0) := by
  unfold M_yOf
  refine x_iload_n (pc := 0) (i := 1) (a := 1) g dX12_yOf_0 rfl rfl ?_
  refine x_aload_n (pc := 1) (i := 0) (a := 0) g dX12_yOf_1 rfl rfl ?_
  refine x_getR (pc := 2) (x := 2) g hM dX12_yOf_2 fl_12_33 (sm_0) rfl ?_
  refine x_iconst (pc := 5) g dX12_yOf_5 ic_2 ?_
  refine x_ialdc (pc := 6) g hM dX12_yOf_6 (sm_2) ix_2_302 ?_
  refine x_icmp_ne (pc := 7) (t := 20) g dX12_yOf_7 (by decide) ?_ ?_
  · refine x_aload_n (pc := 10) (i := 0) (a := 0) g dX12_yOf_10 rfl rfl ?_
    refine x_getR (pc := 11) (x := 2) g hM dX12_yOf_11 fl_12_33 (sm_0) rfl ?_
    refine x_bipush (pc := 14) g dX12_yOf_14 bi_102 ?_
    refine x_ialdc (pc := 16) g hM dX12_yOf_16 (sm_2) ix_102_302 ?_
    refine x_goto (pc := 17) (t := 29) g dX12_yOf_17 (by decide) ?_
    exact x_iret (pc := 29) g dX12_yOf_29 rfl (fun _ h => h)
  · refine x_aload_n (pc := 20) (i := 0) (a := 0) g dX12_yOf_20 rfl rfl ?_
    refine x_getR (pc := 21) (x := 2) g hM dX12_yOf_21 fl_12_33 (sm_0) rfl ?_
    refine x_bipush (pc := 24) g dX12_yOf_24 bi_65 ?_
    refine x_iload_n (pc := 26) (i := 1) (a := 1) g dX12_yOf_26 rfl rfl ?_
    refine x_iadd (pc := 27) g dX12_yOf_27 ?_
    refine x_iald (pc := 28) g hM dX12_yOf_28 (sm_2) (fun j1 hj1 => ?_)
    exact x_iret (pc := 29) g dX12_yOf_29 rfl (fun _ h => h)
theorem c_M_yOf (l : Launch) (G : xG) (hM : WM G) (m : xMem) (p0 : Int32) : xCi l G yX12_yOf cX12_yOf 2 (some .int) rm_M_yOf [.ref (xad G 0), .int p0] m (M_yOf m p0) :=
  xCt_of (own := RX12) (by decide) rfl (Nat.le_of_ble_eq_true rfl) rfl ⟨rfl, rfl⟩ (fun E g => T_M_yOf hM g m p0)
theorem T_M_farFrom {l : Launch} {G : xG} {E : xE} (hM : WM G) (g : xGood E l G.1 RX12 cX12_farFrom yX12_farFrom 4 (some .int) rm_M_farFrom) (m : xMem) (p0 : Int32) (p1 : Int32) (p2 : Int32) : X E G (fun r : Int32 => (some (Value.int r), m)) 0 [(0, .ref (xad G 0)), (1, .int p0), (2, .int p1), (3, .int p2)] [] m (M_farFrom m p0 p1 p2) := by
  unfold M_farFrom
  refine x_iload_n (pc := 0) (i := 2) (a := 2) g dX12_farFrom_0 rfl rfl ?_
  refine x_aload_n (pc := 1) (i := 0) (a := 0) g dX12_farFrom_1 rfl rfl ?_
  refine x_getR (pc := 2) (x := 2) g hM dX12_farFrom_2 fl_12_33 (sm_0) rfl ?_
  refine x_bipush (pc := 5) g dX12_farFrom_5 bi_7 ?_
  refine x_iload_n (pc := 7) (i := 1) (a := 1) g dX12_farFrom_7 rfl rfl ?_
  refine x_iadd (pc := 8) g dX12_farFrom_8 ?_
  refine x_iald (pc := 9) g hM dX12_farFrom_9 (sm_2) (fun j1 hj1 => ?_)
  refine x_isub (pc := 10) g dX12_farFrom_10 ?_
  refine x_Si (pc := 11) g [.int (p1 - (m.1 2 j1))] [] (c_M_absolute l G hM m (p1 - (m.1 2 j1))) dX12_farFrom_11 ms_12_313 rfl rfl (Nat.le_of_ble_eq_true rfl) ⟨rfl, rfl, Nat.le_of_ble_eq_true rfl, Nat.le_of_ble_eq_true rfl⟩ (fun r2 hr2 => ?_)
  refine x_iload_n (pc := 14) (i := 3) (a := 3) g dX12_farFrom_14 rfl rfl ?_
  refine x_aload_n (pc := 15) (i := 0) (a := 0) g dX12_farFrom_15 rfl rfl ?_
  refine x_getR (pc := 16) (x := 2) g hM dX12_farFrom_16 fl_12_33 (sm_0) rfl ?_
  refine x_bipush (pc := 19) g dX12_farFrom_19 bi_13 ?_
  refine x_iload_n (pc := 21) (i := 1) (a := 1) g dX12_farFrom_21 rfl rfl ?_
  refine x_iadd (pc := 22) g dX12_farFrom_22 ?_
  refine x_iald (pc := 23) g hM dX12_farFrom_23 (sm_2) (fun j3 hj3 => ?_)
  refine x_isub (pc := 24) g dX12_farFrom_24 ?_
  refine x_Si (pc := 25) g [.int (p2 - (m.1 2 j3))] [.int r2] (c_M_absolute l G hM m (p2 - (m.1 2 j3))) dX12_farFrom_25 ms_12_313 rfl rfl (Nat.le_of_ble_eq_true rfl) ⟨rfl, rfl, Nat.le_of_ble_eq_true rfl, Nat.le_of_ble_eq_true rfl⟩ (fun r4 hr4 => ?_)
  refine x_iadd (pc := 28) g dX12_farFrom_28 ?_
  exact x_iret (pc := 29) g dX12_farFrom_29 rfl (fun _ h => h)
theorem c_M_farFrom (l : Launch) (G : xG) (hM : WM G) (m : xMem) (p0 : Int32) (p1 : Int32) (p2 : Int32) : xCi l G yX12_farFrom cX12_farFrom 4 (some .int) rm_M_farFrom [.ref (xad G 0), .int p0, .int p1, .int p2] m (M_farFrom m p0 p1 p2) :=
  xCt_of (own := RX12) (by decide) rfl (Nat.le_of_ble_eq_true rfl) rfl ⟨rfl, rfl⟩ (fun E g => T_M_farFrom hM g m p0 p1 p2)
theorem T_M_sideOf_b38 {l : Launch} {G : xG} {E : xE} (hM : WM G) (g : xGood E l G.1 RX12 cX12_sideOf yX12_sideOf 6 (some .int) rm_M_sideOf) (m : xMem) (p0 : Int32) (p1 : Int32) (p2 : Int32) (v4 : Int32) (v5 : Int32) : X E G (fun r : Int32 => (some (Value.int r), m)) 38 [(4, .int v4), (5, .int v5)] [] m (M_sideOf_b38 m p0 p1 p2 v4 v5) := by
  unfold M_sideOf_b38
  refine x_iload (pc := 38) (a := 0) g dX12_sideOf_38 rfl ?_
  refine x_Si (pc := 40) g [.int v4] [] (c_M_absolute l G hM m v4) dX12_sideOf_40 ms_12_313 rfl rfl (Nat.le_of_ble_eq_true rfl) ⟨rfl, rfl, Nat.le_of_ble_eq_true rfl, Nat.le_of_ble_eq_true rfl⟩ (fun r5 hr5 => ?_)
  refine x_iload (pc := 43) (a := 1) g dX12_sideOf_43 rfl ?_
  refine x_Si (pc := 45) g [.int v5] [.int r5] (c_M_absolute l G hM m v5) dX12_sideOf_45 ms_12_313 rfl rfl (Nat.le_of_ble_eq_true rfl) ⟨rfl, rfl, Nat.le_of_ble_eq_true rfl, Nat.le_of_ble_eq_true rfl⟩ (fun r6 hr6 => ?_)
  refine x_icmp_lt (pc := 48) (t := 62) g dX12_sideOf_48 (by decide) ?_ ?_
  · refine x_iload (pc := 62) (a := 1) g dX12_sideOf_62 rfl ?_
    refine x_if_le (pc := 64) (t := 71) g dX12_sideOf_64 (by decide) ?_ ?_
    · refine x_iconst (pc := 67) g dX12_sideOf_67 ic_1 ?_
      refine x_goto (pc := 68) (t := 72) g dX12_sideOf_68 (by decide) ?_
      exact x_iret (pc := 72) g dX12_sideOf_72 rfl (fun _ h => h)
    · refine x_iconst (pc := 71) g dX12_sideOf_71 ic_3 ?_
      exact x_iret (pc := 72) g dX12_sideOf_72 rfl (fun _ h => h)
  · refine x_iload (pc := 51) (a := 0) g dX12_sideOf_51 rfl ?_
    refine x_if_le (pc := 53) (t := 60) g dX12_sideOf_53 (by decide) ?_ ?_
    · refine x_iconst (pc := 56) g dX12_sideOf_56 ic_0 ?_
      refine x_goto (pc := 57) (t := 61) g dX12_sideOf_57 (by decide) ?_
      exact x_iret (pc := 61) g dX12_sideOf_61 rfl (fun _ h => h)
    · refine x_iconst (pc := 60) g dX12_sideOf_60 ic_2 ?_
      exact x_iret (pc := 61) g dX12_sideOf_61 rfl (fun _ h => h)
theorem T_M_sideOf {l : Launch} {G : xG} {E : xE} (hM : WM G) (g : xGood E l G.1 RX12 cX12_sideOf yX12_sideOf 6 (some .int) rm_M_sideOf) (m : xMem) (p0 : Int32) (p1 : Int32) (p2 : Int32) : X E G (fun r : Int32 => (some (Value.int r), m)) 0 [(0, .ref (xad G 0)), (1, .int p0), (2, .int p1), (3, .int p2)] [] m (M_sideOf m p0 p1 p2) := by
  unfold M_sideOf
  refine x_iload_n (pc := 0) (i := 2) (a := 2) g dX12_sideOf_0 rfl rfl ?_
  refine x_aload_n (pc := 1) (i := 0) (a := 0) g dX12_sideOf_1 rfl rfl ?_
  refine x_getR (pc := 2) (x := 2) g hM dX12_sideOf_2 fl_12_33 (sm_0) rfl ?_
  refine x_bipush (pc := 5) g dX12_sideOf_5 bi_7 ?_
  refine x_iload_n (pc := 7) (i := 1) (a := 1) g dX12_sideOf_7 rfl rfl ?_
  refine x_iadd (pc := 8) g dX12_sideOf_8 ?_
  refine x_iald (pc := 9) g hM dX12_sideOf_9 (sm_2) (fun j1 hj1 => ?_)
  refine x_isub (pc := 10) g dX12_sideOf_10 ?_
  refine x_nmI (fun x2 => ?_)
  refine x_istore (pc := 11) (lv' := [(4, .int x2), (0, .ref (xad G 0)), (1, .int p0), (2, .int p1), (3, .int p2)]) g dX12_sideOf_11 (by decide) rfl ?_
  refine x_iload_n (pc := 13) (i := 3) (a := 4) g dX12_sideOf_13 rfl rfl ?_
  refine x_aload_n (pc := 14) (i := 0) (a := 1) g dX12_sideOf_14 rfl rfl ?_
  refine x_getR (pc := 15) (x := 2) g hM dX12_sideOf_15 fl_12_33 (sm_0) rfl ?_
  refine x_bipush (pc := 18) g dX12_sideOf_18 bi_13 ?_
  refine x_iload_n (pc := 20) (i := 1) (a := 2) g dX12_sideOf_20 rfl rfl ?_
  refine x_iadd (pc := 21) g dX12_sideOf_21 ?_
  refine x_iald (pc := 22) g hM dX12_sideOf_22 (sm_2) (fun j3 hj3 => ?_)
  refine x_isub (pc := 23) g dX12_sideOf_23 ?_
  refine x_nmI (fun x4 => ?_)
  refine x_istore (pc := 24) (lv' := [(5, .int x4), (4, .int x2), (0, .ref (xad G 0)), (1, .int p0), (2, .int p1), (3, .int p2)]) g dX12_sideOf_24 (by decide) rfl ?_
  refine x_iload (pc := 26) (a := 1) g dX12_sideOf_26 rfl ?_
  refine x_if_ne (pc := 28) (t := 38) g dX12_sideOf_28 (by decide) ?_ ?_
  · refine x_iload (pc := 31) (a := 0) g dX12_sideOf_31 rfl ?_
    refine x_if_ne (pc := 33) (t := 38) g dX12_sideOf_33 (by decide) ?_ ?_
    · refine x_iconst (pc := 36) g dX12_sideOf_36 ic_4 ?_
      exact x_iret (pc := 37) g dX12_sideOf_37 rfl (fun _ h => h)
    · exact x_sub [1, 0] (T_M_sideOf_b38 hM g m p0 p1 p2 x2 x4) rfl
  · exact x_sub [1, 0] (T_M_sideOf_b38 hM g m p0 p1 p2 x2 x4) rfl
theorem c_M_sideOf (l : Launch) (G : xG) (hM : WM G) (m : xMem) (p0 : Int32) (p1 : Int32) (p2 : Int32) : xCi l G yX12_sideOf cX12_sideOf 6 (some .int) rm_M_sideOf [.ref (xad G 0), .int p0, .int p1, .int p2] m (M_sideOf m p0 p1 p2) :=
  xCt_of (own := RX12) (by decide) rfl (Nat.le_of_ble_eq_true rfl) rfl ⟨rfl, rfl⟩ (fun E g => T_M_sideOf hM g m p0 p1 p2)
theorem T_M_loudAt_b29 {l : Launch} {G : xG} {E : xE} (hM : WM G) (g : xGood E l G.1 RX12 cX12_loudAt yX12_loudAt 3 (some .int) rm_M_loudAt) (m : xMem) (p0 : Int32) (p1 : Int32) (s0 : Int32) : X E G (fun r : Int32 => (some (Value.int r), m)) 29 [(0, .ref (xad G 0)), (1, .int p0), (2, .int p1)] [.int s0] m (M_loudAt_b29 m p0 p1 s0) := by
  unfold M_loudAt_b29
  refine x_aload_n (pc := 29) (i := 0) (a := 0) g dX12_loudAt_29 rfl rfl ?_
  refine x_iload_n (pc := 30) (i := 2) (a := 2) g dX12_loudAt_30 rfl rfl ?_
  refine x_aload_n (pc := 31) (i := 0) (a := 0) g dX12_loudAt_31 rfl rfl ?_
  refine x_iload_n (pc := 32) (i := 1) (a := 1) g dX12_loudAt_32 rfl rfl ?_
  refine x_Vi (pc := 33) g hM [.int p0] [.int p1, .ref (xad G 0), .int s0] (c_M_xOf l G hM m p0) dX12_loudAt_33 ml_12_317 (sm_0) rfl rfl (Nat.le_of_ble_eq_true rfl) ⟨rfl, rfl, Nat.le_of_ble_eq_true rfl, Nat.le_of_ble_eq_true rfl⟩ (fun r2 hr2 => ?_)
  refine x_aload_n (pc := 36) (i := 0) (a := 0) g dX12_loudAt_36 rfl rfl ?_
  refine x_iload_n (pc := 37) (i := 1) (a := 1) g dX12_loudAt_37 rfl rfl ?_
  refine x_Vi (pc := 38) g hM [.int p0] [.int r2, .int p1, .ref (xad G 0), .int s0] (c_M_yOf l G hM m p0) dX12_loudAt_38 ml_12_320 (sm_0) rfl rfl (Nat.le_of_ble_eq_true rfl) ⟨rfl, rfl, Nat.le_of_ble_eq_true rfl, Nat.le_of_ble_eq_true rfl⟩ (fun r3 hr3 => ?_)
  refine x_Vi (pc := 41) g hM [.int p1, .int r2, .int r3] [.int s0] (c_M_farFrom l G hM m p1 r2 r3) dX12_loudAt_41 ml_12_323 (sm_0) rfl rfl (Nat.le_of_ble_eq_true rfl) ⟨rfl, rfl, Nat.le_of_ble_eq_true rfl, Nat.le_of_ble_eq_true rfl⟩ (fun r4 hr4 => ?_)
  refine x_isub (pc := 44) g dX12_loudAt_44 ?_
  exact x_iret (pc := 45) g dX12_loudAt_45 rfl (fun _ h => h)
theorem T_M_loudAt {l : Launch} {G : xG} {E : xE} (hM : WM G) (g : xGood E l G.1 RX12 cX12_loudAt yX12_loudAt 3 (some .int) rm_M_loudAt) (m : xMem) (p0 : Int32) (p1 : Int32) : X E G (fun r : Int32 => (some (Value.int r), m)) 0 [(0, .ref (xad G 0)), (1, .int p0), (2, .int p1)] [] m (M_loudAt m p0 p1) := by
  unfold M_loudAt
  refine x_iload_n (pc := 0) (i := 1) (a := 1) g dX12_loudAt_0 rfl rfl ?_
  refine x_aload_n (pc := 1) (i := 0) (a := 0) g dX12_loudAt_1 rfl rfl ?_
  refine x_getR (pc := 2) (x := 2) g hM dX12_loudAt_2 fl_12_33 (sm_0) rfl ?_
  refine x_iconst (pc := 5) g dX12_loudAt_5 ic_2 ?_
  refine x_ialdc (pc := 6) g hM dX12_loudAt_6 (sm_2) ix_2_302 ?_
  refine x_icmp_ne (pc := 7) (t := 20) g dX12_loudAt_7 (by decide) ?_ ?_
  · refine x_aload_n (pc := 10) (i := 0) (a := 0) g dX12_loudAt_10 rfl rfl ?_
    refine x_getR (pc := 11) (x := 2) g hM dX12_loudAt_11 fl_12_33 (sm_0) rfl ?_
    refine x_bipush (pc := 14) g dX12_loudAt_14 bi_100 ?_
    refine x_ialdc (pc := 16) g hM dX12_loudAt_16 (sm_2) ix_100_302 ?_
    refine x_goto (pc := 17) (t := 29) g dX12_loudAt_17 (by decide) ?_
    exact x_sub [0, 1, 2] (T_M_loudAt_b29 hM g m p0 p1 (m.1 2 100)) rfl
  · refine x_aload_n (pc := 20) (i := 0) (a := 0) g dX12_loudAt_20 rfl rfl ?_
    refine x_getR (pc := 21) (x := 2) g hM dX12_loudAt_21 fl_12_33 (sm_0) rfl ?_
    refine x_bipush (pc := 24) g dX12_loudAt_24 bi_73 ?_
    refine x_iload_n (pc := 26) (i := 1) (a := 1) g dX12_loudAt_26 rfl rfl ?_
    refine x_iadd (pc := 27) g dX12_loudAt_27 ?_
    refine x_iald (pc := 28) g hM dX12_loudAt_28 (sm_2) (fun j1 hj1 => ?_)
    exact x_sub [0, 1, 2] (T_M_loudAt_b29 hM g m p0 p1 (m.1 2 j1)) rfl
theorem c_M_loudAt (l : Launch) (G : xG) (hM : WM G) (m : xMem) (p0 : Int32) (p1 : Int32) : xCi l G yX12_loudAt cX12_loudAt 3 (some .int) rm_M_loudAt [.ref (xad G 0), .int p0, .int p1] m (M_loudAt m p0 p1) :=
  xCt_of (own := RX12) (by decide) rfl (Nat.le_of_ble_eq_true rfl) rfl ⟨rfl, rfl⟩ (fun E g => T_M_loudAt hM g m p0 p1)
theorem T_M_kindOf {l : Launch} {G : xG} {E : xE} (hM : WM G) (g : xGood E l G.1 RX12 cX12_kindOf yX12_kindOf 2 (some .int) rm_M_kindOf) (m : xMem) (p0 : Int32) : X E G (fun r : Int32 => (some (Value.int r), m)) 0 [(0, .ref (xad G 0)), (1, .int p0)] [] m (M_kindOf m p0) := by
  unfold M_kindOf
  refine x_iload_n (pc := 0) (i := 1) (a := 1) g dX12_kindOf_0 rfl rfl ?_
  refine x_aload_n (pc := 1) (i := 0) (a := 0) g dX12_kindOf_1 rfl rfl ?_
  refine x_getR (pc := 2) (x := 2) g hM dX12_kindOf_2 fl_12_33 (sm_0) rfl ?_
  refine x_iconst (pc := 5) g dX12_kindOf_5 ic_2 ?_
  refine x_ialdc (pc := 6) g hM dX12_kindOf_6 (sm_2) ix_2_302 ?_
  refine x_icmp_ne (pc := 7) (t := 14) g dX12_kindOf_7 (by decide) ?_ ?_
  · refine x_iconst (pc := 10) g dX12_kindOf_10 ic_1 ?_
    refine x_goto (pc := 11) (t := 23) g dX12_kindOf_11 (by decide) ?_
    exact x_iret (pc := 23) g dX12_kindOf_23 rfl (fun _ h => h)
  · refine x_aload_n (pc := 14) (i := 0) (a := 0) g dX12_kindOf_14 rfl rfl ?_
    refine x_getR (pc := 15) (x := 2) g hM dX12_kindOf_15 fl_12_33 (sm_0) rfl ?_
    refine x_bipush (pc := 18) g dX12_kindOf_18 bi_49 ?_
    refine x_iload_n (pc := 20) (i := 1) (a := 1) g dX12_kindOf_20 rfl rfl ?_
    refine x_iadd (pc := 21) g dX12_kindOf_21 ?_
    refine x_iald (pc := 22) g hM dX12_kindOf_22 (sm_2) (fun j1 hj1 => ?_)
    exact x_iret (pc := 23) g dX12_kindOf_23 rfl (fun _ h => h)
theorem c_M_kindOf (l : Launch) (G : xG) (hM : WM G) (m : xMem) (p0 : Int32) : xCi l G yX12_kindOf cX12_kindOf 2 (some .int) rm_M_kindOf [.ref (xad G 0), .int p0] m (M_kindOf m p0) :=
  xCt_of (own := RX12) (by decide) rfl (Nat.le_of_ble_eq_true rfl) rfl ⟨rfl, rfl⟩ (fun E g => T_M_kindOf hM g m p0)
theorem T_M_isHeard {l : Launch} {G : xG} {E : xE} (hM : WM G) (g : xGood E l G.1 RX12 cX12_isHeard yX12_isHeard 7 (some .boolean) rm_M_isHeard) (m : xMem) (p0 : Int32) (p1 : Int32) (p2 : Int32) (p3 : Int32) (p4 : Int32) (p5 : Int32) : X E G (fun r : Int32 => (some (Value.int r), m)) 0 [(0, .ref (xad G 0)), (1, .int p0), (2, .int p1), (3, .int p2), (4, .int p3), (5, .int p4), (6, .int p5)] [] m (M_isHeard m p0 p1 p2 p3 p4 p5) := by
  unfold M_isHeard
  refine x_aload_n (pc := 0) (i := 0) (a := 0) g dX12_isHeard_0 rfl rfl ?_
  refine x_getR (pc := 1) (x := 2) g hM dX12_isHeard_1 fl_12_33 (sm_0) rfl ?_
  refine x_bipush (pc := 4) g dX12_isHeard_4 bi_43 ?_
  refine x_iload_n (pc := 6) (i := 1) (a := 1) g dX12_isHeard_6 rfl rfl ?_
  refine x_iadd (pc := 7) g dX12_isHeard_7 ?_
  refine x_iald (pc := 8) g hM dX12_isHeard_8 (sm_2) (fun j1 hj1 => ?_)
  refine x_iload_n (pc := 9) (i := 3) (a := 3) g dX12_isHeard_9 rfl rfl ?_
  refine x_Si (pc := 10) g [.int (m.1 2 j1), .int p2] [] (c_M_bitOf l G hM m (m.1 2 j1) p2) dX12_isHeard_10 ms_12_292 rfl rfl (Nat.le_of_ble_eq_true rfl) ⟨rfl, rfl, Nat.le_of_ble_eq_true rfl, Nat.le_of_ble_eq_true rfl⟩ (fun r2 hr2 => ?_)
  refine x_if_ne (pc := 13) (t := 67) g dX12_isHeard_13 (by decide) ?_ ?_
  · refine x_aload_n (pc := 16) (i := 0) (a := 0) g dX12_isHeard_16 rfl rfl ?_
    refine x_iload_n (pc := 17) (i := 2) (a := 2) g dX12_isHeard_17 rfl rfl ?_
    refine x_iload (pc := 18) (a := 4) g dX12_isHeard_18 rfl ?_
    refine x_iload (pc := 20) (a := 5) g dX12_isHeard_20 rfl ?_
    refine x_Vi (pc := 22) g hM [.int p1, .int p3, .int p4] [] (c_M_sideOf l G hM m p1 p3 p4) dX12_isHeard_22 ml_12_327 (sm_0) rfl rfl (Nat.le_of_ble_eq_true rfl) ⟨rfl, rfl, Nat.le_of_ble_eq_true rfl, Nat.le_of_ble_eq_true rfl⟩ (fun r3 hr3 => ?_)
    refine x_aload_n (pc := 25) (i := 0) (a := 0) g dX12_isHeard_25 rfl rfl ?_
    refine x_getR (pc := 26) (x := 2) g hM dX12_isHeard_26 fl_12_33 (sm_0) rfl ?_
    refine x_bipush (pc := 29) g dX12_isHeard_29 bi_37 ?_
    refine x_iload_n (pc := 31) (i := 1) (a := 1) g dX12_isHeard_31 rfl rfl ?_
    refine x_iadd (pc := 32) g dX12_isHeard_32 ?_
    refine x_iald (pc := 33) g hM dX12_isHeard_33 (sm_2) (fun j4 hj4 => ?_)
    refine x_iconst (pc := 34) g dX12_isHeard_34 ic_1 ?_
    refine x_isub (pc := 35) g dX12_isHeard_35 ?_
    refine x_icmp_eq (pc := 36) (t := 67) g dX12_isHeard_36 (by decide) ?_ ?_
    · refine x_iconst (pc := 67) g dX12_isHeard_67 ic_0 ?_
      exact x_zretc (pc := 68) g dX12_isHeard_68 rfl (Or.inl rfl) (fun _ h => h)
    · refine x_iload (pc := 39) (a := 6) g dX12_isHeard_39 rfl ?_
      refine x_aload_n (pc := 41) (i := 0) (a := 0) g dX12_isHeard_41 rfl rfl ?_
      refine x_iload_n (pc := 42) (i := 2) (a := 2) g dX12_isHeard_42 rfl rfl ?_
      refine x_iload (pc := 43) (a := 4) g dX12_isHeard_43 rfl ?_
      refine x_iload (pc := 45) (a := 5) g dX12_isHeard_45 rfl ?_
      refine x_Vi (pc := 47) g hM [.int p1, .int p3, .int p4] [.int p5] (c_M_farFrom l G hM m p1 p3 p4) dX12_isHeard_47 ml_12_323 (sm_0) rfl rfl (Nat.le_of_ble_eq_true rfl) ⟨rfl, rfl, Nat.le_of_ble_eq_true rfl, Nat.le_of_ble_eq_true rfl⟩ (fun r5 hr5 => ?_)
      refine x_isub (pc := 50) g dX12_isHeard_50 ?_
      refine x_aload_n (pc := 51) (i := 0) (a := 0) g dX12_isHeard_51 rfl rfl ?_
      refine x_getR (pc := 52) (x := 2) g hM dX12_isHeard_52 fl_12_33 (sm_0) rfl ?_
      refine x_bipush (pc := 55) g dX12_isHeard_55 bi_31 ?_
      refine x_iload_n (pc := 57) (i := 1) (a := 1) g dX12_isHeard_57 rfl rfl ?_
      refine x_iadd (pc := 58) g dX12_isHeard_58 ?_
      refine x_iald (pc := 59) g hM dX12_isHeard_59 (sm_2) (fun j6 hj6 => ?_)
      refine x_icmp_lt (pc := 60) (t := 67) g dX12_isHeard_60 (by decide) ?_ ?_
      · refine x_iconst (pc := 67) g dX12_isHeard_67 ic_0 ?_
        exact x_zretc (pc := 68) g dX12_isHeard_68 rfl (Or.inl rfl) (fun _ h => h)
      · refine x_iconst (pc := 63) g dX12_isHeard_63 ic_1 ?_
        refine x_goto (pc := 64) (t := 68) g dX12_isHeard_64 (by decide) ?_
        exact x_zretc (pc := 68) g dX12_isHeard_68 rfl (Or.inr rfl) (fun _ h => h)
  · refine x_iconst (pc := 67) g dX12_isHeard_67 ic_0 ?_
    exact x_zretc (pc := 68) g dX12_isHeard_68 rfl (Or.inl rfl) (fun _ h => h)
theorem c_M_isHeard (l : Launch) (G : xG) (hM : WM G) (m : xMem) (p0 : Int32) (p1 : Int32) (p2 : Int32) (p3 : Int32) (p4 : Int32) (p5 : Int32) : xCi l G yX12_isHeard cX12_isHeard 7 (some .boolean) rm_M_isHeard [.ref (xad G 0), .int p0, .int p1, .int p2, .int p3, .int p4, .int p5] m (M_isHeard m p0 p1 p2 p3 p4 p5) :=
  xCt_of (own := RX12) (by decide) rfl (Nat.le_of_ble_eq_true rfl) rfl ⟨rfl, rfl⟩ (fun E g => T_M_isHeard hM g m p0 p1 p2 p3 p4 p5)
theorem T_M_hearsOne_b47 {l : Launch} {G : xG} {E : xE} (hM : WM G) (g : xGood E l G.1 RX12 cX12_hearsOne yX12_hearsOne 4 (some .boolean) rm_M_hearsOne) (m : xMem) (p0 : Int32) (p1 : Int32) (p2 : Int32) (s0 : Int32) (s1 : Int32) (s2 : Int32) (s3 : Int32) : X E G (fun r : Int32 => (some (Value.int r), m)) 47 [] [.int s0, .int s1, .int s2, .int s3, .int p1, .int p0, .ref (xad G 0)] m (M_hearsOne_b47 m p0 p1 p2 s0 s1 s2 s3) := by
  unfold M_hearsOne_b47
  refine x_Vi (pc := 47) g hM [.int p0, .int p1, .int s3, .int s2, .int s1, .int s0] [] (c_M_isHeard l G hM m p0 p1 s3 s2 s1 s0) dX12_hearsOne_47 ml_12_333 (sm_0) rfl rfl (Nat.le_of_ble_eq_true rfl) ⟨rfl, rfl, Nat.le_of_ble_eq_true rfl, Nat.le_of_ble_eq_true rfl⟩ (fun r5 hr5 => ?_)
  exact x_zret (pc := 50) g dX12_hearsOne_50 rfl (fun _ _ h => h)
theorem T_M_hearsOne {l : Launch} {G : xG} {E : xE} (hM : WM G) (g : xGood E l G.1 RX12 cX12_hearsOne yX12_hearsOne 4 (some .boolean) rm_M_hearsOne) (m : xMem) (p0 : Int32) (p1 : Int32) (p2 : Int32) : X E G (fun r : Int32 => (some (Value.int r), m)) 0 [(0, .ref (xad G 0)), (1, .int p0), (2, .int p1), (3, .int p2)] [] m (M_hearsOne m p0 p1 p2) := by
  unfold M_hearsOne
  refine x_aload_n (pc := 0) (i := 0) (a := 0) g dX12_hearsOne_0 rfl rfl ?_
  refine x_iload_n (pc := 1) (i := 1) (a := 1) g dX12_hearsOne_1 rfl rfl ?_
  refine x_iload_n (pc := 2) (i := 2) (a := 2) g dX12_hearsOne_2 rfl rfl ?_
  refine x_aload_n (pc := 3) (i := 0) (a := 0) g dX12_hearsOne_3 rfl rfl ?_
  refine x_iload_n (pc := 4) (i := 3) (a := 3) g dX12_hearsOne_4 rfl rfl ?_
  refine x_Vi (pc := 5) g hM [.int p2] [.int p1, .int p0, .ref (xad G 0)] (c_M_kindOf l G hM m p2) dX12_hearsOne_5 ml_12_330 (sm_0) rfl rfl (Nat.le_of_ble_eq_true rfl) ⟨rfl, rfl, Nat.le_of_ble_eq_true rfl, Nat.le_of_ble_eq_true rfl⟩ (fun r1 hr1 => ?_)
  refine x_aload_n (pc := 8) (i := 0) (a := 0) g dX12_hearsOne_8 rfl rfl ?_
  refine x_iload_n (pc := 9) (i := 3) (a := 3) g dX12_hearsOne_9 rfl rfl ?_
  refine x_Vi (pc := 10) g hM [.int p2] [.int r1, .int p1, .int p0, .ref (xad G 0)] (c_M_xOf l G hM m p2) dX12_hearsOne_10 ml_12_317 (sm_0) rfl rfl (Nat.le_of_ble_eq_true rfl) ⟨rfl, rfl, Nat.le_of_ble_eq_true rfl, Nat.le_of_ble_eq_true rfl⟩ (fun r2 hr2 => ?_)
  refine x_aload_n (pc := 13) (i := 0) (a := 0) g dX12_hearsOne_13 rfl rfl ?_
  refine x_iload_n (pc := 14) (i := 3) (a := 3) g dX12_hearsOne_14 rfl rfl ?_
  refine x_Vi (pc := 15) g hM [.int p2] [.int r2, .int r1, .int p1, .int p0, .ref (xad G 0)] (c_M_yOf l G hM m p2) dX12_hearsOne_15 ml_12_320 (sm_0) rfl rfl (Nat.le_of_ble_eq_true rfl) ⟨rfl, rfl, Nat.le_of_ble_eq_true rfl, Nat.le_of_ble_eq_true rfl⟩ (fun r3 hr3 => ?_)
  refine x_iload_n (pc := 18) (i := 3) (a := 3) g dX12_hearsOne_18 rfl rfl ?_
  refine x_aload_n (pc := 19) (i := 0) (a := 0) g dX12_hearsOne_19 rfl rfl ?_
  refine x_getR (pc := 20) (x := 2) g hM dX12_hearsOne_20 fl_12_33 (sm_0) rfl ?_
  refine x_iconst (pc := 23) g dX12_hearsOne_23 ic_2 ?_
  refine x_ialdc (pc := 24) g hM dX12_hearsOne_24 (sm_2) ix_2_302 ?_
  refine x_icmp_ne (pc := 25) (t := 38) g dX12_hearsOne_25 (by decide) ?_ ?_
  · refine x_aload_n (pc := 28) (i := 0) (a := 0) g dX12_hearsOne_28 rfl rfl ?_
    refine x_getR (pc := 29) (x := 2) g hM dX12_hearsOne_29 fl_12_33 (sm_0) rfl ?_
    refine x_bipush (pc := 32) g dX12_hearsOne_32 bi_100 ?_
    refine x_ialdc (pc := 34) g hM dX12_hearsOne_34 (sm_2) ix_100_302 ?_
    refine x_goto (pc := 35) (t := 47) g dX12_hearsOne_35 (by decide) ?_
    exact x_sub [] (T_M_hearsOne_b47 hM g m p0 p1 p2 (m.1 2 100) r3 r2 r1) rfl
  · refine x_aload_n (pc := 38) (i := 0) (a := 0) g dX12_hearsOne_38 rfl rfl ?_
    refine x_getR (pc := 39) (x := 2) g hM dX12_hearsOne_39 fl_12_33 (sm_0) rfl ?_
    refine x_bipush (pc := 42) g dX12_hearsOne_42 bi_73 ?_
    refine x_iload_n (pc := 44) (i := 3) (a := 3) g dX12_hearsOne_44 rfl rfl ?_
    refine x_iadd (pc := 45) g dX12_hearsOne_45 ?_
    refine x_iald (pc := 46) g hM dX12_hearsOne_46 (sm_2) (fun j4 hj4 => ?_)
    exact x_sub [] (T_M_hearsOne_b47 hM g m p0 p1 p2 (m.1 2 j4) r3 r2 r1) rfl
theorem c_M_hearsOne (l : Launch) (G : xG) (hM : WM G) (m : xMem) (p0 : Int32) (p1 : Int32) (p2 : Int32) : xCi l G yX12_hearsOne cX12_hearsOne 4 (some .boolean) rm_M_hearsOne [.ref (xad G 0), .int p0, .int p1, .int p2] m (M_hearsOne m p0 p1 p2) :=
  xCt_of (own := RX12) (by decide) rfl (Nat.le_of_ble_eq_true rfl) rfl ⟨rfl, rfl⟩ (fun E g => T_M_hearsOne hM g m p0 p1 p2)
theorem T_M_heardBy_b5 {l : Launch} {G : xG} {E : xE} (hM : WM G) (g : xGood E l G.1 RX12 cX12_heardBy yX12_heardBy 5 (some .int) rm_M_heardBy) (m : xMem) (p0 : Int32) (p1 : Int32) : ∀ (n : Nat) (v3 : Int32) (v4 : Int32), X E G (fun r : Int32 => (some (Value.int r), m)) 5 [(0, .ref (xad G 0)), (1, .int p0), (2, .int p1), (3, .int v3), (4, .int v4)] [] m (M_heardBy_b5 m p0 p1 n v3 v4) := by
  intro n
  induction n with
  | zero => intro v3 v4; exact x_none
  | succ n ih =>
    intro v3 v4
    rw [M_heardBy_b5]
    refine x_iload (pc := 5) (a := 4) g dX12_heardBy_5 rfl ?_
    refine x_aload_n (pc := 7) (i := 0) (a := 0) g dX12_heardBy_7 rfl rfl ?_
    refine x_getR (pc := 8) (x := 2) g hM dX12_heardBy_8 fl_12_33 (sm_0) rfl ?_
    refine x_iconst (pc := 11) g dX12_heardBy_11 ic_2 ?_
    refine x_ialdc (pc := 12) g hM dX12_heardBy_12 (sm_2) ix_2_302 ?_
    refine x_icmp_gt (pc := 13) (t := 60) g dX12_heardBy_13 (by decide) ?_ ?_
    · refine x_iload_n (pc := 60) (i := 3) (a := 3) g dX12_heardBy_60 rfl rfl ?_
      exact x_iret (pc := 61) g dX12_heardBy_61 rfl (fun _ h => h)
    · refine x_aload_n (pc := 16) (i := 0) (a := 0) g dX12_heardBy_16 rfl rfl ?_
      refine x_Vi (pc := 17) g hM [] [] (c_M_isShut l G hM m) dX12_heardBy_17 ml_12_337 (sm_0) rfl rfl (Nat.le_of_ble_eq_true rfl) ⟨rfl, rfl, Nat.le_of_ble_eq_true rfl, Nat.le_of_ble_eq_true rfl⟩ (fun r1 hr1 => ?_)
      refine x_if_ne (pc := 20) (t := 60) g dX12_heardBy_20 (by decide) ?_ ?_
      · refine x_iload_n (pc := 23) (i := 3) (a := 3) g dX12_heardBy_23 rfl rfl ?_
        refine x_aload_n (pc := 24) (i := 0) (a := 0) g dX12_heardBy_24 rfl rfl ?_
        refine x_iload (pc := 25) (a := 4) g dX12_heardBy_25 rfl ?_
        refine x_Vi (pc := 27) g hM [.int v4] [.int v3] (c_M_isOn l G hM m v4) dX12_heardBy_27 ml_12_340 (sm_0) rfl rfl (Nat.le_of_ble_eq_true rfl) ⟨rfl, rfl, Nat.le_of_ble_eq_true rfl, Nat.le_of_ble_eq_true rfl⟩ (fun r2 hr2 => ?_)
        refine x_if_eq (pc := 30) (t := 51) g dX12_heardBy_30 (by decide) ?_ ?_
        · refine x_iconst (pc := 51) g dX12_heardBy_51 ic_0 ?_
          refine x_ior (pc := 52) g dX12_heardBy_52 ?_
          refine x_nmI (fun x3 => ?_)
          refine x_istore_n (pc := 53) (i := 3) (lv' := [(3, .int x3), (0, .ref (xad G 0)), (1, .int p0), (2, .int p1), (4, .int v4)]) g dX12_heardBy_53 rfl (by decide) rfl ?_
          refine x_iinc (pc := 54) (a := 4) (lv' := [(4, .int (v4 + 1)), (3, .int x3), (0, .ref (xad G 0)), (1, .int p0), (2, .int p1)]) g dX12_heardBy_54 ic_1 rfl (by decide) rfl ?_
          refine x_goto (pc := 57) (t := 5) g dX12_heardBy_57 (by decide) ?_
          exact x_sub [2, 3, 4, 1, 0] (ih x3 (v4 + 1)) rfl
        · refine x_aload_n (pc := 33) (i := 0) (a := 0) g dX12_heardBy_33 rfl rfl ?_
          refine x_iload_n (pc := 34) (i := 1) (a := 1) g dX12_heardBy_34 rfl rfl ?_
          refine x_iload_n (pc := 35) (i := 2) (a := 2) g dX12_heardBy_35 rfl rfl ?_
          refine x_iload (pc := 36) (a := 4) g dX12_heardBy_36 rfl ?_
          refine x_Vi (pc := 38) g hM [.int p0, .int p1, .int v4] [.int v3] (c_M_hearsOne l G hM m p0 p1 v4) dX12_heardBy_38 ml_12_343 (sm_0) rfl rfl (Nat.le_of_ble_eq_true rfl) ⟨rfl, rfl, Nat.le_of_ble_eq_true rfl, Nat.le_of_ble_eq_true rfl⟩ (fun r4 hr4 => ?_)
          refine x_if_eq (pc := 41) (t := 51) g dX12_heardBy_41 (by decide) ?_ ?_
          · refine x_iconst (pc := 51) g dX12_heardBy_51 ic_0 ?_
            refine x_ior (pc := 52) g dX12_heardBy_52 ?_
            refine x_nmI (fun x5 => ?_)
            refine x_istore_n (pc := 53) (i := 3) (lv' := [(3, .int x5), (0, .ref (xad G 0)), (1, .int p0), (2, .int p1), (4, .int v4)]) g dX12_heardBy_53 rfl (by decide) rfl ?_
            refine x_iinc (pc := 54) (a := 4) (lv' := [(4, .int (v4 + 1)), (3, .int x5), (0, .ref (xad G 0)), (1, .int p0), (2, .int p1)]) g dX12_heardBy_54 ic_1 rfl (by decide) rfl ?_
            refine x_goto (pc := 57) (t := 5) g dX12_heardBy_57 (by decide) ?_
            exact x_sub [2, 3, 4, 1, 0] (ih x5 (v4 + 1)) rfl
          · refine x_iconst (pc := 44) g dX12_heardBy_44 ic_1 ?_
            refine x_iload (pc := 45) (a := 4) g dX12_heardBy_45 rfl ?_
            refine x_ishl (pc := 47) g dX12_heardBy_47 ?_
            refine x_goto (pc := 48) (t := 52) g dX12_heardBy_48 (by decide) ?_
            refine x_ior (pc := 52) g dX12_heardBy_52 ?_
            refine x_nmI (fun x6 => ?_)
            refine x_istore_n (pc := 53) (i := 3) (lv' := [(3, .int x6), (0, .ref (xad G 0)), (1, .int p0), (2, .int p1), (4, .int v4)]) g dX12_heardBy_53 rfl (by decide) rfl ?_
            refine x_iinc (pc := 54) (a := 4) (lv' := [(4, .int (v4 + 1)), (3, .int x6), (0, .ref (xad G 0)), (1, .int p0), (2, .int p1)]) g dX12_heardBy_54 ic_1 rfl (by decide) rfl ?_
            refine x_goto (pc := 57) (t := 5) g dX12_heardBy_57 (by decide) ?_
            exact x_sub [2, 3, 4, 1, 0] (ih x6 (v4 + 1)) rfl
      · refine x_iload_n (pc := 60) (i := 3) (a := 3) g dX12_heardBy_60 rfl rfl ?_
        exact x_iret (pc := 61) g dX12_heardBy_61 rfl (fun _ h => h)
theorem T_M_heardBy {l : Launch} {G : xG} {E : xE} (hM : WM G) (g : xGood E l G.1 RX12 cX12_heardBy yX12_heardBy 5 (some .int) rm_M_heardBy) (m : xMem) (p0 : Int32) (p1 : Int32) : X E G (fun r : Int32 => (some (Value.int r), m)) 0 [(0, .ref (xad G 0)), (1, .int p0), (2, .int p1)] [] m (M_heardBy m p0 p1) := by
  unfold M_heardBy
  refine x_iconst (pc := 0) g dX12_heardBy_0 ic_0 ?_
  refine x_istore_n (pc := 1) (i := 3) (lv' := [(3, .int 0), (0, .ref (xad G 0)), (1, .int p0), (2, .int p1)]) g dX12_heardBy_1 rfl (by decide) rfl ?_
  refine x_iconst (pc := 2) g dX12_heardBy_2 ic_0 ?_
  refine x_istore (pc := 3) (lv' := [(4, .int 0), (3, .int 0), (0, .ref (xad G 0)), (1, .int p0), (2, .int p1)]) g dX12_heardBy_3 (by decide) rfl ?_
  exact x_sub [2, 3, 4, 1, 0] (T_M_heardBy_b5 hM g m p0 p1 1000 0 0) rfl
theorem c_M_heardBy (l : Launch) (G : xG) (hM : WM G) (m : xMem) (p0 : Int32) (p1 : Int32) : xCi l G yX12_heardBy cX12_heardBy 5 (some .int) rm_M_heardBy [.ref (xad G 0), .int p0, .int p1] m (M_heardBy m p0 p1) :=
  xCt_of (own := RX12) (by decide) rfl (Nat.le_of_ble_eq_true rfl) rfl ⟨rfl, rfl⟩ (fun E g => T_M_heardBy hM g m p0 p1)
theorem T_M_seenBy_b13 {l : Launch} {G : xG} {E : xE} (hM : WM G) (g : xGood E l G.1 RX12 cX12_seenBy yX12_seenBy 6 (some .int) rm_M_seenBy) (m : xMem) (p0 : Int32) (p1 : Int32) : ∀ (n : Nat) (v3 : Int32) (v4 : Int32) (v5 : Int32), X E G (fun r : Int32 => (some (Value.int r), m)) 13 [(0, .ref (xad G 0)), (2, .int p1), (3, .int v3), (4, .int v4), (5, .int v5)] [] m (M_seenBy_b13 m p0 p1 n v3 v4 v5) := by
  intro n
  induction n with
  | zero => intro v3 v4 v5; exact x_none
  | succ n ih =>
    intro v3 v4 v5
    rw [M_seenBy_b13]
    refine x_iload (pc := 13) (a := 4) g dX12_seenBy_13 rfl ?_
    refine x_aload_n (pc := 15) (i := 0) (a := 0) g dX12_seenBy_15 rfl rfl ?_
    refine x_getR (pc := 16) (x := 2) g hM dX12_seenBy_16 fl_12_33 (sm_0) rfl ?_
    refine x_iconst (pc := 19) g dX12_seenBy_19 ic_2 ?_
    refine x_ialdc (pc := 20) g hM dX12_seenBy_20 (sm_2) ix_2_302 ?_
    refine x_icmp_gt (pc := 21) (t := 65) g dX12_seenBy_21 (by decide) ?_ ?_
    · refine x_iload (pc := 65) (a := 3) g dX12_seenBy_65 rfl ?_
      exact x_iret (pc := 67) g dX12_seenBy_67 rfl (fun _ h => h)
    · refine x_iload_n (pc := 24) (i := 3) (a := 2) g dX12_seenBy_24 rfl rfl ?_
      refine x_iload (pc := 25) (a := 4) g dX12_seenBy_25 rfl ?_
      refine x_Si (pc := 27) g [.int v3, .int v5] [] (c_M_bitOf l G hM m v3 v5) dX12_seenBy_27 ms_12_292 rfl rfl (Nat.le_of_ble_eq_true rfl) ⟨rfl, rfl, Nat.le_of_ble_eq_true rfl, Nat.le_of_ble_eq_true rfl⟩ (fun r2 hr2 => ?_)
      refine x_if_eq (pc := 30) (t := 59) g dX12_seenBy_30 (by decide) ?_ ?_
      · refine x_iinc (pc := 59) (a := 4) (lv' := [(5, .int (v5 + 1)), (0, .ref (xad G 0)), (2, .int p1), (3, .int v3), (4, .int v4)]) g dX12_seenBy_59 ic_1 rfl (by decide) rfl ?_
        refine x_goto (pc := 62) (t := 13) g dX12_seenBy_62 (by decide) ?_
        exact x_sub [1, 2, 3, 4, 0] (ih v3 v4 (v5 + 1)) rfl
      · refine x_iload (pc := 33) (a := 3) g dX12_seenBy_33 rfl ?_
        refine x_if_lt (pc := 35) (t := 55) g dX12_seenBy_35 (by decide) ?_ ?_
        · refine x_iload (pc := 55) (a := 4) g dX12_seenBy_55 rfl ?_
          refine x_istore (pc := 57) (lv' := [(4, .int v5), (0, .ref (xad G 0)), (2, .int p1), (3, .int v3), (5, .int v5)]) g dX12_seenBy_57 (by decide) rfl ?_
          refine x_iinc (pc := 59) (a := 4) (lv' := [(5, .int (v5 + 1)), (4, .int v5), (0, .ref (xad G 0)), (2, .int p1), (3, .int v3)]) g dX12_seenBy_59 ic_1 rfl (by decide) rfl ?_
          refine x_goto (pc := 62) (t := 13) g dX12_seenBy_62 (by decide) ?_
          exact x_sub [2, 3, 4, 1, 0] (ih v3 v5 (v5 + 1)) rfl
        · refine x_aload_n (pc := 38) (i := 0) (a := 0) g dX12_seenBy_38 rfl rfl ?_
          refine x_iload (pc := 39) (a := 4) g dX12_seenBy_39 rfl ?_
          refine x_iload_n (pc := 41) (i := 2) (a := 1) g dX12_seenBy_41 rfl rfl ?_
          refine x_Vi (pc := 42) g hM [.int v5, .int p1] [] (c_M_loudAt l G hM m v5 p1) dX12_seenBy_42 ml_12_349 (sm_0) rfl rfl (Nat.le_of_ble_eq_true rfl) ⟨rfl, rfl, Nat.le_of_ble_eq_true rfl, Nat.le_of_ble_eq_true rfl⟩ (fun r3 hr3 => ?_)
          refine x_aload_n (pc := 45) (i := 0) (a := 0) g dX12_seenBy_45 rfl rfl ?_
          refine x_iload (pc := 46) (a := 3) g dX12_seenBy_46 rfl ?_
          refine x_iload_n (pc := 48) (i := 2) (a := 1) g dX12_seenBy_48 rfl rfl ?_
          refine x_Vi (pc := 49) g hM [.int v4, .int p1] [.int r3] (c_M_loudAt l G hM m v4 p1) dX12_seenBy_49 ml_12_349 (sm_0) rfl rfl (Nat.le_of_ble_eq_true rfl) ⟨rfl, rfl, Nat.le_of_ble_eq_true rfl, Nat.le_of_ble_eq_true rfl⟩ (fun r4 hr4 => ?_)
          refine x_icmp_le (pc := 52) (t := 59) g dX12_seenBy_52 (by decide) ?_ ?_
          · refine x_iload (pc := 55) (a := 4) g dX12_seenBy_55 rfl ?_
            refine x_istore (pc := 57) (lv' := [(4, .int v5), (0, .ref (xad G 0)), (2, .int p1), (3, .int v3), (5, .int v5)]) g dX12_seenBy_57 (by decide) rfl ?_
            refine x_iinc (pc := 59) (a := 4) (lv' := [(5, .int (v5 + 1)), (4, .int v5), (0, .ref (xad G 0)), (2, .int p1), (3, .int v3)]) g dX12_seenBy_59 ic_1 rfl (by decide) rfl ?_
            refine x_goto (pc := 62) (t := 13) g dX12_seenBy_62 (by decide) ?_
            exact x_sub [2, 3, 4, 1, 0] (ih v3 v5 (v5 + 1)) rfl
          · refine x_iinc (pc := 59) (a := 4) (lv' := [(5, .int (v5 + 1)), (0, .ref (xad G 0)), (2, .int p1), (3, .int v3), (4, .int v4)]) g dX12_seenBy_59 ic_1 rfl (by decide) rfl ?_
            refine x_goto (pc := 62) (t := 13) g dX12_seenBy_62 (by decide) ?_
            exact x_sub [1, 2, 3, 4, 0] (ih v3 v4 (v5 + 1)) rfl
theorem T_M_seenBy {l : Launch} {G : xG} {E : xE} (hM : WM G) (g : xGood E l G.1 RX12 cX12_seenBy yX12_seenBy 6 (some .int) rm_M_seenBy) (m : xMem) (p0 : Int32) (p1 : Int32) : X E G (fun r : Int32 => (some (Value.int r), m)) 0 [(0, .ref (xad G 0)), (1, .int p0), (2, .int p1)] [] m (M_seenBy m p0 p1) := by
  unfold M_seenBy
  refine x_aload_n (pc := 0) (i := 0) (a := 0) g dX12_seenBy_0 rfl rfl ?_
  refine x_iload_n (pc := 1) (i := 1) (a := 1) g dX12_seenBy_1 rfl rfl ?_
  refine x_iload_n (pc := 2) (i := 2) (a := 2) g dX12_seenBy_2 rfl rfl ?_
  refine x_Vi (pc := 3) g hM [.int p0, .int p1] [] (c_M_heardBy l G hM m p0 p1) dX12_seenBy_3 ml_12_346 (sm_0) rfl rfl (Nat.le_of_ble_eq_true rfl) ⟨rfl, rfl, Nat.le_of_ble_eq_true rfl, Nat.le_of_ble_eq_true rfl⟩ (fun r1 hr1 => ?_)
  refine x_istore_n (pc := 6) (i := 3) (lv' := [(3, .int r1), (0, .ref (xad G 0)), (1, .int p0), (2, .int p1)]) g dX12_seenBy_6 rfl (by decide) rfl ?_
  refine x_iconst (pc := 7) g dX12_seenBy_7 ic_m1 ?_
  refine x_istore (pc := 8) (lv' := [(4, .int ((-1))), (3, .int r1), (0, .ref (xad G 0)), (1, .int p0), (2, .int p1)]) g dX12_seenBy_8 (by decide) rfl ?_
  refine x_iconst (pc := 10) g dX12_seenBy_10 ic_0 ?_
  refine x_istore (pc := 11) (lv' := [(5, .int 0), (4, .int ((-1))), (3, .int r1), (0, .ref (xad G 0)), (1, .int p0), (2, .int p1)]) g dX12_seenBy_11 (by decide) rfl ?_
  exact x_sub [3, 5, 2, 1, 0] (T_M_seenBy_b13 hM g m p0 p1 1000 r1 ((-1)) 0) rfl
theorem c_M_seenBy (l : Launch) (G : xG) (hM : WM G) (m : xMem) (p0 : Int32) (p1 : Int32) : xCi l G yX12_seenBy cX12_seenBy 6 (some .int) rm_M_seenBy [.ref (xad G 0), .int p0, .int p1] m (M_seenBy m p0 p1) :=
  xCt_of (own := RX12) (by decide) rfl (Nat.le_of_ble_eq_true rfl) rfl ⟨rfl, rfl⟩ (fun E g => T_M_seenBy hM g m p0 p1)
theorem T_M_lookBy {l : Launch} {G : xG} {E : xE} (hM : WM G) (g : xGood E l G.1 RX12 cX12_lookBy yX12_lookBy 4 (some .int) rm_M_lookBy) (m : xMem) (p0 : Int32) (p1 : Int32) : X E G (fun r : Int32 => (some (Value.int r), m)) 0 [(0, .ref (xad G 0)), (1, .int p0), (2, .int p1)] [] m (M_lookBy m p0 p1) := by
  unfold M_lookBy
  refine x_aload_n (pc := 0) (i := 0) (a := 0) g dX12_lookBy_0 rfl rfl ?_
  refine x_iload_n (pc := 1) (i := 1) (a := 1) g dX12_lookBy_1 rfl rfl ?_
  refine x_iload_n (pc := 2) (i := 2) (a := 2) g dX12_lookBy_2 rfl rfl ?_
  refine x_Vi (pc := 3) g hM [.int p0, .int p1] [] (c_M_seenBy l G hM m p0 p1) dX12_lookBy_3 ml_12_352 (sm_0) rfl rfl (Nat.le_of_ble_eq_true rfl) ⟨rfl, rfl, Nat.le_of_ble_eq_true rfl, Nat.le_of_ble_eq_true rfl⟩ (fun r1 hr1 => ?_)
  refine x_istore_n (pc := 6) (i := 3) (lv' := [(3, .int r1), (0, .ref (xad G 0)), (1, .int p0), (2, .int p1)]) g dX12_lookBy_6 rfl (by decide) rfl ?_
  refine x_iload_n (pc := 7) (i := 3) (a := 0) g dX12_lookBy_7 rfl rfl ?_
  refine x_if_ge (pc := 8) (t := 15) g dX12_lookBy_8 (by decide) ?_ ?_
  · refine x_iconst (pc := 11) g dX12_lookBy_11 ic_m1 ?_
    refine x_goto (pc := 12) (t := 30) g dX12_lookBy_12 (by decide) ?_
    exact x_iret (pc := 30) g dX12_lookBy_30 rfl (fun _ h => h)
  · refine x_aload_n (pc := 15) (i := 0) (a := 1) g dX12_lookBy_15 rfl rfl ?_
    refine x_iload_n (pc := 16) (i := 2) (a := 3) g dX12_lookBy_16 rfl rfl ?_
    refine x_aload_n (pc := 17) (i := 0) (a := 1) g dX12_lookBy_17 rfl rfl ?_
    refine x_iload_n (pc := 18) (i := 3) (a := 0) g dX12_lookBy_18 rfl rfl ?_
    refine x_Vi (pc := 19) g hM [.int r1] [.int p1, .ref (xad G 0)] (c_M_xOf l G hM m r1) dX12_lookBy_19 ml_12_317 (sm_0) rfl rfl (Nat.le_of_ble_eq_true rfl) ⟨rfl, rfl, Nat.le_of_ble_eq_true rfl, Nat.le_of_ble_eq_true rfl⟩ (fun r2 hr2 => ?_)
    refine x_aload_n (pc := 22) (i := 0) (a := 1) g dX12_lookBy_22 rfl rfl ?_
    refine x_iload_n (pc := 23) (i := 3) (a := 0) g dX12_lookBy_23 rfl rfl ?_
    refine x_Vi (pc := 24) g hM [.int r1] [.int r2, .int p1, .ref (xad G 0)] (c_M_yOf l G hM m r1) dX12_lookBy_24 ml_12_320 (sm_0) rfl rfl (Nat.le_of_ble_eq_true rfl) ⟨rfl, rfl, Nat.le_of_ble_eq_true rfl, Nat.le_of_ble_eq_true rfl⟩ (fun r3 hr3 => ?_)
    refine x_Vi (pc := 27) g hM [.int p1, .int r2, .int r3] [] (c_M_sideOf l G hM m p1 r2 r3) dX12_lookBy_27 ml_12_327 (sm_0) rfl rfl (Nat.le_of_ble_eq_true rfl) ⟨rfl, rfl, Nat.le_of_ble_eq_true rfl, Nat.le_of_ble_eq_true rfl⟩ (fun r4 hr4 => ?_)
    exact x_iret (pc := 30) g dX12_lookBy_30 rfl (fun _ h => h)
theorem c_M_lookBy (l : Launch) (G : xG) (hM : WM G) (m : xMem) (p0 : Int32) (p1 : Int32) : xCi l G yX12_lookBy cX12_lookBy 4 (some .int) rm_M_lookBy [.ref (xad G 0), .int p0, .int p1] m (M_lookBy m p0 p1) :=
  xCt_of (own := RX12) (by decide) rfl (Nat.le_of_ble_eq_true rfl) rfl ⟨rfl, rfl⟩ (fun E g => T_M_lookBy hM g m p0 p1)
theorem T_M_owlBy_b2 {l : Launch} {G : xG} {E : xE} (hM : WM G) (g : xGood E l G.1 RX12 cX12_owlBy yX12_owlBy 3 (some .int) rm_M_owlBy) (m : xMem) (p0 : Int32) : ∀ (n : Nat) (v2 : Int32), X E G (fun r : Int32 => (some (Value.int r), m)) 2 [(0, .ref (xad G 0)), (1, .int p0), (2, .int v2)] [] m (M_owlBy_b2 m p0 n v2) := by
  intro n
  induction n with
  | zero => intro v2; exact x_none
  | succ n ih =>
    intro v2
    rw [M_owlBy_b2]
    refine x_iload_n (pc := 2) (i := 2) (a := 2) g dX12_owlBy_2 rfl rfl ?_
    refine x_aload_n (pc := 3) (i := 0) (a := 0) g dX12_owlBy_3 rfl rfl ?_
    refine x_getR (pc := 4) (x := 2) g hM dX12_owlBy_4 fl_12_33 (sm_0) rfl ?_
    refine x_iconst (pc := 7) g dX12_owlBy_7 ic_1 ?_
    refine x_ialdc (pc := 8) g hM dX12_owlBy_8 (sm_2) ix_1_302 ?_
    refine x_icmp_ge (pc := 9) (t := 33) g dX12_owlBy_9 (by decide) ?_ ?_
    · refine x_aload_n (pc := 12) (i := 0) (a := 0) g dX12_owlBy_12 rfl rfl ?_
      refine x_getR (pc := 13) (x := 2) g hM dX12_owlBy_13 fl_12_33 (sm_0) rfl ?_
      refine x_bipush (pc := 16) g dX12_owlBy_16 bi_103 ?_
      refine x_iload_n (pc := 18) (i := 2) (a := 2) g dX12_owlBy_18 rfl rfl ?_
      refine x_iadd (pc := 19) g dX12_owlBy_19 ?_
      refine x_iald (pc := 20) g hM dX12_owlBy_20 (sm_2) (fun j1 hj1 => ?_)
      refine x_iload_n (pc := 21) (i := 1) (a := 1) g dX12_owlBy_21 rfl rfl ?_
      refine x_icmp_ne (pc := 22) (t := 27) g dX12_owlBy_22 (by decide) ?_ ?_
      · refine x_iload_n (pc := 25) (i := 2) (a := 2) g dX12_owlBy_25 rfl rfl ?_
        exact x_iret (pc := 26) g dX12_owlBy_26 rfl (fun _ h => h)
      · refine x_iinc (pc := 27) (a := 2) (lv' := [(2, .int (v2 + 1)), (0, .ref (xad G 0)), (1, .int p0)]) g dX12_owlBy_27 ic_1 rfl (by decide) rfl ?_
        refine x_goto (pc := 30) (t := 2) g dX12_owlBy_30 (by decide) ?_
        exact x_sub [1, 2, 0] (ih (v2 + 1)) rfl
    · refine x_iconst (pc := 33) g dX12_owlBy_33 ic_m1 ?_
      exact x_iret (pc := 34) g dX12_owlBy_34 rfl (fun _ h => h)
theorem T_M_owlBy {l : Launch} {G : xG} {E : xE} (hM : WM G) (g : xGood E l G.1 RX12 cX12_owlBy yX12_owlBy 3 (some .int) rm_M_owlBy) (m : xMem) (p0 : Int32) : X E G (fun r : Int32 => (some (Value.int r), m)) 0 [(0, .ref (xad G 0)), (1, .int p0)] [] m (M_owlBy m p0) := by
  unfold M_owlBy
  refine x_iconst (pc := 0) g dX12_owlBy_0 ic_0 ?_
  refine x_istore_n (pc := 1) (i := 2) (lv' := [(2, .int 0), (0, .ref (xad G 0)), (1, .int p0)]) g dX12_owlBy_1 rfl (by decide) rfl ?_
  exact x_sub [1, 2, 0] (T_M_owlBy_b2 hM g m p0 1000 0) rfl
theorem c_M_owlBy (l : Launch) (G : xG) (hM : WM G) (m : xMem) (p0 : Int32) : xCi l G yX12_owlBy cX12_owlBy 3 (some .int) rm_M_owlBy [.ref (xad G 0), .int p0] m (M_owlBy m p0) :=
  xCt_of (own := RX12) (by decide) rfl (Nat.le_of_ble_eq_true rfl) rfl ⟨rfl, rfl⟩ (fun E g => T_M_owlBy hM g m p0)
theorem T_M_bed_b23 {l : Launch} {G : xG} {E : xE} (hM : WM G) (g : xGood E l G.1 RX12 cX12_bed yX12_bed 3 (some .int) rm_M_bed) (p0 : Int32) (p1 : Int32) (s0 : Int32) (m : xMem) : X E G (fun r : Int32 × xMem => (some (Value.int r.1), r.2)) 23 [(0, .ref (xad G 0)), (1, .int p0), (2, .int p1)] [.int s0, .ref (xad G 0)] m (M_bed_b23 p0 p1 s0 m) := by
  unfold M_bed_b23
  refine x_Vim (pc := 23) g hM [.int s0] [] (c_M_throwsIf l G hM m s0) dX12_bed_23 ml_12_358 (sm_0) rfl rfl (Nat.le_of_ble_eq_true rfl) ⟨rfl, rfl, Nat.le_of_ble_eq_true rfl, Nat.le_of_ble_eq_true rfl⟩ (fun r3 hr3 => ?_)
  refine x_if_eq (pc := 26) (t := 31) g dX12_bed_26 (by decide) ?_ ?_
  · refine x_iload_n (pc := 31) (i := 2) (a := 2) g dX12_bed_31 rfl rfl ?_
    refine x_if (fun h32_0 => ?_) (fun h32_0 => ?_)
    · refine x_tabIn (pc := 32) (t := 68) (off := 36) g dX12_bed_32 h32_0 (by decide) ?_
      refine x_aload_n (pc := 68) (i := 0) (a := 0) g dX12_bed_68 rfl rfl ?_
      refine x_getR (pc := 69) (x := 2) g hM dX12_bed_69 fl_12_33 (sm_0) rfl ?_
      refine x_bipush (pc := 72) g dX12_bed_72 bi_7 ?_
      refine x_iload_n (pc := 74) (i := 1) (a := 1) g dX12_bed_74 rfl rfl ?_
      refine x_iadd (pc := 75) g dX12_bed_75 ?_
      refine x_iald (pc := 76) g hM dX12_bed_76 (sm_2) (fun j4 hj4 => ?_)
      exact x_iret (pc := 77) g dX12_bed_77 rfl (fun _ h => h)
    refine x_if (fun h32_1 => ?_) (fun h32_1 => ?_)
    · refine x_tabIn (pc := 32) (t := 78) (off := 46) g dX12_bed_32 h32_1 (by decide) ?_
      refine x_aload_n (pc := 78) (i := 0) (a := 0) g dX12_bed_78 rfl rfl ?_
      refine x_getR (pc := 79) (x := 2) g hM dX12_bed_79 fl_12_33 (sm_0) rfl ?_
      refine x_bipush (pc := 82) g dX12_bed_82 bi_13 ?_
      refine x_iload_n (pc := 84) (i := 1) (a := 1) g dX12_bed_84 rfl rfl ?_
      refine x_iadd (pc := 85) g dX12_bed_85 ?_
      refine x_iald (pc := 86) g hM dX12_bed_86 (sm_2) (fun j5 hj5 => ?_)
      exact x_iret (pc := 87) g dX12_bed_87 rfl (fun _ h => h)
    refine x_if (fun h32_2 => ?_) (fun h32_2 => ?_)
    · refine x_tabIn (pc := 32) (t := 88) (off := 56) g dX12_bed_32 h32_2 (by decide) ?_
      refine x_aload_n (pc := 88) (i := 0) (a := 0) g dX12_bed_88 rfl rfl ?_
      refine x_iload_n (pc := 89) (i := 1) (a := 1) g dX12_bed_89 rfl rfl ?_
      refine x_Vi (pc := 90) g hM [.int p0] [] (c_M_owlBy l G hM r3.2 p0) dX12_bed_90 ml_12_362 (sm_0) rfl rfl (Nat.le_of_ble_eq_true rfl) ⟨rfl, rfl, Nat.le_of_ble_eq_true rfl, Nat.le_of_ble_eq_true rfl⟩ (fun r6 hr6 => ?_)
      exact x_iret (pc := 93) g dX12_bed_93 rfl (fun _ h => h)
    refine x_if (fun h32_3 => ?_) (fun h32_3 => ?_)
    · refine x_tabIn (pc := 32) (t := 94) (off := 62) g dX12_bed_32 h32_3 (by decide) ?_
      refine x_aload_n (pc := 94) (i := 0) (a := 0) g dX12_bed_94 rfl rfl ?_
      refine x_getR (pc := 95) (x := 2) g hM dX12_bed_95 fl_12_33 (sm_0) rfl ?_
      refine x_bipush (pc := 98) g dX12_bed_98 bi_19 ?_
      refine x_iload_n (pc := 100) (i := 1) (a := 1) g dX12_bed_100 rfl rfl ?_
      refine x_iadd (pc := 101) g dX12_bed_101 ?_
      refine x_iald (pc := 102) g hM dX12_bed_102 (sm_2) (fun j7 hj7 => ?_)
      refine x_iconst (pc := 103) g dX12_bed_103 ic_1 ?_
      refine x_isub (pc := 104) g dX12_bed_104 ?_
      exact x_iret (pc := 105) g dX12_bed_105 rfl (fun _ h => h)
    refine x_if (fun h32_4 => ?_) (fun h32_4 => ?_)
    · refine x_tabIn (pc := 32) (t := 106) (off := 74) g dX12_bed_32 h32_4 (by decide) ?_
      refine x_aload_n (pc := 106) (i := 0) (a := 0) g dX12_bed_106 rfl rfl ?_
      refine x_getR (pc := 107) (x := 2) g hM dX12_bed_107 fl_12_33 (sm_0) rfl ?_
      refine x_bipush (pc := 110) g dX12_bed_110 bi_109 ?_
      refine x_iload_n (pc := 112) (i := 1) (a := 1) g dX12_bed_112 rfl rfl ?_
      refine x_iadd (pc := 113) g dX12_bed_113 ?_
      refine x_iald (pc := 114) g hM dX12_bed_114 (sm_2) (fun j8 hj8 => ?_)
      exact x_iret (pc := 115) g dX12_bed_115 rfl (fun _ h => h)
    refine x_tabOut (pc := 32) (t := 116) g dX12_bed_32 (by have z0 := ne_toInt (k := 0) h32_0 (by decide); have z1 := ne_toInt (k := 1) h32_1 (by decide); have z2 := ne_toInt (k := 2) h32_2 (by decide); have z3 := ne_toInt (k := 3) h32_3 (by decide); have z4 := ne_toInt (k := 4) h32_4 (by decide); omega) (by decide) ?_
    refine x_aload_n (pc := 116) (i := 0) (a := 0) g dX12_bed_116 rfl rfl ?_
    refine x_getR (pc := 117) (x := 2) g hM dX12_bed_117 fl_12_33 (sm_0) rfl ?_
    refine x_bipush (pc := 120) g dX12_bed_120 bi_115 ?_
    refine x_iload_n (pc := 122) (i := 1) (a := 1) g dX12_bed_122 rfl rfl ?_
    refine x_iadd (pc := 123) g dX12_bed_123 ?_
    refine x_iald (pc := 124) g hM dX12_bed_124 (sm_2) (fun j9 hj9 => ?_)
    exact x_iret (pc := 125) g dX12_bed_125 rfl (fun _ h => h)
  · refine x_iconst (pc := 29) g dX12_bed_29 ic_0 ?_
    exact x_iret (pc := 30) g dX12_bed_30 rfl (fun _ h => h)
theorem T_M_bed {l : Launch} {G : xG} {E : xE} (hM : WM G) (g : xGood E l G.1 RX12 cX12_bed yX12_bed 3 (some .int) rm_M_bed) (m : xMem) (p0 : Int32) (p1 : Int32) : X E G (fun r : Int32 × xMem => (some (Value.int r.1), r.2)) 0 [(0, .ref (xad G 0)), (1, .int p0), (2, .int p1)] [] m (M_bed m p0 p1) := by
  unfold M_bed
  refine x_aload_n (pc := 0) (i := 0) (a := 0) g dX12_bed_0 rfl rfl ?_
  refine x_aload_n (pc := 1) (i := 0) (a := 0) g dX12_bed_1 rfl rfl ?_
  refine x_iload_n (pc := 2) (i := 1) (a := 1) g dX12_bed_2 rfl rfl ?_
  refine x_Vi (pc := 3) g hM [.int p0] [.ref (xad G 0)] (c_M_isBed l G hM m p0) dX12_bed_3 ml_12_355 (sm_0) rfl rfl (Nat.le_of_ble_eq_true rfl) ⟨rfl, rfl, Nat.le_of_ble_eq_true rfl, Nat.le_of_ble_eq_true rfl⟩ (fun r1 hr1 => ?_)
  refine x_if_eq (pc := 6) (t := 18) g dX12_bed_6 (by decide) ?_ ?_
  · refine x_iconst (pc := 18) g dX12_bed_18 ic_1 ?_
    refine x_goto (pc := 19) (t := 23) g dX12_bed_19 (by decide) ?_
    exact x_sub [0, 1, 2] (T_M_bed_b23 hM g p0 p1 1 m) rfl
  · refine x_iload_n (pc := 9) (i := 2) (a := 2) g dX12_bed_9 rfl rfl ?_
    refine x_iconst (pc := 10) g dX12_bed_10 ic_0 ?_
    refine x_iconst (pc := 11) g dX12_bed_11 ic_5 ?_
    refine x_Si (pc := 12) g [.int p1, .int 0, .int 5] [.ref (xad G 0)] (c_M_isIn l G hM m p1 0 5) dX12_bed_12 ms_12_223 rfl rfl (Nat.le_of_ble_eq_true rfl) ⟨rfl, rfl, Nat.le_of_ble_eq_true rfl, Nat.le_of_ble_eq_true rfl⟩ (fun r2 hr2 => ?_)
    refine x_if_ne (pc := 15) (t := 22) g dX12_bed_15 (by decide) ?_ ?_
    · refine x_iconst (pc := 18) g dX12_bed_18 ic_1 ?_
      refine x_goto (pc := 19) (t := 23) g dX12_bed_19 (by decide) ?_
      exact x_sub [0, 1, 2] (T_M_bed_b23 hM g p0 p1 1 m) rfl
    · refine x_iconst (pc := 22) g dX12_bed_22 ic_0 ?_
      exact x_sub [0, 1, 2] (T_M_bed_b23 hM g p0 p1 0 m) rfl
theorem c_M_bed (l : Launch) (G : xG) (hM : WM G) (m : xMem) (p0 : Int32) (p1 : Int32) : xCim l G yX12_bed cX12_bed 3 (some .int) rm_M_bed [.ref (xad G 0), .int p0, .int p1] m (M_bed m p0 p1) :=
  xCt_of (own := RX12) (by decide) rfl (Nat.le_of_ble_eq_true rfl) rfl ⟨rfl, rfl⟩ (fun E g => T_M_bed hM g m p0 p1)
theorem T_M_owl_b23 {l : Launch} {G : xG} {E : xE} (hM : WM G) (g : xGood E l G.1 RX12 cX12_owl yX12_owl 3 (some .int) rm_M_owl) (p0 : Int32) (p1 : Int32) (s0 : Int32) (m : xMem) : X E G (fun r : Int32 × xMem => (some (Value.int r.1), r.2)) 23 [(0, .ref (xad G 0)), (1, .int p0), (2, .int p1)] [.int s0, .ref (xad G 0)] m (M_owl_b23 p0 p1 s0 m) := by
  unfold M_owl_b23
  refine x_Vim (pc := 23) g hM [.int s0] [] (c_M_throwsIf l G hM m s0) dX12_owl_23 ml_12_358 (sm_0) rfl rfl (Nat.le_of_ble_eq_true rfl) ⟨rfl, rfl, Nat.le_of_ble_eq_true rfl, Nat.le_of_ble_eq_true rfl⟩ (fun r3 hr3 => ?_)
  refine x_if_eq (pc := 26) (t := 31) g dX12_owl_26 (by decide) ?_ ?_
  · refine x_iload_n (pc := 31) (i := 2) (a := 2) g dX12_owl_31 rfl rfl ?_
    refine x_if (fun h32_0 => ?_) (fun h32_0 => ?_)
    · refine x_tabIn (pc := 32) (t := 68) (off := 36) g dX12_owl_32 h32_0 (by decide) ?_
      refine x_aload_n (pc := 68) (i := 0) (a := 0) g dX12_owl_68 rfl rfl ?_
      refine x_getR (pc := 69) (x := 2) g hM dX12_owl_69 fl_12_33 (sm_0) rfl ?_
      refine x_bipush (pc := 72) g dX12_owl_72 bi_103 ?_
      refine x_iload_n (pc := 74) (i := 1) (a := 1) g dX12_owl_74 rfl rfl ?_
      refine x_iadd (pc := 75) g dX12_owl_75 ?_
      refine x_iald (pc := 76) g hM dX12_owl_76 (sm_2) (fun j4 hj4 => ?_)
      exact x_iret (pc := 77) g dX12_owl_77 rfl (fun _ h => h)
    refine x_if (fun h32_1 => ?_) (fun h32_1 => ?_)
    · refine x_tabIn (pc := 32) (t := 78) (off := 46) g dX12_owl_32 h32_1 (by decide) ?_
      refine x_aload_n (pc := 78) (i := 0) (a := 0) g dX12_owl_78 rfl rfl ?_
      refine x_getR (pc := 79) (x := 2) g hM dX12_owl_79 fl_12_33 (sm_0) rfl ?_
      refine x_bipush (pc := 82) g dX12_owl_82 bi_31 ?_
      refine x_iload_n (pc := 84) (i := 1) (a := 1) g dX12_owl_84 rfl rfl ?_
      refine x_iadd (pc := 85) g dX12_owl_85 ?_
      refine x_iald (pc := 86) g hM dX12_owl_86 (sm_2) (fun j5 hj5 => ?_)
      exact x_iret (pc := 87) g dX12_owl_87 rfl (fun _ h => h)
    refine x_if (fun h32_2 => ?_) (fun h32_2 => ?_)
    · refine x_tabIn (pc := 32) (t := 88) (off := 56) g dX12_owl_32 h32_2 (by decide) ?_
      refine x_aload_n (pc := 88) (i := 0) (a := 0) g dX12_owl_88 rfl rfl ?_
      refine x_getR (pc := 89) (x := 2) g hM dX12_owl_89 fl_12_33 (sm_0) rfl ?_
      refine x_bipush (pc := 92) g dX12_owl_92 bi_37 ?_
      refine x_iload_n (pc := 94) (i := 1) (a := 1) g dX12_owl_94 rfl rfl ?_
      refine x_iadd (pc := 95) g dX12_owl_95 ?_
      refine x_iald (pc := 96) g hM dX12_owl_96 (sm_2) (fun j6 hj6 => ?_)
      refine x_iconst (pc := 97) g dX12_owl_97 ic_1 ?_
      refine x_isub (pc := 98) g dX12_owl_98 ?_
      exact x_iret (pc := 99) g dX12_owl_99 rfl (fun _ h => h)
    refine x_if (fun h32_3 => ?_) (fun h32_3 => ?_)
    · refine x_tabIn (pc := 32) (t := 100) (off := 68) g dX12_owl_32 h32_3 (by decide) ?_
      refine x_aload_n (pc := 100) (i := 0) (a := 0) g dX12_owl_100 rfl rfl ?_
      refine x_getR (pc := 101) (x := 2) g hM dX12_owl_101 fl_12_33 (sm_0) rfl ?_
      refine x_bipush (pc := 104) g dX12_owl_104 bi_43 ?_
      refine x_iload_n (pc := 106) (i := 1) (a := 1) g dX12_owl_106 rfl rfl ?_
      refine x_iadd (pc := 107) g dX12_owl_107 ?_
      refine x_iald (pc := 108) g hM dX12_owl_108 (sm_2) (fun j7 hj7 => ?_)
      exact x_iret (pc := 109) g dX12_owl_109 rfl (fun _ h => h)
    refine x_if (fun h32_4 => ?_) (fun h32_4 => ?_)
    · refine x_tabIn (pc := 32) (t := 110) (off := 78) g dX12_owl_32 h32_4 (by decide) ?_
      refine x_aload_n (pc := 110) (i := 0) (a := 0) g dX12_owl_110 rfl rfl ?_
      refine x_iload_n (pc := 111) (i := 1) (a := 1) g dX12_owl_111 rfl rfl ?_
      refine x_aload_n (pc := 112) (i := 0) (a := 0) g dX12_owl_112 rfl rfl ?_
      refine x_getR (pc := 113) (x := 2) g hM dX12_owl_113 fl_12_33 (sm_0) rfl ?_
      refine x_bipush (pc := 116) g dX12_owl_116 bi_103 ?_
      refine x_iload_n (pc := 118) (i := 1) (a := 1) g dX12_owl_118 rfl rfl ?_
      refine x_iadd (pc := 119) g dX12_owl_119 ?_
      refine x_iald (pc := 120) g hM dX12_owl_120 (sm_2) (fun j8 hj8 => ?_)
      refine x_Vi (pc := 121) g hM [.int p0, .int (r3.2.1 2 j8)] [] (c_M_lookBy l G hM r3.2 p0 (r3.2.1 2 j8)) dX12_owl_121 ml_12_368 (sm_0) rfl rfl (Nat.le_of_ble_eq_true rfl) ⟨rfl, rfl, Nat.le_of_ble_eq_true rfl, Nat.le_of_ble_eq_true rfl⟩ (fun r9 hr9 => ?_)
      exact x_iret (pc := 124) g dX12_owl_124 rfl (fun _ h => h)
    refine x_tabOut (pc := 32) (t := 125) g dX12_owl_32 (by have z0 := ne_toInt (k := 0) h32_0 (by decide); have z1 := ne_toInt (k := 1) h32_1 (by decide); have z2 := ne_toInt (k := 2) h32_2 (by decide); have z3 := ne_toInt (k := 3) h32_3 (by decide); have z4 := ne_toInt (k := 4) h32_4 (by decide); omega) (by decide) ?_
    refine x_aload_n (pc := 125) (i := 0) (a := 0) g dX12_owl_125 rfl rfl ?_
    refine x_iload_n (pc := 126) (i := 1) (a := 1) g dX12_owl_126 rfl rfl ?_
    refine x_aload_n (pc := 127) (i := 0) (a := 0) g dX12_owl_127 rfl rfl ?_
    refine x_getR (pc := 128) (x := 2) g hM dX12_owl_128 fl_12_33 (sm_0) rfl ?_
    refine x_bipush (pc := 131) g dX12_owl_131 bi_103 ?_
    refine x_iload_n (pc := 133) (i := 1) (a := 1) g dX12_owl_133 rfl rfl ?_
    refine x_iadd (pc := 134) g dX12_owl_134 ?_
    refine x_iald (pc := 135) g hM dX12_owl_135 (sm_2) (fun j10 hj10 => ?_)
    refine x_Vi (pc := 136) g hM [.int p0, .int (r3.2.1 2 j10)] [] (c_M_seenBy l G hM r3.2 p0 (r3.2.1 2 j10)) dX12_owl_136 ml_12_352 (sm_0) rfl rfl (Nat.le_of_ble_eq_true rfl) ⟨rfl, rfl, Nat.le_of_ble_eq_true rfl, Nat.le_of_ble_eq_true rfl⟩ (fun r11 hr11 => ?_)
    exact x_iret (pc := 139) g dX12_owl_139 rfl (fun _ h => h)
  · refine x_iconst (pc := 29) g dX12_owl_29 ic_0 ?_
    exact x_iret (pc := 30) g dX12_owl_30 rfl (fun _ h => h)
theorem T_M_owl {l : Launch} {G : xG} {E : xE} (hM : WM G) (g : xGood E l G.1 RX12 cX12_owl yX12_owl 3 (some .int) rm_M_owl) (m : xMem) (p0 : Int32) (p1 : Int32) : X E G (fun r : Int32 × xMem => (some (Value.int r.1), r.2)) 0 [(0, .ref (xad G 0)), (1, .int p0), (2, .int p1)] [] m (M_owl m p0 p1) := by
  unfold M_owl
  refine x_aload_n (pc := 0) (i := 0) (a := 0) g dX12_owl_0 rfl rfl ?_
  refine x_aload_n (pc := 1) (i := 0) (a := 0) g dX12_owl_1 rfl rfl ?_
  refine x_iload_n (pc := 2) (i := 1) (a := 1) g dX12_owl_2 rfl rfl ?_
  refine x_Vi (pc := 3) g hM [.int p0] [.ref (xad G 0)] (c_M_isOwl l G hM m p0) dX12_owl_3 ml_12_365 (sm_0) rfl rfl (Nat.le_of_ble_eq_true rfl) ⟨rfl, rfl, Nat.le_of_ble_eq_true rfl, Nat.le_of_ble_eq_true rfl⟩ (fun r1 hr1 => ?_)
  refine x_if_eq (pc := 6) (t := 18) g dX12_owl_6 (by decide) ?_ ?_
  · refine x_iconst (pc := 18) g dX12_owl_18 ic_1 ?_
    refine x_goto (pc := 19) (t := 23) g dX12_owl_19 (by decide) ?_
    exact x_sub [0, 1, 2] (T_M_owl_b23 hM g p0 p1 1 m) rfl
  · refine x_iload_n (pc := 9) (i := 2) (a := 2) g dX12_owl_9 rfl rfl ?_
    refine x_iconst (pc := 10) g dX12_owl_10 ic_0 ?_
    refine x_iconst (pc := 11) g dX12_owl_11 ic_5 ?_
    refine x_Si (pc := 12) g [.int p1, .int 0, .int 5] [.ref (xad G 0)] (c_M_isIn l G hM m p1 0 5) dX12_owl_12 ms_12_223 rfl rfl (Nat.le_of_ble_eq_true rfl) ⟨rfl, rfl, Nat.le_of_ble_eq_true rfl, Nat.le_of_ble_eq_true rfl⟩ (fun r2 hr2 => ?_)
    refine x_if_ne (pc := 15) (t := 22) g dX12_owl_15 (by decide) ?_ ?_
    · refine x_iconst (pc := 18) g dX12_owl_18 ic_1 ?_
      refine x_goto (pc := 19) (t := 23) g dX12_owl_19 (by decide) ?_
      exact x_sub [0, 1, 2] (T_M_owl_b23 hM g p0 p1 1 m) rfl
    · refine x_iconst (pc := 22) g dX12_owl_22 ic_0 ?_
      exact x_sub [0, 1, 2] (T_M_owl_b23 hM g p0 p1 0 m) rfl
theorem c_M_owl (l : Launch) (G : xG) (hM : WM G) (m : xMem) (p0 : Int32) (p1 : Int32) : xCim l G yX12_owl cX12_owl 3 (some .int) rm_M_owl [.ref (xad G 0), .int p0, .int p1] m (M_owl m p0 p1) :=
  xCt_of (own := RX12) (by decide) rfl (Nat.le_of_ble_eq_true rfl) rfl ⟨rfl, rfl⟩ (fun E g => T_M_owl hM g m p0 p1)
theorem T_M_sound {l : Launch} {G : xG} {E : xE} (hM : WM G) (g : xGood E l G.1 RX12 cX12_sound yX12_sound 3 (some .int) rm_M_sound) (m : xMem) (p0 : Int32) (p1 : Int32) : X E G (fun r : Int32 × xMem => (some (Value.int r.1), r.2)) 0 [(0, .ref (xad G 0)), (1, .int p0), (2, .int p1)] [] m (M_sound m p0 p1) := by
  unfold M_sound
  refine x_aload_n (pc := 0) (i := 0) (a := 0) g dX12_sound_0 rfl rfl ?_
  refine x_iconst (pc := 1) g dX12_sound_1 ic_0 ?_
  refine x_putI (pc := 2) g hM dX12_sound_2 fl_12_1 ft_12_0 (sm_0) rfl (fun m1 => ?_)
  refine x_aload_n (pc := 5) (i := 0) (a := 0) g dX12_sound_5 rfl rfl ?_
  refine x_iload_n (pc := 6) (i := 1) (a := 1) g dX12_sound_6 rfl rfl ?_
  refine x_Vi (pc := 7) g hM [.int p0] [] (c_M_isSound l G hM m1 p0) dX12_sound_7 ml_12_371 (sm_0) rfl rfl (Nat.le_of_ble_eq_true rfl) ⟨rfl, rfl, Nat.le_of_ble_eq_true rfl, Nat.le_of_ble_eq_true rfl⟩ (fun r2 hr2 => ?_)
  refine x_if_ne (pc := 10) (t := 15) g dX12_sound_10 (by decide) ?_ ?_
  · refine x_iconst (pc := 13) g dX12_sound_13 ic_m1 ?_
    exact x_iret (pc := 14) g dX12_sound_14 rfl (fun _ h => h)
  · refine x_iload_n (pc := 15) (i := 2) (a := 2) g dX12_sound_15 rfl rfl ?_
    refine x_if (fun h16_0 => ?_) (fun h16_0 => ?_)
    · refine x_tabIn (pc := 16) (t := 56) (off := 40) g dX12_sound_16 h16_0 (by decide) ?_
      refine x_aload_n (pc := 56) (i := 0) (a := 0) g dX12_sound_56 rfl rfl ?_
      refine x_getR (pc := 57) (x := 2) g hM dX12_sound_57 fl_12_33 (sm_0) rfl ?_
      refine x_bipush (pc := 60) g dX12_sound_60 bi_49 ?_
      refine x_iload_n (pc := 62) (i := 1) (a := 1) g dX12_sound_62 rfl rfl ?_
      refine x_iadd (pc := 63) g dX12_sound_63 ?_
      refine x_iald (pc := 64) g hM dX12_sound_64 (sm_2) (fun j3 hj3 => ?_)
      exact x_iret (pc := 65) g dX12_sound_65 rfl (fun _ h => h)
    refine x_if (fun h16_1 => ?_) (fun h16_1 => ?_)
    · refine x_tabIn (pc := 16) (t := 66) (off := 50) g dX12_sound_16 h16_1 (by decide) ?_
      refine x_aload_n (pc := 66) (i := 0) (a := 0) g dX12_sound_66 rfl rfl ?_
      refine x_getR (pc := 67) (x := 2) g hM dX12_sound_67 fl_12_33 (sm_0) rfl ?_
      refine x_bipush (pc := 70) g dX12_sound_70 bi_57 ?_
      refine x_iload_n (pc := 72) (i := 1) (a := 1) g dX12_sound_72 rfl rfl ?_
      refine x_iadd (pc := 73) g dX12_sound_73 ?_
      refine x_iald (pc := 74) g hM dX12_sound_74 (sm_2) (fun j4 hj4 => ?_)
      exact x_iret (pc := 75) g dX12_sound_75 rfl (fun _ h => h)
    refine x_if (fun h16_2 => ?_) (fun h16_2 => ?_)
    · refine x_tabIn (pc := 16) (t := 76) (off := 60) g dX12_sound_16 h16_2 (by decide) ?_
      refine x_aload_n (pc := 76) (i := 0) (a := 0) g dX12_sound_76 rfl rfl ?_
      refine x_getR (pc := 77) (x := 2) g hM dX12_sound_77 fl_12_33 (sm_0) rfl ?_
      refine x_bipush (pc := 80) g dX12_sound_80 bi_65 ?_
      refine x_iload_n (pc := 82) (i := 1) (a := 1) g dX12_sound_82 rfl rfl ?_
      refine x_iadd (pc := 83) g dX12_sound_83 ?_
      refine x_iald (pc := 84) g hM dX12_sound_84 (sm_2) (fun j5 hj5 => ?_)
      exact x_iret (pc := 85) g dX12_sound_85 rfl (fun _ h => h)
    refine x_if (fun h16_3 => ?_) (fun h16_3 => ?_)
    · refine x_tabIn (pc := 16) (t := 86) (off := 70) g dX12_sound_16 h16_3 (by decide) ?_
      refine x_aload_n (pc := 86) (i := 0) (a := 0) g dX12_sound_86 rfl rfl ?_
      refine x_getR (pc := 87) (x := 2) g hM dX12_sound_87 fl_12_33 (sm_0) rfl ?_
      refine x_bipush (pc := 90) g dX12_sound_90 bi_73 ?_
      refine x_iload_n (pc := 92) (i := 1) (a := 1) g dX12_sound_92 rfl rfl ?_
      refine x_iadd (pc := 93) g dX12_sound_93 ?_
      refine x_iald (pc := 94) g hM dX12_sound_94 (sm_2) (fun j6 hj6 => ?_)
      exact x_iret (pc := 95) g dX12_sound_95 rfl (fun _ h => h)
    refine x_if (fun h16_4 => ?_) (fun h16_4 => ?_)
    · refine x_tabIn (pc := 16) (t := 96) (off := 80) g dX12_sound_16 h16_4 (by decide) ?_
      refine x_aload_n (pc := 96) (i := 0) (a := 0) g dX12_sound_96 rfl rfl ?_
      refine x_iload_n (pc := 97) (i := 1) (a := 1) g dX12_sound_97 rfl rfl ?_
      refine x_Vi (pc := 98) g hM [.int p0] [] (c_M_isOn l G hM m1 p0) dX12_sound_98 ml_12_340 (sm_0) rfl rfl (Nat.le_of_ble_eq_true rfl) ⟨rfl, rfl, Nat.le_of_ble_eq_true rfl, Nat.le_of_ble_eq_true rfl⟩ (fun r7 hr7 => ?_)
      refine x_if_eq (pc := 101) (t := 108) g dX12_sound_101 (by decide) ?_ ?_
      · refine x_iconst (pc := 108) g dX12_sound_108 ic_0 ?_
        exact x_iret (pc := 109) g dX12_sound_109 rfl (fun _ h => h)
      · refine x_iconst (pc := 104) g dX12_sound_104 ic_1 ?_
        refine x_goto (pc := 105) (t := 109) g dX12_sound_105 (by decide) ?_
        exact x_iret (pc := 109) g dX12_sound_109 rfl (fun _ h => h)
    refine x_if (fun h16_5 => ?_) (fun h16_5 => ?_)
    · refine x_tabIn (pc := 16) (t := 110) (off := 94) g dX12_sound_16 h16_5 (by decide) ?_
      refine x_aload_n (pc := 110) (i := 0) (a := 0) g dX12_sound_110 rfl rfl ?_
      refine x_getR (pc := 111) (x := 2) g hM dX12_sound_111 fl_12_33 (sm_0) rfl ?_
      refine x_bipush (pc := 114) g dX12_sound_114 bi_98 ?_
      refine x_ialdc (pc := 116) g hM dX12_sound_116 (sm_2) ix_98_302 ?_
      refine x_iload_n (pc := 117) (i := 1) (a := 1) g dX12_sound_117 rfl rfl ?_
      refine x_ishr (pc := 118) g dX12_sound_118 ?_
      refine x_iconst (pc := 119) g dX12_sound_119 ic_1 ?_
      refine x_iand (pc := 120) g dX12_sound_120 ?_
      exact x_iret (pc := 121) g dX12_sound_121 rfl (fun _ h => h)
    refine x_tabOut (pc := 16) (t := 122) g dX12_sound_16 (by have z0 := ne_toInt (k := 0) h16_0 (by decide); have z1 := ne_toInt (k := 1) h16_1 (by decide); have z2 := ne_toInt (k := 2) h16_2 (by decide); have z3 := ne_toInt (k := 3) h16_3 (by decide); have z4 := ne_toInt (k := 4) h16_4 (by decide); have z5 := ne_toInt (k := 5) h16_5 (by decide); omega) (by decide) ?_
    refine x_iconst (pc := 122) g dX12_sound_122 ic_m1 ?_
    exact x_iret (pc := 123) g dX12_sound_123 rfl (fun _ h => h)
theorem c_M_sound (l : Launch) (G : xG) (hM : WM G) (m : xMem) (p0 : Int32) (p1 : Int32) : xCim l G yX12_sound cX12_sound 3 (some .int) rm_M_sound [.ref (xad G 0), .int p0, .int p1] m (M_sound m p0 p1) :=
  xCt_of (own := RX12) (by decide) rfl (Nat.le_of_ble_eq_true rfl) rfl ⟨rfl, rfl⟩ (fun E g => T_M_sound hM g m p0 p1)
theorem T_M_sumOf_b4 {l : Launch} {G : xG} {E : xE} (hM : WM G) (g : xGood E l G.1 RX12 cX12_sumOf yX12_sumOf 4 (some .int) rm_M_sumOf) (m : xMem) (p0 : Int32) : ∀ (n : Nat) (v2 : Int32) (v3 : Int32), X E G (fun r : Int32 => (some (Value.int r), m)) 4 [(0, .ref (xad G 0)), (1, .int p0), (2, .int v2), (3, .int v3)] [] m (M_sumOf_b4 m p0 n v2 v3) := by
  intro n
  induction n with
  | zero => intro v2 v3; exact x_none
  | succ n ih =>
    intro v2 v3
    rw [M_sumOf_b4]
    refine x_iload_n (pc := 4) (i := 3) (a := 3) g dX12_sumOf_4 rfl rfl ?_
    refine x_aload_n (pc := 5) (i := 0) (a := 0) g dX12_sumOf_5 rfl rfl ?_
    refine x_getR (pc := 6) (x := 2) g hM dX12_sumOf_6 fl_12_33 (sm_0) rfl ?_
    refine x_iconst (pc := 9) g dX12_sumOf_9 ic_0 ?_
    refine x_ialdc (pc := 10) g hM dX12_sumOf_10 (sm_2) ix_0_302 ?_
    refine x_icmp_ge (pc := 11) (t := 31) g dX12_sumOf_11 (by decide) ?_ ?_
    · refine x_iload_n (pc := 14) (i := 2) (a := 2) g dX12_sumOf_14 rfl rfl ?_
      refine x_aload_n (pc := 15) (i := 0) (a := 0) g dX12_sumOf_15 rfl rfl ?_
      refine x_getR (pc := 16) (x := 2) g hM dX12_sumOf_16 fl_12_33 (sm_0) rfl ?_
      refine x_iload_n (pc := 19) (i := 1) (a := 1) g dX12_sumOf_19 rfl rfl ?_
      refine x_iload_n (pc := 20) (i := 3) (a := 3) g dX12_sumOf_20 rfl rfl ?_
      refine x_iadd (pc := 21) g dX12_sumOf_21 ?_
      refine x_iald (pc := 22) g hM dX12_sumOf_22 (sm_2) (fun j1 hj1 => ?_)
      refine x_iadd (pc := 23) g dX12_sumOf_23 ?_
      refine x_nmI (fun x2 => ?_)
      refine x_istore_n (pc := 24) (i := 2) (lv' := [(2, .int x2), (0, .ref (xad G 0)), (1, .int p0), (3, .int v3)]) g dX12_sumOf_24 rfl (by decide) rfl ?_
      refine x_iinc (pc := 25) (a := 3) (lv' := [(3, .int (v3 + 1)), (2, .int x2), (0, .ref (xad G 0)), (1, .int p0)]) g dX12_sumOf_25 ic_1 rfl (by decide) rfl ?_
      refine x_goto (pc := 28) (t := 4) g dX12_sumOf_28 (by decide) ?_
      exact x_sub [2, 3, 1, 0] (ih x2 (v3 + 1)) rfl
    · refine x_iload_n (pc := 31) (i := 2) (a := 2) g dX12_sumOf_31 rfl rfl ?_
      exact x_iret (pc := 32) g dX12_sumOf_32 rfl (fun _ h => h)
theorem T_M_sumOf {l : Launch} {G : xG} {E : xE} (hM : WM G) (g : xGood E l G.1 RX12 cX12_sumOf yX12_sumOf 4 (some .int) rm_M_sumOf) (m : xMem) (p0 : Int32) : X E G (fun r : Int32 => (some (Value.int r), m)) 0 [(0, .ref (xad G 0)), (1, .int p0)] [] m (M_sumOf m p0) := by
  unfold M_sumOf
  refine x_iconst (pc := 0) g dX12_sumOf_0 ic_0 ?_
  refine x_istore_n (pc := 1) (i := 2) (lv' := [(2, .int 0), (0, .ref (xad G 0)), (1, .int p0)]) g dX12_sumOf_1 rfl (by decide) rfl ?_
  refine x_iconst (pc := 2) g dX12_sumOf_2 ic_0 ?_
  refine x_istore_n (pc := 3) (i := 3) (lv' := [(3, .int 0), (2, .int 0), (0, .ref (xad G 0)), (1, .int p0)]) g dX12_sumOf_3 rfl (by decide) rfl ?_
  exact x_sub [2, 3, 1, 0] (T_M_sumOf_b4 hM g m p0 1000 0 0) rfl
theorem c_M_sumOf (l : Launch) (G : xG) (hM : WM G) (m : xMem) (p0 : Int32) : xCi l G yX12_sumOf cX12_sumOf 4 (some .int) rm_M_sumOf [.ref (xad G 0), .int p0] m (M_sumOf m p0) :=
  xCt_of (own := RX12) (by decide) rfl (Nat.le_of_ble_eq_true rfl) rfl ⟨rfl, rfl⟩ (fun E g => T_M_sumOf hM g m p0)
theorem T_M_lookers_b4 {l : Launch} {G : xG} {E : xE} (hM : WM G) (g : xGood E l G.1 RX12 cX12_lookers yX12_lookers 3 (some .int) rm_M_lookers) (m : xMem) : ∀ (n : Nat) (v1 : Int32) (v2 : Int32), X E G (fun r : Int32 => (some (Value.int r), m)) 4 [(0, .ref (xad G 0)), (1, .int v1), (2, .int v2)] [] m (M_lookers_b4 m n v1 v2) := by
  intro n
  induction n with
  | zero => intro v1 v2; exact x_none
  | succ n ih =>
    intro v1 v2
    rw [M_lookers_b4]
    refine x_iload_n (pc := 4) (i := 2) (a := 2) g dX12_lookers_4 rfl rfl ?_
    refine x_aload_n (pc := 5) (i := 0) (a := 0) g dX12_lookers_5 rfl rfl ?_
    refine x_getR (pc := 6) (x := 2) g hM dX12_lookers_6 fl_12_33 (sm_0) rfl ?_
    refine x_iconst (pc := 9) g dX12_lookers_9 ic_1 ?_
    refine x_ialdc (pc := 10) g hM dX12_lookers_10 (sm_2) ix_1_302 ?_
    refine x_icmp_ge (pc := 11) (t := 47) g dX12_lookers_11 (by decide) ?_ ?_
    · refine x_iload_n (pc := 14) (i := 1) (a := 1) g dX12_lookers_14 rfl rfl ?_
      refine x_aload_n (pc := 15) (i := 0) (a := 0) g dX12_lookers_15 rfl rfl ?_
      refine x_iload_n (pc := 16) (i := 2) (a := 2) g dX12_lookers_16 rfl rfl ?_
      refine x_aload_n (pc := 17) (i := 0) (a := 0) g dX12_lookers_17 rfl rfl ?_
      refine x_getR (pc := 18) (x := 2) g hM dX12_lookers_18 fl_12_33 (sm_0) rfl ?_
      refine x_bipush (pc := 21) g dX12_lookers_21 bi_103 ?_
      refine x_iload_n (pc := 23) (i := 2) (a := 2) g dX12_lookers_23 rfl rfl ?_
      refine x_iadd (pc := 24) g dX12_lookers_24 ?_
      refine x_iald (pc := 25) g hM dX12_lookers_25 (sm_2) (fun j1 hj1 => ?_)
      refine x_Vi (pc := 26) g hM [.int v2, .int (m.1 2 j1)] [.int v1] (c_M_seenBy l G hM m v2 (m.1 2 j1)) dX12_lookers_26 ml_12_352 (sm_0) rfl rfl (Nat.le_of_ble_eq_true rfl) ⟨rfl, rfl, Nat.le_of_ble_eq_true rfl, Nat.le_of_ble_eq_true rfl⟩ (fun r2 hr2 => ?_)
      refine x_if_lt (pc := 29) (t := 38) g dX12_lookers_29 (by decide) ?_ ?_
      · refine x_iconst (pc := 38) g dX12_lookers_38 ic_0 ?_
        refine x_ior (pc := 39) g dX12_lookers_39 ?_
        refine x_nmI (fun x3 => ?_)
        refine x_istore_n (pc := 40) (i := 1) (lv' := [(1, .int x3), (0, .ref (xad G 0)), (2, .int v2)]) g dX12_lookers_40 rfl (by decide) rfl ?_
        refine x_iinc (pc := 41) (a := 2) (lv' := [(2, .int (v2 + 1)), (1, .int x3), (0, .ref (xad G 0))]) g dX12_lookers_41 ic_1 rfl (by decide) rfl ?_
        refine x_goto (pc := 44) (t := 4) g dX12_lookers_44 (by decide) ?_
        exact x_sub [2, 1, 0] (ih x3 (v2 + 1)) rfl
      · refine x_iconst (pc := 32) g dX12_lookers_32 ic_1 ?_
        refine x_iload_n (pc := 33) (i := 2) (a := 2) g dX12_lookers_33 rfl rfl ?_
        refine x_ishl (pc := 34) g dX12_lookers_34 ?_
        refine x_goto (pc := 35) (t := 39) g dX12_lookers_35 (by decide) ?_
        refine x_ior (pc := 39) g dX12_lookers_39 ?_
        refine x_nmI (fun x4 => ?_)
        refine x_istore_n (pc := 40) (i := 1) (lv' := [(1, .int x4), (0, .ref (xad G 0)), (2, .int v2)]) g dX12_lookers_40 rfl (by decide) rfl ?_
        refine x_iinc (pc := 41) (a := 2) (lv' := [(2, .int (v2 + 1)), (1, .int x4), (0, .ref (xad G 0))]) g dX12_lookers_41 ic_1 rfl (by decide) rfl ?_
        refine x_goto (pc := 44) (t := 4) g dX12_lookers_44 (by decide) ?_
        exact x_sub [2, 1, 0] (ih x4 (v2 + 1)) rfl
    · refine x_iload_n (pc := 47) (i := 1) (a := 1) g dX12_lookers_47 rfl rfl ?_
      exact x_iret (pc := 48) g dX12_lookers_48 rfl (fun _ h => h)
theorem T_M_lookers {l : Launch} {G : xG} {E : xE} (hM : WM G) (g : xGood E l G.1 RX12 cX12_lookers yX12_lookers 3 (some .int) rm_M_lookers) (m : xMem) : X E G (fun r : Int32 => (some (Value.int r), m)) 0 [(0, .ref (xad G 0))] [] m (M_lookers m) := by
  unfold M_lookers
  refine x_iconst (pc := 0) g dX12_lookers_0 ic_0 ?_
  refine x_istore_n (pc := 1) (i := 1) (lv' := [(1, .int 0), (0, .ref (xad G 0))]) g dX12_lookers_1 rfl (by decide) rfl ?_
  refine x_iconst (pc := 2) g dX12_lookers_2 ic_0 ?_
  refine x_istore_n (pc := 3) (i := 2) (lv' := [(2, .int 0), (1, .int 0), (0, .ref (xad G 0))]) g dX12_lookers_3 rfl (by decide) rfl ?_
  exact x_sub [2, 1, 0] (T_M_lookers_b4 hM g m 1000 0 0) rfl
theorem c_M_lookers (l : Launch) (G : xG) (hM : WM G) (m : xMem) : xCi l G yX12_lookers cX12_lookers 3 (some .int) rm_M_lookers [.ref (xad G 0)] m (M_lookers m) :=
  xCt_of (own := RX12) (by decide) rfl (Nat.le_of_ble_eq_true rfl) rfl ⟨rfl, rfl⟩ (fun E g => T_M_lookers hM g m)
theorem T_M_now_b9 {l : Launch} {G : xG} {E : xE} (hM : WM G) (g : xGood E l G.1 RX12 cX12_now yX12_now 4 (some .int) rm_M_now) (p0 : Int32) : ∀ (n : Nat) (v2 : Int32) (v3 : Int32) (m : xMem), X E G (fun r : Int32 × xMem => (some (Value.int r.1), r.2)) 9 [(0, .ref (xad G 0)), (1, .int p0), (2, .int v2), (3, .int v3)] [] m (M_now_b9 p0 n v2 v3 m) := by
  intro n
  induction n with
  | zero => intro v2 v3 m; exact x_none
  | succ n ih =>
    intro v2 v3 m
    rw [M_now_b9]
    refine x_iload_n (pc := 9) (i := 3) (a := 3) g dX12_now_9 rfl rfl ?_
    refine x_aload_n (pc := 10) (i := 0) (a := 0) g dX12_now_10 rfl rfl ?_
    refine x_getR (pc := 11) (x := 2) g hM dX12_now_11 fl_12_33 (sm_0) rfl ?_
    refine x_iconst (pc := 14) g dX12_now_14 ic_2 ?_
    refine x_ialdc (pc := 15) g hM dX12_now_15 (sm_2) ix_2_302 ?_
    refine x_icmp_gt (pc := 16) (t := 43) g dX12_now_16 (by decide) ?_ ?_
    · refine x_iload_n (pc := 43) (i := 1) (a := 1) g dX12_now_43 rfl rfl ?_
      refine x_if (fun h44_0 => ?_) (fun h44_0 => ?_)
      · refine x_tabIn (pc := 44) (t := 92) (off := 48) g dX12_now_44 h44_0 (by decide) ?_
        refine x_aload_n (pc := 92) (i := 0) (a := 0) g dX12_now_92 rfl rfl ?_
        refine x_getR (pc := 93) (x := 2) g hM dX12_now_93 fl_12_33 (sm_0) rfl ?_
        refine x_bipush (pc := 96) g dX12_now_96 bi_97 ?_
        refine x_ialdc (pc := 98) g hM dX12_now_98 (sm_2) ix_97_302 ?_
        exact x_iret (pc := 99) g dX12_now_99 rfl (fun _ h => h)
      refine x_if (fun h44_1 => ?_) (fun h44_1 => ?_)
      · refine x_tabIn (pc := 44) (t := 100) (off := 56) g dX12_now_44 h44_1 (by decide) ?_
        refine x_iload_n (pc := 100) (i := 2) (a := 2) g dX12_now_100 rfl rfl ?_
        exact x_iret (pc := 101) g dX12_now_101 rfl (fun _ h => h)
      refine x_if (fun h44_2 => ?_) (fun h44_2 => ?_)
      · refine x_tabIn (pc := 44) (t := 102) (off := 58) g dX12_now_44 h44_2 (by decide) ?_
        refine x_aload_n (pc := 102) (i := 0) (a := 0) g dX12_now_102 rfl rfl ?_
        refine x_getR (pc := 103) (x := 2) g hM dX12_now_103 fl_12_33 (sm_0) rfl ?_
        refine x_bipush (pc := 106) g dX12_now_106 bi_98 ?_
        refine x_ialdc (pc := 108) g hM dX12_now_108 (sm_2) ix_98_302 ?_
        exact x_iret (pc := 109) g dX12_now_109 rfl (fun _ h => h)
      refine x_if (fun h44_3 => ?_) (fun h44_3 => ?_)
      · refine x_tabIn (pc := 44) (t := 110) (off := 66) g dX12_now_44 h44_3 (by decide) ?_
        refine x_aload_n (pc := 110) (i := 0) (a := 0) g dX12_now_110 rfl rfl ?_
        refine x_Vi (pc := 111) g hM [] [] (c_M_lookers l G hM m) dX12_now_111 ml_12_374 (sm_0) rfl rfl (Nat.le_of_ble_eq_true rfl) ⟨rfl, rfl, Nat.le_of_ble_eq_true rfl, Nat.le_of_ble_eq_true rfl⟩ (fun r2 hr2 => ?_)
        exact x_iret (pc := 114) g dX12_now_114 rfl (fun _ h => h)
      refine x_if (fun h44_4 => ?_) (fun h44_4 => ?_)
      · refine x_tabIn (pc := 44) (t := 115) (off := 71) g dX12_now_44 h44_4 (by decide) ?_
        refine x_aload_n (pc := 115) (i := 0) (a := 0) g dX12_now_115 rfl rfl ?_
        refine x_Vi (pc := 116) g hM [] [] (c_M_isShut l G hM m) dX12_now_116 ml_12_337 (sm_0) rfl rfl (Nat.le_of_ble_eq_true rfl) ⟨rfl, rfl, Nat.le_of_ble_eq_true rfl, Nat.le_of_ble_eq_true rfl⟩ (fun r3 hr3 => ?_)
        refine x_if_eq (pc := 119) (t := 126) g dX12_now_119 (by decide) ?_ ?_
        · refine x_iconst (pc := 126) g dX12_now_126 ic_0 ?_
          exact x_iret (pc := 127) g dX12_now_127 rfl (fun _ h => h)
        · refine x_iconst (pc := 122) g dX12_now_122 ic_1 ?_
          refine x_goto (pc := 123) (t := 127) g dX12_now_123 (by decide) ?_
          exact x_iret (pc := 127) g dX12_now_127 rfl (fun _ h => h)
      refine x_if (fun h44_5 => ?_) (fun h44_5 => ?_)
      · refine x_tabIn (pc := 44) (t := 128) (off := 84) g dX12_now_44 h44_5 (by decide) ?_
        refine x_aload_n (pc := 128) (i := 0) (a := 0) g dX12_now_128 rfl rfl ?_
        refine x_bipush (pc := 129) g dX12_now_129 bi_109 ?_
        refine x_Vi (pc := 131) g hM [.int 109] [] (c_M_sumOf l G hM m 109) dX12_now_131 ml_12_377 (sm_0) rfl rfl (Nat.le_of_ble_eq_true rfl) ⟨rfl, rfl, Nat.le_of_ble_eq_true rfl, Nat.le_of_ble_eq_true rfl⟩ (fun r4 hr4 => ?_)
        exact x_iret (pc := 134) g dX12_now_134 rfl (fun _ h => h)
      refine x_if (fun h44_6 => ?_) (fun h44_6 => ?_)
      · refine x_tabIn (pc := 44) (t := 135) (off := 91) g dX12_now_44 h44_6 (by decide) ?_
        refine x_aload_n (pc := 135) (i := 0) (a := 0) g dX12_now_135 rfl rfl ?_
        refine x_bipush (pc := 136) g dX12_now_136 bi_115 ?_
        refine x_Vi (pc := 138) g hM [.int 115] [] (c_M_sumOf l G hM m 115) dX12_now_138 ml_12_377 (sm_0) rfl rfl (Nat.le_of_ble_eq_true rfl) ⟨rfl, rfl, Nat.le_of_ble_eq_true rfl, Nat.le_of_ble_eq_true rfl⟩ (fun r5 hr5 => ?_)
        exact x_iret (pc := 141) g dX12_now_141 rfl (fun _ h => h)
      refine x_if (fun h44_7 => ?_) (fun h44_7 => ?_)
      · refine x_tabIn (pc := 44) (t := 142) (off := 98) g dX12_now_44 h44_7 (by decide) ?_
        refine x_aload_n (pc := 142) (i := 0) (a := 0) g dX12_now_142 rfl rfl ?_
        refine x_getR (pc := 143) (x := 2) g hM dX12_now_143 fl_12_33 (sm_0) rfl ?_
        refine x_bipush (pc := 146) g dX12_now_146 bi_99 ?_
        refine x_ialdc (pc := 148) g hM dX12_now_148 (sm_2) ix_99_302 ?_
        exact x_iret (pc := 149) g dX12_now_149 rfl (fun _ h => h)
      refine x_tabOut (pc := 44) (t := 150) g dX12_now_44 (by have z0 := ne_toInt (k := 0) h44_0 (by decide); have z1 := ne_toInt (k := 1) h44_1 (by decide); have z2 := ne_toInt (k := 2) h44_2 (by decide); have z3 := ne_toInt (k := 3) h44_3 (by decide); have z4 := ne_toInt (k := 4) h44_4 (by decide); have z5 := ne_toInt (k := 5) h44_5 (by decide); have z6 := ne_toInt (k := 6) h44_6 (by decide); have z7 := ne_toInt (k := 7) h44_7 (by decide); omega) (by decide) ?_
      refine x_iconst (pc := 150) g dX12_now_150 ic_m1 ?_
      exact x_iret (pc := 151) g dX12_now_151 rfl (fun _ h => h)
    · refine x_iload_n (pc := 19) (i := 2) (a := 2) g dX12_now_19 rfl rfl ?_
      refine x_aload_n (pc := 20) (i := 0) (a := 0) g dX12_now_20 rfl rfl ?_
      refine x_iload_n (pc := 21) (i := 3) (a := 3) g dX12_now_21 rfl rfl ?_
      refine x_Vi (pc := 22) g hM [.int v3] [.int v2] (c_M_isOn l G hM m v3) dX12_now_22 ml_12_340 (sm_0) rfl rfl (Nat.le_of_ble_eq_true rfl) ⟨rfl, rfl, Nat.le_of_ble_eq_true rfl, Nat.le_of_ble_eq_true rfl⟩ (fun r6 hr6 => ?_)
      refine x_if_eq (pc := 25) (t := 34) g dX12_now_25 (by decide) ?_ ?_
      · refine x_iconst (pc := 34) g dX12_now_34 ic_0 ?_
        refine x_ior (pc := 35) g dX12_now_35 ?_
        refine x_nmI (fun x7 => ?_)
        refine x_istore_n (pc := 36) (i := 2) (lv' := [(2, .int x7), (0, .ref (xad G 0)), (1, .int p0), (3, .int v3)]) g dX12_now_36 rfl (by decide) rfl ?_
        refine x_iinc (pc := 37) (a := 3) (lv' := [(3, .int (v3 + 1)), (2, .int x7), (0, .ref (xad G 0)), (1, .int p0)]) g dX12_now_37 ic_1 rfl (by decide) rfl ?_
        refine x_goto (pc := 40) (t := 9) g dX12_now_40 (by decide) ?_
        exact x_sub [2, 3, 1, 0] (ih x7 (v3 + 1) m) rfl
      · refine x_iconst (pc := 28) g dX12_now_28 ic_1 ?_
        refine x_iload_n (pc := 29) (i := 3) (a := 3) g dX12_now_29 rfl rfl ?_
        refine x_ishl (pc := 30) g dX12_now_30 ?_
        refine x_goto (pc := 31) (t := 35) g dX12_now_31 (by decide) ?_
        refine x_ior (pc := 35) g dX12_now_35 ?_
        refine x_nmI (fun x8 => ?_)
        refine x_istore_n (pc := 36) (i := 2) (lv' := [(2, .int x8), (0, .ref (xad G 0)), (1, .int p0), (3, .int v3)]) g dX12_now_36 rfl (by decide) rfl ?_
        refine x_iinc (pc := 37) (a := 3) (lv' := [(3, .int (v3 + 1)), (2, .int x8), (0, .ref (xad G 0)), (1, .int p0)]) g dX12_now_37 ic_1 rfl (by decide) rfl ?_
        refine x_goto (pc := 40) (t := 9) g dX12_now_40 (by decide) ?_
        exact x_sub [2, 3, 1, 0] (ih x8 (v3 + 1) m) rfl
theorem T_M_now {l : Launch} {G : xG} {E : xE} (hM : WM G) (g : xGood E l G.1 RX12 cX12_now yX12_now 4 (some .int) rm_M_now) (m : xMem) (p0 : Int32) : X E G (fun r : Int32 × xMem => (some (Value.int r.1), r.2)) 0 [(0, .ref (xad G 0)), (1, .int p0)] [] m (M_now m p0) := by
  unfold M_now
  refine x_aload_n (pc := 0) (i := 0) (a := 0) g dX12_now_0 rfl rfl ?_
  refine x_iconst (pc := 1) g dX12_now_1 ic_0 ?_
  refine x_putI (pc := 2) g hM dX12_now_2 fl_12_1 ft_12_0 (sm_0) rfl (fun m1 => ?_)
  refine x_iconst (pc := 5) g dX12_now_5 ic_0 ?_
  refine x_istore_n (pc := 6) (i := 2) (lv' := [(2, .int 0), (0, .ref (xad G 0)), (1, .int p0)]) g dX12_now_6 rfl (by decide) rfl ?_
  refine x_iconst (pc := 7) g dX12_now_7 ic_0 ?_
  refine x_istore_n (pc := 8) (i := 3) (lv' := [(3, .int 0), (2, .int 0), (0, .ref (xad G 0)), (1, .int p0)]) g dX12_now_8 rfl (by decide) rfl ?_
  exact x_sub [2, 3, 1, 0] (T_M_now_b9 hM g p0 1000 0 0 m1) rfl
theorem c_M_now (l : Launch) (G : xG) (hM : WM G) (m : xMem) (p0 : Int32) : xCim l G yX12_now cX12_now 4 (some .int) rm_M_now [.ref (xad G 0), .int p0] m (M_now m p0) :=
  xCt_of (own := RX12) (by decide) rfl (Nat.le_of_ble_eq_true rfl) rfl ⟨rfl, rfl⟩ (fun E g => T_M_now hM g m p0)
theorem T_M_whyLend {l : Launch} {G : xG} {E : xE} (hM : WM G) (g : xGood E l G.1 RX12 cX12_whyLend yX12_whyLend 3 (some .int) rm_M_whyLend) (m : xMem) (p0 : Int32) (p1 : Int32) : X E G (fun r : Int32 => (some (Value.int r), m)) 0 [(0, .ref (xad G 0)), (1, .int p0), (2, .int p1)] [] m (M_whyLend m p0 p1) := by
  unfold M_whyLend
  refine x_aload_n (pc := 0) (i := 0) (a := 0) g dX12_whyLend_0 rfl rfl ?_
  refine x_getR (pc := 1) (x := 2) g hM dX12_whyLend_1 fl_12_33 (sm_0) rfl ?_
  refine x_bipush (pc := 4) g dX12_whyLend_4 bi_103 ?_
  refine x_iload_n (pc := 6) (i := 1) (a := 1) g dX12_whyLend_6 rfl rfl ?_
  refine x_iadd (pc := 7) g dX12_whyLend_7 ?_
  refine x_iald (pc := 8) g hM dX12_whyLend_8 (sm_2) (fun j1 hj1 => ?_)
  refine x_iload_n (pc := 9) (i := 2) (a := 2) g dX12_whyLend_9 rfl rfl ?_
  refine x_icmp_ne (pc := 10) (t := 17) g dX12_whyLend_10 (by decide) ?_ ?_
  · refine x_iconst (pc := 13) g dX12_whyLend_13 ic_1 ?_
    refine x_goto (pc := 14) (t := 30) g dX12_whyLend_14 (by decide) ?_
    exact x_iret (pc := 30) g dX12_whyLend_30 rfl (fun _ h => h)
  · refine x_aload_n (pc := 17) (i := 0) (a := 0) g dX12_whyLend_17 rfl rfl ?_
    refine x_iload_n (pc := 18) (i := 2) (a := 2) g dX12_whyLend_18 rfl rfl ?_
    refine x_Vi (pc := 19) g hM [.int p1] [] (c_M_owlBy l G hM m p1) dX12_whyLend_19 ml_12_362 (sm_0) rfl rfl (Nat.le_of_ble_eq_true rfl) ⟨rfl, rfl, Nat.le_of_ble_eq_true rfl, Nat.le_of_ble_eq_true rfl⟩ (fun r2 hr2 => ?_)
    refine x_if_lt (pc := 22) (t := 29) g dX12_whyLend_22 (by decide) ?_ ?_
    · refine x_iconst (pc := 29) g dX12_whyLend_29 ic_0 ?_
      exact x_iret (pc := 30) g dX12_whyLend_30 rfl (fun _ h => h)
    · refine x_iconst (pc := 25) g dX12_whyLend_25 ic_2 ?_
      refine x_goto (pc := 26) (t := 30) g dX12_whyLend_26 (by decide) ?_
      exact x_iret (pc := 30) g dX12_whyLend_30 rfl (fun _ h => h)
theorem c_M_whyLend (l : Launch) (G : xG) (hM : WM G) (m : xMem) (p0 : Int32) (p1 : Int32) : xCi l G yX12_whyLend cX12_whyLend 3 (some .int) rm_M_whyLend [.ref (xad G 0), .int p0, .int p1] m (M_whyLend m p0 p1) :=
  xCt_of (own := RX12) (by decide) rfl (Nat.le_of_ble_eq_true rfl) rfl ⟨rfl, rfl⟩ (fun E g => T_M_whyLend hM g m p0 p1)
theorem T_M_cries {l : Launch} {G : xG} {E : xE} (hM : WM G) (g : xGood E l G.1 RX12 cX12_cries yX12_cries 4 none rm_M_cries) (m : xMem) (p0 : Int32) (p1 : Int32) (p2 : Int32) : X E G (fun r : xMem => ((none : Option Value), r)) 0 [(0, .ref (xad G 0)), (1, .int p0), (2, .int p1), (3, .int p2)] [] m (M_cries m p0 p1 p2) := by
  unfold M_cries
  refine x_aload_n (pc := 0) (i := 0) (a := 0) g dX12_cries_0 rfl rfl ?_
  refine x_getR (pc := 1) (x := 2) g hM dX12_cries_1 fl_12_33 (sm_0) rfl ?_
  refine x_bipush (pc := 4) g dX12_cries_4 bi_101 ?_
  refine x_iload_n (pc := 6) (i := 1) (a := 1) g dX12_cries_6 rfl rfl ?_
  refine x_iastc (pc := 7) g hM dX12_cries_7 (sm_2) ix_101_302 (fun m1 => ?_)
  refine x_aload_n (pc := 8) (i := 0) (a := 0) g dX12_cries_8 rfl rfl ?_
  refine x_getR (pc := 9) (x := 2) g hM dX12_cries_9 fl_12_33 (sm_0) rfl ?_
  refine x_bipush (pc := 12) g dX12_cries_12 bi_102 ?_
  refine x_iload_n (pc := 14) (i := 2) (a := 2) g dX12_cries_14 rfl rfl ?_
  refine x_iastc (pc := 15) g hM dX12_cries_15 (sm_2) ix_102_302 (fun m2 => ?_)
  refine x_aload_n (pc := 16) (i := 0) (a := 0) g dX12_cries_16 rfl rfl ?_
  refine x_getR (pc := 17) (x := 2) g hM dX12_cries_17 fl_12_33 (sm_0) rfl ?_
  refine x_bipush (pc := 20) g dX12_cries_20 bi_100 ?_
  refine x_iload_n (pc := 22) (i := 3) (a := 3) g dX12_cries_22 rfl rfl ?_
  refine x_iastc (pc := 23) g hM dX12_cries_23 (sm_2) ix_100_302 (fun m3 => ?_)
  refine x_aload_n (pc := 24) (i := 0) (a := 0) g dX12_cries_24 rfl rfl ?_
  refine x_getR (pc := 25) (x := 2) g hM dX12_cries_25 fl_12_33 (sm_0) rfl ?_
  refine x_bipush (pc := 28) g dX12_cries_28 bi_99 ?_
  refine x_dup2 (pc := 30) g dX12_cries_30 rfl rfl ?_
  refine x_ialdc (pc := 31) g hM dX12_cries_31 (sm_2) ix_99_302 ?_
  refine x_iconst (pc := 32) g dX12_cries_32 ic_1 ?_
  refine x_iadd (pc := 33) g dX12_cries_33 ?_
  refine x_iastc (pc := 34) g hM dX12_cries_34 (sm_2) ix_99_302 (fun m4 => ?_)
  exact x_vret (pc := 35) g dX12_cries_35 rfl (fun _ h => h)
theorem c_M_cries (l : Launch) (G : xG) (hM : WM G) (m : xMem) (p0 : Int32) (p1 : Int32) (p2 : Int32) : xCv l G yX12_cries cX12_cries 4 none rm_M_cries [.ref (xad G 0), .int p0, .int p1, .int p2] m (M_cries m p0 p1 p2) :=
  xCt_of (own := RX12) (by decide) rfl (Nat.le_of_ble_eq_true rfl) rfl ⟨rfl, rfl⟩ (fun E g => T_M_cries hM g m p0 p1 p2)
theorem T_M_hour_b109 {l : Launch} {G : xG} {E : xE} (hM : WM G) (g : xGood E l G.1 RX12 cX12_hour yX12_hour 5 none rm_M_hour) (k2 : Int32 → xMem → Option (xMem)) (hk2 : ∀ (v1 : Int32) (m : xMem), X E G (fun r : xMem => ((none : Option Value), r)) 2 [(0, .ref (xad G 0)), (1, .int v1)] [] m (k2 v1 m)) (k57 : Int32 → Int32 → Int32 → xMem → Option (xMem)) (hk57 : ∀ (v1 : Int32) (v3 : Int32) (v4 : Int32) (m : xMem), X E G (fun r : xMem => ((none : Option Value), r)) 57 [(0, .ref (xad G 0)), (1, .int v1), (3, .int v3), (4, .int v4)] [] m (k57 v1 v3 v4 m)) (v1 : Int32) (v3 : Int32) (v4 : Int32) (s0 : Int32) (s1 : Int32) (s2 : Int32) (m : xMem) : X E G (fun r : xMem => ((none : Option Value), r)) 109 [(0, .ref (xad G 0)), (1, .int v1), (3, .int v3), (4, .int v4)] [.int s0, .int s1, .int s2, .ref (xad G 2)] m (M_hour_b109 k2 k57 v1 v3 v4 s0 s1 s2 m) := by
  unfold M_hour_b109
  refine x_iadd (pc := 109) g dX12_hour_109 ?_
  refine x_iast (pc := 110) g hM dX12_hour_110 (sm_2) (fun j14 hj14 m13 => ?_)
  refine x_iinc (pc := 111) (a := 3) (lv' := [(4, .int (v4 + 1)), (0, .ref (xad G 0)), (1, .int v1), (3, .int v3)]) g dX12_hour_111 ic_1 rfl (by decide) rfl ?_
  refine x_goto (pc := 114) (t := 57) g dX12_hour_114 (by decide) ?_
  exact x_sub [1, 2, 3, 0] (hk57 v1 v3 (v4 + 1) m13) rfl
theorem T_M_hour_b57 {l : Launch} {G : xG} {E : xE} (hM : WM G) (g : xGood E l G.1 RX12 cX12_hour yX12_hour 5 none rm_M_hour) (k2 : Int32 → xMem → Option (xMem)) (hk2 : ∀ (v1 : Int32) (m : xMem), X E G (fun r : xMem => ((none : Option Value), r)) 2 [(0, .ref (xad G 0)), (1, .int v1)] [] m (k2 v1 m)) : ∀ (n : Nat) (v1 : Int32) (v3 : Int32) (v4 : Int32) (m : xMem), X E G (fun r : xMem => ((none : Option Value), r)) 57 [(0, .ref (xad G 0)), (1, .int v1), (3, .int v3), (4, .int v4)] [] m (M_hour_b57 k2 n v1 v3 v4 m) := by
  intro n
  induction n with
  | zero => intro v1 v3 v4 m; exact x_none
  | succ n ih =>
    intro v1 v3 v4 m
    rw [M_hour_b57]
    refine x_iload (pc := 57) (a := 3) g dX12_hour_57 rfl ?_
    refine x_aload_n (pc := 59) (i := 0) (a := 0) g dX12_hour_59 rfl rfl ?_
    refine x_getR (pc := 60) (x := 2) g hM dX12_hour_60 fl_12_33 (sm_0) rfl ?_
    refine x_iconst (pc := 63) g dX12_hour_63 ic_2 ?_
    refine x_ialdc (pc := 64) g hM dX12_hour_64 (sm_2) ix_2_302 ?_
    refine x_icmp_gt (pc := 65) (t := 117) g dX12_hour_65 (by decide) ?_ ?_
    · refine x_iinc (pc := 117) (a := 1) (lv' := [(1, .int (v1 + 1)), (0, .ref (xad G 0)), (3, .int v3), (4, .int v4)]) g dX12_hour_117 ic_1 rfl (by decide) rfl ?_
      refine x_goto (pc := 120) (t := 2) g dX12_hour_120 (by decide) ?_
      exact x_sub [1, 0] (hk2 (v1 + 1) m) rfl
    · refine x_aload_n (pc := 68) (i := 0) (a := 0) g dX12_hour_68 rfl rfl ?_
      refine x_getR (pc := 69) (x := 2) g hM dX12_hour_69 fl_12_33 (sm_0) rfl ?_
      refine x_bipush (pc := 72) g dX12_hour_72 bi_115 ?_
      refine x_iload_n (pc := 74) (i := 1) (a := 1) g dX12_hour_74 rfl rfl ?_
      refine x_iadd (pc := 75) g dX12_hour_75 ?_
      refine x_nmI (fun x9 => ?_)
      refine x_dup2 (pc := 76) g dX12_hour_76 rfl rfl ?_
      refine x_iald (pc := 77) g hM dX12_hour_77 (sm_2) (fun j10 hj10 => ?_)
      refine x_iload (pc := 78) (a := 3) g dX12_hour_78 rfl ?_
      refine x_iload_n (pc := 80) (i := 3) (a := 2) g dX12_hour_80 rfl rfl ?_
      refine x_icmp_eq (pc := 81) (t := 108) g dX12_hour_81 (by decide) ?_ ?_
      · refine x_iconst (pc := 108) g dX12_hour_108 ic_0 ?_
        exact x_sub [0, 1, 2, 3] (T_M_hour_b109 hM g k2 hk2 (M_hour_b57 k2 n) ih v1 v3 v4 0 (m.1 2 j10) x9 m) rfl
      · refine x_aload_n (pc := 84) (i := 0) (a := 0) g dX12_hour_84 rfl rfl ?_
        refine x_iload (pc := 85) (a := 3) g dX12_hour_85 rfl ?_
        refine x_Vi (pc := 87) g hM [.int v4] [.int (m.1 2 j10), .int x9, .ref (xad G 2)] (c_M_isOn l G hM m v4) dX12_hour_87 ml_12_340 (sm_0) rfl rfl (Nat.le_of_ble_eq_true rfl) ⟨rfl, rfl, Nat.le_of_ble_eq_true rfl, Nat.le_of_ble_eq_true rfl⟩ (fun r11 hr11 => ?_)
        refine x_if_eq (pc := 90) (t := 108) g dX12_hour_90 (by decide) ?_ ?_
        · refine x_iconst (pc := 108) g dX12_hour_108 ic_0 ?_
          exact x_sub [0, 1, 2, 3] (T_M_hour_b109 hM g k2 hk2 (M_hour_b57 k2 n) ih v1 v3 v4 0 (m.1 2 j10) x9 m) rfl
        · refine x_aload_n (pc := 93) (i := 0) (a := 0) g dX12_hour_93 rfl rfl ?_
          refine x_iload (pc := 94) (a := 3) g dX12_hour_94 rfl ?_
          refine x_iload_n (pc := 96) (i := 1) (a := 1) g dX12_hour_96 rfl rfl ?_
          refine x_Vi (pc := 97) g hM [.int v4, .int v1] [.int (m.1 2 j10), .int x9, .ref (xad G 2)] (c_M_loudAt l G hM m v4 v1) dX12_hour_97 ml_12_349 (sm_0) rfl rfl (Nat.le_of_ble_eq_true rfl) ⟨rfl, rfl, Nat.le_of_ble_eq_true rfl, Nat.le_of_ble_eq_true rfl⟩ (fun r12 hr12 => ?_)
          refine x_iconst (pc := 100) g dX12_hour_100 ic_5 ?_
          refine x_icmp_lt (pc := 101) (t := 108) g dX12_hour_101 (by decide) ?_ ?_
          · refine x_iconst (pc := 108) g dX12_hour_108 ic_0 ?_
            exact x_sub [0, 1, 2, 3] (T_M_hour_b109 hM g k2 hk2 (M_hour_b57 k2 n) ih v1 v3 v4 0 (m.1 2 j10) x9 m) rfl
          · refine x_iconst (pc := 104) g dX12_hour_104 ic_1 ?_
            refine x_goto (pc := 105) (t := 109) g dX12_hour_105 (by decide) ?_
            exact x_sub [0, 1, 2, 3] (T_M_hour_b109 hM g k2 hk2 (M_hour_b57 k2 n) ih v1 v3 v4 1 (m.1 2 j10) x9 m) rfl
theorem T_M_hour_b52 {l : Launch} {G : xG} {E : xE} (hM : WM G) (g : xGood E l G.1 RX12 cX12_hour yX12_hour 5 none rm_M_hour) (k2 : Int32 → xMem → Option (xMem)) (hk2 : ∀ (v1 : Int32) (m : xMem), X E G (fun r : xMem => ((none : Option Value), r)) 2 [(0, .ref (xad G 0)), (1, .int v1)] [] m (k2 v1 m)) (v1 : Int32) (v3 : Int32) (s0 : Int32) (s1 : Int32) (s2 : Int32) (m : xMem) : X E G (fun r : xMem => ((none : Option Value), r)) 52 [(0, .ref (xad G 0)), (1, .int v1), (3, .int v3)] [.int s0, .int s1, .int s2, .ref (xad G 2)] m (M_hour_b52 k2 v1 v3 s0 s1 s2 m) := by
  unfold M_hour_b52
  refine x_iadd (pc := 52) g dX12_hour_52 ?_
  refine x_iast (pc := 53) g hM dX12_hour_53 (sm_2) (fun j8 hj8 m7 => ?_)
  refine x_iconst (pc := 54) g dX12_hour_54 ic_0 ?_
  refine x_istore (pc := 55) (lv' := [(4, .int 0), (0, .ref (xad G 0)), (1, .int v1), (3, .int v3)]) g dX12_hour_55 (by decide) rfl ?_
  exact x_sub [1, 2, 3, 0] (T_M_hour_b57 hM g k2 hk2 1000 v1 v3 0 m7) rfl
theorem T_M_hour_b32 {l : Launch} {G : xG} {E : xE} (hM : WM G) (g : xGood E l G.1 RX12 cX12_hour yX12_hour 5 none rm_M_hour) (k2 : Int32 → xMem → Option (xMem)) (hk2 : ∀ (v1 : Int32) (m : xMem), X E G (fun r : xMem => ((none : Option Value), r)) 2 [(0, .ref (xad G 0)), (1, .int v1)] [] m (k2 v1 m)) (v1 : Int32) (s0 : Int32) (m : xMem) : X E G (fun r : xMem => ((none : Option Value), r)) 32 [(0, .ref (xad G 0)), (1, .int v1)] [.int s0] m (M_hour_b32 k2 v1 s0 m) := by
  unfold M_hour_b32
  refine x_istore_n (pc := 32) (i := 3) (lv' := [(3, .int s0), (0, .ref (xad G 0)), (1, .int v1)]) g dX12_hour_32 rfl (by decide) rfl ?_
  refine x_aload_n (pc := 33) (i := 0) (a := 1) g dX12_hour_33 rfl rfl ?_
  refine x_getR (pc := 34) (x := 2) g hM dX12_hour_34 fl_12_33 (sm_0) rfl ?_
  refine x_bipush (pc := 37) g dX12_hour_37 bi_109 ?_
  refine x_iload_n (pc := 39) (i := 1) (a := 2) g dX12_hour_39 rfl rfl ?_
  refine x_iadd (pc := 40) g dX12_hour_40 ?_
  refine x_nmI (fun x5 => ?_)
  refine x_dup2 (pc := 41) g dX12_hour_41 rfl rfl ?_
  refine x_iald (pc := 42) g hM dX12_hour_42 (sm_2) (fun j6 hj6 => ?_)
  refine x_iload_n (pc := 43) (i := 3) (a := 0) g dX12_hour_43 rfl rfl ?_
  refine x_if_lt (pc := 44) (t := 51) g dX12_hour_44 (by decide) ?_ ?_
  · refine x_iconst (pc := 51) g dX12_hour_51 ic_0 ?_
    exact x_sub [1, 2, 0] (T_M_hour_b52 hM g k2 hk2 v1 s0 0 (m.1 2 j6) x5 m) rfl
  · refine x_iconst (pc := 47) g dX12_hour_47 ic_1 ?_
    refine x_goto (pc := 48) (t := 52) g dX12_hour_48 (by decide) ?_
    exact x_sub [1, 2, 0] (T_M_hour_b52 hM g k2 hk2 v1 s0 1 (m.1 2 j6) x5 m) rfl
theorem T_M_hour_b2 {l : Launch} {G : xG} {E : xE} (hM : WM G) (g : xGood E l G.1 RX12 cX12_hour yX12_hour 5 none rm_M_hour) : ∀ (n : Nat) (v1 : Int32) (m : xMem), X E G (fun r : xMem => ((none : Option Value), r)) 2 [(0, .ref (xad G 0)), (1, .int v1)] [] m (M_hour_b2 n v1 m) := by
  intro n
  induction n with
  | zero => intro v1 m; exact x_none
  | succ n ih =>
    intro v1 m
    rw [M_hour_b2]
    refine x_iload_n (pc := 2) (i := 1) (a := 1) g dX12_hour_2 rfl rfl ?_
    refine x_aload_n (pc := 3) (i := 0) (a := 0) g dX12_hour_3 rfl rfl ?_
    refine x_getR (pc := 4) (x := 2) g hM dX12_hour_4 fl_12_33 (sm_0) rfl ?_
    refine x_iconst (pc := 7) g dX12_hour_7 ic_0 ?_
    refine x_ialdc (pc := 8) g hM dX12_hour_8 (sm_2) ix_0_302 ?_
    refine x_icmp_ge (pc := 9) (t := 123) g dX12_hour_9 (by decide) ?_ ?_
    · refine x_aload_n (pc := 12) (i := 0) (a := 0) g dX12_hour_12 rfl rfl ?_
      refine x_iload_n (pc := 13) (i := 1) (a := 1) g dX12_hour_13 rfl rfl ?_
      refine x_Vi (pc := 14) g hM [.int v1] [] (c_M_owlBy l G hM m v1) dX12_hour_14 ml_12_362 (sm_0) rfl rfl (Nat.le_of_ble_eq_true rfl) ⟨rfl, rfl, Nat.le_of_ble_eq_true rfl, Nat.le_of_ble_eq_true rfl⟩ (fun r1 hr1 => ?_)
      refine x_istore_n (pc := 17) (i := 2) (lv' := [(2, .int r1), (0, .ref (xad G 0)), (1, .int v1)]) g dX12_hour_17 rfl (by decide) rfl ?_
      refine x_iload_n (pc := 18) (i := 2) (a := 0) g dX12_hour_18 rfl rfl ?_
      refine x_if_ge (pc := 19) (t := 26) g dX12_hour_19 (by decide) ?_ ?_
      · refine x_iconst (pc := 22) g dX12_hour_22 ic_m1 ?_
        refine x_goto (pc := 23) (t := 32) g dX12_hour_23 (by decide) ?_
        exact x_sub [1, 2] (T_M_hour_b32 hM g (M_hour_b2 n) ih v1 ((-1)) m) rfl
      · refine x_aload_n (pc := 26) (i := 0) (a := 1) g dX12_hour_26 rfl rfl ?_
        refine x_iload_n (pc := 27) (i := 2) (a := 0) g dX12_hour_27 rfl rfl ?_
        refine x_iload_n (pc := 28) (i := 1) (a := 2) g dX12_hour_28 rfl rfl ?_
        refine x_Vi (pc := 29) g hM [.int r1, .int v1] [] (c_M_seenBy l G hM m r1 v1) dX12_hour_29 ml_12_352 (sm_0) rfl rfl (Nat.le_of_ble_eq_true rfl) ⟨rfl, rfl, Nat.le_of_ble_eq_true rfl, Nat.le_of_ble_eq_true rfl⟩ (fun r2 hr2 => ?_)
        exact x_sub [1, 2] (T_M_hour_b32 hM g (M_hour_b2 n) ih v1 r2 m) rfl
    · refine x_aload_n (pc := 123) (i := 0) (a := 0) g dX12_hour_123 rfl rfl ?_
      refine x_getR (pc := 124) (x := 2) g hM dX12_hour_124 fl_12_33 (sm_0) rfl ?_
      refine x_bipush (pc := 127) g dX12_hour_127 bi_100 ?_
      refine x_iconst (pc := 129) g dX12_hour_129 ic_0 ?_
      refine x_iastc (pc := 130) g hM dX12_hour_130 (sm_2) ix_100_302 (fun m3 => ?_)
      refine x_aload_n (pc := 131) (i := 0) (a := 0) g dX12_hour_131 rfl rfl ?_
      refine x_getR (pc := 132) (x := 2) g hM dX12_hour_132 fl_12_33 (sm_0) rfl ?_
      refine x_bipush (pc := 135) g dX12_hour_135 bi_97 ?_
      refine x_dup2 (pc := 137) g dX12_hour_137 rfl rfl ?_
      refine x_ialdc (pc := 138) g hM dX12_hour_138 (sm_2) ix_97_302 ?_
      refine x_iconst (pc := 139) g dX12_hour_139 ic_1 ?_
      refine x_iadd (pc := 140) g dX12_hour_140 ?_
      refine x_iastc (pc := 141) g hM dX12_hour_141 (sm_2) ix_97_302 (fun m4 => ?_)
      exact x_vret (pc := 142) g dX12_hour_142 rfl (fun _ h => h)
theorem T_M_hour {l : Launch} {G : xG} {E : xE} (hM : WM G) (g : xGood E l G.1 RX12 cX12_hour yX12_hour 5 none rm_M_hour) (m : xMem) : X E G (fun r : xMem => ((none : Option Value), r)) 0 [(0, .ref (xad G 0))] [] m (M_hour m) := by
  unfold M_hour
  refine x_iconst (pc := 0) g dX12_hour_0 ic_0 ?_
  refine x_istore_n (pc := 1) (i := 1) (lv' := [(1, .int 0), (0, .ref (xad G 0))]) g dX12_hour_1 rfl (by decide) rfl ?_
  exact x_sub [1, 0] (T_M_hour_b2 hM g 1000 0 m) rfl
theorem c_M_hour (l : Launch) (G : xG) (hM : WM G) (m : xMem) : xCv l G yX12_hour cX12_hour 5 none rm_M_hour [.ref (xad G 0)] m (M_hour m) :=
  xCt_of (own := RX12) (by decide) rfl (Nat.le_of_ble_eq_true rfl) rfl ⟨rfl, rfl⟩ (fun E g => T_M_hour hM g m)
theorem T_M_goesOn_b2 {l : Launch} {G : xG} {E : xE} (hM : WM G) (g : xGood E l G.1 RX12 cX12_goesOn yX12_goesOn 3 (some .int) rm_M_goesOn) (p0 : Int32) : ∀ (n : Nat) (v2 : Int32) (m : xMem), X E G (fun r : Int32 × xMem => (some (Value.int r.1), r.2)) 2 [(0, .ref (xad G 0)), (1, .int p0), (2, .int v2)] [] m (M_goesOn_b2 p0 n v2 m) := by
  intro n
  induction n with
  | zero => intro v2 m; exact x_none
  | succ n ih =>
    intro v2 m
    rw [M_goesOn_b2]
    refine x_iload_n (pc := 2) (i := 2) (a := 2) g dX12_goesOn_2 rfl rfl ?_
    refine x_iload_n (pc := 3) (i := 1) (a := 1) g dX12_goesOn_3 rfl rfl ?_
    refine x_icmp_ge (pc := 4) (t := 30) g dX12_goesOn_4 (by decide) ?_ ?_
    · refine x_aload_n (pc := 7) (i := 0) (a := 0) g dX12_goesOn_7 rfl rfl ?_
      refine x_getR (pc := 8) (x := 2) g hM dX12_goesOn_8 fl_12_33 (sm_0) rfl ?_
      refine x_bipush (pc := 11) g dX12_goesOn_11 bi_97 ?_
      refine x_ialdc (pc := 13) g hM dX12_goesOn_13 (sm_2) ix_97_302 ?_
      refine x_sipush (pc := 14) g dX12_goesOn_14 si_400 ?_
      refine x_icmp_ge (pc := 17) (t := 30) g dX12_goesOn_17 (by decide) ?_ ?_
      · refine x_aload_n (pc := 20) (i := 0) (a := 0) g dX12_goesOn_20 rfl rfl ?_
        refine x_Vv (pc := 21) g hM [] [] (c_M_hour l G hM m) dX12_goesOn_21 ml_12_380 (sm_0) rfl rfl (Nat.le_of_ble_eq_true rfl) ⟨rfl, rfl, Nat.le_of_ble_eq_true rfl, Nat.le_of_ble_eq_true rfl⟩ (fun r1 hr1 => ?_)
        refine x_iinc (pc := 24) (a := 2) (lv' := [(2, .int (v2 + 1)), (0, .ref (xad G 0)), (1, .int p0)]) g dX12_goesOn_24 ic_1 rfl (by decide) rfl ?_
        refine x_goto (pc := 27) (t := 2) g dX12_goesOn_27 (by decide) ?_
        exact x_sub [1, 2, 0] (ih (v2 + 1) r1) rfl
      · refine x_iload_n (pc := 30) (i := 2) (a := 2) g dX12_goesOn_30 rfl rfl ?_
        exact x_iret (pc := 31) g dX12_goesOn_31 rfl (fun _ h => h)
    · refine x_iload_n (pc := 30) (i := 2) (a := 2) g dX12_goesOn_30 rfl rfl ?_
      exact x_iret (pc := 31) g dX12_goesOn_31 rfl (fun _ h => h)
theorem T_M_goesOn {l : Launch} {G : xG} {E : xE} (hM : WM G) (g : xGood E l G.1 RX12 cX12_goesOn yX12_goesOn 3 (some .int) rm_M_goesOn) (m : xMem) (p0 : Int32) : X E G (fun r : Int32 × xMem => (some (Value.int r.1), r.2)) 0 [(0, .ref (xad G 0)), (1, .int p0)] [] m (M_goesOn m p0) := by
  unfold M_goesOn
  refine x_iconst (pc := 0) g dX12_goesOn_0 ic_0 ?_
  refine x_istore_n (pc := 1) (i := 2) (lv' := [(2, .int 0), (0, .ref (xad G 0)), (1, .int p0)]) g dX12_goesOn_1 rfl (by decide) rfl ?_
  exact x_sub [1, 2, 0] (T_M_goesOn_b2 hM g p0 1000 0 m) rfl
theorem c_M_goesOn (l : Launch) (G : xG) (hM : WM G) (m : xMem) (p0 : Int32) : xCim l G yX12_goesOn cX12_goesOn 3 (some .int) rm_M_goesOn [.ref (xad G 0), .int p0] m (M_goesOn m p0) :=
  xCt_of (own := RX12) (by decide) rfl (Nat.le_of_ble_eq_true rfl) rfl ⟨rfl, rfl⟩ (fun E g => T_M_goesOn hM g m p0)
theorem T_M_keep_b47 {l : Launch} {G : xG} {E : xE} (hM : WM G) (g : xGood E l G.1 RX12 cX12_keep yX12_keep 2 none rm_M_keep) : ∀ (n : Nat) (v1 : Int32) (m : xMem), X E G (fun r : xMem => ((none : Option Value), r)) 47 [(0, .ref (xad G 0)), (1, .int v1)] [] m (M_keep_b47 n v1 m) := by
  intro n
  induction n with
  | zero => intro v1 m; exact x_none
  | succ n ih =>
    intro v1 m
    rw [M_keep_b47]
    refine x_iload_n (pc := 47) (i := 1) (a := 1) g dX12_keep_47 rfl rfl ?_
    refine x_bipush (pc := 48) g dX12_keep_48 bi_24 ?_
    refine x_icmp_ge (pc := 50) (t := 82) g dX12_keep_50 (by decide) ?_ ?_
    · refine x_aload_n (pc := 53) (i := 0) (a := 0) g dX12_keep_53 rfl rfl ?_
      refine x_getR (pc := 54) (x := 7) g hM dX12_keep_54 fl_12_50 (sm_0) rfl ?_
      refine x_bipush (pc := 57) g dX12_keep_57 bi_24 ?_
      refine x_aload_n (pc := 59) (i := 0) (a := 0) g dX12_keep_59 rfl rfl ?_
      refine x_getI (pc := 60) g hM dX12_keep_60 fl_12_307 (sm_0) rfl ?_
      refine x_imul (pc := 63) g dX12_keep_63 ?_
      refine x_iload_n (pc := 64) (i := 1) (a := 1) g dX12_keep_64 rfl rfl ?_
      refine x_iadd (pc := 65) g dX12_keep_65 ?_
      refine x_aload_n (pc := 66) (i := 0) (a := 0) g dX12_keep_66 rfl rfl ?_
      refine x_getR (pc := 67) (x := 2) g hM dX12_keep_67 fl_12_33 (sm_0) rfl ?_
      refine x_bipush (pc := 70) g dX12_keep_70 bi_97 ?_
      refine x_iload_n (pc := 72) (i := 1) (a := 1) g dX12_keep_72 rfl rfl ?_
      refine x_iadd (pc := 73) g dX12_keep_73 ?_
      refine x_iald (pc := 74) g hM dX12_keep_74 (sm_2) (fun j5 hj5 => ?_)
      refine x_iast (pc := 75) g hM dX12_keep_75 (sm_7) (fun j7 hj7 m6 => ?_)
      refine x_iinc (pc := 76) (a := 1) (lv' := [(1, .int (v1 + 1)), (0, .ref (xad G 0))]) g dX12_keep_76 ic_1 rfl (by decide) rfl ?_
      refine x_goto (pc := 79) (t := 47) g dX12_keep_79 (by decide) ?_
      exact x_sub [1, 0] (ih (v1 + 1) m6) rfl
    · refine x_aload_n (pc := 82) (i := 0) (a := 0) g dX12_keep_82 rfl rfl ?_
      refine x_dup (pc := 83) g dX12_keep_83 rfl ?_
      refine x_getI (pc := 84) g hM dX12_keep_84 fl_12_307 (sm_0) rfl ?_
      refine x_iconst (pc := 87) g dX12_keep_87 ic_1 ?_
      refine x_iadd (pc := 88) g dX12_keep_88 ?_
      refine x_putI (pc := 89) g hM dX12_keep_89 fl_12_307 ft_12_24 (sm_0) rfl (fun m8 => ?_)
      exact x_vret (pc := 92) g dX12_keep_92 rfl (fun _ h => h)
theorem T_M_keep_b11 {l : Launch} {G : xG} {E : xE} (hM : WM G) (g : xGood E l G.1 RX12 cX12_keep yX12_keep 2 none rm_M_keep) : ∀ (n : Nat) (v1 : Int32) (m : xMem), X E G (fun r : xMem => ((none : Option Value), r)) 11 [(0, .ref (xad G 0)), (1, .int v1)] [] m (M_keep_b11 n v1 m) := by
  intro n
  induction n with
  | zero => intro v1 m; exact x_none
  | succ n ih =>
    intro v1 m
    rw [M_keep_b11]
    refine x_iload_n (pc := 11) (i := 1) (a := 1) g dX12_keep_11 rfl rfl ?_
    refine x_sipush (pc := 12) g dX12_keep_12 si_168 ?_
    refine x_icmp_ge (pc := 15) (t := 39) g dX12_keep_15 (by decide) ?_ ?_
    · refine x_aload_n (pc := 18) (i := 0) (a := 0) g dX12_keep_18 rfl rfl ?_
      refine x_getR (pc := 19) (x := 7) g hM dX12_keep_19 fl_12_50 (sm_0) rfl ?_
      refine x_iload_n (pc := 22) (i := 1) (a := 1) g dX12_keep_22 rfl rfl ?_
      refine x_aload_n (pc := 23) (i := 0) (a := 0) g dX12_keep_23 rfl rfl ?_
      refine x_getR (pc := 24) (x := 7) g hM dX12_keep_24 fl_12_50 (sm_0) rfl ?_
      refine x_iload_n (pc := 27) (i := 1) (a := 1) g dX12_keep_27 rfl rfl ?_
      refine x_bipush (pc := 28) g dX12_keep_28 bi_24 ?_
      refine x_iadd (pc := 30) g dX12_keep_30 ?_
      refine x_iald (pc := 31) g hM dX12_keep_31 (sm_7) (fun j1 hj1 => ?_)
      refine x_iast (pc := 32) g hM dX12_keep_32 (sm_7) (fun j3 hj3 m2 => ?_)
      refine x_iinc (pc := 33) (a := 1) (lv' := [(1, .int (v1 + 1)), (0, .ref (xad G 0))]) g dX12_keep_33 ic_1 rfl (by decide) rfl ?_
      refine x_goto (pc := 36) (t := 11) g dX12_keep_36 (by decide) ?_
      exact x_sub [1, 0] (ih (v1 + 1) m2) rfl
    · refine x_aload_n (pc := 39) (i := 0) (a := 0) g dX12_keep_39 rfl rfl ?_
      refine x_bipush (pc := 40) g dX12_keep_40 bi_7 ?_
      refine x_putI (pc := 42) g hM dX12_keep_42 fl_12_307 ft_12_24 (sm_0) rfl (fun m4 => ?_)
      refine x_iconst (pc := 45) g dX12_keep_45 ic_0 ?_
      refine x_istore_n (pc := 46) (i := 1) (lv' := [(1, .int 0), (0, .ref (xad G 0))]) g dX12_keep_46 rfl (by decide) rfl ?_
      exact x_sub [1, 0] (T_M_keep_b47 hM g 1000 0 m4) rfl
theorem T_M_keep {l : Launch} {G : xG} {E : xE} (hM : WM G) (g : xGood E l G.1 RX12 cX12_keep yX12_keep 2 none rm_M_keep) (m : xMem) : X E G (fun r : xMem => ((none : Option Value), r)) 0 [(0, .ref (xad G 0))] [] m (M_keep m) := by
  unfold M_keep
  refine x_aload_n (pc := 0) (i := 0) (a := 0) g dX12_keep_0 rfl rfl ?_
  refine x_getI (pc := 1) g hM dX12_keep_1 fl_12_307 (sm_0) rfl ?_
  refine x_bipush (pc := 4) g dX12_keep_4 bi_8 ?_
  refine x_icmp_ne (pc := 6) (t := 45) g dX12_keep_6 (by decide) ?_ ?_
  · refine x_iconst (pc := 9) g dX12_keep_9 ic_0 ?_
    refine x_istore_n (pc := 10) (i := 1) (lv' := [(1, .int 0), (0, .ref (xad G 0))]) g dX12_keep_10 rfl (by decide) rfl ?_
    exact x_sub [1, 0] (T_M_keep_b11 hM g 1000 0 m) rfl
  · refine x_iconst (pc := 45) g dX12_keep_45 ic_0 ?_
    refine x_istore_n (pc := 46) (i := 1) (lv' := [(1, .int 0), (0, .ref (xad G 0))]) g dX12_keep_46 rfl (by decide) rfl ?_
    exact x_sub [1, 0] (T_M_keep_b47 hM g 1000 0 m) rfl
theorem c_M_keep (l : Launch) (G : xG) (hM : WM G) (m : xMem) : xCv l G yX12_keep cX12_keep 2 none rm_M_keep [.ref (xad G 0)] m (M_keep m) :=
  xCt_of (own := RX12) (by decide) rfl (Nat.le_of_ble_eq_true rfl) rfl ⟨rfl, rfl⟩ (fun E g => T_M_keep hM g m)
theorem T_M_lend {l : Launch} {G : xG} {E : xE} (hM : WM G) (g : xGood E l G.1 RX12 cX12_lend yX12_lend 4 (some .int) rm_M_lend) (m : xMem) (p0 : Int32) (p1 : Int32) : X E G (fun r : Int32 × xMem => (some (Value.int r.1), r.2)) 0 [(0, .ref (xad G 0)), (1, .int p0), (2, .int p1)] [] m (M_lend m p0 p1) := by
  unfold M_lend
  refine x_aload_n (pc := 0) (i := 0) (a := 0) g dX12_lend_0 rfl rfl ?_
  refine x_iconst (pc := 1) g dX12_lend_1 ic_0 ?_
  refine x_putI (pc := 2) g hM dX12_lend_2 fl_12_1 ft_12_0 (sm_0) rfl (fun m1 => ?_)
  refine x_aload_n (pc := 5) (i := 0) (a := 0) g dX12_lend_5 rfl rfl ?_
  refine x_iload_n (pc := 6) (i := 1) (a := 1) g dX12_lend_6 rfl rfl ?_
  refine x_Vi (pc := 7) g hM [.int p0] [] (c_M_isOwl l G hM m1 p0) dX12_lend_7 ml_12_365 (sm_0) rfl rfl (Nat.le_of_ble_eq_true rfl) ⟨rfl, rfl, Nat.le_of_ble_eq_true rfl, Nat.le_of_ble_eq_true rfl⟩ (fun r2 hr2 => ?_)
  refine x_if_eq (pc := 10) (t := 21) g dX12_lend_10 (by decide) ?_ ?_
  · refine x_iconst (pc := 21) g dX12_lend_21 ic_m1 ?_
    exact x_iret (pc := 22) g dX12_lend_22 rfl (fun _ h => h)
  · refine x_aload_n (pc := 13) (i := 0) (a := 0) g dX12_lend_13 rfl rfl ?_
    refine x_iload_n (pc := 14) (i := 2) (a := 2) g dX12_lend_14 rfl rfl ?_
    refine x_Vi (pc := 15) g hM [.int p1] [] (c_M_isBed l G hM m1 p1) dX12_lend_15 ml_12_355 (sm_0) rfl rfl (Nat.le_of_ble_eq_true rfl) ⟨rfl, rfl, Nat.le_of_ble_eq_true rfl, Nat.le_of_ble_eq_true rfl⟩ (fun r3 hr3 => ?_)
    refine x_if_ne (pc := 18) (t := 23) g dX12_lend_18 (by decide) ?_ ?_
    · refine x_iconst (pc := 21) g dX12_lend_21 ic_m1 ?_
      exact x_iret (pc := 22) g dX12_lend_22 rfl (fun _ h => h)
    · refine x_aload_n (pc := 23) (i := 0) (a := 0) g dX12_lend_23 rfl rfl ?_
      refine x_iload_n (pc := 24) (i := 1) (a := 1) g dX12_lend_24 rfl rfl ?_
      refine x_iload_n (pc := 25) (i := 2) (a := 2) g dX12_lend_25 rfl rfl ?_
      refine x_Vi (pc := 26) g hM [.int p0, .int p1] [] (c_M_whyLend l G hM m1 p0 p1) dX12_lend_26 ml_12_383 (sm_0) rfl rfl (Nat.le_of_ble_eq_true rfl) ⟨rfl, rfl, Nat.le_of_ble_eq_true rfl, Nat.le_of_ble_eq_true rfl⟩ (fun r4 hr4 => ?_)
      refine x_istore_n (pc := 29) (i := 3) (lv' := [(3, .int r4), (0, .ref (xad G 0)), (1, .int p0), (2, .int p1)]) g dX12_lend_29 rfl (by decide) rfl ?_
      refine x_iload_n (pc := 30) (i := 3) (a := 0) g dX12_lend_30 rfl rfl ?_
      refine x_if_le (pc := 31) (t := 36) g dX12_lend_31 (by decide) ?_ ?_
      · refine x_iload_n (pc := 34) (i := 3) (a := 0) g dX12_lend_34 rfl rfl ?_
        exact x_iret (pc := 35) g dX12_lend_35 rfl (fun _ h => h)
      · refine x_aload_n (pc := 36) (i := 0) (a := 1) g dX12_lend_36 rfl rfl ?_
        refine x_Vv (pc := 37) g hM [] [] (c_M_keep l G hM m1) dX12_lend_37 ml_12_386 (sm_0) rfl rfl (Nat.le_of_ble_eq_true rfl) ⟨rfl, rfl, Nat.le_of_ble_eq_true rfl, Nat.le_of_ble_eq_true rfl⟩ (fun r5 hr5 => ?_)
        refine x_aload_n (pc := 40) (i := 0) (a := 1) g dX12_lend_40 rfl rfl ?_
        refine x_getR (pc := 41) (x := 2) g hM dX12_lend_41 fl_12_33 (sm_0) rfl ?_
        refine x_bipush (pc := 44) g dX12_lend_44 bi_103 ?_
        refine x_iload_n (pc := 46) (i := 1) (a := 2) g dX12_lend_46 rfl rfl ?_
        refine x_iadd (pc := 47) g dX12_lend_47 ?_
        refine x_iload_n (pc := 48) (i := 2) (a := 3) g dX12_lend_48 rfl rfl ?_
        refine x_iast (pc := 49) g hM dX12_lend_49 (sm_2) (fun j7 hj7 m6 => ?_)
        refine x_iconst (pc := 50) g dX12_lend_50 ic_0 ?_
        exact x_iret (pc := 51) g dX12_lend_51 rfl (fun _ h => h)
theorem c_M_lend (l : Launch) (G : xG) (hM : WM G) (m : xMem) (p0 : Int32) (p1 : Int32) : xCim l G yX12_lend cX12_lend 4 (some .int) rm_M_lend [.ref (xad G 0), .int p0, .int p1] m (M_lend m p0 p1) :=
  xCt_of (own := RX12) (by decide) rfl (Nat.le_of_ble_eq_true rfl) rfl ⟨rfl, rfl⟩ (fun E g => T_M_lend hM g m p0 p1)
theorem T_M_turns {l : Launch} {G : xG} {E : xE} (hM : WM G) (g : xGood E l G.1 RX12 cX12_turns yX12_turns 3 (some .int) rm_M_turns) (m : xMem) (p0 : Int32) (p1 : Int32) : X E G (fun r : Int32 × xMem => (some (Value.int r.1), r.2)) 0 [(0, .ref (xad G 0)), (1, .int p0), (2, .int p1)] [] m (M_turns m p0 p1) := by
  unfold M_turns
  refine x_aload_n (pc := 0) (i := 0) (a := 0) g dX12_turns_0 rfl rfl ?_
  refine x_iconst (pc := 1) g dX12_turns_1 ic_0 ?_
  refine x_putI (pc := 2) g hM dX12_turns_2 fl_12_1 ft_12_0 (sm_0) rfl (fun m1 => ?_)
  refine x_aload_n (pc := 5) (i := 0) (a := 0) g dX12_turns_5 rfl rfl ?_
  refine x_iload_n (pc := 6) (i := 1) (a := 1) g dX12_turns_6 rfl rfl ?_
  refine x_Vi (pc := 7) g hM [.int p0] [] (c_M_isSound l G hM m1 p0) dX12_turns_7 ml_12_371 (sm_0) rfl rfl (Nat.le_of_ble_eq_true rfl) ⟨rfl, rfl, Nat.le_of_ble_eq_true rfl, Nat.le_of_ble_eq_true rfl⟩ (fun r2 hr2 => ?_)
  refine x_if_ne (pc := 10) (t := 15) g dX12_turns_10 (by decide) ?_ ?_
  · refine x_iconst (pc := 13) g dX12_turns_13 ic_m1 ?_
    exact x_iret (pc := 14) g dX12_turns_14 rfl (fun _ h => h)
  · refine x_aload_n (pc := 15) (i := 0) (a := 0) g dX12_turns_15 rfl rfl ?_
    refine x_getR (pc := 16) (x := 2) g hM dX12_turns_16 fl_12_33 (sm_0) rfl ?_
    refine x_bipush (pc := 19) g dX12_turns_19 bi_98 ?_
    refine x_ialdc (pc := 21) g hM dX12_turns_21 (sm_2) ix_98_302 ?_
    refine x_iload_n (pc := 22) (i := 1) (a := 1) g dX12_turns_22 rfl rfl ?_
    refine x_ishr (pc := 23) g dX12_turns_23 ?_
    refine x_iconst (pc := 24) g dX12_turns_24 ic_1 ?_
    refine x_iand (pc := 25) g dX12_turns_25 ?_
    refine x_iload_n (pc := 26) (i := 2) (a := 2) g dX12_turns_26 rfl rfl ?_
    refine x_icmp_ne (pc := 27) (t := 32) g dX12_turns_27 (by decide) ?_ ?_
    · refine x_iconst (pc := 30) g dX12_turns_30 ic_1 ?_
      exact x_iret (pc := 31) g dX12_turns_31 rfl (fun _ h => h)
    · refine x_aload_n (pc := 32) (i := 0) (a := 0) g dX12_turns_32 rfl rfl ?_
      refine x_Vv (pc := 33) g hM [] [] (c_M_keep l G hM m1) dX12_turns_33 ml_12_386 (sm_0) rfl rfl (Nat.le_of_ble_eq_true rfl) ⟨rfl, rfl, Nat.le_of_ble_eq_true rfl, Nat.le_of_ble_eq_true rfl⟩ (fun r3 hr3 => ?_)
      refine x_aload_n (pc := 36) (i := 0) (a := 0) g dX12_turns_36 rfl rfl ?_
      refine x_getR (pc := 37) (x := 2) g hM dX12_turns_37 fl_12_33 (sm_0) rfl ?_
      refine x_bipush (pc := 40) g dX12_turns_40 bi_98 ?_
      refine x_dup2 (pc := 42) g dX12_turns_42 rfl rfl ?_
      refine x_ialdc (pc := 43) g hM dX12_turns_43 (sm_2) ix_98_302 ?_
      refine x_iconst (pc := 44) g dX12_turns_44 ic_1 ?_
      refine x_iload_n (pc := 45) (i := 1) (a := 1) g dX12_turns_45 rfl rfl ?_
      refine x_ishl (pc := 46) g dX12_turns_46 ?_
      refine x_ixor (pc := 47) g dX12_turns_47 ?_
      refine x_iastc (pc := 48) g hM dX12_turns_48 (sm_2) ix_98_302 (fun m4 => ?_)
      refine x_iconst (pc := 49) g dX12_turns_49 ic_0 ?_
      exact x_iret (pc := 50) g dX12_turns_50 rfl (fun _ h => h)
theorem c_M_turns (l : Launch) (G : xG) (hM : WM G) (m : xMem) (p0 : Int32) (p1 : Int32) : xCim l G yX12_turns cX12_turns 3 (some .int) rm_M_turns [.ref (xad G 0), .int p0, .int p1] m (M_turns m p0 p1) :=
  xCt_of (own := RX12) (by decide) rfl (Nat.le_of_ble_eq_true rfl) rfl ⟨rfl, rfl⟩ (fun E g => T_M_turns hM g m p0 p1)
theorem T_M_hush {l : Launch} {G : xG} {E : xE} (hM : WM G) (g : xGood E l G.1 RX12 cX12_hush yX12_hush 2 (some .int) rm_M_hush) (m : xMem) (p0 : Int32) : X E G (fun r : Int32 × xMem => (some (Value.int r.1), r.2)) 0 [(0, .ref (xad G 0)), (1, .int p0)] [] m (M_hush m p0) := by
  unfold M_hush
  refine x_aload_n (pc := 0) (i := 0) (a := 0) g dX12_hush_0 rfl rfl ?_
  refine x_iload_n (pc := 1) (i := 1) (a := 1) g dX12_hush_1 rfl rfl ?_
  refine x_iconst (pc := 2) g dX12_hush_2 ic_1 ?_
  refine x_Vim (pc := 3) g hM [.int p0, .int 1] [] (c_M_turns l G hM m p0 1) dX12_hush_3 ml_12_389 (sm_0) rfl rfl (Nat.le_of_ble_eq_true rfl) ⟨rfl, rfl, Nat.le_of_ble_eq_true rfl, Nat.le_of_ble_eq_true rfl⟩ (fun r1 hr1 => ?_)
  exact x_iret (pc := 6) g dX12_hush_6 rfl (fun _ h => h)
theorem c_M_hush (l : Launch) (G : xG) (hM : WM G) (m : xMem) (p0 : Int32) : xCim l G yX12_hush cX12_hush 2 (some .int) rm_M_hush [.ref (xad G 0), .int p0] m (M_hush m p0) :=
  xCt_of (own := RX12) (by decide) rfl (Nat.le_of_ble_eq_true rfl) rfl ⟨rfl, rfl⟩ (fun E g => T_M_hush hM g m p0)
theorem T_M_let {l : Launch} {G : xG} {E : xE} (hM : WM G) (g : xGood E l G.1 RX12 cX12_let yX12_let 2 (some .int) rm_M_let) (m : xMem) (p0 : Int32) : X E G (fun r : Int32 × xMem => (some (Value.int r.1), r.2)) 0 [(0, .ref (xad G 0)), (1, .int p0)] [] m (M_let m p0) := by
  unfold M_let
  refine x_aload_n (pc := 0) (i := 0) (a := 0) g dX12_let_0 rfl rfl ?_
  refine x_iload_n (pc := 1) (i := 1) (a := 1) g dX12_let_1 rfl rfl ?_
  refine x_iconst (pc := 2) g dX12_let_2 ic_0 ?_
  refine x_Vim (pc := 3) g hM [.int p0, .int 0] [] (c_M_turns l G hM m p0 0) dX12_let_3 ml_12_389 (sm_0) rfl rfl (Nat.le_of_ble_eq_true rfl) ⟨rfl, rfl, Nat.le_of_ble_eq_true rfl, Nat.le_of_ble_eq_true rfl⟩ (fun r1 hr1 => ?_)
  exact x_iret (pc := 6) g dX12_let_6 rfl (fun _ h => h)
theorem c_M_let (l : Launch) (G : xG) (hM : WM G) (m : xMem) (p0 : Int32) : xCim l G yX12_let cX12_let 2 (some .int) rm_M_let [.ref (xad G 0), .int p0] m (M_let m p0) :=
  xCt_of (own := RX12) (by decide) rfl (Nat.le_of_ble_eq_true rfl) rfl ⟨rfl, rfl⟩ (fun E g => T_M_let hM g m p0)
theorem T_M_shout {l : Launch} {G : xG} {E : xE} (hM : WM G) (g : xGood E l G.1 RX12 cX12_shout yX12_shout 4 (some .int) rm_M_shout) (m : xMem) (p0 : Int32) (p1 : Int32) (p2 : Int32) : X E G (fun r : Int32 × xMem => (some (Value.int r.1), r.2)) 0 [(0, .ref (xad G 0)), (1, .int p0), (2, .int p1), (3, .int p2)] [] m (M_shout m p0 p1 p2) := by
  unfold M_shout
  refine x_aload_n (pc := 0) (i := 0) (a := 0) g dX12_shout_0 rfl rfl ?_
  refine x_iconst (pc := 1) g dX12_shout_1 ic_0 ?_
  refine x_putI (pc := 2) g hM dX12_shout_2 fl_12_1 ft_12_0 (sm_0) rfl (fun m1 => ?_)
  refine x_aload_n (pc := 5) (i := 0) (a := 0) g dX12_shout_5 rfl rfl ?_
  refine x_iload_n (pc := 6) (i := 1) (a := 1) g dX12_shout_6 rfl rfl ?_
  refine x_iload_n (pc := 7) (i := 2) (a := 2) g dX12_shout_7 rfl rfl ?_
  refine x_Vi (pc := 8) g hM [.int p0, .int p1] [] (c_M_isCell l G hM m1 p0 p1) dX12_shout_8 ml_12_392 (sm_0) rfl rfl (Nat.le_of_ble_eq_true rfl) ⟨rfl, rfl, Nat.le_of_ble_eq_true rfl, Nat.le_of_ble_eq_true rfl⟩ (fun r2 hr2 => ?_)
  refine x_if_eq (pc := 11) (t := 24) g dX12_shout_11 (by decide) ?_ ?_
  · refine x_iconst (pc := 24) g dX12_shout_24 ic_m1 ?_
    exact x_iret (pc := 25) g dX12_shout_25 rfl (fun _ h => h)
  · refine x_iload_n (pc := 14) (i := 3) (a := 3) g dX12_shout_14 rfl rfl ?_
    refine x_iconst (pc := 15) g dX12_shout_15 ic_1 ?_
    refine x_bipush (pc := 16) g dX12_shout_16 bi_30 ?_
    refine x_Si (pc := 18) g [.int p2, .int 1, .int 30] [] (c_M_isIn l G hM m1 p2 1 30) dX12_shout_18 ms_12_223 rfl rfl (Nat.le_of_ble_eq_true rfl) ⟨rfl, rfl, Nat.le_of_ble_eq_true rfl, Nat.le_of_ble_eq_true rfl⟩ (fun r3 hr3 => ?_)
    refine x_if_ne (pc := 21) (t := 26) g dX12_shout_21 (by decide) ?_ ?_
    · refine x_iconst (pc := 24) g dX12_shout_24 ic_m1 ?_
      exact x_iret (pc := 25) g dX12_shout_25 rfl (fun _ h => h)
    · refine x_aload_n (pc := 26) (i := 0) (a := 0) g dX12_shout_26 rfl rfl ?_
      refine x_getR (pc := 27) (x := 2) g hM dX12_shout_27 fl_12_33 (sm_0) rfl ?_
      refine x_bipush (pc := 30) g dX12_shout_30 bi_100 ?_
      refine x_ialdc (pc := 32) g hM dX12_shout_32 (sm_2) ix_100_302 ?_
      refine x_if_le (pc := 33) (t := 38) g dX12_shout_33 (by decide) ?_ ?_
      · refine x_iconst (pc := 36) g dX12_shout_36 ic_1 ?_
        exact x_iret (pc := 37) g dX12_shout_37 rfl (fun _ h => h)
      · refine x_aload_n (pc := 38) (i := 0) (a := 0) g dX12_shout_38 rfl rfl ?_
        refine x_Vv (pc := 39) g hM [] [] (c_M_keep l G hM m1) dX12_shout_39 ml_12_386 (sm_0) rfl rfl (Nat.le_of_ble_eq_true rfl) ⟨rfl, rfl, Nat.le_of_ble_eq_true rfl, Nat.le_of_ble_eq_true rfl⟩ (fun r4 hr4 => ?_)
        refine x_aload_n (pc := 42) (i := 0) (a := 0) g dX12_shout_42 rfl rfl ?_
        refine x_iload_n (pc := 43) (i := 1) (a := 1) g dX12_shout_43 rfl rfl ?_
        refine x_iload_n (pc := 44) (i := 2) (a := 2) g dX12_shout_44 rfl rfl ?_
        refine x_iload_n (pc := 45) (i := 3) (a := 3) g dX12_shout_45 rfl rfl ?_
        refine x_Vv (pc := 46) g hM [.int p0, .int p1, .int p2] [] (c_M_cries l G hM r4 p0 p1 p2) dX12_shout_46 ml_12_395 (sm_0) rfl rfl (Nat.le_of_ble_eq_true rfl) ⟨rfl, rfl, Nat.le_of_ble_eq_true rfl, Nat.le_of_ble_eq_true rfl⟩ (fun r5 hr5 => ?_)
        refine x_iconst (pc := 49) g dX12_shout_49 ic_0 ?_
        exact x_iret (pc := 50) g dX12_shout_50 rfl (fun _ h => h)
theorem c_M_shout (l : Launch) (G : xG) (hM : WM G) (m : xMem) (p0 : Int32) (p1 : Int32) (p2 : Int32) : xCim l G yX12_shout cX12_shout 4 (some .int) rm_M_shout [.ref (xad G 0), .int p0, .int p1, .int p2] m (M_shout m p0 p1 p2) :=
  xCt_of (own := RX12) (by decide) rfl (Nat.le_of_ble_eq_true rfl) rfl ⟨rfl, rfl⟩ (fun E g => T_M_shout hM g m p0 p1 p2)
theorem T_M_hours {l : Launch} {G : xG} {E : xE} (hM : WM G) (g : xGood E l G.1 RX12 cX12_hours yX12_hours 2 (some .int) rm_M_hours) (m : xMem) (p0 : Int32) : X E G (fun r : Int32 × xMem => (some (Value.int r.1), r.2)) 0 [(0, .ref (xad G 0)), (1, .int p0)] [] m (M_hours m p0) := by
  unfold M_hours
  refine x_aload_n (pc := 0) (i := 0) (a := 0) g dX12_hours_0 rfl rfl ?_
  refine x_iconst (pc := 1) g dX12_hours_1 ic_0 ?_
  refine x_putI (pc := 2) g hM dX12_hours_2 fl_12_1 ft_12_0 (sm_0) rfl (fun m1 => ?_)
  refine x_iload_n (pc := 5) (i := 1) (a := 1) g dX12_hours_5 rfl rfl ?_
  refine x_iconst (pc := 6) g dX12_hours_6 ic_1 ?_
  refine x_bipush (pc := 7) g dX12_hours_7 bi_60 ?_
  refine x_Si (pc := 9) g [.int p0, .int 1, .int 60] [] (c_M_isIn l G hM m1 p0 1 60) dX12_hours_9 ms_12_223 rfl rfl (Nat.le_of_ble_eq_true rfl) ⟨rfl, rfl, Nat.le_of_ble_eq_true rfl, Nat.le_of_ble_eq_true rfl⟩ (fun r2 hr2 => ?_)
  refine x_if_ne (pc := 12) (t := 17) g dX12_hours_12 (by decide) ?_ ?_
  · refine x_iconst (pc := 15) g dX12_hours_15 ic_m1 ?_
    exact x_iret (pc := 16) g dX12_hours_16 rfl (fun _ h => h)
  · refine x_aload_n (pc := 17) (i := 0) (a := 0) g dX12_hours_17 rfl rfl ?_
    refine x_getR (pc := 18) (x := 2) g hM dX12_hours_18 fl_12_33 (sm_0) rfl ?_
    refine x_bipush (pc := 21) g dX12_hours_21 bi_97 ?_
    refine x_ialdc (pc := 23) g hM dX12_hours_23 (sm_2) ix_97_302 ?_
    refine x_sipush (pc := 24) g dX12_hours_24 si_400 ?_
    refine x_icmp_ne (pc := 27) (t := 32) g dX12_hours_27 (by decide) ?_ ?_
    · refine x_iconst (pc := 30) g dX12_hours_30 ic_0 ?_
      exact x_iret (pc := 31) g dX12_hours_31 rfl (fun _ h => h)
    · refine x_aload_n (pc := 32) (i := 0) (a := 0) g dX12_hours_32 rfl rfl ?_
      refine x_Vv (pc := 33) g hM [] [] (c_M_keep l G hM m1) dX12_hours_33 ml_12_386 (sm_0) rfl rfl (Nat.le_of_ble_eq_true rfl) ⟨rfl, rfl, Nat.le_of_ble_eq_true rfl, Nat.le_of_ble_eq_true rfl⟩ (fun r3 hr3 => ?_)
      refine x_aload_n (pc := 36) (i := 0) (a := 0) g dX12_hours_36 rfl rfl ?_
      refine x_iload_n (pc := 37) (i := 1) (a := 1) g dX12_hours_37 rfl rfl ?_
      refine x_Vim (pc := 38) g hM [.int p0] [] (c_M_goesOn l G hM r3 p0) dX12_hours_38 ml_12_399 (sm_0) rfl rfl (Nat.le_of_ble_eq_true rfl) ⟨rfl, rfl, Nat.le_of_ble_eq_true rfl, Nat.le_of_ble_eq_true rfl⟩ (fun r4 hr4 => ?_)
      exact x_iret (pc := 41) g dX12_hours_41 rfl (fun _ h => h)
theorem c_M_hours (l : Launch) (G : xG) (hM : WM G) (m : xMem) (p0 : Int32) : xCim l G yX12_hours cX12_hours 2 (some .int) rm_M_hours [.ref (xad G 0), .int p0] m (M_hours m p0) :=
  xCt_of (own := RX12) (by decide) rfl (Nat.le_of_ble_eq_true rfl) rfl ⟨rfl, rfl⟩ (fun E g => T_M_hours hM g m p0)
theorem T_M_undo_b26 {l : Launch} {G : xG} {E : xE} (hM : WM G) (g : xGood E l G.1 RX12 cX12_undo yX12_undo 2 (some .int) rm_M_undo) : ∀ (n : Nat) (v1 : Int32) (m : xMem), X E G (fun r : Int32 × xMem => (some (Value.int r.1), r.2)) 26 [(0, .ref (xad G 0)), (1, .int v1)] [] m (M_undo_b26 n v1 m) := by
  intro n
  induction n with
  | zero => intro v1 m; exact x_none
  | succ n ih =>
    intro v1 m
    rw [M_undo_b26]
    refine x_iload_n (pc := 26) (i := 1) (a := 1) g dX12_undo_26 rfl rfl ?_
    refine x_bipush (pc := 27) g dX12_undo_27 bi_24 ?_
    refine x_icmp_ge (pc := 29) (t := 61) g dX12_undo_29 (by decide) ?_ ?_
    · refine x_aload_n (pc := 32) (i := 0) (a := 0) g dX12_undo_32 rfl rfl ?_
      refine x_getR (pc := 33) (x := 2) g hM dX12_undo_33 fl_12_33 (sm_0) rfl ?_
      refine x_bipush (pc := 36) g dX12_undo_36 bi_97 ?_
      refine x_iload_n (pc := 38) (i := 1) (a := 1) g dX12_undo_38 rfl rfl ?_
      refine x_iadd (pc := 39) g dX12_undo_39 ?_
      refine x_aload_n (pc := 40) (i := 0) (a := 0) g dX12_undo_40 rfl rfl ?_
      refine x_getR (pc := 41) (x := 7) g hM dX12_undo_41 fl_12_50 (sm_0) rfl ?_
      refine x_bipush (pc := 44) g dX12_undo_44 bi_24 ?_
      refine x_aload_n (pc := 46) (i := 0) (a := 0) g dX12_undo_46 rfl rfl ?_
      refine x_getI (pc := 47) g hM dX12_undo_47 fl_12_307 (sm_0) rfl ?_
      refine x_imul (pc := 50) g dX12_undo_50 ?_
      refine x_iload_n (pc := 51) (i := 1) (a := 1) g dX12_undo_51 rfl rfl ?_
      refine x_iadd (pc := 52) g dX12_undo_52 ?_
      refine x_iald (pc := 53) g hM dX12_undo_53 (sm_7) (fun j3 hj3 => ?_)
      refine x_iast (pc := 54) g hM dX12_undo_54 (sm_2) (fun j5 hj5 m4 => ?_)
      refine x_iinc (pc := 55) (a := 1) (lv' := [(1, .int (v1 + 1)), (0, .ref (xad G 0))]) g dX12_undo_55 ic_1 rfl (by decide) rfl ?_
      refine x_goto (pc := 58) (t := 26) g dX12_undo_58 (by decide) ?_
      exact x_sub [1, 0] (ih (v1 + 1) m4) rfl
    · refine x_aload_n (pc := 61) (i := 0) (a := 0) g dX12_undo_61 rfl rfl ?_
      refine x_getI (pc := 62) g hM dX12_undo_62 fl_12_307 (sm_0) rfl ?_
      exact x_iret (pc := 65) g dX12_undo_65 rfl (fun _ h => h)
theorem T_M_undo {l : Launch} {G : xG} {E : xE} (hM : WM G) (g : xGood E l G.1 RX12 cX12_undo yX12_undo 2 (some .int) rm_M_undo) (m : xMem) : X E G (fun r : Int32 × xMem => (some (Value.int r.1), r.2)) 0 [(0, .ref (xad G 0))] [] m (M_undo m) := by
  unfold M_undo
  refine x_aload_n (pc := 0) (i := 0) (a := 0) g dX12_undo_0 rfl rfl ?_
  refine x_iconst (pc := 1) g dX12_undo_1 ic_0 ?_
  refine x_putI (pc := 2) g hM dX12_undo_2 fl_12_1 ft_12_0 (sm_0) rfl (fun m1 => ?_)
  refine x_aload_n (pc := 5) (i := 0) (a := 0) g dX12_undo_5 rfl rfl ?_
  refine x_getI (pc := 6) g hM dX12_undo_6 fl_12_307 (sm_0) rfl ?_
  refine x_if_ne (pc := 9) (t := 14) g dX12_undo_9 (by decide) ?_ ?_
  · refine x_iconst (pc := 12) g dX12_undo_12 ic_m1 ?_
    exact x_iret (pc := 13) g dX12_undo_13 rfl (fun _ h => h)
  · refine x_aload_n (pc := 14) (i := 0) (a := 0) g dX12_undo_14 rfl rfl ?_
    refine x_dup (pc := 15) g dX12_undo_15 rfl ?_
    refine x_getI (pc := 16) g hM dX12_undo_16 fl_12_307 (sm_0) rfl ?_
    refine x_iconst (pc := 19) g dX12_undo_19 ic_1 ?_
    refine x_isub (pc := 20) g dX12_undo_20 ?_
    refine x_putI (pc := 21) g hM dX12_undo_21 fl_12_307 ft_12_24 (sm_0) rfl (fun m2 => ?_)
    refine x_iconst (pc := 24) g dX12_undo_24 ic_0 ?_
    refine x_istore_n (pc := 25) (i := 1) (lv' := [(1, .int 0), (0, .ref (xad G 0))]) g dX12_undo_25 rfl (by decide) rfl ?_
    exact x_sub [1, 0] (T_M_undo_b26 hM g 1000 0 m2) rfl
theorem c_M_undo (l : Launch) (G : xG) (hM : WM G) (m : xMem) : xCim l G yX12_undo cX12_undo 2 (some .int) rm_M_undo [.ref (xad G 0)] m (M_undo m) :=
  xCt_of (own := RX12) (by decide) rfl (Nat.le_of_ble_eq_true rfl) rfl ⟨rfl, rfl⟩ (fun E g => T_M_undo hM g m)
theorem T_M_tries_b2 {l : Launch} {G : xG} {E : xE} (hM : WM G) (g : xGood E l G.1 RX12 cX12_tries yX12_tries 2 none rm_M_tries) : ∀ (n : Nat) (v1 : Int32) (m : xMem), X E G (fun r : xMem => ((none : Option Value), r)) 2 [(0, .ref (xad G 0)), (1, .int v1)] [] m (M_tries_b2 n v1 m) := by
  intro n
  induction n with
  | zero => intro v1 m; exact x_none
  | succ n ih =>
    intro v1 m
    rw [M_tries_b2]
    refine x_iload_n (pc := 2) (i := 1) (a := 1) g dX12_tries_2 rfl rfl ?_
    refine x_bipush (pc := 3) g dX12_tries_3 bi_24 ?_
    refine x_icmp_ge (pc := 5) (t := 29) g dX12_tries_5 (by decide) ?_ ?_
    · refine x_aload_n (pc := 8) (i := 0) (a := 0) g dX12_tries_8 rfl rfl ?_
      refine x_getR (pc := 9) (x := 8) g hM dX12_tries_9 fl_12_53 (sm_0) rfl ?_
      refine x_iload_n (pc := 12) (i := 1) (a := 1) g dX12_tries_12 rfl rfl ?_
      refine x_aload_n (pc := 13) (i := 0) (a := 0) g dX12_tries_13 rfl rfl ?_
      refine x_getR (pc := 14) (x := 2) g hM dX12_tries_14 fl_12_33 (sm_0) rfl ?_
      refine x_bipush (pc := 17) g dX12_tries_17 bi_97 ?_
      refine x_iload_n (pc := 19) (i := 1) (a := 1) g dX12_tries_19 rfl rfl ?_
      refine x_iadd (pc := 20) g dX12_tries_20 ?_
      refine x_iald (pc := 21) g hM dX12_tries_21 (sm_2) (fun j1 hj1 => ?_)
      refine x_iast (pc := 22) g hM dX12_tries_22 (sm_8) (fun j3 hj3 m2 => ?_)
      refine x_iinc (pc := 23) (a := 1) (lv' := [(1, .int (v1 + 1)), (0, .ref (xad G 0))]) g dX12_tries_23 ic_1 rfl (by decide) rfl ?_
      refine x_goto (pc := 26) (t := 2) g dX12_tries_26 (by decide) ?_
      exact x_sub [1, 0] (ih (v1 + 1) m2) rfl
    · exact x_vret (pc := 29) g dX12_tries_29 rfl (fun _ h => h)
theorem T_M_tries {l : Launch} {G : xG} {E : xE} (hM : WM G) (g : xGood E l G.1 RX12 cX12_tries yX12_tries 2 none rm_M_tries) (m : xMem) : X E G (fun r : xMem => ((none : Option Value), r)) 0 [(0, .ref (xad G 0))] [] m (M_tries m) := by
  unfold M_tries
  refine x_iconst (pc := 0) g dX12_tries_0 ic_0 ?_
  refine x_istore_n (pc := 1) (i := 1) (lv' := [(1, .int 0), (0, .ref (xad G 0))]) g dX12_tries_1 rfl (by decide) rfl ?_
  exact x_sub [1, 0] (T_M_tries_b2 hM g 1000 0 m) rfl
theorem c_M_tries (l : Launch) (G : xG) (hM : WM G) (m : xMem) : xCv l G yX12_tries cX12_tries 2 none rm_M_tries [.ref (xad G 0)] m (M_tries m) :=
  xCt_of (own := RX12) (by decide) rfl (Nat.le_of_ble_eq_true rfl) rfl ⟨rfl, rfl⟩ (fun E g => T_M_tries hM g m)
theorem T_M_back_b2 {l : Launch} {G : xG} {E : xE} (hM : WM G) (g : xGood E l G.1 RX12 cX12_back yX12_back 2 none rm_M_back) : ∀ (n : Nat) (v1 : Int32) (m : xMem), X E G (fun r : xMem => ((none : Option Value), r)) 2 [(0, .ref (xad G 0)), (1, .int v1)] [] m (M_back_b2 n v1 m) := by
  intro n
  induction n with
  | zero => intro v1 m; exact x_none
  | succ n ih =>
    intro v1 m
    rw [M_back_b2]
    refine x_iload_n (pc := 2) (i := 1) (a := 1) g dX12_back_2 rfl rfl ?_
    refine x_bipush (pc := 3) g dX12_back_3 bi_24 ?_
    refine x_icmp_ge (pc := 5) (t := 29) g dX12_back_5 (by decide) ?_ ?_
    · refine x_aload_n (pc := 8) (i := 0) (a := 0) g dX12_back_8 rfl rfl ?_
      refine x_getR (pc := 9) (x := 2) g hM dX12_back_9 fl_12_33 (sm_0) rfl ?_
      refine x_bipush (pc := 12) g dX12_back_12 bi_97 ?_
      refine x_iload_n (pc := 14) (i := 1) (a := 1) g dX12_back_14 rfl rfl ?_
      refine x_iadd (pc := 15) g dX12_back_15 ?_
      refine x_aload_n (pc := 16) (i := 0) (a := 0) g dX12_back_16 rfl rfl ?_
      refine x_getR (pc := 17) (x := 8) g hM dX12_back_17 fl_12_53 (sm_0) rfl ?_
      refine x_iload_n (pc := 20) (i := 1) (a := 1) g dX12_back_20 rfl rfl ?_
      refine x_iald (pc := 21) g hM dX12_back_21 (sm_8) (fun j1 hj1 => ?_)
      refine x_iast (pc := 22) g hM dX12_back_22 (sm_2) (fun j3 hj3 m2 => ?_)
      refine x_iinc (pc := 23) (a := 1) (lv' := [(1, .int (v1 + 1)), (0, .ref (xad G 0))]) g dX12_back_23 ic_1 rfl (by decide) rfl ?_
      refine x_goto (pc := 26) (t := 2) g dX12_back_26 (by decide) ?_
      exact x_sub [1, 0] (ih (v1 + 1) m2) rfl
    · exact x_vret (pc := 29) g dX12_back_29 rfl (fun _ h => h)
theorem T_M_back {l : Launch} {G : xG} {E : xE} (hM : WM G) (g : xGood E l G.1 RX12 cX12_back yX12_back 2 none rm_M_back) (m : xMem) : X E G (fun r : xMem => ((none : Option Value), r)) 0 [(0, .ref (xad G 0))] [] m (M_back m) := by
  unfold M_back
  refine x_iconst (pc := 0) g dX12_back_0 ic_0 ?_
  refine x_istore_n (pc := 1) (i := 1) (lv' := [(1, .int 0), (0, .ref (xad G 0))]) g dX12_back_1 rfl (by decide) rfl ?_
  exact x_sub [1, 0] (T_M_back_b2 hM g 1000 0 m) rfl
theorem c_M_back (l : Launch) (G : xG) (hM : WM G) (m : xMem) : xCv l G yX12_back cX12_back 2 none rm_M_back [.ref (xad G 0)] m (M_back m) :=
  xCt_of (own := RX12) (by decide) rfl (Nat.le_of_ble_eq_true rfl) rfl ⟨rfl, rfl⟩ (fun E g => T_M_back hM g m)
theorem T_M_hears {l : Launch} {G : xG} {E : xE} (hM : WM G) (g : xGood E l G.1 RX12 cX12_hears yX12_hears 2 (some .int) rm_M_hears) (m : xMem) (p0 : Int32) : X E G (fun r : Int32 × xMem => (some (Value.int r.1), r.2)) 0 [(0, .ref (xad G 0)), (1, .int p0)] [] m (M_hears m p0) := by
  unfold M_hears
  refine x_aload_n (pc := 0) (i := 0) (a := 0) g dX12_hears_0 rfl rfl ?_
  refine x_iconst (pc := 1) g dX12_hears_1 ic_0 ?_
  refine x_putI (pc := 2) g hM dX12_hears_2 fl_12_1 ft_12_0 (sm_0) rfl (fun m1 => ?_)
  refine x_aload_n (pc := 5) (i := 0) (a := 0) g dX12_hears_5 rfl rfl ?_
  refine x_iload_n (pc := 6) (i := 1) (a := 1) g dX12_hears_6 rfl rfl ?_
  refine x_Vi (pc := 7) g hM [.int p0] [] (c_M_isOwl l G hM m1 p0) dX12_hears_7 ml_12_365 (sm_0) rfl rfl (Nat.le_of_ble_eq_true rfl) ⟨rfl, rfl, Nat.le_of_ble_eq_true rfl, Nat.le_of_ble_eq_true rfl⟩ (fun r2 hr2 => ?_)
  refine x_if_eq (pc := 10) (t := 30) g dX12_hears_10 (by decide) ?_ ?_
  · refine x_iconst (pc := 30) g dX12_hears_30 ic_m1 ?_
    exact x_iret (pc := 31) g dX12_hears_31 rfl (fun _ h => h)
  · refine x_aload_n (pc := 13) (i := 0) (a := 0) g dX12_hears_13 rfl rfl ?_
    refine x_iload_n (pc := 14) (i := 1) (a := 1) g dX12_hears_14 rfl rfl ?_
    refine x_aload_n (pc := 15) (i := 0) (a := 0) g dX12_hears_15 rfl rfl ?_
    refine x_getR (pc := 16) (x := 2) g hM dX12_hears_16 fl_12_33 (sm_0) rfl ?_
    refine x_bipush (pc := 19) g dX12_hears_19 bi_103 ?_
    refine x_iload_n (pc := 21) (i := 1) (a := 1) g dX12_hears_21 rfl rfl ?_
    refine x_iadd (pc := 22) g dX12_hears_22 ?_
    refine x_iald (pc := 23) g hM dX12_hears_23 (sm_2) (fun j3 hj3 => ?_)
    refine x_Vi (pc := 24) g hM [.int p0, .int (m1.1 2 j3)] [] (c_M_heardBy l G hM m1 p0 (m1.1 2 j3)) dX12_hears_24 ml_12_346 (sm_0) rfl rfl (Nat.le_of_ble_eq_true rfl) ⟨rfl, rfl, Nat.le_of_ble_eq_true rfl, Nat.le_of_ble_eq_true rfl⟩ (fun r4 hr4 => ?_)
    refine x_goto (pc := 27) (t := 31) g dX12_hears_27 (by decide) ?_
    exact x_iret (pc := 31) g dX12_hears_31 rfl (fun _ h => h)
theorem c_M_hears (l : Launch) (G : xG) (hM : WM G) (m : xMem) (p0 : Int32) : xCim l G yX12_hears cX12_hears 2 (some .int) rm_M_hears [.ref (xad G 0), .int p0] m (M_hears m p0) :=
  xCt_of (own := RX12) (by decide) rfl (Nat.le_of_ble_eq_true rfl) rfl ⟨rfl, rfl⟩ (fun E g => T_M_hears hM g m p0)
theorem T_M_would {l : Launch} {G : xG} {E : xE} (hM : WM G) (g : xGood E l G.1 RX12 cX12_would yX12_would 3 (some .int) rm_M_would) (m : xMem) (p0 : Int32) (p1 : Int32) : X E G (fun r : Int32 × xMem => (some (Value.int r.1), r.2)) 0 [(0, .ref (xad G 0)), (1, .int p0), (2, .int p1)] [] m (M_would m p0 p1) := by
  unfold M_would
  refine x_aload_n (pc := 0) (i := 0) (a := 0) g dX12_would_0 rfl rfl ?_
  refine x_iconst (pc := 1) g dX12_would_1 ic_0 ?_
  refine x_putI (pc := 2) g hM dX12_would_2 fl_12_1 ft_12_0 (sm_0) rfl (fun m1 => ?_)
  refine x_aload_n (pc := 5) (i := 0) (a := 0) g dX12_would_5 rfl rfl ?_
  refine x_iload_n (pc := 6) (i := 1) (a := 1) g dX12_would_6 rfl rfl ?_
  refine x_Vi (pc := 7) g hM [.int p0] [] (c_M_isOwl l G hM m1 p0) dX12_would_7 ml_12_365 (sm_0) rfl rfl (Nat.le_of_ble_eq_true rfl) ⟨rfl, rfl, Nat.le_of_ble_eq_true rfl, Nat.le_of_ble_eq_true rfl⟩ (fun r2 hr2 => ?_)
  refine x_if_eq (pc := 10) (t := 30) g dX12_would_10 (by decide) ?_ ?_
  · refine x_iconst (pc := 30) g dX12_would_30 ic_m1 ?_
    exact x_iret (pc := 31) g dX12_would_31 rfl (fun _ h => h)
  · refine x_aload_n (pc := 13) (i := 0) (a := 0) g dX12_would_13 rfl rfl ?_
    refine x_iload_n (pc := 14) (i := 2) (a := 2) g dX12_would_14 rfl rfl ?_
    refine x_Vi (pc := 15) g hM [.int p1] [] (c_M_isBed l G hM m1 p1) dX12_would_15 ml_12_355 (sm_0) rfl rfl (Nat.le_of_ble_eq_true rfl) ⟨rfl, rfl, Nat.le_of_ble_eq_true rfl, Nat.le_of_ble_eq_true rfl⟩ (fun r3 hr3 => ?_)
    refine x_if_eq (pc := 18) (t := 30) g dX12_would_18 (by decide) ?_ ?_
    · refine x_iconst (pc := 30) g dX12_would_30 ic_m1 ?_
      exact x_iret (pc := 31) g dX12_would_31 rfl (fun _ h => h)
    · refine x_aload_n (pc := 21) (i := 0) (a := 0) g dX12_would_21 rfl rfl ?_
      refine x_iload_n (pc := 22) (i := 1) (a := 1) g dX12_would_22 rfl rfl ?_
      refine x_iload_n (pc := 23) (i := 2) (a := 2) g dX12_would_23 rfl rfl ?_
      refine x_Vi (pc := 24) g hM [.int p0, .int p1] [] (c_M_lookBy l G hM m1 p0 p1) dX12_would_24 ml_12_368 (sm_0) rfl rfl (Nat.le_of_ble_eq_true rfl) ⟨rfl, rfl, Nat.le_of_ble_eq_true rfl, Nat.le_of_ble_eq_true rfl⟩ (fun r4 hr4 => ?_)
      refine x_goto (pc := 27) (t := 31) g dX12_would_27 (by decide) ?_
      exact x_iret (pc := 31) g dX12_would_31 rfl (fun _ h => h)
theorem c_M_would (l : Launch) (G : xG) (hM : WM G) (m : xMem) (p0 : Int32) (p1 : Int32) : xCim l G yX12_would cX12_would 3 (some .int) rm_M_would [.ref (xad G 0), .int p0, .int p1] m (M_would m p0 p1) :=
  xCt_of (own := RX12) (by decide) rfl (Nat.le_of_ble_eq_true rfl) rfl ⟨rfl, rfl⟩ (fun E g => T_M_would hM g m p0 p1)
theorem T_M_when_b78 {l : Launch} {G : xG} {E : xE} (hM : WM G) (g : xGood E l G.1 RX12 cX12_when yX12_when 5 (some .int) rm_M_when) (p0 : Int32) (p1 : Int32) (k33 : Int32 → Int32 → xMem → Option (Int32 × xMem)) (hk33 : ∀ (v3 : Int32) (v4 : Int32) (m : xMem), X E G (fun r : Int32 × xMem => (some (Value.int r.1), r.2)) 33 [(0, .ref (xad G 0)), (1, .int p0), (2, .int p1), (3, .int v3), (4, .int v4)] [] m (k33 v3 v4 m)) (v3 : Int32) (v4 : Int32) (m : xMem) : X E G (fun r : Int32 × xMem => (some (Value.int r.1), r.2)) 78 [(0, .ref (xad G 0)), (1, .int p0), (2, .int p1), (3, .int v3), (4, .int v4)] [] m (M_when_b78 p0 p1 k33 v3 v4 m) := by
  unfold M_when_b78
  refine x_aload_n (pc := 78) (i := 0) (a := 0) g dX12_when_78 rfl rfl ?_
  refine x_getR (pc := 79) (x := 2) g hM dX12_when_79 fl_12_33 (sm_0) rfl ?_
  refine x_bipush (pc := 82) g dX12_when_82 bi_97 ?_
  refine x_dup2 (pc := 84) g dX12_when_84 rfl rfl ?_
  refine x_ialdc (pc := 85) g hM dX12_when_85 (sm_2) ix_97_302 ?_
  refine x_iconst (pc := 86) g dX12_when_86 ic_1 ?_
  refine x_iadd (pc := 87) g dX12_when_87 ?_
  refine x_iastc (pc := 88) g hM dX12_when_88 (sm_2) ix_97_302 (fun m8 => ?_)
  refine x_aload_n (pc := 89) (i := 0) (a := 0) g dX12_when_89 rfl rfl ?_
  refine x_getR (pc := 90) (x := 2) g hM dX12_when_90 fl_12_33 (sm_0) rfl ?_
  refine x_bipush (pc := 93) g dX12_when_93 bi_100 ?_
  refine x_iconst (pc := 95) g dX12_when_95 ic_0 ?_
  refine x_iastc (pc := 96) g hM dX12_when_96 (sm_2) ix_100_302 (fun m9 => ?_)
  refine x_iinc (pc := 97) (a := 4) (lv' := [(4, .int (v4 + 1)), (0, .ref (xad G 0)), (1, .int p0), (2, .int p1), (3, .int v3)]) g dX12_when_97 ic_1 rfl (by decide) rfl ?_
  refine x_goto (pc := 100) (t := 33) g dX12_when_100 (by decide) ?_
  exact x_sub [1, 2, 3, 4, 0] (hk33 v3 (v4 + 1) m9) rfl
theorem T_M_when_b103 {l : Launch} {G : xG} {E : xE} (hM : WM G) (g : xGood E l G.1 RX12 cX12_when yX12_when 5 (some .int) rm_M_when) (p0 : Int32) (p1 : Int32) (v3 : Int32) (m : xMem) : X E G (fun r : Int32 × xMem => (some (Value.int r.1), r.2)) 103 [(0, .ref (xad G 0)), (3, .int v3)] [] m (M_when_b103 p0 p1 v3 m) := by
  unfold M_when_b103
  refine x_aload_n (pc := 103) (i := 0) (a := 0) g dX12_when_103 rfl rfl ?_
  refine x_Vv (pc := 104) g hM [] [] (c_M_back l G hM m) dX12_when_104 ml_12_405 (sm_0) rfl rfl (Nat.le_of_ble_eq_true rfl) ⟨rfl, rfl, Nat.le_of_ble_eq_true rfl, Nat.le_of_ble_eq_true rfl⟩ (fun r7 hr7 => ?_)
  refine x_iload_n (pc := 107) (i := 3) (a := 1) g dX12_when_107 rfl rfl ?_
  exact x_iret (pc := 108) g dX12_when_108 rfl (fun _ h => h)
theorem T_M_when_b33 {l : Launch} {G : xG} {E : xE} (hM : WM G) (g : xGood E l G.1 RX12 cX12_when yX12_when 5 (some .int) rm_M_when) (p0 : Int32) (p1 : Int32) : ∀ (n : Nat) (v3 : Int32) (v4 : Int32) (m : xMem), X E G (fun r : Int32 × xMem => (some (Value.int r.1), r.2)) 33 [(0, .ref (xad G 0)), (1, .int p0), (2, .int p1), (3, .int v3), (4, .int v4)] [] m (M_when_b33 p0 p1 n v3 v4 m) := by
  intro n
  induction n with
  | zero => intro v3 v4 m; exact x_none
  | succ n ih =>
    intro v3 v4 m
    rw [M_when_b33]
    refine x_iload (pc := 33) (a := 4) g dX12_when_33 rfl ?_
    refine x_bipush (pc := 35) g dX12_when_35 bi_48 ?_
    refine x_icmp_gt (pc := 37) (t := 103) g dX12_when_37 (by decide) ?_ ?_
    · exact x_sub [0, 3] (T_M_when_b103 hM g p0 p1 v3 m) rfl
    · refine x_iload_n (pc := 40) (i := 3) (a := 3) g dX12_when_40 rfl rfl ?_
      refine x_if_ge (pc := 41) (t := 103) g dX12_when_41 (by decide) ?_ ?_
      · refine x_aload_n (pc := 44) (i := 0) (a := 0) g dX12_when_44 rfl rfl ?_
        refine x_getR (pc := 45) (x := 2) g hM dX12_when_45 fl_12_33 (sm_0) rfl ?_
        refine x_bipush (pc := 48) g dX12_when_48 bi_97 ?_
        refine x_ialdc (pc := 50) g hM dX12_when_50 (sm_2) ix_97_302 ?_
        refine x_sipush (pc := 51) g dX12_when_51 si_400 ?_
        refine x_icmp_gt (pc := 54) (t := 103) g dX12_when_54 (by decide) ?_ ?_
        · exact x_sub [0, 3] (T_M_when_b103 hM g p0 p1 v3 m) rfl
        · refine x_aload_n (pc := 57) (i := 0) (a := 0) g dX12_when_57 rfl rfl ?_
          refine x_iload_n (pc := 58) (i := 1) (a := 1) g dX12_when_58 rfl rfl ?_
          refine x_aload_n (pc := 59) (i := 0) (a := 0) g dX12_when_59 rfl rfl ?_
          refine x_getR (pc := 60) (x := 2) g hM dX12_when_60 fl_12_33 (sm_0) rfl ?_
          refine x_bipush (pc := 63) g dX12_when_63 bi_103 ?_
          refine x_iload_n (pc := 65) (i := 1) (a := 1) g dX12_when_65 rfl rfl ?_
          refine x_iadd (pc := 66) g dX12_when_66 ?_
          refine x_iald (pc := 67) g hM dX12_when_67 (sm_2) (fun j5 hj5 => ?_)
          refine x_Vi (pc := 68) g hM [.int p0, .int (m.1 2 j5)] [] (c_M_lookBy l G hM m p0 (m.1 2 j5)) dX12_when_68 ml_12_368 (sm_0) rfl rfl (Nat.le_of_ble_eq_true rfl) ⟨rfl, rfl, Nat.le_of_ble_eq_true rfl, Nat.le_of_ble_eq_true rfl⟩ (fun r6 hr6 => ?_)
          refine x_iload_n (pc := 71) (i := 2) (a := 2) g dX12_when_71 rfl rfl ?_
          refine x_icmp_ne (pc := 72) (t := 78) g dX12_when_72 (by decide) ?_ ?_
          · refine x_iload (pc := 75) (a := 4) g dX12_when_75 rfl ?_
            refine x_istore_n (pc := 77) (i := 3) (lv' := [(3, .int v4), (0, .ref (xad G 0)), (1, .int p0), (2, .int p1), (4, .int v4)]) g dX12_when_77 rfl (by decide) rfl ?_
            exact x_sub [1, 2, 3, 0, 4] (T_M_when_b78 hM g p0 p1 (M_when_b33 p0 p1 n) ih v4 v4 m) rfl
          · exact x_sub [0, 1, 2, 3, 4] (T_M_when_b78 hM g p0 p1 (M_when_b33 p0 p1 n) ih v3 v4 m) rfl
      · exact x_sub [0, 3] (T_M_when_b103 hM g p0 p1 v3 m) rfl
theorem T_M_when {l : Launch} {G : xG} {E : xE} (hM : WM G) (g : xGood E l G.1 RX12 cX12_when yX12_when 5 (some .int) rm_M_when) (m : xMem) (p0 : Int32) (p1 : Int32) : X E G (fun r : Int32 × xMem => (some (Value.int r.1), r.2)) 0 [(0, .ref (xad G 0)), (1, .int p0), (2, .int p1)] [] m (M_when m p0 p1) := by
  unfold M_when
  refine x_aload_n (pc := 0) (i := 0) (a := 0) g dX12_when_0 rfl rfl ?_
  refine x_iconst (pc := 1) g dX12_when_1 ic_0 ?_
  refine x_putI (pc := 2) g hM dX12_when_2 fl_12_1 ft_12_0 (sm_0) rfl (fun m1 => ?_)
  refine x_aload_n (pc := 5) (i := 0) (a := 0) g dX12_when_5 rfl rfl ?_
  refine x_iload_n (pc := 6) (i := 1) (a := 1) g dX12_when_6 rfl rfl ?_
  refine x_Vi (pc := 7) g hM [.int p0] [] (c_M_isOwl l G hM m1 p0) dX12_when_7 ml_12_365 (sm_0) rfl rfl (Nat.le_of_ble_eq_true rfl) ⟨rfl, rfl, Nat.le_of_ble_eq_true rfl, Nat.le_of_ble_eq_true rfl⟩ (fun r2 hr2 => ?_)
  refine x_if_eq (pc := 10) (t := 22) g dX12_when_10 (by decide) ?_ ?_
  · refine x_iconst (pc := 22) g dX12_when_22 ic_m1 ?_
    exact x_iret (pc := 23) g dX12_when_23 rfl (fun _ h => h)
  · refine x_iload_n (pc := 13) (i := 2) (a := 2) g dX12_when_13 rfl rfl ?_
    refine x_iconst (pc := 14) g dX12_when_14 ic_0 ?_
    refine x_iconst (pc := 15) g dX12_when_15 ic_4 ?_
    refine x_Si (pc := 16) g [.int p1, .int 0, .int 4] [] (c_M_isIn l G hM m1 p1 0 4) dX12_when_16 ms_12_223 rfl rfl (Nat.le_of_ble_eq_true rfl) ⟨rfl, rfl, Nat.le_of_ble_eq_true rfl, Nat.le_of_ble_eq_true rfl⟩ (fun r3 hr3 => ?_)
    refine x_if_ne (pc := 19) (t := 24) g dX12_when_19 (by decide) ?_ ?_
    · refine x_iconst (pc := 22) g dX12_when_22 ic_m1 ?_
      exact x_iret (pc := 23) g dX12_when_23 rfl (fun _ h => h)
    · refine x_aload_n (pc := 24) (i := 0) (a := 0) g dX12_when_24 rfl rfl ?_
      refine x_Vv (pc := 25) g hM [] [] (c_M_tries l G hM m1) dX12_when_25 ml_12_402 (sm_0) rfl rfl (Nat.le_of_ble_eq_true rfl) ⟨rfl, rfl, Nat.le_of_ble_eq_true rfl, Nat.le_of_ble_eq_true rfl⟩ (fun r4 hr4 => ?_)
      refine x_iconst (pc := 28) g dX12_when_28 ic_m1 ?_
      refine x_istore_n (pc := 29) (i := 3) (lv' := [(3, .int ((-1))), (0, .ref (xad G 0)), (1, .int p0), (2, .int p1)]) g dX12_when_29 rfl (by decide) rfl ?_
      refine x_iconst (pc := 30) g dX12_when_30 ic_0 ?_
      refine x_istore (pc := 31) (lv' := [(4, .int 0), (3, .int ((-1))), (0, .ref (xad G 0)), (1, .int p0), (2, .int p1)]) g dX12_when_31 (by decide) rfl ?_
      exact x_sub [2, 3, 4, 1, 0] (T_M_when_b33 hM g p0 p1 1000 ((-1)) 0 r4) rfl
theorem c_M_when (l : Launch) (G : xG) (hM : WM G) (m : xMem) (p0 : Int32) (p1 : Int32) : xCim l G yX12_when cX12_when 5 (some .int) rm_M_when [.ref (xad G 0), .int p0, .int p1] m (M_when m p0 p1) :=
  xCt_of (own := RX12) (by decide) rfl (Nat.le_of_ble_eq_true rfl) rfl ⟨rfl, rfl⟩ (fun E g => T_M_when hM g m p0 p1)
theorem T_M_loud_b22 {l : Launch} {G : xG} {E : xE} (hM : WM G) (g : xGood E l G.1 RX12 cX12_loud yX12_loud 3 (some .int) rm_M_loud) (p0 : Int32) (p1 : Int32) (s0 : Int32) (m : xMem) : X E G (fun r : Int32 × xMem => (some (Value.int r.1), r.2)) 22 [(0, .ref (xad G 0)), (1, .int p0), (2, .int p1)] [.int s0, .ref (xad G 0)] m (M_loud_b22 p0 p1 s0 m) := by
  unfold M_loud_b22
  refine x_Vim (pc := 22) g hM [.int s0] [] (c_M_throwsIf l G hM m s0) dX12_loud_22 ml_12_358 (sm_0) rfl rfl (Nat.le_of_ble_eq_true rfl) ⟨rfl, rfl, Nat.le_of_ble_eq_true rfl, Nat.le_of_ble_eq_true rfl⟩ (fun r3 hr3 => ?_)
  refine x_if_eq (pc := 25) (t := 30) g dX12_loud_25 (by decide) ?_ ?_
  · refine x_aload_n (pc := 30) (i := 0) (a := 0) g dX12_loud_30 rfl rfl ?_
    refine x_iload_n (pc := 31) (i := 1) (a := 1) g dX12_loud_31 rfl rfl ?_
    refine x_iload_n (pc := 32) (i := 2) (a := 2) g dX12_loud_32 rfl rfl ?_
    refine x_Vi (pc := 33) g hM [.int p0, .int p1] [] (c_M_loudAt l G hM r3.2 p0 p1) dX12_loud_33 ml_12_349 (sm_0) rfl rfl (Nat.le_of_ble_eq_true rfl) ⟨rfl, rfl, Nat.le_of_ble_eq_true rfl, Nat.le_of_ble_eq_true rfl⟩ (fun r4 hr4 => ?_)
    exact x_iret (pc := 36) g dX12_loud_36 rfl (fun _ h => h)
  · refine x_iconst (pc := 28) g dX12_loud_28 ic_0 ?_
    exact x_iret (pc := 29) g dX12_loud_29 rfl (fun _ h => h)
theorem T_M_loud {l : Launch} {G : xG} {E : xE} (hM : WM G) (g : xGood E l G.1 RX12 cX12_loud yX12_loud 3 (some .int) rm_M_loud) (m : xMem) (p0 : Int32) (p1 : Int32) : X E G (fun r : Int32 × xMem => (some (Value.int r.1), r.2)) 0 [(0, .ref (xad G 0)), (1, .int p0), (2, .int p1)] [] m (M_loud m p0 p1) := by
  unfold M_loud
  refine x_aload_n (pc := 0) (i := 0) (a := 0) g dX12_loud_0 rfl rfl ?_
  refine x_aload_n (pc := 1) (i := 0) (a := 0) g dX12_loud_1 rfl rfl ?_
  refine x_iload_n (pc := 2) (i := 1) (a := 1) g dX12_loud_2 rfl rfl ?_
  refine x_Vi (pc := 3) g hM [.int p0] [.ref (xad G 0)] (c_M_isSound l G hM m p0) dX12_loud_3 ml_12_371 (sm_0) rfl rfl (Nat.le_of_ble_eq_true rfl) ⟨rfl, rfl, Nat.le_of_ble_eq_true rfl, Nat.le_of_ble_eq_true rfl⟩ (fun r1 hr1 => ?_)
  refine x_if_eq (pc := 6) (t := 17) g dX12_loud_6 (by decide) ?_ ?_
  · refine x_iconst (pc := 17) g dX12_loud_17 ic_1 ?_
    refine x_goto (pc := 18) (t := 22) g dX12_loud_18 (by decide) ?_
    exact x_sub [0, 1, 2] (T_M_loud_b22 hM g p0 p1 1 m) rfl
  · refine x_aload_n (pc := 9) (i := 0) (a := 0) g dX12_loud_9 rfl rfl ?_
    refine x_iload_n (pc := 10) (i := 2) (a := 2) g dX12_loud_10 rfl rfl ?_
    refine x_Vi (pc := 11) g hM [.int p1] [.ref (xad G 0)] (c_M_isBed l G hM m p1) dX12_loud_11 ml_12_355 (sm_0) rfl rfl (Nat.le_of_ble_eq_true rfl) ⟨rfl, rfl, Nat.le_of_ble_eq_true rfl, Nat.le_of_ble_eq_true rfl⟩ (fun r2 hr2 => ?_)
    refine x_if_ne (pc := 14) (t := 21) g dX12_loud_14 (by decide) ?_ ?_
    · refine x_iconst (pc := 17) g dX12_loud_17 ic_1 ?_
      refine x_goto (pc := 18) (t := 22) g dX12_loud_18 (by decide) ?_
      exact x_sub [0, 1, 2] (T_M_loud_b22 hM g p0 p1 1 m) rfl
    · refine x_iconst (pc := 21) g dX12_loud_21 ic_0 ?_
      exact x_sub [0, 1, 2] (T_M_loud_b22 hM g p0 p1 0 m) rfl
theorem c_M_loud (l : Launch) (G : xG) (hM : WM G) (m : xMem) (p0 : Int32) (p1 : Int32) : xCim l G yX12_loud cX12_loud 3 (some .int) rm_M_loud [.ref (xad G 0), .int p0, .int p1] m (M_loud m p0 p1) :=
  xCt_of (own := RX12) (by decide) rfl (Nat.le_of_ble_eq_true rfl) rfl ⟨rfl, rfl⟩ (fun E g => T_M_loud hM g m p0 p1)
theorem T_M_lookAlone {l : Launch} {G : xG} {E : xE} (hM : WM G) (g : xGood E l G.1 RX12 cX12_lookAlone yX12_lookAlone 5 (some .int) rm_M_lookAlone) (m : xMem) (p0 : Int32) (p1 : Int32) (p2 : Int32) (p3 : Int32) : X E G (fun r : Int32 => (some (Value.int r), m)) 0 [(0, .ref (xad G 0)), (1, .int p0), (2, .int p1), (3, .int p2), (4, .int p3)] [] m (M_lookAlone m p0 p1 p2 p3) := by
  unfold M_lookAlone
  refine x_aload_n (pc := 0) (i := 0) (a := 0) g dX12_lookAlone_0 rfl rfl ?_
  refine x_iload_n (pc := 1) (i := 1) (a := 1) g dX12_lookAlone_1 rfl rfl ?_
  refine x_aload_n (pc := 2) (i := 0) (a := 0) g dX12_lookAlone_2 rfl rfl ?_
  refine x_getR (pc := 3) (x := 2) g hM dX12_lookAlone_3 fl_12_33 (sm_0) rfl ?_
  refine x_bipush (pc := 6) g dX12_lookAlone_6 bi_103 ?_
  refine x_iload_n (pc := 8) (i := 1) (a := 1) g dX12_lookAlone_8 rfl rfl ?_
  refine x_iadd (pc := 9) g dX12_lookAlone_9 ?_
  refine x_iald (pc := 10) g hM dX12_lookAlone_10 (sm_2) (fun j1 hj1 => ?_)
  refine x_iconst (pc := 11) g dX12_lookAlone_11 ic_1 ?_
  refine x_iload_n (pc := 12) (i := 2) (a := 2) g dX12_lookAlone_12 rfl rfl ?_
  refine x_iload_n (pc := 13) (i := 3) (a := 3) g dX12_lookAlone_13 rfl rfl ?_
  refine x_iload (pc := 14) (a := 4) g dX12_lookAlone_14 rfl ?_
  refine x_Vi (pc := 16) g hM [.int p0, .int (m.1 2 j1), .int 1, .int p1, .int p2, .int p3] [] (c_M_isHeard l G hM m p0 (m.1 2 j1) 1 p1 p2 p3) dX12_lookAlone_16 ml_12_333 (sm_0) rfl rfl (Nat.le_of_ble_eq_true rfl) ⟨rfl, rfl, Nat.le_of_ble_eq_true rfl, Nat.le_of_ble_eq_true rfl⟩ (fun r2 hr2 => ?_)
  refine x_if_eq (pc := 19) (t := 40) g dX12_lookAlone_19 (by decide) ?_ ?_
  · refine x_sipush (pc := 40) g dX12_lookAlone_40 si_255 ?_
    exact x_iret (pc := 43) g dX12_lookAlone_43 rfl (fun _ h => h)
  · refine x_aload_n (pc := 22) (i := 0) (a := 0) g dX12_lookAlone_22 rfl rfl ?_
    refine x_aload_n (pc := 23) (i := 0) (a := 0) g dX12_lookAlone_23 rfl rfl ?_
    refine x_getR (pc := 24) (x := 2) g hM dX12_lookAlone_24 fl_12_33 (sm_0) rfl ?_
    refine x_bipush (pc := 27) g dX12_lookAlone_27 bi_103 ?_
    refine x_iload_n (pc := 29) (i := 1) (a := 1) g dX12_lookAlone_29 rfl rfl ?_
    refine x_iadd (pc := 30) g dX12_lookAlone_30 ?_
    refine x_iald (pc := 31) g hM dX12_lookAlone_31 (sm_2) (fun j3 hj3 => ?_)
    refine x_iload_n (pc := 32) (i := 2) (a := 2) g dX12_lookAlone_32 rfl rfl ?_
    refine x_iload_n (pc := 33) (i := 3) (a := 3) g dX12_lookAlone_33 rfl rfl ?_
    refine x_Vi (pc := 34) g hM [.int (m.1 2 j3), .int p1, .int p2] [] (c_M_sideOf l G hM m (m.1 2 j3) p1 p2) dX12_lookAlone_34 ml_12_327 (sm_0) rfl rfl (Nat.le_of_ble_eq_true rfl) ⟨rfl, rfl, Nat.le_of_ble_eq_true rfl, Nat.le_of_ble_eq_true rfl⟩ (fun r4 hr4 => ?_)
    refine x_goto (pc := 37) (t := 43) g dX12_lookAlone_37 (by decide) ?_
    exact x_iret (pc := 43) g dX12_lookAlone_43 rfl (fun _ h => h)
theorem c_M_lookAlone (l : Launch) (G : xG) (hM : WM G) (m : xMem) (p0 : Int32) (p1 : Int32) (p2 : Int32) (p3 : Int32) : xCi l G yX12_lookAlone cX12_lookAlone 5 (some .int) rm_M_lookAlone [.ref (xad G 0), .int p0, .int p1, .int p2, .int p3] m (M_lookAlone m p0 p1 p2 p3) :=
  xCt_of (own := RX12) (by decide) rfl (Nat.le_of_ble_eq_true rfl) rfl ⟨rfl, rfl⟩ (fun E g => T_M_lookAlone hM g m p0 p1 p2 p3)
theorem T_M_isSpot_b5 {l : Launch} {G : xG} {E : xE} (hM : WM G) (g : xGood E l G.1 RX12 cX12_isSpot yX12_isSpot 5 (some .boolean) rm_M_isSpot) (m : xMem) (p0 : Int32) (p1 : Int32) : ∀ (n : Nat) (v3 : Int32) (v4 : Int32), X E G (fun r : Int32 => (some (Value.int r), m)) 5 [(0, .ref (xad G 0)), (1, .int p0), (2, .int p1), (3, .int v3), (4, .int v4)] [] m (M_isSpot_b5 m p0 p1 n v3 v4) := by
  intro n
  induction n with
  | zero => intro v3 v4; exact x_none
  | succ n ih =>
    intro v3 v4
    rw [M_isSpot_b5]
    refine x_iload (pc := 5) (a := 4) g dX12_isSpot_5 rfl ?_
    refine x_aload_n (pc := 7) (i := 0) (a := 0) g dX12_isSpot_7 rfl rfl ?_
    refine x_getI (pc := 8) g hM dX12_isSpot_8 fl_12_18 (sm_0) rfl ?_
    refine x_icmp_ge (pc := 11) (t := 58) g dX12_isSpot_11 (by decide) ?_ ?_
    · refine x_iload_n (pc := 14) (i := 3) (a := 3) g dX12_isSpot_14 rfl rfl ?_
      refine x_if_eq (pc := 15) (t := 50) g dX12_isSpot_15 (by decide) ?_ ?_
      · refine x_iconst (pc := 50) g dX12_isSpot_50 ic_0 ?_
        refine x_istore_n (pc := 51) (i := 3) (lv' := [(3, .int 0), (0, .ref (xad G 0)), (1, .int p0), (2, .int p1), (4, .int v4)]) g dX12_isSpot_51 rfl (by decide) rfl ?_
        refine x_iinc (pc := 52) (a := 4) (lv' := [(4, .int (v4 + 2)), (3, .int 0), (0, .ref (xad G 0)), (1, .int p0), (2, .int p1)]) g dX12_isSpot_52 ic_2 rfl (by decide) rfl ?_
        refine x_goto (pc := 55) (t := 5) g dX12_isSpot_55 (by decide) ?_
        exact x_sub [2, 3, 4, 1, 0] (ih 0 (v4 + 2)) rfl
      · refine x_aload_n (pc := 18) (i := 0) (a := 0) g dX12_isSpot_18 rfl rfl ?_
        refine x_aload_n (pc := 19) (i := 0) (a := 0) g dX12_isSpot_19 rfl rfl ?_
        refine x_iload (pc := 20) (a := 4) g dX12_isSpot_20 rfl ?_
        refine x_Vi (pc := 22) g hM [.int v4] [.ref (xad G 0)] (c_M_octet l G hM m v4) dX12_isSpot_22 ml_12_408 (sm_0) rfl rfl (Nat.le_of_ble_eq_true rfl) ⟨rfl, rfl, Nat.le_of_ble_eq_true rfl, Nat.le_of_ble_eq_true rfl⟩ (fun r1 hr1 => ?_)
        refine x_iload_n (pc := 25) (i := 1) (a := 1) g dX12_isSpot_25 rfl rfl ?_
        refine x_iload_n (pc := 26) (i := 2) (a := 2) g dX12_isSpot_26 rfl rfl ?_
        refine x_aload_n (pc := 27) (i := 0) (a := 0) g dX12_isSpot_27 rfl rfl ?_
        refine x_iconst (pc := 28) g dX12_isSpot_28 ic_0 ?_
        refine x_Vi (pc := 29) g hM [.int 0] [.int p1, .int p0, .int r1, .ref (xad G 0)] (c_M_octet l G hM m 0) dX12_isSpot_29 ml_12_408 (sm_0) rfl rfl (Nat.le_of_ble_eq_true rfl) ⟨rfl, rfl, Nat.le_of_ble_eq_true rfl, Nat.le_of_ble_eq_true rfl⟩ (fun r2 hr2 => ?_)
        refine x_Vi (pc := 32) g hM [.int r1, .int p0, .int p1, .int r2] [] (c_M_lookAlone l G hM m r1 p0 p1 r2) dX12_isSpot_32 ml_12_411 (sm_0) rfl rfl (Nat.le_of_ble_eq_true rfl) ⟨rfl, rfl, Nat.le_of_ble_eq_true rfl, Nat.le_of_ble_eq_true rfl⟩ (fun r3 hr3 => ?_)
        refine x_aload_n (pc := 35) (i := 0) (a := 0) g dX12_isSpot_35 rfl rfl ?_
        refine x_iload (pc := 36) (a := 4) g dX12_isSpot_36 rfl ?_
        refine x_iconst (pc := 38) g dX12_isSpot_38 ic_1 ?_
        refine x_iadd (pc := 39) g dX12_isSpot_39 ?_
        refine x_Vi (pc := 40) g hM [.int (v4 + 1)] [.int r3] (c_M_octet l G hM m (v4 + 1)) dX12_isSpot_40 ml_12_408 (sm_0) rfl rfl (Nat.le_of_ble_eq_true rfl) ⟨rfl, rfl, Nat.le_of_ble_eq_true rfl, Nat.le_of_ble_eq_true rfl⟩ (fun r4 hr4 => ?_)
        refine x_icmp_ne (pc := 43) (t := 50) g dX12_isSpot_43 (by decide) ?_ ?_
        · refine x_iconst (pc := 46) g dX12_isSpot_46 ic_1 ?_
          refine x_goto (pc := 47) (t := 51) g dX12_isSpot_47 (by decide) ?_
          refine x_istore_n (pc := 51) (i := 3) (lv' := [(3, .int 1), (0, .ref (xad G 0)), (1, .int p0), (2, .int p1), (4, .int v4)]) g dX12_isSpot_51 rfl (by decide) rfl ?_
          refine x_iinc (pc := 52) (a := 4) (lv' := [(4, .int (v4 + 2)), (3, .int 1), (0, .ref (xad G 0)), (1, .int p0), (2, .int p1)]) g dX12_isSpot_52 ic_2 rfl (by decide) rfl ?_
          refine x_goto (pc := 55) (t := 5) g dX12_isSpot_55 (by decide) ?_
          exact x_sub [2, 3, 4, 1, 0] (ih 1 (v4 + 2)) rfl
        · refine x_iconst (pc := 50) g dX12_isSpot_50 ic_0 ?_
          refine x_istore_n (pc := 51) (i := 3) (lv' := [(3, .int 0), (0, .ref (xad G 0)), (1, .int p0), (2, .int p1), (4, .int v4)]) g dX12_isSpot_51 rfl (by decide) rfl ?_
          refine x_iinc (pc := 52) (a := 4) (lv' := [(4, .int (v4 + 2)), (3, .int 0), (0, .ref (xad G 0)), (1, .int p0), (2, .int p1)]) g dX12_isSpot_52 ic_2 rfl (by decide) rfl ?_
          refine x_goto (pc := 55) (t := 5) g dX12_isSpot_55 (by decide) ?_
          exact x_sub [2, 3, 4, 1, 0] (ih 0 (v4 + 2)) rfl
    · refine x_iload_n (pc := 58) (i := 3) (a := 3) g dX12_isSpot_58 rfl rfl ?_
      exact x_zret (pc := 59) g dX12_isSpot_59 rfl (fun _ _ h => h)
theorem T_M_isSpot {l : Launch} {G : xG} {E : xE} (hM : WM G) (g : xGood E l G.1 RX12 cX12_isSpot yX12_isSpot 5 (some .boolean) rm_M_isSpot) (m : xMem) (p0 : Int32) (p1 : Int32) : X E G (fun r : Int32 => (some (Value.int r), m)) 0 [(0, .ref (xad G 0)), (1, .int p0), (2, .int p1)] [] m (M_isSpot m p0 p1) := by
  unfold M_isSpot
  refine x_iconst (pc := 0) g dX12_isSpot_0 ic_1 ?_
  refine x_istore_n (pc := 1) (i := 3) (lv' := [(3, .int 1), (0, .ref (xad G 0)), (1, .int p0), (2, .int p1)]) g dX12_isSpot_1 rfl (by decide) rfl ?_
  refine x_iconst (pc := 2) g dX12_isSpot_2 ic_1 ?_
  refine x_istore (pc := 3) (lv' := [(4, .int 1), (3, .int 1), (0, .ref (xad G 0)), (1, .int p0), (2, .int p1)]) g dX12_isSpot_3 (by decide) rfl ?_
  exact x_sub [2, 3, 4, 1, 0] (T_M_isSpot_b5 hM g m p0 p1 1000 1 1) rfl
theorem c_M_isSpot (l : Launch) (G : xG) (hM : WM G) (m : xMem) (p0 : Int32) (p1 : Int32) : xCi l G yX12_isSpot cX12_isSpot 5 (some .boolean) rm_M_isSpot [.ref (xad G 0), .int p0, .int p1] m (M_isSpot m p0 p1) :=
  xCt_of (own := RX12) (by decide) rfl (Nat.le_of_ble_eq_true rfl) rfl ⟨rfl, rfl⟩ (fun E g => T_M_isSpot hM g m p0 p1)
theorem T_M_leftBy_b77 {l : Launch} {G : xG} {E : xE} (hM : WM G) (g : xGood E l G.1 RX12 cX12_leftBy yX12_leftBy 6 (some .int) rm_M_leftBy) (p0 : Int32) (k25 : Int32 → Int32 → xMem → Option (Int32 × xMem)) (hk25 : ∀ (v2 : Int32) (v3 : Int32) (m : xMem), X E G (fun r : Int32 × xMem => (some (Value.int r.1), r.2)) 25 [(0, .ref (xad G 0)), (1, .int p0), (2, .int v2), (3, .int v3)] [] m (k25 v2 v3 m)) (v2 : Int32) (v3 : Int32) (s0 : Int32) (m : xMem) : X E G (fun r : Int32 × xMem => (some (Value.int r.1), r.2)) 77 [(0, .ref (xad G 0)), (1, .int p0), (2, .int v2), (3, .int v3)] [.int s0] m (M_leftBy_b77 p0 k25 v2 v3 s0 m) := by
  unfold M_leftBy_b77
  refine x_istore (pc := 77) (lv' := [(5, .int s0), (0, .ref (xad G 0)), (1, .int p0), (2, .int v2), (3, .int v3)]) g dX12_leftBy_77 (by decide) rfl ?_
  refine x_aload_n (pc := 79) (i := 0) (a := 1) g dX12_leftBy_79 rfl rfl ?_
  refine x_getR (pc := 80) (x := 10) g hM dX12_leftBy_80 fl_12_59 (sm_0) rfl ?_
  refine x_iload (pc := 83) (a := 0) g dX12_leftBy_83 rfl ?_
  refine x_dup2 (pc := 85) g dX12_leftBy_85 rfl rfl ?_
  refine x_iald (pc := 86) g hM dX12_leftBy_86 (sm_10) (fun j7 hj7 => ?_)
  refine x_iconst (pc := 87) g dX12_leftBy_87 ic_1 ?_
  refine x_iadd (pc := 88) g dX12_leftBy_88 ?_
  refine x_iast (pc := 89) g hM dX12_leftBy_89 (sm_10) (fun j9 hj9 m8 => ?_)
  refine x_iload_n (pc := 90) (i := 2) (a := 3) g dX12_leftBy_90 rfl rfl ?_
  refine x_aload_n (pc := 91) (i := 0) (a := 1) g dX12_leftBy_91 rfl rfl ?_
  refine x_getR (pc := 92) (x := 10) g hM dX12_leftBy_92 fl_12_59 (sm_0) rfl ?_
  refine x_iload (pc := 95) (a := 0) g dX12_leftBy_95 rfl ?_
  refine x_iald (pc := 97) g hM dX12_leftBy_97 (sm_10) (fun j10 hj10 => ?_)
  refine x_Si (pc := 98) g [.int v2, .int (m8.1 10 j10)] [] (c_M_greater l G hM m8 v2 (m8.1 10 j10)) dX12_leftBy_98 ms_12_415 rfl rfl (Nat.le_of_ble_eq_true rfl) ⟨rfl, rfl, Nat.le_of_ble_eq_true rfl, Nat.le_of_ble_eq_true rfl⟩ (fun r11 hr11 => ?_)
  refine x_istore_n (pc := 101) (i := 2) (lv' := [(2, .int r11), (5, .int s0), (0, .ref (xad G 0)), (1, .int p0), (3, .int v3)]) g dX12_leftBy_101 rfl (by decide) rfl ?_
  refine x_iinc (pc := 102) (a := 4) (lv' := [(3, .int (v3 + 1)), (2, .int r11), (5, .int s0), (0, .ref (xad G 0)), (1, .int p0)]) g dX12_leftBy_102 ic_1 rfl (by decide) rfl ?_
  refine x_goto (pc := 105) (t := 25) g dX12_leftBy_105 (by decide) ?_
  exact x_sub [3, 4, 1, 0] (hk25 r11 (v3 + 1) m8) rfl
theorem T_M_leftBy_b25 {l : Launch} {G : xG} {E : xE} (hM : WM G) (g : xGood E l G.1 RX12 cX12_leftBy yX12_leftBy 6 (some .int) rm_M_leftBy) (p0 : Int32) : ∀ (n : Nat) (v2 : Int32) (v3 : Int32) (m : xMem), X E G (fun r : Int32 × xMem => (some (Value.int r.1), r.2)) 25 [(0, .ref (xad G 0)), (1, .int p0), (2, .int v2), (3, .int v3)] [] m (M_leftBy_b25 p0 n v2 v3 m) := by
  intro n
  induction n with
  | zero => intro v2 v3 m; exact x_none
  | succ n ih =>
    intro v2 v3 m
    rw [M_leftBy_b25]
    refine x_iload_n (pc := 25) (i := 3) (a := 3) g dX12_leftBy_25 rfl rfl ?_
    refine x_aload_n (pc := 26) (i := 0) (a := 0) g dX12_leftBy_26 rfl rfl ?_
    refine x_getI (pc := 27) g hM dX12_leftBy_27 fl_12_62 (sm_0) rfl ?_
    refine x_icmp_ge (pc := 30) (t := 108) g dX12_leftBy_30 (by decide) ?_ ?_
    · refine x_aload_n (pc := 33) (i := 0) (a := 0) g dX12_leftBy_33 rfl rfl ?_
      refine x_iload_n (pc := 34) (i := 1) (a := 1) g dX12_leftBy_34 rfl rfl ?_
      refine x_aload_n (pc := 35) (i := 0) (a := 0) g dX12_leftBy_35 rfl rfl ?_
      refine x_getR (pc := 36) (x := 9) g hM dX12_leftBy_36 fl_12_56 (sm_0) rfl ?_
      refine x_iload_n (pc := 39) (i := 3) (a := 3) g dX12_leftBy_39 rfl rfl ?_
      refine x_iald (pc := 40) g hM dX12_leftBy_40 (sm_9) (fun j3 hj3 => ?_)
      refine x_bipush (pc := 41) g dX12_leftBy_41 bi_9 ?_
      refine x_irem (pc := 43) g dX12_leftBy_43 (by decide) ?_
      refine x_aload_n (pc := 44) (i := 0) (a := 0) g dX12_leftBy_44 rfl rfl ?_
      refine x_getR (pc := 45) (x := 9) g hM dX12_leftBy_45 fl_12_56 (sm_0) rfl ?_
      refine x_iload_n (pc := 48) (i := 3) (a := 3) g dX12_leftBy_48 rfl rfl ?_
      refine x_iald (pc := 49) g hM dX12_leftBy_49 (sm_9) (fun j4 hj4 => ?_)
      refine x_bipush (pc := 50) g dX12_leftBy_50 bi_9 ?_
      refine x_idiv (pc := 52) g dX12_leftBy_52 (by decide) ?_
      refine x_aload_n (pc := 53) (i := 0) (a := 0) g dX12_leftBy_53 rfl rfl ?_
      refine x_iconst (pc := 54) g dX12_leftBy_54 ic_0 ?_
      refine x_Vi (pc := 55) g hM [.int 0] [.int ((m.1 9 j4) / 9), .int (i_rem (m.1 9 j3) 9), .int p0, .ref (xad G 0)] (c_M_octet l G hM m 0) dX12_leftBy_55 ml_12_408 (sm_0) rfl rfl (Nat.le_of_ble_eq_true rfl) ⟨rfl, rfl, Nat.le_of_ble_eq_true rfl, Nat.le_of_ble_eq_true rfl⟩ (fun r5 hr5 => ?_)
      refine x_Vi (pc := 58) g hM [.int p0, .int (i_rem (m.1 9 j3) 9), .int ((m.1 9 j4) / 9), .int r5] [] (c_M_lookAlone l G hM m p0 (i_rem (m.1 9 j3) 9) ((m.1 9 j4) / 9) r5) dX12_leftBy_58 ml_12_411 (sm_0) rfl rfl (Nat.le_of_ble_eq_true rfl) ⟨rfl, rfl, Nat.le_of_ble_eq_true rfl, Nat.le_of_ble_eq_true rfl⟩ (fun r6 hr6 => ?_)
      refine x_istore (pc := 61) (lv' := [(4, .int r6), (0, .ref (xad G 0)), (1, .int p0), (2, .int v2), (3, .int v3)]) g dX12_leftBy_61 (by decide) rfl ?_
      refine x_iload (pc := 63) (a := 0) g dX12_leftBy_63 rfl ?_
      refine x_sipush (pc := 65) g dX12_leftBy_65 si_255 ?_
      refine x_icmp_ne (pc := 68) (t := 75) g dX12_leftBy_68 (by decide) ?_ ?_
      · refine x_iconst (pc := 71) g dX12_leftBy_71 ic_5 ?_
        refine x_goto (pc := 72) (t := 77) g dX12_leftBy_72 (by decide) ?_
        exact x_sub [1, 2, 3, 4] (T_M_leftBy_b77 hM g p0 (M_leftBy_b25 p0 n) ih v2 v3 5 m) rfl
      · refine x_iload (pc := 75) (a := 0) g dX12_leftBy_75 rfl ?_
        exact x_sub [1, 2, 3, 4] (T_M_leftBy_b77 hM g p0 (M_leftBy_b25 p0 n) ih v2 v3 r6 m) rfl
    · refine x_iload_n (pc := 108) (i := 2) (a := 2) g dX12_leftBy_108 rfl rfl ?_
      exact x_iret (pc := 109) g dX12_leftBy_109 rfl (fun _ h => h)
theorem T_M_leftBy_b2 {l : Launch} {G : xG} {E : xE} (hM : WM G) (g : xGood E l G.1 RX12 cX12_leftBy yX12_leftBy 6 (some .int) rm_M_leftBy) (p0 : Int32) : ∀ (n : Nat) (v2 : Int32) (m : xMem), X E G (fun r : Int32 × xMem => (some (Value.int r.1), r.2)) 2 [(0, .ref (xad G 0)), (1, .int p0), (2, .int v2)] [] m (M_leftBy_b2 p0 n v2 m) := by
  intro n
  induction n with
  | zero => intro v2 m; exact x_none
  | succ n ih =>
    intro v2 m
    rw [M_leftBy_b2]
    refine x_iload_n (pc := 2) (i := 2) (a := 2) g dX12_leftBy_2 rfl rfl ?_
    refine x_bipush (pc := 3) g dX12_leftBy_3 bi_6 ?_
    refine x_icmp_ge (pc := 5) (t := 21) g dX12_leftBy_5 (by decide) ?_ ?_
    · refine x_aload_n (pc := 8) (i := 0) (a := 0) g dX12_leftBy_8 rfl rfl ?_
      refine x_getR (pc := 9) (x := 10) g hM dX12_leftBy_9 fl_12_59 (sm_0) rfl ?_
      refine x_iload_n (pc := 12) (i := 2) (a := 2) g dX12_leftBy_12 rfl rfl ?_
      refine x_iconst (pc := 13) g dX12_leftBy_13 ic_0 ?_
      refine x_iast (pc := 14) g hM dX12_leftBy_14 (sm_10) (fun j2 hj2 m1 => ?_)
      refine x_iinc (pc := 15) (a := 2) (lv' := [(2, .int (v2 + 1)), (0, .ref (xad G 0)), (1, .int p0)]) g dX12_leftBy_15 ic_1 rfl (by decide) rfl ?_
      refine x_goto (pc := 18) (t := 2) g dX12_leftBy_18 (by decide) ?_
      exact x_sub [1, 2, 0] (ih (v2 + 1) m1) rfl
    · refine x_iconst (pc := 21) g dX12_leftBy_21 ic_0 ?_
      refine x_istore_n (pc := 22) (i := 2) (lv' := [(2, .int 0), (0, .ref (xad G 0)), (1, .int p0)]) g dX12_leftBy_22 rfl (by decide) rfl ?_
      refine x_iconst (pc := 23) g dX12_leftBy_23 ic_0 ?_
      refine x_istore_n (pc := 24) (i := 3) (lv' := [(3, .int 0), (2, .int 0), (0, .ref (xad G 0)), (1, .int p0)]) g dX12_leftBy_24 rfl (by decide) rfl ?_
      exact x_sub [2, 3, 1, 0] (T_M_leftBy_b25 hM g p0 1000 0 0 m) rfl
theorem T_M_leftBy {l : Launch} {G : xG} {E : xE} (hM : WM G) (g : xGood E l G.1 RX12 cX12_leftBy yX12_leftBy 6 (some .int) rm_M_leftBy) (m : xMem) (p0 : Int32) : X E G (fun r : Int32 × xMem => (some (Value.int r.1), r.2)) 0 [(0, .ref (xad G 0)), (1, .int p0)] [] m (M_leftBy m p0) := by
  unfold M_leftBy
  refine x_iconst (pc := 0) g dX12_leftBy_0 ic_0 ?_
  refine x_istore_n (pc := 1) (i := 2) (lv' := [(2, .int 0), (0, .ref (xad G 0)), (1, .int p0)]) g dX12_leftBy_1 rfl (by decide) rfl ?_
  exact x_sub [1, 2, 0] (T_M_leftBy_b2 hM g p0 1000 0 m) rfl
theorem c_M_leftBy (l : Launch) (G : xG) (hM : WM G) (m : xMem) (p0 : Int32) : xCim l G yX12_leftBy cX12_leftBy 6 (some .int) rm_M_leftBy [.ref (xad G 0), .int p0] m (M_leftBy m p0) :=
  xCt_of (own := RX12) (by decide) rfl (Nat.le_of_ble_eq_true rfl) rfl ⟨rfl, rfl⟩ (fun E g => T_M_leftBy hM g m p0)
theorem T_M_spots_b120 {l : Launch} {G : xG} {E : xE} (hM : WM G) (g : xGood E l G.1 RX12 cX12_spots yX12_spots 4 (some .int) rm_M_spots) (k108 : Int32 → Int32 → xMem → Option (Int32 × xMem)) (hk108 : ∀ (v1 : Int32) (v2 : Int32) (m : xMem), X E G (fun r : Int32 × xMem => (some (Value.int r.1), r.2)) 108 [(0, .ref (xad G 0)), (1, .int v1), (2, .int v2)] [] m (k108 v1 v2 m)) : ∀ (n : Nat) (v1 : Int32) (v2 : Int32) (v3 : Int32) (m : xMem), X E G (fun r : Int32 × xMem => (some (Value.int r.1), r.2)) 120 [(0, .ref (xad G 0)), (1, .int v1), (2, .int v2), (3, .int v3)] [] m (M_spots_b120 k108 n v1 v2 v3 m) := by
  intro n
  induction n with
  | zero => intro v1 v2 v3 m; exact x_none
  | succ n ih =>
    intro v1 v2 v3 m
    rw [M_spots_b120]
    refine x_iload_n (pc := 120) (i := 3) (a := 3) g dX12_spots_120 rfl rfl ?_
    refine x_aload_n (pc := 121) (i := 0) (a := 0) g dX12_spots_121 rfl rfl ?_
    refine x_getR (pc := 122) (x := 2) g hM dX12_spots_122 fl_12_33 (sm_0) rfl ?_
    refine x_iconst (pc := 125) g dX12_spots_125 ic_3 ?_
    refine x_ialdc (pc := 126) g hM dX12_spots_126 (sm_2) ix_3_302 ?_
    refine x_icmp_ge (pc := 127) (t := 153) g dX12_spots_127 (by decide) ?_ ?_
    · refine x_iload_n (pc := 130) (i := 1) (a := 1) g dX12_spots_130 rfl rfl ?_
      refine x_aload_n (pc := 131) (i := 0) (a := 0) g dX12_spots_131 rfl rfl ?_
      refine x_iload_n (pc := 132) (i := 3) (a := 3) g dX12_spots_132 rfl rfl ?_
      refine x_iload_n (pc := 133) (i := 2) (a := 2) g dX12_spots_133 rfl rfl ?_
      refine x_Vi (pc := 134) g hM [.int v3, .int v2] [.int v1] (c_M_isSpot l G hM m v3 v2) dX12_spots_134 ml_12_418 (sm_0) rfl rfl (Nat.le_of_ble_eq_true rfl) ⟨rfl, rfl, Nat.le_of_ble_eq_true rfl, Nat.le_of_ble_eq_true rfl⟩ (fun r11 hr11 => ?_)
      refine x_if_eq (pc := 137) (t := 144) g dX12_spots_137 (by decide) ?_ ?_
      · refine x_iconst (pc := 144) g dX12_spots_144 ic_0 ?_
        refine x_iadd (pc := 145) g dX12_spots_145 ?_
        refine x_nmI (fun x12 => ?_)
        refine x_istore_n (pc := 146) (i := 1) (lv' := [(1, .int x12), (0, .ref (xad G 0)), (2, .int v2), (3, .int v3)]) g dX12_spots_146 rfl (by decide) rfl ?_
        refine x_iinc (pc := 147) (a := 3) (lv' := [(3, .int (v3 + 1)), (1, .int x12), (0, .ref (xad G 0)), (2, .int v2)]) g dX12_spots_147 ic_1 rfl (by decide) rfl ?_
        refine x_goto (pc := 150) (t := 120) g dX12_spots_150 (by decide) ?_
        exact x_sub [2, 1, 3, 0] (ih x12 v2 (v3 + 1) m) rfl
      · refine x_iconst (pc := 140) g dX12_spots_140 ic_1 ?_
        refine x_goto (pc := 141) (t := 145) g dX12_spots_141 (by decide) ?_
        refine x_iadd (pc := 145) g dX12_spots_145 ?_
        refine x_nmI (fun x13 => ?_)
        refine x_istore_n (pc := 146) (i := 1) (lv' := [(1, .int x13), (0, .ref (xad G 0)), (2, .int v2), (3, .int v3)]) g dX12_spots_146 rfl (by decide) rfl ?_
        refine x_iinc (pc := 147) (a := 3) (lv' := [(3, .int (v3 + 1)), (1, .int x13), (0, .ref (xad G 0)), (2, .int v2)]) g dX12_spots_147 ic_1 rfl (by decide) rfl ?_
        refine x_goto (pc := 150) (t := 120) g dX12_spots_150 (by decide) ?_
        exact x_sub [2, 1, 3, 0] (ih x13 v2 (v3 + 1) m) rfl
    · refine x_iinc (pc := 153) (a := 2) (lv' := [(2, .int (v2 + 1)), (0, .ref (xad G 0)), (1, .int v1), (3, .int v3)]) g dX12_spots_153 ic_1 rfl (by decide) rfl ?_
      refine x_goto (pc := 156) (t := 108) g dX12_spots_156 (by decide) ?_
      exact x_sub [1, 2, 0] (hk108 v1 (v2 + 1) m) rfl
theorem T_M_spots_b244 {l : Launch} {G : xG} {E : xE} (hM : WM G) (g : xGood E l G.1 RX12 cX12_spots yX12_spots 4 (some .int) rm_M_spots) : ∀ (n : Nat) (v1 : Int32) (v2 : Int32) (m : xMem), X E G (fun r : Int32 × xMem => (some (Value.int r.1), r.2)) 244 [(0, .ref (xad G 0)), (1, .int v1), (2, .int v2)] [] m (M_spots_b244 n v1 v2 m) := by
  intro n
  induction n with
  | zero => intro v1 v2 m; exact x_none
  | succ n ih =>
    intro v1 v2 m
    rw [M_spots_b244]
    refine x_iload_n (pc := 244) (i := 2) (a := 2) g dX12_spots_244 rfl rfl ?_
    refine x_aload_n (pc := 245) (i := 0) (a := 0) g dX12_spots_245 rfl rfl ?_
    refine x_getR (pc := 246) (x := 2) g hM dX12_spots_246 fl_12_33 (sm_0) rfl ?_
    refine x_iconst (pc := 249) g dX12_spots_249 ic_1 ?_
    refine x_ialdc (pc := 250) g hM dX12_spots_250 (sm_2) ix_1_302 ?_
    refine x_icmp_ge (pc := 251) (t := 281) g dX12_spots_251 (by decide) ?_ ?_
    · refine x_aload_n (pc := 254) (i := 0) (a := 0) g dX12_spots_254 rfl rfl ?_
      refine x_iload_n (pc := 255) (i := 2) (a := 2) g dX12_spots_255 rfl rfl ?_
      refine x_Vim (pc := 256) g hM [.int v2] [] (c_M_leftBy l G hM m v2) dX12_spots_256 ml_12_421 (sm_0) rfl rfl (Nat.le_of_ble_eq_true rfl) ⟨rfl, rfl, Nat.le_of_ble_eq_true rfl, Nat.le_of_ble_eq_true rfl⟩ (fun r20 hr20 => ?_)
      refine x_aload_n (pc := 259) (i := 0) (a := 0) g dX12_spots_259 rfl rfl ?_
      refine x_aload_n (pc := 260) (i := 0) (a := 0) g dX12_spots_260 rfl rfl ?_
      refine x_getI (pc := 261) g hM dX12_spots_261 fl_12_65 (sm_0) rfl ?_
      refine x_Vim (pc := 264) g hM [.int (r20.2.1 0 28)] [.int r20.1] (c_M_leftBy l G hM r20.2 (r20.2.1 0 28)) dX12_spots_264 ml_12_421 (sm_0) rfl rfl (Nat.le_of_ble_eq_true rfl) ⟨rfl, rfl, Nat.le_of_ble_eq_true rfl, Nat.le_of_ble_eq_true rfl⟩ (fun r21 hr21 => ?_)
      refine x_icmp_ge (pc := 267) (t := 275) g dX12_spots_267 (by decide) ?_ ?_
      · refine x_aload_n (pc := 270) (i := 0) (a := 0) g dX12_spots_270 rfl rfl ?_
        refine x_iload_n (pc := 271) (i := 2) (a := 2) g dX12_spots_271 rfl rfl ?_
        refine x_putI (pc := 272) g hM dX12_spots_272 fl_12_65 ft_12_28 (sm_0) rfl (fun m22 => ?_)
        refine x_iinc (pc := 275) (a := 2) (lv' := [(2, .int (v2 + 1)), (0, .ref (xad G 0)), (1, .int v1)]) g dX12_spots_275 ic_1 rfl (by decide) rfl ?_
        refine x_goto (pc := 278) (t := 244) g dX12_spots_278 (by decide) ?_
        exact x_sub [1, 2, 0] (ih v1 (v2 + 1) m22) rfl
      · refine x_iinc (pc := 275) (a := 2) (lv' := [(2, .int (v2 + 1)), (0, .ref (xad G 0)), (1, .int v1)]) g dX12_spots_275 ic_1 rfl (by decide) rfl ?_
        refine x_goto (pc := 278) (t := 244) g dX12_spots_278 (by decide) ?_
        exact x_sub [1, 2, 0] (ih v1 (v2 + 1) r21.2) rfl
    · refine x_iload_n (pc := 281) (i := 1) (a := 1) g dX12_spots_281 rfl rfl ?_
      exact x_iret (pc := 282) g dX12_spots_282 rfl (fun _ h => h)
theorem T_M_spots_b172 {l : Launch} {G : xG} {E : xE} (hM : WM G) (g : xGood E l G.1 RX12 cX12_spots yX12_spots 4 (some .int) rm_M_spots) : ∀ (n : Nat) (v1 : Int32) (v2 : Int32) (m : xMem), X E G (fun r : Int32 × xMem => (some (Value.int r.1), r.2)) 172 [(0, .ref (xad G 0)), (1, .int v1), (2, .int v2)] [] m (M_spots_b172 n v1 v2 m) := by
  intro n
  induction n with
  | zero => intro v1 v2 m; exact x_none
  | succ n ih =>
    intro v1 v2 m
    rw [M_spots_b172]
    refine x_iload_n (pc := 172) (i := 2) (a := 2) g dX12_spots_172 rfl rfl ?_
    refine x_bipush (pc := 173) g dX12_spots_173 bi_81 ?_
    refine x_icmp_ge (pc := 175) (t := 237) g dX12_spots_175 (by decide) ?_ ?_
    · refine x_aload_n (pc := 178) (i := 0) (a := 0) g dX12_spots_178 rfl rfl ?_
      refine x_iload_n (pc := 179) (i := 2) (a := 2) g dX12_spots_179 rfl rfl ?_
      refine x_bipush (pc := 180) g dX12_spots_180 bi_9 ?_
      refine x_irem (pc := 182) g dX12_spots_182 (by decide) ?_
      refine x_iload_n (pc := 183) (i := 2) (a := 2) g dX12_spots_183 rfl rfl ?_
      refine x_bipush (pc := 184) g dX12_spots_184 bi_9 ?_
      refine x_idiv (pc := 186) g dX12_spots_186 (by decide) ?_
      refine x_Vi (pc := 187) g hM [.int (i_rem v2 9), .int (v2 / 9)] [] (c_M_isCell l G hM m (i_rem v2 9) (v2 / 9)) dX12_spots_187 ml_12_392 (sm_0) rfl rfl (Nat.le_of_ble_eq_true rfl) ⟨rfl, rfl, Nat.le_of_ble_eq_true rfl, Nat.le_of_ble_eq_true rfl⟩ (fun r14 hr14 => ?_)
      refine x_if_eq (pc := 190) (t := 231) g dX12_spots_190 (by decide) ?_ ?_
      · refine x_iinc (pc := 231) (a := 2) (lv' := [(2, .int (v2 + 1)), (0, .ref (xad G 0)), (1, .int v1)]) g dX12_spots_231 ic_1 rfl (by decide) rfl ?_
        refine x_goto (pc := 234) (t := 172) g dX12_spots_234 (by decide) ?_
        exact x_sub [1, 2, 0] (ih v1 (v2 + 1) m) rfl
      · refine x_aload_n (pc := 193) (i := 0) (a := 0) g dX12_spots_193 rfl rfl ?_
        refine x_iload_n (pc := 194) (i := 2) (a := 2) g dX12_spots_194 rfl rfl ?_
        refine x_bipush (pc := 195) g dX12_spots_195 bi_9 ?_
        refine x_irem (pc := 197) g dX12_spots_197 (by decide) ?_
        refine x_iload_n (pc := 198) (i := 2) (a := 2) g dX12_spots_198 rfl rfl ?_
        refine x_bipush (pc := 199) g dX12_spots_199 bi_9 ?_
        refine x_idiv (pc := 201) g dX12_spots_201 (by decide) ?_
        refine x_Vi (pc := 202) g hM [.int (i_rem v2 9), .int (v2 / 9)] [] (c_M_isSpot l G hM m (i_rem v2 9) (v2 / 9)) dX12_spots_202 ml_12_418 (sm_0) rfl rfl (Nat.le_of_ble_eq_true rfl) ⟨rfl, rfl, Nat.le_of_ble_eq_true rfl, Nat.le_of_ble_eq_true rfl⟩ (fun r15 hr15 => ?_)
        refine x_if_ne (pc := 205) (t := 211) g dX12_spots_205 (by decide) ?_ ?_
        · refine x_goto (pc := 208) (t := 231) g dX12_spots_208 (by decide) ?_
          refine x_iinc (pc := 231) (a := 2) (lv' := [(2, .int (v2 + 1)), (0, .ref (xad G 0)), (1, .int v1)]) g dX12_spots_231 ic_1 rfl (by decide) rfl ?_
          refine x_goto (pc := 234) (t := 172) g dX12_spots_234 (by decide) ?_
          exact x_sub [1, 2, 0] (ih v1 (v2 + 1) m) rfl
        · refine x_aload_n (pc := 211) (i := 0) (a := 0) g dX12_spots_211 rfl rfl ?_
          refine x_getR (pc := 212) (x := 9) g hM dX12_spots_212 fl_12_56 (sm_0) rfl ?_
          refine x_aload_n (pc := 215) (i := 0) (a := 0) g dX12_spots_215 rfl rfl ?_
          refine x_getI (pc := 216) g hM dX12_spots_216 fl_12_62 (sm_0) rfl ?_
          refine x_iload_n (pc := 219) (i := 2) (a := 2) g dX12_spots_219 rfl rfl ?_
          refine x_iast (pc := 220) g hM dX12_spots_220 (sm_9) (fun j17 hj17 m16 => ?_)
          refine x_aload_n (pc := 221) (i := 0) (a := 0) g dX12_spots_221 rfl rfl ?_
          refine x_dup (pc := 222) g dX12_spots_222 rfl ?_
          refine x_getI (pc := 223) g hM dX12_spots_223 fl_12_62 (sm_0) rfl ?_
          refine x_iconst (pc := 226) g dX12_spots_226 ic_1 ?_
          refine x_iadd (pc := 227) g dX12_spots_227 ?_
          refine x_putI (pc := 228) g hM dX12_spots_228 fl_12_62 ft_12_27 (sm_0) rfl (fun m18 => ?_)
          refine x_iinc (pc := 231) (a := 2) (lv' := [(2, .int (v2 + 1)), (0, .ref (xad G 0)), (1, .int v1)]) g dX12_spots_231 ic_1 rfl (by decide) rfl ?_
          refine x_goto (pc := 234) (t := 172) g dX12_spots_234 (by decide) ?_
          exact x_sub [1, 2, 0] (ih v1 (v2 + 1) m18) rfl
    · refine x_aload_n (pc := 237) (i := 0) (a := 0) g dX12_spots_237 rfl rfl ?_
      refine x_iconst (pc := 238) g dX12_spots_238 ic_0 ?_
      refine x_putI (pc := 239) g hM dX12_spots_239 fl_12_65 ft_12_28 (sm_0) rfl (fun m19 => ?_)
      refine x_iconst (pc := 242) g dX12_spots_242 ic_1 ?_
      refine x_istore_n (pc := 243) (i := 2) (lv' := [(2, .int 1), (0, .ref (xad G 0)), (1, .int v1)]) g dX12_spots_243 rfl (by decide) rfl ?_
      exact x_sub [1, 2, 0] (T_M_spots_b244 hM g 1000 v1 1 m19) rfl
theorem T_M_spots_b108 {l : Launch} {G : xG} {E : xE} (hM : WM G) (g : xGood E l G.1 RX12 cX12_spots yX12_spots 4 (some .int) rm_M_spots) : ∀ (n : Nat) (v1 : Int32) (v2 : Int32) (m : xMem), X E G (fun r : Int32 × xMem => (some (Value.int r.1), r.2)) 108 [(0, .ref (xad G 0)), (1, .int v1), (2, .int v2)] [] m (M_spots_b108 n v1 v2 m) := by
  intro n
  induction n with
  | zero => intro v1 v2 m; exact x_none
  | succ n ih =>
    intro v1 v2 m
    rw [M_spots_b108]
    refine x_iload_n (pc := 108) (i := 2) (a := 2) g dX12_spots_108 rfl rfl ?_
    refine x_aload_n (pc := 109) (i := 0) (a := 0) g dX12_spots_109 rfl rfl ?_
    refine x_getR (pc := 110) (x := 2) g hM dX12_spots_110 fl_12_33 (sm_0) rfl ?_
    refine x_iconst (pc := 113) g dX12_spots_113 ic_4 ?_
    refine x_ialdc (pc := 114) g hM dX12_spots_114 (sm_2) ix_4_302 ?_
    refine x_icmp_ge (pc := 115) (t := 159) g dX12_spots_115 (by decide) ?_ ?_
    · refine x_iconst (pc := 118) g dX12_spots_118 ic_0 ?_
      refine x_istore_n (pc := 119) (i := 3) (lv' := [(3, .int 0), (0, .ref (xad G 0)), (1, .int v1), (2, .int v2)]) g dX12_spots_119 rfl (by decide) rfl ?_
      exact x_sub [1, 2, 3, 0] (T_M_spots_b120 hM g (M_spots_b108 n) ih 1000 v1 v2 0 m) rfl
    · refine x_iload_n (pc := 159) (i := 1) (a := 1) g dX12_spots_159 rfl rfl ?_
      refine x_if_ne (pc := 160) (t := 165) g dX12_spots_160 (by decide) ?_ ?_
      · refine x_iconst (pc := 163) g dX12_spots_163 ic_0 ?_
        exact x_iret (pc := 164) g dX12_spots_164 rfl (fun _ h => h)
      · refine x_aload_n (pc := 165) (i := 0) (a := 0) g dX12_spots_165 rfl rfl ?_
        refine x_iconst (pc := 166) g dX12_spots_166 ic_0 ?_
        refine x_putI (pc := 167) g hM dX12_spots_167 fl_12_62 ft_12_27 (sm_0) rfl (fun m10 => ?_)
        refine x_iconst (pc := 170) g dX12_spots_170 ic_0 ?_
        refine x_istore_n (pc := 171) (i := 2) (lv' := [(2, .int 0), (0, .ref (xad G 0)), (1, .int v1)]) g dX12_spots_171 rfl (by decide) rfl ?_
        exact x_sub [1, 2, 0] (T_M_spots_b172 hM g 1000 v1 0 m10) rfl
theorem T_M_spots_b52 {l : Launch} {G : xG} {E : xE} (hM : WM G) (g : xGood E l G.1 RX12 cX12_spots yX12_spots 4 (some .int) rm_M_spots) : ∀ (n : Nat) (v1 : Int32) (m : xMem), X E G (fun r : Int32 × xMem => (some (Value.int r.1), r.2)) 52 [(0, .ref (xad G 0)), (1, .int v1)] [] m (M_spots_b52 n v1 m) := by
  intro n
  induction n with
  | zero => intro v1 m; exact x_none
  | succ n ih =>
    intro v1 m
    rw [M_spots_b52]
    refine x_iload_n (pc := 52) (i := 1) (a := 1) g dX12_spots_52 rfl rfl ?_
    refine x_aload_n (pc := 53) (i := 0) (a := 0) g dX12_spots_53 rfl rfl ?_
    refine x_getI (pc := 54) g hM dX12_spots_54 fl_12_18 (sm_0) rfl ?_
    refine x_icmp_ge (pc := 57) (t := 104) g dX12_spots_57 (by decide) ?_ ?_
    · refine x_aload_n (pc := 60) (i := 0) (a := 0) g dX12_spots_60 rfl rfl ?_
      refine x_aload_n (pc := 61) (i := 0) (a := 0) g dX12_spots_61 rfl rfl ?_
      refine x_iload_n (pc := 62) (i := 1) (a := 1) g dX12_spots_62 rfl rfl ?_
      refine x_Vi (pc := 63) g hM [.int v1] [.ref (xad G 0)] (c_M_octet l G hM m v1) dX12_spots_63 ml_12_408 (sm_0) rfl rfl (Nat.le_of_ble_eq_true rfl) ⟨rfl, rfl, Nat.le_of_ble_eq_true rfl, Nat.le_of_ble_eq_true rfl⟩ (fun r6 hr6 => ?_)
      refine x_Vi (pc := 66) g hM [.int r6] [] (c_M_isOwl l G hM m r6) dX12_spots_66 ml_12_365 (sm_0) rfl rfl (Nat.le_of_ble_eq_true rfl) ⟨rfl, rfl, Nat.le_of_ble_eq_true rfl, Nat.le_of_ble_eq_true rfl⟩ (fun r7 hr7 => ?_)
      refine x_if_eq (pc := 69) (t := 96) g dX12_spots_69 (by decide) ?_ ?_
      · refine x_iconst (pc := 96) g dX12_spots_96 ic_m1 ?_
        exact x_iret (pc := 97) g dX12_spots_97 rfl (fun _ h => h)
      · refine x_aload_n (pc := 72) (i := 0) (a := 0) g dX12_spots_72 rfl rfl ?_
        refine x_iload_n (pc := 73) (i := 1) (a := 1) g dX12_spots_73 rfl rfl ?_
        refine x_iconst (pc := 74) g dX12_spots_74 ic_1 ?_
        refine x_iadd (pc := 75) g dX12_spots_75 ?_
        refine x_Vi (pc := 76) g hM [.int (v1 + 1)] [] (c_M_octet l G hM m (v1 + 1)) dX12_spots_76 ml_12_408 (sm_0) rfl rfl (Nat.le_of_ble_eq_true rfl) ⟨rfl, rfl, Nat.le_of_ble_eq_true rfl, Nat.le_of_ble_eq_true rfl⟩ (fun r8 hr8 => ?_)
        refine x_iconst (pc := 79) g dX12_spots_79 ic_4 ?_
        refine x_icmp_le (pc := 80) (t := 98) g dX12_spots_80 (by decide) ?_ ?_
        · refine x_aload_n (pc := 83) (i := 0) (a := 0) g dX12_spots_83 rfl rfl ?_
          refine x_iload_n (pc := 84) (i := 1) (a := 1) g dX12_spots_84 rfl rfl ?_
          refine x_iconst (pc := 85) g dX12_spots_85 ic_1 ?_
          refine x_iadd (pc := 86) g dX12_spots_86 ?_
          refine x_Vi (pc := 87) g hM [.int (v1 + 1)] [] (c_M_octet l G hM m (v1 + 1)) dX12_spots_87 ml_12_408 (sm_0) rfl rfl (Nat.le_of_ble_eq_true rfl) ⟨rfl, rfl, Nat.le_of_ble_eq_true rfl, Nat.le_of_ble_eq_true rfl⟩ (fun r9 hr9 => ?_)
          refine x_sipush (pc := 90) g dX12_spots_90 si_255 ?_
          refine x_icmp_eq (pc := 93) (t := 98) g dX12_spots_93 (by decide) ?_ ?_
          · refine x_iinc (pc := 98) (a := 1) (lv' := [(1, .int (v1 + 2)), (0, .ref (xad G 0))]) g dX12_spots_98 ic_2 rfl (by decide) rfl ?_
            refine x_goto (pc := 101) (t := 52) g dX12_spots_101 (by decide) ?_
            exact x_sub [1, 0] (ih (v1 + 2) m) rfl
          · refine x_iconst (pc := 96) g dX12_spots_96 ic_m1 ?_
            exact x_iret (pc := 97) g dX12_spots_97 rfl (fun _ h => h)
        · refine x_iinc (pc := 98) (a := 1) (lv' := [(1, .int (v1 + 2)), (0, .ref (xad G 0))]) g dX12_spots_98 ic_2 rfl (by decide) rfl ?_
          refine x_goto (pc := 101) (t := 52) g dX12_spots_101 (by decide) ?_
          exact x_sub [1, 0] (ih (v1 + 2) m) rfl
    · refine x_iconst (pc := 104) g dX12_spots_104 ic_0 ?_
      refine x_istore_n (pc := 105) (i := 1) (lv' := [(1, .int 0), (0, .ref (xad G 0))]) g dX12_spots_105 rfl (by decide) rfl ?_
      refine x_iconst (pc := 106) g dX12_spots_106 ic_0 ?_
      refine x_istore_n (pc := 107) (i := 2) (lv' := [(2, .int 0), (1, .int 0), (0, .ref (xad G 0))]) g dX12_spots_107 rfl (by decide) rfl ?_
      exact x_sub [2, 1, 0] (T_M_spots_b108 hM g 1000 0 0 m) rfl
theorem T_M_spots {l : Launch} {G : xG} {E : xE} (hM : WM G) (g : xGood E l G.1 RX12 cX12_spots yX12_spots 4 (some .int) rm_M_spots) (m : xMem) : X E G (fun r : Int32 × xMem => (some (Value.int r.1), r.2)) 0 [(0, .ref (xad G 0))] [] m (M_spots m) := by
  unfold M_spots
  refine x_aload_n (pc := 0) (i := 0) (a := 0) g dX12_spots_0 rfl rfl ?_
  refine x_iconst (pc := 1) g dX12_spots_1 ic_0 ?_
  refine x_putI (pc := 2) g hM dX12_spots_2 fl_12_1 ft_12_0 (sm_0) rfl (fun m1 => ?_)
  refine x_aload_n (pc := 5) (i := 0) (a := 0) g dX12_spots_5 rfl rfl ?_
  refine x_sipush (pc := 6) g dX12_spots_6 si_940 ?_
  refine x_Vv (pc := 9) g hM [.int 940] [] (c_M_taken l G hM m1 940) dX12_spots_9 ml_12_295 (sm_0) rfl rfl (Nat.le_of_ble_eq_true rfl) ⟨rfl, rfl, Nat.le_of_ble_eq_true rfl, Nat.le_of_ble_eq_true rfl⟩ (fun r2 hr2 => ?_)
  refine x_aload_n (pc := 12) (i := 0) (a := 0) g dX12_spots_12 rfl rfl ?_
  refine x_getI (pc := 13) g hM dX12_spots_13 fl_12_18 (sm_0) rfl ?_
  refine x_iconst (pc := 16) g dX12_spots_16 ic_3 ?_
  refine x_bipush (pc := 17) g dX12_spots_17 bi_13 ?_
  refine x_Si (pc := 19) g [.int (r2.1 0 3), .int 3, .int 13] [] (c_M_isIn l G hM r2 (r2.1 0 3) 3 13) dX12_spots_19 ms_12_223 rfl rfl (Nat.le_of_ble_eq_true rfl) ⟨rfl, rfl, Nat.le_of_ble_eq_true rfl, Nat.le_of_ble_eq_true rfl⟩ (fun r3 hr3 => ?_)
  refine x_if_eq (pc := 22) (t := 48) g dX12_spots_22 (by decide) ?_ ?_
  · refine x_iconst (pc := 48) g dX12_spots_48 ic_m1 ?_
    exact x_iret (pc := 49) g dX12_spots_49 rfl (fun _ h => h)
  · refine x_aload_n (pc := 25) (i := 0) (a := 0) g dX12_spots_25 rfl rfl ?_
    refine x_getI (pc := 26) g hM dX12_spots_26 fl_12_18 (sm_0) rfl ?_
    refine x_iconst (pc := 29) g dX12_spots_29 ic_2 ?_
    refine x_irem (pc := 30) g dX12_spots_30 (by decide) ?_
    refine x_if_eq (pc := 31) (t := 48) g dX12_spots_31 (by decide) ?_ ?_
    · refine x_iconst (pc := 48) g dX12_spots_48 ic_m1 ?_
      exact x_iret (pc := 49) g dX12_spots_49 rfl (fun _ h => h)
    · refine x_aload_n (pc := 34) (i := 0) (a := 0) g dX12_spots_34 rfl rfl ?_
      refine x_iconst (pc := 35) g dX12_spots_35 ic_0 ?_
      refine x_Vi (pc := 36) g hM [.int 0] [] (c_M_octet l G hM r2 0) dX12_spots_36 ml_12_408 (sm_0) rfl rfl (Nat.le_of_ble_eq_true rfl) ⟨rfl, rfl, Nat.le_of_ble_eq_true rfl, Nat.le_of_ble_eq_true rfl⟩ (fun r4 hr4 => ?_)
      refine x_iconst (pc := 39) g dX12_spots_39 ic_1 ?_
      refine x_bipush (pc := 40) g dX12_spots_40 bi_30 ?_
      refine x_Si (pc := 42) g [.int r4, .int 1, .int 30] [] (c_M_isIn l G hM r2 r4 1 30) dX12_spots_42 ms_12_223 rfl rfl (Nat.le_of_ble_eq_true rfl) ⟨rfl, rfl, Nat.le_of_ble_eq_true rfl, Nat.le_of_ble_eq_true rfl⟩ (fun r5 hr5 => ?_)
      refine x_if_ne (pc := 45) (t := 50) g dX12_spots_45 (by decide) ?_ ?_
      · refine x_iconst (pc := 48) g dX12_spots_48 ic_m1 ?_
        exact x_iret (pc := 49) g dX12_spots_49 rfl (fun _ h => h)
      · refine x_iconst (pc := 50) g dX12_spots_50 ic_1 ?_
        refine x_istore_n (pc := 51) (i := 1) (lv' := [(1, .int 1), (0, .ref (xad G 0))]) g dX12_spots_51 rfl (by decide) rfl ?_
        exact x_sub [1, 0] (T_M_spots_b52 hM g 1000 1 r2) rfl
theorem c_M_spots (l : Launch) (G : xG) (hM : WM G) (m : xMem) : xCim l G yX12_spots cX12_spots 4 (some .int) rm_M_spots [.ref (xad G 0)] m (M_spots m) :=
  xCt_of (own := RX12) (by decide) rfl (Nat.le_of_ble_eq_true rfl) rfl ⟨rfl, rfl⟩ (fun E g => T_M_spots hM g m)
theorem T_M_spotAt {l : Launch} {G : xG} {E : xE} (hM : WM G) (g : xGood E l G.1 RX12 cX12_spotAt yX12_spotAt 2 (some .int) rm_M_spotAt) (m : xMem) (p0 : Int32) : X E G (fun r : Int32 × xMem => (some (Value.int r.1), r.2)) 0 [(0, .ref (xad G 0)), (1, .int p0)] [] m (M_spotAt m p0) := by
  unfold M_spotAt
  refine x_aload_n (pc := 0) (i := 0) (a := 0) g dX12_spotAt_0 rfl rfl ?_
  refine x_iconst (pc := 1) g dX12_spotAt_1 ic_0 ?_
  refine x_putI (pc := 2) g hM dX12_spotAt_2 fl_12_1 ft_12_0 (sm_0) rfl (fun m1 => ?_)
  refine x_iload_n (pc := 5) (i := 1) (a := 1) g dX12_spotAt_5 rfl rfl ?_
  refine x_iconst (pc := 6) g dX12_spotAt_6 ic_0 ?_
  refine x_aload_n (pc := 7) (i := 0) (a := 0) g dX12_spotAt_7 rfl rfl ?_
  refine x_getI (pc := 8) g hM dX12_spotAt_8 fl_12_62 (sm_0) rfl ?_
  refine x_iconst (pc := 11) g dX12_spotAt_11 ic_1 ?_
  refine x_isub (pc := 12) g dX12_spotAt_12 ?_
  refine x_Si (pc := 13) g [.int p0, .int 0, .int ((m1.1 0 27) - 1)] [] (c_M_isIn l G hM m1 p0 0 ((m1.1 0 27) - 1)) dX12_spotAt_13 ms_12_223 rfl rfl (Nat.le_of_ble_eq_true rfl) ⟨rfl, rfl, Nat.le_of_ble_eq_true rfl, Nat.le_of_ble_eq_true rfl⟩ (fun r2 hr2 => ?_)
  refine x_if_eq (pc := 16) (t := 28) g dX12_spotAt_16 (by decide) ?_ ?_
  · refine x_iconst (pc := 28) g dX12_spotAt_28 ic_m1 ?_
    exact x_iret (pc := 29) g dX12_spotAt_29 rfl (fun _ h => h)
  · refine x_aload_n (pc := 19) (i := 0) (a := 0) g dX12_spotAt_19 rfl rfl ?_
    refine x_getR (pc := 20) (x := 9) g hM dX12_spotAt_20 fl_12_56 (sm_0) rfl ?_
    refine x_iload_n (pc := 23) (i := 1) (a := 1) g dX12_spotAt_23 rfl rfl ?_
    refine x_iald (pc := 24) g hM dX12_spotAt_24 (sm_9) (fun j3 hj3 => ?_)
    refine x_goto (pc := 25) (t := 29) g dX12_spotAt_25 (by decide) ?_
    exact x_iret (pc := 29) g dX12_spotAt_29 rfl (fun _ h => h)
theorem c_M_spotAt (l : Launch) (G : xG) (hM : WM G) (m : xMem) (p0 : Int32) : xCim l G yX12_spotAt cX12_spotAt 2 (some .int) rm_M_spotAt [.ref (xad G 0), .int p0] m (M_spotAt m p0) :=
  xCt_of (own := RX12) (by decide) rfl (Nat.le_of_ble_eq_true rfl) rfl ⟨rfl, rfl⟩ (fun E g => T_M_spotAt hM g m p0)
theorem T_M_next {l : Launch} {G : xG} {E : xE} (hM : WM G) (g : xGood E l G.1 RX12 cX12_next yX12_next 1 (some .int) rm_M_next) (m : xMem) : X E G (fun r : Int32 × xMem => (some (Value.int r.1), r.2)) 0 [(0, .ref (xad G 0))] [] m (M_next m) := by
  unfold M_next
  refine x_aload_n (pc := 0) (i := 0) (a := 0) g dX12_next_0 rfl rfl ?_
  refine x_iconst (pc := 1) g dX12_next_1 ic_0 ?_
  refine x_putI (pc := 2) g hM dX12_next_2 fl_12_1 ft_12_0 (sm_0) rfl (fun m1 => ?_)
  refine x_aload_n (pc := 5) (i := 0) (a := 0) g dX12_next_5 rfl rfl ?_
  refine x_getI (pc := 6) g hM dX12_next_6 fl_12_65 (sm_0) rfl ?_
  exact x_iret (pc := 9) g dX12_next_9 rfl (fun _ h => h)
theorem c_M_next (l : Launch) (G : xG) (hM : WM G) (m : xMem) : xCim l G yX12_next cX12_next 1 (some .int) rm_M_next [.ref (xad G 0)] m (M_next m) :=
  xCt_of (own := RX12) (by decide) rfl (Nat.le_of_ble_eq_true rfl) rfl ⟨rfl, rfl⟩ (fun E g => T_M_next hM g m)
theorem T_M_isKeen_b54 {l : Launch} {G : xG} {E : xE} (hM : WM G) (g : xGood E l G.1 RX12 cX12_isKeen yX12_isKeen 4 (some .boolean) rm_M_isKeen) (m : xMem) (p0 : Int32) (k4 : Int32 → Int32 → Option (Int32)) (hk4 : ∀ (v2 : Int32) (v3 : Int32), X E G (fun r : Int32 => (some (Value.int r), m)) 4 [(0, .ref (xad G 0)), (1, .int p0), (2, .int v2), (3, .int v3)] [] m (k4 v2 v3)) (v3 : Int32) (s0 : Int32) (s1 : Int32) : X E G (fun r : Int32 => (some (Value.int r), m)) 54 [(0, .ref (xad G 0)), (1, .int p0), (3, .int v3)] [.int s0, .int s1] m (M_isKeen_b54 m p0 k4 v3 s0 s1) := by
  unfold M_isKeen_b54
  refine x_icmp_ne (pc := 54) (t := 61) g dX12_isKeen_54 (by decide) ?_ ?_
  · refine x_iconst (pc := 57) g dX12_isKeen_57 ic_1 ?_
    refine x_goto (pc := 58) (t := 62) g dX12_isKeen_58 (by decide) ?_
    refine x_istore_n (pc := 62) (i := 2) (lv' := [(2, .int 1), (0, .ref (xad G 0)), (1, .int p0), (3, .int v3)]) g dX12_isKeen_62 rfl (by decide) rfl ?_
    refine x_iinc (pc := 63) (a := 3) (lv' := [(3, .int (v3 + 3)), (2, .int 1), (0, .ref (xad G 0)), (1, .int p0)]) g dX12_isKeen_63 ic_3 rfl (by decide) rfl ?_
    refine x_goto (pc := 66) (t := 4) g dX12_isKeen_66 (by decide) ?_
    exact x_sub [2, 3, 1, 0] (hk4 1 (v3 + 3)) rfl
  · refine x_iconst (pc := 61) g dX12_isKeen_61 ic_0 ?_
    refine x_istore_n (pc := 62) (i := 2) (lv' := [(2, .int 0), (0, .ref (xad G 0)), (1, .int p0), (3, .int v3)]) g dX12_isKeen_62 rfl (by decide) rfl ?_
    refine x_iinc (pc := 63) (a := 3) (lv' := [(3, .int (v3 + 3)), (2, .int 0), (0, .ref (xad G 0)), (1, .int p0)]) g dX12_isKeen_63 ic_3 rfl (by decide) rfl ?_
    refine x_goto (pc := 66) (t := 4) g dX12_isKeen_66 (by decide) ?_
    exact x_sub [2, 3, 1, 0] (hk4 0 (v3 + 3)) rfl
theorem T_M_isKeen_b38 {l : Launch} {G : xG} {E : xE} (hM : WM G) (g : xGood E l G.1 RX12 cX12_isKeen yX12_isKeen 4 (some .boolean) rm_M_isKeen) (m : xMem) (p0 : Int32) (k4 : Int32 → Int32 → Option (Int32)) (hk4 : ∀ (v2 : Int32) (v3 : Int32), X E G (fun r : Int32 => (some (Value.int r), m)) 4 [(0, .ref (xad G 0)), (1, .int p0), (2, .int v2), (3, .int v3)] [] m (k4 v2 v3)) (v3 : Int32) (s0 : Int32) : X E G (fun r : Int32 => (some (Value.int r), m)) 38 [(0, .ref (xad G 0)), (1, .int p0), (3, .int v3)] [.int s0] m (M_isKeen_b38 m p0 k4 v3 s0) := by
  unfold M_isKeen_b38
  refine x_aload_n (pc := 38) (i := 0) (a := 0) g dX12_isKeen_38 rfl rfl ?_
  refine x_iload_n (pc := 39) (i := 3) (a := 2) g dX12_isKeen_39 rfl rfl ?_
  refine x_iconst (pc := 40) g dX12_isKeen_40 ic_2 ?_
  refine x_iadd (pc := 41) g dX12_isKeen_41 ?_
  refine x_Vi (pc := 42) g hM [.int (v3 + 2)] [.int s0] (c_M_octet l G hM m (v3 + 2)) dX12_isKeen_42 ml_12_408 (sm_0) rfl rfl (Nat.le_of_ble_eq_true rfl) ⟨rfl, rfl, Nat.le_of_ble_eq_true rfl, Nat.le_of_ble_eq_true rfl⟩ (fun r3 hr3 => ?_)
  refine x_iconst (pc := 45) g dX12_isKeen_45 ic_1 ?_
  refine x_icmp_ne (pc := 46) (t := 53) g dX12_isKeen_46 (by decide) ?_ ?_
  · refine x_iconst (pc := 49) g dX12_isKeen_49 ic_1 ?_
    refine x_goto (pc := 50) (t := 54) g dX12_isKeen_50 (by decide) ?_
    exact x_sub [0, 1, 2] (T_M_isKeen_b54 hM g m p0 k4 hk4 v3 1 s0) rfl
  · refine x_iconst (pc := 53) g dX12_isKeen_53 ic_0 ?_
    exact x_sub [0, 1, 2] (T_M_isKeen_b54 hM g m p0 k4 hk4 v3 0 s0) rfl
theorem T_M_isKeen_b4 {l : Launch} {G : xG} {E : xE} (hM : WM G) (g : xGood E l G.1 RX12 cX12_isKeen yX12_isKeen 4 (some .boolean) rm_M_isKeen) (m : xMem) (p0 : Int32) : ∀ (n : Nat) (v2 : Int32) (v3 : Int32), X E G (fun r : Int32 => (some (Value.int r), m)) 4 [(0, .ref (xad G 0)), (1, .int p0), (2, .int v2), (3, .int v3)] [] m (M_isKeen_b4 m p0 n v2 v3) := by
  intro n
  induction n with
  | zero => intro v2 v3; exact x_none
  | succ n ih =>
    intro v2 v3
    rw [M_isKeen_b4]
    refine x_iload_n (pc := 4) (i := 3) (a := 3) g dX12_isKeen_4 rfl rfl ?_
    refine x_aload_n (pc := 5) (i := 0) (a := 0) g dX12_isKeen_5 rfl rfl ?_
    refine x_getI (pc := 6) g hM dX12_isKeen_6 fl_12_18 (sm_0) rfl ?_
    refine x_icmp_ge (pc := 9) (t := 69) g dX12_isKeen_9 (by decide) ?_ ?_
    · refine x_iload_n (pc := 12) (i := 2) (a := 2) g dX12_isKeen_12 rfl rfl ?_
      refine x_if_eq (pc := 13) (t := 61) g dX12_isKeen_13 (by decide) ?_ ?_
      · refine x_iconst (pc := 61) g dX12_isKeen_61 ic_0 ?_
        refine x_istore_n (pc := 62) (i := 2) (lv' := [(2, .int 0), (0, .ref (xad G 0)), (1, .int p0), (3, .int v3)]) g dX12_isKeen_62 rfl (by decide) rfl ?_
        refine x_iinc (pc := 63) (a := 3) (lv' := [(3, .int (v3 + 3)), (2, .int 0), (0, .ref (xad G 0)), (1, .int p0)]) g dX12_isKeen_63 ic_3 rfl (by decide) rfl ?_
        refine x_goto (pc := 66) (t := 4) g dX12_isKeen_66 (by decide) ?_
        exact x_sub [2, 3, 1, 0] (ih 0 (v3 + 3)) rfl
      · refine x_aload_n (pc := 16) (i := 0) (a := 0) g dX12_isKeen_16 rfl rfl ?_
        refine x_iload_n (pc := 17) (i := 3) (a := 3) g dX12_isKeen_17 rfl rfl ?_
        refine x_Vi (pc := 18) g hM [.int v3] [] (c_M_octet l G hM m v3) dX12_isKeen_18 ml_12_408 (sm_0) rfl rfl (Nat.le_of_ble_eq_true rfl) ⟨rfl, rfl, Nat.le_of_ble_eq_true rfl, Nat.le_of_ble_eq_true rfl⟩ (fun r1 hr1 => ?_)
        refine x_aload_n (pc := 21) (i := 0) (a := 0) g dX12_isKeen_21 rfl rfl ?_
        refine x_iload_n (pc := 22) (i := 3) (a := 3) g dX12_isKeen_22 rfl rfl ?_
        refine x_iconst (pc := 23) g dX12_isKeen_23 ic_1 ?_
        refine x_iadd (pc := 24) g dX12_isKeen_24 ?_
        refine x_Vi (pc := 25) g hM [.int (v3 + 1)] [.int r1] (c_M_octet l G hM m (v3 + 1)) dX12_isKeen_25 ml_12_408 (sm_0) rfl rfl (Nat.le_of_ble_eq_true rfl) ⟨rfl, rfl, Nat.le_of_ble_eq_true rfl, Nat.le_of_ble_eq_true rfl⟩ (fun r2 hr2 => ?_)
        refine x_isub (pc := 28) g dX12_isKeen_28 ?_
        refine x_iload_n (pc := 29) (i := 1) (a := 1) g dX12_isKeen_29 rfl rfl ?_
        refine x_icmp_lt (pc := 30) (t := 37) g dX12_isKeen_30 (by decide) ?_ ?_
        · refine x_iconst (pc := 37) g dX12_isKeen_37 ic_0 ?_
          exact x_sub [0, 1, 3] (T_M_isKeen_b38 hM g m p0 (M_isKeen_b4 m p0 n) ih v3 0) rfl
        · refine x_iconst (pc := 33) g dX12_isKeen_33 ic_1 ?_
          refine x_goto (pc := 34) (t := 38) g dX12_isKeen_34 (by decide) ?_
          exact x_sub [0, 1, 3] (T_M_isKeen_b38 hM g m p0 (M_isKeen_b4 m p0 n) ih v3 1) rfl
    · refine x_iload_n (pc := 69) (i := 2) (a := 2) g dX12_isKeen_69 rfl rfl ?_
      exact x_zret (pc := 70) g dX12_isKeen_70 rfl (fun _ _ h => h)
theorem T_M_isKeen {l : Launch} {G : xG} {E : xE} (hM : WM G) (g : xGood E l G.1 RX12 cX12_isKeen yX12_isKeen 4 (some .boolean) rm_M_isKeen) (m : xMem) (p0 : Int32) : X E G (fun r : Int32 => (some (Value.int r), m)) 0 [(0, .ref (xad G 0)), (1, .int p0)] [] m (M_isKeen m p0) := by
  unfold M_isKeen
  refine x_iconst (pc := 0) g dX12_isKeen_0 ic_1 ?_
  refine x_istore_n (pc := 1) (i := 2) (lv' := [(2, .int 1), (0, .ref (xad G 0)), (1, .int p0)]) g dX12_isKeen_1 rfl (by decide) rfl ?_
  refine x_iconst (pc := 2) g dX12_isKeen_2 ic_0 ?_
  refine x_istore_n (pc := 3) (i := 3) (lv' := [(3, .int 0), (2, .int 1), (0, .ref (xad G 0)), (1, .int p0)]) g dX12_isKeen_3 rfl (by decide) rfl ?_
  exact x_sub [2, 3, 1, 0] (T_M_isKeen_b4 hM g m p0 1000 1 0) rfl
theorem c_M_isKeen (l : Launch) (G : xG) (hM : WM G) (m : xMem) (p0 : Int32) : xCi l G yX12_isKeen cX12_isKeen 4 (some .boolean) rm_M_isKeen [.ref (xad G 0), .int p0] m (M_isKeen m p0) :=
  xCt_of (own := RX12) (by decide) rfl (Nat.le_of_ble_eq_true rfl) rfl ⟨rfl, rfl⟩ (fun E g => T_M_isKeen hM g m p0)
theorem T_M_keen_b74 {l : Launch} {G : xG} {E : xE} (hM : WM G) (g : xGood E l G.1 RX12 cX12_keen yX12_keen 5 (some .int) rm_M_keen) : ∀ (n : Nat) (v1 : Int32) (v2 : Int32) (v3 : Int32) (v4 : Int32) (m : xMem), X E G (fun r : Int32 × xMem => (some (Value.int r.1), r.2)) 74 [(0, .ref (xad G 0)), (1, .int v1), (2, .int v2), (3, .int v3), (4, .int v4)] [] m (M_keen_b74 n v1 v2 v3 v4 m) := by
  intro n
  induction n with
  | zero => intro v1 v2 v3 v4 m; exact x_none
  | succ n ih =>
    intro v1 v2 v3 v4 m
    rw [M_keen_b74]
    refine x_iload (pc := 74) (a := 4) g dX12_keen_74 rfl ?_
    refine x_bipush (pc := 76) g dX12_keen_76 bi_20 ?_
    refine x_icmp_gt (pc := 78) (t := 116) g dX12_keen_78 (by decide) ?_ ?_
    · refine x_iload_n (pc := 116) (i := 1) (a := 1) g dX12_keen_116 rfl rfl ?_
      refine x_if_ne (pc := 117) (t := 122) g dX12_keen_117 (by decide) ?_ ?_
      · refine x_iconst (pc := 120) g dX12_keen_120 ic_0 ?_
        exact x_iret (pc := 121) g dX12_keen_121 rfl (fun _ h => h)
      · refine x_aload_n (pc := 122) (i := 0) (a := 0) g dX12_keen_122 rfl rfl ?_
        refine x_iconst (pc := 123) g dX12_keen_123 ic_1 ?_
        refine x_putZ (pc := 124) g hM dX12_keen_124 fl_12_427 ft_12_31 (sm_0) rfl (Or.inr rfl) (fun m5 => ?_)
        refine x_aload_n (pc := 127) (i := 0) (a := 0) g dX12_keen_127 rfl rfl ?_
        refine x_iload_n (pc := 128) (i := 2) (a := 2) g dX12_keen_128 rfl rfl ?_
        refine x_putI (pc := 129) g hM dX12_keen_129 fl_12_430 ft_12_29 (sm_0) rfl (fun m6 => ?_)
        refine x_aload_n (pc := 132) (i := 0) (a := 0) g dX12_keen_132 rfl rfl ?_
        refine x_iload_n (pc := 133) (i := 3) (a := 3) g dX12_keen_133 rfl rfl ?_
        refine x_putI (pc := 134) g hM dX12_keen_134 fl_12_433 ft_12_30 (sm_0) rfl (fun m7 => ?_)
        refine x_iload_n (pc := 137) (i := 1) (a := 1) g dX12_keen_137 rfl rfl ?_
        exact x_iret (pc := 138) g dX12_keen_138 rfl (fun _ h => h)
    · refine x_aload_n (pc := 81) (i := 0) (a := 0) g dX12_keen_81 rfl rfl ?_
      refine x_iload (pc := 82) (a := 4) g dX12_keen_82 rfl ?_
      refine x_Vi (pc := 84) g hM [.int v4] [] (c_M_isKeen l G hM m v4) dX12_keen_84 ml_12_424 (sm_0) rfl rfl (Nat.le_of_ble_eq_true rfl) ⟨rfl, rfl, Nat.le_of_ble_eq_true rfl, Nat.le_of_ble_eq_true rfl⟩ (fun r8 hr8 => ?_)
      refine x_if_ne (pc := 87) (t := 93) g dX12_keen_87 (by decide) ?_ ?_
      · refine x_goto (pc := 90) (t := 110) g dX12_keen_90 (by decide) ?_
        refine x_iinc (pc := 110) (a := 4) (lv' := [(4, .int (v4 + 1)), (0, .ref (xad G 0)), (1, .int v1), (2, .int v2), (3, .int v3)]) g dX12_keen_110 ic_1 rfl (by decide) rfl ?_
        refine x_goto (pc := 113) (t := 74) g dX12_keen_113 (by decide) ?_
        exact x_sub [1, 2, 3, 4, 0] (ih v1 v2 v3 (v4 + 1) m) rfl
      · refine x_iload_n (pc := 93) (i := 1) (a := 1) g dX12_keen_93 rfl rfl ?_
        refine x_if_ne (pc := 94) (t := 102) g dX12_keen_94 (by decide) ?_ ?_
        · refine x_iload (pc := 97) (a := 4) g dX12_keen_97 rfl ?_
          refine x_goto (pc := 99) (t := 103) g dX12_keen_99 (by decide) ?_
          refine x_istore_n (pc := 103) (i := 2) (lv' := [(2, .int v4), (0, .ref (xad G 0)), (1, .int v1), (3, .int v3), (4, .int v4)]) g dX12_keen_103 rfl (by decide) rfl ?_
          refine x_iload (pc := 104) (a := 4) g dX12_keen_104 rfl ?_
          refine x_istore_n (pc := 106) (i := 3) (lv' := [(3, .int v4), (2, .int v4), (0, .ref (xad G 0)), (1, .int v1), (4, .int v4)]) g dX12_keen_106 rfl (by decide) rfl ?_
          refine x_iinc (pc := 107) (a := 3) (lv' := [(1, .int (v1 + 1)), (3, .int v4), (2, .int v4), (0, .ref (xad G 0)), (4, .int v4)]) g dX12_keen_107 ic_1 rfl (by decide) rfl ?_
          refine x_iinc (pc := 110) (a := 4) (lv' := [(4, .int (v4 + 1)), (1, .int (v1 + 1)), (3, .int v4), (2, .int v4), (0, .ref (xad G 0))]) g dX12_keen_110 ic_1 rfl (by decide) rfl ?_
          refine x_goto (pc := 113) (t := 74) g dX12_keen_113 (by decide) ?_
          exact x_sub [4, 1, 3, 2, 0] (ih (v1 + 1) v4 v4 (v4 + 1) m) rfl
        · refine x_iload_n (pc := 102) (i := 2) (a := 2) g dX12_keen_102 rfl rfl ?_
          refine x_istore_n (pc := 103) (i := 2) (lv' := [(2, .int v2), (0, .ref (xad G 0)), (1, .int v1), (3, .int v3), (4, .int v4)]) g dX12_keen_103 rfl (by decide) rfl ?_
          refine x_iload (pc := 104) (a := 4) g dX12_keen_104 rfl ?_
          refine x_istore_n (pc := 106) (i := 3) (lv' := [(3, .int v4), (2, .int v2), (0, .ref (xad G 0)), (1, .int v1), (4, .int v4)]) g dX12_keen_106 rfl (by decide) rfl ?_
          refine x_iinc (pc := 107) (a := 3) (lv' := [(1, .int (v1 + 1)), (3, .int v4), (2, .int v2), (0, .ref (xad G 0)), (4, .int v4)]) g dX12_keen_107 ic_1 rfl (by decide) rfl ?_
          refine x_iinc (pc := 110) (a := 4) (lv' := [(4, .int (v4 + 1)), (1, .int (v1 + 1)), (3, .int v4), (2, .int v2), (0, .ref (xad G 0))]) g dX12_keen_110 ic_1 rfl (by decide) rfl ?_
          refine x_goto (pc := 113) (t := 74) g dX12_keen_113 (by decide) ?_
          exact x_sub [4, 1, 3, 2, 0] (ih (v1 + 1) v2 v4 (v4 + 1) m) rfl
theorem T_M_keen_b38 {l : Launch} {G : xG} {E : xE} (hM : WM G) (g : xGood E l G.1 RX12 cX12_keen yX12_keen 5 (some .int) rm_M_keen) : ∀ (n : Nat) (v1 : Int32) (m : xMem), X E G (fun r : Int32 × xMem => (some (Value.int r.1), r.2)) 38 [(0, .ref (xad G 0)), (1, .int v1)] [] m (M_keen_b38 n v1 m) := by
  intro n
  induction n with
  | zero => intro v1 m; exact x_none
  | succ n ih =>
    intro v1 m
    rw [M_keen_b38]
    refine x_iload_n (pc := 38) (i := 1) (a := 1) g dX12_keen_38 rfl rfl ?_
    refine x_aload_n (pc := 39) (i := 0) (a := 0) g dX12_keen_39 rfl rfl ?_
    refine x_getI (pc := 40) g hM dX12_keen_40 fl_12_18 (sm_0) rfl ?_
    refine x_icmp_ge (pc := 43) (t := 65) g dX12_keen_43 (by decide) ?_ ?_
    · refine x_aload_n (pc := 46) (i := 0) (a := 0) g dX12_keen_46 rfl rfl ?_
      refine x_iload_n (pc := 47) (i := 1) (a := 1) g dX12_keen_47 rfl rfl ?_
      refine x_iconst (pc := 48) g dX12_keen_48 ic_2 ?_
      refine x_iadd (pc := 49) g dX12_keen_49 ?_
      refine x_Vi (pc := 50) g hM [.int (v1 + 2)] [] (c_M_octet l G hM m (v1 + 2)) dX12_keen_50 ml_12_408 (sm_0) rfl rfl (Nat.le_of_ble_eq_true rfl) ⟨rfl, rfl, Nat.le_of_ble_eq_true rfl, Nat.le_of_ble_eq_true rfl⟩ (fun r4 hr4 => ?_)
      refine x_iconst (pc := 53) g dX12_keen_53 ic_1 ?_
      refine x_icmp_le (pc := 54) (t := 59) g dX12_keen_54 (by decide) ?_ ?_
      · refine x_iconst (pc := 57) g dX12_keen_57 ic_m1 ?_
        exact x_iret (pc := 58) g dX12_keen_58 rfl (fun _ h => h)
      · refine x_iinc (pc := 59) (a := 1) (lv' := [(1, .int (v1 + 3)), (0, .ref (xad G 0))]) g dX12_keen_59 ic_3 rfl (by decide) rfl ?_
        refine x_goto (pc := 62) (t := 38) g dX12_keen_62 (by decide) ?_
        exact x_sub [1, 0] (ih (v1 + 3) m) rfl
    · refine x_iconst (pc := 65) g dX12_keen_65 ic_0 ?_
      refine x_istore_n (pc := 66) (i := 1) (lv' := [(1, .int 0), (0, .ref (xad G 0))]) g dX12_keen_66 rfl (by decide) rfl ?_
      refine x_iconst (pc := 67) g dX12_keen_67 ic_m1 ?_
      refine x_istore_n (pc := 68) (i := 2) (lv' := [(2, .int ((-1))), (1, .int 0), (0, .ref (xad G 0))]) g dX12_keen_68 rfl (by decide) rfl ?_
      refine x_iconst (pc := 69) g dX12_keen_69 ic_m1 ?_
      refine x_istore_n (pc := 70) (i := 3) (lv' := [(3, .int ((-1))), (2, .int ((-1))), (1, .int 0), (0, .ref (xad G 0))]) g dX12_keen_70 rfl (by decide) rfl ?_
      refine x_iconst (pc := 71) g dX12_keen_71 ic_1 ?_
      refine x_istore (pc := 72) (lv' := [(4, .int 1), (3, .int ((-1))), (2, .int ((-1))), (1, .int 0), (0, .ref (xad G 0))]) g dX12_keen_72 (by decide) rfl ?_
      exact x_sub [4, 3, 2, 1, 0] (T_M_keen_b74 hM g 1000 0 ((-1)) ((-1)) 1 m) rfl
theorem T_M_keen {l : Launch} {G : xG} {E : xE} (hM : WM G) (g : xGood E l G.1 RX12 cX12_keen yX12_keen 5 (some .int) rm_M_keen) (m : xMem) : X E G (fun r : Int32 × xMem => (some (Value.int r.1), r.2)) 0 [(0, .ref (xad G 0))] [] m (M_keen m) := by
  unfold M_keen
  refine x_aload_n (pc := 0) (i := 0) (a := 0) g dX12_keen_0 rfl rfl ?_
  refine x_iconst (pc := 1) g dX12_keen_1 ic_0 ?_
  refine x_putI (pc := 2) g hM dX12_keen_2 fl_12_1 ft_12_0 (sm_0) rfl (fun m1 => ?_)
  refine x_aload_n (pc := 5) (i := 0) (a := 0) g dX12_keen_5 rfl rfl ?_
  refine x_sipush (pc := 6) g dX12_keen_6 si_940 ?_
  refine x_Vv (pc := 9) g hM [.int 940] [] (c_M_taken l G hM m1 940) dX12_keen_9 ml_12_295 (sm_0) rfl rfl (Nat.le_of_ble_eq_true rfl) ⟨rfl, rfl, Nat.le_of_ble_eq_true rfl, Nat.le_of_ble_eq_true rfl⟩ (fun r2 hr2 => ?_)
  refine x_aload_n (pc := 12) (i := 0) (a := 0) g dX12_keen_12 rfl rfl ?_
  refine x_getI (pc := 13) g hM dX12_keen_13 fl_12_18 (sm_0) rfl ?_
  refine x_iconst (pc := 16) g dX12_keen_16 ic_3 ?_
  refine x_bipush (pc := 17) g dX12_keen_17 bi_18 ?_
  refine x_Si (pc := 19) g [.int (r2.1 0 3), .int 3, .int 18] [] (c_M_isIn l G hM r2 (r2.1 0 3) 3 18) dX12_keen_19 ms_12_223 rfl rfl (Nat.le_of_ble_eq_true rfl) ⟨rfl, rfl, Nat.le_of_ble_eq_true rfl, Nat.le_of_ble_eq_true rfl⟩ (fun r3 hr3 => ?_)
  refine x_if_eq (pc := 22) (t := 34) g dX12_keen_22 (by decide) ?_ ?_
  · refine x_iconst (pc := 34) g dX12_keen_34 ic_m1 ?_
    exact x_iret (pc := 35) g dX12_keen_35 rfl (fun _ h => h)
  · refine x_aload_n (pc := 25) (i := 0) (a := 0) g dX12_keen_25 rfl rfl ?_
    refine x_getI (pc := 26) g hM dX12_keen_26 fl_12_18 (sm_0) rfl ?_
    refine x_iconst (pc := 29) g dX12_keen_29 ic_3 ?_
    refine x_irem (pc := 30) g dX12_keen_30 (by decide) ?_
    refine x_if_eq (pc := 31) (t := 36) g dX12_keen_31 (by decide) ?_ ?_
    · refine x_iconst (pc := 36) g dX12_keen_36 ic_0 ?_
      refine x_istore_n (pc := 37) (i := 1) (lv' := [(1, .int 0), (0, .ref (xad G 0))]) g dX12_keen_37 rfl (by decide) rfl ?_
      exact x_sub [1, 0] (T_M_keen_b38 hM g 1000 0 r2) rfl
    · refine x_iconst (pc := 34) g dX12_keen_34 ic_m1 ?_
      exact x_iret (pc := 35) g dX12_keen_35 rfl (fun _ h => h)
theorem c_M_keen (l : Launch) (G : xG) (hM : WM G) (m : xMem) : xCim l G yX12_keen cX12_keen 5 (some .int) rm_M_keen [.ref (xad G 0)] m (M_keen m) :=
  xCt_of (own := RX12) (by decide) rfl (Nat.le_of_ble_eq_true rfl) rfl ⟨rfl, rfl⟩ (fun E g => T_M_keen hM g m)
theorem T_M_keenLeast {l : Launch} {G : xG} {E : xE} (hM : WM G) (g : xGood E l G.1 RX12 cX12_keenLeast yX12_keenLeast 1 (some .int) rm_M_keenLeast) (m : xMem) : X E G (fun r : Int32 × xMem => (some (Value.int r.1), r.2)) 0 [(0, .ref (xad G 0))] [] m (M_keenLeast m) := by
  unfold M_keenLeast
  refine x_aload_n (pc := 0) (i := 0) (a := 0) g dX12_keenLeast_0 rfl rfl ?_
  refine x_iconst (pc := 1) g dX12_keenLeast_1 ic_0 ?_
  refine x_putI (pc := 2) g hM dX12_keenLeast_2 fl_12_1 ft_12_0 (sm_0) rfl (fun m1 => ?_)
  refine x_aload_n (pc := 5) (i := 0) (a := 0) g dX12_keenLeast_5 rfl rfl ?_
  refine x_getI (pc := 6) g hM dX12_keenLeast_6 fl_12_427 (sm_0) rfl ?_
  refine x_if_eq (pc := 9) (t := 19) g dX12_keenLeast_9 (by decide) ?_ ?_
  · refine x_iconst (pc := 19) g dX12_keenLeast_19 ic_m1 ?_
    exact x_iret (pc := 20) g dX12_keenLeast_20 rfl (fun _ h => h)
  · refine x_aload_n (pc := 12) (i := 0) (a := 0) g dX12_keenLeast_12 rfl rfl ?_
    refine x_getI (pc := 13) g hM dX12_keenLeast_13 fl_12_430 (sm_0) rfl ?_
    refine x_goto (pc := 16) (t := 20) g dX12_keenLeast_16 (by decide) ?_
    exact x_iret (pc := 20) g dX12_keenLeast_20 rfl (fun _ h => h)
theorem c_M_keenLeast (l : Launch) (G : xG) (hM : WM G) (m : xMem) : xCim l G yX12_keenLeast cX12_keenLeast 1 (some .int) rm_M_keenLeast [.ref (xad G 0)] m (M_keenLeast m) :=
  xCt_of (own := RX12) (by decide) rfl (Nat.le_of_ble_eq_true rfl) rfl ⟨rfl, rfl⟩ (fun E g => T_M_keenLeast hM g m)
theorem T_M_keenMost {l : Launch} {G : xG} {E : xE} (hM : WM G) (g : xGood E l G.1 RX12 cX12_keenMost yX12_keenMost 1 (some .int) rm_M_keenMost) (m : xMem) : X E G (fun r : Int32 × xMem => (some (Value.int r.1), r.2)) 0 [(0, .ref (xad G 0))] [] m (M_keenMost m) := by
  unfold M_keenMost
  refine x_aload_n (pc := 0) (i := 0) (a := 0) g dX12_keenMost_0 rfl rfl ?_
  refine x_iconst (pc := 1) g dX12_keenMost_1 ic_0 ?_
  refine x_putI (pc := 2) g hM dX12_keenMost_2 fl_12_1 ft_12_0 (sm_0) rfl (fun m1 => ?_)
  refine x_aload_n (pc := 5) (i := 0) (a := 0) g dX12_keenMost_5 rfl rfl ?_
  refine x_getI (pc := 6) g hM dX12_keenMost_6 fl_12_427 (sm_0) rfl ?_
  refine x_if_eq (pc := 9) (t := 19) g dX12_keenMost_9 (by decide) ?_ ?_
  · refine x_iconst (pc := 19) g dX12_keenMost_19 ic_m1 ?_
    exact x_iret (pc := 20) g dX12_keenMost_20 rfl (fun _ h => h)
  · refine x_aload_n (pc := 12) (i := 0) (a := 0) g dX12_keenMost_12 rfl rfl ?_
    refine x_getI (pc := 13) g hM dX12_keenMost_13 fl_12_433 (sm_0) rfl ?_
    refine x_goto (pc := 16) (t := 20) g dX12_keenMost_16 (by decide) ?_
    exact x_iret (pc := 20) g dX12_keenMost_20 rfl (fun _ h => h)
theorem c_M_keenMost (l : Launch) (G : xG) (hM : WM G) (m : xMem) : xCim l G yX12_keenMost cX12_keenMost 1 (some .int) rm_M_keenMost [.ref (xad G 0)] m (M_keenMost m) :=
  xCt_of (own := RX12) (by decide) rfl (Nat.le_of_ble_eq_true rfl) rfl ⟨rfl, rfl⟩ (fun E g => T_M_keenMost hM g m)
theorem T_M_laysWorths_b119 {l : Launch} {G : xG} {E : xE} (hM : WM G) (g : xGood E l G.1 RX12 cX12_laysWorths yX12_laysWorths 5 none rm_M_laysWorths) (k35 : Int32 → xMem → Option (xMem)) (hk35 : ∀ (v1 : Int32) (m : xMem), X E G (fun r : xMem => ((none : Option Value), r)) 35 [(0, .ref (xad G 0)), (1, .int v1)] [] m (k35 v1 m)) (k43 : Int32 → Int32 → xMem → Option (xMem)) (hk43 : ∀ (v1 : Int32) (v2 : Int32) (m : xMem), X E G (fun r : xMem => ((none : Option Value), r)) 43 [(0, .ref (xad G 0)), (1, .int v1), (2, .int v2)] [] m (k43 v1 v2 m)) (k55 : Int32 → Int32 → Int32 → xMem → Option (xMem)) (hk55 : ∀ (v1 : Int32) (v2 : Int32) (v3 : Int32) (m : xMem), X E G (fun r : xMem => ((none : Option Value), r)) 55 [(0, .ref (xad G 0)), (1, .int v1), (2, .int v2), (3, .int v3)] [] m (k55 v1 v2 v3 m)) (v1 : Int32) (v2 : Int32) (v3 : Int32) (s0 : Int32) (s1 : Int32) (s2 : Int32) (m : xMem) : X E G (fun r : xMem => ((none : Option Value), r)) 119 [(0, .ref (xad G 0)), (1, .int v1), (2, .int v2), (3, .int v3)] [.int s0, .int s1, .int s2, .ref (xad G 11)] m (M_laysWorths_b119 k35 k43 k55 v1 v2 v3 s0 s1 s2 m) := by
  unfold M_laysWorths_b119
  refine x_iadd (pc := 119) g dX12_laysWorths_119 ?_
  refine x_iast (pc := 120) g hM dX12_laysWorths_120 (sm_11) (fun j13 hj13 m12 => ?_)
  refine x_iinc (pc := 121) (a := 3) (lv' := [(3, .int (v3 + 1)), (0, .ref (xad G 0)), (1, .int v1), (2, .int v2)]) g dX12_laysWorths_121 ic_1 rfl (by decide) rfl ?_
  refine x_goto (pc := 124) (t := 55) g dX12_laysWorths_124 (by decide) ?_
  exact x_sub [1, 2, 3, 0] (hk55 v1 v2 (v3 + 1) m12) rfl
theorem T_M_laysWorths_b55 {l : Launch} {G : xG} {E : xE} (hM : WM G) (g : xGood E l G.1 RX12 cX12_laysWorths yX12_laysWorths 5 none rm_M_laysWorths) (k35 : Int32 → xMem → Option (xMem)) (hk35 : ∀ (v1 : Int32) (m : xMem), X E G (fun r : xMem => ((none : Option Value), r)) 35 [(0, .ref (xad G 0)), (1, .int v1)] [] m (k35 v1 m)) (k43 : Int32 → Int32 → xMem → Option (xMem)) (hk43 : ∀ (v1 : Int32) (v2 : Int32) (m : xMem), X E G (fun r : xMem => ((none : Option Value), r)) 43 [(0, .ref (xad G 0)), (1, .int v1), (2, .int v2)] [] m (k43 v1 v2 m)) : ∀ (n : Nat) (v1 : Int32) (v2 : Int32) (v3 : Int32) (m : xMem), X E G (fun r : xMem => ((none : Option Value), r)) 55 [(0, .ref (xad G 0)), (1, .int v1), (2, .int v2), (3, .int v3)] [] m (M_laysWorths_b55 k35 k43 n v1 v2 v3 m) := by
  intro n
  induction n with
  | zero => intro v1 v2 v3 m; exact x_none
  | succ n ih =>
    intro v1 v2 v3 m
    rw [M_laysWorths_b55]
    refine x_iload_n (pc := 55) (i := 3) (a := 3) g dX12_laysWorths_55 rfl rfl ?_
    refine x_aload_n (pc := 56) (i := 0) (a := 0) g dX12_laysWorths_56 rfl rfl ?_
    refine x_getR (pc := 57) (x := 2) g hM dX12_laysWorths_57 fl_12_33 (sm_0) rfl ?_
    refine x_iconst (pc := 60) g dX12_laysWorths_60 ic_0 ?_
    refine x_ialdc (pc := 61) g hM dX12_laysWorths_61 (sm_2) ix_0_302 ?_
    refine x_icmp_ge (pc := 62) (t := 127) g dX12_laysWorths_62 (by decide) ?_ ?_
    · refine x_aload_n (pc := 65) (i := 0) (a := 0) g dX12_laysWorths_65 rfl rfl ?_
      refine x_iload_n (pc := 66) (i := 2) (a := 2) g dX12_laysWorths_66 rfl rfl ?_
      refine x_iload_n (pc := 67) (i := 3) (a := 3) g dX12_laysWorths_67 rfl rfl ?_
      refine x_Vi (pc := 68) g hM [.int v2, .int v3] [] (c_M_seenBy l G hM m v2 v3) dX12_laysWorths_68 ml_12_352 (sm_0) rfl rfl (Nat.le_of_ble_eq_true rfl) ⟨rfl, rfl, Nat.le_of_ble_eq_true rfl, Nat.le_of_ble_eq_true rfl⟩ (fun r7 hr7 => ?_)
      refine x_istore (pc := 71) (lv' := [(4, .int r7), (0, .ref (xad G 0)), (1, .int v1), (2, .int v2), (3, .int v3)]) g dX12_laysWorths_71 (by decide) rfl ?_
      refine x_aload_n (pc := 73) (i := 0) (a := 1) g dX12_laysWorths_73 rfl rfl ?_
      refine x_getR (pc := 74) (x := 11) g hM dX12_laysWorths_74 fl_12_68 (sm_0) rfl ?_
      refine x_bipush (pc := 77) g dX12_laysWorths_77 bi_6 ?_
      refine x_iload_n (pc := 79) (i := 2) (a := 3) g dX12_laysWorths_79 rfl rfl ?_
      refine x_imul (pc := 80) g dX12_laysWorths_80 ?_
      refine x_iload_n (pc := 81) (i := 3) (a := 4) g dX12_laysWorths_81 rfl rfl ?_
      refine x_iadd (pc := 82) g dX12_laysWorths_82 ?_
      refine x_nmI (fun x8 => ?_)
      refine x_dup2 (pc := 83) g dX12_laysWorths_83 rfl rfl ?_
      refine x_iald (pc := 84) g hM dX12_laysWorths_84 (sm_11) (fun j9 hj9 => ?_)
      refine x_iload (pc := 85) (a := 0) g dX12_laysWorths_85 rfl ?_
      refine x_if_lt (pc := 87) (t := 118) g dX12_laysWorths_87 (by decide) ?_ ?_
      · refine x_iconst (pc := 118) g dX12_laysWorths_118 ic_0 ?_
        exact x_sub [1, 2, 3, 4] (T_M_laysWorths_b119 hM g k35 hk35 k43 hk43 (M_laysWorths_b55 k35 k43 n) ih v1 v2 v3 0 (m.1 11 j9) x8 m) rfl
      · refine x_aload_n (pc := 90) (i := 0) (a := 1) g dX12_laysWorths_90 rfl rfl ?_
        refine x_getR (pc := 91) (x := 2) g hM dX12_laysWorths_91 fl_12_33 (sm_0) rfl ?_
        refine x_bipush (pc := 94) g dX12_laysWorths_94 bi_49 ?_
        refine x_iload (pc := 96) (a := 0) g dX12_laysWorths_96 rfl ?_
        refine x_iadd (pc := 98) g dX12_laysWorths_98 ?_
        refine x_iald (pc := 99) g hM dX12_laysWorths_99 (sm_2) (fun j10 hj10 => ?_)
        refine x_aload_n (pc := 100) (i := 0) (a := 1) g dX12_laysWorths_100 rfl rfl ?_
        refine x_getR (pc := 101) (x := 2) g hM dX12_laysWorths_101 fl_12_33 (sm_0) rfl ?_
        refine x_bipush (pc := 104) g dX12_laysWorths_104 bi_19 ?_
        refine x_iload_n (pc := 106) (i := 3) (a := 4) g dX12_laysWorths_106 rfl rfl ?_
        refine x_iadd (pc := 107) g dX12_laysWorths_107 ?_
        refine x_iald (pc := 108) g hM dX12_laysWorths_108 (sm_2) (fun j11 hj11 => ?_)
        refine x_iconst (pc := 109) g dX12_laysWorths_109 ic_1 ?_
        refine x_isub (pc := 110) g dX12_laysWorths_110 ?_
        refine x_icmp_ne (pc := 111) (t := 118) g dX12_laysWorths_111 (by decide) ?_ ?_
        · refine x_iconst (pc := 114) g dX12_laysWorths_114 ic_1 ?_
          refine x_goto (pc := 115) (t := 119) g dX12_laysWorths_115 (by decide) ?_
          exact x_sub [1, 2, 3, 4] (T_M_laysWorths_b119 hM g k35 hk35 k43 hk43 (M_laysWorths_b55 k35 k43 n) ih v1 v2 v3 1 (m.1 11 j9) x8 m) rfl
        · refine x_iconst (pc := 118) g dX12_laysWorths_118 ic_0 ?_
          exact x_sub [1, 2, 3, 4] (T_M_laysWorths_b119 hM g k35 hk35 k43 hk43 (M_laysWorths_b55 k35 k43 n) ih v1 v2 v3 0 (m.1 11 j9) x8 m) rfl
    · refine x_iinc (pc := 127) (a := 2) (lv' := [(2, .int (v2 + 1)), (0, .ref (xad G 0)), (1, .int v1), (3, .int v3)]) g dX12_laysWorths_127 ic_1 rfl (by decide) rfl ?_
      refine x_goto (pc := 130) (t := 43) g dX12_laysWorths_130 (by decide) ?_
      exact x_sub [1, 2, 0] (hk43 v1 (v2 + 1) m) rfl
theorem T_M_laysWorths_b43 {l : Launch} {G : xG} {E : xE} (hM : WM G) (g : xGood E l G.1 RX12 cX12_laysWorths yX12_laysWorths 5 none rm_M_laysWorths) (k35 : Int32 → xMem → Option (xMem)) (hk35 : ∀ (v1 : Int32) (m : xMem), X E G (fun r : xMem => ((none : Option Value), r)) 35 [(0, .ref (xad G 0)), (1, .int v1)] [] m (k35 v1 m)) : ∀ (n : Nat) (v1 : Int32) (v2 : Int32) (m : xMem), X E G (fun r : xMem => ((none : Option Value), r)) 43 [(0, .ref (xad G 0)), (1, .int v1), (2, .int v2)] [] m (M_laysWorths_b43 k35 n v1 v2 m) := by
  intro n
  induction n with
  | zero => intro v1 v2 m; exact x_none
  | succ n ih =>
    intro v1 v2 m
    rw [M_laysWorths_b43]
    refine x_iload_n (pc := 43) (i := 2) (a := 2) g dX12_laysWorths_43 rfl rfl ?_
    refine x_aload_n (pc := 44) (i := 0) (a := 0) g dX12_laysWorths_44 rfl rfl ?_
    refine x_getR (pc := 45) (x := 2) g hM dX12_laysWorths_45 fl_12_33 (sm_0) rfl ?_
    refine x_iconst (pc := 48) g dX12_laysWorths_48 ic_1 ?_
    refine x_ialdc (pc := 49) g hM dX12_laysWorths_49 (sm_2) ix_1_302 ?_
    refine x_icmp_ge (pc := 50) (t := 133) g dX12_laysWorths_50 (by decide) ?_ ?_
    · refine x_iconst (pc := 53) g dX12_laysWorths_53 ic_0 ?_
      refine x_istore_n (pc := 54) (i := 3) (lv' := [(3, .int 0), (0, .ref (xad G 0)), (1, .int v1), (2, .int v2)]) g dX12_laysWorths_54 rfl (by decide) rfl ?_
      exact x_sub [1, 2, 3, 0] (T_M_laysWorths_b55 hM g k35 hk35 (M_laysWorths_b43 k35 n) ih 1000 v1 v2 0 m) rfl
    · refine x_aload_n (pc := 133) (i := 0) (a := 0) g dX12_laysWorths_133 rfl rfl ?_
      refine x_getR (pc := 134) (x := 2) g hM dX12_laysWorths_134 fl_12_33 (sm_0) rfl ?_
      refine x_bipush (pc := 137) g dX12_laysWorths_137 bi_97 ?_
      refine x_dup2 (pc := 139) g dX12_laysWorths_139 rfl rfl ?_
      refine x_ialdc (pc := 140) g hM dX12_laysWorths_140 (sm_2) ix_97_302 ?_
      refine x_iconst (pc := 141) g dX12_laysWorths_141 ic_1 ?_
      refine x_iadd (pc := 142) g dX12_laysWorths_142 ?_
      refine x_iastc (pc := 143) g hM dX12_laysWorths_143 (sm_2) ix_97_302 (fun m6 => ?_)
      refine x_iinc (pc := 144) (a := 1) (lv' := [(1, .int (v1 + 1)), (0, .ref (xad G 0)), (2, .int v2)]) g dX12_laysWorths_144 ic_1 rfl (by decide) rfl ?_
      refine x_goto (pc := 147) (t := 35) g dX12_laysWorths_147 (by decide) ?_
      exact x_sub [1, 0] (hk35 (v1 + 1) m6) rfl
theorem T_M_laysWorths_b35 {l : Launch} {G : xG} {E : xE} (hM : WM G) (g : xGood E l G.1 RX12 cX12_laysWorths yX12_laysWorths 5 none rm_M_laysWorths) : ∀ (n : Nat) (v1 : Int32) (m : xMem), X E G (fun r : xMem => ((none : Option Value), r)) 35 [(0, .ref (xad G 0)), (1, .int v1)] [] m (M_laysWorths_b35 n v1 m) := by
  intro n
  induction n with
  | zero => intro v1 m; exact x_none
  | succ n ih =>
    intro v1 m
    rw [M_laysWorths_b35]
    refine x_iload_n (pc := 35) (i := 1) (a := 1) g dX12_laysWorths_35 rfl rfl ?_
    refine x_bipush (pc := 36) g dX12_laysWorths_36 bi_24 ?_
    refine x_icmp_ge (pc := 38) (t := 150) g dX12_laysWorths_38 (by decide) ?_ ?_
    · refine x_iconst (pc := 41) g dX12_laysWorths_41 ic_0 ?_
      refine x_istore_n (pc := 42) (i := 2) (lv' := [(2, .int 0), (0, .ref (xad G 0)), (1, .int v1)]) g dX12_laysWorths_42 rfl (by decide) rfl ?_
      exact x_sub [1, 2, 0] (T_M_laysWorths_b43 hM g (M_laysWorths_b35 n) ih 1000 v1 0 m) rfl
    · refine x_aload_n (pc := 150) (i := 0) (a := 0) g dX12_laysWorths_150 rfl rfl ?_
      refine x_Vv (pc := 151) g hM [] [] (c_M_back l G hM m) dX12_laysWorths_151 ml_12_405 (sm_0) rfl rfl (Nat.le_of_ble_eq_true rfl) ⟨rfl, rfl, Nat.le_of_ble_eq_true rfl, Nat.le_of_ble_eq_true rfl⟩ (fun r5 hr5 => ?_)
      exact x_vret (pc := 154) g dX12_laysWorths_154 rfl (fun _ h => h)
theorem T_M_laysWorths_b14 {l : Launch} {G : xG} {E : xE} (hM : WM G) (g : xGood E l G.1 RX12 cX12_laysWorths yX12_laysWorths 5 none rm_M_laysWorths) : ∀ (n : Nat) (v1 : Int32) (m : xMem), X E G (fun r : xMem => ((none : Option Value), r)) 14 [(0, .ref (xad G 0)), (1, .int v1)] [] m (M_laysWorths_b14 n v1 m) := by
  intro n
  induction n with
  | zero => intro v1 m; exact x_none
  | succ n ih =>
    intro v1 m
    rw [M_laysWorths_b14]
    refine x_iload_n (pc := 14) (i := 1) (a := 1) g dX12_laysWorths_14 rfl rfl ?_
    refine x_bipush (pc := 15) g dX12_laysWorths_15 bi_36 ?_
    refine x_icmp_ge (pc := 17) (t := 33) g dX12_laysWorths_17 (by decide) ?_ ?_
    · refine x_aload_n (pc := 20) (i := 0) (a := 0) g dX12_laysWorths_20 rfl rfl ?_
      refine x_getR (pc := 21) (x := 11) g hM dX12_laysWorths_21 fl_12_68 (sm_0) rfl ?_
      refine x_iload_n (pc := 24) (i := 1) (a := 1) g dX12_laysWorths_24 rfl rfl ?_
      refine x_iconst (pc := 25) g dX12_laysWorths_25 ic_0 ?_
      refine x_iast (pc := 26) g hM dX12_laysWorths_26 (sm_11) (fun j4 hj4 m3 => ?_)
      refine x_iinc (pc := 27) (a := 1) (lv' := [(1, .int (v1 + 1)), (0, .ref (xad G 0))]) g dX12_laysWorths_27 ic_1 rfl (by decide) rfl ?_
      refine x_goto (pc := 30) (t := 14) g dX12_laysWorths_30 (by decide) ?_
      exact x_sub [1, 0] (ih (v1 + 1) m3) rfl
    · refine x_iconst (pc := 33) g dX12_laysWorths_33 ic_0 ?_
      refine x_istore_n (pc := 34) (i := 1) (lv' := [(1, .int 0), (0, .ref (xad G 0))]) g dX12_laysWorths_34 rfl (by decide) rfl ?_
      exact x_sub [1, 0] (T_M_laysWorths_b35 hM g 1000 0 m) rfl
theorem T_M_laysWorths {l : Launch} {G : xG} {E : xE} (hM : WM G) (g : xGood E l G.1 RX12 cX12_laysWorths yX12_laysWorths 5 none rm_M_laysWorths) (m : xMem) : X E G (fun r : xMem => ((none : Option Value), r)) 0 [(0, .ref (xad G 0))] [] m (M_laysWorths m) := by
  unfold M_laysWorths
  refine x_aload_n (pc := 0) (i := 0) (a := 0) g dX12_laysWorths_0 rfl rfl ?_
  refine x_Vv (pc := 1) g hM [] [] (c_M_tries l G hM m) dX12_laysWorths_1 ml_12_402 (sm_0) rfl rfl (Nat.le_of_ble_eq_true rfl) ⟨rfl, rfl, Nat.le_of_ble_eq_true rfl, Nat.le_of_ble_eq_true rfl⟩ (fun r1 hr1 => ?_)
  refine x_aload_n (pc := 4) (i := 0) (a := 0) g dX12_laysWorths_4 rfl rfl ?_
  refine x_getR (pc := 5) (x := 2) g hM dX12_laysWorths_5 fl_12_33 (sm_0) rfl ?_
  refine x_bipush (pc := 8) g dX12_laysWorths_8 bi_100 ?_
  refine x_iconst (pc := 10) g dX12_laysWorths_10 ic_0 ?_
  refine x_iastc (pc := 11) g hM dX12_laysWorths_11 (sm_2) ix_100_302 (fun m2 => ?_)
  refine x_iconst (pc := 12) g dX12_laysWorths_12 ic_0 ?_
  refine x_istore_n (pc := 13) (i := 1) (lv' := [(1, .int 0), (0, .ref (xad G 0))]) g dX12_laysWorths_13 rfl (by decide) rfl ?_
  exact x_sub [1, 0] (T_M_laysWorths_b14 hM g 1000 0 m2) rfl
theorem c_M_laysWorths (l : Launch) (G : xG) (hM : WM G) (m : xMem) : xCv l G yX12_laysWorths cX12_laysWorths 5 none rm_M_laysWorths [.ref (xad G 0)] m (M_laysWorths m) :=
  xCt_of (own := RX12) (by decide) rfl (Nat.le_of_ble_eq_true rfl) rfl ⟨rfl, rfl⟩ (fun E g => T_M_laysWorths hM g m)
theorem T_M_restBy {l : Launch} {G : xG} {E : xE} (hM : WM G) (g : xGood E l G.1 RX12 cX12_restBy yX12_restBy 4 (some .int) rm_M_restBy) (m : xMem) (p0 : Int32) (p1 : Int32) (p2 : Int32) : X E G (fun r : Int32 => (some (Value.int r), m)) 0 [(0, .ref (xad G 0)), (1, .int p0), (2, .int p1), (3, .int p2)] [] m (M_restBy m p0 p1 p2) := by
  unfold M_restBy
  refine x_aload_n (pc := 0) (i := 0) (a := 0) g dX12_restBy_0 rfl rfl ?_
  refine x_getR (pc := 1) (x := 11) g hM dX12_restBy_1 fl_12_68 (sm_0) rfl ?_
  refine x_bipush (pc := 4) g dX12_restBy_4 bi_6 ?_
  refine x_iload_n (pc := 6) (i := 1) (a := 1) g dX12_restBy_6 rfl rfl ?_
  refine x_imul (pc := 7) g dX12_restBy_7 ?_
  refine x_iload_n (pc := 8) (i := 3) (a := 3) g dX12_restBy_8 rfl rfl ?_
  refine x_iadd (pc := 9) g dX12_restBy_9 ?_
  refine x_iald (pc := 10) g hM dX12_restBy_10 (sm_11) (fun j1 hj1 => ?_)
  refine x_aload_n (pc := 11) (i := 0) (a := 0) g dX12_restBy_11 rfl rfl ?_
  refine x_getR (pc := 12) (x := 12) g hM dX12_restBy_12 fl_12_71 (sm_0) rfl ?_
  refine x_bipush (pc := 15) g dX12_restBy_15 bi_64 ?_
  refine x_iload_n (pc := 17) (i := 1) (a := 1) g dX12_restBy_17 rfl rfl ?_
  refine x_iconst (pc := 18) g dX12_restBy_18 ic_1 ?_
  refine x_iadd (pc := 19) g dX12_restBy_19 ?_
  refine x_imul (pc := 20) g dX12_restBy_20 ?_
  refine x_iload_n (pc := 21) (i := 2) (a := 2) g dX12_restBy_21 rfl rfl ?_
  refine x_iconst (pc := 22) g dX12_restBy_22 ic_1 ?_
  refine x_iload_n (pc := 23) (i := 3) (a := 3) g dX12_restBy_23 rfl rfl ?_
  refine x_ishl (pc := 24) g dX12_restBy_24 ?_
  refine x_ior (pc := 25) g dX12_restBy_25 ?_
  refine x_iadd (pc := 26) g dX12_restBy_26 ?_
  refine x_iald (pc := 27) g hM dX12_restBy_27 (sm_12) (fun j2 hj2 => ?_)
  refine x_iadd (pc := 28) g dX12_restBy_28 ?_
  exact x_iret (pc := 29) g dX12_restBy_29 rfl (fun _ h => h)
theorem c_M_restBy (l : Launch) (G : xG) (hM : WM G) (m : xMem) (p0 : Int32) (p1 : Int32) (p2 : Int32) : xCi l G yX12_restBy cX12_restBy 4 (some .int) rm_M_restBy [.ref (xad G 0), .int p0, .int p1, .int p2] m (M_restBy m p0 p1 p2) :=
  xCt_of (own := RX12) (by decide) rfl (Nat.le_of_ble_eq_true rfl) rfl ⟨rfl, rfl⟩ (fun E g => T_M_restBy hM g m p0 p1 p2)
theorem T_M_best_b68 {l : Launch} {G : xG} {E : xE} (hM : WM G) (g : xGood E l G.1 RX12 cX12_best yX12_best 5 (some .int) rm_M_best) (k49 : Int32 → xMem → Option (Int32 × xMem)) (hk49 : ∀ (v1 : Int32) (m : xMem), X E G (fun r : Int32 × xMem => (some (Value.int r.1), r.2)) 49 [(0, .ref (xad G 0)), (1, .int v1)] [] m (k49 v1 m)) (k55 : Int32 → Int32 → xMem → Option (Int32 × xMem)) (hk55 : ∀ (v1 : Int32) (v2 : Int32) (m : xMem), X E G (fun r : Int32 × xMem => (some (Value.int r.1), r.2)) 55 [(0, .ref (xad G 0)), (1, .int v1), (2, .int v2)] [] m (k55 v1 v2 m)) : ∀ (n : Nat) (v1 : Int32) (v2 : Int32) (v3 : Int32) (v4 : Int32) (m : xMem), X E G (fun r : Int32 × xMem => (some (Value.int r.1), r.2)) 68 [(0, .ref (xad G 0)), (1, .int v1), (2, .int v2), (3, .int v3), (4, .int v4)] [] m (M_best_b68 k49 k55 n v1 v2 v3 v4 m) := by
  intro n
  induction n with
  | zero => intro v1 v2 v3 v4 m; exact x_none
  | succ n ih =>
    intro v1 v2 v3 v4 m
    rw [M_best_b68]
    refine x_iload (pc := 68) (a := 4) g dX12_best_68 rfl ?_
    refine x_aload_n (pc := 70) (i := 0) (a := 0) g dX12_best_70 rfl rfl ?_
    refine x_getR (pc := 71) (x := 2) g hM dX12_best_71 fl_12_33 (sm_0) rfl ?_
    refine x_iconst (pc := 74) g dX12_best_74 ic_0 ?_
    refine x_ialdc (pc := 75) g hM dX12_best_75 (sm_2) ix_0_302 ?_
    refine x_icmp_ge (pc := 76) (t := 107) g dX12_best_76 (by decide) ?_ ?_
    · refine x_iload_n (pc := 79) (i := 2) (a := 2) g dX12_best_79 rfl rfl ?_
      refine x_iload (pc := 80) (a := 4) g dX12_best_80 rfl ?_
      refine x_Si (pc := 82) g [.int v2, .int v4] [] (c_M_bitOf l G hM m v2 v4) dX12_best_82 ms_12_292 rfl rfl (Nat.le_of_ble_eq_true rfl) ⟨rfl, rfl, Nat.le_of_ble_eq_true rfl, Nat.le_of_ble_eq_true rfl⟩ (fun r13 hr13 => ?_)
      refine x_if_ne (pc := 85) (t := 101) g dX12_best_85 (by decide) ?_ ?_
      · refine x_iload_n (pc := 88) (i := 3) (a := 3) g dX12_best_88 rfl rfl ?_
        refine x_aload_n (pc := 89) (i := 0) (a := 0) g dX12_best_89 rfl rfl ?_
        refine x_iload_n (pc := 90) (i := 1) (a := 1) g dX12_best_90 rfl rfl ?_
        refine x_iload_n (pc := 91) (i := 2) (a := 2) g dX12_best_91 rfl rfl ?_
        refine x_iload (pc := 92) (a := 4) g dX12_best_92 rfl ?_
        refine x_Vi (pc := 94) g hM [.int v1, .int v2, .int v4] [.int v3] (c_M_restBy l G hM m v1 v2 v4) dX12_best_94 ml_12_440 (sm_0) rfl rfl (Nat.le_of_ble_eq_true rfl) ⟨rfl, rfl, Nat.le_of_ble_eq_true rfl, Nat.le_of_ble_eq_true rfl⟩ (fun r14 hr14 => ?_)
        refine x_Si (pc := 97) g [.int v3, .int r14] [] (c_M_greater l G hM m v3 r14) dX12_best_97 ms_12_415 rfl rfl (Nat.le_of_ble_eq_true rfl) ⟨rfl, rfl, Nat.le_of_ble_eq_true rfl, Nat.le_of_ble_eq_true rfl⟩ (fun r15 hr15 => ?_)
        refine x_istore_n (pc := 100) (i := 3) (lv' := [(3, .int r15), (0, .ref (xad G 0)), (1, .int v1), (2, .int v2), (4, .int v4)]) g dX12_best_100 rfl (by decide) rfl ?_
        refine x_iinc (pc := 101) (a := 4) (lv' := [(4, .int (v4 + 1)), (3, .int r15), (0, .ref (xad G 0)), (1, .int v1), (2, .int v2)]) g dX12_best_101 ic_1 rfl (by decide) rfl ?_
        refine x_goto (pc := 104) (t := 68) g dX12_best_104 (by decide) ?_
        exact x_sub [2, 3, 4, 1, 0] (ih v1 v2 r15 (v4 + 1) m) rfl
      · refine x_iinc (pc := 101) (a := 4) (lv' := [(4, .int (v4 + 1)), (0, .ref (xad G 0)), (1, .int v1), (2, .int v2), (3, .int v3)]) g dX12_best_101 ic_1 rfl (by decide) rfl ?_
        refine x_goto (pc := 104) (t := 68) g dX12_best_104 (by decide) ?_
        exact x_sub [1, 2, 3, 4, 0] (ih v1 v2 v3 (v4 + 1) m) rfl
    · refine x_aload_n (pc := 107) (i := 0) (a := 0) g dX12_best_107 rfl rfl ?_
      refine x_getR (pc := 108) (x := 12) g hM dX12_best_108 fl_12_71 (sm_0) rfl ?_
      refine x_bipush (pc := 111) g dX12_best_111 bi_64 ?_
      refine x_iload_n (pc := 113) (i := 1) (a := 1) g dX12_best_113 rfl rfl ?_
      refine x_imul (pc := 114) g dX12_best_114 ?_
      refine x_iload_n (pc := 115) (i := 2) (a := 2) g dX12_best_115 rfl rfl ?_
      refine x_iadd (pc := 116) g dX12_best_116 ?_
      refine x_iload_n (pc := 117) (i := 3) (a := 3) g dX12_best_117 rfl rfl ?_
      refine x_iast (pc := 118) g hM dX12_best_118 (sm_12) (fun j17 hj17 m16 => ?_)
      refine x_iinc (pc := 119) (a := 2) (lv' := [(2, .int (v2 + 1)), (0, .ref (xad G 0)), (1, .int v1), (3, .int v3), (4, .int v4)]) g dX12_best_119 ic_1 rfl (by decide) rfl ?_
      refine x_goto (pc := 122) (t := 55) g dX12_best_122 (by decide) ?_
      exact x_sub [1, 2, 0] (hk55 v1 (v2 + 1) m16) rfl
theorem T_M_best_b55 {l : Launch} {G : xG} {E : xE} (hM : WM G) (g : xGood E l G.1 RX12 cX12_best yX12_best 5 (some .int) rm_M_best) (k49 : Int32 → xMem → Option (Int32 × xMem)) (hk49 : ∀ (v1 : Int32) (m : xMem), X E G (fun r : Int32 × xMem => (some (Value.int r.1), r.2)) 49 [(0, .ref (xad G 0)), (1, .int v1)] [] m (k49 v1 m)) : ∀ (n : Nat) (v1 : Int32) (v2 : Int32) (m : xMem), X E G (fun r : Int32 × xMem => (some (Value.int r.1), r.2)) 55 [(0, .ref (xad G 0)), (1, .int v1), (2, .int v2)] [] m (M_best_b55 k49 n v1 v2 m) := by
  intro n
  induction n with
  | zero => intro v1 v2 m; exact x_none
  | succ n ih =>
    intro v1 v2 m
    rw [M_best_b55]
    refine x_iload_n (pc := 55) (i := 2) (a := 2) g dX12_best_55 rfl rfl ?_
    refine x_bipush (pc := 56) g dX12_best_56 bi_64 ?_
    refine x_icmp_ge (pc := 58) (t := 125) g dX12_best_58 (by decide) ?_ ?_
    · refine x_ldcw (pc := 61) g dX12_best_61 kc_12_439 ?_
      refine x_istore_n (pc := 64) (i := 3) (lv' := [(3, .int ((-1000000))), (0, .ref (xad G 0)), (1, .int v1), (2, .int v2)]) g dX12_best_64 rfl (by decide) rfl ?_
      refine x_iconst (pc := 65) g dX12_best_65 ic_0 ?_
      refine x_istore (pc := 66) (lv' := [(4, .int 0), (3, .int ((-1000000))), (0, .ref (xad G 0)), (1, .int v1), (2, .int v2)]) g dX12_best_66 (by decide) rfl ?_
      exact x_sub [2, 3, 4, 1, 0] (T_M_best_b68 hM g k49 hk49 (M_best_b55 k49 n) ih 1000 v1 v2 ((-1000000)) 0 m) rfl
    · refine x_iinc (pc := 125) (a := 1) (lv' := [(1, .int (v1 + (-1))), (0, .ref (xad G 0)), (2, .int v2)]) g dX12_best_125 ic_m1 rfl (by decide) rfl ?_
      refine x_goto (pc := 128) (t := 49) g dX12_best_128 (by decide) ?_
      exact x_sub [1, 0] (hk49 (v1 + (-1)) m) rfl
theorem T_M_best_b155 {l : Launch} {G : xG} {E : xE} (hM : WM G) (g : xGood E l G.1 RX12 cX12_best yX12_best 5 (some .int) rm_M_best) (k145 : Int32 → Int32 → xMem → Option (Int32 × xMem)) (hk145 : ∀ (v1 : Int32) (v2 : Int32) (m : xMem), X E G (fun r : Int32 × xMem => (some (Value.int r.1), r.2)) 145 [(0, .ref (xad G 0)), (1, .int v1), (2, .int v2)] [] m (k145 v1 v2 m)) : ∀ (n : Nat) (v1 : Int32) (v2 : Int32) (v3 : Int32) (m : xMem), X E G (fun r : Int32 × xMem => (some (Value.int r.1), r.2)) 155 [(0, .ref (xad G 0)), (1, .int v1), (2, .int v2), (3, .int v3)] [] m (M_best_b155 k145 n v1 v2 v3 m) := by
  intro n
  induction n with
  | zero => intro v1 v2 v3 m; exact x_none
  | succ n ih =>
    intro v1 v2 v3 m
    rw [M_best_b155]
    refine x_iload_n (pc := 155) (i := 1) (a := 1) g dX12_best_155 rfl rfl ?_
    refine x_iload_n (pc := 156) (i := 3) (a := 3) g dX12_best_156 rfl rfl ?_
    refine x_Si (pc := 157) g [.int v1, .int v3] [] (c_M_bitOf l G hM m v1 v3) dX12_best_157 ms_12_292 rfl rfl (Nat.le_of_ble_eq_true rfl) ⟨rfl, rfl, Nat.le_of_ble_eq_true rfl, Nat.le_of_ble_eq_true rfl⟩ (fun r7 hr7 => ?_)
    refine x_if_ne (pc := 160) (t := 184) g dX12_best_160 (by decide) ?_ ?_
    · refine x_aload_n (pc := 163) (i := 0) (a := 0) g dX12_best_163 rfl rfl ?_
      refine x_iload_n (pc := 164) (i := 2) (a := 2) g dX12_best_164 rfl rfl ?_
      refine x_iload_n (pc := 165) (i := 1) (a := 1) g dX12_best_165 rfl rfl ?_
      refine x_iload_n (pc := 166) (i := 3) (a := 3) g dX12_best_166 rfl rfl ?_
      refine x_Vi (pc := 167) g hM [.int v2, .int v1, .int v3] [] (c_M_restBy l G hM m v2 v1 v3) dX12_best_167 ml_12_440 (sm_0) rfl rfl (Nat.le_of_ble_eq_true rfl) ⟨rfl, rfl, Nat.le_of_ble_eq_true rfl, Nat.le_of_ble_eq_true rfl⟩ (fun r8 hr8 => ?_)
      refine x_aload_n (pc := 170) (i := 0) (a := 0) g dX12_best_170 rfl rfl ?_
      refine x_getR (pc := 171) (x := 12) g hM dX12_best_171 fl_12_71 (sm_0) rfl ?_
      refine x_bipush (pc := 174) g dX12_best_174 bi_64 ?_
      refine x_iload_n (pc := 176) (i := 2) (a := 2) g dX12_best_176 rfl rfl ?_
      refine x_imul (pc := 177) g dX12_best_177 ?_
      refine x_iload_n (pc := 178) (i := 1) (a := 1) g dX12_best_178 rfl rfl ?_
      refine x_iadd (pc := 179) g dX12_best_179 ?_
      refine x_iald (pc := 180) g hM dX12_best_180 (sm_12) (fun j9 hj9 => ?_)
      refine x_icmp_eq (pc := 181) (t := 190) g dX12_best_181 (by decide) ?_ ?_
      · refine x_aload_n (pc := 190) (i := 0) (a := 0) g dX12_best_190 rfl rfl ?_
        refine x_getR (pc := 191) (x := 13) g hM dX12_best_191 fl_12_74 (sm_0) rfl ?_
        refine x_iload_n (pc := 194) (i := 2) (a := 2) g dX12_best_194 rfl rfl ?_
        refine x_iload_n (pc := 195) (i := 3) (a := 3) g dX12_best_195 rfl rfl ?_
        refine x_iast (pc := 196) g hM dX12_best_196 (sm_13) (fun j11 hj11 m10 => ?_)
        refine x_iload_n (pc := 197) (i := 1) (a := 1) g dX12_best_197 rfl rfl ?_
        refine x_iconst (pc := 198) g dX12_best_198 ic_1 ?_
        refine x_iload_n (pc := 199) (i := 3) (a := 3) g dX12_best_199 rfl rfl ?_
        refine x_ishl (pc := 200) g dX12_best_200 ?_
        refine x_ior (pc := 201) g dX12_best_201 ?_
        refine x_nmI (fun x12 => ?_)
        refine x_istore_n (pc := 202) (i := 1) (lv' := [(1, .int x12), (0, .ref (xad G 0)), (2, .int v2), (3, .int v3)]) g dX12_best_202 rfl (by decide) rfl ?_
        refine x_iinc (pc := 203) (a := 2) (lv' := [(2, .int (v2 + 1)), (1, .int x12), (0, .ref (xad G 0)), (3, .int v3)]) g dX12_best_203 ic_1 rfl (by decide) rfl ?_
        refine x_goto (pc := 206) (t := 145) g dX12_best_206 (by decide) ?_
        exact x_sub [2, 1, 0] (hk145 x12 (v2 + 1) m10) rfl
      · refine x_iinc (pc := 184) (a := 3) (lv' := [(3, .int (v3 + 1)), (0, .ref (xad G 0)), (1, .int v1), (2, .int v2)]) g dX12_best_184 ic_1 rfl (by decide) rfl ?_
        refine x_goto (pc := 187) (t := 155) g dX12_best_187 (by decide) ?_
        exact x_sub [1, 2, 3, 0] (ih v1 v2 (v3 + 1) m) rfl
    · refine x_iinc (pc := 184) (a := 3) (lv' := [(3, .int (v3 + 1)), (0, .ref (xad G 0)), (1, .int v1), (2, .int v2)]) g dX12_best_184 ic_1 rfl (by decide) rfl ?_
      refine x_goto (pc := 187) (t := 155) g dX12_best_187 (by decide) ?_
      exact x_sub [1, 2, 3, 0] (ih v1 v2 (v3 + 1) m) rfl
theorem T_M_best_b145 {l : Launch} {G : xG} {E : xE} (hM : WM G) (g : xGood E l G.1 RX12 cX12_best yX12_best 5 (some .int) rm_M_best) : ∀ (n : Nat) (v1 : Int32) (v2 : Int32) (m : xMem), X E G (fun r : Int32 × xMem => (some (Value.int r.1), r.2)) 145 [(0, .ref (xad G 0)), (1, .int v1), (2, .int v2)] [] m (M_best_b145 n v1 v2 m) := by
  intro n
  induction n with
  | zero => intro v1 v2 m; exact x_none
  | succ n ih =>
    intro v1 v2 m
    rw [M_best_b145]
    refine x_iload_n (pc := 145) (i := 2) (a := 2) g dX12_best_145 rfl rfl ?_
    refine x_aload_n (pc := 146) (i := 0) (a := 0) g dX12_best_146 rfl rfl ?_
    refine x_getI (pc := 147) g hM dX12_best_147 fl_12_77 (sm_0) rfl ?_
    refine x_icmp_ge (pc := 150) (t := 209) g dX12_best_150 (by decide) ?_ ?_
    · refine x_iconst (pc := 153) g dX12_best_153 ic_0 ?_
      refine x_istore_n (pc := 154) (i := 3) (lv' := [(3, .int 0), (0, .ref (xad G 0)), (1, .int v1), (2, .int v2)]) g dX12_best_154 rfl (by decide) rfl ?_
      exact x_sub [1, 2, 3, 0] (T_M_best_b155 hM g (M_best_b145 n) ih 1000 v1 v2 0 m) rfl
    · refine x_aload_n (pc := 209) (i := 0) (a := 0) g dX12_best_209 rfl rfl ?_
      refine x_getR (pc := 210) (x := 12) g hM dX12_best_210 fl_12_71 (sm_0) rfl ?_
      refine x_iconst (pc := 213) g dX12_best_213 ic_0 ?_
      refine x_ialdc (pc := 214) g hM dX12_best_214 (sm_12) ix_0_448 ?_
      exact x_iret (pc := 215) g dX12_best_215 rfl (fun _ h => h)
theorem T_M_best_b49 {l : Launch} {G : xG} {E : xE} (hM : WM G) (g : xGood E l G.1 RX12 cX12_best yX12_best 5 (some .int) rm_M_best) : ∀ (n : Nat) (v1 : Int32) (m : xMem), X E G (fun r : Int32 × xMem => (some (Value.int r.1), r.2)) 49 [(0, .ref (xad G 0)), (1, .int v1)] [] m (M_best_b49 n v1 m) := by
  intro n
  induction n with
  | zero => intro v1 m; exact x_none
  | succ n ih =>
    intro v1 m
    rw [M_best_b49]
    refine x_iload_n (pc := 49) (i := 1) (a := 1) g dX12_best_49 rfl rfl ?_
    refine x_if_lt (pc := 50) (t := 131) g dX12_best_50 (by decide) ?_ ?_
    · refine x_iconst (pc := 131) g dX12_best_131 ic_0 ?_
      refine x_istore_n (pc := 132) (i := 1) (lv' := [(1, .int 0), (0, .ref (xad G 0))]) g dX12_best_132 rfl (by decide) rfl ?_
      refine x_aload_n (pc := 133) (i := 0) (a := 1) g dX12_best_133 rfl rfl ?_
      refine x_aload_n (pc := 134) (i := 0) (a := 1) g dX12_best_134 rfl rfl ?_
      refine x_getR (pc := 135) (x := 2) g hM dX12_best_135 fl_12_33 (sm_0) rfl ?_
      refine x_iconst (pc := 138) g dX12_best_138 ic_1 ?_
      refine x_ialdc (pc := 139) g hM dX12_best_139 (sm_2) ix_1_302 ?_
      refine x_putI (pc := 140) g hM dX12_best_140 fl_12_77 ft_12_35 (sm_0) rfl (fun m6 => ?_)
      refine x_iconst (pc := 143) g dX12_best_143 ic_0 ?_
      refine x_istore_n (pc := 144) (i := 2) (lv' := [(2, .int 0), (1, .int 0), (0, .ref (xad G 0))]) g dX12_best_144 rfl (by decide) rfl ?_
      exact x_sub [2, 1, 0] (T_M_best_b145 hM g 1000 0 0 m6) rfl
    · refine x_iconst (pc := 53) g dX12_best_53 ic_0 ?_
      refine x_istore_n (pc := 54) (i := 2) (lv' := [(2, .int 0), (0, .ref (xad G 0)), (1, .int v1)]) g dX12_best_54 rfl (by decide) rfl ?_
      exact x_sub [1, 2, 0] (T_M_best_b55 hM g (M_best_b49 n) ih 1000 v1 0 m) rfl
theorem T_M_best_b11 {l : Launch} {G : xG} {E : xE} (hM : WM G) (g : xGood E l G.1 RX12 cX12_best yX12_best 5 (some .int) rm_M_best) : ∀ (n : Nat) (v1 : Int32) (m : xMem), X E G (fun r : Int32 × xMem => (some (Value.int r.1), r.2)) 11 [(0, .ref (xad G 0)), (1, .int v1)] [] m (M_best_b11 n v1 m) := by
  intro n
  induction n with
  | zero => intro v1 m; exact x_none
  | succ n ih =>
    intro v1 m
    rw [M_best_b11]
    refine x_iload_n (pc := 11) (i := 1) (a := 1) g dX12_best_11 rfl rfl ?_
    refine x_bipush (pc := 12) g dX12_best_12 bi_64 ?_
    refine x_icmp_ge (pc := 14) (t := 40) g dX12_best_14 (by decide) ?_ ?_
    · refine x_aload_n (pc := 17) (i := 0) (a := 0) g dX12_best_17 rfl rfl ?_
      refine x_getR (pc := 18) (x := 12) g hM dX12_best_18 fl_12_71 (sm_0) rfl ?_
      refine x_bipush (pc := 21) g dX12_best_21 bi_64 ?_
      refine x_aload_n (pc := 23) (i := 0) (a := 0) g dX12_best_23 rfl rfl ?_
      refine x_getR (pc := 24) (x := 2) g hM dX12_best_24 fl_12_33 (sm_0) rfl ?_
      refine x_iconst (pc := 27) g dX12_best_27 ic_1 ?_
      refine x_ialdc (pc := 28) g hM dX12_best_28 (sm_2) ix_1_302 ?_
      refine x_imul (pc := 29) g dX12_best_29 ?_
      refine x_iload_n (pc := 30) (i := 1) (a := 1) g dX12_best_30 rfl rfl ?_
      refine x_iadd (pc := 31) g dX12_best_31 ?_
      refine x_iconst (pc := 32) g dX12_best_32 ic_0 ?_
      refine x_iast (pc := 33) g hM dX12_best_33 (sm_12) (fun j4 hj4 m3 => ?_)
      refine x_iinc (pc := 34) (a := 1) (lv' := [(1, .int (v1 + 1)), (0, .ref (xad G 0))]) g dX12_best_34 ic_1 rfl (by decide) rfl ?_
      refine x_goto (pc := 37) (t := 11) g dX12_best_37 (by decide) ?_
      exact x_sub [1, 0] (ih (v1 + 1) m3) rfl
    · refine x_aload_n (pc := 40) (i := 0) (a := 0) g dX12_best_40 rfl rfl ?_
      refine x_getR (pc := 41) (x := 2) g hM dX12_best_41 fl_12_33 (sm_0) rfl ?_
      refine x_iconst (pc := 44) g dX12_best_44 ic_1 ?_
      refine x_ialdc (pc := 45) g hM dX12_best_45 (sm_2) ix_1_302 ?_
      refine x_iconst (pc := 46) g dX12_best_46 ic_1 ?_
      refine x_isub (pc := 47) g dX12_best_47 ?_
      refine x_nmI (fun x5 => ?_)
      refine x_istore_n (pc := 48) (i := 1) (lv' := [(1, .int x5), (0, .ref (xad G 0))]) g dX12_best_48 rfl (by decide) rfl ?_
      exact x_sub [1, 0] (T_M_best_b49 hM g 1000 x5 m) rfl
theorem T_M_best {l : Launch} {G : xG} {E : xE} (hM : WM G) (g : xGood E l G.1 RX12 cX12_best yX12_best 5 (some .int) rm_M_best) (m : xMem) : X E G (fun r : Int32 × xMem => (some (Value.int r.1), r.2)) 0 [(0, .ref (xad G 0))] [] m (M_best m) := by
  unfold M_best
  refine x_aload_n (pc := 0) (i := 0) (a := 0) g dX12_best_0 rfl rfl ?_
  refine x_iconst (pc := 1) g dX12_best_1 ic_0 ?_
  refine x_putI (pc := 2) g hM dX12_best_2 fl_12_1 ft_12_0 (sm_0) rfl (fun m1 => ?_)
  refine x_aload_n (pc := 5) (i := 0) (a := 0) g dX12_best_5 rfl rfl ?_
  refine x_Vv (pc := 6) g hM [] [] (c_M_laysWorths l G hM m1) dX12_best_6 ml_12_436 (sm_0) rfl rfl (Nat.le_of_ble_eq_true rfl) ⟨rfl, rfl, Nat.le_of_ble_eq_true rfl, Nat.le_of_ble_eq_true rfl⟩ (fun r2 hr2 => ?_)
  refine x_iconst (pc := 9) g dX12_best_9 ic_0 ?_
  refine x_istore_n (pc := 10) (i := 1) (lv' := [(1, .int 0), (0, .ref (xad G 0))]) g dX12_best_10 rfl (by decide) rfl ?_
  exact x_sub [1, 0] (T_M_best_b11 hM g 1000 0 r2) rfl
theorem c_M_best (l : Launch) (G : xG) (hM : WM G) (m : xMem) : xCim l G yX12_best cX12_best 5 (some .int) rm_M_best [.ref (xad G 0)] m (M_best m) :=
  xCt_of (own := RX12) (by decide) rfl (Nat.le_of_ble_eq_true rfl) rfl ⟨rfl, rfl⟩ (fun E g => T_M_best hM g m)
theorem T_M_bestAt {l : Launch} {G : xG} {E : xE} (hM : WM G) (g : xGood E l G.1 RX12 cX12_bestAt yX12_bestAt 2 (some .int) rm_M_bestAt) (m : xMem) (p0 : Int32) : X E G (fun r : Int32 × xMem => (some (Value.int r.1), r.2)) 0 [(0, .ref (xad G 0)), (1, .int p0)] [] m (M_bestAt m p0) := by
  unfold M_bestAt
  refine x_aload_n (pc := 0) (i := 0) (a := 0) g dX12_bestAt_0 rfl rfl ?_
  refine x_iconst (pc := 1) g dX12_bestAt_1 ic_0 ?_
  refine x_putI (pc := 2) g hM dX12_bestAt_2 fl_12_1 ft_12_0 (sm_0) rfl (fun m1 => ?_)
  refine x_iload_n (pc := 5) (i := 1) (a := 1) g dX12_bestAt_5 rfl rfl ?_
  refine x_iconst (pc := 6) g dX12_bestAt_6 ic_0 ?_
  refine x_aload_n (pc := 7) (i := 0) (a := 0) g dX12_bestAt_7 rfl rfl ?_
  refine x_getI (pc := 8) g hM dX12_bestAt_8 fl_12_77 (sm_0) rfl ?_
  refine x_iconst (pc := 11) g dX12_bestAt_11 ic_1 ?_
  refine x_isub (pc := 12) g dX12_bestAt_12 ?_
  refine x_Si (pc := 13) g [.int p0, .int 0, .int ((m1.1 0 35) - 1)] [] (c_M_isIn l G hM m1 p0 0 ((m1.1 0 35) - 1)) dX12_bestAt_13 ms_12_223 rfl rfl (Nat.le_of_ble_eq_true rfl) ⟨rfl, rfl, Nat.le_of_ble_eq_true rfl, Nat.le_of_ble_eq_true rfl⟩ (fun r2 hr2 => ?_)
  refine x_if_eq (pc := 16) (t := 28) g dX12_bestAt_16 (by decide) ?_ ?_
  · refine x_iconst (pc := 28) g dX12_bestAt_28 ic_m1 ?_
    exact x_iret (pc := 29) g dX12_bestAt_29 rfl (fun _ h => h)
  · refine x_aload_n (pc := 19) (i := 0) (a := 0) g dX12_bestAt_19 rfl rfl ?_
    refine x_getR (pc := 20) (x := 13) g hM dX12_bestAt_20 fl_12_74 (sm_0) rfl ?_
    refine x_iload_n (pc := 23) (i := 1) (a := 1) g dX12_bestAt_23 rfl rfl ?_
    refine x_iald (pc := 24) g hM dX12_bestAt_24 (sm_13) (fun j3 hj3 => ?_)
    refine x_goto (pc := 25) (t := 29) g dX12_bestAt_25 (by decide) ?_
    exact x_iret (pc := 29) g dX12_bestAt_29 rfl (fun _ h => h)
theorem c_M_bestAt (l : Launch) (G : xG) (hM : WM G) (m : xMem) (p0 : Int32) : xCim l G yX12_bestAt cX12_bestAt 2 (some .int) rm_M_bestAt [.ref (xad G 0), .int p0] m (M_bestAt m p0) :=
  xCt_of (own := RX12) (by decide) rfl (Nat.le_of_ble_eq_true rfl) rfl ⟨rfl, rfl⟩ (fun E g => T_M_bestAt hM g m p0)
theorem T_M_soundFor_b13 {l : Launch} {G : xG} {E : xE} (hM : WM G) (g : xGood E l G.1 RX12 cX12_soundFor yX12_soundFor 5 (some .int) rm_M_soundFor) (m : xMem) (p0 : Int32) (p1 : Int32) : ∀ (n : Nat) (v3 : Int32) (v4 : Int32), X E G (fun r : Int32 => (some (Value.int r), m)) 13 [(0, .ref (xad G 0)), (1, .int p0), (2, .int p1), (3, .int v3), (4, .int v4)] [] m (M_soundFor_b13 m p0 p1 n v3 v4) := by
  intro n
  induction n with
  | zero => intro v3 v4; exact x_none
  | succ n ih =>
    intro v3 v4
    rw [M_soundFor_b13]
    refine x_iload (pc := 13) (a := 4) g dX12_soundFor_13 rfl ?_
    refine x_aload_n (pc := 15) (i := 0) (a := 0) g dX12_soundFor_15 rfl rfl ?_
    refine x_getR (pc := 16) (x := 2) g hM dX12_soundFor_16 fl_12_33 (sm_0) rfl ?_
    refine x_iconst (pc := 19) g dX12_soundFor_19 ic_2 ?_
    refine x_ialdc (pc := 20) g hM dX12_soundFor_20 (sm_2) ix_2_302 ?_
    refine x_icmp_ge (pc := 21) (t := 73) g dX12_soundFor_21 (by decide) ?_ ?_
    · refine x_aload_n (pc := 24) (i := 0) (a := 0) g dX12_soundFor_24 rfl rfl ?_
      refine x_iload_n (pc := 25) (i := 1) (a := 1) g dX12_soundFor_25 rfl rfl ?_
      refine x_iload_n (pc := 26) (i := 3) (a := 3) g dX12_soundFor_26 rfl rfl ?_
      refine x_iload (pc := 27) (a := 4) g dX12_soundFor_27 rfl ?_
      refine x_Vi (pc := 29) g hM [.int p0, .int v3, .int v4] [] (c_M_hearsOne l G hM m p0 v3 v4) dX12_soundFor_29 ml_12_343 (sm_0) rfl rfl (Nat.le_of_ble_eq_true rfl) ⟨rfl, rfl, Nat.le_of_ble_eq_true rfl, Nat.le_of_ble_eq_true rfl⟩ (fun r3 hr3 => ?_)
      refine x_if_eq (pc := 32) (t := 67) g dX12_soundFor_32 (by decide) ?_ ?_
      · refine x_iinc (pc := 67) (a := 4) (lv' := [(4, .int (v4 + 1)), (0, .ref (xad G 0)), (1, .int p0), (2, .int p1), (3, .int v3)]) g dX12_soundFor_67 ic_1 rfl (by decide) rfl ?_
        refine x_goto (pc := 70) (t := 13) g dX12_soundFor_70 (by decide) ?_
        exact x_sub [1, 2, 3, 4, 0] (ih v3 (v4 + 1)) rfl
      · refine x_aload_n (pc := 35) (i := 0) (a := 0) g dX12_soundFor_35 rfl rfl ?_
        refine x_iload_n (pc := 36) (i := 3) (a := 3) g dX12_soundFor_36 rfl rfl ?_
        refine x_aload_n (pc := 37) (i := 0) (a := 0) g dX12_soundFor_37 rfl rfl ?_
        refine x_getR (pc := 38) (x := 2) g hM dX12_soundFor_38 fl_12_33 (sm_0) rfl ?_
        refine x_bipush (pc := 41) g dX12_soundFor_41 bi_57 ?_
        refine x_iload (pc := 43) (a := 4) g dX12_soundFor_43 rfl ?_
        refine x_iadd (pc := 45) g dX12_soundFor_45 ?_
        refine x_iald (pc := 46) g hM dX12_soundFor_46 (sm_2) (fun j4 hj4 => ?_)
        refine x_aload_n (pc := 47) (i := 0) (a := 0) g dX12_soundFor_47 rfl rfl ?_
        refine x_getR (pc := 48) (x := 2) g hM dX12_soundFor_48 fl_12_33 (sm_0) rfl ?_
        refine x_bipush (pc := 51) g dX12_soundFor_51 bi_65 ?_
        refine x_iload (pc := 53) (a := 4) g dX12_soundFor_53 rfl ?_
        refine x_iadd (pc := 55) g dX12_soundFor_55 ?_
        refine x_iald (pc := 56) g hM dX12_soundFor_56 (sm_2) (fun j5 hj5 => ?_)
        refine x_Vi (pc := 57) g hM [.int v3, .int (m.1 2 j4), .int (m.1 2 j5)] [] (c_M_sideOf l G hM m v3 (m.1 2 j4) (m.1 2 j5)) dX12_soundFor_57 ml_12_327 (sm_0) rfl rfl (Nat.le_of_ble_eq_true rfl) ⟨rfl, rfl, Nat.le_of_ble_eq_true rfl, Nat.le_of_ble_eq_true rfl⟩ (fun r6 hr6 => ?_)
        refine x_iload_n (pc := 60) (i := 2) (a := 2) g dX12_soundFor_60 rfl rfl ?_
        refine x_icmp_ne (pc := 61) (t := 67) g dX12_soundFor_61 (by decide) ?_ ?_
        · refine x_iload (pc := 64) (a := 4) g dX12_soundFor_64 rfl ?_
          exact x_iret (pc := 66) g dX12_soundFor_66 rfl (fun _ h => h)
        · refine x_iinc (pc := 67) (a := 4) (lv' := [(4, .int (v4 + 1)), (0, .ref (xad G 0)), (1, .int p0), (2, .int p1), (3, .int v3)]) g dX12_soundFor_67 ic_1 rfl (by decide) rfl ?_
          refine x_goto (pc := 70) (t := 13) g dX12_soundFor_70 (by decide) ?_
          exact x_sub [1, 2, 3, 4, 0] (ih v3 (v4 + 1)) rfl
    · refine x_iconst (pc := 73) g dX12_soundFor_73 ic_m1 ?_
      exact x_iret (pc := 74) g dX12_soundFor_74 rfl (fun _ h => h)
theorem T_M_soundFor {l : Launch} {G : xG} {E : xE} (hM : WM G) (g : xGood E l G.1 RX12 cX12_soundFor yX12_soundFor 5 (some .int) rm_M_soundFor) (m : xMem) (p0 : Int32) (p1 : Int32) : X E G (fun r : Int32 => (some (Value.int r), m)) 0 [(0, .ref (xad G 0)), (1, .int p0), (2, .int p1)] [] m (M_soundFor m p0 p1) := by
  unfold M_soundFor
  refine x_aload_n (pc := 0) (i := 0) (a := 0) g dX12_soundFor_0 rfl rfl ?_
  refine x_getR (pc := 1) (x := 2) g hM dX12_soundFor_1 fl_12_33 (sm_0) rfl ?_
  refine x_bipush (pc := 4) g dX12_soundFor_4 bi_103 ?_
  refine x_iload_n (pc := 6) (i := 1) (a := 1) g dX12_soundFor_6 rfl rfl ?_
  refine x_iadd (pc := 7) g dX12_soundFor_7 ?_
  refine x_iald (pc := 8) g hM dX12_soundFor_8 (sm_2) (fun j1 hj1 => ?_)
  refine x_nmI (fun x2 => ?_)
  refine x_istore_n (pc := 9) (i := 3) (lv' := [(3, .int x2), (0, .ref (xad G 0)), (1, .int p0), (2, .int p1)]) g dX12_soundFor_9 rfl (by decide) rfl ?_
  refine x_iconst (pc := 10) g dX12_soundFor_10 ic_0 ?_
  refine x_istore (pc := 11) (lv' := [(4, .int 0), (3, .int x2), (0, .ref (xad G 0)), (1, .int p0), (2, .int p1)]) g dX12_soundFor_11 (by decide) rfl ?_
  exact x_sub [2, 3, 4, 1, 0] (T_M_soundFor_b13 hM g m p0 p1 1000 x2 0) rfl
theorem c_M_soundFor (l : Launch) (G : xG) (hM : WM G) (m : xMem) (p0 : Int32) (p1 : Int32) : xCi l G yX12_soundFor cX12_soundFor 5 (some .int) rm_M_soundFor [.ref (xad G 0), .int p0, .int p1] m (M_soundFor m p0 p1) :=
  xCt_of (own := RX12) (by decide) rfl (Nat.le_of_ble_eq_true rfl) rfl ⟨rfl, rfl⟩ (fun E g => T_M_soundFor hM g m p0 p1)
theorem T_M_code_b106 {l : Launch} {G : xG} {E : xE} (hM : WM G) (g : xGood E l G.1 RX12 cX12_code yX12_code 3 (some .int) rm_M_code) (p0 : Int32) : ∀ (n : Nat) (v2 : Int32) (m : xMem), X E G (fun r : Int32 × xMem => (some (Value.int r.1), r.2)) 106 [(0, .ref (xad G 0)), (1, .int p0), (2, .int v2)] [] m (M_code_b106 p0 n v2 m) := by
  intro n
  induction n with
  | zero => intro v2 m; exact x_none
  | succ n ih =>
    intro v2 m
    rw [M_code_b106]
    refine x_iload_n (pc := 106) (i := 2) (a := 2) g dX12_code_106 rfl rfl ?_
    refine x_aload_n (pc := 107) (i := 0) (a := 0) g dX12_code_107 rfl rfl ?_
    refine x_getI (pc := 108) g hM dX12_code_108 fl_12_18 (sm_0) rfl ?_
    refine x_icmp_ge (pc := 111) (t := 136) g dX12_code_111 (by decide) ?_ ?_
    · refine x_aload_n (pc := 114) (i := 0) (a := 0) g dX12_code_114 rfl rfl ?_
      refine x_getR (pc := 115) (x := 14) g hM dX12_code_115 fl_12_80 (sm_0) rfl ?_
      refine x_iload_n (pc := 118) (i := 2) (a := 2) g dX12_code_118 rfl rfl ?_
      refine x_aload_n (pc := 119) (i := 0) (a := 0) g dX12_code_119 rfl rfl ?_
      refine x_iload_n (pc := 120) (i := 1) (a := 1) g dX12_code_120 rfl rfl ?_
      refine x_aload_n (pc := 121) (i := 0) (a := 0) g dX12_code_121 rfl rfl ?_
      refine x_iload_n (pc := 122) (i := 2) (a := 2) g dX12_code_122 rfl rfl ?_
      refine x_Vi (pc := 123) g hM [.int v2] [.int p0, .ref (xad G 0), .int v2, .ref (xad G 14)] (c_M_octet l G hM m v2) dX12_code_123 ml_12_408 (sm_0) rfl rfl (Nat.le_of_ble_eq_true rfl) ⟨rfl, rfl, Nat.le_of_ble_eq_true rfl, Nat.le_of_ble_eq_true rfl⟩ (fun r9 hr9 => ?_)
      refine x_Vi (pc := 126) g hM [.int p0, .int r9] [.int v2, .ref (xad G 14)] (c_M_soundFor l G hM m p0 r9) dX12_code_126 ml_12_443 (sm_0) rfl rfl (Nat.le_of_ble_eq_true rfl) ⟨rfl, rfl, Nat.le_of_ble_eq_true rfl, Nat.le_of_ble_eq_true rfl⟩ (fun r10 hr10 => ?_)
      refine x_iast (pc := 129) g hM dX12_code_129 (sm_14) (fun j12 hj12 m11 => ?_)
      refine x_iinc (pc := 130) (a := 2) (lv' := [(2, .int (v2 + 1)), (0, .ref (xad G 0)), (1, .int p0)]) g dX12_code_130 ic_1 rfl (by decide) rfl ?_
      refine x_goto (pc := 133) (t := 106) g dX12_code_133 (by decide) ?_
      exact x_sub [1, 2, 0] (ih (v2 + 1) m11) rfl
    · refine x_aload_n (pc := 136) (i := 0) (a := 0) g dX12_code_136 rfl rfl ?_
      refine x_getI (pc := 137) g hM dX12_code_137 fl_12_83 (sm_0) rfl ?_
      exact x_iret (pc := 140) g dX12_code_140 rfl (fun _ h => h)
theorem T_M_code_b64 {l : Launch} {G : xG} {E : xE} (hM : WM G) (g : xGood E l G.1 RX12 cX12_code yX12_code 3 (some .int) rm_M_code) (p0 : Int32) : ∀ (n : Nat) (v2 : Int32) (m : xMem), X E G (fun r : Int32 × xMem => (some (Value.int r.1), r.2)) 64 [(0, .ref (xad G 0)), (1, .int p0), (2, .int v2)] [] m (M_code_b64 p0 n v2 m) := by
  intro n
  induction n with
  | zero => intro v2 m; exact x_none
  | succ n ih =>
    intro v2 m
    rw [M_code_b64]
    refine x_iload_n (pc := 64) (i := 2) (a := 2) g dX12_code_64 rfl rfl ?_
    refine x_aload_n (pc := 65) (i := 0) (a := 0) g dX12_code_65 rfl rfl ?_
    refine x_getI (pc := 66) g hM dX12_code_66 fl_12_18 (sm_0) rfl ?_
    refine x_icmp_ge (pc := 69) (t := 96) g dX12_code_69 (by decide) ?_ ?_
    · refine x_aload_n (pc := 72) (i := 0) (a := 0) g dX12_code_72 rfl rfl ?_
      refine x_iload_n (pc := 73) (i := 1) (a := 1) g dX12_code_73 rfl rfl ?_
      refine x_aload_n (pc := 74) (i := 0) (a := 0) g dX12_code_74 rfl rfl ?_
      refine x_iload_n (pc := 75) (i := 2) (a := 2) g dX12_code_75 rfl rfl ?_
      refine x_Vi (pc := 76) g hM [.int v2] [.int p0, .ref (xad G 0)] (c_M_octet l G hM m v2) dX12_code_76 ml_12_408 (sm_0) rfl rfl (Nat.le_of_ble_eq_true rfl) ⟨rfl, rfl, Nat.le_of_ble_eq_true rfl, Nat.le_of_ble_eq_true rfl⟩ (fun r6 hr6 => ?_)
      refine x_Vi (pc := 79) g hM [.int p0, .int r6] [] (c_M_soundFor l G hM m p0 r6) dX12_code_79 ml_12_443 (sm_0) rfl rfl (Nat.le_of_ble_eq_true rfl) ⟨rfl, rfl, Nat.le_of_ble_eq_true rfl, Nat.le_of_ble_eq_true rfl⟩ (fun r7 hr7 => ?_)
      refine x_if_ge (pc := 82) (t := 90) g dX12_code_82 (by decide) ?_ ?_
      · refine x_bipush (pc := 85) g dX12_code_85 bi_m2 ?_
        refine x_iload_n (pc := 87) (i := 2) (a := 2) g dX12_code_87 rfl rfl ?_
        refine x_isub (pc := 88) g dX12_code_88 ?_
        exact x_iret (pc := 89) g dX12_code_89 rfl (fun _ h => h)
      · refine x_iinc (pc := 90) (a := 2) (lv' := [(2, .int (v2 + 1)), (0, .ref (xad G 0)), (1, .int p0)]) g dX12_code_90 ic_1 rfl (by decide) rfl ?_
        refine x_goto (pc := 93) (t := 64) g dX12_code_93 (by decide) ?_
        exact x_sub [1, 2, 0] (ih (v2 + 1) m) rfl
    · refine x_aload_n (pc := 96) (i := 0) (a := 0) g dX12_code_96 rfl rfl ?_
      refine x_aload_n (pc := 97) (i := 0) (a := 0) g dX12_code_97 rfl rfl ?_
      refine x_getI (pc := 98) g hM dX12_code_98 fl_12_18 (sm_0) rfl ?_
      refine x_putI (pc := 101) g hM dX12_code_101 fl_12_83 ft_12_37 (sm_0) rfl (fun m8 => ?_)
      refine x_iconst (pc := 104) g dX12_code_104 ic_0 ?_
      refine x_istore_n (pc := 105) (i := 2) (lv' := [(2, .int 0), (0, .ref (xad G 0)), (1, .int p0)]) g dX12_code_105 rfl (by decide) rfl ?_
      exact x_sub [1, 2, 0] (T_M_code_b106 hM g p0 1000 0 m8) rfl
theorem T_M_code_b37 {l : Launch} {G : xG} {E : xE} (hM : WM G) (g : xGood E l G.1 RX12 cX12_code yX12_code 3 (some .int) rm_M_code) (p0 : Int32) : ∀ (n : Nat) (v2 : Int32) (m : xMem), X E G (fun r : Int32 × xMem => (some (Value.int r.1), r.2)) 37 [(0, .ref (xad G 0)), (1, .int p0), (2, .int v2)] [] m (M_code_b37 p0 n v2 m) := by
  intro n
  induction n with
  | zero => intro v2 m; exact x_none
  | succ n ih =>
    intro v2 m
    rw [M_code_b37]
    refine x_iload_n (pc := 37) (i := 2) (a := 2) g dX12_code_37 rfl rfl ?_
    refine x_aload_n (pc := 38) (i := 0) (a := 0) g dX12_code_38 rfl rfl ?_
    refine x_getI (pc := 39) g hM dX12_code_39 fl_12_18 (sm_0) rfl ?_
    refine x_icmp_ge (pc := 42) (t := 62) g dX12_code_42 (by decide) ?_ ?_
    · refine x_aload_n (pc := 45) (i := 0) (a := 0) g dX12_code_45 rfl rfl ?_
      refine x_iload_n (pc := 46) (i := 2) (a := 2) g dX12_code_46 rfl rfl ?_
      refine x_Vi (pc := 47) g hM [.int v2] [] (c_M_octet l G hM m v2) dX12_code_47 ml_12_408 (sm_0) rfl rfl (Nat.le_of_ble_eq_true rfl) ⟨rfl, rfl, Nat.le_of_ble_eq_true rfl, Nat.le_of_ble_eq_true rfl⟩ (fun r5 hr5 => ?_)
      refine x_iconst (pc := 50) g dX12_code_50 ic_4 ?_
      refine x_icmp_le (pc := 51) (t := 56) g dX12_code_51 (by decide) ?_ ?_
      · refine x_iconst (pc := 54) g dX12_code_54 ic_m1 ?_
        exact x_iret (pc := 55) g dX12_code_55 rfl (fun _ h => h)
      · refine x_iinc (pc := 56) (a := 2) (lv' := [(2, .int (v2 + 1)), (0, .ref (xad G 0)), (1, .int p0)]) g dX12_code_56 ic_1 rfl (by decide) rfl ?_
        refine x_goto (pc := 59) (t := 37) g dX12_code_59 (by decide) ?_
        exact x_sub [1, 2, 0] (ih (v2 + 1) m) rfl
    · refine x_iconst (pc := 62) g dX12_code_62 ic_0 ?_
      refine x_istore_n (pc := 63) (i := 2) (lv' := [(2, .int 0), (0, .ref (xad G 0)), (1, .int p0)]) g dX12_code_63 rfl (by decide) rfl ?_
      exact x_sub [1, 2, 0] (T_M_code_b64 hM g p0 1000 0 m) rfl
theorem T_M_code {l : Launch} {G : xG} {E : xE} (hM : WM G) (g : xGood E l G.1 RX12 cX12_code yX12_code 3 (some .int) rm_M_code) (m : xMem) (p0 : Int32) : X E G (fun r : Int32 × xMem => (some (Value.int r.1), r.2)) 0 [(0, .ref (xad G 0)), (1, .int p0)] [] m (M_code m p0) := by
  unfold M_code
  refine x_aload_n (pc := 0) (i := 0) (a := 0) g dX12_code_0 rfl rfl ?_
  refine x_iconst (pc := 1) g dX12_code_1 ic_0 ?_
  refine x_putI (pc := 2) g hM dX12_code_2 fl_12_1 ft_12_0 (sm_0) rfl (fun m1 => ?_)
  refine x_aload_n (pc := 5) (i := 0) (a := 0) g dX12_code_5 rfl rfl ?_
  refine x_sipush (pc := 6) g dX12_code_6 si_940 ?_
  refine x_Vv (pc := 9) g hM [.int 940] [] (c_M_taken l G hM m1 940) dX12_code_9 ml_12_295 (sm_0) rfl rfl (Nat.le_of_ble_eq_true rfl) ⟨rfl, rfl, Nat.le_of_ble_eq_true rfl, Nat.le_of_ble_eq_true rfl⟩ (fun r2 hr2 => ?_)
  refine x_aload_n (pc := 12) (i := 0) (a := 0) g dX12_code_12 rfl rfl ?_
  refine x_iload_n (pc := 13) (i := 1) (a := 1) g dX12_code_13 rfl rfl ?_
  refine x_Vi (pc := 14) g hM [.int p0] [] (c_M_isOwl l G hM r2 p0) dX12_code_14 ml_12_365 (sm_0) rfl rfl (Nat.le_of_ble_eq_true rfl) ⟨rfl, rfl, Nat.le_of_ble_eq_true rfl, Nat.le_of_ble_eq_true rfl⟩ (fun r3 hr3 => ?_)
  refine x_if_eq (pc := 17) (t := 33) g dX12_code_17 (by decide) ?_ ?_
  · refine x_iconst (pc := 33) g dX12_code_33 ic_m1 ?_
    exact x_iret (pc := 34) g dX12_code_34 rfl (fun _ h => h)
  · refine x_aload_n (pc := 20) (i := 0) (a := 0) g dX12_code_20 rfl rfl ?_
    refine x_getI (pc := 21) g hM dX12_code_21 fl_12_18 (sm_0) rfl ?_
    refine x_iconst (pc := 24) g dX12_code_24 ic_1 ?_
    refine x_bipush (pc := 25) g dX12_code_25 bi_8 ?_
    refine x_Si (pc := 27) g [.int (r2.1 0 3), .int 1, .int 8] [] (c_M_isIn l G hM r2 (r2.1 0 3) 1 8) dX12_code_27 ms_12_223 rfl rfl (Nat.le_of_ble_eq_true rfl) ⟨rfl, rfl, Nat.le_of_ble_eq_true rfl, Nat.le_of_ble_eq_true rfl⟩ (fun r4 hr4 => ?_)
    refine x_if_ne (pc := 30) (t := 35) g dX12_code_30 (by decide) ?_ ?_
    · refine x_iconst (pc := 33) g dX12_code_33 ic_m1 ?_
      exact x_iret (pc := 34) g dX12_code_34 rfl (fun _ h => h)
    · refine x_iconst (pc := 35) g dX12_code_35 ic_0 ?_
      refine x_istore_n (pc := 36) (i := 2) (lv' := [(2, .int 0), (0, .ref (xad G 0)), (1, .int p0)]) g dX12_code_36 rfl (by decide) rfl ?_
      exact x_sub [1, 2, 0] (T_M_code_b37 hM g p0 1000 0 r2) rfl
theorem c_M_code (l : Launch) (G : xG) (hM : WM G) (m : xMem) (p0 : Int32) : xCim l G yX12_code cX12_code 3 (some .int) rm_M_code [.ref (xad G 0), .int p0] m (M_code m p0) :=
  xCt_of (own := RX12) (by decide) rfl (Nat.le_of_ble_eq_true rfl) rfl ⟨rfl, rfl⟩ (fun E g => T_M_code hM g m p0)
theorem T_M_codeAt {l : Launch} {G : xG} {E : xE} (hM : WM G) (g : xGood E l G.1 RX12 cX12_codeAt yX12_codeAt 2 (some .int) rm_M_codeAt) (m : xMem) (p0 : Int32) : X E G (fun r : Int32 × xMem => (some (Value.int r.1), r.2)) 0 [(0, .ref (xad G 0)), (1, .int p0)] [] m (M_codeAt m p0) := by
  unfold M_codeAt
  refine x_aload_n (pc := 0) (i := 0) (a := 0) g dX12_codeAt_0 rfl rfl ?_
  refine x_iconst (pc := 1) g dX12_codeAt_1 ic_0 ?_
  refine x_putI (pc := 2) g hM dX12_codeAt_2 fl_12_1 ft_12_0 (sm_0) rfl (fun m1 => ?_)
  refine x_iload_n (pc := 5) (i := 1) (a := 1) g dX12_codeAt_5 rfl rfl ?_
  refine x_iconst (pc := 6) g dX12_codeAt_6 ic_0 ?_
  refine x_aload_n (pc := 7) (i := 0) (a := 0) g dX12_codeAt_7 rfl rfl ?_
  refine x_getI (pc := 8) g hM dX12_codeAt_8 fl_12_83 (sm_0) rfl ?_
  refine x_iconst (pc := 11) g dX12_codeAt_11 ic_1 ?_
  refine x_isub (pc := 12) g dX12_codeAt_12 ?_
  refine x_Si (pc := 13) g [.int p0, .int 0, .int ((m1.1 0 37) - 1)] [] (c_M_isIn l G hM m1 p0 0 ((m1.1 0 37) - 1)) dX12_codeAt_13 ms_12_223 rfl rfl (Nat.le_of_ble_eq_true rfl) ⟨rfl, rfl, Nat.le_of_ble_eq_true rfl, Nat.le_of_ble_eq_true rfl⟩ (fun r2 hr2 => ?_)
  refine x_if_eq (pc := 16) (t := 28) g dX12_codeAt_16 (by decide) ?_ ?_
  · refine x_iconst (pc := 28) g dX12_codeAt_28 ic_m1 ?_
    exact x_iret (pc := 29) g dX12_codeAt_29 rfl (fun _ h => h)
  · refine x_aload_n (pc := 19) (i := 0) (a := 0) g dX12_codeAt_19 rfl rfl ?_
    refine x_getR (pc := 20) (x := 14) g hM dX12_codeAt_20 fl_12_80 (sm_0) rfl ?_
    refine x_iload_n (pc := 23) (i := 1) (a := 1) g dX12_codeAt_23 rfl rfl ?_
    refine x_iald (pc := 24) g hM dX12_codeAt_24 (sm_14) (fun j3 hj3 => ?_)
    refine x_goto (pc := 25) (t := 29) g dX12_codeAt_25 (by decide) ?_
    exact x_iret (pc := 29) g dX12_codeAt_29 rfl (fun _ h => h)
theorem c_M_codeAt (l : Launch) (G : xG) (hM : WM G) (m : xMem) (p0 : Int32) : xCim l G yX12_codeAt cX12_codeAt 2 (some .int) rm_M_codeAt [.ref (xad G 0), .int p0] m (M_codeAt m p0) :=
  xCt_of (own := RX12) (by decide) rfl (Nat.le_of_ble_eq_true rfl) rfl ⟨rfl, rfl⟩ (fun E g => T_M_codeAt hM g m p0)
theorem T_M_laysEnds_b61 {l : Launch} {G : xG} {E : xE} (hM : WM G) (g : xGood E l G.1 RX12 cX12_laysEnds yX12_laysEnds 4 none rm_M_laysEnds) (p0 : Int32) (p1 : Int32) (k6 : Int32 → xMem → Option (xMem)) (hk6 : ∀ (v3 : Int32) (m : xMem), X E G (fun r : xMem => ((none : Option Value), r)) 6 [(0, .ref (xad G 0)), (1, .int p0), (2, .int p1), (3, .int v3)] [] m (k6 v3 m)) (v3 : Int32) (s0 : Int32) (s1 : Int32) (m : xMem) : X E G (fun r : xMem => ((none : Option Value), r)) 61 [(0, .ref (xad G 0)), (1, .int p0), (2, .int p1), (3, .int v3)] [.int s0, .int s1, .ref (xad G 15)] m (M_laysEnds_b61 p0 p1 k6 v3 s0 s1 m) := by
  unfold M_laysEnds_b61
  refine x_zast (pc := 61) g hM dX12_laysEnds_61 (sm_15) (fun j7 hj7 m6 => ?_)
  refine x_iinc (pc := 62) (a := 3) (lv' := [(3, .int (v3 + 1)), (0, .ref (xad G 0)), (1, .int p0), (2, .int p1)]) g dX12_laysEnds_62 ic_1 rfl (by decide) rfl ?_
  refine x_goto (pc := 65) (t := 6) g dX12_laysEnds_65 (by decide) ?_
  exact x_sub [1, 2, 3, 0] (hk6 (v3 + 1) m6) rfl
theorem T_M_laysEnds_b6 {l : Launch} {G : xG} {E : xE} (hM : WM G) (g : xGood E l G.1 RX12 cX12_laysEnds yX12_laysEnds 4 none rm_M_laysEnds) (p0 : Int32) (p1 : Int32) : ∀ (n : Nat) (v3 : Int32) (m : xMem), X E G (fun r : xMem => ((none : Option Value), r)) 6 [(0, .ref (xad G 0)), (1, .int p0), (2, .int p1), (3, .int v3)] [] m (M_laysEnds_b6 p0 p1 n v3 m) := by
  intro n
  induction n with
  | zero => intro v3 m; exact x_none
  | succ n ih =>
    intro v3 m
    rw [M_laysEnds_b6]
    refine x_iload_n (pc := 6) (i := 3) (a := 3) g dX12_laysEnds_6 rfl rfl ?_
    refine x_iconst (pc := 7) g dX12_laysEnds_7 ic_1 ?_
    refine x_aload_n (pc := 8) (i := 0) (a := 0) g dX12_laysEnds_8 rfl rfl ?_
    refine x_getR (pc := 9) (x := 2) g hM dX12_laysEnds_9 fl_12_33 (sm_0) rfl ?_
    refine x_iconst (pc := 12) g dX12_laysEnds_12 ic_2 ?_
    refine x_ialdc (pc := 13) g hM dX12_laysEnds_13 (sm_2) ix_2_302 ?_
    refine x_ishl (pc := 14) g dX12_laysEnds_14 ?_
    refine x_icmp_ge (pc := 15) (t := 68) g dX12_laysEnds_15 (by decide) ?_ ?_
    · refine x_aload_n (pc := 18) (i := 0) (a := 0) g dX12_laysEnds_18 rfl rfl ?_
      refine x_getR (pc := 19) (x := 2) g hM dX12_laysEnds_19 fl_12_33 (sm_0) rfl ?_
      refine x_bipush (pc := 22) g dX12_laysEnds_22 bi_98 ?_
      refine x_aload_n (pc := 24) (i := 0) (a := 0) g dX12_laysEnds_24 rfl rfl ?_
      refine x_getR (pc := 25) (x := 8) g hM dX12_laysEnds_25 fl_12_53 (sm_0) rfl ?_
      refine x_iconst (pc := 28) g dX12_laysEnds_28 ic_1 ?_
      refine x_ialdc (pc := 29) g hM dX12_laysEnds_29 (sm_8) ix_1_24 ?_
      refine x_iload_n (pc := 30) (i := 3) (a := 3) g dX12_laysEnds_30 rfl rfl ?_
      refine x_ior (pc := 31) g dX12_laysEnds_31 ?_
      refine x_iastc (pc := 32) g hM dX12_laysEnds_32 (sm_2) ix_98_302 (fun m2 => ?_)
      refine x_aload_n (pc := 33) (i := 0) (a := 0) g dX12_laysEnds_33 rfl rfl ?_
      refine x_getR (pc := 34) (x := 15) g hM dX12_laysEnds_34 fl_12_86 (sm_0) rfl ?_
      refine x_iload_n (pc := 37) (i := 3) (a := 3) g dX12_laysEnds_37 rfl rfl ?_
      refine x_aload_n (pc := 38) (i := 0) (a := 0) g dX12_laysEnds_38 rfl rfl ?_
      refine x_iload_n (pc := 39) (i := 1) (a := 1) g dX12_laysEnds_39 rfl rfl ?_
      refine x_aload_n (pc := 40) (i := 0) (a := 0) g dX12_laysEnds_40 rfl rfl ?_
      refine x_getR (pc := 41) (x := 2) g hM dX12_laysEnds_41 fl_12_33 (sm_0) rfl ?_
      refine x_bipush (pc := 44) g dX12_laysEnds_44 bi_103 ?_
      refine x_iload_n (pc := 46) (i := 1) (a := 1) g dX12_laysEnds_46 rfl rfl ?_
      refine x_iadd (pc := 47) g dX12_laysEnds_47 ?_
      refine x_iald (pc := 48) g hM dX12_laysEnds_48 (sm_2) (fun j3 hj3 => ?_)
      refine x_Vi (pc := 49) g hM [.int p0, .int (m2.1 2 j3)] [.int v3, .ref (xad G 15)] (c_M_lookBy l G hM m2 p0 (m2.1 2 j3)) dX12_laysEnds_49 ml_12_368 (sm_0) rfl rfl (Nat.le_of_ble_eq_true rfl) ⟨rfl, rfl, Nat.le_of_ble_eq_true rfl, Nat.le_of_ble_eq_true rfl⟩ (fun r4 hr4 => ?_)
      refine x_iload_n (pc := 52) (i := 2) (a := 2) g dX12_laysEnds_52 rfl rfl ?_
      refine x_icmp_ne (pc := 53) (t := 60) g dX12_laysEnds_53 (by decide) ?_ ?_
      · refine x_iconst (pc := 56) g dX12_laysEnds_56 ic_1 ?_
        refine x_goto (pc := 57) (t := 61) g dX12_laysEnds_57 (by decide) ?_
        exact x_sub [0, 1, 2, 3] (T_M_laysEnds_b61 hM g p0 p1 (M_laysEnds_b6 p0 p1 n) ih v3 1 v3 m2) rfl
      · refine x_iconst (pc := 60) g dX12_laysEnds_60 ic_0 ?_
        exact x_sub [0, 1, 2, 3] (T_M_laysEnds_b61 hM g p0 p1 (M_laysEnds_b6 p0 p1 n) ih v3 0 v3 m2) rfl
    · refine x_aload_n (pc := 68) (i := 0) (a := 0) g dX12_laysEnds_68 rfl rfl ?_
      refine x_Vv (pc := 69) g hM [] [] (c_M_back l G hM m) dX12_laysEnds_69 ml_12_405 (sm_0) rfl rfl (Nat.le_of_ble_eq_true rfl) ⟨rfl, rfl, Nat.le_of_ble_eq_true rfl, Nat.le_of_ble_eq_true rfl⟩ (fun r5 hr5 => ?_)
      exact x_vret (pc := 72) g dX12_laysEnds_72 rfl (fun _ h => h)
theorem T_M_laysEnds {l : Launch} {G : xG} {E : xE} (hM : WM G) (g : xGood E l G.1 RX12 cX12_laysEnds yX12_laysEnds 4 none rm_M_laysEnds) (m : xMem) (p0 : Int32) (p1 : Int32) : X E G (fun r : xMem => ((none : Option Value), r)) 0 [(0, .ref (xad G 0)), (1, .int p0), (2, .int p1)] [] m (M_laysEnds m p0 p1) := by
  unfold M_laysEnds
  refine x_aload_n (pc := 0) (i := 0) (a := 0) g dX12_laysEnds_0 rfl rfl ?_
  refine x_Vv (pc := 1) g hM [] [] (c_M_tries l G hM m) dX12_laysEnds_1 ml_12_402 (sm_0) rfl rfl (Nat.le_of_ble_eq_true rfl) ⟨rfl, rfl, Nat.le_of_ble_eq_true rfl, Nat.le_of_ble_eq_true rfl⟩ (fun r1 hr1 => ?_)
  refine x_iconst (pc := 4) g dX12_laysEnds_4 ic_0 ?_
  refine x_istore_n (pc := 5) (i := 3) (lv' := [(3, .int 0), (0, .ref (xad G 0)), (1, .int p0), (2, .int p1)]) g dX12_laysEnds_5 rfl (by decide) rfl ?_
  exact x_sub [1, 2, 3, 0] (T_M_laysEnds_b6 hM g p0 p1 1000 0 r1) rfl
theorem c_M_laysEnds (l : Launch) (G : xG) (hM : WM G) (m : xMem) (p0 : Int32) (p1 : Int32) : xCv l G yX12_laysEnds cX12_laysEnds 4 none rm_M_laysEnds [.ref (xad G 0), .int p0, .int p1] m (M_laysEnds m p0 p1) :=
  xCt_of (own := RX12) (by decide) rfl (Nat.le_of_ble_eq_true rfl) rfl ⟨rfl, rfl⟩ (fun E g => T_M_laysEnds hM g m p0 p1)
theorem T_M_laysMove_b51 {l : Launch} {G : xG} {E : xE} (hM : WM G) (g : xGood E l G.1 RX12 cX12_laysMove yX12_laysMove 5 none rm_M_laysMove) (p0 : Int32) (k29 : Int32 → xMem → Option (xMem)) (hk29 : ∀ (v2 : Int32) (m : xMem), X E G (fun r : xMem => ((none : Option Value), r)) 29 [(0, .ref (xad G 0)), (1, .int p0), (2, .int v2)] [] m (k29 v2 m)) : ∀ (n : Nat) (v2 : Int32) (v3 : Int32) (v4 : Int32) (m : xMem), X E G (fun r : xMem => ((none : Option Value), r)) 51 [(0, .ref (xad G 0)), (1, .int p0), (2, .int v2), (3, .int v3), (4, .int v4)] [] m (M_laysMove_b51 p0 k29 n v2 v3 v4 m) := by
  intro n
  induction n with
  | zero => intro v2 v3 v4 m; exact x_none
  | succ n ih =>
    intro v2 v3 v4 m
    rw [M_laysMove_b51]
    refine x_iload (pc := 51) (a := 4) g dX12_laysMove_51 rfl ?_
    refine x_aload_n (pc := 53) (i := 0) (a := 0) g dX12_laysMove_53 rfl rfl ?_
    refine x_getR (pc := 54) (x := 2) g hM dX12_laysMove_54 fl_12_33 (sm_0) rfl ?_
    refine x_iconst (pc := 57) g dX12_laysMove_57 ic_2 ?_
    refine x_ialdc (pc := 58) g hM dX12_laysMove_58 (sm_2) ix_2_302 ?_
    refine x_icmp_ge (pc := 59) (t := 142) g dX12_laysMove_59 (by decide) ?_ ?_
    · refine x_iload_n (pc := 62) (i := 2) (a := 2) g dX12_laysMove_62 rfl rfl ?_
      refine x_aload_n (pc := 63) (i := 0) (a := 0) g dX12_laysMove_63 rfl rfl ?_
      refine x_getR (pc := 64) (x := 2) g hM dX12_laysMove_64 fl_12_33 (sm_0) rfl ?_
      refine x_bipush (pc := 67) g dX12_laysMove_67 bi_98 ?_
      refine x_ialdc (pc := 69) g hM dX12_laysMove_69 (sm_2) ix_98_302 ?_
      refine x_ior (pc := 70) g dX12_laysMove_70 ?_
      refine x_iload (pc := 71) (a := 4) g dX12_laysMove_71 rfl ?_
      refine x_Si (pc := 73) g [.int (v2 ||| (m.1 2 98)), .int v4] [] (c_M_bitOf l G hM m (v2 ||| (m.1 2 98)) v4) dX12_laysMove_73 ms_12_292 rfl rfl (Nat.le_of_ble_eq_true rfl) ⟨rfl, rfl, Nat.le_of_ble_eq_true rfl, Nat.le_of_ble_eq_true rfl⟩ (fun r6 hr6 => ?_)
      refine x_if_eq (pc := 76) (t := 82) g dX12_laysMove_76 (by decide) ?_ ?_
      · refine x_iload_n (pc := 82) (i := 1) (a := 1) g dX12_laysMove_82 rfl rfl ?_
        refine x_if_eq (pc := 83) (t := 112) g dX12_laysMove_83 (by decide) ?_ ?_
        · refine x_iload_n (pc := 112) (i := 3) (a := 3) g dX12_laysMove_112 rfl rfl ?_
          refine x_if_eq (pc := 113) (t := 134) g dX12_laysMove_113 (by decide) ?_ ?_
          · refine x_iconst (pc := 134) g dX12_laysMove_134 ic_0 ?_
            refine x_istore_n (pc := 135) (i := 3) (lv' := [(3, .int 0), (0, .ref (xad G 0)), (1, .int p0), (2, .int v2), (4, .int v4)]) g dX12_laysMove_135 rfl (by decide) rfl ?_
            refine x_iinc (pc := 136) (a := 4) (lv' := [(4, .int (v4 + 1)), (3, .int 0), (0, .ref (xad G 0)), (1, .int p0), (2, .int v2)]) g dX12_laysMove_136 ic_1 rfl (by decide) rfl ?_
            refine x_goto (pc := 139) (t := 51) g dX12_laysMove_139 (by decide) ?_
            exact x_sub [2, 3, 4, 1, 0] (ih v2 0 (v4 + 1) m) rfl
          · refine x_aload_n (pc := 116) (i := 0) (a := 0) g dX12_laysMove_116 rfl rfl ?_
            refine x_getR (pc := 117) (x := 16) g hM dX12_laysMove_117 fl_12_90 (sm_0) rfl ?_
            refine x_iload_n (pc := 120) (i := 2) (a := 2) g dX12_laysMove_120 rfl rfl ?_
            refine x_iconst (pc := 121) g dX12_laysMove_121 ic_1 ?_
            refine x_iload (pc := 122) (a := 4) g dX12_laysMove_122 rfl ?_
            refine x_ishl (pc := 124) g dX12_laysMove_124 ?_
            refine x_ior (pc := 125) g dX12_laysMove_125 ?_
            refine x_zald (pc := 126) g hM dX12_laysMove_126 (sm_16) (fun j7 hj7 => ?_)
            refine x_if_eq (pc := 127) (t := 134) g dX12_laysMove_127 (by decide) ?_ ?_
            · refine x_iconst (pc := 134) g dX12_laysMove_134 ic_0 ?_
              refine x_istore_n (pc := 135) (i := 3) (lv' := [(3, .int 0), (0, .ref (xad G 0)), (1, .int p0), (2, .int v2), (4, .int v4)]) g dX12_laysMove_135 rfl (by decide) rfl ?_
              refine x_iinc (pc := 136) (a := 4) (lv' := [(4, .int (v4 + 1)), (3, .int 0), (0, .ref (xad G 0)), (1, .int p0), (2, .int v2)]) g dX12_laysMove_136 ic_1 rfl (by decide) rfl ?_
              refine x_goto (pc := 139) (t := 51) g dX12_laysMove_139 (by decide) ?_
              exact x_sub [2, 3, 4, 1, 0] (ih v2 0 (v4 + 1) m) rfl
            · refine x_iconst (pc := 130) g dX12_laysMove_130 ic_1 ?_
              refine x_goto (pc := 131) (t := 135) g dX12_laysMove_131 (by decide) ?_
              refine x_istore_n (pc := 135) (i := 3) (lv' := [(3, .int 1), (0, .ref (xad G 0)), (1, .int p0), (2, .int v2), (4, .int v4)]) g dX12_laysMove_135 rfl (by decide) rfl ?_
              refine x_iinc (pc := 136) (a := 4) (lv' := [(4, .int (v4 + 1)), (3, .int 1), (0, .ref (xad G 0)), (1, .int p0), (2, .int v2)]) g dX12_laysMove_136 ic_1 rfl (by decide) rfl ?_
              refine x_goto (pc := 139) (t := 51) g dX12_laysMove_139 (by decide) ?_
              exact x_sub [2, 3, 4, 1, 0] (ih v2 1 (v4 + 1) m) rfl
        · refine x_iload_n (pc := 86) (i := 3) (a := 3) g dX12_laysMove_86 rfl rfl ?_
          refine x_if_ne (pc := 87) (t := 104) g dX12_laysMove_87 (by decide) ?_ ?_
          · refine x_aload_n (pc := 90) (i := 0) (a := 0) g dX12_laysMove_90 rfl rfl ?_
            refine x_getR (pc := 91) (x := 16) g hM dX12_laysMove_91 fl_12_90 (sm_0) rfl ?_
            refine x_iload_n (pc := 94) (i := 2) (a := 2) g dX12_laysMove_94 rfl rfl ?_
            refine x_iconst (pc := 95) g dX12_laysMove_95 ic_1 ?_
            refine x_iload (pc := 96) (a := 4) g dX12_laysMove_96 rfl ?_
            refine x_ishl (pc := 98) g dX12_laysMove_98 ?_
            refine x_ior (pc := 99) g dX12_laysMove_99 ?_
            refine x_zald (pc := 100) g hM dX12_laysMove_100 (sm_16) (fun j8 hj8 => ?_)
            refine x_if_eq (pc := 101) (t := 108) g dX12_laysMove_101 (by decide) ?_ ?_
            · refine x_iconst (pc := 108) g dX12_laysMove_108 ic_0 ?_
              refine x_goto (pc := 109) (t := 135) g dX12_laysMove_109 (by decide) ?_
              refine x_istore_n (pc := 135) (i := 3) (lv' := [(3, .int 0), (0, .ref (xad G 0)), (1, .int p0), (2, .int v2), (4, .int v4)]) g dX12_laysMove_135 rfl (by decide) rfl ?_
              refine x_iinc (pc := 136) (a := 4) (lv' := [(4, .int (v4 + 1)), (3, .int 0), (0, .ref (xad G 0)), (1, .int p0), (2, .int v2)]) g dX12_laysMove_136 ic_1 rfl (by decide) rfl ?_
              refine x_goto (pc := 139) (t := 51) g dX12_laysMove_139 (by decide) ?_
              exact x_sub [2, 3, 4, 1, 0] (ih v2 0 (v4 + 1) m) rfl
            · refine x_iconst (pc := 104) g dX12_laysMove_104 ic_1 ?_
              refine x_goto (pc := 105) (t := 135) g dX12_laysMove_105 (by decide) ?_
              refine x_istore_n (pc := 135) (i := 3) (lv' := [(3, .int 1), (0, .ref (xad G 0)), (1, .int p0), (2, .int v2), (4, .int v4)]) g dX12_laysMove_135 rfl (by decide) rfl ?_
              refine x_iinc (pc := 136) (a := 4) (lv' := [(4, .int (v4 + 1)), (3, .int 1), (0, .ref (xad G 0)), (1, .int p0), (2, .int v2)]) g dX12_laysMove_136 ic_1 rfl (by decide) rfl ?_
              refine x_goto (pc := 139) (t := 51) g dX12_laysMove_139 (by decide) ?_
              exact x_sub [2, 3, 4, 1, 0] (ih v2 1 (v4 + 1) m) rfl
          · refine x_iconst (pc := 104) g dX12_laysMove_104 ic_1 ?_
            refine x_goto (pc := 105) (t := 135) g dX12_laysMove_105 (by decide) ?_
            refine x_istore_n (pc := 135) (i := 3) (lv' := [(3, .int 1), (0, .ref (xad G 0)), (1, .int p0), (2, .int v2), (4, .int v4)]) g dX12_laysMove_135 rfl (by decide) rfl ?_
            refine x_iinc (pc := 136) (a := 4) (lv' := [(4, .int (v4 + 1)), (3, .int 1), (0, .ref (xad G 0)), (1, .int p0), (2, .int v2)]) g dX12_laysMove_136 ic_1 rfl (by decide) rfl ?_
            refine x_goto (pc := 139) (t := 51) g dX12_laysMove_139 (by decide) ?_
            exact x_sub [2, 3, 4, 1, 0] (ih v2 1 (v4 + 1) m) rfl
      · refine x_goto (pc := 79) (t := 136) g dX12_laysMove_79 (by decide) ?_
        refine x_iinc (pc := 136) (a := 4) (lv' := [(4, .int (v4 + 1)), (0, .ref (xad G 0)), (1, .int p0), (2, .int v2), (3, .int v3)]) g dX12_laysMove_136 ic_1 rfl (by decide) rfl ?_
        refine x_goto (pc := 139) (t := 51) g dX12_laysMove_139 (by decide) ?_
        exact x_sub [1, 2, 3, 4, 0] (ih v2 v3 (v4 + 1) m) rfl
    · refine x_aload_n (pc := 142) (i := 0) (a := 0) g dX12_laysMove_142 rfl rfl ?_
      refine x_getR (pc := 143) (x := 15) g hM dX12_laysMove_143 fl_12_86 (sm_0) rfl ?_
      refine x_iload_n (pc := 146) (i := 2) (a := 2) g dX12_laysMove_146 rfl rfl ?_
      refine x_iload_n (pc := 147) (i := 3) (a := 3) g dX12_laysMove_147 rfl rfl ?_
      refine x_zast (pc := 148) g hM dX12_laysMove_148 (sm_15) (fun j10 hj10 m9 => ?_)
      refine x_iinc (pc := 149) (a := 2) (lv' := [(2, .int (v2 + 1)), (0, .ref (xad G 0)), (1, .int p0), (3, .int v3), (4, .int v4)]) g dX12_laysMove_149 ic_1 rfl (by decide) rfl ?_
      refine x_goto (pc := 152) (t := 29) g dX12_laysMove_152 (by decide) ?_
      exact x_sub [1, 2, 0] (hk29 (v2 + 1) m9) rfl
theorem T_M_laysMove_b29 {l : Launch} {G : xG} {E : xE} (hM : WM G) (g : xGood E l G.1 RX12 cX12_laysMove yX12_laysMove 5 none rm_M_laysMove) (p0 : Int32) : ∀ (n : Nat) (v2 : Int32) (m : xMem), X E G (fun r : xMem => ((none : Option Value), r)) 29 [(0, .ref (xad G 0)), (1, .int p0), (2, .int v2)] [] m (M_laysMove_b29 p0 n v2 m) := by
  intro n
  induction n with
  | zero => intro v2 m; exact x_none
  | succ n ih =>
    intro v2 m
    rw [M_laysMove_b29]
    refine x_iload_n (pc := 29) (i := 2) (a := 2) g dX12_laysMove_29 rfl rfl ?_
    refine x_iconst (pc := 30) g dX12_laysMove_30 ic_1 ?_
    refine x_aload_n (pc := 31) (i := 0) (a := 0) g dX12_laysMove_31 rfl rfl ?_
    refine x_getR (pc := 32) (x := 2) g hM dX12_laysMove_32 fl_12_33 (sm_0) rfl ?_
    refine x_iconst (pc := 35) g dX12_laysMove_35 ic_2 ?_
    refine x_ialdc (pc := 36) g hM dX12_laysMove_36 (sm_2) ix_2_302 ?_
    refine x_ishl (pc := 37) g dX12_laysMove_37 ?_
    refine x_icmp_ge (pc := 38) (t := 155) g dX12_laysMove_38 (by decide) ?_ ?_
    · refine x_aload_n (pc := 41) (i := 0) (a := 0) g dX12_laysMove_41 rfl rfl ?_
      refine x_getR (pc := 42) (x := 16) g hM dX12_laysMove_42 fl_12_90 (sm_0) rfl ?_
      refine x_iload_n (pc := 45) (i := 2) (a := 2) g dX12_laysMove_45 rfl rfl ?_
      refine x_zald (pc := 46) g hM dX12_laysMove_46 (sm_16) (fun j4 hj4 => ?_)
      refine x_nmI (fun x5 => ?_)
      refine x_istore_n (pc := 47) (i := 3) (lv' := [(3, .int x5), (0, .ref (xad G 0)), (1, .int p0), (2, .int v2)]) g dX12_laysMove_47 rfl (by decide) rfl ?_
      refine x_iconst (pc := 48) g dX12_laysMove_48 ic_0 ?_
      refine x_istore (pc := 49) (lv' := [(4, .int 0), (3, .int x5), (0, .ref (xad G 0)), (1, .int p0), (2, .int v2)]) g dX12_laysMove_49 (by decide) rfl ?_
      exact x_sub [2, 3, 4, 1, 0] (T_M_laysMove_b51 hM g p0 (M_laysMove_b29 p0 n) ih 1000 v2 x5 0 m) rfl
    · exact x_vret (pc := 155) g dX12_laysMove_155 rfl (fun _ h => h)
theorem T_M_laysMove_b2 {l : Launch} {G : xG} {E : xE} (hM : WM G) (g : xGood E l G.1 RX12 cX12_laysMove yX12_laysMove 5 none rm_M_laysMove) (p0 : Int32) : ∀ (n : Nat) (v2 : Int32) (m : xMem), X E G (fun r : xMem => ((none : Option Value), r)) 2 [(0, .ref (xad G 0)), (1, .int p0), (2, .int v2)] [] m (M_laysMove_b2 p0 n v2 m) := by
  intro n
  induction n with
  | zero => intro v2 m; exact x_none
  | succ n ih =>
    intro v2 m
    rw [M_laysMove_b2]
    refine x_iload_n (pc := 2) (i := 2) (a := 2) g dX12_laysMove_2 rfl rfl ?_
    refine x_sipush (pc := 3) g dX12_laysMove_3 si_256 ?_
    refine x_icmp_ge (pc := 6) (t := 27) g dX12_laysMove_6 (by decide) ?_ ?_
    · refine x_aload_n (pc := 9) (i := 0) (a := 0) g dX12_laysMove_9 rfl rfl ?_
      refine x_getR (pc := 10) (x := 16) g hM dX12_laysMove_10 fl_12_90 (sm_0) rfl ?_
      refine x_iload_n (pc := 13) (i := 2) (a := 2) g dX12_laysMove_13 rfl rfl ?_
      refine x_aload_n (pc := 14) (i := 0) (a := 0) g dX12_laysMove_14 rfl rfl ?_
      refine x_getR (pc := 15) (x := 15) g hM dX12_laysMove_15 fl_12_86 (sm_0) rfl ?_
      refine x_iload_n (pc := 18) (i := 2) (a := 2) g dX12_laysMove_18 rfl rfl ?_
      refine x_zald (pc := 19) g hM dX12_laysMove_19 (sm_15) (fun j1 hj1 => ?_)
      refine x_zast (pc := 20) g hM dX12_laysMove_20 (sm_16) (fun j3 hj3 m2 => ?_)
      refine x_iinc (pc := 21) (a := 2) (lv' := [(2, .int (v2 + 1)), (0, .ref (xad G 0)), (1, .int p0)]) g dX12_laysMove_21 ic_1 rfl (by decide) rfl ?_
      refine x_goto (pc := 24) (t := 2) g dX12_laysMove_24 (by decide) ?_
      exact x_sub [1, 2, 0] (ih (v2 + 1) m2) rfl
    · refine x_iconst (pc := 27) g dX12_laysMove_27 ic_0 ?_
      refine x_istore_n (pc := 28) (i := 2) (lv' := [(2, .int 0), (0, .ref (xad G 0)), (1, .int p0)]) g dX12_laysMove_28 rfl (by decide) rfl ?_
      exact x_sub [1, 2, 0] (T_M_laysMove_b29 hM g p0 1000 0 m) rfl
theorem T_M_laysMove {l : Launch} {G : xG} {E : xE} (hM : WM G) (g : xGood E l G.1 RX12 cX12_laysMove yX12_laysMove 5 none rm_M_laysMove) (m : xMem) (p0 : Int32) : X E G (fun r : xMem => ((none : Option Value), r)) 0 [(0, .ref (xad G 0)), (1, .int p0)] [] m (M_laysMove m p0) := by
  unfold M_laysMove
  refine x_iconst (pc := 0) g dX12_laysMove_0 ic_0 ?_
  refine x_istore_n (pc := 1) (i := 2) (lv' := [(2, .int 0), (0, .ref (xad G 0)), (1, .int p0)]) g dX12_laysMove_1 rfl (by decide) rfl ?_
  exact x_sub [1, 2, 0] (T_M_laysMove_b2 hM g p0 1000 0 m) rfl
theorem c_M_laysMove (l : Launch) (G : xG) (hM : WM G) (m : xMem) (p0 : Int32) : xCv l G yX12_laysMove cX12_laysMove 5 none rm_M_laysMove [.ref (xad G 0), .int p0] m (M_laysMove m p0) :=
  xCt_of (own := RX12) (by decide) rfl (Nat.le_of_ble_eq_true rfl) rfl ⟨rfl, rfl⟩ (fun E g => T_M_laysMove hM g m p0)
theorem T_M_duel_b62 {l : Launch} {G : xG} {E : xE} (hM : WM G) (g : xGood E l G.1 RX12 cX12_duel yX12_duel 7 (some .int) rm_M_duel) (p0 : Int32) (p1 : Int32) (p2 : Int32) (k44 : Int32 → xMem → Option (Int32 × xMem)) (hk44 : ∀ (v4 : Int32) (m : xMem), X E G (fun r : Int32 × xMem => (some (Value.int r.1), r.2)) 44 [(0, .ref (xad G 0)), (4, .int v4)] [] m (k44 v4 m)) (v4 : Int32) (s0 : Int32) (m : xMem) : X E G (fun r : Int32 × xMem => (some (Value.int r.1), r.2)) 62 [(0, .ref (xad G 0)), (4, .int v4)] [.int s0, .ref (xad G 0)] m (M_duel_b62 p0 p1 p2 k44 v4 s0 m) := by
  unfold M_duel_b62
  refine x_Vv (pc := 62) g hM [.int s0] [] (c_M_laysMove l G hM m s0) dX12_duel_62 ml_12_450 (sm_0) rfl rfl (Nat.le_of_ble_eq_true rfl) ⟨rfl, rfl, Nat.le_of_ble_eq_true rfl, Nat.le_of_ble_eq_true rfl⟩ (fun r8 hr8 => ?_)
  refine x_iinc (pc := 65) (a := 1) (lv' := [(4, .int (v4 + (-1))), (0, .ref (xad G 0))]) g dX12_duel_65 ic_m1 rfl (by decide) rfl ?_
  refine x_goto (pc := 68) (t := 44) g dX12_duel_68 (by decide) ?_
  exact x_sub [1, 0] (hk44 (v4 + (-1)) r8) rfl
theorem T_M_duel_b85 {l : Launch} {G : xG} {E : xE} (hM : WM G) (g : xGood E l G.1 RX12 cX12_duel yX12_duel 7 (some .int) rm_M_duel) (p0 : Int32) (p1 : Int32) (p2 : Int32) : ∀ (n : Nat) (v4 : Int32) (v5 : Int32) (v6 : Int32) (m : xMem), X E G (fun r : Int32 × xMem => (some (Value.int r.1), r.2)) 85 [(0, .ref (xad G 0)), (4, .int v4), (5, .int v5), (6, .int v6)] [] m (M_duel_b85 p0 p1 p2 n v4 v5 v6 m) := by
  intro n
  induction n with
  | zero => intro v4 v5 v6 m; exact x_none
  | succ n ih =>
    intro v4 v5 v6 m
    rw [M_duel_b85]
    refine x_iload (pc := 85) (a := 3) g dX12_duel_85 rfl ?_
    refine x_aload_n (pc := 87) (i := 0) (a := 0) g dX12_duel_87 rfl rfl ?_
    refine x_getR (pc := 88) (x := 2) g hM dX12_duel_88 fl_12_33 (sm_0) rfl ?_
    refine x_iconst (pc := 91) g dX12_duel_91 ic_2 ?_
    refine x_ialdc (pc := 92) g hM dX12_duel_92 (sm_2) ix_2_302 ?_
    refine x_icmp_ge (pc := 93) (t := 144) g dX12_duel_93 (by decide) ?_ ?_
    · refine x_iload (pc := 96) (a := 1) g dX12_duel_96 rfl ?_
      refine x_if_ne (pc := 98) (t := 138) g dX12_duel_98 (by decide) ?_ ?_
      · refine x_aload_n (pc := 101) (i := 0) (a := 0) g dX12_duel_101 rfl rfl ?_
        refine x_getR (pc := 102) (x := 2) g hM dX12_duel_102 fl_12_33 (sm_0) rfl ?_
        refine x_bipush (pc := 105) g dX12_duel_105 bi_98 ?_
        refine x_ialdc (pc := 107) g hM dX12_duel_107 (sm_2) ix_98_302 ?_
        refine x_iload (pc := 108) (a := 3) g dX12_duel_108 rfl ?_
        refine x_Si (pc := 110) g [.int (m.1 2 98), .int v6] [] (c_M_bitOf l G hM m (m.1 2 98) v6) dX12_duel_110 ms_12_292 rfl rfl (Nat.le_of_ble_eq_true rfl) ⟨rfl, rfl, Nat.le_of_ble_eq_true rfl, Nat.le_of_ble_eq_true rfl⟩ (fun r9 hr9 => ?_)
        refine x_if_ne (pc := 113) (t := 138) g dX12_duel_113 (by decide) ?_ ?_
        · refine x_aload_n (pc := 116) (i := 0) (a := 0) g dX12_duel_116 rfl rfl ?_
          refine x_getR (pc := 117) (x := 15) g hM dX12_duel_117 fl_12_86 (sm_0) rfl ?_
          refine x_iconst (pc := 120) g dX12_duel_120 ic_1 ?_
          refine x_iload (pc := 121) (a := 3) g dX12_duel_121 rfl ?_
          refine x_ishl (pc := 123) g dX12_duel_123 ?_
          refine x_zald (pc := 124) g hM dX12_duel_124 (sm_15) (fun j10 hj10 => ?_)
          refine x_if_ne (pc := 125) (t := 131) g dX12_duel_125 (by decide) ?_ ?_
          · refine x_goto (pc := 128) (t := 138) g dX12_duel_128 (by decide) ?_
            refine x_iinc (pc := 138) (a := 3) (lv' := [(6, .int (v6 + 1)), (0, .ref (xad G 0)), (4, .int v4), (5, .int v5)]) g dX12_duel_138 ic_1 rfl (by decide) rfl ?_
            refine x_goto (pc := 141) (t := 85) g dX12_duel_141 (by decide) ?_
            exact x_sub [1, 2, 3, 0] (ih v4 v5 (v6 + 1) m) rfl
          · refine x_iconst (pc := 131) g dX12_duel_131 ic_1 ?_
            refine x_istore (pc := 132) (lv' := [(4, .int 1), (0, .ref (xad G 0)), (5, .int v5), (6, .int v6)]) g dX12_duel_132 (by decide) rfl ?_
            refine x_iload (pc := 134) (a := 3) g dX12_duel_134 rfl ?_
            refine x_istore (pc := 136) (lv' := [(5, .int v6), (4, .int 1), (0, .ref (xad G 0)), (6, .int v6)]) g dX12_duel_136 (by decide) rfl ?_
            refine x_iinc (pc := 138) (a := 3) (lv' := [(6, .int (v6 + 1)), (5, .int v6), (4, .int 1), (0, .ref (xad G 0))]) g dX12_duel_138 ic_1 rfl (by decide) rfl ?_
            refine x_goto (pc := 141) (t := 85) g dX12_duel_141 (by decide) ?_
            exact x_sub [3, 2, 1, 0] (ih 1 v6 (v6 + 1) m) rfl
        · refine x_iinc (pc := 138) (a := 3) (lv' := [(6, .int (v6 + 1)), (0, .ref (xad G 0)), (4, .int v4), (5, .int v5)]) g dX12_duel_138 ic_1 rfl (by decide) rfl ?_
          refine x_goto (pc := 141) (t := 85) g dX12_duel_141 (by decide) ?_
          exact x_sub [1, 2, 3, 0] (ih v4 v5 (v6 + 1) m) rfl
      · refine x_iinc (pc := 138) (a := 3) (lv' := [(6, .int (v6 + 1)), (0, .ref (xad G 0)), (4, .int v4), (5, .int v5)]) g dX12_duel_138 ic_1 rfl (by decide) rfl ?_
        refine x_goto (pc := 141) (t := 85) g dX12_duel_141 (by decide) ?_
        exact x_sub [1, 2, 3, 0] (ih v4 v5 (v6 + 1) m) rfl
    · refine x_aload_n (pc := 144) (i := 0) (a := 0) g dX12_duel_144 rfl rfl ?_
      refine x_iconst (pc := 145) g dX12_duel_145 ic_1 ?_
      refine x_putZ (pc := 146) g hM dX12_duel_146 fl_12_454 ft_12_41 (sm_0) rfl (Or.inr rfl) (fun m11 => ?_)
      refine x_aload_n (pc := 149) (i := 0) (a := 0) g dX12_duel_149 rfl rfl ?_
      refine x_iload (pc := 150) (a := 2) g dX12_duel_150 rfl ?_
      refine x_putI (pc := 152) g hM dX12_duel_152 fl_12_457 ft_12_40 (sm_0) rfl (fun m12 => ?_)
      refine x_iload (pc := 155) (a := 1) g dX12_duel_155 rfl ?_
      refine x_if_eq (pc := 157) (t := 164) g dX12_duel_157 (by decide) ?_ ?_
      · refine x_iconst (pc := 164) g dX12_duel_164 ic_0 ?_
        exact x_iret (pc := 165) g dX12_duel_165 rfl (fun _ h => h)
      · refine x_iconst (pc := 160) g dX12_duel_160 ic_1 ?_
        refine x_goto (pc := 161) (t := 165) g dX12_duel_161 (by decide) ?_
        exact x_iret (pc := 165) g dX12_duel_165 rfl (fun _ h => h)
theorem T_M_duel_b44 {l : Launch} {G : xG} {E : xE} (hM : WM G) (g : xGood E l G.1 RX12 cX12_duel yX12_duel 7 (some .int) rm_M_duel) (p0 : Int32) (p1 : Int32) (p2 : Int32) : ∀ (n : Nat) (v4 : Int32) (m : xMem), X E G (fun r : Int32 × xMem => (some (Value.int r.1), r.2)) 44 [(0, .ref (xad G 0)), (4, .int v4)] [] m (M_duel_b44 p0 p1 p2 n v4 m) := by
  intro n
  induction n with
  | zero => intro v4 m; exact x_none
  | succ n ih =>
    intro v4 m
    rw [M_duel_b44]
    refine x_iload (pc := 44) (a := 1) g dX12_duel_44 rfl ?_
    refine x_if_le (pc := 46) (t := 71) g dX12_duel_46 (by decide) ?_ ?_
    · refine x_aload_n (pc := 49) (i := 0) (a := 0) g dX12_duel_49 rfl rfl ?_
      refine x_iload (pc := 50) (a := 1) g dX12_duel_50 rfl ?_
      refine x_iconst (pc := 52) g dX12_duel_52 ic_2 ?_
      refine x_irem (pc := 53) g dX12_duel_53 (by decide) ?_
      refine x_if_ne (pc := 54) (t := 61) g dX12_duel_54 (by decide) ?_ ?_
      · refine x_iconst (pc := 57) g dX12_duel_57 ic_1 ?_
        refine x_goto (pc := 58) (t := 62) g dX12_duel_58 (by decide) ?_
        exact x_sub [0, 1] (T_M_duel_b62 hM g p0 p1 p2 (M_duel_b44 p0 p1 p2 n) ih v4 1 m) rfl
      · refine x_iconst (pc := 61) g dX12_duel_61 ic_0 ?_
        exact x_sub [0, 1] (T_M_duel_b62 hM g p0 p1 p2 (M_duel_b44 p0 p1 p2 n) ih v4 0 m) rfl
    · refine x_aload_n (pc := 71) (i := 0) (a := 0) g dX12_duel_71 rfl rfl ?_
      refine x_getR (pc := 72) (x := 15) g hM dX12_duel_72 fl_12_86 (sm_0) rfl ?_
      refine x_iconst (pc := 75) g dX12_duel_75 ic_0 ?_
      refine x_zaldc (pc := 76) g hM dX12_duel_76 (sm_15) ix_0_256 ?_
      refine x_nmI (fun x7 => ?_)
      refine x_istore (pc := 77) (lv' := [(4, .int x7), (0, .ref (xad G 0))]) g dX12_duel_77 (by decide) rfl ?_
      refine x_iconst (pc := 79) g dX12_duel_79 ic_m1 ?_
      refine x_istore (pc := 80) (lv' := [(5, .int ((-1))), (4, .int x7), (0, .ref (xad G 0))]) g dX12_duel_80 (by decide) rfl ?_
      refine x_iconst (pc := 82) g dX12_duel_82 ic_0 ?_
      refine x_istore (pc := 83) (lv' := [(6, .int 0), (5, .int ((-1))), (4, .int x7), (0, .ref (xad G 0))]) g dX12_duel_83 (by decide) rfl ?_
      exact x_sub [3, 2, 1, 0] (T_M_duel_b85 hM g p0 p1 p2 1000 x7 ((-1)) 0 m) rfl
theorem T_M_duel {l : Launch} {G : xG} {E : xE} (hM : WM G) (g : xGood E l G.1 RX12 cX12_duel yX12_duel 7 (some .int) rm_M_duel) (m : xMem) (p0 : Int32) (p1 : Int32) (p2 : Int32) : X E G (fun r : Int32 × xMem => (some (Value.int r.1), r.2)) 0 [(0, .ref (xad G 0)), (1, .int p0), (2, .int p1), (3, .int p2)] [] m (M_duel m p0 p1 p2) := by
  unfold M_duel
  refine x_aload_n (pc := 0) (i := 0) (a := 0) g dX12_duel_0 rfl rfl ?_
  refine x_iconst (pc := 1) g dX12_duel_1 ic_0 ?_
  refine x_putI (pc := 2) g hM dX12_duel_2 fl_12_1 ft_12_0 (sm_0) rfl (fun m1 => ?_)
  refine x_aload_n (pc := 5) (i := 0) (a := 0) g dX12_duel_5 rfl rfl ?_
  refine x_iload_n (pc := 6) (i := 1) (a := 1) g dX12_duel_6 rfl rfl ?_
  refine x_Vi (pc := 7) g hM [.int p0] [] (c_M_isOwl l G hM m1 p0) dX12_duel_7 ml_12_365 (sm_0) rfl rfl (Nat.le_of_ble_eq_true rfl) ⟨rfl, rfl, Nat.le_of_ble_eq_true rfl, Nat.le_of_ble_eq_true rfl⟩ (fun r2 hr2 => ?_)
  refine x_if_eq (pc := 10) (t := 31) g dX12_duel_10 (by decide) ?_ ?_
  · refine x_iconst (pc := 31) g dX12_duel_31 ic_m1 ?_
    exact x_iret (pc := 32) g dX12_duel_32 rfl (fun _ h => h)
  · refine x_iload_n (pc := 13) (i := 2) (a := 2) g dX12_duel_13 rfl rfl ?_
    refine x_iconst (pc := 14) g dX12_duel_14 ic_0 ?_
    refine x_iconst (pc := 15) g dX12_duel_15 ic_4 ?_
    refine x_Si (pc := 16) g [.int p1, .int 0, .int 4] [] (c_M_isIn l G hM m1 p1 0 4) dX12_duel_16 ms_12_223 rfl rfl (Nat.le_of_ble_eq_true rfl) ⟨rfl, rfl, Nat.le_of_ble_eq_true rfl, Nat.le_of_ble_eq_true rfl⟩ (fun r3 hr3 => ?_)
    refine x_if_eq (pc := 19) (t := 31) g dX12_duel_19 (by decide) ?_ ?_
    · refine x_iconst (pc := 31) g dX12_duel_31 ic_m1 ?_
      exact x_iret (pc := 32) g dX12_duel_32 rfl (fun _ h => h)
    · refine x_iload_n (pc := 22) (i := 3) (a := 3) g dX12_duel_22 rfl rfl ?_
      refine x_iconst (pc := 23) g dX12_duel_23 ic_1 ?_
      refine x_iconst (pc := 24) g dX12_duel_24 ic_4 ?_
      refine x_Si (pc := 25) g [.int p2, .int 1, .int 4] [] (c_M_isIn l G hM m1 p2 1 4) dX12_duel_25 ms_12_223 rfl rfl (Nat.le_of_ble_eq_true rfl) ⟨rfl, rfl, Nat.le_of_ble_eq_true rfl, Nat.le_of_ble_eq_true rfl⟩ (fun r4 hr4 => ?_)
      refine x_if_ne (pc := 28) (t := 33) g dX12_duel_28 (by decide) ?_ ?_
      · refine x_iconst (pc := 31) g dX12_duel_31 ic_m1 ?_
        exact x_iret (pc := 32) g dX12_duel_32 rfl (fun _ h => h)
      · refine x_aload_n (pc := 33) (i := 0) (a := 0) g dX12_duel_33 rfl rfl ?_
        refine x_iload_n (pc := 34) (i := 1) (a := 1) g dX12_duel_34 rfl rfl ?_
        refine x_iload_n (pc := 35) (i := 2) (a := 2) g dX12_duel_35 rfl rfl ?_
        refine x_Vv (pc := 36) g hM [.int p0, .int p1] [] (c_M_laysEnds l G hM m1 p0 p1) dX12_duel_36 ml_12_446 (sm_0) rfl rfl (Nat.le_of_ble_eq_true rfl) ⟨rfl, rfl, Nat.le_of_ble_eq_true rfl, Nat.le_of_ble_eq_true rfl⟩ (fun r5 hr5 => ?_)
        refine x_iload_n (pc := 39) (i := 3) (a := 3) g dX12_duel_39 rfl rfl ?_
        refine x_iconst (pc := 40) g dX12_duel_40 ic_1 ?_
        refine x_isub (pc := 41) g dX12_duel_41 ?_
        refine x_nmI (fun x6 => ?_)
        refine x_istore (pc := 42) (lv' := [(4, .int x6), (0, .ref (xad G 0)), (1, .int p0), (2, .int p1), (3, .int p2)]) g dX12_duel_42 (by decide) rfl ?_
        exact x_sub [1, 0] (T_M_duel_b44 hM g p0 p1 p2 1000 x6 r5) rfl
theorem c_M_duel (l : Launch) (G : xG) (hM : WM G) (m : xMem) (p0 : Int32) (p1 : Int32) (p2 : Int32) : xCim l G yX12_duel cX12_duel 7 (some .int) rm_M_duel [.ref (xad G 0), .int p0, .int p1, .int p2] m (M_duel m p0 p1 p2) :=
  xCt_of (own := RX12) (by decide) rfl (Nat.le_of_ble_eq_true rfl) rfl ⟨rfl, rfl⟩ (fun E g => T_M_duel hM g m p0 p1 p2)
theorem T_M_duelAt {l : Launch} {G : xG} {E : xE} (hM : WM G) (g : xGood E l G.1 RX12 cX12_duelAt yX12_duelAt 1 (some .int) rm_M_duelAt) (m : xMem) : X E G (fun r : Int32 × xMem => (some (Value.int r.1), r.2)) 0 [(0, .ref (xad G 0))] [] m (M_duelAt m) := by
  unfold M_duelAt
  refine x_aload_n (pc := 0) (i := 0) (a := 0) g dX12_duelAt_0 rfl rfl ?_
  refine x_iconst (pc := 1) g dX12_duelAt_1 ic_0 ?_
  refine x_putI (pc := 2) g hM dX12_duelAt_2 fl_12_1 ft_12_0 (sm_0) rfl (fun m1 => ?_)
  refine x_aload_n (pc := 5) (i := 0) (a := 0) g dX12_duelAt_5 rfl rfl ?_
  refine x_getI (pc := 6) g hM dX12_duelAt_6 fl_12_454 (sm_0) rfl ?_
  refine x_if_eq (pc := 9) (t := 19) g dX12_duelAt_9 (by decide) ?_ ?_
  · refine x_iconst (pc := 19) g dX12_duelAt_19 ic_m1 ?_
    exact x_iret (pc := 20) g dX12_duelAt_20 rfl (fun _ h => h)
  · refine x_aload_n (pc := 12) (i := 0) (a := 0) g dX12_duelAt_12 rfl rfl ?_
    refine x_getI (pc := 13) g hM dX12_duelAt_13 fl_12_457 (sm_0) rfl ?_
    refine x_goto (pc := 16) (t := 20) g dX12_duelAt_16 (by decide) ?_
    exact x_iret (pc := 20) g dX12_duelAt_20 rfl (fun _ h => h)
theorem c_M_duelAt (l : Launch) (G : xG) (hM : WM G) (m : xMem) : xCim l G yX12_duelAt cX12_duelAt 1 (some .int) rm_M_duelAt [.ref (xad G 0)] m (M_duelAt m) :=
  xCt_of (own := RX12) (by decide) rfl (Nat.le_of_ble_eq_true rfl) rfl ⟨rfl, rfl⟩ (fun E g => T_M_duelAt hM g m)
theorem T_M_worth_b95 {l : Launch} {G : xG} {E : xE} (hM : WM G) (g : xGood E l G.1 RX12 cX12_worth yX12_worth 6 (some .int) rm_M_worth) (p0 : Int32) (p1 : Int32) (k42 : Int32 → Int32 → xMem → Option (Int32 × xMem)) (hk42 : ∀ (v3 : Int32) (v4 : Int32) (m : xMem), X E G (fun r : Int32 × xMem => (some (Value.int r.1), r.2)) 42 [(0, .ref (xad G 0)), (1, .int p0), (2, .int p1), (3, .int v3), (4, .int v4)] [] m (k42 v3 v4 m)) (v4 : Int32) (s0 : Int32) (s1 : Int32) (m : xMem) : X E G (fun r : Int32 × xMem => (some (Value.int r.1), r.2)) 95 [(0, .ref (xad G 0)), (1, .int p0), (2, .int p1), (4, .int v4)] [.int s0, .int s1] m (M_worth_b95 p0 p1 k42 v4 s0 s1 m) := by
  unfold M_worth_b95
  refine x_iadd (pc := 95) g dX12_worth_95 ?_
  refine x_nmI (fun x9 => ?_)
  refine x_istore_n (pc := 96) (i := 3) (lv' := [(3, .int x9), (0, .ref (xad G 0)), (1, .int p0), (2, .int p1), (4, .int v4)]) g dX12_worth_96 rfl (by decide) rfl ?_
  refine x_aload_n (pc := 97) (i := 0) (a := 1) g dX12_worth_97 rfl rfl ?_
  refine x_getR (pc := 98) (x := 2) g hM dX12_worth_98 fl_12_33 (sm_0) rfl ?_
  refine x_bipush (pc := 101) g dX12_worth_101 bi_97 ?_
  refine x_dup2 (pc := 103) g dX12_worth_103 rfl rfl ?_
  refine x_ialdc (pc := 104) g hM dX12_worth_104 (sm_2) ix_97_302 ?_
  refine x_iconst (pc := 105) g dX12_worth_105 ic_1 ?_
  refine x_iadd (pc := 106) g dX12_worth_106 ?_
  refine x_iastc (pc := 107) g hM dX12_worth_107 (sm_2) ix_97_302 (fun m10 => ?_)
  refine x_aload_n (pc := 108) (i := 0) (a := 1) g dX12_worth_108 rfl rfl ?_
  refine x_getR (pc := 109) (x := 2) g hM dX12_worth_109 fl_12_33 (sm_0) rfl ?_
  refine x_bipush (pc := 112) g dX12_worth_112 bi_100 ?_
  refine x_iconst (pc := 114) g dX12_worth_114 ic_0 ?_
  refine x_iastc (pc := 115) g hM dX12_worth_115 (sm_2) ix_100_302 (fun m11 => ?_)
  refine x_iinc (pc := 116) (a := 4) (lv' := [(4, .int (v4 + 1)), (3, .int x9), (0, .ref (xad G 0)), (1, .int p0), (2, .int p1)]) g dX12_worth_116 ic_1 rfl (by decide) rfl ?_
  refine x_goto (pc := 119) (t := 42) g dX12_worth_119 (by decide) ?_
  exact x_sub [2, 3, 4, 1, 0] (hk42 x9 (v4 + 1) m11) rfl
theorem T_M_worth_b122 {l : Launch} {G : xG} {E : xE} (hM : WM G) (g : xGood E l G.1 RX12 cX12_worth yX12_worth 6 (some .int) rm_M_worth) (p0 : Int32) (p1 : Int32) (v3 : Int32) (m : xMem) : X E G (fun r : Int32 × xMem => (some (Value.int r.1), r.2)) 122 [(0, .ref (xad G 0)), (3, .int v3)] [] m (M_worth_b122 p0 p1 v3 m) := by
  unfold M_worth_b122
  refine x_aload_n (pc := 122) (i := 0) (a := 0) g dX12_worth_122 rfl rfl ?_
  refine x_Vv (pc := 123) g hM [] [] (c_M_back l G hM m) dX12_worth_123 ml_12_405 (sm_0) rfl rfl (Nat.le_of_ble_eq_true rfl) ⟨rfl, rfl, Nat.le_of_ble_eq_true rfl, Nat.le_of_ble_eq_true rfl⟩ (fun r12 hr12 => ?_)
  refine x_iload_n (pc := 126) (i := 3) (a := 1) g dX12_worth_126 rfl rfl ?_
  exact x_iret (pc := 127) g dX12_worth_127 rfl (fun _ h => h)
theorem T_M_worth_b42 {l : Launch} {G : xG} {E : xE} (hM : WM G) (g : xGood E l G.1 RX12 cX12_worth yX12_worth 6 (some .int) rm_M_worth) (p0 : Int32) (p1 : Int32) : ∀ (n : Nat) (v3 : Int32) (v4 : Int32) (m : xMem), X E G (fun r : Int32 × xMem => (some (Value.int r.1), r.2)) 42 [(0, .ref (xad G 0)), (1, .int p0), (2, .int p1), (3, .int v3), (4, .int v4)] [] m (M_worth_b42 p0 p1 n v3 v4 m) := by
  intro n
  induction n with
  | zero => intro v3 v4 m; exact x_none
  | succ n ih =>
    intro v3 v4 m
    rw [M_worth_b42]
    refine x_iload (pc := 42) (a := 4) g dX12_worth_42 rfl ?_
    refine x_iload_n (pc := 44) (i := 2) (a := 2) g dX12_worth_44 rfl rfl ?_
    refine x_icmp_ge (pc := 45) (t := 122) g dX12_worth_45 (by decide) ?_ ?_
    · refine x_aload_n (pc := 48) (i := 0) (a := 0) g dX12_worth_48 rfl rfl ?_
      refine x_getR (pc := 49) (x := 2) g hM dX12_worth_49 fl_12_33 (sm_0) rfl ?_
      refine x_bipush (pc := 52) g dX12_worth_52 bi_97 ?_
      refine x_ialdc (pc := 54) g hM dX12_worth_54 (sm_2) ix_97_302 ?_
      refine x_sipush (pc := 55) g dX12_worth_55 si_400 ?_
      refine x_icmp_ge (pc := 58) (t := 122) g dX12_worth_58 (by decide) ?_ ?_
      · refine x_aload_n (pc := 61) (i := 0) (a := 0) g dX12_worth_61 rfl rfl ?_
        refine x_aload_n (pc := 62) (i := 0) (a := 0) g dX12_worth_62 rfl rfl ?_
        refine x_iload_n (pc := 63) (i := 1) (a := 1) g dX12_worth_63 rfl rfl ?_
        refine x_Vi (pc := 64) g hM [.int p0] [.ref (xad G 0)] (c_M_owlBy l G hM m p0) dX12_worth_64 ml_12_362 (sm_0) rfl rfl (Nat.le_of_ble_eq_true rfl) ⟨rfl, rfl, Nat.le_of_ble_eq_true rfl, Nat.le_of_ble_eq_true rfl⟩ (fun r6 hr6 => ?_)
        refine x_iload_n (pc := 67) (i := 1) (a := 1) g dX12_worth_67 rfl rfl ?_
        refine x_Vi (pc := 68) g hM [.int r6, .int p0] [] (c_M_seenBy l G hM m r6 p0) dX12_worth_68 ml_12_352 (sm_0) rfl rfl (Nat.le_of_ble_eq_true rfl) ⟨rfl, rfl, Nat.le_of_ble_eq_true rfl, Nat.le_of_ble_eq_true rfl⟩ (fun r7 hr7 => ?_)
        refine x_istore (pc := 71) (lv' := [(5, .int r7), (0, .ref (xad G 0)), (1, .int p0), (2, .int p1), (3, .int v3), (4, .int v4)]) g dX12_worth_71 (by decide) rfl ?_
        refine x_iload_n (pc := 73) (i := 3) (a := 4) g dX12_worth_73 rfl rfl ?_
        refine x_iload (pc := 74) (a := 0) g dX12_worth_74 rfl ?_
        refine x_if_lt (pc := 76) (t := 94) g dX12_worth_76 (by decide) ?_ ?_
        · refine x_iconst (pc := 94) g dX12_worth_94 ic_0 ?_
          exact x_sub [1, 2, 3, 5] (T_M_worth_b95 hM g p0 p1 (M_worth_b42 p0 p1 n) ih v4 0 v3 m) rfl
        · refine x_aload_n (pc := 79) (i := 0) (a := 1) g dX12_worth_79 rfl rfl ?_
          refine x_iload (pc := 80) (a := 0) g dX12_worth_80 rfl ?_
          refine x_iload_n (pc := 82) (i := 1) (a := 2) g dX12_worth_82 rfl rfl ?_
          refine x_Vi (pc := 83) g hM [.int r7, .int p0] [.int v3] (c_M_loudAt l G hM m r7 p0) dX12_worth_83 ml_12_349 (sm_0) rfl rfl (Nat.le_of_ble_eq_true rfl) ⟨rfl, rfl, Nat.le_of_ble_eq_true rfl, Nat.le_of_ble_eq_true rfl⟩ (fun r8 hr8 => ?_)
          refine x_iconst (pc := 86) g dX12_worth_86 ic_5 ?_
          refine x_icmp_lt (pc := 87) (t := 94) g dX12_worth_87 (by decide) ?_ ?_
          · refine x_iconst (pc := 94) g dX12_worth_94 ic_0 ?_
            exact x_sub [1, 2, 3, 5] (T_M_worth_b95 hM g p0 p1 (M_worth_b42 p0 p1 n) ih v4 0 v3 m) rfl
          · refine x_iconst (pc := 90) g dX12_worth_90 ic_1 ?_
            refine x_goto (pc := 91) (t := 95) g dX12_worth_91 (by decide) ?_
            exact x_sub [1, 2, 3, 5] (T_M_worth_b95 hM g p0 p1 (M_worth_b42 p0 p1 n) ih v4 1 v3 m) rfl
      · exact x_sub [0, 3] (T_M_worth_b122 hM g p0 p1 v3 m) rfl
    · exact x_sub [0, 3] (T_M_worth_b122 hM g p0 p1 v3 m) rfl
theorem T_M_worth {l : Launch} {G : xG} {E : xE} (hM : WM G) (g : xGood E l G.1 RX12 cX12_worth yX12_worth 6 (some .int) rm_M_worth) (m : xMem) (p0 : Int32) (p1 : Int32) : X E G (fun r : Int32 × xMem => (some (Value.int r.1), r.2)) 0 [(0, .ref (xad G 0)), (1, .int p0), (2, .int p1)] [] m (M_worth m p0 p1) := by
  unfold M_worth
  refine x_aload_n (pc := 0) (i := 0) (a := 0) g dX12_worth_0 rfl rfl ?_
  refine x_iconst (pc := 1) g dX12_worth_1 ic_0 ?_
  refine x_putI (pc := 2) g hM dX12_worth_2 fl_12_1 ft_12_0 (sm_0) rfl (fun m1 => ?_)
  refine x_aload_n (pc := 5) (i := 0) (a := 0) g dX12_worth_5 rfl rfl ?_
  refine x_iload_n (pc := 6) (i := 1) (a := 1) g dX12_worth_6 rfl rfl ?_
  refine x_Vi (pc := 7) g hM [.int p0] [] (c_M_isBed l G hM m1 p0) dX12_worth_7 ml_12_355 (sm_0) rfl rfl (Nat.le_of_ble_eq_true rfl) ⟨rfl, rfl, Nat.le_of_ble_eq_true rfl, Nat.le_of_ble_eq_true rfl⟩ (fun r2 hr2 => ?_)
  refine x_if_eq (pc := 10) (t := 31) g dX12_worth_10 (by decide) ?_ ?_
  · refine x_iconst (pc := 31) g dX12_worth_31 ic_m1 ?_
    exact x_iret (pc := 32) g dX12_worth_32 rfl (fun _ h => h)
  · refine x_iload_n (pc := 13) (i := 2) (a := 2) g dX12_worth_13 rfl rfl ?_
    refine x_iconst (pc := 14) g dX12_worth_14 ic_1 ?_
    refine x_bipush (pc := 15) g dX12_worth_15 bi_60 ?_
    refine x_Si (pc := 17) g [.int p1, .int 1, .int 60] [] (c_M_isIn l G hM m1 p1 1 60) dX12_worth_17 ms_12_223 rfl rfl (Nat.le_of_ble_eq_true rfl) ⟨rfl, rfl, Nat.le_of_ble_eq_true rfl, Nat.le_of_ble_eq_true rfl⟩ (fun r3 hr3 => ?_)
    refine x_if_eq (pc := 20) (t := 31) g dX12_worth_20 (by decide) ?_ ?_
    · refine x_iconst (pc := 31) g dX12_worth_31 ic_m1 ?_
      exact x_iret (pc := 32) g dX12_worth_32 rfl (fun _ h => h)
    · refine x_aload_n (pc := 23) (i := 0) (a := 0) g dX12_worth_23 rfl rfl ?_
      refine x_iload_n (pc := 24) (i := 1) (a := 1) g dX12_worth_24 rfl rfl ?_
      refine x_Vi (pc := 25) g hM [.int p0] [] (c_M_owlBy l G hM m1 p0) dX12_worth_25 ml_12_362 (sm_0) rfl rfl (Nat.le_of_ble_eq_true rfl) ⟨rfl, rfl, Nat.le_of_ble_eq_true rfl, Nat.le_of_ble_eq_true rfl⟩ (fun r4 hr4 => ?_)
      refine x_if_ge (pc := 28) (t := 33) g dX12_worth_28 (by decide) ?_ ?_
      · refine x_iconst (pc := 31) g dX12_worth_31 ic_m1 ?_
        exact x_iret (pc := 32) g dX12_worth_32 rfl (fun _ h => h)
      · refine x_aload_n (pc := 33) (i := 0) (a := 0) g dX12_worth_33 rfl rfl ?_
        refine x_Vv (pc := 34) g hM [] [] (c_M_tries l G hM m1) dX12_worth_34 ml_12_402 (sm_0) rfl rfl (Nat.le_of_ble_eq_true rfl) ⟨rfl, rfl, Nat.le_of_ble_eq_true rfl, Nat.le_of_ble_eq_true rfl⟩ (fun r5 hr5 => ?_)
        refine x_iconst (pc := 37) g dX12_worth_37 ic_0 ?_
        refine x_istore_n (pc := 38) (i := 3) (lv' := [(3, .int 0), (0, .ref (xad G 0)), (1, .int p0), (2, .int p1)]) g dX12_worth_38 rfl (by decide) rfl ?_
        refine x_iconst (pc := 39) g dX12_worth_39 ic_0 ?_
        refine x_istore (pc := 40) (lv' := [(4, .int 0), (3, .int 0), (0, .ref (xad G 0)), (1, .int p0), (2, .int p1)]) g dX12_worth_40 (by decide) rfl ?_
        exact x_sub [2, 3, 4, 1, 0] (T_M_worth_b42 hM g p0 p1 1000 0 0 r5) rfl
theorem c_M_worth (l : Launch) (G : xG) (hM : WM G) (m : xMem) (p0 : Int32) (p1 : Int32) : xCim l G yX12_worth cX12_worth 6 (some .int) rm_M_worth [.ref (xad G 0), .int p0, .int p1] m (M_worth m p0 p1) :=
  xCt_of (own := RX12) (by decide) rfl (Nat.le_of_ble_eq_true rfl) rfl ⟨rfl, rfl⟩ (fun E g => T_M_worth hM g m p0 p1)
theorem T_M_lays {l : Launch} {G : xG} {E : xE} (hM : WM G) (g : xGood E l G.1 RX12 cX12_lays yX12_lays 2 none rm_M_lays) (m : xMem) (p0 : Int32) : X E G (fun r : xMem => ((none : Option Value), r)) 0 [(0, .ref (xad G 0)), (1, .int p0)] [] m (M_lays m p0) := by
  unfold M_lays
  refine x_aload_n (pc := 0) (i := 0) (a := 0) g dX12_lays_0 rfl rfl ?_
  refine x_getR (pc := 1) (x := 17) g hM dX12_lays_1 fl_12_93 (sm_0) rfl ?_
  refine x_aload_n (pc := 4) (i := 0) (a := 0) g dX12_lays_4 rfl rfl ?_
  refine x_getI (pc := 5) g hM dX12_lays_5 fl_12_460 (sm_0) rfl ?_
  refine x_iload_n (pc := 8) (i := 1) (a := 1) g dX12_lays_8 rfl rfl ?_
  refine x_i2b (pc := 9) g dX12_lays_9 ?_
  refine x_bast (pc := 10) g hM dX12_lays_10 (sm_17) (fun j2 hj2 m1 => ?_)
  refine x_aload_n (pc := 11) (i := 0) (a := 0) g dX12_lays_11 rfl rfl ?_
  refine x_dup (pc := 12) g dX12_lays_12 rfl ?_
  refine x_getI (pc := 13) g hM dX12_lays_13 fl_12_460 (sm_0) rfl ?_
  refine x_iconst (pc := 16) g dX12_lays_16 ic_1 ?_
  refine x_iadd (pc := 17) g dX12_lays_17 ?_
  refine x_putI (pc := 18) g hM dX12_lays_18 fl_12_460 ft_12_43 (sm_0) rfl (fun m3 => ?_)
  exact x_vret (pc := 21) g dX12_lays_21 rfl (fun _ h => h)
theorem c_M_lays (l : Launch) (G : xG) (hM : WM G) (m : xMem) (p0 : Int32) : xCv l G yX12_lays cX12_lays 2 none rm_M_lays [.ref (xad G 0), .int p0] m (M_lays m p0) :=
  xCt_of (own := RX12) (by decide) rfl (Nat.le_of_ble_eq_true rfl) rfl ⟨rfl, rfl⟩ (fun E g => T_M_lays hM g m p0)
theorem T_M_spells_b3 {l : Launch} {G : xG} {E : xE} (hM : WM G) (g : xGood E l G.1 RX12 cX12_spells yX12_spells 4 none rm_M_spells) (p0 : Int64) : ∀ (n : Nat) (v3 : Int32) (m : xMem), X E G (fun r : xMem => ((none : Option Value), r)) 3 [(0, .ref (xad G 0)), (1, .long p0), (3, .int v3)] [] m (M_spells_b3 p0 n v3 m) := by
  intro n
  induction n with
  | zero => intro v3 m; exact x_none
  | succ n ih =>
    intro v3 m
    rw [M_spells_b3]
    refine x_iload_n (pc := 3) (i := 3) (a := 2) g dX12_spells_3 rfl rfl ?_
    refine x_if_lt (pc := 4) (t := 37) g dX12_spells_4 (by decide) ?_ ?_
    · exact x_vret (pc := 37) g dX12_spells_37 rfl (fun _ h => h)
    · refine x_lload_n (pc := 7) (i := 1) (a := 1) g dX12_spells_7 rfl rfl ?_
      refine x_iload_n (pc := 8) (i := 3) (a := 2) g dX12_spells_8 rfl rfl ?_
      refine x_lshr (pc := 9) g dX12_spells_9 ?_
      refine x_ldc2 (pc := 10) g dX12_spells_10 kc_12_463 ?_
      refine x_land (pc := 13) g dX12_spells_13 ?_
      refine x_lconst (pc := 14) g dX12_spells_14 lc_0 ?_
      refine x_lcmp (pc := 15) g dX12_spells_15 ?_
      refine x_if_eq (pc := 16) (t := 31) g dX12_spells_16 (by decide) ?_ ?_
      · refine x_iinc (pc := 31) (a := 2) (lv' := [(3, .int (v3 + (-8))), (0, .ref (xad G 0)), (1, .long p0)]) g dX12_spells_31 ic_m8 rfl (by decide) rfl ?_
        refine x_goto (pc := 34) (t := 3) g dX12_spells_34 (by decide) ?_
        exact x_sub [1, 2, 0] (ih (v3 + (-8)) m) rfl
      · refine x_aload_n (pc := 19) (i := 0) (a := 0) g dX12_spells_19 rfl rfl ?_
        refine x_lload_n (pc := 20) (i := 1) (a := 1) g dX12_spells_20 rfl rfl ?_
        refine x_iload_n (pc := 21) (i := 3) (a := 2) g dX12_spells_21 rfl rfl ?_
        refine x_lshr (pc := 22) g dX12_spells_22 ?_
        refine x_ldc2 (pc := 23) g dX12_spells_23 kc_12_463 ?_
        refine x_land (pc := 26) g dX12_spells_26 ?_
        refine x_l2i (pc := 27) g dX12_spells_27 ?_
        refine x_Vv (pc := 28) g hM [.int (l_i ((l_shr p0 v3) &&& 255))] [] (c_M_lays l G hM m (l_i ((l_shr p0 v3) &&& 255))) dX12_spells_28 ml_12_465 (sm_0) rfl rfl (Nat.le_of_ble_eq_true rfl) ⟨rfl, rfl, Nat.le_of_ble_eq_true rfl, Nat.le_of_ble_eq_true rfl⟩ (fun r1 hr1 => ?_)
        refine x_iinc (pc := 31) (a := 2) (lv' := [(3, .int (v3 + (-8))), (0, .ref (xad G 0)), (1, .long p0)]) g dX12_spells_31 ic_m8 rfl (by decide) rfl ?_
        refine x_goto (pc := 34) (t := 3) g dX12_spells_34 (by decide) ?_
        exact x_sub [1, 2, 0] (ih (v3 + (-8)) r1) rfl
theorem T_M_spells {l : Launch} {G : xG} {E : xE} (hM : WM G) (g : xGood E l G.1 RX12 cX12_spells yX12_spells 4 none rm_M_spells) (m : xMem) (p0 : Int64) : X E G (fun r : xMem => ((none : Option Value), r)) 0 [(0, .ref (xad G 0)), (1, .long p0)] [] m (M_spells m p0) := by
  unfold M_spells
  refine x_bipush (pc := 0) g dX12_spells_0 bi_56 ?_
  refine x_istore_n (pc := 2) (i := 3) (lv' := [(3, .int 56), (0, .ref (xad G 0)), (1, .long p0)]) g dX12_spells_2 rfl (by decide) rfl ?_
  exact x_sub [1, 2, 0] (T_M_spells_b3 hM g p0 1000 56 m) rfl
theorem c_M_spells (l : Launch) (G : xG) (hM : WM G) (m : xMem) (p0 : Int64) : xCv l G yX12_spells cX12_spells 4 none rm_M_spells [.ref (xad G 0), .long p0] m (M_spells m p0) :=
  xCt_of (own := RX12) (by decide) rfl (Nat.le_of_ble_eq_true rfl) rfl ⟨rfl, rfl⟩ (fun E g => T_M_spells hM g m p0)
theorem T_M_says {l : Launch} {G : xG} {E : xE} (hM : WM G) (g : xGood E l G.1 RX12 cX12_says yX12_says 3 none rm_M_says) (m : xMem) (p0 : Int64) : X E G (fun r : xMem => ((none : Option Value), r)) 0 [(0, .ref (xad G 0)), (1, .long p0)] [] m (M_says m p0) := by
  unfold M_says
  refine x_aload_n (pc := 0) (i := 0) (a := 0) g dX12_says_0 rfl rfl ?_
  refine x_bipush (pc := 1) g dX12_says_1 bi_32 ?_
  refine x_Vv (pc := 3) g hM [.int 32] [] (c_M_lays l G hM m 32) dX12_says_3 ml_12_465 (sm_0) rfl rfl (Nat.le_of_ble_eq_true rfl) ⟨rfl, rfl, Nat.le_of_ble_eq_true rfl, Nat.le_of_ble_eq_true rfl⟩ (fun r1 hr1 => ?_)
  refine x_aload_n (pc := 6) (i := 0) (a := 0) g dX12_says_6 rfl rfl ?_
  refine x_lload_n (pc := 7) (i := 1) (a := 1) g dX12_says_7 rfl rfl ?_
  refine x_Vv (pc := 8) g hM [.long p0] [] (c_M_spells l G hM r1 p0) dX12_says_8 ml_12_468 (sm_0) rfl rfl (Nat.le_of_ble_eq_true rfl) ⟨rfl, rfl, Nat.le_of_ble_eq_true rfl, Nat.le_of_ble_eq_true rfl⟩ (fun r2 hr2 => ?_)
  exact x_vret (pc := 11) g dX12_says_11 rfl (fun _ h => h)
theorem c_M_says (l : Launch) (G : xG) (hM : WM G) (m : xMem) (p0 : Int64) : xCv l G yX12_says cX12_says 3 none rm_M_says [.ref (xad G 0), .long p0] m (M_says m p0) :=
  xCt_of (own := RX12) (by decide) rfl (Nat.le_of_ble_eq_true rfl) rfl ⟨rfl, rfl⟩ (fun E g => T_M_says hM g m p0)
theorem T_M_note_b131 {l : Launch} {G : xG} {E : xE} (hM : WM G) (g : xGood E l G.1 RX12 cX12_note yX12_note 4 (some .int) rm_M_note) (p0 : Int32) (s0 : Int64) (m : xMem) : X E G (fun r : Int32 × xMem => (some (Value.int r.1), r.2)) 131 [(0, .ref (xad G 0))] [.long s0, .ref (xad G 0)] m (M_note_b131 p0 s0 m) := by
  unfold M_note_b131
  refine x_Vv (pc := 131) g hM [.long s0] [] (c_M_says l G hM m s0) dX12_note_131 ml_12_474 (sm_0) rfl rfl (Nat.le_of_ble_eq_true rfl) ⟨rfl, rfl, Nat.le_of_ble_eq_true rfl, Nat.le_of_ble_eq_true rfl⟩ (fun r16 hr16 => ?_)
  refine x_aload_n (pc := 134) (i := 0) (a := 0) g dX12_note_134 rfl rfl ?_
  refine x_getI (pc := 135) g hM dX12_note_135 fl_12_460 (sm_0) rfl ?_
  exact x_iret (pc := 138) g dX12_note_138 rfl (fun _ h => h)
theorem T_M_note {l : Launch} {G : xG} {E : xE} (hM : WM G) (g : xGood E l G.1 RX12 cX12_note yX12_note 4 (some .int) rm_M_note) (m : xMem) (p0 : Int32) : X E G (fun r : Int32 × xMem => (some (Value.int r.1), r.2)) 0 [(0, .ref (xad G 0)), (1, .int p0)] [] m (M_note m p0) := by
  unfold M_note
  refine x_aload_n (pc := 0) (i := 0) (a := 0) g dX12_note_0 rfl rfl ?_
  refine x_iconst (pc := 1) g dX12_note_1 ic_0 ?_
  refine x_putI (pc := 2) g hM dX12_note_2 fl_12_1 ft_12_0 (sm_0) rfl (fun m1 => ?_)
  refine x_aload_n (pc := 5) (i := 0) (a := 0) g dX12_note_5 rfl rfl ?_
  refine x_iload_n (pc := 6) (i := 1) (a := 1) g dX12_note_6 rfl rfl ?_
  refine x_Vi (pc := 7) g hM [.int p0] [] (c_M_isBed l G hM m1 p0) dX12_note_7 ml_12_355 (sm_0) rfl rfl (Nat.le_of_ble_eq_true rfl) ⟨rfl, rfl, Nat.le_of_ble_eq_true rfl, Nat.le_of_ble_eq_true rfl⟩ (fun r2 hr2 => ?_)
  refine x_if_ne (pc := 10) (t := 15) g dX12_note_10 (by decide) ?_ ?_
  · refine x_iconst (pc := 13) g dX12_note_13 ic_m1 ?_
    exact x_iret (pc := 14) g dX12_note_14 rfl (fun _ h => h)
  · refine x_aload_n (pc := 15) (i := 0) (a := 0) g dX12_note_15 rfl rfl ?_
    refine x_iconst (pc := 16) g dX12_note_16 ic_0 ?_
    refine x_putI (pc := 17) g hM dX12_note_17 fl_12_460 ft_12_43 (sm_0) rfl (fun m3 => ?_)
    refine x_aload_n (pc := 20) (i := 0) (a := 0) g dX12_note_20 rfl rfl ?_
    refine x_aload_n (pc := 21) (i := 0) (a := 0) g dX12_note_21 rfl rfl ?_
    refine x_getR (pc := 22) (x := 5) g hM dX12_note_22 fl_12_43 (sm_0) rfl ?_
    refine x_iload_n (pc := 25) (i := 1) (a := 1) g dX12_note_25 rfl rfl ?_
    refine x_lald (pc := 26) g hM dX12_note_26 (sm_5) (fun j4 hj4 => ?_)
    refine x_Vv (pc := 27) g hM [.long (m3.2 5 j4)] [] (c_M_spells l G hM m3 (m3.2 5 j4)) dX12_note_27 ml_12_468 (sm_0) rfl rfl (Nat.le_of_ble_eq_true rfl) ⟨rfl, rfl, Nat.le_of_ble_eq_true rfl, Nat.le_of_ble_eq_true rfl⟩ (fun r5 hr5 => ?_)
    refine x_aload_n (pc := 30) (i := 0) (a := 0) g dX12_note_30 rfl rfl ?_
    refine x_iload_n (pc := 31) (i := 1) (a := 1) g dX12_note_31 rfl rfl ?_
    refine x_Vi (pc := 32) g hM [.int p0] [] (c_M_owlBy l G hM r5 p0) dX12_note_32 ml_12_362 (sm_0) rfl rfl (Nat.le_of_ble_eq_true rfl) ⟨rfl, rfl, Nat.le_of_ble_eq_true rfl, Nat.le_of_ble_eq_true rfl⟩ (fun r6 hr6 => ?_)
    refine x_istore_n (pc := 35) (i := 2) (lv' := [(2, .int r6), (0, .ref (xad G 0)), (1, .int p0)]) g dX12_note_35 rfl (by decide) rfl ?_
    refine x_iload_n (pc := 36) (i := 2) (a := 0) g dX12_note_36 rfl rfl ?_
    refine x_if_ge (pc := 37) (t := 52) g dX12_note_37 (by decide) ?_ ?_
    · refine x_aload_n (pc := 40) (i := 0) (a := 1) g dX12_note_40 rfl rfl ?_
      refine x_ldc2 (pc := 41) g dX12_note_41 kc_12_472 ?_
      refine x_Vv (pc := 44) g hM [.long 418431069797] [] (c_M_says l G hM r5 418431069797) dX12_note_44 ml_12_474 (sm_0) rfl rfl (Nat.le_of_ble_eq_true rfl) ⟨rfl, rfl, Nat.le_of_ble_eq_true rfl, Nat.le_of_ble_eq_true rfl⟩ (fun r7 hr7 => ?_)
      refine x_aload_n (pc := 47) (i := 0) (a := 1) g dX12_note_47 rfl rfl ?_
      refine x_getI (pc := 48) g hM dX12_note_48 fl_12_460 (sm_0) rfl ?_
      exact x_iret (pc := 51) g dX12_note_51 rfl (fun _ h => h)
    · refine x_aload_n (pc := 52) (i := 0) (a := 1) g dX12_note_52 rfl rfl ?_
      refine x_aload_n (pc := 53) (i := 0) (a := 1) g dX12_note_53 rfl rfl ?_
      refine x_getR (pc := 54) (x := 5) g hM dX12_note_54 fl_12_43 (sm_0) rfl ?_
      refine x_bipush (pc := 57) g dX12_note_57 bi_6 ?_
      refine x_iload_n (pc := 59) (i := 2) (a := 0) g dX12_note_59 rfl rfl ?_
      refine x_iadd (pc := 60) g dX12_note_60 ?_
      refine x_lald (pc := 61) g hM dX12_note_61 (sm_5) (fun j8 hj8 => ?_)
      refine x_Vv (pc := 62) g hM [.long (r5.2 5 j8)] [] (c_M_says l G hM r5 (r5.2 5 j8)) dX12_note_62 ml_12_474 (sm_0) rfl rfl (Nat.le_of_ble_eq_true rfl) ⟨rfl, rfl, Nat.le_of_ble_eq_true rfl, Nat.le_of_ble_eq_true rfl⟩ (fun r9 hr9 => ?_)
      refine x_aload_n (pc := 65) (i := 0) (a := 1) g dX12_note_65 rfl rfl ?_
      refine x_iload_n (pc := 66) (i := 2) (a := 0) g dX12_note_66 rfl rfl ?_
      refine x_iload_n (pc := 67) (i := 1) (a := 2) g dX12_note_67 rfl rfl ?_
      refine x_Vi (pc := 68) g hM [.int r6, .int p0] [] (c_M_lookBy l G hM r9 r6 p0) dX12_note_68 ml_12_368 (sm_0) rfl rfl (Nat.le_of_ble_eq_true rfl) ⟨rfl, rfl, Nat.le_of_ble_eq_true rfl, Nat.le_of_ble_eq_true rfl⟩ (fun r10 hr10 => ?_)
      refine x_istore_n (pc := 71) (i := 3) (lv' := [(3, .int r10), (2, .int r6), (0, .ref (xad G 0)), (1, .int p0)]) g dX12_note_71 rfl (by decide) rfl ?_
      refine x_aload_n (pc := 72) (i := 0) (a := 2) g dX12_note_72 rfl rfl ?_
      refine x_Vi (pc := 73) g hM [] [] (c_M_isShut l G hM r9) dX12_note_73 ml_12_337 (sm_0) rfl rfl (Nat.le_of_ble_eq_true rfl) ⟨rfl, rfl, Nat.le_of_ble_eq_true rfl, Nat.le_of_ble_eq_true rfl⟩ (fun r11 hr11 => ?_)
      refine x_if_eq (pc := 76) (t := 89) g dX12_note_76 (by decide) ?_ ?_
      · refine x_iload_n (pc := 89) (i := 3) (a := 0) g dX12_note_89 rfl rfl ?_
        refine x_if_ge (pc := 90) (t := 103) g dX12_note_90 (by decide) ?_ ?_
        · refine x_aload_n (pc := 93) (i := 0) (a := 2) g dX12_note_93 rfl rfl ?_
          refine x_ldc2 (pc := 94) g dX12_note_94 kc_12_477 ?_
          refine x_Vv (pc := 97) g hM [.long 126909394808947] [] (c_M_says l G hM r9 126909394808947) dX12_note_97 ml_12_474 (sm_0) rfl rfl (Nat.le_of_ble_eq_true rfl) ⟨rfl, rfl, Nat.le_of_ble_eq_true rfl, Nat.le_of_ble_eq_true rfl⟩ (fun r12 hr12 => ?_)
          refine x_goto (pc := 100) (t := 134) g dX12_note_100 (by decide) ?_
          refine x_aload_n (pc := 134) (i := 0) (a := 2) g dX12_note_134 rfl rfl ?_
          refine x_getI (pc := 135) g hM dX12_note_135 fl_12_460 (sm_0) rfl ?_
          exact x_iret (pc := 138) g dX12_note_138 rfl (fun _ h => h)
        · refine x_aload_n (pc := 103) (i := 0) (a := 2) g dX12_note_103 rfl rfl ?_
          refine x_ldc2 (pc := 104) g dX12_note_104 kc_12_166 ?_
          refine x_Vv (pc := 107) g hM [.long 465726040947] [] (c_M_says l G hM r9 465726040947) dX12_note_107 ml_12_474 (sm_0) rfl rfl (Nat.le_of_ble_eq_true rfl) ⟨rfl, rfl, Nat.le_of_ble_eq_true rfl, Nat.le_of_ble_eq_true rfl⟩ (fun r13 hr13 => ?_)
          refine x_aload_n (pc := 110) (i := 0) (a := 2) g dX12_note_110 rfl rfl ?_
          refine x_iload_n (pc := 111) (i := 3) (a := 0) g dX12_note_111 rfl rfl ?_
          refine x_iconst (pc := 112) g dX12_note_112 ic_4 ?_
          refine x_icmp_ne (pc := 113) (t := 122) g dX12_note_113 (by decide) ?_ ?_
          · refine x_ldc2 (pc := 116) g dX12_note_116 kc_12_479 ?_
            refine x_goto (pc := 119) (t := 131) g dX12_note_119 (by decide) ?_
            exact x_sub [2] (T_M_note_b131 hM g p0 1751478885 r13) rfl
          · refine x_aload_n (pc := 122) (i := 0) (a := 2) g dX12_note_122 rfl rfl ?_
            refine x_getR (pc := 123) (x := 6) g hM dX12_note_123 fl_12_47 (sm_0) rfl ?_
            refine x_bipush (pc := 126) g dX12_note_126 bi_12 ?_
            refine x_iload_n (pc := 128) (i := 3) (a := 0) g dX12_note_128 rfl rfl ?_
            refine x_iadd (pc := 129) g dX12_note_129 ?_
            refine x_lald (pc := 130) g hM dX12_note_130 (sm_6) (fun j14 hj14 => ?_)
            exact x_sub [2] (T_M_note_b131 hM g p0 (r13.2 6 j14) r13) rfl
      · refine x_aload_n (pc := 79) (i := 0) (a := 2) g dX12_note_79 rfl rfl ?_
        refine x_ldc2 (pc := 80) g dX12_note_80 kc_12_128 ?_
        refine x_Vv (pc := 83) g hM [.long 1936225652] [] (c_M_says l G hM r9 1936225652) dX12_note_83 ml_12_474 (sm_0) rfl rfl (Nat.le_of_ble_eq_true rfl) ⟨rfl, rfl, Nat.le_of_ble_eq_true rfl, Nat.le_of_ble_eq_true rfl⟩ (fun r15 hr15 => ?_)
        refine x_goto (pc := 86) (t := 134) g dX12_note_86 (by decide) ?_
        refine x_aload_n (pc := 134) (i := 0) (a := 2) g dX12_note_134 rfl rfl ?_
        refine x_getI (pc := 135) g hM dX12_note_135 fl_12_460 (sm_0) rfl ?_
        exact x_iret (pc := 138) g dX12_note_138 rfl (fun _ h => h)
theorem c_M_note (l : Launch) (G : xG) (hM : WM G) (m : xMem) (p0 : Int32) : xCim l G yX12_note cX12_note 4 (some .int) rm_M_note [.ref (xad G 0), .int p0] m (M_note m p0) :=
  xCt_of (own := RX12) (by decide) rfl (Nat.le_of_ble_eq_true rfl) rfl ⟨rfl, rfl⟩ (fun E g => T_M_note hM g m p0)
theorem T_M_byteAt {l : Launch} {G : xG} {E : xE} (hM : WM G) (g : xGood E l G.1 RX12 cX12_byteAt yX12_byteAt 2 (some .int) rm_M_byteAt) (m : xMem) (p0 : Int32) : X E G (fun r : Int32 × xMem => (some (Value.int r.1), r.2)) 0 [(0, .ref (xad G 0)), (1, .int p0)] [] m (M_byteAt m p0) := by
  unfold M_byteAt
  refine x_aload_n (pc := 0) (i := 0) (a := 0) g dX12_byteAt_0 rfl rfl ?_
  refine x_iconst (pc := 1) g dX12_byteAt_1 ic_0 ?_
  refine x_putI (pc := 2) g hM dX12_byteAt_2 fl_12_1 ft_12_0 (sm_0) rfl (fun m1 => ?_)
  refine x_iload_n (pc := 5) (i := 1) (a := 1) g dX12_byteAt_5 rfl rfl ?_
  refine x_iconst (pc := 6) g dX12_byteAt_6 ic_0 ?_
  refine x_aload_n (pc := 7) (i := 0) (a := 0) g dX12_byteAt_7 rfl rfl ?_
  refine x_getI (pc := 8) g hM dX12_byteAt_8 fl_12_460 (sm_0) rfl ?_
  refine x_iconst (pc := 11) g dX12_byteAt_11 ic_1 ?_
  refine x_isub (pc := 12) g dX12_byteAt_12 ?_
  refine x_Si (pc := 13) g [.int p0, .int 0, .int ((m1.1 0 43) - 1)] [] (c_M_isIn l G hM m1 p0 0 ((m1.1 0 43) - 1)) dX12_byteAt_13 ms_12_223 rfl rfl (Nat.le_of_ble_eq_true rfl) ⟨rfl, rfl, Nat.le_of_ble_eq_true rfl, Nat.le_of_ble_eq_true rfl⟩ (fun r2 hr2 => ?_)
  refine x_if_eq (pc := 16) (t := 28) g dX12_byteAt_16 (by decide) ?_ ?_
  · refine x_iconst (pc := 28) g dX12_byteAt_28 ic_m1 ?_
    exact x_iret (pc := 29) g dX12_byteAt_29 rfl (fun _ h => h)
  · refine x_aload_n (pc := 19) (i := 0) (a := 0) g dX12_byteAt_19 rfl rfl ?_
    refine x_getR (pc := 20) (x := 17) g hM dX12_byteAt_20 fl_12_93 (sm_0) rfl ?_
    refine x_iload_n (pc := 23) (i := 1) (a := 1) g dX12_byteAt_23 rfl rfl ?_
    refine x_bald (pc := 24) g hM dX12_byteAt_24 (sm_17) (fun j3 hj3 => ?_)
    refine x_goto (pc := 25) (t := 29) g dX12_byteAt_25 (by decide) ?_
    exact x_iret (pc := 29) g dX12_byteAt_29 rfl (fun _ h => h)
theorem c_M_byteAt (l : Launch) (G : xG) (hM : WM G) (m : xMem) (p0 : Int32) : xCim l G yX12_byteAt cX12_byteAt 2 (some .int) rm_M_byteAt [.ref (xad G 0), .int p0] m (M_byteAt m p0) :=
  xCt_of (own := RX12) (by decide) rfl (Nat.le_of_ble_eq_true rfl) rfl ⟨rfl, rfl⟩ (fun E g => T_M_byteAt hM g m p0)
theorem T_M_draw {l : Launch} {G : xG} {E : xE} (hM : WM G) (g : xGood E l G.1 RX12 cX12_draw yX12_draw 2 (some .int) rm_M_draw) (m : xMem) (p0 : Int32) : X E G (fun r : Int32 × xMem => (some (Value.int r.1), r.2)) 0 [(0, .ref (xad G 0)), (1, .int p0)] [] m (M_draw m p0) := by
  unfold M_draw
  refine x_aload_n (pc := 0) (i := 0) (a := 0) g dX12_draw_0 rfl rfl ?_
  refine x_aload_n (pc := 1) (i := 0) (a := 0) g dX12_draw_1 rfl rfl ?_
  refine x_getI (pc := 2) g hM dX12_draw_2 fl_12_481 (sm_0) rfl ?_
  refine x_ldcw (pc := 5) g dX12_draw_5 kc_12_484 ?_
  refine x_imul (pc := 8) g dX12_draw_8 ?_
  refine x_sipush (pc := 9) g dX12_draw_9 si_12345 ?_
  refine x_iadd (pc := 12) g dX12_draw_12 ?_
  refine x_putI (pc := 13) g hM dX12_draw_13 fl_12_481 ft_12_44 (sm_0) rfl (fun m1 => ?_)
  refine x_aload_n (pc := 16) (i := 0) (a := 0) g dX12_draw_16 rfl rfl ?_
  refine x_getI (pc := 17) g hM dX12_draw_17 fl_12_481 (sm_0) rfl ?_
  refine x_bipush (pc := 20) g dX12_draw_20 bi_8 ?_
  refine x_iushr (pc := 22) g dX12_draw_22 ?_
  refine x_iload_n (pc := 23) (i := 1) (a := 1) g dX12_draw_23 rfl rfl ?_
  refine x_if (fun _ => x_none) (fun h0 => ?_)
  refine x_irem (pc := 24) g dX12_draw_24 h0 ?_
  exact x_iret (pc := 25) g dX12_draw_25 rfl (fun _ h => h)
theorem c_M_draw (l : Launch) (G : xG) (hM : WM G) (m : xMem) (p0 : Int32) : xCim l G yX12_draw cX12_draw 2 (some .int) rm_M_draw [.ref (xad G 0), .int p0] m (M_draw m p0) :=
  xCt_of (own := RX12) (by decide) rfl (Nat.le_of_ble_eq_true rfl) rfl ⟨rfl, rfl⟩ (fun E g => T_M_draw hM g m p0)
theorem T_M_draws_b127 {l : Launch} {G : xG} {E : xE} (hM : WM G) (g : xGood E l G.1 RX12 cX12_draws yX12_draws 6 (some .int) rm_M_draws) (p0 : Int32) (p1 : Int32) (k7 : Int32 → xMem → Option (Int32 × xMem)) (hk7 : ∀ (v3 : Int32) (m : xMem), X E G (fun r : Int32 × xMem => (some (Value.int r.1), r.2)) 7 [(0, .ref (xad G 0)), (1, .int p0), (3, .int v3)] [] m (k7 v3 m)) (v3 : Int32) (m : xMem) : X E G (fun r : Int32 × xMem => (some (Value.int r.1), r.2)) 127 [(0, .ref (xad G 0)), (1, .int p0), (3, .int v3)] [] m (M_draws_b127 p0 p1 k7 v3 m) := by
  unfold M_draws_b127
  refine x_aload_n (pc := 127) (i := 0) (a := 0) g dX12_draws_127 rfl rfl ?_
  refine x_Vv (pc := 128) g hM [] [] (c_M_hour l G hM m) dX12_draws_128 ml_12_380 (sm_0) rfl rfl (Nat.le_of_ble_eq_true rfl) ⟨rfl, rfl, Nat.le_of_ble_eq_true rfl, Nat.le_of_ble_eq_true rfl⟩ (fun r9 hr9 => ?_)
  refine x_iinc (pc := 131) (a := 2) (lv' := [(3, .int (v3 + 1)), (0, .ref (xad G 0)), (1, .int p0)]) g dX12_draws_131 ic_1 rfl (by decide) rfl ?_
  refine x_goto (pc := 134) (t := 7) g dX12_draws_134 (by decide) ?_
  exact x_sub [1, 2, 0] (hk7 (v3 + 1) r9) rfl
theorem T_M_draws_b28 {l : Launch} {G : xG} {E : xE} (hM : WM G) (g : xGood E l G.1 RX12 cX12_draws yX12_draws 6 (some .int) rm_M_draws) (p0 : Int32) (p1 : Int32) (k7 : Int32 → xMem → Option (Int32 × xMem)) (hk7 : ∀ (v3 : Int32) (m : xMem), X E G (fun r : Int32 × xMem => (some (Value.int r.1), r.2)) 7 [(0, .ref (xad G 0)), (1, .int p0), (3, .int v3)] [] m (k7 v3 m)) : ∀ (n : Nat) (v3 : Int32) (v4 : Int32) (m : xMem), X E G (fun r : Int32 × xMem => (some (Value.int r.1), r.2)) 28 [(0, .ref (xad G 0)), (1, .int p0), (3, .int v3), (4, .int v4)] [] m (M_draws_b28 p0 p1 k7 n v3 v4 m) := by
  intro n
  induction n with
  | zero => intro v3 v4 m; exact x_none
  | succ n ih =>
    intro v3 v4 m
    rw [M_draws_b28]
    refine x_iload (pc := 28) (a := 3) g dX12_draws_28 rfl ?_
    refine x_aload_n (pc := 30) (i := 0) (a := 0) g dX12_draws_30 rfl rfl ?_
    refine x_getR (pc := 31) (x := 2) g hM dX12_draws_31 fl_12_33 (sm_0) rfl ?_
    refine x_iconst (pc := 34) g dX12_draws_34 ic_2 ?_
    refine x_ialdc (pc := 35) g hM dX12_draws_35 (sm_2) ix_2_302 ?_
    refine x_icmp_ge (pc := 36) (t := 68) g dX12_draws_36 (by decide) ?_ ?_
    · refine x_aload_n (pc := 39) (i := 0) (a := 0) g dX12_draws_39 rfl rfl ?_
      refine x_bipush (pc := 40) g dX12_draws_40 bi_8 ?_
      refine x_Vim (pc := 42) g hM [.int 8] [] (c_M_draw l G hM m 8) dX12_draws_42 ml_12_485 (sm_0) rfl rfl (Nat.le_of_ble_eq_true rfl) ⟨rfl, rfl, Nat.le_of_ble_eq_true rfl, Nat.le_of_ble_eq_true rfl⟩ (fun r2 hr2 => ?_)
      refine x_if_ne (pc := 45) (t := 62) g dX12_draws_45 (by decide) ?_ ?_
      · refine x_aload_n (pc := 48) (i := 0) (a := 0) g dX12_draws_48 rfl rfl ?_
        refine x_getR (pc := 49) (x := 2) g hM dX12_draws_49 fl_12_33 (sm_0) rfl ?_
        refine x_bipush (pc := 52) g dX12_draws_52 bi_98 ?_
        refine x_dup2 (pc := 54) g dX12_draws_54 rfl rfl ?_
        refine x_ialdc (pc := 55) g hM dX12_draws_55 (sm_2) ix_98_302 ?_
        refine x_iconst (pc := 56) g dX12_draws_56 ic_1 ?_
        refine x_iload (pc := 57) (a := 3) g dX12_draws_57 rfl ?_
        refine x_ishl (pc := 59) g dX12_draws_59 ?_
        refine x_ixor (pc := 60) g dX12_draws_60 ?_
        refine x_iastc (pc := 61) g hM dX12_draws_61 (sm_2) ix_98_302 (fun m3 => ?_)
        refine x_iinc (pc := 62) (a := 3) (lv' := [(4, .int (v4 + 1)), (0, .ref (xad G 0)), (1, .int p0), (3, .int v3)]) g dX12_draws_62 ic_1 rfl (by decide) rfl ?_
        refine x_goto (pc := 65) (t := 28) g dX12_draws_65 (by decide) ?_
        exact x_sub [1, 2, 3, 0] (ih v3 (v4 + 1) m3) rfl
      · refine x_iinc (pc := 62) (a := 3) (lv' := [(4, .int (v4 + 1)), (0, .ref (xad G 0)), (1, .int p0), (3, .int v3)]) g dX12_draws_62 ic_1 rfl (by decide) rfl ?_
        refine x_goto (pc := 65) (t := 28) g dX12_draws_65 (by decide) ?_
        exact x_sub [1, 2, 3, 0] (ih v3 (v4 + 1) r2.2) rfl
    · refine x_aload_n (pc := 68) (i := 0) (a := 0) g dX12_draws_68 rfl rfl ?_
      refine x_bipush (pc := 69) g dX12_draws_69 bi_6 ?_
      refine x_Vim (pc := 71) g hM [.int 6] [] (c_M_draw l G hM m 6) dX12_draws_71 ml_12_485 (sm_0) rfl rfl (Nat.le_of_ble_eq_true rfl) ⟨rfl, rfl, Nat.le_of_ble_eq_true rfl, Nat.le_of_ble_eq_true rfl⟩ (fun r4 hr4 => ?_)
      refine x_if_ne (pc := 74) (t := 127) g dX12_draws_74 (by decide) ?_ ?_
      · refine x_aload_n (pc := 77) (i := 0) (a := 0) g dX12_draws_77 rfl rfl ?_
        refine x_getR (pc := 78) (x := 2) g hM dX12_draws_78 fl_12_33 (sm_0) rfl ?_
        refine x_bipush (pc := 81) g dX12_draws_81 bi_100 ?_
        refine x_ialdc (pc := 83) g hM dX12_draws_83 (sm_2) ix_100_302 ?_
        refine x_if_ne (pc := 84) (t := 127) g dX12_draws_84 (by decide) ?_ ?_
        · refine x_aload_n (pc := 87) (i := 0) (a := 0) g dX12_draws_87 rfl rfl ?_
          refine x_aload_n (pc := 88) (i := 0) (a := 0) g dX12_draws_88 rfl rfl ?_
          refine x_getR (pc := 89) (x := 2) g hM dX12_draws_89 fl_12_33 (sm_0) rfl ?_
          refine x_iconst (pc := 92) g dX12_draws_92 ic_3 ?_
          refine x_ialdc (pc := 93) g hM dX12_draws_93 (sm_2) ix_3_302 ?_
          refine x_Vim (pc := 94) g hM [.int (r4.2.1 2 3)] [] (c_M_draw l G hM r4.2 (r4.2.1 2 3)) dX12_draws_94 ml_12_485 (sm_0) rfl rfl (Nat.le_of_ble_eq_true rfl) ⟨rfl, rfl, Nat.le_of_ble_eq_true rfl, Nat.le_of_ble_eq_true rfl⟩ (fun r5 hr5 => ?_)
          refine x_istore (pc := 97) (lv' := [(4, .int r5.1), (0, .ref (xad G 0)), (1, .int p0), (3, .int v3)]) g dX12_draws_97 (by decide) rfl ?_
          refine x_aload_n (pc := 99) (i := 0) (a := 1) g dX12_draws_99 rfl rfl ?_
          refine x_aload_n (pc := 100) (i := 0) (a := 1) g dX12_draws_100 rfl rfl ?_
          refine x_getR (pc := 101) (x := 2) g hM dX12_draws_101 fl_12_33 (sm_0) rfl ?_
          refine x_iconst (pc := 104) g dX12_draws_104 ic_4 ?_
          refine x_ialdc (pc := 105) g hM dX12_draws_105 (sm_2) ix_4_302 ?_
          refine x_Vim (pc := 106) g hM [.int (r5.2.1 2 4)] [] (c_M_draw l G hM r5.2 (r5.2.1 2 4)) dX12_draws_106 ml_12_485 (sm_0) rfl rfl (Nat.le_of_ble_eq_true rfl) ⟨rfl, rfl, Nat.le_of_ble_eq_true rfl, Nat.le_of_ble_eq_true rfl⟩ (fun r6 hr6 => ?_)
          refine x_istore (pc := 109) (lv' := [(5, .int r6.1), (4, .int r5.1), (0, .ref (xad G 0)), (1, .int p0), (3, .int v3)]) g dX12_draws_109 (by decide) rfl ?_
          refine x_aload_n (pc := 111) (i := 0) (a := 2) g dX12_draws_111 rfl rfl ?_
          refine x_iload (pc := 112) (a := 1) g dX12_draws_112 rfl ?_
          refine x_iload (pc := 114) (a := 0) g dX12_draws_114 rfl ?_
          refine x_aload_n (pc := 116) (i := 0) (a := 2) g dX12_draws_116 rfl rfl ?_
          refine x_bipush (pc := 117) g dX12_draws_117 bi_30 ?_
          refine x_Vim (pc := 119) g hM [.int 30] [.int r6.1, .int r5.1, .ref (xad G 0)] (c_M_draw l G hM r6.2 30) dX12_draws_119 ml_12_485 (sm_0) rfl rfl (Nat.le_of_ble_eq_true rfl) ⟨rfl, rfl, Nat.le_of_ble_eq_true rfl, Nat.le_of_ble_eq_true rfl⟩ (fun r7 hr7 => ?_)
          refine x_iconst (pc := 122) g dX12_draws_122 ic_1 ?_
          refine x_iadd (pc := 123) g dX12_draws_123 ?_
          refine x_Vv (pc := 124) g hM [.int r5.1, .int r6.1, .int (r7.1 + 1)] [] (c_M_cries l G hM r7.2 r5.1 r6.1 (r7.1 + 1)) dX12_draws_124 ml_12_395 (sm_0) rfl rfl (Nat.le_of_ble_eq_true rfl) ⟨rfl, rfl, Nat.le_of_ble_eq_true rfl, Nat.le_of_ble_eq_true rfl⟩ (fun r8 hr8 => ?_)
          exact x_sub [2, 3, 4] (T_M_draws_b127 hM g p0 p1 k7 hk7 v3 r8) rfl
        · exact x_sub [0, 1, 2] (T_M_draws_b127 hM g p0 p1 k7 hk7 v3 r4.2) rfl
      · exact x_sub [0, 1, 2] (T_M_draws_b127 hM g p0 p1 k7 hk7 v3 r4.2) rfl
theorem T_M_draws_b7 {l : Launch} {G : xG} {E : xE} (hM : WM G) (g : xGood E l G.1 RX12 cX12_draws yX12_draws 6 (some .int) rm_M_draws) (p0 : Int32) (p1 : Int32) : ∀ (n : Nat) (v3 : Int32) (m : xMem), X E G (fun r : Int32 × xMem => (some (Value.int r.1), r.2)) 7 [(0, .ref (xad G 0)), (1, .int p0), (3, .int v3)] [] m (M_draws_b7 p0 p1 n v3 m) := by
  intro n
  induction n with
  | zero => intro v3 m; exact x_none
  | succ n ih =>
    intro v3 m
    rw [M_draws_b7]
    refine x_iload_n (pc := 7) (i := 3) (a := 2) g dX12_draws_7 rfl rfl ?_
    refine x_iload_n (pc := 8) (i := 1) (a := 1) g dX12_draws_8 rfl rfl ?_
    refine x_icmp_ge (pc := 9) (t := 137) g dX12_draws_9 (by decide) ?_ ?_
    · refine x_aload_n (pc := 12) (i := 0) (a := 0) g dX12_draws_12 rfl rfl ?_
      refine x_getR (pc := 13) (x := 2) g hM dX12_draws_13 fl_12_33 (sm_0) rfl ?_
      refine x_bipush (pc := 16) g dX12_draws_16 bi_97 ?_
      refine x_ialdc (pc := 18) g hM dX12_draws_18 (sm_2) ix_97_302 ?_
      refine x_sipush (pc := 19) g dX12_draws_19 si_400 ?_
      refine x_icmp_ge (pc := 22) (t := 137) g dX12_draws_22 (by decide) ?_ ?_
      · refine x_iconst (pc := 25) g dX12_draws_25 ic_0 ?_
        refine x_istore (pc := 26) (lv' := [(4, .int 0), (0, .ref (xad G 0)), (1, .int p0), (3, .int v3)]) g dX12_draws_26 (by decide) rfl ?_
        exact x_sub [1, 2, 3, 0] (T_M_draws_b28 hM g p0 p1 (M_draws_b7 p0 p1 n) ih 1000 v3 0 m) rfl
      · refine x_iload_n (pc := 137) (i := 3) (a := 2) g dX12_draws_137 rfl rfl ?_
        exact x_iret (pc := 138) g dX12_draws_138 rfl (fun _ h => h)
    · refine x_iload_n (pc := 137) (i := 3) (a := 2) g dX12_draws_137 rfl rfl ?_
      exact x_iret (pc := 138) g dX12_draws_138 rfl (fun _ h => h)
theorem T_M_draws {l : Launch} {G : xG} {E : xE} (hM : WM G) (g : xGood E l G.1 RX12 cX12_draws yX12_draws 6 (some .int) rm_M_draws) (m : xMem) (p0 : Int32) (p1 : Int32) : X E G (fun r : Int32 × xMem => (some (Value.int r.1), r.2)) 0 [(0, .ref (xad G 0)), (1, .int p0), (2, .int p1)] [] m (M_draws m p0 p1) := by
  unfold M_draws
  refine x_aload_n (pc := 0) (i := 0) (a := 0) g dX12_draws_0 rfl rfl ?_
  refine x_iload_n (pc := 1) (i := 2) (a := 2) g dX12_draws_1 rfl rfl ?_
  refine x_putI (pc := 2) g hM dX12_draws_2 fl_12_481 ft_12_44 (sm_0) rfl (fun m1 => ?_)
  refine x_iconst (pc := 5) g dX12_draws_5 ic_0 ?_
  refine x_istore_n (pc := 6) (i := 3) (lv' := [(3, .int 0), (0, .ref (xad G 0)), (1, .int p0), (2, .int p1)]) g dX12_draws_6 rfl (by decide) rfl ?_
  exact x_sub [1, 2, 0] (T_M_draws_b7 hM g p0 p1 1000 0 m1) rfl
theorem c_M_draws (l : Launch) (G : xG) (hM : WM G) (m : xMem) (p0 : Int32) (p1 : Int32) : xCim l G yX12_draws cX12_draws 6 (some .int) rm_M_draws [.ref (xad G 0), .int p0, .int p1] m (M_draws m p0 p1) :=
  xCt_of (own := RX12) (by decide) rfl (Nat.le_of_ble_eq_true rfl) rfl ⟨rfl, rfl⟩ (fun E g => T_M_draws hM g m p0 p1)
theorem T_M_drawn_b34 {l : Launch} {G : xG} {E : xE} (hM : WM G) (g : xGood E l G.1 RX12 cX12_drawn yX12_drawn 3 (some .int) rm_M_drawn) (p0 : Int32) (p1 : Int32) (m : xMem) : X E G (fun r : Int32 × xMem => (some (Value.int r.1), r.2)) 34 [(0, .ref (xad G 0)), (1, .int p0), (2, .int p1)] [] m (M_drawn_b34 p0 p1 m) := by
  unfold M_drawn_b34
  refine x_aload_n (pc := 34) (i := 0) (a := 0) g dX12_drawn_34 rfl rfl ?_
  refine x_iload_n (pc := 35) (i := 1) (a := 1) g dX12_drawn_35 rfl rfl ?_
  refine x_iload_n (pc := 36) (i := 2) (a := 2) g dX12_drawn_36 rfl rfl ?_
  refine x_Vim (pc := 37) g hM [.int p0, .int p1] [] (c_M_draws l G hM m p0 p1) dX12_drawn_37 ml_12_488 (sm_0) rfl rfl (Nat.le_of_ble_eq_true rfl) ⟨rfl, rfl, Nat.le_of_ble_eq_true rfl, Nat.le_of_ble_eq_true rfl⟩ (fun r4 hr4 => ?_)
  exact x_iret (pc := 40) g dX12_drawn_40 rfl (fun _ h => h)
theorem T_M_drawn {l : Launch} {G : xG} {E : xE} (hM : WM G) (g : xGood E l G.1 RX12 cX12_drawn yX12_drawn 3 (some .int) rm_M_drawn) (m : xMem) (p0 : Int32) (p1 : Int32) : X E G (fun r : Int32 × xMem => (some (Value.int r.1), r.2)) 0 [(0, .ref (xad G 0)), (1, .int p0), (2, .int p1)] [] m (M_drawn m p0 p1) := by
  unfold M_drawn
  refine x_aload_n (pc := 0) (i := 0) (a := 0) g dX12_drawn_0 rfl rfl ?_
  refine x_iconst (pc := 1) g dX12_drawn_1 ic_0 ?_
  refine x_putI (pc := 2) g hM dX12_drawn_2 fl_12_1 ft_12_0 (sm_0) rfl (fun m1 => ?_)
  refine x_iload_n (pc := 5) (i := 1) (a := 1) g dX12_drawn_5 rfl rfl ?_
  refine x_iconst (pc := 6) g dX12_drawn_6 ic_1 ?_
  refine x_bipush (pc := 7) g dX12_drawn_7 bi_60 ?_
  refine x_Si (pc := 9) g [.int p0, .int 1, .int 60] [] (c_M_isIn l G hM m1 p0 1 60) dX12_drawn_9 ms_12_223 rfl rfl (Nat.le_of_ble_eq_true rfl) ⟨rfl, rfl, Nat.le_of_ble_eq_true rfl, Nat.le_of_ble_eq_true rfl⟩ (fun r2 hr2 => ?_)
  refine x_if_ne (pc := 12) (t := 17) g dX12_drawn_12 (by decide) ?_ ?_
  · refine x_iconst (pc := 15) g dX12_drawn_15 ic_m1 ?_
    exact x_iret (pc := 16) g dX12_drawn_16 rfl (fun _ h => h)
  · refine x_aload_n (pc := 17) (i := 0) (a := 0) g dX12_drawn_17 rfl rfl ?_
    refine x_getR (pc := 18) (x := 2) g hM dX12_drawn_18 fl_12_33 (sm_0) rfl ?_
    refine x_bipush (pc := 21) g dX12_drawn_21 bi_97 ?_
    refine x_ialdc (pc := 23) g hM dX12_drawn_23 (sm_2) ix_97_302 ?_
    refine x_sipush (pc := 24) g dX12_drawn_24 si_400 ?_
    refine x_icmp_ge (pc := 27) (t := 34) g dX12_drawn_27 (by decide) ?_ ?_
    · refine x_aload_n (pc := 30) (i := 0) (a := 0) g dX12_drawn_30 rfl rfl ?_
      refine x_Vv (pc := 31) g hM [] [] (c_M_keep l G hM m1) dX12_drawn_31 ml_12_386 (sm_0) rfl rfl (Nat.le_of_ble_eq_true rfl) ⟨rfl, rfl, Nat.le_of_ble_eq_true rfl, Nat.le_of_ble_eq_true rfl⟩ (fun r3 hr3 => ?_)
      exact x_sub [0, 1, 2] (T_M_drawn_b34 hM g p0 p1 r3) rfl
    · exact x_sub [0, 1, 2] (T_M_drawn_b34 hM g p0 p1 m1) rfl
theorem c_M_drawn (l : Launch) (G : xG) (hM : WM G) (m : xMem) (p0 : Int32) (p1 : Int32) : xCim l G yX12_drawn cX12_drawn 3 (some .int) rm_M_drawn [.ref (xad G 0), .int p0, .int p1] m (M_drawn m p0 p1) :=
  xCt_of (own := RX12) (by decide) rfl (Nat.le_of_ble_eq_true rfl) rfl ⟨rfl, rfl⟩ (fun E g => T_M_drawn hM g m p0 p1)
theorem T_M_odds_b84 {l : Launch} {G : xG} {E : xE} (hM : WM G) (g : xGood E l G.1 RX12 cX12_odds yX12_odds 7 (some .int) rm_M_odds) (p0 : Int32) (p1 : Int32) (p2 : Int32) (k46 : Int32 → Int32 → Int32 → xMem → Option (Int32 × xMem)) (hk46 : ∀ (v4 : Int32) (v5 : Int32) (v6 : Int32) (m : xMem), X E G (fun r : Int32 × xMem => (some (Value.int r.1), r.2)) 46 [(0, .ref (xad G 0)), (1, .int p0), (2, .int p1), (3, .int p2), (4, .int v4), (5, .int v5), (6, .int v6)] [] m (k46 v4 v5 v6 m)) (v4 : Int32) (v6 : Int32) (s0 : Int32) (s1 : Int32) (m : xMem) : X E G (fun r : Int32 × xMem => (some (Value.int r.1), r.2)) 84 [(0, .ref (xad G 0)), (1, .int p0), (2, .int p1), (3, .int p2), (4, .int v4), (6, .int v6)] [.int s0, .int s1] m (M_odds_b84 p0 p1 p2 k46 v4 v6 s0 s1 m) := by
  unfold M_odds_b84
  refine x_iadd (pc := 84) g dX12_odds_84 ?_
  refine x_nmI (fun x9 => ?_)
  refine x_istore (pc := 85) (lv' := [(5, .int x9), (0, .ref (xad G 0)), (1, .int p0), (2, .int p1), (3, .int p2), (4, .int v4), (6, .int v6)]) g dX12_odds_85 (by decide) rfl ?_
  refine x_aload_n (pc := 87) (i := 0) (a := 1) g dX12_odds_87 rfl rfl ?_
  refine x_Vv (pc := 88) g hM [] [] (c_M_back l G hM m) dX12_odds_88 ml_12_405 (sm_0) rfl rfl (Nat.le_of_ble_eq_true rfl) ⟨rfl, rfl, Nat.le_of_ble_eq_true rfl, Nat.le_of_ble_eq_true rfl⟩ (fun r10 hr10 => ?_)
  refine x_iinc (pc := 91) (a := 6) (lv' := [(6, .int (v6 + 1)), (5, .int x9), (0, .ref (xad G 0)), (1, .int p0), (2, .int p1), (3, .int p2), (4, .int v4)]) g dX12_odds_91 ic_1 rfl (by decide) rfl ?_
  refine x_goto (pc := 94) (t := 46) g dX12_odds_94 (by decide) ?_
  exact x_sub [2, 3, 4, 5, 6, 1, 0] (hk46 v4 x9 (v6 + 1) r10) rfl
theorem T_M_odds_b46 {l : Launch} {G : xG} {E : xE} (hM : WM G) (g : xGood E l G.1 RX12 cX12_odds yX12_odds 7 (some .int) rm_M_odds) (p0 : Int32) (p1 : Int32) (p2 : Int32) : ∀ (n : Nat) (v4 : Int32) (v5 : Int32) (v6 : Int32) (m : xMem), X E G (fun r : Int32 × xMem => (some (Value.int r.1), r.2)) 46 [(0, .ref (xad G 0)), (1, .int p0), (2, .int p1), (3, .int p2), (4, .int v4), (5, .int v5), (6, .int v6)] [] m (M_odds_b46 p0 p1 p2 n v4 v5 v6 m) := by
  intro n
  induction n with
  | zero => intro v4 v5 v6 m; exact x_none
  | succ n ih =>
    intro v4 v5 v6 m
    rw [M_odds_b46]
    refine x_iload (pc := 46) (a := 6) g dX12_odds_46 rfl ?_
    refine x_iload_n (pc := 48) (i := 2) (a := 2) g dX12_odds_48 rfl rfl ?_
    refine x_icmp_ge (pc := 49) (t := 97) g dX12_odds_49 (by decide) ?_ ?_
    · refine x_aload_n (pc := 52) (i := 0) (a := 0) g dX12_odds_52 rfl rfl ?_
      refine x_bipush (pc := 53) g dX12_odds_53 bi_12 ?_
      refine x_iload_n (pc := 55) (i := 3) (a := 3) g dX12_odds_55 rfl rfl ?_
      refine x_iload (pc := 56) (a := 6) g dX12_odds_56 rfl ?_
      refine x_iadd (pc := 58) g dX12_odds_58 ?_
      refine x_Vim (pc := 59) g hM [.int 12, .int (p2 + v6)] [] (c_M_draws l G hM m 12 (p2 + v6)) dX12_odds_59 ml_12_488 (sm_0) rfl rfl (Nat.le_of_ble_eq_true rfl) ⟨rfl, rfl, Nat.le_of_ble_eq_true rfl, Nat.le_of_ble_eq_true rfl⟩ (fun r7 hr7 => ?_)
      refine x_pop (pc := 62) g dX12_odds_62 rfl ?_
      refine x_iload (pc := 63) (a := 5) g dX12_odds_63 rfl ?_
      refine x_aload_n (pc := 65) (i := 0) (a := 0) g dX12_odds_65 rfl rfl ?_
      refine x_getR (pc := 66) (x := 2) g hM dX12_odds_66 fl_12_33 (sm_0) rfl ?_
      refine x_bipush (pc := 69) g dX12_odds_69 bi_115 ?_
      refine x_iload_n (pc := 71) (i := 1) (a := 1) g dX12_odds_71 rfl rfl ?_
      refine x_iadd (pc := 72) g dX12_odds_72 ?_
      refine x_iald (pc := 73) g hM dX12_odds_73 (sm_2) (fun j8 hj8 => ?_)
      refine x_iload (pc := 74) (a := 4) g dX12_odds_74 rfl ?_
      refine x_icmp_ne (pc := 76) (t := 83) g dX12_odds_76 (by decide) ?_ ?_
      · refine x_iconst (pc := 79) g dX12_odds_79 ic_1 ?_
        refine x_goto (pc := 80) (t := 84) g dX12_odds_80 (by decide) ?_
        exact x_sub [0, 1, 2, 3, 4, 6] (T_M_odds_b84 hM g p0 p1 p2 (M_odds_b46 p0 p1 p2 n) ih v4 v6 1 v5 r7.2) rfl
      · refine x_iconst (pc := 83) g dX12_odds_83 ic_0 ?_
        exact x_sub [0, 1, 2, 3, 4, 6] (T_M_odds_b84 hM g p0 p1 p2 (M_odds_b46 p0 p1 p2 n) ih v4 v6 0 v5 r7.2) rfl
    · refine x_iload (pc := 97) (a := 5) g dX12_odds_97 rfl ?_
      exact x_iret (pc := 99) g dX12_odds_99 rfl (fun _ h => h)
theorem T_M_odds {l : Launch} {G : xG} {E : xE} (hM : WM G) (g : xGood E l G.1 RX12 cX12_odds yX12_odds 7 (some .int) rm_M_odds) (m : xMem) (p0 : Int32) (p1 : Int32) (p2 : Int32) : X E G (fun r : Int32 × xMem => (some (Value.int r.1), r.2)) 0 [(0, .ref (xad G 0)), (1, .int p0), (2, .int p1), (3, .int p2)] [] m (M_odds m p0 p1 p2) := by
  unfold M_odds
  refine x_aload_n (pc := 0) (i := 0) (a := 0) g dX12_odds_0 rfl rfl ?_
  refine x_iconst (pc := 1) g dX12_odds_1 ic_0 ?_
  refine x_putI (pc := 2) g hM dX12_odds_2 fl_12_1 ft_12_0 (sm_0) rfl (fun m1 => ?_)
  refine x_aload_n (pc := 5) (i := 0) (a := 0) g dX12_odds_5 rfl rfl ?_
  refine x_iload_n (pc := 6) (i := 1) (a := 1) g dX12_odds_6 rfl rfl ?_
  refine x_Vi (pc := 7) g hM [.int p0] [] (c_M_isBed l G hM m1 p0) dX12_odds_7 ml_12_355 (sm_0) rfl rfl (Nat.le_of_ble_eq_true rfl) ⟨rfl, rfl, Nat.le_of_ble_eq_true rfl, Nat.le_of_ble_eq_true rfl⟩ (fun r2 hr2 => ?_)
  refine x_if_eq (pc := 10) (t := 23) g dX12_odds_10 (by decide) ?_ ?_
  · refine x_iconst (pc := 23) g dX12_odds_23 ic_m1 ?_
    exact x_iret (pc := 24) g dX12_odds_24 rfl (fun _ h => h)
  · refine x_iload_n (pc := 13) (i := 2) (a := 2) g dX12_odds_13 rfl rfl ?_
    refine x_iconst (pc := 14) g dX12_odds_14 ic_1 ?_
    refine x_bipush (pc := 15) g dX12_odds_15 bi_30 ?_
    refine x_Si (pc := 17) g [.int p1, .int 1, .int 30] [] (c_M_isIn l G hM m1 p1 1 30) dX12_odds_17 ms_12_223 rfl rfl (Nat.le_of_ble_eq_true rfl) ⟨rfl, rfl, Nat.le_of_ble_eq_true rfl, Nat.le_of_ble_eq_true rfl⟩ (fun r3 hr3 => ?_)
    refine x_if_ne (pc := 20) (t := 25) g dX12_odds_20 (by decide) ?_ ?_
    · refine x_iconst (pc := 23) g dX12_odds_23 ic_m1 ?_
      exact x_iret (pc := 24) g dX12_odds_24 rfl (fun _ h => h)
    · refine x_aload_n (pc := 25) (i := 0) (a := 0) g dX12_odds_25 rfl rfl ?_
      refine x_Vv (pc := 26) g hM [] [] (c_M_tries l G hM m1) dX12_odds_26 ml_12_402 (sm_0) rfl rfl (Nat.le_of_ble_eq_true rfl) ⟨rfl, rfl, Nat.le_of_ble_eq_true rfl, Nat.le_of_ble_eq_true rfl⟩ (fun r4 hr4 => ?_)
      refine x_aload_n (pc := 29) (i := 0) (a := 0) g dX12_odds_29 rfl rfl ?_
      refine x_getR (pc := 30) (x := 2) g hM dX12_odds_30 fl_12_33 (sm_0) rfl ?_
      refine x_bipush (pc := 33) g dX12_odds_33 bi_115 ?_
      refine x_iload_n (pc := 35) (i := 1) (a := 1) g dX12_odds_35 rfl rfl ?_
      refine x_iadd (pc := 36) g dX12_odds_36 ?_
      refine x_iald (pc := 37) g hM dX12_odds_37 (sm_2) (fun j5 hj5 => ?_)
      refine x_nmI (fun x6 => ?_)
      refine x_istore (pc := 38) (lv' := [(4, .int x6), (0, .ref (xad G 0)), (1, .int p0), (2, .int p1), (3, .int p2)]) g dX12_odds_38 (by decide) rfl ?_
      refine x_iconst (pc := 40) g dX12_odds_40 ic_0 ?_
      refine x_istore (pc := 41) (lv' := [(5, .int 0), (4, .int x6), (0, .ref (xad G 0)), (1, .int p0), (2, .int p1), (3, .int p2)]) g dX12_odds_41 (by decide) rfl ?_
      refine x_iconst (pc := 43) g dX12_odds_43 ic_0 ?_
      refine x_istore (pc := 44) (lv' := [(6, .int 0), (5, .int 0), (4, .int x6), (0, .ref (xad G 0)), (1, .int p0), (2, .int p1), (3, .int p2)]) g dX12_odds_44 (by decide) rfl ?_
      exact x_sub [3, 4, 5, 6, 2, 1, 0] (T_M_odds_b46 hM g p0 p1 p2 1000 x6 0 0 r4) rfl
theorem c_M_odds (l : Launch) (G : xG) (hM : WM G) (m : xMem) (p0 : Int32) (p1 : Int32) (p2 : Int32) : xCim l G yX12_odds cX12_odds 7 (some .int) rm_M_odds [.ref (xad G 0), .int p0, .int p1, .int p2] m (M_odds m p0 p1 p2) :=
  xCt_of (own := RX12) (by decide) rfl (Nat.le_of_ble_eq_true rfl) rfl ⟨rfl, rfl⟩ (fun E g => T_M_odds hM g m p0 p1 p2)
theorem T_M_bookLine_b231 {l : Launch} {G : xG} {E : xE} (hM : WM G) (g : xGood E l G.1 RX12 cX12_bookLine yX12_bookLine 4 (some .boolean) rm_M_bookLine) (v1 : Int32) (v2 : Int32) (s0 : Int32) (m : xMem) : X E G (fun r : Int32 × xMem => (some (Value.int r.1), r.2)) 231 [(0, .ref (xad G 0)), (1, .int v1), (2, .int v2)] [.int s0] m (M_bookLine_b231 v1 v2 s0 m) := by
  unfold M_bookLine_b231
  refine x_istore_n (pc := 231) (i := 3) (lv' := [(3, .int s0), (0, .ref (xad G 0)), (1, .int v1), (2, .int v2)]) g dX12_bookLine_231 rfl (by decide) rfl ?_
  refine x_iload_n (pc := 232) (i := 3) (a := 0) g dX12_bookLine_232 rfl rfl ?_
  refine x_if_ne (pc := 233) (t := 238) g dX12_bookLine_233 (by decide) ?_ ?_
  · refine x_iconst (pc := 236) g dX12_bookLine_236 ic_0 ?_
    exact x_zretc (pc := 237) g dX12_bookLine_237 rfl (Or.inl rfl) (fun _ h => h)
  · refine x_aload_n (pc := 238) (i := 0) (a := 1) g dX12_bookLine_238 rfl rfl ?_
    refine x_getR (pc := 239) (x := 4) g hM dX12_bookLine_239 fl_12_40 (sm_0) rfl ?_
    refine x_iload_n (pc := 242) (i := 1) (a := 2) g dX12_bookLine_242 rfl rfl ?_
    refine x_iconst (pc := 243) g dX12_bookLine_243 ic_2 ?_
    refine x_iadd (pc := 244) g dX12_bookLine_244 ?_
    refine x_aload_n (pc := 245) (i := 0) (a := 1) g dX12_bookLine_245 rfl rfl ?_
    refine x_getI (pc := 246) g hM dX12_bookLine_246 fl_12_227 (sm_0) rfl ?_
    refine x_iast (pc := 249) g hM dX12_bookLine_249 (sm_4) (fun j21 hj21 m20 => ?_)
    refine x_iload_n (pc := 250) (i := 2) (a := 3) g dX12_bookLine_250 rfl rfl ?_
    refine x_if_ne (pc := 251) (t := 256) g dX12_bookLine_251 (by decide) ?_ ?_
    · refine x_iconst (pc := 254) g dX12_bookLine_254 ic_1 ?_
      exact x_zretc (pc := 255) g dX12_bookLine_255 rfl (Or.inr rfl) (fun _ h => h)
    · refine x_aload_n (pc := 256) (i := 0) (a := 1) g dX12_bookLine_256 rfl rfl ?_
      refine x_iconst (pc := 257) g dX12_bookLine_257 ic_1 ?_
      refine x_bipush (pc := 258) g dX12_bookLine_258 bi_30 ?_
      refine x_Vim (pc := 260) g hM [.int 1, .int 30] [] (c_M_takes l G hM m20 1 30) dX12_bookLine_260 ml_12_230 (sm_0) rfl rfl (Nat.le_of_ble_eq_true rfl) ⟨rfl, rfl, Nat.le_of_ble_eq_true rfl, Nat.le_of_ble_eq_true rfl⟩ (fun r22 hr22 => ?_)
      refine x_if_ne (pc := 263) (t := 268) g dX12_bookLine_263 (by decide) ?_ ?_
      · refine x_iconst (pc := 266) g dX12_bookLine_266 ic_0 ?_
        exact x_zretc (pc := 267) g dX12_bookLine_267 rfl (Or.inl rfl) (fun _ h => h)
      · refine x_aload_n (pc := 268) (i := 0) (a := 1) g dX12_bookLine_268 rfl rfl ?_
        refine x_getR (pc := 269) (x := 4) g hM dX12_bookLine_269 fl_12_40 (sm_0) rfl ?_
        refine x_iload_n (pc := 272) (i := 1) (a := 2) g dX12_bookLine_272 rfl rfl ?_
        refine x_iconst (pc := 273) g dX12_bookLine_273 ic_3 ?_
        refine x_iadd (pc := 274) g dX12_bookLine_274 ?_
        refine x_aload_n (pc := 275) (i := 0) (a := 1) g dX12_bookLine_275 rfl rfl ?_
        refine x_getI (pc := 276) g hM dX12_bookLine_276 fl_12_227 (sm_0) rfl ?_
        refine x_iast (pc := 279) g hM dX12_bookLine_279 (sm_4) (fun j24 hj24 m23 => ?_)
        refine x_iconst (pc := 280) g dX12_bookLine_280 ic_1 ?_
        exact x_zretc (pc := 281) g dX12_bookLine_281 rfl (Or.inr rfl) (fun _ h => h)
theorem T_M_bookLine_b206 {l : Launch} {G : xG} {E : xE} (hM : WM G) (g : xGood E l G.1 RX12 cX12_bookLine yX12_bookLine 4 (some .boolean) rm_M_bookLine) (v1 : Int32) (v2 : Int32) (m : xMem) : X E G (fun r : Int32 × xMem => (some (Value.int r.1), r.2)) 206 [(0, .ref (xad G 0)), (1, .int v1), (2, .int v2)] [] m (M_bookLine_b206 v1 v2 m) := by
  unfold M_bookLine_b206
  refine x_iload_n (pc := 206) (i := 2) (a := 2) g dX12_bookLine_206 rfl rfl ?_
  refine x_if_ne (pc := 207) (t := 224) g dX12_bookLine_207 (by decide) ?_ ?_
  · refine x_aload_n (pc := 210) (i := 0) (a := 0) g dX12_bookLine_210 rfl rfl ?_
    refine x_iconst (pc := 211) g dX12_bookLine_211 ic_0 ?_
    refine x_aload_n (pc := 212) (i := 0) (a := 0) g dX12_bookLine_212 rfl rfl ?_
    refine x_getR (pc := 213) (x := 2) g hM dX12_bookLine_213 fl_12_33 (sm_0) rfl ?_
    refine x_iconst (pc := 216) g dX12_bookLine_216 ic_0 ?_
    refine x_ialdc (pc := 217) g hM dX12_bookLine_217 (sm_2) ix_0_302 ?_
    refine x_Vim (pc := 218) g hM [.int 0, .int (m.1 2 0)] [] (c_M_takesName l G hM m 0 (m.1 2 0)) dX12_bookLine_218 ml_12_286 (sm_0) rfl rfl (Nat.le_of_ble_eq_true rfl) ⟨rfl, rfl, Nat.le_of_ble_eq_true rfl, Nat.le_of_ble_eq_true rfl⟩ (fun r18 hr18 => ?_)
    refine x_goto (pc := 221) (t := 231) g dX12_bookLine_221 (by decide) ?_
    exact x_sub [0, 1, 2] (T_M_bookLine_b231 hM g v1 v2 r18.1 r18.2) rfl
  · refine x_aload_n (pc := 224) (i := 0) (a := 0) g dX12_bookLine_224 rfl rfl ?_
    refine x_iconst (pc := 225) g dX12_bookLine_225 ic_0 ?_
    refine x_bipush (pc := 226) g dX12_bookLine_226 bi_8 ?_
    refine x_Vim (pc := 228) g hM [.int 0, .int 8] [] (c_M_takes l G hM m 0 8) dX12_bookLine_228 ml_12_230 (sm_0) rfl rfl (Nat.le_of_ble_eq_true rfl) ⟨rfl, rfl, Nat.le_of_ble_eq_true rfl, Nat.le_of_ble_eq_true rfl⟩ (fun r19 hr19 => ?_)
    exact x_sub [0, 1, 2] (T_M_bookLine_b231 hM g v1 v2 r19.1 r19.2) rfl
theorem T_M_bookLine_b176 {l : Launch} {G : xG} {E : xE} (hM : WM G) (g : xGood E l G.1 RX12 cX12_bookLine yX12_bookLine 4 (some .boolean) rm_M_bookLine) (v1 : Int32) (v2 : Int32) (s0 : Int32) (m : xMem) : X E G (fun r : Int32 × xMem => (some (Value.int r.1), r.2)) 176 [(0, .ref (xad G 0)), (1, .int v1), (2, .int v2)] [.int s0] m (M_bookLine_b176 v1 v2 s0 m) := by
  unfold M_bookLine_b176
  refine x_istore_n (pc := 176) (i := 3) (lv' := [(3, .int s0), (0, .ref (xad G 0)), (1, .int v1), (2, .int v2)]) g dX12_bookLine_176 rfl (by decide) rfl ?_
  refine x_iload_n (pc := 177) (i := 3) (a := 0) g dX12_bookLine_177 rfl rfl ?_
  refine x_if_ne (pc := 178) (t := 183) g dX12_bookLine_178 (by decide) ?_ ?_
  · refine x_iconst (pc := 181) g dX12_bookLine_181 ic_0 ?_
    exact x_zretc (pc := 182) g dX12_bookLine_182 rfl (Or.inl rfl) (fun _ h => h)
  · refine x_aload_n (pc := 183) (i := 0) (a := 1) g dX12_bookLine_183 rfl rfl ?_
    refine x_getR (pc := 184) (x := 4) g hM dX12_bookLine_184 fl_12_40 (sm_0) rfl ?_
    refine x_iload_n (pc := 187) (i := 1) (a := 2) g dX12_bookLine_187 rfl rfl ?_
    refine x_iconst (pc := 188) g dX12_bookLine_188 ic_1 ?_
    refine x_iadd (pc := 189) g dX12_bookLine_189 ?_
    refine x_aload_n (pc := 190) (i := 0) (a := 1) g dX12_bookLine_190 rfl rfl ?_
    refine x_getI (pc := 191) g hM dX12_bookLine_191 fl_12_227 (sm_0) rfl ?_
    refine x_iast (pc := 194) g hM dX12_bookLine_194 (sm_4) (fun j17 hj17 m16 => ?_)
    refine x_iload_n (pc := 195) (i := 2) (a := 3) g dX12_bookLine_195 rfl rfl ?_
    refine x_if_eq (pc := 196) (t := 206) g dX12_bookLine_196 (by decide) ?_ ?_
    · exact x_sub [1, 2, 3] (T_M_bookLine_b206 hM g v1 v2 m16) rfl
    · refine x_iload_n (pc := 199) (i := 2) (a := 3) g dX12_bookLine_199 rfl rfl ?_
      refine x_iconst (pc := 200) g dX12_bookLine_200 ic_3 ?_
      refine x_icmp_eq (pc := 201) (t := 206) g dX12_bookLine_201 (by decide) ?_ ?_
      · exact x_sub [1, 2, 3] (T_M_bookLine_b206 hM g v1 v2 m16) rfl
      · refine x_iconst (pc := 204) g dX12_bookLine_204 ic_1 ?_
        exact x_zretc (pc := 205) g dX12_bookLine_205 rfl (Or.inr rfl) (fun _ h => h)
theorem T_M_bookLine_b78 {l : Launch} {G : xG} {E : xE} (hM : WM G) (g : xGood E l G.1 RX12 cX12_bookLine yX12_bookLine 4 (some .boolean) rm_M_bookLine) (v1 : Int32) (s0 : Int32) (m : xMem) : X E G (fun r : Int32 × xMem => (some (Value.int r.1), r.2)) 78 [(0, .ref (xad G 0)), (1, .int v1)] [.int s0] m (M_bookLine_b78 v1 s0 m) := by
  unfold M_bookLine_b78
  refine x_istore_n (pc := 78) (i := 2) (lv' := [(2, .int s0), (0, .ref (xad G 0)), (1, .int v1)]) g dX12_bookLine_78 rfl (by decide) rfl ?_
  refine x_iload_n (pc := 79) (i := 2) (a := 0) g dX12_bookLine_79 rfl rfl ?_
  refine x_if_ge (pc := 80) (t := 89) g dX12_bookLine_80 (by decide) ?_ ?_
  · refine x_aload_n (pc := 83) (i := 0) (a := 1) g dX12_bookLine_83 rfl rfl ?_
    refine x_iconst (pc := 84) g dX12_bookLine_84 ic_1 ?_
    refine x_Vim (pc := 85) g hM [.int 1] [] (c_M_bad l G hM m 1) dX12_bookLine_85 ml_12_217 (sm_0) rfl rfl (Nat.le_of_ble_eq_true rfl) ⟨rfl, rfl, Nat.le_of_ble_eq_true rfl, Nat.le_of_ble_eq_true rfl⟩ (fun r7 hr7 => ?_)
    exact x_zret (pc := 88) g dX12_bookLine_88 rfl (fun _ _ h => h)
  · refine x_aload_n (pc := 89) (i := 0) (a := 1) g dX12_bookLine_89 rfl rfl ?_
    refine x_getI (pc := 90) g hM dX12_bookLine_90 fl_12_491 (sm_0) rfl ?_
    refine x_bipush (pc := 93) g dX12_bookLine_93 bi_40 ?_
    refine x_icmp_ne (pc := 95) (t := 104) g dX12_bookLine_95 (by decide) ?_ ?_
    · refine x_aload_n (pc := 98) (i := 0) (a := 1) g dX12_bookLine_98 rfl rfl ?_
      refine x_iconst (pc := 99) g dX12_bookLine_99 ic_4 ?_
      refine x_Vim (pc := 100) g hM [.int 4] [] (c_M_bad l G hM m 4) dX12_bookLine_100 ml_12_217 (sm_0) rfl rfl (Nat.le_of_ble_eq_true rfl) ⟨rfl, rfl, Nat.le_of_ble_eq_true rfl, Nat.le_of_ble_eq_true rfl⟩ (fun r8 hr8 => ?_)
      exact x_zret (pc := 103) g dX12_bookLine_103 rfl (fun _ _ h => h)
    · refine x_aload_n (pc := 104) (i := 0) (a := 1) g dX12_bookLine_104 rfl rfl ?_
      refine x_Vv (pc := 105) g hM [] [] (c_M_go l G hM m) dX12_bookLine_105 ml_12_220 (sm_0) rfl rfl (Nat.le_of_ble_eq_true rfl) ⟨rfl, rfl, Nat.le_of_ble_eq_true rfl, Nat.le_of_ble_eq_true rfl⟩ (fun r9 hr9 => ?_)
      refine x_aload_n (pc := 108) (i := 0) (a := 1) g dX12_bookLine_108 rfl rfl ?_
      refine x_getR (pc := 109) (x := 4) g hM dX12_bookLine_109 fl_12_40 (sm_0) rfl ?_
      refine x_iload_n (pc := 112) (i := 1) (a := 2) g dX12_bookLine_112 rfl rfl ?_
      refine x_iload_n (pc := 113) (i := 2) (a := 0) g dX12_bookLine_113 rfl rfl ?_
      refine x_iast (pc := 114) g hM dX12_bookLine_114 (sm_4) (fun j11 hj11 m10 => ?_)
      refine x_iload_n (pc := 115) (i := 2) (a := 0) g dX12_bookLine_115 rfl rfl ?_
      refine x_if_ne (pc := 116) (t := 134) g dX12_bookLine_116 (by decide) ?_ ?_
      · refine x_aload_n (pc := 119) (i := 0) (a := 1) g dX12_bookLine_119 rfl rfl ?_
        refine x_bipush (pc := 120) g dX12_bookLine_120 bi_6 ?_
        refine x_aload_n (pc := 122) (i := 0) (a := 1) g dX12_bookLine_122 rfl rfl ?_
        refine x_getR (pc := 123) (x := 2) g hM dX12_bookLine_123 fl_12_33 (sm_0) rfl ?_
        refine x_iconst (pc := 126) g dX12_bookLine_126 ic_1 ?_
        refine x_ialdc (pc := 127) g hM dX12_bookLine_127 (sm_2) ix_1_302 ?_
        refine x_Vim (pc := 128) g hM [.int 6, .int (m10.1 2 1)] [] (c_M_takesName l G hM m10 6 (m10.1 2 1)) dX12_bookLine_128 ml_12_286 (sm_0) rfl rfl (Nat.le_of_ble_eq_true rfl) ⟨rfl, rfl, Nat.le_of_ble_eq_true rfl, Nat.le_of_ble_eq_true rfl⟩ (fun r12 hr12 => ?_)
        refine x_goto (pc := 131) (t := 176) g dX12_bookLine_131 (by decide) ?_
        exact x_sub [1, 2, 0] (T_M_bookLine_b176 hM g v1 s0 r12.1 r12.2) rfl
      · refine x_iload_n (pc := 134) (i := 2) (a := 0) g dX12_bookLine_134 rfl rfl ?_
        refine x_iconst (pc := 135) g dX12_bookLine_135 ic_3 ?_
        refine x_icmp_ge (pc := 136) (t := 154) g dX12_bookLine_136 (by decide) ?_ ?_
        · refine x_aload_n (pc := 139) (i := 0) (a := 1) g dX12_bookLine_139 rfl rfl ?_
          refine x_bipush (pc := 140) g dX12_bookLine_140 bi_12 ?_
          refine x_aload_n (pc := 142) (i := 0) (a := 1) g dX12_bookLine_142 rfl rfl ?_
          refine x_getR (pc := 143) (x := 2) g hM dX12_bookLine_143 fl_12_33 (sm_0) rfl ?_
          refine x_iconst (pc := 146) g dX12_bookLine_146 ic_2 ?_
          refine x_ialdc (pc := 147) g hM dX12_bookLine_147 (sm_2) ix_2_302 ?_
          refine x_Vim (pc := 148) g hM [.int 12, .int (m10.1 2 2)] [] (c_M_takesName l G hM m10 12 (m10.1 2 2)) dX12_bookLine_148 ml_12_286 (sm_0) rfl rfl (Nat.le_of_ble_eq_true rfl) ⟨rfl, rfl, Nat.le_of_ble_eq_true rfl, Nat.le_of_ble_eq_true rfl⟩ (fun r13 hr13 => ?_)
          refine x_goto (pc := 151) (t := 176) g dX12_bookLine_151 (by decide) ?_
          exact x_sub [1, 2, 0] (T_M_bookLine_b176 hM g v1 s0 r13.1 r13.2) rfl
        · refine x_iload_n (pc := 154) (i := 2) (a := 0) g dX12_bookLine_154 rfl rfl ?_
          refine x_iconst (pc := 155) g dX12_bookLine_155 ic_3 ?_
          refine x_icmp_ne (pc := 156) (t := 169) g dX12_bookLine_156 (by decide) ?_ ?_
          · refine x_aload_n (pc := 159) (i := 0) (a := 1) g dX12_bookLine_159 rfl rfl ?_
            refine x_iconst (pc := 160) g dX12_bookLine_160 ic_0 ?_
            refine x_bipush (pc := 161) g dX12_bookLine_161 bi_8 ?_
            refine x_Vim (pc := 163) g hM [.int 0, .int 8] [] (c_M_takes l G hM m10 0 8) dX12_bookLine_163 ml_12_230 (sm_0) rfl rfl (Nat.le_of_ble_eq_true rfl) ⟨rfl, rfl, Nat.le_of_ble_eq_true rfl, Nat.le_of_ble_eq_true rfl⟩ (fun r14 hr14 => ?_)
            refine x_goto (pc := 166) (t := 176) g dX12_bookLine_166 (by decide) ?_
            exact x_sub [1, 2, 0] (T_M_bookLine_b176 hM g v1 s0 r14.1 r14.2) rfl
          · refine x_aload_n (pc := 169) (i := 0) (a := 1) g dX12_bookLine_169 rfl rfl ?_
            refine x_iconst (pc := 170) g dX12_bookLine_170 ic_1 ?_
            refine x_bipush (pc := 171) g dX12_bookLine_171 bi_60 ?_
            refine x_Vim (pc := 173) g hM [.int 1, .int 60] [] (c_M_takes l G hM m10 1 60) dX12_bookLine_173 ml_12_230 (sm_0) rfl rfl (Nat.le_of_ble_eq_true rfl) ⟨rfl, rfl, Nat.le_of_ble_eq_true rfl, Nat.le_of_ble_eq_true rfl⟩ (fun r15 hr15 => ?_)
            exact x_sub [1, 2, 0] (T_M_bookLine_b176 hM g v1 s0 r15.1 r15.2) rfl
theorem T_M_bookLine {l : Launch} {G : xG} {E : xE} (hM : WM G) (g : xGood E l G.1 RX12 cX12_bookLine yX12_bookLine 4 (some .boolean) rm_M_bookLine) (m : xMem) : X E G (fun r : Int32 × xMem => (some (Value.int r.1), r.2)) 0 [(0, .ref (xad G 0))] [] m (M_bookLine m) := by
  unfold M_bookLine
  refine x_iconst (pc := 0) g dX12_bookLine_0 ic_4 ?_
  refine x_aload_n (pc := 1) (i := 0) (a := 0) g dX12_bookLine_1 rfl rfl ?_
  refine x_getI (pc := 2) g hM dX12_bookLine_2 fl_12_491 (sm_0) rfl ?_
  refine x_imul (pc := 5) g dX12_bookLine_5 ?_
  refine x_nmI (fun x1 => ?_)
  refine x_istore_n (pc := 6) (i := 1) (lv' := [(1, .int x1), (0, .ref (xad G 0))]) g dX12_bookLine_6 rfl (by decide) rfl ?_
  refine x_aload_n (pc := 7) (i := 0) (a := 1) g dX12_bookLine_7 rfl rfl ?_
  refine x_ldc2 (pc := 8) g dX12_bookLine_8 kc_12_146 ?_
  refine x_Vi (pc := 11) g hM [.long 1818586724] [] (c_M_isWord l G hM m 1818586724) dX12_bookLine_11 ml_12_248 (sm_0) rfl rfl (Nat.le_of_ble_eq_true rfl) ⟨rfl, rfl, Nat.le_of_ble_eq_true rfl, Nat.le_of_ble_eq_true rfl⟩ (fun r2 hr2 => ?_)
  refine x_if_eq (pc := 14) (t := 21) g dX12_bookLine_14 (by decide) ?_ ?_
  · refine x_aload_n (pc := 21) (i := 0) (a := 1) g dX12_bookLine_21 rfl rfl ?_
    refine x_ldc2 (pc := 22) g dX12_bookLine_22 kc_12_148 ?_
    refine x_Vi (pc := 25) g hM [.long 1752527720] [] (c_M_isWord l G hM m 1752527720) dX12_bookLine_25 ml_12_248 (sm_0) rfl rfl (Nat.le_of_ble_eq_true rfl) ⟨rfl, rfl, Nat.le_of_ble_eq_true rfl, Nat.le_of_ble_eq_true rfl⟩ (fun r3 hr3 => ?_)
    refine x_if_eq (pc := 28) (t := 35) g dX12_bookLine_28 (by decide) ?_ ?_
    · refine x_aload_n (pc := 35) (i := 0) (a := 1) g dX12_bookLine_35 rfl rfl ?_
      refine x_ldc2 (pc := 36) g dX12_bookLine_36 kc_12_150 ?_
      refine x_Vi (pc := 39) g hM [.long 7103860] [] (c_M_isWord l G hM m 7103860) dX12_bookLine_39 ml_12_248 (sm_0) rfl rfl (Nat.le_of_ble_eq_true rfl) ⟨rfl, rfl, Nat.le_of_ble_eq_true rfl, Nat.le_of_ble_eq_true rfl⟩ (fun r4 hr4 => ?_)
      refine x_if_eq (pc := 42) (t := 49) g dX12_bookLine_42 (by decide) ?_ ?_
      · refine x_aload_n (pc := 49) (i := 0) (a := 1) g dX12_bookLine_49 rfl rfl ?_
        refine x_ldc2 (pc := 50) g dX12_bookLine_50 kc_12_152 ?_
        refine x_Vi (pc := 53) g hM [.long 495673374068] [] (c_M_isWord l G hM m 495673374068) dX12_bookLine_53 ml_12_248 (sm_0) rfl rfl (Nat.le_of_ble_eq_true rfl) ⟨rfl, rfl, Nat.le_of_ble_eq_true rfl, Nat.le_of_ble_eq_true rfl⟩ (fun r5 hr5 => ?_)
        refine x_if_eq (pc := 56) (t := 63) g dX12_bookLine_56 (by decide) ?_ ?_
        · refine x_aload_n (pc := 63) (i := 0) (a := 1) g dX12_bookLine_63 rfl rfl ?_
          refine x_ldc2 (pc := 64) g dX12_bookLine_64 kc_12_154 ?_
          refine x_Vi (pc := 67) g hM [.long 1752135026] [] (c_M_isWord l G hM m 1752135026) dX12_bookLine_67 ml_12_248 (sm_0) rfl rfl (Nat.le_of_ble_eq_true rfl) ⟨rfl, rfl, Nat.le_of_ble_eq_true rfl, Nat.le_of_ble_eq_true rfl⟩ (fun r6 hr6 => ?_)
          refine x_if_eq (pc := 70) (t := 77) g dX12_bookLine_70 (by decide) ?_ ?_
          · refine x_iconst (pc := 77) g dX12_bookLine_77 ic_m1 ?_
            exact x_sub [1, 0] (T_M_bookLine_b78 hM g x1 ((-1)) m) rfl
          · refine x_iconst (pc := 73) g dX12_bookLine_73 ic_4 ?_
            refine x_goto (pc := 74) (t := 78) g dX12_bookLine_74 (by decide) ?_
            exact x_sub [1, 0] (T_M_bookLine_b78 hM g x1 4 m) rfl
        · refine x_iconst (pc := 59) g dX12_bookLine_59 ic_3 ?_
          refine x_goto (pc := 60) (t := 78) g dX12_bookLine_60 (by decide) ?_
          exact x_sub [1, 0] (T_M_bookLine_b78 hM g x1 3 m) rfl
      · refine x_iconst (pc := 45) g dX12_bookLine_45 ic_2 ?_
        refine x_goto (pc := 46) (t := 78) g dX12_bookLine_46 (by decide) ?_
        exact x_sub [1, 0] (T_M_bookLine_b78 hM g x1 2 m) rfl
    · refine x_iconst (pc := 31) g dX12_bookLine_31 ic_1 ?_
      refine x_goto (pc := 32) (t := 78) g dX12_bookLine_32 (by decide) ?_
      exact x_sub [1, 0] (T_M_bookLine_b78 hM g x1 1 m) rfl
  · refine x_iconst (pc := 17) g dX12_bookLine_17 ic_0 ?_
    refine x_goto (pc := 18) (t := 78) g dX12_bookLine_18 (by decide) ?_
    exact x_sub [1, 0] (T_M_bookLine_b78 hM g x1 0 m) rfl
theorem c_M_bookLine (l : Launch) (G : xG) (hM : WM G) (m : xMem) : xCim l G yX12_bookLine cX12_bookLine 4 (some .boolean) rm_M_bookLine [.ref (xad G 0)] m (M_bookLine m) :=
  xCt_of (own := RX12) (by decide) rfl (Nat.le_of_ble_eq_true rfl) rfl ⟨rfl, rfl⟩ (fun E g => T_M_bookLine hM g m)
theorem T_M_does_b79 {l : Launch} {G : xG} {E : xE} (hM : WM G) (g : xGood E l G.1 RX12 cX12_does yX12_does 6 (some .int) rm_M_does) (p0 : Int32) (p1 : Int32) (p2 : Int32) (p3 : Int32) (s0 : Int32) (s1 : Int32) (m : xMem) : X E G (fun r : Int32 × xMem => (some (Value.int r.1), r.2)) 79 [(0, .ref (xad G 0)), (1, .int p0), (2, .int p1)] [.int s0, .int s1] m (M_does_b79 p0 p1 p2 p3 s0 s1 m) := by
  unfold M_does_b79
  refine x_icmp_ne (pc := 79) (t := 89) g dX12_does_79 (by decide) ?_ ?_
  · refine x_bipush (pc := 82) g dX12_does_82 bi_10 ?_
    refine x_iload_n (pc := 84) (i := 1) (a := 1) g dX12_does_84 rfl rfl ?_
    refine x_imul (pc := 85) g dX12_does_85 ?_
    refine x_iconst (pc := 86) g dX12_does_86 ic_1 ?_
    refine x_iadd (pc := 87) g dX12_does_87 ?_
    exact x_iret (pc := 88) g dX12_does_88 rfl (fun _ h => h)
  · refine x_aload_n (pc := 89) (i := 0) (a := 0) g dX12_does_89 rfl rfl ?_
    refine x_getR (pc := 90) (x := 2) g hM dX12_does_90 fl_12_33 (sm_0) rfl ?_
    refine x_bipush (pc := 93) g dX12_does_93 bi_98 ?_
    refine x_dup2 (pc := 95) g dX12_does_95 rfl rfl ?_
    refine x_ialdc (pc := 96) g hM dX12_does_96 (sm_2) ix_98_302 ?_
    refine x_iconst (pc := 97) g dX12_does_97 ic_1 ?_
    refine x_iload_n (pc := 98) (i := 2) (a := 2) g dX12_does_98 rfl rfl ?_
    refine x_ishl (pc := 99) g dX12_does_99 ?_
    refine x_ixor (pc := 100) g dX12_does_100 ?_
    refine x_iastc (pc := 101) g hM dX12_does_101 (sm_2) ix_98_302 (fun m9 => ?_)
    refine x_iconst (pc := 102) g dX12_does_102 ic_0 ?_
    exact x_iret (pc := 103) g dX12_does_103 rfl (fun _ h => h)
theorem T_M_does {l : Launch} {G : xG} {E : xE} (hM : WM G) (g : xGood E l G.1 RX12 cX12_does yX12_does 6 (some .int) rm_M_does) (m : xMem) (p0 : Int32) (p1 : Int32) (p2 : Int32) (p3 : Int32) : X E G (fun r : Int32 × xMem => (some (Value.int r.1), r.2)) 0 [(0, .ref (xad G 0)), (1, .int p0), (2, .int p1), (3, .int p2), (4, .int p3)] [] m (M_does m p0 p1 p2 p3) := by
  unfold M_does
  refine x_iload_n (pc := 0) (i := 1) (a := 1) g dX12_does_0 rfl rfl ?_
  refine x_if (fun h1_0 => ?_) (fun h1_0 => ?_)
  · refine x_tabIn (pc := 1) (t := 32) (off := 31) g dX12_does_1 h1_0 (by decide) ?_
    refine x_aload_n (pc := 32) (i := 0) (a := 0) g dX12_does_32 rfl rfl ?_
    refine x_iload_n (pc := 33) (i := 2) (a := 2) g dX12_does_33 rfl rfl ?_
    refine x_iload_n (pc := 34) (i := 3) (a := 3) g dX12_does_34 rfl rfl ?_
    refine x_Vi (pc := 35) g hM [.int p1, .int p2] [] (c_M_whyLend l G hM m p1 p2) dX12_does_35 ml_12_383 (sm_0) rfl rfl (Nat.le_of_ble_eq_true rfl) ⟨rfl, rfl, Nat.le_of_ble_eq_true rfl, Nat.le_of_ble_eq_true rfl⟩ (fun r1 hr1 => ?_)
    refine x_istore (pc := 38) (lv' := [(5, .int r1), (0, .ref (xad G 0)), (1, .int p0), (2, .int p1), (3, .int p2), (4, .int p3)]) g dX12_does_38 (by decide) rfl ?_
    refine x_iload (pc := 40) (a := 0) g dX12_does_40 rfl ?_
    refine x_if_ne (pc := 42) (t := 55) g dX12_does_42 (by decide) ?_ ?_
    · refine x_aload_n (pc := 45) (i := 0) (a := 1) g dX12_does_45 rfl rfl ?_
      refine x_getR (pc := 46) (x := 2) g hM dX12_does_46 fl_12_33 (sm_0) rfl ?_
      refine x_bipush (pc := 49) g dX12_does_49 bi_103 ?_
      refine x_iload_n (pc := 51) (i := 2) (a := 3) g dX12_does_51 rfl rfl ?_
      refine x_iadd (pc := 52) g dX12_does_52 ?_
      refine x_iload_n (pc := 53) (i := 3) (a := 4) g dX12_does_53 rfl rfl ?_
      refine x_iast (pc := 54) g hM dX12_does_54 (sm_2) (fun j3 hj3 m2 => ?_)
      refine x_iload (pc := 55) (a := 0) g dX12_does_55 rfl ?_
      exact x_iret (pc := 57) g dX12_does_57 rfl (fun _ h => h)
    · refine x_iload (pc := 55) (a := 0) g dX12_does_55 rfl ?_
      exact x_iret (pc := 57) g dX12_does_57 rfl (fun _ h => h)
  refine x_if (fun h1_1 => ?_) (fun h1_1 => ?_)
  · refine x_tabIn (pc := 1) (t := 58) (off := 57) g dX12_does_1 h1_1 (by decide) ?_
    refine x_aload_n (pc := 58) (i := 0) (a := 0) g dX12_does_58 rfl rfl ?_
    refine x_getR (pc := 59) (x := 2) g hM dX12_does_59 fl_12_33 (sm_0) rfl ?_
    refine x_bipush (pc := 62) g dX12_does_62 bi_98 ?_
    refine x_ialdc (pc := 64) g hM dX12_does_64 (sm_2) ix_98_302 ?_
    refine x_iload_n (pc := 65) (i := 2) (a := 2) g dX12_does_65 rfl rfl ?_
    refine x_Si (pc := 66) g [.int (m.1 2 98), .int p1] [] (c_M_bitOf l G hM m (m.1 2 98) p1) dX12_does_66 ms_12_292 rfl rfl (Nat.le_of_ble_eq_true rfl) ⟨rfl, rfl, Nat.le_of_ble_eq_true rfl, Nat.le_of_ble_eq_true rfl⟩ (fun r4 hr4 => ?_)
    refine x_iload_n (pc := 69) (i := 1) (a := 1) g dX12_does_69 rfl rfl ?_
    refine x_iconst (pc := 70) g dX12_does_70 ic_1 ?_
    refine x_icmp_ne (pc := 71) (t := 78) g dX12_does_71 (by decide) ?_ ?_
    · refine x_iconst (pc := 74) g dX12_does_74 ic_1 ?_
      refine x_goto (pc := 75) (t := 79) g dX12_does_75 (by decide) ?_
      exact x_sub [0, 1, 2] (T_M_does_b79 hM g p0 p1 p2 p3 1 r4 m) rfl
    · refine x_iconst (pc := 78) g dX12_does_78 ic_0 ?_
      exact x_sub [0, 1, 2] (T_M_does_b79 hM g p0 p1 p2 p3 0 r4 m) rfl
  refine x_if (fun h1_2 => ?_) (fun h1_2 => ?_)
  · refine x_tabIn (pc := 1) (t := 58) (off := 57) g dX12_does_1 h1_2 (by decide) ?_
    refine x_aload_n (pc := 58) (i := 0) (a := 0) g dX12_does_58 rfl rfl ?_
    refine x_getR (pc := 59) (x := 2) g hM dX12_does_59 fl_12_33 (sm_0) rfl ?_
    refine x_bipush (pc := 62) g dX12_does_62 bi_98 ?_
    refine x_ialdc (pc := 64) g hM dX12_does_64 (sm_2) ix_98_302 ?_
    refine x_iload_n (pc := 65) (i := 2) (a := 2) g dX12_does_65 rfl rfl ?_
    refine x_Si (pc := 66) g [.int (m.1 2 98), .int p1] [] (c_M_bitOf l G hM m (m.1 2 98) p1) dX12_does_66 ms_12_292 rfl rfl (Nat.le_of_ble_eq_true rfl) ⟨rfl, rfl, Nat.le_of_ble_eq_true rfl, Nat.le_of_ble_eq_true rfl⟩ (fun r5 hr5 => ?_)
    refine x_iload_n (pc := 69) (i := 1) (a := 1) g dX12_does_69 rfl rfl ?_
    refine x_iconst (pc := 70) g dX12_does_70 ic_1 ?_
    refine x_icmp_ne (pc := 71) (t := 78) g dX12_does_71 (by decide) ?_ ?_
    · refine x_iconst (pc := 74) g dX12_does_74 ic_1 ?_
      refine x_goto (pc := 75) (t := 79) g dX12_does_75 (by decide) ?_
      exact x_sub [0, 1, 2] (T_M_does_b79 hM g p0 p1 p2 p3 1 r5 m) rfl
    · refine x_iconst (pc := 78) g dX12_does_78 ic_0 ?_
      exact x_sub [0, 1, 2] (T_M_does_b79 hM g p0 p1 p2 p3 0 r5 m) rfl
  refine x_if (fun h1_3 => ?_) (fun h1_3 => ?_)
  · refine x_tabIn (pc := 1) (t := 104) (off := 103) g dX12_does_1 h1_3 (by decide) ?_
    refine x_aload_n (pc := 104) (i := 0) (a := 0) g dX12_does_104 rfl rfl ?_
    refine x_iload_n (pc := 105) (i := 2) (a := 2) g dX12_does_105 rfl rfl ?_
    refine x_iload_n (pc := 106) (i := 3) (a := 3) g dX12_does_106 rfl rfl ?_
    refine x_Vi (pc := 107) g hM [.int p1, .int p2] [] (c_M_isCell l G hM m p1 p2) dX12_does_107 ml_12_392 (sm_0) rfl rfl (Nat.le_of_ble_eq_true rfl) ⟨rfl, rfl, Nat.le_of_ble_eq_true rfl, Nat.le_of_ble_eq_true rfl⟩ (fun r6 hr6 => ?_)
    refine x_if_ne (pc := 110) (t := 116) g dX12_does_110 (by decide) ?_ ?_
    · refine x_bipush (pc := 113) g dX12_does_113 bi_39 ?_
      exact x_iret (pc := 115) g dX12_does_115 rfl (fun _ h => h)
    · refine x_aload_n (pc := 116) (i := 0) (a := 0) g dX12_does_116 rfl rfl ?_
      refine x_getR (pc := 117) (x := 2) g hM dX12_does_117 fl_12_33 (sm_0) rfl ?_
      refine x_bipush (pc := 120) g dX12_does_120 bi_100 ?_
      refine x_ialdc (pc := 122) g hM dX12_does_122 (sm_2) ix_100_302 ?_
      refine x_if_le (pc := 123) (t := 129) g dX12_does_123 (by decide) ?_ ?_
      · refine x_bipush (pc := 126) g dX12_does_126 bi_31 ?_
        exact x_iret (pc := 128) g dX12_does_128 rfl (fun _ h => h)
      · refine x_aload_n (pc := 129) (i := 0) (a := 0) g dX12_does_129 rfl rfl ?_
        refine x_iload_n (pc := 130) (i := 2) (a := 2) g dX12_does_130 rfl rfl ?_
        refine x_iload_n (pc := 131) (i := 3) (a := 3) g dX12_does_131 rfl rfl ?_
        refine x_iload (pc := 132) (a := 4) g dX12_does_132 rfl ?_
        refine x_Vv (pc := 134) g hM [.int p1, .int p2, .int p3] [] (c_M_cries l G hM m p1 p2 p3) dX12_does_134 ml_12_395 (sm_0) rfl rfl (Nat.le_of_ble_eq_true rfl) ⟨rfl, rfl, Nat.le_of_ble_eq_true rfl, Nat.le_of_ble_eq_true rfl⟩ (fun r7 hr7 => ?_)
        refine x_iconst (pc := 137) g dX12_does_137 ic_0 ?_
        exact x_iret (pc := 138) g dX12_does_138 rfl (fun _ h => h)
  refine x_tabOut (pc := 1) (t := 139) g dX12_does_1 (by have z0 := ne_toInt (k := 0) h1_0 (by decide); have z1 := ne_toInt (k := 1) h1_1 (by decide); have z2 := ne_toInt (k := 2) h1_2 (by decide); have z3 := ne_toInt (k := 3) h1_3 (by decide); omega) (by decide) ?_
  refine x_aload_n (pc := 139) (i := 0) (a := 0) g dX12_does_139 rfl rfl ?_
  refine x_getR (pc := 140) (x := 2) g hM dX12_does_140 fl_12_33 (sm_0) rfl ?_
  refine x_bipush (pc := 143) g dX12_does_143 bi_97 ?_
  refine x_ialdc (pc := 145) g hM dX12_does_145 (sm_2) ix_97_302 ?_
  refine x_iload_n (pc := 146) (i := 2) (a := 2) g dX12_does_146 rfl rfl ?_
  refine x_iadd (pc := 147) g dX12_does_147 ?_
  refine x_sipush (pc := 148) g dX12_does_148 si_400 ?_
  refine x_icmp_le (pc := 151) (t := 157) g dX12_does_151 (by decide) ?_ ?_
  · refine x_bipush (pc := 154) g dX12_does_154 bi_41 ?_
    exact x_iret (pc := 156) g dX12_does_156 rfl (fun _ h => h)
  · refine x_aload_n (pc := 157) (i := 0) (a := 0) g dX12_does_157 rfl rfl ?_
    refine x_iload_n (pc := 158) (i := 2) (a := 2) g dX12_does_158 rfl rfl ?_
    refine x_Vim (pc := 159) g hM [.int p1] [] (c_M_goesOn l G hM m p1) dX12_does_159 ml_12_399 (sm_0) rfl rfl (Nat.le_of_ble_eq_true rfl) ⟨rfl, rfl, Nat.le_of_ble_eq_true rfl, Nat.le_of_ble_eq_true rfl⟩ (fun r8 hr8 => ?_)
    refine x_pop (pc := 162) g dX12_does_162 rfl ?_
    refine x_iconst (pc := 163) g dX12_does_163 ic_0 ?_
    exact x_iret (pc := 164) g dX12_does_164 rfl (fun _ h => h)
theorem c_M_does (l : Launch) (G : xG) (hM : WM G) (m : xMem) (p0 : Int32) (p1 : Int32) (p2 : Int32) (p3 : Int32) : xCim l G yX12_does cX12_does 6 (some .int) rm_M_does [.ref (xad G 0), .int p0, .int p1, .int p2, .int p3] m (M_does m p0 p1 p2 p3) :=
  xCt_of (own := RX12) (by decide) rfl (Nat.le_of_ble_eq_true rfl) rfl ⟨rfl, rfl⟩ (fun E g => T_M_does hM g m p0 p1 p2 p3)
theorem T_M_book_b283 {l : Launch} {G : xG} {E : xE} (hM : WM G) (g : xGood E l G.1 RX12 cX12_book yX12_book 4 (some .int) rm_M_book) (p0 : Int32) (v2 : Int32) (m : xMem) : X E G (fun r : Int32 × xMem => (some (Value.int r.1), r.2)) 283 [(0, .ref (xad G 0)), (1, .int p0), (2, .int v2)] [] m (M_book_b283 p0 v2 m) := by
  unfold M_book_b283
  refine x_iload_n (pc := 283) (i := 1) (a := 1) g dX12_book_283 rfl rfl ?_
  refine x_if_ne (pc := 284) (t := 291) g dX12_book_284 (by decide) ?_ ?_
  · refine x_aload_n (pc := 287) (i := 0) (a := 0) g dX12_book_287 rfl rfl ?_
    refine x_Vv (pc := 288) g hM [] [] (c_M_back l G hM m) dX12_book_288 ml_12_405 (sm_0) rfl rfl (Nat.le_of_ble_eq_true rfl) ⟨rfl, rfl, Nat.le_of_ble_eq_true rfl, Nat.le_of_ble_eq_true rfl⟩ (fun r28 hr28 => ?_)
    refine x_iload_n (pc := 291) (i := 2) (a := 2) g dX12_book_291 rfl rfl ?_
    exact x_iret (pc := 292) g dX12_book_292 rfl (fun _ h => h)
  · refine x_iload_n (pc := 291) (i := 2) (a := 2) g dX12_book_291 rfl rfl ?_
    exact x_iret (pc := 292) g dX12_book_292 rfl (fun _ h => h)
theorem T_M_book_b249 {l : Launch} {G : xG} {E : xE} (hM : WM G) (g : xGood E l G.1 RX12 cX12_book yX12_book 4 (some .int) rm_M_book) (p0 : Int32) : ∀ (n : Nat) (v2 : Int32) (v3 : Int32) (m : xMem), X E G (fun r : Int32 × xMem => (some (Value.int r.1), r.2)) 249 [(0, .ref (xad G 0)), (1, .int p0), (2, .int v2), (3, .int v3)] [] m (M_book_b249 p0 n v2 v3 m) := by
  intro n
  induction n with
  | zero => intro v2 v3 m; exact x_none
  | succ n ih =>
    intro v2 v3 m
    rw [M_book_b249]
    refine x_iload_n (pc := 249) (i := 3) (a := 3) g dX12_book_249 rfl rfl ?_
    refine x_bipush (pc := 250) g dX12_book_250 bi_24 ?_
    refine x_icmp_ge (pc := 252) (t := 283) g dX12_book_252 (by decide) ?_ ?_
    · refine x_aload_n (pc := 255) (i := 0) (a := 0) g dX12_book_255 rfl rfl ?_
      refine x_getR (pc := 256) (x := 7) g hM dX12_book_256 fl_12_50 (sm_0) rfl ?_
      refine x_bipush (pc := 259) g dX12_book_259 bi_24 ?_
      refine x_aload_n (pc := 261) (i := 0) (a := 0) g dX12_book_261 rfl rfl ?_
      refine x_getI (pc := 262) g hM dX12_book_262 fl_12_307 (sm_0) rfl ?_
      refine x_iconst (pc := 265) g dX12_book_265 ic_1 ?_
      refine x_isub (pc := 266) g dX12_book_266 ?_
      refine x_imul (pc := 267) g dX12_book_267 ?_
      refine x_iload_n (pc := 268) (i := 3) (a := 3) g dX12_book_268 rfl rfl ?_
      refine x_iadd (pc := 269) g dX12_book_269 ?_
      refine x_aload_n (pc := 270) (i := 0) (a := 0) g dX12_book_270 rfl rfl ?_
      refine x_getR (pc := 271) (x := 8) g hM dX12_book_271 fl_12_53 (sm_0) rfl ?_
      refine x_iload_n (pc := 274) (i := 3) (a := 3) g dX12_book_274 rfl rfl ?_
      refine x_iald (pc := 275) g hM dX12_book_275 (sm_8) (fun j25 hj25 => ?_)
      refine x_iast (pc := 276) g hM dX12_book_276 (sm_7) (fun j27 hj27 m26 => ?_)
      refine x_iinc (pc := 277) (a := 3) (lv' := [(3, .int (v3 + 1)), (0, .ref (xad G 0)), (1, .int p0), (2, .int v2)]) g dX12_book_277 ic_1 rfl (by decide) rfl ?_
      refine x_goto (pc := 280) (t := 249) g dX12_book_280 (by decide) ?_
      exact x_sub [1, 2, 3, 0] (ih v2 (v3 + 1) m26) rfl
    · exact x_sub [0, 1, 2] (T_M_book_b283 hM g p0 v2 m) rfl
theorem T_M_book_b201 {l : Launch} {G : xG} {E : xE} (hM : WM G) (g : xGood E l G.1 RX12 cX12_book yX12_book 4 (some .int) rm_M_book) (p0 : Int32) (v2 : Int32) (m : xMem) : X E G (fun r : Int32 × xMem => (some (Value.int r.1), r.2)) 201 [(0, .ref (xad G 0)), (1, .int p0), (2, .int v2)] [] m (M_book_b201 p0 v2 m) := by
  unfold M_book_b201
  refine x_aload_n (pc := 201) (i := 0) (a := 0) g dX12_book_201 rfl rfl ?_
  refine x_getR (pc := 202) (x := 18) g hM dX12_book_202 fl_12_96 (sm_0) rfl ?_
  refine x_iconst (pc := 205) g dX12_book_205 ic_2 ?_
  refine x_aload_n (pc := 206) (i := 0) (a := 0) g dX12_book_206 rfl rfl ?_
  refine x_getR (pc := 207) (x := 2) g hM dX12_book_207 fl_12_33 (sm_0) rfl ?_
  refine x_bipush (pc := 210) g dX12_book_210 bi_97 ?_
  refine x_ialdc (pc := 212) g hM dX12_book_212 (sm_2) ix_97_302 ?_
  refine x_iastc (pc := 213) g hM dX12_book_213 (sm_18) ix_2_4 (fun m20 => ?_)
  refine x_aload_n (pc := 214) (i := 0) (a := 0) g dX12_book_214 rfl rfl ?_
  refine x_getR (pc := 215) (x := 18) g hM dX12_book_215 fl_12_96 (sm_0) rfl ?_
  refine x_iconst (pc := 218) g dX12_book_218 ic_3 ?_
  refine x_aload_n (pc := 219) (i := 0) (a := 0) g dX12_book_219 rfl rfl ?_
  refine x_Vi (pc := 220) g hM [] [.int 3, .ref (xad G 18)] (c_M_lookers l G hM m20) dX12_book_220 ml_12_374 (sm_0) rfl rfl (Nat.le_of_ble_eq_true rfl) ⟨rfl, rfl, Nat.le_of_ble_eq_true rfl, Nat.le_of_ble_eq_true rfl⟩ (fun r21 hr21 => ?_)
  refine x_iastc (pc := 223) g hM dX12_book_223 (sm_18) ix_3_4 (fun m22 => ?_)
  refine x_aload_n (pc := 224) (i := 0) (a := 0) g dX12_book_224 rfl rfl ?_
  refine x_iconst (pc := 225) g dX12_book_225 ic_1 ?_
  refine x_putZ (pc := 226) g hM dX12_book_226 fl_12_500 ft_12_47 (sm_0) rfl (Or.inr rfl) (fun m23 => ?_)
  refine x_iload_n (pc := 229) (i := 1) (a := 1) g dX12_book_229 rfl rfl ?_
  refine x_iconst (pc := 230) g dX12_book_230 ic_1 ?_
  refine x_icmp_ne (pc := 231) (t := 283) g dX12_book_231 (by decide) ?_ ?_
  · refine x_aload_n (pc := 234) (i := 0) (a := 0) g dX12_book_234 rfl rfl ?_
    refine x_getR (pc := 235) (x := 18) g hM dX12_book_235 fl_12_96 (sm_0) rfl ?_
    refine x_iconst (pc := 238) g dX12_book_238 ic_1 ?_
    refine x_ialdc (pc := 239) g hM dX12_book_239 (sm_18) ix_1_4 ?_
    refine x_if_le (pc := 240) (t := 283) g dX12_book_240 (by decide) ?_ ?_
    · refine x_aload_n (pc := 243) (i := 0) (a := 0) g dX12_book_243 rfl rfl ?_
      refine x_Vv (pc := 244) g hM [] [] (c_M_keep l G hM m23) dX12_book_244 ml_12_386 (sm_0) rfl rfl (Nat.le_of_ble_eq_true rfl) ⟨rfl, rfl, Nat.le_of_ble_eq_true rfl, Nat.le_of_ble_eq_true rfl⟩ (fun r24 hr24 => ?_)
      refine x_iconst (pc := 247) g dX12_book_247 ic_0 ?_
      refine x_istore_n (pc := 248) (i := 3) (lv' := [(3, .int 0), (0, .ref (xad G 0)), (1, .int p0), (2, .int v2)]) g dX12_book_248 rfl (by decide) rfl ?_
      exact x_sub [1, 2, 3, 0] (T_M_book_b249 hM g p0 1000 v2 0 r24) rfl
    · exact x_sub [0, 1, 2] (T_M_book_b283 hM g p0 v2 m23) rfl
  · exact x_sub [0, 1, 2] (T_M_book_b283 hM g p0 v2 m23) rfl
theorem T_M_book_b111 {l : Launch} {G : xG} {E : xE} (hM : WM G) (g : xGood E l G.1 RX12 cX12_book yX12_book 4 (some .int) rm_M_book) (p0 : Int32) : ∀ (n : Nat) (v2 : Int32) (v3 : Int32) (m : xMem), X E G (fun r : Int32 × xMem => (some (Value.int r.1), r.2)) 111 [(0, .ref (xad G 0)), (1, .int p0), (2, .int v2), (3, .int v3)] [] m (M_book_b111 p0 n v2 v3 m) := by
  intro n
  induction n with
  | zero => intro v2 v3 m; exact x_none
  | succ n ih =>
    intro v2 v3 m
    rw [M_book_b111]
    refine x_iload_n (pc := 111) (i := 3) (a := 3) g dX12_book_111 rfl rfl ?_
    refine x_aload_n (pc := 112) (i := 0) (a := 0) g dX12_book_112 rfl rfl ?_
    refine x_getI (pc := 113) g hM dX12_book_113 fl_12_491 (sm_0) rfl ?_
    refine x_icmp_ge (pc := 116) (t := 201) g dX12_book_116 (by decide) ?_ ?_
    · refine x_iload_n (pc := 119) (i := 2) (a := 2) g dX12_book_119 rfl rfl ?_
      refine x_if_ge (pc := 120) (t := 201) g dX12_book_120 (by decide) ?_ ?_
      · refine x_aload_n (pc := 123) (i := 0) (a := 0) g dX12_book_123 rfl rfl ?_
        refine x_getR (pc := 124) (x := 18) g hM dX12_book_124 fl_12_96 (sm_0) rfl ?_
        refine x_iconst (pc := 127) g dX12_book_127 ic_0 ?_
        refine x_aload_n (pc := 128) (i := 0) (a := 0) g dX12_book_128 rfl rfl ?_
        refine x_aload_n (pc := 129) (i := 0) (a := 0) g dX12_book_129 rfl rfl ?_
        refine x_getR (pc := 130) (x := 4) g hM dX12_book_130 fl_12_40 (sm_0) rfl ?_
        refine x_iconst (pc := 133) g dX12_book_133 ic_4 ?_
        refine x_iload_n (pc := 134) (i := 3) (a := 3) g dX12_book_134 rfl rfl ?_
        refine x_imul (pc := 135) g dX12_book_135 ?_
        refine x_iald (pc := 136) g hM dX12_book_136 (sm_4) (fun j13 hj13 => ?_)
        refine x_aload_n (pc := 137) (i := 0) (a := 0) g dX12_book_137 rfl rfl ?_
        refine x_getR (pc := 138) (x := 4) g hM dX12_book_138 fl_12_40 (sm_0) rfl ?_
        refine x_iconst (pc := 141) g dX12_book_141 ic_4 ?_
        refine x_iload_n (pc := 142) (i := 3) (a := 3) g dX12_book_142 rfl rfl ?_
        refine x_imul (pc := 143) g dX12_book_143 ?_
        refine x_iconst (pc := 144) g dX12_book_144 ic_1 ?_
        refine x_iadd (pc := 145) g dX12_book_145 ?_
        refine x_iald (pc := 146) g hM dX12_book_146 (sm_4) (fun j14 hj14 => ?_)
        refine x_aload_n (pc := 147) (i := 0) (a := 0) g dX12_book_147 rfl rfl ?_
        refine x_getR (pc := 148) (x := 4) g hM dX12_book_148 fl_12_40 (sm_0) rfl ?_
        refine x_iconst (pc := 151) g dX12_book_151 ic_4 ?_
        refine x_iload_n (pc := 152) (i := 3) (a := 3) g dX12_book_152 rfl rfl ?_
        refine x_imul (pc := 153) g dX12_book_153 ?_
        refine x_iconst (pc := 154) g dX12_book_154 ic_2 ?_
        refine x_iadd (pc := 155) g dX12_book_155 ?_
        refine x_iald (pc := 156) g hM dX12_book_156 (sm_4) (fun j15 hj15 => ?_)
        refine x_aload_n (pc := 157) (i := 0) (a := 0) g dX12_book_157 rfl rfl ?_
        refine x_getR (pc := 158) (x := 4) g hM dX12_book_158 fl_12_40 (sm_0) rfl ?_
        refine x_iconst (pc := 161) g dX12_book_161 ic_4 ?_
        refine x_iload_n (pc := 162) (i := 3) (a := 3) g dX12_book_162 rfl rfl ?_
        refine x_imul (pc := 163) g dX12_book_163 ?_
        refine x_iconst (pc := 164) g dX12_book_164 ic_3 ?_
        refine x_iadd (pc := 165) g dX12_book_165 ?_
        refine x_iald (pc := 166) g hM dX12_book_166 (sm_4) (fun j16 hj16 => ?_)
        refine x_Vim (pc := 167) g hM [.int (m.1 4 j13), .int (m.1 4 j14), .int (m.1 4 j15), .int (m.1 4 j16)] [.int 0, .ref (xad G 18)] (c_M_does l G hM m (m.1 4 j13) (m.1 4 j14) (m.1 4 j15) (m.1 4 j16)) dX12_book_167 ml_12_497 (sm_0) rfl rfl (Nat.le_of_ble_eq_true rfl) ⟨rfl, rfl, Nat.le_of_ble_eq_true rfl, Nat.le_of_ble_eq_true rfl⟩ (fun r17 hr17 => ?_)
        refine x_iastc (pc := 170) g hM dX12_book_170 (sm_18) ix_0_4 (fun m18 => ?_)
        refine x_aload_n (pc := 171) (i := 0) (a := 0) g dX12_book_171 rfl rfl ?_
        refine x_getR (pc := 172) (x := 18) g hM dX12_book_172 fl_12_96 (sm_0) rfl ?_
        refine x_iconst (pc := 175) g dX12_book_175 ic_0 ?_
        refine x_ialdc (pc := 176) g hM dX12_book_176 (sm_18) ix_0_4 ?_
        refine x_if_le (pc := 177) (t := 185) g dX12_book_177 (by decide) ?_ ?_
        · refine x_iload_n (pc := 180) (i := 3) (a := 3) g dX12_book_180 rfl rfl ?_
          refine x_istore_n (pc := 181) (i := 2) (lv' := [(2, .int v3), (0, .ref (xad G 0)), (1, .int p0), (3, .int v3)]) g dX12_book_181 rfl (by decide) rfl ?_
          refine x_goto (pc := 182) (t := 195) g dX12_book_182 (by decide) ?_
          refine x_iinc (pc := 195) (a := 3) (lv' := [(3, .int (v3 + 1)), (2, .int v3), (0, .ref (xad G 0)), (1, .int p0)]) g dX12_book_195 ic_1 rfl (by decide) rfl ?_
          refine x_goto (pc := 198) (t := 111) g dX12_book_198 (by decide) ?_
          exact x_sub [2, 3, 1, 0] (ih v3 (v3 + 1) m18) rfl
        · refine x_aload_n (pc := 185) (i := 0) (a := 0) g dX12_book_185 rfl rfl ?_
          refine x_getR (pc := 186) (x := 18) g hM dX12_book_186 fl_12_96 (sm_0) rfl ?_
          refine x_iconst (pc := 189) g dX12_book_189 ic_1 ?_
          refine x_dup2 (pc := 190) g dX12_book_190 rfl rfl ?_
          refine x_ialdc (pc := 191) g hM dX12_book_191 (sm_18) ix_1_4 ?_
          refine x_iconst (pc := 192) g dX12_book_192 ic_1 ?_
          refine x_iadd (pc := 193) g dX12_book_193 ?_
          refine x_iastc (pc := 194) g hM dX12_book_194 (sm_18) ix_1_4 (fun m19 => ?_)
          refine x_iinc (pc := 195) (a := 3) (lv' := [(3, .int (v3 + 1)), (0, .ref (xad G 0)), (1, .int p0), (2, .int v2)]) g dX12_book_195 ic_1 rfl (by decide) rfl ?_
          refine x_goto (pc := 198) (t := 111) g dX12_book_198 (by decide) ?_
          exact x_sub [1, 2, 3, 0] (ih v2 (v3 + 1) m19) rfl
      · exact x_sub [0, 1, 2] (T_M_book_b201 hM g p0 v2 m) rfl
    · exact x_sub [0, 1, 2] (T_M_book_b201 hM g p0 v2 m) rfl
theorem T_M_book_b89 {l : Launch} {G : xG} {E : xE} (hM : WM G) (g : xGood E l G.1 RX12 cX12_book yX12_book 4 (some .int) rm_M_book) (p0 : Int32) : ∀ (n : Nat) (v2 : Int32) (m : xMem), X E G (fun r : Int32 × xMem => (some (Value.int r.1), r.2)) 89 [(0, .ref (xad G 0)), (1, .int p0), (2, .int v2)] [] m (M_book_b89 p0 n v2 m) := by
  intro n
  induction n with
  | zero => intro v2 m; exact x_none
  | succ n ih =>
    intro v2 m
    rw [M_book_b89]
    refine x_iload_n (pc := 89) (i := 2) (a := 2) g dX12_book_89 rfl rfl ?_
    refine x_iconst (pc := 90) g dX12_book_90 ic_4 ?_
    refine x_icmp_ge (pc := 91) (t := 107) g dX12_book_91 (by decide) ?_ ?_
    · refine x_aload_n (pc := 94) (i := 0) (a := 0) g dX12_book_94 rfl rfl ?_
      refine x_getR (pc := 95) (x := 18) g hM dX12_book_95 fl_12_96 (sm_0) rfl ?_
      refine x_iload_n (pc := 98) (i := 2) (a := 2) g dX12_book_98 rfl rfl ?_
      refine x_iconst (pc := 99) g dX12_book_99 ic_0 ?_
      refine x_iast (pc := 100) g hM dX12_book_100 (sm_18) (fun j12 hj12 m11 => ?_)
      refine x_iinc (pc := 101) (a := 2) (lv' := [(2, .int (v2 + 1)), (0, .ref (xad G 0)), (1, .int p0)]) g dX12_book_101 ic_1 rfl (by decide) rfl ?_
      refine x_goto (pc := 104) (t := 89) g dX12_book_104 (by decide) ?_
      exact x_sub [1, 2, 0] (ih (v2 + 1) m11) rfl
    · refine x_iconst (pc := 107) g dX12_book_107 ic_m1 ?_
      refine x_istore_n (pc := 108) (i := 2) (lv' := [(2, .int ((-1))), (0, .ref (xad G 0)), (1, .int p0)]) g dX12_book_108 rfl (by decide) rfl ?_
      refine x_iconst (pc := 109) g dX12_book_109 ic_0 ?_
      refine x_istore_n (pc := 110) (i := 3) (lv' := [(3, .int 0), (2, .int ((-1))), (0, .ref (xad G 0)), (1, .int p0)]) g dX12_book_110 rfl (by decide) rfl ?_
      exact x_sub [2, 3, 1, 0] (T_M_book_b111 hM g p0 1000 ((-1)) 0 m) rfl
theorem T_M_book_b39 {l : Launch} {G : xG} {E : xE} (hM : WM G) (g : xGood E l G.1 RX12 cX12_book yX12_book 4 (some .int) rm_M_book) (p0 : Int32) : ∀ (n : Nat) (m : xMem), X E G (fun r : Int32 × xMem => (some (Value.int r.1), r.2)) 39 [(0, .ref (xad G 0)), (1, .int p0)] [] m (M_book_b39 p0 n m) := by
  intro n
  induction n with
  | zero => intro m; exact x_none
  | succ n ih =>
    intro m
    rw [M_book_b39]
    refine x_aload_n (pc := 39) (i := 0) (a := 0) g dX12_book_39 rfl rfl ?_
    refine x_getI (pc := 40) g hM dX12_book_40 fl_12_191 (sm_0) rfl ?_
    refine x_if_eq (pc := 43) (t := 83) g dX12_book_43 (by decide) ?_ ?_
    · refine x_aload_n (pc := 83) (i := 0) (a := 0) g dX12_book_83 rfl rfl ?_
      refine x_Vv (pc := 84) g hM [] [] (c_M_tries l G hM m) dX12_book_84 ml_12_402 (sm_0) rfl rfl (Nat.le_of_ble_eq_true rfl) ⟨rfl, rfl, Nat.le_of_ble_eq_true rfl, Nat.le_of_ble_eq_true rfl⟩ (fun r7 hr7 => ?_)
      refine x_iconst (pc := 87) g dX12_book_87 ic_0 ?_
      refine x_istore_n (pc := 88) (i := 2) (lv' := [(2, .int 0), (0, .ref (xad G 0)), (1, .int p0)]) g dX12_book_88 rfl (by decide) rfl ?_
      exact x_sub [1, 2, 0] (T_M_book_b89 hM g p0 1000 0 r7) rfl
    · refine x_aload_n (pc := 46) (i := 0) (a := 0) g dX12_book_46 rfl rfl ?_
      refine x_Vim (pc := 47) g hM [] [] (c_M_bookLine l G hM m) dX12_book_47 ml_12_494 (sm_0) rfl rfl (Nat.le_of_ble_eq_true rfl) ⟨rfl, rfl, Nat.le_of_ble_eq_true rfl, Nat.le_of_ble_eq_true rfl⟩ (fun r8 hr8 => ?_)
      refine x_if_eq (pc := 50) (t := 62) g dX12_book_50 (by decide) ?_ ?_
      · refine x_bipush (pc := 62) g dX12_book_62 bi_m2 ?_
        refine x_aload_n (pc := 64) (i := 0) (a := 0) g dX12_book_64 rfl rfl ?_
        refine x_getI (pc := 65) g hM dX12_book_65 fl_12_211 (sm_0) rfl ?_
        refine x_isub (pc := 68) g dX12_book_68 ?_
        exact x_iret (pc := 69) g dX12_book_69 rfl (fun _ h => h)
      · refine x_aload_n (pc := 53) (i := 0) (a := 0) g dX12_book_53 rfl rfl ?_
        refine x_bipush (pc := 54) g dX12_book_54 bi_59 ?_
        refine x_Vim (pc := 56) g hM [.int 59] [] (c_M_sign l G hM r8.2 59) dX12_book_56 ml_12_304 (sm_0) rfl rfl (Nat.le_of_ble_eq_true rfl) ⟨rfl, rfl, Nat.le_of_ble_eq_true rfl, Nat.le_of_ble_eq_true rfl⟩ (fun r9 hr9 => ?_)
        refine x_if_ne (pc := 59) (t := 70) g dX12_book_59 (by decide) ?_ ?_
        · refine x_bipush (pc := 62) g dX12_book_62 bi_m2 ?_
          refine x_aload_n (pc := 64) (i := 0) (a := 0) g dX12_book_64 rfl rfl ?_
          refine x_getI (pc := 65) g hM dX12_book_65 fl_12_211 (sm_0) rfl ?_
          refine x_isub (pc := 68) g dX12_book_68 ?_
          exact x_iret (pc := 69) g dX12_book_69 rfl (fun _ h => h)
        · refine x_aload_n (pc := 70) (i := 0) (a := 0) g dX12_book_70 rfl rfl ?_
          refine x_dup (pc := 71) g dX12_book_71 rfl ?_
          refine x_getI (pc := 72) g hM dX12_book_72 fl_12_491 (sm_0) rfl ?_
          refine x_iconst (pc := 75) g dX12_book_75 ic_1 ?_
          refine x_iadd (pc := 76) g dX12_book_76 ?_
          refine x_putI (pc := 77) g hM dX12_book_77 fl_12_491 ft_12_45 (sm_0) rfl (fun m10 => ?_)
          refine x_goto (pc := 80) (t := 39) g dX12_book_80 (by decide) ?_
          exact x_sub [0, 1] (ih m10) rfl
theorem T_M_book {l : Launch} {G : xG} {E : xE} (hM : WM G) (g : xGood E l G.1 RX12 cX12_book yX12_book 4 (some .int) rm_M_book) (m : xMem) (p0 : Int32) : X E G (fun r : Int32 × xMem => (some (Value.int r.1), r.2)) 0 [(0, .ref (xad G 0)), (1, .int p0)] [] m (M_book m p0) := by
  unfold M_book
  refine x_aload_n (pc := 0) (i := 0) (a := 0) g dX12_book_0 rfl rfl ?_
  refine x_iconst (pc := 1) g dX12_book_1 ic_0 ?_
  refine x_putI (pc := 2) g hM dX12_book_2 fl_12_1 ft_12_0 (sm_0) rfl (fun m1 => ?_)
  refine x_iload_n (pc := 5) (i := 1) (a := 1) g dX12_book_5 rfl rfl ?_
  refine x_iconst (pc := 6) g dX12_book_6 ic_0 ?_
  refine x_iconst (pc := 7) g dX12_book_7 ic_1 ?_
  refine x_Si (pc := 8) g [.int p0, .int 0, .int 1] [] (c_M_isIn l G hM m1 p0 0 1) dX12_book_8 ms_12_223 rfl rfl (Nat.le_of_ble_eq_true rfl) ⟨rfl, rfl, Nat.le_of_ble_eq_true rfl, Nat.le_of_ble_eq_true rfl⟩ (fun r2 hr2 => ?_)
  refine x_if_ne (pc := 11) (t := 18) g dX12_book_11 (by decide) ?_ ?_
  · refine x_sipush (pc := 14) g dX12_book_14 si_m1000 ?_
    exact x_iret (pc := 17) g dX12_book_17 rfl (fun _ h => h)
  · refine x_aload_n (pc := 18) (i := 0) (a := 0) g dX12_book_18 rfl rfl ?_
    refine x_sipush (pc := 19) g dX12_book_19 si_400 ?_
    refine x_Vv (pc := 22) g hM [.int 400] [] (c_M_taken l G hM m1 400) dX12_book_22 ml_12_295 (sm_0) rfl rfl (Nat.le_of_ble_eq_true rfl) ⟨rfl, rfl, Nat.le_of_ble_eq_true rfl, Nat.le_of_ble_eq_true rfl⟩ (fun r3 hr3 => ?_)
    refine x_aload_n (pc := 25) (i := 0) (a := 0) g dX12_book_25 rfl rfl ?_
    refine x_iconst (pc := 26) g dX12_book_26 ic_0 ?_
    refine x_putI (pc := 27) g hM dX12_book_27 fl_12_208 ft_12_15 (sm_0) rfl (fun m4 => ?_)
    refine x_aload_n (pc := 30) (i := 0) (a := 0) g dX12_book_30 rfl rfl ?_
    refine x_iconst (pc := 31) g dX12_book_31 ic_0 ?_
    refine x_putI (pc := 32) g hM dX12_book_32 fl_12_491 ft_12_45 (sm_0) rfl (fun m5 => ?_)
    refine x_aload_n (pc := 35) (i := 0) (a := 0) g dX12_book_35 rfl rfl ?_
    refine x_Vv (pc := 36) g hM [] [] (c_M_go l G hM m5) dX12_book_36 ml_12_220 (sm_0) rfl rfl (Nat.le_of_ble_eq_true rfl) ⟨rfl, rfl, Nat.le_of_ble_eq_true rfl, Nat.le_of_ble_eq_true rfl⟩ (fun r6 hr6 => ?_)
    exact x_sub [0, 1] (T_M_book_b39 hM g p0 1000 r6) rfl
theorem c_M_book (l : Launch) (G : xG) (hM : WM G) (m : xMem) (p0 : Int32) : xCim l G yX12_book cX12_book 4 (some .int) rm_M_book [.ref (xad G 0), .int p0] m (M_book m p0) :=
  xCt_of (own := RX12) (by decide) rfl (Nat.le_of_ble_eq_true rfl) rfl ⟨rfl, rfl⟩ (fun E g => T_M_book hM g m p0)
theorem T_M_told {l : Launch} {G : xG} {E : xE} (hM : WM G) (g : xGood E l G.1 RX12 cX12_told yX12_told 2 (some .int) rm_M_told) (m : xMem) (p0 : Int32) : X E G (fun r : Int32 × xMem => (some (Value.int r.1), r.2)) 0 [(0, .ref (xad G 0)), (1, .int p0)] [] m (M_told m p0) := by
  unfold M_told
  refine x_aload_n (pc := 0) (i := 0) (a := 0) g dX12_told_0 rfl rfl ?_
  refine x_iconst (pc := 1) g dX12_told_1 ic_0 ?_
  refine x_putI (pc := 2) g hM dX12_told_2 fl_12_1 ft_12_0 (sm_0) rfl (fun m1 => ?_)
  refine x_aload_n (pc := 5) (i := 0) (a := 0) g dX12_told_5 rfl rfl ?_
  refine x_getI (pc := 6) g hM dX12_told_6 fl_12_500 (sm_0) rfl ?_
  refine x_if_eq (pc := 9) (t := 30) g dX12_told_9 (by decide) ?_ ?_
  · refine x_iconst (pc := 30) g dX12_told_30 ic_m1 ?_
    exact x_iret (pc := 31) g dX12_told_31 rfl (fun _ h => h)
  · refine x_iload_n (pc := 12) (i := 1) (a := 1) g dX12_told_12 rfl rfl ?_
    refine x_iconst (pc := 13) g dX12_told_13 ic_0 ?_
    refine x_iconst (pc := 14) g dX12_told_14 ic_3 ?_
    refine x_Si (pc := 15) g [.int p0, .int 0, .int 3] [] (c_M_isIn l G hM m1 p0 0 3) dX12_told_15 ms_12_223 rfl rfl (Nat.le_of_ble_eq_true rfl) ⟨rfl, rfl, Nat.le_of_ble_eq_true rfl, Nat.le_of_ble_eq_true rfl⟩ (fun r2 hr2 => ?_)
    refine x_if_eq (pc := 18) (t := 30) g dX12_told_18 (by decide) ?_ ?_
    · refine x_iconst (pc := 30) g dX12_told_30 ic_m1 ?_
      exact x_iret (pc := 31) g dX12_told_31 rfl (fun _ h => h)
    · refine x_aload_n (pc := 21) (i := 0) (a := 0) g dX12_told_21 rfl rfl ?_
      refine x_getR (pc := 22) (x := 18) g hM dX12_told_22 fl_12_96 (sm_0) rfl ?_
      refine x_iload_n (pc := 25) (i := 1) (a := 1) g dX12_told_25 rfl rfl ?_
      refine x_iald (pc := 26) g hM dX12_told_26 (sm_18) (fun j3 hj3 => ?_)
      refine x_goto (pc := 27) (t := 31) g dX12_told_27 (by decide) ?_
      exact x_iret (pc := 31) g dX12_told_31 rfl (fun _ h => h)
theorem c_M_told (l : Launch) (G : xG) (hM : WM G) (m : xMem) (p0 : Int32) : xCim l G yX12_told cX12_told 2 (some .int) rm_M_told [.ref (xad G 0), .int p0] m (M_told m p0) :=
  xCt_of (own := RX12) (by decide) rfl (Nat.le_of_ble_eq_true rfl) rfl ⟨rfl, rfl⟩ (fun E g => T_M_told hM g m p0)
theorem T_M_putCode {l : Launch} {G : xG} {E : xE} (hM : WM G) (g : xGood E l G.1 RX12 cX12_putCode yX12_putCode 4 none rm_M_putCode) (m : xMem) (p0 : Int32) (p1 : Int32) (p2 : Int32) : X E G (fun r : xMem => ((none : Option Value), r)) 0 [(0, .ref (xad G 0)), (1, .int p0), (2, .int p1), (3, .int p2)] [] m (M_putCode m p0 p1 p2) := by
  unfold M_putCode
  refine x_aload_n (pc := 0) (i := 0) (a := 0) g dX12_putCode_0 rfl rfl ?_
  refine x_getR (pc := 1) (x := 4) g hM dX12_putCode_1 fl_12_40 (sm_0) rfl ?_
  refine x_iconst (pc := 4) g dX12_putCode_4 ic_3 ?_
  refine x_aload_n (pc := 5) (i := 0) (a := 0) g dX12_putCode_5 rfl rfl ?_
  refine x_getI (pc := 6) g hM dX12_putCode_6 fl_12_503 (sm_0) rfl ?_
  refine x_imul (pc := 9) g dX12_putCode_9 ?_
  refine x_iload_n (pc := 10) (i := 1) (a := 1) g dX12_putCode_10 rfl rfl ?_
  refine x_iast (pc := 11) g hM dX12_putCode_11 (sm_4) (fun j2 hj2 m1 => ?_)
  refine x_aload_n (pc := 12) (i := 0) (a := 0) g dX12_putCode_12 rfl rfl ?_
  refine x_getR (pc := 13) (x := 4) g hM dX12_putCode_13 fl_12_40 (sm_0) rfl ?_
  refine x_iconst (pc := 16) g dX12_putCode_16 ic_3 ?_
  refine x_aload_n (pc := 17) (i := 0) (a := 0) g dX12_putCode_17 rfl rfl ?_
  refine x_getI (pc := 18) g hM dX12_putCode_18 fl_12_503 (sm_0) rfl ?_
  refine x_imul (pc := 21) g dX12_putCode_21 ?_
  refine x_iconst (pc := 22) g dX12_putCode_22 ic_1 ?_
  refine x_iadd (pc := 23) g dX12_putCode_23 ?_
  refine x_iload_n (pc := 24) (i := 2) (a := 2) g dX12_putCode_24 rfl rfl ?_
  refine x_iast (pc := 25) g hM dX12_putCode_25 (sm_4) (fun j4 hj4 m3 => ?_)
  refine x_aload_n (pc := 26) (i := 0) (a := 0) g dX12_putCode_26 rfl rfl ?_
  refine x_getR (pc := 27) (x := 4) g hM dX12_putCode_27 fl_12_40 (sm_0) rfl ?_
  refine x_iconst (pc := 30) g dX12_putCode_30 ic_3 ?_
  refine x_aload_n (pc := 31) (i := 0) (a := 0) g dX12_putCode_31 rfl rfl ?_
  refine x_getI (pc := 32) g hM dX12_putCode_32 fl_12_503 (sm_0) rfl ?_
  refine x_imul (pc := 35) g dX12_putCode_35 ?_
  refine x_iconst (pc := 36) g dX12_putCode_36 ic_2 ?_
  refine x_iadd (pc := 37) g dX12_putCode_37 ?_
  refine x_iload_n (pc := 38) (i := 3) (a := 3) g dX12_putCode_38 rfl rfl ?_
  refine x_iast (pc := 39) g hM dX12_putCode_39 (sm_4) (fun j6 hj6 m5 => ?_)
  refine x_aload_n (pc := 40) (i := 0) (a := 0) g dX12_putCode_40 rfl rfl ?_
  refine x_dup (pc := 41) g dX12_putCode_41 rfl ?_
  refine x_getI (pc := 42) g hM dX12_putCode_42 fl_12_503 (sm_0) rfl ?_
  refine x_iconst (pc := 45) g dX12_putCode_45 ic_1 ?_
  refine x_iadd (pc := 46) g dX12_putCode_46 ?_
  refine x_putI (pc := 47) g hM dX12_putCode_47 fl_12_503 ft_12_49 (sm_0) rfl (fun m7 => ?_)
  exact x_vret (pc := 50) g dX12_putCode_50 rfl (fun _ h => h)
theorem c_M_putCode (l : Launch) (G : xG) (hM : WM G) (m : xMem) (p0 : Int32) (p1 : Int32) (p2 : Int32) : xCv l G yX12_putCode cX12_putCode 4 none rm_M_putCode [.ref (xad G 0), .int p0, .int p1, .int p2] m (M_putCode m p0 p1 p2) :=
  xCt_of (own := RX12) (by decide) rfl (Nat.le_of_ble_eq_true rfl) rfl ⟨rfl, rfl⟩ (fun E g => T_M_putCode hM g m p0 p1 p2)
theorem T_M_joins_b45 {l : Launch} {G : xG} {E : xE} (hM : WM G) (g : xGood E l G.1 RX12 cX12_joins yX12_joins 2 none rm_M_joins) (p0 : Int32) (k0 : xMem → Option (xMem)) (hk0 : ∀ (m : xMem), X E G (fun r : xMem => ((none : Option Value), r)) 0 [(0, .ref (xad G 0)), (1, .int p0)] [] m (k0 m)) (m : xMem) : X E G (fun r : xMem => ((none : Option Value), r)) 45 [(0, .ref (xad G 0)), (1, .int p0)] [] m (M_joins_b45 p0 k0 m) := by
  unfold M_joins_b45
  refine x_aload_n (pc := 45) (i := 0) (a := 0) g dX12_joins_45 rfl rfl ?_
  refine x_dup (pc := 46) g dX12_joins_46 rfl ?_
  refine x_getI (pc := 47) g hM dX12_joins_47 fl_12_506 (sm_0) rfl ?_
  refine x_iconst (pc := 50) g dX12_joins_50 ic_1 ?_
  refine x_isub (pc := 51) g dX12_joins_51 ?_
  refine x_putI (pc := 52) g hM dX12_joins_52 fl_12_506 ft_12_51 (sm_0) rfl (fun m3 => ?_)
  refine x_aload_n (pc := 55) (i := 0) (a := 0) g dX12_joins_55 rfl rfl ?_
  refine x_aload_n (pc := 56) (i := 0) (a := 0) g dX12_joins_56 rfl rfl ?_
  refine x_getR (pc := 57) (x := 19) g hM dX12_joins_57 fl_12_99 (sm_0) rfl ?_
  refine x_aload_n (pc := 60) (i := 0) (a := 0) g dX12_joins_60 rfl rfl ?_
  refine x_getI (pc := 61) g hM dX12_joins_61 fl_12_506 (sm_0) rfl ?_
  refine x_iald (pc := 64) g hM dX12_joins_64 (sm_19) (fun j4 hj4 => ?_)
  refine x_iconst (pc := 65) g dX12_joins_65 ic_0 ?_
  refine x_iconst (pc := 66) g dX12_joins_66 ic_0 ?_
  refine x_Vv (pc := 67) g hM [.int (m3.1 19 j4), .int 0, .int 0] [] (c_M_putCode l G hM m3 (m3.1 19 j4) 0 0) dX12_joins_67 ml_12_509 (sm_0) rfl rfl (Nat.le_of_ble_eq_true rfl) ⟨rfl, rfl, Nat.le_of_ble_eq_true rfl, Nat.le_of_ble_eq_true rfl⟩ (fun r5 hr5 => ?_)
  refine x_goto (pc := 70) (t := 0) g dX12_joins_70 (by decide) ?_
  exact x_sub [0, 1] (hk0 r5) rfl
theorem T_M_joins_b0 {l : Launch} {G : xG} {E : xE} (hM : WM G) (g : xGood E l G.1 RX12 cX12_joins yX12_joins 2 none rm_M_joins) (p0 : Int32) : ∀ (n : Nat) (m : xMem), X E G (fun r : xMem => ((none : Option Value), r)) 0 [(0, .ref (xad G 0)), (1, .int p0)] [] m (M_joins_b0 p0 n m) := by
  intro n
  induction n with
  | zero => intro m; exact x_none
  | succ n ih =>
    intro m
    rw [M_joins_b0]
    refine x_aload_n (pc := 0) (i := 0) (a := 0) g dX12_joins_0 rfl rfl ?_
    refine x_getI (pc := 1) g hM dX12_joins_1 fl_12_506 (sm_0) rfl ?_
    refine x_if_le (pc := 4) (t := 73) g dX12_joins_4 (by decide) ?_ ?_
    · refine x_aload_n (pc := 7) (i := 0) (a := 0) g dX12_joins_7 rfl rfl ?_
      refine x_getR (pc := 8) (x := 19) g hM dX12_joins_8 fl_12_99 (sm_0) rfl ?_
      refine x_aload_n (pc := 11) (i := 0) (a := 0) g dX12_joins_11 rfl rfl ?_
      refine x_getI (pc := 12) g hM dX12_joins_12 fl_12_506 (sm_0) rfl ?_
      refine x_iconst (pc := 15) g dX12_joins_15 ic_1 ?_
      refine x_isub (pc := 16) g dX12_joins_16 ?_
      refine x_iald (pc := 17) g hM dX12_joins_17 (sm_19) (fun j1 hj1 => ?_)
      refine x_bipush (pc := 18) g dX12_joins_18 bi_21 ?_
      refine x_icmp_eq (pc := 20) (t := 45) g dX12_joins_20 (by decide) ?_ ?_
      · exact x_sub [0, 1] (T_M_joins_b45 hM g p0 (M_joins_b0 p0 n) ih m) rfl
      · refine x_aload_n (pc := 23) (i := 0) (a := 0) g dX12_joins_23 rfl rfl ?_
        refine x_getR (pc := 24) (x := 19) g hM dX12_joins_24 fl_12_99 (sm_0) rfl ?_
        refine x_aload_n (pc := 27) (i := 0) (a := 0) g dX12_joins_27 rfl rfl ?_
        refine x_getI (pc := 28) g hM dX12_joins_28 fl_12_506 (sm_0) rfl ?_
        refine x_iconst (pc := 31) g dX12_joins_31 ic_1 ?_
        refine x_isub (pc := 32) g dX12_joins_32 ?_
        refine x_iald (pc := 33) g hM dX12_joins_33 (sm_19) (fun j2 hj2 => ?_)
        refine x_bipush (pc := 34) g dX12_joins_34 bi_22 ?_
        refine x_icmp_ne (pc := 36) (t := 73) g dX12_joins_36 (by decide) ?_ ?_
        · refine x_iload_n (pc := 39) (i := 1) (a := 1) g dX12_joins_39 rfl rfl ?_
          refine x_bipush (pc := 40) g dX12_joins_40 bi_22 ?_
          refine x_icmp_ne (pc := 42) (t := 73) g dX12_joins_42 (by decide) ?_ ?_
          · exact x_sub [0, 1] (T_M_joins_b45 hM g p0 (M_joins_b0 p0 n) ih m) rfl
          · exact x_vret (pc := 73) g dX12_joins_73 rfl (fun _ h => h)
        · exact x_vret (pc := 73) g dX12_joins_73 rfl (fun _ h => h)
    · exact x_vret (pc := 73) g dX12_joins_73 rfl (fun _ h => h)
theorem T_M_joins {l : Launch} {G : xG} {E : xE} (hM : WM G) (g : xGood E l G.1 RX12 cX12_joins yX12_joins 2 none rm_M_joins) (m : xMem) (p0 : Int32) : X E G (fun r : xMem => ((none : Option Value), r)) 0 [(0, .ref (xad G 0)), (1, .int p0)] [] m (M_joins m p0) := by
  unfold M_joins
  exact x_sub [0, 1] (T_M_joins_b0 hM g p0 1000 m) rfl
theorem c_M_joins (l : Launch) (G : xG) (hM : WM G) (m : xMem) (p0 : Int32) : xCv l G yX12_joins cX12_joins 2 none rm_M_joins [.ref (xad G 0), .int p0] m (M_joins m p0) :=
  xCt_of (own := RX12) (by decide) rfl (Nat.le_of_ble_eq_true rfl) rfl ⟨rfl, rfl⟩ (fun E g => T_M_joins hM g m p0)
theorem T_M_nots_b0 {l : Launch} {G : xG} {E : xE} (hM : WM G) (g : xGood E l G.1 RX12 cX12_nots yX12_nots 1 none rm_M_nots) : ∀ (n : Nat) (m : xMem), X E G (fun r : xMem => ((none : Option Value), r)) 0 [(0, .ref (xad G 0))] [] m (M_nots_b0 n m) := by
  intro n
  induction n with
  | zero => intro m; exact x_none
  | succ n ih =>
    intro m
    rw [M_nots_b0]
    refine x_aload_n (pc := 0) (i := 0) (a := 0) g dX12_nots_0 rfl rfl ?_
    refine x_getI (pc := 1) g hM dX12_nots_1 fl_12_506 (sm_0) rfl ?_
    refine x_if_le (pc := 4) (t := 54) g dX12_nots_4 (by decide) ?_ ?_
    · refine x_aload_n (pc := 7) (i := 0) (a := 0) g dX12_nots_7 rfl rfl ?_
      refine x_getR (pc := 8) (x := 19) g hM dX12_nots_8 fl_12_99 (sm_0) rfl ?_
      refine x_aload_n (pc := 11) (i := 0) (a := 0) g dX12_nots_11 rfl rfl ?_
      refine x_getI (pc := 12) g hM dX12_nots_12 fl_12_506 (sm_0) rfl ?_
      refine x_iconst (pc := 15) g dX12_nots_15 ic_1 ?_
      refine x_isub (pc := 16) g dX12_nots_16 ?_
      refine x_iald (pc := 17) g hM dX12_nots_17 (sm_19) (fun j1 hj1 => ?_)
      refine x_bipush (pc := 18) g dX12_nots_18 bi_20 ?_
      refine x_icmp_ne (pc := 20) (t := 54) g dX12_nots_20 (by decide) ?_ ?_
      · refine x_aload_n (pc := 23) (i := 0) (a := 0) g dX12_nots_23 rfl rfl ?_
        refine x_dup (pc := 24) g dX12_nots_24 rfl ?_
        refine x_getI (pc := 25) g hM dX12_nots_25 fl_12_506 (sm_0) rfl ?_
        refine x_iconst (pc := 28) g dX12_nots_28 ic_1 ?_
        refine x_isub (pc := 29) g dX12_nots_29 ?_
        refine x_putI (pc := 30) g hM dX12_nots_30 fl_12_506 ft_12_51 (sm_0) rfl (fun m2 => ?_)
        refine x_aload_n (pc := 33) (i := 0) (a := 0) g dX12_nots_33 rfl rfl ?_
        refine x_dup (pc := 34) g dX12_nots_34 rfl ?_
        refine x_getI (pc := 35) g hM dX12_nots_35 fl_12_512 (sm_0) rfl ?_
        refine x_iconst (pc := 38) g dX12_nots_38 ic_1 ?_
        refine x_isub (pc := 39) g dX12_nots_39 ?_
        refine x_putI (pc := 40) g hM dX12_nots_40 fl_12_512 ft_12_52 (sm_0) rfl (fun m3 => ?_)
        refine x_aload_n (pc := 43) (i := 0) (a := 0) g dX12_nots_43 rfl rfl ?_
        refine x_bipush (pc := 44) g dX12_nots_44 bi_20 ?_
        refine x_iconst (pc := 46) g dX12_nots_46 ic_0 ?_
        refine x_iconst (pc := 47) g dX12_nots_47 ic_0 ?_
        refine x_Vv (pc := 48) g hM [.int 20, .int 0, .int 0] [] (c_M_putCode l G hM m3 20 0 0) dX12_nots_48 ml_12_509 (sm_0) rfl rfl (Nat.le_of_ble_eq_true rfl) ⟨rfl, rfl, Nat.le_of_ble_eq_true rfl, Nat.le_of_ble_eq_true rfl⟩ (fun r4 hr4 => ?_)
        refine x_goto (pc := 51) (t := 0) g dX12_nots_51 (by decide) ?_
        exact x_sub [0] (ih r4) rfl
      · exact x_vret (pc := 54) g dX12_nots_54 rfl (fun _ h => h)
    · exact x_vret (pc := 54) g dX12_nots_54 rfl (fun _ h => h)
theorem T_M_nots {l : Launch} {G : xG} {E : xE} (hM : WM G) (g : xGood E l G.1 RX12 cX12_nots yX12_nots 1 none rm_M_nots) (m : xMem) : X E G (fun r : xMem => ((none : Option Value), r)) 0 [(0, .ref (xad G 0))] [] m (M_nots m) := by
  unfold M_nots
  exact x_sub [0] (T_M_nots_b0 hM g 1000 m) rfl
theorem c_M_nots (l : Launch) (G : xG) (hM : WM G) (m : xMem) : xCv l G yX12_nots cX12_nots 1 none rm_M_nots [.ref (xad G 0)] m (M_nots m) :=
  xCt_of (own := RX12) (by decide) rfl (Nat.le_of_ble_eq_true rfl) rfl ⟨rfl, rfl⟩ (fun E g => T_M_nots hM g m)
theorem T_M_leafOf {l : Launch} {G : xG} {E : xE} (hM : WM G) (g : xGood E l G.1 RX12 cX12_leafOf yX12_leafOf 1 (some .int) rm_M_leafOf) (m : xMem) : X E G (fun r : Int32 => (some (Value.int r), m)) 0 [(0, .ref (xad G 0))] [] m (M_leafOf m) := by
  unfold M_leafOf
  refine x_aload_n (pc := 0) (i := 0) (a := 0) g dX12_leafOf_0 rfl rfl ?_
  refine x_ldc2 (pc := 1) g dX12_leafOf_1 kc_12_162 ?_
  refine x_Vi (pc := 4) g hM [.long 422725643876] [] (c_M_isWord l G hM m 422725643876) dX12_leafOf_4 ml_12_248 (sm_0) rfl rfl (Nat.le_of_ble_eq_true rfl) ⟨rfl, rfl, Nat.le_of_ble_eq_true rfl, Nat.le_of_ble_eq_true rfl⟩ (fun r1 hr1 => ?_)
  refine x_if_eq (pc := 7) (t := 14) g dX12_leafOf_7 (by decide) ?_ ?_
  · refine x_aload_n (pc := 14) (i := 0) (a := 0) g dX12_leafOf_14 rfl rfl ?_
    refine x_ldc2 (pc := 15) g dX12_leafOf_15 kc_12_164 ?_
    refine x_Vi (pc := 18) g hM [.long 1953459300] [] (c_M_isWord l G hM m 1953459300) dX12_leafOf_18 ml_12_248 (sm_0) rfl rfl (Nat.le_of_ble_eq_true rfl) ⟨rfl, rfl, Nat.le_of_ble_eq_true rfl, Nat.le_of_ble_eq_true rfl⟩ (fun r2 hr2 => ?_)
    refine x_if_eq (pc := 21) (t := 28) g dX12_leafOf_21 (by decide) ?_ ?_
    · refine x_aload_n (pc := 28) (i := 0) (a := 0) g dX12_leafOf_28 rfl rfl ?_
      refine x_ldc2 (pc := 29) g dX12_leafOf_29 kc_12_166 ?_
      refine x_Vi (pc := 32) g hM [.long 465726040947] [] (c_M_isWord l G hM m 465726040947) dX12_leafOf_32 ml_12_248 (sm_0) rfl rfl (Nat.le_of_ble_eq_true rfl) ⟨rfl, rfl, Nat.le_of_ble_eq_true rfl, Nat.le_of_ble_eq_true rfl⟩ (fun r3 hr3 => ?_)
      refine x_if_eq (pc := 35) (t := 42) g dX12_leafOf_35 (by decide) ?_ ?_
      · refine x_aload_n (pc := 42) (i := 0) (a := 0) g dX12_leafOf_42 rfl rfl ?_
        refine x_ldc2 (pc := 43) g dX12_leafOf_43 kc_12_168 ?_
        refine x_Vi (pc := 46) g hM [.long 25209] [] (c_M_isWord l G hM m 25209) dX12_leafOf_46 ml_12_248 (sm_0) rfl rfl (Nat.le_of_ble_eq_true rfl) ⟨rfl, rfl, Nat.le_of_ble_eq_true rfl, Nat.le_of_ble_eq_true rfl⟩ (fun r4 hr4 => ?_)
        refine x_if_eq (pc := 49) (t := 56) g dX12_leafOf_49 (by decide) ?_ ?_
        · refine x_aload_n (pc := 56) (i := 0) (a := 0) g dX12_leafOf_56 rfl rfl ?_
          refine x_ldc2 (pc := 57) g dX12_leafOf_57 kc_12_170 ?_
          refine x_Vi (pc := 60) g hM [.long 448377483891] [] (c_M_isWord l G hM m 448377483891) dX12_leafOf_60 ml_12_248 (sm_0) rfl rfl (Nat.le_of_ble_eq_true rfl) ⟨rfl, rfl, Nat.le_of_ble_eq_true rfl, Nat.le_of_ble_eq_true rfl⟩ (fun r5 hr5 => ?_)
          refine x_if_eq (pc := 63) (t := 70) g dX12_leafOf_63 (by decide) ?_ ?_
          · refine x_aload_n (pc := 70) (i := 0) (a := 0) g dX12_leafOf_70 rfl rfl ?_
            refine x_ldc2 (pc := 71) g dX12_leafOf_71 kc_12_172 ?_
            refine x_Vi (pc := 74) g hM [.long 461414299507] [] (c_M_isWord l G hM m 461414299507) dX12_leafOf_74 ml_12_248 (sm_0) rfl rfl (Nat.le_of_ble_eq_true rfl) ⟨rfl, rfl, Nat.le_of_ble_eq_true rfl, Nat.le_of_ble_eq_true rfl⟩ (fun r6 hr6 => ?_)
            refine x_if_eq (pc := 77) (t := 84) g dX12_leafOf_77 (by decide) ?_ ?_
            · refine x_aload_n (pc := 84) (i := 0) (a := 0) g dX12_leafOf_84 rfl rfl ?_
              refine x_ldc2 (pc := 85) g dX12_leafOf_85 kc_12_174 ?_
              refine x_Vi (pc := 88) g hM [.long 120299675936100] [] (c_M_isWord l G hM m 120299675936100) dX12_leafOf_88 ml_12_248 (sm_0) rfl rfl (Nat.le_of_ble_eq_true rfl) ⟨rfl, rfl, Nat.le_of_ble_eq_true rfl, Nat.le_of_ble_eq_true rfl⟩ (fun r7 hr7 => ?_)
              refine x_if_eq (pc := 91) (t := 99) g dX12_leafOf_91 (by decide) ?_ ?_
              · refine x_aload_n (pc := 99) (i := 0) (a := 0) g dX12_leafOf_99 rfl rfl ?_
                refine x_ldc2 (pc := 100) g dX12_leafOf_100 kc_12_176 ?_
                refine x_Vi (pc := 103) g hM [.long 121450625394034] [] (c_M_isWord l G hM m 121450625394034) dX12_leafOf_103 ml_12_248 (sm_0) rfl rfl (Nat.le_of_ble_eq_true rfl) ⟨rfl, rfl, Nat.le_of_ble_eq_true rfl, Nat.le_of_ble_eq_true rfl⟩ (fun r8 hr8 => ?_)
                refine x_if_eq (pc := 106) (t := 114) g dX12_leafOf_106 (by decide) ?_ ?_
                · refine x_iconst (pc := 114) g dX12_leafOf_114 ic_m1 ?_
                  exact x_iret (pc := 115) g dX12_leafOf_115 rfl (fun _ h => h)
                · refine x_bipush (pc := 109) g dX12_leafOf_109 bi_7 ?_
                  refine x_goto (pc := 111) (t := 115) g dX12_leafOf_111 (by decide) ?_
                  exact x_iret (pc := 115) g dX12_leafOf_115 rfl (fun _ h => h)
              · refine x_bipush (pc := 94) g dX12_leafOf_94 bi_6 ?_
                refine x_goto (pc := 96) (t := 115) g dX12_leafOf_96 (by decide) ?_
                exact x_iret (pc := 115) g dX12_leafOf_115 rfl (fun _ h => h)
            · refine x_iconst (pc := 80) g dX12_leafOf_80 ic_5 ?_
              refine x_goto (pc := 81) (t := 115) g dX12_leafOf_81 (by decide) ?_
              exact x_iret (pc := 115) g dX12_leafOf_115 rfl (fun _ h => h)
          · refine x_iconst (pc := 66) g dX12_leafOf_66 ic_4 ?_
            refine x_goto (pc := 67) (t := 115) g dX12_leafOf_67 (by decide) ?_
            exact x_iret (pc := 115) g dX12_leafOf_115 rfl (fun _ h => h)
        · refine x_iconst (pc := 52) g dX12_leafOf_52 ic_3 ?_
          refine x_goto (pc := 53) (t := 115) g dX12_leafOf_53 (by decide) ?_
          exact x_iret (pc := 115) g dX12_leafOf_115 rfl (fun _ h => h)
      · refine x_iconst (pc := 38) g dX12_leafOf_38 ic_2 ?_
        refine x_goto (pc := 39) (t := 115) g dX12_leafOf_39 (by decide) ?_
        exact x_iret (pc := 115) g dX12_leafOf_115 rfl (fun _ h => h)
    · refine x_iconst (pc := 24) g dX12_leafOf_24 ic_1 ?_
      refine x_goto (pc := 25) (t := 115) g dX12_leafOf_25 (by decide) ?_
      exact x_iret (pc := 115) g dX12_leafOf_115 rfl (fun _ h => h)
  · refine x_iconst (pc := 10) g dX12_leafOf_10 ic_0 ?_
    refine x_goto (pc := 11) (t := 115) g dX12_leafOf_11 (by decide) ?_
    exact x_iret (pc := 115) g dX12_leafOf_115 rfl (fun _ h => h)
theorem c_M_leafOf (l : Launch) (G : xG) (hM : WM G) (m : xMem) : xCi l G yX12_leafOf cX12_leafOf 1 (some .int) rm_M_leafOf [.ref (xad G 0)] m (M_leafOf m) :=
  xCt_of (own := RX12) (by decide) rfl (Nat.le_of_ble_eq_true rfl) rfl ⟨rfl, rfl⟩ (fun E g => T_M_leafOf hM g m)
theorem T_M_operand_b56 {l : Launch} {G : xG} {E : xE} (hM : WM G) (g : xGood E l G.1 RX12 cX12_operand yX12_operand 5 (some .boolean) rm_M_operand) (m : xMem) : X E G (fun r : Int32 × xMem => (some (Value.int r.1), r.2)) 56 [(0, .ref (xad G 0))] [] m (M_operand_b56 m) := by
  unfold M_operand_b56
  refine x_aload_n (pc := 56) (i := 0) (a := 0) g dX12_operand_56 rfl rfl ?_
  refine x_iconst (pc := 57) g dX12_operand_57 ic_4 ?_
  refine x_Vim (pc := 58) g hM [.int 4] [] (c_M_bad l G hM m 4) dX12_operand_58 ml_12_217 (sm_0) rfl rfl (Nat.le_of_ble_eq_true rfl) ⟨rfl, rfl, Nat.le_of_ble_eq_true rfl, Nat.le_of_ble_eq_true rfl⟩ (fun r17 hr17 => ?_)
  exact x_zret (pc := 61) g dX12_operand_61 rfl (fun _ _ h => h)
theorem T_M_operand_b103 {l : Launch} {G : xG} {E : xE} (hM : WM G) (g : xGood E l G.1 RX12 cX12_operand yX12_operand 5 (some .boolean) rm_M_operand) (s0 : Int32) (s1 : Int32) (m : xMem) : X E G (fun r : Int32 × xMem => (some (Value.int r.1), r.2)) 103 [(0, .ref (xad G 0))] [.int s0, .int s1, .ref (xad G 19)] m (M_operand_b103 s0 s1 m) := by
  unfold M_operand_b103
  refine x_iast (pc := 103) g hM dX12_operand_103 (sm_19) (fun j22 hj22 m21 => ?_)
  refine x_aload_n (pc := 104) (i := 0) (a := 0) g dX12_operand_104 rfl rfl ?_
  refine x_dup (pc := 105) g dX12_operand_105 rfl ?_
  refine x_getI (pc := 106) g hM dX12_operand_106 fl_12_506 (sm_0) rfl ?_
  refine x_iconst (pc := 109) g dX12_operand_109 ic_1 ?_
  refine x_iadd (pc := 110) g dX12_operand_110 ?_
  refine x_putI (pc := 111) g hM dX12_operand_111 fl_12_506 ft_12_51 (sm_0) rfl (fun m23 => ?_)
  refine x_aload_n (pc := 114) (i := 0) (a := 0) g dX12_operand_114 rfl rfl ?_
  refine x_dup (pc := 115) g dX12_operand_115 rfl ?_
  refine x_getI (pc := 116) g hM dX12_operand_116 fl_12_512 (sm_0) rfl ?_
  refine x_iconst (pc := 119) g dX12_operand_119 ic_1 ?_
  refine x_iadd (pc := 120) g dX12_operand_120 ?_
  refine x_putI (pc := 121) g hM dX12_operand_121 fl_12_512 ft_12_52 (sm_0) rfl (fun m24 => ?_)
  refine x_iconst (pc := 124) g dX12_operand_124 ic_1 ?_
  exact x_zretc (pc := 125) g dX12_operand_125 rfl (Or.inr rfl) (fun _ h => h)
theorem T_M_operand_b84 {l : Launch} {G : xG} {E : xE} (hM : WM G) (g : xGood E l G.1 RX12 cX12_operand yX12_operand 5 (some .boolean) rm_M_operand) (v1 : Int32) (m : xMem) : X E G (fun r : Int32 × xMem => (some (Value.int r.1), r.2)) 84 [(0, .ref (xad G 0)), (1, .int v1)] [] m (M_operand_b84 v1 m) := by
  unfold M_operand_b84
  refine x_aload_n (pc := 84) (i := 0) (a := 0) g dX12_operand_84 rfl rfl ?_
  refine x_getR (pc := 85) (x := 19) g hM dX12_operand_85 fl_12_99 (sm_0) rfl ?_
  refine x_aload_n (pc := 88) (i := 0) (a := 0) g dX12_operand_88 rfl rfl ?_
  refine x_getI (pc := 89) g hM dX12_operand_89 fl_12_506 (sm_0) rfl ?_
  refine x_iload_n (pc := 92) (i := 1) (a := 1) g dX12_operand_92 rfl rfl ?_
  refine x_if_eq (pc := 93) (t := 101) g dX12_operand_93 (by decide) ?_ ?_
  · refine x_bipush (pc := 101) g dX12_operand_101 bi_23 ?_
    exact x_sub [0] (T_M_operand_b103 hM g 23 (m.1 0 51) m) rfl
  · refine x_bipush (pc := 96) g dX12_operand_96 bi_20 ?_
    refine x_goto (pc := 98) (t := 103) g dX12_operand_98 (by decide) ?_
    exact x_sub [0] (T_M_operand_b103 hM g 20 (m.1 0 51) m) rfl
theorem T_M_operand_b186 {l : Launch} {G : xG} {E : xE} (hM : WM G) (g : xGood E l G.1 RX12 cX12_operand yX12_operand 5 (some .boolean) rm_M_operand) (v3 : Int32) (s0 : Int32) (m : xMem) : X E G (fun r : Int32 × xMem => (some (Value.int r.1), r.2)) 186 [(0, .ref (xad G 0)), (3, .int v3)] [.int s0] m (M_operand_b186 v3 s0 m) := by
  unfold M_operand_b186
  refine x_istore (pc := 186) (lv' := [(4, .int s0), (0, .ref (xad G 0)), (3, .int v3)]) g dX12_operand_186 (by decide) rfl ?_
  refine x_iload (pc := 188) (a := 0) g dX12_operand_188 rfl ?_
  refine x_if_ne (pc := 190) (t := 195) g dX12_operand_190 (by decide) ?_ ?_
  · refine x_iconst (pc := 193) g dX12_operand_193 ic_0 ?_
    exact x_zretc (pc := 194) g dX12_operand_194 rfl (Or.inl rfl) (fun _ h => h)
  · refine x_aload_n (pc := 195) (i := 0) (a := 1) g dX12_operand_195 rfl rfl ?_
    refine x_iload_n (pc := 196) (i := 3) (a := 2) g dX12_operand_196 rfl rfl ?_
    refine x_iconst (pc := 197) g dX12_operand_197 ic_0 ?_
    refine x_aload_n (pc := 198) (i := 0) (a := 1) g dX12_operand_198 rfl rfl ?_
    refine x_getI (pc := 199) g hM dX12_operand_199 fl_12_227 (sm_0) rfl ?_
    refine x_Vv (pc := 202) g hM [.int v3, .int 0, .int (m.1 0 18)] [] (c_M_putCode l G hM m v3 0 (m.1 0 18)) dX12_operand_202 ml_12_509 (sm_0) rfl rfl (Nat.le_of_ble_eq_true rfl) ⟨rfl, rfl, Nat.le_of_ble_eq_true rfl, Nat.le_of_ble_eq_true rfl⟩ (fun r18 hr18 => ?_)
    refine x_aload_n (pc := 205) (i := 0) (a := 1) g dX12_operand_205 rfl rfl ?_
    refine x_Vv (pc := 206) g hM [] [] (c_M_go l G hM r18) dX12_operand_206 ml_12_220 (sm_0) rfl rfl (Nat.le_of_ble_eq_true rfl) ⟨rfl, rfl, Nat.le_of_ble_eq_true rfl, Nat.le_of_ble_eq_true rfl⟩ (fun r19 hr19 => ?_)
    refine x_iconst (pc := 209) g dX12_operand_209 ic_1 ?_
    exact x_zretc (pc := 210) g dX12_operand_210 rfl (Or.inr rfl) (fun _ h => h)
theorem T_M_operand_b237 {l : Launch} {G : xG} {E : xE} (hM : WM G) (g : xGood E l G.1 RX12 cX12_operand yX12_operand 5 (some .boolean) rm_M_operand) (m : xMem) : X E G (fun r : Int32 × xMem => (some (Value.int r.1), r.2)) 237 [(0, .ref (xad G 0))] [] m (M_operand_b237 m) := by
  unfold M_operand_b237
  refine x_aload_n (pc := 237) (i := 0) (a := 0) g dX12_operand_237 rfl rfl ?_
  refine x_iconst (pc := 238) g dX12_operand_238 ic_1 ?_
  refine x_Vim (pc := 239) g hM [.int 1] [] (c_M_bad l G hM m 1) dX12_operand_239 ml_12_217 (sm_0) rfl rfl (Nat.le_of_ble_eq_true rfl) ⟨rfl, rfl, Nat.le_of_ble_eq_true rfl, Nat.le_of_ble_eq_true rfl⟩ (fun r20 hr20 => ?_)
  exact x_zret (pc := 242) g dX12_operand_242 rfl (fun _ _ h => h)
theorem T_M_operand_b38 {l : Launch} {G : xG} {E : xE} (hM : WM G) (g : xGood E l G.1 RX12 cX12_operand yX12_operand 5 (some .boolean) rm_M_operand) (v1 : Int32) (v2 : Int32) (v3 : Int32) (m : xMem) : X E G (fun r : Int32 × xMem => (some (Value.int r.1), r.2)) 38 [(0, .ref (xad G 0)), (1, .int v1), (2, .int v2), (3, .int v3)] [] m (M_operand_b38 v1 v2 v3 m) := by
  unfold M_operand_b38
  refine x_aload_n (pc := 38) (i := 0) (a := 0) g dX12_operand_38 rfl rfl ?_
  refine x_getI (pc := 39) g hM dX12_operand_39 fl_12_518 (sm_0) rfl ?_
  refine x_bipush (pc := 42) g dX12_operand_42 bi_20 ?_
  refine x_icmp_eq (pc := 44) (t := 56) g dX12_operand_44 (by decide) ?_ ?_
  · exact x_sub [0] (T_M_operand_b56 hM g m) rfl
  · refine x_aload_n (pc := 47) (i := 0) (a := 0) g dX12_operand_47 rfl rfl ?_
    refine x_getI (pc := 48) g hM dX12_operand_48 fl_12_512 (sm_0) rfl ?_
    refine x_bipush (pc := 51) g dX12_operand_51 bi_8 ?_
    refine x_icmp_le (pc := 53) (t := 62) g dX12_operand_53 (by decide) ?_ ?_
    · exact x_sub [0] (T_M_operand_b56 hM g m) rfl
    · refine x_aload_n (pc := 62) (i := 0) (a := 0) g dX12_operand_62 rfl rfl ?_
      refine x_dup (pc := 63) g dX12_operand_63 rfl ?_
      refine x_getI (pc := 64) g hM dX12_operand_64 fl_12_518 (sm_0) rfl ?_
      refine x_iconst (pc := 67) g dX12_operand_67 ic_1 ?_
      refine x_iadd (pc := 68) g dX12_operand_68 ?_
      refine x_putI (pc := 69) g hM dX12_operand_69 fl_12_518 ft_12_50 (sm_0) rfl (fun m5 => ?_)
      refine x_aload_n (pc := 72) (i := 0) (a := 0) g dX12_operand_72 rfl rfl ?_
      refine x_Vv (pc := 73) g hM [] [] (c_M_go l G hM m5) dX12_operand_73 ml_12_220 (sm_0) rfl rfl (Nat.le_of_ble_eq_true rfl) ⟨rfl, rfl, Nat.le_of_ble_eq_true rfl, Nat.le_of_ble_eq_true rfl⟩ (fun r6 hr6 => ?_)
      refine x_iload_n (pc := 76) (i := 1) (a := 1) g dX12_operand_76 rfl rfl ?_
      refine x_if_ne (pc := 77) (t := 84) g dX12_operand_77 (by decide) ?_ ?_
      · refine x_iload_n (pc := 80) (i := 2) (a := 2) g dX12_operand_80 rfl rfl ?_
        refine x_if_eq (pc := 81) (t := 126) g dX12_operand_81 (by decide) ?_ ?_
        · refine x_aload_n (pc := 126) (i := 0) (a := 0) g dX12_operand_126 rfl rfl ?_
          refine x_iconst (pc := 127) g dX12_operand_127 ic_1 ?_
          refine x_putZ (pc := 128) g hM dX12_operand_128 fl_12_521 ft_12_53 (sm_0) rfl (Or.inr rfl) (fun m7 => ?_)
          refine x_iload_n (pc := 131) (i := 3) (a := 3) g dX12_operand_131 rfl rfl ?_
          refine x_iconst (pc := 132) g dX12_operand_132 ic_2 ?_
          refine x_icmp_ge (pc := 133) (t := 145) g dX12_operand_133 (by decide) ?_ ?_
          · refine x_aload_n (pc := 136) (i := 0) (a := 0) g dX12_operand_136 rfl rfl ?_
            refine x_iload_n (pc := 137) (i := 3) (a := 3) g dX12_operand_137 rfl rfl ?_
            refine x_iconst (pc := 138) g dX12_operand_138 ic_0 ?_
            refine x_iconst (pc := 139) g dX12_operand_139 ic_0 ?_
            refine x_Vv (pc := 140) g hM [.int v3, .int 0, .int 0] [] (c_M_putCode l G hM m7 v3 0 0) dX12_operand_140 ml_12_509 (sm_0) rfl rfl (Nat.le_of_ble_eq_true rfl) ⟨rfl, rfl, Nat.le_of_ble_eq_true rfl, Nat.le_of_ble_eq_true rfl⟩ (fun r8 hr8 => ?_)
            refine x_iconst (pc := 143) g dX12_operand_143 ic_1 ?_
            exact x_zretc (pc := 144) g dX12_operand_144 rfl (Or.inr rfl) (fun _ h => h)
          · refine x_iload_n (pc := 145) (i := 3) (a := 3) g dX12_operand_145 rfl rfl ?_
            refine x_iconst (pc := 146) g dX12_operand_146 ic_5 ?_
            refine x_icmp_ge (pc := 147) (t := 211) g dX12_operand_147 (by decide) ?_ ?_
            · refine x_iload_n (pc := 150) (i := 3) (a := 3) g dX12_operand_150 rfl rfl ?_
              refine x_iconst (pc := 151) g dX12_operand_151 ic_2 ?_
              refine x_icmp_ne (pc := 152) (t := 162) g dX12_operand_152 (by decide) ?_ ?_
              · refine x_aload_n (pc := 155) (i := 0) (a := 0) g dX12_operand_155 rfl rfl ?_
                refine x_Vim (pc := 156) g hM [] [] (c_M_isSide l G hM m7) dX12_operand_156 ml_12_283 (sm_0) rfl rfl (Nat.le_of_ble_eq_true rfl) ⟨rfl, rfl, Nat.le_of_ble_eq_true rfl, Nat.le_of_ble_eq_true rfl⟩ (fun r9 hr9 => ?_)
                refine x_goto (pc := 159) (t := 186) g dX12_operand_159 (by decide) ?_
                exact x_sub [0, 3] (T_M_operand_b186 hM g v3 r9.1 r9.2) rfl
              · refine x_iload_n (pc := 162) (i := 3) (a := 3) g dX12_operand_162 rfl rfl ?_
                refine x_iconst (pc := 163) g dX12_operand_163 ic_3 ?_
                refine x_icmp_ne (pc := 164) (t := 182) g dX12_operand_164 (by decide) ?_ ?_
                · refine x_aload_n (pc := 167) (i := 0) (a := 0) g dX12_operand_167 rfl rfl ?_
                  refine x_bipush (pc := 168) g dX12_operand_168 bi_6 ?_
                  refine x_aload_n (pc := 170) (i := 0) (a := 0) g dX12_operand_170 rfl rfl ?_
                  refine x_getR (pc := 171) (x := 2) g hM dX12_operand_171 fl_12_33 (sm_0) rfl ?_
                  refine x_iconst (pc := 174) g dX12_operand_174 ic_1 ?_
                  refine x_ialdc (pc := 175) g hM dX12_operand_175 (sm_2) ix_1_302 ?_
                  refine x_Vim (pc := 176) g hM [.int 6, .int (m7.1 2 1)] [] (c_M_looksAt l G hM m7 6 (m7.1 2 1)) dX12_operand_176 ml_12_245 (sm_0) rfl rfl (Nat.le_of_ble_eq_true rfl) ⟨rfl, rfl, Nat.le_of_ble_eq_true rfl, Nat.le_of_ble_eq_true rfl⟩ (fun r10 hr10 => ?_)
                  refine x_goto (pc := 179) (t := 186) g dX12_operand_179 (by decide) ?_
                  exact x_sub [0, 3] (T_M_operand_b186 hM g v3 r10.1 r10.2) rfl
                · refine x_aload_n (pc := 182) (i := 0) (a := 0) g dX12_operand_182 rfl rfl ?_
                  refine x_Vim (pc := 183) g hM [] [] (c_M_isKind l G hM m7) dX12_operand_183 ml_12_289 (sm_0) rfl rfl (Nat.le_of_ble_eq_true rfl) ⟨rfl, rfl, Nat.le_of_ble_eq_true rfl, Nat.le_of_ble_eq_true rfl⟩ (fun r11 hr11 => ?_)
                  exact x_sub [0, 3] (T_M_operand_b186 hM g v3 r11.1 r11.2) rfl
            · refine x_aload_n (pc := 211) (i := 0) (a := 0) g dX12_operand_211 rfl rfl ?_
              refine x_getI (pc := 212) g hM dX12_operand_212 fl_12_191 (sm_0) rfl ?_
              refine x_iconst (pc := 215) g dX12_operand_215 ic_3 ?_
              refine x_icmp_ne (pc := 216) (t := 237) g dX12_operand_216 (by decide) ?_ ?_
              · refine x_aload_n (pc := 219) (i := 0) (a := 0) g dX12_operand_219 rfl rfl ?_
                refine x_getI (pc := 220) g hM dX12_operand_220 fl_12_201 (sm_0) rfl ?_
                refine x_bipush (pc := 223) g dX12_operand_223 bi_60 ?_
                refine x_icmp_lt (pc := 225) (t := 237) g dX12_operand_225 (by decide) ?_ ?_
                · exact x_sub [0] (T_M_operand_b237 hM g m7) rfl
                · refine x_aload_n (pc := 228) (i := 0) (a := 0) g dX12_operand_228 rfl rfl ?_
                  refine x_getI (pc := 229) g hM dX12_operand_229 fl_12_201 (sm_0) rfl ?_
                  refine x_bipush (pc := 232) g dX12_operand_232 bi_62 ?_
                  refine x_icmp_le (pc := 234) (t := 243) g dX12_operand_234 (by decide) ?_ ?_
                  · exact x_sub [0] (T_M_operand_b237 hM g m7) rfl
                  · refine x_aload_n (pc := 243) (i := 0) (a := 0) g dX12_operand_243 rfl rfl ?_
                    refine x_getI (pc := 244) g hM dX12_operand_244 fl_12_201 (sm_0) rfl ?_
                    refine x_nmI (fun x12 => ?_)
                    refine x_istore (pc := 247) (lv' := [(4, .int x12), (0, .ref (xad G 0)), (1, .int v1), (2, .int v2), (3, .int v3)]) g dX12_operand_247 (by decide) rfl ?_
                    refine x_aload_n (pc := 249) (i := 0) (a := 1) g dX12_operand_249 rfl rfl ?_
                    refine x_Vv (pc := 250) g hM [] [] (c_M_go l G hM m7) dX12_operand_250 ml_12_220 (sm_0) rfl rfl (Nat.le_of_ble_eq_true rfl) ⟨rfl, rfl, Nat.le_of_ble_eq_true rfl, Nat.le_of_ble_eq_true rfl⟩ (fun r13 hr13 => ?_)
                    refine x_aload_n (pc := 253) (i := 0) (a := 1) g dX12_operand_253 rfl rfl ?_
                    refine x_getI (pc := 254) g hM dX12_operand_254 fl_12_191 (sm_0) rfl ?_
                    refine x_iconst (pc := 257) g dX12_operand_257 ic_2 ?_
                    refine x_icmp_eq (pc := 258) (t := 267) g dX12_operand_258 (by decide) ?_ ?_
                    · refine x_aload_n (pc := 267) (i := 0) (a := 1) g dX12_operand_267 rfl rfl ?_
                      refine x_iload_n (pc := 268) (i := 3) (a := 4) g dX12_operand_268 rfl rfl ?_
                      refine x_iload (pc := 269) (a := 0) g dX12_operand_269 rfl ?_
                      refine x_aload_n (pc := 271) (i := 0) (a := 1) g dX12_operand_271 rfl rfl ?_
                      refine x_getI (pc := 272) g hM dX12_operand_272 fl_12_201 (sm_0) rfl ?_
                      refine x_Vv (pc := 275) g hM [.int v3, .int x12, .int (r13.1 0 14)] [] (c_M_putCode l G hM r13 v3 x12 (r13.1 0 14)) dX12_operand_275 ml_12_509 (sm_0) rfl rfl (Nat.le_of_ble_eq_true rfl) ⟨rfl, rfl, Nat.le_of_ble_eq_true rfl, Nat.le_of_ble_eq_true rfl⟩ (fun r14 hr14 => ?_)
                      refine x_aload_n (pc := 278) (i := 0) (a := 1) g dX12_operand_278 rfl rfl ?_
                      refine x_Vv (pc := 279) g hM [] [] (c_M_go l G hM r14) dX12_operand_279 ml_12_220 (sm_0) rfl rfl (Nat.le_of_ble_eq_true rfl) ⟨rfl, rfl, Nat.le_of_ble_eq_true rfl, Nat.le_of_ble_eq_true rfl⟩ (fun r15 hr15 => ?_)
                      refine x_iconst (pc := 282) g dX12_operand_282 ic_1 ?_
                      exact x_zretc (pc := 283) g dX12_operand_283 rfl (Or.inr rfl) (fun _ h => h)
                    · refine x_aload_n (pc := 261) (i := 0) (a := 1) g dX12_operand_261 rfl rfl ?_
                      refine x_iconst (pc := 262) g dX12_operand_262 ic_1 ?_
                      refine x_Vim (pc := 263) g hM [.int 1] [] (c_M_bad l G hM r13 1) dX12_operand_263 ml_12_217 (sm_0) rfl rfl (Nat.le_of_ble_eq_true rfl) ⟨rfl, rfl, Nat.le_of_ble_eq_true rfl, Nat.le_of_ble_eq_true rfl⟩ (fun r16 hr16 => ?_)
                      exact x_zret (pc := 266) g dX12_operand_266 rfl (fun _ _ h => h)
              · exact x_sub [0] (T_M_operand_b237 hM g m7) rfl
        · exact x_sub [0, 1] (T_M_operand_b84 hM g v1 r6) rfl
      · exact x_sub [0, 1] (T_M_operand_b84 hM g v1 r6) rfl
theorem T_M_operand {l : Launch} {G : xG} {E : xE} (hM : WM G) (g : xGood E l G.1 RX12 cX12_operand yX12_operand 5 (some .boolean) rm_M_operand) (m : xMem) : X E G (fun r : Int32 × xMem => (some (Value.int r.1), r.2)) 0 [(0, .ref (xad G 0))] [] m (M_operand m) := by
  unfold M_operand
  refine x_aload_n (pc := 0) (i := 0) (a := 0) g dX12_operand_0 rfl rfl ?_
  refine x_ldc2 (pc := 1) g dX12_operand_1 kc_12_160 ?_
  refine x_Vi (pc := 4) g hM [.long 7237492] [] (c_M_isWord l G hM m 7237492) dX12_operand_4 ml_12_248 (sm_0) rfl rfl (Nat.le_of_ble_eq_true rfl) ⟨rfl, rfl, Nat.le_of_ble_eq_true rfl, Nat.le_of_ble_eq_true rfl⟩ (fun r1 hr1 => ?_)
  refine x_istore_n (pc := 7) (i := 1) (lv' := [(1, .int r1), (0, .ref (xad G 0))]) g dX12_operand_7 rfl (by decide) rfl ?_
  refine x_aload_n (pc := 8) (i := 0) (a := 1) g dX12_operand_8 rfl rfl ?_
  refine x_bipush (pc := 9) g dX12_operand_9 bi_40 ?_
  refine x_Vi (pc := 11) g hM [.int 40] [] (c_M_isSign l G hM m 40) dX12_operand_11 ml_12_214 (sm_0) rfl rfl (Nat.le_of_ble_eq_true rfl) ⟨rfl, rfl, Nat.le_of_ble_eq_true rfl, Nat.le_of_ble_eq_true rfl⟩ (fun r2 hr2 => ?_)
  refine x_istore_n (pc := 14) (i := 2) (lv' := [(2, .int r2), (1, .int r1), (0, .ref (xad G 0))]) g dX12_operand_14 rfl (by decide) rfl ?_
  refine x_aload_n (pc := 15) (i := 0) (a := 2) g dX12_operand_15 rfl rfl ?_
  refine x_Vi (pc := 16) g hM [] [] (c_M_leafOf l G hM m) dX12_operand_16 ml_12_515 (sm_0) rfl rfl (Nat.le_of_ble_eq_true rfl) ⟨rfl, rfl, Nat.le_of_ble_eq_true rfl, Nat.le_of_ble_eq_true rfl⟩ (fun r3 hr3 => ?_)
  refine x_istore_n (pc := 19) (i := 3) (lv' := [(3, .int r3), (2, .int r2), (1, .int r1), (0, .ref (xad G 0))]) g dX12_operand_19 rfl (by decide) rfl ?_
  refine x_iload_n (pc := 20) (i := 1) (a := 2) g dX12_operand_20 rfl rfl ?_
  refine x_if_ne (pc := 21) (t := 38) g dX12_operand_21 (by decide) ?_ ?_
  · refine x_iload_n (pc := 24) (i := 2) (a := 1) g dX12_operand_24 rfl rfl ?_
    refine x_if_ne (pc := 25) (t := 38) g dX12_operand_25 (by decide) ?_ ?_
    · refine x_iload_n (pc := 28) (i := 3) (a := 0) g dX12_operand_28 rfl rfl ?_
      refine x_if_ge (pc := 29) (t := 38) g dX12_operand_29 (by decide) ?_ ?_
      · refine x_aload_n (pc := 32) (i := 0) (a := 3) g dX12_operand_32 rfl rfl ?_
        refine x_iconst (pc := 33) g dX12_operand_33 ic_1 ?_
        refine x_Vim (pc := 34) g hM [.int 1] [] (c_M_bad l G hM m 1) dX12_operand_34 ml_12_217 (sm_0) rfl rfl (Nat.le_of_ble_eq_true rfl) ⟨rfl, rfl, Nat.le_of_ble_eq_true rfl, Nat.le_of_ble_eq_true rfl⟩ (fun r4 hr4 => ?_)
        exact x_zret (pc := 37) g dX12_operand_37 rfl (fun _ _ h => h)
      · exact x_sub [3, 2, 1, 0] (T_M_operand_b38 hM g r1 r2 r3 m) rfl
    · exact x_sub [3, 2, 1, 0] (T_M_operand_b38 hM g r1 r2 r3 m) rfl
  · exact x_sub [3, 2, 1, 0] (T_M_operand_b38 hM g r1 r2 r3 m) rfl
theorem c_M_operand (l : Launch) (G : xG) (hM : WM G) (m : xMem) : xCim l G yX12_operand cX12_operand 5 (some .boolean) rm_M_operand [.ref (xad G 0)] m (M_operand m) :=
  xCt_of (own := RX12) (by decide) rfl (Nat.le_of_ble_eq_true rfl) rfl ⟨rfl, rfl⟩ (fun E g => T_M_operand hM g m)
theorem T_M_behind_b70 {l : Launch} {G : xG} {E : xE} (hM : WM G) (g : xGood E l G.1 RX12 cX12_behind yX12_behind 1 (some .boolean) rm_M_behind) (s0 : Int32) (s1 : Int32) (m : xMem) : X E G (fun r : Int32 × xMem => (some (Value.int r.1), r.2)) 70 [(0, .ref (xad G 0))] [.int s0, .int s1, .ref (xad G 19)] m (M_behind_b70 s0 s1 m) := by
  unfold M_behind_b70
  refine x_iast (pc := 70) g hM dX12_behind_70 (sm_19) (fun j14 hj14 m13 => ?_)
  refine x_aload_n (pc := 71) (i := 0) (a := 0) g dX12_behind_71 rfl rfl ?_
  refine x_dup (pc := 72) g dX12_behind_72 rfl ?_
  refine x_getI (pc := 73) g hM dX12_behind_73 fl_12_506 (sm_0) rfl ?_
  refine x_iconst (pc := 76) g dX12_behind_76 ic_1 ?_
  refine x_iadd (pc := 77) g dX12_behind_77 ?_
  refine x_putI (pc := 78) g hM dX12_behind_78 fl_12_506 ft_12_51 (sm_0) rfl (fun m15 => ?_)
  refine x_aload_n (pc := 81) (i := 0) (a := 0) g dX12_behind_81 rfl rfl ?_
  refine x_iconst (pc := 82) g dX12_behind_82 ic_0 ?_
  refine x_putZ (pc := 83) g hM dX12_behind_83 fl_12_521 ft_12_53 (sm_0) rfl (Or.inl rfl) (fun m16 => ?_)
  refine x_aload_n (pc := 86) (i := 0) (a := 0) g dX12_behind_86 rfl rfl ?_
  refine x_Vv (pc := 87) g hM [] [] (c_M_go l G hM m16) dX12_behind_87 ml_12_220 (sm_0) rfl rfl (Nat.le_of_ble_eq_true rfl) ⟨rfl, rfl, Nat.le_of_ble_eq_true rfl, Nat.le_of_ble_eq_true rfl⟩ (fun r17 hr17 => ?_)
  refine x_iconst (pc := 90) g dX12_behind_90 ic_1 ?_
  exact x_zretc (pc := 91) g dX12_behind_91 rfl (Or.inr rfl) (fun _ h => h)
theorem T_M_behind_b42 {l : Launch} {G : xG} {E : xE} (hM : WM G) (g : xGood E l G.1 RX12 cX12_behind yX12_behind 1 (some .boolean) rm_M_behind) (s0 : Int32) (m : xMem) : X E G (fun r : Int32 × xMem => (some (Value.int r.1), r.2)) 42 [(0, .ref (xad G 0))] [.int s0, .ref (xad G 0)] m (M_behind_b42 s0 m) := by
  unfold M_behind_b42
  refine x_Vv (pc := 42) g hM [.int s0] [] (c_M_joins l G hM m s0) dX12_behind_42 ml_12_527 (sm_0) rfl rfl (Nat.le_of_ble_eq_true rfl) ⟨rfl, rfl, Nat.le_of_ble_eq_true rfl, Nat.le_of_ble_eq_true rfl⟩ (fun r11 hr11 => ?_)
  refine x_aload_n (pc := 45) (i := 0) (a := 0) g dX12_behind_45 rfl rfl ?_
  refine x_getR (pc := 46) (x := 19) g hM dX12_behind_46 fl_12_99 (sm_0) rfl ?_
  refine x_aload_n (pc := 49) (i := 0) (a := 0) g dX12_behind_49 rfl rfl ?_
  refine x_getI (pc := 50) g hM dX12_behind_50 fl_12_506 (sm_0) rfl ?_
  refine x_aload_n (pc := 53) (i := 0) (a := 0) g dX12_behind_53 rfl rfl ?_
  refine x_ldc2 (pc := 54) g dX12_behind_54 kc_12_158 ?_
  refine x_Vi (pc := 57) g hM [.long 6385252] [.int (r11.1 0 51), .ref (xad G 19)] (c_M_isWord l G hM r11 6385252) dX12_behind_57 ml_12_248 (sm_0) rfl rfl (Nat.le_of_ble_eq_true rfl) ⟨rfl, rfl, Nat.le_of_ble_eq_true rfl, Nat.le_of_ble_eq_true rfl⟩ (fun r12 hr12 => ?_)
  refine x_if_eq (pc := 60) (t := 68) g dX12_behind_60 (by decide) ?_ ?_
  · refine x_bipush (pc := 68) g dX12_behind_68 bi_22 ?_
    exact x_sub [0] (T_M_behind_b70 hM g 22 (r11.1 0 51) r11) rfl
  · refine x_bipush (pc := 63) g dX12_behind_63 bi_21 ?_
    refine x_goto (pc := 65) (t := 70) g dX12_behind_65 (by decide) ?_
    exact x_sub [0] (T_M_behind_b70 hM g 21 (r11.1 0 51) r11) rfl
theorem T_M_behind_b24 {l : Launch} {G : xG} {E : xE} (hM : WM G) (g : xGood E l G.1 RX12 cX12_behind yX12_behind 1 (some .boolean) rm_M_behind) (m : xMem) : X E G (fun r : Int32 × xMem => (some (Value.int r.1), r.2)) 24 [(0, .ref (xad G 0))] [] m (M_behind_b24 m) := by
  unfold M_behind_b24
  refine x_aload_n (pc := 24) (i := 0) (a := 0) g dX12_behind_24 rfl rfl ?_
  refine x_aload_n (pc := 25) (i := 0) (a := 0) g dX12_behind_25 rfl rfl ?_
  refine x_ldc2 (pc := 26) g dX12_behind_26 kc_12_158 ?_
  refine x_Vi (pc := 29) g hM [.long 6385252] [.ref (xad G 0)] (c_M_isWord l G hM m 6385252) dX12_behind_29 ml_12_248 (sm_0) rfl rfl (Nat.le_of_ble_eq_true rfl) ⟨rfl, rfl, Nat.le_of_ble_eq_true rfl, Nat.le_of_ble_eq_true rfl⟩ (fun r10 hr10 => ?_)
  refine x_if_eq (pc := 32) (t := 40) g dX12_behind_32 (by decide) ?_ ?_
  · refine x_bipush (pc := 40) g dX12_behind_40 bi_22 ?_
    exact x_sub [0] (T_M_behind_b42 hM g 22 m) rfl
  · refine x_bipush (pc := 35) g dX12_behind_35 bi_21 ?_
    refine x_goto (pc := 37) (t := 42) g dX12_behind_37 (by decide) ?_
    exact x_sub [0] (T_M_behind_b42 hM g 21 m) rfl
theorem T_M_behind_b114 {l : Launch} {G : xG} {E : xE} (hM : WM G) (g : xGood E l G.1 RX12 cX12_behind yX12_behind 1 (some .boolean) rm_M_behind) (m : xMem) : X E G (fun r : Int32 × xMem => (some (Value.int r.1), r.2)) 114 [(0, .ref (xad G 0))] [] m (M_behind_b114 m) := by
  unfold M_behind_b114
  refine x_aload_n (pc := 114) (i := 0) (a := 0) g dX12_behind_114 rfl rfl ?_
  refine x_iconst (pc := 115) g dX12_behind_115 ic_1 ?_
  refine x_Vim (pc := 116) g hM [.int 1] [] (c_M_bad l G hM m 1) dX12_behind_116 ml_12_217 (sm_0) rfl rfl (Nat.le_of_ble_eq_true rfl) ⟨rfl, rfl, Nat.le_of_ble_eq_true rfl, Nat.le_of_ble_eq_true rfl⟩ (fun r9 hr9 => ?_)
  exact x_zret (pc := 119) g dX12_behind_119 rfl (fun _ _ h => h)
theorem T_M_behind {l : Launch} {G : xG} {E : xE} (hM : WM G) (g : xGood E l G.1 RX12 cX12_behind yX12_behind 1 (some .boolean) rm_M_behind) (m : xMem) : X E G (fun r : Int32 × xMem => (some (Value.int r.1), r.2)) 0 [(0, .ref (xad G 0))] [] m (M_behind m) := by
  unfold M_behind
  refine x_aload_n (pc := 0) (i := 0) (a := 0) g dX12_behind_0 rfl rfl ?_
  refine x_Vv (pc := 1) g hM [] [] (c_M_nots l G hM m) dX12_behind_1 ml_12_524 (sm_0) rfl rfl (Nat.le_of_ble_eq_true rfl) ⟨rfl, rfl, Nat.le_of_ble_eq_true rfl, Nat.le_of_ble_eq_true rfl⟩ (fun r1 hr1 => ?_)
  refine x_aload_n (pc := 4) (i := 0) (a := 0) g dX12_behind_4 rfl rfl ?_
  refine x_ldc2 (pc := 5) g dX12_behind_5 kc_12_158 ?_
  refine x_Vi (pc := 8) g hM [.long 6385252] [] (c_M_isWord l G hM r1 6385252) dX12_behind_8 ml_12_248 (sm_0) rfl rfl (Nat.le_of_ble_eq_true rfl) ⟨rfl, rfl, Nat.le_of_ble_eq_true rfl, Nat.le_of_ble_eq_true rfl⟩ (fun r2 hr2 => ?_)
  refine x_if_ne (pc := 11) (t := 24) g dX12_behind_11 (by decide) ?_ ?_
  · refine x_aload_n (pc := 14) (i := 0) (a := 0) g dX12_behind_14 rfl rfl ?_
    refine x_ldc2 (pc := 15) g dX12_behind_15 kc_12_156 ?_
    refine x_Vi (pc := 18) g hM [.long 28530] [] (c_M_isWord l G hM r1 28530) dX12_behind_18 ml_12_248 (sm_0) rfl rfl (Nat.le_of_ble_eq_true rfl) ⟨rfl, rfl, Nat.le_of_ble_eq_true rfl, Nat.le_of_ble_eq_true rfl⟩ (fun r3 hr3 => ?_)
    refine x_if_eq (pc := 21) (t := 92) g dX12_behind_21 (by decide) ?_ ?_
    · refine x_aload_n (pc := 92) (i := 0) (a := 0) g dX12_behind_92 rfl rfl ?_
      refine x_bipush (pc := 93) g dX12_behind_93 bi_22 ?_
      refine x_Vv (pc := 95) g hM [.int 22] [] (c_M_joins l G hM r1 22) dX12_behind_95 ml_12_527 (sm_0) rfl rfl (Nat.le_of_ble_eq_true rfl) ⟨rfl, rfl, Nat.le_of_ble_eq_true rfl, Nat.le_of_ble_eq_true rfl⟩ (fun r4 hr4 => ?_)
      refine x_aload_n (pc := 98) (i := 0) (a := 0) g dX12_behind_98 rfl rfl ?_
      refine x_bipush (pc := 99) g dX12_behind_99 bi_41 ?_
      refine x_Vi (pc := 101) g hM [.int 41] [] (c_M_isSign l G hM r4 41) dX12_behind_101 ml_12_214 (sm_0) rfl rfl (Nat.le_of_ble_eq_true rfl) ⟨rfl, rfl, Nat.le_of_ble_eq_true rfl, Nat.le_of_ble_eq_true rfl⟩ (fun r5 hr5 => ?_)
      refine x_if_eq (pc := 104) (t := 114) g dX12_behind_104 (by decide) ?_ ?_
      · exact x_sub [0] (T_M_behind_b114 hM g r4) rfl
      · refine x_aload_n (pc := 107) (i := 0) (a := 0) g dX12_behind_107 rfl rfl ?_
        refine x_getI (pc := 108) g hM dX12_behind_108 fl_12_506 (sm_0) rfl ?_
        refine x_if_ne (pc := 111) (t := 120) g dX12_behind_111 (by decide) ?_ ?_
        · exact x_sub [0] (T_M_behind_b114 hM g r4) rfl
        · refine x_aload_n (pc := 120) (i := 0) (a := 0) g dX12_behind_120 rfl rfl ?_
          refine x_dup (pc := 121) g dX12_behind_121 rfl ?_
          refine x_getI (pc := 122) g hM dX12_behind_122 fl_12_506 (sm_0) rfl ?_
          refine x_iconst (pc := 125) g dX12_behind_125 ic_1 ?_
          refine x_isub (pc := 126) g dX12_behind_126 ?_
          refine x_putI (pc := 127) g hM dX12_behind_127 fl_12_506 ft_12_51 (sm_0) rfl (fun m6 => ?_)
          refine x_aload_n (pc := 130) (i := 0) (a := 0) g dX12_behind_130 rfl rfl ?_
          refine x_dup (pc := 131) g dX12_behind_131 rfl ?_
          refine x_getI (pc := 132) g hM dX12_behind_132 fl_12_512 (sm_0) rfl ?_
          refine x_iconst (pc := 135) g dX12_behind_135 ic_1 ?_
          refine x_isub (pc := 136) g dX12_behind_136 ?_
          refine x_putI (pc := 137) g hM dX12_behind_137 fl_12_512 ft_12_52 (sm_0) rfl (fun m7 => ?_)
          refine x_aload_n (pc := 140) (i := 0) (a := 0) g dX12_behind_140 rfl rfl ?_
          refine x_Vv (pc := 141) g hM [] [] (c_M_go l G hM m7) dX12_behind_141 ml_12_220 (sm_0) rfl rfl (Nat.le_of_ble_eq_true rfl) ⟨rfl, rfl, Nat.le_of_ble_eq_true rfl, Nat.le_of_ble_eq_true rfl⟩ (fun r8 hr8 => ?_)
          refine x_iconst (pc := 144) g dX12_behind_144 ic_1 ?_
          exact x_zretc (pc := 145) g dX12_behind_145 rfl (Or.inr rfl) (fun _ h => h)
    · exact x_sub [0] (T_M_behind_b24 hM g r1) rfl
  · exact x_sub [0] (T_M_behind_b24 hM g r1) rfl
theorem c_M_behind (l : Launch) (G : xG) (hM : WM G) (m : xMem) : xCim l G yX12_behind cX12_behind 1 (some .boolean) rm_M_behind [.ref (xad G 0)] m (M_behind m) :=
  xCt_of (own := RX12) (by decide) rfl (Nat.le_of_ble_eq_true rfl) rfl ⟨rfl, rfl⟩ (fun E g => T_M_behind hM g m)
theorem T_M_sentence_b101 {l : Launch} {G : xG} {E : xE} (hM : WM G) (g : xGood E l G.1 RX12 cX12_sentence yX12_sentence 3 (some .int) rm_M_sentence) (k48 : Int32 → xMem → Option (Int32 × xMem)) (hk48 : ∀ (v1 : Int32) (m : xMem), X E G (fun r : Int32 × xMem => (some (Value.int r.1), r.2)) 48 [(0, .ref (xad G 0)), (1, .int v1)] [] m (k48 v1 m)) (v1 : Int32) (m : xMem) : X E G (fun r : Int32 × xMem => (some (Value.int r.1), r.2)) 101 [(0, .ref (xad G 0)), (1, .int v1)] [] m (M_sentence_b101 k48 v1 m) := by
  unfold M_sentence_b101
  refine x_aload_n (pc := 101) (i := 0) (a := 0) g dX12_sentence_101 rfl rfl ?_
  refine x_getI (pc := 102) g hM dX12_sentence_102 fl_12_521 (sm_0) rfl ?_
  refine x_if_eq (pc := 105) (t := 118) g dX12_sentence_105 (by decide) ?_ ?_
  · refine x_aload_n (pc := 118) (i := 0) (a := 0) g dX12_sentence_118 rfl rfl ?_
    refine x_Vim (pc := 119) g hM [] [] (c_M_operand l G hM m) dX12_sentence_119 ml_12_533 (sm_0) rfl rfl (Nat.le_of_ble_eq_true rfl) ⟨rfl, rfl, Nat.le_of_ble_eq_true rfl, Nat.le_of_ble_eq_true rfl⟩ (fun r17 hr17 => ?_)
    refine x_if_ne (pc := 122) (t := 48) g dX12_sentence_122 (by decide) ?_ ?_
    · refine x_iconst (pc := 125) g dX12_sentence_125 ic_m1 ?_
      refine x_aload_n (pc := 126) (i := 0) (a := 0) g dX12_sentence_126 rfl rfl ?_
      refine x_getI (pc := 127) g hM dX12_sentence_127 fl_12_211 (sm_0) rfl ?_
      refine x_isub (pc := 130) g dX12_sentence_130 ?_
      exact x_iret (pc := 131) g dX12_sentence_131 rfl (fun _ h => h)
    · exact x_sub [0, 1] (hk48 v1 r17.2) rfl
  · refine x_aload_n (pc := 108) (i := 0) (a := 0) g dX12_sentence_108 rfl rfl ?_
    refine x_Vim (pc := 109) g hM [] [] (c_M_behind l G hM m) dX12_sentence_109 ml_12_530 (sm_0) rfl rfl (Nat.le_of_ble_eq_true rfl) ⟨rfl, rfl, Nat.le_of_ble_eq_true rfl, Nat.le_of_ble_eq_true rfl⟩ (fun r18 hr18 => ?_)
    refine x_if_ne (pc := 112) (t := 48) g dX12_sentence_112 (by decide) ?_ ?_
    · refine x_goto (pc := 115) (t := 125) g dX12_sentence_115 (by decide) ?_
      refine x_iconst (pc := 125) g dX12_sentence_125 ic_m1 ?_
      refine x_aload_n (pc := 126) (i := 0) (a := 0) g dX12_sentence_126 rfl rfl ?_
      refine x_getI (pc := 127) g hM dX12_sentence_127 fl_12_211 (sm_0) rfl ?_
      refine x_isub (pc := 130) g dX12_sentence_130 ?_
      exact x_iret (pc := 131) g dX12_sentence_131 rfl (fun _ h => h)
    · exact x_sub [0, 1] (hk48 v1 r18.2) rfl
theorem T_M_sentence_b145 {l : Launch} {G : xG} {E : xE} (hM : WM G) (g : xGood E l G.1 RX12 cX12_sentence yX12_sentence 3 (some .int) rm_M_sentence) : ∀ (n : Nat) (v2 : Int32) (m : xMem), X E G (fun r : Int32 × xMem => (some (Value.int r.1), r.2)) 145 [(0, .ref (xad G 0)), (2, .int v2)] [] m (M_sentence_b145 n v2 m) := by
  intro n
  induction n with
  | zero => intro v2 m; exact x_none
  | succ n ih =>
    intro v2 m
    rw [M_sentence_b145]
    refine x_iload_n (pc := 145) (i := 2) (a := 1) g dX12_sentence_145 rfl rfl ?_
    refine x_iconst (pc := 146) g dX12_sentence_146 ic_3 ?_
    refine x_aload_n (pc := 147) (i := 0) (a := 0) g dX12_sentence_147 rfl rfl ?_
    refine x_getI (pc := 148) g hM dX12_sentence_148 fl_12_503 (sm_0) rfl ?_
    refine x_imul (pc := 151) g dX12_sentence_151 ?_
    refine x_icmp_ge (pc := 152) (t := 176) g dX12_sentence_152 (by decide) ?_ ?_
    · refine x_aload_n (pc := 155) (i := 0) (a := 0) g dX12_sentence_155 rfl rfl ?_
      refine x_getR (pc := 156) (x := 2) g hM dX12_sentence_156 fl_12_33 (sm_0) rfl ?_
      refine x_bipush (pc := 159) g dX12_sentence_159 bi_122 ?_
      refine x_iload_n (pc := 161) (i := 2) (a := 1) g dX12_sentence_161 rfl rfl ?_
      refine x_iadd (pc := 162) g dX12_sentence_162 ?_
      refine x_aload_n (pc := 163) (i := 0) (a := 0) g dX12_sentence_163 rfl rfl ?_
      refine x_getR (pc := 164) (x := 4) g hM dX12_sentence_164 fl_12_40 (sm_0) rfl ?_
      refine x_iload_n (pc := 167) (i := 2) (a := 1) g dX12_sentence_167 rfl rfl ?_
      refine x_iald (pc := 168) g hM dX12_sentence_168 (sm_4) (fun j14 hj14 => ?_)
      refine x_iast (pc := 169) g hM dX12_sentence_169 (sm_2) (fun j16 hj16 m15 => ?_)
      refine x_iinc (pc := 170) (a := 1) (lv' := [(2, .int (v2 + 1)), (0, .ref (xad G 0))]) g dX12_sentence_170 ic_1 rfl (by decide) rfl ?_
      refine x_goto (pc := 173) (t := 145) g dX12_sentence_173 (by decide) ?_
      exact x_sub [1, 0] (ih (v2 + 1) m15) rfl
    · refine x_aload_n (pc := 176) (i := 0) (a := 0) g dX12_sentence_176 rfl rfl ?_
      refine x_getI (pc := 177) g hM dX12_sentence_177 fl_12_518 (sm_0) rfl ?_
      exact x_iret (pc := 180) g dX12_sentence_180 rfl (fun _ h => h)
theorem T_M_sentence_b48 {l : Launch} {G : xG} {E : xE} (hM : WM G) (g : xGood E l G.1 RX12 cX12_sentence yX12_sentence 3 (some .int) rm_M_sentence) : ∀ (n : Nat) (v1 : Int32) (m : xMem), X E G (fun r : Int32 × xMem => (some (Value.int r.1), r.2)) 48 [(0, .ref (xad G 0)), (1, .int v1)] [] m (M_sentence_b48 n v1 m) := by
  intro n
  induction n with
  | zero => intro v1 m; exact x_none
  | succ n ih =>
    intro v1 m
    rw [M_sentence_b48]
    refine x_iload_n (pc := 48) (i := 1) (a := 1) g dX12_sentence_48 rfl rfl ?_
    refine x_if_eq (pc := 49) (t := 132) g dX12_sentence_49 (by decide) ?_ ?_
    · refine x_aload_n (pc := 132) (i := 0) (a := 0) g dX12_sentence_132 rfl rfl ?_
      refine x_getR (pc := 133) (x := 2) g hM dX12_sentence_133 fl_12_33 (sm_0) rfl ?_
      refine x_bipush (pc := 136) g dX12_sentence_136 bi_121 ?_
      refine x_aload_n (pc := 138) (i := 0) (a := 0) g dX12_sentence_138 rfl rfl ?_
      refine x_getI (pc := 139) g hM dX12_sentence_139 fl_12_503 (sm_0) rfl ?_
      refine x_iastc (pc := 142) g hM dX12_sentence_142 (sm_2) ix_121_302 (fun m10 => ?_)
      refine x_iconst (pc := 143) g dX12_sentence_143 ic_0 ?_
      refine x_istore_n (pc := 144) (i := 2) (lv' := [(2, .int 0), (0, .ref (xad G 0)), (1, .int v1)]) g dX12_sentence_144 rfl (by decide) rfl ?_
      exact x_sub [1, 0] (T_M_sentence_b145 hM g 1000 0 m10) rfl
    · refine x_aload_n (pc := 52) (i := 0) (a := 0) g dX12_sentence_52 rfl rfl ?_
      refine x_getI (pc := 53) g hM dX12_sentence_53 fl_12_521 (sm_0) rfl ?_
      refine x_if_eq (pc := 56) (t := 101) g dX12_sentence_56 (by decide) ?_ ?_
      · exact x_sub [0, 1] (T_M_sentence_b101 hM g (M_sentence_b48 n) ih v1 m) rfl
      · refine x_aload_n (pc := 59) (i := 0) (a := 0) g dX12_sentence_59 rfl rfl ?_
        refine x_getI (pc := 60) g hM dX12_sentence_60 fl_12_191 (sm_0) rfl ?_
        refine x_if_ne (pc := 63) (t := 101) g dX12_sentence_63 (by decide) ?_ ?_
        · refine x_aload_n (pc := 66) (i := 0) (a := 0) g dX12_sentence_66 rfl rfl ?_
          refine x_Vv (pc := 67) g hM [] [] (c_M_nots l G hM m) dX12_sentence_67 ml_12_524 (sm_0) rfl rfl (Nat.le_of_ble_eq_true rfl) ⟨rfl, rfl, Nat.le_of_ble_eq_true rfl, Nat.le_of_ble_eq_true rfl⟩ (fun r11 hr11 => ?_)
          refine x_aload_n (pc := 70) (i := 0) (a := 0) g dX12_sentence_70 rfl rfl ?_
          refine x_bipush (pc := 71) g dX12_sentence_71 bi_22 ?_
          refine x_Vv (pc := 73) g hM [.int 22] [] (c_M_joins l G hM r11 22) dX12_sentence_73 ml_12_527 (sm_0) rfl rfl (Nat.le_of_ble_eq_true rfl) ⟨rfl, rfl, Nat.le_of_ble_eq_true rfl, Nat.le_of_ble_eq_true rfl⟩ (fun r12 hr12 => ?_)
          refine x_aload_n (pc := 76) (i := 0) (a := 0) g dX12_sentence_76 rfl rfl ?_
          refine x_getI (pc := 77) g hM dX12_sentence_77 fl_12_506 (sm_0) rfl ?_
          refine x_if_le (pc := 80) (t := 96) g dX12_sentence_80 (by decide) ?_ ?_
          · refine x_aload_n (pc := 83) (i := 0) (a := 0) g dX12_sentence_83 rfl rfl ?_
            refine x_iconst (pc := 84) g dX12_sentence_84 ic_1 ?_
            refine x_Vim (pc := 85) g hM [.int 1] [] (c_M_bad l G hM r12 1) dX12_sentence_85 ml_12_217 (sm_0) rfl rfl (Nat.le_of_ble_eq_true rfl) ⟨rfl, rfl, Nat.le_of_ble_eq_true rfl, Nat.le_of_ble_eq_true rfl⟩ (fun r13 hr13 => ?_)
            refine x_pop (pc := 88) g dX12_sentence_88 rfl ?_
            refine x_iconst (pc := 89) g dX12_sentence_89 ic_m1 ?_
            refine x_aload_n (pc := 90) (i := 0) (a := 0) g dX12_sentence_90 rfl rfl ?_
            refine x_getI (pc := 91) g hM dX12_sentence_91 fl_12_211 (sm_0) rfl ?_
            refine x_isub (pc := 94) g dX12_sentence_94 ?_
            exact x_iret (pc := 95) g dX12_sentence_95 rfl (fun _ h => h)
          · refine x_iconst (pc := 96) g dX12_sentence_96 ic_0 ?_
            refine x_istore_n (pc := 97) (i := 1) (lv' := [(1, .int 0), (0, .ref (xad G 0))]) g dX12_sentence_97 rfl (by decide) rfl ?_
            refine x_goto (pc := 98) (t := 48) g dX12_sentence_98 (by decide) ?_
            exact x_sub [1, 0] (ih 0 r12) rfl
        · exact x_sub [0, 1] (T_M_sentence_b101 hM g (M_sentence_b48 n) ih v1 m) rfl
theorem T_M_sentence {l : Launch} {G : xG} {E : xE} (hM : WM G) (g : xGood E l G.1 RX12 cX12_sentence yX12_sentence 3 (some .int) rm_M_sentence) (m : xMem) : X E G (fun r : Int32 × xMem => (some (Value.int r.1), r.2)) 0 [(0, .ref (xad G 0))] [] m (M_sentence m) := by
  unfold M_sentence
  refine x_aload_n (pc := 0) (i := 0) (a := 0) g dX12_sentence_0 rfl rfl ?_
  refine x_iconst (pc := 1) g dX12_sentence_1 ic_0 ?_
  refine x_putI (pc := 2) g hM dX12_sentence_2 fl_12_1 ft_12_0 (sm_0) rfl (fun m1 => ?_)
  refine x_aload_n (pc := 5) (i := 0) (a := 0) g dX12_sentence_5 rfl rfl ?_
  refine x_sipush (pc := 6) g dX12_sentence_6 si_200 ?_
  refine x_Vv (pc := 9) g hM [.int 200] [] (c_M_taken l G hM m1 200) dX12_sentence_9 ml_12_295 (sm_0) rfl rfl (Nat.le_of_ble_eq_true rfl) ⟨rfl, rfl, Nat.le_of_ble_eq_true rfl, Nat.le_of_ble_eq_true rfl⟩ (fun r2 hr2 => ?_)
  refine x_aload_n (pc := 12) (i := 0) (a := 0) g dX12_sentence_12 rfl rfl ?_
  refine x_iconst (pc := 13) g dX12_sentence_13 ic_0 ?_
  refine x_putI (pc := 14) g hM dX12_sentence_14 fl_12_208 ft_12_15 (sm_0) rfl (fun m3 => ?_)
  refine x_aload_n (pc := 17) (i := 0) (a := 0) g dX12_sentence_17 rfl rfl ?_
  refine x_iconst (pc := 18) g dX12_sentence_18 ic_0 ?_
  refine x_putI (pc := 19) g hM dX12_sentence_19 fl_12_503 ft_12_49 (sm_0) rfl (fun m4 => ?_)
  refine x_aload_n (pc := 22) (i := 0) (a := 0) g dX12_sentence_22 rfl rfl ?_
  refine x_iconst (pc := 23) g dX12_sentence_23 ic_0 ?_
  refine x_putI (pc := 24) g hM dX12_sentence_24 fl_12_518 ft_12_50 (sm_0) rfl (fun m5 => ?_)
  refine x_aload_n (pc := 27) (i := 0) (a := 0) g dX12_sentence_27 rfl rfl ?_
  refine x_iconst (pc := 28) g dX12_sentence_28 ic_0 ?_
  refine x_putI (pc := 29) g hM dX12_sentence_29 fl_12_506 ft_12_51 (sm_0) rfl (fun m6 => ?_)
  refine x_aload_n (pc := 32) (i := 0) (a := 0) g dX12_sentence_32 rfl rfl ?_
  refine x_iconst (pc := 33) g dX12_sentence_33 ic_1 ?_
  refine x_putI (pc := 34) g hM dX12_sentence_34 fl_12_512 ft_12_52 (sm_0) rfl (fun m7 => ?_)
  refine x_aload_n (pc := 37) (i := 0) (a := 0) g dX12_sentence_37 rfl rfl ?_
  refine x_iconst (pc := 38) g dX12_sentence_38 ic_0 ?_
  refine x_putZ (pc := 39) g hM dX12_sentence_39 fl_12_521 ft_12_53 (sm_0) rfl (Or.inl rfl) (fun m8 => ?_)
  refine x_aload_n (pc := 42) (i := 0) (a := 0) g dX12_sentence_42 rfl rfl ?_
  refine x_Vv (pc := 43) g hM [] [] (c_M_go l G hM m8) dX12_sentence_43 ml_12_220 (sm_0) rfl rfl (Nat.le_of_ble_eq_true rfl) ⟨rfl, rfl, Nat.le_of_ble_eq_true rfl, Nat.le_of_ble_eq_true rfl⟩ (fun r9 hr9 => ?_)
  refine x_iconst (pc := 46) g dX12_sentence_46 ic_1 ?_
  refine x_istore_n (pc := 47) (i := 1) (lv' := [(1, .int 1), (0, .ref (xad G 0))]) g dX12_sentence_47 rfl (by decide) rfl ?_
  exact x_sub [1, 0] (T_M_sentence_b48 hM g 1000 1 r9) rfl
theorem c_M_sentence (l : Launch) (G : xG) (hM : WM G) (m : xMem) : xCim l G yX12_sentence cX12_sentence 3 (some .int) rm_M_sentence [.ref (xad G 0)] m (M_sentence m) :=
  xCt_of (own := RX12) (by decide) rfl (Nat.le_of_ble_eq_true rfl) rfl ⟨rfl, rfl⟩ (fun E g => T_M_sentence hM g m)
theorem T_M_isLeaf_b176 {l : Launch} {G : xG} {E : xE} (hM : WM G) (g : xGood E l G.1 RX12 cX12_isLeaf yX12_isLeaf 8 (some .boolean) rm_M_isLeaf) (m : xMem) (p0 : Int32) (p1 : Int32) (p2 : Int32) (p3 : Int32) (s0 : Int32) : X E G (fun r : Int32 => (some (Value.int r), m)) 176 [(3, .int p2), (4, .int p3)] [.int s0] m (M_isLeaf_b176 m p0 p1 p2 p3 s0) := by
  unfold M_isLeaf_b176
  refine x_istore (pc := 176) (lv' := [(7, .int s0), (3, .int p2), (4, .int p3)]) g dX12_isLeaf_176 (by decide) rfl ?_
  refine x_iload_n (pc := 178) (i := 3) (a := 1) g dX12_isLeaf_178 rfl rfl ?_
  refine x_bipush (pc := 179) g dX12_isLeaf_179 bi_60 ?_
  refine x_icmp_ne (pc := 181) (t := 199) g dX12_isLeaf_181 (by decide) ?_ ?_
  · refine x_iload (pc := 184) (a := 0) g dX12_isLeaf_184 rfl ?_
    refine x_iload (pc := 186) (a := 2) g dX12_isLeaf_186 rfl ?_
    refine x_icmp_ge (pc := 188) (t := 195) g dX12_isLeaf_188 (by decide) ?_ ?_
    · refine x_iconst (pc := 191) g dX12_isLeaf_191 ic_1 ?_
      refine x_goto (pc := 192) (t := 232) g dX12_isLeaf_192 (by decide) ?_
      exact x_zretc (pc := 232) g dX12_isLeaf_232 rfl (Or.inr rfl) (fun _ h => h)
    · refine x_iconst (pc := 195) g dX12_isLeaf_195 ic_0 ?_
      refine x_goto (pc := 196) (t := 232) g dX12_isLeaf_196 (by decide) ?_
      exact x_zretc (pc := 232) g dX12_isLeaf_232 rfl (Or.inl rfl) (fun _ h => h)
  · refine x_iload_n (pc := 199) (i := 3) (a := 1) g dX12_isLeaf_199 rfl rfl ?_
    refine x_bipush (pc := 200) g dX12_isLeaf_200 bi_61 ?_
    refine x_icmp_ne (pc := 202) (t := 220) g dX12_isLeaf_202 (by decide) ?_ ?_
    · refine x_iload (pc := 205) (a := 0) g dX12_isLeaf_205 rfl ?_
      refine x_iload (pc := 207) (a := 2) g dX12_isLeaf_207 rfl ?_
      refine x_icmp_ne (pc := 209) (t := 216) g dX12_isLeaf_209 (by decide) ?_ ?_
      · refine x_iconst (pc := 212) g dX12_isLeaf_212 ic_1 ?_
        refine x_goto (pc := 213) (t := 232) g dX12_isLeaf_213 (by decide) ?_
        exact x_zretc (pc := 232) g dX12_isLeaf_232 rfl (Or.inr rfl) (fun _ h => h)
      · refine x_iconst (pc := 216) g dX12_isLeaf_216 ic_0 ?_
        refine x_goto (pc := 217) (t := 232) g dX12_isLeaf_217 (by decide) ?_
        exact x_zretc (pc := 232) g dX12_isLeaf_232 rfl (Or.inl rfl) (fun _ h => h)
    · refine x_iload (pc := 220) (a := 0) g dX12_isLeaf_220 rfl ?_
      refine x_iload (pc := 222) (a := 2) g dX12_isLeaf_222 rfl ?_
      refine x_icmp_le (pc := 224) (t := 231) g dX12_isLeaf_224 (by decide) ?_ ?_
      · refine x_iconst (pc := 227) g dX12_isLeaf_227 ic_1 ?_
        refine x_goto (pc := 228) (t := 232) g dX12_isLeaf_228 (by decide) ?_
        exact x_zretc (pc := 232) g dX12_isLeaf_232 rfl (Or.inr rfl) (fun _ h => h)
      · refine x_iconst (pc := 231) g dX12_isLeaf_231 ic_0 ?_
        exact x_zretc (pc := 232) g dX12_isLeaf_232 rfl (Or.inl rfl) (fun _ h => h)
theorem T_M_isLeaf_b23 {l : Launch} {G : xG} {E : xE} (hM : WM G) (g : xGood E l G.1 RX12 cX12_isLeaf yX12_isLeaf 8 (some .boolean) rm_M_isLeaf) (m : xMem) (p0 : Int32) (p1 : Int32) (p2 : Int32) (p3 : Int32) (v5 : Int32) (s0 : Int32) : X E G (fun r : Int32 => (some (Value.int r), m)) 23 [(0, .ref (xad G 0)), (1, .int p0), (2, .int p1), (3, .int p2), (4, .int p3), (5, .int v5)] [.int s0] m (M_isLeaf_b23 m p0 p1 p2 p3 v5 s0) := by
  unfold M_isLeaf_b23
  refine x_istore (pc := 23) (lv' := [(6, .int s0), (0, .ref (xad G 0)), (1, .int p0), (2, .int p1), (3, .int p2), (4, .int p3), (5, .int v5)]) g dX12_isLeaf_23 (by decide) rfl ?_
  refine x_iload_n (pc := 25) (i := 2) (a := 3) g dX12_isLeaf_25 rfl rfl ?_
  refine x_if (fun h26_0 => ?_) (fun h26_0 => ?_)
  · refine x_tabIn (pc := 26) (t := 60) (off := 34) g dX12_isLeaf_26 h26_0 (by decide) ?_
    refine x_iload (pc := 60) (a := 6) g dX12_isLeaf_60 rfl ?_
    refine x_if_ge (pc := 62) (t := 69) g dX12_isLeaf_62 (by decide) ?_ ?_
    · refine x_iconst (pc := 65) g dX12_isLeaf_65 ic_1 ?_
      refine x_goto (pc := 66) (t := 70) g dX12_isLeaf_66 (by decide) ?_
      exact x_zretc (pc := 70) g dX12_isLeaf_70 rfl (Or.inr rfl) (fun _ h => h)
    · refine x_iconst (pc := 69) g dX12_isLeaf_69 ic_0 ?_
      exact x_zretc (pc := 70) g dX12_isLeaf_70 rfl (Or.inl rfl) (fun _ h => h)
  refine x_if (fun h26_1 => ?_) (fun h26_1 => ?_)
  · refine x_tabIn (pc := 26) (t := 71) (off := 45) g dX12_isLeaf_26 h26_1 (by decide) ?_
    refine x_iload (pc := 71) (a := 0) g dX12_isLeaf_71 rfl ?_
    refine x_if_lt (pc := 73) (t := 80) g dX12_isLeaf_73 (by decide) ?_ ?_
    · refine x_iconst (pc := 80) g dX12_isLeaf_80 ic_0 ?_
      exact x_zretc (pc := 81) g dX12_isLeaf_81 rfl (Or.inl rfl) (fun _ h => h)
    · refine x_iconst (pc := 76) g dX12_isLeaf_76 ic_1 ?_
      refine x_goto (pc := 77) (t := 81) g dX12_isLeaf_77 (by decide) ?_
      exact x_zretc (pc := 81) g dX12_isLeaf_81 rfl (Or.inr rfl) (fun _ h => h)
  refine x_if (fun h26_2 => ?_) (fun h26_2 => ?_)
  · refine x_tabIn (pc := 26) (t := 82) (off := 56) g dX12_isLeaf_26 h26_2 (by decide) ?_
    refine x_iload (pc := 82) (a := 6) g dX12_isLeaf_82 rfl ?_
    refine x_if_lt (pc := 84) (t := 103) g dX12_isLeaf_84 (by decide) ?_ ?_
    · refine x_iconst (pc := 103) g dX12_isLeaf_103 ic_0 ?_
      exact x_zretc (pc := 104) g dX12_isLeaf_104 rfl (Or.inl rfl) (fun _ h => h)
    · refine x_aload_n (pc := 87) (i := 0) (a := 1) g dX12_isLeaf_87 rfl rfl ?_
      refine x_iload (pc := 88) (a := 6) g dX12_isLeaf_88 rfl ?_
      refine x_iload_n (pc := 90) (i := 1) (a := 2) g dX12_isLeaf_90 rfl rfl ?_
      refine x_Vi (pc := 91) g hM [.int v5, .int p0] [] (c_M_lookBy l G hM m v5 p0) dX12_isLeaf_91 ml_12_368 (sm_0) rfl rfl (Nat.le_of_ble_eq_true rfl) ⟨rfl, rfl, Nat.le_of_ble_eq_true rfl, Nat.le_of_ble_eq_true rfl⟩ (fun r3 hr3 => ?_)
      refine x_iload (pc := 94) (a := 5) g dX12_isLeaf_94 rfl ?_
      refine x_icmp_ne (pc := 96) (t := 103) g dX12_isLeaf_96 (by decide) ?_ ?_
      · refine x_iconst (pc := 99) g dX12_isLeaf_99 ic_1 ?_
        refine x_goto (pc := 100) (t := 104) g dX12_isLeaf_100 (by decide) ?_
        exact x_zretc (pc := 104) g dX12_isLeaf_104 rfl (Or.inr rfl) (fun _ h => h)
      · refine x_iconst (pc := 103) g dX12_isLeaf_103 ic_0 ?_
        exact x_zretc (pc := 104) g dX12_isLeaf_104 rfl (Or.inl rfl) (fun _ h => h)
  refine x_if (fun h26_3 => ?_) (fun h26_3 => ?_)
  · refine x_tabIn (pc := 26) (t := 105) (off := 79) g dX12_isLeaf_26 h26_3 (by decide) ?_
    refine x_iload (pc := 105) (a := 6) g dX12_isLeaf_105 rfl ?_
    refine x_iload (pc := 107) (a := 5) g dX12_isLeaf_107 rfl ?_
    refine x_icmp_ne (pc := 109) (t := 116) g dX12_isLeaf_109 (by decide) ?_ ?_
    · refine x_iconst (pc := 112) g dX12_isLeaf_112 ic_1 ?_
      refine x_goto (pc := 113) (t := 117) g dX12_isLeaf_113 (by decide) ?_
      exact x_zretc (pc := 117) g dX12_isLeaf_117 rfl (Or.inr rfl) (fun _ h => h)
    · refine x_iconst (pc := 116) g dX12_isLeaf_116 ic_0 ?_
      exact x_zretc (pc := 117) g dX12_isLeaf_117 rfl (Or.inl rfl) (fun _ h => h)
  refine x_if (fun h26_4 => ?_) (fun h26_4 => ?_)
  · refine x_tabIn (pc := 26) (t := 118) (off := 92) g dX12_isLeaf_26 h26_4 (by decide) ?_
    refine x_iload (pc := 118) (a := 0) g dX12_isLeaf_118 rfl ?_
    refine x_if_lt (pc := 120) (t := 138) g dX12_isLeaf_120 (by decide) ?_ ?_
    · refine x_iconst (pc := 138) g dX12_isLeaf_138 ic_0 ?_
      exact x_zretc (pc := 139) g dX12_isLeaf_139 rfl (Or.inl rfl) (fun _ h => h)
    · refine x_aload_n (pc := 123) (i := 0) (a := 1) g dX12_isLeaf_123 rfl rfl ?_
      refine x_iload (pc := 124) (a := 0) g dX12_isLeaf_124 rfl ?_
      refine x_Vi (pc := 126) g hM [.int s0] [] (c_M_kindOf l G hM m s0) dX12_isLeaf_126 ml_12_330 (sm_0) rfl rfl (Nat.le_of_ble_eq_true rfl) ⟨rfl, rfl, Nat.le_of_ble_eq_true rfl, Nat.le_of_ble_eq_true rfl⟩ (fun r4 hr4 => ?_)
      refine x_iload (pc := 129) (a := 5) g dX12_isLeaf_129 rfl ?_
      refine x_icmp_ne (pc := 131) (t := 138) g dX12_isLeaf_131 (by decide) ?_ ?_
      · refine x_iconst (pc := 134) g dX12_isLeaf_134 ic_1 ?_
        refine x_goto (pc := 135) (t := 139) g dX12_isLeaf_135 (by decide) ?_
        exact x_zretc (pc := 139) g dX12_isLeaf_139 rfl (Or.inr rfl) (fun _ h => h)
      · refine x_iconst (pc := 138) g dX12_isLeaf_138 ic_0 ?_
        exact x_zretc (pc := 139) g dX12_isLeaf_139 rfl (Or.inl rfl) (fun _ h => h)
  refine x_tabOut (pc := 26) (t := 140) g dX12_isLeaf_26 (by have z0 := ne_toInt (k := 0) h26_0 (by decide); have z1 := ne_toInt (k := 1) h26_1 (by decide); have z2 := ne_toInt (k := 2) h26_2 (by decide); have z3 := ne_toInt (k := 3) h26_3 (by decide); have z4 := ne_toInt (k := 4) h26_4 (by decide); omega) (by decide) ?_
  refine x_iload_n (pc := 140) (i := 2) (a := 3) g dX12_isLeaf_140 rfl rfl ?_
  refine x_iconst (pc := 141) g dX12_isLeaf_141 ic_5 ?_
  refine x_icmp_ne (pc := 142) (t := 157) g dX12_isLeaf_142 (by decide) ?_ ?_
  · refine x_aload_n (pc := 145) (i := 0) (a := 1) g dX12_isLeaf_145 rfl rfl ?_
    refine x_getR (pc := 146) (x := 2) g hM dX12_isLeaf_146 fl_12_33 (sm_0) rfl ?_
    refine x_bipush (pc := 149) g dX12_isLeaf_149 bi_109 ?_
    refine x_iload_n (pc := 151) (i := 1) (a := 2) g dX12_isLeaf_151 rfl rfl ?_
    refine x_iadd (pc := 152) g dX12_isLeaf_152 ?_
    refine x_iald (pc := 153) g hM dX12_isLeaf_153 (sm_2) (fun j5 hj5 => ?_)
    refine x_goto (pc := 154) (t := 176) g dX12_isLeaf_154 (by decide) ?_
    exact x_sub [4, 5] (T_M_isLeaf_b176 hM g m p0 p1 p2 p3 (m.1 2 j5)) rfl
  · refine x_iload_n (pc := 157) (i := 2) (a := 3) g dX12_isLeaf_157 rfl rfl ?_
    refine x_bipush (pc := 158) g dX12_isLeaf_158 bi_6 ?_
    refine x_icmp_ne (pc := 160) (t := 175) g dX12_isLeaf_160 (by decide) ?_ ?_
    · refine x_aload_n (pc := 163) (i := 0) (a := 1) g dX12_isLeaf_163 rfl rfl ?_
      refine x_getR (pc := 164) (x := 2) g hM dX12_isLeaf_164 fl_12_33 (sm_0) rfl ?_
      refine x_bipush (pc := 167) g dX12_isLeaf_167 bi_115 ?_
      refine x_iload_n (pc := 169) (i := 1) (a := 2) g dX12_isLeaf_169 rfl rfl ?_
      refine x_iadd (pc := 170) g dX12_isLeaf_170 ?_
      refine x_iald (pc := 171) g hM dX12_isLeaf_171 (sm_2) (fun j6 hj6 => ?_)
      refine x_goto (pc := 172) (t := 176) g dX12_isLeaf_172 (by decide) ?_
      exact x_sub [4, 5] (T_M_isLeaf_b176 hM g m p0 p1 p2 p3 (m.1 2 j6)) rfl
    · refine x_iload_n (pc := 175) (i := 1) (a := 2) g dX12_isLeaf_175 rfl rfl ?_
      exact x_sub [4, 5] (T_M_isLeaf_b176 hM g m p0 p1 p2 p3 p0) rfl
theorem T_M_isLeaf {l : Launch} {G : xG} {E : xE} (hM : WM G) (g : xGood E l G.1 RX12 cX12_isLeaf yX12_isLeaf 8 (some .boolean) rm_M_isLeaf) (m : xMem) (p0 : Int32) (p1 : Int32) (p2 : Int32) (p3 : Int32) : X E G (fun r : Int32 => (some (Value.int r), m)) 0 [(0, .ref (xad G 0)), (1, .int p0), (2, .int p1), (3, .int p2), (4, .int p3)] [] m (M_isLeaf m p0 p1 p2 p3) := by
  unfold M_isLeaf
  refine x_aload_n (pc := 0) (i := 0) (a := 0) g dX12_isLeaf_0 rfl rfl ?_
  refine x_iload_n (pc := 1) (i := 1) (a := 1) g dX12_isLeaf_1 rfl rfl ?_
  refine x_Vi (pc := 2) g hM [.int p0] [] (c_M_owlBy l G hM m p0) dX12_isLeaf_2 ml_12_362 (sm_0) rfl rfl (Nat.le_of_ble_eq_true rfl) ⟨rfl, rfl, Nat.le_of_ble_eq_true rfl, Nat.le_of_ble_eq_true rfl⟩ (fun r1 hr1 => ?_)
  refine x_istore (pc := 5) (lv' := [(5, .int r1), (0, .ref (xad G 0)), (1, .int p0), (2, .int p1), (3, .int p2), (4, .int p3)]) g dX12_isLeaf_5 (by decide) rfl ?_
  refine x_iload (pc := 7) (a := 0) g dX12_isLeaf_7 rfl ?_
  refine x_if_ge (pc := 9) (t := 16) g dX12_isLeaf_9 (by decide) ?_ ?_
  · refine x_iconst (pc := 12) g dX12_isLeaf_12 ic_m1 ?_
    refine x_goto (pc := 13) (t := 23) g dX12_isLeaf_13 (by decide) ?_
    exact x_sub [1, 2, 3, 4, 5, 0] (T_M_isLeaf_b23 hM g m p0 p1 p2 p3 r1 ((-1))) rfl
  · refine x_aload_n (pc := 16) (i := 0) (a := 1) g dX12_isLeaf_16 rfl rfl ?_
    refine x_iload (pc := 17) (a := 0) g dX12_isLeaf_17 rfl ?_
    refine x_iload_n (pc := 19) (i := 1) (a := 2) g dX12_isLeaf_19 rfl rfl ?_
    refine x_Vi (pc := 20) g hM [.int r1, .int p0] [] (c_M_seenBy l G hM m r1 p0) dX12_isLeaf_20 ml_12_352 (sm_0) rfl rfl (Nat.le_of_ble_eq_true rfl) ⟨rfl, rfl, Nat.le_of_ble_eq_true rfl, Nat.le_of_ble_eq_true rfl⟩ (fun r2 hr2 => ?_)
    exact x_sub [1, 2, 3, 4, 5, 0] (T_M_isLeaf_b23 hM g m p0 p1 p2 p3 r1 r2) rfl
theorem c_M_isLeaf (l : Launch) (G : xG) (hM : WM G) (m : xMem) (p0 : Int32) (p1 : Int32) (p2 : Int32) (p3 : Int32) : xCi l G yX12_isLeaf cX12_isLeaf 8 (some .boolean) rm_M_isLeaf [.ref (xad G 0), .int p0, .int p1, .int p2, .int p3] m (M_isLeaf m p0 p1 p2 p3) :=
  xCt_of (own := RX12) (by decide) rfl (Nat.le_of_ble_eq_true rfl) rfl ⟨rfl, rfl⟩ (fun E g => T_M_isLeaf hM g m p0 p1 p2 p3)
theorem T_M_isSaid_b58 {l : Launch} {G : xG} {E : xE} (hM : WM G) (g : xGood E l G.1 RX12 cX12_isSaid yX12_isSaid 5 (some .boolean) rm_M_isSaid) (p0 : Int32) (k4 : Int32 → Int32 → xMem → Option (Int32 × xMem)) (hk4 : ∀ (v2 : Int32) (v3 : Int32) (m : xMem), X E G (fun r : Int32 × xMem => (some (Value.int r.1), r.2)) 4 [(0, .ref (xad G 0)), (1, .int p0), (2, .int v2), (3, .int v3)] [] m (k4 v2 v3 m)) (v2 : Int32) (v3 : Int32) (s0 : Int32) (s1 : Int32) (m : xMem) : X E G (fun r : Int32 × xMem => (some (Value.int r.1), r.2)) 58 [(0, .ref (xad G 0)), (1, .int p0), (2, .int v2), (3, .int v3)] [.int s0, .int s1, .ref (xad G 20)] m (M_isSaid_b58 p0 k4 v2 v3 s0 s1 m) := by
  unfold M_isSaid_b58
  refine x_zast (pc := 58) g hM dX12_isSaid_58 (sm_20) (fun j13 hj13 m12 => ?_)
  refine x_goto (pc := 59) (t := 204) g dX12_isSaid_59 (by decide) ?_
  refine x_iinc (pc := 204) (a := 3) (lv' := [(3, .int (v3 + 1)), (0, .ref (xad G 0)), (1, .int p0), (2, .int v2)]) g dX12_isSaid_204 ic_1 rfl (by decide) rfl ?_
  refine x_goto (pc := 207) (t := 4) g dX12_isSaid_207 (by decide) ?_
  exact x_sub [1, 2, 3, 0] (hk4 v2 (v3 + 1) m12) rfl
theorem T_M_isSaid_b161 {l : Launch} {G : xG} {E : xE} (hM : WM G) (g : xGood E l G.1 RX12 cX12_isSaid yX12_isSaid 5 (some .boolean) rm_M_isSaid) (p0 : Int32) (k4 : Int32 → Int32 → xMem → Option (Int32 × xMem)) (hk4 : ∀ (v2 : Int32) (v3 : Int32) (m : xMem), X E G (fun r : Int32 × xMem => (some (Value.int r.1), r.2)) 4 [(0, .ref (xad G 0)), (1, .int p0), (2, .int v2), (3, .int v3)] [] m (k4 v2 v3 m)) (v2 : Int32) (v3 : Int32) (s0 : Int32) (s1 : Int32) (m : xMem) : X E G (fun r : Int32 × xMem => (some (Value.int r.1), r.2)) 161 [(0, .ref (xad G 0)), (1, .int p0), (2, .int v2), (3, .int v3)] [.int s0, .int s1, .ref (xad G 20)] m (M_isSaid_b161 p0 k4 v2 v3 s0 s1 m) := by
  unfold M_isSaid_b161
  refine x_zast (pc := 161) g hM dX12_isSaid_161 (sm_20) (fun j20 hj20 m19 => ?_)
  refine x_goto (pc := 162) (t := 204) g dX12_isSaid_162 (by decide) ?_
  refine x_iinc (pc := 204) (a := 3) (lv' := [(3, .int (v3 + 1)), (0, .ref (xad G 0)), (1, .int p0), (2, .int v2)]) g dX12_isSaid_204 ic_1 rfl (by decide) rfl ?_
  refine x_goto (pc := 207) (t := 4) g dX12_isSaid_207 (by decide) ?_
  exact x_sub [1, 2, 3, 0] (hk4 v2 (v3 + 1) m19) rfl
theorem T_M_isSaid_b86 {l : Launch} {G : xG} {E : xE} (hM : WM G) (g : xGood E l G.1 RX12 cX12_isSaid yX12_isSaid 5 (some .boolean) rm_M_isSaid) (p0 : Int32) (k4 : Int32 → Int32 → xMem → Option (Int32 × xMem)) (hk4 : ∀ (v2 : Int32) (v3 : Int32) (m : xMem), X E G (fun r : Int32 × xMem => (some (Value.int r.1), r.2)) 4 [(0, .ref (xad G 0)), (1, .int p0), (2, .int v2), (3, .int v3)] [] m (k4 v2 v3 m)) (v2 : Int32) (v3 : Int32) (v4 : Int32) (m : xMem) : X E G (fun r : Int32 × xMem => (some (Value.int r.1), r.2)) 86 [(0, .ref (xad G 0)), (1, .int p0), (2, .int v2), (3, .int v3), (4, .int v4)] [] m (M_isSaid_b86 p0 k4 v2 v3 v4 m) := by
  unfold M_isSaid_b86
  refine x_iinc (pc := 86) (a := 2) (lv' := [(2, .int (v2 + (-1))), (0, .ref (xad G 0)), (1, .int p0), (3, .int v3), (4, .int v4)]) g dX12_isSaid_86 ic_m1 rfl (by decide) rfl ?_
  refine x_aload_n (pc := 89) (i := 0) (a := 1) g dX12_isSaid_89 rfl rfl ?_
  refine x_getR (pc := 90) (x := 20) g hM dX12_isSaid_90 fl_12_102 (sm_0) rfl ?_
  refine x_iload_n (pc := 93) (i := 2) (a := 0) g dX12_isSaid_93 rfl rfl ?_
  refine x_iconst (pc := 94) g dX12_isSaid_94 ic_1 ?_
  refine x_isub (pc := 95) g dX12_isSaid_95 ?_
  refine x_aload_n (pc := 96) (i := 0) (a := 1) g dX12_isSaid_96 rfl rfl ?_
  refine x_getR (pc := 97) (x := 2) g hM dX12_isSaid_97 fl_12_33 (sm_0) rfl ?_
  refine x_iload (pc := 100) (a := 4) g dX12_isSaid_100 rfl ?_
  refine x_iald (pc := 102) g hM dX12_isSaid_102 (sm_2) (fun j14 hj14 => ?_)
  refine x_bipush (pc := 103) g dX12_isSaid_103 bi_21 ?_
  refine x_icmp_ne (pc := 105) (t := 136) g dX12_isSaid_105 (by decide) ?_ ?_
  · refine x_aload_n (pc := 108) (i := 0) (a := 1) g dX12_isSaid_108 rfl rfl ?_
    refine x_getR (pc := 109) (x := 20) g hM dX12_isSaid_109 fl_12_102 (sm_0) rfl ?_
    refine x_iload_n (pc := 112) (i := 2) (a := 0) g dX12_isSaid_112 rfl rfl ?_
    refine x_iconst (pc := 113) g dX12_isSaid_113 ic_1 ?_
    refine x_isub (pc := 114) g dX12_isSaid_114 ?_
    refine x_zald (pc := 115) g hM dX12_isSaid_115 (sm_20) (fun j15 hj15 => ?_)
    refine x_if_eq (pc := 116) (t := 132) g dX12_isSaid_116 (by decide) ?_ ?_
    · refine x_iconst (pc := 132) g dX12_isSaid_132 ic_0 ?_
      refine x_goto (pc := 133) (t := 161) g dX12_isSaid_133 (by decide) ?_
      exact x_sub [1, 2, 0, 3] (T_M_isSaid_b161 hM g p0 k4 hk4 (v2 + (-1)) v3 0 ((v2 + (-1)) - 1) m) rfl
    · refine x_aload_n (pc := 119) (i := 0) (a := 1) g dX12_isSaid_119 rfl rfl ?_
      refine x_getR (pc := 120) (x := 20) g hM dX12_isSaid_120 fl_12_102 (sm_0) rfl ?_
      refine x_iload_n (pc := 123) (i := 2) (a := 0) g dX12_isSaid_123 rfl rfl ?_
      refine x_zald (pc := 124) g hM dX12_isSaid_124 (sm_20) (fun j16 hj16 => ?_)
      refine x_if_eq (pc := 125) (t := 132) g dX12_isSaid_125 (by decide) ?_ ?_
      · refine x_iconst (pc := 132) g dX12_isSaid_132 ic_0 ?_
        refine x_goto (pc := 133) (t := 161) g dX12_isSaid_133 (by decide) ?_
        exact x_sub [1, 2, 0, 3] (T_M_isSaid_b161 hM g p0 k4 hk4 (v2 + (-1)) v3 0 ((v2 + (-1)) - 1) m) rfl
      · refine x_iconst (pc := 128) g dX12_isSaid_128 ic_1 ?_
        refine x_goto (pc := 129) (t := 161) g dX12_isSaid_129 (by decide) ?_
        exact x_sub [1, 2, 0, 3] (T_M_isSaid_b161 hM g p0 k4 hk4 (v2 + (-1)) v3 1 ((v2 + (-1)) - 1) m) rfl
  · refine x_aload_n (pc := 136) (i := 0) (a := 1) g dX12_isSaid_136 rfl rfl ?_
    refine x_getR (pc := 137) (x := 20) g hM dX12_isSaid_137 fl_12_102 (sm_0) rfl ?_
    refine x_iload_n (pc := 140) (i := 2) (a := 0) g dX12_isSaid_140 rfl rfl ?_
    refine x_iconst (pc := 141) g dX12_isSaid_141 ic_1 ?_
    refine x_isub (pc := 142) g dX12_isSaid_142 ?_
    refine x_zald (pc := 143) g hM dX12_isSaid_143 (sm_20) (fun j17 hj17 => ?_)
    refine x_if_ne (pc := 144) (t := 156) g dX12_isSaid_144 (by decide) ?_ ?_
    · refine x_aload_n (pc := 147) (i := 0) (a := 1) g dX12_isSaid_147 rfl rfl ?_
      refine x_getR (pc := 148) (x := 20) g hM dX12_isSaid_148 fl_12_102 (sm_0) rfl ?_
      refine x_iload_n (pc := 151) (i := 2) (a := 0) g dX12_isSaid_151 rfl rfl ?_
      refine x_zald (pc := 152) g hM dX12_isSaid_152 (sm_20) (fun j18 hj18 => ?_)
      refine x_if_eq (pc := 153) (t := 160) g dX12_isSaid_153 (by decide) ?_ ?_
      · refine x_iconst (pc := 160) g dX12_isSaid_160 ic_0 ?_
        exact x_sub [1, 2, 0, 3] (T_M_isSaid_b161 hM g p0 k4 hk4 (v2 + (-1)) v3 0 ((v2 + (-1)) - 1) m) rfl
      · refine x_iconst (pc := 156) g dX12_isSaid_156 ic_1 ?_
        refine x_goto (pc := 157) (t := 161) g dX12_isSaid_157 (by decide) ?_
        exact x_sub [1, 2, 0, 3] (T_M_isSaid_b161 hM g p0 k4 hk4 (v2 + (-1)) v3 1 ((v2 + (-1)) - 1) m) rfl
    · refine x_iconst (pc := 156) g dX12_isSaid_156 ic_1 ?_
      refine x_goto (pc := 157) (t := 161) g dX12_isSaid_157 (by decide) ?_
      exact x_sub [1, 2, 0, 3] (T_M_isSaid_b161 hM g p0 k4 hk4 (v2 + (-1)) v3 1 ((v2 + (-1)) - 1) m) rfl
theorem T_M_isSaid_b4 {l : Launch} {G : xG} {E : xE} (hM : WM G) (g : xGood E l G.1 RX12 cX12_isSaid yX12_isSaid 5 (some .boolean) rm_M_isSaid) (p0 : Int32) : ∀ (n : Nat) (v2 : Int32) (v3 : Int32) (m : xMem), X E G (fun r : Int32 × xMem => (some (Value.int r.1), r.2)) 4 [(0, .ref (xad G 0)), (1, .int p0), (2, .int v2), (3, .int v3)] [] m (M_isSaid_b4 p0 n v2 v3 m) := by
  intro n
  induction n with
  | zero => intro v2 v3 m; exact x_none
  | succ n ih =>
    intro v2 v3 m
    rw [M_isSaid_b4]
    refine x_iload_n (pc := 4) (i := 3) (a := 3) g dX12_isSaid_4 rfl rfl ?_
    refine x_aload_n (pc := 5) (i := 0) (a := 0) g dX12_isSaid_5 rfl rfl ?_
    refine x_getR (pc := 6) (x := 2) g hM dX12_isSaid_6 fl_12_33 (sm_0) rfl ?_
    refine x_bipush (pc := 9) g dX12_isSaid_9 bi_121 ?_
    refine x_ialdc (pc := 11) g hM dX12_isSaid_11 (sm_2) ix_121_302 ?_
    refine x_icmp_ge (pc := 12) (t := 210) g dX12_isSaid_12 (by decide) ?_ ?_
    · refine x_bipush (pc := 15) g dX12_isSaid_15 bi_122 ?_
      refine x_iconst (pc := 17) g dX12_isSaid_17 ic_3 ?_
      refine x_iload_n (pc := 18) (i := 3) (a := 3) g dX12_isSaid_18 rfl rfl ?_
      refine x_imul (pc := 19) g dX12_isSaid_19 ?_
      refine x_iadd (pc := 20) g dX12_isSaid_20 ?_
      refine x_nmI (fun x1 => ?_)
      refine x_istore (pc := 21) (lv' := [(4, .int x1), (0, .ref (xad G 0)), (1, .int p0), (2, .int v2), (3, .int v3)]) g dX12_isSaid_21 (by decide) rfl ?_
      refine x_aload_n (pc := 23) (i := 0) (a := 1) g dX12_isSaid_23 rfl rfl ?_
      refine x_getR (pc := 24) (x := 2) g hM dX12_isSaid_24 fl_12_33 (sm_0) rfl ?_
      refine x_iload (pc := 27) (a := 0) g dX12_isSaid_27 rfl ?_
      refine x_iald (pc := 29) g hM dX12_isSaid_29 (sm_2) (fun j2 hj2 => ?_)
      refine x_bipush (pc := 30) g dX12_isSaid_30 bi_20 ?_
      refine x_icmp_ne (pc := 32) (t := 62) g dX12_isSaid_32 (by decide) ?_ ?_
      · refine x_aload_n (pc := 35) (i := 0) (a := 1) g dX12_isSaid_35 rfl rfl ?_
        refine x_getR (pc := 36) (x := 20) g hM dX12_isSaid_36 fl_12_102 (sm_0) rfl ?_
        refine x_iload_n (pc := 39) (i := 2) (a := 3) g dX12_isSaid_39 rfl rfl ?_
        refine x_iconst (pc := 40) g dX12_isSaid_40 ic_1 ?_
        refine x_isub (pc := 41) g dX12_isSaid_41 ?_
        refine x_aload_n (pc := 42) (i := 0) (a := 1) g dX12_isSaid_42 rfl rfl ?_
        refine x_getR (pc := 43) (x := 20) g hM dX12_isSaid_43 fl_12_102 (sm_0) rfl ?_
        refine x_iload_n (pc := 46) (i := 2) (a := 3) g dX12_isSaid_46 rfl rfl ?_
        refine x_iconst (pc := 47) g dX12_isSaid_47 ic_1 ?_
        refine x_isub (pc := 48) g dX12_isSaid_48 ?_
        refine x_zald (pc := 49) g hM dX12_isSaid_49 (sm_20) (fun j3 hj3 => ?_)
        refine x_if_ne (pc := 50) (t := 57) g dX12_isSaid_50 (by decide) ?_ ?_
        · refine x_iconst (pc := 53) g dX12_isSaid_53 ic_1 ?_
          refine x_goto (pc := 54) (t := 58) g dX12_isSaid_54 (by decide) ?_
          exact x_sub [1, 2, 3, 4] (T_M_isSaid_b58 hM g p0 (M_isSaid_b4 p0 n) ih v2 v3 1 (v2 - 1) m) rfl
        · refine x_iconst (pc := 57) g dX12_isSaid_57 ic_0 ?_
          exact x_sub [1, 2, 3, 4] (T_M_isSaid_b58 hM g p0 (M_isSaid_b4 p0 n) ih v2 v3 0 (v2 - 1) m) rfl
      · refine x_aload_n (pc := 62) (i := 0) (a := 1) g dX12_isSaid_62 rfl rfl ?_
        refine x_getR (pc := 63) (x := 2) g hM dX12_isSaid_63 fl_12_33 (sm_0) rfl ?_
        refine x_iload (pc := 66) (a := 0) g dX12_isSaid_66 rfl ?_
        refine x_iald (pc := 68) g hM dX12_isSaid_68 (sm_2) (fun j4 hj4 => ?_)
        refine x_bipush (pc := 69) g dX12_isSaid_69 bi_21 ?_
        refine x_icmp_eq (pc := 71) (t := 86) g dX12_isSaid_71 (by decide) ?_ ?_
        · exact x_sub [1, 2, 3, 4, 0] (T_M_isSaid_b86 hM g p0 (M_isSaid_b4 p0 n) ih v2 v3 x1 m) rfl
        · refine x_aload_n (pc := 74) (i := 0) (a := 1) g dX12_isSaid_74 rfl rfl ?_
          refine x_getR (pc := 75) (x := 2) g hM dX12_isSaid_75 fl_12_33 (sm_0) rfl ?_
          refine x_iload (pc := 78) (a := 0) g dX12_isSaid_78 rfl ?_
          refine x_iald (pc := 80) g hM dX12_isSaid_80 (sm_2) (fun j5 hj5 => ?_)
          refine x_bipush (pc := 81) g dX12_isSaid_81 bi_22 ?_
          refine x_icmp_ne (pc := 83) (t := 165) g dX12_isSaid_83 (by decide) ?_ ?_
          · exact x_sub [1, 2, 3, 4, 0] (T_M_isSaid_b86 hM g p0 (M_isSaid_b4 p0 n) ih v2 v3 x1 m) rfl
          · refine x_aload_n (pc := 165) (i := 0) (a := 1) g dX12_isSaid_165 rfl rfl ?_
            refine x_getR (pc := 166) (x := 20) g hM dX12_isSaid_166 fl_12_102 (sm_0) rfl ?_
            refine x_iload_n (pc := 169) (i := 2) (a := 3) g dX12_isSaid_169 rfl rfl ?_
            refine x_aload_n (pc := 170) (i := 0) (a := 1) g dX12_isSaid_170 rfl rfl ?_
            refine x_iload_n (pc := 171) (i := 1) (a := 2) g dX12_isSaid_171 rfl rfl ?_
            refine x_aload_n (pc := 172) (i := 0) (a := 1) g dX12_isSaid_172 rfl rfl ?_
            refine x_getR (pc := 173) (x := 2) g hM dX12_isSaid_173 fl_12_33 (sm_0) rfl ?_
            refine x_iload (pc := 176) (a := 0) g dX12_isSaid_176 rfl ?_
            refine x_iald (pc := 178) g hM dX12_isSaid_178 (sm_2) (fun j6 hj6 => ?_)
            refine x_aload_n (pc := 179) (i := 0) (a := 1) g dX12_isSaid_179 rfl rfl ?_
            refine x_getR (pc := 180) (x := 2) g hM dX12_isSaid_180 fl_12_33 (sm_0) rfl ?_
            refine x_iload (pc := 183) (a := 0) g dX12_isSaid_183 rfl ?_
            refine x_iconst (pc := 185) g dX12_isSaid_185 ic_1 ?_
            refine x_iadd (pc := 186) g dX12_isSaid_186 ?_
            refine x_iald (pc := 187) g hM dX12_isSaid_187 (sm_2) (fun j7 hj7 => ?_)
            refine x_aload_n (pc := 188) (i := 0) (a := 1) g dX12_isSaid_188 rfl rfl ?_
            refine x_getR (pc := 189) (x := 2) g hM dX12_isSaid_189 fl_12_33 (sm_0) rfl ?_
            refine x_iload (pc := 192) (a := 0) g dX12_isSaid_192 rfl ?_
            refine x_iconst (pc := 194) g dX12_isSaid_194 ic_2 ?_
            refine x_iadd (pc := 195) g dX12_isSaid_195 ?_
            refine x_iald (pc := 196) g hM dX12_isSaid_196 (sm_2) (fun j8 hj8 => ?_)
            refine x_Vi (pc := 197) g hM [.int p0, .int (m.1 2 j6), .int (m.1 2 j7), .int (m.1 2 j8)] [.int v2, .ref (xad G 20)] (c_M_isLeaf l G hM m p0 (m.1 2 j6) (m.1 2 j7) (m.1 2 j8)) dX12_isSaid_197 ml_12_536 (sm_0) rfl rfl (Nat.le_of_ble_eq_true rfl) ⟨rfl, rfl, Nat.le_of_ble_eq_true rfl, Nat.le_of_ble_eq_true rfl⟩ (fun r9 hr9 => ?_)
            refine x_zast (pc := 200) g hM dX12_isSaid_200 (sm_20) (fun j11 hj11 m10 => ?_)
            refine x_iinc (pc := 201) (a := 3) (lv' := [(2, .int (v2 + 1)), (4, .int x1), (0, .ref (xad G 0)), (1, .int p0), (3, .int v3)]) g dX12_isSaid_201 ic_1 rfl (by decide) rfl ?_
            refine x_iinc (pc := 204) (a := 4) (lv' := [(3, .int (v3 + 1)), (2, .int (v2 + 1)), (4, .int x1), (0, .ref (xad G 0)), (1, .int p0)]) g dX12_isSaid_204 ic_1 rfl (by decide) rfl ?_
            refine x_goto (pc := 207) (t := 4) g dX12_isSaid_207 (by decide) ?_
            exact x_sub [3, 4, 1, 0] (ih (v2 + 1) (v3 + 1) m10) rfl
    · refine x_aload_n (pc := 210) (i := 0) (a := 0) g dX12_isSaid_210 rfl rfl ?_
      refine x_getR (pc := 211) (x := 20) g hM dX12_isSaid_211 fl_12_102 (sm_0) rfl ?_
      refine x_iconst (pc := 214) g dX12_isSaid_214 ic_0 ?_
      refine x_zaldc (pc := 215) g hM dX12_isSaid_215 (sm_20) ix_0_45 ?_
      exact x_zret (pc := 216) g dX12_isSaid_216 rfl (fun _ _ h => h)
theorem T_M_isSaid {l : Launch} {G : xG} {E : xE} (hM : WM G) (g : xGood E l G.1 RX12 cX12_isSaid yX12_isSaid 5 (some .boolean) rm_M_isSaid) (m : xMem) (p0 : Int32) : X E G (fun r : Int32 × xMem => (some (Value.int r.1), r.2)) 0 [(0, .ref (xad G 0)), (1, .int p0)] [] m (M_isSaid m p0) := by
  unfold M_isSaid
  refine x_iconst (pc := 0) g dX12_isSaid_0 ic_0 ?_
  refine x_istore_n (pc := 1) (i := 2) (lv' := [(2, .int 0), (0, .ref (xad G 0)), (1, .int p0)]) g dX12_isSaid_1 rfl (by decide) rfl ?_
  refine x_iconst (pc := 2) g dX12_isSaid_2 ic_0 ?_
  refine x_istore_n (pc := 3) (i := 3) (lv' := [(3, .int 0), (2, .int 0), (0, .ref (xad G 0)), (1, .int p0)]) g dX12_isSaid_3 rfl (by decide) rfl ?_
  exact x_sub [2, 3, 1, 0] (T_M_isSaid_b4 hM g p0 1000 0 0 m) rfl
theorem c_M_isSaid (l : Launch) (G : xG) (hM : WM G) (m : xMem) (p0 : Int32) : xCim l G yX12_isSaid cX12_isSaid 5 (some .boolean) rm_M_isSaid [.ref (xad G 0), .int p0] m (M_isSaid m p0) :=
  xCt_of (own := RX12) (by decide) rfl (Nat.le_of_ble_eq_true rfl) rfl ⟨rfl, rfl⟩ (fun E g => T_M_isSaid hM g m p0)
theorem T_M_said_b26 {l : Launch} {G : xG} {E : xE} (hM : WM G) (g : xGood E l G.1 RX12 cX12_said yX12_said 4 (some .int) rm_M_said) (p0 : Int32) : ∀ (n : Nat) (v2 : Int32) (v3 : Int32) (m : xMem), X E G (fun r : Int32 × xMem => (some (Value.int r.1), r.2)) 26 [(0, .ref (xad G 0)), (1, .int p0), (2, .int v2), (3, .int v3)] [] m (M_said_b26 p0 n v2 v3 m) := by
  intro n
  induction n with
  | zero => intro v2 v3 m; exact x_none
  | succ n ih =>
    intro v2 v3 m
    rw [M_said_b26]
    refine x_iload_n (pc := 26) (i := 3) (a := 3) g dX12_said_26 rfl rfl ?_
    refine x_aload_n (pc := 27) (i := 0) (a := 0) g dX12_said_27 rfl rfl ?_
    refine x_getR (pc := 28) (x := 2) g hM dX12_said_28 fl_12_33 (sm_0) rfl ?_
    refine x_iconst (pc := 31) g dX12_said_31 ic_0 ?_
    refine x_ialdc (pc := 32) g hM dX12_said_32 (sm_2) ix_0_302 ?_
    refine x_icmp_ge (pc := 33) (t := 63) g dX12_said_33 (by decide) ?_ ?_
    · refine x_aload_n (pc := 36) (i := 0) (a := 0) g dX12_said_36 rfl rfl ?_
      refine x_iload_n (pc := 37) (i := 3) (a := 3) g dX12_said_37 rfl rfl ?_
      refine x_Vim (pc := 38) g hM [.int v3] [] (c_M_isSaid l G hM m v3) dX12_said_38 ml_12_540 (sm_0) rfl rfl (Nat.le_of_ble_eq_true rfl) ⟨rfl, rfl, Nat.le_of_ble_eq_true rfl, Nat.le_of_ble_eq_true rfl⟩ (fun r2 hr2 => ?_)
      refine x_if_ne (pc := 41) (t := 47) g dX12_said_41 (by decide) ?_ ?_
      · refine x_goto (pc := 44) (t := 57) g dX12_said_44 (by decide) ?_
        refine x_iinc (pc := 57) (a := 3) (lv' := [(3, .int (v3 + 1)), (0, .ref (xad G 0)), (1, .int p0), (2, .int v2)]) g dX12_said_57 ic_1 rfl (by decide) rfl ?_
        refine x_goto (pc := 60) (t := 26) g dX12_said_60 (by decide) ?_
        exact x_sub [1, 2, 3, 0] (ih v2 (v3 + 1) r2.2) rfl
      · refine x_iload_n (pc := 47) (i := 2) (a := 2) g dX12_said_47 rfl rfl ?_
        refine x_iload_n (pc := 48) (i := 1) (a := 1) g dX12_said_48 rfl rfl ?_
        refine x_icmp_ne (pc := 49) (t := 54) g dX12_said_49 (by decide) ?_ ?_
        · refine x_iload_n (pc := 52) (i := 3) (a := 3) g dX12_said_52 rfl rfl ?_
          exact x_iret (pc := 53) g dX12_said_53 rfl (fun _ h => h)
        · refine x_iinc (pc := 54) (a := 2) (lv' := [(2, .int (v2 + 1)), (0, .ref (xad G 0)), (1, .int p0), (3, .int v3)]) g dX12_said_54 ic_1 rfl (by decide) rfl ?_
          refine x_iinc (pc := 57) (a := 3) (lv' := [(3, .int (v3 + 1)), (2, .int (v2 + 1)), (0, .ref (xad G 0)), (1, .int p0)]) g dX12_said_57 ic_1 rfl (by decide) rfl ?_
          refine x_goto (pc := 60) (t := 26) g dX12_said_60 (by decide) ?_
          exact x_sub [2, 3, 1, 0] (ih (v2 + 1) (v3 + 1) r2.2) rfl
    · refine x_iload_n (pc := 63) (i := 1) (a := 1) g dX12_said_63 rfl rfl ?_
      refine x_iconst (pc := 64) g dX12_said_64 ic_m1 ?_
      refine x_icmp_ne (pc := 65) (t := 72) g dX12_said_65 (by decide) ?_ ?_
      · refine x_iload_n (pc := 68) (i := 2) (a := 2) g dX12_said_68 rfl rfl ?_
        refine x_goto (pc := 69) (t := 73) g dX12_said_69 (by decide) ?_
        exact x_iret (pc := 73) g dX12_said_73 rfl (fun _ h => h)
      · refine x_iconst (pc := 72) g dX12_said_72 ic_m1 ?_
        exact x_iret (pc := 73) g dX12_said_73 rfl (fun _ h => h)
theorem T_M_said {l : Launch} {G : xG} {E : xE} (hM : WM G) (g : xGood E l G.1 RX12 cX12_said yX12_said 4 (some .int) rm_M_said) (m : xMem) (p0 : Int32) : X E G (fun r : Int32 × xMem => (some (Value.int r.1), r.2)) 0 [(0, .ref (xad G 0)), (1, .int p0)] [] m (M_said m p0) := by
  unfold M_said
  refine x_aload_n (pc := 0) (i := 0) (a := 0) g dX12_said_0 rfl rfl ?_
  refine x_iconst (pc := 1) g dX12_said_1 ic_0 ?_
  refine x_putI (pc := 2) g hM dX12_said_2 fl_12_1 ft_12_0 (sm_0) rfl (fun m1 => ?_)
  refine x_aload_n (pc := 5) (i := 0) (a := 0) g dX12_said_5 rfl rfl ?_
  refine x_getR (pc := 6) (x := 2) g hM dX12_said_6 fl_12_33 (sm_0) rfl ?_
  refine x_bipush (pc := 9) g dX12_said_9 bi_121 ?_
  refine x_ialdc (pc := 11) g hM dX12_said_11 (sm_2) ix_121_302 ?_
  refine x_if_eq (pc := 12) (t := 20) g dX12_said_12 (by decide) ?_ ?_
  · refine x_iconst (pc := 20) g dX12_said_20 ic_m1 ?_
    exact x_iret (pc := 21) g dX12_said_21 rfl (fun _ h => h)
  · refine x_iload_n (pc := 15) (i := 1) (a := 1) g dX12_said_15 rfl rfl ?_
    refine x_iconst (pc := 16) g dX12_said_16 ic_m1 ?_
    refine x_icmp_ge (pc := 17) (t := 22) g dX12_said_17 (by decide) ?_ ?_
    · refine x_iconst (pc := 20) g dX12_said_20 ic_m1 ?_
      exact x_iret (pc := 21) g dX12_said_21 rfl (fun _ h => h)
    · refine x_iconst (pc := 22) g dX12_said_22 ic_0 ?_
      refine x_istore_n (pc := 23) (i := 2) (lv' := [(2, .int 0), (0, .ref (xad G 0)), (1, .int p0)]) g dX12_said_23 rfl (by decide) rfl ?_
      refine x_iconst (pc := 24) g dX12_said_24 ic_0 ?_
      refine x_istore_n (pc := 25) (i := 3) (lv' := [(3, .int 0), (2, .int 0), (0, .ref (xad G 0)), (1, .int p0)]) g dX12_said_25 rfl (by decide) rfl ?_
      exact x_sub [2, 3, 1, 0] (T_M_said_b26 hM g p0 1000 0 0 m1) rfl
theorem c_M_said (l : Launch) (G : xG) (hM : WM G) (m : xMem) (p0 : Int32) : xCim l G yX12_said cX12_said 4 (some .int) rm_M_said [.ref (xad G 0), .int p0] m (M_said m p0) :=
  xCt_of (own := RX12) (by decide) rfl (Nat.le_of_ble_eq_true rfl) rfl ⟨rfl, rfl⟩ (fun E g => T_M_said hM g m p0)
theorem T_M_image_b51 {l : Launch} {G : xG} {E : xE} (hM : WM G) (g : xGood E l G.1 RX12 cX12_image yX12_image 3 (some .boolean) rm_M_image) (p0 : Int32) : ∀ (n : Nat) (v2 : Int32) (m : xMem), X E G (fun r : Int32 × xMem => (some (Value.int r.1), r.2)) 51 [(0, .ref (xad G 0)), (1, .int p0), (2, .int v2)] [] m (M_image_b51 p0 n v2 m) := by
  intro n
  induction n with
  | zero => intro v2 m; exact x_none
  | succ n ih =>
    intro v2 m
    rw [M_image_b51]
    refine x_iload_n (pc := 51) (i := 2) (a := 2) g dX12_image_51 rfl rfl ?_
    refine x_bipush (pc := 52) g dX12_image_52 bi_20 ?_
    refine x_icmp_ge (pc := 54) (t := 80) g dX12_image_54 (by decide) ?_ ?_
    · refine x_aload_n (pc := 57) (i := 0) (a := 0) g dX12_image_57 rfl rfl ?_
      refine x_getR (pc := 58) (x := 22) g hM dX12_image_58 fl_12_108 (sm_0) rfl ?_
      refine x_bipush (pc := 61) g dX12_image_61 bi_20 ?_
      refine x_iload_n (pc := 63) (i := 1) (a := 1) g dX12_image_63 rfl rfl ?_
      refine x_imul (pc := 64) g dX12_image_64 ?_
      refine x_iload_n (pc := 65) (i := 2) (a := 2) g dX12_image_65 rfl rfl ?_
      refine x_iadd (pc := 66) g dX12_image_66 ?_
      refine x_aload_n (pc := 67) (i := 0) (a := 0) g dX12_image_67 rfl rfl ?_
      refine x_getR (pc := 68) (x := 5) g hM dX12_image_68 fl_12_43 (sm_0) rfl ?_
      refine x_iload_n (pc := 71) (i := 2) (a := 2) g dX12_image_71 rfl rfl ?_
      refine x_lald (pc := 72) g hM dX12_image_72 (sm_5) (fun j6 hj6 => ?_)
      refine x_last (pc := 73) g hM dX12_image_73 (sm_22) (fun j8 hj8 m7 => ?_)
      refine x_iinc (pc := 74) (a := 2) (lv' := [(2, .int (v2 + 1)), (0, .ref (xad G 0)), (1, .int p0)]) g dX12_image_74 ic_1 rfl (by decide) rfl ?_
      refine x_goto (pc := 77) (t := 51) g dX12_image_77 (by decide) ?_
      exact x_sub [1, 2, 0] (ih (v2 + 1) m7) rfl
    · refine x_aload_n (pc := 80) (i := 0) (a := 0) g dX12_image_80 rfl rfl ?_
      refine x_getR (pc := 81) (x := 23) g hM dX12_image_81 fl_12_111 (sm_0) rfl ?_
      refine x_iload_n (pc := 84) (i := 1) (a := 1) g dX12_image_84 rfl rfl ?_
      refine x_iconst (pc := 85) g dX12_image_85 ic_1 ?_
      refine x_zast (pc := 86) g hM dX12_image_86 (sm_23) (fun j10 hj10 m9 => ?_)
      refine x_iconst (pc := 87) g dX12_image_87 ic_1 ?_
      exact x_zretc (pc := 88) g dX12_image_88 rfl (Or.inr rfl) (fun _ h => h)
theorem T_M_image_b18 {l : Launch} {G : xG} {E : xE} (hM : WM G) (g : xGood E l G.1 RX12 cX12_image yX12_image 3 (some .boolean) rm_M_image) (p0 : Int32) : ∀ (n : Nat) (v2 : Int32) (m : xMem), X E G (fun r : Int32 × xMem => (some (Value.int r.1), r.2)) 18 [(0, .ref (xad G 0)), (1, .int p0), (2, .int v2)] [] m (M_image_b18 p0 n v2 m) := by
  intro n
  induction n with
  | zero => intro v2 m; exact x_none
  | succ n ih =>
    intro v2 m
    rw [M_image_b18]
    refine x_iload_n (pc := 18) (i := 2) (a := 2) g dX12_image_18 rfl rfl ?_
    refine x_sipush (pc := 19) g dX12_image_19 si_302 ?_
    refine x_icmp_ge (pc := 22) (t := 49) g dX12_image_22 (by decide) ?_ ?_
    · refine x_aload_n (pc := 25) (i := 0) (a := 0) g dX12_image_25 rfl rfl ?_
      refine x_getR (pc := 26) (x := 21) g hM dX12_image_26 fl_12_105 (sm_0) rfl ?_
      refine x_sipush (pc := 29) g dX12_image_29 si_302 ?_
      refine x_iload_n (pc := 32) (i := 1) (a := 1) g dX12_image_32 rfl rfl ?_
      refine x_imul (pc := 33) g dX12_image_33 ?_
      refine x_iload_n (pc := 34) (i := 2) (a := 2) g dX12_image_34 rfl rfl ?_
      refine x_iadd (pc := 35) g dX12_image_35 ?_
      refine x_aload_n (pc := 36) (i := 0) (a := 0) g dX12_image_36 rfl rfl ?_
      refine x_getR (pc := 37) (x := 2) g hM dX12_image_37 fl_12_33 (sm_0) rfl ?_
      refine x_iload_n (pc := 40) (i := 2) (a := 2) g dX12_image_40 rfl rfl ?_
      refine x_iald (pc := 41) g hM dX12_image_41 (sm_2) (fun j3 hj3 => ?_)
      refine x_iast (pc := 42) g hM dX12_image_42 (sm_21) (fun j5 hj5 m4 => ?_)
      refine x_iinc (pc := 43) (a := 2) (lv' := [(2, .int (v2 + 1)), (0, .ref (xad G 0)), (1, .int p0)]) g dX12_image_43 ic_1 rfl (by decide) rfl ?_
      refine x_goto (pc := 46) (t := 18) g dX12_image_46 (by decide) ?_
      exact x_sub [1, 2, 0] (ih (v2 + 1) m4) rfl
    · refine x_iconst (pc := 49) g dX12_image_49 ic_0 ?_
      refine x_istore_n (pc := 50) (i := 2) (lv' := [(2, .int 0), (0, .ref (xad G 0)), (1, .int p0)]) g dX12_image_50 rfl (by decide) rfl ?_
      exact x_sub [1, 2, 0] (T_M_image_b51 hM g p0 1000 0 m) rfl
theorem T_M_image {l : Launch} {G : xG} {E : xE} (hM : WM G) (g : xGood E l G.1 RX12 cX12_image yX12_image 3 (some .boolean) rm_M_image) (m : xMem) (p0 : Int32) : X E G (fun r : Int32 × xMem => (some (Value.int r.1), r.2)) 0 [(0, .ref (xad G 0)), (1, .int p0)] [] m (M_image m p0) := by
  unfold M_image
  refine x_aload_n (pc := 0) (i := 0) (a := 0) g dX12_image_0 rfl rfl ?_
  refine x_iconst (pc := 1) g dX12_image_1 ic_0 ?_
  refine x_putI (pc := 2) g hM dX12_image_2 fl_12_1 ft_12_0 (sm_0) rfl (fun m1 => ?_)
  refine x_iload_n (pc := 5) (i := 1) (a := 1) g dX12_image_5 rfl rfl ?_
  refine x_iconst (pc := 6) g dX12_image_6 ic_0 ?_
  refine x_iconst (pc := 7) g dX12_image_7 ic_1 ?_
  refine x_Si (pc := 8) g [.int p0, .int 0, .int 1] [] (c_M_isIn l G hM m1 p0 0 1) dX12_image_8 ms_12_223 rfl rfl (Nat.le_of_ble_eq_true rfl) ⟨rfl, rfl, Nat.le_of_ble_eq_true rfl, Nat.le_of_ble_eq_true rfl⟩ (fun r2 hr2 => ?_)
  refine x_if_ne (pc := 11) (t := 16) g dX12_image_11 (by decide) ?_ ?_
  · refine x_iconst (pc := 14) g dX12_image_14 ic_0 ?_
    exact x_zretc (pc := 15) g dX12_image_15 rfl (Or.inl rfl) (fun _ h => h)
  · refine x_iconst (pc := 16) g dX12_image_16 ic_0 ?_
    refine x_istore_n (pc := 17) (i := 2) (lv' := [(2, .int 0), (0, .ref (xad G 0)), (1, .int p0)]) g dX12_image_17 rfl (by decide) rfl ?_
    exact x_sub [1, 2, 0] (T_M_image_b18 hM g p0 1000 0 m1) rfl
theorem c_M_image (l : Launch) (G : xG) (hM : WM G) (m : xMem) (p0 : Int32) : xCim l G yX12_image cX12_image 3 (some .boolean) rm_M_image [.ref (xad G 0), .int p0] m (M_image m p0) :=
  xCt_of (own := RX12) (by decide) rfl (Nat.le_of_ble_eq_true rfl) rfl ⟨rfl, rfl⟩ (fun E g => T_M_image hM g m p0)
theorem T_M_restore_b60 {l : Launch} {G : xG} {E : xE} (hM : WM G) (g : xGood E l G.1 RX12 cX12_restore yX12_restore 3 (some .boolean) rm_M_restore) (p0 : Int32) : ∀ (n : Nat) (v2 : Int32) (m : xMem), X E G (fun r : Int32 × xMem => (some (Value.int r.1), r.2)) 60 [(0, .ref (xad G 0)), (1, .int p0), (2, .int v2)] [] m (M_restore_b60 p0 n v2 m) := by
  intro n
  induction n with
  | zero => intro v2 m; exact x_none
  | succ n ih =>
    intro v2 m
    rw [M_restore_b60]
    refine x_iload_n (pc := 60) (i := 2) (a := 2) g dX12_restore_60 rfl rfl ?_
    refine x_bipush (pc := 61) g dX12_restore_61 bi_20 ?_
    refine x_icmp_ge (pc := 63) (t := 89) g dX12_restore_63 (by decide) ?_ ?_
    · refine x_aload_n (pc := 66) (i := 0) (a := 0) g dX12_restore_66 rfl rfl ?_
      refine x_getR (pc := 67) (x := 5) g hM dX12_restore_67 fl_12_43 (sm_0) rfl ?_
      refine x_iload_n (pc := 70) (i := 2) (a := 2) g dX12_restore_70 rfl rfl ?_
      refine x_aload_n (pc := 71) (i := 0) (a := 0) g dX12_restore_71 rfl rfl ?_
      refine x_getR (pc := 72) (x := 22) g hM dX12_restore_72 fl_12_108 (sm_0) rfl ?_
      refine x_bipush (pc := 75) g dX12_restore_75 bi_20 ?_
      refine x_iload_n (pc := 77) (i := 1) (a := 1) g dX12_restore_77 rfl rfl ?_
      refine x_imul (pc := 78) g dX12_restore_78 ?_
      refine x_iload_n (pc := 79) (i := 2) (a := 2) g dX12_restore_79 rfl rfl ?_
      refine x_iadd (pc := 80) g dX12_restore_80 ?_
      refine x_lald (pc := 81) g hM dX12_restore_81 (sm_22) (fun j7 hj7 => ?_)
      refine x_last (pc := 82) g hM dX12_restore_82 (sm_5) (fun j9 hj9 m8 => ?_)
      refine x_iinc (pc := 83) (a := 2) (lv' := [(2, .int (v2 + 1)), (0, .ref (xad G 0)), (1, .int p0)]) g dX12_restore_83 ic_1 rfl (by decide) rfl ?_
      refine x_goto (pc := 86) (t := 60) g dX12_restore_86 (by decide) ?_
      exact x_sub [1, 2, 0] (ih (v2 + 1) m8) rfl
    · refine x_aload_n (pc := 89) (i := 0) (a := 0) g dX12_restore_89 rfl rfl ?_
      refine x_iconst (pc := 90) g dX12_restore_90 ic_0 ?_
      refine x_putI (pc := 91) g hM dX12_restore_91 fl_12_307 ft_12_24 (sm_0) rfl (fun m10 => ?_)
      refine x_iconst (pc := 94) g dX12_restore_94 ic_1 ?_
      exact x_zretc (pc := 95) g dX12_restore_95 rfl (Or.inr rfl) (fun _ h => h)
theorem T_M_restore_b27 {l : Launch} {G : xG} {E : xE} (hM : WM G) (g : xGood E l G.1 RX12 cX12_restore yX12_restore 3 (some .boolean) rm_M_restore) (p0 : Int32) : ∀ (n : Nat) (v2 : Int32) (m : xMem), X E G (fun r : Int32 × xMem => (some (Value.int r.1), r.2)) 27 [(0, .ref (xad G 0)), (1, .int p0), (2, .int v2)] [] m (M_restore_b27 p0 n v2 m) := by
  intro n
  induction n with
  | zero => intro v2 m; exact x_none
  | succ n ih =>
    intro v2 m
    rw [M_restore_b27]
    refine x_iload_n (pc := 27) (i := 2) (a := 2) g dX12_restore_27 rfl rfl ?_
    refine x_sipush (pc := 28) g dX12_restore_28 si_302 ?_
    refine x_icmp_ge (pc := 31) (t := 58) g dX12_restore_31 (by decide) ?_ ?_
    · refine x_aload_n (pc := 34) (i := 0) (a := 0) g dX12_restore_34 rfl rfl ?_
      refine x_getR (pc := 35) (x := 2) g hM dX12_restore_35 fl_12_33 (sm_0) rfl ?_
      refine x_iload_n (pc := 38) (i := 2) (a := 2) g dX12_restore_38 rfl rfl ?_
      refine x_aload_n (pc := 39) (i := 0) (a := 0) g dX12_restore_39 rfl rfl ?_
      refine x_getR (pc := 40) (x := 21) g hM dX12_restore_40 fl_12_105 (sm_0) rfl ?_
      refine x_sipush (pc := 43) g dX12_restore_43 si_302 ?_
      refine x_iload_n (pc := 46) (i := 1) (a := 1) g dX12_restore_46 rfl rfl ?_
      refine x_imul (pc := 47) g dX12_restore_47 ?_
      refine x_iload_n (pc := 48) (i := 2) (a := 2) g dX12_restore_48 rfl rfl ?_
      refine x_iadd (pc := 49) g dX12_restore_49 ?_
      refine x_iald (pc := 50) g hM dX12_restore_50 (sm_21) (fun j4 hj4 => ?_)
      refine x_iast (pc := 51) g hM dX12_restore_51 (sm_2) (fun j6 hj6 m5 => ?_)
      refine x_iinc (pc := 52) (a := 2) (lv' := [(2, .int (v2 + 1)), (0, .ref (xad G 0)), (1, .int p0)]) g dX12_restore_52 ic_1 rfl (by decide) rfl ?_
      refine x_goto (pc := 55) (t := 27) g dX12_restore_55 (by decide) ?_
      exact x_sub [1, 2, 0] (ih (v2 + 1) m5) rfl
    · refine x_iconst (pc := 58) g dX12_restore_58 ic_0 ?_
      refine x_istore_n (pc := 59) (i := 2) (lv' := [(2, .int 0), (0, .ref (xad G 0)), (1, .int p0)]) g dX12_restore_59 rfl (by decide) rfl ?_
      exact x_sub [1, 2, 0] (T_M_restore_b60 hM g p0 1000 0 m) rfl
theorem T_M_restore {l : Launch} {G : xG} {E : xE} (hM : WM G) (g : xGood E l G.1 RX12 cX12_restore yX12_restore 3 (some .boolean) rm_M_restore) (m : xMem) (p0 : Int32) : X E G (fun r : Int32 × xMem => (some (Value.int r.1), r.2)) 0 [(0, .ref (xad G 0)), (1, .int p0)] [] m (M_restore m p0) := by
  unfold M_restore
  refine x_aload_n (pc := 0) (i := 0) (a := 0) g dX12_restore_0 rfl rfl ?_
  refine x_iconst (pc := 1) g dX12_restore_1 ic_0 ?_
  refine x_putI (pc := 2) g hM dX12_restore_2 fl_12_1 ft_12_0 (sm_0) rfl (fun m1 => ?_)
  refine x_iload_n (pc := 5) (i := 1) (a := 1) g dX12_restore_5 rfl rfl ?_
  refine x_iconst (pc := 6) g dX12_restore_6 ic_0 ?_
  refine x_iconst (pc := 7) g dX12_restore_7 ic_1 ?_
  refine x_Si (pc := 8) g [.int p0, .int 0, .int 1] [] (c_M_isIn l G hM m1 p0 0 1) dX12_restore_8 ms_12_223 rfl rfl (Nat.le_of_ble_eq_true rfl) ⟨rfl, rfl, Nat.le_of_ble_eq_true rfl, Nat.le_of_ble_eq_true rfl⟩ (fun r2 hr2 => ?_)
  refine x_if_eq (pc := 11) (t := 23) g dX12_restore_11 (by decide) ?_ ?_
  · refine x_iconst (pc := 23) g dX12_restore_23 ic_0 ?_
    exact x_zretc (pc := 24) g dX12_restore_24 rfl (Or.inl rfl) (fun _ h => h)
  · refine x_aload_n (pc := 14) (i := 0) (a := 0) g dX12_restore_14 rfl rfl ?_
    refine x_getR (pc := 15) (x := 23) g hM dX12_restore_15 fl_12_111 (sm_0) rfl ?_
    refine x_iload_n (pc := 18) (i := 1) (a := 1) g dX12_restore_18 rfl rfl ?_
    refine x_zald (pc := 19) g hM dX12_restore_19 (sm_23) (fun j3 hj3 => ?_)
    refine x_if_ne (pc := 20) (t := 25) g dX12_restore_20 (by decide) ?_ ?_
    · refine x_iconst (pc := 23) g dX12_restore_23 ic_0 ?_
      exact x_zretc (pc := 24) g dX12_restore_24 rfl (Or.inl rfl) (fun _ h => h)
    · refine x_iconst (pc := 25) g dX12_restore_25 ic_0 ?_
      refine x_istore_n (pc := 26) (i := 2) (lv' := [(2, .int 0), (0, .ref (xad G 0)), (1, .int p0)]) g dX12_restore_26 rfl (by decide) rfl ?_
      exact x_sub [1, 2, 0] (T_M_restore_b27 hM g p0 1000 0 m1) rfl
theorem c_M_restore (l : Launch) (G : xG) (hM : WM G) (m : xMem) (p0 : Int32) : xCim l G yX12_restore cX12_restore 3 (some .boolean) rm_M_restore [.ref (xad G 0), .int p0] m (M_restore m p0) :=
  xCt_of (own := RX12) (by decide) rfl (Nat.le_of_ble_eq_true rfl) rfl ⟨rfl, rfl⟩ (fun E g => T_M_restore hM g m p0)
theorem T_M_count {l : Launch} {G : xG} {E : xE} (hM : WM G) (g : xGood E l G.1 RX12 cX12_count yX12_count 2 (some .int) rm_M_count) (m : xMem) (p0 : Int32) : X E G (fun r : Int32 × xMem => (some (Value.int r.1), r.2)) 0 [(0, .ref (xad G 0)), (1, .int p0)] [] m (M_count m p0) := by
  unfold M_count
  refine x_aload_n (pc := 0) (i := 0) (a := 0) g dX12_count_0 rfl rfl ?_
  refine x_iconst (pc := 1) g dX12_count_1 ic_0 ?_
  refine x_putI (pc := 2) g hM dX12_count_2 fl_12_1 ft_12_0 (sm_0) rfl (fun m1 => ?_)
  refine x_iload_n (pc := 5) (i := 1) (a := 1) g dX12_count_5 rfl rfl ?_
  refine x_iconst (pc := 6) g dX12_count_6 ic_5 ?_
  refine x_icmp_ne (pc := 7) (t := 17) g dX12_count_7 (by decide) ?_ ?_
  · refine x_aload_n (pc := 10) (i := 0) (a := 0) g dX12_count_10 rfl rfl ?_
    refine x_getI (pc := 11) g hM dX12_count_11 fl_12_7 (sm_0) rfl ?_
    refine x_goto (pc := 14) (t := 36) g dX12_count_14 (by decide) ?_
    exact x_iret (pc := 36) g dX12_count_36 rfl (fun _ h => h)
  · refine x_iload_n (pc := 17) (i := 1) (a := 1) g dX12_count_17 rfl rfl ?_
    refine x_iconst (pc := 18) g dX12_count_18 ic_0 ?_
    refine x_iconst (pc := 19) g dX12_count_19 ic_4 ?_
    refine x_Si (pc := 20) g [.int p0, .int 0, .int 4] [] (c_M_isIn l G hM m1 p0 0 4) dX12_count_20 ms_12_223 rfl rfl (Nat.le_of_ble_eq_true rfl) ⟨rfl, rfl, Nat.le_of_ble_eq_true rfl, Nat.le_of_ble_eq_true rfl⟩ (fun r2 hr2 => ?_)
    refine x_if_eq (pc := 23) (t := 35) g dX12_count_23 (by decide) ?_ ?_
    · refine x_iconst (pc := 35) g dX12_count_35 ic_m1 ?_
      exact x_iret (pc := 36) g dX12_count_36 rfl (fun _ h => h)
    · refine x_aload_n (pc := 26) (i := 0) (a := 0) g dX12_count_26 rfl rfl ?_
      refine x_getR (pc := 27) (x := 2) g hM dX12_count_27 fl_12_33 (sm_0) rfl ?_
      refine x_iload_n (pc := 30) (i := 1) (a := 1) g dX12_count_30 rfl rfl ?_
      refine x_iald (pc := 31) g hM dX12_count_31 (sm_2) (fun j3 hj3 => ?_)
      refine x_goto (pc := 32) (t := 36) g dX12_count_32 (by decide) ?_
      exact x_iret (pc := 36) g dX12_count_36 rfl (fun _ h => h)
theorem c_M_count (l : Launch) (G : xG) (hM : WM G) (m : xMem) (p0 : Int32) : xCim l G yX12_count cX12_count 2 (some .int) rm_M_count [.ref (xad G 0), .int p0] m (M_count m p0) :=
  xCt_of (own := RX12) (by decide) rfl (Nat.le_of_ble_eq_true rfl) rfl ⟨rfl, rfl⟩ (fun E g => T_M_count hM g m p0)
