theorem w_1_57 : (Jvm.Cond.methodLink "OwlsLent$Tokens" (3 : Nat) ({ cls := "java/lang/Object", name := "<init>", desc := "()V" } : Jvm.MethodName)) ∈ GT := GT_in (tlw (tin_1 (List.mem_of_getElem? (i := 57) rfl))) rfl
theorem w_1_59 : (Jvm.Cond.methodLink "OwlsLent$Tokens" (53 : Nat) ({ cls := "java/lang/String", name := "length", desc := "()I" } : Jvm.MethodName)) ∈ GT := GT_in (tlw (tin_1 (List.mem_of_getElem? (i := 59) rfl))) rfl
theorem w_1_69 : (Jvm.Cond.methodLink "OwlsLent$Tokens" (59 : Nat) ({ cls := "java/lang/String", name := "charAt", desc := "(I)C" } : Jvm.MethodName)) ∈ GT := GT_in (tlw (tin_1 (List.mem_of_getElem? (i := 69) rfl))) rfl
theorem w_1_162 : (Jvm.Cond.methodLink "OwlsLent$Image" (1 : Nat) ({ cls := "java/lang/Object", name := "<init>", desc := "()V" } : Jvm.MethodName)) ∈ GT := GT_in (tlw (tin_1 (List.mem_of_getElem? (i := 162) rfl))) rfl
theorem w_1_163 : (Jvm.Cond.classLink "OwlsLent$Image" (13 : Nat) "OwlsLent$House") ∈ GT := GT_in (tlw (tin_1 (List.mem_of_getElem? (i := 163) rfl))) rfl
theorem w_1_164 : (Jvm.Cond.instantiable "OwlsLent$House" (15 : Nat)) ∈ GT := GT_in (tlw (tin_1 (List.mem_of_getElem? (i := 164) rfl))) rfl
theorem w_1_166 : (Jvm.Cond.instanceMethod ({ cls := "OwlsLent$House", name := "<init>", desc := "()V" } : Jvm.MethodName)) ∈ GT := GT_in (tlw (tin_1 (List.mem_of_getElem? (i := 166) rfl))) rfl
theorem w_1_167 : (Jvm.Cond.code ({ cls := "OwlsLent$House", name := "<init>", desc := "()V" } : Jvm.MethodName) prog_4_method_1_code (1 : Nat) (Option.none : Option Jvm.ClassFile.FieldType)) ∈ GT := GT_in (tlw (tin_1 (List.mem_of_getElem? (i := 167) rfl))) rfl
theorem w_2_25 : (Jvm.Cond.classLink "OwlsLent$Image" (20 : Nat) "OwlsLent$State") ∈ GT := GT_in (tlw (tin_2 (List.mem_of_getElem? (i := 25) rfl))) rfl
theorem w_2_26 : (Jvm.Cond.instantiable "OwlsLent$State" (7 : Nat)) ∈ GT := GT_in (tlw (tin_2 (List.mem_of_getElem? (i := 26) rfl))) rfl
theorem w_2_28 : (Jvm.Cond.instanceMethod ({ cls := "OwlsLent$State", name := "<init>", desc := "()V" } : Jvm.MethodName)) ∈ GT := GT_in (tlw (tin_2 (List.mem_of_getElem? (i := 28) rfl))) rfl
theorem w_2_29 : (Jvm.Cond.code ({ cls := "OwlsLent$State", name := "<init>", desc := "()V" } : Jvm.MethodName) prog_9_method_1_code (1 : Nat) (Option.none : Option Jvm.ClassFile.FieldType)) ∈ GT := GT_in (tlw (tin_2 (List.mem_of_getElem? (i := 29) rfl))) rfl
theorem w_2_64 : (Jvm.Cond.classLink "OwlsLent$Image" (27 : Nat) "OwlsLent$Sentence") ∈ GT := GT_in (tlw (tin_2 (List.mem_of_getElem? (i := 64) rfl))) rfl
theorem w_2_65 : (Jvm.Cond.instantiable "OwlsLent$Sentence" (7 : Nat)) ∈ GT := GT_in (tlw (tin_2 (List.mem_of_getElem? (i := 65) rfl))) rfl
theorem w_2_67 : (Jvm.Cond.instanceMethod ({ cls := "OwlsLent$Sentence", name := "<init>", desc := "()V" } : Jvm.MethodName)) ∈ GT := GT_in (tlw (tin_2 (List.mem_of_getElem? (i := 67) rfl))) rfl
theorem w_2_68 : (Jvm.Cond.code ({ cls := "OwlsLent$Sentence", name := "<init>", desc := "()V" } : Jvm.MethodName) prog_7_method_1_code (1 : Nat) (Option.none : Option Jvm.ClassFile.FieldType)) ∈ GT := GT_in (tlw (tin_2 (List.mem_of_getElem? (i := 68) rfl))) rfl
theorem w_2_159 : (Jvm.Cond.methodLink "OwlsLent$Undo" (3 : Nat) ({ cls := "java/lang/Object", name := "<init>", desc := "()V" } : Jvm.MethodName)) ∈ GT := GT_in (tlw (tin_2 (List.mem_of_getElem? (i := 159) rfl))) rfl
theorem w_2_160 : (Jvm.Cond.classLink "OwlsLent$Undo" (11 : Nat) "OwlsLent$State") ∈ GT := GT_in (tlw (tin_2 (List.mem_of_getElem? (i := 160) rfl))) rfl
theorem nw_1_165 : (Jvm.Cond.methodLinkNest "OwlsLent$Image" (15 : Nat) ({ cls := "OwlsLent$House", name := "<init>", desc := "()V" } : Jvm.MethodName) "OwlsLent") ∈ NT := List.mem_filter.mpr ⟨tin_1 (List.mem_of_getElem? (i := 165) rfl), rfl⟩
theorem nw_2_27 : (Jvm.Cond.methodLinkNest "OwlsLent$Image" (22 : Nat) ({ cls := "OwlsLent$State", name := "<init>", desc := "()V" } : Jvm.MethodName) "OwlsLent") ∈ NT := List.mem_filter.mpr ⟨tin_2 (List.mem_of_getElem? (i := 27) rfl), rfl⟩
theorem nw_2_66 : (Jvm.Cond.methodLinkNest "OwlsLent$Image" (29 : Nat) ({ cls := "OwlsLent$Sentence", name := "<init>", desc := "()V" } : Jvm.MethodName) "OwlsLent") ∈ NT := List.mem_filter.mpr ⟨tin_2 (List.mem_of_getElem? (i := 66) rfl), rfl⟩
theorem nw_2_162 : (Jvm.Cond.methodLinkNest "OwlsLent$Undo" (24 : Nat) ({ cls := "OwlsLent$State", name := "<init>", desc := "()V" } : Jvm.MethodName) "OwlsLent") ∈ NT := List.mem_filter.mpr ⟨tin_2 (List.mem_of_getElem? (i := 162) rfl), rfl⟩
theorem mls_9_53 : xMLs RX9 53 yJ0_length_8abf5 cJ0_length_8abf5 1 (some .int) 0 := ⟨w_1_59, w_1_60, w_1_61, w_1_5, w_1_62, by decide, by decide, rfl⟩
theorem mls_9_59 : xMLs RX9 59 yJ0_charAt_5068e cJ0_charAt_5068e 2 (some .char) 1 := ⟨w_1_69, w_1_70, w_1_71, w_1_5, w_1_72, by decide, by decide, rfl⟩
theorem al_32 : Int32.ofNat 32 = 32 := by decide
theorem fr_9_9 : xFR RX9 9 8 1 := ⟨RX9, TX9, 12, tyX9, .array .long, rfl, by decide, uw_9, rfl, w_1_109, rfl, rfl, tyX9_ok, nmX9, rfl, fun _ => ⟨rfl, rfl⟩⟩
theorem fr_9_47 : xFR RX9 47 8 0 := ⟨RX9, TX9, 12, tyX9, .object RX8, rfl, by decide, uw_9, rfl, w_1_108, rfl, rfl, tyX9_ok, nmX9, rfl, fun _ => ⟨rfl, rfl⟩⟩
def blX9 : List Value := [.null, .null, .int 0, .int 0, .int 0, .int 0, .int 0, .int 0, .int 0, .long 0, .int 0, .int 0]
theorem dfX9 : ∀ j, j < 12 → defaultValue (tyX9 j) = vp_V blX9 j := lt_s (lt_s (lt_s (lt_s (lt_s (lt_s (lt_s (lt_s (lt_s (lt_s (lt_s (lt_s (lt_0) rfl) rfl) rfl) rfl) rfl) rfl) rfl) rfl) rfl) rfl) rfl) rfl
theorem mi_4_15 : xMI RX4 15 yX2_init cX2_init 1 0 := ⟨Or.inr ⟨_, nw_1_165⟩, rfl, w_1_166, w_1_10, w_1_167, neM_2, neV_2, rfl⟩
theorem fr_4_16 : xFR RX4 16 3 1 := ⟨RX4, TX4, 4, tyX4, .object RX2, rfl, by decide, uw_4, rfl, w_2_98, rfl, rfl, tyX4_ok, nmX4, rfl, fun _ => ⟨rfl, rfl⟩⟩
theorem mi_4_22 : xMI RX4 22 yX7_init cX7_init 1 0 := ⟨Or.inr ⟨_, nw_2_27⟩, rfl, w_2_28, w_1_11, w_2_29, neM_7, neV_7, rfl⟩
theorem fr_4_23 : xFR RX4 23 3 2 := ⟨RX4, TX4, 4, tyX4, .object RX7, rfl, by decide, uw_4, rfl, w_2_100, rfl, rfl, tyX4_ok, nmX4, rfl, fun _ => ⟨rfl, rfl⟩⟩
theorem mi_4_29 : xMI RX4 29 yX5_init cX5_init 1 0 := ⟨Or.inr ⟨_, nw_2_66⟩, rfl, w_2_67, w_1_12, w_2_68, neM_5, neV_5, rfl⟩
theorem fr_4_30 : xFR RX4 30 3 3 := ⟨RX4, TX4, 4, tyX4, .object RX5, rfl, by decide, uw_4, rfl, w_2_102, rfl, rfl, tyX4_ok, nmX4, rfl, fun _ => ⟨rfl, rfl⟩⟩
def blX4 : List Value := [.int 0, .null, .null, .null]
theorem dfX4 : ∀ j, j < 4 → defaultValue (tyX4 j) = vp_V blX4 j := lt_s (lt_s (lt_s (lt_s (lt_0) rfl) rfl) rfl) rfl
theorem fr_10_13 : xFR RX10 13 9 0 := ⟨RX10, TX10, 3, tyX10, .array (.object RX7), rfl, by decide, uw_10, rfl, w_2_163, rfl, rfl, tyX10_ok, nmX10, rfl, fun _ => ⟨rfl, rfl⟩⟩
theorem mi_10_24 : xMI RX10 24 yX7_init cX7_init 1 0 := ⟨Or.inr ⟨_, nw_2_162⟩, rfl, w_2_28, w_1_11, w_2_29, neM_7, neV_7, rfl⟩
def blX10 : List Value := [.null, .int 0, .int 0]
theorem dfX10 : ∀ j, j < 3 → defaultValue (tyX10 j) = vp_V blX10 j := lt_s (lt_s (lt_s (lt_0) rfl) rfl) rfl
theorem xD_mem {G : xG} {m m' : xMem} {A : Nat → Prop} (h : va_D A (xwd G m)) : va_D A (xwd G m') := by
  have key : ∀ (k : Nat) (q : Nat × va_E), (xwd G m')[k]? = some q → ∃ e, (xwd G m)[k]? = some (q.1, e) := by
    intro k q hk
    have hl : k < (xwd G m').length := (List.getElem?_eq_some_iff.mp hk).1
    have hn : k < xN G := by simpa [xwd] using hl
    rw [xwd_at hn] at hk
    cases hk
    exact ⟨_, xwd_at hn⟩
  refine ⟨fun i j p q hi hj e => ?_, fun k q hk => ?_⟩
  · obtain ⟨e1, h1⟩ := key i p hi
    obtain ⟨e2, h2⟩ := key j q hj
    exact h.1 i j _ _ h1 h2 e
  · obtain ⟨e1, h1⟩ := key k q hk
    exact h.2 k (q.1, e1) h1
theorem y_mem {E : xE} {ce sl : Nat} {A0 : Nat → Prop} {pc : Nat} {lv : List (Nat × Value)} {st : List Value} {P : State → Prop} (cn : xCnt E ce sl A0) {G : xG} {m mT : xMem} {res : Option xMem} (hres : res = some mT) (hp : ∀ t : State, xWK G mT t → va_D A0 (xwd G mT) → P t) (k : Xg E (fun z : xMem => xEnd E G (none, z)) pc lv st (xwd G m) res) : Xg E (fun _ : Unit => xFin E ce sl P) pc lv st (xwd G m) (some ()) := by
  obtain ⟨p, l, e, R, s, mm, args, below, meth, c, nL, ce, sl, A, S⟩ := E
  obtain ⟨rfl, rfl, -, -, rfl⟩ := cn
  intro z hz H locs ls hl hP hD hS T9 hT9 X9
  obtain ⟨t, b1, o, c1, c2, ⟨⟨c3, c4⟩, c5⟩, c6⟩ := k mT hres H locs ls hl hP hD hS T9 hT9 X9
  exact ⟨t, b1, o, c1, c2, ⟨⟨c3, hp t c4 (xD_mem hD)⟩, c5⟩, c6⟩
theorem some_get {α : Type} {o : Option α} (h : o.isSome = true) : o = some (o.get h) := (Option.some_get h).symm
def shR_Tokens : Nat → xSh := fun k => ([.inl (8, [4, 3, 0, 0, 0, 0, 0, 0, 0, 1, 0, 0]), .inr (1, 32, [])] : List xSh).getD k (.inr (9, 0, []))
theorem shR_Tokens_out2 (k : Nat) (h : 2 ≤ k) : shR_Tokens k = .inr (9, 0, []) := by unfold shR_Tokens; rw [List.getD_eq_getElem?_getD, List.getElem?_eq_none (by exact h)]; rfl
abbrev WT (G : xG) : Prop := xWG G shR_Tokens
theorem sk_0 : shR_Tokens 0 = .inl (8, [4, 3, 0, 0, 0, 0, 0, 0, 0, 1, 0, 0]) := rfl
theorem sk_1 : shR_Tokens 1 = .inr (1, 32, []) := rfl
def mR_Tokens0 : xMem := (fun k j => if k = 0 then ([0, 0, 0, 0, 0, 0, 0, 0, (-1), 0, 0, 0] : List Int32).getD j 0 else 0, fun _ _ => 0)
abbrev rm_Tokens_init : Room := { frames := 4, cells := 1, slots := 32, locals := 85 }
abbrev rm_y_Tokens : Room := { frames := 4, cells := 1, slots := 32, locals := 85 }
def Tokens_init_b71 : Nat → Int32 → Int32 → xMem → Option (xMem)
  | 0, _, _, _ => none
  | n + 1, v2, v3, m =>
    if v3 < (nI (xLen.getD 0 0)) then
      if v2 < 32 then
        (ix v3 (xLen.getD 0 0)).bind fun j1 =>
        nm (xChr 0 j1) fun x2 =>
        if x2 = 32 then
          Tokens_init_b71 n (v2 + 1) (v3 + 1) m
        else
          (ix v2 32).bind fun j3 =>
          (ix v2 32).bind fun j5 => nm (upL m 1 j5 (((m.2 1 j3) * 32) + (i_l ((x2 - 97) + 1)))) fun m4 =>
          Tokens_init_b71 n v2 (v3 + 1) m4
      else
        some m
    else
      some m
def Tokens_init (m : xMem) : Option (xMem) :=
  Tokens_init_b71 1000 0 0 m
theorem T_Tokens_init_b71 {l : Launch} {G : xG} {E : xE} (hT : WT G) (g : xGood E l G.1 RX9 cX9_init yX9_init 5 none rm_Tokens_init) : ∀ (n : Nat) (v2 : Int32) (v3 : Int32) (m : xMem), X E G (fun r : xMem => ((none : Option Value), r)) 71 [(0, .ref (xad G 0)), (2, .int v2), (3, .int v3)] [] m (Tokens_init_b71 n v2 v3 m) := by
  intro n
  induction n with
  | zero => intro v2 v3 m; exact x_none
  | succ n ih =>
    intro v2 v3 m
    rw [Tokens_init_b71]
    refine x_iload_n (pc := 71) (i := 3) (a := 2) g dX9_init_71 rfl rfl ?_
    refine x_sldc (pc := 72) (i := 0) g dX9_init_72 (by decide) ⟨rfl, rfl⟩ ?_
    refine x_slen (pc := 74) g dX9_init_74 (by decide) mls_9_53 (Nat.le_of_ble_eq_true rfl) ⟨rfl, rfl, Nat.le_of_ble_eq_true rfl, Nat.le_of_ble_eq_true rfl⟩ ?_
    refine x_icmp_ge (pc := 77) (t := 141) g dX9_init_77 (by decide) ?_ ?_
    · refine x_iload_n (pc := 80) (i := 2) (a := 1) g dX9_init_80 rfl rfl ?_
      refine x_aload_n (pc := 81) (i := 0) (a := 0) g dX9_init_81 rfl rfl ?_
      refine x_getR (pc := 82) (x := 1) g hT dX9_init_82 fl_9_9 (sk_0) rfl ?_
      refine x_alen (pc := 85) g hT dX9_init_85 (sk_1) (by decide) al_32 ?_
      refine x_icmp_ge (pc := 86) (t := 141) g dX9_init_86 (by decide) ?_ ?_
      · refine x_sldc (pc := 89) (i := 0) g dX9_init_89 (by decide) ⟨rfl, rfl⟩ ?_
        refine x_iload_n (pc := 91) (i := 3) (a := 2) g dX9_init_91 rfl rfl ?_
        refine x_schar (pc := 92) g dX9_init_92 (by decide) mls_9_59 (Nat.le_of_ble_eq_true rfl) ⟨rfl, rfl, Nat.le_of_ble_eq_true rfl, Nat.le_of_ble_eq_true rfl⟩ (fun j1 hj1 => ?_)
        refine x_nmI (fun x2 => ?_)
        refine x_istore (pc := 95) (lv' := [(4, .int x2), (0, .ref (xad G 0)), (2, .int v2), (3, .int v3)]) g dX9_init_95 (by decide) rfl ?_
        refine x_iload (pc := 97) (a := 0) g dX9_init_97 rfl ?_
        refine x_bipush (pc := 99) g dX9_init_99 bi_32 ?_
        refine x_icmp_ne (pc := 101) (t := 110) g dX9_init_101 (by decide) ?_ ?_
        · refine x_iinc (pc := 104) (a := 2) (lv' := [(2, .int (v2 + 1)), (4, .int x2), (0, .ref (xad G 0)), (3, .int v3)]) g dX9_init_104 ic_1 rfl (by decide) rfl ?_
          refine x_goto (pc := 107) (t := 135) g dX9_init_107 (by decide) ?_
          refine x_iinc (pc := 135) (a := 3) (lv' := [(3, .int (v3 + 1)), (2, .int (v2 + 1)), (4, .int x2), (0, .ref (xad G 0))]) g dX9_init_135 ic_1 rfl (by decide) rfl ?_
          refine x_goto (pc := 138) (t := 71) g dX9_init_138 (by decide) ?_
          exact x_sub [3, 1, 0] (ih (v2 + 1) (v3 + 1) m) rfl
        · refine x_aload_n (pc := 110) (i := 0) (a := 1) g dX9_init_110 rfl rfl ?_
          refine x_getR (pc := 111) (x := 1) g hT dX9_init_111 fl_9_9 (sk_0) rfl ?_
          refine x_iload_n (pc := 114) (i := 2) (a := 2) g dX9_init_114 rfl rfl ?_
          refine x_aload_n (pc := 115) (i := 0) (a := 1) g dX9_init_115 rfl rfl ?_
          refine x_getR (pc := 116) (x := 1) g hT dX9_init_116 fl_9_9 (sk_0) rfl ?_
          refine x_iload_n (pc := 119) (i := 2) (a := 2) g dX9_init_119 rfl rfl ?_
          refine x_lald (pc := 120) g hT dX9_init_120 (sk_1) (fun j3 hj3 => ?_)
          refine x_ldc2 (pc := 121) g dX9_init_121 kc_9_63 ?_
          refine x_lmul (pc := 124) g dX9_init_124 ?_
          refine x_iload (pc := 125) (a := 0) g dX9_init_125 rfl ?_
          refine x_bipush (pc := 127) g dX9_init_127 bi_97 ?_
          refine x_isub (pc := 129) g dX9_init_129 ?_
          refine x_iconst (pc := 130) g dX9_init_130 ic_1 ?_
          refine x_iadd (pc := 131) g dX9_init_131 ?_
          refine x_i2l (pc := 132) g dX9_init_132 ?_
          refine x_ladd (pc := 133) g dX9_init_133 ?_
          refine x_last (pc := 134) g hT dX9_init_134 (sk_1) (fun j5 hj5 m4 => ?_)
          refine x_iinc (pc := 135) (a := 3) (lv' := [(3, .int (v3 + 1)), (4, .int x2), (0, .ref (xad G 0)), (2, .int v2)]) g dX9_init_135 ic_1 rfl (by decide) rfl ?_
          refine x_goto (pc := 138) (t := 71) g dX9_init_138 (by decide) ?_
          exact x_sub [2, 3, 0] (ih v2 (v3 + 1) m4) rfl
      · exact x_vret (pc := 141) g dX9_init_141 rfl (fun _ h => h)
    · exact x_vret (pc := 141) g dX9_init_141 rfl (fun _ h => h)
theorem T_Tokens_init {l : Launch} {G : xG} {E : xE} (hT : WT G) (g : xGood E l G.1 RX9 cX9_init yX9_init 5 none rm_Tokens_init) (m : xMem) : X E G (fun r : xMem => ((none : Option Value), r)) 67 [(0, .ref (xad G 0))] [] m (Tokens_init m) := by
  unfold Tokens_init
  refine x_iconst (pc := 67) g dX9_init_67 ic_0 ?_
  refine x_istore_n (pc := 68) (i := 2) (lv' := [(2, .int 0), (0, .ref (xad G 0))]) g dX9_init_68 rfl (by decide) rfl ?_
  refine x_iconst (pc := 69) g dX9_init_69 ic_0 ?_
  refine x_istore_n (pc := 70) (i := 3) (lv' := [(3, .int 0), (2, .int 0), (0, .ref (xad G 0))]) g dX9_init_70 rfl (by decide) rfl ?_
  exact x_sub [2, 1, 0] (T_Tokens_init_b71 hT g 1000 0 0 m) rfl
set_option maxRecDepth 100000 in
theorem is_Tokens : (Tokens_init mR_Tokens0).isSome = true := by decide +kernel
def mR_Tokens : xMem := (Tokens_init mR_Tokens0).get is_Tokens
def adR_Tokens (q : Nat) (q1 : Nat) (tp : Nat) : Nat → Nat := fun k => ([q, q1, tp] : List Nat).getD k 0
theorem y_Tokens (l : Launch) (S : xS) (tp : Nat) : yCt l S yX9_init cX9_init 5 rm_y_Tokens 8 blX9 [.ref tp] 1 32 shR_Tokens 2 mR_Tokens (fun ad => ad 2 = tp) := by
  refine yCt_of (own := RX9) (lv := fun q => [(0, .ref q), (1, .ref tp)]) (by decide) rfl rfl (fun q => Nat.le_of_ble_eq_true rfl) (fun q => rfl) (fun E q sz g cn => ?_)
  show Xg E _ 0 [(0, .ref q), (1, .ref tp)] [] _ _
  refine x_aload_n (pc := 0) (i := 0) (a := 0) g dX9_init_0 rfl rfl ?_
  refine y_obj (pc := 1) g dX9_init_1 w_1_57 objW ⟨by decide, Nat.le_of_ble_eq_true rfl⟩ ?_
  refine x_aload_n (pc := 4) (i := 0) (a := 0) g dX9_init_4 rfl rfl ?_
  refine x_bipush (pc := 5) g dX9_init_5 bi_32 ?_
  refine y_newa (pc := 7) (ty := .long) (t := 1) (N' := 32) (b := .inr (.inl (fun _ => 0))) g cn dX9_init_7 w_1_155 rfl rfl (fun _ => rfl) (by decide) (Nat.le_of_ble_eq_true rfl) ⟨Nat.le_of_ble_eq_true rfl, Nat.le_of_ble_eq_true rfl⟩ (fun E g cn q1 => ?_)
  refine y_cons ?_
  refine y_putRE (pc := 9) (fs' := [.null, .ref q1, .int 0, .int 0, .int 0, .int 0, .int 0, .int 0, .int 0, .long 0, .int 0, .int 0]) g cn dX9_init_9 fr_9_9 (Nat.le_of_ble_eq_true rfl) rfl ?_
  refine x_aload_n (pc := 12) (i := 0) (a := 0) g dX9_init_12 rfl rfl ?_
  refine x_iconst (pc := 13) g dX9_init_13 ic_0 ?_
  refine y_putE (pc := 14) (fs' := [.null, .ref q1, .int 0, .int 0, .int 0, .int 0, .int 0, .int 0, .int 0, .long 0, .int 0, .int 0]) g dX9_init_14 fl_9_15 ft_9_2 ⟨rfl, rfl⟩ (Nat.le_of_ble_eq_true rfl) rfl ?_
  refine x_aload_n (pc := 17) (i := 0) (a := 0) g dX9_init_17 rfl rfl ?_
  refine x_iconst (pc := 18) g dX9_init_18 ic_0 ?_
  refine y_putE (pc := 19) (fs' := [.null, .ref q1, .int 0, .int 0, .int 0, .int 0, .int 0, .int 0, .int 0, .long 0, .int 0, .int 0]) g dX9_init_19 fl_9_19 ft_9_3 ⟨rfl, rfl⟩ (Nat.le_of_ble_eq_true rfl) rfl ?_
  refine x_aload_n (pc := 22) (i := 0) (a := 0) g dX9_init_22 rfl rfl ?_
  refine x_iconst (pc := 23) g dX9_init_23 ic_0 ?_
  refine y_putE (pc := 24) (fs' := [.null, .ref q1, .int 0, .int 0, .int 0, .int 0, .int 0, .int 0, .int 0, .long 0, .int 0, .int 0]) g dX9_init_24 fl_9_22 ft_9_4 ⟨rfl, rfl⟩ (Nat.le_of_ble_eq_true rfl) rfl ?_
  refine x_aload_n (pc := 27) (i := 0) (a := 0) g dX9_init_27 rfl rfl ?_
  refine x_iconst (pc := 28) g dX9_init_28 ic_0 ?_
  refine y_putE (pc := 29) (fs' := [.null, .ref q1, .int 0, .int 0, .int 0, .int 0, .int 0, .int 0, .int 0, .long 0, .int 0, .int 0]) g dX9_init_29 fl_9_25 ft_9_5 ⟨rfl, rfl⟩ (Nat.le_of_ble_eq_true rfl) rfl ?_
  refine x_aload_n (pc := 32) (i := 0) (a := 0) g dX9_init_32 rfl rfl ?_
  refine x_iconst (pc := 33) g dX9_init_33 ic_0 ?_
  refine y_putE (pc := 34) (fs' := [.null, .ref q1, .int 0, .int 0, .int 0, .int 0, .int 0, .int 0, .int 0, .long 0, .int 0, .int 0]) g dX9_init_34 fl_9_28 ft_9_6 ⟨rfl, rfl⟩ (Nat.le_of_ble_eq_true rfl) rfl ?_
  refine x_aload_n (pc := 37) (i := 0) (a := 0) g dX9_init_37 rfl rfl ?_
  refine x_iconst (pc := 38) g dX9_init_38 ic_0 ?_
  refine y_putE (pc := 39) (fs' := [.null, .ref q1, .int 0, .int 0, .int 0, .int 0, .int 0, .int 0, .int 0, .long 0, .int 0, .int 0]) g dX9_init_39 fl_9_31 ft_9_7 ⟨rfl, rfl⟩ (Nat.le_of_ble_eq_true rfl) rfl ?_
  refine x_aload_n (pc := 42) (i := 0) (a := 0) g dX9_init_42 rfl rfl ?_
  refine x_iconst (pc := 43) g dX9_init_43 ic_m1 ?_
  refine y_putE (pc := 44) (fs' := [.null, .ref q1, .int 0, .int 0, .int 0, .int 0, .int 0, .int 0, .int ((-1)), .long 0, .int 0, .int 0]) g dX9_init_44 fl_9_34 ft_9_8 ⟨rfl, rfl⟩ (Nat.le_of_ble_eq_true rfl) rfl ?_
  refine x_aload_n (pc := 47) (i := 0) (a := 0) g dX9_init_47 rfl rfl ?_
  refine x_lconst (pc := 48) g dX9_init_48 lc_0 ?_
  refine y_putE (pc := 49) (fs' := [.null, .ref q1, .int 0, .int 0, .int 0, .int 0, .int 0, .int 0, .int ((-1)), .long 0, .int 0, .int 0]) g dX9_init_49 fl_9_37 ft_9_9 ⟨rfl, rfl⟩ (Nat.le_of_ble_eq_true rfl) rfl ?_
  refine x_aload_n (pc := 52) (i := 0) (a := 0) g dX9_init_52 rfl rfl ?_
  refine x_iconst (pc := 53) g dX9_init_53 ic_0 ?_
  refine y_putE (pc := 54) (fs' := [.null, .ref q1, .int 0, .int 0, .int 0, .int 0, .int 0, .int 0, .int ((-1)), .long 0, .int 0, .int 0]) g dX9_init_54 fl_9_41 ft_9_10 ⟨rfl, rfl⟩ (Nat.le_of_ble_eq_true rfl) rfl ?_
  refine x_aload_n (pc := 57) (i := 0) (a := 0) g dX9_init_57 rfl rfl ?_
  refine x_iconst (pc := 58) g dX9_init_58 ic_0 ?_
  refine y_putE (pc := 59) (fs' := [.null, .ref q1, .int 0, .int 0, .int 0, .int 0, .int 0, .int 0, .int ((-1)), .long 0, .int 0, .int 0]) g dX9_init_59 fl_9_44 ft_9_11 ⟨rfl, rfl⟩ (Nat.le_of_ble_eq_true rfl) rfl ?_
  refine x_aload_n (pc := 62) (i := 0) (a := 0) g dX9_init_62 rfl rfl ?_
  refine x_aload_n (pc := 63) (i := 1) (a := 1) g dX9_init_63 rfl rfl ?_
  refine y_putRE (pc := 64) (fs' := [.ref tp, .ref q1, .int 0, .int 0, .int 0, .int 0, .int 0, .int 0, .int ((-1)), .long 0, .int 0, .int 0]) g cn dX9_init_64 fr_9_47 (Nat.le_of_ble_eq_true rfl) rfl ?_
  refine x_sub [0] ?_ rfl
  have e : ((q, .inr (8, [.ref tp, .ref q1, .int 0, .int 0, .int 0, .int 0, .int 0, .int 0, .int ((-1)), .long 0, .int 0, .int 0])) : Nat × va_E) :: (([] : va_W) ++ ([(q1, .inl (S.2.1 1, 32, Sum.inr (.inl (fun _ => 0))))] : va_W)) = xwd (S, shR_Tokens, 2, (adR_Tokens q q1 tp)) mR_Tokens0 := by rfl
  refine y_wd e ?_
  exact y_mem cn (G := (S, shR_Tokens, 2, (adR_Tokens q q1 tp))) (some_get is_Tokens) (fun t hW hD => ⟨(adR_Tokens q q1 tp), rfl, rfl, hW.1, hD⟩) (T_Tokens_init (G := (S, shR_Tokens, 2, (adR_Tokens q q1 tp))) ⟨rfl, shR_Tokens_out2⟩ g mR_Tokens0)
def shR_Image : Nat → xSh := fun k => ([.inl (3, [0, 3, 30, 35]), .inl (2, [0, 0, 0, 0, 0, 0, 0, 0, 0, 4, 5, 6, 7, 14, 21]), .inr (1, 6, []), .inr (1, 6, []), .inr (1, 8, []), .inr (4, 6, [6, 7, 8, 9, 10, 11]), .inr (0, 3, []), .inr (0, 3, []), .inr (0, 3, []), .inr (0, 3, []), .inr (0, 3, []), .inr (0, 3, []), .inr (4, 6, [13, 14, 15, 16, 17, 18]), .inr (0, 4, []), .inr (0, 4, []), .inr (0, 4, []), .inr (0, 4, []), .inr (0, 4, []), .inr (0, 4, []), .inr (4, 8, [20, 21, 22, 23, 24, 25, 26, 27]), .inr (0, 6, []), .inr (0, 6, []), .inr (0, 6, []), .inr (0, 6, []), .inr (0, 6, []), .inr (0, 6, []), .inr (0, 6, []), .inr (0, 6, []), .inl (6, [0, 0, 0, 31, 32, 33, 34]), .inr (0, 4, []), .inr (0, 6, []), .inr (0, 6, []), .inr (0, 6, []), .inl (4, [0, 0, 0, 36, 37, 38, 39]), .inr (0, 40, []), .inr (0, 40, []), .inr (0, 40, []), .inr (3, 20, [])] : List xSh).getD k (.inr (9, 0, []))
def mR_Image : xMem := (fun k => if k < 1 then (fun j => ([0, 0, 0, 0] : List Int32).getD j 0) else if k < 28 then mR_House.1 (k - 1) else if k < 33 then mR_State.1 (k - 28) else if k < 38 then mR_Sentence.1 (k - 33) else fun _ => 0, fun k => if k < 1 then (fun _ => 0) else if k < 28 then mR_House.2 (k - 1) else if k < 33 then mR_State.2 (k - 28) else if k < 38 then mR_Sentence.2 (k - 33) else fun _ => 0)
def adR_Image (q : Nat) (ad2 : Nat → Nat) (ad4 : Nat → Nat) (ad6 : Nat → Nat) : Nat → Nat := fun k => if k < 1 then q else if k < 28 then ad2 (k - 1) else if k < 33 then ad4 (k - 28) else if k < 38 then ad6 (k - 33) else 0
abbrev rm_y_Image : Room := { frames := 2, cells := 37, slots := 321, locals := 60 }
set_option maxRecDepth 20000 in
theorem seg_Image (F : Nat → Nat × va_E) : F 0 :: (((([] : va_W) ++ xseg F 1 27) ++ xseg F 28 5) ++ xseg F 33 5) = xseg F 0 38 := rfl
theorem y_Image (l : Launch) (S : xS) : yCt l S yX4_init cX4_init 1 rm_y_Image 3 blX4 [] 37 321 shR_Image 38 mR_Image (fun _ => True) := by
  refine yCt_of (own := RX4) (lv := fun q => [(0, .ref q)]) (by decide) rfl rfl (fun q => Nat.le_of_ble_eq_true rfl) (fun q => rfl) (fun E q sz g cn => ?_)
  show Xg E _ 0 [(0, .ref q)] [] _ _
  refine x_aload_n (pc := 0) (i := 0) (a := 0) g dX4_init_0 rfl rfl ?_
  refine y_obj (pc := 1) g dX4_init_1 w_1_162 objW ⟨by decide, Nat.le_of_ble_eq_true rfl⟩ ?_
  refine x_aload_n (pc := 4) (i := 0) (a := 0) g dX4_init_4 rfl rfl ?_
  refine x_iconst (pc := 5) g dX4_init_5 ic_0 ?_
  refine y_putE (pc := 6) (fs' := [.int 0, .null, .null, .null]) g dX4_init_6 fl_4_7 ft_4_0 ⟨rfl, rfl⟩ (Nat.le_of_ble_eq_true rfl) rfl ?_
  refine x_aload_n (pc := 9) (i := 0) (a := 0) g dX4_init_9 rfl rfl ?_
  refine y_new (pc := 10) (cj := 2) (gs := blX2) g cn dX4_init_10 (C := RX2) rfl uw_2 tyX2_ok ⟨w_1_163, w_1_164, w_1_10⟩ dfX2 ⟨Nat.le_of_ble_eq_true rfl, Nat.le_of_ble_eq_true rfl⟩ (fun E g cn q1 => ?_)
  refine y_cons ?_
  refine x_dup (pc := 13) g dX4_init_13 rfl ?_
  refine y_snoc ?_
  refine y_ctor (pc := 14) g cn [.ref q1, .ref q] (y_House l S) dX4_init_14 mi_4_15 rfl rfl (Nat.le_of_ble_eq_true rfl) ⟨rfl, rfl, Nat.le_of_ble_eq_true rfl, Nat.le_of_ble_eq_true rfl, Nat.le_of_ble_eq_true rfl, Nat.le_of_ble_eq_true rfl⟩ (fun E g cn ad2 h0ad2 hxad2 => ?_)
  refine y_cons ?_
  refine y_putRE (pc := 17) (fs' := [.int 0, .ref q1, .null, .null]) g cn dX4_init_17 fr_4_16 (Nat.le_of_ble_eq_true rfl) rfl ?_
  refine x_aload_n (pc := 20) (i := 0) (a := 0) g dX4_init_20 rfl rfl ?_
  refine y_new (pc := 21) (cj := 6) (gs := blX7) g cn dX4_init_21 (C := RX7) rfl uw_7 tyX7_ok ⟨w_2_25, w_2_26, w_1_11⟩ dfX7 ⟨Nat.le_of_ble_eq_true rfl, Nat.le_of_ble_eq_true rfl⟩ (fun E g cn q3 => ?_)
  refine y_cons ?_
  refine x_dup (pc := 24) g dX4_init_24 rfl ?_
  refine y_snoc ?_
  refine y_ctor (pc := 25) g cn [.ref q3, .ref q] (y_State l S) dX4_init_25 mi_4_22 rfl rfl (Nat.le_of_ble_eq_true rfl) ⟨rfl, rfl, Nat.le_of_ble_eq_true rfl, Nat.le_of_ble_eq_true rfl, Nat.le_of_ble_eq_true rfl, Nat.le_of_ble_eq_true rfl⟩ (fun E g cn ad4 h0ad4 hxad4 => ?_)
  refine y_cons ?_
  refine y_putRE (pc := 28) (fs' := [.int 0, .ref q1, .ref q3, .null]) g cn dX4_init_28 fr_4_23 (Nat.le_of_ble_eq_true rfl) rfl ?_
  refine x_aload_n (pc := 31) (i := 0) (a := 0) g dX4_init_31 rfl rfl ?_
  refine y_new (pc := 32) (cj := 4) (gs := blX5) g cn dX4_init_32 (C := RX5) rfl uw_5 tyX5_ok ⟨w_2_64, w_2_65, w_1_12⟩ dfX5 ⟨Nat.le_of_ble_eq_true rfl, Nat.le_of_ble_eq_true rfl⟩ (fun E g cn q5 => ?_)
  refine y_cons ?_
  refine x_dup (pc := 35) g dX4_init_35 rfl ?_
  refine y_snoc ?_
  refine y_ctor (pc := 36) g cn [.ref q5, .ref q] (y_Sentence l S) dX4_init_36 mi_4_29 rfl rfl (Nat.le_of_ble_eq_true rfl) ⟨rfl, rfl, Nat.le_of_ble_eq_true rfl, Nat.le_of_ble_eq_true rfl, Nat.le_of_ble_eq_true rfl, Nat.le_of_ble_eq_true rfl⟩ (fun E g cn ad6 h0ad6 hxad6 => ?_)
  refine y_cons ?_
  refine y_putRE (pc := 39) (fs' := [.int 0, .ref q1, .ref q3, .ref q5]) g cn dX4_init_39 fr_4_30 (Nat.le_of_ble_eq_true rfl) rfl ?_
  refine y_vret (pc := 42) g cn dX4_init_42 rfl (fun t hP hD => ?_)
  subst h0ad2
  subst h0ad4
  subst h0ad6
  have e : ((q, .inr (3, [.int 0, .ref (ad2 0), .ref (ad4 0), .ref (ad6 0)])) : Nat × va_E) :: (((([] : va_W) ++ xwd (S, shR_House, 27, ad2) mR_House) ++ xwd (S, shR_State, 5, ad4) mR_State) ++ xwd (S, shR_Sentence, 5, ad6) mR_Sentence) = xwd (S, shR_Image, 38, (adR_Image q ad2 ad4 ad6)) mR_Image := by
    have a1 : ∀ x, x < 27 → (adR_Image q ad2 ad4 ad6) (1 + x) = ad2 x := by intro x hx; unfold adR_Image; rw [if_neg (by omega), if_pos (by omega)]; congr 1; omega
    have b1 : ∀ x, x < 27 → mR_Image.1 (1 + x) = mR_House.1 x ∧ mR_Image.2 (1 + x) = mR_House.2 x := by intro x hx; unfold mR_Image; dsimp only; rw [if_neg (by omega), if_pos (by omega), if_neg (by omega), if_pos (by omega), show 1 + x - 1 = x by omega]; exact ⟨rfl, rfl⟩
    rw [xseg_ren (S := S) (sh := shR_House) (sh' := shR_Image) (n := 27) (n' := 0) (N := 27) (o := 1) (σ := fun x => 1 + x) (ad := ad2) (ad' := (adR_Image q ad2 ad4 ad6)) (m := mR_House) (m' := mR_Image) (by decide +kernel) a1 a1 b1]
    have a28 : ∀ x, x < 5 → (adR_Image q ad2 ad4 ad6) (28 + x) = ad4 x := by intro x hx; unfold adR_Image; rw [if_neg (by omega), if_neg (by omega), if_pos (by omega)]; congr 1; omega
    have b28 : ∀ x, x < 5 → mR_Image.1 (28 + x) = mR_State.1 x ∧ mR_Image.2 (28 + x) = mR_State.2 x := by intro x hx; unfold mR_Image; dsimp only; rw [if_neg (by omega), if_neg (by omega), if_pos (by omega), if_neg (by omega), if_neg (by omega), if_pos (by omega), show 28 + x - 28 = x by omega]; exact ⟨rfl, rfl⟩
    rw [xseg_ren (S := S) (sh := shR_State) (sh' := shR_Image) (n := 5) (n' := 0) (N := 5) (o := 28) (σ := fun x => 28 + x) (ad := ad4) (ad' := (adR_Image q ad2 ad4 ad6)) (m := mR_State) (m' := mR_Image) (by decide +kernel) a28 a28 b28]
    have a33 : ∀ x, x < 5 → (adR_Image q ad2 ad4 ad6) (33 + x) = ad6 x := by intro x hx; unfold adR_Image; rw [if_neg (by omega), if_neg (by omega), if_neg (by omega), if_pos (by omega)]; congr 1; omega
    have b33 : ∀ x, x < 5 → mR_Image.1 (33 + x) = mR_Sentence.1 x ∧ mR_Image.2 (33 + x) = mR_Sentence.2 x := by intro x hx; unfold mR_Image; dsimp only; rw [if_neg (by omega), if_neg (by omega), if_neg (by omega), if_pos (by omega), if_neg (by omega), if_neg (by omega), if_neg (by omega), if_pos (by omega), show 33 + x - 33 = x by omega]; exact ⟨rfl, rfl⟩
    rw [xseg_ren (S := S) (sh := shR_Sentence) (sh' := shR_Image) (n := 5) (n' := 0) (N := 5) (o := 33) (σ := fun x => 33 + x) (ad := ad6) (ad' := (adR_Image q ad2 ad4 ad6)) (m := mR_Sentence) (m' := mR_Image) (by decide +kernel) a33 a33 b33]
    exact seg_Image (fun k => ((adR_Image q ad2 ad4 ad6) k, xcel (adR_Image q ad2 ad4 ad6) S.2.1 mR_Image k (shR_Image k)))
  rw [e] at hP hD
  exact ⟨(adR_Image q ad2 ad4 ad6), rfl, trivial, hP, hD⟩
def shR_Undo : Nat → xSh := fun k => ([.inl (9, [3, 0, 0]), .inr (6, 8, [2, 7, 12, 17, 22, 27, 32, 37]), .inl (6, [0, 0, 0, 5, 6, 7, 8]), .inr (0, 4, []), .inr (0, 6, []), .inr (0, 6, []), .inr (0, 6, []), .inl (6, [0, 0, 0, 10, 11, 12, 13]), .inr (0, 4, []), .inr (0, 6, []), .inr (0, 6, []), .inr (0, 6, []), .inl (6, [0, 0, 0, 15, 16, 17, 18]), .inr (0, 4, []), .inr (0, 6, []), .inr (0, 6, []), .inr (0, 6, []), .inl (6, [0, 0, 0, 20, 21, 22, 23]), .inr (0, 4, []), .inr (0, 6, []), .inr (0, 6, []), .inr (0, 6, []), .inl (6, [0, 0, 0, 25, 26, 27, 28]), .inr (0, 4, []), .inr (0, 6, []), .inr (0, 6, []), .inr (0, 6, []), .inl (6, [0, 0, 0, 30, 31, 32, 33]), .inr (0, 4, []), .inr (0, 6, []), .inr (0, 6, []), .inr (0, 6, []), .inl (6, [0, 0, 0, 35, 36, 37, 38]), .inr (0, 4, []), .inr (0, 6, []), .inr (0, 6, []), .inr (0, 6, []), .inl (6, [0, 0, 0, 40, 41, 42, 43]), .inr (0, 4, []), .inr (0, 6, []), .inr (0, 6, []), .inr (0, 6, [])] : List xSh).getD k (.inr (9, 0, []))
def mR_Undo : xMem := (fun k => if k < 1 then (fun j => ([0, 0, 0] : List Int32).getD j 0) else if k < 2 then (fun _ => 0) else if k < 7 then mR_State.1 (k - 2) else if k < 12 then mR_State.1 (k - 7) else if k < 17 then mR_State.1 (k - 12) else if k < 22 then mR_State.1 (k - 17) else if k < 27 then mR_State.1 (k - 22) else if k < 32 then mR_State.1 (k - 27) else if k < 37 then mR_State.1 (k - 32) else if k < 42 then mR_State.1 (k - 37) else fun _ => 0, fun k => if k < 1 then (fun _ => 0) else if k < 2 then (fun _ => 0) else if k < 7 then mR_State.2 (k - 2) else if k < 12 then mR_State.2 (k - 7) else if k < 17 then mR_State.2 (k - 12) else if k < 22 then mR_State.2 (k - 17) else if k < 27 then mR_State.2 (k - 22) else if k < 32 then mR_State.2 (k - 27) else if k < 37 then mR_State.2 (k - 32) else if k < 42 then mR_State.2 (k - 37) else fun _ => 0)
def adR_Undo (q : Nat) (q1 : Nat) (ad3 : Nat → Nat) (ad5 : Nat → Nat) (ad7 : Nat → Nat) (ad9 : Nat → Nat) (ad11 : Nat → Nat) (ad13 : Nat → Nat) (ad15 : Nat → Nat) (ad17 : Nat → Nat) : Nat → Nat := fun k => if k < 1 then q else if k < 2 then q1 else if k < 7 then ad3 (k - 2) else if k < 12 then ad5 (k - 7) else if k < 17 then ad7 (k - 12) else if k < 22 then ad9 (k - 17) else if k < 27 then ad11 (k - 22) else if k < 32 then ad13 (k - 27) else if k < 37 then ad15 (k - 32) else if k < 42 then ad17 (k - 37) else 0
abbrev rm_y_Undo : Room := { frames := 2, cells := 41, slots := 240, locals := 60 }
set_option maxRecDepth 20000 in
theorem seg_Undo (F : Nat → Nat × va_E) : F 0 :: (((((((((([] : va_W) ++ [F 1]) ++ xseg F 2 5) ++ xseg F 7 5) ++ xseg F 12 5) ++ xseg F 17 5) ++ xseg F 22 5) ++ xseg F 27 5) ++ xseg F 32 5) ++ xseg F 37 5) = xseg F 0 42 := rfl
theorem y_Undo (l : Launch) (S : xS) : yCt l S yX10_init cX10_init 2 rm_y_Undo 9 blX10 [] 41 240 shR_Undo 42 mR_Undo (fun _ => True) := by
  refine yCt_of (own := RX10) (lv := fun q => [(0, .ref q)]) (by decide) rfl rfl (fun q => Nat.le_of_ble_eq_true rfl) (fun q => rfl) (fun E q sz g cn => ?_)
  show Xg E _ 0 [(0, .ref q)] [] _ _
  refine x_aload_n (pc := 0) (i := 0) (a := 0) g dX10_init_0 rfl rfl ?_
  refine y_obj (pc := 1) g dX10_init_1 w_2_159 objW ⟨by decide, Nat.le_of_ble_eq_true rfl⟩ ?_
  refine x_aload_n (pc := 4) (i := 0) (a := 0) g dX10_init_4 rfl rfl ?_
  refine x_bipush (pc := 5) g dX10_init_5 bi_8 ?_
  refine y_anewa (pc := 7) (C := RX7) (t := 6) (N' := 8) g cn dX10_init_7 w_2_160 (fun _ h => h.2.1) rfl (by decide) (Nat.le_of_ble_eq_true rfl) ⟨Nat.le_of_ble_eq_true rfl, Nat.le_of_ble_eq_true rfl⟩ (fun E g cn q1 => ?_)
  refine y_cons ?_
  refine y_putRE (pc := 10) (fs' := [.ref q1, .int 0, .int 0]) g cn dX10_init_10 fr_10_13 (Nat.le_of_ble_eq_true rfl) rfl ?_
  refine x_aload_n (pc := 13) (i := 0) (a := 0) g dX10_init_13 rfl rfl ?_
  refine x_iconst (pc := 14) g dX10_init_14 ic_0 ?_
  refine y_putE (pc := 15) (fs' := [.ref q1, .int 0, .int 0]) g dX10_init_15 fl_10_17 ft_10_1 ⟨rfl, rfl⟩ (Nat.le_of_ble_eq_true rfl) rfl ?_
  refine x_aload_n (pc := 18) (i := 0) (a := 0) g dX10_init_18 rfl rfl ?_
  refine x_iconst (pc := 19) g dX10_init_19 ic_0 ?_
  refine y_putE (pc := 20) (fs' := [.ref q1, .int 0, .int 0]) g dX10_init_20 fl_10_21 ft_10_2 ⟨rfl, rfl⟩ (Nat.le_of_ble_eq_true rfl) rfl ?_
  refine x_iconst (pc := 23) g dX10_init_23 ic_0 ?_
  refine x_istore_n (pc := 24) (i := 1) (lv' := [(1, .int 0), (0, .ref q)]) g dX10_init_24 rfl (by decide) rfl ?_
  refine x_iload_n (pc := 25) (i := 1) (a := 0) g dX10_init_25 rfl rfl ?_
  refine x_bipush (pc := 26) g dX10_init_26 bi_8 ?_
  refine y_geNo (pc := 28) (t := 50) g dX10_init_28 (by decide) (by decide) ?_
  refine x_aload_n (pc := 31) (i := 0) (a := 1) g dX10_init_31 rfl rfl ?_
  refine y_getR (pc := 32) (x := q1) g dX10_init_32 fl_10_13 rfl ?_
  refine x_iload_n (pc := 35) (i := 1) (a := 0) g dX10_init_35 rfl rfl ?_
  refine y_new (pc := 36) (cj := 6) (gs := blX7) g cn dX10_init_36 (C := RX7) rfl uw_7 tyX7_ok ⟨w_2_160, w_2_26, w_1_11⟩ dfX7 ⟨Nat.le_of_ble_eq_true rfl, Nat.le_of_ble_eq_true rfl⟩ (fun E g cn q2 => ?_)
  refine y_cons ?_
  refine x_dup (pc := 39) g dX10_init_39 rfl ?_
  refine y_snoc ?_
  refine y_ctor (pc := 40) g cn [.ref q2, .int 0, .ref q1] (y_State l S) dX10_init_40 mi_10_24 rfl rfl (Nat.le_of_ble_eq_true rfl) ⟨rfl, rfl, Nat.le_of_ble_eq_true rfl, Nat.le_of_ble_eq_true rfl, Nat.le_of_ble_eq_true rfl, Nat.le_of_ble_eq_true rfl⟩ (fun E g cn ad3 h0ad3 hxad3 => ?_)
  refine y_cons ?_
  refine y_wd (wd' := (((q, .inr (9, [.ref q1, .int 0, .int 0])) : Nat × va_E) :: ([] : va_W)) ++ (q1, .inl (S.2.1 6, 8, .inr (.inr (.inr (.inr (fun _ => none)))))) :: (([] : va_W) ++ xwd (S, shR_State, 5, ad3) mR_State)) (by simp only [List.append_assoc, List.cons_append, List.nil_append, List.singleton_append]) ?_
  refine y_astM (pc := 43) (j := 0) (l1 := (((q, .inr (9, [.ref q1, .int 0, .int 0])) : Nat × va_E) :: ([] : va_W))) (l2 := (([] : va_W) ++ xwd (S, shR_State, 5, ad3) mR_State)) (r := (RX7, TX7, 7)) (cj := 6) g dX10_init_43 rfl (List.mem_append_right _ (List.mem_cons_of_mem _ (List.mem_append_right _ (by rw [← h0ad3]; exact List.mem_of_getElem? (xwd_at (G := (S, shR_State, 5, ad3)) (m := mR_State) (k := 0) (Nat.le_of_ble_eq_true rfl)))))) rfl (by decide) ?_
  refine y_wd (wd' := ((q, .inr (9, [.ref q1, .int 0, .int 0])) : Nat × va_E) :: ((([] : va_W) ++ ([(q1, .inl (S.2.1 6, 8, .inr (.inr (.inr (.inr (va_up (fun _ => none) 0 (some q2)))))))] : va_W)) ++ xwd (S, shR_State, 5, ad3) mR_State)) (by simp only [List.append_assoc, List.cons_append, List.nil_append, List.singleton_append]) ?_
  refine x_iinc (pc := 44) (a := 0) (lv' := [(1, .int (0 + 1)), (0, .ref q)]) g dX10_init_44 ic_1 rfl (by decide) rfl ?_
  refine x_goto (pc := 47) (t := 25) g dX10_init_47 (by decide) ?_
  refine x_iload_n (pc := 25) (i := 1) (a := 0) g dX10_init_25 rfl rfl ?_
  refine x_bipush (pc := 26) g dX10_init_26 bi_8 ?_
  refine y_geNo (pc := 28) (t := 50) g dX10_init_28 (by decide) (by decide) ?_
  refine x_aload_n (pc := 31) (i := 0) (a := 1) g dX10_init_31 rfl rfl ?_
  refine y_getR (pc := 32) (x := q1) g dX10_init_32 fl_10_13 rfl ?_
  refine x_iload_n (pc := 35) (i := 1) (a := 0) g dX10_init_35 rfl rfl ?_
  refine y_new (pc := 36) (cj := 6) (gs := blX7) g cn dX10_init_36 (C := RX7) rfl uw_7 tyX7_ok ⟨w_2_160, w_2_26, w_1_11⟩ dfX7 ⟨Nat.le_of_ble_eq_true rfl, Nat.le_of_ble_eq_true rfl⟩ (fun E g cn q4 => ?_)
  refine y_cons ?_
  refine x_dup (pc := 39) g dX10_init_39 rfl ?_
  refine y_snoc ?_
  refine y_ctor (pc := 40) g cn [.ref q4, .int (0 + 1), .ref q1] (y_State l S) dX10_init_40 mi_10_24 rfl rfl (Nat.le_of_ble_eq_true rfl) ⟨rfl, rfl, Nat.le_of_ble_eq_true rfl, Nat.le_of_ble_eq_true rfl, Nat.le_of_ble_eq_true rfl, Nat.le_of_ble_eq_true rfl⟩ (fun E g cn ad5 h0ad5 hxad5 => ?_)
  refine y_cons ?_
  refine y_wd (wd' := (((q, .inr (9, [.ref q1, .int 0, .int 0])) : Nat × va_E) :: ([] : va_W)) ++ (q1, .inl (S.2.1 6, 8, .inr (.inr (.inr (.inr (va_up (fun _ => none) 0 (some q2))))))) :: ((([] : va_W) ++ xwd (S, shR_State, 5, ad3) mR_State) ++ xwd (S, shR_State, 5, ad5) mR_State)) (by simp only [List.append_assoc, List.cons_append, List.nil_append, List.singleton_append]) ?_
  refine y_astM (pc := 43) (j := 1) (l1 := (((q, .inr (9, [.ref q1, .int 0, .int 0])) : Nat × va_E) :: ([] : va_W))) (l2 := ((([] : va_W) ++ xwd (S, shR_State, 5, ad3) mR_State) ++ xwd (S, shR_State, 5, ad5) mR_State)) (r := (RX7, TX7, 7)) (cj := 6) g dX10_init_43 rfl (List.mem_append_right _ (List.mem_cons_of_mem _ (List.mem_append_right _ (by rw [← h0ad5]; exact List.mem_of_getElem? (xwd_at (G := (S, shR_State, 5, ad5)) (m := mR_State) (k := 0) (Nat.le_of_ble_eq_true rfl)))))) rfl (by decide) ?_
  refine y_wd (wd' := ((q, .inr (9, [.ref q1, .int 0, .int 0])) : Nat × va_E) :: (((([] : va_W) ++ ([(q1, .inl (S.2.1 6, 8, .inr (.inr (.inr (.inr (va_up (va_up (fun _ => none) 0 (some q2)) 1 (some q4)))))))] : va_W)) ++ xwd (S, shR_State, 5, ad3) mR_State) ++ xwd (S, shR_State, 5, ad5) mR_State)) (by simp only [List.append_assoc, List.cons_append, List.nil_append, List.singleton_append]) ?_
  refine x_iinc (pc := 44) (a := 0) (lv' := [(1, .int (0 + 1 + 1)), (0, .ref q)]) g dX10_init_44 ic_1 rfl (by decide) rfl ?_
  refine x_goto (pc := 47) (t := 25) g dX10_init_47 (by decide) ?_
  refine x_iload_n (pc := 25) (i := 1) (a := 0) g dX10_init_25 rfl rfl ?_
  refine x_bipush (pc := 26) g dX10_init_26 bi_8 ?_
  refine y_geNo (pc := 28) (t := 50) g dX10_init_28 (by decide) (by decide) ?_
  refine x_aload_n (pc := 31) (i := 0) (a := 1) g dX10_init_31 rfl rfl ?_
  refine y_getR (pc := 32) (x := q1) g dX10_init_32 fl_10_13 rfl ?_
  refine x_iload_n (pc := 35) (i := 1) (a := 0) g dX10_init_35 rfl rfl ?_
  refine y_new (pc := 36) (cj := 6) (gs := blX7) g cn dX10_init_36 (C := RX7) rfl uw_7 tyX7_ok ⟨w_2_160, w_2_26, w_1_11⟩ dfX7 ⟨Nat.le_of_ble_eq_true rfl, Nat.le_of_ble_eq_true rfl⟩ (fun E g cn q6 => ?_)
  refine y_cons ?_
  refine x_dup (pc := 39) g dX10_init_39 rfl ?_
  refine y_snoc ?_
  refine y_ctor (pc := 40) g cn [.ref q6, .int (0 + 1 + 1), .ref q1] (y_State l S) dX10_init_40 mi_10_24 rfl rfl (Nat.le_of_ble_eq_true rfl) ⟨rfl, rfl, Nat.le_of_ble_eq_true rfl, Nat.le_of_ble_eq_true rfl, Nat.le_of_ble_eq_true rfl, Nat.le_of_ble_eq_true rfl⟩ (fun E g cn ad7 h0ad7 hxad7 => ?_)
  refine y_cons ?_
  refine y_wd (wd' := (((q, .inr (9, [.ref q1, .int 0, .int 0])) : Nat × va_E) :: ([] : va_W)) ++ (q1, .inl (S.2.1 6, 8, .inr (.inr (.inr (.inr (va_up (va_up (fun _ => none) 0 (some q2)) 1 (some q4))))))) :: (((([] : va_W) ++ xwd (S, shR_State, 5, ad3) mR_State) ++ xwd (S, shR_State, 5, ad5) mR_State) ++ xwd (S, shR_State, 5, ad7) mR_State)) (by simp only [List.append_assoc, List.cons_append, List.nil_append, List.singleton_append]) ?_
  refine y_astM (pc := 43) (j := 2) (l1 := (((q, .inr (9, [.ref q1, .int 0, .int 0])) : Nat × va_E) :: ([] : va_W))) (l2 := (((([] : va_W) ++ xwd (S, shR_State, 5, ad3) mR_State) ++ xwd (S, shR_State, 5, ad5) mR_State) ++ xwd (S, shR_State, 5, ad7) mR_State)) (r := (RX7, TX7, 7)) (cj := 6) g dX10_init_43 rfl (List.mem_append_right _ (List.mem_cons_of_mem _ (List.mem_append_right _ (by rw [← h0ad7]; exact List.mem_of_getElem? (xwd_at (G := (S, shR_State, 5, ad7)) (m := mR_State) (k := 0) (Nat.le_of_ble_eq_true rfl)))))) rfl (by decide) ?_
  refine y_wd (wd' := ((q, .inr (9, [.ref q1, .int 0, .int 0])) : Nat × va_E) :: ((((([] : va_W) ++ ([(q1, .inl (S.2.1 6, 8, .inr (.inr (.inr (.inr (va_up (va_up (va_up (fun _ => none) 0 (some q2)) 1 (some q4)) 2 (some q6)))))))] : va_W)) ++ xwd (S, shR_State, 5, ad3) mR_State) ++ xwd (S, shR_State, 5, ad5) mR_State) ++ xwd (S, shR_State, 5, ad7) mR_State)) (by simp only [List.append_assoc, List.cons_append, List.nil_append, List.singleton_append]) ?_
  refine x_iinc (pc := 44) (a := 0) (lv' := [(1, .int (0 + 1 + 1 + 1)), (0, .ref q)]) g dX10_init_44 ic_1 rfl (by decide) rfl ?_
  refine x_goto (pc := 47) (t := 25) g dX10_init_47 (by decide) ?_
  refine x_iload_n (pc := 25) (i := 1) (a := 0) g dX10_init_25 rfl rfl ?_
  refine x_bipush (pc := 26) g dX10_init_26 bi_8 ?_
  refine y_geNo (pc := 28) (t := 50) g dX10_init_28 (by decide) (by decide) ?_
  refine x_aload_n (pc := 31) (i := 0) (a := 1) g dX10_init_31 rfl rfl ?_
  refine y_getR (pc := 32) (x := q1) g dX10_init_32 fl_10_13 rfl ?_
  refine x_iload_n (pc := 35) (i := 1) (a := 0) g dX10_init_35 rfl rfl ?_
  refine y_new (pc := 36) (cj := 6) (gs := blX7) g cn dX10_init_36 (C := RX7) rfl uw_7 tyX7_ok ⟨w_2_160, w_2_26, w_1_11⟩ dfX7 ⟨Nat.le_of_ble_eq_true rfl, Nat.le_of_ble_eq_true rfl⟩ (fun E g cn q8 => ?_)
  refine y_cons ?_
  refine x_dup (pc := 39) g dX10_init_39 rfl ?_
  refine y_snoc ?_
  refine y_ctor (pc := 40) g cn [.ref q8, .int (0 + 1 + 1 + 1), .ref q1] (y_State l S) dX10_init_40 mi_10_24 rfl rfl (Nat.le_of_ble_eq_true rfl) ⟨rfl, rfl, Nat.le_of_ble_eq_true rfl, Nat.le_of_ble_eq_true rfl, Nat.le_of_ble_eq_true rfl, Nat.le_of_ble_eq_true rfl⟩ (fun E g cn ad9 h0ad9 hxad9 => ?_)
  refine y_cons ?_
  refine y_wd (wd' := (((q, .inr (9, [.ref q1, .int 0, .int 0])) : Nat × va_E) :: ([] : va_W)) ++ (q1, .inl (S.2.1 6, 8, .inr (.inr (.inr (.inr (va_up (va_up (va_up (fun _ => none) 0 (some q2)) 1 (some q4)) 2 (some q6))))))) :: ((((([] : va_W) ++ xwd (S, shR_State, 5, ad3) mR_State) ++ xwd (S, shR_State, 5, ad5) mR_State) ++ xwd (S, shR_State, 5, ad7) mR_State) ++ xwd (S, shR_State, 5, ad9) mR_State)) (by simp only [List.append_assoc, List.cons_append, List.nil_append, List.singleton_append]) ?_
  refine y_astM (pc := 43) (j := 3) (l1 := (((q, .inr (9, [.ref q1, .int 0, .int 0])) : Nat × va_E) :: ([] : va_W))) (l2 := ((((([] : va_W) ++ xwd (S, shR_State, 5, ad3) mR_State) ++ xwd (S, shR_State, 5, ad5) mR_State) ++ xwd (S, shR_State, 5, ad7) mR_State) ++ xwd (S, shR_State, 5, ad9) mR_State)) (r := (RX7, TX7, 7)) (cj := 6) g dX10_init_43 rfl (List.mem_append_right _ (List.mem_cons_of_mem _ (List.mem_append_right _ (by rw [← h0ad9]; exact List.mem_of_getElem? (xwd_at (G := (S, shR_State, 5, ad9)) (m := mR_State) (k := 0) (Nat.le_of_ble_eq_true rfl)))))) rfl (by decide) ?_
  refine y_wd (wd' := ((q, .inr (9, [.ref q1, .int 0, .int 0])) : Nat × va_E) :: (((((([] : va_W) ++ ([(q1, .inl (S.2.1 6, 8, .inr (.inr (.inr (.inr (va_up (va_up (va_up (va_up (fun _ => none) 0 (some q2)) 1 (some q4)) 2 (some q6)) 3 (some q8)))))))] : va_W)) ++ xwd (S, shR_State, 5, ad3) mR_State) ++ xwd (S, shR_State, 5, ad5) mR_State) ++ xwd (S, shR_State, 5, ad7) mR_State) ++ xwd (S, shR_State, 5, ad9) mR_State)) (by simp only [List.append_assoc, List.cons_append, List.nil_append, List.singleton_append]) ?_
  refine x_iinc (pc := 44) (a := 0) (lv' := [(1, .int (0 + 1 + 1 + 1 + 1)), (0, .ref q)]) g dX10_init_44 ic_1 rfl (by decide) rfl ?_
  refine x_goto (pc := 47) (t := 25) g dX10_init_47 (by decide) ?_
  refine x_iload_n (pc := 25) (i := 1) (a := 0) g dX10_init_25 rfl rfl ?_
  refine x_bipush (pc := 26) g dX10_init_26 bi_8 ?_
  refine y_geNo (pc := 28) (t := 50) g dX10_init_28 (by decide) (by decide) ?_
  refine x_aload_n (pc := 31) (i := 0) (a := 1) g dX10_init_31 rfl rfl ?_
  refine y_getR (pc := 32) (x := q1) g dX10_init_32 fl_10_13 rfl ?_
  refine x_iload_n (pc := 35) (i := 1) (a := 0) g dX10_init_35 rfl rfl ?_
  refine y_new (pc := 36) (cj := 6) (gs := blX7) g cn dX10_init_36 (C := RX7) rfl uw_7 tyX7_ok ⟨w_2_160, w_2_26, w_1_11⟩ dfX7 ⟨Nat.le_of_ble_eq_true rfl, Nat.le_of_ble_eq_true rfl⟩ (fun E g cn q10 => ?_)
  refine y_cons ?_
  refine x_dup (pc := 39) g dX10_init_39 rfl ?_
  refine y_snoc ?_
  refine y_ctor (pc := 40) g cn [.ref q10, .int (0 + 1 + 1 + 1 + 1), .ref q1] (y_State l S) dX10_init_40 mi_10_24 rfl rfl (Nat.le_of_ble_eq_true rfl) ⟨rfl, rfl, Nat.le_of_ble_eq_true rfl, Nat.le_of_ble_eq_true rfl, Nat.le_of_ble_eq_true rfl, Nat.le_of_ble_eq_true rfl⟩ (fun E g cn ad11 h0ad11 hxad11 => ?_)
  refine y_cons ?_
  refine y_wd (wd' := (((q, .inr (9, [.ref q1, .int 0, .int 0])) : Nat × va_E) :: ([] : va_W)) ++ (q1, .inl (S.2.1 6, 8, .inr (.inr (.inr (.inr (va_up (va_up (va_up (va_up (fun _ => none) 0 (some q2)) 1 (some q4)) 2 (some q6)) 3 (some q8))))))) :: (((((([] : va_W) ++ xwd (S, shR_State, 5, ad3) mR_State) ++ xwd (S, shR_State, 5, ad5) mR_State) ++ xwd (S, shR_State, 5, ad7) mR_State) ++ xwd (S, shR_State, 5, ad9) mR_State) ++ xwd (S, shR_State, 5, ad11) mR_State)) (by simp only [List.append_assoc, List.cons_append, List.nil_append, List.singleton_append]) ?_
  refine y_astM (pc := 43) (j := 4) (l1 := (((q, .inr (9, [.ref q1, .int 0, .int 0])) : Nat × va_E) :: ([] : va_W))) (l2 := (((((([] : va_W) ++ xwd (S, shR_State, 5, ad3) mR_State) ++ xwd (S, shR_State, 5, ad5) mR_State) ++ xwd (S, shR_State, 5, ad7) mR_State) ++ xwd (S, shR_State, 5, ad9) mR_State) ++ xwd (S, shR_State, 5, ad11) mR_State)) (r := (RX7, TX7, 7)) (cj := 6) g dX10_init_43 rfl (List.mem_append_right _ (List.mem_cons_of_mem _ (List.mem_append_right _ (by rw [← h0ad11]; exact List.mem_of_getElem? (xwd_at (G := (S, shR_State, 5, ad11)) (m := mR_State) (k := 0) (Nat.le_of_ble_eq_true rfl)))))) rfl (by decide) ?_
  refine y_wd (wd' := ((q, .inr (9, [.ref q1, .int 0, .int 0])) : Nat × va_E) :: ((((((([] : va_W) ++ ([(q1, .inl (S.2.1 6, 8, .inr (.inr (.inr (.inr (va_up (va_up (va_up (va_up (va_up (fun _ => none) 0 (some q2)) 1 (some q4)) 2 (some q6)) 3 (some q8)) 4 (some q10)))))))] : va_W)) ++ xwd (S, shR_State, 5, ad3) mR_State) ++ xwd (S, shR_State, 5, ad5) mR_State) ++ xwd (S, shR_State, 5, ad7) mR_State) ++ xwd (S, shR_State, 5, ad9) mR_State) ++ xwd (S, shR_State, 5, ad11) mR_State)) (by simp only [List.append_assoc, List.cons_append, List.nil_append, List.singleton_append]) ?_
  refine x_iinc (pc := 44) (a := 0) (lv' := [(1, .int (0 + 1 + 1 + 1 + 1 + 1)), (0, .ref q)]) g dX10_init_44 ic_1 rfl (by decide) rfl ?_
  refine x_goto (pc := 47) (t := 25) g dX10_init_47 (by decide) ?_
  refine x_iload_n (pc := 25) (i := 1) (a := 0) g dX10_init_25 rfl rfl ?_
  refine x_bipush (pc := 26) g dX10_init_26 bi_8 ?_
  refine y_geNo (pc := 28) (t := 50) g dX10_init_28 (by decide) (by decide) ?_
  refine x_aload_n (pc := 31) (i := 0) (a := 1) g dX10_init_31 rfl rfl ?_
  refine y_getR (pc := 32) (x := q1) g dX10_init_32 fl_10_13 rfl ?_
  refine x_iload_n (pc := 35) (i := 1) (a := 0) g dX10_init_35 rfl rfl ?_
  refine y_new (pc := 36) (cj := 6) (gs := blX7) g cn dX10_init_36 (C := RX7) rfl uw_7 tyX7_ok ⟨w_2_160, w_2_26, w_1_11⟩ dfX7 ⟨Nat.le_of_ble_eq_true rfl, Nat.le_of_ble_eq_true rfl⟩ (fun E g cn q12 => ?_)
  refine y_cons ?_
  refine x_dup (pc := 39) g dX10_init_39 rfl ?_
  refine y_snoc ?_
  refine y_ctor (pc := 40) g cn [.ref q12, .int (0 + 1 + 1 + 1 + 1 + 1), .ref q1] (y_State l S) dX10_init_40 mi_10_24 rfl rfl (Nat.le_of_ble_eq_true rfl) ⟨rfl, rfl, Nat.le_of_ble_eq_true rfl, Nat.le_of_ble_eq_true rfl, Nat.le_of_ble_eq_true rfl, Nat.le_of_ble_eq_true rfl⟩ (fun E g cn ad13 h0ad13 hxad13 => ?_)
  refine y_cons ?_
  refine y_wd (wd' := (((q, .inr (9, [.ref q1, .int 0, .int 0])) : Nat × va_E) :: ([] : va_W)) ++ (q1, .inl (S.2.1 6, 8, .inr (.inr (.inr (.inr (va_up (va_up (va_up (va_up (va_up (fun _ => none) 0 (some q2)) 1 (some q4)) 2 (some q6)) 3 (some q8)) 4 (some q10))))))) :: ((((((([] : va_W) ++ xwd (S, shR_State, 5, ad3) mR_State) ++ xwd (S, shR_State, 5, ad5) mR_State) ++ xwd (S, shR_State, 5, ad7) mR_State) ++ xwd (S, shR_State, 5, ad9) mR_State) ++ xwd (S, shR_State, 5, ad11) mR_State) ++ xwd (S, shR_State, 5, ad13) mR_State)) (by simp only [List.append_assoc, List.cons_append, List.nil_append, List.singleton_append]) ?_
  refine y_astM (pc := 43) (j := 5) (l1 := (((q, .inr (9, [.ref q1, .int 0, .int 0])) : Nat × va_E) :: ([] : va_W))) (l2 := ((((((([] : va_W) ++ xwd (S, shR_State, 5, ad3) mR_State) ++ xwd (S, shR_State, 5, ad5) mR_State) ++ xwd (S, shR_State, 5, ad7) mR_State) ++ xwd (S, shR_State, 5, ad9) mR_State) ++ xwd (S, shR_State, 5, ad11) mR_State) ++ xwd (S, shR_State, 5, ad13) mR_State)) (r := (RX7, TX7, 7)) (cj := 6) g dX10_init_43 rfl (List.mem_append_right _ (List.mem_cons_of_mem _ (List.mem_append_right _ (by rw [← h0ad13]; exact List.mem_of_getElem? (xwd_at (G := (S, shR_State, 5, ad13)) (m := mR_State) (k := 0) (Nat.le_of_ble_eq_true rfl)))))) rfl (by decide) ?_
  refine y_wd (wd' := ((q, .inr (9, [.ref q1, .int 0, .int 0])) : Nat × va_E) :: (((((((([] : va_W) ++ ([(q1, .inl (S.2.1 6, 8, .inr (.inr (.inr (.inr (va_up (va_up (va_up (va_up (va_up (va_up (fun _ => none) 0 (some q2)) 1 (some q4)) 2 (some q6)) 3 (some q8)) 4 (some q10)) 5 (some q12)))))))] : va_W)) ++ xwd (S, shR_State, 5, ad3) mR_State) ++ xwd (S, shR_State, 5, ad5) mR_State) ++ xwd (S, shR_State, 5, ad7) mR_State) ++ xwd (S, shR_State, 5, ad9) mR_State) ++ xwd (S, shR_State, 5, ad11) mR_State) ++ xwd (S, shR_State, 5, ad13) mR_State)) (by simp only [List.append_assoc, List.cons_append, List.nil_append, List.singleton_append]) ?_
  refine x_iinc (pc := 44) (a := 0) (lv' := [(1, .int (0 + 1 + 1 + 1 + 1 + 1 + 1)), (0, .ref q)]) g dX10_init_44 ic_1 rfl (by decide) rfl ?_
  refine x_goto (pc := 47) (t := 25) g dX10_init_47 (by decide) ?_
  refine x_iload_n (pc := 25) (i := 1) (a := 0) g dX10_init_25 rfl rfl ?_
  refine x_bipush (pc := 26) g dX10_init_26 bi_8 ?_
  refine y_geNo (pc := 28) (t := 50) g dX10_init_28 (by decide) (by decide) ?_
  refine x_aload_n (pc := 31) (i := 0) (a := 1) g dX10_init_31 rfl rfl ?_
  refine y_getR (pc := 32) (x := q1) g dX10_init_32 fl_10_13 rfl ?_
  refine x_iload_n (pc := 35) (i := 1) (a := 0) g dX10_init_35 rfl rfl ?_
  refine y_new (pc := 36) (cj := 6) (gs := blX7) g cn dX10_init_36 (C := RX7) rfl uw_7 tyX7_ok ⟨w_2_160, w_2_26, w_1_11⟩ dfX7 ⟨Nat.le_of_ble_eq_true rfl, Nat.le_of_ble_eq_true rfl⟩ (fun E g cn q14 => ?_)
  refine y_cons ?_
  refine x_dup (pc := 39) g dX10_init_39 rfl ?_
  refine y_snoc ?_
  refine y_ctor (pc := 40) g cn [.ref q14, .int (0 + 1 + 1 + 1 + 1 + 1 + 1), .ref q1] (y_State l S) dX10_init_40 mi_10_24 rfl rfl (Nat.le_of_ble_eq_true rfl) ⟨rfl, rfl, Nat.le_of_ble_eq_true rfl, Nat.le_of_ble_eq_true rfl, Nat.le_of_ble_eq_true rfl, Nat.le_of_ble_eq_true rfl⟩ (fun E g cn ad15 h0ad15 hxad15 => ?_)
  refine y_cons ?_
  refine y_wd (wd' := (((q, .inr (9, [.ref q1, .int 0, .int 0])) : Nat × va_E) :: ([] : va_W)) ++ (q1, .inl (S.2.1 6, 8, .inr (.inr (.inr (.inr (va_up (va_up (va_up (va_up (va_up (va_up (fun _ => none) 0 (some q2)) 1 (some q4)) 2 (some q6)) 3 (some q8)) 4 (some q10)) 5 (some q12))))))) :: (((((((([] : va_W) ++ xwd (S, shR_State, 5, ad3) mR_State) ++ xwd (S, shR_State, 5, ad5) mR_State) ++ xwd (S, shR_State, 5, ad7) mR_State) ++ xwd (S, shR_State, 5, ad9) mR_State) ++ xwd (S, shR_State, 5, ad11) mR_State) ++ xwd (S, shR_State, 5, ad13) mR_State) ++ xwd (S, shR_State, 5, ad15) mR_State)) (by simp only [List.append_assoc, List.cons_append, List.nil_append, List.singleton_append]) ?_
  refine y_astM (pc := 43) (j := 6) (l1 := (((q, .inr (9, [.ref q1, .int 0, .int 0])) : Nat × va_E) :: ([] : va_W))) (l2 := (((((((([] : va_W) ++ xwd (S, shR_State, 5, ad3) mR_State) ++ xwd (S, shR_State, 5, ad5) mR_State) ++ xwd (S, shR_State, 5, ad7) mR_State) ++ xwd (S, shR_State, 5, ad9) mR_State) ++ xwd (S, shR_State, 5, ad11) mR_State) ++ xwd (S, shR_State, 5, ad13) mR_State) ++ xwd (S, shR_State, 5, ad15) mR_State)) (r := (RX7, TX7, 7)) (cj := 6) g dX10_init_43 rfl (List.mem_append_right _ (List.mem_cons_of_mem _ (List.mem_append_right _ (by rw [← h0ad15]; exact List.mem_of_getElem? (xwd_at (G := (S, shR_State, 5, ad15)) (m := mR_State) (k := 0) (Nat.le_of_ble_eq_true rfl)))))) rfl (by decide) ?_
  refine y_wd (wd' := ((q, .inr (9, [.ref q1, .int 0, .int 0])) : Nat × va_E) :: ((((((((([] : va_W) ++ ([(q1, .inl (S.2.1 6, 8, .inr (.inr (.inr (.inr (va_up (va_up (va_up (va_up (va_up (va_up (va_up (fun _ => none) 0 (some q2)) 1 (some q4)) 2 (some q6)) 3 (some q8)) 4 (some q10)) 5 (some q12)) 6 (some q14)))))))] : va_W)) ++ xwd (S, shR_State, 5, ad3) mR_State) ++ xwd (S, shR_State, 5, ad5) mR_State) ++ xwd (S, shR_State, 5, ad7) mR_State) ++ xwd (S, shR_State, 5, ad9) mR_State) ++ xwd (S, shR_State, 5, ad11) mR_State) ++ xwd (S, shR_State, 5, ad13) mR_State) ++ xwd (S, shR_State, 5, ad15) mR_State)) (by simp only [List.append_assoc, List.cons_append, List.nil_append, List.singleton_append]) ?_
  refine x_iinc (pc := 44) (a := 0) (lv' := [(1, .int (0 + 1 + 1 + 1 + 1 + 1 + 1 + 1)), (0, .ref q)]) g dX10_init_44 ic_1 rfl (by decide) rfl ?_
  refine x_goto (pc := 47) (t := 25) g dX10_init_47 (by decide) ?_
  refine x_iload_n (pc := 25) (i := 1) (a := 0) g dX10_init_25 rfl rfl ?_
  refine x_bipush (pc := 26) g dX10_init_26 bi_8 ?_
  refine y_geNo (pc := 28) (t := 50) g dX10_init_28 (by decide) (by decide) ?_
  refine x_aload_n (pc := 31) (i := 0) (a := 1) g dX10_init_31 rfl rfl ?_
  refine y_getR (pc := 32) (x := q1) g dX10_init_32 fl_10_13 rfl ?_
  refine x_iload_n (pc := 35) (i := 1) (a := 0) g dX10_init_35 rfl rfl ?_
  refine y_new (pc := 36) (cj := 6) (gs := blX7) g cn dX10_init_36 (C := RX7) rfl uw_7 tyX7_ok ⟨w_2_160, w_2_26, w_1_11⟩ dfX7 ⟨Nat.le_of_ble_eq_true rfl, Nat.le_of_ble_eq_true rfl⟩ (fun E g cn q16 => ?_)
  refine y_cons ?_
  refine x_dup (pc := 39) g dX10_init_39 rfl ?_
  refine y_snoc ?_
  refine y_ctor (pc := 40) g cn [.ref q16, .int (0 + 1 + 1 + 1 + 1 + 1 + 1 + 1), .ref q1] (y_State l S) dX10_init_40 mi_10_24 rfl rfl (Nat.le_of_ble_eq_true rfl) ⟨rfl, rfl, Nat.le_of_ble_eq_true rfl, Nat.le_of_ble_eq_true rfl, Nat.le_of_ble_eq_true rfl, Nat.le_of_ble_eq_true rfl⟩ (fun E g cn ad17 h0ad17 hxad17 => ?_)
  refine y_cons ?_
  refine y_wd (wd' := (((q, .inr (9, [.ref q1, .int 0, .int 0])) : Nat × va_E) :: ([] : va_W)) ++ (q1, .inl (S.2.1 6, 8, .inr (.inr (.inr (.inr (va_up (va_up (va_up (va_up (va_up (va_up (va_up (fun _ => none) 0 (some q2)) 1 (some q4)) 2 (some q6)) 3 (some q8)) 4 (some q10)) 5 (some q12)) 6 (some q14))))))) :: ((((((((([] : va_W) ++ xwd (S, shR_State, 5, ad3) mR_State) ++ xwd (S, shR_State, 5, ad5) mR_State) ++ xwd (S, shR_State, 5, ad7) mR_State) ++ xwd (S, shR_State, 5, ad9) mR_State) ++ xwd (S, shR_State, 5, ad11) mR_State) ++ xwd (S, shR_State, 5, ad13) mR_State) ++ xwd (S, shR_State, 5, ad15) mR_State) ++ xwd (S, shR_State, 5, ad17) mR_State)) (by simp only [List.append_assoc, List.cons_append, List.nil_append, List.singleton_append]) ?_
  refine y_astM (pc := 43) (j := 7) (l1 := (((q, .inr (9, [.ref q1, .int 0, .int 0])) : Nat × va_E) :: ([] : va_W))) (l2 := ((((((((([] : va_W) ++ xwd (S, shR_State, 5, ad3) mR_State) ++ xwd (S, shR_State, 5, ad5) mR_State) ++ xwd (S, shR_State, 5, ad7) mR_State) ++ xwd (S, shR_State, 5, ad9) mR_State) ++ xwd (S, shR_State, 5, ad11) mR_State) ++ xwd (S, shR_State, 5, ad13) mR_State) ++ xwd (S, shR_State, 5, ad15) mR_State) ++ xwd (S, shR_State, 5, ad17) mR_State)) (r := (RX7, TX7, 7)) (cj := 6) g dX10_init_43 rfl (List.mem_append_right _ (List.mem_cons_of_mem _ (List.mem_append_right _ (by rw [← h0ad17]; exact List.mem_of_getElem? (xwd_at (G := (S, shR_State, 5, ad17)) (m := mR_State) (k := 0) (Nat.le_of_ble_eq_true rfl)))))) rfl (by decide) ?_
  refine y_wd (wd' := ((q, .inr (9, [.ref q1, .int 0, .int 0])) : Nat × va_E) :: (((((((((([] : va_W) ++ ([(q1, .inl (S.2.1 6, 8, .inr (.inr (.inr (.inr (va_up (va_up (va_up (va_up (va_up (va_up (va_up (va_up (fun _ => none) 0 (some q2)) 1 (some q4)) 2 (some q6)) 3 (some q8)) 4 (some q10)) 5 (some q12)) 6 (some q14)) 7 (some q16)))))))] : va_W)) ++ xwd (S, shR_State, 5, ad3) mR_State) ++ xwd (S, shR_State, 5, ad5) mR_State) ++ xwd (S, shR_State, 5, ad7) mR_State) ++ xwd (S, shR_State, 5, ad9) mR_State) ++ xwd (S, shR_State, 5, ad11) mR_State) ++ xwd (S, shR_State, 5, ad13) mR_State) ++ xwd (S, shR_State, 5, ad15) mR_State) ++ xwd (S, shR_State, 5, ad17) mR_State)) (by simp only [List.append_assoc, List.cons_append, List.nil_append, List.singleton_append]) ?_
  refine x_iinc (pc := 44) (a := 0) (lv' := [(1, .int (0 + 1 + 1 + 1 + 1 + 1 + 1 + 1 + 1)), (0, .ref q)]) g dX10_init_44 ic_1 rfl (by decide) rfl ?_
  refine x_goto (pc := 47) (t := 25) g dX10_init_47 (by decide) ?_
  refine x_iload_n (pc := 25) (i := 1) (a := 0) g dX10_init_25 rfl rfl ?_
  refine x_bipush (pc := 26) g dX10_init_26 bi_8 ?_
  refine y_geYes (pc := 28) (t := 50) g dX10_init_28 (by decide) (by decide) ?_
  refine y_vret (pc := 50) g cn dX10_init_50 rfl (fun t hP hD => ?_)
  subst h0ad3
  subst h0ad5
  subst h0ad7
  subst h0ad9
  subst h0ad11
  subst h0ad13
  subst h0ad15
  subst h0ad17
  have e : ((q, .inr (9, [.ref q1, .int 0, .int 0])) : Nat × va_E) :: (((((((((([] : va_W) ++ ([(q1, .inl (S.2.1 6, 8, .inr (.inr (.inr (.inr (va_up (va_up (va_up (va_up (va_up (va_up (va_up (va_up (fun _ => none) 0 (some (ad3 0))) 1 (some (ad5 0))) 2 (some (ad7 0))) 3 (some (ad9 0))) 4 (some (ad11 0))) 5 (some (ad13 0))) 6 (some (ad15 0))) 7 (some (ad17 0))))))))] : va_W)) ++ xwd (S, shR_State, 5, ad3) mR_State) ++ xwd (S, shR_State, 5, ad5) mR_State) ++ xwd (S, shR_State, 5, ad7) mR_State) ++ xwd (S, shR_State, 5, ad9) mR_State) ++ xwd (S, shR_State, 5, ad11) mR_State) ++ xwd (S, shR_State, 5, ad13) mR_State) ++ xwd (S, shR_State, 5, ad15) mR_State) ++ xwd (S, shR_State, 5, ad17) mR_State) = xwd (S, shR_Undo, 42, (adR_Undo q q1 ad3 ad5 ad7 ad9 ad11 ad13 ad15 ad17)) mR_Undo := by
    have u1 : (va_up (va_up (va_up (va_up (va_up (va_up (va_up (va_up (fun _ => none) 0 (some (ad3 0))) 1 (some (ad5 0))) 2 (some (ad7 0))) 3 (some (ad9 0))) 4 (some (ad11 0))) 5 (some (ad13 0))) 6 (some (ad15 0))) 7 (some (ad17 0))) = fun i : Nat => (([2, 7, 12, 17, 22, 27, 32, 37] : List Nat)[i]?).map (adR_Undo q q1 ad3 ad5 ad7 ad9 ad11 ad13 ad15 ad17) := by funext i; match i with | 0 => rfl | 1 => rfl | 2 => rfl | 3 => rfl | 4 => rfl | 5 => rfl | 6 => rfl | 7 => rfl | i + 8 => simp [va_up]
    rw [u1]
    have a2 : ∀ x, x < 5 → (adR_Undo q q1 ad3 ad5 ad7 ad9 ad11 ad13 ad15 ad17) (2 + x) = ad3 x := by intro x hx; unfold adR_Undo; rw [if_neg (by omega), if_neg (by omega), if_pos (by omega)]; congr 1; omega
    have b2 : ∀ x, x < 5 → mR_Undo.1 (2 + x) = mR_State.1 x ∧ mR_Undo.2 (2 + x) = mR_State.2 x := by intro x hx; unfold mR_Undo; dsimp only; rw [if_neg (by omega), if_neg (by omega), if_pos (by omega), if_neg (by omega), if_neg (by omega), if_pos (by omega), show 2 + x - 2 = x by omega]; exact ⟨rfl, rfl⟩
    rw [xseg_ren (S := S) (sh := shR_State) (sh' := shR_Undo) (n := 5) (n' := 0) (N := 5) (o := 2) (σ := fun x => 2 + x) (ad := ad3) (ad' := (adR_Undo q q1 ad3 ad5 ad7 ad9 ad11 ad13 ad15 ad17)) (m := mR_State) (m' := mR_Undo) (by decide +kernel) a2 a2 b2]
    have a7 : ∀ x, x < 5 → (adR_Undo q q1 ad3 ad5 ad7 ad9 ad11 ad13 ad15 ad17) (7 + x) = ad5 x := by intro x hx; unfold adR_Undo; rw [if_neg (by omega), if_neg (by omega), if_neg (by omega), if_pos (by omega)]; congr 1; omega
    have b7 : ∀ x, x < 5 → mR_Undo.1 (7 + x) = mR_State.1 x ∧ mR_Undo.2 (7 + x) = mR_State.2 x := by intro x hx; unfold mR_Undo; dsimp only; rw [if_neg (by omega), if_neg (by omega), if_neg (by omega), if_pos (by omega), if_neg (by omega), if_neg (by omega), if_neg (by omega), if_pos (by omega), show 7 + x - 7 = x by omega]; exact ⟨rfl, rfl⟩
    rw [xseg_ren (S := S) (sh := shR_State) (sh' := shR_Undo) (n := 5) (n' := 0) (N := 5) (o := 7) (σ := fun x => 7 + x) (ad := ad5) (ad' := (adR_Undo q q1 ad3 ad5 ad7 ad9 ad11 ad13 ad15 ad17)) (m := mR_State) (m' := mR_Undo) (by decide +kernel) a7 a7 b7]
    have a12 : ∀ x, x < 5 → (adR_Undo q q1 ad3 ad5 ad7 ad9 ad11 ad13 ad15 ad17) (12 + x) = ad7 x := by intro x hx; unfold adR_Undo; rw [if_neg (by omega), if_neg (by omega), if_neg (by omega), if_neg (by omega), if_pos (by omega)]; congr 1; omega
    have b12 : ∀ x, x < 5 → mR_Undo.1 (12 + x) = mR_State.1 x ∧ mR_Undo.2 (12 + x) = mR_State.2 x := by intro x hx; unfold mR_Undo; dsimp only; rw [if_neg (by omega), if_neg (by omega), if_neg (by omega), if_neg (by omega), if_pos (by omega), if_neg (by omega), if_neg (by omega), if_neg (by omega), if_neg (by omega), if_pos (by omega), show 12 + x - 12 = x by omega]; exact ⟨rfl, rfl⟩
    rw [xseg_ren (S := S) (sh := shR_State) (sh' := shR_Undo) (n := 5) (n' := 0) (N := 5) (o := 12) (σ := fun x => 12 + x) (ad := ad7) (ad' := (adR_Undo q q1 ad3 ad5 ad7 ad9 ad11 ad13 ad15 ad17)) (m := mR_State) (m' := mR_Undo) (by decide +kernel) a12 a12 b12]
    have a17 : ∀ x, x < 5 → (adR_Undo q q1 ad3 ad5 ad7 ad9 ad11 ad13 ad15 ad17) (17 + x) = ad9 x := by intro x hx; unfold adR_Undo; rw [if_neg (by omega), if_neg (by omega), if_neg (by omega), if_neg (by omega), if_neg (by omega), if_pos (by omega)]; congr 1; omega
    have b17 : ∀ x, x < 5 → mR_Undo.1 (17 + x) = mR_State.1 x ∧ mR_Undo.2 (17 + x) = mR_State.2 x := by intro x hx; unfold mR_Undo; dsimp only; rw [if_neg (by omega), if_neg (by omega), if_neg (by omega), if_neg (by omega), if_neg (by omega), if_pos (by omega), if_neg (by omega), if_neg (by omega), if_neg (by omega), if_neg (by omega), if_neg (by omega), if_pos (by omega), show 17 + x - 17 = x by omega]; exact ⟨rfl, rfl⟩
    rw [xseg_ren (S := S) (sh := shR_State) (sh' := shR_Undo) (n := 5) (n' := 0) (N := 5) (o := 17) (σ := fun x => 17 + x) (ad := ad9) (ad' := (adR_Undo q q1 ad3 ad5 ad7 ad9 ad11 ad13 ad15 ad17)) (m := mR_State) (m' := mR_Undo) (by decide +kernel) a17 a17 b17]
    have a22 : ∀ x, x < 5 → (adR_Undo q q1 ad3 ad5 ad7 ad9 ad11 ad13 ad15 ad17) (22 + x) = ad11 x := by intro x hx; unfold adR_Undo; rw [if_neg (by omega), if_neg (by omega), if_neg (by omega), if_neg (by omega), if_neg (by omega), if_neg (by omega), if_pos (by omega)]; congr 1; omega
    have b22 : ∀ x, x < 5 → mR_Undo.1 (22 + x) = mR_State.1 x ∧ mR_Undo.2 (22 + x) = mR_State.2 x := by intro x hx; unfold mR_Undo; dsimp only; rw [if_neg (by omega), if_neg (by omega), if_neg (by omega), if_neg (by omega), if_neg (by omega), if_neg (by omega), if_pos (by omega), if_neg (by omega), if_neg (by omega), if_neg (by omega), if_neg (by omega), if_neg (by omega), if_neg (by omega), if_pos (by omega), show 22 + x - 22 = x by omega]; exact ⟨rfl, rfl⟩
    rw [xseg_ren (S := S) (sh := shR_State) (sh' := shR_Undo) (n := 5) (n' := 0) (N := 5) (o := 22) (σ := fun x => 22 + x) (ad := ad11) (ad' := (adR_Undo q q1 ad3 ad5 ad7 ad9 ad11 ad13 ad15 ad17)) (m := mR_State) (m' := mR_Undo) (by decide +kernel) a22 a22 b22]
    have a27 : ∀ x, x < 5 → (adR_Undo q q1 ad3 ad5 ad7 ad9 ad11 ad13 ad15 ad17) (27 + x) = ad13 x := by intro x hx; unfold adR_Undo; rw [if_neg (by omega), if_neg (by omega), if_neg (by omega), if_neg (by omega), if_neg (by omega), if_neg (by omega), if_neg (by omega), if_pos (by omega)]; congr 1; omega
    have b27 : ∀ x, x < 5 → mR_Undo.1 (27 + x) = mR_State.1 x ∧ mR_Undo.2 (27 + x) = mR_State.2 x := by intro x hx; unfold mR_Undo; dsimp only; rw [if_neg (by omega), if_neg (by omega), if_neg (by omega), if_neg (by omega), if_neg (by omega), if_neg (by omega), if_neg (by omega), if_pos (by omega), if_neg (by omega), if_neg (by omega), if_neg (by omega), if_neg (by omega), if_neg (by omega), if_neg (by omega), if_neg (by omega), if_pos (by omega), show 27 + x - 27 = x by omega]; exact ⟨rfl, rfl⟩
    rw [xseg_ren (S := S) (sh := shR_State) (sh' := shR_Undo) (n := 5) (n' := 0) (N := 5) (o := 27) (σ := fun x => 27 + x) (ad := ad13) (ad' := (adR_Undo q q1 ad3 ad5 ad7 ad9 ad11 ad13 ad15 ad17)) (m := mR_State) (m' := mR_Undo) (by decide +kernel) a27 a27 b27]
    have a32 : ∀ x, x < 5 → (adR_Undo q q1 ad3 ad5 ad7 ad9 ad11 ad13 ad15 ad17) (32 + x) = ad15 x := by intro x hx; unfold adR_Undo; rw [if_neg (by omega), if_neg (by omega), if_neg (by omega), if_neg (by omega), if_neg (by omega), if_neg (by omega), if_neg (by omega), if_neg (by omega), if_pos (by omega)]; congr 1; omega
    have b32 : ∀ x, x < 5 → mR_Undo.1 (32 + x) = mR_State.1 x ∧ mR_Undo.2 (32 + x) = mR_State.2 x := by intro x hx; unfold mR_Undo; dsimp only; rw [if_neg (by omega), if_neg (by omega), if_neg (by omega), if_neg (by omega), if_neg (by omega), if_neg (by omega), if_neg (by omega), if_neg (by omega), if_pos (by omega), if_neg (by omega), if_neg (by omega), if_neg (by omega), if_neg (by omega), if_neg (by omega), if_neg (by omega), if_neg (by omega), if_neg (by omega), if_pos (by omega), show 32 + x - 32 = x by omega]; exact ⟨rfl, rfl⟩
    rw [xseg_ren (S := S) (sh := shR_State) (sh' := shR_Undo) (n := 5) (n' := 0) (N := 5) (o := 32) (σ := fun x => 32 + x) (ad := ad15) (ad' := (adR_Undo q q1 ad3 ad5 ad7 ad9 ad11 ad13 ad15 ad17)) (m := mR_State) (m' := mR_Undo) (by decide +kernel) a32 a32 b32]
    have a37 : ∀ x, x < 5 → (adR_Undo q q1 ad3 ad5 ad7 ad9 ad11 ad13 ad15 ad17) (37 + x) = ad17 x := by intro x hx; unfold adR_Undo; rw [if_neg (by omega), if_neg (by omega), if_neg (by omega), if_neg (by omega), if_neg (by omega), if_neg (by omega), if_neg (by omega), if_neg (by omega), if_neg (by omega), if_pos (by omega)]; congr 1; omega
    have b37 : ∀ x, x < 5 → mR_Undo.1 (37 + x) = mR_State.1 x ∧ mR_Undo.2 (37 + x) = mR_State.2 x := by intro x hx; unfold mR_Undo; dsimp only; rw [if_neg (by omega), if_neg (by omega), if_neg (by omega), if_neg (by omega), if_neg (by omega), if_neg (by omega), if_neg (by omega), if_neg (by omega), if_neg (by omega), if_pos (by omega), if_neg (by omega), if_neg (by omega), if_neg (by omega), if_neg (by omega), if_neg (by omega), if_neg (by omega), if_neg (by omega), if_neg (by omega), if_neg (by omega), if_pos (by omega), show 37 + x - 37 = x by omega]; exact ⟨rfl, rfl⟩
    rw [xseg_ren (S := S) (sh := shR_State) (sh' := shR_Undo) (n := 5) (n' := 0) (N := 5) (o := 37) (σ := fun x => 37 + x) (ad := ad17) (ad' := (adR_Undo q q1 ad3 ad5 ad7 ad9 ad11 ad13 ad15 ad17)) (m := mR_State) (m' := mR_Undo) (by decide +kernel) a37 a37 b37]
    exact seg_Undo (fun k => ((adR_Undo q q1 ad3 ad5 ad7 ad9 ad11 ad13 ad15 ad17) k, xcel (adR_Undo q q1 ad3 ad5 ad7 ad9 ad11 ad13 ad15 ad17) S.2.1 mR_Undo k (shR_Undo k)))
  rw [e] at hP hD
  exact ⟨(adR_Undo q q1 ad3 ad5 ad7 ad9 ad11 ad13 ad15 ad17), rfl, trivial, hP, hD⟩
