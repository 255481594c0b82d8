theorem w_1_23 : (Jvm.Cond.initialized "java/util/NoSuchElementException") ∈ GT := GT_in (tlw (tin_1 (List.mem_of_getElem? (i := 23) rfl))) rfl
theorem w_5_167 : (Jvm.Cond.classLink "OwlsLent" (154 : Nat) "java/util/NoSuchElementException") ∈ GT := GT_in (tlw (tin_5 (List.mem_of_getElem? (i := 167) rfl))) rfl
theorem nw_1_224 : (Jvm.Cond.fieldLinkNest "OwlsLent" (161 : Nat) "OwlsLent$House" "bedRow" "[[I" "OwlsLent") ∈ NT := List.mem_filter.mpr ⟨tin_1 (List.mem_of_getElem? (i := 224) rfl), rfl⟩
theorem nw_1_228 : (Jvm.Cond.fieldLinkNest "OwlsLent" (183 : Nat) "OwlsLent$House" "owlRow" "[[I" "OwlsLent") ∈ NT := List.mem_filter.mpr ⟨tin_1 (List.mem_of_getElem? (i := 228) rfl), rfl⟩
theorem fl_11_161 : xFL RX11 161 2 12 := ⟨RX2, TX2, 15, rfl, by decide, uw_2, rfl, Or.inr ⟨_, nw_1_224⟩⟩
theorem fl_11_183 : xFL RX11 183 2 13 := ⟨RX2, TX2, 15, rfl, by decide, uw_2, rfl, Or.inr ⟨_, nw_1_228⟩⟩

/-! bed, owl, loud: an int, or a throw -/
abbrev tNm : List String := ["java/lang/RuntimeException", "java/lang/Exception"]
theorem at_gd : ∀ w ∈ (vx_atS RX11 158 "java/util/NoSuchElementException" tNm).filter goodWord, w ∈ lw_tbl := by decide +kernel
theorem at_bd : ∀ w ∈ (vx_atS RX11 158 "java/util/NoSuchElementException" tNm).filter (fun w => !goodWord w), isNest w = true ∧ w ∈ tables_1 := by decide +kernel
theorem at_ot : ∀ w ∈ Cond.classLink RX11 154 "java/util/NoSuchElementException" :: Cond.initialized "java/util/NoSuchElementException" :: vx_atS RX11 158 "java/util/NoSuchElementException" tNm, vx_ot w = true := by decide +kernel
theorem t_hat {args : Array Value} {s : State} (T' : ∀ {w : Cond}, w ∈ GT → w.before args s = true) (hNW : xNW s) : ∀ w ∈ vx_atS RX11 158 "java/util/NoSuchElementException" tNm, w.before args s = true := by
  intro w hw
  by_cases hg : goodWord w = true
  · exact T' (GT_in (at_gd w (List.mem_filter.mpr ⟨hw, hg⟩)) hg)
  · have h2 := at_bd w (List.mem_filter.mpr ⟨hw, by simpa using hg⟩)
    exact va_Nw.use rfl (hNW w (List.mem_filter.mpr ⟨h2.2, h2.1⟩))
def tNo (E : xE) : Prop :=
  match E with
  | (_, l, _, _, _, _, _, _, _, c, _, ce, sl, _, _) => ce = 0 ∧ sl = 0 ∧ (∀ x ∈ c.exceptionTable.toList, False) ∧ l.stackTraces = false
def tEnd (E : xE) (G : xG) (m : xMem) (z : Option Int32) : State → Prop :=
  match E with
  | (_, _, _, _, s, _, args, below, _, _, _, _, _, A, _) => vx_MQ below (fun _ st oc t => (∃ r, z = some r ∧ oc = .returned (some (.int r)) ∧ xWK G m t) ∧ va_F A st t) (fun C st t => (z = none ∧ C = "java/util/NoSuchElementException" ∧ xWK G m t) ∧ va_F A st t) args s 1 6 A
abbrev XT (E : xE) (G : xG) (pc : Nat) (lv : List (Nat × Value)) (st : List Value) (m : xMem) (res : Option (Option Int32)) : Prop := Xg E (tEnd E G m) pc lv st (xwd G m) res
def tCt (l : Launch) (G : xG) (y : MethodName) (b : ByteArray) (n : Nat) (rm : Room) (av : List Value) (m : xMem) (out : Option (Option Int32)) : Prop :=
  ∀ z, out = some z → ∀ sz, vx_Met l y (Cond.code y b n (some .int) :: GT) rm (xPc G av m sz) (fun _ st oc t => (∃ r, z = some r ∧ oc = .returned (some (.int r)) ∧ xWK G m t) ∧ va_F (xA G sz) st t) (fun C st t => (z = none ∧ C = "java/util/NoSuchElementException" ∧ xWK G m t) ∧ va_F (xA G sz) st t) 1 6 (xA G sz)
theorem tCt_of {l : Launch} {G : xG} {own : String} {y : MethodName} {b : ByteArray} {n : Nat} {rm : Room} {av : List Value} {m : xMem} {res : Option (Option Int32)} {lv : List (Nat × Value)}
    (hy : plainName y.cls = true) (hown : own = y.cls) (hlen : (lg_sl av).length ≤ n) (hlv : lv_args 0 av = lv) (hl9 : l.stackTraces = false)
    (h : ∀ E, xGood E l G.1 own b y n (some .int) rm → tNo E → XT E G 0 lv [] m res) : tCt l G y b n rm av m res := by
  intro z hz sz
  refine vx_ofW (cc := b) (maxL := n) (ret := some .int) hy rfl ?_
  intro p e s mm args below meth c s₁ B hml hno hv
  obtain ⟨rfl, hsz, ⟨hP, hK, hD⟩, hNW, hT⟩ := hv
  subst hsz
  have hg : xGood (p, l, e, rm, s, mm, av.toArray, below, meth, c, n, 0, 0, xA G s.heap.size, G.1) l G.1 own b y n (some .int) rm :=
    ⟨B.exec, B.bytes, hml, rfl, by rw [hown]; exact findClass_of_methodNamed B.named, atoms_spec (ws := Cond.code y b n (some .int) :: GT) B.pre, hNW, B.returns, B.notSynchronized, rfl, hK, rfl, rfl, fun q h => Or.inr h, ⟨Nat.zero_le _, Nat.zero_le _⟩, hT⟩
  have hl := lv_entry av (n := n) hlen
  rw [lg_entry_eq]
  rw [hlv] at hl
  exact h _ hg ⟨rfl, rfl, hno, hl9⟩ z hz s.heap [] _ hl hP (xD_of hD) va_S.rf
theorem t_iret {l0 : Launch} {G : xG} {E : xE} {own : String} {cc : ByteArray} {yy : MethodName} {n : Nat} {ret : Option FieldType} {R0 : Room} {pc : Nat} {lv : List (Nat × Value)} {m : xMem} (g : xGood E l0 G.1 own cc yy n ret R0) (tn : tNo E) {v : Int32} (d : decode cc pc = .ok (.ireturn, 1)) (hret : ret = some .int) : XT E G pc lv [.int v] m (some (some v)) := by
  refine x_iret g d hret (fun t h => ?_)
  obtain ⟨p, l, e, R, s, mm, args, below, meth, c, nL, ce, sl, A, S⟩ := E
  obtain ⟨rfl, rfl, -, -⟩ := tn
  obtain ⟨o, c1, c2, ⟨⟨c3, c4⟩, c5⟩, L, c6, c7⟩ := h
  exact ⟨o, c1, c2, Or.inl ⟨⟨⟨v, rfl, c3, c4⟩, c5⟩, L, ⟨c6.1, c6.2.1, c6.2.2.mono (by omega) (by omega)⟩, c7⟩⟩
theorem t_throwS {l0 : Launch} {G : xG} {E : xE} {cc : ByteArray} {yy : MethodName} {n : Nat} {ret : Option FieldType} {R0 : Room} {pc : Nat} {lv : List (Nat × Value)} {m : xMem} {i is : Nat} (g : xGood E l0 G.1 RX11 cc yy n ret R0) (tn : tNo E) (d0 : decode cc pc = .ok (.new 154, 3)) (d3 : decode cc (pc + 3) = .ok (.dup, 1)) (d4 : decode cc (pc + 4) = .ok (.ldc is, 2)) (d6 : decode cc (pc + 6) = .ok (.invokespecial 158, 3)) (d9 : decode cc (pc + 9) = .ok (.athrow, 1)) (hi : i < 10) (hs : (xStn i).1 = RX11 ∧ (xStn i).2.1 = is) (hroom : 6 ≤ R0.frames ∧ 90 ≤ R0.locals ∧ 1 ≤ R0.cells ∧ 6 ≤ R0.slots) : XT E G pc lv [] m (some none) := by
  obtain ⟨p, l, e, R, s, mm, args, below, meth, c, nL, ce, sl, A, S⟩ := E
  obtain ⟨hx, hb, hml, hnl, hown, hts, hNW, hr, hlk, hR, hK, hSS, hll, hAA, hce, hst⟩ := g
  subst hSS
  obtain ⟨rfl, rfl, hno, hl9⟩ := tn
  subst hR
  intro z hz H locs ls hl hP hD hS
  cases hz
  have hstr := hst.2.2.2.2.2 i hi
  rw [hs.1, hs.2] at hstr
  have T' : ∀ {w : Cond}, w ∈ GT → w.before args s = true := fun h => hts _ (List.mem_cons_of_mem _ h)
  exact vx_throwS hx hb hl9 (A := A) (own := RX11) (names := tNm) hown (by decide) (by decide) (T' w_5_167) (T' w_1_23) hstr (t_hat T' hNW) at_ot hst.1 hst.2.1 hS (by rw [hml, ← hnl]; exact hl.1) d0 d3 d4 d6 d9 (fun x hx => (hno x hx).elim) (by show 5 < R.frames; omega) (by show 0 + 82 ≤ R.locals; omega) (by omega) (by omega) hlk (fun t hal hsz hk => ⟨⟨rfl, rfl, fun k x hx => (hP k x hx).kept (hk x.1 (hP k x hx).lt), va_K.moved hal hK, hD.weaken (fun _ _ _ _ => trivial)⟩, Nat.le_trans hS.1 hsz, fun q h1 h2 => (hk q (Nat.lt_of_lt_of_le h1 hS.1)).trans (hS.2.1 q h1 h2)⟩) hS.2.2 (by omega) (by omega)
theorem t_throwSW {l0 : Launch} {G : xG} {E : xE} {cc : ByteArray} {yy : MethodName} {n : Nat} {ret : Option FieldType} {R0 : Room} {pc : Nat} {lv : List (Nat × Value)} {m : xMem} {i is : Nat} (g : xGood E l0 G.1 RX11 cc yy n ret R0) (tn : tNo E) (d0 : decode cc pc = .ok (.new 154, 3)) (d3 : decode cc (pc + 3) = .ok (.dup, 1)) (d4 : decode cc (pc + 4) = .ok (.ldc_w is, 3)) (d6 : decode cc (pc + 7) = .ok (.invokespecial 158, 3)) (d9 : decode cc (pc + 10) = .ok (.athrow, 1)) (hi : i < 10) (hs : (xStn i).1 = RX11 ∧ (xStn i).2.1 = is) (hroom : 6 ≤ R0.frames ∧ 90 ≤ R0.locals ∧ 1 ≤ R0.cells ∧ 6 ≤ R0.slots) : XT E G pc lv [] m (some none) := by
  obtain ⟨p, l, e, R, s, mm, args, below, meth, c, nL, ce, sl, A, S⟩ := E
  obtain ⟨hx, hb, hml, hnl, hown, hts, hNW, hr, hlk, hR, hK, hSS, hll, hAA, hce, hst⟩ := g
  subst hSS
  obtain ⟨rfl, rfl, hno, hl9⟩ := tn
  subst hR
  intro z hz H locs ls hl hP hD hS
  cases hz
  have hstr := hst.2.2.2.2.2 i hi
  rw [hs.1, hs.2] at hstr
  have T' : ∀ {w : Cond}, w ∈ GT → w.before args s = true := fun h => hts _ (List.mem_cons_of_mem _ h)
  exact vx_throwSW hx hb hl9 (A := A) (own := RX11) (names := tNm) hown (by decide) (by decide) (T' w_5_167) (T' w_1_23) hstr (t_hat T' hNW) at_ot hst.1 hst.2.1 hS (by rw [hml, ← hnl]; exact hl.1) d0 d3 d4 d6 d9 (fun x hx => (hno x hx).elim) (by show 5 < R.frames; omega) (by show 0 + 82 ≤ R.locals; omega) (by omega) (by omega) hlk (fun t hal hsz hk => ⟨⟨rfl, rfl, fun k x hx => (hP k x hx).kept (hk x.1 (hP k x hx).lt), va_K.moved hal hK, hD.weaken (fun _ _ _ _ => trivial)⟩, Nat.le_trans hS.1 hsz, fun q h1 h2 => (hk q (Nat.lt_of_lt_of_le h1 hS.1)).trans (hS.2.1 q h1 h2)⟩) hS.2.2 (by omega) (by omega)
abbrev rm_O_bed : Room := { frames := 7, cells := 1, slots := 6, locals := 120 }
def O_bed_b34 (m : xMem) (p0 : Int32) (p1 : Int32) : Option (Option Int32) :=
  some none
def O_bed (m : xMem) (p0 : Int32) (p1 : Int32) : Option (Option Int32) :=
  (House_hasBed m 6 p0).bind fun r1 =>
  if r1 = 0 then
    O_bed_b34 m p0 p1
  else
    if p1 < 0 then
      O_bed_b34 m p0 p1
    else
      if 5 < p1 then
        O_bed_b34 m p0 p1
      else
        if p1 = 0 then
          (ix p0 6).bind fun j2 =>
          some (some (m.1 (11 + j2) 0))
        else
        if p1 = 1 then
          (ix p0 6).bind fun j3 =>
          some (some (m.1 (11 + j3) 1))
        else
        if p1 = 2 then
          (State_owlAt m 33 6 p0).bind fun r4 =>
          some (some r4)
        else
        if p1 = 3 then
          (ix p0 6).bind fun j5 =>
          some (some (m.1 (11 + j5) 2))
        else
        if p1 = 4 then
          (ix p0 6).bind fun j6 =>
          some (some (m.1 36 j6))
        else
          (ix p0 6).bind fun j7 =>
          some (some (m.1 37 j7))
abbrev rm_O_owl : Room := { frames := 7, cells := 1, slots := 6, locals := 120 }
def O_owl_b34 (m : xMem) (p0 : Int32) (p1 : Int32) : Option (Option Int32) :=
  some none
def O_owl (m : xMem) (p0 : Int32) (p1 : Int32) : Option (Option Int32) :=
  (House_hasOwl m 6 p0).bind fun r1 =>
  if r1 = 0 then
    O_owl_b34 m p0 p1
  else
    if p1 < 0 then
      O_owl_b34 m p0 p1
    else
      if 5 < p1 then
        O_owl_b34 m p0 p1
      else
        if p1 = 0 then
          (ix p0 6).bind fun j2 =>
          some (some (m.1 35 j2))
        else
          if 3 < p1 then
            (ix p0 6).bind fun j3 =>
            (State_lookOf m 33 6 p0 (m.1 35 j3) 0).bind fun r4 =>
            if p1 = 5 then
              some (some r4)
            else
              (ix p0 6).bind fun j5 =>
              (State_sideFrom m 33 6 (m.1 35 j5) r4).bind fun r6 =>
              some (some r6)
          else
            (ix p0 6).bind fun j7 =>
            (ix p1 4).bind fun j8 =>
            some (some (m.1 (18 + j7) j8))
abbrev rm_O_loud : Room := { frames := 7, cells := 1, slots := 6, locals := 120 }
def O_loud_b24 (m : xMem) (p0 : Int32) (p1 : Int32) : Option (Option Int32) :=
  some none
def O_loud (m : xMem) (p0 : Int32) (p1 : Int32) : Option (Option Int32) :=
  (House_hasSound m 6 p0).bind fun r1 =>
  if r1 = 0 then
    O_loud_b24 m p0 p1
  else
    (House_hasBed m 6 p1).bind fun r2 =>
    if r2 = 0 then
      O_loud_b24 m p0 p1
    else
      (ix p0 8).bind fun j3 =>
      (House_loudAt m 6 p1 (25 + j3)).bind fun r4 =>
      some (some r4)
theorem T_O_bed_b34 {l : Launch} {G : xG} {E : xE} (hW : WC G) (g : xGood E l G.1 RX11 cX11_bed yX11_bed 5 (some .int) rm_O_bed) (tn : tNo E) (m : xMem) (p0 : Int32) (p1 : Int32) : XT E G 34 [] [] m (O_bed_b34 m p0 p1) := by
  unfold O_bed_b34
  exact t_throwS (pc := 34) (i := 7) g tn dX11_bed_34 dX11_bed_37 dX11_bed_38 dX11_bed_40 dX11_bed_43 (by decide) rfl ⟨Nat.le_of_ble_eq_true rfl, Nat.le_of_ble_eq_true rfl, Nat.le_of_ble_eq_true rfl, Nat.le_of_ble_eq_true rfl⟩
theorem T_O_bed {l : Launch} {G : xG} {E : xE} (hW : WC G) (g : xGood E l G.1 RX11 cX11_bed yX11_bed 5 (some .int) rm_O_bed) (tn : tNo E) (m : xMem) (p0 : Int32) (p1 : Int32) : XT E G 0 [(0, .ref (xad G 0)), (1, .int p0), (2, .int p1)] [] m (O_bed m p0 p1) := by
  unfold O_bed
  refine x_aload_n (pc := 0) (i := 0) (a := 0) g dX11_bed_0 rfl rfl ?_
  refine x_getR (pc := 1) (x := 5) g hW dX11_bed_1 fl_11_30 (sOwlsLent isOwlsLent_0) rfl ?_
  refine x_getR (pc := 4) (x := 6) g hW dX11_bed_4 fl_11_144 (sImage isImage_5) rfl ?_
  refine x_astore_n (pc := 7) (i := 3) (lv' := [(3, .ref (xad G 6)), (0, .ref (xad G 0)), (1, .int p0), (2, .int p1)]) g dX11_bed_7 rfl (by decide) rfl ?_
  refine x_aload_n (pc := 8) (i := 0) (a := 1) g dX11_bed_8 rfl rfl ?_
  refine x_getR (pc := 9) (x := 5) g hW dX11_bed_9 fl_11_30 (sOwlsLent isOwlsLent_0) rfl ?_
  refine x_getR (pc := 12) (x := 33) g hW dX11_bed_12 fl_11_147 (sImage isImage_5) rfl ?_
  refine x_astore (pc := 15) (lv' := [(4, .ref (xad G 33)), (3, .ref (xad G 6)), (0, .ref (xad G 0)), (1, .int p0), (2, .int p1)]) g dX11_bed_15 (by decide) rfl ?_
  refine x_aload_n (pc := 17) (i := 3) (a := 1) g dX11_bed_17 rfl rfl ?_
  refine x_iload_n (pc := 18) (i := 1) (a := 3) g dX11_bed_18 rfl rfl ?_
  refine x_Vi (pc := 19) g hW [.int p0] [] (c_House_hasBed l G hW m 6 p0 isHouse_6) dX11_bed_19 ml_11_150 (sHouse isHouse_6) rfl rfl (Nat.le_of_ble_eq_true rfl) ⟨rfl, rfl, Nat.le_of_ble_eq_true rfl, Nat.le_of_ble_eq_true rfl⟩ (fun r1 hr1 => ?_)
  refine x_if_eq (pc := 22) (t := 34) g dX11_bed_22 (by decide) ?_ ?_
  · exact x_sub [] (T_O_bed_b34 hW g tn m p0 p1) rfl
  · refine x_iload_n (pc := 25) (i := 2) (a := 4) g dX11_bed_25 rfl rfl ?_
    refine x_if_lt (pc := 26) (t := 34) g dX11_bed_26 (by decide) ?_ ?_
    · exact x_sub [] (T_O_bed_b34 hW g tn m p0 p1) rfl
    · refine x_iload_n (pc := 29) (i := 2) (a := 4) g dX11_bed_29 rfl rfl ?_
      refine x_iconst (pc := 30) g dX11_bed_30 ic_5 ?_
      refine x_icmp_le (pc := 31) (t := 44) g dX11_bed_31 (by decide) ?_ ?_
      · exact x_sub [] (T_O_bed_b34 hW g tn m p0 p1) rfl
      · refine x_iload_n (pc := 44) (i := 2) (a := 4) g dX11_bed_44 rfl rfl ?_
        refine x_if (fun h45_0 => ?_) (fun h45_0 => ?_)
        · refine x_tabIn (pc := 45) (t := 80) (off := 35) g dX11_bed_45 h45_0 (by decide) ?_
          refine x_aload_n (pc := 80) (i := 3) (a := 1) g dX11_bed_80 rfl rfl ?_
          refine x_getR (pc := 81) (x := 10) g hW dX11_bed_81 fl_11_161 (sHouse isHouse_6) rfl ?_
          refine x_iload_n (pc := 84) (i := 1) (a := 3) g dX11_bed_84 rfl rfl ?_
          refine x_aald4 (pc := 85) (r := fun j => 11 + j) g hW dX11_bed_85 (sHouse_bedRow isHouse_6) (fun j h => rowsL_get h) (fun j2 hj2 => ?_)
          refine x_iconst (pc := 86) g dX11_bed_86 ic_0 ?_
          refine x_ialdc (pc := 87) g hW dX11_bed_87 (sHouse_bedRowR isHouse_6 hj2) ix_0_3 ?_
          exact t_iret (pc := 88) g tn dX11_bed_88 rfl
        refine x_if (fun h45_1 => ?_) (fun h45_1 => ?_)
        · refine x_tabIn (pc := 45) (t := 89) (off := 44) g dX11_bed_45 h45_1 (by decide) ?_
          refine x_aload_n (pc := 89) (i := 3) (a := 1) g dX11_bed_89 rfl rfl ?_
          refine x_getR (pc := 90) (x := 10) g hW dX11_bed_90 fl_11_161 (sHouse isHouse_6) rfl ?_
          refine x_iload_n (pc := 93) (i := 1) (a := 3) g dX11_bed_93 rfl rfl ?_
          refine x_aald4 (pc := 94) (r := fun j => 11 + j) g hW dX11_bed_94 (sHouse_bedRow isHouse_6) (fun j h => rowsL_get h) (fun j3 hj3 => ?_)
          refine x_iconst (pc := 95) g dX11_bed_95 ic_1 ?_
          refine x_ialdc (pc := 96) g hW dX11_bed_96 (sHouse_bedRowR isHouse_6 hj3) ix_1_3 ?_
          exact t_iret (pc := 97) g tn dX11_bed_97 rfl
        refine x_if (fun h45_2 => ?_) (fun h45_2 => ?_)
        · refine x_tabIn (pc := 45) (t := 98) (off := 53) g dX11_bed_45 h45_2 (by decide) ?_
          refine x_aload (pc := 98) (a := 0) g dX11_bed_98 rfl ?_
          refine x_aload_n (pc := 100) (i := 3) (a := 1) g dX11_bed_100 rfl rfl ?_
          refine x_iload_n (pc := 101) (i := 1) (a := 3) g dX11_bed_101 rfl rfl ?_
          refine x_Vi (pc := 102) g hW [.ref (xad G 6), .int p0] [] (c_State_owlAt l G hW m 33 6 p0 isState_33 isHouse_6) dX11_bed_102 ml_11_165 (sState isState_33) rfl rfl (Nat.le_of_ble_eq_true rfl) ⟨rfl, rfl, Nat.le_of_ble_eq_true rfl, Nat.le_of_ble_eq_true rfl⟩ (fun r4 hr4 => ?_)
          exact t_iret (pc := 105) g tn dX11_bed_105 rfl
        refine x_if (fun h45_3 => ?_) (fun h45_3 => ?_)
        · refine x_tabIn (pc := 45) (t := 106) (off := 61) g dX11_bed_45 h45_3 (by decide) ?_
          refine x_aload_n (pc := 106) (i := 3) (a := 1) g dX11_bed_106 rfl rfl ?_
          refine x_getR (pc := 107) (x := 10) g hW dX11_bed_107 fl_11_161 (sHouse isHouse_6) rfl ?_
          refine x_iload_n (pc := 110) (i := 1) (a := 3) g dX11_bed_110 rfl rfl ?_
          refine x_aald4 (pc := 111) (r := fun j => 11 + j) g hW dX11_bed_111 (sHouse_bedRow isHouse_6) (fun j h => rowsL_get h) (fun j5 hj5 => ?_)
          refine x_iconst (pc := 112) g dX11_bed_112 ic_2 ?_
          refine x_ialdc (pc := 113) g hW dX11_bed_113 (sHouse_bedRowR isHouse_6 hj5) ix_2_3 ?_
          exact t_iret (pc := 114) g tn dX11_bed_114 rfl
        refine x_if (fun h45_4 => ?_) (fun h45_4 => ?_)
        · refine x_tabIn (pc := 45) (t := 115) (off := 70) g dX11_bed_45 h45_4 (by decide) ?_
          refine x_aload (pc := 115) (a := 0) g dX11_bed_115 rfl ?_
          refine x_getR (pc := 117) (x := 36) g hW dX11_bed_117 fl_11_169 (sState isState_33) rfl ?_
          refine x_iload_n (pc := 120) (i := 1) (a := 3) g dX11_bed_120 rfl rfl ?_
          refine x_iald (pc := 121) g hW dX11_bed_121 (sState_knows isState_33) (fun j6 hj6 => ?_)
          exact t_iret (pc := 122) g tn dX11_bed_122 rfl
        refine x_tabOut (pc := 45) (t := 123) g dX11_bed_45 (by have z0 := ne_toInt (k := 0) h45_0 (by decide); have z1 := ne_toInt (k := 1) h45_1 (by decide); have z2 := ne_toInt (k := 2) h45_2 (by decide); have z3 := ne_toInt (k := 3) h45_3 (by decide); have z4 := ne_toInt (k := 4) h45_4 (by decide); omega) (by decide) ?_
        refine x_aload (pc := 123) (a := 0) g dX11_bed_123 rfl ?_
        refine x_getR (pc := 125) (x := 37) g hW dX11_bed_125 fl_11_172 (sState isState_33) rfl ?_
        refine x_iload_n (pc := 128) (i := 1) (a := 3) g dX11_bed_128 rfl rfl ?_
        refine x_iald (pc := 129) g hW dX11_bed_129 (sState_misses isState_33) (fun j7 hj7 => ?_)
        exact t_iret (pc := 130) g tn dX11_bed_130 rfl
theorem c_O_bed (l : Launch) (hl9 : l.stackTraces = false) (G : xG) (hW : WC G) (m : xMem) (p0 p1 : Int32) : tCt l G yX11_bed cX11_bed 5 rm_O_bed [.ref (xad G 0), .int p0, .int p1] m (O_bed m p0 p1) :=
  tCt_of (own := RX11) (by decide) rfl (Nat.le_of_ble_eq_true rfl) rfl hl9 (fun E g tn => T_O_bed hW g tn m p0 p1)
theorem T_O_owl_b34 {l : Launch} {G : xG} {E : xE} (hW : WC G) (g : xGood E l G.1 RX11 cX11_owl yX11_owl 6 (some .int) rm_O_owl) (tn : tNo E) (m : xMem) (p0 : Int32) (p1 : Int32) : XT E G 34 [] [] m (O_owl_b34 m p0 p1) := by
  unfold O_owl_b34
  exact t_throwS (pc := 34) (i := 8) g tn dX11_owl_34 dX11_owl_37 dX11_owl_38 dX11_owl_40 dX11_owl_43 (by decide) rfl ⟨Nat.le_of_ble_eq_true rfl, Nat.le_of_ble_eq_true rfl, Nat.le_of_ble_eq_true rfl, Nat.le_of_ble_eq_true rfl⟩
theorem T_O_owl {l : Launch} {G : xG} {E : xE} (hW : WC G) (g : xGood E l G.1 RX11 cX11_owl yX11_owl 6 (some .int) rm_O_owl) (tn : tNo E) (m : xMem) (p0 : Int32) (p1 : Int32) : XT E G 0 [(0, .ref (xad G 0)), (1, .int p0), (2, .int p1)] [] m (O_owl m p0 p1) := by
  unfold O_owl
  refine x_aload_n (pc := 0) (i := 0) (a := 0) g dX11_owl_0 rfl rfl ?_
  refine x_getR (pc := 1) (x := 5) g hW dX11_owl_1 fl_11_30 (sOwlsLent isOwlsLent_0) rfl ?_
  refine x_getR (pc := 4) (x := 6) g hW dX11_owl_4 fl_11_144 (sImage isImage_5) rfl ?_
  refine x_astore_n (pc := 7) (i := 3) (lv' := [(3, .ref (xad G 6)), (0, .ref (xad G 0)), (1, .int p0), (2, .int p1)]) g dX11_owl_7 rfl (by decide) rfl ?_
  refine x_aload_n (pc := 8) (i := 0) (a := 1) g dX11_owl_8 rfl rfl ?_
  refine x_getR (pc := 9) (x := 5) g hW dX11_owl_9 fl_11_30 (sOwlsLent isOwlsLent_0) rfl ?_
  refine x_getR (pc := 12) (x := 33) g hW dX11_owl_12 fl_11_147 (sImage isImage_5) rfl ?_
  refine x_astore (pc := 15) (lv' := [(4, .ref (xad G 33)), (3, .ref (xad G 6)), (0, .ref (xad G 0)), (1, .int p0), (2, .int p1)]) g dX11_owl_15 (by decide) rfl ?_
  refine x_aload_n (pc := 17) (i := 3) (a := 1) g dX11_owl_17 rfl rfl ?_
  refine x_iload_n (pc := 18) (i := 1) (a := 3) g dX11_owl_18 rfl rfl ?_
  refine x_Vi (pc := 19) g hW [.int p0] [] (c_House_hasOwl l G hW m 6 p0 isHouse_6) dX11_owl_19 ml_11_175 (sHouse isHouse_6) rfl rfl (Nat.le_of_ble_eq_true rfl) ⟨rfl, rfl, Nat.le_of_ble_eq_true rfl, Nat.le_of_ble_eq_true rfl⟩ (fun r1 hr1 => ?_)
  refine x_if_eq (pc := 22) (t := 34) g dX11_owl_22 (by decide) ?_ ?_
  · exact x_sub [] (T_O_owl_b34 hW g tn m p0 p1) rfl
  · refine x_iload_n (pc := 25) (i := 2) (a := 4) g dX11_owl_25 rfl rfl ?_
    refine x_if_lt (pc := 26) (t := 34) g dX11_owl_26 (by decide) ?_ ?_
    · exact x_sub [] (T_O_owl_b34 hW g tn m p0 p1) rfl
    · refine x_iload_n (pc := 29) (i := 2) (a := 4) g dX11_owl_29 rfl rfl ?_
      refine x_iconst (pc := 30) g dX11_owl_30 ic_5 ?_
      refine x_icmp_le (pc := 31) (t := 44) g dX11_owl_31 (by decide) ?_ ?_
      · exact x_sub [] (T_O_owl_b34 hW g tn m p0 p1) rfl
      · refine x_iload_n (pc := 44) (i := 2) (a := 4) g dX11_owl_44 rfl rfl ?_
        refine x_if_ne (pc := 45) (t := 56) g dX11_owl_45 (by decide) ?_ ?_
        · refine x_aload (pc := 48) (a := 0) g dX11_owl_48 rfl ?_
          refine x_getR (pc := 50) (x := 35) g hW dX11_owl_50 fl_11_180 (sState isState_33) rfl ?_
          refine x_iload_n (pc := 53) (i := 1) (a := 3) g dX11_owl_53 rfl rfl ?_
          refine x_iald (pc := 54) g hW dX11_owl_54 (sState_owlBed isState_33) (fun j2 hj2 => ?_)
          exact t_iret (pc := 55) g tn dX11_owl_55 rfl
        · refine x_iload_n (pc := 56) (i := 2) (a := 4) g dX11_owl_56 rfl rfl ?_
          refine x_iconst (pc := 57) g dX11_owl_57 ic_3 ?_
          refine x_icmp_gt (pc := 58) (t := 70) g dX11_owl_58 (by decide) ?_ ?_
          · refine x_aload (pc := 70) (a := 0) g dX11_owl_70 rfl ?_
            refine x_aload_n (pc := 72) (i := 3) (a := 1) g dX11_owl_72 rfl rfl ?_
            refine x_iload_n (pc := 73) (i := 1) (a := 3) g dX11_owl_73 rfl rfl ?_
            refine x_aload (pc := 74) (a := 0) g dX11_owl_74 rfl ?_
            refine x_getR (pc := 76) (x := 35) g hW dX11_owl_76 fl_11_180 (sState isState_33) rfl ?_
            refine x_iload_n (pc := 79) (i := 1) (a := 3) g dX11_owl_79 rfl rfl ?_
            refine x_iald (pc := 80) g hW dX11_owl_80 (sState_owlBed isState_33) (fun j3 hj3 => ?_)
            refine x_iconst (pc := 81) g dX11_owl_81 ic_0 ?_
            refine x_Vi (pc := 82) g hW [.ref (xad G 6), .int p0, .int (m.1 35 j3), .int 0] [] (c_State_lookOf l G hW m 33 6 p0 (m.1 35 j3) 0 isState_33 isHouse_6) dX11_owl_82 ml_11_186 (sState isState_33) rfl rfl (Nat.le_of_ble_eq_true rfl) ⟨rfl, rfl, Nat.le_of_ble_eq_true rfl, Nat.le_of_ble_eq_true rfl⟩ (fun r4 hr4 => ?_)
            refine x_istore (pc := 85) (lv' := [(5, .int r4), (4, .ref (xad G 33)), (3, .ref (xad G 6)), (0, .ref (xad G 0)), (1, .int p0), (2, .int p1)]) g dX11_owl_85 (by decide) rfl ?_
            refine x_iload_n (pc := 87) (i := 2) (a := 5) g dX11_owl_87 rfl rfl ?_
            refine x_iconst (pc := 88) g dX11_owl_88 ic_5 ?_
            refine x_icmp_ne (pc := 89) (t := 97) g dX11_owl_89 (by decide) ?_ ?_
            · refine x_iload (pc := 92) (a := 0) g dX11_owl_92 rfl ?_
              refine x_goto (pc := 94) (t := 112) g dX11_owl_94 (by decide) ?_
              exact t_iret (pc := 112) g tn dX11_owl_112 rfl
            · refine x_aload (pc := 97) (a := 1) g dX11_owl_97 rfl ?_
              refine x_aload_n (pc := 99) (i := 3) (a := 2) g dX11_owl_99 rfl rfl ?_
              refine x_aload (pc := 100) (a := 1) g dX11_owl_100 rfl ?_
              refine x_getR (pc := 102) (x := 35) g hW dX11_owl_102 fl_11_180 (sState isState_33) rfl ?_
              refine x_iload_n (pc := 105) (i := 1) (a := 4) g dX11_owl_105 rfl rfl ?_
              refine x_iald (pc := 106) g hW dX11_owl_106 (sState_owlBed isState_33) (fun j5 hj5 => ?_)
              refine x_iload (pc := 107) (a := 0) g dX11_owl_107 rfl ?_
              refine x_Vi (pc := 109) g hW [.ref (xad G 6), .int (m.1 35 j5), .int r4] [] (c_State_sideFrom l G hW m 33 6 (m.1 35 j5) r4 isState_33 isHouse_6) dX11_owl_109 ml_11_190 (sState isState_33) rfl rfl (Nat.le_of_ble_eq_true rfl) ⟨rfl, rfl, Nat.le_of_ble_eq_true rfl, Nat.le_of_ble_eq_true rfl⟩ (fun r6 hr6 => ?_)
              exact t_iret (pc := 112) g tn dX11_owl_112 rfl
          · refine x_aload_n (pc := 61) (i := 3) (a := 1) g dX11_owl_61 rfl rfl ?_
            refine x_getR (pc := 62) (x := 17) g hW dX11_owl_62 fl_11_183 (sHouse isHouse_6) rfl ?_
            refine x_iload_n (pc := 65) (i := 1) (a := 3) g dX11_owl_65 rfl rfl ?_
            refine x_aald4 (pc := 66) (r := fun j => 18 + j) g hW dX11_owl_66 (sHouse_owlRow isHouse_6) (fun j h => rowsL_get h) (fun j7 hj7 => ?_)
            refine x_iload_n (pc := 67) (i := 2) (a := 4) g dX11_owl_67 rfl rfl ?_
            refine x_iald (pc := 68) g hW dX11_owl_68 (sHouse_owlRowR isHouse_6 hj7) (fun j8 hj8 => ?_)
            exact t_iret (pc := 69) g tn dX11_owl_69 rfl
theorem c_O_owl (l : Launch) (hl9 : l.stackTraces = false) (G : xG) (hW : WC G) (m : xMem) (p0 p1 : Int32) : tCt l G yX11_owl cX11_owl 6 rm_O_owl [.ref (xad G 0), .int p0, .int p1] m (O_owl m p0 p1) :=
  tCt_of (own := RX11) (by decide) rfl (Nat.le_of_ble_eq_true rfl) rfl hl9 (fun E g tn => T_O_owl hW g tn m p0 p1)
theorem T_O_loud_b24 {l : Launch} {G : xG} {E : xE} (hW : WC G) (g : xGood E l G.1 RX11 cX11_loud yX11_loud 4 (some .int) rm_O_loud) (tn : tNo E) (m : xMem) (p0 : Int32) (p1 : Int32) : XT E G 24 [] [] m (O_loud_b24 m p0 p1) := by
  unfold O_loud_b24
  exact t_throwSW (pc := 24) (i := 9) g tn dX11_loud_24 dX11_loud_27 dX11_loud_28 dX11_loud_31 dX11_loud_34 (by decide) rfl ⟨Nat.le_of_ble_eq_true rfl, Nat.le_of_ble_eq_true rfl, Nat.le_of_ble_eq_true rfl, Nat.le_of_ble_eq_true rfl⟩
theorem T_O_loud {l : Launch} {G : xG} {E : xE} (hW : WC G) (g : xGood E l G.1 RX11 cX11_loud yX11_loud 4 (some .int) rm_O_loud) (tn : tNo E) (m : xMem) (p0 : Int32) (p1 : Int32) : XT E G 0 [(0, .ref (xad G 0)), (1, .int p0), (2, .int p1)] [] m (O_loud m p0 p1) := by
  unfold O_loud
  refine x_aload_n (pc := 0) (i := 0) (a := 0) g dX11_loud_0 rfl rfl ?_
  refine x_getR (pc := 1) (x := 5) g hW dX11_loud_1 fl_11_30 (sOwlsLent isOwlsLent_0) rfl ?_
  refine x_getR (pc := 4) (x := 6) g hW dX11_loud_4 fl_11_144 (sImage isImage_5) rfl ?_
  refine x_astore_n (pc := 7) (i := 3) (lv' := [(3, .ref (xad G 6)), (0, .ref (xad G 0)), (1, .int p0), (2, .int p1)]) g dX11_loud_7 rfl (by decide) rfl ?_
  refine x_aload_n (pc := 8) (i := 3) (a := 0) g dX11_loud_8 rfl rfl ?_
  refine x_iload_n (pc := 9) (i := 1) (a := 2) g dX11_loud_9 rfl rfl ?_
  refine x_Vi (pc := 10) g hW [.int p0] [] (c_House_hasSound l G hW m 6 p0 isHouse_6) dX11_loud_10 ml_11_194 (sHouse isHouse_6) rfl rfl (Nat.le_of_ble_eq_true rfl) ⟨rfl, rfl, Nat.le_of_ble_eq_true rfl, Nat.le_of_ble_eq_true rfl⟩ (fun r1 hr1 => ?_)
  refine x_if_eq (pc := 13) (t := 24) g dX11_loud_13 (by decide) ?_ ?_
  · exact x_sub [] (T_O_loud_b24 hW g tn m p0 p1) rfl
  · refine x_aload_n (pc := 16) (i := 3) (a := 0) g dX11_loud_16 rfl rfl ?_
    refine x_iload_n (pc := 17) (i := 2) (a := 3) g dX11_loud_17 rfl rfl ?_
    refine x_Vi (pc := 18) g hW [.int p1] [] (c_House_hasBed l G hW m 6 p1 isHouse_6) dX11_loud_18 ml_11_150 (sHouse isHouse_6) rfl rfl (Nat.le_of_ble_eq_true rfl) ⟨rfl, rfl, Nat.le_of_ble_eq_true rfl, Nat.le_of_ble_eq_true rfl⟩ (fun r2 hr2 => ?_)
    refine x_if_ne (pc := 21) (t := 35) g dX11_loud_21 (by decide) ?_ ?_
    · exact x_sub [] (T_O_loud_b24 hW g tn m p0 p1) rfl
    · refine x_aload_n (pc := 35) (i := 3) (a := 0) g dX11_loud_35 rfl rfl ?_
      refine x_iload_n (pc := 36) (i := 2) (a := 3) g dX11_loud_36 rfl rfl ?_
      refine x_aload_n (pc := 37) (i := 3) (a := 0) g dX11_loud_37 rfl rfl ?_
      refine x_getR (pc := 38) (x := 24) g hW dX11_loud_38 fl_11_197 (sHouse isHouse_6) rfl ?_
      refine x_iload_n (pc := 41) (i := 1) (a := 2) g dX11_loud_41 rfl rfl ?_
      refine x_aald4 (pc := 42) (r := fun j => 25 + j) g hW dX11_loud_42 (sHouse_soundRow isHouse_6) (fun j h => rowsL_get h) (fun j3 hj3 => ?_)
      refine x_Vi (pc := 43) g hW [.int p1, .ref (xad G (25 + j3))] [] (c_House_loudAt l G hW m 6 p1 (25 + j3) isHouse_6 (sHouse_soundRowR isHouse_6 hj3) (by decide)) dX11_loud_43 ml_11_291 (sHouse isHouse_6) rfl rfl (Nat.le_of_ble_eq_true rfl) ⟨rfl, rfl, Nat.le_of_ble_eq_true rfl, Nat.le_of_ble_eq_true rfl⟩ (fun r4 hr4 => ?_)
      exact t_iret (pc := 46) g tn dX11_loud_46 rfl
theorem c_O_loud (l : Launch) (hl9 : l.stackTraces = false) (G : xG) (hW : WC G) (m : xMem) (p0 p1 : Int32) : tCt l G yX11_loud cX11_loud 4 rm_O_loud [.ref (xad G 0), .int p0, .int p1] m (O_loud m p0 p1) :=
  tCt_of (own := RX11) (by decide) rfl (Nat.le_of_ble_eq_true rfl) rfl hl9 (fun E g tn => T_O_loud hW g tn m p0 p1)
