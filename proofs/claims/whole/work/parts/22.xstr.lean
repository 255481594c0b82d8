theorem w_1_5 : (Jvm.Cond.initialized "java/lang/String") ∈ GT := GT_in (tlw (tin_1 (List.mem_of_getElem? (i := 5) rfl))) rfl
theorem w_1_6 : (Jvm.Cond.initialized "java/lang/StringLatin1") ∈ GT := GT_in (tlw (tin_1 (List.mem_of_getElem? (i := 6) rfl))) rfl
theorem w_1_7 : (Jvm.Cond.initialized "jdk/internal/util/Preconditions") ∈ GT := GT_in (tlw (tin_1 (List.mem_of_getElem? (i := 7) rfl))) rfl
theorem w_1_63 : (Jvm.Cond.methodLink "java/lang/String" (335 : Nat) ({ cls := "java/lang/String", name := "coder", desc := "()B" } : Jvm.MethodName)) ∈ GT := GT_in (tlw (tin_1 (List.mem_of_getElem? (i := 63) rfl))) rfl
theorem w_1_64 : (Jvm.Cond.instanceMethod ({ cls := "java/lang/String", name := "coder", desc := "()B" } : Jvm.MethodName)) ∈ GT := GT_in (tlw (tin_1 (List.mem_of_getElem? (i := 64) rfl))) rfl
theorem w_1_65 : (Jvm.Cond.selects "java/lang/String" ({ cls := "java/lang/String", name := "coder", desc := "()B" } : Jvm.MethodName) ({ cls := "java/lang/String", name := "coder", desc := "()B" } : Jvm.MethodName)) ∈ GT := GT_in (tlw (tin_1 (List.mem_of_getElem? (i := 65) rfl))) rfl
theorem w_1_66 : (Jvm.Cond.code ({ cls := "java/lang/String", name := "coder", desc := "()B" } : Jvm.MethodName) prog_21_method_152_code (1 : Nat) (Option.some Jvm.ClassFile.FieldType.byte)) ∈ GT := GT_in (tlw (tin_1 (List.mem_of_getElem? (i := 66) rfl))) rfl
theorem w_1_67 : (Jvm.Cond.fieldLink "java/lang/String" (38 : Nat) "java/lang/String" "COMPACT_STRINGS" "Z") ∈ GT := GT_in (tlw (tin_1 (List.mem_of_getElem? (i := 67) rfl))) rfl
theorem w_1_73 : (Jvm.Cond.methodLink "java/lang/String" (492 : Nat) ({ cls := "java/lang/String", name := "isLatin1", desc := "()Z" } : Jvm.MethodName)) ∈ GT := GT_in (tlw (tin_1 (List.mem_of_getElem? (i := 73) rfl))) rfl
theorem w_1_74 : (Jvm.Cond.instanceMethod ({ cls := "java/lang/String", name := "isLatin1", desc := "()Z" } : Jvm.MethodName)) ∈ GT := GT_in (tlw (tin_1 (List.mem_of_getElem? (i := 74) rfl))) rfl
theorem w_1_75 : (Jvm.Cond.selects "java/lang/String" ({ cls := "java/lang/String", name := "isLatin1", desc := "()Z" } : Jvm.MethodName) ({ cls := "java/lang/String", name := "isLatin1", desc := "()Z" } : Jvm.MethodName)) ∈ GT := GT_in (tlw (tin_1 (List.mem_of_getElem? (i := 75) rfl))) rfl
theorem w_1_76 : (Jvm.Cond.code ({ cls := "java/lang/String", name := "isLatin1", desc := "()Z" } : Jvm.MethodName) prog_21_method_154_code (1 : Nat) (Option.some Jvm.ClassFile.FieldType.boolean)) ∈ GT := GT_in (tlw (tin_1 (List.mem_of_getElem? (i := 76) rfl))) rfl
theorem w_1_77 : (Jvm.Cond.methodLink "java/lang/String" (495 : Nat) ({ cls := "java/lang/StringLatin1", name := "charAt", desc := "([BI)C" } : Jvm.MethodName)) ∈ GT := GT_in (tlw (tin_1 (List.mem_of_getElem? (i := 77) rfl))) rfl
theorem w_1_78 : (Jvm.Cond.static ({ cls := "java/lang/StringLatin1", name := "charAt", desc := "([BI)C" } : Jvm.MethodName)) ∈ GT := GT_in (tlw (tin_1 (List.mem_of_getElem? (i := 78) rfl))) rfl
theorem w_1_79 : (Jvm.Cond.code ({ cls := "java/lang/StringLatin1", name := "charAt", desc := "([BI)C" } : Jvm.MethodName) prog_22_method_2_code (2 : Nat) (Option.some Jvm.ClassFile.FieldType.char)) ∈ GT := GT_in (tlw (tin_1 (List.mem_of_getElem? (i := 79) rfl))) rfl
theorem w_1_80 : (Jvm.Cond.methodLink "java/lang/StringLatin1" (9 : Nat) ({ cls := "java/lang/String", name := "checkIndex", desc := "(II)V" } : Jvm.MethodName)) ∈ GT := GT_in (tlw (tin_1 (List.mem_of_getElem? (i := 80) rfl))) rfl
theorem w_1_81 : (Jvm.Cond.static ({ cls := "java/lang/String", name := "checkIndex", desc := "(II)V" } : Jvm.MethodName)) ∈ GT := GT_in (tlw (tin_1 (List.mem_of_getElem? (i := 81) rfl))) rfl
theorem w_1_82 : (Jvm.Cond.code ({ cls := "java/lang/String", name := "checkIndex", desc := "(II)V" } : Jvm.MethodName) prog_21_method_155_code (2 : Nat) (Option.none : Option Jvm.ClassFile.FieldType)) ∈ GT := GT_in (tlw (tin_1 (List.mem_of_getElem? (i := 82) rfl))) rfl
theorem w_1_83 : (Jvm.Cond.fieldLink "java/lang/String" (1053 : Nat) "jdk/internal/util/Preconditions" "SIOOBE_FORMATTER" "Ljava/util/function/BiFunction;") ∈ GT := GT_in (tlw (tin_1 (List.mem_of_getElem? (i := 83) rfl))) rfl
theorem w_1_85 : (Jvm.Cond.methodLink "java/lang/String" (1059 : Nat) ({ cls := "jdk/internal/util/Preconditions", name := "checkIndex", desc := "(IILjava/util/function/BiFunction;)I" } : Jvm.MethodName)) ∈ GT := GT_in (tlw (tin_1 (List.mem_of_getElem? (i := 85) rfl))) rfl
theorem w_1_86 : (Jvm.Cond.static ({ cls := "jdk/internal/util/Preconditions", name := "checkIndex", desc := "(IILjava/util/function/BiFunction;)I" } : Jvm.MethodName)) ∈ GT := GT_in (tlw (tin_1 (List.mem_of_getElem? (i := 86) rfl))) rfl
theorem w_1_87 : (Jvm.Cond.code ({ cls := "jdk/internal/util/Preconditions", name := "checkIndex", desc := "(IILjava/util/function/BiFunction;)I" } : Jvm.MethodName) prog_29_method_11_code (3 : Nat) (Option.some Jvm.ClassFile.FieldType.int)) ∈ GT := GT_in (tlw (tin_1 (List.mem_of_getElem? (i := 87) rfl))) rfl
theorem w_9_34 : (Jvm.Cond.fieldLink "java/lang/String" (9 : Nat) "java/lang/String" "value" "[B") ∈ GT := GT_in (tlw (tin_9 (List.mem_of_getElem? (i := 34) rfl))) rfl
theorem w_9_35 : (Jvm.Cond.fieldLink "java/lang/String" (15 : Nat) "java/lang/String" "coder" "B") ∈ GT := GT_in (tlw (tin_9 (List.mem_of_getElem? (i := 35) rfl))) rfl
/-- the world without cells -/
def GE (S : xS) : xG := (S, fun _ => .inr (9, 0, []), 0, fun _ => 0)
def mE : xMem := (fun _ _ => 0, fun _ _ => 0)
def xMLs (own : String) (idx : Nat) (y : MethodName) (b : ByteArray) (n2 : Nat) (r2 : Option FieldType) (na : Nat) : Prop :=
  Cond.methodLink own idx y ∈ GT ∧ Cond.instanceMethod y ∈ GT ∧ Cond.selects "java/lang/String" y y ∈ GT ∧ Cond.initialized y.cls ∈ GT ∧ Cond.code y b n2 r2 ∈ GT ∧ y.cls ≠ "java/lang/invoke/MethodHandle" ∧ y.cls ≠ "java/lang/invoke/VarHandle" ∧ (parseMethodDescriptor y.desc).map (fun d => d.parameters.length) = some na
section XT
variable {E : xE} {l0 : Launch} {S0 : xS} {own : String} {cc : ByteArray} {yy : MethodName} {n : Nat} {ret : Option FieldType} {R0 : Room} {ρ : Type} {fin : ρ → State → Prop} {pc : Nat} {lv : List (Nat × Value)} {st st0 : List Value} {wd : va_W} {m : xMem} {res : Option ρ} {y : MethodName} {b2 : ByteArray} {n2 na idx : Nat} {r2 : Option FieldType} {rm2 : Room} {as : List Value}
theorem x_res {r r' : Option ρ} (h : r = r') (k : Xg E fin pc lv st wd r') : Xg E fin pc lv st wd r := h ▸ k
theorem x_sval (g : xGood E l0 S0 own cc yy n ret R0) {i : Nat} (d : decode cc pc = .ok (.getfield idx, 3)) (hi : i < 10) (hL : Cond.fieldLink own idx "java/lang/String" "value" "[B" ∈ GT) (k : Xg E fin (pc + 3) lv (.ref (S0.2.2.2 i) :: st) wd res) : Xg E fin pc lv (.ref (S0.2.2.1 i) :: st) wd res := by
  obtain ⟨p, l, e, R, s, mm, args, below, meth, c, nL, ce, sl, A, S⟩ := E
  intro z hz H locs ls hl hP hD hS
  obtain ⟨hx, hb, hml, hnl, hown, hts, hNW, hr, hlk, hR, hK, hSS, hll, hAA, hce, hst⟩ := g
  subst hSS
  exact vk_getf hx hb (hst.2.2.2.2.1.1 i hi).2.2.1 hS hown (hts _ (List.mem_cons_of_mem _ hL)) (fun _ h => h) d (k z hz H locs ls hl hP hD hS)
theorem x_scod (g : xGood E l0 S0 own cc yy n ret R0) {i : Nat} (d : decode cc pc = .ok (.getfield idx, 3)) (hi : i < 10) (hL : Cond.fieldLink own idx "java/lang/String" "coder" "B" ∈ GT) (k : Xg E fin (pc + 3) lv (.int 0 :: st) wd res) : Xg E fin pc lv (.ref (S0.2.2.1 i) :: st) wd res := by
  obtain ⟨p, l, e, R, s, mm, args, below, meth, c, nL, ce, sl, A, S⟩ := E
  intro z hz H locs ls hl hP hD hS
  obtain ⟨hx, hb, hml, hnl, hown, hts, hNW, hr, hlk, hR, hK, hSS, hll, hAA, hce, hst⟩ := g
  subst hSS
  exact vk_getf hx hb (hst.2.2.2.2.1.1 i hi).2.1 hS hown (hts _ (List.mem_cons_of_mem _ hL)) (fun _ h => h) d (k z hz H locs ls hl hP hD hS)
theorem x_scs (g : xGood E l0 S0 own cc yy n ret R0) (d : decode cc pc = .ok (.getstatic idx, 3)) (hL : Cond.fieldLink own idx "java/lang/String" "COMPACT_STRINGS" "Z" ∈ GT) (k : Xg E fin (pc + 3) lv (.int 1 :: st) wd res) : Xg E fin pc lv st wd res := by
  obtain ⟨p, l, e, R, s, mm, args, below, meth, c, nL, ce, sl, A, S⟩ := E
  intro z hz H locs ls hl hP hD hS
  obtain ⟨hx, hb, hml, hnl, hown, hts, hNW, hr, hlk, hR, hK, hSS, hll, hAA, hce, hst⟩ := g
  subst hSS
  exact va_gets hx hb hst.2.2.1 hS hown (hts _ (List.mem_cons_of_mem _ hL)) (fun _ h => h) d (k z hz H locs ls hl hP hD hS)
theorem x_sio (g : xGood E l0 S0 own cc yy n ret R0) (d : decode cc pc = .ok (.getstatic idx, 3)) (hL : Cond.fieldLink own idx "jdk/internal/util/Preconditions" "SIOOBE_FORMATTER" "Ljava/util/function/BiFunction;" ∈ GT) (k : ∀ v : Value, (v = .null ∨ ∃ t, v = .ref t) → Xg E fin (pc + 3) lv (v :: st) wd res) : Xg E fin pc lv st wd res := by
  obtain ⟨p, l, e, R, s, mm, args, below, meth, c, nL, ce, sl, A, S⟩ := E
  intro z hz H locs ls hl hP hD hS
  obtain ⟨hx, hb, hml, hnl, hown, hts, hNW, hr, hlk, hR, hK, hSS, hll, hAA, hce, hst⟩ := g
  subst hSS
  rcases hst.2.2.2.1 with hZ | ⟨t, hZ⟩
  · exact va_gets hx hb hZ hS hown (hts _ (List.mem_cons_of_mem _ hL)) (fun _ h => h) d (k _ (Or.inl rfl) z hz H locs ls hl hP hD hS)
  · exact va_gets hx hb hZ hS hown (hts _ (List.mem_cons_of_mem _ hL)) (fun _ h => h) d (k _ (Or.inr ⟨t, rfl⟩) z hz H locs ls hl hP hD hS)
theorem x_sbald (g : xGood E l0 S0 own cc yy n ret R0) {i : Nat} {k : Int32} {j : Nat} (d : decode cc pc = .ok (.baload, 1)) (hi : i < 10) (hj : ix k (xLen.getD i 0) = some j) (kk : Xg E fin (pc + 1) lv (.int ((xByt.getD i []).getD j 0) :: st) wd res) : Xg E fin pc lv (.int k :: .ref (S0.2.2.2 i) :: st) wd res := by
  obtain ⟨p, l, e, R, s, mm, args, below, meth, c, nL, ce, sl, A, S⟩ := E
  intro z hz H locs ls hl hP hD hS
  obtain ⟨hx, hb, hml, hnl, hown, hts, hNW, hr, hlk, hR, hK, hSS, hll, hAA, hce, hst⟩ := g
  subst hSS
  obtain ⟨h1, h2, -⟩ := ix_in hj
  exact va_tb hx hb (hst.2.2.2.2.1.1 i hi).2.2.2 hS h1 (v := .int ((xByt.getD i []).getD j 0)) (by rw [h2]) d (kk z hz H locs ls hl hP hD hS)
theorem x_salen (g : xGood E l0 S0 own cc yy n ret R0) {i : Nat} (d : decode cc pc = .ok (.arraylength, 1)) (hi : i < 10) (kk : Xg E fin (pc + 1) lv (.int (nI (xLen.getD i 0)) :: st) wd res) : Xg E fin pc lv (.ref (S0.2.2.2 i) :: st) wd res := by
  obtain ⟨p, l, e, R, s, mm, args, below, meth, c, nL, ce, sl, A, S⟩ := E
  intro z hz H locs ls hl hP hD hS
  obtain ⟨hx, hb, hml, hnl, hown, hts, hNW, hr, hlk, hR, hK, hSS, hll, hAA, hce, hst⟩ := g
  subst hSS
  exact va_tlen hx hb (hst.2.2.2.2.1.1 i hi).2.2.2 hS rfl d (kk z hz H locs ls hl hP hD hS)
theorem x_sldc (g : xGood E l0 S0 own cc yy n ret R0) {i : Nat} (d : decode cc pc = .ok (.ldc idx, 2)) (hi : i < 10) (ht : (xStn i).1 = own ∧ (xStn i).2.1 = idx) (k : Xg E fin (pc + 2) lv (.ref (S0.2.2.1 i) :: st) wd res) : Xg E fin pc lv st wd res := by
  obtain ⟨p, l, e, R, s, mm, args, below, meth, c, nL, ce, sl, A, S⟩ := E
  intro z hz H locs ls hl hP hD hS
  obtain ⟨hx, hb, hml, hnl, hown, hts, hNW, hr, hlk, hR, hK, hSS, hll, hAA, hce, hst⟩ := g
  subst hSS
  have hR := hst.2.2.2.2.2 i hi
  rw [ht.1, ht.2] at hR
  exact va_ldcS hx hb hown hR d (k z hz H locs ls hl hP hD hS)
theorem x_sldcw (g : xGood E l0 S0 own cc yy n ret R0) {i : Nat} (d : decode cc pc = .ok (.ldc_w idx, 3)) (hi : i < 10) (ht : (xStn i).1 = own ∧ (xStn i).2.1 = idx) (k : Xg E fin (pc + 3) lv (.ref (S0.2.2.1 i) :: st) wd res) : Xg E fin pc lv st wd res := by
  obtain ⟨p, l, e, R, s, mm, args, below, meth, c, nL, ce, sl, A, S⟩ := E
  intro z hz H locs ls hl hP hD hS
  obtain ⟨hx, hb, hml, hnl, hown, hts, hNW, hr, hlk, hR, hK, hSS, hll, hAA, hce, hst⟩ := g
  subst hSS
  have hR := hst.2.2.2.2.2 i hi
  rw [ht.1, ht.2] at hR
  intro T hT Y
  obtain ⟨t, a1, b1⟩ := k z hz H locs ls hl hP hD hS T hT Y
  exact ⟨t, Y.ldcStringW hx hown (text := (xStn i).2.2) (a := S.2.2.1 i) hR.1 hR.2 (g := F0 mm pc ls st) rfl (by rw [hb]; exact d) t a1, b1⟩
theorem x_i2c (g : xGood E l0 S0 own cc yy n ret R0) {x : Int32} (d : decode cc pc = .ok (.i2c, 1)) (k : Xg E fin (pc + 1) lv (.int (x.toUInt32 % 65536).toInt32 :: st) wd res) : Xg E fin pc lv (.int x :: st) wd res := by
  obtain ⟨p, l, e, R, s, mm, args, below, meth, c, nL, ce, sl, A, S⟩ := E
  intro z hz H locs ls hl hP hD hS
  exact lv_i2c g.1 g.2.1 d rfl (k z hz H locs ls hl hP hD hS)
theorem x_nret {G : xG} (g : xGood E l0 G.1 own cc yy n ret R0) {v : Int32} {ty : FieldType} {w : ρ} (d : decode cc pc = .ok (.ireturn, 1)) (hret : ret = some ty) (hn : narrow ty (.int v) = .int v) (hf : ∀ t, xEnd E G (some (.int v), m) t → fin w t) : Xg E fin pc lv [.int v] (xwd G m) (some w) := by
  obtain ⟨p, l, e, R, s, mm, args, below, meth, c, nL, ce, sl, A, S⟩ := E
  intro z hz H locs ls hl hP hD hS
  obtain ⟨hx, hb, hml, hnl, hown, hts, hNW, hr, hlk, hR, hK, hSS, hll, hAA, hce, hst⟩ := g
  subst hSS
  cases hz
  subst hret
  intro T hT Y
  obtain ⟨t, a1, b1⟩ := W.zret (Qc := fun _ st oc t => (oc = .returned (some (.int v)) ∧ xWK G m t) ∧ va_F A st t) (v := v) hx hb hr hn (fun t ht hW => ⟨⟨rfl, by rw [ht]; exact hP, va_K.moved hW.alike hK, hD.weaken (fun _ _ _ _ => trivial)⟩, hS.F ht⟩) hS.2.2 d hlk T hT Y
  exact ⟨t, a1, hf t b1⟩
/-- a call that touches no cell -/
theorem x_EV (g : xGood E l0 S0 own cc yy n ret R0) {i : Nat} {o : Option Value × xMem} (as : List Value) (st : List Value) (C : xCt l0 (GE S0) y b2 n2 r2 rm2 (.ref (S0.2.2.1 i) :: as) mE (some o)) (d : decode cc pc = .ok (.invokevirtual idx, 3)) (L : xMLs own idx y b2 n2 r2 na) (hi : i < 10) (hn : as.length = na) (hstk : st0 = as.reverse ++ .ref (S0.2.2.1 i) :: st) (hcat : (st.map fun v => v.category).sum ≤ 8) (hroom : xRm rm2 n2 R0) (kk : Xg E fin (pc + 3) lv (o.1.toList ++ st) wd res) : Xg E fin pc lv st0 wd res := by
  obtain ⟨p, l, e, R, s, mm, args, below, meth, c, nL, ce, sl, A, S⟩ := E
  intro z hz H locs ls hl hP hD hS
  obtain ⟨hx, hb, hml, hnl, hown, hts, hNW, hr, hlk, hR, hK, hSS, hll, hAA, hce, hst⟩ := g
  subst hSS
  subst hR
  subst hll
  obtain ⟨L1, L2, L3, L4, L5, L7, L8, L9⟩ := L
  have T' : ∀ {w : Cond}, w ∈ GT → w.before args s = true := fun h => hts _ (List.mem_cons_of_mem _ h)
  have hwE : xwd (GE S) mE = [] := rfl
  have hE : ∀ q : Nat, xA (GE S) H.size q → H.size ≤ q := fun q h => h.elim (fun ⟨k, hk, _⟩ => absurd hk (Nat.not_lt_zero k)) id
  have hAin : ∀ q : Nat, xA (GE S) H.size q → A q := fun q h => hAA q (Nat.le_trans hS.1 (hE q h))
  have hr : va_Run p l e R s mm args below meth c H locs ce sl 0 0 (F0 mm pc ls st0) st (xQ (GE S) H.size o.1 o.2 (Value.ref (S.2.2.1 i) :: as).toArray) (xA (GE S) H.size) := by
    refine va_runV (As := as) (rest := st) (n := na) (maxL := n2) (ret := r2) (bytes := b2) ⟨hx, hb, hml, hown, hts⟩ (C o rfl H.size) ⟨⟨hroom.1, hroom.2.1, hroom.2.2.1, hroom.2.2.2, pay_in hts (GT_cons L5), List.mem_cons_self, T' L5, T' L4, ⟨L7, L8⟩, fun sig h => ?_, T' L1⟩, T' L2, T' L3⟩ ⟨xPc_blind, vk_recv hst.2.2.2.2.1 hi hS, fun U hU hW => ⟨rfl, by rw [hU], ⟨by rw [hwE]; exact fun k q h => by simp at h, va_K.moved hW.alike hK, by rw [hwE]; exact ⟨fun i j p q h => by simp at h, fun k q h => by simp at h⟩⟩, xNW.warm hW hNW, by rw [hU]; exact xSt.to hW hS.2.1 hAin hst⟩⟩ rfl hn (by rw [← hnl]; exact hl.1) hstk (lv_room hcat) d hce
    rw [h] at L9
    exact (Option.some.inj L9).symm
  intro T hT X
  obtain ⟨v, st₀, t, T', L, h0, X', hL, e1, e2, ⟨⟨hv, -⟩, hz2, hk⟩, stp⟩ := hr T hT X
  cases hv
  rw [h0] at hz2 hk
  have hk2 : ∀ q : Nat, q < H.size → T'.heap[q]? = H[q]? := fun q h => by rw [e1]; exact hk q h (fun z => Nat.not_le.mpr h (hE q z))
  obtain ⟨t2, a1, b1⟩ := kk z hz T'.heap (locs ++ L) ls hl (hP.kept (fun k q hq => hk2 _ (hP k q hq).lt)) hD
    ⟨Nat.le_trans hS.1 (by rw [e1]; exact hz2), fun q h1 h2 => by rw [hk2 q (Nat.lt_of_lt_of_le h1 hS.1)]; exact hS.2.1 q h1 h2, fun q hq => by
      rcases List.mem_append.mp hq with h | h
      · exact hS.2.2 q h
      · exact hAin _ (hL q h)⟩ T' rfl X'
  exact ⟨t2, stp t2 a1, b1⟩
/-- a call that touches no cell -/
theorem x_ES (g : xGood E l0 S0 own cc yy n ret R0) {o : Option Value × xMem} (as : List Value) (st : List Value) (C : xCt l0 (GE S0) y b2 n2 r2 rm2 as mE (some o)) (d : decode cc pc = .ok (.invokestatic idx, 3)) (L : xMS own idx y b2 n2 r2 na) (hn : as.length = na) (hstk : st0 = as.reverse ++ st) (hcat : (st.map fun v => v.category).sum ≤ 8) (hroom : xRm rm2 n2 R0) (kk : Xg E fin (pc + 3) lv (o.1.toList ++ st) wd res) : Xg E fin pc lv st0 wd res := by
  obtain ⟨p, l, e, R, s, mm, args, below, meth, c, nL, ce, sl, A, S⟩ := E
  intro z hz H locs ls hl hP hD hS
  obtain ⟨hx, hb, hml, hnl, hown, hts, hNW, hr, hlk, hR, hK, hSS, hll, hAA, hce, hst⟩ := g
  subst hSS
  subst hR
  subst hll
  obtain ⟨L1, L2, L4, L5, L7, L8, L9⟩ := L
  have T' : ∀ {w : Cond}, w ∈ GT → w.before args s = true := fun h => hts _ (List.mem_cons_of_mem _ h)
  have hwE : xwd (GE S) mE = [] := rfl
  have hE : ∀ q : Nat, xA (GE S) H.size q → H.size ≤ q := fun q h => h.elim (fun ⟨k, hk, _⟩ => absurd hk (Nat.not_lt_zero k)) id
  have hAin : ∀ q : Nat, xA (GE S) H.size q → A q := fun q h => hAA q (Nat.le_trans hS.1 (hE q h))
  have hr : va_Run p l e R s mm args below meth c H locs ce sl 0 0 (F0 mm pc ls st0) st (xQ (GE S) H.size o.1 o.2 as.toArray) (xA (GE S) H.size) := by
    refine va_runS (As := as) (rest := st) (n := na) (maxL := n2) (ret := r2) (bytes := b2) ⟨hx, hb, hml, hown, hts⟩ (C o rfl H.size) ⟨⟨hroom.1, hroom.2.1, hroom.2.2.1, hroom.2.2.2, pay_in hts (GT_cons L5), List.mem_cons_self, T' L5, T' L4, ⟨L7, L8⟩, fun sig h => ?_, T' L1⟩, T' L2⟩ ⟨xPc_blind, fun U hU hW => ⟨rfl, by rw [hU], ⟨by rw [hwE]; exact fun k q h => by simp at h, va_K.moved hW.alike hK, by rw [hwE]; exact ⟨fun i j p q h => by simp at h, fun k q h => by simp at h⟩⟩, xNW.warm hW hNW, by rw [hU]; exact xSt.to hW hS.2.1 hAin hst⟩⟩ rfl hn (by rw [← hnl]; exact hl.1) hstk (lv_room hcat) d hce
    rw [h] at L9
    exact (Option.some.inj L9).symm
  intro T hT X
  obtain ⟨v, st₀, t, T', L, h0, X', hL, e1, e2, ⟨⟨hv, -⟩, hz2, hk⟩, stp⟩ := hr T hT X
  cases hv
  rw [h0] at hz2 hk
  have hk2 : ∀ q : Nat, q < H.size → T'.heap[q]? = H[q]? := fun q h => by rw [e1]; exact hk q h (fun z => Nat.not_le.mpr h (hE q z))
  obtain ⟨t2, a1, b1⟩ := kk z hz T'.heap (locs ++ L) ls hl (hP.kept (fun k q hq => hk2 _ (hP k q hq).lt)) hD
    ⟨Nat.le_trans hS.1 (by rw [e1]; exact hz2), fun q h1 h2 => by rw [hk2 q (Nat.lt_of_lt_of_le h1 hS.1)]; exact hS.2.1 q h1 h2, fun q hq => by
      rcases List.mem_append.mp hq with h | h
      · exact hS.2.2 q h
      · exact hAin _ (hL q h)⟩ T' rfl X'
  exact ⟨t2, stp t2 a1, b1⟩
end XT
theorem js_coder : xMLs "java/lang/String" 335 yJ0_coder_7d493 cJ0_coder_7d493 1 (some .byte) 0 := ⟨w_1_63, w_1_64, w_1_65, w_1_5, w_1_66, by decide, by decide, rfl⟩
theorem js_isl : xMLs "java/lang/String" 492 yJ0_isLatin1_aae02 cJ0_isLatin1_aae02 1 (some .boolean) 0 := ⟨w_1_73, w_1_74, w_1_75, w_1_5, w_1_76, by decide, by decide, rfl⟩
theorem js_l1c : xMS "java/lang/String" 495 yJ1_charAt_3b067 cJ1_charAt_3b067 2 (some .char) 2 := ⟨w_1_77, w_1_78, w_1_6, w_1_79, by decide, by decide, rfl⟩
theorem js_chk : xMS "java/lang/StringLatin1" 9 yJ0_checkIndex_df160 cJ0_checkIndex_df160 2 none 2 := ⟨w_1_80, w_1_81, w_1_5, w_1_82, by decide, by decide, rfl⟩
theorem js_pck : xMS "java/lang/String" 1059 yJ3_checkIndex_8e157 cJ3_checkIndex_8e157 3 (some .int) 3 := ⟨w_1_85, w_1_86, w_1_7, w_1_87, by decide, by decide, rfl⟩
theorem jf_val : Cond.fieldLink "java/lang/String" 9 "java/lang/String" "value" "[B" ∈ GT := w_9_34
theorem jf_cod : Cond.fieldLink "java/lang/String" 15 "java/lang/String" "coder" "B" ∈ GT := w_9_35
theorem jf_cs : Cond.fieldLink "java/lang/String" 38 "java/lang/String" "COMPACT_STRINGS" "Z" ∈ GT := w_1_67
theorem jf_sio : Cond.fieldLink "java/lang/String" 1053 "jdk/internal/util/Preconditions" "SIOOBE_FORMATTER" "Ljava/util/function/BiFunction;" ∈ GT := w_1_83
theorem dJ0_length_8abf5_0 : decode cJ0_length_8abf5 0 = .ok (.aload_n 0, 1) := by decide +kernel
theorem dJ0_length_8abf5_1 : decode cJ0_length_8abf5 1 = .ok (.getfield 9, 3) := by decide +kernel
theorem dJ0_length_8abf5_4 : decode cJ0_length_8abf5 4 = .ok (.arraylength, 1) := by decide +kernel
theorem dJ0_length_8abf5_5 : decode cJ0_length_8abf5 5 = .ok (.aload_n 0, 1) := by decide +kernel
theorem dJ0_length_8abf5_6 : decode cJ0_length_8abf5 6 = .ok (.invokevirtual 335, 3) := by decide +kernel
theorem dJ0_length_8abf5_9 : decode cJ0_length_8abf5 9 = .ok (.ishr, 1) := by decide +kernel
theorem dJ0_length_8abf5_10 : decode cJ0_length_8abf5 10 = .ok (.ireturn, 1) := by decide +kernel
theorem dJ0_coder_7d493_0 : decode cJ0_coder_7d493 0 = .ok (.getstatic 38, 3) := by decide +kernel
theorem dJ0_coder_7d493_3 : decode cJ0_coder_7d493 3 = .ok (.ifCond .eq 10, 3) := by decide +kernel
theorem dJ0_coder_7d493_6 : decode cJ0_coder_7d493 6 = .ok (.aload_n 0, 1) := by decide +kernel
theorem dJ0_coder_7d493_7 : decode cJ0_coder_7d493 7 = .ok (.getfield 15, 3) := by decide +kernel
theorem dJ0_coder_7d493_10 : decode cJ0_coder_7d493 10 = .ok (.goto 4, 3) := by decide +kernel
theorem dJ0_coder_7d493_13 : decode cJ0_coder_7d493 13 = .ok (.iconst 1, 1) := by decide +kernel
theorem dJ0_coder_7d493_14 : decode cJ0_coder_7d493 14 = .ok (.ireturn, 1) := by decide +kernel
theorem dJ0_isLatin1_aae02_0 : decode cJ0_isLatin1_aae02 0 = .ok (.getstatic 38, 3) := by decide +kernel
theorem dJ0_isLatin1_aae02_3 : decode cJ0_isLatin1_aae02 3 = .ok (.ifCond .eq 14, 3) := by decide +kernel
theorem dJ0_isLatin1_aae02_6 : decode cJ0_isLatin1_aae02 6 = .ok (.aload_n 0, 1) := by decide +kernel
theorem dJ0_isLatin1_aae02_7 : decode cJ0_isLatin1_aae02 7 = .ok (.getfield 15, 3) := by decide +kernel
theorem dJ0_isLatin1_aae02_10 : decode cJ0_isLatin1_aae02 10 = .ok (.ifCond .ne 7, 3) := by decide +kernel
theorem dJ0_isLatin1_aae02_13 : decode cJ0_isLatin1_aae02 13 = .ok (.iconst 1, 1) := by decide +kernel
theorem dJ0_isLatin1_aae02_14 : decode cJ0_isLatin1_aae02 14 = .ok (.goto 4, 3) := by decide +kernel
theorem dJ0_isLatin1_aae02_17 : decode cJ0_isLatin1_aae02 17 = .ok (.iconst 0, 1) := by decide +kernel
theorem dJ0_isLatin1_aae02_18 : decode cJ0_isLatin1_aae02 18 = .ok (.ireturn, 1) := by decide +kernel
theorem dJ0_charAt_5068e_0 : decode cJ0_charAt_5068e 0 = .ok (.aload_n 0, 1) := by decide +kernel
theorem dJ0_charAt_5068e_1 : decode cJ0_charAt_5068e 1 = .ok (.invokevirtual 492, 3) := by decide +kernel
theorem dJ0_charAt_5068e_4 : decode cJ0_charAt_5068e 4 = .ok (.ifCond .eq 12, 3) := by decide +kernel
theorem dJ0_charAt_5068e_7 : decode cJ0_charAt_5068e 7 = .ok (.aload_n 0, 1) := by decide +kernel
theorem dJ0_charAt_5068e_8 : decode cJ0_charAt_5068e 8 = .ok (.getfield 9, 3) := by decide +kernel
theorem dJ0_charAt_5068e_11 : decode cJ0_charAt_5068e 11 = .ok (.iload_n 1, 1) := by decide +kernel
theorem dJ0_charAt_5068e_12 : decode cJ0_charAt_5068e 12 = .ok (.invokestatic 495, 3) := by decide +kernel
theorem dJ0_charAt_5068e_15 : decode cJ0_charAt_5068e 15 = .ok (.ireturn, 1) := by decide +kernel
theorem dJ0_charAt_5068e_16 : decode cJ0_charAt_5068e 16 = .ok (.aload_n 0, 1) := by decide +kernel
theorem dJ0_charAt_5068e_17 : decode cJ0_charAt_5068e 17 = .ok (.getfield 9, 3) := by decide +kernel
theorem dJ0_charAt_5068e_20 : decode cJ0_charAt_5068e 20 = .ok (.iload_n 1, 1) := by decide +kernel
theorem dJ0_charAt_5068e_21 : decode cJ0_charAt_5068e 21 = .ok (.invokestatic 498, 3) := by decide +kernel
theorem dJ0_charAt_5068e_24 : decode cJ0_charAt_5068e 24 = .ok (.ireturn, 1) := by decide +kernel
theorem dJ0_checkIndex_df160_0 : decode cJ0_checkIndex_df160 0 = .ok (.iload_n 0, 1) := by decide +kernel
theorem dJ0_checkIndex_df160_1 : decode cJ0_checkIndex_df160 1 = .ok (.iload_n 1, 1) := by decide +kernel
theorem dJ0_checkIndex_df160_2 : decode cJ0_checkIndex_df160 2 = .ok (.getstatic 1053, 3) := by decide +kernel
theorem dJ0_checkIndex_df160_5 : decode cJ0_checkIndex_df160 5 = .ok (.invokestatic 1059, 3) := by decide +kernel
theorem dJ0_checkIndex_df160_8 : decode cJ0_checkIndex_df160 8 = .ok (.pop, 1) := by decide +kernel
theorem dJ0_checkIndex_df160_9 : decode cJ0_checkIndex_df160 9 = .ok (.return_, 1) := by decide +kernel
theorem dJ1_charAt_3b067_0 : decode cJ1_charAt_3b067 0 = .ok (.iload_n 1, 1) := by decide +kernel
theorem dJ1_charAt_3b067_1 : decode cJ1_charAt_3b067 1 = .ok (.aload_n 0, 1) := by decide +kernel
theorem dJ1_charAt_3b067_2 : decode cJ1_charAt_3b067 2 = .ok (.arraylength, 1) := by decide +kernel
theorem dJ1_charAt_3b067_3 : decode cJ1_charAt_3b067 3 = .ok (.invokestatic 9, 3) := by decide +kernel
theorem dJ1_charAt_3b067_6 : decode cJ1_charAt_3b067 6 = .ok (.aload_n 0, 1) := by decide +kernel
theorem dJ1_charAt_3b067_7 : decode cJ1_charAt_3b067 7 = .ok (.iload_n 1, 1) := by decide +kernel
theorem dJ1_charAt_3b067_8 : decode cJ1_charAt_3b067 8 = .ok (.baload, 1) := by decide +kernel
theorem dJ1_charAt_3b067_9 : decode cJ1_charAt_3b067 9 = .ok (.sipush 255, 3) := by decide +kernel
theorem dJ1_charAt_3b067_12 : decode cJ1_charAt_3b067 12 = .ok (.iand, 1) := by decide +kernel
theorem dJ1_charAt_3b067_13 : decode cJ1_charAt_3b067 13 = .ok (.i2c, 1) := by decide +kernel
theorem dJ1_charAt_3b067_14 : decode cJ1_charAt_3b067 14 = .ok (.ireturn, 1) := by decide +kernel
theorem dJ3_checkIndex_8e157_0 : decode cJ3_checkIndex_8e157 0 = .ok (.iload_n 0, 1) := by decide +kernel
theorem dJ3_checkIndex_8e157_1 : decode cJ3_checkIndex_8e157 1 = .ok (.ifCond .lt 8, 3) := by decide +kernel
theorem dJ3_checkIndex_8e157_4 : decode cJ3_checkIndex_8e157 4 = .ok (.iload_n 0, 1) := by decide +kernel
theorem dJ3_checkIndex_8e157_5 : decode cJ3_checkIndex_8e157 5 = .ok (.iload_n 1, 1) := by decide +kernel
theorem dJ3_checkIndex_8e157_6 : decode cJ3_checkIndex_8e157 6 = .ok (.if_icmp .lt 10, 3) := by decide +kernel
theorem dJ3_checkIndex_8e157_9 : decode cJ3_checkIndex_8e157 9 = .ok (.aload_n 2, 1) := by decide +kernel
theorem dJ3_checkIndex_8e157_10 : decode cJ3_checkIndex_8e157 10 = .ok (.iload_n 0, 1) := by decide +kernel
theorem dJ3_checkIndex_8e157_11 : decode cJ3_checkIndex_8e157 11 = .ok (.iload_n 1, 1) := by decide +kernel
theorem dJ3_checkIndex_8e157_12 : decode cJ3_checkIndex_8e157 12 = .ok (.invokestatic 95, 3) := by decide +kernel
theorem dJ3_checkIndex_8e157_15 : decode cJ3_checkIndex_8e157 15 = .ok (.athrow, 1) := by decide +kernel
theorem dJ3_checkIndex_8e157_16 : decode cJ3_checkIndex_8e157 16 = .ok (.iload_n 0, 1) := by decide +kernel
theorem dJ3_checkIndex_8e157_17 : decode cJ3_checkIndex_8e157 17 = .ok (.ireturn, 1) := by decide +kernel
abbrev rmj_cod : Room := { frames := 0, cells := 0, slots := 0, locals := 0 }
abbrev rmj_isl : Room := { frames := 0, cells := 0, slots := 0, locals := 0 }
abbrev rmj_pck : Room := { frames := 0, cells := 0, slots := 0, locals := 0 }
abbrev rmj_chk : Room := { frames := 1, cells := 0, slots := 0, locals := 22 }
abbrev rmj_l1c : Room := { frames := 2, cells := 0, slots := 0, locals := 43 }
abbrev rmj_cha : Room := { frames := 3, cells := 0, slots := 0, locals := 64 }
abbrev rmj_len : Room := { frames := 1, cells := 0, slots := 0, locals := 20 }
theorem c_Str_coder (l : Launch) (S : xS) {i : Nat} (hi : i < 10) : xCi l (GE S) yJ0_coder_7d493 cJ0_coder_7d493 1 (some .byte) rmj_cod [.ref (S.2.2.1 i)] mE (some 0) := by
  refine xCt_of (own := "java/lang/String") (fin := (fun r : Int32 => (some (Value.int r), mE))) (by decide) rfl (Nat.le_of_ble_eq_true rfl) rfl ⟨rfl, rfl⟩ (fun E g => ?_)
  refine x_scs (pc := 0) g dJ0_coder_7d493_0 jf_cs ?_
  refine x_res (r' := if (1 : Int32) = 0 then none else some 0) rfl ?_
  refine x_if_eq (pc := 3) (t := 13) g dJ0_coder_7d493_3 (by decide) x_none ?_
  refine x_aload_n (pc := 6) (i := 0) (a := 0) g dJ0_coder_7d493_6 rfl rfl ?_
  refine x_scod (pc := 7) g dJ0_coder_7d493_7 hi jf_cod ?_
  refine x_goto (pc := 10) (t := 14) g dJ0_coder_7d493_10 (by decide) ?_
  exact x_nret (pc := 14) g dJ0_coder_7d493_14 rfl rfl (fun _ h => h)
theorem c_Str_isLatin1 (l : Launch) (S : xS) {i : Nat} (hi : i < 10) : xCi l (GE S) yJ0_isLatin1_aae02 cJ0_isLatin1_aae02 1 (some .boolean) rmj_isl [.ref (S.2.2.1 i)] mE (some 1) := by
  refine xCt_of (own := "java/lang/String") (fin := (fun r : Int32 => (some (Value.int r), mE))) (by decide) rfl (Nat.le_of_ble_eq_true rfl) rfl ⟨rfl, rfl⟩ (fun E g => ?_)
  refine x_scs (pc := 0) g dJ0_isLatin1_aae02_0 jf_cs ?_
  refine x_res (r' := if (1 : Int32) = 0 then none else some 1) rfl ?_
  refine x_if_eq (pc := 3) (t := 17) g dJ0_isLatin1_aae02_3 (by decide) x_none ?_
  refine x_aload_n (pc := 6) (i := 0) (a := 0) g dJ0_isLatin1_aae02_6 rfl rfl ?_
  refine x_scod (pc := 7) g dJ0_isLatin1_aae02_7 hi jf_cod ?_
  refine x_res (r' := if (0 : Int32) = 0 then some 1 else none) rfl ?_
  refine x_if_ne (pc := 10) (t := 17) g dJ0_isLatin1_aae02_10 (by decide) ?_ x_none
  refine x_iconst (pc := 13) g dJ0_isLatin1_aae02_13 ic_1 ?_
  refine x_goto (pc := 14) (t := 18) g dJ0_isLatin1_aae02_14 (by decide) ?_
  exact x_zretc (pc := 18) g dJ0_isLatin1_aae02_18 rfl (Or.inr rfl) (fun _ h => h)
theorem c_Str_length (l : Launch) (S : xS) {i : Nat} (hi : i < 10) : xCi l (GE S) yJ0_length_8abf5 cJ0_length_8abf5 1 (some .int) rmj_len [.ref (S.2.2.1 i)] mE (some (nI (xLen.getD i 0))) := by
  refine xCt_of (own := "java/lang/String") (fin := (fun r : Int32 => (some (Value.int r), mE))) (by decide) rfl (Nat.le_of_ble_eq_true rfl) rfl ⟨rfl, rfl⟩ (fun E g => ?_)
  refine x_aload_n (pc := 0) (i := 0) (a := 0) g dJ0_length_8abf5_0 rfl rfl ?_
  refine x_sval (pc := 1) g dJ0_length_8abf5_1 hi jf_val ?_
  refine x_salen (pc := 4) g dJ0_length_8abf5_4 hi ?_
  refine x_aload_n (pc := 5) (i := 0) (a := 0) g dJ0_length_8abf5_5 rfl rfl ?_
  refine x_EV (pc := 6) g [] [.int (nI (xLen.getD i 0))] (c_Str_coder l S hi) dJ0_length_8abf5_6 js_coder hi rfl rfl (Nat.le_of_ble_eq_true rfl) ⟨rfl, rfl, Nat.le_of_ble_eq_true rfl, Nat.le_of_ble_eq_true rfl⟩ ?_
  refine x_ishr (pc := 9) g dJ0_length_8abf5_9 ?_
  have e : i_shr (nI (xLen.getD i 0)) 0 = nI (xLen.getD i 0) := sb_shr0 _
  rw [e]
  exact x_iret (pc := 10) g dJ0_length_8abf5_10 rfl (fun _ h => h)
theorem c_Pre_check_null (l : Launch) (S : xS) {k N : Int32} (h0 : ¬ k < 0) (h1 : k < N) : xCi l (GE S) yJ3_checkIndex_8e157 cJ3_checkIndex_8e157 3 (some .int) rmj_pck [.int k, .int N, .null] mE (some k) := by
  refine xCt_of (own := "jdk/internal/util/Preconditions") (fin := (fun r : Int32 => (some (Value.int r), mE))) (by decide) rfl (Nat.le_of_ble_eq_true rfl) rfl ⟨rfl, rfl⟩ (fun E g => ?_)
  refine x_iload_n (pc := 0) (i := 0) (a := 0) g dJ3_checkIndex_8e157_0 rfl rfl ?_
  refine x_res (r' := if k < 0 then none else some k) (by rw [if_neg h0]) ?_
  refine x_if_lt (pc := 1) (t := 9) g dJ3_checkIndex_8e157_1 (by decide) x_none ?_
  refine x_iload_n (pc := 4) (i := 0) (a := 0) g dJ3_checkIndex_8e157_4 rfl rfl ?_
  refine x_iload_n (pc := 5) (i := 1) (a := 1) g dJ3_checkIndex_8e157_5 rfl rfl ?_
  refine x_res (r' := if k < N then some k else none) (by rw [if_pos h1]) ?_
  refine x_icmp_lt (pc := 6) (t := 16) g dJ3_checkIndex_8e157_6 (by decide) ?_ x_none
  refine x_iload_n (pc := 16) (i := 0) (a := 0) g dJ3_checkIndex_8e157_16 rfl rfl ?_
  exact x_iret (pc := 17) g dJ3_checkIndex_8e157_17 rfl (fun _ h => h)
theorem c_Pre_check_ref (l : Launch) (S : xS) (t : Nat) {k N : Int32} (h0 : ¬ k < 0) (h1 : k < N) : xCi l (GE S) yJ3_checkIndex_8e157 cJ3_checkIndex_8e157 3 (some .int) rmj_pck [.int k, .int N, .ref t] mE (some k) := by
  refine xCt_of (own := "jdk/internal/util/Preconditions") (fin := (fun r : Int32 => (some (Value.int r), mE))) (by decide) rfl (Nat.le_of_ble_eq_true rfl) rfl ⟨rfl, rfl⟩ (fun E g => ?_)
  refine x_iload_n (pc := 0) (i := 0) (a := 0) g dJ3_checkIndex_8e157_0 rfl rfl ?_
  refine x_res (r' := if k < 0 then none else some k) (by rw [if_neg h0]) ?_
  refine x_if_lt (pc := 1) (t := 9) g dJ3_checkIndex_8e157_1 (by decide) x_none ?_
  refine x_iload_n (pc := 4) (i := 0) (a := 0) g dJ3_checkIndex_8e157_4 rfl rfl ?_
  refine x_iload_n (pc := 5) (i := 1) (a := 1) g dJ3_checkIndex_8e157_5 rfl rfl ?_
  refine x_res (r' := if k < N then some k else none) (by rw [if_pos h1]) ?_
  refine x_icmp_lt (pc := 6) (t := 16) g dJ3_checkIndex_8e157_6 (by decide) ?_ x_none
  refine x_iload_n (pc := 16) (i := 0) (a := 0) g dJ3_checkIndex_8e157_16 rfl rfl ?_
  exact x_iret (pc := 17) g dJ3_checkIndex_8e157_17 rfl (fun _ h => h)
theorem c_Str_check (l : Launch) (S : xS) {k N : Int32} (h0 : ¬ k < 0) (h1 : k < N) : xCv l (GE S) yJ0_checkIndex_df160 cJ0_checkIndex_df160 2 none rmj_chk [.int k, .int N] mE (some mE) := by
  refine xCt_of (own := "java/lang/String") (fin := (fun r : xMem => ((none : Option Value), r))) (by decide) rfl (Nat.le_of_ble_eq_true rfl) rfl ⟨rfl, rfl⟩ (fun E g => ?_)
  refine x_iload_n (pc := 0) (i := 0) (a := 0) g dJ0_checkIndex_df160_0 rfl rfl ?_
  refine x_iload_n (pc := 1) (i := 1) (a := 1) g dJ0_checkIndex_df160_1 rfl rfl ?_
  refine x_sio (pc := 2) g dJ0_checkIndex_df160_2 jf_sio (fun v hv => ?_)
  rcases hv with rfl | ⟨t, rfl⟩
  · refine x_ES (pc := 5) g [.int k, .int N, .null] [] (c_Pre_check_null l S h0 h1) dJ0_checkIndex_df160_5 js_pck rfl rfl (Nat.le_of_ble_eq_true rfl) ⟨rfl, rfl, Nat.le_of_ble_eq_true rfl, Nat.le_of_ble_eq_true rfl⟩ ?_
    refine x_pop (pc := 8) g dJ0_checkIndex_df160_8 rfl ?_
    exact x_vret (pc := 9) g dJ0_checkIndex_df160_9 rfl (fun _ h => h)
  · refine x_ES (pc := 5) g [.int k, .int N, .ref t] [] (c_Pre_check_ref l S t h0 h1) dJ0_checkIndex_df160_5 js_pck rfl rfl (Nat.le_of_ble_eq_true rfl) ⟨rfl, rfl, Nat.le_of_ble_eq_true rfl, Nat.le_of_ble_eq_true rfl⟩ ?_
    refine x_pop (pc := 8) g dJ0_checkIndex_df160_8 rfl ?_
    exact x_vret (pc := 9) g dJ0_checkIndex_df160_9 rfl (fun _ h => h)
/-- the sign at a place of a text constant -/
def xChr (i j : Nat) : Int32 := (xByt.getD i []).getD j 0
theorem xChr_ok : ∀ i, i < 10 → xLen.getD i 0 < 1000 ∧ ∀ j, j < xLen.getD i 0 → ((xChr i j &&& 255).toUInt32 % 65536).toInt32 = xChr i j ∧ narrow .char (.int (xChr i j)) = .int (xChr i j) := by decide +kernel
theorem ix_lt {k : Int32} {N j : Nat} (hN : N < 1000) (h : ix k N = some j) : ¬ k < 0 ∧ k < nI N := by
  unfold ix at h
  split at h
  · next q =>
    have e : (nI N).toInt = N := nI_toInt (by omega)
    rw [Int32.lt_iff_toInt_lt, Int32.lt_iff_toInt_lt, e]
    refine ⟨?_, q.2⟩
    have : (0 : Int32).toInt = 0 := rfl
    omega
  · cases h
theorem c_Lat_charAt (l : Launch) (S : xS) {i : Nat} (hi : i < 10) {k : Int32} {j : Nat} (hj : ix k (xLen.getD i 0) = some j) : xCi l (GE S) yJ1_charAt_3b067 cJ1_charAt_3b067 2 (some .char) rmj_l1c [.ref (S.2.2.2 i), .int k] mE (some (xChr i j)) := by
  refine xCt_of (own := "java/lang/StringLatin1") (fin := (fun r : Int32 => (some (Value.int r), mE))) (by decide) rfl (Nat.le_of_ble_eq_true rfl) rfl ⟨rfl, rfl⟩ (fun E g => ?_)
  have hq := ix_lt (xChr_ok i hi).1 hj
  have hc := (xChr_ok i hi).2 j (ix_in hj).2.2
  refine x_iload_n (pc := 0) (i := 1) (a := 1) g dJ1_charAt_3b067_0 rfl rfl ?_
  refine x_aload_n (pc := 1) (i := 0) (a := 0) g dJ1_charAt_3b067_1 rfl rfl ?_
  refine x_salen (pc := 2) g dJ1_charAt_3b067_2 hi ?_
  refine x_ES (pc := 3) g [.int k, .int (nI (xLen.getD i 0))] [] (c_Str_check l S hq.1 hq.2) dJ1_charAt_3b067_3 js_chk rfl rfl (Nat.le_of_ble_eq_true rfl) ⟨rfl, rfl, Nat.le_of_ble_eq_true rfl, Nat.le_of_ble_eq_true rfl⟩ ?_
  refine x_aload_n (pc := 6) (i := 0) (a := 0) g dJ1_charAt_3b067_6 rfl rfl ?_
  refine x_iload_n (pc := 7) (i := 1) (a := 1) g dJ1_charAt_3b067_7 rfl rfl ?_
  refine x_sbald (pc := 8) g dJ1_charAt_3b067_8 hi hj ?_
  refine x_sipush (pc := 9) g dJ1_charAt_3b067_9 si_255 ?_
  refine x_iand (pc := 12) g dJ1_charAt_3b067_12 ?_
  refine x_i2c (pc := 13) g dJ1_charAt_3b067_13 ?_
  have e : (((xByt.getD i []).getD j 0 &&& 255).toUInt32 % 65536).toInt32 = xChr i j := hc.1
  rw [e]
  exact x_nret (pc := 14) g dJ1_charAt_3b067_14 rfl hc.2 (fun _ h => h)
theorem c_Str_charAt (l : Launch) (S : xS) {i : Nat} (hi : i < 10) {k : Int32} {j : Nat} (hj : ix k (xLen.getD i 0) = some j) : xCi l (GE S) yJ0_charAt_5068e cJ0_charAt_5068e 2 (some .char) rmj_cha [.ref (S.2.2.1 i), .int k] mE (some (xChr i j)) := by
  refine xCt_of (own := "java/lang/String") (fin := (fun r : Int32 => (some (Value.int r), mE))) (by decide) rfl (Nat.le_of_ble_eq_true rfl) rfl ⟨rfl, rfl⟩ (fun E g => ?_)
  have hc := (xChr_ok i hi).2 j (ix_in hj).2.2
  refine x_aload_n (pc := 0) (i := 0) (a := 0) g dJ0_charAt_5068e_0 rfl rfl ?_
  refine x_EV (pc := 1) g [] [] (c_Str_isLatin1 l S hi) dJ0_charAt_5068e_1 js_isl hi rfl rfl (Nat.le_of_ble_eq_true rfl) ⟨rfl, rfl, Nat.le_of_ble_eq_true rfl, Nat.le_of_ble_eq_true rfl⟩ ?_
  refine x_res (r' := if (1 : Int32) = 0 then none else some (xChr i j)) rfl ?_
  refine x_if_eq (pc := 4) (t := 16) g dJ0_charAt_5068e_4 (by decide) x_none ?_
  refine x_aload_n (pc := 7) (i := 0) (a := 0) g dJ0_charAt_5068e_7 rfl rfl ?_
  refine x_sval (pc := 8) g dJ0_charAt_5068e_8 hi jf_val ?_
  refine x_iload_n (pc := 11) (i := 1) (a := 1) g dJ0_charAt_5068e_11 rfl rfl ?_
  refine x_ES (pc := 12) g [.ref (S.2.2.2 i), .int k] [] (c_Lat_charAt l S hi hj) dJ0_charAt_5068e_12 js_l1c rfl rfl (Nat.le_of_ble_eq_true rfl) ⟨rfl, rfl, Nat.le_of_ble_eq_true rfl, Nat.le_of_ble_eq_true rfl⟩ ?_
  exact x_nret (pc := 15) g dJ0_charAt_5068e_15 rfl hc.2 (fun _ h => h)
section XU
variable {E : xE} {l0 : Launch} {S0 : xS} {own : String} {cc : ByteArray} {yy : MethodName} {n : Nat} {ret : Option FieldType} {R0 : Room} {ρ : Type} {fin : ρ → State → Prop} {pc : Nat} {lv : List (Nat × Value)} {st : List Value} {wd : va_W} {res : Option ρ}
theorem x_slen (g : xGood E l0 S0 own cc yy n ret R0) {i idx : Nat} (d : decode cc pc = .ok (.invokevirtual idx, 3)) (hi : i < 10) (L : xMLs own idx yJ0_length_8abf5 cJ0_length_8abf5 1 (some .int) 0) (hcat : (st.map fun v => v.category).sum ≤ 8) (hroom : xRm rmj_len 1 R0) (kk : Xg E fin (pc + 3) lv (.int (nI (xLen.getD i 0)) :: st) wd res) : Xg E fin pc lv (.ref (S0.2.2.1 i) :: st) wd res :=
  x_EV g [] st (c_Str_length l0 S0 hi) d L hi rfl rfl hcat hroom kk
theorem x_schar (g : xGood E l0 S0 own cc yy n ret R0) {i idx : Nat} {k : Int32} {F : Nat → Option ρ} (d : decode cc pc = .ok (.invokevirtual idx, 3)) (hi : i < 10) (L : xMLs own idx yJ0_charAt_5068e cJ0_charAt_5068e 2 (some .char) 1) (hcat : (st.map fun v => v.category).sum ≤ 8) (hroom : xRm rmj_cha 2 R0) (kk : ∀ j, j < xLen.getD i 0 → Xg E fin (pc + 3) lv (.int (xChr i j) :: st) wd (F j)) : Xg E fin pc lv (.int k :: .ref (S0.2.2.1 i) :: st) wd ((ix k (xLen.getD i 0)).bind F) := by
  cases hj : ix k (xLen.getD i 0) with
  | none => exact x_none
  | some j => exact x_EV g [.int k] st (c_Str_charAt l0 S0 hi hj) d L hi rfl rfl hcat hroom (kk j (ix_in hj).2.2)
end XU
