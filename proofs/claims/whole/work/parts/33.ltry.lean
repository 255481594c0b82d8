/-! the law's own bed, owl, loud: an answer, or a throw that is caught -/
def RXL : String := RL
def lTt : List (Nat × Nat × Nat × Nat) := [(0, 10, 13, 13)]
def xMSW (own : String) (idx : Nat) (y : MethodName) (b : ByteArray) : Prop :=
  Cond.methodLink own idx y ∈ GT ∧ Cond.static y ∈ GT ∧ Cond.initialized y.cls ∈ GT ∧ Cond.codeWith y b 5 (some .int) lTt ∈ GT ∧ y.cls ≠ "java/lang/invoke/MethodHandle" ∧ y.cls ≠ "java/lang/invoke/VarHandle" ∧ (parseMethodDescriptor y.desc).map (fun d => d.parameters.length) = some 4
theorem neM_L : RXL ≠ "java/lang/invoke/MethodHandle" := by decide
theorem neV_L : RXL ≠ "java/lang/invoke/VarHandle" := by decide
theorem w_1_0 : (Jvm.Cond.initialized "OwlsLentLaw") ∈ GT := GT_in (tlw (tin_1 (List.mem_of_getElem? (i := 0) rfl))) rfl
theorem w_5_157 : (Jvm.Cond.methodLink "OwlsLentLaw" (44 : Nat) ({ cls := "OwlsLentLaw", name := "bed", desc := "(LOwlsLent;II[J)I" } : Jvm.MethodName)) ∈ GT := GT_in (tlw (tin_5 (List.mem_of_getElem? (i := 157) rfl))) rfl
theorem w_5_158 : (Jvm.Cond.static ({ cls := "OwlsLentLaw", name := "bed", desc := "(LOwlsLent;II[J)I" } : Jvm.MethodName)) ∈ GT := GT_in (tlw (tin_5 (List.mem_of_getElem? (i := 158) rfl))) rfl
theorem w_5_159 : (Jvm.Cond.codeWith ({ cls := "OwlsLentLaw", name := "bed", desc := "(LOwlsLent;II[J)I" } : Jvm.MethodName) method_3_code (5 : Nat) (Option.some Jvm.ClassFile.FieldType.int) [((0 : Nat), (10 : Nat), (13 : Nat), (13 : Nat))]) ∈ GT := GT_in (tlw (tin_5 (List.mem_of_getElem? (i := 159) rfl))) rfl
theorem w_5_160 : (Jvm.Cond.classLink "OwlsLentLaw" (13 : Nat) "java/util/NoSuchElementException") ∈ GT := GT_in (tlw (tin_5 (List.mem_of_getElem? (i := 160) rfl))) rfl
theorem w_5_161 : (Jvm.Cond.methodLink "OwlsLentLaw" (7 : Nat) ({ cls := "OwlsLent", name := "bed", desc := "(II)I" } : Jvm.MethodName)) ∈ GT := GT_in (tlw (tin_5 (List.mem_of_getElem? (i := 161) rfl))) rfl
theorem w_5_162 : (Jvm.Cond.instanceMethod ({ cls := "OwlsLent", name := "bed", desc := "(II)I" } : Jvm.MethodName)) ∈ GT := GT_in (tlw (tin_5 (List.mem_of_getElem? (i := 162) rfl))) rfl
theorem w_5_163 : (Jvm.Cond.selects "OwlsLent" ({ cls := "OwlsLent", name := "bed", desc := "(II)I" } : Jvm.MethodName) ({ cls := "OwlsLent", name := "bed", desc := "(II)I" } : Jvm.MethodName)) ∈ GT := GT_in (tlw (tin_5 (List.mem_of_getElem? (i := 163) rfl))) rfl
theorem w_5_164 : (Jvm.Cond.code ({ cls := "OwlsLent", name := "bed", desc := "(II)I" } : Jvm.MethodName) prog_1_method_7_code (5 : Nat) (Option.some Jvm.ClassFile.FieldType.int)) ∈ GT := GT_in (tlw (tin_5 (List.mem_of_getElem? (i := 164) rfl))) rfl
theorem w_5_230 : (Jvm.Cond.methodLink "OwlsLentLaw" (53 : Nat) ({ cls := "OwlsLentLaw", name := "owl", desc := "(LOwlsLent;II[J)I" } : Jvm.MethodName)) ∈ GT := GT_in (tlw (tin_5 (List.mem_of_getElem? (i := 230) rfl))) rfl
theorem w_5_231 : (Jvm.Cond.static ({ cls := "OwlsLentLaw", name := "owl", desc := "(LOwlsLent;II[J)I" } : Jvm.MethodName)) ∈ GT := GT_in (tlw (tin_5 (List.mem_of_getElem? (i := 231) rfl))) rfl
theorem w_5_232 : (Jvm.Cond.codeWith ({ cls := "OwlsLentLaw", name := "owl", desc := "(LOwlsLent;II[J)I" } : Jvm.MethodName) method_4_code (5 : Nat) (Option.some Jvm.ClassFile.FieldType.int) [((0 : Nat), (10 : Nat), (13 : Nat), (13 : Nat))]) ∈ GT := GT_in (tlw (tin_5 (List.mem_of_getElem? (i := 232) rfl))) rfl
theorem w_5_233 : (Jvm.Cond.methodLink "OwlsLentLaw" (15 : Nat) ({ cls := "OwlsLent", name := "owl", desc := "(II)I" } : Jvm.MethodName)) ∈ GT := GT_in (tlw (tin_5 (List.mem_of_getElem? (i := 233) rfl))) rfl
theorem w_5_234 : (Jvm.Cond.instanceMethod ({ cls := "OwlsLent", name := "owl", desc := "(II)I" } : Jvm.MethodName)) ∈ GT := GT_in (tlw (tin_5 (List.mem_of_getElem? (i := 234) rfl))) rfl
theorem w_5_235 : (Jvm.Cond.selects "OwlsLent" ({ cls := "OwlsLent", name := "owl", desc := "(II)I" } : Jvm.MethodName) ({ cls := "OwlsLent", name := "owl", desc := "(II)I" } : Jvm.MethodName)) ∈ GT := GT_in (tlw (tin_5 (List.mem_of_getElem? (i := 235) rfl))) rfl
theorem w_5_236 : (Jvm.Cond.code ({ cls := "OwlsLent", name := "owl", desc := "(II)I" } : Jvm.MethodName) prog_1_method_8_code (6 : Nat) (Option.some Jvm.ClassFile.FieldType.int)) ∈ GT := GT_in (tlw (tin_5 (List.mem_of_getElem? (i := 236) rfl))) rfl
theorem w_5_238 : (Jvm.Cond.methodLink "OwlsLentLaw" (102 : Nat) ({ cls := "OwlsLentLaw", name := "loud", desc := "(LOwlsLent;II[J)I" } : Jvm.MethodName)) ∈ GT := GT_in (tlw (tin_5 (List.mem_of_getElem? (i := 238) rfl))) rfl
theorem w_5_239 : (Jvm.Cond.static ({ cls := "OwlsLentLaw", name := "loud", desc := "(LOwlsLent;II[J)I" } : Jvm.MethodName)) ∈ GT := GT_in (tlw (tin_5 (List.mem_of_getElem? (i := 239) rfl))) rfl
theorem w_6_0 : (Jvm.Cond.codeWith ({ cls := "OwlsLentLaw", name := "loud", desc := "(LOwlsLent;II[J)I" } : Jvm.MethodName) method_5_code (5 : Nat) (Option.some Jvm.ClassFile.FieldType.int) [((0 : Nat), (10 : Nat), (13 : Nat), (13 : Nat))]) ∈ GT := GT_in (tlw (tin_6 (List.mem_of_getElem? (i := 0) rfl))) rfl
theorem w_6_1 : (Jvm.Cond.methodLink "OwlsLentLaw" (18 : Nat) ({ cls := "OwlsLent", name := "loud", desc := "(II)I" } : Jvm.MethodName)) ∈ GT := GT_in (tlw (tin_6 (List.mem_of_getElem? (i := 1) rfl))) rfl
theorem w_6_2 : (Jvm.Cond.instanceMethod ({ cls := "OwlsLent", name := "loud", desc := "(II)I" } : Jvm.MethodName)) ∈ GT := GT_in (tlw (tin_6 (List.mem_of_getElem? (i := 2) rfl))) rfl
theorem w_6_3 : (Jvm.Cond.selects "OwlsLent" ({ cls := "OwlsLent", name := "loud", desc := "(II)I" } : Jvm.MethodName) ({ cls := "OwlsLent", name := "loud", desc := "(II)I" } : Jvm.MethodName)) ∈ GT := GT_in (tlw (tin_6 (List.mem_of_getElem? (i := 3) rfl))) rfl
theorem w_6_4 : (Jvm.Cond.code ({ cls := "OwlsLent", name := "loud", desc := "(II)I" } : Jvm.MethodName) prog_1_method_24_code (4 : Nat) (Option.some Jvm.ClassFile.FieldType.int)) ∈ GT := GT_in (tlw (tin_6 (List.mem_of_getElem? (i := 4) rfl))) rfl
theorem nw_5_167 : (Jvm.Cond.castable "java/util/NoSuchElementException" "java/util/NoSuchElementException") ∈ NT := List.mem_filter.mpr ⟨tin_5 (List.mem_of_getElem? (i := 167) rfl), rfl⟩
theorem ml_L_7 : xML RXL 7 10 yX11_bed cX11_bed 5 (some .int) 2 := ⟨w_5_161, w_5_162, w_5_163, w_1_1, w_5_164, ⟨TX11, 19, rfl⟩, neM_11, neV_11, rfl⟩
theorem ml_L_15 : xML RXL 15 10 yX11_owl cX11_owl 6 (some .int) 2 := ⟨w_5_233, w_5_234, w_5_235, w_1_1, w_5_236, ⟨TX11, 19, rfl⟩, neM_11, neV_11, rfl⟩
theorem ml_L_18 : xML RXL 18 10 yX11_loud cX11_loud 4 (some .int) 2 := ⟨w_6_1, w_6_2, w_6_3, w_1_1, w_6_4, ⟨TX11, 19, rfl⟩, neM_11, neV_11, rfl⟩
theorem msw_bed : xMSW RXL 44 yL_bed cL_bed := ⟨w_5_157, w_5_158, w_1_0, w_5_159, by decide, by decide, rfl⟩
theorem msw_owl : xMSW RXL 53 yL_owl cL_owl := ⟨w_5_230, w_5_231, w_1_0, w_5_232, by decide, by decide, rfl⟩
theorem msw_loud : xMSW RXL 102 yL_loud cL_loud := ⟨w_5_238, w_5_239, w_1_0, w_6_0, by decide, by decide, rfl⟩
section LT
def lTw (G : xG) (out : Nat) (m : xMem) (f : Nat → Int64) : va_W := xwd G m ++ [(out, .inl (xcA G 1, 1, .inr (.inl f)))]
def lTA (G : xG) (out sz : Nat) : Nat → Prop := fun q => xA G sz q ∨ q = out
def lTK (G : xG) (out : Nat) (m : xMem) (f : Nat → Int64) (U : State) : Prop := va_P (xD G) vwCl (lTw G out m f) U.heap ∧ va_K (xD G) vwCl (xtys G) U ∧ va_D (fun _ => True) (lTw G out m f)
def lTf (f : Nat → Int64) : Option Int32 → Nat → Int64
  | none => f
  | some r => vp_updL f 0 (i_l r)
def lTr : Option Int32 → Int32
  | none => 1
  | some _ => 0
abbrev rm_LT : Room := { frames := 9, cells := 1, slots := 6, locals := 200 }
def lTP (G : xG) (out : Nat) (m : xMem) (f : Nat → Int64) (av : List Value) (sz : Nat) : Array Value → State → Prop := va_Pc av (fun U => U.heap.size = sz ∧ lTK G out m f U ∧ xNW U ∧ xSt G.1 (lTA G out sz) U U.heap)
def lTQ (G : xG) (out : Nat) (m : xMem) (f : Nat → Int64) (sz : Nat) (z : Option Int32) : Array Value → State → Outcome → State → Prop := fun _ st oc t => (oc = .returned (some (.int (lTr z))) ∧ lTK G out m (lTf f z) t) ∧ va_F (lTA G out sz) st t
theorem lTP_blind {G : xG} {out : Nat} {m : xMem} {f : Nat → Int64} {av : List Value} {sz : Nat} : FrameBlind (lTP G out m f av sz) := by
  intro a U g mk h
  obtain ⟨h1, h2, ⟨hP, hK, hD⟩, hN, hT⟩ := h
  exact ⟨h1, h2, ⟨hP, va_K.moved (u := U) (U := U.calling g mk a) (Vm.Alike.refl U.vm) hK, hD⟩, xNW.same (u := U) (U := U.calling g mk a) rfl hN, xSt.blind (u := U) (U := U.calling g mk a) rfl hT⟩
def lTCt (l : Launch) (G : xG) (y : MethodName) (b : ByteArray) (m : xMem) (p0 p1 : Int32) (res : Option (Option Int32)) : Prop :=
  ∀ z, res = some z → ∀ (out : Nat) (f : Nat → Int64) (sz : Nat), Met l y (Cond.codeWith y b 5 (some .int) lTt :: GT) rm_LT (lTP G out m f [.ref (xad G 0), .int p0, .int p1, .ref out] sz) (lTQ G out m f sz z) 1 6 (lTA G out sz)
theorem GT_consW {w y2 b2} {n2 : Nat} {r2} (h : Cond.code y2 b2 n2 r2 ∈ GT) : GoodIn (w :: GT) (Cond.code y2 b2 n2 r2 :: GT) := by
  intro v hv
  rcases List.mem_cons.mp hv with rfl | hv
  · exact ⟨List.mem_cons_of_mem _ h, good_of_word (GT_good h)⟩
  · exact ⟨List.mem_cons_of_mem _ hv, good_of_word (GT_good hv)⟩
theorem GT_consV {w v : Cond} (h : v ∈ GT) : GoodIn (w :: GT) (v :: GT) := by
  intro u hu
  rcases List.mem_cons.mp hu with rfl | hu
  · exact ⟨List.mem_cons_of_mem _ h, good_of_word (GT_good h)⟩
  · exact ⟨List.mem_cons_of_mem _ hu, good_of_word (GT_good hu)⟩
theorem xwd_len {G : xG} {m : xMem} : (xwd G m).length = xN G := by simp [xwd]
theorem lT_at {G : xG} {out : Nat} {m : xMem} {f : Nat → Int64} : (lTw G out m f)[xN G]? = some (out, .inl (xcA G 1, 1, .inr (.inl f))) := by
  unfold lTw
  rw [List.getElem?_append_right (by rw [xwd_len]; exact Nat.le_refl _), xwd_len, Nat.sub_self]
  rfl
theorem lT_set {G : xG} {out : Nat} {m : xMem} {f g : Nat → Int64} : (lTw G out m f).set (xN G) (out, .inl (xcA G 1, 1, .inr (.inl g))) = lTw G out m g := by
  unfold lTw
  rw [List.set_append_right _ _ (by rw [xwd_len]; exact Nat.le_refl _), xwd_len, Nat.sub_self]
  rfl
theorem lT_D {G : xG} {out : Nat} {m : xMem} {f : Nat → Int64} {B : Nat → Prop} {sz : Nat} (h : va_D B (lTw G out m f)) : va_D (lTA G out sz) (lTw G out m f) := by
  refine ⟨h.1, fun k q hk => ?_⟩
  by_cases hx : k < (xwd G m).length
  · unfold lTw at hk
    rw [List.getElem?_append_left hx] at hk
    exact Or.inl ((xD_of (sz := sz) (lD_left h)).2 k q hk)
  · unfold lTw at hk
    rw [List.getElem?_append_right (by omega)] at hk
    have h0 : k - (xwd G m).length < 1 := (List.getElem?_eq_some_iff.mp hk).1
    rw [show k - (xwd G m).length = 0 by omega] at hk
    have hx : (out, (.inl (xcA G 1, 1, .inr (.inl f)) : va_E)) = q := by simpa using hk
    subst hx
    exact Or.inr rfl
theorem l_try {l : Launch} {G : xG} (hW : WC G) {y y2 : MethodName} {b b2 : ByteArray} {n2 idx ci : Nat} {fds : List Nat} {rm2 : Room} {m : xMem} {p0 p1 : Int32} {res : Option (Option Int32)} (hy : plainName y.cls = true) (hown : RXL = y.cls)
    (C : tCt l G y2 b2 n2 rm2 [.ref (xad G 0), .int p0, .int p1] m res) (L : xML RXL idx ci y2 b2 n2 (some .int) 2) (hs : shC 0 = .inl (ci, fds))
    (hroom : rm2.cells = 1 ∧ rm2.slots = 6 ∧ rm2.frames + 1 ≤ 9 ∧ 8 + (n2 + 11) + rm2.locals ≤ 200)
    (d0 : decode b 0 = .ok (.aload_n 3, 1)) (d1 : decode b 1 = .ok (.iconst 0, 1)) (d2 : decode b 2 = .ok (.aload_n 0, 1)) (d3 : decode b 3 = .ok (.iload_n 1, 1)) (d4 : decode b 4 = .ok (.iload_n 2, 1)) (d5 : decode b 5 = .ok (.invokevirtual idx, 3)) (d8 : decode b 8 = .ok (.i2l, 1)) (d9 : decode b 9 = .ok (.lastore, 1)) (d10 : decode b 10 = .ok (.goto 7, 3)) (d13 : decode b 13 = .ok (.astore 4, 2)) (d15 : decode b 15 = .ok (.iconst 1, 1)) (d16 : decode b 16 = .ok (.ireturn, 1)) (d17 : decode b 17 = .ok (.iconst 0, 1)) (d18 : decode b 18 = .ok (.ireturn, 1)) : lTCt l G y b m p0 p1 res := by
  intro z hz out f sz
  refine va_MetW (cc := b) (maxL := 5) (ret := some .int) (hh := lTt) hy rfl ?_
  intro p e s mm args below meth c s₁ B hml hv
  obtain ⟨rfl, hsz, ⟨hP, hK, hD⟩, hNW, hst⟩ := hv
  subst hsz
  have hts := atoms_spec (ws := Cond.codeWith y b 5 (some .int) lTt :: GT) B.pre
  have htab : c.exceptionTable.toList = tableOf lTt := vx_table (x := y) B (hts _ List.mem_cons_self)
  have hown' : s.vm.findClass RXL = some mm.cls := by rw [hown]; exact findClass_of_methodNamed B.named
  have T' : ∀ {w : Cond}, w ∈ GT → w.before ([.ref (xad G 0), .int p0, .int p1, .ref out] : List Value).toArray s = true := fun h => hts _ (List.mem_cons_of_mem _ h)
  obtain ⟨L1, L2, L3, L4, L5, ⟨TT, NN, L6⟩, L7, L8, L9⟩ := L
  obtain ⟨hk, hq⟩ := xGood_N hW (k := 0) (by rw [hs]; intro h; cases h)
  have hP1 := lP_left hP
  have hD1 := lD_left hD
  have hDA : va_D (lTA G out s.heap.size) (lTw G out m f) := lT_D hD
  have hat : (xwd G m)[0]? = some (xad G 0, .inr (ci, xfs (xad G) m 0 0 fds)) := by rw [xwd_at hk, hq, hs]; rfl
  have h9 : ∀ sig, parseMethodDescriptor y2.desc = some sig → 2 = sig.parameters.length := fun sig h => by
    rw [h] at L9
    exact (Option.some.inj L9).symm
  have hAin : ∀ q, xA G s.heap.size q → lTA G out s.heap.size q := fun q h => Or.inl h
  have key : ∀ ls : Array Slot, lv_has ls 5 [(0, Value.ref (xad G 0)), (1, .int p0), (2, .int p1), (3, .ref out)] → W p l e rm_LT s mm ([.ref (xad G 0), .int p0, .int p1, .ref out] : List Value).toArray below meth c s.heap [] 0 0 (MQ below (lTQ G out m f s.heap.size z) ([.ref (xad G 0), .int p0, .int p1, .ref out] : List Value).toArray s 1 6 (lTA G out s.heap.size)) (F0 mm 0 ls []) := by
    intro ls hl
    refine lv_aload_n B.exec B.bytes d0 rfl (lv_at hl 3 rfl) ?_
    refine lv_iconst B.exec B.bytes d1 (v := 0) (by decide) ?_
    refine lv_aload_n B.exec B.bytes d2 rfl (lv_at hl 0 rfl) ?_
    refine lv_iload_n B.exec B.bytes d3 rfl (lv_at hl 1 rfl) ?_
    refine lv_iload_n B.exec B.bytes d4 rfl (lv_at hl 2 rfl) ?_
    have hrun := vx_runV (p := p) (e := e) (R := rm_LT) (below := below) (meth := meth) (As := [.int p0, .int p1]) (rest := [.int 0, .ref out]) (n := 2) (maxL := n2) (nL := 5) (ret := some .int) (bytes := b2) (g := F0 mm 5 ls [.int p1, .int p0, .ref (xad G 0), .int 0, .ref out]) (H := s.heap) (cells := 0) (slots := 0) (locs := []) ⟨B.exec, B.bytes, hml, hown', hts⟩ (C z hz s.heap.size) ⟨⟨hroom.1, hroom.2.1, hroom.2.2.1, hroom.2.2.2, pay_in hts (GT_consW L5), List.mem_cons_self, T' L5, T' L4, ⟨L7, L8⟩, h9, T' L1⟩, T' L2, T' L3⟩ ⟨xPc_blind, va_recv hK hP1 L6 hat, fun U hU hW9 => ⟨rfl, by rw [hU], ⟨by rw [hU]; exact hP1, va_K.moved hW9.alike hK, hD1.weaken (fun _ _ _ _ => trivial)⟩, xNW.warm hW9 hNW, by rw [hU]; exact xSt.to hW9 (fun _ _ _ => rfl) hAin hst⟩⟩ rfl rfl hl.1 rfl (by show 2 * 0 + 2 ≤ 8; decide) d5 ⟨by decide, by decide⟩
    intro T hT X0
    rcases hrun T hT X0 with ⟨v, st₀, t, T1, L9', h0, X', hL, e1, e2, ⟨⟨r, hzr, hv, hW1⟩, hF⟩, stp⟩ | ⟨q, st₀, t, T1, L9', E, ce, h0, X', hL, e1, e2, ⟨⟨hzn, hE, hW1⟩, hF⟩, hce, hcv, hcl, stp⟩
    · cases hv
      subst hzr
      obtain ⟨hz9, hk9⟩ := hF
      rw [h0] at hz9 hk9
      obtain ⟨hPj, hDj⟩ := l_joinL hP hDA hW1.1 (xD_mem (lD_left hDA)) xwd_same (fun a ha h => hk9 a ha (xA_out h ha))
      have hPj' : va_P (xD G) vwCl (lTw G out m f) T1.heap := by rw [e1]; exact hPj
      have hDj' : va_D (lTA G out s.heap.size) (lTw G out m f) := hDj
      have hS1 : va_S (lTA G out s.heap.size) s.heap T1.heap L9' := ⟨by rw [e1]; exact hz9, fun a h1 h2 => by rw [e1]; exact hk9 a h1 (fun z => h2 (Or.inl z)), fun a ha => Or.inl (hL a ha)⟩
      have kk : W p l e rm_LT s mm ([.ref (xad G 0), .int p0, .int p1, .ref out] : List Value).toArray below meth c T1.heap L9' 1 6 (MQ below (lTQ G out m f s.heap.size (some r)) ([.ref (xad G 0), .int p0, .int p1, .ref out] : List Value).toArray s 1 6 (lTA G out s.heap.size)) (F0 mm 8 ls [.int r, .int 0, .ref out]) := by
        refine lv_i2l B.exec B.bytes d8 (v := i_l r) rfl ?_
        refine va_last B.exec B.bytes hK hPj' hDj' hS1 (xN G) 1 lT_at rfl (i := 0) (by unfold vp_in; decide) d9 (fun H1 locs1 hP2 hD2 hS2 => ?_)
        rw [lT_set] at hP2 hD2
        refine lv_goto B.exec B.bytes d10 (tgt := 17) (by decide) ?_
        refine lv_iconst B.exec B.bytes d17 (v := 0) (by decide) ?_
        exact W.iret (Qc := lTQ G out m f s.heap.size (some r)) (v := 0) B.exec B.bytes B.returns (fun t ht hW => ⟨⟨rfl, by rw [ht]; exact hP2, va_K.moved hW.alike hK, hD2.weaken (fun _ _ _ _ => trivial)⟩, hS2.F ht⟩) hS2.2.2 d18 B.notSynchronized
      obtain ⟨t2, b1, b2⟩ := kk T1 rfl X'
      exact ⟨t2, stp t2 b1, b2⟩
    · subst hzn
      subst hE
      obtain ⟨hz9, hk9⟩ := hF
      rw [h0] at hz9 hk9
      obtain ⟨hPj, hDj⟩ := l_joinL hP hDA hW1.1 (xD_mem (lD_left hDA)) xwd_same (fun a ha h => hk9 a ha (xA_out h ha))
      have hPj' : va_P (xD G) vwCl (lTw G out m f) T1.heap := by rw [e1]; exact hPj
      have hDj' : va_D (lTA G out s.heap.size) (lTw G out m f) := hDj
      have hS1 : va_S (lTA G out s.heap.size) s.heap T1.heap L9' := ⟨by rw [e1]; exact hz9, fun a h1 h2 => by rw [e1]; exact hk9 a h1 (fun z => h2 (Or.inl z)), fun a ha => Or.inl (hL a ha)⟩
      have kk : W p l e rm_LT s mm ([.ref (xad G 0), .int p0, .int p1, .ref out] : List Value).toArray below meth c T1.heap L9' 1 6 (MQ below (lTQ G out m f s.heap.size none) ([.ref (xad G 0), .int p0, .int p1, .ref out] : List Value).toArray s 1 6 (lTA G out s.heap.size)) (F0 mm 13 ls [.ref q]) := by
        refine lv_astore B.exec B.bytes d13 hl (by decide) rfl (fun ls' hl' => ?_)
        refine lv_iconst B.exec B.bytes d15 (v := 1) (by decide) ?_
        exact W.iret (Qc := lTQ G out m f s.heap.size none) (v := 1) B.exec B.bytes B.returns (fun t ht hW => ⟨⟨rfl, by rw [ht]; exact hPj', va_K.moved hW.alike hK, hDj'.weaken (fun _ _ _ _ => trivial)⟩, hS1.F ht⟩) hS1.2.2 d16 B.notSynchronized
      have kx : vx_W p l e rm_LT s mm ([.ref (xad G 0), .int p0, .int p1, .ref out] : List Value).toArray below meth c T1.heap L9' 1 6 (MQ below (lTQ G out m f s.heap.size none) ([.ref (xad G 0), .int p0, .int p1, .ref out] : List Value).toArray s 1 6 (lTA G out s.heap.size)) (F0 mm 5 ls [.int 0, .ref out]) q := vx_catch (own := RXL) (name := "java/util/NoSuchElementException") hown' [] ⟨0, 10, 13, 13⟩ [] htab (fun z hz => nomatch hz) (by decide) (by decide) (T' w_5_160) (va_Nw.use rfl (hNW _ nw_5_167)) (by rw [e1]; exact hce) hcv hcl kk
      obtain ⟨t2, b1, b2⟩ := kx T1 rfl X'
      exact ⟨t2, stp.trans b1, b2⟩
  have hl := lv_entry [.ref (xad G 0), .int p0, .int p1, .ref out] (n := 5) (Nat.le_of_ble_eq_true rfl)
  rw [lg_entry_eq]
  exact key _ hl
variable {E : xE} {l0 : Launch} {GC GM : xG} {out : Nat} {mC mM : xMem} {f : Nat → Int64} {own : String} {cc : ByteArray} {yy : MethodName} {n : Nat} {ret : Option FieldType} {R0 : Room} {pc : Nat} {lv : List (Nat × Value)} {st st0 : List Value} {y : MethodName} {b2 : ByteArray} {idx : Nat} {ce0 sl0 mc ms : Nat} {A0 : (Nat → Prop) × (State → Prop)} {res9 : Option Int32}
/-- class and long array, out of the law's world and back -/
theorem lwd_T {D : va_G} {cl : List vw_C} {A : Nat → Prop} {H : Heap} (hP : va_P D cl (lwd GC GM out mC mM f) H) (hD : va_D A (lwd GC GM out mC mM f)) : va_P D cl (lTw GC out mC f) H ∧ va_D A (lTw GC out mC f) :=
  ⟨va_P.app (lP_left hP) (lP_right (lP_right hP)), va_D.app (lD_left hD) (lD_right (lD_right hD)) (fun i j p q hp hq e => lD_apart hD hp (lAt_right hq) e)⟩
theorem lwd_TB {D : va_G} {cl : List vw_C} {A : Nat → Prop} {H H1 : Heap} {mC' : xMem} {f' : Nat → Int64} (hP : va_P D cl (lwd GC GM out mC mM f) H) (hD : va_D A (lwd GC GM out mC mM f)) (hP1 : va_P D cl (lTw GC out mC' f') H1) (hk : ∀ a : Nat, a < H.size → ¬ lTA GC out H.size a → H1[a]? = H[a]?) : va_P D cl (lwd GC GM out mC' mM f') H1 ∧ va_D A (lwd GC GM out mC' mM f') := by
  have hDC := lD_left hD
  have hDM := lD_left (lD_right hD)
  have hDO := lD_right (lD_right hD)
  have hout : (xwd GM mM ++ [(out, (.inl (xcA GC 1, 1, .inr (.inl f)) : va_E))])[(xwd GM mM).length + 0]? = some (out, .inl (xcA GC 1, 1, .inr (.inl f))) := lAt_right rfl
  have hPM : va_P D cl (xwd GM mM) H1 := fun k q hq => (lP_left (lP_right hP) k q hq).kept (hk q.1 (lP_left (lP_right hP) k q hq).lt (fun h => by
    rcases h with h | h
    · exact xA_out (m := mC) (fun k2 q2 h2 e => lD_apart hD h2 (lAt_left hq) e) (lP_left (lP_right hP) k q hq).lt h
    · exact lD_apart (lD_right hD) hq (j := 0) rfl h))
  have ho2 : ∀ {j : Nat} {q : Nat × va_E}, ([(out, (.inl (xcA GC 1, 1, .inr (.inl f')) : va_E))] : va_W)[j]? = some q → q.1 = out := fun {j} {q} hj => by
    have h0 : j < 1 := (List.getElem?_eq_some_iff.mp hj).1
    rw [show j = 0 by omega] at hj
    have hx : (out, (.inl (xcA GC 1, 1, .inr (.inl f')) : va_E)) = q := by simpa using hj
    rw [← hx]
  have hDO' : va_D A [(out, (.inl (xcA GC 1, 1, .inr (.inl f')) : va_E))] := ⟨fun i j p q hi hj e => by
    have h1 : i < 1 := (List.getElem?_eq_some_iff.mp hi).1
    have h2 : j < 1 := (List.getElem?_eq_some_iff.mp hj).1
    omega, fun k q hq => by rw [ho2 hq]; exact hDO.2 0 _ rfl⟩
  refine ⟨va_P.app (lP_left hP1) (va_P.app hPM (lP_right hP1)), va_D.app (xD_mem hDC) (va_D.app hDM hDO' (fun i j p q hp hq e => ?_)) (fun i j p q hp hq e => ?_)⟩
  · rw [ho2 hq] at e
    exact lD_apart (lD_right hD) hp (j := 0) rfl e
  · obtain ⟨k0, p0, h0, e0⟩ := xwd_same (m := mC) i p hp
    by_cases hx : j < (xwd GM mM).length
    · rw [List.getElem?_append_left hx] at hq
      exact lD_apart hD h0 (lAt_left hq) (e0.trans e)
    · rw [List.getElem?_append_right (by omega)] at hq
      rw [ho2 hq] at e
      exact lD_apart hD h0 hout (e0.trans e)
theorem l_callT {p0 p1 : Int32} {o : Option Int32} (g : xGood E l0 GC.1 own cc yy n ret R0) (cn : xCntL E ce0 sl0 A0) (C : lTCt l0 GC y b2 mC p0 p1 (some o)) (d : decode cc pc = .ok (.invokestatic idx, 3)) (L : xMSW own idx y b2) (hcat : (st.map fun v => v.category).sum ≤ 8) (hroom : rm_LT.frames + 1 ≤ R0.frames ∧ 8 + (5 + 11) + rm_LT.locals ≤ R0.locals ∧ ce0 + 1 ≤ R0.cells ∧ sl0 + 6 ≤ R0.slots)
    (kk : ∀ E' : xE, xGood E' l0 GC.1 own cc yy n ret R0 → xCntL E' (ce0 + 1) (sl0 + 6) A0 → Xg E' (lFin E' mc ms) (pc + 3) lv (.int (lTr o) :: st) (lwd GC GM out mC mM (lTf f o)) res9) : Xg E (lFin E mc ms) pc lv (.ref out :: .int p1 :: .int p0 :: .ref (xad GC 0) :: st) (lwd GC GM out mC mM f) res9 := by
  obtain ⟨p, l, e, R, s, mm, args, below, meth, c, nL, ce, sl, A, S⟩ := E
  intro z hz H locs ls hl hP hD hS
  have g1 := g
  obtain ⟨hx, hb, hml, hnl, hown, hts, hNW, hr, hlk, hR, hK, hSS, hll, hAA, hce, hst⟩ := g
  subst hSS
  obtain ⟨rfl, rfl, hO, hA0⟩ := cn
  subst hR
  subst hll
  obtain ⟨L1, L2, L3, L4, L7, L8, L9⟩ := L
  obtain ⟨hPT, hDT⟩ := lwd_T hP hD
  have T' : ∀ {w : Cond}, w ∈ GT → w.before args s = true := fun h => hts _ (List.mem_cons_of_mem _ h)
  have hAin : ∀ q, lTA GC out H.size q → A q := fun q h => by
    rcases h with h | h
    · exact xA_in (H := H) (lD_left hD) hAA hS.1 q h
    · rw [h]; exact (lD_right (lD_right hD)).2 0 _ rfl
  have h9 : ∀ sig, parseMethodDescriptor y.desc = some sig → 4 = sig.parameters.length := fun sig h => by
    rw [h] at L9
    exact (Option.some.inj L9).symm
  have hrun : va_Run p l e R s mm args below meth c H locs ce sl 1 6 (F0 mm pc ls (.ref out :: .int p1 :: .int p0 :: .ref (xad GC 0) :: st)) st (lTQ GC out mC f H.size o ([.ref (xad GC 0), .int p0, .int p1, .ref out] : List Value).toArray) (lTA GC out H.size) := vx_runSW (As := [.ref (xad GC 0), .int p0, .int p1, .ref out]) (rest := st) (n := 4) (maxL := 5) (ret := some .int) (bytes := b2) (hh := lTt) ⟨hx, hb, hml, hown, hts⟩ (C o rfl out f H.size) ⟨⟨rfl, rfl, hroom.1, hroom.2.1, pay_in hts (GT_consV L4), List.mem_cons_self⟩, T' L4, T' L3, ⟨L7, L8⟩, h9, T' L1, T' L2⟩ ⟨lTP_blind, fun U hU hW => ⟨rfl, by rw [hU], ⟨by rw [hU]; exact hPT, va_K.moved hW.alike hK, hDT.weaken (fun _ _ _ _ => trivial)⟩, xNW.warm hW hNW, by rw [hU]; exact xSt.to hW hS.2.1 hAin hst⟩⟩ rfl rfl (by rw [← hnl]; exact hl.1) rfl (lv_room hcat) d ⟨hroom.2.2.1, hroom.2.2.2⟩
  intro T9 hT9 X9
  obtain ⟨v, st₀, t, T1, L, h0, X', hL, e1, e2, ⟨⟨hv, hW1⟩, hz9, hk9⟩, stp⟩ := hrun T9 hT9 X9
  cases hv
  rw [h0] at hz9 hk9
  obtain ⟨hPj, hDj⟩ := lwd_TB hP hD hW1.1 hk9
  obtain ⟨a1, a2, a3, a4, a5, a6, a7, a8, a9, a10, a11, a12, a13, a14, a15, a16⟩ := g1
  obtain ⟨t2, b1, b2⟩ := kk (p, l, e, R, s, mm, args, below, meth, c, nL, ce + 1, sl + 6, A, GC.1) ⟨a1, a2, a3, a4, a5, a6, a7, a8, a9, rfl, a11, rfl, rfl, a14, ⟨hroom.2.2.1, hroom.2.2.2⟩, a16⟩ ⟨rfl, rfl, hO, hA0⟩ z hz T1.heap (locs ++ L) ls hl (by rw [e1]; exact hPj) hDj
    ⟨Nat.le_trans hS.1 (by rw [e1]; exact hz9), fun a h1 h2 => by rw [e1, hk9 a (Nat.lt_of_lt_of_le h1 hS.1) (fun z => h2 (hAin a z))]; exact hS.2.1 a h1 h2, fun a ha => by
      rcases List.mem_append.mp ha with h | h
      · exact hS.2.2 a h
      · exact hAin _ (hL a h)⟩ T1 rfl X'
  exact ⟨t2, stp t2 b1, b2⟩
end LT
theorem c_L_bed (l : Launch) (hl9 : l.stackTraces = false) (G : xG) (hW : WC G) (m : xMem) (p0 p1 : Int32) : lTCt l G yL_bed cL_bed m p0 p1 (O_bed m p0 p1) :=
  l_try hW (by decide) rfl (c_O_bed l hl9 G hW m p0 p1) ml_L_7 (sOwlsLent isOwlsLent_0) ⟨rfl, rfl, Nat.le_of_ble_eq_true rfl, Nat.le_of_ble_eq_true rfl⟩ dL_bed_0 dL_bed_1 dL_bed_2 dL_bed_3 dL_bed_4 dL_bed_5 dL_bed_8 dL_bed_9 dL_bed_10 dL_bed_13 dL_bed_15 dL_bed_16 dL_bed_17 dL_bed_18
theorem c_L_owl (l : Launch) (hl9 : l.stackTraces = false) (G : xG) (hW : WC G) (m : xMem) (p0 p1 : Int32) : lTCt l G yL_owl cL_owl m p0 p1 (O_owl m p0 p1) :=
  l_try hW (by decide) rfl (c_O_owl l hl9 G hW m p0 p1) ml_L_15 (sOwlsLent isOwlsLent_0) ⟨rfl, rfl, Nat.le_of_ble_eq_true rfl, Nat.le_of_ble_eq_true rfl⟩ dL_owl_0 dL_owl_1 dL_owl_2 dL_owl_3 dL_owl_4 dL_owl_5 dL_owl_8 dL_owl_9 dL_owl_10 dL_owl_13 dL_owl_15 dL_owl_16 dL_owl_17 dL_owl_18
theorem c_L_loud (l : Launch) (hl9 : l.stackTraces = false) (G : xG) (hW : WC G) (m : xMem) (p0 p1 : Int32) : lTCt l G yL_loud cL_loud m p0 p1 (O_loud m p0 p1) :=
  l_try hW (by decide) rfl (c_O_loud l hl9 G hW m p0 p1) ml_L_18 (sOwlsLent isOwlsLent_0) ⟨rfl, rfl, Nat.le_of_ble_eq_true rfl, Nat.le_of_ble_eq_true rfl⟩ dL_loud_0 dL_loud_1 dL_loud_2 dL_loud_3 dL_loud_4 dL_loud_5 dL_loud_8 dL_loud_9 dL_loud_10 dL_loud_13 dL_loud_15 dL_loud_16 dL_loud_17 dL_loud_18
