theorem w_1_23 : (Jvm.Cond.initialized "java/util/NoSuchElementException") ∈ GT := GT_in (tlw (tin_1 (List.mem_of_getElem? (i := 23) rfl))) rfl
theorem w_5_165 : (Jvm.Cond.classLink "OwlsLent" (154 : Nat) "java/util/NoSuchElementException") ∈ GT := GT_in (tlw (tin_5 (List.mem_of_getElem? (i := 165) rfl))) rfl
theorem nw_1_224 : (Jvm.Cond.fieldLinkNest "OwlsLent" (161 : Nat) "OwlsLent$House" "bedRow" "[[I" "OwlsLent") ∈ NT := List.mem_filter.mpr ⟨tin_1 (List.mem_of_getElem? (i := 224) rfl), rfl⟩
theorem nw_1_228 : (Jvm.Cond.fieldLinkNest "OwlsLent" (183 : Nat) "OwlsLent$House" "owlRow" "[[I" "OwlsLent") ∈ NT := List.mem_filter.mpr ⟨tin_1 (List.mem_of_getElem? (i := 228) rfl), rfl⟩
theorem fl_11_161 : xFL RX11 161 2 12 := ⟨RX2, TX2, 15, rfl, by decide, uw_2, rfl, Or.inr ⟨_, nw_1_224⟩⟩
theorem fl_11_183 : xFL RX11 183 2 13 := ⟨RX2, TX2, 15, rfl, by decide, uw_2, rfl, Or.inr ⟨_, nw_1_228⟩⟩

/-! throw new NoSuchElementException(text): its constructor passes on by place 13 of its pool -/
section NTHROW
abbrev nX : String := "java/util/NoSuchElementException"
def nB : ByteArray := ⟨#[0x2a, 0x2b, 0xb7, 0x00, 0x0d, 0xb1]⟩
theorem nB_0 : decode nB 0 = .ok (.aload_n 0, 1) := by decide +kernel
theorem nB_1 : decode nB 1 = .ok (.aload_n 1, 1) := by decide +kernel
theorem nB_2 : decode nB 2 = .ok (.invokespecial 13, 3) := by decide +kernel
theorem nB_5 : decode nB 5 = .ok (.return_, 1) := by decide +kernel
def nAt (own : String) (ic : Nat) : List Cond :=
  (Bundle.throwableAtoms ++ Bundle.throwableSAtoms) ++ ((Bundle.passSAtoms nX "java/lang/RuntimeException" 13 nB ++ Bundle.chainSAtoms "java/lang/RuntimeException" ["java/lang/Exception"]) ++
  [.methodLink own ic (Bundle.initS nX), .instantiable nX 6, .castable nX nX, .selects nX Bundle.tFill0 Bundle.tFill0, .selects nX Bundle.tFill Bundle.tFill,
   .lays nX Bundle.tN "cause" "Ljava/lang/Throwable;", .lays nX Bundle.tN "stackTrace" Bundle.steD, .lays nX Bundle.tN "suppressedExceptions" Bundle.listD, .lays nX Bundle.tN "detailMessage" "Ljava/lang/String;", .lays nX Bundle.tN "backtrace" "Ljava/lang/Object;",
   .isRef (.static Bundle.tN "UNASSIGNED_STACK" Bundle.steD), .isRef (.static Bundle.tN "SUPPRESSED_SENTINEL" Bundle.listD), .fieldLink Bundle.tN 198 Bundle.tN "backtrace" "Ljava/lang/Object;", .lays Bundle.tN Bundle.tN "backtrace" "Ljava/lang/Object;"])
def nAtS (own : String) (ic : Nat) : List Cond := (nAt own ic).filter vx_no
variable {p : Program} {l : Launch} {e : Env} {R : Room} {s : State} {m : MethodId} {args : Array Value} {below : List Frame} {meth : Method} {c : Code} {V0 : State} {H : Heap} {locs : List Loc} {cells slots : Nat} {ls : Array Slot} {rest : List Value} {Qc : Array Value → State → Outcome → State → Prop} {XC : String → State → State → Prop} {free : Addr → Prop}
set_option maxHeartbeats 1000000 in
theorem n_ctor (X : Stand p l e R s m args below meth c V0 locs cells slots) (hexec : p.tables.exec = Jvm.exec) (htr : e.platform.stackTraces = false) {own : String} {ic : Nat}
    (hown : s.vm.findClass own = some m.cls) (h : ∀ a ∈ nAt own ic, a.before args s = true)
    (hlocs : ∀ x ∈ locs, ∀ cell, s.heap[x.base]? = some cell → cell.vm.isStatics = false)
    {a : Addr} {cX : ClassId} {kX : Class} (hfX : s.vm.findClass nX = some cX) (hkX : s.vm.classes[cX]? = some kX) (hcell : V0.heap[a]? = some (freshCell cX kX)) (hnew : s.heap.size ≤ a)
    {msg : Value} (hmsg : msg.isRef = true) {g : JFrame} (hg : g.method = m) (hsize : g.locals.size = c.maxLocals) (hlocked : g.locked = none) (hentered : g.entered = []) {rest : List Value} (hstack : g.stack = msg :: .ref a :: .ref a :: rest)
    (hd6 : decode c.code g.pc = .ok (.invokespecial ic, 3)) (hd9 : decode c.code (g.pc + 3) = .ok (.athrow, 1)) (hout : ∀ x ∈ c.exceptionTable.toList, covers x (g.pc + 3) = false)
    (hRf : 5 < R.frames) (hRl : 2 * g.monitorRoom + ((Value.ref a :: rest).map fun v => v.category).sum + 81 ≤ R.locals) (hlocks : meth.locks = false) :
    ∃ U : State, Steps p.tables e below (V0.setTop g) U ∧ U.status = .running ∧ Ended U below (.threw a) ∧ s.WarmedH U.vm ∧ s.sameButNew ({ U with vm := s.vm } : State) locs cells slots ∧
      ∃ ce, U.heap[a]? = some ce ∧ s.vm.findClass nX = some ce.cls ∧ ce.vm = .none := by
  have hpl : e.platform.magicAccessors = ({} : Platform).magicAccessors := by rw [X.admits.platform]
  have hm : ∀ w, w ∈ nAt own ic → w.holds args s none s [] = true := fun w hw => h w hw
  obtain ⟨T, Z0, L, -, Y⟩ := ThrowableC.of_atoms (args := args) (by rw [X.admits.platform]) (by rw [X.admits.platform]) hpl (fun w hw => h w (by simp [nAt, hw]))
  obtain ⟨Z, M, LZ, LM, hnZ⟩ := Init0T.ofS_atoms (args := args) hpl L Y (fun w hw => h w (by simp [nAt, hw]))
  obtain ⟨P1, L1, hP1, hs1⟩ := PassC.ofS_atoms (args := args) (s := s) hpl (X := nX) (Y := "java/lang/RuntimeException") (by decide) (by decide) nB_0 nB_1 nB_2 nB_5 (fun w hw => h w (by simp [nAt, hw]))
  obtain ⟨P2, Ps, hlen, L2, hL, hP2, hup, hpass⟩ := Bundle.chainS (args := args) hpl hnZ ["java/lang/Exception"] "java/lang/RuntimeException" (by decide) (by decide) (fun w hw => h w (by simp [nAt, hw]))
  have hfound : s.vm.findClass nX = some P1.m.cls := findClass_of_methodNamed hP1
  cases Option.some.inj (hfX.symm.trans hfound)
  obtain ⟨c1, kX', hc1, hk, hord, -, -, hn6⟩ := Cond.instantiable_spec (hm (.instantiable nX 6) (by simp [nAt]))
  cases Option.some.inj (hc1.symm.trans hfound)
  cases Option.some.inj (hkX.symm.trans hk)
  have sel : ∀ (q : MethodName) (mq : MethodId), Cond.selects nX q q ∈ nAt own ic → s.methodFound? q.cls q.name q.desc = some mq → s.methodNamed? q = some mq → selectMethod e.platform s.vm P1.m.cls mq = .method mq := by
    intro q mq hq h1 h2
    obtain ⟨c2, r2, m2, q1, q2, q3, q4, -⟩ := Cond.selects_spec (hm _ hq)
    cases Option.some.inj (q1.symm.trans hfound)
    cases Option.some.inj (q2.symm.trans h1)
    cases Option.some.inj (q3.symm.trans h2)
    rw [Launch.admits_selectMethod X.admits]; exact q4
  have hsel0 := sel Bundle.tFill0 T.fill0 (by simp [nAt]) (State.methodFound?_of_named Y.fill0 (by decide)) Y.fill0
  have hselF := sel Bundle.tFill T.fill (by simp [nAt]) (State.methodFound?_of_named Y.fill (by decide)) Y.fill
  obtain ⟨cS0, hcS0, hiss⟩ := Y.statics
  obtain ⟨u0, hu0⟩ := Cond.staticRefV Y.unassigned L.unassignedStatic L.statics hcS0 hiss (hm (.isRef (.static Bundle.tN "UNASSIGNED_STACK" Bundle.steD)) (by simp [nAt]))
  obtain ⟨sen, hsen⟩ := Cond.staticRefV Y.sentinel L.sentinelStatic L.statics hcS0 hiss (hm (.isRef (.static Bundle.tN "SUPPRESSED_SENTINEL" Bundle.listD)) (by simp [nAt]))
  obtain ⟨ciB, iB, fB, hkB, hgB, haB, hsB, -, hnB, htB, hffB⟩ := Cond.ownField (t := .object "java/lang/Object") Y.found L.cls (by decide +kernel) (hm (.fieldLink Bundle.tN 198 Bundle.tN "backtrace" "Ljava/lang/Object;") (by simp [nAt])) (hm (.lays Bundle.tN Bundle.tN "backtrace" "Ljava/lang/Object;") (by simp [nAt])) e.platform hpl
  obtain ⟨cS, hcS, heS, -, hkeep⟩ := X.same.2.2.2.2.2 T.aS cS0 hcS0
  have hfree : ∀ i, (⟨T.aS, i⟩ : Loc) ∉ locs := fun i hi => by
    have := hlocs _ hi cS0 hcS0
    rw [hiss] at this; cases this
  have hknow : cS.vm ≠ .unknown := by
    rw [heS]; intro hu
    rw [show cS0.vm = .unknown from hu] at hiss
    cases hiss
  have hne : T.aS ≠ a := Nat.ne_of_lt (Nat.lt_of_lt_of_le (Array.getElem?_eq_some_iff.mp hcS0).1 hnew)
  obtain ⟨iM, hffM⟩ := Y.msg
  obtain ⟨tyC, dC, hdC, hdnC⟩ := Cond.laysAt hfound hk Y.cause (hm (.lays nX Bundle.tN "cause" "Ljava/lang/Throwable;") (by simp [nAt]))
  obtain ⟨tyS, dS, hdS, hdnS⟩ := Cond.laysAt hfound hk Y.stack (hm (.lays nX Bundle.tN "stackTrace" Bundle.steD) (by simp [nAt]))
  obtain ⟨tyP, dP, hdP, hdnP⟩ := Cond.laysAt hfound hk Y.supp (hm (.lays nX Bundle.tN "suppressedExceptions" Bundle.listD) (by simp [nAt]))
  obtain ⟨tyM, dM, hdM, hdnM⟩ := Cond.laysAt hfound hk hffM (hm (.lays nX Bundle.tN "detailMessage" "Ljava/lang/String;") (by simp [nAt]))
  obtain ⟨tyB, dB, hdB, hdnB⟩ := Cond.laysAt hfound hk hffB (hm (.lays nX Bundle.tN "backtrace" "Ljava/lang/Object;") (by simp [nAt]))
  have bC := Cond.laysApart hdB hdC hdnB hdnC (by rw [hnB, Y.causeName]; decide)
  have bS := Cond.laysApart hdB hdS hdnB hdnS (by rw [hnB, Y.stackName]; decide)
  have bP := Cond.laysApart hdB hdP hdnB hdnP (by rw [hnB, Y.suppName]; decide)
  have hskip : SkipFacts T e.platform s (fun u => u) u0 ((preparedCellV T.toThrowableT (freshCell P1.m.cls kX) a u0 sen).withEntry V0.cur) :=
    ⟨{ ci198 := ciB, i198 := iB, fBack := fB }, ⟨hkB, hgB, haB, hsB⟩, by
      have := fresh_default (c := P1.m.cls) tyB
      rw [htB] at this
      simpa [preparedCellV, Cell.setSlot, Cell.withEntry, Array.getElem?_setIfInBounds, bC, bS, bP, bC.symm, bS.symm, bP.symm, defaultValue] using this, fun _ _ => rfl⟩
  obtain ⟨tm, methC, cdC, kC, vm₁, hnC, -, -, -, -, -, -, -, hW₁, st1⟩ := Steps.initColdS (tb := p.tables) (e := e) (below := below) (s := s) (U := V0) X.here hexec X.warmed hpl hown (t := Bundle.initS nX) rfl rfl (by decide)
    (hm (.methodLink own ic (Bundle.initS nX)) (by simp [nAt])) (h (.instanceMethod (Bundle.initS nX)) (by simp [nAt, Bundle.passSAtoms])) (bytes := nB) (maxL := 2) (h (.code (Bundle.initS nX) nB 2 none) (by simp [nAt, Bundle.passSAtoms]))
    (f := g) hg (a := a) (msg := msg) (rest := .ref a :: rest) hstack hd6
  cases Option.some.inj (hnC.symm.trans hP1)
  have X₁ := X.noted hW₁
  obtain ⟨vm₂, X₂, st2⟩ := X₁.ctorMessageOffV hexec (g := { g with stack := .ref a :: rest }) hg hsize T L Z LZ M LM (P1 :: P2 :: Ps)
    (fun P hP => by
      rcases List.mem_cons.mp hP with rfl | hP
      · exact L1
      · rcases List.mem_cons.mp hP with rfl | hP
        · exact L2
        · exact hL P hP) ⟨Option.some.inj (hs1.symm.trans hP2), hup, hpass⟩ (u0 := u0) (sen := sen) (self := a) hmsg (cell := freshCell P1.m.cls kX) (cellS := cS)
    hcell (fun _ => by simp) (by simp) rfl rfl hsel0 hselF hcS hne hknow (by rw [hkeep _ (hfree _)]; exact hu0) (by rw [hkeep _ (hfree _)]; exact hsen)
    (Takes.of_laid hk hord tyC (by rw [Y.causeType]; rfl)) (Takes.of_laid hk hord tyS (by rw [Y.stackType]; exact fits_refV_array _ u0)) (Takes.of_laid hk hord tyP (by rw [Y.suppType]; exact fits_refV_object _ sen))
    (Takes.of_laid hk hord tyM (by rw [Y.msgType]; exact fits_refV_object _ ⟨msg, hmsg⟩)) Y.objLocals hskip htr [] hd6
    (by simp only [List.length_cons, hlen, List.length_nil]; omega) (by simp only [List.length_cons, hlen, List.length_nil]; exact hRl)
  obtain ⟨hwalk, hrun, hended, hWU, hsame⟩ := X₂.athrowLeaves hexec (g := { g with stack := .ref a :: rest, pc := g.pc + 3 }) hg hlocked hentered hout (a := a) (rest := rest) rfl hd9
  have hlt : a < ((V0.setVm vm₁).setVm vm₂).heap.size := (Array.getElem?_eq_some_iff.mp hcell).1
  have hU := heapAt_setCell_self (s := (V0.setVm vm₁).setVm vm₂) (plainBareV T.toThrowableT (freshCell P1.m.cls kX) a u0 sen msg) hlt
  refine ⟨_, st1 _ (fun acts => ?_), hrun, hended, hWU, hsame.weaken (fun y hy hlt' => ?_) (Nat.le_refl _) (Nat.le_refl _), _, hU, hfound, rfl⟩
  · rw [doInvoke_state]
    exact st2 _ hwalk
  · rcases List.mem_append.mp hy with h1 | h1
    · exact h1
    · exfalso
      have hb : y.base = a := by
        simp only [List.mem_cons, List.not_mem_nil, or_false] at h1
        rcases h1 with rfl | rfl | rfl | rfl | rfl <;> rfl
      rw [hb] at hlt'
      exact Nat.not_lt.mpr hnew hlt'
theorem n_throwS {cc : ByteArray} {pc : Nat} (hexec : p.tables.exec = Jvm.exec) (hb : c.code = cc) (hl : l.stackTraces = false) {own text : String} {ik is ic mc ms sa : Nat} {A : Nat → Prop}
    (hown : s.vm.findClass own = some m.cls) 
    (hk : (Cond.classLink own ik nX).before args s = true) (hini : (Cond.initialized nX).before args s = true) (hstr : vk_R own is text sa s) (hat : ∀ w ∈ nAtS own ic, w.before args s = true)
    (hgood : ∀ w ∈ Cond.classLink own ik nX :: Cond.initialized nX :: nAtS own ic, vx_ot w = true)
    (hU : vx_Zq Bundle.tN "UNASSIGNED_STACK" Bundle.steD A s s.heap) (hN : vx_Zq Bundle.tN "SUPPRESSED_SENTINEL" Bundle.listD A s s.heap) (hS : va_S A s.heap H locs) (hsize : ls.size = c.maxLocals)
    (d0 : decode cc pc = .ok (.new ik, 3)) (d3 : decode cc (pc + 3) = .ok (.dup, 1)) (d4 : decode cc (pc + 4) = .ok (.ldc is, 2)) (d6 : decode cc (pc + 6) = .ok (.invokespecial ic, 3)) (d9 : decode cc (pc + 9) = .ok (.athrow, 1))
    (hout : ∀ x ∈ c.exceptionTable.toList, covers x (pc + 9) = false)
    (hRframes : 5 < R.frames) (hRlocals : (rest.map fun v => v.category).sum + 82 ≤ R.locals) (hRcells : cells + 1 ≤ R.cells) (hRslots : slots + 6 ≤ R.slots) (hlocks : meth.locks = false)
    (hx : ∀ t : State, s.vm.Alike t.vm → H.size ≤ t.heap.size → (∀ q : Nat, q < H.size → t.heap[q]? = H[q]?) → XC nX s t)
    (hf : ∀ z ∈ locs, free z.base) (hc : cells + 1 ≤ mc) (hs : slots + 6 ≤ ms) :
    W p l e R s m args below meth c H locs cells slots (vx_MQ below Qc XC args s mc ms free) (F0 m pc ls rest) := by
  intro T hT X
  have htr : e.platform.stackTraces = false := (show e.platform.stackTraces = l.stackTraces by rw [X.admits.platform]).trans hl
  have Y := vx_rebase X (R' := { frames := R.frames, locals := R.locals, cells := 1, slots := 6 }) (Nat.le_refl _) (Nat.le_refl _) hRcells hRslots
  obtain ⟨s', hA⟩ : ∃ z, z = (T.setVm s.vm).setFrames (.invoking m args :: below) := ⟨_, rfl⟩
  rw [← hA] at Y
  have hvm : s'.vm = s.vm := by rw [hA]; rfl
  have hhp : s'.heap = H := by rw [hA]; exact hT
  have hW0 : s.WarmedH s'.vm := by rw [hvm]; exact State.WarmedH.refl s
  have hat' : ∀ w ∈ nAtS own ic, w.before args s' = true := fun w hw => vx_ot_at hW0 hvm.symm (hgood w (List.mem_cons_of_mem _ (List.mem_cons_of_mem _ hw))) (hat w hw)
  have hk' : (Cond.classLink own ik nX).before args s' = true := vx_ot_at hW0 hvm.symm (hgood _ List.mem_cons_self) hk
  have hini' : (Cond.initialized nX).before args s' = true := vx_ot_at hW0 hvm.symm (hgood _ (List.mem_cons_of_mem _ List.mem_cons_self)) hini
  have hU' : vx_Zq Bundle.tN "UNASSIGNED_STACK" Bundle.steD A s' s'.heap := by rw [hhp]; exact vx_Zq.moved hW0.alike (hU.kept hS.2.1)
  have hN' : vx_Zq Bundle.tN "SUPPRESSED_SENTINEL" Bundle.listD A s' s'.heap := by rw [hhp]; exact vx_Zq.moved hW0.alike (hN.kept hS.2.1)
  have h : ∀ w ∈ nAt own ic, w.before args s' = true := vx_own hat' (vx_isRefq hU'.1) (vx_isRefq hN'.1) hU'.2.word hN'.2.word
  have hown' : s'.vm.findClass own = some m.cls := by rw [hvm]; exact hown
  have hins : (Cond.instantiable nX 6).before args s' = true := h _ (by simp [nAt])
  obtain ⟨vm₁, cX, kX, hfX, hkX, -, -, X₁, st1⟩ := Y.newCold hexec (own := own) (C := nX) (index := ik) (n := 6) hown' hk' hins hini'
    (g := F0 m pc ls rest) rfl (by rw [hb]; exact d0) (Nat.le_refl _) (Nat.le_refl _)
  generalize hT1 : (T.setVm vm₁).pushCell { cls := cX, slots := kX.instanceTypes.map defaultValue, vm := .none } = T1 at X₁ st1
  have hcat : (Value.ref T.heap.size).category = 1 := rfl
  have hcellA : T1.heap[T.heap.size]? = some (freshCell cX kX) := by rw [← hT1]; exact State.heap_pushCell_size _ _
  have d3' : decode c.code (pc + 3) = .ok (.dup, 1) := by rw [hb]; exact d3
  have d4' : decode c.code (pc + 4) = .ok (.ldc is, 2) := by rw [hb]; exact d4
  have hstr' : vk_R own is text sa s' := vk_R.warm hW0 hstr
  obtain ⟨U, hsteps, hrun, hend, hW, hsame, ce, hce, hO⟩ := n_ctor X₁ hexec htr (own := own) (ic := ic) hown' h (fun x hx => nomatch hx) hfX hkX hcellA (by rw [hhp, hT]; exact Nat.le_refl _) (msg := .ref sa) rfl
    (g := { method := m, pc := pc + 6, locals := ls, stack := .ref sa :: .ref T.heap.size :: .ref T.heap.size :: rest, locked := none }) rfl hsize rfl rfl (rest := rest) rfl
    (by rw [hb]; exact d6) (by rw [hb]; exact d9) hout hRframes (by simp only [List.map_cons, List.sum_cons, hcat]; omega) hlocks
  obtain ⟨f1, f2⟩ := vx_frame hsame
  rw [hhp] at f1 f2
  have hWs : s.WarmedH U.vm := State.WarmedH.trans hW0 hW
  have hcl : s.vm.findClass nX = some ce.cls := by
    have h9 := hO.1
    rw [hvm] at h9
    exact h9
  have hall : s.sameButNew ({ U with vm := s.vm } : State) locs mc ms := by
    subst hA
    obtain ⟨e1, e2⟩ := hsame
    rw [State.setFrames_setFrames] at e1
    have h2 : (T.setVm s.vm).sameButNew ({ U with vm := s.vm } : State) [] (0 + 1) (0 + 6) := ⟨e1, e2⟩
    have h3 := X.same.trans h2
    rw [List.append_nil] at h3
    exact h3.mono hc hs
  refine ⟨U, ?_, .threw T.heap.size, hrun, hend, Or.inr ⟨T.heap.size, rfl, nX, ce, locs, hx U hWs.alike f1 (fun q hq => f2 q hq (fun z hz => nomatch hz)), hce, hO.2, hcl, hWs, hall, hf⟩⟩
  refine st1 _ ?_
  show Steps p.tables e below (T1.setTop { method := m, pc := pc + 3, locals := ls, stack := .ref T.heap.size :: rest, locked := none }) _
  jvm_step X₁.here [X₁.here.top, hexec, d3', Value.category]
  exact X₁.ldcString hexec (own := own) (text := text) (index := is) (a := sa) hown' hstr'.1 hstr'.2
    (g := { method := m, pc := pc + 4, locals := ls, stack := .ref T.heap.size :: .ref T.heap.size :: rest, locked := none }) rfl d4' _ hsteps
theorem n_throwSW {cc : ByteArray} {pc : Nat} (hexec : p.tables.exec = Jvm.exec) (hb : c.code = cc) (hl : l.stackTraces = false) {own text : String} {ik is ic mc ms sa : Nat} {A : Nat → Prop}
    (hown : s.vm.findClass own = some m.cls) 
    (hk : (Cond.classLink own ik nX).before args s = true) (hini : (Cond.initialized nX).before args s = true) (hstr : vk_R own is text sa s) (hat : ∀ w ∈ nAtS own ic, w.before args s = true)
    (hgood : ∀ w ∈ Cond.classLink own ik nX :: Cond.initialized nX :: nAtS own ic, vx_ot w = true)
    (hU : vx_Zq Bundle.tN "UNASSIGNED_STACK" Bundle.steD A s s.heap) (hN : vx_Zq Bundle.tN "SUPPRESSED_SENTINEL" Bundle.listD A s s.heap) (hS : va_S A s.heap H locs) (hsize : ls.size = c.maxLocals)
    (d0 : decode cc pc = .ok (.new ik, 3)) (d3 : decode cc (pc + 3) = .ok (.dup, 1)) (d4 : decode cc (pc + 4) = .ok (.ldc_w is, 3)) (d7 : decode cc (pc + 7) = .ok (.invokespecial ic, 3)) (d10 : decode cc (pc + 10) = .ok (.athrow, 1))
    (hout : ∀ x ∈ c.exceptionTable.toList, covers x (pc + 10) = false)
    (hRframes : 5 < R.frames) (hRlocals : (rest.map fun v => v.category).sum + 82 ≤ R.locals) (hRcells : cells + 1 ≤ R.cells) (hRslots : slots + 6 ≤ R.slots) (hlocks : meth.locks = false)
    (hx : ∀ t : State, s.vm.Alike t.vm → H.size ≤ t.heap.size → (∀ q : Nat, q < H.size → t.heap[q]? = H[q]?) → XC nX s t)
    (hf : ∀ z ∈ locs, free z.base) (hc : cells + 1 ≤ mc) (hs : slots + 6 ≤ ms) :
    W p l e R s m args below meth c H locs cells slots (vx_MQ below Qc XC args s mc ms free) (F0 m pc ls rest) := by
  intro T hT X
  have htr : e.platform.stackTraces = false := (show e.platform.stackTraces = l.stackTraces by rw [X.admits.platform]).trans hl
  have Y := vx_rebase X (R' := { frames := R.frames, locals := R.locals, cells := 1, slots := 6 }) (Nat.le_refl _) (Nat.le_refl _) hRcells hRslots
  obtain ⟨s', hA⟩ : ∃ z, z = (T.setVm s.vm).setFrames (.invoking m args :: below) := ⟨_, rfl⟩
  rw [← hA] at Y
  have hvm : s'.vm = s.vm := by rw [hA]; rfl
  have hhp : s'.heap = H := by rw [hA]; exact hT
  have hW0 : s.WarmedH s'.vm := by rw [hvm]; exact State.WarmedH.refl s
  have hat' : ∀ w ∈ nAtS own ic, w.before args s' = true := fun w hw => vx_ot_at hW0 hvm.symm (hgood w (List.mem_cons_of_mem _ (List.mem_cons_of_mem _ hw))) (hat w hw)
  have hk' : (Cond.classLink own ik nX).before args s' = true := vx_ot_at hW0 hvm.symm (hgood _ List.mem_cons_self) hk
  have hini' : (Cond.initialized nX).before args s' = true := vx_ot_at hW0 hvm.symm (hgood _ (List.mem_cons_of_mem _ List.mem_cons_self)) hini
  have hU' : vx_Zq Bundle.tN "UNASSIGNED_STACK" Bundle.steD A s' s'.heap := by rw [hhp]; exact vx_Zq.moved hW0.alike (hU.kept hS.2.1)
  have hN' : vx_Zq Bundle.tN "SUPPRESSED_SENTINEL" Bundle.listD A s' s'.heap := by rw [hhp]; exact vx_Zq.moved hW0.alike (hN.kept hS.2.1)
  have h : ∀ w ∈ nAt own ic, w.before args s' = true := vx_own hat' (vx_isRefq hU'.1) (vx_isRefq hN'.1) hU'.2.word hN'.2.word
  have hown' : s'.vm.findClass own = some m.cls := by rw [hvm]; exact hown
  have hins : (Cond.instantiable nX 6).before args s' = true := h _ (by simp [nAt])
  obtain ⟨vm₁, cX, kX, hfX, hkX, -, -, X₁, st1⟩ := Y.newCold hexec (own := own) (C := nX) (index := ik) (n := 6) hown' hk' hins hini'
    (g := F0 m pc ls rest) rfl (by rw [hb]; exact d0) (Nat.le_refl _) (Nat.le_refl _)
  generalize hT1 : (T.setVm vm₁).pushCell { cls := cX, slots := kX.instanceTypes.map defaultValue, vm := .none } = T1 at X₁ st1
  have hcat : (Value.ref T.heap.size).category = 1 := rfl
  have hcellA : T1.heap[T.heap.size]? = some (freshCell cX kX) := by rw [← hT1]; exact State.heap_pushCell_size _ _
  have d3' : decode c.code (pc + 3) = .ok (.dup, 1) := by rw [hb]; exact d3
  have d4' : decode c.code (pc + 4) = .ok (.ldc_w is, 3) := by rw [hb]; exact d4
  have hstr' : vk_R own is text sa s' := vk_R.warm hW0 hstr
  obtain ⟨U, hsteps, hrun, hend, hW, hsame, ce, hce, hO⟩ := n_ctor X₁ hexec htr (own := own) (ic := ic) hown' h (fun x hx => nomatch hx) hfX hkX hcellA (by rw [hhp, hT]; exact Nat.le_refl _) (msg := .ref sa) rfl
    (g := { method := m, pc := pc + 7, locals := ls, stack := .ref sa :: .ref T.heap.size :: .ref T.heap.size :: rest, locked := none }) rfl hsize rfl rfl (rest := rest) rfl
    (by rw [hb]; exact d7) (by rw [hb]; exact d10) hout hRframes (by simp only [List.map_cons, List.sum_cons, hcat]; omega) hlocks
  obtain ⟨f1, f2⟩ := vx_frame hsame
  rw [hhp] at f1 f2
  have hWs : s.WarmedH U.vm := State.WarmedH.trans hW0 hW
  have hcl : s.vm.findClass nX = some ce.cls := by
    have h9 := hO.1
    rw [hvm] at h9
    exact h9
  have hall : s.sameButNew ({ U with vm := s.vm } : State) locs mc ms := by
    subst hA
    obtain ⟨e1, e2⟩ := hsame
    rw [State.setFrames_setFrames] at e1
    have h2 : (T.setVm s.vm).sameButNew ({ U with vm := s.vm } : State) [] (0 + 1) (0 + 6) := ⟨e1, e2⟩
    have h3 := X.same.trans h2
    rw [List.append_nil] at h3
    exact h3.mono hc hs
  refine ⟨U, ?_, .threw T.heap.size, hrun, hend, Or.inr ⟨T.heap.size, rfl, nX, ce, locs, hx U hWs.alike f1 (fun q hq => f2 q hq (fun z hz => nomatch hz)), hce, hO.2, hcl, hWs, hall, hf⟩⟩
  refine st1 _ ?_
  show Steps p.tables e below (T1.setTop { method := m, pc := pc + 3, locals := ls, stack := .ref T.heap.size :: rest, locked := none }) _
  jvm_step X₁.here [X₁.here.top, hexec, d3', Value.category]
  exact X₁.ldcStringW hexec (own := own) (text := text) (index := is) (a := sa) hown' hstr'.1 hstr'.2
    (g := { method := m, pc := pc + 4, locals := ls, stack := .ref T.heap.size :: .ref T.heap.size :: rest, locked := none }) rfl d4' _ hsteps
end NTHROW
/-! bed, owl, loud: an int, or a throw -/
theorem at_gd : ∀ w ∈ (nAtS RX11 158).filter goodWord, w ∈ lw_tbl := by decide +kernel
theorem at_bd : ∀ w ∈ (nAtS RX11 158).filter (fun w => !goodWord w), (w.onTables = true ∧ isNest w = true) ∧ w ∈ tables_1 := by decide +kernel
theorem at_ot : ∀ w ∈ Cond.classLink RX11 154 "java/util/NoSuchElementException" :: Cond.initialized "java/util/NoSuchElementException" :: nAtS RX11 158, vx_ot w = true := by decide +kernel
theorem t_hat {args : Array Value} {s : State} (T' : ∀ {w : Cond}, w ∈ GT → w.before args s = true) (hNW : xNW s) : ∀ w ∈ nAtS RX11 158, w.before args s = true := by
  intro w hw
  by_cases hg : goodWord w = true
  · exact T' (GT_in (at_gd w (List.mem_filter.mpr ⟨hw, hg⟩)) hg)
  · have h2 := at_bd w (List.mem_filter.mpr ⟨hw, by simpa using hg⟩)
    exact va_Nw.use h2.1.1 (hNW w (List.mem_filter.mpr ⟨h2.2, h2.1.2⟩))
def tNo (E : xE) : Prop :=
  match E with
  | (_, l, _, _, _, _, _, _, _, c, _, ce, sl, _, _) => ce = 0 ∧ sl = 0 ∧ (∀ x ∈ c.exceptionTable.toList, False) ∧ l.stackTraces = false
def tEnd (E : xE) (G : xG) (m : xMem) (z : Option Int32) : State → Prop :=
  match E with
  | (_, _, _, _, s, _, args, below, _, _, _, _, _, A, _) => vx_MQ below (fun _ st oc t => (∃ r, z = some r ∧ oc = .returned (some (.int r)) ∧ xWK G m t) ∧ va_F A st t) (fun C st t => (z = none ∧ C = "java/util/NoSuchElementException" ∧ xWK G m t) ∧ va_F A st t) args s 1 6 A
abbrev XT (E : xE) (G : xG) (pc : Nat) (lv : List (Nat × Value)) (st : List Value) (m : xMem) (res : Option (Option Int32)) : Prop := Xg E (tEnd E G m) pc lv st (xwd G m) res
def tCt (l : Launch) (G : xG) (y : MethodName) (b : ByteArray) (n : Nat) (rm : Room) (av : List Value) (m : xMem) (out : Option (Option Int32)) : Prop :=
  ∀ z, out = some z → ∀ sz, vx_Met l y (Cond.code y b n (some .int) :: GT) rm (xPc G av m sz) (fun _ st oc t => (∃ r, z = some r ∧ oc = .returned (some (.int r)) ∧ xWK G m t) ∧ va_F (xA G sz) st t) (fun C st t => (z = none ∧ C = "java/util/NoSuchElementException" ∧ xWK G m t) ∧ va_F (xA G sz) st t) 1 6 (xA G sz)
theorem tCt_of {l : Launch} {G : xG} {own : String} {y : MethodName} {b : ByteArray} {n : Nat} {rm : Room} {av : List Value} {m : xMem} {res : Option (Option Int32)} {lv : List (Nat × Value)}
    (hy : plainName y.cls = true) (hown : own = y.cls) (hlen : (lg_sl av).length ≤ n) (hlv : lv_args 0 av = lv) (hl9 : l.stackTraces = false)
    (h : ∀ E, xGood E l G.1 own b y n (some .int) rm → tNo E → XT E G 0 lv [] m res) : tCt l G y b n rm av m res := by
  intro z hz sz
  refine vx_ofW (cc := b) (maxL := n) (ret := some .int) hy rfl ?_
  intro p e s mm args below meth c s₁ B hml hno hv
  obtain ⟨rfl, hsz, ⟨hP, hK, hD⟩, hNW, hT⟩ := hv
  subst hsz
  have hg : xGood (p, l, e, rm, s, mm, av.toArray, below, meth, c, n, 0, 0, xA G s.heap.size, G.1) l G.1 own b y n (some .int) rm :=
    ⟨B.exec, B.bytes, hml, rfl, by rw [hown]; exact findClass_of_methodNamed B.named, atoms_spec (ws := Cond.code y b n (some .int) :: GT) B.pre, hNW, B.returns, B.notSynchronized, rfl, hK, rfl, rfl, fun q h => Or.inr h, ⟨Nat.zero_le _, Nat.zero_le _⟩, hT⟩
  have hl := lv_entry av (n := n) hlen
  rw [lg_entry_eq]
  rw [hlv] at hl
  exact h _ hg ⟨rfl, rfl, hno, hl9⟩ z hz s.heap [] _ hl hP (xD_of hD) va_S.rf
theorem t_iret {l0 : Launch} {G : xG} {E : xE} {own : String} {cc : ByteArray} {yy : MethodName} {n : Nat} {ret : Option FieldType} {R0 : Room} {pc : Nat} {lv : List (Nat × Value)} {m : xMem} (g : xGood E l0 G.1 own cc yy n ret R0) (tn : tNo E) {v : Int32} (d : decode cc pc = .ok (.ireturn, 1)) (hret : ret = some .int) : XT E G pc lv [.int v] m (some (some v)) := by
  refine x_iret g d hret (fun t h => ?_)
  obtain ⟨p, l, e, R, s, mm, args, below, meth, c, nL, ce, sl, A, S⟩ := E
  obtain ⟨rfl, rfl, -, -⟩ := tn
  obtain ⟨o, c1, c2, ⟨⟨c3, c4⟩, c5⟩, L, c6, c7⟩ := h
  exact ⟨o, c1, c2, Or.inl ⟨⟨⟨v, rfl, c3, c4⟩, c5⟩, L, ⟨c6.1, c6.2.1, c6.2.2.mono (by omega) (by omega)⟩, c7⟩⟩
theorem t_throwS {l0 : Launch} {G : xG} {E : xE} {cc : ByteArray} {yy : MethodName} {n : Nat} {ret : Option FieldType} {R0 : Room} {pc : Nat} {lv : List (Nat × Value)} {m : xMem} {i is : Nat} (g : xGood E l0 G.1 RX11 cc yy n ret R0) (tn : tNo E) (d0 : decode cc pc = .ok (.new 154, 3)) (d3 : decode cc (pc + 3) = .ok (.dup, 1)) (d4 : decode cc (pc + 4) = .ok (.ldc is, 2)) (d6 : decode cc (pc + 6) = .ok (.invokespecial 158, 3)) (d9 : decode cc (pc + 9) = .ok (.athrow, 1)) (hi : i < 10) (hs : (xStn i).1 = RX11 ∧ (xStn i).2.1 = is) (hroom : 6 ≤ R0.frames ∧ 90 ≤ R0.locals ∧ 1 ≤ R0.cells ∧ 6 ≤ R0.slots) : XT E G pc lv [] m (some none) := by
  obtain ⟨p, l, e, R, s, mm, args, below, meth, c, nL, ce, sl, A, S⟩ := E
  obtain ⟨hx, hb, hml, hnl, hown, hts, hNW, hr, hlk, hR, hK, hSS, hll, hAA, hce, hst⟩ := g
  subst hSS
  obtain ⟨rfl, rfl, hno, hl9⟩ := tn
  subst hR
  intro z hz H locs ls hl hP hD hS
  cases hz
  have hstr := hst.2.2.2.2.2 i hi
  rw [hs.1, hs.2] at hstr
  have T' : ∀ {w : Cond}, w ∈ GT → w.before args s = true := fun h => hts _ (List.mem_cons_of_mem _ h)
  exact n_throwS hx hb hl9 (A := A) (own := RX11) hown (T' w_5_165) (T' w_1_23) hstr (t_hat T' hNW) at_ot hst.1 hst.2.1 hS (by rw [hml, ← hnl]; exact hl.1) d0 d3 d4 d6 d9 (fun x hx => (hno x hx).elim) (by show 5 < R.frames; omega) (by show 0 + 82 ≤ R.locals; omega) (by omega) (by omega) hlk (fun t hal hsz hk => ⟨⟨rfl, rfl, fun k x hx => (hP k x hx).kept (hk x.1 (hP k x hx).lt), va_K.moved hal hK, hD.weaken (fun _ _ _ _ => trivial)⟩, Nat.le_trans hS.1 hsz, fun q h1 h2 => (hk q (Nat.lt_of_lt_of_le h1 hS.1)).trans (hS.2.1 q h1 h2)⟩) hS.2.2 (by omega) (by omega)
theorem t_throwSW {l0 : Launch} {G : xG} {E : xE} {cc : ByteArray} {yy : MethodName} {n : Nat} {ret : Option FieldType} {R0 : Room} {pc : Nat} {lv : List (Nat × Value)} {m : xMem} {i is : Nat} (g : xGood E l0 G.1 RX11 cc yy n ret R0) (tn : tNo E) (d0 : decode cc pc = .ok (.new 154, 3)) (d3 : decode cc (pc + 3) = .ok (.dup, 1)) (d4 : decode cc (pc + 4) = .ok (.ldc_w is, 3)) (d6 : decode cc (pc + 7) = .ok (.invokespecial 158, 3)) (d9 : decode cc (pc + 10) = .ok (.athrow, 1)) (hi : i < 10) (hs : (xStn i).1 = RX11 ∧ (xStn i).2.1 = is) (hroom : 6 ≤ R0.frames ∧ 90 ≤ R0.locals ∧ 1 ≤ R0.cells ∧ 6 ≤ R0.slots) : XT E G pc lv [] m (some none) := by
  obtain ⟨p, l, e, R, s, mm, args, below, meth, c, nL, ce, sl, A, S⟩ := E
  obtain ⟨hx, hb, hml, hnl, hown, hts, hNW, hr, hlk, hR, hK, hSS, hll, hAA, hce, hst⟩ := g
  subst hSS
  obtain ⟨rfl, rfl, hno, hl9⟩ := tn
  subst hR
  intro z hz H locs ls hl hP hD hS
  cases hz
  have hstr := hst.2.2.2.2.2 i hi
  rw [hs.1, hs.2] at hstr
  have T' : ∀ {w : Cond}, w ∈ GT → w.before args s = true := fun h => hts _ (List.mem_cons_of_mem _ h)
  exact n_throwSW hx hb hl9 (A := A) (own := RX11) hown (T' w_5_165) (T' w_1_23) hstr (t_hat T' hNW) at_ot hst.1 hst.2.1 hS (by rw [hml, ← hnl]; exact hl.1) d0 d3 d4 d6 d9 (fun x hx => (hno x hx).elim) (by show 5 < R.frames; omega) (by show 0 + 82 ≤ R.locals; omega) (by omega) (by omega) hlk (fun t hal hsz hk => ⟨⟨rfl, rfl, fun k x hx => (hP k x hx).kept (hk x.1 (hP k x hx).lt), va_K.moved hal hK, hD.weaken (fun _ _ _ _ => trivial)⟩, Nat.le_trans hS.1 hsz, fun q h1 h2 => (hk q (Nat.lt_of_lt_of_le h1 hS.1)).trans (hS.2.1 q h1 h2)⟩) hS.2.2 (by omega) (by omega)
abbrev rm_O_bed : Room := { frames := 7, cells := 1, slots := 6, locals := 120 }
def O_bed_b34 (m : xMem) (p0 : Int32) (p1 : Int32) : Option (Option Int32) :=
  some none
def O_bed (m : xMem) (p0 : Int32) (p1 : Int32) : Option (Option Int32) :=
  (House_hasBed m 6 p0).bind fun r1 =>
  if r1 = 0 then
    O_bed_b34 m p0 p1
  else
    if p1 < 0 then
      O_bed_b34 m p0 p1
    else
      if 5 < p1 then
        O_bed_b34 m p0 p1
      else
        if p1 = 0 then
          (ix p0 6).bind fun j2 =>
          some (some (m.1 (11 + j2) 0))
        else
        if p1 = 1 then
          (ix p0 6).bind fun j3 =>
          some (some (m.1 (11 + j3) 1))
        else
        if p1 = 2 then
          (State_owlAt m 33 6 p0).bind fun r4 =>
          some (some r4)
        else
        if p1 = 3 then
          (ix p0 6).bind fun j5 =>
          some (some (m.1 (11 + j5) 2))
        else
        if p1 = 4 then
          (ix p0 6).bind fun j6 =>
          some (some (m.1 36 j6))
        else
          (ix p0 6).bind fun j7 =>
          some (some (m.1 37 j7))
abbrev rm_O_owl : Room := { frames := 7, cells := 1, slots := 6, locals := 120 }
def O_owl_b34 (m : xMem) (p0 : Int32) (p1 : Int32) : Option (Option Int32) :=
  some none
def O_owl (m : xMem) (p0 : Int32) (p1 : Int32) : Option (Option Int32) :=
  (House_hasOwl m 6 p0).bind fun r1 =>
  if r1 = 0 then
    O_owl_b34 m p0 p1
  else
    if p1 < 0 then
      O_owl_b34 m p0 p1
    else
      if 5 < p1 then
        O_owl_b34 m p0 p1
      else
        if p1 = 0 then
          (ix p0 6).bind fun j2 =>
          some (some (m.1 35 j2))
        else
          if 3 < p1 then
            (ix p0 6).bind fun j3 =>
            (State_lookOf m 33 6 p0 (m.1 35 j3) 0).bind fun r4 =>
            if p1 = 5 then
              some (some r4)
            else
              (ix p0 6).bind fun j5 =>
              (State_sideFrom m 33 6 (m.1 35 j5) r4).bind fun r6 =>
              some (some r6)
          else
            (ix p0 6).bind fun j7 =>
            (ix p1 4).bind fun j8 =>
            some (some (m.1 (18 + j7) j8))
abbrev rm_O_loud : Room := { frames := 7, cells := 1, slots := 6, locals := 120 }
def O_loud_b24 (m : xMem) (p0 : Int32) (p1 : Int32) : Option (Option Int32) :=
  some none
def O_loud (m : xMem) (p0 : Int32) (p1 : Int32) : Option (Option Int32) :=
  (House_hasSound m 6 p0).bind fun r1 =>
  if r1 = 0 then
    O_loud_b24 m p0 p1
  else
    (House_hasBed m 6 p1).bind fun r2 =>
    if r2 = 0 then
      O_loud_b24 m p0 p1
    else
      (ix p0 8).bind fun j3 =>
      (House_loudAt m 6 p1 (25 + j3)).bind fun r4 =>
      some (some r4)
theorem T_O_bed_b34 {l : Launch} {G : xG} {E : xE} (hW : WC G) (g : xGood E l G.1 RX11 cX11_bed yX11_bed 5 (some .int) rm_O_bed) (tn : tNo E) (m : xMem) (p0 : Int32) (p1 : Int32) : XT E G 34 [] [] m (O_bed_b34 m p0 p1) := by
  unfold O_bed_b34
  exact t_throwS (pc := 34) (i := 7) g tn dX11_bed_34 dX11_bed_37 dX11_bed_38 dX11_bed_40 dX11_bed_43 (by decide) ⟨rfl, rfl⟩ ⟨Nat.le_of_ble_eq_true rfl, Nat.le_of_ble_eq_true rfl, Nat.le_of_ble_eq_true rfl, Nat.le_of_ble_eq_true rfl⟩
theorem T_O_bed {l : Launch} {G : xG} {E : xE} (hW : WC G) (g : xGood E l G.1 RX11 cX11_bed yX11_bed 5 (some .int) rm_O_bed) (tn : tNo E) (m : xMem) (p0 : Int32) (p1 : Int32) : XT E G 0 [(0, .ref (xad G 0)), (1, .int p0), (2, .int p1)] [] m (O_bed m p0 p1) := by
  unfold O_bed
  refine x_aload_n (pc := 0) (i := 0) (a := 0) g dX11_bed_0 rfl rfl ?_
  refine x_getR (pc := 1) (x := 5) g hW dX11_bed_1 fl_11_30 (sOwlsLent isOwlsLent_0) rfl ?_
  refine x_getR (pc := 4) (x := 6) g hW dX11_bed_4 fl_11_144 (sImage isImage_5) rfl ?_
  refine x_astore_n (pc := 7) (i := 3) (lv' := [(3, .ref (xad G 6)), (0, .ref (xad G 0)), (1, .int p0), (2, .int p1)]) g dX11_bed_7 rfl (by decide) rfl ?_
  refine x_aload_n (pc := 8) (i := 0) (a := 1) g dX11_bed_8 rfl rfl ?_
  refine x_getR (pc := 9) (x := 5) g hW dX11_bed_9 fl_11_30 (sOwlsLent isOwlsLent_0) rfl ?_
  refine x_getR (pc := 12) (x := 33) g hW dX11_bed_12 fl_11_147 (sImage isImage_5) rfl ?_
  refine x_astore (pc := 15) (lv' := [(4, .ref (xad G 33)), (3, .ref (xad G 6)), (0, .ref (xad G 0)), (1, .int p0), (2, .int p1)]) g dX11_bed_15 (by decide) rfl ?_
  refine x_aload_n (pc := 17) (i := 3) (a := 1) g dX11_bed_17 rfl rfl ?_
  refine x_iload_n (pc := 18) (i := 1) (a := 3) g dX11_bed_18 rfl rfl ?_
  refine x_Vi (pc := 19) g hW [.int p0] [] (c_House_hasBed l G hW m 6 p0 isHouse_6) dX11_bed_19 ml_11_150 (sHouse isHouse_6) rfl rfl (Nat.le_of_ble_eq_true rfl) ⟨rfl, rfl, Nat.le_of_ble_eq_true rfl, Nat.le_of_ble_eq_true rfl⟩ (fun r1 hr1 => ?_)
  refine x_if_eq (pc := 22) (t := 34) g dX11_bed_22 (by decide) ?_ ?_
  · exact x_sub [] (T_O_bed_b34 hW g tn m p0 p1) rfl
  · refine x_iload_n (pc := 25) (i := 2) (a := 4) g dX11_bed_25 rfl rfl ?_
    refine x_if_lt (pc := 26) (t := 34) g dX11_bed_26 (by decide) ?_ ?_
    · exact x_sub [] (T_O_bed_b34 hW g tn m p0 p1) rfl
    · refine x_iload_n (pc := 29) (i := 2) (a := 4) g dX11_bed_29 rfl rfl ?_
      refine x_iconst (pc := 30) g dX11_bed_30 ic_5 ?_
      refine x_icmp_le (pc := 31) (t := 44) g dX11_bed_31 (by decide) ?_ ?_
      · exact x_sub [] (T_O_bed_b34 hW g tn m p0 p1) rfl
      · refine x_iload_n (pc := 44) (i := 2) (a := 4) g dX11_bed_44 rfl rfl ?_
        refine x_if (fun h45_0 => ?_) (fun h45_0 => ?_)
        · refine x_tabIn (pc := 45) (t := 80) (off := 35) g dX11_bed_45 h45_0 (by decide) ?_
          refine x_aload_n (pc := 80) (i := 3) (a := 1) g dX11_bed_80 rfl rfl ?_
          refine x_getR (pc := 81) (x := 10) g hW dX11_bed_81 fl_11_161 (sHouse isHouse_6) rfl ?_
          refine x_iload_n (pc := 84) (i := 1) (a := 3) g dX11_bed_84 rfl rfl ?_
          refine x_aald4 (pc := 85) (r := fun j => 11 + j) g hW dX11_bed_85 (sHouse_bedRow isHouse_6) (fun j h => rowsL_get h) (fun j2 hj2 => ?_)
          refine x_iconst (pc := 86) g dX11_bed_86 ic_0 ?_
          refine x_ialdc (pc := 87) g hW dX11_bed_87 (sHouse_bedRowR isHouse_6 hj2) ix_0_3 ?_
          exact t_iret (pc := 88) g tn dX11_bed_88 rfl
        refine x_if (fun h45_1 => ?_) (fun h45_1 => ?_)
        · refine x_tabIn (pc := 45) (t := 89) (off := 44) g dX11_bed_45 h45_1 (by decide) ?_
          refine x_aload_n (pc := 89) (i := 3) (a := 1) g dX11_bed_89 rfl rfl ?_
          refine x_getR (pc := 90) (x := 10) g hW dX11_bed_90 fl_11_161 (sHouse isHouse_6) rfl ?_
          refine x_iload_n (pc := 93) (i := 1) (a := 3) g dX11_bed_93 rfl rfl ?_
          refine x_aald4 (pc := 94) (r := fun j => 11 + j) g hW dX11_bed_94 (sHouse_bedRow isHouse_6) (fun j h => rowsL_get h) (fun j3 hj3 => ?_)
          refine x_iconst (pc := 95) g dX11_bed_95 ic_1 ?_
          refine x_ialdc (pc := 96) g hW dX11_bed_96 (sHouse_bedRowR isHouse_6 hj3) ix_1_3 ?_
          exact t_iret (pc := 97) g tn dX11_bed_97 rfl
        refine x_if (fun h45_2 => ?_) (fun h45_2 => ?_)
        · refine x_tabIn (pc := 45) (t := 98) (off := 53) g dX11_bed_45 h45_2 (by decide) ?_
          refine x_aload (pc := 98) (a := 0) g dX11_bed_98 rfl ?_
          refine x_aload_n (pc := 100) (i := 3) (a := 1) g dX11_bed_100 rfl rfl ?_
          refine x_iload_n (pc := 101) (i := 1) (a := 3) g dX11_bed_101 rfl rfl ?_
          refine x_Vi (pc := 102) g hW [.ref (xad G 6), .int p0] [] (c_State_owlAt l G hW m 33 6 p0 isState_33 isHouse_6) dX11_bed_102 ml_11_165 (sState isState_33) rfl rfl (Nat.le_of_ble_eq_true rfl) ⟨rfl, rfl, Nat.le_of_ble_eq_true rfl, Nat.le_of_ble_eq_true rfl⟩ (fun r4 hr4 => ?_)
          exact t_iret (pc := 105) g tn dX11_bed_105 rfl
        refine x_if (fun h45_3 => ?_) (fun h45_3 => ?_)
        · refine x_tabIn (pc := 45) (t := 106) (off := 61) g dX11_bed_45 h45_3 (by decide) ?_
          refine x_aload_n (pc := 106) (i := 3) (a := 1) g dX11_bed_106 rfl rfl ?_
          refine x_getR (pc := 107) (x := 10) g hW dX11_bed_107 fl_11_161 (sHouse isHouse_6) rfl ?_
          refine x_iload_n (pc := 110) (i := 1) (a := 3) g dX11_bed_110 rfl rfl ?_
          refine x_aald4 (pc := 111) (r := fun j => 11 + j) g hW dX11_bed_111 (sHouse_bedRow isHouse_6) (fun j h => rowsL_get h) (fun j5 hj5 => ?_)
          refine x_iconst (pc := 112) g dX11_bed_112 ic_2 ?_
          refine x_ialdc (pc := 113) g hW dX11_bed_113 (sHouse_bedRowR isHouse_6 hj5) ix_2_3 ?_
          exact t_iret (pc := 114) g tn dX11_bed_114 rfl
        refine x_if (fun h45_4 => ?_) (fun h45_4 => ?_)
        · refine x_tabIn (pc := 45) (t := 115) (off := 70) g dX11_bed_45 h45_4 (by decide) ?_
          refine x_aload (pc := 115) (a := 0) g dX11_bed_115 rfl ?_
          refine x_getR (pc := 117) (x := 36) g hW dX11_bed_117 fl_11_169 (sState isState_33) rfl ?_
          refine x_iload_n (pc := 120) (i := 1) (a := 3) g dX11_bed_120 rfl rfl ?_
          refine x_iald (pc := 121) g hW dX11_bed_121 (sState_knows isState_33) (fun j6 hj6 => ?_)
          exact t_iret (pc := 122) g tn dX11_bed_122 rfl
        refine x_tabOut (pc := 45) (t := 123) g dX11_bed_45 (by have z0 := ne_toInt (k := 0) h45_0 (by decide); have z1 := ne_toInt (k := 1) h45_1 (by decide); have z2 := ne_toInt (k := 2) h45_2 (by decide); have z3 := ne_toInt (k := 3) h45_3 (by decide); have z4 := ne_toInt (k := 4) h45_4 (by decide); omega) (by decide) ?_
        refine x_aload (pc := 123) (a := 0) g dX11_bed_123 rfl ?_
        refine x_getR (pc := 125) (x := 37) g hW dX11_bed_125 fl_11_172 (sState isState_33) rfl ?_
        refine x_iload_n (pc := 128) (i := 1) (a := 3) g dX11_bed_128 rfl rfl ?_
        refine x_iald (pc := 129) g hW dX11_bed_129 (sState_misses isState_33) (fun j7 hj7 => ?_)
        exact t_iret (pc := 130) g tn dX11_bed_130 rfl
theorem c_O_bed (l : Launch) (hl9 : l.stackTraces = false) (G : xG) (hW : WC G) (m : xMem) (p0 p1 : Int32) : tCt l G yX11_bed cX11_bed 5 rm_O_bed [.ref (xad G 0), .int p0, .int p1] m (O_bed m p0 p1) :=
  tCt_of (own := RX11) (by decide) rfl (Nat.le_of_ble_eq_true rfl) rfl hl9 (fun E g tn => T_O_bed hW g tn m p0 p1)
theorem T_O_owl_b34 {l : Launch} {G : xG} {E : xE} (hW : WC G) (g : xGood E l G.1 RX11 cX11_owl yX11_owl 6 (some .int) rm_O_owl) (tn : tNo E) (m : xMem) (p0 : Int32) (p1 : Int32) : XT E G 34 [] [] m (O_owl_b34 m p0 p1) := by
  unfold O_owl_b34
  exact t_throwS (pc := 34) (i := 8) g tn dX11_owl_34 dX11_owl_37 dX11_owl_38 dX11_owl_40 dX11_owl_43 (by decide) ⟨rfl, rfl⟩ ⟨Nat.le_of_ble_eq_true rfl, Nat.le_of_ble_eq_true rfl, Nat.le_of_ble_eq_true rfl, Nat.le_of_ble_eq_true rfl⟩
theorem T_O_owl {l : Launch} {G : xG} {E : xE} (hW : WC G) (g : xGood E l G.1 RX11 cX11_owl yX11_owl 6 (some .int) rm_O_owl) (tn : tNo E) (m : xMem) (p0 : Int32) (p1 : Int32) : XT E G 0 [(0, .ref (xad G 0)), (1, .int p0), (2, .int p1)] [] m (O_owl m p0 p1) := by
  unfold O_owl
  refine x_aload_n (pc := 0) (i := 0) (a := 0) g dX11_owl_0 rfl rfl ?_
  refine x_getR (pc := 1) (x := 5) g hW dX11_owl_1 fl_11_30 (sOwlsLent isOwlsLent_0) rfl ?_
  refine x_getR (pc := 4) (x := 6) g hW dX11_owl_4 fl_11_144 (sImage isImage_5) rfl ?_
  refine x_astore_n (pc := 7) (i := 3) (lv' := [(3, .ref (xad G 6)), (0, .ref (xad G 0)), (1, .int p0), (2, .int p1)]) g dX11_owl_7 rfl (by decide) rfl ?_
  refine x_aload_n (pc := 8) (i := 0) (a := 1) g dX11_owl_8 rfl rfl ?_
  refine x_getR (pc := 9) (x := 5) g hW dX11_owl_9 fl_11_30 (sOwlsLent isOwlsLent_0) rfl ?_
  refine x_getR (pc := 12) (x := 33) g hW dX11_owl_12 fl_11_147 (sImage isImage_5) rfl ?_
  refine x_astore (pc := 15) (lv' := [(4, .ref (xad G 33)), (3, .ref (xad G 6)), (0, .ref (xad G 0)), (1, .int p0), (2, .int p1)]) g dX11_owl_15 (by decide) rfl ?_
  refine x_aload_n (pc := 17) (i := 3) (a := 1) g dX11_owl_17 rfl rfl ?_
  refine x_iload_n (pc := 18) (i := 1) (a := 3) g dX11_owl_18 rfl rfl ?_
  refine x_Vi (pc := 19) g hW [.int p0] [] (c_House_hasOwl l G hW m 6 p0 isHouse_6) dX11_owl_19 ml_11_175 (sHouse isHouse_6) rfl rfl (Nat.le_of_ble_eq_true rfl) ⟨rfl, rfl, Nat.le_of_ble_eq_true rfl, Nat.le_of_ble_eq_true rfl⟩ (fun r1 hr1 => ?_)
  refine x_if_eq (pc := 22) (t := 34) g dX11_owl_22 (by decide) ?_ ?_
  · exact x_sub [] (T_O_owl_b34 hW g tn m p0 p1) rfl
  · refine x_iload_n (pc := 25) (i := 2) (a := 4) g dX11_owl_25 rfl rfl ?_
    refine x_if_lt (pc := 26) (t := 34) g dX11_owl_26 (by decide) ?_ ?_
    · exact x_sub [] (T_O_owl_b34 hW g tn m p0 p1) rfl
    · refine x_iload_n (pc := 29) (i := 2) (a := 4) g dX11_owl_29 rfl rfl ?_
      refine x_iconst (pc := 30) g dX11_owl_30 ic_5 ?_
      refine x_icmp_le (pc := 31) (t := 44) g dX11_owl_31 (by decide) ?_ ?_
      · exact x_sub [] (T_O_owl_b34 hW g tn m p0 p1) rfl
      · refine x_iload_n (pc := 44) (i := 2) (a := 4) g dX11_owl_44 rfl rfl ?_
        refine x_if_ne (pc := 45) (t := 56) g dX11_owl_45 (by decide) ?_ ?_
        · refine x_aload (pc := 48) (a := 0) g dX11_owl_48 rfl ?_
          refine x_getR (pc := 50) (x := 35) g hW dX11_owl_50 fl_11_180 (sState isState_33) rfl ?_
          refine x_iload_n (pc := 53) (i := 1) (a := 3) g dX11_owl_53 rfl rfl ?_
          refine x_iald (pc := 54) g hW dX11_owl_54 (sState_owlBed isState_33) (fun j2 hj2 => ?_)
          exact t_iret (pc := 55) g tn dX11_owl_55 rfl
        · refine x_iload_n (pc := 56) (i := 2) (a := 4) g dX11_owl_56 rfl rfl ?_
          refine x_iconst (pc := 57) g dX11_owl_57 ic_3 ?_
          refine x_icmp_gt (pc := 58) (t := 70) g dX11_owl_58 (by decide) ?_ ?_
          · refine x_aload (pc := 70) (a := 0) g dX11_owl_70 rfl ?_
            refine x_aload_n (pc := 72) (i := 3) (a := 1) g dX11_owl_72 rfl rfl ?_
            refine x_iload_n (pc := 73) (i := 1) (a := 3) g dX11_owl_73 rfl rfl ?_
            refine x_aload (pc := 74) (a := 0) g dX11_owl_74 rfl ?_
            refine x_getR (pc := 76) (x := 35) g hW dX11_owl_76 fl_11_180 (sState isState_33) rfl ?_
            refine x_iload_n (pc := 79) (i := 1) (a := 3) g dX11_owl_79 rfl rfl ?_
            refine x_iald (pc := 80) g hW dX11_owl_80 (sState_owlBed isState_33) (fun j3 hj3 => ?_)
            refine x_iconst (pc := 81) g dX11_owl_81 ic_0 ?_
            refine x_Vi (pc := 82) g hW [.ref (xad G 6), .int p0, .int (m.1 35 j3), .int 0] [] (c_State_lookOf l G hW m 33 6 p0 (m.1 35 j3) 0 isState_33 isHouse_6) dX11_owl_82 ml_11_186 (sState isState_33) rfl rfl (Nat.le_of_ble_eq_true rfl) ⟨rfl, rfl, Nat.le_of_ble_eq_true rfl, Nat.le_of_ble_eq_true rfl⟩ (fun r4 hr4 => ?_)
            refine x_istore (pc := 85) (lv' := [(5, .int r4), (4, .ref (xad G 33)), (3, .ref (xad G 6)), (0, .ref (xad G 0)), (1, .int p0), (2, .int p1)]) g dX11_owl_85 (by decide) rfl ?_
            refine x_iload_n (pc := 87) (i := 2) (a := 5) g dX11_owl_87 rfl rfl ?_
            refine x_iconst (pc := 88) g dX11_owl_88 ic_5 ?_
            refine x_icmp_ne (pc := 89) (t := 97) g dX11_owl_89 (by decide) ?_ ?_
            · refine x_iload (pc := 92) (a := 0) g dX11_owl_92 rfl ?_
              refine x_goto (pc := 94) (t := 112) g dX11_owl_94 (by decide) ?_
              exact t_iret (pc := 112) g tn dX11_owl_112 rfl
            · refine x_aload (pc := 97) (a := 1) g dX11_owl_97 rfl ?_
              refine x_aload_n (pc := 99) (i := 3) (a := 2) g dX11_owl_99 rfl rfl ?_
              refine x_aload (pc := 100) (a := 1) g dX11_owl_100 rfl ?_
              refine x_getR (pc := 102) (x := 35) g hW dX11_owl_102 fl_11_180 (sState isState_33) rfl ?_
              refine x_iload_n (pc := 105) (i := 1) (a := 4) g dX11_owl_105 rfl rfl ?_
              refine x_iald (pc := 106) g hW dX11_owl_106 (sState_owlBed isState_33) (fun j5 hj5 => ?_)
              refine x_iload (pc := 107) (a := 0) g dX11_owl_107 rfl ?_
              refine x_Vi (pc := 109) g hW [.ref (xad G 6), .int (m.1 35 j5), .int r4] [] (c_State_sideFrom l G hW m 33 6 (m.1 35 j5) r4 isState_33 isHouse_6) dX11_owl_109 ml_11_190 (sState isState_33) rfl rfl (Nat.le_of_ble_eq_true rfl) ⟨rfl, rfl, Nat.le_of_ble_eq_true rfl, Nat.le_of_ble_eq_true rfl⟩ (fun r6 hr6 => ?_)
              exact t_iret (pc := 112) g tn dX11_owl_112 rfl
          · refine x_aload_n (pc := 61) (i := 3) (a := 1) g dX11_owl_61 rfl rfl ?_
            refine x_getR (pc := 62) (x := 17) g hW dX11_owl_62 fl_11_183 (sHouse isHouse_6) rfl ?_
            refine x_iload_n (pc := 65) (i := 1) (a := 3) g dX11_owl_65 rfl rfl ?_
            refine x_aald4 (pc := 66) (r := fun j => 18 + j) g hW dX11_owl_66 (sHouse_owlRow isHouse_6) (fun j h => rowsL_get h) (fun j7 hj7 => ?_)
            refine x_iload_n (pc := 67) (i := 2) (a := 4) g dX11_owl_67 rfl rfl ?_
            refine x_iald (pc := 68) g hW dX11_owl_68 (sHouse_owlRowR isHouse_6 hj7) (fun j8 hj8 => ?_)
            exact t_iret (pc := 69) g tn dX11_owl_69 rfl
theorem c_O_owl (l : Launch) (hl9 : l.stackTraces = false) (G : xG) (hW : WC G) (m : xMem) (p0 p1 : Int32) : tCt l G yX11_owl cX11_owl 6 rm_O_owl [.ref (xad G 0), .int p0, .int p1] m (O_owl m p0 p1) :=
  tCt_of (own := RX11) (by decide) rfl (Nat.le_of_ble_eq_true rfl) rfl hl9 (fun E g tn => T_O_owl hW g tn m p0 p1)
theorem T_O_loud_b24 {l : Launch} {G : xG} {E : xE} (hW : WC G) (g : xGood E l G.1 RX11 cX11_loud yX11_loud 4 (some .int) rm_O_loud) (tn : tNo E) (m : xMem) (p0 : Int32) (p1 : Int32) : XT E G 24 [] [] m (O_loud_b24 m p0 p1) := by
  unfold O_loud_b24
  exact t_throwSW (pc := 24) (i := 9) g tn dX11_loud_24 dX11_loud_27 dX11_loud_28 dX11_loud_31 dX11_loud_34 (by decide) ⟨rfl, rfl⟩ ⟨Nat.le_of_ble_eq_true rfl, Nat.le_of_ble_eq_true rfl, Nat.le_of_ble_eq_true rfl, Nat.le_of_ble_eq_true rfl⟩
theorem T_O_loud {l : Launch} {G : xG} {E : xE} (hW : WC G) (g : xGood E l G.1 RX11 cX11_loud yX11_loud 4 (some .int) rm_O_loud) (tn : tNo E) (m : xMem) (p0 : Int32) (p1 : Int32) : XT E G 0 [(0, .ref (xad G 0)), (1, .int p0), (2, .int p1)] [] m (O_loud m p0 p1) := by
  unfold O_loud
  refine x_aload_n (pc := 0) (i := 0) (a := 0) g dX11_loud_0 rfl rfl ?_
  refine x_getR (pc := 1) (x := 5) g hW dX11_loud_1 fl_11_30 (sOwlsLent isOwlsLent_0) rfl ?_
  refine x_getR (pc := 4) (x := 6) g hW dX11_loud_4 fl_11_144 (sImage isImage_5) rfl ?_
  refine x_astore_n (pc := 7) (i := 3) (lv' := [(3, .ref (xad G 6)), (0, .ref (xad G 0)), (1, .int p0), (2, .int p1)]) g dX11_loud_7 rfl (by decide) rfl ?_
  refine x_aload_n (pc := 8) (i := 3) (a := 0) g dX11_loud_8 rfl rfl ?_
  refine x_iload_n (pc := 9) (i := 1) (a := 2) g dX11_loud_9 rfl rfl ?_
  refine x_Vi (pc := 10) g hW [.int p0] [] (c_House_hasSound l G hW m 6 p0 isHouse_6) dX11_loud_10 ml_11_194 (sHouse isHouse_6) rfl rfl (Nat.le_of_ble_eq_true rfl) ⟨rfl, rfl, Nat.le_of_ble_eq_true rfl, Nat.le_of_ble_eq_true rfl⟩ (fun r1 hr1 => ?_)
  refine x_if_eq (pc := 13) (t := 24) g dX11_loud_13 (by decide) ?_ ?_
  · exact x_sub [] (T_O_loud_b24 hW g tn m p0 p1) rfl
  · refine x_aload_n (pc := 16) (i := 3) (a := 0) g dX11_loud_16 rfl rfl ?_
    refine x_iload_n (pc := 17) (i := 2) (a := 3) g dX11_loud_17 rfl rfl ?_
    refine x_Vi (pc := 18) g hW [.int p1] [] (c_House_hasBed l G hW m 6 p1 isHouse_6) dX11_loud_18 ml_11_150 (sHouse isHouse_6) rfl rfl (Nat.le_of_ble_eq_true rfl) ⟨rfl, rfl, Nat.le_of_ble_eq_true rfl, Nat.le_of_ble_eq_true rfl⟩ (fun r2 hr2 => ?_)
    refine x_if_ne (pc := 21) (t := 35) g dX11_loud_21 (by decide) ?_ ?_
    · exact x_sub [] (T_O_loud_b24 hW g tn m p0 p1) rfl
    · refine x_aload_n (pc := 35) (i := 3) (a := 0) g dX11_loud_35 rfl rfl ?_
      refine x_iload_n (pc := 36) (i := 2) (a := 3) g dX11_loud_36 rfl rfl ?_
      refine x_aload_n (pc := 37) (i := 3) (a := 0) g dX11_loud_37 rfl rfl ?_
      refine x_getR (pc := 38) (x := 24) g hW dX11_loud_38 fl_11_197 (sHouse isHouse_6) rfl ?_
      refine x_iload_n (pc := 41) (i := 1) (a := 2) g dX11_loud_41 rfl rfl ?_
      refine x_aald4 (pc := 42) (r := fun j => 25 + j) g hW dX11_loud_42 (sHouse_soundRow isHouse_6) (fun j h => rowsL_get h) (fun j3 hj3 => ?_)
      refine x_Vi (pc := 43) g hW [.int p1, .ref (xad G (25 + j3))] [] (c_House_loudAt l G hW m 6 p1 (25 + j3) isHouse_6 (sHouse_soundRowR isHouse_6 hj3) (by decide)) dX11_loud_43 ml_11_291 (sHouse isHouse_6) rfl rfl (Nat.le_of_ble_eq_true rfl) ⟨rfl, rfl, Nat.le_of_ble_eq_true rfl, Nat.le_of_ble_eq_true rfl⟩ (fun r4 hr4 => ?_)
      exact t_iret (pc := 46) g tn dX11_loud_46 rfl
theorem c_O_loud (l : Launch) (hl9 : l.stackTraces = false) (G : xG) (hW : WC G) (m : xMem) (p0 p1 : Int32) : tCt l G yX11_loud cX11_loud 4 rm_O_loud [.ref (xad G 0), .int p0, .int p1] m (O_loud m p0 p1) :=
  tCt_of (own := RX11) (by decide) rfl (Nat.le_of_ble_eq_true rfl) rfl hl9 (fun E g tn => T_O_loud hW g tn m p0 p1)
