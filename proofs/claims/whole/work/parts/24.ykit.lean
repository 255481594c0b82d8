/-! Constructors: a walk over a world that grows; what is made is counted. -/
theorem va_AOA.moved {ty : FieldType} {u U : State} (hvm : u.vm.Alike U.vm) (h : va_AOA ty u) : va_AOA ty U := Jvm.Stand.arrayOver_alikeB hvm h
def xAO (U : State) : Prop := va_AO "OwlsLent$Image" U ∧ va_AO "OwlsLent$State" U ∧ va_AOA .int U
theorem xAO.moved {u U : State} (hvm : u.vm.Alike U.vm) (h : xAO u) : xAO U := ⟨va_AO.moved hvm h.1, va_AO.moved hvm h.2.1, va_AOA.moved hvm h.2.2⟩
def xCnt (E : xE) (ce0 sl0 : Nat) (A0 : Nat → Prop) : Prop :=
  match E with
  | (_, _, _, _, s, _, _, _, meth, _, _, ce, sl, A, _) => ce = ce0 ∧ sl = sl0 ∧ meth.name = "<init>" ∧ xAO s ∧ A = A0
/-- a constructor's end: what it has made, in all -/
def xFin (E : xE) (mc ms : Nat) (P : State → Prop) : State → Prop :=
  match E with
  | (_, _, _, _, s, _, args, below, _, _, _, _, _, A, _) => MQ below (fun _ st oc t => (oc = .returned none ∧ P t) ∧ va_F A st t) args s mc ms A
def yPre (S : xS) (ci : Nat) (fs : List Value) (q sz : Nat) (U : State) : Prop :=
  U.heap.size = sz ∧ va_P S.1 vwCl [(q, .inr (ci, fs))] U.heap ∧ va_K S.1 vwCl (xtysS S) U ∧ va_D (fun _ => True) [(q, .inr (ci, fs))] ∧ xNW U ∧ xSt S (va_A [(q, .inr (ci, fs))] sz) U U.heap ∧ xAO U
def yPost (S : xS) (ci : Nat) (fs : List Value) (q sz : Nat) (sh : Nat → xSh) (n : Nat) (m : xMem) (ext : (Nat → Nat) → Prop) (t : State) : Prop :=
  ∃ ad : Nat → Nat, ad 0 = q ∧ ext ad ∧ va_P S.1 vwCl (xwd (S, sh, n, ad) m) t.heap ∧ va_D (va_A [(q, .inr (ci, fs))] sz) (xwd (S, sh, n, ad) m)
/-- a constructor's contract: out of a blank object of class ci, the cells of the shapes sh -/
def yCt (l : Launch) (S : xS) (y : MethodName) (b : ByteArray) (n : Nat) (rm : Room) (ci : Nat) (fs : List Value) (as : List Value) (mc ms : Nat) (sh : Nat → xSh) (nn : Nat) (m : xMem) (ext : (Nat → Nat) → Prop) : Prop :=
  ∀ q sz, Met l y (Cond.code y b n none :: GT) rm (va_Pc (.ref q :: as) (yPre S ci fs q sz)) (fun _ st oc t => (oc = .returned none ∧ yPost S ci fs q sz sh nn m ext t) ∧ va_F (va_A [(q, .inr (ci, fs))] sz) st t) mc ms (va_A [(q, .inr (ci, fs))] sz)
theorem yPre_blind {S : xS} {ci : Nat} {fs as : List Value} {q sz : Nat} : FrameBlind (va_Pc (.ref q :: as) (yPre S ci fs q sz)) := by
  intro a U g mk h
  obtain ⟨h0, h1, hP, hK, hD, hN, hT, hO⟩ := h
  exact ⟨h0, h1, hP, va_K.moved (u := U) (U := U.calling g mk a) (Vm.Alike.refl U.vm) hK, hD, xNW.same (u := U) (U := U.calling g mk a) rfl hN, xSt.blind (u := U) (U := U.calling g mk a) rfl hT, xAO.moved (u := U) (U := U.calling g mk a) (Vm.Alike.refl U.vm) hO⟩
theorem yCt_of {l : Launch} {S : xS} {own : String} {y : MethodName} {b : ByteArray} {n : Nat} {rm : Room} {ci : Nat} {fs as : List Value} {mc ms : Nat} {sh : Nat → xSh} {nn : Nat} {m : xMem} {ext : (Nat → Nat) → Prop} {lv : Nat → List (Nat × Value)}
    (hy : plainName y.cls = true) (hown : own = y.cls) (hinit : y.name = "<init>") (hlen : ∀ q, (lg_sl (.ref q :: as)).length ≤ n) (hlv : ∀ q, lv_args 0 (.ref q :: as) = lv q)
    (h : ∀ (E : xE) (q sz : Nat), xGood E l S own b y n none rm → xCnt E 0 0 (va_A [(q, .inr (ci, fs))] sz) → Xg E (fun _ : Unit => xFin E mc ms (yPost S ci fs q sz sh nn m ext)) 0 (lv q) [] [(q, .inr (ci, fs))] (some ())) : yCt l S y b n rm ci fs as mc ms sh nn m ext := by
  intro q sz
  refine Met.ofW (cc := b) (maxL := n) (ret := none) hy rfl ?_
  intro p e s mm args below meth c s₁ B hml hv
  obtain ⟨rfl, hsz, hP, hK, hD, hNW, hT, hO⟩ := hv
  subst hsz
  have hin : meth.name = "<init>" := by rw [(name_of_methodNamed B.named B.method).1]; exact hinit
  have hg : xGood (p, l, e, rm, s, mm, (Value.ref q :: as).toArray, below, meth, c, n, 0, 0, va_A [(q, .inr (ci, fs))] s.heap.size, S) l S own b y n none rm :=
    ⟨B.exec, B.bytes, hml, rfl, by rw [hown]; exact findClass_of_methodNamed B.named, atoms_spec (ws := Cond.code y b n none :: GT) B.pre, hNW, B.returns, B.notSynchronized, rfl, hK, rfl, rfl, fun q h => Or.inr h, ⟨Nat.zero_le _, Nat.zero_le _⟩, hT⟩
  have hl := lv_entry (.ref q :: as) (n := n) (hlen q)
  rw [lg_entry_eq]
  rw [hlv] at hl
  exact h _ q s.heap.size hg ⟨rfl, rfl, hin, hO, rfl⟩ () rfl s.heap [] _ hl hP hD.self va_S.rf
section YR
variable {E : xE} {l0 : Launch} {S0 : xS} {own : String} {cc : ByteArray} {yy : MethodName} {n : Nat} {ret : Option FieldType} {R0 : Room} {ρ : Type} {fin : ρ → State → Prop} {pc : Nat} {lv : List (Nat × Value)} {st st0 : List Value} {wd w : va_W} {res : Option ρ} {ce0 sl0 mc ms idx : Nat} {P : State → Prop} {q0 ci : Nat} {fs : List Value} {A0 : Nat → Prop}
theorem y_top {x y : Int32} (h : x = y) (k : Xg E fin pc lv (.int y :: st) wd res) : Xg E fin pc lv (.int x :: st) wd res := h ▸ k
theorem y_wd {wd' : va_W} (h : wd = wd') (k : Xg E fin pc lv st wd' res) : Xg E fin pc lv st wd res := h ▸ k
theorem y_obj (g : xGood E l0 S0 own cc yy n ret R0) {a : Nat} (d : decode cc pc = .ok (.invokespecial idx, 3)) (hL : Cond.methodLink own idx Lib.objectInit ∈ GT) (hi : Cond.instanceMethod Lib.objectInit ∈ GT ∧ Cond.code Lib.objectInit ⟨#[0xb1]⟩ 1 none ∈ GT) (hroom : 1 ≤ R0.frames ∧ (st.map fun v => v.category).sum + 12 ≤ R0.locals) (k : Xg E fin (pc + 3) lv st wd res) : Xg E fin pc lv (.ref a :: st) wd res := by
  obtain ⟨p, l, e, R, s, mm, args, below, meth, c, nL, ce, sl, A, S⟩ := E
  intro z hz H locs ls hl hP hD hS
  obtain ⟨hx, hb, hml, hnl, hown, hts, hNW, hr, hlk, hR, hK, hSS, hll, hAA, hce, hst⟩ := g
  subst hSS
  subst hR
  have T' : ∀ {w : Cond}, w ∈ GT → w.before args s = true := fun h => hts _ (List.mem_cons_of_mem _ h)
  exact W.objInit hx hb hown (T' hL) (T' hi.1) (T' hi.2) rfl (by rw [hml, ← hnl]; exact hl.1) rfl d hroom.1 (by have h9 : (F0 mm pc ls (.ref a :: st)).monitorRoom = 0 := rfl; rw [h9]; omega) (k z hz H locs ls hl hP hD hS)
theorem y_new (g : xGood E l0 S0 own cc yy n ret R0) (cn : xCnt E ce0 sl0 A0) {C : String} {T : u_T} {N : Nat} {ty0 : Nat → FieldType} {cj : Nat} {gs : List Value} (d : decode cc pc = .ok (.new idx, 3)) (hc : vwCl[cj]? = some (C, T, N)) (uw : ∀ w ∈ u_ws C T N, w ∈ GT) (hty : ∀ k, k < N → parseFieldDescriptor (T k).2.2.1 = some (ty0 k)) (hw : Cond.classLink own idx C ∈ GT ∧ Cond.instantiable C N ∈ GT ∧ Cond.initialized C ∈ GT) (hfs : ∀ j, j < N → defaultValue (ty0 j) = vp_V gs j) (hroom : ce0 + 1 ≤ R0.cells ∧ sl0 + N ≤ R0.slots)
    (kk : ∀ E' : xE, xGood E' l0 S0 own cc yy n ret R0 → xCnt E' (ce0 + 1) (sl0 + N) A0 → ∀ q, Xg E' (fun _ : Unit => xFin E' mc ms P) (pc + 3) lv (.ref q :: st) (wd ++ [(q, .inr (cj, gs))]) (some ())) : Xg E (fun _ : Unit => xFin E mc ms P) pc lv st wd (some ()) := by
  obtain ⟨p, l, e, R, s, mm, args, below, meth, c, nL, ce, sl, A, S⟩ := E
  intro z hz H locs ls hl hP hD hS
  have g1 := g
  obtain ⟨hx, hb, hml, hnl, hown, hts, hNW, hr, hlk, hR, hK, hSS, hll, hAA, hce, hst⟩ := g
  subst hSS
  obtain ⟨rfl, rfl, hin, hO, hA0⟩ := cn
  subst hR
  have T' : ∀ {w : Cond}, w ∈ GT → w.before args s = true := fun h => hts _ (List.mem_cons_of_mem _ h)
  obtain ⟨a1, a2, a3, a4, a5, a6, a7, a8, a9, a10, a11, a12, a13, a14, a15, a16⟩ := g1
  exact va_new hx hb hts (fun w hw => List.mem_cons_of_mem _ (uw w hw)) ty0 hty hown (T' hw.1) (T' hw.2.1) (T' hw.2.2) hK hP hD hS hAA hc hfs hroom.1 hroom.2 d (fun q H1 hP1 hD1 hS1 => kk (p, l, e, R, s, mm, args, below, meth, c, nL, ce + 1, sl + N, A, S) ⟨a1, a2, a3, a4, a5, a6, a7, a8, a9, rfl, a11, rfl, a13, a14, hroom, a16⟩ ⟨rfl, rfl, hin, hO, hA0⟩ q z hz H1 locs ls hl hP1 hD1 hS1)
theorem y_cA {D : va_G} {cl : List vw_C} {t1 t2 : List (ClassId × FieldType)} {s : State} {k : Nat} {ty : FieldType} {c1 c2 : ClassId} (h1 : va_K D cl t1 s) (hk : t1[k]? = some (c1, ty)) (h2 : va_K D cl (t2 ++ [(c2, ty)]) s) : c2 = c1 := by
  have e2 : (t2 ++ [(c2, ty)])[t2.length]? = some (c2, ty) := by simp
  have r1 := (h1.2 k _ hk).2
  have r2 := (h2.2 t2.length _ e2).2
  have key : ∀ c : ClassId, va_RA s c ty → s.vm.findClass ("[" ++ ty.toString) = some c := by
    intro c h
    cases ty with
    | object C => obtain ⟨_, _, _, _, _, h4⟩ := h; exact h4
    | _ => exact h
  exact Option.some.inj ((key _ r2).symm.trans (key _ r1))
theorem y_newa (g : xGood E l0 S0 own cc yy n ret R0) (cn : xCnt E ce0 sl0 A0) {atype : ArrayType} {ty : FieldType} {t : Nat} {N' : Nat} {v : Int32} {b : (Nat → Int32) ⊕ (Nat → Int64) ⊕ (Nat → UInt32) ⊕ (Nat → UInt64) ⊕ (Nat → Option Nat)} (d : decode cc pc = .ok (.newarray atype, 2)) (hw : Cond.arrayClass ty ∈ GT) (hty : newarray.typeOf atype = ty) (ht : (xtysS S0)[t]? = some (S0.2.1 t, ty)) (hb0 : ∀ cA : ClassId, vp_cell cA (N', b) = arrV cA N' (fun _ => defaultValue ty)) (hv : ¬ v < 0 ∧ v.toNatClampNeg = N') (hbytes : N' * componentBytes ty ≤ 536870912) (hroom : ce0 + 1 ≤ R0.cells ∧ sl0 + N' ≤ R0.slots)
    (kk : ∀ E' : xE, xGood E' l0 S0 own cc yy n ret R0 → xCnt E' (ce0 + 1) (sl0 + N') A0 → ∀ q, Xg E' (fun _ : Unit => xFin E' mc ms P) (pc + 2) lv (.ref q :: st) (wd ++ [(q, .inl (S0.2.1 t, N', b))]) (some ())) : Xg E (fun _ : Unit => xFin E mc ms P) pc lv (.int v :: st) wd (some ()) := by
  obtain ⟨p, l, e, R, s, mm, args, below, meth, c, nL, ce, sl, A, S⟩ := E
  intro z hz H locs ls hl hP hD hS
  have g1 := g
  obtain ⟨hx, hb, hml, hnl, hown, hts, hNW, hr, hlk, hR, hK, hSS, hll, hAA, hce, hst⟩ := g
  subst hSS
  obtain ⟨rfl, rfl, hin, hO, hA0⟩ := cn
  subst hR
  subst hty
  have T' : ∀ {w : Cond}, w ∈ GT → w.before args s = true := fun h => hts _ (List.mem_cons_of_mem _ h)
  obtain ⟨a1, a2, a3, a4, a5, a6, a7, a8, a9, a10, a11, a12, a13, a14, a15, a16⟩ := g1
  refine va_newa hx hb (T' hw) rfl hK hP hD hS hAA (a0 := (N', b)) hb0 hv.1 hv.2 hbytes hroom.1 hroom.2 d (fun q cA H1 hK1 hP1 hD1 hS1 => ?_)
  have hc := y_cA hK ht hK1
  subst hc
  exact kk (p, l, e, R, s, mm, args, below, meth, c, nL, ce + 1, sl + N', A, S) ⟨a1, a2, a3, a4, a5, a6, a7, a8, a9, rfl, a11, rfl, a13, a14, hroom, a16⟩ ⟨rfl, rfl, hin, hO, hA0⟩ q z hz H1 locs ls hl hP1 hD1 hS1
theorem y_anewa (g : xGood E l0 S0 own cc yy n ret R0) (cn : xCnt E ce0 sl0 A0) {C : String} {t : Nat} {N' : Nat} {v : Int32} (d : decode cc pc = .ok (.anewarray idx, 3)) (hw : Cond.classLink own idx C ∈ GT) (hC : ∀ U, xAO U → va_AO C U) (ht : (xtysS S0)[t]? = some (S0.2.1 t, .object C)) (hv : ¬ v < 0 ∧ v.toNatClampNeg = N') (hbytes : N' * 4 ≤ 536870912) (hroom : ce0 + 1 ≤ R0.cells ∧ sl0 + N' ≤ R0.slots)
    (kk : ∀ E' : xE, xGood E' l0 S0 own cc yy n ret R0 → xCnt E' (ce0 + 1) (sl0 + N') A0 → ∀ q, Xg E' (fun _ : Unit => xFin E' mc ms P) (pc + 3) lv (.ref q :: st) (wd ++ [(q, .inl (S0.2.1 t, N', .inr (.inr (.inr (.inr (fun _ => none))))))]) (some ())) : Xg E (fun _ : Unit => xFin E mc ms P) pc lv (.int v :: st) wd (some ()) := by
  obtain ⟨p, l, e, R, s, mm, args, below, meth, c, nL, ce, sl, A, S⟩ := E
  intro z hz H locs ls hl hP hD hS
  have g1 := g
  obtain ⟨hx, hb, hml, hnl, hown, hts, hNW, hr, hlk, hR, hK, hSS, hll, hAA, hce, hst⟩ := g
  subst hSS
  obtain ⟨rfl, rfl, hin, hO, hA0⟩ := cn
  subst hR
  have T' : ∀ {w : Cond}, w ∈ GT → w.before args s = true := fun h => hts _ (List.mem_cons_of_mem _ h)
  obtain ⟨a1, a2, a3, a4, a5, a6, a7, a8, a9, a10, a11, a12, a13, a14, a15, a16⟩ := g1
  refine va_newq hx hb hown (T' hw) (hC _ hO) hK hP hD hS hAA hv.1 hv.2 hbytes hroom.1 hroom.2 d (fun q cA H1 hK1 hP1 hD1 hS1 => ?_)
  have hc := y_cA hK ht hK1
  subst hc
  exact kk (p, l, e, R, s, mm, args, below, meth, c, nL, ce + 1, sl + N', A, S) ⟨a1, a2, a3, a4, a5, a6, a7, a8, a9, rfl, a11, rfl, a13, a14, hroom, a16⟩ ⟨rfl, rfl, hin, hO, hA0⟩ q z hz H1 locs ls hl hP1 hD1 hS1
theorem y_mna (g : xGood E l0 S0 own cc yy n ret R0) (cn : xCnt E ce0 sl0 A0) {N' K' : Nat} {v k : Int32} (d : decode cc pc = .ok (.multianewarray idx 2, 4)) (hw : Cond.classLink own idx "[[I" ∈ GT ∧ Cond.arrayClass .int ∈ GT) (hv : ¬ v < 0 ∧ v.toNatClampNeg = N') (hk : ¬ k < 0 ∧ k.toNatClampNeg = K') (hsm : N' ≤ 1000 ∧ K' ≤ 1000) (hroom : ce0 + (1 + N') ≤ R0.cells ∧ sl0 + (N' + N' * K') ≤ R0.slots)
    (kk : ∀ E' : xE, xGood E' l0 S0 own cc yy n ret R0 → xCnt E' (ce0 + 1 + N') (sl0 + N' + N' * K') A0 → ∀ (q : Nat) (r : Nat → Nat), Xg E' (fun _ : Unit => xFin E' mc ms P) (pc + 4) lv (.ref q :: st) ((wd ++ [(q, .inl (S0.2.1 4, N', .inr (.inr (.inr (.inr (fun i => if i < N' then some (r i) else none))))))]) ++ (List.range N').map (fun i => (r i, .inl (S0.2.1 0, K', .inl (fun _ => 0))))) (some ())) : Xg E (fun _ : Unit => xFin E mc ms P) pc lv (.int k :: .int v :: st) wd (some ()) := by
  obtain ⟨p, l, e_, R, s, mm, args, below, meth, c, nL, ce, sl, A, S⟩ := E
  intro z hz H locs ls hl hP hD hS
  have g1 := g
  obtain ⟨hx, hb, hml, hnl, hown, hts, hNW, hr, hlk, hR, hK, hSS, hll, hAA, hce, hst⟩ := g
  subst hSS
  obtain ⟨rfl, rfl, hin, hO, hA0⟩ := cn
  subst hR
  have T' : ∀ {w : Cond}, w ∈ GT → w.before args s = true := fun h => hts _ (List.mem_cons_of_mem _ h)
  obtain ⟨a1, a2, a3, a4, a5, a6, a7, a8, a9, a10, a11, a12, a13, a14, a15, a16⟩ := g1
  have hcy : s.vm.findClass (FieldType.array .int).toString = some (S.2.1 0) := (hK.2 0 (S.2.1 0, .int) rfl).2
  have hP' : va_P S.1 vwCl (wd ++ va_pl [] (fun _ => (.inr (0, []) : va_E))) H := by simpa [va_pl] using hP
  have hD' : va_D A (wd ++ va_pl [] (fun _ => (.inr (0, []) : va_E))) := by simpa [va_pl] using hD
  have hb4 : componentBytes .int = 4 := rfl
  refine va_mna (X := wd) (L := []) (f := fun _ => .inr (0, [])) (ty := .int) (z := (K', .inl (fun _ => 0))) hx hb hown (T' hw.1) hO.2.2 (T' hw.2) hcy hK hP' hD' hS hAA hv.1 hk.1 hv.2 hk.2 (by omega) (by rw [hb4]; omega) (by omega) rfl rfl hroom.1 hroom.2 (fun c => ?_) d (fun q r cA H1 hr hrn hK1 hP1 hD1 hS1 => ?_)
  · exact (arrV_new c K' _).trans (vp_cell_i c K' _).symm
  · have hc := y_cA hK (k := 4) (c1 := S.2.1 4) (ty := .array .int) rfl hK1
    subst hc
    rw [← vr_rows (fun a _ => List.not_mem_nil)] at hP1 hD1
    have e : ∀ (o : Nat × va_E), (wd ++ [o]) ++ (va_pl [] (fun _ => (.inr (0, []) : va_E)) ++ ((List.range N').map r).map (fun a => (a, (.inl (S.2.1 0, K', .inl (fun _ => 0)) : va_E)))) = (wd ++ [o]) ++ (List.range N').map (fun i => (r i, (.inl (S.2.1 0, K', .inl (fun _ => 0)) : va_E))) := by
      intro o
      simp [va_pl, List.map_map, Function.comp_def]
    rw [e] at hP1 hD1
    exact kk (p, l, e_, R, s, mm, args, below, meth, c, nL, ce + 1 + N', sl + N' + N' * K', A, S) ⟨a1, a2, a3, a4, a5, a6, a7, a8, a9, rfl, a11, rfl, a13, a14, ⟨by omega, by omega⟩, a16⟩ ⟨rfl, rfl, hin, hO, hA0⟩ q r z hz H1 locs ls hl hP1 hD1 hS1
theorem y_put (g : xGood E l0 S0 own cc yy n ret R0) {j : Nat} {v : Value} {ty : FieldType} (d : decode cc pc = .ok (.putfield idx, 3)) (f : xFL own idx ci j) (ft : xFT ci j ty) (hn : narrow ty v = v ∧ fits ty v = true) (hj : j < fs.length) (kk : Xg E fin (pc + 3) lv st ((q0, .inr (ci, fs.set j v)) :: w) res) : Xg E fin pc lv (v :: .ref q0 :: st) ((q0, .inr (ci, fs)) :: w) res := by
  obtain ⟨p, l, e, R, s, mm, args, below, meth, c, nL, ce, sl, A, S⟩ := E
  intro z hz H locs ls hl hP hD hS
  obtain ⟨hx, hb, hml, hnl, hown, hts, hNW, hr, hlk, hR, hK, hSS, hll, hAA, hce, hst⟩ := g
  subst hSS
  obtain ⟨C, T, N, f1, f2, f3, f4, f5⟩ := f
  obtain ⟨C2, T2, N2, ty0, t1, t2, t3, t4, t5⟩ := ft
  cases f1.symm.trans t1
  rcases f5 with f5 | ⟨h, f5⟩
  · exact va_put (ci := ci) hx hb hts (fun w hw => List.mem_cons_of_mem _ (f3 w hw)) ty0 t3 t4 hown hK hP hD hS 0 rfl f1 j f2 (hts _ (List.mem_cons_of_mem _ f5)) (fun x hx => by rw [f4] at hx; exact hx) t2 t5 hn.1 hn.2 hj d (fun H1 locs1 hP1 hD1 hS1 => kk z hz H1 locs1 ls hl hP1 hD1 hS1)
  · exact va_putN (ci := ci) hx hb hts (fun w hw => List.mem_cons_of_mem _ (f3 w hw)) ty0 t3 t4 hown hK hP hD hS 0 rfl f1 j f2 (va_Nw.use rfl (hNW _ f5)) (fun x hx => by rw [f4] at hx; exact hx) t2 t5 hn.1 hn.2 hj d (fun H1 locs1 hP1 hD1 hS1 => kk z hz H1 locs1 ls hl hP1 hD1 hS1)
/-- a final field that holds a reference, in its constructor -/
def xFR (own : String) (idx ci j : Nat) : Prop := ∃ (C : String) (T : u_T) (N : Nat) (ty0 : Nat → FieldType) (ty : FieldType), vwCl[ci]? = some (C, T, N) ∧ j < N ∧ (∀ w ∈ u_ws C T N, w ∈ GT) ∧ (T j).1 = C ∧ Cond.fieldLink own idx C (T j).2.1 (T j).2.2.1 ∈ GT ∧ (T j).2.2.2 = true ∧ (T j).1 = own ∧ (∀ k, k < N → parseFieldDescriptor (T k).2.2.1 = some (ty0 k)) ∧ (∀ a, a < N → ∀ b, b < N → a ≠ b → (T a).2.1 ≠ (T b).2.1) ∧ parseFieldDescriptor (T j).2.2.1 = some ty ∧ (∀ x : Nat, narrow ty (.ref x) = .ref x ∧ fits ty (.ref x) = true)
theorem y_putR (g : xGood E l0 S0 own cc yy n ret R0) (cn : xCnt E ce0 sl0 A0) {j x : Nat} (d : decode cc pc = .ok (.putfield idx, 3)) (f : xFR own idx ci j) (hj : j < fs.length) (kk : Xg E fin (pc + 3) lv st ((q0, .inr (ci, fs.set j (.ref x))) :: w) res) : Xg E fin pc lv (.ref x :: .ref q0 :: st) ((q0, .inr (ci, fs)) :: w) res := by
  obtain ⟨p, l, e, R, s, mm, args, below, meth, c, nL, ce, sl, A, S⟩ := E
  intro z hz H locs ls hl hP hD hS
  obtain ⟨hx, hb, hml, hnl, hown, hts, hNW, hr, hlk, hR, hK, hSS, hll, hAA, hce, hst⟩ := g
  subst hSS
  obtain ⟨-, -, hin, -, -⟩ := cn
  obtain ⟨C, T, N, ty0, ty, f1, f2, f3, f4, f5, f6, f7, f8, f9, f10, f11⟩ := f
  exact va_putF (ci := ci) hx hb hts (fun w hw => List.mem_cons_of_mem _ (f3 w hw)) ty0 f8 f9 hown hK hP hD hS 0 rfl f1 j f2 (hts _ (List.mem_cons_of_mem _ f5)) (fun x hx => by rw [f4] at hx; exact hx) f6 hin f7 f10 (f11 x).1 (f11 x).2 hj d (fun H1 locs1 hP1 hD1 hS1 => kk z hz H1 locs1 ls hl hP1 hD1 hS1)
theorem y_getR (g : xGood E l0 S0 own cc yy n ret R0) {j x : Nat} (d : decode cc pc = .ok (.getfield idx, 3)) (f : xFL own idx ci j) (hv : fs[j]? = some (.ref x)) (kk : Xg E fin (pc + 3) lv (.ref x :: st) ((q0, .inr (ci, fs)) :: w) res) : Xg E fin pc lv (.ref q0 :: st) ((q0, .inr (ci, fs)) :: w) res := by
  obtain ⟨p, l, e, R, s, mm, args, below, meth, c, nL, ce, sl, A, S⟩ := E
  intro z hz H locs ls hl hP hD hS
  obtain ⟨hx, hb, hml, hnl, hown, hts, hNW, hr, hlk, hR, hK, hSS, hll, hAA, hce, hst⟩ := g
  subst hSS
  obtain ⟨C, T, N, f1, f2, f3, f4, f5⟩ := f
  rcases f5 with f5 | ⟨h, f5⟩
  · exact va_get (ci := ci) hx hb hts (fun w hw => List.mem_cons_of_mem _ (f3 w hw)) hown hK hP 0 rfl f1 j f2 (hts _ (List.mem_cons_of_mem _ f5)) (fun x hx => by rw [f4] at hx; exact hx) hv d (kk z hz H locs ls hl hP hD hS)
  · exact va_getN (ci := ci) hx hb hts (fun w hw => List.mem_cons_of_mem _ (f3 w hw)) hown hK hP 0 rfl f1 j f2 (va_Nw.use rfl (hNW _ f5)) (fun x hx => by rw [f4] at hx; exact hx) hv d (kk z hz H locs ls hl hP hD hS)
theorem y_alen (g : xGood E l0 S0 own cc yy n ret R0) {a k t N : Nat} {b} {ty : FieldType} {v : Int32} (d : decode cc pc = .ok (.arraylength, 1)) (ha : wd[k]? = some (a, .inl (S0.2.1 t, (N, b)))) (ht : (xtysS S0)[t]? = some (S0.2.1 t, ty)) (hv : Int32.ofNat N = v) (kk : Xg E fin (pc + 1) lv (.int v :: st) wd res) : Xg E fin pc lv (.ref a :: st) wd res := by
  obtain ⟨p, l, e, R, s, mm, args, below, meth, c, nL, ce, sl, A, S⟩ := E
  intro z hz H locs ls hl hP hD hS
  obtain ⟨hx, hb, hml, hnl, hown, hts, hNW, hr, hlk, hR, hK, hSS, hll, hAA, hce, hst⟩ := g
  subst hSS
  exact va_alen hx hb hK hP k t ha ht hv d (kk z hz H locs ls hl hP hD hS)
/-- a new object of class r.1 into a row at the place k -/
theorem y_ast (g : xGood E l0 S0 own cc yy n ret R0) {a k kv t N v cj : Nat} {vs : List Value} {h : Nat → Option Nat} {r : vw_C} {i : Int32} {wd' : va_W} (d : decode cc pc = .ok (.aastore, 1)) (ha : wd[k]? = some (a, .inl (S0.2.1 t, N, .inr (.inr (.inr (.inr h)))))) (ht : (xtysS S0)[t]? = some (S0.2.1 t, .object r.1)) (hv : wd[kv]? = some (v, .inr (cj, vs))) (hc : vwCl[cj]? = some r) (hin : vp_in i N) (hw : wd.set k (a, .inl (S0.2.1 t, N, .inr (.inr (.inr (.inr (va_up h i.toNatClampNeg (some v))))))) = wd') (kk : Xg E fin (pc + 1) lv st wd' res) : Xg E fin pc lv (.ref v :: .int i :: .ref a :: st) wd res := by
  obtain ⟨p, l, e, R, s, mm, args, below, meth, c, nL, ce, sl, A, S⟩ := E
  intro z hz H locs ls hl hP hD hS
  obtain ⟨hx, hb, hml, hnl, hown, hts, hNW, hr, hlk, hR, hK, hSS, hll, hAA, hce, hst⟩ := g
  subst hSS
  subst hw
  exact va_astq hx hb hK hP hD hS k t kv cj ha ht hv hc hin d (fun H1 locs1 hP1 hD1 hS1 => kk z hz H1 locs1 ls hl hP1 hD1 hS1)
theorem y_geNo (g : xGood E l0 S0 own cc yy n ret R0) {x y : Int32} {off : Int} {t : Nat} (d : decode cc pc = .ok (.if_icmp .ge off, 3)) (ht : (pc : Int) + off = (t : Int)) (h : x < y) (k : Xg E fin (pc + 3) lv st wd res) : Xg E fin pc lv (.int y :: .int x :: st) wd res := by
  have := x_icmp_ge (x := x) (y := y) g d ht (r1 := res) (r2 := none) k x_none
  rwa [if_pos h] at this
theorem y_geYes (g : xGood E l0 S0 own cc yy n ret R0) {x y : Int32} {off : Int} {t : Nat} (d : decode cc pc = .ok (.if_icmp .ge off, 3)) (ht : (pc : Int) + off = (t : Int)) (h : ¬ x < y) (k : Xg E fin t lv st wd res) : Xg E fin pc lv (.int y :: .int x :: st) wd res := by
  have := x_icmp_ge (x := x) (y := y) g d ht (r1 := none) (r2 := res) x_none k
  rwa [if_neg h] at this
theorem y_vret (g : xGood E l0 S0 own cc yy n ret R0) (cn : xCnt E mc ms A0) (d : decode cc pc = .ok (.return_, 1)) (hret : ret = none) (hp : ∀ t : State, va_P S0.1 vwCl wd t.heap → va_D A0 wd → P t) : Xg E (fun _ : Unit => xFin E mc ms P) pc lv [] wd (some ()) := by
  obtain ⟨p, l, e, R, s, mm, args, below, meth, c, nL, ce, sl, A, S⟩ := E
  intro z hz H locs ls hl hP hD hS
  obtain ⟨hx, hb, hml, hnl, hown, hts, hNW, hr, hlk, hR, hK, hSS, hll, hAA, hce, hst⟩ := g
  subst hSS
  obtain ⟨rfl, rfl, -, -, rfl⟩ := cn
  subst hret
  exact W.vret (Qc := fun _ st oc t => (oc = .returned none ∧ P t) ∧ va_F A st t) hx hb hr (fun t ht hW => ⟨⟨rfl, hp t (by rw [ht]; exact hP) hD⟩, hS.F ht⟩) hS.2.2 d hlk
/-- behind a constructor: the other cells, and what it has made -/
theorem y_join {D : va_G} {cl : List vw_C} {A : Nat → Prop} {ws w1 : va_W} {x : Nat × va_E} {H H1 : Heap} (hP : va_P D cl (ws ++ [x]) H) (hD : va_D A (ws ++ [x])) (hk : ∀ a : Nat, a < H.size → ¬ va_A [x] H.size a → H1[a]? = H[a]?) (hF : ∀ a, va_A [x] H.size a → A a) (hP1 : va_P D cl w1 H1) (hD1 : va_D (va_A [x] H.size) w1) : va_P D cl (ws ++ w1) H1 ∧ va_D A (ws ++ w1) := by
  have hxl : (ws ++ [x])[ws.length]? = some x := by simp
  have up : ∀ (k : Nat) (q : Nat × va_E), ws[k]? = some q → (ws ++ [x])[k]? = some q := fun k q h => by
    rw [List.getElem?_append_left (List.getElem?_eq_some_iff.mp h).1]; exact h
  have apart : ∀ (k : Nat) (q : Nat × va_E), ws[k]? = some q → q.1 < H.size ∧ ¬ va_A [x] H.size q.1 := by
    intro k q h
    have hl := (hP k q (up k q h)).lt
    refine ⟨hl, fun hz => ?_⟩
    rcases hz with ⟨k2, e, h2⟩ | h2
    · have h0 : k2 < 1 := (List.getElem?_eq_some_iff.mp h2).1
      rw [show k2 = 0 by omega] at h2
      have hx : x = (q.1, e) := by simpa using h2
      have := hD.1 k ws.length q x (up k q h) hxl (by rw [hx])
      have := (List.getElem?_eq_some_iff.mp h).1
      omega
    · omega
  refine ⟨va_P.app (fun k q hq => (hP k q (up k q hq)).kept (hk q.1 (apart k q hq).1 (apart k q hq).2)) hP1, va_D.app ⟨fun i j p q hi hj e => hD.1 i j p q (up i p hi) (up j q hj) e, fun k q hq => hD.2 k q (up k q hq)⟩ (hD1.weaken (fun k q _ h => hF q.1 h)) (fun i j p q hp hq e => (apart i p hp).2 (by rw [e]; exact hD1.2 j q hq))⟩
/-- a constructor's words -/
def xMI (own : String) (idx : Nat) (y : MethodName) (b : ByteArray) (n2 na : Nat) : Prop :=
  (Cond.methodLink own idx y ∈ GT ∨ ∃ h, Cond.methodLinkNest own idx y h ∈ NT) ∧ y.name = "<init>" ∧ Cond.instanceMethod y ∈ GT ∧ Cond.initialized y.cls ∈ GT ∧ Cond.code y b n2 none ∈ GT ∧ y.cls ≠ "java/lang/invoke/MethodHandle" ∧ y.cls ≠ "java/lang/invoke/VarHandle" ∧ (parseMethodDescriptor y.desc).map (fun d => d.parameters.length) = some na
theorem y_ctor (g : xGood E l0 S0 own cc yy n ret R0) (cn : xCnt E ce0 sl0 A0) {y : MethodName} {b2 : ByteArray} {n2 na : Nat} {rm2 : Room} {cj q : Nat} {gs as : List Value} {mc2 ms2 nn : Nat} {sh : Nat → xSh} {m : xMem} {ext : (Nat → Nat) → Prop} (st : List Value) (C : yCt l0 S0 y b2 n2 rm2 cj gs as mc2 ms2 sh nn m ext) (d : decode cc pc = .ok (.invokespecial idx, 3)) (L : xMI own idx y b2 n2 na) (hn : as.length = na) (hstk : st0 = as.reverse ++ .ref q :: st) (hcat : (st.map fun v => v.category).sum ≤ 8) (hroom : rm2.cells = mc2 ∧ rm2.slots = ms2 ∧ rm2.frames + 1 ≤ R0.frames ∧ 8 + (n2 + 11) + rm2.locals ≤ R0.locals ∧ ce0 + mc2 ≤ R0.cells ∧ sl0 + ms2 ≤ R0.slots)
    (kk : ∀ E' : xE, xGood E' l0 S0 own cc yy n ret R0 → xCnt E' (ce0 + mc2) (sl0 + ms2) A0 → ∀ ad : Nat → Nat, ad 0 = q → ext ad → Xg E' (fun _ : Unit => xFin E' mc ms P) (pc + 3) lv st (wd ++ xwd (S0, sh, nn, ad) m) (some ())) : Xg E (fun _ : Unit => xFin E mc ms P) pc lv st0 (wd ++ [(q, .inr (cj, gs))]) (some ()) := by
  obtain ⟨p, l, e, R, s, mm, args, below, meth, c, nL, ce, sl, A, S⟩ := E
  intro z hz H locs ls hl hP hD hS
  have g1 := g
  obtain ⟨hx, hb, hml, hnl, hown, hts, hNW, hr, hlk, hR, hK, hSS, hll, hAA, hce, hst⟩ := g
  subst hSS
  obtain ⟨rfl, rfl, hin, hO, hA0⟩ := cn
  subst hR
  subst hll
  have T' : ∀ {w : Cond}, w ∈ GT → w.before args s = true := fun h => hts _ (List.mem_cons_of_mem _ h)
  obtain ⟨a1, a2, a3, a4, a5, a6, a7, a8, a9, a10, a11, a12, a13, a14, a15, a16⟩ := g1
  obtain ⟨L1, L2, L3, L4, L5, L7, L8, L9⟩ := L
  have hxl : (wd ++ [(q, (.inr (cj, gs) : va_E))])[wd.length]? = some (q, .inr (cj, gs)) := by simp
  have hAin : ∀ a : Nat, va_A [(q, (.inr (cj, gs) : va_E))] H.size a → A a := by
    intro a h
    rcases h with ⟨k2, e2, h2⟩ | h2
    · have h0 : k2 < 1 := (List.getElem?_eq_some_iff.mp h2).1
      rw [show k2 = 0 by omega] at h2
      have hx : (q, (.inr (cj, gs) : va_E)) = (a, e2) := by simpa using h2
      cases hx
      exact hD.2 _ _ hxl
    · exact hAA a (Nat.le_trans hS.1 h2)
  have hq1 : va_P S.1 vwCl [(q, (.inr (cj, gs) : va_E))] H := fun k x h => by
    have h0 : k < 1 := (List.getElem?_eq_some_iff.mp h).1
    rw [show k = 0 by omega] at h
    have hx : (q, (.inr (cj, gs) : va_E)) = x := by simpa using h
    subst hx
    exact hP _ _ hxl
  have hq2 : va_D (fun _ => True) [(q, (.inr (cj, gs) : va_E))] := by
    refine ⟨fun i j x y hi hj _ => ?_, fun _ _ _ => trivial⟩
    have h1 : i < 1 := (List.getElem?_eq_some_iff.mp hi).1
    have h2 : j < 1 := (List.getElem?_eq_some_iff.mp hj).1
    omega
  have hq : ∀ U : State, U.heap = H → s.WarmedH U.vm → (va_Pc (.ref q :: as) (yPre S cj gs q H.size)) (Value.ref q :: as).toArray U := fun U hU hW =>
    ⟨rfl, by rw [hU], by rw [hU]; exact hq1, va_K.moved hW.alike hK, hq2, xNW.warm hW hNW, by rw [hU]; exact xSt.to hW hS.2.1 hAin hst, xAO.moved hW.alike hO⟩
  have hlen9 : ∀ sig, parseMethodDescriptor y.desc = some sig → na = sig.parameters.length := fun sig h => by
    rw [h] at L9
    exact (Option.some.inj L9).symm
  have hr : va_Run p l e R s mm args below meth c H locs ce sl mc2 ms2 (F0 mm pc ls st0) st (fun st oc t => (oc = .returned none ∧ yPost S cj gs q H.size sh nn m ext t) ∧ va_F (va_A [(q, .inr (cj, gs))] H.size) st t) (va_A [(q, .inr (cj, gs))] H.size) := by
    rcases L1 with L1 | ⟨hh, L1⟩
    · exact va_runI (b := q) (As := as) (rest := st) (n := na) (maxL := n2) (bytes := b2) ⟨hx, hb, hml, hown, hts⟩ (C q H.size) ⟨⟨hroom.1, hroom.2.1, hroom.2.2.1, hroom.2.2.2.1, pay_in hts (GT_cons L5), List.mem_cons_self, T' L5, T' L4, ⟨L7, L8⟩, hlen9, T' L1⟩, L2, T' L3⟩ ⟨yPre_blind, hq⟩ rfl hn (by rw [← hnl]; exact hl.1) hstk (lv_room hcat) d ⟨hroom.2.2.2.2.1, hroom.2.2.2.2.2⟩
    · exact va_runIN (b := q) (As := as) (rest := st) (n := na) (maxL := n2) (bytes := b2) (host := hh) ⟨hx, hb, hml, hown, hts⟩ (C q H.size) ⟨⟨⟨hroom.1, hroom.2.1, hroom.2.2.1, hroom.2.2.2.1, pay_in hts (GT_cons L5), List.mem_cons_self⟩, T' L5, T' L4, ⟨L7, L8⟩, hlen9, va_Nw.use rfl (hNW _ L1)⟩, L2, T' L3⟩ ⟨yPre_blind, hq⟩ rfl hn (by rw [← hnl]; exact hl.1) hstk (lv_room hcat) d ⟨hroom.2.2.2.2.1, hroom.2.2.2.2.2⟩
  intro T9 hT9 X9
  obtain ⟨v, st₀, t, T1, L, h0, X', hL, e1, e2, ⟨⟨hv, ad, had, hext, hP1, hD1⟩, hz9, hk9⟩, stp⟩ := hr T9 hT9 X9
  cases hv
  rw [h0] at hz9 hk9
  obtain ⟨hPj, hDj⟩ := y_join hP hD hk9 hAin hP1 hD1
  obtain ⟨t2, b1, b2⟩ := kk (p, l, e, R, s, mm, args, below, meth, c, nL, ce + mc2, sl + ms2, A, S) ⟨a1, a2, a3, a4, a5, a6, a7, a8, a9, rfl, a11, rfl, rfl, a14, ⟨hroom.2.2.2.2.1, hroom.2.2.2.2.2⟩, a16⟩ ⟨rfl, rfl, hin, hO, hA0⟩ ad had hext z hz T1.heap (locs ++ L) ls hl (by rw [e1]; exact hPj) hDj
    ⟨Nat.le_trans hS.1 (by rw [e1]; exact hz9), fun a h1 h2 => by rw [e1, hk9 a (Nat.lt_of_lt_of_le h1 hS.1) (fun z => h2 (hAin a z))]; exact hS.2.1 a h1 h2, fun a ha => by
      rcases List.mem_append.mp ha with h | h
      · exact hS.2.2 a h
      · exact hAin _ (hL a h)⟩ T1 rfl X'
  exact ⟨t2, stp t2 b1, b2⟩
theorem y_cons {x : Nat × va_E} {v : va_W} (k : Xg E fin pc lv st (x :: (w ++ v)) res) : Xg E fin pc lv st ((x :: w) ++ v) res := k
theorem y_snoc {x : Nat × va_E} {v : va_W} (k : Xg E fin pc lv st ((x :: w) ++ v) res) : Xg E fin pc lv st (x :: (w ++ v)) res := k
theorem y_putE (g : xGood E l0 S0 own cc yy n ret R0) {j : Nat} {v : Value} {ty : FieldType} {fs' : List Value} (d : decode cc pc = .ok (.putfield idx, 3)) (f : xFL own idx ci j) (ft : xFT ci j ty) (hn : narrow ty v = v ∧ fits ty v = true) (hj : j < fs.length) (hf : fs.set j v = fs') (kk : Xg E fin (pc + 3) lv st ((q0, .inr (ci, fs')) :: w) res) : Xg E fin pc lv (v :: .ref q0 :: st) ((q0, .inr (ci, fs)) :: w) res := by
  subst hf
  exact y_put g d f ft hn hj kk
theorem y_putRE (g : xGood E l0 S0 own cc yy n ret R0) (cn : xCnt E ce0 sl0 A0) {j x : Nat} {fs' : List Value} (d : decode cc pc = .ok (.putfield idx, 3)) (f : xFR own idx ci j) (hj : j < fs.length) (hf : fs.set j (.ref x) = fs') (kk : Xg E fin (pc + 3) lv st ((q0, .inr (ci, fs')) :: w) res) : Xg E fin pc lv (.ref x :: .ref q0 :: st) ((q0, .inr (ci, fs)) :: w) res := by
  subst hf
  exact y_putR g cn d f hj kk
theorem y_astM (g : xGood E l0 S0 own cc yy n ret R0) {l1 l2 : va_W} {a t N v cj j : Nat} {vs : List Value} {h : Nat → Option Nat} {r : vw_C} {i : Int32} (d : decode cc pc = .ok (.aastore, 1)) (ht : (xtysS S0)[t]? = some (S0.2.1 t, .object r.1)) (hv : (v, .inr (cj, vs)) ∈ l1 ++ (a, .inl (S0.2.1 t, N, .inr (.inr (.inr (.inr h))))) :: l2) (hc : vwCl[cj]? = some r) (hi : ix i N = some j) (kk : Xg E fin (pc + 1) lv st (l1 ++ (a, .inl (S0.2.1 t, N, .inr (.inr (.inr (.inr (va_up h j (some v))))))) :: l2) res) : Xg E fin pc lv (.ref v :: .int i :: .ref a :: st) (l1 ++ (a, .inl (S0.2.1 t, N, .inr (.inr (.inr (.inr h))))) :: l2) res := by
  obtain ⟨kv, hkv⟩ := List.getElem?_of_mem hv
  obtain ⟨h1, h2, -⟩ := ix_in hi
  subst h2
  have e1 : (l1 ++ (a, (.inl (S0.2.1 t, N, .inr (.inr (.inr (.inr h)))) : va_E)) :: l2)[l1.length]? = some (a, .inl (S0.2.1 t, N, .inr (.inr (.inr (.inr h))))) := by simp
  have e2 : (l1 ++ (a, (.inl (S0.2.1 t, N, .inr (.inr (.inr (.inr h)))) : va_E)) :: l2).set l1.length (a, .inl (S0.2.1 t, N, .inr (.inr (.inr (.inr (va_up h i.toNatClampNeg (some v))))))) = l1 ++ (a, .inl (S0.2.1 t, N, .inr (.inr (.inr (.inr (va_up h i.toNatClampNeg (some v))))))) :: l2 := by simp
  exact y_ast g (k := l1.length) (kv := kv) d e1 ht hkv hc h1 e2 kk
end YR
/-- one world inside another: the cells turned -/
def xren (σ : Nat → Nat) : xSh → xSh
  | .inl o => .inl (o.1, o.2.map (fun f => if f < 2 then f else σ (f - 2) + 2))
  | .inr a => .inr (a.1, a.2.1, a.2.2.map σ)
def xbnd (N : Nat) : xSh → Bool
  | .inl o => o.2.all (fun f => decide (f < N + 2))
  | .inr a => a.2.2.all (fun r => decide (r < N))
theorem xfs_ren {σ ad ad' : Nat → Nat} {m m' : xMem} {k k' N : Nat} (ha : ∀ x, x < N → ad' (σ x) = ad x) (h1 : m'.1 k' = m.1 k) (h2 : m'.2 k' = m.2 k) : ∀ (l : List Nat) (j : Nat), l.all (fun f => decide (f < N + 2)) = true → xfs ad' m' k' j (l.map (fun f => if f < 2 then f else σ (f - 2) + 2)) = xfs ad m k j l
  | [], _, _ => rfl
  | f :: r, j, h => by
    simp only [List.all_cons, Bool.and_eq_true, decide_eq_true_eq] at h
    simp only [List.map_cons, xfs, xfs_ren ha h1 h2 r (j + 1) h.2]
    congr 1
    match f, h.1 with
    | 0, _ => simp [xfv, h1]
    | 1, _ => simp [xfv, h2]
    | x + 2, hx => rw [if_neg (by omega)]; simp [xfv, ha x (by omega)]
theorem xcel_ren {σ ad ad' : Nat → Nat} {cA : Nat → ClassId} {m m' : xMem} {k k' N : Nat} {s s' : xSh} (hs : s' = xren σ s) (hb : xbnd N s = true) (ha : ∀ x, x < N → ad' (σ x) = ad x) (h1 : m'.1 k' = m.1 k) (h2 : m'.2 k' = m.2 k) : xcel ad' cA m' k' s' = xcel ad cA m k s := by
  subst hs
  match s, hb with
  | .inl o, hb => simp only [xren, xcel, xfs_ren ha h1 h2 o.2 0 hb]
  | .inr a, hb =>
    have hr : (fun i : Nat => ((a.2.2.map σ)[i]?).map ad') = fun i : Nat => (a.2.2[i]?).map ad := by
      funext i
      rw [List.getElem?_map]
      cases hq : a.2.2[i]? with
      | none => rfl
      | some x =>
        have hx : x < N := by
          have := List.all_eq_true.mp hb x (List.mem_of_getElem? hq)
          simpa using this
        simp [ha x hx]
    simp only [xren, xcel, xarr, h1, h2, hr]
def xseg (F : Nat → Nat × va_E) (o n : Nat) : va_W := (List.range n).map (fun j => F (o + j))
theorem xwd_seg {G : xG} {m : xMem} : xwd G m = xseg (fun k => (xad G k, xcel (xad G) (xcA G) m k (xsh G k))) 0 (xN G) := by
  simp [xwd, xseg]
theorem xseg_ren {S : xS} {sh sh' : Nat → xSh} {n n' N o : Nat} {σ ad ad' : Nat → Nat} {m m' : xMem} (hs : ∀ j, j < n → sh' (o + j) = xren σ (sh j) ∧ xbnd N (sh j) = true) (ha : ∀ x, x < N → ad' (σ x) = ad x) (hσ : ∀ j, j < n → ad' (o + j) = ad j) (hm : ∀ j, j < n → m'.1 (o + j) = m.1 j ∧ m'.2 (o + j) = m.2 j) : xwd (S, sh, n, ad) m = xseg (fun k => (ad' k, xcel ad' S.2.1 m' k (sh' k))) o n := by
  unfold xwd xseg
  apply List.map_congr_left
  intro j hj
  have hj : j < n := List.mem_range.mp hj
  show (ad j, xcel ad S.2.1 m j (sh j)) = (ad' (o + j), xcel ad' S.2.1 m' (o + j) (sh' (o + j)))
  rw [xcel_ren (hs j hj).1 (hs j hj).2 ha (hm j hj).1 (hm j hj).2, hσ j hj]
theorem grid_eq {N b : Nat} {r ad : Nat → Nat} {rs : List Nat} (hr : rs = rowsL b N) (h : ∀ i, i < N → ad (b + i) = r i) : (fun i : Nat => if i < N then some (r i) else none) = (fun i : Nat => (rs[i]?).map ad) := by
  funext i
  subst hr
  by_cases hi : i < N
  · rw [if_pos hi, rowsL_get hi]; simp [h i hi]
  · rw [if_neg hi]; simp [rowsL, hi]
