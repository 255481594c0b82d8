/-! new, newarray and constructors' calls in the law -/
section LN
/-- cells and slots made so far; of the addresses, and of the state at the law's entry, what A0 says -/
def xCntL (E : xE) (ce0 sl0 : Nat) (A0 : (Nat → Prop) × (State → Prop)) : Prop :=
  match E with
  | (_, _, _, _, s, _, _, _, _, _, _, ce, sl, A, _) => ce = ce0 ∧ sl = sl0 ∧ xAO s ∧ A = A0.1 ∧ A0.2 s
/-- the law's end -/
def lFin (E : xE) (mc ms : Nat) (v : Int32) : State → Prop :=
  match E with
  | (_, _, _, _, s, _, args, below, _, _, _, _, _, A, _) => MQ below (fun _ st oc t => oc = .returned (some (.int v)) ∧ va_F A st t) args s mc ms A
variable {E : xE} {l0 : Launch} {S0 : xS} {own : String} {cc : ByteArray} {yy : MethodName} {n : Nat} {ret : Option FieldType} {R0 : Room} {ρ : Type} {fin : ρ → State → Prop} {pc : Nat} {lv : List (Nat × Value)} {st st0 : List Value} {wd w : va_W} {res : Option ρ} {ce0 sl0 mc ms idx : Nat} {P : State → Prop} {q0 ci : Nat} {fs : List Value} {A0 : (Nat → Prop) × (State → Prop)}
variable {res9 : Option Int32}
theorem l_new (g : xGood E l0 S0 own cc yy n ret R0) (cn : xCntL E ce0 sl0 A0) {C : String} {T : u_T} {N : Nat} {ty0 : Nat → FieldType} {cj : Nat} {gs : List Value} (d : decode cc pc = .ok (.new idx, 3)) (hc : vwCl[cj]? = some (C, T, N)) (uw : ∀ w ∈ u_ws C T N, w ∈ GT) (hty : ∀ k, k < N → parseFieldDescriptor (T k).2.2.1 = some (ty0 k)) (hw : Cond.classLink own idx C ∈ GT ∧ Cond.instantiable C N ∈ GT ∧ Cond.initialized C ∈ GT) (hfs : ∀ j, j < N → defaultValue (ty0 j) = vp_V gs j) (hroom : ce0 + 1 ≤ R0.cells ∧ sl0 + N ≤ R0.slots)
    (kk : ∀ E' : xE, xGood E' l0 S0 own cc yy n ret R0 → xCntL E' (ce0 + 1) (sl0 + N) A0 → ∀ q, Xg E' (lFin E' mc ms) (pc + 3) lv (.ref q :: st) (wd ++ [(q, .inr (cj, gs))]) res9) : Xg E (lFin E mc ms) pc lv st wd res9 := by
  obtain ⟨p, l, e, R, s, mm, args, below, meth, c, nL, ce, sl, A, S⟩ := E
  intro z hz H locs ls hl hP hD hS
  have g1 := g
  obtain ⟨hx, hb, hml, hnl, hown, hts, hNW, hr, hlk, hR, hK, hSS, hll, hAA, hce, hst⟩ := g
  subst hSS
  obtain ⟨rfl, rfl, hO, hA0⟩ := cn
  subst hR
  have T' : ∀ {w : Cond}, w ∈ GT → w.before args s = true := fun h => hts _ (List.mem_cons_of_mem _ h)
  obtain ⟨a1, a2, a3, a4, a5, a6, a7, a8, a9, a10, a11, a12, a13, a14, a15, a16⟩ := g1
  exact va_new hx hb hts (fun w hw => List.mem_cons_of_mem _ (uw w hw)) ty0 hty hown (T' hw.1) (T' hw.2.1) (T' hw.2.2) hK hP hD hS hAA hc hfs hroom.1 hroom.2 d (fun q H1 hP1 hD1 hS1 => kk (p, l, e, R, s, mm, args, below, meth, c, nL, ce + 1, sl + N, A, S) ⟨a1, a2, a3, a4, a5, a6, a7, a8, a9, rfl, a11, rfl, a13, a14, hroom, a16⟩ ⟨rfl, rfl, hO, hA0⟩ q z hz H1 locs ls hl hP1 hD1 hS1)
theorem l_newa (g : xGood E l0 S0 own cc yy n ret R0) (cn : xCntL E ce0 sl0 A0) {atype : ArrayType} {ty : FieldType} {t : Nat} {N' : Nat} {v : Int32} {b : (Nat → Int32) ⊕ (Nat → Int64) ⊕ (Nat → UInt32) ⊕ (Nat → UInt64) ⊕ (Nat → Option Nat)} (d : decode cc pc = .ok (.newarray atype, 2)) (hw : Cond.arrayClass ty ∈ GT) (hty : newarray.typeOf atype = ty) (ht : (xtysS S0)[t]? = some (S0.2.1 t, ty)) (hb0 : ∀ cA : ClassId, vp_cell cA (N', b) = arrV cA N' (fun _ => defaultValue ty)) (hv : ¬ v < 0 ∧ v.toNatClampNeg = N') (hbytes : N' * componentBytes ty ≤ 536870912) (hroom : ce0 + 1 ≤ R0.cells ∧ sl0 + N' ≤ R0.slots)
    (kk : ∀ E' : xE, xGood E' l0 S0 own cc yy n ret R0 → xCntL E' (ce0 + 1) (sl0 + N') A0 → ∀ q, Xg E' (lFin E' mc ms) (pc + 2) lv (.ref q :: st) (wd ++ [(q, .inl (S0.2.1 t, N', b))]) res9) : Xg E (lFin E mc ms) pc lv (.int v :: st) wd res9 := by
  obtain ⟨p, l, e, R, s, mm, args, below, meth, c, nL, ce, sl, A, S⟩ := E
  intro z hz H locs ls hl hP hD hS
  have g1 := g
  obtain ⟨hx, hb, hml, hnl, hown, hts, hNW, hr, hlk, hR, hK, hSS, hll, hAA, hce, hst⟩ := g
  subst hSS
  obtain ⟨rfl, rfl, hO, hA0⟩ := cn
  subst hR
  subst hty
  have T' : ∀ {w : Cond}, w ∈ GT → w.before args s = true := fun h => hts _ (List.mem_cons_of_mem _ h)
  obtain ⟨a1, a2, a3, a4, a5, a6, a7, a8, a9, a10, a11, a12, a13, a14, a15, a16⟩ := g1
  refine va_newa hx hb (T' hw) rfl hK hP hD hS hAA (a0 := (N', b)) hb0 hv.1 hv.2 hbytes hroom.1 hroom.2 d (fun q cA H1 hK1 hP1 hD1 hS1 => ?_)
  have hc := y_cA hK ht hK1
  subst hc
  exact kk (p, l, e, R, s, mm, args, below, meth, c, nL, ce + 1, sl + N', A, S) ⟨a1, a2, a3, a4, a5, a6, a7, a8, a9, rfl, a11, rfl, a13, a14, hroom, a16⟩ ⟨rfl, rfl, hO, hA0⟩ q z hz H1 locs ls hl hP1 hD1 hS1
theorem l_ctor (g : xGood E l0 S0 own cc yy n ret R0) (cn : xCntL E ce0 sl0 A0) {y : MethodName} {b2 : ByteArray} {n2 na : Nat} {rm2 : Room} {cj q : Nat} {gs as : List Value} {mc2 ms2 nn : Nat} {sh : Nat → xSh} {m : xMem} {ext : (Nat → Nat) → Prop} (st : List Value) (C : yCt l0 S0 y b2 n2 rm2 cj gs as mc2 ms2 sh nn m ext) (d : decode cc pc = .ok (.invokespecial idx, 3)) (L : xMI own idx y b2 n2 na) (hn : as.length = na) (hstk : st0 = as.reverse ++ .ref q :: st) (hcat : (st.map fun v => v.category).sum ≤ 8) (hroom : rm2.cells = mc2 ∧ rm2.slots = ms2 ∧ rm2.frames + 1 ≤ R0.frames ∧ 8 + (n2 + 11) + rm2.locals ≤ R0.locals ∧ ce0 + mc2 ≤ R0.cells ∧ sl0 + ms2 ≤ R0.slots)
    (kk : ∀ E' : xE, xGood E' l0 S0 own cc yy n ret R0 → xCntL E' (ce0 + mc2) (sl0 + ms2) A0 → ∀ ad : Nat → Nat, ad 0 = q → ext ad → Xg E' (lFin E' mc ms) (pc + 3) lv st (wd ++ xwd (S0, sh, nn, ad) m) res9) : Xg E (lFin E mc ms) pc lv st0 (wd ++ [(q, .inr (cj, gs))]) res9 := by
  obtain ⟨p, l, e, R, s, mm, args, below, meth, c, nL, ce, sl, A, S⟩ := E
  intro z hz H locs ls hl hP hD hS
  have g1 := g
  obtain ⟨hx, hb, hml, hnl, hown, hts, hNW, hr, hlk, hR, hK, hSS, hll, hAA, hce, hst⟩ := g
  subst hSS
  obtain ⟨rfl, rfl, hO, hA0⟩ := cn
  subst hR
  subst hll
  have T' : ∀ {w : Cond}, w ∈ GT → w.before args s = true := fun h => hts _ (List.mem_cons_of_mem _ h)
  obtain ⟨a1, a2, a3, a4, a5, a6, a7, a8, a9, a10, a11, a12, a13, a14, a15, a16⟩ := g1
  obtain ⟨L1, L2, L3, L4, L5, L7, L8, L9⟩ := L
  have hxl : (wd ++ [(q, (.inr (cj, gs) : va_E))])[wd.length]? = some (q, .inr (cj, gs)) := by simp
  have hAin : ∀ a : Nat, va_A [(q, (.inr (cj, gs) : va_E))] H.size a → A a := by
    intro a h
    rcases h with ⟨k2, e2, h2⟩ | h2
    · have h0 : k2 < 1 := (List.getElem?_eq_some_iff.mp h2).1
      rw [show k2 = 0 by omega] at h2
      have hx : (q, (.inr (cj, gs) : va_E)) = (a, e2) := by simpa using h2
      cases hx
      exact hD.2 _ _ hxl
    · exact hAA a (Nat.le_trans hS.1 h2)
  have hq1 : va_P S.1 vwCl [(q, (.inr (cj, gs) : va_E))] H := fun k x h => by
    have h0 : k < 1 := (List.getElem?_eq_some_iff.mp h).1
    rw [show k = 0 by omega] at h
    have hx : (q, (.inr (cj, gs) : va_E)) = x := by simpa using h
    subst hx
    exact hP _ _ hxl
  have hq2 : va_D (fun _ => True) [(q, (.inr (cj, gs) : va_E))] := by
    refine ⟨fun i j x y hi hj _ => ?_, fun _ _ _ => trivial⟩
    have h1 : i < 1 := (List.getElem?_eq_some_iff.mp hi).1
    have h2 : j < 1 := (List.getElem?_eq_some_iff.mp hj).1
    omega
  have hq : ∀ U : State, U.heap = H → s.WarmedH U.vm → (va_Pc (.ref q :: as) (yPre S cj gs q H.size)) (Value.ref q :: as).toArray U := fun U hU hW =>
    ⟨rfl, by rw [hU], by rw [hU]; exact hq1, va_K.moved hW.alike hK, hq2, xNW.warm hW hNW, by rw [hU]; exact xSt.to hW hS.2.1 hAin hst, xAO.moved hW.alike hO⟩
  have hlen9 : ∀ sig, parseMethodDescriptor y.desc = some sig → na = sig.parameters.length := fun sig h => by
    rw [h] at L9
    exact (Option.some.inj L9).symm
  have hr : va_Run p l e R s mm args below meth c H locs ce sl mc2 ms2 (F0 mm pc ls st0) st (fun st oc t => (oc = .returned none ∧ yPost S cj gs q H.size sh nn m ext t) ∧ va_F (va_A [(q, .inr (cj, gs))] H.size) st t) (va_A [(q, .inr (cj, gs))] H.size) := by
    rcases L1 with L1 | ⟨hh, L1⟩
    · exact va_runI (b := q) (As := as) (rest := st) (n := na) (maxL := n2) (bytes := b2) ⟨hx, hb, hml, hown, hts⟩ (C q H.size) ⟨⟨hroom.1, hroom.2.1, hroom.2.2.1, hroom.2.2.2.1, pay_in hts (GT_cons L5), List.mem_cons_self, T' L5, T' L4, ⟨L7, L8⟩, hlen9, T' L1⟩, L2, T' L3⟩ ⟨yPre_blind, hq⟩ rfl hn (by rw [← hnl]; exact hl.1) hstk (lv_room hcat) d ⟨hroom.2.2.2.2.1, hroom.2.2.2.2.2⟩
    · exact va_runIN (b := q) (As := as) (rest := st) (n := na) (maxL := n2) (bytes := b2) (host := hh) ⟨hx, hb, hml, hown, hts⟩ (C q H.size) ⟨⟨⟨hroom.1, hroom.2.1, hroom.2.2.1, hroom.2.2.2.1, pay_in hts (GT_cons L5), List.mem_cons_self⟩, T' L5, T' L4, ⟨L7, L8⟩, hlen9, va_Nw.use rfl (hNW _ L1)⟩, L2, T' L3⟩ ⟨yPre_blind, hq⟩ rfl hn (by rw [← hnl]; exact hl.1) hstk (lv_room hcat) d ⟨hroom.2.2.2.2.1, hroom.2.2.2.2.2⟩
  intro T9 hT9 X9
  obtain ⟨v, st₀, t, T1, L, h0, X', hL, e1, e2, ⟨⟨hv, ad, had, hext, hP1, hD1⟩, hz9, hk9⟩, stp⟩ := hr T9 hT9 X9
  cases hv
  rw [h0] at hz9 hk9
  obtain ⟨hPj, hDj⟩ := y_join hP hD hk9 hAin hP1 hD1
  obtain ⟨t2, b1, b2⟩ := kk (p, l, e, R, s, mm, args, below, meth, c, nL, ce + mc2, sl + ms2, A, S) ⟨a1, a2, a3, a4, a5, a6, a7, a8, a9, rfl, a11, rfl, rfl, a14, ⟨hroom.2.2.2.2.1, hroom.2.2.2.2.2⟩, a16⟩ ⟨rfl, rfl, hO, hA0⟩ ad had hext z hz T1.heap (locs ++ L) ls hl (by rw [e1]; exact hPj) hDj
    ⟨Nat.le_trans hS.1 (by rw [e1]; exact hz9), fun a h1 h2 => by rw [e1, hk9 a (Nat.lt_of_lt_of_le h1 hS.1) (fun z => h2 (hAin a z))]; exact hS.2.1 a h1 h2, fun a ha => by
      rcases List.mem_append.mp ha with h | h
      · exact hS.2.2 a h
      · exact hAin _ (hL a h)⟩ T1 rfl X'
  exact ⟨t2, stp t2 b1, b2⟩
end LN
