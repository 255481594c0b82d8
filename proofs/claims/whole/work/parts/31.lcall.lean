section LC
variable {E : xE} {l0 : Launch} {GC GM : xG} {out : Nat} {mC mM : xMem} {f : Nat → Int64} {own : String} {cc : ByteArray} {yy : MethodName} {n : Nat} {ret : Option FieldType} {R0 : Room} {sh : Nat → xSh} {ρ : Type} {fin : ρ → State → Prop} {pc : Nat} {lv : List (Nat × Value)} {st st0 : List Value} {res : Option ρ} {y : MethodName} {b2 : ByteArray} {n2 na idx : Nat} {r2 : Option FieldType} {rm2 : Room} {as : List Value}
/-- the law calls the class, or the model -/
theorem l_invC (g : xGood E l0 GC.1 own cc yy n ret R0) (hw : xWG GC sh) {k ci : Nat} {fds : List Nat} {o : Option Value × xMem} (C : xCt l0 GC y b2 n2 r2 rm2 (.ref (xad GC k) :: as) mC (some o)) (d : decode cc pc = .ok (.invokevirtual idx, 3)) (L : xML own idx ci y b2 n2 r2 na) (hs : sh k = .inl (ci, fds)) (hn : as.length = na) (hstk : st0 = as.reverse ++ .ref (xad GC k) :: st) (hcat : (st.map fun v => v.category).sum ≤ 8) (hroom : xRm rm2 n2 R0) (kk : Xg E fin (pc + 3) lv (o.1.toList ++ st) (lwd GC GM out o.2 mM f) res) : Xg E fin pc lv st0 (lwd GC GM out mC mM f) res := by
  obtain ⟨p, l, e, R, s, mm, args, below, meth, c, nL, ce, sl, A, S⟩ := E
  intro z hz H locs ls hl hP hD hS
  obtain ⟨hx, hb, hml, hnl, hown, hts, hNW, hr, hlk, hR, hK, hSS, hll, hAA, hce, hst⟩ := g
  subst hSS
  subst hR
  subst hll
  obtain ⟨L1, L2, L3, L4, L5, ⟨T, N, L6⟩, L7, L8, L9⟩ := L
  obtain ⟨hk, hq⟩ := xGood_N hw (k := k) (by rw [hs]; intro h; cases h)
  have hP1 := lP_left hP
  have hD1 := lD_left hD
  have hat : (xwd GC mC)[k]? = some (xad GC k, .inr (ci, xfs (xad GC) mC k 0 fds)) := by rw [xwd_at hk, hq, hs]; rfl
  have T' : ∀ {w : Cond}, w ∈ GT → w.before args s = true := fun h => hts _ (List.mem_cons_of_mem _ h)
  have hAin := xA_in (H := H) hD1 hAA hS.1
  have h9 : ∀ sig, parseMethodDescriptor y.desc = some sig → na = sig.parameters.length := fun sig h => by
    rw [h] at L9
    exact (Option.some.inj L9).symm
  have hrun : va_Run p l e R s mm args below meth c H locs ce sl 0 0 (F0 mm pc ls st0) st (xQ GC H.size o.1 o.2 (Value.ref (xad GC k) :: as).toArray) (xA GC H.size) := va_runV (As := as) (rest := st) (n := na) (maxL := n2) (ret := r2) (bytes := b2) ⟨hx, hb, hml, hown, hts⟩ (C o rfl H.size) ⟨⟨hroom.1, hroom.2.1, hroom.2.2.1, hroom.2.2.2, pay_in hts (GT_cons L5), List.mem_cons_self, T' L5, T' L4, ⟨L7, L8⟩, h9, T' L1⟩, T' L2, T' L3⟩ ⟨xPc_blind, va_recv hK hP1 L6 hat, fun U hU hW => ⟨rfl, by rw [hU], ⟨by rw [hU]; exact hP1, va_K.moved hW.alike hK, hD1.weaken (fun _ _ _ _ => trivial)⟩, xNW.warm hW hNW, by rw [hU]; exact xSt.to hW hS.2.1 hAin hst⟩⟩ rfl hn (by rw [← hnl]; exact hl.1) hstk (lv_room hcat) d hce
  intro T9 hT9 X9
  obtain ⟨v, st₀, t, T1, L, h0, X', hL, e1, e2, ⟨⟨hv, hW1⟩, hz9, hk9⟩, stp⟩ := hrun T9 hT9 X9
  cases hv
  rw [h0] at hz9 hk9
  obtain ⟨hPj, hDj⟩ := lwd_C hP hD hW1.1 hk9
  obtain ⟨t2, b1, b2⟩ := kk z hz T1.heap (locs ++ L) ls hl (by rw [e1]; exact hPj) hDj
    ⟨Nat.le_trans hS.1 (by rw [e1]; exact hz9), fun a h1 h2 => by rw [e1, hk9 a (Nat.lt_of_lt_of_le h1 hS.1) (fun z => h2 (hAin a z))]; exact hS.2.1 a h1 h2, fun a ha => by
      rcases List.mem_append.mp ha with h | h
      · exact hS.2.2 a h
      · exact hAin _ (hL a h)⟩ T1 rfl X'
  exact ⟨t2, stp t2 b1, b2⟩
theorem l_invM (g : xGood E l0 GM.1 own cc yy n ret R0) (hw : xWG GM sh) {k ci : Nat} {fds : List Nat} {o : Option Value × xMem} (C : xCt l0 GM y b2 n2 r2 rm2 (.ref (xad GM k) :: as) mM (some o)) (d : decode cc pc = .ok (.invokevirtual idx, 3)) (L : xML own idx ci y b2 n2 r2 na) (hs : sh k = .inl (ci, fds)) (hn : as.length = na) (hstk : st0 = as.reverse ++ .ref (xad GM k) :: st) (hcat : (st.map fun v => v.category).sum ≤ 8) (hroom : xRm rm2 n2 R0) (kk : Xg E fin (pc + 3) lv (o.1.toList ++ st) (lwd GC GM out mC o.2 f) res) : Xg E fin pc lv st0 (lwd GC GM out mC mM f) res := by
  obtain ⟨p, l, e, R, s, mm, args, below, meth, c, nL, ce, sl, A, S⟩ := E
  intro z hz H locs ls hl hP hD hS
  obtain ⟨hx, hb, hml, hnl, hown, hts, hNW, hr, hlk, hR, hK, hSS, hll, hAA, hce, hst⟩ := g
  subst hSS
  subst hR
  subst hll
  obtain ⟨L1, L2, L3, L4, L5, ⟨T, N, L6⟩, L7, L8, L9⟩ := L
  obtain ⟨hk, hq⟩ := xGood_N hw (k := k) (by rw [hs]; intro h; cases h)
  have hP1 := lP_left (lP_right hP)
  have hD1 := lD_left (lD_right hD)
  have hat : (xwd GM mM)[k]? = some (xad GM k, .inr (ci, xfs (xad GM) mM k 0 fds)) := by rw [xwd_at hk, hq, hs]; rfl
  have T' : ∀ {w : Cond}, w ∈ GT → w.before args s = true := fun h => hts _ (List.mem_cons_of_mem _ h)
  have hAin := xA_in (H := H) hD1 hAA hS.1
  have h9 : ∀ sig, parseMethodDescriptor y.desc = some sig → na = sig.parameters.length := fun sig h => by
    rw [h] at L9
    exact (Option.some.inj L9).symm
  have hrun : va_Run p l e R s mm args below meth c H locs ce sl 0 0 (F0 mm pc ls st0) st (xQ GM H.size o.1 o.2 (Value.ref (xad GM k) :: as).toArray) (xA GM H.size) := va_runV (As := as) (rest := st) (n := na) (maxL := n2) (ret := r2) (bytes := b2) ⟨hx, hb, hml, hown, hts⟩ (C o rfl H.size) ⟨⟨hroom.1, hroom.2.1, hroom.2.2.1, hroom.2.2.2, pay_in hts (GT_cons L5), List.mem_cons_self, T' L5, T' L4, ⟨L7, L8⟩, h9, T' L1⟩, T' L2, T' L3⟩ ⟨xPc_blind, va_recv hK hP1 L6 hat, fun U hU hW => ⟨rfl, by rw [hU], ⟨by rw [hU]; exact hP1, va_K.moved hW.alike hK, hD1.weaken (fun _ _ _ _ => trivial)⟩, xNW.warm hW hNW, by rw [hU]; exact xSt.to hW hS.2.1 hAin hst⟩⟩ rfl hn (by rw [← hnl]; exact hl.1) hstk (lv_room hcat) d hce
  intro T9 hT9 X9
  obtain ⟨v, st₀, t, T1, L, h0, X', hL, e1, e2, ⟨⟨hv, hW1⟩, hz9, hk9⟩, stp⟩ := hrun T9 hT9 X9
  cases hv
  rw [h0] at hz9 hk9
  obtain ⟨hPj, hDj⟩ := lwd_M hP hD hW1.1 hk9
  obtain ⟨t2, b1, b2⟩ := kk z hz T1.heap (locs ++ L) ls hl (by rw [e1]; exact hPj) hDj
    ⟨Nat.le_trans hS.1 (by rw [e1]; exact hz9), fun a h1 h2 => by rw [e1, hk9 a (Nat.lt_of_lt_of_le h1 hS.1) (fun z => h2 (hAin a z))]; exact hS.2.1 a h1 h2, fun a ha => by
      rcases List.mem_append.mp ha with h | h
      · exact hS.2.2 a h
      · exact hAin _ (hL a h)⟩ T1 rfl X'
  exact ⟨t2, stp t2 b1, b2⟩
theorem l_Ci (g : xGood E l0 GC.1 own cc yy n ret R0) (hw : xWG GC sh) {k ci : Nat} {fds : List Nat} {ou : Option (Int32)} {F : Int32 → Option ρ} (as : List Value) (st : List Value) (C : xCi l0 GC y b2 n2 r2 rm2 (.ref (xad GC k) :: as) mC ou) (d : decode cc pc = .ok (.invokevirtual idx, 3)) (L : xML own idx ci y b2 n2 r2 na) (hs : sh k = .inl (ci, fds)) (hn : as.length = na) (hstk : st0 = as.reverse ++ .ref (xad GC k) :: st) (hcat : (st.map fun v => v.category).sum ≤ 8) (hroom : xRm rm2 n2 R0) (kk : ∀ r, ou = some r → Xg E fin (pc + 3) lv (.int r :: st) (lwd GC GM out mC mM f) (F r)) : Xg E fin pc lv st0 (lwd GC GM out mC mM f) (ou.bind F) := by
  cases ho : ou with
  | none => exact x_none
  | some r =>
    subst ho
    exact l_invC g hw C d L hs hn hstk hcat hroom (kk r rfl)
theorem l_Cim (g : xGood E l0 GC.1 own cc yy n ret R0) (hw : xWG GC sh) {k ci : Nat} {fds : List Nat} {ou : Option (Int32 × xMem)} {F : Int32 × xMem → Option ρ} (as : List Value) (st : List Value) (C : xCim l0 GC y b2 n2 r2 rm2 (.ref (xad GC k) :: as) mC ou) (d : decode cc pc = .ok (.invokevirtual idx, 3)) (L : xML own idx ci y b2 n2 r2 na) (hs : sh k = .inl (ci, fds)) (hn : as.length = na) (hstk : st0 = as.reverse ++ .ref (xad GC k) :: st) (hcat : (st.map fun v => v.category).sum ≤ 8) (hroom : xRm rm2 n2 R0) (kk : ∀ r, ou = some r → Xg E fin (pc + 3) lv (.int r.1 :: st) (lwd GC GM out r.2 mM f) (F r)) : Xg E fin pc lv st0 (lwd GC GM out mC mM f) (ou.bind F) := by
  cases ho : ou with
  | none => exact x_none
  | some r =>
    subst ho
    exact l_invC g hw C d L hs hn hstk hcat hroom (kk r rfl)
theorem l_Mi (g : xGood E l0 GM.1 own cc yy n ret R0) (hw : xWG GM sh) {k ci : Nat} {fds : List Nat} {ou : Option (Int32)} {F : Int32 → Option ρ} (as : List Value) (st : List Value) (C : xCi l0 GM y b2 n2 r2 rm2 (.ref (xad GM k) :: as) mM ou) (d : decode cc pc = .ok (.invokevirtual idx, 3)) (L : xML own idx ci y b2 n2 r2 na) (hs : sh k = .inl (ci, fds)) (hn : as.length = na) (hstk : st0 = as.reverse ++ .ref (xad GM k) :: st) (hcat : (st.map fun v => v.category).sum ≤ 8) (hroom : xRm rm2 n2 R0) (kk : ∀ r, ou = some r → Xg E fin (pc + 3) lv (.int r :: st) (lwd GC GM out mC mM f) (F r)) : Xg E fin pc lv st0 (lwd GC GM out mC mM f) (ou.bind F) := by
  cases ho : ou with
  | none => exact x_none
  | some r =>
    subst ho
    exact l_invM g hw C d L hs hn hstk hcat hroom (kk r rfl)
theorem l_Mim (g : xGood E l0 GM.1 own cc yy n ret R0) (hw : xWG GM sh) {k ci : Nat} {fds : List Nat} {ou : Option (Int32 × xMem)} {F : Int32 × xMem → Option ρ} (as : List Value) (st : List Value) (C : xCim l0 GM y b2 n2 r2 rm2 (.ref (xad GM k) :: as) mM ou) (d : decode cc pc = .ok (.invokevirtual idx, 3)) (L : xML own idx ci y b2 n2 r2 na) (hs : sh k = .inl (ci, fds)) (hn : as.length = na) (hstk : st0 = as.reverse ++ .ref (xad GM k) :: st) (hcat : (st.map fun v => v.category).sum ≤ 8) (hroom : xRm rm2 n2 R0) (kk : ∀ r, ou = some r → Xg E fin (pc + 3) lv (.int r.1 :: st) (lwd GC GM out mC r.2 f) (F r)) : Xg E fin pc lv st0 (lwd GC GM out mC mM f) (ou.bind F) := by
  cases ho : ou with
  | none => exact x_none
  | some r =>
    subst ho
    exact l_invM g hw C d L hs hn hstk hcat hroom (kk r rfl)
end LC
