/-! Layer 2. sentence: a plain one -/
def zGdL (l : List zTp3) : Prop := ∀ t ∈ l, 21 ≤ t.1.toInt ∧ t.1.toInt ≤ 31 ∧ (t.1 = 26 → ¬ t.2.2 = -1)
def zVal (l : List zTp3) (d : Nat) : Prop := ∀ n0 rest, n0 + d ≤ 20 → zStack (l.map (fun t => zStp t.1) ++ rest) n0 = zStack rest (n0 + 1)
/-- what a reader of a part leaves, both ways -/
def zRs1 (n lim : Nat) (b : Nat → Nat) (C0 M0 : xMem) (S : List Int32) (w k : Nat) (l : List zTp3) (oa : Bool → Bool → Prop) (Q : xMem → Prop) (r1 r2 : Option (Int32 × xMem)) : Prop :=
  (∃ o a j k' f' q' new mC' mM', oa o a ∧ Q mC' ∧ r1 = some (1, mC') ∧ r2 = M_sentence_b48 f' 1 mM' ∧ mM'.1 0 53 = 1 ∧ zXs n lim b C0 M0 S o a j w k' f' q' (l ++ new) mC' mM' ∧ k + 1 ≤ k' ∧ new.length + 1 ≤ 2 * (k' - k) ∧ zGdL new ∧ zVal new (k' - k)) ∨
  (∃ mC' mM', r1 = some (0, mC') ∧ r2 = some (-1 - mM'.1 0 16, mM') ∧ zBad C0 M0 mC' mM')
section ZPL
variable {m m' mC mC' mM mM' C0 M0 : xMem} {n lim q j w k f g i : Nat} {b : Nat → Nat} {S : List Int32} {o a : Bool} {l : List zTp3}
theorem zM_leafOf (R : zRd n lim q b C0 M0 mC mM) : (∀ i, i < 8 → mC.1 3 8 = Int32.ofNat (24 + i) → M_leafOf mM = some (Int32.ofNat i)) ∧ ((∀ i, i < 8 → ¬ mC.1 3 8 = Int32.ofNat (24 + i)) → M_leafOf mM = some (-1)) := by
  have i0 := (zM_isW (k := 24) (lit := 422725643876) (by omega) (by decide +kernel) R).1
  have i1 := (zM_isW (k := 25) (lit := 1953459300) (by omega) (by decide +kernel) R).1
  have i2 := (zM_isW (k := 26) (lit := 465726040947) (by omega) (by decide +kernel) R).1
  have i3 := (zM_isW (k := 27) (lit := 25209) (by omega) (by decide +kernel) R).1
  have i4 := (zM_isW (k := 28) (lit := 448377483891) (by omega) (by decide +kernel) R).1
  have i5 := (zM_isW (k := 29) (lit := 461414299507) (by omega) (by decide +kernel) R).1
  have i6 := (zM_isW (k := 30) (lit := 120299675936100) (by omega) (by decide +kernel) R).1
  have i7 := (zM_isW (k := 31) (lit := 121450625394034) (by omega) (by decide +kernel) R).1
  have t0 : ¬ zb true = 0 := by decide
  have f0 : zb false = 0 := rfl
  unfold M_leafOf
  refine ⟨fun i hi h => ?_, fun h => ?_⟩
  · rw [h] at i0 i1 i2 i3 i4 i5 i6 i7
    have hd : ∀ x, x < 8 → ∀ y, y < 8 → (decide (Int32.ofNat (24 + x) = Int32.ofNat (24 + y)) : Bool) = decide (x = y) := by decide +kernel
    have e0 := hd i hi 0 (by omega)
    have e1 := hd i hi 1 (by omega)
    have e2 := hd i hi 2 (by omega)
    have e3 := hd i hi 3 (by omega)
    have e4 := hd i hi 4 (by omega)
    have e5 := hd i hi 5 (by omega)
    have e6 := hd i hi 6 (by omega)
    have e7 := hd i hi 7 (by omega)
    rw [e0] at i0
    rw [e1] at i1
    rw [e2] at i2
    rw [e3] at i3
    rw [e4] at i4
    rw [e5] at i5
    rw [e6] at i6
    rw [e7] at i7
    rw [i0, i1, i2, i3, i4, i5, i6, i7]
    have : ∀ x, x < 8 → ((some (zb (decide (x = 0)))).bind fun r1 => if r1 = 0 then (some (zb (decide (x = 1)))).bind fun r2 => if r2 = 0 then (some (zb (decide (x = 2)))).bind fun r3 => if r3 = 0 then (some (zb (decide (x = 3)))).bind fun r4 => if r4 = 0 then (some (zb (decide (x = 4)))).bind fun r5 => if r5 = 0 then (some (zb (decide (x = 5)))).bind fun r6 => if r6 = 0 then (some (zb (decide (x = 6)))).bind fun r7 => if r7 = 0 then (some (zb (decide (x = 7)))).bind fun r8 => if r8 = 0 then some ((-1 : Int32)) else some 7 else some 6 else some 5 else some 4 else some 3 else some 2 else some 1 else some 0) = some (Int32.ofNat x) := by decide +kernel
    exact this i hi
  · have e0 : decide (mC.1 3 8 = Int32.ofNat 24) = false := decide_eq_false (h 0 (by omega))
    have e1 : decide (mC.1 3 8 = Int32.ofNat 25) = false := decide_eq_false (h 1 (by omega))
    have e2 : decide (mC.1 3 8 = Int32.ofNat 26) = false := decide_eq_false (h 2 (by omega))
    have e3 : decide (mC.1 3 8 = Int32.ofNat 27) = false := decide_eq_false (h 3 (by omega))
    have e4 : decide (mC.1 3 8 = Int32.ofNat 28) = false := decide_eq_false (h 4 (by omega))
    have e5 : decide (mC.1 3 8 = Int32.ofNat 29) = false := decide_eq_false (h 5 (by omega))
    have e6 : decide (mC.1 3 8 = Int32.ofNat 30) = false := decide_eq_false (h 6 (by omega))
    have e7 : decide (mC.1 3 8 = Int32.ofNat 31) = false := decide_eq_false (h 7 (by omega))
    rw [i0, e0, Option.bind_some, if_pos f0, i1, e1, Option.bind_some, if_pos f0, i2, e2, Option.bind_some, if_pos f0, i3, e3, Option.bind_some, if_pos f0, i4, e4, Option.bind_some, if_pos f0, i5, e5, Option.bind_some, if_pos f0, i6, e6, Option.bind_some, if_pos f0, i7, e7, Option.bind_some, if_pos f0]
/-- a leaf told by both: its step, behind what was read for it -/
theorem zP_leaf {s x : Int32} (hi : i < 8) (hx : i = 2 → ¬ x = -1) (hk : k + 1 ≤ 20) (hq : zSq mC l) (hm : zSm mM l) (hl : l.length ≤ 2 * k) : ∃ mC' mM', Sentence_addStep mC 71 (Int32.ofNat (24 + i)) s x = some mC' ∧ M_putCode mM (Int32.ofNat i) s x = some mM' ∧ zSq mC' (l ++ [(Int32.ofNat (24 + i), s, x)]) ∧ zSm mM' (l ++ [(Int32.ofNat (24 + i), s, x)]) ∧ zCw mC mC' ∧ (∀ j, j ≠ 2 → mC'.1 71 j = mC.1 71 j) ∧ zSf mM mM' ∧ (∀ j, j ≠ 49 → mM'.1 0 j = mM.1 0 j) ∧ zGdL [(Int32.ofNat (24 + i), s, x)] ∧ zVal [(Int32.ofNat (24 + i), s, x)] 1 := by
  have hst : ∀ i, i < 8 → Int32.ofNat i = zStp (Int32.ofNat (24 + i)) := by decide +kernel
  have hran : ∀ i, i < 8 → 21 ≤ (Int32.ofNat (24 + i)).toInt ∧ (Int32.ofNat (24 + i)).toInt ≤ 31 ∧ (Int32.ofNat (24 + i) = 26 → i = 2) := by decide +kernel
  obtain ⟨mC', c1, c2, c3, c4, c5, c6⟩ := zC_add (w := Int32.ofNat (24 + i)) (s := s) (n := x) hq (by omega)
  obtain ⟨mM', d1, d2, d3, d4, d5⟩ := zM_put (p0 := Int32.ofNat i) (w := Int32.ofNat (24 + i)) (s := s) (n := x) hm (by omega) (hst i hi)
  refine ⟨mC', mM', c1, d1, c2, d2, c6, c4, ⟨d3, fun j h _ _ => d4 j h, d5⟩, d4, fun t ht => ?_, fun n0 rest hn => ?_⟩
  · rw [List.mem_singleton] at ht
    subst ht
    obtain ⟨a1, a2, a3⟩ := hran i hi
    exact ⟨a1, a2, fun e => hx (a3 e)⟩
  · have hz : ∀ i, i < 8 → zStp (Int32.ofNat (24 + i)) ≠ 20 ∧ ¬ (zStp (Int32.ofNat (24 + i)) = 21 ∨ zStp (Int32.ofNat (24 + i)) = 22) := by decide +kernel
    obtain ⟨a1, a2⟩ := hz i hi
    show zStack (zStp (Int32.ofNat (24 + i)) :: rest) n0 = _
    rw [zStack, if_neg a1, if_neg a2, if_pos (by omega)]
/-- what stands behind a plain one's word -/
def zSy (n lim : Nat) (b : Nat → Nat) (C0 M0 : xMem) (S : List Int32) (w k g q : Nat) (l : List zTp3) (mC mM : xMem) : Prop := zXs n lim b C0 M0 S false false 0 w k g q l mC mM
theorem zSy_mk (R : zRd n lim q b C0 M0 mC mM) (hf : 1000 ≤ g + q) (hq : zSq mC l) (hm : zSm mM l) (hT : zSt mM S) (hD : mM.1 0 52 = Int32.ofNat w) (h1 : mC.1 71 1 = Int32.ofNat k) (h2 : mM.1 0 50 = Int32.ofNat k) (hk : k ≤ 20) (hl : l.length ≤ 2 * k) (hS : S.length ≤ 2 * k) (hw : w ≤ 9) : zXs n lim b C0 M0 S false false 0 w k g q l mC mM := by
  have hp : S ++ zPd false false 0 = S := by unfold zPd; simp
  exact ⟨R, hf, hq, ⟨l, by unfold zEm; simp, hm⟩, by rw [hp]; exact hT, hD, h1, h2, hk, hl, by rw [hp]; exact hS, hw⟩
/-- the model's leaf, behind its word: mM is where 'whole' is set -/
def zMlf (v3 : Int32) (m7 : xMem) : Option (Int32 × xMem) :=
          if v3 < 2 then
            (M_putCode m7 v3 0 0).bind fun r8 =>
            some (1, r8)
          else
            if v3 < 5 then
              if v3 = 2 then
                (M_isSide m7).bind fun r9 =>
                M_operand_b186 v3 r9.1 r9.2
              else
                if v3 = 3 then
                  (M_looksAt m7 6 (m7.1 2 1)).bind fun r10 =>
                  M_operand_b186 v3 r10.1 r10.2
                else
                  (M_isKind m7).bind fun r11 =>
                  M_operand_b186 v3 r11.1 r11.2
            else
              if (m7.1 0 11) = 3 then
                if (m7.1 0 14) < 60 then
                  M_operand_b237 m7
                else
                  if 62 < (m7.1 0 14) then
                    M_operand_b237 m7
                  else
                    nm (m7.1 0 14) fun x12 =>
                    (M_go m7).bind fun r13 =>
                    if (r13.1 0 11) = 2 then
                      (M_putCode r13 v3 x12 (r13.1 0 14)).bind fun r14 =>
                      (M_go r14).bind fun r15 =>
                      some (1, r15)
                    else
                      (M_bad r13 1).bind fun r16 =>
                      (rz r16.1).bind fun w => some (w, r16.2)
              else
                M_operand_b237 m7
/-- the outcome of a leaf -/
def zLf1 (n lim : Nat) (b : Nat → Nat) (C0 M0 : xMem) (S : List Int32) (w k g q : Nat) (l : List zTp3) (r1 r2 : Option (Int32 × xMem)) : Prop :=
  (∃ t mC' mM', r1 = some (1, mC') ∧ r2 = some (1, mM') ∧ mM'.1 0 53 = 1 ∧ zXs n lim b C0 M0 S false false 0 w (k + 1) g q (l ++ [t]) mC' mM' ∧ zGdL [t] ∧ zVal [t] 1) ∨ (∃ mC' mM', r1 = some (0, mC') ∧ r2 = some (0, mM') ∧ zBad C0 M0 mC' mM')
theorem zL_len {t : zTp3} (h : l.length ≤ 2 * k) : (l ++ [t]).length ≤ 2 * (k + 1) := by
  rw [List.length_append]
  show l.length + 1 ≤ _
  omega
/-- blind, told -/
theorem zLf_01 (hi : i < 2) (h53 : mM.1 0 53 = 1) (hk : k + 1 ≤ 20) (hl : l.length ≤ 2 * k) (h : zXs n lim b C0 M0 S false false 0 w (k + 1) g q l mC mM) : zLf1 n lim b C0 M0 S w k g q l (Sentence_readPlain_b137 71 6 (Int32.ofNat (24 + i)) 0 0 mC) ((M_putCode mM (Int32.ofNat i) 0 0).bind fun r8 => some (1, r8)) := by
  obtain ⟨mC', mM', c1, c2, c3, c4, c5, c6, c7, c8, c9, c10⟩ := zP_leaf (i := i) (s := 0) (x := 0) (by omega) (fun e => by omega) hk h.2.2.1 (zXs_s h) hl
  unfold Sentence_readPlain_b137
  rw [c1, c2, Option.bind_some, Option.bind_some, if_neg (show ¬ (0 : Int32) = -1 by decide)]
  have hT := zXs_T h
  obtain ⟨R, hf, hq, _, _, hD, hk1, hk2, hk', hl', hTl, hw⟩ := h
  have hp : S ++ zPd false false 0 = S := by unfold zPd; simp
  rw [hp] at hTl
  refine Or.inl ⟨_, mC', mM', rfl, rfl, by rw [c8 53 (by omega)]; exact h53, zSy_mk (zRd_M (zSf_w c7) (zRd_C c5 R)) hf c3 c4 (zSt_tr (c7.1 19 (by omega) (by omega)) (c8 51 (by omega)) hT) (by rw [c8 52 (by omega)]; exact hD) (by rw [c6 1 (by omega)]; exact hk1) (by rw [c8 50 (by omega)]; exact hk2) hk' (zL_len hl) hTl hw, c9, c10⟩
/-- a word or a name, then its step -/
theorem zLf_w {x : Nat} {r : xMem → Option (Int32 × xMem)} (hi : i < 8) (hx : x < 1000) (h53 : mM.1 0 53 = 1) (hk : k + 1 ≤ 20) (hl : l.length ≤ 2 * k) (h : zXs n lim b C0 M0 S false false 0 w (k + 1) g q l mC mM) : zLf1 n lim b C0 M0 S w k g q l (((Tokens_advance mC).bind fun r => some (Int32.ofNat x, r)).bind fun r1 => Sentence_readPlain_b137 71 6 (Int32.ofNat (24 + i)) 0 r1.1 r1.2) (M_operand_b186 (Int32.ofNat i) 1 (upI mM 0 18 (Int32.ofNat x))) := by
  have hT := zXs_T h
  have hm := zXs_s h
  obtain ⟨R, hf, hq, _, _, hD, hk1, hk2, hk', hl', hTl, hw⟩ := h
  have hp : S ++ zPd false false 0 = S := by unfold zPd; simp
  rw [hp] at hTl
  unfold M_operand_b186
  rw [if_neg (show ¬ (1 : Int32) = 0 by decide), upI_at]
  obtain ⟨c1, m1, x1, _, _, G0⟩ := zT_go R
  have hq1 : zSq c1 l := zSq_tr (by rw [G0.1 71 (by omega)]) (G0.1 72 (by omega)) (G0.1 73 (by omega)) (G0.1 74 (by omega)) hq
  obtain ⟨mC', mM', c1', c2, c3, c4, c5, c6, c7, c8, c9, c10⟩ := zP_leaf (i := i) (s := 0) (x := Int32.ofNat x) hi (fun _ => z_nm1 (by omega)) hk hq1 (zSm_tr (mM' := upI mM 0 18 (Int32.ofNat x)) (upI_ne' (by omega)) (upI_nj (by omega)) hm) hl
  obtain ⟨c1b, m2, x1b, x2, R2, G⟩ := zT_go (zRd_M (zMw_t (zMw_18 (v := Int32.ofNat x)) (zSf_w c7)) R)
  have ec : c1b = c1 := Option.some.inj (x1b.symm.trans x1)
  subst ec
  rw [x1, Option.bind_some, Option.bind_some, c2, Option.bind_some, x2, Option.bind_some]
  dsimp only
  unfold Sentence_readPlain_b137
  rw [c1', Option.bind_some, if_neg (z_nm1 (show x < 2147483648 by omega))]
  have e0 : ∀ j, j ≠ 4 → (j < 11 ∨ 18 < j) → j ≠ 49 → m2.1 0 j = mM.1 0 j := fun j h4 hj h49 => by rw [G.2.2.2.2.1 j h4 (by omega), c8 j h49, upI_nj (by omega)]
  refine Or.inl ⟨_, mC', m2, rfl, rfl, by rw [e0 53 (by omega) (by omega) (by omega)]; exact h53, zSy_mk (zRd_C c5 R2) hf c3 (zSm_tr (G.2.2.2.1 4 (by omega)) (G.2.2.2.2.1 49 (by omega) (by omega)) c4) (zSt_tr (by rw [G.2.2.2.1 19 (by omega), c7.1 19 (by omega) (by omega), upI_ne' (by omega)]) (e0 51 (by omega) (by omega) (by omega)) hT) (by rw [e0 52 (by omega) (by omega) (by omega)]; exact hD) (by rw [c6 1 (by omega), G.1 71 (by omega)]; exact hk1) (by rw [e0 50 (by omega) (by omega) (by omega)]; exact hk2) hk' (zL_len hl) hTl hw, c9, c10⟩
theorem zLf_wbad {x : Int32} (hx : x = -1) (hq : zSq mC' l) (hl : l.length < 40) (Bd : zBad C0 M0 mC' mM') : zLf1 n lim b C0 M0 S w k g q l ((some (x, mC')).bind fun r1 => Sentence_readPlain_b137 71 6 (Int32.ofNat (24 + i)) 0 r1.1 r1.2) (M_operand_b186 (Int32.ofNat i) 0 mM') := by
  subst hx
  obtain ⟨mC2, c1, c2, c3, c4, c5, c6⟩ := zC_add (w := Int32.ofNat (24 + i)) (s := 0) (n := -1) hq hl
  rw [Option.bind_some]
  dsimp only
  unfold Sentence_readPlain_b137 M_operand_b186
  rw [c1, Option.bind_some, if_pos rfl, if_pos rfl]
  exact Or.inr ⟨mC2, mM', rfl, rfl, zBad_C c6 Bd⟩
end ZPL
