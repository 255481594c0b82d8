/-! Layer 2. What is told on the tape; code -/
theorem z_loopX {β S : Type} (L : Nat → Nat → S → β) (N : Nat) (I : Nat → S → Prop) (P : β → Prop) (hs : ∀ fuel i m, i < N → I i m → P (L (fuel + 1) i m) ∨ ∃ m', I (i + 1) m' ∧ L (fuel + 1) i m = L fuel (i + 1) m') (he : ∀ fuel m, I N m → P (L (fuel + 1) N m)) : ∀ (j i fuel : Nat) (m : S), i + j = N → j < fuel → I i m → P (L fuel i m) := by
  intro j
  induction j with
  | zero =>
    intro i fuel m h1 h2 hI
    obtain ⟨f, rfl⟩ : ∃ f, fuel = f + 1 := ⟨fuel - 1, by omega⟩
    have hi : i = N := by omega
    subst hi
    exact he f m hI
  | succ j ih =>
    intro i fuel m h1 h2 hI
    obtain ⟨f, rfl⟩ : ∃ f, fuel = f + 1 := ⟨fuel - 1, by omega⟩
    rcases hs f i m (by omega) hI with h3 | ⟨m', h3, h4⟩
    · exact h3
    · rw [h4]
      exact ih (i + 1) f m' (by omega) (by omega) h3
theorem z_scan {β : Type} (L : Nat → Nat → β) (n : Nat) (P : Nat → Bool) (E : Nat → β) (F : β) (h1 : ∀ fuel i, i < n → P i = true → L (fuel + 1) i = E i) (h2 : ∀ fuel i, i < n → P i = false → L (fuel + 1) i = L fuel (i + 1)) (he : ∀ fuel, L (fuel + 1) n = F) {fuel : Nat} (hf : n < fuel) : L fuel 0 = match zFst P n with | some i => E i | none => F := by
  refine z_loopX (fun f i (_ : Unit) => L f i) n (fun i _ => ∀ k, k < i → P k = false) (fun r => r = match zFst P n with | some i => E i | none => F) (fun f i _ hi hI => ?_) (fun f _ hI => ?_) n 0 fuel () (by omega) hf (fun k hk => by omega)
  · cases hp : P i with
    | true =>
      left
      rw [h1 f i hi hp, zFst_eq hi hp hI]
    | false =>
      right
      refine ⟨(), fun k hk => ?_, h2 f i hi hp⟩
      by_cases h : k = i
      · rw [h]; exact hp
      · exact hI k (by omega)
  · rw [he, zFst_none.mpr hI]
section ZTK
variable {m m' mC mC' mM mM' r : xMem} {σ τ : zR}
theorem zC_at {j : Nat} (h : j < 940) : Tape_at m 1 (Int32.ofNat j) = some (m.1 2 j) := by
  unfold Tape_at
  have hl : tapeLen 1 = 940 := rfl
  rw [hl, if_neg (z_nn (by omega)), if_pos (show Int32.ofNat j < nI 940 from (z_lt (b := 940) (by omega) (by omega)).mpr h), z_ix h (by omega), Option.bind_some]
theorem zM_oct {j : Nat} (h : j < 940) : M_octet m (Int32.ofNat j) = some (m.1 1 j &&& 255) := by
  unfold M_octet
  rw [z_ix h (by omega), Option.bind_some]
/-- the tape taken: so many bytes d, both tapes empty -/
def zTkd (n : Nat) (d : Nat → Int32) (mC mM c1 r : xMem) : Prop :=
  (n ≤ 940) ∧ (r.1 0 3 = Int32.ofNat n) ∧ (zRel c1 r) ∧ (∀ j, j < n → M_octet r (Int32.ofNat j) = some (d j)) ∧ (∀ j, j < n → zr (d j) 0 255) ∧ (c1.1 2 = d) ∧ (r.1 1 = mM.1 1) ∧ (∀ c, c ≠ 1 → c1.1 c = mC.1 c) ∧ (c1.2 = mC.2) ∧ (∀ c, c ≠ 0 → r.1 c = mM.1 c) ∧ (∀ j, j ≠ 2 → j ≠ 3 → j ≠ 4 → j ≠ 5 → r.1 0 j = mM.1 0 j) ∧ (r.1 0 4 = 0) ∧ (r.1 0 5 = 940) ∧ (r.2 = mM.2)
theorem zTkd.le {n : Nat} {d : Nat → Int32} {mC mM c1 r : xMem} (h : zTkd n d mC mM c1 r) : n ≤ 940 := h.1
theorem zTkd.n3 {n : Nat} {d : Nat → Int32} {mC mM c1 r : xMem} (h : zTkd n d mC mM c1 r) : r.1 0 3 = Int32.ofNat n := h.2.1
theorem zTkd.rel {n : Nat} {d : Nat → Int32} {mC mM c1 r : xMem} (h : zTkd n d mC mM c1 r) : zRel c1 r := h.2.2.1
theorem zTkd.oct {n : Nat} {d : Nat → Int32} {mC mM c1 r : xMem} (h : zTkd n d mC mM c1 r) : ∀ j, j < n → M_octet r (Int32.ofNat j) = some (d j) := h.2.2.2.1
theorem zTkd.bt {n : Nat} {d : Nat → Int32} {mC mM c1 r : xMem} (h : zTkd n d mC mM c1 r) : ∀ j, j < n → zr (d j) 0 255 := h.2.2.2.2.1
theorem zTkd.c2 {n : Nat} {d : Nat → Int32} {mC mM c1 r : xMem} (h : zTkd n d mC mM c1 r) : c1.1 2 = d := h.2.2.2.2.2.1
theorem zTkd.r1 {n : Nat} {d : Nat → Int32} {mC mM c1 r : xMem} (h : zTkd n d mC mM c1 r) : r.1 1 = mM.1 1 := h.2.2.2.2.2.2.1
theorem zTkd.cn {n : Nat} {d : Nat → Int32} {mC mM c1 r : xMem} (h : zTkd n d mC mM c1 r) : ∀ c, c ≠ 1 → c1.1 c = mC.1 c := h.2.2.2.2.2.2.2.1
theorem zTkd.cL {n : Nat} {d : Nat → Int32} {mC mM c1 r : xMem} (h : zTkd n d mC mM c1 r) : c1.2 = mC.2 := h.2.2.2.2.2.2.2.2.1
theorem zTkd.rn {n : Nat} {d : Nat → Int32} {mC mM c1 r : xMem} (h : zTkd n d mC mM c1 r) : ∀ c, c ≠ 0 → r.1 c = mM.1 c := h.2.2.2.2.2.2.2.2.2.1
theorem zTkd.r0 {n : Nat} {d : Nat → Int32} {mC mM c1 r : xMem} (h : zTkd n d mC mM c1 r) : ∀ j, j ≠ 2 → j ≠ 3 → j ≠ 4 → j ≠ 5 → r.1 0 j = mM.1 0 j := h.2.2.2.2.2.2.2.2.2.2.1
theorem zTkd.r4 {n : Nat} {d : Nat → Int32} {mC mM c1 r : xMem} (h : zTkd n d mC mM c1 r) : r.1 0 4 = 0 := h.2.2.2.2.2.2.2.2.2.2.2.1
theorem zTkd.r5 {n : Nat} {d : Nat → Int32} {mC mM c1 r : xMem} (h : zTkd n d mC mM c1 r) : r.1 0 5 = 940 := h.2.2.2.2.2.2.2.2.2.2.2.2.1
theorem zTkd.rL {n : Nat} {d : Nat → Int32} {mC mM c1 r : xMem} (h : zTkd n d mC mM c1 r) : r.2 = mM.2 := h.2.2.2.2.2.2.2.2.2.2.2.2.2
theorem zM_taken (H : zRel mC mM) : ∃ n r, mC.1 1 1 = Int32.ofNat n ∧ M_taken mM 940 = some r ∧ zTkd n (mC.1 2) mC mM (upI mC 1 1 0) r := by
  obtain ⟨n, h1, h2, h3, h4⟩ := H.2.2.2.2.2.1
  unfold M_taken
  rw [nm_eq]
  generalize e1 : upI mM 0 3 (mM.1 0 2) = m1
  rw [nm_eq]
  generalize e2 : upI m1 0 2 0 = m2
  rw [nm_eq]
  generalize e3 : upI m2 0 4 0 = m3
  rw [nm_eq]
  generalize e4 : upI m3 0 5 940 = m4
  have f1 : ∀ c, c ≠ 0 → m4.1 c = mM.1 c := fun c hc => by rw [← e4, upI_ne' hc, ← e3, upI_ne' hc, ← e2, upI_ne' hc, ← e1, upI_ne' hc]
  have f2 : ∀ j, j ≠ 2 → j ≠ 3 → j ≠ 4 → j ≠ 5 → m4.1 0 j = mM.1 0 j := fun j a b c d => by rw [← e4, upI_nj d, ← e3, upI_nj c, ← e2, upI_nj a, ← e1, upI_nj b]
  have f3 : m4.1 0 3 = Int32.ofNat n := by rw [← e4, upI_nj (by omega), ← e3, upI_nj (by omega), ← e2, upI_nj (by omega), ← e1, upI_at, h3]
  have f4 : m4.1 0 2 = 0 := by rw [← e4, upI_nj (by omega), ← e3, upI_nj (by omega), ← e2, upI_at]
  have f5 : m4.2 = mM.2 := by rw [← e4, ← e3, ← e2, ← e1]; rfl
  have f6 : m4.1 0 4 = 0 := by rw [← e4, upI_nj (by omega), ← e3, upI_at]
  have f7 : m4.1 0 5 = 940 := by rw [← e4, upI_at]
  refine ⟨n, m4, h2, rfl, ⟨h1, f3, ?_, fun j hj => ?_, fun j hj => (h4 j hj).2, upI_ne' (by omega), f1 1 (by omega), fun c hc => upI_ne' hc, rfl, f1, f2, f6, f7, f5⟩⟩
  · have hR2 : zRel (upI mC 1 1 0) (upI mM 0 2 0) := zRel_tp ⟨fun c c1 c2 => upI_ne' c1, rfl, fun c c1 c2 => upI_ne' c1, fun j hj => upI_nj hj, rfl⟩ ⟨0, by omega, upI_at, upI_at, fun j hj => by omega⟩ H
    refine zRel_tr zSC_rf ⟨fun c hc => ?_, fun j hj => ?_, fun c hc => by rw [f5]; rfl⟩ hR2
    · rw [upI_ne' (by omega), f1 c (by omega)]
    · by_cases h : j = 2
      · rw [h, f4, upI_at]
      · rw [upI_nj h, f2 j (by omega) (by omega) (by omega) (by omega)]
  · rw [zM_oct (by omega), f1 1 (by omega), ← (h4 j hj).1]
/-- the first sound that an owl hears on a side -/
def zSnd (σ : zR) (o : Nat) (p : Int32) : Option Nat := zFst (fun i => zHears σ o (zSit σ o) i && decide (zSide σ (zSit σ o) (zX σ i) (zY σ i) = p)) (zC σ)
theorem zC_soundOn (hH : zH m 6 σ) (hT : zT m 33 σ) (hc : zCt σ) (hw : zWs σ) {o : Nat} (ho : o < zO σ) {p : Int32} (hp : ¬ p = -1) : O_soundOnSide m (Int32.ofNat o) p = some (zN (zSnd σ o p)) := by
  obtain ⟨e1, hb⟩ := zSit_eq hw hc ho
  have o6 := hc.2.1.2
  have c8 := hc.2.2.2
  unfold O_soundOnSide
  rw [z_ix (show o < 6 by omega) (by omega), Option.bind_some, hT.2.2.2.2 o ho, e1, nm_eq]
  have h := z_scan (fun f i => O_soundOnSide_b25 m (Int32.ofNat o) p f (Int32.ofNat (zSit σ o)) (Int32.ofNat i)) (zC σ) (fun i => zHears σ o (zSit σ o) i && decide (zSide σ (zSit σ o) (zX σ i) (zY σ i) = p)) (fun i => some (Int32.ofNat i)) (some (-1)) (fun f i hi hp1 => ?_) (fun f i hi hp1 => ?_) (fun f => ?_) (fuel := 1000) (by omega)
  · refine h.trans ?_
    unfold zSnd
    cases zFst (fun i => zHears σ o (zSit σ o) i && decide (zSide σ (zSit σ o) (zX σ i) (zY σ i) = p)) (zC σ) <;> rfl
  all_goals
    have e8 : m.1 6 8 = Int32.ofNat (zC σ) := by rw [hH.2.2.2.2.2.2.1, hc.2.2.1]
    rw [O_soundOnSide_b25, e8]
  · obtain ⟨q0, q1, q2, q3, -, -⟩ := hH.2.2.2.2.2.2.2.2.2 i hi
    have k0 : zK σ i = σ (49 + i) := by unfold zK; rw [if_neg (by omega)]
    have k1 : zX σ i = σ (57 + i) := by unfold zX; rw [if_neg (by omega)]
    have k2 : zY σ i = σ (65 + i) := by unfold zY; rw [if_neg (by omega)]
    have k3 : zL σ i = σ (73 + i) := by unfold zL; rw [if_neg (by omega)]
    rw [if_pos ((z_lt (by omega) (by omega)).mpr hi), z_ix (by omega) (by omega), Option.bind_some, zC_heardSide hH hc ho hb (q0.trans k0.symm) (q1.trans k1.symm) (q2.trans k2.symm) (q3.trans k3.symm), Option.bind_some]
    rw [Bool.and_eq_true, decide_eq_true_eq] at hp1
    unfold zHears at hp1
    rw [if_pos hp1.1, if_pos hp1.2]
  · obtain ⟨q0, q1, q2, q3, -, -⟩ := hH.2.2.2.2.2.2.2.2.2 i hi
    have k0 : zK σ i = σ (49 + i) := by unfold zK; rw [if_neg (by omega)]
    have k1 : zX σ i = σ (57 + i) := by unfold zX; rw [if_neg (by omega)]
    have k2 : zY σ i = σ (65 + i) := by unfold zY; rw [if_neg (by omega)]
    have k3 : zL σ i = σ (73 + i) := by unfold zL; rw [if_neg (by omega)]
    rw [if_pos ((z_lt (by omega) (by omega)).mpr hi), z_ix (by omega) (by omega), Option.bind_some, zC_heardSide hH hc ho hb (q0.trans k0.symm) (q1.trans k1.symm) (q2.trans k2.symm) (q3.trans k3.symm), Option.bind_some, z_s]
    rw [Bool.and_eq_false_iff, decide_eq_false_iff_not] at hp1
    unfold zHears at hp1
    rw [if_neg]
    intro e
    by_cases h1 : zHears0 σ o (zSit σ o) (zK σ i) (zX σ i) (zY σ i) (zL σ i) = true
    · rw [if_pos h1] at e
      rcases hp1 with h2 | h2
      · rw [h1] at h2; cases h2
      · exact h2 e
    · rw [if_neg h1] at e
      exact hp e.symm
  · rw [if_neg (by rw [z_lt (by omega) (by omega)]; omega)]
theorem zM_soundFor (hm : ∀ j, j < 109 → m.1 2 j = σ j) (hc : zCt σ) (hw : zWs σ) {o : Nat} (ho : o < zO σ) {p : Int32} : M_soundFor m (Int32.ofNat o) p = some (zN (zSnd σ o p)) := by
  obtain ⟨e1, hb⟩ := zSit_eq hw hc ho
  have o6 := hc.2.1.2
  have b6 := hc.1.2
  have c8 := hc.2.2.2
  unfold M_soundFor
  rw [zi_103 (by omega), Option.bind_some, hm (103 + o) (by omega), e1, nm_eq]
  have h := z_scan (fun f i => M_soundFor_b13 m (Int32.ofNat o) p f (Int32.ofNat (zSit σ o)) (Int32.ofNat i)) (zC σ) (fun i => zHears σ o (zSit σ o) i && decide (zSide σ (zSit σ o) (zX σ i) (zY σ i) = p)) (fun i => some (Int32.ofNat i)) (some (-1)) (fun f i hi hp1 => ?_) (fun f i hi hp1 => ?_) (fun f => ?_) (fuel := 1000) (by omega)
  · refine h.trans ?_
    unfold zSnd
    cases zFst (fun i => zHears σ o (zSit σ o) i && decide (zSide σ (zSit σ o) (zX σ i) (zY σ i) = p)) (zC σ) <;> rfl
  all_goals
    have e8 : m.1 2 2 = Int32.ofNat (zC σ) := by rw [hm 2 (by omega), hc.2.2.1]
    rw [M_soundFor_b13, e8]
  · have k1 : zX σ i = σ (57 + i) := by unfold zX; rw [if_neg (by omega)]
    have k2 : zY σ i = σ (65 + i) := by unfold zY; rw [if_neg (by omega)]
    rw [Bool.and_eq_true, decide_eq_true_eq] at hp1
    rw [if_pos ((z_lt (by omega) (by omega)).mpr hi), zM_hears hm hc (by omega) (by omega) (by omega), Option.bind_some, hp1.1, if_neg (by decide), zi_57 (by omega), Option.bind_some, zi_65 (by omega), Option.bind_some, zM_side hm (by omega), Option.bind_some, hm (57 + i) (by omega), hm (65 + i) (by omega), ← k1, ← k2, if_pos hp1.2]
  · have k1 : zX σ i = σ (57 + i) := by unfold zX; rw [if_neg (by omega)]
    have k2 : zY σ i = σ (65 + i) := by unfold zY; rw [if_neg (by omega)]
    rw [Bool.and_eq_false_iff, decide_eq_false_iff_not] at hp1
    rw [if_pos ((z_lt (by omega) (by omega)).mpr hi), zM_hears hm hc (by omega) (by omega) (by omega), Option.bind_some, z_s]
    cases h1 : zHears σ o (zSit σ o) i with
    | false => rw [if_pos (by decide)]
    | true =>
      rcases hp1 with h2 | h2
      · rw [h1] at h2; cases h2
      · rw [if_neg (by decide), zi_57 (by omega), Option.bind_some, zi_65 (by omega), Option.bind_some, zM_side hm (by omega), Option.bind_some, hm (57 + i) (by omega), hm (65 + i) (by omega), ← k1, ← k2, if_neg h2]
  · rw [if_neg (by rw [z_lt (by omega) (by omega)]; omega)]
end ZTK
