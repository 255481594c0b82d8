/-! Layer 2. book: all its lines read -/
section ZBA
variable {m m' mC mC' mM mM' C0 M0 C1 M1 : xMem} {n p lim q i : Nat} {b : Nat → Nat} {s t : Bool}
theorem zLb_bad {k : Int32} {q' : Nat} (hk : ¬ k = 0) (R : zRd n lim q b C0 M0 mC mM) : zLb n lim q' b C0 M0 mC mM i ((Tokens_fail mC k).bind fun r => (rz r.1).bind fun w => some (w, r.2)) ((M_bad mM k).bind fun r => (rz r.1).bind fun w => some (w, r.2)) := by
  obtain ⟨a, c, e1, e2, e3⟩ := zT_fail hk R
  exact Or.inr ⟨a, c, by rw [e1, Option.bind_some, rz_0, Option.bind_some], by rw [e2, Option.bind_some, rz_0, Option.bind_some], e3⟩
/-- the class's way through one line, with what comes then -/
def zBcl (m : xMem) (i : Nat) : Option (Int32 × xMem) :=
  if (m.1 3 8) < 16 then Book_readAll_b40 6 m else if 20 < (m.1 3 8) then Book_readAll_b40 6 m else if Int32.ofNat i < 40 then Book_readLine m 6 (78 + i) else (Tokens_fail m 4).bind fun r6 => (rz r6.1).bind fun w => some (w, r6.2)
theorem zLb_line (P : zPh C0 M0) (hi : i ≤ 40) (h45 : mM.1 0 45 = Int32.ofNat i) (R : zRd n lim q b C0 M0 mC mM) : zLb n lim (q + 1) b C0 M0 mC mM i (zBcl mC i) (M_bookLine mM) ∧ ∀ (K : xMem → Option (Int32 × xMem)), (if (mC.1 3 8) < 16 then Book_readAll_b40 6 mC else if 20 < (mC.1 3 8) then Book_readAll_b40 6 mC else if Int32.ofNat i < 40 then (ix (Int32.ofNat i) 40).bind fun j2 => (Book_readLine mC 6 (78 + j2)).bind fun r3 => if r3.1 = 0 then some (0, r3.2) else K r3.2 else (Tokens_fail mC 4).bind fun r6 => (rz r6.1).bind fun w => some (w, r6.2)) = ((zBcl mC i).bind fun r3 => if r3.1 = 0 then some (0, r3.2) else K r3.2) := by
  obtain ⟨i0, j0⟩ := zM_isW (k := 16) (lit := 1818586724) (by omega) (by decide +kernel) R
  obtain ⟨i1, j1⟩ := zM_isW (k := 17) (lit := 1752527720) (by omega) (by decide +kernel) R
  obtain ⟨i2, j2⟩ := zM_isW (k := 18) (lit := 7103860) (by omega) (by decide +kernel) R
  obtain ⟨i3, j3⟩ := zM_isW (k := 19) (lit := 495673374068) (by omega) (by decide +kernel) R
  obtain ⟨i4, j4⟩ := zM_isW (k := 20) (lit := 1752135026) (by omega) (by decide +kernel) R
  have t0 : zb true ≠ 0 := by decide
  have hfail : ∀ k : Int32, ¬ k = 0 → ∃ a : xMem, ((Tokens_fail mC k).bind fun r => (rz r.1).bind fun w => some (w, r.2)) = some (0, a) := fun k hk => by
    obtain ⟨a, c, e1, e2, e3⟩ := zT_fail hk R
    exact ⟨a, by rw [e1, Option.bind_some, rz_0, Option.bind_some]⟩
  obtain ⟨f1, hf1⟩ := hfail 1 (by decide)
  obtain ⟨f4, hf4⟩ := hfail 4 (by decide)
  have hf1' : Book_readAll_b40 6 mC = some (0, f1) := hf1
  have part2 : ∀ (K : xMem → Option (Int32 × xMem)), (if (mC.1 3 8) < 16 then Book_readAll_b40 6 mC else if 20 < (mC.1 3 8) then Book_readAll_b40 6 mC else if Int32.ofNat i < 40 then (ix (Int32.ofNat i) 40).bind fun j2 => (Book_readLine mC 6 (78 + j2)).bind fun r3 => if r3.1 = 0 then some (0, r3.2) else K r3.2 else (Tokens_fail mC 4).bind fun r6 => (rz r6.1).bind fun w => some (w, r6.2)) = ((zBcl mC i).bind fun r3 => if r3.1 = 0 then some (0, r3.2) else K r3.2) := fun K => by
    unfold zBcl
    by_cases h1 : mC.1 3 8 < 16
    · rw [if_pos h1, if_pos h1, hf1', Option.bind_some, if_pos rfl]
    · rw [if_neg h1, if_neg h1]
      by_cases h2 : 20 < mC.1 3 8
      · rw [if_pos h2, if_pos h2, hf1', Option.bind_some, if_pos rfl]
      · rw [if_neg h2, if_neg h2]
        by_cases h3 : i < 40
        · rw [if_pos (show Int32.ofNat i < 40 from (z_lt (b := 40) (by omega) (by omega)).mpr h3), if_pos (show Int32.ofNat i < 40 from (z_lt (b := 40) (by omega) (by omega)).mpr h3), z_ix h3 (by omega), Option.bind_some]
        · rw [if_neg (show ¬ Int32.ofNat i < 40 from fun e => h3 ((z_lt (b := 40) (by omega) (by omega)).mp e)), if_neg (show ¬ Int32.ofNat i < 40 from fun e => h3 ((z_lt (b := 40) (by omega) (by omega)).mp e)), hf4, Option.bind_some, if_pos rfl]
  refine ⟨?_, part2⟩
  -- a word in range
  have inr : ∀ (a : Nat) (W : Int32), a ≤ 4 → W = Int32.ofNat (16 + a) → mC.1 3 8 = W → mM.1 0 11 = 1 → (i < 40 → zLb n lim (q + 1) b C0 M0 mC mM i (Book_readLine mC 6 (78 + i)) (M_bookLine_b78 (Int32.ofNat (4 * i)) (Int32.ofNat a) mM)) → zLb n lim (q + 1) b C0 M0 mC mM i (zBcl mC i) (M_bookLine_b78 (4 * mM.1 0 45) (Int32.ofNat a) mM) := fun a W ha hW h8 h11 hh => by
    unfold zBcl
    rw [h45, show (4 * Int32.ofNat i : Int32) = Int32.ofNat (4 * i) from z_mul 4 i, h8, hW, if_neg (show ¬ Int32.ofNat (16 + a) < 16 from fun e => by have := (z_lt (b := 16) (by omega) (by omega)).mp e; omega), if_neg (show ¬ 20 < Int32.ofNat (16 + a) from fun e => by have := (z_lt (a := 20) (by omega) (by omega)).mp e; omega)]
    by_cases h3 : i < 40
    · rw [if_pos (show Int32.ofNat i < 40 from (z_lt (b := 40) (by omega) (by omega)).mpr h3)]
      exact hh h3
    · rw [if_neg (show ¬ Int32.ofNat i < 40 from fun e => h3 ((z_lt (b := 40) (by omega) (by omega)).mp e))]
      unfold M_bookLine_b78
      rw [if_neg (z_nn (by omega)), h45, if_pos (show Int32.ofNat i = 40 by rw [show i = 40 by omega]; rfl)]
      exact zLb_bad (by decide) R
  unfold M_bookLine
  rw [nm_eq, i0, Option.bind_some]
  by_cases h0 : mC.1 3 8 = 16
  · rw [decide_eq_true (show mC.1 3 8 = Int32.ofNat 16 from h0), if_neg t0]
    exact inr 0 16 (by omega) rfl h0 (j0 h0) (fun h => zLb_lend P h h45 h0 (j0 h0) R)
  rw [decide_eq_false (show ¬ mC.1 3 8 = Int32.ofNat 16 from h0), if_pos (show zb false = 0 from rfl), i1, Option.bind_some]
  by_cases h1 : mC.1 3 8 = 17
  · rw [decide_eq_true (show mC.1 3 8 = Int32.ofNat 17 from h1), if_neg t0]
    exact inr 1 17 (by omega) rfl h1 (j1 h1) (fun h => zLb_hush P h h45 h1 (j1 h1) R)
  rw [decide_eq_false (show ¬ mC.1 3 8 = Int32.ofNat 17 from h1), if_pos (show zb false = 0 from rfl), i2, Option.bind_some]
  by_cases h2 : mC.1 3 8 = 18
  · rw [decide_eq_true (show mC.1 3 8 = Int32.ofNat 18 from h2), if_neg t0]
    exact inr 2 18 (by omega) rfl h2 (j2 h2) (fun h => zLb_let P h h45 h2 (j2 h2) R)
  rw [decide_eq_false (show ¬ mC.1 3 8 = Int32.ofNat 18 from h2), if_pos (show zb false = 0 from rfl), i3, Option.bind_some]
  by_cases h3 : mC.1 3 8 = 19
  · rw [decide_eq_true (show mC.1 3 8 = Int32.ofNat 19 from h3), if_neg t0]
    exact inr 3 19 (by omega) rfl h3 (j3 h3) (fun h => zLb_shout P h h45 h3 (j3 h3) R)
  rw [decide_eq_false (show ¬ mC.1 3 8 = Int32.ofNat 19 from h3), if_pos (show zb false = 0 from rfl), i4, Option.bind_some]
  by_cases h4 : mC.1 3 8 = 20
  · rw [decide_eq_true (show mC.1 3 8 = Int32.ofNat 20 from h4), if_neg t0]
    exact inr 4 20 (by omega) rfl h4 (j4 h4) (fun h => zLb_hour P h h45 h4 (j4 h4) R)
  rw [decide_eq_false (show ¬ mC.1 3 8 = Int32.ofNat 20 from h4), if_pos (show zb false = 0 from rfl)]
  have hout : mC.1 3 8 < 16 ∨ 20 < mC.1 3 8 := by
    obtain ⟨s, hkd⟩ := zRd_kd R
    rcases zKd_word hkd with ⟨_, _, w, _, _, _, w4⟩ | ⟨_, _, w4⟩
    · cases hq : zFst (fun k => decide (zWrd k = w)) 32 with
      | none => left; rw [w4, hq]; decide
      | some k =>
        have hk := zFst_lt hq
        have e : mC.1 3 8 = Int32.ofNat k := by rw [w4, hq]; rfl
        rw [e] at h0 h1 h2 h3 h4 ⊢
        have n0 : ¬ k = 16 := fun q => h0 (by rw [q]; rfl)
        have n1 : ¬ k = 17 := fun q => h1 (by rw [q]; rfl)
        have n2 : ¬ k = 18 := fun q => h2 (by rw [q]; rfl)
        have n3 : ¬ k = 19 := fun q => h3 (by rw [q]; rfl)
        have n4 : ¬ k = 20 := fun q => h4 (by rw [q]; rfl)
        by_cases h5 : k < 16
        · left; exact (z_lt (b := 16) (by omega) (by omega)).mpr h5
        · right; exact (z_lt (a := 20) (by omega) (by omega)).mpr (by omega)
    · left; rw [w4]; decide
  unfold M_bookLine_b78 zBcl
  rw [if_pos (show (-1 : Int32) < 0 by decide)]
  by_cases h5 : mC.1 3 8 < 16
  · rw [if_pos h5]
    exact zLb_bad (by decide) R
  · rw [if_neg h5, if_pos (by rcases hout with h | h; exact absurd h h5; exact h)]
    exact zLb_bad (by decide) R
/-- all the lines -/
theorem zLb_lines {p0 : Int32} (P : zPh C0 M0) (R : zRd n lim 0 b C0 M0 mC mM) (h45 : mM.1 0 45 = 0) : (∃ i mC' mM', i ≤ 40 ∧ Book_readAll mC 6 = some (1, mC') ∧ M_book_b39 p0 1000 mM = ((M_tries mM').bind fun r7 => M_book_b89 p0 1000 0 r7) ∧ zRd n lim 0 b C0 M0 mC' mM' ∧ mM'.1 0 45 = Int32.ofNat i ∧ mC'.1 76 1 = Int32.ofNat i ∧ ∀ k, k < i → zBk (M0.1 2) mC' mM' k) ∨ (∃ mC' mM', Book_readAll mC 6 = some (0, mC') ∧ M_book_b39 p0 1000 mM = some (-2 - mM'.1 0 16, mM') ∧ zBad C0 M0 mC' mM') := by
  unfold Book_readAll
  rw [nm_eq]
  have R0 := zRd_C (zCw_I (c := 76) (j := 1) (v := 0) (by omega)) R
  generalize eq1 : upI mC 76 1 0 = c1 at R0
  have h76 : c1.1 76 1 = 0 := by rw [← eq1, upI_at]
  refine z_loopX (fun f i (s : xMem × xMem) => (Book_readAll_b7 6 f (Int32.ofNat i) s.1, M_book_b39 p0 f s.2)) 41 (fun i s => i ≤ 40 ∧ zRd n lim 0 b C0 M0 s.1 s.2 ∧ s.2.1 0 45 = Int32.ofNat i ∧ s.1.1 76 1 = Int32.ofNat i ∧ ∀ k, k < i → zBk (M0.1 2) s.1 s.2 k) (fun r => (∃ i mC' mM', i ≤ 40 ∧ r.1 = some (1, mC') ∧ r.2 = ((M_tries mM').bind fun r7 => M_book_b89 p0 1000 0 r7) ∧ zRd n lim 0 b C0 M0 mC' mM' ∧ mM'.1 0 45 = Int32.ofNat i ∧ mC'.1 76 1 = Int32.ofNat i ∧ ∀ k, k < i → zBk (M0.1 2) mC' mM' k) ∨ (∃ mC' mM', r.1 = some (0, mC') ∧ r.2 = some (-2 - mM'.1 0 16, mM') ∧ zBad C0 M0 mC' mM')) (fun f i s hi hI => ?_) (fun f s hI => ?_) 41 0 1000 (c1, mM) (by omega) (by omega) ⟨by omega, R0, h45, h76, fun k hk => by omega⟩
  · obtain ⟨c1, m1⟩ := s
    dsimp only at hI ⊢
    obtain ⟨hi40, R1, k45, k76, rows⟩ := hI
    obtain ⟨s, hkd⟩ := zRd_kd R1
    have h40 : ¬ 40 < Int32.ofNat i := fun e => by have := (z_lt (a := 40) (by omega) (by omega)).mp e; omega
    rcases zKd_end hkd with ⟨a, c⟩ | ⟨a, c⟩
    · left; left
      exact ⟨i, c1, m1, hi40, by rw [Book_readAll_b7, if_neg h40, if_pos a], by rw [M_book_b39, if_pos c], R1, k45, k76, rows⟩
    · obtain ⟨hL, hK⟩ := zLb_line P hi40 k45 R1
      have hc := hK (fun m => (Tokens_skipSign m 59).bind fun r4 => if r4.1 = 0 then some (0, r4.2) else nm (upI r4.2 76 1 (Int32.ofNat i + 1)) fun m5 => Book_readAll_b7 6 f (Int32.ofNat i + 1) m5)
      have hcl : Book_readAll_b7 6 (f + 1) (Int32.ofNat i) c1 = ((zBcl c1 i).bind fun r3 => if r3.1 = 0 then some (0, r3.2) else ((Tokens_skipSign r3.2 59).bind fun r4 => if r4.1 = 0 then some (0, r4.2) else nm (upI r4.2 76 1 (Int32.ofNat i + 1)) fun m5 => Book_readAll_b7 6 f (Int32.ofNat i + 1) m5)) := by
        rw [← hc, Book_readAll_b7, if_neg h40, if_neg a]
      rcases hL with ⟨c2, m2, e1, e2, R2, l45, l76, lc, lm, lb⟩ | ⟨c2, m2, e1, e2, Bd⟩
      · rcases zT_sign (k := 59) (by decide) (by omega) R2 with ⟨c3, m3, x1, x2, R3, G⟩ | ⟨c3, m3, x1, x2, Bd⟩
        · have x1' : Tokens_skipSign c2 59 = some (1, c3) := x1
          have x2' : M_sign m2 59 = some (1, m3) := x2
          have k3 : m3.1 0 45 = Int32.ofNat i := by rw [G.2.2.2.2.1 45 (by omega) (by omega), l45, k45]
          by_cases h40' : i = 40
          · -- no line is read at 40
            exfalso
            have hz : zBcl c1 i = some (1, c2) := e1
            unfold zBcl at hz
            have hf : ∀ k : Int32, ¬ k = 0 → ¬ ((Tokens_fail c1 k).bind fun r => (rz r.1).bind fun w => some (w, r.2)) = some (1, c2) := fun k hk he => by
              obtain ⟨a', c', e1', e2', e3'⟩ := zT_fail hk R1
              rw [e1', Option.bind_some, rz_0, Option.bind_some] at he
              have hne : (0 : Int32) = 1 := congrArg Prod.fst (Option.some.inj he)
              exact absurd hne (by decide)
            by_cases w1 : c1.1 3 8 < 16
            · rw [if_pos w1] at hz; exact hf 1 (by decide) hz
            · rw [if_neg w1] at hz
              by_cases w2 : 20 < c1.1 3 8
              · rw [if_pos w2] at hz; exact hf 1 (by decide) hz
              · rw [if_neg w2, if_neg (show ¬ Int32.ofNat i < 40 from fun e => by have := (z_lt (b := 40) (by omega) (by omega)).mp e; omega)] at hz
                exact hf 4 (by decide) hz
          right
          refine ⟨(upI c3 76 1 (Int32.ofNat (i + 1)), upI m3 0 45 (Int32.ofNat (i + 1))), ⟨by omega, zRd_up (by omega) (zRd_M (zMw_0 (by omega)) (zRd_C (zCw_I (by omega)) R3)), upI_at, upI_at, fun k hk => ?_⟩, ?_⟩
          · refine zBk_tr (mC := c3) (mM := m3) (upI_ne' (by omega)) (fun j _ _ => by rw [upI_ne' (by omega)]) ?_
            refine zBk_tr (mC := c2) (mM := m2) (G.1 (78 + k) (by omega)) (fun j _ _ => by rw [G.2.2.2.1 4 (by omega)]) ?_
            by_cases h : k = i
            · rw [h]; exact lb
            · exact zBk_tr (lc (78 + k) (by omega) (by omega) (by omega)) (fun j h1 h2 => lm j (by omega)) (rows k (by omega))
          · rw [hcl, e1, Option.bind_some, M_book_b39, if_neg c, e2, Option.bind_some]
            dsimp only
            rw [if_neg (show ¬ (1 : Int32) = 0 by decide), if_neg (show ¬ (1 : Int32) = 0 by decide), x1', x2', Option.bind_some, Option.bind_some]
            dsimp only
            rw [if_neg (show ¬ (1 : Int32) = 0 by decide), if_neg (show ¬ (1 : Int32) = 0 by decide), nm_eq, nm_eq, k3, z_s]
        · left; right
          have x1' : Tokens_skipSign c2 59 = some (0, c3) := x1
          have x2' : M_sign m2 59 = some (0, m3) := x2
          refine ⟨c3, m3, ?_, ?_, Bd⟩
          · rw [hcl, e1, Option.bind_some]
            dsimp only
            rw [if_neg (show ¬ (1 : Int32) = 0 by decide), x1', Option.bind_some, if_pos rfl]
          · rw [M_book_b39, if_neg c, e2, Option.bind_some, if_neg (show ¬ (1 : Int32) = 0 by decide), x2', Option.bind_some, if_pos rfl]
      · left; right
        refine ⟨c2, m2, ?_, ?_, Bd⟩
        · rw [hcl, e1, Option.bind_some, if_pos rfl]
        · rw [M_book_b39, if_neg c, e2, Option.bind_some, if_pos rfl]
  · obtain ⟨h, _⟩ := hI
    omega
end ZBA
