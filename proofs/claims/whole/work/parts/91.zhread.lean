/-! Layer 2. house: what both have of a house that is being read -/
def zHd (mC mM : xMem) (B O S W H : Nat) : Prop :=
  (B ≤ 6 ∧ O ≤ 6 ∧ S ≤ 8 ∧ O ≤ B ∧ 2 ≤ W ∧ W ≤ 9 ∧ 2 ≤ H ∧ H ≤ 9) ∧
  (mC.1 44 0 = Int32.ofNat W ∧ mC.1 44 1 = Int32.ofNat H ∧ mC.1 44 2 = mM.1 3 5 ∧ mC.1 44 3 = mM.1 3 6 ∧ mC.1 44 6 = Int32.ofNat B ∧ mC.1 44 7 = Int32.ofNat O ∧ mC.1 44 8 = Int32.ofNat S) ∧
  (mM.1 3 0 = Int32.ofNat B ∧ mM.1 3 1 = Int32.ofNat O ∧ mM.1 3 2 = Int32.ofNat S ∧ mM.1 3 3 = Int32.ofNat W ∧ mM.1 3 4 = Int32.ofNat H) ∧
  (∀ b, b < B → mC.1 (49 + b) 0 = mM.1 3 (7 + b) ∧ mC.1 (49 + b) 1 = mM.1 3 (13 + b) ∧ mC.1 (49 + b) 2 = mM.1 3 (19 + b) - 1 ∧ zr (mM.1 3 (19 + b)) 0 4 ∧ zNm (mC.2 45 b) (mM.2 5 (20 + b))) ∧
  (∀ o, o < O → mC.1 (56 + o) 0 = mM.1 3 (25 + o) ∧ mC.1 (56 + o) 1 = mM.1 3 (31 + o) ∧ mC.1 (56 + o) 2 = mM.1 3 (37 + o) - 1 ∧ mC.1 (56 + o) 3 = mM.1 3 (43 + o) ∧ zr (mM.1 3 (37 + o)) 0 4 ∧ (∃ b, b < B ∧ mM.1 3 (25 + o) = Int32.ofNat b) ∧ (∀ o', o' < o → ¬ mM.1 3 (25 + o') = mM.1 3 (25 + o)) ∧ zNm (mC.2 46 o) (mM.2 5 (26 + o))) ∧
  (∀ i, i < S → (mC.1 (63 + i) 0 = mM.1 3 (49 + i) ∧ mC.1 (63 + i) 1 = mM.1 3 (57 + i) ∧ mC.1 (63 + i) 2 = mM.1 3 (65 + i) ∧ mC.1 (63 + i) 3 = mM.1 3 (73 + i) ∧ mC.1 (63 + i) 4 = mM.1 3 (81 + i) ∧ mC.1 (63 + i) 5 = mM.1 3 (89 + i)) ∧ zNm (mC.2 47 i) (mM.2 5 (32 + i))) ∧
  (∀ o, O ≤ o → o < 6 → mM.1 3 (37 + o) = 0 ∧ mM.1 3 (43 + o) = 0)
/-- what counts of the model's row, of its names -/
def zLv (B O S j : Nat) : Prop := j < 7 ∨ (7 ≤ j ∧ j < 7 + B) ∨ (13 ≤ j ∧ j < 13 + B) ∨ (19 ≤ j ∧ j < 19 + B) ∨ (25 ≤ j ∧ j < 25 + O) ∨ (31 ≤ j ∧ j < 31 + O) ∨ (37 ≤ j ∧ j < 49) ∨ (49 ≤ j ∧ j < 49 + S) ∨ (57 ≤ j ∧ j < 57 + S) ∨ (65 ≤ j ∧ j < 65 + S) ∨ (73 ≤ j ∧ j < 73 + S) ∨ (81 ≤ j ∧ j < 81 + S) ∨ (89 ≤ j ∧ j < 89 + S)
def zLn8 (B O S j : Nat) : Prop := (20 ≤ j ∧ j < 20 + B) ∨ (26 ≤ j ∧ j < 26 + O) ∨ (32 ≤ j ∧ j < 32 + S)
def zHf (mC mM : xMem) (B S : Nat) (s t : Bool) : Prop := mC.1 44 4 = zb s ∧ mC.1 44 5 = zb t ∧ mM.1 0 20 = zb (s || decide (0 < B) || decide (0 < S)) ∧ mM.1 0 21 = zb t
def zHs (mC mM : xMem) : Prop := ∃ B O S W H s t, zHd mC mM B O S W H ∧ zHf mC mM B S s t
/-- a line's end, both ways -/
def zLn (n lim q : Nat) (b : Nat → Nat) (C0 M0 : xMem) (r1 r2 : Option (Int32 × xMem)) : Prop :=
  (∃ mC' mM', r1 = some (1, mC') ∧ r2 = some (1, mM') ∧ zRd n lim q b C0 M0 mC' mM' ∧ zHs mC' mM') ∨ (∃ mC' mM', r1 = some (0, mC') ∧ r2 = some (0, mM') ∧ zBad C0 M0 mC' mM')
section ZHD
variable {m m' mC mC' mM mM' C0 M0 C1 M1 : xMem} {n p lim q B O S W H : Nat} {b : Nat → Nat} {s t : Bool}
theorem zHd_tr (h1 : ∀ c, 44 ≤ c → c < 71 → mC'.1 c = mC.1 c) (h2 : ∀ c, 45 ≤ c → c < 48 → mC'.2 c = mC.2 c) (h3 : ∀ j, zLv B O S j → mM'.1 3 j = mM.1 3 j) (h5 : ∀ j, zLn8 B O S j → mM'.2 5 j = mM.2 5 j) (D : zHd mC mM B O S W H) : zHd mC' mM' B O S W H := by
  obtain ⟨d0, d1, d2, d3, d4, d5, d6⟩ := D
  unfold zLv at h3
  unfold zLn8 at h5
  unfold zHd
  rw [h1 44 (by omega) (by omega), h3 0 (by omega), h3 1 (by omega), h3 2 (by omega), h3 3 (by omega), h3 4 (by omega), h3 5 (by omega), h3 6 (by omega)]
  refine ⟨d0, d1, d2, fun b hb => ?_, fun o ho => ?_, fun i hi => ?_, fun o h h' => ?_⟩
  · rw [h1 (49 + b) (by omega) (by omega), h2 45 (by omega) (by omega), h3 (7 + b) (by omega), h3 (13 + b) (by omega), h3 (19 + b) (by omega), h5 (20 + b) (by omega)]
    exact d3 b hb
  · rw [h1 (56 + o) (by omega) (by omega), h2 46 (by omega) (by omega), h3 (25 + o) (by omega), h3 (31 + o) (by omega), h3 (37 + o) (by omega), h3 (43 + o) (by omega), h5 (26 + o) (by omega)]
    obtain ⟨a1, a2, a3, a4, a5, a6, a7, a8⟩ := d4 o ho
    exact ⟨a1, a2, a3, a4, a5, a6, fun o' ho' => by rw [h3 (25 + o') (by omega)]; exact a7 o' ho', a8⟩
  · rw [h1 (63 + i) (by omega) (by omega), h2 47 (by omega) (by omega), h3 (49 + i) (by omega), h3 (57 + i) (by omega), h3 (65 + i) (by omega), h3 (73 + i) (by omega), h3 (81 + i) (by omega), h3 (89 + i) (by omega), h5 (32 + i) (by omega)]
    exact d5 i hi
  · rw [h3 (37 + o) (by omega), h3 (43 + o) (by omega)]
    exact d6 o h h'
theorem zHd_ok (g : zOk mC mC' mM mM') (D : zHd mC mM B O S W H) : zHd mC' mM' B O S W H :=
  zHd_tr (fun c h _ => g.1 c (by omega)) (fun c h _ => g.2.2.1 c (by omega)) (fun j _ => by rw [g.2.2.2.1 3 (by omega)]) (fun j _ => by rw [g.2.2.2.2.2 5 (by omega)]) D
theorem zHf_ok (g : zOk mC mC' mM mM') (F : zHf mC mM B S s t) : zHf mC' mM' B S s t := by
  unfold zHf
  rw [g.1 44 (by omega), g.2.2.2.2.1 20 (by omega) (by omega), g.2.2.2.2.1 21 (by omega) (by omega)]
  exact F
theorem zHd_M (h3 : mM'.1 3 = mM.1 3) (h5 : mM'.2 5 = mM.2 5) (D : zHd mC mM B O S W H) : zHd mC mM' B O S W H :=
  zHd_tr (fun _ _ _ => rfl) (fun _ _ _ => rfl) (fun j _ => by rw [h3]) (fun j _ => by rw [h5]) D
theorem z_len (k : Nat) : (20 + Int32.ofNat k : Int32) = Int32.ofNat (20 + k) ∧ (26 + Int32.ofNat k : Int32) = Int32.ofNat (26 + k) ∧ (32 + Int32.ofNat k : Int32) = Int32.ofNat (32 + k) := ⟨z_add 20 k, z_add 26 k, z_add 32 k⟩
theorem zE5_n1 {w : List Nat} (hw : zVw w) : ¬ lg_cmp (Int64.ofNat (zE5 w)) (-1) = 0 := by
  rw [z_lcmp]
  intro e
  have h := (zNm_dig hw.2.1 hw.2.2).1
  have h2 : (Int64.ofNat (zE5 w)).toBitVec.toNat = (-1 : Int64).toBitVec.toNat := by rw [e]
  have e1 : (Int64.ofNat (zE5 w)).toBitVec.toNat = zE5 w % 18446744073709551616 := rfl
  have e2 : (-1 : Int64).toBitVec.toNat = 18446744073709551615 := by decide
  rw [e1, e2] at h2
  omega
/-- a name that is none yet -/
theorem zT_new {p0 : Nat} (hp0 : 20 ≤ p0) (hp1 : p0 < 40) (D : zHd mC mM B O S W H) (R : zRd n lim q b C0 M0 mC mM) : (∃ w mC' mM', zVw w ∧ Tokens_takeNewName mC 44 = some (Int64.ofNat (zE5 w), mC') ∧ M_fresh mM (Int32.ofNat p0) = some (1, mM') ∧ zRd n lim q b C0 M0 mC' mM' ∧ (∀ c, c ≠ 3 → mC'.1 c = mC.1 c) ∧ (∀ c, c ≠ 3 → mC'.2 c = mC.2 c) ∧ (∀ c, c ≠ 0 → mM'.1 c = mM.1 c) ∧ (∀ j, j ≠ 4 → (j < 11 ∨ 14 < j) → mM'.1 0 j = mM.1 0 j) ∧ (∀ j, j ≠ p0 → mM'.2 5 j = mM.2 5 j) ∧ mM'.2 5 p0 = Int64.ofNat (zE8 w)) ∨ (∃ mC' mM', Tokens_takeNewName mC 44 = some (-1, mC') ∧ M_fresh mM (Int32.ofNat p0) = some (0, mM') ∧ zBad C0 M0 mC' mM') := by
  obtain ⟨s, hkd⟩ := zRd_kd R
  have fail : ∀ k : Int32, ¬ k = 0 → ∃ mC' mM', Tokens_takeNewName_b51 44 k mC = some (-1, mC') ∧ (M_bad mM k).bind (fun r => (rz r.1).bind fun w => some (w, r.2)) = some (0, mM') ∧ zBad C0 M0 mC' mM' := fun k hk => by
    unfold Tokens_takeNewName_b51
    obtain ⟨a, c, e1, e2, e3⟩ := zT_fail hk R
    exact ⟨a, c, by rw [e1, Option.bind_some], by rw [e2, Option.bind_some, rz_0, Option.bind_some], e3⟩
  obtain ⟨d0, d1, d2, d3, d4, d5, d6⟩ := D
  unfold Tokens_takeNewName M_fresh
  rw [nm_eq]
  rcases zKd_word hkd with ⟨a, c, w, w1, w2, w3, w4⟩ | ⟨a, c, _⟩
  · rw [a, if_pos rfl, w4, w2, zM_name (zRd_res R) w1 c w3, Option.bind_some]
    cases hr : zFst (fun k => decide (zWrd k = w)) 32 with
    | some k =>
      right
      have hk := zFst_lt hr
      rw [if_neg (show ¬ zN (some k) = -1 from z_nm1 (by omega)), if_pos (show zb (decide (some k = none)) = 0 by rw [decide_eq_false (by intro e; cases e)]; rfl)]
      unfold Tokens_takeNewName_b29
      rw [a, if_pos rfl, w4, hr, if_neg (show ¬ zN (some k) = -1 from z_nm1 (by omega))]
      exact fail 1 (by decide)
    | none =>
      rw [if_pos (show zN none = -1 from rfl), if_neg (show ¬ zb (decide ((none : Option Nat) = none)) = 0 by rw [decide_eq_true rfl]; decide)]
      have dup : ∃ mC' mM', Tokens_takeNewName_b29 44 mC = some (-1, mC') ∧ M_fresh_b58 (Int32.ofNat p0) mM = some (0, mM') ∧ zBad C0 M0 mC' mM' := by
        unfold Tokens_takeNewName_b29 M_fresh_b58
        rw [a, if_pos rfl, w4, hr, if_pos (show zN none = -1 from rfl)]
        exact fail 3 (by decide)
      obtain ⟨nb, b1, b2⟩ := zNmP_ex (mC := mC) (mM := mM) (c0 := 45) (base := 20) (cnt := B) (fun i hi => (d3 i hi).2.2.2.2)
      obtain ⟨no, o1, o2⟩ := zNmP_ex (mC := mC) (mM := mM) (c0 := 46) (base := 26) (cnt := O) (fun i hi => (d4 i hi).2.2.2.2.2.2.2)
      obtain ⟨ns, s1, s2⟩ := zNmP_ex (mC := mC) (mM := mM) (c0 := 47) (base := 32) (cnt := S) (fun i hi => (d5 i hi).2)
      unfold House_hasName
      have x1 := zC_numb (m := mC) (q := 45) (N := 6) (by omega) d0.1 b1 w1
      have x2 := zC_numb (m := mC) (q := 46) (N := 6) (by omega) d0.2.1 o1 w1
      have x3 := zC_numb (m := mC) (q := 47) (N := 8) (by omega) d0.2.2.1 s1 w1
      have y1 := zM_find (m := mM) (q := 20) (cnt := B) (by omega) b2 w1 w3
      have y2 := zM_find (m := mM) (q := 26) (cnt := O) (by omega) o2 w1 w3
      have y3 := zM_find (m := mM) (q := 32) (cnt := S) (by omega) s2 w1 w3
      rw [d1.2.2.2.2.1, d1.2.2.2.2.2.1, d1.2.2.2.2.2.2, show 44 + 1 = 45 from rfl, show 44 + 2 = 46 from rfl, show 44 + 3 = 47 from rfl, x1, x2, x3, d2.1, d2.2.1, d2.2.2.1, show (20 : Int32) = Int32.ofNat 20 from rfl, show (26 : Int32) = Int32.ofNat 26 from rfl, show (32 : Int32) = Int32.ofNat 32 from rfl, y1, y2, y3]
      simp only [Option.bind_some]
      cases h1 : zFst (fun k => decide (nb k = w)) B with
      | some k =>
        right
        have := zFst_lt h1
        rw [if_neg (show ¬ zN (some k) = -1 from z_nm1 (by omega)), if_neg (show ¬ zN (some k) < 0 from z_nn (by omega)), Option.bind_some, if_neg (show ¬ (1 : Int32) = 0 by decide)]
        exact dup
      | none =>
        rw [if_pos (show zN none = -1 from rfl), if_pos (show zN none < 0 by decide)]
        cases h2 : zFst (fun k => decide (no k = w)) O with
        | some k =>
          right
          have := zFst_lt h2
          rw [if_neg (show ¬ zN (some k) = -1 from z_nm1 (by omega)), if_neg (show ¬ zN (some k) < 0 from z_nn (by omega)), Option.bind_some, if_neg (show ¬ (1 : Int32) = 0 by decide)]
          exact dup
        | none =>
          rw [if_pos (show zN none = -1 from rfl), if_pos (show zN none < 0 by decide)]
          cases h3 : zFst (fun k => decide (ns k = w)) S with
          | some k =>
            right
            have := zFst_lt h3
            rw [if_neg (show ¬ zN (some k) = -1 from z_nm1 (by omega)), if_neg (show ¬ zN (some k) < 0 from z_nn (by omega)), Option.bind_some, if_neg (show ¬ (1 : Int32) = 0 by decide)]
            exact dup
          | none =>
            left
            rw [if_pos (show zN none = -1 from rfl), if_pos (show zN none < 0 by decide), Option.bind_some, if_pos rfl, z_ix hp1 (by omega), Option.bind_some, nm_eq, w3]
            obtain ⟨a', c', e1, e2, e3, g1, g2, g3, g4, g5, g6⟩ := zT_go (zRd_M (zMw_nm (j := p0) (v := Int64.ofNat (zE8 w)) hp0) R)
            rw [e1, e2, Option.bind_some, Option.bind_some]
            refine ⟨w, a', c', w1, rfl, rfl, e3, g1, g3, fun d hd => by rw [g4 d hd, upL_1], fun j j4 hj => by rw [g5 j j4 hj, upL_1], fun j hj => by rw [g6 5 (by omega), upL_nj hj], by rw [g6 5 (by omega), upL_at]⟩
  · right
    rw [if_neg a, zM_name0 c, Option.bind_some, if_pos rfl]
    unfold Tokens_takeNewName_b29
    rw [if_neg a]
    exact fail 1 (by decide)
end ZHD
