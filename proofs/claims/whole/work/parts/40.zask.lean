/-! Layer 2. Calls that ask and change nothing -/
theorem z_isG {n : Nat} {x y : Int32} (hn : n < 2147483648) (hy : y = Int32.ofNat n ∨ (n = 0 ∧ y = -1)) : (!decide (x < 0) && !decide (y - 1 < x)) = zIs n x := by
  have h0 : (1 : Int32).toInt = 1 := by decide
  have h2 : (0 : Int32).toInt = 0 := by decide
  have h3 : (-1 : Int32).toInt = -1 := by decide
  have h1 : (y - 1).toInt = (n : Int) - 1 ∨ (n = 0 ∧ (y - 1).toInt = -2) := by
    rcases hy with hy | ⟨hy0, hy⟩
    · left
      subst hy
      rw [z_subI (by rw [z_toInt hn, h0]; omega) (by rw [z_toInt hn, h0]; omega), z_toInt hn, h0]
    · right
      subst hy
      exact ⟨hy0, by decide⟩
  unfold zIs
  rw [Bool.eq_iff_iff]
  simp only [Bool.and_eq_true, Bool.not_eq_true', decide_eq_false_iff_not, decide_eq_true_eq, Int32.lt_iff_toInt_lt, h2]
  rcases h1 with h1 | ⟨h4, h1⟩ <;> rw [h1] <;> omega
theorem zIs_q {n : Nat} {x : Int32} (h : zIs n x = true) : ∃ q, q < n ∧ x = Int32.ofNat q := by
  unfold zIs at h
  rw [decide_eq_true_eq] at h
  refine ⟨x.toNatClampNeg, ?_, z_of h.1⟩
  show x.toInt.toNat < n
  omega
theorem z_hasG {α : Type} {n : Nat} {x y : Int32} (hn : n < 2147483648) (hy : y = Int32.ofNat n) (a b : α) : (if x < 0 then a else if x < y then b else a) = if zIs n x then b else a := by
  subst hy
  unfold zIs
  have h2 : (0 : Int32).toInt = 0 := by decide
  simp only [Int32.lt_iff_toInt_lt, h2, z_toInt hn]
  by_cases h : x.toInt < 0
  · rw [if_pos h, show decide (0 ≤ x.toInt ∧ x.toInt < (n : Int)) = false by rw [decide_eq_false_iff_not]; omega]; rfl
  · by_cases h3 : x.toInt < n
    · rw [if_neg h, if_pos h3, show decide (0 ≤ x.toInt ∧ x.toInt < (n : Int)) = true by rw [decide_eq_true_eq]; omega]; rfl
    · rw [if_neg h, if_neg h3, show decide (0 ≤ x.toInt ∧ x.toInt < (n : Int)) = false by rw [decide_eq_false_iff_not]; omega]; rfl
theorem z_lt5 {x : Int32} {a : Int32} {n : Nat} (ha : a.toInt = n) : (!decide (x < 0) && !decide (a < x)) = zIs (n + 1) x := by
  unfold zIs
  have h2 : (0 : Int32).toInt = 0 := by decide
  rw [Bool.eq_iff_iff]
  simp only [Bool.and_eq_true, Bool.not_eq_true', decide_eq_false_iff_not, decide_eq_true_eq, Int32.lt_iff_toInt_lt, h2, ha]
  omega
theorem z_lt5' {α : Type} {x a : Int32} {n : Nat} (ha : a.toInt = n) (u v : α) : (if x < 0 then u else if a < x then u else v) = if zIs (n + 1) x then v else u := by
  rw [← z_lt5 ha]
  by_cases h1 : x < 0
  · simp [h1]
  · by_cases h2 : a < x <;> simp [h1, h2]
/-- a list that is asked by its number -/
theorem z_askC {n N : Nat} (hn : n ≤ N) (hN : N < 2147483648) {y x : Int32} (hy : y = Int32.ofNat n) (f : Nat → Int32) : (if x < 0 then some (-1) else if x < y then (ix x N).bind fun j => some (f j) else some (-1)) = some (if zIs n x then f x.toNatClampNeg else -1) := by
  rw [z_hasG (show n < 2147483648 by omega) hy]
  cases h : zIs n x with
  | false => rfl
  | true =>
    obtain ⟨q, hq, rfl⟩ := zIs_q h
    rw [z_ix (by omega) hN, z_cl (by omega)]
    rfl
theorem z_askM {n N : Nat} (hn : n ≤ N) (hN : N < 2147483648) {m : xMem} {y x : Int32} (hy : y = Int32.ofNat n ∨ (n = 0 ∧ y = -1)) (f : Nat → Int32) : ((M_isIn m x 0 (y - 1)).bind fun r => if r = 0 then some ((-1 : Int32), m) else (ix x N).bind fun j => some (f j, m)) = some (if zIs n x then f x.toNatClampNeg else -1, m) := by
  rw [zM_in, z_isG (by omega) hy]
  simp only [Option.bind_some, zb_0]
  cases h : zIs n x with
  | false => rfl
  | true =>
    obtain ⟨q, hq, rfl⟩ := zIs_q h
    rw [z_ix (by omega) hN, z_cl (by omega)]
    rfl
theorem z_ls {mC mM : xMem} {cc cj ca dc da most : Nat} (H : zLs mC cc cj ca mM dc da most) (x : Int32) : ∃ n, n ≤ most ∧ mC.1 cc cj = Int32.ofNat n ∧ (mM.1 0 dc = Int32.ofNat n ∨ (n = 0 ∧ mM.1 0 dc = -1)) ∧ (if zIs n x then mC.1 ca x.toNatClampNeg else -1) = (if zIs n x then mM.1 da x.toNatClampNeg else (-1 : Int32)) := by
  obtain ⟨n, h1, h2, h3, h4⟩ := H
  refine ⟨n, h1, h2, h3, ?_⟩
  cases h : zIs n x with
  | false => rfl
  | true =>
    obtain ⟨q, hq, rfl⟩ := zIs_q h
    simp only [if_true]
    by_cases hb : q < 2147483648
    · rw [z_cl hb]; exact h4 q hq
    · have hx : (Int32.ofNat q).toNatClampNeg < n := by
        unfold zIs at h
        rw [decide_eq_true_eq] at h
        show (Int32.ofNat q).toInt.toNat < n
        omega
      exact h4 _ hx
theorem zP_fault : lS_fault zRel := by
  intro mC mM hR
  have hR1 := zRel_thr hR 0
  simp only [M_fault, nm]
  generalize upI mM 0 0 0 = m1 at hR1 ⊢
  exact ⟨_, m1, rfl, by rw [← hR1.2.2.2.2.2.2.2.1], hR1⟩
theorem zP_next : lS_next zRel := by
  intro mC mM hR
  have hR1 := zRel_thr hR 0
  simp only [M_next, nm]
  generalize upI mM 0 0 0 = m1 at hR1 ⊢
  exact ⟨_, m1, rfl, by rw [← hR1.2.2.2.2.2.2.2.2.2.1], hR1⟩
theorem zP_spotAt : lS_spotAt zRel := by
  intro mC mM x hR
  have hR1 := zRel_thr hR 0
  simp only [M_spotAt, nm]
  generalize upI mM 0 0 0 = m1 at hR1 ⊢
  obtain ⟨n, h1, h2, h3, h4⟩ := z_ls hR1.2.2.2.2.2.2.2.2.1 x
  refine ⟨_, m1, z_askC (n := n) h1 (by omega) h2 _, ?_, hR1⟩
  rw [z_askM (n := n) h1 (by omega) h3, h4]
theorem zP_bestAt : lS_bestAt zRel := by
  intro mC mM x hR
  have hR1 := zRel_thr hR 0
  simp only [M_bestAt, nm]
  generalize upI mM 0 0 0 = m1 at hR1 ⊢
  obtain ⟨n, h1, h2, h3, h4⟩ := z_ls hR1.2.2.2.2.2.2.2.2.2.2.1 x
  refine ⟨_, m1, z_askC (n := n) h1 (by omega) h2 _, ?_, hR1⟩
  rw [z_askM (n := n) h1 (by omega) h3, h4]
theorem zP_codeAt : lS_codeAt zRel := by
  intro mC mM x hR
  have hR1 := zRel_thr hR 0
  simp only [M_codeAt, nm]
  generalize upI mM 0 0 0 = m1 at hR1 ⊢
  obtain ⟨n, h1, h2, h3, h4⟩ := z_ls hR1.2.2.2.2.2.2.2.2.2.2.2.1 x
  refine ⟨_, m1, z_askC (n := n) h1 (by omega) h2 _, ?_, hR1⟩
  rw [z_askM (n := n) h1 (by omega) h3, h4]
theorem zP_byteAt : lS_byteAt zRel := by
  intro mC mM x hR
  have hR1 := zRel_thr hR 0
  simp only [M_byteAt, nm]
  generalize upI mM 0 0 0 = m1 at hR1 ⊢
  obtain ⟨n, h1, h2, h3, h4⟩ := hR1.2.2.2.2.2.2.2.2.2.2.2.2.2.2.2
  refine ⟨if zIs n x then m1.1 17 x.toNatClampNeg else -1, m1, ?_, z_askM (n := n) (by omega) (by omega) (Or.inl h3) _, hR1⟩
  unfold O_byteAt
  rw [z_hasG (show n < 2147483648 by omega) h2]
  cases h : zIs n x with
  | false => rfl
  | true =>
    obtain ⟨q, hq, rfl⟩ := zIs_q h
    simp only [if_true]
    unfold Tape_at
    have ht : tapeLen 180 = 32 := rfl
    rw [if_neg (z_nn (by omega)), ht, if_pos (show Int32.ofNat q < nI 32 from (z_lt (by omega) (by omega)).mpr (by omega)), z_ix (by omega) (by omega), z_cl (by omega), ← h4 q hq]
    rfl
theorem zP_keenLeast : lS_keenLeast zRel := by
  intro mC mM hR
  have hR1 := zRel_thr hR 0
  simp only [M_keenLeast, nm]
  generalize upI mM 0 0 0 = m1 at hR1 ⊢
  refine ⟨mC.1 0 15, m1, rfl, ?_, hR1⟩
  rcases hR1.2.2.2.2.2.2.2.2.2.2.2.2.1 with ⟨h1, h2, -⟩ | ⟨h1, h2, -⟩
  · rw [if_pos h1, h2]
  · rw [if_neg (by rw [h1]; decide), h2]
theorem zP_keenMost : lS_keenMost zRel := by
  intro mC mM hR
  have hR1 := zRel_thr hR 0
  simp only [M_keenMost, nm]
  generalize upI mM 0 0 0 = m1 at hR1 ⊢
  refine ⟨mC.1 0 16, m1, rfl, ?_, hR1⟩
  rcases hR1.2.2.2.2.2.2.2.2.2.2.2.2.1 with ⟨h1, -, h2⟩ | ⟨h1, -, h2⟩
  · rw [if_pos h1, h2]
  · rw [if_neg (by rw [h1]; decide), h2]
theorem zP_duelAt : lS_duelAt zRel := by
  intro mC mM hR
  have hR1 := zRel_thr hR 0
  simp only [M_duelAt, nm]
  generalize upI mM 0 0 0 = m1 at hR1 ⊢
  refine ⟨mC.1 0 17, m1, rfl, ?_, hR1⟩
  rcases hR1.2.2.2.2.2.2.2.2.2.2.2.2.2.1 with ⟨h1, h2⟩ | ⟨h1, h2⟩
  · rw [if_pos h1, h2]
  · rw [if_neg (by rw [h1]; decide), h2]
theorem z_4 {q : Nat} (h : q < 4) : q = 0 ∨ q = 1 ∨ q = 2 ∨ q = 3 := by omega
theorem z_5 {q : Nat} (h : q < 5) : q = 0 ∨ q = 1 ∨ q = 2 ∨ q = 3 ∨ q = 4 := by omega
theorem z_6 {q : Nat} (h : q < 6) : q = 0 ∨ q = 1 ∨ q = 2 ∨ q = 3 ∨ q = 4 ∨ q = 5 := by omega
theorem zIs_ne {n q : Nat} {x : Int32} (h : zIs n x = false) (hq : q < n) (hn : n < 2147483648) : ¬ x = Int32.ofNat q := by
  intro e
  subst e
  rw [zIs_ofNat (by omega)] at h
  simp at h
  omega
theorem zP_told : lS_told zRel := by
  intro mC mM x hR
  have hR1 := zRel_thr hR 0
  simp only [M_told, nm]
  generalize upI mM 0 0 0 = m1 at hR1 ⊢
  unfold O_told
  rcases hR1.2.2.2.2.2.2.2.2.2.2.2.2.2.2.1 with ⟨h1, h2⟩ | ⟨h1, h2, h3⟩
  · exact ⟨-1, m1, by rw [if_pos h2], by rw [if_pos h1], hR1⟩
  · rw [if_neg (c := mC.1 76 2 = 0) (by rw [h2]; decide), if_neg (c := m1.1 0 47 = 0) (by rw [h1]; decide), zM_in, z_lt5 (n := 3) (by decide)]
    simp only [Option.bind_some, zb_0]
    cases h : zIs (3 + 1) x with
    | false =>
      refine ⟨-1, m1, ?_, rfl, hR1⟩
      rw [if_neg (c := x = 0) (zIs_ne (q := 0) h (by omega) (by omega)), if_neg (c := x = 1) (zIs_ne (q := 1) h (by omega) (by omega)), if_neg (c := x = 2) (zIs_ne (q := 2) h (by omega) (by omega)), if_neg (c := x = 3) (zIs_ne (q := 3) h (by omega) (by omega))]
    | true =>
      obtain ⟨q, hq, rfl⟩ := zIs_q h
      rw [z_ix (by omega) (by omega)]
      rcases z_4 hq with rfl | rfl | rfl | rfl
      · exact ⟨_, m1, rfl, by show some (m1.1 18 0, m1) = some (mC.1 76 (3 + 0), m1); rw [h3 0 (by omega)], hR1⟩
      · exact ⟨_, m1, rfl, by show some (m1.1 18 1, m1) = some (mC.1 76 (3 + 1), m1); rw [h3 1 (by omega)], hR1⟩
      · exact ⟨_, m1, rfl, by show some (m1.1 18 2, m1) = some (mC.1 76 (3 + 2), m1); rw [h3 2 (by omega)], hR1⟩
      · exact ⟨_, m1, rfl, by show some (m1.1 18 3, m1) = some (mC.1 76 (3 + 3), m1); rw [h3 3 (by omega)], hR1⟩
theorem zP_count : lS_count zRel := by
  intro mC mM x hR
  have hR1 := zRel_thr hR 0
  simp only [M_count, nm]
  generalize upI mM 0 0 0 = m1 at hR1 ⊢
  unfold O_count
  obtain ⟨g0, g1, g2, g3, g4, g5, g6, -⟩ := hR1.2.1.1
  obtain ⟨n, n1, n2, n3, -⟩ := hR1.2.2.2.2.2.1
  rw [zM_in, z_lt5 (n := 4) (by decide)]
  simp only [Option.bind_some, zb_0]
  by_cases h5 : x = 5
  · subst h5
    refine ⟨mC.1 1 1, m1, rfl, ?_, hR1⟩
    rw [if_pos rfl, n2, n3]
  · rw [if_neg h5]
    cases h : zIs (4 + 1) x with
    | false =>
      refine ⟨-1, m1, ?_, by rw [if_neg h5]; rfl, hR1⟩
      rw [if_neg (c := x = 0) (zIs_ne (q := 0) h (by omega) (by omega)), if_neg (c := x = 1) (zIs_ne (q := 1) h (by omega) (by omega)), if_neg (c := x = 2) (zIs_ne (q := 2) h (by omega) (by omega)), if_neg (c := x = 3) (zIs_ne (q := 3) h (by omega) (by omega)), if_neg (c := x = 4) (zIs_ne (q := 4) h (by omega) (by omega))]
    | true =>
      obtain ⟨q, hq, rfl⟩ := zIs_q h
      rw [z_ix (by omega) (by omega)]
      rcases z_5 hq with rfl | rfl | rfl | rfl | rfl
      · exact ⟨m1.1 2 0, m1, by rw [← g4]; rfl, rfl, hR1⟩
      · exact ⟨m1.1 2 1, m1, by rw [← g5]; rfl, rfl, hR1⟩
      · exact ⟨m1.1 2 2, m1, by rw [← g6]; rfl, rfl, hR1⟩
      · exact ⟨m1.1 2 3, m1, by rw [← g0]; rfl, rfl, hR1⟩
      · exact ⟨m1.1 2 4, m1, by rw [← g1]; rfl, rfl, hR1⟩
section ZTH
theorem zM_throws0 (m : xMem) : M_throwsIf m 0 = some (0, upI m 0 0 0) := rfl
theorem zM_throws1 (m : xMem) : M_throwsIf m 1 = some (1, upI m 0 0 1) := rfl
theorem zM_thrown (m : xMem) (v : Int32) : M_thrown (upI m 0 0 v) = some v := by
  unfold M_thrown
  rw [upI_at]
end ZTH
theorem zP_loud : lS_loud zRel := by
  intro mC mM x y hR
  have h0 := zRel_thr hR 0
  have h1 := zRel_thr hR 1
  have hc := hR.1.1
  have hH := hR.2.1.1
  unfold O_loud M_loud M_loud_b22 O_loud_b24
  rw [zC_hasSound hH hc, zC_hasBed hH hc, zM_isSound rfl hc, zM_isBed rfl hc, zM_throws0, zM_throws1]
  simp only [Option.bind_some, zb_0]
  cases hs : zIs (zC (mM.1 2)) x with
  | false => exact ⟨none, 0, upI mM 0 0 1, rfl, rfl, zM_thrown mM 1, fun r hr => (by cases hr), h1⟩
  | true =>
    cases hb : zIs (zB (mM.1 2)) y with
    | false => exact ⟨none, 0, upI mM 0 0 1, rfl, rfl, zM_thrown mM 1, fun r hr => (by cases hr), h1⟩
    | true =>
      obtain ⟨i, hi, rfl⟩ := zIs_q hs
      obtain ⟨b, hb2, rfl⟩ := zIs_q hb
      have c8 := hc.2.2.2
      have b6 := hc.1.2
      obtain ⟨r0, r1, r2, r3, -⟩ := hH.2.2.2.2.2.2.2.2.2 i hi
      rw [z_ix (by omega) (by omega)]
      have em : ∀ j, j < 109 → (upI mM 0 0 0).1 2 j = mM.1 2 j := fun j _ => by rw [upI_ne' (by omega)]
      have hne : i ≠ zC (mM.1 2) := by omega
      have eL : zLoud (mM.1 2) i b = mM.1 2 (73 + i) - zFar (mM.1 2) b (mM.1 2 (57 + i)) (mM.1 2 (65 + i)) := by
        unfold zLoud zL zX zY
        rw [if_neg hne, if_neg hne, if_neg hne]
      refine ⟨some (zLoud (mM.1 2) i b), zLoud (mM.1 2) i b, upI mM 0 0 0, ?_, ?_, zM_thrown mM 0, fun r hr => (by cases hr; rfl), h0⟩
      · show ((House_loudAt mC 6 (Int32.ofNat b) (6 + 19 + i)).bind fun r4 => some (some r4)) = _
        rw [zC_loud hH hc hb2 r1 r2 r3, eL]
        rfl
      · show ((M_loudAt (upI mM 0 0 0) (Int32.ofNat i) (Int32.ofNat b)).bind fun r4 => some (r4, upI mM 0 0 0)) = _
        rw [zM_loud em hc (by omega) (by omega)]
        rfl
