/-! Layer 2. house: its lines bad, deaf, wants -/
section ZHW
variable {m m' mC mC' mM mM' C0 M0 C1 M1 : xMem} {n p lim q B O S W H : Nat} {b : Nat → Nat} {s t : Bool}
theorem zBad_C (h : zCw mC mC') (H : zBad C0 M0 mC mM) : zBad C0 M0 mC' mM := by
  obtain ⟨b1, b2, b3, b4, b5⟩ := H
  exact ⟨zXC_t b1 h.1, b2, by rw [h.2.1]; exact b3, b4, by rw [h.2.1]; exact b5⟩
theorem z_m1r {x : Int32} (h : zr x 0 4) : (x - 1 = -1) ↔ ¬ 0 < x := by
  have h0 := h.1
  have h4 := h.2
  have e := z_of h0
  have e2 : x.toNatClampNeg ≤ 4 := by
    have h5 : (Int32.ofNat x.toNatClampNeg).toInt ≤ 4 := by rw [← e]; exact h4
    have h6 : x.toNatClampNeg < 2147483648 := Int32.toNatClampNeg_lt x
    rw [z_toInt h6] at h5
    omega
  rw [e]
  generalize x.toNatClampNeg = v at e2
  by_cases hv : v = 0
  · subst hv
    exact ⟨fun _ => by decide, fun _ => by decide⟩
  · rw [z_sub1 (by omega)]
    exact ⟨fun e => absurd e (z_nm1 (by omega)), fun e => absurd ((z_lt (a := 0) (by omega) (by omega)).mpr (by omega)) e⟩
theorem zHd_ubad {k : Nat} {v : Int32} (hk : k < O) (hv : zr v 0 4) (h1 : ∀ c, 44 ≤ c → c < 71 → c ≠ 56 + k → mC'.1 c = mC.1 c) (hr : ∀ j, j ≠ 2 → mC'.1 (56 + k) j = mC.1 (56 + k) j) (hr2 : mC'.1 (56 + k) 2 = v - 1) (h2 : ∀ c, 45 ≤ c → c < 48 → mC'.2 c = mC.2 c) (h3 : ∀ j, j ≠ 37 + k → mM'.1 3 j = mM.1 3 j) (h3k : mM'.1 3 (37 + k) = v) (h5 : mM'.2 5 = mM.2 5) (D : zHd mC mM B O S W H) : zHd mC' mM' B O S W H := by
  obtain ⟨d0, d1, d2, d3, d4, d5, d6⟩ := D
  have o6 := d0.2.1
  refine ⟨d0, ?_, ?_, fun b hbb => ?_, fun o ho => ?_, fun i hi => ?_, fun o h h' => ?_⟩
  · rw [h1 44 (by omega) (by omega) (by omega), h3 5 (by omega), h3 6 (by omega)]; exact d1
  · rw [h3 0 (by omega), h3 1 (by omega), h3 2 (by omega), h3 3 (by omega), h3 4 (by omega)]; exact d2
  · rw [h1 (49 + b) (by omega) (by omega) (by omega), h2 45 (by omega) (by omega), h3 (7 + b) (by omega), h3 (13 + b) (by omega), h3 (19 + b) (by omega), h5]
    exact d3 b hbb
  · obtain ⟨a1, a2, a3, a4, a5, a6, a7, a8⟩ := d4 o ho
    by_cases e : o = k
    · subst e
      rw [h2 46 (by omega) (by omega), h5, h3 (25 + o) (by omega), h3 (31 + o) (by omega), h3 (43 + o) (by omega), h3k, hr 0 (by omega), hr 1 (by omega), hr 3 (by omega), hr2]
      exact ⟨a1, a2, rfl, a4, hv, a6, fun o' ho' => by rw [h3 (25 + o') (by omega)]; exact a7 o' ho', a8⟩
    · rw [h1 (56 + o) (by omega) (by omega) (by omega), h2 46 (by omega) (by omega), h3 (25 + o) (by omega), h3 (31 + o) (by omega), h3 (37 + o) (by omega), h3 (43 + o) (by omega), h5]
      exact ⟨a1, a2, a3, a4, a5, a6, fun o' ho' => by rw [h3 (25 + o') (by omega)]; exact a7 o' ho', a8⟩
  · rw [h1 (63 + i) (by omega) (by omega) (by omega), h2 47 (by omega) (by omega), h3 (49 + i) (by omega), h3 (57 + i) (by omega), h3 (65 + i) (by omega), h3 (73 + i) (by omega), h3 (81 + i) (by omega), h3 (89 + i) (by omega), h5]
    exact d5 i hi
  · rw [h3 (37 + o) (by omega), h3 (43 + o) (by omega)]
    exact d6 o h h'
theorem zHd_udeaf {k : Nat} {v : Int32} (hk : k < O) (h1 : ∀ c, 44 ≤ c → c < 71 → c ≠ 56 + k → mC'.1 c = mC.1 c) (hr : ∀ j, j ≠ 3 → mC'.1 (56 + k) j = mC.1 (56 + k) j) (hr2 : mC'.1 (56 + k) 3 = v) (h2 : ∀ c, 45 ≤ c → c < 48 → mC'.2 c = mC.2 c) (h3 : ∀ j, j ≠ 43 + k → mM'.1 3 j = mM.1 3 j) (h3k : mM'.1 3 (43 + k) = v) (h5 : mM'.2 5 = mM.2 5) (D : zHd mC mM B O S W H) : zHd mC' mM' B O S W H := by
  obtain ⟨d0, d1, d2, d3, d4, d5, d6⟩ := D
  have o6 := d0.2.1
  refine ⟨d0, ?_, ?_, fun b hbb => ?_, fun o ho => ?_, fun i hi => ?_, fun o h h' => ?_⟩
  · rw [h1 44 (by omega) (by omega) (by omega), h3 5 (by omega), h3 6 (by omega)]; exact d1
  · rw [h3 0 (by omega), h3 1 (by omega), h3 2 (by omega), h3 3 (by omega), h3 4 (by omega)]; exact d2
  · rw [h1 (49 + b) (by omega) (by omega) (by omega), h2 45 (by omega) (by omega), h3 (7 + b) (by omega), h3 (13 + b) (by omega), h3 (19 + b) (by omega), h5]
    exact d3 b hbb
  · obtain ⟨a1, a2, a3, a4, a5, a6, a7, a8⟩ := d4 o ho
    by_cases e : o = k
    · subst e
      rw [h2 46 (by omega) (by omega), h5, h3 (25 + o) (by omega), h3 (31 + o) (by omega), h3 (37 + o) (by omega), h3k, hr 0 (by omega), hr 1 (by omega), hr 2 (by omega), hr2]
      exact ⟨a1, a2, a3, rfl, a5, a6, fun o' ho' => by rw [h3 (25 + o') (by omega)]; exact a7 o' ho', a8⟩
    · rw [h1 (56 + o) (by omega) (by omega) (by omega), h2 46 (by omega) (by omega), h3 (25 + o) (by omega), h3 (31 + o) (by omega), h3 (37 + o) (by omega), h3 (43 + o) (by omega), h5]
      exact ⟨a1, a2, a3, a4, a5, a6, fun o' ho' => by rw [h3 (25 + o') (by omega)]; exact a7 o' ho', a8⟩
  · rw [h1 (63 + i) (by omega) (by omega) (by omega), h2 47 (by omega) (by omega), h3 (49 + i) (by omega), h3 (57 + i) (by omega), h3 (65 + i) (by omega), h3 (73 + i) (by omega), h3 (81 + i) (by omega), h3 (89 + i) (by omega), h5]
    exact d5 i hi
  · rw [h3 (37 + o) (by omega), h3 (43 + o) (by omega)]
    exact d6 o h h'
theorem zHd_uwants {k : Nat} {v : Int32} (hk : k < B) (hv : zr v 0 4) (h1 : ∀ c, 44 ≤ c → c < 71 → c ≠ 49 + k → mC'.1 c = mC.1 c) (hr : ∀ j, j ≠ 2 → mC'.1 (49 + k) j = mC.1 (49 + k) j) (hr2 : mC'.1 (49 + k) 2 = v - 1) (h2 : ∀ c, 45 ≤ c → c < 48 → mC'.2 c = mC.2 c) (h3 : ∀ j, j ≠ 19 + k → mM'.1 3 j = mM.1 3 j) (h3k : mM'.1 3 (19 + k) = v) (h5 : mM'.2 5 = mM.2 5) (D : zHd mC mM B O S W H) : zHd mC' mM' B O S W H := by
  obtain ⟨d0, d1, d2, d3, d4, d5, d6⟩ := D
  have b6 := d0.1
  refine ⟨d0, ?_, ?_, fun b hbb => ?_, fun o ho => ?_, fun i hi => ?_, fun o h h' => ?_⟩
  · rw [h1 44 (by omega) (by omega) (by omega), h3 5 (by omega), h3 6 (by omega)]; exact d1
  · rw [h3 0 (by omega), h3 1 (by omega), h3 2 (by omega), h3 3 (by omega), h3 4 (by omega)]; exact d2
  · obtain ⟨a1, a2, a3, a4, a5⟩ := d3 b hbb
    by_cases e : b = k
    · subst e
      rw [h2 45 (by omega) (by omega), h5, h3 (7 + b) (by omega), h3 (13 + b) (by omega), h3k, hr 0 (by omega), hr 1 (by omega), hr2]
      exact ⟨a1, a2, rfl, hv, a5⟩
    · rw [h1 (49 + b) (by omega) (by omega) (by omega), h2 45 (by omega) (by omega), h3 (7 + b) (by omega), h3 (13 + b) (by omega), h3 (19 + b) (by omega), h5]
      exact ⟨a1, a2, a3, a4, a5⟩
  · obtain ⟨a1, a2, a3, a4, a5, a6, a7, a8⟩ := d4 o ho
    rw [h1 (56 + o) (by omega) (by omega) (by omega), h2 46 (by omega) (by omega), h3 (25 + o) (by omega), h3 (31 + o) (by omega), h3 (37 + o) (by omega), h3 (43 + o) (by omega), h5]
    exact ⟨a1, a2, a3, a4, a5, a6, fun o' ho' => by rw [h3 (25 + o') (by omega)]; exact a7 o' ho', a8⟩
  · rw [h1 (63 + i) (by omega) (by omega) (by omega), h2 47 (by omega) (by omega), h3 (49 + i) (by omega), h3 (57 + i) (by omega), h3 (65 + i) (by omega), h3 (73 + i) (by omega), h3 (81 + i) (by omega), h3 (89 + i) (by omega), h5]
    exact d5 i hi
  · rw [h3 (37 + o) (by omega), h3 (43 + o) (by omega)]
    exact d6 o h h'
theorem zM_sideW {r : Int32 × xMem} (h : M_isOneOf m 12 = some r) (hr : r.1 = 0 ∨ r.1 = 1) : M_isSide m = some r := by
  unfold M_isSide
  rw [h, Option.bind_some]
  rcases hr with e | e
  · rw [e, rz_0, Option.bind_some]
    exact congrArg some (Prod.ext e.symm rfl)
  · rw [e, rz_1, Option.bind_some]
    exact congrArg some (Prod.ext e.symm rfl)
theorem z_r4 {j : Nat} (h : j < 4) : zr (Int32.ofNat j + 1) 0 4 := by
  rw [z_s]
  exact ⟨by rw [z_toInt (by omega)]; omega, by rw [z_toInt (by omega)]; omega⟩
theorem zL_bad (h11 : mM.1 0 11 = 1) (D : zHd mC mM B O S W H) (F : zHf mC mM B S s t) (R : zRd n lim q b C0 M0 mC mM) : zLn n lim (q + 1) b C0 M0 (HouseReader_readBad mC 44) (M_readBad mM) := by
  obtain ⟨f4, f5, f20, f21⟩ := id F
  have b6 := D.1.1
  have o6 := D.1.2.1
  have s8 := D.1.2.2.1
  unfold HouseReader_readBad M_readBad
  obtain ⟨a, c, e1, e2, R1, G1⟩ := zT_go1 R (Or.inl h11)
  have D1 : zHd a c B O S W H := zHd_ok G1 D
  have F1 : zHf a c B S s t := zHf_ok G1 F
  rw [e1, e2, Option.bind_some, Option.bind_some, D1.2.1.2.2.2.2.2.1, D1.2.2.1.2.1]
  rcases zT_known (c0 := 46) (N := 6) (base := 26) (cnt := O) (by omega) (by omega) (by omega) (fun i hi => (D1.2.2.2.2.1 i hi).2.2.2.2.2.2.2) R1 with ⟨k, hk, k11, y1, y2⟩ | ⟨a2, c2, y1, y2, Bd⟩
  rotate_left
  · have y1' : Tokens_takeKnown a (44 + 2) 6 (Int32.ofNat O) = some (-1, a2) := y1
    have y2' : M_looksAt c 26 (Int32.ofNat O) = some (0, c2) := y2
    rw [y1', y2', Option.bind_some, Option.bind_some]
    dsimp only
    rw [if_pos rfl, if_pos rfl]
    exact Or.inr ⟨a2, c2, rfl, rfl, Bd⟩
  have y1' : Tokens_takeKnown a (44 + 2) 6 (Int32.ofNat O) = ((Tokens_advance a).bind fun r => some (Int32.ofNat k, r)) := y1
  have y2' : M_looksAt c 26 (Int32.ofNat O) = some (1, upI c 0 18 (Int32.ofNat k)) := y2
  obtain ⟨a2, c2, u1, u2, R3, U⟩ := zT_go (zRd_M (zMw_18 (v := Int32.ofNat k)) R1)
  have D3 : zHd a2 c2 B O S W H := zHd_ok U (zHd_M (upI_ne' (by omega)) rfl D1)
  rw [y1', u1, y2', Option.bind_some, Option.bind_some, Option.bind_some]
  dsimp only
  rw [if_neg (z_nm1 (show k < 2147483648 by omega)), if_neg (show ¬ (1 : Int32) = 0 by decide), nm_eq, upI_at, zk37, z_ix (show k < 6 by omega) (by omega), Option.bind_some, Option.bind_some, z_ix (show 37 + k < 97 by omega) (by omega), Option.bind_some, show 44 + 12 + k = 56 + k by omega]
  have hrow : a2.1 (56 + k) 2 = c.1 3 (37 + k) - 1 := by rw [U.1 (56 + k) (by omega)]; exact (D1.2.2.2.2.1 k hk).2.2.1
  have hzr : zr (c.1 3 (37 + k)) 0 4 := (D1.2.2.2.2.1 k hk).2.2.2.2.1
  rw [hrow, show (upI c 0 18 (Int32.ofNat k)).1 3 = c.1 3 from upI_ne' (by omega)]
  by_cases h0 : 0 < c.1 3 (37 + k)
  · rw [if_neg (fun e => (z_m1r hzr).mp e h0), if_pos h0]
    obtain ⟨a4, c4, v1, v2, v3⟩ := zT_failB (k := 3) (mM := upI c 0 18 (Int32.ofNat k)) (by decide) R3 (by rw [U.2.1, upI_nj (by omega)]; exact R1.1.2.2.2.1) (zXM_t R1.2.2.2 zMw_18.1)
    exact Or.inr ⟨a4, c4, by rw [v1, Option.bind_some, rz_0, Option.bind_some], by rw [v2, Option.bind_some, rz_0, Option.bind_some], v3⟩
  · rw [if_pos ((z_m1r hzr).mpr h0), if_neg h0, u2, Option.bind_some]
    rcases zT_one (f0 := 12) (by omega) R3 with ⟨j, hj, j11, x1, x2⟩ | ⟨a3, c3, x1, x2, Bd⟩
    rotate_left
    · have x1' : Tokens_takeWord a2 12 4 = some (-1, a3) := x1
      have x2' := zM_sideW (r := (0, c3)) x2 (Or.inl rfl)
      rw [x1', x2', Option.bind_some, Option.bind_some]
      dsimp only
      rw [nm_eq, Option.bind_some, show 44 + 12 + k = 56 + k by omega, upI_at, if_pos rfl, if_pos rfl]
      exact Or.inr ⟨_, c3, rfl, rfl, zBad_C (zCw_I (by omega)) Bd⟩
    · have x1' : Tokens_takeWord a2 12 4 = ((Tokens_advance a2).bind fun r => some (Int32.ofNat j, r)) := x1
      have x2' := zM_sideW (r := (1, upI c2 0 18 (Int32.ofNat j))) x2 (Or.inr rfl)
      obtain ⟨a3, c3, v1, v2, R5, V⟩ := zT_go (zRd_M (zMw_t (zMw_18 (v := Int32.ofNat j)) (zMw_row (c := 3) (j := 37 + k) (v := Int32.ofNat j + 1) (by omega))) R3)
      rw [x1', v1, x2', Option.bind_some, Option.bind_some, Option.bind_some]
      dsimp only
      rw [nm_eq, Option.bind_some, show 44 + 12 + k = 56 + k by omega, upI_at, if_neg (z_nm1 (show j < 2147483648 by omega)), if_neg (show ¬ (1 : Int32) = 0 by decide), Option.bind_some, nm_eq, upI_at, v2, Option.bind_some]
      obtain ⟨w1, w2, w3, w4, w5, w6⟩ := V
      refine Or.inl ⟨_, c3, rfl, rfl, zRd_C (zCw_I (by omega)) R5, B, O, S, W, H, s, t, zHd_ubad (mC := a2) (mM := c2) (k := k) (v := Int32.ofNat j + 1) hk (z_r4 hj) ?_ ?_ ?_ ?_ ?_ ?_ ?_ D3, ?_, ?_, ?_, ?_⟩
      · intro d h h' hne
        rw [upI_ne' hne, w1 d (by omega)]
      · intro i hi
        rw [upI_nj hi, w1 (56 + k) (by omega)]
      · rw [upI_at, Int32.add_sub_cancel]
      · intro d h h'
        rw [upI_2, w3 d (by omega)]
      · intro i hi
        rw [w4 3 (by omega), upI_nj hi, upI_ne' (by omega)]
      · rw [w4 3 (by omega), upI_at]
      · rw [w6 5 (by omega), upI_2, upI_2]
      · rw [upI_ne' (by omega), w1 44 (by omega), U.1 44 (by omega)]; exact F1.1
      · rw [upI_ne' (by omega), w1 44 (by omega), U.1 44 (by omega)]; exact F1.2.1
      · rw [w5 20 (by omega) (by omega), upI_ne' (by omega), upI_nj (by omega), U.2.2.2.2.1 20 (by omega) (by omega), upI_nj (by omega)]; exact F1.2.2.1
      · rw [w5 21 (by omega) (by omega), upI_ne' (by omega), upI_nj (by omega), U.2.2.2.2.1 21 (by omega) (by omega), upI_nj (by omega)]; exact F1.2.2.2
theorem zL_wants (h11 : mM.1 0 11 = 1) (D : zHd mC mM B O S W H) (F : zHf mC mM B S s t) (R : zRd n lim q b C0 M0 mC mM) : zLn n lim (q + 1) b C0 M0 (HouseReader_readWants mC 44) (M_readWants mM) := by
  obtain ⟨f4, f5, f20, f21⟩ := id F
  have b6 := D.1.1
  have o6 := D.1.2.1
  have s8 := D.1.2.2.1
  unfold HouseReader_readWants M_readWants
  obtain ⟨a, c, e1, e2, R1, G1⟩ := zT_go1 R (Or.inl h11)
  have D1 : zHd a c B O S W H := zHd_ok G1 D
  have F1 : zHf a c B S s t := zHf_ok G1 F
  rw [e1, e2, Option.bind_some, Option.bind_some, D1.2.1.2.2.2.2.1, D1.2.2.1.1]
  rcases zT_known (c0 := 45) (N := 6) (base := 20) (cnt := B) (by omega) (by omega) (by omega) (fun i hi => (D1.2.2.2.1 i hi).2.2.2.2) R1 with ⟨k, hk, k11, y1, y2⟩ | ⟨a2, c2, y1, y2, Bd⟩
  rotate_left
  · have y1' : Tokens_takeKnown a (44 + 1) 6 (Int32.ofNat B) = some (-1, a2) := y1
    have y2' : M_looksAt c 20 (Int32.ofNat B) = some (0, c2) := y2
    rw [y1', y2', Option.bind_some, Option.bind_some]
    dsimp only
    rw [if_pos rfl, if_pos rfl]
    exact Or.inr ⟨a2, c2, rfl, rfl, Bd⟩
  have y1' : Tokens_takeKnown a (44 + 1) 6 (Int32.ofNat B) = ((Tokens_advance a).bind fun r => some (Int32.ofNat k, r)) := y1
  have y2' : M_looksAt c 20 (Int32.ofNat B) = some (1, upI c 0 18 (Int32.ofNat k)) := y2
  obtain ⟨a2, c2, u1, u2, R3, U⟩ := zT_go (zRd_M (zMw_18 (v := Int32.ofNat k)) R1)
  have D3 : zHd a2 c2 B O S W H := zHd_ok U (zHd_M (upI_ne' (by omega)) rfl D1)
  rw [y1', u1, y2', Option.bind_some, Option.bind_some, Option.bind_some]
  dsimp only
  rw [if_neg (z_nm1 (show k < 2147483648 by omega)), if_neg (show ¬ (1 : Int32) = 0 by decide), nm_eq, upI_at, zk19, z_ix (show k < 6 by omega) (by omega), Option.bind_some, Option.bind_some, z_ix (show 19 + k < 97 by omega) (by omega), Option.bind_some, show 44 + 5 + k = 49 + k by omega]
  have hrow : a2.1 (49 + k) 2 = c.1 3 (19 + k) - 1 := by rw [U.1 (49 + k) (by omega)]; exact (D1.2.2.2.1 k hk).2.2.1
  have hzr : zr (c.1 3 (19 + k)) 0 4 := (D1.2.2.2.1 k hk).2.2.2.1
  rw [hrow, show (upI c 0 18 (Int32.ofNat k)).1 3 = c.1 3 from upI_ne' (by omega)]
  by_cases h0 : 0 < c.1 3 (19 + k)
  · rw [if_neg (fun e => (z_m1r hzr).mp e h0), if_pos h0]
    obtain ⟨a4, c4, v1, v2, v3⟩ := zT_failB (k := 3) (mM := upI c 0 18 (Int32.ofNat k)) (by decide) R3 (by rw [U.2.1, upI_nj (by omega)]; exact R1.1.2.2.2.1) (zXM_t R1.2.2.2 zMw_18.1)
    exact Or.inr ⟨a4, c4, by rw [v1, Option.bind_some, rz_0, Option.bind_some], by rw [v2, Option.bind_some, rz_0, Option.bind_some], v3⟩
  · rw [if_pos ((z_m1r hzr).mpr h0), if_neg h0, u2, Option.bind_some]
    rcases zT_one (f0 := 8) (by omega) R3 with ⟨j, hj, j11, x1, x2⟩ | ⟨a3, c3, x1, x2, Bd⟩
    rotate_left
    · have x1' : Tokens_takeWord a2 8 4 = some (-1, a3) := x1
      have x2' := zM_kind (f := 0) (r := (0, c3)) x2 (Or.inl rfl)
      rw [x1', x2', Option.bind_some, Option.bind_some]
      dsimp only
      rw [nm_eq, Option.bind_some, show 44 + 5 + k = 49 + k by omega, upI_at, if_pos rfl, if_pos rfl]
      exact Or.inr ⟨_, c3, rfl, rfl, zBad_C (zCw_I (by omega)) Bd⟩
    · have x1' : Tokens_takeWord a2 8 4 = ((Tokens_advance a2).bind fun r => some (Int32.ofNat j, r)) := x1
      have x2' := zM_kind (f := 0) (r := (1, upI c2 0 18 (Int32.ofNat j))) x2 (Or.inr rfl)
      obtain ⟨a3, c3, v1, v2, R5, V⟩ := zT_go (zRd_M (zMw_t (zMw_18 (v := Int32.ofNat j)) (zMw_row (c := 3) (j := 19 + k) (v := Int32.ofNat j + 1) (by omega))) R3)
      rw [x1', v1, x2', Option.bind_some, Option.bind_some, Option.bind_some]
      dsimp only
      rw [nm_eq, Option.bind_some, show 44 + 5 + k = 49 + k by omega, upI_at, if_neg (z_nm1 (show j < 2147483648 by omega)), if_neg (show ¬ (1 : Int32) = 0 by decide), Option.bind_some, nm_eq, upI_at, v2, Option.bind_some]
      obtain ⟨w1, w2, w3, w4, w5, w6⟩ := V
      refine Or.inl ⟨_, c3, rfl, rfl, zRd_C (zCw_I (by omega)) R5, B, O, S, W, H, s, t, zHd_uwants (mC := a2) (mM := c2) (k := k) (v := Int32.ofNat j + 1) hk (z_r4 hj) ?_ ?_ ?_ ?_ ?_ ?_ ?_ D3, ?_, ?_, ?_, ?_⟩
      · intro d h h' hne
        rw [upI_ne' hne, w1 d (by omega)]
      · intro i hi
        rw [upI_nj hi, w1 (49 + k) (by omega)]
      · rw [upI_at, Int32.add_sub_cancel]
      · intro d h h'
        rw [upI_2, w3 d (by omega)]
      · intro i hi
        rw [w4 3 (by omega), upI_nj hi, upI_ne' (by omega)]
      · rw [w4 3 (by omega), upI_at]
      · rw [w6 5 (by omega), upI_2, upI_2]
      · rw [upI_ne' (by omega), w1 44 (by omega), U.1 44 (by omega)]; exact F1.1
      · rw [upI_ne' (by omega), w1 44 (by omega), U.1 44 (by omega)]; exact F1.2.1
      · rw [w5 20 (by omega) (by omega), upI_ne' (by omega), upI_nj (by omega), U.2.2.2.2.1 20 (by omega) (by omega), upI_nj (by omega)]; exact F1.2.2.1
      · rw [w5 21 (by omega) (by omega), upI_ne' (by omega), upI_nj (by omega), U.2.2.2.2.1 21 (by omega) (by omega), upI_nj (by omega)]; exact F1.2.2.2
theorem zL_deaf (h11 : mM.1 0 11 = 1) (D : zHd mC mM B O S W H) (F : zHf mC mM B S s t) (R : zRd n lim q b C0 M0 mC mM) : zLn n lim (q + 1) b C0 M0 (HouseReader_readDeaf mC 44) (M_readDeaf mM) := by
  obtain ⟨f4, f5, f20, f21⟩ := id F
  have b6 := D.1.1
  have o6 := D.1.2.1
  have s8 := D.1.2.2.1
  unfold HouseReader_readDeaf M_readDeaf M_takesName
  obtain ⟨a, c, e1, e2, R1, G1⟩ := zT_go1 R (Or.inl h11)
  have D1 : zHd a c B O S W H := zHd_ok G1 D
  have F1 : zHf a c B S s t := zHf_ok G1 F
  rw [e1, e2, Option.bind_some, Option.bind_some, D1.2.1.2.2.2.2.2.1, D1.2.2.1.2.1]
  rcases zT_known (c0 := 46) (N := 6) (base := 26) (cnt := O) (by omega) (by omega) (by omega) (fun i hi => (D1.2.2.2.2.1 i hi).2.2.2.2.2.2.2) R1 with ⟨k, hk, k11, y1, y2⟩ | ⟨a2, c2, y1, y2, Bd⟩
  rotate_left
  · have y1' : Tokens_takeKnown a (44 + 2) 6 (Int32.ofNat O) = some (-1, a2) := y1
    have y2' : M_looksAt c 26 (Int32.ofNat O) = some (0, c2) := y2
    rw [y1', y2', Option.bind_some, Option.bind_some]
    dsimp only
    rw [if_pos rfl, if_pos rfl, Option.bind_some]
    dsimp only
    rw [if_pos rfl]
    unfold HouseReader_readDeaf_b33
    rw [if_pos rfl]
    exact Or.inr ⟨a2, c2, rfl, rfl, Bd⟩
  have y1' : Tokens_takeKnown a (44 + 2) 6 (Int32.ofNat O) = ((Tokens_advance a).bind fun r => some (Int32.ofNat k, r)) := y1
  have y2' : M_looksAt c 26 (Int32.ofNat O) = some (1, upI c 0 18 (Int32.ofNat k)) := y2
  obtain ⟨a2, c2, u1, u2, R3, U⟩ := zT_go (zRd_M (zMw_18 (v := Int32.ofNat k)) R1)
  have D3 : zHd a2 c2 B O S W H := zHd_ok U (zHd_M (upI_ne' (by omega)) rfl D1)
  have c18 : c2.1 0 18 = Int32.ofNat k := by rw [U.2.2.2.2.1 18 (by omega) (by omega), upI_at]
  rw [y1', u1, y2', Option.bind_some, Option.bind_some, Option.bind_some]
  dsimp only
  rw [if_neg (z_nm1 (show k < 2147483648 by omega)), if_neg (show ¬ (1 : Int32) = 0 by decide), u2, Option.bind_some, Option.bind_some]
  dsimp only
  rw [if_neg (show ¬ (1 : Int32) = 0 by decide), nm_eq, c18]
  rcases zT_one (f0 := 8) (by omega) R3 with ⟨j, hj, j11, x1, x2⟩ | ⟨a3, c3, x1, x2, Bd⟩
  rotate_left
  · have x1' : Tokens_takeWord a2 8 4 = some (-1, a3) := x1
    have x2' := zM_kind (f := 0) (r := (0, c3)) x2 (Or.inl rfl)
    rw [x1', x2', Option.bind_some, Option.bind_some]
    dsimp only
    rw [if_pos rfl]
    unfold HouseReader_readDeaf_b33
    rw [if_pos rfl]
    exact Or.inr ⟨a3, c3, rfl, rfl, Bd⟩
  have x1' : Tokens_takeWord a2 8 4 = ((Tokens_advance a2).bind fun r => some (Int32.ofNat j, r)) := x1
  have x2' := zM_kind (f := 0) (r := (1, upI c2 0 18 (Int32.ofNat j))) x2 (Or.inr rfl)
  obtain ⟨a3, c3, v1, v2, R5, V⟩ := zT_go (zRd_M (zMw_t (zMw_18 (v := Int32.ofNat j)) (zMw_row (c := 3) (j := 43 + k) (v := c2.1 3 (43 + k) ||| i_shl 1 (Int32.ofNat j)) (by omega))) R3)
  rw [x1', v1, x2', Option.bind_some, Option.bind_some, Option.bind_some]
  dsimp only
  rw [if_neg (show ¬ (1 : Int32) = 0 by decide), zk43, z_ix (show 43 + k < 97 by omega) (by omega), Option.bind_some, upI_at, show (upI c2 0 18 (Int32.ofNat j)).1 3 = c2.1 3 from upI_ne' (by omega), zM_bit, Option.bind_some, nm_eq, z_ix (show 43 + k < 97 by omega) (by omega), Option.bind_some, Option.bind_some, nm_eq, v2]
  unfold HouseReader_readDeaf_b33
  have hrow : a3.1 (56 + k) 3 = c2.1 3 (43 + k) := by rw [V.1 (56 + k) (by omega)]; exact (D3.2.2.2.2.1 k hk).2.2.2.1
  rw [if_neg (z_nm1 (show j < 2147483648 by omega)), z_ix (show k < 6 by omega) (by omega), Option.bind_some, Option.bind_some, show 44 + 12 + k = 56 + k by omega, hrow, nm_eq]
  by_cases hb : i_shr (c2.1 3 (43 + k)) (Int32.ofNat j) &&& 1 = 1
  · rw [if_pos hb, decide_eq_true hb, if_neg (show ¬ zb true = 0 by decide)]
    obtain ⟨a4, c4, q1, q2, q3⟩ := zT_failB (k := 3) (mM := upI c2 0 18 (Int32.ofNat j)) (by decide) R5 (by rw [V.2.1, upI_nj (by omega)]; exact R3.1.2.2.2.1) (zXM_t R3.2.2.2 zMw_18.1)
    exact Or.inr ⟨a4, c4, by rw [q1, Option.bind_some, rz_0, Option.bind_some], by rw [q2, Option.bind_some, rz_0, Option.bind_some], q3⟩
  · rw [if_neg hb, decide_eq_false hb, if_pos (show zb false = 0 from rfl), Option.bind_some]
    obtain ⟨w1, w2, w3, w4, w5, w6⟩ := V
    refine Or.inl ⟨_, c3, rfl, rfl, zRd_C (zCw_I (by omega)) R5, B, O, S, W, H, s, t, zHd_udeaf (mC := a2) (mM := c2) (k := k) (v := c2.1 3 (43 + k) ||| i_shl 1 (Int32.ofNat j)) hk ?_ ?_ ?_ ?_ ?_ ?_ ?_ D3, ?_, ?_, ?_, ?_⟩
    · intro d h h' hne
      rw [upI_ne' hne, w1 d (by omega)]
    · intro i hi
      rw [upI_nj hi, w1 (56 + k) (by omega)]
    · rw [upI_at]
    · intro d h h'
      rw [upI_2, w3 d (by omega)]
    · intro i hi
      rw [w4 3 (by omega), upI_nj hi, upI_ne' (by omega)]
    · rw [w4 3 (by omega), upI_at]
    · rw [w6 5 (by omega), upI_2, upI_2]
    · rw [upI_ne' (by omega), w1 44 (by omega), U.1 44 (by omega)]; exact F1.1
    · rw [upI_ne' (by omega), w1 44 (by omega), U.1 44 (by omega)]; exact F1.2.1
    · rw [w5 20 (by omega) (by omega), upI_ne' (by omega), upI_nj (by omega), U.2.2.2.2.1 20 (by omega) (by omega), upI_nj (by omega)]; exact F1.2.2.1
    · rw [w5 21 (by omega) (by omega), upI_ne' (by omega), upI_nj (by omega), U.2.2.2.2.1 21 (by omega) (by omega), upI_nj (by omega)]; exact F1.2.2.2
end ZHW
