/-! Layer 2. house: its line sound -/
section ZHS
variable {m m' mC mC' mM mM' C0 M0 C1 M1 : xMem} {n p lim q B O S W H : Nat} {b : Nat → Nat} {s t : Bool}
theorem zC_s149 {v2 : Int32} {v3 : Int64} {v5 v6 v7 v8 v9 : Int32} : HouseReader_readSound_b149 44 v2 v3 v5 v6 v7 v8 v9 (-1) m = some (0, m) := by
  unfold HouseReader_readSound_b149
  rw [if_pos rfl]
theorem zC_s130 {v2 : Int32} {v3 : Int64} {v5 v6 v7 v8 : Int32} : HouseReader_readSound_b130 44 v2 v3 v5 v6 v7 v8 (-1) m = some (0, m) := by
  unfold HouseReader_readSound_b130
  rw [if_pos rfl, zC_s149]
theorem zC_s111 {v2 : Int32} {v3 : Int64} {v5 v6 v7 : Int32} : HouseReader_readSound_b111 44 v2 v3 v5 v6 v7 (-1) m = some (0, m) := by
  unfold HouseReader_readSound_b111
  rw [if_pos rfl, zC_s130]
theorem zC_s92 {v2 : Int32} {v3 : Int64} {v5 v6 : Int32} : HouseReader_readSound_b92 44 v2 v3 v5 v6 (-1) m = some (0, m) := by
  unfold HouseReader_readSound_b92
  rw [if_pos rfl, zC_s111]
theorem zC_s69 {v2 : Int32} {v3 : Int64} {v5 : Int32} : HouseReader_readSound_b69 44 v2 v3 v5 (-1) m = some (0, m) := by
  unfold HouseReader_readSound_b69
  rw [if_pos rfl, zC_s92]
theorem zC_s46 {v2 : Int32} {v3 : Int64} : HouseReader_readSound_b46 44 v2 v3 (-1) m = some (0, m) := by
  unfold HouseReader_readSound_b46
  rw [if_pos rfl, zC_s69]
theorem zM_kind {f : Nat} {r : Int32 × xMem} (h : M_isOneOf m 8 = some r) (hr : r.1 = 0 ∨ r.1 = 1) : M_isKind m = some r := by
  unfold M_isKind
  rw [h, Option.bind_some]
  rcases hr with e | e
  · rw [e, rz_0, Option.bind_some]
    exact congrArg some (Prod.ext e.symm rfl)
  · rw [e, rz_1, Option.bind_some]
    exact congrArg some (Prod.ext e.symm rfl)
theorem zHd_sound {x : Nat → Nat} {w : List Nat} (s8 : S < 8) (hw : zVw w)
    (h1 : ∀ c, 45 ≤ c → c < 71 → c ≠ 63 + S → mC'.1 c = mC.1 c) (h0 : ∀ j, j ≠ 8 → mC'.1 44 j = mC.1 44 j) (h8 : mC'.1 44 8 = Int32.ofNat (S + 1))
    (hb : ∀ j, j < 6 → mC'.1 (63 + S) j = Int32.ofNat (x j))
    (h2 : ∀ c, c = 45 ∨ c = 46 → mC'.2 c = mC.2 c) (h2b : ∀ i, i ≠ S → mC'.2 47 i = mC.2 47 i) (h2n : mC'.2 47 S = Int64.ofNat (zE5 w))
    (h3 : ∀ j, zLv B O S j → j ≠ 2 → mM'.1 3 j = mM.1 3 j) (h32 : mM'.1 3 2 = Int32.ofNat (S + 1)) (hm : ∀ j, j < 6 → mM'.1 3 (49 + 8 * j + S) = Int32.ofNat (x j))
    (h5 : ∀ j, zLn8 B O S j → mM'.2 5 j = mM.2 5 j) (h5n : mM'.2 5 (32 + S) = Int64.ofNat (zE8 w)) (D : zHd mC mM B O S W H) : zHd mC' mM' B O (S + 1) W H := by
  obtain ⟨d0, d1, d2, d3, d4, d5, d6⟩ := D
  unfold zLv at h3
  unfold zLn8 at h5
  refine ⟨⟨d0.1, d0.2.1, by omega, d0.2.2.2⟩, ⟨by rw [h0 0 (by omega)]; exact d1.1, by rw [h0 1 (by omega)]; exact d1.2.1, by rw [h0 2 (by omega), h3 5 (by omega) (by omega)]; exact d1.2.2.1, by rw [h0 3 (by omega), h3 6 (by omega) (by omega)]; exact d1.2.2.2.1, by rw [h0 6 (by omega)]; exact d1.2.2.2.2.1, by rw [h0 7 (by omega)]; exact d1.2.2.2.2.2.1, h8⟩, ⟨by rw [h3 0 (by omega) (by omega)]; exact d2.1, by rw [h3 1 (by omega) (by omega)]; exact d2.2.1, h32, by rw [h3 3 (by omega) (by omega)]; exact d2.2.2.2.1, by rw [h3 4 (by omega) (by omega)]; exact d2.2.2.2.2⟩, fun b hbb => ?_, fun o ho => ?_, fun i hi => ?_, fun o h h' => ?_⟩
  · rw [h1 (49 + b) (by omega) (by omega) (by omega), h2 45 (by omega), h3 (7 + b) (by omega) (by omega), h3 (13 + b) (by omega) (by omega), h3 (19 + b) (by omega) (by omega), h5 (20 + b) (by omega)]
    exact d3 b hbb
  · rw [h1 (56 + o) (by omega) (by omega) (by omega), h2 46 (by omega), h3 (25 + o) (by omega) (by omega), h3 (31 + o) (by omega) (by omega), h3 (37 + o) (by omega) (by omega), h3 (43 + o) (by omega) (by omega), h5 (26 + o) (by omega)]
    obtain ⟨a1, a2, a3, a4, a5, a6, a7, a8⟩ := d4 o (by omega)
    exact ⟨a1, a2, a3, a4, a5, a6, fun o' ho' => by rw [h3 (25 + o') (by omega) (by omega)]; exact a7 o' ho', a8⟩
  · by_cases e : i = S
    · subst e
      refine ⟨⟨?_, ?_, ?_, ?_, ?_, ?_⟩, w, hw.1, hw.2.1, hw.2.2, h2n, h5n⟩
      · rw [hb 0 (by omega)]; exact (hm 0 (by omega)).symm
      · rw [hb 1 (by omega)]; exact (hm 1 (by omega)).symm
      · rw [hb 2 (by omega)]; exact (hm 2 (by omega)).symm
      · rw [hb 3 (by omega)]; exact (hm 3 (by omega)).symm
      · rw [hb 4 (by omega)]; exact (hm 4 (by omega)).symm
      · rw [hb 5 (by omega)]; exact (hm 5 (by omega)).symm
    · rw [h1 (63 + i) (by omega) (by omega) (by omega), h2b i e, h3 (49 + i) (by omega) (by omega), h3 (57 + i) (by omega) (by omega), h3 (65 + i) (by omega) (by omega), h3 (73 + i) (by omega) (by omega), h3 (81 + i) (by omega) (by omega), h3 (89 + i) (by omega) (by omega), h5 (32 + i) (by omega)]
      exact d5 i (by omega)
  · rw [h3 (37 + o) (by omega) (by omega), h3 (43 + o) (by omega) (by omega)]
    exact d6 o h h'
theorem zL_sound (h11 : mM.1 0 11 = 1) (D : zHd mC mM B O S W H) (F : zHf mC mM B S s t) (R : zRd n lim q b C0 M0 mC mM) : zLn n lim (q + 1) b C0 M0 (HouseReader_readSound mC 44) (M_readSound mM) := by
  obtain ⟨f4, f5, f20, f21⟩ := id F
  have b6 := D.1.1
  have o6 := D.1.2.1
  have s8 := D.1.2.2.1
  have hW := D.1.2.2.2.2.1
  have hW9 := D.1.2.2.2.2.2.1
  have hH := D.1.2.2.2.2.2.2.1
  have hH9 := D.1.2.2.2.2.2.2.2
  unfold HouseReader_readSound M_readSound
  rw [nm_eq, nm_eq, D.2.1.2.2.2.2.2.2, D.2.2.1.2.2.1]
  by_cases hS : S = 8
  · rw [if_neg (show ¬ Int32.ofNat S < 8 from fun e => by have := (z_lt (b := 8) (by omega) (by omega)).mp e; omega), if_pos (show Int32.ofNat S = 8 by rw [hS]; rfl)]
    exact zLn_bad (by decide) R
  have hS8 : S < 8 := by omega
  rw [if_pos (show Int32.ofNat S < 8 from (z_lt (b := 8) (by omega) (by omega)).mpr hS8), if_neg (show ¬ Int32.ofNat S = 8 from fun e => hS ((z_eq (b := 8) (by omega) (by omega)).mp e)), nm_eq]
  have h11' : (upI mM 0 20 1).1 0 11 = 1 := by rw [upI_nj (by omega)]; exact h11
  obtain ⟨a, c, e1, e2, R1, G1⟩ := zT_go1 (zRd_M (zMw_0 (j := 20) (v := 1) (by omega)) R) (Or.inl h11')
  have D1 : zHd a c B O S W H := zHd_ok G1 (zHd_M (upI_ne' (by omega)) rfl D)
  obtain ⟨g1, g2, g3, g4, g5, g7⟩ := G1
  rw [e1, e2, Option.bind_some, Option.bind_some, zk32]
  rcases zT_new (p0 := 32 + S) (by omega) (by omega) D1 R1 with ⟨w, a1, c1, hw, x1, x2, R2, i1, i2, i3, i4, i5, i6⟩ | ⟨a1, c1, x1, x2, Bd⟩
  rotate_left
  · rw [x1, x2, Option.bind_some, Option.bind_some]
    dsimp only
    rw [if_pos (show lg_cmp (-1) (-1) = 0 by decide), if_pos rfl, zC_s46]
    exact Or.inr ⟨a1, c1, rfl, rfl, Bd⟩
  rw [x1, x2, Option.bind_some, Option.bind_some]
  dsimp only
  rw [if_neg (zE5_n1 hw), if_neg (show ¬ (1 : Int32) = 0 by decide)]
  rcases zT_one (f0 := 8) (by omega) R2 with ⟨k, hk, k11, y1, y2⟩ | ⟨a2, c2, y1, y2, Bd⟩
  rotate_left
  · have y1' : Tokens_takeWord a1 8 4 = some (-1, a2) := y1
    have y2' := zM_kind (f := 0) (r := (0, c2)) y2 (Or.inl rfl)
    rw [y1', y2', Option.bind_some, Option.bind_some]
    dsimp only
    rw [if_pos rfl, zC_s46]
    exact Or.inr ⟨a2, c2, rfl, rfl, Bd⟩
  have y1' : Tokens_takeWord a1 8 4 = ((Tokens_advance a1).bind fun r => some (Int32.ofNat k, r)) := y1
  have y2' := zM_kind (f := 0) (r := (1, upI c1 0 18 (Int32.ofNat k))) y2 (Or.inr rfl)
  obtain ⟨a2, c2, u1, u2, R3, w1, w2, w3, w4, w5, w6⟩ := zT_go (zRd_M (zMw_t (zMw_18 (v := Int32.ofNat k)) (zMw_row (c := 3) (j := 49 + S) (v := Int32.ofNat k) (by omega))) R2)
  rw [y1', u1, y2', Option.bind_some, Option.bind_some, Option.bind_some]
  dsimp only
  rw [if_neg (show ¬ (1 : Int32) = 0 by decide), upI_at, zk49, z_ix (show 49 + S < 97 by omega) (by omega), Option.bind_some, nm_eq, u2, Option.bind_some]
  have c44 : a2.1 44 = mC.1 44 := by rw [w1 44 (by omega), i1 44 (by omega), g1 44 (by omega)]
  have c3 : ∀ j, j ≠ 49 + S → c2.1 3 j = mM.1 3 j := fun j hj => by rw [w4 3 (by omega), upI_nj hj, upI_ne' (by omega), i3 3 (by omega), g4 3 (by omega), upI_ne' (by omega)]
  unfold HouseReader_readSound_b46
  rw [if_neg (z_nm1 (show k < 2147483648 by omega)), c44, D.2.1.1, c3 3 (by omega), D.2.2.1.2.2.2.1, z_sub1 (by omega), zk57]
  rcases zT_put (lo := 0) (hi := (W - 1)) (j := 57 + S) (by omega) (by omega) (by omega) R3 with ⟨v0, a3, c13, lo0, hi0, xa0, xb0, R4, ka0, kb0, kc0, kd0, ke0, kf0, kg0⟩ | ⟨a3, c13, xa0, xb0, Bd⟩
  rotate_left
  · have xa' : Tokens_takeNumber a2 0 (Int32.ofNat (W - 1)) = some (-1, a3) := xa0
    have xb' : M_puts c2 (Int32.ofNat (57 + S)) 0 (Int32.ofNat (W - 1)) = some (0, c13) := xb0
    rw [xa', xb', Option.bind_some, Option.bind_some]
    dsimp only
    rw [if_pos rfl, zC_s69]
    exact Or.inr ⟨a3, c13, rfl, rfl, Bd⟩
  have xa0' : Tokens_takeNumber a2 0 (Int32.ofNat (W - 1)) = some (Int32.ofNat v0, a3) := xa0
  have xb0' : M_puts c2 (Int32.ofNat (57 + S)) 0 (Int32.ofNat (W - 1)) = some (1, c13) := xb0
  rw [xa0', xb0', Option.bind_some, Option.bind_some]
  dsimp only
  rw [if_neg (show ¬ (1 : Int32) = 0 by decide)]
  unfold HouseReader_readSound_b69
  rw [if_neg (z_nm1 (show v0 < 2147483648 by omega))]
  rw [ka0 44 (by omega), c44, D.2.1.2.1, ke0 4 (by omega), c3 4 (by omega), D.2.2.1.2.2.2.2, z_sub1 (by omega), zk65]
  rcases zT_put (lo := 0) (hi := (H - 1)) (j := 65 + S) (by omega) (by omega) (by omega) R4 with ⟨v1, a4, c14, lo1, hi1, xa1, xb1, R5, ka1, kb1, kc1, kd1, ke1, kf1, kg1⟩ | ⟨a4, c14, xa1, xb1, Bd⟩
  rotate_left
  · have xa' : Tokens_takeNumber a3 0 (Int32.ofNat (H - 1)) = some (-1, a4) := xa1
    have xb' : M_puts c13 (Int32.ofNat (65 + S)) 0 (Int32.ofNat (H - 1)) = some (0, c14) := xb1
    rw [xa', xb', Option.bind_some, Option.bind_some]
    dsimp only
    rw [if_pos rfl, zC_s92]
    exact Or.inr ⟨a4, c14, rfl, rfl, Bd⟩
  have xa1' : Tokens_takeNumber a3 0 (Int32.ofNat (H - 1)) = some (Int32.ofNat v1, a4) := xa1
  have xb1' : M_puts c13 (Int32.ofNat (65 + S)) 0 (Int32.ofNat (H - 1)) = some (1, c14) := xb1
  rw [xa1', xb1', Option.bind_some, Option.bind_some]
  dsimp only
  rw [if_neg (show ¬ (1 : Int32) = 0 by decide)]
  unfold HouseReader_readSound_b92
  rw [if_neg (z_nm1 (show v1 < 2147483648 by omega))]
  rw [zk73]
  rcases zT_put (lo := 1) (hi := 30) (j := 73 + S) (by omega) (by omega) (by omega) R5 with ⟨v2, a5, c15, lo2, hi2, xa2, xb2, R6, ka2, kb2, kc2, kd2, ke2, kf2, kg2⟩ | ⟨a5, c15, xa2, xb2, Bd⟩
  rotate_left
  · have xa' : Tokens_takeNumber a4 1 30 = some (-1, a5) := xa2
    have xb' : M_puts c14 (Int32.ofNat (73 + S)) 1 30 = some (0, c15) := xb2
    rw [xa', xb', Option.bind_some, Option.bind_some]
    dsimp only
    rw [if_pos rfl, zC_s111]
    exact Or.inr ⟨a5, c15, rfl, rfl, Bd⟩
  have xa2' : Tokens_takeNumber a4 1 30 = some (Int32.ofNat v2, a5) := xa2
  have xb2' : M_puts c14 (Int32.ofNat (73 + S)) 1 30 = some (1, c15) := xb2
  rw [xa2', xb2', Option.bind_some, Option.bind_some]
  dsimp only
  rw [if_neg (show ¬ (1 : Int32) = 0 by decide)]
  unfold HouseReader_readSound_b111
  rw [if_neg (z_nm1 (show v2 < 2147483648 by omega))]
  rw [zk81]
  rcases zT_put (lo := 0) (hi := 23) (j := 81 + S) (by omega) (by omega) (by omega) R6 with ⟨v3, a6, c16, lo3, hi3, xa3, xb3, R7, ka3, kb3, kc3, kd3, ke3, kf3, kg3⟩ | ⟨a6, c16, xa3, xb3, Bd⟩
  rotate_left
  · have xa' : Tokens_takeNumber a5 0 23 = some (-1, a6) := xa3
    have xb' : M_puts c15 (Int32.ofNat (81 + S)) 0 23 = some (0, c16) := xb3
    rw [xa', xb', Option.bind_some, Option.bind_some]
    dsimp only
    rw [if_pos rfl, zC_s130]
    exact Or.inr ⟨a6, c16, rfl, rfl, Bd⟩
  have xa3' : Tokens_takeNumber a5 0 23 = some (Int32.ofNat v3, a6) := xa3
  have xb3' : M_puts c15 (Int32.ofNat (81 + S)) 0 23 = some (1, c16) := xb3
  rw [xa3', xb3', Option.bind_some, Option.bind_some]
  dsimp only
  rw [if_neg (show ¬ (1 : Int32) = 0 by decide)]
  unfold HouseReader_readSound_b130
  rw [if_neg (z_nm1 (show v3 < 2147483648 by omega))]
  rw [zk89]
  rcases zT_put (lo := 0) (hi := 23) (j := 89 + S) (by omega) (by omega) (by omega) R7 with ⟨v4, a7, c17, lo4, hi4, xa4, xb4, R8, ka4, kb4, kc4, kd4, ke4, kf4, kg4⟩ | ⟨a7, c17, xa4, xb4, Bd⟩
  rotate_left
  · have xa' : Tokens_takeNumber a6 0 23 = some (-1, a7) := xa4
    have xb' : M_puts c16 (Int32.ofNat (89 + S)) 0 23 = some (0, c17) := xb4
    rw [xa', xb', Option.bind_some, Option.bind_some]
    dsimp only
    rw [if_pos rfl, zC_s149]
    exact Or.inr ⟨a7, c17, rfl, rfl, Bd⟩
  have xa4' : Tokens_takeNumber a6 0 23 = some (Int32.ofNat v4, a7) := xa4
  have xb4' : M_puts c16 (Int32.ofNat (89 + S)) 0 23 = some (1, c17) := xb4
  rw [xa4', xb4', Option.bind_some, Option.bind_some]
  dsimp only
  rw [if_neg (show ¬ (1 : Int32) = 0 by decide)]
  unfold HouseReader_readSound_b149
  rw [if_neg (z_nm1 (show v4 < 2147483648 by omega))]
  rw [z_ix hS8 (by omega), Option.bind_some, nm_eq, Option.bind_some, nm_eq, Option.bind_some, nm_eq, Option.bind_some, nm_eq, Option.bind_some, nm_eq, Option.bind_some, nm_eq, Option.bind_some, nm_eq, nm_eq, nm_eq]
  have hcc : ∀ d, d ≠ 3 → a7.1 d = mC.1 d := fun d hd => by rw [ka4 d hd, ka3 d hd, ka2 d hd, ka1 d hd, ka0 d hd, w1 d hd, i1 d hd, g1 d hd]
  have hc2 : ∀ d, d ≠ 3 → a7.2 d = mC.2 d := fun d hd => by rw [kb4 d hd, kb3 d hd, kb2 d hd, kb1 d hd, kb0 d hd, w3 d hd, i2 d hd, g3 d hd]
  have hm3 : ∀ j, j ≠ 49 + S → j ≠ 57 + S → j ≠ 65 + S → j ≠ 73 + S → j ≠ 81 + S → j ≠ 89 + S → c17.1 3 j = mM.1 3 j := fun j q0 q1 q2 q3 q4 q5 => by rw [ke4 j q5, ke3 j q4, ke2 j q3, ke1 j q2, ke0 j q1, c3 j q0]
  have h32 : c17.1 3 2 = Int32.ofNat S := by rw [hm3 2 (by omega) (by omega) (by omega) (by omega) (by omega) (by omega)]; exact D.2.2.1.2.2.1
  rw [h32, z_s]
  refine Or.inl ⟨_, _, rfl, rfl, zRd_M (zMw_row (by omega)) (zRd_C (zCw_t (zCw_L (by omega)) (zCw_t (zCw_I (by omega)) (zCw_t (zCw_I (by omega)) (zCw_t (zCw_I (by omega)) (zCw_t (zCw_I (by omega)) (zCw_t (zCw_I (by omega)) (zCw_t (zCw_I (by omega)) (zCw_I (by omega))))))))) R8), B, O, S + 1, W, H, s, t, zHd_sound (mC := mC) (mM := mM) (x := fun j => if j = 0 then k else if j = 1 then v0 else if j = 2 then v1 else if j = 3 then v2 else if j = 4 then v3 else v4) hS8 hw ?_ ?_ ?_ ?_ ?_ ?_ ?_ ?_ ?_ ?_ ?_ ?_ D, ?_, ?_, ?_, ?_⟩
  · intro d h h' hne
    rw [upI_ne' (by omega), upI_ne' (by omega), upI_ne' (by omega), upI_ne' (by omega), upI_ne' (by omega), upI_ne' (by omega), upI_ne' (by omega), upL_1, hcc d (by omega)]
  · intro j hj
    rw [upI_nj hj, upI_ne' (by omega), upI_ne' (by omega), upI_ne' (by omega), upI_ne' (by omega), upI_ne' (by omega), upI_ne' (by omega), upL_1, hcc 44 (by omega)]
  · rw [upI_at]
  · intro j hj
    rw [upI_ne' (by omega)]
    by_cases j0 : j = 0
    · subst j0
      rw [upI_nj (by omega), upI_nj (by omega), upI_nj (by omega), upI_nj (by omega), upI_nj (by omega), upI_at, if_pos rfl]
    · by_cases j1 : j = 1
      · subst j1
        rw [upI_nj (by omega), upI_nj (by omega), upI_nj (by omega), upI_nj (by omega), upI_at, if_neg (by omega), if_pos rfl]
      · by_cases j2 : j = 2
        · subst j2
          rw [upI_nj (by omega), upI_nj (by omega), upI_nj (by omega), upI_at, if_neg (by omega), if_neg (by omega), if_pos rfl]
        · by_cases j3 : j = 3
          · subst j3
            rw [upI_nj (by omega), upI_nj (by omega), upI_at, if_neg (by omega), if_neg (by omega), if_neg (by omega), if_pos rfl]
          · by_cases j4 : j = 4
            · subst j4
              rw [upI_nj (by omega), upI_at, if_neg (by omega), if_neg (by omega), if_neg (by omega), if_neg (by omega), if_pos rfl]
            · have j5 : j = 5 := by omega
              subst j5
              rw [upI_at, if_neg (by omega), if_neg (by omega), if_neg (by omega), if_neg (by omega), if_neg (by omega)]
  · intro d hd
    rw [upI_2, upI_2, upI_2, upI_2, upI_2, upI_2, upI_2, upL_ne' (by omega), hc2 d (by omega)]
  · intro i hi
    rw [upI_2, upI_2, upI_2, upI_2, upI_2, upI_2, upI_2, upL_nj hi, hc2 47 (by omega)]
  · rw [upI_2, upI_2, upI_2, upI_2, upI_2, upI_2, upI_2, upL_at]
  · intro j hj h0
    unfold zLv at hj
    rw [upI_nj h0, hm3 j (by omega) (by omega) (by omega) (by omega) (by omega) (by omega)]
  · rw [upI_at]
  · intro j hj
    rw [upI_nj (by omega)]
    by_cases j0 : j = 0
    · subst j0
      rw [show 49 + 8 * 0 + S = 49 + S by omega, ke4 (49 + S) (by omega), ke3 (49 + S) (by omega), ke2 (49 + S) (by omega), ke1 (49 + S) (by omega), ke0 (49 + S) (by omega), w4 3 (by omega), upI_at, if_pos rfl]
    · by_cases j1 : j = 1
      · subst j1
        rw [show 49 + 8 * 1 + S = 57 + S by omega, ke4 (57 + S) (by omega), ke3 (57 + S) (by omega), ke2 (57 + S) (by omega), ke1 (57 + S) (by omega), kf0, if_neg (by omega), if_pos rfl]
      · by_cases j2 : j = 2
        · subst j2
          rw [show 49 + 8 * 2 + S = 65 + S by omega, ke4 (65 + S) (by omega), ke3 (65 + S) (by omega), ke2 (65 + S) (by omega), kf1, if_neg (by omega), if_neg (by omega), if_pos rfl]
        · by_cases j3 : j = 3
          · subst j3
            rw [show 49 + 8 * 3 + S = 73 + S by omega, ke4 (73 + S) (by omega), ke3 (73 + S) (by omega), kf2, if_neg (by omega), if_neg (by omega), if_neg (by omega), if_pos rfl]
          · by_cases j4 : j = 4
            · subst j4
              rw [show 49 + 8 * 4 + S = 81 + S by omega, ke4 (81 + S) (by omega), kf3, if_neg (by omega), if_neg (by omega), if_neg (by omega), if_neg (by omega), if_pos rfl]
            · have j5 : j = 5 := by omega
              subst j5
              rw [show 49 + 8 * 5 + S = 89 + S by omega, kf4, if_neg (by omega), if_neg (by omega), if_neg (by omega), if_neg (by omega), if_neg (by omega)]
  · intro j hj
    unfold zLn8 at hj
    rw [upI_2, kg4 5 (by omega), kg3 5 (by omega), kg2 5 (by omega), kg1 5 (by omega), kg0 5 (by omega), w6 5 (by omega), upI_2, upI_2, i5 j (by omega), g7 5 (by omega), upI_2]
  · rw [upI_2, kg4 5 (by omega), kg3 5 (by omega), kg2 5 (by omega), kg1 5 (by omega), kg0 5 (by omega), w6 5 (by omega), upI_2, upI_2, i6]
  · rw [upI_nj (by omega), upI_ne' (by omega), upI_ne' (by omega), upI_ne' (by omega), upI_ne' (by omega), upI_ne' (by omega), upI_ne' (by omega), upL_1, hcc 44 (by omega)]; exact f4
  · rw [upI_nj (by omega), upI_ne' (by omega), upI_ne' (by omega), upI_ne' (by omega), upI_ne' (by omega), upI_ne' (by omega), upI_ne' (by omega), upL_1, hcc 44 (by omega)]; exact f5
  · rw [upI_ne' (by omega), kd4 20 (by omega) (by omega), kd3 20 (by omega) (by omega), kd2 20 (by omega) (by omega), kd1 20 (by omega) (by omega), kd0 20 (by omega) (by omega), w5 20 (by omega) (by omega), upI_ne' (by omega), upI_nj (by omega), i4 20 (by omega) (by omega), g5 20 (by omega) (by omega), upI_at, decide_eq_true (show 0 < S + 1 by omega), Bool.or_true]; rfl
  · rw [upI_ne' (by omega), kd4 21 (by omega) (by omega), kd3 21 (by omega) (by omega), kd2 21 (by omega) (by omega), kd1 21 (by omega) (by omega), kd0 21 (by omega) (by omega), w5 21 (by omega) (by omega), upI_ne' (by omega), upI_nj (by omega), i4 21 (by omega) (by omega), g5 21 (by omega) (by omega), upI_nj (by omega)]; exact f21
end ZHS
