/-! Layer 2. house: its lines house, shut -/
section ZHL
variable {m m' mC mC' mM mM' C0 M0 C1 M1 : xMem} {n p lim q B O S W H : Nat} {b : Nat → Nat} {s t : Bool}
theorem zLn_bad {k : Int32} {q' : Nat} (hk : ¬ k = 0) (R : zRd n lim q b C0 M0 mC mM) : zLn n lim q' b C0 M0 ((Tokens_fail mC k).bind fun r => (rz r.1).bind fun w => some (w, r.2)) ((M_bad mM k).bind fun r => (rz r.1).bind fun w => some (w, r.2)) := by
  obtain ⟨a, c, e1, e2, e3⟩ := zT_fail hk R
  exact Or.inr ⟨a, c, by rw [e1, Option.bind_some, rz_0, Option.bind_some], by rw [e2, Option.bind_some, rz_0, Option.bind_some], e3⟩
theorem zHd_set {W' H' : Nat} (hW : 2 ≤ W' ∧ W' ≤ 9) (hH : 2 ≤ H' ∧ H' ≤ 9) (h1 : ∀ c, 45 ≤ c → c < 71 → mC'.1 c = mC.1 c) (h6 : ∀ j, 6 ≤ j → mC'.1 44 j = mC.1 44 j) (h0 : mC'.1 44 0 = Int32.ofNat W' ∧ mC'.1 44 1 = Int32.ofNat H' ∧ mC'.1 44 2 = mM'.1 3 5 ∧ mC'.1 44 3 = mM'.1 3 6) (h2 : ∀ c, 45 ≤ c → c < 48 → mC'.2 c = mC.2 c) (h3 : ∀ j, j < 3 ∨ 7 ≤ j → mM'.1 3 j = mM.1 3 j) (h4 : mM'.1 3 3 = Int32.ofNat W' ∧ mM'.1 3 4 = Int32.ofNat H') (h5 : mM'.2 5 = mM.2 5) (D : zHd mC mM B O S W H) : zHd mC' mM' B O S W' H' := by
  obtain ⟨d0, d1, d2, d3, d4, d5, d6⟩ := D
  refine ⟨⟨d0.1, d0.2.1, d0.2.2.1, d0.2.2.2.1, hW.1, hW.2, hH.1, hH.2⟩, ⟨h0.1, h0.2.1, h0.2.2.1, h0.2.2.2, by rw [h6 6 (by omega)]; exact d1.2.2.2.2.1, by rw [h6 7 (by omega)]; exact d1.2.2.2.2.2.1, by rw [h6 8 (by omega)]; exact d1.2.2.2.2.2.2⟩, ⟨by rw [h3 0 (by omega)]; exact d2.1, by rw [h3 1 (by omega)]; exact d2.2.1, by rw [h3 2 (by omega)]; exact d2.2.2.1, h4.1, h4.2⟩, fun b hb => ?_, fun o ho => ?_, fun i hi => ?_, fun o h h' => ?_⟩
  · rw [h1 (49 + b) (by omega) (by omega), h2 45 (by omega) (by omega), h3 (7 + b) (by omega), h3 (13 + b) (by omega), h3 (19 + b) (by omega), h5]
    exact d3 b hb
  · rw [h1 (56 + o) (by omega) (by omega), h2 46 (by omega) (by omega), h3 (25 + o) (by omega), h3 (31 + o) (by omega), h3 (37 + o) (by omega), h3 (43 + o) (by omega), h5]
    obtain ⟨a1, a2, a3, a4, a5, a6, a7, a8⟩ := d4 o ho
    exact ⟨a1, a2, a3, a4, a5, a6, fun o' ho' => by rw [h3 (25 + o') (by omega)]; exact a7 o' ho', a8⟩
  · rw [h1 (63 + i) (by omega) (by omega), h2 47 (by omega) (by omega), h3 (49 + i) (by omega), h3 (57 + i) (by omega), h3 (65 + i) (by omega), h3 (73 + i) (by omega), h3 (81 + i) (by omega), h3 (89 + i) (by omega), h5]
    exact d5 i hi
  · rw [h3 (37 + o) (by omega), h3 (43 + o) (by omega)]
    exact d6 o h h'
def zMhouse (m : xMem) : Option (Int32 × xMem) :=
    if (m.1 0 20) = 0 then
      nm (upI m 0 20 1) fun m21 =>
      (M_go m21).bind fun r22 =>
      (M_puts r22 3 2 9).bind fun r23 =>
      if r23.1 = 0 then
        some (0, r23.2)
      else
        (M_puts r23.2 4 2 9).bind fun r24 =>
        if r24.1 = 0 then
          some (0, r24.2)
        else
          some (1, r24.2)
    else
      (M_bad m 3).bind fun r25 =>
      (rz r25.1).bind fun w => some (w, r25.2)
def zMshut (m : xMem) : Option (Int32 × xMem) :=
                  if (m.1 0 21) = 0 then
                    nm (upI m 0 21 1) fun m10 =>
                    (M_go m10).bind fun r11 =>
                    (M_puts r11 5 0 23).bind fun r12 =>
                    if r12.1 = 0 then
                      some (0, r12.2)
                    else
                      (M_puts r12.2 6 0 23).bind fun r13 =>
                      if r13.1 = 0 then
                        some (0, r13.2)
                      else
                        some (1, r13.2)
                  else
                    (M_bad m 3).bind fun r14 =>
                    (rz r14.1).bind fun w => some (w, r14.2)
theorem zL_house (h11 : mM.1 0 11 = 1) (D : zHd mC mM B O S W H) (F : zHf mC mM B S s t) (R : zRd n lim q b C0 M0 mC mM) : zLn n lim (q + 1) b C0 M0 (HouseReader_readHouse mC 44) (zMhouse mM) := by
  obtain ⟨f4, f5, f20, f21⟩ := id F
  have b6 := D.1.1
  have s8 := D.1.2.2.1
  have e6 : mC.1 44 6 = Int32.ofNat B := D.2.1.2.2.2.2.1
  have e8 : mC.1 44 8 = Int32.ofNat S := D.2.1.2.2.2.2.2.2
  have bad : ∀ (h : (s || decide (0 < B) || decide (0 < S)) = true), zLn n lim (q + 1) b C0 M0 (HouseReader_readHouse_b21 44 mC) (zMhouse mM) := fun h => by
    unfold HouseReader_readHouse_b21 zMhouse
    rw [f20, h, if_neg (show ¬ zb true = 0 by decide)]
    exact zLn_bad (by decide) R
  unfold HouseReader_readHouse
  rw [f4]
  cases s with
  | true => rw [if_neg (show ¬ zb true = 0 by decide)]; exact bad rfl
  | false =>
    rw [if_pos (show zb false = 0 from rfl), e6]
    by_cases hB : 0 < B
    · rw [if_pos (show 0 < Int32.ofNat B from (z_lt (a := 0) (by omega) (by omega)).mpr hB)]
      exact bad (by rw [decide_eq_true hB]; rfl)
    · rw [if_neg (show ¬ 0 < Int32.ofNat B from fun e => hB ((z_lt (a := 0) (by omega) (by omega)).mp e)), e8]
      by_cases hS : 0 < S
      · rw [if_pos (show 0 < Int32.ofNat S from (z_lt (a := 0) (by omega) (by omega)).mpr hS)]
        exact bad (by rw [decide_eq_true hS, Bool.or_true])
      · rw [if_neg (show ¬ 0 < Int32.ofNat S from fun e => hS ((z_lt (a := 0) (by omega) (by omega)).mp e))]
        unfold zMhouse
        rw [f20, decide_eq_false hB, decide_eq_false hS, if_pos (show zb (false || false || false) = 0 from rfl), nm_eq]
        have h11' : (upI mM 0 20 1).1 0 11 = 1 := by rw [upI_nj (by omega)]; exact h11
        obtain ⟨a, c, e1, e2, R1, g1, g2, g3, g4, g5, g7⟩ := zT_go1 (zRd_M (zMw_0 (j := 20) (v := 1) (by omega)) R) (Or.inl h11')
        rw [e1, e2, Option.bind_some, Option.bind_some]
        rcases zT_put (lo := 2) (hi := 9) (j := 3) (by omega) (by omega) (by omega) R1 with ⟨v, a1, c1, l1, l2, x1, x2, R2, i1, i2, i3, i4, i5, i6, i7⟩ | ⟨a1, c1, x1, x2, Bd⟩
        · have x1' : Tokens_takeNumber a 2 9 = some (Int32.ofNat v, a1) := x1
          have x2' : M_puts c 3 2 9 = some (1, c1) := x2
          rw [x1', x2', Option.bind_some, Option.bind_some]
          dsimp only
          rw [if_neg (z_nm1 (show v < 2147483648 by omega)), if_neg (show ¬ (1 : Int32) = 0 by decide)]
          rcases zT_put (lo := 2) (hi := 9) (j := 4) (by omega) (by omega) (by omega) R2 with ⟨v2, a2, c2, l3, l4, y1, y2, R3, k1, k2, k3, k4, k5, k6, k7⟩ | ⟨a2, c2, y1, y2, Bd⟩
          · have y1' : Tokens_takeNumber a1 2 9 = some (Int32.ofNat v2, a2) := y1
            have y2' : M_puts c1 4 2 9 = some (1, c2) := y2
            rw [y1', y2', Option.bind_some, Option.bind_some]
            dsimp only
            rw [if_neg (show ¬ (1 : Int32) = 0 by decide)]
            unfold HouseReader_readHouse_b55
            rw [if_neg (z_nm1 (show v2 < 2147483648 by omega)), nm_eq, nm_eq, nm_eq]
            have hcc : ∀ d, d ≠ 3 → a2.1 d = mC.1 d := fun d hd => by rw [k1 d hd, i1 d hd, g1 d hd]
            have hc2 : ∀ d, d ≠ 3 → a2.2 d = mC.2 d := fun d hd => by rw [k2 d hd, i2 d hd, g3 d hd]
            have hm3 : ∀ j, j ≠ 3 → j ≠ 4 → c2.1 3 j = mM.1 3 j := fun j h3 h4 => by rw [k5 j h4, i5 j h3, g4 3 (by omega), upI_ne' (by omega)]
            have hm0 : ∀ j, j ≠ 4 → j ≠ 20 → (j < 11 ∨ 18 < j) → c2.1 0 j = mM.1 0 j := fun j h4 h20 h => by rw [k4 j h4 h, i4 j h4 h, g5 j h4 (by omega), upI_nj h20]
            refine Or.inl ⟨_, c2, rfl, rfl, zRd_C (zCw_t (zCw_I (by omega)) (zCw_t (zCw_I (by omega)) (zCw_I (by omega)))) R3, B, O, S, v, v2, true, t, zHd_set (mC := mC) (mM := mM) ⟨l1, l2⟩ ⟨l3, l4⟩ (fun d h h' => by rw [upI_ne' (by omega), upI_ne' (by omega), upI_ne' (by omega), hcc d (by omega)]) (fun j hj => by rw [upI_nj (by omega), upI_nj (by omega), upI_nj (by omega), hcc 44 (by omega)]) ⟨?_, ?_, ?_, ?_⟩ (fun d h h' => by rw [upI_2, upI_2, upI_2, hc2 d (by omega)]) (fun j hj => hm3 j (by omega) (by omega)) ⟨by rw [k5 3 (by omega), i6], k6⟩ (by rw [k7 5 (by omega), i7 5 (by omega), g7 5 (by omega), upI_2]) D, ?_, ?_, ?_, ?_⟩
            · rw [upI_nj (by omega), upI_nj (by omega), upI_at]
            · rw [upI_nj (by omega), upI_at]
            · rw [upI_nj (by omega), upI_nj (by omega), upI_nj (by omega), hcc 44 (by omega), hm3 5 (by omega) (by omega)]; exact D.2.1.2.2.1
            · rw [upI_nj (by omega), upI_nj (by omega), upI_nj (by omega), hcc 44 (by omega), hm3 6 (by omega) (by omega)]; exact D.2.1.2.2.2.1
            · rw [upI_at]; rfl
            · rw [upI_nj (by omega), upI_nj (by omega), upI_nj (by omega), hcc 44 (by omega)]; exact f5
            · rw [k4 20 (by omega) (by omega), i4 20 (by omega) (by omega), g5 20 (by omega) (by omega), upI_at]; rfl
            · rw [hm0 21 (by omega) (by omega) (by omega)]; exact f21
          · have y1' : Tokens_takeNumber a1 2 9 = some (-1, a2) := y1
            have y2' : M_puts c1 4 2 9 = some (0, c2) := y2
            rw [y1', y2', Option.bind_some, Option.bind_some]
            dsimp only
            rw [if_pos rfl]
            unfold HouseReader_readHouse_b55
            rw [if_pos rfl]
            exact Or.inr ⟨a2, c2, rfl, rfl, Bd⟩
        · have x1' : Tokens_takeNumber a 2 9 = some (-1, a1) := x1
          have x2' : M_puts c 3 2 9 = some (0, c1) := x2
          rw [x1', x2', Option.bind_some, Option.bind_some]
          dsimp only
          rw [if_pos rfl, if_pos rfl]
          unfold HouseReader_readHouse_b55
          rw [if_pos rfl]
          exact Or.inr ⟨a1, c1, rfl, rfl, Bd⟩
theorem zL_shut (h11 : mM.1 0 11 = 1) (D : zHd mC mM B O S W H) (F : zHf mC mM B S s t) (R : zRd n lim q b C0 M0 mC mM) : zLn n lim (q + 1) b C0 M0 (HouseReader_readShut mC 44) (zMshut mM) := by
  obtain ⟨f4, f5, f20, f21⟩ := id F
  unfold HouseReader_readShut zMshut
  rw [f5, f21]
  cases t with
  | true =>
    rw [if_neg (show ¬ zb true = 0 by decide), if_neg (show ¬ zb true = 0 by decide)]
    exact zLn_bad (by decide) R
  | false =>
    rw [if_pos (show zb false = 0 from rfl), if_pos (show zb false = 0 from rfl), nm_eq]
    have h11' : (upI mM 0 21 1).1 0 11 = 1 := by rw [upI_nj (by omega)]; exact h11
    obtain ⟨a, c, e1, e2, R1, g1, g2, g3, g4, g5, g7⟩ := zT_go1 (zRd_M (zMw_0 (j := 21) (v := 1) (by omega)) R) (Or.inl h11')
    rw [e1, e2, Option.bind_some, Option.bind_some]
    rcases zT_put (lo := 0) (hi := 23) (j := 5) (by omega) (by omega) (by omega) R1 with ⟨v, a1, c1, l1, l2, x1, x2, R2, i1, i2, i3, i4, i5, i6, i7⟩ | ⟨a1, c1, x1, x2, Bd⟩
    · have x1' : Tokens_takeNumber a 0 23 = some (Int32.ofNat v, a1) := x1
      have x2' : M_puts c 5 0 23 = some (1, c1) := x2
      rw [x1', x2', Option.bind_some, Option.bind_some]
      dsimp only
      rw [if_neg (z_nm1 (show v < 2147483648 by omega)), if_neg (show ¬ (1 : Int32) = 0 by decide)]
      rcases zT_put (lo := 0) (hi := 23) (j := 6) (by omega) (by omega) (by omega) R2 with ⟨v2, a2, c2, l3, l4, y1, y2, R3, k1, k2, k3, k4, k5, k6, k7⟩ | ⟨a2, c2, y1, y2, Bd⟩
      · have y1' : Tokens_takeNumber a1 0 23 = some (Int32.ofNat v2, a2) := y1
        have y2' : M_puts c1 6 0 23 = some (1, c2) := y2
        rw [y1', y2', Option.bind_some, Option.bind_some]
        dsimp only
        rw [if_neg (show ¬ (1 : Int32) = 0 by decide)]
        unfold HouseReader_readShut_b41
        rw [if_neg (z_nm1 (show v2 < 2147483648 by omega)), nm_eq, nm_eq, nm_eq]
        have hcc : ∀ d, d ≠ 3 → a2.1 d = mC.1 d := fun d hd => by rw [k1 d hd, i1 d hd, g1 d hd]
        have hc2 : ∀ d, d ≠ 3 → a2.2 d = mC.2 d := fun d hd => by rw [k2 d hd, i2 d hd, g3 d hd]
        have hm3 : ∀ j, j ≠ 5 → j ≠ 6 → c2.1 3 j = mM.1 3 j := fun j h3 h4 => by rw [k5 j h4, i5 j h3, g4 3 (by omega), upI_ne' (by omega)]
        have hm0 : ∀ j, j ≠ 4 → j ≠ 21 → (j < 11 ∨ 18 < j) → c2.1 0 j = mM.1 0 j := fun j h4 h20 h => by rw [k4 j h4 h, i4 j h4 h, g5 j h4 (by omega), upI_nj h20]
        refine Or.inl ⟨_, c2, rfl, rfl, zRd_C (zCw_t (zCw_I (by omega)) (zCw_t (zCw_I (by omega)) (zCw_I (by omega)))) R3, B, O, S, W, H, s, true, zHd_set (mC := mC) (mM := mM) ⟨D.1.2.2.2.2.1, D.1.2.2.2.2.2.1⟩ ⟨D.1.2.2.2.2.2.2.1, D.1.2.2.2.2.2.2.2⟩ (fun d h h' => by rw [upI_ne' (by omega), upI_ne' (by omega), upI_ne' (by omega), hcc d (by omega)]) (fun j hj => by rw [upI_nj (by omega), upI_nj (by omega), upI_nj (by omega), hcc 44 (by omega)]) ⟨?_, ?_, ?_, ?_⟩ (fun d h h' => by rw [upI_2, upI_2, upI_2, hc2 d (by omega)]) (fun j hj => hm3 j (by omega) (by omega)) ⟨by rw [hm3 3 (by omega) (by omega)]; exact D.2.2.1.2.2.2.1, by rw [hm3 4 (by omega) (by omega)]; exact D.2.2.1.2.2.2.2⟩ (by rw [k7 5 (by omega), i7 5 (by omega), g7 5 (by omega), upI_2]) D, ?_, ?_, ?_, ?_⟩
        · rw [upI_nj (by omega), upI_nj (by omega), upI_nj (by omega), hcc 44 (by omega)]; exact D.2.1.1
        · rw [upI_nj (by omega), upI_nj (by omega), upI_nj (by omega), hcc 44 (by omega)]; exact D.2.1.2.1
        · rw [upI_nj (by omega), upI_nj (by omega), upI_at, k5 5 (by omega), i6]
        · rw [upI_nj (by omega), upI_at, k6]
        · rw [upI_nj (by omega), upI_nj (by omega), upI_nj (by omega), hcc 44 (by omega)]; exact f4
        · rw [upI_at]; rfl
        · rw [hm0 20 (by omega) (by omega) (by omega)]; exact f20
        · rw [k4 21 (by omega) (by omega), i4 21 (by omega) (by omega), g5 21 (by omega) (by omega), upI_at]; rfl
      · have y1' : Tokens_takeNumber a1 0 23 = some (-1, a2) := y1
        have y2' : M_puts c1 6 0 23 = some (0, c2) := y2
        rw [y1', y2', Option.bind_some, Option.bind_some]
        dsimp only
        rw [if_pos rfl]
        unfold HouseReader_readShut_b41
        rw [if_pos rfl]
        exact Or.inr ⟨a2, c2, rfl, rfl, Bd⟩
    · have x1' : Tokens_takeNumber a 0 23 = some (-1, a1) := x1
      have x2' : M_puts c 5 0 23 = some (0, c1) := x2
      rw [x1', x2', Option.bind_some, Option.bind_some]
      dsimp only
      rw [if_pos rfl, if_pos rfl]
      unfold HouseReader_readShut_b41
      rw [if_pos rfl]
      exact Or.inr ⟨a1, c1, rfl, rfl, Bd⟩
end ZHL
