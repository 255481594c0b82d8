/-! Layer 2. house: its line bed -/
theorem zk7 (i : Nat) : (7 + Int32.ofNat i : Int32) = Int32.ofNat (7 + i) := z_add 7 i
theorem zk13 (i : Nat) : (13 + Int32.ofNat i : Int32) = Int32.ofNat (13 + i) := z_add 13 i
theorem zk19 (i : Nat) : (19 + Int32.ofNat i : Int32) = Int32.ofNat (19 + i) := z_add 19 i
theorem zk20 (i : Nat) : (20 + Int32.ofNat i : Int32) = Int32.ofNat (20 + i) := z_add 20 i
theorem zk25 (i : Nat) : (25 + Int32.ofNat i : Int32) = Int32.ofNat (25 + i) := z_add 25 i
theorem zk26 (i : Nat) : (26 + Int32.ofNat i : Int32) = Int32.ofNat (26 + i) := z_add 26 i
theorem zk31 (i : Nat) : (31 + Int32.ofNat i : Int32) = Int32.ofNat (31 + i) := z_add 31 i
theorem zk32 (i : Nat) : (32 + Int32.ofNat i : Int32) = Int32.ofNat (32 + i) := z_add 32 i
theorem zk37 (i : Nat) : (37 + Int32.ofNat i : Int32) = Int32.ofNat (37 + i) := z_add 37 i
theorem zk43 (i : Nat) : (43 + Int32.ofNat i : Int32) = Int32.ofNat (43 + i) := z_add 43 i
theorem zk49 (i : Nat) : (49 + Int32.ofNat i : Int32) = Int32.ofNat (49 + i) := z_add 49 i
theorem zk57 (i : Nat) : (57 + Int32.ofNat i : Int32) = Int32.ofNat (57 + i) := z_add 57 i
theorem zk65 (i : Nat) : (65 + Int32.ofNat i : Int32) = Int32.ofNat (65 + i) := z_add 65 i
theorem zk73 (i : Nat) : (73 + Int32.ofNat i : Int32) = Int32.ofNat (73 + i) := z_add 73 i
theorem zk81 (i : Nat) : (81 + Int32.ofNat i : Int32) = Int32.ofNat (81 + i) := z_add 81 i
theorem zk89 (i : Nat) : (89 + Int32.ofNat i : Int32) = Int32.ofNat (89 + i) := z_add 89 i
theorem z_sub1 {k : Nat} (h : 1 ≤ k) : (Int32.ofNat k - 1 : Int32) = Int32.ofNat (k - 1) := by
  obtain ⟨j, rfl⟩ : ∃ j, k = j + 1 := ⟨k - 1, by omega⟩
  rw [← z_s, Int32.add_sub_cancel]
  rfl
section ZHB
variable {m m' mC mC' mM mM' C0 M0 C1 M1 : xMem} {n p lim q B O S W H : Nat} {b : Nat → Nat} {s t : Bool}
/-- a number from nothing up, not taken by the model yet -/
theorem zT_num0 {hi : Nat} (hhi : hi < 1000) (R : zRd n lim q b C0 M0 mC mM) : (∃ v, v ≤ hi ∧ mM.1 0 11 = 2 ∧ mM.1 0 14 = Int32.ofNat v ∧ Tokens_takeNumber mC 0 (Int32.ofNat hi) = ((Tokens_advance mC).bind fun r => some (Int32.ofNat v, r))) ∨ (∃ v mC' mM', hi < v ∧ v < 1000 ∧ mM.1 0 11 = 2 ∧ mM.1 0 14 = Int32.ofNat v ∧ Tokens_takeNumber mC 0 (Int32.ofNat hi) = some (-1, mC') ∧ (M_bad mM 2).bind (fun r => (rz r.1).bind fun w => some (w, r.2)) = some (0, mM') ∧ zBad C0 M0 mC' mM') ∨ (∃ mC' mM', ¬ mM.1 0 11 = 2 ∧ Tokens_takeNumber mC 0 (Int32.ofNat hi) = some (-1, mC') ∧ (M_bad mM 1).bind (fun r => (rz r.1).bind fun w => some (w, r.2)) = some (0, mM') ∧ zBad C0 M0 mC' mM') := by
  obtain ⟨s, hkd⟩ := zRd_kd R
  unfold Tokens_takeNumber
  rw [nm_eq]
  rcases zKd_num hkd with ⟨a, c, v, v1, v2, v3⟩ | ⟨a, c⟩
  · rw [a, if_pos rfl, v2, if_neg (z_nn (by omega))]
    by_cases h2 : hi < v
    · right; left
      rw [if_pos ((z_lt (by omega) (by omega)).mpr h2)]
      unfold Tokens_takeNumber_b23
      rw [a, if_pos rfl]
      obtain ⟨d, e, e1, e2, e3⟩ := zT_bad1 (k := 2) (by decide) R
      exact ⟨v, d, e, h2, v1, c, v3, e1, e2, e3⟩
    · left
      rw [if_neg (fun e => h2 ((z_lt (by omega) (by omega)).mp e))]
      exact ⟨v, by omega, c, v3, rfl⟩
  · right; right
    rw [if_neg a]
    unfold Tokens_takeNumber_b23
    rw [if_neg a]
    obtain ⟨d, e, e1, e2, e3⟩ := zT_bad1 (k := 1) (by decide) R
    exact ⟨d, e, c, e1, e2, e3⟩
def zPb (m : xMem) (x y : Int32) (i : Nat) : Bool := decide (m.1 3 (7 + i) = x) && decide (m.1 3 (13 + i) = y)
theorem zC_bedIn {x y : Int32} (D : zHd mC mM B O S W H) : House_hasBedIn mC 44 x y = some (zb (zFst (zPb mM x y) B).isSome) := by
  have b6 := D.1.1
  unfold House_hasBedIn
  have h := z_scan (fun f i => House_hasBedIn_b2 mC 44 x y f (Int32.ofNat i)) B (zPb mM x y) (fun i => some 1) (some 0) (fun f i hi hp => ?_) (fun f i hi hp => ?_) (fun f => ?_) (fuel := 1000) (by omega)
  · refine h.trans ?_
    cases zFst (zPb mM x y) B <;> rfl
  · unfold zPb at hp
    rw [Bool.and_eq_true, decide_eq_true_eq, decide_eq_true_eq] at hp
    have hd := D.2.2.2.1 i hi
    rw [House_hasBedIn_b2, D.2.1.2.2.2.2.1, if_pos ((z_lt (by omega) (by omega)).mpr hi), z_ix (show i < 6 by omega) (by omega), Option.bind_some, Option.bind_some, show 44 + 5 + i = 49 + i by omega, hd.1, hd.2.1, if_pos hp.1, if_pos hp.2]
  · unfold zPb at hp
    rw [Bool.and_eq_false_iff, decide_eq_false_iff_not, decide_eq_false_iff_not] at hp
    have hd := D.2.2.2.1 i hi
    rw [House_hasBedIn_b2, D.2.1.2.2.2.2.1, if_pos ((z_lt (by omega) (by omega)).mpr hi), z_ix (show i < 6 by omega) (by omega), Option.bind_some, Option.bind_some, show 44 + 5 + i = 49 + i by omega, hd.1, hd.2.1, z_s]
    by_cases h1 : mM.1 3 (7 + i) = x
    · rw [if_pos h1]
      rcases hp with hp | hp
      · exact absurd h1 hp
      · rw [if_neg hp]
    · rw [if_neg h1]
  · rw [House_hasBedIn_b2, D.2.1.2.2.2.2.1, if_neg (fun e => Nat.lt_irrefl _ ((z_lt (by omega) (by omega)).mp e))]
theorem zM_bedIn {x y : Int32} (b6 : B < 6) (hx : mM.1 3 (7 + B) = x) (hy : mM.1 0 14 = y) : M_readBed_b96 1000 (Int32.ofNat B) 0 mM = match zFst (zPb mM x y) B with | some _ => (M_bad mM 3).bind fun r12 => (rz r12.1).bind fun w => some (w, r12.2) | none => (M_go (upI (upI (upI mM 3 (13 + B) y) 3 (19 + B) 0) 3 0 (mM.1 3 0 + 1))).bind fun r18 => some (1, r18) := by
  refine z_scan (fun f i => M_readBed_b96 f (Int32.ofNat B) (Int32.ofNat i) mM) B (zPb mM x y) (fun i => (M_bad mM 3).bind fun r12 => (rz r12.1).bind fun w => some (w, r12.2)) ((M_go (upI (upI (upI mM 3 (13 + B) y) 3 (19 + B) 0) 3 0 (mM.1 3 0 + 1))).bind fun r18 => some (1, r18)) (fun f i hi hp => ?_) (fun f i hi hp => ?_) (fun f => ?_) (fuel := 1000) (by omega)
  · unfold zPb at hp
    rw [Bool.and_eq_true, decide_eq_true_eq, decide_eq_true_eq] at hp
    rw [M_readBed_b96, if_pos ((z_lt (by omega) (by omega)).mpr hi), zk7, zk7, z_ix (show 7 + i < 97 by omega) (by omega), Option.bind_some, z_ix (show 7 + B < 97 by omega) (by omega), Option.bind_some, hx, if_pos hp.1, zk13, z_ix (show 13 + i < 97 by omega) (by omega), Option.bind_some, hy, if_pos hp.2]
  · unfold zPb at hp
    rw [Bool.and_eq_false_iff, decide_eq_false_iff_not, decide_eq_false_iff_not] at hp
    rw [M_readBed_b96, if_pos ((z_lt (by omega) (by omega)).mpr hi), zk7, zk7, z_ix (show 7 + i < 97 by omega) (by omega), Option.bind_some, z_ix (show 7 + B < 97 by omega) (by omega), Option.bind_some, hx, zk13, z_ix (show 13 + i < 97 by omega) (by omega), Option.bind_some, hy, z_s]
    by_cases h1 : mM.1 3 (7 + i) = x
    · rw [if_pos h1]
      rcases hp with hp | hp
      · exact absurd h1 hp
      · rw [if_neg hp]
    · rw [if_neg h1]
  · rw [M_readBed_b96, if_neg (fun e => Nat.lt_irrefl _ ((z_lt (by omega) (by omega)).mp e)), zk13, z_ix (show 13 + B < 97 by omega) (by omega), Option.bind_some, nm_eq, zk19, z_ix (show 19 + B < 97 by omega) (by omega), Option.bind_some, nm_eq, nm_eq, hy, upI_nj (show (0 : Nat) ≠ 19 + B by omega), upI_nj (show (0 : Nat) ≠ 13 + B by omega)]
theorem zHd_bed {x y : Nat} {w : List Nat} (b6 : B < 6) (hw : zVw w)
    (h1 : ∀ c, 45 ≤ c → c < 71 → c ≠ 49 + B → mC'.1 c = mC.1 c) (h0 : ∀ j, j ≠ 6 → mC'.1 44 j = mC.1 44 j) (h6 : mC'.1 44 6 = Int32.ofNat (B + 1))
    (hb : mC'.1 (49 + B) 0 = Int32.ofNat x ∧ mC'.1 (49 + B) 1 = Int32.ofNat y ∧ mC'.1 (49 + B) 2 = -1)
    (h2 : ∀ c, 46 ≤ c → c < 48 → mC'.2 c = mC.2 c) (h2b : ∀ i, i ≠ B → mC'.2 45 i = mC.2 45 i) (h2n : mC'.2 45 B = Int64.ofNat (zE5 w))
    (h3 : ∀ j, zLv B O S j → j ≠ 0 → mM'.1 3 j = mM.1 3 j) (h30 : mM'.1 3 0 = Int32.ofNat (B + 1)) (hm : mM'.1 3 (7 + B) = Int32.ofNat x ∧ mM'.1 3 (13 + B) = Int32.ofNat y ∧ mM'.1 3 (19 + B) = 0)
    (h5 : ∀ j, zLn8 B O S j → mM'.2 5 j = mM.2 5 j) (h5n : mM'.2 5 (20 + B) = Int64.ofNat (zE8 w)) (D : zHd mC mM B O S W H) : zHd mC' mM' (B + 1) O S W H := by
  obtain ⟨d0, d1, d2, d3, d4, d5, d6⟩ := D
  unfold zLv at h3
  unfold zLn8 at h5
  refine ⟨⟨by omega, d0.2.1, d0.2.2.1, by omega, d0.2.2.2.2⟩, ⟨by rw [h0 0 (by omega)]; exact d1.1, by rw [h0 1 (by omega)]; exact d1.2.1, by rw [h0 2 (by omega), h3 5 (by omega) (by omega)]; exact d1.2.2.1, by rw [h0 3 (by omega), h3 6 (by omega) (by omega)]; exact d1.2.2.2.1, h6, by rw [h0 7 (by omega)]; exact d1.2.2.2.2.2.1, by rw [h0 8 (by omega)]; exact d1.2.2.2.2.2.2⟩, ⟨h30, by rw [h3 1 (by omega) (by omega)]; exact d2.2.1, by rw [h3 2 (by omega) (by omega)]; exact d2.2.2.1, by rw [h3 3 (by omega) (by omega)]; exact d2.2.2.2.1, by rw [h3 4 (by omega) (by omega)]; exact d2.2.2.2.2⟩, fun b hbb => ?_, fun o ho => ?_, fun i hi => ?_, fun o h h' => ?_⟩
  · by_cases e : b = B
    · subst e
      refine ⟨by rw [hb.1, hm.1], by rw [hb.2.1, hm.2.1], by rw [hb.2.2, hm.2.2]; rfl, by rw [hm.2.2]; exact ⟨by decide, by decide⟩, w, hw.1, hw.2.1, hw.2.2, h2n, h5n⟩
    · rw [h1 (49 + b) (by omega) (by omega) (by omega), h2b b e, h3 (7 + b) (by omega) (by omega), h3 (13 + b) (by omega) (by omega), h3 (19 + b) (by omega) (by omega), h5 (20 + b) (by omega)]
      exact d3 b (by omega)
  · rw [h1 (56 + o) (by omega) (by omega) (by omega), h2 46 (by omega) (by omega), h3 (25 + o) (by omega) (by omega), h3 (31 + o) (by omega) (by omega), h3 (37 + o) (by omega) (by omega), h3 (43 + o) (by omega) (by omega), h5 (26 + o) (by omega)]
    obtain ⟨a1, a2, a3, a4, a5, ⟨b', b1, b2⟩, a7, a8⟩ := d4 o ho
    exact ⟨a1, a2, a3, a4, a5, ⟨b', by omega, b2⟩, fun o' ho' => by rw [h3 (25 + o') (by omega) (by omega)]; exact a7 o' ho', a8⟩
  · rw [h1 (63 + i) (by omega) (by omega) (by omega), h2 47 (by omega) (by omega), h3 (49 + i) (by omega) (by omega), h3 (57 + i) (by omega) (by omega), h3 (65 + i) (by omega) (by omega), h3 (73 + i) (by omega) (by omega), h3 (81 + i) (by omega) (by omega), h3 (89 + i) (by omega) (by omega), h5 (32 + i) (by omega)]
    exact d5 i hi
  · rw [h3 (37 + o) (by omega) (by omega), h3 (43 + o) (by omega) (by omega)]
    exact d6 o h h'
theorem zL_bed (h11 : mM.1 0 11 = 1) (D : zHd mC mM B O S W H) (F : zHf mC mM B S s t) (R : zRd n lim q b C0 M0 mC mM) : zLn n lim (q + 1) b C0 M0 (HouseReader_readBed mC 44) (M_readBed mM) := by
  obtain ⟨f4, f5, f20, f21⟩ := id F
  have b6 := D.1.1
  have o6 := D.1.2.1
  have s8 := D.1.2.2.1
  have hW := D.1.2.2.2.2.1
  have hW9 := D.1.2.2.2.2.2.1
  have hH := D.1.2.2.2.2.2.2.1
  have hH9 := D.1.2.2.2.2.2.2.2
  unfold HouseReader_readBed M_readBed
  rw [nm_eq, nm_eq, D.2.1.2.2.2.2.1, D.2.2.1.1]
  by_cases hB : B = 6
  · rw [if_neg (show ¬ Int32.ofNat B < 6 from fun e => by have := (z_lt (b := 6) (by omega) (by omega)).mp e; omega), if_pos (show Int32.ofNat B = 6 by rw [hB]; rfl)]
    exact zLn_bad (by decide) R
  · have hB6 : B < 6 := by omega
    rw [if_pos (show Int32.ofNat B < 6 from (z_lt (b := 6) (by omega) (by omega)).mpr hB6), if_neg (show ¬ Int32.ofNat B = 6 from fun e => hB ((z_eq (b := 6) (by omega) (by omega)).mp e)), nm_eq]
    have h11' : (upI mM 0 20 1).1 0 11 = 1 := by rw [upI_nj (by omega)]; exact h11
    obtain ⟨a, c, e1, e2, R1, G1⟩ := zT_go1 (zRd_M (zMw_0 (j := 20) (v := 1) (by omega)) R) (Or.inl h11')
    have D1 : zHd a c B O S W H := zHd_ok G1 (zHd_M (upI_ne' (by omega)) rfl D)
    obtain ⟨g1, g2, g3, g4, g5, g7⟩ := G1
    rw [e1, e2, Option.bind_some, Option.bind_some, zk20]
    rcases zT_new (p0 := 20 + B) (by omega) (by omega) D1 R1 with ⟨w, a1, c1, hw, x1, x2, R2, i1, i2, i3, i4, i5, i6⟩ | ⟨a1, c1, x1, x2, Bd⟩
    · have D2 : zHd a1 c1 B O S W H := zHd_tr (fun d h h' => i1 d (by omega)) (fun d h h' => i2 d (by omega)) (fun j hj => by rw [i3 3 (by omega)]) (fun j hj => i5 j (by unfold zLn8 at hj; omega)) D1
      rw [x1, x2, Option.bind_some, Option.bind_some]
      dsimp only
      rw [if_neg (zE5_n1 hw), if_neg (show ¬ (1 : Int32) = 0 by decide), D2.2.1.1, D2.2.2.1.2.2.2.1, z_sub1 (by omega), zk7]
      rcases zT_put (lo := 0) (hi := W - 1) (j := 7 + B) (by omega) (by omega) (by omega) R2 with ⟨x, a2, c2, l1, l2, y1, y2, R3, k1, k2, k3, k4, k5, k6, k7⟩ | ⟨a2, c2, y1, y2, Bd⟩
      · have D3 : zHd a2 c2 B O S W H := zHd_tr (fun d h h' => k1 d (by omega)) (fun d h h' => k2 d (by omega)) (fun j hj => k5 j (by unfold zLv at hj; omega)) (fun j hj => by rw [k7 5 (by omega)]) D2
        have y1' : Tokens_takeNumber a1 0 (Int32.ofNat (W - 1)) = some (Int32.ofNat x, a2) := y1
        have y2' : M_puts c1 (Int32.ofNat (7 + B)) 0 (Int32.ofNat (W - 1)) = some (1, c2) := y2
        rw [y1', y2', Option.bind_some, Option.bind_some]
        dsimp only
        rw [if_neg (show ¬ (1 : Int32) = 0 by decide)]
        unfold HouseReader_readBed_b50
        rw [if_neg (z_nm1 (show x < 2147483648 by omega)), D3.2.1.2.1, z_sub1 (by omega), D3.2.2.1.2.2.2.2]
        rcases zT_num0 (hi := H - 1) (by omega) R3 with ⟨y, l3, m11, m14, z1⟩ | ⟨y, a3, c3, l3, l4, m11, m14, z1, z2, Bd⟩ | ⟨a3, c3, m11, z1, z2, Bd⟩
        · rw [z1, if_pos m11, m14, if_pos ((z_lt (by omega) (by omega)).mpr (show y < H by omega)), zM_bedIn hB6 k6 m14]
          obtain ⟨a3, c3, u1, u2, R4, U⟩ := zT_go R3
          have D4 : zHd a3 c2 B O S W H := zHd_tr (fun d h h' => U.1 d (by omega)) (fun d h h' => U.2.2.1 d (by omega)) (fun _ _ => rfl) (fun _ _ => rfl) D3
          rw [u1, Option.bind_some, Option.bind_some]
          dsimp only
          unfold HouseReader_readBed_b73
          rw [if_neg (z_nm1 (show y < 2147483648 by omega)), zC_bedIn D4, Option.bind_some]
          cases hf : zFst (zPb c2 (Int32.ofNat x) (Int32.ofNat y)) B with
          | some i =>
            rw [if_neg (show ¬ zb (some i).isSome = 0 from (by decide : ¬ zb true = 0))]
            obtain ⟨a4, c4, v1, v2, v3⟩ := zT_failB (k := 3) (by decide) R4 (by rw [U.2.1]; exact R3.1.2.2.2.1) R3.2.2.2
            exact Or.inr ⟨a4, c4, by rw [v1, Option.bind_some, rz_0, Option.bind_some], by dsimp only; rw [v2, Option.bind_some, rz_0, Option.bind_some], v3⟩
          | none =>
            rw [if_pos (show zb (none : Option Nat).isSome = 0 from rfl), z_ix hB6 (by omega), Option.bind_some, nm_eq, Option.bind_some, nm_eq, Option.bind_some, nm_eq, Option.bind_some, nm_eq, nm_eq, D3.2.2.1.1, z_s]
            obtain ⟨a4, c4, v1, v2, R5, V⟩ := zT_go (zRd_M (zMw_t (zMw_row (c := 3) (j := 13 + B) (v := Int32.ofNat y) (by omega)) (zMw_t (zMw_row (c := 3) (j := 19 + B) (v := 0) (by omega)) (zMw_row (c := 3) (j := 0) (v := Int32.ofNat (B + 1)) (by omega)))) R3)
            have ea : a4 = a3 := Option.some.inj (v1.symm.trans u1)
            subst ea
            dsimp only
            rw [v2, Option.bind_some]
            obtain ⟨w1, w2, w3, w4, w5, w6⟩ := V
            have hcc : ∀ d, d ≠ 3 → a4.1 d = mC.1 d := fun d hd => by rw [w1 d hd, k1 d hd, i1 d hd, g1 d hd]
            have hc2 : ∀ d, d ≠ 3 → a4.2 d = mC.2 d := fun d hd => by rw [w3 d hd, k2 d hd, i2 d hd, g3 d hd]
            refine Or.inl ⟨_, c4, rfl, rfl, zRd_C (zCw_t (zCw_L (by omega)) (zCw_t (zCw_I (by omega)) (zCw_t (zCw_I (by omega)) (zCw_t (zCw_I (by omega)) (zCw_I (by omega)))))) R5, B + 1, O, S, W, H, s, t, zHd_bed (mC := mC) (mM := mM) (x := x) (y := y) hB6 hw ?_ ?_ ?_ ⟨?_, ?_, ?_⟩ ?_ ?_ ?_ ?_ ?_ ⟨?_, ?_, ?_⟩ ?_ ?_ D, ?_, ?_, ?_, ?_⟩
            · intro d h h' hne
              rw [upI_ne' (by omega), upI_ne' (by omega), upI_ne' (by omega), upI_ne' (by omega), upL_1, hcc d (by omega)]
            · intro j hj
              rw [upI_nj hj, upI_ne' (by omega), upI_ne' (by omega), upI_ne' (by omega), upL_1, hcc 44 (by omega)]
            · rw [upI_at]
            · rw [upI_ne' (by omega), upI_nj (by omega), upI_nj (by omega), upI_at]
            · rw [upI_ne' (by omega), upI_nj (by omega), upI_at]
            · rw [upI_ne' (by omega), upI_at]
            · intro d h h'
              rw [upI_2, upI_2, upI_2, upI_2, upL_ne' (by omega), hc2 d (by omega)]
            · intro i hi
              rw [upI_2, upI_2, upI_2, upI_2, upL_nj hi, hc2 45 (by omega)]
            · rw [upI_2, upI_2, upI_2, upI_2, upL_at]
            · intro j hj h0
              unfold zLv at hj
              rw [w4 3 (by omega), upI_nj h0, upI_nj (by omega), upI_nj (by omega), k5 j (by omega), i3 3 (by omega), g4 3 (by omega), upI_ne' (by omega)]
            · rw [w4 3 (by omega), upI_at]
            · rw [w4 3 (by omega), upI_nj (by omega), upI_nj (by omega), upI_nj (by omega), k6]
            · rw [w4 3 (by omega), upI_nj (by omega), upI_nj (by omega), upI_at]
            · rw [w4 3 (by omega), upI_nj (by omega), upI_at]
            · intro j hj
              unfold zLn8 at hj
              rw [w6 5 (by omega), upI_2, upI_2, upI_2, k7 5 (by omega), i5 j (by omega), g7 5 (by omega), upI_2]
            · rw [w6 5 (by omega), upI_2, upI_2, upI_2, k7 5 (by omega), i6]
            · rw [upI_nj (by omega), upI_ne' (by omega), upI_ne' (by omega), upI_ne' (by omega), upL_1, hcc 44 (by omega)]; exact f4
            · rw [upI_nj (by omega), upI_ne' (by omega), upI_ne' (by omega), upI_ne' (by omega), upL_1, hcc 44 (by omega)]; exact f5
            · rw [w5 20 (by omega) (by omega), upI_ne' (by omega), upI_ne' (by omega), upI_ne' (by omega), k4 20 (by omega) (by omega), i4 20 (by omega) (by omega), g5 20 (by omega) (by omega), upI_at, decide_eq_true (show 0 < B + 1 by omega), Bool.or_true, Bool.true_or]; rfl
            · rw [w5 21 (by omega) (by omega), upI_ne' (by omega), upI_ne' (by omega), upI_ne' (by omega), k4 21 (by omega) (by omega), i4 21 (by omega) (by omega), g5 21 (by omega) (by omega), upI_nj (by omega)]; exact f21
        · rw [z1, if_pos m11, m14, if_neg (show ¬ Int32.ofNat y < Int32.ofNat H from fun e => by have := (z_lt (by omega) (by omega)).mp e; omega), z2, Option.bind_some]
          unfold HouseReader_readBed_b73
          exact Or.inr ⟨a3, c3, by rw [if_pos rfl], rfl, Bd⟩
        · rw [z1, if_neg m11, z2, Option.bind_some]
          unfold HouseReader_readBed_b73
          exact Or.inr ⟨a3, c3, by rw [if_pos rfl], rfl, Bd⟩
      · have y1' : Tokens_takeNumber a1 0 (Int32.ofNat (W - 1)) = some (-1, a2) := y1
        have y2' : M_puts c1 (Int32.ofNat (7 + B)) 0 (Int32.ofNat (W - 1)) = some (0, c2) := y2
        rw [y1', y2', Option.bind_some, Option.bind_some]
        dsimp only
        rw [if_pos rfl]
        unfold HouseReader_readBed_b50
        rw [if_pos rfl]
        unfold HouseReader_readBed_b73
        rw [if_pos rfl]
        exact Or.inr ⟨a2, c2, rfl, rfl, Bd⟩
    · rw [x1, x2, Option.bind_some, Option.bind_some]
      dsimp only
      rw [if_pos (show lg_cmp (-1) (-1) = 0 by decide), if_pos rfl]
      unfold HouseReader_readBed_b50
      rw [if_pos rfl]
      unfold HouseReader_readBed_b73
      rw [if_pos rfl]
      exact Or.inr ⟨a1, c1, rfl, rfl, Bd⟩
end ZHB
