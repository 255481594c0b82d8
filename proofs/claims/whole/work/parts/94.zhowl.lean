/-! Layer 2. house: its line owl -/
theorem z_pigeon : ∀ (B n : Nat) (f : Nat → Nat), (∀ i, i < n → f i < B) → (∀ i j, i < n → j < n → f i = f j → i = j) → n ≤ B := by
  intro B
  induction B with
  | zero =>
    intro n f h _
    by_cases hn : n = 0
    · omega
    · have := h 0 (by omega)
      omega
  | succ B ih =>
    intro n f h hinj
    by_cases hex : ∃ i, i < n ∧ f i = B
    · obtain ⟨i0, h1, h2⟩ := hex
      have h3 := ih (n - 1) (fun j => if j = i0 then f (n - 1) else f j) (fun j hj => ?_) (fun i j hi hj e => ?_)
      · omega
      · by_cases e : j = i0
        · rw [if_pos e]
          have h4 := h (n - 1) (by omega)
          by_cases h5 : f (n - 1) = B
          · have := hinj (n - 1) i0 (by omega) h1 (by rw [h5, h2])
            omega
          · omega
        · rw [if_neg e]
          have h4 := h j (by omega)
          by_cases h5 : f j = B
          · exact absurd (hinj j i0 (by omega) h1 (by rw [h5, h2])) e
          · omega
      · by_cases ei : i = i0
        · by_cases ej : j = i0
          · omega
          · rw [if_pos ei, if_neg ej] at e
            have := hinj (n - 1) j (by omega) (by omega) e
            omega
        · by_cases ej : j = i0
          · rw [if_neg ei, if_pos ej] at e
            have := hinj i (n - 1) (by omega) (by omega) e
            omega
          · rw [if_neg ei, if_neg ej] at e
            exact hinj i j (by omega) (by omega) e
    · have h3 := ih n f (fun i hi => by
        have h4 := h i hi
        by_cases h5 : f i = B
        · exact absurd ⟨i, hi, h5⟩ hex
        · omega) hinj
      omega
section ZHO
variable {m m' mC mC' mM mM' C0 M0 C1 M1 : xMem} {n p lim q B O S W H : Nat} {b : Nat → Nat} {s t : Bool}
def zPo (m : xMem) (x : Int32) (i : Nat) : Bool := decide (m.1 3 (25 + i) = x)
theorem zC_owlBy {x : Int32} (D : zHd mC mM B O S W H) : House_hasOwlBy mC 44 x = some (zb (zFst (zPo mM x) O).isSome) := by
  have o6 := D.1.2.1
  unfold House_hasOwlBy
  have h := z_scan (fun f i => House_hasOwlBy_b2 mC 44 x f (Int32.ofNat i)) O (zPo mM x) (fun i => some 1) (some 0) (fun f i hi hp => ?_) (fun f i hi hp => ?_) (fun f => ?_) (fuel := 1000) (by omega)
  · refine h.trans ?_
    cases zFst (zPo mM x) O <;> rfl
  · have hp := of_decide_eq_true hp
    have hd := D.2.2.2.2.1 i hi
    rw [House_hasOwlBy_b2, D.2.1.2.2.2.2.2.1, if_pos ((z_lt (by omega) (by omega)).mpr hi), z_ix (show i < 6 by omega) (by omega), Option.bind_some, show 44 + 12 + i = 56 + i by omega, hd.1, if_pos hp]
  · have hp := of_decide_eq_false hp
    have hd := D.2.2.2.2.1 i hi
    rw [House_hasOwlBy_b2, D.2.1.2.2.2.2.2.1, if_pos ((z_lt (by omega) (by omega)).mpr hi), z_ix (show i < 6 by omega) (by omega), Option.bind_some, show 44 + 12 + i = 56 + i by omega, hd.1, if_neg hp, z_s]
  · rw [House_hasOwlBy_b2, D.2.1.2.2.2.2.2.1, if_neg (fun e => Nat.lt_irrefl _ ((z_lt (by omega) (by omega)).mp e))]
theorem zM_owlBy {x : Int32} (o6 : O < 6) (hx : mM.1 0 18 = x) : M_readOwl_b53 1000 (Int32.ofNat O) 0 mM = match zFst (zPo mM x) O with | some _ => (M_bad mM 3).bind fun r7 => (rz r7.1).bind fun w => some (w, r7.2) | none => (M_go (upI mM 3 (25 + O) x)).bind fun r10 => (M_puts r10 (31 + Int32.ofNat O) 1 20).bind fun r11 => if r11.1 = 0 then some (0, r11.2) else nm (upI r11.2 3 1 ((r11.2.1 3 1) + 1)) fun m12 => some (1, m12) := by
  refine z_scan (fun f i => M_readOwl_b53 f (Int32.ofNat O) (Int32.ofNat i) mM) O (zPo mM x) (fun i => (M_bad mM 3).bind fun r12 => (rz r12.1).bind fun w => some (w, r12.2)) ((M_go (upI mM 3 (25 + O) x)).bind fun r10 => (M_puts r10 (31 + Int32.ofNat O) 1 20).bind fun r11 => if r11.1 = 0 then some (0, r11.2) else nm (upI r11.2 3 1 ((r11.2.1 3 1) + 1)) fun m12 => some (1, m12)) (fun f i hi hp => ?_) (fun f i hi hp => ?_) (fun f => ?_) (fuel := 1000) (by omega)
  · have hp := of_decide_eq_true hp
    rw [M_readOwl_b53, if_pos ((z_lt (by omega) (by omega)).mpr hi), zk25, z_ix (show 25 + i < 97 by omega) (by omega), Option.bind_some, hx, if_pos hp]
  · have hp := of_decide_eq_false hp
    rw [M_readOwl_b53, if_pos ((z_lt (by omega) (by omega)).mpr hi), zk25, z_ix (show 25 + i < 97 by omega) (by omega), Option.bind_some, hx, if_neg hp, z_s]
  · rw [M_readOwl_b53, if_neg (fun e => Nat.lt_irrefl _ ((z_lt (by omega) (by omega)).mp e)), zk25, z_ix (show 25 + O < 97 by omega) (by omega), Option.bind_some, nm_eq, hx]
theorem zHd_pig {k : Nat} (hk : k < B) (D : zHd mC mM B O S W H) (hno : ∀ i, i < O → ¬ mM.1 3 (25 + i) = Int32.ofNat k) : O + 1 ≤ B := by
  have b6 := D.1.1
  have hh : ∀ i, i < O → (mM.1 3 (25 + i)).toNatClampNeg < B ∧ mM.1 3 (25 + i) = Int32.ofNat (mM.1 3 (25 + i)).toNatClampNeg := fun i hi => by
    obtain ⟨b, b1, b2⟩ := (D.2.2.2.2.1 i hi).2.2.2.2.2.1
    rw [b2, z_cl (by omega)]
    exact ⟨b1, rfl⟩
  have hd : ∀ i j, i < O → j < i → ¬ mM.1 3 (25 + j) = mM.1 3 (25 + i) := fun i j hi hj => (D.2.2.2.2.1 i hi).2.2.2.2.2.2.1 j hj
  refine z_pigeon B (O + 1) (fun i => if i = O then k else (mM.1 3 (25 + i)).toNatClampNeg) (fun i hi => ?_) (fun i j hi hj e => ?_)
  · by_cases h : i = O
    · rw [if_pos h]; exact hk
    · rw [if_neg h]; exact (hh i (by omega)).1
  · by_cases h : i = O
    · by_cases h' : j = O
      · omega
      · rw [if_pos h, if_neg h'] at e
        exact absurd ((hh j (by omega)).2.trans (by rw [← e])) (hno j (by omega))
    · by_cases h' : j = O
      · rw [if_neg h, if_pos h'] at e
        exact absurd ((hh i (by omega)).2.trans (by rw [e])) (hno i (by omega))
      · rw [if_neg h, if_neg h'] at e
        have e2 : mM.1 3 (25 + i) = mM.1 3 (25 + j) := by rw [(hh i (by omega)).2, (hh j (by omega)).2, e]
        by_cases h3 : i < j
        · exact absurd e2 (hd j i (by omega) h3)
        · by_cases h4 : j < i
          · exact absurd e2.symm (hd i j (by omega) h4)
          · omega
theorem zHd_owl {x y : Nat} {w : List Nat} (o6 : O < 6) (hw : zVw w) (hx : x < B) (hno : ∀ i, i < O → ¬ mM.1 3 (25 + i) = Int32.ofNat x)
    (h1 : ∀ c, 45 ≤ c → c < 71 → c ≠ 56 + O → mC'.1 c = mC.1 c) (h0 : ∀ j, j ≠ 7 → mC'.1 44 j = mC.1 44 j) (h7 : mC'.1 44 7 = Int32.ofNat (O + 1))
    (hb : mC'.1 (56 + O) 0 = Int32.ofNat x ∧ mC'.1 (56 + O) 1 = Int32.ofNat y ∧ mC'.1 (56 + O) 2 = -1 ∧ mC'.1 (56 + O) 3 = 0)
    (h2 : ∀ c, c = 45 ∨ c = 47 → mC'.2 c = mC.2 c) (h2b : ∀ i, i ≠ O → mC'.2 46 i = mC.2 46 i) (h2n : mC'.2 46 O = Int64.ofNat (zE5 w))
    (h3 : ∀ j, zLv B O S j → j ≠ 1 → mM'.1 3 j = mM.1 3 j) (h31 : mM'.1 3 1 = Int32.ofNat (O + 1)) (hm : mM'.1 3 (25 + O) = Int32.ofNat x ∧ mM'.1 3 (31 + O) = Int32.ofNat y)
    (h5 : ∀ j, zLn8 B O S j → mM'.2 5 j = mM.2 5 j) (h5n : mM'.2 5 (26 + O) = Int64.ofNat (zE8 w)) (D : zHd mC mM B O S W H) : zHd mC' mM' B (O + 1) S W H := by
  have hpig := zHd_pig hx D hno
  obtain ⟨d0, d1, d2, d3, d4, d5, d6⟩ := D
  unfold zLv at h3
  unfold zLn8 at h5
  have u := d6 O (by omega) o6
  have u1 : mM'.1 3 (37 + O) = 0 := by rw [h3 (37 + O) (by omega) (by omega)]; exact u.1
  have u2 : mM'.1 3 (43 + O) = 0 := by rw [h3 (43 + O) (by omega) (by omega)]; exact u.2
  refine ⟨⟨d0.1, by omega, d0.2.2.1, by omega, d0.2.2.2.2⟩, ⟨by rw [h0 0 (by omega)]; exact d1.1, by rw [h0 1 (by omega)]; exact d1.2.1, by rw [h0 2 (by omega), h3 5 (by omega) (by omega)]; exact d1.2.2.1, by rw [h0 3 (by omega), h3 6 (by omega) (by omega)]; exact d1.2.2.2.1, by rw [h0 6 (by omega)]; exact d1.2.2.2.2.1, h7, by rw [h0 8 (by omega)]; exact d1.2.2.2.2.2.2⟩, ⟨by rw [h3 0 (by omega) (by omega)]; exact d2.1, h31, by rw [h3 2 (by omega) (by omega)]; exact d2.2.2.1, by rw [h3 3 (by omega) (by omega)]; exact d2.2.2.2.1, by rw [h3 4 (by omega) (by omega)]; exact d2.2.2.2.2⟩, fun b hbb => ?_, fun o ho => ?_, fun i hi => ?_, fun o h h' => ?_⟩
  · rw [h1 (49 + b) (by omega) (by omega) (by omega), h2 45 (by omega), h3 (7 + b) (by omega) (by omega), h3 (13 + b) (by omega) (by omega), h3 (19 + b) (by omega) (by omega), h5 (20 + b) (by omega)]
    exact d3 b hbb
  · by_cases e : o = O
    · subst e
      refine ⟨by rw [hb.1, hm.1], by rw [hb.2.1, hm.2], by rw [hb.2.2.1, u1]; rfl, by rw [hb.2.2.2, u2], by rw [u1]; exact ⟨by decide, by decide⟩, ⟨x, hx, hm.1⟩, fun o' ho' => by rw [h3 (25 + o') (by omega) (by omega), hm.1]; exact hno o' ho', w, hw.1, hw.2.1, hw.2.2, h2n, h5n⟩
    · rw [h1 (56 + o) (by omega) (by omega) (by omega), h2b o e, h3 (25 + o) (by omega) (by omega), h3 (31 + o) (by omega) (by omega), h3 (37 + o) (by omega) (by omega), h3 (43 + o) (by omega) (by omega), h5 (26 + o) (by omega)]
      obtain ⟨a1, a2, a3, a4, a5, a6, a7, a8⟩ := d4 o (by omega)
      exact ⟨a1, a2, a3, a4, a5, a6, fun o' ho' => by rw [h3 (25 + o') (by omega) (by omega)]; exact a7 o' ho', a8⟩
  · rw [h1 (63 + i) (by omega) (by omega) (by omega), h2 47 (by omega), h3 (49 + i) (by omega) (by omega), h3 (57 + i) (by omega) (by omega), h3 (65 + i) (by omega) (by omega), h3 (73 + i) (by omega) (by omega), h3 (81 + i) (by omega) (by omega), h3 (89 + i) (by omega) (by omega), h5 (32 + i) (by omega)]
    exact d5 i hi
  · rw [h3 (37 + o) (by omega) (by omega), h3 (43 + o) (by omega) (by omega)]
    exact d6 o (by omega) h'
theorem zL_owl (h11 : mM.1 0 11 = 1) (D : zHd mC mM B O S W H) (F : zHf mC mM B S s t) (R : zRd n lim q b C0 M0 mC mM) : zLn n lim (q + 1) b C0 M0 (HouseReader_readOwl mC 44) (M_readOwl mM) := by
  obtain ⟨f4, f5, f20, f21⟩ := id F
  have b6 := D.1.1
  have o6 := D.1.2.1
  have s8 := D.1.2.2.1
  unfold HouseReader_readOwl M_readOwl
  rw [nm_eq, nm_eq, D.2.1.2.2.2.2.2.1, D.2.2.1.2.1]
  by_cases hO : O = 6
  · rw [if_neg (show ¬ Int32.ofNat O < 6 from fun e => by have := (z_lt (b := 6) (by omega) (by omega)).mp e; omega), if_pos (show Int32.ofNat O = 6 by rw [hO]; rfl)]
    exact zLn_bad (by decide) R
  · have hO6 : O < 6 := by omega
    rw [if_pos (show Int32.ofNat O < 6 from (z_lt (b := 6) (by omega) (by omega)).mpr hO6), if_neg (show ¬ Int32.ofNat O = 6 from fun e => hO ((z_eq (b := 6) (by omega) (by omega)).mp e))]
    obtain ⟨a, c, e1, e2, R1, G1⟩ := zT_go1 R (Or.inl h11)
    have D1 : zHd a c B O S W H := zHd_ok G1 D
    obtain ⟨g1, g2, g3, g4, g5, g7⟩ := G1
    rw [e1, e2, Option.bind_some, Option.bind_some, zk26]
    rcases zT_new (p0 := 26 + O) (by omega) (by omega) D1 R1 with ⟨w, a1, c1, hw, x1, x2, R2, i1, i2, i3, i4, i5, i6⟩ | ⟨a1, c1, x1, x2, Bd⟩
    · have D2 : zHd a1 c1 B O S W H := zHd_tr (fun d h h' => i1 d (by omega)) (fun d h h' => i2 d (by omega)) (fun j hj => by rw [i3 3 (by omega)]) (fun j hj => i5 j (by unfold zLn8 at hj; omega)) D1
      rw [x1, x2, Option.bind_some, Option.bind_some]
      dsimp only
      rw [if_neg (zE5_n1 hw), if_neg (show ¬ (1 : Int32) = 0 by decide), D2.2.1.2.2.2.2.1, D2.2.2.1.1]
      rcases zT_known (c0 := 45) (N := 6) (base := 20) (cnt := B) (by omega) b6 (by omega) (fun i hi => (D2.2.2.2.1 i hi).2.2.2.2) R2 with ⟨k, hk, k11, y1, y2⟩ | ⟨a2, c2, y1, y2, Bd⟩
      · obtain ⟨a2, c2, u1, u2, R3, U⟩ := zT_go R2
        have y1' : Tokens_takeKnown a1 (44 + 1) 6 (Int32.ofNat B) = ((Tokens_advance a1).bind fun r => some (Int32.ofNat k, r)) := y1
        have y2' : M_looksAt c1 20 (Int32.ofNat B) = some (1, upI c1 0 18 (Int32.ofNat k)) := y2
        rw [y1', u1, y2', Option.bind_some, Option.bind_some, Option.bind_some]
        dsimp only
        rw [if_neg (show ¬ (1 : Int32) = 0 by decide), zM_owlBy hO6 (x := Int32.ofNat k) upI_at]
        have D4 : zHd a2 (upI c1 0 18 (Int32.ofNat k)) B O S W H := zHd_tr (fun d h h' => U.1 d (by omega)) (fun d h h' => U.2.2.1 d (by omega)) (fun j _ => by rw [upI_ne' (by omega)]) (fun _ _ => rfl) D2
        unfold HouseReader_readOwl_b51
        rw [if_neg (z_nm1 (show k < 2147483648 by omega)), zC_owlBy D4, Option.bind_some]
        cases hf : zFst (zPo (upI c1 0 18 (Int32.ofNat k)) (Int32.ofNat k)) O with
        | some i =>
          rw [if_neg (show ¬ zb (some i).isSome = 0 from (by decide : ¬ zb true = 0))]
          obtain ⟨a4, c4, v1, v2, v3⟩ := zT_failB (k := 3) (mM := upI c1 0 18 (Int32.ofNat k)) (by decide) R3 (by rw [U.2.1, upI_nj (by omega)]; exact R2.1.2.2.2.1) (zXM_t R2.2.2.2 zMw_18.1)
          exact Or.inr ⟨a4, c4, by rw [v1, Option.bind_some, rz_0, Option.bind_some], by dsimp only; rw [v2, Option.bind_some, rz_0, Option.bind_some], v3⟩
        | none =>
          have hno : ∀ i, i < O → ¬ c1.1 3 (25 + i) = Int32.ofNat k := fun i hi => by
            have := of_decide_eq_false (zFst_none.mp hf i hi)
            rw [upI_ne' (by omega)] at this
            exact this
          rw [if_pos (show zb (none : Option Nat).isSome = 0 from rfl)]
          dsimp only
          obtain ⟨a4, c4, v1, v2, R5, V⟩ := zT_go (zRd_M (zMw_t (zMw_18 (v := Int32.ofNat k)) (zMw_row (c := 3) (j := 25 + O) (v := Int32.ofNat k) (by omega))) R2)
          have ea : a4 = a2 := Option.some.inj (v1.symm.trans u1)
          subst ea
          rw [v2, Option.bind_some, zk31]
          obtain ⟨w1, w2, w3, w4, w5, w6⟩ := V
          rcases zT_put (lo := 1) (hi := 20) (j := 31 + O) (by omega) (by omega) (by omega) R5 with ⟨y, a5, c5, l1, l2, z1, z2, R6, k1, k2, k3, k4, k5, k6, k7⟩ | ⟨a5, c5, z1, z2, Bd⟩
          · have z1' : Tokens_takeNumber a4 1 20 = some (Int32.ofNat y, a5) := z1
            have z2' : M_puts c4 (Int32.ofNat (31 + O)) 1 20 = some (1, c5) := z2
            rw [z1', z2', Option.bind_some, Option.bind_some]
            dsimp only
            rw [if_neg (z_nm1 (show y < 2147483648 by omega)), if_neg (show ¬ (1 : Int32) = 0 by decide), z_ix hO6 (by omega), Option.bind_some, nm_eq, Option.bind_some, nm_eq, Option.bind_some, nm_eq, Option.bind_some, nm_eq, Option.bind_some, nm_eq, nm_eq, nm_eq]
            have hcc : ∀ d, d ≠ 3 → a5.1 d = mC.1 d := fun d hd => by rw [k1 d hd, w1 d hd, i1 d hd, g1 d hd]
            have hc2 : ∀ d, d ≠ 3 → a5.2 d = mC.2 d := fun d hd => by rw [k2 d hd, w3 d hd, i2 d hd, g3 d hd]
            have hm3 : ∀ j, j ≠ 25 + O → j ≠ 31 + O → c5.1 3 j = mM.1 3 j := fun j h h' => by rw [k5 j h', w4 3 (by omega), upI_nj h, upI_ne' (by omega), i3 3 (by omega), g4 3 (by omega)]
            have h31 : c5.1 3 1 = Int32.ofNat O := by rw [hm3 1 (by omega) (by omega)]; exact D.2.2.1.2.1
            rw [h31, z_s]
            refine Or.inl ⟨_, _, rfl, rfl, zRd_M (zMw_row (by omega)) (zRd_C (zCw_t (zCw_L (by omega)) (zCw_t (zCw_I (by omega)) (zCw_t (zCw_I (by omega)) (zCw_t (zCw_I (by omega)) (zCw_t (zCw_I (by omega)) (zCw_I (by omega))))))) R6), B, O + 1, S, W, H, s, t, zHd_owl (mC := mC) (mM := mM) (x := k) (y := y) hO6 hw hk ?_ ?_ ?_ ?_ ⟨?_, ?_, ?_, ?_⟩ ?_ ?_ ?_ ?_ ?_ ⟨?_, ?_⟩ ?_ ?_ D, ?_, ?_, ?_, ?_⟩
            · intro i hi
              have := hno i hi
              rw [i3 3 (by omega), g4 3 (by omega)] at this
              exact this
            · intro d h h' hne
              rw [upI_ne' (by omega), upI_ne' (by omega), upI_ne' (by omega), upI_ne' (by omega), upI_ne' (by omega), upL_1, hcc d (by omega)]
            · intro j hj
              rw [upI_nj hj, upI_ne' (by omega), upI_ne' (by omega), upI_ne' (by omega), upI_ne' (by omega), upL_1, hcc 44 (by omega)]
            · rw [upI_at]
            · rw [upI_ne' (by omega), upI_nj (by omega), upI_nj (by omega), upI_nj (by omega), upI_at]
            · rw [upI_ne' (by omega), upI_nj (by omega), upI_nj (by omega), upI_at]
            · rw [upI_ne' (by omega), upI_nj (by omega), upI_at]
            · rw [upI_ne' (by omega), upI_at]
            · intro d hd
              rw [upI_2, upI_2, upI_2, upI_2, upI_2, upL_ne' (by omega), hc2 d (by omega)]
            · intro i hi
              rw [upI_2, upI_2, upI_2, upI_2, upI_2, upL_nj hi, hc2 46 (by omega)]
            · rw [upI_2, upI_2, upI_2, upI_2, upI_2, upL_at]
            · intro j hj h0
              unfold zLv at hj
              rw [upI_nj h0, hm3 j (by omega) (by omega)]
            · rw [upI_at]
            · rw [upI_nj (by omega), k5 (25 + O) (by omega), w4 3 (by omega), upI_at]
            · rw [upI_nj (by omega), k6]
            · intro j hj
              unfold zLn8 at hj
              rw [upI_2, k7 5 (by omega), w6 5 (by omega), upI_2, upI_2, i5 j (by omega), g7 5 (by omega)]
            · rw [upI_2, k7 5 (by omega), w6 5 (by omega), upI_2, upI_2, i6]
            · rw [upI_nj (by omega), upI_ne' (by omega), upI_ne' (by omega), upI_ne' (by omega), upI_ne' (by omega), upL_1, hcc 44 (by omega)]; exact f4
            · rw [upI_nj (by omega), upI_ne' (by omega), upI_ne' (by omega), upI_ne' (by omega), upI_ne' (by omega), upL_1, hcc 44 (by omega)]; exact f5
            · rw [upI_ne' (by omega), k4 20 (by omega) (by omega), w5 20 (by omega) (by omega), upI_ne' (by omega), upI_nj (by omega), i4 20 (by omega) (by omega), g5 20 (by omega) (by omega)]; exact f20
            · rw [upI_ne' (by omega), k4 21 (by omega) (by omega), w5 21 (by omega) (by omega), upI_ne' (by omega), upI_nj (by omega), i4 21 (by omega) (by omega), g5 21 (by omega) (by omega)]; exact f21
          · have z1' : Tokens_takeNumber a4 1 20 = some (-1, a5) := z1
            have z2' : M_puts c4 (Int32.ofNat (31 + O)) 1 20 = some (0, c5) := z2
            rw [z1', z2', Option.bind_some, Option.bind_some]
            dsimp only
            rw [if_pos rfl, if_pos rfl]
            exact Or.inr ⟨a5, c5, rfl, rfl, Bd⟩
      · have y1' : Tokens_takeKnown a1 (44 + 1) 6 (Int32.ofNat B) = some (-1, a2) := y1
        have y2' : M_looksAt c1 20 (Int32.ofNat B) = some (0, c2) := y2
        rw [y1', y2', Option.bind_some, Option.bind_some]
        dsimp only
        rw [if_pos rfl]
        unfold HouseReader_readOwl_b51
        rw [if_pos rfl]
        exact Or.inr ⟨a2, c2, rfl, rfl, Bd⟩
    · rw [x1, x2, Option.bind_some, Option.bind_some]
      dsimp only
      rw [if_pos (show lg_cmp (-1) (-1) = 0 by decide), if_pos rfl]
      unfold HouseReader_readOwl_b51
      rw [if_pos rfl]
      exact Or.inr ⟨a1, c1, rfl, rfl, Bd⟩
end ZHO
