/-! Layer 2. book: its lines read -/
/-- a line of a book, both ways -/
def zBk (σ : zR) (mC mM : xMem) (i : Nat) : Prop := ∃ a v1 v2 v3 : Nat, a ≤ 4 ∧ mC.1 (78 + i) 0 = Int32.ofNat (16 + a) ∧ mM.1 4 (4 * i) = Int32.ofNat a ∧ mC.1 (78 + i) 1 = Int32.ofNat v1 ∧ mM.1 4 (4 * i + 1) = Int32.ofNat v1 ∧
  (a = 0 → v1 < zO σ ∧ v2 < zB σ ∧ mC.1 (78 + i) 2 = Int32.ofNat v2 ∧ mM.1 4 (4 * i + 2) = Int32.ofNat v2) ∧ (a = 1 ∨ a = 2 → v1 < zC σ) ∧
  (a = 3 → v1 ≤ 8 ∧ v2 ≤ 8 ∧ 1 ≤ v3 ∧ v3 ≤ 30 ∧ mC.1 (78 + i) 2 = Int32.ofNat v2 ∧ mM.1 4 (4 * i + 2) = Int32.ofNat v2 ∧ mC.1 (78 + i) 3 = Int32.ofNat v3 ∧ mM.1 4 (4 * i + 3) = Int32.ofNat v3) ∧ (a = 4 → 1 ≤ v1 ∧ v1 ≤ 60)
/-- the present house behind a text -/
def zPh (C0 M0 : xMem) : Prop := zCt (M0.1 2) ∧ zH C0 6 (M0.1 2) ∧ zNms C0 6 M0 5 0 (M0.1 2)
section ZBL
variable {m m' mC mC' mM mM' C0 M0 C1 M1 : xMem} {n p lim q i : Nat} {b : Nat → Nat} {s t : Bool}
theorem zBk_tr {σ : zR} (hC : mC'.1 (78 + i) = mC.1 (78 + i)) (hM : ∀ j, 4 * i ≤ j → j < 4 * i + 4 → mM'.1 4 j = mM.1 4 j) (H : zBk σ mC mM i) : zBk σ mC' mM' i := by
  unfold zBk
  rw [hC, hM (4 * i) (by omega) (by omega), hM (4 * i + 1) (by omega) (by omega), hM (4 * i + 2) (by omega) (by omega), hM (4 * i + 3) (by omega) (by omega)]
  exact H
/-- a name taken -/
theorem zT_name {c0 N base cnt : Nat} (hN : N < 1000) (hcnt : cnt ≤ N) (hb : base + cnt ≤ 40) (hn : zNmP mC mM c0 base cnt) (R : zRd n lim q b C0 M0 mC mM) : (∃ k mC' mM', k < cnt ∧ Tokens_takeKnown mC c0 N (Int32.ofNat cnt) = some (Int32.ofNat k, mC') ∧ M_takesName mM (Int32.ofNat base) (Int32.ofNat cnt) = some (1, mM') ∧ mM'.1 0 18 = Int32.ofNat k ∧ zRd n lim q b C0 M0 mC' mM' ∧ zOk8 mC mC' mM mM') ∨ (∃ mC' mM', Tokens_takeKnown mC c0 N (Int32.ofNat cnt) = some (-1, mC') ∧ M_takesName mM (Int32.ofNat base) (Int32.ofNat cnt) = some (0, mM') ∧ zBad C0 M0 mC' mM') := by
  unfold M_takesName
  rcases zT_known hN hcnt hb hn R with ⟨k, hk, k11, y1, y2⟩ | ⟨a2, c2, y1, y2, Bd⟩
  · left
    obtain ⟨a, c, u1, u2, R3, U⟩ := zT_go (zRd_M (zMw_18 (v := Int32.ofNat k)) R)
    refine ⟨k, a, c, hk, by rw [y1, u1, Option.bind_some], ?_, by rw [U.2.2.2.2.1 18 (by omega) (by omega), upI_at], R3, zOk_8 (fun c hc => upI_ne' hc) (fun j _ hj => upI_nj (by omega)) (fun _ _ => rfl) U⟩
    rw [y2, Option.bind_some]
    dsimp only
    rw [if_neg (show ¬ (1 : Int32) = 0 by decide), u2, Option.bind_some]
  · right
    exact ⟨a2, c2, y1, by rw [y2, Option.bind_some]; dsimp only; rw [if_pos rfl], Bd⟩
theorem zPh_ct (P : zPh C0 M0) (R : zRd n lim q b C0 M0 mC mM) : mC.1 6 6 = Int32.ofNat (zB (M0.1 2)) ∧ mC.1 6 7 = Int32.ofNat (zO (M0.1 2)) ∧ mC.1 6 8 = Int32.ofNat (zC (M0.1 2)) ∧ mM.1 2 0 = Int32.ofNat (zB (M0.1 2)) ∧ mM.1 2 1 = Int32.ofNat (zO (M0.1 2)) ∧ mM.1 2 2 = Int32.ofNat (zC (M0.1 2)) ∧ zB (M0.1 2) ≤ 6 ∧ zO (M0.1 2) ≤ 6 ∧ zC (M0.1 2) ≤ 8 ∧ zNmP mC mM 7 0 (zB (M0.1 2)) ∧ zNmP mC mM 8 6 (zO (M0.1 2)) ∧ zNmP mC mM 9 12 (zC (M0.1 2)) := by
  obtain ⟨hc, hH, n1, n2, n3⟩ := P
  have e6 := R.2.2.1.1 6 (by omega)
  have e2 := R.2.2.2.1 2 (by omega)
  have b6 := hc.1.2
  have o6 := hc.2.1.2
  have c8 := hc.2.2.2.1
  rw [e6, e2]
  refine ⟨?_, ?_, ?_, hc.1.1, hc.2.1.1, hc.2.2.1, b6, o6, c8, fun k hk => ?_, fun k hk => ?_, fun k hk => ?_⟩
  · rw [← hc.1.1]; exact hH.2.2.2.2.1
  · rw [← hc.2.1.1]; exact hH.2.2.2.2.2.1
  · rw [← hc.2.2.1]; exact hH.2.2.2.2.2.2.1
  · rw [R.2.2.1.2.2 7 (by omega), R.2.2.2.2.2.2 (0 + k) (by omega)]; exact n1 k hk
  · rw [R.2.2.1.2.2 8 (by omega), R.2.2.2.2.2.2 (6 + k) (by omega)]
    have := n2 k hk
    rw [show 0 + 6 + k = 6 + k by omega] at this
    exact this
  · rw [R.2.2.1.2.2 9 (by omega), R.2.2.2.2.2.2 (12 + k) (by omega)]
    have := n3 k hk
    rw [show 0 + 12 + k = 12 + k by omega] at this
    exact this
/-- a line's end -/
def zLb (n lim q : Nat) (b : Nat → Nat) (C0 M0 mC mM : xMem) (i : Nat) (r1 r2 : Option (Int32 × xMem)) : Prop :=
  (∃ mC' mM', r1 = some (1, mC') ∧ r2 = some (1, mM') ∧ zRd n lim q b C0 M0 mC' mM' ∧ mM'.1 0 45 = mM.1 0 45 ∧ mC'.1 76 = mC.1 76 ∧ (∀ c, 78 ≤ c → c < 118 → c ≠ 78 + i → mC'.1 c = mC.1 c) ∧ (∀ j, j < 4 * i → mM'.1 4 j = mM.1 4 j) ∧ zBk (M0.1 2) mC' mM' i) ∨ (∃ mC' mM', r1 = some (0, mC') ∧ r2 = some (0, mM') ∧ zBad C0 M0 mC' mM')
theorem zLb_lend (P : zPh C0 M0) (hi : i < 40) (h45 : mM.1 0 45 = Int32.ofNat i) (h8 : mC.1 3 8 = 16) (h11 : mM.1 0 11 = 1) (R : zRd n lim q b C0 M0 mC mM) : zLb n lim (q + 1) b C0 M0 mC mM i (Book_readLine mC 6 (78 + i)) (M_bookLine_b78 (Int32.ofNat (4 * i)) 0 mM) := by
  unfold Book_readLine M_bookLine_b78
  rw [h45, if_neg (show ¬ (0 : Int32) < 0 by decide), if_neg (show ¬ Int32.ofNat i = 40 from fun e => by have := (z_eq (b := 40) (by omega) (by omega)).mp e; omega), nm_eq, h8]
  obtain ⟨a, c, e1, e2, R1, g1, g2, g3, g4, g5, g6⟩ := zT_go1 (zRd_C (zCw_I (c := 78 + i) (j := 0) (v := 16) (by omega)) R) (Or.inl h11)
  have ea : a.1 (78 + i) 0 = 16 := by rw [g1 (78 + i) (by omega), upI_at]
  have hcc : ∀ d, d ≠ 3 → d ≠ 78 + i → a.1 d = mC.1 d := fun d h3 hd => by rw [g1 d h3, upI_ne' hd]
  rw [e1, e2, Option.bind_some, Option.bind_some, nm_eq, z_ix (show 4 * i < 160 by omega) (by omega), Option.bind_some, nm_eq, ea]
  have R2 := zRd_M (zMw_row (c := 4) (j := 4 * i) (v := 0) (by omega)) R1
  obtain ⟨p6, p7, p8, q0, q1, q2, b6, o6, c8, nb, no, ns⟩ := zPh_ct P R2
  rw [if_pos rfl, if_pos rfl, p7, q1]
  rcases zT_name (c0 := 8) (N := 6) (base := 6) (cnt := zO (M0.1 2)) (by omega) o6 (by omega) no R2 with ⟨k, a2, c2, hk, y1, y2, y3, R3, U1, U2, U3, U4, U5, U6⟩ | ⟨a2, c2, y1, y2, Bd⟩
  · have y1' : Tokens_takeKnown a (6 + 2) 6 (Int32.ofNat (zO (M0.1 2))) = some (Int32.ofNat k, a2) := y1
    have y2' : M_takesName (upI c 4 (4 * i) 0) 6 (Int32.ofNat (zO (M0.1 2))) = some (1, c2) := y2
    rw [y1', y2', Option.bind_some, Option.bind_some, nm_eq]
    dsimp only
    rw [upI_at, if_neg (z_nm1 (show k < 2147483648 by omega))]
    unfold M_bookLine_b176
    rw [if_neg (show ¬ (1 : Int32) = 0 by decide), z_s, z_ix (show 4 * i + 1 < 160 by omega) (by omega), Option.bind_some, nm_eq, y3, if_pos rfl]
    unfold M_bookLine_b206
    rw [if_pos rfl]
    have R4 := zRd_M (zMw_row (c := 4) (j := 4 * i + 1) (v := Int32.ofNat k) (by omega)) (zRd_C (zCw_I (c := 78 + i) (j := 1) (v := Int32.ofNat k) (by omega)) R3)
    obtain ⟨p6', p7', p8', q0', q1', q2', _, _, _, nb', no', ns'⟩ := zPh_ct P R4
    rw [p6', q0']
    rcases zT_name (c0 := 7) (N := 6) (base := 0) (cnt := zB (M0.1 2)) (by omega) b6 (by omega) nb' R4 with ⟨l, a3, c3, hl, z1, z2, z3, R5, V1, V2, V3, V4, V5, V6⟩ | ⟨a3, c3, z1, z2, Bd⟩
    · have z1' : Tokens_takeKnown (upI a2 (78 + i) 1 (Int32.ofNat k)) (6 + 1) 6 (Int32.ofNat (zB (M0.1 2))) = some (Int32.ofNat l, a3) := z1
      have z2' : M_takesName (upI c2 4 (4 * i + 1) (Int32.ofNat k)) 0 (Int32.ofNat (zB (M0.1 2))) = some (1, c3) := z2
      rw [z1', z2', Option.bind_some, Option.bind_some]
      dsimp only
      unfold Book_readLine_b88 M_bookLine_b231
      rw [show ix (2 : Int32) 4 = some 2 from z_ix (i := 2) (by omega) (by omega), Option.bind_some, nm_eq, upI_at, if_neg (z_nm1 (show l < 2147483648 by omega)), if_neg (show ¬ (1 : Int32) = 0 by decide), show (Int32.ofNat (4 * i) + 2 : Int32) = Int32.ofNat (4 * i + 2) from z_add (4 * i) 2, z_ix (show 4 * i + 2 < 160 by omega) (by omega), Option.bind_some, nm_eq, z3, if_pos rfl]
      refine Or.inl ⟨_, _, rfl, rfl, zRd_M (zMw_row (by omega)) (zRd_C (zCw_I (by omega)) R5), ?_, ?_, fun d h1 h2 hd => ?_, fun j hj => ?_, 0, k, l, 0, by omega, ?_, ?_, ?_, ?_, fun _ => ⟨hk, hl, ?_, ?_⟩, fun e => by omega, fun e => by omega, fun e => by omega⟩
      · rw [upI_ne' (by omega), V5 45 (by omega) (by omega), upI_ne' (by omega), U5 45 (by omega) (by omega), upI_ne' (by omega), g5 45 (by omega) (by omega)]
      · rw [upI_ne' (by omega), V1 76 (by omega), upI_ne' (by omega), U1 76 (by omega), hcc 76 (by omega) (by omega)]
      · rw [upI_ne' hd, V1 d (by omega), upI_ne' hd, U1 d (by omega), hcc d (by omega) hd]
      · rw [upI_nj (by omega), V4 4 (by omega), upI_nj (by omega), U4 4 (by omega), upI_nj (by omega), g4 4 (by omega)]
      · rw [upI_nj (by omega), V1 (78 + i) (by omega), upI_nj (by omega), U1 (78 + i) (by omega), ea]; rfl
      · rw [upI_nj (by omega), V4 4 (by omega), upI_nj (by omega), U4 4 (by omega), upI_at]; rfl
      · rw [upI_nj (by omega), V1 (78 + i) (by omega), upI_at]
      · rw [upI_nj (by omega), V4 4 (by omega), upI_at]
      · rw [upI_at]
      · rw [upI_at]
    · have z1' : Tokens_takeKnown (upI a2 (78 + i) 1 (Int32.ofNat k)) (6 + 1) 6 (Int32.ofNat (zB (M0.1 2))) = some (-1, a3) := z1
      have z2' : M_takesName (upI c2 4 (4 * i + 1) (Int32.ofNat k)) 0 (Int32.ofNat (zB (M0.1 2))) = some (0, c3) := z2
      rw [z1', z2', Option.bind_some, Option.bind_some]
      dsimp only
      unfold Book_readLine_b88 M_bookLine_b231
      rw [show ix (2 : Int32) 4 = some 2 from z_ix (i := 2) (by omega) (by omega), Option.bind_some, nm_eq, upI_at, if_pos rfl, if_pos rfl]
      exact Or.inr ⟨_, c3, rfl, rfl, zBad_C (zCw_I (by omega)) Bd⟩
  · have y1' : Tokens_takeKnown a (6 + 2) 6 (Int32.ofNat (zO (M0.1 2))) = some (-1, a2) := y1
    have y2' : M_takesName (upI c 4 (4 * i) 0) 6 (Int32.ofNat (zO (M0.1 2))) = some (0, c2) := y2
    rw [y1', y2', Option.bind_some, Option.bind_some, nm_eq]
    dsimp only
    rw [upI_at, if_pos rfl]
    unfold M_bookLine_b176 Book_readLine_b88
    rw [if_pos rfl, show ix (2 : Int32) 4 = some 2 from z_ix (i := 2) (by omega) (by omega), Option.bind_some, nm_eq, upI_at, if_pos rfl]
    exact Or.inr ⟨_, c2, rfl, rfl, zBad_C (zCw_t (zCw_I (by omega)) (zCw_I (by omega))) Bd⟩
theorem zLb_hush (P : zPh C0 M0) (hi : i < 40) (h45 : mM.1 0 45 = Int32.ofNat i) (h8 : mC.1 3 8 = 17) (h11 : mM.1 0 11 = 1) (R : zRd n lim q b C0 M0 mC mM) : zLb n lim (q + 1) b C0 M0 mC mM i (Book_readLine mC 6 (78 + i)) (M_bookLine_b78 (Int32.ofNat (4 * i)) 1 mM) := by
  unfold Book_readLine M_bookLine_b78
  rw [h45, if_neg (show ¬ (1 : Int32) < 0 by decide), if_neg (show ¬ Int32.ofNat i = 40 from fun e => by have := (z_eq (b := 40) (by omega) (by omega)).mp e; omega), nm_eq, h8]
  obtain ⟨a, c, e1, e2, R1, g1, g2, g3, g4, g5, g6⟩ := zT_go1 (zRd_C (zCw_I (c := 78 + i) (j := 0) (v := 17) (by omega)) R) (Or.inl h11)
  have ea : a.1 (78 + i) 0 = 17 := by rw [g1 (78 + i) (by omega), upI_at]
  have hcc : ∀ d, d ≠ 3 → d ≠ 78 + i → a.1 d = mC.1 d := fun d h3 hd => by rw [g1 d h3, upI_ne' hd]
  rw [e1, e2, Option.bind_some, Option.bind_some, nm_eq, z_ix (show 4 * i < 160 by omega) (by omega), Option.bind_some, nm_eq, ea]
  have R2 := zRd_M (zMw_row (c := 4) (j := 4 * i) (v := 1) (by omega)) R1
  obtain ⟨p6, p7, p8, q0, q1, q2, b6, o6, c8, nb, no, ns⟩ := zPh_ct P R2
  rw [if_neg (show ¬ (17 : Int32) = 16 by decide), if_pos rfl, if_neg (show ¬ (1 : Int32) = 0 by decide), if_pos (show (1 : Int32) < 3 by decide), p8, q2]
  rcases zT_name (c0 := 9) (N := 8) (base := 12) (cnt := zC (M0.1 2)) (by omega) c8 (by omega) ns R2 with ⟨k, a2, c2, hk, y1, y2, y3, R3, U1, U2, U3, U4, U5, U6⟩ | ⟨a2, c2, y1, y2, Bd⟩
  · have y1' : Tokens_takeKnown a (6 + 3) 8 (Int32.ofNat (zC (M0.1 2))) = some (Int32.ofNat k, a2) := y1
    have y2' : M_takesName (upI c 4 (4 * i) 1) 12 (Int32.ofNat (zC (M0.1 2))) = some (1, c2) := y2
    rw [y1', y2', Option.bind_some, Option.bind_some, nm_eq]
    dsimp only
    rw [upI_at, if_neg (z_nm1 (show k < 2147483648 by omega))]
    unfold M_bookLine_b176
    rw [if_neg (show ¬ (1 : Int32) = 0 by decide), z_s, z_ix (show 4 * i + 1 < 160 by omega) (by omega), Option.bind_some, nm_eq, y3, if_neg (show ¬ (1 : Int32) = 0 by decide), if_neg (show ¬ (1 : Int32) = 3 by decide)]
    refine Or.inl ⟨_, _, rfl, rfl, zRd_M (zMw_row (by omega)) (zRd_C (zCw_I (by omega)) R3), ?_, ?_, fun d h1 h2 hd => ?_, fun j hj => ?_, 1, k, 0, 0, by omega, ?_, ?_, ?_, ?_, fun e => by omega, fun _ => hk, fun e => by omega, fun e => by omega⟩
    · rw [upI_ne' (by omega), U5 45 (by omega) (by omega), upI_ne' (by omega), g5 45 (by omega) (by omega)]
    · rw [upI_ne' (by omega), U1 76 (by omega), hcc 76 (by omega) (by omega)]
    · rw [upI_ne' hd, U1 d (by omega), hcc d (by omega) hd]
    · rw [upI_nj (by omega), U4 4 (by omega), upI_nj (by omega), g4 4 (by omega)]
    · rw [upI_nj (by omega), U1 (78 + i) (by omega), ea]; rfl
    · rw [upI_nj (by omega), U4 4 (by omega), upI_at]; rfl
    · rw [upI_at]
    · rw [upI_at]
  · have y1' : Tokens_takeKnown a (6 + 3) 8 (Int32.ofNat (zC (M0.1 2))) = some (-1, a2) := y1
    have y2' : M_takesName (upI c 4 (4 * i) 1) 12 (Int32.ofNat (zC (M0.1 2))) = some (0, c2) := y2
    rw [y1', y2', Option.bind_some, Option.bind_some, nm_eq]
    dsimp only
    rw [upI_at, if_pos rfl]
    unfold M_bookLine_b176
    rw [if_pos rfl]
    exact Or.inr ⟨_, c2, rfl, rfl, zBad_C (zCw_I (by omega)) Bd⟩
theorem zLb_let (P : zPh C0 M0) (hi : i < 40) (h45 : mM.1 0 45 = Int32.ofNat i) (h8 : mC.1 3 8 = 18) (h11 : mM.1 0 11 = 1) (R : zRd n lim q b C0 M0 mC mM) : zLb n lim (q + 1) b C0 M0 mC mM i (Book_readLine mC 6 (78 + i)) (M_bookLine_b78 (Int32.ofNat (4 * i)) 2 mM) := by
  unfold Book_readLine M_bookLine_b78
  rw [h45, if_neg (show ¬ (2 : Int32) < 0 by decide), if_neg (show ¬ Int32.ofNat i = 40 from fun e => by have := (z_eq (b := 40) (by omega) (by omega)).mp e; omega), nm_eq, h8]
  obtain ⟨a, c, e1, e2, R1, g1, g2, g3, g4, g5, g6⟩ := zT_go1 (zRd_C (zCw_I (c := 78 + i) (j := 0) (v := 18) (by omega)) R) (Or.inl h11)
  have ea : a.1 (78 + i) 0 = 18 := by rw [g1 (78 + i) (by omega), upI_at]
  have hcc : ∀ d, d ≠ 3 → d ≠ 78 + i → a.1 d = mC.1 d := fun d h3 hd => by rw [g1 d h3, upI_ne' hd]
  rw [e1, e2, Option.bind_some, Option.bind_some, nm_eq, z_ix (show 4 * i < 160 by omega) (by omega), Option.bind_some, nm_eq, ea]
  have R2 := zRd_M (zMw_row (c := 4) (j := 4 * i) (v := 2) (by omega)) R1
  obtain ⟨p6, p7, p8, q0, q1, q2, b6, o6, c8, nb, no, ns⟩ := zPh_ct P R2
  rw [if_neg (show ¬ (18 : Int32) = 16 by decide), if_neg (show ¬ (18 : Int32) = 17 by decide), if_pos rfl, if_neg (show ¬ (2 : Int32) = 0 by decide), if_pos (show (2 : Int32) < 3 by decide), p8, q2]
  rcases zT_name (c0 := 9) (N := 8) (base := 12) (cnt := zC (M0.1 2)) (by omega) c8 (by omega) ns R2 with ⟨k, a2, c2, hk, y1, y2, y3, R3, U1, U2, U3, U4, U5, U6⟩ | ⟨a2, c2, y1, y2, Bd⟩
  · have y1' : Tokens_takeKnown a (6 + 3) 8 (Int32.ofNat (zC (M0.1 2))) = some (Int32.ofNat k, a2) := y1
    have y2' : M_takesName (upI c 4 (4 * i) 2) 12 (Int32.ofNat (zC (M0.1 2))) = some (1, c2) := y2
    rw [y1', y2', Option.bind_some, Option.bind_some, nm_eq]
    dsimp only
    rw [upI_at, if_neg (z_nm1 (show k < 2147483648 by omega))]
    unfold M_bookLine_b176
    rw [if_neg (show ¬ (1 : Int32) = 0 by decide), z_s, z_ix (show 4 * i + 1 < 160 by omega) (by omega), Option.bind_some, nm_eq, y3, if_neg (show ¬ (2 : Int32) = 0 by decide), if_neg (show ¬ (2 : Int32) = 3 by decide)]
    refine Or.inl ⟨_, _, rfl, rfl, zRd_M (zMw_row (by omega)) (zRd_C (zCw_I (by omega)) R3), ?_, ?_, fun d h1 h2 hd => ?_, fun j hj => ?_, 2, k, 0, 0, by omega, ?_, ?_, ?_, ?_, fun e => by omega, fun _ => hk, fun e => by omega, fun e => by omega⟩
    · rw [upI_ne' (by omega), U5 45 (by omega) (by omega), upI_ne' (by omega), g5 45 (by omega) (by omega)]
    · rw [upI_ne' (by omega), U1 76 (by omega), hcc 76 (by omega) (by omega)]
    · rw [upI_ne' hd, U1 d (by omega), hcc d (by omega) hd]
    · rw [upI_nj (by omega), U4 4 (by omega), upI_nj (by omega), g4 4 (by omega)]
    · rw [upI_nj (by omega), U1 (78 + i) (by omega), ea]; rfl
    · rw [upI_nj (by omega), U4 4 (by omega), upI_at]; rfl
    · rw [upI_at]
    · rw [upI_at]
  · have y1' : Tokens_takeKnown a (6 + 3) 8 (Int32.ofNat (zC (M0.1 2))) = some (-1, a2) := y1
    have y2' : M_takesName (upI c 4 (4 * i) 2) 12 (Int32.ofNat (zC (M0.1 2))) = some (0, c2) := y2
    rw [y1', y2', Option.bind_some, Option.bind_some, nm_eq]
    dsimp only
    rw [upI_at, if_pos rfl]
    unfold M_bookLine_b176
    rw [if_pos rfl]
    exact Or.inr ⟨_, c2, rfl, rfl, zBad_C (zCw_I (by omega)) Bd⟩
theorem zLb_shout (P : zPh C0 M0) (hi : i < 40) (h45 : mM.1 0 45 = Int32.ofNat i) (h8 : mC.1 3 8 = 19) (h11 : mM.1 0 11 = 1) (R : zRd n lim q b C0 M0 mC mM) : zLb n lim (q + 1) b C0 M0 mC mM i (Book_readLine mC 6 (78 + i)) (M_bookLine_b78 (Int32.ofNat (4 * i)) 3 mM) := by
  unfold Book_readLine M_bookLine_b78
  rw [h45, if_neg (show ¬ (3 : Int32) < 0 by decide), if_neg (show ¬ Int32.ofNat i = 40 from fun e => by have := (z_eq (b := 40) (by omega) (by omega)).mp e; omega), nm_eq, h8]
  obtain ⟨a, c, e1, e2, R1, g1, g2, g3, g4, g5, g6⟩ := zT_go1 (zRd_C (zCw_I (c := 78 + i) (j := 0) (v := 19) (by omega)) R) (Or.inl h11)
  have ea : a.1 (78 + i) 0 = 19 := by rw [g1 (78 + i) (by omega), upI_at]
  have hcc : ∀ d, d ≠ 3 → d ≠ 78 + i → a.1 d = mC.1 d := fun d h3 hd => by rw [g1 d h3, upI_ne' hd]
  rw [e1, e2, Option.bind_some, Option.bind_some, nm_eq, z_ix (show 4 * i < 160 by omega) (by omega), Option.bind_some, nm_eq, ea]
  have R2 := zRd_M (zMw_row (c := 4) (j := 4 * i) (v := 3) (by omega)) R1
  obtain ⟨p6, p7, p8, q0, q1, q2, b6, o6, c8, nb, no, ns⟩ := zPh_ct P R2
  rw [if_neg (show ¬ (19 : Int32) = 16 by decide), if_neg (show ¬ (19 : Int32) = 17 by decide), if_neg (show ¬ (19 : Int32) = 18 by decide), if_pos rfl, if_neg (show ¬ (3 : Int32) = 0 by decide), if_neg (show ¬ (3 : Int32) < 3 by decide), if_pos rfl]
  rcases zT_num (lo := 0) (hi := 8) (by omega) (by omega) R2 with ⟨k, a2, c2, l1, l2, y1, y2, y3, _, _, R3, U1, U2, U3, U4, U5, U6⟩ | ⟨a2, c2, y1, y2, Bd⟩
  · have y1' : Tokens_takeNumber a 0 8 = some (Int32.ofNat k, a2) := y1
    have y2' : M_takes (upI c 4 (4 * i) 3) 0 8 = some (1, c2) := y2
    rw [y1', y2', Option.bind_some, Option.bind_some, nm_eq]
    dsimp only
    rw [upI_at, if_neg (z_nm1 (show k < 2147483648 by omega))]
    unfold M_bookLine_b176
    rw [if_neg (show ¬ (1 : Int32) = 0 by decide), z_s, z_ix (show 4 * i + 1 < 160 by omega) (by omega), Option.bind_some, nm_eq, y3, if_neg (show ¬ (3 : Int32) = 0 by decide), if_pos rfl]
    unfold M_bookLine_b206
    rw [if_neg (show ¬ (3 : Int32) = 0 by decide)]
    have R4 := zRd_M (zMw_row (c := 4) (j := 4 * i + 1) (v := Int32.ofNat k) (by omega)) (zRd_C (zCw_I (c := 78 + i) (j := 1) (v := Int32.ofNat k) (by omega)) R3)
    rcases zT_num (lo := 0) (hi := 8) (by omega) (by omega) R4 with ⟨l, a3, c3, l3, l4, z1, z2, z3, _, _, R5, V1, V2, V3, V4, V5, V6⟩ | ⟨a3, c3, z1, z2, Bd⟩
    · have z1' : Tokens_takeNumber (upI a2 (78 + i) 1 (Int32.ofNat k)) 0 8 = some (Int32.ofNat l, a3) := z1
      have z2' : M_takes (upI c2 4 (4 * i + 1) (Int32.ofNat k)) 0 8 = some (1, c3) := z2
      rw [z1', z2', Option.bind_some, Option.bind_some]
      dsimp only
      unfold Book_readLine_b132 M_bookLine_b231
      rw [show ix (2 : Int32) 4 = some 2 from z_ix (i := 2) (by omega) (by omega), Option.bind_some, nm_eq, upI_at, if_neg (z_nm1 (show l < 2147483648 by omega)), if_neg (show ¬ (1 : Int32) = 0 by decide), show (Int32.ofNat (4 * i) + 2 : Int32) = Int32.ofNat (4 * i + 2) from z_add (4 * i) 2, z_ix (show 4 * i + 2 < 160 by omega) (by omega), Option.bind_some, nm_eq, z3, if_neg (show ¬ (3 : Int32) = 0 by decide)]
      have R6 := zRd_M (zMw_row (c := 4) (j := 4 * i + 2) (v := Int32.ofNat l) (by omega)) (zRd_C (zCw_I (c := 78 + i) (j := 2) (v := Int32.ofNat l) (by omega)) R5)
      rcases zT_num (lo := 1) (hi := 30) (by omega) (by omega) R6 with ⟨o, a4, c4, l5, l6, x1, x2, x3, _, _, R7, W1, W2, W3, W4, W5, W6⟩ | ⟨a4, c4, x1, x2, Bd⟩
      · have x1' : Tokens_takeNumber (upI a3 (78 + i) 2 (Int32.ofNat l)) 1 30 = some (Int32.ofNat o, a4) := x1
        have x2' : M_takes (upI c3 4 (4 * i + 2) (Int32.ofNat l)) 1 30 = some (1, c4) := x2
        rw [x1', x2', Option.bind_some, Option.bind_some]
        dsimp only
        unfold Book_readLine_b153
        rw [show ix (3 : Int32) 4 = some 3 from z_ix (i := 3) (by omega) (by omega), Option.bind_some, nm_eq, upI_at, if_neg (z_nm1 (show o < 2147483648 by omega)), if_neg (show ¬ (1 : Int32) = 0 by decide), show (Int32.ofNat (4 * i) + 3 : Int32) = Int32.ofNat (4 * i + 3) from z_add (4 * i) 3, z_ix (show 4 * i + 3 < 160 by omega) (by omega), Option.bind_some, nm_eq, x3]
        refine Or.inl ⟨_, _, rfl, rfl, zRd_M (zMw_row (by omega)) (zRd_C (zCw_I (by omega)) R7), ?_, ?_, fun d h1 h2 hd => ?_, fun j hj => ?_, 3, k, l, o, by omega, ?_, ?_, ?_, ?_, fun e => by omega, fun e => by omega, fun _ => ⟨l2, l4, l5, l6, ?_, ?_, ?_, ?_⟩, fun e => by omega⟩
        · rw [upI_ne' (by omega), W5 45 (by omega) (by omega), upI_ne' (by omega), V5 45 (by omega) (by omega), upI_ne' (by omega), U5 45 (by omega) (by omega), upI_ne' (by omega), g5 45 (by omega) (by omega)]
        · rw [upI_ne' (by omega), W1 76 (by omega), upI_ne' (by omega), V1 76 (by omega), upI_ne' (by omega), U1 76 (by omega), hcc 76 (by omega) (by omega)]
        · rw [upI_ne' hd, W1 d (by omega), upI_ne' hd, V1 d (by omega), upI_ne' hd, U1 d (by omega), hcc d (by omega) hd]
        · rw [upI_nj (by omega), W4 4 (by omega), upI_nj (by omega), V4 4 (by omega), upI_nj (by omega), U4 4 (by omega), upI_nj (by omega), g4 4 (by omega)]
        · rw [upI_nj (by omega), W1 (78 + i) (by omega), upI_nj (by omega), V1 (78 + i) (by omega), upI_nj (by omega), U1 (78 + i) (by omega), ea]; rfl
        · rw [upI_nj (by omega), W4 4 (by omega), upI_nj (by omega), V4 4 (by omega), upI_nj (by omega), U4 4 (by omega), upI_at]; rfl
        · rw [upI_nj (by omega), W1 (78 + i) (by omega), upI_nj (by omega), V1 (78 + i) (by omega), upI_at]
        · rw [upI_nj (by omega), W4 4 (by omega), upI_nj (by omega), V4 4 (by omega), upI_at]
        · rw [upI_nj (by omega), W1 (78 + i) (by omega), upI_at]
        · rw [upI_nj (by omega), W4 4 (by omega), upI_at]
        · rw [upI_at]
        · rw [upI_at]
      · have x1' : Tokens_takeNumber (upI a3 (78 + i) 2 (Int32.ofNat l)) 1 30 = some (-1, a4) := x1
        have x2' : M_takes (upI c3 4 (4 * i + 2) (Int32.ofNat l)) 1 30 = some (0, c4) := x2
        rw [x1', x2', Option.bind_some, Option.bind_some]
        dsimp only
        unfold Book_readLine_b153
        rw [show ix (3 : Int32) 4 = some 3 from z_ix (i := 3) (by omega) (by omega), Option.bind_some, nm_eq, upI_at, if_pos rfl, if_pos rfl]
        exact Or.inr ⟨_, c4, rfl, rfl, zBad_C (zCw_I (by omega)) Bd⟩
    · have z1' : Tokens_takeNumber (upI a2 (78 + i) 1 (Int32.ofNat k)) 0 8 = some (-1, a3) := z1
      have z2' : M_takes (upI c2 4 (4 * i + 1) (Int32.ofNat k)) 0 8 = some (0, c3) := z2
      rw [z1', z2', Option.bind_some, Option.bind_some]
      dsimp only
      unfold Book_readLine_b132 M_bookLine_b231
      rw [show ix (2 : Int32) 4 = some 2 from z_ix (i := 2) (by omega) (by omega), Option.bind_some, nm_eq, upI_at, if_pos rfl, if_pos rfl]
      unfold Book_readLine_b153
      rw [show ix (3 : Int32) 4 = some 3 from z_ix (i := 3) (by omega) (by omega), Option.bind_some, nm_eq, upI_at, if_pos rfl]
      exact Or.inr ⟨_, c3, rfl, rfl, zBad_C (zCw_t (zCw_I (by omega)) (zCw_I (by omega))) Bd⟩
  · have y1' : Tokens_takeNumber a 0 8 = some (-1, a2) := y1
    have y2' : M_takes (upI c 4 (4 * i) 3) 0 8 = some (0, c2) := y2
    rw [y1', y2', Option.bind_some, Option.bind_some, nm_eq]
    dsimp only
    rw [upI_at, if_pos rfl]
    unfold M_bookLine_b176 Book_readLine_b132
    rw [if_pos rfl, show ix (2 : Int32) 4 = some 2 from z_ix (i := 2) (by omega) (by omega), Option.bind_some, nm_eq, upI_at, if_pos rfl]
    unfold Book_readLine_b153
    rw [show ix (3 : Int32) 4 = some 3 from z_ix (i := 3) (by omega) (by omega), Option.bind_some, nm_eq, upI_at, if_pos rfl]
    exact Or.inr ⟨_, c2, rfl, rfl, zBad_C (zCw_t (zCw_I (by omega)) (zCw_t (zCw_I (by omega)) (zCw_I (by omega)))) Bd⟩
theorem zLb_hour (P : zPh C0 M0) (hi : i < 40) (h45 : mM.1 0 45 = Int32.ofNat i) (h8 : mC.1 3 8 = 20) (h11 : mM.1 0 11 = 1) (R : zRd n lim q b C0 M0 mC mM) : zLb n lim (q + 1) b C0 M0 mC mM i (Book_readLine mC 6 (78 + i)) (M_bookLine_b78 (Int32.ofNat (4 * i)) 4 mM) := by
  unfold Book_readLine M_bookLine_b78
  rw [h45, if_neg (show ¬ (4 : Int32) < 0 by decide), if_neg (show ¬ Int32.ofNat i = 40 from fun e => by have := (z_eq (b := 40) (by omega) (by omega)).mp e; omega), nm_eq, h8]
  obtain ⟨a, c, e1, e2, R1, g1, g2, g3, g4, g5, g6⟩ := zT_go1 (zRd_C (zCw_I (c := 78 + i) (j := 0) (v := 20) (by omega)) R) (Or.inl h11)
  have ea : a.1 (78 + i) 0 = 20 := by rw [g1 (78 + i) (by omega), upI_at]
  have hcc : ∀ d, d ≠ 3 → d ≠ 78 + i → a.1 d = mC.1 d := fun d h3 hd => by rw [g1 d h3, upI_ne' hd]
  rw [e1, e2, Option.bind_some, Option.bind_some, nm_eq, z_ix (show 4 * i < 160 by omega) (by omega), Option.bind_some, nm_eq, ea]
  have R2 := zRd_M (zMw_row (c := 4) (j := 4 * i) (v := 4) (by omega)) R1
  obtain ⟨p6, p7, p8, q0, q1, q2, b6, o6, c8, nb, no, ns⟩ := zPh_ct P R2
  rw [if_neg (show ¬ (20 : Int32) = 16 by decide), if_neg (show ¬ (20 : Int32) = 17 by decide), if_neg (show ¬ (20 : Int32) = 18 by decide), if_neg (show ¬ (20 : Int32) = 19 by decide), if_pos rfl, if_neg (show ¬ (4 : Int32) = 0 by decide), if_neg (show ¬ (4 : Int32) < 3 by decide), if_neg (show ¬ (4 : Int32) = 3 by decide)]
  rcases zT_num (lo := 1) (hi := 60) (by omega) (by omega) R2 with ⟨k, a2, c2, l1, l2, y1, y2, y3, _, _, R3, U1, U2, U3, U4, U5, U6⟩ | ⟨a2, c2, y1, y2, Bd⟩
  · have y1' : Tokens_takeNumber a 1 60 = some (Int32.ofNat k, a2) := y1
    have y2' : M_takes (upI c 4 (4 * i) 4) 1 60 = some (1, c2) := y2
    rw [y1', y2', Option.bind_some, Option.bind_some, nm_eq]
    dsimp only
    rw [upI_at, if_neg (z_nm1 (show k < 2147483648 by omega))]
    unfold M_bookLine_b176
    rw [if_neg (show ¬ (1 : Int32) = 0 by decide), z_s, z_ix (show 4 * i + 1 < 160 by omega) (by omega), Option.bind_some, nm_eq, y3, if_neg (show ¬ (4 : Int32) = 0 by decide), if_neg (show ¬ (4 : Int32) = 3 by decide)]
    refine Or.inl ⟨_, _, rfl, rfl, zRd_M (zMw_row (by omega)) (zRd_C (zCw_I (by omega)) R3), ?_, ?_, fun d h1 h2 hd => ?_, fun j hj => ?_, 4, k, 0, 0, by omega, ?_, ?_, ?_, ?_, fun e => by omega, fun e => by omega, fun e => by omega, fun _ => ⟨l1, l2⟩⟩
    · rw [upI_ne' (by omega), U5 45 (by omega) (by omega), upI_ne' (by omega), g5 45 (by omega) (by omega)]
    · rw [upI_ne' (by omega), U1 76 (by omega), hcc 76 (by omega) (by omega)]
    · rw [upI_ne' hd, U1 d (by omega), hcc d (by omega) hd]
    · rw [upI_nj (by omega), U4 4 (by omega), upI_nj (by omega), g4 4 (by omega)]
    · rw [upI_nj (by omega), U1 (78 + i) (by omega), ea]; rfl
    · rw [upI_nj (by omega), U4 4 (by omega), upI_at]; rfl
    · rw [upI_at]
    · rw [upI_at]
  · have y1' : Tokens_takeNumber a 1 60 = some (-1, a2) := y1
    have y2' : M_takes (upI c 4 (4 * i) 4) 1 60 = some (0, c2) := y2
    rw [y1', y2', Option.bind_some, Option.bind_some, nm_eq]
    dsimp only
    rw [upI_at, if_pos rfl]
    unfold M_bookLine_b176
    rw [if_pos rfl]
    exact Or.inr ⟨_, c2, rfl, rfl, zBad_C (zCw_I (by omega)) Bd⟩
end ZBL
