/-! Layer 2. house: a line, the lines -/
section ZHA
variable {m m' mC mC' mM mM' C0 M0 C1 M1 : xMem} {n p lim q B O S W H : Nat} {b : Nat → Nat} {s t : Bool}
theorem zN_inj {o : Option Nat} {k : Nat} (ho : ∀ i, o = some i → i < 32) (hk : k < 32) : (zN o = Int32.ofNat k) ↔ o = some k := by
  cases o with
  | none => exact ⟨fun e => absurd e.symm (z_nm1 (by omega)), fun e => by cases e⟩
  | some i =>
    have := ho i rfl
    exact ⟨fun e => by rw [(z_eq (by omega) (by omega)).mp e], fun e => by rw [Option.some.inj e]; rfl⟩
/-- which word with a meaning it is, both ways -/
theorem zM_isW {k : Nat} {lit : Int64} (hk : k < 32) (hl : lit = Int64.ofNat (zE8 (zWrd k))) (R : zRd n lim q b C0 M0 mC mM) : M_isWord mM lit = some (zb (decide (mC.1 3 8 = Int32.ofNat k))) ∧ (mC.1 3 8 = Int32.ofNat k → mM.1 0 11 = 1) := by
  obtain ⟨s, hkd⟩ := zRd_kd R
  unfold M_isWord
  rcases zKd_word hkd with ⟨a, c, w, w1, w2, w3, w4⟩ | ⟨a, c, w4⟩
  · refine ⟨?_, fun _ => c⟩
    rw [c, if_pos rfl, w3, hl, w4]
    have e : (zN (zFst (fun j => decide (zWrd j = w)) 32) = Int32.ofNat k) ↔ w = zWrd k := by
      rw [zN_inj (fun i hi => zFst_lt hi) hk]
      constructor
      · intro h
        exact (of_decide_eq_true (zFst_some h).2.1).symm
      · intro h
        refine zFst_of hk (decide_eq_true h.symm) (fun j hj => decide_eq_false (fun e => ?_))
        have := zWrd_inj (i := j) (j := k) (by omega) hk (e.trans h)
        omega
    by_cases h : w = zWrd k
    · rw [if_pos ((z_lcmp _ _).mpr ((z_w8 w1 (zVw_wrd hk)).mpr h)), decide_eq_true (e.mpr h)]
      rfl
    · rw [if_neg (fun q => h ((z_w8 w1 (zVw_wrd hk)).mp ((z_lcmp _ _).mp q))), decide_eq_false (fun q => h (e.mp q))]
      rfl
  · rw [if_neg c, w4, decide_eq_false (fun q => z_nm1 (a := k) (by omega) q.symm)]
    exact ⟨rfl, fun q => absurd q.symm (z_nm1 (by omega))⟩
theorem zLn_rz {r1 r2 : Option (Int32 × xMem)} (h : zLn n lim q b C0 M0 r1 r2) : zLn n lim q b C0 M0 r1 (r2.bind fun r => (rz r.1).bind fun w => some (w, r.2)) := by
  rcases h with ⟨a, c, e1, e2, e3⟩ | ⟨a, c, e1, e2, e3⟩
  · exact Or.inl ⟨a, c, e1, by rw [e2, Option.bind_some, rz_1, Option.bind_some], e3⟩
  · exact Or.inr ⟨a, c, e1, by rw [e2, Option.bind_some, rz_0, Option.bind_some], e3⟩
def zChain (m : xMem) (K : Int32 → xMem → Option (Int32 × xMem)) : Option (Int32 × xMem) :=
  if m.1 3 8 = 0 then (HouseReader_readHouse m 44).bind fun r => K r.1 r.2 else
  if m.1 3 8 = 1 then (HouseReader_readBed m 44).bind fun r => K r.1 r.2 else
  if m.1 3 8 = 2 then (HouseReader_readOwl m 44).bind fun r => K r.1 r.2 else
  if m.1 3 8 = 3 then (HouseReader_readBad m 44).bind fun r => K r.1 r.2 else
  if m.1 3 8 = 4 then (HouseReader_readDeaf m 44).bind fun r => K r.1 r.2 else
  if m.1 3 8 = 5 then (HouseReader_readSound m 44).bind fun r => K r.1 r.2 else
  if m.1 3 8 = 6 then (HouseReader_readWants m 44).bind fun r => K r.1 r.2 else
  if m.1 3 8 = 7 then (HouseReader_readShut m 44).bind fun r => K r.1 r.2 else
  (Tokens_fail m 1).bind fun r => K r.1 r.2
theorem zL_line (hs : zHs mC mM) (R : zRd n lim q b C0 M0 mC mM) : ∃ A, (∀ K, zChain mC K = A.bind fun r => K r.1 r.2) ∧ zLn n lim (q + 1) b C0 M0 A (M_line mM) := by
  obtain ⟨B, O, S, W, H, s, t, D, F⟩ := hs
  obtain ⟨i0, j0⟩ := zM_isW (k := 0) (lit := 448546567013) (by omega) (by decide +kernel) R
  obtain ⟨i1, j1⟩ := zM_isW (k := 1) (lit := 6448484) (by omega) (by decide +kernel) R
  obtain ⟨i2, j2⟩ := zM_isW (k := 2) (lit := 7305068) (by omega) (by decide +kernel) R
  obtain ⟨i3, j3⟩ := zM_isW (k := 3) (lit := 6447460) (by omega) (by decide +kernel) R
  obtain ⟨i4, j4⟩ := zM_isW (k := 4) (lit := 1684365670) (by omega) (by decide +kernel) R
  obtain ⟨i5, j5⟩ := zM_isW (k := 5) (lit := 495791205988) (by omega) (by decide +kernel) R
  obtain ⟨i6, j6⟩ := zM_isW (k := 6) (lit := 512735736947) (by omega) (by decide +kernel) R
  obtain ⟨i7, j7⟩ := zM_isW (k := 7) (lit := 1936225652) (by omega) (by decide +kernel) R
  have t0 : zb true ≠ 0 := by decide
  unfold zChain M_line
  rw [i0, Option.bind_some]
  by_cases h0 : mC.1 3 8 = 0
  · rw [decide_eq_true (show mC.1 3 8 = Int32.ofNat 0 from h0), if_neg t0]
    exact ⟨_, fun K => by rw [if_pos h0], zL_house (j0 h0) D F R⟩
  rw [decide_eq_false (show ¬ mC.1 3 8 = Int32.ofNat 0 from h0), if_pos (show zb false = 0 from rfl), i1, Option.bind_some]
  by_cases h1 : mC.1 3 8 = 1
  · rw [decide_eq_true (show mC.1 3 8 = Int32.ofNat 1 from h1), if_neg t0]
    exact ⟨_, fun K => by rw [if_neg h0, if_pos h1], zLn_rz (zL_bed (j1 h1) D F R)⟩
  rw [decide_eq_false (show ¬ mC.1 3 8 = Int32.ofNat 1 from h1), if_pos (show zb false = 0 from rfl), i2, Option.bind_some]
  by_cases h2 : mC.1 3 8 = 2
  · rw [decide_eq_true (show mC.1 3 8 = Int32.ofNat 2 from h2), if_neg t0]
    exact ⟨_, fun K => by rw [if_neg h0, if_neg h1, if_pos h2], zLn_rz (zL_owl (j2 h2) D F R)⟩
  rw [decide_eq_false (show ¬ mC.1 3 8 = Int32.ofNat 2 from h2), if_pos (show zb false = 0 from rfl), i3, Option.bind_some]
  by_cases h3 : mC.1 3 8 = 3
  · rw [decide_eq_true (show mC.1 3 8 = Int32.ofNat 3 from h3), if_neg t0]
    exact ⟨_, fun K => by rw [if_neg h0, if_neg h1, if_neg h2, if_pos h3], zLn_rz (zL_bad (j3 h3) D F R)⟩
  rw [decide_eq_false (show ¬ mC.1 3 8 = Int32.ofNat 3 from h3), if_pos (show zb false = 0 from rfl), i4, Option.bind_some]
  by_cases h4 : mC.1 3 8 = 4
  · rw [decide_eq_true (show mC.1 3 8 = Int32.ofNat 4 from h4), if_neg t0]
    exact ⟨_, fun K => by rw [if_neg h0, if_neg h1, if_neg h2, if_neg h3, if_pos h4], zLn_rz (zL_deaf (j4 h4) D F R)⟩
  rw [decide_eq_false (show ¬ mC.1 3 8 = Int32.ofNat 4 from h4), if_pos (show zb false = 0 from rfl), i5, Option.bind_some]
  by_cases h5 : mC.1 3 8 = 5
  · rw [decide_eq_true (show mC.1 3 8 = Int32.ofNat 5 from h5), if_neg t0]
    exact ⟨_, fun K => by rw [if_neg h0, if_neg h1, if_neg h2, if_neg h3, if_neg h4, if_pos h5], zLn_rz (zL_sound (j5 h5) D F R)⟩
  rw [decide_eq_false (show ¬ mC.1 3 8 = Int32.ofNat 5 from h5), if_pos (show zb false = 0 from rfl), i6, Option.bind_some]
  by_cases h6 : mC.1 3 8 = 6
  · rw [decide_eq_true (show mC.1 3 8 = Int32.ofNat 6 from h6), if_neg t0]
    exact ⟨_, fun K => by rw [if_neg h0, if_neg h1, if_neg h2, if_neg h3, if_neg h4, if_neg h5, if_pos h6], zLn_rz (zL_wants (j6 h6) D F R)⟩
  rw [decide_eq_false (show ¬ mC.1 3 8 = Int32.ofNat 6 from h6), if_pos (show zb false = 0 from rfl), i7, Option.bind_some]
  by_cases h7 : mC.1 3 8 = 7
  · rw [decide_eq_true (show mC.1 3 8 = Int32.ofNat 7 from h7), if_neg t0]
    exact ⟨_, fun K => by rw [if_neg h0, if_neg h1, if_neg h2, if_neg h3, if_neg h4, if_neg h5, if_neg h6, if_pos h7], zL_shut (j7 h7) D F R⟩
  · rw [decide_eq_false (show ¬ mC.1 3 8 = Int32.ofNat 7 from h7), if_pos (show zb false = 0 from rfl)]
    obtain ⟨a, c, e1, e2, e3⟩ := zT_fail (k := 1) (by decide) R
    exact ⟨_, fun K => by rw [if_neg h0, if_neg h1, if_neg h2, if_neg h3, if_neg h4, if_neg h5, if_neg h6, if_neg h7], Or.inr ⟨a, c, e1, by rw [e2, Option.bind_some, rz_0, Option.bind_some], e3⟩⟩
theorem zXM_19 {v w : Int32} (h : zXM (upI M0 0 19 v) m) : zXM (upI M0 0 19 w) (upI m 0 19 w) := by
  obtain ⟨h1, h2, h3, h4⟩ := h
  refine ⟨fun c hc => by rw [upI_ne' (by omega), upI_ne' (by omega), h1 c hc, upI_ne' (by omega)], fun j hj => ?_, fun c hc => h3 c hc, fun j hj => h4 j hj⟩
  by_cases e : j = 19
  · rw [e, upI_at, upI_at]
  · rw [upI_nj e, upI_nj e, h2 j hj, upI_nj e]
theorem zXM_19' {v : Int32} (h : zXM M0 m) (e : m.1 0 19 = v) : zXM (upI M0 0 19 v) m := by
  obtain ⟨h1, h2, h3, h4⟩ := h
  refine ⟨fun c hc => by rw [h1 c hc, upI_ne' (by omega)], fun j hj => ?_, fun c hc => h3 c hc, fun j hj => h4 j hj⟩
  by_cases e' : j = 19
  · rw [e', upI_at, e]
  · rw [upI_nj e', h2 j hj]
/-- all the lines -/
theorem zL_lines (hs : zHs mC mM) (R : zRd n lim 0 b C0 M0 mC mM) (h19 : mM.1 0 19 = 0) : (∃ i mC' mM', i ≤ 470 ∧ HouseReader_readAll_b6 44 1000 0 mC = some (Int32.ofNat i, mC') ∧ M_house_b40 1000 mM = M_house_b85 1000 0 mM' ∧ zRd n lim 0 b C0 (upI M0 0 19 (Int32.ofNat i)) mC' mM' ∧ zHs mC' mM' ∧ mM'.1 0 19 = Int32.ofNat i) ∨ (∃ v mC' mM', HouseReader_readAll_b6 44 1000 0 mC = some (-1, mC') ∧ M_house_b40 1000 mM = some (-1 - mM'.1 0 16, mM') ∧ zBad C0 (upI M0 0 19 v) mC' mM') := by
  refine z_loopX (fun f i (s : xMem × xMem) => (HouseReader_readAll_b6 44 f (Int32.ofNat i) s.1, M_house_b40 f s.2)) 471 (fun i s => zRd n lim (2 * i) b C0 (upI M0 0 19 (Int32.ofNat i)) s.1 s.2 ∧ zHs s.1 s.2) (fun r => (∃ i mC' mM', i ≤ 470 ∧ r.1 = some (Int32.ofNat i, mC') ∧ r.2 = M_house_b85 1000 0 mM' ∧ zRd n lim 0 b C0 (upI M0 0 19 (Int32.ofNat i)) mC' mM' ∧ zHs mC' mM' ∧ mM'.1 0 19 = Int32.ofNat i) ∨ (∃ v mC' mM', r.1 = some (-1, mC') ∧ r.2 = some (-1 - mM'.1 0 16, mM') ∧ zBad C0 (upI M0 0 19 v) mC' mM')) (fun f i s hi hI => ?_) (fun f s hI => ?_) 471 0 1000 (mC, mM) (by omega) (by omega) ⟨⟨R.1, R.2.1, R.2.2.1, zXM_19' R.2.2.2 h19⟩, hs⟩
  · obtain ⟨c1, m1⟩ := s
    dsimp only at hI ⊢
    obtain ⟨R1, hs1⟩ := hI
    have k19 : m1.1 0 19 = Int32.ofNat i := by rw [R1.2.2.2.2.1 19 (by omega), upI_at]
    obtain ⟨s, hkd⟩ := zRd_kd R1
    rcases zKd_end hkd with ⟨a, c⟩ | ⟨a, c⟩
    · left; left
      refine ⟨i, c1, m1, by omega, ?_, ?_, zRd_up (by omega) R1, hs1, k19⟩
      · rw [HouseReader_readAll_b6, if_neg (show ¬ 900 < Int32.ofNat i from fun e => by have := (z_lt (a := 900) (by omega) (by omega)).mp e; omega), if_pos a]
      · rw [M_house_b40, if_pos c]
    · obtain ⟨A, hA, hL⟩ := zL_line hs1 R1
      have hc : HouseReader_readAll_b6 44 (f + 1) (Int32.ofNat i) c1 = A.bind fun r => HouseReader_readAll_b150 44 (HouseReader_readAll_b6 44 f) (Int32.ofNat i) r.1 r.2 := by
        rw [← hA, HouseReader_readAll_b6, if_neg (show ¬ 900 < Int32.ofNat i from fun e => by have := (z_lt (a := 900) (by omega) (by omega)).mp e; omega), if_neg a, nm_eq]
        rfl
      rcases hL with ⟨c2, m2, e1, e2, R2, hs2⟩ | ⟨c2, m2, e1, e2, Bd⟩
      · rcases zT_sign (k := 59) (by decide) (by omega) R2 with ⟨c3, m3, x1, x2, R3, G⟩ | ⟨c3, m3, x1, x2, Bd⟩
        · right
          obtain ⟨B, O, S, W, H, s, t, D2, F2⟩ := hs2
          have D3 := zHd_ok G D2
          have F3 := zHf_ok G F2
          have k3 : m3.1 0 19 = Int32.ofNat i := by rw [R3.2.2.2.2.1 19 (by omega), upI_at]
          have hmw : (∀ j, j ≠ 19 → (upI m3 0 19 (Int32.ofNat (i + 1))).1 0 j = m3.1 0 j) := fun j hj => upI_nj hj
          obtain ⟨⟨t1, t2, t3, t4, p, u1, u2, u3, u4, u5⟩, q10, qC, qM⟩ := R3
          refine ⟨(c3, upI m3 0 19 (Int32.ofNat (i + 1))), ⟨⟨⟨zTpe_tr rfl rfl (hmw 3 (by omega)) (upI_ne' (by omega)) t1, zRes_tr rfl rfl t2, ⟨t3.1, by rw [hmw 5 (by omega)]; exact t3.2.1, t3.2.2⟩, by rw [hmw 12 (by omega)]; exact t4, p, u1, by omega, u3, by rw [hmw 4 (by omega)]; exact u4, zKd_tr rfl rfl (hmw 11 (by omega)) (hmw 14 (by omega)) rfl (zKd_mono (fun h => by omega) u5)⟩, ⟨q10.1, by rw [hmw 15 (by omega)]; exact q10.2⟩, qC, zXM_19 qM⟩, ⟨B, O, S, W, H, s, t, zHd_M (upI_ne' (by omega)) rfl D3, F3.1, F3.2.1, by rw [upI_nj (by omega)]; exact F3.2.2.1, by rw [upI_nj (by omega)]; exact F3.2.2.2⟩⟩, ?_⟩
          have x1' : Tokens_skipSign c2 59 = some (1, c3) := x1
          have x2' : M_sign m2 59 = some (1, m3) := x2
          rw [hc, e1, Option.bind_some, M_house_b40, if_neg c, e2, Option.bind_some]
          dsimp only
          unfold HouseReader_readAll_b150
          rw [if_neg (show ¬ (1 : Int32) = 0 by decide), if_neg (show ¬ (1 : Int32) = 0 by decide), x1', x2', Option.bind_some, Option.bind_some]
          dsimp only
          rw [if_neg (show ¬ (1 : Int32) = 0 by decide), if_neg (show ¬ (1 : Int32) = 0 by decide), nm_eq, k3, z_s]
        · left; right
          have x1' : Tokens_skipSign c2 59 = some (0, c3) := x1
          have x2' : M_sign m2 59 = some (0, m3) := x2
          refine ⟨_, c3, m3, ?_, ?_, Bd⟩
          · rw [hc, e1, Option.bind_some]
            unfold HouseReader_readAll_b150
            rw [if_neg (show ¬ (1 : Int32) = 0 by decide), x1', Option.bind_some, if_pos rfl]
          · rw [M_house_b40, if_neg c, e2, Option.bind_some, if_neg (show ¬ (1 : Int32) = 0 by decide), x2', Option.bind_some, if_pos rfl]
      · left; right
        refine ⟨_, c2, m2, ?_, ?_, Bd⟩
        · rw [hc, e1, Option.bind_some]
          unfold HouseReader_readAll_b150
          rw [if_pos rfl]
        · rw [M_house_b40, if_neg c, e2, Option.bind_some, if_pos rfl]
  · obtain ⟨⟨⟨t1, t2, t3, t4, p, u1, u2, u3, u4, u5⟩, k⟩, _⟩ := hI
    have := t1.1
    omega
end ZHA
