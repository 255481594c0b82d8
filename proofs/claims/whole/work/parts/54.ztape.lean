/-! Layer 2. The tape -/
theorem tb_255 {k : Nat} : tb 255 k = decide (k < 8) := by
  by_cases h : k < 32
  · have : ∀ k, k < 32 → tb 255 k = decide (k < 8) := by decide +kernel
    exact this k h
  · rw [tb_hi (by omega)]
    simp
    omega
theorem tb_shrk {x : Int32} {j k : Nat} (h : j < 32) (hk : k + j < 32) : tb (i_shr x (Int32.ofNat j)) k = tb x (k + j) := by
  unfold tb i_shr
  rw [z_sh j h, Int32.toBitVec_shiftRight]
  have h2 : ((Int32.ofNat j).toBitVec.smod 32) = BitVec.ofNat 32 j := by
    have : ∀ j, j < 32 → ((Int32.ofNat j).toBitVec.smod 32) = BitVec.ofNat 32 j := by decide +kernel
    exact this j h
  rw [h2, BitVec.sshiftRight_eq', BitVec.getLsbD_sshiftRight]
  have h3 : (BitVec.ofNat 32 j).toNat = j := by simp; omega
  have h4 : ¬ 32 ≤ k := by omega
  rw [h3, if_pos (by omega), Nat.add_comm j k]
  simp [h4]
theorem tb_ushr {x : Int32} {j k : Nat} (h : j < 32) : tb (i_ushr x (Int32.ofNat j)) k = tb x (k + j) := by
  unfold tb i_ushr
  have h2 : ((Int32.ofNat j).toUInt32 &&& Int32.toUInt32 31) = UInt32.ofNat j := by
    have : ∀ j, j < 32 → ((Int32.ofNat j).toUInt32 &&& Int32.toUInt32 31) = UInt32.ofNat j := by decide +kernel
    exact this j h
  rw [h2]
  show (x.toUInt32 >>> UInt32.ofNat j).toBitVec.getLsbD k = x.toBitVec.getLsbD (k + j)
  rw [UInt32.toBitVec_shiftRight]
  have h3 : ((UInt32.ofNat j).toBitVec % 32).toNat = j := by
    have : ∀ j, j < 32 → ((UInt32.ofNat j).toBitVec % 32).toNat = j := by decide +kernel
    exact this j h
  rw [BitVec.ushiftRight_eq', h3, BitVec.getLsbD_ushiftRight, Nat.add_comm]
  rfl
theorem tb_b {x : Int32} {k : Nat} (h : k < 8) : tb (i_b x) k = tb x k := by
  unfold tb i_b
  rw [Int8.toBitVec_toInt32, Int32.toBitVec_toInt8, BitVec.getLsbD_signExtend, BitVec.getLsbD_signExtend]
  have h2 : k < 32 := by omega
  simp [h, h2]
theorem z_narb (x : Int32) : vp_nar .byte x = i_b x := rfl
theorem z_byte {p : Int32} {j : Nat} (hj : j + 8 ≤ 32) : i_ushr p (Int32.ofNat j) &&& 255 = (vp_nar .byte (i_b (i_shr p (Int32.ofNat j)))) &&& 255 := by
  apply tb_ext
  intro k hk
  rw [tb_and, tb_and, tb_255, z_narb]
  by_cases h : k < 8
  · rw [tb_ushr (by omega), tb_b h, tb_b h, tb_shrk (by omega) (by omega)]
  · simp [h]
theorem z_and255 (x : Int32) : zr (x &&& 255) 0 255 := by
  have h : (x &&& 255).toBitVec.toNat ≤ 255 := by
    rw [Int32.toBitVec_and, BitVec.toNat_and]
    exact Nat.and_le_right
  have h2 : (x &&& 255).toInt = ((x &&& 255).toBitVec.toNat : Int) := by
    show (x &&& 255).toBitVec.toInt = _
    rw [BitVec.toInt_eq_toNat_cond, if_pos (by omega)]
  unfold zr
  rw [h2]
  omega
section ZTP
variable {m m' mC mC' mM mM' : xMem} {σ τ : zR}
/-- the relation behind a call that leaves house, state, sentence, names, images as they are -/
theorem zRel_mk (c1 : ∀ c, (5 ≤ c ∧ c < 42) ∨ (123 ≤ c ∧ c < 165) ∨ (184 ≤ c ∧ c < 260) → mC'.1 c = mC.1 c) (c2 : ∀ c, c = 4 ∨ c = 7 ∨ c = 8 ∨ c = 9 ∨ (184 ≤ c ∧ c < 260) → mC'.2 c = mC.2 c) (m1 : ∀ c, c = 2 ∨ c = 7 ∨ c = 21 ∨ c = 23 → mM'.1 c = mM.1 c) (m0 : mM'.1 0 24 = mM.1 0 24) (m2 : ∀ c, c = 5 ∨ c = 6 ∨ c = 22 → mM'.2 c = mM.2 c) (tp : zTp mC' mM') (fa : zFa mC' mM') (ls : zLs mC' 165 4 166 mM' 27 9 81) (sp : zSpN mC' mM') (be : zLs mC' 170 3 179 mM' 35 13 6) (cd : zLs mC' 0 14 182 mM' 37 14 8) (ke : zKe mC' mM') (du : zDu mC' mM') (to : zTo mC' mM') (wr : zWr mC' mM') (H : zRel mC mM) : zRel mC' mM' := by
  obtain ⟨r1, r2, r3, r4, r5, r6, r7, r8, r9, r10, r11, r12, r13, r14, r15, r16⟩ := H
  have e2 : mM'.1 2 = mM.1 2 := m1 2 (by omega)
  unfold zRel
  rw [e2]
  exact ⟨r1, zIm_tr r1.1 (fun d h1 h2 => c1 d (by omega)) r2, zNms_tr (fun d h1 h2 => c2 d (by omega)) (m2 5 (by omega)) (fun _ _ => rfl) r3, zUn_tr r1.1 (fun d h1 h2 => c1 d (by omega)) (m1 7 (by omega)) m0 (fun _ _ => rfl) r4, fun k hk => zImg_tr hk (fun d h1 h2 => c1 d (by omega)) (fun d h1 h2 => c2 d (by omega)) (m1 21 (by omega)) (m1 23 (by omega)) (m2 22 (by omega)) (r5 k hk), tp, zRes_tr (c2 4 (by omega)) (m2 6 (by omega)) r7, fa, ls, sp, be, cd, ke, du, to, wr⟩
/-- all but the tape is as it was -/
def zTF (mC mC' mM mM' : xMem) : Prop := (∀ c, c ≠ 1 → c ≠ 2 → mC'.1 c = mC.1 c) ∧ mC'.2 = mC.2 ∧ (∀ c, c ≠ 0 → c ≠ 1 → mM'.1 c = mM.1 c) ∧ (∀ j, j ≠ 2 → mM'.1 0 j = mM.1 0 j) ∧ mM'.2 = mM.2
theorem zTF_rf : zTF m m m' m' := ⟨fun _ _ _ => rfl, rfl, fun _ _ _ => rfl, fun _ _ => rfl, rfl⟩
theorem zRel_tp (hF : zTF mC mC' mM mM') (tp : zTp mC' mM') (H : zRel mC mM) : zRel mC' mM' := by
  obtain ⟨r1, r2, r3, r4, r5, r6, r7, r8, r9, r10, r11, r12, r13, r14, r15, r16⟩ := id H
  obtain ⟨f1, f2, f3, f4, f5⟩ := hF
  refine zRel_mk (fun c hc => f1 c (by omega) (by omega)) (fun c hc => by rw [f2]) (fun c hc => f3 c (by omega) (by omega)) (f4 24 (by omega)) (fun c hc => by rw [f5]) tp ?_ (zLs_tr (by rw [f1 165 (by omega) (by omega)]) (f1 166 (by omega) (by omega)) (f4 27 (by omega)) (f3 9 (by omega) (by omega)) r9) ?_ (zLs_tr (by rw [f1 170 (by omega) (by omega)]) (f1 179 (by omega) (by omega)) (f4 35 (by omega)) (f3 13 (by omega) (by omega)) r11) (zLs_tr (by rw [f1 0 (by omega) (by omega)]) (f1 182 (by omega) (by omega)) (f4 37 (by omega)) (f3 14 (by omega) (by omega)) r12) ?_ ?_ (zTo_tr (f1 76 (by omega) (by omega)) (f4 47 (by omega)) (f3 18 (by omega) (by omega)) r15) (zWr_tr (by rw [f1 180 (by omega) (by omega)]) (f1 181 (by omega) (by omega)) (f4 43 (by omega)) (f3 17 (by omega) (by omega)) r16) H
  · unfold zFa; rw [f1 0 (by omega) (by omega), f4 15 (by omega)]; exact r8
  · unfold zSpN; rw [f1 165 (by omega) (by omega), f4 28 (by omega)]; exact r10
  · unfold zKe; rw [f1 0 (by omega) (by omega), f4 29 (by omega), f4 30 (by omega), f4 31 (by omega)]; exact r13
  · unfold zDu; rw [f1 0 (by omega) (by omega), f4 40 (by omega), f4 41 (by omega)]; exact r14
def zTn (n : Nat) (mC mM : xMem) : Prop := n ≤ 940 ∧ mC.1 1 1 = Int32.ofNat n ∧ mM.1 0 2 = Int32.ofNat n ∧ ∀ j, j < n → mC.1 2 j = (mM.1 1 j) &&& 255 ∧ zr (mC.1 2 j) 0 255
theorem zT_byte {n j : Nat} {p : Int32} (hn : n < 940) (hj : j + 8 ≤ 32) {mC0 mM0 : xMem} (hF : zTF mC0 mC mM0 mM) (H : zTn n mC mM) : ∃ mC', Tape_add mC 1 (i_ushr p (Int32.ofNat j)) = some mC' ∧ zTn (n + 1) mC' (upI (upI mM 1 n (vp_nar .byte (i_b (i_shr p (Int32.ofNat j))))) 0 2 (Int32.ofNat (n + 1))) ∧ zTF mC0 mC' mM0 (upI (upI mM 1 n (vp_nar .byte (i_b (i_shr p (Int32.ofNat j))))) 0 2 (Int32.ofNat (n + 1))) := by
  obtain ⟨a1, a2, a3, a4⟩ := H
  obtain ⟨f1, f2, f3, f4, f5⟩ := hF
  unfold Tape_add
  have hl : tapeLen 1 = 940 := rfl
  rw [hl, a2, if_pos (show Int32.ofNat n < nI 940 from (z_lt (b := 940) (by omega) (by omega)).mpr hn), z_ix hn (by omega), Option.bind_some, nm_eq, nm_eq, upI_ne' (by omega), a2, z_s]
  refine ⟨_, rfl, ⟨by omega, upI_at, upI_at, fun i hi => ?_⟩, fun c h1 h2 => ?_, f2, fun c h1 h2 => ?_, fun i hi => ?_, f5⟩
  · rw [upI_ne' (show (2 : Nat) ≠ 1 by omega), upI_ne' (show (1 : Nat) ≠ 0 by omega)]
    by_cases h : i = n
    · subst h
      rw [upI_at, upI_at]
      exact ⟨z_byte hj, z_and255 _⟩
    · rw [upI_nj h, upI_nj h]
      exact a4 i (by omega)
  · rw [upI_ne' h1, upI_ne' h2]; exact f1 c h1 h2
  · rw [upI_ne' h1, upI_ne' h2]; exact f3 c h1 h2
  · rw [upI_nj hi, upI_ne' (by omega)]; exact f4 i hi
theorem zM_four1 {n j f : Nat} {p v : Int32} (hv : v = Int32.ofNat j) (hn : n < 940) (hj : j + 8 ≤ 32) (h : mM.1 0 2 = Int32.ofNat n) : M_four_b3 p (f + 1) v mM = M_four_b3 p f (v + (-8)) (upI (upI mM 1 n (vp_nar .byte (i_b (i_shr p (Int32.ofNat j))))) 0 2 (Int32.ofNat (n + 1))) := by
  subst hv
  rw [M_four_b3, if_neg (z_nn (by omega)), h, z_ix hn (by omega), Option.bind_some, nm_eq, nm_eq, upI_ne' (by omega), h, z_s]
theorem zC_four1 {j f : Nat} {p v : Int32} (hv : v = Int32.ofNat j) (hj : j + 8 ≤ 32) (h : Tape_add mC 1 (i_ushr p (Int32.ofNat j)) = some mC') : Tape_addFour_b3 1 p (f + 1) v mC = Tape_addFour_b3 1 p f (v + (-8)) mC' := by
  subst hv
  rw [Tape_addFour_b3, if_neg (z_nn (by omega)), h, Option.bind_some]
theorem zT_four {n : Nat} {p : Int32} (hn : n + 4 ≤ 940) {mC0 mM0 : xMem} (hF : zTF mC0 mC mM0 mM) (H : zTn n mC mM) : ∃ mC' mM', Tape_addFour mC 1 p = some mC' ∧ M_four mM p = some mM' ∧ zTn (n + 4) mC' mM' ∧ zTF mC0 mC' mM0 mM' := by
  obtain ⟨a1, e1, b1, d1⟩ := zT_byte (p := p) (j := 24) (by omega) (by omega) hF H
  obtain ⟨a2, e2, b2, d2⟩ := zT_byte (p := p) (j := 16) (by omega) (by omega) d1 b1
  obtain ⟨a3, e3, b3, d3⟩ := zT_byte (p := p) (j := 8) (by omega) (by omega) d2 b2
  obtain ⟨a4, e4, b4, d4⟩ := zT_byte (p := p) (j := 0) (by omega) (by omega) d3 b3
  refine ⟨a4, _, ?_, ?_, b4, d4⟩
  · show Tape_addFour_b3 1 p (995 + 1 + 1 + 1 + 1 + 1) 24 mC = _
    rw [zC_four1 (v := 24) (j := 24) rfl (by omega) e1, zC_four1 (v := 24 + (-8)) (j := 16) (by decide) (by omega) e2, zC_four1 (v := 24 + (-8) + (-8)) (j := 8) (by decide) (by omega) e3, zC_four1 (v := 24 + (-8) + (-8) + (-8)) (j := 0) (by decide) (by omega) e4, Tape_addFour_b3, if_pos (by decide)]
  · show M_four_b3 p (995 + 1 + 1 + 1 + 1 + 1) 24 mM = _
    rw [zM_four1 (v := 24) (j := 24) rfl (by omega) (by omega) H.2.2.1, zM_four1 (v := 24 + (-8)) (j := 16) (by decide) (by omega) (by omega) b1.2.2.1, zM_four1 (v := 24 + (-8) + (-8)) (j := 8) (by decide) (by omega) (by omega) b2.2.2.1, zM_four1 (v := 24 + (-8) + (-8) + (-8)) (j := 0) (by decide) (by omega) (by omega) b3.2.2.1, M_four_b3, if_pos (by decide)]
end ZTP
theorem zP_feed : lS_feed zRel := by
  intro mC mM p0 p1 p2 p3 p4 hR
  have hR1 := zRel_thr hR 0
  unfold M_feed O_feed
  rw [nm_eq]
  generalize upI mM 0 0 0 = m1 at hR1 ⊢
  obtain ⟨n, h1, h2, h3, h4⟩ := hR1.2.2.2.2.2.1
  rw [h2, h3, show (Int32.ofNat n + 20 : Int32) = Int32.ofNat (n + 20) from z_add n 20]
  by_cases h : 940 < n + 20
  · rw [if_pos (show (940 : Int32) < Int32.ofNat (n + 20) from (z_lt (a := 940) (by omega) (by omega)).mpr h), if_pos (show (940 : Int32) < Int32.ofNat (n + 20) from (z_lt (a := 940) (by omega) (by omega)).mpr h)]
    exact ⟨-1, mC, m1, rfl, rfl, hR1⟩
  · have hh : ¬ (940 : Int32) < Int32.ofNat (n + 20) := fun e => h ((z_lt (a := 940) (by omega) (by omega)).mp e)
    rw [if_neg hh, if_neg hh]
    obtain ⟨a1, b1, e1, g1, t1, f1⟩ := zT_four (p := p0) (n := n) (by omega) (zTF_rf (m := mC) (m' := m1)) ⟨h1, h2, h3, h4⟩
    obtain ⟨a2, b2, e2, g2, t2, f2⟩ := zT_four (p := p1) (by omega) f1 t1
    obtain ⟨a3, b3, e3, g3, t3, f3⟩ := zT_four (p := p2) (by omega) f2 t2
    obtain ⟨a4, b4, e4, g4, t4, f4⟩ := zT_four (p := p3) (by omega) f3 t3
    obtain ⟨a5, b5, e5, g5, t5, f5⟩ := zT_four (p := p4) (by omega) f4 t4
    rw [e1, g1, Option.bind_some, Option.bind_some, e2, g2, Option.bind_some, Option.bind_some, e3, g3, Option.bind_some, Option.bind_some, e4, g4, Option.bind_some, Option.bind_some, e5, g5, Option.bind_some, Option.bind_some, t5.2.1, t5.2.2.1]
    exact ⟨_, a5, b5, rfl, rfl, zRel_tp f5 ⟨_, t5⟩ hR1⟩
theorem zP_end : lS_end zRel := by
  intro mC mM x hR
  have hR1 := zRel_thr hR 0
  unfold M_end
  rw [nm_eq]
  generalize upI mM 0 0 0 = m1 at hR1 ⊢
  unfold O_end
  obtain ⟨n, h1, h2, h3, h4⟩ := hR1.2.2.2.2.2.1
  rw [h2, h3]
  by_cases hx : x < 0
  · rw [if_pos hx, if_pos hx]
    exact ⟨0, mC, m1, rfl, rfl, hR1⟩
  · by_cases hy : Int32.ofNat n < x
    · rw [if_neg hx, if_neg hx, if_pos hy, if_pos hy]
      exact ⟨0, mC, m1, rfl, rfl, hR1⟩
    · rw [if_neg hx, if_neg hx, if_neg hy, if_neg hy, nm_eq, nm_eq]
      have h0 : (0 : Int32).toInt = 0 := by decide
      rw [Int32.lt_iff_toInt_lt, h0] at hx
      rw [Int32.lt_iff_toInt_lt, z_toInt (by omega)] at hy
      have ex := z_of (x := x) (by omega)
      have hc : x.toNatClampNeg = x.toInt.toNat := rfl
      refine ⟨1, _, _, rfl, rfl, zRel_tp ⟨fun c c1 c2 => upI_ne' c1, rfl, fun c c1 c2 => upI_ne' c1, fun j hj => upI_nj hj, rfl⟩ ⟨x.toNatClampNeg, by omega, by rw [upI_at]; exact ex, by rw [upI_at]; exact ex, fun j hj => ?_⟩ hR1⟩
      rw [upI_ne' (by omega), upI_ne' (by omega)]
      exact h4 j (by omega)
