/-! Layer 2. Names: letters of five bits, of eight -/
theorem z_shrN {N s : Nat} (hN : N < 4611686018427387904) (hs : s < 64) {y : Int32} (hy : ((y.toInt64 &&& 63).toBitVec.smod 64) = BitVec.ofNat 64 s) : l_shr (Int64.ofNat N) y = Int64.ofNat (N / 2 ^ s) := by
  apply Int64.toBitVec_inj.mp
  unfold l_shr
  rw [Int64.toBitVec_shiftRight, hy, BitVec.sshiftRight_eq']
  have e : (Int64.ofNat N).toBitVec = BitVec.ofNat 64 N := rfl
  have e2 : (Int64.ofNat (N / 2 ^ s)).toBitVec = BitVec.ofNat 64 (N / 2 ^ s) := rfl
  rw [e, e2]
  have e3 : (BitVec.ofNat 64 s).toNat = s := by rw [BitVec.toNat_ofNat]; exact Nat.mod_eq_of_lt (by omega)
  rw [e3]
  have en : (BitVec.ofNat 64 N).toNat = N := by rw [BitVec.toNat_ofNat]; exact Nat.mod_eq_of_lt (by omega)
  have hm : (BitVec.ofNat 64 N).msb = false := by
    rw [BitVec.msb_eq_decide, en]
    exact decide_eq_false (by omega)
  apply BitVec.eq_of_toNat_eq
  rw [BitVec.toNat_sshiftRight_of_msb_false hm, en, Nat.shiftRight_eq_div_pow, BitVec.toNat_ofNat]
  exact (Nat.mod_eq_of_lt (Nat.lt_of_le_of_lt (Nat.div_le_self _ _) (by omega))).symm
theorem z_land255 (M : Nat) : Int64.ofNat M &&& 255 = Int64.ofNat (M % 256) := by
  apply Int64.toBitVec_inj.mp
  apply BitVec.eq_of_toNat_eq
  rw [Int64.toBitVec_and, BitVec.toNat_and]
  have e : ∀ k : Nat, (Int64.ofNat k).toBitVec.toNat = k % 18446744073709551616 := fun k => rfl
  rw [e, e, show (255 : Int64).toBitVec.toNat = 2 ^ 8 - 1 by rfl, Nat.and_two_pow_sub_one_eq_mod]
  omega
theorem z_li (M : Nat) : l_i (Int64.ofNat M) = Int32.ofNat M := by
  apply Int32.toBitVec_inj.mp
  unfold l_i
  rw [Int64.toBitVec_toInt32, BitVec.signExtend_eq_setWidth_of_le _ (by omega)]
  apply BitVec.eq_of_toNat_eq
  rw [BitVec.toNat_setWidth]
  have e : (Int64.ofNat M).toBitVec.toNat = M % 18446744073709551616 := rfl
  have e2 : (Int32.ofNat M).toBitVec.toNat = M % 4294967296 := rfl
  rw [e, e2]
  omega
theorem z_and31 (M : Nat) : Int32.ofNat M &&& 31 = Int32.ofNat (M % 32) := by
  apply Int32.toBitVec_inj.mp
  apply BitVec.eq_of_toNat_eq
  rw [Int32.toBitVec_and, BitVec.toNat_and]
  have e : ∀ k : Nat, (Int32.ofNat k).toBitVec.toNat = k % 4294967296 := fun k => rfl
  rw [e, e, show (31 : Int32).toBitVec.toNat = 2 ^ 5 - 1 by rfl, Nat.and_two_pow_sub_one_eq_mod]
  omega
theorem z_d5 {N k : Nat} (hN : N < 34359738368) (hk : k < 7) : l_i (l_shr (Int64.ofNat N) (Int32.ofNat (5 * k))) &&& 31 = Int32.ofNat (N / 2 ^ (5 * k) % 32) := by
  have hy : ∀ k, k < 7 → (((Int32.ofNat (5 * k)).toInt64 &&& 63).toBitVec.smod 64) = BitVec.ofNat 64 (5 * k) := by decide +kernel
  rw [z_shrN (by omega) (by omega) (hy k hk), z_li, z_and31]
theorem z_d8 {N k : Nat} (hN : N < 72057594037927936) (hk : k < 8) : l_shr (Int64.ofNat N) (Int32.ofNat (8 * k)) &&& 255 = Int64.ofNat (N / 2 ^ (8 * k) % 256) := by
  have hy : ∀ k, k < 8 → (((Int32.ofNat (8 * k)).toInt64 &&& 63).toBitVec.smod 64) = BitVec.ofNat 64 (8 * k) := by decide +kernel
  rw [z_shrN (by omega) (by omega) (hy k hk), z_land255]
theorem z_cmp0 {M : Nat} (hM : M < 256) : (lg_cmp (Int64.ofNat M) 0 = 0) ↔ M = 0 := by
  have : ∀ M, M < 256 → ((lg_cmp (Int64.ofNat M) 0 = 0) ↔ M = 0) := by decide +kernel
  exact this M hM
/-- what is written, both ways -/
def zWn (n : Nat) (mC mM : xMem) : Prop := n ≤ 32 ∧ mC.1 180 1 = Int32.ofNat n ∧ mM.1 0 43 = Int32.ofNat n ∧ ∀ j, j < n → mC.1 181 j = mM.1 17 j
def zWF2 (mC mC' mM mM' : xMem) : Prop := (∀ c, c ≠ 180 → c ≠ 181 → mC'.1 c = mC.1 c) ∧ mC'.2 = mC.2 ∧ (∀ c, c ≠ 0 → c ≠ 17 → mM'.1 c = mM.1 c) ∧ (∀ j, j ≠ 43 → mM'.1 0 j = mM.1 0 j) ∧ mM'.2 = mM.2
section ZWN
variable {m m' mC mC' mM mM' C0 M0 : xMem} {σ τ : zR} {n : Nat}
/-- one more byte, both ways -/
theorem zW_one {v : Int32} {q : Nat} (hv : v = Int32.ofNat q) (hq : q < 128) (hn : n < 32) (hF : zWF2 C0 mC M0 mM) (H : zWn n mC mM) : ∃ mC' mM', Tape_add mC 180 v = some mC' ∧ M_lays mM v = some mM' ∧ zWn (n + 1) mC' mM' ∧ zWF2 C0 mC' M0 mM' := by
  obtain ⟨a1, a2, a3, a4⟩ := H
  obtain ⟨f1, f2, f3, f4, f5⟩ := hF
  subst hv
  have hand : Int32.ofNat q &&& 255 = Int32.ofNat q := by
    have : ∀ q, q < 128 → Int32.ofNat q &&& 255 = Int32.ofNat q := by decide +kernel
    exact this q hq
  have hnar : vp_nar .byte (i_b (Int32.ofNat q)) = Int32.ofNat q := by
    rw [z_narb]
    have : ∀ q, q < 128 → i_b (i_b (Int32.ofNat q)) = Int32.ofNat q := by decide +kernel
    exact this q hq
  unfold Tape_add M_lays
  have hl : tapeLen 180 = 32 := rfl
  rw [hl, a2, if_pos (show Int32.ofNat n < nI 32 from (z_lt (b := 32) (by omega) (by omega)).mpr hn), z_ix hn (by omega), Option.bind_some, nm_eq, nm_eq, upI_ne' (show (180 : Nat) ≠ 180 + 1 by omega), a2, z_s, hand, a3, z_ix (show n < 48 by omega) (by omega), Option.bind_some, nm_eq, nm_eq, upI_ne' (show (0 : Nat) ≠ 17 by omega), a3, z_s, hnar]
  refine ⟨_, _, rfl, rfl, ⟨by omega, upI_at, upI_at, fun j hj => ?_⟩, fun c h1 h2 => ?_, f2, fun c h1 h2 => ?_, fun j hj => ?_, f5⟩
  · rw [upI_ne' (show (181 : Nat) ≠ 180 by omega), upI_ne' (show (17 : Nat) ≠ 0 by omega)]
    by_cases h : j = n
    · subst h
      rw [show (upI mC (180 + 1) j (Int32.ofNat q)).1 181 j = Int32.ofNat q from upI_at, upI_at]
    · rw [show (upI mC (180 + 1) n (Int32.ofNat q)).1 181 j = mC.1 181 j from upI_nj h, upI_nj h]
      exact a4 j (by omega)
  · rw [upI_ne' h1, upI_ne' (show c ≠ 180 + 1 from h2)]; exact f1 c h1 h2
  · rw [upI_ne' h1, upI_ne' h2]; exact f3 c h1 h2
  · rw [upI_nj hj, upI_ne' (by omega)]; exact f4 j hj
/-- a letter out of five bits, as the class adds it -/
theorem zC_nm1 {N k f : Nat} {v3 : Int32} (hN : N < 34359738368) (hk : k < 7) (hv : v3 = Int32.ofNat (5 * k)) (h0 : N / 2 ^ (5 * k) % 32 = 0) : Tape_addName_b3 180 (Int64.ofNat N) (f + 1) v3 m = Tape_addName_b3 180 (Int64.ofNat N) f (v3 + (-5)) m := by
  subst hv
  rw [Tape_addName_b3, if_neg (z_nn (by omega)), nm_eq, z_d5 hN hk, h0, if_pos (show Int32.ofNat 0 = 0 from rfl)]
theorem zC_nm2 {N k f x : Nat} {v3 : Int32} (hN : N < 34359738368) (hk : k < 7) (hv : v3 = Int32.ofNat (5 * k)) (h0 : N / 2 ^ (5 * k) % 32 = x) (hx : 1 ≤ x) (hx2 : x ≤ 26) (h : Tape_add m 180 (Int32.ofNat (96 + x)) = some m') : Tape_addName_b3 180 (Int64.ofNat N) (f + 1) v3 m = Tape_addName_b3 180 (Int64.ofNat N) f (v3 + (-5)) m' := by
  subst hv
  have e : (97 + Int32.ofNat x - 1 : Int32) = Int32.ofNat (96 + x) := by
    have : ∀ x, x < 27 → (97 + Int32.ofNat x - 1 : Int32) = Int32.ofNat (96 + x) := by decide +kernel
    exact this x (by omega)
  rw [Tape_addName_b3, if_neg (z_nn (by omega)), nm_eq, z_d5 hN hk, h0, if_neg (fun q => by have := (z_eq (b := 0) (by omega) (by omega)).mp q; omega), e, h, Option.bind_some]
theorem zM_nm1 {N k f : Nat} {v3 : Int32} (hN : N < 72057594037927936) (hk : k < 8) (hv : v3 = Int32.ofNat (8 * k)) (h0 : N / 2 ^ (8 * k) % 256 = 0) : M_spells_b3 (Int64.ofNat N) (f + 1) v3 m = M_spells_b3 (Int64.ofNat N) f (v3 + (-8)) m := by
  subst hv
  rw [M_spells_b3, if_neg (z_nn (by omega)), z_d8 hN hk, h0, if_pos ((z_cmp0 (by omega)).mpr rfl)]
theorem zM_nm2 {N k f x : Nat} {v3 : Int32} (hN : N < 72057594037927936) (hk : k < 8) (hv : v3 = Int32.ofNat (8 * k)) (h0 : N / 2 ^ (8 * k) % 256 = x) (hx : 1 ≤ x) (h : M_lays m (Int32.ofNat x) = some m') : M_spells_b3 (Int64.ofNat N) (f + 1) v3 m = M_spells_b3 (Int64.ofNat N) f (v3 + (-8)) m' := by
  subst hv
  have hx2 : x < 256 := by omega
  rw [M_spells_b3, if_neg (z_nn (by omega)), z_d8 hN hk, h0, if_neg (fun q => by have := (z_cmp0 hx2).mp q; omega), z_li, h, Option.bind_some]
end ZWN
