/-! Layer 2. book: lived, the call -/
section ZBE
variable {m m' mC mC' mM mM' cB mB : xMem} {n p lim q i o b l N : Nat} {p0 p2 p3 : Int32} {τ σ : zR}
theorem zBk_σ (h0 : τ 0 = σ 0) (h1 : τ 1 = σ 1) (h2 : τ 2 = σ 2) (K : zBk σ mC mM i) : zBk τ mC mM i := by
  unfold zBk
  rw [zB_tr h0, zO_tr h1, zC_tr h2]
  exact K
/-- what a book's life leaves -/
def zLvd (cB mB : xMem) (w a : Nat) (mC' mM' : xMem) : Prop := w ≤ 41 ∧ a ≤ 40 ∧ zTrl mC' (mM'.1 2) ∧ zWs (mM'.1 2) ∧ (∀ j, j < 97 ∨ 121 ≤ j → mM'.1 2 j = mB.1 2 j) ∧ (∀ c, (c < 118 ∧ c ≠ 76) ∨ 123 ≤ c → mC'.1 c = cB.1 c) ∧ mC'.2 = cB.2 ∧ (∀ j, j ≠ 3 → j ≠ 4 → mC'.1 76 j = cB.1 76 j) ∧ mC'.1 76 3 = Int32.ofNat w ∧ mC'.1 76 4 = Int32.ofNat a ∧ (∀ c, c ≠ 2 → c ≠ 18 → mM'.1 c = mB.1 c) ∧ mM'.2 = mB.2 ∧ mM'.1 18 0 = Int32.ofNat w ∧ mM'.1 18 1 = Int32.ofNat a ∧ (a = 0 → mM'.1 2 = mB.1 2)
theorem zLv_all (T : zTrl cB (mB.1 2)) (hc : zCt (mB.1 2)) (w3 : zr (mB.1 2 3) 2 9) (w4 : zr (mB.1 2 4) 2 9) (hw : zWs (mB.1 2)) (hN : N ≤ 40) (c1 : cB.1 76 1 = Int32.ofNat N) (m45 : mB.1 0 45 = Int32.ofNat N) (rows : ∀ k, k < N → zBk (mB.1 2) cB mB k) (c3 : cB.1 76 3 = 0) (c4 : cB.1 76 4 = 0) (m0 : mB.1 18 0 = 0) (m1 : mB.1 18 1 = 0) : ∃ w a mC' mM', Book_live_b12 6 118 1000 0 cB = Book_live_b65 6 118 mC' ∧ M_book_b111 p0 1000 (-1) 0 mB = M_book_b201 p0 (if w = 0 then -1 else Int32.ofNat a) mM' ∧ zLvd cB mB w a mC' mM' := by
  refine z_loopX (fun f i (s : xMem × xMem) => (Book_live_b12 6 118 (f + 1) (Int32.ofNat i) s.1, M_book_b111 p0 (f + 1) (-1) (Int32.ofNat i) s.2)) N (fun i s => zLvd cB mB 0 i s.1 s.2) (fun r => ∃ w a mC' mM', r.1 = Book_live_b65 6 118 mC' ∧ r.2 = M_book_b201 p0 (if w = 0 then -1 else Int32.ofNat a) mM' ∧ zLvd cB mB w a mC' mM') (fun f i s hi hI => ?_) (fun f s hI => ?_) N 0 999 (cB, mB) (by omega) (by omega) ⟨by omega, by omega, T, hw, fun _ _ => rfl, fun _ _ => rfl, rfl, fun _ _ _ => rfl, c3, c4, fun _ _ _ => rfl, rfl, m0, m1, fun _ => rfl⟩
  · obtain ⟨a, m⟩ := s
    dsimp only at hI ⊢
    obtain ⟨_, _, T1, hw1, hj, hcc, hcL, h76, k3, k4, hm, hmL, m0', m1', hz⟩ := hI
    have e2 : ∀ j, j < 97 → m.1 2 j = mB.1 2 j := fun j h => hj j (by omega)
    have hc1 : zCt (m.1 2) := zCt_tr e2 hc
    have K : zBk (m.1 2) a m i := zBk_σ (e2 0 (by omega)) (e2 1 (by omega)) (e2 2 (by omega)) (zBk_tr (hcc (78 + i) (by omega)) (fun j _ _ => by rw [hm 4 (by omega) (by omega)]) (rows i hi))
    obtain ⟨w, mC', mM', x1, x2, ⟨y1, y2, y3, y4, y5, y6, y7, y8, y9⟩⟩ := zDo_line T1 hc1 (by rw [e2 3 (by omega)]; exact w3) (by rw [e2 4 (by omega)]; exact w4) hw1 (by omega) K
    have eC : Book_live_b12 6 118 (f + 1 + 1) (Int32.ofNat i) a = (if (upI mC' 76 3 (Int32.ofNat w)).1 76 3 = 0 then Book_live_b12 6 118 (f + 1) (Int32.ofNat (i + 1)) (upI (upI mC' 76 3 (Int32.ofNat w)) 76 4 ((upI mC' 76 3 (Int32.ofNat w)).1 76 4 + 1)) else Book_live_b12 6 118 (f + 1) (Int32.ofNat (i + 1)) (upI mC' 76 3 (Int32.ofNat w))) := by
      rw [Book_live_b12, h76 1 (by omega) (by omega), c1, if_pos ((z_lt (by omega) (by omega)).mpr hi), k3, if_pos (show Int32.ofNat 0 = 0 from rfl), z_ix (show i < 40 by omega) (by omega), Option.bind_some, x1, Option.bind_some, nm_eq, nm_eq, z_s]
    have eM : M_book_b111 p0 (f + 1 + 1) (-1) (Int32.ofNat i) m = (if 0 < (upI mM' 18 0 (Int32.ofNat w)).1 18 0 then M_book_b111 p0 (f + 1) (Int32.ofNat i) (Int32.ofNat (i + 1)) (upI mM' 18 0 (Int32.ofNat w)) else M_book_b111 p0 (f + 1) (-1) (Int32.ofNat (i + 1)) (upI (upI mM' 18 0 (Int32.ofNat w)) 18 1 ((upI mM' 18 0 (Int32.ofNat w)).1 18 1 + 1))) := by
      rw [M_book_b111, hm 0 (by omega) (by omega), m45, if_pos ((z_lt (by omega) (by omega)).mpr hi), if_pos (show (-1 : Int32) < 0 by decide), show (4 * Int32.ofNat i : Int32) = Int32.ofNat (4 * i) from z_mul 4 i, z_ix (show 4 * i < 160 by omega) (by omega), Option.bind_some, z_s, z_ix (show 4 * i + 1 < 160 by omega) (by omega), Option.bind_some, show (Int32.ofNat (4 * i) + 2 : Int32) = Int32.ofNat (4 * i + 2) from z_add (4 * i) 2, z_ix (show 4 * i + 2 < 160 by omega) (by omega), Option.bind_some, show (Int32.ofNat (4 * i) + 3 : Int32) = Int32.ofNat (4 * i + 3) from z_add (4 * i) 3, z_ix (show 4 * i + 3 < 160 by omega) (by omega), Option.bind_some, x2, Option.bind_some, nm_eq, nm_eq, z_s]
    have tr : ∀ (v : Int32), zTrl (upI mC' 76 3 v) (mM'.1 2) := fun v => ⟨zT_tr (zCt_tr (fun j hj' => by rw [y4 j (by omega)]) hc1) (zSame_of (fun c h1 h2 => upI_ne' (by omega))) (fun _ _ => rfl) y2.1, zU_tr (zCt_tr (fun j hj' => by rw [y4 j (by omega)]) hc1) (zSame_of (fun c h1 h2 => upI_ne' (by omega))) rfl (fun _ _ _ => rfl) y2.2.1, zH_tr (zCt_tr (fun j hj' => by rw [y4 j (by omega)]) hc1) (fun c h1 h2 => upI_ne' (by omega)) (fun _ _ => rfl) y2.2.2⟩
    by_cases hw0 : w = 0
    · right
      subst hw0
      refine ⟨(upI (upI mC' 76 3 (Int32.ofNat 0)) 76 4 (Int32.ofNat (i + 1)), upI (upI mM' 18 0 (Int32.ofNat 0)) 18 1 (Int32.ofNat (i + 1))), ⟨by omega, by omega, ?_, ?_, ?_, ?_, ?_, ?_, ?_, ?_, ?_, ?_, ?_, ?_, ?_⟩, ?_⟩
      · dsimp only
        rw [upI_ne' (show (2 : Nat) ≠ 18 by omega), upI_ne' (show (2 : Nat) ≠ 18 by omega)]
        obtain ⟨a1, a2, a3⟩ := tr (Int32.ofNat 0)
        have hcτ : zCt (mM'.1 2) := zCt_tr (fun j hj' => by rw [y4 j (by omega)]) hc1
        exact ⟨zT_tr hcτ (zSame_of (fun c h1 h2 => upI_ne' (by omega))) (fun _ _ => rfl) a1, zU_tr hcτ (zSame_of (fun c h1 h2 => upI_ne' (by omega))) rfl (fun _ _ _ => rfl) a2, zH_tr hcτ (fun c h1 h2 => upI_ne' (by omega)) (fun _ _ => rfl) a3⟩
      · dsimp only
        rw [upI_ne' (show (2 : Nat) ≠ 18 by omega), upI_ne' (show (2 : Nat) ≠ 18 by omega)]
        exact y3
      · intro j h
        dsimp only
        rw [upI_ne' (show (2 : Nat) ≠ 18 by omega), upI_ne' (show (2 : Nat) ≠ 18 by omega), y4 j h, hj j h]
      · intro c h
        dsimp only
        rw [upI_ne' (by omega), upI_ne' (by omega), y5 c (by omega), hcc c h]
      · dsimp only
        rw [upI_2, upI_2, y6, hcL]
      · intro j h3 h4
        dsimp only
        rw [upI_nj h4, upI_nj h3, y5 76 (by omega), h76 j h3 h4]
      · dsimp only
        rw [upI_nj (by omega), upI_at]
      · dsimp only
        rw [upI_at]
      · intro c h2 h18
        dsimp only
        rw [upI_ne' h18, upI_ne' h18, y7 c h2, hm c h2 h18]
      · dsimp only
        rw [upI_2, upI_2, y8, hmL]
      · dsimp only
        rw [upI_nj (by omega), upI_at]
      · dsimp only
        rw [upI_at]
      · intro h
        omega
      · rw [eC, eM, upI_at, if_pos (show Int32.ofNat 0 = 0 from rfl), upI_at, if_neg (show ¬ 0 < Int32.ofNat 0 by decide), upI_nj (show (4 : Nat) ≠ 3 by omega), y5 76 (by omega), k4, z_s, upI_nj (show (1 : Nat) ≠ 0 by omega), y7 18 (by omega), m1', z_s]
    · left
      have hmm := y9 hw0
      refine ⟨w, i, upI mC' 76 3 (Int32.ofNat w), upI mM' 18 0 (Int32.ofNat w), ?_, ?_, y1, by omega, ?_, ?_, ?_, ?_, ?_, ?_, ?_, ?_, ?_, ?_, ?_, ?_, ?_⟩
      · rw [eC, upI_at, if_neg (show ¬ Int32.ofNat w = 0 from fun e => hw0 ((z_eq (b := 0) (by omega) (by omega)).mp e)), Book_live_b12, upI_at, if_neg (show ¬ Int32.ofNat w = 0 from fun e => hw0 ((z_eq (b := 0) (by omega) (by omega)).mp e))]
        exact ite_self _
      · rw [eM, upI_at, if_pos (show 0 < Int32.ofNat w from (z_lt (a := 0) (by omega) (by omega)).mpr (by omega)), M_book_b111, if_neg (show ¬ Int32.ofNat i < 0 from z_nn (by omega)), if_neg hw0]
        exact ite_self _
      · rw [upI_ne' (show (2 : Nat) ≠ 18 by omega)]
        exact tr _
      · rw [upI_ne' (show (2 : Nat) ≠ 18 by omega)]
        exact y3
      · intro j h
        rw [upI_ne' (show (2 : Nat) ≠ 18 by omega), y4 j h, hj j h]
      · intro c h
        rw [upI_ne' (by omega), y5 c (by omega), hcc c h]
      · rw [upI_2, y6, hcL]
      · intro j h3 h4
        rw [upI_nj h3, y5 76 (by omega), h76 j h3 h4]
      · rw [upI_at]
      · rw [upI_nj (by omega), y5 76 (by omega), k4]
      · intro c h2 h18
        rw [upI_ne' h18, y7 c h2, hm c h2 h18]
      · rw [upI_2, y8, hmL]
      · rw [upI_at]
      · rw [upI_nj (by omega), y7 18 (by omega), m1']
      · intro h
        rw [upI_ne' (show (2 : Nat) ≠ 18 by omega), hmm, hz h]
  · obtain ⟨a, m⟩ := s
    dsimp only at hI ⊢
    refine ⟨0, N, a, m, ?_, ?_, hI⟩
    · rw [Book_live_b12, hI.2.2.2.2.2.2.2.1 1 (by omega) (by omega), c1, if_neg (fun e => Nat.lt_irrefl _ ((z_lt (by omega) (by omega)).mp e))]
    · rw [M_book_b111, hI.2.2.2.2.2.2.2.2.2.2.1 0 (by omega) (by omega), m45, if_neg (fun e => Nat.lt_irrefl _ ((z_lt (by omega) (by omega)).mp e)), if_pos rfl]
theorem zM_told0 : ∃ m', M_book_b89 p0 1000 0 m = M_book_b111 p0 1000 (-1) 0 m' ∧ (∀ c, c ≠ 18 → m'.1 c = m.1 c) ∧ m'.2 = m.2 ∧ ∀ j, j < 4 → m'.1 18 j = 0 := by
  refine z_loopX (fun f i m' => M_book_b89 p0 f (Int32.ofNat i) m') 4 (fun i m' => (∀ c, c ≠ 18 → m'.1 c = m.1 c) ∧ m'.2 = m.2 ∧ ∀ j, j < i → m'.1 18 j = 0) (fun r => ∃ m', r = M_book_b111 p0 1000 (-1) 0 m' ∧ (∀ c, c ≠ 18 → m'.1 c = m.1 c) ∧ m'.2 = m.2 ∧ ∀ j, j < 4 → m'.1 18 j = 0) (fun f i m1 hi hI => ?_) (fun f m1 hI => ?_) 4 0 1000 m (by omega) (by omega) ⟨fun _ _ => rfl, rfl, fun j hj => by omega⟩
  · obtain ⟨a1, a2, a3⟩ := hI
    right
    refine ⟨upI m1 18 i 0, ⟨fun c hc => by rw [upI_ne' hc, a1 c hc], a2, fun j hj => ?_⟩, ?_⟩
    · by_cases h : j = i
      · rw [h, upI_at]
      · rw [upI_nj h]; exact a3 j (by omega)
    · rw [M_book_b89, if_pos (show Int32.ofNat i < 4 from (z_lt (b := 4) (by omega) (by omega)).mpr hi), z_ix hi (by omega), Option.bind_some, nm_eq, z_s]
  · rw [M_book_b89, if_neg (show ¬ Int32.ofNat 4 < 4 by decide)]
    exact ⟨m1, rfl, hI⟩
/-- the model puts what was before in place of what it kept -/
theorem zM_kept {k : Nat} {v2 : Int32} (hk : m.1 0 24 = Int32.ofNat (k + 1)) (h8 : k < 8) : M_book_b249 p0 1000 v2 0 m = M_book_b283 p0 v2 (zFill m 7 (24 * k) 24 (fun i => m.1 8 i)) := by
  refine z_loop (fun f i => M_book_b249 p0 f v2 (Int32.ofNat i) (zFill m 7 (24 * k) i (fun i => m.1 8 i))) 24 _ (fun f i hi => ?_) (fun f => ?_) 24 0 1000 (by omega) (by omega) |> fun h => by rw [zFill_0] at h; exact h
  · have e24 : (zFill m 7 (24 * k) i (fun i => m.1 8 i)).1 0 24 = Int32.ofNat (k + 1) := by rw [zFill_ne (by omega), hk]
    rw [M_book_b249, if_pos (show Int32.ofNat i < 24 from (z_lt (b := 24) (by omega) (by omega)).mpr hi), z_ix hi (by omega), Option.bind_some, e24, z_sub1 (by omega), Nat.add_sub_cancel, show (24 * Int32.ofNat k : Int32) = Int32.ofNat (24 * k) from z_mul 24 k, z_add, z_ix (show 24 * k + i < 192 by omega) (by omega), Option.bind_some, nm_eq, zFill_ne (show (8 : Nat) ≠ 7 by omega), z_s]
    exact congrArg _ zFill_s
  · rw [M_book_b249, if_neg (show ¬ Int32.ofNat 24 < 24 by decide)]
end ZBE
