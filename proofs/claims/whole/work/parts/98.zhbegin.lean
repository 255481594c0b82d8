/-! Layer 2. A text begun; house: its end -/
section ZHE
variable {m m' mC mC' mM mM' C0 M0 C1 M1 : xMem} {n p lim q B O S W H : Nat} {b : Nat → Nat} {s t : Bool}
theorem zRel_0 {j : Nat} {v : Int32} (hj : (2 < j ∧ j < 15) ∨ (15 < j ∧ j < 24) ∨ 47 < j) (h : zRel mC mM) : zRel mC (upI mM 0 j v) :=
  zRel_tr zSC_rf ⟨fun c hc => upI_ne' (by omega), fun i hi => upI_nj (by omega), fun _ _ => rfl⟩ h
theorem z_clamp {x : Int32} (h : zr x 0 255) : x = Int32.ofNat x.toNatClampNeg ∧ x.toNatClampNeg < 256 := by
  have e := z_of h.1
  refine ⟨e, ?_⟩
  have h5 : (Int32.ofNat x.toNatClampNeg).toInt ≤ 255 := by rw [← e]; exact h.2
  have h6 : x.toNatClampNeg < 2147483648 := Int32.toNatClampNeg_lt x
  rw [z_toInt h6] at h5
  omega
theorem zM_takenL {L : Int32} (H : zRel mC mM) : ∃ n r b, M_taken mM L = some r ∧ zTpe n b mC r ∧ r.1 0 2 = 0 ∧ r.1 0 4 = 0 ∧ r.1 0 5 = L ∧ r.2 = mM.2 ∧ (∀ c, c ≠ 0 → r.1 c = mM.1 c) ∧ (∀ j, j ≠ 2 → j ≠ 3 → j ≠ 4 → j ≠ 5 → r.1 0 j = mM.1 0 j) ∧ zRel (upI mC 1 1 0) r := by
  obtain ⟨n, h1, h2, h3, h4⟩ := H.2.2.2.2.2.1
  unfold M_taken
  rw [nm_eq]
  generalize e1 : upI mM 0 3 (mM.1 0 2) = m1
  rw [nm_eq]
  generalize e2 : upI m1 0 2 0 = m2
  rw [nm_eq]
  generalize e3 : upI m2 0 4 0 = m3
  rw [nm_eq]
  generalize e4 : upI m3 0 5 L = m4
  have f1 : ∀ c, c ≠ 0 → m4.1 c = mM.1 c := fun c hc => by rw [← e4, upI_ne' hc, ← e3, upI_ne' hc, ← e2, upI_ne' hc, ← e1, upI_ne' hc]
  have f2 : ∀ j, j ≠ 2 → j ≠ 3 → j ≠ 4 → j ≠ 5 → m4.1 0 j = mM.1 0 j := fun j a b c d => by rw [← e4, upI_nj d, ← e3, upI_nj c, ← e2, upI_nj a, ← e1, upI_nj b]
  have f3 : m4.1 0 3 = Int32.ofNat n := by rw [← e4, upI_nj (by omega), ← e3, upI_nj (by omega), ← e2, upI_nj (by omega), ← e1, upI_at, h3]
  have f4 : m4.1 0 2 = 0 := by rw [← e4, upI_nj (by omega), ← e3, upI_nj (by omega), ← e2, upI_at]
  have f5 : m4.2 = mM.2 := by rw [← e4, ← e3, ← e2, ← e1]; rfl
  have f6 : m4.1 0 4 = 0 := by rw [← e4, upI_nj (by omega), ← e3, upI_at]
  have f7 : m4.1 0 5 = L := by rw [← e4, upI_at]
  refine ⟨n, m4, fun j => (mC.1 2 j).toNatClampNeg, rfl, ⟨h1, h2, f3, fun j hj => ?_⟩, f4, f6, f7, f5, f1, f2, ?_⟩
  · obtain ⟨a1, a2⟩ := h4 j hj
    obtain ⟨a3, a4⟩ := z_clamp a2
    refine ⟨a4, a3, ?_⟩
    rw [f1 1 (by omega), ← a1]
    exact a3
  · have hR2 : zRel (upI mC 1 1 0) (upI mM 0 2 0) := zRel_tp ⟨fun c c1 c2 => upI_ne' c1, rfl, fun c c1 c2 => upI_ne' c1, fun j hj => upI_nj hj, rfl⟩ ⟨0, by omega, upI_at, upI_at, fun j hj => by omega⟩ H
    refine zRel_tr zSC_rf ⟨fun c hc => ?_, fun j hj => ?_, fun c hc => by rw [f5]; rfl⟩ hR2
    · rw [upI_ne' (by omega), f1 c (by omega)]
    · by_cases h : j = 2
      · rw [h, f4, upI_at]
      · rw [upI_nj h, f2 j (by omega) (by omega) (by omega) (by omega)]
theorem zT_start (hlim : lim ≤ 940) (H : zTpe n b mC mM) (hres : zRes mC mM) (h5 : mM.1 0 5 = Int32.ofNat lim) (h4 : mM.1 0 4 = 0) (h15 : mM.1 0 15 = 0) (hM : zXM M0 mM) : ∃ c' m', Tokens_start mC (Int32.ofNat lim) = some c' ∧ M_go mM = some m' ∧ zRd n lim 0 b mC M0 c' m' ∧ (∀ c, c ≠ 3 → c'.1 c = mC.1 c) ∧ (∀ c, c ≠ 3 → c'.2 c = mC.2 c) ∧ (∀ c, c ≠ 0 → m'.1 c = mM.1 c) ∧ (∀ j, j ≠ 4 → (j < 11 ∨ 14 < j) → m'.1 0 j = mM.1 0 j) ∧ (∀ c, c ≠ 0 → m'.2 c = mM.2 c) := by
  unfold Tokens_start
  rw [nm_eq, nm_eq, nm_eq, nm_eq, nm_eq]
  generalize e5 : upI (upI (upI (upI (upI mC 3 2 (Int32.ofNat lim)) 3 3 0) 3 5 0) 3 10 0) 3 11 0 = c5
  have k1 : ∀ c, c ≠ 3 → c5.1 c = mC.1 c := fun c hc => by rw [← e5, upI_ne' hc, upI_ne' hc, upI_ne' hc, upI_ne' hc, upI_ne' hc]
  have k2 : c5.2 = mC.2 := by rw [← e5]; rfl
  have k3 : c5.1 3 2 = Int32.ofNat lim := by rw [← e5, upI_nj (by omega), upI_nj (by omega), upI_nj (by omega), upI_nj (by omega), upI_at]
  have k4 : c5.1 3 3 = Int32.ofNat 0 := by rw [← e5, upI_nj (by omega), upI_nj (by omega), upI_nj (by omega), upI_at]; rfl
  have k10 : c5.1 3 10 = 0 := by rw [← e5, upI_nj (by omega), upI_at]
  obtain ⟨a, c, e1, e2, e3, g1, g2, g3, g4, g5, g6, g7⟩ := zGo0 (mC := c5) (mM := mM) (p := 0) (lim := lim) (zTpe_tr (by rw [k1 1 (by omega)]) (k1 2 (by omega)) rfl rfl H) (zRes_tr (by rw [k2]) rfl hres) k3 h5 hlim k4 (by rw [h4]; rfl) (by omega)
  rw [e1, Option.bind_some]
  refine ⟨a, c, rfl, e2, ⟨e3, ⟨by rw [g2 10 (by omega), k10], by rw [g6 15 (by omega) (by omega), h15]⟩, zXC_of (fun d hd => by rw [g1 d hd, k1 d hd]) (fun d hd => by rw [g4 d hd, k2]), zXM_t hM (zXM_of g5 (fun j j4 hj => g6 j j4 (by omega)) g7)⟩, fun d hd => by rw [g1 d hd, k1 d hd], fun d hd => by rw [g4 d hd, k2], g5, g6, g7⟩
theorem zM_clears : ∃ m', M_clears m = some m' ∧ (∀ c, c ≠ 3 → m'.1 c = m.1 c) ∧ m'.2 = m.2 ∧ (m'.1 3 3 = 6 ∧ m'.1 3 4 = 6 ∧ m'.1 3 5 = 6 ∧ m'.1 3 6 = 17) ∧ ∀ j, j < 3 ∨ (6 < j ∧ j < 97) → m'.1 3 j = 0 := by
  unfold M_clears
  refine z_loopX (fun f i m' => M_clears_b2 f (Int32.ofNat i) m') 97 (fun i m' => (∀ c, c ≠ 3 → m'.1 c = m.1 c) ∧ m'.2 = m.2 ∧ ∀ j, j < i → m'.1 3 j = 0) (fun r => ∃ m', r = some m' ∧ (∀ c, c ≠ 3 → m'.1 c = m.1 c) ∧ m'.2 = m.2 ∧ (m'.1 3 3 = 6 ∧ m'.1 3 4 = 6 ∧ m'.1 3 5 = 6 ∧ m'.1 3 6 = 17) ∧ ∀ j, j < 3 ∨ (6 < j ∧ j < 97) → m'.1 3 j = 0) (fun f i m1 hi hI => ?_) (fun f m1 hI => ?_) 97 0 1000 m (by omega) (by omega) ⟨fun _ _ => rfl, rfl, fun j hj => by omega⟩
  · obtain ⟨a1, a2, a3⟩ := hI
    right
    refine ⟨upI m1 3 i 0, ⟨fun c hc => by rw [upI_ne' hc, a1 c hc], a2, fun j hj => ?_⟩, ?_⟩
    · by_cases h : j = i
      · rw [h, upI_at]
      · rw [upI_nj h]; exact a3 j (by omega)
    · rw [M_clears_b2, if_pos (show Int32.ofNat i < 97 from (z_lt (b := 97) (by omega) (by omega)).mpr hi), z_ix hi (by omega), Option.bind_some, nm_eq, z_s]
  · obtain ⟨a1, a2, a3⟩ := hI
    rw [M_clears_b2, if_neg (show ¬ Int32.ofNat 97 < 97 by decide), nm_eq, nm_eq, nm_eq, nm_eq]
    refine ⟨_, rfl, fun c hc => by rw [upI_ne' hc, upI_ne' hc, upI_ne' hc, upI_ne' hc, a1 c hc], a2, ⟨?_, ?_, ?_, ?_⟩, fun j hj => ?_⟩
    · rw [upI_nj (by omega), upI_nj (by omega), upI_nj (by omega), upI_at]
    · rw [upI_nj (by omega), upI_nj (by omega), upI_at]
    · rw [upI_nj (by omega), upI_at]
    · rw [upI_at]
    · rw [upI_nj (by omega), upI_nj (by omega), upI_nj (by omega), upI_nj (by omega)]
      exact a3 j (by omega)
theorem zC_clear : ∃ m', House_clear m 44 = some m' ∧ (∀ c, c ≠ 44 → m'.1 c = m.1 c) ∧ m'.2 = m.2 ∧ m'.1 44 0 = 6 ∧ m'.1 44 1 = 6 ∧ m'.1 44 2 = 6 ∧ m'.1 44 3 = 17 ∧ m'.1 44 4 = 0 ∧ m'.1 44 5 = 0 ∧ m'.1 44 6 = 0 ∧ m'.1 44 7 = 0 ∧ m'.1 44 8 = 0 ∧ zCw m m' := by
  unfold House_clear
  rw [nm_eq, nm_eq, nm_eq, nm_eq, nm_eq, nm_eq, nm_eq, nm_eq, nm_eq]
  refine ⟨_, rfl, fun c hc => by rw [upI_ne' hc, upI_ne' hc, upI_ne' hc, upI_ne' hc, upI_ne' hc, upI_ne' hc, upI_ne' hc, upI_ne' hc, upI_ne' hc], rfl, ?_, ?_, ?_, ?_, ?_, ?_, ?_, ?_, ?_, ?_⟩
  · rw [upI_nj (by omega), upI_nj (by omega), upI_nj (by omega), upI_nj (by omega), upI_nj (by omega), upI_nj (by omega), upI_nj (by omega), upI_nj (by omega), upI_at]
  · rw [upI_nj (by omega), upI_nj (by omega), upI_nj (by omega), upI_nj (by omega), upI_nj (by omega), upI_nj (by omega), upI_nj (by omega), upI_at]
  · rw [upI_nj (by omega), upI_nj (by omega), upI_nj (by omega), upI_nj (by omega), upI_nj (by omega), upI_nj (by omega), upI_at]
  · rw [upI_nj (by omega), upI_nj (by omega), upI_nj (by omega), upI_nj (by omega), upI_nj (by omega), upI_at]
  · rw [upI_nj (by omega), upI_nj (by omega), upI_nj (by omega), upI_nj (by omega), upI_at]
  · rw [upI_nj (by omega), upI_nj (by omega), upI_nj (by omega), upI_at]
  · rw [upI_nj (by omega), upI_nj (by omega), upI_at]
  · rw [upI_nj (by omega), upI_at]
  · rw [upI_at]
  · exact zCw_t (zCw_I (by omega)) (zCw_t (zCw_I (by omega)) (zCw_t (zCw_I (by omega)) (zCw_t (zCw_I (by omega)) (zCw_t (zCw_I (by omega)) (zCw_t (zCw_I (by omega)) (zCw_t (zCw_I (by omega)) (zCw_t (zCw_I (by omega)) (zCw_I (by omega)))))))))
/-- the state begun -/
theorem zC_sbegin {O : Nat} (o6 : O ≤ 6) (h7 : m.1 44 7 = Int32.ofNat O) : ∃ m', State_begin m 33 44 = some m' ∧ (∀ c, c < 33 ∨ 38 ≤ c → m'.1 c = m.1 c) ∧ m'.2 = m.2 ∧ m'.1 33 0 = 0 ∧ m'.1 33 1 = 0 ∧ m'.1 33 2 = 0 ∧ m'.1 34 3 = 0 ∧ (∀ o, o < O → m'.1 35 o = m.1 (56 + o) 0) ∧ ∀ b, b < 6 → m'.1 36 b = 0 ∧ m'.1 37 b = 0 := by
  unfold State_begin
  rw [nm_eq, nm_eq, nm_eq, nm_eq]
  generalize e4 : upI (upI (upI (upI m 33 0 0) 33 1 0) 33 2 0) (33 + 1) 3 0 = m4
  have f1 : ∀ c, c < 33 ∨ 35 ≤ c → m4.1 c = m.1 c := fun c hc => by rw [← e4, upI_ne' (by omega), upI_ne' (by omega), upI_ne' (by omega), upI_ne' (by omega)]
  have f2 : m4.2 = m.2 := by rw [← e4]; rfl
  have f3 : m4.1 33 0 = 0 := by rw [← e4, upI_ne' (by omega), upI_nj (by omega), upI_nj (by omega), upI_at]
  have f4 : m4.1 33 1 = 0 := by rw [← e4, upI_ne' (by omega), upI_nj (by omega), upI_at]
  have f5 : m4.1 33 2 = 0 := by rw [← e4, upI_ne' (by omega), upI_at]
  have f6 : m4.1 34 3 = 0 := by rw [← e4]; exact upI_at
  refine z_loopX (fun f i m' => State_begin_b24 33 44 f (Int32.ofNat i) m') O (fun i m' => (∀ c, c ≠ 35 → m'.1 c = m4.1 c) ∧ m'.2 = m4.2 ∧ ∀ o, o < i → m'.1 35 o = m.1 (56 + o) 0) (fun r => ∃ m', r = some m' ∧ (∀ c, c < 33 ∨ 38 ≤ c → m'.1 c = m.1 c) ∧ m'.2 = m.2 ∧ m'.1 33 0 = 0 ∧ m'.1 33 1 = 0 ∧ m'.1 33 2 = 0 ∧ m'.1 34 3 = 0 ∧ (∀ o, o < O → m'.1 35 o = m.1 (56 + o) 0) ∧ ∀ b, b < 6 → m'.1 36 b = 0 ∧ m'.1 37 b = 0) (fun f i m1 hi hI => ?_) (fun f m1 hI => ?_) O 0 1000 m4 (by omega) (by omega) ⟨fun _ _ => rfl, rfl, fun o ho => by omega⟩
  · obtain ⟨a1, a2, a3⟩ := hI
    right
    refine ⟨upI m1 35 i (m.1 (56 + i) 0), ⟨fun c hc => by rw [upI_ne' hc, a1 c hc], a2, fun o ho => ?_⟩, ?_⟩
    · by_cases h : o = i
      · rw [h, upI_at]
      · rw [upI_nj h]; exact a3 o (by omega)
    · rw [State_begin_b24, a1 44 (by omega), f1 44 (by omega), h7, if_pos ((z_lt (by omega) (by omega)).mpr hi), z_ix (show i < 6 by omega) (by omega), Option.bind_some, Option.bind_some, nm_eq, show 44 + 12 + i = 56 + i by omega, a1 (56 + i) (by omega), f1 (56 + i) (by omega), z_s]
  · obtain ⟨a1, a2, a3⟩ := hI
    rw [State_begin_b24, a1 44 (by omega), f1 44 (by omega), h7, if_neg (fun e => Nat.lt_irrefl _ ((z_lt (by omega) (by omega)).mp e))]
    refine z_loopX (fun f i m' => State_begin_b54 33 44 f (Int32.ofNat i) m') 6 (fun i m' => (∀ c, c ≠ 36 → c ≠ 37 → m'.1 c = m1.1 c) ∧ m'.2 = m1.2 ∧ ∀ b, b < i → m'.1 36 b = 0 ∧ m'.1 37 b = 0) (fun r => ∃ m', r = some m' ∧ (∀ c, c < 33 ∨ 38 ≤ c → m'.1 c = m.1 c) ∧ m'.2 = m.2 ∧ m'.1 33 0 = 0 ∧ m'.1 33 1 = 0 ∧ m'.1 33 2 = 0 ∧ m'.1 34 3 = 0 ∧ (∀ o, o < O → m'.1 35 o = m.1 (56 + o) 0) ∧ ∀ b, b < 6 → m'.1 36 b = 0 ∧ m'.1 37 b = 0) (fun f i m2 hi hI => ?_) (fun f m2 hI => ?_) 6 0 1000 m1 (by omega) (by omega) ⟨fun _ _ _ => rfl, rfl, fun b hb => by omega⟩
    · obtain ⟨b1, b2, b3⟩ := hI
      right
      refine ⟨upI (upI m2 36 i 0) 37 i 0, ⟨fun c h1 h2 => by rw [upI_ne' h2, upI_ne' h1, b1 c h1 h2], b2, fun b hb => ?_⟩, ?_⟩
      · by_cases h : b = i
        · rw [h]
          exact ⟨by rw [upI_ne' (by omega), upI_at], upI_at⟩
        · exact ⟨by rw [upI_ne' (by omega), upI_nj h]; exact (b3 b (by omega)).1, by rw [upI_nj h, upI_ne' (by omega)]; exact (b3 b (by omega)).2⟩
      · rw [State_begin_b54, if_pos (show Int32.ofNat i < 6 from (z_lt (b := 6) (by omega) (by omega)).mpr hi), z_ix hi (by omega), Option.bind_some, nm_eq, Option.bind_some, nm_eq, z_s]
    · obtain ⟨b1, b2, b3⟩ := hI
      rw [State_begin_b54, if_neg (show ¬ Int32.ofNat 6 < 6 by decide)]
      refine ⟨m2, rfl, fun c hc => by rw [b1 c (by omega) (by omega), a1 c (by omega), f1 c (by omega)], by rw [b2, a2, f2], ?_, ?_, ?_, ?_, fun o ho => ?_, b3⟩
      · rw [b1 33 (by omega) (by omega), a1 33 (by omega), f3]
      · rw [b1 33 (by omega) (by omega), a1 33 (by omega), f4]
      · rw [b1 33 (by omega) (by omega), a1 33 (by omega), f5]
      · rw [b1 34 (by omega) (by omega), a1 34 (by omega), f6]
      · rw [b1 35 (by omega) (by omega), a3 o ho]
end ZHE
