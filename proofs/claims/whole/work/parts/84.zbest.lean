/-! Layer 2. best: the call -/
theorem zRs_0 {w : Nat → Nat → Nat} {O B : Nat} : ∀ k u, zCnt (fun b => u.testBit b) B + k ≤ B → 0 ≤ zRs w O B k u := by
  intro k
  induction k with
  | zero => intro u _; exact Int.le_refl _
  | succ k ih =>
    intro u hu
    obtain ⟨b, b1, b2⟩ := zCnt_free (P := fun b => u.testBit b) B (by omega)
    have h1 := zMxI_ge (f := fun b => (w (O - (k + 1)) b : Int) + zRs w O B k (u ||| 2 ^ b)) (p := fun b => !u.testBit b) (b := b) (by show (!u.testBit b) = true; rw [show u.testBit b = false from b2]; rfl) B b1
    have h2 := ih (u ||| 2 ^ b) (by rw [zCnt_add b2, if_pos b1]; omega)
    rw [zRs]
    have h3 : (w (O - (k + 1)) b : Int) + zRs w O B k (u ||| 2 ^ b) ≤ zMxI (fun b => (w (O - (k + 1)) b : Int) + zRs w O B k (u ||| 2 ^ b)) (fun b => !u.testBit b) B := h1
    omega
theorem zWk_Gb {w : Nat → Nat → Nat} {O B : Nat} (hw : ∀ o b, w o b ≤ 24) (hOB : O ≤ B) (hB : B ≤ 6) : ∀ q k, q < k → k ≤ O → zWk w O B k (zGu w O B (O - k)) q = zGb w O B (O - k + q) := by
  intro q
  induction q with
  | zero =>
    intro k hk hkO
    obtain ⟨k, rfl⟩ : ∃ e, k = e + 1 := ⟨k - 1, by omega⟩
    rw [zWk]
    rfl
  | succ q ih =>
    intro k hk hkO
    obtain ⟨k, rfl⟩ : ∃ e, k = e + 1 := ⟨k - 1, by omega⟩
    obtain ⟨g1, g2⟩ := zGu_ok hw hOB hB (O - (k + 1)) (by omega)
    obtain ⟨b, hb⟩ := zPick_ex (w := w) (O := O) (B := B) (i := O - (k + 1)) (u := zGu w O B (O - (k + 1))) hw (by omega) (by omega)
    have e : zGu w O B (O - k) = zGu w O B (O - (k + 1)) ||| 2 ^ b := by
      rw [show O - k = O - (k + 1) + 1 by omega, zGu, hb]
    have h := ih k (by omega) (by omega)
    rw [e] at h
    rw [zWk, hb, show O - (k + 1) + (q + 1) = O - k + q by omega]
    exact h
theorem zC_best {m : xMem} {σ : zR} (hH : zH m 6 σ) (hT : zT m 33 σ) (hc : zCt σ) : ∃ m', Best_find m 6 33 = some (m'.1 170 4, m') ∧ (m'.1 170 4).toInt = zRs (fun o b => zWt σ o b 24) (zO σ) (zB σ) (zO σ) 0 ∧ m'.1 170 3 = Int32.ofNat (zO σ) ∧ (∀ c, c < 170 ∨ 180 ≤ c → m'.1 c = m.1 c) ∧ m'.2 = m.2 ∧ ∀ q, q < zO σ → m'.1 179 q = Int32.ofNat (zGb (fun o b => zWt σ o b 24) (zO σ) (zB σ) q) := by
  have b6 := hc.1.2
  have o6 := hc.2.1.2
  have hOB : zO σ ≤ zB σ := hc.2.2.2.2
  have h66 : m.1 6 6 = Int32.ofNat (zB σ) := by rw [← hc.1.1]; exact hH.2.2.2.2.1
  have h67 : m.1 6 7 = Int32.ofNat (zO σ) := by rw [← hc.2.1.1]; exact hH.2.2.2.2.2.1
  have hw : ∀ o b, (fun o b => zWt σ o b 24) o b ≤ 24 := fun o b => zWt_le
  unfold Best_find
  refine z_loopX (fun f i m' => Best_find_b2 6 33 f (Int32.ofNat i) m') (zO σ) (fun i m' => zBf m m' ∧ ∀ o1 b1, o1 < i → b1 < zB σ → m'.1 (172 + o1) b1 = 0) (fun r => ∃ m', r = some (m'.1 170 4, m') ∧ (m'.1 170 4).toInt = zRs (fun o b => zWt σ o b 24) (zO σ) (zB σ) (zO σ) 0 ∧ m'.1 170 3 = Int32.ofNat (zO σ) ∧ (∀ c, c < 170 ∨ 180 ≤ c → m'.1 c = m.1 c) ∧ m'.2 = m.2 ∧ ∀ q, q < zO σ → m'.1 179 q = Int32.ofNat (zGb (fun o b => zWt σ o b 24) (zO σ) (zB σ) q)) (fun f i m1 hi hI => ?_) (fun f m1 hI => ?_) (zO σ) 0 1000 m (by omega) (by omega) ⟨⟨fun _ _ => rfl, rfl⟩, fun o1 b1 h1 h2 => by omega⟩
  · obtain ⟨hF, hz⟩ := hI
    right
    have hrow : ∃ m', (zBf m m' ∧ ∀ o1 b1, o1 < i + 1 → b1 < zB σ → m'.1 (172 + o1) b1 = 0) ∧ Best_find_b13 6 33 (Best_find_b2 6 33 f) 1000 (Int32.ofNat i) 0 m1 = Best_find_b2 6 33 f (Int32.ofNat (i + 1)) m' := by
      refine z_loopX (fun g j m' => Best_find_b13 6 33 (Best_find_b2 6 33 f) g (Int32.ofNat i) (Int32.ofNat j) m') (zB σ) (fun j m' => zBf m m' ∧ (∀ o1 b1, o1 < i → b1 < zB σ → m'.1 (172 + o1) b1 = 0) ∧ ∀ b1, b1 < j → m'.1 (172 + i) b1 = 0) (fun r => ∃ m', (zBf m m' ∧ ∀ o1 b1, o1 < i + 1 → b1 < zB σ → m'.1 (172 + o1) b1 = 0) ∧ r = Best_find_b2 6 33 f (Int32.ofNat (i + 1)) m') (fun g j m2 hj hI => ?_) (fun g m2 hI => ?_) (zB σ) 0 1000 m1 (by omega) (by omega) ⟨hF, hz, fun b1 hb => by omega⟩
      · obtain ⟨⟨a1, a2⟩, a3, a4⟩ := hI
        right
        refine ⟨upI m2 (172 + i) j 0, ⟨⟨fun c hcc => by rw [upI_ne' (by omega), a1 c hcc], a2⟩, fun o1 b1 h1 h2 => ?_, fun b1 h1 => ?_⟩, ?_⟩
        · rw [upI_ne' (by omega)]
          exact a3 o1 b1 h1 h2
        · by_cases h : b1 = j
          · rw [h, upI_at]
          · rw [upI_nj h]
            exact a4 b1 (by omega)
        · rw [Best_find_b13, a1 6 (by omega), h66, if_pos ((z_lt (by omega) (by omega)).mpr hj), z_ix (show i < 6 by omega) (by omega), Option.bind_some, z_ix (show j < 6 by omega) (by omega), Option.bind_some, nm_eq, z_s]
      · obtain ⟨⟨a1, a2⟩, a3, a4⟩ := hI
        refine ⟨m2, ⟨⟨a1, a2⟩, fun o1 b1 h1 h2 => ?_⟩, ?_⟩
        · by_cases h : o1 = i
          · rw [h]; exact a4 b1 h2
          · exact a3 o1 b1 (by omega) h2
        · rw [Best_find_b13, a1 6 (by omega), h66, if_neg (fun q => Nat.lt_irrefl _ ((z_lt (by omega) (by omega)).mp q)), z_s]
    obtain ⟨m', h1, h2⟩ := hrow
    refine ⟨m', h1, ?_⟩
    rw [Best_find_b2, hF.1 6 (by omega), h67, if_pos ((z_lt (by omega) (by omega)).mpr hi)]
    exact h2
  · obtain ⟨hF, hz⟩ := hI
    rw [Best_find_b2, hF.1 6 (by omega), h67, if_neg (fun q => Nat.lt_irrefl _ ((z_lt (by omega) (by omega)).mp q))]
    refine zC_worths (σ := σ) (R := fun r => ∃ m', r = some (m'.1 170 4, m') ∧ (m'.1 170 4).toInt = zRs (fun o b => zWt σ o b 24) (zO σ) (zB σ) (zO σ) 0 ∧ m'.1 170 3 = Int32.ofNat (zO σ) ∧ (∀ c, c < 170 ∨ 180 ≤ c → m'.1 c = m.1 c) ∧ m'.2 = m.2 ∧ ∀ q, q < zO σ → m'.1 179 q = Int32.ofNat (zGb (fun o b => zWt σ o b 24) (zO σ) (zB σ) q)) hH hT hc hF (fun o1 b1 h1 h2 => ?_) (fun m2 hF2 hB2 => ?_)
    · rw [hz o1 b1 h1 h2]
      unfold zSo
      rw [if_neg (by omega)]
      rfl
    · rw [nm_eq, nm_eq, hF2.1 6 (by omega), h67]
      obtain ⟨m3, e3, ⟨g1, g2, g3, g4⟩, hCo⟩ := zC_choose (w := fun o b => zWt σ o b 24) hw o6 b6 (zO σ) (Nat.le_refl _) 8 (upI (upI m2 170 3 (Int32.ofNat (zO σ))) 170 4 (-1)) 0 0 (by omega) (by omega) (by omega) (by rw [upI_at]; decide) (by rw [upI_ne' (by omega), upI_ne' (by omega), hF2.1 6 (by omega)]; exact h67) (by rw [upI_ne' (by omega), upI_ne' (by omega), hF2.1 6 (by omega)]; exact h66) (fun o b h1 h2 => by
        rw [upI_ne' (by omega), upI_ne' (by omega), hB2 o b h1 h2]
        unfold zSo
        rw [if_neg (by omega)])
      rw [Nat.sub_self] at e3 hCo g4
      have e4 : Best_choose 8 (upI (upI m2 170 3 (Int32.ofNat (zO σ))) 170 4 (-1)) 6 0 0 0 = some m3 := e3
      rw [e4, Option.bind_some]
      have h0 : 0 ≤ zRs (fun o b => zWt σ o b 24) (zO σ) (zB σ) (zO σ) 0 := zRs_0 (zO σ) 0 (by
        have := (zGu_ok (w := fun o b => zWt σ o b 24) hw hOB b6 0 (Nat.zero_le _)).2
        have h : zCnt (fun b => (0 : Nat).testBit b) (zB σ) = 0 := this
        omega)
      unfold zCo at hCo
      rw [upI_at] at hCo
      have hm1 : ((-1 : Int32)).toInt = -1 := by decide
      rw [hm1] at hCo
      rcases hCo with ⟨c1, c2, c3, c4⟩ | ⟨c1, c2, c3⟩
      · refine ⟨m3, rfl, ?_, ?_, fun c hcc => ?_, by rw [g3]; exact hF2.2, fun q hq => ?_⟩
        · rw [c2]
          show ((0 : Nat) : Int) + _ = _
          omega
        · rw [g2 3 (by omega), upI_nj (by omega), upI_at]
        · rw [g1 c (by omega) (by omega) (by omega), upI_ne' (by omega), upI_ne' (by omega), hF2.1 c (by omega)]
        · have h := c4 q hq
          have h2 := zWk_Gb (w := fun o b => zWt σ o b 24) hw hOB b6 q (zO σ) hq (Nat.le_refl _)
          rw [Nat.sub_self, Nat.zero_add] at h2
          rw [Nat.zero_add] at h
          rw [h]
          exact congrArg Int32.ofNat h2
      · exfalso
        have : ((0 : Nat) : Int) + zRs (fun o b => zWt σ o b 24) (zO σ) (zB σ) (zO σ) 0 ≤ -1 := c1
        omega
theorem zP_best : lS_best zRel := by
  intro mC mM hR
  have hR1 := zRel_thr hR 0
  unfold M_best O_best
  rw [nm_eq]
  generalize upI mM 0 0 0 = m1 at hR1 ⊢
  obtain ⟨r1, r2, r3, r4, r5, r6, r7, r8, r9, r10, r11, r12, r13, r14, r15, r16⟩ := id hR1
  have hc := r1.1
  have b6 := hc.1.2
  have o6 := hc.2.1.2
  have hOB : zO (m1.1 2) ≤ zB (m1.1 2) := hc.2.2.2.2
  have hw : ∀ o b, (fun o b => zWt (m1.1 2) o b 24) o b ≤ 24 := fun o b => zWt_le
  obtain ⟨m2, e2, f2, g2, h11⟩ := zM_worths (M0 := m1) hc
  rw [e2, Option.bind_some]
  obtain ⟨mC', eC, vC, cC, fC, gC, kC⟩ := zC_best r2.1 r2.2.1 hc
  rw [eC, Option.bind_some]
  have model : ∃ v mM', M_best_b11 1000 0 m2 = some (v, mM') ∧ v.toInt = zRs (fun o b => zWt (m1.1 2) o b 24) (zO (m1.1 2)) (zB (m1.1 2)) (zO (m1.1 2)) 0 ∧ (∀ c, c ≠ 0 → c ≠ 8 → c ≠ 11 → c ≠ 12 → c ≠ 13 → mM'.1 c = m1.1 c) ∧ (∀ j, j ≠ 35 → mM'.1 0 j = m1.1 0 j) ∧ mM'.1 0 35 = Int32.ofNat (zO (m1.1 2)) ∧ mM'.2 = m1.2 ∧ ∀ q, q < zO (m1.1 2) → mM'.1 13 q = Int32.ofNat (zGb (fun o b => zWt (m1.1 2) o b 24) (zO (m1.1 2)) (zB (m1.1 2)) q) := by
    refine zM_rests (R := fun r => ∃ v mM', r = some (v, mM') ∧ v.toInt = zRs (fun o b => zWt (m1.1 2) o b 24) (zO (m1.1 2)) (zB (m1.1 2)) (zO (m1.1 2)) 0 ∧ (∀ c, c ≠ 0 → c ≠ 8 → c ≠ 11 → c ≠ 12 → c ≠ 13 → mM'.1 c = m1.1 c) ∧ (∀ j, j ≠ 35 → mM'.1 0 j = m1.1 0 j) ∧ mM'.1 0 35 = Int32.ofNat (zO (m1.1 2)) ∧ mM'.2 = m1.2 ∧ ∀ q, q < zO (m1.1 2) → mM'.1 13 q = Int32.ofNat (zGb (fun o b => zWt (m1.1 2) o b 24) (zO (m1.1 2)) (zB (m1.1 2)) q)) (w := fun o b => zWt (m1.1 2) o b 24) (O := zO (m1.1 2)) (B := zB (m1.1 2)) hw (by rw [f2 2 (by omega) (by omega)]; exact hc.1.1) (by rw [f2 2 (by omega) (by omega)]; exact hc.2.1.1) o6 b6 h11 (fun m' hF hr => ?_)
    obtain ⟨v, m4, e4, v4, f4, g4, k4⟩ := zM_walk (m := upI m' 0 35 (Int32.ofNat (zO (m1.1 2)))) (w := fun o b => zWt (m1.1 2) o b 24) (O := zO (m1.1 2)) (B := zB (m1.1 2)) hw hOB b6 upI_at (fun o b h1 h2 => by rw [upI_ne' (by omega), hF.1 11 (by omega)]; exact h11 o b h1 h2) (fun k hk u hu => by rw [upI_ne' (by omega)]; exact hr k hk u hu)
    refine ⟨v, m4, e4, v4, fun c h0 h8 h11' h12 h13 => ?_, fun j hj => ?_, ?_, ?_, k4⟩
    · rw [f4 c h13, upI_ne' h0, hF.1 c h12, f2 c h8 h11']
    · rw [f4 0 (by omega), upI_nj hj, hF.1 0 (by omega), f2 0 (by omega) (by omega)]
    · rw [f4 0 (by omega), upI_at]
    · rw [g4]
      show m'.2 = m1.2
      rw [hF.2, g2]
  obtain ⟨v, mM', eM, vM, fM, jM, cM, gM, kM⟩ := model
  have hv : mC'.1 170 4 = v := Int32.toInt.inj (by rw [vC, vM])
  rw [eM]
  refine ⟨v, mC', mM', by rw [hv], rfl, ?_⟩
  refine zRel_mk (fun c h => fC c (by omega)) (fun c _ => by rw [gC]) (fun c h => fM c (by omega) (by omega) (by omega) (by omega) (by omega)) (jM 24 (by omega)) (fun c _ => by rw [gM]) (zTp_tr (by rw [fC 1 (by omega)]) (fC 2 (by omega)) (jM 2 (by omega)) (fM 1 (by omega) (by omega) (by omega) (by omega) (by omega)) r6) ?_ (zLs_tr (by rw [fC 165 (by omega)]) (fC 166 (by omega)) (jM 27 (by omega)) (fM 9 (by omega) (by omega) (by omega) (by omega) (by omega)) r9) ?_ ⟨zO (m1.1 2), o6, cC, Or.inl cM, fun q hq => by rw [kC q hq, kM q hq]⟩ (zLs_tr (by rw [fC 0 (by omega)]) (fC 182 (by omega)) (jM 37 (by omega)) (fM 14 (by omega) (by omega) (by omega) (by omega) (by omega)) r12) ?_ ?_ (zTo_tr (fC 76 (by omega)) (jM 47 (by omega)) (fM 18 (by omega) (by omega) (by omega) (by omega) (by omega)) r15) (zWr_tr (by rw [fC 180 (by omega)]) (fC 181 (by omega)) (jM 43 (by omega)) (fM 17 (by omega) (by omega) (by omega) (by omega) (by omega)) r16) hR1
  · unfold zFa; rw [fC 0 (by omega), jM 15 (by omega)]; exact r8
  · unfold zSpN; rw [fC 165 (by omega), jM 28 (by omega)]; exact r10
  · unfold zKe; rw [fC 0 (by omega), jM 29 (by omega), jM 30 (by omega), jM 31 (by omega)]; exact r13
  · unfold zDu; rw [fC 0 (by omega), jM 40 (by omega), jM 41 (by omega)]; exact r14
