/-! Layer 2. drawn, odds -/
theorem zP_drawn : lS_drawn zRel := by
  intro mC mM x sd hR
  have hR1 := zRel_thr hR 0
  simp only [M_drawn, nm]
  generalize upI mM 0 0 0 = m1 at hR1 ⊢
  have hc := hR1.1.1
  have hw := hR1.1.2.2.2
  have w3 := hR1.1.2.1
  have w4 := hR1.1.2.2.1
  obtain ⟨hH, hT, hU, -⟩ := hR1.2.1
  unfold O_drawn
  rw [zM_in]
  simp only [Option.bind_some, zb_0, z_rng]
  cases hx : (!decide (x < 1) && !decide (60 < x)) with
  | false => exact ⟨-1, mC, m1, rfl, rfl, hR1⟩
  | true =>
    obtain ⟨n, n1, n60, rfl⟩ := z_rngq (A := 1) (B := 60) hx (by decide) (by decide)
    obtain ⟨h, h4, hh, h400⟩ := z_hr hw.1
    obtain ⟨m, e, t1, t2, tH, tT, tU⟩ := zC_trial hR1
    simp only [Bool.true_eq_false, if_false, if_true]
    rw [hT.1, h400, z_min (x := Int32.ofNat n) (y := Int32.ofNat (400 - h)) (a := n) (b := 400 - h) rfl rfl (by omega) (by omega), nm_eq, e, Option.bind_some]
    obtain ⟨mg, eg, g1, g2, g3, g4, g5⟩ := zTri_days (m0 := mC) (m := m) (n := min n (400 - h)) (h := h) (x := sd) (p := (m1.1 2, sd)) rfl hc hw w3 w4 hh (by omega) ⟨tT, tU, tH, t1, t2⟩
    rw [eg, Option.bind_some]
    by_cases h0 : h = 400
    · subst h0
      rw [hh, if_neg (show ¬ Int32.ofNat 400 < 400 by decide), if_neg (show ¬ (0 : Int32) < Int32.ofNat (min n (400 - 400)) by rw [show min n (400 - 400) = 0 by omega]; decide)]
      unfold M_drawn_b34
      rw [zM_draws hc hw w3 w4 hh h4 (by omega), Option.bind_some]
      refine ⟨_, _, _, rfl, rfl, zRel_tr (zSC_trial g4 g5) ?_ hR1⟩
      have e0 : zDays (m1.1 2, sd) (min n (400 - 400)) = (m1.1 2, sd) := by rw [show min n (400 - 400) = 0 by omega]; rfl
      rw [e0]
      refine ⟨fun c hc => ?_, fun j hj => ?_, fun c hc => rfl⟩
      · by_cases h2 : c = 2
        · rw [h2, mm_2]
        · rw [mm_ne (by omega) h2]
      · rw [mm_0 (by omega)]
    · obtain ⟨n9, top, a1, a2, a3, a4, a5, a6⟩ := hR1.2.2.2.1
      obtain ⟨mK, eK, k1, k2, k3, k4⟩ := zM_keep a5 a1
      have e2 : mK.1 2 = m1.1 2 := k2 2 (by omega) (by omega)
      rw [hh, if_pos (show Int32.ofNat h < 400 from (z_lt (b := 400) (by omega) (by omega)).mpr (by omega)), eK, Option.bind_some]
      unfold M_drawn_b34
      rw [zM_draws (by rw [e2]; exact hc) (by rw [e2]; exact hw) (by rw [e2]; exact w3) (by rw [e2]; exact w4) (by rw [e2]; exact hh) h4 (by omega), e2, Option.bind_some]
      rw [if_pos (show (0 : Int32) < Int32.ofNat (min n (400 - h)) from (z_lt (a := 0) (by omega) (by omega)).mpr (by omega))]
      obtain ⟨m', e', r'⟩ := zC_commit (m := mg) (mM' := mm mK (zDays (m1.1 2, sd) (min n (400 - h)))) hR1 g4 g5 (fun j hj => by rw [mm_2]; exact (zDays_j (p := (m1.1 2, sd)) hj hc).1) (by rw [mm_2]; exact g1) (by rw [mm_2]; exact g2) (by rw [mm_2]; exact zWs_days (p := (m1.1 2, sd)) hw hc hh _ (by omega)) (zKp_tr k1 (mm_ne (by omega) (by omega)) (mm_0 (by omega))) ⟨fun c hc => by rw [mm_ne (by omega) (by omega), k2 c (by omega) (by omega)], fun j hj => by rw [mm_0 (by omega), k4 j (by omega)], fun c hc => by rw [mm_L, k3]⟩
      rw [e', Option.bind_some]
      exact ⟨_, m', _, rfl, rfl, r'⟩
def zOds (σ : zR) (b N : Nat) (x : Int32) : Nat → Nat
  | 0 => 0
  | i + 1 => if (zDays (σ, x + Int32.ofNat i) N).1 (115 + b) = σ (115 + b) then zOds σ b N x i + 1 else zOds σ b N x i
theorem zOds_le {σ : zR} {b N : Nat} {x : Int32} {i : Nat} : zOds σ b N x i ≤ i := by
  induction i with
  | zero => exact Nat.le_refl _
  | succ i ih =>
    rw [zOds]
    split <;> omega
theorem zP_odds : lS_odds zRel := by
  intro mC mM x n0 sd hR
  have hR1 := zRel_thr hR 0
  simp only [M_odds, nm]
  generalize upI mM 0 0 0 = m1 at hR1 ⊢
  have hc := hR1.1.1
  have hw := hR1.1.2.2.2
  have w3 := hR1.1.2.1
  have w4 := hR1.1.2.2.1
  have b6 := hc.1.2
  obtain ⟨hH, hT, hU, -⟩ := hR1.2.1
  unfold O_odds
  rw [zC_hasBed hH hc, zM_isBed rfl hc, zM_in, zM_tries]
  simp only [Option.bind_some, zb_0, z_rng]
  cases hx : zIs (zB (m1.1 2)) x with
  | false => exact ⟨-1, mC, m1, rfl, rfl, hR1⟩
  | true =>
    cases hy : (!decide (n0 < 1) && !decide (30 < n0)) with
    | false => exact ⟨-1, mC, m1, rfl, rfl, hR1⟩
    | true =>
      obtain ⟨b, hb, rfl⟩ := zIs_q hx
      obtain ⟨n, n1, n30, rfl⟩ := z_rngq (A := 1) (B := 30) hy (by decide) (by decide)
      obtain ⟨h, h4, hh, h400⟩ := z_hr hw.1
      simp only [Bool.true_eq_false, if_false, if_true]
      rw [hT.1, h400, z_min (x := 12) (y := Int32.ofNat (400 - h)) (a := 12) (b := 400 - h) rfl rfl (by omega) (by omega), show (115 + Int32.ofNat b : Int32) = Int32.ofNat (115 + b) from z_add 115 b, z_ix (show 115 + b < 302 by omega) (by omega), Option.bind_some, nm_eq]
      generalize hN : min 12 (400 - h) = N
      have key1 : ∃ m', O_odds_b54 (Int32.ofNat b) (Int32.ofNat n) sd 1000 (Int32.ofNat N) 0 0 mC = some (Int32.ofNat (zOds (m1.1 2) b N sd n), m') ∧ (∀ c, c < 118 ∨ 123 ≤ c → m'.1 c = mC.1 c) ∧ m'.2 = mC.2 := by
        have h0 : ∀ (v a : Int32), v = Int32.ofNat (zOds (m1.1 2) b N sd 0) → a = Int32.ofNat 0 → ∃ m', O_odds_b54 (Int32.ofNat b) (Int32.ofNat n) sd 1000 (Int32.ofNat N) v a mC = some (Int32.ofNat (zOds (m1.1 2) b N sd n), m') ∧ (∀ c, c < 118 ∨ 123 ≤ c → m'.1 c = mC.1 c) ∧ m'.2 = mC.2 := by
          intro v a ev ea
          subst ev
          subst ea
          refine z_loopE (fun fuel i m => O_odds_b54 (Int32.ofNat b) (Int32.ofNat n) sd fuel (Int32.ofNat N) (Int32.ofNat (zOds (m1.1 2) b N sd i)) (Int32.ofNat i) m) n (fun i m => (∀ c, c < 118 ∨ 123 ≤ c → m.1 c = mC.1 c) ∧ m.2 = mC.2) (fun r => ∃ m', r = some (Int32.ofNat (zOds (m1.1 2) b N sd n), m') ∧ (∀ c, c < 118 ∨ 123 ≤ c → m'.1 c = mC.1 c) ∧ m'.2 = mC.2) (fun fuel i mi hi hI => ?_) (fun fuel mi hI => ?_) n 0 1000 mC (by omega) (by omega) ⟨fun _ _ => rfl, rfl⟩
          · have hRi : zRel mi m1 := zRel_tr (zSC_trial hI.1 hI.2) zSM_rf hR1
            obtain ⟨m, e, t1, t2, tH, tT, tU⟩ := zC_trial hRi
            obtain ⟨mg, eg, g1, g2, g3, g4, g5⟩ := zTri_days (m0 := mC) (m := m) (n := N) (h := h) (x := sd + Int32.ofNat i) (p := (m1.1 2, sd + Int32.ofNat i)) rfl hc hw w3 w4 hh (by omega) ⟨tT, tU, tH, fun c hc => by rw [t1 c hc, hI.1 c hc], by rw [t2, hI.2]⟩
            refine ⟨mg, ⟨g4, g5⟩, ?_⟩
            have eB : zB (zDays (m1.1 2, sd + Int32.ofNat i) N).1 = zB (m1.1 2) := zB_tr (zDays_j (p := (m1.1 2, sd + Int32.ofNat i)) (by omega) hc).1
            have e1 : mg.1 122 b = (zDays (m1.1 2, sd + Int32.ofNat i) N).1 (115 + b) := (g2.2 b (by rw [eB]; exact hb)).2
            have e2 : mg.1 37 b = m1.1 2 (115 + b) := by rw [g4 37 (by omega)]; exact (hU.2 b hb).2
            rw [O_odds_b54, if_pos ((z_lt (by omega) (by omega)).mpr hi), e, Option.bind_some, eg, Option.bind_some, z_ix (show b < 6 by omega) (by omega), Option.bind_some, Option.bind_some, e1, e2, z_s, z_s]
            by_cases hq : (zDays (m1.1 2, sd + Int32.ofNat i) N).1 (115 + b) = m1.1 2 (115 + b)
            · rw [if_pos hq, zOds, if_pos hq]
            · rw [if_neg hq, zOds, if_neg hq]
          · rw [O_odds_b54, if_neg (by rw [z_lt (by omega) (by omega)]; omega)]
            exact ⟨mi, rfl, hI⟩
        exact h0 _ _ rfl rfl
      have key2 : ∀ m2, zSM m1 m2 → (∀ i, i < 24 → m2.1 8 i = m1.1 2 (97 + i)) → ∃ m', M_odds_b46 (Int32.ofNat b) (Int32.ofNat n) sd 1000 (m2.1 2 (115 + b)) 0 0 m2 = some (Int32.ofNat (zOds (m1.1 2) b N sd n), m') ∧ zSM m1 m' := by
        intro m2 hS h8
        have e22 : m2.1 2 = m1.1 2 := hS.1 2 (by omega)
        rw [e22]
        have h0 : ∀ (v a : Int32), v = Int32.ofNat (zOds (m1.1 2) b N sd 0) → a = Int32.ofNat 0 → ∃ m', M_odds_b46 (Int32.ofNat b) (Int32.ofNat n) sd 1000 (m1.1 2 (115 + b)) v a m2 = some (Int32.ofNat (zOds (m1.1 2) b N sd n), m') ∧ zSM m1 m' := by
          intro v a ev ea
          subst ev
          subst ea
          refine z_loopE (fun fuel i m => M_odds_b46 (Int32.ofNat b) (Int32.ofNat n) sd fuel (m1.1 2 (115 + b)) (Int32.ofNat (zOds (m1.1 2) b N sd i)) (Int32.ofNat i) m) n (fun i m => zSM m1 m ∧ ∀ i, i < 24 → m.1 8 i = m1.1 2 (97 + i)) (fun r => ∃ m', r = some (Int32.ofNat (zOds (m1.1 2) b N sd n), m') ∧ zSM m1 m') (fun fuel i mi hi hI => ?_) (fun fuel mi hI => ?_) n 0 1000 m2 (by omega) (by omega) ⟨hS, h8⟩
          · have e2 : mi.1 2 = m1.1 2 := hI.1.1 2 (by omega)
            have eD := zM_draws (m := mi) (n := 12) (h := h) (x := sd + Int32.ofNat i) (by rw [e2]; exact hc) (by rw [e2]; exact hw) (by rw [e2]; exact w3) (by rw [e2]; exact w4) (by rw [e2]; exact hh) h4 (by omega)
            rw [e2, hN] at eD
            rw [M_odds_b46, if_pos ((z_lt (by omega) (by omega)).mpr hi), show (12 : Int32) = Int32.ofNat 12 from rfl, eD, Option.bind_some, show (115 + Int32.ofNat b : Int32) = Int32.ofNat (115 + b) from z_add 115 b, z_ix (show 115 + b < 302 by omega) (by omega), Option.bind_some, mm_2]
            generalize eq : zDays (m1.1 2, sd + Int32.ofNat i) N = q
            have hqj : ∀ j, j < 97 ∨ 121 ≤ j → q.1 j = m1.1 2 j := fun j hj => by rw [← eq]; exact (zDays_j (p := (m1.1 2, sd + Int32.ofNat i)) hj hc).1
            have hb2 : (zFill (mm mi q) 2 97 24 (fun i => (mm mi q).1 8 i)).1 2 = m1.1 2 := zM_taken_back (fun j hj => by rw [mm_2, hqj j hj]) (fun i hi => by rw [mm_ne (by omega) (by omega)]; exact hI.2 i hi)
            refine ⟨zFill (mm mi q) 2 97 24 (fun i => (mm mi q).1 8 i), ⟨⟨fun c hc => ?_, fun j hj => ?_, fun c hc => ?_⟩, fun i hi => ?_⟩, ?_⟩
            · by_cases h2 : c = 2
              · rw [h2]; exact hb2
              · rw [zFill_ne h2, mm_ne (by omega) h2]; exact hI.1.1 c hc
            · rw [zFill_ne (by omega), mm_0 (by omega)]; exact hI.1.2.1 j hj
            · show mi.2 c = m1.2 c
              exact hI.1.2.2 c hc
            · rw [zFill_ne (by omega), mm_ne (by omega) (by omega)]; exact hI.2 i hi
            · have fin : ∀ (k46 : Int32 → Int32 → Int32 → xMem → Option (Int32 × xMem)) (w s0 s1 : Int32), M_odds_b84 (Int32.ofNat b) (Int32.ofNat n) sd k46 w (Int32.ofNat i) s0 s1 (mm mi q) = k46 w (s1 + s0) (Int32.ofNat (i + 1)) (zFill (mm mi q) 2 97 24 (fun i => (mm mi q).1 8 i)) := fun k46 w s0 s1 => by
                unfold M_odds_b84
                rw [nm_eq, zM_back, Option.bind_some, z_s]
              rw [zOds, eq]
              by_cases hq : q.1 (115 + b) = m1.1 2 (115 + b)
              · rw [if_pos hq, if_pos hq, fin, z_s]
              · rw [if_neg hq, if_neg hq, fin, Int32.add_zero]
          · rw [M_odds_b46, if_neg (by rw [z_lt (by omega) (by omega)]; omega)]
            exact ⟨mi, rfl, hI.1⟩
        exact h0 _ _ rfl rfl
      obtain ⟨mC', eC, s1, s2⟩ := key1
      obtain ⟨mM', eM, s3⟩ := key2 (zFill m1 8 0 24 (fun i => m1.1 2 (97 + i))) ⟨fun c hc => zFill_ne (by omega), fun j hj => by rw [zFill_ne (by omega)], fun c hc => rfl⟩ (fun i hi => by have h := zFill_in (m := m1) (k := 8) (lo := 0) (n := 24) (f := fun i => m1.1 2 (97 + i)) hi; rw [Nat.zero_add] at h; exact h)
      rw [eC, eM]
      exact ⟨_, _, _, rfl, rfl, zRel_tr (zSC_trial s1 s2) s3 hR1⟩
