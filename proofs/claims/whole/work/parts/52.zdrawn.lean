/-! Layer 2. drawn -/
section ZDC
variable {m m' mC mC' mM mM' mK m0 : xMem} {σ τ : zR}
theorem zC_step {x : Int32} : State_step m x = some (zStep x) := by unfold State_step zStep; rfl
theorem zC_pick {x n : Int32} (h : 0 < n) : State_pick m x n = some (zPk x n) := by
  unfold State_pick zPk
  rw [if_pos h, if_neg (fun e => by rw [e] at h; exact absurd h (by decide))]
theorem z98_j {v : Int32} {j : Nat} (h : j ≠ 98) : z98 τ v j = τ j := by unfold z98; rw [if_neg h]
theorem zCrys_j {x y l : Int32} {j : Nat} (h : j < 99 ∨ 102 < j) : zCrys τ x y l j = τ j := by
  unfold zCrys
  rw [if_neg (by omega), if_neg (by omega), if_neg (by omega), if_neg (by omega)]
theorem zTri_98 {v : Int32} (hc : zCt τ) (h : zTri m0 m τ) : zTri m0 (upI m 118 1 v) (z98 τ v) := by
  obtain ⟨a, b, c, d, e⟩ := h
  refine ⟨zT_hush a (fun j => rfl), zU_tr2 hc (upI_nj (by omega)) (upI_ne' (by omega)) (upI_ne' (by omega)) (z98_j (by omega)) (z98_j (by omega)) (fun j j1 j2 => z98_j (by omega)) b, zH_tr hc (fun x h1 h2 => upI_ne' (by omega)) (fun j hj => ?_) c, fun x hx => ?_, e⟩
  · first | exact z98_j (by omega) | exact zCrys_j (by omega)
  · rw [upI_ne' (by omega)]
    exact d x hx
theorem zTri_cry {x y l : Int32} (hc : zCt τ) (h : zTri m0 m τ) (h9 : ¬ 0 < τ 100) : ∃ m', State_shoutIn m 118 x y l = some (0, m') ∧ zTri m0 m' (zCrys τ x y l) := by
  obtain ⟨a, b, c, d, e⟩ := h
  unfold State_shoutIn State_isShouted
  rw [a.2.2.1, if_neg h9]
  simp only [Option.bind_some, nm, if_true]
  generalize e1 : upI m (118 + 1) 0 1 = p1
  generalize e2 : upI p1 (118 + 1) 1 x = p2
  generalize e3 : upI p2 (118 + 1) 2 y = p3
  generalize e4 : upI p3 (118 + 1) 3 l = p4
  generalize e5 : upI p4 118 2 (p4.1 118 2 + 1) = p5
  have c5 : ∀ c, c ≠ 118 → c ≠ 119 → p5.1 c = m.1 c := fun c c1 c2 => by rw [← e5, upI_ne' c1, ← e4, upI_ne' c2, ← e3, upI_ne' c2, ← e2, upI_ne' c2, ← e1, upI_ne' c2]
  have c4 : p4.1 118 = m.1 118 := by rw [← e4, upI_ne' (by omega), ← e3, upI_ne' (by omega), ← e2, upI_ne' (by omega), ← e1, upI_ne' (by omega)]
  have c6 : ∀ j, j ≠ 2 → p5.1 118 j = m.1 118 j := fun j hj => by rw [← e5, upI_nj hj, c4]
  have c7 : p5.1 118 2 = m.1 118 2 + 1 := by rw [← e5, upI_at, c4]
  have c8 : p5.1 119 = p4.1 119 := by rw [← e5, upI_ne' (by omega)]
  have c9 : p4.1 119 0 = 1 ∧ p4.1 119 1 = x ∧ p4.1 119 2 = y ∧ p4.1 119 3 = l := by
    refine ⟨?_, ?_, ?_, ?_⟩
    · rw [← e4, upI_nj (by omega), ← e3, upI_nj (by omega), ← e2, upI_nj (by omega), ← e1, upI_at]
    · rw [← e4, upI_nj (by omega), ← e3, upI_nj (by omega), ← e2, upI_at]
    · rw [← e4, upI_nj (by omega), ← e3, upI_at]
    · rw [← e4, upI_at]
  have cL : p5.2 = m.2 := by rw [← e5, ← e4, ← e3, ← e2, ← e1]; rfl
  have k100 : zCrys τ x y l 100 = l := by unfold zCrys; rw [if_neg (by omega), if_pos rfl]
  have k101 : zCrys τ x y l 101 = x := by unfold zCrys; rw [if_neg (by omega), if_neg (by omega), if_pos rfl]
  have k102 : zCrys τ x y l 102 = y := by unfold zCrys; rw [if_neg (by omega), if_neg (by omega), if_neg (by omega), if_pos rfl]
  have k99 : zCrys τ x y l 99 = τ 99 + 1 := by unfold zCrys; rw [if_pos rfl]
  refine ⟨p5, rfl, ?_, ?_, zH_tr hc (fun x h1 h2 => c5 x (by omega) (by omega)) (fun j hj => ?_) c, fun x hx => ?_, by rw [cL, e]⟩
  · obtain ⟨u0, u1, u2, u3, u4⟩ := a
    unfold zT
    rw [zO_tr (σ := τ) (zCrys_j (by omega)), c6 0 (by omega), c6 1 (by omega), k100, k101, k102, zCrys_j (by omega), zCrys_j (by omega)]
    refine ⟨u0, u1, by rw [show (118 + 1 : Nat) = 119 from rfl, c8]; exact c9.2.2.2, fun _ => ⟨by rw [show (118 + 1 : Nat) = 119 from rfl, c8]; exact c9.1, by rw [show (118 + 1 : Nat) = 119 from rfl, c8]; exact c9.2.1, by rw [show (118 + 1 : Nat) = 119 from rfl, c8]; exact c9.2.2.1⟩, fun o ho => ?_⟩
    rw [c5 (118 + 2) (by omega) (by omega), zCrys_j (by omega)]
    exact u4 o ho
  · unfold zU
    rw [zB_tr (σ := τ) (zCrys_j (by omega)), c7, k99, b.1]
    refine ⟨rfl, fun o hb => ?_⟩
    rw [c5 (118 + 3) (by omega) (by omega), c5 (118 + 4) (by omega) (by omega), zCrys_j (by omega), zCrys_j (by omega)]
    exact b.2 o hb
  · first | exact z98_j (by omega) | exact zCrys_j (by omega)
  · rw [c5 x (by omega) (by omega)]
    exact d x hx
theorem zTri_day {k : Int32 → Int32 → xMem → Option xMem} {p1 p2 v5 : Int32} {p : zR × Int32} (hc : zCt p.1) (hw : zWs p.1) (h3 : zr (p.1 3) 2 9) (h4 : zr (p.1 4) 2 9) (h : zTri m0 m p.1) : ∃ m', zTri m0 m' (zDay p).1 ∧ State_passDrawn_b15 118 6 p1 p2 k 1000 p.2 v5 0 m = k (zDay p).2 (v5 + 1) m' := by
  have c8 := hc.2.2.2
  have h0 : ∀ (x a : Int32), x = (zDs p 0).2 → a = Int32.ofNat 0 → ∃ m', zTri m0 m' (zDay p).1 ∧ State_passDrawn_b15 118 6 p1 p2 k 1000 x v5 a m = k (zDay p).2 (v5 + 1) m' := by
    intro x a ex ea
    subst ex
    subst ea
    refine z_loopE (fun fuel i m => State_passDrawn_b15 118 6 p1 p2 k fuel (zDs p i).2 v5 (Int32.ofNat i) m) (zC p.1) (fun i m => zTri m0 m (zDs p i).1) (fun r => ∃ m', zTri m0 m' (zDay p).1 ∧ r = k (zDay p).2 (v5 + 1) m') (fun fuel i mi hi hI => ?_) (fun fuel mi hI => ?_) (zC p.1) 0 1000 m (by omega) (by omega) h
    · have hci : zCt (zDs p i).1 := zCt_tr (fun j hj => zDs_j (by omega)) hc
      have e8 : mi.1 6 8 = Int32.ofNat (zC p.1) := by rw [hI.2.2.1.2.2.2.2.2.2.1, zDs_j (by omega), hc.2.2.1]
      rw [State_passDrawn_b15, e8, if_pos ((z_lt (by omega) (by omega)).mpr hi), zC_step, Option.bind_some, zC_pick (by decide), Option.bind_some, z_s]
      by_cases hz : zPk (zStep (zDs p i).2) 8 = 0
      · rw [if_pos hz, nm_eq, hI.1.2.1, ← zDs_3]
        exact ⟨_, by rw [zDs_1 hz]; exact zTri_98 hci hI, rfl⟩
      · rw [if_neg hz, ← zDs_3]
        exact ⟨mi, by rw [zDs_2 hz]; exact hI, rfl⟩
    · have hwq : zWs (zDs p (zC p.1)).1 := zWs_ds hw hc _ (by omega)
      have hcq : zCt (zDs p (zC p.1)).1 := zCt_tr (fun j hj => zDs_j (by omega)) hc
      have e3 : (zDs p (zC p.1)).1 3 = p.1 3 := zDs_j (by omega)
      have e4 : (zDs p (zC p.1)).1 4 = p.1 4 := zDs_j (by omega)
      have n3 : 0 < p.1 3 := by rw [Int32.lt_iff_toInt_lt]; have := h3.1; have : (0 : Int32).toInt = 0 := by decide
                                omega
      have n4 : 0 < p.1 4 := by rw [Int32.lt_iff_toInt_lt]; have := h4.1; have : (0 : Int32).toInt = 0 := by decide
                                omega
      have fin : ∀ τ x mi, zCt τ → zTri m0 mi τ → ∃ m', zTri m0 m' (zHr τ) ∧ State_passDrawn_b137 118 6 p1 p2 k x v5 mi = k x (v5 + 1) m' := fun τ x mi hτ ht => by
        obtain ⟨m', e1, e2⟩ := zTri_hr hτ ht
        refine ⟨m', e2, ?_⟩
        unfold State_passDrawn_b137
        rw [e1, Option.bind_some]
      have e8 : mi.1 6 8 = Int32.ofNat (zC p.1) := by rw [hI.2.2.1.2.2.2.2.2.2.1, zDs_j (by omega), hc.2.2.1]
      rw [State_passDrawn_b15, e8, if_neg (by rw [z_lt (by omega) (by omega)]; omega), zC_step, Option.bind_some, zC_pick (by decide), Option.bind_some]
      unfold zDay
      generalize zDs p (zC p.1) = q at hwq hcq e3 e4 hI
      by_cases hz : zPk (zStep q.2) 6 = 0
      · rw [if_pos hz]
        unfold State_isShouted
        rw [hI.1.2.2.1]
        by_cases h9 : 0 < q.1 100
        · rw [if_pos h9, Option.bind_some, if_neg (show ¬ (1 : Int32) = 0 by decide), zDay1_2 (fun h => h.2 h9)]
          exact fin _ _ _ hcq hI
        · obtain ⟨m', f1, f2⟩ := zTri_cry (x := zPk (zStep (zStep q.2)) (q.1 3)) (y := zPk (zStep (zStep (zStep q.2))) (q.1 4)) (l := zPk (zStep (zStep (zStep (zStep q.2)))) 30 + 1) hcq hI h9
          rw [if_neg h9, Option.bind_some, if_pos rfl, zC_step, Option.bind_some, zC_step, Option.bind_some, zC_step, Option.bind_some, hI.2.2.1.1, hI.2.2.1.2.1, zC_pick (by rw [e3]; exact n3), Option.bind_some, zC_pick (by rw [e4]; exact n4), Option.bind_some, zC_pick (by decide), Option.bind_some, f1, Option.bind_some, zDay1_1 ⟨hz, h9⟩]
          exact fin _ _ _ (zCt_tr (σ := q.1) (fun j hj => zCrys_j (by omega)) hcq) f2
      · rw [if_neg hz, zDay1_2 (fun h => hz h.1)]
        exact fin _ _ _ hcq hI
  exact h0 _ _ rfl rfl
theorem zTri_days {n h : Nat} {x : Int32} {p : zR × Int32} (hx : p.2 = x) (hc : zCt p.1) (hw : zWs p.1) (h3 : zr (p.1 3) 2 9) (h4 : zr (p.1 4) 2 9) (hh : p.1 97 = Int32.ofNat h) (hn : h + n ≤ 400) (ht : zTri m0 m p.1) : ∃ m', State_passDrawn m 118 6 (Int32.ofNat n) x = some m' ∧ zTri m0 m' (zDays p n).1 := by
  subst hx
  unfold State_passDrawn
  have h0 : ∀ (x a : Int32), x = (zDays p 0).2 → a = Int32.ofNat 0 → ∃ m', State_passDrawn_b6 118 6 (Int32.ofNat n) p.2 1000 x a m = some m' ∧ zTri m0 m' (zDays p n).1 := by
    intro x a ex ea
    subst ex
    subst ea
    refine z_loopE (fun fuel i m => State_passDrawn_b6 118 6 (Int32.ofNat n) p.2 fuel (zDays p i).2 (Int32.ofNat i) m) n (fun i m => zTri m0 m (zDays p i).1) (fun r => ∃ m', r = some m' ∧ zTri m0 m' (zDays p n).1) (fun fuel i mi hi hI => ?_) (fun fuel mi hI => ?_) n 0 1000 m (by omega) (by omega) ht
    · have hj := fun j (hj : j < 97 ∨ 121 ≤ j) => zDays_j (p := p) (n := i) hj hc
      obtain ⟨m', g1, g2⟩ := zTri_day (k := State_passDrawn_b6 118 6 (Int32.ofNat n) p.2 fuel) (p1 := Int32.ofNat n) (p2 := p.2) (v5 := Int32.ofNat i) (hj 0 (by omega)).2 (zWs_days hw hc hh i (by omega)) (by rw [(hj 3 (by omega)).1]; exact h3) (by rw [(hj 4 (by omega)).1]; exact h4) hI
      refine ⟨m', g1, ?_⟩
      rw [State_passDrawn_b6, if_pos ((z_lt (by omega) (by omega)).mpr hi), g2, z_s]
      rfl
    · rw [State_passDrawn_b6, if_neg (by rw [z_lt (by omega) (by omega)]; omega)]
      exact ⟨mi, rfl, hI⟩
  exact h0 _ _ rfl rfl
end ZDC
