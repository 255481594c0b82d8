/-! Layer 2. The class's hour -/
section ZHC
variable {m m' : xMem} {σ : zR} {k s : Nat}
theorem zT_tr3 (h0 : ∀ j, j < 2 → m'.1 s j = m.1 s j) (h1 : m'.1 (s + 1) = m.1 (s + 1)) (h2 : m'.1 (s + 2) = m.1 (s + 2)) (H : zT m s σ) : zT m' s σ := by
  unfold zT
  rw [h0 0 (by omega), h0 1 (by omega), h1, h2]
  exact H
theorem zH_trC (hc : zCt σ) (h : ∀ c, k ≤ c → c < k + 27 → m'.1 c = m.1 c) (H : zH m k σ) : zH m' k σ := zH_tr hc h (fun _ _ => rfl) H
/-- what an owl looks at now, out of the bits that are on -/
theorem zC_lookOn (hH : zH m k σ) (hT : zT m s σ) (hc : zCt σ) {o b : Nat} (ho : o < zO σ) (hb : b < zB σ) (hs : zShut σ = false) {ρ9 : Type} {r : Int32 → Option ρ9} : ((State_heardBits m s k (Int32.ofNat o) (Int32.ofNat b) (zSet (zOn σ) (zC σ + 1))).bind fun r4 => (State_loudest m s k (Int32.ofNat b) r4).bind r) = r (zN (zSeen σ o b)) := by
  have h8 := hc.2.2.2
  have h1 := zC_heardOn (a := 0) hH hT hc ho hb (by rw [zAdv_0]; exact hs)
  rw [zAdv_0] at h1
  rw [h1]
  simp only [Option.bind_some]
  have hbt : ∀ i, i ≤ zC σ → tb (zSet (zHeard σ o b) (zC σ + 1)) i = zHeard σ o b i := fun i hi => by
    rw [tb_zSet _ (by omega), show decide (i < zC σ + 1) = true by rw [decide_eq_true_eq]; omega, Bool.true_and]
  rw [zC_loudest hH hc hb (fun i hi h => by
    rw [hbt i hi] at h
    have := zC_rowOn (a := 0) hH hT hc hi (by
      unfold zHeard at h
      simp only [Bool.and_eq_true] at h
      exact h.2.1)
    exact this)]
  simp only [Option.bind_some]
  unfold zSeen
  rw [zBest_congr (fun i hi => hbt i (by omega)) (fun _ _ _ => rfl)]
theorem zC_miss {k19 : Int32 → Int32 → Int32 → xMem → Option xMem} {g : Nat → Int32} {v3 : Int32} (hks : k + 27 ≤ s ∨ s + 5 ≤ k) (hH : zH m k σ) (hT : zT m s σ) (hc : zCt σ) {b : Nat} (hb : b < zB σ) : State_passHour_b90 s k k19 1000 (zSet (zOn σ) (zC σ + 1)) v3 (Int32.ofNat b) (zN (zAt σ b)) 0 (upR m (s + 4) g) = k19 (zSet (zOn σ) (zC σ + 1)) v3 (Int32.ofNat b + 1) (upR m (s + 4) (fun j => if j = b then zAcc (g b) (zMis σ b) (zC σ + 1) else g j)) := by
  have c8 := hc.2.2.2
  have b6 := hc.1.2
  have h0 : ∀ (m0 : xMem) (a : Int32), m0 = upR m (s + 4) (fun j => if j = b then zAcc (g b) (zMis σ b) 0 else g j) → a = Int32.ofNat 0 → State_passHour_b90 s k k19 1000 (zSet (zOn σ) (zC σ + 1)) v3 (Int32.ofNat b) (zN (zAt σ b)) a m0 = k19 (zSet (zOn σ) (zC σ + 1)) v3 (Int32.ofNat b + 1) (upR m (s + 4) (fun j => if j = b then zAcc (g b) (zMis σ b) (zC σ + 1) else g j)) := by
    intro m0 a e ea
    subst e
    subst ea
    refine z_loop (fun fuel i => State_passHour_b90 s k k19 fuel (zSet (zOn σ) (zC σ + 1)) v3 (Int32.ofNat b) (zN (zAt σ b)) (Int32.ofNat i) (upR m (s + 4) (fun j => if j = b then zAcc (g b) (zMis σ b) i else g j))) (zC σ + 1) _ (fun fuel i hi => ?_) (fun fuel => ?_) (zC σ + 1) 0 1000 (by omega) (by omega)
    · have hH2 : zH (upR m (s + 4) (fun j => if j = b then zAcc (g b) (zMis σ b) i else g j)) k σ := zH_trC hc (fun c c1 c2 => upR_ne' (by omega)) hH
      have hT2 : zT (upR m (s + 4) (fun j => if j = b then zAcc (g b) (zMis σ b) i else g j)) s σ := zT_tr3 (fun j _ => by rw [upR_ne' (by omega)]) (upR_ne' (by omega)) (upR_ne' (by omega)) hT
      have hbit : tb (zSet (zOn σ) (zC σ + 1)) i = zOn σ i := by
        rw [tb_zSet _ (by omega), show decide (i < zC σ + 1) = true by rw [decide_eq_true_eq]; exact hi, Bool.true_and]
      rw [State_passHour_b90, hH2.2.2.2.2.2.2.1, hc.2.2.1, if_neg (by rw [z_lt (by omega) (by omega)]; omega), z_s]
      cases ho : zOn σ i with
      | false =>
        have hm : zMis σ b i = false := by unfold zMis; simp [ho]
        rw [if_neg (fun e => by rw [z_bit1 (by omega), hbit, ho] at e; cases e), zAcc, hm]
        rfl
      | true =>
        rw [if_pos ((z_bit1 (by omega)).mpr (by rw [hbit, ho]))]
        by_cases hs : zAt σ b = some i
        · have hm : zMis σ b i = false := by unfold zMis; simp [hs]
          rw [if_pos ((zN_eq (by omega) (fun k hk => by have := zAt_lt hk; omega)).mpr hs), zAcc, hm]
          rfl
        · rw [if_neg (fun e => hs ((zN_eq (by omega) (fun k hk => by have := zAt_lt hk; omega)).mp e))]
          obtain ⟨r, e, r0, r1, r2, r3⟩ := zC_rowOn (a := 0) hH2 hT2 hc (show i ≤ zC σ by omega) ho
          rw [e]
          simp only [Option.bind_some]
          rw [zC_loud hH2 hc hb r1 r2 r3]
          simp only [Option.bind_some]
          show (if zLoud σ i b < 5 then _ else _) = _
          by_cases hl : zLoud σ i b < 5
          · have hm : zMis σ b i = false := by unfold zMis; simp [hl]
            rw [if_pos hl, zAcc, hm]
            rfl
          · have hm : zMis σ b i = true := by unfold zMis; simp [hl, ho, hs]
            rw [if_neg hl, z_ix (show b < 6 by omega) (by omega)]
            simp only [Option.bind_some]
            rw [nm_eq, upI_upR, upR_at', if_pos rfl, zAcc, hm]
            congr 1
            refine upR_cg (fun j => ?_)
            by_cases h : j = b
            · rw [if_pos h, if_pos h, if_pos rfl]
            · rw [if_neg h, if_neg h, if_neg h]
    · have hH2 : zH (upR m (s + 4) (fun j => if j = b then zAcc (g b) (zMis σ b) (zC σ + 1) else g j)) k σ := zH_trC hc (fun c c1 c2 => upR_ne' (by omega)) hH
      rw [State_passHour_b90, hH2.2.2.2.2.2.2.1, hc.2.2.1, if_pos (by rw [z_lt (by omega) (by omega)]; omega)]
  exact h0 _ _ (upR_cg (fun j => by
    by_cases h : j = b
    · rw [if_pos h, h]; rfl
    · rw [if_neg h])) rfl
theorem upR_cg2 {c d : Nat} {f f' g g' : Nat → Int32} (h : ∀ i, f i = f' i) (h2 : ∀ i, g i = g' i) : upR (upR m c f) d g = upR (upR m c f') d g' := by
  rw [show f = f' from funext h, show g = g' from funext h2]
theorem zC_hour (hks : k + 27 ≤ s ∨ s + 5 ≤ k) (hH : zH m k σ) (hT : zT m s σ) (hU : zU m s σ) (hc : zCt σ) : ∃ m', State_passHour m s k = some m' ∧ zT m' s (zHr σ) ∧ zU m' s (zHr σ) ∧ (∀ c, c < s ∨ s + 5 ≤ c → m'.1 c = m.1 c) ∧ m'.2 = m.2 := by
  have c8 := hc.2.2.2
  have b6 := hc.1.2
  have o6 := hc.2.1.2
  -- the memory behind n beds
  have hM : ∀ n, n ≤ zB σ → ∃ mn, mn = upR (upR m (s + 3) (fun j => if j < n then zKn σ j else m.1 (s + 3) j)) (s + 4) (fun j => if j < n then zMi σ j else m.1 (s + 4) j) ∧ zH mn k σ ∧ zT mn s σ := fun n hn => by
    have hne : ∀ c, c ≠ s + 3 → c ≠ s + 4 → (upR (upR m (s + 3) (fun j => if j < n then zKn σ j else m.1 (s + 3) j)) (s + 4) (fun j => if j < n then zMi σ j else m.1 (s + 4) j)).1 c = m.1 c := fun c c1 c2 => by rw [upR_ne' c2, upR_ne' c1]
    exact ⟨_, rfl, zH_trC hc (fun c c1 c2 => hne c (by omega) (by omega)) hH, zT_tr3 (fun j _ => by rw [hne s (by omega) (by omega)]) (hne _ (by omega) (by omega)) (hne _ (by omega) (by omega)) hT⟩
  have eOn : State_onBits m s k 0 = some (zSet (zOn σ) (zC σ + 1)) := by
    rw [show (0 : Int32) = Int32.ofNat 0 from rfl, zC_on hH hT hc (by omega), zAdv_0]
  have eSh : House_shutAt m k (m.1 s 0) = some (zb (zShut σ)) := by
    rw [zC_shut hH hc 0 (by rw [hT.1]; simp), zAdv_0]
  obtain ⟨mB, eB, hHB, hTB⟩ := hM (zB σ) (by omega)
  have key : State_passHour_b19 s k 1000 (zSet (zOn σ) (zC σ + 1)) (zb (zShut σ)) 0 m = some (upI (upI mB s 0 (mB.1 s 0 + 1)) (s + 1) 3 0) := by
    have h0 : ∀ (m0 : xMem) (a : Int32), m0 = upR (upR m (s + 3) (fun j => if j < 0 then zKn σ j else m.1 (s + 3) j)) (s + 4) (fun j => if j < 0 then zMi σ j else m.1 (s + 4) j) → a = Int32.ofNat 0 → State_passHour_b19 s k 1000 (zSet (zOn σ) (zC σ + 1)) (zb (zShut σ)) a m0 = some (upI (upI mB s 0 (mB.1 s 0 + 1)) (s + 1) 3 0) := by
      intro m0 a e ea
      subst e
      subst ea
      refine z_loop (fun fuel i => State_passHour_b19 s k fuel (zSet (zOn σ) (zC σ + 1)) (zb (zShut σ)) (Int32.ofNat i) (upR (upR m (s + 3) (fun j => if j < i then zKn σ j else m.1 (s + 3) j)) (s + 4) (fun j => if j < i then zMi σ j else m.1 (s + 4) j))) (zB σ) _ (fun fuel b hb => ?_) (fun fuel => ?_) (zB σ) 0 1000 (by omega) (by omega)
      · obtain ⟨mb, eb, hHb, hTb⟩ := hM b (by omega)
        have fin : State_passHour_b68 s k (State_passHour_b19 s k fuel) (zSet (zOn σ) (zC σ + 1)) (zb (zShut σ)) (Int32.ofNat b) (zN (zAt σ b)) mb = State_passHour_b19 s k fuel (zSet (zOn σ) (zC σ + 1)) (zb (zShut σ)) (Int32.ofNat (b + 1)) (upR (upR m (s + 3) (fun j => if j < b + 1 then zKn σ j else m.1 (s + 3) j)) (s + 4) (fun j => if j < b + 1 then zMi σ j else m.1 (s + 4) j)) := by
          have hk3 : mb.1 (s + 3) b = σ (109 + b) := by rw [eb, upR_ne' (by omega), upR_at', if_neg (by omega)]; exact (hU.2 b hb).1
          have hmi : ∀ g' : Nat → Int32, (∀ j, g' j = if j < b then zMi σ j else m.1 (s + 4) j) → ∀ j, (if j = b then zAcc (g' b) (zMis σ b) (zC σ + 1) else g' j) = if j < b + 1 then zMi σ j else m.1 (s + 4) j := fun g' hg j => by
            by_cases h : j = b
            · subst h
              rw [if_pos rfl, if_pos (by omega), hg, if_neg (by omega), (hU.2 j hb).2]
              rfl
            · rw [if_neg h, hg]
              by_cases h2 : j < b
              · rw [if_pos h2, if_pos (by omega)]
              · rw [if_neg h2, if_neg (by omega)]
          unfold State_passHour_b68
          cases hq : zAt σ b with
          | none =>
            rw [← hq, if_pos (by rw [hq]; rfl), eb]
            have hH3 : zH (upR m (s + 3) (fun j => if j < b then zKn σ j else m.1 (s + 3) j)) k σ := zH_trC hc (fun c c1 c2 => upR_ne' (by omega)) hH
            have hT3 : zT (upR m (s + 3) (fun j => if j < b then zKn σ j else m.1 (s + 3) j)) s σ := zT_tr3 (fun j _ => by rw [upR_ne' (by omega)]) (upR_ne' (by omega)) (upR_ne' (by omega)) hT
            rw [zC_miss hks hH3 hT3 hc hb, z_s]
            congr 1
            refine upR_cg2 (fun j => ?_) (hmi _ (fun _ => rfl))
            by_cases h : j = b
            · subst h
              rw [if_neg (by omega), if_pos (by omega), (hU.2 j hb).1]
              unfold zKn
              rw [hq]
              rfl
            · by_cases h2 : j < b
              · rw [if_pos h2, if_pos (by omega)]
              · rw [if_neg h2, if_neg (by omega)]
          | some i =>
            have hi := zAt_lt hq
            rw [← hq, if_neg (by rw [hq]; exact z_nm1 (by omega)), z_ix (show b < 6 by omega) (by omega)]
            simp only [Option.bind_some]
            rw [nm_eq, hk3, eb, upI_upRR (by omega)]
            have hH3 : zH (upR m (s + 3) (fun i_1 => if i_1 = b then σ (109 + b) + 1 else if i_1 < b then zKn σ i_1 else m.1 (s + 3) i_1)) k σ := zH_trC hc (fun c c1 c2 => upR_ne' (by omega)) hH
            have hT3 : zT (upR m (s + 3) (fun i_1 => if i_1 = b then σ (109 + b) + 1 else if i_1 < b then zKn σ i_1 else m.1 (s + 3) i_1)) s σ := zT_tr3 (fun j _ => by rw [upR_ne' (by omega)]) (upR_ne' (by omega)) (upR_ne' (by omega)) hT
            rw [zC_miss hks hH3 hT3 hc hb, z_s]
            congr 1
            refine upR_cg2 (fun j => ?_) (hmi _ (fun _ => rfl))
            by_cases h : j = b
            · subst h
              rw [if_pos rfl, if_pos (by omega)]
              unfold zKn
              rw [hq]
              rfl
            · rw [if_neg h]
              by_cases h2 : j < b
              · rw [if_pos h2, if_pos (by omega)]
              · rw [if_neg h2, if_neg (by omega)]
        rw [← eb, State_passHour_b19, hHb.2.2.2.2.1, hc.1.1, if_pos ((z_lt (by omega) (by omega)).mpr hb), zC_owlAt hHb hTb hc]
        simp only [Option.bind_some]
        cases hq : zOwl σ (Int32.ofNat b) with
        | none =>
          have ha : zAt σ b = none := by unfold zAt; rw [hq]
          rw [ha] at fin
          rw [show zN none = -1 from rfl, if_pos rfl]
          exact fin
        | some o =>
          have ho := (zOwl_lt hq).1
          have ha : zAt σ b = zSeen σ o b := by unfold zAt; rw [hq]
          rw [show zN (some o) = Int32.ofNat o from rfl, if_neg (z_nm1 (by omega))]
          cases hs : zShut σ with
          | true =>
            have hn : zAt σ b = none := by
              rw [ha]
              unfold zSeen
              exact zBest_no (fun i _ => by unfold zHeard; rw [hs]; rfl)
            rw [hn, hs] at fin
            rw [if_neg (show ¬ zb true = 0 by decide)]
            exact fin
          | false =>
            rw [if_pos (show zb false = 0 by rfl), zC_lookOn hHb hTb hc ho hb hs]
            rw [ha, hs] at fin
            exact fin
      · rw [← eB, State_passHour_b19, hHB.2.2.2.2.1, hc.1.1, if_neg (by rw [z_lt (by omega) (by omega)]; omega)]
        simp only [nm]
    have e0 : upR (upR m (s + 3) (fun j => if j < 0 then zKn σ j else m.1 (s + 3) j)) (s + 4) (fun j => if j < 0 then zMi σ j else m.1 (s + 4) j) = m := by
      rw [show (fun j => if j < 0 then zKn σ j else m.1 (s + 3) j) = m.1 (s + 3) from funext (fun j => if_neg (by omega)), upR_id, show (fun j => if j < 0 then zMi σ j else m.1 (s + 4) j) = m.1 (s + 4) from funext (fun j => if_neg (by omega)), upR_id]
    exact h0 _ _ e0.symm rfl
  have f1 : ∀ c, c ≠ s + 3 → c ≠ s + 4 → mB.1 c = m.1 c := fun c c1 c2 => by rw [eB, upR_ne' c2, upR_ne' c1]
  have hO : zO (zHr σ) = zO σ := zO_tr (by unfold zHr; rw [if_neg (by omega), if_neg (by omega), zHk_lt (by omega)])
  have hBB : zB (zHr σ) = zB σ := zB_tr (by unfold zHr; rw [if_neg (by omega), if_neg (by omega), zHk_lt (by omega)])
  have hlow : ∀ j, j < 109 → j ≠ 97 → j ≠ 100 → zHr σ j = σ j := fun j h1 h2 h3 => by unfold zHr; rw [if_neg h2, if_neg h3, zHk_lt h1]
  refine ⟨upI (upI mB s 0 (mB.1 s 0 + 1)) (s + 1) 3 0, ?_, ?_, ?_, fun c hc2 => ?_, ?_⟩
  · unfold State_passHour
    rw [eOn, eSh]
    simp only [Option.bind_some]
    exact key
  · obtain ⟨t0, t1, t2, t3, t4⟩ := hT
    unfold zT
    rw [hO]
    refine ⟨?_, ?_, ?_, fun h => ?_, fun o ho => ?_⟩
    · rw [upI_ne' (by omega), upI_at, f1 s (by omega) (by omega), t0]
      unfold zHr
      rw [if_pos rfl]
    · rw [upI_ne' (by omega), upI_nj (by omega), f1 s (by omega) (by omega), t1, hlow 98 (by omega) (by omega) (by omega)]
    · rw [upI_at]
      unfold zHr
      rw [if_neg (by omega), if_pos rfl]
    · exfalso
      unfold zHr at h
      rw [if_neg (by omega), if_pos rfl] at h
      exact absurd h (by decide)
    · rw [upI_ne' (by omega), upI_ne' (by omega), f1 (s + 2) (by omega) (by omega), t4 o ho, hlow (103 + o) (by omega) (by omega) (by omega)]
  · unfold zU
    rw [hBB]
    refine ⟨?_, fun b hb => ⟨?_, ?_⟩⟩
    · rw [upI_ne' (by omega), upI_nj (by omega), f1 s (by omega) (by omega), hU.1, hlow 99 (by omega) (by omega) (by omega)]
    · rw [upI_ne' (by omega), upI_ne' (by omega), eB, upR_ne' (by omega), upR_at', if_pos hb]
      unfold zHr zHk
      rw [if_neg (by omega), if_neg (by omega), if_pos (by omega), show 109 + b - 109 = b by omega]
    · rw [upI_ne' (by omega), upI_ne' (by omega), eB, upR_at', if_pos hb]
      unfold zHr zHk
      rw [if_neg (by omega), if_neg (by omega), if_neg (by omega), if_pos (by omega), show 115 + b - 115 = b by omega]
  · rw [upI_ne' (by omega), upI_ne' (by omega), f1 c (by omega) (by omega)]
  · rw [eB]; rfl
end ZHC
