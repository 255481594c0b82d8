/-! Layer 2. duel, the call -/
theorem tb_low {C k : Nat} (hC : C ≤ 8) (hk : k < 32) : tb (i_shl 1 (Int32.ofNat C) - 1) k = decide (k < C) := by
  have : ∀ C, C < 9 → ∀ k, k < 32 → tb (i_shl 1 (Int32.ofNat C) - 1) k = decide (k < C) := by decide +kernel
  exact this C (by omega) k hk
theorem zRel_duel {C0 M0 mC' mM' : xMem} (H : zRel C0 M0) (hC1 : ∀ c, c ≠ 0 → mC'.1 c = C0.1 c) (hC0 : ∀ j, j ≠ 17 → mC'.1 0 j = C0.1 0 j) (hCL : mC'.2 = C0.2) (hM1 : ∀ c, c ≠ 0 → c ≠ 8 → c ≠ 15 → c ≠ 16 → mM'.1 c = M0.1 c) (hM0 : ∀ j, j ≠ 40 → j ≠ 41 → mM'.1 0 j = M0.1 0 j) (hML : mM'.2 = M0.2) (du : zDu mC' mM') : zRel mC' mM' := by
  obtain ⟨r1, r2, r3, r4, r5, r6, r7, r8, r9, r10, r11, r12, r13, r14, r15, r16⟩ := id H
  refine zRel_mk (fun c hc => hC1 c (by omega)) (fun c hc => by rw [hCL]) (fun c hc => hM1 c (by omega) (by omega) (by omega) (by omega)) (hM0 24 (by omega) (by omega)) (fun c hc => by rw [hML]) (zTp_tr (by rw [hC1 1 (by omega)]) (hC1 2 (by omega)) (hM0 2 (by omega) (by omega)) (hM1 1 (by omega) (by omega) (by omega) (by omega)) r6) ?_ (zLs_tr (by rw [hC1 165 (by omega)]) (hC1 166 (by omega)) (hM0 27 (by omega) (by omega)) (hM1 9 (by omega) (by omega) (by omega) (by omega)) r9) ?_ (zLs_tr (by rw [hC1 170 (by omega)]) (hC1 179 (by omega)) (hM0 35 (by omega) (by omega)) (hM1 13 (by omega) (by omega) (by omega) (by omega)) r11) (zLs_tr (hC0 14 (by omega)) (hC1 182 (by omega)) (hM0 37 (by omega) (by omega)) (hM1 14 (by omega) (by omega) (by omega) (by omega)) r12) ?_ du (zTo_tr (hC1 76 (by omega)) (hM0 47 (by omega) (by omega)) (hM1 18 (by omega) (by omega) (by omega) (by omega)) r15) (zWr_tr (by rw [hC1 180 (by omega)]) (hC1 181 (by omega)) (hM0 43 (by omega) (by omega)) (hM1 17 (by omega) (by omega) (by omega) (by omega)) r16) H
  · unfold zFa; rw [hC0 18 (by omega), hM0 15 (by omega) (by omega)]; exact r8
  · unfold zSpN; rw [hC1 165 (by omega), hM0 28 (by omega) (by omega)]; exact r10
  · unfold zKe; rw [hC0 15 (by omega), hC0 16 (by omega), hM0 29 (by omega) (by omega), hM0 30 (by omega) (by omega), hM0 31 (by omega) (by omega)]; exact r13
theorem zN_s {P : Nat → Bool} {n : Nat} : zFst P (n + 1) = match zFst P n with | some i => some i | none => if P n then some n else none := rfl
/-- the model's opening -/
theorem zM_open {a0 a1 a2 : Int32} {M0 m : xMem} {W : Nat → Bool} (hc : zCt (M0.1 2)) (h2 : m.1 2 = M0.1 2) (h15 : ∀ u, u < 2 ^ zC (M0.1 2) → m.1 15 u = zb (W u)) : M_duel_b85 a0 a1 a2 1000 (zb (W 0)) (-1) 0 m = some (zb (W 0 || (zFst (fun i => zFr (M0.1 2) i && W (2 ^ i)) (zC (M0.1 2))).isSome), upI (upI m 0 41 1) 0 40 (if W 0 then -1 else zN (zFst (fun i => zFr (M0.1 2) i && W (2 ^ i)) (zC (M0.1 2))))) := by
  have c8 := hc.2.2.2
  have hP := zP256 (C := zC (M0.1 2)) (by omega)
  have eC : m.1 2 2 = Int32.ofNat (zC (M0.1 2)) := by rw [h2, hc.2.2.1]
  generalize hQ : (fun i => zFr (M0.1 2) i && W (2 ^ i)) = P
  cases hW : W 0 with
  | true =>
    refine z_loop (fun f i => M_duel_b85 a0 a1 a2 f (zb true) (-1) (Int32.ofNat i) m) (zC (M0.1 2)) _ (fun f i hi => ?_) (fun f => ?_) (zC (M0.1 2)) 0 1000 (by omega) (by omega)
    · rw [M_duel_b85, eC, if_pos ((z_lt (by omega) (by omega)).mpr hi), if_neg (show ¬ zb true = 0 by decide), z_s]
    · rw [M_duel_b85, eC, if_neg (fun q => Nat.lt_irrefl _ ((z_lt (by omega) (by omega)).mp q)), nm_eq, nm_eq, if_neg (show ¬ zb true = 0 by decide)]
      rfl
  | false =>
    have h0 : ∀ a b : Int32, a = zb (zFst P 0).isSome → b = zN (zFst P 0) → M_duel_b85 a0 a1 a2 1000 a b (Int32.ofNat 0) m = some (zb (zFst P (zC (M0.1 2))).isSome, upI (upI m 0 41 1) 0 40 (zN (zFst P (zC (M0.1 2))))) := by
      intro a b ea eb
      subst ea
      subst eb
      refine z_loop (fun f i => M_duel_b85 a0 a1 a2 f (zb (zFst P i).isSome) (zN (zFst P i)) (Int32.ofNat i) m) (zC (M0.1 2)) _ (fun f i hi => ?_) (fun f => ?_) (zC (M0.1 2)) 0 1000 (by omega) (by omega)
      · have hlt : 2 ^ i < 2 ^ zC (M0.1 2) := Nat.pow_lt_pow_right (by omega) hi
        rw [M_duel_b85, eC, if_pos ((z_lt (by omega) (by omega)).mpr hi), z_s, zN_s]
        cases hq : zFst P i with
        | some j =>
          rw [if_neg (show ¬ zb (some j).isSome = 0 from show ¬ zb true = 0 by decide)]
        | none =>
          rw [if_pos (show zb (none : Option Nat).isSome = 0 from rfl), h2, zM_bit, Option.bind_some, z_shl2 (by omega), z_ix (show 2 ^ i < 256 by omega) (by omega), Option.bind_some, h15 _ hlt]
          have hPi : P i = (zFr (M0.1 2) i && W (2 ^ i)) := by rw [← hQ]
          have hfr : zFr (M0.1 2) i = !tb (M0.1 2 98) i := by unfold zFr; rw [decide_eq_true hi, Bool.true_and]
          rw [hPi, hfr]
          cases ht : tb (M0.1 2 98) i with
          | true =>
            rw [decide_eq_true ((z_bit1 (by omega)).mpr ht), if_neg (show ¬ zb true = 0 by decide)]
            rfl
          | false =>
            rw [decide_eq_false (fun e => by rw [(z_bit1 (by omega)).mp e] at ht; cases ht), if_pos (show zb false = 0 from rfl)]
            cases W (2 ^ i) with
            | true => rw [if_neg (show ¬ zb true = 0 by decide)]; rfl
            | false => rw [if_pos (show zb false = 0 from rfl)]; rfl
      · rw [M_duel_b85, eC, if_neg (fun q => Nat.lt_irrefl _ ((z_lt (by omega) (by omega)).mp q)), nm_eq, nm_eq]
        cases zFst P (zC (M0.1 2)) with
        | none => rfl
        | some j => rfl
    have := h0 (zb false) (-1) rfl rfl
    rw [Bool.false_or]
    exact this
theorem zP_duel : lS_duel zRel := by
  intro mC mM x y z hR
  have hR1 := zRel_thr hR 0
  unfold M_duel
  rw [nm_eq]
  generalize upI mM 0 0 0 = m1 at hR1 ⊢
  have hc := hR1.1.1
  have hw := hR1.1.2.2.2
  have o6 := hc.2.1.2
  have c8 := hc.2.2.2
  obtain ⟨hH, hT, hU, -⟩ := hR1.2.1
  unfold O_duel
  rw [zC_hasOwl hH hc, zM_isOwl rfl hc, zM_in, zM_in, z_lt5 (n := 4) (by decide), z_lt5' (n := 4) (by decide), z_rng, Option.bind_some, Option.bind_some, Option.bind_some, Option.bind_some]
  simp only [zb_0]
  cases hx : zIs (zO (m1.1 2)) x with
  | false => exact ⟨-1, mC, m1, rfl, rfl, hR1⟩
  | true =>
    cases hy : zIs (4 + 1) y with
    | false => exact ⟨-1, mC, m1, rfl, rfl, hR1⟩
    | true =>
      cases hz : (!decide (z < 1) && !decide (4 < z)) with
      | false => exact ⟨-1, mC, m1, rfl, rfl, hR1⟩
      | true =>
        obtain ⟨o, ho, rfl⟩ := zIs_q hx
        obtain ⟨n, n1, n4, rfl⟩ := z_rngq (A := 1) (B := 4) hz (by decide) (by decide)
        simp only [Bool.true_eq_false, if_false, if_true]
        obtain ⟨es, hb⟩ := zSit_eq hw hc ho
        rw [nm_eq, z_pred n1 (by omega)]
        generalize hk : n - 1 = k
        generalize e1 : upI mC 0 17 (-1) = c1
        have f1 : ∀ c, c ≠ 0 → c1.1 c = mC.1 c := fun c h => by rw [← e1, upI_ne' h]
        have f0 : ∀ j, j ≠ 17 → c1.1 0 j = mC.1 0 j := fun j h => by rw [← e1, upI_nj h]
        have f17 : c1.1 0 17 = -1 := by rw [← e1, upI_at]
        have fL : c1.2 = mC.2 := by rw [← e1]; rfl
        have hH1 : zH c1 6 (m1.1 2) := zH_tr hc (fun c h1 h2 => f1 c (by omega)) (fun _ _ => rfl) hH
        have hT1 : zT c1 33 (m1.1 2) := zT_tr hc (zSame_of (fun c h1 h2 => f1 c (by omega))) (fun _ _ => rfl) hT
        rw [z_ix (show o < 6 by omega) (by omega), Option.bind_some, hT1.2.2.2.2 o ho, es, zC_heardNow hH1 hT1 hc ho hb, Option.bind_some, nm_eq, hH1.2.2.2.2.2.2.1, hc.2.2.1, hT1.2.1]
        generalize e3 : zSet (zHeard (m1.1 2) o (zSit (m1.1 2) o)) (zC (m1.1 2) + 1) = x3
        generalize e4 : (i_shl 1 (Int32.ofNat (zC (m1.1 2))) - 1) &&& (m1.1 2 98 ^^^ -1) = x4
        have t3 : ∀ i, i < 32 → tb x3 i = (decide (i < zC (m1.1 2) + 1) && zHeard (m1.1 2) o (zSit (m1.1 2) o) i) := fun i hi => by rw [← e3, tb_zSet _ (by omega)]
        have t4 : ∀ i, i < 32 → tb x4 i = zFr (m1.1 2) i := fun i hi => by
          rw [← e4, tb_and, tb_low (by omega) hi, tb_xor, tb_m1 hi]
          unfold zFr
          cases tb (m1.1 2 98) i <;> rfl
        have hE0 := zC_ends (m := c1) (p1 := y) hH1 hT1 hc hw ho k 6 false 0 x3 x4 (by omega) (by omega) (Nat.two_pow_pos _) (fun i hi => by rw [t3 i hi, Nat.zero_testBit]; simp) (fun i hi => by rw [t4 i hi, Nat.zero_testBit]; simp)
        -- the model
        obtain ⟨mE, eE, jE, bE, cE⟩ := zM_ends (o := o) (p1 := y) hc hw ho
        obtain ⟨mG, eG, jG, bG, cG⟩ := zM_game (a0 := Int32.ofNat o) (a1 := y) (a2 := Int32.ofNat n) (k := k) (e0 := zE0 (m1.1 2) o y) (by omega) hc k 1000 mE (by omega) (by omega) jE bE (fun u hu => by rw [Nat.sub_self]; exact cE u hu)
        have hop := zM_open (a0 := Int32.ofNat o) (a1 := y) (a2 := Int32.ofNat n) (M0 := m1) (m := mG) (W := zWd (zE0 (m1.1 2) o y) (zFr (m1.1 2)) (zC (m1.1 2)) k false) hc bG cG
        rw [eE, Option.bind_some, nm_eq, eG, cG 0 (Nat.two_pow_pos _), hop, show (0 : Int32) = zb false from rfl, hE0, Option.bind_some]
        generalize hWW : zWd (zE0 (m1.1 2) o y) (zFr (m1.1 2)) (zC (m1.1 2)) k false = W at hop hE0 ⊢
        have frM : ∀ v, (∀ c, c ≠ 0 → c ≠ 8 → c ≠ 15 → c ≠ 16 → (upI (upI mG 0 41 1) 0 40 v).1 c = m1.1 c) ∧ (∀ j, j ≠ 40 → j ≠ 41 → (upI (upI mG 0 41 1) 0 40 v).1 0 j = m1.1 0 j) ∧ (upI (upI mG 0 41 1) 0 40 v).2 = m1.2 := fun v => ⟨fun c c1 c2 c3 c4 => by
          rw [upI_ne' c1, upI_ne' c1]
          by_cases h2 : c = 2
          · rw [h2, bG]
          · exact jG.1 c h2 c2 c3 c4, fun j h1 h2 => by rw [upI_nj h1, upI_nj h2, jG.1 0 (by omega) (by omega) (by omega) (by omega)], jG.2⟩
        have d41 : ∀ v, (upI (upI mG 0 41 1) 0 40 v).1 0 41 = 1 ∧ (upI (upI mG 0 41 1) 0 40 v).1 0 40 = v := fun v => ⟨by rw [upI_nj (by omega), upI_at], upI_at⟩
        cases hW0 : W 0 with
        | true =>
          rw [if_neg (show ¬ zb true = zb false by decide), Bool.true_or, if_pos (show true = true from rfl)]
          exact ⟨1, c1, _, rfl, rfl, zRel_duel hR1 f1 f0 fL (frM _).1 (frM _).2.1 (frM _).2.2 (Or.inr ⟨(d41 _).1, by rw [f17, (d41 _).2]⟩)⟩
        | false =>
          rw [if_pos (show zb false = zb false from rfl), Bool.false_or, if_neg (show ¬ false = true by decide)]
          have hC := z_scan (fun f i => O_duel_b114 (Int32.ofNat o) y (Int32.ofNat n) f x3 x4 (Int32.ofNat i) c1) (zC (m1.1 2)) (fun i => zFr (m1.1 2) i && W (2 ^ i)) (fun i => some (1, upI c1 0 17 (Int32.ofNat i))) (some (0, c1)) (fun f i hi hp => ?_) (fun f i hi hp => ?_) (fun f => ?_) (fuel := 1000) (by omega)
          · refine (show ∃ v mC' mM', O_duel_b114 (Int32.ofNat o) y (Int32.ofNat n) 1000 x3 x4 (Int32.ofNat 0) c1 = some (v, mC') ∧ _ = some (v, mM') ∧ zRel mC' mM' from ?_)
            rw [hC]
            cases hq : zFst (fun i => zFr (m1.1 2) i && W (2 ^ i)) (zC (m1.1 2)) with
            | none => exact ⟨0, c1, _, rfl, rfl, zRel_duel hR1 f1 f0 fL (frM _).1 (frM _).2.1 (frM _).2.2 (Or.inr ⟨(d41 _).1, by rw [f17, (d41 _).2]; rfl⟩)⟩
            | some i => exact ⟨1, _, _, rfl, rfl, zRel_duel hR1 (fun c h => by rw [upI_ne' h, f1 c h]) (fun j h => by rw [upI_nj h, f0 j h]) fL (frM _).1 (frM _).2.1 (frM _).2.2 (Or.inr ⟨(d41 _).1, by rw [upI_at, (d41 _).2]; rfl⟩)⟩
          all_goals
            have e8 : c1.1 6 8 = Int32.ofNat (zC (m1.1 2)) := by rw [hH1.2.2.2.2.2.2.1, hc.2.2.1]
            rw [O_duel_b114, e8]
          · have hE := zC_ends (m := c1) (p1 := y) hH1 hT1 hc hw ho k 6 false (2 ^ i) (x3 &&& (i_shl 1 (Int32.ofNat i) ^^^ (-1))) (x4 &&& (i_shl 1 (Int32.ofNat i) ^^^ (-1))) (by omega) (by omega) (Nat.pow_lt_pow_right (by omega) hi) (fun j hj => by
              rw [tb_and, tb_xor, tb_shl1 (by omega), tb_m1 hj, t3 j hj, Nat.testBit_two_pow]
              by_cases hji : j = i
              · subst hji; simp
              · have h2 : ¬ i = j := fun e => hji e.symm
                simp [hji, h2]) (fun j hj => by
              rw [tb_and, tb_xor, tb_shl1 (by omega), tb_m1 hj, t4 j hj, Nat.testBit_two_pow]
              by_cases hji : j = i
              · subst hji; simp
              · have h2 : ¬ i = j := fun e => hji e.symm
                simp [hji, h2])
            rw [hWW] at hE
            rw [Bool.and_eq_true] at hp
            rw [if_pos ((z_lt (by omega) (by omega)).mpr hi), nm_eq, if_pos ((z_bit1 (by omega)).mpr (by rw [t4 i (by omega)]; exact hp.1)), z_pred n1 (by omega), hk, show (0 : Int32) = zb false from rfl, hE, Option.bind_some, hp.2, if_neg (show ¬ zb true = zb false by decide), nm_eq]
          · have hE := zC_ends (m := c1) (p1 := y) hH1 hT1 hc hw ho k 6 false (2 ^ i) (x3 &&& (i_shl 1 (Int32.ofNat i) ^^^ (-1))) (x4 &&& (i_shl 1 (Int32.ofNat i) ^^^ (-1))) (by omega) (by omega) (Nat.pow_lt_pow_right (by omega) hi) (fun j hj => by
              rw [tb_and, tb_xor, tb_shl1 (by omega), tb_m1 hj, t3 j hj, Nat.testBit_two_pow]
              by_cases hji : j = i
              · subst hji; simp
              · have h2 : ¬ i = j := fun e => hji e.symm
                simp [hji, h2]) (fun j hj => by
              rw [tb_and, tb_xor, tb_shl1 (by omega), tb_m1 hj, t4 j hj, Nat.testBit_two_pow]
              by_cases hji : j = i
              · subst hji; simp
              · have h2 : ¬ i = j := fun e => hji e.symm
                simp [hji, h2])
            rw [hWW] at hE
            rw [if_pos ((z_lt (by omega) (by omega)).mpr hi), nm_eq]
            by_cases hfr : zFr (m1.1 2) i = true
            · rw [hfr, Bool.true_and] at hp
              rw [if_pos ((z_bit1 (by omega)).mpr (by rw [t4 i (by omega)]; exact hfr)), z_pred n1 (by omega), hk, show (0 : Int32) = zb false from rfl, hE, Option.bind_some, hp, if_pos (show zb false = zb false from rfl), z_s]
            · rw [if_neg (fun e => hfr (by rw [← t4 i (by omega)]; exact (z_bit1 (by omega)).mp e)), z_s]
          · rw [if_neg (fun q => Nat.lt_irrefl _ ((z_lt (by omega) (by omega)).mp q))]
