/-! Layer 2. hush, let, shout, undo -/
theorem z_orx {x : Int32} {i : Nat} (hi : i < 32) (h : tb x i = false) : x ||| i_shl 1 (Int32.ofNat i) = x ^^^ i_shl 1 (Int32.ofNat i) := by
  apply tb_ext
  intro k hk
  rw [tb_or, tb_xor, tb_shl1 hi]
  by_cases hki : k = i
  · subst hki; rw [h]; simp
  · simp [hki]
theorem z_andx {x : Int32} {i : Nat} (hi : i < 32) (h : tb x i = true) : x &&& (i_shl 1 (Int32.ofNat i) ^^^ -1) = x ^^^ i_shl 1 (Int32.ofNat i) := by
  apply tb_ext
  intro k hk
  rw [tb_and, tb_xor, tb_xor, tb_shl1 hi, tb_m1 hk]
  by_cases hki : k = i
  · subst hki; rw [h]; simp
  · simp [hki]
theorem zP_hush : lS_hush zRel := by
  intro mC mM x hR
  have hR1 := zRel_thr hR 0
  simp only [M_hush, M_turns, nm]
  generalize upI mM 0 0 0 = m1 at hR1 ⊢
  have hc := hR1.1.1
  have hw := hR1.1.2.2.2
  have c8 := hc.2.2.2
  obtain ⟨hH, hT, hU, -⟩ := hR1.2.1
  unfold O_hush
  rw [zC_hasSound hH hc, zM_isSound rfl hc]
  simp only [Option.bind_some, zb_0]
  cases hx : zIs (zC (m1.1 2)) x with
  | false => exact ⟨-1, mC, m1, rfl, rfl, hR1⟩
  | true =>
    obtain ⟨i, hi, rfl⟩ := zIs_q hx
    obtain ⟨m, e, t1, t2, tH, tT, tU⟩ := zC_trial hR1
    simp only [Bool.true_eq_false, if_false]
    rw [e]
    simp only [Option.bind_some]
    unfold State_hushOne
    rw [tT.2.1]
    by_cases hs : (i_shr (m1.1 2 98) (Int32.ofNat i)) &&& 1 = 1
    · rw [if_pos hs, if_pos hs]
      simp only [Option.bind_some]
      rw [zC_done 1 (by decide)]
      exact ⟨1, m, m1, rfl, rfl, zRel_tr (zSC_trial t1 t2) zSM_rf hR1⟩
    · rw [if_neg hs, if_neg hs]
      have hbit : tb (m1.1 2 98) i = false := by
        rw [z_bit (show i < 32 by omega)] at hs
        cases hq : tb (m1.1 2 98) i with
        | false => rfl
        | true => rw [hq] at hs; exact absurd rfl hs
      obtain ⟨n, top, a1, a2, a3, a4, a5, a6⟩ := hR1.2.2.2.1
      obtain ⟨mK, eK, k1, k2, k3, k4⟩ := zM_keep a5 a1
      rw [eK]
      simp only [Option.bind_some, nm]
      rw [k2 2 (by omega) (by omega), z_orx (show i < 32 by omega) hbit]
      generalize hv : m1.1 2 98 ^^^ i_shl 1 (Int32.ofNat i) = v
      have hτ : ∀ j, (upI mK 2 98 v).1 2 j = if j = 98 then v else m1.1 2 j := fun j => by
        by_cases h : j = 98
        · rw [if_pos h, h, upI_at]
        · rw [if_neg h, upI_nj h, k2 2 (by omega) (by omega)]
      have hU' : zU (upI m 118 1 v) 118 ((upI mK 2 98 v).1 2) := zU_tr2 hc (upI_nj (by omega)) (upI_ne' (by omega)) (upI_ne' (by omega)) (by rw [hτ, if_neg (by omega)]) (by rw [hτ, if_neg (by omega)]) (fun j j1 j2 => by rw [hτ, if_neg (by omega)]) tU
      have hW' : zWs ((upI mK 2 98 v).1 2) := by
        obtain ⟨w1, w2, w3, w4⟩ := hw
        unfold zWs
        rw [zO_tr (σ := m1.1 2) (by rw [hτ, if_neg (by omega)]), zB_tr (σ := m1.1 2) (by rw [hτ, if_neg (by omega)]), zC_tr (σ := m1.1 2) (by rw [hτ, if_neg (by omega)]), hτ 97, hτ 98, hτ 100, if_neg (by omega), if_pos rfl, if_neg (by omega)]
        refine ⟨w1, fun k k1 k2 => ?_, w3, fun o2 ho2 => ?_⟩
        · rw [← hv, tb_xor, w2 k k1 k2, tb_shl1 (by omega)]
          simp
          omega
        · rw [hτ, if_neg (by have := hc.2.1.2; omega)]
          exact w4 o2 ho2
      obtain ⟨m', e', r'⟩ := zC_commit (m := upI m 118 1 v) (mM' := upI mK 2 98 v) hR1 (fun c hc2 => by rw [upI_ne' (by omega)]; exact t1 c hc2) t2 (fun j hj => by rw [hτ, if_neg (by omega)]) (zT_hush tT hτ) hU' hW' (zKp_tr k1 (upI_ne' (by omega)) (by rw [upI_ne' (by omega)])) (z_sk k2 k3 k4 (fun c hc2 => upI_ne' hc2) rfl)
      rw [zC_done0 e']
      exact ⟨0, m', _, rfl, rfl, r'⟩
theorem zP_let : lS_let zRel := by
  intro mC mM x hR
  have hR1 := zRel_thr hR 0
  simp only [M_let, M_turns, nm]
  generalize upI mM 0 0 0 = m1 at hR1 ⊢
  have hc := hR1.1.1
  have hw := hR1.1.2.2.2
  have c8 := hc.2.2.2
  obtain ⟨hH, hT, hU, -⟩ := hR1.2.1
  unfold O_let
  rw [zC_hasSound hH hc, zM_isSound rfl hc]
  simp only [Option.bind_some, zb_0]
  cases hx : zIs (zC (m1.1 2)) x with
  | false => exact ⟨-1, mC, m1, rfl, rfl, hR1⟩
  | true =>
    obtain ⟨i, hi, rfl⟩ := zIs_q hx
    obtain ⟨m, e, t1, t2, tH, tT, tU⟩ := zC_trial hR1
    simp only [Bool.true_eq_false, if_false]
    rw [e]
    simp only [Option.bind_some]
    unfold State_letOne
    rw [tT.2.1]
    by_cases hs : (i_shr (m1.1 2 98) (Int32.ofNat i)) &&& 1 = 0
    · rw [if_pos hs, if_pos hs]
      simp only [Option.bind_some]
      rw [zC_done 1 (by decide)]
      exact ⟨1, m, m1, rfl, rfl, zRel_tr (zSC_trial t1 t2) zSM_rf hR1⟩
    · rw [if_neg hs, if_neg hs]
      have hbit : tb (m1.1 2 98) i = true := by
        rw [z_bit (show i < 32 by omega)] at hs
        cases hq : tb (m1.1 2 98) i with
        | false => rw [hq] at hs; exact absurd rfl hs
        | true => rfl
      obtain ⟨n, top, a1, a2, a3, a4, a5, a6⟩ := hR1.2.2.2.1
      obtain ⟨mK, eK, k1, k2, k3, k4⟩ := zM_keep a5 a1
      rw [eK]
      simp only [Option.bind_some, nm]
      rw [k2 2 (by omega) (by omega), z_andx (show i < 32 by omega) hbit]
      generalize hv : m1.1 2 98 ^^^ i_shl 1 (Int32.ofNat i) = v
      have hτ : ∀ j, (upI mK 2 98 v).1 2 j = if j = 98 then v else m1.1 2 j := fun j => by
        by_cases h : j = 98
        · rw [if_pos h, h, upI_at]
        · rw [if_neg h, upI_nj h, k2 2 (by omega) (by omega)]
      have hU' : zU (upI m 118 1 v) 118 ((upI mK 2 98 v).1 2) := zU_tr2 hc (upI_nj (by omega)) (upI_ne' (by omega)) (upI_ne' (by omega)) (by rw [hτ, if_neg (by omega)]) (by rw [hτ, if_neg (by omega)]) (fun j j1 j2 => by rw [hτ, if_neg (by omega)]) tU
      have hW' : zWs ((upI mK 2 98 v).1 2) := by
        obtain ⟨w1, w2, w3, w4⟩ := hw
        unfold zWs
        rw [zO_tr (σ := m1.1 2) (by rw [hτ, if_neg (by omega)]), zB_tr (σ := m1.1 2) (by rw [hτ, if_neg (by omega)]), zC_tr (σ := m1.1 2) (by rw [hτ, if_neg (by omega)]), hτ 97, hτ 98, hτ 100, if_neg (by omega), if_pos rfl, if_neg (by omega)]
        refine ⟨w1, fun k k1 k2 => ?_, w3, fun o2 ho2 => ?_⟩
        · rw [← hv, tb_xor, w2 k k1 k2, tb_shl1 (by omega)]
          simp
          omega
        · rw [hτ, if_neg (by have := hc.2.1.2; omega)]
          exact w4 o2 ho2
      obtain ⟨m', e', r'⟩ := zC_commit (m := upI m 118 1 v) (mM' := upI mK 2 98 v) hR1 (fun c hc2 => by rw [upI_ne' (by omega)]; exact t1 c hc2) t2 (fun j hj => by rw [hτ, if_neg (by omega)]) (zT_hush tT hτ) hU' hW' (zKp_tr k1 (upI_ne' (by omega)) (by rw [upI_ne' (by omega)])) (z_sk k2 k3 k4 (fun c hc2 => upI_ne' hc2) rfl)
      rw [zC_done0 e']
      exact ⟨0, m', _, rfl, rfl, r'⟩
theorem zP_shout : lS_shout zRel := by
  intro mC mM x y l hR
  have hR1 := zRel_thr hR 0
  simp only [M_shout, nm]
  generalize upI mM 0 0 0 = m1 at hR1 ⊢
  have hc := hR1.1.1
  have hw := hR1.1.2.2.2
  have w3 := hR1.1.2.1
  have w4 := hR1.1.2.2.1
  obtain ⟨hH, hT, hU, -⟩ := hR1.2.1
  unfold O_shout
  rw [zC_hasCell hH, zM_isCell (σ := m1.1 2) rfl rfl ⟨by have := w3.1; omega, by have := w3.2; omega⟩ ⟨by have := w4.1; omega, by have := w4.2; omega⟩, zM_in]
  simp only [Option.bind_some, zb_0, z_rng]
  cases hx : (zIsI (m1.1 2 3) x && zIsI (m1.1 2 4) y) with
  | false => exact ⟨-1, mC, m1, rfl, rfl, hR1⟩
  | true =>
    cases hy : (!decide (l < 1) && !decide (30 < l)) with
    | false => exact ⟨-1, mC, m1, rfl, rfl, hR1⟩
    | true =>
      obtain ⟨n, n1, n30, rfl⟩ := z_rngq (A := 1) (B := 30) hy (by decide) (by decide)
      obtain ⟨m, e, t1, t2, tH, tT, tU⟩ := zC_trial hR1
      simp only [Bool.true_eq_false, if_false, if_true]
      rw [e]
      simp only [Option.bind_some]
      unfold State_shoutIn State_isShouted
      rw [tT.2.2.1]
      by_cases hs : 0 < m1.1 2 100
      · rw [if_pos hs, if_pos hs]
        simp only [Option.bind_some]
        rw [if_neg (show ¬ (1 : Int32) = 0 by decide)]
        simp only [Option.bind_some]
        rw [zC_done 1 (by decide)]
        exact ⟨1, m, m1, rfl, rfl, zRel_tr (zSC_trial t1 t2) zSM_rf hR1⟩
      · rw [if_neg hs, if_neg hs]
        obtain ⟨n9, top, a1, a2, a3, a4, a5, a6⟩ := hR1.2.2.2.1
        obtain ⟨mK, eK, k1, k2, k3, k4⟩ := zM_keep a5 a1
        rw [eK]
        unfold M_cries
        simp only [Option.bind_some, nm, if_true]
        -- the class
        generalize e1 : upI m (118 + 1) 0 1 = p1
        generalize e2 : upI p1 (118 + 1) 1 x = p2
        generalize e3 : upI p2 (118 + 1) 2 y = p3
        generalize e4 : upI p3 (118 + 1) 3 (Int32.ofNat n) = p4
        generalize e5 : upI p4 118 2 (p4.1 118 2 + 1) = p5
        generalize f1 : upI mK 2 101 x = q1
        generalize f2 : upI q1 2 102 y = q2
        generalize f3 : upI q2 2 100 (Int32.ofNat n) = q3
        generalize f4 : upI q3 2 99 (q3.1 2 99 + 1) = q4
        have c5 : ∀ c, c ≠ 118 → c ≠ 119 → p5.1 c = m.1 c := fun c c1 c2 => by rw [← e5, upI_ne' c1, ← e4, upI_ne' c2, ← e3, upI_ne' c2, ← e2, upI_ne' c2, ← e1, upI_ne' c2]
        have c4 : p4.1 118 = m.1 118 := by rw [← e4, upI_ne' (by omega), ← e3, upI_ne' (by omega), ← e2, upI_ne' (by omega), ← e1, upI_ne' (by omega)]
        have c6 : ∀ j, j ≠ 2 → p5.1 118 j = m.1 118 j := fun j hj => by rw [← e5, upI_nj hj, c4]
        have c7 : p5.1 118 2 = m.1 118 2 + 1 := by rw [← e5, upI_at, c4]
        have c8 : p5.1 119 = p4.1 119 := by rw [← e5, upI_ne' (by omega)]
        have c9 : p4.1 119 0 = 1 ∧ p4.1 119 1 = x ∧ p4.1 119 2 = y ∧ p4.1 119 3 = Int32.ofNat n := by
          refine ⟨?_, ?_, ?_, ?_⟩
          · rw [← e4, upI_nj (by omega), ← e3, upI_nj (by omega), ← e2, upI_nj (by omega), ← e1, upI_at]
          · rw [← e4, upI_nj (by omega), ← e3, upI_nj (by omega), ← e2, upI_at]
          · rw [← e4, upI_nj (by omega), ← e3, upI_at]
          · rw [← e4, upI_at]
        have cL : p5.2 = m.2 := by rw [← e5, ← e4, ← e3, ← e2, ← e1]; rfl
        have g1 : ∀ c, c ≠ 2 → q4.1 c = mK.1 c := fun c h => by rw [← f4, upI_ne' h, ← f3, upI_ne' h, ← f2, upI_ne' h, ← f1, upI_ne' h]
        have g2 : q4.2 = mK.2 := by rw [← f4, ← f3, ← f2, ← f1]; rfl
        have hτ : ∀ j, j ≠ 99 → j ≠ 100 → j ≠ 101 → j ≠ 102 → q4.1 2 j = m1.1 2 j := fun j j1 j2 j3 j4 => by
          rw [← f4, upI_nj j1, ← f3, upI_nj j2, ← f2, upI_nj j4, ← f1, upI_nj j3, k2 2 (by omega) (by omega)]
        have h99 : q4.1 2 99 = m1.1 2 99 + 1 := by
          rw [← f4, upI_at, ← f3, upI_nj (by omega), ← f2, upI_nj (by omega), ← f1, upI_nj (by omega), k2 2 (by omega) (by omega)]
        have h100 : q4.1 2 100 = Int32.ofNat n := by rw [← f4, upI_nj (by omega), ← f3, upI_at]
        have h101 : q4.1 2 101 = x := by rw [← f4, upI_nj (by omega), ← f3, upI_nj (by omega), ← f2, upI_nj (by omega), ← f1, upI_at]
        have h102 : q4.1 2 102 = y := by rw [← f4, upI_nj (by omega), ← f3, upI_nj (by omega), ← f2, upI_at]
        have hOO : zO (q4.1 2) = zO (m1.1 2) := zO_tr (hτ 1 (by omega) (by omega) (by omega) (by omega))
        have o6 := hc.2.1.2
        have hT' : zT p5 118 (q4.1 2) := by
          obtain ⟨u0, u1, u2, u3, u4⟩ := tT
          unfold zT
          rw [hOO, c6 0 (by omega), c6 1 (by omega), h100, h101, h102, hτ 97 (by omega) (by omega) (by omega) (by omega), hτ 98 (by omega) (by omega) (by omega) (by omega)]
          refine ⟨u0, u1, by rw [show (118 + 1 : Nat) = 119 from rfl, c8]; exact c9.2.2.2, fun _ => ⟨by rw [show (118 + 1 : Nat) = 119 from rfl, c8]; exact c9.1, by rw [show (118 + 1 : Nat) = 119 from rfl, c8]; exact c9.2.1, by rw [show (118 + 1 : Nat) = 119 from rfl, c8]; exact c9.2.2.1⟩, fun o ho => ?_⟩
          rw [c5 (118 + 2) (by omega) (by omega), hτ (103 + o) (by omega) (by omega) (by omega) (by omega)]
          exact u4 o ho
        have hU' : zU p5 118 (q4.1 2) := by
          unfold zU
          rw [zB_tr (σ := m1.1 2) (hτ 0 (by omega) (by omega) (by omega) (by omega)), c7, h99, tU.1]
          refine ⟨rfl, fun b hb => ?_⟩
          rw [c5 (118 + 3) (by omega) (by omega), c5 (118 + 4) (by omega) (by omega), hτ (109 + b) (by omega) (by omega) (by omega) (by omega), hτ (115 + b) (by omega) (by omega) (by omega) (by omega)]
          exact tU.2 b hb
        have hW' : zWs (q4.1 2) := by
          obtain ⟨v1, v2, v3, v4⟩ := hw
          unfold zWs
          rw [hOO, zB_tr (σ := m1.1 2) (hτ 0 (by omega) (by omega) (by omega) (by omega)), zC_tr (σ := m1.1 2) (hτ 2 (by omega) (by omega) (by omega) (by omega)), h100, hτ 97 (by omega) (by omega) (by omega) (by omega), hτ 98 (by omega) (by omega) (by omega) (by omega)]
          refine ⟨v1, v2, ⟨by rw [z_toInt (by omega)]; omega, by rw [z_toInt (by omega)]; omega⟩, fun o ho => ?_⟩
          rw [hτ (103 + o) (by omega) (by omega) (by omega) (by omega)]
          exact v4 o ho
        obtain ⟨m', e', r'⟩ := zC_commit (m := p5) (mM' := q4) hR1 (fun c hc2 => by rw [c5 c (by omega) (by omega)]; exact t1 c hc2) (by rw [cL]; exact t2) (fun j hj => hτ j (by omega) (by omega) (by omega) (by omega)) hT' hU' hW' (zKp_tr k1 (g1 7 (by omega)) (by rw [g1 0 (by omega)])) (z_sk k2 k3 k4 g1 g2)
        rw [zC_done0 e']
        exact ⟨0, m', _, rfl, rfl, r'⟩
