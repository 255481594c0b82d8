/-! Layer 2. lend, hush, let, shout, undo -/
section ZB9
variable {m m' mC mC' mM mM' mK : xMem} {σ τ : zR}
theorem zKp_tr {ρ : Nat → Int32} (h : zKp m mK ρ) (h7 : mM'.1 7 = mK.1 7) (h24 : mM'.1 0 24 = mK.1 0 24) : zKp m mM' ρ := by
  obtain ⟨n, a1, a2, a3⟩ := h
  exact ⟨n, a1, a2, by rw [h7, h24]; exact a3⟩
theorem zC_done (v : Int32) (hv : ¬ v = 0) : O_keepDone m v = some (v, m) := by
  unfold O_keepDone
  rw [if_neg hv]
theorem zC_done0 (h : O_keepTrial m = some m') : O_keepDone m 0 = some (0, m') := by
  unfold O_keepDone
  rw [if_pos rfl, h]
  rfl
theorem zT_sit {s o : Nat} {v : Int32} (hc : zCt σ) (ho : o < zO σ) (H : zT m s σ) (hτ : ∀ j, τ j = if j = 103 + o then v else σ j) : zT (upI m (s + 2) o v) s τ := by
  obtain ⟨t0, t1, t2, t3, t4⟩ := H
  have hO : zO τ = zO σ := zO_tr (by rw [hτ, if_neg (by omega)])
  unfold zT
  rw [hO, upI_ne' (by omega), upI_ne' (by omega), hτ 97, hτ 98, hτ 100, hτ 101, hτ 102, if_neg (by omega), if_neg (by omega), if_neg (by omega), if_neg (by omega), if_neg (by omega)]
  refine ⟨t0, t1, t2, t3, fun o2 ho2 => ?_⟩
  rw [hτ]
  by_cases h : o2 = o
  · subst h
    rw [upI_at, if_pos rfl]
  · rw [upI_nj h, if_neg (by omega)]
    exact t4 o2 ho2
theorem zT_hush {s : Nat} {v : Int32} (H : zT m s σ) (hτ : ∀ j, τ j = if j = 98 then v else σ j) : zT (upI m s 1 v) s τ := by
  obtain ⟨t0, t1, t2, t3, t4⟩ := H
  have hO : zO τ = zO σ := zO_tr (by rw [hτ, if_neg (by omega)])
  unfold zT
  rw [hO, upI_nj (by omega), upI_at, upI_ne' (by omega), upI_ne' (by omega), hτ 97, hτ 98, hτ 100, hτ 101, hτ 102, if_neg (by omega), if_pos rfl, if_neg (by omega), if_neg (by omega), if_neg (by omega)]
  refine ⟨t0, rfl, t2, t3, fun o2 ho2 => ?_⟩
  rw [hτ, if_neg (by omega)]
  exact t4 o2 ho2
theorem zU_tr2 {s : Nat} (hc : zCt σ) (h2 : m'.1 s 2 = m.1 s 2) (h3 : m'.1 (s + 3) = m.1 (s + 3)) (h4 : m'.1 (s + 4) = m.1 (s + 4)) (h0 : τ 0 = σ 0) (h99 : τ 99 = σ 99) (hk : ∀ j, 109 ≤ j → j < 121 → τ j = σ j) (H : zU m s σ) : zU m' s τ := by
  have b6 := hc.1.2
  unfold zU
  rw [zB_tr h0, h2, h3, h4, h99]
  refine ⟨H.1, fun b hb => ?_⟩
  rw [hk (109 + b) (by omega) (by omega), hk (115 + b) (by omega) (by omega)]
  exact H.2 b hb
end ZB9
theorem z_sk {m mK mM' : xMem} (h1 : ∀ c, c ≠ 0 → c ≠ 7 → mK.1 c = m.1 c) (h2 : mK.2 = m.2) (h3 : ∀ j, j ≠ 24 → mK.1 0 j = m.1 0 j) (g1 : ∀ c, c ≠ 2 → mM'.1 c = mK.1 c) (g2 : mM'.2 = mK.2) : zSK m mM' :=
  ⟨fun c hc => by rw [g1 c (by omega), h1 c (by omega) (by omega)], fun j hj => by rw [g1 0 (by omega), h3 j (by omega)], fun c hc => by rw [g2, h2]⟩
theorem zP_lend : lS_lend zRel := by
  intro mC mM x y hR
  have hR1 := zRel_thr hR 0
  simp only [M_lend, nm]
  generalize upI mM 0 0 0 = m1 at hR1 ⊢
  have hc := hR1.1.1
  have hw := hR1.1.2.2.2
  have b6 := hc.1.2
  have o6 := hc.2.1.2
  obtain ⟨hH, hT, hU, -⟩ := hR1.2.1
  unfold O_lend
  rw [zC_hasOwl hH hc, zM_isOwl rfl hc, zC_hasBed hH hc, zM_isBed rfl hc]
  simp only [Option.bind_some, zb_0]
  cases hx : zIs (zO (m1.1 2)) x with
  | false => exact ⟨-1, mC, m1, rfl, rfl, hR1⟩
  | true =>
    cases hy : zIs (zB (m1.1 2)) y with
    | false => exact ⟨-1, mC, m1, rfl, rfl, hR1⟩
    | true =>
      obtain ⟨o, ho, rfl⟩ := zIs_q hx
      obtain ⟨b, hb, rfl⟩ := zIs_q hy
      obtain ⟨m, e, t1, t2, tH, tT, tU⟩ := zC_trial hR1
      simp only [Bool.true_eq_false, if_false]
      rw [e]
      simp only [Option.bind_some]
      unfold State_lendTo M_whyLend
      rw [z_ix (show o < 6 by omega) (by omega), zi_103 (show o < 302 - 103 by omega), zC_owlAt tH tT hc, zM_owl (fun _ _ => rfl) hc]
      simp only [Option.bind_some]
      rw [tT.2.2.2.2 o ho]
      by_cases hs : m1.1 2 (103 + o) = Int32.ofNat b
      · rw [if_pos hs, if_pos hs]
        simp only [Option.bind_some]
        rw [zC_done 1 (by decide)]
        exact ⟨1, m, m1, rfl, rfl, zRel_tr (zSC_trial t1 t2) zSM_rf hR1⟩
      · rw [if_neg hs, if_neg hs]
        cases hq : zOwl (m1.1 2) (Int32.ofNat b) with
        | some o2 =>
          have ho2 := (zOwl_lt hq).1
          rw [show zN (some o2) = Int32.ofNat o2 from rfl, if_neg (c := Int32.ofNat o2 = -1) (z_nm1 (by omega)), if_neg (c := Int32.ofNat o2 < 0) (z_nn (by omega))]
          simp only [Option.bind_some]
          rw [zC_done 2 (by decide)]
          exact ⟨2, m, m1, rfl, rfl, zRel_tr (zSC_trial t1 t2) zSM_rf hR1⟩
        | none =>
          obtain ⟨n, top, a1, a2, a3, a4, a5, a6⟩ := hR1.2.2.2.1
          obtain ⟨mK, eK, k1, k2, k3, k4⟩ := zM_keep a5 a1
          rw [show zN none = -1 from rfl, if_pos (c := (-1 : Int32) = -1) rfl, if_pos (c := (-1 : Int32) < 0) (by decide), eK]
          simp only [Option.bind_some, nm]
          rw [if_neg (show ¬ (0 : Int32) < 0 by decide)]
          have hτ : ∀ j, (upI mK 2 (103 + o) (Int32.ofNat b)).1 2 j = if j = 103 + o then Int32.ofNat b else m1.1 2 j := fun j => by
            by_cases h : j = 103 + o
            · rw [if_pos h, h, upI_at]
            · rw [if_neg h, upI_nj h, k2 2 (by omega) (by omega)]
          have hC' : zCt ((upI mK 2 (103 + o) (Int32.ofNat b)).1 2) := zCt_tr (fun j hj => by rw [hτ, if_neg (by omega)]) hc
          have hU' : zU (upI m 120 o (Int32.ofNat b)) 118 ((upI mK 2 (103 + o) (Int32.ofNat b)).1 2) := zU_tr2 hc (by rw [upI_ne' (by omega)]) (upI_ne' (by omega)) (upI_ne' (by omega)) (by rw [hτ, if_neg (by omega)]) (by rw [hτ, if_neg (by omega)]) (fun j j1 j2 => by rw [hτ, if_neg (by omega)]) tU
          have hW' : zWs ((upI mK 2 (103 + o) (Int32.ofNat b)).1 2) := by
            obtain ⟨w1, w2, w3, w4⟩ := hw
            unfold zWs
            rw [zO_tr (σ := m1.1 2) (by rw [hτ, if_neg (by omega)]), zB_tr (σ := m1.1 2) (by rw [hτ, if_neg (by omega)]), zC_tr (σ := m1.1 2) (by rw [hτ, if_neg (by omega)]), hτ 97, hτ 98, hτ 100, if_neg (by omega), if_neg (by omega), if_neg (by omega)]
            refine ⟨w1, w2, w3, fun o2 ho2 => ?_⟩
            rw [hτ]
            by_cases h : o2 = o
            · subst h
              rw [if_pos rfl]
              exact ⟨b, hb, rfl⟩
            · rw [if_neg (by omega)]
              exact w4 o2 ho2
          obtain ⟨m', e', r'⟩ := zC_commit (m := upI m 120 o (Int32.ofNat b)) (mM' := upI mK 2 (103 + o) (Int32.ofNat b)) hR1 (fun c hc2 => by rw [upI_ne' (by omega)]; exact t1 c hc2) t2 (fun j hj => by rw [hτ, if_neg (by omega)]) (zT_sit hc ho tT hτ) hU' hW' (zKp_tr k1 (upI_ne' (by omega)) (by rw [upI_ne' (by omega)])) (z_sk k2 k3 k4 (fun c hc2 => upI_ne' hc2) rfl)
          rw [zC_done0 e']
          exact ⟨0, m', _, rfl, rfl, r'⟩
