/-! Layer 2. undo -/
theorem z_pred {n : Nat} (h : 1 ≤ n) (h2 : n < 2147483648) : Int32.ofNat n - 1 = Int32.ofNat (n - 1) := (Int32.ofNat_sub n 1 h).symm
theorem zM_undoL {m : xMem} {k : Nat} (hk : m.1 0 24 = Int32.ofNat k) (h8 : k < 8) : M_undo_b26 1000 0 m = some (Int32.ofNat k, zFill m 2 97 24 (fun i => m.1 7 (24 * k + i))) := by
  have h0 : ∀ m0, m0 = zFill m 2 97 0 (fun i => m.1 7 (24 * k + i)) → M_undo_b26 1000 0 m0 = some (Int32.ofNat k, zFill m 2 97 24 (fun i => m.1 7 (24 * k + i))) := by
    intro m0 e
    subst e
    refine z_loop (fun fuel i => M_undo_b26 fuel (Int32.ofNat i) (zFill m 2 97 i (fun i => m.1 7 (24 * k + i)))) 24 _ (fun fuel i hi => ?_) (fun fuel => ?_) 24 0 1000 (by omega) (by omega)
    · rw [M_undo_b26, if_pos (show Int32.ofNat i < 24 from (z_lt (b := 24) (by omega) (by omega)).mpr hi), show (97 + Int32.ofNat i : Int32) = Int32.ofNat (97 + i) from z_add 97 i, z_ix (i := 97 + i) (by omega) (by omega), zFill_ne (a := 0) (by omega), hk, show (24 * Int32.ofNat k : Int32) = Int32.ofNat (24 * k) from z_mul 24 k, z_add, z_ix (by omega) (by omega)]
      simp only [Option.bind_some, nm, z_s]
      rw [zFill_ne (a := 7) (by omega), zFill_s]
    · rw [M_undo_b26, if_neg (show ¬ Int32.ofNat 24 < 24 by decide), zFill_ne (a := 0) (by omega), hk]
  exact h0 _ zFill_0.symm
theorem zP_undo : lS_undo zRel := by
  intro mC mM hR
  have hR1 := zRel_thr hR 0
  simp only [M_undo, nm]
  generalize upI mM 0 0 0 = m1 at hR1 ⊢
  have hc := hR1.1.1
  obtain ⟨r1, r2, r3, r4, r5, r6, r7, r8, r9, r10, r11, r12, r13, r14, r15, r16⟩ := id hR1
  obtain ⟨n, top, a1, a2, a3, a4, a5, a6⟩ := r4
  obtain ⟨i1, i2, i3, i4⟩ := r2
  unfold O_undo Undo_takeBack
  rw [a4, a5]
  by_cases hn : n = 0
  · subst hn
    exact ⟨-1, mC, m1, rfl, rfl, hR1⟩
  · have hn0 : ¬ Int32.ofNat n = 0 := fun e => hn ((z_eq (b := 0) (by omega) (by omega)).mp e)
    rw [if_neg hn0, if_neg hn0, z_pred (by omega) (by omega)]
    simp only [nm]
    rw [zM_undoL (k := n - 1) upI_at (by omega)]
    have et : i_rem (mC.1 123 1 + 8 - 1) 8 = Int32.ofNat ((top + 7) % 8) := by
      rw [a3, show (Int32.ofNat top + 8 : Int32) = Int32.ofNat (top + 8) from z_add top 8, z_pred (by omega) (by omega), show (8 : Int32) = Int32.ofNat 8 from rfl, z_rem (by omega) (by omega)]
      congr 1
    rw [et]
    generalize e1 : upI mC 123 1 (Int32.ofNat ((top + 7) % 8)) = p1
    have c1 : p1.1 123 2 = Int32.ofNat n := by rw [← e1, upI_nj (by omega), a4]
    rw [c1, z_pred (by omega) (by omega)]
    generalize e2 : upI p1 123 2 (Int32.ofNat (n - 1)) = p2
    have c2 : p2.1 123 1 = Int32.ofNat ((top + 7) % 8) := by rw [← e2, upI_nj (by omega), ← e1, upI_at]
    have c3 : p2.1 123 2 = Int32.ofNat (n - 1) := by rw [← e2, upI_at]
    have c4 : ∀ c, c ≠ 123 → p2.1 c = mC.1 c := fun c h => by rw [← e2, upI_ne' h, ← e1, upI_ne' h]
    have c5 : p2.2 = mC.2 := by rw [← e2, ← e1]; rfl
    have hlt : (top + 7) % 8 < 8 := Nat.mod_lt _ (by omega)
    rw [c2, z_ix hlt (by omega)]
    simp only [Option.bind_some]
    obtain ⟨p3, e3, s1, s2, s3⟩ := zC_copy (m := p2) (o := 33) (p := 125 + 5 * ((top + 7) % 8)) (by omega)
    rw [e3]
    simp only [Option.bind_some]
    have c6 : p3.1 123 2 = Int32.ofNat (n - 1) := by rw [s2 123 (by omega), c3]
    rw [c6]
    generalize f1 : upI m1 0 24 (Int32.ofNat (n - 1)) = q1
    generalize f2 : zFill q1 2 97 24 (fun i => q1.1 7 (24 * (n - 1) + i)) = q2
    have d1 : q1.1 7 = m1.1 7 := by rw [← f1]; exact upI_ne' (by omega)
    have d2 : ∀ c, c ≠ 2 → c ≠ 0 → q2.1 c = m1.1 c := fun c h1 h2 => by rw [← f2, zFill_ne h1, ← f1, upI_ne' h2]
    have d3 : ∀ j, j ≠ 24 → q2.1 0 j = m1.1 0 j := fun j hj => by rw [← f2, zFill_ne (by omega), ← f1, upI_nj hj]
    have d4 : q2.1 0 24 = Int32.ofNat (n - 1) := by rw [← f2, zFill_ne (by omega), ← f1, upI_at]
    have d5 : q2.2 = m1.2 := by rw [← f2, ← f1]; rfl
    have hrow : q2.1 2 = zUr (m1.1 2) m1 (n - 1) := by
      funext j
      by_cases h : 97 ≤ j ∧ j < 121
      · obtain ⟨i, rfl⟩ : ∃ i, j = 97 + i := ⟨j - 97, by omega⟩
        rw [← f2, zFill_in (by omega), zUr_in h.1 h.2, d1, show 97 + i - 97 = i by omega]
      · rw [← f2, zFill_out (by omega), ← f1, upI_ne' (by omega)]
        unfold zUr
        rw [if_neg h]
    obtain ⟨b1, b2, b3⟩ := a6 (n - 1) (by omega)
    have ei : (top + 8 - n + (n - 1)) % 8 = (top + 7) % 8 := by omega
    rw [ei] at b1 b2
    have hc2 : zCt (zUr (m1.1 2) m1 (n - 1)) := zCt_ur hc
    have w97 : ∀ j, j < 97 → zUr (m1.1 2) m1 (n - 1) j = m1.1 2 j := fun j hj => zUr_out hj
    have hs : zSame mC (125 + 5 * ((top + 7) % 8)) p3 33 := by
      obtain ⟨k0, k1, k2⟩ := s1
      refine ⟨fun j hj => ?_, fun j hj => ?_, fun j hj => ⟨?_, ?_, ?_⟩⟩
      · rw [k0 j hj, c4 _ (by omega)]
      · rw [k1 j hj, c4 _ (by omega)]
      · rw [(k2 j hj).1, c4 _ (by omega)]
      · rw [(k2 j hj).2.1, c4 _ (by omega)]
      · rw [(k2 j hj).2.2, c4 _ (by omega)]
    have f9 : ∀ c, c ≠ 123 → c < 33 ∨ 38 ≤ c → p3.1 c = mC.1 c := fun c h1 h2 => by rw [s2 c (by omega), c4 c h1]
    have f8 : p3.2 = mC.2 := by rw [s3, c5]
    refine ⟨Int32.ofNat (n - 1), p3, q2, rfl, rfl, ?_⟩
    unfold zRel
    rw [hrow]
    refine ⟨⟨hc2, by rw [w97 3 (by omega)]; exact r1.2.1, by rw [w97 4 (by omega)]; exact r1.2.2.1, b3⟩, ⟨zH_tr hc (fun c c1 c2 => f9 c (by omega) (by omega)) w97 i1, zT_tr hc2 hs (fun _ _ => rfl) b1, zU_tr hc2 hs rfl (fun _ _ _ => rfl) b2, zSay_tr (fun c c1 c2 => f9 c (by omega) (by omega)) (fun j j1 _ => by unfold zUr; rw [if_neg (by omega)]) i4⟩, zNms_tr (fun d _ _ => by rw [f8]) (by rw [d5]) w97 r3, ?_, fun k hk2 => zImg_tr hk2 (fun d d1 d2 => f9 d (by omega) (by omega)) (fun d _ _ => by rw [f8]) (d2 21 (by omega) (by omega)) (d2 23 (by omega) (by omega)) (by rw [d5]) (r5 k hk2), zTp_tr (by rw [f9 1 (by omega) (by omega)]) (f9 2 (by omega) (by omega)) (d3 2 (by omega)) (d2 1 (by omega) (by omega)) r6, zRes_tr (by rw [f8]) (by rw [d5]) r7, ?_, zLs_tr (by rw [f9 165 (by omega) (by omega)]) (f9 166 (by omega) (by omega)) (d3 27 (by omega)) (d2 9 (by omega) (by omega)) r9, ?_, zLs_tr (by rw [f9 170 (by omega) (by omega)]) (f9 179 (by omega) (by omega)) (d3 35 (by omega)) (d2 13 (by omega) (by omega)) r11, zLs_tr (by rw [f9 0 (by omega) (by omega)]) (f9 182 (by omega) (by omega)) (d3 37 (by omega)) (d2 14 (by omega) (by omega)) r12, ?_, ?_, zTo_tr (f9 76 (by omega) (by omega)) (d3 47 (by omega)) (d2 18 (by omega) (by omega)) r15, zWr_tr (by rw [f9 180 (by omega) (by omega)]) (f9 181 (by omega) (by omega)) (d3 43 (by omega)) (d2 17 (by omega) (by omega)) r16⟩
    · refine ⟨n - 1, (top + 7) % 8, by omega, hlt, ?_, c6, d4, fun t ht => ?_⟩
      · rw [s2 123 (by omega), c2]
      · have e9 : ((top + 7) % 8 + 8 - (n - 1) + t) % 8 = (top + 8 - n + t) % 8 := by omega
        rw [e9]
        obtain ⟨x1, x2, x3⟩ := a6 t (by omega)
        have hm : (top + 8 - n + t) % 8 < 8 := Nat.mod_lt _ (by omega)
        have hs2 : zSame mC (125 + 5 * ((top + 8 - n + t) % 8)) p3 (125 + 5 * ((top + 8 - n + t) % 8)) := zSame_of (fun c c1 c2 => f9 c (by omega) (by omega))
        have hr : ∀ j, j < 121 → zUr (zUr (m1.1 2) m1 (n - 1)) q2 t j = zUr (m1.1 2) m1 t j := fun j hj => by
          by_cases h : 97 ≤ j
          · rw [zUr_in h hj, zUr_in h hj, d2 7 (by omega) (by omega)]
          · rw [zUr_out (by omega), zUr_out (by omega), zUr_out (by omega)]
        have hc3 : zCt (zUr (m1.1 2) m1 t) := zCt_ur hc
        exact ⟨zT_tr hc3 hs2 (fun j hj => hr j (by omega)) x1, zU_tr hc3 hs2 (hr 0 (by omega)) (fun j _ hj => hr j hj) x2, zWs_tr hr x3 hc3⟩
    · unfold zFa; rw [f9 0 (by omega) (by omega), d3 15 (by omega)]; exact r8
    · unfold zSpN; rw [f9 165 (by omega) (by omega), d3 28 (by omega)]; exact r10
    · unfold zKe; rw [f9 0 (by omega) (by omega), d3 29 (by omega), d3 30 (by omega), d3 31 (by omega)]; exact r13
    · unfold zDu; rw [f9 0 (by omega) (by omega), d3 40 (by omega), d3 41 (by omega)]; exact r14
