/-! Layer 2. code -/
section ZCD
variable {m m' mC mC' mM mM' r c1 : xMem} {σ τ : zR} {n : Nat} {d : Nat → Int32}
/-- codes found: the list becomes another one -/
theorem zRel_code (H : zRel c1 r) (hC1 : ∀ c, c ≠ 0 → c ≠ 182 → c ≠ 183 → mC'.1 c = c1.1 c) (hC0 : ∀ j, j ≠ 14 → mC'.1 0 j = c1.1 0 j) (hCL : mC'.2 = c1.2) (hM1 : ∀ c, c ≠ 0 → c ≠ 14 → mM'.1 c = r.1 c) (hM0 : ∀ j, j ≠ 37 → mM'.1 0 j = r.1 0 j) (hML : mM'.2 = r.2) (cd : zLs mC' 0 14 182 mM' 37 14 8) : zRel mC' mM' := by
  obtain ⟨r1, r2, r3, r4, r5, r6, r7, r8, r9, r10, r11, r12, r13, r14, r15, r16⟩ := id H
  refine zRel_mk (fun c hc => hC1 c (by omega) (by omega) (by omega)) (fun c hc => by rw [hCL]) (fun c hc => hM1 c (by omega) (by omega)) (hM0 24 (by omega)) (fun c hc => by rw [hML]) (zTp_tr (by rw [hC1 1 (by omega) (by omega) (by omega)]) (hC1 2 (by omega) (by omega) (by omega)) (hM0 2 (by omega)) (hM1 1 (by omega) (by omega)) r6) ?_ (zLs_tr (by rw [hC1 165 (by omega) (by omega) (by omega)]) (hC1 166 (by omega) (by omega) (by omega)) (hM0 27 (by omega)) (hM1 9 (by omega) (by omega)) r9) ?_ (zLs_tr (by rw [hC1 170 (by omega) (by omega) (by omega)]) (hC1 179 (by omega) (by omega) (by omega)) (hM0 35 (by omega)) (hM1 13 (by omega) (by omega)) r11) cd ?_ ?_ (zTo_tr (hC1 76 (by omega) (by omega) (by omega)) (hM0 47 (by omega)) (hM1 18 (by omega) (by omega)) r15) (zWr_tr (by rw [hC1 180 (by omega) (by omega) (by omega)]) (hC1 181 (by omega) (by omega) (by omega)) (hM0 43 (by omega)) (hM1 17 (by omega) (by omega)) r16) H
  · unfold zFa; rw [hC0 18 (by omega), hM0 15 (by omega)]; exact r8
  · unfold zSpN; rw [hC1 165 (by omega) (by omega) (by omega), hM0 28 (by omega)]; exact r10
  · unfold zKe; rw [hC0 15 (by omega), hC0 16 (by omega), hM0 29 (by omega), hM0 30 (by omega), hM0 31 (by omega)]; exact r13
  · unfold zDu; rw [hC0 17 (by omega), hM0 40 (by omega), hM0 41 (by omega)]; exact r14
end ZCD
theorem zP_code : lS_code zRel := by
  intro mC mM x hR
  have hR1 := zRel_thr hR 0
  unfold M_code
  rw [nm_eq]
  generalize upI mM 0 0 0 = m1 at hR1 ⊢
  obtain ⟨n, r, en, et, K⟩ := zM_taken hR1
  rw [et, Option.bind_some]
  unfold O_code
  rw [nm_eq, nm_eq, en]
  have K1 := K.c2
  generalize upI mC 1 1 0 = c1 at K K1 ⊢
  have hRt := K.rel
  have hc := hRt.1.1
  have hw := hRt.1.2.2.2
  obtain ⟨hH, hT, hU, -⟩ := hRt.2.1
  have ht := K.le
  rw [zC_hasOwl hH hc, zM_isOwl rfl hc, zM_in, Option.bind_some, Option.bind_some, Option.bind_some, z_rng, K.n3]
  simp only [zb_0]
  cases hx : zIs (zO (r.1 2)) x with
  | false => exact ⟨-1, c1, r, rfl, rfl, hRt⟩
  | true =>
    obtain ⟨o, ho, rfl⟩ := zIs_q hx
    cases hy : (!decide (Int32.ofNat n < 1) && !decide (8 < Int32.ofNat n)) with
    | false => exact ⟨-1, c1, r, rfl, rfl, hRt⟩
    | true =>
      obtain ⟨n2, n1, n8, e2⟩ := z_rngq (A := 1) (B := 8) hy (by decide) (by decide)
      have en2 : n = n2 := (z_eq (by omega) (by omega)).mp e2
      subst en2
      simp only [Bool.true_eq_false, if_false, if_true]
      generalize ed : mC.1 2 = d at K K1
      have hat : ∀ j, j < n → Tape_at c1 1 (Int32.ofNat j) = some (d j) := fun j hj => by rw [zC_at (by omega), K1]
      have hC := z_scan (fun f i => O_code_b48 (Int32.ofNat o) f (Int32.ofNat n) (Int32.ofNat i) c1) n (fun j => decide (4 < d j)) (fun _ => some (-1, c1)) (O_code_b75 (Int32.ofNat o) 1000 (Int32.ofNat n) 0 c1) (fun f i hi hp => by
        rw [O_code_b48, if_pos ((z_lt (by omega) (by omega)).mpr hi), hat i hi, Option.bind_some, if_pos (of_decide_eq_true hp)]) (fun f i hi hp => by
        rw [O_code_b48, if_pos ((z_lt (by omega) (by omega)).mpr hi), hat i hi, Option.bind_some, if_neg (of_decide_eq_false hp), z_s]) (fun f => by
        rw [O_code_b48, if_neg (by rw [z_lt (by omega) (by omega)]; omega)]) (fuel := 1000) (by omega)
      have hM := z_scan (fun f i => M_code_b37 (Int32.ofNat o) f (Int32.ofNat i) r) n (fun j => decide (4 < d j)) (fun _ => some (-1, r)) (M_code_b64 (Int32.ofNat o) 1000 0 r) (fun f i hi hp => by
        rw [M_code_b37, K.n3, if_pos ((z_lt (by omega) (by omega)).mpr hi), K.oct i hi, Option.bind_some, if_pos (of_decide_eq_true hp)]) (fun f i hi hp => by
        rw [M_code_b37, K.n3, if_pos ((z_lt (by omega) (by omega)).mpr hi), K.oct i hi, Option.bind_some, if_neg (of_decide_eq_false hp), z_s]) (fun f => by
        rw [M_code_b37, K.n3, if_neg (by rw [z_lt (by omega) (by omega)]; omega)]) (fuel := 1000) (by omega)
      refine (show ∃ v mC' mM', O_code_b48 (Int32.ofNat o) 1000 (Int32.ofNat n) (Int32.ofNat 0) c1 = some (v, mC') ∧ M_code_b37 (Int32.ofNat o) 1000 (Int32.ofNat 0) r = some (v, mM') ∧ zRel mC' mM' from ?_)
      rw [hC, hM]
      cases hq : zFst (fun j => decide (4 < d j)) n with
      | some i => exact ⟨-1, c1, r, rfl, rfl, hRt⟩
      | none =>
        have h4 := zFst_none.mp hq
        have hp : ∀ j, j < n → ¬ d j = -1 := fun j hj e => by
          have := (K.bt j hj).1
          rw [e] at this
          exact absurd this (by decide)
        have hsM : ∀ mm : xMem, mm.1 2 = r.1 2 → ∀ j, M_soundFor mm (Int32.ofNat o) (d j) = some (zN (zSnd (r.1 2) o (d j))) := fun mm hmm j => zM_soundFor (fun j _ => by rw [hmm]) hc hw ho
        have o6 := hc.2.1.2
        have c8 := hc.2.2.2
        have hlt : ∀ j i, zSnd (r.1 2) o (d j) = some i → i < zC (r.1 2) := fun j i e => (zFst_some e).1
        have hM2 := z_scan (fun f i => M_code_b64 (Int32.ofNat o) f (Int32.ofNat i) r) n (fun j => (zSnd (r.1 2) o (d j)).isNone) (fun i => some (-2 - Int32.ofNat i, r)) (M_code_b106 (Int32.ofNat o) 1000 0 (upI r 0 37 (Int32.ofNat n))) (fun f i hi hp => by
          rw [M_code_b64, K.n3, if_pos ((z_lt (by omega) (by omega)).mpr hi), K.oct i hi, Option.bind_some, hsM r rfl, Option.bind_some]
          cases h5 : zSnd (r.1 2) o (d i) with
          | none => rw [if_pos (show zN none < 0 by decide)]
          | some q => rw [h5] at hp; cases hp) (fun f i hi hp => by
          rw [M_code_b64, K.n3, if_pos ((z_lt (by omega) (by omega)).mpr hi), K.oct i hi, Option.bind_some, hsM r rfl, Option.bind_some]
          cases h5 : zSnd (r.1 2) o (d i) with
          | none => rw [h5] at hp; cases hp
          | some q =>
            have := hlt i q h5
            rw [if_neg (show ¬ zN (some q) < 0 from z_nn (by omega)), z_s]) (fun f => by
          rw [M_code_b64, K.n3, if_neg (by rw [z_lt (by omega) (by omega)]; omega), nm_eq]) (fuel := 1000) (by omega)
        refine (show ∃ v mC' mM', O_code_b75 (Int32.ofNat o) 1000 (Int32.ofNat n) (Int32.ofNat 0) c1 = some (v, mC') ∧ M_code_b64 (Int32.ofNat o) 1000 (Int32.ofNat 0) r = some (v, mM') ∧ zRel mC' mM' from ?_)
        rw [hM2]
        have zS : ∀ m, (∀ c, c ≠ 183 → m.1 c = c1.1 c) → m.2 = c1.2 → zSC c1 m := fun m h1 h2 => ⟨fun c hc => h1 c (by omega), fun j _ _ => by rw [h1 0 (by omega)], fun c _ => by rw [h2]⟩
        refine z_loopX (fun f i m => O_code_b75 (Int32.ofNat o) f (Int32.ofNat n) (Int32.ofNat i) m) n (fun i m => (∀ c, c ≠ 183 → m.1 c = c1.1 c) ∧ m.2 = c1.2 ∧ ∀ k, k < i → ((zSnd (r.1 2) o (d k)).isNone = false ∧ m.1 183 k = zN (zSnd (r.1 2) o (d k)))) (fun res => ∃ v mC' mM', res = some (v, mC') ∧ (match zFst (fun j => (zSnd (r.1 2) o (d j)).isNone) n with | some i => some (-2 - Int32.ofNat i, r) | none => M_code_b106 (Int32.ofNat o) 1000 0 (upI r 0 37 (Int32.ofNat n))) = some (v, mM') ∧ zRel mC' mM') (fun f i m hi hI => ?_) (fun f m hI => ?_) n 0 1000 c1 (by omega) (by omega) ⟨fun _ _ => rfl, rfl, fun k hk => by omega⟩
        · obtain ⟨i1, i2, i3⟩ := hI
          have hat2 : Tape_at m 1 (Int32.ofNat i) = some (d i) := by rw [zC_at (by omega), i1 2 (by omega), K1]
          have hH2 : zH m 6 (r.1 2) := zH_tr hc (fun c h1 h2 => i1 c (by omega)) (fun _ _ => rfl) hH
          have hT2 : zT m 33 (r.1 2) := zT_tr hc (zSame_of (fun c c1 c2 => i1 c (by omega))) (fun _ _ => rfl) hT
          rw [O_code_b75, if_pos ((z_lt (by omega) (by omega)).mpr hi), hat2, Option.bind_some, zC_soundOn hH2 hT2 hc hw ho (hp i hi), Option.bind_some, z_ix (show i < 8 by omega) (by omega), Option.bind_some, nm_eq, Option.bind_some, upI_at]
          cases h5 : zSnd (r.1 2) o (d i) with
          | none =>
            left
            rw [if_pos (show zN none = -1 by rfl), zFst_eq hi (by rw [h5]; rfl) (fun k hk => (i3 k hk).1)]
            exact ⟨_, _, _, rfl, rfl, zRel_tr (zS _ (fun c hc => by rw [upI_ne' hc, i1 c hc]) i2) zSM_rf hRt⟩
          | some q =>
            right
            have := hlt i q h5
            rw [if_neg (show ¬ zN (some q) = -1 from z_nm1 (by omega)), z_s]
            refine ⟨upI m 183 i (zN (some q)), ⟨fun c hc => by rw [upI_ne' hc, i1 c hc], i2, fun k hk => ?_⟩, rfl⟩
            by_cases hki : k = i
            · subst hki
              exact ⟨by rw [h5]; rfl, by rw [upI_at, h5]⟩
            · refine ⟨(i3 k (by omega)).1, ?_⟩
              rw [upI_nj hki]
              exact (i3 k (by omega)).2
        · obtain ⟨i1, i2, i3⟩ := hI
          rw [O_code_b75, if_neg (by rw [z_lt (by omega) (by omega)]; omega), zFst_none.mpr (fun k hk => (i3 k hk).1), z_ixc (show n ≤ min 8 8 by omega) (by omega), Option.bind_some, nm_eq, nm_eq]
          generalize e1 : upR m 182 (xcpy (m.1 183) (m.1 182) n) = p1
          generalize e2 : upI p1 0 14 (Int32.ofNat n) = p2
          -- the model's list
          have hL : ∃ mM', M_code_b106 (Int32.ofNat o) 1000 (Int32.ofNat 0) (upI r 0 37 (Int32.ofNat n)) = some (Int32.ofNat n, mM') ∧ (∀ c, c ≠ 0 → c ≠ 14 → mM'.1 c = r.1 c) ∧ (∀ j, j ≠ 37 → mM'.1 0 j = r.1 0 j) ∧ mM'.2 = r.2 ∧ mM'.1 0 37 = Int32.ofNat n ∧ ∀ k, k < n → mM'.1 14 k = zN (zSnd (r.1 2) o (d k)) := by
            refine z_loopX (fun f i m => M_code_b106 (Int32.ofNat o) f (Int32.ofNat i) m) n (fun i mM' => (∀ c, c ≠ 0 → c ≠ 14 → mM'.1 c = r.1 c) ∧ (∀ j, j ≠ 37 → mM'.1 0 j = r.1 0 j) ∧ mM'.2 = r.2 ∧ mM'.1 0 37 = Int32.ofNat n ∧ ∀ k, k < i → mM'.1 14 k = zN (zSnd (r.1 2) o (d k))) (fun res => ∃ mM', res = some (Int32.ofNat n, mM') ∧ (∀ c, c ≠ 0 → c ≠ 14 → mM'.1 c = r.1 c) ∧ (∀ j, j ≠ 37 → mM'.1 0 j = r.1 0 j) ∧ mM'.2 = r.2 ∧ mM'.1 0 37 = Int32.ofNat n ∧ ∀ k, k < n → mM'.1 14 k = zN (zSnd (r.1 2) o (d k))) (fun f i m hi hI => ?_) (fun f m hI => ?_) n 0 1000 _ (by omega) (by omega) ⟨fun c h1 h2 => upI_ne' h1, fun j hj => upI_nj hj, rfl, upI_at, fun k hk => by omega⟩
            · obtain ⟨j1, j2, j3, j4, j5⟩ := hI
              right
              have ho2 : M_octet m (Int32.ofNat i) = some (d i) := by
                rw [← K.oct i hi, zM_oct (by omega), zM_oct (by omega), j1 1 (by omega) (by omega)]
              refine ⟨upI m 14 i (zN (zSnd (r.1 2) o (d i))), ⟨fun c h1 h2 => by rw [upI_ne' h2, j1 c h1 h2], fun j hj => by rw [upI_ne' (by omega), j2 j hj], j3, by rw [upI_ne' (by omega), j4], fun k hk => ?_⟩, ?_⟩
              · by_cases hki : k = i
                · rw [hki, upI_at]
                · rw [upI_nj hki]
                  exact j5 k (by omega)
              · rw [M_code_b106, j2 3 (by omega), K.n3, if_pos ((z_lt (by omega) (by omega)).mpr hi), ho2, Option.bind_some, hsM m (j1 2 (by omega) (by omega)), Option.bind_some, z_ix (show i < 8 by omega) (by omega), Option.bind_some, nm_eq, z_s]
            · obtain ⟨j1, j2, j3, j4, j5⟩ := hI
              rw [M_code_b106, j2 3 (by omega), K.n3, if_neg (by rw [z_lt (by omega) (by omega)]; omega), j4]
              exact ⟨_, rfl, j1, j2, j3, j4, j5⟩
          obtain ⟨mM', eM, j1, j2, j3, j4, j5⟩ := hL
          refine ⟨Int32.ofNat n, p2, mM', rfl, eM, zRel_code hRt (fun c h0 h1 h2 => ?_) (fun j hj => ?_) ?_ j1 j2 j3 ⟨n, n8, ?_, Or.inl j4, fun k hk => ?_⟩⟩
          · rw [← e2, upI_ne' h0, ← e1, upR_ne' h1, i1 c h2]
          · rw [← e2, upI_nj hj, ← e1, upR_ne' (by omega), i1 0 (by omega)]
          · rw [← e2, ← e1]; exact i2
          · rw [← e2, upI_at]
          · rw [← e2, upI_ne' (by omega), ← e1, upR_at', xcpy_lt hk, (i3 k hk).2, j5 k hk]
