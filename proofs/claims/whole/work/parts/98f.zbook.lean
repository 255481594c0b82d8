/-! Layer 2. book: the call -/
section ZBF
variable {m m' mC mC' mM mM' c3 mE c8 : xMem} {x : Int32}
theorem zBk_rel (hR : zRel c3 mE) (h1 : ∀ c, c ≠ 76 → c < 118 ∨ 123 ≤ c → c8.1 c = c3.1 c) (h2 : c8.2 = c3.2) {mQ : xMem} (q1 : ∀ c, c ≠ 0 → c ≠ 8 → c ≠ 18 → mQ.1 c = mE.1 c) (q0 : ∀ j, j ≠ 47 → mQ.1 0 j = mE.1 0 j) (q47 : mQ.1 0 47 = 1) (qL : mQ.2 = mE.2) (h76 : c8.1 76 2 = 1) (ht : ∀ j, j < 4 → c8.1 76 (3 + j) = mQ.1 18 j) : zRel c8 mQ := by
  obtain ⟨r1, r2, r3, r4, r5, r6, r7, r8, r9, r10, r11, r12, r13, r14, r15, r16⟩ := id hR
  refine zRel_mk (fun c hc => h1 c (by omega) (by omega)) (fun c hc => by rw [h2]) (fun c hc => q1 c (by omega) (by omega) (by omega)) (q0 24 (by omega)) (fun c hc => by rw [qL]) (zTp_tr (by rw [h1 1 (by omega) (by omega)]) (h1 2 (by omega) (by omega)) (q0 2 (by omega)) (q1 1 (by omega) (by omega) (by omega)) r6) ?_ (zLs_tr (by rw [h1 165 (by omega) (by omega)]) (h1 166 (by omega) (by omega)) (q0 27 (by omega)) (q1 9 (by omega) (by omega) (by omega)) r9) ?_ (zLs_tr (by rw [h1 170 (by omega) (by omega)]) (h1 179 (by omega) (by omega)) (q0 35 (by omega)) (q1 13 (by omega) (by omega) (by omega)) r11) (zLs_tr (by rw [h1 0 (by omega) (by omega)]) (h1 182 (by omega) (by omega)) (q0 37 (by omega)) (q1 14 (by omega) (by omega) (by omega)) r12) ?_ ?_ (Or.inr ⟨q47, h76, ht⟩) (zWr_tr (by rw [h1 180 (by omega) (by omega)]) (h1 181 (by omega) (by omega)) (q0 43 (by omega)) (q1 17 (by omega) (by omega) (by omega)) r16) hR
  · unfold zFa; rw [h1 0 (by omega) (by omega), q0 15 (by omega)]; exact r8
  · unfold zSpN; rw [h1 165 (by omega) (by omega), q0 28 (by omega)]; exact r10
  · unfold zKe; rw [h1 0 (by omega) (by omega), q0 29 (by omega), q0 30 (by omega), q0 31 (by omega)]; exact r13
  · unfold zDu; rw [h1 0 (by omega) (by omega), q0 40 (by omega), q0 41 (by omega)]; exact r14
/-- a book that reads well, lived -/
theorem zBk_good {i : Nat} (hR : zRel c3 mE) (hi : i ≤ 40) (c1 : c3.1 76 1 = Int32.ofNat i) (m45 : mE.1 0 45 = Int32.ofNat i) (rows : ∀ k, k < i → zBk (mE.1 2) c3 mE k) (hx : x = 0 ∨ x = 1) : ∃ v mC' mM', ((State_copyFrom c3 118 33).bind fun r4 => (Book_live r4 6 118).bind fun r5 => if x = 1 then (if 0 < (r5.1 76 4) then (O_keepTrial r5).bind fun r6 => O_book_b115 x r6 else O_book_b115 x r5) else O_book_b115 x r5) = some (v, mC') ∧ ((M_tries mE).bind fun r7 => M_book_b89 x 1000 0 r7) = some (v, mM') ∧ zRel mC' mM' := by
  have hc := hR.1.1
  have hw := hR.1.2.2.2
  obtain ⟨c4, e4, t1, t2, tH, tT, tU⟩ := zC_trial hR
  rw [e4, Option.bind_some]
  unfold Book_live
  rw [nm_eq, nm_eq, zM_tries, Option.bind_some]
  generalize eB : upI (upI c4 76 3 0) 76 4 0 = cB
  have b1 : ∀ c, c ≠ 76 → cB.1 c = c4.1 c := fun c h => by rw [← eB, upI_ne' h, upI_ne' h]
  have b2 : ∀ j, j ≠ 3 → j ≠ 4 → cB.1 76 j = c4.1 76 j := fun j h3 h4 => by rw [← eB, upI_nj h4, upI_nj h3]
  have b3 : cB.1 76 3 = 0 := by rw [← eB, upI_nj (by omega), upI_at]
  have b4 : cB.1 76 4 = 0 := by rw [← eB, upI_at]
  have bL : cB.2 = c4.2 := by rw [← eB]; rfl
  obtain ⟨m9, e9, k1, k2, k3⟩ := zM_told0 (p0 := x) (m := zFill mE 8 0 24 (fun i => mE.1 2 (97 + i)))
  rw [e9]
  have n1 : ∀ c, c ≠ 8 → c ≠ 18 → m9.1 c = mE.1 c := fun c h8 h18 => by rw [k1 c h18, zFill_ne h8]
  have n2 : m9.2 = mE.2 := by rw [k2]; rfl
  have n8 : ∀ j, j < 24 → m9.1 8 j = mE.1 2 (97 + j) := fun j hj => by
    rw [k1 8 (by omega)]
    have h := zFill_in (m := mE) (k := 8) (lo := 0) (n := 24) (f := fun i => mE.1 2 (97 + i)) hj
    rw [Nat.zero_add] at h
    exact h
  have e2 : m9.1 2 = mE.1 2 := n1 2 (by omega) (by omega)
  have hTB : zTrl cB (m9.1 2) := by
    rw [e2]
    exact ⟨zT_tr hc (zSame_of (fun c h1 h2 => b1 c (by omega))) (fun _ _ => rfl) tT, zU_tr hc (zSame_of (fun c h1 h2 => b1 c (by omega))) rfl (fun _ _ _ => rfl) tU, zH_tr hc (fun c h1 h2 => b1 c (by omega)) (fun _ _ => rfl) tH⟩
  obtain ⟨w, a, cL, mL, x1, x2, hL⟩ := zLv_all (p0 := x) (N := i) hTB (by rw [e2]; exact hc) (by rw [e2]; exact hR.1.2.1) (by rw [e2]; exact hR.1.2.2.1) (by rw [e2]; exact hw) hi (by rw [b2 1 (by omega) (by omega), t1 76 (by omega)]; exact c1) (by rw [n1 0 (by omega) (by omega)]; exact m45) (fun k hk => by
    rw [e2]
    exact zBk_tr (by rw [b1 (78 + k) (by omega), t1 (78 + k) (by omega)]) (fun j _ _ => by rw [n1 4 (by omega) (by omega)]) (rows k hk)) b3 b4 (k3 0 (by omega)) (k3 1 (by omega))
  rw [x1, x2]
  obtain ⟨w41, a40, hTL, hwL, hjL, hcL, hcLL, h76, h763, h764, hmL, hmLL, h180, h181, ha0⟩ := hL
  have hj2 : ∀ j, j < 97 ∨ 121 ≤ j → mL.1 2 j = mE.1 2 j := fun j hj => by rw [hjL j hj, e2]
  have hcτ : zCt (mL.1 2) := zCt_tr (fun j hj => hj2 j (by omega)) hc
  unfold Book_live_b65 M_book_b201
  obtain ⟨lT, lU, lH⟩ := hTL
  rw [nm_eq, nm_eq]
  generalize e5 : upI cL 76 5 (cL.1 118 0) = c5
  have f1 : ∀ c, c ≠ 76 → c5.1 c = cL.1 c := fun c h => by rw [← e5, upI_ne' h]
  have hT5 : zT c5 118 (mL.1 2) := zT_tr hcτ (zSame_of (fun c h1 h2 => f1 c (by omega))) (fun _ _ => rfl) lT
  have hU5 : zU c5 118 (mL.1 2) := zU_tr hcτ (zSame_of (fun c h1 h2 => f1 c (by omega))) rfl (fun _ _ _ => rfl) lU
  have hH5 : zH c5 6 (mL.1 2) := zH_tr hcτ (fun c h1 h2 => f1 c (by omega)) (fun _ _ => rfl) lH
  rw [zC_lookers hH5 hT5 hcτ hwL, Option.bind_some, nm_eq, nm_eq, Option.bind_some, zM_lookers (σ := mL.1 2) (fun j _ => by rw [upI_ne' (by omega)]) hcτ hwL, Option.bind_some, nm_eq, nm_eq]
  generalize zSet (zLk (mL.1 2)) (zO (mL.1 2)) = S
  generalize e8 : upI (upI c5 76 6 S) 76 2 1 = c8
  generalize e23 : upI (upI (upI mL 18 2 (mL.1 2 97)) 18 3 S) 0 47 1 = m23
  have g1 : ∀ c, c ≠ 76 → c8.1 c = cL.1 c := fun c h => by rw [← e8, upI_ne' h, upI_ne' h, f1 c h]
  have gL : c8.2 = c3.2 := by rw [← e8, upI_2, upI_2, ← e5, upI_2, hcLL, bL, t2]
  have g2 : c8.1 76 2 = 1 := by rw [← e8, upI_at]
  have g3 : c8.1 76 3 = Int32.ofNat w := by rw [← e8, upI_nj (by omega), upI_nj (by omega), ← e5, upI_nj (by omega), h763]
  have g4 : c8.1 76 4 = Int32.ofNat a := by rw [← e8, upI_nj (by omega), upI_nj (by omega), ← e5, upI_nj (by omega), h764]
  have g5 : c8.1 76 5 = mL.1 2 97 := by rw [← e8, upI_nj (by omega), upI_nj (by omega), ← e5, upI_at, lT.1]
  have g6 : c8.1 76 6 = S := by rw [← e8, upI_nj (by omega), upI_at]
  have gc : ∀ c, c ≠ 76 → c < 118 ∨ 123 ≤ c → c8.1 c = c3.1 c := fun c h76' hc' => by rw [g1 c h76', hcL c (by omega), b1 c h76', t1 c hc']
  have p1 : ∀ c, c ≠ 0 → c ≠ 18 → m23.1 c = mL.1 c := fun c h0 h18 => by rw [← e23, upI_ne' h0, upI_ne' h18, upI_ne' h18]
  have p0 : ∀ j, j ≠ 47 → m23.1 0 j = mE.1 0 j := fun j hj => by rw [← e23, upI_nj hj, upI_ne' (by omega), upI_ne' (by omega), hmL 0 (by omega) (by omega), n1 0 (by omega) (by omega)]
  have p47 : m23.1 0 47 = 1 := by rw [← e23, upI_at]
  have pL : m23.2 = mE.2 := by rw [← e23, upI_2, upI_2, upI_2, hmLL, n2]
  have pt : ∀ j, j < 4 → c8.1 76 (3 + j) = m23.1 18 j := fun j hj => by
    rw [← e23, upI_ne' (show (18 : Nat) ≠ 0 by omega)]
    by_cases j0 : j = 0
    · subst j0; rw [upI_nj (by omega), upI_nj (by omega), h180]; exact g3
    · by_cases j1 : j = 1
      · subst j1; rw [upI_nj (by omega), upI_nj (by omega), h181]; exact g4
      · by_cases j2 : j = 2
        · subst j2; rw [upI_nj (by omega), upI_at]; exact g5
        · have j3 : j = 3 := by omega
          subst j3; rw [upI_at]; exact g6
  have pc : ∀ c, c ≠ 0 → c ≠ 2 → c ≠ 8 → c ≠ 18 → m23.1 c = mE.1 c := fun c h0 h2 h8 h18 => by rw [p1 c h0 h18, hmL c h2 h18, n1 c h8 h18]
  have p8 : ∀ j, j < 24 → m23.1 8 j = mE.1 2 (97 + j) := fun j hj => by rw [p1 8 (by omega) (by omega), hmL 8 (by omega) (by omega), n8 j hj]
  have p2 : m23.1 2 = mL.1 2 := p1 2 (by omega) (by omega)
  have val : ∀ mm : xMem, mm.1 76 3 = Int32.ofNat w → mm.1 76 4 = Int32.ofNat a → O_book_b115 x mm = some (if w = 0 then -1 else Int32.ofNat a, mm) := fun mm h3 h4 => by
    unfold O_book_b115
    rw [h3, h4]
    by_cases h : w = 0
    · rw [if_pos (show Int32.ofNat w = 0 by rw [h]; rfl), if_pos h]
    · rw [if_neg (show ¬ Int32.ofNat w = 0 from fun e => h ((z_eq (b := 0) (by omega) (by omega)).mp e)), if_neg h]
  rcases hx with hx | hx
  · subst hx
    rw [if_neg (show ¬ (0 : Int32) = 1 by decide), if_neg (show ¬ (0 : Int32) = 1 by decide), val c8 g3 g4]
    unfold M_book_b283
    rw [if_pos rfl, zM_back, Option.bind_some]
    refine ⟨_, c8, _, rfl, rfl, zBk_rel hR gc gL (fun c h0 h8 h18 => ?_) (fun j hj => by rw [zFill_ne (by omega), p0 j hj]) (by rw [zFill_ne (by omega), p47]) (by show m23.2 = _; exact pL) g2 (fun j hj => by rw [zFill_ne (by omega)]; exact pt j hj)⟩
    by_cases h2 : c = 2
    · subst h2
      funext j
      by_cases hj : 97 ≤ j ∧ j < 121
      · have h := zFill_in (m := m23) (k := 2) (lo := 97) (n := 24) (f := fun i => m23.1 8 i) (i := j - 97) (by omega)
        rw [show 97 + (j - 97) = j by omega] at h
        rw [h]
        show m23.1 8 (j - 97) = _
        rw [p8 (j - 97) (by omega), show 97 + (j - 97) = j by omega]
      · rw [zFill_out (by omega), p2, hj2 j (by omega)]
    · rw [zFill_ne h2, pc c h0 h2 h8 h18]
  · subst hx
    rw [if_pos rfl, if_pos rfl, g4]
    have e181 : m23.1 18 1 = Int32.ofNat a := by rw [← e23, upI_ne' (by omega), upI_nj (by omega), upI_nj (by omega), h181]
    rw [e181]
    by_cases ha : 0 < a
    · rw [if_pos (show 0 < Int32.ofNat a from (z_lt (a := 0) (by omega) (by omega)).mpr ha), if_pos (show 0 < Int32.ofNat a from (z_lt (a := 0) (by omega) (by omega)).mpr ha)]
      have hQ : zRel c8 (upR m23 2 (mE.1 2)) := zBk_rel hR gc gL (fun c h0 h8 h18 => by
        by_cases h2 : c = 2
        · rw [h2, upR_at']
        · rw [upR_ne' h2, pc c h0 h2 h8 h18]) (fun j hj => by rw [upR_ne' (by omega), p0 j hj]) (by rw [upR_ne' (by omega), p47]) (by show m23.2 = _; exact pL) g2 (fun j hj => by rw [upR_ne' (by omega)]; exact pt j hj)
      obtain ⟨n, top, a1, a2, a3, a4, a5, a6⟩ := hQ.2.2.2.1
      have m24 : m23.1 0 24 = Int32.ofNat n := by rw [upR_ne' (by omega)] at a5; exact a5
      obtain ⟨mK, eK, kp, kc, kL, kj⟩ := zM_keep m24 a1
      rw [eK, Option.bind_some]
      -- where the latest lies
      have hk' : ∃ k, k < 8 ∧ mK.1 0 24 = Int32.ofNat (k + 1) ∧ zKp (upR m23 2 (mE.1 2)) (zFill mK 7 (24 * k) 24 (fun i => mK.1 8 i)) (fun i => (upR m23 2 (mE.1 2)).1 2 (97 + i)) := by
        obtain ⟨n', z1, z2, z3⟩ := kp
        have hρ : ∀ i, i < 24 → mK.1 8 i = mE.1 2 (97 + i) := fun i hi => by rw [kc 8 (by omega) (by omega), p8 i hi]
        rcases z3 with ⟨y1, y2, y3, y4⟩ | ⟨y1, y2, y3, y4⟩
        · refine ⟨n', y1, y2, n', z1, by rw [upR_ne' (by omega)]; exact z2, Or.inl ⟨y1, by rw [zFill_ne (by omega)]; exact y2, fun t i ht hi => ?_, fun i hi => ?_⟩⟩
          · rw [zFill_out (by omega), upR_ne' (by omega)]
            exact y3 t i ht hi
          · rw [zFill_in hi, upR_at']
            exact hρ i hi
        · refine ⟨7, by omega, y2, n', z1, by rw [upR_ne' (by omega)]; exact z2, Or.inr ⟨y1, by rw [zFill_ne (by omega)]; exact y2, fun t i ht hi => ?_, fun i hi => ?_⟩⟩
          · rw [zFill_out (by omega), upR_ne' (by omega)]
            exact y3 t i ht hi
          · rw [zFill_in hi, upR_at']
            exact hρ i hi
      obtain ⟨k, hk8, hk24, hkp⟩ := hk'
      rw [zM_kept hk24 hk8]
      unfold M_book_b283
      rw [if_neg (show ¬ (1 : Int32) = 0 by decide)]
      have eF2 : (zFill mK 7 (24 * k) 24 (fun i => mK.1 8 i)).1 2 = mL.1 2 := by rw [zFill_ne (by omega), kc 2 (by omega) (by omega), p2]
      obtain ⟨m', e', r'⟩ := zC_commit (m := c8) (mM' := zFill mK 7 (24 * k) 24 (fun i => mK.1 8 i)) hQ (fun _ _ => rfl) rfl (fun j hj => by rw [eF2, upR_at', hj2 j hj]) (by rw [eF2]; exact zT_tr hcτ (zSame_of (fun c h1 h2 => g1 c (by omega))) (fun _ _ => rfl) lT) (by rw [eF2]; exact zU_tr hcτ (zSame_of (fun c h1 h2 => g1 c (by omega))) rfl (fun _ _ _ => rfl) lU) (by rw [eF2]; exact hwL) hkp ⟨fun c hcc => by rw [zFill_ne (by omega), kc c (by omega) (by omega), upR_ne' (by omega)], fun j hj => by rw [zFill_ne (by omega), kj j (by omega), upR_ne' (by omega)], fun c hcc => by show mK.2 c = m23.2 c; rw [kL]⟩
      rw [e', Option.bind_some]
      have v3 : m'.1 76 3 = Int32.ofNat w ∧ m'.1 76 4 = Int32.ofNat a := by
        have ht' := r'.2.2.2.2.2.2.2.2.2.2.2.2.2.2.1
        have hF47 : (zFill mK 7 (24 * k) 24 (fun i => mK.1 8 i)).1 0 47 = 1 := by rw [zFill_ne (by omega), kj 47 (by omega), p47]
        have hF18 : (zFill mK 7 (24 * k) 24 (fun i => mK.1 8 i)).1 18 = m23.1 18 := by rw [zFill_ne (by omega), kc 18 (by omega) (by omega)]
        rcases ht' with ⟨h, _⟩ | ⟨_, _, h⟩
        · rw [hF47] at h
          exact absurd h (by decide)
        · have h3 := h 0 (by omega)
          have h4 := h 1 (by omega)
          rw [hF18, ← pt 0 (by omega)] at h3
          rw [hF18, ← pt 1 (by omega)] at h4
          exact ⟨h3.trans g3, h4.trans g4⟩
      rw [val m' v3.1 v3.2]
      exact ⟨_, m', _, rfl, rfl, r'⟩
    · have ha' : a = 0 := by omega
      rw [if_neg (show ¬ 0 < Int32.ofNat a from fun e => ha ((z_lt (a := 0) (by omega) (by omega)).mp e)), if_neg (show ¬ 0 < Int32.ofNat a from fun e => ha ((z_lt (a := 0) (by omega) (by omega)).mp e)), val c8 g3 g4]
      unfold M_book_b283
      rw [if_neg (show ¬ (1 : Int32) = 0 by decide)]
      refine ⟨_, c8, m23, rfl, rfl, zBk_rel hR gc gL (fun c h0 h8 h18 => ?_) p0 p47 pL g2 pt⟩
      by_cases h2 : c = 2
      · rw [h2, p2, ha0 ha', e2]
      · exact pc c h0 h2 h8 h18
theorem zP_book : lS_book zRel := by
  intro mC mM x hR
  have hR1 := zRel_thr hR 0
  unfold M_book O_book
  rw [nm_eq]
  generalize upI mM 0 0 0 = m1 at hR1 ⊢
  rw [zM_in, Option.bind_some]
  by_cases hx : x = 0 ∨ x = 1
  · have hin : zb (!decide (x < 0) && !decide (1 < x)) = 1 := by rcases hx with h | h <;> (subst h; rfl)
    have hO : (if x = 0 then O_book_b13 x mC else if x = 1 then O_book_b13 x mC else some (-1000, mC)) = O_book_b13 x mC := by
      by_cases h : x = 0
      · rw [if_pos h]
      · rw [if_neg h, if_pos (by rcases hx with h' | h'; exact absurd h' h; exact h')]
    rw [hin, if_neg (show ¬ (1 : Int32) = 0 by decide), hO]
    obtain ⟨n, r, b, er, HT, r2, r4, r5, rL, rn, r0, hRr⟩ := zM_takenL (L := 400) hR1
    rw [er, Option.bind_some, nm_eq, nm_eq]
    generalize eq6 : upI (upI r 0 15 0) 0 45 0 = q6
    have q1 : ∀ c, c ≠ 0 → q6.1 c = r.1 c := fun c hc => by rw [← eq6, upI_ne' hc, upI_ne' hc]
    have q2 : ∀ j, j ≠ 15 → j ≠ 45 → q6.1 0 j = r.1 0 j := fun j a b => by rw [← eq6, upI_nj b, upI_nj a]
    have q15 : q6.1 0 15 = 0 := by rw [← eq6, upI_nj (by omega), upI_at]
    have q45 : q6.1 0 45 = 0 := by rw [← eq6, upI_at]
    have qL : q6.2 = r.2 := by rw [← eq6]; rfl
    have hX : zXM r q6 := ⟨fun c hc => q1 c (by omega), fun j hj => q2 j (by omega) (by omega), fun c hc => by rw [qL], fun j hj => by rw [qL]⟩
    obtain ⟨cS, mS, eS, eG, RS, s1, s2, s3, s4, s5⟩ := zT_start (lim := 400) (mC := mC) (mM := q6) (by omega) (zTpe_tr rfl rfl (by rw [q2 3 (by omega) (by omega)]) (by rw [q1 1 (by omega)]) HT) (zRes_tr rfl (by rw [qL, rL]) hR1.2.2.2.2.2.2.1) (by rw [q2 5 (by omega) (by omega), r5]; rfl) (by rw [q2 4 (by omega) (by omega), r4]) q15 hX
    have eS' : Tokens_start mC 400 = some cS := eS
    unfold O_book_b13
    rw [eS', Option.bind_some, eG, Option.bind_some]
    have P : zPh mC r := by
      unfold zPh
      rw [rn 2 (by omega)]
      refine ⟨hR1.1.1, hR1.2.1.1, ?_⟩
      have h := hR1.2.2.1
      unfold zNms at h ⊢
      rw [rL]
      exact h
    rcases zLb_lines (p0 := x) P RS (by rw [s4 45 (by omega) (by omega), q45]) with ⟨i, cE, mE, hi, x1, x2, RE, k45, k76, rows⟩ | ⟨cE, mE, x1, x2, Bd⟩
    · rw [x1, x2, Option.bind_some]
      dsimp only
      have hEnd := zRel_end (x := 0) hRr r2 RE.2.2.1 RE.2.2.2 RE.2.1.2.symm
      unfold O_endText
      rw [nm_eq, nm_eq, Option.bind_some, upI_at, upI_ne' (show (3 : Nat) ≠ 1 by omega), RE.2.1.1, if_pos rfl]
      have e2 : mE.1 2 = r.1 2 := RE.2.2.2.1 2 (by omega)
      exact zBk_good hEnd hi (by rw [upI_ne' (by omega), upI_ne' (by omega)]; exact k76) k45 (fun k hk => by rw [e2]; exact zBk_tr (by rw [upI_ne' (by omega), upI_ne' (by omega)]) (fun _ _ _ => rfl) (rows k hk)) hx
    · rw [x1, x2, Option.bind_some]
      dsimp only
      obtain ⟨b1, b2, b3, b4, b5⟩ := Bd
      unfold O_endText
      rw [nm_eq, nm_eq, Option.bind_some, upI_at, upI_ne' (show (3 : Nat) ≠ 1 by omega), if_neg (by rw [b3]; exact b4), upI_ne' (show (3 : Nat) ≠ 0 by omega), upI_ne' (show (3 : Nat) ≠ 1 by omega), b5]
      exact ⟨_, _, _, rfl, rfl, zRel_end hRr r2 b1 b2 b3⟩
  · have h0 : ¬ x = 0 := fun h => hx (Or.inl h)
    have h1 : ¬ x = 1 := fun h => hx (Or.inr h)
    rw [if_neg h0, if_neg h1]
    have hout : zb (!decide (x < 0) && !decide (1 < x)) = 0 := by
      cases hq : (!decide (x < 0) && !decide (1 < x)) with
      | false => rfl
      | true =>
        obtain ⟨k, k1, k2, k3⟩ := z_rngq (A := 0) (B := 1) hq (by decide) (by decide)
        exfalso
        by_cases h : k = 0
        · exact h0 (by rw [k3, h]; rfl)
        · exact h1 (by rw [k3, show k = 1 by omega]; rfl)
    rw [hout, if_pos rfl]
    exact ⟨_, mC, m1, rfl, rfl, hR1⟩
end ZBF
