/-! Layer 2. house: the call -/
def zHrow (h : Nat → Int32) (j : Nat) : Int32 := if j < 97 then h j else if 103 ≤ j ∧ j < 109 then h (25 + (j - 103)) else 0
section ZHX
variable {m m' mC mC' mM mM' C0 M0 C1 M1 : xMem} {n p lim q B O S W H : Nat} {b : Nat → Nat} {s t : Bool}
def zHendP (m m' : xMem) : Prop := (∀ c, c ≠ 0 → c ≠ 2 → m'.1 c = m.1 c) ∧ (∀ j, j ≠ 24 → m'.1 0 j = m.1 0 j) ∧ m'.1 0 24 = 0 ∧ (∀ c, c ≠ 5 → m'.2 c = m.2 c) ∧ (∀ i, i < 20 → m'.2 5 i = m.2 5 (20 + i)) ∧ ∀ j, j < 302 → m'.1 2 j = zHrow (m.1 3) j
theorem zM_hend : ∃ m', M_house_b85 1000 0 m = some (m.1 0 19, m') ∧ zHendP m m' := by
  refine z_loopX (fun f i m' => M_house_b85 f (Int32.ofNat i) m') 302 (fun i m' => (∀ c, c ≠ 2 → m'.1 c = m.1 c) ∧ m'.2 = m.2 ∧ ∀ j, j < i → m'.1 2 j = if j < 97 then m.1 3 j else 0) (fun r => ∃ m', r = some (m.1 0 19, m') ∧ zHendP m m') (fun f i m1 hi hI => ?_) (fun f m1 hI => ?_) 302 0 1000 m (by omega) (by omega) ⟨fun _ _ => rfl, rfl, fun j hj => by omega⟩
  · obtain ⟨a1, a2, a3⟩ := hI
    right
    refine ⟨upI m1 2 i (if i < 97 then m.1 3 i else 0), ⟨fun c hc => by rw [upI_ne' hc, a1 c hc], a2, fun j hj => ?_⟩, ?_⟩
    · by_cases h : j = i
      · rw [h, upI_at]
      · rw [upI_nj h]; exact a3 j (by omega)
    · rw [M_house_b85, if_pos (show Int32.ofNat i < 302 from (z_lt (b := 302) (by omega) (by omega)).mpr hi)]
      by_cases h : i < 97
      · rw [if_pos (show Int32.ofNat i < 97 from (z_lt (b := 97) (by omega) (by omega)).mpr h), z_ix h (by omega), Option.bind_some]
        unfold M_house_b113
        rw [z_ix hi (by omega), Option.bind_some, nm_eq, a1 3 (by omega), if_pos h, z_s]
      · rw [if_neg (show ¬ Int32.ofNat i < 97 from fun e => h ((z_lt (b := 97) (by omega) (by omega)).mp e))]
        unfold M_house_b113
        rw [z_ix hi (by omega), Option.bind_some, nm_eq, if_neg h, z_s]
  obtain ⟨a1, a2, a3⟩ := hI
  rw [M_house_b85, if_neg (show ¬ Int32.ofNat 302 < 302 by decide)]
  refine z_loopX (fun f i m' => M_house_b122 f (Int32.ofNat i) m') 20 (fun i m' => m'.1 = m1.1 ∧ (∀ c, c ≠ 5 → m'.2 c = m.2 c) ∧ (∀ j, j < i → m'.2 5 j = m.2 5 (20 + j)) ∧ ∀ j, i ≤ j → m'.2 5 j = m.2 5 j) (fun r => ∃ m', r = some (m.1 0 19, m') ∧ zHendP m m') (fun f i m2 hi hI => ?_) (fun f m2 hI => ?_) 20 0 1000 m1 (by omega) (by omega) ⟨rfl, fun c _ => by rw [a2], fun j hj => by omega, fun j _ => by rw [a2]⟩
  · obtain ⟨b1, b2, b3, b4⟩ := hI
    right
    refine ⟨upL m2 5 i (m2.2 5 (20 + i)), ⟨b1, fun c hc => by rw [upL_ne' hc, b2 c hc], fun j hj => ?_, fun j hj => by rw [upL_nj (by omega)]; exact b4 j (by omega)⟩, ?_⟩
    · by_cases h : j = i
      · rw [h, upL_at, b4 (20 + i) (by omega)]
      · rw [upL_nj h]; exact b3 j (by omega)
    · rw [M_house_b122, if_pos (show Int32.ofNat i < 20 from (z_lt (b := 20) (by omega) (by omega)).mpr hi), zk20, z_ix (show 20 + i < 40 by omega) (by omega), Option.bind_some, z_ix (show i < 40 by omega) (by omega), Option.bind_some, nm_eq, z_s]
  obtain ⟨b1, b2, b3, b4⟩ := hI
  rw [M_house_b122, if_neg (show ¬ Int32.ofNat 20 < 20 by decide)]
  refine z_loopX (fun f i m' => M_house_b151 f (Int32.ofNat i) m') 6 (fun i m' => (∀ c, c ≠ 2 → m'.1 c = m1.1 c) ∧ m'.2 = m2.2 ∧ ∀ j, j < 302 → m'.1 2 j = if j < 97 then m.1 3 j else if 103 ≤ j ∧ j < 103 + i then m.1 3 (25 + (j - 103)) else 0) (fun r => ∃ m', r = some (m.1 0 19, m') ∧ zHendP m m') (fun f i m3 hi hI => ?_) (fun f m3 hI => ?_) 6 0 1000 m2 (by omega) (by omega) ⟨fun c _ => by rw [b1], rfl, fun j hj => by rw [b1, a3 j hj]; by_cases h : j < 97; rw [if_pos h, if_pos h]; rw [if_neg h, if_neg h, if_neg (by omega)]⟩
  · obtain ⟨c1, c2, c3⟩ := hI
    right
    refine ⟨upI m3 2 (103 + i) (m3.1 2 (25 + i)), ⟨fun c hc => by rw [upI_ne' hc, c1 c hc], c2, fun j hj => ?_⟩, ?_⟩
    · by_cases h : j = 103 + i
      · rw [h, upI_at, c3 (25 + i) (by omega), if_pos (by omega), if_neg (by omega), if_pos (by omega), show 25 + (103 + i - 103) = 25 + i by omega]
      · rw [upI_nj h, c3 j hj]
        by_cases h1 : j < 97
        · rw [if_pos h1, if_pos h1]
        · rw [if_neg h1, if_neg h1]
          by_cases h2 : 103 ≤ j ∧ j < 103 + i
          · rw [if_pos h2, if_pos (by omega)]
          · rw [if_neg h2, if_neg (by omega)]
    · rw [M_house_b151, if_pos (show Int32.ofNat i < 6 from (z_lt (b := 6) (by omega) (by omega)).mpr hi), zk25, z_ix (show 25 + i < 302 by omega) (by omega), Option.bind_some, show (103 + Int32.ofNat i : Int32) = Int32.ofNat (103 + i) from z_add 103 i, z_ix (show 103 + i < 302 by omega) (by omega), Option.bind_some, nm_eq, z_s]
  obtain ⟨c1, c2, c3⟩ := hI
  rw [M_house_b151, if_neg (show ¬ Int32.ofNat 6 < 6 by decide), nm_eq, upI_nj (show (19 : Nat) ≠ 24 by omega), c1 0 (by omega), a1 0 (by omega)]
  refine ⟨_, rfl, fun c h0 h2 => by rw [upI_ne' h0, c1 c h2, a1 c h2], fun j hj => by rw [upI_nj hj, c1 0 (by omega), a1 0 (by omega)], upI_at, fun c hc => by rw [upI_2, c2, b2 c hc], fun i hi => by rw [upI_2, c2, b3 i hi], fun j hj => ?_⟩
  rw [upI_ne' (by omega), c3 j hj]
  unfold zHrow
  rfl
/-- what was read, as a row of the model -/
theorem zHd_row {σ : zR} (D : zHd mC mM B O S W H) (hσ : ∀ j, j < 302 → σ j = zHrow (mM.1 3) j) : zB σ = B ∧ zO σ = O ∧ zC σ = S ∧ zWF σ ∧ zH mC 44 σ ∧ (∀ o, o < O → mC.1 (56 + o) 0 = σ (103 + o)) := by
  obtain ⟨d0, d1, d2, d3, d4, d5, d6⟩ := D
  have h : ∀ j, j < 97 → σ j = mM.1 3 j := fun j hj => by rw [hσ j (by omega)]; unfold zHrow; rw [if_pos hj]
  have hs : ∀ o, o < 6 → σ (103 + o) = mM.1 3 (25 + o) := fun o ho => by rw [hσ (103 + o) (by omega)]; unfold zHrow; rw [if_neg (by omega), if_pos (by omega), show 25 + (103 + o - 103) = 25 + o by omega]
  have hz : ∀ j, (97 ≤ j ∧ j < 103) ∨ (109 ≤ j ∧ j < 302) → σ j = 0 := fun j hj => by rw [hσ j (by omega)]; unfold zHrow; rw [if_neg (by omega), if_neg (by omega)]
  have e0 : zB σ = B := by unfold zB; rw [h 0 (by omega), d2.1, z_cl (by omega)]
  have e1 : zO σ = O := by unfold zO; rw [h 1 (by omega), d2.2.1, z_cl (by omega)]
  have e2 : zC σ = S := by unfold zC; rw [h 2 (by omega), d2.2.2.1, z_cl (by omega)]
  refine ⟨e0, e1, e2, ⟨?_, ?_, ?_, ?_⟩, ?_, fun o ho => ?_⟩
  · unfold zCt
    rw [e0, e1, e2, h 0 (by omega), h 1 (by omega), h 2 (by omega)]
    exact ⟨⟨d2.1, d0.1⟩, ⟨d2.2.1, d0.2.1⟩, d2.2.2.1, d0.2.2.1, d0.2.2.2.1⟩
  · rw [h 3 (by omega), d2.2.2.2.1]
    exact ⟨by rw [z_toInt (by omega)]; omega, by rw [z_toInt (by omega)]; omega⟩
  · rw [h 4 (by omega), d2.2.2.2.2]
    exact ⟨by rw [z_toInt (by omega)]; omega, by rw [z_toInt (by omega)]; omega⟩
  · unfold zWs
    rw [hz 97 (by omega), hz 98 (by omega), hz 100 (by omega), e0, e1]
    refine ⟨⟨by decide, by decide⟩, fun k _ _ => tb_0 k, ⟨by decide, by decide⟩, fun o ho => ?_⟩
    rw [hs o (by omega)]
    exact (d4 o ho).2.2.2.2.2.1
  · unfold zH
    rw [e0, e1, e2, h 0 (by omega), h 1 (by omega), h 2 (by omega), h 3 (by omega), h 4 (by omega), h 5 (by omega), h 6 (by omega), d2.1, d2.2.1, d2.2.2.1, d2.2.2.2.1, d2.2.2.2.2]
    refine ⟨d1.1, d1.2.1, d1.2.2.1, d1.2.2.2.1, d1.2.2.2.2.1, d1.2.2.2.2.2.1, d1.2.2.2.2.2.2, fun b hb => ?_, fun o ho => ?_, fun i hi => ?_⟩
    · obtain ⟨a1, a2, a3, a4, a5⟩ := d3 b hb
      rw [h (7 + b) (by omega), h (13 + b) (by omega), h (19 + b) (by omega)]
      exact ⟨a1, a2, a3⟩
    · obtain ⟨a1, a2, a3, a4, a5⟩ := d4 o ho
      rw [h (25 + o) (by omega), h (31 + o) (by omega), h (37 + o) (by omega), h (43 + o) (by omega)]
      exact ⟨a1, a2, a3, a4⟩
    · rw [h (49 + i) (by omega), h (57 + i) (by omega), h (65 + i) (by omega), h (73 + i) (by omega), h (81 + i) (by omega), h (89 + i) (by omega)]
      exact (d5 i hi).1
  · rw [hs o (by omega)]
    exact (d4 o ho).1
theorem zP_house : lS_house zRel := by
  intro mC mM hR
  have hR1 := zRel_thr hR 0
  unfold M_house O_house
  rw [nm_eq]
  generalize upI mM 0 0 0 = m1 at hR1 ⊢
  obtain ⟨n, r, b, er, HT, r2, r4, r5, rL, rn, r0, hRr⟩ := zM_takenL (L := 900) hR1
  rw [er, Option.bind_some, nm_eq, nm_eq, nm_eq, nm_eq]
  have hB : zRel (upI mC 1 1 0) (upI r 0 19 0) := zRel_0 (by omega) hRr
  generalize eq6 : upI (upI (upI (upI r 0 15 0) 0 19 0) 0 20 0) 0 21 0 = q6
  have q1 : ∀ c, c ≠ 0 → q6.1 c = r.1 c := fun c hc => by rw [← eq6, upI_ne' hc, upI_ne' hc, upI_ne' hc, upI_ne' hc]
  have q2 : ∀ j, j ≠ 15 → j ≠ 19 → j ≠ 20 → j ≠ 21 → q6.1 0 j = r.1 0 j := fun j a b c d => by rw [← eq6, upI_nj d, upI_nj c, upI_nj b, upI_nj a]
  have q15 : q6.1 0 15 = 0 := by rw [← eq6, upI_nj (by omega), upI_nj (by omega), upI_nj (by omega), upI_at]
  have q19 : q6.1 0 19 = 0 := by rw [← eq6, upI_nj (by omega), upI_nj (by omega), upI_at]
  have q20 : q6.1 0 20 = 0 := by rw [← eq6, upI_nj (by omega), upI_at]
  have q21 : q6.1 0 21 = 0 := by rw [← eq6, upI_at]
  have qL : q6.2 = r.2 := by rw [← eq6]; rfl
  obtain ⟨m7, e7, f1, f2, f3, f4⟩ := zM_clears (m := q6)
  rw [e7, Option.bind_some]
  have hX : zXM (upI r 0 19 0) m7 := by
    refine ⟨fun c hc => by rw [f1 c (by omega), q1 c (by omega), upI_ne' (by omega)], fun j hj => ?_, fun c hc => by rw [f2, qL]; rfl, fun j hj => by rw [f2, qL]; rfl⟩
    rw [f1 0 (by omega)]
    by_cases h : j = 19
    · rw [h, upI_at, q19]
    · rw [upI_nj h, q2 j (by omega) h (by omega) (by omega)]
  obtain ⟨cS, mS, eS, eG, RS, s1, s2, s3, s4, s5⟩ := zT_start (lim := 900) (mC := mC) (mM := m7) (by omega) (zTpe_tr rfl rfl (by rw [f1 0 (by omega), q2 3 (by omega) (by omega) (by omega) (by omega)]) (by rw [f1 1 (by omega), q1 1 (by omega)]) HT) (zRes_tr rfl (by rw [f2, qL, rL]) hR1.2.2.2.2.2.2.1) (by rw [f1 0 (by omega), q2 5 (by omega) (by omega) (by omega) (by omega), r5]; rfl) (by rw [f1 0 (by omega), q2 4 (by omega) (by omega) (by omega) (by omega), r4]) (by rw [f1 0 (by omega), q15]) hX
  have eS' : Tokens_start mC 900 = some cS := eS
  rw [eS', Option.bind_some, eG, Option.bind_some]
  unfold HouseReader_readAll
  obtain ⟨cR, eR, g1, g2, v0, v1, v2, v3, v4, v5, v6, v7, v8, hCw⟩ := zC_clear (m := cS)
  rw [eR, Option.bind_some]
  have hrow : mS.1 3 = m7.1 3 := s3 3 (by omega)
  have hs : zHs cR mS := by
    refine ⟨0, 0, 0, 6, 6, false, false, ⟨⟨by omega, by omega, by omega, by omega, by omega, by omega, by omega, by omega⟩, ⟨v0, v1, ?_, ?_, v6, v7, v8⟩, ⟨?_, ?_, ?_, ?_, ?_⟩, fun b hb => by omega, fun o ho => by omega, fun i hi => by omega, fun o _ ho => ?_⟩, v4, v5, ?_, ?_⟩
    · rw [v2, hrow, f3.2.2.1]
    · rw [v3, hrow, f3.2.2.2]
    · rw [hrow, f4 0 (by omega)]; rfl
    · rw [hrow, f4 1 (by omega)]; rfl
    · rw [hrow, f4 2 (by omega)]; rfl
    · rw [hrow, f3.1]; rfl
    · rw [hrow, f3.2.1]; rfl
    · rw [hrow]
      exact ⟨f4 (37 + o) (by omega), f4 (43 + o) (by omega)⟩
    · rw [s4 20 (by omega) (by omega), f1 0 (by omega), q20]; rfl
    · rw [s4 21 (by omega) (by omega), f1 0 (by omega), q21]; rfl
  have h19 : mS.1 0 19 = 0 := by rw [s4 19 (by omega) (by omega), f1 0 (by omega), q19]
  rcases zL_lines hs (zRd_C hCw RS) h19 with ⟨i, cE, mE, hi, x1, x2, RE, hsE, k19⟩ | ⟨v, cE, mE, x1, x2, Bd⟩
  · rw [x1, x2, Option.bind_some]
    dsimp only
    obtain ⟨m9, e9, p1, p2, p3, p4, p5, p6⟩ := zM_hend (m := mE)
    obtain ⟨B, O, S, W, H, s, t, D, F⟩ := hsE
    have hB2 : zRel (upI mC 1 1 0) (upI (upI r 0 19 0) 0 19 (Int32.ofNat i)) := zRel_0 (by omega) hB
    have hEnd := zRel_end (x := 0) hB2 (by rw [upI_nj (by omega), upI_nj (by omega), r2]) RE.2.2.1 RE.2.2.2 RE.2.1.2.symm
    unfold O_endText
    rw [nm_eq, nm_eq, Option.bind_some, upI_at, upI_ne' (show (3 : Nat) ≠ 1 by omega), RE.2.1.1, if_pos rfl]
    generalize e10 : upI (upI cE 1 1 0) 0 18 0 = c10 at hEnd ⊢
    have c10a : ∀ c, c ≠ 0 → c ≠ 1 → c10.1 c = cE.1 c := fun c h0 h1 => by rw [← e10, upI_ne' h0, upI_ne' h1]
    have c10L : c10.2 = cE.2 := by rw [← e10]; rfl
    unfold Image_begin
    obtain ⟨c11, e11, y1, y2, y3, y4, y5⟩ := zC_hcopy (m := c10) (o := 6) (p := 44) (by omega)
    have e11' : House_copyFrom c10 (5 + 1) 44 = some c11 := e11
    obtain ⟨c12, e12, w1, w2, w3, w4, w5, w6, w7, w8⟩ := zC_sbegin (m := c11) (O := O) D.1.2.1 (by rw [y4 44 (by omega), c10a 44 (by omega) (by omega)]; exact D.2.1.2.2.2.2.2.1)
    have e12' : State_begin c11 (5 + 28) 44 = some c12 := e12
    rw [e11', Option.bind_some, e12', Option.bind_some, nm_eq, Option.bind_some]
    unfold Undo_forget
    rw [nm_eq, Option.bind_some, e9, k19]
    refine ⟨_, _, _, rfl, rfl, ?_⟩
    obtain ⟨hc0, hc1, hc2, hWF, hH, hO⟩ := zHd_row (σ := m9.1 2) D p6
    obtain ⟨t1, t2, t3, t4, t5, t6, t7, t8, t9, t10, t11, t12, t13, t14, t15, t16⟩ := hEnd
    have hct := hWF.1
    have b6 := hct.1.2
    have o6 := hct.2.1.2
    have c8 := hct.2.2.2.1
    have fc : ∀ c, c < 5 ∨ (42 ≤ c ∧ c ≠ 123) → (upI (upI c12 (5 + 33) 0 0) 123 2 0).1 c = c10.1 c := fun c hc => by rw [upI_ne' (by omega), upI_ne' (by omega), w1 c (by omega), y4 c (by omega)]
    have fcL : ∀ c, c < 7 ∨ 10 ≤ c → (upI (upI c12 (5 + 33) 0 0) 123 2 0).2 c = c10.2 c := fun c hc => by rw [upI_2, upI_2, w2, y5 c (by omega)]
    have fm : ∀ c, c ≠ 0 → c ≠ 2 → m9.1 c = mE.1 c := p1
    have hz : ∀ j, (97 ≤ j ∧ j < 103) ∨ (109 ≤ j ∧ j < 302) → m9.1 2 j = 0 := fun j hj => by rw [p6 j (by omega)]; unfold zHrow; rw [if_neg (by omega), if_neg (by omega)]
    have hH6 : zH c11 6 (m9.1 2) := y1 (m9.1 2) hct (zH_tr hct (fun c h1 h2 => c10a c (by omega) (by omega)) (fun _ _ => rfl) hH)
    refine ⟨hWF, ⟨?_, ?_, ?_, ?_⟩, ⟨fun b hb => ?_, fun o ho => ?_, fun i hi => ?_⟩, ?_, fun k hk => zImg_tr hk (fun d h1 h2 => fc d (by omega)) (fun d h1 h2 => fcL d (by omega)) (fm 21 (by omega) (by omega)) (fm 23 (by omega) (by omega)) (p4 22 (by omega)) (t5 k hk), zTp_tr (by rw [fc 1 (by omega)]) (fc 2 (by omega)) (p2 2 (by omega)) (fm 1 (by omega) (by omega)) t6, zRes_tr (fcL 4 (by omega)) (p4 6 (by omega)) t7, ?_, zLs_tr (by rw [fc 165 (by omega)]) (fc 166 (by omega)) (p2 27 (by omega)) (fm 9 (by omega) (by omega)) t9, ?_, zLs_tr (by rw [fc 170 (by omega)]) (fc 179 (by omega)) (p2 35 (by omega)) (fm 13 (by omega) (by omega)) t11, zLs_tr (by rw [fc 0 (by omega)]) (fc 182 (by omega)) (p2 37 (by omega)) (fm 14 (by omega) (by omega)) t12, ?_, ?_, zTo_tr (fc 76 (by omega)) (p2 47 (by omega)) (fm 18 (by omega) (by omega)) t15, zWr_tr (by rw [fc 180 (by omega)]) (fc 181 (by omega)) (p2 43 (by omega)) (fm 17 (by omega) (by omega)) t16⟩
    · refine zH_tr hct (fun c h1 h2 => ?_) (fun _ _ => rfl) hH6
      rw [upI_ne' (by omega), upI_ne' (by omega), w1 c (by omega)]
    · unfold zT
      rw [upI_ne' (show 5 + 28 ≠ 123 by omega), upI_ne' (show 5 + 28 ≠ 5 + 33 by omega), upI_ne' (show 5 + 28 + 1 ≠ 123 by omega), upI_ne' (show 5 + 28 + 1 ≠ 5 + 33 by omega), upI_ne' (show 5 + 28 + 2 ≠ 123 by omega), upI_ne' (show 5 + 28 + 2 ≠ 5 + 33 by omega), hz 97 (by omega), hz 98 (by omega), hz 100 (by omega), hc1]
      refine ⟨w3, w4, w6, fun h => absurd h (by decide), fun o ho => ?_⟩
      have h := w7 o ho
      rw [y4 (56 + o) (by omega), c10a (56 + o) (by omega) (by omega), hO o ho] at h
      exact h
    · unfold zU
      rw [upI_ne' (show 5 + 28 ≠ 123 by omega), upI_ne' (show 5 + 28 ≠ 5 + 33 by omega), upI_ne' (show 5 + 28 + 3 ≠ 123 by omega), upI_ne' (show 5 + 28 + 3 ≠ 5 + 33 by omega), upI_ne' (show 5 + 28 + 4 ≠ 123 by omega), upI_ne' (show 5 + 28 + 4 ≠ 5 + 33 by omega), hz 99 (by omega)]
      refine ⟨w5, fun b hb => ?_⟩
      rw [hz (109 + b) (by omega), hz (115 + b) (by omega)]
      exact w8 b (by omega)
    · refine Or.inl ⟨?_, hz 121 (by omega)⟩
      rw [upI_ne' (by omega), upI_at]
    · rw [hc0] at hb
      have h := (D.2.2.2.1 b hb).2.2.2.2
      have e1 : (upI (upI c12 (5 + 33) 0 0) 123 2 0).2 (6 + 1) b = cE.2 45 b := by rw [upI_2, upI_2, w2, (y2 b (by omega)).1, c10L]
      rw [e1, Nat.zero_add, p5 b (by omega)]
      exact h
    · rw [hc1] at ho
      have h := (D.2.2.2.2.1 o ho).2.2.2.2.2.2.2
      have e1 : (upI (upI c12 (5 + 33) 0 0) 123 2 0).2 (6 + 2) o = cE.2 46 o := by rw [upI_2, upI_2, w2, (y2 o (by omega)).2, c10L]
      rw [e1, show 0 + 6 + o = 6 + o by omega, p5 (6 + o) (by omega), show 20 + (6 + o) = 26 + o by omega]
      exact h
    · rw [hc2] at hi
      have h := (D.2.2.2.2.2.1 i hi).2
      have e1 : (upI (upI c12 (5 + 33) 0 0) 123 2 0).2 (6 + 3) i = cE.2 47 i := by rw [upI_2, upI_2, w2, y3 i (by omega), c10L]
      rw [e1, show 0 + 12 + i = 12 + i by omega, p5 (12 + i) (by omega), show 20 + (12 + i) = 32 + i by omega]
      exact h
    · obtain ⟨n', top, a1, a2, a3, a4, a5, a6⟩ := t4
      refine ⟨0, top, by omega, a2, ?_, upI_at, p3, fun t ht => by omega⟩
      rw [upI_nj (by omega), upI_ne' (by omega), w1 123 (by omega), y4 123 (by omega)]
      exact a3
    · unfold zFa; rw [fc 0 (by omega), p2 15 (by omega)]; exact t8
    · unfold zSpN; rw [fc 165 (by omega), p2 28 (by omega)]; exact t10
    · unfold zKe; rw [fc 0 (by omega), p2 29 (by omega), p2 30 (by omega), p2 31 (by omega)]; exact t13
    · unfold zDu; rw [fc 0 (by omega), p2 40 (by omega), p2 41 (by omega)]; exact t14
  · rw [x1, x2, Option.bind_some]
    dsimp only
    obtain ⟨b1, b2, b3, b4, b5⟩ := Bd
    have hB2 : zRel (upI mC 1 1 0) (upI (upI r 0 19 0) 0 19 v) := zRel_0 (by omega) hB
    unfold O_endText
    rw [nm_eq, nm_eq, Option.bind_some, upI_at, upI_ne' (show (3 : Nat) ≠ 1 by omega), if_neg (by rw [b3]; exact b4), upI_ne' (show (3 : Nat) ≠ 0 by omega), upI_ne' (show (3 : Nat) ≠ 1 by omega), b5]
    exact ⟨_, _, _, rfl, rfl, zRel_end hB2 (by rw [upI_nj (by omega), upI_nj (by omega), r2]) b1 b2 b3⟩
end ZHX
