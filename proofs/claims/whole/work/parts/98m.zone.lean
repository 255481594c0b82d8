/-! Layer 2. sentence: one -/
section ZSM
variable {m m' mC mC' mM mM' C0 M0 : xMem} {n lim q j w k k0 f g i d : Nat} {b : Nat → Nat} {S : List Int32} {o a : Bool} {l acc : List zTp3}
/-- one more is counted, its word passed -/
theorem zO_go (hk : k + 1 ≤ 20) (h11 : mM.1 0 11 = 1 ∨ mM.1 0 11 = 2 ∨ mM.1 0 11 = 3) (h : zXs n lim b C0 M0 S false false 0 w k (g + 1) q l mC mM) : ∃ c1 m1, Tokens_advance (upI mC 71 1 (Int32.ofNat (k + 1))) = some c1 ∧ M_go (upI mM 0 50 (Int32.ofNat (k + 1))) = some m1 ∧ m1.1 0 53 = mM.1 0 53 ∧ zXs n lim b C0 M0 S false false 0 w (k + 1) g (q + 1) l c1 m1 := by
  have hT := zXs_T h
  have hm := zXs_s h
  obtain ⟨hSl, hll⟩ := zXs_len h
  obtain ⟨R, hf, hq, _, _, hD, hk1, hk2, hk', hl', hTl, hw⟩ := h
  obtain ⟨c1, m1, x1, x2, R1, G⟩ := zT_go1 (zRd_M (zMw_0 (j := 50) (v := Int32.ofNat (k + 1)) (by omega)) (zRd_C (zCw_I (c := 71) (j := 1) (v := Int32.ofNat (k + 1)) (by omega)) R)) (by rw [upI_nj (by omega)]; exact h11)
  have e0 : ∀ j, j ≠ 4 → (j < 11 ∨ 14 < j) → j ≠ 50 → m1.1 0 j = mM.1 0 j := fun j h4 hj h50 => by rw [G.2.2.2.2.1 j h4 hj, upI_nj h50]
  refine ⟨c1, m1, x1, x2, e0 53 (by omega) (by omega) (by omega), zSy_mk R1 (by omega) (zSq_tr (by rw [G.1 71 (by omega), upI_nj (by omega)]) (by rw [G.1 72 (by omega), upI_ne' (by omega)]) (by rw [G.1 73 (by omega), upI_ne' (by omega)]) (by rw [G.1 74 (by omega), upI_ne' (by omega)]) hq) (zSm_tr (by rw [G.2.2.2.1 4 (by omega), upI_ne' (by omega)]) (e0 49 (by omega) (by omega) (by omega)) hm) (zSt_tr (by rw [G.2.2.2.1 19 (by omega), upI_ne' (by omega)]) (e0 51 (by omega) (by omega) (by omega)) hT) (by rw [e0 52 (by omega) (by omega) (by omega)]; exact hD) ?_ ?_ hk (by omega) (by omega) hw⟩
  · rw [G.1 71 (by omega), upI_at]
  · rw [G.2.2.2.2.1 50 (by omega) (by omega), upI_at]
/-- a bracket, a not is opened -/
theorem zO_push {op : Int32} (hw8 : w ≤ 8) (hSk : S.length + 1 ≤ 2 * k) (h : zXs n lim b C0 M0 S false false 0 w k g q l mC mM) : ∃ m1, M_operand_b103 op (mM.1 0 51) mM = some (1, m1) ∧ m1.1 0 53 = mM.1 0 53 ∧ zXs n lim b C0 M0 (S ++ [op]) false false 0 (w + 1) k g q l mC m1 := by
  have hT := zXs_T h
  have hm := zXs_s h
  obtain ⟨hSl, hll⟩ := zXs_len h
  obtain ⟨R, hf, hq, _, _, hD, hk1, hk2, hk', hl', hTl, hw⟩ := h
  unfold M_operand_b103
  rw [hT.1, z_ix (show S.length < 45 by omega) (by omega), Option.bind_some, nm_eq, nm_eq, nm_eq, upI_nj (show (52 : Nat) ≠ 51 by omega), upI_ne' (show (0 : Nat) ≠ 19 by omega), hT.1, hD, z_s, z_s]
  have hD' : Int32.ofNat (w + 0 + 1) = Int32.ofNat (w + 1) := rfl
  refine ⟨_, rfl, by rw [upI_nj (by omega), upI_nj (by omega), upI_ne' (by omega)], zSy_mk (zRd_M (zMw_t (zMw_row (by omega)) (zMw_t (zMw_0 (by omega)) (zMw_0 (by omega)))) R) hf hq (zSm_tr (by rw [upI_ne' (by omega), upI_ne' (by omega), upI_ne' (by omega)]) (by rw [upI_nj (by omega), upI_nj (by omega), upI_ne' (by omega)]) hm) (zSt_push (mM := mM) (fun i hi => by rw [upI_ne' (by omega), upI_ne' (by omega), upI_nj hi]) (by rw [upI_ne' (by omega), upI_ne' (by omega), upI_at]) (by rw [upI_nj (by omega), upI_at]) hT) (by rw [upI_at]) hk1 (by rw [upI_nj (by omega), upI_nj (by omega), upI_ne' (by omega)]; exact hk2) hk' hll (by rw [List.length_append]; exact hSk) (by omega)⟩
theorem zXs_53 {v : Int32} (h : zXs n lim b C0 M0 S o a j w k f q l mC mM) : zXs n lim b C0 M0 S o a j w k f q l mC (upI mM 0 53 v) := by
  obtain ⟨R, hf, hq, ⟨l0, e0, hm⟩, hT, hD, hk1, hk2, hk', hl', hTl, hw⟩ := h
  exact ⟨zRd_M (zMw_0 (by omega)) R, hf, hq, ⟨l0, e0, zSm_tr (upI_ne' (by omega)) (upI_nj (by omega)) hm⟩, zSt_tr (upI_ne' (by omega)) (upI_nj (by omega)) hT, by rw [upI_nj (by omega)]; exact hD, hk1, by rw [upI_nj (by omega)]; exact hk2, hk', hl', hTl, hw⟩
theorem zOne_s (P : zPh C0 M0) (hOne : w ≤ 8 → zOneP n lim b C0 M0 d (w + 1)) (hw9 : w ≤ 9) : zOneP n lim b C0 M0 (d + 1) w := by
  intro k f q l S mC mM h53 h
  obtain ⟨g, rfl⟩ := zX_f h
  have R := h.1
  obtain ⟨hSl, hll⟩ := zXs_len h
  have hk1 := h.2.2.2.2.2.2.1
  have hk2 := h.2.2.2.2.2.2.2.1
  have hk20 := h.2.2.2.2.2.2.2.2.1
  have hD := h.2.2.2.2.2.1
  rw [Nat.add_zero] at hD
  obtain ⟨s, hkd⟩ := zRd_kd R
  obtain ⟨t, t1, t2, t3⟩ := zKd_sign (k := 40) (by decide) (by omega) hkd
  have t1' : Tokens_isSign mC 40 = some (zb t) := t1
  have t2' : M_isSign mM 40 = some (zb t) := t2
  have hnot := (zM_isW (k := 23) (lit := 7237492) (by omega) (by decide +kernel) R)
  obtain ⟨lf1, lf2⟩ := zM_leafOf R
  rw [Sentence_readOne]
  unfold Sentence_readOne_body
  rw [zS_unf0 h53]
  unfold M_operand
  rw [t1', Option.bind_some, nm_eq, hnot.1, Option.bind_some, t2', Option.bind_some]
  -- too many
  have many : ∀ (v1 v2 v3 v4 v5 : Int32), (k = 20 ∨ w = 9) → zRs1 n lim b C0 M0 S w k l (fun o a => o = false ∧ a = false) (fun _ => True) (Sentence_readOne_b39 (Sentence_readOne d) 71 6 (Int32.ofNat w) v4 v5 mC) ((M_operand_b38 v1 v2 v3 mM).bind fun r17 => if r17.1 = 0 then some (((-1)) - (r17.2.1 0 16), r17.2) else M_sentence_b48 g 1 r17.2) := fun v1 v2 v3 v4 v5 hh => by
    obtain ⟨cF, mF, f1, f2, f3⟩ := zT_fail (k := 4) (by decide) R
    have e1 : Sentence_readOne_b39 (Sentence_readOne d) 71 6 (Int32.ofNat w) v4 v5 mC = some (0, cF) := by
      unfold Sentence_readOne_b39 Sentence_readOne_b54
      rw [hk1, f1, Option.bind_some, rz_0, Option.bind_some]
      by_cases h20 : k = 20
      · rw [if_neg (show ¬ Int32.ofNat k < 20 from fun e => by have := (z_lt (b := 20) (by omega) (by omega)).mp e; omega)]
      · rw [if_pos (show Int32.ofNat k < 20 from (z_lt (b := 20) (by omega) (by omega)).mpr (by omega)), if_pos (show 8 < Int32.ofNat w from (z_lt (a := 8) (by omega) (by omega)).mpr (by omega))]
    have e2 : M_operand_b38 v1 v2 v3 mM = some (0, mF) := by
      unfold M_operand_b38 M_operand_b56
      rw [hk2, hD, f2, Option.bind_some, rz_0, Option.bind_some]
      by_cases h20 : k = 20
      · rw [if_pos (show Int32.ofNat k = 20 by rw [h20]; rfl)]
      · rw [if_neg (show ¬ Int32.ofNat k = 20 from fun e => h20 ((z_eq (b := 20) (by omega) (by omega)).mp e)), if_pos (show 8 < Int32.ofNat w from (z_lt (a := 8) (by omega) (by omega)).mpr (by omega))]
    rw [e1, e2, Option.bind_some, if_pos rfl]
    exact Or.inr ⟨cF, mF, rfl, rfl, f3⟩
  have openC : ∀ (v4 v5 : Int32), k + 1 ≤ 20 → w ≤ 8 → Sentence_readOne_b39 (Sentence_readOne d) 71 6 (Int32.ofNat w) v4 v5 mC = (Tokens_advance (upI mC 71 1 (Int32.ofNat (k + 1)))).bind fun r5 => if v4 = 0 then if v5 = 23 then ((Sentence_readOne d) r5 71 6 (Int32.ofNat w + 1)).bind fun r6 => if r6.1 = 0 then some (0, r6.2) else (Sentence_addStep r6.2 71 23 0 0).bind fun r7 => some (1, r7) else (Sentence_readPlain r5 71 6 v5).bind fun r8 => (rz r8.1).bind fun w => some (w, r8.2) else (Sentence_readCond (Sentence_readOne d) r5 71 6 (Int32.ofNat w + 1)).bind fun r9 => if r9.1 = 0 then some (0, r9.2) else (Tokens_skipSign r9.2 41).bind fun r10 => if r10.1 = 0 then some (0, r10.2) else some (1, r10.2) := fun v4 v5 h1 h2 => by
    unfold Sentence_readOne_b39
    rw [hk1, if_pos (show Int32.ofNat k < 20 from (z_lt (b := 20) (by omega) (by omega)).mpr (by omega)), if_neg (show ¬ 8 < Int32.ofNat w from fun e => by have := (z_lt (a := 8) (by omega) (by omega)).mp e; omega), nm_eq, z_s]
  have openM : ∀ (v1 v2 v3 : Int32), k + 1 ≤ 20 → w ≤ 8 → M_operand_b38 v1 v2 v3 mM = (M_go (upI mM 0 50 (Int32.ofNat (k + 1)))).bind fun r6 => if v1 = 0 then if v2 = 0 then zMlf v3 (upI r6 0 53 1) else M_operand_b84 v1 r6 else M_operand_b84 v1 r6 := fun v1 v2 v3 h1 h2 => by
    unfold M_operand_b38
    rw [hk2, hD, if_neg (show ¬ Int32.ofNat k = 20 from fun e => by have := (z_eq (b := 20) (by omega) (by omega)).mp e; omega), if_neg (show ¬ 8 < Int32.ofNat w from fun e => by have := (z_lt (a := 8) (by omega) (by omega)).mp e; omega), nm_eq, z_s]
    rfl
  by_cases hmany : k = 20 ∨ w = 9
  · -- fails, if it is a one at all
    have anyway : ∀ v3 : Int32, M_leafOf mM = some v3 → (t = true ∨ mC.1 3 8 = 23 ∨ ¬ v3 < 0) → ∀ A : Option (Int32 × xMem), (A = Sentence_readOne_b39 (Sentence_readOne d) 71 6 (Int32.ofNat w) (zb t) (mC.1 3 8) mC) → zRs1 n lim b C0 M0 S w k l (fun o a => o = false ∧ a = false) (fun _ => True) A (((M_leafOf mM).bind fun r3 => if zb (decide (mC.1 3 8 = Int32.ofNat 23)) = 0 then if zb t = 0 then if r3 < 0 then (M_bad mM 1).bind fun r4 => (rz r4.1).bind fun w => some (w, r4.2) else M_operand_b38 (zb (decide (mC.1 3 8 = Int32.ofNat 23))) (zb t) r3 mM else M_operand_b38 (zb (decide (mC.1 3 8 = Int32.ofNat 23))) (zb t) r3 mM else M_operand_b38 (zb (decide (mC.1 3 8 = Int32.ofNat 23))) (zb t) r3 mM).bind fun r17 => if r17.1 = 0 then some (((-1)) - (r17.2.1 0 16), r17.2) else M_sentence_b48 g 1 r17.2) := fun v3 hv3 hone A hA => by
      rw [hv3, Option.bind_some, hA]
      have e : (if zb (decide (mC.1 3 8 = Int32.ofNat 23)) = 0 then if zb t = 0 then if v3 < 0 then (M_bad mM 1).bind fun r4 => (rz r4.1).bind fun w => some (w, r4.2) else M_operand_b38 (zb (decide (mC.1 3 8 = Int32.ofNat 23))) (zb t) v3 mM else M_operand_b38 (zb (decide (mC.1 3 8 = Int32.ofNat 23))) (zb t) v3 mM else M_operand_b38 (zb (decide (mC.1 3 8 = Int32.ofNat 23))) (zb t) v3 mM) = M_operand_b38 (zb (decide (mC.1 3 8 = Int32.ofNat 23))) (zb t) v3 mM := by
        by_cases h1 : zb (decide (mC.1 3 8 = Int32.ofNat 23)) = 0
        · rw [if_pos h1]
          by_cases h2 : zb t = 0
          · rw [if_pos h2]
            have h1' := zb_0.mp h1
            have h2' := zb_0.mp h2
            rw [if_neg]
            rcases hone with q | q | q
            · rw [h2'] at q; cases q
            · exact absurd q (of_decide_eq_false h1')
            · exact q
          · rw [if_neg h2]
        · rw [if_neg h1]
      rw [e]
      exact many _ _ _ _ _ hmany
    cases ht : t with
    | true =>
      subst ht
      rw [if_neg (show ¬ zb true = 0 by decide)]
      by_cases hex : ∃ i, i < 8 ∧ mC.1 3 8 = Int32.ofNat (24 + i)
      · obtain ⟨i, hi, e⟩ := hex
        exact anyway _ (lf1 i hi e) (Or.inl rfl) _ rfl
      · exact anyway _ (lf2 (fun i hi e => hex ⟨i, hi, e⟩)) (Or.inl rfl) _ rfl
    | false =>
      subst ht
      rw [if_pos (show zb false = 0 from rfl)]
      by_cases h23 : mC.1 3 8 = 23
      · rw [if_neg (show ¬ mC.1 3 8 < 23 by rw [h23]; decide), if_neg (show ¬ 31 < mC.1 3 8 by rw [h23]; decide)]
        exact anyway _ (lf2 (fun i hi e => by rw [h23] at e; have := (z_eq (a := 23) (by omega) (by omega)).mp e; omega)) (Or.inr (Or.inl h23)) _ rfl
      · by_cases hex : ∃ i, i < 8 ∧ mC.1 3 8 = Int32.ofNat (24 + i)
        · obtain ⟨i, hi, e⟩ := hex
          rw [if_neg (show ¬ mC.1 3 8 < 23 by rw [e]; exact fun q => by have := (z_lt (b := 23) (by omega) (by omega)).mp q; omega), if_neg (show ¬ 31 < mC.1 3 8 by rw [e]; exact fun q => by have := (z_lt (a := 31) (by omega) (by omega)).mp q; omega)]
          exact anyway _ (lf1 i hi e) (Or.inr (Or.inr (z_nn (by omega)))) _ rfl
        · have hlo : mC.1 3 8 < 23 := by
            rcases zKd_word hkd with ⟨_, _, wd, _, _, _, w4⟩ | ⟨_, _, w4⟩
            · cases hq : zFst (fun k => decide (zWrd k = wd)) 32 with
              | none => rw [w4, hq]; decide
              | some kk =>
                have hkk := zFst_lt hq
                have e : mC.1 3 8 = Int32.ofNat kk := by rw [w4, hq]; rfl
                rw [e]
                refine (z_lt (b := 23) (by omega) (by omega)).mpr ?_
                by_cases q23 : kk = 23
                · exact absurd (by rw [e, q23]; rfl) h23
                · by_cases q24 : 24 ≤ kk
                  · exact absurd ⟨kk - 24, by omega, by rw [e, show 24 + (kk - 24) = kk by omega]⟩ hex
                  · omega
            · rw [w4]; decide
          rw [if_pos hlo, lf2 (fun i hi e => hex ⟨i, hi, e⟩), Option.bind_some, decide_eq_false (show ¬ mC.1 3 8 = Int32.ofNat 23 from h23), if_pos (show zb false = 0 from rfl), if_pos (show zb false = 0 from rfl), if_pos (show (-1 : Int32) < 0 by decide)]
          obtain ⟨cF, mF, f1, f2, f3⟩ := zT_fail (k := 1) (by decide) R
          unfold Sentence_readOne_b33
          exact Or.inr ⟨cF, mF, by rw [f1, Option.bind_some, rz_0, Option.bind_some], by rw [f2, Option.bind_some, rz_0, Option.bind_some, Option.bind_some, if_pos rfl], f3⟩
  · have hk' : k + 1 ≤ 20 := by omega
    have hw8 : w ≤ 8 := by omega
    cases ht : t with
    | true =>
      subst ht
      have h11 : mM.1 0 11 = 3 := t3 rfl
      have h8 : mC.1 3 8 = -1 := by
        rcases zKd_word hkd with ⟨_, q, _⟩ | ⟨_, _, q⟩
        · rw [h11] at q; exact absurd q (by decide)
        · exact q
      have hn23 : decide (mC.1 3 8 = Int32.ofNat 23) = false := decide_eq_false (by rw [h8]; decide)
      rw [if_neg (show ¬ zb true = 0 by decide), hn23, lf2 (fun i hi e => by rw [h8] at e; exact absurd e.symm (z_nm1 (by omega))), Option.bind_some, if_pos (show zb false = 0 from rfl), if_neg (show ¬ zb true = 0 by decide), openC _ _ hk' hw8, openM _ _ _ hk' hw8]
      obtain ⟨c1, m1, x1, x2, x3, X1⟩ := zO_go hk' (Or.inr (Or.inr h11)) h
      rw [x1, x2, Option.bind_some, Option.bind_some, if_neg (show ¬ zb true = 0 by decide), if_pos (show zb false = 0 from rfl), if_neg (show ¬ zb true = 0 by decide)]
      unfold M_operand_b84
      rw [if_pos (show zb false = 0 from rfl)]
      obtain ⟨m2, y1, y2, X2⟩ := zO_push (op := 23) hw8 (by omega) X1
      rw [y1, Option.bind_some]
      dsimp only
      rw [if_neg (show ¬ (1 : Int32) = 0 by decide), z_s]
      rcases zCnd (hOne hw8) (zTopL (by decide)) (zTopL (by decide)) (zTopL (by decide)) (by rw [y2, x3, h53]) X2 with ⟨o', a', j', k', f', q', new, c3, m3, _, ⟨hQ22, hQ21⟩, z1, z2, z3, z4, z5, z6, z7, z8⟩ | ⟨c3, m3, z1, z2, Bd⟩
      · rw [z1, z2, Option.bind_some]
        dsimp only
        rw [if_neg (show ¬ (1 : Int32) = 0 by decide)]
        obtain ⟨s2, hkd2⟩ := zRd_kd z4.1
        obtain ⟨u, u1, u2, u3⟩ := zKd_sign (k := 41) (by decide) (by omega) hkd2
        have u1' : Tokens_isSign c3 41 = some (zb u) := u1
        have u2' : M_isSign m3 41 = some (zb u) := u2
        unfold Tokens_skipSign
        rw [u1', Option.bind_some]
        cases u with
        | true =>
          rw [if_neg (show ¬ zb true = 0 by decide)]
          have g11 : m3.1 0 11 = 3 := u3 rfl
          have g8 : c3.1 3 8 = -1 := by
            rcases zKd_word hkd2 with ⟨_, q, _⟩ | ⟨_, _, q⟩
            · rw [g11] at q; exact absurd q (by decide)
            · exact q
          obtain ⟨g4, c4, m4, v1, v2, v3, v4⟩ := zB_close z3 u2' g11 g8 z4
          rw [v1, v2, Option.bind_some, Option.bind_some]
          dsimp only
          rw [if_neg (show ¬ (1 : Int32) = 0 by decide)]
          exact Or.inl ⟨false, false, 0, k', g4, q' + 1, new, c4, m4, ⟨rfl, rfl⟩, trivial, rfl, rfl, v3, v4, by omega, by omega, z7, zVal_mono z8 (by omega)⟩
        | false =>
          rw [if_pos (show zb false = 0 from rfl)]
          obtain ⟨c4, m4, v1, v2, v3⟩ := zB_badin z3 u2' hQ22 hQ21 z4
          rw [v1, v2, Option.bind_some, rz_0, Option.bind_some, Option.bind_some, if_pos rfl]
          exact Or.inr ⟨c4, m4, rfl, rfl, v3⟩
      · rw [z1, z2, Option.bind_some, if_pos rfl]
        exact Or.inr ⟨c3, m3, rfl, rfl, Bd⟩
    | false =>
      subst ht
      rw [if_pos (show zb false = 0 from rfl)]
      by_cases h23 : mC.1 3 8 = 23
      · have h11 : mM.1 0 11 = 1 := hnot.2 h23
        rw [if_neg (show ¬ mC.1 3 8 < 23 by rw [h23]; decide), if_neg (show ¬ 31 < mC.1 3 8 by rw [h23]; decide), decide_eq_true (show mC.1 3 8 = Int32.ofNat 23 from h23), lf2 (fun i hi e => by rw [h23] at e; have := (z_eq (a := 23) (by omega) (by omega)).mp e; omega), Option.bind_some, if_neg (show ¬ zb true = 0 by decide), openC _ _ hk' hw8, openM _ _ _ hk' hw8]
        obtain ⟨c1, m1, x1, x2, x3, X1⟩ := zO_go hk' (Or.inl h11) h
        rw [x1, x2, Option.bind_some, Option.bind_some, if_pos (show zb false = 0 from rfl), if_pos h23, if_neg (show ¬ zb true = 0 by decide)]
        unfold M_operand_b84
        rw [if_neg (show ¬ zb true = 0 by decide)]
        obtain ⟨m2, y1, y2, X2⟩ := zO_push (op := 20) hw8 (by omega) X1
        rw [y1, Option.bind_some]
        dsimp only
        rw [if_neg (show ¬ (1 : Int32) = 0 by decide), z_s]
        rcases (hOne hw8) (k + 1) g (q + 1) l (S ++ [20]) c1 m2 (by rw [y2, x3, h53]) X2 with ⟨o', a', j', k', f', q', new, c3, m3, ⟨ho, ha⟩, _, z1, z2, z3, z4, z5, z6, z7, z8⟩ | ⟨c3, m3, z1, z2, Bd⟩
        · subst ho
          subst ha
          have hk'' := z4.2.2.2.2.2.2.2.2.1
          have hlen : (l ++ new).length + 2 ≤ 2 * k' := by
            rw [List.length_append]
            omega
          obtain ⟨c4, v1, v2, v3⟩ := zXs_add (S := S) (c := 23) (o' := false) (a' := false) (j' := j' + 1) (w' := w) z4 (by omega) (by omega) (by unfold zPd; simp [List.replicate_succ]) (fun l0 => by unfold zEm; simp [List.replicate_succ']) (by omega)
          rw [z1, z2, Option.bind_some]
          dsimp only
          rw [if_neg (show ¬ (1 : Int32) = 0 by decide), v1, Option.bind_some]
          have e : l ++ new ++ [(23, 0, 0)] = l ++ (new ++ [((23 : Int32), (0 : Int32), (0 : Int32))]) := by simp
          rw [e] at v2
          exact Or.inl ⟨false, false, j' + 1, k', f', q', new ++ [(23, 0, 0)], c4, m3, ⟨rfl, rfl⟩, trivial, rfl, rfl, z3, v2, by omega, by rw [List.length_append]; show new.length + 1 + 1 ≤ _; omega, zGdL_a z7 (zGdL_op (by decide) (by decide) (by decide)), zVal_mono (zVal_not z8) (by omega)⟩
        · rw [z1, z2, Option.bind_some, if_pos rfl]
          exact Or.inr ⟨c3, m3, rfl, rfl, Bd⟩
      · by_cases hex : ∃ i, i < 8 ∧ mC.1 3 8 = Int32.ofNat (24 + i)
        · obtain ⟨i, hi, e⟩ := hex
          have h11 : mM.1 0 11 = 1 := by
            rcases zKd_word hkd with ⟨_, q, _⟩ | ⟨_, _, q⟩
            · exact q
            · rw [e] at q; exact absurd q (z_nm1 (by omega))
          rw [if_neg (show ¬ mC.1 3 8 < 23 by rw [e]; exact fun q => by have := (z_lt (b := 23) (by omega) (by omega)).mp q; omega), if_neg (show ¬ 31 < mC.1 3 8 by rw [e]; exact fun q => by have := (z_lt (a := 31) (by omega) (by omega)).mp q; omega), decide_eq_false (show ¬ mC.1 3 8 = Int32.ofNat 23 from h23), lf1 i hi e, Option.bind_some, if_pos (show zb false = 0 from rfl), if_pos (show zb false = 0 from rfl), if_neg (z_nn (show i < 2147483648 by omega)), openC _ _ hk' hw8, openM _ _ _ hk' hw8]
          obtain ⟨c1, m1, x1, x2, x3, X1⟩ := zO_go hk' (Or.inl h11) h
          rw [x1, x2, Option.bind_some, Option.bind_some, if_pos (show zb false = 0 from rfl), if_neg h23, if_pos (show zb false = 0 from rfl), if_pos (show zb false = 0 from rfl), e]
          rcases zLf_all (i := i) P hi upI_at hk' hll (zXs_53 (v := 1) X1) with ⟨tt, c3, m3, z1, z2, z3, z4, z5, z6⟩ | ⟨c3, m3, z1, z2, Bd⟩
          · rw [z1, z2, Option.bind_some, rz_1, Option.bind_some, Option.bind_some]
            dsimp only
            rw [if_neg (show ¬ (1 : Int32) = 0 by decide)]
            exact Or.inl ⟨false, false, 0, k + 1, g, q + 1, [tt], c3, m3, ⟨rfl, rfl⟩, trivial, rfl, rfl, z3, z4, by omega, by show 1 + 1 ≤ _; omega, z5, by rw [show k + 1 - k = 1 by omega]; exact z6⟩
          · rw [z1, z2, Option.bind_some, rz_0, Option.bind_some, Option.bind_some, if_pos rfl]
            exact Or.inr ⟨c3, m3, rfl, rfl, Bd⟩
        · have hlo : mC.1 3 8 < 23 := by
            rcases zKd_word hkd with ⟨_, _, wd, _, _, _, w4⟩ | ⟨_, _, w4⟩
            · cases hq : zFst (fun k => decide (zWrd k = wd)) 32 with
              | none => rw [w4, hq]; decide
              | some kk =>
                have hkk := zFst_lt hq
                have e : mC.1 3 8 = Int32.ofNat kk := by rw [w4, hq]; rfl
                rw [e]
                refine (z_lt (b := 23) (by omega) (by omega)).mpr ?_
                by_cases q23 : kk = 23
                · exact absurd (by rw [e, q23]; rfl) h23
                · by_cases q24 : 24 ≤ kk
                  · exact absurd ⟨kk - 24, by omega, by rw [e, show 24 + (kk - 24) = kk by omega]⟩ hex
                  · omega
            · rw [w4]; decide
          rw [if_pos hlo, lf2 (fun i hi e => hex ⟨i, hi, e⟩), Option.bind_some, decide_eq_false (show ¬ mC.1 3 8 = Int32.ofNat 23 from h23), if_pos (show zb false = 0 from rfl), if_pos (show zb false = 0 from rfl), if_pos (show (-1 : Int32) < 0 by decide)]
          obtain ⟨cF, mF, f1, f2, f3⟩ := zT_fail (k := 1) (by decide) R
          unfold Sentence_readOne_b33
          exact Or.inr ⟨cF, mF, by rw [f1, Option.bind_some, rz_0, Option.bind_some], by rw [f2, Option.bind_some, rz_0, Option.bind_some, Option.bind_some, if_pos rfl], f3⟩
theorem zOne_all (P : zPh C0 M0) : ∀ d w, w ≤ 9 → 10 ≤ w + d → zOneP n lim b C0 M0 d w := by
  intro d
  induction d with
  | zero => intro w h1 h2; omega
  | succ d ih =>
    intro w h1 h2
    exact zOne_s P (fun hw8 => ih (w + 1) (by omega) (by omega)) h1
end ZSM
