/-! Layer 2. sentence: behind a one that is whole -/
section ZBH
variable {m m' mC mC' mM mM' C0 M0 : xMem} {n lim q j w k f : Nat} {b : Nat → Nat} {S : List Int32} {o a : Bool} {l : List zTp3}
theorem zXs_s (h : zXs n lim b C0 M0 S false false 0 w k f q l mC mM) : zSm mM l := by
  obtain ⟨l0, e0, hm⟩ := h.2.2.2.1
  have e : l = l0 := by rw [e0]; unfold zEm; simp
  rw [e]
  exact hm
theorem zXs_T (h : zXs n lim b C0 M0 S false false 0 w k f q l mC mM) : zSt mM S := by
  have hT := h.2.2.2.2.1
  have hp : S ++ zPd false false 0 = S := by unfold zPd; simp
  rw [hp] at hT
  exact hT
theorem zW_and {R : zRd n lim q b C0 M0 mC mM} : M_isWord mM 6385252 = some (zb (decide (mC.1 3 8 = 22))) ∧ (mC.1 3 8 = 22 → mM.1 0 11 = 1) := zM_isW (k := 22) (by omega) (by decide +kernel) R
theorem zW_or {R : zRd n lim q b C0 M0 mC mM} : M_isWord mM 28530 = some (zb (decide (mC.1 3 8 = 21))) ∧ (mC.1 3 8 = 21 → mM.1 0 11 = 1) := zM_isW (k := 21) (by omega) (by decide +kernel) R
theorem zB_and (h53 : mM.1 0 53 = 1) (h8 : mC.1 3 8 = 22) (hS : S.getLast? ≠ some 20) (hS1 : S.getLast? ≠ some 21) (hlen : S.length + 1 ≤ 2 * k) (h : zXs n lim b C0 M0 S false a j w k f q l mC mM) : ∃ g mC' mM', Tokens_advance mC = some mC' ∧ M_sentence_b48 f 1 mM = M_sentence_b48 g 1 mM' ∧ mM'.1 0 53 = 0 ∧ zXs n lim b C0 M0 (S ++ [21]) false false 0 w k g (q + 1) l mC' mM' := by
  obtain ⟨g, rfl⟩ := zX_f h
  have h11 := (zW_and (R := h.1)).2 h8
  obtain ⟨m1, e1, X1, s1⟩ := zX_nots hS h
  obtain ⟨m2, e2, X2, s2⟩ := zX_j21 hS1 X1
  have w1 := (zW_and (R := X1.1)).1
  have w2 := (zW_and (R := X2.1)).1
  rw [decide_eq_true h8] at w1 w2
  obtain ⟨mC', mM', x1, x2, x3, x4⟩ := zX_push (op := 21) (S' := S ++ [21]) (by rw [s2.2.1 11 (by omega) (by omega) (by omega), s1.2.1 11 (by omega) (by omega) (by omega)]; exact h11) X2 (by unfold zPd; simp) (by rw [List.length_append]; exact hlen)
  refine ⟨g, mC', mM', x1, ?_, x3, x4 l rfl (zXs_s X2)⟩
  rw [zS_unf h53 (by rw [h11]; decide)]
  unfold M_behind
  rw [e1, Option.bind_some, w1, Option.bind_some, if_neg (show ¬ zb true = 0 by decide)]
  unfold M_behind_b24
  rw [w1, Option.bind_some, if_neg (show ¬ zb true = 0 by decide)]
  unfold M_behind_b42
  rw [e2, Option.bind_some, w2, Option.bind_some, if_neg (show ¬ zb true = 0 by decide), x2, Option.bind_some]
  dsimp only
  rw [if_neg (show ¬ (1 : Int32) = 0 by decide)]
theorem zB_or (h53 : mM.1 0 53 = 1) (h8 : mC.1 3 8 = 21) (hS : S.getLast? ≠ some 20) (hS1 : S.getLast? ≠ some 21) (hS2 : S.getLast? ≠ some 22) (hlen : S.length + 1 ≤ 2 * k) (h : zXs n lim b C0 M0 S o a j w k f q l mC mM) : ∃ g mC' mM', Tokens_advance mC = some mC' ∧ M_sentence_b48 f 1 mM = M_sentence_b48 g 1 mM' ∧ mM'.1 0 53 = 0 ∧ zXs n lim b C0 M0 (S ++ [22]) false false 0 w k g (q + 1) l mC' mM' := by
  obtain ⟨g, rfl⟩ := zX_f h
  have h11 := (zW_or (R := h.1)).2 h8
  have hn : ¬ mC.1 3 8 = 22 := by rw [h8]; decide
  obtain ⟨m1, e1, X1, s1⟩ := zX_nots hS h
  obtain ⟨m2, e2, X2, s2⟩ := zX_j22 hS1 hS2 X1
  have w1 := (zW_and (R := X1.1)).1
  have w2 := (zW_and (R := X2.1)).1
  have w3 := (zW_or (R := X1.1)).1
  rw [decide_eq_false hn] at w1 w2
  rw [decide_eq_true h8] at w3
  obtain ⟨mC', mM', x1, x2, x3, x4⟩ := zX_push (op := 22) (S' := S ++ [22]) (by rw [s2.2.1 11 (by omega) (by omega) (by omega), s1.2.1 11 (by omega) (by omega) (by omega)]; exact h11) X2 (by unfold zPd; simp) (by rw [List.length_append]; exact hlen)
  refine ⟨g, mC', mM', x1, ?_, x3, x4 l rfl (zXs_s X2)⟩
  rw [zS_unf h53 (by rw [h11]; decide)]
  unfold M_behind
  rw [e1, Option.bind_some, w1, Option.bind_some, if_pos (show zb false = 0 from rfl), w3, Option.bind_some, if_neg (show ¬ zb true = 0 by decide)]
  unfold M_behind_b24
  rw [w1, Option.bind_some, if_pos (show zb false = 0 from rfl)]
  unfold M_behind_b42
  rw [e2, Option.bind_some, w2, Option.bind_some, if_pos (show zb false = 0 from rfl), x2, Option.bind_some]
  dsimp only
  rw [if_neg (show ¬ (1 : Int32) = 0 by decide)]
/-- what is no joining word: all is told down to the bracket -/
theorem zB_down (n22 : ¬ mC.1 3 8 = 22) (n21 : ¬ mC.1 3 8 = 21) (hS : S.getLast? ≠ some 20) (hS1 : S.getLast? ≠ some 21) (hS2 : S.getLast? ≠ some 22) (h : zXs n lim b C0 M0 S o a j w k f q l mC mM) : ∃ m2, zXs n lim b C0 M0 S false false 0 w k f q l mC m2 ∧ zSf mM m2 ∧ M_behind mM = ((M_isSign m2 41).bind fun r5 => if r5 = 0 then M_behind_b114 m2 else if (m2.1 0 51) = 0 then M_behind_b114 m2 else nm (upI m2 0 51 ((m2.1 0 51) - 1)) fun m6 => nm (upI m6 0 52 ((m6.1 0 52) - 1)) fun m7 => (M_go m7).bind fun r8 => some (1, r8)) ∧ ((M_nots mM).bind fun r11 => M_joins r11 22) = some m2 := by
  obtain ⟨m1, e1, X1, s1⟩ := zX_nots hS h
  obtain ⟨m2, e2, X2, s2⟩ := zX_j22 hS1 hS2 X1
  have w1 := (zW_and (R := X1.1)).1
  have w3 := (zW_or (R := X1.1)).1
  rw [decide_eq_false n22] at w1
  rw [decide_eq_false n21] at w3
  refine ⟨m2, X2, zSf_t s1 s2, ?_, by rw [e1, Option.bind_some, e2]⟩
  unfold M_behind
  rw [e1, Option.bind_some, w1, Option.bind_some, if_pos (show zb false = 0 from rfl), w3, Option.bind_some, if_pos (show zb false = 0 from rfl), e2, Option.bind_some]
theorem zB_close (h53 : mM.1 0 53 = 1) (hs : M_isSign mM 41 = some 1) (hs11 : mM.1 0 11 = 3) (h8 : mC.1 3 8 = -1) (h : zXs n lim b C0 M0 (S ++ [23]) o a j (w + 1) k f q l mC mM) : ∃ g mC' mM', Tokens_advance mC = some mC' ∧ M_sentence_b48 f 1 mM = M_sentence_b48 g 1 mM' ∧ mM'.1 0 53 = 1 ∧ zXs n lim b C0 M0 S false false 0 w k g (q + 1) l mC' mM' := by
  obtain ⟨g, rfl⟩ := zX_f h
  have hl23 : (S ++ [23]).getLast? = some 23 := by rw [List.getLast?_append]; rfl
  obtain ⟨m2, X2, s2, eb, _⟩ := zB_down (by rw [h8]; decide) (by rw [h8]; decide) (by rw [hl23]; decide) (by rw [hl23]; decide) (by rw [hl23]; decide) h
  have hT := zXs_T X2
  have hm := zXs_s X2
  obtain ⟨R, hf, hq, _, _, hD, hk1, hk2, hk, hl, hTl, hw⟩ := X2
  have hlen : (S ++ [23]).length = S.length + 1 := by rw [List.length_append]; rfl
  have hTl' : S.length + 1 ≤ 2 * k := by
    have hp : (S ++ [23]) ++ zPd false false 0 = S ++ [23] := by unfold zPd; simp
    rw [hp, hlen] at hTl
    exact hTl
  have es : M_isSign m2 41 = some 1 := by
    rw [← hs]
    unfold M_isSign
    rw [s2.2.1 11 (by omega) (by omega) (by omega), s2.2.1 14 (by omega) (by omega) (by omega)]
  have e51 : ¬ Int32.ofNat (S.length + 1) = 0 := fun e => by have := (z_eq (b := 0) (by omega) (by omega)).mp e; omega
  rw [zS_unf h53 (by rw [hs11]; decide), eb, es, Option.bind_some, if_neg (show ¬ (1 : Int32) = 0 by decide), hT.1, hlen, if_neg e51, z_sub1 (by omega), Nat.add_sub_cancel, nm_eq, nm_eq, upI_nj (show (52 : Nat) ≠ 51 by omega), hD, show w + 1 + 0 = w + 1 from rfl, z_sub1 (by omega), Nat.add_sub_cancel]
  generalize e7 : upI (upI m2 0 51 (Int32.ofNat S.length)) 0 52 (Int32.ofNat w) = m7
  have hw7 : zMw m2 m7 := by rw [← e7]; exact zMw_t (zMw_0 (by omega)) (zMw_0 (by omega))
  obtain ⟨a', c', x1, x2, R2, G⟩ := zT_go1 (zRd_M hw7 R) (Or.inr (Or.inr (by rw [← e7, upI_nj (by omega), upI_nj (by omega), s2.2.1 11 (by omega) (by omega) (by omega)]; exact hs11)))
  rw [x2, Option.bind_some, Option.bind_some]
  dsimp only
  rw [if_neg (show ¬ (1 : Int32) = 0 by decide)]
  have hp : S ++ zPd false false 0 = S := by unfold zPd; simp
  refine ⟨g, a', c', x1, rfl, ?_, R2, by omega, zSq_tr (by rw [G.1 71 (by omega)]) (G.1 72 (by omega)) (G.1 73 (by omega)) (G.1 74 (by omega)) hq, ⟨l, by unfold zEm; simp, ?_⟩, ?_, ?_, by rw [G.1 71 (by omega)]; exact hk1, ?_, hk, hl, by rw [hp]; omega, by omega⟩
  · rw [G.2.2.2.2.1 53 (by omega) (by omega), ← e7, upI_nj (by omega), upI_nj (by omega), s2.2.1 53 (by omega) (by omega) (by omega)]
    exact h53
  · exact zSm_tr (by rw [G.2.2.2.1 4 (by omega), ← e7, upI_ne' (by omega), upI_ne' (by omega)]) (by rw [G.2.2.2.2.1 49 (by omega) (by omega), ← e7, upI_nj (by omega), upI_nj (by omega)]) hm
  · rw [hp]
    exact zSt_pop (by rw [G.2.2.2.1 19 (by omega), ← e7, upI_ne' (by omega), upI_ne' (by omega)]) (by rw [G.2.2.2.2.1 51 (by omega) (by omega), ← e7, upI_nj (by omega), upI_at]) hT
  · rw [G.2.2.2.2.1 52 (by omega) (by omega), ← e7, upI_at]
    rfl
  · rw [G.2.2.2.2.1 50 (by omega) (by omega), ← e7, upI_nj (by omega), upI_nj (by omega)]
    exact hk2
theorem zB_b114 (R : zRd n lim q b C0 M0 mC mM) : ∃ mC' mM', Tokens_fail mC 1 = some (0, mC') ∧ M_behind_b114 mM = some (0, mM') ∧ M_bad mM 1 = some (0, mM') ∧ zBad C0 M0 mC' mM' := by
  obtain ⟨a, c, e1, e2, e3⟩ := zT_fail (k := 1) (by decide) R
  refine ⟨a, c, e1, ?_, e2, e3⟩
  unfold M_behind_b114
  rw [e2, Option.bind_some, rz_0, Option.bind_some]
/-- inside a bracket, and it isn't closed -/
theorem zB_badin (h53 : mM.1 0 53 = 1) (hs : M_isSign mM 41 = some 0) (n22 : ¬ mC.1 3 8 = 22) (n21 : ¬ mC.1 3 8 = 21) (h : zXs n lim b C0 M0 (S ++ [23]) o a j w k f q l mC mM) : ∃ mC' mM', Tokens_fail mC 1 = some (0, mC') ∧ M_sentence_b48 f 1 mM = some (-1 - mM'.1 0 16, mM') ∧ zBad C0 M0 mC' mM' := by
  obtain ⟨g, rfl⟩ := zX_f h
  have hl23 : (S ++ [23]).getLast? = some 23 := by rw [List.getLast?_append]; rfl
  obtain ⟨m2, X2, s2, eb, en⟩ := zB_down n22 n21 (by rw [hl23]; decide) (by rw [hl23]; decide) (by rw [hl23]; decide) h
  obtain ⟨mC', mM', f1, f2, f3, f4⟩ := zB_b114 X2.1
  have hT := zXs_T X2
  have hk := X2.2.2.2.2.2.2.2.2.1
  have hTl := X2.2.2.2.2.2.2.2.2.2.2.1
  have hp : (S ++ [23]) ++ zPd false false 0 = S ++ [23] := by unfold zPd; simp
  rw [hp] at hTl
  have hlen : (S ++ [23]).length = S.length + 1 := by rw [List.length_append]; rfl
  refine ⟨mC', mM', f1, ?_, f4⟩
  by_cases h11 : mM.1 0 11 = 0
  · have hb : M_sentence_b48 (g + 1) 1 mM = ((M_nots mM).bind fun r11 => (M_joins r11 22).bind fun r12 => if 0 < (r12.1 0 51) then (M_bad r12 1).bind fun r13 => some (((-1)) - (r13.2.1 0 16), r13.2) else M_sentence_b48 g 0 r12) := by
      rw [M_sentence_b48, if_neg (show ¬ (1 : Int32) = 0 by decide), h53, if_neg (show ¬ (1 : Int32) = 0 by decide), if_pos h11]
    rw [hb]
    obtain ⟨m1, e1, en'⟩ := Option.bind_eq_some_iff.mp en
    rw [e1, Option.bind_some, en', Option.bind_some, hT.1, hlen, if_pos (show 0 < Int32.ofNat (S.length + 1) from (z_lt (a := 0) (by omega) (by omega)).mpr (by omega)), f3, Option.bind_some]
  · have es : M_isSign m2 41 = some 0 := by
      rw [← hs]
      unfold M_isSign
      rw [s2.2.1 11 (by omega) (by omega) (by omega), s2.2.1 14 (by omega) (by omega) (by omega)]
    rw [zS_unf h53 h11, eb, es, Option.bind_some, if_pos rfl, f2, Option.bind_some, if_pos rfl]
/-- outside of brackets, and it doesn't end -/
theorem zB_badout (h53 : mM.1 0 53 = 1) (h11 : ¬ mM.1 0 11 = 0) (n22 : ¬ mC.1 3 8 = 22) (n21 : ¬ mC.1 3 8 = 21) (h : zXs n lim b C0 M0 [] o a j w k f q l mC mM) : ∃ mC' mM', Tokens_fail mC 1 = some (0, mC') ∧ M_sentence_b48 f 1 mM = some (-1 - mM'.1 0 16, mM') ∧ zBad C0 M0 mC' mM' := by
  obtain ⟨g, rfl⟩ := zX_f h
  obtain ⟨m2, X2, s2, eb, en⟩ := zB_down n22 n21 (by decide) (by decide) (by decide) h
  obtain ⟨mC', mM', f1, f2, f3, f4⟩ := zB_b114 X2.1
  have hT := zXs_T X2
  refine ⟨mC', mM', f1, ?_, f4⟩
  rw [zS_unf h53 h11, eb]
  obtain ⟨s, hkd⟩ := zRd_kd X2.1
  obtain ⟨t, t1, t2, t3⟩ := zKd_sign (k := 41) (by decide) (by omega) hkd
  have t2' : M_isSign m2 41 = some (zb t) := t2
  rw [t2', Option.bind_some]
  cases t with
  | false => rw [if_pos (show zb false = 0 from rfl), f2, Option.bind_some, if_pos rfl]
  | true =>
    rw [if_neg (show ¬ zb true = 0 by decide), hT.1, if_pos (show Int32.ofNat ([] : List Int32).length = 0 from rfl), f2, Option.bind_some, if_pos rfl]
/-- the end -/
theorem zB_end (h53 : mM.1 0 53 = 1) (h11 : mM.1 0 11 = 0) (h8 : mC.1 3 8 = -1) (h : zXs n lim b C0 M0 [] o a j w k f q l mC mM) : ∃ g mM', M_sentence_b48 f 1 mM = M_sentence_b48 g 0 mM' ∧ 1 ≤ g ∧ zSm mM' l ∧ zRd n lim q b C0 M0 mC mM' ∧ mM'.1 0 50 = Int32.ofNat k := by
  obtain ⟨g, rfl⟩ := zX_f h
  obtain ⟨m2, X2, s2, eb, en⟩ := zB_down (by rw [h8]; decide) (by rw [h8]; decide) (by decide) (by decide) (by decide) h
  have hT := zXs_T X2
  refine ⟨g, m2, ?_, ?_, zXs_s X2, X2.1, X2.2.2.2.2.2.2.2.1⟩
  · rw [M_sentence_b48, if_neg (show ¬ (1 : Int32) = 0 by decide), h53, if_neg (show ¬ (1 : Int32) = 0 by decide), if_pos h11]
    obtain ⟨m1, e1, en'⟩ := Option.bind_eq_some_iff.mp en
    rw [e1, Option.bind_some, en', Option.bind_some, hT.1, if_neg (show ¬ 0 < Int32.ofNat ([] : List Int32).length by decide)]
  · obtain ⟨⟨⟨t1, t2, t3, t4, p, u1, u2, u3, u4, u5⟩, _⟩, hf, _⟩ := h
    have := t1.1
    omega
end ZBH
