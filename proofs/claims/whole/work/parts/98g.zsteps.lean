/-! Layer 2. sentence: steps, the model's stack -/
abbrev zTp3 := Int32 × Int32 × Int32
def zSq (m : xMem) (l : List zTp3) : Prop := m.1 71 2 = Int32.ofNat l.length ∧ ∀ i t, l[i]? = some t → m.1 72 i = t.1 ∧ m.1 73 i = t.2.1 ∧ m.1 74 i = t.2.2
def zSm (m : xMem) (l : List zTp3) : Prop := m.1 0 49 = Int32.ofNat l.length ∧ ∀ i t, l[i]? = some t → m.1 4 (3 * i) = zStp t.1 ∧ m.1 4 (3 * i + 1) = t.2.1 ∧ m.1 4 (3 * i + 2) = t.2.2
def zSt (m : xMem) (T : List Int32) : Prop := m.1 0 51 = Int32.ofNat T.length ∧ ∀ i x, T[i]? = some x → m.1 19 i = x
/-- what is left as it is -/
def zSf (m m' : xMem) : Prop := (∀ c, c ≠ 0 → c ≠ 4 → m'.1 c = m.1 c) ∧ (∀ j, j ≠ 49 → j ≠ 51 → j ≠ 52 → m'.1 0 j = m.1 0 j) ∧ m'.2 = m.2
section ZSE
variable {m m' m'' mC mC' mM mM' : xMem} {l lm : List zTp3} {T S : List Int32} {p0 w s n : Int32} {i j D : Nat}
theorem zSf_rf : zSf m m := ⟨fun _ _ _ => rfl, fun _ _ _ _ => rfl, rfl⟩
theorem zSf_t (h : zSf m m') (h' : zSf m' m'') : zSf m m'' := ⟨fun c h0 h4 => by rw [h'.1 c h0 h4, h.1 c h0 h4], fun j a b c => by rw [h'.2.1 j a b c, h.2.1 j a b c], by rw [h'.2.2, h.2.2]⟩
theorem zSf_w (h : zSf m m') : zMw m m' := ⟨⟨fun c hc => h.1 c (by omega) (by omega), fun j hj => h.2.1 j (by omega) (by omega) (by omega), fun c _ => by rw [h.2.2], fun j _ => by rw [h.2.2]⟩, fun j hj => h.2.1 j (by omega) (by omega) (by omega), by rw [h.2.2]⟩
theorem z_get1 {α : Type} {l : List α} {x t : α} {i : Nat} (h : (l ++ [x])[i]? = some t) : (i < l.length ∧ l[i]? = some t) ∨ (i = l.length ∧ t = x) := by
  by_cases hi : i < l.length
  · rw [List.getElem?_append_left hi] at h
    exact Or.inl ⟨hi, h⟩
  · rw [List.getElem?_append_right (by omega)] at h
    have hb : i - l.length < [x].length := by
      by_cases hb : i - l.length < [x].length
      · exact hb
      · rw [List.getElem?_eq_none (by omega)] at h
        cases h
    have e : i = l.length := by
      have : [x].length = 1 := rfl
      omega
    right
    refine ⟨e, ?_⟩
    rw [e, Nat.sub_self] at h
    exact (Option.some.inj h).symm
theorem z_lt_get {α : Type} {l : List α} {t : α} {i : Nat} (h : l[i]? = some t) : i < l.length := by
  by_cases hi : i < l.length
  · exact hi
  · rw [List.getElem?_eq_none (by omega)] at h
    cases h
theorem z_get_last {α : Type} {l : List α} {x : α} : (l ++ [x])[l.length]? = some x := by
  rw [List.getElem?_append_right (Nat.le_refl _), Nat.sub_self]
  rfl
theorem zM_put (h : zSm mM l) (hl : l.length ≤ 50) (hp : p0 = zStp w) : ∃ mM', M_putCode mM p0 s n = some mM' ∧ zSm mM' (l ++ [(w, s, n)]) ∧ (∀ c, c ≠ 0 → c ≠ 4 → mM'.1 c = mM.1 c) ∧ (∀ j, j ≠ 49 → mM'.1 0 j = mM.1 0 j) ∧ mM'.2 = mM.2 := by
  obtain ⟨h1, h2⟩ := h
  unfold M_putCode
  rw [h1, show (3 * Int32.ofNat l.length : Int32) = Int32.ofNat (3 * l.length) from z_mul 3 l.length, z_ix (show 3 * l.length < 160 by omega) (by omega), Option.bind_some, nm_eq, upI_ne' (show (0 : Nat) ≠ 4 by omega), h1, show (3 * Int32.ofNat l.length : Int32) = Int32.ofNat (3 * l.length) from z_mul 3 l.length, z_s, z_ix (show 3 * l.length + 1 < 160 by omega) (by omega), Option.bind_some, nm_eq, upI_ne' (show (0 : Nat) ≠ 4 by omega), upI_ne' (show (0 : Nat) ≠ 4 by omega), h1, show (3 * Int32.ofNat l.length : Int32) = Int32.ofNat (3 * l.length) from z_mul 3 l.length, show (Int32.ofNat (3 * l.length) + 2 : Int32) = Int32.ofNat (3 * l.length + 2) from z_add (3 * l.length) 2, z_ix (show 3 * l.length + 2 < 160 by omega) (by omega), Option.bind_some, nm_eq, nm_eq, upI_ne' (show (0 : Nat) ≠ 4 by omega), upI_ne' (show (0 : Nat) ≠ 4 by omega), upI_ne' (show (0 : Nat) ≠ 4 by omega), h1, z_s]
  refine ⟨_, rfl, ⟨by rw [upI_at, List.length_append]; rfl, fun i t hi => ?_⟩, fun c h0 h4 => by rw [upI_ne' h0, upI_ne' h4, upI_ne' h4, upI_ne' h4], fun j hj => by rw [upI_nj hj, upI_ne' (by omega), upI_ne' (by omega), upI_ne' (by omega)], rfl⟩
  rw [upI_ne' (show (4 : Nat) ≠ 0 by omega)]
  rcases z_get1 hi with ⟨a, b⟩ | ⟨a, b⟩
  · obtain ⟨q1, q2, q3⟩ := h2 i t b
    refine ⟨?_, ?_, ?_⟩
    · rw [upI_nj (by omega), upI_nj (by omega), upI_nj (by omega), q1]
    · rw [upI_nj (by omega), upI_nj (by omega), upI_nj (by omega), q2]
    · rw [upI_nj (by omega), upI_nj (by omega), upI_nj (by omega), q3]
  · subst a
    subst b
    refine ⟨?_, ?_, ?_⟩
    · rw [upI_nj (by omega), upI_nj (by omega), upI_at, hp]
    · rw [upI_nj (by omega), upI_at]
    · rw [upI_at]
theorem zC_add (h : zSq mC l) (hl : l.length < 40) : ∃ mC', Sentence_addStep mC 71 w s n = some mC' ∧ zSq mC' (l ++ [(w, s, n)]) ∧ (∀ c, c ≠ 71 → c ≠ 72 → c ≠ 73 → c ≠ 74 → mC'.1 c = mC.1 c) ∧ (∀ j, j ≠ 2 → mC'.1 71 j = mC.1 71 j) ∧ mC'.2 = mC.2 ∧ zCw mC mC' := by
  obtain ⟨h1, h2⟩ := h
  unfold Sentence_addStep
  rw [h1, if_pos (show Int32.ofNat l.length < 40 from (z_lt (b := 40) (by omega) (by omega)).mpr hl), z_ix hl (by omega), Option.bind_some, nm_eq, upI_ne' (show (71 : Nat) ≠ 71 + 1 by omega), h1, z_ix hl (by omega), Option.bind_some, nm_eq, upI_ne' (show (71 : Nat) ≠ 71 + 2 by omega), upI_ne' (show (71 : Nat) ≠ 71 + 1 by omega), h1, z_ix hl (by omega), Option.bind_some, nm_eq, nm_eq, upI_ne' (show (71 : Nat) ≠ 71 + 3 by omega), upI_ne' (show (71 : Nat) ≠ 71 + 2 by omega), upI_ne' (show (71 : Nat) ≠ 71 + 1 by omega), h1, z_s]
  refine ⟨_, rfl, ⟨by rw [upI_at, List.length_append]; rfl, fun i t hi => ?_⟩, fun c h1 h2 h3 h4 => by rw [upI_ne' h1, upI_ne' h4, upI_ne' h3, upI_ne' h2], fun j hj => by rw [upI_nj hj, upI_ne' (by omega), upI_ne' (by omega), upI_ne' (by omega)], rfl, zCw_t (zCw_I (by omega)) (zCw_t (zCw_I (by omega)) (zCw_t (zCw_I (by omega)) (zCw_I (by omega))))⟩
  rw [upI_ne' (show (72 : Nat) ≠ 71 by omega), upI_ne' (show (73 : Nat) ≠ 71 by omega), upI_ne' (show (74 : Nat) ≠ 71 by omega), upI_ne' (show (72 : Nat) ≠ 71 + 3 by omega), upI_ne' (show (72 : Nat) ≠ 71 + 2 by omega), upI_ne' (show (73 : Nat) ≠ 71 + 3 by omega)]
  rcases z_get1 hi with ⟨a, b⟩ | ⟨a, b⟩
  · obtain ⟨q1, q2, q3⟩ := h2 i t b
    refine ⟨?_, ?_, ?_⟩
    · rw [← q1]; exact upI_nj (by omega)
    · rw [← q2]; exact (upI_nj (by omega)).trans (by rw [upI_ne' (by omega)])
    · rw [← q3]; exact (upI_nj (by omega)).trans (by rw [upI_ne' (by omega), upI_ne' (by omega)])
  · subst a
    subst b
    exact ⟨upI_at, upI_at, upI_at⟩
theorem zSm_tr (h4 : mM'.1 4 = mM.1 4) (h : mM'.1 0 49 = mM.1 0 49) (H : zSm mM l) : zSm mM' l := by
  unfold zSm
  rw [h4, h]
  exact H
theorem zSq_tr (h1 : mC'.1 71 2 = mC.1 71 2) (h2 : mC'.1 72 = mC.1 72) (h3 : mC'.1 73 = mC.1 73) (h4 : mC'.1 74 = mC.1 74) (H : zSq mC l) : zSq mC' l := by
  unfold zSq
  rw [h1, h2, h3, h4]
  exact H
theorem zSt_tr (h4 : mM'.1 19 = mM.1 19) (h : mM'.1 0 51 = mM.1 0 51) (H : zSt mM T) : zSt mM' T := by
  unfold zSt
  rw [h4, h]
  exact H
theorem zSt_pop {x : Int32} (h19 : mM'.1 19 = mM.1 19) (h51 : mM'.1 0 51 = Int32.ofNat T.length) (H : zSt mM (T ++ [x])) : zSt mM' T := by
  refine ⟨h51, fun i y hi => ?_⟩
  rw [h19]
  exact H.2 i y (by rw [List.getElem?_append_left (z_lt_get hi)]; exact hi)
theorem zSt_push {x : Int32} (h1 : ∀ i, i ≠ T.length → mM'.1 19 i = mM.1 19 i) (h2 : mM'.1 19 T.length = x) (h51 : mM'.1 0 51 = Int32.ofNat (T.length + 1)) (H : zSt mM T) : zSt mM' (T ++ [x]) := by
  refine ⟨by rw [h51, List.length_append]; rfl, fun i y hi => ?_⟩
  rcases z_get1 hi with ⟨a, b⟩ | ⟨a, b⟩
  · rw [h1 i (by omega)]
    exact H.2 i y b
  · rw [a, h2, b]
theorem zM_notsL : ∀ j fuel mM lm D, j < fuel → zSt mM (T ++ List.replicate j 20) → zSm mM lm → lm.length + j ≤ 50 → mM.1 0 52 = Int32.ofNat (D + j) → T.length + j ≤ 45 → D + j < 1000 → T.getLast? ≠ some 20 → ∃ mM', M_nots_b0 fuel mM = some mM' ∧ zSt mM' T ∧ zSm mM' (lm ++ List.replicate j (23, 0, 0)) ∧ mM'.1 0 52 = Int32.ofNat D ∧ zSf mM mM' := by
  intro j
  induction j with
  | zero =>
    intro fuel mM lm D hf hT hm hl hD hTl hD2 htop
    obtain ⟨f, rfl⟩ : ∃ f, fuel = f + 1 := ⟨fuel - 1, by omega⟩
    rw [List.replicate_zero, List.append_nil] at hT
    rw [M_nots_b0, hT.1]
    refine ⟨mM, ?_, hT, by rw [List.replicate_zero, List.append_nil]; exact hm, hD, zSf_rf⟩
    rcases List.eq_nil_or_concat T with h | ⟨L, x, h⟩
    · rw [h, if_neg (show ¬ 0 < Int32.ofNat ([] : List Int32).length by decide)]
    · rw [List.concat_eq_append] at h
      subst h
      have hx : ¬ x = 20 := fun e => htop (by rw [List.getLast?_append, e]; rfl)
      have hlen : (L ++ [x]).length = L.length + 1 := by rw [List.length_append]; rfl
      rw [hlen] at hTl ⊢
      rw [if_pos (show 0 < Int32.ofNat (L.length + 1) from (z_lt (a := 0) (by omega) (by omega)).mpr (by omega)), z_sub1 (by omega), Nat.add_sub_cancel, z_ix (show L.length < 45 by omega) (by omega), Option.bind_some, hT.2 L.length x z_get_last, if_neg hx]
  | succ j ih =>
    intro fuel mM lm D hf hT hm hl hD hTl hD2 htop
    obtain ⟨f, rfl⟩ : ∃ f, fuel = f + 1 := ⟨fuel - 1, by omega⟩
    rw [List.replicate_succ', ← List.append_assoc] at hT
    have hlen : (T ++ List.replicate j 20 ++ [20]).length = T.length + j + 1 := by rw [List.length_append, List.length_append, List.length_replicate]; rfl
    have hlen2 : (T ++ List.replicate j (20 : Int32)).length = T.length + j := by rw [List.length_append, List.length_replicate]
    have htp := hT.2 (T ++ List.replicate j 20).length 20 z_get_last
    rw [hlen2] at htp
    rw [M_nots_b0, hT.1, hlen, if_pos (show 0 < Int32.ofNat (T.length + j + 1) from (z_lt (a := 0) (by omega) (by omega)).mpr (by omega)), z_sub1 (by omega), Nat.add_sub_cancel, z_ix (show T.length + j < 45 by omega) (by omega), Option.bind_some, htp, if_pos rfl, nm_eq, nm_eq, upI_nj (show (52 : Nat) ≠ 51 by omega), hD, z_sub1 (by omega), show D + (j + 1) - 1 = D + j by omega]
    generalize e3 : upI (upI mM 0 51 (Int32.ofNat (T.length + j))) 0 52 (Int32.ofNat (D + j)) = m3
    have f3 : zSf mM m3 := ⟨fun c h0 h4 => by rw [← e3, upI_ne' h0, upI_ne' h0], fun i a b c => by rw [← e3, upI_nj c, upI_nj b], by rw [← e3]; rfl⟩
    have k51 : m3.1 0 51 = Int32.ofNat (T.length + j) := by rw [← e3, upI_nj (by omega), upI_at]
    have k52 : m3.1 0 52 = Int32.ofNat (D + j) := by rw [← e3, upI_at]
    have k49 : m3.1 0 49 = mM.1 0 49 := by rw [← e3, upI_nj (by omega), upI_nj (by omega)]
    have k4 : m3.1 4 = mM.1 4 := by rw [← e3, upI_ne' (by omega), upI_ne' (by omega)]
    obtain ⟨m4, e4, s4, g1, g2, g3⟩ := zM_put (p0 := 20) (w := 23) (s := 0) (n := 0) (zSm_tr k4 k49 hm) (by omega) rfl
    rw [e4, Option.bind_some]
    have hT3 : zSt m4 (T ++ List.replicate j 20) := zSt_pop (by rw [g1 19 (by omega) (by omega)]; exact f3.1 19 (by omega) (by omega)) (by rw [g2 51 (by omega), k51, hlen2]) hT
    obtain ⟨m5, e5, s5, l5, d5, f5⟩ := ih f m4 (lm ++ [(23, 0, 0)]) D (by omega) hT3 s4 (by rw [List.length_append]; show lm.length + 1 + j ≤ 50; omega) (by rw [g2 52 (by omega), k52]) (by omega) (by omega) htop
    refine ⟨m5, e5, s5, ?_, d5, zSf_t (zSf_t f3 ⟨g1, fun i a b c => g2 i a, g3⟩) f5⟩
    rw [List.replicate_succ, ← List.singleton_append, ← List.append_assoc]
    exact l5
theorem zM_jstop {till : Int32} {f : Nat} (hT : zSt mM T) (hl : T.length ≤ 45) (h1 : T.getLast? ≠ some 21) (h2 : till = 22 → T.getLast? ≠ some 22) : M_joins_b0 till (f + 1) mM = some mM := by
  rw [M_joins_b0, hT.1]
  rcases List.eq_nil_or_concat T with h | ⟨L, x, h⟩
  · rw [h, if_neg (show ¬ 0 < Int32.ofNat ([] : List Int32).length by decide)]
  · rw [List.concat_eq_append] at h
    subst h
    have hlast : (L ++ [x]).getLast? = some x := by rw [List.getLast?_append]; rfl
    have hx : ¬ x = 21 := fun e => h1 (by rw [hlast, e])
    have hlen : (L ++ [x]).length = L.length + 1 := by rw [List.length_append]; rfl
    rw [hlen] at hl ⊢
    rw [if_pos (show 0 < Int32.ofNat (L.length + 1) from (z_lt (a := 0) (by omega) (by omega)).mpr (by omega)), z_sub1 (by omega), Nat.add_sub_cancel, z_ix (show L.length < 45 by omega) (by omega), Option.bind_some, hT.2 L.length x z_get_last, if_neg hx, Option.bind_some, hT.2 L.length x z_get_last]
    by_cases h22 : x = 22
    · rw [if_pos h22, if_neg (fun e => h2 e (by rw [hlast, h22]))]
    · rw [if_neg h22]
theorem zM_jpop {till op w : Int32} {f : Nat} (hT : zSt mM (T ++ [op])) (hl : T.length < 45) (hm : zSm mM l) (hl2 : l.length ≤ 50) (hop : op = 21 ∨ (op = 22 ∧ till = 22)) (hw : op = zStp w) : ∃ mM', M_joins_b0 till (f + 1) mM = M_joins_b0 till f mM' ∧ zSt mM' T ∧ zSm mM' (l ++ [(w, 0, 0)]) ∧ zSf mM mM' ∧ mM'.1 0 52 = mM.1 0 52 := by
  have hlen : (T ++ [op]).length = T.length + 1 := by rw [List.length_append]; rfl
  have htop := hT.2 T.length op z_get_last
  have e45 : M_joins_b0 till (f + 1) mM = M_joins_b45 till (M_joins_b0 till f) mM := by
    rw [M_joins_b0, hT.1, hlen, if_pos (show 0 < Int32.ofNat (T.length + 1) from (z_lt (a := 0) (by omega) (by omega)).mpr (by omega)), z_sub1 (by omega), Nat.add_sub_cancel, z_ix hl (by omega), Option.bind_some, htop, Option.bind_some]
    rcases hop with h | ⟨h, ht⟩
    · rw [if_pos h]
    · rw [if_neg (by rw [h]; decide), htop, if_pos h, if_pos ht]
  rw [e45]
  unfold M_joins_b45
  rw [nm_eq, upI_at, upI_ne' (show (19 : Nat) ≠ 0 by omega), hT.1, hlen, z_sub1 (by omega), Nat.add_sub_cancel, z_ix hl (by omega), Option.bind_some, htop]
  generalize e3 : upI mM 0 51 (Int32.ofNat T.length) = m3
  have f3 : zSf mM m3 := ⟨fun c h0 h4 => by rw [← e3, upI_ne' h0], fun i a b c => by rw [← e3, upI_nj b], by rw [← e3]; rfl⟩
  have k51 : m3.1 0 51 = Int32.ofNat T.length := by rw [← e3, upI_at]
  have k52 : m3.1 0 52 = mM.1 0 52 := by rw [← e3, upI_nj (by omega)]
  have k49 : m3.1 0 49 = mM.1 0 49 := by rw [← e3, upI_nj (by omega)]
  have k4 : m3.1 4 = mM.1 4 := by rw [← e3, upI_ne' (by omega)]
  obtain ⟨m4, e4, s4, g1, g2, g3⟩ := zM_put (p0 := op) (w := w) (s := 0) (n := 0) (zSm_tr k4 k49 hm) hl2 hw
  rw [e4, Option.bind_some]
  exact ⟨m4, rfl, zSt_pop (by rw [g1 19 (by omega) (by omega)]; exact f3.1 19 (by omega) (by omega)) (by rw [g2 51 (by omega), k51]) hT, s4, zSf_t f3 ⟨g1, fun i a b c => g2 i a, g3⟩, by rw [g2 52 (by omega), k52]⟩
end ZSE
