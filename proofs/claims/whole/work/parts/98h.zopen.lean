/-! Layer 2. sentence: how both stand, what comes behind a one -/
def zPd (o a : Bool) (j : Nat) : List Int32 := (if o then [22] else []) ++ (if a then [21] else []) ++ List.replicate j 20
def zEm (o a : Bool) (j : Nat) : List zTp3 := List.replicate j (23, 0, 0) ++ (if a then [(22, 0, 0)] else []) ++ (if o then [(21, 0, 0)] else [])
/-- the class has told all, the model keeps back what is open: an or, an and, some nots -/
def zXs (n lim : Nat) (b : Nat → Nat) (C0 M0 : xMem) (S : List Int32) (o a : Bool) (j w k f q : Nat) (l : List zTp3) (mC mM : xMem) : Prop :=
  zRd n lim q b C0 M0 mC mM ∧ 1000 ≤ f + q ∧ zSq mC l ∧ (∃ l0, l = l0 ++ zEm o a j ∧ zSm mM l0) ∧ zSt mM (S ++ zPd o a j) ∧ mM.1 0 52 = Int32.ofNat (w + j) ∧ mC.1 71 1 = Int32.ofNat k ∧ mM.1 0 50 = Int32.ofNat k ∧ k ≤ 20 ∧ l.length ≤ 2 * k ∧ (S ++ zPd o a j).length ≤ 2 * k ∧ w + j ≤ 9
section ZXX
variable {m m' mC mC' mM mM' C0 M0 : xMem} {n lim q j w k f : Nat} {b : Nat → Nat} {S : List Int32} {o a : Bool} {l : List zTp3}
theorem zX_f (h : zXs n lim b C0 M0 S o a j w k f q l mC mM) : ∃ g, f = g + 1 := by
  obtain ⟨⟨⟨t1, t2, t3, t4, p, u1, u2, u3, u4, u5⟩, _⟩, hf, _⟩ := h
  have := t1.1
  exact ⟨f - 1, by omega⟩
theorem zPd_len : (zPd o a j).length = (if o then 1 else 0) + (if a then 1 else 0) + j := by
  unfold zPd
  rw [List.length_append, List.length_append, List.length_replicate]
  cases o <;> cases a <;> rfl
theorem zEm_len : (zEm o a j).length = j + (if a then 1 else 0) + (if o then 1 else 0) := by
  unfold zEm
  rw [List.length_append, List.length_append, List.length_replicate]
  cases o <;> cases a <;> rfl
theorem zLast_o {x : Int32} (h : S.getLast? ≠ some x) (ho : x ≠ 22) : (S ++ (if o then [22] else [])).getLast? ≠ some x := by
  cases o with
  | false => rw [if_neg (by decide), List.append_nil]; exact h
  | true =>
    rw [if_pos rfl, List.getLast?_append]
    exact fun e => ho (Option.some.inj e).symm
theorem zLast_a {x : Int32} (h : S.getLast? ≠ some x) (ho : x ≠ 21) : (S ++ (if a then [21] else [])).getLast? ≠ some x := by
  cases a with
  | false => rw [if_neg (by decide), List.append_nil]; exact h
  | true =>
    rw [if_pos rfl, List.getLast?_append]
    exact fun e => ho (Option.some.inj e).symm
/-- the nots told -/
theorem zX_nots (hS : S.getLast? ≠ some 20) (h : zXs n lim b C0 M0 S o a j w k f q l mC mM) : ∃ m', M_nots mM = some m' ∧ zXs n lim b C0 M0 S o a 0 w k f q l mC m' ∧ zSf mM m' := by
  obtain ⟨R, hf, hq, ⟨l0, e0, hm⟩, hT, hD, hk1, hk2, hk, hl, hTl, hw⟩ := h
  unfold zPd at hT hTl
  rw [← List.append_assoc, ← List.append_assoc] at hT hTl
  have hlen : ((S ++ (if o then [22] else [])) ++ (if a then [21] else [])).length + j ≤ 2 * k := by
    rw [List.length_append, List.length_replicate] at hTl
    exact hTl
  have hl0 : l0.length + j ≤ 40 := by
    have h1 : l.length = l0.length + (zEm o a j).length := by rw [e0, List.length_append]
    rw [zEm_len] at h1
    omega
  obtain ⟨m', e1, s1, s2, s3, s4⟩ := zM_notsL j 1000 mM l0 w (by omega) hT hm (by omega) hD (by omega) (by omega) (zLast_a (zLast_o hS (by decide)) (by decide))
  have e1' : M_nots mM = some m' := e1
  refine ⟨m', e1', ⟨zRd_M (zSf_w s4) R, hf, hq, ⟨l0 ++ List.replicate j (23, 0, 0), ?_, s2⟩, ?_, by rw [s3]; rfl, hk1, by rw [s4.2.1 50 (by omega) (by omega) (by omega)]; exact hk2, hk, hl, ?_, by omega⟩, s4⟩
  · rw [e0]
    unfold zEm
    rw [List.replicate_zero, List.nil_append, List.append_assoc, List.append_assoc]
  · unfold zPd
    rw [List.replicate_zero, List.append_nil, ← List.append_assoc]
    exact s1
  · unfold zPd
    rw [List.replicate_zero, List.append_nil, ← List.append_assoc]
    omega
/-- the and told -/
theorem zX_and {till : Int32} {g : Nat} (h : zXs n lim b C0 M0 S o a 0 w k f q l mC mM) : ∃ g' m', g ≤ g' ∧ M_joins_b0 till (g + 1) mM = M_joins_b0 till g' m' ∧ zXs n lim b C0 M0 S o false 0 w k f q l mC m' ∧ zSf mM m' := by
  cases a with
  | false => exact ⟨g + 1, mM, by omega, rfl, h, zSf_rf⟩
  | true =>
    obtain ⟨R, hf, hq, ⟨l0, e0, hm⟩, hT, hD, hk1, hk2, hk, hl, hTl, hw⟩ := h
    have hp : S ++ zPd o true 0 = (S ++ zPd o false 0) ++ [21] := by
      unfold zPd
      cases o <;> simp
    rw [hp] at hT hTl
    have hlen : (S ++ zPd o false 0).length + 1 ≤ 2 * k := by
      rw [List.length_append] at hTl
      exact hTl
    have hl0 : l0.length + 1 ≤ 40 := by
      have h1 : l.length = l0.length + (zEm o true 0).length := by rw [e0, List.length_append]
      rw [zEm_len, if_pos rfl] at h1
      omega
    obtain ⟨m', e1, s1, s2, s3, s4⟩ := zM_jpop (till := till) (op := 21) (w := 22) (f := g) hT (by omega) hm (by omega) (Or.inl rfl) rfl
    refine ⟨g, m', Nat.le_refl _, e1, ⟨zRd_M (zSf_w s3) R, hf, hq, ⟨l0 ++ [(22, 0, 0)], ?_, s2⟩, s1, by rw [s4]; exact hD, hk1, by rw [s3.2.1 50 (by omega) (by omega) (by omega)]; exact hk2, hk, hl, by omega, hw⟩, s3⟩
    rw [e0]
    unfold zEm
    cases o <;> simp
theorem zX_or {g : Nat} (h : zXs n lim b C0 M0 S o false 0 w k f q l mC mM) : ∃ g' m', g ≤ g' ∧ M_joins_b0 22 (g + 1) mM = M_joins_b0 22 g' m' ∧ zXs n lim b C0 M0 S false false 0 w k f q l mC m' ∧ zSf mM m' := by
  cases o with
  | false => exact ⟨g + 1, mM, by omega, rfl, h, zSf_rf⟩
  | true =>
    obtain ⟨R, hf, hq, ⟨l0, e0, hm⟩, hT, hD, hk1, hk2, hk, hl, hTl, hw⟩ := h
    have hp : S ++ zPd true false 0 = (S ++ zPd false false 0) ++ [22] := by
      unfold zPd
      simp
    rw [hp] at hT hTl
    have hlen : (S ++ zPd false false 0).length + 1 ≤ 2 * k := by
      rw [List.length_append] at hTl
      exact hTl
    have hl0 : l0.length + 1 ≤ 40 := by
      have h1 : l.length = l0.length + (zEm true false 0).length := by rw [e0, List.length_append]
      rw [zEm_len, if_neg (by decide), if_pos rfl] at h1
      omega
    obtain ⟨m', e1, s1, s2, s3, s4⟩ := zM_jpop (till := 22) (op := 22) (w := 21) (f := g) hT (by omega) hm (by omega) (Or.inr ⟨rfl, rfl⟩) rfl
    refine ⟨g, m', Nat.le_refl _, e1, ⟨zRd_M (zSf_w s3) R, hf, hq, ⟨l0 ++ [(21, 0, 0)], ?_, s2⟩, s1, by rw [s4]; exact hD, hk1, by rw [s3.2.1 50 (by omega) (by omega) (by omega)]; exact hk2, hk, hl, by omega, hw⟩, s3⟩
    rw [e0]
    unfold zEm
    simp
theorem zX_j21 (hS : S.getLast? ≠ some 21) (h : zXs n lim b C0 M0 S o a 0 w k f q l mC mM) : ∃ m', M_joins mM 21 = some m' ∧ zXs n lim b C0 M0 S o false 0 w k f q l mC m' ∧ zSf mM m' := by
  obtain ⟨g, m1, hg, e1, X1, s1⟩ := zX_and (till := 21) (g := 999) h
  obtain ⟨g', rfl⟩ : ∃ g', g = g' + 1 := ⟨g - 1, by omega⟩
  refine ⟨m1, ?_, X1, s1⟩
  have hT := X1.2.2.2.2.1
  have hk := X1.2.2.2.2.2.2.2.2.1
  have hTl := X1.2.2.2.2.2.2.2.2.2.2.1
  unfold M_joins
  refine e1.trans ?_
  refine zM_jstop hT (by omega) ?_ (fun e => absurd e (by decide))
  unfold zPd
  rw [if_neg (show ¬ false = true by decide), List.append_nil, List.replicate_zero, List.append_nil]
  exact zLast_o hS (by decide)
theorem zX_j22 (hS : S.getLast? ≠ some 21) (hS2 : S.getLast? ≠ some 22) (h : zXs n lim b C0 M0 S o a 0 w k f q l mC mM) : ∃ m', M_joins mM 22 = some m' ∧ zXs n lim b C0 M0 S false false 0 w k f q l mC m' ∧ zSf mM m' := by
  obtain ⟨g, m1, hg, e1, X1, s1⟩ := zX_and (till := 22) (g := 999) h
  obtain ⟨g', rfl⟩ : ∃ g', g = g' + 1 := ⟨g - 1, by omega⟩
  obtain ⟨g2, m2, hg2, e2, X2, s2⟩ := zX_or (g := g') X1
  obtain ⟨g3, rfl⟩ : ∃ g3, g2 = g3 + 1 := ⟨g2 - 1, by omega⟩
  refine ⟨m2, ?_, X2, zSf_t s1 s2⟩
  have hT := X2.2.2.2.2.1
  have hk := X2.2.2.2.2.2.2.2.2.1
  have hTl := X2.2.2.2.2.2.2.2.2.2.2.1
  unfold M_joins
  refine (e1.trans e2).trans ?_
  refine zM_jstop hT (by omega) ?_ (fun _ => ?_)
  · unfold zPd
    rw [if_neg (show ¬ false = true by decide), if_neg (show ¬ false = true by decide), List.append_nil, List.replicate_zero, List.append_nil, List.append_nil]
    exact hS
  · unfold zPd
    rw [if_neg (show ¬ false = true by decide), if_neg (show ¬ false = true by decide), List.append_nil, List.replicate_zero, List.append_nil, List.append_nil]
    exact hS2
theorem zS_unf (h53 : m.1 0 53 = 1) (h11 : ¬ m.1 0 11 = 0) : M_sentence_b48 (f + 1) 1 m = (M_behind m).bind fun r18 => if r18.1 = 0 then some (((-1)) - (r18.2.1 0 16), r18.2) else M_sentence_b48 f 1 r18.2 := by
  rw [M_sentence_b48, if_neg (show ¬ (1 : Int32) = 0 by decide), h53, if_neg (show ¬ (1 : Int32) = 0 by decide), if_neg h11]
  unfold M_sentence_b101
  rw [h53, if_neg (show ¬ (1 : Int32) = 0 by decide)]
theorem zS_unf0 (h53 : m.1 0 53 = 0) : M_sentence_b48 (f + 1) 1 m = (M_operand m).bind fun r17 => if r17.1 = 0 then some (((-1)) - (r17.2.1 0 16), r17.2) else M_sentence_b48 f 1 r17.2 := by
  rw [M_sentence_b48, if_neg (show ¬ (1 : Int32) = 0 by decide), h53, if_pos rfl]
  unfold M_sentence_b101
  rw [h53, if_pos rfl]
theorem z_11 (R : zRd n lim q b C0 M0 mC mM) (h : mM.1 0 11 = 1 ∨ mM.1 0 11 = 2 ∨ mM.1 0 11 = 3) : ¬ mM.1 0 11 = 0 := by
  rcases h with h | h | h <;> (rw [h]; decide)
/-- the push of a joining word -/
theorem zX_push {op : Int32} {S' : List Int32} (h11 : mM.1 0 11 = 1) (h : zXs n lim b C0 M0 S o false 0 w k (f + 1) q l mC mM) (hS' : S' = S ++ zPd o false 0 ++ [op]) (hlen : S'.length ≤ 2 * k) : ∃ mC' mM', Tokens_advance mC = some mC' ∧ M_behind_b70 op (mM.1 0 51) mM = some (1, mM') ∧ mM'.1 0 53 = 0 ∧ ∀ l0, l = l0 → zSm mM l0 → zXs n lim b C0 M0 S' false false 0 w k f (q + 1) l mC' mM' := by
  obtain ⟨R, hf, hq, _, hT, hD, hk1, hk2, hk, hl, hTl, hw⟩ := h
  have hTlen : (S ++ zPd o false 0).length + 1 ≤ 2 * k := by
    rw [hS', List.length_append] at hlen
    exact hlen
  unfold M_behind_b70
  rw [hT.1, z_ix (show (S ++ zPd o false 0).length < 45 by omega) (by omega), Option.bind_some, nm_eq, nm_eq, nm_eq, upI_ne' (show (0 : Nat) ≠ 19 by omega), hT.1, z_s]
  generalize e5 : upI (upI (upI mM 19 (S ++ zPd o false 0).length op) 0 51 (Int32.ofNat ((S ++ zPd o false 0).length + 1))) 0 53 0 = m5
  have hw5 : zMw mM m5 := by rw [← e5]; exact zMw_t (zMw_row (by omega)) (zMw_t (zMw_0 (by omega)) (zMw_0 (by omega)))
  obtain ⟨a', c', x1, x2, R2, G⟩ := zT_go1 (zRd_M hw5 R) (Or.inl (by rw [← e5, upI_nj (by omega), upI_nj (by omega), upI_ne' (by omega)]; exact h11))
  rw [x1, x2, Option.bind_some]
  have k53 : c'.1 0 53 = 0 := by rw [G.2.2.2.2.1 53 (by omega) (by omega), ← e5, upI_at]
  refine ⟨a', c', rfl, rfl, k53, fun l0 hl0 hm => ⟨R2, by omega, zSq_tr (by rw [G.1 71 (by omega)]) (G.1 72 (by omega)) (G.1 73 (by omega)) (G.1 74 (by omega)) hq, ⟨l, by unfold zEm; simp, ?_⟩, ?_, ?_, by rw [G.1 71 (by omega)]; exact hk1, ?_, hk, hl, ?_, hw⟩⟩
  · rw [hl0]
    exact zSm_tr (by rw [G.2.2.2.1 4 (by omega), ← e5, upI_ne' (by omega), upI_ne' (by omega), upI_ne' (by omega)]) (by rw [G.2.2.2.2.1 49 (by omega) (by omega), ← e5, upI_nj (by omega), upI_nj (by omega), upI_ne' (by omega)]) hm
  · have hp : S' ++ zPd false false 0 = S' := by unfold zPd; simp
    rw [hp, hS']
    refine zSt_push (mM := mM) (fun i hi => ?_) ?_ ?_ hT
    · rw [G.2.2.2.1 19 (by omega), ← e5, upI_ne' (by omega), upI_ne' (by omega), upI_nj hi]
    · rw [G.2.2.2.1 19 (by omega), ← e5, upI_ne' (by omega), upI_ne' (by omega), upI_at]
    · rw [G.2.2.2.2.1 51 (by omega) (by omega), ← e5, upI_nj (by omega), upI_at]
  · rw [G.2.2.2.2.1 52 (by omega) (by omega), ← e5, upI_nj (by omega), upI_nj (by omega), upI_ne' (by omega)]
    exact hD
  · rw [G.2.2.2.2.1 50 (by omega) (by omega), ← e5, upI_nj (by omega), upI_nj (by omega), upI_ne' (by omega)]
    exact hk2
  · have hp : S' ++ zPd false false 0 = S' := by unfold zPd; simp
    rw [hp]
    exact hlen
end ZXX
