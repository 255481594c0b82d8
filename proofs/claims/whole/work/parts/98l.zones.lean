/-! Layer 2. sentence: ones, brackets, nots, ands, ors -/
section ZSL
variable {m m' mC mC' mM mM' C0 M0 : xMem} {n lim q j w k k0 f g i d : Nat} {b : Nat → Nat} {S : List Int32} {o a : Bool} {l acc : List zTp3}
theorem zVal_mono {A : List zTp3} {d d' : Nat} (h : zVal A d) (hd : d ≤ d') : zVal A d' := fun n0 rest hn => h n0 rest (by omega)
theorem zVal_not {A : List zTp3} {d : Nat} (h : zVal A d) : zVal (A ++ [(23, 0, 0)]) d := fun n0 rest hn => by
  rw [List.map_append, List.append_assoc, h n0 _ (by omega)]
  show zStack ((20 : Int32) :: rest) (n0 + 1) = _
  rw [zStack, if_pos rfl, if_pos (by omega)]
theorem zVal_two {A B : List zTp3} {da db : Nat} {c cm : Int32} (hc : zStp c = cm) (hcm : cm = 21 ∨ cm = 22) (h : zVal A da) (h' : zVal B db) (h1 : 1 ≤ da) : zVal (A ++ B ++ [(c, 0, 0)]) (da + db) := fun n0 rest hn => by
  rw [List.map_append, List.map_append, List.append_assoc, List.append_assoc, h n0 _ (by omega), h' (n0 + 1) _ (by omega)]
  show zStack (zStp c :: rest) (n0 + 1 + 1) = _
  rw [hc, zStack, if_neg (by rcases hcm with e | e <;> (rw [e]; decide)), if_pos hcm, if_pos (by omega), Nat.add_sub_cancel]
theorem zGdL_a {A B : List zTp3} (h : zGdL A) (h' : zGdL B) : zGdL (A ++ B) := fun t ht => by
  rcases List.mem_append.mp ht with q | q
  · exact h t q
  · exact h' t q
theorem zGdL_op {c : Int32} (h1 : 21 ≤ c.toInt) (h2 : c.toInt ≤ 31) (h3 : ¬ c = 26) : zGdL [(c, 0, 0)] := fun t ht => by
  rw [List.mem_singleton] at ht
  subst ht
  exact ⟨h1, h2, fun e => absurd e h3⟩
def zOneP (n lim : Nat) (b : Nat → Nat) (C0 M0 : xMem) (d w : Nat) : Prop := ∀ (k f q : Nat) (l : List zTp3) (S : List Int32) (mC mM : xMem), mM.1 0 53 = 0 → zXs n lim b C0 M0 S false false 0 w k f q l mC mM → zRs1 n lim b C0 M0 S w k l (fun o a => o = false ∧ a = false) (fun _ => True) (Sentence_readOne d mC 71 6 (Int32.ofNat w)) (M_sentence_b48 f 1 mM)
theorem zXs_len (h : zXs n lim b C0 M0 S false false 0 w k f q l mC mM) : S.length ≤ 2 * k ∧ l.length ≤ 2 * k := by
  have hp : S ++ zPd false false 0 = S := by unfold zPd; simp
  have h1 := h.2.2.2.2.2.2.2.2.2.2.1
  rw [hp] at h1
  exact ⟨h1, h.2.2.2.2.2.2.2.2.2.1⟩
/-- a step that the class adds, for what the model keeps back -/
theorem zXs_add {c : Int32} {S' : List Int32} {o' a' : Bool} {j' : Nat} (h : zXs n lim b C0 M0 S' o a j w k f q l mC mM) (hl : l.length < 40) (hl2 : l.length + 1 ≤ 2 * k) (hP : S' ++ zPd o a j = S ++ zPd o' a' j') (hE : ∀ l0 : List zTp3, l0 ++ zEm o a j ++ [(c, 0, 0)] = l0 ++ zEm o' a' j') {w' : Nat} (hw : w + j = w' + j') : ∃ mC', Sentence_addStep mC 71 c 0 0 = some mC' ∧ zXs n lim b C0 M0 S o' a' j' w' k f q (l ++ [(c, 0, 0)]) mC' mM ∧ mC'.1 3 = mC.1 3 := by
  obtain ⟨R, hf, hq, ⟨l0, e0, hm⟩, hT, hD, hk1, hk2, hk, hl', hTl, hw9⟩ := h
  obtain ⟨mC', c1, c2, c3, c4, c5, c6⟩ := zC_add (w := c) (s := 0) (n := 0) hq hl
  refine ⟨mC', c1, ⟨zRd_C c6 R, hf, c2, ⟨l0, by rw [e0]; exact hE l0, hm⟩, by rw [← hP]; exact hT, by rw [hD, hw], by rw [c4 1 (by omega)]; exact hk1, hk2, hk, by rw [List.length_append]; exact hl2, by rw [← hP]; exact hTl, by omega⟩, c3 3 (by omega) (by omega) (by omega) (by omega)⟩
theorem zTopL {x y : Int32} (h : y ≠ x) : (S ++ [y]).getLast? ≠ some x := by
  rw [List.getLast?_append]
  exact fun e => h (Option.some.inj e)
/-- the ands -/
theorem zAls_loop (hOne : zOneP n lim b C0 M0 d w) (hS : S.getLast? ≠ some 20) (hS1 : S.getLast? ≠ some 21) (hSl : S.length ≤ 2 * k0) (hl0 : l.length ≤ 2 * k0) : ∀ c, ∀ v4 F k f q j (a : Bool) (acc : List zTp3) (mC mM : xMem), 20 - k ≤ c → v4 + F = 1000 → v4 + 1 ≤ k → mM.1 0 53 = 1 → zXs n lim b C0 M0 S false a j w k f q (l ++ acc) mC mM → k0 + 1 ≤ k → acc.length + 1 ≤ 2 * (k - k0) → zGdL acc → zVal acc (k - k0) → zRs1 n lim b C0 M0 S w k0 l (fun o _ => o = false) (fun m => ¬ m.1 3 8 = 22) (Sentence_readAlls_b15 (Sentence_readOne d) 71 6 (Int32.ofNat w) F (Int32.ofNat v4) mC) (M_sentence_b48 f 1 mM) := by
  intro c
  induction c with
  | zero => 
    intro v4 F k f q j a acc mC mM hc hF hv h53 h hk0 hacc hg hval
    have hk := h.2.2.2.2.2.2.2.2.1
    obtain ⟨F', rfl⟩ : ∃ F', F = F' + 1 := ⟨F - 1, by omega⟩
    rw [Sentence_readAlls_b15, if_pos (show Int32.ofNat v4 < 20 from (z_lt (b := 20) (by omega) (by omega)).mpr (by omega))]
    by_cases h8 : mC.1 3 8 = 22
    · rw [if_pos h8]
      obtain ⟨g, c1, m1, x1, x2, x3, x4⟩ := zB_and h53 h8 hS hS1 (by omega) h
      rw [x1, Option.bind_some, x2]
      rcases hOne k g (q + 1) (l ++ acc) (S ++ [21]) c1 m1 x3 x4 with ⟨o', a', j', k', f', q', new, c2, m2, ⟨ho, ha⟩, _, y1, y2, y3, y4, y5, y6, y7, y8⟩ | ⟨c2, m2, y1, y2, Bd⟩
      · have := y4.2.2.2.2.2.2.2.2.1
        exfalso
        omega
      · rw [y1, y2, Option.bind_some, if_pos rfl]
        exact Or.inr ⟨c2, m2, rfl, rfl, Bd⟩
    · rw [if_neg h8]
      exact Or.inl ⟨false, a, j, k, f, q, acc, mC, mM, rfl, h8, rfl, rfl, h53, h, hk0, hacc, hg, hval⟩
  | succ c ih =>
    intro v4 F k f q j a acc mC mM hc hF hv h53 h hk0 hacc hg hval
    have hk := h.2.2.2.2.2.2.2.2.1
    obtain ⟨F', rfl⟩ : ∃ F', F = F' + 1 := ⟨F - 1, by omega⟩
    rw [Sentence_readAlls_b15, if_pos (show Int32.ofNat v4 < 20 from (z_lt (b := 20) (by omega) (by omega)).mpr (by omega))]
    by_cases h8 : mC.1 3 8 = 22
    · rw [if_pos h8]
      obtain ⟨g, c1, m1, x1, x2, x3, x4⟩ := zB_and h53 h8 hS hS1 (by omega) h
      rw [x1, Option.bind_some, x2]
      rcases hOne k g (q + 1) (l ++ acc) (S ++ [21]) c1 m1 x3 x4 with ⟨o', a', j', k', f', q', new, c2, m2, ⟨ho, ha⟩, _, y1, y2, y3, y4, y5, y6, y7, y8⟩ | ⟨c2, m2, y1, y2, Bd⟩
      · subst ho
        subst ha
        have hk' := y4.2.2.2.2.2.2.2.2.1
        have hlen : ((l ++ acc) ++ new).length + 2 ≤ 2 * k' := by
          rw [List.length_append, List.length_append]
          omega
        obtain ⟨c3, z1, z2, z3⟩ := zXs_add (S := S) (c := 22) (o' := false) (a' := true) (j' := j') (w' := w) y4 (by omega) (by omega) (by unfold zPd; simp) (fun l0 => by unfold zEm; simp) rfl
        rw [y1, y2, Option.bind_some]
        dsimp only
        rw [if_neg (show ¬ (1 : Int32) = 0 by decide), z1, Option.bind_some, z_s]
        have e : (l ++ acc) ++ new ++ [(22, 0, 0)] = l ++ (acc ++ new ++ [((22 : Int32), (0 : Int32), (0 : Int32))]) := by simp
        rw [e] at z2
        refine ih (v4 + 1) F' k' f' q' j' true (acc ++ new ++ [(22, 0, 0)]) c3 m2 (by omega) (by omega) (by omega) y3 z2 (by omega) ?_ (zGdL_a (zGdL_a hg y7) (zGdL_op (by decide) (by decide) (by decide))) ?_
        · rw [List.length_append, List.length_append]
          show acc.length + new.length + 1 + 1 ≤ _
          omega
        · have hv2 := zVal_two (c := 22) (cm := 21) rfl (Or.inl rfl) hval y8 (by omega)
          rw [show k - k0 + (k' - k) = k' - k0 by omega] at hv2
          exact hv2
      · rw [y1, y2, Option.bind_some, if_pos rfl]
        exact Or.inr ⟨c2, m2, rfl, rfl, Bd⟩
    · rw [if_neg h8]
      exact Or.inl ⟨false, a, j, k, f, q, acc, mC, mM, rfl, h8, rfl, rfl, h53, h, hk0, hacc, hg, hval⟩
theorem zAls (hOne : zOneP n lim b C0 M0 d w) (hS : S.getLast? ≠ some 20) (hS1 : S.getLast? ≠ some 21) (h53 : mM.1 0 53 = 0) (h : zXs n lim b C0 M0 S false false 0 w k f q l mC mM) : zRs1 n lim b C0 M0 S w k l (fun o _ => o = false) (fun m => ¬ m.1 3 8 = 22) (Sentence_readAlls (Sentence_readOne d) mC 71 6 (Int32.ofNat w)) (M_sentence_b48 f 1 mM) := by
  unfold Sentence_readAlls
  obtain ⟨hSl, hll⟩ := zXs_len h
  rcases hOne k f q l S mC mM h53 h with ⟨o', a', j', k', f', q', new, c2, m2, ⟨ho, ha⟩, _, y1, y2, y3, y4, y5, y6, y7, y8⟩ | ⟨c2, m2, y1, y2, Bd⟩
  · subst ho
    subst ha
    rw [y1, y2, Option.bind_some]
    dsimp only
    rw [if_neg (show ¬ (1 : Int32) = 0 by decide)]
    exact zAls_loop hOne hS hS1 hSl hll 20 0 1000 k' f' q' j' false new c2 m2 (by omega) (by omega) (by omega) y3 y4 (by omega) y6 y7 y8
  · rw [y1, y2, Option.bind_some, if_pos rfl]
    exact Or.inr ⟨c2, m2, rfl, rfl, Bd⟩
/-- the ors -/
theorem zCnd_loop (hOne : zOneP n lim b C0 M0 d w) (hS : S.getLast? ≠ some 20) (hS1 : S.getLast? ≠ some 21) (hS2 : S.getLast? ≠ some 22) (hSl : S.length ≤ 2 * k0) (hl0 : l.length ≤ 2 * k0) : ∀ c, ∀ v4 F k f q j (o a : Bool) (acc : List zTp3) (mC mM : xMem), 20 - k ≤ c → v4 + F = 1000 → v4 + 1 ≤ k → mM.1 0 53 = 1 → ¬ mC.1 3 8 = 22 → zXs n lim b C0 M0 S o a j w k f q (l ++ acc) mC mM → k0 + 1 ≤ k → acc.length + 1 ≤ 2 * (k - k0) → zGdL acc → zVal acc (k - k0) → zRs1 n lim b C0 M0 S w k0 l (fun _ _ => True) (fun m => ¬ m.1 3 8 = 22 ∧ ¬ m.1 3 8 = 21) (Sentence_readCond_b15 (Sentence_readOne d) 71 6 (Int32.ofNat w) F (Int32.ofNat v4) mC) (M_sentence_b48 f 1 mM) := by
  intro c
  induction c with
  | zero =>
    intro v4 F k f q j o a acc mC mM hc hF hv h53 hn h hk0 hacc hg hval
    have hk := h.2.2.2.2.2.2.2.2.1
    obtain ⟨F', rfl⟩ : ∃ F', F = F' + 1 := ⟨F - 1, by omega⟩
    rw [Sentence_readCond_b15, if_pos (show Int32.ofNat v4 < 20 from (z_lt (b := 20) (by omega) (by omega)).mpr (by omega))]
    by_cases h8 : mC.1 3 8 = 21
    · rw [if_pos h8]
      obtain ⟨g, c1, m1, x1, x2, x3, x4⟩ := zB_or h53 h8 hS hS1 hS2 (by omega) h
      rw [x1, Option.bind_some, x2]
      rcases zAls hOne (S := S ++ [22]) (zTopL (by decide)) (zTopL (by decide)) x3 x4 with ⟨o', a', j', k', f', q', new, c2, m2, ho, _, y1, y2, y3, y4, y5, y6, y7, y8⟩ | ⟨c2, m2, y1, y2, Bd⟩
      · have := y4.2.2.2.2.2.2.2.2.1
        exfalso
        omega
      · rw [y1, y2, Option.bind_some, if_pos rfl]
        exact Or.inr ⟨c2, m2, rfl, rfl, Bd⟩
    · rw [if_neg h8]
      exact Or.inl ⟨o, a, j, k, f, q, acc, mC, mM, trivial, ⟨hn, h8⟩, rfl, rfl, h53, h, hk0, hacc, hg, hval⟩
  | succ c ih =>
    intro v4 F k f q j o a acc mC mM hc hF hv h53 hn h hk0 hacc hg hval
    have hk := h.2.2.2.2.2.2.2.2.1
    obtain ⟨F', rfl⟩ : ∃ F', F = F' + 1 := ⟨F - 1, by omega⟩
    rw [Sentence_readCond_b15, if_pos (show Int32.ofNat v4 < 20 from (z_lt (b := 20) (by omega) (by omega)).mpr (by omega))]
    by_cases h8 : mC.1 3 8 = 21
    · rw [if_pos h8]
      obtain ⟨g, c1, m1, x1, x2, x3, x4⟩ := zB_or h53 h8 hS hS1 hS2 (by omega) h
      rw [x1, Option.bind_some, x2]
      rcases zAls hOne (S := S ++ [22]) (zTopL (by decide)) (zTopL (by decide)) x3 x4 with ⟨o', a', j', k', f', q', new, c2, m2, ho, hQ, y1, y2, y3, y4, y5, y6, y7, y8⟩ | ⟨c2, m2, y1, y2, Bd⟩
      · subst ho
        have hk' := y4.2.2.2.2.2.2.2.2.1
        have hlen : ((l ++ acc) ++ new).length + 2 ≤ 2 * k' := by
          rw [List.length_append, List.length_append]
          omega
        obtain ⟨c3, z1, z2, z3⟩ := zXs_add (S := S) (c := 21) (o' := true) (a' := a') (j' := j') (w' := w) y4 (by omega) (by omega) (by unfold zPd; simp) (fun l0 => by unfold zEm; simp) rfl
        rw [y1, y2, Option.bind_some]
        dsimp only
        rw [if_neg (show ¬ (1 : Int32) = 0 by decide), z1, Option.bind_some, z_s]
        have e : (l ++ acc) ++ new ++ [(21, 0, 0)] = l ++ (acc ++ new ++ [((21 : Int32), (0 : Int32), (0 : Int32))]) := by simp
        rw [e] at z2
        refine ih (v4 + 1) F' k' f' q' j' true a' (acc ++ new ++ [(21, 0, 0)]) c3 m2 (by omega) (by omega) (by omega) y3 (by rw [z3]; exact hQ) z2 (by omega) ?_ (zGdL_a (zGdL_a hg y7) (zGdL_op (by decide) (by decide) (by decide))) ?_
        · rw [List.length_append, List.length_append]
          show acc.length + new.length + 1 + 1 ≤ _
          omega
        · have hv2 := zVal_two (c := 21) (cm := 22) rfl (Or.inr rfl) hval y8 (by omega)
          rw [show k - k0 + (k' - k) = k' - k0 by omega] at hv2
          exact hv2
      · rw [y1, y2, Option.bind_some, if_pos rfl]
        exact Or.inr ⟨c2, m2, rfl, rfl, Bd⟩
    · rw [if_neg h8]
      exact Or.inl ⟨o, a, j, k, f, q, acc, mC, mM, trivial, ⟨hn, h8⟩, rfl, rfl, h53, h, hk0, hacc, hg, hval⟩
theorem zCnd (hOne : zOneP n lim b C0 M0 d w) (hS : S.getLast? ≠ some 20) (hS1 : S.getLast? ≠ some 21) (hS2 : S.getLast? ≠ some 22) (h53 : mM.1 0 53 = 0) (h : zXs n lim b C0 M0 S false false 0 w k f q l mC mM) : zRs1 n lim b C0 M0 S w k l (fun _ _ => True) (fun m => ¬ m.1 3 8 = 22 ∧ ¬ m.1 3 8 = 21) (Sentence_readCond (Sentence_readOne d) mC 71 6 (Int32.ofNat w)) (M_sentence_b48 f 1 mM) := by
  unfold Sentence_readCond
  obtain ⟨hSl, hll⟩ := zXs_len h
  rcases zAls hOne hS hS1 h53 h with ⟨o', a', j', k', f', q', new, c2, m2, ho, hQ, y1, y2, y3, y4, y5, y6, y7, y8⟩ | ⟨c2, m2, y1, y2, Bd⟩
  · rw [y1, y2, Option.bind_some]
    dsimp only
    rw [if_neg (show ¬ (1 : Int32) = 0 by decide)]
    exact zCnd_loop hOne hS hS1 hS2 hSl hll 20 0 1000 k' f' q' j' o' a' new c2 m2 (by omega) (by omega) (by omega) y3 hQ y4 (by omega) y6 y7 y8
  · rw [y1, y2, Option.bind_some, if_pos rfl]
    exact Or.inr ⟨c2, m2, rfl, rfl, Bd⟩
end ZSL
