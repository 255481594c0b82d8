/-! Layer 2. said -/
theorem z_narB (b : Bool) : vp_nar .boolean (zb b) = zb b := by cases b <;> rfl
theorem z_addm1 {n : Nat} (h : 1 ≤ n) (h2 : n < 2147483648) : Int32.ofNat n + (-1) = Int32.ofNat (n - 1) := by
  rw [← Int32.sub_eq_add_neg, z_pred h h2]
theorem z_ifb {c : Prop} [Decidable c] : (if c then some (1 : Int32) else some 0) = some (zb (decide c)) := by
  by_cases h : c
  · rw [if_pos h, decide_eq_true h]; rfl
  · rw [if_neg h, decide_eq_false h]; rfl
theorem z_ifb' {c : Prop} [Decidable c] : (if c then some (0 : Int32) else some 1) = some (zb (!decide c)) := by
  by_cases h : c
  · rw [if_pos h, decide_eq_true h]; rfl
  · rw [if_neg h, decide_eq_false h]; rfl
def zCmp (v s x : Int32) : Bool := if s = 60 then decide (v < x) else if s = 61 then decide (v = x) else decide (x < v)
def zSn (σ : zR) (b : Nat) : Option Nat := match zOwl σ (Int32.ofNat b) with | none => none | some o => zSeen σ o b
def zLf (σ : zR) (b q : Nat) (s x : Int32) : Bool :=
  if q = 24 then (zOwl σ (Int32.ofNat b)).isNone
  else if q = 25 then (zSn σ b).isSome
  else if q = 26 then (match zOwl σ (Int32.ofNat b) with | none => false | some o => decide (zLook σ o b = x))
  else if q = 27 then decide (zN (zOwl σ (Int32.ofNat b)) = x)
  else if q = 28 then (match zSn σ b with | none => false | some i => decide (zK σ i = x))
  else if q = 29 then zCmp (σ (109 + b)) s x
  else if q = 30 then zCmp (σ (115 + b)) s x
  else zCmp (Int32.ofNat b) s x
section ZSD
variable {m m' mC mC' mM mM' : xMem} {σ τ : zR} {b q i : Nat} {s x : Int32}
theorem zSn_le (hc : zCt σ) {k : Nat} (h : zSn σ b = some k) : k ≤ zC σ := by
  unfold zSn at h
  cases ho : zOwl σ (Int32.ofNat b) with
  | none => rw [ho] at h; cases h
  | some o => rw [ho] at h; exact zSeen_lt h
theorem zC_sn (hH : zH m 6 σ) (hT : zT m 33 σ) (hc : zCt σ) (hb : b < zB σ) {ρ9 : Type} {k : Int32 → Option ρ9} : ((State_owlAt m 33 6 (Int32.ofNat b)).bind fun r1 => if r1 = -1 then k (-1) else (State_lookOf m 33 6 r1 (Int32.ofNat b) 0).bind k) = k (zN (zSn σ b)) := by
  have o6 := hc.2.1.2
  rw [zC_owlAt hH hT hc, Option.bind_some]
  unfold zSn
  cases ho : zOwl σ (Int32.ofNat b) with
  | none => rw [if_pos (show zN none = -1 from rfl)]; rfl
  | some o =>
    have h := (zOwl_lt ho).1
    have := zC_look (a := 0) hH hT hc h hb (by omega)
    rw [if_neg (show ¬ zN (some o) = -1 from z_nm1 (by omega)), show zN (some o) = Int32.ofNat o from rfl, show (0 : Int32) = Int32.ofNat 0 from rfl, this, Option.bind_some]
    rfl
theorem zC_cmp {p0 : Nat} {p1 v : Int32} (hi : i < 40) (h2 : m.1 (38 + 2) i = s) (h3 : m.1 (38 + 3) i = x) : Sentence_compares_b44 m 38 p0 p1 (Int32.ofNat i) v = some (zb (zCmp v s x)) := by
  unfold Sentence_compares_b44 zCmp
  rw [z_ix hi (by omega), Option.bind_some, nm_eq, Option.bind_some, h2, h3]
  by_cases a : s = 60
  · rw [if_pos a, if_pos a, z_ifb]
  · rw [if_neg a, if_neg a, Option.bind_some, h2]
    by_cases c : s = 61
    · rw [if_pos c, if_pos c, z_ifb]
    · rw [if_neg c, if_neg c, z_ifb]
theorem zC_leaf (hH : zH m 6 σ) (hT : zT m 33 σ) (hU : zU m 33 σ) (hc : zCt σ) (hb : b < zB σ) (hi : i < 40) (q1 : 24 ≤ q) (q2 : q ≤ 31) (h1 : m.1 (38 + 1) i = Int32.ofNat q) (h2 : m.1 (38 + 2) i = s) (h3 : m.1 (38 + 3) i = x) (hx : q = 26 → ¬ x = -1) : (if Int32.ofNat q < 29 then Sentence_isSo m 38 6 33 (Int32.ofNat b) (zN (zSn σ b)) (Int32.ofNat i) else Sentence_compares m 38 33 (Int32.ofNat b) (Int32.ofNat i)) = some (zb (zLf σ b q s x)) := by
  have o6 := hc.2.1.2
  have b6 := hc.1.2
  have c8 := hc.2.2.2
  have hq : ∀ v : Nat, v < 100 → (Int32.ofNat q = Int32.ofNat v ↔ q = v) := fun v hv => z_eq (by omega) (by omega)
  have n24 : (Int32.ofNat q = 24) ↔ q = 24 := hq 24 (by omega)
  have n25 : (Int32.ofNat q = 25) ↔ q = 25 := hq 25 (by omega)
  have n26 : (Int32.ofNat q = 26) ↔ q = 26 := hq 26 (by omega)
  have n27 : (Int32.ofNat q = 27) ↔ q = 27 := hq 27 (by omega)
  have n29 : (Int32.ofNat q = 29) ↔ q = 29 := hq 29 (by omega)
  have n30 : (Int32.ofNat q = 30) ↔ q = 30 := hq 30 (by omega)
  have l29 : (Int32.ofNat q < 29) ↔ q < 29 := z_lt (b := 29) (by omega) (by omega)
  by_cases hlt : q < 29
  · rw [if_pos (l29.mpr hlt)]
    unfold Sentence_isSo
    rw [z_ix hi (by omega), Option.bind_some, nm_eq, Option.bind_some, nm_eq, h1, h3]
    by_cases a24 : q = 24
    · rw [if_pos (n24.mpr a24), zC_owlAt hH hT hc, Option.bind_some]
      unfold zLf
      rw [if_pos a24]
      cases ho : zOwl σ (Int32.ofNat b) with
      | none => rfl
      | some o =>
        have h := (zOwl_lt ho).1
        rw [if_neg (show ¬ zN (some o) = -1 from z_nm1 (by omega))]
        rfl
    · rw [if_neg (fun e => a24 (n24.mp e))]
      by_cases a25 : q = 25
      · rw [if_pos (n25.mpr a25)]
        unfold zLf
        rw [if_neg a24, if_pos a25]
        cases ho : zSn σ b with
        | none => rfl
        | some k =>
          have h := zSn_le hc ho
          rw [if_neg (show ¬ zN (some k) = -1 from z_nm1 (by omega))]
          rfl
      · rw [if_neg (fun e => a25 (n25.mp e))]
        by_cases a26 : q = 26
        · rw [if_pos (n26.mpr a26)]
          unfold zLf zSn
          rw [if_neg a24, if_neg a25, if_pos a26]
          cases ho : zOwl σ (Int32.ofNat b) with
          | none =>
            rw [show State_sideFrom m 33 6 (Int32.ofNat b) (zN none) = some (-1) from rfl, Option.bind_some, if_neg (fun e => hx a26 e.symm)]
            rfl
          | some o =>
            have := zC_sideFrom (o := o) (a := 0) hH hT hc hb
            rw [zAdv_0] at this
            rw [this, Option.bind_some, z_ifb]
        · rw [if_neg (fun e => a26 (n26.mp e))]
          by_cases a27 : q = 27
          · rw [if_pos (n27.mpr a27), zC_owlAt hH hT hc, Option.bind_some, z_ifb]
            unfold zLf
            rw [if_neg a24, if_neg a25, if_neg a26, if_pos a27]
          · rw [if_neg (fun e => a27 (n27.mp e))]
            unfold zLf
            rw [if_neg a24, if_neg a25, if_neg a26, if_neg a27, if_pos (show q = 28 by omega)]
            cases hs : zSn σ b with
            | none => rfl
            | some k =>
              have h := zSn_le hc hs
              rw [if_neg (show ¬ zN (some k) = -1 from z_nm1 (by omega))]
              have hrow : zRow m 33 6 (zAdv σ 0) k := by
                unfold zSn at hs
                cases ho : zOwl σ (Int32.ofNat b) with
                | none => rw [ho] at hs; cases hs
                | some o =>
                  rw [ho] at hs
                  have hp := (zBest_lt hs).2
                  refine zC_rowOn (a := 0) hH hT hc h ?_
                  rw [zAdv_0]
                  unfold zHeard at hp
                  simp only [Bool.and_eq_true] at hp
                  exact hp.2.1
              obtain ⟨r, e, r0, -, -, -⟩ := hrow
              rw [zAdv_0] at r0
              rw [show zN (some k) = Int32.ofNat k from rfl, e, Option.bind_some, r0, z_ifb]
  · rw [if_neg (fun e => hlt (l29.mp e))]
    unfold Sentence_compares
    rw [z_ix hi (by omega), Option.bind_some, h1]
    unfold zLf
    rw [if_neg (show ¬ q = 24 by omega), if_neg (show ¬ q = 25 by omega), if_neg (show ¬ q = 26 by omega), if_neg (show ¬ q = 27 by omega), if_neg (show ¬ q = 28 by omega)]
    by_cases a29 : q = 29
    · rw [if_pos (n29.mpr a29), if_pos a29, z_ix (show b < 6 by omega) (by omega), Option.bind_some, nm_eq, (hU.2 b hb).1, zC_cmp hi h2 h3]
    · rw [if_neg (fun e => a29 (n29.mp e)), if_neg a29, Option.bind_some, h1]
      by_cases a30 : q = 30
      · rw [if_pos (n30.mpr a30), if_pos a30, z_ix (show b < 6 by omega) (by omega), Option.bind_some, nm_eq, (hU.2 b hb).2, zC_cmp hi h2 h3]
      · rw [if_neg (fun e => a30 (n30.mp e)), if_neg a30, zC_cmp hi h2 h3]
theorem zM_cmp {p0 p1 v : Int32} : M_isLeaf_b176 m p0 p1 s x v = some (zb (zCmp v s x)) := by
  unfold M_isLeaf_b176 zCmp
  by_cases a : s = 60
  · rw [if_pos a, if_pos a, z_ifb]
  · rw [if_neg a, if_neg a]
    by_cases c : s = 61
    · rw [if_pos c, if_pos c, z_ifb]
    · rw [if_neg c, if_neg c, z_ifb]
theorem zM_leaf (hm : ∀ j, j < 121 → m.1 2 j = σ j) (hc : zCt σ) (hb : b < zB σ) (q1 : 24 ≤ q) (q2 : q ≤ 31) : M_isLeaf m (Int32.ofNat b) (Int32.ofNat (q - 24)) s x = some (zb (zLf σ b q s x)) := by
  have o6 := hc.2.1.2
  have b6 := hc.1.2
  have c8 := hc.2.2.2
  have hm2 : ∀ j, j < 109 → m.1 2 j = σ j := fun j hj => hm j (by omega)
  have hq : ∀ v : Nat, v < 100 → (Int32.ofNat (q - 24) = Int32.ofNat v ↔ q - 24 = v) := fun v hv => z_eq (by omega) (by omega)
  have n0 : (Int32.ofNat (q - 24) = 0) ↔ q - 24 = 0 := hq 0 (by omega)
  have n1 : (Int32.ofNat (q - 24) = 1) ↔ q - 24 = 1 := hq 1 (by omega)
  have n2 : (Int32.ofNat (q - 24) = 2) ↔ q - 24 = 2 := hq 2 (by omega)
  have n3 : (Int32.ofNat (q - 24) = 3) ↔ q - 24 = 3 := hq 3 (by omega)
  have n4 : (Int32.ofNat (q - 24) = 4) ↔ q - 24 = 4 := hq 4 (by omega)
  have n5 : (Int32.ofNat (q - 24) = 5) ↔ q - 24 = 5 := hq 5 (by omega)
  have n6 : (Int32.ofNat (q - 24) = 6) ↔ q - 24 = 6 := hq 6 (by omega)
  have hmain : M_isLeaf m (Int32.ofNat b) (Int32.ofNat (q - 24)) s x = M_isLeaf_b23 m (Int32.ofNat b) (Int32.ofNat (q - 24)) s x (zN (zOwl σ (Int32.ofNat b))) (zN (zSn σ b)) := by
    unfold M_isLeaf
    rw [zM_owl hm2 hc, Option.bind_some]
    unfold zSn
    cases ho : zOwl σ (Int32.ofNat b) with
    | none => rw [if_pos (show zN none < 0 by decide)]; rfl
    | some o =>
      have h := (zOwl_lt ho).1
      rw [if_neg (show ¬ zN (some o) < 0 from z_nn (by omega)), show zN (some o) = Int32.ofNat o from rfl, zM_seen hm2 hc (by omega) (by omega), Option.bind_some]
  rw [hmain]
  unfold M_isLeaf_b23 zLf
  by_cases a0 : q = 24
  · rw [if_pos (n0.mpr (by omega)), if_pos a0]
    cases ho : zOwl σ (Int32.ofNat b) with
    | none => rfl
    | some o =>
      have h := (zOwl_lt ho).1
      rw [if_neg (show ¬ zN (some o) < 0 from z_nn (by omega))]
      rfl
  · rw [if_neg (fun e => a0 (by have := n0.mp e; omega)), if_neg a0]
    by_cases a1 : q = 25
    · rw [if_pos (n1.mpr (by omega)), if_pos a1]
      cases hs : zSn σ b with
      | none => rfl
      | some k =>
        have h := zSn_le hc hs
        rw [if_neg (show ¬ zN (some k) < 0 from z_nn (by omega))]
        rfl
    · rw [if_neg (fun e => a1 (by have := n1.mp e; omega)), if_neg a1]
      by_cases a2 : q = 26
      · rw [if_pos (n2.mpr (by omega)), if_pos a2]
        cases ho : zOwl σ (Int32.ofNat b) with
        | none => rfl
        | some o =>
          have h := (zOwl_lt ho).1
          rw [if_neg (show ¬ zN (some o) < 0 from z_nn (by omega)), show zN (some o) = Int32.ofNat o from rfl, zM_look hm2 hc (by omega) (by omega), Option.bind_some, z_ifb]
      · rw [if_neg (fun e => a2 (by have := n2.mp e; omega)), if_neg a2]
        by_cases a3 : q = 27
        · rw [if_pos (n3.mpr (by omega)), if_pos a3, z_ifb]
        · rw [if_neg (fun e => a3 (by have := n3.mp e; omega)), if_neg a3]
          by_cases a4 : q = 28
          · rw [if_pos (n4.mpr (by omega)), if_pos a4]
            cases hs : zSn σ b with
            | none => rfl
            | some k =>
              have h := zSn_le hc hs
              rw [if_neg (show ¬ zN (some k) < 0 from z_nn (by omega)), show zN (some k) = Int32.ofNat k from rfl, zM_kindOf hm2 hc h, Option.bind_some, z_ifb]
          · rw [if_neg (fun e => a4 (by have := n4.mp e; omega)), if_neg a4]
            by_cases a5 : q = 29
            · rw [if_pos (n5.mpr (by omega)), if_pos a5, zi_109 (by omega), Option.bind_some, zM_cmp, hm (109 + b) (by omega)]
            · rw [if_neg (fun e => a5 (by have := n5.mp e; omega)), if_neg a5]
              by_cases a6 : q = 30
              · rw [if_pos (n6.mpr (by omega)), if_pos a6, zi_115 (by omega), Option.bind_some, zM_cmp, hm (115 + b) (by omega)]
              · rw [if_neg (fun e => a6 (by have := n6.mp e; omega)), if_neg a6, zM_cmp]
end ZSD
