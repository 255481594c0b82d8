/-! Layer 2. best: the class's walk through the beds -/
theorem zFst_of {p : Nat → Bool} {n b : Nat} (h1 : b < n) (h2 : p b = true) (h3 : ∀ k, k < b → p k = false) : zFst p n = some b := by
  cases h : zFst p n with
  | none =>
    have := zFst_none.mp h b h1
    rw [h2] at this
    cases this
  | some c =>
    obtain ⟨c1, c2, c3⟩ := zFst_some h
    by_cases e : c = b
    · rw [e]
    · by_cases e2 : c < b
      · have := h3 c e2
        rw [c2] at this
        cases this
      · have := c3 b (by omega)
        rw [h2] at this
        cases this
theorem zMxI_ge {f : Nat → Int} {p : Nat → Bool} {b : Nat} (hp : p b = true) : ∀ n, b < n → f b ≤ zMxI f p n := by
  intro n
  induction n with
  | zero => intro h; omega
  | succ n ih =>
    intro h
    rw [zMxI]
    by_cases e : b = n
    · subst e
      rw [if_pos hp]
      omega
    · have := ih (by omega)
      split <;> omega
/-- the beds of the owls that are left, as the walk chooses them -/
def zWk (w : Nat → Nat → Nat) (O B : Nat) : Nat → Nat → Nat → Nat
  | 0, _, _ => 0
  | k + 1, u, 0 => (zPick w O B (O - (k + 1)) u).getD 0
  | k + 1, u, q + 1 => zWk w O B k (u ||| 2 ^ ((zPick w O B (O - (k + 1)) u).getD 0)) q
def zCf (m m' : xMem) (o : Nat) : Prop := (∀ c, c ≠ 170 → c ≠ 178 → c ≠ 179 → m'.1 c = m.1 c) ∧ (∀ j, j ≠ 4 → m'.1 170 j = m.1 170 j) ∧ m'.2 = m.2 ∧ ∀ q, q < o → m'.1 178 q = m.1 178 q
/-- the best so far behind a part of the walk: a total T by the beds W, or what was -/
def zCo (m m' : xMem) (o k : Nat) (T : Int) (W : Nat → Nat) : Prop := ((m.1 170 4).toInt < T ∧ (m'.1 170 4).toInt = T ∧ (∀ q, q < o → m'.1 179 q = m.1 178 q) ∧ ∀ q, q < k → m'.1 179 (o + q) = Int32.ofNat (W q)) ∨ (T ≤ (m.1 170 4).toInt ∧ m'.1 170 4 = m.1 170 4 ∧ m'.1 179 = m.1 179)
theorem zCf_rf {m : xMem} {o : Nat} : zCf m m o := ⟨fun _ _ _ _ => rfl, fun _ _ => rfl, rfl, fun _ _ => rfl⟩
theorem zC_leafB {fr : xMem → Nat → Int32 → Int32 → Int32 → Option xMem} {m : xMem} {p O : Nat} {p1 p2 : Int32} {W : Nat → Nat} (hO : O ≤ 6) (hp : p ≤ 144) : ∃ m', Best_choose_b14 fr 6 p1 p2 (Int32.ofNat p) m = some m' ∧ zCf m m' O ∧ zCo m m' O 0 (p : Int) W := by
  unfold Best_choose_b14
  have hlt : m.1 170 4 < Int32.ofNat p ↔ (m.1 170 4).toInt < (p : Int) := by
    rw [Int32.lt_iff_toInt_lt, z_toInt (by omega)]
  by_cases h : (m.1 170 4).toInt < (p : Int)
  · rw [if_pos (hlt.mpr h), nm_eq, nm_eq]
    refine ⟨_, rfl, ⟨fun c c1 c2 c3 => ?_, fun j hj => ?_, rfl, fun q hq => ?_⟩, Or.inl ⟨h, ?_, fun q hq => ?_, fun q hq => by omega⟩⟩
    · rw [upR_ne' c3, upI_ne' c1]
    · rw [upR_ne' (by omega), upI_nj hj]
    · rw [upR_ne' (by omega), upI_ne' (by omega)]
    · rw [upR_ne' (by omega), upI_at, z_toInt (by omega)]
    · rw [upR_at', xcpy, if_pos (by omega), upI_ne' (by omega)]
  · rw [if_neg (fun q => h (hlt.mp q))]
    exact ⟨_, rfl, zCf_rf, Or.inr ⟨by omega, rfl, rfl⟩⟩
/-- what holds in the loop over the beds -/
def zCi (w : Nat → Nat → Nat) (O B k u : Nat) (p : Nat) (m m' : xMem) (j : Nat) : Prop :=
  zCf m m' (O - (k + 1)) ∧
  (((m.1 170 4).toInt < p + zMxI (fun b => (w (O - (k + 1)) b : Int) + zRs w O B k (u ||| 2 ^ b)) (fun b => !u.testBit b) j ∧ (m'.1 170 4).toInt = p + zMxI (fun b => (w (O - (k + 1)) b : Int) + zRs w O B k (u ||| 2 ^ b)) (fun b => !u.testBit b) j ∧ (∀ q, q < O - (k + 1) → m'.1 179 q = m.1 178 q) ∧ ∃ b, b < j ∧ u.testBit b = false ∧ (w (O - (k + 1)) b : Int) + zRs w O B k (u ||| 2 ^ b) = zMxI (fun b => (w (O - (k + 1)) b : Int) + zRs w O B k (u ||| 2 ^ b)) (fun b => !u.testBit b) j ∧ (∀ b', b' < b → u.testBit b' = false → (w (O - (k + 1)) b' : Int) + zRs w O B k (u ||| 2 ^ b') ≠ zMxI (fun b => (w (O - (k + 1)) b : Int) + zRs w O B k (u ||| 2 ^ b)) (fun b => !u.testBit b) j) ∧ m'.1 179 (O - (k + 1)) = Int32.ofNat b ∧ ∀ q, q < k → m'.1 179 (O - (k + 1) + 1 + q) = Int32.ofNat (zWk w O B k (u ||| 2 ^ b) q))
   ∨ (p + zMxI (fun b => (w (O - (k + 1)) b : Int) + zRs w O B k (u ||| 2 ^ b)) (fun b => !u.testBit b) j ≤ (m.1 170 4).toInt ∧ m'.1 170 4 = m.1 170 4 ∧ m'.1 179 = m.1 179))
theorem zC_choose {w : Nat → Nat → Nat} {O B : Nat} (hw : ∀ o b, w o b ≤ 24) (hO : O ≤ 6) (hB : B ≤ 6) : ∀ k, k ≤ O → ∀ d m u p, k < d → u < 64 → p ≤ 24 * (O - k) → -1 ≤ (m.1 170 4).toInt → m.1 6 7 = Int32.ofNat O → m.1 6 6 = Int32.ofNat B → (∀ o b, o < O → b < B → m.1 (172 + o) b = Int32.ofNat (w o b)) → ∃ m', Best_choose d m 6 (Int32.ofNat (O - k)) (Int32.ofNat u) (Int32.ofNat p) = some m' ∧ zCf m m' (O - k) ∧ zCo m m' (O - k) k (p + zRs w O B k u) (zWk w O B k u) := by
  intro k
  induction k with
  | zero =>
    intro _ d m u p hd hu hp hb h7 h6 hr
    obtain ⟨d, rfl⟩ : ∃ e, d = e + 1 := ⟨d - 1, by omega⟩
    rw [Best_choose]
    unfold Best_choose_body
    rw [h7, if_neg (fun q => by have := (z_lt (by omega) (by omega)).mp q; omega), zRs, Nat.sub_zero, Int.add_zero]
    exact zC_leafB hO (by omega)
  | succ k ih =>
    intro hk d m u p hd hu hp hb h7 h6 hr
    obtain ⟨d, rfl⟩ : ∃ e, d = e + 1 := ⟨d - 1, by omega⟩
    have ho : O - (k + 1) < O := by omega
    have eo : O - (k + 1) + 1 = O - k := by omega
    rw [Best_choose]
    unfold Best_choose_body
    rw [h7, if_pos ((z_lt (by omega) (by omega)).mpr ho), if_pos (show Int32.ofNat (O - (k + 1)) < 6 from (z_lt (b := 6) (by omega) (by omega)).mpr (by omega))]
    have key : ∃ m', Best_choose_b48 (Best_choose d) 6 (Int32.ofNat (O - (k + 1))) (Int32.ofNat u) (Int32.ofNat p) 1000 (Int32.ofNat 0) m = some m' ∧ zCi w O B k u p m m' B := by
      refine z_loopX (fun f j m' => Best_choose_b48 (Best_choose d) 6 (Int32.ofNat (O - (k + 1))) (Int32.ofNat u) (Int32.ofNat p) f (Int32.ofNat j) m') B (fun j m' => zCi w O B k u p m m' j) (fun r => ∃ m', r = some m' ∧ zCi w O B k u p m m' B) (fun f j m1 hj hI => ?_) (fun f m1 hI => ?_) B 0 1000 m (by omega) (by omega) ⟨zCf_rf, Or.inr ⟨by rw [zMxI]; omega, rfl, rfl⟩⟩
      · right
        obtain ⟨⟨f1, f2, f3, f4⟩, hI⟩ := hI
        rw [Best_choose_b48, f1 6 (by omega) (by omega) (by omega), h6, if_pos ((z_lt (by omega) (by omega)).mpr hj)]
        have hbit := z_bit0 (x := Int32.ofNat u) (k := j) (by omega)
        rw [tb_nat (by omega)] at hbit
        cases ht : u.testBit j with
        | true =>
          rw [if_neg (fun e => by have := hbit.mp e; rw [ht] at this; cases this), z_s]
          refine ⟨m1, ⟨⟨f1, f2, f3, f4⟩, ?_⟩, rfl⟩
          rw [zMxI, ht, if_neg (by decide)]
          rcases hI with ⟨a1, a2, a3, b, a4, a5⟩ | hI
          · exact Or.inl ⟨a1, a2, a3, b, by omega, a5⟩
          · exact Or.inr hI
        | false =>
          rw [if_pos (hbit.mpr ht), z_ix (show O - (k + 1) < 6 by omega) (by omega), Option.bind_some, nm_eq, Option.bind_some, z_ix (show j < 6 by omega) (by omega), Option.bind_some, upI_ne' (show 172 + (O - (k + 1)) ≠ 178 by omega), f1 (172 + (O - (k + 1))) (by omega) (by omega) (by omega), hr _ _ ho hj, z_orS (by omega), z_add, z_s, z_s, eo]
          have hwj := hw (O - (k + 1)) j
          have hcur : -1 ≤ (m1.1 170 4).toInt := by
            rcases hI with ⟨a1, a2, _⟩ | ⟨a1, a2, _⟩
            · omega
            · rw [a2]; omega
          have e170 : (upI m1 178 (O - (k + 1)) (Int32.ofNat j)).1 170 = m1.1 170 := upI_ne' (by omega)
          obtain ⟨m2, e2, ⟨g1, g2, g3, g4⟩, hCo⟩ := ih (by omega) d (upI m1 178 (O - (k + 1)) (Int32.ofNat j)) (u ||| 2 ^ j) (p + w (O - (k + 1)) j) (by omega) (Nat.or_lt_two_pow (n := 6) hu (Nat.pow_lt_pow_right (by omega) (by omega))) (by omega) (by rw [e170]; exact hcur) (by rw [upI_ne' (by omega), f1 6 (by omega) (by omega) (by omega)]; exact h7) (by rw [upI_ne' (by omega), f1 6 (by omega) (by omega) (by omega)]; exact h6) (fun o b h1 h2 => by rw [upI_ne' (by omega), f1 (172 + o) (by omega) (by omega) (by omega)]; exact hr o b h1 h2)
          rw [e2, Option.bind_some]
          refine ⟨m2, ⟨⟨fun c c1 c2 c3 => by rw [g1 c c1 c2 c3, upI_ne' c2, f1 c c1 c2 c3], fun i hi => by rw [g2 i hi, e170, f2 i hi], by rw [g3]; exact f3, fun q hq => by rw [g4 q (by omega), upI_nj (by omega), f4 q hq]⟩, ?_⟩, rfl⟩
          have hge : ∀ b, b < j → u.testBit b = false → (w (O - (k + 1)) b : Int) + zRs w O B k (u ||| 2 ^ b) ≤ zMxI (fun b => (w (O - (k + 1)) b : Int) + zRs w O B k (u ||| 2 ^ b)) (fun b => !u.testBit b) j := fun b h1 h2 => zMxI_ge (f := fun b => (w (O - (k + 1)) b : Int) + zRs w O B k (u ||| 2 ^ b)) (p := fun b => !u.testBit b) (by show (!u.testBit b) = true; rw [h2]; rfl) j h1
          rw [zMxI, if_pos (show (!u.testBit j) = true by rw [ht]; rfl)]
          generalize zMxI (fun b => (w (O - (k + 1)) b : Int) + zRs w O B k (u ||| 2 ^ b)) (fun b => !u.testBit b) j = X at hI hge ⊢
          rcases hCo with ⟨c1, c2, c3, c4⟩ | ⟨c1, c2, c3⟩
          · left
            rw [e170] at c1
            have hX : X < (w (O - (k + 1)) j : Int) + zRs w O B k (u ||| 2 ^ j) := by
              rcases hI with ⟨a1, a2, _⟩ | ⟨a1, a2, _⟩
              · omega
              · rw [a2] at c1; omega
            rw [show max X ((w (O - (k + 1)) j : Int) + zRs w O B k (u ||| 2 ^ j)) = (w (O - (k + 1)) j : Int) + zRs w O B k (u ||| 2 ^ j) from by omega]
            refine ⟨?_, by rw [c2]; omega, fun q hq => ?_, j, by omega, ht, rfl, fun b' h1 h2 => ?_, ?_, fun q hq => ?_⟩
            · rcases hI with ⟨a1, a2, _⟩ | ⟨a1, a2, _⟩
              · omega
              · rw [a2] at c1; omega
            · rw [c3 q (by omega), upI_nj (by omega), f4 q hq]
            · have := hge b' h1 h2
              omega
            · rw [c3 (O - (k + 1)) (by omega), upI_at]
            · rw [eo]
              exact c4 q hq
          · rw [e170] at c1 c2
            rw [show (upI m1 178 (O - (k + 1)) (Int32.ofNat j)).1 179 = m1.1 179 from upI_ne' (by omega)] at c3
            rw [c2, c3]
            rcases hI with ⟨a1, a2, a3, b, a4, a5, a6, a7⟩ | ⟨a1, a2, a3⟩
            · left
              rw [show max X ((w (O - (k + 1)) j : Int) + zRs w O B k (u ||| 2 ^ j)) = X from by omega]
              exact ⟨a1, a2, a3, b, by omega, a5, a6, a7⟩
            · right
              rw [a2] at c1
              exact ⟨by omega, a2, a3⟩
      · obtain ⟨⟨f1, f2, f3, f4⟩, hI⟩ := hI
        rw [Best_choose_b48, f1 6 (by omega) (by omega) (by omega), h6, if_neg (fun q => Nat.lt_irrefl _ ((z_lt (by omega) (by omega)).mp q))]
        exact ⟨m1, rfl, ⟨f1, f2, f3, f4⟩, hI⟩
    obtain ⟨m', e, hF, hI⟩ := key
    refine ⟨m', e, hF, ?_⟩
    rcases hI with ⟨a1, a2, a3, b, a4, a5, a6, a7, a8, a9⟩ | hI
    · left
      refine ⟨a1, a2, a3, ?_⟩
      have hpk : zPick w O B (O - (k + 1)) u = some b := by
        refine zFst_of a4 ?_ (fun b' h1 => ?_)
        · rw [a5, show O - (O - (k + 1) + 1) = k by omega, show O - (O - (k + 1)) = k + 1 by omega, decide_eq_true (by rw [zRs]; exact a6)]
          rfl
        · cases ht : u.testBit b' with
          | true => rfl
          | false =>
            rw [show O - (O - (k + 1) + 1) = k by omega, show O - (O - (k + 1)) = k + 1 by omega, decide_eq_false (by rw [zRs]; exact a7 b' h1 ht)]
            rfl
      intro q hq
      cases q with
      | zero => rw [zWk, hpk]; exact a8
      | succ q =>
        rw [zWk, hpk, show O - (k + 1) + (q + 1) = O - (k + 1) + 1 + q by omega]
        exact a9 q (by omega)
    · exact Or.inr hI
