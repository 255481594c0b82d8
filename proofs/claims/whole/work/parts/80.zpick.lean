/-! Layer 2. best: what is reached -/
theorem zMxI_reach {f : Nat → Int} {p : Nat → Bool} (hf : ∀ b, -1000000 ≤ f b) : ∀ n, (∃ b, b < n ∧ p b = true) → ∃ b, b < n ∧ p b = true ∧ f b = zMxI f p n := by
  intro n
  induction n with
  | zero => intro ⟨b, hb, _⟩; omega
  | succ n ih =>
    intro ⟨b, hb, hp⟩
    rw [zMxI]
    cases hpn : p n with
    | false =>
      have hbn : b ≠ n := fun e => by rw [e, hpn] at hp; cases hp
      obtain ⟨c, c1, c2, c3⟩ := ih ⟨b, by omega, hp⟩
      exact ⟨c, by omega, c2, by rw [if_neg (by decide)]; exact c3⟩
    | true =>
      rw [if_pos rfl]
      by_cases hlt : zMxI f p n ≤ f n
      · exact ⟨n, by omega, hpn, by omega⟩
      · by_cases he : ∃ b, b < n ∧ p b = true
        · obtain ⟨c, c1, c2, c3⟩ := ih he
          exact ⟨c, by omega, c2, by omega⟩
        · exfalso
          have h0 : ∀ k, k ≤ n → zMxI f p k = -1000000 := by
            intro k
            induction k with
            | zero => intro _; rfl
            | succ k ihk =>
              intro hk
              have hpk : p k = false := by
                cases hq : p k with
                | false => rfl
                | true => exact absurd ⟨k, by omega, hq⟩ he
              rw [zMxI, hpk, if_neg (by decide)]
              exact ihk (by omega)
          have := h0 n (by omega)
          have := hf n
          omega
theorem zCnt_free {P : Nat → Bool} : ∀ n, zCnt P n < n → ∃ b, b < n ∧ P b = false := by
  intro n
  induction n with
  | zero => intro h; omega
  | succ n ih =>
    intro h
    rw [zCnt] at h
    cases hp : P n with
    | false => exact ⟨n, by omega, hp⟩
    | true =>
      rw [hp, if_pos rfl] at h
      obtain ⟨b, b1, b2⟩ := ih (by omega)
      exact ⟨b, by omega, b2⟩
theorem zCnt_add {u b : Nat} (hb : u.testBit b = false) : ∀ n, zCnt (fun i => (u ||| 2 ^ b).testBit i) n = zCnt (fun i => u.testBit i) n + if b < n then 1 else 0 := by
  intro n
  induction n with
  | zero => rfl
  | succ n ih =>
    rw [zCnt, zCnt, ih, Nat.testBit_or, Nat.testBit_two_pow]
    by_cases h : b = n
    · subst h
      rw [hb, decide_eq_true rfl, if_neg (Nat.lt_irrefl _), if_pos (Nat.lt_succ_self _)]
      rfl
    · rw [decide_eq_false h, Bool.or_false]
      by_cases h2 : b < n
      · rw [if_pos h2, if_pos (show b < n + 1 by omega)]
        split <;> omega
      · rw [if_neg h2, if_neg (show ¬ b < n + 1 by omega)]
        split <;> omega
/-- the first free bed by which the most is reached -/
def zPick (w : Nat → Nat → Nat) (O B i u : Nat) : Option Nat := zFst (fun b => !u.testBit b && decide ((w i b : Int) + zRs w O B (O - (i + 1)) (u ||| 2 ^ b) = zRs w O B (O - i) u)) B
theorem zPick_ex {w : Nat → Nat → Nat} {O B i u : Nat} (hw : ∀ o b, w o b ≤ 24) (hi : i < O) (hu : zCnt (fun b => u.testBit b) B < B) : ∃ b, zPick w O B i u = some b := by
  obtain ⟨b, b1, b2⟩ := zCnt_free B hu
  have hrs : zRs w O B (O - i) u = zMxI (fun b => (w i b : Int) + zRs w O B (O - (i + 1)) (u ||| 2 ^ b)) (fun b => !u.testBit b) B := by
    have e : O - i = O - (i + 1) + 1 := by omega
    rw [e, zRs, show O - (O - (i + 1) + 1) = i by omega]
  obtain ⟨c, c1, c2, c3⟩ := zMxI_reach (f := fun b => (w i b : Int) + zRs w O B (O - (i + 1)) (u ||| 2 ^ b)) (p := fun b => !u.testBit b) (fun b => by
    have := (zRs_b (O := O) (B := B) hw (O - (i + 1)) (u ||| 2 ^ b)).1
    show -1000000 ≤ (w i b : Int) + zRs w O B (O - (i + 1)) (u ||| 2 ^ b)
    omega) B ⟨b, b1, by rw [b2]; rfl⟩
  cases hq : zPick w O B i u with
  | some d => exact ⟨d, rfl⟩
  | none =>
    exfalso
    have := zFst_none.mp hq c c1
    have h3 : (w i c : Int) + zRs w O B (O - (i + 1)) (u ||| 2 ^ c) = zRs w O B (O - i) u := by rw [hrs]; exact c3
    have h4 : (!u.testBit c) = true := c2
    rw [h4, decide_eq_true h3] at this
    cases this
