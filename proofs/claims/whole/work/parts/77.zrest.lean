/-! Layer 2. best: the model's rests -/
def zMxI (f : Nat → Int) (p : Nat → Bool) : Nat → Int
  | 0 => -1000000
  | n + 1 => if p n then max (zMxI f p n) (f n) else zMxI f p n
/-- the most that is left to gain, so many owls left -/
def zRs (w : Nat → Nat → Nat) (O B : Nat) : Nat → Nat → Int
  | 0, _ => 0
  | k + 1, u => zMxI (fun b => (w (O - (k + 1)) b : Int) + zRs w O B k (u ||| 2 ^ b)) (fun b => !u.testBit b) B
theorem zMxI_b {f : Nat → Int} {p : Nat → Bool} {M : Int} (hM : -1000000 ≤ M) (hf : ∀ b, f b ≤ M) : ∀ n, -1000000 ≤ zMxI f p n ∧ zMxI f p n ≤ M := by
  intro n
  induction n with
  | zero => exact ⟨Int.le_refl _, hM⟩
  | succ n ih =>
    rw [zMxI]
    have := hf n
    split <;> omega
theorem zRs_b {w : Nat → Nat → Nat} {O B : Nat} (hw : ∀ o b, w o b ≤ 24) : ∀ k u, -1000000 ≤ zRs w O B k u ∧ zRs w O B k u ≤ 24 * (k : Int) := by
  intro k
  induction k with
  | zero => intro u; exact ⟨by show (-1000000 : Int) ≤ 0; omega, by show (0 : Int) ≤ 24 * ((0 : Nat) : Int); omega⟩
  | succ k ih =>
    intro u
    rw [zRs]
    refine zMxI_b (by omega) (fun b => ?_) B
    have h1 := (ih (u ||| 2 ^ b)).2
    have h2 := hw (O - (k + 1)) b
    show (w (O - (k + 1)) b : Int) + zRs w O B k (u ||| 2 ^ b) ≤ _
    omega
theorem zWt_le {σ : zR} {o b : Nat} : zWt σ o b 24 ≤ 24 := zCnt_le
/-- a row of rests for so many owls left is as it should be -/
def zRr (w : Nat → Nat → Nat) (O B : Nat) (m : xMem) (k : Nat) : Prop := ∀ u, u < 64 → (m.1 12 (64 * (O - k) + u)).toInt = zRs w O B k u
