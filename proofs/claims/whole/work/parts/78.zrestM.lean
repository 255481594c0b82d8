/-! Layer 2. best: a row of the model's rests -/
theorem zM_restBy {m : xMem} {w : Nat → Nat → Nat} {O B o b u : Nat} (hw : ∀ o b, w o b ≤ 24) (hO : O ≤ 6) (hB : B ≤ 6) (ho : o < O) (hb : b < B) (hu : u < 64) (h11 : m.1 11 (6 * o + b) = Int32.ofNat (w o b)) (hr : zRr w O B m (O - (o + 1))) : ∃ v, M_restBy m (Int32.ofNat o) (Int32.ofNat u) (Int32.ofNat b) = some v ∧ v.toInt = (w o b : Int) + zRs w O B (O - (o + 1)) (u ||| 2 ^ b) := by
  have hor : u ||| 2 ^ b < 64 := Nat.or_lt_two_pow (n := 6) hu (Nat.pow_lt_pow_right (by omega) (by omega))
  unfold M_restBy
  rw [show (6 * Int32.ofNat o : Int32) = Int32.ofNat (6 * o) from z_mul 6 o, z_add, z_ix (show 6 * o + b < 36 by omega) (by omega), Option.bind_some, z_s, show (64 * Int32.ofNat (o + 1) : Int32) = Int32.ofNat (64 * (o + 1)) from z_mul 64 (o + 1), z_orS (by omega), z_add, z_ix (show 64 * (o + 1) + (u ||| 2 ^ b) < 448 by omega) (by omega), Option.bind_some, h11]
  refine ⟨_, rfl, ?_⟩
  have h1 := hr _ hor
  rw [show O - (O - (o + 1)) = o + 1 by omega] at h1
  have h2 := zRs_b (O := O) (B := B) hw (O - (o + 1)) (u ||| 2 ^ b)
  have h3 := hw o b
  have h4 : (Int32.ofNat (w o b)).toInt = (w o b : Int) := z_toInt (by omega)
  rw [z_addI (by rw [h4, h1]; omega) (by rw [h4, h1]; omega), h4, h1]
theorem zM_restRow {m : xMem} {w : Nat → Nat → Nat} {O B o u : Nat} {k49 : Int32 → xMem → Option (Int32 × xMem)} {k55 : Int32 → Int32 → xMem → Option (Int32 × xMem)} {R : Option (Int32 × xMem) → Prop} (hw : ∀ o b, w o b ≤ 24) (h0 : m.1 2 0 = Int32.ofNat B) (hO : O ≤ 6) (hB : B ≤ 6) (ho : o < O) (hu : u < 64) (h11 : ∀ b, b < B → m.1 11 (6 * o + b) = Int32.ofNat (w o b)) (hr : zRr w O B m (O - (o + 1))) (hk : ∀ v : Int32, v.toInt = zRs w O B (O - o) u → R (k55 (Int32.ofNat o) (Int32.ofNat (u + 1)) (upI m 12 (64 * o + u) v))) : R (M_best_b68 k49 k55 1000 (Int32.ofNat o) (Int32.ofNat u) (-1000000) 0 m) := by
  have hrs : zRs w O B (O - o) u = zMxI (fun b => (w o b : Int) + zRs w O B (O - (o + 1)) (u ||| 2 ^ b)) (fun b => !u.testBit b) B := by
    have e : O - o = O - (o + 1) + 1 := by omega
    rw [e, zRs, show O - (O - (o + 1) + 1) = o by omega]
  rw [hrs] at hk
  refine z_loopX (fun f b (acc : Int32) => M_best_b68 k49 k55 f (Int32.ofNat o) (Int32.ofNat u) acc (Int32.ofNat b) m) B (fun b acc => acc.toInt = zMxI (fun b => (w o b : Int) + zRs w O B (O - (o + 1)) (u ||| 2 ^ b)) (fun b => !u.testBit b) b) R (fun f b acc hb hI => ?_) (fun f acc hI => ?_) B 0 1000 (-1000000) (by omega) (by omega) (show (-1000000 : Int32).toInt = (-1000000 : Int) by decide)
  · right
    obtain ⟨v, ev, tv⟩ := zM_restBy hw hO hB ho hb hu (h11 b hb) hr
    rw [M_best_b68, h0, if_pos ((z_lt (by omega) (by omega)).mpr hb), zM_bit, Option.bind_some, z_s]
    have hbit : decide ((i_shr (Int32.ofNat u) (Int32.ofNat b)) &&& 1 = 1) = u.testBit b := by
      have := z_bit1 (x := Int32.ofNat u) (k := b) (by omega)
      rw [tb_nat (by omega)] at this
      by_cases h : u.testBit b = true
      · rw [decide_eq_true (this.mpr h), h]
      · rw [decide_eq_false (fun e => h (this.mp e)), Bool.eq_false_iff.mpr h]
    rw [hbit]
    cases ht : u.testBit b with
    | true =>
      rw [if_neg (show ¬ zb true = 0 by decide)]
      refine ⟨acc, ?_, rfl⟩
      rw [zMxI, ht]
      exact hI
    | false =>
      rw [if_pos (show zb false = 0 from rfl), ev, Option.bind_some]
      unfold M_greater
      by_cases hlt : v < acc
      · rw [if_pos hlt, Option.bind_some]
        refine ⟨acc, ?_, rfl⟩
        rw [Int32.lt_iff_toInt_lt] at hlt
        rw [zMxI, ht, if_pos (show (!false) = true from rfl)]
        omega
      · rw [if_neg hlt, Option.bind_some]
        refine ⟨v, ?_, rfl⟩
        rw [Int32.lt_iff_toInt_lt] at hlt
        rw [zMxI, ht, if_pos (show (!false) = true from rfl)]
        omega
  · rw [M_best_b68, h0, if_neg (fun q => Nat.lt_irrefl _ ((z_lt (by omega) (by omega)).mp q)), show (64 * Int32.ofNat o : Int32) = Int32.ofNat (64 * o) from z_mul 64 o, z_add, z_ix (show 64 * o + u < 448 by omega) (by omega), Option.bind_some, nm_eq, z_s]
    exact hk acc hI
