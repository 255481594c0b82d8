/-! Layer 2. best: the model's walk -/
def zGu (w : Nat → Nat → Nat) (O B : Nat) : Nat → Nat
  | 0 => 0
  | i + 1 => match zPick w O B i (zGu w O B i) with
    | some b => zGu w O B i ||| 2 ^ b
    | none => zGu w O B i
def zGb (w : Nat → Nat → Nat) (O B i : Nat) : Nat := (zPick w O B i (zGu w O B i)).getD 0
theorem zGu_ok {w : Nat → Nat → Nat} {O B : Nat} (hw : ∀ o b, w o b ≤ 24) (hOB : O ≤ B) (hB : B ≤ 6) : ∀ i, i ≤ O → zGu w O B i < 64 ∧ zCnt (fun b => (zGu w O B i).testBit b) B = i := by
  intro i
  induction i with
  | zero =>
    intro _
    refine ⟨by show (0 : Nat) < 64; omega, ?_⟩
    have : ∀ n, zCnt (fun b => (0 : Nat).testBit b) n = 0 := by
      intro n
      induction n with
      | zero => rfl
      | succ n ih => rw [zCnt, Nat.zero_testBit, if_neg (by decide)]; exact ih
    exact this B
  | succ i ih =>
    intro hi
    obtain ⟨h1, h2⟩ := ih (by omega)
    obtain ⟨b, hb⟩ := zPick_ex (w := w) (O := O) (B := B) (i := i) (u := zGu w O B i) hw (by omega) (by omega)
    have hs := zFst_some (p := fun b => !(zGu w O B i).testBit b && decide ((w i b : Int) + zRs w O B (O - (i + 1)) (zGu w O B i ||| 2 ^ b) = zRs w O B (O - i) (zGu w O B i))) (n := B) hb
    have e : zGu w O B (i + 1) = zGu w O B i ||| 2 ^ b := by rw [zGu, hb]
    have hbit : (zGu w O B i).testBit b = false := by
      have := hs.2.1
      simp only [Bool.and_eq_true, Bool.not_eq_true'] at this
      exact this.1
    rw [e]
    refine ⟨Nat.or_lt_two_pow (n := 6) h1 (Nat.pow_lt_pow_right (by omega) (by have := hs.1; omega)), ?_⟩
    rw [zCnt_add hbit, h2, if_pos hs.1]
theorem zM_pick {m : xMem} {w : Nat → Nat → Nat} {O B o u b0 : Nat} {k145 : Int32 → Int32 → xMem → Option (Int32 × xMem)} (hw : ∀ o b, w o b ≤ 24) (hO : O ≤ 6) (hB : B ≤ 6) (ho : o < O) (hu : u < 64) (h11 : ∀ b, b < B → m.1 11 (6 * o + b) = Int32.ofNat (w o b)) (hr : ∀ k, k ≤ O → zRr w O B m k) (hp : zPick w O B o u = some b0) : M_best_b155 k145 1000 (Int32.ofNat u) (Int32.ofNat o) 0 m = k145 (Int32.ofNat (u ||| 2 ^ b0)) (Int32.ofNat (o + 1)) (upI m 13 o (Int32.ofNat b0)) := by
  obtain ⟨p1, p2, p3⟩ := zFst_some (p := fun b => !u.testBit b && decide ((w o b : Int) + zRs w O B (O - (o + 1)) (u ||| 2 ^ b) = zRs w O B (O - o) u)) (n := B) hp
  have hbit : ∀ b, b < 32 → decide ((i_shr (Int32.ofNat u) (Int32.ofNat b)) &&& 1 = 1) = u.testBit b := fun b hb => by
    have := z_bit1 (x := Int32.ofNat u) (k := b) hb
    rw [tb_nat hb] at this
    by_cases h : u.testBit b = true
    · rw [decide_eq_true (this.mpr h), h]
    · rw [decide_eq_false (fun e => h (this.mp e)), Bool.eq_false_iff.mpr h]
  have hrow : (m.1 12 (64 * o + u)).toInt = zRs w O B (O - o) u := by
    have := hr (O - o) (by omega) u hu
    rw [show O - (O - o) = o by omega] at this
    exact this
  refine z_loop (fun f b => M_best_b155 k145 f (Int32.ofNat u) (Int32.ofNat o) (Int32.ofNat b) m) b0 _ (fun f b hb => ?_) (fun f => ?_) b0 0 1000 (by omega) (by omega)
  · rw [M_best_b155, zM_bit, Option.bind_some, hbit b (by omega), z_s]
    have hpb := p3 b hb
    cases ht : u.testBit b with
    | true => rw [if_neg (show ¬ zb true = 0 by decide), z_s]
    | false =>
      obtain ⟨v, ev, tv⟩ := zM_restBy hw hO hB ho (show b < B by omega) hu (h11 b (by omega)) (hr _ (by omega))
      have hne : ¬ v = m.1 12 (64 * o + u) := fun e => by
        have h1 : (!u.testBit b) = true := by rw [ht]; rfl
        have h2 : (w o b : Int) + zRs w O B (O - (o + 1)) (u ||| 2 ^ b) = zRs w O B (O - o) u := by rw [← tv, e, hrow]
        have hpb' : (!u.testBit b && decide ((w o b : Int) + zRs w O B (O - (o + 1)) (u ||| 2 ^ b) = zRs w O B (O - o) u)) = false := hpb
        rw [h1, decide_eq_true h2] at hpb'
        cases hpb'
      rw [if_pos (show zb false = 0 from rfl), ev, Option.bind_some, show (64 * Int32.ofNat o : Int32) = Int32.ofNat (64 * o) from z_mul 64 o, z_add, z_ix (show 64 * o + u < 448 by omega) (by omega), Option.bind_some, if_neg hne, z_s]
  · obtain ⟨v, ev, tv⟩ := zM_restBy hw hO hB ho p1 hu (h11 b0 p1) (hr _ (by omega))
    have p2' : (!u.testBit b0 && decide ((w o b0 : Int) + zRs w O B (O - (o + 1)) (u ||| 2 ^ b0) = zRs w O B (O - o) u)) = true := p2
    rw [Bool.and_eq_true, decide_eq_true_eq, Bool.not_eq_true'] at p2'
    have hyes : v = m.1 12 (64 * o + u) := Int32.toInt.inj (by rw [tv, hrow]; exact p2'.2)
    rw [M_best_b155, zM_bit, Option.bind_some, hbit b0 (by omega), p2'.1, if_pos (show zb false = 0 from rfl), ev, Option.bind_some, show (64 * Int32.ofNat o : Int32) = Int32.ofNat (64 * o) from z_mul 64 o, z_add, z_ix (show 64 * o + u < 448 by omega) (by omega), Option.bind_some, if_pos hyes, z_ix (show o < 6 by omega) (by omega), Option.bind_some, nm_eq, nm_eq, z_orS (by omega), z_s]
