/-! Layer 2. The kit: small numbers, indices, loops, sets of bits -/
abbrev nI32 (n : Nat) : Int32 := Int32.ofNat n
theorem z_toInt {a : Nat} (h : a < 2147483648) : (Int32.ofNat a).toInt = (a : Int) := Int32.toInt_ofNat_of_lt h
theorem z_cl {a : Nat} (h : a < 2147483648) : (Int32.ofNat a).toNatClampNeg = a := Int32.toNatClampNeg_ofNat_of_lt h
theorem z_lt {a b : Nat} (ha : a < 2147483648) (hb : b < 2147483648) : (Int32.ofNat a < Int32.ofNat b) ↔ a < b := by
  rw [Int32.lt_iff_toInt_lt, z_toInt ha, z_toInt hb]
  omega
theorem z_eq {a b : Nat} (ha : a < 2147483648) (hb : b < 2147483648) : (Int32.ofNat a = Int32.ofNat b) ↔ a = b := by
  constructor
  · intro h
    have := congrArg Int32.toInt h
    rw [z_toInt ha, z_toInt hb] at this
    omega
  · intro h
    rw [h]
theorem z_nn {a : Nat} (ha : a < 2147483648) : ¬ (Int32.ofNat a < 0) := by
  rw [show (0 : Int32) = Int32.ofNat 0 from rfl, z_lt ha (by omega)]
  omega
theorem z_nm1 {a : Nat} (ha : a < 2147483648) : ¬ (Int32.ofNat a = -1) := by
  intro h
  have := congrArg Int32.toInt h
  rw [z_toInt ha, show (-1 : Int32).toInt = -1 by decide] at this
  omega
theorem z_s (n : Nat) : Int32.ofNat n + 1 = Int32.ofNat (n + 1) := (Int32.ofNat_add n 1).symm
theorem z_add (a b : Nat) : Int32.ofNat a + Int32.ofNat b = Int32.ofNat (a + b) := (Int32.ofNat_add a b).symm
theorem z_of {x : Int32} (h : 0 ≤ x.toInt) : x = Int32.ofNat x.toNatClampNeg := by
  apply Int32.toInt.inj
  have h1 : x.toInt < 2147483648 := x.toInt_lt
  have h2 : x.toNatClampNeg = x.toInt.toNat := rfl
  rw [z_toInt (by omega), h2]
  omega
theorem z_ix {i n : Nat} (h : i < n) (hn : n < 2147483648) : ix (Int32.ofNat i) n = some i := by
  unfold ix
  rw [z_toInt (by omega), if_pos ⟨by omega, by omega⟩, z_cl (by omega)]
theorem z_ixc {i n : Nat} (h : i ≤ n) (hn : n < 2147483648) : ixc (Int32.ofNat i) n = some i := by
  unfold ixc
  rw [z_toInt (by omega), if_pos ⟨by omega, by omega⟩, z_cl (by omega)]
theorem z_ixi {x : Int32} {i n : Nat} (hx : x.toInt = (i : Int)) (h : i < n) : ix x n = some i := by
  unfold ix
  rw [hx, if_pos ⟨by omega, by omega⟩]
  show some x.toInt.toNat = _
  rw [hx]
  rfl
theorem z_addI {x y : Int32} (h1 : -2147483648 ≤ x.toInt + y.toInt) (h2 : x.toInt + y.toInt < 2147483648) : (x + y).toInt = x.toInt + y.toInt := by
  rw [Int32.toInt_add, Int.bmod_eq_of_le (by omega) (by omega)]
theorem z_subI {x y : Int32} (h1 : -2147483648 ≤ x.toInt - y.toInt) (h2 : x.toInt - y.toInt < 2147483648) : (x - y).toInt = x.toInt - y.toInt := by
  rw [Int32.toInt_sub, Int.bmod_eq_of_le (by omega) (by omega)]
theorem rz_0 : rz 0 = some 0 := by decide
theorem rz_1 : rz 1 = some 1 := by decide
/-- a loop that counts up to N -/
theorem z_loop {β : Type} (L : Nat → Nat → β) (N : Nat) (res : β) (hs : ∀ fuel i, i < N → L (fuel + 1) i = L fuel (i + 1)) (he : ∀ fuel, L (fuel + 1) N = res) : ∀ (j i fuel : Nat), i + j = N → j < fuel → L fuel i = res := by
  intro j
  induction j with
  | zero =>
    intro i fuel h1 h2
    obtain ⟨f, rfl⟩ : ∃ f, fuel = f + 1 := ⟨fuel - 1, by omega⟩
    rw [show i = N by omega]
    exact he f
  | succ j ih =>
    intro i fuel h1 h2
    obtain ⟨f, rfl⟩ : ∃ f, fuel = f + 1 := ⟨fuel - 1, by omega⟩
    rw [hs f i (by omega)]
    exact ih (i + 1) f (by omega) (by omega)
/-- with an invariant, and an early end -/
theorem z_loopI {β : Type} (L : Nat → Nat → β) (N : Nat) (res : β) (I : Nat → Prop) (hs : ∀ fuel i, i < N → I i → L (fuel + 1) i = res ∨ (I (i + 1) ∧ L (fuel + 1) i = L fuel (i + 1))) (he : ∀ fuel, I N → L (fuel + 1) N = res) : ∀ (j i fuel : Nat), i + j = N → j < fuel → I i → L fuel i = res := by
  intro j
  induction j with
  | zero =>
    intro i fuel h1 h2 hI
    obtain ⟨f, rfl⟩ : ∃ f, fuel = f + 1 := ⟨fuel - 1, by omega⟩
    have hi : i = N := by omega
    subst hi
    exact he f hI
  | succ j ih =>
    intro i fuel h1 h2 hI
    obtain ⟨f, rfl⟩ : ∃ f, fuel = f + 1 := ⟨fuel - 1, by omega⟩
    rcases hs f i (by omega) hI with h | ⟨h3, h4⟩
    · exact h
    · rw [h4]
      exact ih (i + 1) f (by omega) (by omega) h3
/-- bits -/
def tb (x : Int32) (k : Nat) : Bool := x.toBitVec.getLsbD k
theorem tb_ext {x y : Int32} (h : ∀ k, k < 32 → tb x k = tb y k) : x = y := by
  apply Int32.toBitVec_inj.mp
  apply BitVec.eq_of_getLsbD_eq
  intro i hi
  exact h i hi
theorem tb_or (x y : Int32) (k : Nat) : tb (x ||| y) k = (tb x k || tb y k) := by
  unfold tb
  rw [Int32.toBitVec_or, BitVec.getLsbD_or]
theorem tb_and (x y : Int32) (k : Nat) : tb (x &&& y) k = (tb x k && tb y k) := by
  unfold tb
  rw [Int32.toBitVec_and, BitVec.getLsbD_and]
theorem tb_xor (x y : Int32) (k : Nat) : tb (x ^^^ y) k = (tb x k ^^ tb y k) := by
  unfold tb
  rw [Int32.toBitVec_xor, BitVec.getLsbD_xor]
theorem tb_0 (k : Nat) : tb 0 k = false := by
  unfold tb
  simp
theorem tb_m1 {k : Nat} (h : k < 32) : tb (-1) k = true := by
  have : ∀ k, k < 32 → tb (-1) k = true := by decide +kernel
  exact this k h
theorem z_sh (k : Nat) (h : k < 32) : (Int32.ofNat k &&& 31) = Int32.ofNat k := by
  have : ∀ k, k < 32 → (Int32.ofNat k &&& 31) = Int32.ofNat k := by decide +kernel
  exact this k h
theorem tb_1k : ∀ j, j < 32 → ∀ k, k < 32 → tb (i_shl 1 (Int32.ofNat j)) k = decide (k = j) := by decide +kernel
theorem tb_hi {x : Int32} {k : Nat} (h : 32 ≤ k) : tb x k = false := by
  unfold tb
  exact BitVec.getLsbD_of_ge _ _ h
theorem tb_shl1 {j k : Nat} (h : j < 32) : tb (i_shl 1 (Int32.ofNat j)) k = decide (k = j) := by
  by_cases hk : k < 32
  · exact tb_1k j h k hk
  · rw [tb_hi (by omega)]
    simp
    omega
theorem z_and1 (x : Int32) : x &&& 1 = if tb x 0 then 1 else 0 := by
  apply tb_ext
  intro k hk
  rw [tb_and]
  have h1 : tb 1 k = decide (k = 0) := by
    have : ∀ k, k < 32 → tb 1 k = decide (k = 0) := by decide +kernel
    exact this k hk
  rw [h1]
  by_cases h0 : k = 0
  · subst h0
    cases hx : tb x 0
    · simp [tb_0]
    · simp [h1]
  · simp only [h0, decide_false, Bool.and_false]
    split
    · rw [h1]; simp [h0]
    · rw [tb_0]
theorem tb_shr {x : Int32} {j : Nat} (h : j < 32) : tb (i_shr x (Int32.ofNat j)) 0 = tb x j := by
  unfold tb i_shr
  rw [z_sh j h, Int32.toBitVec_shiftRight]
  have h2 : ((Int32.ofNat j).toBitVec.smod 32) = BitVec.ofNat 32 j := by
    have : ∀ j, j < 32 → ((Int32.ofNat j).toBitVec.smod 32) = BitVec.ofNat 32 j := by decide +kernel
    exact this j h
  rw [h2, BitVec.sshiftRight_eq', BitVec.getLsbD_sshiftRight]
  have h3 : (BitVec.ofNat 32 j).toNat = j := by simp; omega
  rw [h3]
  simp
  omega
/-- the k-th bit, as both programs ask it -/
theorem z_bit {x : Int32} {k : Nat} (h : k < 32) : (i_shr x (Int32.ofNat k)) &&& 1 = if tb x k then 1 else 0 := by
  rw [z_and1, tb_shr h]
theorem z_bit1 {x : Int32} {k : Nat} (h : k < 32) : ((i_shr x (Int32.ofNat k)) &&& 1 = 1) ↔ tb x k = true := by
  rw [z_bit h]
  cases tb x k <;> simp
theorem z_bit0 {x : Int32} {k : Nat} (h : k < 32) : ((i_shr x (Int32.ofNat k)) &&& 1 = 0) ↔ tb x k = false := by
  rw [z_bit h]
  cases tb x k <;> simp
/-- the set of those below n that are so -/
def zSet (p : Nat → Bool) : Nat → Int32
  | 0 => 0
  | n + 1 => if p n then zSet p n ||| i_shl 1 (Int32.ofNat n) else zSet p n
theorem tb_zSet (p : Nat → Bool) {n : Nat} (hn : n ≤ 32) (k : Nat) : tb (zSet p n) k = (decide (k < n) && p k) := by
  induction n with
  | zero => rw [zSet, tb_0]; simp
  | succ n ih =>
    rw [zSet]
    have ih := ih (by omega)
    split
    · next h =>
      rw [tb_or, ih, tb_shl1 (by omega)]
      by_cases hk : k = n
      · subst hk; simp [h]
      · have : (k < n + 1) ↔ k < n := by omega
        simp [hk, this]
    · next h =>
      rw [ih]
      by_cases hk : k = n
      · subst hk; simp [h]
      · have : (k < n + 1) ↔ k < n := by omega
        simp [this]
theorem zSet_congr {p q : Nat → Bool} {n : Nat} (h : ∀ k, k < n → p k = q k) : zSet p n = zSet q n := by
  induction n with
  | zero => rfl
  | succ n ih =>
    rw [zSet, zSet, ih (fun k hk => h k (by omega)), h n (by omega)]
theorem zi_7 {b : Nat} (h : b < 302 - 7) : ix (7 + Int32.ofNat b) 302 = some (7 + b) := by
  rw [show ((7 : Int32)) = Int32.ofNat 7 from rfl, z_add]
  exact z_ix (by omega) (by omega)
theorem zi_13 {b : Nat} (h : b < 302 - 13) : ix (13 + Int32.ofNat b) 302 = some (13 + b) := by
  rw [show ((13 : Int32)) = Int32.ofNat 13 from rfl, z_add]
  exact z_ix (by omega) (by omega)
theorem zi_19 {b : Nat} (h : b < 302 - 19) : ix (19 + Int32.ofNat b) 302 = some (19 + b) := by
  rw [show ((19 : Int32)) = Int32.ofNat 19 from rfl, z_add]
  exact z_ix (by omega) (by omega)
theorem zi_25 {b : Nat} (h : b < 302 - 25) : ix (25 + Int32.ofNat b) 302 = some (25 + b) := by
  rw [show ((25 : Int32)) = Int32.ofNat 25 from rfl, z_add]
  exact z_ix (by omega) (by omega)
theorem zi_31 {b : Nat} (h : b < 302 - 31) : ix (31 + Int32.ofNat b) 302 = some (31 + b) := by
  rw [show ((31 : Int32)) = Int32.ofNat 31 from rfl, z_add]
  exact z_ix (by omega) (by omega)
theorem zi_37 {b : Nat} (h : b < 302 - 37) : ix (37 + Int32.ofNat b) 302 = some (37 + b) := by
  rw [show ((37 : Int32)) = Int32.ofNat 37 from rfl, z_add]
  exact z_ix (by omega) (by omega)
theorem zi_43 {b : Nat} (h : b < 302 - 43) : ix (43 + Int32.ofNat b) 302 = some (43 + b) := by
  rw [show ((43 : Int32)) = Int32.ofNat 43 from rfl, z_add]
  exact z_ix (by omega) (by omega)
theorem zi_49 {b : Nat} (h : b < 302 - 49) : ix (49 + Int32.ofNat b) 302 = some (49 + b) := by
  rw [show ((49 : Int32)) = Int32.ofNat 49 from rfl, z_add]
  exact z_ix (by omega) (by omega)
theorem zi_57 {b : Nat} (h : b < 302 - 57) : ix (57 + Int32.ofNat b) 302 = some (57 + b) := by
  rw [show ((57 : Int32)) = Int32.ofNat 57 from rfl, z_add]
  exact z_ix (by omega) (by omega)
theorem zi_65 {b : Nat} (h : b < 302 - 65) : ix (65 + Int32.ofNat b) 302 = some (65 + b) := by
  rw [show ((65 : Int32)) = Int32.ofNat 65 from rfl, z_add]
  exact z_ix (by omega) (by omega)
theorem zi_73 {b : Nat} (h : b < 302 - 73) : ix (73 + Int32.ofNat b) 302 = some (73 + b) := by
  rw [show ((73 : Int32)) = Int32.ofNat 73 from rfl, z_add]
  exact z_ix (by omega) (by omega)
theorem zi_81 {b : Nat} (h : b < 302 - 81) : ix (81 + Int32.ofNat b) 302 = some (81 + b) := by
  rw [show ((81 : Int32)) = Int32.ofNat 81 from rfl, z_add]
  exact z_ix (by omega) (by omega)
theorem zi_89 {b : Nat} (h : b < 302 - 89) : ix (89 + Int32.ofNat b) 302 = some (89 + b) := by
  rw [show ((89 : Int32)) = Int32.ofNat 89 from rfl, z_add]
  exact z_ix (by omega) (by omega)
theorem zi_103 {b : Nat} (h : b < 302 - 103) : ix (103 + Int32.ofNat b) 302 = some (103 + b) := by
  rw [show ((103 : Int32)) = Int32.ofNat 103 from rfl, z_add]
  exact z_ix (by omega) (by omega)
theorem zi_109 {b : Nat} (h : b < 302 - 109) : ix (109 + Int32.ofNat b) 302 = some (109 + b) := by
  rw [show ((109 : Int32)) = Int32.ofNat 109 from rfl, z_add]
  exact z_ix (by omega) (by omega)
theorem zi_115 {b : Nat} (h : b < 302 - 115) : ix (115 + Int32.ofNat b) 302 = some (115 + b) := by
  rw [show ((115 : Int32)) = Int32.ofNat 115 from rfl, z_add]
  exact z_ix (by omega) (by omega)
