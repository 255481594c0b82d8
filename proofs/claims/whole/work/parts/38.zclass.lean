/-! Layer 2. The class's queries, over a house object k and a state object s that hold the same row -/
def zH (m : xMem) (k : Nat) (σ : zR) : Prop :=
  m.1 k 0 = σ 3 ∧ m.1 k 1 = σ 4 ∧ m.1 k 2 = σ 5 ∧ m.1 k 3 = σ 6 ∧ m.1 k 6 = σ 0 ∧ m.1 k 7 = σ 1 ∧ m.1 k 8 = σ 2 ∧
  (∀ b, b < zB σ → m.1 (k + 5 + b) 0 = σ (7 + b) ∧ m.1 (k + 5 + b) 1 = σ (13 + b) ∧ m.1 (k + 5 + b) 2 = σ (19 + b) - 1) ∧
  (∀ o, o < zO σ → m.1 (k + 12 + o) 0 = σ (25 + o) ∧ m.1 (k + 12 + o) 1 = σ (31 + o) ∧ m.1 (k + 12 + o) 2 = σ (37 + o) - 1 ∧ m.1 (k + 12 + o) 3 = σ (43 + o)) ∧
  (∀ i, i < zC σ → m.1 (k + 19 + i) 0 = σ (49 + i) ∧ m.1 (k + 19 + i) 1 = σ (57 + i) ∧ m.1 (k + 19 + i) 2 = σ (65 + i) ∧ m.1 (k + 19 + i) 3 = σ (73 + i) ∧ m.1 (k + 19 + i) 4 = σ (81 + i) ∧ m.1 (k + 19 + i) 5 = σ (89 + i))
def zT (m : xMem) (s : Nat) (σ : zR) : Prop :=
  m.1 s 0 = σ 97 ∧ m.1 s 1 = σ 98 ∧ m.1 (s + 1) 3 = σ 100 ∧ (0 < σ 100 → m.1 (s + 1) 0 = 1 ∧ m.1 (s + 1) 1 = σ 101 ∧ m.1 (s + 1) 2 = σ 102) ∧ (∀ o, o < zO σ → m.1 (s + 2) o = σ (103 + o))
def zU (m : xMem) (s : Nat) (σ : zR) : Prop :=
  m.1 s 2 = σ 99 ∧ ∀ b, b < zB σ → m.1 (s + 3) b = σ (109 + b) ∧ m.1 (s + 4) b = σ (115 + b)
/-- so many hours ahead, if nothing else is done -/
def zAdv (σ : zR) (a : Nat) : zR := if a = 0 then σ else fun j => if j = 97 then σ 97 + Int32.ofNat a else if j = 100 then 0 else σ j
theorem zAdv_0 (σ : zR) : zAdv σ 0 = σ := rfl
theorem zAdv_j {σ : zR} {a j : Nat} (h1 : j ≠ 97) (h2 : j ≠ 100) : zAdv σ a j = σ j := by
  unfold zAdv
  split
  · rfl
  · simp [h1, h2]
theorem zAdv_97 {σ : zR} {a : Nat} : zAdv σ a 97 = σ 97 + Int32.ofNat a := by
  unfold zAdv
  split
  · next h => subst h; simp
  · rfl
theorem zAdv_100 {σ : zR} {a : Nat} : zAdv σ a 100 = if a = 0 then σ 100 else 0 := by
  unfold zAdv
  split <;> rfl
theorem zAdv_B {σ : zR} {a : Nat} : zB (zAdv σ a) = zB σ := by unfold zB; rw [zAdv_j (by decide) (by decide)]
theorem zAdv_O {σ : zR} {a : Nat} : zO (zAdv σ a) = zO σ := by unfold zO; rw [zAdv_j (by decide) (by decide)]
theorem zAdv_C {σ : zR} {a : Nat} : zC (zAdv σ a) = zC σ := by unfold zC; rw [zAdv_j (by decide) (by decide)]
theorem zCt_adv {σ : zR} {a : Nat} (h : zCt σ) : zCt (zAdv σ a) := by
  unfold zCt
  rw [zAdv_B, zAdv_O, zAdv_C, zAdv_j (by decide) (by decide), zAdv_j (by decide) (by decide), zAdv_j (by decide) (by decide)]
  exact h
theorem zH_adv {m : xMem} {k : Nat} {σ : zR} {a : Nat} (h : zH m k σ) (hc : zCt σ) : zH m k (zAdv σ a) := by
  obtain ⟨h1, h2, h3, h4, h5, h6, h7, h8, h9, h10⟩ := h
  have b6 := hc.1.2
  have o6 := hc.2.1.2
  have c8 := hc.2.2.2
  unfold zH
  rw [zAdv_B, zAdv_O, zAdv_C]
  refine ⟨?_, ?_, ?_, ?_, ?_, ?_, ?_, fun b hb => ?_, fun o ho => ?_, fun i hi => ?_⟩
  · rw [zAdv_j (by decide) (by decide)]; exact h1
  · rw [zAdv_j (by decide) (by decide)]; exact h2
  · rw [zAdv_j (by decide) (by decide)]; exact h3
  · rw [zAdv_j (by decide) (by decide)]; exact h4
  · rw [zAdv_j (by decide) (by decide)]; exact h5
  · rw [zAdv_j (by decide) (by decide)]; exact h6
  · rw [zAdv_j (by decide) (by decide)]; exact h7
  · rw [zAdv_j (by omega) (by omega), zAdv_j (by omega) (by omega), zAdv_j (by omega) (by omega)]; exact h8 b hb
  · rw [zAdv_j (by omega) (by omega), zAdv_j (by omega) (by omega), zAdv_j (by omega) (by omega), zAdv_j (by omega) (by omega)]; exact h9 o ho
  · rw [zAdv_j (by omega) (by omega), zAdv_j (by omega) (by omega), zAdv_j (by omega) (by omega), zAdv_j (by omega) (by omega), zAdv_j (by omega) (by omega), zAdv_j (by omega) (by omega)]; exact h10 i hi
section ZC
variable {m : xMem} {σ : zR} {k s : Nat}
theorem zC_within (f t h : Int32) : House_within m f t h = some (zb (zWithin f t (i_rem h 24))) := by
  unfold House_within zWithin nm
  by_cases h1 : t < f
  · by_cases h2 : i_rem h 24 < f
    · by_cases h3 : t < i_rem h 24 <;> simp [h1, h2, h3, zb]
    · simp [h1, h2, zb]
  · by_cases h2 : i_rem h 24 < f
    · simp [h1, h2, zb]
    · by_cases h3 : t < i_rem h 24 <;> simp [h1, h2, h3, zb]
theorem zC_shut (hH : zH m k σ) (hc : zCt σ) (a : Nat) {h : Int32} (hh : h = σ 97 + Int32.ofNat a) : House_shutAt m k h = some (zb (zShut (zAdv σ a))) := by
  unfold House_shutAt zShut
  rw [zC_within, hH.2.2.1, hH.2.2.2.1, hh, zAdv_97, zAdv_j (by decide) (by decide), zAdv_j (by decide) (by decide)]
  simp [zb_rz]
theorem z_has {n : Nat} {x y : Int32} (hn : n ≤ 8) (hy : y = Int32.ofNat n) : (if x < 0 then some (0 : Int32) else if x < y then some 1 else some 0) = some (zb (zIs n x)) := by
  subst hy
  unfold zIs
  have h2 : (0 : Int32).toInt = 0 := by decide
  simp only [Int32.lt_iff_toInt_lt, h2, z_toInt (show n < 2147483648 by omega)]
  by_cases h : x.toInt < 0
  · rw [if_pos h, show decide (0 ≤ x.toInt ∧ x.toInt < (n : Int)) = false by rw [decide_eq_false_iff_not]; omega]; rfl
  · by_cases h3 : x.toInt < n
    · rw [if_neg h, if_pos h3, show decide (0 ≤ x.toInt ∧ x.toInt < (n : Int)) = true by rw [decide_eq_true_eq]; omega]; rfl
    · rw [if_neg h, if_neg h3, show decide (0 ≤ x.toInt ∧ x.toInt < (n : Int)) = false by rw [decide_eq_false_iff_not]; omega]; rfl
theorem zC_hasSound (hH : zH m k σ) (hc : zCt σ) (x : Int32) : House_hasSound m k x = some (zb (zIs (zC σ) x)) := by
  unfold House_hasSound
  rw [hH.2.2.2.2.2.2.1]
  exact z_has hc.2.2.2.1 hc.2.2.1
theorem zC_hasBed (hH : zH m k σ) (hc : zCt σ) (x : Int32) : House_hasBed m k x = some (zb (zIs (zB σ) x)) := by
  unfold House_hasBed
  rw [hH.2.2.2.2.1]
  exact z_has (by have := hc.1.2; omega) hc.1.1
theorem zC_hasOwl (hH : zH m k σ) (hc : zCt σ) (x : Int32) : House_hasOwl m k x = some (zb (zIs (zO σ) x)) := by
  unfold House_hasOwl
  rw [hH.2.2.2.2.2.1]
  exact z_has (by have := hc.2.1.2; omega) hc.2.1.1
theorem zC_hasCell (hH : zH m k σ) (x y : Int32) : House_hasCell m k x y = some (zb (zIsI (σ 3) x && zIsI (σ 4) y)) := by
  unfold House_hasCell zIsI
  rw [hH.1, hH.2.1]
  have h2 : (0 : Int32).toInt = 0 := by decide
  simp only [Int32.lt_iff_toInt_lt, h2]
  by_cases a1 : x.toInt < 0
  · simp only [a1, if_true]
    rw [show decide (0 ≤ x.toInt ∧ x.toInt < (σ 3).toInt) = false by rw [decide_eq_false_iff_not]; omega]; rfl
  · by_cases a2 : x.toInt < (σ 3).toInt
    · simp only [a1, a2, if_true, if_false]
      rw [show decide (0 ≤ x.toInt ∧ True) = true by rw [decide_eq_true_eq]; exact ⟨by omega, trivial⟩]
      by_cases a3 : y.toInt < 0
      · simp only [a3, if_true]
        rw [show decide (0 ≤ y.toInt ∧ y.toInt < (σ 4).toInt) = false by rw [decide_eq_false_iff_not]; omega]; rfl
      · by_cases a4 : y.toInt < (σ 4).toInt
        · simp only [a3, a4, if_true, if_false]
          rw [show decide (0 ≤ y.toInt ∧ True) = true by rw [decide_eq_true_eq]; exact ⟨by omega, trivial⟩]; rfl
        · simp only [a3, a4, if_false]
          simp [zb]
    · simp only [a1, a2, if_false]
      simp [zb]
theorem tb_or0 (x y z : Int32) : (x ||| y) ||| z = x ||| (y ||| z) := by
  apply tb_ext
  intro k _
  rw [tb_or, tb_or, tb_or, tb_or, Bool.or_assoc]
theorem z_0or (x : Int32) : 0 ||| x = x := by
  apply tb_ext
  intro k _
  rw [tb_or, tb_0, Bool.false_or]
theorem zIs_ofNat {n i : Nat} (hi : i < 2147483648) : zIs n (Int32.ofNat i) = decide (i < n) := by
  unfold zIs
  rw [z_toInt hi, Bool.eq_iff_iff, decide_eq_true_eq, decide_eq_true_eq]
  omega
theorem zC_onL (hH : zH m k σ) (hT : zT m s σ) (hc : zCt σ) (x base : Int32) : State_onBits_b27 m s k x 1000 base 0 = some (base ||| zSet (fun i => !tb (σ 98) i && zWithin (σ (81 + i)) (σ (89 + i)) (i_rem (σ 97 + x) 24)) (zC σ)) := by
  have h8 := hc.2.2.2
  obtain ⟨-, -, -, -, -, -, g7, -, -, g10⟩ := hH
  obtain ⟨t0, t1, -⟩ := hT
  rw [show base = base ||| zSet (fun i => !tb (σ 98) i && zWithin (σ (81 + i)) (σ (89 + i)) (i_rem (σ 97 + x) 24)) 0 from (z_or0 base).symm]
  rw [show base ||| zSet (fun i => !tb (σ 98) i && zWithin (σ (81 + i)) (σ (89 + i)) (i_rem (σ 97 + x) 24)) 0 ||| zSet (fun i => !tb (σ 98) i && zWithin (σ (81 + i)) (σ (89 + i)) (i_rem (σ 97 + x) 24)) (zC σ) = base ||| zSet (fun i => !tb (σ 98) i && zWithin (σ (81 + i)) (σ (89 + i)) (i_rem (σ 97 + x) 24)) (zC σ) by rw [zSet, z_or0]]
  refine z_loop (fun fuel i => State_onBits_b27 m s k x fuel (base ||| zSet (fun i => !tb (σ 98) i && zWithin (σ (81 + i)) (σ (89 + i)) (i_rem (σ 97 + x) 24)) i) (Int32.ofNat i)) (zC σ) _ (fun fuel i hi => ?_) (fun fuel => ?_) (zC σ) 0 1000 (by omega) (by omega)
  · rw [State_onBits_b27, g7, hc.2.2.1, if_pos ((z_lt (by omega) (by omega)).mpr hi), z_ix (by omega) (by omega)]
    simp only [Option.bind_some]
    obtain ⟨-, -, -, -, q4, q5⟩ := g10 i hi
    rw [t0, t1, q4, q5, zC_within, zSet]
    simp only [Option.bind_some, zb_0, nm, z_s, tb_or0, z_bit0 (show i < 32 by omega)]
    cases tb (σ 98) i <;> cases zWithin (σ (81 + i)) (σ (89 + i)) (i_rem (σ 97 + x) 24) <;> rfl
  · rw [State_onBits_b27, g7, hc.2.2.1, if_neg (by rw [z_lt (by omega) (by omega)]; omega)]
theorem zC_on (hH : zH m k σ) (hT : zT m s σ) (hc : zCt σ) {a : Nat} (ha : a < 2147483648) : State_onBits m s k (Int32.ofNat a) = some (zSet (zOn (zAdv σ a)) (zC σ + 1)) := by
  have h8 := hc.2.2.2
  have fin : ∀ base : Int32, (∀ j, j < 32 → tb base j = (decide (j = zC σ) && zOn (zAdv σ a) (zC σ))) → base ||| zSet (fun i => !tb (σ 98) i && zWithin (σ (81 + i)) (σ (89 + i)) (i_rem (σ 97 + Int32.ofNat a) 24)) (zC σ) = zSet (zOn (zAdv σ a)) (zC σ + 1) := by
    intro base hb
    apply tb_ext
    intro j hj
    rw [tb_or, tb_zSet _ (by omega), tb_zSet _ (by omega), hb j hj]
    by_cases h : j = zC σ
    · subst h
      simp
    · by_cases h2 : j < zC σ
      · have h3 : j < zC σ + 1 := by omega
        have h4 : zOn (zAdv σ a) j = (!tb (σ 98) j && zWithin (σ (81 + j)) (σ (89 + j)) (i_rem (σ 97 + Int32.ofNat a) 24)) := by
          unfold zOn
          rw [zAdv_C, if_neg h, zAdv_97, zAdv_j (by decide) (by decide), zAdv_j (by omega) (by omega), zAdv_j (by omega) (by omega)]
        rw [h4]
        simp [h, h2, h3]
      · have h3 : ¬ j < zC σ + 1 := by omega
        simp [h, h2, h3]
  have h0 : (Int32.ofNat a = 0) ↔ a = 0 := z_eq (b := 0) ha (by omega)
  have hon : zOn (zAdv σ a) (zC σ) = decide (0 < zAdv σ a 100) := by
    unfold zOn
    rw [zAdv_C, if_pos rfl]
  unfold State_onBits
  rw [zC_onL hH hT hc, hT.2.2.1]
  by_cases h : a = 0
  · rw [if_pos (h0.mpr h)]
    by_cases hp : 0 < σ 100
    · rw [if_pos hp]
      show State_onBits_b27 m s k (Int32.ofNat a) 1000 (i_shl 1 (m.1 k 8)) 0 = _
      rw [hH.2.2.2.2.2.2.1, hc.2.2.1, zC_onL hH hT hc, fin]
      intro j hj
      rw [hon, zAdv_100, if_pos h, tb_shl1 (by omega)]
      simp [hp]
    · rw [if_neg hp, fin]
      intro j hj
      rw [hon, zAdv_100, if_pos h, tb_0]
      simp [hp]
  · rw [if_neg (fun e => h (h0.mp e)), fin]
    intro j hj
    rw [hon, zAdv_100, if_neg h, tb_0]
    simp
/-- the row that a sound, or the shout, has -/
def zRow (m : xMem) (s k : Nat) (σ : zR) (i : Nat) : Prop := ∃ r, State_rowOf m s k (Int32.ofNat i) = some r ∧ m.1 r 0 = zK σ i ∧ m.1 r 1 = zX σ i ∧ m.1 r 2 = zY σ i ∧ m.1 r 3 = zL σ i
theorem zC_row (hH : zH m k σ) (hT : zT m s σ) (hc : zCt σ) {a i : Nat} (hi : i ≤ zC σ) (ho : i = zC σ → 0 < zAdv σ a 100) : zRow m s k (zAdv σ a) i := by
  have h8 := hc.2.2.2
  obtain ⟨-, -, -, -, -, -, g7, -, -, g10⟩ := id hH
  obtain ⟨t0, t1, t2, t3, -⟩ := hT
  unfold zRow State_rowOf zK zX zY zL
  rw [zC_hasSound hH hc, zIs_ofNat (by omega), zAdv_C]
  by_cases h : i = zC σ
  · have hp := ho h
    rw [zAdv_100] at hp
    by_cases ha : a = 0
    · rw [if_pos ha] at hp
      obtain ⟨q0, q1, q2⟩ := t3 hp
      subst ha
      refine ⟨s + 1, ?_, ?_, ?_, ?_, ?_⟩
      · rw [show decide (i < zC σ) = false by rw [decide_eq_false_iff_not]; omega]; rfl
      · rw [if_pos h, q0]
      · rw [if_pos h, zAdv_0, q1]
      · rw [if_pos h, zAdv_0, q2]
      · rw [if_pos h, zAdv_0, t2]
    · rw [if_neg ha] at hp
      exact absurd hp (by decide)
  · have hi2 : i < zC σ := by omega
    obtain ⟨q0, q1, q2, q3, -, -⟩ := g10 i hi2
    refine ⟨k + 19 + i, ?_, ?_, ?_, ?_, ?_⟩
    · rw [show decide (i < zC σ) = true by rw [decide_eq_true_eq]; omega, z_ix (by omega) (by omega)]; rfl
    · rw [if_neg h, zAdv_j (by omega) (by omega), q0]
    · rw [if_neg h, zAdv_j (by omega) (by omega), q1]
    · rw [if_neg h, zAdv_j (by omega) (by omega), q2]
    · rw [if_neg h, zAdv_j (by omega) (by omega), q3]
theorem zC_side (hH : zH m k σ) (hc : zCt σ) {b r : Nat} (hb : b < zB σ) {x y : Int32} (hx : m.1 r 1 = x) (hy : m.1 r 2 = y) : House_sideAt m k (Int32.ofNat b) r = some (zSide σ b x y) := by
  have h6 := hc.1.2
  obtain ⟨-, -, -, -, -, -, -, g8, -, -⟩ := hH
  obtain ⟨q0, q1, -⟩ := g8 b hb
  unfold House_sideAt House_sideAt_b38 House_sideAt_b61 zSide zSideD zAbs nm
  rw [z_ix (by omega) (by omega)]
  simp only [Option.bind_some]
  rw [q0, q1, hx, hy]
  generalize x - σ (7 + b) = dx
  generalize y - σ (13 + b) = dy
  by_cases h1 : dx = 0
  · by_cases h2 : dy = 0
    · rw [if_pos h1, if_pos h2, if_pos (c := dx = 0 ∧ dy = 0) ⟨h1, h2⟩]
    · rw [if_pos h1, if_neg h2, if_neg (c := dx = 0 ∧ dy = 0) (fun h => h2 h.2)]
      by_cases h3 : dx < 0 <;> by_cases h4 : dy < 0 <;> simp only [h3, h4, if_true, if_false] <;> split <;> split <;> rfl
  · rw [if_neg h1, if_neg (c := dx = 0 ∧ dy = 0) (fun h => h1 h.1)]
    by_cases h3 : dx < 0 <;> by_cases h4 : dy < 0 <;> simp only [h3, h4, if_true, if_false] <;> split <;> split <;> rfl
theorem z_subsub (a b c : Int32) : a - b - c = a - (b + c) := by
  apply Int32.toInt.inj
  simp only [Int32.toInt_sub, Int32.toInt_add]
  rw [Int.bmod_sub_bmod, Int.sub_bmod_bmod]
  congr 1
  omega
theorem zC_loud (hH : zH m k σ) (hc : zCt σ) {b r : Nat} (hb : b < zB σ) {x y l : Int32} (hx : m.1 r 1 = x) (hy : m.1 r 2 = y) (hl : m.1 r 3 = l) : House_loudAt m k (Int32.ofNat b) r = some (l - zFar σ b x y) := by
  have h6 := hc.1.2
  obtain ⟨-, -, -, -, -, -, -, g8, -, -⟩ := hH
  obtain ⟨q0, q1, -⟩ := g8 b hb
  unfold House_loudAt House_loudAt_b40 zFar zAbs nm
  rw [z_ix (by omega) (by omega)]
  simp only [Option.bind_some]
  rw [q0, q1, hx, hy, hl]
  split <;> split <;> rw [z_subsub]
theorem zC_heardSide (hH : zH m k σ) (hc : zCt σ) {o b r : Nat} (ho : o < zO σ) (hb : b < zB σ) {z x y l : Int32} (h0 : m.1 r 0 = z) (hx : m.1 r 1 = x) (hy : m.1 r 2 = y) (hl : m.1 r 3 = l) : House_heardSide m k (Int32.ofNat o) (Int32.ofNat b) r = some (if zHears0 σ o b z x y l then zSide σ b x y else -1) := by
  have h6 := hc.2.1.2
  obtain ⟨-, -, -, -, -, -, -, -, g9, -⟩ := id hH
  obtain ⟨q0, q1, q2, q3⟩ := g9 o ho
  unfold House_heardSide House_heardSide_b31 zHears0
  rw [zC_side hH hc hb hx hy, zC_loud hH hc hb hx hy hl, z_ix (by omega) (by omega)]
  simp only [Option.bind_some]
  rw [q1, q2, q3, h0]
  by_cases h1 : (i_shr (σ (43 + o)) z) &&& 1 = 1
  · simp [h1]
  · by_cases h2 : zSide σ b x y = σ (37 + o) - 1
    · simp [h1, h2]
    · by_cases h3 : l - zFar σ b x y < σ (31 + o)
      · simp [h1, h2, h3]
      · simp [h1, h2, h3]
theorem zSide_nn (b : Nat) (x y : Int32) : ¬ zSide σ b x y = -1 := by
  unfold zSide zSideD
  split
  · decide
  · split <;> split <;> decide
theorem zC_heardBits (hH : zH m k σ) (hc : zCt σ) {o b : Nat} (ho : o < zO σ) (hb : b < zB σ) {on : Int32} (hr : ∀ i, i ≤ zC σ → tb on i = true → zRow m s k σ i) : State_heardBits m s k (Int32.ofNat o) (Int32.ofNat b) on = some (zSet (fun i => tb on i && zHears σ o b i) (zC σ + 1)) := by
  have h8 := hc.2.2.2
  unfold State_heardBits
  refine z_loop (fun fuel i => State_heardBits_b6 m s k (Int32.ofNat o) (Int32.ofNat b) on fuel (zSet (fun i => tb on i && zHears σ o b i) i) (Int32.ofNat i)) (zC σ + 1) _ (fun fuel i hi => ?_) (fun fuel => ?_) (zC σ + 1) 0 1000 (by omega) (by omega)
  · rw [State_heardBits_b6, hH.2.2.2.2.2.2.1, hc.2.2.1, if_neg (by rw [z_lt (by omega) (by omega)]; omega), zSet]
    by_cases hbt : tb on i = true
    · obtain ⟨r, e, r0, r1, r2, r3⟩ := hr i (by omega) hbt
      rw [if_pos ((z_bit1 (by omega)).mpr hbt), e]
      simp only [Option.bind_some]
      rw [zC_heardSide hH hc ho hb r0 r1 r2 r3, hbt]
      simp only [Option.bind_some, Bool.true_and, nm, z_s]
      unfold zHears
      cases zHears0 σ o b (zK σ i) (zX σ i) (zY σ i) (zL σ i) with
      | false => rfl
      | true =>
        simp only [if_true]
        rw [if_neg (zSide_nn _ _ _)]
    · rw [if_neg (fun e => hbt ((z_bit1 (by omega)).mp e)), z_s]
      simp [hbt]
  · rw [State_heardBits_b6, hH.2.2.2.2.2.2.1, hc.2.2.1, if_pos (by rw [z_lt (by omega) (by omega)]; omega)]
def zMost (f : Nat → Int32) : Option Nat → Int32
  | none => 0
  | some i => f i
theorem zC_loudest (hH : zH m k σ) (hc : zCt σ) {b : Nat} (hb : b < zB σ) {bits : Int32} (hr : ∀ i, i ≤ zC σ → tb bits i = true → zRow m s k σ i) : State_loudest m s k (Int32.ofNat b) bits = some (zN (zBest (fun i => zLoud σ i b) (fun i => tb bits i) (zC σ + 1))) := by
  have h8 := hc.2.2.2
  unfold State_loudest
  have h0 : ∀ a1 a2 a3 : Int32, a1 = zN (zBest (fun i => zLoud σ i b) (fun i => tb bits i) 0) → a2 = zMost (fun i => zLoud σ i b) (zBest (fun i => zLoud σ i b) (fun i => tb bits i) 0) → a3 = Int32.ofNat 0 → State_loudest_b9 m s k (Int32.ofNat b) bits 1000 a1 a2 a3 = some (zN (zBest (fun i => zLoud σ i b) (fun i => tb bits i) (zC σ + 1))) := by
    intro a1 a2 a3 e1 e2 e3
    subst e1; subst e2; subst e3
    refine z_loop (fun fuel i => State_loudest_b9 m s k (Int32.ofNat b) bits fuel (zN (zBest (fun i => zLoud σ i b) (fun i => tb bits i) i)) (zMost (fun i => zLoud σ i b) (zBest (fun i => zLoud σ i b) (fun i => tb bits i) i)) (Int32.ofNat i)) (zC σ + 1) _ (fun fuel i hi => ?_) (fun fuel => ?_) (zC σ + 1) 0 1000 (by omega) (by omega)
    · rw [State_loudest_b9, hH.2.2.2.2.2.2.1, hc.2.2.1, if_neg (by rw [z_lt (by omega) (by omega)]; omega), zBest]
      by_cases hbt : tb bits i = true
      · obtain ⟨r, e, r0, r1, r2, r3⟩ := hr i (by omega) hbt
        rw [if_pos ((z_bit1 (by omega)).mpr hbt), e]
        simp only [Option.bind_some]
        rw [zC_loud hH hc hb r1 r2 r3, if_pos hbt]
        simp only [Option.bind_some, z_s]
        cases hq : zBest (fun i => zLoud σ i b) (fun i => tb bits i) i with
        | none => rw [if_pos (by rfl)]; rfl
        | some j =>
          have hj := (zBest_lt hq).1
          rw [show zN (some j) = Int32.ofNat j from rfl, if_neg (z_nm1 (by omega))]
          show (if zLoud σ j b < zLoud σ i b then _ else _) = _
          by_cases hlt : zLoud σ j b < zLoud σ i b
          · simp only [hlt, if_true]; rfl
          · simp only [hlt, if_false]; rfl
      · rw [if_neg (fun e => hbt ((z_bit1 (by omega)).mp e)), z_s, if_neg hbt]
    · rw [State_loudest_b9, hH.2.2.2.2.2.2.1, hc.2.2.1, if_pos (by rw [z_lt (by omega) (by omega)]; omega)]
  exact h0 _ _ _ rfl rfl rfl
theorem zBest_congr {f g : Nat → Int32} {p q : Nat → Bool} : ∀ {n : Nat}, (∀ i, i < n → p i = q i) → (∀ i, i < n → p i = true → f i = g i) → zBest f p n = zBest g q n := by
  intro n
  induction n with
  | zero => intro _ _; rfl
  | succ n ih =>
    intro h1 h2
    have e := ih (fun i hi => h1 i (by omega)) (fun i hi => h2 i (by omega))
    have hn := h1 n (by omega)
    have h3 : ∀ j, zBest g q n = some j → f j = g j := fun j hq => h2 j (by have := (zBest_lt hq).1; omega) (by rw [h1 j (by have := (zBest_lt hq).1; omega)]; exact (zBest_lt hq).2)
    have h4 : p n = true → f n = g n := h2 n (by omega)
    unfold zBest
    rw [e, ← hn]
    by_cases hp : p n = true
    · rw [if_pos hp, if_pos hp]
      have h5 := h4 hp
      generalize zBest g q n = r at h3 ⊢
      cases r with
      | none => rfl
      | some j =>
        have h6 := h3 j rfl
        show (if f j < f n then some n else some j) = (if g j < g n then some n else some j)
        rw [h5, h6]
    · rw [if_neg hp, if_neg hp]
theorem zBest_no {f : Nat → Int32} {p : Nat → Bool} : ∀ {n : Nat}, (∀ i, i < n → p i = false) → zBest f p n = none := by
  intro n
  induction n with
  | zero => intro _; rfl
  | succ n ih =>
    intro h
    rw [zBest, h n (by omega), ih (fun i hi => h i (by omega))]
    rfl
theorem zC_rowOn (hH : zH m k σ) (hT : zT m s σ) (hc : zCt σ) {a i : Nat} (hi : i ≤ zC σ) (ho : zOn (zAdv σ a) i = true) : zRow m s k (zAdv σ a) i := by
  refine zC_row hH hT hc hi (fun h => ?_)
  unfold zOn at ho
  rw [zAdv_C, if_pos h] at ho
  simpa using ho
theorem zC_heardOn (hH : zH m k σ) (hT : zT m s σ) (hc : zCt σ) {o b a : Nat} (ho : o < zO σ) (hb : b < zB σ) (hs : zShut (zAdv σ a) = false) : State_heardBits m s k (Int32.ofNat o) (Int32.ofNat b) (zSet (zOn (zAdv σ a)) (zC σ + 1)) = some (zSet (zHeard (zAdv σ a) o b) (zC σ + 1)) := by
  have h8 := hc.2.2.2
  have hon : ∀ i, i ≤ zC σ → tb (zSet (zOn (zAdv σ a)) (zC σ + 1)) i = zOn (zAdv σ a) i := fun i hi => by
    rw [tb_zSet _ (by omega), show decide (i < zC σ + 1) = true by rw [decide_eq_true_eq]; omega, Bool.true_and]
  rw [zC_heardBits (σ := zAdv σ a) (zH_adv hH hc) (zCt_adv hc) (by rw [zAdv_O]; exact ho) (by rw [zAdv_B]; exact hb) (fun i hi h => by
    rw [zAdv_C] at hi
    rw [hon i hi] at h
    exact zC_rowOn hH hT hc hi h), zAdv_C]
  congr 1
  refine zSet_congr (fun i hi => ?_)
  rw [hon i (by omega)]
  unfold zHeard
  rw [hs]
  rfl
theorem zC_look (hH : zH m k σ) (hT : zT m s σ) (hc : zCt σ) {o b a : Nat} (ho : o < zO σ) (hb : b < zB σ) (ha : a < 2147483648) : State_lookOf m s k (Int32.ofNat o) (Int32.ofNat b) (Int32.ofNat a) = some (zN (zSeen (zAdv σ a) o b)) := by
  have h8 := hc.2.2.2
  unfold State_lookOf
  rw [zC_shut hH hc a (by rw [hT.1])]
  simp only [Option.bind_some, zb_0]
  cases hs : zShut (zAdv σ a) with
  | true =>
    unfold zSeen
    rw [zBest_no (fun i _ => by unfold zHeard; rw [hs]; rfl)]
    rfl
  | false =>
    simp only [if_true]
    rw [zC_on hH hT hc ha]
    simp only [Option.bind_some]
    rw [zC_heardOn hH hT hc ho hb hs]
    simp only [Option.bind_some]
    have hbt : ∀ i, i ≤ zC σ → tb (zSet (zHeard (zAdv σ a) o b) (zC σ + 1)) i = zHeard (zAdv σ a) o b i := fun i hi => by
      rw [tb_zSet _ (by omega), show decide (i < zC σ + 1) = true by rw [decide_eq_true_eq]; omega, Bool.true_and]
    rw [zC_loudest (σ := zAdv σ a) (zH_adv hH hc) (zCt_adv hc) (by rw [zAdv_B]; exact hb) (fun i hi h => by
      rw [zAdv_C] at hi
      rw [hbt i hi] at h
      refine zC_rowOn hH hT hc hi ?_
      unfold zHeard at h
      simp only [Bool.and_eq_true] at h
      exact h.2.1)]
    simp only [Option.bind_some]
    unfold zSeen
    rw [zAdv_C]
    rw [zBest_congr (fun i hi => hbt i (by omega)) (fun _ _ _ => rfl)]
theorem zC_sideFrom (hH : zH m k σ) (hT : zT m s σ) (hc : zCt σ) {o b a : Nat} (hb : b < zB σ) : State_sideFrom m s k (Int32.ofNat b) (zN (zSeen (zAdv σ a) o b)) = some (zLook (zAdv σ a) o b) := by
  have h8 := hc.2.2.2
  unfold State_sideFrom zLook
  cases h : zSeen (zAdv σ a) o b with
  | none => rfl
  | some i =>
    have hi := zSeen_lt h
    rw [zAdv_C] at hi
    have hp := (zBest_lt h).2
    rw [show zN (some i) = Int32.ofNat i from rfl, if_neg (z_nm1 (by omega))]
    obtain ⟨r, e, r0, r1, r2, r3⟩ := zC_rowOn (a := a) hH hT hc hi (by
      unfold zHeard at hp
      simp only [Bool.and_eq_true] at hp
      exact hp.2.1)
    rw [e]
    simp only [Option.bind_some]
    rw [zC_side (σ := zAdv σ a) (zH_adv hH hc) (zCt_adv hc) (by rw [zAdv_B]; exact hb) r1 r2]
    rfl
theorem zC_owlAt (hH : zH m k σ) (hT : zT m s σ) (hc : zCt σ) (x : Int32) : State_owlAt m s k x = some (zN (zOwl σ x)) := by
  have h6 := hc.2.1.2
  obtain ⟨-, -, -, -, -, g6, -, -, -, -⟩ := id hH
  unfold State_owlAt
  refine z_loopI (fun fuel i => State_owlAt_b2 m s k x fuel (Int32.ofNat i)) (zO σ) _ (fun i => ∀ k, k < i → decide (σ (103 + k) = x) = false) (fun fuel i hi hI => ?_) (fun fuel hI => ?_) (zO σ) 0 1000 (by omega) (by omega) (fun k hk => by omega)
  · rw [State_owlAt_b2, g6, hc.2.1.1, if_pos ((z_lt (by omega) (by omega)).mpr hi), z_ix (by omega) (by omega)]
    simp only [Option.bind_some]
    rw [hT.2.2.2.2 i hi]
    by_cases h : σ (103 + i) = x
    · left
      rw [if_pos h]
      unfold zOwl
      rw [zFst_eq hi (by simp [h]) hI]
      rfl
    · right
      rw [if_neg h, z_s]
      refine ⟨fun k hk => ?_, rfl⟩
      by_cases hki : k = i
      · subst hki; simp [h]
      · exact hI k (by omega)
  · rw [State_owlAt_b2, g6, hc.2.1.1, if_neg (by rw [z_lt (by omega) (by omega)]; omega)]
    unfold zOwl
    rw [zFst_none.mpr hI]
    rfl
theorem zC_heardNow (hH : zH m k σ) (hT : zT m s σ) (hc : zCt σ) {o b : Nat} (ho : o < zO σ) (hb : b < zB σ) : State_heardNow m s k (Int32.ofNat o) (Int32.ofNat b) = some (zSet (zHeard σ o b) (zC σ + 1)) := by
  unfold State_heardNow
  rw [zC_shut hH hc 0 (by rw [hT.1]; simp), zAdv_0]
  simp only [Option.bind_some, zb_0]
  cases hs : zShut σ with
  | true =>
    rw [zSet_false (fun k _ => by unfold zHeard; rw [hs]; rfl)]
    rfl
  | false =>
    simp only [if_true]
    rw [show (0 : Int32) = Int32.ofNat 0 from rfl, zC_on hH hT hc (by omega)]
    simp only [Option.bind_some]
    rw [zC_heardOn hH hT hc ho hb (by rw [zAdv_0]; exact hs)]
    rfl
end ZC
