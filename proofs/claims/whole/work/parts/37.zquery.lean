/-! Layer 2. What both programs answer, out of the flat row of the house and its state: 0 beds 1 owls 2 sounds 3 wide 4 high 5 shutfrom 6 shuttill 7 x 13 y 19 wants 25 home 31 ear 37 bad 43 deaf 49 kind 57 x 65 y 73 loud 81 from 89 till 97 hour 98 hushed 99 shouts 100 cry 101 its x 102 its y 103 sits 109 knows 115 missed -/
abbrev zR : Type := Nat → Int32
def zb (b : Bool) : Int32 := if b then 1 else 0
theorem zb_rz (b : Bool) : rz (zb b) = some (zb b) := by cases b <;> decide
theorem zb_0 {b : Bool} : (zb b = 0) ↔ b = false := by cases b <;> decide
theorem zb_1 {b : Bool} : (zb b = 1) ↔ b = true := by cases b <;> decide
def zB (σ : zR) : Nat := (σ 0).toNatClampNeg
def zO (σ : zR) : Nat := (σ 1).toNatClampNeg
def zC (σ : zR) : Nat := (σ 2).toNatClampNeg
/-- the counts are counts -/
def zCt (σ : zR) : Prop := (σ 0 = Int32.ofNat (zB σ) ∧ zB σ ≤ 6) ∧ (σ 1 = Int32.ofNat (zO σ) ∧ zO σ ≤ 6) ∧ (σ 2 = Int32.ofNat (zC σ) ∧ zC σ ≤ 8 ∧ zO σ ≤ zB σ)
def zr (x : Int32) (a b : Int) : Prop := a ≤ x.toInt ∧ x.toInt ≤ b
def zIs (n : Nat) (x : Int32) : Bool := decide (0 ≤ x.toInt ∧ x.toInt < n)
def zIsI (n : Int32) (x : Int32) : Bool := decide (0 ≤ x.toInt ∧ x.toInt < n.toInt)
def zWithin (f t h : Int32) : Bool := if t < f then (if h < f then !decide (t < h) else true) else (!decide (h < f) && !decide (t < h))
def zShut (σ : zR) : Bool := zWithin (σ 5) (σ 6) (i_rem (σ 97) 24)
def zOn (σ : zR) (i : Nat) : Bool := if i = zC σ then decide (0 < σ 100) else (!tb (σ 98) i && zWithin (σ (81 + i)) (σ (89 + i)) (i_rem (σ 97) 24))
def zX (σ : zR) (i : Nat) : Int32 := if i = zC σ then σ 101 else σ (57 + i)
def zY (σ : zR) (i : Nat) : Int32 := if i = zC σ then σ 102 else σ (65 + i)
def zL (σ : zR) (i : Nat) : Int32 := if i = zC σ then σ 100 else σ (73 + i)
def zK (σ : zR) (i : Nat) : Int32 := if i = zC σ then 1 else σ (49 + i)
def zAbs (v : Int32) : Int32 := if v < 0 then -v else v
def zFar (σ : zR) (b : Nat) (x y : Int32) : Int32 := zAbs (x - σ (7 + b)) + zAbs (y - σ (13 + b))
def zSideD (dx dy : Int32) : Int32 := if dx = 0 ∧ dy = 0 then 4 else if zAbs dx < zAbs dy then (if 0 < dy then 1 else 3) else (if 0 < dx then 0 else 2)
def zSide (σ : zR) (b : Nat) (x y : Int32) : Int32 := zSideD (x - σ (7 + b)) (y - σ (13 + b))
def zLoud (σ : zR) (i b : Nat) : Int32 := zL σ i - zFar σ b (zX σ i) (zY σ i)
def zHears0 (σ : zR) (o b : Nat) (k x y l : Int32) : Bool := !decide ((i_shr (σ (43 + o)) k) &&& 1 = 1) && !decide (zSide σ b x y = σ (37 + o) - 1) && !decide (l - zFar σ b x y < σ (31 + o))
def zHears (σ : zR) (o b i : Nat) : Bool := zHears0 σ o b (zK σ i) (zX σ i) (zY σ i) (zL σ i)
def zHeard (σ : zR) (o b i : Nat) : Bool := !zShut σ && (zOn σ i && zHears σ o b i)
def zN : Option Nat → Int32
  | none => -1
  | some i => Int32.ofNat i
/-- the first of the greatest of those below n that are so -/
def zBest (f : Nat → Int32) (p : Nat → Bool) : Nat → Option Nat
  | 0 => none
  | n + 1 => if p n then (match zBest f p n with
      | none => some n
      | some i => if f i < f n then some n else some i) else zBest f p n
def zSeen (σ : zR) (o b : Nat) : Option Nat := zBest (fun i => zLoud σ i b) (zHeard σ o b) (zC σ + 1)
def zSideN (σ : zR) (b : Nat) : Option Nat → Int32
  | none => -1
  | some i => zSide σ b (zX σ i) (zY σ i)
def zLook (σ : zR) (o b : Nat) : Int32 := zSideN σ b (zSeen σ o b)
/-- the first below n that is so -/
def zFst (p : Nat → Bool) : Nat → Option Nat
  | 0 => none
  | n + 1 => match zFst p n with
    | some i => some i
    | none => if p n then some n else none
def zOwl (σ : zR) (b : Int32) : Option Nat := zFst (fun o => decide (σ (103 + o) = b)) (zO σ)
theorem zBest_lt {f : Nat → Int32} {p : Nat → Bool} : ∀ {n i : Nat}, zBest f p n = some i → i < n ∧ p i = true := by
  intro n
  induction n with
  | zero => intro i h; cases h
  | succ n ih =>
    intro i h
    rw [zBest] at h
    split at h
    · next hp =>
      split at h
      · cases h; exact ⟨by omega, hp⟩
      · next j hj =>
        split at h
        · cases h; exact ⟨by omega, hp⟩
        · cases h; have := ih hj; exact ⟨by omega, this.2⟩
    · have := ih h; exact ⟨by omega, this.2⟩
theorem zFst_some {p : Nat → Bool} : ∀ {n i : Nat}, zFst p n = some i → i < n ∧ p i = true ∧ ∀ k, k < i → p k = false := by
  intro n
  induction n with
  | zero => intro i h; cases h
  | succ n ih =>
    intro i h
    rw [zFst] at h
    split at h
    · next j hj => cases h; have := ih hj; exact ⟨by omega, this.2⟩
    · next hn =>
      split at h
      · next hp =>
        cases h
        refine ⟨by omega, hp, ?_⟩
        have : ∀ n, zFst p n = none → ∀ k, k < n → p k = false := by
          intro n
          induction n with
          | zero => intro _ k hk; omega
          | succ n ih2 =>
            intro h k hk
            rw [zFst] at h
            split at h
            · cases h
            · next hn2 =>
              split at h
              · cases h
              · next hp2 =>
                by_cases hkn : k = n
                · subst hkn; simpa using hp2
                · exact ih2 hn2 k (by omega)
        exact this n hn
      · cases h
theorem zFst_none {p : Nat → Bool} : ∀ {n : Nat}, zFst p n = none ↔ ∀ k, k < n → p k = false := by
  intro n
  induction n with
  | zero => simp [zFst]
  | succ n ih =>
    rw [zFst]
    constructor
    · intro h k hk
      split at h
      · cases h
      · next hn =>
        split at h
        · cases h
        · next hp =>
          by_cases hkn : k = n
          · subst hkn; simpa using hp
          · exact ih.mp hn k (by omega)
    · intro h
      have h1 := ih.mpr (fun k hk => h k (by omega))
      rw [h1]
      simp [h n (by omega)]
theorem zFst_eq {p : Nat → Bool} {n i : Nat} (hi : i < n) (hp : p i = true) (hl : ∀ k, k < i → p k = false) : zFst p n = some i := by
  cases h : zFst p n with
  | none => rw [zFst_none.mp h i hi] at hp; cases hp
  | some j =>
    obtain ⟨h1, h2, h3⟩ := zFst_some h
    rcases Nat.lt_trichotomy i j with q | q | q
    · rw [h3 i q] at hp; cases hp
    · rw [q]
    · rw [hl j q] at h2; cases h2
/-! the model's queries -/
section ZM
variable {m : xMem} {σ : zR}
theorem zM_in (x a b : Int32) : M_isIn m x a b = some (zb (!decide (x < a) && !decide (b < x))) := by
  unfold M_isIn
  by_cases h1 : x < a
  · simp [h1, zb]
  · by_cases h2 : b < x
    · simp [h1, h2, zb]
    · simp [h1, h2, zb]
theorem zM_bit (x y : Int32) : M_bitOf m x y = some (zb (decide ((i_shr x y) &&& 1 = 1))) := by
  unfold M_bitOf
  by_cases h : (i_shr x y) &&& 1 = 1
  · simp [h, zb]
  · simp [h, zb]
theorem zM_abs (x : Int32) : M_absolute m x = some (zAbs x) := by
  unfold M_absolute zAbs
  split <;> rfl
theorem z_isn {n : Nat} {x y : Int32} (hn : n ≤ 8) (hy : y = Int32.ofNat n) : (!decide (x < 0) && !decide (y - 1 < x)) = zIs n x := by
  subst hy
  unfold zIs
  have h1 : (Int32.ofNat n - 1).toInt = (n : Int) - 1 := by
    have h0 : (1 : Int32).toInt = 1 := by decide
    rw [z_subI (by rw [z_toInt (by omega), h0]; omega) (by rw [z_toInt (by omega), h0]; omega), z_toInt (by omega), h0]
  have h2 : (0 : Int32).toInt = 0 := by decide
  rw [Bool.eq_iff_iff]
  simp only [Bool.and_eq_true, Bool.not_eq_true', decide_eq_false_iff_not, decide_eq_true_eq, Int32.lt_iff_toInt_lt, h1, h2]
  omega
theorem z_isI {x y : Int32} (hy : zr y 0 100) : (!decide (x < 0) && !decide (y - 1 < x)) = zIsI y x := by
  unfold zIsI
  obtain ⟨a1, a2⟩ := hy
  have h0 : (1 : Int32).toInt = 1 := by decide
  have h1 : (y - 1).toInt = y.toInt - 1 := by
    rw [z_subI (by rw [h0]; omega) (by rw [h0]; omega), h0]
  have h2 : (0 : Int32).toInt = 0 := by decide
  rw [Bool.eq_iff_iff]
  simp only [Bool.and_eq_true, Bool.not_eq_true', decide_eq_false_iff_not, decide_eq_true_eq, Int32.lt_iff_toInt_lt, h1, h2]
  omega
theorem zM_isBed (h0 : m.1 2 0 = σ 0) (hc : zCt σ) (x : Int32) : M_isBed m x = some (zb (zIs (zB σ) x)) := by
  unfold M_isBed
  rw [zM_in, h0, z_isn (n := zB σ) (by have := hc.1.2; omega) hc.1.1]
  simp [zb_rz]
theorem zM_isOwl (h0 : m.1 2 1 = σ 1) (hc : zCt σ) (x : Int32) : M_isOwl m x = some (zb (zIs (zO σ) x)) := by
  unfold M_isOwl
  rw [zM_in, h0, z_isn (n := zO σ) (by have := hc.2.1.2; omega) hc.2.1.1]
  simp [zb_rz]
theorem zM_isSound (h0 : m.1 2 2 = σ 2) (hc : zCt σ) (x : Int32) : M_isSound m x = some (zb (zIs (zC σ) x)) := by
  unfold M_isSound
  rw [zM_in, h0, z_isn (n := zC σ) (by have := hc.2.2.2; omega) hc.2.2.1]
  simp [zb_rz]
theorem zM_isCell (h3 : m.1 2 3 = σ 3) (h4 : m.1 2 4 = σ 4) (w3 : zr (σ 3) 0 100) (w4 : zr (σ 4) 0 100) (x y : Int32) : M_isCell m x y = some (zb (zIsI (σ 3) x && zIsI (σ 4) y)) := by
  unfold M_isCell
  rw [zM_in, h3, z_isI w3, zM_in, h4, z_isI w4]
  cases zIsI (σ 3) x <;> cases zIsI (σ 4) y <;> rfl
theorem zM_isHour (h f t : Int32) : M_isHour m h f t = some (zb (zWithin f t h)) := by
  unfold M_isHour zWithin
  rw [zM_in]
  by_cases h1 : t < f
  · by_cases h2 : h < f
    · by_cases h3 : t < h
      · simp [h1, h2, h3, zb]
      · simp [h1, h2, h3, zb]
    · simp [h1, h2, zb]
  · simp [h1, zb_rz]
theorem zM_isShut (hm : ∀ j, j < 109 → m.1 2 j = σ j) : M_isShut m = some (zb (zShut σ)) := by
  unfold M_isShut zShut
  rw [zM_isHour, hm 5 (by omega), hm 6 (by omega), hm 97 (by omega)]
  simp [zb_rz]
theorem z_isC (hm : ∀ j, j < 109 → m.1 2 j = σ j) (hc : zCt σ) {i : Nat} (hi : i ≤ zC σ) : (Int32.ofNat i = m.1 2 2) ↔ i = zC σ := by
  rw [hm 2 (by omega), hc.2.2.1]
  have := hc.2.2.2
  exact z_eq (by omega) (by omega)
theorem zM_isOn (hm : ∀ j, j < 109 → m.1 2 j = σ j) (hc : zCt σ) {i : Nat} (hi : i ≤ zC σ) : M_isOn m (Int32.ofNat i) = some (zb (zOn σ i)) := by
  have h8 := hc.2.2.2
  unfold M_isOn zOn
  by_cases h : i = zC σ
  · rw [if_pos ((z_isC hm hc hi).mpr h), if_pos h, hm 100 (by omega)]
    by_cases hp : 0 < σ 100 <;> simp [hp, zb]
  · rw [if_neg (fun e => h ((z_isC hm hc hi).mp e)), if_neg h, zM_bit, hm 98 (by omega), zi_81 (by omega), zi_89 (by omega)]
    simp only [Option.bind_some]
    rw [hm (81 + i) (by omega), hm (89 + i) (by omega), zM_isHour, hm 97 (by omega)]
    simp only [Option.bind_some, zb_0]
    have hb : decide ((i_shr (σ 98) (Int32.ofNat i)) &&& 1 = 1) = tb (σ 98) i := by
      rw [Bool.eq_iff_iff, decide_eq_true_eq, z_bit1 (by omega)]
    rw [hb]
    cases tb (σ 98) i <;> cases zWithin (σ (81 + i)) (σ (89 + i)) (i_rem (σ 97) 24) <;> rfl
theorem zM_xOf (hm : ∀ j, j < 109 → m.1 2 j = σ j) (hc : zCt σ) {i : Nat} (hi : i ≤ zC σ) : M_xOf m (Int32.ofNat i) = some (zX σ i) := by
  have h8 := hc.2.2.2
  unfold M_xOf zX
  by_cases h : i = zC σ
  · rw [if_pos ((z_isC hm hc hi).mpr h), if_pos h, hm 101 (by omega)]
  · rw [if_neg (fun e => h ((z_isC hm hc hi).mp e)), if_neg h, zi_57 (by omega)]
    simp only [Option.bind_some]
    rw [hm (57 + i) (by omega)]
theorem zM_yOf (hm : ∀ j, j < 109 → m.1 2 j = σ j) (hc : zCt σ) {i : Nat} (hi : i ≤ zC σ) : M_yOf m (Int32.ofNat i) = some (zY σ i) := by
  have h8 := hc.2.2.2
  unfold M_yOf zY
  by_cases h : i = zC σ
  · rw [if_pos ((z_isC hm hc hi).mpr h), if_pos h, hm 102 (by omega)]
  · rw [if_neg (fun e => h ((z_isC hm hc hi).mp e)), if_neg h, zi_65 (by omega)]
    simp only [Option.bind_some]
    rw [hm (65 + i) (by omega)]
theorem zM_kindOf (hm : ∀ j, j < 109 → m.1 2 j = σ j) (hc : zCt σ) {i : Nat} (hi : i ≤ zC σ) : M_kindOf m (Int32.ofNat i) = some (zK σ i) := by
  have h8 := hc.2.2.2
  unfold M_kindOf zK
  by_cases h : i = zC σ
  · rw [if_pos ((z_isC hm hc hi).mpr h), if_pos h]
  · rw [if_neg (fun e => h ((z_isC hm hc hi).mp e)), if_neg h, zi_49 (by omega)]
    simp only [Option.bind_some]
    rw [hm (49 + i) (by omega)]
theorem zM_far (hm : ∀ j, j < 109 → m.1 2 j = σ j) {b : Nat} (hb : b < 6) (x y : Int32) : M_farFrom m (Int32.ofNat b) x y = some (zFar σ b x y) := by
  unfold M_farFrom zFar
  rw [zi_7 (by omega), zi_13 (by omega)]
  simp only [Option.bind_some, zM_abs]
  rw [hm (7 + b) (by omega), hm (13 + b) (by omega)]
theorem zM_side (hm : ∀ j, j < 109 → m.1 2 j = σ j) {b : Nat} (hb : b < 6) (x y : Int32) : M_sideOf m (Int32.ofNat b) x y = some (zSide σ b x y) := by
  unfold M_sideOf zSide zSideD M_sideOf_b38 nm
  rw [zi_7 (by omega), zi_13 (by omega)]
  simp only [Option.bind_some, zM_abs]
  rw [hm (7 + b) (by omega), hm (13 + b) (by omega)]
  by_cases h1 : x - σ (7 + b) = 0
  · by_cases h2 : y - σ (13 + b) = 0
    · simp [h1, h2]
    · simp only [h1, h2, if_true, if_false, and_false]
      split <;> split <;> rfl
  · simp only [h1, if_false, false_and]
    split <;> split <;> rfl
theorem zM_loud (hm : ∀ j, j < 109 → m.1 2 j = σ j) (hc : zCt σ) {i b : Nat} (hi : i ≤ zC σ) (hb : b < 6) : M_loudAt m (Int32.ofNat i) (Int32.ofNat b) = some (zLoud σ i b) := by
  have h8 := hc.2.2.2
  unfold M_loudAt M_loudAt_b29 zLoud zL
  rw [zM_xOf hm hc hi, zM_yOf hm hc hi]
  simp only [Option.bind_some]
  rw [zM_far hm hb]
  by_cases h : i = zC σ
  · rw [if_pos ((z_isC hm hc hi).mpr h), if_pos h, hm 100 (by omega)]
    rfl
  · rw [if_neg (fun e => h ((z_isC hm hc hi).mp e)), if_neg h, zi_73 (by omega)]
    simp only [Option.bind_some]
    rw [hm (73 + i) (by omega)]
theorem zM_isHeard (hm : ∀ j, j < 109 → m.1 2 j = σ j) {o b : Nat} (ho : o < 6) (hb : b < 6) (k x y l : Int32) : M_isHeard m (Int32.ofNat o) (Int32.ofNat b) k x y l = some (zb (zHears0 σ o b k x y l)) := by
  unfold M_isHeard zHears0
  rw [zi_43 (by omega), zi_37 (by omega), zi_31 (by omega), zM_side hm hb, zM_far hm hb]
  simp only [Option.bind_some, zM_bit]
  rw [hm (43 + o) (by omega), hm (37 + o) (by omega), hm (31 + o) (by omega)]
  by_cases h1 : (i_shr (σ (43 + o)) k) &&& 1 = 1
  · simp [h1, zb]
  · by_cases h2 : zSide σ b x y = σ (37 + o) - 1
    · simp [h1, h2, zb]
    · by_cases h3 : l - zFar σ b x y < σ (31 + o)
      · simp [h1, h2, h3, zb]
      · simp [h1, h2, h3, zb]
theorem zM_hears (hm : ∀ j, j < 109 → m.1 2 j = σ j) (hc : zCt σ) {o b i : Nat} (ho : o < 6) (hb : b < 6) (hi : i ≤ zC σ) : M_hearsOne m (Int32.ofNat o) (Int32.ofNat b) (Int32.ofNat i) = some (zb (zHears σ o b i)) := by
  have h8 := hc.2.2.2
  unfold M_hearsOne M_hearsOne_b47 zHears
  rw [zM_kindOf hm hc hi, zM_xOf hm hc hi, zM_yOf hm hc hi]
  simp only [Option.bind_some]
  by_cases h : i = zC σ
  · have hl : zL σ i = σ 100 := by unfold zL; rw [if_pos h]
    rw [if_pos ((z_isC hm hc hi).mpr h), hl, hm 100 (by omega), zM_isHeard hm ho hb]
    simp [zb_rz]
  · have hl : zL σ i = σ (73 + i) := by unfold zL; rw [if_neg h]
    rw [if_neg (fun e => h ((z_isC hm hc hi).mp e)), hl, zi_73 (by omega)]
    simp only [Option.bind_some]
    rw [hm (73 + i) (by omega), zM_isHeard hm ho hb]
    simp [zb_rz]
theorem zSet_false {n : Nat} {p : Nat → Bool} (h : ∀ k, k < n → p k = false) : zSet p n = 0 := by
  induction n with
  | zero => rfl
  | succ n ih =>
    rw [zSet, h n (by omega), ih (fun k hk => h k (by omega))]
    simp
theorem z_or0 (x : Int32) : x ||| 0 = x := by
  apply tb_ext
  intro k _
  rw [tb_or, tb_0, Bool.or_false]
theorem zM_heard (hm : ∀ j, j < 109 → m.1 2 j = σ j) (hc : zCt σ) {o b : Nat} (ho : o < 6) (hb : b < 6) : M_heardBy m (Int32.ofNat o) (Int32.ofNat b) = some (zSet (zHeard σ o b) (zC σ + 1)) := by
  have h8 := hc.2.2.2
  unfold M_heardBy
  cases hs : zShut σ with
  | true =>
    rw [M_heardBy_b5, zM_isShut hm, hs, hm 2 (by omega), hc.2.2.1, if_neg (by rw [show (0 : Int32) = Int32.ofNat 0 from rfl, z_lt (by omega) (by omega)]; omega), zSet_false (fun k _ => by unfold zHeard; rw [hs]; rfl)]
    simp [zb]
  | false =>
    refine z_loop (fun fuel i => M_heardBy_b5 m (Int32.ofNat o) (Int32.ofNat b) fuel (zSet (zHeard σ o b) i) (Int32.ofNat i)) (zC σ + 1) _ (fun fuel i hi => ?_) (fun fuel => ?_) (zC σ + 1) 0 1000 (by omega) (by omega)
    · rw [M_heardBy_b5, zM_isShut hm, hs, hm 2 (by omega), hc.2.2.1, if_neg (by rw [z_lt (by omega) (by omega)]; omega), zM_isOn hm hc (by omega), zM_hears hm hc ho hb (by omega), zSet]
      have hh : zHeard σ o b i = (zOn σ i && zHears σ o b i) := by unfold zHeard; rw [hs]; rfl
      rw [hh]
      simp only [Option.bind_some, zb_0, nm, z_or0, z_s]
      cases zOn σ i <;> cases zHears σ o b i <;> rfl
    · rw [M_heardBy_b5, hm 2 (by omega), hc.2.2.1, if_pos (by rw [z_lt (by omega) (by omega)]; omega)]
theorem zM_seen (hm : ∀ j, j < 109 → m.1 2 j = σ j) (hc : zCt σ) {o b : Nat} (ho : o < 6) (hb : b < 6) : M_seenBy m (Int32.ofNat o) (Int32.ofNat b) = some (zN (zSeen σ o b)) := by
  have h8 := hc.2.2.2
  unfold M_seenBy
  rw [zM_heard hm hc ho hb]
  simp only [Option.bind_some]
  rw [show (-1 : Int32) = zN (zBest (fun i => zLoud σ i b) (zHeard σ o b) 0) from rfl]
  refine z_loop (fun fuel i => M_seenBy_b13 m (Int32.ofNat o) (Int32.ofNat b) fuel (zSet (zHeard σ o b) (zC σ + 1)) (zN (zBest (fun i => zLoud σ i b) (zHeard σ o b) i)) (Int32.ofNat i)) (zC σ + 1) _ (fun fuel i hi => ?_) (fun fuel => ?_) (zC σ + 1) 0 1000 (by omega) (by omega)
  · rw [M_seenBy_b13, hm 2 (by omega), hc.2.2.1, if_neg (by rw [z_lt (by omega) (by omega)]; omega), zM_bit, zBest]
    have hbit : decide ((i_shr (zSet (zHeard σ o b) (zC σ + 1)) (Int32.ofNat i)) &&& 1 = 1) = zHeard σ o b i := by
      rw [Bool.eq_iff_iff, decide_eq_true_eq, z_bit1 (by omega), tb_zSet _ (by omega)]
      simp
      omega
    rw [hbit]
    simp only [Option.bind_some, zb_0]
    cases hh : zHeard σ o b i with
    | false => simp only [if_true, z_s, Bool.false_eq_true, if_false]
    | true =>
      cases hq : zBest (fun i => zLoud σ i b) (zHeard σ o b) i with
      | none =>
        simp only [Bool.true_eq_false, if_false, if_true]
        rw [if_pos (by decide), z_s]
        rfl
      | some j =>
        have hj := (zBest_lt hq).1
        simp only [Bool.true_eq_false, if_false, if_true]
        rw [show zN (some j) = Int32.ofNat j from rfl, if_neg (z_nn (by omega)), zM_loud hm hc (by omega) hb, zM_loud hm hc (by omega) hb]
        simp only [Option.bind_some, z_s]
        split <;> rfl
  · rw [M_seenBy_b13, hm 2 (by omega), hc.2.2.1, if_pos (by rw [z_lt (by omega) (by omega)]; omega)]
    rfl
theorem zSeen_lt {o b i : Nat} (h : zSeen σ o b = some i) : i ≤ zC σ := by
  have := (zBest_lt h).1
  omega
theorem zM_look (hm : ∀ j, j < 109 → m.1 2 j = σ j) (hc : zCt σ) {o b : Nat} (ho : o < 6) (hb : b < 6) : M_lookBy m (Int32.ofNat o) (Int32.ofNat b) = some (zLook σ o b) := by
  have h8 := hc.2.2.2
  unfold M_lookBy zLook
  rw [zM_seen hm hc ho hb]
  simp only [Option.bind_some]
  cases h : zSeen σ o b with
  | none => rw [if_pos (by decide)]; rfl
  | some i =>
    have hi := zSeen_lt h
    rw [show zN (some i) = Int32.ofNat i from rfl, if_neg (z_nn (by omega)), zM_xOf hm hc hi, zM_yOf hm hc hi]
    simp only [Option.bind_some]
    rw [zM_side hm hb]
    rfl
theorem zM_owl (hm : ∀ j, j < 109 → m.1 2 j = σ j) (hc : zCt σ) (x : Int32) : M_owlBy m x = some (zN (zOwl σ x)) := by
  have h6 := hc.2.1.2
  unfold M_owlBy
  refine z_loopI (fun fuel i => M_owlBy_b2 m x fuel (Int32.ofNat i)) (zO σ) _ (fun i => ∀ k, k < i → decide (σ (103 + k) = x) = false) (fun fuel i hi hI => ?_) (fun fuel hI => ?_) (zO σ) 0 1000 (by omega) (by omega) (fun k hk => by omega)
  · rw [M_owlBy_b2, hm 1 (by omega), hc.2.1.1, if_pos ((z_lt (by omega) (by omega)).mpr hi), zi_103 (by omega)]
    simp only [Option.bind_some]
    rw [hm (103 + i) (by omega)]
    by_cases h : σ (103 + i) = x
    · left
      rw [if_pos h]
      unfold zOwl
      rw [zFst_eq hi (by simp [h]) hI]
      rfl
    · right
      rw [if_neg h, z_s]
      refine ⟨fun k hk => ?_, rfl⟩
      by_cases hki : k = i
      · subst hki; simp [h]
      · exact hI k (by omega)
  · rw [M_owlBy_b2, hm 1 (by omega), hc.2.1.1, if_neg (by rw [z_lt (by omega) (by omega)]; omega)]
    unfold zOwl
    rw [zFst_none.mpr hI]
    rfl
end ZM
