/-! Layer 2. Words: letters one by one -/
theorem rE_inj {B : Nat} : ∀ l l' : List Nat, (∀ x ∈ l, 1 ≤ x ∧ x < B) → (∀ x ∈ l', 1 ≤ x ∧ x < B) → rE B l = rE B l' → l = l' := by
  intro l
  induction l with
  | nil =>
    intro l' _ h e
    cases l' with
    | nil => rfl
    | cons y l' =>
      have := h y (List.mem_cons_self ..)
      rw [rE, rE] at e
      omega
  | cons x l ih =>
    intro l' h h' e
    have hx := h x (List.mem_cons_self ..)
    cases l' with
    | nil =>
      rw [rE, rE] at e
      omega
    | cons y l' =>
      have hy := h' y (List.mem_cons_self ..)
      rw [rE, rE] at e
      have e1 : (x + B * rE B l) % B = (y + B * rE B l') % B := by rw [e]
      rw [Nat.add_mul_mod_self_left, Nat.add_mul_mod_self_left, Nat.mod_eq_of_lt hx.2, Nat.mod_eq_of_lt hy.2] at e1
      subst e1
      have e2 : B * rE B l = B * rE B l' := by omega
      have e3 : rE B l = rE B l' := Nat.eq_of_mul_eq_mul_left (by omega) e2
      rw [ih l' (fun z hz => h z (List.mem_cons_of_mem _ hz)) (fun z hz => h' z (List.mem_cons_of_mem _ hz)) e3]
/-- letters that make a word -/
def zVw (w : List Nat) : Prop := 1 ≤ w.length ∧ w.length ≤ 7 ∧ ∀ x ∈ w, 1 ≤ x ∧ x ≤ 26
theorem zE5_inj {w v : List Nat} (hw : ∀ x ∈ w, 1 ≤ x ∧ x ≤ 26) (hv : ∀ x ∈ v, 1 ≤ x ∧ x ≤ 26) (e : zE5 w = zE5 v) : w = v := by
  rw [zE5_r, zE5_r] at e
  have := rE_inj _ _ (fun x hx => by have := hw x (List.mem_reverse.mp hx); omega) (fun x hx => by have := hv x (List.mem_reverse.mp hx); omega) e
  exact List.reverse_inj.mp this
theorem zE8_inj {w v : List Nat} (hw : ∀ x ∈ w, 1 ≤ x ∧ x ≤ 26) (hv : ∀ x ∈ v, 1 ≤ x ∧ x ≤ 26) (e : zE8 w = zE8 v) : w = v := by
  rw [zE8_r, zE8_r] at e
  have h1 : ∀ w : List Nat, (∀ x ∈ w, 1 ≤ x ∧ x ≤ 26) → ∀ y ∈ w.reverse.map (fun x => 96 + x), 1 ≤ y ∧ y < 256 := fun w hw y hy => by
    obtain ⟨x, hx, e⟩ := List.mem_map.mp hy
    have := hw x (List.mem_reverse.mp hx)
    have e' : 96 + x = y := e
    omega
  have h2 := rE_inj _ _ (h1 w hw) (h1 v hv) e
  have h3 : w.reverse = v.reverse := by
    have h4 : (w.reverse.map (fun x => 96 + x)).map (fun x => x - 96) = (v.reverse.map (fun x => 96 + x)).map (fun x => x - 96) := by rw [h2]
    have h5 : ∀ l : List Nat, (l.map (fun x => 96 + x)).map (fun x => x - 96) = l := fun l => by
      induction l with
      | nil => rfl
      | cons x l ih =>
        rw [List.map_cons, List.map_cons, ih]
        congr 1
        omega
    rw [h5, h5] at h4
    exact h4
  exact List.reverse_inj.mp h3
theorem z_l_inj {a b : Nat} (ha : a < 9223372036854775808) (hb : b < 9223372036854775808) (e : Int64.ofNat a = Int64.ofNat b) : a = b := by
  have h : (Int64.ofNat a).toBitVec.toNat = (Int64.ofNat b).toBitVec.toNat := by rw [e]
  have e1 : ∀ k : Nat, (Int64.ofNat k).toBitVec.toNat = k % 18446744073709551616 := fun k => rfl
  rw [e1, e1] at h
  omega
theorem z_w5 {w v : List Nat} (hw : zVw w) (hv : zVw v) : Int64.ofNat (zE5 w) = Int64.ofNat (zE5 v) ↔ w = v := by
  refine ⟨fun e => ?_, fun e => by rw [e]⟩
  have h1 := (zNm_dig hw.2.1 hw.2.2).1
  have h2 := (zNm_dig hv.2.1 hv.2.2).1
  exact zE5_inj hw.2.2 hv.2.2 (z_l_inj (by omega) (by omega) e)
theorem z_w8 {w v : List Nat} (hw : zVw w) (hv : zVw v) : Int64.ofNat (zE8 w) = Int64.ofNat (zE8 v) ↔ w = v := by
  refine ⟨fun e => ?_, fun e => by rw [e]⟩
  have h1 := (zNm_dig hw.2.1 hw.2.2).2.1
  have h2 := (zNm_dig hv.2.1 hv.2.2).2.1
  exact zE8_inj hw.2.2 hv.2.2 (z_l_inj (by omega) (by omega) e)
theorem z_lcmp (x y : Int64) : (lg_cmp x y = 0) ↔ x = y := by
  unfold lg_cmp
  by_cases h : x = y
  · subst h
    rw [if_neg (show ¬ x > x from Int64.lt_irrefl), if_pos rfl]
    exact ⟨fun _ => rfl, fun _ => rfl⟩
  · rw [if_neg h]
    refine ⟨fun e => ?_, fun e => absurd e h⟩
    split at e
    · exact absurd e (by decide)
    · exact absurd e (by decide)
def zWrd (k : Nat) : List Nat := zWords.getD k []
theorem zVw_wrd {k : Nat} (hk : k < 32) : zVw (zWrd k) := by
  have hw : ∀ k, k < 32 → 1 ≤ (zWords.getD k []).length ∧ (zWords.getD k []).length ≤ 7 ∧ ∀ x ∈ zWords.getD k [], 1 ≤ x ∧ x ≤ 26 := by decide +kernel
  exact hw k hk
theorem zWrd_inj {i j : Nat} (hi : i < 32) (hj : j < 32) (e : zWrd i = zWrd j) : i = j := by
  have : ∀ i, i < 32 → ∀ j, j < 32 → zWords.getD i [] = zWords.getD j [] → i = j := by decide +kernel
  exact this i hi j hj e
theorem z_ilb {b : Nat} (hb : b < 256) : i_l (Int32.ofNat b) = Int64.ofNat b := by
  have : ∀ b, b < 256 → i_l (Int32.ofNat b) = Int64.ofNat b := by decide +kernel
  exact this b hb
theorem z_ill {b : Nat} (h1 : 97 ≤ b) (h2 : b ≤ 122) : i_l ((Int32.ofNat b - 97) + 1) = Int64.ofNat (b - 96) := by
  have : ∀ b, b < 123 → 97 ≤ b → i_l ((Int32.ofNat b - 97) + 1) = Int64.ofNat (b - 96) := by decide +kernel
  exact this b (by omega) h1
theorem z_s8 {N b : Nat} (hN : N < 281474976710656) (hb : b < 256) : (l_shl (Int64.ofNat N) 8) ||| (Int64.ofNat b) = Int64.ofNat (N * 256 + b) := by
  apply Int64.toBitVec_inj.mp
  unfold l_shl
  rw [Int64.toBitVec_or, Int64.toBitVec_shiftLeft, show (((8 : Int32).toInt64 &&& 63).toBitVec.smod 64) = BitVec.ofNat 64 8 by decide +kernel, BitVec.shiftLeft_eq']
  have e3 : (BitVec.ofNat 64 8).toNat = 8 := rfl
  rw [e3]
  apply BitVec.eq_of_toNat_eq
  rw [BitVec.toNat_or, BitVec.toNat_shiftLeft]
  have e1 : ∀ k : Nat, (Int64.ofNat k).toBitVec.toNat = k % 18446744073709551616 := fun k => rfl
  rw [e1, e1, e1, Nat.mod_eq_of_lt (show N < 18446744073709551616 by omega), Nat.mod_eq_of_lt (show b < 18446744073709551616 by omega), Nat.mod_eq_of_lt (show N * 256 + b < 18446744073709551616 by omega), Nat.mod_eq_of_lt (show N <<< 8 < 2 ^ 64 by rw [Nat.shiftLeft_eq]; omega), ← Nat.shiftLeft_add_eq_or_of_lt (show b < 2 ^ 8 by omega), Nat.shiftLeft_eq]
theorem z_m32 {N x : Nat} : Int64.ofNat N * 32 + Int64.ofNat x = Int64.ofNat (N * 32 + x) := by
  rw [Int64.ofNat_add, Int64.ofNat_mul]
  rfl
theorem zE5_s (w : List Nat) (x : Nat) : zE5 (w ++ [x]) = zE5 w * 32 + x := by
  unfold zE5
  rw [List.foldl_append]
  rfl
theorem zE8_s (w : List Nat) (x : Nat) : zE8 (w ++ [x]) = zE8 w * 256 + (96 + x) := by
  unfold zE8
  rw [List.foldl_append]
  rfl
theorem zE8_b {w : List Nat} (hl : w.length ≤ 6) (hx : ∀ x ∈ w, 1 ≤ x ∧ x ≤ 26) : zE8 w < 281474976710656 := by
  rw [zE8_r]
  refine Nat.lt_of_lt_of_le (rE_lt _ ?_) (show 256 ^ _ ≤ 256 ^ 6 from Nat.pow_le_pow_right (by omega) ?_)
  · intro y hy
    obtain ⟨x, hm, e⟩ := List.mem_map.mp hy
    have := hx x (List.mem_reverse.mp hm)
    have e' : 96 + x = y := e
    omega
  · rw [List.length_map, List.length_reverse]
    exact hl
/-- how far it is so -/
theorem z_run (P : Nat → Bool) (n : Nat) : ∀ k p, p + k = n → ∃ N, p + N ≤ n ∧ (∀ i, i < N → P (p + i) = true) ∧ (p + N < n → P (p + N) = false) := by
  intro k
  induction k with
  | zero => intro p hp; exact ⟨0, by omega, fun i hi => by omega, fun h => by omega⟩
  | succ k ih =>
    intro p hp
    cases h : P p with
    | false => exact ⟨0, by omega, fun i hi => by omega, fun _ => h⟩
    | true =>
      obtain ⟨N, h1, h2, h3⟩ := ih (p + 1) (by omega)
      refine ⟨N + 1, by omega, fun i hi => ?_, fun h4 => ?_⟩
      · by_cases e : i = 0
        · rw [e]; exact h
        · have := h2 (i - 1) (by omega)
          rw [show p + 1 + (i - 1) = p + i by omega] at this
          exact this
      · have := h3 (by omega)
        rw [show p + 1 + N = p + (N + 1) by omega] at this
        exact this
