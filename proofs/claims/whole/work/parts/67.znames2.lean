/-! Layer 2. Names written -/
def rE (B : Nat) : List Nat → Nat
  | [] => 0
  | x :: l => x + B * rE B l
theorem rE_dig {B : Nat} (hB : 2 ≤ B) : ∀ (k : Nat) (l : List Nat), (∀ x ∈ l, x < B) → rE B l / B ^ k % B = l.getD k 0 := by
  intro k
  induction k with
  | zero =>
    intro l h
    rw [Nat.pow_zero, Nat.div_one]
    cases l with
    | nil => rw [rE]; exact Nat.zero_mod _
    | cons x l =>
      rw [rE, Nat.add_mul_mod_self_left]
      exact Nat.mod_eq_of_lt (h x (List.mem_cons_self ..))
  | succ k ih =>
    intro l h
    cases l with
    | nil => rw [rE, Nat.zero_div]; exact Nat.zero_mod _
    | cons x l =>
      have hx : x < B := h x (List.mem_cons_self ..)
      rw [rE, Nat.pow_succ', ← Nat.div_div_eq_div_mul, Nat.add_mul_div_left _ _ (by omega), Nat.div_eq_of_lt hx, Nat.zero_add, ih l (fun y hy => h y (List.mem_cons_of_mem _ hy))]
      rfl
theorem rE_lt {B : Nat} : ∀ l : List Nat, (∀ x ∈ l, x < B) → rE B l < B ^ l.length := by
  intro l
  induction l with
  | nil => intro _; exact Nat.one_pos
  | cons x l ih =>
    intro h
    have hx : x < B := h x (List.mem_cons_self ..)
    have h2 := ih (fun y hy => h y (List.mem_cons_of_mem _ hy))
    rw [rE, List.length_cons, Nat.pow_succ, Nat.mul_comm (B ^ l.length) B]
    have h3 : B * (rE B l + 1) ≤ B * B ^ l.length := Nat.mul_le_mul_left B h2
    rw [Nat.mul_add] at h3
    omega
theorem zE5_r (w : List Nat) : zE5 w = rE 32 w.reverse := by
  unfold zE5
  rw [List.foldl_eq_foldr_reverse]
  generalize w.reverse = l
  induction l with
  | nil => rfl
  | cons x l ih =>
    rw [List.foldr_cons, ih, rE]
    omega
theorem zE8_r (w : List Nat) : zE8 w = rE 256 (w.reverse.map (fun x => 96 + x)) := by
  unfold zE8
  rw [List.foldl_eq_foldr_reverse]
  generalize w.reverse = l
  induction l with
  | nil => rfl
  | cons x l ih =>
    rw [List.foldr_cons, ih, List.map_cons, rE]
    omega
def v5 : Nat → Int32
  | 0 => 30
  | i + 1 => v5 i + (-5)
def v8 : Nat → Int32
  | 0 => 48
  | i + 1 => v8 i + (-8)
section ZWM
variable {m m' mC mC' mM mM' C0 M0 : xMem} {σ τ : zR} {n : Nat}
theorem zNm_dig {w : List Nat} (h7 : w.length ≤ 7) (hx : ∀ x ∈ w, 1 ≤ x ∧ x ≤ 26) : zE5 w < 34359738368 ∧ zE8 w < 72057594037927936 ∧ ∀ k, k < 8 → (zE5 w / 2 ^ (5 * k) % 32 = 0 ∧ zE8 w / 2 ^ (8 * k) % 256 = 0) ∨ (∃ x, 1 ≤ x ∧ x ≤ 26 ∧ k < 7 ∧ zE5 w / 2 ^ (5 * k) % 32 = x ∧ zE8 w / 2 ^ (8 * k) % 256 = 96 + x) := by
  have hr : ∀ x ∈ w.reverse, 1 ≤ x ∧ x ≤ 26 := fun x hm => hx x (List.mem_reverse.mp hm)
  have hl : w.reverse.length ≤ 7 := by rw [List.length_reverse]; exact h7
  rw [zE5_r, zE8_r]
  generalize w.reverse = l at hr hl
  have h32 : ∀ x ∈ l, x < 32 := fun x hm => by have := hr x hm; omega
  have h256 : ∀ x ∈ l.map (fun x => 96 + x), x < 256 := fun x hm => by
    obtain ⟨y, hy, e⟩ := List.mem_map.mp hm
    have := hr y hy
    omega
  refine ⟨Nat.lt_of_lt_of_le (rE_lt l h32) (show 32 ^ l.length ≤ 32 ^ 7 from Nat.pow_le_pow_right (by omega) hl), Nat.lt_of_lt_of_le (rE_lt _ h256) (by rw [List.length_map]; exact (show 256 ^ l.length ≤ 256 ^ 7 from Nat.pow_le_pow_right (by omega) hl)), fun k hk => ?_⟩
  have e5 : (2 : Nat) ^ (5 * k) = 32 ^ k := by rw [Nat.pow_mul]
  have e8 : (2 : Nat) ^ (8 * k) = 256 ^ k := by rw [Nat.pow_mul]
  rw [e5, e8, rE_dig (by omega) k l h32, rE_dig (by omega) k _ h256]
  by_cases hkl : k < l.length
  · right
    have hm : l[k] ∈ l := List.getElem_mem hkl
    have := hr _ hm
    refine ⟨l[k], this.1, this.2, by omega, ?_, ?_⟩
    · rw [List.getD_eq_getElem?_getD, List.getElem?_eq_getElem hkl]; rfl
    · rw [List.getD_eq_getElem?_getD, List.getElem?_map, List.getElem?_eq_getElem hkl]; rfl
  · left
    have hn : l[k]? = none := List.getElem?_eq_none (by omega)
    constructor
    · rw [List.getD_eq_getElem?_getD, hn]; rfl
    · rw [List.getD_eq_getElem?_getD, List.getElem?_map, hn]; rfl
theorem zW_name {c mw : Int64} (h : zNm c mw) (hn : n + 7 ≤ 32) (hF : zWF2 C0 mC M0 mM) (H : zWn n mC mM) : ∃ n' mC' mM', n' ≤ n + 7 ∧ Tape_addName mC 180 c = some mC' ∧ M_spells mM mw = some mM' ∧ zWn n' mC' mM' ∧ zWF2 C0 mC' M0 mM' := by
  obtain ⟨w, -, h7, hx, rfl, rfl⟩ := h
  obtain ⟨b5, b8, hd⟩ := zNm_dig h7 hx
  unfold Tape_addName M_spells
  generalize hN5 : zE5 w = N5 at b5 hd ⊢
  generalize hN8 : zE8 w = N8 at b8 hd ⊢
  have first : M_spells_b3 (Int64.ofNat N8) 1000 56 mM = M_spells_b3 (Int64.ofNat N8) 999 48 mM := by
    have d7 : N8 / 2 ^ (8 * 7) % 256 = 0 := by
      rcases hd 7 (by omega) with h | ⟨x, _, _, h, _⟩
      · exact h.2
      · omega
    exact zM_nm1 (f := 999) (k := 7) b8 (by omega) rfl d7
  rw [first]
  have key := z_loopX (fun f i (s : Nat × xMem × xMem) => (Tape_addName_b3 180 (Int64.ofNat N5) (f + 1) (v5 i) s.2.1, M_spells_b3 (Int64.ofNat N8) f (v8 i) s.2.2)) 7 (fun i s => s.1 ≤ n + i ∧ zWn s.1 s.2.1 s.2.2 ∧ zWF2 C0 s.2.1 M0 s.2.2) (fun r => ∃ n' mC' mM', n' ≤ n + 7 ∧ r.1 = some mC' ∧ r.2 = some mM' ∧ zWn n' mC' mM' ∧ zWF2 C0 mC' M0 mM') (fun f i s hi hI => ?_) (fun f s hI => ?_) 7 0 999 (n, mC, mM) (by omega) (by omega) ⟨by show n ≤ n + 0; omega, H, hF⟩
  · exact key
  · obtain ⟨q, a, b⟩ := s
    obtain ⟨i1, i2, i3⟩ := hI
    dsimp only at i1 i2 i3 ⊢
    right
    have e5 : ∀ i, i < 7 → v5 i = Int32.ofNat (5 * (6 - i)) := by decide +kernel
    have e8 : ∀ i, i < 7 → v8 i = Int32.ofNat (8 * (6 - i)) := by decide +kernel
    have s5 : v5 (i + 1) = v5 i + (-5) := rfl
    have s8 : v8 (i + 1) = v8 i + (-8) := rfl
    rcases hd (6 - i) (by omega) with ⟨h1, h2⟩ | ⟨x, x1, x2, -, h1, h2⟩
    · refine ⟨(q, a, b), ⟨by show q ≤ n + (i + 1); omega, i2, i3⟩, ?_⟩
      rw [zC_nm1 (v3 := v5 i) (k := 6 - i) b5 (by omega) (e5 i hi) h1, zM_nm1 (v3 := v8 i) (k := 6 - i) b8 (by omega) (e8 i hi) h2, s5, s8]
    · obtain ⟨a', b', p1, p2, p3, p4⟩ := zW_one (v := Int32.ofNat (96 + x)) rfl (by omega) (by omega) i3 i2
      refine ⟨(q + 1, a', b'), ⟨by show q + 1 ≤ n + (i + 1); omega, p3, p4⟩, ?_⟩
      rw [zC_nm2 (v3 := v5 i) (k := 6 - i) b5 (by omega) (e5 i hi) h1 x1 x2 p1, zM_nm2 (v3 := v8 i) (k := 6 - i) b8 (by omega) (e8 i hi) h2 (by omega) p2, s5, s8]
  · obtain ⟨q, a, b⟩ := s
    obtain ⟨i1, i2, i3⟩ := hI
    dsimp only at i1 i2 i3 ⊢
    refine ⟨q, a, b, i1, ?_, ?_, i2, i3⟩
    · rw [Tape_addName_b3, if_pos (show v5 7 < 0 by decide)]
    · rw [M_spells_b3, if_pos (show v8 7 < 0 by decide)]
end ZWM
