/-! Layer 2. Tokens: what both keep of the one that stands, and a run of letters or digits -/
/-- the text that is read: n bytes b -/
def zTpe (n : Nat) (b : Nat → Nat) (mC mM : xMem) : Prop := n ≤ 940 ∧ mC.1 1 1 = Int32.ofNat n ∧ mM.1 0 3 = Int32.ofNat n ∧ ∀ j, j < n → b j < 256 ∧ mC.1 2 j = Int32.ofNat (b j) ∧ mM.1 1 j &&& 255 = Int32.ofNat (b j)
def zSg (v : Nat) : Bool := v == 59 || v == 40 || v == 41 || v == 60 || v == 61 || v == 62
/-- the token, both ways -/
def zKd (mC mM : xMem) (s : Prop) : Prop :=
  (mC.1 3 4 = 0 ∧ mM.1 0 11 = 0 ∧ mC.1 3 8 = -1) ∨
  (s ∧ mC.1 3 4 = 2 ∧ mM.1 0 11 = 1 ∧ ∃ w, zVw w ∧ mC.2 3 9 = Int64.ofNat (zE5 w) ∧ mM.2 0 17 = Int64.ofNat (zE8 w) ∧ mC.1 3 8 = zN (zFst (fun k => decide (zWrd k = w)) 32)) ∨
  (s ∧ mC.1 3 4 = 3 ∧ mM.1 0 11 = 2 ∧ mC.1 3 8 = -1 ∧ ∃ v, v < 1000 ∧ mC.1 3 7 = Int32.ofNat v ∧ mM.1 0 14 = Int32.ofNat v) ∨
  (s ∧ mC.1 3 4 = 4 ∧ mM.1 0 11 = 3 ∧ mC.1 3 8 = -1 ∧ ∃ v, zSg v = true ∧ v < 256 ∧ mC.1 3 7 = Int32.ofNat v ∧ mM.1 0 14 = Int32.ofNat v) ∨
  ((mC.1 3 4 = 1 ∨ (mC.1 3 4 = 4 ∧ mC.1 3 7 = 46)) ∧ mM.1 0 11 = 4 ∧ mC.1 3 8 = -1)
/-- what a step of the reading leaves -/
def zGf (mC mC' mM mM' : xMem) : Prop := (∀ c, c ≠ 3 → mC'.1 c = mC.1 c) ∧ (∀ j, j = 2 ∨ j = 5 ∨ j = 6 ∨ 10 ≤ j → mC'.1 3 j = mC.1 3 j) ∧ (∀ c, c ≠ 3 → mC'.2 c = mC.2 c) ∧ (∀ c, c ≠ 0 → mM'.1 c = mM.1 c) ∧ (∀ j, j ≠ 4 → j ≠ 11 → j ≠ 13 → j ≠ 14 → mM'.1 0 j = mM.1 0 j) ∧ (∀ c, c ≠ 0 → mM'.2 c = mM.2 c)
section ZTO
variable {m m' mC mC' mM mM' C0 M0 C1 M1 : xMem} {n p : Nat} {b : Nat → Nat}
theorem zGf_rf : zGf mC mC mM mM := ⟨fun _ _ => rfl, fun _ _ => rfl, fun _ _ => rfl, fun _ _ => rfl, fun _ _ _ _ _ => rfl, fun _ _ => rfl⟩
theorem upL_ne' {c j : Nat} {v : Int64} {d : Nat} (h : d ≠ c) : (upL m c j v).2 d = m.2 d := by
  funext a
  unfold upL
  exact if_neg (fun q => h q.1)
theorem upL_at {c j : Nat} {v : Int64} : (upL m c j v).2 c j = v := by
  unfold upL
  exact if_pos ⟨rfl, rfl⟩
theorem upL_nj {c j i : Nat} {v : Int64} (h : i ≠ j) : (upL m c j v).2 c i = m.2 c i := by
  unfold upL
  exact if_neg (fun q => h q.2)
theorem upL_1 {c j : Nat} {v : Int64} : (upL m c j v).1 = m.1 := rfl
theorem zTpe_tr (h1 : mC'.1 1 1 = mC.1 1 1) (h2 : mC'.1 2 = mC.1 2) (h3 : mM'.1 0 3 = mM.1 0 3) (h4 : mM'.1 1 = mM.1 1) (H : zTpe n b mC mM) : zTpe n b mC' mM' := by
  unfold zTpe
  rw [h1, h2, h3, h4]
  exact H
theorem zC_tape (H : zTpe n b mC mM) (hp : p < n) : Tape_at mC 1 (Int32.ofNat p) = some (Int32.ofNat (b p)) := by
  have := H.1
  rw [zC_at (by omega), (H.2.2.2 p hp).2.1]
theorem zM_peek (H : zTpe n b mC mM) (h4 : mM.1 0 4 = Int32.ofNat p) (hp : p ≤ n) : M_peek mM = some (if p < n then Int32.ofNat (b p) else -1) := by
  have h940 := H.1
  unfold M_peek
  rw [h4, H.2.2.1]
  by_cases h : p < n
  · rw [if_pos ((z_lt (by omega) (by omega)).mpr h), z_ix (show p < 940 by omega) (by omega), Option.bind_some, (H.2.2.2 p h).2.2, if_pos h]
  · rw [if_neg (fun q => h ((z_lt (by omega) (by omega)).mp q)), if_neg h]
def zLet (c : Nat) : Bool := decide (97 ≤ c ∧ c ≤ 122)
def zDig (c : Nat) : Bool := decide (48 ≤ c ∧ c ≤ 57)
theorem zM_small {c : Nat} (hc : c < 256) : M_isSmall m (Int32.ofNat c) = some (zb (zLet c)) := by
  unfold M_isSmall zLet
  by_cases h1 : c < 97
  · rw [if_pos (show Int32.ofNat c < 97 from (z_lt (b := 97) (by omega) (by omega)).mpr h1), decide_eq_false (by omega)]; rfl
  · rw [if_neg (show ¬ Int32.ofNat c < 97 from fun q => h1 ((z_lt (b := 97) (by omega) (by omega)).mp q))]
    by_cases h2 : 122 < c
    · rw [if_pos (show 122 < Int32.ofNat c from (z_lt (a := 122) (by omega) (by omega)).mpr h2), decide_eq_false (by omega)]; rfl
    · rw [if_neg (show ¬ 122 < Int32.ofNat c from fun q => h2 ((z_lt (a := 122) (by omega) (by omega)).mp q)), decide_eq_true (by omega)]; rfl
theorem zM_digit {c : Nat} (hc : c < 256) : M_isDigit m (Int32.ofNat c) = some (zb (zDig c)) := by
  unfold M_isDigit zDig
  by_cases h1 : c < 48
  · rw [if_pos (show Int32.ofNat c < 48 from (z_lt (b := 48) (by omega) (by omega)).mpr h1), decide_eq_false (by omega)]; rfl
  · rw [if_neg (show ¬ Int32.ofNat c < 48 from fun q => h1 ((z_lt (b := 48) (by omega) (by omega)).mp q))]
    by_cases h2 : 57 < c
    · rw [if_pos (show 57 < Int32.ofNat c from (z_lt (a := 57) (by omega) (by omega)).mpr h2), decide_eq_false (by omega)]; rfl
    · rw [if_neg (show ¬ 57 < Int32.ofNat c from fun q => h2 ((z_lt (a := 57) (by omega) (by omega)).mp q)), decide_eq_true (by omega)]; rfl
theorem zM_small1 : M_isSmall m (-1) = some 0 := rfl
theorem zM_digit1 : M_isDigit m (-1) = some 0 := rfl
theorem zC_numb {nm5 : Nat → List Nat} {w : List Nat} {q N cnt : Nat} (hN : N < 1000) (hcnt : cnt ≤ N) (hn : ∀ k, k < cnt → zVw (nm5 k) ∧ m.2 q k = Int64.ofNat (zE5 (nm5 k))) (hw : zVw w) : Tokens_numberOf m q N (Int32.ofNat cnt) (Int64.ofNat (zE5 w)) = some (zN (zFst (fun k => decide (nm5 k = w)) cnt)) := by
  unfold Tokens_numberOf
  have h := z_scan (fun f i => Tokens_numberOf_b3 m q N (Int32.ofNat cnt) (Int64.ofNat (zE5 w)) f (Int32.ofNat i)) cnt (fun k => decide (nm5 k = w)) (fun i => some (Int32.ofNat i)) (some (-1)) (fun f i hi hp => ?_) (fun f i hi hp => ?_) (fun f => ?_) (fuel := 1000) (by omega)
  · refine h.trans ?_
    cases zFst (fun k => decide (nm5 k = w)) cnt <;> rfl
  · rw [Tokens_numberOf_b3, if_pos ((z_lt (by omega) (by omega)).mpr hi), if_pos (show Int32.ofNat i < nI N from (z_lt (b := N) (by omega) (by omega)).mpr (by omega)), z_ix (show i < N by omega) (by omega), Option.bind_some, (hn i hi).2, if_pos ((z_lcmp _ _).mpr ((z_w5 (hn i hi).1 hw).mpr (of_decide_eq_true hp)))]
  · rw [Tokens_numberOf_b3, if_pos ((z_lt (by omega) (by omega)).mpr hi), if_pos (show Int32.ofNat i < nI N from (z_lt (b := N) (by omega) (by omega)).mpr (by omega)), z_ix (show i < N by omega) (by omega), Option.bind_some, (hn i hi).2, if_neg (fun e => of_decide_eq_false hp ((z_w5 (hn i hi).1 hw).mp ((z_lcmp _ _).mp e))), z_s]
  · rw [Tokens_numberOf_b3, if_neg (fun e => Nat.lt_irrefl _ ((z_lt (by omega) (by omega)).mp e))]
theorem zM_find {nm8 : Nat → List Nat} {w : List Nat} {q cnt : Nat} (hcnt : q + cnt ≤ 40) (hn : ∀ k, k < cnt → zVw (nm8 k) ∧ m.2 5 (q + k) = Int64.ofNat (zE8 (nm8 k))) (hw : zVw w) (h17 : m.2 0 17 = Int64.ofNat (zE8 w)) : M_find m (Int32.ofNat q) (Int32.ofNat cnt) = some (zN (zFst (fun k => decide (nm8 k = w)) cnt)) := by
  unfold M_find
  have h := z_scan (fun f i => M_find_b2 m (Int32.ofNat q) (Int32.ofNat cnt) f (Int32.ofNat i)) cnt (fun k => decide (nm8 k = w)) (fun i => some (Int32.ofNat i)) (some (-1)) (fun f i hi hp => ?_) (fun f i hi hp => ?_) (fun f => ?_) (fuel := 1000) (by omega)
  · refine h.trans ?_
    cases zFst (fun k => decide (nm8 k = w)) cnt <;> rfl
  · rw [M_find_b2, if_pos ((z_lt (by omega) (by omega)).mpr hi), z_add, z_ix (show q + i < 40 by omega) (by omega), Option.bind_some, (hn i hi).2, h17, if_pos ((z_lcmp _ _).mpr ((z_w8 (hn i hi).1 hw).mpr (of_decide_eq_true hp)))]
  · rw [M_find_b2, if_pos ((z_lt (by omega) (by omega)).mpr hi), z_add, z_ix (show q + i < 40 by omega) (by omega), Option.bind_some, (hn i hi).2, h17, if_neg (fun e => of_decide_eq_false hp ((z_w8 (hn i hi).1 hw).mp ((z_lcmp _ _).mp e))), z_s]
  · rw [M_find_b2, if_neg (fun e => Nat.lt_irrefl _ ((z_lt (by omega) (by omega)).mp e))]
/-- a run, so far: L letters, D digits; the first is a letter or is none -/
def zRi (small : Bool) (p i L D : Nat) (C0 M0 mC mM : xMem) : Prop :=
  L + D = i ∧ mC.1 3 3 = Int32.ofNat (p + i) ∧ mM.1 0 4 = Int32.ofNat (p + i) ∧ mM.1 0 13 = Int32.ofNat i ∧ mC.1 3 8 = -1 ∧ zGf C0 mC M0 mM ∧
  (small = true → D = 0 → i ≤ 7 → ∃ w, w.length = i ∧ (∀ x ∈ w, 1 ≤ x ∧ x ≤ 26) ∧ mC.2 3 9 = Int64.ofNat (zE5 w) ∧ mM.2 0 17 = Int64.ofNat (zE8 w)) ∧
  (small = false → L = 0 → i ≤ 3 → ∃ v, v < 10 ^ i ∧ mC.1 3 7 = Int32.ofNat v ∧ mM.1 0 14 = Int32.ofNat v) ∧
  (1 ≤ i → if small then 1 ≤ L else 1 ≤ D)
def zAl1 (small : Bool) (L D : Nat) : Bool := if small then decide (D = 0) else decide (L = 0)
end ZTO
