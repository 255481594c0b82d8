/-! Layer 2. best: what each owl is worth at each bed -/
def zW1 (σ : zR) (a o b : Nat) : Bool := !zShut (zAdv σ a) && (match zBest (fun i => zLoud σ i b) (fun i => (decide (i < zC σ) && zOn (zAdv σ a) i) && zHears σ o b i) (zC σ + 1) with | none => false | some i => decide (σ (49 + i) = σ (19 + b) - 1))
def zWt (σ : zR) (o b n : Nat) : Nat := zCnt (fun a => zW1 σ a o b) n
/-- the row so many hours ahead, no shout -/
def zQa (σ : zR) (a : Nat) : zR := fun j => if j = 97 then σ 97 + Int32.ofNat a else if j = 100 then 0 else σ j
section ZBW
variable {m m' mC mC' mM mM' M0 : xMem} {σ τ : zR} {o b a : Nat}
theorem zQa_j {j : Nat} (h1 : j ≠ 97) (h2 : j ≠ 100) : zQa σ a j = σ j := by
  unfold zQa
  rw [if_neg h1, if_neg h2]
theorem zSeen_Qa (hc : zCt σ) (hb : b < 6) (ho : o < 6) : (match zSeen (zQa σ a) o b with | none => false | some i => decide (σ (49 + i) = σ (19 + b) - 1)) = zW1 σ a o b ∧ ∀ i, zSeen (zQa σ a) o b = some i → i < zC σ := by
  have c8 := hc.2.2.2
  generalize hτ : zQa σ a = τ
  have hj : ∀ j, j ≠ 97 → j ≠ 100 → τ j = σ j := fun j h1 h2 => by rw [← hτ]; exact zQa_j h1 h2
  have h97 : τ 97 = σ 97 + Int32.ofNat a := by rw [← hτ]; unfold zQa; rw [if_pos rfl]
  have h100 : τ 100 = 0 := by rw [← hτ]; unfold zQa; rw [if_neg (by omega), if_pos rfl]
  have eC : zC τ = zC σ := zC_tr (hj 2 (by omega) (by omega))
  have eX : ∀ i, i < zC σ → zX τ i = zX σ i := fun i hi => by unfold zX; rw [eC, if_neg (by omega), if_neg (by omega), hj (57 + i) (by omega) (by omega)]
  have eY : ∀ i, i < zC σ → zY τ i = zY σ i := fun i hi => by unfold zY; rw [eC, if_neg (by omega), if_neg (by omega), hj (65 + i) (by omega) (by omega)]
  have eL : ∀ i, i < zC σ → zL τ i = zL σ i := fun i hi => by unfold zL; rw [eC, if_neg (by omega), if_neg (by omega), hj (73 + i) (by omega) (by omega)]
  have eK : ∀ i, i < zC σ → zK τ i = zK σ i := fun i hi => by unfold zK; rw [eC, if_neg (by omega), if_neg (by omega), hj (49 + i) (by omega) (by omega)]
  have eSd : ∀ x y, zSide τ b x y = zSide σ b x y := fun x y => by unfold zSide; rw [hj (7 + b) (by omega) (by omega), hj (13 + b) (by omega) (by omega)]
  have eFr : ∀ x y, zFar τ b x y = zFar σ b x y := fun x y => by unfold zFar; rw [hj (7 + b) (by omega) (by omega), hj (13 + b) (by omega) (by omega)]
  have eHs : ∀ i, i < zC σ → zHears τ o b i = zHears σ o b i := fun i hi => by
    unfold zHears zHears0
    rw [eK i hi, eX i hi, eY i hi, eL i hi, eSd, eFr, hj (43 + o) (by omega) (by omega), hj (37 + o) (by omega) (by omega), hj (31 + o) (by omega) (by omega)]
  have a97 : zAdv σ a 97 = σ 97 + Int32.ofNat a := zAdv_97
  have aj : ∀ j, j ≠ 97 → j ≠ 100 → zAdv σ a j = σ j := fun j h1 h2 => zAdv_j h1 h2
  have eSh : zShut τ = zShut (zAdv σ a) := by unfold zShut; rw [hj 5 (by omega) (by omega), hj 6 (by omega) (by omega), h97, aj 5 (by omega) (by omega), aj 6 (by omega) (by omega), a97]
  have aC : zC (zAdv σ a) = zC σ := zC_tr (aj 2 (by omega) (by omega))
  have eOn : ∀ i, i ≤ zC σ → zOn τ i = (decide (i < zC σ) && zOn (zAdv σ a) i) := fun i hi => by
    unfold zOn
    rw [eC, aC]
    by_cases h : i = zC σ
    · rw [if_pos h, h100, h, decide_eq_false (Nat.lt_irrefl _)]
      rfl
    · rw [if_neg h, if_neg h, decide_eq_true (show i < zC σ by omega), Bool.true_and, hj 98 (by omega) (by omega), hj (81 + i) (by omega) (by omega), hj (89 + i) (by omega) (by omega), h97, aj 98 (by omega) (by omega), aj (81 + i) (by omega) (by omega), aj (89 + i) (by omega) (by omega), a97]
  have eHd : ∀ i, i ≤ zC σ → zHeard τ o b i = (!zShut (zAdv σ a) && ((decide (i < zC σ) && zOn (zAdv σ a) i) && zHears σ o b i)) := fun i hi => by
    unfold zHeard
    rw [eSh, eOn i hi]
    by_cases h : i < zC σ
    · rw [eHs i h]
    · rw [decide_eq_false h, Bool.false_and, Bool.false_and, Bool.false_and]
  have eBest : zSeen τ o b = if zShut (zAdv σ a) then none else zBest (fun i => zLoud σ i b) (fun i => (decide (i < zC σ) && zOn (zAdv σ a) i) && zHears σ o b i) (zC σ + 1) := by
    unfold zSeen
    rw [eC]
    cases hs : zShut (zAdv σ a) with
    | true =>
      rw [if_pos rfl]
      exact zBest_no (fun i hi => by rw [eHd i (by omega), hs]; rfl)
    | false =>
      rw [if_neg (by decide)]
      refine zBest_congr (fun i hi => by rw [eHd i (by omega), hs]; rfl) (fun i hi hp => ?_)
      have hlt : i < zC σ := by
        rw [eHd i (by omega)] at hp
        simp only [Bool.and_eq_true, decide_eq_true_eq] at hp
        exact hp.2.1.1
      unfold zLoud
      rw [eL i hlt, eX i hlt, eY i hlt, eFr]
  unfold zW1
  rw [eBest]
  cases hs : zShut (zAdv σ a) with
  | true =>
    rw [if_pos rfl]
    exact ⟨rfl, fun i h => by cases h⟩
  | false =>
    rw [if_neg (by decide)]
    refine ⟨rfl, fun i h => ?_⟩
    have := (zBest_lt h).2
    simp only [Bool.and_eq_true, decide_eq_true_eq] at this
    exact this.1.1
/-- so far counted -/
def zSo (σ : zR) (n o b o1 b1 : Nat) : Int32 := Int32.ofNat (zWt σ o1 b1 (if o1 < o ∨ (o1 = o ∧ b1 < b) then n + 1 else n))
theorem zSo_s {n o b : Nat} : zSo σ n o (b + 1) o b = Int32.ofNat (if zW1 σ n o b then zWt σ o b n + 1 else zWt σ o b n) ∧ zSo σ n o b o b = Int32.ofNat (zWt σ o b n) := by
  unfold zSo
  rw [if_pos (show o < o ∨ (o = o ∧ b < b + 1) from Or.inr ⟨rfl, by omega⟩), if_neg (show ¬ (o < o ∨ (o = o ∧ b < b)) by omega)]
  exact ⟨rfl, rfl⟩
theorem zSo_o {n o b o1 b1 : Nat} (h : ¬ (o1 = o ∧ b1 = b)) : zSo σ n o (b + 1) o1 b1 = zSo σ n o b o1 b1 := by
  unfold zSo
  by_cases h2 : o1 < o ∨ (o1 = o ∧ b1 < b)
  · rw [if_pos h2, if_pos (by omega)]
  · rw [if_neg h2, if_neg (by omega)]
theorem zSo_row {n o B o1 b1 : Nat} (h : b1 < B) : zSo σ n o B o1 b1 = zSo σ n (o + 1) 0 o1 b1 := by
  unfold zSo
  by_cases h2 : o1 < o ∨ (o1 = o ∧ b1 < B)
  · rw [if_pos h2, if_pos (by omega)]
  · rw [if_neg h2, if_neg (by omega)]
theorem zSo_hour {n O o1 b1 : Nat} (h : o1 < O) : zSo σ n O 0 o1 b1 = zSo σ (n + 1) 0 0 o1 b1 := by
  unfold zSo
  rw [if_pos (Or.inl h), if_neg (by omega)]
end ZBW
