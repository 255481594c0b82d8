/-! Layer 2. best: the model's count -/
def zMo (σ : zR) (m : xMem) (n o b : Nat) : Prop := ∀ o1 b1, o1 < zO σ → b1 < zB σ → m.1 11 (6 * o1 + b1) = zSo σ n o b o1 b1
def zMf (M0 m : xMem) (n : Nat) : Prop := (∀ c, c ≠ 2 → c ≠ 8 → c ≠ 11 → m.1 c = M0.1 c) ∧ m.2 = M0.2 ∧ (∀ j, m.1 2 j = zQa (M0.1 2) n j) ∧ (∀ i, i < 24 → m.1 8 i = M0.1 2 (97 + i))
section ZBM
variable {m m' mC mC' mM mM' M0 : xMem} {σ τ : zR} {o b a : Nat}
theorem zM_cntBeds {k35 : Int32 → xMem → Option xMem} {k43 : Int32 → Int32 → xMem → Option xMem} {R : Option xMem → Prop} (hc : zCt (M0.1 2)) (ho : o < zO (M0.1 2)) {m1 : xMem} (hF : zMf M0 m1 a) (hB : zMo (M0.1 2) m1 a o 0) (hk : ∀ m2, zMf M0 m2 a → zMo (M0.1 2) m2 a (o + 1) 0 → R (k43 (Int32.ofNat a) (Int32.ofNat (o + 1)) m2)) : R (M_laysWorths_b55 k35 k43 1000 (Int32.ofNat a) (Int32.ofNat o) 0 m1) := by
  have o6 := hc.2.1.2
  have b6 := hc.1.2
  have c8 := hc.2.2.2
  have hcQ : zCt (zQa (M0.1 2) a) := zCt_tr (fun j hj => zQa_j (by omega) (by omega)) hc
  refine z_loopX (fun f b m1 => M_laysWorths_b55 k35 k43 f (Int32.ofNat a) (Int32.ofNat o) (Int32.ofNat b) m1) (zB (M0.1 2)) (fun b m1 => zMf M0 m1 a ∧ zMo (M0.1 2) m1 a o b) R (fun f b m1 hb hI => ?_) (fun f m1 hI => ?_) (zB (M0.1 2)) 0 1000 m1 (by omega) (by omega) ⟨hF, hB⟩
  · obtain ⟨⟨f1, f2, f3, f4⟩, hB⟩ := hI
    right
    obtain ⟨q1, q2⟩ := zSeen_Qa (σ := M0.1 2) (o := o) (b := b) (a := a) hc (by omega) (by omega)
    have h11 := hB o b ho hb
    rw [zSo_s.2] at h11
    have fin : ∀ (s0 : Int32), s0 = zb (zW1 (M0.1 2) a o b) → M_laysWorths_b119 k35 k43 (M_laysWorths_b55 k35 k43 f) (Int32.ofNat a) (Int32.ofNat o) (Int32.ofNat b) s0 (m1.1 11 (6 * o + b)) (Int32.ofNat (6 * o + b)) m1 = M_laysWorths_b55 k35 k43 f (Int32.ofNat a) (Int32.ofNat o) (Int32.ofNat (b + 1)) (upI m1 11 (6 * o + b) (Int32.ofNat (if zW1 (M0.1 2) a o b then zWt (M0.1 2) o b a + 1 else zWt (M0.1 2) o b a))) := fun s0 es => by
      subst es
      unfold M_laysWorths_b119
      rw [z_ix (show 6 * o + b < 36 by omega) (by omega), Option.bind_some, nm_eq, h11, z_s]
      cases zW1 (M0.1 2) a o b with
      | true => rw [show zb true = 1 from rfl, z_s]; rfl
      | false => rw [show zb false = 0 from rfl, Int32.add_zero]; rfl
    have keep : zMf M0 (upI m1 11 (6 * o + b) (Int32.ofNat (if zW1 (M0.1 2) a o b then zWt (M0.1 2) o b a + 1 else zWt (M0.1 2) o b a))) a ∧ zMo (M0.1 2) (upI m1 11 (6 * o + b) (Int32.ofNat (if zW1 (M0.1 2) a o b then zWt (M0.1 2) o b a + 1 else zWt (M0.1 2) o b a))) a o (b + 1) := by
      refine ⟨⟨fun c c1 c2 c3 => by rw [upI_ne' c3, f1 c c1 c2 c3], f2, fun j => by rw [upI_ne' (by omega), f3], fun i hi => by rw [upI_ne' (by omega), f4 i hi]⟩, fun o1 b1 h1 h2 => ?_⟩
      by_cases h : o1 = o ∧ b1 = b
      · obtain ⟨rfl, rfl⟩ := h
        rw [upI_at, zSo_s.1]
      · rw [zSo_o h, ← hB _ _ h1 h2, upI_nj (by omega)]
    rw [M_laysWorths_b55, f3 0, zQa_j (by omega) (by omega), hc.1.1, if_pos ((z_lt (by omega) (by omega)).mpr hb), zM_seen (fun j _ => f3 j) hcQ (by omega) (by omega), Option.bind_some, nm_eq, show (6 * Int32.ofNat o : Int32) = Int32.ofNat (6 * o) from z_mul 6 o, z_add, z_ix (show 6 * o + b < 36 by omega) (by omega), Option.bind_some]
    refine ⟨_, keep, ?_⟩
    cases hq : zSeen (zQa (M0.1 2) a) o b with
    | none =>
      rw [hq] at q1
      rw [if_pos (show zN none < 0 by decide)]
      exact fin 0 (by rw [← q1]; rfl)
    | some i =>
      have hi := q2 i hq
      rw [hq] at q1
      have q1' : decide ((M0.1 2) (49 + i) = (M0.1 2) (19 + b) - 1) = zW1 (M0.1 2) a o b := q1
      rw [if_neg (show ¬ zN (some i) < 0 from z_nn (by omega)), show zN (some i) = Int32.ofNat i from rfl, zi_49 (by omega), Option.bind_some, zi_19 (by omega), Option.bind_some, f3, f3, zQa_j (by omega) (by omega), zQa_j (by omega) (by omega)]
      by_cases hd : (M0.1 2) (49 + i) = (M0.1 2) (19 + b) - 1
      · rw [if_pos hd]
        exact fin 1 (by rw [← q1', decide_eq_true hd]; rfl)
      · rw [if_neg hd]
        exact fin 0 (by rw [← q1', decide_eq_false hd]; rfl)
  · obtain ⟨hF, hB⟩ := hI
    rw [M_laysWorths_b55, hF.2.2.1 0, zQa_j (by omega) (by omega), hc.1.1, if_neg (fun q => Nat.lt_irrefl _ ((z_lt (by omega) (by omega)).mp q)), z_s]
    exact hk m1 hF (fun o1 b1 h1 h2 => by rw [hB _ _ h1 h2, zSo_row h2])
theorem zM_cntHour {k35 : Int32 → xMem → Option xMem} {R : Option xMem → Prop} (hc : zCt (M0.1 2)) {m1 : xMem} (hF : zMf M0 m1 a) (hB : zMo (M0.1 2) m1 a 0 0) (hk : ∀ m2, zMf M0 m2 (a + 1) → zMo (M0.1 2) m2 (a + 1) 0 0 → R (k35 (Int32.ofNat (a + 1)) m2)) : R (M_laysWorths_b43 k35 1000 (Int32.ofNat a) 0 m1) := by
  have o6 := hc.2.1.2
  refine z_loopX (fun f o m1 => M_laysWorths_b43 k35 f (Int32.ofNat a) (Int32.ofNat o) m1) (zO (M0.1 2)) (fun o m1 => zMf M0 m1 a ∧ zMo (M0.1 2) m1 a o 0) R (fun f o m1 ho hI => ?_) (fun f m1 hI => ?_) (zO (M0.1 2)) 0 1000 m1 (by omega) (by omega) ⟨hF, hB⟩
  · obtain ⟨hF, hB⟩ := hI
    right
    obtain ⟨m2, h1, h2⟩ := zM_cntBeds (k35 := k35) (k43 := M_laysWorths_b43 k35 f) (R := fun r => ∃ m2, (zMf M0 m2 a ∧ zMo (M0.1 2) m2 a (o + 1) 0) ∧ r = M_laysWorths_b43 k35 f (Int32.ofNat a) (Int32.ofNat (o + 1)) m2) hc ho hF hB (fun m2 h1 h2 => ⟨m2, ⟨h1, h2⟩, rfl⟩)
    refine ⟨m2, h1, ?_⟩
    rw [M_laysWorths_b43, hF.2.2.1 1, zQa_j (by omega) (by omega), hc.2.1.1, if_pos ((z_lt (by omega) (by omega)).mpr ho)]
    exact h2
  · obtain ⟨⟨f1, f2, f3, f4⟩, hB⟩ := hI
    rw [M_laysWorths_b43, f3 1, zQa_j (by omega) (by omega), hc.2.1.1, if_neg (fun q => Nat.lt_irrefl _ ((z_lt (by omega) (by omega)).mp q)), nm_eq, z_s]
    refine hk _ ⟨fun c c1 c2 c3 => by rw [upI_ne' c1, f1 c c1 c2 c3], f2, fun j => ?_, fun i hi => by rw [upI_ne' (by omega), f4 i hi]⟩ (fun o1 b1 h1 h2 => by rw [upI_ne' (by omega), hB _ _ h1 h2, zSo_hour h1])
    have e97 : zQa (M0.1 2) a 97 = M0.1 2 97 + Int32.ofNat a := by unfold zQa; rw [if_pos rfl]
    by_cases h : j = 97
    · rw [h, upI_at, f3, e97]
      unfold zQa
      rw [if_pos rfl, Int32.add_assoc, z_s]
    · rw [upI_nj h, f3]
      unfold zQa
      rw [if_neg h, if_neg h]
theorem zM_worths (hc : zCt (M0.1 2)) : ∃ m', M_laysWorths M0 = some m' ∧ (∀ c, c ≠ 8 → c ≠ 11 → m'.1 c = M0.1 c) ∧ m'.2 = M0.2 ∧ ∀ o b, o < zO (M0.1 2) → b < zB (M0.1 2) → m'.1 11 (6 * o + b) = Int32.ofNat (zWt (M0.1 2) o b 24) := by
  have o6 := hc.2.1.2
  have b6 := hc.1.2
  unfold M_laysWorths
  rw [zM_tries, Option.bind_some, nm_eq]
  generalize e1 : upI (zFill M0 8 0 24 (fun i => M0.1 2 (97 + i))) 2 100 0 = m1
  have hF1 : zMf M0 m1 0 := by
    refine ⟨fun c c1 c2 c3 => by rw [← e1, upI_ne' c1, zFill_ne c2], by rw [← e1]; rfl, fun j => ?_, fun i hi => ?_⟩
    · by_cases h : j = 100
      · rw [h, ← e1, upI_at]
        unfold zQa
        rw [if_neg (by omega), if_pos rfl]
      · rw [← e1, upI_nj h, zFill_ne (by omega)]
        by_cases h97 : j = 97
        · rw [h97]
          unfold zQa
          rw [if_pos rfl]
          exact (Int32.add_zero _).symm
        · rw [zQa_j h97 h]
    · rw [← e1, upI_ne' (by omega)]
      have h := zFill_in (m := M0) (k := 8) (lo := 0) (n := 24) (f := fun i => M0.1 2 (97 + i)) hi
      rw [Nat.zero_add] at h
      exact h
  refine z_loopX (fun f i m => M_laysWorths_b14 f (Int32.ofNat i) m) 36 (fun i m => zMf M0 m 0 ∧ ∀ q, q < i → m.1 11 q = 0) (fun r => ∃ m', r = some m' ∧ (∀ c, c ≠ 8 → c ≠ 11 → m'.1 c = M0.1 c) ∧ m'.2 = M0.2 ∧ ∀ o b, o < zO (M0.1 2) → b < zB (M0.1 2) → m'.1 11 (6 * o + b) = Int32.ofNat (zWt (M0.1 2) o b 24)) (fun f i m hi hI => ?_) (fun f m hI => ?_) 36 0 1000 m1 (by omega) (by omega) ⟨hF1, fun q hq => by omega⟩
  · obtain ⟨⟨f1, f2, f3, f4⟩, hz⟩ := hI
    right
    refine ⟨upI m 11 i 0, ⟨⟨fun c c1 c2 c3 => by rw [upI_ne' c3, f1 c c1 c2 c3], f2, fun j => by rw [upI_ne' (by omega), f3], fun i hi => by rw [upI_ne' (by omega), f4 i hi]⟩, fun q hq => ?_⟩, ?_⟩
    · by_cases h : q = i
      · rw [h, upI_at]
      · rw [upI_nj h, hz q (by omega)]
    · rw [M_laysWorths_b14, if_pos (show Int32.ofNat i < 36 from (z_lt (b := 36) (by omega) (by omega)).mpr hi), z_ix hi (by omega), Option.bind_some, nm_eq, z_s]
  · obtain ⟨hF, hz⟩ := hI
    rw [M_laysWorths_b14, if_neg (show ¬ Int32.ofNat 36 < 36 by decide)]
    refine z_loopX (fun f a m => M_laysWorths_b35 f (Int32.ofNat a) m) 24 (fun a m => zMf M0 m a ∧ zMo (M0.1 2) m a 0 0) (fun r => ∃ m', r = some m' ∧ (∀ c, c ≠ 8 → c ≠ 11 → m'.1 c = M0.1 c) ∧ m'.2 = M0.2 ∧ ∀ o b, o < zO (M0.1 2) → b < zB (M0.1 2) → m'.1 11 (6 * o + b) = Int32.ofNat (zWt (M0.1 2) o b 24)) (fun f a m ha hI => ?_) (fun f m hI => ?_) 24 0 1000 m (by omega) (by omega) ⟨hF, fun o1 b1 h1 h2 => ?_⟩
    · obtain ⟨hF, hB⟩ := hI
      right
      obtain ⟨m2, h1, h2⟩ := zM_cntHour (k35 := M_laysWorths_b35 f) (R := fun r => ∃ m2, (zMf M0 m2 (a + 1) ∧ zMo (M0.1 2) m2 (a + 1) 0 0) ∧ r = M_laysWorths_b35 f (Int32.ofNat (a + 1)) m2) hc hF hB (fun m2 h1 h2 => ⟨m2, ⟨h1, h2⟩, rfl⟩)
      refine ⟨m2, h1, ?_⟩
      rw [M_laysWorths_b35, if_pos (show Int32.ofNat a < 24 from (z_lt (b := 24) (by omega) (by omega)).mpr ha)]
      exact h2
    · obtain ⟨⟨f1, f2, f3, f4⟩, hB⟩ := hI
      rw [M_laysWorths_b35, if_neg (show ¬ Int32.ofNat 24 < 24 by decide), zM_back, Option.bind_some]
      have h2 : (zFill m 2 97 24 (fun i => m.1 8 i)).1 2 = M0.1 2 := zM_taken_back (fun j hj => by rw [f3, zQa_j (by omega) (by omega)]) f4
      refine ⟨_, rfl, fun c c8 c11 => ?_, f2, fun o b h1 h2 => ?_⟩
      · by_cases hc2 : c = 2
        · rw [hc2]; exact h2
        · rw [zFill_ne hc2, f1 c hc2 c8 c11]
      · rw [zFill_ne (by omega), hB o b h1 h2]
        unfold zSo
        rw [if_neg (by omega)]
    · rw [hz _ (by omega)]
      unfold zSo
      rw [if_neg (by omega)]
      rfl
end ZBM
