/-! Layer 2. best: the model's walk, all of it -/
theorem zM_walk {m : xMem} {w : Nat → Nat → Nat} {O B : Nat} (hw : ∀ o b, w o b ≤ 24) (hOB : O ≤ B) (hB : B ≤ 6) (h35 : m.1 0 35 = Int32.ofNat O) (h11 : ∀ o b, o < O → b < B → m.1 11 (6 * o + b) = Int32.ofNat (w o b)) (hr : ∀ k, k ≤ O → zRr w O B m k) : ∃ v m', M_best_b145 1000 0 0 m = some (v, m') ∧ v.toInt = zRs w O B O 0 ∧ (∀ c, c ≠ 13 → m'.1 c = m.1 c) ∧ m'.2 = m.2 ∧ ∀ q, q < O → m'.1 13 q = Int32.ofNat (zGb w O B q) := by
  refine z_loopX (fun f i m' => M_best_b145 f (Int32.ofNat (zGu w O B i)) (Int32.ofNat i) m') O (fun i m' => (∀ c, c ≠ 13 → m'.1 c = m.1 c) ∧ m'.2 = m.2 ∧ ∀ q, q < i → m'.1 13 q = Int32.ofNat (zGb w O B q)) (fun r => ∃ v m', r = some (v, m') ∧ v.toInt = zRs w O B O 0 ∧ (∀ c, c ≠ 13 → m'.1 c = m.1 c) ∧ m'.2 = m.2 ∧ ∀ q, q < O → m'.1 13 q = Int32.ofNat (zGb w O B q)) (fun f i m1 hi hI => ?_) (fun f m1 hI => ?_) O 0 1000 m (by omega) (by omega) ⟨fun _ _ => rfl, rfl, fun q hq => by omega⟩
  · obtain ⟨i1, i2, i3⟩ := hI
    right
    obtain ⟨g1, g2⟩ := zGu_ok hw hOB hB i (by omega)
    obtain ⟨b, hb⟩ := zPick_ex (w := w) (O := O) (B := B) (i := i) (u := zGu w O B i) hw hi (by omega)
    have eu : zGu w O B (i + 1) = zGu w O B i ||| 2 ^ b := by rw [zGu, hb]
    have eb : zGb w O B i = b := by unfold zGb; rw [hb]; rfl
    have hp := zM_pick (m := m1) (u := zGu w O B i) (b0 := b) (k145 := M_best_b145 f) hw (by omega) hB hi g1 (fun b' hb' => by rw [i1 11 (by omega)]; exact h11 i b' hi hb') (fun k hk u hu => by rw [i1 12 (by omega)]; exact hr k hk u hu) hb
    refine ⟨upI m1 13 i (Int32.ofNat b), ⟨fun c hc => by rw [upI_ne' hc, i1 c hc], i2, fun q hq => ?_⟩, ?_⟩
    · by_cases h : q = i
      · rw [h, upI_at, eb]
      · rw [upI_nj h, i3 q (by omega)]
    · rw [M_best_b145, i1 0 (by omega), h35, if_pos ((z_lt (by omega) (by omega)).mpr hi), hp, eu]
  · obtain ⟨i1, i2, i3⟩ := hI
    rw [M_best_b145, i1 0 (by omega), h35, if_neg (fun q => Nat.lt_irrefl _ ((z_lt (by omega) (by omega)).mp q)), i1 12 (by omega)]
    refine ⟨_, _, rfl, ?_, i1, i2, i3⟩
    have := hr O (by omega) 0 (by omega)
    rw [Nat.sub_self] at this
    exact this
