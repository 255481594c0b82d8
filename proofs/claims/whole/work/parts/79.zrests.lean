/-! Layer 2. best: all of the model's rests -/
def zF12 (m m' : xMem) : Prop := (∀ c, c ≠ 12 → m'.1 c = m.1 c) ∧ m'.2 = m.2
theorem zM_rests {m : xMem} {w : Nat → Nat → Nat} {O B : Nat} {R : Option (Int32 × xMem) → Prop} (hw : ∀ o b, w o b ≤ 24) (h0 : m.1 2 0 = Int32.ofNat B) (h1 : m.1 2 1 = Int32.ofNat O) (hO : O ≤ 6) (hB : B ≤ 6) (h11 : ∀ o b, o < O → b < B → m.1 11 (6 * o + b) = Int32.ofNat (w o b)) (hk : ∀ m', zF12 m m' → (∀ k, k ≤ O → zRr w O B m' k) → R (M_best_b145 1000 0 0 (upI m' 0 35 (Int32.ofNat O)))) : R (M_best_b11 1000 0 m) := by
  refine z_loopX (fun f u m' => M_best_b11 f (Int32.ofNat u) m') 64 (fun u m' => zF12 m m' ∧ ∀ q, q < u → m'.1 12 (64 * O + q) = 0) R (fun f u m1 hu hI => ?_) (fun f m1 hI => ?_) 64 0 1000 m (by omega) (by omega) ⟨⟨fun _ _ => rfl, rfl⟩, fun q hq => by omega⟩
  · obtain ⟨⟨f1, f2⟩, hz⟩ := hI
    right
    refine ⟨upI m1 12 (64 * O + u) 0, ⟨⟨fun c hc => by rw [upI_ne' hc, f1 c hc], f2⟩, fun q hq => ?_⟩, ?_⟩
    · by_cases h : q = u
      · rw [h, upI_at]
      · rw [upI_nj (by omega), hz q (by omega)]
    · rw [M_best_b11, if_pos (show Int32.ofNat u < 64 from (z_lt (b := 64) (by omega) (by omega)).mpr hu), f1 2 (by omega), h1, show (64 * Int32.ofNat O : Int32) = Int32.ofNat (64 * O) from z_mul 64 O, z_add, z_ix (show 64 * O + u < 448 by omega) (by omega), Option.bind_some, nm_eq, z_s]
  · obtain ⟨⟨f1, f2⟩, hz⟩ := hI
    rw [M_best_b11, if_neg (show ¬ Int32.ofNat 64 < 64 by decide), nm_eq, f1 2 (by omega), h1, Int32.sub_eq_add_neg]
    refine z_loopX (fun f k m' => M_best_b49 f (Int32.ofNat (O - k) + (-1)) m') O (fun k m' => zF12 m m' ∧ ∀ k', k' ≤ k → zRr w O B m' k') R (fun f k m1 hkO hI => ?_) (fun f m1 hI => ?_) O 0 1000 m1 (by omega) (by omega) ⟨⟨f1, f2⟩, fun k' hk' u hu => ?_⟩
    · obtain ⟨hF, hrows⟩ := hI
      right
      rw [z_addm1 (show 1 ≤ O - k by omega) (by omega)]
      have hrow : ∃ m', (zF12 m m' ∧ ∀ k', k' ≤ k + 1 → zRr w O B m' k') ∧ M_best_b55 (M_best_b49 f) 1000 (Int32.ofNat (O - k - 1)) 0 m1 = M_best_b49 f (Int32.ofNat (O - (k + 1)) + (-1)) m' := by
        refine z_loopX (fun g u m' => M_best_b55 (M_best_b49 f) g (Int32.ofNat (O - k - 1)) (Int32.ofNat u) m') 64 (fun u m' => zF12 m m' ∧ (∀ k', k' ≤ k → zRr w O B m' k') ∧ ∀ q, q < u → (m'.1 12 (64 * (O - k - 1) + q)).toInt = zRs w O B (k + 1) q) (fun r => ∃ m', (zF12 m m' ∧ ∀ k', k' ≤ k + 1 → zRr w O B m' k') ∧ r = M_best_b49 f (Int32.ofNat (O - (k + 1)) + (-1)) m') (fun g u m2 hu hI => ?_) (fun g m2 hI => ?_) 64 0 1000 m1 (by omega) (by omega) ⟨hF, hrows, fun q hq => by omega⟩
        · obtain ⟨⟨a1, a2⟩, a3, a4⟩ := hI
          right
          have := zM_restRow (m := m2) (w := w) (O := O) (B := B) (o := O - k - 1) (u := u) (k49 := M_best_b49 f) (k55 := M_best_b55 (M_best_b49 f) g) (R := fun r => ∃ m3, (zF12 m m3 ∧ (∀ k', k' ≤ k → zRr w O B m3 k') ∧ ∀ q, q < u + 1 → (m3.1 12 (64 * (O - k - 1) + q)).toInt = zRs w O B (k + 1) q) ∧ r = M_best_b55 (M_best_b49 f) g (Int32.ofNat (O - k - 1)) (Int32.ofNat (u + 1)) m3) hw (by rw [a1 2 (by omega)]; exact h0) hO hB (by omega) hu (fun b hb => by rw [a1 11 (by omega)]; exact h11 _ b (by omega) hb) (by rw [show O - (O - k - 1 + 1) = k by omega]; exact a3 k (by omega)) (fun v hv => ?_)
          · obtain ⟨m3, p1, p2⟩ := this
            refine ⟨m3, p1, ?_⟩
            rw [M_best_b55, if_pos (show Int32.ofNat u < 64 from (z_lt (b := 64) (by omega) (by omega)).mpr hu)]
            exact p2
          · rw [show O - (O - k - 1) = k + 1 by omega] at hv
            refine ⟨upI m2 12 (64 * (O - k - 1) + u) v, ⟨⟨fun c hc => by rw [upI_ne' hc, a1 c hc], a2⟩, fun k' hk' u' hu' => ?_, fun q hq => ?_⟩, rfl⟩
            · rw [upI_nj (by omega)]
              exact a3 k' hk' u' hu'
            · by_cases h : q = u
              · rw [h, upI_at, hv]
              · rw [upI_nj (by omega)]
                exact a4 q (by omega)
        · obtain ⟨a1, a3, a4⟩ := hI
          rw [M_best_b55, if_neg (show ¬ Int32.ofNat 64 < 64 by decide)]
          refine ⟨m2, ⟨a1, fun k' hk' u hu => ?_⟩, by rw [show O - k - 1 = O - (k + 1) by omega]⟩
          by_cases h : k' = k + 1
          · subst h
            rw [show O - (k + 1) = O - k - 1 by omega]
            exact a4 u hu
          · exact a3 k' (by omega) u hu
      obtain ⟨m', p1, p2⟩ := hrow
      refine ⟨m', p1, ?_⟩
      rw [M_best_b49, if_neg (z_nn (by omega))]
      exact p2
    · obtain ⟨hF, hrows⟩ := hI
      rw [Nat.sub_self, M_best_b49, if_pos (show (Int32.ofNat 0 + (-1) : Int32) < 0 by decide), nm_eq, hF.1 2 (by omega), h1]
      exact hk m1 hF hrows
    · have hk0 : k' = 0 := by omega
      subst hk0
      rw [Nat.sub_zero, hz u hu, zRs]
      decide
