/-! Layer 2. image, restore -/
section ZIR
variable {m m' mC mC' mM mM' : xMem} {σ τ : zR}
def zFillL (m : xMem) (k lo n : Nat) (f : Nat → Int64) : xMem := (m.1, fun a b => if a = k ∧ lo ≤ b ∧ b < lo + n then f (b - lo) else m.2 a b)
theorem zFillL_0 {k lo : Nat} {f : Nat → Int64} : zFillL m k lo 0 f = m := by
  unfold zFillL
  refine Prod.ext rfl ?_
  funext a b
  exact if_neg (by omega)
theorem zFillL_s {k lo n : Nat} {f : Nat → Int64} : upL (zFillL m k lo n f) k (lo + n) (f n) = zFillL m k lo (n + 1) f := by
  unfold zFillL upL
  refine Prod.ext rfl ?_
  funext a b
  show (if a = k ∧ b = lo + n then f n else if a = k ∧ lo ≤ b ∧ b < lo + n then f (b - lo) else m.2 a b) = if a = k ∧ lo ≤ b ∧ b < lo + (n + 1) then f (b - lo) else m.2 a b
  by_cases h : a = k ∧ b = lo + n
  · rw [if_pos h, if_pos ⟨h.1, by omega, by omega⟩, show b - lo = n by omega]
  · rw [if_neg h]
    by_cases h2 : a = k ∧ lo ≤ b ∧ b < lo + n
    · rw [if_pos h2, if_pos ⟨h2.1, h2.2.1, by omega⟩]
    · rw [if_neg h2, if_neg (fun h3 => by
        by_cases hb : b = lo + n
        · exact h ⟨h3.1, hb⟩
        · exact h2 ⟨h3.1, h3.2.1, by omega⟩)]
theorem zFillL_ne {k lo n a : Nat} {f : Nat → Int64} (h : a ≠ k) : (zFillL m k lo n f).2 a = m.2 a := by
  funext b
  unfold zFillL
  exact if_neg (fun h2 => h h2.1)
theorem zFillL_in {k lo n i : Nat} {f : Nat → Int64} (h : i < n) : (zFillL m k lo n f).2 k (lo + i) = f i := by
  unfold zFillL
  show (if k = k ∧ lo ≤ lo + i ∧ lo + i < lo + n then f (lo + i - lo) else m.2 k (lo + i)) = f i
  rw [if_pos ⟨rfl, by omega, by omega⟩, show lo + i - lo = i by omega]
theorem zFillL_out {k lo n b : Nat} {f : Nat → Int64} (h : b < lo ∨ lo + n ≤ b) : (zFillL m k lo n f).2 k b = m.2 k b := by
  unfold zFillL
  exact if_neg (fun h2 => by omega)
theorem zNms_tr2 {k k' c c' base base' : Nat} (hc : zCt σ) (hσ : ∀ j, j < 302 → τ j = σ j) (h : ∀ i, i < 6 → mC'.2 (k' + 1) i = mC.2 (k + 1) i ∧ mC'.2 (k' + 2) i = mC.2 (k + 2) i) (h8 : ∀ i, i < 8 → mC'.2 (k' + 3) i = mC.2 (k + 3) i) (hm : ∀ i, i < 20 → mM'.2 c' (base' + i) = mM.2 c (base + i)) (H : zNms mC k mM c base σ) : zNms mC' k' mM' c' base' τ := by
  have b6 := hc.1.2
  have o6 := hc.2.1.2
  have c8 := hc.2.2.2
  unfold zNms
  rw [zB_tr (hσ 0 (by omega)), zO_tr (hσ 1 (by omega)), zC_tr (hσ 2 (by omega))]
  obtain ⟨a, b, d⟩ := H
  refine ⟨fun i hi => ?_, fun i hi => ?_, fun i hi => ?_⟩
  · rw [(h i (by omega)).1, hm i (by omega)]; exact a i hi
  · rw [(h i (by omega)).2, Nat.add_assoc, hm (6 + i) (by omega), ← Nat.add_assoc]; exact b i hi
  · rw [h8 i (by omega), Nat.add_assoc, hm (12 + i) (by omega), ← Nat.add_assoc]; exact d i hi
end ZIR
theorem zM_im1 {m : xMem} {k : Nat} (hk : k < 2) : M_image_b18 (Int32.ofNat k) 1000 0 m = some (1, upI (zFillL (zFill m 21 (302 * k) 302 (fun i => m.1 2 i)) 22 (20 * k) 20 (fun i => m.2 5 i)) 23 k 1) := by
  have h0 : ∀ m0 a, m0 = zFill m 21 (302 * k) 0 (fun i => m.1 2 i) → a = Int32.ofNat 0 → M_image_b18 (Int32.ofNat k) 1000 a m0 = some (1, upI (zFillL (zFill m 21 (302 * k) 302 (fun i => m.1 2 i)) 22 (20 * k) 20 (fun i => m.2 5 i)) 23 k 1) := by
    intro m0 a e ea
    subst e
    subst ea
    refine z_loop (fun f i => M_image_b18 (Int32.ofNat k) f (Int32.ofNat i) (zFill m 21 (302 * k) i (fun i => m.1 2 i))) 302 _ (fun f i hi => ?_) (fun f => ?_) 302 0 1000 (by omega) (by omega)
    · rw [M_image_b18, if_pos (show Int32.ofNat i < 302 from (z_lt (b := 302) (by omega) (by omega)).mpr hi), z_ix hi (by omega), Option.bind_some, show (302 * Int32.ofNat k : Int32) = Int32.ofNat (302 * k) from z_mul 302 k, z_add, z_ix (show 302 * k + i < 604 by omega) (by omega), Option.bind_some, nm_eq, zFill_ne (a := 2) (by omega), z_s, zFill_s (f := fun i => m.1 2 i)]
    · rw [M_image_b18, if_neg (show ¬ Int32.ofNat 302 < 302 by decide)]
      generalize em : zFill m 21 (302 * k) 302 (fun i => m.1 2 i) = m1
      have em2 : m1.2 = m.2 := by rw [← em]; rfl
      have h1 : ∀ m0 a, m0 = zFillL m1 22 (20 * k) 0 (fun i => m.2 5 i) → a = Int32.ofNat 0 → M_image_b51 (Int32.ofNat k) 1000 a m0 = some (1, upI (zFillL m1 22 (20 * k) 20 (fun i => m.2 5 i)) 23 k 1) := by
        intro m0 a e ea
        subst e
        subst ea
        refine z_loop (fun f i => M_image_b51 (Int32.ofNat k) f (Int32.ofNat i) (zFillL m1 22 (20 * k) i (fun i => m.2 5 i))) 20 _ (fun f i hi => ?_) (fun f => ?_) 20 0 1000 (by omega) (by omega)
        · rw [M_image_b51, if_pos (show Int32.ofNat i < 20 from (z_lt (b := 20) (by omega) (by omega)).mpr hi), z_ix (show i < 40 by omega) (by omega), Option.bind_some, show (20 * Int32.ofNat k : Int32) = Int32.ofNat (20 * k) from z_mul 20 k, z_add, z_ix (show 20 * k + i < 40 by omega) (by omega), Option.bind_some, nm_eq, zFillL_ne (a := 5) (by omega), em2, z_s, zFillL_s (f := fun i => m.2 5 i)]
        · rw [M_image_b51, if_neg (show ¬ Int32.ofNat 20 < 20 by decide), z_ix hk (by omega), Option.bind_some, nm_eq]
          rfl
      exact h1 _ _ zFillL_0.symm rfl
  exact h0 _ _ zFill_0.symm rfl
theorem zM_im2 {m : xMem} {k : Nat} (hk : k < 2) : M_restore_b27 (Int32.ofNat k) 1000 0 m = some (1, upI (zFillL (zFill m 2 0 302 (fun i => m.1 21 (302 * k + i))) 5 0 20 (fun i => m.2 22 (20 * k + i))) 0 24 0) := by
  have h0 : ∀ m0 a, m0 = zFill m 2 0 0 (fun i => m.1 21 (302 * k + i)) → a = Int32.ofNat 0 → M_restore_b27 (Int32.ofNat k) 1000 a m0 = some (1, upI (zFillL (zFill m 2 0 302 (fun i => m.1 21 (302 * k + i))) 5 0 20 (fun i => m.2 22 (20 * k + i))) 0 24 0) := by
    intro m0 a e ea
    subst e
    subst ea
    refine z_loop (fun f i => M_restore_b27 (Int32.ofNat k) f (Int32.ofNat i) (zFill m 2 0 i (fun i => m.1 21 (302 * k + i)))) 302 _ (fun f i hi => ?_) (fun f => ?_) 302 0 1000 (by omega) (by omega)
    · have hs := zFill_s (m := m) (k := 2) (lo := 0) (n := i) (f := fun i => m.1 21 (302 * k + i))
      rw [Nat.zero_add] at hs
      rw [M_restore_b27, if_pos (show Int32.ofNat i < 302 from (z_lt (b := 302) (by omega) (by omega)).mpr hi), show (302 * Int32.ofNat k : Int32) = Int32.ofNat (302 * k) from z_mul 302 k, z_add, z_ix (show 302 * k + i < 604 by omega) (by omega), Option.bind_some, z_ix hi (by omega), Option.bind_some, nm_eq, zFill_ne (a := 21) (by omega), z_s, hs]
    · rw [M_restore_b27, if_neg (show ¬ Int32.ofNat 302 < 302 by decide)]
      generalize em : zFill m 2 0 302 (fun i => m.1 21 (302 * k + i)) = m1
      have em2 : m1.2 = m.2 := by rw [← em]; rfl
      have h1 : ∀ m0 a, m0 = zFillL m1 5 0 0 (fun i => m.2 22 (20 * k + i)) → a = Int32.ofNat 0 → M_restore_b60 (Int32.ofNat k) 1000 a m0 = some (1, upI (zFillL m1 5 0 20 (fun i => m.2 22 (20 * k + i))) 0 24 0) := by
        intro m0 a e ea
        subst e
        subst ea
        refine z_loop (fun f i => M_restore_b60 (Int32.ofNat k) f (Int32.ofNat i) (zFillL m1 5 0 i (fun i => m.2 22 (20 * k + i)))) 20 _ (fun f i hi => ?_) (fun f => ?_) 20 0 1000 (by omega) (by omega)
        · have hs := zFillL_s (m := m1) (k := 5) (lo := 0) (n := i) (f := fun i => m.2 22 (20 * k + i))
          rw [Nat.zero_add] at hs
          rw [M_restore_b60, if_pos (show Int32.ofNat i < 20 from (z_lt (b := 20) (by omega) (by omega)).mpr hi), show (20 * Int32.ofNat k : Int32) = Int32.ofNat (20 * k) from z_mul 20 k, z_add, z_ix (show 20 * k + i < 40 by omega) (by omega), Option.bind_some, z_ix (show i < 40 by omega) (by omega), Option.bind_some, nm_eq, zFillL_ne (a := 22) (by omega), em2, z_s, hs]
        · rw [M_restore_b60, if_neg (show ¬ Int32.ofNat 20 < 20 by decide), nm_eq]
      exact h1 _ _ zFillL_0.symm rfl
  exact h0 _ _ zFill_0.symm rfl
theorem zP_image : lS_image zRel := by
  intro mC mM x hR
  have hR1 := zRel_thr hR 0
  unfold M_image
  rw [nm_eq]
  generalize upI mM 0 0 0 = m1 at hR1 ⊢
  unfold O_image
  rw [zM_in, z_lt5 (n := 1) (by decide), z_hasG (n := 2) (by omega) (by rfl), Option.bind_some]
  simp only [zb_0]
  cases hx : zIs 2 x with
  | false => exact ⟨0, mC, m1, rfl, rfl, hR1⟩
  | true =>
    obtain ⟨k, hk, rfl⟩ := zIs_q hx
    simp only [Bool.true_eq_false, if_false, if_true]
    obtain ⟨r1, r2, r3, r4, r5, r6, r7, r8, r9, r10, r11, r12, r13, r14, r15, r16⟩ := id hR1
    obtain ⟨m', e, a1, a2, a3, a4, a5, a6⟩ := zC_image (m := mC) (p := 5) (o := 184 + 38 * k) (by omega) r1.1 r2
    rw [z_ix hk (by omega), Option.bind_some, e, Option.bind_some, zM_im1 hk]
    generalize e1 : zFill m1 21 (302 * k) 302 (fun i => m1.1 2 i) = p1
    generalize e2 : zFillL p1 22 (20 * k) 20 (fun i => m1.2 5 i) = p2
    generalize e3 : upI p2 23 k 1 = p3
    have f1 : ∀ c, c ≠ 21 → c ≠ 23 → p3.1 c = m1.1 c := fun c c1 c2 => by
      rw [← e3, upI_ne' c2, ← e2]
      show p1.1 c = m1.1 c
      rw [← e1, zFill_ne c1]
    have f2 : ∀ c, c ≠ 22 → p3.2 c = m1.2 c := fun c c1 => by
      rw [← e3]
      show p2.2 c = m1.2 c
      rw [← e2, zFillL_ne c1, ← e1]
      rfl
    have f21 : ∀ i, i < 302 → p3.1 21 (302 * k + i) = m1.1 2 i := fun i hi => by
      rw [← e3, upI_ne' (by omega), ← e2]
      show p1.1 21 (302 * k + i) = m1.1 2 i
      rw [← e1, zFill_in hi]
    have f21o : ∀ j, j < 302 * k ∨ 302 * k + 302 ≤ j → p3.1 21 j = m1.1 21 j := fun j hj => by
      rw [← e3, upI_ne' (by omega), ← e2]
      show p1.1 21 j = m1.1 21 j
      rw [← e1, zFill_out hj]
    have f22 : ∀ i, i < 20 → p3.2 22 (20 * k + i) = m1.2 5 i := fun i hi => by
      rw [← e3]
      show p2.2 22 (20 * k + i) = m1.2 5 i
      rw [← e2, zFillL_in hi]
    have f22o : ∀ j, j < 20 * k ∨ 20 * k + 20 ≤ j → p3.2 22 j = m1.2 22 j := fun j hj => by
      rw [← e3]
      show p2.2 22 j = m1.2 22 j
      rw [← e2, zFillL_out hj, ← e1]
      rfl
    have f23 : p3.1 23 k = 1 := by rw [← e3, upI_at]
    have f23o : ∀ j, j ≠ k → p3.1 23 j = m1.1 23 j := fun j hj => by
      rw [← e3, upI_nj hj, ← e2]
      show p1.1 23 j = m1.1 23 j
      rw [← e1, zFill_ne (by omega)]
    have e22 : p3.1 2 = m1.1 2 := f1 2 (by omega) (by omega)
    have hC1 : ∀ c, c < 184 → m'.1 c = mC.1 c := fun c hc => a5 c (by omega)
    have hC2 : ∀ c, c < 184 → m'.2 c = mC.2 c := fun c hc => a6 c (by omega)
    have himg : ∀ q, q < 2 → zImg m' p3 q := by
      intro q hq
      by_cases hqk : q = k
      · subst hqk
        have hσ : ∀ j, j < 302 → zIr p3 q j = m1.1 2 j := fun j hj => f21 j hj
        exact Or.inr ⟨a2, f23, zWF_tr2 hσ r1, zIm_tr2 r1.1 hσ a1, zNms_tr2 (k := 6) (base := 0) r1.1 hσ (fun i hi => by have := a3 i hi; rw [show 185 + 38 * q + 1 = 184 + 38 * q + 2 by omega, show 185 + 38 * q + 2 = 184 + 38 * q + 3 by omega]; exact this) (fun i hi => by rw [show 185 + 38 * q + 3 = 184 + 38 * q + 4 by omega]; exact a4 i hi) (fun i hi => by rw [f22 i hi, Nat.zero_add]) r3⟩
      · have hσ : ∀ j, j < 302 → zIr p3 q j = zIr m1 q j := fun j hj => f21o (302 * q + j) (by omega)
        have hq5 := r5 q hq
        unfold zImg at hq5 ⊢
        rw [a5 (184 + 38 * q) (by omega), f23o q hqk]
        rcases hq5 with h | ⟨q0, q1, q2, q3, q4⟩
        · exact Or.inl h
        · refine Or.inr ⟨q0, q1, zWF_tr2 hσ q2, zIm_tr2 q2.1 hσ (zIm_tr q2.1 (fun d d1 d2 => a5 d (by omega)) q3), zNms_tr2 q2.1 hσ (fun i hi => ⟨?_, ?_⟩) (fun i hi => ?_) (fun i hi => ?_) q4⟩
          · rw [a6 _ (by omega)]
          · rw [a6 _ (by omega)]
          · rw [a6 _ (by omega)]
          · exact f22o (20 * q + i) (by omega)
    refine ⟨1, m', p3, rfl, rfl, ?_⟩
    unfold zRel
    rw [e22]
    refine ⟨r1, zIm_tr r1.1 (fun d h1 h2 => hC1 d (by omega)) r2, zNms_tr (fun d h1 h2 => hC2 d (by omega)) (f2 5 (by omega)) (fun _ _ => rfl) r3, zUn_tr r1.1 (fun d h1 h2 => hC1 d (by omega)) (f1 7 (by omega) (by omega)) (by rw [f1 0 (by omega) (by omega)]) (fun _ _ => rfl) r4, himg, zTp_tr (by rw [hC1 1 (by omega)]) (hC1 2 (by omega)) (by rw [f1 0 (by omega) (by omega)]) (f1 1 (by omega) (by omega)) r6, zRes_tr (hC2 4 (by omega)) (f2 6 (by omega)) r7, ?_, zLs_tr (by rw [hC1 165 (by omega)]) (hC1 166 (by omega)) (by rw [f1 0 (by omega) (by omega)]) (f1 9 (by omega) (by omega)) r9, ?_, zLs_tr (by rw [hC1 170 (by omega)]) (hC1 179 (by omega)) (by rw [f1 0 (by omega) (by omega)]) (f1 13 (by omega) (by omega)) r11, zLs_tr (by rw [hC1 0 (by omega)]) (hC1 182 (by omega)) (by rw [f1 0 (by omega) (by omega)]) (f1 14 (by omega) (by omega)) r12, ?_, ?_, zTo_tr (hC1 76 (by omega)) (by rw [f1 0 (by omega) (by omega)]) (f1 18 (by omega) (by omega)) r15, zWr_tr (by rw [hC1 180 (by omega)]) (hC1 181 (by omega)) (by rw [f1 0 (by omega) (by omega)]) (f1 17 (by omega) (by omega)) r16⟩
    · unfold zFa; rw [hC1 0 (by omega), f1 0 (by omega) (by omega)]; exact r8
    · unfold zSpN; rw [hC1 165 (by omega), f1 0 (by omega) (by omega)]; exact r10
    · unfold zKe; rw [hC1 0 (by omega), f1 0 (by omega) (by omega)]; exact r13
    · unfold zDu; rw [hC1 0 (by omega), f1 0 (by omega) (by omega)]; exact r14
theorem zP_restore : lS_restore zRel := by
  intro mC mM x hR
  have hR1 := zRel_thr hR 0
  unfold M_restore
  rw [nm_eq]
  generalize upI mM 0 0 0 = m1 at hR1 ⊢
  unfold O_restore
  rw [zM_in, z_lt5 (n := 1) (by decide), z_hasG (n := 2) (by omega) (by rfl), Option.bind_some]
  simp only [zb_0]
  cases hx : zIs 2 x with
  | false => exact ⟨0, mC, m1, rfl, rfl, hR1⟩
  | true =>
    obtain ⟨k, hk, rfl⟩ := zIs_q hx
    simp only [Bool.true_eq_false, if_false, if_true]
    obtain ⟨r1, r2, r3, r4, r5, r6, r7, r8, r9, r10, r11, r12, r13, r14, r15, r16⟩ := id hR1
    rw [z_ix hk (by omega), Option.bind_some, Option.bind_some, Option.bind_some]
    rcases r5 k hk with ⟨q0, q1⟩ | ⟨q0, q1, q2, q3, q4⟩
    · rw [q0, q1, if_pos rfl, if_pos rfl]
      exact ⟨0, mC, m1, rfl, rfl, hR1⟩
    · rw [q0, q1, if_neg (by decide), if_neg (by decide)]
      obtain ⟨m', e, a1, a2, a3, a4, a5, a6⟩ := zC_image (m := mC) (p := 184 + 38 * k) (o := 5) (by omega) q2.1 q3
      rw [e, Option.bind_some, zM_im2 hk]
      unfold Undo_forget
      rw [nm_eq, Option.bind_some]
      generalize e0 : upI m' 123 2 0 = p0
      generalize e1 : zFill m1 2 0 302 (fun i => m1.1 21 (302 * k + i)) = p1
      generalize e2 : zFillL p1 5 0 20 (fun i => m1.2 22 (20 * k + i)) = p2
      generalize e3 : upI p2 0 24 0 = p3
      have f1 : ∀ c, c ≠ 2 → c ≠ 0 → p3.1 c = m1.1 c := fun c c1 c2 => by
        rw [← e3, upI_ne' c2, ← e2]
        show p1.1 c = m1.1 c
        rw [← e1, zFill_ne c1]
      have f0 : ∀ j, j ≠ 24 → p3.1 0 j = m1.1 0 j := fun j hj => by
        rw [← e3, upI_nj hj, ← e2]
        show p1.1 0 j = m1.1 0 j
        rw [← e1, zFill_ne (by omega)]
      have f24 : p3.1 0 24 = 0 := by rw [← e3, upI_at]
      have f2 : ∀ c, c ≠ 5 → p3.2 c = m1.2 c := fun c c1 => by
        rw [← e3]
        show p2.2 c = m1.2 c
        rw [← e2, zFillL_ne c1, ← e1]
        rfl
      have hσ : ∀ i, i < 302 → p3.1 2 i = zIr m1 k i := fun i hi => by
        rw [← e3, upI_ne' (by omega), ← e2]
        show p1.1 2 i = zIr m1 k i
        have h := zFill_in (m := m1) (k := 2) (lo := 0) (n := 302) (f := fun i => m1.1 21 (302 * k + i)) hi
        rw [Nat.zero_add] at h
        rw [← e1, h]
        rfl
      have f5 : ∀ i, i < 20 → p3.2 5 (0 + i) = m1.2 22 (20 * k + i) := fun i hi => by
        rw [← e3]
        show p2.2 5 (0 + i) = _
        rw [← e2, zFillL_in hi]
      have hC1 : ∀ c, c < 5 ∨ 43 ≤ c → c ≠ 123 → p0.1 c = mC.1 c := fun c hc h => by rw [← e0, upI_ne' h]; exact a5 c (by omega)
      have hC2 : ∀ c, c < 7 ∨ 10 ≤ c → p0.2 c = mC.2 c := fun c hc => by
        rw [← e0]
        exact a6 c (by omega)
      have hC3 : ∀ c, c ≠ 123 → p0.1 c = m'.1 c := fun c h => by rw [← e0, upI_ne' h]
      have hL0 : p0.2 = m'.2 := by rw [← e0]; rfl
      obtain ⟨n9, top, u1, u2, u3, u4, u5, u6⟩ := r4
      refine ⟨1, p0, p3, rfl, rfl, zWF_tr2 hσ q2, zIm_tr2 q2.1 hσ (zIm_tr q2.1 (fun d d1 d2 => hC3 d (by omega)) a1), zNms_tr2 (k' := 6) (base' := 0) q2.1 hσ (fun i hi => ?_) (fun i hi => ?_) f5 q4, ⟨0, top, by omega, u2, ?_, ?_, f24, fun t ht => by omega⟩, fun q hq => zImg_tr hq (fun d d1 d2 => hC1 d (by omega) (by omega)) (fun d d1 d2 => hC2 d (by omega)) (f1 21 (by omega) (by omega)) (f1 23 (by omega) (by omega)) (f2 22 (by omega)) (r5 q hq), zTp_tr (by rw [hC1 1 (by omega) (by omega)]) (hC1 2 (by omega) (by omega)) (f0 2 (by omega)) (f1 1 (by omega) (by omega)) r6, zRes_tr (hC2 4 (by omega)) (f2 6 (by omega)) r7, ?_, zLs_tr (by rw [hC1 165 (by omega) (by omega)]) (hC1 166 (by omega) (by omega)) (f0 27 (by omega)) (f1 9 (by omega) (by omega)) r9, ?_, zLs_tr (by rw [hC1 170 (by omega) (by omega)]) (hC1 179 (by omega) (by omega)) (f0 35 (by omega)) (f1 13 (by omega) (by omega)) r11, zLs_tr (by rw [hC1 0 (by omega) (by omega)]) (hC1 182 (by omega) (by omega)) (f0 37 (by omega)) (f1 14 (by omega) (by omega)) r12, ?_, ?_, zTo_tr (hC1 76 (by omega) (by omega)) (f0 47 (by omega)) (f1 18 (by omega) (by omega)) r15, zWr_tr (by rw [hC1 180 (by omega) (by omega)]) (hC1 181 (by omega) (by omega)) (f0 43 (by omega)) (f1 17 (by omega) (by omega)) r16⟩
      · rw [hL0, show 185 + 38 * k + 1 = 184 + 38 * k + 2 by omega, show 185 + 38 * k + 2 = 184 + 38 * k + 3 by omega]
        exact a3 i hi
      · rw [hL0, show 185 + 38 * k + 3 = 184 + 38 * k + 4 by omega]
        exact a4 i hi
      · rw [← e0, upI_nj (by omega), a5 123 (by omega), u3]
      · rw [← e0, upI_at]; rfl
      · unfold zFa; rw [hC1 0 (by omega) (by omega), f0 15 (by omega)]; exact r8
      · unfold zSpN; rw [hC1 165 (by omega) (by omega), f0 28 (by omega)]; exact r10
      · unfold zKe; rw [hC1 0 (by omega) (by omega), f0 29 (by omega), f0 30 (by omega), f0 31 (by omega)]; exact r13
      · unfold zDu; rw [hC1 0 (by omega) (by omega), f0 40 (by omega), f0 41 (by omega)]; exact r14
