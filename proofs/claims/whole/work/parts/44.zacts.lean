/-! Layer 2. Acts: the trial, what is kept to be undone -/
theorem z_rem {a b : Nat} (ha : a < 2147483648) (hb : b < 2147483648) : i_rem (Int32.ofNat a) (Int32.ofNat b) = Int32.ofNat (a % b) := by
  unfold i_rem
  have h1 := Nat.div_mul_le_self a b
  rw [← Int32.ofNat_div ha hb, ← Int32.ofNat_mul, ← Int32.ofNat_sub _ _ h1]
  congr 1
  have h2 := Nat.div_add_mod a b
  rw [Nat.mul_comm] at h2
  omega
theorem z_mul (a b : Nat) : Int32.ofNat a * Int32.ofNat b = Int32.ofNat (a * b) := (Int32.ofNat_mul a b).symm
theorem nm_eq {α β : Type} (x : α) (f : α → β) : nm x f = f x := rfl
section ZA
variable {m m' mC mC' mM mM' : xMem} {σ τ : zR}
theorem upR_ne' {k d : Nat} {f : Nat → Int32} (h : d ≠ k) : (upR m k f).1 d = m.1 d := by
  funext b
  unfold upR
  exact if_neg h
theorem upR_at' {k : Nat} {f : Nat → Int32} : (upR m k f).1 k = f := by
  funext b
  unfold upR
  exact if_pos rfl
theorem xcpy_lt {f g : Nat → Int32} {n i : Nat} (h : i < n) : xcpy f g n i = f i := by
  unfold xcpy
  exact if_pos h
/-- a state copied over another one -/
theorem zC_copy {o p : Nat} (h : o + 5 ≤ p ∨ p + 5 ≤ o) : ∃ m', State_copyFrom m o p = some m' ∧ zSame m p m' o ∧ (∀ c, c < o ∨ o + 5 ≤ c → m'.1 c = m.1 c) ∧ m'.2 = m.2 := by
  unfold State_copyFrom
  simp only [nm]
  generalize e1 : upI m o 0 (m.1 p 0) = m1
  generalize e2 : upI m1 o 1 (m1.1 p 1) = m2
  generalize e3 : upI m2 o 2 (m2.1 p 2) = m3
  generalize e4 : upR m3 (o + 1) (xcpy (m3.1 (p + 1)) (m3.1 (o + 1)) 4) = m4
  generalize e5 : upR m4 (o + 2) (xcpy (m4.1 (p + 2)) (m4.1 (o + 2)) 6) = m5
  generalize e6 : upR m5 (o + 3) (xcpy (m5.1 (p + 3)) (m5.1 (o + 3)) 6) = m6
  generalize e7 : upR m6 (o + 4) (xcpy (m6.1 (p + 4)) (m6.1 (o + 4)) 6) = m7
  have n1 : ∀ c, c ≠ o → m1.1 c = m.1 c := fun c h => by rw [← e1]; exact upI_ne' h
  have n2 : ∀ c, c ≠ o → m2.1 c = m.1 c := fun c h => by rw [← e2, upI_ne' h]; exact n1 c h
  have n3 : ∀ c, c ≠ o → m3.1 c = m.1 c := fun c h => by rw [← e3, upI_ne' h]; exact n2 c h
  have n4 : ∀ c, c ≠ o + 1 → m4.1 c = m3.1 c := fun c h => by rw [← e4]; exact upR_ne' h
  have n5 : ∀ c, c ≠ o + 2 → m5.1 c = m4.1 c := fun c h => by rw [← e5]; exact upR_ne' h
  have n6 : ∀ c, c ≠ o + 3 → m6.1 c = m5.1 c := fun c h => by rw [← e6]; exact upR_ne' h
  have n7 : ∀ c, c ≠ o + 4 → m7.1 c = m6.1 c := fun c h => by rw [← e7]; exact upR_ne' h
  refine ⟨m7, rfl, ⟨fun j hj => ?_, fun j hj => ?_, fun j hj => ⟨?_, ?_, ?_⟩⟩, fun c hc => ?_, ?_⟩
  · rw [n7 o (by omega), n6 o (by omega), n5 o (by omega), n4 o (by omega)]
    have h3 : j = 0 ∨ j = 1 ∨ j = 2 := by omega
    rcases h3 with rfl | rfl | rfl
    · rw [← e3, upI_nj (by omega), ← e2, upI_nj (by omega), ← e1, upI_at]
    · rw [← e3, upI_nj (by omega), ← e2, upI_at, n1 p (by omega)]
    · rw [← e3, upI_at, n2 p (by omega)]
  · rw [n7 (o + 1) (by omega), n6 (o + 1) (by omega), n5 (o + 1) (by omega), ← e4, upR_at', xcpy_lt hj, n3 (p + 1) (by omega)]
  · rw [n7 (o + 2) (by omega), n6 (o + 2) (by omega), ← e5, upR_at', xcpy_lt hj, n4 (p + 2) (by omega), n3 (p + 2) (by omega)]
  · rw [n7 (o + 3) (by omega), ← e6, upR_at', xcpy_lt hj, n5 (p + 3) (by omega), n4 (p + 3) (by omega), n3 (p + 3) (by omega)]
  · rw [← e7, upR_at', xcpy_lt hj, n6 (p + 4) (by omega), n5 (p + 4) (by omega), n4 (p + 4) (by omega), n3 (p + 4) (by omega)]
  · rw [n7 c (by omega), n6 c (by omega), n5 c (by omega), n4 c (by omega), n3 c (by omega)]
  · rw [← e7, ← e6, ← e5, ← e4, ← e3, ← e2, ← e1]; rfl
/-- a row kept to be undone: behind the others, or in place of the oldest -/
def zKp (m mK : xMem) (ρ : Nat → Int32) : Prop := ∃ n : Nat, n ≤ 8 ∧ m.1 0 24 = Int32.ofNat n ∧
  ((n < 8 ∧ mK.1 0 24 = Int32.ofNat (n + 1) ∧ (∀ t i, t < n → i < 24 → mK.1 7 (24 * t + i) = m.1 7 (24 * t + i)) ∧ ∀ i, i < 24 → mK.1 7 (24 * n + i) = ρ i) ∨
   (n = 8 ∧ mK.1 0 24 = Int32.ofNat 8 ∧ (∀ t i, t < 7 → i < 24 → mK.1 7 (24 * t + i) = m.1 7 (24 * (t + 1) + i)) ∧ ∀ i, i < 24 → mK.1 7 (24 * 7 + i) = ρ i))
theorem zM_keepL {k : Nat} (hk : m.1 0 24 = Int32.ofNat k) (h8 : k < 8) : M_keep_b47 1000 0 m = some (upI (zFill m 7 (24 * k) 24 (fun i => m.1 2 (97 + i))) 0 24 (Int32.ofNat (k + 1))) := by
  have h0 : ∀ m0, m0 = zFill m 7 (24 * k) 0 (fun i => m.1 2 (97 + i)) → M_keep_b47 1000 0 m0 = some (upI (zFill m 7 (24 * k) 24 (fun i => m.1 2 (97 + i))) 0 24 (Int32.ofNat (k + 1))) := by
    intro m0 e
    subst e
    refine z_loop (fun fuel i => M_keep_b47 fuel (Int32.ofNat i) (zFill m 7 (24 * k) i (fun i => m.1 2 (97 + i)))) 24 _ (fun fuel i hi => ?_) (fun fuel => ?_) 24 0 1000 (by omega) (by omega)
    · rw [M_keep_b47, if_pos (show Int32.ofNat i < 24 from (z_lt (b := 24) (by omega) (by omega)).mpr hi), show (97 + Int32.ofNat i : Int32) = Int32.ofNat (97 + i) from z_add 97 i, z_ix (by omega) (by omega), zFill_ne (a := 0) (by omega), hk, show (24 * Int32.ofNat k : Int32) = Int32.ofNat (24 * k) from z_mul 24 k, z_add, z_ix (by omega) (by omega)]
      simp only [Option.bind_some, nm, z_s]
      rw [zFill_ne (a := 2) (by omega), zFill_s]
    · rw [M_keep_b47, if_neg (show ¬ Int32.ofNat 24 < 24 by decide)]
      simp only [nm]
      rw [zFill_ne (a := 0) (by omega), hk, z_s]
  exact h0 _ zFill_0.symm
theorem zM_keepSs {m0 : xMem} {i F : Nat} (hi : i < 168) : M_keep_b11 (F + 1) (Int32.ofNat i) m0 = M_keep_b11 F (Int32.ofNat (i + 1)) (upI m0 7 i (m0.1 7 (i + 24))) := by
  rw [M_keep_b11, if_pos (show Int32.ofNat i < 168 from (z_lt (b := 168) (by omega) (by omega)).mpr hi), show (Int32.ofNat i + 24 : Int32) = Int32.ofNat (i + 24) from z_add i 24, z_ix (by omega) (by omega), z_ix (by omega) (by omega)]
  simp only [Option.bind_some, nm, z_s]
theorem zM_keepSe {m0 : xMem} {F : Nat} {r : Option xMem} (hr : M_keep_b47 1000 0 (upI m0 0 24 7) = r) : M_keep_b11 (F + 1) (Int32.ofNat 168) m0 = r := by
  rw [M_keep_b11, if_neg (show ¬ Int32.ofNat 168 < 168 by decide), nm_eq]
  exact hr
theorem zM_keepS {r : Option xMem} (hr : M_keep_b47 1000 0 (upI (zFill m 7 0 168 (fun i => m.1 7 (i + 24))) 0 24 7) = r) : M_keep_b11 1000 0 m = r := by
  have h0 : ∀ (m0 : xMem) (a : Int32), m0 = zFill m 7 0 0 (fun i => m.1 7 (i + 24)) → a = Int32.ofNat 0 → M_keep_b11 1000 a m0 = r := by
    intro m0 a e ea
    subst e
    subst ea
    refine z_loop (fun fuel i => M_keep_b11 fuel (Int32.ofNat i) (zFill m 7 0 i (fun i => m.1 7 (i + 24)))) 168 r (fun fuel i hi => ?_) (fun fuel => zM_keepSe hr) 168 0 1000 (by omega) (by omega)
    rw [zM_keepSs hi, zFill_out (by omega)]
    have h := zFill_s (m := m) (k := 7) (lo := 0) (n := i) (f := fun i => m.1 7 (i + 24))
    rw [Nat.zero_add] at h
    rw [h]
  exact h0 _ _ zFill_0.symm rfl
theorem zM_keep {n : Nat} (hn : m.1 0 24 = Int32.ofNat n) (h8 : n ≤ 8) : ∃ mK, M_keep m = some mK ∧ zKp m mK (fun i => m.1 2 (97 + i)) ∧ (∀ c, c ≠ 0 → c ≠ 7 → mK.1 c = m.1 c) ∧ mK.2 = m.2 ∧ (∀ j, j ≠ 24 → mK.1 0 j = m.1 0 j) := by
  unfold M_keep
  by_cases h : n = 8
  · subst h
    rw [if_pos (c := m.1 0 24 = 8) hn, zM_keepS (zM_keepL (k := 7) upI_at (by omega))]
    have e2 : (upI (zFill m 7 0 168 (fun i => m.1 7 (i + 24))) 0 24 7).1 2 = m.1 2 := by rw [upI_ne' (by omega), zFill_ne (by omega)]
    have e7 : (upI (zFill m 7 0 168 (fun i => m.1 7 (i + 24))) 0 24 7).1 7 = (zFill m 7 0 168 (fun i => m.1 7 (i + 24))).1 7 := upI_ne' (by omega)
    refine ⟨_, rfl, ⟨8, by omega, hn, Or.inr ⟨rfl, upI_at, fun t i ht hi => ?_, fun i hi => ?_⟩⟩, fun c h0 h7 => ?_, rfl, fun j hj => ?_⟩
    · rw [upI_ne' (by omega), zFill_out (by omega), e7]
      have h := zFill_in (m := m) (k := 7) (lo := 0) (n := 168) (f := fun i => m.1 7 (i + 24)) (i := 24 * t + i) (by omega)
      rw [Nat.zero_add] at h
      rw [h]
      show m.1 7 (24 * t + i + 24) = m.1 7 (24 * (t + 1) + i)
      rw [show 24 * t + i + 24 = 24 * (t + 1) + i by omega]
    · rw [upI_ne' (by omega), zFill_in hi, e2]
    · rw [upI_ne' h0, zFill_ne h7, upI_ne' h0, zFill_ne h7]
    · rw [upI_nj hj, zFill_ne (by omega), upI_nj hj, zFill_ne (by omega)]
  · rw [if_neg (c := m.1 0 24 = 8) (by rw [hn]; intro e; exact h ((z_eq (b := 8) (by omega) (by omega)).mp e)), zM_keepL hn (by omega)]
    refine ⟨_, rfl, ⟨n, h8, hn, Or.inl ⟨by omega, upI_at, fun t i ht hi => ?_, fun i hi => ?_⟩⟩, fun c h0 h7 => ?_, rfl, fun j hj => ?_⟩
    · rw [upI_ne' (by omega), zFill_out (by omega)]
    · rw [upI_ne' (by omega), zFill_in hi]
    · rw [upI_ne' h0, zFill_ne h7]
    · rw [upI_nj hj, zFill_ne (by omega)]
theorem zUr_in {t j : Nat} (h1 : 97 ≤ j) (h2 : j < 121) : zUr σ mM t j = mM.1 7 (24 * t + (j - 97)) := if_pos ⟨h1, h2⟩
theorem zUr_out {t j : Nat} (h : j < 97) : zUr σ mM t j = σ j := if_neg (by omega)
/-- what the class keeps, beside what the model keeps -/
theorem zUn_keep {n top : Nat} (hc : zCt σ) (hn : n ≤ 8) (htop : top < 8) (hM : mM.1 0 24 = Int32.ofNat n)
    (hall : ∀ t, t < n → zT mC (125 + 5 * ((top + 8 - n + t) % 8)) (zUr σ mM t) ∧ zU mC (125 + 5 * ((top + 8 - n + t) % 8)) (zUr σ mM t) ∧ zWs (zUr σ mM t))
    (hk : zKp mM mM' (fun i => σ (97 + i))) (hτ : ∀ j, j < 97 → τ j = σ j) (hT : zT mC 33 σ) (hU : zU mC 33 σ) (hw : zWs σ)
    (h1 : mC'.1 123 1 = Int32.ofNat ((top + 1) % 8)) (h2 : mC'.1 123 2 = Int32.ofNat (min 8 (n + 1))) (hs : zSame mC 33 mC' (125 + 5 * top)) (ho : ∀ c, 125 ≤ c → c < 165 → c < 125 + 5 * top ∨ 130 + 5 * top ≤ c → mC'.1 c = mC.1 c) : zUn mC' mM' τ := by
  have old : ∀ t t', t < n → (∀ i, i < 24 → mM'.1 7 (24 * t' + i) = mM.1 7 (24 * t + i)) → (top + 8 - n + t) % 8 ≠ top → zT mC' (125 + 5 * ((top + 8 - n + t) % 8)) (zUr τ mM' t') ∧ zU mC' (125 + 5 * ((top + 8 - n + t) % 8)) (zUr τ mM' t') ∧ zWs (zUr τ mM' t') := by
    intro t t' ht hrow hne
    obtain ⟨b1, b2, b3⟩ := hall t ht
    have hm : (top + 8 - n + t) % 8 < 8 := Nat.mod_lt _ (by omega)
    have hr : ∀ j, j < 121 → zUr τ mM' t' j = zUr σ mM t j := fun j hj => by
      by_cases h : 97 ≤ j
      · rw [zUr_in h hj, zUr_in h hj, hrow _ (by omega)]
      · rw [zUr_out (by omega), zUr_out (by omega), hτ j (by omega)]
    have hs2 : zSame mC (125 + 5 * ((top + 8 - n + t) % 8)) mC' (125 + 5 * ((top + 8 - n + t) % 8)) := zSame_of (fun c c1 c2 => ho c (by omega) (by omega) (by omega))
    have hc2 : zCt (zUr σ mM t) := zCt_ur hc
    exact ⟨zT_tr hc2 hs2 (fun j hj => hr j (by omega)) b1, zU_tr hc2 hs2 (hr 0 (by omega)) (fun j _ hj => hr j hj) b2, zWs_tr (fun j hj => hr j hj) b3 hc2⟩
  have new : ∀ t', (∀ i, i < 24 → mM'.1 7 (24 * t' + i) = σ (97 + i)) → zT mC' (125 + 5 * top) (zUr τ mM' t') ∧ zU mC' (125 + 5 * top) (zUr τ mM' t') ∧ zWs (zUr τ mM' t') := by
    intro t' hrow
    have hr : ∀ j, j < 121 → zUr τ mM' t' j = σ j := fun j hj => by
      by_cases h : 97 ≤ j
      · rw [zUr_in h hj, hrow _ (by omega), show 97 + (j - 97) = j by omega]
      · rw [zUr_out (by omega), hτ j (by omega)]
    exact ⟨zT_tr hc hs (fun j hj => hr j (by omega)) hT, zU_tr hc hs (hr 0 (by omega)) (fun j _ hj => hr j hj) hU, zWs_tr (fun j hj => hr j hj) hw hc⟩
  obtain ⟨n', q1, q2, q3⟩ := hk
  have hnn : n' = n := by
    rw [hM] at q2
    exact ((z_eq (by omega) (by omega)).mp q2).symm
  subst hnn
  rcases q3 with ⟨r1, r2, r3, r4⟩ | ⟨r1, r2, r3, r4⟩
  · refine ⟨n' + 1, (top + 1) % 8, by omega, Nat.mod_lt _ (by omega), h1, ?_, r2, fun t ht => ?_⟩
    · rw [h2, Nat.min_eq_right (by omega)]
    · by_cases htn : t = n'
      · subst htn
        have e : ((top + 1) % 8 + 8 - (t + 1) + t) % 8 = top := by omega
        rw [e]
        exact new t r4
      · have e : ((top + 1) % 8 + 8 - (n' + 1) + t) % 8 = (top + 8 - n' + t) % 8 := by omega
        rw [e]
        exact old t t (by omega) (fun i hi => r3 t i (by omega) hi) (by omega)
  · subst r1
    refine ⟨8, (top + 1) % 8, by omega, Nat.mod_lt _ (by omega), h1, h2, r2, fun t ht => ?_⟩
    by_cases htn : t = 7
    · subst htn
      have e : ((top + 1) % 8 + 8 - 8 + 7) % 8 = top := by omega
      rw [e]
      exact new 7 r4
    · have e : ((top + 1) % 8 + 8 - 8 + t) % 8 = (top + 8 - 8 + (t + 1)) % 8 := by omega
      rw [e]
      exact old (t + 1) t (by omega) (fun i hi => r3 t i (by omega) hi) (by omega)
theorem zC_keep {n top : Nat} (hn : n ≤ 8) (htop : top < 8) (h1 : m.1 123 1 = Int32.ofNat top) (h2 : m.1 123 2 = Int32.ofNat n) : ∃ m', Undo_keep m 33 = some m' ∧ m'.1 123 1 = Int32.ofNat ((top + 1) % 8) ∧ m'.1 123 2 = Int32.ofNat (min 8 (n + 1)) ∧ zSame m 33 m' (125 + 5 * top) ∧ (∀ c, c ≠ 123 → c < 125 + 5 * top ∨ 130 + 5 * top ≤ c → m'.1 c = m.1 c) ∧ m'.2 = m.2 := by
  unfold Undo_keep
  rw [h1, z_ix htop (by omega)]
  simp only [Option.bind_some]
  obtain ⟨r2, e, s1, s2, s3⟩ := zC_copy (m := m) (o := 125 + 5 * top) (p := 33) (by omega)
  rw [e]
  simp only [Option.bind_some, nm]
  have e123 : r2.1 123 = m.1 123 := s2 123 (by omega)
  have et : i_rem (r2.1 123 1 + 1) 8 = Int32.ofNat ((top + 1) % 8) := by
    rw [e123, h1, z_s, show (8 : Int32) = Int32.ofNat 8 from rfl, z_rem (by omega) (by omega)]
  refine ⟨_, rfl, ?_, ?_, ?_, fun c c1 c2 => ?_, s3⟩
  · rw [upI_nj (by omega), upI_at, et]
  · rw [upI_at, upI_nj (by omega), e123, h2, z_s, z_min (x := 8) (y := Int32.ofNat (n + 1)) (a := 8) (b := n + 1) rfl rfl (by omega) (by omega)]
  · obtain ⟨a0, a1, a2⟩ := s1
    refine ⟨fun j hj => ?_, fun j hj => ?_, fun j hj => ⟨?_, ?_, ?_⟩⟩
    · rw [upI_ne' (by omega), upI_ne' (by omega)]; exact a0 j hj
    · rw [upI_ne' (by omega), upI_ne' (by omega)]; exact a1 j hj
    · rw [upI_ne' (by omega), upI_ne' (by omega)]; exact (a2 j hj).1
    · rw [upI_ne' (by omega), upI_ne' (by omega)]; exact (a2 j hj).2.1
    · rw [upI_ne' (by omega), upI_ne' (by omega)]; exact (a2 j hj).2.2
  · rw [upI_ne' c1, upI_ne' c1]; exact s2 c (by omega)
/-- the model's memory behind an act: all else is as it was -/
def zSK (m m' : xMem) : Prop := (∀ c, c = 1 ∨ c = 9 ∨ c = 13 ∨ c = 14 ∨ c = 17 ∨ c = 18 ∨ c = 21 ∨ c = 23 → m'.1 c = m.1 c) ∧ (∀ j, j = 2 ∨ j = 15 ∨ j = 27 ∨ j = 28 ∨ j = 29 ∨ j = 30 ∨ j = 31 ∨ j = 35 ∨ j = 37 ∨ j = 40 ∨ j = 41 ∨ j = 43 ∨ j = 47 → m'.1 0 j = m.1 0 j) ∧ (∀ c, c = 5 ∨ c = 6 ∨ c = 22 → m'.2 c = m.2 c)
/-- the trial becomes what is so -/
theorem zC_commit (hR : zRel mC mM) (ht1 : ∀ c, c < 118 ∨ 123 ≤ c → m.1 c = mC.1 c) (ht2 : m.2 = mC.2) (hτ : ∀ j, j < 97 ∨ 121 ≤ j → mM'.1 2 j = mM.1 2 j) (hT : zT m 118 (mM'.1 2)) (hU : zU m 118 (mM'.1 2)) (hw : zWs (mM'.1 2)) (hk : zKp mM mM' (fun i => mM.1 2 (97 + i))) (hs : zSK mM mM') : ∃ m', O_keepTrial m = some m' ∧ zRel m' mM' := by
  obtain ⟨r1, r2, r3, r4, r5, r6, r7, r8, r9, r10, r11, r12, r13, r14, r15, r16⟩ := hR
  obtain ⟨n, top, a1, a2, a3, a4, a5, a6⟩ := r4
  obtain ⟨i1, i2, i3, i4⟩ := r2
  have hc := r1.1
  have hc' : zCt (mM'.1 2) := zCt_tr (fun j hj => hτ j (by omega)) hc
  obtain ⟨m1, e1, k1, k2, k3, k4, k5⟩ := zC_keep (m := m) a1 a2 (by rw [ht1 123 (by omega)]; exact a3) (by rw [ht1 123 (by omega)]; exact a4)
  obtain ⟨m2, e2, s1, s2, s3⟩ := zC_copy (m := m1) (o := 33) (p := 118) (by omega)
  have f1 : ∀ c, c ≠ 123 → c < 125 + 5 * top ∨ 130 + 5 * top ≤ c → c < 33 ∨ 38 ≤ c → c < 118 ∨ 123 ≤ c → m2.1 c = mC.1 c := fun c c1 c2 c3 c4 => by
    rw [s2 c (by omega), k4 c c1 c2, ht1 c c4]
  have f2 : m2.2 = mC.2 := by rw [s3, k5, ht2]
  refine ⟨m2, ?_, ?_⟩
  · unfold O_keepTrial
    rw [e1]
    simp only [Option.bind_some]
    rw [e2]
    rfl
  · obtain ⟨g1, g0, g2⟩ := hs
    have hsame : zSame m 118 m2 33 := by
      obtain ⟨b0, b1, b2⟩ := s1
      have hh : ∀ c, 118 ≤ c → c < 123 → m1.1 c = m.1 c := fun c c1 c2 => k4 c (by omega) (by omega)
      refine ⟨fun j hj => ?_, fun j hj => ?_, fun j hj => ⟨?_, ?_, ?_⟩⟩
      · rw [b0 j hj, hh 118 (by omega) (by omega)]
      · rw [b1 j hj, hh 119 (by omega) (by omega)]
      · rw [(b2 j hj).1, hh 120 (by omega) (by omega)]
      · rw [(b2 j hj).2.1, hh 121 (by omega) (by omega)]
      · rw [(b2 j hj).2.2, hh 122 (by omega) (by omega)]
    have hsk : zSame mC 33 m2 (125 + 5 * top) := by
      obtain ⟨b0, b1, b2⟩ := k3
      refine ⟨fun j hj => ?_, fun j hj => ?_, fun j hj => ⟨?_, ?_, ?_⟩⟩
      · rw [s2 _ (by omega), b0 j hj, ht1 33 (by omega)]
      · rw [s2 _ (by omega), b1 j hj, ht1 34 (by omega)]
      · rw [s2 _ (by omega), (b2 j hj).1, ht1 35 (by omega)]
      · rw [s2 _ (by omega), (b2 j hj).2.1, ht1 36 (by omega)]
      · rw [s2 _ (by omega), (b2 j hj).2.2, ht1 37 (by omega)]
    have w97 : ∀ j, j < 97 → mM'.1 2 j = mM.1 2 j := fun j hj => hτ j (by omega)
    have e76 : m2.1 76 = mC.1 76 := f1 76 (by omega) (by omega) (by omega) (by omega)
    refine ⟨⟨hc', by rw [w97 3 (by omega)]; exact r1.2.1, by rw [w97 4 (by omega)]; exact r1.2.2.1, hw⟩, ⟨zH_tr hc (fun c c1 c2 => f1 c (by omega) (by omega) (by omega) (by omega)) w97 i1, zT_tr hc' hsame (fun _ _ => rfl) hT, zU_tr hc' hsame rfl (fun _ _ _ => rfl) hU, zSay_tr (fun c c1 c2 => f1 c (by omega) (by omega) (by omega) (by omega)) (fun j j1 _ => hτ j (by omega)) i4⟩, zNms_tr (fun d _ _ => by rw [f2]) (g2 5 (by omega)) w97 r3, zUn_keep hc a1 a2 a5 a6 hk w97 i2 i3 r1.2.2.2 (by rw [s2 123 (by omega)]; exact k1) (by rw [s2 123 (by omega)]; exact k2) hsk (fun c c1 c2 c3 => f1 c (by omega) c3 (by omega) (by omega)), fun k hk2 => zImg_tr hk2 (fun d d1 d2 => f1 d (by omega) (by omega) (by omega) (by omega)) (fun d _ _ => by rw [f2]) (g1 21 (by omega)) (g1 23 (by omega)) (g2 22 (by omega)) (r5 k hk2), zTp_tr (by rw [f1 1 (by omega) (by omega) (by omega) (by omega)]) (f1 2 (by omega) (by omega) (by omega) (by omega)) (g0 2 (by omega)) (g1 1 (by omega)) r6, zRes_tr (by rw [f2]) (g2 6 (by omega)) r7, ?_, zLs_tr (by rw [f1 165 (by omega) (by omega) (by omega) (by omega)]) (f1 166 (by omega) (by omega) (by omega) (by omega)) (g0 27 (by omega)) (g1 9 (by omega)) r9, ?_, zLs_tr (by rw [f1 170 (by omega) (by omega) (by omega) (by omega)]) (f1 179 (by omega) (by omega) (by omega) (by omega)) (g0 35 (by omega)) (g1 13 (by omega)) r11, zLs_tr (by rw [f1 0 (by omega) (by omega) (by omega) (by omega)]) (f1 182 (by omega) (by omega) (by omega) (by omega)) (g0 37 (by omega)) (g1 14 (by omega)) r12, ?_, ?_, zTo_tr e76 (g0 47 (by omega)) (g1 18 (by omega)) r15, zWr_tr (by rw [f1 180 (by omega) (by omega) (by omega) (by omega)]) (f1 181 (by omega) (by omega) (by omega) (by omega)) (g0 43 (by omega)) (g1 17 (by omega)) r16⟩
    · unfold zFa; rw [f1 0 (by omega) (by omega) (by omega) (by omega), g0 15 (by omega)]; exact r8
    · unfold zSpN; rw [f1 165 (by omega) (by omega) (by omega) (by omega), g0 28 (by omega)]; exact r10
    · unfold zKe; rw [f1 0 (by omega) (by omega) (by omega) (by omega), g0 29 (by omega), g0 30 (by omega), g0 31 (by omega)]; exact r13
    · unfold zDu; rw [f1 0 (by omega) (by omega) (by omega) (by omega), g0 40 (by omega), g0 41 (by omega)]; exact r14
/-- a fresh trial -/
theorem zC_trial (hR : zRel mC mM) : ∃ m, State_copyFrom mC 118 33 = some m ∧ (∀ c, c < 118 ∨ 123 ≤ c → m.1 c = mC.1 c) ∧ m.2 = mC.2 ∧ zH m 6 (mM.1 2) ∧ zT m 118 (mM.1 2) ∧ zU m 118 (mM.1 2) := by
  obtain ⟨m, e, s1, s2, s3⟩ := zC_copy (m := mC) (o := 118) (p := 33) (by omega)
  have hc := hR.1.1
  obtain ⟨i1, i2, i3, i4⟩ := hR.2.1
  exact ⟨m, e, fun c hc => s2 c (by omega), s3, zH_tr hc (fun c _ _ => s2 c (by omega)) (fun _ _ => rfl) i1, zT_tr hc s1 (fun _ _ => rfl) i2, zU_tr hc s1 rfl (fun _ _ _ => rfl) i3⟩
theorem zSC_trial (h1 : ∀ c, c < 118 ∨ 123 ≤ c → m.1 c = mC.1 c) (h2 : m.2 = mC.2) : zSC mC m := ⟨fun c hc => h1 c (by omega), fun j _ _ => by rw [h1 0 (by omega)], fun c _ => by rw [h2]⟩
end ZA
