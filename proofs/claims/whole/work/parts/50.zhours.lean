/-! Layer 2. hours -/
theorem z_loopE {β : Type} (L : Nat → Nat → xMem → β) (N : Nat) (I : Nat → xMem → Prop) (P : β → Prop) (hs : ∀ fuel i m, i < N → I i m → ∃ m', I (i + 1) m' ∧ L (fuel + 1) i m = L fuel (i + 1) m') (he : ∀ fuel m, I N m → P (L (fuel + 1) N m)) : ∀ (j i fuel : Nat) (m : xMem), i + j = N → j < fuel → I i m → P (L fuel i m) := by
  intro j
  induction j with
  | zero =>
    intro i fuel m h1 h2 hI
    obtain ⟨f, rfl⟩ : ∃ f, fuel = f + 1 := ⟨fuel - 1, by omega⟩
    have hi : i = N := by omega
    subst hi
    exact he f m hI
  | succ j ih =>
    intro i fuel m h1 h2 hI
    obtain ⟨f, rfl⟩ : ∃ f, fuel = f + 1 := ⟨fuel - 1, by omega⟩
    obtain ⟨m', h3, h4⟩ := hs f i m (by omega) hI
    rw [h4]
    exact ih (i + 1) f m' (by omega) (by omega) h3
def zIt (σ : zR) : Nat → zR
  | 0 => σ
  | n + 1 => zHr (zIt σ n)
section ZI
variable {m m' mC mC' mM mM' mK : xMem} {σ τ : zR}
theorem zHr_j {j : Nat} (h : j < 97 ∨ 121 ≤ j) (hc : zCt σ) : zHr σ j = σ j := by
  have := hc.1.2
  unfold zHr zHk
  rw [if_neg (by omega), if_neg (by omega), if_neg (by omega), if_neg (by omega)]
theorem zHr_lo {j : Nat} (h : j < 109) (h1 : j ≠ 97) (h2 : j ≠ 100) : zHr σ j = σ j := by
  unfold zHr
  rw [if_neg h1, if_neg h2, zHk_lt h]
theorem zHr_97 : zHr σ 97 = σ 97 + 1 := by
  unfold zHr
  rw [if_pos rfl]
theorem zHr_100 : zHr σ 100 = 0 := by
  unfold zHr
  rw [if_neg (by omega), if_pos rfl]
theorem zCt_hr (hc : zCt σ) : zCt (zHr σ) := zCt_tr (fun j hj => zHr_j (by omega) hc) hc
theorem zIt_j {n j : Nat} (h : j < 97 ∨ 121 ≤ j) (hc : zCt σ) : zIt σ n j = σ j ∧ zCt (zIt σ n) := by
  induction n with
  | zero => exact ⟨rfl, hc⟩
  | succ n ih => exact ⟨by rw [zIt, zHr_j h ih.2, ih.1], zCt_hr ih.2⟩
theorem zIt_97 {n : Nat} {h : Nat} (hh : σ 97 = Int32.ofNat h) : zIt σ n 97 = Int32.ofNat (h + n) := by
  induction n with
  | zero => exact hh
  | succ n ih => rw [zIt, zHr_97, ih, z_s]; rfl
theorem zWs_hr (hc : zCt σ) (hw : zWs σ) {h : Nat} (hh : σ 97 = Int32.ofNat h) (h4 : h < 400) : zWs (zHr σ) := by
  have o6 := hc.2.1.2
  obtain ⟨w1, w2, w3, w4⟩ := hw
  unfold zWs
  rw [zO_tr (σ := σ) (zHr_j (by omega) hc), zB_tr (σ := σ) (zHr_j (by omega) hc), zC_tr (σ := σ) (zHr_j (by omega) hc), zHr_97, zHr_100, zHr_lo (j := 98) (by omega) (by omega) (by omega), hh, z_s]
  refine ⟨⟨by rw [z_toInt (by omega)]; omega, by rw [z_toInt (by omega)]; omega⟩, w2, ⟨by decide, by decide⟩, fun o ho => ?_⟩
  rw [zHr_lo (by omega) (by omega) (by omega)]
  exact w4 o ho
theorem zWs_it (hc : zCt σ) (hw : zWs σ) {h n : Nat} (hh : σ 97 = Int32.ofNat h) (h4 : h + n ≤ 400) : zWs (zIt σ n) := by
  induction n with
  | zero => exact hw
  | succ n ih => exact zWs_hr (zIt_j (j := 0) (by omega) hc).2 (ih (by omega)) (zIt_97 hh) (by omega)
theorem upR_upR {c : Nat} {f g : Nat → Int32} : upR (upR m c f) c g = upR m c g := by
  unfold upR
  refine Prod.ext ?_ rfl
  funext a b
  show (if a = c then g b else if a = c then f b else m.1 a b) = if a = c then g b else m.1 a b
  by_cases h : a = c
  · rw [if_pos h, if_pos h]
  · rw [if_neg h, if_neg h, if_neg h]
theorem zM_goesOn (hm : m.1 2 = σ) (hc : zCt σ) {n h : Nat} (hh : σ 97 = Int32.ofNat h) (h4 : h ≤ 400) (hn : n < 900) : M_goesOn m (Int32.ofNat n) = some (Int32.ofNat (min n (400 - h)), upR m 2 (zIt σ (min n (400 - h)))) := by
  unfold M_goesOn
  have h0 : ∀ (m0 : xMem) (a : Int32), m0 = upR m 2 (zIt σ 0) → a = Int32.ofNat 0 → M_goesOn_b2 (Int32.ofNat n) 1000 a m0 = some (Int32.ofNat (min n (400 - h)), upR m 2 (zIt σ (min n (400 - h)))) := by
    intro m0 a e ea
    subst e
    subst ea
    refine z_loop (fun fuel i => M_goesOn_b2 (Int32.ofNat n) fuel (Int32.ofNat i) (upR m 2 (zIt σ i))) (min n (400 - h)) _ (fun fuel i hi => ?_) (fun fuel => ?_) (min n (400 - h)) 0 1000 (by omega) (by omega)
    · have e7 : (upR m 2 (zIt σ i)).1 2 97 = Int32.ofNat (h + i) := by rw [upR_at', zIt_97 hh]
      have eH := zM_hour (m := upR m 2 (zIt σ i)) (by rw [upR_at']; exact (zIt_j (j := 0) (by omega) hc).2)
      rw [M_goesOn_b2, if_pos ((z_lt (by omega) (by omega)).mpr (by omega)), e7, if_pos (show Int32.ofNat (h + i) < 400 by rw [show (400 : Int32) = Int32.ofNat 400 from rfl, z_lt (by omega) (by omega)]; omega), eH]
      simp only [Option.bind_some]
      rw [upR_upR, upR_at', z_s]
      rfl
    · have e7 : (upR m 2 (zIt σ (min n (400 - h)))).1 2 97 = Int32.ofNat (h + min n (400 - h)) := by rw [upR_at', zIt_97 hh]
      rw [M_goesOn_b2, e7]
      by_cases hq : min n (400 - h) < n
      · rw [if_pos ((z_lt (by omega) (by omega)).mpr hq), if_neg (show ¬ Int32.ofNat (h + min n (400 - h)) < 400 by rw [show (400 : Int32) = Int32.ofNat 400 from rfl, z_lt (by omega) (by omega)]; omega)]
      · rw [if_neg (fun e => hq ((z_lt (by omega) (by omega)).mp e))]
  exact h0 _ _ (by rw [show zIt σ 0 = m.1 2 from hm.symm]; exact upR_id.symm) rfl
/-- the trial's hours -/
def zTri (m0 m : xMem) (τ : zR) : Prop := zT m 118 τ ∧ zU m 118 τ ∧ zH m 6 τ ∧ (∀ c, c < 118 ∨ 123 ≤ c → m.1 c = m0.1 c) ∧ m.2 = m0.2
theorem zTri_hr {m0 : xMem} (hc : zCt τ) (h : zTri m0 m τ) : ∃ m', State_passHour m 118 6 = some m' ∧ zTri m0 m' (zHr τ) := by
  obtain ⟨a, b, c, d, e⟩ := h
  obtain ⟨m', e1, e2, e3, e4, e5⟩ := zC_hour (s := 118) (k := 6) (by omega) c a b hc
  refine ⟨m', e1, e2, e3, zH_tr hc (fun x h1 h2 => e4 x (by omega)) (fun j hj => zHr_j (by omega) hc) c, fun x hx => ?_, by rw [e5, e]⟩
  rw [e4 x (by omega)]
  exact d x hx
end ZI
theorem zP_hours : lS_hours zRel := by
  intro mC mM x hR
  have hR1 := zRel_thr hR 0
  simp only [M_hours, nm]
  generalize upI mM 0 0 0 = m1 at hR1 ⊢
  have hc := hR1.1.1
  have hw := hR1.1.2.2.2
  obtain ⟨hH, hT, hU, -⟩ := hR1.2.1
  unfold O_hours
  rw [zM_in]
  simp only [Option.bind_some, zb_0, z_rng]
  cases hx : (!decide (x < 1) && !decide (60 < x)) with
  | false => exact ⟨-1, mC, m1, rfl, rfl, hR1⟩
  | true =>
    obtain ⟨n, n1, n60, rfl⟩ := z_rngq (A := 1) (B := 60) hx (by decide) (by decide)
    obtain ⟨h, h4, hh, h400⟩ := z_hr hw.1
    obtain ⟨m, e, t1, t2, tH, tT, tU⟩ := zC_trial hR1
    simp only [Bool.true_eq_false, if_false, if_true]
    rw [hT.1, h400, z_min (x := Int32.ofNat n) (y := Int32.ofNat (400 - h)) (a := n) (b := 400 - h) rfl rfl (by omega) (by omega), nm_eq, e]
    simp only [Option.bind_some]
    have hend : ∀ fuel mg, zTri mC mg (zIt (m1.1 2) (min n (400 - h))) → (∃ v mC' mM', O_hours_b48 (Int32.ofNat n) (fuel + 1) (Int32.ofNat (min n (400 - h))) (Int32.ofNat (min n (400 - h))) mg = some (v, mC') ∧ (if m1.1 2 97 = 400 then some (0, m1) else (M_keep m1).bind fun r3 => (M_goesOn r3 (Int32.ofNat n)).bind fun r4 => some (r4.1, r4.2)) = some (v, mM') ∧ zRel mC' mM') := by
      intro fuel mg ⟨g1, g2, g3, g4, g5⟩
      rw [O_hours_b48, if_neg (by rw [z_lt (by omega) (by omega)]; omega)]
      by_cases h0 : h = 400
      · subst h0
        rw [hh, if_pos (show Int32.ofNat 400 = 400 by rfl), if_neg (show ¬ (0 : Int32) < Int32.ofNat (min n (400 - 400)) by rw [show min n (400 - 400) = 0 by omega]; decide)]
        exact ⟨_, mg, m1, by rw [show min n (400 - 400) = 0 by omega]; rfl, rfl, zRel_tr (zSC_trial g4 g5) zSM_rf hR1⟩
      · obtain ⟨n9, top, a1, a2, a3, a4, a5, a6⟩ := hR1.2.2.2.1
        obtain ⟨mK, eK, k1, k2, k3, k4⟩ := zM_keep a5 a1
        have e2 : mK.1 2 = m1.1 2 := k2 2 (by omega) (by omega)
        rw [hh, if_neg (show ¬ Int32.ofNat h = 400 from fun e => h0 ((z_eq (b := 400) (by omega) (by omega)).mp e)), eK]
        simp only [Option.bind_some]
        rw [zM_goesOn e2 hc hh h4 (by omega)]
        simp only [Option.bind_some]
        rw [if_pos (show (0 : Int32) < Int32.ofNat (min n (400 - h)) from (z_lt (a := 0) (by omega) (by omega)).mpr (by omega))]
        obtain ⟨m', e', r'⟩ := zC_commit (m := mg) (mM' := upR mK 2 (zIt (m1.1 2) (min n (400 - h)))) hR1 g4 g5 (fun j hj => by rw [upR_at']; exact (zIt_j hj hc).1) (by rw [upR_at']; exact g1) (by rw [upR_at']; exact g2) (by rw [upR_at']; exact zWs_it hc hw hh (by omega)) (zKp_tr k1 (upR_ne' (by omega)) (by rw [upR_ne' (by omega)])) (z_sk k2 k3 k4 (fun c hc2 => upR_ne' hc2) rfl)
        rw [e']
        exact ⟨_, m', _, rfl, rfl, r'⟩
    have key := z_loopE (fun fuel i m => O_hours_b48 (Int32.ofNat n) fuel (Int32.ofNat (min n (400 - h))) (Int32.ofNat i) m) (min n (400 - h)) (fun i m => zTri mC m (zIt (m1.1 2) i)) (fun r => ∃ v mC' mM', r = some (v, mC') ∧ (if m1.1 2 97 = 400 then some (0, m1) else (M_keep m1).bind fun r3 => (M_goesOn r3 (Int32.ofNat n)).bind fun r4 => some (r4.1, r4.2)) = some (v, mM') ∧ zRel mC' mM') (fun fuel i mi hi hI => by
      obtain ⟨m', e1, e2⟩ := zTri_hr (zIt_j (j := 0) (by omega) hc).2 hI
      refine ⟨m', e2, ?_⟩
      rw [O_hours_b48, if_pos ((z_lt (by omega) (by omega)).mpr hi), e1]
      simp only [Option.bind_some]
      rw [z_s]) hend (min n (400 - h)) 0 1000 m (by omega) (by omega) ⟨tT, tU, tH, t1, t2⟩
    exact key
