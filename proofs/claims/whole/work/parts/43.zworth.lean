/-! Layer 2. worth -/
def zNear (σ : zR) (o b : Nat) : Bool := match zSeen σ o b with
  | none => false
  | some i => !decide (zLoud σ i b < 5)
theorem z_rng {α : Type} {x a b : Int32} (u v : α) : (if x < a then u else if b < x then u else v) = if (!decide (x < a) && !decide (b < x)) then v else u := by
  by_cases h1 : x < a
  · simp [h1]
  · by_cases h2 : b < x <;> simp [h1, h2]
theorem z_rngq {x a b : Int32} {A B : Nat} (h : (!decide (x < a) && !decide (b < x)) = true) (ha : a.toInt = A) (hb : b.toInt = B) : ∃ n, A ≤ n ∧ n ≤ B ∧ x = Int32.ofNat n := by
  simp only [Bool.and_eq_true, Bool.not_eq_true', decide_eq_false_iff_not, Int32.lt_iff_toInt_lt, ha, hb] at h
  refine ⟨x.toNatClampNeg, ?_, ?_, z_of (by omega)⟩
  · show A ≤ x.toInt.toNat
    omega
  · show x.toInt.toNat ≤ B
    omega
theorem zOwl_lt {σ : zR} {x : Int32} {o : Nat} (h : zOwl σ x = some o) : o < zO σ ∧ σ (103 + o) = x := by
  obtain ⟨h1, h2, -⟩ := zFst_some h
  exact ⟨h1, by simpa using h2⟩
theorem zOwl_adv {σ : zR} (hc : zCt σ) (a : Nat) (x : Int32) : zOwl (zAdv σ a) x = zOwl σ x := by
  have := hc.2.1.2
  unfold zOwl
  rw [zAdv_O]
  have : ∀ n, n ≤ 6 → zFst (fun o => decide (zAdv σ a (103 + o) = x)) n = zFst (fun o => decide (σ (103 + o) = x)) n := by
    intro n
    induction n with
    | zero => intro _; rfl
    | succ n ih =>
      intro hn
      rw [zFst, zFst, ih (by omega), zAdv_j (by omega) (by omega)]
  exact this _ (by omega)
section ZW
variable {m1 m2 : xMem}
/-- the model's trial, taken back -/
theorem zM_trial (hm2 : zFill m1 8 0 24 (fun i => m1.1 2 (97 + i)) = m2) : m2.1 2 = m1.1 2 ∧ (∀ a j, j < 109 → (zAdvM m2 a).1 2 j = zAdv (m1.1 2) a j) ∧ ∀ a, ∃ m3, M_back (zAdvM m2 a) = some m3 ∧ zSM m1 m3 := by
  have e22 : m2.1 2 = m1.1 2 := by rw [← hm2, zFill_ne (by omega)]
  have e28 : ∀ i, i < 24 → m2.1 8 i = m1.1 2 (97 + i) := fun i hi => by
    rw [← hm2, show i = 0 + i by omega, zFill_in hi]; simp
  refine ⟨e22, fun a j _ => by rw [zAdvM_2, e22], fun a => ⟨_, zM_back _, ?_⟩⟩
  have e2 : (zFill (zAdvM m2 a) 2 97 24 (fun i => (zAdvM m2 a).1 8 i)).1 2 = m1.1 2 := zM_taken_back (fun j hj => by rw [zAdvM_2, e22, zAdv_j (by omega) (by omega)]) (fun i hi => by rw [zAdvM_ne (by omega), e28 i hi])
  have e0 : ∀ c, c ≠ 2 → c ≠ 8 → (zFill (zAdvM m2 a) 2 97 24 (fun i => (zAdvM m2 a).1 8 i)).1 c = m1.1 c := fun c h1 h2 => by
    rw [zFill_ne h1, zAdvM_ne h1, ← hm2, zFill_ne h2]
  refine ⟨fun c hc => ?_, fun j hj => ?_, fun c hc => ?_⟩
  · by_cases h2 : c = 2
    · rw [h2]; exact e2
    · exact e0 c h2 (by omega)
  · rw [e0 0 (by omega) (by omega)]
  · rw [← hm2]; rfl
end ZW
theorem zP_worth : lS_worth zRel := by
  intro mC mM x y hR
  have hR1 := zRel_thr hR 0
  simp only [M_worth, nm]
  generalize upI mM 0 0 0 = m1 at hR1 ⊢
  have hc := hR1.1.1
  have hw := hR1.1.2.2.2
  have b6 := hc.1.2
  have o6 := hc.2.1.2
  have c8 := hc.2.2.2
  obtain ⟨hH, hT, hU, -⟩ := hR1.2.1
  unfold O_worth O_worth_b36
  rw [zC_hasBed hH hc, zM_isBed rfl hc, zM_in, zM_tries, zC_owlAt hH hT hc, zM_owl (fun _ _ => rfl) hc]
  simp only [Option.bind_some, zb_0, z_rng]
  cases hx : zIs (zB (m1.1 2)) x with
  | false => exact ⟨-1, m1, rfl, rfl, hR1⟩
  | true =>
    obtain ⟨b, hb, rfl⟩ := zIs_q hx
    simp only [Bool.true_eq_false, if_false]
    cases hy : (!decide (y < 1) && !decide (60 < y)) with
    | false =>
      refine ⟨-1, m1, ?_, rfl, hR1⟩
      split <;> rfl
    | true =>
      obtain ⟨n, n1, n60, rfl⟩ := z_rngq (A := 1) (B := 60) hy (by decide) (by decide)
      simp only [Bool.true_eq_false, if_false, if_true]
      cases ho : zOwl (m1.1 2) (Int32.ofNat b) with
      | none => exact ⟨-1, m1, rfl, rfl, hR1⟩
      | some o =>
        obtain ⟨ho2, hsit⟩ := zOwl_lt ho
        obtain ⟨h, h4, hh, h400⟩ := z_hr hw.1
        rw [show zN (some o) = Int32.ofNat o from rfl, if_neg (c := Int32.ofNat o = -1) (z_nm1 (by omega)), if_neg (c := Int32.ofNat o < 0) (z_nn (by omega)), hT.1, h400, z_min (x := Int32.ofNat n) (y := Int32.ofNat (400 - h)) (a := n) (b := 400 - h) rfl rfl (by omega) (by omega)]
        simp only [nm]
        have eC : O_worth_b78 mC (Int32.ofNat b) (Int32.ofNat n) 1000 (Int32.ofNat o) (Int32.ofNat (min n (400 - h))) 0 0 = some (zSum (fun a => zb (zNear (zAdv (m1.1 2) a) o b)) (min n (400 - h))) := by
          refine z_loop (fun fuel i => O_worth_b78 mC (Int32.ofNat b) (Int32.ofNat n) fuel (Int32.ofNat o) (Int32.ofNat (min n (400 - h))) (zSum (fun a => zb (zNear (zAdv (m1.1 2) a) o b)) i) (Int32.ofNat i)) (min n (400 - h)) _ (fun fuel i hi => ?_) (fun fuel => ?_) (min n (400 - h)) 0 1000 (by omega) (by omega)
          · rw [O_worth_b78, if_pos ((z_lt (by omega) (by omega)).mpr hi), zC_look hH hT hc ho2 hb (by omega), zSum]
            simp only [Option.bind_some, z_s]
            unfold zNear
            cases hq : zSeen (zAdv (m1.1 2) i) o b with
            | none =>
              rw [show zN none = -1 from rfl, if_pos rfl]
              simp [zb]
            | some j =>
              have hj := zSeen_lt hq
              rw [zAdv_C] at hj
              have hp := (zBest_lt hq).2
              rw [show zN (some j) = Int32.ofNat j from rfl, if_neg (z_nm1 (by omega))]
              obtain ⟨r, e, r0, r1, r2, r3⟩ := zC_rowOn (a := i) hH hT hc hj (by
                unfold zHeard at hp
                simp only [Bool.and_eq_true] at hp
                exact hp.2.1)
              rw [e]
              simp only [Option.bind_some]
              rw [zC_loud (σ := zAdv (m1.1 2) i) (zH_adv hH hc) (zCt_adv hc) (by rw [zAdv_B]; exact hb) r1 r2 r3]
              simp only [Option.bind_some]
              show (if zLoud (zAdv (m1.1 2) i) j b < 5 then _ else _) = _
              by_cases hl : zLoud (zAdv (m1.1 2) i) j b < 5
              · rw [if_pos hl]
                simp [zb, hl]
              · rw [if_neg hl]
                simp [zb, hl]
          · rw [O_worth_b78, if_neg (by rw [z_lt (by omega) (by omega)]; omega)]
        obtain ⟨m2, hm2⟩ : ∃ m2, zFill m1 8 0 24 (fun i => m1.1 2 (97 + i)) = m2 := ⟨_, rfl⟩
        obtain ⟨e22, hm9, hback⟩ := zM_trial hm2
        obtain ⟨m3, eb, hk⟩ := hback (min n (400 - h))
        have eM : M_worth_b42 (Int32.ofNat b) (Int32.ofNat n) 1000 0 0 m2 = some (zSum (fun a => zb (zNear (zAdv (m1.1 2) a) o b)) (min n (400 - h)), m3) := by
          have h0 : ∀ m0, m0 = zAdvM m2 0 → M_worth_b42 (Int32.ofNat b) (Int32.ofNat n) 1000 0 0 m0 = some (zSum (fun a => zb (zNear (zAdv (m1.1 2) a) o b)) (min n (400 - h)), m3) := by
            intro m0 em0
            subst em0
            refine z_loop (fun fuel i => M_worth_b42 (Int32.ofNat b) (Int32.ofNat n) fuel (zSum (fun a => zb (zNear (zAdv (m1.1 2) a) o b)) i) (Int32.ofNat i) (zAdvM m2 i)) (min n (400 - h)) _ (fun fuel i hi => ?_) (fun fuel => ?_) (min n (400 - h)) 0 1000 (by omega) (by omega)
            · have hhr : (zAdvM m2 i).1 2 97 = Int32.ofNat (h + i) := z_hrs (by rw [e22]; exact hh)
              rw [M_worth_b42, if_pos ((z_lt (by omega) (by omega)).mpr (by omega)), hhr, if_pos (show Int32.ofNat (h + i) < 400 by rw [show (400 : Int32) = Int32.ofNat 400 from rfl, z_lt (by omega) (by omega)]; omega), zM_owl (hm9 i) (zCt_adv hc), zOwl_adv hc, ho]
              simp only [Option.bind_some]
              rw [show zN (some o) = Int32.ofNat o from rfl, zM_seen (hm9 i) (zCt_adv hc) (by omega) (by omega), zSum]
              simp only [Option.bind_some]
              unfold M_worth_b95 zNear
              simp only [nm]
              rw [zAdvM_s, z_s]
              cases hq : zSeen (zAdv (m1.1 2) i) o b with
              | none =>
                rw [show zN none = -1 from rfl, if_pos (show (-1 : Int32) < 0 by decide)]
                rfl
              | some j =>
                have hj := zSeen_lt hq
                rw [show zN (some j) = Int32.ofNat j from rfl, if_neg (c := Int32.ofNat j < 0) (z_nn (by rw [zAdv_C] at hj; omega)), zM_loud (hm9 i) (zCt_adv hc) hj (by omega)]
                simp only [Option.bind_some]
                by_cases hl : zLoud (zAdv (m1.1 2) i) j b < 5
                · rw [if_pos hl]
                  simp [zb, hl]
                · rw [if_neg hl]
                  simp [zb, hl]
            · have hhr : (zAdvM m2 (min n (400 - h))).1 2 97 = Int32.ofNat (h + min n (400 - h)) := z_hrs (by rw [e22]; exact hh)
              rw [M_worth_b42, hhr]
              unfold M_worth_b122
              rw [eb]
              by_cases hn : min n (400 - h) < n
              · rw [if_pos ((z_lt (by omega) (by omega)).mpr hn), if_neg (show ¬ Int32.ofNat (h + min n (400 - h)) < 400 by rw [show (400 : Int32) = Int32.ofNat 400 from rfl, z_lt (by omega) (by omega)]; omega)]
                rfl
              · rw [if_neg (fun e => hn ((z_lt (by omega) (by omega)).mp e))]
                rfl
          exact h0 _ zAdvM_0.symm
        rw [eC, hm2, eM]
        exact ⟨_, _, rfl, rfl, zRel_tr zSC_rf hk hR1⟩
