/-! Layer 2. Tokens: the next one -/
def kC2 (v : Int32) : Int32 := if v = 40 then 4 else if v = 41 then 4 else if v = 46 then 4 else 1
def kC (v : Int32) : Int32 := if v = 59 then 4 else if v < 60 then kC2 v else if 62 < v then kC2 v else 4
def kM (v : Int32) : Int32 := if v = 59 then 3 else if v = 40 then 3 else if v = 41 then 3 else if v < 60 then 4 else if 62 < v then 4 else 3
theorem kC_eq {c : Nat} (hc : c < 256) : kC (Int32.ofNat c) = (if zSg c = true then 4 else if c = 46 then 4 else 1) ∧ kM (Int32.ofNat c) = if zSg c = true then 3 else 4 := by
  have : ∀ c, c < 256 → kC (Int32.ofNat c) = (if zSg c = true then 4 else if c = 46 then 4 else 1) ∧ kM (Int32.ofNat c) = if zSg c = true then 3 else 4 := by decide +kernel
  exact this c hc
/-- the reading stands at a token: n bytes b, a limit, q of the bytes behind it surely -/
def zTk (n lim q : Nat) (b : Nat → Nat) (mC mM : xMem) : Prop := zTpe n b mC mM ∧ zRes mC mM ∧ (mC.1 3 2 = Int32.ofNat lim ∧ mM.1 0 5 = Int32.ofNat lim ∧ lim ≤ 940) ∧ mC.1 3 5 = mM.1 0 12 ∧ ∃ p, p ≤ n ∧ q ≤ p ∧ mC.1 3 3 = Int32.ofNat p ∧ mM.1 0 4 = Int32.ofNat p ∧ zKd mC mM (q + 1 ≤ p)
def zGg (mC mC' mM mM' : xMem) : Prop := (∀ c, c ≠ 3 → mC'.1 c = mC.1 c) ∧ (∀ j, j = 2 ∨ 10 ≤ j → mC'.1 3 j = mC.1 3 j) ∧ mC'.1 3 6 = mC.1 3 5 ∧ (∀ c, c ≠ 3 → mC'.2 c = mC.2 c) ∧ (∀ c, c ≠ 0 → mM'.1 c = mM.1 c) ∧ (∀ j, j ≠ 4 → (j < 11 ∨ 14 < j) → mM'.1 0 j = mM.1 0 j) ∧ (∀ c, c ≠ 0 → mM'.2 c = mM.2 c)
section ZGO
variable {m m' mC mC' mM mM' C0 M0 : xMem} {n p lim q : Nat} {b : Nat → Nat}
theorem zC_214 (v : Int32) : Tokens_advance_b214 v m = some (upI m 3 4 (kC2 v)) := by
  unfold Tokens_advance_b214 kC2
  by_cases h1 : v = 40
  · rw [if_pos h1, if_pos h1]; rfl
  · rw [if_neg h1, if_neg h1]
    by_cases h2 : v = 41
    · rw [if_pos h2, if_pos h2]; rfl
    · rw [if_neg h2, if_neg h2]
      by_cases h3 : v = 46
      · rw [if_pos h3, if_pos h3]; rfl
      · rw [if_neg h3, if_neg h3]; rfl
theorem zC_180 (v : Int32) : Tokens_advance_b180 v m = some (upI (upI (upI m 3 3 (m.1 3 3 + 1)) 3 7 v) 3 4 (kC v)) := by
  unfold Tokens_advance_b180 kC
  rw [nm_eq, nm_eq]
  by_cases h1 : v = 59
  · rw [if_pos h1, if_pos h1]; rfl
  · rw [if_neg h1, if_neg h1]
    by_cases h2 : v < 60
    · rw [if_pos h2, if_pos h2, zC_214]
    · rw [if_neg h2, if_neg h2]
      by_cases h3 : 62 < v
      · rw [if_pos h3, if_pos h3, zC_214]
      · rw [if_neg h3, if_neg h3]; rfl
theorem zM_sign80 {c : Nat} (hc : c < 256) (hl : zLet c = false) (hd : zDig c = false) (hp : M_peek m = some (Int32.ofNat c)) : M_go_b80 m = some (upI (upI (upI m 0 11 (kM (Int32.ofNat c))) 0 14 (Int32.ofNat c)) 0 4 (m.1 0 4 + 1)) := by
  have fin : ∀ s0, M_go_b145 (Int32.ofNat c) s0 m = some (upI (upI (upI m 0 11 s0) 0 14 (Int32.ofNat c)) 0 4 (m.1 0 4 + 1)) := fun s0 => by
    unfold M_go_b145
    rw [nm_eq, nm_eq, nm_eq, upI_nj (by omega), upI_nj (by omega)]
  unfold M_go_b80 kM
  rw [hp, Option.bind_some, if_neg (z_nn (by omega)), zM_small hc, Option.bind_some, hl, if_pos (show zb false = 0 from rfl), zM_digit hc, Option.bind_some, hd, if_pos (show zb false = 0 from rfl)]
  generalize hv : Int32.ofNat c = v at fin ⊢
  by_cases h1 : v = 59
  · rw [if_pos h1, if_pos h1, fin]
  · rw [if_neg h1, if_neg h1]
    by_cases h2 : v = 40
    · rw [if_pos h2, if_pos h2, fin]
    · rw [if_neg h2, if_neg h2]
      by_cases h3 : v = 41
      · rw [if_pos h3, if_pos h3, fin]
      · rw [if_neg h3, if_neg h3]
        by_cases h4 : v < 60
        · rw [if_pos h4, if_pos h4, fin]
        · rw [if_neg h4, if_neg h4]
          by_cases h5 : 62 < v
          · rw [if_pos h5, if_pos h5, fin]
          · rw [if_neg h5, if_neg h5, fin]
theorem zKd_mono {s s' : Prop} (h : s → s') (H : zKd mC mM s) : zKd mC mM s' := by
  rcases H with H | ⟨a, H⟩ | ⟨a, H⟩ | ⟨a, H⟩ | H
  · exact Or.inl H
  · exact Or.inr (Or.inl ⟨h a, H⟩)
  · exact Or.inr (Or.inr (Or.inl ⟨h a, H⟩))
  · exact Or.inr (Or.inr (Or.inr (Or.inl ⟨h a, H⟩)))
  · exact Or.inr (Or.inr (Or.inr (Or.inr H)))
/-- behind the blanks, before the limit: what comes of it -/
def zGo2P (n p : Nat) (mC mM c' m' : xMem) : Prop := ∃ p', p ≤ p' ∧ p' ≤ n ∧ c'.1 3 3 = Int32.ofNat p' ∧ m'.1 0 4 = Int32.ofNat p' ∧ c'.1 3 5 = Int32.ofNat p ∧ (∀ c, c ≠ 3 → c'.1 c = mC.1 c) ∧ (∀ j, j = 2 ∨ j = 6 ∨ 10 ≤ j → c'.1 3 j = mC.1 3 j) ∧ (∀ c, c ≠ 3 → c'.2 c = mC.2 c) ∧ (∀ c, c ≠ 0 → m'.1 c = mM.1 c) ∧ (∀ j, j ≠ 4 → j ≠ 11 → j ≠ 13 → j ≠ 14 → m'.1 0 j = mM.1 0 j) ∧ (∀ c, c ≠ 0 → m'.2 c = mM.2 c) ∧ zKd c' m' (p + 1 ≤ p')
theorem zGo2 (H : zTpe n b mC mM) (hres : zRes mC mM) (h3 : mC.1 3 3 = Int32.ofNat p) (h4 : mM.1 0 4 = Int32.ofNat p) (h8 : mC.1 3 8 = -1) (h13 : mM.1 0 13 = 0) (hp : p ≤ n) : ∃ c' m', Tokens_advance_b111 mC = some c' ∧ M_go_b80 mM = some m' ∧ zGo2P n p mC mM c' m' := by
  have h940 := H.1
  have hpk := zM_peek H h4 hp
  unfold Tokens_advance_b111
  rw [nm_eq, upI_nj (show (3 : Nat) ≠ 5 by omega), upI_ne' (show (1 : Nat) ≠ 3 by omega), h3, H.2.1]
  generalize e5 : upI mC 3 5 (Int32.ofNat p) = c5
  have k1 : ∀ c, c ≠ 3 → c5.1 c = mC.1 c := fun c hc => by rw [← e5, upI_ne' hc]
  have k2 : ∀ j, j ≠ 5 → c5.1 3 j = mC.1 3 j := fun j hj => by rw [← e5, upI_nj hj]
  have k3 : c5.1 3 5 = Int32.ofNat p := by rw [← e5, upI_at]
  have k4 : c5.2 = mC.2 := by rw [← e5]; rfl
  have HT5 : zTpe n b c5 mM := zTpe_tr (by rw [k1 1 (by omega)]) (k1 2 (by omega)) rfl rfl H
  by_cases h : p < n
  · rw [if_pos ((z_lt (by omega) (by omega)).mpr h)]
    rw [if_pos h] at hpk
    have c256 := (H.2.2.2 _ h).1
    rw [zC_tape HT5 h, Option.bind_some]
    by_cases hrun : (zLet (b p) || zDig (b p)) = true
    · have eC : (if Int32.ofNat (b p) < 97 then Tokens_advance_b163 (Int32.ofNat (b p)) c5 else if 122 < Int32.ofNat (b p) then Tokens_advance_b163 (Int32.ofNat (b p)) c5 else Tokens_advance_b175 c5) = Tokens_advance_b175 c5 := by
        rw [Bool.or_eq_true] at hrun
        by_cases hl : zLet (b p) = true
        · have hc := of_decide_eq_true hl
          rw [if_neg (show ¬ Int32.ofNat (b p) < 97 from fun q => by have := (z_lt (b := 97) (by omega) (by omega)).mp q; omega), if_neg (show ¬ 122 < Int32.ofNat (b p) from fun q => by have := (z_lt (a := 122) (by omega) (by omega)).mp q; omega)]
        · have hd : zDig (b p) = true := by
            rcases hrun with h1 | h1
            · exact absurd h1 hl
            · exact h1
          have hc := of_decide_eq_true hd
          rw [if_pos (show Int32.ofNat (b p) < 97 from (z_lt (b := 97) (by omega) (by omega)).mpr (by omega))]
          unfold Tokens_advance_b163
          rw [if_neg (show ¬ Int32.ofNat (b p) < 48 from fun q => by have := (z_lt (b := 48) (by omega) (by omega)).mp q; omega), if_neg (show ¬ 57 < Int32.ofNat (b p) from fun q => by have := (z_lt (a := 57) (by omega) (by omega)).mp q; omega)]
      have eM : M_go_b80 mM = M_go_b164 (Int32.ofNat (b p)) mM := by
        unfold M_go_b80
        rw [hpk, Option.bind_some, if_neg (z_nn (by omega)), zM_small c256, Option.bind_some]
        cases hl : zLet (b p) with
        | true => rw [if_neg (show ¬ zb true = 0 by decide)]
        | false =>
          rw [hl, Bool.false_or] at hrun
          rw [if_pos (show zb false = 0 from rfl), zM_digit c256, Option.bind_some, hrun, if_neg (show ¬ zb true = 0 by decide)]
      rw [eC, eM]
      unfold Tokens_advance_b175 Tokens_readRun M_go_b164
      rw [zM_small c256, Option.bind_some, nm_eq, nm_eq, nm_eq, nm_eq]
      generalize e6 : upL (upI c5 3 7 0) 3 9 0 = c0
      generalize e7 : upI (upL mM 0 17 0) 0 14 0 = m0
      have f1 : ∀ c, c ≠ 3 → c0.1 c = mC.1 c := fun c hc => by rw [← e6, upL_1, upI_ne' hc, k1 c hc]
      have f2 : ∀ j, j ≠ 5 → j ≠ 7 → c0.1 3 j = mC.1 3 j := fun j j5 j7 => by rw [← e6, upL_1, upI_nj j7, k2 j j5]
      have f3 : c0.1 3 5 = Int32.ofNat p := by rw [← e6, upL_1, upI_nj (by omega), k3]
      have f4 : c0.1 3 7 = 0 := by rw [← e6, upL_1, upI_at]
      have f5 : c0.2 3 9 = 0 := by rw [← e6, upL_at]
      have f6 : ∀ c, c ≠ 3 → c0.2 c = mC.2 c := fun c hc => by rw [← e6, upL_ne' hc, upI_2, k4]
      have f7 : ∀ c, c ≠ 0 → m0.1 c = mM.1 c := fun c hc => by rw [← e7, upI_ne' hc, upL_1]
      have f8 : ∀ j, j ≠ 14 → m0.1 0 j = mM.1 0 j := fun j hj => by rw [← e7, upI_nj hj, upL_1]
      have f9 : m0.1 0 14 = 0 := by rw [← e7, upI_at]
      have f10 : m0.2 0 17 = 0 := by rw [← e7, upI_2, upL_at]
      have f11 : ∀ c, c ≠ 0 → m0.2 c = mM.2 c := fun c hc => by rw [← e7, upI_2, upL_ne' hc]
      obtain ⟨N, r1, r2, r3⟩ := z_run (fun j => zLet (b j) || zDig (b j)) n (n - p) p (by omega)
      have hN : 1 ≤ N := by
        by_cases h0 : N = 0
        · rw [h0] at r3
          have := r3 (by omega)
          rw [Nat.add_zero] at this
          rw [this] at hrun
          cases hrun
        · omega
      have HT0 : zTpe n b c0 m0 := zTpe_tr (by rw [f1 1 (by omega)]) (f1 2 (by omega)) (f8 3 (by omega)) (f7 1 (by omega)) H
      have hres0 : zRes c0 m0 := zRes_tr (f6 4 (by omega)) (f11 6 (by omega)) hres
      obtain ⟨c', m', q1, q2, q3, q4, ⟨g1, g2, g3, g4, g5, g6⟩, q6⟩ := zRun (small := zLet (b p)) HT0 hres0 hN r1 r2 r3 rfl (mC := c0) (mM := m0) ⟨rfl, by rw [f2 3 (by omega) (by omega), h3, Nat.add_zero], by rw [f8 4 (by omega), h4, Nat.add_zero], by rw [f8 13 (by omega), h13]; rfl, by rw [f2 8 (by omega) (by omega), h8], zGf_rf, fun _ _ _ => ⟨[], rfl, fun x hx => (List.not_mem_nil hx).elim, f5, f10⟩, fun _ _ _ => ⟨0, by decide, f4, f9⟩, fun h => by omega⟩
      rw [q1, Option.bind_some, q2]
      refine ⟨c', m', rfl, rfl, p + N, by omega, r1, q3, q4, ?_, fun c hc => by rw [g1 c hc, f1 c hc], fun j hj => by rw [g2 j (by omega), f2 j (by omega) (by omega)], fun c hc => by rw [g3 c hc, f6 c hc], fun c hc => by rw [g4 c hc, f7 c hc], fun j j1 j2 j3 j4 => by rw [g5 j j1 j2 j3 j4, f8 j j4], fun c hc => by rw [g6 c hc, f11 c hc], zKd_mono (fun _ => by omega) q6⟩
      rw [g2 5 (by omega), f3]
    · rw [Bool.not_eq_true, Bool.or_eq_false_iff] at hrun
      obtain ⟨hl, hd⟩ := hrun
      have h1 := of_decide_eq_false hl
      have h2 := of_decide_eq_false hd
      have eC : (if Int32.ofNat (b p) < 97 then Tokens_advance_b163 (Int32.ofNat (b p)) c5 else if 122 < Int32.ofNat (b p) then Tokens_advance_b163 (Int32.ofNat (b p)) c5 else Tokens_advance_b175 c5) = Tokens_advance_b180 (Int32.ofNat (b p)) c5 := by
        have last : Tokens_advance_b163 (Int32.ofNat (b p)) c5 = Tokens_advance_b180 (Int32.ofNat (b p)) c5 := by
          unfold Tokens_advance_b163
          by_cases h48 : b p < 48
          · rw [if_pos (show Int32.ofNat (b p) < 48 from (z_lt (b := 48) (by omega) (by omega)).mpr h48)]
          · rw [if_neg (show ¬ Int32.ofNat (b p) < 48 from fun q => h48 ((z_lt (b := 48) (by omega) (by omega)).mp q)), if_pos (show 57 < Int32.ofNat (b p) from (z_lt (a := 57) (by omega) (by omega)).mpr (by omega))]
        by_cases h97 : b p < 97
        · rw [if_pos (show Int32.ofNat (b p) < 97 from (z_lt (b := 97) (by omega) (by omega)).mpr h97), last]
        · rw [if_neg (show ¬ Int32.ofNat (b p) < 97 from fun q => h97 ((z_lt (b := 97) (by omega) (by omega)).mp q)), if_pos (show 122 < Int32.ofNat (b p) from (z_lt (a := 122) (by omega) (by omega)).mpr (by omega)), last]
      obtain ⟨ekC, ekM⟩ := kC_eq c256
      rw [eC, zC_180, zM_sign80 c256 hl hd hpk, k2 3 (by omega), h3, h4, z_s, ekC, ekM]
      refine ⟨_, _, rfl, rfl, p + 1, by omega, by omega, ?_, upI_at, ?_, fun c hc => by rw [upI_ne' hc, upI_ne' hc, upI_ne' hc, k1 c hc], fun j hj => by rw [upI_nj (by omega), upI_nj (by omega), upI_nj (by omega), k2 j (by omega)], fun c hc => ?_, fun c hc => by rw [upI_ne' hc, upI_ne' hc, upI_ne' hc], fun j j1 j2 j3 j4 => by rw [upI_nj j1, upI_nj j4, upI_nj j2], fun c hc => rfl, ?_⟩
      · rw [upI_nj (by omega), upI_nj (by omega), upI_at]
      · rw [upI_nj (by omega), upI_nj (by omega), upI_nj (by omega), k3]
      · show c5.2 c = mC.2 c
        rw [k4]
      · cases hz : zSg (b p) with
        | true =>
          rw [if_pos rfl, if_pos rfl]
          refine Or.inr (Or.inr (Or.inr (Or.inl ⟨by omega, upI_at, ?_, ?_, b p, hz, c256, ?_, ?_⟩)))
          · rw [upI_nj (by omega), upI_nj (by omega), upI_at]
          · rw [upI_nj (by omega), upI_nj (by omega), upI_nj (by omega), k2 8 (by omega), h8]
          · rw [upI_nj (by omega), upI_at]
          · rw [upI_nj (by omega), upI_at]
        | false =>
          rw [if_neg (show ¬ false = true by decide), if_neg (show ¬ false = true by decide)]
          refine Or.inr (Or.inr (Or.inr (Or.inr ⟨?_, ?_, ?_⟩)))
          · by_cases h46 : b p = 46
            · right
              rw [if_pos h46]
              refine ⟨upI_at, ?_⟩
              rw [upI_nj (by omega), upI_at, h46]
              rfl
            · left
              rw [if_neg h46, upI_at]
          · rw [upI_nj (by omega), upI_nj (by omega), upI_at]
          · rw [upI_nj (by omega), upI_nj (by omega), upI_nj (by omega), k2 8 (by omega), h8]
  · rw [if_neg (fun q => h ((z_lt (by omega) (by omega)).mp q)), nm_eq]
    unfold M_go_b80
    rw [hpk, if_neg h, Option.bind_some, if_pos (by decide), nm_eq]
    refine ⟨_, _, rfl, rfl, p, by omega, hp, ?_, ?_, ?_, fun c hc => by rw [upI_ne' hc, k1 c hc], fun j hj => by rw [upI_nj (by omega), k2 j (by omega)], fun c hc => ?_, fun c hc => by rw [upI_ne' hc], fun j j1 j2 j3 j4 => by rw [upI_nj j2], fun c hc => rfl, Or.inl ⟨upI_at, upI_at, ?_⟩⟩
    · rw [upI_nj (by omega), k2 3 (by omega), h3]
    · rw [upI_nj (by omega), h4]
    · rw [upI_nj (by omega), k3]
    · show c5.2 c = mC.2 c
      rw [k4]
    · rw [upI_nj (by omega), k2 8 (by omega), h8]
def zBl (c : Nat) : Bool := c == 32 || c == 10
/-- the next token, both ways -/
theorem zGo0 (H : zTpe n b mC mM) (hres : zRes mC mM) (h2 : mC.1 3 2 = Int32.ofNat lim) (h5 : mM.1 0 5 = Int32.ofNat lim) (hlim : lim ≤ 940) (h3 : mC.1 3 3 = Int32.ofNat p) (h4 : mM.1 0 4 = Int32.ofNat p) (hp : p ≤ n) : ∃ mC' mM', Tokens_advance mC = some mC' ∧ M_go mM = some mM' ∧ zTk n lim p b mC' mM' ∧ zGg mC mC' mM mM' := by
  have h940 := H.1
  unfold Tokens_advance M_go
  rw [nm_eq, nm_eq]
  generalize e2 : upI (upI mC 3 6 (mC.1 3 5)) 3 8 (-1) = c2
  have k1 : ∀ c, c ≠ 3 → c2.1 c = mC.1 c := fun c hc => by rw [← e2, upI_ne' hc, upI_ne' hc]
  have k2 : ∀ j, j ≠ 6 → j ≠ 8 → c2.1 3 j = mC.1 3 j := fun j j6 j8 => by rw [← e2, upI_nj j8, upI_nj j6]
  have k3 : c2.1 3 6 = mC.1 3 5 := by rw [← e2, upI_nj (by omega), upI_at]
  have k4 : c2.1 3 8 = -1 := by rw [← e2, upI_at]
  have k5 : c2.2 = mC.2 := by rw [← e2]; rfl
  obtain ⟨N, r1, r2, r3⟩ := z_run (fun j => zBl (b j)) n (n - p) p (by omega)
  have key := z_loopX (fun f i (s : xMem × xMem) => (Tokens_advance_b13 f s.1, M_go_b0 f s.2)) N (fun i s => ((∀ c, c ≠ 3 → s.1.1 c = c2.1 c) ∧ (∀ j, j ≠ 3 → s.1.1 3 j = c2.1 3 j) ∧ s.1.1 3 3 = Int32.ofNat (p + i) ∧ s.1.2 = c2.2) ∧ (∀ c, c ≠ 0 → s.2.1 c = mM.1 c) ∧ (∀ j, j ≠ 4 → s.2.1 0 j = mM.1 0 j) ∧ s.2.1 0 4 = Int32.ofNat (p + i) ∧ s.2.2 = mM.2) (fun r => ∃ mC' mM', r.1 = some mC' ∧ r.2 = some mM' ∧ zTk n lim p b mC' mM' ∧ zGg mC mC' mM mM') (fun f i s hi hI => ?_) (fun f s hI => ?_) N 0 1000 (c2, mM) (by omega) (by omega) ⟨⟨fun _ _ => rfl, fun _ _ => rfl, by rw [Nat.add_zero, k2 3 (by omega) (by omega), h3], rfl⟩, fun _ _ => rfl, fun _ _ => rfl, by rw [Nat.add_zero, h4], rfl⟩
  · exact key
  · obtain ⟨c1, m1⟩ := s
    dsimp only at hI ⊢
    obtain ⟨⟨a1, a2, a3, a4⟩, b1, b2, b3, b4⟩ := hI
    right
    have hin : p + i < n := by omega
    have HT : zTpe n b c1 m1 := zTpe_tr (by rw [a1 1 (by omega), k1 1 (by omega)]) (by rw [a1 2 (by omega), k1 2 (by omega)]) (b2 3 (by omega)) (b1 1 (by omega)) H
    have hbl : zBl (b (p + i)) = true := r2 i hi
    have c256 := (H.2.2.2 _ hin).1
    have hpk := zM_peek HT b3 (by omega)
    rw [if_pos hin] at hpk
    refine ⟨(upI c1 3 3 (Int32.ofNat (p + i + 1)), upI m1 0 4 (Int32.ofNat (p + i + 1))), ⟨⟨fun c hc => by rw [upI_ne' hc, a1 c hc], fun j hj => by rw [upI_nj hj, a2 j hj], upI_at, a4⟩, fun c hc => by rw [upI_ne' hc, b1 c hc], fun j hj => by rw [upI_nj hj, b2 j hj], upI_at, b4⟩, ?_⟩
    have e59 : Tokens_advance_b59 (Tokens_advance_b13 f) c1 = Tokens_advance_b13 f (upI c1 3 3 (Int32.ofNat (p + i + 1))) := by
      unfold Tokens_advance_b59
      rw [nm_eq, a3, z_s]
    have e18 : M_go_b18 (M_go_b0 f) m1 = M_go_b0 f (upI m1 0 4 (Int32.ofNat (p + i + 1))) := by
      unfold M_go_b18
      rw [nm_eq, b3, z_s]
    have hl : Tokens_advance_b13 (f + 1) c1 = Tokens_advance_b13 f (upI c1 3 3 (Int32.ofNat (p + i + 1))) := by
      rw [Tokens_advance_b13, a3, HT.2.1, if_pos ((z_lt (by omega) (by omega)).mpr hin), zC_tape HT hin, Option.bind_some, Option.bind_some, e59]
      by_cases h32 : b (p + i) = 32
      · rw [if_pos (show Int32.ofNat (b (p + i)) = 32 by rw [h32]; rfl)]
      · have h10 : b (p + i) = 10 := by
          unfold zBl at hbl
          rw [Bool.or_eq_true, beq_iff_eq, beq_iff_eq] at hbl
          omega
        rw [if_neg (show ¬ Int32.ofNat (b (p + i)) = 32 from fun q => h32 ((z_eq (b := 32) (by omega) (by omega)).mp q)), if_pos (show Int32.ofNat (b (p + i)) = 10 by rw [h10]; rfl)]
    have hr : M_go_b0 (f + 1) m1 = M_go_b0 f (upI m1 0 4 (Int32.ofNat (p + i + 1))) := by
      rw [M_go_b0, hpk, Option.bind_some, Option.bind_some, e18]
      by_cases h32 : b (p + i) = 32
      · rw [if_pos (show Int32.ofNat (b (p + i)) = 32 by rw [h32]; rfl)]
      · have h10 : b (p + i) = 10 := by
          unfold zBl at hbl
          rw [Bool.or_eq_true, beq_iff_eq, beq_iff_eq] at hbl
          omega
        rw [if_neg (show ¬ Int32.ofNat (b (p + i)) = 32 from fun q => h32 ((z_eq (b := 32) (by omega) (by omega)).mp q)), if_pos (show Int32.ofNat (b (p + i)) = 10 by rw [h10]; rfl)]
    rw [hl, hr]
  · obtain ⟨c1, m1⟩ := s
    dsimp only at hI ⊢
    obtain ⟨⟨a1, a2, a3, a4⟩, b1, b2, b3, b4⟩ := hI
    have HT : zTpe n b c1 m1 := zTpe_tr (by rw [a1 1 (by omega), k1 1 (by omega)]) (by rw [a1 2 (by omega), k1 2 (by omega)]) (b2 3 (by omega)) (b1 1 (by omega)) H
    have hpk := zM_peek HT b3 r1
    have hl : Tokens_advance_b13 (f + 1) c1 = Tokens_advance_b72 c1 := by
      rw [Tokens_advance_b13, a3, HT.2.1]
      by_cases h : p + N < n
      · have hb := r3 h
        unfold zBl at hb
        rw [Bool.or_eq_false_iff, beq_eq_false_iff_ne, beq_eq_false_iff_ne] at hb
        have c256 := (H.2.2.2 _ h).1
        rw [if_pos ((z_lt (by omega) (by omega)).mpr h), zC_tape HT h, Option.bind_some, if_neg (show ¬ Int32.ofNat (b (p + N)) = 32 from fun q => hb.1 ((z_eq (b := 32) (by omega) (by omega)).mp q)), Option.bind_some, if_neg (show ¬ Int32.ofNat (b (p + N)) = 10 from fun q => hb.2 ((z_eq (b := 10) (by omega) (by omega)).mp q))]
      · rw [if_neg (fun q => h ((z_lt (by omega) (by omega)).mp q))]
    have hr : M_go_b0 (f + 1) m1 = if Int32.ofNat lim < Int32.ofNat n then (if Int32.ofNat (p + N) < Int32.ofNat lim then M_go_b80 (upI (upI m1 0 12 (Int32.ofNat (p + N))) 0 13 0) else some (upI (upI (upI (upI m1 0 12 (Int32.ofNat (p + N))) 0 13 0) 0 12 (Int32.ofNat lim)) 0 11 4)) else M_go_b80 (upI (upI m1 0 12 (Int32.ofNat (p + N))) 0 13 0) := by
      have e32 : ¬ (if p + N < n then Int32.ofNat (b (p + N)) else -1) = 32 ∧ ¬ (if p + N < n then Int32.ofNat (b (p + N)) else -1) = 10 := by
        by_cases h : p + N < n
        · have hb := r3 h
          unfold zBl at hb
          rw [Bool.or_eq_false_iff, beq_eq_false_iff_ne, beq_eq_false_iff_ne] at hb
          have c256 := (H.2.2.2 _ h).1
          rw [if_pos h]
          exact ⟨fun q => hb.1 ((z_eq (b := 32) (by omega) (by omega)).mp q), fun q => hb.2 ((z_eq (b := 10) (by omega) (by omega)).mp q)⟩
        · rw [if_neg h]
          exact ⟨by decide, by decide⟩
      rw [M_go_b0, hpk, Option.bind_some, if_neg e32.1, Option.bind_some, if_neg e32.2, nm_eq, nm_eq, b3, upI_nj (show (5 : Nat) ≠ 13 by omega), upI_nj (show (5 : Nat) ≠ 12 by omega), upI_nj (show (3 : Nat) ≠ 13 by omega), upI_nj (show (3 : Nat) ≠ 12 by omega), upI_nj (show (4 : Nat) ≠ 13 by omega), upI_nj (show (4 : Nat) ≠ 12 by omega), b3, b2 5 (by omega), h5, HT.2.2.1, nm_eq, nm_eq]
    rw [hl, hr]
    unfold Tokens_advance_b72
    rw [a3, a2 2 (by omega), k2 2 (by omega) (by omega), h2, HT.2.1]
    have e3' : c1.1 3 3 = Int32.ofNat (p + N) := a3
    -- not at the limit
    have fin : ∃ mC' mM', Tokens_advance_b111 c1 = some mC' ∧ M_go_b80 (upI (upI m1 0 12 (Int32.ofNat (p + N))) 0 13 0) = some mM' ∧ zTk n lim p b mC' mM' ∧ zGg mC mC' mM mM' := by
      have HT2 : zTpe n b c1 (upI (upI m1 0 12 (Int32.ofNat (p + N))) 0 13 0) := zTpe_tr rfl rfl (by rw [upI_nj (by omega), upI_nj (by omega)]) (by rw [upI_ne' (by omega), upI_ne' (by omega)]) HT
      obtain ⟨c', m', q1, q2, p', q3, q4, q5, q6, q7, q8, q9, q10, q11, q12, q13, q14⟩ := zGo2 HT2 (zRes_tr (by rw [a4, k5]) (by rw [upI_2, upI_2, b4]) hres) a3 (by rw [upI_nj (by omega), upI_nj (by omega), b3]) (by rw [a2 8 (by omega), k4]) upI_at r1
      refine ⟨c', m', q1, q2, ⟨zTpe_tr (by rw [q8 1 (by omega)]) (q8 2 (by omega)) (q12 3 (by omega) (by omega) (by omega) (by omega)) (q11 1 (by omega)) HT2, zRes_tr (by rw [q10 4 (by omega), a4, k5]) (by rw [q13 6 (by omega), upI_2, upI_2, b4]) hres, ⟨by rw [q9 2 (by omega), a2 2 (by omega), k2 2 (by omega) (by omega), h2], by rw [q12 5 (by omega) (by omega) (by omega) (by omega), upI_nj (by omega), upI_nj (by omega), b2 5 (by omega), h5], hlim⟩, ?_, p', q4, by omega, q5, q6, zKd_mono (fun h => by omega) q14⟩, fun c hc => by rw [q8 c hc, a1 c hc, k1 c hc], fun j hj => by rw [q9 j (by omega), a2 j (by omega), k2 j (by omega) (by omega)], by rw [q9 6 (by omega), a2 6 (by omega), k3], fun c hc => by rw [q10 c hc, a4, k5], fun c hc => by rw [q11 c hc, upI_ne' hc, upI_ne' hc, b1 c hc], fun j j4 hj => by rw [q12 j j4 (by omega) (by omega) (by omega), upI_nj (by omega), upI_nj (by omega), b2 j j4], fun c hc => by rw [q13 c hc, upI_2, upI_2, b4]⟩
      rw [q7, q12 12 (by omega) (by omega) (by omega) (by omega), upI_nj (by omega), upI_at]
    by_cases hA : p + N < lim
    · rw [if_pos (show Int32.ofNat (p + N) < Int32.ofNat lim from (z_lt (by omega) (by omega)).mpr hA)]
      obtain ⟨mC', mM', f1, f2, f3, f4⟩ := fin
      refine ⟨mC', mM', f1, ?_, f3, f4⟩
      by_cases hB : lim < n
      · rw [if_pos ((z_lt (by omega) (by omega)).mpr hB), if_pos (show Int32.ofNat (p + N) < Int32.ofNat lim from (z_lt (by omega) (by omega)).mpr hA)]; exact f2
      · rw [if_neg (fun q => hB ((z_lt (by omega) (by omega)).mp q))]; exact f2
    · rw [if_neg (show ¬ Int32.ofNat (p + N) < Int32.ofNat lim from fun q => hA ((z_lt (by omega) (by omega)).mp q))]
      by_cases hB : lim < n
      · rw [if_pos (show Int32.ofNat lim < Int32.ofNat n from (z_lt (by omega) (by omega)).mpr hB), if_pos (show Int32.ofNat lim < Int32.ofNat n from (z_lt (by omega) (by omega)).mpr hB), if_neg (show ¬ Int32.ofNat (p + N) < Int32.ofNat lim from fun q => hA ((z_lt (by omega) (by omega)).mp q)), nm_eq, nm_eq, upI_nj (show (2 : Nat) ≠ 4 by omega), a2 2 (by omega), k2 2 (by omega) (by omega), h2]
        refine ⟨_, _, rfl, rfl, ⟨zTpe_tr (by rw [upI_ne' (by omega), upI_ne' (by omega)]) (by rw [upI_ne' (by omega), upI_ne' (by omega)]) (by rw [upI_nj (by omega), upI_nj (by omega), upI_nj (by omega), upI_nj (by omega)]) (by rw [upI_ne' (by omega), upI_ne' (by omega), upI_ne' (by omega), upI_ne' (by omega)]) HT, zRes_tr (by rw [upI_2, upI_2, a4, k5]) (by rw [upI_2, upI_2, upI_2, upI_2, b4]) hres, ⟨by rw [upI_nj (by omega), upI_nj (by omega), a2 2 (by omega), k2 2 (by omega) (by omega), h2], by rw [upI_nj (by omega), upI_nj (by omega), upI_nj (by omega), upI_nj (by omega), b2 5 (by omega), h5], hlim⟩, by rw [upI_at, upI_nj (by omega), upI_at], p + N, r1, by omega, by rw [upI_nj (by omega), upI_nj (by omega), a3], by rw [upI_nj (by omega), upI_nj (by omega), upI_nj (by omega), upI_nj (by omega), b3], Or.inr (Or.inr (Or.inr (Or.inr ⟨Or.inl (by rw [upI_nj (by omega), upI_at]), upI_at, by rw [upI_nj (by omega), upI_nj (by omega), a2 8 (by omega), k4]⟩)))⟩, fun c hc => by rw [upI_ne' hc, upI_ne' hc, a1 c hc, k1 c hc], fun j hj => by rw [upI_nj (by omega), upI_nj (by omega), a2 j (by omega), k2 j (by omega) (by omega)], by rw [upI_nj (by omega), upI_nj (by omega), a2 6 (by omega), k3], fun c hc => by rw [upI_2, upI_2, a4, k5], fun c hc => by rw [upI_ne' hc, upI_ne' hc, upI_ne' hc, upI_ne' hc, b1 c hc], fun j j4 hj => by rw [upI_nj (by omega), upI_nj (by omega), upI_nj (by omega), upI_nj (by omega), b2 j j4], fun c hc => by rw [upI_2, upI_2, upI_2, upI_2, b4]⟩
      · rw [if_neg (show ¬ Int32.ofNat lim < Int32.ofNat n from fun q => hB ((z_lt (by omega) (by omega)).mp q)), if_neg (show ¬ Int32.ofNat lim < Int32.ofNat n from fun q => hB ((z_lt (by omega) (by omega)).mp q))]
        exact fin
/-- on from where the reading stands -/
theorem zGo (H : zTk n lim q b mC mM) : ∃ mC' mM', Tokens_advance mC = some mC' ∧ M_go mM = some mM' ∧ zTk n lim q b mC' mM' ∧ zGg mC mC' mM mM' := by
  obtain ⟨h1, h2, ⟨h3, h4, h5⟩, h6, p, p1, p2, p3, p4, p5⟩ := H
  obtain ⟨a, c, e1, e2, ⟨t1, t2, t3, t4, p', u1, u2, u3, u4, u5⟩, e4⟩ := zGo0 h1 h2 h3 h4 h5 p3 p4 p1
  exact ⟨a, c, e1, e2, ⟨t1, t2, t3, t4, p', u1, by omega, u3, u4, zKd_mono (fun h => by omega) u5⟩, e4⟩
end ZGO
