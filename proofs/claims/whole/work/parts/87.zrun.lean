/-! Layer 2. Tokens: a run of letters or digits -/
section ZRU
variable {m m' mC mC' mM mM' C0 M0 : xMem} {n p : Nat} {b : Nat → Nat}
theorem zC_runL {f i c : Nat} {v1 v2 : Int32} (H : zTpe n b mC mM) (h3 : mC.1 3 3 = Int32.ofNat (p + i)) (hi : p + i < n) (hb : b (p + i) = c) (h97 : 97 ≤ c) (h122 : c ≤ 122) : Tokens_readRun_b14 (f + 1) v1 v2 mC = Tokens_readRun_b14 f (v1 + 1) v2 (upI (upL mC 3 9 (mC.2 3 9 * 32 + Int64.ofNat (c - 96))) 3 3 (Int32.ofNat (p + i + 1))) := by
  have h940 := H.1
  rw [Tokens_readRun_b14, h3, H.2.1, if_pos ((z_lt (by omega) (by omega)).mpr hi), zC_tape H hi, Option.bind_some, hb, if_neg (show ¬ Int32.ofNat c < 97 from fun q => by have := (z_lt (b := 97) (by omega) (by omega)).mp q; omega), if_neg (show ¬ 122 < Int32.ofNat c from fun q => by have := (z_lt (a := 122) (by omega) (by omega)).mp q; omega), nm_eq, z_ill h97 h122, Tokens_readRun_b109, nm_eq, upL_1, h3, z_s]
theorem zC_runD {f i c : Nat} {v1 v2 : Int32} (H : zTpe n b mC mM) (h3 : mC.1 3 3 = Int32.ofNat (p + i)) (hi : p + i < n) (hb : b (p + i) = c) (h48 : 48 ≤ c) (h57 : c ≤ 57) : Tokens_readRun_b14 (f + 1) v1 v2 mC = Tokens_readRun_b14 f v1 (v2 + 1) (upI (upI mC 3 7 (mC.1 3 7 * 10 + (Int32.ofNat c - 48))) 3 3 (Int32.ofNat (p + i + 1))) := by
  have h940 := H.1
  rw [Tokens_readRun_b14, h3, H.2.1, if_pos ((z_lt (by omega) (by omega)).mpr hi), zC_tape H hi, Option.bind_some, hb, if_pos (show Int32.ofNat c < 97 from (z_lt (b := 97) (by omega) (by omega)).mpr (by omega)), Tokens_readRun_b78, if_neg (show ¬ Int32.ofNat c < 48 from fun q => by have := (z_lt (b := 48) (by omega) (by omega)).mp q; omega), if_neg (show ¬ 57 < Int32.ofNat c from fun q => by have := (z_lt (a := 57) (by omega) (by omega)).mp q; omega), nm_eq, Tokens_readRun_b109, nm_eq, upI_nj (by omega), h3, z_s]
theorem zM_run {f i c : Nat} {small a : Bool} (H : zTpe n b mC mM) (h4 : mM.1 0 4 = Int32.ofNat (p + i)) (h13 : mM.1 0 13 = Int32.ofNat i) (hi : p + i < n) (hb : b (p + i) = c) (hc : zLet c = true ∨ zDig c = true) : ∃ mM', M_go_b181 (f + 1) (zb small) (zb a) mM = M_go_b181 f (zb small) (zb (a && (zLet c == small))) mM' ∧ mM'.1 0 13 = Int32.ofNat (i + 1) ∧ mM'.1 0 4 = Int32.ofNat (p + i + 1) ∧ (i < 7 → mM'.2 0 17 = (l_shl (mM.2 0 17) 8) ||| (Int64.ofNat c)) ∧ (i < 3 → mM'.1 0 14 = (10 * mM.1 0 14 + Int32.ofNat c) - 48) ∧ (∀ d, d ≠ 0 → mM'.1 d = mM.1 d) ∧ (∀ j, j ≠ 4 → j ≠ 13 → j ≠ 14 → mM'.1 0 j = mM.1 0 j) ∧ (∀ d, d ≠ 0 → mM'.2 d = mM.2 d) := by
  have h940 := H.1
  have c256 : c < 256 := by rw [← hb]; exact (H.2.2.2 _ hi).1
  have hpk : ∀ m : xMem, m.1 0 4 = Int32.ofNat (p + i) → m.1 0 3 = mM.1 0 3 → m.1 1 = mM.1 1 → M_peek m = some (Int32.ofNat c) := fun m e1 e2 e3 => by
    rw [zM_peek (zTpe_tr rfl rfl e2 e3 H) e1 (by omega), if_pos hi, hb]
  have hp0 := hpk mM h4 rfl rfl
  have enter : M_go_b181 (f + 1) (zb small) (zb a) mM = M_go_b201 (M_go_b181 f) (zb small) (zb a) mM := by
    rw [M_go_b181, hp0, Option.bind_some, zM_small c256, Option.bind_some]
    cases hl : zLet c with
    | true => rw [if_neg (show ¬ zb true = 0 by decide)]
    | false =>
      have hd : zDig c = true := by
        rcases hc with h | h
        · rw [hl] at h; cases h
        · exact h
      rw [if_pos (show zb false = 0 from rfl), Option.bind_some, zM_digit c256, Option.bind_some, hd, if_neg (show ¬ zb true = 0 by decide)]
  have all : M_go_b201 (M_go_b181 f) (zb small) (zb a) mM = M_go_b221 (M_go_b181 f) (zb small) (zb (a && (zLet c == small))) mM := by
    unfold M_go_b201
    cases a with
    | false => rw [if_pos (show zb false = 0 from rfl)]; rfl
    | true =>
      rw [if_neg (show ¬ zb true = 0 by decide), hp0, Option.bind_some, zM_small c256, Option.bind_some]
      cases zLet c <;> cases small <;> rfl
  rw [enter, all]
  unfold M_go_b221
  rw [h13]
  by_cases h7 : i < 7
  · rw [if_pos (show Int32.ofNat i < 7 from (z_lt (b := 7) (by omega) (by omega)).mpr h7), hp0, Option.bind_some, nm_eq, z_ilb c256]
    unfold M_go_b248
    rw [upL_1, h13]
    by_cases h3 : i < 3
    · rw [if_pos (show Int32.ofNat i < 3 from (z_lt (b := 3) (by omega) (by omega)).mpr h3), hpk (upL mM 0 17 ((l_shl (mM.2 0 17) 8) ||| Int64.ofNat c)) h4 rfl rfl, Option.bind_some, nm_eq]
      unfold M_go_b275
      rw [nm_eq, nm_eq, upI_nj (by omega), upI_nj (by omega), upI_nj (by omega), upL_1, h13, h4, z_s, z_s]
      refine ⟨_, rfl, ?_, upI_at, fun _ => by rw [upI_2, upI_2, upI_2, upL_at], fun _ => ?_, fun d hd => ?_, fun j j1 j2 j3 => ?_, fun d hd => by rw [upI_2, upI_2, upI_2, upL_ne' hd]⟩
      · rw [upI_nj (by omega), upI_at]
      · rw [upI_nj (by omega), upI_nj (by omega), upI_at]
      · rw [upI_ne' hd, upI_ne' hd, upI_ne' hd, upL_1]
      · rw [upI_nj j1, upI_nj j2, upI_nj j3, upL_1]
    · rw [if_neg (show ¬ Int32.ofNat i < 3 from fun q => h3 ((z_lt (b := 3) (by omega) (by omega)).mp q))]
      unfold M_go_b275
      rw [nm_eq, nm_eq, upI_nj (by omega), upL_1, h13, h4, z_s, z_s]
      refine ⟨_, rfl, ?_, upI_at, fun _ => by rw [upI_2, upI_2, upL_at], fun h => by omega, fun d hd => ?_, fun j j1 j2 j3 => ?_, fun d hd => by rw [upI_2, upI_2, upL_ne' hd]⟩
      · rw [upI_nj (by omega), upI_at]
      · rw [upI_ne' hd, upI_ne' hd, upL_1]
      · rw [upI_nj j1, upI_nj j2, upL_1]
  · rw [if_neg (show ¬ Int32.ofNat i < 7 from fun q => h7 ((z_lt (b := 7) (by omega) (by omega)).mp q))]
    unfold M_go_b248
    rw [h13, if_neg (show ¬ Int32.ofNat i < 3 from fun q => by have := (z_lt (b := 3) (by omega) (by omega)).mp q; omega)]
    unfold M_go_b275
    rw [nm_eq, nm_eq, upI_nj (by omega), h13, h4, z_s, z_s]
    refine ⟨_, rfl, ?_, upI_at, fun h => by omega, fun h => by omega, fun d hd => ?_, fun j j1 j2 j3 => ?_, fun d hd => rfl⟩
    · rw [upI_nj (by omega), upI_at]
    · rw [upI_ne' hd, upI_ne' hd]
    · rw [upI_nj j1, upI_nj j2]
/-- the end of a run -/
theorem zRunEnd {small : Bool} {N L D : Nat} (H : zTpe n b C0 M0) (hres : zRes C0 M0) (hN : 1 ≤ N) (hpN : p + N ≤ n) (hstop : p + N < n → (zLet (b (p + N)) || zDig (b (p + N))) = false) (hI : zRi small p N L D C0 M0 mC mM) (f : Nat) : ∃ c' m', Tokens_readRun_b14 (f + 1) (Int32.ofNat L) (Int32.ofNat D) mC = some c' ∧ M_go_b181 (f + 1) (zb small) (zb (zAl1 small L D)) mM = some m' ∧ c'.1 3 3 = Int32.ofNat (p + N) ∧ m'.1 0 4 = Int32.ofNat (p + N) ∧ zGf C0 c' M0 m' ∧ zKd c' m' True := by
  have h940 := H.1
  obtain ⟨hLD, i3, i4, i13, i8, ⟨g1, g2, g3, g4, g5, g6⟩, iw, iv, ipos⟩ := hI
  have HT : zTpe n b mC mM := zTpe_tr (by rw [g1 1 (by omega)]) (g1 2 (by omega)) (g5 3 (by omega) (by omega) (by omega) (by omega)) (g4 1 (by omega)) H
  -- the class stops
  have eC : Tokens_readRun_b14 (f + 1) (Int32.ofNat L) (Int32.ofNat D) mC = Tokens_readRun_b122 (Int32.ofNat L) (Int32.ofNat D) mC := by
    rw [Tokens_readRun_b14, i3, HT.2.1]
    by_cases h : p + N < n
    · have hs := hstop h
      rw [Bool.or_eq_false_iff] at hs
      have c256 := (HT.2.2.2 _ h).1
      have h1 := of_decide_eq_false hs.1
      have h2 := of_decide_eq_false hs.2
      rw [if_pos ((z_lt (by omega) (by omega)).mpr h), zC_tape HT h, Option.bind_some]
      have last : Tokens_readRun_b78 (Tokens_readRun_b14 f) (Int32.ofNat L) (Int32.ofNat D) (Int32.ofNat (b (p + N))) mC = Tokens_readRun_b122 (Int32.ofNat L) (Int32.ofNat D) mC := by
        unfold Tokens_readRun_b78
        by_cases h48 : b (p + N) < 48
        · rw [if_pos (show Int32.ofNat (b (p + N)) < 48 from (z_lt (b := 48) (by omega) (by omega)).mpr h48)]
        · rw [if_neg (show ¬ Int32.ofNat (b (p + N)) < 48 from fun q => h48 ((z_lt (b := 48) (by omega) (by omega)).mp q)), if_pos (show 57 < Int32.ofNat (b (p + N)) from (z_lt (a := 57) (by omega) (by omega)).mpr (by omega))]
      by_cases h97 : b (p + N) < 97
      · rw [if_pos (show Int32.ofNat (b (p + N)) < 97 from (z_lt (b := 97) (by omega) (by omega)).mpr h97), last]
      · rw [if_neg (show ¬ Int32.ofNat (b (p + N)) < 97 from fun q => h97 ((z_lt (b := 97) (by omega) (by omega)).mp q)), if_pos (show 122 < Int32.ofNat (b (p + N)) from (z_lt (a := 122) (by omega) (by omega)).mpr (by omega)), last]
    · rw [if_neg (fun q => h ((z_lt (by omega) (by omega)).mp q))]
  have eM : M_go_b181 (f + 1) (zb small) (zb (zAl1 small L D)) mM = if zb (zAl1 small L D) = 0 then M_go_b333 4 mM else if zb small = 0 then M_go_b317 (zb small) 3 (mM.1 0 13) mM else M_go_b317 (zb small) 7 (mM.1 0 13) mM := by
    rw [M_go_b181, zM_peek HT i4 hpN]
    by_cases h : p + N < n
    · have hs := hstop h
      rw [Bool.or_eq_false_iff] at hs
      have c256 := (HT.2.2.2 _ h).1
      rw [if_pos h, Option.bind_some, zM_small c256, Option.bind_some, hs.1, if_pos (show zb false = 0 from rfl), Option.bind_some, zM_digit c256, Option.bind_some, hs.2, if_pos (show zb false = 0 from rfl)]
    · rw [if_neg h, Option.bind_some, zM_small1, Option.bind_some, if_pos rfl, Option.bind_some, zM_digit1, Option.bind_some, if_pos rfl]
  rw [eC, eM, i13]
  -- the frames that all ends share
  have fr : ∀ (s0 s1 : Int32), zGf C0 (upI mC 3 4 s0) M0 (upI mM 0 11 s1) := fun s0 s1 => ⟨fun c hc => by rw [upI_ne' hc, g1 c hc], fun j hj => by rw [upI_nj (by omega), g2 j hj], g3, fun c hc => by rw [upI_ne' hc, g4 c hc], fun j j1 j2 j3 j4 => by rw [upI_nj j2, g5 j j1 j2 j3 j4], g6⟩
  have other : Tokens_readRun_b122 (Int32.ofNat L) (Int32.ofNat D) mC = some (upI mC 3 4 1) → (if zb (zAl1 small L D) = 0 then M_go_b333 4 mM else if zb small = 0 then M_go_b317 (zb small) 3 (Int32.ofNat N) mM else M_go_b317 (zb small) 7 (Int32.ofNat N) mM) = some (upI mM 0 11 4) → ∃ c' m', Tokens_readRun_b122 (Int32.ofNat L) (Int32.ofNat D) mC = some c' ∧ (if zb (zAl1 small L D) = 0 then M_go_b333 4 mM else if zb small = 0 then M_go_b317 (zb small) 3 (Int32.ofNat N) mM else M_go_b317 (zb small) 7 (Int32.ofNat N) mM) = some m' ∧ c'.1 3 3 = Int32.ofNat (p + N) ∧ m'.1 0 4 = Int32.ofNat (p + N) ∧ zGf C0 c' M0 m' ∧ zKd c' m' True := fun e1 e2 =>
    ⟨_, _, e1, e2, by rw [upI_nj (by omega), i3], by rw [upI_nj (by omega), i4], fr 1 4, Or.inr (Or.inr (Or.inr (Or.inr ⟨Or.inl upI_at, upI_at, by rw [upI_nj (by omega), i8]⟩)))⟩
  by_cases hD : D = 0
  · have hL : L = N := by omega
    subst hD
    have hsm : small = true := by
      cases small with
      | true => rfl
      | false => have := ipos hN; simp at this
    subst hsm
    have hz : zAl1 true L 0 = true := rfl
    by_cases h7 : 7 < L
    · refine other ?_ ?_
      · unfold Tokens_readRun_b122
        rw [if_pos (show Int32.ofNat 0 = 0 from rfl), if_pos (show 7 < Int32.ofNat L from (z_lt (a := 7) (by omega) (by omega)).mpr h7)]
        unfold Tokens_readRun_b157
        rw [if_neg (show ¬ Int32.ofNat L = 0 from fun q => by have := (z_eq (b := 0) (by omega) (by omega)).mp q; omega)]
        rfl
      · rw [hz, if_neg (show ¬ zb true = 0 by decide), if_neg (show ¬ zb true = 0 by decide)]
        unfold M_go_b317
        rw [if_pos (show 7 < Int32.ofNat N from (z_lt (a := 7) (by omega) (by omega)).mpr (by omega))]
        rfl
    · obtain ⟨w, w1, w2, w3, w4⟩ := iw rfl rfl (by omega)
      have hw : zVw w := ⟨by omega, by omega, w2⟩
      have hn := zC_numb (m := upI mC 3 4 2) (q := 4) (N := 32) (cnt := 32) (nm5 := zWrd) (w := w) (by omega) (by omega) (fun k hk => ⟨zVw_wrd hk, by
        show mC.2 4 k = _
        rw [g3 4 (by omega)]
        exact (hres k hk).1⟩) hw
      refine ⟨upI (upI mC 3 4 2) 3 8 (zN (zFst (fun k => decide (zWrd k = w)) 32)), upI mM 0 11 1, ?_, ?_, ?_, by rw [upI_nj (by omega), i4], ⟨fun c hc => by rw [upI_ne' hc, upI_ne' hc, g1 c hc], fun j hj => by rw [upI_nj (by omega), upI_nj (by omega), g2 j hj], g3, fun c hc => by rw [upI_ne' hc, g4 c hc], fun j j1 j2 j3 j4 => by rw [upI_nj j2, g5 j j1 j2 j3 j4], g6⟩, Or.inr (Or.inl ⟨trivial, ?_, upI_at, w, hw, w3, w4, upI_at⟩)⟩
      · unfold Tokens_readRun_b122
        rw [if_pos (show Int32.ofNat 0 = 0 from rfl), if_neg (show ¬ 7 < Int32.ofNat L from fun q => h7 ((z_lt (a := 7) (by omega) (by omega)).mp q)), nm_eq, upI_2, w3]
        have hn' : Tokens_numberOf (upI mC 3 4 2) 4 32 32 (Int64.ofNat (zE5 w)) = some (zN (zFst (fun k => decide (zWrd k = w)) 32)) := hn
        rw [hn', Option.bind_some, nm_eq]
      · rw [hz, if_neg (show ¬ zb true = 0 by decide), if_neg (show ¬ zb true = 0 by decide)]
        unfold M_go_b317
        rw [if_neg (show ¬ 7 < Int32.ofNat N from fun q => by have := (z_lt (a := 7) (by omega) (by omega)).mp q; omega), if_neg (show ¬ zb true = 0 by decide)]
        rfl
      · rw [upI_nj (by omega), upI_nj (by omega), i3]
      · rw [upI_nj (by omega), upI_at]
  · have eD : Tokens_readRun_b122 (Int32.ofNat L) (Int32.ofNat D) mC = Tokens_readRun_b157 (Int32.ofNat L) (Int32.ofNat D) mC := by
      unfold Tokens_readRun_b122
      rw [if_neg (show ¬ Int32.ofNat D = 0 from fun q => hD ((z_eq (b := 0) (by omega) (by omega)).mp q))]
    by_cases hL : L = 0
    · subst hL
      have hDN : D = N := by omega
      have hsm : small = false := by
        cases small with
        | false => rfl
        | true => have := ipos hN; simp at this
      subst hsm
      have hz : zAl1 false 0 D = true := rfl
      by_cases h3 : 3 < D
      · refine other ?_ ?_
        · rw [eD]
          unfold Tokens_readRun_b157
          rw [if_pos (show Int32.ofNat 0 = 0 from rfl), if_pos (show 3 < Int32.ofNat D from (z_lt (a := 3) (by omega) (by omega)).mpr h3)]
          rfl
        · rw [hz, if_neg (show ¬ zb true = 0 by decide), if_pos (show zb false = 0 from rfl)]
          unfold M_go_b317
          rw [if_pos (show 3 < Int32.ofNat N from (z_lt (a := 3) (by omega) (by omega)).mpr (by omega))]
          rfl
      · obtain ⟨v, v1, v2, v3⟩ := iv rfl rfl (by omega)
        refine ⟨upI mC 3 4 3, upI mM 0 11 2, ?_, ?_, by rw [upI_nj (by omega), i3], by rw [upI_nj (by omega), i4], fr 3 2, Or.inr (Or.inr (Or.inl ⟨trivial, upI_at, upI_at, by rw [upI_nj (by omega), i8], v, ?_, by rw [upI_nj (by omega), v2], by rw [upI_nj (by omega), v3]⟩))⟩
        · rw [eD]
          unfold Tokens_readRun_b157
          rw [if_pos (show Int32.ofNat 0 = 0 from rfl), if_neg (show ¬ 3 < Int32.ofNat D from fun q => h3 ((z_lt (a := 3) (by omega) (by omega)).mp q))]
          rfl
        · rw [hz, if_neg (show ¬ zb true = 0 by decide), if_pos (show zb false = 0 from rfl)]
          unfold M_go_b317
          rw [if_neg (show ¬ 3 < Int32.ofNat N from fun q => by have := (z_lt (a := 3) (by omega) (by omega)).mp q; omega), if_pos (show zb false = 0 from rfl)]
          rfl
        · have : 10 ^ N ≤ 10 ^ 3 := Nat.pow_le_pow_right (by omega) (by omega)
          omega
    · refine other ?_ ?_
      · rw [eD]
        unfold Tokens_readRun_b157
        rw [if_neg (show ¬ Int32.ofNat L = 0 from fun q => hL ((z_eq (b := 0) (by omega) (by omega)).mp q))]
        rfl
      · have hz : zAl1 small L D = false := by
          unfold zAl1
          cases small
          · rw [if_neg (by decide), decide_eq_false hL]
          · rw [if_pos rfl, decide_eq_false hD]
        rw [hz, if_pos (show zb false = 0 from rfl)]
        rfl
theorem zRun {small : Bool} {N : Nat} (H : zTpe n b C0 M0) (hres : zRes C0 M0) (hN : 1 ≤ N) (hpN : p + N ≤ n) (hrun : ∀ i, i < N → (zLet (b (p + i)) || zDig (b (p + i))) = true) (hstop : p + N < n → (zLet (b (p + N)) || zDig (b (p + N))) = false) (hs : small = zLet (b p)) (hI : zRi small p 0 0 0 C0 M0 mC mM) : ∃ c' m', Tokens_readRun_b14 1000 0 0 mC = some c' ∧ M_go_b181 1000 (zb small) 1 mM = some m' ∧ c'.1 3 3 = Int32.ofNat (p + N) ∧ m'.1 0 4 = Int32.ofNat (p + N) ∧ zGf C0 c' M0 m' ∧ zKd c' m' True := by
  have h940 := H.1
  have key := z_loopX (fun f i (s : Nat × Nat × xMem × xMem) => (Tokens_readRun_b14 f (Int32.ofNat s.1) (Int32.ofNat s.2.1) s.2.2.1, M_go_b181 f (zb small) (zb (zAl1 small s.1 s.2.1)) s.2.2.2)) N (fun i s => zRi small p i s.1 s.2.1 C0 M0 s.2.2.1 s.2.2.2) (fun r => ∃ c' m', r.1 = some c' ∧ r.2 = some m' ∧ c'.1 3 3 = Int32.ofNat (p + N) ∧ m'.1 0 4 = Int32.ofNat (p + N) ∧ zGf C0 c' M0 m' ∧ zKd c' m' True) (fun f i s hi hI => ?_) (fun f s hI => ?_) N 0 1000 (0, 0, mC, mM) (by omega) (by omega) hI
  · have e : zb (zAl1 small 0 0) = 1 := by cases small <;> rfl
    dsimp only at key
    rw [e] at key
    exact key
  · obtain ⟨L, D, c1, m1⟩ := s
    dsimp only at hI ⊢
    right
    obtain ⟨hLD, i3, i4, i13, i8, ⟨g1, g2, g3, g4, g5, g6⟩, iw, iv, ipos⟩ := hI
    have HT : zTpe n b c1 m1 := zTpe_tr (by rw [g1 1 (by omega)]) (g1 2 (by omega)) (g5 3 (by omega) (by omega) (by omega) (by omega)) (g4 1 (by omega)) H
    have hin : p + i < n := by omega
    have hr := hrun i hi
    have hr' : zLet (b (p + i)) = true ∨ zDig (b (p + i)) = true := by rw [Bool.or_eq_true] at hr; exact hr
    obtain ⟨m2, e2, k13, k4, kw, kv, kf, kj, kl⟩ := zM_run (f := f) (small := small) (a := zAl1 small L D) HT i4 i13 hin rfl hr'
    cases hl : zLet (b (p + i)) with
    | true =>
      have hc := of_decide_eq_true hl
      refine ⟨(L + 1, D, upI (upL c1 3 9 (c1.2 3 9 * 32 + Int64.ofNat (b (p + i) - 96))) 3 3 (Int32.ofNat (p + i + 1)), m2), ?_, ?_⟩
      · dsimp only
        refine ⟨by omega, upI_at, k4, k13, by rw [upI_nj (by omega), upL_1, i8], ⟨fun c hcc => by rw [upI_ne' hcc, upL_1, g1 c hcc], fun j hj => by rw [upI_nj (by omega), upL_1, g2 j hj], fun c hcc => by rw [upI_2, upL_ne' hcc, g3 c hcc], fun c hcc => by rw [kf c hcc, g4 c hcc], fun j j1 j2 j3 j4 => by rw [kj j j1 j3 j4, g5 j j1 j2 j3 j4], fun c hcc => by rw [kl c hcc, g6 c hcc]⟩, fun h1 h2 h3 => ?_, fun h1 h2 h3 => by omega, fun _ => ?_⟩
        · obtain ⟨w, w1, w2, w3, w4⟩ := iw h1 h2 (by omega)
          refine ⟨w ++ [b (p + i) - 96], by rw [List.length_append, w1]; rfl, fun x hx => ?_, ?_, ?_⟩
          · rcases List.mem_append.mp hx with h | h
            · exact w2 x h
            · rw [List.mem_singleton] at h
              omega
          · rw [upI_2, upL_at, w3, zE5_s, z_m32]
          · rw [kw (by omega), w4, z_s8 (zE8_b (by omega) w2) (by omega), zE8_s, show 96 + (b (p + i) - 96) = b (p + i) by omega]
        · cases small with
          | true => rw [if_pos rfl]; omega
          | false =>
            rw [if_neg (by decide)]
            by_cases h0 : i = 0
            · rw [h0, Nat.add_zero, ← hs] at hl
              cases hl
            · have := ipos (by omega)
              rw [if_neg (by decide)] at this
              exact this
      · rw [zC_runL HT i3 hin rfl hc.1 hc.2, z_s, e2, hl]
        have ez : (zAl1 small L D && (true == small)) = zAl1 small (L + 1) D := by
          unfold zAl1
          cases small
          · rw [if_neg (by decide), if_neg (by decide), decide_eq_false (show ¬ L + 1 = 0 by omega)]
            exact Bool.and_false _
          · rw [if_pos rfl, if_pos rfl]
            exact Bool.and_true _
        rw [ez]
    | false =>
      have hd : zDig (b (p + i)) = true := by
        rcases hr' with h | h
        · rw [hl] at h; cases h
        · exact h
      have hc := of_decide_eq_true hd
      refine ⟨(L, D + 1, upI (upI c1 3 7 (c1.1 3 7 * 10 + (Int32.ofNat (b (p + i)) - 48))) 3 3 (Int32.ofNat (p + i + 1)), m2), ?_, ?_⟩
      · dsimp only
        refine ⟨by omega, upI_at, k4, k13, by rw [upI_nj (by omega), upI_nj (by omega), i8], ⟨fun c hcc => by rw [upI_ne' hcc, upI_ne' hcc, g1 c hcc], fun j hj => by rw [upI_nj (by omega), upI_nj (by omega), g2 j hj], fun c hcc => g3 c hcc, fun c hcc => by rw [kf c hcc, g4 c hcc], fun j j1 j2 j3 j4 => by rw [kj j j1 j3 j4, g5 j j1 j2 j3 j4], fun c hcc => by rw [kl c hcc, g6 c hcc]⟩, fun h1 h2 h3 => by omega, fun h1 h2 h3 => ?_, fun _ => ?_⟩
        · obtain ⟨v, v1, v2, v3⟩ := iv h1 h2 (by omega)
          have hv : v < 1000 := by
            have : 10 ^ i ≤ 10 ^ 3 := Nat.pow_le_pow_right (by omega) (by omega)
            omega
          have hsub : Int32.ofNat (b (p + i)) - 48 = Int32.ofNat (b (p + i) - 48) := by
            have : ∀ c, c < 58 → 48 ≤ c → Int32.ofNat c - 48 = Int32.ofNat (c - 48) := by decide +kernel
            exact this _ (by omega) hc.1
          have hadd : ∀ a c : Nat, 48 ≤ c → (Int32.ofNat a + Int32.ofNat c) - 48 = Int32.ofNat (a + (c - 48)) := fun a c h => by
            rw [z_add, show a + c = (a + (c - 48)) + 48 by omega, ← z_add]
            show Int32.ofNat (a + (c - 48)) + 48 - 48 = _
            rw [Int32.add_sub_cancel]
          refine ⟨10 * v + (b (p + i) - 48), ?_, ?_, ?_⟩
          · rw [Nat.pow_succ]
            omega
          · rw [upI_nj (by omega), upI_at, v2, hsub, show (Int32.ofNat v * 10 : Int32) = Int32.ofNat (v * 10) from (Int32.ofNat_mul v 10).symm, z_add, Nat.mul_comm]
          · rw [kv (by omega), v3, show (10 * Int32.ofNat v : Int32) = Int32.ofNat (10 * v) from z_mul 10 v, hadd _ _ hc.1]
        · cases small with
          | false => rw [if_neg (by decide)]; omega
          | true =>
            rw [if_pos rfl]
            by_cases h0 : i = 0
            · rw [h0, Nat.add_zero, ← hs] at hl
              cases hl
            · have := ipos (by omega)
              rw [if_pos rfl] at this
              exact this
      · rw [zC_runD HT i3 hin rfl hc.1 hc.2, z_s, e2, hl]
        have ez : (zAl1 small L D && (false == small)) = zAl1 small L (D + 1) := by
          unfold zAl1
          cases small
          · rw [if_neg (by decide), if_neg (by decide)]
            exact Bool.and_true _
          · rw [if_pos rfl, if_pos rfl, decide_eq_false (show ¬ D + 1 = 0 by omega)]
            exact Bool.and_false _
        rw [ez]
  · obtain ⟨L, D, c1, m1⟩ := s
    exact zRunEnd H hres hN hpN hstop hI f
end ZRU
