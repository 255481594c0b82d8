/-! Layer 2. sentence: a plain one, all kinds -/
section ZPK
variable {m m' mC mC' mM mM' C0 M0 : xMem} {n lim q j w k f g i : Nat} {b : Nat → Nat} {S : List Int32} {o a : Bool} {l : List zTp3}
theorem zC_failF {x : Int32} {r : Int32 × xMem} (h : Tokens_fail m x = some r) : ∀ c, c ≠ 3 → r.2.1 c = m.1 c := by
  intro c hc
  unfold Tokens_fail Tokens_failAt at h
  by_cases h0 : m.1 3 10 = 0
  · rw [if_pos h0, nm_eq, nm_eq, Option.bind_some, rz_0, Option.bind_some] at h
    rw [← Option.some.inj h]
    show (upI (upI m 3 10 x) 3 11 (m.1 3 5)).1 c = m.1 c
    rw [upI_ne' hc, upI_ne' hc]
  · rw [if_neg h0, Option.bind_some, rz_0, Option.bind_some] at h
    rw [← Option.some.inj h]
theorem zC_failF1 {x : Int32} (h : ((Tokens_fail m x).bind fun r => some ((-1 : Int32), r.2)) = some (-1, m')) : ∀ c, c ≠ 3 → m'.1 c = m.1 c := by
  obtain ⟨r, h1, h2⟩ := Option.bind_eq_some_iff.mp h
  have e : r.2 = m' := congrArg Prod.snd (Option.some.inj h2)
  rw [← e]
  exact zC_failF h1
theorem zC_knF {p0 N : Nat} {cnt : Int32} (h : Tokens_takeKnown m p0 N cnt = some (-1, m')) : ∀ c, c ≠ 3 → m'.1 c = m.1 c := by
  unfold Tokens_takeKnown Tokens_takeKnown_b16 at h
  by_cases h1 : m.1 3 4 = 2
  · rw [if_pos h1] at h
    by_cases h2 : m.1 3 8 = -1
    · rw [if_pos h2] at h
      obtain ⟨r, h3, h4⟩ := Option.bind_eq_some_iff.mp h
      by_cases h5 : r = -1
      · rw [if_pos h5] at h4
        exact zC_failF1 h4
      · rw [if_neg h5] at h4
        obtain ⟨r', h6, h7⟩ := Option.bind_eq_some_iff.mp h4
        exact absurd (congrArg Prod.fst (Option.some.inj h7)) h5
    · rw [if_neg h2] at h
      exact zC_failF1 h
  · rw [if_neg h1] at h
    exact zC_failF1 h
theorem zC_woF {p0 : Int32} (h : Tokens_takeWord m p0 4 = some (-1, m')) : ∀ c, c ≠ 3 → m'.1 c = m.1 c := by
  unfold Tokens_takeWord Tokens_takeWord_b24 at h
  rw [nm_eq] at h
  by_cases h1 : m.1 3 8 = -1
  · rw [if_pos h1] at h
    exact zC_failF1 h
  · rw [if_neg h1] at h
    by_cases h2 : m.1 3 8 - p0 < 0
    · rw [if_pos h2] at h
      exact zC_failF1 h
    · rw [if_neg h2] at h
      by_cases h3 : m.1 3 8 - p0 < 4
      · rw [if_pos h3] at h
        obtain ⟨r', h6, h7⟩ := Option.bind_eq_some_iff.mp h
        have e : m.1 3 8 - p0 = -1 := congrArg Prod.fst (Option.some.inj h7)
        rw [e] at h2
        exact absurd (by decide) h2
      · rw [if_neg h3] at h
        exact zC_failF1 h
theorem zC_nuF {hi : Int32} (h : Tokens_takeNumber m 0 hi = some (-1, m')) : ∀ c, c ≠ 3 → m'.1 c = m.1 c := by
  unfold Tokens_takeNumber Tokens_takeNumber_b23 Tokens_takeNumber_b37 at h
  rw [nm_eq] at h
  by_cases h1 : m.1 3 4 = 3
  · rw [if_pos h1, if_pos h1] at h
    by_cases h2 : m.1 3 7 < 0
    · rw [if_pos h2] at h
      exact zC_failF1 h
    · rw [if_neg h2] at h
      by_cases h3 : hi < m.1 3 7
      · rw [if_pos h3] at h
        exact zC_failF1 h
      · rw [if_neg h3] at h
        obtain ⟨r', h6, h7⟩ := Option.bind_eq_some_iff.mp h
        have e : m.1 3 7 = -1 := congrArg Prod.fst (Option.some.inj h7)
        rw [e] at h2
        exact absurd (by decide) h2
  · rw [if_neg h1, if_neg h1] at h
    exact zC_failF1 h
theorem zKd_sg {s : Prop} (H : zKd mC mM s) : (mC.1 3 4 = 4 ∧ mM.1 0 11 = 3 ∧ ∃ v, zSg v = true ∧ v < 256 ∧ mC.1 3 7 = Int32.ofNat v ∧ mM.1 0 14 = Int32.ofNat v) ∨ (¬ mM.1 0 11 = 3 ∧ (¬ mC.1 3 4 = 4 ∨ mC.1 3 7 = 46)) := by
  rcases H with ⟨a, c, _⟩ | ⟨_, a, c, _⟩ | ⟨_, a, c, _⟩ | ⟨_, a, c, _, h⟩ | ⟨a, c, _⟩
  · exact Or.inr ⟨by rw [c]; decide, Or.inl (by rw [a]; decide)⟩
  · exact Or.inr ⟨by rw [c]; decide, Or.inl (by rw [a]; decide)⟩
  · exact Or.inr ⟨by rw [c]; decide, Or.inl (by rw [a]; decide)⟩
  · exact Or.inl ⟨a, c, h⟩
  · refine Or.inr ⟨by rw [c]; decide, ?_⟩
    rcases a with a | a
    · exact Or.inl (by rw [a]; decide)
    · exact Or.inr a.2
theorem zC_notS {x : Int32} (h : ¬ mC.1 3 4 = 4 ∨ ¬ mC.1 3 7 = x) : Tokens_isSign mC x = some 0 := by
  unfold Tokens_isSign
  by_cases h1 : mC.1 3 4 = 4
  · rw [if_pos h1, if_neg (by rcases h with h | h; exact absurd h1 h; exact h)]
  · rw [if_neg h1]
theorem zC_isS {x : Int32} (h : mC.1 3 4 = 4) (h7 : mC.1 3 7 = x) : Tokens_isSign mC x = some 1 := by
  unfold Tokens_isSign
  rw [if_pos h, if_pos h7]
/-- what is compared with a number -/
theorem zLf_cmp (hi : i < 8) (hi5 : 5 ≤ i) (h53 : mM.1 0 53 = 1) (hk : k + 1 ≤ 20) (hl : l.length ≤ 2 * k) (h : zXs n lim b C0 M0 S false false 0 w (k + 1) g q l mC mM) : zLf1 n lim b C0 M0 S w k g q l (Sentence_readPlain mC 71 6 (Int32.ofNat (24 + i))) (zMlf (Int32.ofNat i) mM) := by
  have hT := zXs_T h
  have hm := zXs_s h
  obtain ⟨R, hf, hq, _, _, hD, hk1, hk2, hk', hl', hTl, hw⟩ := h
  have hp : S ++ zPd false false 0 = S := by unfold zPd; simp
  rw [hp] at hTl
  have ne : ∀ c, c ≤ 28 → ¬ Int32.ofNat (24 + i) = Int32.ofNat c := fun c hc e => by have := (z_eq (by omega) (by omega)).mp e; omega
  unfold Sentence_readPlain zMlf
  rw [if_neg (show ¬ Int32.ofNat (24 + i) = 24 from ne 24 (by omega)), if_neg (show ¬ Int32.ofNat (24 + i) = 25 from ne 25 (by omega)), if_neg (show ¬ Int32.ofNat (24 + i) = 26 from ne 26 (by omega)), if_neg (show ¬ Int32.ofNat (24 + i) = 27 from ne 27 (by omega)), if_neg (show ¬ Int32.ofNat (24 + i) = 28 from ne 28 (by omega)), if_neg (show ¬ Int32.ofNat i < 2 from fun e => by have := (z_lt (b := 2) (by omega) (by omega)).mp e; omega), if_neg (show ¬ Int32.ofNat i < 5 from fun e => by have := (z_lt (b := 5) (by omega) (by omega)).mp e; omega)]
  obtain ⟨s, hkd⟩ := zRd_kd R
  have badC : (Tokens_isSign mC 60 = some 0) → (Tokens_isSign mC 61 = some 0) → (Tokens_isSign mC 62 = some 0) → zLf1 n lim b C0 M0 S w k g q l ((Tokens_isSign mC 60).bind fun r4 => if r4 = 0 then (Tokens_isSign mC 61).bind fun r5 => if r5 = 0 then (Tokens_isSign mC 62).bind fun r6 => if r6 = 0 then (Tokens_fail mC 1).bind fun r7 => (rz r7.1).bind fun w => some (w, r7.2) else Sentence_readPlain_b117 71 6 (Int32.ofNat (24 + i)) mC else Sentence_readPlain_b117 71 6 (Int32.ofNat (24 + i)) mC else Sentence_readPlain_b117 71 6 (Int32.ofNat (24 + i)) mC) (M_operand_b237 mM) := fun e1 e2 e3 => by
    rw [e1, Option.bind_some, if_pos rfl, e2, Option.bind_some, if_pos rfl, e3, Option.bind_some, if_pos rfl]
    unfold M_operand_b237
    obtain ⟨a, c, f1, f2, f3⟩ := zT_fail (k := 1) (by decide) R
    exact Or.inr ⟨a, c, by rw [f1, Option.bind_some, rz_0, Option.bind_some], by rw [f2, Option.bind_some, rz_0, Option.bind_some], f3⟩
  rcases zKd_sg hkd with ⟨a4, a11, v, v1, v2, v3, v4⟩ | ⟨a11, a4⟩
  · rw [if_pos a11, v4]
    by_cases h60 : v < 60
    · rw [if_pos (show Int32.ofNat v < 60 from (z_lt (b := 60) (by omega) (by omega)).mpr h60)]
      exact badC (zC_notS (Or.inr (by rw [v3]; exact fun e => by have := (z_eq (b := 60) (by omega) (by omega)).mp e; omega))) (zC_notS (Or.inr (by rw [v3]; exact fun e => by have := (z_eq (b := 61) (by omega) (by omega)).mp e; omega))) (zC_notS (Or.inr (by rw [v3]; exact fun e => by have := (z_eq (b := 62) (by omega) (by omega)).mp e; omega)))
    · rw [if_neg (show ¬ Int32.ofNat v < 60 from fun e => h60 ((z_lt (b := 60) (by omega) (by omega)).mp e))]
      by_cases h62 : 62 < v
      · rw [if_pos (show 62 < Int32.ofNat v from (z_lt (a := 62) (by omega) (by omega)).mpr h62)]
        exact badC (zC_notS (Or.inr (by rw [v3]; exact fun e => by have := (z_eq (b := 60) (by omega) (by omega)).mp e; omega))) (zC_notS (Or.inr (by rw [v3]; exact fun e => by have := (z_eq (b := 61) (by omega) (by omega)).mp e; omega))) (zC_notS (Or.inr (by rw [v3]; exact fun e => by have := (z_eq (b := 62) (by omega) (by omega)).mp e; omega)))
      · rw [if_neg (show ¬ 62 < Int32.ofNat v from fun e => h62 ((z_lt (a := 62) (by omega) (by omega)).mp e)), nm_eq]
        have eC : ((Tokens_isSign mC 60).bind fun r4 => if r4 = 0 then (Tokens_isSign mC 61).bind fun r5 => if r5 = 0 then (Tokens_isSign mC 62).bind fun r6 => if r6 = 0 then (Tokens_fail mC 1).bind fun r7 => (rz r7.1).bind fun w => some (w, r7.2) else Sentence_readPlain_b117 71 6 (Int32.ofNat (24 + i)) mC else Sentence_readPlain_b117 71 6 (Int32.ofNat (24 + i)) mC else Sentence_readPlain_b117 71 6 (Int32.ofNat (24 + i)) mC) = Sentence_readPlain_b117 71 6 (Int32.ofNat (24 + i)) mC := by
          by_cases q60 : v = 60
          · rw [zC_isS (x := 60) a4 (by rw [v3, q60]; rfl), Option.bind_some, if_neg (show ¬ (1 : Int32) = 0 by decide)]
          · rw [zC_notS (x := 60) (Or.inr (by rw [v3]; exact fun e => q60 ((z_eq (b := 60) (by omega) (by omega)).mp e))), Option.bind_some, if_pos rfl]
            by_cases q61 : v = 61
            · rw [zC_isS (x := 61) a4 (by rw [v3, q61]; rfl), Option.bind_some, if_neg (show ¬ (1 : Int32) = 0 by decide)]
            · rw [zC_notS (x := 61) (Or.inr (by rw [v3]; exact fun e => q61 ((z_eq (b := 61) (by omega) (by omega)).mp e))), Option.bind_some, if_pos rfl, zC_isS (x := 62) a4 (by rw [v3, show v = 62 by omega]; rfl), Option.bind_some, if_neg (show ¬ (1 : Int32) = 0 by decide)]
        rw [eC]
        unfold Sentence_readPlain_b117
        rw [nm_eq, v3]
        obtain ⟨c1, m1, x1, x2, R1, G1⟩ := zT_go R
        rw [x1, x2, Option.bind_some, Option.bind_some]
        have hq1 : zSq c1 l := zSq_tr (by rw [G1.1 71 (by omega)]) (G1.1 72 (by omega)) (G1.1 73 (by omega)) (G1.1 74 (by omega)) hq
        rcases zT_num0 (hi := 999) (by omega) R1 with ⟨y, y1, y2, y3, y4⟩ | ⟨y, c2, m2, y1, y2, _⟩ | ⟨c2, m2, y1, y2, y3, Bd⟩
        · have y4' : Tokens_takeNumber c1 0 999 = ((Tokens_advance c1).bind fun r => some (Int32.ofNat y, r)) := y4
          obtain ⟨c2, m2', z1, _, _, G2'⟩ := zT_go R1
          have hq2 : zSq c2 l := zSq_tr (by rw [G2'.1 71 (by omega)]) (G2'.1 72 (by omega)) (G2'.1 73 (by omega)) (G2'.1 74 (by omega)) hq1
          have hm1 : zSm m1 l := zSm_tr (G1.2.2.2.1 4 (by omega)) (G1.2.2.2.2.1 49 (by omega) (by omega)) hm
          obtain ⟨mC', mM', d1, d2, d3, d4, d5, d6, d7, d8, d9, d10⟩ := zP_leaf (i := i) (s := Int32.ofNat v) (x := Int32.ofNat y) hi (fun _ => z_nm1 (by omega)) hk hq2 hm1 hl
          obtain ⟨c2b, m3, z1b, z2, R3, G3⟩ := zT_go (zRd_M (zSf_w d7) R1)
          have ec : c2b = c2 := Option.some.inj (z1b.symm.trans z1)
          subst ec
          rw [y4', z1, Option.bind_some, Option.bind_some, if_pos y2, y3, d2, Option.bind_some, z2, Option.bind_some]
          dsimp only
          unfold Sentence_readPlain_b137
          rw [d1, Option.bind_some, if_neg (z_nm1 (show y < 2147483648 by omega))]
          have e0 : ∀ j, j ≠ 4 → (j < 11 ∨ 18 < j) → j ≠ 49 → m3.1 0 j = mM.1 0 j := fun j h4 hj h49 => by rw [G3.2.2.2.2.1 j h4 (by omega), d8 j h49, G1.2.2.2.2.1 j h4 (by omega)]
          refine Or.inl ⟨_, mC', m3, rfl, rfl, by rw [e0 53 (by omega) (by omega) (by omega)]; exact h53, zSy_mk (zRd_C d5 R3) hf d3 (zSm_tr (G3.2.2.2.1 4 (by omega)) (G3.2.2.2.2.1 49 (by omega) (by omega)) d4) (zSt_tr (by rw [G3.2.2.2.1 19 (by omega), d7.1 19 (by omega) (by omega), G1.2.2.2.1 19 (by omega)]) (e0 51 (by omega) (by omega) (by omega)) hT) (by rw [e0 52 (by omega) (by omega) (by omega)]; exact hD) (by rw [d6 1 (by omega), G3.1 71 (by omega), G1.1 71 (by omega)]; exact hk1) (by rw [e0 50 (by omega) (by omega) (by omega)]; exact hk2) hk' (zL_len hl) hTl hw, d9, d10⟩
        · exfalso
          omega
        · have y2' : Tokens_takeNumber c1 0 999 = some (-1, c2) := y2
          rw [y2', Option.bind_some, if_neg y1, y3]
          dsimp only
          have hF := zC_nuF y2'
          obtain ⟨c3, d1, _, _, _, _, d6⟩ := zC_add (w := Int32.ofNat (24 + i)) (s := Int32.ofNat v) (n := -1) (zSq_tr (mC' := c2) (by rw [hF 71 (by omega)]) (hF 72 (by omega)) (hF 73 (by omega)) (hF 74 (by omega)) hq1) (by omega)
          unfold Sentence_readPlain_b137
          rw [d1, Option.bind_some, if_pos rfl]
          exact Or.inr ⟨c3, m2, rfl, rfl, zBad_C d6 Bd⟩
  · rw [if_neg a11]
    have hn : ∀ x : Nat, x < 256 → x ≠ 46 → ¬ mC.1 3 4 = 4 ∨ ¬ mC.1 3 7 = Int32.ofNat x := fun x hx hx2 => by
      rcases a4 with h | h
      · exact Or.inl h
      · right
        rw [h]
        exact fun e => hx2 ((z_eq (a := 46) (b := x) (by omega) (by omega)).mp e).symm
    exact badC (zC_notS (hn 60 (by omega) (by omega))) (zC_notS (hn 61 (by omega) (by omega))) (zC_notS (hn 62 (by omega) (by omega)))
/-- a plain one -/
theorem zLf_all (P : zPh C0 M0) (hi : i < 8) (h53 : mM.1 0 53 = 1) (hk : k + 1 ≤ 20) (hl : l.length ≤ 2 * k) (h : zXs n lim b C0 M0 S false false 0 w (k + 1) g q l mC mM) : zLf1 n lim b C0 M0 S w k g q l (Sentence_readPlain mC 71 6 (Int32.ofNat (24 + i))) (zMlf (Int32.ofNat i) mM) := by
  by_cases h5 : 5 ≤ i
  · exact zLf_cmp hi h5 h53 hk hl h
  have R := h.1
  have hq := h.2.2.1
  obtain ⟨p6, p7, p8, q0, q1, q2, b6, o6, c8, nb, no, ns⟩ := zPh_ct P R
  by_cases h0 : i = 0
  · subst h0
    unfold Sentence_readPlain zMlf
    rw [if_pos (show Int32.ofNat (24 + 0) = 24 from rfl), if_pos (show Int32.ofNat 0 < 2 by decide)]
    exact zLf_01 (i := 0) (by omega) h53 hk hl h
  by_cases h1 : i = 1
  · subst h1
    unfold Sentence_readPlain zMlf
    rw [if_neg (show ¬ Int32.ofNat (24 + 1) = 24 by decide), if_pos (show Int32.ofNat (24 + 1) = 25 from rfl), if_pos (show Int32.ofNat 1 < 2 by decide)]
    exact zLf_01 (i := 1) (by omega) h53 hk hl h
  by_cases h2 : i = 2
  · subst h2
    unfold Sentence_readPlain zMlf
    rw [if_neg (show ¬ Int32.ofNat (24 + 2) = 24 by decide), if_neg (show ¬ Int32.ofNat (24 + 2) = 25 by decide), if_pos (show Int32.ofNat (24 + 2) = 26 from rfl), if_neg (show ¬ Int32.ofNat 2 < 2 by decide), if_pos (show Int32.ofNat 2 < 5 by decide), if_pos (show Int32.ofNat 2 = 2 from rfl)]
    rcases zT_one (f0 := 12) (by omega) R with ⟨x, hx, x11, y1, y2⟩ | ⟨a2, c2, y1, y2, Bd⟩
    · have y1' : Tokens_takeWord mC 12 4 = ((Tokens_advance mC).bind fun r => some (Int32.ofNat x, r)) := y1
      have y2' := zM_sideW (r := (1, upI mM 0 18 (Int32.ofNat x))) y2 (Or.inr rfl)
      rw [y1', y2', Option.bind_some]
      exact zLf_w (i := 2) (r := fun _ => none) (by omega) (by omega) h53 hk hl h
    · have y1' : Tokens_takeWord mC 12 4 = some (-1, a2) := y1
      have y2' := zM_sideW (r := (0, c2)) y2 (Or.inl rfl)
      have hF := zC_woF y1'
      rw [y1', y2']
      have := zLf_wbad (i := 2) (n := n) (lim := lim) (b := b) (S := S) (w := w) (k := k) (g := g) (q := q) (x := -1) rfl (zSq_tr (mC' := a2) (by rw [hF 71 (by omega)]) (hF 72 (by omega)) (hF 73 (by omega)) (hF 74 (by omega)) hq) (by omega) Bd
      exact this
  by_cases h3 : i = 3
  · subst h3
    unfold Sentence_readPlain zMlf
    rw [if_neg (show ¬ Int32.ofNat (24 + 3) = 24 by decide), if_neg (show ¬ Int32.ofNat (24 + 3) = 25 by decide), if_neg (show ¬ Int32.ofNat (24 + 3) = 26 by decide), if_pos (show Int32.ofNat (24 + 3) = 27 from rfl), if_neg (show ¬ Int32.ofNat 3 < 2 by decide), if_pos (show Int32.ofNat 3 < 5 by decide), if_neg (show ¬ Int32.ofNat 3 = 2 by decide), if_pos (show Int32.ofNat 3 = 3 from rfl), p7, q1]
    rcases zT_known (c0 := 8) (N := 6) (base := 6) (cnt := zO (M0.1 2)) (by omega) o6 (by omega) no R with ⟨x, hx, x11, y1, y2⟩ | ⟨a2, c2, y1, y2, Bd⟩
    · have y1' : Tokens_takeKnown mC (6 + 2) 6 (Int32.ofNat (zO (M0.1 2))) = ((Tokens_advance mC).bind fun r => some (Int32.ofNat x, r)) := y1
      have y2' : M_looksAt mM 6 (Int32.ofNat (zO (M0.1 2))) = some (1, upI mM 0 18 (Int32.ofNat x)) := y2
      rw [y1', y2', Option.bind_some]
      exact zLf_w (i := 3) (r := fun _ => none) (by omega) (by omega) h53 hk hl h
    · have y1' : Tokens_takeKnown mC (6 + 2) 6 (Int32.ofNat (zO (M0.1 2))) = some (-1, a2) := y1
      have y2' : M_looksAt mM 6 (Int32.ofNat (zO (M0.1 2))) = some (0, c2) := y2
      have hF := zC_knF y1'
      rw [y1', y2']
      have := zLf_wbad (i := 3) (n := n) (lim := lim) (b := b) (S := S) (w := w) (k := k) (g := g) (q := q) (x := -1) rfl (zSq_tr (mC' := a2) (by rw [hF 71 (by omega)]) (hF 72 (by omega)) (hF 73 (by omega)) (hF 74 (by omega)) hq) (by omega) Bd
      exact this
  · have h4 : i = 4 := by omega
    subst h4
    unfold Sentence_readPlain zMlf
    rw [if_neg (show ¬ Int32.ofNat (24 + 4) = 24 by decide), if_neg (show ¬ Int32.ofNat (24 + 4) = 25 by decide), if_neg (show ¬ Int32.ofNat (24 + 4) = 26 by decide), if_neg (show ¬ Int32.ofNat (24 + 4) = 27 by decide), if_pos (show Int32.ofNat (24 + 4) = 28 from rfl), if_neg (show ¬ Int32.ofNat 4 < 2 by decide), if_pos (show Int32.ofNat 4 < 5 by decide), if_neg (show ¬ Int32.ofNat 4 = 2 by decide), if_neg (show ¬ Int32.ofNat 4 = 3 by decide)]
    rcases zT_one (f0 := 8) (by omega) R with ⟨x, hx, x11, y1, y2⟩ | ⟨a2, c2, y1, y2, Bd⟩
    · have y1' : Tokens_takeWord mC 8 4 = ((Tokens_advance mC).bind fun r => some (Int32.ofNat x, r)) := y1
      have y2' := zM_kind (f := 0) (r := (1, upI mM 0 18 (Int32.ofNat x))) y2 (Or.inr rfl)
      rw [y1', y2', Option.bind_some]
      exact zLf_w (i := 4) (r := fun _ => none) (by omega) (by omega) h53 hk hl h
    · have y1' : Tokens_takeWord mC 8 4 = some (-1, a2) := y1
      have y2' := zM_kind (f := 0) (r := (0, c2)) y2 (Or.inl rfl)
      have hF := zC_woF y1'
      rw [y1', y2']
      have := zLf_wbad (i := 4) (n := n) (lim := lim) (b := b) (S := S) (w := w) (k := k) (g := g) (q := q) (x := -1) rfl (zSq_tr (mC' := a2) (by rw [hF 71 (by omega)]) (hF 72 (by omega)) (hF 73 (by omega)) (hF 74 (by omega)) hq) (by omega) Bd
      exact this
end ZPK
