/-! Layer 2. What is taken from a text: numbers, words, names, signs -/
section ZTA
variable {m m' mC mC' mM mM' C0 M0 C1 M1 : xMem} {n p lim q : Nat} {b : Nat → Nat}
theorem zKd_num {s : Prop} (H : zKd mC mM s) : (mC.1 3 4 = 3 ∧ mM.1 0 11 = 2 ∧ ∃ v, v < 1000 ∧ mC.1 3 7 = Int32.ofNat v ∧ mM.1 0 14 = Int32.ofNat v) ∨ (¬ mC.1 3 4 = 3 ∧ ¬ mM.1 0 11 = 2) := by
  rcases H with ⟨a, c, _⟩ | ⟨_, a, c, _⟩ | ⟨_, a, c, _, h⟩ | ⟨_, a, c, _⟩ | ⟨a, c, _⟩
  · exact Or.inr ⟨by rw [a]; decide, by rw [c]; decide⟩
  · exact Or.inr ⟨by rw [a]; decide, by rw [c]; decide⟩
  · exact Or.inl ⟨a, c, h⟩
  · exact Or.inr ⟨by rw [a]; decide, by rw [c]; decide⟩
  · refine Or.inr ⟨?_, by rw [c]; decide⟩
    rcases a with a | a
    · rw [a]; decide
    · rw [a.1]; decide
theorem zKd_word {s : Prop} (H : zKd mC mM s) : (mC.1 3 4 = 2 ∧ mM.1 0 11 = 1 ∧ ∃ w, zVw w ∧ mC.2 3 9 = Int64.ofNat (zE5 w) ∧ mM.2 0 17 = Int64.ofNat (zE8 w) ∧ mC.1 3 8 = zN (zFst (fun k => decide (zWrd k = w)) 32)) ∨ (¬ mC.1 3 4 = 2 ∧ ¬ mM.1 0 11 = 1 ∧ mC.1 3 8 = -1) := by
  rcases H with ⟨a, c, d⟩ | ⟨_, a, c, h⟩ | ⟨_, a, c, d, _⟩ | ⟨_, a, c, d, _⟩ | ⟨a, c, d⟩
  · exact Or.inr ⟨by rw [a]; decide, by rw [c]; decide, d⟩
  · exact Or.inl ⟨a, c, h⟩
  · exact Or.inr ⟨by rw [a]; decide, by rw [c]; decide, d⟩
  · exact Or.inr ⟨by rw [a]; decide, by rw [c]; decide, d⟩
  · refine Or.inr ⟨?_, by rw [c]; decide, d⟩
    rcases a with a | a
    · rw [a]; decide
    · rw [a.1]; decide
theorem zKd_end {s : Prop} (H : zKd mC mM s) : (mC.1 3 4 = 0 ∧ mM.1 0 11 = 0) ∨ (¬ mC.1 3 4 = 0 ∧ ¬ mM.1 0 11 = 0) := by
  rcases H with ⟨a, c, _⟩ | ⟨_, a, c, _⟩ | ⟨_, a, c, _⟩ | ⟨_, a, c, _⟩ | ⟨a, c, _⟩
  · exact Or.inl ⟨a, c⟩
  · exact Or.inr ⟨by rw [a]; decide, by rw [c]; decide⟩
  · exact Or.inr ⟨by rw [a]; decide, by rw [c]; decide⟩
  · exact Or.inr ⟨by rw [a]; decide, by rw [c]; decide⟩
  · refine Or.inr ⟨?_, by rw [c]; decide⟩
    rcases a with a | a
    · rw [a]; decide
    · rw [a.1]; decide
theorem zKd_sign {s : Prop} {k : Nat} (hk : zSg k = true) (h256 : k < 256) (H : zKd mC mM s) : ∃ t : Bool, Tokens_isSign mC (Int32.ofNat k) = some (zb t) ∧ M_isSign mM (Int32.ofNat k) = some (zb t) ∧ (t = true → mM.1 0 11 = 3) := by
  have h46 : ¬ (46 : Int32) = Int32.ofNat k := fun e => by
    have h := (z_eq (a := 46) (b := k) (by omega) (by omega)).mp e
    rw [← h] at hk
    revert hk
    decide
  unfold Tokens_isSign M_isSign
  rcases H with ⟨a, c, _⟩ | ⟨_, a, c, _⟩ | ⟨_, a, c, _⟩ | ⟨_, a, c, _, v, v1, v2, v3, v4⟩ | ⟨a, c, _⟩
  · exact ⟨false, by rw [a, if_neg (by decide)]; rfl, by rw [c, if_neg (by decide)]; rfl, fun h => by cases h⟩
  · exact ⟨false, by rw [a, if_neg (by decide)]; rfl, by rw [c, if_neg (by decide)]; rfl, fun h => by cases h⟩
  · exact ⟨false, by rw [a, if_neg (by decide)]; rfl, by rw [c, if_neg (by decide)]; rfl, fun h => by cases h⟩
  · rw [a, c, if_pos rfl, if_pos rfl, v3, v4]
    by_cases h : Int32.ofNat v = Int32.ofNat k
    · exact ⟨true, by rw [if_pos h]; rfl, by rw [if_pos h]; rfl, fun _ => rfl⟩
    · exact ⟨false, by rw [if_neg h]; rfl, by rw [if_neg h]; rfl, fun h => by cases h⟩
  · rw [c, if_neg (show ¬ (4 : Int32) = 3 by decide)]
    refine ⟨false, ?_, rfl, fun h => by cases h⟩
    rcases a with a | ⟨a, a7⟩
    · rw [a, if_neg (show ¬ (1 : Int32) = 4 by decide)]; rfl
    · rw [a, if_pos rfl, a7, if_neg h46]; rfl
theorem zRd_kd (H : zRd n lim q b C0 M0 mC mM) : ∃ s, zKd mC mM s := by
  obtain ⟨⟨t1, t2, t3, t4, p, u1, u2, u3, u4, u5⟩, k⟩ := H
  exact ⟨_, u5⟩
theorem zOk_8 (h1 : ∀ c, c ≠ 0 → m'.1 c = mM.1 c) (h2 : ∀ j, j ≠ 4 → (j < 11 ∨ 18 < j) → m'.1 0 j = mM.1 0 j) (h3 : ∀ c, c ≠ 0 → m'.2 c = mM.2 c) (H : zOk mC mC' m' mM') : zOk8 mC mC' mM mM' := by
  obtain ⟨g1, g2, g3, g4, g5, g6⟩ := H
  exact ⟨g1, g2, g3, fun c hc => by rw [g4 c hc, h1 c hc], fun j h4 hj => by rw [g5 j h4 (by omega), h2 j h4 hj], fun c hc => by rw [g6 c hc, h3 c hc]⟩
theorem zOk_8' (H : zOk mC mC' mM mM') : zOk8 mC mC' mM mM' := zOk_8 (fun _ _ => rfl) (fun _ _ _ => rfl) (fun _ _ => rfl) H
theorem zT_bad1 {k : Int32} (hk : ¬ k = 0) (H : zRd n lim q b C0 M0 mC mM) : ∃ mC' mM', (Tokens_fail mC k).bind (fun r => some ((-1 : Int32), r.2)) = some (-1, mC') ∧ (M_bad mM k).bind (fun r => (rz r.1).bind fun w => some (w, r.2)) = some (0, mM') ∧ zBad C0 M0 mC' mM' := by
  obtain ⟨a, c, e1, e2, e3⟩ := zT_fail hk H
  exact ⟨a, c, by rw [e1, Option.bind_some], by rw [e2, Option.bind_some, rz_0, Option.bind_some], e3⟩
/-- a number -/
theorem zT_num {lo hi : Nat} (hlo : lo < 1000) (hhi : hi < 1000) (H : zRd n lim q b C0 M0 mC mM) : (∃ v mC' mM', lo ≤ v ∧ v ≤ hi ∧ Tokens_takeNumber mC (Int32.ofNat lo) (Int32.ofNat hi) = some (Int32.ofNat v, mC') ∧ M_takes mM (Int32.ofNat lo) (Int32.ofNat hi) = some (1, mM') ∧ mM'.1 0 18 = Int32.ofNat v ∧ mM.1 0 14 = Int32.ofNat v ∧ mM.1 0 11 = 2 ∧ zRd n lim q b C0 M0 mC' mM' ∧ zOk8 mC mC' mM mM') ∨ (∃ mC' mM', Tokens_takeNumber mC (Int32.ofNat lo) (Int32.ofNat hi) = some (-1, mC') ∧ M_takes mM (Int32.ofNat lo) (Int32.ofNat hi) = some (0, mM') ∧ zBad C0 M0 mC' mM') := by
  obtain ⟨s, hkd⟩ := zRd_kd H
  unfold Tokens_takeNumber M_takes
  rw [nm_eq]
  rcases zKd_num hkd with ⟨a, c, v, v1, v2, v3⟩ | ⟨a, c⟩
  · rw [a, if_pos rfl, c, if_pos rfl, v2, v3, zM_in, Option.bind_some]
    by_cases h1 : v < lo
    · right
      rw [if_pos ((z_lt (by omega) (by omega)).mpr h1), decide_eq_true ((z_lt (by omega) (by omega)).mpr h1)]
      rw [if_pos (show zb (!true && !decide (Int32.ofNat hi < Int32.ofNat v)) = 0 from rfl)]
      unfold Tokens_takeNumber_b23
      rw [a, if_pos rfl]
      exact zT_bad1 (k := 2) (by decide) H
    · rw [if_neg (fun e => h1 ((z_lt (by omega) (by omega)).mp e)), decide_eq_false (fun e => h1 ((z_lt (by omega) (by omega)).mp e))]
      by_cases h2 : hi < v
      · right
        rw [if_pos ((z_lt (by omega) (by omega)).mpr h2), decide_eq_true ((z_lt (by omega) (by omega)).mpr h2)]
        rw [if_pos (show zb (!false && !true) = 0 from rfl)]
        unfold Tokens_takeNumber_b23
        rw [a, if_pos rfl]
        exact zT_bad1 (k := 2) (by decide) H
      · left
        rw [if_neg (fun e => h2 ((z_lt (by omega) (by omega)).mp e)), decide_eq_false (fun e => h2 ((z_lt (by omega) (by omega)).mp e))]
        rw [if_neg (show ¬ zb (!false && !false) = 0 by decide), nm_eq]
        obtain ⟨a', c', e1, e2, e3, e4⟩ := zT_go (zRd_M (zMw_18 (v := Int32.ofNat v)) H)
        refine ⟨v, a', c', by omega, by omega, by rw [e1, Option.bind_some], by rw [e2, Option.bind_some], ?_, rfl, rfl, e3, zOk_8 (fun c hc => upI_ne' hc) (fun j _ hj => upI_nj (by omega)) (fun _ _ => rfl) e4⟩
        rw [e4.2.2.2.2.1 18 (by omega) (by omega), upI_at]
  · right
    rw [if_neg a, if_neg c]
    unfold Tokens_takeNumber_b23
    rw [if_neg a]
    exact zT_bad1 (k := 1) (by decide) H
/-- a number that is put into the model's row -/
theorem zT_put {lo hi j : Nat} (hlo : lo < 1000) (hhi : hi < 1000) (hj : j < 97) (H : zRd n lim q b C0 M0 mC mM) : (∃ v mC' mM', lo ≤ v ∧ v ≤ hi ∧ Tokens_takeNumber mC (Int32.ofNat lo) (Int32.ofNat hi) = some (Int32.ofNat v, mC') ∧ M_puts mM (Int32.ofNat j) (Int32.ofNat lo) (Int32.ofNat hi) = some (1, mM') ∧ zRd n lim q b C0 M0 mC' mM' ∧ (∀ c, c ≠ 3 → mC'.1 c = mC.1 c) ∧ (∀ c, c ≠ 3 → mC'.2 c = mC.2 c) ∧ (∀ c, c ≠ 0 → c ≠ 3 → mM'.1 c = mM.1 c) ∧ (∀ i, i ≠ 4 → (i < 11 ∨ 18 < i) → mM'.1 0 i = mM.1 0 i) ∧ (∀ i, i ≠ j → mM'.1 3 i = mM.1 3 i) ∧ mM'.1 3 j = Int32.ofNat v ∧ (∀ c, c ≠ 0 → mM'.2 c = mM.2 c)) ∨ (∃ mC' mM', Tokens_takeNumber mC (Int32.ofNat lo) (Int32.ofNat hi) = some (-1, mC') ∧ M_puts mM (Int32.ofNat j) (Int32.ofNat lo) (Int32.ofNat hi) = some (0, mM') ∧ zBad C0 M0 mC' mM') := by
  unfold M_puts
  rcases zT_num hlo hhi H with ⟨v, a, c, h1, h2, e1, e2, e3, _, _, e4, g1, g2, g3, g4, g5, g6⟩ | ⟨a, c, e1, e2, e3⟩
  · left
    rw [e1, e2, Option.bind_some, if_neg (show ¬ ((1 : Int32), c).1 = 0 from (by decide : ¬ (1 : Int32) = 0)), z_ix hj (by omega), Option.bind_some, nm_eq, e3]
    refine ⟨v, a, _, h1, h2, rfl, rfl, zRd_M (zMw_row (by omega)) e4, g1, g3, fun d h0 h3 => by rw [upI_ne' h3, g4 d h0], fun i hi4 hi => by rw [upI_ne' (by omega), g5 i hi4 hi], fun i hi => by rw [upI_nj hi, g4 3 (by omega)], upI_at, fun d hd => by rw [upI_2, g6 d hd]⟩
  · right
    rw [e1, e2, Option.bind_some, if_pos rfl]
    exact ⟨a, c, rfl, rfl, e3⟩
/-- a sign -/
theorem zT_sign {k : Nat} (hk : zSg k = true) (h256 : k < 256) (H : zRd n lim q b C0 M0 mC mM) : (∃ mC' mM', Tokens_skipSign mC (Int32.ofNat k) = some (1, mC') ∧ M_sign mM (Int32.ofNat k) = some (1, mM') ∧ zRd n lim (q + 1) b C0 M0 mC' mM' ∧ zOk mC mC' mM mM') ∨ (∃ mC' mM', Tokens_skipSign mC (Int32.ofNat k) = some (0, mC') ∧ M_sign mM (Int32.ofNat k) = some (0, mM') ∧ zBad C0 M0 mC' mM') := by
  obtain ⟨s, hkd⟩ := zRd_kd H
  obtain ⟨t, e1, e2, e3⟩ := zKd_sign hk h256 hkd
  unfold Tokens_skipSign M_sign
  rw [e1, Option.bind_some, e2, Option.bind_some]
  cases t with
  | true =>
    left
    rw [if_neg (show ¬ zb true = 0 by decide), if_neg (show ¬ zb true = 0 by decide)]
    obtain ⟨a, c, f1, f2, f3, f4⟩ := zT_go1 H (Or.inr (Or.inr (e3 rfl)))
    exact ⟨a, c, by rw [f1, Option.bind_some], by rw [f2, Option.bind_some], f3, f4⟩
  | false =>
    right
    rw [if_pos (show zb false = 0 from rfl), if_pos (show zb false = 0 from rfl)]
    obtain ⟨a, c, f1, f2, f3⟩ := zT_fail (k := 1) (by decide) H
    exact ⟨a, c, by rw [f1, Option.bind_some, rz_0, Option.bind_some], by rw [f2, Option.bind_some, rz_0, Option.bind_some], f3⟩
/-- a word with no meaning of its own -/
theorem zM_name {w : List Nat} (hres : zRes mC mM) (hw : zVw w) (h11 : mM.1 0 11 = 1) (h17 : mM.2 0 17 = Int64.ofNat (zE8 w)) : M_isName mM = some (zb (decide (zFst (fun k => decide (zWrd k = w)) 32 = none))) := by
  unfold M_isName
  rw [if_pos h11]
  have key := z_loopX (fun f i (v : Bool) => M_isName_b16 mM f (zb v) (Int32.ofNat i)) 32 (fun i v => v = decide (∀ k, k < i → ¬ zWrd k = w)) (fun r => r = some (zb (decide (zFst (fun k => decide (zWrd k = w)) 32 = none)))) (fun f i v hi hI => ?_) (fun f v hI => ?_) 32 0 1000 true (by omega) (by omega) (by rw [decide_eq_true (fun k hk => by omega)])
  · exact key
  · right
    have hx : (∀ k, k < i + 1 → ¬ zWrd k = w) ↔ ((∀ k, k < i → ¬ zWrd k = w) ∧ ¬ zWrd i = w) := by
      constructor
      · intro h; exact ⟨fun k hk => h k (by omega), h i (by omega)⟩
      · intro ⟨h1, h2⟩ k hk
        by_cases e : k = i
        · rw [e]; exact h2
        · exact h1 k (by omega)
    rw [M_isName_b16, if_pos (show Int32.ofNat i < 32 from (z_lt (b := 32) (by omega) (by omega)).mpr hi)]
    cases v with
    | false =>
      rw [if_pos (show zb false = 0 from rfl), z_s]
      refine ⟨false, ?_, rfl⟩
      rw [decide_eq_false]
      intro h
      have h1 := of_decide_eq_false hI.symm
      exact h1 (hx.mp h).1
    | true =>
      have h1 := of_decide_eq_true hI.symm
      rw [if_neg (show ¬ zb true = 0 by decide), z_ix hi (by omega), Option.bind_some, h17, (hres i hi).2, z_s]
      by_cases e : zWrd i = w
      · have e' : Int64.ofNat (zE8 w) = Int64.ofNat (zE8 (zWords.getD i [])) := by rw [← e]; rfl
        rw [if_pos ((z_lcmp _ _).mpr e')]
        refine ⟨false, ?_, rfl⟩
        rw [decide_eq_false]
        intro h
        exact (hx.mp h).2 e
      · rw [if_neg (show ¬ lg_cmp (Int64.ofNat (zE8 w)) (Int64.ofNat (zE8 (zWords.getD i []))) = 0 from fun h => e (((z_w8 hw (zVw_wrd hi)).mp ((z_lcmp _ _).mp h)).symm))]
        refine ⟨true, ?_, rfl⟩
        rw [decide_eq_true (hx.mpr ⟨h1, e⟩)]
  · rw [M_isName_b16, if_neg (show ¬ Int32.ofNat 32 < 32 by decide), zb_rz, Option.bind_some, hI]
    have : (∀ k, k < 32 → ¬ zWrd k = w) ↔ zFst (fun k => decide (zWrd k = w)) 32 = none := by
      rw [zFst_none]
      constructor
      · intro h k hk; exact decide_eq_false (h k hk)
      · intro h k hk; exact of_decide_eq_false (h k hk)
    rw [decide_eq_decide.mpr this]
theorem zM_name0 (h11 : ¬ mM.1 0 11 = 1) : M_isName mM = some 0 := by
  unfold M_isName
  rw [if_neg h11]
  have key := z_loop (fun f i => M_isName_b16 mM f 0 (Int32.ofNat i)) 32 (some 0) (fun f i hi => ?_) (fun f => ?_) 32 0 1000 (by omega) (by omega)
  · exact key
  · rw [M_isName_b16, if_pos (show Int32.ofNat i < 32 from (z_lt (b := 32) (by omega) (by omega)).mpr hi), if_pos rfl, z_s]
  · rw [M_isName_b16, if_neg (show ¬ Int32.ofNat 32 < 32 by decide), rz_0, Option.bind_some]
theorem zRd_res (H : zRd n lim q b C0 M0 mC mM) : zRes mC mM := H.1.2.1
theorem zN_eq1 {o : Option Nat} {N : Nat} (hN : N < 2147483648) (h : ∀ k, o = some k → k < N) : (zN o = -1) ↔ o = none := by
  cases o with
  | none => exact ⟨fun _ => rfl, fun _ => rfl⟩
  | some k =>
    have := h k rfl
    exact ⟨fun e => absurd e (z_nm1 (by omega)), fun e => by cases e⟩
theorem zFst_lt {P : Nat → Bool} {n k : Nat} (h : zFst P n = some k) : k < n := (zFst_some h).1
/-- names that both keep -/
def zNmP (mC mM : xMem) (c0 base cnt : Nat) : Prop := ∀ i, i < cnt → zNm (mC.2 c0 i) (mM.2 5 (base + i))
theorem zNmP_ex {c0 base cnt : Nat} (hn : zNmP mC mM c0 base cnt) : ∃ nf : Nat → List Nat, (∀ i, i < cnt → zVw (nf i) ∧ mC.2 c0 i = Int64.ofNat (zE5 (nf i))) ∧ (∀ i, i < cnt → zVw (nf i) ∧ mM.2 5 (base + i) = Int64.ofNat (zE8 (nf i))) := by
  have h : ∀ i, ∃ w, i < cnt → zVw w ∧ mC.2 c0 i = Int64.ofNat (zE5 w) ∧ mM.2 5 (base + i) = Int64.ofNat (zE8 w) := fun i => by
    by_cases hi : i < cnt
    · obtain ⟨w, w1, w2, w3, w4, w5⟩ := hn i hi
      exact ⟨w, fun _ => ⟨⟨w1, w2, w3⟩, w4, w5⟩⟩
    · exact ⟨[], fun e => absurd e hi⟩
  refine ⟨fun i => Classical.choose (h i), fun i hi => ?_, fun i hi => ?_⟩
  · have := Classical.choose_spec (h i) hi
    exact ⟨this.1, this.2.1⟩
  · have := Classical.choose_spec (h i) hi
    exact ⟨this.1, this.2.2⟩
/-- one of these names -/
theorem zT_known {c0 N base cnt : Nat} (hN : N < 1000) (hcnt : cnt ≤ N) (hb : base + cnt ≤ 40) (hn : zNmP mC mM c0 base cnt) (H : zRd n lim q b C0 M0 mC mM) : (∃ k, k < cnt ∧ mM.1 0 11 = 1 ∧ Tokens_takeKnown mC c0 N (Int32.ofNat cnt) = ((Tokens_advance mC).bind fun r => some (Int32.ofNat k, r)) ∧ M_looksAt mM (Int32.ofNat base) (Int32.ofNat cnt) = some (1, upI mM 0 18 (Int32.ofNat k))) ∨ (∃ mC' mM', Tokens_takeKnown mC c0 N (Int32.ofNat cnt) = some (-1, mC') ∧ M_looksAt mM (Int32.ofNat base) (Int32.ofNat cnt) = some (0, mM') ∧ zBad C0 M0 mC' mM') := by
  obtain ⟨s, hkd⟩ := zRd_kd H
  unfold Tokens_takeKnown M_looksAt
  rcases zKd_word hkd with ⟨a, c, w, w1, w2, w3, w4⟩ | ⟨a, c, _⟩
  · rw [a, if_pos rfl, w4, w2, zM_name (zRd_res H) w1 c w3, Option.bind_some]
    cases hr : zFst (fun k => decide (zWrd k = w)) 32 with
    | some k =>
      right
      have hk := zFst_lt hr
      rw [if_neg (show ¬ zN (some k) = -1 from z_nm1 (by omega)), if_pos (show zb (decide (some k = none)) = 0 by rw [decide_eq_false (by intro e; cases e)]; rfl)]
      exact zT_bad1 (k := 1) (by decide) H
    | none =>
      rw [if_pos (show zN none = -1 from rfl), if_neg (show ¬ zb (decide ((none : Option Nat) = none)) = 0 by rw [decide_eq_true rfl]; decide)]
      obtain ⟨nf, n1, n2⟩ := zNmP_ex hn
      rw [zC_numb hN hcnt n1 w1, Option.bind_some, zM_find hb n2 w1 w3, Option.bind_some, nm_eq, upI_at]
      cases hf : zFst (fun k => decide (nf k = w)) cnt with
      | some k =>
        left
        have hk := zFst_lt hf
        rw [if_neg (show ¬ zN (some k) = -1 from z_nm1 (by omega)), if_neg (show ¬ zN (some k) < 0 from z_nn (by omega))]
        exact ⟨k, hk, c, rfl, rfl⟩
      | none =>
        right
        rw [if_pos (show zN none = -1 from rfl), if_pos (show zN none < 0 by decide)]
        obtain ⟨d, e, e1, e2, e3⟩ := zT_fail (k := 3) (by decide) (zRd_M (zMw_18 (v := zN none)) H)
        exact ⟨d, e, by rw [e1, Option.bind_some], by rw [e2, Option.bind_some, if_pos rfl], e3⟩
  · right
    rw [if_neg a, zM_name0 c, Option.bind_some, if_pos rfl]
    exact zT_bad1 (k := 1) (by decide) H
/-- one of four words -/
theorem zT_one {f0 : Nat} (hf : f0 + 4 ≤ 32) (H : zRd n lim q b C0 M0 mC mM) : (∃ k, k < 4 ∧ mM.1 0 11 = 1 ∧ Tokens_takeWord mC (Int32.ofNat f0) 4 = ((Tokens_advance mC).bind fun r => some (Int32.ofNat k, r)) ∧ M_isOneOf mM (Int32.ofNat f0) = some (1, upI mM 0 18 (Int32.ofNat k))) ∨ (∃ mC' mM', Tokens_takeWord mC (Int32.ofNat f0) 4 = some (-1, mC') ∧ M_isOneOf mM (Int32.ofNat f0) = some (0, mM') ∧ zBad C0 M0 mC' mM') := by
  obtain ⟨s, hkd⟩ := zRd_kd H
  have huu : ∀ (x y : Int32), upI (upI mM 0 18 x) 0 18 y = upI mM 0 18 y := fun x y => by
    unfold upI
    refine Prod.ext ?_ rfl
    funext a e
    dsimp only
    by_cases h : a = 0 ∧ e = 18
    · rw [if_pos h, if_pos h]
    · rw [if_neg h, if_neg h, if_neg h]
  have hb : ∀ {v : Int32}, ¬ (0 : Int32) ≤ v → v < 0 := fun {v} h => Int32.not_le.mp h
  have bad : ∃ mC' mM', Tokens_takeWord_b24 (Int32.ofNat f0) 4 mC = some (-1, mC') ∧ ((M_bad (upI mM 0 18 (-1)) 1).bind fun r3 => if r3.1 = 0 then some ((0 : Int32), r3.2) else some (1, r3.2)) = some (0, mM') ∧ zBad C0 M0 mC' mM' := by
    unfold Tokens_takeWord_b24
    obtain ⟨d, e, e1, e2, e3⟩ := zT_fail (k := 1) (by decide) (zRd_M (zMw_18 (v := -1)) H)
    exact ⟨d, e, by rw [e1, Option.bind_some], by rw [e2, Option.bind_some, if_pos rfl], e3⟩
  unfold Tokens_takeWord M_isOneOf
  rw [nm_eq, nm_eq]
  rcases zKd_word hkd with ⟨a, c, w, w1, w2, w3, w4⟩ | ⟨a, c, w4⟩
  · rw [w4]
    -- the model's loop
    have loop : ∀ r : Option (Int32 × xMem), (∀ v : Int32, v = zN (zFst (fun k => decide (zWrd (f0 + k) = w)) 4) → r = (if (upI mM 0 18 v).1 0 18 < 0 then ((M_bad (upI mM 0 18 v) 1).bind fun r3 => if r3.1 = 0 then some ((0 : Int32), r3.2) else some (1, r3.2)) else some (1, upI mM 0 18 v))) → M_isOneOf_b7 (Int32.ofNat f0) 1000 0 (upI mM 0 18 (-1)) = r := by
      intro r hr
      have key := z_loopX (fun f i (v : Int32) => M_isOneOf_b7 (Int32.ofNat f0) f (Int32.ofNat i) (upI mM 0 18 v)) 4 (fun i v => v = zN (zFst (fun k => decide (zWrd (f0 + k) = w)) i)) (fun x => x = r) (fun f i v hi hI => ?_) (fun f v hI => ?_) 4 0 1000 (-1) (by omega) (by omega) rfl
      · exact key
      · right
        have e11 : (upI mM 0 18 v).1 0 11 = 1 := by rw [upI_nj (by omega)]; exact c
        refine ⟨if zWrd (f0 + i) = w then Int32.ofNat i else v, ?_, ?_⟩
        · rw [zFst]
          by_cases e : zWrd (f0 + i) = w
          · rw [if_pos e, decide_eq_true e]
            cases hq : zFst (fun k => decide (zWrd (f0 + k) = w)) i with
            | none => rfl
            | some k =>
              exfalso
              obtain ⟨q1, q2, q3⟩ := zFst_some hq
              have := zWrd_inj (i := f0 + k) (j := f0 + i) (by omega) (by omega) ((of_decide_eq_true q2).trans e.symm)
              omega
          · rw [if_neg e, decide_eq_false e, hI]
            cases hq : zFst (fun k => decide (zWrd (f0 + k) = w)) i <;> rfl
        · rw [M_isOneOf_b7, if_pos (show Int32.ofNat i < 4 from (z_lt (b := 4) (by omega) (by omega)).mpr hi), if_pos e11, z_add, z_ix (show f0 + i < 32 by omega) (by omega), Option.bind_some, upI_2, w3, ((zRd_res H) (f0 + i) (by omega)).2]
          by_cases e : zWrd (f0 + i) = w
          · have e' : Int64.ofNat (zE8 w) = Int64.ofNat (zE8 (zWords.getD (f0 + i) [])) := by rw [← e]; rfl
            rw [if_pos ((z_lcmp _ _).mpr e'), if_pos e]
            unfold M_isOneOf_b45
            rw [nm_eq, huu, z_s]
          · rw [if_neg (show ¬ lg_cmp (Int64.ofNat (zE8 w)) (Int64.ofNat (zE8 (zWords.getD (f0 + i) []))) = 0 from fun h => e (((z_w8 w1 (zVw_wrd (k := f0 + i) (by omega))).mp ((z_lcmp _ _).mp h)).symm)), if_neg e, upI_at]
            unfold M_isOneOf_b45
            rw [nm_eq, huu, z_s]
      · rw [M_isOneOf_b7, if_neg (show ¬ Int32.ofNat 4 < 4 by decide)]
        exact (hr v hI).symm
    cases hf4 : zFst (fun k => decide (zWrd (f0 + k) = w)) 4 with
    | some k =>
      left
      obtain ⟨q1, q2, q3⟩ := zFst_some hf4
      have hk32 : zFst (fun k => decide (zWrd k = w)) 32 = some (f0 + k) := by
        refine zFst_of (by omega) q2 (fun k' hk' => ?_)
        refine decide_eq_false (fun e => ?_)
        have := zWrd_inj (i := k') (j := f0 + k) (by omega) (by omega) (e.trans (of_decide_eq_true q2).symm)
        omega
      rw [hk32, show zN (some (f0 + k)) = Int32.ofNat (f0 + k) from rfl, if_neg (z_nm1 (by omega)), ← z_add, Int32.add_comm, Int32.add_sub_cancel, if_neg (z_nn (by omega)), if_pos (show Int32.ofNat k < 4 from (z_lt (b := 4) (by omega) (by omega)).mpr q1)]
      refine ⟨k, q1, c, rfl, loop _ (fun v hv => ?_)⟩
      rw [hv, hf4, upI_at, if_neg (show ¬ zN (some k) < 0 from z_nn (by omega))]
      rfl
    | none =>
      right
      have hno : ∀ k, k < 4 → ¬ zWrd (f0 + k) = w := fun k hk => of_decide_eq_false (zFst_none.mp hf4 k hk)
      obtain ⟨d, e, e1, e2, e3⟩ := bad
      have hm := loop (some (0, e)) (fun v hv => by
        rw [hv, hf4, upI_at, if_pos (show zN none < 0 by decide)]
        exact e2.symm)
      refine ⟨d, e, ?_, hm, e3⟩
      cases hk : zFst (fun k => decide (zWrd k = w)) 32 with
      | none => rw [if_pos (show zN none = -1 from rfl)]; exact e1
      | some k =>
        obtain ⟨q1, q2, q3⟩ := zFst_some hk
        rw [show zN (some k) = Int32.ofNat k from rfl, if_neg (z_nm1 (by omega))]
        have hlo : ¬ (f0 ≤ k ∧ k < f0 + 4) := fun h => hno (k - f0) (by omega) (by rw [show f0 + (k - f0) = k by omega]; exact of_decide_eq_true q2)
        have hsub : (Int32.ofNat k - Int32.ofNat f0).toInt = (k : Int) - (f0 : Int) := by
          rw [z_subI]
          · rw [z_toInt (by omega), z_toInt (by omega)]
          · rw [z_toInt (by omega), z_toInt (by omega)]; omega
          · rw [z_toInt (by omega), z_toInt (by omega)]; omega
        by_cases h1 : k < f0
        · rw [if_pos (show Int32.ofNat k - Int32.ofNat f0 < 0 from Int32.lt_iff_toInt_lt.mpr (by rw [hsub]; show _ < (0 : Int); omega))]
          exact e1
        · rw [if_neg (show ¬ Int32.ofNat k - Int32.ofNat f0 < 0 from fun q => by have q' := Int32.lt_iff_toInt_lt.mp q; rw [hsub] at q'; have : (0 : Int32).toInt = 0 := rfl; omega), if_neg (show ¬ Int32.ofNat k - Int32.ofNat f0 < 4 from fun q => by have q' := Int32.lt_iff_toInt_lt.mp q; rw [hsub] at q'; have : (4 : Int32).toInt = 4 := rfl; omega)]
          exact e1
  · right
    obtain ⟨d, e, e1, e2, e3⟩ := bad
    rw [w4, if_pos rfl]
    refine ⟨d, e, e1, ?_, e3⟩
    have key := z_loop (fun f i => M_isOneOf_b7 (Int32.ofNat f0) f (Int32.ofNat i) (upI mM 0 18 (-1))) 4 (some (0, e)) (fun f i hi => ?_) (fun f => ?_) 4 0 1000 (by omega) (by omega)
    · exact key
    · rw [M_isOneOf_b7, if_pos (show Int32.ofNat i < 4 from (z_lt (b := 4) (by omega) (by omega)).mpr hi), if_neg (show ¬ (upI mM 0 18 (-1)).1 0 11 = 1 by rw [upI_nj (by omega)]; exact c), upI_at]
      unfold M_isOneOf_b45
      rw [nm_eq, huu, z_s]
    · rw [M_isOneOf_b7, if_neg (show ¬ Int32.ofNat 4 < 4 by decide), upI_at, if_pos (by decide)]
      exact e2
end ZTA
