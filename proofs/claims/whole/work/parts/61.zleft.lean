/-! Layer 2. Spots: which owl to look at next -/
def zGn (σ : zR) (l : Int32) (cd : Nat → Nat) (o j : Nat) : Nat := (zAl σ l o (Int32.ofNat (cd j % 9)) (Int32.ofNat (cd j / 9)) + 1).toNatClampNeg
def zMx (g : Nat → Nat) : Nat → Nat
  | 0 => 0
  | j + 1 => max (zMx g j) (zCnt (fun i => decide (g i = g j)) (j + 1))
theorem zMx_le {g : Nat → Nat} {n : Nat} : zMx g n ≤ n := by
  induction n with
  | zero => exact Nat.le_refl _
  | succ n ih =>
    have := zCnt_le (P := fun i => decide (g i = g n)) (n := n + 1)
    rw [zMx]
    omega
def zAm (f : Nat → Nat) : Nat → Nat
  | 0 => 0
  | i + 1 => if f i < f (zAm f i) then i else zAm f i
theorem zAm_lt {f : Nat → Nat} {n : Nat} (h : 1 ≤ n) : zAm f n < n := by
  induction n with
  | zero => omega
  | succ n ih =>
    rw [zAm]
    split
    · omega
    · by_cases h1 : 1 ≤ n
      · have := ih h1; omega
      · rw [show n = 0 by omega]; exact Nat.lt_succ_self 0
section ZLB
variable {m m' mC mC' mM mM' r : xMem} {σ τ : zR} {d : Nat → Int32} {K n N o : Nat} {cd : Nat → Nat} {l : Int32}
theorem zGn_sp (σ : zR) (l : Int32) (cd : Nat → Nat) (o j : Nat) : zGn σ l cd o j ≤ 5 ∧ zAl σ l o (Int32.ofNat (cd j % 9)) (Int32.ofNat (cd j / 9)) + 1 = Int32.ofNat (zGn σ l cd o j) ∧ (if zHears0 σ o (zSit σ o) 1 (Int32.ofNat (cd j % 9)) (Int32.ofNat (cd j / 9)) l then zSide σ (zSit σ o) (Int32.ofNat (cd j % 9)) (Int32.ofNat (cd j / 9)) else 255) = if zGn σ l cd o j = 0 then 255 else Int32.ofNat (zGn σ l cd o j - 1) := by
  unfold zGn zAl
  cases zHears0 σ o (zSit σ o) 1 (Int32.ofNat (cd j % 9)) (Int32.ofNat (cd j / 9)) l with
  | false =>
    rw [if_neg (show ¬ false = true by decide), if_neg (show ¬ false = true by decide)]
    exact ⟨by decide, by decide, by decide⟩
  | true =>
    obtain ⟨q, hq, e⟩ := zSide_set σ (zSit σ o) (Int32.ofNat (cd j % 9)) (Int32.ofNat (cd j / 9))
    rw [if_pos rfl, if_pos rfl, e, z_s, z_cl (by omega)]
    exact ⟨by omega, rfl, by rw [if_neg (by omega)]; rfl⟩
theorem z_div9 {c : Nat} (h : c < 2147483648) : Int32.ofNat c / 9 = Int32.ofNat (c / 9) := by
  rw [show (9 : Int32) = Int32.ofNat 9 from rfl, Int32.ofNat_div h (by omega)]
theorem z_rem9 {c : Nat} (h : c < 2147483648) : i_rem (Int32.ofNat c) 9 = Int32.ofNat (c % 9) := by
  rw [show (9 : Int32) = Int32.ofNat 9 from rfl, z_rem h (by omega)]
theorem z_imax {a b : Nat} (ha : a < 2147483648) (hb : b < 2147483648) : i_max (Int32.ofNat a) (Int32.ofNat b) = Int32.ofNat (max a b) := by
  unfold i_max
  by_cases h : a < b
  · rw [if_pos ((z_lt ha hb).mpr h), Nat.max_eq_right (by omega)]
  · rw [if_neg (fun e => h ((z_lt ha hb).mp e)), Nat.max_eq_left (by omega)]
theorem zC_most (hH : zH m 6 σ) (hT : zT m 33 σ) (hc : zCt σ) (hw : zWs σ) (ho : o < zO σ) (hN : N ≤ 81) (h4 : m.1 165 4 = Int32.ofNat N) (hcd : ∀ j, j < N → m.1 166 j = Int32.ofNat (cd j) ∧ cd j < 81) (h0 : m.1 168 0 = 1) (h3 : m.1 168 3 = l) : ∃ m', Spots_mostLeft m 6 33 (Int32.ofNat o) = some (Int32.ofNat (zMx (zGn σ l cd o) N), m') ∧ (∀ c, c ≠ 168 → c ≠ 169 → m'.1 c = m.1 c) ∧ m'.1 168 0 = 1 ∧ m'.1 168 3 = l ∧ m'.2 = m.2 := by
  have o6 := hc.2.1.2
  unfold Spots_mostLeft
  refine z_loopX (fun f i m => Spots_mostLeft_b3 6 33 (Int32.ofNat o) f (Int32.ofNat i) m) 6 (fun i m' => (∀ c, c ≠ 169 → m'.1 c = m.1 c) ∧ m'.2 = m.2 ∧ ∀ q, q < i → m'.1 169 q = 0) (fun res => ∃ m', res = some (Int32.ofNat (zMx (zGn σ l cd o) N), m') ∧ (∀ c, c ≠ 168 → c ≠ 169 → m'.1 c = m.1 c) ∧ m'.1 168 0 = 1 ∧ m'.1 168 3 = l ∧ m'.2 = m.2) (fun f i m1 hi hI => ?_) (fun f m1 hI => ?_) 6 0 1000 m (by omega) (by omega) ⟨fun _ _ => rfl, rfl, fun q hq => by omega⟩
  · obtain ⟨i1, i2, i3⟩ := hI
    right
    refine ⟨upI m1 169 i 0, ⟨fun c hc => by rw [upI_ne' hc, i1 c hc], i2, fun q hq => ?_⟩, ?_⟩
    · by_cases h : q = i
      · rw [h, upI_at]
      · rw [upI_nj h]; exact i3 q (by omega)
    · rw [Spots_mostLeft_b3, if_pos (show Int32.ofNat i < 6 from (z_lt (b := 6) (by omega) (by omega)).mpr hi), z_ix hi (by omega), Option.bind_some, nm_eq, z_s]
  · obtain ⟨i1, i2, i3⟩ := hI
    rw [Spots_mostLeft_b3, if_neg (show ¬ Int32.ofNat 6 < 6 by decide)]
    generalize hg : zGn σ l cd o = g
    have h0' : ∀ a : Int32, a = Int32.ofNat (zMx g 0) → ∃ m', Spots_mostLeft_b33 6 33 (Int32.ofNat o) 1000 a (Int32.ofNat 0) m1 = some (Int32.ofNat (zMx g N), m') ∧ (∀ c, c ≠ 168 → c ≠ 169 → m'.1 c = m.1 c) ∧ m'.1 168 0 = 1 ∧ m'.1 168 3 = l ∧ m'.2 = m.2 := by
      intro a ea
      subst ea
      refine z_loopX (fun f j m => Spots_mostLeft_b33 6 33 (Int32.ofNat o) f (Int32.ofNat (zMx g j)) (Int32.ofNat j) m) N (fun j m' => (∀ c, c ≠ 168 → c ≠ 169 → m'.1 c = m.1 c) ∧ m'.1 168 0 = 1 ∧ m'.1 168 3 = l ∧ m'.2 = m.2 ∧ ∀ q, q < 6 → m'.1 169 q = Int32.ofNat (zCnt (fun i => decide (g i = q)) j)) (fun res => ∃ m', res = some (Int32.ofNat (zMx g N), m') ∧ (∀ c, c ≠ 168 → c ≠ 169 → m'.1 c = m.1 c) ∧ m'.1 168 0 = 1 ∧ m'.1 168 3 = l ∧ m'.2 = m.2) (fun f j m2 hj hI => ?_) (fun f m2 hI => ?_) N 0 1000 m1 (by omega) (by omega) ⟨fun c _ c2 => i1 c c2, by rw [i1 168 (by omega), h0], by rw [i1 168 (by omega), h3], i2, fun q hq => i3 q hq⟩
      · obtain ⟨k1, k2, k3, k4, k5⟩ := hI
        right
        obtain ⟨c1, c2⟩ := hcd j hj
        have e66 : m2.1 166 = m.1 166 := k1 166 (by omega) (by omega)
        have hgj : g j ≤ 5 ∧ zAl σ l o (Int32.ofNat (cd j % 9)) (Int32.ofNat (cd j / 9)) + 1 = Int32.ofNat (g j) := by
          have := zGn_sp σ l cd o j
          rw [hg] at this
          exact ⟨this.1, this.2.1⟩
        rw [Spots_mostLeft_b33, k1 165 (by omega) (by omega), h4, if_pos ((z_lt (by omega) (by omega)).mpr hj), z_ix (show j < 81 by omega) (by omega), Option.bind_some, nm_eq, Option.bind_some, e66, c1, z_rem9 (by omega)]
        generalize e1 : upI m2 168 1 (Int32.ofNat (cd j % 9)) = m3
        have f1 : ∀ c, c ≠ 168 → m3.1 c = m2.1 c := fun c hc => by rw [← e1, upI_ne' hc]
        rw [nm_eq, f1 166 (by omega), e66, c1, z_div9 (by omega)]
        generalize e2 : upI m3 168 2 (Int32.ofNat (cd j / 9)) = m4
        have f2 : ∀ c, c ≠ 168 → m4.1 c = m2.1 c := fun c hc => by rw [← e2, upI_ne' hc, f1 c hc]
        have g0 : m4.1 168 0 = 1 := by rw [← e2, upI_nj (by omega), ← e1, upI_nj (by omega), k2]
        have g1 : m4.1 168 1 = Int32.ofNat (cd j % 9) := by rw [← e2, upI_nj (by omega), ← e1, upI_at]
        have g2 : m4.1 168 2 = Int32.ofNat (cd j / 9) := by rw [← e2, upI_at]
        have g3 : m4.1 168 3 = l := by rw [← e2, upI_nj (by omega), ← e1, upI_nj (by omega), k3]
        have hH4 : zH m4 6 σ := zH_tr hc (fun c h1 h2 => by rw [f2 c (by omega), k1 c (by omega) (by omega)]) (fun _ _ => rfl) hH
        have hT4 : zT m4 33 σ := zT_tr hc (zSame_of (fun c h1 h2 => by rw [f2 c (by omega), k1 c (by omega) (by omega)])) (fun _ _ => rfl) hT
        rw [z_ix (show o < 6 by omega) (by omega), Option.bind_some, zC_alone hH4 hT4 hc hw ho g0 g1 g2 g3, Option.bind_some, nm_eq, hgj.2, z_ix (show g j < 6 by omega) (by omega), Option.bind_some, Option.bind_some, nm_eq, f2 169 (by omega), k5 (g j) (by omega), z_s, Option.bind_some, upI_at, nm_eq]
        have hcs : zCnt (fun i => decide (g i = g j)) (j + 1) = zCnt (fun i => decide (g i = g j)) j + 1 := by rw [zCnt, if_pos (by exact decide_eq_true rfl)]
        have l1 := zMx_le (g := g) (n := j)
        have l2 := zCnt_le (P := fun i => decide (g i = g j)) (n := j)
        rw [z_imax (by omega) (by omega), z_s, ← hcs]
        refine ⟨_, ⟨fun c h1 h2 => by rw [upI_ne' h2, f2 c h1, k1 c h1 h2], by rw [upI_ne' (by omega), g0], by rw [upI_ne' (by omega), g3], by rw [← k4, ← e2, ← e1]; rfl, fun q hq => ?_⟩, rfl⟩
        by_cases hqg : q = g j
        · subst hqg
          rw [upI_at]
        · rw [upI_nj hqg, f2 169 (by omega), k5 q hq, zCnt, if_neg (by rw [decide_eq_true_eq]; exact fun e => hqg e.symm)]
      · obtain ⟨k1, k2, k3, k4, k5⟩ := hI
        rw [Spots_mostLeft_b33, k1 165 (by omega) (by omega), h4, if_neg (fun q => Nat.lt_irrefl _ ((z_lt (by omega) (by omega)).mp q))]
        exact ⟨m2, rfl, k1, k2, k3, k4⟩
    exact h0' 0 rfl
def zPi (q : Nat) : Nat := if q = 0 then 5 else q - 1
theorem zM_left (hm : ∀ j, j < 109 → m.1 2 j = σ j) (hc : zCt σ) (hw : zWs σ) (ho : o < zO σ) (hN : N ≤ 81) (h27 : m.1 0 27 = Int32.ofNat N) (hcd : ∀ j, j < N → m.1 9 j = Int32.ofNat (cd j) ∧ cd j < 81) (hl : m.1 1 0 &&& 255 = l) : ∃ m', M_leftBy m (Int32.ofNat o) = some (Int32.ofNat (zMx (zGn σ l cd o) N), m') ∧ (∀ c, c ≠ 10 → m'.1 c = m.1 c) ∧ m'.2 = m.2 := by
  unfold M_leftBy
  refine z_loopX (fun f i m => M_leftBy_b2 (Int32.ofNat o) f (Int32.ofNat i) m) 6 (fun i m' => (∀ c, c ≠ 10 → m'.1 c = m.1 c) ∧ m'.2 = m.2 ∧ ∀ q, q < i → m'.1 10 q = 0) (fun res => ∃ m', res = some (Int32.ofNat (zMx (zGn σ l cd o) N), m') ∧ (∀ c, c ≠ 10 → m'.1 c = m.1 c) ∧ m'.2 = m.2) (fun f i m1 hi hI => ?_) (fun f m1 hI => ?_) 6 0 1000 m (by omega) (by omega) ⟨fun _ _ => rfl, rfl, fun q hq => by omega⟩
  · obtain ⟨i1, i2, i3⟩ := hI
    right
    refine ⟨upI m1 10 i 0, ⟨fun c hc => by rw [upI_ne' hc, i1 c hc], i2, fun q hq => ?_⟩, ?_⟩
    · by_cases h : q = i
      · rw [h, upI_at]
      · rw [upI_nj h]; exact i3 q (by omega)
    · rw [M_leftBy_b2, if_pos (show Int32.ofNat i < 6 from (z_lt (b := 6) (by omega) (by omega)).mpr hi), z_ix hi (by omega), Option.bind_some, nm_eq, z_s]
  · obtain ⟨i1, i2, i3⟩ := hI
    rw [M_leftBy_b2, if_neg (show ¬ Int32.ofNat 6 < 6 by decide)]
    generalize hg : zGn σ l cd o = g
    have h0' : ∀ a : Int32, a = Int32.ofNat (zMx g 0) → ∃ m', M_leftBy_b25 (Int32.ofNat o) 1000 a (Int32.ofNat 0) m1 = some (Int32.ofNat (zMx g N), m') ∧ (∀ c, c ≠ 10 → m'.1 c = m.1 c) ∧ m'.2 = m.2 := by
      intro a ea
      subst ea
      refine z_loopX (fun f j m => M_leftBy_b25 (Int32.ofNat o) f (Int32.ofNat (zMx g j)) (Int32.ofNat j) m) N (fun j m' => (∀ c, c ≠ 10 → m'.1 c = m.1 c) ∧ m'.2 = m.2 ∧ ∀ q, q < 6 → m'.1 10 (zPi q) = Int32.ofNat (zCnt (fun i => decide (g i = q)) j)) (fun res => ∃ m', res = some (Int32.ofNat (zMx g N), m') ∧ (∀ c, c ≠ 10 → m'.1 c = m.1 c) ∧ m'.2 = m.2) (fun f j m2 hj hI => ?_) (fun f m2 hI => ?_) N 0 1000 m1 (by omega) (by omega) ⟨i1, i2, fun q hq => i3 _ (by unfold zPi; split <;> omega)⟩
      · obtain ⟨k1, k4, k5⟩ := hI
        right
        obtain ⟨c1, c2⟩ := hcd j hj
        have e9 : m2.1 9 = m.1 9 := k1 9 (by omega)
        have hgj := zGn_sp σ l cd o j
        rw [hg] at hgj
        obtain ⟨q1, q2, q3⟩ := hgj
        have hm2 : ∀ j, j < 109 → m2.1 2 j = σ j := fun j hj => by rw [k1 2 (by omega)]; exact hm j hj
        have hoc : M_octet m2 0 = some l := by
          have := zM_oct (m := m2) (j := 0) (by omega)
          rw [k1 1 (by omega), hl] at this
          exact this
        have hpi : zPi (g j) < 6 := by unfold zPi; split <;> omega
        have fin : ∀ s0 : Int32, s0 = Int32.ofNat (zPi (g j)) → M_leftBy_b77 (Int32.ofNat o) (M_leftBy_b25 (Int32.ofNat o) f) (Int32.ofNat (zMx g j)) (Int32.ofNat j) s0 m2 = M_leftBy_b25 (Int32.ofNat o) f (Int32.ofNat (zMx g (j + 1))) (Int32.ofNat (j + 1)) (upI m2 10 (zPi (g j)) (Int32.ofNat (zCnt (fun i => decide (g i = g j)) (j + 1)))) := by
          intro s0 es
          subst es
          have hcs : zCnt (fun i => decide (g i = g j)) (j + 1) = zCnt (fun i => decide (g i = g j)) j + 1 := by rw [zCnt, if_pos (by exact decide_eq_true rfl)]
          have l1 := zMx_le (g := g) (n := j)
          have l2 := zCnt_le (P := fun i => decide (g i = g j)) (n := j)
          unfold M_leftBy_b77 M_greater
          rw [z_ix hpi (by omega), Option.bind_some, Option.bind_some, nm_eq, Option.bind_some, k5 (g j) (by omega), z_s, upI_at, z_s, ← hcs, zMx]
          by_cases hgr : zCnt (fun i => decide (g i = g j)) (j + 1) < zMx g j
          · rw [if_pos ((z_lt (by omega) (by omega)).mpr hgr), Option.bind_some, Nat.max_eq_left (by omega)]
          · rw [if_neg (fun e => hgr ((z_lt (by omega) (by omega)).mp e)), Option.bind_some, Nat.max_eq_right (by omega)]
        refine ⟨upI m2 10 (zPi (g j)) (Int32.ofNat (zCnt (fun i => decide (g i = g j)) (j + 1))), ⟨fun c hc => by rw [upI_ne' hc, k1 c hc], k4, fun q hq => ?_⟩, ?_⟩
        · by_cases hqg : q = g j
          · subst hqg
            rw [upI_at]
          · rw [upI_nj (by unfold zPi; split <;> split <;> omega), k5 q hq, zCnt, if_neg (by rw [decide_eq_true_eq]; exact fun e => hqg e.symm)]
        · rw [M_leftBy_b25, k1 0 (by omega), h27, if_pos ((z_lt (by omega) (by omega)).mpr hj), z_ix (show j < 81 by omega) (by omega), Option.bind_some, Option.bind_some, hoc, Option.bind_some, e9, c1, z_rem9 (by omega), z_div9 (by omega), zM_alone hm2 hc hw ho, Option.bind_some, q3]
          by_cases hz : g j = 0
          · rw [if_pos hz, if_pos rfl]
            exact fin 5 (by unfold zPi; rw [if_pos hz]; rfl)
          · rw [if_neg hz, if_neg (fun e => by have := (z_eq (b := 255) (by omega) (by omega)).mp e; omega)]
            exact fin _ (by unfold zPi; rw [if_neg hz])
      · obtain ⟨k1, k4, k5⟩ := hI
        rw [M_leftBy_b25, k1 0 (by omega), h27, if_neg (fun q => Nat.lt_irrefl _ ((z_lt (by omega) (by omega)).mp q))]
        exact ⟨m2, rfl, k1, k4⟩
    exact h0' 0 rfl
theorem zC_next (hH : zH m 6 σ) (hT : zT m 33 σ) (hc : zCt σ) (hw : zWs σ) (hO : 1 ≤ zO σ) (hN : N ≤ 81) (h4 : m.1 165 4 = Int32.ofNat N) (hcd : ∀ j, j < N → m.1 166 j = Int32.ofNat (cd j) ∧ cd j < 81) (h0 : m.1 168 0 = 1) (h3 : m.1 168 3 = l) : ∃ m', Spots_findNext m 6 33 = some (Int32.ofNat (zAm (fun o => zMx (zGn σ l cd o) N) (zO σ)), m') ∧ (∀ c, c ≠ 168 → c ≠ 169 → m'.1 c = m.1 c) ∧ m'.2 = m.2 := by
  have o6 := hc.2.1.2
  generalize hf : (fun o => zMx (zGn σ l cd o) N) = f
  have hfo : ∀ o, f o = zMx (zGn σ l cd o) N := fun o => by rw [← hf]
  have hf81 : ∀ o, f o ≤ 81 := fun o => by rw [hfo]; have := zMx_le (g := zGn σ l cd o) (n := N); omega
  unfold Spots_findNext
  refine z_loopX (fun fu i (p : (Int32 × Int32) × xMem) => Spots_findNext_b9 6 33 fu p.1.1 p.1.2 (Int32.ofNat i) p.2) (zO σ) (fun i p => ((i = 0 ∧ p.1 = (-1, 82)) ∨ (1 ≤ i ∧ p.1 = (Int32.ofNat (zAm f i), Int32.ofNat (f (zAm f i))))) ∧ (∀ c, c ≠ 168 → c ≠ 169 → p.2.1 c = m.1 c) ∧ p.2.1 168 0 = 1 ∧ p.2.1 168 3 = l ∧ p.2.2 = m.2) (fun res => ∃ m', res = some (Int32.ofNat (zAm f (zO σ)), m') ∧ (∀ c, c ≠ 168 → c ≠ 169 → m'.1 c = m.1 c) ∧ m'.2 = m.2) (fun fu i p hi hI => ?_) (fun fu p hI => ?_) (zO σ) 0 1000 ((-1, 82), m) (by omega) (by omega) ⟨Or.inl ⟨rfl, rfl⟩, fun _ _ _ => rfl, h0, h3, rfl⟩
  · obtain ⟨k0, k1, k2, k3, k4⟩ := hI
    right
    have hH4 : zH p.2 6 σ := zH_tr hc (fun c h1 h2 => k1 c (by omega) (by omega)) (fun _ _ => rfl) hH
    have hT4 : zT p.2 33 σ := zT_tr hc (zSame_of (fun c h1 h2 => k1 c (by omega) (by omega))) (fun _ _ => rfl) hT
    obtain ⟨m', e, a1, a2, a3, a4⟩ := zC_most (m := p.2) (o := i) (N := N) (cd := cd) hH4 hT4 hc hw hi hN (by rw [k1 165 (by omega) (by omega)]; exact h4) (fun j hj => by rw [k1 166 (by omega) (by omega)]; exact hcd j hj) k2 k3
    rw [Spots_findNext_b9, k1 6 (by omega) (by omega), hH.2.2.2.2.2.1, hc.2.1.1, if_pos ((z_lt (by omega) (by omega)).mpr hi), e, Option.bind_some, z_s, ← hfo]
    have hfi := hf81 i
    rcases k0 with ⟨z0, z1⟩ | ⟨z0, z1⟩
    · subst z0
      rw [z1, if_pos (show Int32.ofNat (f 0) < 82 from (z_lt (b := 82) (by omega) (by omega)).mpr (by omega))]
      have e1 : zAm f (0 + 1) = 0 := by
        rw [zAm]
        split <;> rfl
      exact ⟨((Int32.ofNat 0, Int32.ofNat (f 0)), m'), ⟨Or.inr ⟨by omega, by rw [e1]⟩, fun c h1 h2 => by rw [a1 c h1 h2, k1 c h1 h2], a2, a3, by rw [a4, k4]⟩, rfl⟩
    · have hfb := hf81 (zAm f i)
      rw [z1, zAm]
      by_cases hlt : f i < f (zAm f i)
      · rw [if_pos ((z_lt (by omega) (by omega)).mpr hlt), if_pos hlt]
        exact ⟨((Int32.ofNat i, Int32.ofNat (f i)), m'), ⟨Or.inr ⟨by omega, rfl⟩, fun c h1 h2 => by rw [a1 c h1 h2, k1 c h1 h2], a2, a3, by rw [a4, k4]⟩, rfl⟩
      · rw [if_neg (fun q => hlt ((z_lt (by omega) (by omega)).mp q)), if_neg hlt]
        exact ⟨((Int32.ofNat (zAm f i), Int32.ofNat (f (zAm f i))), m'), ⟨Or.inr ⟨by omega, rfl⟩, fun c h1 h2 => by rw [a1 c h1 h2, k1 c h1 h2], a2, a3, by rw [a4, k4]⟩, rfl⟩
  · obtain ⟨k0, k1, k2, k3, k4⟩ := hI
    rw [Spots_findNext_b9, k1 6 (by omega) (by omega), hH.2.2.2.2.2.1, hc.2.1.1, if_neg (fun q => Nat.lt_irrefl _ ((z_lt (by omega) (by omega)).mp q))]
    rcases k0 with ⟨z0, z1⟩ | ⟨z0, z1⟩
    · omega
    · rw [z1]
      exact ⟨p.2, rfl, k1, k4⟩
theorem zM_next (hm : ∀ j, j < 109 → m.1 2 j = σ j) (hc : zCt σ) (hw : zWs σ) (hO : 1 ≤ zO σ) (hN : N ≤ 81) (h27 : m.1 0 27 = Int32.ofNat N) (h28 : m.1 0 28 = 0) (hcd : ∀ j, j < N → m.1 9 j = Int32.ofNat (cd j) ∧ cd j < 81) (hl : m.1 1 0 &&& 255 = l) {v1 : Int32} : ∃ m', M_spots_b244 1000 v1 1 m = some (v1, m') ∧ (∀ c, c ≠ 0 → c ≠ 10 → m'.1 c = m.1 c) ∧ (∀ j, j ≠ 28 → m'.1 0 j = m.1 0 j) ∧ m'.1 0 28 = Int32.ofNat (zAm (fun o => zMx (zGn σ l cd o) N) (zO σ)) ∧ m'.2 = m.2 := by
  have o6 := hc.2.1.2
  generalize hf : (fun o => zMx (zGn σ l cd o) N) = f
  have hfo : ∀ o, f o = zMx (zGn σ l cd o) N := fun o => by rw [← hf]
  have hf81 : ∀ o, f o ≤ 81 := fun o => by rw [hfo]; have := zMx_le (g := zGn σ l cd o) (n := N); omega
  have e1 : zAm f (0 + 1) = 0 := by
    rw [zAm]
    split <;> rfl
  refine z_loopX (fun fu i m => M_spots_b244 fu v1 (Int32.ofNat (i + 1)) m) (zO σ - 1) (fun i m' => (∀ c, c ≠ 0 → c ≠ 10 → m'.1 c = m.1 c) ∧ (∀ j, j ≠ 28 → m'.1 0 j = m.1 0 j) ∧ m'.1 0 28 = Int32.ofNat (zAm f (i + 1)) ∧ m'.2 = m.2) (fun res => ∃ m', res = some (v1, m') ∧ (∀ c, c ≠ 0 → c ≠ 10 → m'.1 c = m.1 c) ∧ (∀ j, j ≠ 28 → m'.1 0 j = m.1 0 j) ∧ m'.1 0 28 = Int32.ofNat (zAm f (zO σ)) ∧ m'.2 = m.2) (fun fu i m1 hi hI => ?_) (fun fu m1 hI => ?_) (zO σ - 1) 0 1000 m (by omega) (by omega) ⟨fun _ _ _ => rfl, fun _ _ => rfl, by rw [e1]; exact h28, rfl⟩
  · obtain ⟨k1, k2, k3, k4⟩ := hI
    right
    have hz := zAm_lt (f := f) (show 1 ≤ i + 1 by omega)
    obtain ⟨m2, q1, q2, q3⟩ := zM_left (m := m1) (o := i + 1) (N := N) (cd := cd) (l := l) (fun j hj => by rw [k1 2 (by omega) (by omega)]; exact hm j hj) hc hw (by omega) hN (by rw [k2 27 (by omega)]; exact h27) (fun j hj => by rw [k1 9 (by omega) (by omega)]; exact hcd j hj) (by rw [k1 1 (by omega) (by omega)]; exact hl)
    obtain ⟨m3, s1, s2, s3⟩ := zM_left (m := m2) (o := zAm f (i + 1)) (N := N) (cd := cd) (l := l) (fun j hj => by rw [q2 2 (by omega), k1 2 (by omega) (by omega)]; exact hm j hj) hc hw (by omega) hN (by rw [q2 0 (by omega), k2 27 (by omega)]; exact h27) (fun j hj => by rw [q2 9 (by omega), k1 9 (by omega) (by omega)]; exact hcd j hj) (by rw [q2 1 (by omega), k1 1 (by omega) (by omega)]; exact hl)
    have x1 := hf81 (i + 1)
    have x2 := hf81 (zAm f (i + 1))
    rw [M_spots_b244, k1 2 (by omega) (by omega), hm 1 (by omega), hc.2.1.1, if_pos ((z_lt (by omega) (by omega)).mpr (by omega)), q1, Option.bind_some, q2 0 (by omega), k3, s1, Option.bind_some, ← hfo, ← hfo, z_s]
    by_cases hlt : f (i + 1) < f (zAm f (i + 1))
    · rw [if_pos ((z_lt (by omega) (by omega)).mpr hlt), nm_eq]
      refine ⟨upI m3 0 28 (Int32.ofNat (i + 1)), ⟨fun c h1 h2 => by rw [upI_ne' h1, s2 c h2, q2 c h2, k1 c h1 h2], fun j hj => by rw [upI_nj hj, s2 0 (by omega), q2 0 (by omega), k2 j hj], ?_, ?_⟩, rfl⟩
      · rw [upI_at, zAm, if_pos hlt]
      · show m3.2 = m.2
        rw [s3, q3, k4]
    · rw [if_neg (fun q => hlt ((z_lt (by omega) (by omega)).mp q))]
      refine ⟨m3, ⟨fun c h1 h2 => by rw [s2 c h2, q2 c h2, k1 c h1 h2], fun j hj => by rw [s2 0 (by omega), q2 0 (by omega), k2 j hj], ?_, by rw [s3, q3, k4]⟩, rfl⟩
      have ez : zAm f (i + 1 + 1) = zAm f (i + 1) := if_neg hlt
      rw [s2 0 (by omega), q2 0 (by omega), k3, ez]
  · obtain ⟨k1, k2, k3, k4⟩ := hI
    rw [M_spots_b244, k1 2 (by omega) (by omega), hm 1 (by omega), hc.2.1.1, show zO σ - 1 + 1 = zO σ by omega, if_neg (fun q => Nat.lt_irrefl _ ((z_lt (by omega) (by omega)).mp q))]
    exact ⟨m1, rfl, k1, k2, by rw [k3, show zO σ - 1 + 1 = zO σ by omega], k4⟩
end ZLB
