/-! Layer 2. Spots: what they are -/
def zCnt (P : Nat → Bool) : Nat → Nat
  | 0 => 0
  | n + 1 => if P n then zCnt P n + 1 else zCnt P n
theorem zCnt_le {P : Nat → Bool} {n : Nat} : zCnt P n ≤ n := by
  induction n with
  | zero => exact Nat.le_refl _
  | succ n ih => rw [zCnt]; split <;> omega
theorem zCnt_mono {P : Nat → Bool} {a : Nat} : ∀ {b : Nat}, a ≤ b → zCnt P a ≤ zCnt P b := by
  intro b
  induction b with
  | zero => intro h; rw [show a = 0 by omega]; exact Nat.le_refl _
  | succ b ih =>
    intro h
    by_cases hab : a = b + 1
    · rw [hab]; exact Nat.le_refl _
    · have := ih (by omega)
      rw [zCnt]; split <;> omega
theorem zCnt_lt {P : Nat → Bool} {a b : Nat} (h : a < b) (ha : P a = true) : zCnt P a < zCnt P b := by
  have h1 : zCnt P (a + 1) = zCnt P a + 1 := by rw [zCnt, if_pos ha]
  have h2 := zCnt_mono (P := P) (show a + 1 ≤ b by omega)
  omega
theorem zCnt_ex {P : Nat → Bool} {n j : Nat} (h : j < zCnt P n) : ∃ c, c < n ∧ P c = true ∧ zCnt P c = j := by
  induction n with
  | zero => exact absurd h (Nat.not_lt_zero _)
  | succ n ih =>
    by_cases hj : j < zCnt P n
    · obtain ⟨c, c1, c2, c3⟩ := ih hj
      exact ⟨c, by omega, c2, c3⟩
    · by_cases hp : P n = true
      · rw [zCnt, if_pos hp] at h
        exact ⟨n, by omega, hp, by omega⟩
      · rw [zCnt, if_neg hp] at h
        exact absurd h hj
theorem zCnt_const {P : Nat → Bool} {a : Nat} : ∀ {b : Nat}, a ≤ b → (∀ c, a ≤ c → c < b → P c = false) → zCnt P b = zCnt P a := by
  intro b
  induction b with
  | zero => intro h _; rw [show a = 0 by omega]
  | succ b ih =>
    intro h hp
    by_cases hab : a = b + 1
    · rw [hab]
    · rw [zCnt, hp b (by omega) (by omega)]
      exact ih (by omega) (fun c c1 c2 => hp c c1 (by omega))
/-- a row holds those that are so, in their order -/
def zHold (P : Nat → Bool) (N : Nat) (f : Nat → Int32) : Prop := ∀ c, c < N → P c = true → f (zCnt P c) = Int32.ofNat c
theorem zHold_no {P : Nat → Bool} {N N' : Nat} {f : Nat → Int32} (H : zHold P N f) (hp : ∀ c, N ≤ c → c < N' → P c = false) : zHold P N' f := by
  intro c hc hpc
  by_cases h : c < N
  · exact H c h hpc
  · rw [hp c (by omega) hc] at hpc
    cases hpc
theorem zHold_s {P : Nat → Bool} {N : Nat} {f g : Nat → Int32} (H : zHold P N f) (hg : g (zCnt P N) = Int32.ofNat N) (ho : ∀ j, j ≠ zCnt P N → g j = f j) : zHold P (N + 1) g := by
  intro c hc hpc
  by_cases h : c = N
  · rw [h, hg]
  · rw [ho _ (by have := zCnt_lt (show c < N by omega) hpc; omega)]
    exact H c (by omega) hpc
/-- where a sound of the first kind, so loud, is looked at by an owl -/
def zAl (σ : zR) (l : Int32) (o : Nat) (x y : Int32) : Int32 := if zHears0 σ o (zSit σ o) 1 x y l then zSide σ (zSit σ o) x y else -1
def zSp (σ : zR) (d : Nat → Int32) (K : Nat) (x y : Int32) : Bool := zAll (fun t => decide (zAl σ (d 0) (d (2 * t + 1)).toNatClampNeg x y = if d (2 * t + 2) = 255 then -1 else d (2 * t + 2))) K
def zPc (σ : zR) (d : Nat → Int32) (K W H : Nat) (c : Nat) : Bool := (decide (c % 9 < W) && decide (c / 9 < H)) && zSp σ d K (Int32.ofNat (c % 9)) (Int32.ofNat (c / 9))
def zBadT (σ : zR) (d : Nat → Int32) (t : Nat) : Bool := !(zIs (zO σ) (d (2 * t + 1)) && (!decide (4 < d (2 * t + 2)) || decide (d (2 * t + 2) = 255)))
theorem zSide_set (σ : zR) (b : Nat) (x y : Int32) : ∃ q, q < 5 ∧ zSide σ b x y = Int32.ofNat q := by
  unfold zSide zSideD
  split
  · exact ⟨4, by omega, rfl⟩
  · split
    · split
      · exact ⟨1, by omega, rfl⟩
      · exact ⟨3, by omega, rfl⟩
    · split
      · exact ⟨0, by omega, rfl⟩
      · exact ⟨2, by omega, rfl⟩
section ZSP
variable {m m' mC mC' mM mM' r : xMem} {σ τ : zR} {d : Nat → Int32} {K n : Nat}
theorem zC_told (hH : zH m 6 σ) (hc : zCt σ) (hK : 2 * K + 1 ≤ 900) (h1 : m.1 1 1 = Int32.ofNat (2 * K + 1)) (ha : ∀ j, j < 2 * K + 1 → Tape_at m 1 (Int32.ofNat j) = some (d j)) : Spots_isAsTold_b45 m 1 6 1000 (Int32.ofNat (2 * K + 1)) 1 = some (zb (match zFst (zBadT σ d) K with | some _ => false | none => true)) := by
  have h := z_scan (fun f t => Spots_isAsTold_b45 m 1 6 f (Int32.ofNat (2 * K + 1)) (Int32.ofNat (2 * t + 1))) K (zBadT σ d) (fun _ => some (0 : Int32)) (some 1) (fun f t ht hp => ?_) (fun f t ht hp => ?_) (fun f => ?_) (fuel := 1000) (by omega)
  · refine h.trans ?_
    cases zFst (zBadT σ d) K <;> rfl
  · rw [Spots_isAsTold_b45, if_pos ((z_lt (by omega) (by omega)).mpr (by omega)), z_s, ha _ (by omega), Option.bind_some, ha _ (by omega), Option.bind_some, zC_hasOwl hH hc, Option.bind_some]
    unfold zBadT at hp
    cases ho : zIs (zO σ) (d (2 * t + 1)) with
    | false => rw [if_pos (by decide)]
    | true =>
      rw [ho] at hp
      rw [if_neg (by decide)]
      by_cases h4 : 4 < d (2 * t + 2)
      · by_cases h5 : d (2 * t + 2) = 255
        · exfalso; simp [h4, h5] at hp
        · rw [if_pos h4, if_neg h5]
      · exfalso; simp [h4] at hp
  · rw [Spots_isAsTold_b45, if_pos ((z_lt (by omega) (by omega)).mpr (by omega)), z_s, ha _ (by omega), Option.bind_some, ha _ (by omega), Option.bind_some, zC_hasOwl hH hc, Option.bind_some, show (Int32.ofNat (2 * t + 1) + 2 : Int32) = Int32.ofNat (2 * (t + 1) + 1) from z_add (2 * t + 1) 2]
    unfold zBadT at hp
    cases ho : zIs (zO σ) (d (2 * t + 1)) with
    | false => rw [ho] at hp; exact absurd hp (by simp)
    | true =>
      rw [ho] at hp
      rw [if_neg (by decide)]
      by_cases h4 : 4 < d (2 * t + 2)
      · by_cases h5 : d (2 * t + 2) = 255
        · rw [if_pos h4, if_pos h5]
        · exfalso; simp [h4, h5] at hp
      · rw [if_neg h4]
  · rw [Spots_isAsTold_b45, if_neg (fun q => Nat.lt_irrefl _ ((z_lt (by omega) (by omega)).mp q))]
theorem zM_told {F : Option (Int32 × xMem)} (h1 : m.1 2 1 = σ 1) (hc : zCt σ) (hK : 2 * K + 1 ≤ 900) (h3 : m.1 0 3 = Int32.ofNat (2 * K + 1)) (ho : ∀ j, j < 2 * K + 1 → M_octet m (Int32.ofNat j) = some (d j)) (hF : M_spots_b108 1000 0 0 m = F) : M_spots_b52 1000 1 m = match zFst (zBadT σ d) K with | some _ => some (-1, m) | none => F := by
  refine z_scan (fun f t => M_spots_b52 f (Int32.ofNat (2 * t + 1)) m) K (zBadT σ d) (fun _ => some (-1, m)) F (fun f t ht hp => ?_) (fun f t ht hp => ?_) (fun f => ?_) (fuel := 1000) (by omega)
  · rw [M_spots_b52, h3, if_pos ((z_lt (by omega) (by omega)).mpr (by omega)), z_s, ho _ (by omega), Option.bind_some, zM_isOwl h1 hc, Option.bind_some, ho _ (by omega), Option.bind_some, Option.bind_some]
    unfold zBadT at hp
    cases hq : zIs (zO σ) (d (2 * t + 1)) with
    | false => rw [if_pos (by decide)]
    | true =>
      rw [hq] at hp
      rw [if_neg (by decide)]
      by_cases h4 : 4 < d (2 * t + 2)
      · by_cases h5 : d (2 * t + 2) = 255
        · exfalso; simp [h4, h5] at hp
        · rw [if_pos h4, if_neg h5]
      · exfalso; simp [h4] at hp
  · rw [M_spots_b52, h3, if_pos ((z_lt (by omega) (by omega)).mpr (by omega)), z_s, ho _ (by omega), Option.bind_some, zM_isOwl h1 hc, Option.bind_some, ho _ (by omega), Option.bind_some, Option.bind_some, show (Int32.ofNat (2 * t + 1) + 2 : Int32) = Int32.ofNat (2 * (t + 1) + 1) from z_add (2 * t + 1) 2]
    unfold zBadT at hp
    cases hq : zIs (zO σ) (d (2 * t + 1)) with
    | false => rw [hq] at hp; exact absurd hp (by simp)
    | true =>
      rw [hq] at hp
      rw [if_neg (by decide)]
      by_cases h4 : 4 < d (2 * t + 2)
      · by_cases h5 : d (2 * t + 2) = 255
        · rw [if_pos h4, if_pos h5]
        · exfalso; simp [h4, h5] at hp
      · rw [if_neg h4]
  · rw [M_spots_b52, h3, if_neg (fun q => Nat.lt_irrefl _ ((z_lt (by omega) (by omega)).mp q)), hF]
theorem zC_alone (hH : zH m 6 σ) (hT : zT m 33 σ) (hc : zCt σ) (hw : zWs σ) {o : Nat} (ho : o < zO σ) {x y l : Int32} (h0 : m.1 168 0 = 1) (hx : m.1 168 1 = x) (hy : m.1 168 2 = y) (hl : m.1 168 3 = l) : House_heardSide m 6 (Int32.ofNat o) (m.1 (33 + 2) o) 168 = some (zAl σ l o x y) := by
  obtain ⟨e1, hb⟩ := zSit_eq hw hc ho
  rw [hT.2.2.2.2 o ho, e1]
  exact zC_heardSide hH hc ho hb h0 hx hy hl
theorem zM_alone (hm : ∀ j, j < 109 → m.1 2 j = σ j) (hc : zCt σ) (hw : zWs σ) {o : Nat} (ho : o < zO σ) {x y l : Int32} : M_lookAlone m (Int32.ofNat o) x y l = some (if zHears0 σ o (zSit σ o) 1 x y l then zSide σ (zSit σ o) x y else 255) := by
  obtain ⟨e1, hb⟩ := zSit_eq hw hc ho
  have o6 := hc.2.1.2
  have b6 := hc.1.2
  unfold M_lookAlone
  rw [zi_103 (by omega), Option.bind_some, hm (103 + o) (by omega), e1, zM_isHeard hm (by omega) (by omega), Option.bind_some]
  cases zHears0 σ o (zSit σ o) 1 x y l with
  | false => rfl
  | true => rw [if_neg (by decide), Option.bind_some, hm (103 + o) (by omega), e1, zM_side hm (by omega)]; rfl
theorem zC_fits (hH : zH m 6 σ) (hT : zT m 33 σ) (hc : zCt σ) (hw : zWs σ) (hK : 2 * K + 1 ≤ 900) (h1 : m.1 1 1 = Int32.ofNat (2 * K + 1)) (ha : ∀ j, j < 2 * K + 1 → Tape_at m 1 (Int32.ofNat j) = some (d j)) (hg : ∀ t, t < K → zBadT σ d t = false) {x y : Int32} (h0 : m.1 168 0 = 1) (hx : m.1 168 1 = x) (hy : m.1 168 2 = y) (hl : m.1 168 3 = d 0) : Spots_fits m 1 6 33 = some (zb (zSp σ d K x y)) := by
  unfold Spots_fits
  have o6 := hc.2.1.2
  have h := z_scan (fun f t => Spots_fits_b3 m 1 6 33 f (Int32.ofNat (2 * t + 1))) K (fun t => !decide (zAl σ (d 0) (d (2 * t + 1)).toNatClampNeg x y = if d (2 * t + 2) = 255 then -1 else d (2 * t + 2))) (fun _ => some (0 : Int32)) (some 1) (fun f t ht hp => ?_) (fun f t ht hp => ?_) (fun f => ?_) (fuel := 1000) (by omega)
  · refine h.trans ?_
    unfold zSp
    cases hq : zFst (fun t => !decide (zAl σ (d 0) (d (2 * t + 1)).toNatClampNeg x y = if d (2 * t + 2) = 255 then -1 else d (2 * t + 2))) K with
    | none =>
      rw [show zAll (fun t => decide (zAl σ (d 0) (d (2 * t + 1)).toNatClampNeg x y = if d (2 * t + 2) = 255 then -1 else d (2 * t + 2))) K = true from zAll_iff.mpr (fun k hk => by have := zFst_none.mp hq k hk; rw [Bool.not_eq_false'] at this; exact this)]
      rfl
    | some i =>
      obtain ⟨q1, q2, q3⟩ := zFst_some hq
      rw [show zAll (fun t => decide (zAl σ (d 0) (d (2 * t + 1)).toNatClampNeg x y = if d (2 * t + 2) = 255 then -1 else d (2 * t + 2))) K = false from by
        rw [Bool.eq_false_iff]
        intro e
        have := zAll_iff.mp e i q1
        rw [this] at q2
        cases q2]
      rfl
  · have hb := hg t ht
    unfold zBadT at hb
    obtain ⟨o, ho, eo⟩ := zIs_q (show zIs (zO σ) (d (2 * t + 1)) = true by
      cases hq : zIs (zO σ) (d (2 * t + 1)) with
      | true => rfl
      | false => rw [hq] at hb; exact absurd hb (by simp))
    rw [Bool.not_eq_true', decide_eq_false_iff_not, eo, z_cl (by omega)] at hp
    unfold Spots_fits_b3 Spots_fits_b46
    rw [h1, if_pos ((z_lt (by omega) (by omega)).mpr (by omega)), z_s, ha _ (by omega), Option.bind_some, ha _ (by omega), Option.bind_some, Option.bind_some, eo, zC_hasOwl hH hc, Option.bind_some, Option.bind_some, show zIs (zO σ) (Int32.ofNat o) = true by rw [← eo]; cases hq : zIs (zO σ) (d (2 * t + 1)) with | true => rfl | false => rw [hq] at hb; exact absurd hb (by simp)]
    rw [if_neg (show ¬ zb true = 0 by decide), if_neg (show ¬ zb true = 0 by decide), z_ix (show o < 6 by omega) (by omega), Option.bind_some, Option.bind_some, zC_alone hH hT hc hw ho h0 hx hy hl, Option.bind_some, Option.bind_some]
    by_cases h5 : d (2 * t + 2) = 255
    · rw [if_pos h5] at hp ⊢
      rw [if_neg hp]
    · rw [if_neg h5] at hp ⊢
      rw [if_neg hp]
  · have hb := hg t ht
    unfold zBadT at hb
    obtain ⟨o, ho, eo⟩ := zIs_q (show zIs (zO σ) (d (2 * t + 1)) = true by
      cases hq : zIs (zO σ) (d (2 * t + 1)) with
      | true => rfl
      | false => rw [hq] at hb; exact absurd hb (by simp))
    rw [Bool.not_eq_false', decide_eq_true_eq, eo, z_cl (by omega)] at hp
    show Spots_fits_b3 m 1 6 33 (f + 1) (Int32.ofNat (2 * t + 1)) = Spots_fits_b3 m 1 6 33 f (Int32.ofNat (2 * (t + 1) + 1))
    rw [Spots_fits_b3]
    unfold Spots_fits_b46
    rw [h1, if_pos ((z_lt (by omega) (by omega)).mpr (by omega)), z_s, ha _ (by omega), Option.bind_some, ha _ (by omega), Option.bind_some, Option.bind_some, eo, zC_hasOwl hH hc, Option.bind_some, Option.bind_some, show zIs (zO σ) (Int32.ofNat o) = true by rw [← eo]; cases hq : zIs (zO σ) (d (2 * t + 1)) with | true => rfl | false => rw [hq] at hb; exact absurd hb (by simp)]
    rw [if_neg (show ¬ zb true = 0 by decide), if_neg (show ¬ zb true = 0 by decide), z_ix (show o < 6 by omega) (by omega), Option.bind_some, Option.bind_some, zC_alone hH hT hc hw ho h0 hx hy hl, Option.bind_some, Option.bind_some, show (Int32.ofNat (2 * t + 1) + 2 : Int32) = Int32.ofNat (2 * (t + 1) + 1) from z_add (2 * t + 1) 2]
    by_cases h5 : d (2 * t + 2) = 255
    · rw [if_pos h5] at hp ⊢
      rw [if_pos hp]
    · rw [if_neg h5] at hp ⊢
      rw [if_pos hp]
  · rw [Spots_fits_b3, h1, if_neg (fun q => Nat.lt_irrefl _ ((z_lt (by omega) (by omega)).mp q))]
theorem zM_isSpot (hm : ∀ j, j < 109 → m.1 2 j = σ j) (hc : zCt σ) (hw : zWs σ) (hK : 2 * K + 1 ≤ 900) (hK1 : 1 ≤ K) (h3 : m.1 0 3 = Int32.ofNat (2 * K + 1)) (ho : ∀ j, j < 2 * K + 1 → M_octet m (Int32.ofNat j) = some (d j)) (hb : ∀ j, j < 2 * K + 1 → zr (d j) 0 255) (hg : ∀ t, t < K → zBadT σ d t = false) {x y : Int32} : M_isSpot m x y = some (zb (zSp σ d K x y)) := by
  unfold M_isSpot zSp
  have o6 := hc.2.1.2
  generalize hP : (fun t => decide (zAl σ (d 0) (d (2 * t + 1)).toNatClampNeg x y = if d (2 * t + 2) = 255 then -1 else d (2 * t + 2))) = P
  have h0 : ∀ a b : Int32, a = zb (zAll P 0) → b = Int32.ofNat (2 * 0 + 1) → M_isSpot_b5 m x y 1000 a b = some (zb (zAll P K)) := by
    intro a b ea eb
    subst ea
    subst eb
    refine z_loop (fun f t => M_isSpot_b5 m x y f (zb (zAll P t)) (Int32.ofNat (2 * t + 1))) K _ (fun f t ht => ?_) (fun f => ?_) K 0 1000 (by omega) (by omega)
    · rw [M_isSpot_b5, h3, if_pos ((z_lt (by omega) (by omega)).mpr (by omega)), zAll, show (Int32.ofNat (2 * t + 1) + 2 : Int32) = Int32.ofNat (2 * (t + 1) + 1) from z_add (2 * t + 1) 2, z_s, show (0 : Int32) = Int32.ofNat 0 from rfl, ho 0 (by omega), ho _ (by omega), ho _ (by omega), Option.bind_some, Option.bind_some]
      cases hz : zAll P t with
      | false => rfl
      | true =>
        have hbt := hg t ht
        unfold zBadT at hbt
        obtain ⟨o, ho2, eo⟩ := zIs_q (show zIs (zO σ) (d (2 * t + 1)) = true by
          cases hq : zIs (zO σ) (d (2 * t + 1)) with
          | true => rfl
          | false => rw [hq] at hbt; exact absurd hbt (by simp))
        rw [show 2 * t + 1 + 1 = 2 * t + 2 from rfl]
        have hPt : P t = decide (zAl σ (d 0) o x y = if d (2 * t + 2) = 255 then -1 else d (2 * t + 2)) := by
          rw [← hP]
          show decide (zAl σ (d 0) (d (2 * t + 1)).toNatClampNeg x y = if d (2 * t + 2) = 255 then -1 else d (2 * t + 2)) = _
          rw [eo, z_cl (by omega)]
        rw [if_neg (show ¬ zb true = Int32.ofNat 0 by decide), eo, zM_alone hm hc hw ho2, Option.bind_some, Option.bind_some, Bool.true_and, hPt]
        unfold zAl
        have hd := hb (2 * t + 2) (by omega)
        obtain ⟨q, hq, es⟩ := zSide_set σ (zSit σ o) x y
        rw [es]
        have hn : ¬ d (2 * t + 2) = -1 := fun e => by rw [e] at hd; exact absurd hd.1 (by decide)
        cases zHears0 σ o (zSit σ o) 1 x y (d 0) with
        | true =>
          rw [if_pos rfl, if_pos rfl]
          by_cases h5 : d (2 * t + 2) = 255
          · rw [h5, if_pos rfl, if_neg (show ¬ Int32.ofNat q = 255 from fun e => by have := (z_eq (b := 255) (by omega) (by omega)).mp e; omega), show decide (Int32.ofNat q = -1) = false from decide_eq_false (z_nm1 (by omega))]
            rfl
          · rw [if_neg h5]
            by_cases h6 : Int32.ofNat q = d (2 * t + 2)
            · rw [if_pos h6, show decide (Int32.ofNat q = d (2 * t + 2)) = true from decide_eq_true h6]
              rfl
            · rw [if_neg h6, show decide (Int32.ofNat q = d (2 * t + 2)) = false from decide_eq_false h6]
              rfl
        | false =>
          rw [if_neg (show ¬ false = true by decide), if_neg (show ¬ false = true by decide)]
          by_cases h5 : d (2 * t + 2) = 255
          · rw [h5, if_pos rfl, if_pos rfl]
            rfl
          · rw [if_neg h5, if_neg (fun e => h5 e.symm), show decide ((-1 : Int32) = d (2 * t + 2)) = false from decide_eq_false (fun e => hn e.symm)]
            rfl
    · rw [M_isSpot_b5, h3, if_neg (fun q => Nat.lt_irrefl _ ((z_lt (by omega) (by omega)).mp q)), zb_rz, Option.bind_some]
  exact h0 _ _ rfl rfl
end ZSP
