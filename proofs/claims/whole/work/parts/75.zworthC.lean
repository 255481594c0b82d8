/-! Layer 2. best: the class's count -/
def zBo (σ : zR) (m : xMem) (n o b : Nat) : Prop := ∀ o1 b1, o1 < zO σ → b1 < zB σ → m.1 (172 + o1) b1 = zSo σ n o b o1 b1
def zBf (m m' : xMem) : Prop := (∀ c, c < 172 ∨ 178 ≤ c → m'.1 c = m.1 c) ∧ m'.2 = m.2
section ZBX
variable {m m' mC mC' mM mM' M0 : xMem} {σ τ : zR} {o b a : Nat}
theorem zC_cntBeds {k : Int32 → Int32 → xMem → Option xMem} {R : Option xMem → Prop} (hH : zH m 6 σ) (hT : zT m 33 σ) (hc : zCt σ) {x2 : Int32} (hx : ∀ i, i < 32 → tb x2 i = (decide (i < zC σ) && zOn (zAdv σ a) i)) (hsh : zShut (zAdv σ a) = false) (ho : o < zO σ) {p2 : Int32} {m1 : xMem} (hF : zBf m m1) (hB : zBo σ m1 a o 0) (hk : ∀ m2, zBf m m2 → zBo σ m2 a (o + 1) 0 → R (k x2 (Int32.ofNat (o + 1)) m2)) : R (Best_countHour_b32 6 33 p2 k 1000 x2 (Int32.ofNat o) 0 m1) := by
  have o6 := hc.2.1.2
  have b6 := hc.1.2
  have c8 := hc.2.2.2
  refine z_loopX (fun f b m1 => Best_countHour_b32 6 33 p2 k f x2 (Int32.ofNat o) (Int32.ofNat b) m1) (zB σ) (fun b m1 => zBf m m1 ∧ zBo σ m1 a o b) R (fun f b m1 hb hI => ?_) (fun f m1 hI => ?_) (zB σ) 0 1000 m1 (by omega) (by omega) ⟨hF, hB⟩
  · obtain ⟨⟨f1, f2⟩, hB⟩ := hI
    right
    have hH1 : zH m1 6 σ := zH_tr hc (fun c h1 h2 => f1 c (by omega)) (fun _ _ => rfl) hH
    have hT1 : zT m1 33 σ := zT_tr hc (zSame_of (fun c h1 h2 => f1 c (by omega))) (fun _ _ => rfl) hT
    have hrow : ∀ i, i < zC σ → zRow m1 33 6 σ i := fun i hi => by
      have := zC_row (a := 0) hH1 hT1 hc (i := i) (by omega) (fun h => by omega)
      rw [zAdv_0] at this
      exact this
    have hr1 : ∀ i, i ≤ zC σ → tb x2 i = true → zRow m1 33 6 σ i := fun i hi ht => by
      rw [hx i (by omega)] at ht
      simp only [Bool.and_eq_true, decide_eq_true_eq] at ht
      exact hrow i ht.1
    have hbits := zC_heardBits (m := m1) (s := 33) hH1 hc ho hb hr1
    have hset : ∀ i, i ≤ zC σ → tb (zSet (fun i => tb x2 i && zHears σ o b i) (zC σ + 1)) i = ((decide (i < zC σ) && zOn (zAdv σ a) i) && zHears σ o b i) := fun i hi => by
      rw [tb_zSet _ (by omega), hx i (by omega), decide_eq_true (show i < zC σ + 1 by omega), Bool.true_and]
    have hld := zC_loudest (m := m1) (s := 33) hH1 hc hb (bits := zSet (fun i => tb x2 i && zHears σ o b i) (zC σ + 1)) (fun i hi ht => by
      rw [hset i hi] at ht
      simp only [Bool.and_eq_true, decide_eq_true_eq] at ht
      exact hrow i ht.1.1)
    rw [zBest_congr (g := fun i => zLoud σ i b) (q := fun i => (decide (i < zC σ) && zOn (zAdv σ a) i) && zHears σ o b i) (fun i hi => hset i (by omega)) (fun _ _ _ => rfl)] at hld
    have hW : zW1 σ a o b = (match zBest (fun i => zLoud σ i b) (fun i => (decide (i < zC σ) && zOn (zAdv σ a) i) && zHears σ o b i) (zC σ + 1) with | none => false | some i => decide (σ (49 + i) = σ (19 + b) - 1)) := by
      unfold zW1
      rw [hsh]
      rfl
    have no : zW1 σ a o b = false → zBf m m1 ∧ zBo σ m1 a o (b + 1) := fun hw => ⟨⟨f1, f2⟩, fun o1 b1 h1 h2 => by
      by_cases h : o1 = o ∧ b1 = b
      · obtain ⟨rfl, rfl⟩ := h
        rw [hB _ _ h1 h2, zSo_s.1, zSo_s.2, hw]
        rfl
      · rw [zSo_o h, hB _ _ h1 h2]⟩
    rw [Best_countHour_b32, f1 6 (by omega), hH.2.2.2.2.1, hc.1.1, if_pos ((z_lt (by omega) (by omega)).mpr hb), hbits, Option.bind_some, hld, Option.bind_some, z_s]
    cases hq : zBest (fun i => zLoud σ i b) (fun i => (decide (i < zC σ) && zOn (zAdv σ a) i) && zHears σ o b i) (zC σ + 1) with
    | none =>
      rw [if_pos (show zN none = -1 from rfl)]
      exact ⟨m1, no (by rw [hW, hq]), rfl⟩
    | some i =>
      have hi : i < zC σ := by
        have := (zBest_lt hq).2
        simp only [Bool.and_eq_true, decide_eq_true_eq] at this
        exact this.1.1
      rw [hq] at hW
      have hW2 : zW1 σ a o b = decide (σ (49 + i) = σ (19 + b) - 1) := hW
      rw [if_neg (show ¬ zN (some i) = -1 from z_nm1 (by omega)), show zN (some i) = Int32.ofNat i from rfl, z_ix (show i < 8 by omega) (by omega), Option.bind_some, z_ix (show b < 6 by omega) (by omega), Option.bind_some, (hH1.2.2.2.2.2.2.2.2.2 i hi).1, (hH1.2.2.2.2.2.2.2.1 b hb).2.2]
      by_cases hd : σ (49 + i) = σ (19 + b) - 1
      · rw [if_pos hd, z_ix (show o < 6 by omega) (by omega), Option.bind_some, Option.bind_some, Option.bind_some, nm_eq]
        refine ⟨upI m1 (172 + o) b (m1.1 (172 + o) b + 1), ⟨⟨fun c hc => by rw [upI_ne' (by omega), f1 c hc], f2⟩, fun o1 b1 h1 h2 => ?_⟩, rfl⟩
        rw [decide_eq_true hd] at hW2
        by_cases h : o1 = o ∧ b1 = b
        · obtain ⟨rfl, rfl⟩ := h
          rw [upI_at, hB _ _ h1 h2, zSo_s.1, zSo_s.2, hW2, z_s]
          rfl
        · rw [zSo_o h, ← hB _ _ h1 h2]
          by_cases h3 : o1 = o
          · subst h3
            rw [upI_nj (fun e => h ⟨rfl, e⟩)]
          · rw [upI_ne' (by omega)]
      · rw [if_neg hd]
        exact ⟨m1, no (by rw [hW2, decide_eq_false hd]), rfl⟩
  · obtain ⟨⟨f1, f2⟩, hB⟩ := hI
    rw [Best_countHour_b32, f1 6 (by omega), hH.2.2.2.2.1, hc.1.1, if_neg (fun q => Nat.lt_irrefl _ ((z_lt (by omega) (by omega)).mp q)), z_s]
    exact hk m1 ⟨f1, f2⟩ (fun o1 b1 h1 h2 => by rw [hB _ _ h1 h2, zSo_row h2])
theorem zC_cntHour (hH : zH m 6 σ) (hT : zT m 33 σ) (hc : zCt σ) (ha : a < 100) (hsh : zShut (zAdv σ a) = false) {m1 : xMem} (hF : zBf m m1) (hB : zBo σ m1 a 0 0) : ∃ m2, Best_countHour m1 6 33 (Int32.ofNat a) = some m2 ∧ zBf m m2 ∧ zBo σ m2 (a + 1) 0 0 := by
  have o6 := hc.2.1.2
  have b6 := hc.1.2
  have c8 := hc.2.2.2
  have hH1 : zH m1 6 σ := zH_tr hc (fun c h1 h2 => hF.1 c (by omega)) (fun _ _ => rfl) hH
  have hT1 : zT m1 33 σ := zT_tr hc (zSame_of (fun c h1 h2 => hF.1 c (by omega))) (fun _ _ => rfl) hT
  unfold Best_countHour
  rw [zC_on hH1 hT1 hc (by omega), Option.bind_some, nm_eq, hH1.2.2.2.2.2.2.1, hc.2.2.1]
  generalize ex : zSet (zOn (zAdv σ a)) (zC σ + 1) &&& (i_shl 1 (Int32.ofNat (zC σ)) - 1) = x2
  have hx : ∀ i, i < 32 → tb x2 i = (decide (i < zC σ) && zOn (zAdv σ a) i) := fun i hi => by
    rw [← ex, tb_and, tb_zSet _ (by omega), tb_low (by omega) hi]
    by_cases h : i < zC σ
    · rw [decide_eq_true h, decide_eq_true (show i < zC σ + 1 by omega)]
      simp
    · rw [decide_eq_false h]
      simp
  refine z_loopX (fun f o m1 => Best_countHour_b20 6 33 (Int32.ofNat a) f x2 (Int32.ofNat o) m1) (zO σ) (fun o m1 => zBf m m1 ∧ zBo σ m1 a o 0) (fun r => ∃ m2, r = some m2 ∧ zBf m m2 ∧ zBo σ m2 (a + 1) 0 0) (fun f o m1 ho hI => ?_) (fun f m1 hI => ?_) (zO σ) 0 1000 m1 (by omega) (by omega) ⟨hF, hB⟩
  · obtain ⟨hF, hB⟩ := hI
    right
    have := zC_cntBeds (m := m) (k := Best_countHour_b20 6 33 (Int32.ofNat a) f) (R := fun r => ∃ m2, (zBf m m2 ∧ zBo σ m2 a (o + 1) 0) ∧ r = Best_countHour_b20 6 33 (Int32.ofNat a) f x2 (Int32.ofNat (o + 1)) m2) (p2 := Int32.ofNat a) hH hT hc hx hsh ho hF hB (fun m2 h1 h2 => ⟨m2, ⟨h1, h2⟩, rfl⟩)
    obtain ⟨m2, h1, h2⟩ := this
    refine ⟨m2, h1, ?_⟩
    rw [Best_countHour_b20, hF.1 6 (by omega), hH.2.2.2.2.2.1, hc.2.1.1, if_pos ((z_lt (by omega) (by omega)).mpr ho)]
    exact h2
  · obtain ⟨hF, hB⟩ := hI
    rw [Best_countHour_b20, hF.1 6 (by omega), hH.2.2.2.2.2.1, hc.2.1.1, if_neg (fun q => Nat.lt_irrefl _ ((z_lt (by omega) (by omega)).mp q))]
    exact ⟨m1, rfl, hF, fun o1 b1 h1 h2 => by rw [hB _ _ h1 h2, zSo_hour h1]⟩
theorem zC_worths {R : Option (Int32 × xMem) → Prop} (hH : zH m 6 σ) (hT : zT m 33 σ) (hc : zCt σ) {m1 : xMem} (hF : zBf m m1) (hB : zBo σ m1 0 0 0) (hk : ∀ m2, zBf m m2 → zBo σ m2 24 0 0 → R (nm (upI m2 170 3 (m2.1 6 7)) fun m6 => nm (upI m6 170 4 ((-1))) fun m7 => (Best_choose 8 m7 6 0 0 0).bind fun r8 => some (r8.1 170 4, r8))) : R (Best_find_b46 6 33 1000 0 m1) := by
  refine z_loopX (fun f a m1 => Best_find_b46 6 33 f (Int32.ofNat a) m1) 24 (fun a m1 => zBf m m1 ∧ zBo σ m1 a 0 0) R (fun f a m1 ha hI => ?_) (fun f m1 hI => ?_) 24 0 1000 m1 (by omega) (by omega) ⟨hF, hB⟩
  · obtain ⟨hF, hB⟩ := hI
    right
    have hH1 : zH m1 6 σ := zH_tr hc (fun c h1 h2 => hF.1 c (by omega)) (fun _ _ => rfl) hH
    have hT1 : zT m1 33 σ := zT_tr hc (zSame_of (fun c h1 h2 => hF.1 c (by omega))) (fun _ _ => rfl) hT
    rw [Best_find_b46, if_pos (show Int32.ofNat a < 24 from (z_lt (b := 24) (by omega) (by omega)).mpr ha), zC_shut hH1 hc a (by rw [hT1.1]), Option.bind_some, z_s]
    cases hs : zShut (zAdv σ a) with
    | true =>
      rw [if_neg (show ¬ zb true = 0 by decide)]
      refine ⟨m1, ⟨hF, fun o1 b1 h1 h2 => ?_⟩, rfl⟩
      have hw : zW1 σ a o1 b1 = false := by unfold zW1; rw [hs]; rfl
      rw [hB _ _ h1 h2]
      unfold zSo
      rw [if_neg (by omega), if_neg (by omega)]
      unfold zWt
      rw [zCnt, hw]
      rfl
    | false =>
      rw [if_pos (show zb false = 0 from rfl)]
      obtain ⟨m2, e, h1, h2⟩ := zC_cntHour hH hT hc (by omega) hs hF hB
      rw [e, Option.bind_some]
      exact ⟨m2, ⟨h1, h2⟩, rfl⟩
  · obtain ⟨hF, hB⟩ := hI
    rw [Best_find_b46, if_neg (show ¬ Int32.ofNat 24 < 24 by decide)]
    exact hk m1 hF hB
end ZBX
