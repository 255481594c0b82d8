/-! Layer 2. spots -/
section ZSS
variable {m m' mC mC' mM mM' r c1 : xMem} {σ τ : zR} {d : Nat → Int32} {K n N o W H : Nat}
theorem zPc_row {y : Nat} (hW : W ≤ 9) {x : Nat} (hx : x < W) (hy : y < H) : zPc σ d K W H (9 * y + x) = zSp σ d K (Int32.ofNat x) (Int32.ofNat y) := by
  unfold zPc
  rw [show (9 * y + x) % 9 = x by omega, show (9 * y + x) / 9 = y by omega, show decide (x < W) = true from decide_eq_true hx, show decide (y < H) = true from decide_eq_true hy]
  rfl
theorem zPc_no {c : Nat} (h : W ≤ c % 9 ∨ H ≤ c / 9) : zPc σ d K W H c = false := by
  unfold zPc
  rcases h with h | h
  · rw [show decide (c % 9 < W) = false from decide_eq_false (by omega)]
    rfl
  · rw [show decide (c / 9 < H) = false from decide_eq_false (by omega), Bool.and_false]
    rfl
theorem zPc_rowend {y : Nat} (hW : W ≤ 9) : zCnt (zPc σ d K W H) (9 * (y + 1)) = zCnt (zPc σ d K W H) (9 * y + W) :=
  zCnt_const (by omega) (fun c c1 c2 => zPc_no (Or.inl (by omega)))
theorem zPc_end (hH : H ≤ 9) : zCnt (zPc σ d K W H) 81 = zCnt (zPc σ d K W H) (9 * H) :=
  zCnt_const (by omega) (fun c c1 c2 => zPc_no (Or.inr (by omega)))
/-- the class's search -/
def zFd (m m' : xMem) (d0 : Int32) : Prop := (∀ c, c ≠ 167 → c ≠ 168 → m'.1 c = m.1 c) ∧ m'.2 = m.2 ∧ m'.1 168 0 = 1 ∧ m'.1 168 3 = d0
theorem zC_findRow {k : Int32 → Int32 → xMem → Option (Int32 × xMem)} {R : Option (Int32 × xMem) → Prop} (hH : zH m 6 σ) (hT : zT m 33 σ) (hc : zCt σ) (hw : zWs σ) (hK : 2 * K + 1 ≤ 900) (h1 : m.1 1 1 = Int32.ofNat (2 * K + 1)) (ha : ∀ j, j < 2 * K + 1 → Tape_at m 1 (Int32.ofNat j) = some (d j)) (hg : ∀ t, t < K → zBadT σ d t = false) (h3 : σ 3 = Int32.ofNat W) (hW : W ≤ 9) (hHh : H ≤ 9) {y : Nat} (hy : y < H) {m1 : xMem} (hF : zFd m m1 (d 0)) (hho : zHold (zPc σ d K W H) (9 * y) (m1.1 167))
    (hk : ∀ m2, zFd m m2 (d 0) → zHold (zPc σ d K W H) (9 * (y + 1)) (m2.1 167) → R (k (Int32.ofNat (zCnt (zPc σ d K W H) (9 * (y + 1)))) (Int32.ofNat (y + 1)) m2)) : R (Spots_find_b46 1 6 33 k 1000 (Int32.ofNat (zCnt (zPc σ d K W H) (9 * y))) (Int32.ofNat y) 0 m1) := by
  refine z_loopX (fun f x (m1 : xMem) => Spots_find_b46 1 6 33 k f (Int32.ofNat (zCnt (zPc σ d K W H) (9 * y + x))) (Int32.ofNat y) (Int32.ofNat x) m1) W (fun x m1 => zFd m m1 (d 0) ∧ zHold (zPc σ d K W H) (9 * y + x) (m1.1 167)) R (fun f x m1 hx hI => ?_) (fun f m1 hI => ?_) W 0 1000 m1 (by omega) (by omega) ⟨hF, hho⟩
  · obtain ⟨⟨i1, i2, i3, i4⟩, i5⟩ := hI
    right
    have hl := zCnt_le (P := zPc σ d K W H) (n := 9 * y + x)
    have ew : m1.1 6 0 = Int32.ofNat W := by rw [i1 6 (by omega) (by omega), hH.1, h3]
    rw [Spots_find_b46, ew, if_pos ((z_lt (by omega) (by omega)).mpr hx), nm_eq, nm_eq]
    generalize e1 : upI m1 168 1 (Int32.ofNat x) = m2
    generalize e2 : upI m2 168 2 (Int32.ofNat y) = m3
    have f1 : ∀ c, c ≠ 168 → m3.1 c = m1.1 c := fun c hc => by rw [← e2, upI_ne' hc, ← e1, upI_ne' hc]
    have g0 : m3.1 168 0 = 1 := by rw [← e2, upI_nj (by omega), ← e1, upI_nj (by omega), i3]
    have g1 : m3.1 168 1 = Int32.ofNat x := by rw [← e2, upI_nj (by omega), ← e1, upI_at]
    have g2 : m3.1 168 2 = Int32.ofNat y := by rw [← e2, upI_at]
    have g3 : m3.1 168 3 = d 0 := by rw [← e2, upI_nj (by omega), ← e1, upI_nj (by omega), i4]
    have gL : m3.2 = m.2 := by rw [← i2, ← e2, ← e1]; rfl
    have f2 : ∀ c, c ≠ 167 → c ≠ 168 → m3.1 c = m.1 c := fun c h1 h2 => by rw [f1 c h2, i1 c h1 h2]
    have hH3 : zH m3 6 σ := zH_tr hc (fun c h1 h2 => f2 c (by omega) (by omega)) (fun _ _ => rfl) hH
    have hT3 : zT m3 33 σ := zT_tr hc (zSame_of (fun c h1 h2 => f2 c (by omega) (by omega))) (fun _ _ => rfl) hT
    have ha3 : ∀ j, j < 2 * K + 1 → Tape_at m3 1 (Int32.ofNat j) = some (d j) := fun j hj => by
      rw [← ha j hj, zC_at (by omega), zC_at (by omega), f2 2 (by omega) (by omega)]
    rw [if_pos (show Int32.ofNat (zCnt (zPc σ d K W H) (9 * y + x)) < 81 from (z_lt (b := 81) (by omega) (by omega)).mpr (by omega)), zC_fits hH3 hT3 hc hw hK (by rw [f2 1 (by omega) (by omega)]; exact h1) ha3 hg g0 g1 g2 g3, Option.bind_some, ← zPc_row (σ := σ) (d := d) (K := K) hW hx hy, z_s]
    cases hp : zPc σ d K W H (9 * y + x) with
    | false =>
      have ec : zCnt (zPc σ d K W H) (9 * y + (x + 1)) = zCnt (zPc σ d K W H) (9 * y + x) := by
        show zCnt _ (9 * y + x + 1) = _
        rw [zCnt, hp]
        rfl
      rw [if_pos (by decide), ec]
      refine ⟨m3, ⟨⟨f2, gL, g0, g3⟩, ?_⟩, rfl⟩
      rw [f1 167 (by omega)]
      exact zHold_no i5 (fun c c1 c2 => by rw [show c = 9 * y + x by omega]; exact hp)
    | true =>
      have ec : zCnt (zPc σ d K W H) (9 * y + (x + 1)) = zCnt (zPc σ d K W H) (9 * y + x) + 1 := by
        show zCnt _ (9 * y + x + 1) = _
        rw [zCnt, hp]
        rfl
      rw [if_neg (by decide), ec, z_ix (show zCnt (zPc σ d K W H) (9 * y + x) < 81 by omega) (by omega), Option.bind_some, nm_eq, z_s, show (9 * Int32.ofNat y : Int32) = Int32.ofNat (9 * y) from z_mul 9 y, z_add]
      refine ⟨upI m3 167 (zCnt (zPc σ d K W H) (9 * y + x)) (Int32.ofNat (9 * y + x)), ⟨⟨fun c h1 h2 => by rw [upI_ne' h1, f2 c h1 h2], gL, by rw [upI_ne' (by omega), g0], by rw [upI_ne' (by omega), g3]⟩, ?_⟩, rfl⟩
      exact zHold_s (N := 9 * y + x) i5 upI_at (fun j hj => by rw [upI_nj hj, f1 167 (by omega)])
  · obtain ⟨⟨i1, i2, i3, i4⟩, i5⟩ := hI
    have ew : m1.1 6 0 = Int32.ofNat W := by rw [i1 6 (by omega) (by omega), hH.1, h3]
    rw [Spots_find_b46, ew, if_neg (fun q => Nat.lt_irrefl _ ((z_lt (by omega) (by omega)).mp q)), z_s, ← zPc_rowend hW]
    exact hk m1 ⟨i1, i2, i3, i4⟩ (zHold_no i5 (fun c c1 c2 => zPc_no (Or.inl (by omega))))
/-- the model's count -/
theorem zM_cntRow {k : Int32 → Int32 → xMem → Option (Int32 × xMem)} (hm : ∀ j, j < 109 → m.1 2 j = σ j) (hc : zCt σ) (hw : zWs σ) (hK : 2 * K + 1 ≤ 900) (hK1 : 1 ≤ K) (h3 : m.1 0 3 = Int32.ofNat (2 * K + 1)) (ho : ∀ j, j < 2 * K + 1 → M_octet m (Int32.ofNat j) = some (d j)) (hb : ∀ j, j < 2 * K + 1 → zr (d j) 0 255) (hg : ∀ t, t < K → zBadT σ d t = false) (hs3 : σ 3 = Int32.ofNat W) (hW : W ≤ 9) (hHh : H ≤ 9) {y : Nat} (hy : y < H) : M_spots_b120 k 1000 (Int32.ofNat (zCnt (zPc σ d K W H) (9 * y))) (Int32.ofNat y) 0 m = k (Int32.ofNat (zCnt (zPc σ d K W H) (9 * (y + 1)))) (Int32.ofNat (y + 1)) m := by
  refine z_loop (fun f x => M_spots_b120 k f (Int32.ofNat (zCnt (zPc σ d K W H) (9 * y + x))) (Int32.ofNat y) (Int32.ofNat x) m) W _ (fun f x hx => ?_) (fun f => ?_) W 0 1000 (by omega) (by omega)
  · rw [M_spots_b120, hm 3 (by omega), hs3, if_pos ((z_lt (by omega) (by omega)).mpr hx), zM_isSpot hm hc hw hK hK1 h3 ho hb hg, Option.bind_some, ← zPc_row (σ := σ) (d := d) (K := K) hW hx hy, z_s, nm_eq, nm_eq]
    cases hp : zPc σ d K W H (9 * y + x) with
    | false =>
      have ec : zCnt (zPc σ d K W H) (9 * y + (x + 1)) = zCnt (zPc σ d K W H) (9 * y + x) := by
        show zCnt _ (9 * y + x + 1) = _
        rw [zCnt, hp]
        rfl
      rw [if_pos (by decide), ec, Int32.add_zero]
    | true =>
      have ec : zCnt (zPc σ d K W H) (9 * y + (x + 1)) = zCnt (zPc σ d K W H) (9 * y + x) + 1 := by
        show zCnt _ (9 * y + x + 1) = _
        rw [zCnt, hp]
        rfl
      rw [if_neg (by decide), ec, z_s]
  · rw [M_spots_b120, hm 3 (by omega), hs3, if_neg (fun q => Nat.lt_irrefl _ ((z_lt (by omega) (by omega)).mp q)), z_s, ← zPc_rowend hW]
theorem zM_cntAll {F : Option (Int32 × xMem)} (hm : ∀ j, j < 109 → m.1 2 j = σ j) (hc : zCt σ) (hw : zWs σ) (hK : 2 * K + 1 ≤ 900) (hK1 : 1 ≤ K) (h3 : m.1 0 3 = Int32.ofNat (2 * K + 1)) (ho : ∀ j, j < 2 * K + 1 → M_octet m (Int32.ofNat j) = some (d j)) (hb : ∀ j, j < 2 * K + 1 → zr (d j) 0 255) (hg : ∀ t, t < K → zBadT σ d t = false) (hs3 : σ 3 = Int32.ofNat W) (hs4 : σ 4 = Int32.ofNat H) (hW : W ≤ 9) (hHh : H ≤ 9) (hF : M_spots_b172 1000 (Int32.ofNat (zCnt (zPc σ d K W H) 81)) 0 (upI m 0 27 0) = F) : M_spots_b108 1000 0 0 m = if zCnt (zPc σ d K W H) 81 = 0 then some (0, m) else F := by
  refine z_loop (fun f y => M_spots_b108 f (Int32.ofNat (zCnt (zPc σ d K W H) (9 * y))) (Int32.ofNat y) m) H _ (fun f y hy => ?_) (fun f => ?_) H 0 1000 (by omega) (by omega)
  · rw [M_spots_b108, hm 4 (by omega), hs4, if_pos ((z_lt (by omega) (by omega)).mpr hy), zM_cntRow hm hc hw hK hK1 h3 ho hb hg hs3 hW hHh hy]
  · have hl := zCnt_le (P := zPc σ d K W H) (n := 81)
    rw [M_spots_b108, hm 4 (by omega), hs4, if_neg (fun q => Nat.lt_irrefl _ ((z_lt (by omega) (by omega)).mp q)), ← zPc_end hHh, nm_eq]
    by_cases h0 : zCnt (zPc σ d K W H) 81 = 0
    · rw [if_pos h0, h0, if_pos (show Int32.ofNat 0 = 0 from rfl)]
    · rw [if_neg h0, if_neg (show ¬ Int32.ofNat (zCnt (zPc σ d K W H) 81) = 0 from fun e => h0 ((z_eq (b := 0) (by omega) (by omega)).mp e)), hF]
theorem zM_list {F : Option (Int32 × xMem) → Prop} {v1 : Int32} (hm : ∀ j, j < 109 → m.1 2 j = σ j) (hc : zCt σ) (hw : zWs σ) (hK : 2 * K + 1 ≤ 900) (hK1 : 1 ≤ K) (h3 : m.1 0 3 = Int32.ofNat (2 * K + 1)) (ho : ∀ j, j < 2 * K + 1 → M_octet m (Int32.ofNat j) = some (d j)) (hb : ∀ j, j < 2 * K + 1 → zr (d j) 0 255) (hg : ∀ t, t < K → zBadT σ d t = false) (hs3 : σ 3 = Int32.ofNat W) (hs4 : σ 4 = Int32.ofNat H) (hW : W ≤ 9) (hHh : H ≤ 9) (h27 : m.1 0 27 = 0) (hF : ∀ m', (∀ c, c ≠ 0 → c ≠ 9 → m'.1 c = m.1 c) → (∀ j, j ≠ 27 → m'.1 0 j = m.1 0 j) → m'.2 = m.2 → m'.1 0 27 = Int32.ofNat (zCnt (zPc σ d K W H) 81) → zHold (zPc σ d K W H) 81 (m'.1 9) → F (M_spots_b244 1000 v1 1 (upI m' 0 28 0))) : F (M_spots_b172 1000 v1 0 m) := by
  refine z_loopX (fun f c m' => M_spots_b172 f v1 (Int32.ofNat c) m') 81 (fun c m' => (∀ c, c ≠ 0 → c ≠ 9 → m'.1 c = m.1 c) ∧ (∀ j, j ≠ 27 → m'.1 0 j = m.1 0 j) ∧ m'.2 = m.2 ∧ m'.1 0 27 = Int32.ofNat (zCnt (zPc σ d K W H) c) ∧ zHold (zPc σ d K W H) c (m'.1 9)) F (fun f c m1 hcc hI => ?_) (fun f m1 hI => ?_) 81 0 1000 m (by omega) (by omega) ⟨fun _ _ _ => rfl, fun _ _ => rfl, rfl, h27, fun c hc => by omega⟩
  · obtain ⟨k1, k2, k3, k4, k5⟩ := hI
    right
    have hl := zCnt_le (P := zPc σ d K W H) (n := c)
    have hm1 : ∀ j, j < 109 → m1.1 2 j = σ j := fun j hj => by rw [k1 2 (by omega) (by omega)]; exact hm j hj
    have ho1 : ∀ j, j < 2 * K + 1 → M_octet m1 (Int32.ofNat j) = some (d j) := fun j hj => by
      rw [← ho j hj, zM_oct (by omega), zM_oct (by omega), k1 1 (by omega) (by omega)]
    have hzW : zr (σ 3) 0 100 := by rw [hs3]; unfold zr; rw [z_toInt (by omega)]; omega
    have hzH : zr (σ 4) 0 100 := by rw [hs4]; unfold zr; rw [z_toInt (by omega)]; omega
    have hI3 : zIsI (σ 3) (Int32.ofNat (c % 9)) = decide (c % 9 < W) := by
      unfold zIsI
      rw [hs3, z_toInt (by omega), z_toInt (by omega)]
      by_cases h : c % 9 < W
      · rw [decide_eq_true h, decide_eq_true (by omega)]
      · rw [decide_eq_false h, decide_eq_false (by omega)]
    have hI4 : zIsI (σ 4) (Int32.ofNat (c / 9)) = decide (c / 9 < H) := by
      unfold zIsI
      rw [hs4, z_toInt (by omega), z_toInt (by omega)]
      by_cases h : c / 9 < H
      · rw [decide_eq_true h, decide_eq_true (by omega)]
      · rw [decide_eq_false h, decide_eq_false (by omega)]
    rw [M_spots_b172, if_pos (show Int32.ofNat c < 81 from (z_lt (b := 81) (by omega) (by omega)).mpr hcc), z_rem9 (by omega), z_div9 (by omega), zM_isCell (hm1 3 (by omega)) (hm1 4 (by omega)) hzW hzH, Option.bind_some, hI3, hI4, z_s]
    have no : zPc σ d K W H c = false → (∀ c', c' ≠ 0 → c' ≠ 9 → m1.1 c' = m.1 c') ∧ (∀ j, j ≠ 27 → m1.1 0 j = m.1 0 j) ∧ m1.2 = m.2 ∧ m1.1 0 27 = Int32.ofNat (zCnt (zPc σ d K W H) (c + 1)) ∧ zHold (zPc σ d K W H) (c + 1) (m1.1 9) := fun hp =>
      ⟨k1, k2, k3, by rw [k4, zCnt, hp]; rfl, zHold_no k5 (fun c' c1 c2 => by rw [show c' = c by omega]; exact hp)⟩
    cases hcell : (decide (c % 9 < W) && decide (c / 9 < H)) with
    | false =>
      rw [if_pos (by decide)]
      exact ⟨m1, no (by unfold zPc; rw [hcell]; rfl), rfl⟩
    | true =>
      have hpe : zPc σ d K W H c = zSp σ d K (Int32.ofNat (c % 9)) (Int32.ofNat (c / 9)) := by unfold zPc; rw [hcell]; rfl
      rw [if_neg (by decide), zM_isSpot hm1 hc hw hK hK1 (by rw [k2 3 (by omega)]; exact h3) ho1 hb hg, Option.bind_some, ← hpe]
      cases hp : zPc σ d K W H c with
      | false =>
        rw [if_pos (by decide)]
        exact ⟨m1, no hp, rfl⟩
      | true =>
        rw [if_neg (by decide), k4, z_ix (show zCnt (zPc σ d K W H) c < 81 by omega) (by omega), Option.bind_some, nm_eq, nm_eq]
        refine ⟨_, ⟨fun c' h1 h2 => ?_, fun j hj => ?_, ?_, ?_, ?_⟩, rfl⟩
        · rw [upI_ne' h1, upI_ne' h2, k1 c' h1 h2]
        · rw [upI_nj hj, upI_ne' (by omega), k2 j hj]
        · exact k3
        · rw [upI_at, upI_ne' (by omega), k4, z_s, zCnt, hp]; rfl
        · exact zHold_s (N := c) k5 (by rw [upI_ne' (by omega), upI_at]) (fun j hj => by rw [upI_ne' (by omega), upI_nj hj])
  · obtain ⟨k1, k2, k3, k4, k5⟩ := hI
    rw [M_spots_b172, if_neg (show ¬ Int32.ofNat 81 < 81 by decide), nm_eq]
    exact hF m1 k1 k2 k3 k4 k5
theorem zRel_spots (H : zRel c1 r) (hC1 : ∀ c, c ≠ 165 → c ≠ 166 → c ≠ 167 → c ≠ 168 → c ≠ 169 → mC'.1 c = c1.1 c) (hCL : mC'.2 = c1.2) (hM1 : ∀ c, c ≠ 0 → c ≠ 9 → c ≠ 10 → mM'.1 c = r.1 c) (hM0 : ∀ j, j ≠ 27 → j ≠ 28 → mM'.1 0 j = r.1 0 j) (hML : mM'.2 = r.2) (ls : zLs mC' 165 4 166 mM' 27 9 81) (sp : zSpN mC' mM') : zRel mC' mM' := by
  obtain ⟨r1, r2, r3, r4, r5, r6, r7, r8, r9, r10, r11, r12, r13, r14, r15, r16⟩ := id H
  refine zRel_mk (fun c hc => hC1 c (by omega) (by omega) (by omega) (by omega) (by omega)) (fun c hc => by rw [hCL]) (fun c hc => hM1 c (by omega) (by omega) (by omega)) (hM0 24 (by omega) (by omega)) (fun c hc => by rw [hML]) (zTp_tr (by rw [hC1 1 (by omega) (by omega) (by omega) (by omega) (by omega)]) (hC1 2 (by omega) (by omega) (by omega) (by omega) (by omega)) (hM0 2 (by omega) (by omega)) (hM1 1 (by omega) (by omega) (by omega)) r6) ?_ ls sp (zLs_tr (by rw [hC1 170 (by omega) (by omega) (by omega) (by omega) (by omega)]) (hC1 179 (by omega) (by omega) (by omega) (by omega) (by omega)) (hM0 35 (by omega) (by omega)) (hM1 13 (by omega) (by omega) (by omega)) r11) (zLs_tr (by rw [hC1 0 (by omega) (by omega) (by omega) (by omega) (by omega)]) (hC1 182 (by omega) (by omega) (by omega) (by omega) (by omega)) (hM0 37 (by omega) (by omega)) (hM1 14 (by omega) (by omega) (by omega)) r12) ?_ ?_ (zTo_tr (hC1 76 (by omega) (by omega) (by omega) (by omega) (by omega)) (hM0 47 (by omega) (by omega)) (hM1 18 (by omega) (by omega) (by omega)) r15) (zWr_tr (by rw [hC1 180 (by omega) (by omega) (by omega) (by omega) (by omega)]) (hC1 181 (by omega) (by omega) (by omega) (by omega) (by omega)) (hM0 43 (by omega) (by omega)) (hM1 17 (by omega) (by omega) (by omega)) r16) H
  · unfold zFa; rw [hC1 0 (by omega) (by omega) (by omega) (by omega) (by omega), hM0 15 (by omega) (by omega)]; exact r8
  · unfold zKe; rw [hC1 0 (by omega) (by omega) (by omega) (by omega) (by omega), hM0 29 (by omega) (by omega), hM0 30 (by omega) (by omega), hM0 31 (by omega) (by omega)]; exact r13
  · unfold zDu; rw [hC1 0 (by omega) (by omega) (by omega) (by omega) (by omega), hM0 40 (by omega) (by omega), hM0 41 (by omega) (by omega)]; exact r14
end ZSS
