/-! Layer 2. spots, the call -/
theorem upI_cg {m m' : xMem} {k j c : Nat} {v : Int32} (h : m.1 c = m'.1 c) : (upI m k j v).1 c = (upI m' k j v).1 c := by
  by_cases hk : c = k
  · subst hk
    funext b
    by_cases hb : b = j
    · rw [hb, upI_at, upI_at]
    · rw [upI_nj hb, upI_nj hb, h]
  · rw [upI_ne' hk, upI_ne' hk, h]
theorem zHold_at {P : Nat → Bool} {n j : Nat} {f g : Nat → Int32} (hf : zHold P n f) (hg : zHold P n g) (hj : j < zCnt P n) : ∃ c, c < n ∧ f j = Int32.ofNat c ∧ g j = Int32.ofNat c := by
  obtain ⟨c, h1, h2, h3⟩ := zCnt_ex hj
  exact ⟨c, h1, by rw [← h3]; exact hf c h1 h2, by rw [← h3]; exact hg c h1 h2⟩
theorem z_nat {x : Int32} {A B : Nat} (h : zr x A B) (hB : B < 2147483648) : ∃ q : Nat, A ≤ q ∧ q ≤ B ∧ x = Int32.ofNat q := by
  obtain ⟨h1, h2⟩ := h
  have hc : x.toNatClampNeg = x.toInt.toNat := rfl
  exact ⟨x.toNatClampNeg, by omega, by omega, z_of (by omega)⟩
theorem zSpots_no {m : xMem} (h : Spots_isAsTold m 1 6 = some 0) : O_spots m = some (-1, upI m 1 1 0) := by
  unfold O_spots Spots_find
  rw [h]
  rfl
theorem zP_spots : lS_spots zRel := by
  intro mC mM hR
  have hR1 := zRel_thr hR 0
  unfold M_spots
  rw [nm_eq]
  generalize upI mM 0 0 0 = m1 at hR1 ⊢
  obtain ⟨n, r, en, et, K⟩ := zM_taken hR1
  rw [et, Option.bind_some]
  have hn := K.le
  have hc := hR1.1.1
  have hw := hR1.1.2.2.2
  obtain ⟨W, W2, W9, eW⟩ := z_nat (A := 2) (B := 9) hR1.1.2.1 (by omega)
  obtain ⟨H, H2, H9, eH⟩ := z_nat (A := 2) (B := 9) hR1.1.2.2.1 (by omega)
  obtain ⟨hH, hT, -, -⟩ := hR1.2.1
  have hRt := K.rel
  have e2 : r.1 2 = m1.1 2 := K.rn 2 (by omega)
  have K1 := K.c2
  have hat : ∀ j, j < n → Tape_at mC 1 (Int32.ofNat j) = some (mC.1 2 j) := fun j hj => zC_at (by omega)
  generalize hd : mC.1 2 = d at K K1 hat
  have hb := K.bt
  have f3 : (Int32.ofNat n < 3) ↔ n < 3 := z_lt (b := 3) (by omega) (by omega)
  have f13 : ((13 : Int32) < Int32.ofNat n) ↔ 13 < n := z_lt (a := 13) (by omega) (by omega)
  have frem : i_rem (Int32.ofNat n) 2 = Int32.ofNat (n % 2) := by rw [show (2 : Int32) = Int32.ofNat 2 from rfl, z_rem (by omega) (by omega)]
  have f2 : (Int32.ofNat (n % 2) = 0) ↔ n % 2 = 0 := z_eq (b := 0) (by omega) (by omega)
  rw [zM_in, Option.bind_some, K.n3, frem]
  simp only [zb_0]
  by_cases hr : n < 3 ∨ 13 < n ∨ n % 2 = 0
  · have hno : Spots_isAsTold mC 1 6 = some 0 := by
      unfold Spots_isAsTold
      rw [nm_eq, en, frem]
      by_cases h1 : n < 3
      · rw [if_pos (f3.mpr h1)]
      · rw [if_neg (fun e => h1 (f3.mp e))]
        by_cases h2 : 13 < n
        · rw [if_pos (f13.mpr h2)]
        · rw [if_neg (fun e => h2 (f13.mp e)), if_pos (f2.mpr (by omega))]
    rw [zSpots_no hno]
    refine ⟨-1, _, r, rfl, ?_, hRt⟩
    by_cases h1 : n < 3
    · rw [show decide (Int32.ofNat n < 3) = true from decide_eq_true (f3.mpr h1)]
      rfl
    · by_cases h2 : 13 < n
      · rw [show decide ((13 : Int32) < Int32.ofNat n) = true from decide_eq_true (f13.mpr h2), Bool.not_true, Bool.and_false, if_pos rfl]
      · rw [show decide (Int32.ofNat n < 3) = false from decide_eq_false (fun e => h1 (f3.mp e)), show decide ((13 : Int32) < Int32.ofNat n) = false from decide_eq_false (fun e => h2 (f13.mp e)), if_neg (by decide), if_pos (f2.mpr (by omega))]
  · have n3 : ¬ n < 3 := fun h => hr (Or.inl h)
    have n13 : ¬ 13 < n := fun h => hr (Or.inr (Or.inl h))
    have nr : ¬ n % 2 = 0 := fun h => hr (Or.inr (Or.inr h))
    obtain ⟨k, rfl⟩ : ∃ k, n = 2 * k + 1 := ⟨n / 2, by omega⟩
    rw [show decide (Int32.ofNat (2 * k + 1) < 3) = false from decide_eq_false (fun e => n3 (f3.mp e)), show decide ((13 : Int32) < Int32.ofNat (2 * k + 1)) = false from decide_eq_false (fun e => n13 (f13.mp e)), if_neg (by decide), if_neg (fun e => nr (f2.mp e)), show (0 : Int32) = Int32.ofNat 0 from rfl, K.oct 0 (by omega), Option.bind_some, zM_in, Option.bind_some, ← show (0 : Int32) = Int32.ofNat 0 from rfl]
    simp only [zb_0]
    have hat0 : Tape_at mC 1 0 = some (d 0) := hat 0 (by omega)
    obtain ⟨q, q0, q255, eq⟩ := z_nat (A := 0) (B := 255) (hb 0 (by omega)) (by omega)
    have g1 : (d 0 < 1) ↔ q < 1 := by rw [eq]; exact z_lt (b := 1) (by omega) (by omega)
    have g30 : (30 < d 0) ↔ 30 < q := by rw [eq]; exact z_lt (a := 30) (by omega) (by omega)
    have hAs : Spots_isAsTold mC 1 6 = if d 0 < 1 then some 0 else if 30 < d 0 then some 0 else Spots_isAsTold_b45 mC 1 6 1000 (Int32.ofNat (2 * k + 1)) 1 := by
      unfold Spots_isAsTold
      rw [nm_eq, en, frem, if_neg (fun e => n3 (f3.mp e)), if_neg (fun e => n13 (f13.mp e)), if_neg (fun e => nr (f2.mp e)), hat0, Option.bind_some, Option.bind_some]
    by_cases hq : q < 1 ∨ 30 < q
    · have hno : Spots_isAsTold mC 1 6 = some 0 := by
        rw [hAs]
        by_cases h1 : q < 1
        · rw [if_pos (g1.mpr h1)]
        · rw [if_neg (fun e => h1 (g1.mp e)), if_pos (g30.mpr (by omega))]
      rw [zSpots_no hno]
      refine ⟨-1, _, r, rfl, ?_, hRt⟩
      by_cases h1 : q < 1
      · rw [show decide (d 0 < 1) = true from decide_eq_true (g1.mpr h1)]
        rfl
      · rw [show decide (30 < d 0) = true from decide_eq_true (g30.mpr (by omega)), Bool.not_true, Bool.and_false, if_pos rfl]
    · have q1 : ¬ q < 1 := fun h => hq (Or.inl h)
      have q30 : ¬ 30 < q := fun h => hq (Or.inr h)
      rw [if_neg (fun e => q1 (g1.mp e)), if_neg (fun e => q30 (g30.mp e)), zC_told hH hc (by omega) en hat] at hAs
      rw [show decide (d 0 < 1) = false from decide_eq_false (fun e => q1 (g1.mp e)), show decide (30 < d 0) = false from decide_eq_false (fun e => q30 (g30.mp e)), if_neg (by decide)]
      have hm : ∀ j, j < 109 → r.1 2 j = m1.1 2 j := fun j _ => by rw [e2]
      rw [zM_told (σ := m1.1 2) (d := d) (K := k) (by rw [e2]) hc (by omega) K.n3 K.oct rfl]
      cases hfst : zFst (zBadT (m1.1 2) d) k with
      | some i =>
        rw [hfst] at hAs
        rw [zSpots_no hAs]
        exact ⟨-1, _, r, rfl, rfl, hRt⟩
      | none =>
        rw [hfst] at hAs
        have hg := zFst_none.mp hfst
        have hO : 1 ≤ zO (m1.1 2) := by
          have h0 := hg 0 (by omega)
          unfold zBadT at h0
          cases hz : zIs (zO (m1.1 2)) (d (2 * 0 + 1)) with
          | true =>
            obtain ⟨o, ho, -⟩ := zIs_q hz
            omega
          | false => rw [hz] at h0; exact absurd h0 (by simp)
        have hcnt := zM_cntAll (m := r) (σ := m1.1 2) (d := d) (K := k) (W := W) (H := H) hm hc hw (by omega) (by omega) K.n3 K.oct hb hg eW eH W9 H9 rfl
        have hle := zCnt_le (P := zPc (m1.1 2) d k W H) (n := 81)
        refine (show ∃ v mC' mM', O_spots mC = some (v, mC') ∧ M_spots_b108 1000 0 0 r = some (v, mM') ∧ zRel mC' mM' from ?_)
        rw [hcnt]
        unfold O_spots Spots_find
        rw [hAs, Option.bind_some, if_neg (by decide), nm_eq]
        generalize e3 : upI mC 168 0 1 = m2
        have hat2 : Tape_at m2 1 0 = some (d 0) := by
          have := zC_at (m := m2) (j := 0) (by omega)
          rw [← e3, upI_ne' (show (2 : Nat) ≠ 168 by omega), hd, e3] at this
          exact this
        rw [hat2, Option.bind_some, nm_eq]
        generalize e4 : upI m2 168 3 (d 0) = m4
        have hF0 : zFd mC m4 (d 0) := ⟨fun c c1 c2 => by rw [← e4, upI_ne' c2, ← e3, upI_ne' c2], by rw [← e4, ← e3]; rfl, by rw [← e4, upI_nj (by omega), ← e3, upI_at], by rw [← e4, upI_at]⟩
        refine z_loopX (fun f y m' => ((Spots_find_b34 1 6 33 f (Int32.ofNat (zCnt (zPc (m1.1 2) d k W H) (9 * y))) (Int32.ofNat y) m').bind fun r1 => nm (upI r1.2 1 1 0) fun m2 => some (r1.1, m2))) H (fun y m' => zFd mC m' (d 0) ∧ zHold (zPc (m1.1 2) d k W H) (9 * y) (m'.1 167)) (fun res => ∃ v mC' mM', res = some (v, mC') ∧ (if zCnt (zPc (m1.1 2) d k W H) 81 = 0 then some (0, r) else M_spots_b172 1000 (Int32.ofNat (zCnt (zPc (m1.1 2) d k W H) 81)) 0 (upI r 0 27 0)) = some (v, mM') ∧ zRel mC' mM') (fun f y m' hy hI => ?_) (fun f m' hI => ?_) H 0 1000 m4 (by omega) (by omega) ⟨hF0, fun c hc => by omega⟩
        · right
          obtain ⟨i1, i2⟩ := hI
          have hb34 : Spots_find_b34 1 6 33 (f + 1) (Int32.ofNat (zCnt (zPc (m1.1 2) d k W H) (9 * y))) (Int32.ofNat y) m' = Spots_find_b46 1 6 33 (Spots_find_b34 1 6 33 f) 1000 (Int32.ofNat (zCnt (zPc (m1.1 2) d k W H) (9 * y))) (Int32.ofNat y) 0 m' := by
            rw [Spots_find_b34, i1.1 6 (by omega) (by omega), hH.2.1, eH, if_pos ((z_lt (by omega) (by omega)).mpr hy)]
          have := zC_findRow (m := mC) (k := Spots_find_b34 1 6 33 f) (R := fun res => ∃ m'', (zFd mC m'' (d 0) ∧ zHold (zPc (m1.1 2) d k W H) (9 * (y + 1)) (m''.1 167)) ∧ res = Spots_find_b34 1 6 33 f (Int32.ofNat (zCnt (zPc (m1.1 2) d k W H) (9 * (y + 1)))) (Int32.ofNat (y + 1)) m'') hH hT hc hw (by omega) en hat hg eW W9 H9 hy i1 i2 (fun m3 h1 h2 => ⟨m3, ⟨h1, h2⟩, rfl⟩)
          obtain ⟨m'', h1, h2⟩ := this
          exact ⟨m'', h1, by rw [hb34, h2]⟩
        · obtain ⟨⟨i1, iL, i3, i4⟩, i2⟩ := hI
          rw [← zPc_end H9, Spots_find_b34, i1 6 (by omega) (by omega), hH.2.1, eH, if_neg (fun q => Nat.lt_irrefl _ ((z_lt (by omega) (by omega)).mp q))]
          have hold : zHold (zPc (m1.1 2) d k W H) 81 (m'.1 167) := zHold_no i2 (fun c c1 c2 => zPc_no (Or.inr (by omega)))
          generalize hN : zCnt (zPc (m1.1 2) d k W H) 81 = N at hle
          by_cases h0 : N = 0
          · subst h0
            rw [if_neg (show ¬ (0 : Int32) < Int32.ofNat 0 by decide), if_pos rfl, Option.bind_some, nm_eq]
            refine ⟨_, _, _, rfl, rfl, zRel_spots hRt (fun c a b e f g => upI_cg (i1 c e f)) iL (fun _ _ _ _ => rfl) (fun _ _ _ => rfl) rfl ?_ ?_⟩
            · exact zLs_tr (by rw [upI_ne' (by omega), upI_ne' (by omega), i1 165 (by omega) (by omega)]) (by rw [upI_ne' (by omega), upI_ne' (by omega), i1 166 (by omega) (by omega)]) rfl rfl hRt.2.2.2.2.2.2.2.2.1
            · have hsp := hRt.2.2.2.2.2.2.2.2.2.1
              unfold zSpN at hsp ⊢
              rw [upI_ne' (by omega), i1 165 (by omega) (by omega), ← hsp, upI_ne' (by omega)]
          · rw [if_neg h0, if_pos (show (0 : Int32) < Int32.ofNat N from (z_lt (a := 0) (by omega) (by omega)).mpr (by omega)), z_ixc (show N ≤ min 81 81 by omega) (by omega), Option.bind_some, nm_eq]
            generalize e5 : upR m' 166 (xcpy (m'.1 167) (m'.1 166) N) = p1
            rw [nm_eq]
            generalize e6 : upI p1 165 4 (Int32.ofNat N) = p2
            have f1 : ∀ c, c ≠ 165 → c ≠ 166 → p2.1 c = m'.1 c := fun c c1 c2 => by rw [← e6, upI_ne' c1, ← e5, upR_ne' c2]
            have fc : ∀ c, c ≠ 165 → c ≠ 166 → c ≠ 167 → c ≠ 168 → p2.1 c = mC.1 c := fun c c1 c2 c3 c4 => by rw [f1 c c1 c2, i1 c c3 c4]
            have fL : p2.2 = mC.2 := by rw [← e6, ← e5]; exact iL
            generalize hcd : (fun j => (m'.1 167 j).toNatClampNeg) = cd
            have hcdj : ∀ g : Nat → Int32, zHold (zPc (m1.1 2) d k W H) 81 g → ∀ j, j < N → g j = Int32.ofNat (cd j) ∧ m'.1 167 j = Int32.ofNat (cd j) ∧ cd j < 81 := fun g hgg j hj => by
              obtain ⟨c, a1, a2, a3⟩ := zHold_at hold hgg (show j < zCnt (zPc (m1.1 2) d k W H) 81 by rw [hN]; exact hj)
              have : cd j = c := by
                rw [← hcd]
                show (m'.1 167 j).toNatClampNeg = c
                rw [a2, z_cl (by omega)]
              rw [this]
              exact ⟨a3, a2, a1⟩
            have hH2 : zH p2 6 (m1.1 2) := zH_tr hc (fun c h1 h2 => fc c (by omega) (by omega) (by omega) (by omega)) (fun _ _ => rfl) hH
            have hT2 : zT p2 33 (m1.1 2) := zT_tr hc (zSame_of (fun c h1 h2 => fc c (by omega) (by omega) (by omega) (by omega))) (fun _ _ => rfl) hT
            have h166 : ∀ j, j < N → p2.1 166 j = Int32.ofNat (cd j) ∧ cd j < 81 := fun j hj => by
              have := hcdj _ hold j hj
              rw [← e6, upI_ne' (by omega), ← e5, upR_at', xcpy_lt hj]
              exact ⟨this.1, this.2.2⟩
            obtain ⟨m5, s1, s2, s3⟩ := zC_next (m := p2) (N := N) (cd := cd) (l := d 0) hH2 hT2 hc hw hO hle (by rw [← e6, upI_at]) h166 (by rw [f1 168 (by omega) (by omega)]; exact i3) (by rw [f1 168 (by omega) (by omega)]; exact i4)
            rw [s1, Option.bind_some, nm_eq, Option.bind_some, nm_eq]
            have hml := zM_list (m := upI r 0 27 0) (σ := m1.1 2) (d := d) (K := k) (W := W) (H := H) (v1 := Int32.ofNat N) (F := fun res => ∃ v mC' mM', some (Int32.ofNat N, upI (upI m5 165 5 (Int32.ofNat (zAm (fun o => zMx (zGn (m1.1 2) (d 0) cd o) N) (zO (m1.1 2))))) 1 1 0) = some (v, mC') ∧ res = some (v, mM') ∧ zRel mC' mM') (fun j hj => by rw [upI_ne' (by omega)]; exact hm j hj) hc hw (by omega) (by omega) (by rw [upI_nj (by omega)]; exact K.n3) (fun j hj => by rw [← K.oct j hj, zM_oct (by omega), zM_oct (by omega), upI_ne' (by omega)]) hb hg eW eH W9 H9 upI_at (fun m6 a1 a2 a3 a4 a5 => ?_)
            · exact hml
            · rw [hN] at a4
              have hoct0 : r.1 1 0 &&& 255 = d 0 := by
                have := K.oct 0 (by omega)
                rw [zM_oct (by omega)] at this
                exact Option.some.inj this
              obtain ⟨m7, b1, b2, b3, b4, b5⟩ := zM_next (m := upI m6 0 28 0) (σ := m1.1 2) (N := N) (cd := cd) (l := d 0) (v1 := Int32.ofNat N) (fun j hj => by rw [upI_ne' (by omega), a1 2 (by omega) (by omega), upI_ne' (by omega)]; exact hm j hj) hc hw hO hle (by rw [upI_nj (by omega)]; exact a4) upI_at (fun j hj => by
                rw [upI_ne' (by omega)]
                have := hcdj _ a5 j hj
                exact ⟨this.1, this.2.2⟩) (by rw [upI_ne' (by omega), a1 1 (by omega) (by omega), upI_ne' (by omega)]; exact hoct0)
              refine ⟨_, _, m7, rfl, b1, zRel_spots hRt (fun c x1 x2 x3 x4 x5 => ?_) ?_ (fun c x1 x2 x3 => ?_) (fun j x1 x2 => ?_) ?_ ⟨N, hle, ?_, Or.inl ?_, fun j hj => ?_⟩ ?_⟩
              · exact upI_cg (by rw [upI_ne' x1, s2 c x4 x5, fc c x1 x2 x3 x4])
              · show m5.2 = mC.2
                rw [s3, fL]
              · rw [b2 c x1 x3, upI_ne' x1, a1 c x1 x2, upI_ne' x1]
              · rw [b3 j x2, upI_nj x2, a2 j x1, upI_nj x1]
              · rw [b5]
                exact a3
              · rw [upI_ne' (by omega), upI_nj (by omega), s2 165 (by omega) (by omega), ← e6, upI_at]
              · rw [b3 27 (by omega), upI_nj (by omega), a4]
              · rw [upI_ne' (by omega), upI_ne' (by omega), s2 166 (by omega) (by omega), (h166 j hj).1, b2 9 (by omega) (by omega), upI_ne' (by omega), (hcdj _ a5 j hj).1]
              · unfold zSpN
                rw [upI_ne' (by omega), upI_at, b4]
