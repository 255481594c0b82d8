/-! Layer 2. Hours by draws -/
theorem pr_eta {α β : Type} (p : α × β) : p = (p.1, p.2) := rfl
def zStep (x : Int32) : Int32 := x * 1103515245 + 12345
def zPk (x n : Int32) : Int32 := i_rem (i_ushr x 8) n
def z98 (σ : zR) (v : Int32) : zR := fun j => if j = 98 then v else σ j
def zCrys (σ : zR) (x y l : Int32) : zR := fun j => if j = 99 then σ 99 + 1 else if j = 100 then l else if j = 101 then x else if j = 102 then y else σ j
def zDs (p : zR × Int32) : Nat → zR × Int32
  | 0 => p
  | i + 1 => (if zPk (zStep (zDs p i).2) 8 = 0 then z98 (zDs p i).1 ((zDs p i).1 98 ^^^ i_shl 1 (Int32.ofNat i)) else (zDs p i).1, zStep (zDs p i).2)
def zDay1 (q : zR × Int32) : zR × Int32 :=
  if zPk (zStep q.2) 6 = 0 ∧ ¬ 0 < q.1 100 then (zCrys q.1 (zPk (zStep (zStep q.2)) (q.1 3)) (zPk (zStep (zStep (zStep q.2))) (q.1 4)) (zPk (zStep (zStep (zStep (zStep q.2)))) 30 + 1), zStep (zStep (zStep (zStep q.2)))) else (q.1, zStep q.2)
def zDay (p : zR × Int32) : zR × Int32 := (zHr (zDay1 (zDs p (zC p.1))).1, (zDay1 (zDs p (zC p.1))).2)
def zDays (p : zR × Int32) : Nat → zR × Int32
  | 0 => p
  | n + 1 => zDay (zDays p n)
theorem z_ushr8 (x : Int32) : ∃ k, k < 16777216 ∧ i_ushr x 8 = Int32.ofNat k := by
  refine ⟨x.toUInt32.toNat >>> 8, ?_, ?_⟩
  · have h := x.toUInt32.toNat_lt
    rw [Nat.shiftRight_eq_div_pow]
    omega
  · unfold i_ushr
    have e : (Int32.toUInt32 8 &&& Int32.toUInt32 31) = (8 : UInt32) := by decide
    rw [e]
    apply Int32.toBitVec_inj.mp
    apply BitVec.eq_of_toNat_eq
    have h1 : (x.toUInt32 >>> (8 : UInt32)).toNat = x.toUInt32.toNat >>> 8 := by
      rw [UInt32.toNat_shiftRight]
      rfl
    show (x.toUInt32 >>> (8 : UInt32)).toNat = (Int32.ofNat (x.toUInt32.toNat >>> 8)).toBitVec.toNat
    rw [h1]
    have h2 := x.toUInt32.toNat_lt
    have h3 : x.toUInt32.toNat >>> 8 < 4294967296 := by
      rw [Nat.shiftRight_eq_div_pow]
      omega
    show _ = (BitVec.ofNat 32 (x.toUInt32.toNat >>> 8)).toNat
    rw [BitVec.toNat_ofNat, Nat.mod_eq_of_lt h3]
theorem zPk_r (x : Int32) {n : Nat} {y : Int32} (hy : y = Int32.ofNat n) (h1 : 1 ≤ n) (h2 : n < 1000) : ∃ k, k < n ∧ zPk x y = Int32.ofNat k := by
  obtain ⟨k, hk, e⟩ := z_ushr8 x
  refine ⟨k % n, Nat.mod_lt _ (by omega), ?_⟩
  unfold zPk
  rw [e, hy, z_rem (by omega) (by omega)]
section ZD
variable {m m' mC mC' mM mM' mK : xMem} {σ τ : zR}
def mm (m : xMem) (p : zR × Int32) : xMem := upI (upR m 2 p.1) 0 44 p.2
theorem mm_2 {p : zR × Int32} : (mm m p).1 2 = p.1 := by unfold mm; rw [upI_ne' (by omega), upR_at']
theorem mm_44 {p : zR × Int32} : (mm m p).1 0 44 = p.2 := by unfold mm; rw [upI_at]
theorem mm_ne {p : zR × Int32} {c : Nat} (h0 : c ≠ 0) (h2 : c ≠ 2) : (mm m p).1 c = m.1 c := by unfold mm; rw [upI_ne' h0, upR_ne' h2]
theorem mm_0 {p : zR × Int32} {j : Nat} (h : j ≠ 44) : (mm m p).1 0 j = m.1 0 j := by unfold mm; rw [upI_nj h, upR_ne' (by omega)]
theorem mm_L {p : zR × Int32} : (mm m p).2 = m.2 := rfl
theorem upI_comm {c d j i : Nat} {v w : Int32} (h : c ≠ d) : upI (upI m c j v) d i w = upI (upI m d i w) c j v := by
  unfold upI
  refine Prod.ext ?_ rfl
  funext a b
  show (if a = d ∧ b = i then w else if a = c ∧ b = j then v else m.1 a b) = if a = c ∧ b = j then v else if a = d ∧ b = i then w else m.1 a b
  by_cases h1 : a = d ∧ b = i
  · rw [if_pos h1, if_neg (fun e => h (e.1.symm.trans h1.1)), if_pos h1]
  · rw [if_neg h1]
    by_cases h2 : a = c ∧ b = j
    · rw [if_pos h2, if_pos h2]
    · rw [if_neg h2, if_neg h2, if_neg h1]
theorem upI_upI {c j : Nat} {v w : Int32} : upI (upI m c j v) c j w = upI m c j w := by
  unfold upI
  refine Prod.ext ?_ rfl
  funext a b
  show (if a = c ∧ b = j then w else if a = c ∧ b = j then v else m.1 a b) = if a = c ∧ b = j then w else m.1 a b
  by_cases h1 : a = c ∧ b = j
  · rw [if_pos h1, if_pos h1]
  · rw [if_neg h1, if_neg h1, if_neg h1]
theorem upR_upI {c d j : Nat} {v : Int32} {f : Nat → Int32} (h : c ≠ d) : upR (upI m c j v) d f = upI (upR m d f) c j v := by
  unfold upI upR
  refine Prod.ext ?_ rfl
  funext a b
  show (if a = d then f b else if a = c ∧ b = j then v else m.1 a b) = if a = c ∧ b = j then v else if a = d then f b else m.1 a b
  by_cases h1 : a = d
  · rw [if_pos h1, if_neg (fun e => h (e.1.symm.trans h1)), if_pos h1]
  · rw [if_neg h1]
    by_cases h2 : a = c ∧ b = j
    · rw [if_pos h2, if_pos h2]
    · rw [if_neg h2, if_neg h2, if_neg h1]
theorem mm_up2 {p : zR × Int32} {j : Nat} {v : Int32} : upI (mm m p) 2 j v = mm m (fun i => if i = j then v else p.1 i, p.2) := by
  unfold mm
  rw [upI_comm (by omega), upI_upR]
theorem mm_98 {p : zR × Int32} {v : Int32} : upI (mm m p) 2 98 v = mm m (z98 p.1 v, p.2) := mm_up2
theorem mm_up44 {p : zR × Int32} {v : Int32} : upI (mm m p) 0 44 v = mm m (p.1, v) := by
  unfold mm
  rw [upI_upI]
theorem mm_R {p : zR × Int32} {f : zR} : upR (mm m p) 2 f = mm m (f, p.2) := by
  unfold mm
  rw [upR_upI (by omega), upR_upR]
theorem zM_draw {p : zR × Int32} {n : Int32} (hn : ¬ n = 0) : M_draw (mm m p) n = some (zPk (zStep p.2) n, mm m (p.1, zStep p.2)) := by
  unfold M_draw
  rw [nm_eq, mm_44, mm_up44, if_neg hn, mm_44]
  rfl
theorem zM_cries {p : zR × Int32} {x y l : Int32} : M_cries (mm m p) x y l = some (mm m (zCrys p.1 x y l, p.2)) := by
  unfold M_cries
  simp only [nm]
  rw [mm_up2, mm_up2, mm_up2, mm_2, mm_up2]
  congr 2
  refine Prod.ext ?_ rfl
  funext j
  unfold zCrys
  show (if j = 99 then (if (99 : Nat) = 100 then l else if (99 : Nat) = 102 then y else if (99 : Nat) = 101 then x else p.1 99) + 1 else if j = 100 then l else if j = 102 then y else if j = 101 then x else p.1 j) = (if j = 99 then p.1 99 + 1 else if j = 100 then l else if j = 101 then x else if j = 102 then y else p.1 j)
  by_cases h1 : j = 99
  · subst h1; simp
  · by_cases h2 : j = 100
    · subst h2; simp
    · by_cases h3 : j = 101
      · subst h3; simp
      · by_cases h4 : j = 102
        · subst h4; simp
        · simp [h1, h2, h3, h4]
theorem zDs_1 {p : zR × Int32} {i : Nat} (hz : zPk (zStep (zDs p i).2) 8 = 0) : (zDs p (i + 1)).1 = z98 (zDs p i).1 ((zDs p i).1 98 ^^^ i_shl 1 (Int32.ofNat i)) := if_pos hz
theorem zDs_2 {p : zR × Int32} {i : Nat} (hz : ¬ zPk (zStep (zDs p i).2) 8 = 0) : (zDs p (i + 1)).1 = (zDs p i).1 := if_neg hz
theorem zDs_3 {p : zR × Int32} {i : Nat} : (zDs p (i + 1)).2 = zStep (zDs p i).2 := rfl
theorem zDay1_1 {q : zR × Int32} (h : zPk (zStep q.2) 6 = 0 ∧ ¬ 0 < q.1 100) : zDay1 q = (zCrys q.1 (zPk (zStep (zStep q.2)) (q.1 3)) (zPk (zStep (zStep (zStep q.2))) (q.1 4)) (zPk (zStep (zStep (zStep (zStep q.2)))) 30 + 1), zStep (zStep (zStep (zStep q.2)))) := if_pos h
theorem zDay1_2 {q : zR × Int32} (h : ¬ (zPk (zStep q.2) 6 = 0 ∧ ¬ 0 < q.1 100)) : zDay1 q = (q.1, zStep q.2) := if_neg h
theorem zDs_j {p : zR × Int32} {i j : Nat} (h : j ≠ 98) : (zDs p i).1 j = p.1 j := by
  induction i with
  | zero => rfl
  | succ i ih =>
    by_cases hz : zPk (zStep (zDs p i).2) 8 = 0
    · rw [zDs_1 hz]
      unfold z98
      rw [if_neg h, ih]
    · rw [zDs_2 hz]
      exact ih
theorem zDay1_j {q : zR × Int32} {j : Nat} (h : j < 99 ∨ 102 < j) : (zDay1 q).1 j = q.1 j := by
  by_cases hz : zPk (zStep q.2) 6 = 0 ∧ ¬ 0 < q.1 100
  · rw [zDay1_1 hz]
    show zCrys q.1 _ _ _ j = q.1 j
    unfold zCrys
    rw [if_neg (by omega), if_neg (by omega), if_neg (by omega), if_neg (by omega)]
  · rw [zDay1_2 hz]
theorem zDays_j {p : zR × Int32} {n j : Nat} (h : j < 97 ∨ 121 ≤ j) (hc : zCt p.1) : (zDays p n).1 j = p.1 j ∧ zCt (zDays p n).1 := by
  induction n with
  | zero => exact ⟨rfl, hc⟩
  | succ n ih =>
    have e : ∀ j, j < 97 ∨ 121 ≤ j → (zDay1 (zDs (zDays p n) (zC (zDays p n).1))).1 j = (zDays p n).1 j := fun j hj => by rw [zDay1_j (by omega), zDs_j (by omega)]
    have hc1 : zCt (zDay1 (zDs (zDays p n) (zC (zDays p n).1))).1 := zCt_tr (fun j hj => e j (by omega)) ih.2
    refine ⟨?_, zCt_hr hc1⟩
    rw [zDays]
    show zHr (zDay1 (zDs (zDays p n) (zC (zDays p n).1))).1 j = p.1 j
    rw [zHr_j h hc1, e j h, ih.1]
theorem zDay_97 {p : zR × Int32} : (zDay p).1 97 = p.1 97 + 1 := by
  show zHr (zDay1 (zDs p (zC p.1))).1 97 = p.1 97 + 1
  rw [zHr_97, zDay1_j (by omega), zDs_j (by omega)]
theorem zDays_97 {p : zR × Int32} {n h : Nat} (hh : p.1 97 = Int32.ofNat h) : (zDays p n).1 97 = Int32.ofNat (h + n) := by
  induction n with
  | zero => exact hh
  | succ n ih => rw [zDays, zDay_97, ih, z_s]; rfl
theorem zWs_98 {v : Int32} (hw : zWs σ) (hc : zCt σ) (hv : ∀ k, zC σ ≤ k → k < 32 → tb v k = false) : zWs (z98 σ v) := by
  have o6 := hc.2.1.2
  obtain ⟨w1, w2, w3, w4⟩ := hw
  have hj : ∀ j, j ≠ 98 → z98 σ v j = σ j := fun j h => by unfold z98; rw [if_neg h]
  unfold zWs
  rw [zO_tr (σ := σ) (hj 1 (by omega)), zB_tr (σ := σ) (hj 0 (by omega)), zC_tr (σ := σ) (hj 2 (by omega)), hj 97 (by omega), hj 100 (by omega)]
  refine ⟨w1, fun k k1 k2 => ?_, w3, fun o ho => ?_⟩
  · unfold z98
    rw [if_pos rfl]
    exact hv k k1 k2
  · rw [hj _ (by omega)]
    exact w4 o ho
theorem zWs_ds {p : zR × Int32} (hw : zWs p.1) (hc : zCt p.1) : ∀ i, i ≤ zC p.1 → zWs (zDs p i).1 := by
  intro i
  induction i with
  | zero => intro _; exact hw
  | succ i ih =>
    intro hi
    have ih := ih (by omega)
    have c8 := hc.2.2.2
    have hc2 : zCt (zDs p i).1 := zCt_tr (fun j hj => zDs_j (by omega)) hc
    have eC : zC (zDs p i).1 = zC p.1 := zC_tr (zDs_j (by omega))
    by_cases hz : zPk (zStep (zDs p i).2) 8 = 0
    · rw [zDs_1 hz]
      refine zWs_98 ih hc2 (fun k k1 k2 => ?_)
      rw [tb_xor, ih.2.1 k k1 k2, tb_shl1 (by omega)]
      rw [eC] at k1
      simp
      omega
    · rw [zDs_2 hz]
      exact ih
theorem zWs_day1 {q : zR × Int32} (hw : zWs q.1) (hc : zCt q.1) : zWs (zDay1 q).1 := by
  by_cases hz : zPk (zStep q.2) 6 = 0 ∧ ¬ 0 < q.1 100
  · rw [zDay1_1 hz]
    have o6 := hc.2.1.2
    obtain ⟨w1, w2, w3, w4⟩ := hw
    generalize zPk (zStep (zStep q.2)) (q.1 3) = a
    generalize zPk (zStep (zStep (zStep q.2))) (q.1 4) = b
    obtain ⟨k, hk, ek⟩ := zPk_r (zStep (zStep (zStep (zStep q.2)))) (n := 30) (y := 30) rfl (by omega) (by omega)
    have ek2 : zPk (zStep (zStep (zStep (zStep q.2)))) 30 + 1 = Int32.ofNat (k + 1) := by
      rw [ek, z_s]
    rw [ek2]
    have hj : ∀ j, j < 99 ∨ 102 < j → zCrys q.1 a b (Int32.ofNat (k + 1)) j = q.1 j := fun j h => by
      unfold zCrys
      rw [if_neg (by omega), if_neg (by omega), if_neg (by omega), if_neg (by omega)]
    have h100 : zCrys q.1 a b (Int32.ofNat (k + 1)) 100 = Int32.ofNat (k + 1) := by
      unfold zCrys
      rw [if_neg (by omega), if_pos rfl]
    show zWs (zCrys q.1 a b (Int32.ofNat (k + 1)))
    unfold zWs
    rw [zO_tr (σ := q.1) (hj 1 (by omega)), zB_tr (σ := q.1) (hj 0 (by omega)), zC_tr (σ := q.1) (hj 2 (by omega)), hj 97 (by omega), hj 98 (by omega), h100]
    refine ⟨w1, w2, ⟨by rw [z_toInt (by omega)]; omega, by rw [z_toInt (by omega)]; omega⟩, fun o ho => ?_⟩
    rw [hj _ (by omega)]
    exact w4 o ho
  · rw [zDay1_2 hz]
    exact hw
theorem zWs_days {p : zR × Int32} (hw : zWs p.1) (hc : zCt p.1) {h : Nat} (hh : p.1 97 = Int32.ofNat h) : ∀ n, h + n ≤ 400 → zWs (zDays p n).1 := by
  intro n
  induction n with
  | zero => intro _; exact hw
  | succ n ih =>
    intro hn
    have ih := ih (by omega)
    have hc2 := (zDays_j (p := p) (n := n) (j := 0) (by omega) hc).2
    have hc3 : zCt (zDs (zDays p n) (zC (zDays p n).1)).1 := zCt_tr (fun j hj => zDs_j (by omega)) hc2
    have hc4 : zCt (zDay1 (zDs (zDays p n) (zC (zDays p n).1))).1 := zCt_tr (fun j hj => zDay1_j (by omega)) hc3
    rw [zDays]
    unfold zDay
    refine zWs_hr (h := h + n) hc4 (zWs_day1 (zWs_ds ih hc2 _ (by omega)) hc3) ?_ (by omega)
    rw [zDay1_j (by omega), zDs_j (by omega), zDays_97 hh]
theorem z_cry0 {x : Int32} (h : zr x 0 30) : (x = 0) ↔ ¬ 0 < x := by
  have h0 : (0 : Int32).toInt = 0 := by decide
  rw [Int32.lt_iff_toInt_lt, h0]
  constructor
  · intro e; subst e; decide
  · intro e
    apply Int32.toInt.inj
    have := h.1
    rw [h0]
    omega
theorem zM_dayS {k7 : Int32 → xMem → Option (Int32 × xMem)} {p0 p1 v3 : Int32} {p : zR × Int32} {fuel i : Nat} (hc : zCt p.1) (hi : i < zC p.1) : M_draws_b28 p0 p1 k7 (fuel + 1) v3 (Int32.ofNat i) (mm m (zDs p i)) = M_draws_b28 p0 p1 k7 fuel v3 (Int32.ofNat (i + 1)) (mm m (zDs p (i + 1))) := by
  have c8 := hc.2.2.2
  rw [M_draws_b28, mm_2, zDs_j (by omega), hc.2.2.1, if_pos ((z_lt (by omega) (by omega)).mpr hi), zM_draw (by decide), Option.bind_some, z_s]
  have ep : zDs p (i + 1) = ((zDs p (i + 1)).1, (zDs p (i + 1)).2) := pr_eta _
  by_cases hz : zPk (zStep (zDs p i).2) 8 = 0
  · rw [if_pos hz, nm_eq, mm_2, mm_98, ep, zDs_1 hz, zDs_3]
  · rw [if_neg hz, ep, zDs_2 hz, zDs_3]
/-- a day of the model's -/
theorem zM_day {k7 : Int32 → xMem → Option (Int32 × xMem)} {p0 p1 v3 : Int32} {p : zR × Int32} (hc : zCt p.1) (hw : zWs p.1) (h3 : zr (p.1 3) 2 9) (h4 : zr (p.1 4) 2 9) : M_draws_b28 p0 p1 k7 1000 v3 0 (mm m p) = k7 (v3 + 1) (mm m (zDay p)) := by
  have c8 := hc.2.2.2
  have h0 : ∀ (m0 : xMem) (a : Int32), m0 = mm m (zDs p 0) → a = Int32.ofNat 0 → M_draws_b28 p0 p1 k7 1000 v3 a m0 = k7 (v3 + 1) (mm m (zDay p)) := by
    intro m0 a e ea
    subst e
    subst ea
    refine z_loop (fun fuel i => M_draws_b28 p0 p1 k7 fuel v3 (Int32.ofNat i) (mm m (zDs p i))) (zC p.1) _ (fun fuel i hi => ?_) (fun fuel => ?_) (zC p.1) 0 1000 (by omega) (by omega)
    · exact zM_dayS hc hi
    · have hwq : zWs (zDs p (zC p.1)).1 := zWs_ds hw hc _ (by omega)
      have hcq : zCt (zDs p (zC p.1)).1 := zCt_tr (fun j hj => zDs_j (by omega)) hc
      have e3 : (zDs p (zC p.1)).1 3 = p.1 3 := zDs_j (by omega)
      have e4 : (zDs p (zC p.1)).1 4 = p.1 4 := zDs_j (by omega)
      have n3 : ¬ p.1 3 = 0 := fun e => by rw [e] at h3; exact absurd h3.1 (by decide)
      have n4 : ¬ p.1 4 = 0 := fun e => by rw [e] at h4; exact absurd h4.1 (by decide)
      have fin : ∀ τ x, zCt τ → M_draws_b127 p0 p1 k7 v3 (mm m (τ, x)) = k7 (v3 + 1) (mm m (zHr τ, x)) := fun τ x hτ => by
        unfold M_draws_b127
        rw [zM_hour (by rw [mm_2]; exact hτ), Option.bind_some, mm_R, mm_2]
      have e2 : (mm m (zDs p (zC p.1))).1 2 2 = Int32.ofNat (zC p.1) := by rw [mm_2, zDs_j (by omega), hc.2.2.1]
      rw [M_draws_b28, e2, if_neg (by rw [z_lt (by omega) (by omega)]; omega), zM_draw (by decide), Option.bind_some]
      unfold zDay
      generalize zDs p (zC p.1) = q at hwq hcq e3 e4
      by_cases hz : zPk (zStep q.2) 6 = 0
      · rw [if_pos hz, mm_2]
        by_cases h9 : 0 < q.1 100
        · rw [if_neg (fun e => (z_cry0 hwq.2.2.1).mp e h9), fin _ _ hcq, zDay1_2 (fun h => h.2 h9)]
        · rw [if_pos ((z_cry0 hwq.2.2.1).mpr h9), zM_draw (by rw [e3]; exact n3), Option.bind_some, mm_2, zM_draw (by rw [e4]; exact n4), Option.bind_some, zM_draw (by decide), Option.bind_some, zM_cries, Option.bind_some]
          rw [fin _ _ (zCt_tr (σ := q.1) (fun j hj => by unfold zCrys; rw [if_neg (by omega), if_neg (by omega), if_neg (by omega), if_neg (by omega)]) hcq), zDay1_1 ⟨hz, h9⟩]
      · rw [if_neg hz, fin _ _ hcq, zDay1_2 (fun h => hz h.1)]
  exact h0 _ _ rfl rfl
theorem zM_draws {n h : Nat} {x : Int32} (hc : zCt (m.1 2)) (hw : zWs (m.1 2)) (h3 : zr (m.1 2 3) 2 9) (h4 : zr (m.1 2 4) 2 9) (hh : m.1 2 97 = Int32.ofNat h) (hh4 : h ≤ 400) (hn : n < 900) : M_draws m (Int32.ofNat n) x = some (Int32.ofNat (min n (400 - h)), mm m (zDays (m.1 2, x) (min n (400 - h)))) := by
  unfold M_draws
  rw [nm_eq]
  have h0 : ∀ (m0 : xMem) (a : Int32), m0 = mm m (zDays (m.1 2, x) 0) → a = Int32.ofNat 0 → M_draws_b7 (Int32.ofNat n) x 1000 a m0 = some (Int32.ofNat (min n (400 - h)), mm m (zDays (m.1 2, x) (min n (400 - h)))) := by
    intro m0 a e ea
    subst e
    subst ea
    refine z_loop (fun fuel i => M_draws_b7 (Int32.ofNat n) x fuel (Int32.ofNat i) (mm m (zDays (m.1 2, x) i))) (min n (400 - h)) _ (fun fuel i hi => ?_) (fun fuel => ?_) (min n (400 - h)) 0 1000 (by omega) (by omega)
    · have e7 : (mm m (zDays (m.1 2, x) i)).1 2 97 = Int32.ofNat (h + i) := by rw [mm_2, zDays_97 hh]
      have hj := fun j (hj : j < 97 ∨ 121 ≤ j) => (zDays_j (p := (m.1 2, x)) (n := i) hj hc).1
      rw [M_draws_b7, if_pos ((z_lt (by omega) (by omega)).mpr (by omega)), e7, if_pos (show Int32.ofNat (h + i) < 400 by rw [show (400 : Int32) = Int32.ofNat 400 from rfl, z_lt (by omega) (by omega)]; omega), zM_day (zDays_j (p := (m.1 2, x)) (n := i) (j := 0) (by omega) hc).2 (zWs_days (p := (m.1 2, x)) hw hc hh i (by omega)) (by rw [hj 3 (by omega)]; exact h3) (by rw [hj 4 (by omega)]; exact h4), z_s]
      rfl
    · have e7 : (mm m (zDays (m.1 2, x) (min n (400 - h)))).1 2 97 = Int32.ofNat (h + min n (400 - h)) := by rw [mm_2, zDays_97 hh]
      rw [M_draws_b7, e7]
      by_cases hq : min n (400 - h) < n
      · rw [if_pos ((z_lt (by omega) (by omega)).mpr hq), if_neg (show ¬ Int32.ofNat (h + min n (400 - h)) < 400 by rw [show (400 : Int32) = Int32.ofNat 400 from rfl, z_lt (by omega) (by omega)]; omega)]
      · rw [if_neg (fun e => hq ((z_lt (by omega) (by omega)).mp e))]
  exact h0 _ _ (by show upI m 0 44 x = mm m (m.1 2, x); unfold mm; rw [upR_id]) rfl
end ZD
