/-! Layer 2. keen -/
def zAll (p : Nat → Bool) : Nat → Bool
  | 0 => true
  | n + 1 => zAll p n && p n
theorem zAll_iff {p : Nat → Bool} {n : Nat} : zAll p n = true ↔ ∀ k, k < n → p k = true := by
  induction n with
  | zero => exact ⟨fun _ k hk => by omega, fun _ => rfl⟩
  | succ n ih =>
    rw [zAll, Bool.and_eq_true, ih]
    constructor
    · intro h k hk
      by_cases hkn : k = n
      · rw [hkn]; exact h.2
      · exact h.1 k (by omega)
    · intro h
      exact ⟨fun k hk => h k (by omega), h n (by omega)⟩
def zKx (d : Nat → Int32) (t : Nat) : Int := (d (3 * t)).toInt - (d (3 * t + 1)).toInt
def zKl (d : Nat → Int32) : Nat → Int
  | 0 => 1
  | t + 1 => if d (3 * t + 2) = 1 then zKl d t else max (zKl d t) (zKx d t + 1)
def zKh (d : Nat → Int32) : Nat → Int
  | 0 => 20
  | t + 1 => if d (3 * t + 2) = 1 then min (zKh d t) (zKx d t) else zKh d t
theorem zKlh {d : Nat → Int32} {K : Nat} (hb : ∀ j, j < 3 * K → zr (d j) 0 255) : ∀ t, t ≤ K → 1 ≤ zKl d t ∧ zKl d t ≤ 256 ∧ -255 ≤ zKh d t ∧ zKh d t ≤ 20 ∧ ∀ v : Int, 1 ≤ v → v ≤ 20 → ((zKl d t ≤ v ∧ v ≤ zKh d t) ↔ ∀ k, k < t → (d (3 * k + 2) = 1 ↔ v ≤ zKx d k)) := by
  intro t
  induction t with
  | zero =>
    intro _
    refine ⟨by show (1 : Int) ≤ 1; omega, by show (1 : Int) ≤ 256; omega, by show (-255 : Int) ≤ 20; omega, by show (20 : Int) ≤ 20; omega, fun v v1 v2 => ⟨fun _ k hk => by omega, fun _ => ⟨v1, v2⟩⟩⟩
  | succ t ih =>
    intro ht
    obtain ⟨a, b, c, e, f⟩ := ih (by omega)
    have x1 := hb (3 * t) (by omega)
    have x2 := hb (3 * t + 1) (by omega)
    have hx : -255 ≤ zKx d t ∧ zKx d t ≤ 255 := by
      unfold zKx
      have := x1.1; have := x1.2; have := x2.1; have := x2.2
      omega
    have split : ∀ v : Int, (∀ k, k < t + 1 → (d (3 * k + 2) = 1 ↔ v ≤ zKx d k)) ↔ (∀ k, k < t → (d (3 * k + 2) = 1 ↔ v ≤ zKx d k)) ∧ (d (3 * t + 2) = 1 ↔ v ≤ zKx d t) := fun v => by
      constructor
      · intro h
        exact ⟨fun k hk => h k (by omega), h t (by omega)⟩
      · intro h k hk
        by_cases hkt : k = t
        · rw [hkt]; exact h.2
        · exact h.1 k (by omega)
    by_cases hw : d (3 * t + 2) = 1
    · rw [zKl, zKh, if_pos hw, if_pos hw]
      refine ⟨a, b, by omega, by omega, fun v v1 v2 => ?_⟩
      rw [split, ← f v v1 v2]
      constructor
      · intro h
        exact ⟨⟨h.1, by omega⟩, fun _ => by omega, fun _ => hw⟩
      · intro h
        have := h.2.mp hw
        exact ⟨h.1.1, by omega⟩
    · rw [zKl, zKh, if_neg hw, if_neg hw]
      refine ⟨by omega, by omega, c, e, fun v v1 v2 => ?_⟩
      rw [split, ← f v v1 v2]
      constructor
      · intro h
        exact ⟨⟨by omega, h.2⟩, fun q => absurd q hw, fun q => by omega⟩
      · intro h
        have : ¬ v ≤ zKx d t := fun q => hw (h.2.mpr q)
        exact ⟨by omega, h.1.2⟩
section ZKE
variable {m m' mC mC' mM mM' r c1 : xMem} {σ τ : zR} {n : Nat} {d : Nat → Int32}
theorem zRel_keen (H : zRel c1 r) (hC1 : ∀ c, c ≠ 0 → mC'.1 c = c1.1 c) (hC0 : ∀ j, j ≠ 15 → j ≠ 16 → mC'.1 0 j = c1.1 0 j) (hCL : mC'.2 = c1.2) (hM1 : ∀ c, c ≠ 0 → mM'.1 c = r.1 c) (hM0 : ∀ j, j ≠ 29 → j ≠ 30 → j ≠ 31 → mM'.1 0 j = r.1 0 j) (hML : mM'.2 = r.2) (ke : zKe mC' mM') : zRel mC' mM' := by
  obtain ⟨r1, r2, r3, r4, r5, r6, r7, r8, r9, r10, r11, r12, r13, r14, r15, r16⟩ := id H
  refine zRel_mk (fun c hc => hC1 c (by omega)) (fun c hc => by rw [hCL]) (fun c hc => hM1 c (by omega)) (hM0 24 (by omega) (by omega) (by omega)) (fun c hc => by rw [hML]) (zTp_tr (by rw [hC1 1 (by omega)]) (hC1 2 (by omega)) (hM0 2 (by omega) (by omega) (by omega)) (hM1 1 (by omega)) r6) ?_ (zLs_tr (by rw [hC1 165 (by omega)]) (hC1 166 (by omega)) (hM0 27 (by omega) (by omega) (by omega)) (hM1 9 (by omega)) r9) ?_ (zLs_tr (by rw [hC1 170 (by omega)]) (hC1 179 (by omega)) (hM0 35 (by omega) (by omega) (by omega)) (hM1 13 (by omega)) r11) (zLs_tr (hC0 14 (by omega) (by omega)) (hC1 182 (by omega)) (hM0 37 (by omega) (by omega) (by omega)) (hM1 14 (by omega)) r12) ke ?_ (zTo_tr (hC1 76 (by omega)) (hM0 47 (by omega) (by omega) (by omega)) (hM1 18 (by omega)) r15) (zWr_tr (by rw [hC1 180 (by omega)]) (hC1 181 (by omega)) (hM0 43 (by omega) (by omega) (by omega)) (hM1 17 (by omega)) r16) H
  · unfold zFa; rw [hC0 18 (by omega) (by omega), hM0 15 (by omega) (by omega) (by omega)]; exact r8
  · unfold zSpN; rw [hC1 165 (by omega), hM0 28 (by omega) (by omega) (by omega)]; exact r10
  · unfold zDu; rw [hC0 17 (by omega) (by omega), hM0 40 (by omega) (by omega) (by omega), hM0 41 (by omega) (by omega) (by omega)]; exact r14
theorem zKx_sub {t : Nat} (h1 : zr (d (3 * t)) 0 255) (h2 : zr (d (3 * t + 1)) 0 255) : (d (3 * t) - d (3 * t + 1)).toInt = zKx d t := by
  have := h1.1; have := h1.2; have := h2.1; have := h2.2
  unfold zKx
  exact z_subI (by omega) (by omega)
theorem zM_isKeen {K : Nat} (hK : 3 * K ≤ 940) (h3 : m.1 0 3 = Int32.ofNat (3 * K)) (ho : ∀ j, j < 3 * K → M_octet m (Int32.ofNat j) = some (d j)) (hb : ∀ j, j < 3 * K → zr (d j) 0 255) {v : Nat} (hv : v ≤ 100) : M_isKeen m (Int32.ofNat v) = some (zb (zAll (fun k => decide (d (3 * k + 2) = 1 ↔ (v : Int) ≤ zKx d k)) K)) := by
  unfold M_isKeen
  have h0 : ∀ a b : Int32, a = zb (zAll (fun k => decide (d (3 * k + 2) = 1 ↔ (v : Int) ≤ zKx d k)) 0) → b = Int32.ofNat (3 * 0) → M_isKeen_b4 m (Int32.ofNat v) 1000 a b = some (zb (zAll (fun k => decide (d (3 * k + 2) = 1 ↔ (v : Int) ≤ zKx d k)) K)) := by
    intro a b ea eb
    subst ea
    subst eb
    refine z_loop (fun f t => M_isKeen_b4 m (Int32.ofNat v) f (zb (zAll (fun k => decide (d (3 * k + 2) = 1 ↔ (v : Int) ≤ zKx d k)) t)) (Int32.ofNat (3 * t))) K _ (fun f t ht => ?_) (fun f => ?_) K 0 1000 (by omega) (by omega)
    · rw [M_isKeen_b4, h3, if_pos ((z_lt (by omega) (by omega)).mpr (by omega)), zAll]
      have e3 : (Int32.ofNat (3 * t) + 3 : Int32) = Int32.ofNat (3 * (t + 1)) := z_add (3 * t) 3
      cases hz : zAll (fun k => decide (d (3 * k + 2) = 1 ↔ (v : Int) ≤ zKx d k)) t with
      | false => rw [if_pos (by decide), e3]; rfl
      | true =>
        have hsub := zKx_sub (hb (3 * t) (by omega)) (hb (3 * t + 1) (by omega))
        have hx : (d (3 * t) - d (3 * t + 1) < Int32.ofNat v) ↔ zKx d t < v := by rw [Int32.lt_iff_toInt_lt, hsub, z_toInt (by omega)]
        have e1 : (Int32.ofNat (3 * t) + 1 : Int32) = Int32.ofNat (3 * t + 1) := z_add (3 * t) 1
        have e2 : (Int32.ofNat (3 * t) + 2 : Int32) = Int32.ofNat (3 * t + 2) := z_add (3 * t) 2
        rw [if_neg (by decide), ho _ (by omega), Option.bind_some, e1, ho _ (by omega), Option.bind_some, Bool.true_and]
        unfold M_isKeen_b38 M_isKeen_b54
        rw [e2, ho _ (by omega), Option.bind_some, Option.bind_some, e3]
        by_cases hw : d (3 * t + 2) = 1
        · by_cases hl : zKx d t < v
          · rw [if_pos (hx.mpr hl), if_pos hw, if_neg (by decide), show decide (d (3 * t + 2) = 1 ↔ (v : Int) ≤ zKx d t) = false by rw [decide_eq_false_iff_not]; intro q; have := q.mp hw; omega]
            rfl
          · rw [if_neg (fun q => hl (hx.mp q)), if_pos hw, if_pos rfl, show decide (d (3 * t + 2) = 1 ↔ (v : Int) ≤ zKx d t) = true by rw [decide_eq_true_eq]; exact ⟨fun _ => by omega, fun _ => hw⟩]
            rfl
        · by_cases hl : zKx d t < v
          · rw [if_pos (hx.mpr hl), if_neg hw, if_pos rfl, show decide (d (3 * t + 2) = 1 ↔ (v : Int) ≤ zKx d t) = true by rw [decide_eq_true_eq]; exact ⟨fun q => absurd q hw, fun q => by omega⟩]
            rfl
          · rw [if_neg (fun q => hl (hx.mp q)), if_neg hw, if_neg (by decide), show decide (d (3 * t + 2) = 1 ↔ (v : Int) ≤ zKx d t) = false by rw [decide_eq_false_iff_not]; intro q; exact hw (q.mpr (by omega))]
            rfl
    · rw [M_isKeen_b4, h3, if_neg (fun q => Nat.lt_irrefl _ ((z_lt (by omega) (by omega)).mp q)), zb_rz]
      rfl
  exact h0 _ _ rfl rfl
end ZKE
theorem z_i_min {x y : Int32} : (i_min x y).toInt = min x.toInt y.toInt := by
  unfold i_min
  by_cases h : y < x
  · rw [if_pos h]; rw [Int32.lt_iff_toInt_lt] at h; omega
  · rw [if_neg h]; rw [Int32.lt_iff_toInt_lt] at h; omega
theorem z_i_max {x y : Int32} : (i_max x y).toInt = max x.toInt y.toInt := by
  unfold i_max
  by_cases h : x < y
  · rw [if_pos h]; rw [Int32.lt_iff_toInt_lt] at h; omega
  · rw [if_neg h]; rw [Int32.lt_iff_toInt_lt] at h; omega
theorem zP_keen : lS_keen zRel := by
  intro mC mM hR
  have hR1 := zRel_thr hR 0
  unfold M_keen
  rw [nm_eq]
  generalize upI mM 0 0 0 = m1 at hR1 ⊢
  obtain ⟨n, r, en, et, K⟩ := zM_taken hR1
  rw [et, Option.bind_some]
  unfold O_keen
  rw [nm_eq, nm_eq, en]
  have K1 := K.c2
  generalize upI mC 1 1 0 = c1 at K K1 ⊢
  have hRt := K.rel
  have hn := K.le
  rw [zM_in, Option.bind_some, z_rng, K.n3, show (3 : Int32) = Int32.ofNat 3 from rfl, z_rem (by omega) (by omega), ← show (3 : Int32) = Int32.ofNat 3 from rfl]
  simp only [zb_0]
  cases hy : (!decide (Int32.ofNat n < 3) && !decide (18 < Int32.ofNat n)) with
  | false => exact ⟨-1, c1, r, rfl, rfl, hRt⟩
  | true =>
    obtain ⟨n2, n1, n18, e2⟩ := z_rngq (A := 3) (B := 18) hy (by decide) (by decide)
    have en2 : n = n2 := (z_eq (by omega) (by omega)).mp e2
    subst en2
    simp only [Bool.true_eq_false, if_false, if_true]
    by_cases h3 : ¬ n % 3 = 0
    · have h3' : ¬ Int32.ofNat (n % 3) = 0 := fun e => h3 ((z_eq (b := 0) (by omega) (by omega)).mp e)
      rw [if_neg h3', if_neg h3']
      exact ⟨-1, c1, r, rfl, rfl, hRt⟩
    · have h3 := Decidable.not_not.mp h3
      rw [h3, if_pos (show Int32.ofNat 0 = 0 from rfl), if_pos (show Int32.ofNat 0 = 0 from rfl)]
      obtain ⟨k, rfl⟩ : ∃ k, n = 3 * k := ⟨n / 3, by omega⟩
      generalize ed : mC.1 2 = d at K K1
      have hat : ∀ j, j < 3 * k → Tape_at c1 1 (Int32.ofNat j) = some (d j) := fun j hj => by rw [zC_at (by omega), K1]
      have hb := K.bt
      have e30 : ∀ t, (Int32.ofNat (3 * t) + 3 : Int32) = Int32.ofNat (3 * (t + 1)) := fun t => z_add (3 * t) 3
      have e31 : ∀ t, (Int32.ofNat (3 * t) + 1 : Int32) = Int32.ofNat (3 * t + 1) := fun t => z_add (3 * t) 1
      have e32 : ∀ t, (Int32.ofNat (3 * t) + 2 : Int32) = Int32.ofNat (3 * t + 2) := fun t => z_add (3 * t) 2
      have hM := z_scan (fun f t => M_keen_b38 f (Int32.ofNat (3 * t)) r) k (fun t => decide (1 < d (3 * t + 2))) (fun _ => some (-1, r)) (M_keen_b74 1000 0 (-1) (-1) 1 r) (fun f t ht hp => by
        rw [M_keen_b38, K.n3, if_pos ((z_lt (by omega) (by omega)).mpr (by omega)), e32, K.oct _ (by omega), Option.bind_some, if_pos (of_decide_eq_true hp)]) (fun f t ht hp => by
        rw [M_keen_b38, K.n3, if_pos ((z_lt (by omega) (by omega)).mpr (by omega)), e32, K.oct _ (by omega), Option.bind_some, if_neg (of_decide_eq_false hp), e30]) (fun f => by
        rw [M_keen_b38, K.n3, if_neg (fun q => Nat.lt_irrefl _ ((z_lt (by omega) (by omega)).mp q))]) (fuel := 1000) (by omega)
      refine (show ∃ v mC' mM', O_keen_b43 1000 (Int32.ofNat (3 * k)) 1 20 (Int32.ofNat (3 * 0)) c1 = some (v, mC') ∧ M_keen_b38 1000 (Int32.ofNat (3 * 0)) r = some (v, mM') ∧ zRel mC' mM' from ?_)
      rw [hM]
      refine z_loopX (fun f t (p : Int32 × Int32) => O_keen_b43 f (Int32.ofNat (3 * k)) p.1 p.2 (Int32.ofNat (3 * t)) c1) k (fun t p => p.1.toInt = zKl d t ∧ p.2.toInt = zKh d t ∧ ∀ q, q < t → decide (1 < d (3 * q + 2)) = false) (fun res => ∃ v mC' mM', res = some (v, mC') ∧ (match zFst (fun t => decide (1 < d (3 * t + 2))) k with | some i => some (-1, r) | none => M_keen_b74 1000 0 (-1) (-1) 1 r) = some (v, mM') ∧ zRel mC' mM') (fun f t p ht hI => ?_) (fun f p hI => ?_) k 0 1000 (1, 20) (by omega) (by omega) ⟨(show (1 : Int32).toInt = (1 : Int) by decide), (show (20 : Int32).toInt = (20 : Int) by decide), fun q hq => by omega⟩
      · obtain ⟨i1, i2, i3⟩ := hI
        have hsub := zKx_sub (hb (3 * t) (by omega)) (hb (3 * t + 1) (by omega))
        obtain ⟨a, b, c, e, -⟩ := zKlh hb t (by omega)
        have hxb : -255 ≤ zKx d t ∧ zKx d t ≤ 255 := by
          have x1 := hb (3 * t) (by omega)
          have x2 := hb (3 * t + 1) (by omega)
          unfold zKx
          have := x1.1; have := x1.2; have := x2.1; have := x2.2
          omega
        rw [O_keen_b43, e32, if_pos ((z_lt (by omega) (by omega)).mpr (by omega)), hat _ (by omega), Option.bind_some, e31, hat _ (by omega), Option.bind_some, nm_eq, hat _ (by omega), Option.bind_some]
        by_cases hw : 1 < d (3 * t + 2)
        · left
          rw [if_pos hw, zFst_eq ht (by exact decide_eq_true hw) i3]
          exact ⟨-1, c1, r, rfl, rfl, hRt⟩
        · right
          rw [if_neg hw]
          have i4 : ∀ q, q < t + 1 → decide (1 < d (3 * q + 2)) = false := fun q hq => by
            by_cases hqt : q = t
            · rw [hqt]; exact decide_eq_false hw
            · exact i3 q (by omega)
          by_cases h1 : d (3 * t + 2) = 1
          · rw [if_pos h1, nm_eq, e30]
            refine ⟨(p.1, i_min p.2 (d (3 * t) - d (3 * t + 1))), ⟨?_, ?_, i4⟩, rfl⟩
            · rw [zKl, if_pos h1]; exact i1
            · rw [zKh, if_pos h1, z_i_min, i2, hsub]
          · have h11 : (1 : Int32).toInt = 1 := by decide
            have hs1 : (d (3 * t) - d (3 * t + 1) + 1).toInt = zKx d t + 1 := by
              rw [z_addI (by rw [hsub, h11]; omega) (by rw [hsub, h11]; omega), hsub, h11]
            rw [if_neg h1, nm_eq, e30]
            refine ⟨(i_max p.1 (d (3 * t) - d (3 * t + 1) + 1), p.2), ⟨?_, ?_, i4⟩, rfl⟩
            · rw [zKl, if_neg h1, z_i_max, i1, hs1]
            · rw [zKh, if_neg h1]; exact i2
      · obtain ⟨i1, i2, i3⟩ := hI
        obtain ⟨a, b, c, e, hiff⟩ := zKlh hb k (by omega)
        rw [zFst_none.mpr i3, O_keen_b43, e32, if_neg (show ¬ Int32.ofNat (3 * k + 2) < Int32.ofNat (3 * k) by rw [z_lt (by omega) (by omega)]; omega)]
        -- whether a keenness is as told
        have hk : ∀ v : Nat, 1 ≤ v → v ≤ 20 → (zAll (fun q => decide (d (3 * q + 2) = 1 ↔ (v : Int) ≤ zKx d q)) k = true ↔ (zKl d k ≤ v ∧ (v : Int) ≤ zKh d k)) := fun v v1 v2 => by
          rw [zAll_iff, hiff v (by omega) (by omega)]
          constructor
          · intro h q hq
            exact of_decide_eq_true (h q hq)
          · intro h q hq
            exact decide_eq_true (h q hq)
        have hMk : ∀ v : Nat, v ≤ 100 → M_isKeen r (Int32.ofNat v) = some (zb (zAll (fun q => decide (d (3 * q + 2) = 1 ↔ (v : Int) ≤ zKx d q)) k)) := fun v hv => zM_isKeen (by omega) K.n3 K.oct hb hv
        by_cases hlt : zKh d k < zKl d k
        · have hno : M_keen_b74 1000 0 (-1) (-1) (Int32.ofNat (0 + 1)) r = some (0, r) := by
            refine z_loop (fun f v => M_keen_b74 f 0 (-1) (-1) (Int32.ofNat (v + 1)) r) 20 _ (fun f v hv => ?_) (fun f => ?_) 20 0 1000 (by omega) (by omega)
            · have hz : zAll (fun q => decide (d (3 * q + 2) = 1 ↔ ((v + 1 : Nat) : Int) ≤ zKx d q)) k = false := by
                rw [Bool.eq_false_iff]
                intro h
                have := (hk (v + 1) (by omega) (by omega)).mp h
                omega
              rw [M_keen_b74, if_neg (show ¬ (20 : Int32) < Int32.ofNat (v + 1) by rw [show (20 : Int32) = Int32.ofNat 20 from rfl, z_lt (by omega) (by omega)]; omega), hMk (v + 1) (by omega), Option.bind_some, hz, if_pos (by decide), z_s]
            · rw [M_keen_b74, if_pos (by decide), if_pos rfl]
          rw [if_pos (show p.2 < p.1 by rw [Int32.lt_iff_toInt_lt, i1, i2]; exact hlt)]
          exact ⟨0, c1, r, rfl, hno, hRt⟩
        · obtain ⟨L, hL⟩ : ∃ L : Nat, zKl d k = L := ⟨(zKl d k).toNat, by omega⟩
          obtain ⟨H, hH⟩ : ∃ H : Nat, zKh d k = H := ⟨(zKh d k).toNat, by omega⟩
          rw [hL, hH] at hlt
          rw [hL] at i1 a b hk
          rw [hH] at i2 c e hk
          have ep1 : p.1 = Int32.ofNat L := Int32.toInt.inj (by rw [i1, z_toInt (by omega)])
          have ep2 : p.2 = Int32.ofNat H := Int32.toInt.inj (by rw [i2, z_toInt (by omega)])
          rw [if_neg (show ¬ p.2 < p.1 by rw [Int32.lt_iff_toInt_lt, i1, i2]; omega), nm_eq, nm_eq, ep1, ep2]
          have hcnt : Int32.ofNat H - Int32.ofNat L + 1 = Int32.ofNat (H + 1 - L) := by
            rw [← Int32.ofNat_sub _ _ (by omega), z_s, show H - L + 1 = H + 1 - L by omega]
          have hyes : ∃ mM', M_keen_b74 1000 0 (-1) (-1) (Int32.ofNat (0 + 1)) r = some (Int32.ofNat (H + 1 - L), mM') ∧ (∀ c, c ≠ 0 → mM'.1 c = r.1 c) ∧ (∀ j, j ≠ 29 → j ≠ 30 → j ≠ 31 → mM'.1 0 j = r.1 0 j) ∧ mM'.2 = r.2 ∧ mM'.1 0 31 = 1 ∧ mM'.1 0 29 = Int32.ofNat L ∧ mM'.1 0 30 = Int32.ofNat H := by
            have h0 : ∀ x y z : Int32, x = Int32.ofNat (min (0 + 1) (H + 1) - L) → y = (if 0 + 1 ≤ L then -1 else Int32.ofNat L) → z = (if 0 + 1 ≤ L then -1 else Int32.ofNat (min 0 H)) → ∃ mM', M_keen_b74 1000 x y z (Int32.ofNat (0 + 1)) r = some (Int32.ofNat (H + 1 - L), mM') ∧ (∀ c, c ≠ 0 → mM'.1 c = r.1 c) ∧ (∀ j, j ≠ 29 → j ≠ 30 → j ≠ 31 → mM'.1 0 j = r.1 0 j) ∧ mM'.2 = r.2 ∧ mM'.1 0 31 = 1 ∧ mM'.1 0 29 = Int32.ofNat L ∧ mM'.1 0 30 = Int32.ofNat H := by
              intro x y z ex ey ez
              subst ex
              subst ey
              subst ez
              refine z_loopX (fun f v (_ : Unit) => M_keen_b74 f (Int32.ofNat (min (v + 1) (H + 1) - L)) (if v + 1 ≤ L then -1 else Int32.ofNat L) (if v + 1 ≤ L then -1 else Int32.ofNat (min v H)) (Int32.ofNat (v + 1)) r) 20 (fun _ _ => True) (fun res => ∃ mM', res = some (Int32.ofNat (H + 1 - L), mM') ∧ (∀ c, c ≠ 0 → mM'.1 c = r.1 c) ∧ (∀ j, j ≠ 29 → j ≠ 30 → j ≠ 31 → mM'.1 0 j = r.1 0 j) ∧ mM'.2 = r.2 ∧ mM'.1 0 31 = 1 ∧ mM'.1 0 29 = Int32.ofNat L ∧ mM'.1 0 30 = Int32.ofNat H) (fun f v _ hv _ => ?_) (fun f _ _ => ?_) 20 0 1000 () (by omega) (by omega) trivial
              · right
                refine ⟨(), trivial, ?_⟩
                rw [M_keen_b74, if_neg (show ¬ (20 : Int32) < Int32.ofNat (v + 1) by rw [show (20 : Int32) = Int32.ofNat 20 from rfl, z_lt (by omega) (by omega)]; omega), hMk (v + 1) (by omega), Option.bind_some, z_s]
                have hkv := hk (v + 1) (by omega) (by omega)
                by_cases hin : L ≤ v + 1 ∧ v + 1 ≤ H
                · have hz : zAll (fun q => decide (d (3 * q + 2) = 1 ↔ ((v + 1 : Nat) : Int) ≤ zKx d q)) k = true := hkv.mpr ⟨by omega, by omega⟩
                  rw [hz, if_neg (by decide), z_s, show min (v + 1) (H + 1) - L + 1 = min (v + 1 + 1) (H + 1) - L by omega]
                  by_cases hfirst : v + 1 = L
                  · rw [if_pos (show Int32.ofNat (min (v + 1) (H + 1) - L) = 0 by rw [show min (v + 1) (H + 1) - L = 0 by omega]; rfl), if_neg (show ¬ v + 1 + 1 ≤ L by omega), if_neg (show ¬ v + 1 + 1 ≤ L by omega), show min (v + 1) H = v + 1 by omega, hfirst]
                  · rw [if_neg (show ¬ Int32.ofNat (min (v + 1) (H + 1) - L) = 0 from fun q => by have := (z_eq (b := 0) (by omega) (by omega)).mp q; omega), if_neg (show ¬ v + 1 ≤ L by omega), if_neg (show ¬ v + 1 + 1 ≤ L by omega), if_neg (show ¬ v + 1 + 1 ≤ L by omega), show min (v + 1) H = v + 1 by omega]
                · have hz : zAll (fun q => decide (d (3 * q + 2) = 1 ↔ ((v + 1 : Nat) : Int) ≤ zKx d q)) k = false := by
                    rw [Bool.eq_false_iff]
                    intro q
                    have := hkv.mp q
                    omega
                  rw [hz, if_pos (by decide), show min (v + 1 + 1) (H + 1) - L = min (v + 1) (H + 1) - L by omega]
                  by_cases hlo : v + 1 ≤ L
                  · rw [if_pos hlo, if_pos hlo, if_pos (show v + 1 + 1 ≤ L by omega), if_pos (show v + 1 + 1 ≤ L by omega)]
                  · rw [if_neg hlo, if_neg hlo, if_neg (show ¬ v + 1 + 1 ≤ L by omega), if_neg (show ¬ v + 1 + 1 ≤ L by omega), show min (v + 1) H = min v H by omega]
              · rw [M_keen_b74, if_pos (show (20 : Int32) < Int32.ofNat (20 + 1) by decide), if_neg (show ¬ Int32.ofNat (min (20 + 1) (H + 1) - L) = 0 from fun q => by have := (z_eq (b := 0) (by omega) (by omega)).mp q; omega), if_neg (show ¬ 20 + 1 ≤ L by omega), if_neg (show ¬ 20 + 1 ≤ L by omega), nm_eq, nm_eq, nm_eq, show min (20 + 1) (H + 1) - L = H + 1 - L by omega, show min 20 H = H by omega]
                exact ⟨_, rfl, fun c hc => by rw [upI_ne' hc, upI_ne' hc, upI_ne' hc], fun j j1 j2 j3 => by rw [upI_nj j2, upI_nj j1, upI_nj j3], rfl, by rw [upI_nj (by omega), upI_nj (by omega), upI_at], by rw [upI_nj (by omega), upI_at], upI_at⟩
            exact h0 _ _ _ (by rw [show min (0 + 1) (H + 1) - L = 0 by omega]; rfl) (by rw [if_pos (by omega)]) (by rw [if_pos (by omega)])
          obtain ⟨mM', eM, j1, j2, j3, j4, j5, j6⟩ := hyes
          refine ⟨_, _, mM', rfl, by rw [hcnt]; exact eM, zRel_keen hRt (fun c hc => by rw [upI_ne' hc, upI_ne' hc]) (fun j h1 h2 => by rw [upI_nj h2, upI_nj h1]) rfl j1 j2 j3 (Or.inr ⟨j4, ?_, ?_⟩)⟩
          · rw [upI_nj (by omega), upI_at, j5]
          · rw [upI_at, j6]
