/-! Layer 2. duel: the model's rows -/
def zJ (M0 m : xMem) : Prop := (∀ c, c ≠ 2 → c ≠ 8 → c ≠ 15 → c ≠ 16 → m.1 c = M0.1 c) ∧ m.2 = M0.2
section ZDM
variable {m m' mC mC' mM mM' M0 : xMem} {σ τ : zR} {o b v : Nat} {p1 : Int32}
theorem zP256 {C : Nat} (h : C ≤ 8) : 2 ^ C ≤ 256 := Nat.pow_le_pow_right (n := 2) (by omega) h
theorem zM_ends (hc : zCt (M0.1 2)) (hw : zWs (M0.1 2)) (ho : o < zO (M0.1 2)) : ∃ m', M_laysEnds M0 (Int32.ofNat o) p1 = some m' ∧ zJ M0 m' ∧ m'.1 2 = M0.1 2 ∧ ∀ u, u < 2 ^ zC (M0.1 2) → m'.1 15 u = zb (zE0 (M0.1 2) o p1 u) := by
  obtain ⟨e1, hb⟩ := zSit_eq hw hc ho
  have o6 := hc.2.1.2
  have b6 := hc.1.2
  have c8 := hc.2.2.2
  have hP := zP256 (C := zC (M0.1 2)) (by omega)
  unfold M_laysEnds
  rw [zM_tries, Option.bind_some]
  refine z_loopX (fun f u m => M_laysEnds_b6 (Int32.ofNat o) p1 f (Int32.ofNat u) m) (2 ^ zC (M0.1 2)) (fun i m => zJ M0 m ∧ (∀ j, j ≠ 98 → m.1 2 j = M0.1 2 j) ∧ (∀ i, i < 24 → m.1 8 i = M0.1 2 (97 + i)) ∧ ∀ u, u < i → m.1 15 u = zb (zE0 (M0.1 2) o p1 u)) (fun r => ∃ m', r = some m' ∧ zJ M0 m' ∧ m'.1 2 = M0.1 2 ∧ ∀ u, u < 2 ^ zC (M0.1 2) → m'.1 15 u = zb (zE0 (M0.1 2) o p1 u)) (fun f u m hu hI => ?_) (fun f m hI => ?_) (2 ^ zC (M0.1 2)) 0 1000 _ (by omega) (by omega) ⟨⟨fun c _ c2 _ _ => zFill_ne c2, rfl⟩, fun j _ => by rw [zFill_ne (by omega)], fun i hi => by have h := zFill_in (m := M0) (k := 8) (lo := 0) (n := 24) (f := fun i => M0.1 2 (97 + i)) hi; rw [Nat.zero_add] at h; exact h, fun u hu => by omega⟩
  · obtain ⟨⟨j1, j2⟩, i2, i3, i4⟩ := hI
    right
    have h81 : m.1 8 1 = M0.1 2 98 := i3 1 (by omega)
    rw [M_laysEnds_b6, i2 2 (by omega), hc.2.2.1, z_shl2 (by omega), if_pos ((z_lt (by omega) (by omega)).mpr hu), nm_eq, h81]
    generalize e2 : upI m 2 98 (M0.1 2 98 ||| Int32.ofNat u) = m2
    have hm2 : ∀ j, m2.1 2 j = z98 (M0.1 2) (M0.1 2 98 ||| Int32.ofNat u) j := fun j => by
      unfold z98
      by_cases h : j = 98
      · rw [if_pos h, h, ← e2, upI_at]
      · rw [if_neg h, ← e2, upI_nj h, i2 j h]
    have hc2 : zCt (z98 (M0.1 2) (M0.1 2 98 ||| Int32.ofNat u)) := zCt_tr (fun j hj => z98_j (by omega)) hc
    have hne : ∀ c, c ≠ 2 → m2.1 c = m.1 c := fun c h => by rw [← e2, upI_ne' h]
    have hL2 : m2.2 = m.2 := by rw [← e2]; rfl
    rw [zi_103 (by omega), Option.bind_some, hm2, z98_j (by omega), e1, zM_look (fun j _ => hm2 j) hc2 (by omega) (by omega), Option.bind_some, zLook_98 hc (by omega) (by omega) hu]
    have fin : ∀ s0 : Int32, s0 = zb (zE0 (M0.1 2) o p1 u) → M_laysEnds_b61 (Int32.ofNat o) p1 (M_laysEnds_b6 (Int32.ofNat o) p1 f) (Int32.ofNat u) s0 (Int32.ofNat u) m2 = M_laysEnds_b6 (Int32.ofNat o) p1 f (Int32.ofNat (u + 1)) (upI m2 15 u (zb (zE0 (M0.1 2) o p1 u))) := fun s0 es => by
      subst es
      unfold M_laysEnds_b61
      rw [z_ix (show u < 256 by omega) (by omega), Option.bind_some, nm_eq, z_narB, z_s]
    refine ⟨upI m2 15 u (zb (zE0 (M0.1 2) o p1 u)), ⟨⟨fun c c1 c2 c3 c4 => by rw [upI_ne' c3, hne c c1, j1 c c1 c2 c3 c4], by rw [← j2, ← hL2]; rfl⟩, fun j hj => by rw [upI_ne' (by omega), hm2, z98_j hj], fun i hi => by rw [upI_ne' (by omega), hne 8 (by omega), i3 i hi], fun q hq => ?_⟩, ?_⟩
    · by_cases h : q = u
      · rw [h, upI_at]
      · rw [upI_nj h, hne 15 (by omega), i4 q (by omega)]
    · by_cases hd : zSideN (M0.1 2) (zSit (M0.1 2) o) (zBest (fun i => zLoud (M0.1 2) i (zSit (M0.1 2) o)) (fun i => zHeard (M0.1 2) o (zSit (M0.1 2) o) i && !u.testBit i) (zC (M0.1 2) + 1)) = p1
      · rw [if_pos hd]
        exact fin 1 (by unfold zE0; rw [decide_eq_true hd]; rfl)
      · rw [if_neg hd]
        exact fin 0 (by unfold zE0; rw [decide_eq_false hd]; rfl)
  · obtain ⟨⟨j1, j2⟩, i2, i3, i4⟩ := hI
    rw [M_laysEnds_b6, i2 2 (by omega), hc.2.2.1, z_shl2 (by omega), if_neg (fun q => Nat.lt_irrefl _ ((z_lt (by omega) (by omega)).mp q)), zM_back, Option.bind_some]
    refine ⟨_, rfl, ⟨fun c c1 c2 c3 c4 => by rw [zFill_ne c1, j1 c c1 c2 c3 c4], j2⟩, zM_taken_back (fun j hj => i2 j (by omega)) i3, fun q hq => by rw [zFill_ne (by omega)]; exact i4 q hq⟩
theorem zM_move {old : Nat → Bool} {w : Bool} (hc : zCt (M0.1 2)) (hJ : zJ M0 m) (h2 : m.1 2 = M0.1 2) (h15 : ∀ u, u < 2 ^ zC (M0.1 2) → m.1 15 u = zb (old u)) : ∃ m', M_laysMove m (zb w) = some m' ∧ zJ M0 m' ∧ m'.1 2 = M0.1 2 ∧ ∀ u, u < 2 ^ zC (M0.1 2) → m'.1 15 u = zb (zAc old (zFr (M0.1 2)) w u (zC (M0.1 2))) := by
  have c8 := hc.2.2.2
  have hP := zP256 (C := zC (M0.1 2)) (by omega)
  unfold M_laysMove
  refine z_loopX (fun f i m => M_laysMove_b2 (zb w) f (Int32.ofNat i) m) 256 (fun i m => zJ M0 m ∧ m.1 2 = M0.1 2 ∧ (∀ u, u < 2 ^ zC (M0.1 2) → m.1 15 u = zb (old u)) ∧ ∀ u, u < i → u < 2 ^ zC (M0.1 2) → m.1 16 u = zb (old u)) (fun r => ∃ m', r = some m' ∧ zJ M0 m' ∧ m'.1 2 = M0.1 2 ∧ ∀ u, u < 2 ^ zC (M0.1 2) → m'.1 15 u = zb (zAc old (zFr (M0.1 2)) w u (zC (M0.1 2)))) (fun f i m hi hI => ?_) (fun f m hI => ?_) 256 0 1000 m (by omega) (by omega) ⟨hJ, h2, h15, fun u hu => by omega⟩
  · obtain ⟨⟨j1, j2⟩, i2, i3, i4⟩ := hI
    right
    rw [M_laysMove_b2, if_pos (show Int32.ofNat i < 256 from (z_lt (b := 256) (by omega) (by omega)).mpr hi), z_ix hi (by omega), Option.bind_some, Option.bind_some, nm_eq, z_s]
    refine ⟨upI m 16 i (vp_nar .boolean (m.1 15 i)), ⟨⟨fun c c1 c2 c3 c4 => by rw [upI_ne' c4, j1 c c1 c2 c3 c4], j2⟩, by rw [upI_ne' (by omega), i2], fun u hu => by rw [upI_ne' (by omega), i3 u hu], fun u hu hu2 => ?_⟩, rfl⟩
    by_cases h : u = i
    · rw [h, upI_at, ← h, i3 u hu2, z_narB]
    · rw [upI_nj h]
      exact i4 u (by omega) hu2
  · obtain ⟨i1, i2, i3, i4⟩ := hI
    rw [M_laysMove_b2, if_neg (show ¬ Int32.ofNat 256 < 256 by decide)]
    refine z_loopX (fun f v m => M_laysMove_b29 (zb w) f (Int32.ofNat v) m) (2 ^ zC (M0.1 2)) (fun v m => zJ M0 m ∧ m.1 2 = M0.1 2 ∧ (∀ u, u < v → m.1 15 u = zb (zAc old (zFr (M0.1 2)) w u (zC (M0.1 2)))) ∧ ∀ u, u < 2 ^ zC (M0.1 2) → m.1 16 u = zb (old u)) (fun r => ∃ m', r = some m' ∧ zJ M0 m' ∧ m'.1 2 = M0.1 2 ∧ ∀ u, u < 2 ^ zC (M0.1 2) → m'.1 15 u = zb (zAc old (zFr (M0.1 2)) w u (zC (M0.1 2)))) (fun f v m hv hI => ?_) (fun f m hI => ?_) (2 ^ zC (M0.1 2)) 0 1000 m (by omega) (by omega) ⟨i1, i2, fun u hu => by omega, fun u hu => i4 u (by omega) hu⟩
    · obtain ⟨⟨j1, j2⟩, i2, i3, i4⟩ := hI
      right
      have e98 : m.1 2 98 = M0.1 2 98 := by rw [i2]
      have eC : m.1 2 2 = Int32.ofNat (zC (M0.1 2)) := by rw [i2, hc.2.2.1]
      rw [M_laysMove_b29, eC, z_shl2 (by omega), if_pos ((z_lt (by omega) (by omega)).mpr hv), z_ix (show v < 256 by omega) (by omega), Option.bind_some, nm_eq, i4 v hv]
      have inner : M_laysMove_b51 (zb w) (M_laysMove_b29 (zb w) f) 1000 (Int32.ofNat v) (zb (zAc old (zFr (M0.1 2)) w v 0)) (Int32.ofNat 0) m = M_laysMove_b29 (zb w) f (Int32.ofNat (v + 1)) (upI m 15 v (zb (zAc old (zFr (M0.1 2)) w v (zC (M0.1 2))))) := by
        refine z_loop (fun g i => M_laysMove_b51 (zb w) (M_laysMove_b29 (zb w) f) g (Int32.ofNat v) (zb (zAc old (zFr (M0.1 2)) w v i)) (Int32.ofNat i) m) (zC (M0.1 2)) _ (fun g i hi => ?_) (fun g => ?_) (zC (M0.1 2)) 0 1000 (by omega) (by omega)
        · have hbit : decide ((i_shr (Int32.ofNat v ||| M0.1 2 98) (Int32.ofNat i)) &&& 1 = 1) = !(zFr (M0.1 2) i && !v.testBit i) := by
            have : ((i_shr (Int32.ofNat v ||| M0.1 2 98) (Int32.ofNat i)) &&& 1 = 1) ↔ (!(zFr (M0.1 2) i && !v.testBit i)) = true := by
              rw [z_bit1 (by omega), tb_or, tb_nat (by omega)]
              unfold zFr
              rw [decide_eq_true hi]
              cases v.testBit i <;> cases tb (M0.1 2 98) i <;> simp
            by_cases h : (!(zFr (M0.1 2) i && !v.testBit i)) = true
            · rw [decide_eq_true (this.mpr h), h]
            · rw [decide_eq_false (fun e => h (this.mp e)), Bool.eq_false_iff.mpr h]
          have hor : v ||| 2 ^ i < 2 ^ zC (M0.1 2) := Nat.or_lt_two_pow hv (Nat.pow_lt_pow_right (by omega) hi)
          rw [M_laysMove_b51, eC, if_pos ((z_lt (by omega) (by omega)).mpr hi), e98, zM_bit, Option.bind_some, hbit, zAc, z_s]
          cases hfr : (zFr (M0.1 2) i && !v.testBit i) with
          | false =>
            rw [if_neg (show ¬ zb (!false) = 0 by decide)]
            rfl
          | true =>
            rw [if_pos (show zb (!true) = 0 from rfl), if_pos (show true = true from rfl), z_orS (by omega), z_ix (show v ||| 2 ^ i < 256 by omega) (by omega), Option.bind_some, i4 _ hor]
            generalize zAc old (zFr (M0.1 2)) w v i = aa
            generalize old (v ||| 2 ^ i) = bb
            cases w <;> cases aa <;> cases bb <;> rfl
        · rw [M_laysMove_b51, eC, if_neg (fun q => Nat.lt_irrefl _ ((z_lt (by omega) (by omega)).mp q)), z_ix (show v < 256 by omega) (by omega), Option.bind_some, nm_eq, z_narB, z_s]
      refine ⟨upI m 15 v (zb (zAc old (zFr (M0.1 2)) w v (zC (M0.1 2)))), ⟨⟨fun c c1 c2 c3 c4 => by rw [upI_ne' c3, j1 c c1 c2 c3 c4], j2⟩, by rw [upI_ne' (by omega), i2], fun u hu => ?_, fun u hu => by rw [upI_ne' (by omega), i4 u hu]⟩, inner⟩
      by_cases h : u = v
      · rw [h, upI_at]
      · rw [upI_nj h]
        exact i3 u (by omega)
    · obtain ⟨i1, i2, i3, i4⟩ := hI
      rw [M_laysMove_b29, i2, hc.2.2.1, z_shl2 (by omega), if_neg (fun q => Nat.lt_irrefl _ ((z_lt (by omega) (by omega)).mp q))]
      exact ⟨m, rfl, i1, i2, i3⟩
theorem zM_game {a0 a1 a2 : Int32} {k : Nat} {e0 : Nat → Bool} (hk : k < 100) (hc : zCt (M0.1 2)) : ∀ (t fuel : Nat) (m : xMem), t ≤ k → t < fuel → zJ M0 m → m.1 2 = M0.1 2 → (∀ u, u < 2 ^ zC (M0.1 2) → m.1 15 u = zb (zWd e0 (zFr (M0.1 2)) (zC (M0.1 2)) (k - t) (decide ((t + 1) % 2 = 0)) u)) → ∃ m', M_duel_b44 a0 a1 a2 fuel (Int32.ofNat t) m = M_duel_b85 a0 a1 a2 1000 (m'.1 15 0) (-1) 0 m' ∧ zJ M0 m' ∧ m'.1 2 = M0.1 2 ∧ ∀ u, u < 2 ^ zC (M0.1 2) → m'.1 15 u = zb (zWd e0 (zFr (M0.1 2)) (zC (M0.1 2)) k false u) := by
  intro t
  induction t with
  | zero =>
    intro fuel m _ hf hJ h2 h15
    obtain ⟨f, rfl⟩ : ∃ f, fuel = f + 1 := ⟨fuel - 1, by omega⟩
    rw [M_duel_b44, if_neg (show ¬ (0 : Int32) < Int32.ofNat 0 by decide), nm_eq]
    exact ⟨m, rfl, hJ, h2, h15⟩
  | succ t ih =>
    intro fuel m htk hf hJ h2 h15
    obtain ⟨f, rfl⟩ : ∃ f, fuel = f + 1 := ⟨fuel - 1, by omega⟩
    obtain ⟨m1, e1, a, b, c⟩ := zM_move (w := decide ((t + 1) % 2 = 0)) hc hJ h2 h15
    have hw : (!decide ((t + 1) % 2 = 0)) = decide ((t + 1 + 1) % 2 = 0) := by
      by_cases h : (t + 1) % 2 = 0
      · rw [decide_eq_true h, decide_eq_false (by omega)]; rfl
      · rw [decide_eq_false h, decide_eq_true (by omega)]; rfl
    obtain ⟨m2, e2, r⟩ := ih f m1 (by omega) (by omega) a b (fun u hu => by
      rw [c u hu, zAc_eq, show k - t = k - (t + 1) + 1 by omega, zWd, hw])
    refine ⟨m2, ?_, r⟩
    rw [← e2]
    have hrem : i_rem (Int32.ofNat (t + 1)) 2 = Int32.ofNat ((t + 1) % 2) := by rw [show (2 : Int32) = Int32.ofNat 2 from rfl, z_rem (by omega) (by omega)]
    have hz : (Int32.ofNat ((t + 1) % 2) = 0) ↔ (t + 1) % 2 = 0 := z_eq (b := 0) (by omega) (by omega)
    have fin : ∀ s0 : Int32, s0 = zb (decide ((t + 1) % 2 = 0)) → M_duel_b62 a0 a1 a2 (M_duel_b44 a0 a1 a2 f) (Int32.ofNat (t + 1)) s0 m = M_duel_b44 a0 a1 a2 f (Int32.ofNat t) m1 := fun s0 es => by
      subst es
      unfold M_duel_b62
      rw [e1, Option.bind_some, z_addm1 (by omega) (by omega), show t + 1 - 1 = t by omega]
    rw [M_duel_b44, if_pos (show (0 : Int32) < Int32.ofNat (t + 1) from (z_lt (a := 0) (by omega) (by omega)).mpr (by omega)), hrem]
    by_cases h : (t + 1) % 2 = 0
    · rw [if_pos (hz.mpr h)]
      exact fin 1 (by rw [decide_eq_true h]; rfl)
    · rw [if_neg (fun e => h (hz.mp e))]
      exact fin 0 (by rw [decide_eq_false h]; rfl)
end ZDM
