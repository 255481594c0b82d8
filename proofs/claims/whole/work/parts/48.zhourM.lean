/-! Layer 2. An hour goes -/
def zAt (σ : zR) (b : Nat) : Option Nat := match zOwl σ (Int32.ofNat b) with
  | none => none
  | some o => zSeen σ o b
def zMis (σ : zR) (b i : Nat) : Bool := !decide (zAt σ b = some i) && (zOn σ i && !decide (zLoud σ i b < 5))
def zAcc (x : Int32) (p : Nat → Bool) : Nat → Int32
  | 0 => x
  | n + 1 => if p n then zAcc x p n + 1 else zAcc x p n
def zKn (σ : zR) (b : Nat) : Int32 := if (zAt σ b).isSome then σ (109 + b) + 1 else σ (109 + b)
def zMi (σ : zR) (b : Nat) : Int32 := zAcc (σ (115 + b)) (zMis σ b) (zC σ + 1)
def zHk (σ : zR) (n : Nat) : zR := fun j => if 109 ≤ j ∧ j < 109 + n then zKn σ (j - 109) else if 115 ≤ j ∧ j < 115 + n then zMi σ (j - 115) else σ j
def zHr (σ : zR) : zR := fun j => if j = 97 then σ 97 + 1 else if j = 100 then 0 else zHk σ (zB σ) j
theorem zN_eq {r : Option Nat} {i : Nat} (hi : i < 2147483648) (hr : ∀ k, r = some k → k < 2147483648) : (Int32.ofNat i = zN r) ↔ r = some i := by
  cases r with
  | none =>
    constructor
    · intro h
      exact absurd h (z_nm1 hi)
    · intro h
      cases h
  | some k =>
    rw [show zN (some k) = Int32.ofNat k from rfl, z_eq hi (hr k rfl)]
    constructor
    · intro h; rw [h]
    · intro h; cases h; rfl
theorem zAt_lt {σ : zR} {b i : Nat} (h : zAt σ b = some i) : i ≤ zC σ := by
  unfold zAt at h
  cases hq : zOwl σ (Int32.ofNat b) with
  | none => rw [hq] at h; cases h
  | some o => rw [hq] at h; exact zSeen_lt h
section ZHR
variable {m : xMem} {σ : zR} {k s : Nat}
theorem upI_upR {c j : Nat} {f : Nat → Int32} {v : Int32} : upI (upR m c f) c j v = upR m c (fun i => if i = j then v else f i) := by
  unfold upI upR
  refine Prod.ext ?_ rfl
  funext a b
  show (if a = c ∧ b = j then v else if a = c then f b else m.1 a b) = if a = c then (if b = j then v else f b) else m.1 a b
  by_cases h : a = c
  · by_cases h2 : b = j
    · rw [if_pos ⟨h, h2⟩, if_pos h, if_pos h2]
    · rw [if_neg (fun e => h2 e.2), if_pos h, if_pos h, if_neg h2]
  · rw [if_neg (fun e => h e.1), if_neg h, if_neg h]
theorem upI_upRR {c d j : Nat} {f g : Nat → Int32} {v : Int32} (h : c ≠ d) : upI (upR (upR m c f) d g) c j v = upR (upR m c (fun i => if i = j then v else f i)) d g := by
  unfold upI upR
  refine Prod.ext ?_ rfl
  funext a b
  show (if a = c ∧ b = j then v else if a = d then g b else if a = c then f b else m.1 a b) = if a = d then g b else if a = c then (if b = j then v else f b) else m.1 a b
  by_cases h1 : a = c
  · have h3 : ¬ a = d := fun e => h (h1.symm.trans e)
    by_cases h2 : b = j
    · rw [if_pos ⟨h1, h2⟩, if_neg h3, if_pos h1, if_pos h2]
    · rw [if_neg (fun e => h2 e.2), if_neg h3, if_pos h1, if_neg h3, if_pos h1, if_neg h2]
  · rw [if_neg (fun e => h1 e.1)]
    by_cases h3 : a = d
    · rw [if_pos h3, if_pos h3]
    · rw [if_neg h3, if_neg h1, if_neg h3, if_neg h1]
theorem upR_id {c : Nat} : upR m c (m.1 c) = m := by
  unfold upR
  refine Prod.ext ?_ rfl
  funext a b
  show (if a = c then m.1 c b else m.1 a b) = m.1 a b
  by_cases h : a = c
  · rw [if_pos h, h]
  · rw [if_neg h]
theorem upR_cg {c : Nat} {f g : Nat → Int32} (h : ∀ i, f i = g i) : upR m c f = upR m c g := by
  rw [show f = g from funext h]
/-- the model's inner loop: what is missed by a bed -/
theorem zM_miss {k2 : Int32 → xMem → Option xMem} {f : Nat → Int32} (hf : ∀ j, j < 109 → f j = σ j) (hc : zCt σ) {b : Nat} (hb : b < 6) : M_hour_b57 k2 1000 (Int32.ofNat b) (zN (zAt σ b)) 0 (upR m 2 f) = k2 (Int32.ofNat b + 1) (upR m 2 (fun j => if j = 115 + b then zAcc (f (115 + b)) (zMis σ b) (zC σ + 1) else f j)) := by
  have c8 := hc.2.2.2
  have h0 : ∀ (m0 : xMem) (a : Int32), m0 = upR m 2 (fun j => if j = 115 + b then zAcc (f (115 + b)) (zMis σ b) 0 else f j) → a = Int32.ofNat 0 → M_hour_b57 k2 1000 (Int32.ofNat b) (zN (zAt σ b)) a m0 = k2 (Int32.ofNat b + 1) (upR m 2 (fun j => if j = 115 + b then zAcc (f (115 + b)) (zMis σ b) (zC σ + 1) else f j)) := by
    intro m0 a e ea
    subst e
    subst ea
    refine z_loop (fun fuel i => M_hour_b57 k2 fuel (Int32.ofNat b) (zN (zAt σ b)) (Int32.ofNat i) (upR m 2 (fun j => if j = 115 + b then zAcc (f (115 + b)) (zMis σ b) i else f j))) (zC σ + 1) _ (fun fuel i hi => ?_) (fun fuel => ?_) (zC σ + 1) 0 1000 (by omega) (by omega)
    · have hr : ∀ j, j < 109 → (upR m 2 (fun j => if j = 115 + b then zAcc (f (115 + b)) (zMis σ b) i else f j)).1 2 j = σ j := fun j hj => by
        rw [upR_at']
        show (if j = 115 + b then _ else f j) = σ j
        rw [if_neg (by omega), hf j hj]
      rw [M_hour_b57, hr 2 (by omega), hc.2.2.1, if_neg (by rw [z_lt (by omega) (by omega)]; omega), nm_eq]
      rw [show (115 + Int32.ofNat b : Int32) = Int32.ofNat (115 + b) from z_add 115 b, z_ix (by omega) (by omega), zM_isOn hr hc (show i ≤ zC σ by omega), zM_loud hr hc (show i ≤ zC σ by omega) hb]
      have e2 : ∀ v : Int32, M_hour_b109 k2 (M_hour_b57 k2 fuel) (Int32.ofNat b) (zN (zAt σ b)) (Int32.ofNat i) v ((upR m 2 (fun j => if j = 115 + b then zAcc (f (115 + b)) (zMis σ b) i else f j)).1 2 (115 + b)) (Int32.ofNat (115 + b)) (upR m 2 (fun j => if j = 115 + b then zAcc (f (115 + b)) (zMis σ b) i else f j)) = M_hour_b57 k2 fuel (Int32.ofNat b) (zN (zAt σ b)) (Int32.ofNat (i + 1)) (upR m 2 (fun j => if j = 115 + b then zAcc (f (115 + b)) (zMis σ b) i + v else f j)) := fun v => by
        unfold M_hour_b109
        rw [z_ix (by omega) (by omega)]
        simp only [Option.bind_some]
        rw [nm_eq, upI_upR, z_s, upR_at', if_pos rfl]
        congr 1
        refine upR_cg (fun j => ?_)
        by_cases h : j = 115 + b
        · rw [if_pos h, if_pos h]
        · rw [if_neg h, if_neg h, if_neg h]
      have e3 : zAcc (f (115 + b)) (zMis σ b) (i + 1) = zAcc (f (115 + b)) (zMis σ b) i + (if zMis σ b i then 1 else 0) := by
        rw [zAcc]
        cases zMis σ b i <;> simp
      have e4 : M_hour_b57 k2 fuel (Int32.ofNat b) (zN (zAt σ b)) (Int32.ofNat (i + 1)) (upR m 2 (fun j => if j = 115 + b then zAcc (f (115 + b)) (zMis σ b) (i + 1) else f j)) = M_hour_b57 k2 fuel (Int32.ofNat b) (zN (zAt σ b)) (Int32.ofNat (i + 1)) (upR m 2 (fun j => if j = 115 + b then zAcc (f (115 + b)) (zMis σ b) i + (if zMis σ b i then 1 else 0) else f j)) := by rw [e3]
      rw [e4]
      simp only [Option.bind_some, zb_0]
      by_cases hs : zAt σ b = some i
      · have hm : zMis σ b i = false := by unfold zMis; simp [hs]
        rw [if_pos ((zN_eq (by omega) (fun k hk => by have := zAt_lt hk; omega)).mpr hs), e2, hm]
        rfl
      · rw [if_neg (fun e => hs ((zN_eq (by omega) (fun k hk => by have := zAt_lt hk; omega)).mp e))]
        cases ho : zOn σ i with
        | false =>
          have hm : zMis σ b i = false := by unfold zMis; simp [ho]
          rw [if_pos rfl, e2, hm]
          rfl
        | true =>
          rw [if_neg (show ¬ true = false by decide)]
          by_cases hl : zLoud σ i b < 5
          · have hm : zMis σ b i = false := by unfold zMis; simp [hl]
            rw [if_pos hl, e2, hm]
            rfl
          · have hm : zMis σ b i = true := by unfold zMis; simp [hl, ho, hs]
            rw [if_neg hl, e2, hm]
            rfl
    · rw [M_hour_b57, upR_at', if_pos (show (if (2 : Nat) = 115 + b then _ else f 2) < Int32.ofNat (zC σ + 1) by rw [if_neg (by omega), hf 2 (by omega), hc.2.2.1, z_lt (by omega) (by omega)]; omega)]
  exact h0 _ _ (upR_cg (fun j => by
    by_cases h : j = 115 + b
    · rw [if_pos h, h]; rfl
    · rw [if_neg h])) rfl
theorem zHk_lt {n j : Nat} (h : j < 109) : zHk σ n j = σ j := by
  unfold zHk
  rw [if_neg (by omega), if_neg (by omega)]
/-- the model's hour -/
theorem zM_hour (hc : zCt (m.1 2)) : M_hour m = some (upR m 2 (zHr (m.1 2))) := by
  have b6 := hc.1.2
  have o6 := hc.2.1.2
  have c8 := hc.2.2.2
  unfold M_hour
  have h0 : ∀ (m0 : xMem) (a : Int32), m0 = upR m 2 (zHk (m.1 2) 0) → a = Int32.ofNat 0 → M_hour_b2 1000 a m0 = some (upR m 2 (zHr (m.1 2))) := by
    intro m0 a e ea
    subst e
    subst ea
    refine z_loop (fun fuel i => M_hour_b2 fuel (Int32.ofNat i) (upR m 2 (zHk (m.1 2) i))) (zB (m.1 2)) _ (fun fuel b hb => ?_) (fun fuel => ?_) (zB (m.1 2)) 0 1000 (by omega) (by omega)
    · have hr : ∀ j, j < 109 → (upR m 2 (zHk (m.1 2) b)).1 2 j = m.1 2 j := fun j hj => by rw [upR_at', zHk_lt hj]
      have key : M_hour_b32 (M_hour_b2 fuel) (Int32.ofNat b) (zN (zAt (m.1 2) b)) (upR m 2 (zHk (m.1 2) b)) = M_hour_b2 fuel (Int32.ofNat (b + 1)) (upR m 2 (zHk (m.1 2) (b + 1))) := by
        have e1 : zHk (m.1 2) b (109 + b) = m.1 2 (109 + b) := by unfold zHk; rw [if_neg (by omega), if_neg (by omega)]
        have e2 : ∀ v : Int32, m.1 2 (109 + b) + v = zKn (m.1 2) b → M_hour_b52 (M_hour_b2 fuel) (Int32.ofNat b) (zN (zAt (m.1 2) b)) v (m.1 2 (109 + b)) (Int32.ofNat (109 + b)) (upR m 2 (zHk (m.1 2) b)) = M_hour_b2 fuel (Int32.ofNat (b + 1)) (upR m 2 (zHk (m.1 2) (b + 1))) := by
          intro v hv
          unfold M_hour_b52
          rw [z_ix (by omega) (by omega)]
          simp only [Option.bind_some]
          rw [nm_eq, upI_upR, hv, zM_miss (σ := m.1 2) (fun j hj => by rw [if_neg (by omega), zHk_lt hj]) hc (by omega), z_s]
          congr 1
          refine upR_cg (fun j => ?_)
          by_cases h1 : j = 115 + b
          · subst h1
            rw [if_pos rfl, if_neg (by omega)]
            unfold zHk
            rw [if_neg (by omega), if_neg (by omega), if_neg (by omega), if_pos (by omega), show 115 + b - 115 = b by omega]
            rfl
          · rw [if_neg h1]
            by_cases h2 : j = 109 + b
            · subst h2
              rw [if_pos rfl]
              unfold zHk
              rw [if_pos (by omega), show 109 + b - 109 = b by omega]
            · rw [if_neg h2]
              unfold zHk
              by_cases h3 : 109 ≤ j ∧ j < 109 + b
              · rw [if_pos h3, if_pos (by omega)]
              · rw [if_neg h3, if_neg (c := 109 ≤ j ∧ j < 109 + (b + 1)) (by omega)]
                by_cases h4 : 115 ≤ j ∧ j < 115 + b
                · rw [if_pos h4, if_pos (by omega)]
                · rw [if_neg h4, if_neg (by omega)]
        unfold M_hour_b32
        rw [nm_eq, show (109 + Int32.ofNat b : Int32) = Int32.ofNat (109 + b) from z_add 109 b, z_ix (by omega) (by omega)]
        simp only [Option.bind_some]
        rw [upR_at', e1]
        cases hq : zAt (m.1 2) b with
        | none =>
          rw [← hq, if_pos (by rw [hq]; decide), e2 0 (by unfold zKn; rw [hq]; simp)]
        | some i =>
          have hi := zAt_lt hq
          rw [← hq, if_neg (by rw [hq]; exact z_nn (by omega)), e2 1 (by unfold zKn; rw [hq]; rfl)]
      rw [M_hour_b2, hr 0 (by omega), hc.1.1, if_pos ((z_lt (by omega) (by omega)).mpr hb), zM_owl hr hc]
      simp only [Option.bind_some]
      cases hq : zOwl (m.1 2) (Int32.ofNat b) with
      | none =>
        have ha : zAt (m.1 2) b = none := by unfold zAt; rw [hq]
        rw [ha] at key
        rw [show zN none = -1 from rfl, if_pos (show (-1 : Int32) < 0 by decide)]
        exact key
      | some o =>
        have ho := (zOwl_lt hq).1
        have ha : zAt (m.1 2) b = zSeen (m.1 2) o b := by unfold zAt; rw [hq]
        rw [ha] at key
        rw [show zN (some o) = Int32.ofNat o from rfl, if_neg (z_nn (by omega)), zM_seen hr hc (by omega) (by omega)]
        simp only [Option.bind_some]
        exact key
    · rw [M_hour_b2, upR_at', zHk_lt (by omega), hc.1.1, if_neg (by rw [z_lt (by omega) (by omega)]; omega)]
      simp only [nm]
      rw [upI_upR, upI_upR, upR_at']
      refine congrArg some (upR_cg (fun j => ?_))
      unfold zHr
      by_cases h1 : j = 97
      · subst h1
        rw [if_pos rfl, if_pos rfl, if_neg (by omega), zHk_lt (by omega)]
      · rw [if_neg h1, if_neg h1]
  exact h0 _ _ (by
    rw [show zHk (m.1 2) 0 = m.1 2 from funext (fun j => by unfold zHk; rw [if_neg (by omega), if_neg (by omega)])]
    exact upR_id.symm) rfl
end ZHR
