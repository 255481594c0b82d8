/-! Layer 2. Rows that are filled; when and worth -/
def zFill (m : xMem) (k lo n : Nat) (f : Nat → Int32) : xMem := (fun a b => if a = k ∧ lo ≤ b ∧ b < lo + n then f (b - lo) else m.1 a b, m.2)
section ZF
variable {m : xMem} {k lo n : Nat} {f : Nat → Int32}
theorem zFill_0 : zFill m k lo 0 f = m := by
  unfold zFill
  refine Prod.ext ?_ rfl
  funext a b
  exact if_neg (by omega)
theorem zFill_s : upI (zFill m k lo n f) k (lo + n) (f n) = zFill m k lo (n + 1) f := by
  unfold zFill upI
  refine Prod.ext ?_ rfl
  funext a b
  show (if a = k ∧ b = lo + n then f n else if a = k ∧ lo ≤ b ∧ b < lo + n then f (b - lo) else m.1 a b) = if a = k ∧ lo ≤ b ∧ b < lo + (n + 1) then f (b - lo) else m.1 a b
  by_cases h : a = k ∧ b = lo + n
  · rw [if_pos h, if_pos ⟨h.1, by omega, by omega⟩, show b - lo = n by omega]
  · rw [if_neg h]
    by_cases h2 : a = k ∧ lo ≤ b ∧ b < lo + n
    · rw [if_pos h2, if_pos ⟨h2.1, h2.2.1, by omega⟩]
    · rw [if_neg h2, if_neg (fun h3 => by
        by_cases hb : b = lo + n
        · exact h ⟨h3.1, hb⟩
        · exact h2 ⟨h3.1, h3.2.1, by omega⟩)]
theorem zFill_ne {a : Nat} (h : a ≠ k) : (zFill m k lo n f).1 a = m.1 a := by
  funext b
  unfold zFill
  exact if_neg (fun h2 => h h2.1)
theorem zFill_in {i : Nat} (h : i < n) : (zFill m k lo n f).1 k (lo + i) = f i := by
  unfold zFill
  show (if k = k ∧ lo ≤ lo + i ∧ lo + i < lo + n then f (lo + i - lo) else m.1 k (lo + i)) = f i
  rw [if_pos ⟨rfl, by omega, by omega⟩, show lo + i - lo = i by omega]
theorem zFill_out {b : Nat} (h : b < lo ∨ lo + n ≤ b) : (zFill m k lo n f).1 k b = m.1 k b := by
  unfold zFill
  exact if_neg (fun h2 => by omega)
theorem zM_tries (m : xMem) : M_tries m = some (zFill m 8 0 24 (fun i => m.1 2 (97 + i))) := by
  unfold M_tries
  have h0 : ∀ m0, m0 = zFill m 8 0 0 (fun i => m.1 2 (97 + i)) → M_tries_b2 1000 0 m0 = some (zFill m 8 0 24 (fun i => m.1 2 (97 + i))) := by
    intro m0 e
    subst e
    refine z_loop (fun fuel i => M_tries_b2 fuel (Int32.ofNat i) (zFill m 8 0 i (fun i => m.1 2 (97 + i)))) 24 _ (fun fuel i hi => ?_) (fun fuel => ?_) 24 0 1000 (by omega) (by omega)
    · rw [M_tries_b2, if_pos (show Int32.ofNat i < 24 from (z_lt (b := 24) (by omega) (by omega)).mpr hi), show (97 + Int32.ofNat i : Int32) = Int32.ofNat (97 + i) from z_add 97 i, z_ix (by omega) (by omega), z_ix (by omega) (by omega)]
      simp only [Option.bind_some, nm, z_s]
      rw [zFill_ne (a := 2) (by omega)]
      have h := zFill_s (m := m) (k := 8) (lo := 0) (n := i) (f := fun i => m.1 2 (97 + i))
      rw [Nat.zero_add] at h
      rw [h]
    · rw [M_tries_b2, if_neg (show ¬ Int32.ofNat 24 < 24 by decide)]
  exact h0 _ zFill_0.symm
theorem zM_back (m : xMem) : M_back m = some (zFill m 2 97 24 (fun i => m.1 8 i)) := by
  unfold M_back
  have h0 : ∀ m0, m0 = zFill m 2 97 0 (fun i => m.1 8 i) → M_back_b2 1000 0 m0 = some (zFill m 2 97 24 (fun i => m.1 8 i)) := by
    intro m0 e
    subst e
    refine z_loop (fun fuel i => M_back_b2 fuel (Int32.ofNat i) (zFill m 2 97 i (fun i => m.1 8 i))) 24 _ (fun fuel i hi => ?_) (fun fuel => ?_) 24 0 1000 (by omega) (by omega)
    · rw [M_back_b2, if_pos (show Int32.ofNat i < 24 from (z_lt (b := 24) (by omega) (by omega)).mpr hi), show (97 + Int32.ofNat i : Int32) = Int32.ofNat (97 + i) from z_add 97 i, z_ix (by omega) (by omega), z_ix (by omega) (by omega)]
      simp only [Option.bind_some, nm, z_s]
      rw [zFill_ne (a := 8) (by omega)]
      have h := zFill_s (m := m) (k := 2) (lo := 97) (n := i) (f := fun i => m.1 8 i)
      rw [h]
    · rw [M_back_b2, if_neg (show ¬ Int32.ofNat 24 < 24 by decide)]
  exact h0 _ zFill_0.symm
/-- what was tried is taken back: nothing is left of it but the model's own copy -/
theorem zM_taken_back {m1 m2 : xMem} (h2 : ∀ j, j < 97 ∨ 121 ≤ j → m2.1 2 j = m1.1 2 j) (h8 : ∀ i, i < 24 → m2.1 8 i = m1.1 2 (97 + i)) : (zFill m2 2 97 24 (fun i => m2.1 8 i)).1 2 = m1.1 2 := by
  funext j
  by_cases h : 97 ≤ j ∧ j < 121
  · obtain ⟨i, rfl⟩ : ∃ i, j = 97 + i := ⟨j - 97, by omega⟩
    rw [zFill_in (by omega), h8 i (by omega)]
  · rw [zFill_out (by omega), h2 j (by omega)]
/-- the model's memory so many hours ahead -/
def zAdvM (m : xMem) (a : Nat) : xMem := (fun c b => if c = 2 then zAdv (m.1 2) a b else m.1 c b, m.2)
theorem zAdvM_0 : zAdvM m 0 = m := by
  unfold zAdvM
  refine Prod.ext ?_ rfl
  funext c b
  show (if c = 2 then m.1 2 b else m.1 c b) = m.1 c b
  split
  · next h => rw [h]
  · rfl
theorem zAdvM_2 {a : Nat} : (zAdvM m a).1 2 = zAdv (m.1 2) a := by
  funext b
  show (if (2 : Nat) = 2 then zAdv (m.1 2) a b else m.1 2 b) = _
  rw [if_pos rfl]
theorem zAdvM_ne {a c : Nat} (h : c ≠ 2) : (zAdvM m a).1 c = m.1 c := by
  funext b
  exact if_neg h
theorem zAdv_s (σ : zR) (a b : Nat) : zAdv σ (a + 1) b = if b = 97 then σ 97 + Int32.ofNat (a + 1) else if b = 100 then 0 else σ b := rfl
theorem zAdvM_s {a : Nat} : upI (upI (zAdvM m a) 2 97 ((zAdvM m a).1 2 97 + 1)) 2 100 0 = zAdvM m (a + 1) := by
  have e97 : (zAdvM m a).1 2 97 = m.1 2 97 + Int32.ofNat a := by rw [zAdvM_2, zAdv_97]
  rw [e97]
  refine Prod.ext ?_ rfl
  funext c b
  show (if c = 2 ∧ b = 100 then 0 else if c = 2 ∧ b = 97 then m.1 2 97 + Int32.ofNat a + 1 else (zAdvM m a).1 c b) = if c = 2 then zAdv (m.1 2) (a + 1) b else m.1 c b
  by_cases hc : c = 2
  · subst hc
    rw [zAdvM_2, if_pos (c := (2 : Nat) = 2) rfl, zAdv_s]
    by_cases h1 : b = 97
    · subst h1
      rw [if_neg (by omega), if_pos ⟨rfl, rfl⟩, if_pos rfl, Int32.add_assoc, z_s]
    · by_cases h2 : b = 100
      · subst h2
        rw [if_pos ⟨rfl, rfl⟩, if_neg (by omega), if_pos rfl]
      · rw [if_neg (fun h => h2 h.2), if_neg (fun h => h1 h.2), if_neg h1, if_neg h2, zAdv_j h1 h2]
  · rw [if_neg (fun h => hc h.1), if_neg (fun h => hc h.1), if_neg hc, zAdvM_ne hc]
end ZF
theorem z_min {x : Int32} {a b : Nat} {y : Int32} (hx : x = Int32.ofNat a) (hy : y = Int32.ofNat b) (ha : a < 2147483648) (hb : b < 2147483648) : i_min x y = Int32.ofNat (min a b) := by
  subst hx; subst hy
  unfold i_min
  by_cases h : b < a
  · rw [if_pos ((z_lt hb ha).mpr h), Nat.min_eq_right (by omega)]
  · rw [if_neg (fun e => h ((z_lt hb ha).mp e)), Nat.min_eq_left (by omega)]
theorem z_hr {x : Int32} (h : zr x 0 400) : ∃ n : Nat, n ≤ 400 ∧ x = Int32.ofNat n ∧ 400 - x = Int32.ofNat (400 - n) := by
  obtain ⟨h1, h2⟩ := h
  refine ⟨x.toNatClampNeg, ?_, z_of h1, ?_⟩
  · show x.toInt.toNat ≤ 400
    omega
  · apply Int32.toInt.inj
    have h3 : x.toNatClampNeg = x.toInt.toNat := rfl
    have h4 : (400 : Int32).toInt = 400 := by decide
    rw [z_toInt (by omega), z_subI (by rw [h4]; omega) (by rw [h4]; omega), h4, h3]
    omega
theorem zWs_adv {σ : zR} {a : Nat} (hw : zWs σ) (hc : zCt σ) {o : Nat} (ho : o < zO σ) : zAdv σ a (103 + o) = Int32.ofNat (zSit σ o) ∧ zSit σ o < zB σ := by
  obtain ⟨e, hb⟩ := zSit_eq hw hc ho
  have := hc.2.1.2
  rw [zAdv_j (by omega) (by omega)]
  exact ⟨e, hb⟩
theorem z_hrs {m : xMem} {h a : Nat} (hh : m.1 2 97 = Int32.ofNat h) : (zAdvM m a).1 2 97 = Int32.ofNat (h + a) := by
  rw [zAdvM_2, zAdv_97, hh, z_add]
theorem zP_when : lS_when zRel := by
  intro mC mM x y hR
  have hR1 := zRel_thr hR 0
  simp only [M_when, nm]
  generalize upI mM 0 0 0 = m1 at hR1 ⊢
  have hc := hR1.1.1
  have hw := hR1.1.2.2.2
  have b6 := hc.1.2
  have o6 := hc.2.1.2
  obtain ⟨hH, hT, hU, -⟩ := hR1.2.1
  unfold O_when
  rw [zC_hasOwl hH hc, zM_isOwl rfl hc, zM_in, z_lt5 (n := 4) (by decide), z_lt5' (n := 4) (by decide), zM_tries]
  simp only [Option.bind_some, zb_0]
  cases hx : zIs (zO (m1.1 2)) x with
  | false => exact ⟨-1, m1, rfl, rfl, hR1⟩
  | true =>
    cases hy : zIs (4 + 1) y with
    | false => exact ⟨-1, m1, rfl, rfl, hR1⟩
    | true =>
      obtain ⟨o, ho, rfl⟩ := zIs_q hx
      obtain ⟨q, hq, rfl⟩ := zIs_q hy
      obtain ⟨h, h4, hh, h400⟩ := z_hr hw.1
      have hb := (zSit_eq hw hc ho).2
      have hbe := (zSit_eq hw hc ho).1
      rw [z_ix (show o < 6 by omega) (by omega)]
      simp only [Bool.true_eq_false, if_false, if_true, Option.bind_some, nm]
      rw [hT.2.2.2.2 o ho, hbe, hT.1, h400, z_min (x := 48) (y := Int32.ofNat (400 - h)) (a := 48) (b := 400 - h) rfl rfl (by omega) (by omega)]
      -- the first hour ahead
      have hfirst : ∃ r : Option Nat, zFst (fun a => decide (zLook (zAdv (m1.1 2) a) o (zSit (m1.1 2) o) = Int32.ofNat q)) (min 48 (400 - h) + 1) = r := ⟨_, rfl⟩
      obtain ⟨r, hr⟩ := hfirst
      have eC : O_when_b64 mC (Int32.ofNat o) (Int32.ofNat q) 1000 (Int32.ofNat (zSit (m1.1 2) o)) (Int32.ofNat (min 48 (400 - h))) 0 = some (zN r) := by
        refine z_loopI (fun fuel i => O_when_b64 mC (Int32.ofNat o) (Int32.ofNat q) fuel (Int32.ofNat (zSit (m1.1 2) o)) (Int32.ofNat (min 48 (400 - h))) (Int32.ofNat i)) (min 48 (400 - h) + 1) _ (fun i => ∀ k, k < i → decide (zLook (zAdv (m1.1 2) k) o (zSit (m1.1 2) o) = Int32.ofNat q) = false) (fun fuel i hi hI => ?_) (fun fuel hI => ?_) (min 48 (400 - h) + 1) 0 1000 (by omega) (by omega) (fun k hk => by omega)
        · rw [O_when_b64, if_neg (by rw [z_lt (by omega) (by omega)]; omega), zC_look hH hT hc ho hb (by omega)]
          simp only [Option.bind_some]
          rw [zC_sideFrom hH hT hc hb]
          simp only [Option.bind_some]
          by_cases he : zLook (zAdv (m1.1 2) i) o (zSit (m1.1 2) o) = Int32.ofNat q
          · left
            rw [if_pos he, ← hr, zFst_eq hi (by rw [decide_eq_true_eq]; exact he) hI]
            rfl
          · right
            rw [if_neg he, z_s]
            refine ⟨fun k hk => ?_, rfl⟩
            by_cases hki : k = i
            · subst hki; rw [decide_eq_false_iff_not]; exact he
            · exact hI k (by omega)
        · rw [O_when_b64, if_pos (by rw [z_lt (by omega) (by omega)]; omega), ← hr, zFst_none.mpr hI]
          rfl
      -- the model
      have m2 : ∃ m2, zFill m1 8 0 24 (fun i => m1.1 2 (97 + i)) = m2 := ⟨_, rfl⟩
      obtain ⟨m2, hm2⟩ := m2
      have e22 : m2.1 2 = m1.1 2 := by rw [← hm2, zFill_ne (by omega)]
      have e28 : ∀ i, i < 24 → m2.1 8 i = m1.1 2 (97 + i) := fun i hi => by
        rw [← hm2, show i = 0 + i by omega, zFill_in hi]; simp
      have hback : ∀ a, M_back (zAdvM m2 a) = some (zFill (zAdvM m2 a) 2 97 24 (fun i => (zAdvM m2 a).1 8 i)) := fun a => zM_back _
      have hkeep : ∀ a, zSM m1 (zFill (zAdvM m2 a) 2 97 24 (fun i => (zAdvM m2 a).1 8 i)) := fun a => by
        have e2 : (zFill (zAdvM m2 a) 2 97 24 (fun i => (zAdvM m2 a).1 8 i)).1 2 = m1.1 2 := zM_taken_back (fun j hj => by rw [zAdvM_2, e22, zAdv_j (by omega) (by omega)]) (fun i hi => by rw [zAdvM_ne (by omega), e28 i hi])
        have e0 : ∀ c, c ≠ 2 → c ≠ 8 → (zFill (zAdvM m2 a) 2 97 24 (fun i => (zAdvM m2 a).1 8 i)).1 c = m1.1 c := fun c h1 h2 => by
          rw [zFill_ne h1, zAdvM_ne h1, ← hm2, zFill_ne h2]
        refine ⟨fun c hc => ?_, fun j hj => ?_, fun c hc => ?_⟩
        · by_cases h2 : c = 2
          · rw [h2]; exact e2
          · exact e0 c h2 (by omega)
        · rw [e0 0 (by omega) (by omega)]
        · rw [← hm2]; rfl
      have hm9 : ∀ a j, j < 109 → (zAdvM m2 a).1 2 j = zAdv (m1.1 2) a j := fun a j _ => by rw [zAdvM_2, e22]
      have eM : ∀ v : Int32, v = -1 → M_when_b33 (Int32.ofNat o) (Int32.ofNat q) 1000 v 0 m2 = some (zN r, zFill (zAdvM m2 (match r with | none => min 48 (400 - h) + 1 | some i => i + 1)) 2 97 24 (fun i => (zAdvM m2 (match r with | none => min 48 (400 - h) + 1 | some i => i + 1)).1 8 i)) := by
        intro v hv
        subst hv
        have h0 : ∀ m0, m0 = zAdvM m2 0 → M_when_b33 (Int32.ofNat o) (Int32.ofNat q) 1000 (-1) 0 m0 = some (zN r, zFill (zAdvM m2 (match r with | none => min 48 (400 - h) + 1 | some i => i + 1)) 2 97 24 (fun i => (zAdvM m2 (match r with | none => min 48 (400 - h) + 1 | some i => i + 1)).1 8 i)) := by
          intro m0 em0
          subst em0
          refine z_loopI (fun fuel i => M_when_b33 (Int32.ofNat o) (Int32.ofNat q) (fuel + 1) (-1) (Int32.ofNat i) (zAdvM m2 i)) (min 48 (400 - h) + 1) _ (fun i => ∀ k, k < i → decide (zLook (zAdv (m1.1 2) k) o (zSit (m1.1 2) o) = Int32.ofNat q) = false) (fun fuel i hi hI => ?_) (fun fuel hI => ?_) (min 48 (400 - h) + 1) 0 999 (by omega) (by omega) (fun k hk => by omega)
          · have hhr : (zAdvM m2 i).1 2 97 = Int32.ofNat (h + i) := z_hrs (by rw [e22]; exact hh)
            rw [M_when_b33, if_neg (show ¬ (48 : Int32) < Int32.ofNat i by rw [show (48 : Int32) = Int32.ofNat 48 from rfl, z_lt (by omega) (by omega)]; omega), if_pos (show (-1 : Int32) < 0 by decide), hhr, if_neg (show ¬ (400 : Int32) < Int32.ofNat (h + i) by rw [show (400 : Int32) = Int32.ofNat 400 from rfl, z_lt (by omega) (by omega)]; omega), zi_103 (by omega)]
            simp only [Option.bind_some]
            rw [hm9 i (103 + o) (by omega), (zWs_adv hw hc ho).1, zM_look (hm9 i) (zCt_adv hc) (by omega) (by omega)]
            simp only [Option.bind_some]
            by_cases he : zLook (zAdv (m1.1 2) i) o (zSit (m1.1 2) o) = Int32.ofNat q
            · left
              have hri : r = some i := by rw [← hr]; exact zFst_eq hi (by rw [decide_eq_true_eq]; exact he) hI
              subst hri
              rw [if_pos he]
              unfold M_when_b78
              simp only [nm]
              rw [zAdvM_s, M_when_b33, if_neg (show ¬ Int32.ofNat i < 0 from z_nn (by omega))]
              unfold M_when_b103
              rw [hback]
              split <;> rfl
            · right
              rw [if_neg he]
              unfold M_when_b78
              simp only [nm]
              rw [zAdvM_s, z_s]
              refine ⟨fun k hk => ?_, rfl⟩
              by_cases hki : k = i
              · subst hki; rw [decide_eq_false_iff_not]; exact he
              · exact hI k (by omega)
          · have hrn : r = none := by rw [← hr]; exact zFst_none.mpr hI
            subst hrn
            have hhr : (zAdvM m2 (min 48 (400 - h) + 1)).1 2 97 = Int32.ofNat (h + (min 48 (400 - h) + 1)) := z_hrs (by rw [e22]; exact hh)
            rw [M_when_b33, hhr]
            unfold M_when_b103
            rw [hback]
            by_cases h48 : 48 < min 48 (400 - h) + 1
            · rw [if_pos (show (48 : Int32) < Int32.ofNat (min 48 (400 - h) + 1) by rw [show (48 : Int32) = Int32.ofNat 48 from rfl, z_lt (by omega) (by omega)]; exact h48)]
              rfl
            · rw [if_neg (show ¬ (48 : Int32) < Int32.ofNat (min 48 (400 - h) + 1) by rw [show (48 : Int32) = Int32.ofNat 48 from rfl, z_lt (by omega) (by omega)]; exact h48), if_pos (show (-1 : Int32) < 0 by decide), if_pos (show (400 : Int32) < Int32.ofNat (h + (min 48 (400 - h) + 1)) by rw [show (400 : Int32) = Int32.ofNat 400 from rfl, z_lt (by omega) (by omega)]; omega)]
              rfl
        exact h0 _ zAdvM_0.symm
      rw [eC, hm2, eM _ rfl]
      exact ⟨_, _, rfl, rfl, zRel_tr zSC_rf (hkeep _) hR1⟩
