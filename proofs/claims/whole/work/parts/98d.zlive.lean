/-! Layer 2. book: a line lived -/
def zTrl (m : xMem) (τ : zR) : Prop := zT m 118 τ ∧ zU m 118 τ ∧ zH m 6 τ
def zDo (mC mM : xMem) (w : Nat) (mC' mM' : xMem) : Prop := w ≤ 41 ∧ zTrl mC' (mM'.1 2) ∧ zWs (mM'.1 2) ∧ (∀ j, j < 97 ∨ 121 ≤ j → mM'.1 2 j = mM.1 2 j) ∧ (∀ c, c < 118 ∨ 123 ≤ c → mC'.1 c = mC.1 c) ∧ mC'.2 = mC.2 ∧ (∀ c, c ≠ 2 → mM'.1 c = mM.1 c) ∧ mM'.2 = mM.2 ∧ (¬ w = 0 → mM' = mM)
section ZDO
variable {m m' mC mC' mM mM' C0 M0 C1 M1 : xMem} {n p lim q i o b l : Nat} {p2 p3 : Int32} {τ σ : zR}
theorem zDo_no {w : Nat} (hw : w ≤ 41) (T : zTrl mC (mM.1 2)) (hs : zWs (mM.1 2)) : zDo mC mM w mC mM := ⟨hw, T, hs, fun _ _ => rfl, fun _ _ => rfl, rfl, fun _ _ => rfl, rfl, fun _ => rfl⟩
theorem zDo_lend (T : zTrl mC (mM.1 2)) (hc : zCt (mM.1 2)) (hw : zWs (mM.1 2)) (ho : o < zO (mM.1 2)) (hb : b < zB (mM.1 2)) : ∃ w mC' mM', State_lendTo mC 118 6 (Int32.ofNat o) (Int32.ofNat b) = some (Int32.ofNat w, mC') ∧ M_does mM 0 (Int32.ofNat o) (Int32.ofNat b) p3 = some (Int32.ofNat w, mM') ∧ zDo mC mM w mC' mM' := by
  obtain ⟨tT, tU, tH⟩ := id T
  have b6 := hc.1.2
  have o6 := hc.2.1.2
  unfold State_lendTo M_does M_whyLend
  rw [if_pos rfl, z_ix (show o < 6 by omega) (by omega), zi_103 (show o < 302 - 103 by omega), zC_owlAt tH tT hc, zM_owl (fun _ _ => rfl) hc]
  simp only [Option.bind_some]
  rw [tT.2.2.2.2 o ho]
  by_cases hs : mM.1 2 (103 + o) = Int32.ofNat b
  · rw [if_pos hs, if_pos hs]
    simp only [Option.bind_some]
    rw [if_neg (show ¬ (1 : Int32) = 0 by decide)]
    exact ⟨1, mC, mM, rfl, rfl, zDo_no (by omega) T hw⟩
  · rw [if_neg hs, if_neg hs]
    cases hq : zOwl (mM.1 2) (Int32.ofNat b) with
    | some o2 =>
      have ho2 := (zOwl_lt hq).1
      rw [show zN (some o2) = Int32.ofNat o2 from rfl, if_neg (c := Int32.ofNat o2 = -1) (z_nm1 (by omega)), if_neg (c := Int32.ofNat o2 < 0) (z_nn (by omega))]
      simp only [Option.bind_some]
      rw [if_neg (show ¬ (2 : Int32) = 0 by decide)]
      exact ⟨2, mC, mM, rfl, rfl, zDo_no (by omega) T hw⟩
    | none =>
      rw [show zN none = -1 from rfl, if_pos (c := (-1 : Int32) = -1) rfl, if_pos (c := (-1 : Int32) < 0) (by decide)]
      simp only [Option.bind_some, nm]
      rw [if_pos trivial]
      have hτ : ∀ j, (upI mM 2 (103 + o) (Int32.ofNat b)).1 2 j = if j = 103 + o then Int32.ofNat b else mM.1 2 j := fun j => by
        by_cases h : j = 103 + o
        · rw [if_pos h, h, upI_at]
        · rw [if_neg h, upI_nj h]
      refine ⟨0, _, _, rfl, rfl, by omega, ⟨zT_sit hc ho tT hτ, zU_tr2 hc (by rw [upI_ne' (by omega)]) (upI_ne' (by omega)) (upI_ne' (by omega)) (by rw [hτ, if_neg (by omega)]) (by rw [hτ, if_neg (by omega)]) (fun j j1 j2 => by rw [hτ, if_neg (by omega)]) tU, zH_tr hc (fun c h1 h2 => upI_ne' (by omega)) (fun j hj => by rw [hτ, if_neg (by omega)]) tH⟩, ?_, fun j hj => by rw [hτ, if_neg (by omega)], fun c hcc => upI_ne' (by omega), rfl, fun c hcc => upI_ne' hcc, rfl, fun h => absurd rfl h⟩
      obtain ⟨w1, w2, w3, w4⟩ := hw
      unfold zWs
      rw [zO_tr (σ := mM.1 2) (by rw [hτ, if_neg (by omega)]), zB_tr (σ := mM.1 2) (by rw [hτ, if_neg (by omega)]), zC_tr (σ := mM.1 2) (by rw [hτ, if_neg (by omega)]), hτ 97, hτ 98, hτ 100, if_neg (by omega), if_neg (by omega), if_neg (by omega)]
      refine ⟨w1, w2, w3, fun o2 ho2 => ?_⟩
      rw [hτ]
      by_cases h : o2 = o
      · subst h
        rw [if_pos rfl]
        exact ⟨b, hb, rfl⟩
      · rw [if_neg (by omega)]
        exact w4 o2 ho2
theorem zDo_turn {v : Int32} (T : zTrl mC (mM.1 2)) (hc : zCt (mM.1 2)) (hw : zWs (mM.1 2)) (hi : i < zC (mM.1 2)) (hv : v = mM.1 2 98 ^^^ i_shl 1 (Int32.ofNat i)) : zDo mC mM 0 (upI mC 118 1 v) (upI mM 2 98 v) := by
  obtain ⟨tT, tU, tH⟩ := id T
  have c8 := hc.2.2.2.1
  have o6 := hc.2.1.2
  have hτ : ∀ j, (upI mM 2 98 v).1 2 j = if j = 98 then v else mM.1 2 j := fun j => by
    by_cases h : j = 98
    · rw [if_pos h, h, upI_at]
    · rw [if_neg h, upI_nj h]
  refine ⟨by omega, ⟨zT_hush tT hτ, zU_tr2 hc (upI_nj (by omega)) (upI_ne' (by omega)) (upI_ne' (by omega)) (by rw [hτ, if_neg (by omega)]) (by rw [hτ, if_neg (by omega)]) (fun j j1 j2 => by rw [hτ, if_neg (by omega)]) tU, zH_tr hc (fun c h1 h2 => upI_ne' (by omega)) (fun j hj => by rw [hτ, if_neg (by omega)]) tH⟩, ?_, fun j hj => by rw [hτ, if_neg (by omega)], fun c hcc => upI_ne' (by omega), rfl, fun c hcc => upI_ne' hcc, rfl, fun h => absurd rfl h⟩
  obtain ⟨w1, w2, w3, w4⟩ := hw
  unfold zWs
  rw [zO_tr (σ := mM.1 2) (by rw [hτ, if_neg (by omega)]), zB_tr (σ := mM.1 2) (by rw [hτ, if_neg (by omega)]), zC_tr (σ := mM.1 2) (by rw [hτ, if_neg (by omega)]), hτ 97, hτ 98, hτ 100, if_neg (by omega), if_pos rfl, if_neg (by omega)]
  refine ⟨w1, fun k k1 k2 => ?_, w3, fun o2 ho2 => ?_⟩
  · rw [hv, tb_xor, w2 k k1 k2, tb_shl1 (by omega)]
    simp
    omega
  · rw [hτ, if_neg (by omega)]
    exact w4 o2 ho2
theorem zDo_hush (T : zTrl mC (mM.1 2)) (hc : zCt (mM.1 2)) (hw : zWs (mM.1 2)) (hi : i < zC (mM.1 2)) : ∃ w mC' mM', ((State_hushOne mC 118 (Int32.ofNat i)).bind fun r3 => if r3.1 = 0 then some (0, r3.2) else some (11, r3.2)) = some (Int32.ofNat w, mC') ∧ M_does mM 1 (Int32.ofNat i) p2 p3 = some (Int32.ofNat w, mM') ∧ zDo mC mM w mC' mM' := by
  have c8 := hc.2.2.2.1
  unfold State_hushOne M_does
  rw [if_neg (show ¬ (1 : Int32) = 0 by decide), if_pos rfl, T.1.2.1, zM_bit, Option.bind_some, if_pos rfl]
  unfold M_does_b79
  by_cases hs : (i_shr (mM.1 2 98) (Int32.ofNat i)) &&& 1 = 1
  · rw [if_pos hs, decide_eq_true hs, if_pos (show zb true = 1 from rfl), Option.bind_some, if_neg (show ¬ (1 : Int32) = 0 by decide)]
    exact ⟨11, mC, mM, rfl, rfl, zDo_no (by omega) T hw⟩
  · have hbit : tb (mM.1 2 98) i = false := by
      rw [z_bit (show i < 32 by omega)] at hs
      cases hq : tb (mM.1 2 98) i with
      | false => rfl
      | true => rw [hq] at hs; exact absurd rfl hs
    rw [if_neg hs, decide_eq_false hs, if_neg (show ¬ zb false = 1 by decide), nm_eq, Option.bind_some, if_pos rfl, nm_eq, z_orx (show i < 32 by omega) hbit]
    exact ⟨0, _, _, rfl, rfl, zDo_turn T hc hw hi rfl⟩
theorem zDo_let (T : zTrl mC (mM.1 2)) (hc : zCt (mM.1 2)) (hw : zWs (mM.1 2)) (hi : i < zC (mM.1 2)) : ∃ w mC' mM', ((State_letOne mC 118 (Int32.ofNat i)).bind fun r3 => if r3.1 = 0 then some (0, r3.2) else some (21, r3.2)) = some (Int32.ofNat w, mC') ∧ M_does mM 2 (Int32.ofNat i) p2 p3 = some (Int32.ofNat w, mM') ∧ zDo mC mM w mC' mM' := by
  have c8 := hc.2.2.2.1
  unfold State_letOne M_does
  rw [if_neg (show ¬ (2 : Int32) = 0 by decide), if_neg (show ¬ (2 : Int32) = 1 by decide), if_pos rfl, T.1.2.1, zM_bit, Option.bind_some, if_neg (show ¬ (2 : Int32) = 1 by decide)]
  unfold M_does_b79
  by_cases hs : (i_shr (mM.1 2 98) (Int32.ofNat i)) &&& 1 = 0
  · have h1 : ¬ (i_shr (mM.1 2 98) (Int32.ofNat i)) &&& 1 = 1 := by rw [hs]; decide
    rw [if_pos hs, decide_eq_false h1, if_pos (show zb false = 0 from rfl), Option.bind_some, if_neg (show ¬ (1 : Int32) = 0 by decide)]
    exact ⟨21, mC, mM, rfl, rfl, zDo_no (by omega) T hw⟩
  · have hbit : tb (mM.1 2 98) i = true := by
      rw [z_bit (show i < 32 by omega)] at hs
      cases hq : tb (mM.1 2 98) i with
      | false => rw [hq] at hs; exact absurd rfl hs
      | true => rfl
    have h1 : (i_shr (mM.1 2 98) (Int32.ofNat i)) &&& 1 = 1 := by rw [z_bit (show i < 32 by omega), hbit]; rfl
    rw [if_neg hs, decide_eq_true h1, if_neg (show ¬ zb true = 0 by decide), nm_eq, Option.bind_some, if_pos rfl, nm_eq, z_andx (show i < 32 by omega) hbit]
    exact ⟨0, _, _, rfl, rfl, zDo_turn T hc hw hi rfl⟩
theorem zDo_shout {x y : Int32} (T : zTrl mC (mM.1 2)) (hc : zCt (mM.1 2)) (w3 : zr (mM.1 2 3) 2 9) (w4 : zr (mM.1 2 4) 2 9) (hw : zWs (mM.1 2)) (l1 : 1 ≤ n) (l30 : n ≤ 30) : ∃ w mC' mM', ((House_hasCell mC 6 x y).bind fun r5 => if r5 = 0 then some ((39 : Int32), mC) else (State_shoutIn mC 118 x y (Int32.ofNat n)).bind fun r6 => if r6.1 = 0 then some (0, r6.2) else some (31, r6.2)) = some (Int32.ofNat w, mC') ∧ M_does mM 3 x y (Int32.ofNat n) = some (Int32.ofNat w, mM') ∧ zDo mC mM w mC' mM' := by
  obtain ⟨tT, tU, tH⟩ := id T
  have b6 := hc.1.2
  have o6 := hc.2.1.2
  unfold M_does
  rw [if_neg (show ¬ (3 : Int32) = 0 by decide), if_neg (show ¬ (3 : Int32) = 1 by decide), if_neg (show ¬ (3 : Int32) = 2 by decide), if_pos rfl, zC_hasCell tH, zM_isCell (σ := mM.1 2) rfl rfl ⟨by have := w3.1; omega, by have := w3.2; omega⟩ ⟨by have := w4.1; omega, by have := w4.2; omega⟩, Option.bind_some, Option.bind_some]
  cases hx : (zIsI (mM.1 2 3) x && zIsI (mM.1 2 4) y) with
  | false =>
    rw [if_pos (show zb false = 0 from rfl), if_pos (show zb false = 0 from rfl)]
    exact ⟨39, mC, mM, rfl, rfl, zDo_no (by omega) T hw⟩
  | true =>
    rw [if_neg (show ¬ zb true = 0 by decide), if_neg (show ¬ zb true = 0 by decide)]
    unfold State_shoutIn State_isShouted
    rw [tT.2.2.1]
    by_cases hs : 0 < mM.1 2 100
    · rw [if_pos hs, if_pos hs, Option.bind_some, if_neg (show ¬ (1 : Int32) = 0 by decide), Option.bind_some, if_neg (show ¬ (1 : Int32) = 0 by decide)]
      exact ⟨31, mC, mM, rfl, rfl, zDo_no (by omega) T hw⟩
    · rw [if_neg hs, if_neg hs]
      unfold M_cries
      simp only [Option.bind_some, nm, if_true]
      generalize e1 : upI mC (118 + 1) 0 1 = p1
      generalize e2 : upI p1 (118 + 1) 1 x = p2
      generalize e3 : upI p2 (118 + 1) 2 y = p3
      generalize e4 : upI p3 (118 + 1) 3 (Int32.ofNat n) = p4
      generalize e5 : upI p4 118 2 (p4.1 118 2 + 1) = p5
      generalize f1 : upI mM 2 101 x = q1
      generalize f2 : upI q1 2 102 y = q2
      generalize f3 : upI q2 2 100 (Int32.ofNat n) = q3
      generalize f4 : upI q3 2 99 (q3.1 2 99 + 1) = q4
      have c5 : ∀ c, c ≠ 118 → c ≠ 119 → p5.1 c = mC.1 c := fun c c1 c2 => by rw [← e5, upI_ne' c1, ← e4, upI_ne' c2, ← e3, upI_ne' c2, ← e2, upI_ne' c2, ← e1, upI_ne' c2]
      have c4 : p4.1 118 = mC.1 118 := by rw [← e4, upI_ne' (by omega), ← e3, upI_ne' (by omega), ← e2, upI_ne' (by omega), ← e1, upI_ne' (by omega)]
      have c6 : ∀ j, j ≠ 2 → p5.1 118 j = mC.1 118 j := fun j hj => by rw [← e5, upI_nj hj, c4]
      have c7 : p5.1 118 2 = mC.1 118 2 + 1 := by rw [← e5, upI_at, c4]
      have c8 : p5.1 119 = p4.1 119 := by rw [← e5, upI_ne' (by omega)]
      have c9 : p4.1 119 0 = 1 ∧ p4.1 119 1 = x ∧ p4.1 119 2 = y ∧ p4.1 119 3 = Int32.ofNat n := by
        refine ⟨?_, ?_, ?_, ?_⟩
        · rw [← e4, upI_nj (by omega), ← e3, upI_nj (by omega), ← e2, upI_nj (by omega), ← e1, upI_at]
        · rw [← e4, upI_nj (by omega), ← e3, upI_nj (by omega), ← e2, upI_at]
        · rw [← e4, upI_nj (by omega), ← e3, upI_at]
        · rw [← e4, upI_at]
      have cL : p5.2 = mC.2 := by rw [← e5, ← e4, ← e3, ← e2, ← e1]; rfl
      have g1 : ∀ c, c ≠ 2 → q4.1 c = mM.1 c := fun c h => by rw [← f4, upI_ne' h, ← f3, upI_ne' h, ← f2, upI_ne' h, ← f1, upI_ne' h]
      have g2 : q4.2 = mM.2 := by rw [← f4, ← f3, ← f2, ← f1]; rfl
      have hτ : ∀ j, j ≠ 99 → j ≠ 100 → j ≠ 101 → j ≠ 102 → q4.1 2 j = mM.1 2 j := fun j j1 j2 j3 j4 => by
        rw [← f4, upI_nj j1, ← f3, upI_nj j2, ← f2, upI_nj j4, ← f1, upI_nj j3]
      have h99 : q4.1 2 99 = mM.1 2 99 + 1 := by
        rw [← f4, upI_at, ← f3, upI_nj (by omega), ← f2, upI_nj (by omega), ← f1, upI_nj (by omega)]
      have h100 : q4.1 2 100 = Int32.ofNat n := by rw [← f4, upI_nj (by omega), ← f3, upI_at]
      have h101 : q4.1 2 101 = x := by rw [← f4, upI_nj (by omega), ← f3, upI_nj (by omega), ← f2, upI_nj (by omega), ← f1, upI_at]
      have h102 : q4.1 2 102 = y := by rw [← f4, upI_nj (by omega), ← f3, upI_nj (by omega), ← f2, upI_at]
      have hOO : zO (q4.1 2) = zO (mM.1 2) := zO_tr (hτ 1 (by omega) (by omega) (by omega) (by omega))
      refine ⟨0, p5, q4, rfl, rfl, by omega, ⟨?_, ?_, ?_⟩, ?_, fun j hj => hτ j (by omega) (by omega) (by omega) (by omega), fun c hcc => c5 c (by omega) (by omega), cL, g1, g2, fun h => absurd rfl h⟩
      · obtain ⟨u0, u1, u2, u3, u4⟩ := tT
        unfold zT
        rw [hOO, c6 0 (by omega), c6 1 (by omega), h100, h101, h102, hτ 97 (by omega) (by omega) (by omega) (by omega), hτ 98 (by omega) (by omega) (by omega) (by omega)]
        refine ⟨u0, u1, by rw [show (118 + 1 : Nat) = 119 from rfl, c8]; exact c9.2.2.2, fun _ => ⟨by rw [show (118 + 1 : Nat) = 119 from rfl, c8]; exact c9.1, by rw [show (118 + 1 : Nat) = 119 from rfl, c8]; exact c9.2.1, by rw [show (118 + 1 : Nat) = 119 from rfl, c8]; exact c9.2.2.1⟩, fun o ho => ?_⟩
        rw [c5 (118 + 2) (by omega) (by omega), hτ (103 + o) (by omega) (by omega) (by omega) (by omega)]
        exact u4 o ho
      · unfold zU
        rw [zB_tr (σ := mM.1 2) (hτ 0 (by omega) (by omega) (by omega) (by omega)), c7, h99, tU.1]
        refine ⟨rfl, fun b hb => ?_⟩
        rw [c5 (118 + 3) (by omega) (by omega), c5 (118 + 4) (by omega) (by omega), hτ (109 + b) (by omega) (by omega) (by omega) (by omega), hτ (115 + b) (by omega) (by omega) (by omega) (by omega)]
        exact tU.2 b hb
      · exact zH_tr hc (fun c h1 h2 => c5 c (by omega) (by omega)) (fun j hj => hτ j (by omega) (by omega) (by omega) (by omega)) tH
      · obtain ⟨v1, v2, v3, v4⟩ := hw
        unfold zWs
        rw [hOO, zB_tr (σ := mM.1 2) (hτ 0 (by omega) (by omega) (by omega) (by omega)), zC_tr (σ := mM.1 2) (hτ 2 (by omega) (by omega) (by omega) (by omega)), h100, hτ 97 (by omega) (by omega) (by omega) (by omega), hτ 98 (by omega) (by omega) (by omega) (by omega)]
        refine ⟨v1, v2, ⟨by rw [z_toInt (by omega)]; omega, by rw [z_toInt (by omega)]; omega⟩, fun o ho => ?_⟩
        rw [hτ (103 + o) (by omega) (by omega) (by omega) (by omega)]
        exact v4 o ho
theorem zDo_hour {k : Nat} (T : zTrl mC (mM.1 2)) (hc : zCt (mM.1 2)) (hw : zWs (mM.1 2)) (k1 : 1 ≤ k) (k60 : k ≤ 60) (hr : mC.1 (78 + i) 1 = Int32.ofNat k) (hi : i < 40) : ∃ w mC' mM', (if (400 - (mC.1 118 0)) < (mC.1 (78 + i) 1) then some ((41 : Int32), mC) else Book_liveLine_b136 6 118 (78 + i) 1000 0 mC) = some (Int32.ofNat w, mC') ∧ M_does mM 4 (Int32.ofNat k) p2 p3 = some (Int32.ofNat w, mM') ∧ zDo mC mM w mC' mM' := by
  obtain ⟨tT, tU, tH⟩ := id T
  obtain ⟨h, h4, hh, h400⟩ := z_hr hw.1
  unfold M_does
  rw [if_neg (show ¬ (4 : Int32) = 0 by decide), if_neg (show ¬ (4 : Int32) = 1 by decide), if_neg (show ¬ (4 : Int32) = 2 by decide), if_neg (show ¬ (4 : Int32) = 3 by decide), tT.1, hr, h400, hh, z_add]
  by_cases hq : 400 < h + k
  · rw [if_pos ((z_lt (by omega) (by omega)).mpr (by omega)), if_pos (show 400 < Int32.ofNat (h + k) from (z_lt (a := 400) (by omega) (by omega)).mpr hq)]
    exact ⟨41, mC, mM, rfl, rfl, zDo_no (by omega) T hw⟩
  · rw [if_neg (fun e => by have := (z_lt (by omega) (by omega)).mp e; omega), if_neg (show ¬ 400 < Int32.ofNat (h + k) from fun e => hq ((z_lt (a := 400) (by omega) (by omega)).mp e)), zM_goesOn rfl hc hh h4 (by omega), Option.bind_some, show min k (400 - h) = k by omega]
    refine z_loopX (fun f j m => Book_liveLine_b136 6 118 (78 + i) f (Int32.ofNat j) m) k (fun j m => zTri mC m (zIt (mM.1 2) j)) (fun r => ∃ w mC' mM', r = some (Int32.ofNat w, mC') ∧ some ((0 : Int32), upR mM 2 (zIt (mM.1 2) k)) = some (Int32.ofNat w, mM') ∧ zDo mC mM w mC' mM') (fun f j m1 hj hI => ?_) (fun f m1 hI => ?_) k 0 1000 mC (by omega) (by omega) ⟨tT, tU, tH, fun _ _ => rfl, rfl⟩
    · obtain ⟨m', e1, e2⟩ := zTri_hr (zIt_j (j := 0) (by omega) hc).2 hI
      right
      refine ⟨m', e2, ?_⟩
      rw [Book_liveLine_b136, hI.2.2.2.1 (78 + i) (by omega), hr, if_pos ((z_lt (by omega) (by omega)).mpr hj), e1, Option.bind_some, z_s]
    · obtain ⟨g1, g2, g3, g4, g5⟩ := hI
      rw [Book_liveLine_b136, g4 (78 + i) (by omega), hr, if_neg (fun e => Nat.lt_irrefl _ ((z_lt (by omega) (by omega)).mp e))]
      refine ⟨0, m1, _, rfl, rfl, by omega, ⟨?_, ?_, ?_⟩, ?_, fun j hj => ?_, g4, g5, fun c hcc => upR_ne' hcc, rfl, fun h => absurd rfl h⟩
      · rw [upR_at']; exact g1
      · rw [upR_at']; exact g2
      · rw [upR_at']; exact g3
      · rw [upR_at']; exact zWs_it hc hw hh (by omega)
      · rw [upR_at']; exact (zIt_j hj hc).1
/-- a line -/
theorem zDo_line (T : zTrl mC (mM.1 2)) (hc : zCt (mM.1 2)) (w3 : zr (mM.1 2 3) 2 9) (w4 : zr (mM.1 2 4) 2 9) (hw : zWs (mM.1 2)) (hi : i < 40) (K : zBk (mM.1 2) mC mM i) : ∃ w mC' mM', Book_liveLine mC 6 118 (78 + i) = some (Int32.ofNat w, mC') ∧ M_does mM (mM.1 4 (4 * i)) (mM.1 4 (4 * i + 1)) (mM.1 4 (4 * i + 2)) (mM.1 4 (4 * i + 3)) = some (Int32.ofNat w, mM') ∧ zDo mC mM w mC' mM' := by
  obtain ⟨a, v1, v2, v3, ha, e0, f0, e1, f1, k0, k12, k3, k4⟩ := K
  unfold Book_liveLine
  rw [nm_eq, e0, f0, f1]
  by_cases h0 : a = 0
  · subst h0
    obtain ⟨q1, q2, q3, q4⟩ := k0 rfl
    rw [if_pos (show Int32.ofNat (16 + 0) = 16 from rfl), e1, q3, q4]
    obtain ⟨w, mC', mM', x1, x2, x3⟩ := zDo_lend (p3 := mM.1 4 (4 * i + 3)) T hc hw q1 q2
    exact ⟨w, mC', mM', by rw [x1, Option.bind_some], x2, x3⟩
  by_cases h1 : a = 1
  · subst h1
    rw [if_neg (show ¬ Int32.ofNat (16 + 1) = 16 by decide), if_pos (show Int32.ofNat (16 + 1) = 17 from rfl), e1]
    exact zDo_hush T hc hw (k12 (Or.inl rfl))
  by_cases h2 : a = 2
  · subst h2
    rw [if_neg (show ¬ Int32.ofNat (16 + 2) = 16 by decide), if_neg (show ¬ Int32.ofNat (16 + 2) = 17 by decide), if_pos (show Int32.ofNat (16 + 2) = 18 from rfl), e1]
    exact zDo_let T hc hw (k12 (Or.inr rfl))
  by_cases h3 : a = 3
  · subst h3
    obtain ⟨q1, q2, q3, q4, q5, q6, q7, q8⟩ := k3 rfl
    rw [if_neg (show ¬ Int32.ofNat (16 + 3) = 16 by decide), if_neg (show ¬ Int32.ofNat (16 + 3) = 17 by decide), if_neg (show ¬ Int32.ofNat (16 + 3) = 18 by decide), if_pos (show Int32.ofNat (16 + 3) = 19 from rfl), e1, q5, q6, q7, q8]
    exact zDo_shout T hc w3 w4 hw q3 q4
  · have h4 : a = 4 := by omega
    subst h4
    rw [if_neg (show ¬ Int32.ofNat (16 + 4) = 16 by decide), if_neg (show ¬ Int32.ofNat (16 + 4) = 17 by decide), if_neg (show ¬ Int32.ofNat (16 + 4) = 18 by decide), if_neg (show ¬ Int32.ofNat (16 + 4) = 19 by decide)]
    exact zDo_hour T hc hw (k4 rfl).1 (k4 rfl).2 e1 hi
end ZDO
