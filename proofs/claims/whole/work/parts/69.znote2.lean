/-! Layer 2. note, the call -/
theorem zC_t1 (m : xMem) : Tape_addText m 180 1 = cF [32, 97, 108, 111, 110, 101] m := zC_text _ rfl (by decide) (by decide)
theorem zC_t2 (m : xMem) : Tape_addText m 180 2 = cF [32] m := zC_text _ rfl (by decide) (by decide)
theorem zC_t3 (m : xMem) : Tape_addText m 180 3 = cF [32, 115, 104, 117, 116] m := zC_text _ rfl (by decide) (by decide)
theorem zC_t4 (m : xMem) : Tape_addText m 180 4 = cF [32, 115, 108, 101, 101, 112, 115] m := zC_text _ rfl (by decide) (by decide)
theorem zC_t5 (m : xMem) : Tape_addText m 180 5 = cF [32, 108, 111, 111, 107, 115, 32, 104, 101, 114, 101] m := zC_text _ rfl (by decide) (by decide)
theorem zC_t6 (m : xMem) : Tape_addText m 180 6 = cF [32, 108, 111, 111, 107, 115, 32] m := zC_text _ rfl (by decide) (by decide)
theorem zM_s1 (m : xMem) : M_says m 418431069797 = mF [32, 97, 108, 111, 110, 101] m := by
  rw [← zTx1]; exact zM_says (N := 418431069797) (by omega)
theorem zM_s3 (m : xMem) : M_says m 1936225652 = mF [32, 115, 104, 117, 116] m := by
  rw [← zTx3]; exact zM_says (N := 1936225652) (by omega)
theorem zM_s4 (m : xMem) : M_says m 126909394808947 = mF [32, 115, 108, 101, 101, 112, 115] m := by
  rw [← zTx4]; exact zM_says (N := 126909394808947) (by omega)
theorem zM_s6 (m : xMem) : M_says m 465726040947 = mF [32, 108, 111, 111, 107, 115] m := by
  rw [← zTx6]; exact zM_says (N := 465726040947) (by omega)
theorem zM_s5 (m : xMem) : M_says m 1751478885 = mF [32, 104, 101, 114, 101] m := by
  rw [← zTx5]; exact zM_says (N := 1751478885) (by omega)
theorem zW_said {C0 M0 mC mM : xMem} {n : Nat} {c mw : Int64} (h : zNm c mw) (hn : n + 8 ≤ 32) (hF : zWF2 C0 mC M0 mM) (H : zWn n mC mM) : ∃ n' mC1 mC' mM', n' ≤ n + 8 ∧ cF [32] mC = some mC1 ∧ mC1.2 = mC.2 ∧ Tape_addName mC1 180 c = some mC' ∧ M_says mM mw = some mM' ∧ zWn n' mC' mM' ∧ zWF2 C0 mC' M0 mM' := by
  obtain ⟨a, b, p1, p2, p3, p4⟩ := zW_one (v := Int32.ofNat 32) rfl (by omega) (show n < 32 by omega) hF H
  obtain ⟨n', c', d', q0, q1, q2, q3, q4⟩ := zW_name h (show n + 1 + 7 ≤ 32 by omega) p4 p3
  refine ⟨n', a, c', d', by omega, ?_, by rw [p4.2.1, hF.2.1], q1, ?_, q3, q4⟩
  · rw [cF, p1, Option.bind_some, cF]
  · unfold M_says
    rw [show (32 : Int32) = Int32.ofNat 32 from rfl, p2, Option.bind_some, q2, Option.bind_some]
theorem zP_note : lS_note zRel := by
  intro mC mM x hR
  have hR1 := zRel_thr hR 0
  unfold M_note
  rw [nm_eq]
  generalize upI mM 0 0 0 = m1 at hR1 ⊢
  unfold O_note
  have hc := hR1.1.1
  have b6 := hc.1.2
  have o6 := hc.2.1.2
  obtain ⟨hH, hT, hU, -⟩ := hR1.2.1
  obtain ⟨nb, no, -⟩ := hR1.2.2.1
  have hres := hR1.2.2.2.2.2.2.1
  rw [zC_hasBed hH hc, zM_isBed rfl hc, Option.bind_some, Option.bind_some]
  simp only [zb_0]
  cases hx : zIs (zB (m1.1 2)) x with
  | false => exact ⟨-1, mC, m1, rfl, rfl, hR1⟩
  | true =>
    obtain ⟨b, hb, rfl⟩ := zIs_q hx
    simp only [Bool.true_eq_false, if_false]
    rw [zC_owlAt hH hT hc, Option.bind_some, nm_eq, nm_eq]
    generalize e1 : upI mC 180 1 0 = c0
    generalize e2 : upI m1 0 43 0 = r0
    have hF0 : zWF2 mC c0 m1 r0 := ⟨fun c h1 h2 => by rw [← e1, upI_ne' h1], by rw [← e1]; rfl, fun c h1 h2 => by rw [← e2, upI_ne' h1], fun j hj => by rw [← e2, upI_nj hj], by rw [← e2]; rfl⟩
    have hW0 : zWn 0 c0 r0 := ⟨by omega, by rw [← e1, upI_at]; rfl, by rw [← e2, upI_at]; rfl, fun j hj => by omega⟩
    have hnb : zNm (c0.2 7 b) (r0.2 5 b) := by
      have := nb b hb
      rw [Nat.zero_add] at this
      rw [hF0.2.1, hF0.2.2.2.2]
      exact this
    obtain ⟨n1, c1, r1, l1, p1, p2, W1, F1⟩ := zW_name hnb (by omega) hF0 hW0
    have er1 : ∀ j, j < 109 → r1.1 2 j = m1.1 2 j := fun j _ => by rw [F1.2.2.1 2 (by omega) (by omega)]
    rw [z_ix (show b < 6 by omega) (by omega), Option.bind_some, p1, Option.bind_some, z_ix (show b < 40 by omega) (by omega), Option.bind_some, p2, Option.bind_some, zM_owl er1 hc, Option.bind_some]
    cases ho : zOwl (m1.1 2) (Int32.ofNat b) with
    | none =>
      rw [if_pos (show zN none = -1 from rfl), if_pos (show zN none < 0 by decide), zC_t1, zM_s1]
      obtain ⟨c2, r2, q1, q2, W2, F2⟩ := zW_bytes [32, 97, 108, 111, 110, 101] (by decide) (show n1 + 6 ≤ 32 by omega) F1 W1
      rw [q1, q2, Option.bind_some, Option.bind_some, W2.2.1, W2.2.2.1]
      exact ⟨_, c2, r2, rfl, rfl, zRel_wr hR1 F2 W2⟩
    | some o =>
      have hoo := (zOwl_lt ho).1
      rw [if_neg (show ¬ zN (some o) = -1 from z_nm1 (by omega)), if_neg (show ¬ zN (some o) < 0 from z_nn (by omega)), show zN (some o) = Int32.ofNat o from rfl, zC_t2]
      have hno : zNm (c1.2 8 o) (r1.2 5 (6 + o)) := by
        have := no o hoo
        rw [Nat.zero_add] at this
        rw [F1.2.1, F1.2.2.2.2]
        exact this
      obtain ⟨n2, c2, c3, r3, l2, q1, q2, q3, q4, W3, F3⟩ := zW_said hno (show n1 + 8 ≤ 32 by omega) F1 W1
      have er3 : ∀ j, j < 109 → r3.1 2 j = m1.1 2 j := fun j _ => by rw [F3.2.2.1 2 (by omega) (by omega)]
      have hH3 : zH c3 6 (m1.1 2) := zH_tr hc (fun c h1 h2 => F3.1 c (by omega) (by omega)) (fun _ _ => rfl) hH
      have hT3 : zT c3 33 (m1.1 2) := zT_tr hc (zSame_of (fun c h1 h2 => F3.1 c (by omega) (by omega))) (fun _ _ => rfl) hT
      have hlook := zC_look (a := 0) hH3 hT3 hc hoo hb (by omega)
      have hside := zC_sideFrom (o := o) (a := 0) hH3 hT3 hc hb
      have hshut := zC_shut hH3 hc 0 (h := c3.1 33 0) (by rw [hT3.1]; simp)
      rw [zAdv_0] at hside hshut
      rw [zAdv_0] at hlook
      rw [q1, Option.bind_some, z_ix (show o < 6 by omega) (by omega), Option.bind_some, q2, q3, Option.bind_some, show (0 : Int32) = Int32.ofNat 0 from rfl, hlook, Option.bind_some, hside, Option.bind_some, hshut, Option.bind_some, show (6 + Int32.ofNat o : Int32) = Int32.ofNat (6 + o) from z_add 6 o, z_ix (show 6 + o < 40 by omega) (by omega), Option.bind_some, q4, Option.bind_some, zM_look er3 hc (by omega) (by omega), Option.bind_some, zM_isShut er3, Option.bind_some]
      cases hs : zShut (m1.1 2) with
      | true =>
        rw [if_neg (show ¬ zb true = Int32.ofNat 0 by decide), if_neg (show ¬ zb true = Int32.ofNat 0 by decide), zC_t3, zM_s3]
        obtain ⟨c4, r4, s1, s2, W4, F4⟩ := zW_bytes [32, 115, 104, 117, 116] (by decide) (show n2 + 5 ≤ 32 by omega) F3 W3
        rw [s1, s2, Option.bind_some, Option.bind_some, W4.2.1, W4.2.2.1]
        exact ⟨_, c4, r4, rfl, rfl, zRel_wr hR1 F4 W4⟩
      | false =>
        rw [if_pos (show zb false = Int32.ofNat 0 from rfl), if_pos (show zb false = Int32.ofNat 0 from rfl)]
        have hlk : zLook (m1.1 2) o b = -1 ∨ ∃ q, q < 5 ∧ zLook (m1.1 2) o b = Int32.ofNat q := by
          unfold zLook zSideN
          cases zSeen (m1.1 2) o b with
          | none => exact Or.inl rfl
          | some i => exact Or.inr (zSide_set _ _ _ _)
        rcases hlk with hl | ⟨q, hq, hl⟩
        · rw [hl, if_pos rfl, if_pos (show (-1 : Int32) < Int32.ofNat 0 by decide), zC_t4, zM_s4]
          obtain ⟨c4, r4, s1, s2, W4, F4⟩ := zW_bytes [32, 115, 108, 101, 101, 112, 115] (by decide) (show n2 + 7 ≤ 32 by omega) F3 W3
          rw [s1, s2, Option.bind_some, Option.bind_some, W4.2.1, W4.2.2.1]
          exact ⟨_, c4, r4, rfl, rfl, zRel_wr hR1 F4 W4⟩
        · rw [hl, if_neg (z_nm1 (by omega)), if_neg (show ¬ Int32.ofNat q < Int32.ofNat 0 from z_nn (by omega)), zM_s6]
          obtain ⟨c4, r4, s1, s2, W4, F4⟩ := zW_bytes [32, 108, 111, 111, 107, 115] (by decide) (show n2 + 6 ≤ 32 by omega) F3 W3
          by_cases h4 : q = 4
          · subst h4
            rw [if_pos (show Int32.ofNat 4 = 4 from rfl), s2, Option.bind_some, if_pos (show Int32.ofNat 4 = 4 from rfl), zC_t5, show [32, 108, 111, 111, 107, 115, 32, 104, 101, 114, 101] = [32, 108, 111, 111, 107, 115] ++ [32, 104, 101, 114, 101] from rfl, cF_app, s1, Option.bind_some]
            unfold M_note_b131
            obtain ⟨c5, r5, u1, u2, W5, F5⟩ := zW_bytes [32, 104, 101, 114, 101] (by decide) (show n2 + 6 + 5 ≤ 32 by omega) F4 W4
            rw [zM_s5, u1, u2, Option.bind_some, Option.bind_some, W5.2.1, W5.2.2.1]
            exact ⟨_, c5, r5, rfl, rfl, zRel_wr hR1 F5 W5⟩
          · have hq4 : ¬ Int32.ofNat q = 4 := fun e => h4 ((z_eq (b := 4) (by omega) (by omega)).mp e)
            rw [if_neg hq4, s2, Option.bind_some, if_neg hq4, zC_t6, show [32, 108, 111, 111, 107, 115, 32] = [32, 108, 111, 111, 107, 115] ++ [32] from rfl, cF_app, s1, Option.bind_some]
            have hnr : zNm (c4.2 4 (12 + q)) (r4.2 6 (12 + q)) := by
              rw [F4.2.1, F4.2.2.2.2]
              exact zNm_res hres (by omega)
            obtain ⟨n5, c5, c6, r6, l5, u1, u2, u3, u4, W6, F6⟩ := zW_said hnr (show n2 + 6 + 8 ≤ 32 by omega) F4 W4
            unfold M_note_b131
            rw [u1, Option.bind_some, show (12 + Int32.ofNat q : Int32) = Int32.ofNat (12 + q) from z_add 12 q, z_ix (show 12 + q < 32 by omega) (by omega), Option.bind_some, Option.bind_some, u2, u3, Option.bind_some, u4, Option.bind_some, W6.2.1, W6.2.2.1]
            exact ⟨_, c6, r6, rfl, rfl, zRel_wr hR1 F6 W6⟩
