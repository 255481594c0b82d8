/-! Layer 2. sentence: the call -/
section ZSN
variable {m m' mC mC' mM mM' C0 M0 : xMem} {n lim q j w k k0 f g i d : Nat} {b : Nat → Nat} {l : List zTp3} {σ τ : zR}
/-- the relation behind a sentence told -/
theorem zRel_say (H : zRel mC mM) (h1 : ∀ c, c < 38 ∨ 42 ≤ c → mC'.1 c = mC.1 c) (h2 : mC'.2 = mC.2) (m1 : ∀ c, c ≠ 2 → mM'.1 c = mM.1 c) (m2 : mM'.2 = mM.2) (hσ : ∀ j, j < 121 → mM'.1 2 j = mM.1 2 j) (hS : zSay mC' 38 (mM'.1 2)) : zRel mC' mM' := by
  obtain ⟨r1, r2, r3, r4, r5, r6, r7, r8, r9, r10, r11, r12, r13, r14, r15, r16⟩ := H
  obtain ⟨w1, w2, w3, w4⟩ := r1
  obtain ⟨i1, i2, i3, i4⟩ := r2
  have hc' : zCt (mM'.1 2) := zCt_tr (fun j hj => hσ j (by omega)) w1
  have e0 : mM'.1 0 = mM.1 0 := m1 0 (by omega)
  refine ⟨⟨hc', by rw [hσ 3 (by omega)]; exact w2, by rw [hσ 4 (by omega)]; exact w3, zWs_tr hσ w4 w1⟩, ⟨zH_tr w1 (fun c c1 c2 => h1 c (by omega)) (fun j hj => hσ j (by omega)) i1, zT_tr w1 (zSame_of (fun c c1 c2 => h1 c (by omega))) (fun j hj => hσ j (by omega)) i2, zU_tr w1 (zSame_of (fun c c1 c2 => h1 c (by omega))) (hσ 0 (by omega)) (fun j j1 j2 => hσ j (by omega)) i3, hS⟩, zNms_tr (fun d _ _ => by rw [h2]) (by rw [m2]) (fun j hj => hσ j (by omega)) r3, zUn_tr w1 (fun d d1 d2 => h1 d (by omega)) (m1 7 (by omega)) (by rw [e0]) (fun j hj => hσ j (by omega)) r4, fun k hk => zImg_tr hk (fun d d1 d2 => h1 d (by omega)) (fun d _ _ => by rw [h2]) (m1 21 (by omega)) (m1 23 (by omega)) (by rw [m2]) (r5 k hk), zTp_tr (by rw [h1 1 (by omega)]) (h1 2 (by omega)) (by rw [e0]) (m1 1 (by omega)) r6, zRes_tr (by rw [h2]) (by rw [m2]) r7, ?_, zLs_tr (by rw [h1 165 (by omega)]) (h1 166 (by omega)) (by rw [e0]) (m1 9 (by omega)) r9, ?_, zLs_tr (by rw [h1 170 (by omega)]) (h1 179 (by omega)) (by rw [e0]) (m1 13 (by omega)) r11, zLs_tr (by rw [h1 0 (by omega)]) (h1 182 (by omega)) (by rw [e0]) (m1 14 (by omega)) r12, ?_, ?_, zTo_tr (h1 76 (by omega)) (by rw [e0]) (m1 18 (by omega)) r15, zWr_tr (by rw [h1 180 (by omega)]) (h1 181 (by omega)) (by rw [e0]) (m1 17 (by omega)) r16⟩
  · unfold zFa; rw [h1 0 (by omega), e0]; exact r8
  · unfold zSpN; rw [h1 165 (by omega), e0]; exact r10
  · unfold zKe; rw [h1 0 (by omega), e0]; exact r13
  · unfold zDu; rw [h1 0 (by omega), e0]; exact r14
/-- the model's copy -/
theorem zM_said1 {K : Nat} (hK : 3 * K ≤ 120) (h49 : m.1 0 49 = Int32.ofNat K) : ∃ m', M_sentence_b48 (f + 1) 0 m = some (m.1 0 50, m') ∧ (∀ c, c ≠ 2 → m'.1 c = m.1 c) ∧ m'.2 = m.2 ∧ (∀ j, j < 121 → m'.1 2 j = m.1 2 j) ∧ m'.1 2 121 = Int32.ofNat K ∧ ∀ v, v < 3 * K → m'.1 2 (122 + v) = m.1 4 v := by
  rw [M_sentence_b48, if_pos rfl, nm_eq, h49]
  refine z_loopX (fun f i m' => M_sentence_b145 f (Int32.ofNat i) m') (3 * K) (fun i m' => (∀ c, c ≠ 2 → m'.1 c = m.1 c) ∧ m'.2 = m.2 ∧ (∀ j, j < 121 → m'.1 2 j = m.1 2 j) ∧ m'.1 2 121 = Int32.ofNat K ∧ ∀ v, v < i → m'.1 2 (122 + v) = m.1 4 v) (fun r => ∃ m', r = some (m.1 0 50, m') ∧ (∀ c, c ≠ 2 → m'.1 c = m.1 c) ∧ m'.2 = m.2 ∧ (∀ j, j < 121 → m'.1 2 j = m.1 2 j) ∧ m'.1 2 121 = Int32.ofNat K ∧ ∀ v, v < 3 * K → m'.1 2 (122 + v) = m.1 4 v) (fun f i m1 hi hI => ?_) (fun f m1 hI => ?_) (3 * K) 0 1000 (upI m 2 121 (Int32.ofNat K)) (by omega) (by omega) ⟨fun c hc => upI_ne' hc, rfl, fun j hj => upI_nj (by omega), upI_at, fun v hv => by omega⟩
  · obtain ⟨a1, a2, a3, a4, a5⟩ := hI
    right
    refine ⟨upI m1 2 (122 + i) (m.1 4 i), ⟨fun c hc => by rw [upI_ne' hc, a1 c hc], a2, fun j hj => by rw [upI_nj (by omega), a3 j hj], by rw [upI_nj (by omega), a4], fun v hv => ?_⟩, ?_⟩
    · by_cases h : v = i
      · rw [h, upI_at]
      · rw [upI_nj (by omega)]; exact a5 v (by omega)
    · rw [M_sentence_b145, a1 0 (by omega), h49, show (3 * Int32.ofNat K : Int32) = Int32.ofNat (3 * K) from z_mul 3 K, if_pos ((z_lt (by omega) (by omega)).mpr hi), z_ix (show i < 160 by omega) (by omega), Option.bind_some, show (122 + Int32.ofNat i : Int32) = Int32.ofNat (122 + i) from z_add 122 i, z_ix (show 122 + i < 302 by omega) (by omega), Option.bind_some, nm_eq, a1 4 (by omega), z_s]
  · obtain ⟨a1, a2, a3, a4, a5⟩ := hI
    rw [M_sentence_b145, a1 0 (by omega), h49, show (3 * Int32.ofNat K : Int32) = Int32.ofNat (3 * K) from z_mul 3 K, if_neg (fun e => Nat.lt_irrefl _ ((z_lt (by omega) (by omega)).mp e))]
    exact ⟨m1, rfl, a1, a2, a3, a4, a5⟩
theorem zSay_mk (h0 : mC.1 71 0 = 1) (hq : zSq mC l) (hm : zSm mM l) (hg : zGdL l) (hv : zVal l k) (hk : k ≤ 20) (hl : l.length ≤ 40) (hσ1 : σ 121 = Int32.ofNat l.length) (hσ : ∀ v, v < 3 * l.length → σ (122 + v) = mM.1 4 v) : zSay mC 71 σ := by
  have hne : 1 ≤ l.length := by
    by_cases h : l = []
    · subst h
      have := hv 0 [] (by omega)
      have e1 : zStack ([] : List Int32) 0 = some 0 := rfl
      have e2 : zStack ([] : List Int32) (0 + 1) = some 1 := rfl
      rw [List.map_nil, List.append_nil, e1, e2] at this
      exact absurd (Option.some.inj this) (by omega)
    · have := List.length_pos_iff.mpr h
      omega
  have hget : ∀ i, i < l.length → ∃ t, l[i]? = some t ∧ t ∈ l := fun i hi => ⟨l[i], List.getElem?_eq_getElem hi, List.getElem_mem hi⟩
  refine Or.inr ⟨h0, l.length, hne, hl, hσ1, hq.1, fun i hi => ?_, ?_⟩
  · obtain ⟨t, ht, hmem⟩ := hget i hi
    obtain ⟨a1, a2, a3⟩ := hq.2 i t ht
    obtain ⟨b1, b2, b3⟩ := hm.2 i t ht
    obtain ⟨g1, g2, g3⟩ := hg t hmem
    rw [show 71 + 1 = 72 from rfl, show 71 + 2 = 73 from rfl, show 71 + 3 = 74 from rfl, a1, a2, a3, hσ (3 * i) (by omega), b1, show 123 + 3 * i = 122 + (3 * i + 1) by omega, hσ (3 * i + 1) (by omega), b2, show 124 + 3 * i = 122 + (3 * i + 2) by omega, hσ (3 * i + 2) (by omega), b3]
    exact ⟨g1, g2, rfl, rfl, rfl, g3⟩
  · have e : (List.range l.length).map (fun i => σ (122 + 3 * i)) = l.map (fun t => zStp t.1) := by
      apply List.ext_getElem?
      intro i
      by_cases hi : i < l.length
      · obtain ⟨t, ht, _⟩ := hget i hi
        rw [List.getElem?_map, List.getElem?_map, List.getElem?_range hi, ht, Option.map_some, Option.map_some, hσ (3 * i) (by omega), (hm.2 i t ht).1]
      · rw [List.getElem?_eq_none (by rw [List.length_map, List.length_range]; omega), List.getElem?_eq_none (by rw [List.length_map]; omega)]
    rw [e]
    have := hv 0 [] (by omega)
    rw [List.append_nil] at this
    rw [this]
    rfl
theorem zP_sentence : lS_sentence zRel := by
  intro mC mM hR
  have hR1 := zRel_thr hR 0
  unfold M_sentence O_sentence
  rw [nm_eq]
  generalize upI mM 0 0 0 = m1 at hR1 ⊢
  obtain ⟨n, r, b, er, HT, r2, r4, r5, rL, rn, r0, hRr⟩ := zM_takenL (L := 200) hR1
  rw [er, Option.bind_some, nm_eq, nm_eq, nm_eq, nm_eq, nm_eq, nm_eq]
  generalize eq6 : upI (upI (upI (upI (upI (upI r 0 15 0) 0 49 0) 0 50 0) 0 51 0) 0 52 1) 0 53 0 = q6
  have q1 : ∀ c, c ≠ 0 → q6.1 c = r.1 c := fun c hc => by rw [← eq6, upI_ne' hc, upI_ne' hc, upI_ne' hc, upI_ne' hc, upI_ne' hc, upI_ne' hc]
  have q2 : ∀ j, j ≠ 15 → j < 49 → q6.1 0 j = r.1 0 j := fun j a c => by rw [← eq6, upI_nj (by omega), upI_nj (by omega), upI_nj (by omega), upI_nj (by omega), upI_nj (by omega), upI_nj a]
  have q15 : q6.1 0 15 = 0 := by rw [← eq6, upI_nj (by omega), upI_nj (by omega), upI_nj (by omega), upI_nj (by omega), upI_nj (by omega), upI_at]
  have q49 : q6.1 0 49 = 0 := by rw [← eq6, upI_nj (by omega), upI_nj (by omega), upI_nj (by omega), upI_nj (by omega), upI_at]
  have q50 : q6.1 0 50 = 0 := by rw [← eq6, upI_nj (by omega), upI_nj (by omega), upI_nj (by omega), upI_at]
  have q51 : q6.1 0 51 = 0 := by rw [← eq6, upI_nj (by omega), upI_nj (by omega), upI_at]
  have q52 : q6.1 0 52 = 1 := by rw [← eq6, upI_nj (by omega), upI_at]
  have q53 : q6.1 0 53 = 0 := by rw [← eq6, upI_at]
  have qL : q6.2 = r.2 := by rw [← eq6]; rfl
  have hX : zXM r q6 := ⟨fun c hc => q1 c (by omega), fun j hj => q2 j (by omega) (by omega), fun c hc => by rw [qL], fun j hj => by rw [qL]⟩
  obtain ⟨cS, mS, eS, eG, RS, s1, s2, s3, s4, s5⟩ := zT_start (lim := 200) (mC := mC) (mM := q6) (by omega) (zTpe_tr rfl rfl (by rw [q2 3 (by omega) (by omega)]) (by rw [q1 1 (by omega)]) HT) (zRes_tr rfl (by rw [qL, rL]) hR1.2.2.2.2.2.2.1) (by rw [q2 5 (by omega) (by omega), r5]; rfl) (by rw [q2 4 (by omega) (by omega), r4]) q15 hX
  have eS' : Tokens_start mC 200 = some cS := eS
  rw [eS', Option.bind_some, eG, Option.bind_some]
  have P : zPh mC r := by
    unfold zPh
    rw [rn 2 (by omega)]
    refine ⟨hR1.1.1, hR1.2.1.1, ?_⟩
    have h := hR1.2.2.1
    unfold zNms at h ⊢
    rw [rL]
    exact h
  unfold Sentence_readAll
  rw [nm_eq, nm_eq]
  have RS2 := zRd_C (zCw_t (zCw_I (c := 71) (j := 1) (v := 0) (by omega)) (zCw_I (c := 71) (j := 2) (v := 0) (by omega))) RS
  generalize e2 : upI (upI cS 71 1 0) 71 2 0 = c2 at RS2 ⊢
  have X0 : zXs n 200 b mC r [] false false 0 1 0 1000 0 [] c2 mS := by
    refine zSy_mk RS2 (by omega) ⟨by rw [← e2, upI_at]; rfl, fun i t h => by cases h⟩ ⟨by rw [s4 49 (by omega) (by omega), q49]; rfl, fun i t h => by cases h⟩ ⟨by rw [s4 51 (by omega) (by omega), q51]; rfl, fun i t h => by cases h⟩ (by rw [s4 52 (by omega) (by omega), q52]; rfl) (by rw [← e2, upI_nj (by omega), upI_at]; rfl) (by rw [s4 50 (by omega) (by omega), q50]; rfl) (by omega) (by show 0 ≤ _; omega) (by show 0 ≤ _; omega) (by omega)
  have badEnd : ∀ (cB mB : xMem), zBad mC r cB mB → ∃ v mC' mM', ((Sentence_readAll_b41 71 6 0 cB).bind fun r2 => (O_endText r2.2).bind fun r3 => if (r3.1 0 18) = 0 then (Sentence_copyFrom r3 38 71).bind fun r4 => some (r4.1 71 1, r4) else some (((-1)) - (r3.1 3 11), r3)) = some (v, mC') ∧ some (-1 - mB.1 0 16, mB) = some (v, mM') ∧ zRel mC' mM' := fun cB mB Bd => by
    have Bd2 := zBad_C (mC' := upI cB 71 0 0) (zCw_I (by omega)) Bd
    obtain ⟨b1, b2, b3, b4, b5⟩ := Bd2
    unfold Sentence_readAll_b41 O_endText
    rw [rz_0, Option.bind_some, nm_eq, upI_at, rz_0, Option.bind_some, Option.bind_some]
    dsimp only
    rw [nm_eq, nm_eq, Option.bind_some, upI_at, upI_ne' (show (3 : Nat) ≠ 1 by omega), if_neg (by rw [b3]; exact b4), upI_ne' (show (3 : Nat) ≠ 0 by omega), upI_ne' (show (3 : Nat) ≠ 1 by omega), b5]
    exact ⟨_, _, _, rfl, rfl, zRel_end hRr r2 b1 b2 b3⟩
  have hc := zCnd (zOne_all P 12 1 (by omega) (by omega)) (by decide) (by decide) (by decide) (by rw [s4 53 (by omega) (by omega)]; exact q53) X0
  have hwit : Int32.ofNat 1 = 1 := rfl
  rw [hwit] at hc
  rcases hc with ⟨o, a, j, k', f', q', new, c3, m3, _, ⟨hQ22, hQ21⟩, y1, y2, y3, y4, y5, y6, y7, y8⟩ | ⟨c3, m3, y1, y2, Bd⟩
  · rw [y1, y2, Option.bind_some]
    dsimp only
    rw [if_neg (show ¬ (1 : Int32) = 0 by decide)]
    rw [List.nil_append] at y4
    obtain ⟨s, hkd⟩ := zRd_kd y4.1
    rcases zKd_end hkd with ⟨a0, a11⟩ | ⟨a0, a11⟩
    · have h8 : c3.1 3 8 = -1 := by
        rcases zKd_word hkd with ⟨_, qq, _⟩ | ⟨_, _, qq⟩
        · rw [a11] at qq; exact absurd qq (by decide)
        · exact qq
      obtain ⟨g, m4, z1, z2, z3, z4, z5⟩ := zB_end y3 a11 h8 y4
      obtain ⟨g', rfl⟩ : ∃ g', g = g' + 1 := ⟨g - 1, by omega⟩
      have hk20 := y4.2.2.2.2.2.2.2.2.1
      have hlen := y4.2.2.2.2.2.2.2.2.2.1
      have hk1 := y4.2.2.2.2.2.2.1
      obtain ⟨m5, u1, u2, u3, u4, u5, u6⟩ := zM_said1 (f := g') (K := new.length) (by omega) z3.1
      rw [if_pos a0, z1, u1, z5]
      unfold Sentence_readAll_b41 O_endText
      rw [rz_1, Option.bind_some, nm_eq, upI_at, rz_1, Option.bind_some, Option.bind_some]
      dsimp only
      have RE := zRd_C (zCw_I (c := 71) (j := 0) (v := 1) (by omega)) z4
      have hEnd := zRel_end (x := 0) hRr r2 RE.2.2.1 RE.2.2.2 RE.2.1.2.symm
      have hS71 : zSay (upI (upI (upI c3 71 0 1) 1 1 0) 0 18 0) 71 (m5.1 2) := by
        refine zSay_mk (l := new) (mM := m4) (k := k') ?_ (zSq_tr (mC := c3) ?_ ?_ ?_ ?_ y4.2.2.1) z3 y7 y8 hk20 (by omega) u5 u6
        · rw [upI_ne' (by omega), upI_ne' (by omega), upI_at]
        · rw [upI_ne' (by omega), upI_ne' (by omega), upI_nj (by omega)]
        · rw [upI_ne' (by omega), upI_ne' (by omega), upI_ne' (by omega)]
        · rw [upI_ne' (by omega), upI_ne' (by omega), upI_ne' (by omega)]
        · rw [upI_ne' (by omega), upI_ne' (by omega), upI_ne' (by omega)]
      rw [nm_eq, nm_eq, Option.bind_some, upI_at, upI_ne' (show (3 : Nat) ≠ 1 by omega), RE.2.1.1, if_pos rfl]
      obtain ⟨c6, v1, v2, v3, v4⟩ := zC_scopy (o := 38) (p := 71) (by omega) hS71
      rw [v1, Option.bind_some]
      have hval : c6.1 71 1 = Int32.ofNat k' := by
        rw [v3 71 (by omega), upI_ne' (by omega), upI_ne' (by omega), upI_nj (by omega)]
        exact hk1
      refine ⟨Int32.ofNat k', c6, m5, by rw [hval], rfl, zRel_say hEnd (fun c hcc => v3 c (by omega)) v4 u2 u3 u4 v2⟩
    · rw [if_neg a0]
      obtain ⟨c4, m4, f1, f2, f3⟩ := zB_badout y3 a11 hQ22 hQ21 y4
      rw [f1, Option.bind_some]
      dsimp only
      rw [if_pos rfl, f2]
      exact badEnd c4 m4 f3
  · rw [y1, y2, Option.bind_some]
    dsimp only
    rw [if_pos rfl]
    exact badEnd c3 m3 Bd
end ZSN
