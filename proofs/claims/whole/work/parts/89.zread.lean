/-! Layer 2. A text read: what stays, faults, the end -/
def zXC (m m' : xMem) : Prop := (∀ c, c < 3 ∨ (5 ≤ c ∧ c < 43) ∨ 118 ≤ c → m'.1 c = m.1 c) ∧ (∀ j, 2 ≤ j → m'.1 76 j = m.1 76 j) ∧ (∀ c, c = 4 ∨ (6 ≤ c ∧ c < 43) ∨ 118 ≤ c → m'.2 c = m.2 c)
def zXM (m m' : xMem) : Prop := (∀ c, c = 1 ∨ c = 2 ∨ c = 7 ∨ c = 9 ∨ c = 13 ∨ c = 14 ∨ c = 17 ∨ c = 18 ∨ c = 21 ∨ c = 23 → m'.1 c = m.1 c) ∧ (∀ j, j = 2 ∨ j = 19 ∨ j = 24 ∨ (27 ≤ j ∧ j < 32) ∨ j = 35 ∨ j = 37 ∨ j = 40 ∨ j = 41 ∨ j = 43 ∨ j = 47 → m'.1 0 j = m.1 0 j) ∧ (∀ c, c = 6 ∨ c = 22 → m'.2 c = m.2 c) ∧ (∀ j, j < 20 → m'.2 5 j = m.2 5 j)
section ZRD
variable {m m' m'' mC mC' mM mM' C0 M0 C1 M1 : xMem} {n p lim q : Nat} {b : Nat → Nat}
theorem zXC_rf : zXC m m := ⟨fun _ _ => rfl, fun _ _ => rfl, fun _ _ => rfl⟩
theorem zXM_rf : zXM m m := ⟨fun _ _ => rfl, fun _ _ => rfl, fun _ _ => rfl, fun _ _ => rfl⟩
theorem zXC_t (h : zXC m m') (h' : zXC m' m'') : zXC m m'' := ⟨fun c hc => by rw [h'.1 c hc, h.1 c hc], fun j hj => by rw [h'.2.1 j hj, h.2.1 j hj], fun c hc => by rw [h'.2.2 c hc, h.2.2 c hc]⟩
theorem zXM_t (h : zXM m m') (h' : zXM m' m'') : zXM m m'' := ⟨fun c hc => by rw [h'.1 c hc, h.1 c hc], fun j hj => by rw [h'.2.1 j hj, h.2.1 j hj], fun c hc => by rw [h'.2.2.1 c hc, h.2.2.1 c hc], fun j hj => by rw [h'.2.2.2 j hj, h.2.2.2 j hj]⟩
theorem zXC_of (h1 : ∀ c, c ≠ 3 → m'.1 c = m.1 c) (h2 : ∀ c, c ≠ 3 → m'.2 c = m.2 c) : zXC m m' := ⟨fun c hc => h1 c (by omega), fun j _ => by rw [h1 76 (by omega)], fun c hc => h2 c (by omega)⟩
theorem zXM_of (h1 : ∀ c, c ≠ 0 → m'.1 c = m.1 c) (h2 : ∀ j, j ≠ 4 → (j < 11 ∨ 18 < j) → m'.1 0 j = m.1 0 j) (h3 : ∀ c, c ≠ 0 → m'.2 c = m.2 c) : zXM m m' := ⟨fun c hc => h1 c (by omega), fun j hj => h2 j (by omega) (by omega), fun c hc => h3 c (by omega), fun j hj => by rw [h3 5 (by omega)]⟩
/-- the relation behind a text -/
theorem zRel_end {x : Int32} (H : zRel (upI C0 1 1 0) M0) (h2 : M0.1 0 2 = 0) (hC : zXC C0 mC) (hM : zXM M0 mM) (hx : x = mM.1 0 15) : zRel (upI (upI mC 1 1 0) 0 18 x) mM := by
  obtain ⟨r1, r2, r3, r4, r5, r6, r7, r8, r9, r10, r11, r12, r13, r14, r15, r16⟩ := H
  obtain ⟨c1, c76, c2⟩ := hC
  obtain ⟨m1, m0, m2, m5⟩ := hM
  have e2 : mM.1 2 = M0.1 2 := m1 2 (by omega)
  have hc := r1.1
  have b6 := hc.1.2
  have o6 := hc.2.1.2
  have c8 := hc.2.2.2.1
  have d1 : ∀ c, (5 ≤ c ∧ c < 43) ∨ 118 ≤ c → (upI (upI mC 1 1 0) 0 18 x).1 c = (upI C0 1 1 0).1 c := fun c h => by rw [upI_ne' (by omega), upI_ne' (by omega), c1 c (by omega), upI_ne' (by omega)]
  have d0 : ∀ j, j ≠ 18 → (upI (upI mC 1 1 0) 0 18 x).1 0 j = (upI C0 1 1 0).1 0 j := fun j hj => by rw [upI_nj hj, upI_ne' (by omega), c1 0 (by omega), upI_ne' (by omega)]
  have d2 : ∀ c, c = 4 ∨ (6 ≤ c ∧ c < 43) ∨ 118 ≤ c → (upI (upI mC 1 1 0) 0 18 x).2 c = (upI C0 1 1 0).2 c := fun c h => c2 c h
  have d76 : ∀ j, 2 ≤ j → (upI (upI mC 1 1 0) 0 18 x).1 76 j = (upI C0 1 1 0).1 76 j := fun j h => by rw [upI_ne' (by omega), upI_ne' (by omega), c76 j h, upI_ne' (by omega)]
  unfold zRel
  rw [e2]
  refine ⟨r1, zIm_tr hc (fun d h1 h2 => d1 d (by omega)) r2, ⟨fun b hb => ?_, fun o ho => ?_, fun i hi => ?_⟩, zUn_tr hc (fun d h1 h2 => d1 d (by omega)) (m1 7 (by omega)) (m0 24 (by omega)) (fun _ _ => rfl) r4, fun k hk => zImg_tr hk (fun d h1 h2 => d1 d (by omega)) (fun d h1 h2 => d2 d (by omega)) (m1 21 (by omega)) (m1 23 (by omega)) (m2 22 (by omega)) (r5 k hk), ⟨0, by omega, ?_, ?_, fun j hj => by omega⟩, zRes_tr (d2 4 (by omega)) (m2 6 (by omega)) r7, ?_, zLs_tr (by rw [d1 165 (by omega)]) (d1 166 (by omega)) (m0 27 (by omega)) (m1 9 (by omega)) r9, ?_, zLs_tr (by rw [d1 170 (by omega)]) (d1 179 (by omega)) (m0 35 (by omega)) (m1 13 (by omega)) r11, zLs_tr (d0 14 (by omega)) (d1 182 (by omega)) (m0 37 (by omega)) (m1 14 (by omega)) r12, ?_, ?_, ?_, zWr_tr (by rw [d1 180 (by omega)]) (d1 181 (by omega)) (m0 43 (by omega)) (m1 17 (by omega)) r16⟩
  · rw [d2 (6 + 1) (by omega), m5 (0 + b) (by omega)]; exact r3.1 b hb
  · rw [d2 (6 + 2) (by omega), m5 (0 + 6 + o) (by omega)]; exact r3.2.1 o ho
  · rw [d2 (6 + 3) (by omega), m5 (0 + 12 + i) (by omega)]; exact r3.2.2 i hi
  · rw [upI_ne' (by omega), upI_at]; rfl
  · rw [m0 2 (by omega), h2]; rfl
  · unfold zFa; rw [upI_at, hx]
  · unfold zSpN; rw [d1 165 (by omega), m0 28 (by omega)]; exact r10
  · unfold zKe; rw [d0 15 (by omega), d0 16 (by omega), m0 29 (by omega), m0 30 (by omega), m0 31 (by omega)]; exact r13
  · unfold zDu; rw [d0 17 (by omega), m0 40 (by omega), m0 41 (by omega)]; exact r14
  · unfold zTo
    rw [d76 2 (by omega), m0 47 (by omega), m1 18 (by omega)]
    rcases r15 with h | ⟨h1, h3, h4⟩
    · exact Or.inl h
    · exact Or.inr ⟨h1, h3, fun j hj => by rw [d76 (3 + j) (by omega)]; exact h4 j hj⟩
/-- a text is read on -/
def zRd (n lim q : Nat) (b : Nat → Nat) (C0 M0 mC mM : xMem) : Prop := zTk n lim q b mC mM ∧ (mC.1 3 10 = 0 ∧ mM.1 0 15 = 0) ∧ zXC C0 mC ∧ zXM M0 mM
/-- it is wrong -/
def zBad (C0 M0 mC mM : xMem) : Prop := zXC C0 mC ∧ zXM M0 mM ∧ mC.1 3 10 = mM.1 0 15 ∧ ¬ mM.1 0 15 = 0 ∧ mC.1 3 11 = mM.1 0 16
/-- what a good step leaves -/
def zOk (mC mC' mM mM' : xMem) : Prop := (∀ c, c ≠ 3 → mC'.1 c = mC.1 c) ∧ (mC'.1 3 6 = mC.1 3 5) ∧ (∀ c, c ≠ 3 → mC'.2 c = mC.2 c) ∧ (∀ c, c ≠ 0 → mM'.1 c = mM.1 c) ∧ (∀ j, j ≠ 4 → (j < 11 ∨ 14 < j) → mM'.1 0 j = mM.1 0 j) ∧ (∀ c, c ≠ 0 → mM'.2 c = mM.2 c)
/-- the same, and what is got -/
def zOk8 (mC mC' mM mM' : xMem) : Prop := (∀ c, c ≠ 3 → mC'.1 c = mC.1 c) ∧ (mC'.1 3 6 = mC.1 3 5) ∧ (∀ c, c ≠ 3 → mC'.2 c = mC.2 c) ∧ (∀ c, c ≠ 0 → mM'.1 c = mM.1 c) ∧ (∀ j, j ≠ 4 → (j < 11 ∨ 18 < j) → mM'.1 0 j = mM.1 0 j) ∧ (∀ c, c ≠ 0 → mM'.2 c = mM.2 c)
/-- what may be written there without harm -/
def zMw (m m' : xMem) : Prop := zXM m m' ∧ (∀ j, j = 3 ∨ j = 4 ∨ j = 5 ∨ j = 11 ∨ j = 12 ∨ j = 14 ∨ j = 15 → m'.1 0 j = m.1 0 j) ∧ m'.2 0 = m.2 0
def zCw (m m' : xMem) : Prop := zXC m m' ∧ m'.1 3 = m.1 3 ∧ m'.2 3 = m.2 3
theorem zKd_tr {s : Prop} (h1 : mC'.1 3 = mC.1 3) (h2 : mC'.2 3 = mC.2 3) (h3 : mM'.1 0 11 = mM.1 0 11) (h4 : mM'.1 0 14 = mM.1 0 14) (h5 : mM'.2 0 = mM.2 0) (H : zKd mC mM s) : zKd mC' mM' s := by
  unfold zKd
  rw [h1, h2, h3, h4, h5]
  exact H
theorem zRd_M (h : zMw mM mM') (H : zRd n lim q b C0 M0 mC mM) : zRd n lim q b C0 M0 mC mM' := by
  obtain ⟨⟨t1, t2, t3, t4, p, u1, u2, u3, u4, u5⟩, k10, kC, kM⟩ := H
  obtain ⟨hx, h0, hl⟩ := h
  refine ⟨⟨zTpe_tr rfl rfl (h0 3 (by omega)) (hx.1 1 (by omega)) t1, zRes_tr rfl (hx.2.2.1 6 (by omega)) t2, ⟨t3.1, by rw [h0 5 (by omega)]; exact t3.2.1, t3.2.2⟩, by rw [h0 12 (by omega)]; exact t4, p, u1, u2, u3, by rw [h0 4 (by omega)]; exact u4, zKd_tr rfl rfl (h0 11 (by omega)) (h0 14 (by omega)) hl u5⟩, ⟨k10.1, by rw [h0 15 (by omega)]; exact k10.2⟩, kC, zXM_t kM hx⟩
theorem zRd_C (h : zCw mC mC') (H : zRd n lim q b C0 M0 mC mM) : zRd n lim q b C0 M0 mC' mM := by
  obtain ⟨⟨t1, t2, t3, t4, p, u1, u2, u3, u4, u5⟩, k10, kC, kM⟩ := H
  obtain ⟨hx, h3, hl⟩ := h
  refine ⟨⟨zTpe_tr (by rw [hx.1 1 (by omega)]) (hx.1 2 (by omega)) rfl rfl t1, zRes_tr (hx.2.2 4 (by omega)) rfl t2, ⟨by rw [h3]; exact t3.1, t3.2⟩, by rw [h3]; exact t4, p, u1, u2, by rw [h3]; exact u3, u4, zKd_tr h3 hl rfl rfl rfl u5⟩, ⟨by rw [h3]; exact k10.1, k10.2⟩, zXC_t kC hx, kM⟩
theorem zMw_18 {v : Int32} : zMw mM (upI mM 0 18 v) := ⟨zXM_of (fun c hc => upI_ne' hc) (fun j _ hj => upI_nj (by omega)) (fun _ _ => rfl), fun j hj => upI_nj (by omega), rfl⟩
theorem zMw_0 {j : Nat} {v : Int32} (h : 20 ≤ j ∧ j < 24 ∨ 43 < j ∧ j ≠ 47) : zMw mM (upI mM 0 j v) := ⟨⟨fun c hc => upI_ne' (by omega), fun i hi => upI_nj (by omega), fun _ _ => rfl, fun _ _ => rfl⟩, fun i hi => upI_nj (by omega), rfl⟩
theorem zMw_row {c j : Nat} {v : Int32} (h : c = 3 ∨ c = 4 ∨ c = 19) : zMw mM (upI mM c j v) := ⟨⟨fun d hd => upI_ne' (by omega), fun i hi => by rw [upI_ne' (by omega)], fun _ _ => rfl, fun _ _ => rfl⟩, fun i hi => by rw [upI_ne' (by omega)], rfl⟩
theorem zMw_nm {j : Nat} {v : Int64} (h : 20 ≤ j) : zMw mM (upL mM 5 j v) := ⟨⟨fun d hd => rfl, fun i hi => rfl, fun c hc => upL_ne' (by omega), fun i hi => upL_nj (by omega)⟩, fun i hi => rfl, upL_ne' (by omega)⟩
theorem zMw_t (h : zMw m m') (h' : zMw m' m'') : zMw m m'' := ⟨zXM_t h.1 h'.1, fun j hj => by rw [h'.2.1 j hj, h.2.1 j hj], by rw [h'.2.2, h.2.2]⟩
theorem zCw_I {c j : Nat} {v : Int32} (h : 43 ≤ c ∧ c < 118 ∧ c ≠ 76 ∨ c = 76 ∧ j < 2) : zCw mC (upI mC c j v) := by
  refine ⟨⟨fun d hd => upI_ne' (by omega), fun i hi => ?_, fun _ _ => rfl⟩, upI_ne' (by omega), rfl⟩
  by_cases h76 : c = 76
  · subst h76; rw [upI_nj (by omega)]
  · rw [upI_ne' (by omega)]
theorem zCw_L {c j : Nat} {v : Int64} (h : 43 ≤ c ∧ c < 118) : zCw mC (upL mC c j v) := ⟨⟨fun d hd => rfl, fun i hi => rfl, fun d hd => upL_ne' (by omega)⟩, rfl, upL_ne' (by omega)⟩
theorem zCw_t (h : zCw m m') (h' : zCw m' m'') : zCw m m'' := ⟨zXC_t h.1 h'.1, by rw [h'.2.1, h.2.1], by rw [h'.2.2, h.2.2]⟩
/-- on -/
theorem zT_go (H : zRd n lim q b C0 M0 mC mM) : ∃ mC' mM', Tokens_advance mC = some mC' ∧ M_go mM = some mM' ∧ zRd n lim q b C0 M0 mC' mM' ∧ zOk mC mC' mM mM' := by
  obtain ⟨hk, k10, kC, kM⟩ := H
  obtain ⟨a, c, e1, e2, e3, g1, g2, g3, g4, g5, g6, g7⟩ := zGo hk
  refine ⟨a, c, e1, e2, ⟨e3, ⟨by rw [g2 10 (by omega), k10.1], by rw [g6 15 (by omega) (by omega), k10.2]⟩, zXC_t kC (zXC_of g1 g4), zXM_t kM (zXM_of g5 (fun j h4 h => g6 j h4 (by omega)) g7)⟩, g1, g3, g4, g5, g6, g7⟩
theorem zRd_up {q' : Nat} (hq : q' ≤ q) (H : zRd n lim q b C0 M0 mC mM) : zRd n lim q' b C0 M0 mC mM := by
  obtain ⟨⟨t1, t2, t3, t4, p, u1, u2, u3, u4, u5⟩, k⟩ := H
  exact ⟨⟨t1, t2, t3, t4, p, u1, by omega, u3, u4, zKd_mono (fun h => by omega) u5⟩, k⟩
/-- a token that is one takes a byte -/
theorem zRd_s (H : zRd n lim q b C0 M0 mC mM) (h : mM.1 0 11 = 1 ∨ mM.1 0 11 = 2 ∨ mM.1 0 11 = 3) : ∃ p, p ≤ n ∧ q + 1 ≤ p ∧ mC.1 3 3 = Int32.ofNat p ∧ mM.1 0 4 = Int32.ofNat p := by
  obtain ⟨⟨t1, t2, t3, t4, p, u1, u2, u3, u4, u5⟩, k⟩ := H
  refine ⟨p, u1, ?_, u3, u4⟩
  rcases u5 with ⟨a, b', c⟩ | ⟨a, _⟩ | ⟨a, _⟩ | ⟨a, _⟩ | ⟨a, b', c⟩
  · rw [b'] at h; exact absurd h (by decide)
  · exact a
  · exact a
  · exact a
  · rw [b'] at h; exact absurd h (by decide)
theorem zT_go1 (H : zRd n lim q b C0 M0 mC mM) (h : mM.1 0 11 = 1 ∨ mM.1 0 11 = 2 ∨ mM.1 0 11 = 3) : ∃ mC' mM', Tokens_advance mC = some mC' ∧ M_go mM = some mM' ∧ zRd n lim (q + 1) b C0 M0 mC' mM' ∧ zOk mC mC' mM mM' := by
  obtain ⟨p, p1, p2, p3, p4⟩ := zRd_s H h
  obtain ⟨⟨t1, t2, ⟨t3, t5, t6⟩, t4, _⟩, k10, kC, kM⟩ := H
  obtain ⟨a, c, e1, e2, ⟨u1, u2, u3, u4, p', v1, v2, v3, v4, v5⟩, g1, g2, g3, g4, g5, g6, g7⟩ := zGo0 t1 t2 t3 t5 t6 p3 p4 p1
  refine ⟨a, c, e1, e2, ⟨⟨u1, u2, u3, u4, p', v1, by omega, v3, v4, zKd_mono (fun h => by omega) v5⟩, ⟨by rw [g2 10 (by omega), k10.1], by rw [g6 15 (by omega) (by omega), k10.2]⟩, zXC_t kC (zXC_of g1 g4), zXM_t kM (zXM_of g5 (fun j h4 h => g6 j h4 (by omega)) g7)⟩, g1, g3, g4, g5, g6, g7⟩
theorem zT_failAt {k w : Int32} (hk : ¬ k = 0) (H : zRd n lim q b C0 M0 mC mM) (hw : w = mM.1 0 12) : ∃ mC' mM', Tokens_failAt mC k w = some (0, mC') ∧ M_bad mM k = some (0, mM') ∧ zBad C0 M0 mC' mM' := by
  obtain ⟨hk', k10, kC, kM⟩ := H
  unfold Tokens_failAt M_bad
  rw [k10.1, if_pos rfl, nm_eq, nm_eq, nm_eq, nm_eq, upI_nj (show (12 : Nat) ≠ 15 by omega)]
  refine ⟨_, _, rfl, rfl, zXC_t kC (zXC_of (fun c hc => by rw [upI_ne' hc, upI_ne' hc]) (fun _ _ => rfl)), zXM_t kM (zXM_of (fun c hc => by rw [upI_ne' hc, upI_ne' hc]) (fun j _ hj => by rw [upI_nj (by omega), upI_nj (by omega)]) (fun _ _ => rfl)), ?_, ?_, ?_⟩
  · rw [upI_nj (by omega), upI_at, upI_nj (by omega), upI_at]
  · rw [upI_nj (by omega), upI_at]; exact hk
  · rw [upI_at, upI_at, hw]
theorem zT_fail {k : Int32} (hk : ¬ k = 0) (H : zRd n lim q b C0 M0 mC mM) : ∃ mC' mM', Tokens_fail mC k = some (0, mC') ∧ M_bad mM k = some (0, mM') ∧ zBad C0 M0 mC' mM' := by
  obtain ⟨a, c, e1, e2, e3⟩ := zT_failAt hk H H.1.2.2.2.1
  refine ⟨a, c, ?_, e2, e3⟩
  unfold Tokens_fail
  rw [e1, Option.bind_some, rz_0, Option.bind_some]
theorem zT_failB {mM1 : xMem} {k : Int32} (hk : ¬ k = 0) (H : zRd n lim q b C0 M0 mC mM1) (h6 : mC.1 3 6 = mM.1 0 12) (hM : zXM M0 mM) : ∃ mC' mM', Tokens_failBehind mC k = some (0, mC') ∧ M_bad mM k = some (0, mM') ∧ zBad C0 M0 mC' mM' := by
  obtain ⟨hk', k10, kC, _⟩ := H
  unfold Tokens_failBehind Tokens_failAt M_bad
  rw [k10.1, if_pos rfl, nm_eq, nm_eq, nm_eq, nm_eq, upI_nj (show (12 : Nat) ≠ 15 by omega), Option.bind_some, rz_0, Option.bind_some]
  refine ⟨_, _, rfl, rfl, zXC_t kC (zXC_of (fun c hc => by rw [upI_ne' hc, upI_ne' hc]) (fun _ _ => rfl)), zXM_t hM (zXM_of (fun c hc => by rw [upI_ne' hc, upI_ne' hc]) (fun j _ hj => by rw [upI_nj (by omega), upI_nj (by omega)]) (fun _ _ => rfl)), ?_, ?_, ?_⟩
  · rw [upI_nj (by omega), upI_at, upI_nj (by omega), upI_at]
  · rw [upI_nj (by omega), upI_at]; exact hk
  · rw [upI_at, upI_at, h6]
end ZRD
