/-! Layer 2. Images: copies of houses, sentences, names -/
section ZIM
variable {m m' mC mC' mM mM' : xMem} {σ τ : zR}
theorem upRL_n {k d : Nat} {f : Nat → Int64} (h : d ≠ k) : (upRL m k f).2 d = m.2 d := by
  funext b
  unfold upRL
  exact if_neg h
theorem upRL_a {k : Nat} {f : Nat → Int64} : (upRL m k f).2 k = f := by
  funext b
  unfold upRL
  exact if_pos rfl
theorem upRL_1 {k : Nat} {f : Nat → Int64} : (upRL m k f).1 = m.1 := rfl
theorem xcpy_l {f g : Nat → Int64} {n i : Nat} (h : i < n) : xcpy f g n i = f i := by
  unfold xcpy
  exact if_pos h
theorem zC_rows {p o N W : Nat} (hd : o + 1 + N ≤ p ∨ p + 1 + N ≤ o) (hN : N ≤ 8) (hW : W ≤ 6) : ∃ m', House_copyRows m p N W o N W = some m' ∧ (∀ i, i < N → ∀ j, j < W → m'.1 (o + 1 + i) j = m.1 (p + 1 + i) j) ∧ (∀ c, c < o + 1 ∨ o + 1 + N ≤ c → m'.1 c = m.1 c) ∧ m'.2 = m.2 := by
  unfold House_copyRows
  refine z_loopX (fun f i m => House_copyRows_b2 p N W o N W f (Int32.ofNat i) m) N (fun n m' => (∀ i, i < n → ∀ j, j < W → m'.1 (o + 1 + i) j = m.1 (p + 1 + i) j) ∧ (∀ c, c < o + 1 ∨ o + 1 + N ≤ c → m'.1 c = m.1 c) ∧ m'.2 = m.2) (fun res => ∃ m', res = some m' ∧ (∀ i, i < N → ∀ j, j < W → m'.1 (o + 1 + i) j = m.1 (p + 1 + i) j) ∧ (∀ c, c < o + 1 ∨ o + 1 + N ≤ c → m'.1 c = m.1 c) ∧ m'.2 = m.2) (fun f n m1 hn hI => ?_) (fun f m1 hI => ?_) N 0 1000 m (by omega) (by omega) ⟨fun i hi => by omega, fun _ _ => rfl, rfl⟩
  · obtain ⟨i1, i2, i3⟩ := hI
    right
    refine ⟨upR m1 (o + 1 + n) (xcpy (m1.1 (p + 1 + n)) (m1.1 (o + 1 + n)) W), ⟨fun i hi j hj => ?_, fun c hc => ?_, i3⟩, ?_⟩
    · by_cases h : i = n
      · rw [h, upR_at', xcpy_lt hj, i2 (p + 1 + n) (by omega)]
      · rw [upR_ne' (by omega)]
        exact i1 i (by omega) j hj
    · rw [upR_ne' (by omega)]
      exact i2 c hc
    · rw [House_copyRows_b2, if_pos (show Int32.ofNat n < nI N from (z_lt (by omega) (by omega)).mpr hn), if_pos (show Int32.ofNat n < nI N from (z_lt (by omega) (by omega)).mpr hn), z_ix hn (by omega), Option.bind_some, Option.bind_some, Option.bind_some, Option.bind_some, z_min (x := nI W) (y := nI W) (a := W) (b := W) rfl rfl (by omega) (by omega), z_ixc (show min W W ≤ min W W by omega) (by omega), Option.bind_some, nm_eq, z_s, Nat.min_self]
  · rw [House_copyRows_b2, if_neg (show ¬ Int32.ofNat N < nI N from fun e => Nat.lt_irrefl N ((z_lt (by omega) (by omega)).mp e))]
    exact ⟨m1, rfl, hI⟩
theorem zC_hcopy {p o : Nat} (hd : o + 27 ≤ p ∨ p + 27 ≤ o) : ∃ m', House_copyFrom m o p = some m' ∧ (∀ σ, zCt σ → zH m p σ → zH m' o σ) ∧ (∀ i, i < 6 → m'.2 (o + 1) i = m.2 (p + 1) i ∧ m'.2 (o + 2) i = m.2 (p + 2) i) ∧ (∀ i, i < 8 → m'.2 (o + 3) i = m.2 (p + 3) i) ∧ (∀ c, c < o ∨ o + 27 ≤ c → m'.1 c = m.1 c) ∧ (∀ c, c < o + 1 ∨ o + 4 ≤ c → m'.2 c = m.2 c) := by
  unfold House_copyFrom
  simp only [nm]
  generalize e1 : upI m o 0 (m.1 p 0) = m1
  generalize e2 : upI m1 o 1 (m1.1 p 1) = m2
  generalize e3 : upI m2 o 2 (m2.1 p 2) = m3
  generalize e4 : upI m3 o 3 (m3.1 p 3) = m4
  generalize e5 : upI m4 o 6 (m4.1 p 6) = m5
  generalize e6 : upI m5 o 7 (m5.1 p 7) = m6
  generalize e7 : upI m6 o 8 (m6.1 p 8) = m7
  generalize e8 : upRL m7 (o + 1) (xcpy (m7.2 (p + 1)) (m7.2 (o + 1)) 6) = m8
  generalize e9 : upRL m8 (o + 2) (xcpy (m8.2 (p + 2)) (m8.2 (o + 2)) 6) = m9
  generalize e10 : upRL m9 (o + 3) (xcpy (m9.2 (p + 3)) (m9.2 (o + 3)) 8) = m10
  have n1 : ∀ c, c ≠ o → m1.1 c = m.1 c := fun c h => by rw [← e1]; exact upI_ne' h
  have n2 : ∀ c, c ≠ o → m2.1 c = m.1 c := fun c h => by rw [← e2, upI_ne' h]; exact n1 c h
  have n3 : ∀ c, c ≠ o → m3.1 c = m.1 c := fun c h => by rw [← e3, upI_ne' h]; exact n2 c h
  have n4 : ∀ c, c ≠ o → m4.1 c = m.1 c := fun c h => by rw [← e4, upI_ne' h]; exact n3 c h
  have n5 : ∀ c, c ≠ o → m5.1 c = m.1 c := fun c h => by rw [← e5, upI_ne' h]; exact n4 c h
  have n6 : ∀ c, c ≠ o → m6.1 c = m.1 c := fun c h => by rw [← e6, upI_ne' h]; exact n5 c h
  have n7 : ∀ c, c ≠ o → m7.1 c = m.1 c := fun c h => by rw [← e7, upI_ne' h]; exact n6 c h
  have n10 : m10.1 = m7.1 := by rw [← e10, ← e9, ← e8]; rfl
  have l7 : m7.2 = m.2 := by rw [← e7, ← e6, ← e5, ← e4, ← e3, ← e2, ← e1]; rfl
  have g0 : m7.1 o 0 = m.1 p 0 := by rw [← e7, upI_nj (by omega), ← e6, upI_nj (by omega), ← e5, upI_nj (by omega), ← e4, upI_nj (by omega), ← e3, upI_nj (by omega), ← e2, upI_nj (by omega), ← e1, upI_at]
  have g1 : m7.1 o 1 = m.1 p 1 := by rw [← e7, upI_nj (by omega), ← e6, upI_nj (by omega), ← e5, upI_nj (by omega), ← e4, upI_nj (by omega), ← e3, upI_nj (by omega), ← e2, upI_at, n1 p (by omega)]
  have g2 : m7.1 o 2 = m.1 p 2 := by rw [← e7, upI_nj (by omega), ← e6, upI_nj (by omega), ← e5, upI_nj (by omega), ← e4, upI_nj (by omega), ← e3, upI_at, n2 p (by omega)]
  have g3 : m7.1 o 3 = m.1 p 3 := by rw [← e7, upI_nj (by omega), ← e6, upI_nj (by omega), ← e5, upI_nj (by omega), ← e4, upI_at, n3 p (by omega)]
  have g6 : m7.1 o 6 = m.1 p 6 := by rw [← e7, upI_nj (by omega), ← e6, upI_nj (by omega), ← e5, upI_at, n4 p (by omega)]
  have g7 : m7.1 o 7 = m.1 p 7 := by rw [← e7, upI_nj (by omega), ← e6, upI_at, n5 p (by omega)]
  have g8 : m7.1 o 8 = m.1 p 8 := by rw [← e7, upI_at, n6 p (by omega)]
  have la : ∀ i, i < 6 → m10.2 (o + 1) i = m.2 (p + 1) i := fun i hi => by rw [← e10, upRL_n (by omega), ← e9, upRL_n (by omega), ← e8, upRL_a, xcpy_l hi, l7]
  have l8 : ∀ c, c ≠ o + 1 → m8.2 c = m.2 c := fun c h => by rw [← e8, upRL_n h, l7]
  have lb : ∀ i, i < 6 → m10.2 (o + 2) i = m.2 (p + 2) i := fun i hi => by rw [← e10, upRL_n (by omega), ← e9, upRL_a, xcpy_l hi, l8 _ (by omega)]
  have l9 : ∀ c, c ≠ o + 1 → c ≠ o + 2 → m9.2 c = m.2 c := fun c h h2 => by rw [← e9, upRL_n h2, l8 c h]
  have lc : ∀ i, i < 8 → m10.2 (o + 3) i = m.2 (p + 3) i := fun i hi => by rw [← e10, upRL_a, xcpy_l hi, l9 _ (by omega) (by omega)]
  have l10 : ∀ c, c < o + 1 ∨ o + 4 ≤ c → m10.2 c = m.2 c := fun c h => by rw [← e10, upRL_n (by omega), l9 c (by omega) (by omega)]
  obtain ⟨a1, q1, s1, t1, u1⟩ := zC_rows (m := m10) (p := p + 4) (o := o + 4) (N := 6) (W := 3) (by omega) (by omega) (by omega)
  obtain ⟨a2, q2, s2, t2, u2⟩ := zC_rows (m := a1) (p := p + 11) (o := o + 11) (N := 6) (W := 4) (by omega) (by omega) (by omega)
  obtain ⟨a3, q3, s3, t3, u3⟩ := zC_rows (m := a2) (p := p + 18) (o := o + 18) (N := 8) (W := 6) (by omega) (by omega) (by omega)
  rw [q1, Option.bind_some, q2, Option.bind_some, q3, Option.bind_some]
  have lt : a3.2 = m10.2 := by rw [u3, u2, u1]
  have ro : a3.1 o = m7.1 o := by rw [t3 o (by omega), t2 o (by omega), t1 o (by omega), n10]
  refine ⟨a3, rfl, fun σ hc hH => ?_, fun i hi => by rw [lt]; exact ⟨la i hi, lb i hi⟩, fun i hi => by rw [lt]; exact lc i hi, fun c hc => ?_, fun c hc => by rw [lt]; exact l10 c hc⟩
  · obtain ⟨h1, h2, h3, h4, h5, h6, h7, h8, h9, h10⟩ := hH
    have b6 := hc.1.2
    have o6 := hc.2.1.2
    have c8 := hc.2.2.2
    unfold zH
    rw [ro, g0, g1, g2, g3, g6, g7, g8]
    have rb : ∀ i, i < 6 → ∀ j, j < 3 → a3.1 (o + 5 + i) j = m.1 (p + 5 + i) j := fun i hi j hj => by
      rw [show o + 5 + i = o + 4 + 1 + i by omega, t3 _ (by omega), t2 _ (by omega), s1 i hi j hj, n10, n7 _ (by omega)]
    have rw2 : ∀ i, i < 6 → ∀ j, j < 4 → a3.1 (o + 12 + i) j = m.1 (p + 12 + i) j := fun i hi j hj => by
      rw [show o + 12 + i = o + 11 + 1 + i by omega, t3 _ (by omega), s2 i hi j hj, t1 _ (by omega), n10, n7 _ (by omega)]
    have rs : ∀ i, i < 8 → ∀ j, j < 6 → a3.1 (o + 19 + i) j = m.1 (p + 19 + i) j := fun i hi j hj => by
      rw [show o + 19 + i = o + 18 + 1 + i by omega, s3 i hi j hj, t2 _ (by omega), t1 _ (by omega), n10, n7 _ (by omega)]
    refine ⟨h1, h2, h3, h4, h5, h6, h7, fun b hb => ?_, fun b hb => ?_, fun b hb => ?_⟩
    · rw [rb b (by omega) 0 (by omega), rb b (by omega) 1 (by omega), rb b (by omega) 2 (by omega)]; exact h8 b hb
    · rw [rw2 b (by omega) 0 (by omega), rw2 b (by omega) 1 (by omega), rw2 b (by omega) 2 (by omega), rw2 b (by omega) 3 (by omega)]; exact h9 b hb
    · rw [rs b (by omega) 0 (by omega), rs b (by omega) 1 (by omega), rs b (by omega) 2 (by omega), rs b (by omega) 3 (by omega), rs b (by omega) 4 (by omega), rs b (by omega) 5 (by omega)]; exact h10 b hb
  · rw [t3 c (by omega), t2 c (by omega), t1 c (by omega), n10, n7 c (by omega)]
theorem zC_scopy {p o : Nat} (hd : o + 5 ≤ p ∨ p + 5 ≤ o) (H : zSay m p σ) : ∃ m', Sentence_copyFrom m o p = some m' ∧ zSay m' o σ ∧ (∀ c, c < o ∨ o + 4 ≤ c → m'.1 c = m.1 c) ∧ m'.2 = m.2 := by
  unfold Sentence_copyFrom
  have hrz : rz (m.1 p 0) = some (m.1 p 0) := by
    rcases H with H | H
    · rw [H.1]; rfl
    · rw [H.1]; rfl
  rw [hrz, Option.bind_some]
  simp only [nm]
  generalize e1 : upI m o 0 (m.1 p 0) = m1
  generalize e2 : upI m1 o 2 (m1.1 p 2) = m2
  generalize e3 : upR m2 (o + 1) (xcpy (m2.1 (p + 1)) (m2.1 (o + 1)) 40) = m3
  generalize e4 : upR m3 (o + 2) (xcpy (m3.1 (p + 2)) (m3.1 (o + 2)) 40) = m4
  generalize e5 : upR m4 (o + 3) (xcpy (m4.1 (p + 3)) (m4.1 (o + 3)) 40) = m5
  have n1 : ∀ c, c ≠ o → m1.1 c = m.1 c := fun c h => by rw [← e1]; exact upI_ne' h
  have n2 : ∀ c, c ≠ o → m2.1 c = m.1 c := fun c h => by rw [← e2, upI_ne' h]; exact n1 c h
  have n3 : ∀ c, c ≠ o + 1 → m3.1 c = m2.1 c := fun c h => by rw [← e3]; exact upR_ne' h
  have n4 : ∀ c, c ≠ o + 2 → m4.1 c = m3.1 c := fun c h => by rw [← e4]; exact upR_ne' h
  have n5 : ∀ c, c ≠ o + 3 → m5.1 c = m4.1 c := fun c h => by rw [← e5]; exact upR_ne' h
  have k0 : m5.1 o 0 = m.1 p 0 := by rw [n5 o (by omega), n4 o (by omega), n3 o (by omega), ← e2, upI_nj (by omega), ← e1, upI_at]
  have k2 : m5.1 o 2 = m.1 p 2 := by rw [n5 o (by omega), n4 o (by omega), n3 o (by omega), ← e2, upI_at, n1 p (by omega)]
  have r1 : ∀ i, i < 40 → m5.1 (o + 1) i = m.1 (p + 1) i := fun i hi => by rw [n5 _ (by omega), n4 _ (by omega), ← e3, upR_at', xcpy_lt hi, n2 _ (by omega)]
  have r2 : ∀ i, i < 40 → m5.1 (o + 2) i = m.1 (p + 2) i := fun i hi => by rw [n5 _ (by omega), ← e4, upR_at', xcpy_lt hi, n3 _ (by omega), n2 _ (by omega)]
  have r3 : ∀ i, i < 40 → m5.1 (o + 3) i = m.1 (p + 3) i := fun i hi => by rw [← e5, upR_at', xcpy_lt hi, n4 _ (by omega), n3 _ (by omega), n2 _ (by omega)]
  refine ⟨m5, rfl, ?_, fun c hc => ?_, by rw [← e5, ← e4, ← e3, ← e2, ← e1]; rfl⟩
  · unfold zSay
    rw [k0, k2]
    rcases H with H | ⟨q0, n, q1, q2, q3, q4, q5, q6⟩
    · exact Or.inl H
    · refine Or.inr ⟨q0, n, q1, q2, q3, q4, fun i hi => ?_, q6⟩
      rw [r1 i (by omega), r2 i (by omega), r3 i (by omega)]
      exact q5 i hi
  · rw [n5 c (by omega), n4 c (by omega), n3 c (by omega), n2 c (by omega)]
theorem zIm_tr2 {c : Nat} (hc : zCt σ) (hσ : ∀ j, j < 302 → τ j = σ j) (H : zIm m c σ) : zIm m c τ := by
  obtain ⟨a, b, d, e⟩ := H
  have hs : ∀ s, zSame m s m s := fun s => zSame_of (fun _ _ _ => rfl)
  exact ⟨zH_tr hc (fun _ _ _ => rfl) (fun j hj => hσ j (by omega)) a, zT_tr hc (hs _) (fun j hj => hσ j (by omega)) b, zU_tr hc (hs _) (hσ 0 (by omega)) (fun j _ hj => hσ j (by omega)) d, zSay_tr (fun _ _ _ => rfl) (fun j _ hj => hσ j hj) e⟩
theorem zWF_tr2 (hσ : ∀ j, j < 302 → τ j = σ j) (H : zWF σ) : zWF τ := by
  obtain ⟨a, b, c, d⟩ := H
  exact ⟨zCt_tr (fun j hj => hσ j (by omega)) a, by rw [hσ 3 (by omega)]; exact b, by rw [hσ 4 (by omega)]; exact c, zWs_tr (fun j hj => hσ j (by omega)) d a⟩
theorem zC_image {p o : Nat} (hd : o + 38 ≤ p ∨ p + 38 ≤ o) (hc : zCt σ) (H : zIm m p σ) : ∃ m', Image_copyFrom m o p = some m' ∧ zIm m' o σ ∧ m'.1 o 0 = 1 ∧ (∀ i, i < 6 → m'.2 (o + 2) i = m.2 (p + 2) i ∧ m'.2 (o + 3) i = m.2 (p + 3) i) ∧ (∀ i, i < 8 → m'.2 (o + 4) i = m.2 (p + 4) i) ∧ (∀ c, c < o ∨ o + 38 ≤ c → m'.1 c = m.1 c) ∧ (∀ c, c < o + 2 ∨ o + 5 ≤ c → m'.2 c = m.2 c) := by
  unfold Image_copyFrom
  rw [nm_eq]
  generalize e1 : upI m o 0 1 = m1
  have n1 : ∀ c, c ≠ o → m1.1 c = m.1 c := fun c h => by rw [← e1]; exact upI_ne' h
  have l1 : m1.2 = m.2 := by rw [← e1]; rfl
  obtain ⟨a1, q1, s1, t1, u1, v1, w1⟩ := zC_hcopy (m := m1) (p := p + 1) (o := o + 1) (by omega)
  obtain ⟨a2, q2, s2, t2, u2⟩ := zC_copy (m := a1) (o := o + 28) (p := p + 28) (by omega)
  obtain ⟨hH, hT, hU, hS⟩ := H
  have hS2 : zSay a2 (p + 33) σ := zSay_tr (fun d d1 d2 => by rw [t2 d (by omega), v1 d (by omega), n1 d (by omega)]) (fun _ _ _ => rfl) hS
  obtain ⟨a3, q3, s3, t3, u3⟩ := zC_scopy (m := a2) (o := o + 33) (p := p + 33) (by omega) hS2
  rw [q1, Option.bind_some, q2, Option.bind_some, q3, Option.bind_some]
  have lt : a3.2 = a1.2 := by rw [u3, u2]
  have hsp : zSame m (p + 28) a2 (o + 28) := by
    obtain ⟨b0, b1, b2⟩ := s2
    have hh : ∀ c, p + 28 ≤ c → c < p + 33 → a1.1 c = m.1 c := fun c c1 c2 => by rw [v1 c (by omega), n1 c (by omega)]
    refine ⟨fun j hj => ?_, fun j hj => ?_, fun j hj => ⟨?_, ?_, ?_⟩⟩
    · rw [b0 j hj, hh _ (by omega) (by omega)]
    · rw [b1 j hj, hh _ (by omega) (by omega)]
    · rw [(b2 j hj).1, hh _ (by omega) (by omega)]
    · rw [(b2 j hj).2.1, hh _ (by omega) (by omega)]
    · rw [(b2 j hj).2.2, hh _ (by omega) (by omega)]
  have hs3 : zSame a2 (o + 28) a3 (o + 28) := zSame_of (fun c c1 c2 => t3 c (by omega))
  have hT2 : zT a2 (o + 28) σ := zT_tr hc hsp (fun _ _ => rfl) hT
  have hU2 : zU a2 (o + 28) σ := zU_tr hc hsp rfl (fun _ _ _ => rfl) hU
  have hH1 : zH m1 (p + 1) σ := zH_tr hc (fun c c1 c2 => n1 c (by omega)) (fun _ _ => rfl) hH
  refine ⟨a3, rfl, ⟨zH_tr hc (fun c c1 c2 => by rw [t3 c (by omega), t2 c (by omega)]) (fun _ _ => rfl) (s1 σ hc hH1), zT_tr hc hs3 (fun _ _ => rfl) hT2, zU_tr hc hs3 rfl (fun _ _ _ => rfl) hU2, s3⟩, ?_, fun i hi => ?_, fun i hi => ?_, fun c hc => ?_, fun c hc => ?_⟩
  · rw [t3 o (by omega), t2 o (by omega), v1 o (by omega), ← e1, upI_at]
  · rw [lt, ← l1]; exact t1 i hi
  · rw [lt, ← l1]; exact u1 i hi
  · rw [t3 c (by omega), t2 c (by omega), v1 c (by omega), n1 c (by omega)]
  · rw [lt, w1 c (by omega), l1]
end ZIM
