/-! Layer 2. said, the call -/
def zFC (m m' : xMem) : Prop := (∀ c, c ≠ 42 → m'.1 c = m.1 c) ∧ m'.2 = m.2
def zFM (m m' : xMem) : Prop := (∀ c, c ≠ 20 → m'.1 c = m.1 c) ∧ m'.2 = m.2
section ZSE
variable {m m' mC mC' mM mM' C0 M0 : xMem} {σ τ : zR} {b n : Nat}
theorem zFC_w {p : Nat} {v : Int32} (h : zFC C0 mC) : zFC C0 (upI mC (38 + 4) p v) := ⟨fun c hc => by rw [upI_ne' (show c ≠ 38 + 4 by omega)]; exact h.1 c hc, h.2⟩
theorem zFM_w {p : Nat} {v : Int32} (h : zFM M0 mM) : zFM M0 (upI mM 20 p v) := ⟨fun c hc => by rw [upI_ne' hc]; exact h.1 c hc, h.2⟩
def zTr (mC mM : xMem) (t : Nat → Bool) (dp : Nat) : Prop := ∀ q, q < dp → mC.1 (38 + 4) q = zb (t q) ∧ mM.1 20 q = zb (t q)
theorem zTr_w {t : Nat → Bool} {dp dp' p : Nat} {v : Bool} (h : zTr mC mM t dp) (hd : ∀ q, q < dp' → q ≠ p → q < dp) : zTr (upI mC (38 + 4) p (zb v)) (upI mM 20 p (zb v)) (fun q => if q = p then v else t q) dp' := by
  intro q hq
  by_cases hp : q = p
  · subst hp
    rw [upI_at, upI_at]
    show zb v = zb (if q = q then v else t q) ∧ zb v = zb (if q = q then v else t q)
    rw [if_pos rfl]
    exact ⟨rfl, rfl⟩
  · rw [upI_nj hp, upI_nj hp]
    show _ = zb (if q = p then v else t q) ∧ _ = zb (if q = p then v else t q)
    rw [if_neg hp]
    exact h q (hd q hq hp)
theorem zHolds (hR : zRel C0 M0) (hb : b < zB (M0.1 2)) (hn : n ≤ 40) (hn1 : M0.1 2 121 = Int32.ofNat n) (hn2 : C0.1 38 2 = Int32.ofNat n)
    (hw : ∀ i, i < n → 21 ≤ (C0.1 (38 + 1) i).toInt ∧ (C0.1 (38 + 1) i).toInt ≤ 31 ∧ M0.1 2 (122 + 3 * i) = zStp (C0.1 (38 + 1) i) ∧ M0.1 2 (123 + 3 * i) = C0.1 (38 + 2) i ∧ M0.1 2 (124 + 3 * i) = C0.1 (38 + 3) i ∧ (C0.1 (38 + 1) i = 26 → ¬ C0.1 (38 + 3) i = -1))
    (hst : zStack ((List.range n).map (fun i => M0.1 2 (122 + 3 * i))) 0 = some 1) (hC : zFC C0 mC) (hM : zFM M0 mM) :
    ∃ bv mC' mM', Sentence_holds_b35 38 6 33 (Int32.ofNat b) 1000 (zN (zSn (M0.1 2) b)) 0 0 mC = some (zb bv, mC') ∧ M_isSaid_b4 (Int32.ofNat b) 1000 0 0 mM = some (zb bv, mM') ∧ zFC C0 mC' ∧ zFM M0 mM' := by
  have hc := hR.1.1
  obtain ⟨hH, hT, hU, -⟩ := hR.2.1
  refine z_loopX (fun f i (s : (Nat × (Nat → Bool)) × xMem × xMem) => (Sentence_holds_b35 38 6 33 (Int32.ofNat b) f (zN (zSn (M0.1 2) b)) (Int32.ofNat s.1.1) (Int32.ofNat i) s.2.1, M_isSaid_b4 (Int32.ofNat b) f (Int32.ofNat s.1.1) (Int32.ofNat i) s.2.2)) n (fun i s => zStack ((List.range' i (n - i)).map (fun i => M0.1 2 (122 + 3 * i))) s.1.1 = some 1 ∧ s.1.1 ≤ 20 ∧ zTr s.2.1 s.2.2 s.1.2 s.1.1 ∧ zFC C0 s.2.1 ∧ zFM M0 s.2.2) (fun r => ∃ bv mC' mM', r.1 = some (zb bv, mC') ∧ r.2 = some (zb bv, mM') ∧ zFC C0 mC' ∧ zFM M0 mM') (fun f i s hi hI => ?_) (fun f s hI => ?_) n 0 1000 ((0, fun _ => false), mC, mM) (by omega) (by omega) ⟨by rw [Nat.sub_zero, ← List.range_eq_range']; exact hst, by show (0 : Nat) ≤ 20; omega, fun q hq => absurd hq (Nat.not_lt_zero _), hC, hM⟩
  · obtain ⟨⟨dp, t⟩, mC, mM⟩ := s
    obtain ⟨i1, i2, i3, i4, i5⟩ := hI
    dsimp only at i1 i2 i3 i4 i5 ⊢
    right
    obtain ⟨w1, w2, w3, w4, w5, w6⟩ := hw i hi
    obtain ⟨q, q1, q2, eq⟩ := z_nat (A := 21) (B := 31) ⟨w1, w2⟩ (by omega)
    rw [show n - i = n - (i + 1) + 1 by omega] at i1
    have i1' : zStack (M0.1 2 (122 + 3 * i) :: (List.range' (i + 1) (n - (i + 1))).map (fun i => M0.1 2 (122 + 3 * i))) dp = some 1 := i1
    rw [zStack] at i1'
    have hq : ∀ v : Nat, v < 100 → (Int32.ofNat q = Int32.ofNat v ↔ q = v) := fun v hv => z_eq (by omega) (by omega)
    have n23 : (Int32.ofNat q = 23) ↔ q = 23 := hq 23 (by omega)
    have n22 : (Int32.ofNat q = 22) ↔ q = 22 := hq 22 (by omega)
    have n21 : (Int32.ofNat q = 21) ↔ q = 21 := hq 21 (by omega)
    have e2 : mC.1 38 2 = Int32.ofNat n := by rw [i4.1 38 (by omega), hn2]
    have ew : mC.1 (38 + 1) i = Int32.ofNat q := by rw [i4.1 39 (by omega)]; exact eq
    have eM : mM.1 2 = M0.1 2 := i5.1 2 (by omega)
    have ex : (122 + 3 * Int32.ofNat i : Int32) = Int32.ofNat (122 + 3 * i) := by
      rw [show (3 * Int32.ofNat i : Int32) = Int32.ofNat (3 * i) from z_mul 3 i]
      exact z_add 122 (3 * i)
    rw [Sentence_holds_b35, M_isSaid_b4, e2, eM, hn1, if_pos ((z_lt (by omega) (by omega)).mpr hi), if_pos ((z_lt (by omega) (by omega)).mpr hi), z_ix (show i < 40 by omega) (by omega), Option.bind_some, nm_eq, ew, nm_eq, ex, z_ix (show 122 + 3 * i < 302 by omega) (by omega), Option.bind_some, w3]
    rw [w3, eq] at i1'
    rw [eq]
    by_cases a23 : q = 23
    · subst a23
      have es : zStp (Int32.ofNat 23) = 20 := by decide
      rw [es] at i1' ⊢
      rw [if_pos rfl] at i1'
      have d1 : 1 ≤ dp := by
        by_cases h : 1 ≤ dp
        · exact h
        · rw [if_neg h] at i1'; cases i1'
      rw [if_pos d1] at i1'
      obtain ⟨t1, t2⟩ := i3 (dp - 1) (by omega)
      have nlt : ¬ Int32.ofNat dp < 1 := fun e => by have := (z_lt (b := 1) (by omega) (by omega)).mp e; omega
      rw [if_pos (show Int32.ofNat 23 = 23 from rfl), if_neg nlt, z_pred d1 (by omega), z_ix (show dp - 1 < 20 by omega) (by omega), Option.bind_some, t1, if_pos rfl, z_ix (show dp - 1 < 45 by omega) (by omega), Option.bind_some, t2]
      refine ⟨((dp, fun q => if q = dp - 1 then !(t (dp - 1)) else t q), upI mC (38 + 4) (dp - 1) (zb (!(t (dp - 1)))), upI mM 20 (dp - 1) (zb (!(t (dp - 1))))), ⟨i1', i2, zTr_w i3 (fun q h1 h2 => h1), zFC_w i4, zFM_w i5⟩, ?_⟩
      unfold Sentence_holds_b91 M_isSaid_b58
      rw [z_ix (show dp - 1 < 20 by omega) (by omega), z_ix (show dp - 1 < 45 by omega) (by omega)]
      cases t (dp - 1) with
      | false =>
        rw [if_pos (show zb false = 0 from rfl), if_pos (show zb false = 0 from rfl), Option.bind_some, Option.bind_some, nm_eq, nm_eq, z_s]
        rfl
      | true =>
        rw [if_neg (show ¬ zb true = 0 by decide), if_neg (show ¬ zb true = 0 by decide), Option.bind_some, Option.bind_some, nm_eq, nm_eq, z_s]
        rfl
    · rw [if_neg (fun e => a23 (n23.mp e))]
      unfold Sentence_holds_b95
      by_cases a22 : q = 22
      · subst a22
        have es : zStp (Int32.ofNat 22) = 21 := by decide
        rw [es] at i1' ⊢
        rw [if_neg (by decide), if_pos (Or.inl rfl)] at i1'
        have d2 : 2 ≤ dp := by
          by_cases h : 2 ≤ dp
          · exact h
          · rw [if_neg h] at i1'; cases i1'
        rw [if_pos d2] at i1'
        obtain ⟨t1, t2⟩ := i3 (dp - 1) (by omega)
        obtain ⟨t3, t4⟩ := i3 (dp - 1 - 1) (by omega)
        have nlt : ¬ Int32.ofNat dp < 2 := fun e => by have := (z_lt (b := 2) (by omega) (by omega)).mp e; omega
        rw [if_pos (show Int32.ofNat 22 = 22 from rfl), if_neg nlt, if_neg (show ¬ (21 : Int32) = 20 by decide), Option.bind_some, w3, eq, es, if_pos rfl]
        unfold M_isSaid_b86
        rw [z_ix (show 122 + 3 * i < 302 by omega) (by omega), Option.bind_some, eM, w3, eq, es, if_pos rfl, z_addm1 (show 1 ≤ dp by omega) (by omega), z_pred (show 1 ≤ dp - 1 by omega) (by omega), z_ix (show dp - 1 - 1 < 20 by omega) (by omega), z_ix (show dp - 1 - 1 < 45 by omega) (by omega), z_ix (show dp - 1 < 20 by omega) (by omega), z_ix (show dp - 1 < 45 by omega) (by omega), Option.bind_some, Option.bind_some, Option.bind_some, Option.bind_some, t1, t2, t3, t4]
        refine ⟨((dp - 1, fun q => if q = dp - 1 - 1 then (t (dp - 1 - 1) && t (dp - 1)) else t q), upI mC (38 + 4) (dp - 1 - 1) (zb (t (dp - 1 - 1) && t (dp - 1))), upI mM 20 (dp - 1 - 1) (zb (t (dp - 1 - 1) && t (dp - 1)))), ⟨i1', by show dp - 1 ≤ 20; omega, zTr_w (dp' := dp - 1) i3 (fun q h1 h2 => by omega), zFC_w i4, zFM_w i5⟩, ?_⟩
        unfold Sentence_holds_b146 M_isSaid_b161
        rw [z_ix (show dp - 1 - 1 < 20 by omega) (by omega), z_ix (show dp - 1 - 1 < 45 by omega) (by omega)]
        cases t (dp - 1 - 1) with
        | false =>
          rw [if_pos (show zb false = 0 from rfl), if_pos (show zb false = 0 from rfl), Option.bind_some, Option.bind_some, nm_eq, nm_eq, z_s]
          rfl
        | true =>
          rw [if_neg (show ¬ zb true = 0 by decide), if_neg (show ¬ zb true = 0 by decide)]
          cases t (dp - 1) with
          | false =>
            rw [if_pos (show zb false = 0 from rfl), if_pos (show zb false = 0 from rfl), Option.bind_some, Option.bind_some, nm_eq, nm_eq, z_s]
            rfl
          | true =>
            rw [if_neg (show ¬ zb true = 0 by decide), if_neg (show ¬ zb true = 0 by decide), Option.bind_some, Option.bind_some, nm_eq, nm_eq, z_s]
            rfl
      · rw [if_neg (fun e => a22 (n22.mp e))]
        unfold Sentence_holds_b150
        by_cases a21 : q = 21
        · subst a21
          have es : zStp (Int32.ofNat 21) = 22 := by decide
          rw [es] at i1' ⊢
          rw [if_neg (by decide), if_pos (Or.inr rfl)] at i1'
          have d2 : 2 ≤ dp := by
            by_cases h : 2 ≤ dp
            · exact h
            · rw [if_neg h] at i1'; cases i1'
          rw [if_pos d2] at i1'
          obtain ⟨t1, t2⟩ := i3 (dp - 1) (by omega)
          obtain ⟨t3, t4⟩ := i3 (dp - 1 - 1) (by omega)
          have nlt : ¬ Int32.ofNat dp < 2 := fun e => by have := (z_lt (b := 2) (by omega) (by omega)).mp e; omega
          rw [if_pos (show Int32.ofNat 21 = 21 from rfl), if_neg nlt, if_neg (show ¬ (22 : Int32) = 20 by decide), Option.bind_some, w3, eq, es, if_neg (show ¬ (22 : Int32) = 21 by decide), Option.bind_some, w3, eq, es, if_pos rfl]
          unfold M_isSaid_b86
          rw [z_ix (show 122 + 3 * i < 302 by omega) (by omega), Option.bind_some, eM, w3, eq, es, if_neg (show ¬ (22 : Int32) = 21 by decide), z_addm1 (show 1 ≤ dp by omega) (by omega), z_pred (show 1 ≤ dp - 1 by omega) (by omega), z_ix (show dp - 1 - 1 < 20 by omega) (by omega), z_ix (show dp - 1 - 1 < 45 by omega) (by omega), z_ix (show dp - 1 < 20 by omega) (by omega), z_ix (show dp - 1 < 45 by omega) (by omega), Option.bind_some, Option.bind_some, Option.bind_some, Option.bind_some, t1, t2, t3, t4]
          refine ⟨((dp - 1, fun q => if q = dp - 1 - 1 then (t (dp - 1 - 1) || t (dp - 1)) else t q), upI mC (38 + 4) (dp - 1 - 1) (zb (t (dp - 1 - 1) || t (dp - 1))), upI mM 20 (dp - 1 - 1) (zb (t (dp - 1 - 1) || t (dp - 1)))), ⟨i1', by show dp - 1 ≤ 20; omega, zTr_w (dp' := dp - 1) i3 (fun q h1 h2 => by omega), zFC_w i4, zFM_w i5⟩, ?_⟩
          unfold Sentence_holds_b201 M_isSaid_b161
          rw [z_ix (show dp - 1 - 1 < 20 by omega) (by omega), z_ix (show dp - 1 - 1 < 45 by omega) (by omega)]
          cases t (dp - 1 - 1) with
          | true =>
            rw [if_neg (show ¬ zb true = 0 by decide), if_neg (show ¬ zb true = 0 by decide), Option.bind_some, Option.bind_some, nm_eq, nm_eq, z_s]
            rfl
          | false =>
            rw [if_pos (show zb false = 0 from rfl), if_pos (show zb false = 0 from rfl)]
            cases t (dp - 1) with
            | false =>
              rw [if_pos (show zb false = 0 from rfl), if_pos (show zb false = 0 from rfl), Option.bind_some, Option.bind_some, nm_eq, nm_eq, z_s]
              rfl
            | true =>
              rw [if_neg (show ¬ zb true = 0 by decide), if_neg (show ¬ zb true = 0 by decide), Option.bind_some, Option.bind_some, nm_eq, nm_eq, z_s]
              rfl
        · rw [if_neg (fun e => a21 (n21.mp e))]
          unfold Sentence_holds_b205
          have es : zStp (Int32.ofNat q) = Int32.ofNat (q - 24) := by
            unfold zStp
            rw [if_neg (fun e => a23 (n23.mp e)), if_neg (fun e => a22 (n22.mp e)), if_neg (fun e => a21 (n21.mp e)), show (24 : Int32) = Int32.ofNat 24 from rfl, ← Int32.ofNat_sub _ _ (by omega)]
          have m20 : ¬ Int32.ofNat (q - 24) = 20 := fun e => by have := (z_eq (b := 20) (by omega) (by omega)).mp e; omega
          have m21 : ¬ Int32.ofNat (q - 24) = 21 := fun e => by have := (z_eq (b := 21) (by omega) (by omega)).mp e; omega
          have m22 : ¬ Int32.ofNat (q - 24) = 22 := fun e => by have := (z_eq (b := 22) (by omega) (by omega)).mp e; omega
          rw [es] at i1' ⊢
          rw [if_neg m20, if_neg (fun e => e.elim m21 m22)] at i1'
          have d20 : dp < 20 := by
            by_cases h : dp < 20
            · exact h
            · rw [if_neg h] at i1'; cases i1'
          rw [if_pos d20] at i1'
          have hHc : zH mC 6 (M0.1 2) := zH_tr hc (fun c h1 h2 => i4.1 c (by omega)) (fun _ _ => rfl) hH
          have hsa : zSame C0 33 mC 33 := zSame_of (fun c h1 h2 => i4.1 c (by omega))
          have hTc : zT mC 33 (M0.1 2) := zT_tr hc hsa (fun _ _ => rfl) hT
          have hUc : zU mC 33 (M0.1 2) := zU_tr hc hsa rfl (fun _ _ _ => rfl) hU
          have hlC := zC_leaf (m := mC) (σ := M0.1 2) (b := b) (q := q) (i := i) (s := C0.1 (38 + 2) i) (x := C0.1 (38 + 3) i) hHc hTc hUc hc hb (by omega) (by omega) q2 ew (by rw [i4.1 (38 + 2) (by omega)]) (by rw [i4.1 (38 + 3) (by omega)]) (fun e => w6 (by rw [eq, e]; rfl))
          have hlM := zM_leaf (m := mM) (σ := M0.1 2) (b := b) (q := q) (s := C0.1 (38 + 2) i) (x := C0.1 (38 + 3) i) (fun j _ => by rw [eM]) hc hb (by omega) q2
          generalize zLf (M0.1 2) b q (C0.1 (38 + 2) i) (C0.1 (38 + 3) i) = bv at hlC hlM
          have hw20 : (if Int32.ofNat dp < 20 then (if Int32.ofNat q < 29 then (Sentence_isSo mC 38 6 33 (Int32.ofNat b) (zN (zSn (M0.1 2) b)) (Int32.ofNat i)).bind fun r14 => Sentence_holds_b247 38 6 33 (Int32.ofNat b) (Sentence_holds_b35 38 6 33 (Int32.ofNat b) f) (zN (zSn (M0.1 2) b)) (Int32.ofNat dp) (Int32.ofNat i) r14 (Int32.ofNat dp) mC else (Sentence_compares mC 38 33 (Int32.ofNat b) (Int32.ofNat i)).bind fun r15 => Sentence_holds_b247 38 6 33 (Int32.ofNat b) (Sentence_holds_b35 38 6 33 (Int32.ofNat b) f) (zN (zSn (M0.1 2) b)) (Int32.ofNat dp) (Int32.ofNat i) r15 (Int32.ofNat dp) mC) else Sentence_holds_b35 38 6 33 (Int32.ofNat b) f (zN (zSn (M0.1 2) b)) (Int32.ofNat dp) (Int32.ofNat i + 1) mC) = Sentence_holds_b35 38 6 33 (Int32.ofNat b) f (zN (zSn (M0.1 2) b)) (Int32.ofNat (dp + 1)) (Int32.ofNat (i + 1)) (upI mC (38 + 4) dp (zb bv)) := by
            have fin : Sentence_holds_b247 38 6 33 (Int32.ofNat b) (Sentence_holds_b35 38 6 33 (Int32.ofNat b) f) (zN (zSn (M0.1 2) b)) (Int32.ofNat dp) (Int32.ofNat i) (zb bv) (Int32.ofNat dp) mC = Sentence_holds_b35 38 6 33 (Int32.ofNat b) f (zN (zSn (M0.1 2) b)) (Int32.ofNat (dp + 1)) (Int32.ofNat (i + 1)) (upI mC (38 + 4) dp (zb bv)) := by
              unfold Sentence_holds_b247
              rw [z_ix (show dp < 20 by omega) (by omega), Option.bind_some, nm_eq, z_narB, z_s, z_s]
            rw [if_pos (show Int32.ofNat dp < 20 from (z_lt (b := 20) (by omega) (by omega)).mpr d20)]
            by_cases h29 : Int32.ofNat q < 29
            · rw [if_pos h29] at hlC ⊢
              rw [hlC, Option.bind_some, fin]
            · rw [if_neg h29] at hlC ⊢
              rw [hlC, Option.bind_some, fin]
          rw [hw20, if_neg m20, Option.bind_some, w3, eq, es, if_neg m21, Option.bind_some, w3, eq, es, if_neg m22, Option.bind_some, show (Int32.ofNat (122 + 3 * i) + 1 : Int32) = Int32.ofNat (123 + 3 * i) by rw [z_s, show 122 + 3 * i + 1 = 123 + 3 * i by omega], show (Int32.ofNat (122 + 3 * i) + 2 : Int32) = Int32.ofNat (124 + 3 * i) by rw [show (Int32.ofNat (122 + 3 * i) + 2 : Int32) = Int32.ofNat (122 + 3 * i + 2) from z_add _ 2, show 122 + 3 * i + 2 = 124 + 3 * i by omega], z_ix (show 123 + 3 * i < 302 by omega) (by omega), Option.bind_some, z_ix (show 124 + 3 * i < 302 by omega) (by omega), Option.bind_some, w3, eq, es, w4, w5, hlM, Option.bind_some, z_ix (show dp < 45 by omega) (by omega), Option.bind_some, nm_eq, z_narB, z_s, z_s]
          exact ⟨((dp + 1, fun q => if q = dp then bv else t q), upI mC (38 + 4) dp (zb bv), upI mM 20 dp (zb bv)), ⟨i1', by show dp + 1 ≤ 20; omega, zTr_w (dp' := dp + 1) i3 (fun q h1 h2 => by omega), zFC_w i4, zFM_w i5⟩, rfl⟩
  · obtain ⟨⟨dp, t⟩, mC, mM⟩ := s
    obtain ⟨i1, i2, i3, i4, i5⟩ := hI
    dsimp only at i1 i2 i3 i4 i5 ⊢
    rw [Nat.sub_self] at i1
    have d1 : dp = 1 := Option.some.inj i1
    subst d1
    obtain ⟨t1, t2⟩ := i3 0 (by omega)
    have nlt : ¬ Int32.ofNat n < Int32.ofNat n := fun e => Nat.lt_irrefl _ ((z_lt (by omega) (by omega)).mp e)
    rw [Sentence_holds_b35, M_isSaid_b4, i4.1 38 (by omega), hn2, i5.1 2 (by omega), hn1, if_neg nlt, if_neg nlt, if_pos (show Int32.ofNat 1 = 1 from rfl), t1, t2, zb_rz, Option.bind_some]
    refine ⟨t 0, mC, mM, ?_, rfl, i4, i5⟩
    cases t 0 with
    | false => rfl
    | true => rfl
end ZSE
theorem zP_said : lS_said zRel := by
  intro mC mM x hR
  have hR1 := zRel_thr hR 0
  unfold M_said
  rw [nm_eq]
  generalize upI mM 0 0 0 = m1 at hR1 ⊢
  unfold O_said
  have hc := hR1.1.1
  have b6 := hc.1.2
  obtain ⟨hH, hT, hU, hS⟩ := hR1.2.1
  rcases hS with ⟨s0, s1⟩ | ⟨s0, n, n1, n40, s1, s2, s3, s4⟩
  · rw [s0, s1, if_pos rfl, if_pos rfl]
    exact ⟨-1, mC, m1, rfl, rfl, hR1⟩
  · rw [s0, s1, if_neg (by decide), if_neg (show ¬ Int32.ofNat n = 0 from fun e => by have := (z_eq (b := 0) (by omega) (by omega)).mp e; omega)]
    by_cases hx : x < -1
    · rw [if_pos hx, if_pos hx]
      exact ⟨-1, mC, m1, rfl, rfl, hR1⟩
    · rw [if_neg hx, if_neg hx]
      have fin : ∀ mC' mM', zFC mC mC' → zFM m1 mM' → zRel mC' mM' := fun mC' mM' h1 h2 => zRel_tr ⟨fun c hc => h1.1 c (by omega), fun j _ _ => by rw [h1.1 0 (by omega)], fun c _ => by rw [h1.2]⟩ ⟨fun c hc => h2.1 c (by omega), fun j _ => by rw [h2.1 0 (by omega)], fun c _ => by rw [h2.2]⟩ hR1
      refine z_loopX (fun f i (s : Nat × xMem × xMem) => (O_said_b33 x f (Int32.ofNat s.1) (Int32.ofNat i) s.2.1, M_said_b26 x f (Int32.ofNat s.1) (Int32.ofNat i) s.2.2)) (zB (m1.1 2)) (fun i s => zFC mC s.2.1 ∧ zFM m1 s.2.2) (fun r => ∃ v mC' mM', r.1 = some (v, mC') ∧ r.2 = some (v, mM') ∧ zRel mC' mM') (fun f i s hi hI => ?_) (fun f s hI => ?_) (zB (m1.1 2)) 0 1000 (0, mC, m1) (by omega) (by omega) ⟨⟨fun _ _ => rfl, rfl⟩, ⟨fun _ _ => rfl, rfl⟩⟩
      · obtain ⟨cnt, mC2, mM2⟩ := s
        obtain ⟨i1, i2⟩ := hI
        dsimp only at i1 i2 ⊢
        have hH2 : zH mC2 6 (m1.1 2) := zH_tr hc (fun c h1 h2 => i1.1 c (by omega)) (fun _ _ => rfl) hH
        have hT2 : zT mC2 33 (m1.1 2) := zT_tr hc (zSame_of (fun c h1 h2 => i1.1 c (by omega))) (fun _ _ => rfl) hT
        obtain ⟨bv, mC3, mM3, e1, e2, f1, f2⟩ := zHolds (b := i) (n := n) hR1 hi n40 s1 s2 s3 s4 i1 i2
        have eh : Sentence_holds mC2 38 6 33 (Int32.ofNat i) = some (zb bv, mC3) := by
          unfold Sentence_holds
          rw [zC_sn (k := fun r2 => Sentence_holds_b35 38 6 33 (Int32.ofNat i) 1000 r2 0 0 mC2) hH2 hT2 hc hi, e1]
        have em : M_isSaid mM2 (Int32.ofNat i) = some (zb bv, mM3) := by
          unfold M_isSaid
          exact e2
        rw [O_said_b33, M_said_b26, i1.1 6 (by omega), hH.2.2.2.2.1, i2.1 2 (by omega), hc.1.1, if_pos ((z_lt (by omega) (by omega)).mpr hi), if_pos ((z_lt (by omega) (by omega)).mpr hi), eh, em, Option.bind_some, Option.bind_some, z_s, z_s]
        cases bv with
        | false =>
          rw [if_pos (show zb false = 0 from rfl), if_pos (show zb false = 0 from rfl)]
          exact Or.inr ⟨(cnt, mC3, mM3), ⟨f1, f2⟩, rfl⟩
        | true =>
          rw [if_neg (show ¬ zb true = 0 by decide), if_neg (show ¬ zb true = 0 by decide)]
          by_cases hcx : Int32.ofNat cnt = x
          · rw [if_pos hcx, if_pos hcx]
            exact Or.inl ⟨_, mC3, mM3, rfl, rfl, fin _ _ f1 f2⟩
          · rw [if_neg hcx, if_neg hcx]
            exact Or.inr ⟨(cnt + 1, mC3, mM3), ⟨f1, f2⟩, rfl⟩
      · obtain ⟨cnt, mC2, mM2⟩ := s
        obtain ⟨i1, i2⟩ := hI
        dsimp only at i1 i2 ⊢
        have nlt : ¬ Int32.ofNat (zB (m1.1 2)) < Int32.ofNat (zB (m1.1 2)) := fun e => Nat.lt_irrefl _ ((z_lt (by omega) (by omega)).mp e)
        rw [O_said_b33, M_said_b26, i1.1 6 (by omega), hH.2.2.2.2.1, i2.1 2 (by omega), hc.1.1, if_neg nlt, if_neg nlt]
        by_cases hm1 : x = -1
        · rw [if_pos hm1, if_pos hm1]
          exact ⟨_, _, _, rfl, rfl, fin _ _ i1 i2⟩
        · rw [if_neg hm1, if_neg hm1]
          exact ⟨_, _, _, rfl, rfl, fin _ _ i1 i2⟩
