/-! Layer 2. duel: what it ends on -/
theorem tb_nat {v i : Nat} (hi : i < 32) : tb (Int32.ofNat v) i = v.testBit i := by
  unfold tb
  show (BitVec.ofNat 32 v).getLsbD i = _
  rw [BitVec.getLsbD_ofNat, decide_eq_true hi, Bool.true_and]
theorem z_shl2 {i : Nat} (hi : i < 9) : i_shl 1 (Int32.ofNat i) = Int32.ofNat (2 ^ i) := by
  have : ∀ i, i < 9 → i_shl 1 (Int32.ofNat i) = Int32.ofNat (2 ^ i) := by decide +kernel
  exact this i hi
theorem z_orS {v i : Nat} (hi : i < 9) : Int32.ofNat v ||| i_shl 1 (Int32.ofNat i) = Int32.ofNat (v ||| 2 ^ i) := by
  apply tb_ext
  intro k hk
  rw [tb_or, tb_nat hk, tb_shl1 (by omega), tb_nat hk, Nat.testBit_or, Nat.testBit_two_pow]
  by_cases h : k = i
  · subst h; simp
  · have h2 : ¬ i = k := fun e => h e.symm
    simp [h, h2]
def zAny (p : Nat → Bool) : Nat → Bool
  | 0 => false
  | n + 1 => zAny p n || p n
theorem zAny_fst {p : Nat → Bool} {n : Nat} : zAny p n = (zFst p n).isSome := by
  induction n with
  | zero => rfl
  | succ n ih =>
    rw [zAny, zFst, ih]
    cases zFst p n with
    | some i => rfl
    | none => cases p n <;> rfl
/-- who has the last of it, so many hushes ahead -/
def zWd (e0 : Nat → Bool) (fr : Nat → Bool) (C : Nat) : Nat → Bool → Nat → Bool
  | 0, _, v => e0 v
  | k + 1, w, v => if (zWd e0 fr C k (!w) v == w) || zAny (fun i => (fr i && !v.testBit i) && (zWd e0 fr C k (!w) (v ||| 2 ^ i) == w)) C then w else !w
def zAc (old : Nat → Bool) (fr : Nat → Bool) (w : Bool) (v : Nat) : Nat → Bool
  | 0 => old v
  | i + 1 => if fr i && !v.testBit i then (if w then zAc old fr w v i || old (v ||| 2 ^ i) else zAc old fr w v i && old (v ||| 2 ^ i)) else zAc old fr w v i
theorem zAc_eq {old fr : Nat → Bool} {w : Bool} {v : Nat} : ∀ n, zAc old fr w v n = if (old v == w) || zAny (fun i => (fr i && !v.testBit i) && (old (v ||| 2 ^ i) == w)) n then w else !w := by
  intro n
  induction n with
  | zero =>
    rw [zAc, zAny, Bool.or_false]
    cases old v <;> cases w <;> rfl
  | succ n ih =>
    rw [zAc, zAny, ih]
    generalize zAny (fun i => (fr i && !v.testBit i) && (old (v ||| 2 ^ i) == w)) n = a
    cases (fr n && !v.testBit n) <;> cases old v <;> cases w <;> cases a <;> cases old (v ||| 2 ^ n) <;> rfl
/-- what an owl looks at where those of a set are hushed too -/
def zE0 (σ : zR) (o : Nat) (p1 : Int32) (v : Nat) : Bool := decide (zSideN σ (zSit σ o) (zBest (fun i => zLoud σ i (zSit σ o)) (fun i => zHeard σ o (zSit σ o) i && !v.testBit i) (zC σ + 1)) = p1)
def zFr (σ : zR) (i : Nat) : Bool := decide (i < zC σ) && !tb (σ 98) i
section ZDU
variable {m m' mC mC' mM mM' M0 : xMem} {σ τ : zR} {o b v : Nat} {p1 : Int32}
theorem zLook_98 (hc : zCt σ) (ho : o < 6) (hb : b < 6) (hv : v < 2 ^ zC σ) : zLook (z98 σ (σ 98 ||| Int32.ofNat v)) o b = zSideN σ b (zBest (fun i => zLoud σ i b) (fun i => zHeard σ o b i && !v.testBit i) (zC σ + 1)) := by
  have c8 := hc.2.2.2
  have b6 := hc.1.2
  generalize hτ : z98 σ (σ 98 ||| Int32.ofNat v) = τ
  have hj : ∀ j, j ≠ 98 → τ j = σ j := fun j h => by rw [← hτ]; exact z98_j h
  have h98 : τ 98 = σ 98 ||| Int32.ofNat v := by rw [← hτ]; unfold z98; rw [if_pos rfl]
  have eC : zC τ = zC σ := zC_tr (hj 2 (by omega))
  have eX : ∀ i, i ≤ zC σ → zX τ i = zX σ i := fun i hi => by unfold zX; rw [eC, hj 101 (by omega), hj (57 + i) (by omega)]
  have eY : ∀ i, i ≤ zC σ → zY τ i = zY σ i := fun i hi => by unfold zY; rw [eC, hj 102 (by omega), hj (65 + i) (by omega)]
  have eL : ∀ i, i ≤ zC σ → zL τ i = zL σ i := fun i hi => by unfold zL; rw [eC, hj 100 (by omega), hj (73 + i) (by omega)]
  have eK : ∀ i, i ≤ zC σ → zK τ i = zK σ i := fun i hi => by unfold zK; rw [eC, hj (49 + i) (by omega)]
  have eSd : ∀ x y, zSide τ b x y = zSide σ b x y := fun x y => by unfold zSide; rw [hj (7 + b) (by omega), hj (13 + b) (by omega)]
  have eFr : ∀ x y, zFar τ b x y = zFar σ b x y := fun x y => by unfold zFar; rw [hj (7 + b) (by omega), hj (13 + b) (by omega)]
  have eHs : ∀ i, i ≤ zC σ → zHears τ o b i = zHears σ o b i := fun i hi => by
    unfold zHears zHears0
    rw [eK i hi, eX i hi, eY i hi, eL i hi, eSd, eFr, hj (43 + o) (by omega), hj (37 + o) (by omega), hj (31 + o) (by omega)]
  have eSh : zShut τ = zShut σ := by unfold zShut; rw [hj 5 (by omega), hj 6 (by omega), hj 97 (by omega)]
  have eOn : ∀ i, i ≤ zC σ → zOn τ i = (zOn σ i && !v.testBit i) := fun i hi => by
    unfold zOn
    rw [eC]
    by_cases h : i = zC σ
    · rw [if_pos h, if_pos h, hj 100 (by omega), h, Nat.testBit_lt_two_pow hv]
      simp
    · rw [if_neg h, if_neg h, h98, tb_or, tb_nat (by omega), hj (81 + i) (by omega), hj (89 + i) (by omega), hj 97 (by omega)]
      cases tb (σ 98) i <;> cases v.testBit i <;> simp
  have eHd : ∀ i, i ≤ zC σ → zHeard τ o b i = (zHeard σ o b i && !v.testBit i) := fun i hi => by
    unfold zHeard
    rw [eSh, eOn i hi, eHs i hi]
    cases zShut σ <;> cases zOn σ i <;> cases zHears σ o b i <;> cases v.testBit i <;> rfl
  have eBest : zBest (fun i => zLoud τ i b) (zHeard τ o b) (zC σ + 1) = zBest (fun i => zLoud σ i b) (fun i => zHeard σ o b i && !v.testBit i) (zC σ + 1) := by
    refine zBest_congr (fun i hi => eHd i (by omega)) (fun i hi _ => ?_)
    unfold zLoud
    rw [eL i (by omega), eX i (by omega), eY i (by omega), eFr]
  unfold zLook zSeen
  rw [eC, eBest]
  cases hq : zBest (fun i => zLoud σ i b) (fun i => zHeard σ o b i && !v.testBit i) (zC σ + 1) with
  | none => rfl
  | some i =>
    have hi := (zBest_lt hq).1
    show zSide τ b (zX τ i) (zY τ i) = zSide σ b (zX σ i) (zY σ i)
    rw [eX i (by omega), eY i (by omega), eSd]
theorem zC_sideOf (hH : zH m 6 σ) (hc : zCt σ) (hb : b < zB σ) {q : Option Nat} (hrow : ∀ i, q = some i → i ≤ zC σ ∧ zRow m 33 6 σ i) : State_sideFrom m 33 6 (Int32.ofNat b) (zN q) = some (zSideN σ b q) := by
  have c8 := hc.2.2.2
  unfold State_sideFrom
  cases q with
  | none => rfl
  | some i =>
    obtain ⟨hi, r, e, r0, r1, r2, r3⟩ := hrow i rfl
    rw [show zN (some i) = Int32.ofNat i from rfl, if_neg (z_nm1 (by omega)), e, Option.bind_some, zC_side hH hc hb r1 r2]
    rfl
theorem zE_body {fr : xMem → Nat → Int32 → Int32 → Int32 → Int32 → Int32 → Int32 → Option Int32} {m : xMem} {p1 p2 p3 p4 p5 p6 : Int32} : O_endsOn_body fr m 5 p1 p2 p3 p4 p5 p6 = if 0 < p3 then (if p6 = 0 then O_endsOn_b75 fr m 5 p1 p2 p3 p4 p5 p6 1 else O_endsOn_b75 fr m 5 p1 p2 p3 p4 p5 p6 0) else (ix p1 6).bind fun j1 => nm (m.1 35 j1) fun x2 => (State_loudest m 33 6 x2 p4).bind fun r3 => (State_sideFrom m 33 6 x2 r3).bind fun r4 => if r4 = p2 then some 1 else some 0 := rfl
/-- the class's game, so many moves from its end -/
theorem zC_ends (hH : zH m 6 σ) (hT : zT m 33 σ) (hc : zCt σ) (hw : zWs σ) (ho : o < zO σ) : ∀ (k fuel : Nat) (w : Bool) (v : Nat) (x3 x4 : Int32), k < fuel → k < 100 → v < 2 ^ zC σ → (∀ i, i < 32 → tb x3 i = ((decide (i < zC σ + 1) && zHeard σ o (zSit σ o) i) && !v.testBit i)) → (∀ i, i < 32 → tb x4 i = (zFr σ i && !v.testBit i)) → O_endsOn fuel m 5 (Int32.ofNat o) p1 (Int32.ofNat k) x3 x4 (zb w) = some (zb (zWd (zE0 σ o p1) (zFr σ) (zC σ) k w v)) := by
  obtain ⟨e1, hb⟩ := zSit_eq hw hc ho
  have o6 := hc.2.1.2
  have c8 := hc.2.2.2
  intro k
  induction k with
  | zero =>
    intro fuel w v x3 x4 hf hk hv h3 h4
    obtain ⟨f, rfl⟩ : ∃ f, fuel = f + 1 := ⟨fuel - 1, by omega⟩
    have hrow : ∀ i, i ≤ zC σ → tb x3 i = true → zRow m 33 6 (zAdv σ 0) i := fun i hi ht => by
      rw [h3 i (by omega)] at ht
      refine zC_rowOn (a := 0) hH hT hc hi ?_
      rw [zAdv_0]
      unfold zHeard at ht
      simp only [Bool.and_eq_true] at ht
      exact ht.1.2.2.1
    rw [zAdv_0] at hrow
    have hbest : zBest (fun i => zLoud σ i (zSit σ o)) (fun i => tb x3 i) (zC σ + 1) = zBest (fun i => zLoud σ i (zSit σ o)) (fun i => zHeard σ o (zSit σ o) i && !v.testBit i) (zC σ + 1) := zBest_congr (fun i hi => by
      show tb x3 i = _
      rw [h3 i (by omega), decide_eq_true hi, Bool.true_and]) (fun _ _ _ => rfl)
    rw [O_endsOn, zE_body, if_neg (show ¬ (0 : Int32) < Int32.ofNat 0 by decide), z_ix (show o < 6 by omega) (by omega), Option.bind_some, nm_eq, hT.2.2.2.2 o ho, e1, zC_loudest hH hc hb hrow, Option.bind_some, hbest, zC_sideOf hH hc hb (fun i hq => by
      rw [← hbest] at hq
      have := zBest_lt hq
      exact ⟨by omega, hrow i (by omega) this.2⟩), Option.bind_some, z_ifb]
    rfl
  | succ k ih =>
    intro fuel w v x3 x4 hf hk hv h3 h4
    obtain ⟨f, rfl⟩ : ∃ f, fuel = f + 1 := ⟨fuel - 1, by omega⟩
    have ek : (Int32.ofNat (k + 1) - 1 : Int32) = Int32.ofNat k := by rw [z_pred (by omega) (by omega), show k + 1 - 1 = k by omega]
    have ih1 := ih f (!w) v x3 x4 (by omega) (by omega) hv h3 h4
    rw [O_endsOn, zE_body, if_pos (show (0 : Int32) < Int32.ofNat (k + 1) from (z_lt (a := 0) (by omega) (by omega)).mpr (by omega))]
    unfold O_endsOn_b75
    rw [ek]
    have heq : ∀ a b : Bool, (zb a = zb b) ↔ (a == b) = true := by decide
    have hloop : O_endsOn_b89 (O_endsOn f) m 5 (Int32.ofNat o) p1 (Int32.ofNat (k + 1)) x3 x4 (zb w) 1000 0 = some (zb (if zAny (fun i => (zFr σ i && !v.testBit i) && (zWd (zE0 σ o p1) (zFr σ) (zC σ) k (!w) (v ||| 2 ^ i) == w)) (zC σ) then w else !w)) := by
      have h := z_scan (fun fu i => O_endsOn_b89 (O_endsOn f) m 5 (Int32.ofNat o) p1 (Int32.ofNat (k + 1)) x3 x4 (zb w) fu (Int32.ofNat i)) (zC σ) (fun i => (zFr σ i && !v.testBit i) && (zWd (zE0 σ o p1) (zFr σ) (zC σ) k (!w) (v ||| 2 ^ i) == w)) (fun _ => some (zb w)) (some (zb (!w))) (fun fu i hi hp => ?_) (fun fu i hi hp => ?_) (fun fu => ?_) (fuel := 1000) (by omega)
      · refine h.trans ?_
        rw [zAny_fst]
        cases zFst (fun i => (zFr σ i && !v.testBit i) && (zWd (zE0 σ o p1) (zFr σ) (zC σ) k (!w) (v ||| 2 ^ i) == w)) (zC σ) <;> rfl
      all_goals
        have e8 : m.1 (5 + 1) 8 = Int32.ofNat (zC σ) := by show m.1 6 8 = _; rw [hH.2.2.2.2.2.2.1, hc.2.2.1]
        rw [O_endsOn_b89, e8]
      · have hrec := ih f (!w) (v ||| 2 ^ i) (x3 &&& (i_shl 1 (Int32.ofNat i) ^^^ (-1))) (x4 &&& (i_shl 1 (Int32.ofNat i) ^^^ (-1))) (by omega) (by omega) (Nat.or_lt_two_pow hv (Nat.pow_lt_pow_right (by omega) hi)) (fun j hj => by
          rw [tb_and, tb_xor, tb_shl1 (by omega), tb_m1 hj, h3 j hj, Nat.testBit_or, Nat.testBit_two_pow]
          by_cases hji : j = i
          · subst hji; simp
          · have h2 : ¬ i = j := fun e => hji e.symm
            simp [hji, h2]) (fun j hj => by
          rw [tb_and, tb_xor, tb_shl1 (by omega), tb_m1 hj, h4 j hj, Nat.testBit_or, Nat.testBit_two_pow]
          by_cases hji : j = i
          · subst hji; simp
          · have h2 : ¬ i = j := fun e => hji e.symm
            simp [hji, h2])
        rw [Bool.and_eq_true] at hp
        rw [if_pos ((z_lt (by omega) (by omega)).mpr hi), nm_eq, if_pos ((z_bit1 (by omega)).mpr (by rw [h4 i (by omega)]; exact hp.1))]
        unfold O_endsOn_b144
        rw [ek]
        cases w with
        | true =>
          rw [if_neg (show ¬ zb true = 0 by decide), show (0 : Int32) = zb (!true) from rfl, hrec, Option.bind_some, if_pos ((heq _ _).mpr hp.2), zb_rz]
          rfl
        | false =>
          rw [show zb (!false) = (1 : Int32) from rfl] at hrec
          rw [if_pos (show zb false = 0 from rfl), hrec, Option.bind_some, if_pos ((heq _ _).mpr hp.2), zb_rz]
          rfl
      · have hrec := ih f (!w) (v ||| 2 ^ i) (x3 &&& (i_shl 1 (Int32.ofNat i) ^^^ (-1))) (x4 &&& (i_shl 1 (Int32.ofNat i) ^^^ (-1))) (by omega) (by omega) (Nat.or_lt_two_pow hv (Nat.pow_lt_pow_right (by omega) hi)) (fun j hj => by
          rw [tb_and, tb_xor, tb_shl1 (by omega), tb_m1 hj, h3 j hj, Nat.testBit_or, Nat.testBit_two_pow]
          by_cases hji : j = i
          · subst hji; simp
          · have h2 : ¬ i = j := fun e => hji e.symm
            simp [hji, h2]) (fun j hj => by
          rw [tb_and, tb_xor, tb_shl1 (by omega), tb_m1 hj, h4 j hj, Nat.testBit_or, Nat.testBit_two_pow]
          by_cases hji : j = i
          · subst hji; simp
          · have h2 : ¬ i = j := fun e => hji e.symm
            simp [hji, h2])
        rw [if_pos ((z_lt (by omega) (by omega)).mpr hi), nm_eq]
        by_cases hbit : (zFr σ i && !v.testBit i) = true
        · rw [hbit, Bool.true_and] at hp
          rw [if_pos ((z_bit1 (by omega)).mpr (by rw [h4 i (by omega)]; exact hbit))]
          unfold O_endsOn_b144
          rw [ek]
          cases w with
          | true =>
            rw [if_neg (show ¬ zb true = 0 by decide), show (0 : Int32) = zb (!true) from rfl, hrec, Option.bind_some, if_neg (fun e => by rw [(heq _ _).mp e] at hp; cases hp), z_s]
          | false =>
            rw [show zb (!false) = (1 : Int32) from rfl] at hrec
            rw [if_pos (show zb false = 0 from rfl), hrec, Option.bind_some, if_neg (fun e => by rw [(heq _ _).mp e] at hp; cases hp), z_s]
        · rw [if_neg (fun e => hbit (by rw [← h4 i (by omega)]; exact (z_bit1 (by omega)).mp e)), z_s]
      · rw [if_neg (fun q => Nat.lt_irrefl _ ((z_lt (by omega) (by omega)).mp q))]
        cases w <;> rfl
    have hgo : ∀ s0 : Int32, s0 = zb (!w) → ((O_endsOn f m 5 (Int32.ofNat o) p1 (Int32.ofNat k) x3 x4 s0).bind fun r5 => if r5 = zb w then (rz (zb w)).bind fun w => some w else O_endsOn_b89 (O_endsOn f) m 5 (Int32.ofNat o) p1 (Int32.ofNat (k + 1)) x3 x4 (zb w) 1000 0) = some (zb (zWd (zE0 σ o p1) (zFr σ) (zC σ) (k + 1) w v)) := by
      intro s0 es
      subst es
      rw [ih1, Option.bind_some, zWd]
      by_cases hh : (zWd (zE0 σ o p1) (zFr σ) (zC σ) k (!w) v == w) = true
      · rw [if_pos ((heq _ _).mpr hh), zb_rz, hh, Bool.true_or, if_pos rfl]
        rfl
      · rw [if_neg (fun e => hh ((heq _ _).mp e)), hloop, Bool.eq_false_iff.mpr hh, Bool.false_or]
    cases w with
    | true =>
      rw [if_neg (show ¬ zb true = 0 by decide)]
      exact hgo 0 rfl
    | false =>
      rw [if_pos (show zb false = 0 from rfl)]
      exact hgo 1 rfl
end ZDU
