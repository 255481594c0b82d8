/-! Layer 2. note -/
def cF : List Nat → xMem → Option xMem
  | [], m => some m
  | x :: l, m => (Tape_add m 180 (Int32.ofNat x)).bind (cF l)
def mF : List Nat → xMem → Option xMem
  | [], m => some m
  | x :: l, m => (M_lays m (Int32.ofNat x)).bind (mF l)
def mL (N : Nat) : Nat → List Nat
  | 0 => if N % 256 = 0 then [] else [N % 256]
  | k + 1 => if N / 2 ^ (8 * (k + 1)) % 256 = 0 then mL N k else (N / 2 ^ (8 * (k + 1)) % 256) :: mL N k
section ZNO
variable {m m' mC mC' mM mM' C0 M0 : xMem} {σ τ : zR} {n : Nat}
theorem cF_app (a b : List Nat) : ∀ m : xMem, cF (a ++ b) m = (cF a m).bind (cF b) := by
  induction a with
  | nil => intro m; rfl
  | cons x l ih =>
    intro m
    show (Tape_add m 180 (Int32.ofNat x)).bind (cF (l ++ b)) = ((Tape_add m 180 (Int32.ofNat x)).bind (cF l)).bind (cF b)
    cases Tape_add m 180 (Int32.ofNat x) with
    | none => rfl
    | some m' => exact ih m'
theorem zW_bytes : ∀ (bs : List Nat) {n : Nat} {mC mM : xMem}, (∀ x ∈ bs, x < 128) → n + bs.length ≤ 32 → zWF2 C0 mC M0 mM → zWn n mC mM → ∃ mC' mM', cF bs mC = some mC' ∧ mF bs mM = some mM' ∧ zWn (n + bs.length) mC' mM' ∧ zWF2 C0 mC' M0 mM' := by
  intro bs
  induction bs with
  | nil => intro n mC mM _ _ hF H; exact ⟨mC, mM, rfl, rfl, H, hF⟩
  | cons x l ih =>
    intro n mC mM hx hn hF H
    rw [List.length_cons] at hn
    obtain ⟨a, b, p1, p2, p3, p4⟩ := zW_one (v := Int32.ofNat x) rfl (hx x (List.mem_cons_self ..)) (show n < 32 by omega) hF H
    obtain ⟨c, d, q1, q2, q3, q4⟩ := ih (n := n + 1) (fun y hy => hx y (List.mem_cons_of_mem _ hy)) (by omega) p4 p3
    refine ⟨c, d, ?_, ?_, ?_, q4⟩
    · rw [cF, p1, Option.bind_some, q1]
    · rw [mF, p2, Option.bind_some, q2]
    · rw [List.length_cons, show n + (l.length + 1) = n + 1 + l.length by omega]; exact q3
theorem zC_text {k : Nat} (bs : List Nat) (hl : xLen.getD k 0 = bs.length) (hb : ∀ j, j < bs.length → xChr k j = Int32.ofNat (bs.getD j 0)) (hn : bs.length < 200) : Tape_addText m 180 k = cF bs m := by
  unfold Tape_addText
  have key : ∀ (r j f : Nat) (m : xMem), j + r = bs.length → r < f → Tape_addText_b2 180 k f (Int32.ofNat j) m = cF (bs.drop j) m := by
    intro r
    induction r with
    | zero =>
      intro j f m h1 h2
      obtain ⟨f', rfl⟩ : ∃ f', f = f' + 1 := ⟨f - 1, by omega⟩
      rw [Tape_addText_b2, hl, if_neg (show ¬ Int32.ofNat j < nI bs.length from fun e => by have := (z_lt (by omega) (by omega)).mp e; omega), List.drop_eq_nil_of_le (by omega)]
      rfl
    | succ r ih =>
      intro j f m h1 h2
      obtain ⟨f', rfl⟩ : ∃ f', f = f' + 1 := ⟨f - 1, by omega⟩
      have hj : j < bs.length := by omega
      rw [Tape_addText_b2, hl, if_pos (show Int32.ofNat j < nI bs.length from (z_lt (by omega) (by omega)).mpr hj), z_ix hj (by omega), Option.bind_some, hb j hj, List.drop_eq_getElem_cons hj, cF, z_s, show bs.getD j 0 = bs[j] by rw [List.getD_eq_getElem?_getD, List.getElem?_eq_getElem hj]; rfl]
      cases Tape_add m 180 (Int32.ofNat bs[j]) with
      | none => rfl
      | some m' => exact ih (j + 1) f' m' (by omega) (by omega)
  have := key bs.length 0 1000 m (by omega) (by omega)
  rw [List.drop_zero] at this
  exact this
theorem zM_spL {N : Nat} (hN : N < 72057594037927936) : ∀ (k f : Nat) (m : xMem), k < 8 → k + 1 < f → M_spells_b3 (Int64.ofNat N) f (Int32.ofNat (8 * k)) m = mF (mL N k) m := by
  intro k
  induction k with
  | zero =>
    intro f m hk hf
    obtain ⟨f', rfl⟩ : ∃ f', f = f' + 1 + 1 := ⟨f - 2, by omega⟩
    have hd : N / 2 ^ (8 * 0) % 256 = N % 256 := by rw [Nat.mul_zero, Nat.pow_zero, Nat.div_one]
    by_cases h : N % 256 = 0
    · rw [zM_nm1 (k := 0) hN (by omega) rfl (by rw [hd]; exact h), M_spells_b3, if_pos (show (Int32.ofNat (8 * 0) + (-8) : Int32) < 0 by decide), mL, if_pos h]
      rfl
    · rw [M_spells_b3, if_neg (z_nn (by omega)), z_d8 hN (by omega), hd, if_neg (fun q => h ((z_cmp0 (by omega)).mp q)), z_li, mL, if_neg h, mF]
      cases M_lays m (Int32.ofNat (N % 256)) with
      | none => rfl
      | some m' =>
        rw [Option.bind_some, Option.bind_some, M_spells_b3, if_pos (show (Int32.ofNat (8 * 0) + (-8) : Int32) < 0 by decide)]
        rfl
  | succ k ih =>
    intro f m hk hf
    obtain ⟨f', rfl⟩ : ∃ f', f = f' + 1 := ⟨f - 1, by omega⟩
    have ev : (Int32.ofNat (8 * (k + 1)) + (-8) : Int32) = Int32.ofNat (8 * k) := by
      have : ∀ k, k < 8 → (Int32.ofNat (8 * (k + 1)) + (-8) : Int32) = Int32.ofNat (8 * k) := by decide +kernel
      exact this k (by omega)
    by_cases h : N / 2 ^ (8 * (k + 1)) % 256 = 0
    · rw [zM_nm1 (k := k + 1) hN hk rfl h, ev, mL, if_pos h]
      exact ih f' m (by omega) (by omega)
    · rw [M_spells_b3, if_neg (z_nn (by omega)), z_d8 hN hk, if_neg (fun q => h ((z_cmp0 (by omega)).mp q)), z_li, ev, mL, if_neg h, mF]
      cases M_lays m (Int32.ofNat (N / 2 ^ (8 * (k + 1)) % 256)) with
      | none => rfl
      | some m' => exact ih f' m' (by omega) (by omega)
theorem zM_says {N : Nat} (hN : N < 72057594037927936) : M_says m (Int64.ofNat N) = mF (32 :: mL N 7) m := by
  unfold M_says M_spells
  rw [mF, show (32 : Int32) = Int32.ofNat 32 from rfl]
  cases M_lays m (Int32.ofNat 32) with
  | none => rfl
  | some m' =>
    rw [Option.bind_some, Option.bind_some, show (56 : Int32) = Int32.ofNat (8 * 7) from rfl, zM_spL hN 7 1000 m' (by omega) (by omega)]
    cases mF (mL N 7) m' <;> rfl
theorem zRel_wr (H : zRel C0 M0) (hF : zWF2 C0 mC M0 mM) (hW : zWn n mC mM) : zRel mC mM := by
  obtain ⟨r1, r2, r3, r4, r5, r6, r7, r8, r9, r10, r11, r12, r13, r14, r15, r16⟩ := id H
  obtain ⟨f1, f2, f3, f4, f5⟩ := hF
  refine zRel_mk (fun c hc => f1 c (by omega) (by omega)) (fun c hc => by rw [f2]) (fun c hc => f3 c (by omega) (by omega)) (f4 24 (by omega)) (fun c hc => by rw [f5]) (zTp_tr (by rw [f1 1 (by omega) (by omega)]) (f1 2 (by omega) (by omega)) (f4 2 (by omega)) (f3 1 (by omega) (by omega)) r6) ?_ (zLs_tr (by rw [f1 165 (by omega) (by omega)]) (f1 166 (by omega) (by omega)) (f4 27 (by omega)) (f3 9 (by omega) (by omega)) r9) ?_ (zLs_tr (by rw [f1 170 (by omega) (by omega)]) (f1 179 (by omega) (by omega)) (f4 35 (by omega)) (f3 13 (by omega) (by omega)) r11) (zLs_tr (by rw [f1 0 (by omega) (by omega)]) (f1 182 (by omega) (by omega)) (f4 37 (by omega)) (f3 14 (by omega) (by omega)) r12) ?_ ?_ (zTo_tr (f1 76 (by omega) (by omega)) (f4 47 (by omega)) (f3 18 (by omega) (by omega)) r15) ⟨n, hW⟩ H
  · unfold zFa; rw [f1 0 (by omega) (by omega), f4 15 (by omega)]; exact r8
  · unfold zSpN; rw [f1 165 (by omega) (by omega), f4 28 (by omega)]; exact r10
  · unfold zKe; rw [f1 0 (by omega) (by omega), f4 29 (by omega), f4 30 (by omega), f4 31 (by omega)]; exact r13
  · unfold zDu; rw [f1 0 (by omega) (by omega), f4 40 (by omega), f4 41 (by omega)]; exact r14
theorem zNm_res (H : zRes mC mM) {k : Nat} (hk : k < 32) : zNm (mC.2 4 k) (mM.2 6 k) := by
  obtain ⟨h1, h2⟩ := H k hk
  have hw : ∀ k, k < 32 → 1 ≤ (zWords.getD k []).length ∧ (zWords.getD k []).length ≤ 7 ∧ ∀ x ∈ zWords.getD k [], 1 ≤ x ∧ x ≤ 26 := by decide +kernel
  exact ⟨zWords.getD k [], (hw k hk).1, (hw k hk).2.1, (hw k hk).2.2, h1, h2⟩
end ZNO
theorem zTx1 : 32 :: mL 418431069797 7 = [32, 97, 108, 111, 110, 101] := by decide +kernel
theorem zTx3 : 32 :: mL 1936225652 7 = [32, 115, 104, 117, 116] := by decide +kernel
theorem zTx4 : 32 :: mL 126909394808947 7 = [32, 115, 108, 101, 101, 112, 115] := by decide +kernel
theorem zTx6 : 32 :: mL 465726040947 7 = [32, 108, 111, 111, 107, 115] := by decide +kernel
theorem zTx5 : 32 :: mL 1751478885 7 = [32, 104, 101, 114, 101] := by decide +kernel
