/-! Layer 2. What ties the class's memory to the model's -/
def zSame (m : xMem) (s : Nat) (m' : xMem) (s' : Nat) : Prop :=
  (∀ j, j < 3 → m'.1 s' j = m.1 s j) ∧ (∀ j, j < 4 → m'.1 (s' + 1) j = m.1 (s + 1) j) ∧ (∀ j, j < 6 → m'.1 (s' + 2) j = m.1 (s + 2) j ∧ m'.1 (s' + 3) j = m.1 (s + 3) j ∧ m'.1 (s' + 4) j = m.1 (s + 4) j)
def zWs (σ : zR) : Prop := zr (σ 97) 0 400 ∧ (∀ k, zC σ ≤ k → k < 32 → tb (σ 98) k = false) ∧ zr (σ 100) 0 30 ∧ (∀ o, o < zO σ → ∃ b, b < zB σ ∧ σ (103 + o) = Int32.ofNat b)
def zWF (σ : zR) : Prop := zCt σ ∧ zr (σ 3) 2 9 ∧ zr (σ 4) 2 9 ∧ zWs σ
/-- one step of a sentence, as the class and as the model keep it -/
def zStp (w : Int32) : Int32 := if w = 23 then 20 else if w = 22 then 21 else if w = 21 then 22 else w - 24
def zStack : List Int32 → Nat → Option Nat
  | [], n => some n
  | w :: l, n => if w = 20 then (if 1 ≤ n then zStack l n else none) else if w = 21 ∨ w = 22 then (if 2 ≤ n then zStack l (n - 1) else none) else if n < 20 then zStack l (n + 1) else none
def zSay (m : xMem) (c : Nat) (σ : zR) : Prop :=
  (m.1 c 0 = 0 ∧ σ 121 = 0) ∨ (m.1 c 0 = 1 ∧ ∃ n, 1 ≤ n ∧ n ≤ 40 ∧ σ 121 = Int32.ofNat n ∧ m.1 c 2 = Int32.ofNat n ∧
    (∀ i, i < n → 21 ≤ (m.1 (c + 1) i).toInt ∧ (m.1 (c + 1) i).toInt ≤ 31 ∧ σ (122 + 3 * i) = zStp (m.1 (c + 1) i) ∧ σ (123 + 3 * i) = m.1 (c + 2) i ∧ σ (124 + 3 * i) = m.1 (c + 3) i ∧ (m.1 (c + 1) i = 26 → ¬ m.1 (c + 3) i = -1)) ∧
    zStack ((List.range n).map (fun i => σ (122 + 3 * i))) 0 = some 1)
def zIm (m : xMem) (c : Nat) (σ : zR) : Prop := zH m (c + 1) σ ∧ zT m (c + 28) σ ∧ zU m (c + 28) σ ∧ zSay m (c + 33) σ
/-- names: letters 1 to 26, five bits each here, a byte each there -/
def zE5 (w : List Nat) : Nat := w.foldl (fun a x => a * 32 + x) 0
def zE8 (w : List Nat) : Nat := w.foldl (fun a x => a * 256 + (96 + x)) 0
def zNm (c m : Int64) : Prop := ∃ w : List Nat, 1 ≤ w.length ∧ w.length ≤ 7 ∧ (∀ x ∈ w, 1 ≤ x ∧ x ≤ 26) ∧ c = Int64.ofNat (zE5 w) ∧ m = Int64.ofNat (zE8 w)
def zNms (mC : xMem) (k : Nat) (mM : xMem) (c base : Nat) (σ : zR) : Prop :=
  (∀ b, b < zB σ → zNm (mC.2 (k + 1) b) (mM.2 c (base + b))) ∧ (∀ o, o < zO σ → zNm (mC.2 (k + 2) o) (mM.2 c (base + 6 + o))) ∧ (∀ i, i < zC σ → zNm (mC.2 (k + 3) i) (mM.2 c (base + 12 + i)))
/-- a row with its state out of the model's list of acts -/
def zUr (σ : zR) (mM : xMem) (t : Nat) : zR := fun j => if 97 ≤ j ∧ j < 121 then mM.1 7 (24 * t + (j - 97)) else σ j
def zUn (mC mM : xMem) (σ : zR) : Prop := ∃ n top : Nat, n ≤ 8 ∧ top < 8 ∧ mC.1 123 1 = Int32.ofNat top ∧ mC.1 123 2 = Int32.ofNat n ∧ mM.1 0 24 = Int32.ofNat n ∧
  ∀ t, t < n → zT mC (125 + 5 * ((top + 8 - n + t) % 8)) (zUr σ mM t) ∧ zU mC (125 + 5 * ((top + 8 - n + t) % 8)) (zUr σ mM t) ∧ zWs (zUr σ mM t)
def zIr (mM : xMem) (k : Nat) : zR := fun j => mM.1 21 (302 * k + j)
def zImg (mC mM : xMem) (k : Nat) : Prop := (mC.1 (184 + 38 * k) 0 = 0 ∧ mM.1 23 k = 0) ∨ (mC.1 (184 + 38 * k) 0 = 1 ∧ mM.1 23 k = 1 ∧ zWF (zIr mM k) ∧ zIm mC (184 + 38 * k) (zIr mM k) ∧ zNms mC (185 + 38 * k) mM 22 (20 * k) (zIr mM k))
def zTp (mC mM : xMem) : Prop := ∃ n : Nat, n ≤ 940 ∧ mC.1 1 1 = Int32.ofNat n ∧ mM.1 0 2 = Int32.ofNat n ∧ ∀ j, j < n → mC.1 2 j = (mM.1 1 j) &&& 255 ∧ zr (mC.1 2 j) 0 255
def zWords : List (List Nat) := ["house", "bed", "owl", "bad", "deaf", "sound", "wants", "shut", "mouse", "voice", "road", "bell", "east", "south", "west", "north", "lend", "hush", "let", "shout", "hour", "or", "and", "not", "blind", "told", "looks", "by", "hears", "knows", "missed", "number"].map (fun s => s.toList.map (fun c => c.toNat - 96))
def zRes (mC mM : xMem) : Prop := ∀ k, k < 32 → mC.2 4 k = Int64.ofNat (zE5 (zWords.getD k [])) ∧ mM.2 6 k = Int64.ofNat (zE8 (zWords.getD k []))
/-- a list with its count, none at first -/
def zLs (mC : xMem) (cc cj ca : Nat) (mM : xMem) (dc da : Nat) (most : Nat) : Prop := ∃ n : Nat, n ≤ most ∧ mC.1 cc cj = Int32.ofNat n ∧ (mM.1 0 dc = Int32.ofNat n ∨ (n = 0 ∧ mM.1 0 dc = -1)) ∧ ∀ j, j < n → mC.1 ca j = mM.1 da j
def zKe (mC mM : xMem) : Prop := (mM.1 0 31 = 0 ∧ mC.1 0 15 = -1 ∧ mC.1 0 16 = -1) ∨ (mM.1 0 31 = 1 ∧ mC.1 0 15 = mM.1 0 29 ∧ mC.1 0 16 = mM.1 0 30)
def zDu (mC mM : xMem) : Prop := (mM.1 0 41 = 0 ∧ mC.1 0 17 = -1) ∨ (mM.1 0 41 = 1 ∧ mC.1 0 17 = mM.1 0 40)
def zTo (mC mM : xMem) : Prop := (mM.1 0 47 = 0 ∧ mC.1 76 2 = 0) ∨ (mM.1 0 47 = 1 ∧ mC.1 76 2 = 1 ∧ ∀ j, j < 4 → mC.1 76 (3 + j) = mM.1 18 j)
def zWr (mC mM : xMem) : Prop := ∃ n : Nat, n ≤ 32 ∧ mC.1 180 1 = Int32.ofNat n ∧ mM.1 0 43 = Int32.ofNat n ∧ ∀ j, j < n → mC.1 181 j = mM.1 17 j
def zSpN (mC mM : xMem) : Prop := mC.1 165 5 = mM.1 0 28
def zFa (mC mM : xMem) : Prop := mC.1 0 18 = mM.1 0 15
def zRel (mC mM : xMem) : Prop :=
  zWF (mM.1 2) ∧ zIm mC 5 (mM.1 2) ∧ zNms mC 6 mM 5 0 (mM.1 2) ∧ zUn mC mM (mM.1 2) ∧ (∀ k, k < 2 → zImg mC mM k) ∧ zTp mC mM ∧ zRes mC mM ∧ zFa mC mM ∧
  zLs mC 165 4 166 mM 27 9 81 ∧ zSpN mC mM ∧ zLs mC 170 3 179 mM 35 13 6 ∧ zLs mC 0 14 182 mM 37 14 8 ∧ zKe mC mM ∧ zDu mC mM ∧ zTo mC mM ∧ zWr mC mM
section ZTR
variable {m m' mC mC' mM mM' : xMem} {σ σ' : zR} {k s s' c : Nat}
theorem zB_tr (h : σ' 0 = σ 0) : zB σ' = zB σ := by unfold zB; rw [h]
theorem zO_tr (h : σ' 1 = σ 1) : zO σ' = zO σ := by unfold zO; rw [h]
theorem zC_tr (h : σ' 2 = σ 2) : zC σ' = zC σ := by unfold zC; rw [h]
theorem zCt_tr (h : ∀ j, j < 97 → σ' j = σ j) (hc : zCt σ) : zCt σ' := by
  unfold zCt
  rw [zB_tr (h 0 (by omega)), zO_tr (h 1 (by omega)), zC_tr (h 2 (by omega)), h 0 (by omega), h 1 (by omega), h 2 (by omega)]
  exact hc
theorem zH_tr (hc : zCt σ) (h : ∀ c, k ≤ c → c < k + 27 → m'.1 c = m.1 c) (hσ : ∀ j, j < 97 → σ' j = σ j) (H : zH m k σ) : zH m' k σ' := by
  obtain ⟨h1, h2, h3, h4, h5, h6, h7, h8, h9, h10⟩ := H
  have b6 := hc.1.2
  have o6 := hc.2.1.2
  have c8 := hc.2.2.2
  have e0 := h k (by omega) (by omega)
  unfold zH
  rw [zB_tr (hσ 0 (by omega)), zO_tr (hσ 1 (by omega)), zC_tr (hσ 2 (by omega)), e0]
  refine ⟨?_, ?_, ?_, ?_, ?_, ?_, ?_, fun b hb => ?_, fun o ho => ?_, fun i hi => ?_⟩
  · rw [hσ 3 (by omega)]; exact h1
  · rw [hσ 4 (by omega)]; exact h2
  · rw [hσ 5 (by omega)]; exact h3
  · rw [hσ 6 (by omega)]; exact h4
  · rw [hσ 0 (by omega)]; exact h5
  · rw [hσ 1 (by omega)]; exact h6
  · rw [hσ 2 (by omega)]; exact h7
  · rw [h (k + 5 + b) (by omega) (by omega), hσ (7 + b) (by omega), hσ (13 + b) (by omega), hσ (19 + b) (by omega)]; exact h8 b hb
  · rw [h (k + 12 + o) (by omega) (by omega), hσ (25 + o) (by omega), hσ (31 + o) (by omega), hσ (37 + o) (by omega), hσ (43 + o) (by omega)]; exact h9 o ho
  · rw [h (k + 19 + i) (by omega) (by omega), hσ (49 + i) (by omega), hσ (57 + i) (by omega), hσ (65 + i) (by omega), hσ (73 + i) (by omega), hσ (81 + i) (by omega), hσ (89 + i) (by omega)]; exact h10 i hi
theorem zSame_of (h : ∀ c, s ≤ c → c < s + 5 → m'.1 c = m.1 c) : zSame m s m' s := by
  refine ⟨fun j _ => ?_, fun j _ => ?_, fun j _ => ⟨?_, ?_, ?_⟩⟩
  · rw [h s (by omega) (by omega)]
  · rw [h (s + 1) (by omega) (by omega)]
  · rw [h (s + 2) (by omega) (by omega)]
  · rw [h (s + 3) (by omega) (by omega)]
  · rw [h (s + 4) (by omega) (by omega)]
theorem zT_tr (hc : zCt σ) (h : zSame m s m' s') (hσ : ∀ j, j < 109 → σ' j = σ j) (H : zT m s σ) : zT m' s' σ' := by
  obtain ⟨t0, t1, t2, t3, t4⟩ := H
  obtain ⟨a0, a1, a2⟩ := h
  have o6 := hc.2.1.2
  unfold zT
  rw [zO_tr (hσ 1 (by omega)), a0 0 (by omega), a0 1 (by omega), a1 3 (by omega), a1 0 (by omega), a1 1 (by omega), a1 2 (by omega), hσ 97 (by omega), hσ 98 (by omega), hσ 100 (by omega), hσ 101 (by omega), hσ 102 (by omega)]
  refine ⟨t0, t1, t2, t3, fun o ho => ?_⟩
  rw [(a2 o (by omega)).1, hσ (103 + o) (by omega)]
  exact t4 o ho
theorem zU_tr (hc : zCt σ) (h : zSame m s m' s') (h0 : σ' 0 = σ 0) (hσ : ∀ j, 97 ≤ j → j < 121 → σ' j = σ j) (H : zU m s σ) : zU m' s' σ' := by
  obtain ⟨t0, t1⟩ := H
  obtain ⟨a0, a1, a2⟩ := h
  have b6 := hc.1.2
  unfold zU
  rw [zB_tr h0, a0 2 (by omega), hσ 99 (by omega) (by omega)]
  refine ⟨t0, fun b hb => ?_⟩
  rw [(a2 b (by omega)).2.1, (a2 b (by omega)).2.2, hσ (109 + b) (by omega) (by omega), hσ (115 + b) (by omega) (by omega)]
  exact t1 b hb
theorem zSay_tr (h : ∀ d, c ≤ d → d < c + 4 → m'.1 d = m.1 d) (hσ : ∀ j, 121 ≤ j → j < 302 → σ' j = σ j) (H : zSay m c σ) : zSay m' c σ' := by
  unfold zSay
  rw [h c (by omega) (by omega), h (c + 1) (by omega) (by omega), h (c + 2) (by omega) (by omega), h (c + 3) (by omega) (by omega), hσ 121 (by omega) (by omega)]
  rcases H with H | ⟨q0, n, q1, q2, q3, q4, q5, q6⟩
  · exact Or.inl H
  · refine Or.inr ⟨q0, n, q1, q2, q3, q4, fun i hi => ?_, ?_⟩
    · rw [hσ (122 + 3 * i) (by omega) (by omega), hσ (123 + 3 * i) (by omega) (by omega), hσ (124 + 3 * i) (by omega) (by omega)]
      exact q5 i hi
    · rw [← q6]
      congr 1
      refine List.map_congr_left (fun i hi => ?_)
      have := List.mem_range.mp hi
      exact hσ _ (by omega) (by omega)
theorem zIm_tr (hc : zCt σ) (h : ∀ d, c < d → d < c + 37 → m'.1 d = m.1 d) (H : zIm m c σ) : zIm m' c σ := by
  obtain ⟨a, b, d, e⟩ := H
  have hs : zSame m (c + 28) m' (c + 28) := zSame_of (fun x h1 h2 => h x (by omega) (by omega))
  exact ⟨zH_tr hc (fun x h1 h2 => h x (by omega) (by omega)) (fun _ _ => rfl) a, zT_tr hc hs (fun _ _ => rfl) b, zU_tr hc hs rfl (fun _ _ _ => rfl) d, zSay_tr (fun x h1 h2 => h x (by omega) (by omega)) (fun _ _ _ => rfl) e⟩
theorem zNms_tr {cell base : Nat} (h : ∀ d, k + 1 ≤ d → d < k + 4 → mC'.2 d = mC.2 d) (hm : mM'.2 cell = mM.2 cell) (hσ : ∀ j, j < 97 → σ' j = σ j) (H : zNms mC k mM cell base σ) : zNms mC' k mM' cell base σ' := by
  unfold zNms
  rw [zB_tr (hσ 0 (by omega)), zO_tr (hσ 1 (by omega)), zC_tr (hσ 2 (by omega)), h (k + 1) (by omega) (by omega), h (k + 2) (by omega) (by omega), h (k + 3) (by omega) (by omega), hm]
  exact H
theorem zWs_tr (hσ : ∀ j, j < 121 → σ' j = σ j) (H : zWs σ) (hc : zCt σ) : zWs σ' := by
  obtain ⟨a, b, c, d⟩ := H
  have o6 := hc.2.1.2
  unfold zWs
  rw [zO_tr (hσ 1 (by omega)), zB_tr (hσ 0 (by omega)), zC_tr (hσ 2 (by omega)), hσ 97 (by omega), hσ 98 (by omega), hσ 100 (by omega)]
  refine ⟨a, b, c, fun o ho => ?_⟩
  rw [hσ (103 + o) (by omega)]
  exact d o ho
theorem zUr_tr {t : Nat} (h7 : mM'.1 7 = mM.1 7) (hσ : ∀ j, j < 97 → σ' j = σ j) {j : Nat} (hj : j < 121) : zUr σ' mM' t j = zUr σ mM t j := by
  unfold zUr
  rw [h7]
  by_cases h : 97 ≤ j ∧ j < 121
  · rw [if_pos h, if_pos h]
  · rw [if_neg h, if_neg h]
    exact hσ j (by omega)
theorem zCt_ur {t : Nat} (hc : zCt σ) : zCt (zUr σ mM t) := zCt_tr (fun j hj => by unfold zUr; rw [if_neg (by omega)]) hc
theorem zUn_tr (hc : zCt σ) (h : ∀ d, 123 ≤ d → d < 165 → mC'.1 d = mC.1 d) (h7 : mM'.1 7 = mM.1 7) (h24 : mM'.1 0 24 = mM.1 0 24) (hσ : ∀ j, j < 97 → σ' j = σ j) (H : zUn mC mM σ) : zUn mC' mM' σ' := by
  obtain ⟨n, top, a1, a2, a3, a4, a5, a6⟩ := H
  refine ⟨n, top, a1, a2, ?_, ?_, ?_, fun t ht => ?_⟩
  · rw [h 123 (by omega) (by omega)]; exact a3
  · rw [h 123 (by omega) (by omega)]; exact a4
  · rw [h24]; exact a5
  · obtain ⟨b1, b2, b3⟩ := a6 t ht
    have hc2 : zCt (zUr σ mM t) := zCt_ur hc
    have hm : (top + 8 - n + t) % 8 < 8 := Nat.mod_lt _ (by omega)
    have hs : zSame mC (125 + 5 * ((top + 8 - n + t) % 8)) mC' (125 + 5 * ((top + 8 - n + t) % 8)) := zSame_of (fun x h1 h2 => h x (by omega) (by omega))
    exact ⟨zT_tr hc2 hs (fun j hj => zUr_tr h7 hσ (by omega)) b1, zU_tr hc2 hs (zUr_tr h7 hσ (by omega)) (fun j h1 h2 => zUr_tr h7 hσ h2) b2, zWs_tr (fun j hj => zUr_tr h7 hσ hj) b3 hc2⟩
theorem zImg_tr (hk : k < 2) (h : ∀ d, 184 ≤ d → d < 260 → mC'.1 d = mC.1 d) (h2 : ∀ d, 184 ≤ d → d < 260 → mC'.2 d = mC.2 d) (h21 : mM'.1 21 = mM.1 21) (h23 : mM'.1 23 = mM.1 23) (h22 : mM'.2 22 = mM.2 22) (H : zImg mC mM k) : zImg mC' mM' k := by
  have e : zIr mM' k = zIr mM k := by unfold zIr; rw [h21]
  unfold zImg
  rw [h (184 + 38 * k) (by omega) (by omega), h23, e]
  rcases H with H | ⟨q0, q1, q2, q3, q4⟩
  · exact Or.inl H
  · exact Or.inr ⟨q0, q1, q2, zIm_tr q2.1 (fun d h1 h2 => h d (by omega) (by omega)) q3, zNms_tr (fun d h1 h3 => h2 d (by omega) (by omega)) h22 (fun _ _ => rfl) q4⟩
theorem zTp_tr (h1 : mC'.1 1 1 = mC.1 1 1) (h2 : mC'.1 2 = mC.1 2) (h3 : mM'.1 0 2 = mM.1 0 2) (h4 : mM'.1 1 = mM.1 1) (H : zTp mC mM) : zTp mC' mM' := by
  unfold zTp
  rw [h1, h2, h3, h4]
  exact H
theorem zRes_tr (h1 : mC'.2 4 = mC.2 4) (h2 : mM'.2 6 = mM.2 6) (H : zRes mC mM) : zRes mC' mM' := by
  unfold zRes
  rw [h1, h2]
  exact H
theorem zLs_tr {cc cj ca dc da most : Nat} (h1 : mC'.1 cc cj = mC.1 cc cj) (h2 : mC'.1 ca = mC.1 ca) (h3 : mM'.1 0 dc = mM.1 0 dc) (h4 : mM'.1 da = mM.1 da) (H : zLs mC cc cj ca mM dc da most) : zLs mC' cc cj ca mM' dc da most := by
  unfold zLs
  rw [h1, h2, h3, h4]
  exact H
theorem zWr_tr (h1 : mC'.1 180 1 = mC.1 180 1) (h2 : mC'.1 181 = mC.1 181) (h3 : mM'.1 0 43 = mM.1 0 43) (h4 : mM'.1 17 = mM.1 17) (H : zWr mC mM) : zWr mC' mM' := by
  unfold zWr
  rw [h1, h2, h3, h4]
  exact H
theorem zTo_tr (h1 : mC'.1 76 = mC.1 76) (h3 : mM'.1 0 47 = mM.1 0 47) (h4 : mM'.1 18 = mM.1 18) (H : zTo mC mM) : zTo mC' mM' := by
  unfold zTo
  rw [h1, h3, h4]
  exact H
/-- what of the class's memory, of the model's, counts behind a call -/
def zSC (m m' : xMem) : Prop := (∀ c, c = 1 ∨ c = 2 ∨ (5 ≤ c ∧ c < 42) ∨ c = 76 ∨ (123 ≤ c ∧ c < 165) ∨ c = 165 ∨ c = 166 ∨ c = 170 ∨ c = 179 ∨ c = 180 ∨ c = 181 ∨ c = 182 ∨ (184 ≤ c ∧ c < 260) → m'.1 c = m.1 c) ∧ (∀ j, 14 ≤ j → j ≤ 18 → m'.1 0 j = m.1 0 j) ∧ (∀ c, c = 4 ∨ c = 7 ∨ c = 8 ∨ c = 9 ∨ (184 ≤ c ∧ c < 260) → m'.2 c = m.2 c)
def zSM (m m' : xMem) : Prop := (∀ c, c = 1 ∨ c = 2 ∨ c = 7 ∨ c = 9 ∨ c = 13 ∨ c = 14 ∨ c = 17 ∨ c = 18 ∨ c = 21 ∨ c = 23 → m'.1 c = m.1 c) ∧ (∀ j, j = 2 ∨ j = 15 ∨ j = 24 ∨ j = 27 ∨ j = 28 ∨ j = 29 ∨ j = 30 ∨ j = 31 ∨ j = 35 ∨ j = 37 ∨ j = 40 ∨ j = 41 ∨ j = 43 ∨ j = 47 → m'.1 0 j = m.1 0 j) ∧ (∀ c, c = 5 ∨ c = 6 ∨ c = 22 → m'.2 c = m.2 c)
theorem zSC_rf : zSC m m := ⟨fun _ _ => rfl, fun _ _ _ => rfl, fun _ _ => rfl⟩
theorem zSM_rf : zSM m m := ⟨fun _ _ => rfl, fun _ _ => rfl, fun _ _ => rfl⟩
theorem zRel_tr (hC : zSC mC mC') (hM : zSM mM mM') (H : zRel mC mM) : zRel mC' mM' := by
  obtain ⟨r1, r2, r3, r4, r5, r6, r7, r8, r9, r10, r11, r12, r13, r14, r15, r16⟩ := H
  obtain ⟨c1, c0, c2⟩ := hC
  obtain ⟨m1, m0, m2⟩ := hM
  have e2 : mM'.1 2 = mM.1 2 := m1 2 (by omega)
  unfold zRel
  rw [e2]
  refine ⟨r1, zIm_tr r1.1 (fun d h1 h2 => c1 d (by omega)) r2, zNms_tr (fun d h1 h2 => c2 d (by omega)) (m2 5 (by omega)) (fun _ _ => rfl) r3, zUn_tr r1.1 (fun d h1 h2 => c1 d (by omega)) (m1 7 (by omega)) (m0 24 (by omega)) (fun _ _ => rfl) r4, fun k hk => zImg_tr hk (fun d h1 h2 => c1 d (by omega)) (fun d h1 h2 => c2 d (by omega)) (m1 21 (by omega)) (m1 23 (by omega)) (m2 22 (by omega)) (r5 k hk), zTp_tr (by rw [c1 1 (by omega)]) (c1 2 (by omega)) (m0 2 (by omega)) (m1 1 (by omega)) r6, zRes_tr (c2 4 (by omega)) (m2 6 (by omega)) r7, ?_, zLs_tr (by rw [c1 165 (by omega)]) (c1 166 (by omega)) (m0 27 (by omega)) (m1 9 (by omega)) r9, ?_, zLs_tr (by rw [c1 170 (by omega)]) (c1 179 (by omega)) (m0 35 (by omega)) (m1 13 (by omega)) r11, zLs_tr (c0 14 (by omega) (by omega)) (c1 182 (by omega)) (m0 37 (by omega)) (m1 14 (by omega)) r12, ?_, ?_, zTo_tr (c1 76 (by omega)) (m0 47 (by omega)) (m1 18 (by omega)) r15, zWr_tr (by rw [c1 180 (by omega)]) (c1 181 (by omega)) (m0 43 (by omega)) (m1 17 (by omega)) r16⟩
  · unfold zFa; rw [c0 18 (by omega) (by omega), m0 15 (by omega)]; exact r8
  · unfold zSpN; rw [c1 165 (by omega), m0 28 (by omega)]; exact r10
  · unfold zKe; rw [c0 15 (by omega) (by omega), c0 16 (by omega) (by omega), m0 29 (by omega), m0 30 (by omega), m0 31 (by omega)]; exact r13
  · unfold zDu; rw [c0 17 (by omega) (by omega), m0 40 (by omega), m0 41 (by omega)]; exact r14
theorem upI_ne' {c j : Nat} {v : Int32} {d : Nat} (h : d ≠ c) : (upI m c j v).1 d = m.1 d := by
  funext b
  unfold upI
  simp [h]
theorem upI_at {c j : Nat} {v : Int32} : (upI m c j v).1 c j = v := by
  unfold upI
  simp
theorem upI_nj {c j i : Nat} {v : Int32} (h : i ≠ j) : (upI m c j v).1 c i = m.1 c i := by
  unfold upI
  simp [h]
theorem upI_2 {c j : Nat} {v : Int32} : (upI m c j v).2 = m.2 := rfl
theorem zSM_thr (v : Int32) : zSM m (upI m 0 0 v) := ⟨fun c hc => upI_ne' (by omega), fun j hj => upI_nj (by omega), fun _ _ => rfl⟩
theorem zRel_thr (H : zRel mC mM) (v : Int32) : zRel mC (upI mM 0 0 v) := zRel_tr zSC_rf (zSM_thr v) H
end ZTR
