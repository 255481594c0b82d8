/-! The walk of a method over a fixed world of cells: memory is two functions (ints and longs by cell and place), refs never change. X: from here, if the pure function answers z, the method comes to its end with what z says. -/
abbrev xMem : Type := (Nat → Nat → Int32) × (Nat → Nat → Int64)
/-- an object: its class's number, a digit a field (0 int, 1 long, x+2: the cell x); an array: its kind (0 int, 1 long, 2 byte, 3 boolean, 4.. references), its length, the cells that it names -/
abbrev xSh : Type := (Nat × List Nat) ⊕ (Nat × Nat × List Nat)
def xfv (ad : Nat → Nat) (m : xMem) (k j : Nat) : Nat → Value
  | 0 => .int (m.1 k j)
  | 1 => .long (m.2 k j)
  | x + 2 => .ref (ad x)
def xfs (ad : Nat → Nat) (m : xMem) (k : Nat) : Nat → List Nat → List Value
  | _, [] => []
  | j, fd :: r => xfv ad m k j fd :: xfs ad m k (j + 1) r
def xarr (ad : Nat → Nat) (m : xMem) (k t : Nat) (rs : List Nat) : (Nat → Int32) ⊕ (Nat → Int64) ⊕ (Nat → UInt32) ⊕ (Nat → UInt64) ⊕ (Nat → Option Nat) :=
  if t = 1 then .inr (.inl (m.2 k)) else if t < 4 then .inl (m.1 k) else .inr (.inr (.inr (.inr (fun i => (rs[i]?).map ad))))
def xcel (ad : Nat → Nat) (cA : Nat → ClassId) (m : xMem) (k : Nat) : xSh → va_E
  | .inl o => .inr (o.1, xfs ad m k 0 o.2)
  | .inr a => .inl (cA a.1, a.2.1, xarr ad m k a.1 a.2.2)
/-- what both worlds share: the classes, the array classes, where the text constants and their bytes are -/
abbrev xS : Type := va_G × (Nat → ClassId) × (Nat → Nat) × (Nat → Nat)
/-- a world: the shared part, the shapes, how many cells, where they are -/
abbrev xG : Type := xS × (Nat → xSh) × Nat × (Nat → Nat)
abbrev xD (G : xG) : va_G := G.1.1
abbrev xsh (G : xG) : Nat → xSh := G.2.1
abbrev xN (G : xG) : Nat := G.2.2.1
def xad (G : xG) : Nat → Nat := G.2.2.2
abbrev xcA (G : xG) : Nat → ClassId := G.1.2.1
abbrev xtysS (S : xS) : List (ClassId × FieldType) := [(S.2.1 0, .int), (S.2.1 1, .long), (S.2.1 2, .byte), (S.2.1 3, .boolean), (S.2.1 4, .array .int), (S.2.1 5, .object "OwlsLent$Image"), (S.2.1 6, .object "OwlsLent$State")]
abbrev xtys (G : xG) : List (ClassId × FieldType) := xtysS G.1
def xwd (G : xG) (m : xMem) : va_W := (List.range (xN G)).map (fun k => (xad G k, xcel (xad G) (xcA G) m k (xsh G k)))
def xA (G : xG) (sz : Nat) : Nat → Prop := fun q => (∃ k, k < xN G ∧ q = xad G k) ∨ sz ≤ q
theorem xwd_at {G : xG} {m : xMem} {k : Nat} (h : k < xN G) : (xwd G m)[k]? = some (xad G k, xcel (xad G) (xcA G) m k (xsh G k)) := by
  simp [xwd, List.getElem?_map, List.getElem?_range h]
theorem xcel_eq {ad : Nat → Nat} {cA : Nat → ClassId} {m m' : xMem} {k : Nat} (h1 : m'.1 k = m.1 k) (h2 : m'.2 k = m.2 k) : ∀ s : xSh, xcel ad cA m' k s = xcel ad cA m k s := by
  intro s
  rcases s with ⟨ci, fds⟩ | ⟨t, n, rs⟩
  · have hf : ∀ (j : Nat) (l : List Nat), xfs ad m' k j l = xfs ad m k j l := by
      intro j l
      induction l generalizing j with
      | nil => rfl
      | cons fd r ih =>
        have hv : xfv ad m' k j fd = xfv ad m k j fd := by
          match fd with
          | 0 => simp [xfv, h1]
          | 1 => simp [xfv, h2]
          | x + 2 => rfl
        simp only [xfs, hv, ih]
    simp only [xcel, hf]
  · simp only [xcel, xarr, h1, h2]
theorem xwd_set {G : xG} {m m' : xMem} {k : Nat} {e : va_E} (h : k < xN G) (he : xcel (xad G) (xcA G) m' k (xsh G k) = e) (ho : ∀ j, j ≠ k → m'.1 j = m.1 j ∧ m'.2 j = m.2 j) : (xwd G m).set k (xad G k, e) = xwd G m' := by
  apply List.ext_getElem?
  intro j
  by_cases hj : j = k
  · subst hj
    rw [List.getElem?_set_self (by simp [xwd]; exact h), xwd_at h, he]
  · rw [List.getElem?_set_ne (Ne.symm hj)]
    by_cases hn : j < xN G
    · rw [xwd_at hn, xwd_at hn, xcel_eq (ho j hj).1 (ho j hj).2]
    · simp [xwd, hn]
theorem xfs_get {ad : Nat → Nat} {m : xMem} {k : Nat} : ∀ (l : List Nat) (i j fd : Nat), l[j]? = some fd → (xfs ad m k i l)[j]? = some (xfv ad m k (i + j) fd)
  | [], i, j, fd, h => by simp at h
  | a :: r, i, 0, fd, h => by
    simp at h
    subst h
    simp [xfs]
  | a :: r, i, j + 1, fd, h => by
    have h2 : r[j]? = some fd := by simpa using h
    have := xfs_get (ad := ad) (m := m) (k := k) r (i + 1) j fd h2
    simp only [xfs, List.getElem?_cons_succ, this]
    rw [show i + 1 + j = i + (j + 1) by omega]
theorem xfs_len {ad : Nat → Nat} {m : xMem} {k : Nat} : ∀ (l : List Nat) (i : Nat), (xfs ad m k i l).length = l.length
  | [], _ => rfl
  | _ :: r, i => by simp [xfs, xfs_len r (i + 1)]
/-- writing a place -/
def upI (m : xMem) (k j : Nat) (v : Int32) : xMem := (fun a b => if a = k ∧ b = j then v else m.1 a b, m.2)
def upL (m : xMem) (k j : Nat) (v : Int64) : xMem := (m.1, fun a b => if a = k ∧ b = j then v else m.2 a b)
/-- writing a row -/
def upR (m : xMem) (k : Nat) (f : Nat → Int32) : xMem := (fun a b => if a = k then f b else m.1 a b, m.2)
def upRL (m : xMem) (k : Nat) (f : Nat → Int64) : xMem := (m.1, fun a b => if a = k then f b else m.2 a b)
theorem upI_ne (m : xMem) {k j : Nat} (v : Int32) {a : Nat} (h : a ≠ k) : (upI m k j v).1 a = m.1 a := by
  funext b; simp [upI, h]
theorem upI_eq (m : xMem) (k j : Nat) (v : Int32) : (upI m k j v).1 k = upd (m.1 k) j v := by
  funext b; simp [upI, upd]
theorem upL_ne (m : xMem) {k j : Nat} (v : Int64) {a : Nat} (h : a ≠ k) : (upL m k j v).2 a = m.2 a := by
  funext b; simp [upL, h]
theorem upL_eq (m : xMem) (k j : Nat) (v : Int64) : (upL m k j v).2 k = vp_updL (m.2 k) j v := by
  funext b; simp [upL, vp_updL]
theorem upR_ne (m : xMem) {k : Nat} (f : Nat → Int32) {a : Nat} (h : a ≠ k) : (upR m k f).1 a = m.1 a := by
  funext b; simp [upR, h]
theorem upR_eq (m : xMem) (k : Nat) (f : Nat → Int32) : (upR m k f).1 k = f := by
  funext b; simp [upR]
theorem upRL_ne (m : xMem) {k : Nat} (f : Nat → Int64) {a : Nat} (h : a ≠ k) : (upRL m k f).2 a = m.2 a := by
  funext b; simp [upRL, h]
theorem upRL_eq (m : xMem) (k : Nat) (f : Nat → Int64) : (upRL m k f).2 k = f := by
  funext b; simp [upRL]
theorem xfs_setI {ad : Nat → Nat} {m : xMem} {k p : Nat} {v : Int32} : ∀ (l : List Nat) (i j : Nat), l[j]? = some 0 → p = i + j → xfs ad (upI m k p v) k i l = (xfs ad m k i l).set j (.int v)
  | [], i, j, h, _ => by simp at h
  | a :: r, i, 0, h, hp => by
    simp at h
    subst h
    have hpi : p = i := by omega
    subst hpi
    have hr : ∀ (l : List Nat) (q : Nat), p < q → xfs ad (upI m k p v) k q l = xfs ad m k q l := by
      intro l
      induction l with
      | nil => intro q _; rfl
      | cons fd r ih =>
        intro q hq
        have hv : xfv ad (upI m k p v) k q fd = xfv ad m k q fd := by
          match fd with
          | 0 => simp [xfv, upI]; omega
          | 1 => rfl
          | x + 2 => rfl
        simp only [xfs, hv, ih (q + 1) (by omega)]
    simp only [xfs, List.set_cons_zero, hr r (p + 1) (by omega)]
    congr 1
    simp [xfv, upI]
  | a :: r, i, j + 1, h, hp => by
    have h2 : r[j]? = some 0 := by simpa using h
    have ih := xfs_setI (ad := ad) (m := m) (k := k) (p := p) (v := v) r (i + 1) j h2 (by omega)
    have hv : xfv ad (upI m k p v) k i a = xfv ad m k i a := by
      match a with
      | 0 => simp [xfv, upI]; omega
      | 1 => rfl
      | x + 2 => rfl
    simp only [xfs, List.set_cons_succ, ih, hv]
theorem xfs_setL {ad : Nat → Nat} {m : xMem} {k p : Nat} {v : Int64} : ∀ (l : List Nat) (i j : Nat), l[j]? = some 1 → p = i + j → xfs ad (upL m k p v) k i l = (xfs ad m k i l).set j (.long v)
  | [], i, j, h, _ => by simp at h
  | a :: r, i, 0, h, hp => by
    simp at h
    subst h
    have hpi : p = i := by omega
    subst hpi
    have hr : ∀ (l : List Nat) (q : Nat), p < q → xfs ad (upL m k p v) k q l = xfs ad m k q l := by
      intro l
      induction l with
      | nil => intro q _; rfl
      | cons fd r ih =>
        intro q hq
        have hv : xfv ad (upL m k p v) k q fd = xfv ad m k q fd := by
          match fd with
          | 0 => rfl
          | 1 => simp [xfv, upL]; omega
          | x + 2 => rfl
        simp only [xfs, hv, ih (q + 1) (by omega)]
    simp only [xfs, List.set_cons_zero, hr r (p + 1) (by omega)]
    congr 1
    simp [xfv, upL]
  | a :: r, i, j + 1, h, hp => by
    have h2 : r[j]? = some 1 := by simpa using h
    have ih := xfs_setL (ad := ad) (m := m) (k := k) (p := p) (v := v) r (i + 1) j h2 (by omega)
    have hv : xfv ad (upL m k p v) k i a = xfv ad m k i a := by
      match a with
      | 0 => rfl
      | 1 => simp [xfv, upL]; omega
      | x + 2 => rfl
    simp only [xfs, List.set_cons_succ, ih, hv]
-- the words that every method carries
def GT : List Cond := lw_tbl.filter goodWord
def isNest : Cond → Bool
  | .fieldLinkNest _ _ _ _ _ _ => true
  | .methodLinkNest _ _ _ _ => true
  | .declares _ => true
  | .castable _ _ => true
  | _ => false
def NT : List Cond := tables_1.filter isNest
def xNW (U : State) : Prop := ∀ w ∈ NT, va_Nw w U
theorem xNW.same {u U : State} (h : u.vm = U.vm) (hN : xNW u) : xNW U := fun w hw => by
  have hi : isNest w = true := (List.mem_filter.mp hw).2
  have := hN w hw
  cases w <;> first | exact va_Nw.same rfl h this | (simp [isNest] at hi)
theorem xNW.warm {s U : State} (hW : s.WarmedH U.vm) (hN : xNW s) : xNW U := fun w hw => by
  have hi : isNest w = true := (List.mem_filter.mp hw).2
  have := hN w hw
  cases w <;> first | exact va_Nw.warmF hW this | exact va_Nw.warmM hW this | exact va_Nw.warmD hW this | exact va_Nw.warmC hW this | (simp [isNest] at hi)
-- the text constants: class, place in its pool, text
def xStrs : List (String × Nat × String) := [("OwlsLent$Tokens", 51, "house bed owl bad deaf sound wants shut mouse voice road bell east south west north lend hush let shout hour or and not blind told looks by hears knows missed number "), ("OwlsLent", 353, " alone"), ("OwlsLent", 358, " "), ("OwlsLent", 363, " shut"), ("OwlsLent", 365, " sleeps"), ("OwlsLent", 367, " looks here"), ("OwlsLent", 369, " looks "), ("OwlsLent", 156, "no such bed, or nothing told of it by that number"), ("OwlsLent", 178, "no such owl, or nothing told of it by that number"), ("OwlsLent", 289, "no such sound or bed")]
def xStn (i : Nat) : String × Nat × String := xStrs.getD i ("", 0, "")
def xLen : List Nat := [166, 6, 1, 5, 7, 11, 7, 49, 49, 20]
def xByt : List (List Int32) := [[104, 111, 117, 115, 101, 32, 98, 101, 100, 32, 111, 119, 108, 32, 98, 97, 100, 32, 100, 101, 97, 102, 32, 115, 111, 117, 110, 100, 32, 119, 97, 110, 116, 115, 32, 115, 104, 117, 116, 32, 109, 111, 117, 115, 101, 32, 118, 111, 105, 99, 101, 32, 114, 111, 97, 100, 32, 98, 101, 108, 108, 32, 101, 97, 115, 116, 32, 115, 111, 117, 116, 104, 32, 119, 101, 115, 116, 32, 110, 111, 114, 116, 104, 32, 108, 101, 110, 100, 32, 104, 117, 115, 104, 32, 108, 101, 116, 32, 115, 104, 111, 117, 116, 32, 104, 111, 117, 114, 32, 111, 114, 32, 97, 110, 100, 32, 110, 111, 116, 32, 98, 108, 105, 110, 100, 32, 116, 111, 108, 100, 32, 108, 111, 111, 107, 115, 32, 98, 121, 32, 104, 101, 97, 114, 115, 32, 107, 110, 111, 119, 115, 32, 109, 105, 115, 115, 101, 100, 32, 110, 117, 109, 98, 101, 114, 32], [32, 97, 108, 111, 110, 101], [32], [32, 115, 104, 117, 116], [32, 115, 108, 101, 101, 112, 115], [32, 108, 111, 111, 107, 115, 32, 104, 101, 114, 101], [32, 108, 111, 111, 107, 115, 32], [110, 111, 32, 115, 117, 99, 104, 32, 98, 101, 100, 44, 32, 111, 114, 32, 110, 111, 116, 104, 105, 110, 103, 32, 116, 111, 108, 100, 32, 111, 102, 32, 105, 116, 32, 98, 121, 32, 116, 104, 97, 116, 32, 110, 117, 109, 98, 101, 114], [110, 111, 32, 115, 117, 99, 104, 32, 111, 119, 108, 44, 32, 111, 114, 32, 110, 111, 116, 104, 105, 110, 103, 32, 116, 111, 108, 100, 32, 111, 102, 32, 105, 116, 32, 98, 121, 32, 116, 104, 97, 116, 32, 110, 117, 109, 98, 101, 114], [110, 111, 32, 115, 117, 99, 104, 32, 115, 111, 117, 110, 100, 32, 111, 114, 32, 98, 101, 100]]
/-- what stands outside every world: the statics that a throw looks at, the text constants -/
def xSt (S : xS) (A : Nat → Prop) (U : State) (H : Heap) : Prop :=
  vx_Zq Bundle.tN "UNASSIGNED_STACK" Bundle.steD A U H ∧ vx_Zq Bundle.tN "SUPPRESSED_SENTINEL" Bundle.listD A U H ∧ va_Z "java/lang/String" "COMPACT_STRINGS" "Z" (.int 1) A U H ∧ va_Zq "jdk/internal/util/Preconditions" "SIOOBE_FORMATTER" "Ljava/util/function/BiFunction;" A U H ∧
  vk_S 10 xLen xByt S.2.2.1 S.2.2.2 A U H ∧ ∀ i, i < 10 → vk_R (xStn i).1 (xStn i).2.1 (xStn i).2.2 (S.2.2.1 i) U
theorem xSt.to {S : xS} {A B : Nat → Prop} {s U : State} {H : Heap} (hW : s.WarmedH U.vm) (hk : ∀ q : Nat, q < s.heap.size → ¬ A q → H[q]? = s.heap[q]?) (hAB : ∀ q, B q → A q) (h : xSt S A s s.heap) : xSt S B U H :=
  ⟨((vx_Zq.moved hW.alike h.1).kept hk).narrow hAB, ((vx_Zq.moved hW.alike h.2.1).kept hk).narrow hAB, ((va_Z.moved hW.alike h.2.2.1).kept hk).narrow hAB, ((va_Zq.moved hW.alike h.2.2.2.1).kept hk).narrow hAB, ((vk_S.moved hW.alike h.2.2.2.2.1).kept hk).narrow hAB, fun i hi => vk_R.warm hW (h.2.2.2.2.2 i hi)⟩
theorem xSt.blind {S : xS} {A : Nat → Prop} {u U : State} (hv : u.vm = U.vm) {H : Heap} (h : xSt S A u H) : xSt S A U H := by
  have ha : u.vm.Alike U.vm := hv ▸ Vm.Alike.refl u.vm
  exact ⟨vx_Zq.moved ha h.1, vx_Zq.moved ha h.2.1, va_Z.moved ha h.2.2.1, va_Zq.moved ha h.2.2.2.1, vk_S.moved ha h.2.2.2.2.1, fun i hi => vk_R.same hv.symm (h.2.2.2.2.2 i hi)⟩
theorem GT_in {w : Cond} (h : w ∈ lw_tbl) (g : goodWord w = true) : w ∈ GT := List.mem_filter.mpr ⟨h, g⟩
theorem GT_good {w : Cond} (h : w ∈ GT) : goodWord w = true := (List.mem_filter.mp h).2
theorem GT_cons {y : MethodName} {b y2 b2} {n n2 : Nat} {r r2} (h : Cond.code y2 b2 n2 r2 ∈ GT) : GoodIn (Cond.code y b n r :: GT) (Cond.code y2 b2 n2 r2 :: GT) := by
  intro w hw
  rcases List.mem_cons.mp hw with rfl | hw
  · exact ⟨List.mem_cons_of_mem _ h, good_of_word (GT_good h)⟩
  · exact ⟨List.mem_cons_of_mem _ hw, good_of_word (GT_good hw)⟩
-- the world at a state
def xWK (G : xG) (m : xMem) (U : State) : Prop := va_P (xD G) vwCl (xwd G m) U.heap ∧ va_K (xD G) vwCl (xtys G) U ∧ va_D (fun _ => True) (xwd G m)
theorem xD_of {G : xG} {m : xMem} {sz : Nat} {B : Nat → Prop} (h : va_D B (xwd G m)) : va_D (xA G sz) (xwd G m) := by
  refine ⟨h.1, fun k q hk => Or.inl ?_⟩
  have hl : k < (xwd G m).length := (List.getElem?_eq_some_iff.mp hk).1
  have hn : k < xN G := by simpa [xwd] using hl
  rw [xwd_at hn] at hk
  cases hk
  exact ⟨k, hn, rfl⟩
/-- what a method ends with -/
def xQ (G : xG) (sz : Nat) (r : Option Value) (m : xMem) : Array Value → State → Outcome → State → Prop := fun _ st oc t => (oc = .returned r ∧ xWK G m t) ∧ va_F (xA G sz) st t
def xPc (G : xG) (av : List Value) (m : xMem) (sz : Nat) : Array Value → State → Prop := va_Pc av (fun U => U.heap.size = sz ∧ xWK G m U ∧ xNW U ∧ xSt G.1 (xA G sz) U U.heap)
theorem xPc_blind {G : xG} {av : List Value} {m : xMem} {sz : Nat} : FrameBlind (xPc G av m sz) := by
  intro a U g mk h
  obtain ⟨h1, h2, ⟨hP, hK, hD⟩, hN, hT⟩ := h
  exact ⟨h1, h2, ⟨hP, va_K.moved (u := U) (U := U.calling g mk a) (Vm.Alike.refl U.vm) hK, hD⟩, xNW.same (u := U) (U := U.calling g mk a) rfl hN, xSt.blind (u := U) (U := U.calling g mk a) rfl hT⟩
/-- a contract: what the pure function answers, the method does -/
def xCt (l : Launch) (G : xG) (y : MethodName) (b : ByteArray) (n : Nat) (ret : Option FieldType) (rm : Room) (av : List Value) (m : xMem) (out : Option (Option Value × xMem)) : Prop :=
  ∀ z, out = some z → ∀ sz, Met l y (Cond.code y b n ret :: GT) rm (xPc G av m sz) (xQ G sz z.1 z.2) 0 0 (xA G sz)
-- the machine in a method: also its count of cells and slots made so far, the addresses that it may write, the shared part
abbrev xE : Type := Program × Launch × Env × Room × State × MethodId × Array Value × List Frame × Method × Code × Nat × Nat × Nat × (Nat → Prop) × xS
/-- from here, over the world wd, if the pure function answers z: the method comes to fin z -/
def Xg (E : xE) {ρ : Type} (fin : ρ → State → Prop) (pc : Nat) (lv : List (Nat × Value)) (st : List Value) (wd : va_W) (res : Option ρ) : Prop :=
  match E with
  | (p, l, e, R, s, mm, args, below, meth, c, nL, ce, sl, A, S) =>
    ∀ z, res = some z → ∀ (H : Heap) (locs : List Loc) (ls : Array Slot), lv_has ls nL lv → va_P S.1 vwCl wd H → va_D A wd → va_S A s.heap H locs → W p l e R s mm args below meth c H locs ce sl (fin z) (F0 mm pc ls st)
def xEnd (E : xE) (G : xG) (w : Option Value × xMem) : State → Prop :=
  match E with
  | (_, _, _, _, s, _, args, below, _, _, _, ce, sl, A, _) => MQ below (fun _ st oc t => (oc = .returned w.1 ∧ xWK G w.2 t) ∧ va_F A st t) args s ce sl A
abbrev X (E : xE) (G : xG) {ρ : Type} (fin : ρ → Option Value × xMem) (pc : Nat) (lv : List (Nat × Value)) (st : List Value) (m : xMem) (res : Option ρ) : Prop := Xg E (fun z => xEnd E G (fin z)) pc lv st (xwd G m) res
def xGood (E : xE) (l0 : Launch) (S0 : xS) (own : String) (cc : ByteArray) (y : MethodName) (n : Nat) (ret : Option FieldType) (R0 : Room) : Prop :=
  match E with
  | (p, l, e, R, s, mm, args, below, meth, c, nL, ce, sl, A, S) =>
    p.tables.exec = Jvm.exec ∧ c.code = cc ∧ c.maxLocals = n ∧ nL = n ∧ s.vm.findClass own = some mm.cls ∧ (∀ w ∈ Cond.code y cc n ret :: GT, w.before args s = true) ∧ xNW s ∧ meth.sig.returnType = ret ∧ meth.locks = false ∧ R = R0 ∧ va_K S.1 vwCl (xtysS S) s ∧ S = S0 ∧ l = l0 ∧ (∀ q, s.heap.size ≤ q → A q) ∧ (ce ≤ R.cells ∧ sl ≤ R.slots) ∧ xSt S A s s.heap
/-- the shapes of a world -/
def xWG (G : xG) (sh : Nat → xSh) : Prop := xsh G = sh ∧ ∀ k, xN G ≤ k → sh k = .inr (9, 0, [])
theorem xGood_N {G : xG} {sh : Nat → xSh} (h : xWG G sh) {k : Nat} (hk : sh k ≠ .inr (9, 0, [])) : k < xN G ∧ xsh G k = sh k := by
  refine ⟨?_, by rw [h.1]⟩
  rcases Nat.lt_or_ge k (xN G) with q | q
  · exact q
  · exact absurd (h.2 k q) hk
/-- a method's contract out of the walk of its body -/
theorem xCt_of {l : Launch} {G : xG} {own : String} {y : MethodName} {b : ByteArray} {n : Nat} {ret : Option FieldType} {rm : Room} {av : List Value} {m : xMem} {ρ : Type} {fin : ρ → Option Value × xMem} {res : Option ρ} {lv : List (Nat × Value)}
    (hy : plainName y.cls = true) (hown : own = y.cls) (hlen : (lg_sl av).length ≤ n) (hlv : lv_args 0 av = lv) (hr0 : rm.cells = 0 ∧ rm.slots = 0)
    (h : ∀ E, xGood E l G.1 own b y n ret rm → X E G fin 0 lv [] m res) : xCt l G y b n ret rm av m (res.map fin) := by
  intro z hz sz
  obtain ⟨w, hw, rfl⟩ := Option.map_eq_some_iff.mp hz
  refine Met.ofW (cc := b) (maxL := n) (ret := ret) hy rfl ?_
  intro p e s mm args below meth c s₁ B hml hv
  obtain ⟨rfl, hsz, ⟨hP, hK, hD⟩, hNW, hT⟩ := hv
  subst hsz
  have hg : xGood (p, l, e, rm, s, mm, av.toArray, below, meth, c, n, 0, 0, xA G s.heap.size, G.1) l G.1 own b y n ret rm :=
    ⟨B.exec, B.bytes, hml, rfl, by rw [hown]; exact findClass_of_methodNamed B.named, atoms_spec (ws := Cond.code y b n ret :: GT) B.pre, hNW, B.returns, B.notSynchronized, rfl, hK, rfl, rfl, fun q h => Or.inr h, ⟨Nat.zero_le _, Nat.zero_le _⟩, hT⟩
  have hl := lv_entry av (n := n) hlen
  rw [lg_entry_eq]
  rw [hlv] at hl
  exact h _ hg w hw s.heap [] _ hl hP (xD_of hD) va_S.rf
-- ends and shapes of the pure function
section XR
variable {E : xE} {l0 : Launch} {S0 : xS} {G : xG} {own : String} {cc : ByteArray} {yy : MethodName} {n : Nat} {ret : Option FieldType} {R0 : Room} {sh : Nat → xSh} {ρ : Type} {fin : ρ → State → Prop} {pc : Nat} {lv : List (Nat × Value)} {st : List Value} {wd : va_W} {m : xMem} {res : Option ρ}
theorem x_none : Xg E fin pc lv st wd none := by
  obtain ⟨p, l, e, R, s, mm, args, below, meth, c, nL, ce, sl, A, S⟩ := E
  intro z hz
  cases hz
theorem x_if {c : Prop} {dc : Decidable c} {r1 r2 : Option ρ} (a : c → Xg E fin pc lv st wd r1) (b : ¬ c → Xg E fin pc lv st wd r2) : Xg E fin pc lv st wd (@ite _ c dc r1 r2) := by
  by_cases h : c
  · rw [if_pos h]; exact a h
  · rw [if_neg h]; exact b h
/-- a name for a value -/
def nm {α β : Type} (x : α) (f : α → β) : β := f x
theorem x_nmI {x : Int32} {f : Int32 → Option ρ} (k : ∀ y : Int32, Xg E fin pc lv (.int y :: st) wd (f y)) : Xg E fin pc lv (.int x :: st) wd (nm x f) := k x
theorem x_nmL {x : Int64} {f : Int64 → Option ρ} (k : ∀ y : Int64, Xg E fin pc lv (.long y :: st) wd (f y)) : Xg E fin pc lv (.long x :: st) wd (nm x f) := k x
theorem x_sub {lv' : List (Nat × Value)} (ks : List Nat) (k : Xg E fin pc lv' st wd res) (h : lv_pick lv ks = lv') : Xg E fin pc lv st wd res := by
  obtain ⟨p, l, e, R, s, mm, args, below, meth, c, nL, ce, sl, A, S⟩ := E
  intro z hz H locs ls hl hP hD hS
  exact k z hz H locs ls (lv_sub hl ks h) hP hD hS
/-- an index, tested -/
def ix (i : Int32) (n : Nat) : Option Nat := if 0 ≤ i.toInt ∧ i.toInt < n then some i.toNatClampNeg else none
theorem ix_in {i : Int32} {n j : Nat} (h : ix i n = some j) : vp_in i n ∧ i.toNatClampNeg = j ∧ j < n := by
  unfold ix at h
  split at h
  · next q =>
    cases h
    refine ⟨vp_in_iff.mpr q, rfl, ?_⟩
    have := (vp_in_iff.mpr q)
    exact Nat.not_le.mp fun z => this (Or.inr z)
  · cases h
/-- how many: 0 to n -/
def ixc (i : Int32) (n : Nat) : Option Nat := if 0 ≤ i.toInt ∧ i.toInt ≤ n then some i.toNatClampNeg else none
/-- a boolean: 0 or 1 -/
def rz (v : Int32) : Option Int32 := if v = 0 ∨ v = 1 then some v else none
theorem rz_in {v w : Int32} (h : rz v = some w) : v = w ∧ (v = 0 ∨ v = 1) := by
  unfold rz at h
  split at h
  · next q => cases h; exact ⟨rfl, q⟩
  · cases h
def i_rem (x y : Int32) : Int32 := x - x / y * y
def i_shl (x y : Int32) : Int32 := x <<< (y &&& 31)
def i_shr (x y : Int32) : Int32 := x >>> (y &&& 31)
def i_ushr (x y : Int32) : Int32 := (x.toUInt32 >>> (y.toUInt32 &&& Int32.toUInt32 31)).toInt32
def i_min (x y : Int32) : Int32 := if y < x then y else x
def i_max (x y : Int32) : Int32 := if x < y then y else x
def i_b (x : Int32) : Int32 := x.toInt8.toInt32
def i_l (x : Int32) : Int64 := x.toInt64
def l_i (x : Int64) : Int32 := x.toInt32
def l_shl (x : Int64) (y : Int32) : Int64 := x <<< (y.toInt64 &&& 63)
def l_shr (x : Int64) (y : Int32) : Int64 := x >>> (y.toInt64 &&& 63)
theorem x_iadd (g : xGood E l0 S0 own cc yy n ret R0) {x y : Int32} (d : decode cc pc = .ok (.iadd, 1)) (k : Xg E fin (pc + 1) lv (.int (x + y) :: st) wd res) : Xg E fin pc lv (.int y :: .int x :: st) wd res := by
  obtain ⟨p, l, e, R, s, mm, args, below, meth, c, nL, ce, sl, A, S⟩ := E
  intro z hz H locs ls hl hP hD hS
  exact lv_iadd g.1 g.2.1 d (k z hz H locs ls hl hP hD hS)
theorem x_isub (g : xGood E l0 S0 own cc yy n ret R0) {x y : Int32} (d : decode cc pc = .ok (.isub, 1)) (k : Xg E fin (pc + 1) lv (.int (x - y) :: st) wd res) : Xg E fin pc lv (.int y :: .int x :: st) wd res := by
  obtain ⟨p, l, e, R, s, mm, args, below, meth, c, nL, ce, sl, A, S⟩ := E
  intro z hz H locs ls hl hP hD hS
  exact lv_isub g.1 g.2.1 d (k z hz H locs ls hl hP hD hS)
theorem x_imul (g : xGood E l0 S0 own cc yy n ret R0) {x y : Int32} (d : decode cc pc = .ok (.imul, 1)) (k : Xg E fin (pc + 1) lv (.int (x * y) :: st) wd res) : Xg E fin pc lv (.int y :: .int x :: st) wd res := by
  obtain ⟨p, l, e, R, s, mm, args, below, meth, c, nL, ce, sl, A, S⟩ := E
  intro z hz H locs ls hl hP hD hS
  exact lv_imul g.1 g.2.1 d (k z hz H locs ls hl hP hD hS)
theorem x_iand (g : xGood E l0 S0 own cc yy n ret R0) {x y : Int32} (d : decode cc pc = .ok (.iand, 1)) (k : Xg E fin (pc + 1) lv (.int (x &&& y) :: st) wd res) : Xg E fin pc lv (.int y :: .int x :: st) wd res := by
  obtain ⟨p, l, e, R, s, mm, args, below, meth, c, nL, ce, sl, A, S⟩ := E
  intro z hz H locs ls hl hP hD hS
  exact lv_iand g.1 g.2.1 d (k z hz H locs ls hl hP hD hS)
theorem x_ior (g : xGood E l0 S0 own cc yy n ret R0) {x y : Int32} (d : decode cc pc = .ok (.ior, 1)) (k : Xg E fin (pc + 1) lv (.int (x ||| y) :: st) wd res) : Xg E fin pc lv (.int y :: .int x :: st) wd res := by
  obtain ⟨p, l, e, R, s, mm, args, below, meth, c, nL, ce, sl, A, S⟩ := E
  intro z hz H locs ls hl hP hD hS
  exact lv_ior g.1 g.2.1 d (k z hz H locs ls hl hP hD hS)
theorem x_ixor (g : xGood E l0 S0 own cc yy n ret R0) {x y : Int32} (d : decode cc pc = .ok (.ixor, 1)) (k : Xg E fin (pc + 1) lv (.int (x ^^^ y) :: st) wd res) : Xg E fin pc lv (.int y :: .int x :: st) wd res := by
  obtain ⟨p, l, e, R, s, mm, args, below, meth, c, nL, ce, sl, A, S⟩ := E
  intro z hz H locs ls hl hP hD hS
  exact lv_ixor g.1 g.2.1 d (k z hz H locs ls hl hP hD hS)
theorem x_ishl (g : xGood E l0 S0 own cc yy n ret R0) {x y : Int32} (d : decode cc pc = .ok (.ishl, 1)) (k : Xg E fin (pc + 1) lv (.int (i_shl x y) :: st) wd res) : Xg E fin pc lv (.int y :: .int x :: st) wd res := by
  obtain ⟨p, l, e, R, s, mm, args, below, meth, c, nL, ce, sl, A, S⟩ := E
  intro z hz H locs ls hl hP hD hS
  exact lv_ishl g.1 g.2.1 d (k z hz H locs ls hl hP hD hS)
theorem x_ishr (g : xGood E l0 S0 own cc yy n ret R0) {x y : Int32} (d : decode cc pc = .ok (.ishr, 1)) (k : Xg E fin (pc + 1) lv (.int (i_shr x y) :: st) wd res) : Xg E fin pc lv (.int y :: .int x :: st) wd res := by
  obtain ⟨p, l, e, R, s, mm, args, below, meth, c, nL, ce, sl, A, S⟩ := E
  intro z hz H locs ls hl hP hD hS
  exact lv_ishr g.1 g.2.1 d (k z hz H locs ls hl hP hD hS)
theorem x_iushr (g : xGood E l0 S0 own cc yy n ret R0) {x y : Int32} (d : decode cc pc = .ok (.iushr, 1)) (k : Xg E fin (pc + 1) lv (.int (i_ushr x y) :: st) wd res) : Xg E fin pc lv (.int y :: .int x :: st) wd res := by
  obtain ⟨p, l, e, R, s, mm, args, below, meth, c, nL, ce, sl, A, S⟩ := E
  intro z hz H locs ls hl hP hD hS
  exact lv_iushr g.1 g.2.1 d rfl (k z hz H locs ls hl hP hD hS)
theorem x_idiv (g : xGood E l0 S0 own cc yy n ret R0) {x y : Int32} (d : decode cc pc = .ok (.idiv, 1)) (h0 : ¬ y = 0) (k : Xg E fin (pc + 1) lv (.int (x / y) :: st) wd res) : Xg E fin pc lv (.int y :: .int x :: st) wd res := by
  obtain ⟨p, l, e, R, s, mm, args, below, meth, c, nL, ce, sl, A, S⟩ := E
  intro z hz H locs ls hl hP hD hS
  exact lv_idiv g.1 g.2.1 d h0 (k z hz H locs ls hl hP hD hS)
theorem x_irem (g : xGood E l0 S0 own cc yy n ret R0) {x y : Int32} (d : decode cc pc = .ok (.irem, 1)) (h0 : ¬ y = 0) (k : Xg E fin (pc + 1) lv (.int (i_rem x y) :: st) wd res) : Xg E fin pc lv (.int y :: .int x :: st) wd res := by
  obtain ⟨p, l, e, R, s, mm, args, below, meth, c, nL, ce, sl, A, S⟩ := E
  intro z hz H locs ls hl hP hD hS
  exact lv_irem g.1 g.2.1 d h0 (k z hz H locs ls hl hP hD hS)
theorem x_ineg (g : xGood E l0 S0 own cc yy n ret R0) {x : Int32} (d : decode cc pc = .ok (.ineg, 1)) (k : Xg E fin (pc + 1) lv (.int (-x) :: st) wd res) : Xg E fin pc lv (.int x :: st) wd res := by
  obtain ⟨p, l, e, R, s, mm, args, below, meth, c, nL, ce, sl, A, S⟩ := E
  intro z hz H locs ls hl hP hD hS
  exact lv_ineg g.1 g.2.1 d (k z hz H locs ls hl hP hD hS)
theorem x_i2l (g : xGood E l0 S0 own cc yy n ret R0) {x : Int32} (d : decode cc pc = .ok (.i2l, 1)) (k : Xg E fin (pc + 1) lv (.long (i_l x) :: st) wd res) : Xg E fin pc lv (.int x :: st) wd res := by
  obtain ⟨p, l, e, R, s, mm, args, below, meth, c, nL, ce, sl, A, S⟩ := E
  intro z hz H locs ls hl hP hD hS
  exact lv_i2l g.1 g.2.1 d rfl (k z hz H locs ls hl hP hD hS)
theorem x_l2i (g : xGood E l0 S0 own cc yy n ret R0) {x : Int64} (d : decode cc pc = .ok (.l2i, 1)) (k : Xg E fin (pc + 1) lv (.int (l_i x) :: st) wd res) : Xg E fin pc lv (.long x :: st) wd res := by
  obtain ⟨p, l, e, R, s, mm, args, below, meth, c, nL, ce, sl, A, S⟩ := E
  intro z hz H locs ls hl hP hD hS
  exact lv_l2i g.1 g.2.1 d rfl (k z hz H locs ls hl hP hD hS)
theorem x_i2b (g : xGood E l0 S0 own cc yy n ret R0) {x : Int32} (d : decode cc pc = .ok (.i2b, 1)) (k : Xg E fin (pc + 1) lv (.int (i_b x) :: st) wd res) : Xg E fin pc lv (.int x :: st) wd res := by
  obtain ⟨p, l, e, R, s, mm, args, below, meth, c, nL, ce, sl, A, S⟩ := E
  intro z hz H locs ls hl hP hD hS
  exact lv_i2b g.1 g.2.1 d rfl (k z hz H locs ls hl hP hD hS)
theorem x_ladd (g : xGood E l0 S0 own cc yy n ret R0) {x y : Int64} (d : decode cc pc = .ok (.ladd, 1)) (k : Xg E fin (pc + 1) lv (.long (x + y) :: st) wd res) : Xg E fin pc lv (.long y :: .long x :: st) wd res := by
  obtain ⟨p, l, e, R, s, mm, args, below, meth, c, nL, ce, sl, A, S⟩ := E
  intro z hz H locs ls hl hP hD hS
  exact lv_ladd g.1 g.2.1 d (k z hz H locs ls hl hP hD hS)
theorem x_lmul (g : xGood E l0 S0 own cc yy n ret R0) {x y : Int64} (d : decode cc pc = .ok (.lmul, 1)) (k : Xg E fin (pc + 1) lv (.long (x * y) :: st) wd res) : Xg E fin pc lv (.long y :: .long x :: st) wd res := by
  obtain ⟨p, l, e, R, s, mm, args, below, meth, c, nL, ce, sl, A, S⟩ := E
  intro z hz H locs ls hl hP hD hS
  exact lv_lmul g.1 g.2.1 d (k z hz H locs ls hl hP hD hS)
theorem x_land (g : xGood E l0 S0 own cc yy n ret R0) {x y : Int64} (d : decode cc pc = .ok (.land, 1)) (k : Xg E fin (pc + 1) lv (.long (x &&& y) :: st) wd res) : Xg E fin pc lv (.long y :: .long x :: st) wd res := by
  obtain ⟨p, l, e, R, s, mm, args, below, meth, c, nL, ce, sl, A, S⟩ := E
  intro z hz H locs ls hl hP hD hS
  exact lv_land g.1 g.2.1 d (k z hz H locs ls hl hP hD hS)
theorem x_lor (g : xGood E l0 S0 own cc yy n ret R0) {x y : Int64} (d : decode cc pc = .ok (.lor, 1)) (k : Xg E fin (pc + 1) lv (.long (x ||| y) :: st) wd res) : Xg E fin pc lv (.long y :: .long x :: st) wd res := by
  obtain ⟨p, l, e, R, s, mm, args, below, meth, c, nL, ce, sl, A, S⟩ := E
  intro z hz H locs ls hl hP hD hS
  exact lv_lor g.1 g.2.1 d (k z hz H locs ls hl hP hD hS)
theorem x_lshl (g : xGood E l0 S0 own cc yy n ret R0) {x : Int64} {y : Int32} (d : decode cc pc = .ok (.lshl, 1)) (k : Xg E fin (pc + 1) lv (.long (l_shl x y) :: st) wd res) : Xg E fin pc lv (.int y :: .long x :: st) wd res := by
  obtain ⟨p, l, e, R, s, mm, args, below, meth, c, nL, ce, sl, A, S⟩ := E
  intro z hz H locs ls hl hP hD hS
  exact lv_lshl g.1 g.2.1 d rfl (k z hz H locs ls hl hP hD hS)
theorem x_lshr (g : xGood E l0 S0 own cc yy n ret R0) {x : Int64} {y : Int32} (d : decode cc pc = .ok (.lshr, 1)) (k : Xg E fin (pc + 1) lv (.long (l_shr x y) :: st) wd res) : Xg E fin pc lv (.int y :: .long x :: st) wd res := by
  obtain ⟨p, l, e, R, s, mm, args, below, meth, c, nL, ce, sl, A, S⟩ := E
  intro z hz H locs ls hl hP hD hS
  exact lv_lshr g.1 g.2.1 d rfl (k z hz H locs ls hl hP hD hS)
theorem x_lcmp (g : xGood E l0 S0 own cc yy n ret R0) {x y : Int64} (d : decode cc pc = .ok (.lcmp, 1)) (k : Xg E fin (pc + 1) lv (.int (lg_cmp x y) :: st) wd res) : Xg E fin pc lv (.long y :: .long x :: st) wd res := by
  obtain ⟨p, l, e, R, s, mm, args, below, meth, c, nL, ce, sl, A, S⟩ := E
  intro z hz H locs ls hl hP hD hS
  exact W.lcmp g.1 g.2.1 d (k z hz H locs ls hl hP hD hS)
theorem x_iconst (g : xGood E l0 S0 own cc yy n ret R0) {q : Int} {v : Int32} (d : decode cc pc = .ok (.iconst q, 1)) (hv : Int32.ofInt q = v) (k : Xg E fin (pc + 1) lv (.int v :: st) wd res) : Xg E fin pc lv st wd res := by
  obtain ⟨p, l, e, R, s, mm, args, below, meth, c, nL, ce, sl, A, S⟩ := E
  intro z hz H locs ls hl hP hD hS
  exact lv_iconst g.1 g.2.1 d hv (k z hz H locs ls hl hP hD hS)
theorem x_bipush (g : xGood E l0 S0 own cc yy n ret R0) {q : Int} {v : Int32} (d : decode cc pc = .ok (.bipush q, 2)) (hv : (Int8.ofInt q).toInt32 = v) (k : Xg E fin (pc + 2) lv (.int v :: st) wd res) : Xg E fin pc lv st wd res := by
  obtain ⟨p, l, e, R, s, mm, args, below, meth, c, nL, ce, sl, A, S⟩ := E
  intro z hz H locs ls hl hP hD hS
  exact lv_bipush g.1 g.2.1 d hv (k z hz H locs ls hl hP hD hS)
theorem x_sipush (g : xGood E l0 S0 own cc yy n ret R0) {q : Int} {v : Int32} (d : decode cc pc = .ok (.sipush q, 3)) (hv : (Int16.ofInt q).toInt32 = v) (k : Xg E fin (pc + 3) lv (.int v :: st) wd res) : Xg E fin pc lv st wd res := by
  obtain ⟨p, l, e, R, s, mm, args, below, meth, c, nL, ce, sl, A, S⟩ := E
  intro z hz H locs ls hl hP hD hS
  exact lv_sipush g.1 g.2.1 d hv (k z hz H locs ls hl hP hD hS)
theorem x_lconst (g : xGood E l0 S0 own cc yy n ret R0) {q : Fin 2} {v : Int64} (d : decode cc pc = .ok (.lconst q, 1)) (hv : Int64.ofNat (q : Nat) = v) (k : Xg E fin (pc + 1) lv (.long v :: st) wd res) : Xg E fin pc lv st wd res := by
  obtain ⟨p, l, e, R, s, mm, args, below, meth, c, nL, ce, sl, A, S⟩ := E
  intro z hz H locs ls hl hP hD hS
  exact lv_lconst g.1 g.2.1 d hv (k z hz H locs ls hl hP hD hS)
theorem x_iload_n (g : xGood E l0 S0 own cc yy n ret R0) {q : Fin 4} {i a : Nat} {x : Int32} (d : decode cc pc = .ok (.iload_n q, 1)) (hi : (q : Nat) = i) (ha : lv[a]? = some (i, .int x)) (k : Xg E fin (pc + 1) lv (.int x :: st) wd res) : Xg E fin pc lv st wd res := by
  obtain ⟨p, l, e, R, s, mm, args, below, meth, c, nL, ce, sl, A, S⟩ := E
  intro z hz H locs ls hl hP hD hS
  exact lv_iload_n g.1 g.2.1 d hi (lv_at hl a ha) (k z hz H locs ls hl hP hD hS)
theorem x_iload (g : xGood E l0 S0 own cc yy n ret R0) {i a : Nat} {x : Int32} (d : decode cc pc = .ok (.iload i, 2)) (ha : lv[a]? = some (i, .int x)) (k : Xg E fin (pc + 2) lv (.int x :: st) wd res) : Xg E fin pc lv st wd res := by
  obtain ⟨p, l, e, R, s, mm, args, below, meth, c, nL, ce, sl, A, S⟩ := E
  intro z hz H locs ls hl hP hD hS
  exact lv_iload g.1 g.2.1 d (lv_at hl a ha) (k z hz H locs ls hl hP hD hS)
theorem x_lload_n (g : xGood E l0 S0 own cc yy n ret R0) {q : Fin 4} {i a : Nat} {x : Int64} (d : decode cc pc = .ok (.lload_n q, 1)) (hi : (q : Nat) = i) (ha : lv[a]? = some (i, .long x)) (k : Xg E fin (pc + 1) lv (.long x :: st) wd res) : Xg E fin pc lv st wd res := by
  obtain ⟨p, l, e, R, s, mm, args, below, meth, c, nL, ce, sl, A, S⟩ := E
  intro z hz H locs ls hl hP hD hS
  exact lv_lload_n g.1 g.2.1 d hi (lv_at hl a ha) (k z hz H locs ls hl hP hD hS)
theorem x_lload (g : xGood E l0 S0 own cc yy n ret R0) {i a : Nat} {x : Int64} (d : decode cc pc = .ok (.lload i, 2)) (ha : lv[a]? = some (i, .long x)) (k : Xg E fin (pc + 2) lv (.long x :: st) wd res) : Xg E fin pc lv st wd res := by
  obtain ⟨p, l, e, R, s, mm, args, below, meth, c, nL, ce, sl, A, S⟩ := E
  intro z hz H locs ls hl hP hD hS
  exact lv_lload g.1 g.2.1 d (lv_at hl a ha) (k z hz H locs ls hl hP hD hS)
theorem x_aload_n (g : xGood E l0 S0 own cc yy n ret R0) {q : Fin 4} {i a : Nat} {x : Nat} (d : decode cc pc = .ok (.aload_n q, 1)) (hi : (q : Nat) = i) (ha : lv[a]? = some (i, .ref x)) (k : Xg E fin (pc + 1) lv (.ref x :: st) wd res) : Xg E fin pc lv st wd res := by
  obtain ⟨p, l, e, R, s, mm, args, below, meth, c, nL, ce, sl, A, S⟩ := E
  intro z hz H locs ls hl hP hD hS
  exact lv_aload_n g.1 g.2.1 d hi (lv_at hl a ha) (k z hz H locs ls hl hP hD hS)
theorem x_aload (g : xGood E l0 S0 own cc yy n ret R0) {i a : Nat} {x : Nat} (d : decode cc pc = .ok (.aload i, 2)) (ha : lv[a]? = some (i, .ref x)) (k : Xg E fin (pc + 2) lv (.ref x :: st) wd res) : Xg E fin pc lv st wd res := by
  obtain ⟨p, l, e, R, s, mm, args, below, meth, c, nL, ce, sl, A, S⟩ := E
  intro z hz H locs ls hl hP hD hS
  exact lv_aload g.1 g.2.1 d (lv_at hl a ha) (k z hz H locs ls hl hP hD hS)
theorem x_istore_n (g : xGood E l0 S0 own cc yy n ret R0) {q : Fin 4} {i : Nat} {x : Int32} {lv' : List (Nat × Value)} (d : decode cc pc = .ok (.istore_n q, 1)) (hi : (q : Nat) = i) (hn : i < n) (hf : (i, Value.int x) :: lv.filter (fun q => !(q.1 == i) && !(q.1 + 1 == i && q.2.category == 2)) = lv') (k : Xg E fin (pc + 1) lv' st wd res) : Xg E fin pc lv (.int x :: st) wd res := by
  obtain ⟨p, l, e, R, s, mm, args, below, meth, c, nL, ce, sl, A, S⟩ := E
  intro z hz H locs ls hl hP hD hS
  obtain ⟨-, -, -, hnl, -⟩ := id g
  subst hnl
  exact lv_istore_n g.1 g.2.1 d hi hl hn hf (fun ls hl => k z hz H locs ls hl hP hD hS)
theorem x_istore (g : xGood E l0 S0 own cc yy n ret R0) {i : Nat} {x : Int32} {lv' : List (Nat × Value)} (d : decode cc pc = .ok (.istore i, 2)) (hn : i < n) (hf : (i, Value.int x) :: lv.filter (fun q => !(q.1 == i) && !(q.1 + 1 == i && q.2.category == 2)) = lv') (k : Xg E fin (pc + 2) lv' st wd res) : Xg E fin pc lv (.int x :: st) wd res := by
  obtain ⟨p, l, e, R, s, mm, args, below, meth, c, nL, ce, sl, A, S⟩ := E
  intro z hz H locs ls hl hP hD hS
  obtain ⟨-, -, -, hnl, -⟩ := id g
  subst hnl
  exact lv_istore g.1 g.2.1 d hl hn hf (fun ls hl => k z hz H locs ls hl hP hD hS)
theorem x_astore_n (g : xGood E l0 S0 own cc yy n ret R0) {q : Fin 4} {i : Nat} {x : Nat} {lv' : List (Nat × Value)} (d : decode cc pc = .ok (.astore_n q, 1)) (hi : (q : Nat) = i) (hn : i < n) (hf : (i, Value.ref x) :: lv.filter (fun q => !(q.1 == i) && !(q.1 + 1 == i && q.2.category == 2)) = lv') (k : Xg E fin (pc + 1) lv' st wd res) : Xg E fin pc lv (.ref x :: st) wd res := by
  obtain ⟨p, l, e, R, s, mm, args, below, meth, c, nL, ce, sl, A, S⟩ := E
  intro z hz H locs ls hl hP hD hS
  obtain ⟨-, -, -, hnl, -⟩ := id g
  subst hnl
  exact lv_astore_n g.1 g.2.1 d hi hl hn hf (fun ls hl => k z hz H locs ls hl hP hD hS)
theorem x_astore (g : xGood E l0 S0 own cc yy n ret R0) {i : Nat} {x : Nat} {lv' : List (Nat × Value)} (d : decode cc pc = .ok (.astore i, 2)) (hn : i < n) (hf : (i, Value.ref x) :: lv.filter (fun q => !(q.1 == i) && !(q.1 + 1 == i && q.2.category == 2)) = lv') (k : Xg E fin (pc + 2) lv' st wd res) : Xg E fin pc lv (.ref x :: st) wd res := by
  obtain ⟨p, l, e, R, s, mm, args, below, meth, c, nL, ce, sl, A, S⟩ := E
  intro z hz H locs ls hl hP hD hS
  obtain ⟨-, -, -, hnl, -⟩ := id g
  subst hnl
  exact lv_astore g.1 g.2.1 d hl hn hf (fun ls hl => k z hz H locs ls hl hP hD hS)
theorem x_lstore_n (g : xGood E l0 S0 own cc yy n ret R0) {q : Fin 4} {i : Nat} {x : Int64} {lv' : List (Nat × Value)} (d : decode cc pc = .ok (.lstore_n q, 1)) (hi : (q : Nat) = i) (hn : i + 1 < n) (hf : (i, Value.long x) :: lv.filter (fun q => !(q.1 == i) && (!(q.1 == i + 1) && !(q.1 + 1 == i && q.2.category == 2))) = lv') (k : Xg E fin (pc + 1) lv' st wd res) : Xg E fin pc lv (.long x :: st) wd res := by
  obtain ⟨p, l, e, R, s, mm, args, below, meth, c, nL, ce, sl, A, S⟩ := E
  intro z hz H locs ls hl hP hD hS
  obtain ⟨-, -, -, hnl, -⟩ := id g
  subst hnl
  exact lv_lstore_n g.1 g.2.1 d hi hl hn hf (fun ls hl => k z hz H locs ls hl hP hD hS)
theorem x_lstore (g : xGood E l0 S0 own cc yy n ret R0) {i : Nat} {x : Int64} {lv' : List (Nat × Value)} (d : decode cc pc = .ok (.lstore i, 2)) (hn : i + 1 < n) (hf : (i, Value.long x) :: lv.filter (fun q => !(q.1 == i) && (!(q.1 == i + 1) && !(q.1 + 1 == i && q.2.category == 2))) = lv') (k : Xg E fin (pc + 2) lv' st wd res) : Xg E fin pc lv (.long x :: st) wd res := by
  obtain ⟨p, l, e, R, s, mm, args, below, meth, c, nL, ce, sl, A, S⟩ := E
  intro z hz H locs ls hl hP hD hS
  obtain ⟨-, -, -, hnl, -⟩ := id g
  subst hnl
  exact lv_lstore g.1 g.2.1 d hl hn hf (fun ls hl => k z hz H locs ls hl hP hD hS)
theorem x_iinc (g : xGood E l0 S0 own cc yy n ret R0) {i a : Nat} {q : Int} {x w : Int32} {lv' : List (Nat × Value)} (d : decode cc pc = .ok (.iinc i q, 3)) (hw : Int32.ofInt q = w) (ha : lv[a]? = some (i, .int x)) (hn : i < n) (hf : (i, Value.int (x + w)) :: lv.filter (fun q => !(q.1 == i) && !(q.1 + 1 == i && q.2.category == 2)) = lv') (k : Xg E fin (pc + 3) lv' st wd res) : Xg E fin pc lv st wd res := by
  obtain ⟨p, l, e, R, s, mm, args, below, meth, c, nL, ce, sl, A, S⟩ := E
  intro z hz H locs ls hl hP hD hS
  obtain ⟨-, -, -, hnl, -⟩ := id g
  subst hnl
  exact lv_iinc g.1 g.2.1 d hl ha (by rw [hw]) hn hf (fun ls hl => k z hz H locs ls hl hP hD hS)
theorem x_dup (g : xGood E l0 S0 own cc yy n ret R0) {v : Value} (d : decode cc pc = .ok (.dup, 1)) (hv : v.category = 1) (k : Xg E fin (pc + 1) lv (v :: v :: st) wd res) : Xg E fin pc lv (v :: st) wd res := by
  obtain ⟨p, l, e, R, s, mm, args, below, meth, c, nL, ce, sl, A, S⟩ := E
  intro z hz H locs ls hl hP hD hS
  exact lv_dup g.1 g.2.1 d hv (k z hz H locs ls hl hP hD hS)
theorem x_dup2 (g : xGood E l0 S0 own cc yy n ret R0) {v w : Value} (d : decode cc pc = .ok (.dup2, 1)) (hv : v.category = 1) (hw : w.category = 1) (k : Xg E fin (pc + 1) lv (v :: w :: v :: w :: st) wd res) : Xg E fin pc lv (v :: w :: st) wd res := by
  obtain ⟨p, l, e, R, s, mm, args, below, meth, c, nL, ce, sl, A, S⟩ := E
  intro z hz H locs ls hl hP hD hS
  exact lv_dup2_11 g.1 g.2.1 d hv hw (k z hz H locs ls hl hP hD hS)
theorem x_pop (g : xGood E l0 S0 own cc yy n ret R0) {v : Value} (d : decode cc pc = .ok (.pop, 1)) (hv : v.category = 1) (k : Xg E fin (pc + 1) lv st wd res) : Xg E fin pc lv (v :: st) wd res := by
  obtain ⟨p, l, e, R, s, mm, args, below, meth, c, nL, ce, sl, A, S⟩ := E
  intro z hz H locs ls hl hP hD hS
  exact lv_pop g.1 g.2.1 d hv (k z hz H locs ls hl hP hD hS)
theorem x_goto (g : xGood E l0 S0 own cc yy n ret R0) {off : Int} {t : Nat} (d : decode cc pc = .ok (.goto off, 3)) (ht : (pc : Int) + off = (t : Int)) (k : Xg E fin t lv st wd res) : Xg E fin pc lv st wd res := by
  obtain ⟨p, l, e, R, s, mm, args, below, meth, c, nL, ce, sl, A, S⟩ := E
  intro z hz H locs ls hl hP hD hS
  exact lv_goto g.1 g.2.1 d ht (k z hz H locs ls hl hP hD hS)
theorem i32_nlt {x y : Int32} : ¬ x < y ↔ y ≤ x := by rw [Int32.lt_iff_toInt_lt, Int32.le_iff_toInt_le]; omega
theorem i32_nle {x y : Int32} : ¬ y ≤ x ↔ x < y := by rw [Int32.lt_iff_toInt_lt, Int32.le_iff_toInt_le]; omega
theorem x_icmp_ge (g : xGood E l0 S0 own cc yy n ret R0) {x y : Int32} {off : Int} {t : Nat} {r1 r2 : Option ρ} (d : decode cc pc = .ok (.if_icmp .ge off, 3)) (ht : (pc : Int) + off = (t : Int)) (k1 : Xg E fin (pc + 3) lv st wd r1) (k2 : Xg E fin t lv st wd r2) : Xg E fin pc lv (.int y :: .int x :: st) wd (if x < y then r1 else r2) := by
  obtain ⟨p, l, e, R, s, mm, args, below, meth, c, nL, ce, sl, A, S⟩ := E
  intro z hz H locs ls hl hP hD hS
  exact lv_icmp_ge g.1 g.2.1 d ht (fun h => k2 z (by rw [if_neg (i32_nlt.mpr h)] at hz; exact hz) H locs ls hl hP hD hS) (fun h => k1 z (by rw [if_pos (i32_nle.mp h)] at hz; exact hz) H locs ls hl hP hD hS)
theorem x_icmp_lt (g : xGood E l0 S0 own cc yy n ret R0) {x y : Int32} {off : Int} {t : Nat} {r1 r2 : Option ρ} (d : decode cc pc = .ok (.if_icmp .lt off, 3)) (ht : (pc : Int) + off = (t : Int)) (k1 : Xg E fin t lv st wd r1) (k2 : Xg E fin (pc + 3) lv st wd r2) : Xg E fin pc lv (.int y :: .int x :: st) wd (if x < y then r1 else r2) := by
  obtain ⟨p, l, e, R, s, mm, args, below, meth, c, nL, ce, sl, A, S⟩ := E
  intro z hz H locs ls hl hP hD hS
  exact lv_icmp_lt g.1 g.2.1 d ht (fun h => k1 z (by rw [if_pos (h)] at hz; exact hz) H locs ls hl hP hD hS) (fun h => k2 z (by rw [if_neg (h)] at hz; exact hz) H locs ls hl hP hD hS)
theorem x_icmp_le (g : xGood E l0 S0 own cc yy n ret R0) {x y : Int32} {off : Int} {t : Nat} {r1 r2 : Option ρ} (d : decode cc pc = .ok (.if_icmp .le off, 3)) (ht : (pc : Int) + off = (t : Int)) (k1 : Xg E fin (pc + 3) lv st wd r1) (k2 : Xg E fin t lv st wd r2) : Xg E fin pc lv (.int y :: .int x :: st) wd (if y < x then r1 else r2) := by
  obtain ⟨p, l, e, R, s, mm, args, below, meth, c, nL, ce, sl, A, S⟩ := E
  intro z hz H locs ls hl hP hD hS
  exact lv_icmp_le g.1 g.2.1 d ht (fun h => k2 z (by rw [if_neg (i32_nlt.mpr h)] at hz; exact hz) H locs ls hl hP hD hS) (fun h => k1 z (by rw [if_pos (i32_nle.mp h)] at hz; exact hz) H locs ls hl hP hD hS)
theorem x_icmp_gt (g : xGood E l0 S0 own cc yy n ret R0) {x y : Int32} {off : Int} {t : Nat} {r1 r2 : Option ρ} (d : decode cc pc = .ok (.if_icmp .gt off, 3)) (ht : (pc : Int) + off = (t : Int)) (k1 : Xg E fin t lv st wd r1) (k2 : Xg E fin (pc + 3) lv st wd r2) : Xg E fin pc lv (.int y :: .int x :: st) wd (if y < x then r1 else r2) := by
  obtain ⟨p, l, e, R, s, mm, args, below, meth, c, nL, ce, sl, A, S⟩ := E
  intro z hz H locs ls hl hP hD hS
  exact lv_icmp_gt g.1 g.2.1 d ht (fun h => k1 z (by rw [if_pos (h)] at hz; exact hz) H locs ls hl hP hD hS) (fun h => k2 z (by rw [if_neg (h)] at hz; exact hz) H locs ls hl hP hD hS)
theorem x_icmp_eq (g : xGood E l0 S0 own cc yy n ret R0) {x y : Int32} {off : Int} {t : Nat} {r1 r2 : Option ρ} (d : decode cc pc = .ok (.if_icmp .eq off, 3)) (ht : (pc : Int) + off = (t : Int)) (k1 : Xg E fin t lv st wd r1) (k2 : Xg E fin (pc + 3) lv st wd r2) : Xg E fin pc lv (.int y :: .int x :: st) wd (if x = y then r1 else r2) := by
  obtain ⟨p, l, e, R, s, mm, args, below, meth, c, nL, ce, sl, A, S⟩ := E
  intro z hz H locs ls hl hP hD hS
  exact lv_icmp_eq g.1 g.2.1 d ht (fun h => k1 z (by rw [if_pos (h)] at hz; exact hz) H locs ls hl hP hD hS) (fun h => k2 z (by rw [if_neg (h)] at hz; exact hz) H locs ls hl hP hD hS)
theorem x_icmp_ne (g : xGood E l0 S0 own cc yy n ret R0) {x y : Int32} {off : Int} {t : Nat} {r1 r2 : Option ρ} (d : decode cc pc = .ok (.if_icmp .ne off, 3)) (ht : (pc : Int) + off = (t : Int)) (k1 : Xg E fin (pc + 3) lv st wd r1) (k2 : Xg E fin t lv st wd r2) : Xg E fin pc lv (.int y :: .int x :: st) wd (if x = y then r1 else r2) := by
  obtain ⟨p, l, e, R, s, mm, args, below, meth, c, nL, ce, sl, A, S⟩ := E
  intro z hz H locs ls hl hP hD hS
  exact lv_icmp_ne g.1 g.2.1 d ht (fun h => k2 z (by rw [if_neg (h)] at hz; exact hz) H locs ls hl hP hD hS) (fun h => k1 z (by rw [if_pos (h)] at hz; exact hz) H locs ls hl hP hD hS)
theorem x_if_ge (g : xGood E l0 S0 own cc yy n ret R0) {x : Int32} {off : Int} {t : Nat} {r1 r2 : Option ρ} (d : decode cc pc = .ok (.ifCond .ge off, 3)) (ht : (pc : Int) + off = (t : Int)) (k1 : Xg E fin (pc + 3) lv st wd r1) (k2 : Xg E fin t lv st wd r2) : Xg E fin pc lv (.int x :: st) wd (if x < 0 then r1 else r2) := by
  obtain ⟨p, l, e, R, s, mm, args, below, meth, c, nL, ce, sl, A, S⟩ := E
  intro z hz H locs ls hl hP hD hS
  exact lv_if_ge g.1 g.2.1 d ht (fun h => k2 z (by rw [if_neg (i32_nlt.mpr h)] at hz; exact hz) H locs ls hl hP hD hS) (fun h => k1 z (by rw [if_pos (i32_nle.mp h)] at hz; exact hz) H locs ls hl hP hD hS)
theorem x_if_lt (g : xGood E l0 S0 own cc yy n ret R0) {x : Int32} {off : Int} {t : Nat} {r1 r2 : Option ρ} (d : decode cc pc = .ok (.ifCond .lt off, 3)) (ht : (pc : Int) + off = (t : Int)) (k1 : Xg E fin t lv st wd r1) (k2 : Xg E fin (pc + 3) lv st wd r2) : Xg E fin pc lv (.int x :: st) wd (if x < 0 then r1 else r2) := by
  obtain ⟨p, l, e, R, s, mm, args, below, meth, c, nL, ce, sl, A, S⟩ := E
  intro z hz H locs ls hl hP hD hS
  exact lv_if_lt g.1 g.2.1 d ht (fun h => k1 z (by rw [if_pos (h)] at hz; exact hz) H locs ls hl hP hD hS) (fun h => k2 z (by rw [if_neg (h)] at hz; exact hz) H locs ls hl hP hD hS)
theorem x_if_le (g : xGood E l0 S0 own cc yy n ret R0) {x : Int32} {off : Int} {t : Nat} {r1 r2 : Option ρ} (d : decode cc pc = .ok (.ifCond .le off, 3)) (ht : (pc : Int) + off = (t : Int)) (k1 : Xg E fin (pc + 3) lv st wd r1) (k2 : Xg E fin t lv st wd r2) : Xg E fin pc lv (.int x :: st) wd (if 0 < x then r1 else r2) := by
  obtain ⟨p, l, e, R, s, mm, args, below, meth, c, nL, ce, sl, A, S⟩ := E
  intro z hz H locs ls hl hP hD hS
  exact lv_if_le g.1 g.2.1 d ht (fun h => k2 z (by rw [if_neg (i32_nlt.mpr h)] at hz; exact hz) H locs ls hl hP hD hS) (fun h => k1 z (by rw [if_pos (i32_nle.mp h)] at hz; exact hz) H locs ls hl hP hD hS)
theorem x_if_gt (g : xGood E l0 S0 own cc yy n ret R0) {x : Int32} {off : Int} {t : Nat} {r1 r2 : Option ρ} (d : decode cc pc = .ok (.ifCond .gt off, 3)) (ht : (pc : Int) + off = (t : Int)) (k1 : Xg E fin t lv st wd r1) (k2 : Xg E fin (pc + 3) lv st wd r2) : Xg E fin pc lv (.int x :: st) wd (if 0 < x then r1 else r2) := by
  obtain ⟨p, l, e, R, s, mm, args, below, meth, c, nL, ce, sl, A, S⟩ := E
  intro z hz H locs ls hl hP hD hS
  exact lv_if_gt g.1 g.2.1 d ht (fun h => k1 z (by rw [if_pos (h)] at hz; exact hz) H locs ls hl hP hD hS) (fun h => k2 z (by rw [if_neg (h)] at hz; exact hz) H locs ls hl hP hD hS)
theorem x_if_eq (g : xGood E l0 S0 own cc yy n ret R0) {x : Int32} {off : Int} {t : Nat} {r1 r2 : Option ρ} (d : decode cc pc = .ok (.ifCond .eq off, 3)) (ht : (pc : Int) + off = (t : Int)) (k1 : Xg E fin t lv st wd r1) (k2 : Xg E fin (pc + 3) lv st wd r2) : Xg E fin pc lv (.int x :: st) wd (if x = 0 then r1 else r2) := by
  obtain ⟨p, l, e, R, s, mm, args, below, meth, c, nL, ce, sl, A, S⟩ := E
  intro z hz H locs ls hl hP hD hS
  exact lv_if_eq g.1 g.2.1 d ht (fun h => k1 z (by rw [if_pos (h)] at hz; exact hz) H locs ls hl hP hD hS) (fun h => k2 z (by rw [if_neg (h)] at hz; exact hz) H locs ls hl hP hD hS)
theorem x_if_ne (g : xGood E l0 S0 own cc yy n ret R0) {x : Int32} {off : Int} {t : Nat} {r1 r2 : Option ρ} (d : decode cc pc = .ok (.ifCond .ne off, 3)) (ht : (pc : Int) + off = (t : Int)) (k1 : Xg E fin (pc + 3) lv st wd r1) (k2 : Xg E fin t lv st wd r2) : Xg E fin pc lv (.int x :: st) wd (if x = 0 then r1 else r2) := by
  obtain ⟨p, l, e, R, s, mm, args, below, meth, c, nL, ce, sl, A, S⟩ := E
  intro z hz H locs ls hl hP hD hS
  exact lv_if_ne g.1 g.2.1 d ht (fun h => k2 z (by rw [if_neg (h)] at hz; exact hz) H locs ls hl hP hD hS) (fun h => k1 z (by rw [if_pos (h)] at hz; exact hz) H locs ls hl hP hD hS)
theorem x_tabIn (g : xGood E l0 S0 own cc yy n ret R0) {df lo hi off : Int} {offs : Array Int} {len t : Nat} {x v : Int32} (d : decode cc pc = .ok (.tableswitch df lo hi offs, len)) (hx : x = v) (h1 : ¬ v.toInt < lo ∧ ¬ hi < v.toInt ∧ offs[(v.toInt - lo).toNat]? = some off ∧ (pc : Int) + off = (t : Int)) (k : Xg E fin t lv st wd res) : Xg E fin pc lv (.int x :: st) wd res := by
  subst hx
  obtain ⟨p, l, e, R, s, mm, args, below, meth, c, nL, ce, sl, A, S⟩ := E
  intro z hz H locs ls hl hP hD hS
  exact lv_tableIn g.1 g.2.1 d h1.1 h1.2.1 h1.2.2.1 h1.2.2.2 (k z hz H locs ls hl hP hD hS)
theorem x_tabOut (g : xGood E l0 S0 own cc yy n ret R0) {df lo hi : Int} {offs : Array Int} {len t : Nat} {x : Int32} (d : decode cc pc = .ok (.tableswitch df lo hi offs, len)) (h : x.toInt < lo ∨ hi < x.toInt) (ht : (pc : Int) + df = (t : Int)) (k : Xg E fin t lv st wd res) : Xg E fin pc lv (.int x :: st) wd res := by
  obtain ⟨p, l, e, R, s, mm, args, below, meth, c, nL, ce, sl, A, S⟩ := E
  intro z hz H locs ls hl hP hD hS
  exact lv_tableOut g.1 g.2.1 d h ht (k z hz H locs ls hl hP hD hS)
theorem x_ldc (g : xGood E l0 S0 own cc yy n ret R0) {idx : Nat} {v : Int32} (d : decode cc pc = .ok (.ldc idx, 2)) (hc : Cond.constant own idx v ∈ GT) (k : Xg E fin (pc + 2) lv (.int v :: st) wd res) : Xg E fin pc lv st wd res := by
  obtain ⟨p, l, e, R, s, mm, args, below, meth, c, nL, ce, sl, A, S⟩ := E
  intro z hz H locs ls hl hP hD hS
  obtain ⟨hx, hb, hml, hnl, hown, hts, hNW, hr, hlk, hR, hK, hSS, hll, hAA, hce, hst⟩ := g
  subst hSS
  exact lv_ldc hx hb hown (hts _ (List.mem_cons_of_mem _ hc)) d (k z hz H locs ls hl hP hD hS)
theorem x_ldcw (g : xGood E l0 S0 own cc yy n ret R0) {idx : Nat} {v : Int32} (d : decode cc pc = .ok (.ldc_w idx, 3)) (hc : Cond.constant own idx v ∈ GT) (k : Xg E fin (pc + 3) lv (.int v :: st) wd res) : Xg E fin pc lv st wd res := by
  obtain ⟨p, l, e, R, s, mm, args, below, meth, c, nL, ce, sl, A, S⟩ := E
  intro z hz H locs ls hl hP hD hS
  obtain ⟨hx, hb, hml, hnl, hown, hts, hNW, hr, hlk, hR, hK, hSS, hll, hAA, hce, hst⟩ := g
  subst hSS
  exact lv_ldcw hx hb hown (hts _ (List.mem_cons_of_mem _ hc)) d (k z hz H locs ls hl hP hD hS)
theorem x_ldc2 (g : xGood E l0 S0 own cc yy n ret R0) {idx : Nat} {v : Int64} (d : decode cc pc = .ok (.ldc2_w idx, 3)) (hc : Cond.constantLong own idx v ∈ GT) (k : Xg E fin (pc + 3) lv (.long v :: st) wd res) : Xg E fin pc lv st wd res := by
  obtain ⟨p, l, e, R, s, mm, args, below, meth, c, nL, ce, sl, A, S⟩ := E
  intro z hz H locs ls hl hP hD hS
  obtain ⟨hx, hb, hml, hnl, hown, hts, hNW, hr, hlk, hR, hK, hSS, hll, hAA, hce, hst⟩ := g
  subst hSS
  exact lv_ldc2 hx hb hown (hts _ (List.mem_cons_of_mem _ hc)) d (k z hz H locs ls hl hP hD hS)
/-- a field instruction of class own, by its place in the constant pool: the field j of class ci -/
def xFL (own : String) (idx ci j : Nat) : Prop := ∃ (C : String) (T : u_T) (N : Nat), vwCl[ci]? = some (C, T, N) ∧ j < N ∧ (∀ w ∈ u_ws C T N, w ∈ GT) ∧ (T j).1 = C ∧ (Cond.fieldLink own idx C (T j).2.1 (T j).2.2.1 ∈ GT ∨ ∃ h, Cond.fieldLinkNest own idx C (T j).2.1 (T j).2.2.1 h ∈ NT)
def xFT (ci j : Nat) (ty : FieldType) : Prop := ∃ (C : String) (T : u_T) (N : Nat) (ty0 : Nat → FieldType), vwCl[ci]? = some (C, T, N) ∧ (T j).2.2.2 = false ∧ (∀ k, k < N → parseFieldDescriptor (T k).2.2.1 = some (ty0 k)) ∧ (∀ a, a < N → ∀ b, b < N → a ≠ b → (T a).2.1 ≠ (T b).2.1) ∧ parseFieldDescriptor (T j).2.2.1 = some ty
theorem x_getI (g : xGood E l0 G.1 own cc yy n ret R0) (hw : xWG G sh) {k ci j idx : Nat} {fds : List Nat} (d : decode cc pc = .ok (.getfield idx, 3)) (f : xFL own idx ci j) (hs : sh k = .inl (ci, fds)) (hf : fds[j]? = some 0) (kk : Xg E fin (pc + 3) lv (.int (m.1 k j) :: st) (xwd G m) res) : Xg E fin pc lv (.ref (xad G k) :: st) (xwd G m) res := by
  obtain ⟨p, l, e, R, s, mm, args, below, meth, c, nL, ce, sl, A, S⟩ := E
  intro z hz H locs ls hl hP hD hS
  obtain ⟨hx, hb, hml, hnl, hown, hts, hNW, hr, hlk, hR, hK, hSS, hll, hAA, hce, hst⟩ := g
  subst hSS
  obtain ⟨C, T, N, f1, f2, f3, f4, f5⟩ := f
  obtain ⟨hk, hq⟩ := xGood_N hw (k := k) (by rw [hs]; intro h; cases h)
  have hat : (xwd G m)[k]? = some (xad G k, .inr (ci, xfs (xad G) m k 0 fds)) := by rw [xwd_at hk, hq, hs]; rfl
  have hv : (xfs (xad G) m k 0 fds)[j]? = some (.int (m.1 k j)) := by rw [xfs_get fds 0 j 0 hf, Nat.zero_add]; rfl
  rcases f5 with f5 | ⟨h, f5⟩
  · exact va_get (ci := ci) hx hb hts (fun w hw => List.mem_cons_of_mem _ (f3 w hw)) hown hK hP k hat f1 j f2 (hts _ (List.mem_cons_of_mem _ f5)) (fun x hx => by rw [f4] at hx; exact hx) hv d (kk z hz H locs ls hl hP hD hS)
  · exact va_getN (ci := ci) hx hb hts (fun w hw => List.mem_cons_of_mem _ (f3 w hw)) hown hK hP k hat f1 j f2 (va_Nw.use rfl (hNW _ f5)) (fun x hx => by rw [f4] at hx; exact hx) hv d (kk z hz H locs ls hl hP hD hS)
theorem x_getL (g : xGood E l0 G.1 own cc yy n ret R0) (hw : xWG G sh) {k ci j idx : Nat} {fds : List Nat} (d : decode cc pc = .ok (.getfield idx, 3)) (f : xFL own idx ci j) (hs : sh k = .inl (ci, fds)) (hf : fds[j]? = some 1) (kk : Xg E fin (pc + 3) lv (.long (m.2 k j) :: st) (xwd G m) res) : Xg E fin pc lv (.ref (xad G k) :: st) (xwd G m) res := by
  obtain ⟨p, l, e, R, s, mm, args, below, meth, c, nL, ce, sl, A, S⟩ := E
  intro z hz H locs ls hl hP hD hS
  obtain ⟨hx, hb, hml, hnl, hown, hts, hNW, hr, hlk, hR, hK, hSS, hll, hAA, hce, hst⟩ := g
  subst hSS
  obtain ⟨C, T, N, f1, f2, f3, f4, f5⟩ := f
  obtain ⟨hk, hq⟩ := xGood_N hw (k := k) (by rw [hs]; intro h; cases h)
  have hat : (xwd G m)[k]? = some (xad G k, .inr (ci, xfs (xad G) m k 0 fds)) := by rw [xwd_at hk, hq, hs]; rfl
  have hv : (xfs (xad G) m k 0 fds)[j]? = some (.long (m.2 k j)) := by rw [xfs_get fds 0 j 1 hf, Nat.zero_add]; rfl
  rcases f5 with f5 | ⟨h, f5⟩
  · exact va_get (ci := ci) hx hb hts (fun w hw => List.mem_cons_of_mem _ (f3 w hw)) hown hK hP k hat f1 j f2 (hts _ (List.mem_cons_of_mem _ f5)) (fun x hx => by rw [f4] at hx; exact hx) hv d (kk z hz H locs ls hl hP hD hS)
  · exact va_getN (ci := ci) hx hb hts (fun w hw => List.mem_cons_of_mem _ (f3 w hw)) hown hK hP k hat f1 j f2 (va_Nw.use rfl (hNW _ f5)) (fun x hx => by rw [f4] at hx; exact hx) hv d (kk z hz H locs ls hl hP hD hS)
theorem x_getR (g : xGood E l0 G.1 own cc yy n ret R0) (hw : xWG G sh) {k ci j idx : Nat} {fds : List Nat} {x : Nat} (d : decode cc pc = .ok (.getfield idx, 3)) (f : xFL own idx ci j) (hs : sh k = .inl (ci, fds)) (hf : fds[j]? = some (x + 2)) (kk : Xg E fin (pc + 3) lv (.ref (xad G x) :: st) (xwd G m) res) : Xg E fin pc lv (.ref (xad G k) :: st) (xwd G m) res := by
  obtain ⟨p, l, e, R, s, mm, args, below, meth, c, nL, ce, sl, A, S⟩ := E
  intro z hz H locs ls hl hP hD hS
  obtain ⟨hx, hb, hml, hnl, hown, hts, hNW, hr, hlk, hR, hK, hSS, hll, hAA, hce, hst⟩ := g
  subst hSS
  obtain ⟨C, T, N, f1, f2, f3, f4, f5⟩ := f
  obtain ⟨hk, hq⟩ := xGood_N hw (k := k) (by rw [hs]; intro h; cases h)
  have hat : (xwd G m)[k]? = some (xad G k, .inr (ci, xfs (xad G) m k 0 fds)) := by rw [xwd_at hk, hq, hs]; rfl
  have hv : (xfs (xad G) m k 0 fds)[j]? = some (.ref (xad G x)) := by rw [xfs_get fds 0 j (x + 2) hf, Nat.zero_add]; rfl
  rcases f5 with f5 | ⟨h, f5⟩
  · exact va_get (ci := ci) hx hb hts (fun w hw => List.mem_cons_of_mem _ (f3 w hw)) hown hK hP k hat f1 j f2 (hts _ (List.mem_cons_of_mem _ f5)) (fun x hx => by rw [f4] at hx; exact hx) hv d (kk z hz H locs ls hl hP hD hS)
  · exact va_getN (ci := ci) hx hb hts (fun w hw => List.mem_cons_of_mem _ (f3 w hw)) hown hK hP k hat f1 j f2 (va_Nw.use rfl (hNW _ f5)) (fun x hx => by rw [f4] at hx; exact hx) hv d (kk z hz H locs ls hl hP hD hS)
theorem x_putI (g : xGood E l0 G.1 own cc yy n ret R0) (hw : xWG G sh) {k ci j idx : Nat} {fds : List Nat} {v : Int32} {F : xMem → Option ρ} (d : decode cc pc = .ok (.putfield idx, 3)) (f : xFL own idx ci j) (ft : xFT ci j .int) (hs : sh k = .inl (ci, fds)) (hf : fds[j]? = some 0) (kk : ∀ m' : xMem, Xg E fin (pc + 3) lv st (xwd G m') (F m')) : Xg E fin pc lv (.int v :: .ref (xad G k) :: st) (xwd G m) (nm (upI m k j v) F) := by
  obtain ⟨p, l, e, R, s, mm, args, below, meth, c, nL, ce, sl, A, S⟩ := E
  intro z hz H locs ls hl hP hD hS
  obtain ⟨hx, hb, hml, hnl, hown, hts, hNW, hr, hlk, hR, hK, hSS, hll, hAA, hce, hst⟩ := g
  subst hSS
  obtain ⟨C, T, N, f1, f2, f3, f4, f5⟩ := f
  obtain ⟨hk, hq⟩ := xGood_N hw (k := k) (by rw [hs]; intro h; cases h)
  have hat : (xwd G m)[k]? = some (xad G k, .inr (ci, xfs (xad G) m k 0 fds)) := by rw [xwd_at hk, hq, hs]; rfl
  obtain ⟨C2, T2, N2, ty0, t1, t2, t3, t4, t5⟩ := ft
  cases f1.symm.trans t1
  have hj : j < fds.length := (List.getElem?_eq_some_iff.mp hf).1
  have hset : (xwd G m).set k (xad G k, .inr (ci, (xfs (xad G) m k 0 fds).set j (.int v))) = xwd G (upI m k j v) := xwd_set hk (by rw [hq, hs]; simp only [xcel]; rw [xfs_setI fds 0 j hf (Nat.zero_add j).symm]) (fun a ha => ⟨upI_ne m v ha, rfl⟩)
  rcases f5 with f5 | ⟨h, f5⟩
  · exact va_put (ci := ci) hx hb hts (fun w hw => List.mem_cons_of_mem _ (f3 w hw)) ty0 t3 t4 hown hK hP hD hS k hat f1 j f2 (hts _ (List.mem_cons_of_mem _ f5)) (fun x hx => by rw [f4] at hx; exact hx) t2 t5 rfl rfl (by rw [xfs_len]; exact hj) d (fun H1 locs1 hP1 hD1 hS1 => kk _ z hz H1 locs1 ls hl (hset ▸ hP1) (hset ▸ hD1) hS1)
  · exact va_putN (ci := ci) hx hb hts (fun w hw => List.mem_cons_of_mem _ (f3 w hw)) ty0 t3 t4 hown hK hP hD hS k hat f1 j f2 (va_Nw.use rfl (hNW _ f5)) (fun x hx => by rw [f4] at hx; exact hx) t2 t5 rfl rfl (by rw [xfs_len]; exact hj) d (fun H1 locs1 hP1 hD1 hS1 => kk _ z hz H1 locs1 ls hl (hset ▸ hP1) (hset ▸ hD1) hS1)
theorem x_putZ (g : xGood E l0 G.1 own cc yy n ret R0) (hw : xWG G sh) {k ci j idx : Nat} {fds : List Nat} {v : Int32} {F : xMem → Option ρ} (d : decode cc pc = .ok (.putfield idx, 3)) (f : xFL own idx ci j) (ft : xFT ci j .boolean) (hs : sh k = .inl (ci, fds)) (hf : fds[j]? = some 0) (hv : v = 0 ∨ v = 1) (kk : ∀ m' : xMem, Xg E fin (pc + 3) lv st (xwd G m') (F m')) : Xg E fin pc lv (.int v :: .ref (xad G k) :: st) (xwd G m) (nm (upI m k j v) F) := by
  obtain ⟨p, l, e, R, s, mm, args, below, meth, c, nL, ce, sl, A, S⟩ := E
  intro z hz H locs ls hl hP hD hS
  obtain ⟨hx, hb, hml, hnl, hown, hts, hNW, hr, hlk, hR, hK, hSS, hll, hAA, hce, hst⟩ := g
  subst hSS
  obtain ⟨C, T, N, f1, f2, f3, f4, f5⟩ := f
  obtain ⟨hk, hq⟩ := xGood_N hw (k := k) (by rw [hs]; intro h; cases h)
  have hat : (xwd G m)[k]? = some (xad G k, .inr (ci, xfs (xad G) m k 0 fds)) := by rw [xwd_at hk, hq, hs]; rfl
  obtain ⟨C2, T2, N2, ty0, t1, t2, t3, t4, t5⟩ := ft
  cases f1.symm.trans t1
  have hj : j < fds.length := (List.getElem?_eq_some_iff.mp hf).1
  have hset : (xwd G m).set k (xad G k, .inr (ci, (xfs (xad G) m k 0 fds).set j (.int v))) = xwd G (upI m k j v) := xwd_set hk (by rw [hq, hs]; simp only [xcel]; rw [xfs_setI fds 0 j hf (Nat.zero_add j).symm]) (fun a ha => ⟨upI_ne m v ha, rfl⟩)
  rcases f5 with f5 | ⟨h, f5⟩
  · exact va_put (ci := ci) hx hb hts (fun w hw => List.mem_cons_of_mem _ (f3 w hw)) ty0 t3 t4 hown hK hP hD hS k hat f1 j f2 (hts _ (List.mem_cons_of_mem _ f5)) (fun x hx => by rw [f4] at hx; exact hx) t2 t5 (by rcases hv with rfl | rfl <;> rfl) (by rcases hv with rfl | rfl <;> rfl) (by rw [xfs_len]; exact hj) d (fun H1 locs1 hP1 hD1 hS1 => kk _ z hz H1 locs1 ls hl (hset ▸ hP1) (hset ▸ hD1) hS1)
  · exact va_putN (ci := ci) hx hb hts (fun w hw => List.mem_cons_of_mem _ (f3 w hw)) ty0 t3 t4 hown hK hP hD hS k hat f1 j f2 (va_Nw.use rfl (hNW _ f5)) (fun x hx => by rw [f4] at hx; exact hx) t2 t5 (by rcases hv with rfl | rfl <;> rfl) (by rcases hv with rfl | rfl <;> rfl) (by rw [xfs_len]; exact hj) d (fun H1 locs1 hP1 hD1 hS1 => kk _ z hz H1 locs1 ls hl (hset ▸ hP1) (hset ▸ hD1) hS1)
theorem x_putL (g : xGood E l0 G.1 own cc yy n ret R0) (hw : xWG G sh) {k ci j idx : Nat} {fds : List Nat} {v : Int64} {F : xMem → Option ρ} (d : decode cc pc = .ok (.putfield idx, 3)) (f : xFL own idx ci j) (ft : xFT ci j .long) (hs : sh k = .inl (ci, fds)) (hf : fds[j]? = some 1) (kk : ∀ m' : xMem, Xg E fin (pc + 3) lv st (xwd G m') (F m')) : Xg E fin pc lv (.long v :: .ref (xad G k) :: st) (xwd G m) (nm (upL m k j v) F) := by
  obtain ⟨p, l, e, R, s, mm, args, below, meth, c, nL, ce, sl, A, S⟩ := E
  intro z hz H locs ls hl hP hD hS
  obtain ⟨hx, hb, hml, hnl, hown, hts, hNW, hr, hlk, hR, hK, hSS, hll, hAA, hce, hst⟩ := g
  subst hSS
  obtain ⟨C, T, N, f1, f2, f3, f4, f5⟩ := f
  obtain ⟨hk, hq⟩ := xGood_N hw (k := k) (by rw [hs]; intro h; cases h)
  have hat : (xwd G m)[k]? = some (xad G k, .inr (ci, xfs (xad G) m k 0 fds)) := by rw [xwd_at hk, hq, hs]; rfl
  obtain ⟨C2, T2, N2, ty0, t1, t2, t3, t4, t5⟩ := ft
  cases f1.symm.trans t1
  have hj : j < fds.length := (List.getElem?_eq_some_iff.mp hf).1
  have hset : (xwd G m).set k (xad G k, .inr (ci, (xfs (xad G) m k 0 fds).set j (.long v))) = xwd G (upL m k j v) := xwd_set hk (by rw [hq, hs]; simp only [xcel]; rw [xfs_setL fds 0 j hf (Nat.zero_add j).symm]) (fun a ha => ⟨rfl, upL_ne m v ha⟩)
  rcases f5 with f5 | ⟨h, f5⟩
  · exact va_put (ci := ci) hx hb hts (fun w hw => List.mem_cons_of_mem _ (f3 w hw)) ty0 t3 t4 hown hK hP hD hS k hat f1 j f2 (hts _ (List.mem_cons_of_mem _ f5)) (fun x hx => by rw [f4] at hx; exact hx) t2 t5 rfl rfl (by rw [xfs_len]; exact hj) d (fun H1 locs1 hP1 hD1 hS1 => kk _ z hz H1 locs1 ls hl (hset ▸ hP1) (hset ▸ hD1) hS1)
  · exact va_putN (ci := ci) hx hb hts (fun w hw => List.mem_cons_of_mem _ (f3 w hw)) ty0 t3 t4 hown hK hP hD hS k hat f1 j f2 (va_Nw.use rfl (hNW _ f5)) (fun x hx => by rw [f4] at hx; exact hx) t2 t5 rfl rfl (by rw [xfs_len]; exact hj) d (fun H1 locs1 hP1 hD1 hS1 => kk _ z hz H1 locs1 ls hl (hset ▸ hP1) (hset ▸ hD1) hS1)
theorem x_ialdc (g : xGood E l0 G.1 own cc yy n ret R0) (hw : xWG G sh) {k N j : Nat} {rs : List Nat} {i : Int32} (d : decode cc pc = .ok (.iaload, 1)) (hs : sh k = .inr (0, N, rs)) (hj : ix i N = some j) (kk : Xg E fin (pc + 1) lv (.int (m.1 k j) :: st) (xwd G m) res) : Xg E fin pc lv (.int i :: .ref (xad G k) :: st) (xwd G m) res := by
  obtain ⟨p, l, e, R, s, mm, args, below, meth, c, nL, ce, sl, A, S⟩ := E
  intro z hz H locs ls hl hP hD hS
  obtain ⟨hx, hb, hml, hnl, hown, hts, hNW, hr, hlk, hR, hK, hSS, hll, hAA, hce, hst⟩ := g
  subst hSS
  obtain ⟨hk, hq⟩ := xGood_N hw (k := k) (by rw [hs]; intro h; cases h)
  have hat : (xwd G m)[k]? = some (xad G k, .inl (xcA G 0, N, .inl (m.1 k))) := by rw [xwd_at hk, hq, hs]; rfl
  obtain ⟨h1, h2, -⟩ := ix_in hj
  subst h2
  exact va_iald hx hb hK hP k 0 hat rfl h1 d (kk z hz H locs ls hl hP hD hS)
theorem x_iald (g : xGood E l0 G.1 own cc yy n ret R0) (hw : xWG G sh) {k N : Nat} {rs : List Nat} {i : Int32} {F : Nat → Option ρ} (d : decode cc pc = .ok (.iaload, 1)) (hs : sh k = .inr (0, N, rs)) (kk : ∀ j, j < N → Xg E fin (pc + 1) lv (.int (m.1 k j) :: st) (xwd G m) (F j)) : Xg E fin pc lv (.int i :: .ref (xad G k) :: st) (xwd G m) ((ix i N).bind F) := by
  cases hj : ix i N with
  | none => exact x_none
  | some j => exact x_ialdc g hw d hs hj (kk j (ix_in hj).2.2)
theorem x_laldc (g : xGood E l0 G.1 own cc yy n ret R0) (hw : xWG G sh) {k N j : Nat} {rs : List Nat} {i : Int32} (d : decode cc pc = .ok (.laload, 1)) (hs : sh k = .inr (1, N, rs)) (hj : ix i N = some j) (kk : Xg E fin (pc + 1) lv (.long (m.2 k j) :: st) (xwd G m) res) : Xg E fin pc lv (.int i :: .ref (xad G k) :: st) (xwd G m) res := by
  obtain ⟨p, l, e, R, s, mm, args, below, meth, c, nL, ce, sl, A, S⟩ := E
  intro z hz H locs ls hl hP hD hS
  obtain ⟨hx, hb, hml, hnl, hown, hts, hNW, hr, hlk, hR, hK, hSS, hll, hAA, hce, hst⟩ := g
  subst hSS
  obtain ⟨hk, hq⟩ := xGood_N hw (k := k) (by rw [hs]; intro h; cases h)
  have hat : (xwd G m)[k]? = some (xad G k, .inl (xcA G 1, N, .inr (.inl (m.2 k)))) := by rw [xwd_at hk, hq, hs]; rfl
  obtain ⟨h1, h2, -⟩ := ix_in hj
  subst h2
  exact va_lald hx hb hK hP k 1 hat rfl h1 d (kk z hz H locs ls hl hP hD hS)
theorem x_lald (g : xGood E l0 G.1 own cc yy n ret R0) (hw : xWG G sh) {k N : Nat} {rs : List Nat} {i : Int32} {F : Nat → Option ρ} (d : decode cc pc = .ok (.laload, 1)) (hs : sh k = .inr (1, N, rs)) (kk : ∀ j, j < N → Xg E fin (pc + 1) lv (.long (m.2 k j) :: st) (xwd G m) (F j)) : Xg E fin pc lv (.int i :: .ref (xad G k) :: st) (xwd G m) ((ix i N).bind F) := by
  cases hj : ix i N with
  | none => exact x_none
  | some j => exact x_laldc g hw d hs hj (kk j (ix_in hj).2.2)
theorem x_baldc (g : xGood E l0 G.1 own cc yy n ret R0) (hw : xWG G sh) {k N j : Nat} {rs : List Nat} {i : Int32} (d : decode cc pc = .ok (.baload, 1)) (hs : sh k = .inr (2, N, rs)) (hj : ix i N = some j) (kk : Xg E fin (pc + 1) lv (.int (m.1 k j) :: st) (xwd G m) res) : Xg E fin pc lv (.int i :: .ref (xad G k) :: st) (xwd G m) res := by
  obtain ⟨p, l, e, R, s, mm, args, below, meth, c, nL, ce, sl, A, S⟩ := E
  intro z hz H locs ls hl hP hD hS
  obtain ⟨hx, hb, hml, hnl, hown, hts, hNW, hr, hlk, hR, hK, hSS, hll, hAA, hce, hst⟩ := g
  subst hSS
  obtain ⟨hk, hq⟩ := xGood_N hw (k := k) (by rw [hs]; intro h; cases h)
  have hat : (xwd G m)[k]? = some (xad G k, .inl (xcA G 2, N, .inl (m.1 k))) := by rw [xwd_at hk, hq, hs]; rfl
  obtain ⟨h1, h2, -⟩ := ix_in hj
  subst h2
  exact va_bald hx hb hK hP k 2 hat rfl h1 d (kk z hz H locs ls hl hP hD hS)
theorem x_bald (g : xGood E l0 G.1 own cc yy n ret R0) (hw : xWG G sh) {k N : Nat} {rs : List Nat} {i : Int32} {F : Nat → Option ρ} (d : decode cc pc = .ok (.baload, 1)) (hs : sh k = .inr (2, N, rs)) (kk : ∀ j, j < N → Xg E fin (pc + 1) lv (.int (m.1 k j) :: st) (xwd G m) (F j)) : Xg E fin pc lv (.int i :: .ref (xad G k) :: st) (xwd G m) ((ix i N).bind F) := by
  cases hj : ix i N with
  | none => exact x_none
  | some j => exact x_baldc g hw d hs hj (kk j (ix_in hj).2.2)
theorem x_zaldc (g : xGood E l0 G.1 own cc yy n ret R0) (hw : xWG G sh) {k N j : Nat} {rs : List Nat} {i : Int32} (d : decode cc pc = .ok (.baload, 1)) (hs : sh k = .inr (3, N, rs)) (hj : ix i N = some j) (kk : Xg E fin (pc + 1) lv (.int (m.1 k j) :: st) (xwd G m) res) : Xg E fin pc lv (.int i :: .ref (xad G k) :: st) (xwd G m) res := by
  obtain ⟨p, l, e, R, s, mm, args, below, meth, c, nL, ce, sl, A, S⟩ := E
  intro z hz H locs ls hl hP hD hS
  obtain ⟨hx, hb, hml, hnl, hown, hts, hNW, hr, hlk, hR, hK, hSS, hll, hAA, hce, hst⟩ := g
  subst hSS
  obtain ⟨hk, hq⟩ := xGood_N hw (k := k) (by rw [hs]; intro h; cases h)
  have hat : (xwd G m)[k]? = some (xad G k, .inl (xcA G 3, N, .inl (m.1 k))) := by rw [xwd_at hk, hq, hs]; rfl
  obtain ⟨h1, h2, -⟩ := ix_in hj
  subst h2
  exact va_zald hx hb hK hP k 3 hat rfl h1 d (kk z hz H locs ls hl hP hD hS)
theorem x_zald (g : xGood E l0 G.1 own cc yy n ret R0) (hw : xWG G sh) {k N : Nat} {rs : List Nat} {i : Int32} {F : Nat → Option ρ} (d : decode cc pc = .ok (.baload, 1)) (hs : sh k = .inr (3, N, rs)) (kk : ∀ j, j < N → Xg E fin (pc + 1) lv (.int (m.1 k j) :: st) (xwd G m) (F j)) : Xg E fin pc lv (.int i :: .ref (xad G k) :: st) (xwd G m) ((ix i N).bind F) := by
  cases hj : ix i N with
  | none => exact x_none
  | some j => exact x_zaldc g hw d hs hj (kk j (ix_in hj).2.2)
theorem x_aald4c (g : xGood E l0 G.1 own cc yy n ret R0) (hw : xWG G sh) {k N j x : Nat} {rs : List Nat} {i : Int32} (d : decode cc pc = .ok (.aaload, 1)) (hs : sh k = .inr (4, N, rs)) (hj : ix i N = some j) (hr : rs[j]? = some x) (kk : Xg E fin (pc + 1) lv (.ref (xad G x) :: st) (xwd G m) res) : Xg E fin pc lv (.int i :: .ref (xad G k) :: st) (xwd G m) res := by
  obtain ⟨p, l, e, R, s, mm, args, below, meth, c, nL, ce, sl, A, S⟩ := E
  intro z hz H locs ls hl hP hD hS
  obtain ⟨hx, hb, hml, hnl, hown, hts, hNW, hret, hlk, hR, hK, hSS, hll, hAA, hce, hst⟩ := g
  subst hSS
  obtain ⟨hk, hq⟩ := xGood_N hw (k := k) (by rw [hs]; intro h; cases h)
  have hat : (xwd G m)[k]? = some (xad G k, .inl (xcA G 4, N, xarr (xad G) m k 4 rs)) := by rw [xwd_at hk, hq, hs]; rfl
  obtain ⟨h1, h2, hlt⟩ := ix_in hj
  subst h2
  have hat2 : (xwd G m)[k]? = some (xad G k, .inl (xcA G 4, N, .inr (.inr (.inr (.inr (fun i => (rs[i]?).map (xad G))))))) := hat
  exact W.aald (v := .ref (xad G x)) (ty := .array .int) hx hb (hP k _ hat2) ((hK.2 4 (xcA G 4, .array .int) rfl).1 N (fun j => va_rf ((rs[j]?).map (xad G)))) rfl (fun q => by cases q) (by show ¬ (i < 0 ∨ (arrV _ _ _).slots.size ≤ _); rw [arrV_size]; exact h1) (by show (arrV _ _ _).slots[_]? = _; rw [arrV_read _ _ hlt]; show some (va_rf ((rs[i.toNatClampNeg]?).map (xad G))) = _; rw [hr]; rfl) rfl rfl d (kk z hz H locs ls hl hP hD hS)
theorem x_aald4 (g : xGood E l0 G.1 own cc yy n ret R0) (hw : xWG G sh) {k N : Nat} {rs : List Nat} {i : Int32} {F : Nat → Option ρ} {r : Nat → Nat} (d : decode cc pc = .ok (.aaload, 1)) (hs : sh k = .inr (4, N, rs)) (hr : ∀ j, j < N → rs[j]? = some (r j)) (kk : ∀ j, j < N → Xg E fin (pc + 1) lv (.ref (xad G (r j)) :: st) (xwd G m) (F j)) : Xg E fin pc lv (.int i :: .ref (xad G k) :: st) (xwd G m) ((ix i N).bind F) := by
  cases hj : ix i N with
  | none => exact x_none
  | some j => exact x_aald4c g hw d hs hj (hr j (ix_in hj).2.2) (kk j (ix_in hj).2.2)
theorem x_aald5c (g : xGood E l0 G.1 own cc yy n ret R0) (hw : xWG G sh) {k N j x : Nat} {rs : List Nat} {i : Int32} (d : decode cc pc = .ok (.aaload, 1)) (hs : sh k = .inr (5, N, rs)) (hj : ix i N = some j) (hr : rs[j]? = some x) (kk : Xg E fin (pc + 1) lv (.ref (xad G x) :: st) (xwd G m) res) : Xg E fin pc lv (.int i :: .ref (xad G k) :: st) (xwd G m) res := by
  obtain ⟨p, l, e, R, s, mm, args, below, meth, c, nL, ce, sl, A, S⟩ := E
  intro z hz H locs ls hl hP hD hS
  obtain ⟨hx, hb, hml, hnl, hown, hts, hNW, hret, hlk, hR, hK, hSS, hll, hAA, hce, hst⟩ := g
  subst hSS
  obtain ⟨hk, hq⟩ := xGood_N hw (k := k) (by rw [hs]; intro h; cases h)
  have hat : (xwd G m)[k]? = some (xad G k, .inl (xcA G 5, N, xarr (xad G) m k 5 rs)) := by rw [xwd_at hk, hq, hs]; rfl
  obtain ⟨h1, h2, hlt⟩ := ix_in hj
  subst h2
  have hat2 : (xwd G m)[k]? = some (xad G k, .inl (xcA G 5, N, .inr (.inr (.inr (.inr (fun i => (rs[i]?).map (xad G))))))) := hat
  exact W.aald (v := .ref (xad G x)) (ty := .object "OwlsLent$Image") hx hb (hP k _ hat2) ((hK.2 5 (xcA G 5, .object "OwlsLent$Image") rfl).1 N (fun j => va_rf ((rs[j]?).map (xad G)))) rfl (fun q => by cases q) (by show ¬ (i < 0 ∨ (arrV _ _ _).slots.size ≤ _); rw [arrV_size]; exact h1) (by show (arrV _ _ _).slots[_]? = _; rw [arrV_read _ _ hlt]; show some (va_rf ((rs[i.toNatClampNeg]?).map (xad G))) = _; rw [hr]; rfl) rfl rfl d (kk z hz H locs ls hl hP hD hS)
theorem x_aald5 (g : xGood E l0 G.1 own cc yy n ret R0) (hw : xWG G sh) {k N : Nat} {rs : List Nat} {i : Int32} {F : Nat → Option ρ} {r : Nat → Nat} (d : decode cc pc = .ok (.aaload, 1)) (hs : sh k = .inr (5, N, rs)) (hr : ∀ j, j < N → rs[j]? = some (r j)) (kk : ∀ j, j < N → Xg E fin (pc + 1) lv (.ref (xad G (r j)) :: st) (xwd G m) (F j)) : Xg E fin pc lv (.int i :: .ref (xad G k) :: st) (xwd G m) ((ix i N).bind F) := by
  cases hj : ix i N with
  | none => exact x_none
  | some j => exact x_aald5c g hw d hs hj (hr j (ix_in hj).2.2) (kk j (ix_in hj).2.2)
theorem x_aald6c (g : xGood E l0 G.1 own cc yy n ret R0) (hw : xWG G sh) {k N j x : Nat} {rs : List Nat} {i : Int32} (d : decode cc pc = .ok (.aaload, 1)) (hs : sh k = .inr (6, N, rs)) (hj : ix i N = some j) (hr : rs[j]? = some x) (kk : Xg E fin (pc + 1) lv (.ref (xad G x) :: st) (xwd G m) res) : Xg E fin pc lv (.int i :: .ref (xad G k) :: st) (xwd G m) res := by
  obtain ⟨p, l, e, R, s, mm, args, below, meth, c, nL, ce, sl, A, S⟩ := E
  intro z hz H locs ls hl hP hD hS
  obtain ⟨hx, hb, hml, hnl, hown, hts, hNW, hret, hlk, hR, hK, hSS, hll, hAA, hce, hst⟩ := g
  subst hSS
  obtain ⟨hk, hq⟩ := xGood_N hw (k := k) (by rw [hs]; intro h; cases h)
  have hat : (xwd G m)[k]? = some (xad G k, .inl (xcA G 6, N, xarr (xad G) m k 6 rs)) := by rw [xwd_at hk, hq, hs]; rfl
  obtain ⟨h1, h2, hlt⟩ := ix_in hj
  subst h2
  have hat2 : (xwd G m)[k]? = some (xad G k, .inl (xcA G 6, N, .inr (.inr (.inr (.inr (fun i => (rs[i]?).map (xad G))))))) := hat
  exact W.aald (v := .ref (xad G x)) (ty := .object "OwlsLent$State") hx hb (hP k _ hat2) ((hK.2 6 (xcA G 6, .object "OwlsLent$State") rfl).1 N (fun j => va_rf ((rs[j]?).map (xad G)))) rfl (fun q => by cases q) (by show ¬ (i < 0 ∨ (arrV _ _ _).slots.size ≤ _); rw [arrV_size]; exact h1) (by show (arrV _ _ _).slots[_]? = _; rw [arrV_read _ _ hlt]; show some (va_rf ((rs[i.toNatClampNeg]?).map (xad G))) = _; rw [hr]; rfl) rfl rfl d (kk z hz H locs ls hl hP hD hS)
theorem x_aald6 (g : xGood E l0 G.1 own cc yy n ret R0) (hw : xWG G sh) {k N : Nat} {rs : List Nat} {i : Int32} {F : Nat → Option ρ} {r : Nat → Nat} (d : decode cc pc = .ok (.aaload, 1)) (hs : sh k = .inr (6, N, rs)) (hr : ∀ j, j < N → rs[j]? = some (r j)) (kk : ∀ j, j < N → Xg E fin (pc + 1) lv (.ref (xad G (r j)) :: st) (xwd G m) (F j)) : Xg E fin pc lv (.int i :: .ref (xad G k) :: st) (xwd G m) ((ix i N).bind F) := by
  cases hj : ix i N with
  | none => exact x_none
  | some j => exact x_aald6c g hw d hs hj (hr j (ix_in hj).2.2) (kk j (ix_in hj).2.2)
theorem x_iastc (g : xGood E l0 G.1 own cc yy n ret R0) (hw : xWG G sh) {k N j : Nat} {rs : List Nat} {i : Int32} {v : Int32} {F : xMem → Option ρ} (d : decode cc pc = .ok (.iastore, 1)) (hs : sh k = .inr (0, N, rs)) (hj : ix i N = some j) (kk : ∀ m' : xMem, Xg E fin (pc + 1) lv st (xwd G m') (F m')) : Xg E fin pc lv (.int v :: .int i :: .ref (xad G k) :: st) (xwd G m) (nm (upI m k j v) F) := by
  obtain ⟨p, l, e, R, s, mm, args, below, meth, c, nL, ce, sl, A, S⟩ := E
  intro z hz H locs ls hl hP hD hS
  obtain ⟨hx, hb, hml, hnl, hown, hts, hNW, hr, hlk, hR, hK, hSS, hll, hAA, hce, hst⟩ := g
  subst hSS
  obtain ⟨hk, hq⟩ := xGood_N hw (k := k) (by rw [hs]; intro h; cases h)
  have hat : (xwd G m)[k]? = some (xad G k, .inl (xcA G 0, N, .inl (m.1 k))) := by rw [xwd_at hk, hq, hs]; rfl
  obtain ⟨h1, h2, -⟩ := ix_in hj
  subst h2
  have hset : (xwd G m).set k (xad G k, .inl (xcA G 0, N, .inl (upd (m.1 k) i.toNatClampNeg v))) = xwd G (upI m k i.toNatClampNeg v) := xwd_set hk (by rw [hq, hs]; simp only [xcel, xarr, upI_eq]; rfl) (fun a ha => ⟨upI_ne m v ha, rfl⟩)
  exact va_iast hx hb hK hP hD hS k 0 hat rfl h1 d (fun H1 locs1 hP1 hD1 hS1 => kk _ z hz H1 locs1 ls hl (hset ▸ hP1) (hset ▸ hD1) hS1)
theorem x_iast (g : xGood E l0 G.1 own cc yy n ret R0) (hw : xWG G sh) {k N : Nat} {rs : List Nat} {i : Int32} {v : Int32} {F : Nat → xMem → Option ρ} (d : decode cc pc = .ok (.iastore, 1)) (hs : sh k = .inr (0, N, rs)) (kk : ∀ j, j < N → ∀ m' : xMem, Xg E fin (pc + 1) lv st (xwd G m') (F j m')) : Xg E fin pc lv (.int v :: .int i :: .ref (xad G k) :: st) (xwd G m) ((ix i N).bind fun j => nm (upI m k j v) (F j)) := by
  cases hj : ix i N with
  | none => exact x_none
  | some j => exact x_iastc g hw d hs hj (kk j (ix_in hj).2.2)
theorem x_bastc (g : xGood E l0 G.1 own cc yy n ret R0) (hw : xWG G sh) {k N j : Nat} {rs : List Nat} {i : Int32} {v : Int32} {F : xMem → Option ρ} (d : decode cc pc = .ok (.bastore, 1)) (hs : sh k = .inr (2, N, rs)) (hj : ix i N = some j) (kk : ∀ m' : xMem, Xg E fin (pc + 1) lv st (xwd G m') (F m')) : Xg E fin pc lv (.int v :: .int i :: .ref (xad G k) :: st) (xwd G m) (nm (upI m k j (vp_nar .byte v)) F) := by
  obtain ⟨p, l, e, R, s, mm, args, below, meth, c, nL, ce, sl, A, S⟩ := E
  intro z hz H locs ls hl hP hD hS
  obtain ⟨hx, hb, hml, hnl, hown, hts, hNW, hr, hlk, hR, hK, hSS, hll, hAA, hce, hst⟩ := g
  subst hSS
  obtain ⟨hk, hq⟩ := xGood_N hw (k := k) (by rw [hs]; intro h; cases h)
  have hat : (xwd G m)[k]? = some (xad G k, .inl (xcA G 2, N, .inl (m.1 k))) := by rw [xwd_at hk, hq, hs]; rfl
  obtain ⟨h1, h2, -⟩ := ix_in hj
  subst h2
  have hset : (xwd G m).set k (xad G k, .inl (xcA G 2, N, .inl (upd (m.1 k) i.toNatClampNeg (vp_nar .byte v)))) = xwd G (upI m k i.toNatClampNeg (vp_nar .byte v)) := xwd_set hk (by rw [hq, hs]; simp only [xcel, xarr, upI_eq]; rfl) (fun a ha => ⟨upI_ne m (vp_nar .byte v) ha, rfl⟩)
  exact va_bast hx hb hK hP hD hS k 2 hat rfl h1 d (fun H1 locs1 hP1 hD1 hS1 => kk _ z hz H1 locs1 ls hl (hset ▸ hP1) (hset ▸ hD1) hS1)
theorem x_bast (g : xGood E l0 G.1 own cc yy n ret R0) (hw : xWG G sh) {k N : Nat} {rs : List Nat} {i : Int32} {v : Int32} {F : Nat → xMem → Option ρ} (d : decode cc pc = .ok (.bastore, 1)) (hs : sh k = .inr (2, N, rs)) (kk : ∀ j, j < N → ∀ m' : xMem, Xg E fin (pc + 1) lv st (xwd G m') (F j m')) : Xg E fin pc lv (.int v :: .int i :: .ref (xad G k) :: st) (xwd G m) ((ix i N).bind fun j => nm (upI m k j (vp_nar .byte v)) (F j)) := by
  cases hj : ix i N with
  | none => exact x_none
  | some j => exact x_bastc g hw d hs hj (kk j (ix_in hj).2.2)
theorem x_zastc (g : xGood E l0 G.1 own cc yy n ret R0) (hw : xWG G sh) {k N j : Nat} {rs : List Nat} {i : Int32} {v : Int32} {F : xMem → Option ρ} (d : decode cc pc = .ok (.bastore, 1)) (hs : sh k = .inr (3, N, rs)) (hj : ix i N = some j) (kk : ∀ m' : xMem, Xg E fin (pc + 1) lv st (xwd G m') (F m')) : Xg E fin pc lv (.int v :: .int i :: .ref (xad G k) :: st) (xwd G m) (nm (upI m k j (vp_nar .boolean v)) F) := by
  obtain ⟨p, l, e, R, s, mm, args, below, meth, c, nL, ce, sl, A, S⟩ := E
  intro z hz H locs ls hl hP hD hS
  obtain ⟨hx, hb, hml, hnl, hown, hts, hNW, hr, hlk, hR, hK, hSS, hll, hAA, hce, hst⟩ := g
  subst hSS
  obtain ⟨hk, hq⟩ := xGood_N hw (k := k) (by rw [hs]; intro h; cases h)
  have hat : (xwd G m)[k]? = some (xad G k, .inl (xcA G 3, N, .inl (m.1 k))) := by rw [xwd_at hk, hq, hs]; rfl
  obtain ⟨h1, h2, -⟩ := ix_in hj
  subst h2
  have hset : (xwd G m).set k (xad G k, .inl (xcA G 3, N, .inl (upd (m.1 k) i.toNatClampNeg (vp_nar .boolean v)))) = xwd G (upI m k i.toNatClampNeg (vp_nar .boolean v)) := xwd_set hk (by rw [hq, hs]; simp only [xcel, xarr, upI_eq]; rfl) (fun a ha => ⟨upI_ne m (vp_nar .boolean v) ha, rfl⟩)
  exact va_zast hx hb hK hP hD hS k 3 hat rfl h1 d (fun H1 locs1 hP1 hD1 hS1 => kk _ z hz H1 locs1 ls hl (hset ▸ hP1) (hset ▸ hD1) hS1)
theorem x_zast (g : xGood E l0 G.1 own cc yy n ret R0) (hw : xWG G sh) {k N : Nat} {rs : List Nat} {i : Int32} {v : Int32} {F : Nat → xMem → Option ρ} (d : decode cc pc = .ok (.bastore, 1)) (hs : sh k = .inr (3, N, rs)) (kk : ∀ j, j < N → ∀ m' : xMem, Xg E fin (pc + 1) lv st (xwd G m') (F j m')) : Xg E fin pc lv (.int v :: .int i :: .ref (xad G k) :: st) (xwd G m) ((ix i N).bind fun j => nm (upI m k j (vp_nar .boolean v)) (F j)) := by
  cases hj : ix i N with
  | none => exact x_none
  | some j => exact x_zastc g hw d hs hj (kk j (ix_in hj).2.2)
theorem x_lastc (g : xGood E l0 G.1 own cc yy n ret R0) (hw : xWG G sh) {k N j : Nat} {rs : List Nat} {i : Int32} {v : Int64} {F : xMem → Option ρ} (d : decode cc pc = .ok (.lastore, 1)) (hs : sh k = .inr (1, N, rs)) (hj : ix i N = some j) (kk : ∀ m' : xMem, Xg E fin (pc + 1) lv st (xwd G m') (F m')) : Xg E fin pc lv (.long v :: .int i :: .ref (xad G k) :: st) (xwd G m) (nm (upL m k j v) F) := by
  obtain ⟨p, l, e, R, s, mm, args, below, meth, c, nL, ce, sl, A, S⟩ := E
  intro z hz H locs ls hl hP hD hS
  obtain ⟨hx, hb, hml, hnl, hown, hts, hNW, hr, hlk, hR, hK, hSS, hll, hAA, hce, hst⟩ := g
  subst hSS
  obtain ⟨hk, hq⟩ := xGood_N hw (k := k) (by rw [hs]; intro h; cases h)
  have hat : (xwd G m)[k]? = some (xad G k, .inl (xcA G 1, N, .inr (.inl (m.2 k)))) := by rw [xwd_at hk, hq, hs]; rfl
  obtain ⟨h1, h2, -⟩ := ix_in hj
  subst h2
  have hset : (xwd G m).set k (xad G k, .inl (xcA G 1, N, .inr (.inl (vp_updL (m.2 k) i.toNatClampNeg v)))) = xwd G (upL m k i.toNatClampNeg v) := xwd_set hk (by rw [hq, hs]; simp only [xcel, xarr, upL_eq]; rfl) (fun a ha => ⟨rfl, upL_ne m v ha⟩)
  exact va_last hx hb hK hP hD hS k 1 hat rfl h1 d (fun H1 locs1 hP1 hD1 hS1 => kk _ z hz H1 locs1 ls hl (hset ▸ hP1) (hset ▸ hD1) hS1)
theorem x_last (g : xGood E l0 G.1 own cc yy n ret R0) (hw : xWG G sh) {k N : Nat} {rs : List Nat} {i : Int32} {v : Int64} {F : Nat → xMem → Option ρ} (d : decode cc pc = .ok (.lastore, 1)) (hs : sh k = .inr (1, N, rs)) (kk : ∀ j, j < N → ∀ m' : xMem, Xg E fin (pc + 1) lv st (xwd G m') (F j m')) : Xg E fin pc lv (.long v :: .int i :: .ref (xad G k) :: st) (xwd G m) ((ix i N).bind fun j => nm (upL m k j v) (F j)) := by
  cases hj : ix i N with
  | none => exact x_none
  | some j => exact x_lastc g hw d hs hj (kk j (ix_in hj).2.2)
theorem x_alen (g : xGood E l0 G.1 own cc yy n ret R0) (hw : xWG G sh) {k t N : Nat} {rs : List Nat} {v : Int32} (d : decode cc pc = .ok (.arraylength, 1)) (hs : sh k = .inr (t, N, rs)) (ht : t < 7) (hv : Int32.ofNat N = v) (kk : Xg E fin (pc + 1) lv (.int v :: st) (xwd G m) res) : Xg E fin pc lv (.ref (xad G k) :: st) (xwd G m) res := by
  obtain ⟨p, l, e, R, s, mm, args, below, meth, c, nL, ce, sl, A, S⟩ := E
  intro z hz H locs ls hl hP hD hS
  obtain ⟨hx, hb, hml, hnl, hown, hts, hNW, hr, hlk, hR, hK, hSS, hll, hAA, hce, hst⟩ := g
  subst hSS
  obtain ⟨hk, hq⟩ := xGood_N hw (k := k) (by rw [hs]; intro h; cases h; omega)
  have hat : (xwd G m)[k]? = some (xad G k, .inl (xcA G t, N, xarr (xad G) m k t rs)) := by rw [xwd_at hk, hq, hs]; rfl
  have htt : ∃ ty, (xtys G)[t]? = some (xcA G t, ty) := by
    have : t = 0 ∨ t = 1 ∨ t = 2 ∨ t = 3 ∨ t = 4 ∨ t = 5 ∨ t = 6 := by omega
    rcases this with rfl | rfl | rfl | rfl | rfl | rfl | rfl <;> exact ⟨_, rfl⟩
  obtain ⟨ty, hty⟩ := htt
  exact va_alen hx hb hK hP k t hat hty hv d (kk z hz H locs ls hl hP hD hS)
def xcpy {α : Type} (f g : Nat → α) (j : Nat) : Nat → α := fun i => if i < j then f i else g i
theorem xcpy_va {α : Type} (f g : Nat → α) (j : Nat) : va_cpy f g 0 0 j = xcpy f g j := by
  funext i
  simp [va_cpy, xcpy]
theorem ixc_in {i : Int32} {n j : Nat} (h : ixc i n = some j) : ¬ i < 0 ∧ i.toNatClampNeg = j ∧ j ≤ n := by
  unfold ixc at h
  split at h
  · next q =>
    cases h
    have h0 : ¬ i < 0 := by rw [Int32.lt_iff_toInt_lt]; simp; omega
    refine ⟨h0, rfl, ?_⟩
    have : i.toNatClampNeg = i.toInt.toNat := rfl
    omega
  · cases h
theorem x_copyIc (g : xGood E l0 G.1 own cc yy n ret R0) (hw : xWG G sh) {k a N N0 j idx : Nat} {rs rs0 : List Nat} {w : Int32} {F : xMem → Option ρ} (d : decode cc pc = .ok (.invokestatic idx, 3)) (hL : Cond.methodLink own idx arraycopyName ∈ GT) (hNa : Cond.native arraycopyName ∈ GT ∧ Cond.static arraycopyName ∈ GT ∧ Cond.initialized "java/lang/System" ∈ GT) (hs0 : sh a = .inr (0, N0, rs0)) (hs : sh k = .inr (0, N, rs)) (hj : ixc w (min N0 N) = some j) (hroom : 1 ≤ R0.frames ∧ (st.map fun v => v.category).sum + (nativeFrameWords "java/lang/System" "arraycopy" 5 + 11) ≤ R0.locals) (kk : ∀ m' : xMem, Xg E fin (pc + 3) lv st (xwd G m') (F m')) : Xg E fin pc lv (.int w :: .int 0 :: .ref (xad G k) :: .int 0 :: .ref (xad G a) :: st) (xwd G m) (nm (upR m k (xcpy (m.1 a) (m.1 k) j)) F) := by
  obtain ⟨p, l, e, R, s, mm, args, below, meth, c, nL, ce, sl, A, S⟩ := E
  intro z hz H locs ls hl hP hD hS
  obtain ⟨hx, hb, hml, hnl, hown, hts, hNW, hr, hlk, hR, hK, hSS, hll, hAA, hce, hst⟩ := g
  subst hSS
  obtain ⟨hk, hq⟩ := xGood_N hw (k := k) (by rw [hs]; intro h; cases h)
  obtain ⟨hk0, hq0⟩ := xGood_N hw (k := a) (by rw [hs0]; intro h; cases h)
  have hat : (xwd G m)[k]? = some (xad G k, .inl (xcA G 0, N, .inl (m.1 k))) := by rw [xwd_at hk, hq, hs]; rfl
  have hat0 : (xwd G m)[a]? = some (xad G a, .inl (xcA G 0, N0, .inl (m.1 a))) := by rw [xwd_at hk0, hq0, hs0]; rfl
  obtain ⟨h1, h2, h3⟩ := ixc_in hj
  subst h2
  subst hR
  have h00 : (0 : Int32).toNatClampNeg = 0 := rfl
  have hset : (xwd G m).set k (xad G k, .inl (xcA G 0, N, .inl (va_cpy (m.1 a) (m.1 k) (0 : Int32).toNatClampNeg (0 : Int32).toNatClampNeg w.toNatClampNeg))) = xwd G (upR m k (xcpy (m.1 a) (m.1 k) w.toNatClampNeg)) := xwd_set hk (by rw [hq, hs]; simp only [xcel, xarr, upR_eq, h00, xcpy_va]; rfl) (fun a ha => ⟨upR_ne m _ ha, rfl⟩)
  exact va_copyi hx hb (by rw [hml, ← hnl]; exact hl.1.symm) hown (hts _ (List.mem_cons_of_mem _ hL)) (hts _ (List.mem_cons_of_mem _ hNa.1)) (hts _ (List.mem_cons_of_mem _ hNa.2.1)) (hts _ (List.mem_cons_of_mem _ hNa.2.2)) hK hP hD hS a k 0 0 (ty := .int) hat0 hat rfl rfl rfl (by decide) (by decide) h1 (by rw [h00]; omega) (by rw [h00]; omega) (fun _ _ => rfl) hroom.1 hroom.2 d (fun H1 locs1 hP1 hD1 hS1 => kk _ z hz H1 locs1 ls hl (hset ▸ hP1) (hset ▸ hD1) hS1)
theorem x_copyI (g : xGood E l0 G.1 own cc yy n ret R0) (hw : xWG G sh) {k a N N0 idx : Nat} {rs rs0 : List Nat} {w : Int32} {F : Nat → xMem → Option ρ} (d : decode cc pc = .ok (.invokestatic idx, 3)) (hL : Cond.methodLink own idx arraycopyName ∈ GT) (hNa : Cond.native arraycopyName ∈ GT ∧ Cond.static arraycopyName ∈ GT ∧ Cond.initialized "java/lang/System" ∈ GT) (hs0 : sh a = .inr (0, N0, rs0)) (hs : sh k = .inr (0, N, rs)) (hroom : 1 ≤ R0.frames ∧ (st.map fun v => v.category).sum + (nativeFrameWords "java/lang/System" "arraycopy" 5 + 11) ≤ R0.locals) (kk : ∀ j, j ≤ min N0 N → ∀ m' : xMem, Xg E fin (pc + 3) lv st (xwd G m') (F j m')) : Xg E fin pc lv (.int w :: .int 0 :: .ref (xad G k) :: .int 0 :: .ref (xad G a) :: st) (xwd G m) ((ixc w (min N0 N)).bind fun j => nm (upR m k (xcpy (m.1 a) (m.1 k) j)) (F j)) := by
  cases hj : ixc w (min N0 N) with
  | none => exact x_none
  | some j => exact x_copyIc g hw d hL hNa hs0 hs hj hroom (kk j (ixc_in hj).2.2)
theorem x_copyLc (g : xGood E l0 G.1 own cc yy n ret R0) (hw : xWG G sh) {k a N N0 j idx : Nat} {rs rs0 : List Nat} {w : Int32} {F : xMem → Option ρ} (d : decode cc pc = .ok (.invokestatic idx, 3)) (hL : Cond.methodLink own idx arraycopyName ∈ GT) (hNa : Cond.native arraycopyName ∈ GT ∧ Cond.static arraycopyName ∈ GT ∧ Cond.initialized "java/lang/System" ∈ GT) (hs0 : sh a = .inr (1, N0, rs0)) (hs : sh k = .inr (1, N, rs)) (hj : ixc w (min N0 N) = some j) (hroom : 1 ≤ R0.frames ∧ (st.map fun v => v.category).sum + (nativeFrameWords "java/lang/System" "arraycopy" 5 + 11) ≤ R0.locals) (kk : ∀ m' : xMem, Xg E fin (pc + 3) lv st (xwd G m') (F m')) : Xg E fin pc lv (.int w :: .int 0 :: .ref (xad G k) :: .int 0 :: .ref (xad G a) :: st) (xwd G m) (nm (upRL m k (xcpy (m.2 a) (m.2 k) j)) F) := by
  obtain ⟨p, l, e, R, s, mm, args, below, meth, c, nL, ce, sl, A, S⟩ := E
  intro z hz H locs ls hl hP hD hS
  obtain ⟨hx, hb, hml, hnl, hown, hts, hNW, hr, hlk, hR, hK, hSS, hll, hAA, hce, hst⟩ := g
  subst hSS
  obtain ⟨hk, hq⟩ := xGood_N hw (k := k) (by rw [hs]; intro h; cases h)
  obtain ⟨hk0, hq0⟩ := xGood_N hw (k := a) (by rw [hs0]; intro h; cases h)
  have hat : (xwd G m)[k]? = some (xad G k, .inl (xcA G 1, N, .inr (.inl (m.2 k)))) := by rw [xwd_at hk, hq, hs]; rfl
  have hat0 : (xwd G m)[a]? = some (xad G a, .inl (xcA G 1, N0, .inr (.inl (m.2 a)))) := by rw [xwd_at hk0, hq0, hs0]; rfl
  obtain ⟨h1, h2, h3⟩ := ixc_in hj
  subst h2
  subst hR
  have h00 : (0 : Int32).toNatClampNeg = 0 := rfl
  have hset : (xwd G m).set k (xad G k, .inl (xcA G 1, N, .inr (.inl (va_cpy (m.2 a) (m.2 k) (0 : Int32).toNatClampNeg (0 : Int32).toNatClampNeg w.toNatClampNeg)))) = xwd G (upRL m k (xcpy (m.2 a) (m.2 k) w.toNatClampNeg)) := xwd_set hk (by rw [hq, hs]; simp only [xcel, xarr, upRL_eq, h00, xcpy_va]; rfl) (fun a ha => ⟨rfl, upRL_ne m _ ha⟩)
  exact va_copyl hx hb (by rw [hml, ← hnl]; exact hl.1.symm) hown (hts _ (List.mem_cons_of_mem _ hL)) (hts _ (List.mem_cons_of_mem _ hNa.1)) (hts _ (List.mem_cons_of_mem _ hNa.2.1)) (hts _ (List.mem_cons_of_mem _ hNa.2.2)) hK hP hD hS a k 1 1 (ty := .long) hat0 hat rfl rfl rfl (by decide) (by decide) h1 (by rw [h00]; omega) (by rw [h00]; omega) (fun _ _ => rfl) hroom.1 hroom.2 d (fun H1 locs1 hP1 hD1 hS1 => kk _ z hz H1 locs1 ls hl (hset ▸ hP1) (hset ▸ hD1) hS1)
theorem x_copyL (g : xGood E l0 G.1 own cc yy n ret R0) (hw : xWG G sh) {k a N N0 idx : Nat} {rs rs0 : List Nat} {w : Int32} {F : Nat → xMem → Option ρ} (d : decode cc pc = .ok (.invokestatic idx, 3)) (hL : Cond.methodLink own idx arraycopyName ∈ GT) (hNa : Cond.native arraycopyName ∈ GT ∧ Cond.static arraycopyName ∈ GT ∧ Cond.initialized "java/lang/System" ∈ GT) (hs0 : sh a = .inr (1, N0, rs0)) (hs : sh k = .inr (1, N, rs)) (hroom : 1 ≤ R0.frames ∧ (st.map fun v => v.category).sum + (nativeFrameWords "java/lang/System" "arraycopy" 5 + 11) ≤ R0.locals) (kk : ∀ j, j ≤ min N0 N → ∀ m' : xMem, Xg E fin (pc + 3) lv st (xwd G m') (F j m')) : Xg E fin pc lv (.int w :: .int 0 :: .ref (xad G k) :: .int 0 :: .ref (xad G a) :: st) (xwd G m) ((ixc w (min N0 N)).bind fun j => nm (upRL m k (xcpy (m.2 a) (m.2 k) j)) (F j)) := by
  cases hj : ixc w (min N0 N) with
  | none => exact x_none
  | some j => exact x_copyLc g hw d hL hNa hs0 hs hj hroom (kk j (ixc_in hj).2.2)
theorem x_mmin (g : xGood E l0 S0 own cc yy n ret R0) {idx : Nat} {x y : Int32} (d : decode cc pc = .ok (.invokestatic idx, 3)) (hL : Cond.methodLink own idx Lib.Math.min.name ∈ GT) (hNa : Cond.static Lib.Math.min.name ∈ GT ∧ Cond.initialized "java/lang/Math" ∈ GT ∧ Cond.code Lib.Math.min.name Lib.Math.min.code 2 (some .int) ∈ GT) (hroom : 1 ≤ R0.frames ∧ (st.map fun v => v.category).sum + 13 ≤ R0.locals) (kk : Xg E fin (pc + 3) lv (.int (i_min x y) :: st) wd res) : Xg E fin pc lv (.int y :: .int x :: st) wd res := by
  obtain ⟨p, l, e, R, s, mm, args, below, meth, c, nL, ce, sl, A, S⟩ := E
  intro z hz H locs ls hl hP hD hS
  obtain ⟨hx, hb, hml, hnl, hown, hts, hNW, hr, hlk, hR, hK, hSS, hll, hAA, hce, hst⟩ := g
  subst hSS
  subst hR
  exact va_mmin hx hb (by rw [hml, ← hnl]; exact hl.1.symm) hown (hts _ (List.mem_cons_of_mem _ hL)) (hts _ (List.mem_cons_of_mem _ hNa.1)) (hts _ (List.mem_cons_of_mem _ hNa.2.1)) (hts _ (List.mem_cons_of_mem _ hNa.2.2)) hroom.1 hroom.2 hce.1 hce.2 d (kk z hz H locs ls hl hP hD hS)
theorem x_mmax (g : xGood E l0 S0 own cc yy n ret R0) {idx : Nat} {x y : Int32} (d : decode cc pc = .ok (.invokestatic idx, 3)) (hL : Cond.methodLink own idx Lib.Math.max.name ∈ GT) (hNa : Cond.static Lib.Math.max.name ∈ GT ∧ Cond.initialized "java/lang/Math" ∈ GT ∧ Cond.code Lib.Math.max.name Lib.Math.max.code 2 (some .int) ∈ GT) (hroom : 1 ≤ R0.frames ∧ (st.map fun v => v.category).sum + 13 ≤ R0.locals) (kk : Xg E fin (pc + 3) lv (.int (i_max x y) :: st) wd res) : Xg E fin pc lv (.int y :: .int x :: st) wd res := by
  obtain ⟨p, l, e, R, s, mm, args, below, meth, c, nL, ce, sl, A, S⟩ := E
  intro z hz H locs ls hl hP hD hS
  obtain ⟨hx, hb, hml, hnl, hown, hts, hNW, hr, hlk, hR, hK, hSS, hll, hAA, hce, hst⟩ := g
  subst hSS
  subst hR
  exact va_mmax hx hb (by rw [hml, ← hnl]; exact hl.1.symm) hown (hts _ (List.mem_cons_of_mem _ hL)) (hts _ (List.mem_cons_of_mem _ hNa.1)) (hts _ (List.mem_cons_of_mem _ hNa.2.1)) (hts _ (List.mem_cons_of_mem _ hNa.2.2)) hroom.1 hroom.2 hce.1 hce.2 d (kk z hz H locs ls hl hP hD hS)
theorem x_iret (g : xGood E l0 G.1 own cc yy n ret R0) {v : Int32} {w : ρ} (d : decode cc pc = .ok (.ireturn, 1)) (hret : ret = some .int) (hf : ∀ t, xEnd E G (some (.int v), m) t → fin w t) : Xg E fin pc lv [.int v] (xwd G m) (some w) := by
  obtain ⟨p, l, e, R, s, mm, args, below, meth, c, nL, ce, sl, A, S⟩ := E
  intro z hz H locs ls hl hP hD hS
  obtain ⟨hx, hb, hml, hnl, hown, hts, hNW, hr, hlk, hR, hK, hSS, hll, hAA, hce, hst⟩ := g
  subst hSS
  cases hz
  subst hret
  intro T hT Y
  obtain ⟨t, a1, b1⟩ := W.iret (Qc := fun _ st oc t => (oc = .returned (some (.int v)) ∧ xWK G m t) ∧ va_F A st t) (v := v) hx hb hr (fun t ht hW => ⟨⟨rfl, by rw [ht]; exact hP, va_K.moved hW.alike hK, hD.weaken (fun _ _ _ _ => trivial)⟩, hS.F ht⟩) hS.2.2 d hlk T hT Y
  exact ⟨t, a1, hf t b1⟩
theorem x_lret (g : xGood E l0 G.1 own cc yy n ret R0) {v : Int64} {w : ρ} (d : decode cc pc = .ok (.lreturn, 1)) (hret : ret = some .long) (hf : ∀ t, xEnd E G (some (.long v), m) t → fin w t) : Xg E fin pc lv [.long v] (xwd G m) (some w) := by
  obtain ⟨p, l, e, R, s, mm, args, below, meth, c, nL, ce, sl, A, S⟩ := E
  intro z hz H locs ls hl hP hD hS
  obtain ⟨hx, hb, hml, hnl, hown, hts, hNW, hr, hlk, hR, hK, hSS, hll, hAA, hce, hst⟩ := g
  subst hSS
  cases hz
  subst hret
  intro T hT Y
  obtain ⟨t, a1, b1⟩ := W.lret (Qc := fun _ st oc t => (oc = .returned (some (.long v)) ∧ xWK G m t) ∧ va_F A st t) (v := v) hx hb hr (fun t ht hW => ⟨⟨rfl, by rw [ht]; exact hP, va_K.moved hW.alike hK, hD.weaken (fun _ _ _ _ => trivial)⟩, hS.F ht⟩) hS.2.2 d hlk T hT Y
  exact ⟨t, a1, hf t b1⟩
theorem x_zretc (g : xGood E l0 G.1 own cc yy n ret R0) {v : Int32} {w : ρ} (d : decode cc pc = .ok (.ireturn, 1)) (hret : ret = some .boolean) (hv : v = 0 ∨ v = 1) (hf : ∀ t, xEnd E G (some (.int v), m) t → fin w t) : Xg E fin pc lv [.int v] (xwd G m) (some w) := by
  obtain ⟨p, l, e, R, s, mm, args, below, meth, c, nL, ce, sl, A, S⟩ := E
  intro z hz H locs ls hl hP hD hS
  obtain ⟨hx, hb, hml, hnl, hown, hts, hNW, hr, hlk, hR, hK, hSS, hll, hAA, hce, hst⟩ := g
  subst hSS
  cases hz
  subst hret
  intro T hT Y
  obtain ⟨t, a1, b1⟩ := W.zret (Qc := fun _ st oc t => (oc = .returned (some (.int v)) ∧ xWK G m t) ∧ va_F A st t) (v := v) hx hb hr (by rcases hv with rfl | rfl <;> rfl) (fun t ht hW => ⟨⟨rfl, by rw [ht]; exact hP, va_K.moved hW.alike hK, hD.weaken (fun _ _ _ _ => trivial)⟩, hS.F ht⟩) hS.2.2 d hlk T hT Y
  exact ⟨t, a1, hf t b1⟩
theorem x_vret (g : xGood E l0 G.1 own cc yy n ret R0) {w : ρ} (d : decode cc pc = .ok (.return_, 1)) (hret : ret = none) (hf : ∀ t, xEnd E G (none, m) t → fin w t) : Xg E fin pc lv [] (xwd G m) (some w) := by
  obtain ⟨p, l, e, R, s, mm, args, below, meth, c, nL, ce, sl, A, S⟩ := E
  intro z hz H locs ls hl hP hD hS
  obtain ⟨hx, hb, hml, hnl, hown, hts, hNW, hr, hlk, hR, hK, hSS, hll, hAA, hce, hst⟩ := g
  subst hSS
  cases hz
  subst hret
  intro T hT Y
  obtain ⟨t, a1, b1⟩ := W.vret (Qc := fun _ st oc t => (oc = .returned (none) ∧ xWK G m t) ∧ va_F A st t) hx hb hr (fun t ht hW => ⟨⟨rfl, by rw [ht]; exact hP, va_K.moved hW.alike hK, hD.weaken (fun _ _ _ _ => trivial)⟩, hS.F ht⟩) hS.2.2 d hlk T hT Y
  exact ⟨t, a1, hf t b1⟩
theorem x_aret (g : xGood E l0 G.1 own cc yy n ret R0) {v : Nat} {w : ρ} (d : decode cc pc = .ok (.areturn, 1)) (hret : ret = some (.array .int)) (hf : ∀ t, xEnd E G (some (.ref v), m) t → fin w t) : Xg E fin pc lv [.ref v] (xwd G m) (some w) := by
  obtain ⟨p, l, e, R, s, mm, args, below, meth, c, nL, ce, sl, A, S⟩ := E
  intro z hz H locs ls hl hP hD hS
  obtain ⟨hx, hb, hml, hnl, hown, hts, hNW, hr, hlk, hR, hK, hSS, hll, hAA, hce, hst⟩ := g
  subst hSS
  cases hz
  subst hret
  intro T hT Y
  obtain ⟨t, a1, b1⟩ := W.aret (Qc := fun _ st oc t => (oc = .returned (some (.ref v)) ∧ xWK G m t) ∧ va_F A st t) (v := .ref v) hx hb hr (Or.inr ⟨_, rfl⟩) (Or.inr ⟨_, rfl⟩) (fun t ht hW => ⟨⟨rfl, by rw [ht]; exact hP, va_K.moved hW.alike hK, hD.weaken (fun _ _ _ _ => trivial)⟩, hS.F ht⟩) hS.2.2 d hlk T hT Y
  exact ⟨t, a1, hf t b1⟩
theorem x_zret (g : xGood E l0 G.1 own cc yy n ret R0) {v : Int32} {q : Int32 → ρ} (d : decode cc pc = .ok (.ireturn, 1)) (hret : ret = some .boolean) (hf : ∀ w t, xEnd E G (some (.int w), m) t → fin (q w) t) : Xg E fin pc lv [.int v] (xwd G m) ((rz v).bind fun w => some (q w)) := by
  cases hj : rz v with
  | none => exact x_none
  | some w =>
    obtain ⟨rfl, h⟩ := rz_in hj
    exact x_zretc g d hret h (hf v)
/-- a call of an instance method: its words -/
def xML (own : String) (idx ci : Nat) (y : MethodName) (b : ByteArray) (n2 : Nat) (r2 : Option FieldType) (na : Nat) : Prop :=
  Cond.methodLink own idx y ∈ GT ∧ Cond.instanceMethod y ∈ GT ∧ Cond.selects y.cls y y ∈ GT ∧ Cond.initialized y.cls ∈ GT ∧ Cond.code y b n2 r2 ∈ GT ∧ (∃ T N, vwCl[ci]? = some (y.cls, T, N)) ∧ y.cls ≠ "java/lang/invoke/MethodHandle" ∧ y.cls ≠ "java/lang/invoke/VarHandle" ∧ (parseMethodDescriptor y.desc).map (fun d => d.parameters.length) = some na
def xMS (own : String) (idx : Nat) (y : MethodName) (b : ByteArray) (n2 : Nat) (r2 : Option FieldType) (na : Nat) : Prop :=
  Cond.methodLink own idx y ∈ GT ∧ Cond.static y ∈ GT ∧ Cond.initialized y.cls ∈ GT ∧ Cond.code y b n2 r2 ∈ GT ∧ y.cls ≠ "java/lang/invoke/MethodHandle" ∧ y.cls ≠ "java/lang/invoke/VarHandle" ∧ (parseMethodDescriptor y.desc).map (fun d => d.parameters.length) = some na
end XR
section XB
variable {p : Program} {l : Launch} {e : Env} {R : Room} {s : State} {mm : MethodId} {args : Array Value} {below : List Frame} {meth : Method} {c : Code} {H : Heap} {locs : List Loc} {Q : State → Prop} {pc : Nat} {ls : Array Slot} {st st0 : List Value} {G : xG} {m m2 : xMem} {av : Array Value} {r : Option Value} {ce sl : Nat} {A : Nat → Prop}
theorem xA_in (hD : va_D A (xwd G m)) (hA : ∀ q, s.heap.size ≤ q → A q) (hS : s.heap.size ≤ H.size) : ∀ q : Nat, xA G H.size q → A q := by
  intro q h
  rcases h with ⟨k, hk, rfl⟩ | h
  · exact hD.2 k _ (xwd_at hk)
  · exact hA q (Nat.le_trans hS h)
theorem x_base (hr : va_Run p l e R s mm args below meth c H locs ce sl 0 0 (F0 mm pc ls st0) st (xQ G H.size r m2 av) (xA G H.size)) (hD : va_D A (xwd G m)) (hA : ∀ q, s.heap.size ≤ q → A q) (hS : va_S A s.heap H locs)
    (kk : ∀ (H1 : Heap) (locs1 : List Loc), va_P (xD G) vwCl (xwd G m2) H1 → va_D A (xwd G m2) → va_S A s.heap H1 locs1 → W p l e R s mm args below meth c H1 locs1 ce sl Q (F0 mm (pc + 3) ls (r.toList ++ st))) : W p l e R s mm args below meth c H locs ce sl Q (F0 mm pc ls st0) := by
  have hAA := xA_in (H := H) hD hA hS.1
  intro T hT X
  obtain ⟨v, st₀, t, T', L, h0, X', hL, e1, e2, ⟨⟨hv, hP, hK, hD2⟩, hz, hk⟩, stp⟩ := hr T hT X
  cases hv
  rw [h0] at hz hk
  obtain ⟨t2, a1, b1⟩ := kk T'.heap (locs ++ L) (by rw [e1]; exact hP) ((xD_of (sz := H.size) hD2).weaken (fun _ q _ h => hAA q.1 h))
    ⟨Nat.le_trans hS.1 (by rw [e1]; exact hz), fun q h1 h2 => by rw [e1, hk q (Nat.lt_of_lt_of_le h1 hS.1) (fun z => h2 (hAA q z))]; exact hS.2.1 q h1 h2, fun q hq => by
      rcases List.mem_append.mp hq with h | h
      · exact hS.2.2 q h
      · exact hAA _ (hL q h)⟩ T' rfl X'
  exact ⟨t2, stp t2 a1, b1⟩
end XB
section XC
variable {E : xE} {l0 : Launch} {S0 : xS} {G : xG} {own : String} {cc : ByteArray} {yy : MethodName} {n : Nat} {ret : Option FieldType} {R0 : Room} {sh : Nat → xSh} {ρ : Type} {fin : ρ → State → Prop} {pc : Nat} {lv : List (Nat × Value)} {st st0 : List Value} {m : xMem} {res : Option ρ} {y : MethodName} {b2 : ByteArray} {n2 na idx : Nat} {r2 : Option FieldType} {rm2 : Room} {as : List Value}
/-- the callee's room fits -/
def xRm (rm2 : Room) (n2 : Nat) (R0 : Room) : Prop := rm2.cells = 0 ∧ rm2.slots = 0 ∧ rm2.frames + 1 ≤ R0.frames ∧ 8 + (n2 + 11) + rm2.locals ≤ R0.locals
theorem x_invV (g : xGood E l0 G.1 own cc yy n ret R0) (hw : xWG G sh) {k ci : Nat} {fds : List Nat} {o : Option Value × xMem} (C : xCt l0 G y b2 n2 r2 rm2 (.ref (xad G k) :: as) m (some o)) (d : decode cc pc = .ok (.invokevirtual idx, 3)) (L : xML own idx ci y b2 n2 r2 na) (hs : sh k = .inl (ci, fds)) (hn : as.length = na) (hstk : st0 = as.reverse ++ .ref (xad G k) :: st) (hcat : (st.map fun v => v.category).sum ≤ 8) (hroom : xRm rm2 n2 R0) (kk : Xg E fin (pc + 3) lv (o.1.toList ++ st) (xwd G o.2) res) : Xg E fin pc lv st0 (xwd G m) res := by
  obtain ⟨p, l, e, R, s, mm, args, below, meth, c, nL, ce, sl, A, S⟩ := E
  intro z hz H locs ls hl hP hD hS
  obtain ⟨hx, hb, hml, hnl, hown, hts, hNW, hr, hlk, hR, hK, hSS, hll, hAA, hce, hst⟩ := g
  subst hSS
  subst hR
  subst hll
  obtain ⟨L1, L2, L3, L4, L5, ⟨T, N, L6⟩, L7, L8, L9⟩ := L
  obtain ⟨hk, hq⟩ := xGood_N hw (k := k) (by rw [hs]; intro h; cases h)
  have hat : (xwd G m)[k]? = some (xad G k, .inr (ci, xfs (xad G) m k 0 fds)) := by rw [xwd_at hk, hq, hs]; rfl
  have T' : ∀ {w : Cond}, w ∈ GT → w.before args s = true := fun h => hts _ (List.mem_cons_of_mem _ h)
  have hAin := xA_in (H := H) hD hAA hS.1
  refine x_base (va_runV (As := as) (rest := st) (n := na) (maxL := n2) (ret := r2) (bytes := b2) ⟨hx, hb, hml, hown, hts⟩ (C o rfl H.size) ⟨⟨hroom.1, hroom.2.1, hroom.2.2.1, hroom.2.2.2, pay_in hts (GT_cons L5), List.mem_cons_self, T' L5, T' L4, ⟨L7, L8⟩, fun sig h => ?_, T' L1⟩, T' L2, T' L3⟩ ⟨xPc_blind, va_recv hK hP L6 hat, fun U hU hW => ⟨rfl, by rw [hU], ⟨by rw [hU]; exact hP, va_K.moved hW.alike hK, hD.weaken (fun _ _ _ _ => trivial)⟩, xNW.warm hW hNW, by rw [hU]; exact xSt.to hW hS.2.1 hAin hst⟩⟩ rfl hn (by rw [← hnl]; exact hl.1) hstk (lv_room hcat) d hce) hD hAA hS (fun H1 locs1 hP1 hD1 hS1 => kk z hz H1 locs1 ls hl hP1 hD1 hS1)
  rw [h] at L9
  exact (Option.some.inj L9).symm
theorem x_invS (g : xGood E l0 G.1 own cc yy n ret R0) {o : Option Value × xMem} (C : xCt l0 G y b2 n2 r2 rm2 as m (some o)) (d : decode cc pc = .ok (.invokestatic idx, 3)) (L : xMS own idx y b2 n2 r2 na) (hn : as.length = na) (hstk : st0 = as.reverse ++ st) (hcat : (st.map fun v => v.category).sum ≤ 8) (hroom : xRm rm2 n2 R0) (kk : Xg E fin (pc + 3) lv (o.1.toList ++ st) (xwd G o.2) res) : Xg E fin pc lv st0 (xwd G m) res := by
  obtain ⟨p, l, e, R, s, mm, args, below, meth, c, nL, ce, sl, A, S⟩ := E
  intro z hz H locs ls hl hP hD hS
  obtain ⟨hx, hb, hml, hnl, hown, hts, hNW, hr, hlk, hR, hK, hSS, hll, hAA, hce, hst⟩ := g
  subst hSS
  subst hR
  subst hll
  obtain ⟨L1, L2, L4, L5, L7, L8, L9⟩ := L
  have T' : ∀ {w : Cond}, w ∈ GT → w.before args s = true := fun h => hts _ (List.mem_cons_of_mem _ h)
  have hAin := xA_in (H := H) hD hAA hS.1
  refine x_base (va_runS (As := as) (rest := st) (n := na) (maxL := n2) (ret := r2) (bytes := b2) ⟨hx, hb, hml, hown, hts⟩ (C o rfl H.size) ⟨⟨hroom.1, hroom.2.1, hroom.2.2.1, hroom.2.2.2, pay_in hts (GT_cons L5), List.mem_cons_self, T' L5, T' L4, ⟨L7, L8⟩, fun sig h => ?_, T' L1⟩, T' L2⟩ ⟨xPc_blind, fun U hU hW => ⟨rfl, by rw [hU], ⟨by rw [hU]; exact hP, va_K.moved hW.alike hK, hD.weaken (fun _ _ _ _ => trivial)⟩, xNW.warm hW hNW, by rw [hU]; exact xSt.to hW hS.2.1 hAin hst⟩⟩ rfl hn (by rw [← hnl]; exact hl.1) hstk (lv_room hcat) d hce) hD hAA hS (fun H1 locs1 hP1 hD1 hS1 => kk z hz H1 locs1 ls hl hP1 hD1 hS1)
  rw [h] at L9
  exact (Option.some.inj L9).symm
def xCi (l : Launch) (G : xG) (y : MethodName) (b : ByteArray) (n : Nat) (ret : Option FieldType) (rm : Room) (av : List Value) (m : xMem) (out : Option (Int32)) : Prop := xCt l G y b n ret rm av m (out.map (fun r => (some (.int r), m)))
theorem x_Vi (g : xGood E l0 G.1 own cc yy n ret R0) (hw : xWG G sh) {k ci : Nat} {fds : List Nat} {out : Option (Int32)} {F : Int32 → Option ρ} (as : List Value) (st : List Value) (C : xCi l0 G y b2 n2 r2 rm2 (.ref (xad G k) :: as) m out) (d : decode cc pc = .ok (.invokevirtual idx, 3)) (L : xML own idx ci y b2 n2 r2 na) (hs : sh k = .inl (ci, fds)) (hn : as.length = na) (hstk : st0 = as.reverse ++ .ref (xad G k) :: st) (hcat : (st.map fun v => v.category).sum ≤ 8) (hroom : xRm rm2 n2 R0) (kk : ∀ r, out = some r → Xg E fin (pc + 3) lv (.int r :: st) (xwd G m) (F r)) : Xg E fin pc lv st0 (xwd G m) (out.bind F) := by
  cases ho : out with
  | none => exact x_none
  | some r =>
    subst ho
    exact x_invV g hw C d L hs hn hstk hcat hroom (kk r rfl)
theorem x_Si (g : xGood E l0 G.1 own cc yy n ret R0) {out : Option (Int32)} {F : Int32 → Option ρ} (as : List Value) (st : List Value) (C : xCi l0 G y b2 n2 r2 rm2 as m out) (d : decode cc pc = .ok (.invokestatic idx, 3)) (L : xMS own idx y b2 n2 r2 na) (hn : as.length = na) (hstk : st0 = as.reverse ++ st) (hcat : (st.map fun v => v.category).sum ≤ 8) (hroom : xRm rm2 n2 R0) (kk : ∀ r, out = some r → Xg E fin (pc + 3) lv (.int r :: st) (xwd G m) (F r)) : Xg E fin pc lv st0 (xwd G m) (out.bind F) := by
  cases ho : out with
  | none => exact x_none
  | some r =>
    subst ho
    exact x_invS g C d L hn hstk hcat hroom (kk r rfl)
def xCim (l : Launch) (G : xG) (y : MethodName) (b : ByteArray) (n : Nat) (ret : Option FieldType) (rm : Room) (av : List Value) (m : xMem) (out : Option (Int32 × xMem)) : Prop := xCt l G y b n ret rm av m (out.map (fun r => (some (.int r.1), r.2)))
theorem x_Vim (g : xGood E l0 G.1 own cc yy n ret R0) (hw : xWG G sh) {k ci : Nat} {fds : List Nat} {out : Option (Int32 × xMem)} {F : Int32 × xMem → Option ρ} (as : List Value) (st : List Value) (C : xCim l0 G y b2 n2 r2 rm2 (.ref (xad G k) :: as) m out) (d : decode cc pc = .ok (.invokevirtual idx, 3)) (L : xML own idx ci y b2 n2 r2 na) (hs : sh k = .inl (ci, fds)) (hn : as.length = na) (hstk : st0 = as.reverse ++ .ref (xad G k) :: st) (hcat : (st.map fun v => v.category).sum ≤ 8) (hroom : xRm rm2 n2 R0) (kk : ∀ r, out = some r → Xg E fin (pc + 3) lv (.int r.1 :: st) (xwd G r.2) (F r)) : Xg E fin pc lv st0 (xwd G m) (out.bind F) := by
  cases ho : out with
  | none => exact x_none
  | some r =>
    subst ho
    exact x_invV g hw C d L hs hn hstk hcat hroom (kk r rfl)
theorem x_Sim (g : xGood E l0 G.1 own cc yy n ret R0) {out : Option (Int32 × xMem)} {F : Int32 × xMem → Option ρ} (as : List Value) (st : List Value) (C : xCim l0 G y b2 n2 r2 rm2 as m out) (d : decode cc pc = .ok (.invokestatic idx, 3)) (L : xMS own idx y b2 n2 r2 na) (hn : as.length = na) (hstk : st0 = as.reverse ++ st) (hcat : (st.map fun v => v.category).sum ≤ 8) (hroom : xRm rm2 n2 R0) (kk : ∀ r, out = some r → Xg E fin (pc + 3) lv (.int r.1 :: st) (xwd G r.2) (F r)) : Xg E fin pc lv st0 (xwd G m) (out.bind F) := by
  cases ho : out with
  | none => exact x_none
  | some r =>
    subst ho
    exact x_invS g C d L hn hstk hcat hroom (kk r rfl)
def xCv (l : Launch) (G : xG) (y : MethodName) (b : ByteArray) (n : Nat) (ret : Option FieldType) (rm : Room) (av : List Value) (m : xMem) (out : Option (xMem)) : Prop := xCt l G y b n ret rm av m (out.map (fun r => (none, r)))
theorem x_Vv (g : xGood E l0 G.1 own cc yy n ret R0) (hw : xWG G sh) {k ci : Nat} {fds : List Nat} {out : Option (xMem)} {F : xMem → Option ρ} (as : List Value) (st : List Value) (C : xCv l0 G y b2 n2 r2 rm2 (.ref (xad G k) :: as) m out) (d : decode cc pc = .ok (.invokevirtual idx, 3)) (L : xML own idx ci y b2 n2 r2 na) (hs : sh k = .inl (ci, fds)) (hn : as.length = na) (hstk : st0 = as.reverse ++ .ref (xad G k) :: st) (hcat : (st.map fun v => v.category).sum ≤ 8) (hroom : xRm rm2 n2 R0) (kk : ∀ r, out = some r → Xg E fin (pc + 3) lv (st) (xwd G r) (F r)) : Xg E fin pc lv st0 (xwd G m) (out.bind F) := by
  cases ho : out with
  | none => exact x_none
  | some r =>
    subst ho
    exact x_invV g hw C d L hs hn hstk hcat hroom (kk r rfl)
theorem x_Sv (g : xGood E l0 G.1 own cc yy n ret R0) {out : Option (xMem)} {F : xMem → Option ρ} (as : List Value) (st : List Value) (C : xCv l0 G y b2 n2 r2 rm2 as m out) (d : decode cc pc = .ok (.invokestatic idx, 3)) (L : xMS own idx y b2 n2 r2 na) (hn : as.length = na) (hstk : st0 = as.reverse ++ st) (hcat : (st.map fun v => v.category).sum ≤ 8) (hroom : xRm rm2 n2 R0) (kk : ∀ r, out = some r → Xg E fin (pc + 3) lv (st) (xwd G r) (F r)) : Xg E fin pc lv st0 (xwd G m) (out.bind F) := by
  cases ho : out with
  | none => exact x_none
  | some r =>
    subst ho
    exact x_invS g C d L hn hstk hcat hroom (kk r rfl)
def xCn (l : Launch) (G : xG) (y : MethodName) (b : ByteArray) (n : Nat) (ret : Option FieldType) (rm : Room) (av : List Value) (m : xMem) (out : Option (Nat)) : Prop := xCt l G y b n ret rm av m (out.map (fun r => (some (.ref (xad G r)), m)))
theorem x_Vn (g : xGood E l0 G.1 own cc yy n ret R0) (hw : xWG G sh) {k ci : Nat} {fds : List Nat} {out : Option (Nat)} {F : Nat → Option ρ} (as : List Value) (st : List Value) (C : xCn l0 G y b2 n2 r2 rm2 (.ref (xad G k) :: as) m out) (d : decode cc pc = .ok (.invokevirtual idx, 3)) (L : xML own idx ci y b2 n2 r2 na) (hs : sh k = .inl (ci, fds)) (hn : as.length = na) (hstk : st0 = as.reverse ++ .ref (xad G k) :: st) (hcat : (st.map fun v => v.category).sum ≤ 8) (hroom : xRm rm2 n2 R0) (kk : ∀ r, out = some r → Xg E fin (pc + 3) lv (.ref (xad G r) :: st) (xwd G m) (F r)) : Xg E fin pc lv st0 (xwd G m) (out.bind F) := by
  cases ho : out with
  | none => exact x_none
  | some r =>
    subst ho
    exact x_invV g hw C d L hs hn hstk hcat hroom (kk r rfl)
theorem x_Sn (g : xGood E l0 G.1 own cc yy n ret R0) {out : Option (Nat)} {F : Nat → Option ρ} (as : List Value) (st : List Value) (C : xCn l0 G y b2 n2 r2 rm2 as m out) (d : decode cc pc = .ok (.invokestatic idx, 3)) (L : xMS own idx y b2 n2 r2 na) (hn : as.length = na) (hstk : st0 = as.reverse ++ st) (hcat : (st.map fun v => v.category).sum ≤ 8) (hroom : xRm rm2 n2 R0) (kk : ∀ r, out = some r → Xg E fin (pc + 3) lv (.ref (xad G r) :: st) (xwd G m) (F r)) : Xg E fin pc lv st0 (xwd G m) (out.bind F) := by
  cases ho : out with
  | none => exact x_none
  | some r =>
    subst ho
    exact x_invS g C d L hn hstk hcat hroom (kk r rfl)
def xClm (l : Launch) (G : xG) (y : MethodName) (b : ByteArray) (n : Nat) (ret : Option FieldType) (rm : Room) (av : List Value) (m : xMem) (out : Option (Int64 × xMem)) : Prop := xCt l G y b n ret rm av m (out.map (fun r => (some (.long r.1), r.2)))
theorem x_Vlm (g : xGood E l0 G.1 own cc yy n ret R0) (hw : xWG G sh) {k ci : Nat} {fds : List Nat} {out : Option (Int64 × xMem)} {F : Int64 × xMem → Option ρ} (as : List Value) (st : List Value) (C : xClm l0 G y b2 n2 r2 rm2 (.ref (xad G k) :: as) m out) (d : decode cc pc = .ok (.invokevirtual idx, 3)) (L : xML own idx ci y b2 n2 r2 na) (hs : sh k = .inl (ci, fds)) (hn : as.length = na) (hstk : st0 = as.reverse ++ .ref (xad G k) :: st) (hcat : (st.map fun v => v.category).sum ≤ 8) (hroom : xRm rm2 n2 R0) (kk : ∀ r, out = some r → Xg E fin (pc + 3) lv (.long r.1 :: st) (xwd G r.2) (F r)) : Xg E fin pc lv st0 (xwd G m) (out.bind F) := by
  cases ho : out with
  | none => exact x_none
  | some r =>
    subst ho
    exact x_invV g hw C d L hs hn hstk hcat hroom (kk r rfl)
theorem x_Slm (g : xGood E l0 G.1 own cc yy n ret R0) {out : Option (Int64 × xMem)} {F : Int64 × xMem → Option ρ} (as : List Value) (st : List Value) (C : xClm l0 G y b2 n2 r2 rm2 as m out) (d : decode cc pc = .ok (.invokestatic idx, 3)) (L : xMS own idx y b2 n2 r2 na) (hn : as.length = na) (hstk : st0 = as.reverse ++ st) (hcat : (st.map fun v => v.category).sum ≤ 8) (hroom : xRm rm2 n2 R0) (kk : ∀ r, out = some r → Xg E fin (pc + 3) lv (.long r.1 :: st) (xwd G r.2) (F r)) : Xg E fin pc lv st0 (xwd G m) (out.bind F) := by
  cases ho : out with
  | none => exact x_none
  | some r =>
    subst ho
    exact x_invS g C d L hn hstk hcat hroom (kk r rfl)
def xCl (l : Launch) (G : xG) (y : MethodName) (b : ByteArray) (n : Nat) (ret : Option FieldType) (rm : Room) (av : List Value) (m : xMem) (out : Option (Int64)) : Prop := xCt l G y b n ret rm av m (out.map (fun r => (some (.long r), m)))
theorem x_Vl (g : xGood E l0 G.1 own cc yy n ret R0) (hw : xWG G sh) {k ci : Nat} {fds : List Nat} {out : Option (Int64)} {F : Int64 → Option ρ} (as : List Value) (st : List Value) (C : xCl l0 G y b2 n2 r2 rm2 (.ref (xad G k) :: as) m out) (d : decode cc pc = .ok (.invokevirtual idx, 3)) (L : xML own idx ci y b2 n2 r2 na) (hs : sh k = .inl (ci, fds)) (hn : as.length = na) (hstk : st0 = as.reverse ++ .ref (xad G k) :: st) (hcat : (st.map fun v => v.category).sum ≤ 8) (hroom : xRm rm2 n2 R0) (kk : ∀ r, out = some r → Xg E fin (pc + 3) lv (.long r :: st) (xwd G m) (F r)) : Xg E fin pc lv st0 (xwd G m) (out.bind F) := by
  cases ho : out with
  | none => exact x_none
  | some r =>
    subst ho
    exact x_invV g hw C d L hs hn hstk hcat hroom (kk r rfl)
theorem x_Sl (g : xGood E l0 G.1 own cc yy n ret R0) {out : Option (Int64)} {F : Int64 → Option ρ} (as : List Value) (st : List Value) (C : xCl l0 G y b2 n2 r2 rm2 as m out) (d : decode cc pc = .ok (.invokestatic idx, 3)) (L : xMS own idx y b2 n2 r2 na) (hn : as.length = na) (hstk : st0 = as.reverse ++ st) (hcat : (st.map fun v => v.category).sum ≤ 8) (hroom : xRm rm2 n2 R0) (kk : ∀ r, out = some r → Xg E fin (pc + 3) lv (.long r :: st) (xwd G m) (F r)) : Xg E fin pc lv st0 (xwd G m) (out.bind F) := by
  cases ho : out with
  | none => exact x_none
  | some r =>
    subst ho
    exact x_invS g C d L hn hstk hcat hroom (kk r rfl)
end XC
