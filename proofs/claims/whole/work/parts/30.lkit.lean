/-! The law's world: the class's cells, the model's, the one long that a throwing method answers in. Two worlds beside each other: what one call leaves of the other. -/
section LJ
variable {D : va_G} {cl : List vw_C} {A : Nat → Prop} {X Y X1 Y1 : va_W} {H H1 : Heap}
theorem lP_left (h : va_P D cl (X ++ Y) H) : va_P D cl X H := fun k q hk => h k q (by rw [List.getElem?_append_left (List.getElem?_eq_some_iff.mp hk).1]; exact hk)
theorem lAt_right {k : Nat} {q : Nat × va_E} (hk : Y[k]? = some q) : (X ++ Y)[X.length + k]? = some q := by
  rw [List.getElem?_append_right (Nat.le_add_right _ _), Nat.add_sub_cancel_left]; exact hk
theorem lAt_left {k : Nat} {q : Nat × va_E} (hk : X[k]? = some q) : (X ++ Y)[k]? = some q := by
  rw [List.getElem?_append_left (List.getElem?_eq_some_iff.mp hk).1]; exact hk
theorem lP_right (h : va_P D cl (X ++ Y) H) : va_P D cl Y H := fun k q hk => h (X.length + k) q (lAt_right hk)
theorem lD_left (h : va_D A (X ++ Y)) : va_D A X := ⟨fun i j p q hi hj e => h.1 i j p q (lAt_left hi) (lAt_left hj) e, fun k q hk => h.2 k q (lAt_left hk)⟩
theorem lD_right (h : va_D A (X ++ Y)) : va_D A Y := ⟨fun i j p q hi hj e => by have := h.1 _ _ p q (lAt_right (X := X) hi) (lAt_right (X := X) hj) e; omega, fun k q hk => h.2 _ q (lAt_right (X := X) hk)⟩
theorem lD_apart (h : va_D A (X ++ Y)) {i j : Nat} {p q : Nat × va_E} (hi : X[i]? = some p) (hj : Y[j]? = some q) : p.1 ≠ q.1 := fun e => by
  have := h.1 _ _ p q (lAt_left (Y := Y) hi) (lAt_right (X := X) hj) e
  have := (List.getElem?_eq_some_iff.mp hi).1
  omega
/-- the left world has moved on, over the same cells -/
theorem l_joinL (hP : va_P D cl (X ++ Y) H) (hD : va_D A (X ++ Y)) (hP1 : va_P D cl X1 H1) (hD1 : va_D A X1) (hsame : ∀ (k : Nat) (q1 : Nat × va_E), X1[k]? = some q1 → ∃ (k0 : Nat) (q : Nat × va_E), X[k0]? = some q ∧ q.1 = q1.1)
    (hk : ∀ a : Nat, a < H.size → (∀ (k : Nat) (q : Nat × va_E), X[k]? = some q → q.1 ≠ a) → H1[a]? = H[a]?) : va_P D cl (X1 ++ Y) H1 ∧ va_D A (X1 ++ Y) := by
  refine ⟨va_P.app hP1 (fun k q hq => (lP_right hP k q hq).kept (hk q.1 (lP_right hP k q hq).lt (fun k0 p hp => lD_apart hD hp hq))), va_D.app hD1 (lD_right hD) (fun i j p q hp hq e => ?_)⟩
  obtain ⟨k0, p0, h0, e0⟩ := hsame i p hp
  exact lD_apart hD h0 hq (e0.trans e)
/-- the right world has moved on, over the same cells -/
theorem l_joinR (hP : va_P D cl (X ++ Y) H) (hD : va_D A (X ++ Y)) (hP1 : va_P D cl Y1 H1) (hD1 : va_D A Y1) (hsame : ∀ (k : Nat) (q1 : Nat × va_E), Y1[k]? = some q1 → ∃ (k0 : Nat) (q : Nat × va_E), Y[k0]? = some q ∧ q.1 = q1.1)
    (hk : ∀ a : Nat, a < H.size → (∀ (k : Nat) (q : Nat × va_E), Y[k]? = some q → q.1 ≠ a) → H1[a]? = H[a]?) : va_P D cl (X ++ Y1) H1 ∧ va_D A (X ++ Y1) := by
  refine ⟨va_P.app (fun k q hq => (lP_left hP k q hq).kept (hk q.1 (lP_left hP k q hq).lt (fun k0 p hp e => lD_apart hD hq hp e.symm))) hP1, va_D.app (lD_left hD) hD1 (fun i j p q hp hq e => ?_)⟩
  obtain ⟨k0, p0, h0, e0⟩ := hsame j q hq
  exact lD_apart hD hp h0 (e.trans e0.symm)
theorem xwd_same {G : xG} {m m' : xMem} : ∀ (k : Nat) (q1 : Nat × va_E), (xwd G m')[k]? = some q1 → ∃ (k0 : Nat) (q : Nat × va_E), (xwd G m)[k0]? = some q ∧ q.1 = q1.1 := by
  intro k q1 hk
  have hl : k < (xwd G m').length := (List.getElem?_eq_some_iff.mp hk).1
  have hn : k < xN G := by simpa [xwd] using hl
  rw [xwd_at hn] at hk
  cases hk
  exact ⟨k, _, xwd_at hn, rfl⟩
theorem xA_out {G : xG} {m : xMem} {sz a : Nat} (h : ∀ (k : Nat) (q : Nat × va_E), (xwd G m)[k]? = some q → q.1 ≠ a) (hl : a < sz) : ¬ xA G sz a := by
  intro hx
  rcases hx with ⟨k, hk, e⟩ | hx
  · exact h k _ (xwd_at hk) e.symm
  · omega
end LJ
/-- the law's world -/
def lwd (GC GM : xG) (out : Nat) (mC mM : xMem) (f : Nat → Int64) : va_W := xwd GC mC ++ (xwd GM mM ++ [(out, .inl (xcA GC 1, 1, .inr (.inl f)))])
/-- behind a call of the class's -/
theorem lwd_C {GC GM : xG} {out : Nat} {mC mC' mM : xMem} {f : Nat → Int64} {D : va_G} {cl : List vw_C} {A : Nat → Prop} {H H1 : Heap} (hP : va_P D cl (lwd GC GM out mC mM f) H) (hD : va_D A (lwd GC GM out mC mM f)) (hP1 : va_P D cl (xwd GC mC') H1) (hk : ∀ a : Nat, a < H.size → ¬ xA GC H.size a → H1[a]? = H[a]?) : va_P D cl (lwd GC GM out mC' mM f) H1 ∧ va_D A (lwd GC GM out mC' mM f) :=
  l_joinL hP hD hP1 (xD_mem (lD_left hD)) xwd_same (fun a ha h => hk a ha (xA_out h ha))
/-- behind a call of the model's -/
theorem lwd_M {GC GM : xG} {out : Nat} {mC mM mM' : xMem} {f : Nat → Int64} {D : va_G} {cl : List vw_C} {A : Nat → Prop} {H H1 : Heap} (hP : va_P D cl (lwd GC GM out mC mM f) H) (hD : va_D A (lwd GC GM out mC mM f)) (hP1 : va_P D cl (xwd GM mM') H1) (hk : ∀ a : Nat, a < H.size → ¬ xA GM H.size a → H1[a]? = H[a]?) : va_P D cl (lwd GC GM out mC mM' f) H1 ∧ va_D A (lwd GC GM out mC mM' f) := by
  have hr := l_joinL (lP_right hP) (lD_right hD) hP1 (xD_mem (lD_left (lD_right hD))) xwd_same (fun a ha h => hk a ha (xA_out h ha))
  refine l_joinR hP hD hr.1 hr.2 (fun k q1 hq => ?_) (fun a ha h => hk a ha (xA_out (m := mM) (fun k q hq => h k q (lAt_left hq)) ha))
  by_cases hkx : k < (xwd GM mM').length
  · rw [List.getElem?_append_left hkx] at hq
    obtain ⟨k0, q, h1, h2⟩ := xwd_same (m := mM) k q1 hq
    exact ⟨k0, q, lAt_left h1, h2⟩
  · rw [List.getElem?_append_right (by omega)] at hq
    exact ⟨_, q1, lAt_right hq, rfl⟩
