/-! Layer 2. At first -/
theorem zI_row : ∀ j, j < 122 → mR_Model.1 2 j = if j = 3 ∨ j = 4 ∨ j = 5 then 6 else if j = 6 then 17 else 0 := by decide +kernel
theorem zI_obj : mR_Model.1 0 24 = 0 ∧ mR_Model.1 0 2 = 0 ∧ mR_Model.1 0 15 = 0 ∧ mR_Model.1 0 27 = -1 ∧ mR_Model.1 0 28 = -1 ∧ mR_Model.1 0 35 = -1 ∧ mR_Model.1 0 37 = -1 ∧ mR_Model.1 0 31 = 0 ∧ mR_Model.1 0 41 = 0 ∧ mR_Model.1 0 47 = 0 ∧ mR_Model.1 0 43 = 0 ∧ mR_Model.1 23 0 = 0 ∧ mR_Model.1 23 1 = 0 := by decide +kernel
theorem zI_res : zRes mR_OwlsLent mR_Model := by
  have : ∀ k, k < 32 → mR_OwlsLent.2 4 k = Int64.ofNat (zE5 (zWords.getD k [])) ∧ mR_Model.2 6 k = Int64.ofNat (zE8 (zWords.getD k [])) := by decide +kernel
  exact this
theorem zI_cls : mR_OwlsLent.1 6 0 = 6 ∧ mR_OwlsLent.1 6 1 = 6 ∧ mR_OwlsLent.1 6 2 = 6 ∧ mR_OwlsLent.1 6 3 = 17 ∧ mR_OwlsLent.1 6 6 = 0 ∧ mR_OwlsLent.1 6 7 = 0 ∧ mR_OwlsLent.1 6 8 = 0 ∧ mR_OwlsLent.1 33 0 = 0 ∧ mR_OwlsLent.1 33 1 = 0 ∧ mR_OwlsLent.1 33 2 = 0 ∧ mR_OwlsLent.1 34 3 = 0 ∧ mR_OwlsLent.1 38 0 = 0 ∧ mR_OwlsLent.1 123 1 = 0 ∧ mR_OwlsLent.1 123 2 = 0 ∧ mR_OwlsLent.1 184 0 = 0 ∧ mR_OwlsLent.1 222 0 = 0 ∧ mR_OwlsLent.1 1 1 = 0 ∧ mR_OwlsLent.1 0 18 = 0 ∧ mR_OwlsLent.1 165 4 = 0 ∧ mR_OwlsLent.1 165 5 = -1 ∧ mR_OwlsLent.1 170 3 = 0 ∧ mR_OwlsLent.1 0 14 = 0 ∧ mR_OwlsLent.1 0 15 = -1 ∧ mR_OwlsLent.1 0 16 = -1 ∧ mR_OwlsLent.1 0 17 = -1 ∧ mR_OwlsLent.1 76 2 = 0 ∧ mR_OwlsLent.1 180 1 = 0 := by decide +kernel
theorem zI_rel : zRel mR_OwlsLent mR_Model := by
  obtain ⟨o1, o2, o3, o4, o5, o6, o7, o8, o9, o10, o11, o12, o13⟩ := zI_obj
  obtain ⟨c1, c2, c3, c4, c5, c6, c7, c8, c9, c10, c11, c12, c13, c14, c15, c16, c17, c18, c19, c20, c21, c22, c23, c24, c25, c26, c27⟩ := zI_cls
  have hr := zI_row
  have hres := zI_res
  generalize mR_OwlsLent = mC at *
  generalize mR_Model = mM at *
  have r0 : mM.1 2 0 = 0 := hr 0 (by omega)
  have r1 : mM.1 2 1 = 0 := hr 1 (by omega)
  have r2 : mM.1 2 2 = 0 := hr 2 (by omega)
  have r3 : mM.1 2 3 = 6 := hr 3 (by omega)
  have r4 : mM.1 2 4 = 6 := hr 4 (by omega)
  have r5 : mM.1 2 5 = 6 := hr 5 (by omega)
  have r6 : mM.1 2 6 = 17 := hr 6 (by omega)
  have r97 : mM.1 2 97 = 0 := hr 97 (by omega)
  have r98 : mM.1 2 98 = 0 := hr 98 (by omega)
  have r99 : mM.1 2 99 = 0 := hr 99 (by omega)
  have r100 : mM.1 2 100 = 0 := hr 100 (by omega)
  have r121 : mM.1 2 121 = 0 := hr 121 (by omega)
  have eB : zB (mM.1 2) = 0 := by unfold zB; rw [r0]; rfl
  have eO : zO (mM.1 2) = 0 := by unfold zO; rw [r1]; rfl
  have eC : zC (mM.1 2) = 0 := by unfold zC; rw [r2]; rfl
  refine ⟨⟨?_, by rw [r3]; unfold zr; decide, by rw [r4]; unfold zr; decide, ?_⟩, ⟨?_, ?_, ?_, Or.inl ⟨c12, r121⟩⟩, ⟨fun b hb => by omega, fun b hb => by omega, fun b hb => by omega⟩, ⟨0, 0, by omega, by omega, c13, c14, o1, fun t ht => by omega⟩, fun k hk => ?_, ⟨0, by omega, c17, o2, fun j hj => by omega⟩, hres, by unfold zFa; rw [c18, o3], ⟨0, by omega, c19, Or.inr ⟨rfl, o4⟩, fun j hj => by omega⟩, by unfold zSpN; rw [c20, o5], ⟨0, by omega, c21, Or.inr ⟨rfl, o6⟩, fun j hj => by omega⟩, ⟨0, by omega, c22, Or.inr ⟨rfl, o7⟩, fun j hj => by omega⟩, Or.inl ⟨o8, c23, c24⟩, Or.inl ⟨o9, c25⟩, Or.inl ⟨o10, c26⟩, ⟨0, by omega, c27, o11, fun j hj => by omega⟩⟩
  · unfold zCt
    rw [eB, eO, eC, r0, r1, r2]
    decide
  · unfold zWs
    rw [eO, r97, r98, r100]
    exact ⟨by unfold zr; decide, fun k _ _ => tb_0 k, by unfold zr; decide, fun o ho => by omega⟩
  · unfold zH
    rw [eB, eO, eC, r0, r1, r2, r3, r4, r5, r6]
    exact ⟨c1, c2, c3, c4, c5, c6, c7, fun b hb => by omega, fun b hb => by omega, fun b hb => by omega⟩
  · unfold zT
    rw [eO, r97, r98, r100]
    exact ⟨c8, c9, c11, fun h => absurd h (by decide), fun o ho => by omega⟩
  · unfold zU
    rw [eB, r99]
    exact ⟨c10, fun b hb => by omega⟩
  · have hk2 : k = 0 ∨ k = 1 := by omega
    rcases hk2 with rfl | rfl
    · exact Or.inl ⟨c15, o12⟩
    · exact Or.inl ⟨c16, o13⟩
