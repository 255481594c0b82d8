/-! Layer 2. Calls that ask of beds, owls, sounds, now -/
def zSum (f : Nat → Int32) : Nat → Int32
  | 0 => 0
  | n + 1 => zSum f n + f n
def zSit (σ : zR) (o : Nat) : Nat := (σ (103 + o)).toNatClampNeg
def zLk (σ : zR) (o : Nat) : Bool := (zSeen σ o (zSit σ o)).isSome
section ZQ
variable {m : xMem} {σ : zR} {k s : Nat}
theorem zSit_eq (hw : zWs σ) (hc : zCt σ) {o : Nat} (ho : o < zO σ) : σ (103 + o) = Int32.ofNat (zSit σ o) ∧ zSit σ o < zB σ := by
  obtain ⟨b, hb, e⟩ := hw.2.2.2 o ho
  have := hc.1.2
  unfold zSit
  rw [e, z_cl (by omega)]
  exact ⟨rfl, hb⟩
theorem zM_lookers (hm : ∀ j, j < 109 → m.1 2 j = σ j) (hc : zCt σ) (hw : zWs σ) : M_lookers m = some (zSet (zLk σ) (zO σ)) := by
  have h6 := hc.2.1.2
  have b6 := hc.1.2
  have c8 := hc.2.2.2
  unfold M_lookers
  refine z_loop (fun fuel i => M_lookers_b4 m fuel (zSet (zLk σ) i) (Int32.ofNat i)) (zO σ) _ (fun fuel i hi => ?_) (fun fuel => ?_) (zO σ) 0 1000 (by omega) (by omega)
  · obtain ⟨e, hb⟩ := zSit_eq hw hc hi
    rw [M_lookers_b4, hm 1 (by omega), hc.2.1.1, if_pos ((z_lt (by omega) (by omega)).mpr hi), zi_103 (by omega)]
    simp only [Option.bind_some]
    rw [hm (103 + i) (by omega), e, zM_seen hm hc (by omega) (by omega), zSet]
    simp only [Option.bind_some, nm, z_or0, z_s]
    unfold zLk
    cases hq : zSeen σ i (zSit σ i) with
    | none => rfl
    | some j =>
      have hj := zSeen_lt hq
      rw [show zN (some j) = Int32.ofNat j from rfl, if_neg (z_nn (by omega))]
      rfl
  · rw [M_lookers_b4, hm 1 (by omega), hc.2.1.1, if_neg (by rw [z_lt (by omega) (by omega)]; omega)]
theorem zC_lookers (hH : zH m k σ) (hT : zT m s σ) (hc : zCt σ) (hw : zWs σ) : State_lookingBits m s k = some (zSet (zLk σ) (zO σ)) := by
  have h6 := hc.2.1.2
  have b6 := hc.1.2
  have c8 := hc.2.2.2
  unfold State_lookingBits
  refine z_loop (fun fuel i => State_lookingBits_b4 m s k fuel (zSet (zLk σ) i) (Int32.ofNat i)) (zO σ) _ (fun fuel i hi => ?_) (fun fuel => ?_) (zO σ) 0 1000 (by omega) (by omega)
  · obtain ⟨e, hb⟩ := zSit_eq hw hc hi
    rw [State_lookingBits_b4, hH.2.2.2.2.2.1, hc.2.1.1, if_pos ((z_lt (by omega) (by omega)).mpr hi), z_ix (by omega) (by omega)]
    simp only [Option.bind_some]
    rw [hT.2.2.2.2 i hi, e, show (0 : Int32) = Int32.ofNat 0 from rfl, zC_look hH hT hc hi hb (by omega), zSet, zAdv_0]
    simp only [Option.bind_some, nm, z_s]
    unfold zLk
    cases hq : zSeen σ i (zSit σ i) with
    | none => rfl
    | some j =>
      have hj := zSeen_lt hq
      rw [show zN (some j) = Int32.ofNat j from rfl, if_neg (z_nm1 (by omega))]
      rfl
  · rw [State_lookingBits_b4, hH.2.2.2.2.2.1, hc.2.1.1, if_neg (by rw [z_lt (by omega) (by omega)]; omega)]
theorem zM_sum (hm : m.1 2 0 = σ 0) (hc : zCt σ) {a : Int32} {A : Nat} (ha : a = Int32.ofNat A) (hA : A < 200) : M_sumOf m a = some (zSum (fun b => m.1 2 (A + b)) (zB σ)) := by
  have b6 := hc.1.2
  unfold M_sumOf
  refine z_loop (fun fuel i => M_sumOf_b4 m a fuel (zSum (fun b => m.1 2 (A + b)) i) (Int32.ofNat i)) (zB σ) _ (fun fuel i hi => ?_) (fun fuel => ?_) (zB σ) 0 1000 (by omega) (by omega)
  · rw [M_sumOf_b4, hm, hc.1.1, if_pos ((z_lt (by omega) (by omega)).mpr hi), ha, z_add, z_ix (by omega) (by omega), zSum]
    simp only [Option.bind_some, nm, z_s]
  · rw [M_sumOf_b4, hm, hc.1.1, if_neg (by rw [z_lt (by omega) (by omega)]; omega)]
theorem zC_total {p : Nat} {x : Int32} {n : Nat} (hx : x = Int32.ofNat n) (hn : n ≤ 6) : State_total m p 6 x = some (zSum (fun b => m.1 p b) n) := by
  unfold State_total
  refine z_loop (fun fuel i => State_total_b4 m p 6 x fuel (zSum (fun b => m.1 p b) i) (Int32.ofNat i)) n _ (fun fuel i hi => ?_) (fun fuel => ?_) n 0 1000 (by omega) (by omega)
  · rw [State_total_b4, hx, if_pos ((z_lt (by omega) (by omega)).mpr hi), if_pos (show Int32.ofNat i < nI 6 from (z_lt (by omega) (by omega)).mpr (by omega)), z_ix (by omega) (by omega), zSum]
    simp only [Option.bind_some, nm, z_s]
  · rw [State_total_b4, hx, if_neg (by rw [z_lt (by omega) (by omega)]; omega)]
theorem zSum_congr {f g : Nat → Int32} : ∀ {n : Nat}, (∀ i, i < n → f i = g i) → zSum f n = zSum g n := by
  intro n
  induction n with
  | zero => intro _; rfl
  | succ n ih =>
    intro h
    rw [zSum, zSum, ih (fun i hi => h i (by omega)), h n (by omega)]
end ZQ
theorem zP_bed : lS_bed zRel := by
  intro mC mM x y hR
  have h0 := zRel_thr hR 0
  have h1 := zRel_thr hR 1
  have hc := hR.1.1
  have b6 := hc.1.2
  have o6 := hc.2.1.2
  obtain ⟨hH, hT, hU, -⟩ := hR.2.1
  unfold O_bed M_bed M_bed_b23 O_bed_b34
  rw [zC_hasBed hH hc, zM_isBed rfl hc, zM_in, z_lt5 (n := 5) (by decide), z_lt5' (n := 5) (by decide), zM_throws0, zM_throws1]
  simp only [Option.bind_some, zb_0]
  cases hb : zIs (zB (mM.1 2)) x with
  | false => exact ⟨none, 0, upI mM 0 0 1, rfl, rfl, zM_thrown mM 1, fun r hr => (by cases hr), h1⟩
  | true =>
    cases hw : zIs (5 + 1) y with
    | false => exact ⟨none, 0, upI mM 0 0 1, rfl, rfl, zM_thrown mM 1, fun r hr => (by cases hr), h1⟩
    | true =>
      obtain ⟨b, hb2, rfl⟩ := zIs_q hb
      obtain ⟨q, hq, rfl⟩ := zIs_q hw
      obtain ⟨d0, d1, d2⟩ := hH.2.2.2.2.2.2.2.1 b hb2
      obtain ⟨u0, u1⟩ := hU.2 b hb2
      have em : (upI mM 0 0 0).1 2 = mM.1 2 := upI_ne' (by omega)
      rw [z_ix (show b < 6 by omega) (by omega)]
      simp only [Bool.true_eq_false, if_false, if_true, Option.bind_some, em]
      rw [zi_7 (show b < 302 - 7 by omega), zi_13 (show b < 302 - 13 by omega), zi_19 (show b < 302 - 19 by omega), zi_109 (show b < 302 - 109 by omega), zi_115 (show b < 302 - 115 by omega), zM_owl (σ := mM.1 2) (fun j _ => by rw [em]) hc, zC_owlAt hH hT hc]
      rcases z_6 hq with rfl | rfl | rfl | rfl | rfl | rfl
      · exact ⟨some (mM.1 2 (7 + b)), mM.1 2 (7 + b), upI mM 0 0 0, by rw [← d0]; rfl, rfl, zM_thrown mM 0, fun r hr => (by cases hr; rfl), h0⟩
      · exact ⟨some (mM.1 2 (13 + b)), mM.1 2 (13 + b), upI mM 0 0 0, by rw [← d1]; rfl, rfl, zM_thrown mM 0, fun r hr => (by cases hr; rfl), h0⟩
      · exact ⟨some (zN (zOwl (mM.1 2) (Int32.ofNat b))), zN (zOwl (mM.1 2) (Int32.ofNat b)), upI mM 0 0 0, rfl, rfl, zM_thrown mM 0, fun r hr => (by cases hr; rfl), h0⟩
      · exact ⟨some (mM.1 2 (19 + b) - 1), mM.1 2 (19 + b) - 1, upI mM 0 0 0, by rw [← d2]; rfl, rfl, zM_thrown mM 0, fun r hr => (by cases hr; rfl), h0⟩
      · exact ⟨some (mM.1 2 (109 + b)), mM.1 2 (109 + b), upI mM 0 0 0, by rw [← u0]; rfl, rfl, zM_thrown mM 0, fun r hr => (by cases hr; rfl), h0⟩
      · exact ⟨some (mM.1 2 (115 + b)), mM.1 2 (115 + b), upI mM 0 0 0, by rw [← u1]; rfl, rfl, zM_thrown mM 0, fun r hr => (by cases hr; rfl), h0⟩
theorem zP_owl : lS_owl zRel := by
  intro mC mM x y hR
  have h0 := zRel_thr hR 0
  have h1 := zRel_thr hR 1
  have hc := hR.1.1
  have hw9 := hR.1.2.2.2
  have b6 := hc.1.2
  have o6 := hc.2.1.2
  obtain ⟨hH, hT, hU, -⟩ := hR.2.1
  unfold O_owl M_owl M_owl_b23 O_owl_b34
  rw [zC_hasOwl hH hc, zM_isOwl rfl hc, zM_in, z_lt5 (n := 5) (by decide), z_lt5' (n := 5) (by decide), zM_throws0, zM_throws1]
  simp only [Option.bind_some, zb_0]
  cases hb : zIs (zO (mM.1 2)) x with
  | false => exact ⟨none, 0, upI mM 0 0 1, rfl, rfl, zM_thrown mM 1, fun r hr => (by cases hr), h1⟩
  | true =>
    cases hw : zIs (5 + 1) y with
    | false => exact ⟨none, 0, upI mM 0 0 1, rfl, rfl, zM_thrown mM 1, fun r hr => (by cases hr), h1⟩
    | true =>
      obtain ⟨o, ho2, rfl⟩ := zIs_q hb
      obtain ⟨q, hq, rfl⟩ := zIs_q hw
      obtain ⟨d0, d1, d2, d3⟩ := hH.2.2.2.2.2.2.2.2.1 o ho2
      obtain ⟨e, hb3⟩ := zSit_eq hw9 hc ho2
      have t4 := hT.2.2.2.2 o ho2
      have em : (upI mM 0 0 0).1 2 = mM.1 2 := upI_ne' (by omega)
      have em' : ∀ j, j < 109 → (upI mM 0 0 0).1 2 j = mM.1 2 j := fun j _ => by rw [em]
      rw [z_ix (show o < 6 by omega) (by omega)]
      simp only [Bool.true_eq_false, if_false, if_true, Option.bind_some, em]
      rw [zi_103 (show o < 302 - 103 by omega), zi_31 (show o < 302 - 31 by omega), zi_37 (show o < 302 - 37 by omega), zi_43 (show o < 302 - 43 by omega)]
      simp only [Option.bind_some]
      have eC : State_lookOf mC 33 6 (Int32.ofNat o) (mC.1 35 o) 0 = some (zN (zSeen (mM.1 2) o (zSit (mM.1 2) o))) := by
        rw [t4, e, show (0 : Int32) = Int32.ofNat 0 from rfl, zC_look hH hT hc ho2 hb3 (by omega), zAdv_0]
      have eS : State_sideFrom mC 33 6 (mC.1 35 o) (zN (zSeen (mM.1 2) o (zSit (mM.1 2) o))) = some (zLook (mM.1 2) o (zSit (mM.1 2) o)) := by
        rw [t4, e]
        exact zC_sideFrom (a := 0) hH hT hc hb3
      have eM : M_lookBy (upI mM 0 0 0) (Int32.ofNat o) (mM.1 2 (103 + o)) = some (zLook (mM.1 2) o (zSit (mM.1 2) o)) := by
        rw [e, zM_look em' hc (by omega) (by omega)]
      have eN : M_seenBy (upI mM 0 0 0) (Int32.ofNat o) (mM.1 2 (103 + o)) = some (zN (zSeen (mM.1 2) o (zSit (mM.1 2) o))) := by
        rw [e, zM_seen em' hc (by omega) (by omega)]
      rw [eC]
      simp only [Option.bind_some]
      rw [eS, eM, eN]
      rcases z_6 hq with rfl | rfl | rfl | rfl | rfl | rfl
      · exact ⟨some (mM.1 2 (103 + o)), mM.1 2 (103 + o), upI mM 0 0 0, by rw [← t4]; rfl, rfl, zM_thrown mM 0, fun r hr => (by cases hr; rfl), h0⟩
      · exact ⟨some (mM.1 2 (31 + o)), mM.1 2 (31 + o), upI mM 0 0 0, by rw [← d1]; rfl, rfl, zM_thrown mM 0, fun r hr => (by cases hr; rfl), h0⟩
      · exact ⟨some (mM.1 2 (37 + o) - 1), mM.1 2 (37 + o) - 1, upI mM 0 0 0, by rw [← d2]; rfl, rfl, zM_thrown mM 0, fun r hr => (by cases hr; rfl), h0⟩
      · exact ⟨some (mM.1 2 (43 + o)), mM.1 2 (43 + o), upI mM 0 0 0, by rw [← d3]; rfl, rfl, zM_thrown mM 0, fun r hr => (by cases hr; rfl), h0⟩
      · exact ⟨some (zLook (mM.1 2) o (zSit (mM.1 2) o)), zLook (mM.1 2) o (zSit (mM.1 2) o), upI mM 0 0 0, rfl, rfl, zM_thrown mM 0, fun r hr => (by cases hr; rfl), h0⟩
      · exact ⟨some (zN (zSeen (mM.1 2) o (zSit (mM.1 2) o))), zN (zSeen (mM.1 2) o (zSit (mM.1 2) o)), upI mM 0 0 0, rfl, rfl, zM_thrown mM 0, fun r hr => (by cases hr; rfl), h0⟩
theorem zP_sound : lS_sound zRel := by
  intro mC mM x y hR
  have hR1 := zRel_thr hR 0
  simp only [M_sound, nm]
  generalize upI mM 0 0 0 = m1 at hR1 ⊢
  have hc := hR1.1.1
  have c8 := hc.2.2.2
  obtain ⟨hH, hT, hU, -⟩ := hR1.2.1
  unfold O_sound
  rw [zC_hasSound hH hc, zM_isSound rfl hc, z_lt5' (n := 5) (by decide)]
  simp only [Option.bind_some, zb_0]
  cases hb : zIs (zC (m1.1 2)) x with
  | false => exact ⟨-1, m1, rfl, rfl, hR1⟩
  | true =>
    obtain ⟨i, hi, rfl⟩ := zIs_q hb
    cases hw : zIs (5 + 1) y with
    | false =>
      refine ⟨-1, m1, rfl, ?_, hR1⟩
      simp only [Bool.true_eq_false, if_false]
      rw [if_neg (c := y = 0) (zIs_ne (q := 0) hw (by omega) (by omega)), if_neg (c := y = 1) (zIs_ne (q := 1) hw (by omega) (by omega)), if_neg (c := y = 2) (zIs_ne (q := 2) hw (by omega) (by omega)), if_neg (c := y = 3) (zIs_ne (q := 3) hw (by omega) (by omega)), if_neg (c := y = 4) (zIs_ne (q := 4) hw (by omega) (by omega)), if_neg (c := y = 5) (zIs_ne (q := 5) hw (by omega) (by omega))]
    | true =>
      obtain ⟨q, hq, rfl⟩ := zIs_q hw
      obtain ⟨d0, d1, d2, d3, -⟩ := hH.2.2.2.2.2.2.2.2.2 i hi
      have em' : ∀ j, j < 109 → m1.1 2 j = m1.1 2 j := fun j _ => rfl
      have eOn : State_onBits mC 33 6 0 = some (zSet (zOn (m1.1 2)) (zC (m1.1 2) + 1)) := by
        rw [show (0 : Int32) = Int32.ofNat 0 from rfl, zC_on hH hT hc (by omega), zAdv_0]
      rw [z_ix (show i < 8 by omega) (by omega)]
      simp only [Bool.true_eq_false, if_false, if_true, Option.bind_some, nm]
      rw [eOn, zM_isOn em' hc (show i ≤ zC (m1.1 2) by omega), zi_49 (show i < 302 - 49 by omega), zi_57 (show i < 302 - 57 by omega), zi_65 (show i < 302 - 65 by omega), zi_73 (show i < 302 - 73 by omega), hT.2.1]
      simp only [Option.bind_some]
      rcases z_6 hq with rfl | rfl | rfl | rfl | rfl | rfl
      · exact ⟨m1.1 2 (49 + i), m1, by rw [← d0]; rfl, rfl, hR1⟩
      · exact ⟨m1.1 2 (57 + i), m1, by rw [← d1]; rfl, rfl, hR1⟩
      · exact ⟨m1.1 2 (65 + i), m1, by rw [← d2]; rfl, rfl, hR1⟩
      · exact ⟨m1.1 2 (73 + i), m1, by rw [← d3]; rfl, rfl, hR1⟩
      · refine ⟨zb (zOn (m1.1 2) i), m1, ?_, ?_, hR1⟩
        · show some ((i_shr (zSet (zOn (m1.1 2)) (zC (m1.1 2) + 1)) (Int32.ofNat i)) &&& 1) = _
          rw [z_bit (by omega), tb_zSet _ (by omega), show decide (i < zC (m1.1 2) + 1) = true by rw [decide_eq_true_eq]; omega, Bool.true_and]
          rfl
        · cases zOn (m1.1 2) i <;> rfl
      · exact ⟨_, m1, rfl, rfl, hR1⟩
theorem zP_hears : lS_hears zRel := by
  intro mC mM x hR
  have hR1 := zRel_thr hR 0
  simp only [M_hears, nm]
  generalize upI mM 0 0 0 = m1 at hR1 ⊢
  have hc := hR1.1.1
  have b6 := hc.1.2
  have o6 := hc.2.1.2
  obtain ⟨hH, hT, hU, -⟩ := hR1.2.1
  unfold O_hears
  rw [zC_hasOwl hH hc, zM_isOwl rfl hc]
  simp only [Option.bind_some, zb_0]
  cases hb : zIs (zO (m1.1 2)) x with
  | false => exact ⟨-1, m1, rfl, rfl, hR1⟩
  | true =>
    obtain ⟨o, ho, rfl⟩ := zIs_q hb
    obtain ⟨e, hb3⟩ := zSit_eq hR1.1.2.2.2 hc ho
    rw [z_ix (show o < 6 by omega) (by omega), zi_103 (show o < 302 - 103 by omega)]
    simp only [Bool.true_eq_false, if_false, Option.bind_some]
    rw [hT.2.2.2.2 o ho, e, zC_heardNow hH hT hc ho hb3, zM_heard (fun _ _ => rfl) hc (by omega) (by omega)]
    exact ⟨_, m1, rfl, rfl, hR1⟩
theorem zP_would : lS_would zRel := by
  intro mC mM x y hR
  have hR1 := zRel_thr hR 0
  simp only [M_would, nm]
  generalize upI mM 0 0 0 = m1 at hR1 ⊢
  have hc := hR1.1.1
  have b6 := hc.1.2
  have o6 := hc.2.1.2
  obtain ⟨hH, hT, hU, -⟩ := hR1.2.1
  unfold O_would
  rw [zC_hasOwl hH hc, zM_isOwl rfl hc, zC_hasBed hH hc, zM_isBed rfl hc]
  simp only [Option.bind_some, zb_0]
  cases hb : zIs (zO (m1.1 2)) x with
  | false => exact ⟨-1, m1, rfl, rfl, hR1⟩
  | true =>
    cases hb2 : zIs (zB (m1.1 2)) y with
    | false => exact ⟨-1, m1, rfl, rfl, hR1⟩
    | true =>
      obtain ⟨o, ho, rfl⟩ := zIs_q hb
      obtain ⟨b, hb3, rfl⟩ := zIs_q hb2
      simp only [Bool.true_eq_false, if_false]
      have eC : State_lookOf mC 33 6 (Int32.ofNat o) (Int32.ofNat b) 0 = some (zN (zSeen (m1.1 2) o b)) := by
        rw [show (0 : Int32) = Int32.ofNat 0 from rfl, zC_look hH hT hc ho hb3 (by omega), zAdv_0]
      have eS : State_sideFrom mC 33 6 (Int32.ofNat b) (zN (zSeen (m1.1 2) o b)) = some (zLook (m1.1 2) o b) := zC_sideFrom (a := 0) hH hT hc hb3
      rw [eC, zM_look (fun _ _ => rfl) hc (by omega) (by omega)]
      simp only [Option.bind_some]
      rw [eS]
      exact ⟨_, m1, rfl, rfl, hR1⟩
theorem zP_now : lS_now zRel := by
  intro mC mM x hR
  have hR1 := zRel_thr hR 0
  simp only [M_now, nm]
  generalize upI mM 0 0 0 = m1 at hR1 ⊢
  have hc := hR1.1.1
  have hw := hR1.1.2.2.2
  have b6 := hc.1.2
  have c8 := hc.2.2.2
  obtain ⟨hH, hT, hU, -⟩ := hR1.2.1
  have key : ∀ res, (∀ fuel, M_now_b9 x (fuel + 1) (zSet (zOn (m1.1 2)) (zC (m1.1 2) + 1)) (Int32.ofNat (zC (m1.1 2) + 1)) m1 = res) → M_now_b9 x 1000 0 0 m1 = res := by
    intro res he
    refine z_loop (fun fuel i => M_now_b9 x fuel (zSet (zOn (m1.1 2)) i) (Int32.ofNat i) m1) (zC (m1.1 2) + 1) _ (fun fuel i hi => ?_) he (zC (m1.1 2) + 1) 0 1000 (by omega) (by omega)
    rw [M_now_b9, hc.2.2.1, if_neg (by rw [z_lt (by omega) (by omega)]; omega), zM_isOn (fun _ _ => rfl) hc (by omega), zSet]
    simp only [Option.bind_some, zb_0, nm, z_or0, z_s]
    cases zOn (m1.1 2) i <;> rfl
  have eOn : State_onBits mC 33 6 0 = some (zSet (zOn (m1.1 2)) (zC (m1.1 2) + 1)) := by
    rw [show (0 : Int32) = Int32.ofNat 0 from rfl, zC_on hH hT hc (by omega), zAdv_0]
  have eC5 : State_total mC 36 6 (mC.1 6 6) = some (zSum (fun b => m1.1 2 (109 + b)) (zB (m1.1 2))) := by
    rw [zC_total (n := zB (m1.1 2)) (by rw [← hc.1.1]; exact hH.2.2.2.2.1) b6, zSum_congr (fun i hi => (hU.2 i hi).1)]
  have eC6 : State_total mC 37 6 (mC.1 6 6) = some (zSum (fun b => m1.1 2 (115 + b)) (zB (m1.1 2))) := by
    rw [zC_total (n := zB (m1.1 2)) (by rw [← hc.1.1]; exact hH.2.2.2.2.1) b6, zSum_congr (fun i hi => (hU.2 i hi).2)]
  have eSh : House_shutAt mC 6 (mC.1 33 0) = some (zb (zShut (m1.1 2))) := by
    rw [zC_shut hH hc 0 (by rw [hT.1]; simp), zAdv_0]
  unfold O_now
  rw [eOn, eC5, eC6, eSh, zC_lookers hH hT hc hw, hT.1, hT.2.1, hU.1]
  simp only [Option.bind_some]
  have fin : ∀ fuel, M_now_b9 x (fuel + 1) (zSet (zOn (m1.1 2)) (zC (m1.1 2) + 1)) (Int32.ofNat (zC (m1.1 2) + 1)) m1 = _ := fun fuel => by
    rw [M_now_b9, if_pos (show m1.1 2 2 < Int32.ofNat (zC (m1.1 2) + 1) by rw [hc.2.2.1, z_lt (by omega) (by omega)]; omega), zM_lookers (fun _ _ => rfl) hc hw, zM_isShut (fun _ _ => rfl), zM_sum (a := 109) (A := 109) rfl hc rfl (by omega), zM_sum (a := 115) (A := 115) rfl hc rfl (by omega)]
  rw [key _ fin]
  simp only [Option.bind_some, zb_0]
  cases hx : zIs 8 x with
  | false =>
    have hn : ∀ q, q < 8 → ¬ x = Int32.ofNat q := fun q hq => zIs_ne hx hq (by omega)
    refine ⟨-1, m1, ?_, ?_, hR1⟩
    · rw [if_neg (c := x = 0) (hn 0 (by omega)), if_neg (c := x = 1) (hn 1 (by omega)), if_neg (c := x = 2) (hn 2 (by omega)), if_neg (c := x = 3) (hn 3 (by omega)), if_neg (c := x = 4) (hn 4 (by omega)), if_neg (c := x = 5) (hn 5 (by omega)), if_neg (c := x = 6) (hn 6 (by omega)), if_neg (c := x = 7) (hn 7 (by omega))]
    · rw [if_neg (c := x = 0) (hn 0 (by omega)), if_neg (c := x = 1) (hn 1 (by omega)), if_neg (c := x = 2) (hn 2 (by omega)), if_neg (c := x = 3) (hn 3 (by omega)), if_neg (c := x = 4) (hn 4 (by omega)), if_neg (c := x = 5) (hn 5 (by omega)), if_neg (c := x = 6) (hn 6 (by omega)), if_neg (c := x = 7) (hn 7 (by omega))]
  | true =>
    obtain ⟨q, hq, rfl⟩ := zIs_q hx
    have h8 : q = 0 ∨ q = 1 ∨ q = 2 ∨ q = 3 ∨ q = 4 ∨ q = 5 ∨ q = 6 ∨ q = 7 := by omega
    rcases h8 with rfl | rfl | rfl | rfl | rfl | rfl | rfl | rfl
    · exact ⟨_, m1, rfl, rfl, hR1⟩
    · exact ⟨_, m1, rfl, rfl, hR1⟩
    · exact ⟨_, m1, rfl, rfl, hR1⟩
    · exact ⟨_, m1, rfl, rfl, hR1⟩
    · refine ⟨zb (zShut (m1.1 2)), m1, ?_, ?_, hR1⟩
      · cases zShut (m1.1 2) <;> rfl
      · cases zShut (m1.1 2) <;> rfl
    · exact ⟨_, m1, rfl, rfl, hR1⟩
    · exact ⟨_, m1, rfl, rfl, hR1⟩
    · exact ⟨_, m1, rfl, rfl, hR1⟩
