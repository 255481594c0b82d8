abbrev rm_House_within : Room := { frames := 0, cells := 0, slots := 0, locals := 0 }
def House_within (m : xMem) (p0 : Int32) (p1 : Int32) (p2 : Int32) : Option (Int32) :=
  nm (i_rem p2 24) fun x1 =>
  if p1 < p0 then
    if x1 < p0 then
      if p1 < x1 then
        some 0
      else
        some 1
    else
      some 1
  else
    if x1 < p0 then
      some 0
    else
      if p1 < x1 then
        some 0
      else
        some 1
abbrev rm_House_shutAt : Room := { frames := 1, cells := 0, slots := 0, locals := 23 }
def House_shutAt (m : xMem) (o : Nat) (p0 : Int32) : Option (Int32) :=
  (House_within m (m.1 o 2) (m.1 o 3) p0).bind fun r1 =>
  (rz r1).bind fun w => some w
abbrev rm_State_onBits : Room := { frames := 1, cells := 0, slots := 0, locals := 23 }
def State_onBits_b27 (m : xMem) (o : Nat) (p0 : Nat) (p1 : Int32) : Nat → Int32 → Int32 → Option (Int32)
  | 0, _, _ => none
  | n + 1, v3, v4 =>
    if v4 < (m.1 p0 8) then
      (ix v4 8).bind fun j2 =>
      if ((i_shr (m.1 o 1) v4) &&& 1) = 0 then
        (House_within m (m.1 (p0 + 19 + j2) 4) (m.1 (p0 + 19 + j2) 5) ((m.1 o 0) + p1)).bind fun r3 =>
        if r3 = 0 then
          State_onBits_b27 m o p0 p1 n v3 (v4 + 1)
        else
          nm (v3 ||| (i_shl 1 v4)) fun x4 =>
          State_onBits_b27 m o p0 p1 n x4 (v4 + 1)
      else
        State_onBits_b27 m o p0 p1 n v3 (v4 + 1)
    else
      some v3
def State_onBits (m : xMem) (o : Nat) (p0 : Nat) (p1 : Int32) : Option (Int32) :=
  if p1 = 0 then
    if 0 < (m.1 (o + 1) 3) then
      nm (i_shl 1 (m.1 p0 8)) fun x1 =>
      State_onBits_b27 m o p0 p1 1000 x1 0
    else
      State_onBits_b27 m o p0 p1 1000 0 0
  else
    State_onBits_b27 m o p0 p1 1000 0 0
abbrev rm_House_hasSound : Room := { frames := 0, cells := 0, slots := 0, locals := 0 }
def House_hasSound (m : xMem) (o : Nat) (p0 : Int32) : Option (Int32) :=
  if p0 < 0 then
    some 0
  else
    if p0 < (m.1 o 8) then
      some 1
    else
      some 0
abbrev rm_State_rowOf : Room := { frames := 1, cells := 0, slots := 0, locals := 21 }
def State_rowOf (m : xMem) (o : Nat) (p0 : Nat) (p1 : Int32) : Option (Nat) :=
  (House_hasSound m p0 p1).bind fun r1 =>
  if r1 = 0 then
    some (o + 1)
  else
    (ix p1 8).bind fun j2 =>
    some (p0 + 19 + j2)
theorem rowOf_src {m : xMem} {o p0 : Nat} {p1 : Int32} {r : Nat} (ho : isState o) (hp0 : isHouse p0) (h : State_rowOf m o p0 p1 = some r) : ∃ N, 4 ≤ N ∧ shC r = .inr (0, N, []) := by
  unfold State_rowOf at h
  simp only [Option.bind_eq_some_iff] at h
  obtain ⟨b, -, h⟩ := h
  split at h
  · cases h
    exact ⟨4, by omega, sState_shoutRow ho⟩
  · obtain ⟨j, hj, h⟩ := Option.bind_eq_some_iff.mp h
    cases h
    exact ⟨6, by omega, sHouse_soundRowR hp0 (ix_in hj).2.2⟩

abbrev rm_House_sideAt : Room := { frames := 0, cells := 0, slots := 0, locals := 0 }
def House_sideAt_b61 (m : xMem) (o : Nat) (p0 : Int32) (p1 : Nat) (v3 : Int32) (v4 : Int32) (s0 : Int32) (s1 : Int32) : Option (Int32) :=
  if s1 < s0 then
    if 0 < v4 then
      some 1
    else
      some 3
  else
    if 0 < v3 then
      some 0
    else
      some 2
def House_sideAt_b38 (m : xMem) (o : Nat) (p0 : Int32) (p1 : Nat) (v3 : Int32) (v4 : Int32) : Option (Int32) :=
  if v3 < 0 then
    if v4 < 0 then
      House_sideAt_b61 m o p0 p1 v3 v4 (-v4) (-v3)
    else
      House_sideAt_b61 m o p0 p1 v3 v4 v4 (-v3)
  else
    if v4 < 0 then
      House_sideAt_b61 m o p0 p1 v3 v4 (-v4) v3
    else
      House_sideAt_b61 m o p0 p1 v3 v4 v4 v3
def House_sideAt (m : xMem) (o : Nat) (p0 : Int32) (p1 : Nat) : Option (Int32) :=
  (ix p0 6).bind fun j1 =>
  nm ((m.1 p1 1) - (m.1 (o + 5 + j1) 0)) fun x2 =>
  (ix p0 6).bind fun j3 =>
  nm ((m.1 p1 2) - (m.1 (o + 5 + j3) 1)) fun x4 =>
  if x2 = 0 then
    if x4 = 0 then
      some 4
    else
      House_sideAt_b38 m o p0 p1 x2 x4
  else
    House_sideAt_b38 m o p0 p1 x2 x4
abbrev rm_House_loudAt : Room := { frames := 0, cells := 0, slots := 0, locals := 0 }
def House_loudAt_b40 (m : xMem) (o : Nat) (p0 : Int32) (p1 : Nat) (v4 : Int32) (s0 : Int32) (s1 : Int32) : Option (Int32) :=
  if v4 < 0 then
    some ((s1 - s0) - (-v4))
  else
    some ((s1 - s0) - v4)
def House_loudAt (m : xMem) (o : Nat) (p0 : Int32) (p1 : Nat) : Option (Int32) :=
  (ix p0 6).bind fun j1 =>
  nm ((m.1 p1 1) - (m.1 (o + 5 + j1) 0)) fun x2 =>
  (ix p0 6).bind fun j3 =>
  nm ((m.1 p1 2) - (m.1 (o + 5 + j3) 1)) fun x4 =>
  if x2 < 0 then
    House_loudAt_b40 m o p0 p1 x4 (-x2) (m.1 p1 3)
  else
    House_loudAt_b40 m o p0 p1 x4 x2 (m.1 p1 3)
abbrev rm_House_heardSide : Room := { frames := 1, cells := 0, slots := 0, locals := 24 }
def House_heardSide_b31 (m : xMem) (o : Nat) (p0 : Int32) (p1 : Int32) (p2 : Nat) (v4 : Int32) (s0 : Int32) : Option (Int32) :=
  if s0 = 0 then
    (ix p0 6).bind fun j3 =>
    if v4 = (m.1 (o + 12 + j3) 2) then
      some ((-1))
    else
      (House_loudAt m o p1 p2).bind fun r4 =>
      (ix p0 6).bind fun j5 =>
      if r4 < (m.1 (o + 12 + j5) 1) then
        some ((-1))
      else
        some v4
  else
    some ((-1))
def House_heardSide (m : xMem) (o : Nat) (p0 : Int32) (p1 : Int32) (p2 : Nat) : Option (Int32) :=
  (House_sideAt m o p1 p2).bind fun r1 =>
  (ix p0 6).bind fun j2 =>
  if ((i_shr (m.1 (o + 12 + j2) 3) (m.1 p2 0)) &&& 1) = 1 then
    House_heardSide_b31 m o p0 p1 p2 r1 1
  else
    House_heardSide_b31 m o p0 p1 p2 r1 0
abbrev rm_State_heardBits : Room := { frames := 2, cells := 0, slots := 0, locals := 49 }
def State_heardBits_b6 (m : xMem) (o : Nat) (p0 : Nat) (p1 : Int32) (p2 : Int32) (p3 : Int32) : Nat → Int32 → Int32 → Option (Int32)
  | 0, _, _ => none
  | n + 1, v5, v6 =>
    if (m.1 p0 8) < v6 then
      some v5
    else
      if ((i_shr p3 v6) &&& 1) = 1 then
        (State_rowOf m o p0 v6).bind fun r1 =>
        (House_heardSide m p0 p1 p2 r1).bind fun r2 =>
        if r2 = ((-1)) then
          State_heardBits_b6 m o p0 p1 p2 p3 n v5 (v6 + 1)
        else
          nm (v5 ||| (i_shl 1 v6)) fun x3 =>
          State_heardBits_b6 m o p0 p1 p2 p3 n x3 (v6 + 1)
      else
        State_heardBits_b6 m o p0 p1 p2 p3 n v5 (v6 + 1)
def State_heardBits (m : xMem) (o : Nat) (p0 : Nat) (p1 : Int32) (p2 : Int32) (p3 : Int32) : Option (Int32) :=
  State_heardBits_b6 m o p0 p1 p2 p3 1000 0 0
abbrev rm_State_loudest : Room := { frames := 2, cells := 0, slots := 0, locals := 43 }
def State_loudest_b9 (m : xMem) (o : Nat) (p0 : Nat) (p1 : Int32) (p2 : Int32) : Nat → Int32 → Int32 → Int32 → Option (Int32)
  | 0, _, _, _ => none
  | n + 1, v4, v5, v6 =>
    if (m.1 p0 8) < v6 then
      some v4
    else
      if ((i_shr p2 v6) &&& 1) = 1 then
        (State_rowOf m o p0 v6).bind fun r1 =>
        (House_loudAt m p0 p1 r1).bind fun r2 =>
        if v4 = ((-1)) then
          State_loudest_b9 m o p0 p1 p2 n v6 r2 (v6 + 1)
        else
          if v5 < r2 then
            State_loudest_b9 m o p0 p1 p2 n v6 r2 (v6 + 1)
          else
            State_loudest_b9 m o p0 p1 p2 n v4 v5 (v6 + 1)
      else
        State_loudest_b9 m o p0 p1 p2 n v4 v5 (v6 + 1)
def State_loudest (m : xMem) (o : Nat) (p0 : Nat) (p1 : Int32) (p2 : Int32) : Option (Int32) :=
  State_loudest_b9 m o p0 p1 p2 1000 ((-1)) 0 0
abbrev rm_Tokens_failAt : Room := { frames := 0, cells := 0, slots := 0, locals := 0 }
def Tokens_failAt (m : xMem) (p0 : Int32) (p1 : Int32) : Option (Int32 × xMem) :=
  if (m.1 3 10) = 0 then
    nm (upI m 3 10 p0) fun m1 =>
    nm (upI m1 3 11 p1) fun m2 =>
    some (0, m2)
  else
    some (0, m)
abbrev rm_Tokens_fail : Room := { frames := 1, cells := 0, slots := 0, locals := 22 }
def Tokens_fail (m : xMem) (p0 : Int32) : Option (Int32 × xMem) :=
  (Tokens_failAt m p0 (m.1 3 5)).bind fun r1 =>
  (rz r1.1).bind fun w => some (w, r1.2)
abbrev rm_Tape_at : Room := { frames := 0, cells := 0, slots := 0, locals := 0 }
def Tape_at (m : xMem) (o : Nat) (p0 : Int32) : Option (Int32) :=
  if p0 < 0 then
    some 0
  else
    if p0 < (nI ((tapeLen o))) then
      (ix p0 (tapeLen o)).bind fun j1 =>
      some (m.1 (o + 1) j1)
    else
      some 0
abbrev rm_Tokens_numberOf : Room := { frames := 0, cells := 0, slots := 0, locals := 0 }
def Tokens_numberOf_b3 (m : xMem) (p0 : Nat) (Np0 : Nat) (p1 : Int32) (p2 : Int64) : Nat → Int32 → Option (Int32)
  | 0, _ => none
  | n + 1, v4 =>
    if v4 < p1 then
      if v4 < (nI Np0) then
        (ix v4 Np0).bind fun j1 =>
        if (lg_cmp (m.2 p0 j1) p2) = 0 then
          some v4
        else
          Tokens_numberOf_b3 m p0 Np0 p1 p2 n (v4 + 1)
      else
        some ((-1))
    else
      some ((-1))
def Tokens_numberOf (m : xMem) (p0 : Nat) (Np0 : Nat) (p1 : Int32) (p2 : Int64) : Option (Int32) :=
  Tokens_numberOf_b3 m p0 Np0 p1 p2 1000 0
abbrev rm_Tokens_readRun : Room := { frames := 1, cells := 0, slots := 0, locals := 24 }
def Tokens_readRun_b109 (k14 : Int32 → Int32 → xMem → Option (xMem)) (v1 : Int32) (v2 : Int32) (m : xMem) : Option (xMem) :=
  nm (upI m 3 3 ((m.1 3 3) + 1)) fun m6 =>
  k14 v1 v2 m6
def Tokens_readRun_b172 (s0 : Int32) (m : xMem) : Option (xMem) :=
  nm (upI m 3 4 s0) fun m10 =>
  some m10
def Tokens_readRun_b157 (v1 : Int32) (v2 : Int32) (m : xMem) : Option (xMem) :=
  if v1 = 0 then
    if 3 < v2 then
      Tokens_readRun_b172 1 m
    else
      Tokens_readRun_b172 3 m
  else
    Tokens_readRun_b172 1 m
def Tokens_readRun_b122 (v1 : Int32) (v2 : Int32) (m : xMem) : Option (xMem) :=
  if v2 = 0 then
    if 7 < v1 then
      Tokens_readRun_b157 v1 v2 m
    else
      nm (upI m 3 4 2) fun m7 =>
      (Tokens_numberOf m7 4 32 32 (m7.2 3 9)).bind fun r8 =>
      nm (upI m7 3 8 r8) fun m9 =>
      some m9
  else
    Tokens_readRun_b157 v1 v2 m
def Tokens_readRun_b78 (k14 : Int32 → Int32 → xMem → Option (xMem)) (v1 : Int32) (v2 : Int32) (v3 : Int32) (m : xMem) : Option (xMem) :=
  if v3 < 48 then
    Tokens_readRun_b122 v1 v2 m
  else
    if 57 < v3 then
      Tokens_readRun_b122 v1 v2 m
    else
      nm (upI m 3 7 (((m.1 3 7) * 10) + (v3 - 48))) fun m5 =>
      Tokens_readRun_b109 k14 v1 (v2 + 1) m5
def Tokens_readRun_b14 : Nat → Int32 → Int32 → xMem → Option (xMem)
  | 0, _, _, _ => none
  | n + 1, v1, v2, m =>
    if (m.1 3 3) < (m.1 1 1) then
      (Tape_at m 1 (m.1 3 3)).bind fun r3 =>
      if r3 < 97 then
        Tokens_readRun_b78 (Tokens_readRun_b14 n) v1 v2 r3 m
      else
        if 122 < r3 then
          Tokens_readRun_b78 (Tokens_readRun_b14 n) v1 v2 r3 m
        else
          nm (upL m 3 9 (((m.2 3 9) * 32) + (i_l ((r3 - 97) + 1)))) fun m4 =>
          Tokens_readRun_b109 (Tokens_readRun_b14 n) (v1 + 1) v2 m4
    else
      Tokens_readRun_b122 v1 v2 m
def Tokens_readRun (m : xMem) : Option (xMem) :=
  nm (upI m 3 7 0) fun m1 =>
  nm (upL m1 3 9 0) fun m2 =>
  Tokens_readRun_b14 1000 0 0 m2
abbrev rm_Tokens_advance : Room := { frames := 2, cells := 0, slots := 0, locals := 47 }
def Tokens_advance_b59 (k13 : xMem → Option (xMem)) (m : xMem) : Option (xMem) :=
  nm (upI m 3 3 ((m.1 3 3) + 1)) fun m5 =>
  k13 m5
def Tokens_advance_b175 (m : xMem) : Option (xMem) :=
  (Tokens_readRun m).bind fun r11 =>
  some r11
def Tokens_advance_b237 (s0 : Int32) (m : xMem) : Option (xMem) :=
  nm (upI m 3 4 s0) fun m14 =>
  some m14
def Tokens_advance_b214 (v1 : Int32) (m : xMem) : Option (xMem) :=
  if v1 = 40 then
    Tokens_advance_b237 4 m
  else
    if v1 = 41 then
      Tokens_advance_b237 4 m
    else
      if v1 = 46 then
        Tokens_advance_b237 4 m
      else
        Tokens_advance_b237 1 m
def Tokens_advance_b180 (v1 : Int32) (m : xMem) : Option (xMem) :=
  nm (upI m 3 3 ((m.1 3 3) + 1)) fun m12 =>
  nm (upI m12 3 7 v1) fun m13 =>
  if v1 = 59 then
    Tokens_advance_b237 4 m13
  else
    if v1 < 60 then
      Tokens_advance_b214 v1 m13
    else
      if 62 < v1 then
        Tokens_advance_b214 v1 m13
      else
        Tokens_advance_b237 4 m13
def Tokens_advance_b163 (v1 : Int32) (m : xMem) : Option (xMem) :=
  if v1 < 48 then
    Tokens_advance_b180 v1 m
  else
    if 57 < v1 then
      Tokens_advance_b180 v1 m
    else
      Tokens_advance_b175 m
def Tokens_advance_b111 (m : xMem) : Option (xMem) :=
  nm (upI m 3 5 (m.1 3 3)) fun m8 =>
  if (m8.1 3 3) < (m8.1 1 1) then
    (Tape_at m8 1 (m8.1 3 3)).bind fun r9 =>
    if r9 < 97 then
      Tokens_advance_b163 r9 m8
    else
      if 122 < r9 then
        Tokens_advance_b163 r9 m8
      else
        Tokens_advance_b175 m8
  else
    nm (upI m8 3 4 0) fun m10 =>
    some m10
def Tokens_advance_b72 (m : xMem) : Option (xMem) :=
  if (m.1 3 3) < (m.1 3 2) then
    Tokens_advance_b111 m
  else
    if (m.1 3 2) < (m.1 1 1) then
      nm (upI m 3 4 1) fun m6 =>
      nm (upI m6 3 5 (m6.1 3 2)) fun m7 =>
      some m7
    else
      Tokens_advance_b111 m
def Tokens_advance_b13 : Nat → xMem → Option (xMem)
  | 0, _ => none
  | n + 1, m =>
    if (m.1 3 3) < (m.1 1 1) then
      (Tape_at m 1 (m.1 3 3)).bind fun r3 =>
      if r3 = 32 then
        Tokens_advance_b59 (Tokens_advance_b13 n) m
      else
        (Tape_at m 1 (m.1 3 3)).bind fun r4 =>
        if r4 = 10 then
          Tokens_advance_b59 (Tokens_advance_b13 n) m
        else
          Tokens_advance_b72 m
    else
      Tokens_advance_b72 m
def Tokens_advance (m : xMem) : Option (xMem) :=
  nm (upI m 3 6 (m.1 3 5)) fun m1 =>
  nm (upI m1 3 8 ((-1))) fun m2 =>
  Tokens_advance_b13 1000 m2
abbrev rm_Tokens_takeKnown : Room := { frames := 3, cells := 0, slots := 0, locals := 68 }
def Tokens_takeKnown_b16 (p0 : Nat) (Np0 : Nat) (p1 : Int32) (m : xMem) : Option (Int32 × xMem) :=
  (Tokens_fail m 1).bind fun r4 =>
  some ((-1), r4.2)
def Tokens_takeKnown (m : xMem) (p0 : Nat) (Np0 : Nat) (p1 : Int32) : Option (Int32 × xMem) :=
  if (m.1 3 4) = 2 then
    if (m.1 3 8) = ((-1)) then
      (Tokens_numberOf m p0 Np0 p1 (m.2 3 9)).bind fun r1 =>
      if r1 = ((-1)) then
        (Tokens_fail m 3).bind fun r2 =>
        some ((-1), r2.2)
      else
        (Tokens_advance m).bind fun r3 =>
        some (r1, r3)
    else
      Tokens_takeKnown_b16 p0 Np0 p1 m
  else
    Tokens_takeKnown_b16 p0 Np0 p1 m
abbrev rm_Tokens_takeNumber : Room := { frames := 3, cells := 0, slots := 0, locals := 68 }
def Tokens_takeNumber_b37 (p0 : Int32) (p1 : Int32) (s0 : Int32) (m : xMem) : Option (Int32 × xMem) :=
  (Tokens_fail m s0).bind fun r3 =>
  some ((-1), r3.2)
def Tokens_takeNumber_b23 (p0 : Int32) (p1 : Int32) (m : xMem) : Option (Int32 × xMem) :=
  if (m.1 3 4) = 3 then
    Tokens_takeNumber_b37 p0 p1 2 m
  else
    Tokens_takeNumber_b37 p0 p1 1 m
def Tokens_takeNumber (m : xMem) (p0 : Int32) (p1 : Int32) : Option (Int32 × xMem) :=
  nm (m.1 3 7) fun x1 =>
  if (m.1 3 4) = 3 then
    if x1 < p0 then
      Tokens_takeNumber_b23 p0 p1 m
    else
      if p1 < x1 then
        Tokens_takeNumber_b23 p0 p1 m
      else
        (Tokens_advance m).bind fun r2 =>
        some (x1, r2)
  else
    Tokens_takeNumber_b23 p0 p1 m
abbrev rm_Tokens_isSign : Room := { frames := 0, cells := 0, slots := 0, locals := 0 }
def Tokens_isSign (m : xMem) (p0 : Int32) : Option (Int32) :=
  if (m.1 3 4) = 4 then
    if (m.1 3 7) = p0 then
      some 1
    else
      some 0
  else
    some 0
abbrev rm_Tokens_skipSign : Room := { frames := 3, cells := 0, slots := 0, locals := 68 }
def Tokens_skipSign (m : xMem) (p0 : Int32) : Option (Int32 × xMem) :=
  (Tokens_isSign m p0).bind fun r1 =>
  if r1 = 0 then
    (Tokens_fail m 1).bind fun r2 =>
    (rz r2.1).bind fun w => some (w, r2.2)
  else
    (Tokens_advance m).bind fun r3 =>
    some (1, r3)
abbrev rm_State_owlAt : Room := { frames := 0, cells := 0, slots := 0, locals := 0 }
def State_owlAt_b2 (m : xMem) (o : Nat) (p0 : Nat) (p1 : Int32) : Nat → Int32 → Option (Int32)
  | 0, _ => none
  | n + 1, v3 =>
    if v3 < (m.1 p0 7) then
      (ix v3 6).bind fun j1 =>
      if (m.1 (o + 2) j1) = p1 then
        some v3
      else
        State_owlAt_b2 m o p0 p1 n (v3 + 1)
    else
      some ((-1))
def State_owlAt (m : xMem) (o : Nat) (p0 : Nat) (p1 : Int32) : Option (Int32) :=
  State_owlAt_b2 m o p0 p1 1000 0
abbrev rm_State_lendTo : Room := { frames := 1, cells := 0, slots := 0, locals := 23 }
def State_lendTo (m : xMem) (o : Nat) (p0 : Nat) (p1 : Int32) (p2 : Int32) : Option (Int32 × xMem) :=
  (ix p1 6).bind fun j1 =>
  if (m.1 (o + 2) j1) = p2 then
    some (1, m)
  else
    (State_owlAt m o p0 p2).bind fun r2 =>
    if r2 = ((-1)) then
      (ix p1 6).bind fun j4 => nm (upI m (o + 2) j4 p2) fun m3 =>
      some (0, m3)
    else
      some (2, m)
abbrev rm_State_hushOne : Room := { frames := 0, cells := 0, slots := 0, locals := 0 }
def State_hushOne (m : xMem) (o : Nat) (p0 : Int32) : Option (Int32 × xMem) :=
  if ((i_shr (m.1 o 1) p0) &&& 1) = 1 then
    some (1, m)
  else
    nm (upI m o 1 ((m.1 o 1) ||| (i_shl 1 p0))) fun m1 =>
    some (0, m1)
abbrev rm_State_letOne : Room := { frames := 0, cells := 0, slots := 0, locals := 0 }
def State_letOne (m : xMem) (o : Nat) (p0 : Int32) : Option (Int32 × xMem) :=
  if ((i_shr (m.1 o 1) p0) &&& 1) = 0 then
    some (1, m)
  else
    nm (upI m o 1 ((m.1 o 1) &&& ((i_shl 1 p0) ^^^ ((-1))))) fun m1 =>
    some (0, m1)
abbrev rm_House_hasCell : Room := { frames := 0, cells := 0, slots := 0, locals := 0 }
def House_hasCell (m : xMem) (o : Nat) (p0 : Int32) (p1 : Int32) : Option (Int32) :=
  if p0 < 0 then
    some 0
  else
    if p0 < (m.1 o 0) then
      if p1 < 0 then
        some 0
      else
        if p1 < (m.1 o 1) then
          some 1
        else
          some 0
    else
      some 0
abbrev rm_State_isShouted : Room := { frames := 0, cells := 0, slots := 0, locals := 0 }
def State_isShouted (m : xMem) (o : Nat) : Option (Int32) :=
  if 0 < (m.1 (o + 1) 3) then
    some 1
  else
    some 0
abbrev rm_State_shoutIn : Room := { frames := 1, cells := 0, slots := 0, locals := 20 }
def State_shoutIn (m : xMem) (o : Nat) (p0 : Int32) (p1 : Int32) (p2 : Int32) : Option (Int32 × xMem) :=
  (State_isShouted m o).bind fun r1 =>
  if r1 = 0 then
    nm (upI m (o + 1) 0 1) fun m2 =>
    nm (upI m2 (o + 1) 1 p0) fun m3 =>
    nm (upI m3 (o + 1) 2 p1) fun m4 =>
    nm (upI m4 (o + 1) 3 p2) fun m5 =>
    nm (upI m5 o 2 ((m5.1 o 2) + 1)) fun m6 =>
    some (0, m6)
  else
    some (1, m)
abbrev rm_State_passHour : Room := { frames := 3, cells := 0, slots := 0, locals := 75 }
def State_passHour_b90 (o : Nat) (p0 : Nat) (k19 : Int32 → Int32 → Int32 → xMem → Option (xMem)) : Nat → Int32 → Int32 → Int32 → Int32 → Int32 → xMem → Option (xMem)
  | 0, _, _, _, _, _, _ => none
  | n + 1, v2, v3, v4, v6, v7, m =>
    if (m.1 p0 8) < v7 then
      k19 v2 v3 (v4 + 1) m
    else
      if ((i_shr v2 v7) &&& 1) = 1 then
        if v7 = v6 then
          State_passHour_b90 o p0 k19 n v2 v3 v4 v6 (v7 + 1) m
        else
          (State_rowOf m o p0 v7).bind fun r11 =>
          (House_loudAt m p0 v4 r11).bind fun r12 =>
          if r12 < 5 then
            State_passHour_b90 o p0 k19 n v2 v3 v4 v6 (v7 + 1) m
          else
            (ix v4 6).bind fun j13 =>
            (ix v4 6).bind fun j15 => nm (upI m (o + 4) j15 ((m.1 (o + 4) j13) + 1)) fun m14 =>
            State_passHour_b90 o p0 k19 n v2 v3 v4 v6 (v7 + 1) m14
      else
        State_passHour_b90 o p0 k19 n v2 v3 v4 v6 (v7 + 1) m
def State_passHour_b68 (o : Nat) (p0 : Nat) (k19 : Int32 → Int32 → Int32 → xMem → Option (xMem)) (v2 : Int32) (v3 : Int32) (v4 : Int32) (s0 : Int32) (m : xMem) : Option (xMem) :=
  if s0 = ((-1)) then
    State_passHour_b90 o p0 k19 1000 v2 v3 v4 s0 0 m
  else
    (ix v4 6).bind fun j8 =>
    (ix v4 6).bind fun j10 => nm (upI m (o + 3) j10 ((m.1 (o + 3) j8) + 1)) fun m9 =>
    State_passHour_b90 o p0 k19 1000 v2 v3 v4 s0 0 m9
def State_passHour_b19 (o : Nat) (p0 : Nat) : Nat → Int32 → Int32 → Int32 → xMem → Option (xMem)
  | 0, _, _, _, _ => none
  | n + 1, v2, v3, v4, m =>
    if v4 < (m.1 p0 6) then
      (State_owlAt m o p0 v4).bind fun r3 =>
      if r3 = ((-1)) then
        State_passHour_b68 o p0 (State_passHour_b19 o p0 n) v2 v3 v4 ((-1)) m
      else
        if v3 = 0 then
          (State_heardBits m o p0 r3 v4 v2).bind fun r4 =>
          (State_loudest m o p0 v4 r4).bind fun r5 =>
          State_passHour_b68 o p0 (State_passHour_b19 o p0 n) v2 v3 v4 r5 m
        else
          State_passHour_b68 o p0 (State_passHour_b19 o p0 n) v2 v3 v4 ((-1)) m
    else
      nm (upI m o 0 ((m.1 o 0) + 1)) fun m6 =>
      nm (upI m6 (o + 1) 3 0) fun m7 =>
      some m7
def State_passHour (m : xMem) (o : Nat) (p0 : Nat) : Option (xMem) :=
  (State_onBits m o p0 0).bind fun r1 =>
  (House_shutAt m p0 (m.1 o 0)).bind fun r2 =>
  State_passHour_b19 o p0 1000 r1 r2 0 m
abbrev rm_State_lookOf : Room := { frames := 3, cells := 0, slots := 0, locals := 75 }
def State_lookOf (m : xMem) (o : Nat) (p0 : Nat) (p1 : Int32) (p2 : Int32) (p3 : Int32) : Option (Int32) :=
  (House_shutAt m p0 ((m.1 o 0) + p3)).bind fun r1 =>
  if r1 = 0 then
    (State_onBits m o p0 p3).bind fun r2 =>
    (State_heardBits m o p0 p1 p2 r2).bind fun r3 =>
    (State_loudest m o p0 p2 r3).bind fun r4 =>
    some r4
  else
    some ((-1))
abbrev rm_State_lookingBits : Room := { frames := 4, cells := 0, slots := 0, locals := 99 }
def State_lookingBits_b4 (m : xMem) (o : Nat) (p0 : Nat) : Nat → Int32 → Int32 → Option (Int32)
  | 0, _, _ => none
  | n + 1, v2, v3 =>
    if v3 < (m.1 p0 7) then
      (ix v3 6).bind fun j1 =>
      (State_lookOf m o p0 v3 (m.1 (o + 2) j1) 0).bind fun r2 =>
      if r2 = ((-1)) then
        State_lookingBits_b4 m o p0 n v2 (v3 + 1)
      else
        nm (v2 ||| (i_shl 1 v3)) fun x3 =>
        State_lookingBits_b4 m o p0 n x3 (v3 + 1)
    else
      some v2
def State_lookingBits (m : xMem) (o : Nat) (p0 : Nat) : Option (Int32) :=
  State_lookingBits_b4 m o p0 1000 0 0
abbrev rm_House_clear : Room := { frames := 0, cells := 0, slots := 0, locals := 0 }
def House_clear (m : xMem) (o : Nat) : Option (xMem) :=
  nm (upI m o 0 6) fun m1 =>
  nm (upI m1 o 1 6) fun m2 =>
  nm (upI m2 o 2 6) fun m3 =>
  nm (upI m3 o 3 17) fun m4 =>
  nm (upI m4 o 4 0) fun m5 =>
  nm (upI m5 o 5 0) fun m6 =>
  nm (upI m6 o 6 0) fun m7 =>
  nm (upI m7 o 7 0) fun m8 =>
  nm (upI m8 o 8 0) fun m9 =>
  some m9
abbrev rm_House_copyRows : Room := { frames := 1, cells := 0, slots := 0, locals := 64 }
def House_copyRows_b2 (p0 : Nat) (Np0 : Nat) (Wp0 : Nat) (p1 : Nat) (Np1 : Nat) (Wp1 : Nat) : Nat → Int32 → xMem → Option (xMem)
  | 0, _, _ => none
  | n + 1, v2, m =>
    if v2 < (nI Np0) then
      if v2 < (nI Np1) then
        (ix v2 Np0).bind fun j1 =>
        (ix v2 Np1).bind fun j2 =>
        (ix v2 Np0).bind fun j3 =>
        (ix v2 Np1).bind fun j4 =>
        (ixc (i_min (nI Wp0) (nI Wp1)) (min Wp0 Wp1)).bind fun j6 => nm (upR m (p1 + 1 + j2) (xcpy (m.1 (p0 + 1 + j1)) (m.1 (p1 + 1 + j2)) j6)) fun m5 =>
        House_copyRows_b2 p0 Np0 Wp0 p1 Np1 Wp1 n (v2 + 1) m5
      else
        some m
    else
      some m
def House_copyRows (m : xMem) (p0 : Nat) (Np0 : Nat) (Wp0 : Nat) (p1 : Nat) (Np1 : Nat) (Wp1 : Nat) : Option (xMem) :=
  House_copyRows_b2 p0 Np0 Wp0 p1 Np1 Wp1 1000 0 m
abbrev rm_House_copyFrom : Room := { frames := 2, cells := 0, slots := 0, locals := 86 }
def House_copyFrom (m : xMem) (o : Nat) (p0 : Nat) : Option (xMem) :=
  nm (upI m o 0 (m.1 p0 0)) fun m1 =>
  nm (upI m1 o 1 (m1.1 p0 1)) fun m2 =>
  nm (upI m2 o 2 (m2.1 p0 2)) fun m3 =>
  nm (upI m3 o 3 (m3.1 p0 3)) fun m4 =>
  nm (upI m4 o 6 (m4.1 p0 6)) fun m5 =>
  nm (upI m5 o 7 (m5.1 p0 7)) fun m6 =>
  nm (upI m6 o 8 (m6.1 p0 8)) fun m7 =>
  nm (upRL m7 (o + 1) (xcpy (m7.2 (p0 + 1)) (m7.2 (o + 1)) 6)) fun m8 =>
  nm (upRL m8 (o + 2) (xcpy (m8.2 (p0 + 2)) (m8.2 (o + 2)) 6)) fun m9 =>
  nm (upRL m9 (o + 3) (xcpy (m9.2 (p0 + 3)) (m9.2 (o + 3)) 8)) fun m10 =>
  (House_copyRows m10 (p0 + 4) 6 3 (o + 4) 6 3).bind fun r11 =>
  (House_copyRows r11 (p0 + 11) 6 4 (o + 11) 6 4).bind fun r12 =>
  (House_copyRows r12 (p0 + 18) 8 6 (o + 18) 8 6).bind fun r13 =>
  some r13
abbrev rm_House_hasBed : Room := { frames := 0, cells := 0, slots := 0, locals := 0 }
def House_hasBed (m : xMem) (o : Nat) (p0 : Int32) : Option (Int32) :=
  if p0 < 0 then
    some 0
  else
    if p0 < (m.1 o 6) then
      some 1
    else
      some 0
abbrev rm_House_hasOwl : Room := { frames := 0, cells := 0, slots := 0, locals := 0 }
def House_hasOwl (m : xMem) (o : Nat) (p0 : Int32) : Option (Int32) :=
  if p0 < 0 then
    some 0
  else
    if p0 < (m.1 o 7) then
      some 1
    else
      some 0
abbrev rm_House_hasName : Room := { frames := 1, cells := 0, slots := 0, locals := 24 }
def House_hasName (m : xMem) (o : Nat) (p0 : Int64) : Option (Int32) :=
  (Tokens_numberOf m (o + 1) 6 (m.1 o 6) p0).bind fun r1 =>
  if r1 = ((-1)) then
    (Tokens_numberOf m (o + 2) 6 (m.1 o 7) p0).bind fun r2 =>
    if r2 = ((-1)) then
      (Tokens_numberOf m (o + 3) 8 (m.1 o 8) p0).bind fun r3 =>
      if r3 = ((-1)) then
        some 0
      else
        some 1
    else
      some 1
  else
    some 1
abbrev rm_House_hasBedIn : Room := { frames := 0, cells := 0, slots := 0, locals := 0 }
def House_hasBedIn_b2 (m : xMem) (o : Nat) (p0 : Int32) (p1 : Int32) : Nat → Int32 → Option (Int32)
  | 0, _ => none
  | n + 1, v3 =>
    if v3 < (m.1 o 6) then
      (ix v3 6).bind fun j1 =>
      if (m.1 (o + 5 + j1) 0) = p0 then
        (ix v3 6).bind fun j2 =>
        if (m.1 (o + 5 + j2) 1) = p1 then
          some 1
        else
          House_hasBedIn_b2 m o p0 p1 n (v3 + 1)
      else
        House_hasBedIn_b2 m o p0 p1 n (v3 + 1)
    else
      some 0
def House_hasBedIn (m : xMem) (o : Nat) (p0 : Int32) (p1 : Int32) : Option (Int32) :=
  House_hasBedIn_b2 m o p0 p1 1000 0
abbrev rm_House_hasOwlBy : Room := { frames := 0, cells := 0, slots := 0, locals := 0 }
def House_hasOwlBy_b2 (m : xMem) (o : Nat) (p0 : Int32) : Nat → Int32 → Option (Int32)
  | 0, _ => none
  | n + 1, v2 =>
    if v2 < (m.1 o 7) then
      (ix v2 6).bind fun j1 =>
      if (m.1 (o + 12 + j1) 0) = p0 then
        some 1
      else
        House_hasOwlBy_b2 m o p0 n (v2 + 1)
    else
      some 0
def House_hasOwlBy (m : xMem) (o : Nat) (p0 : Int32) : Option (Int32) :=
  House_hasOwlBy_b2 m o p0 1000 0
abbrev rm_Tokens_takeNewName : Room := { frames := 3, cells := 0, slots := 0, locals := 68 }
def Tokens_takeNewName_b51 (p0 : Nat) (s0 : Int32) (m : xMem) : Option (Int64 × xMem) :=
  (Tokens_fail m s0).bind fun r4 =>
  some ((-1), r4.2)
def Tokens_takeNewName_b29 (p0 : Nat) (m : xMem) : Option (Int64 × xMem) :=
  if (m.1 3 4) = 2 then
    if (m.1 3 8) = ((-1)) then
      Tokens_takeNewName_b51 p0 3 m
    else
      Tokens_takeNewName_b51 p0 1 m
  else
    Tokens_takeNewName_b51 p0 1 m
def Tokens_takeNewName (m : xMem) (p0 : Nat) : Option (Int64 × xMem) :=
  nm (m.2 3 9) fun y1 =>
  if (m.1 3 4) = 2 then
    if (m.1 3 8) = ((-1)) then
      (House_hasName m p0 y1).bind fun r2 =>
      if r2 = 0 then
        (Tokens_advance m).bind fun r3 =>
        some (y1, r3)
      else
        Tokens_takeNewName_b29 p0 m
    else
      Tokens_takeNewName_b29 p0 m
  else
    Tokens_takeNewName_b29 p0 m
abbrev rm_Tokens_failBehind : Room := { frames := 1, cells := 0, slots := 0, locals := 22 }
def Tokens_failBehind (m : xMem) (p0 : Int32) : Option (Int32 × xMem) :=
  (Tokens_failAt m p0 (m.1 3 6)).bind fun r1 =>
  (rz r1.1).bind fun w => some (w, r1.2)
abbrev rm_Tokens_takeWord : Room := { frames := 3, cells := 0, slots := 0, locals := 68 }
def Tokens_takeWord_b24 (p0 : Int32) (p1 : Int32) (m : xMem) : Option (Int32 × xMem) :=
  (Tokens_fail m 1).bind fun r3 =>
  some ((-1), r3.2)
def Tokens_takeWord (m : xMem) (p0 : Int32) (p1 : Int32) : Option (Int32 × xMem) :=
  nm ((m.1 3 8) - p0) fun x1 =>
  if (m.1 3 8) = ((-1)) then
    Tokens_takeWord_b24 p0 p1 m
  else
    if x1 < 0 then
      Tokens_takeWord_b24 p0 p1 m
    else
      if x1 < p1 then
        (Tokens_advance m).bind fun r2 =>
        some (x1, r2)
      else
        Tokens_takeWord_b24 p0 p1 m
abbrev rm_State_begin : Room := { frames := 0, cells := 0, slots := 0, locals := 0 }
def State_begin_b54 (o : Nat) (p0 : Nat) : Nat → Int32 → xMem → Option (xMem)
  | 0, _, _ => none
  | n + 1, v2, m =>
    if v2 < 6 then
      (ix v2 6).bind fun j9 => nm (upI m (o + 3) j9 0) fun m8 =>
      (ix v2 6).bind fun j11 => nm (upI m8 (o + 4) j11 0) fun m10 =>
      State_begin_b54 o p0 n (v2 + 1) m10
    else
      some m
def State_begin_b24 (o : Nat) (p0 : Nat) : Nat → Int32 → xMem → Option (xMem)
  | 0, _, _ => none
  | n + 1, v2, m =>
    if v2 < (m.1 p0 7) then
      (ix v2 6).bind fun j5 =>
      (ix v2 6).bind fun j7 => nm (upI m (o + 2) j7 (m.1 (p0 + 12 + j5) 0)) fun m6 =>
      State_begin_b24 o p0 n (v2 + 1) m6
    else
      State_begin_b54 o p0 1000 0 m
def State_begin (m : xMem) (o : Nat) (p0 : Nat) : Option (xMem) :=
  nm (upI m o 0 0) fun m1 =>
  nm (upI m1 o 1 0) fun m2 =>
  nm (upI m2 o 2 0) fun m3 =>
  nm (upI m3 (o + 1) 3 0) fun m4 =>
  State_begin_b24 o p0 1000 0 m4
abbrev rm_State_copyFrom : Room := { frames := 1, cells := 0, slots := 0, locals := 64 }
def State_copyFrom (m : xMem) (o : Nat) (p0 : Nat) : Option (xMem) :=
  nm (upI m o 0 (m.1 p0 0)) fun m1 =>
  nm (upI m1 o 1 (m1.1 p0 1)) fun m2 =>
  nm (upI m2 o 2 (m2.1 p0 2)) fun m3 =>
  nm (upR m3 (o + 1) (xcpy (m3.1 (p0 + 1)) (m3.1 (o + 1)) 4)) fun m4 =>
  nm (upR m4 (o + 2) (xcpy (m4.1 (p0 + 2)) (m4.1 (o + 2)) 6)) fun m5 =>
  nm (upR m5 (o + 3) (xcpy (m5.1 (p0 + 3)) (m5.1 (o + 3)) 6)) fun m6 =>
  nm (upR m6 (o + 4) (xcpy (m6.1 (p0 + 4)) (m6.1 (o + 4)) 6)) fun m7 =>
  some m7
abbrev rm_State_sideFrom : Room := { frames := 2, cells := 0, slots := 0, locals := 43 }
def State_sideFrom (m : xMem) (o : Nat) (p0 : Nat) (p1 : Int32) (p2 : Int32) : Option (Int32) :=
  if p2 = ((-1)) then
    some ((-1))
  else
    (State_rowOf m o p0 p2).bind fun r1 =>
    (House_sideAt m p0 p1 r1).bind fun r2 =>
    some r2
abbrev rm_State_total : Room := { frames := 0, cells := 0, slots := 0, locals := 0 }
def State_total_b4 (m : xMem) (p0 : Nat) (Np0 : Nat) (p1 : Int32) : Nat → Int32 → Int32 → Option (Int32)
  | 0, _, _ => none
  | n + 1, v2, v3 =>
    if v3 < p1 then
      if v3 < (nI Np0) then
        (ix v3 Np0).bind fun j1 =>
        nm (v2 + (m.1 p0 j1)) fun x2 =>
        State_total_b4 m p0 Np0 p1 n x2 (v3 + 1)
      else
        some v2
    else
      some v2
def State_total (m : xMem) (p0 : Nat) (Np0 : Nat) (p1 : Int32) : Option (Int32) :=
  State_total_b4 m p0 Np0 p1 1000 0 0
abbrev rm_State_heardNow : Room := { frames := 3, cells := 0, slots := 0, locals := 75 }
def State_heardNow (m : xMem) (o : Nat) (p0 : Nat) (p1 : Int32) (p2 : Int32) : Option (Int32) :=
  (House_shutAt m p0 (m.1 o 0)).bind fun r1 =>
  if r1 = 0 then
    (State_onBits m o p0 0).bind fun r2 =>
    (State_heardBits m o p0 p1 p2 r2).bind fun r3 =>
    some r3
  else
    some 0
abbrev rm_State_step : Room := { frames := 0, cells := 0, slots := 0, locals := 0 }
def State_step (m : xMem) (p0 : Int32) : Option (Int32) :=
  some ((p0 * 1103515245) + 12345)
abbrev rm_State_pick : Room := { frames := 0, cells := 0, slots := 0, locals := 0 }
def State_pick (m : xMem) (p0 : Int32) (p1 : Int32) : Option (Int32) :=
  if 0 < p1 then
    if p1 = 0 then none else
    some (i_rem (i_ushr p0 8) p1)
  else
    some 0
abbrev rm_State_passDrawn : Room := { frames := 4, cells := 0, slots := 0, locals := 102 }
def State_passDrawn_b137 (o : Nat) (p0 : Nat) (p1 : Int32) (p2 : Int32) (k6 : Int32 → Int32 → xMem → Option (xMem)) (v4 : Int32) (v5 : Int32) (m : xMem) : Option (xMem) :=
  (State_passHour m o p0).bind fun r14 =>
  k6 v4 (v5 + 1) r14
def State_passDrawn_b15 (o : Nat) (p0 : Nat) (p1 : Int32) (p2 : Int32) (k6 : Int32 → Int32 → xMem → Option (xMem)) : Nat → Int32 → Int32 → Int32 → xMem → Option (xMem)
  | 0, _, _, _, _ => none
  | n + 1, v4, v5, v6, m =>
    if v6 < (m.1 p0 8) then
      (State_step m v4).bind fun r1 =>
      (State_pick m r1 8).bind fun r2 =>
      if r2 = 0 then
        nm (upI m o 1 ((m.1 o 1) ^^^ (i_shl 1 v6))) fun m3 =>
        State_passDrawn_b15 o p0 p1 p2 k6 n r1 v5 (v6 + 1) m3
      else
        State_passDrawn_b15 o p0 p1 p2 k6 n r1 v5 (v6 + 1) m
    else
      (State_step m v4).bind fun r4 =>
      (State_pick m r4 6).bind fun r5 =>
      if r5 = 0 then
        (State_isShouted m o).bind fun r6 =>
        if r6 = 0 then
          (State_step m r4).bind fun r7 =>
          (State_step m r7).bind fun r8 =>
          (State_step m r8).bind fun r9 =>
          (State_pick m r7 (m.1 p0 0)).bind fun r10 =>
          (State_pick m r8 (m.1 p0 1)).bind fun r11 =>
          (State_pick m r9 30).bind fun r12 =>
          (State_shoutIn m o r10 r11 (r12 + 1)).bind fun r13 =>
          State_passDrawn_b137 o p0 p1 p2 k6 r9 v5 r13.2
        else
          State_passDrawn_b137 o p0 p1 p2 k6 r4 v5 m
      else
        State_passDrawn_b137 o p0 p1 p2 k6 r4 v5 m
def State_passDrawn_b6 (o : Nat) (p0 : Nat) (p1 : Int32) (p2 : Int32) : Nat → Int32 → Int32 → xMem → Option (xMem)
  | 0, _, _, _ => none
  | n + 1, v4, v5, m =>
    if v5 < p1 then
      State_passDrawn_b15 o p0 p1 p2 (State_passDrawn_b6 o p0 p1 p2 n) 1000 v4 v5 0 m
    else
      some m
def State_passDrawn (m : xMem) (o : Nat) (p0 : Nat) (p1 : Int32) (p2 : Int32) : Option (xMem) :=
  State_passDrawn_b6 o p0 p1 p2 1000 p2 0 m
abbrev rm_Tape_add : Room := { frames := 0, cells := 0, slots := 0, locals := 0 }
def Tape_add (m : xMem) (o : Nat) (p0 : Int32) : Option (xMem) :=
  if (m.1 o 1) < (nI ((tapeLen o))) then
    (ix (m.1 o 1) (tapeLen o)).bind fun j2 => nm (upI m (o + 1) j2 (p0 &&& 255)) fun m1 =>
    nm (upI m1 o 1 ((m1.1 o 1) + 1)) fun m3 =>
    some m3
  else
    some m
abbrev rm_Tape_addFour : Room := { frames := 1, cells := 0, slots := 0, locals := 21 }
def Tape_addFour_b3 (o : Nat) (p0 : Int32) : Nat → Int32 → xMem → Option (xMem)
  | 0, _, _ => none
  | n + 1, v2, m =>
    if v2 < 0 then
      some m
    else
      (Tape_add m o (i_ushr p0 v2)).bind fun r1 =>
      Tape_addFour_b3 o p0 n (v2 + (-8)) r1
def Tape_addFour (m : xMem) (o : Nat) (p0 : Int32) : Option (xMem) :=
  Tape_addFour_b3 o p0 1000 24 m
abbrev rm_Tape_addName : Room := { frames := 1, cells := 0, slots := 0, locals := 21 }
def Tape_addName_b3 (o : Nat) (p0 : Int64) : Nat → Int32 → xMem → Option (xMem)
  | 0, _, _ => none
  | n + 1, v3, m =>
    if v3 < 0 then
      some m
    else
      nm ((l_i (l_shr p0 v3)) &&& 31) fun x1 =>
      if x1 = 0 then
        Tape_addName_b3 o p0 n (v3 + (-5)) m
      else
        (Tape_add m o ((97 + x1) - 1)).bind fun r2 =>
        Tape_addName_b3 o p0 n (v3 + (-5)) r2
def Tape_addName (m : xMem) (o : Nat) (p0 : Int64) : Option (xMem) :=
  Tape_addName_b3 o p0 1000 30 m
abbrev rm_Tokens_start : Room := { frames := 3, cells := 0, slots := 0, locals := 68 }
def Tokens_start (m : xMem) (p0 : Int32) : Option (xMem) :=
  nm (upI m 3 2 p0) fun m1 =>
  nm (upI m1 3 3 0) fun m2 =>
  nm (upI m2 3 5 0) fun m3 =>
  nm (upI m3 3 10 0) fun m4 =>
  nm (upI m4 3 11 0) fun m5 =>
  (Tokens_advance m5).bind fun r6 =>
  some r6
