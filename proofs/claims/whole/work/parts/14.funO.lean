abbrev rm_O_feed : Room := { frames := 2, cells := 0, slots := 0, locals := 43 }
def O_feed (m : xMem) (p0 : Int32) (p1 : Int32) (p2 : Int32) (p3 : Int32) (p4 : Int32) : Option (Int32 × xMem) :=
  if 940 < ((m.1 1 1) + 20) then
    some ((-1), m)
  else
    (Tape_addFour m 1 p0).bind fun r1 =>
    (Tape_addFour r1 1 p1).bind fun r2 =>
    (Tape_addFour r2 1 p2).bind fun r3 =>
    (Tape_addFour r3 1 p3).bind fun r4 =>
    (Tape_addFour r4 1 p4).bind fun r5 =>
    some (r5.1 1 1, r5)
abbrev rm_O_end : Room := { frames := 0, cells := 0, slots := 0, locals := 0 }
def O_end (m : xMem) (p0 : Int32) : Option (Int32 × xMem) :=
  if p0 < 0 then
    some (0, m)
  else
    if (m.1 1 1) < p0 then
      some (0, m)
    else
      nm (upI m 1 1 p0) fun m1 =>
      some (1, m1)
abbrev rm_O_endText : Room := { frames := 0, cells := 0, slots := 0, locals := 0 }
def O_endText (m : xMem) : Option (xMem) :=
  nm (upI m 1 1 0) fun m1 =>
  nm (upI m1 0 18 (m1.1 3 10)) fun m2 =>
  some m2
abbrev rm_O_house : Room := { frames := 6, cells := 0, slots := 0, locals := 144 }
def O_house (m : xMem) : Option (Int32 × xMem) :=
  (Tokens_start m 900).bind fun r1 =>
  (HouseReader_readAll r1 44).bind fun r2 =>
  (O_endText r2.2).bind fun r3 =>
  if (r3.1 0 18) = 0 then
    (Image_begin r3 5 44).bind fun r4 =>
    (Undo_forget r4).bind fun r5 =>
    some (r2.1, r5)
  else
    some (((-1)) - (r3.1 3 11), r3)
abbrev rm_O_fault : Room := { frames := 0, cells := 0, slots := 0, locals := 0 }
def O_fault (m : xMem) : Option (Int32) :=
  some (m.1 0 18)
abbrev rm_O_sound : Room := { frames := 2, cells := 0, slots := 0, locals := 48 }
def O_sound (m : xMem) (p0 : Int32) (p1 : Int32) : Option (Int32) :=
  (House_hasSound m 6 p0).bind fun r1 =>
  if r1 = 0 then
    some ((-1))
  else
    if p1 < 0 then
      some ((-1))
    else
      if 5 < p1 then
        some ((-1))
      else
        if 3 < p1 then
          if p1 = 4 then
            (State_onBits m 33 6 0).bind fun r2 =>
            some ((i_shr r2 p0) &&& 1)
          else
            nm (m.1 33 1) fun x3 =>
            some ((i_shr x3 p0) &&& 1)
        else
          (ix p0 8).bind fun j4 =>
          (ix p1 6).bind fun j5 =>
          some (m.1 (25 + j4) j5)
abbrev rm_O_now : Room := { frames := 5, cells := 0, slots := 0, locals := 122 }
def O_now (m : xMem) (p0 : Int32) : Option (Int32) :=
  if p0 = 0 then
    some (m.1 33 0)
  else
  if p0 = 1 then
    (State_onBits m 33 6 0).bind fun r1 =>
    some r1
  else
  if p0 = 2 then
    some (m.1 33 1)
  else
  if p0 = 3 then
    (State_lookingBits m 33 6).bind fun r2 =>
    some r2
  else
  if p0 = 4 then
    (House_shutAt m 6 (m.1 33 0)).bind fun r3 =>
    if r3 = 0 then
      some 0
    else
      some 1
  else
  if p0 = 5 then
    (State_total m 36 6 (m.1 6 6)).bind fun r4 =>
    some r4
  else
  if p0 = 6 then
    (State_total m 37 6 (m.1 6 6)).bind fun r5 =>
    some r5
  else
  if p0 = 7 then
    some (m.1 33 2)
  else
    some ((-1))
abbrev rm_O_count : Room := { frames := 0, cells := 0, slots := 0, locals := 0 }
def O_count (m : xMem) (p0 : Int32) : Option (Int32) :=
  if p0 = 0 then
    some (m.1 6 6)
  else
  if p0 = 1 then
    some (m.1 6 7)
  else
  if p0 = 2 then
    some (m.1 6 8)
  else
  if p0 = 3 then
    some (m.1 6 0)
  else
  if p0 = 4 then
    some (m.1 6 1)
  else
  if p0 = 5 then
    some (m.1 1 1)
  else
    some ((-1))
abbrev rm_O_keepTrial : Room := { frames := 3, cells := 0, slots := 0, locals := 106 }
def O_keepTrial (m : xMem) : Option (xMem) :=
  (Undo_keep m 33).bind fun r1 =>
  (State_copyFrom r1 33 118).bind fun r2 =>
  some r2
abbrev rm_O_keepDone : Room := { frames := 4, cells := 0, slots := 0, locals := 126 }
def O_keepDone (m : xMem) (p0 : Int32) : Option (Int32 × xMem) :=
  if p0 = 0 then
    (O_keepTrial m).bind fun r1 =>
    some (p0, r1)
  else
    some (p0, m)
abbrev rm_O_lend : Room := { frames := 5, cells := 0, slots := 0, locals := 147 }
def O_lend (m : xMem) (p0 : Int32) (p1 : Int32) : Option (Int32 × xMem) :=
  (House_hasOwl m 6 p0).bind fun r1 =>
  if r1 = 0 then
    some ((-1), m)
  else
    (House_hasBed m 6 p1).bind fun r2 =>
    if r2 = 0 then
      some ((-1), m)
    else
      (State_copyFrom m 118 33).bind fun r3 =>
      (State_lendTo r3 118 6 p0 p1).bind fun r4 =>
      (O_keepDone r4.2 r4.1).bind fun r5 =>
      some (r5.1, r5.2)
abbrev rm_O_hush : Room := { frames := 5, cells := 0, slots := 0, locals := 147 }
def O_hush (m : xMem) (p0 : Int32) : Option (Int32 × xMem) :=
  (House_hasSound m 6 p0).bind fun r1 =>
  if r1 = 0 then
    some ((-1), m)
  else
    (State_copyFrom m 118 33).bind fun r2 =>
    (State_hushOne r2 118 p0).bind fun r3 =>
    (O_keepDone r3.2 r3.1).bind fun r4 =>
    some (r4.1, r4.2)
abbrev rm_O_let : Room := { frames := 5, cells := 0, slots := 0, locals := 147 }
def O_let (m : xMem) (p0 : Int32) : Option (Int32 × xMem) :=
  (House_hasSound m 6 p0).bind fun r1 =>
  if r1 = 0 then
    some ((-1), m)
  else
    (State_copyFrom m 118 33).bind fun r2 =>
    (State_letOne r2 118 p0).bind fun r3 =>
    (O_keepDone r3.2 r3.1).bind fun r4 =>
    some (r4.1, r4.2)
abbrev rm_O_shout : Room := { frames := 5, cells := 0, slots := 0, locals := 147 }
def O_shout (m : xMem) (p0 : Int32) (p1 : Int32) (p2 : Int32) : Option (Int32 × xMem) :=
  (House_hasCell m 6 p0 p1).bind fun r1 =>
  if r1 = 0 then
    some ((-1), m)
  else
    if p2 < 1 then
      some ((-1), m)
    else
      if 30 < p2 then
        some ((-1), m)
      else
        (State_copyFrom m 118 33).bind fun r2 =>
        (State_shoutIn r2 118 p0 p1 p2).bind fun r3 =>
        (O_keepDone r3.2 r3.1).bind fun r4 =>
        some (r4.1, r4.2)
abbrev rm_O_hours : Room := { frames := 4, cells := 0, slots := 0, locals := 126 }
def O_hours_b48 (p0 : Int32) : Nat → Int32 → Int32 → xMem → Option (Int32 × xMem)
  | 0, _, _, _ => none
  | n + 1, v2, v3, m =>
    if v3 < v2 then
      (State_passHour m 118 6).bind fun r3 =>
      O_hours_b48 p0 n v2 (v3 + 1) r3
    else
      if 0 < v2 then
        (O_keepTrial m).bind fun r4 =>
        some (v2, r4)
      else
        some (v2, m)
def O_hours (m : xMem) (p0 : Int32) : Option (Int32 × xMem) :=
  if p0 < 1 then
    some ((-1), m)
  else
    if 60 < p0 then
      some ((-1), m)
    else
      nm (i_min p0 (400 - (m.1 33 0))) fun x1 =>
      (State_copyFrom m 118 33).bind fun r2 =>
      O_hours_b48 p0 1000 x1 0 r2
abbrev rm_O_drawn : Room := { frames := 5, cells := 0, slots := 0, locals := 129 }
def O_drawn (m : xMem) (p0 : Int32) (p1 : Int32) : Option (Int32 × xMem) :=
  if p0 < 1 then
    some ((-1), m)
  else
    if 60 < p0 then
      some ((-1), m)
    else
      nm (i_min p0 (400 - (m.1 33 0))) fun x1 =>
      (State_copyFrom m 118 33).bind fun r2 =>
      (State_passDrawn r2 118 6 x1 p1).bind fun r3 =>
      if 0 < x1 then
        (O_keepTrial r3).bind fun r4 =>
        some (x1, r4)
      else
        some (x1, r3)
abbrev rm_O_undo : Room := { frames := 3, cells := 0, slots := 0, locals := 106 }
def O_undo (m : xMem) : Option (Int32 × xMem) :=
  (Undo_takeBack m 33).bind fun r1 =>
  some (r1.1, r1.2)
abbrev rm_O_hears : Room := { frames := 4, cells := 0, slots := 0, locals := 98 }
def O_hears (m : xMem) (p0 : Int32) : Option (Int32) :=
  (House_hasOwl m 6 p0).bind fun r1 =>
  if r1 = 0 then
    some ((-1))
  else
    (ix p0 6).bind fun j2 =>
    (State_heardNow m 33 6 p0 (m.1 35 j2)).bind fun r3 =>
    some r3
abbrev rm_O_would : Room := { frames := 4, cells := 0, slots := 0, locals := 99 }
def O_would (m : xMem) (p0 : Int32) (p1 : Int32) : Option (Int32) :=
  (House_hasOwl m 6 p0).bind fun r1 =>
  if r1 = 0 then
    some ((-1))
  else
    (House_hasBed m 6 p1).bind fun r2 =>
    if r2 = 0 then
      some ((-1))
    else
      (State_lookOf m 33 6 p0 p1 0).bind fun r3 =>
      (State_sideFrom m 33 6 p1 r3).bind fun r4 =>
      some r4
abbrev rm_O_when : Room := { frames := 4, cells := 0, slots := 0, locals := 99 }
def O_when_b64 (m : xMem) (p0 : Int32) (p1 : Int32) : Nat → Int32 → Int32 → Int32 → Option (Int32)
  | 0, _, _, _ => none
  | n + 1, v5, v6, v7 =>
    if v6 < v7 then
      some ((-1))
    else
      (State_lookOf m 33 6 p0 v5 v7).bind fun r5 =>
      (State_sideFrom m 33 6 v5 r5).bind fun r6 =>
      if r6 = p1 then
        some v7
      else
        O_when_b64 m p0 p1 n v5 v6 (v7 + 1)
def O_when (m : xMem) (p0 : Int32) (p1 : Int32) : Option (Int32) :=
  (House_hasOwl m 6 p0).bind fun r1 =>
  if r1 = 0 then
    some ((-1))
  else
    if p1 < 0 then
      some ((-1))
    else
      if 4 < p1 then
        some ((-1))
      else
        (ix p0 6).bind fun j2 =>
        nm (m.1 35 j2) fun x3 =>
        nm (i_min 48 (400 - (m.1 33 0))) fun x4 =>
        O_when_b64 m p0 p1 1000 x3 x4 0
abbrev rm_O_worth : Room := { frames := 4, cells := 0, slots := 0, locals := 99 }
def O_worth_b78 (m : xMem) (p0 : Int32) (p1 : Int32) : Nat → Int32 → Int32 → Int32 → Int32 → Option (Int32)
  | 0, _, _, _, _ => none
  | n + 1, v5, v6, v7, v8 =>
    if v8 < v6 then
      (State_lookOf m 33 6 v5 p0 v8).bind fun r4 =>
      if r4 = ((-1)) then
        O_worth_b78 m p0 p1 n v5 v6 v7 (v8 + 1)
      else
        (State_rowOf m 33 6 r4).bind fun r5 =>
        (House_loudAt m 6 p0 r5).bind fun r6 =>
        if r6 < 5 then
          O_worth_b78 m p0 p1 n v5 v6 v7 (v8 + 1)
        else
          O_worth_b78 m p0 p1 n v5 v6 (v7 + 1) (v8 + 1)
    else
      some v7
def O_worth_b36 (m : xMem) (p0 : Int32) (p1 : Int32) (s0 : Int32) : Option (Int32) :=
  if s0 = ((-1)) then
    some ((-1))
  else
    if p1 < 1 then
      some ((-1))
    else
      if 60 < p1 then
        some ((-1))
      else
        nm (i_min p1 (400 - (m.1 33 0))) fun x3 =>
        O_worth_b78 m p0 p1 1000 s0 x3 0 0
def O_worth (m : xMem) (p0 : Int32) (p1 : Int32) : Option (Int32) :=
  (House_hasBed m 6 p0).bind fun r1 =>
  if r1 = 0 then
    O_worth_b36 m p0 p1 ((-1))
  else
    (State_owlAt m 33 6 p0).bind fun r2 =>
    O_worth_b36 m p0 p1 r2
abbrev rm_O_spots : Room := { frames := 5, cells := 0, slots := 0, locals := 127 }
def O_spots (m : xMem) : Option (Int32 × xMem) :=
  (Spots_find m 1 6 33).bind fun r1 =>
  nm (upI r1.2 1 1 0) fun m2 =>
  some (r1.1, m2)
abbrev rm_O_spotAt : Room := { frames := 0, cells := 0, slots := 0, locals := 0 }
def O_spotAt (m : xMem) (p0 : Int32) : Option (Int32) :=
  if p0 < 0 then
    some ((-1))
  else
    if p0 < (m.1 165 4) then
      (ix p0 81).bind fun j1 =>
      some (m.1 166 j1)
    else
      some ((-1))
abbrev rm_O_next : Room := { frames := 0, cells := 0, slots := 0, locals := 0 }
def O_next (m : xMem) : Option (Int32) :=
  some (m.1 165 5)
abbrev rm_O_keen : Room := { frames := 1, cells := 0, slots := 0, locals := 24 }
def O_keen_b43 : Nat → Int32 → Int32 → Int32 → Int32 → xMem → Option (Int32 × xMem)
  | 0, _, _, _, _, _ => none
  | n + 1, v1, v2, v3, v4, m =>
    if (v4 + 2) < v1 then
      (Tape_at m 1 v4).bind fun r3 =>
      (Tape_at m 1 (v4 + 1)).bind fun r4 =>
      nm (r3 - r4) fun x5 =>
      (Tape_at m 1 (v4 + 2)).bind fun r6 =>
      if 1 < r6 then
        some ((-1), m)
      else
        if r6 = 1 then
          nm (i_min v3 x5) fun x7 =>
          O_keen_b43 n v1 v2 x7 (v4 + 3) m
        else
          nm (i_max v2 (x5 + 1)) fun x8 =>
          O_keen_b43 n v1 x8 v3 (v4 + 3) m
    else
      if v3 < v2 then
        some (0, m)
      else
        nm (upI m 0 15 v2) fun m9 =>
        nm (upI m9 0 16 v3) fun m10 =>
        some ((v3 - v2) + 1, m10)
def O_keen (m : xMem) : Option (Int32 × xMem) :=
  nm (m.1 1 1) fun x1 =>
  nm (upI m 1 1 0) fun m2 =>
  if x1 < 3 then
    some ((-1), m2)
  else
    if 18 < x1 then
      some ((-1), m2)
    else
      if (i_rem x1 3) = 0 then
        O_keen_b43 1000 x1 1 20 0 m2
      else
        some ((-1), m2)
abbrev rm_O_keenLeast : Room := { frames := 0, cells := 0, slots := 0, locals := 0 }
def O_keenLeast (m : xMem) : Option (Int32) :=
  some (m.1 0 15)
abbrev rm_O_keenMost : Room := { frames := 0, cells := 0, slots := 0, locals := 0 }
def O_keenMost (m : xMem) : Option (Int32) :=
  some (m.1 0 16)
abbrev rm_O_best : Room := { frames := 13, cells := 0, slots := 0, locals := 469 }
def O_best (m : xMem) : Option (Int32 × xMem) :=
  (Best_find m 6 33).bind fun r1 =>
  some (r1.1, r1.2)
abbrev rm_O_bestAt : Room := { frames := 0, cells := 0, slots := 0, locals := 0 }
def O_bestAt (m : xMem) (p0 : Int32) : Option (Int32) :=
  if p0 < 0 then
    some ((-1))
  else
    if p0 < (m.1 170 3) then
      (ix p0 6).bind fun j1 =>
      some (m.1 179 j1)
    else
      some ((-1))
abbrev rm_O_soundOnSide : Room := { frames := 2, cells := 0, slots := 0, locals := 49 }
def O_soundOnSide_b25 (m : xMem) (p0 : Int32) (p1 : Int32) : Nat → Int32 → Int32 → Option (Int32)
  | 0, _, _ => none
  | n + 1, v4, v5 =>
    if v5 < (m.1 6 8) then
      (ix v5 8).bind fun j3 =>
      (House_heardSide m 6 p0 v4 (25 + j3)).bind fun r4 =>
      if r4 = p1 then
        some v5
      else
        O_soundOnSide_b25 m p0 p1 n v4 (v5 + 1)
    else
      some ((-1))
def O_soundOnSide (m : xMem) (p0 : Int32) (p1 : Int32) : Option (Int32) :=
  (ix p0 6).bind fun j1 =>
  nm (m.1 35 j1) fun x2 =>
  O_soundOnSide_b25 m p0 p1 1000 x2 0
abbrev rm_O_code : Room := { frames := 3, cells := 0, slots := 0, locals := 74 }
def O_code_b75 (p0 : Int32) : Nat → Int32 → Int32 → xMem → Option (Int32 × xMem)
  | 0, _, _, _ => none
  | n + 1, v2, v3, m =>
    if v3 < v2 then
      (Tape_at m 1 v3).bind fun r5 =>
      (O_soundOnSide m p0 r5).bind fun r6 =>
      (ix v3 8).bind fun j8 => nm (upI m 183 j8 r6) fun m7 =>
      (ix v3 8).bind fun j9 =>
      if (m7.1 183 j9) = ((-1)) then
        some (((-2)) - v3, m7)
      else
        O_code_b75 p0 n v2 (v3 + 1) m7
    else
      (ixc v2 (min 8 8)).bind fun j11 => nm (upR m 182 (xcpy (m.1 183) (m.1 182) j11)) fun m10 =>
      nm (upI m10 0 14 v2) fun m12 =>
      some (v2, m12)
def O_code_b48 (p0 : Int32) : Nat → Int32 → Int32 → xMem → Option (Int32 × xMem)
  | 0, _, _, _ => none
  | n + 1, v2, v3, m =>
    if v3 < v2 then
      (Tape_at m 1 v3).bind fun r4 =>
      if 4 < r4 then
        some ((-1), m)
      else
        O_code_b48 p0 n v2 (v3 + 1) m
    else
      O_code_b75 p0 1000 v2 0 m
def O_code (m : xMem) (p0 : Int32) : Option (Int32 × xMem) :=
  nm (m.1 1 1) fun x1 =>
  nm (upI m 1 1 0) fun m2 =>
  (House_hasOwl m2 6 p0).bind fun r3 =>
  if r3 = 0 then
    some ((-1), m2)
  else
    if x1 < 1 then
      some ((-1), m2)
    else
      if 8 < x1 then
        some ((-1), m2)
      else
        O_code_b48 p0 1000 x1 0 m2
abbrev rm_O_codeAt : Room := { frames := 0, cells := 0, slots := 0, locals := 0 }
def O_codeAt (m : xMem) (p0 : Int32) : Option (Int32) :=
  if p0 < 0 then
    some ((-1))
  else
    if p0 < (m.1 0 14) then
      (ix p0 8).bind fun j1 =>
      some (m.1 182 j1)
    else
      some ((-1))
def rmx_O_endsOn (d : Nat) : Room := { frames := 6 + 1 * d + 0, cells := 0, slots := 0, locals := 120 + 40 * d + 0 }
def O_endsOn_b144 (fr : xMem → Nat → Int32 → Int32 → Int32 → Int32 → Int32 → Int32 → Option (Int32)) (m : xMem) (p0 : Nat) (p1 : Int32) (p2 : Int32) (p3 : Int32) (p4 : Int32) (p5 : Int32) (p6 : Int32) (k89 : Int32 → Option (Int32)) (v8 : Int32) (s0 : Int32) (s1 : Int32) (s2 : Int32) : Option (Int32) :=
  (fr m p0 p1 p2 (p3 - 1) s2 s1 s0).bind fun r7 =>
  if r7 = p6 then
    (rz p6).bind fun w => some w
  else
    k89 (v8 + 1)
def O_endsOn_b89 (fr : xMem → Nat → Int32 → Int32 → Int32 → Int32 → Int32 → Int32 → Option (Int32)) (m : xMem) (p0 : Nat) (p1 : Int32) (p2 : Int32) (p3 : Int32) (p4 : Int32) (p5 : Int32) (p6 : Int32) : Nat → Int32 → Option (Int32)
  | 0, _ => none
  | n + 1, v8 =>
    if v8 < (m.1 (p0 + 1) 8) then
      nm ((i_shl 1 v8) ^^^ ((-1))) fun x6 =>
      if ((i_shr p5 v8) &&& 1) = 1 then
        if p6 = 0 then
          O_endsOn_b144 fr m p0 p1 p2 p3 p4 p5 p6 (O_endsOn_b89 fr m p0 p1 p2 p3 p4 p5 p6 n) v8 1 (p5 &&& x6) (p4 &&& x6)
        else
          O_endsOn_b144 fr m p0 p1 p2 p3 p4 p5 p6 (O_endsOn_b89 fr m p0 p1 p2 p3 p4 p5 p6 n) v8 0 (p5 &&& x6) (p4 &&& x6)
      else
        O_endsOn_b89 fr m p0 p1 p2 p3 p4 p5 p6 n (v8 + 1)
    else
      if p6 = 0 then
        some 1
      else
        some 0
def O_endsOn_b75 (fr : xMem → Nat → Int32 → Int32 → Int32 → Int32 → Int32 → Int32 → Option (Int32)) (m : xMem) (p0 : Nat) (p1 : Int32) (p2 : Int32) (p3 : Int32) (p4 : Int32) (p5 : Int32) (p6 : Int32) (s0 : Int32) : Option (Int32) :=
  (fr m p0 p1 p2 (p3 - 1) p4 p5 s0).bind fun r5 =>
  if r5 = p6 then
    (rz p6).bind fun w => some w
  else
    O_endsOn_b89 fr m p0 p1 p2 p3 p4 p5 p6 1000 0
def O_endsOn_body (fr : xMem → Nat → Int32 → Int32 → Int32 → Int32 → Int32 → Int32 → Option (Int32)) (m : xMem) (p0 : Nat) (p1 : Int32) (p2 : Int32) (p3 : Int32) (p4 : Int32) (p5 : Int32) (p6 : Int32) : Option (Int32) :=
  if 0 < p3 then
    if p6 = 0 then
      O_endsOn_b75 fr m p0 p1 p2 p3 p4 p5 p6 1
    else
      O_endsOn_b75 fr m p0 p1 p2 p3 p4 p5 p6 0
  else
    (ix p1 6).bind fun j1 =>
    nm (m.1 (p0 + 30) j1) fun x2 =>
    (State_loudest m (p0 + 28) (p0 + 1) x2 p4).bind fun r3 =>
    (State_sideFrom m (p0 + 28) (p0 + 1) x2 r3).bind fun r4 =>
    if r4 = p2 then
      some 1
    else
      some 0
def O_endsOn : Nat → xMem → Nat → Int32 → Int32 → Int32 → Int32 → Int32 → Int32 → Option (Int32)
  | 0, _, _, _, _, _, _, _, _ => none
  | d + 1, m, p0, p1, p2, p3, p4, p5, p6 => O_endsOn_body (O_endsOn d) m p0 p1 p2 p3 p4 p5 p6
abbrev rm_O_duel : Room := { frames := 13, cells := 0, slots := 0, locals := 389 }
def O_duel_b114 (p0 : Int32) (p1 : Int32) (p2 : Int32) : Nat → Int32 → Int32 → Int32 → xMem → Option (Int32 × xMem)
  | 0, _, _, _, _ => none
  | n + 1, v6, v7, v8, m =>
    if v8 < (m.1 6 8) then
      nm ((i_shl 1 v8) ^^^ ((-1))) fun x7 =>
      if ((i_shr v7 v8) &&& 1) = 1 then
        (O_endsOn 6 m 5 p0 p1 (p2 - 1) (v6 &&& x7) (v7 &&& x7) 0).bind fun r8 =>
        if r8 = 0 then
          O_duel_b114 p0 p1 p2 n v6 v7 (v8 + 1) m
        else
          nm (upI m 0 17 v8) fun m9 =>
          some (1, m9)
      else
        O_duel_b114 p0 p1 p2 n v6 v7 (v8 + 1) m
    else
      some (0, m)
def O_duel (m : xMem) (p0 : Int32) (p1 : Int32) (p2 : Int32) : Option (Int32 × xMem) :=
  (House_hasOwl m 6 p0).bind fun r1 =>
  if r1 = 0 then
    some ((-1), m)
  else
    if p1 < 0 then
      some ((-1), m)
    else
      if 4 < p1 then
        some ((-1), m)
      else
        if p2 < 1 then
          some ((-1), m)
        else
          if 4 < p2 then
            some ((-1), m)
          else
            nm (upI m 0 17 ((-1))) fun m2 =>
            (ix p0 6).bind fun j3 =>
            (State_heardNow m2 33 6 p0 (m2.1 35 j3)).bind fun r4 =>
            nm (((i_shl 1 (m2.1 6 8)) - 1) &&& ((m2.1 33 1) ^^^ ((-1)))) fun x5 =>
            (O_endsOn 6 m2 5 p0 p1 (p2 - 1) r4 x5 0).bind fun r6 =>
            if r6 = 0 then
              O_duel_b114 p0 p1 p2 1000 r4 x5 0 m2
            else
              some (1, m2)
abbrev rm_O_duelAt : Room := { frames := 0, cells := 0, slots := 0, locals := 0 }
def O_duelAt (m : xMem) : Option (Int32) :=
  some (m.1 0 17)
abbrev rm_O_odds : Room := { frames := 5, cells := 0, slots := 0, locals := 129 }
def O_odds_b54 (p0 : Int32) (p1 : Int32) (p2 : Int32) : Nat → Int32 → Int32 → Int32 → xMem → Option (Int32 × xMem)
  | 0, _, _, _, _ => none
  | n + 1, v4, v5, v6, m =>
    if v6 < p1 then
      (State_copyFrom m 118 33).bind fun r3 =>
      (State_passDrawn r3 118 6 v4 (p2 + v6)).bind fun r4 =>
      (ix p0 6).bind fun j5 =>
      (ix p0 6).bind fun j6 =>
      if (r4.1 122 j5) = (r4.1 37 j6) then
        O_odds_b54 p0 p1 p2 n v4 (v5 + 1) (v6 + 1) r4
      else
        O_odds_b54 p0 p1 p2 n v4 v5 (v6 + 1) r4
    else
      some (v5, m)
def O_odds (m : xMem) (p0 : Int32) (p1 : Int32) (p2 : Int32) : Option (Int32 × xMem) :=
  (House_hasBed m 6 p0).bind fun r1 =>
  if r1 = 0 then
    some ((-1), m)
  else
    if p1 < 1 then
      some ((-1), m)
    else
      if 30 < p1 then
        some ((-1), m)
      else
        nm (i_min 12 (400 - (m.1 33 0))) fun x2 =>
        O_odds_b54 p0 p1 p2 1000 x2 0 0 m
abbrev rm_O_byteAt : Room := { frames := 1, cells := 0, slots := 0, locals := 21 }
def O_byteAt (m : xMem) (p0 : Int32) : Option (Int32) :=
  if p0 < 0 then
    some ((-1))
  else
    if p0 < (m.1 180 1) then
      (Tape_at m 180 p0).bind fun r1 =>
      some r1
    else
      some ((-1))
abbrev rm_O_book : Room := { frames := 6, cells := 0, slots := 0, locals := 148 }
def O_book_b115 (p0 : Int32) (m : xMem) : Option (Int32 × xMem) :=
  if (m.1 76 3) = 0 then
    some ((-1), m)
  else
    some (m.1 76 4, m)
def O_book_b13 (p0 : Int32) (m : xMem) : Option (Int32 × xMem) :=
  (Tokens_start m 400).bind fun r1 =>
  (Book_readAll r1 6).bind fun r2 =>
  (O_endText r2.2).bind fun r3 =>
  if (r3.1 0 18) = 0 then
    (State_copyFrom r3 118 33).bind fun r4 =>
    (Book_live r4 6 118).bind fun r5 =>
    if p0 = 1 then
      if 0 < (r5.1 76 4) then
        (O_keepTrial r5).bind fun r6 =>
        O_book_b115 p0 r6
      else
        O_book_b115 p0 r5
    else
      O_book_b115 p0 r5
  else
    some (((-2)) - (r3.1 3 11), r3)
def O_book (m : xMem) (p0 : Int32) : Option (Int32 × xMem) :=
  if p0 = 0 then
    O_book_b13 p0 m
  else
    if p0 = 1 then
      O_book_b13 p0 m
    else
      some ((-1000), m)
abbrev rm_O_told : Room := { frames := 0, cells := 0, slots := 0, locals := 0 }
def O_told (m : xMem) (p0 : Int32) : Option (Int32) :=
  if (m.1 76 2) = 0 then
    some ((-1))
  else
    if p0 = 0 then
      some (m.1 76 3)
    else
    if p0 = 1 then
      some (m.1 76 4)
    else
    if p0 = 2 then
      some (m.1 76 5)
    else
    if p0 = 3 then
      some (m.1 76 6)
    else
      some ((-1))
abbrev rm_O_sentence : Room := { frames := 48, cells := 0, slots := 0, locals := 1826 }
def O_sentence (m : xMem) : Option (Int32 × xMem) :=
  (Tokens_start m 200).bind fun r1 =>
  (Sentence_readAll r1 71 6).bind fun r2 =>
  (O_endText r2.2).bind fun r3 =>
  if (r3.1 0 18) = 0 then
    (Sentence_copyFrom r3 38 71).bind fun r4 =>
    some (r4.1 71 1, r4)
  else
    some (((-1)) - (r3.1 3 11), r3)
abbrev rm_O_said : Room := { frames := 5, cells := 0, slots := 0, locals := 127 }
def O_said_b33 (p0 : Int32) : Nat → Int32 → Int32 → xMem → Option (Int32 × xMem)
  | 0, _, _, _ => none
  | n + 1, v3, v4, m =>
    if v4 < (m.1 6 6) then
      (Sentence_holds m 38 6 33 v4).bind fun r1 =>
      if r1.1 = 0 then
        O_said_b33 p0 n v3 (v4 + 1) r1.2
      else
        if v3 = p0 then
          some (v4, r1.2)
        else
          O_said_b33 p0 n (v3 + 1) (v4 + 1) r1.2
    else
      if p0 = ((-1)) then
        some (v3, m)
      else
        some ((-1), m)
def O_said (m : xMem) (p0 : Int32) : Option (Int32 × xMem) :=
  if (m.1 38 0) = 0 then
    some ((-1), m)
  else
    if p0 < ((-1)) then
      some ((-1), m)
    else
      O_said_b33 p0 1000 0 0 m
abbrev rm_O_image : Room := { frames := 4, cells := 0, slots := 0, locals := 128 }
def O_image (m : xMem) (p0 : Int32) : Option (Int32 × xMem) :=
  if p0 < 0 then
    some (0, m)
  else
    if p0 < 2 then
      (ix p0 2).bind fun j1 =>
      (Image_copyFrom m (184 + 38 * j1) 5).bind fun r2 =>
      some (1, r2)
    else
      some (0, m)
abbrev rm_O_restore : Room := { frames := 4, cells := 0, slots := 0, locals := 128 }
def O_restore (m : xMem) (p0 : Int32) : Option (Int32 × xMem) :=
  if p0 < 0 then
    some (0, m)
  else
    if p0 < 2 then
      (ix p0 2).bind fun j1 =>
      if (m.1 (184 + 38 * j1) 0) = 0 then
        some (0, m)
      else
        (ix p0 2).bind fun j2 =>
        (Image_copyFrom m 5 (184 + 38 * j2)).bind fun r3 =>
        (Undo_forget r3).bind fun r4 =>
        some (1, r4)
    else
      some (0, m)
