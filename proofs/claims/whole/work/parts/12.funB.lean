abbrev rm_Best_countHour : Room := { frames := 3, cells := 0, slots := 0, locals := 75 }
def Best_countHour_b32 (p0 : Nat) (p1 : Nat) (p2 : Int32) (k20 : Int32 → Int32 → xMem → Option (xMem)) : Nat → Int32 → Int32 → Int32 → xMem → Option (xMem)
  | 0, _, _, _, _ => none
  | n + 1, v4, v5, v6, m =>
    if v6 < (m.1 p0 6) then
      (State_heardBits m p1 p0 v5 v6 v4).bind fun r3 =>
      (State_loudest m p1 p0 v6 r3).bind fun r4 =>
      if r4 = ((-1)) then
        Best_countHour_b32 p0 p1 p2 k20 n v4 v5 (v6 + 1) m
      else
        (ix r4 8).bind fun j5 =>
        (ix v6 6).bind fun j6 =>
        if (m.1 (p0 + 19 + j5) 0) = (m.1 (p0 + 5 + j6) 2) then
          (ix v5 6).bind fun j7 =>
          (ix v6 6).bind fun j8 =>
          (ix v6 6).bind fun j10 => nm (upI m (172 + j7) j10 ((m.1 (172 + j7) j8) + 1)) fun m9 =>
          Best_countHour_b32 p0 p1 p2 k20 n v4 v5 (v6 + 1) m9
        else
          Best_countHour_b32 p0 p1 p2 k20 n v4 v5 (v6 + 1) m
    else
      k20 v4 (v5 + 1) m
def Best_countHour_b20 (p0 : Nat) (p1 : Nat) (p2 : Int32) : Nat → Int32 → Int32 → xMem → Option (xMem)
  | 0, _, _, _ => none
  | n + 1, v4, v5, m =>
    if v5 < (m.1 p0 7) then
      Best_countHour_b32 p0 p1 p2 (Best_countHour_b20 p0 p1 p2 n) 1000 v4 v5 0 m
    else
      some m
def Best_countHour (m : xMem) (p0 : Nat) (p1 : Nat) (p2 : Int32) : Option (xMem) :=
  (State_onBits m p1 p0 p2).bind fun r1 =>
  nm (r1 &&& ((i_shl 1 (m.1 p0 8)) - 1)) fun x2 =>
  Best_countHour_b20 p0 p1 p2 1000 x2 0 m
def rmx_Best_choose (d : Nat) : Room := { frames := 3 + 1 * d + 0, cells := 0, slots := 0, locals := 100 + 40 * d + 0 }
def Best_choose_b14 (fr : xMem → Nat → Int32 → Int32 → Int32 → Option (xMem)) (p1 : Nat) (p2 : Int32) (p3 : Int32) (p4 : Int32) (m : xMem) : Option (xMem) :=
  if (m.1 170 4) < p4 then
    nm (upI m 170 4 p4) fun m6 =>
    nm (upR m6 179 (xcpy (m6.1 178) (m6.1 179) 6)) fun m7 =>
    some m7
  else
    some m
def Best_choose_b48 (fr : xMem → Nat → Int32 → Int32 → Int32 → Option (xMem)) (p1 : Nat) (p2 : Int32) (p3 : Int32) (p4 : Int32) : Nat → Int32 → xMem → Option (xMem)
  | 0, _, _ => none
  | n + 1, v5, m =>
    if v5 < (m.1 p1 6) then
      if ((i_shr p3 v5) &&& 1) = 0 then
        (ix p2 6).bind fun j2 => nm (upI m 178 j2 v5) fun m1 =>
        (ix p2 6).bind fun j3 =>
        (ix v5 6).bind fun j4 =>
        (fr m1 p1 (p2 + 1) (p3 ||| (i_shl 1 v5)) (p4 + (m1.1 (172 + j3) j4))).bind fun r5 =>
        Best_choose_b48 fr p1 p2 p3 p4 n (v5 + 1) r5
      else
        Best_choose_b48 fr p1 p2 p3 p4 n (v5 + 1) m
    else
      some m
def Best_choose_body (fr : xMem → Nat → Int32 → Int32 → Int32 → Option (xMem)) (m : xMem) (p1 : Nat) (p2 : Int32) (p3 : Int32) (p4 : Int32) : Option (xMem) :=
  if p2 < (m.1 p1 7) then
    if p2 < 6 then
      Best_choose_b48 fr p1 p2 p3 p4 1000 0 m
    else
      Best_choose_b14 fr p1 p2 p3 p4 m
  else
    Best_choose_b14 fr p1 p2 p3 p4 m
def Best_choose : Nat → xMem → Nat → Int32 → Int32 → Int32 → Option (xMem)
  | 0, _, _, _, _, _ => none
  | d + 1, m, p1, p2, p3, p4 => Best_choose_body (Best_choose d) m p1 p2 p3 p4
abbrev rm_Best_find : Room := { frames := 12, cells := 0, slots := 0, locals := 445 }
def Best_find_b13 (p0 : Nat) (p1 : Nat) (k2 : Int32 → xMem → Option (Int32 × xMem)) : Nat → Int32 → Int32 → xMem → Option (Int32 × xMem)
  | 0, _, _, _ => none
  | n + 1, v3, v4, m =>
    if v4 < (m.1 p0 6) then
      (ix v3 6).bind fun j1 =>
      (ix v4 6).bind fun j3 => nm (upI m (172 + j1) j3 0) fun m2 =>
      Best_find_b13 p0 p1 k2 n v3 (v4 + 1) m2
    else
      k2 (v3 + 1) m
def Best_find_b46 (p0 : Nat) (p1 : Nat) : Nat → Int32 → xMem → Option (Int32 × xMem)
  | 0, _, _ => none
  | n + 1, v3, m =>
    if v3 < 24 then
      (House_shutAt m p0 ((m.1 p1 0) + v3)).bind fun r4 =>
      if r4 = 0 then
        (Best_countHour m p0 p1 v3).bind fun r5 =>
        Best_find_b46 p0 p1 n (v3 + 1) r5
      else
        Best_find_b46 p0 p1 n (v3 + 1) m
    else
      nm (upI m 170 3 (m.1 p0 7)) fun m6 =>
      nm (upI m6 170 4 ((-1))) fun m7 =>
      (Best_choose 8 m7 p0 0 0 0).bind fun r8 =>
      some (r8.1 170 4, r8)
def Best_find_b2 (p0 : Nat) (p1 : Nat) : Nat → Int32 → xMem → Option (Int32 × xMem)
  | 0, _, _ => none
  | n + 1, v3, m =>
    if v3 < (m.1 p0 7) then
      Best_find_b13 p0 p1 (Best_find_b2 p0 p1 n) 1000 v3 0 m
    else
      Best_find_b46 p0 p1 1000 0 m
def Best_find (m : xMem) (p0 : Nat) (p1 : Nat) : Option (Int32 × xMem) :=
  Best_find_b2 p0 p1 1000 0 m
abbrev rm_Book_readLine : Room := { frames := 4, cells := 0, slots := 0, locals := 91 }
def Book_readLine_b88 (p1 : Nat) (p2 : Nat) (s0 : Int32) (s1 : Int32) (m : xMem) : Option (Int32 × xMem) :=
  (ix s1 4).bind fun j19 => nm (upI m p2 j19 s0) fun m18 =>
  if (m18.1 p2 2) = ((-1)) then
    some (0, m18)
  else
    some (1, m18)
def Book_readLine_b153 (p1 : Nat) (p2 : Nat) (s0 : Int32) (s1 : Int32) (m : xMem) : Option (Int32 × xMem) :=
  (ix s1 4).bind fun j24 => nm (upI m p2 j24 s0) fun m23 =>
  if (m23.1 p2 3) = ((-1)) then
    some (0, m23)
  else
    some (1, m23)
def Book_readLine_b132 (p1 : Nat) (p2 : Nat) (s0 : Int32) (s1 : Int32) (m : xMem) : Option (Int32 × xMem) :=
  (ix s1 4).bind fun j21 => nm (upI m p2 j21 s0) fun m20 =>
  if (m20.1 p2 2) = ((-1)) then
    Book_readLine_b153 p1 p2 ((-1)) 3 m20
  else
    (Tokens_takeNumber m20 1 30).bind fun r22 =>
    Book_readLine_b153 p1 p2 r22.1 3 r22.2
def Book_readLine (m : xMem) (p1 : Nat) (p2 : Nat) : Option (Int32 × xMem) :=
  nm (upI m p2 0 (m.1 3 8)) fun m1 =>
  (Tokens_advance m1).bind fun r2 =>
  nm (r2.1 p2 0) fun x3 =>
  if x3 = 16 then
    (Tokens_takeKnown r2 (p1 + 2) 6 (r2.1 p1 7)).bind fun r4 =>
    nm (upI r4.2 p2 1 r4.1) fun m5 =>
    if (m5.1 p2 1) = ((-1)) then
      Book_readLine_b88 p1 p2 ((-1)) 2 m5
    else
      (Tokens_takeKnown m5 (p1 + 1) 6 (m5.1 p1 6)).bind fun r6 =>
      Book_readLine_b88 p1 p2 r6.1 2 r6.2
  else
  if x3 = 17 then
    (Tokens_takeKnown r2 (p1 + 3) 8 (r2.1 p1 8)).bind fun r7 =>
    nm (upI r7.2 p2 1 r7.1) fun m8 =>
    if (m8.1 p2 1) = ((-1)) then
      some (0, m8)
    else
      some (1, m8)
  else
  if x3 = 18 then
    (Tokens_takeKnown r2 (p1 + 3) 8 (r2.1 p1 8)).bind fun r9 =>
    nm (upI r9.2 p2 1 r9.1) fun m10 =>
    if (m10.1 p2 1) = ((-1)) then
      some (0, m10)
    else
      some (1, m10)
  else
  if x3 = 19 then
    (Tokens_takeNumber r2 0 8).bind fun r11 =>
    nm (upI r11.2 p2 1 r11.1) fun m12 =>
    if (m12.1 p2 1) = ((-1)) then
      Book_readLine_b132 p1 p2 ((-1)) 2 m12
    else
      (Tokens_takeNumber m12 0 8).bind fun r13 =>
      Book_readLine_b132 p1 p2 r13.1 2 r13.2
  else
  if x3 = 20 then
    (Tokens_takeNumber r2 1 60).bind fun r14 =>
    nm (upI r14.2 p2 1 r14.1) fun m15 =>
    if (m15.1 p2 1) = ((-1)) then
      some (0, m15)
    else
      some (1, m15)
  else
    (Tokens_takeKnown r2 (p1 + 3) 8 (r2.1 p1 8)).bind fun r16 =>
    nm (upI r16.2 p2 1 r16.1) fun m17 =>
    if (m17.1 p2 1) = ((-1)) then
      some (0, m17)
    else
      some (1, m17)
abbrev rm_Book_readAll : Room := { frames := 5, cells := 0, slots := 0, locals := 113 }
def Book_readAll_b40 (p1 : Nat) (m : xMem) : Option (Int32 × xMem) :=
  (Tokens_fail m 1).bind fun r7 =>
  (rz r7.1).bind fun w => some (w, r7.2)
def Book_readAll_b7 (p1 : Nat) : Nat → Int32 → xMem → Option (Int32 × xMem)
  | 0, _, _ => none
  | n + 1, v3, m =>
    if 40 < v3 then
      some (0, m)
    else
      if (m.1 3 4) = 0 then
        some (1, m)
      else
        if (m.1 3 8) < 16 then
          Book_readAll_b40 p1 m
        else
          if 20 < (m.1 3 8) then
            Book_readAll_b40 p1 m
          else
            if v3 < 40 then
              (ix v3 40).bind fun j2 =>
              (Book_readLine m p1 (78 + j2)).bind fun r3 =>
              if r3.1 = 0 then
                some (0, r3.2)
              else
                (Tokens_skipSign r3.2 59).bind fun r4 =>
                if r4.1 = 0 then
                  some (0, r4.2)
                else
                  nm (upI r4.2 76 1 (v3 + 1)) fun m5 =>
                  Book_readAll_b7 p1 n (v3 + 1) m5
            else
              (Tokens_fail m 4).bind fun r6 =>
              (rz r6.1).bind fun w => some (w, r6.2)
def Book_readAll (m : xMem) (p1 : Nat) : Option (Int32 × xMem) :=
  nm (upI m 76 1 0) fun m1 =>
  Book_readAll_b7 p1 1000 0 m1
abbrev rm_Book_liveLine : Room := { frames := 4, cells := 0, slots := 0, locals := 102 }
def Book_liveLine_b136 (p0 : Nat) (p1 : Nat) (p2 : Nat) : Nat → Int32 → xMem → Option (Int32 × xMem)
  | 0, _, _ => none
  | n + 1, v3, m =>
    if v3 < (m.1 p2 1) then
      (State_passHour m p1 p0).bind fun r7 =>
      Book_liveLine_b136 p0 p1 p2 n (v3 + 1) r7
    else
      some (0, m)
def Book_liveLine (m : xMem) (p0 : Nat) (p1 : Nat) (p2 : Nat) : Option (Int32 × xMem) :=
  nm (m.1 p2 0) fun x1 =>
  if x1 = 16 then
    (State_lendTo m p1 p0 (m.1 p2 1) (m.1 p2 2)).bind fun r2 =>
    some (r2.1, r2.2)
  else
  if x1 = 17 then
    (State_hushOne m p1 (m.1 p2 1)).bind fun r3 =>
    if r3.1 = 0 then
      some (0, r3.2)
    else
      some (11, r3.2)
  else
  if x1 = 18 then
    (State_letOne m p1 (m.1 p2 1)).bind fun r4 =>
    if r4.1 = 0 then
      some (0, r4.2)
    else
      some (21, r4.2)
  else
  if x1 = 19 then
    (House_hasCell m p0 (m.1 p2 1) (m.1 p2 2)).bind fun r5 =>
    if r5 = 0 then
      some (39, m)
    else
      (State_shoutIn m p1 (m.1 p2 1) (m.1 p2 2) (m.1 p2 3)).bind fun r6 =>
      if r6.1 = 0 then
        some (0, r6.2)
      else
        some (31, r6.2)
  else
    if (400 - (m.1 p1 0)) < (m.1 p2 1) then
      some (41, m)
    else
      Book_liveLine_b136 p0 p1 p2 1000 0 m
abbrev rm_Book_live : Room := { frames := 5, cells := 0, slots := 0, locals := 125 }
def Book_live_b65 (p0 : Nat) (p1 : Nat) (m : xMem) : Option (xMem) :=
  nm (upI m 76 5 (m.1 p1 0)) fun m7 =>
  (State_lookingBits m7 p1 p0).bind fun r8 =>
  nm (upI m7 76 6 r8) fun m9 =>
  nm (upI m9 76 2 1) fun m10 =>
  some m10
def Book_live_b12 (p0 : Nat) (p1 : Nat) : Nat → Int32 → xMem → Option (xMem)
  | 0, _, _ => none
  | n + 1, v3, m =>
    if v3 < (m.1 76 1) then
      if (m.1 76 3) = 0 then
        (ix v3 40).bind fun j3 =>
        (Book_liveLine m p0 p1 (78 + j3)).bind fun r4 =>
        nm (upI r4.2 76 3 r4.1) fun m5 =>
        if (m5.1 76 3) = 0 then
          nm (upI m5 76 4 ((m5.1 76 4) + 1)) fun m6 =>
          Book_live_b12 p0 p1 n (v3 + 1) m6
        else
          Book_live_b12 p0 p1 n (v3 + 1) m5
      else
        Book_live_b65 p0 p1 m
    else
      Book_live_b65 p0 p1 m
def Book_live (m : xMem) (p0 : Nat) (p1 : Nat) : Option (xMem) :=
  nm (upI m 76 3 0) fun m1 =>
  nm (upI m1 76 4 0) fun m2 =>
  Book_live_b12 p0 p1 1000 0 m2
abbrev rm_HouseReader_readHouse : Room := { frames := 4, cells := 0, slots := 0, locals := 91 }
def HouseReader_readHouse_b21 (p1 : Nat) (m : xMem) : Option (Int32 × xMem) :=
  (Tokens_fail m 3).bind fun r4 =>
  (rz r4.1).bind fun w => some (w, r4.2)
def HouseReader_readHouse_b55 (p1 : Nat) (v2 : Int32) (s0 : Int32) (m : xMem) : Option (Int32 × xMem) :=
  if s0 = ((-1)) then
    some (0, m)
  else
    nm (upI m p1 0 v2) fun m5 =>
    nm (upI m5 p1 1 s0) fun m6 =>
    nm (upI m6 p1 4 1) fun m7 =>
    some (1, m7)
def HouseReader_readHouse (m : xMem) (p1 : Nat) : Option (Int32 × xMem) :=
  if (m.1 p1 4) = 0 then
    if 0 < (m.1 p1 6) then
      HouseReader_readHouse_b21 p1 m
    else
      if 0 < (m.1 p1 8) then
        HouseReader_readHouse_b21 p1 m
      else
        (Tokens_advance m).bind fun r1 =>
        (Tokens_takeNumber r1 2 9).bind fun r2 =>
        if r2.1 = ((-1)) then
          HouseReader_readHouse_b55 p1 r2.1 ((-1)) r2.2
        else
          (Tokens_takeNumber r2.2 2 9).bind fun r3 =>
          HouseReader_readHouse_b55 p1 r2.1 r3.1 r3.2
  else
    HouseReader_readHouse_b21 p1 m
abbrev rm_HouseReader_readBed : Room := { frames := 4, cells := 0, slots := 0, locals := 91 }
def HouseReader_readBed_b73 (p1 : Nat) (v2 : Int32) (v3 : Int64) (v5 : Int32) (s0 : Int32) (m : xMem) : Option (Int32 × xMem) :=
  if s0 = ((-1)) then
    some (0, m)
  else
    (House_hasBedIn m p1 v5 s0).bind fun r7 =>
    if r7 = 0 then
      (ix v2 6).bind fun j9 => nm (upL m (p1 + 1) j9 v3) fun m8 =>
      (ix v2 6).bind fun j10 =>
      nm (upI m8 (p1 + 5 + j10) 0 v5) fun m11 =>
      (ix v2 6).bind fun j12 =>
      nm (upI m11 (p1 + 5 + j12) 1 s0) fun m13 =>
      (ix v2 6).bind fun j14 =>
      nm (upI m13 (p1 + 5 + j14) 2 ((-1))) fun m15 =>
      nm (upI m15 p1 6 (v2 + 1)) fun m16 =>
      some (1, m16)
    else
      (Tokens_failBehind m 3).bind fun r17 =>
      (rz r17.1).bind fun w => some (w, r17.2)
def HouseReader_readBed_b50 (p1 : Nat) (v2 : Int32) (v3 : Int64) (s0 : Int32) (m : xMem) : Option (Int32 × xMem) :=
  if s0 = ((-1)) then
    HouseReader_readBed_b73 p1 v2 v3 s0 ((-1)) m
  else
    (Tokens_takeNumber m 0 ((m.1 p1 1) - 1)).bind fun r6 =>
    HouseReader_readBed_b73 p1 v2 v3 s0 r6.1 r6.2
def HouseReader_readBed (m : xMem) (p1 : Nat) : Option (Int32 × xMem) :=
  nm (m.1 p1 6) fun x1 =>
  if x1 < 6 then
    (Tokens_advance m).bind fun r2 =>
    (Tokens_takeNewName r2 p1).bind fun r3 =>
    if (lg_cmp r3.1 ((-1))) = 0 then
      HouseReader_readBed_b50 p1 x1 r3.1 ((-1)) r3.2
    else
      (Tokens_takeNumber r3.2 0 ((r3.2.1 p1 0) - 1)).bind fun r4 =>
      HouseReader_readBed_b50 p1 x1 r3.1 r4.1 r4.2
  else
    (Tokens_fail m 4).bind fun r5 =>
    (rz r5.1).bind fun w => some (w, r5.2)
abbrev rm_HouseReader_readOwl : Room := { frames := 4, cells := 0, slots := 0, locals := 91 }
def HouseReader_readOwl_b51 (p1 : Nat) (v2 : Int32) (v3 : Int64) (s0 : Int32) (m : xMem) : Option (Int32 × xMem) :=
  if s0 = ((-1)) then
    some (0, m)
  else
    (House_hasOwlBy m p1 s0).bind fun r6 =>
    if r6 = 0 then
      (Tokens_takeNumber m 1 20).bind fun r7 =>
      if r7.1 = ((-1)) then
        some (0, r7.2)
      else
        (ix v2 6).bind fun j9 => nm (upL r7.2 (p1 + 2) j9 v3) fun m8 =>
        (ix v2 6).bind fun j10 =>
        nm (upI m8 (p1 + 12 + j10) 0 s0) fun m11 =>
        (ix v2 6).bind fun j12 =>
        nm (upI m11 (p1 + 12 + j12) 1 r7.1) fun m13 =>
        (ix v2 6).bind fun j14 =>
        nm (upI m13 (p1 + 12 + j14) 2 ((-1))) fun m15 =>
        (ix v2 6).bind fun j16 =>
        nm (upI m15 (p1 + 12 + j16) 3 0) fun m17 =>
        nm (upI m17 p1 7 (v2 + 1)) fun m18 =>
        some (1, m18)
    else
      (Tokens_failBehind m 3).bind fun r19 =>
      (rz r19.1).bind fun w => some (w, r19.2)
def HouseReader_readOwl (m : xMem) (p1 : Nat) : Option (Int32 × xMem) :=
  nm (m.1 p1 7) fun x1 =>
  if x1 < 6 then
    (Tokens_advance m).bind fun r2 =>
    (Tokens_takeNewName r2 p1).bind fun r3 =>
    if (lg_cmp r3.1 ((-1))) = 0 then
      HouseReader_readOwl_b51 p1 x1 r3.1 ((-1)) r3.2
    else
      (Tokens_takeKnown r3.2 (p1 + 1) 6 (r3.2.1 p1 6)).bind fun r4 =>
      HouseReader_readOwl_b51 p1 x1 r3.1 r4.1 r4.2
  else
    (Tokens_fail m 4).bind fun r5 =>
    (rz r5.1).bind fun w => some (w, r5.2)
abbrev rm_HouseReader_readBad : Room := { frames := 4, cells := 0, slots := 0, locals := 91 }
def HouseReader_readBad (m : xMem) (p1 : Nat) : Option (Int32 × xMem) :=
  (Tokens_advance m).bind fun r1 =>
  (Tokens_takeKnown r1 (p1 + 2) 6 (r1.1 p1 7)).bind fun r2 =>
  if r2.1 = ((-1)) then
    some (0, r2.2)
  else
    (ix r2.1 6).bind fun j3 =>
    if (r2.2.1 (p1 + 12 + j3) 2) = ((-1)) then
      (ix r2.1 6).bind fun j4 =>
      (Tokens_takeWord r2.2 12 4).bind fun r5 =>
      nm (upI r5.2 (p1 + 12 + j4) 2 r5.1) fun m6 =>
      (ix r2.1 6).bind fun j7 =>
      if (m6.1 (p1 + 12 + j7) 2) = ((-1)) then
        some (0, m6)
      else
        some (1, m6)
    else
      (Tokens_failBehind r2.2 3).bind fun r8 =>
      (rz r8.1).bind fun w => some (w, r8.2)
abbrev rm_HouseReader_readDeaf : Room := { frames := 4, cells := 0, slots := 0, locals := 91 }
def HouseReader_readDeaf_b33 (p1 : Nat) (v2 : Int32) (s0 : Int32) (m : xMem) : Option (Int32 × xMem) :=
  if s0 = ((-1)) then
    some (0, m)
  else
    (ix v2 6).bind fun j4 =>
    if ((i_shr (m.1 (p1 + 12 + j4) 3) s0) &&& 1) = 1 then
      (Tokens_failBehind m 3).bind fun r5 =>
      (rz r5.1).bind fun w => some (w, r5.2)
    else
      (ix v2 6).bind fun j6 =>
      nm (upI m (p1 + 12 + j6) 3 ((m.1 (p1 + 12 + j6) 3) ||| (i_shl 1 s0))) fun m7 =>
      some (1, m7)
def HouseReader_readDeaf (m : xMem) (p1 : Nat) : Option (Int32 × xMem) :=
  (Tokens_advance m).bind fun r1 =>
  (Tokens_takeKnown r1 (p1 + 2) 6 (r1.1 p1 7)).bind fun r2 =>
  if r2.1 = ((-1)) then
    HouseReader_readDeaf_b33 p1 r2.1 ((-1)) r2.2
  else
    (Tokens_takeWord r2.2 8 4).bind fun r3 =>
    HouseReader_readDeaf_b33 p1 r2.1 r3.1 r3.2
abbrev rm_HouseReader_readSound : Room := { frames := 4, cells := 0, slots := 0, locals := 91 }
def HouseReader_readSound_b149 (p1 : Nat) (v2 : Int32) (v3 : Int64) (v5 : Int32) (v6 : Int32) (v7 : Int32) (v8 : Int32) (v9 : Int32) (s0 : Int32) (m : xMem) : Option (Int32 × xMem) :=
  if s0 = ((-1)) then
    some (0, m)
  else
    (ix v2 8).bind fun j12 => nm (upL m (p1 + 3) j12 v3) fun m11 =>
    (ix v2 8).bind fun j13 =>
    nm (upI m11 (p1 + 19 + j13) 0 v5) fun m14 =>
    (ix v2 8).bind fun j15 =>
    nm (upI m14 (p1 + 19 + j15) 1 v6) fun m16 =>
    (ix v2 8).bind fun j17 =>
    nm (upI m16 (p1 + 19 + j17) 2 v7) fun m18 =>
    (ix v2 8).bind fun j19 =>
    nm (upI m18 (p1 + 19 + j19) 3 v8) fun m20 =>
    (ix v2 8).bind fun j21 =>
    nm (upI m20 (p1 + 19 + j21) 4 v9) fun m22 =>
    (ix v2 8).bind fun j23 =>
    nm (upI m22 (p1 + 19 + j23) 5 s0) fun m24 =>
    nm (upI m24 p1 8 (v2 + 1)) fun m25 =>
    some (1, m25)
def HouseReader_readSound_b130 (p1 : Nat) (v2 : Int32) (v3 : Int64) (v5 : Int32) (v6 : Int32) (v7 : Int32) (v8 : Int32) (s0 : Int32) (m : xMem) : Option (Int32 × xMem) :=
  if s0 = ((-1)) then
    HouseReader_readSound_b149 p1 v2 v3 v5 v6 v7 v8 s0 ((-1)) m
  else
    (Tokens_takeNumber m 0 23).bind fun r10 =>
    HouseReader_readSound_b149 p1 v2 v3 v5 v6 v7 v8 s0 r10.1 r10.2
def HouseReader_readSound_b111 (p1 : Nat) (v2 : Int32) (v3 : Int64) (v5 : Int32) (v6 : Int32) (v7 : Int32) (s0 : Int32) (m : xMem) : Option (Int32 × xMem) :=
  if s0 = ((-1)) then
    HouseReader_readSound_b130 p1 v2 v3 v5 v6 v7 s0 ((-1)) m
  else
    (Tokens_takeNumber m 0 23).bind fun r9 =>
    HouseReader_readSound_b130 p1 v2 v3 v5 v6 v7 s0 r9.1 r9.2
def HouseReader_readSound_b92 (p1 : Nat) (v2 : Int32) (v3 : Int64) (v5 : Int32) (v6 : Int32) (s0 : Int32) (m : xMem) : Option (Int32 × xMem) :=
  if s0 = ((-1)) then
    HouseReader_readSound_b111 p1 v2 v3 v5 v6 s0 ((-1)) m
  else
    (Tokens_takeNumber m 1 30).bind fun r8 =>
    HouseReader_readSound_b111 p1 v2 v3 v5 v6 s0 r8.1 r8.2
def HouseReader_readSound_b69 (p1 : Nat) (v2 : Int32) (v3 : Int64) (v5 : Int32) (s0 : Int32) (m : xMem) : Option (Int32 × xMem) :=
  if s0 = ((-1)) then
    HouseReader_readSound_b92 p1 v2 v3 v5 s0 ((-1)) m
  else
    (Tokens_takeNumber m 0 ((m.1 p1 1) - 1)).bind fun r7 =>
    HouseReader_readSound_b92 p1 v2 v3 v5 s0 r7.1 r7.2
def HouseReader_readSound_b46 (p1 : Nat) (v2 : Int32) (v3 : Int64) (s0 : Int32) (m : xMem) : Option (Int32 × xMem) :=
  if s0 = ((-1)) then
    HouseReader_readSound_b69 p1 v2 v3 s0 ((-1)) m
  else
    (Tokens_takeNumber m 0 ((m.1 p1 0) - 1)).bind fun r6 =>
    HouseReader_readSound_b69 p1 v2 v3 s0 r6.1 r6.2
def HouseReader_readSound (m : xMem) (p1 : Nat) : Option (Int32 × xMem) :=
  nm (m.1 p1 8) fun x1 =>
  if x1 < 8 then
    (Tokens_advance m).bind fun r2 =>
    (Tokens_takeNewName r2 p1).bind fun r3 =>
    if (lg_cmp r3.1 ((-1))) = 0 then
      HouseReader_readSound_b46 p1 x1 r3.1 ((-1)) r3.2
    else
      (Tokens_takeWord r3.2 8 4).bind fun r4 =>
      HouseReader_readSound_b46 p1 x1 r3.1 r4.1 r4.2
  else
    (Tokens_fail m 4).bind fun r5 =>
    (rz r5.1).bind fun w => some (w, r5.2)
abbrev rm_HouseReader_readWants : Room := { frames := 4, cells := 0, slots := 0, locals := 91 }
def HouseReader_readWants (m : xMem) (p1 : Nat) : Option (Int32 × xMem) :=
  (Tokens_advance m).bind fun r1 =>
  (Tokens_takeKnown r1 (p1 + 1) 6 (r1.1 p1 6)).bind fun r2 =>
  if r2.1 = ((-1)) then
    some (0, r2.2)
  else
    (ix r2.1 6).bind fun j3 =>
    if (r2.2.1 (p1 + 5 + j3) 2) = ((-1)) then
      (ix r2.1 6).bind fun j4 =>
      (Tokens_takeWord r2.2 8 4).bind fun r5 =>
      nm (upI r5.2 (p1 + 5 + j4) 2 r5.1) fun m6 =>
      (ix r2.1 6).bind fun j7 =>
      if (m6.1 (p1 + 5 + j7) 2) = ((-1)) then
        some (0, m6)
      else
        some (1, m6)
    else
      (Tokens_failBehind r2.2 3).bind fun r8 =>
      (rz r8.1).bind fun w => some (w, r8.2)
abbrev rm_HouseReader_readShut : Room := { frames := 4, cells := 0, slots := 0, locals := 91 }
def HouseReader_readShut_b41 (p1 : Nat) (v2 : Int32) (s0 : Int32) (m : xMem) : Option (Int32 × xMem) :=
  if s0 = ((-1)) then
    some (0, m)
  else
    nm (upI m p1 2 v2) fun m5 =>
    nm (upI m5 p1 3 s0) fun m6 =>
    nm (upI m6 p1 5 1) fun m7 =>
    some (1, m7)
def HouseReader_readShut (m : xMem) (p1 : Nat) : Option (Int32 × xMem) :=
  if (m.1 p1 5) = 0 then
    (Tokens_advance m).bind fun r1 =>
    (Tokens_takeNumber r1 0 23).bind fun r2 =>
    if r2.1 = ((-1)) then
      HouseReader_readShut_b41 p1 r2.1 ((-1)) r2.2
    else
      (Tokens_takeNumber r2.2 0 23).bind fun r3 =>
      HouseReader_readShut_b41 p1 r2.1 r3.1 r3.2
  else
    (Tokens_fail m 3).bind fun r4 =>
    (rz r4.1).bind fun w => some (w, r4.2)
abbrev rm_HouseReader_readAll : Room := { frames := 5, cells := 0, slots := 0, locals := 121 }
def HouseReader_readAll_b150 (p1 : Nat) (k6 : Int32 → xMem → Option (Int32 × xMem)) (v2 : Int32) (v3 : Int32) (m : xMem) : Option (Int32 × xMem) :=
  if v3 = 0 then
    some ((-1), m)
  else
    (Tokens_skipSign m 59).bind fun r12 =>
    if r12.1 = 0 then
      some ((-1), r12.2)
    else
      k6 (v2 + 1) r12.2
def HouseReader_readAll_b6 (p1 : Nat) : Nat → Int32 → xMem → Option (Int32 × xMem)
  | 0, _, _ => none
  | n + 1, v2, m =>
    if 900 < v2 then
      some ((-1), m)
    else
      if (m.1 3 4) = 0 then
        some (v2, m)
      else
        nm (m.1 3 8) fun x2 =>
        if x2 = 0 then
          (HouseReader_readHouse m p1).bind fun r3 =>
          HouseReader_readAll_b150 p1 (HouseReader_readAll_b6 p1 n) v2 r3.1 r3.2
        else
        if x2 = 1 then
          (HouseReader_readBed m p1).bind fun r4 =>
          HouseReader_readAll_b150 p1 (HouseReader_readAll_b6 p1 n) v2 r4.1 r4.2
        else
        if x2 = 2 then
          (HouseReader_readOwl m p1).bind fun r5 =>
          HouseReader_readAll_b150 p1 (HouseReader_readAll_b6 p1 n) v2 r5.1 r5.2
        else
        if x2 = 3 then
          (HouseReader_readBad m p1).bind fun r6 =>
          HouseReader_readAll_b150 p1 (HouseReader_readAll_b6 p1 n) v2 r6.1 r6.2
        else
        if x2 = 4 then
          (HouseReader_readDeaf m p1).bind fun r7 =>
          HouseReader_readAll_b150 p1 (HouseReader_readAll_b6 p1 n) v2 r7.1 r7.2
        else
        if x2 = 5 then
          (HouseReader_readSound m p1).bind fun r8 =>
          HouseReader_readAll_b150 p1 (HouseReader_readAll_b6 p1 n) v2 r8.1 r8.2
        else
        if x2 = 6 then
          (HouseReader_readWants m p1).bind fun r9 =>
          HouseReader_readAll_b150 p1 (HouseReader_readAll_b6 p1 n) v2 r9.1 r9.2
        else
        if x2 = 7 then
          (HouseReader_readShut m p1).bind fun r10 =>
          HouseReader_readAll_b150 p1 (HouseReader_readAll_b6 p1 n) v2 r10.1 r10.2
        else
          (Tokens_fail m 1).bind fun r11 =>
          HouseReader_readAll_b150 p1 (HouseReader_readAll_b6 p1 n) v2 r11.1 r11.2
def HouseReader_readAll (m : xMem) (p1 : Nat) : Option (Int32 × xMem) :=
  (House_clear m p1).bind fun r1 =>
  HouseReader_readAll_b6 p1 1000 0 r1
abbrev rm_Image_begin : Room := { frames := 3, cells := 0, slots := 0, locals := 107 }
def Image_begin (m : xMem) (o : Nat) (p0 : Nat) : Option (xMem) :=
  (House_copyFrom m (o + 1) p0).bind fun r1 =>
  (State_begin r1 (o + 28) p0).bind fun r2 =>
  nm (upI r2 (o + 33) 0 0) fun m3 =>
  some m3
abbrev rm_Sentence_copyFrom : Room := { frames := 1, cells := 0, slots := 0, locals := 64 }
def Sentence_copyFrom (m : xMem) (o : Nat) (p0 : Nat) : Option (xMem) :=
  (rz (m.1 p0 0)).bind fun z2 =>
  nm (upI m o 0 z2) fun m1 =>
  nm (upI m1 o 2 (m1.1 p0 2)) fun m3 =>
  nm (upR m3 (o + 1) (xcpy (m3.1 (p0 + 1)) (m3.1 (o + 1)) 40)) fun m4 =>
  nm (upR m4 (o + 2) (xcpy (m4.1 (p0 + 2)) (m4.1 (o + 2)) 40)) fun m5 =>
  nm (upR m5 (o + 3) (xcpy (m5.1 (p0 + 3)) (m5.1 (o + 3)) 40)) fun m6 =>
  some m6
abbrev rm_Image_copyFrom : Room := { frames := 3, cells := 0, slots := 0, locals := 107 }
def Image_copyFrom (m : xMem) (o : Nat) (p0 : Nat) : Option (xMem) :=
  nm (upI m o 0 1) fun m1 =>
  (House_copyFrom m1 (o + 1) (p0 + 1)).bind fun r2 =>
  (State_copyFrom r2 (o + 28) (p0 + 28)).bind fun r3 =>
  (Sentence_copyFrom r3 (o + 33) (p0 + 33)).bind fun r4 =>
  some r4
abbrev rm_Sentence_addStep : Room := { frames := 0, cells := 0, slots := 0, locals := 0 }
def Sentence_addStep (m : xMem) (o : Nat) (p0 : Int32) (p1 : Int32) (p2 : Int32) : Option (xMem) :=
  if (m.1 o 2) < 40 then
    (ix (m.1 o 2) 40).bind fun j2 => nm (upI m (o + 1) j2 p0) fun m1 =>
    (ix (m1.1 o 2) 40).bind fun j4 => nm (upI m1 (o + 2) j4 p1) fun m3 =>
    (ix (m3.1 o 2) 40).bind fun j6 => nm (upI m3 (o + 3) j6 p2) fun m5 =>
    nm (upI m5 o 2 ((m5.1 o 2) + 1)) fun m7 =>
    some m7
  else
    some m
abbrev rm_Sentence_readPlain : Room := { frames := 4, cells := 0, slots := 0, locals := 91 }
def Sentence_readPlain_b137 (o : Nat) (p1 : Nat) (p2 : Int32) (v4 : Int32) (v5 : Int32) (m : xMem) : Option (Int32 × xMem) :=
  (Sentence_addStep m o p2 v4 v5).bind fun r8 =>
  if v5 = ((-1)) then
    some (0, r8)
  else
    some (1, r8)
def Sentence_readPlain_b117 (o : Nat) (p1 : Nat) (p2 : Int32) (m : xMem) : Option (Int32 × xMem) :=
  nm (m.1 3 7) fun x9 =>
  (Tokens_advance m).bind fun r10 =>
  (Tokens_takeNumber r10 0 999).bind fun r11 =>
  Sentence_readPlain_b137 o p1 p2 x9 r11.1 r11.2
def Sentence_readPlain (m : xMem) (o : Nat) (p1 : Nat) (p2 : Int32) : Option (Int32 × xMem) :=
  if p2 = 24 then
    Sentence_readPlain_b137 o p1 p2 0 0 m
  else
  if p2 = 25 then
    Sentence_readPlain_b137 o p1 p2 0 0 m
  else
  if p2 = 26 then
    (Tokens_takeWord m 12 4).bind fun r1 =>
    Sentence_readPlain_b137 o p1 p2 0 r1.1 r1.2
  else
  if p2 = 27 then
    (Tokens_takeKnown m (p1 + 2) 6 (m.1 p1 7)).bind fun r2 =>
    Sentence_readPlain_b137 o p1 p2 0 r2.1 r2.2
  else
  if p2 = 28 then
    (Tokens_takeWord m 8 4).bind fun r3 =>
    Sentence_readPlain_b137 o p1 p2 0 r3.1 r3.2
  else
    (Tokens_isSign m 60).bind fun r4 =>
    if r4 = 0 then
      (Tokens_isSign m 61).bind fun r5 =>
      if r5 = 0 then
        (Tokens_isSign m 62).bind fun r6 =>
        if r6 = 0 then
          (Tokens_fail m 1).bind fun r7 =>
          (rz r7.1).bind fun w => some (w, r7.2)
        else
          Sentence_readPlain_b117 o p1 p2 m
      else
        Sentence_readPlain_b117 o p1 p2 m
    else
      Sentence_readPlain_b117 o p1 p2 m
def rmx_Sentence_readAlls (d : Nat) : Room := { frames := 8 + 3 * d + 1, cells := 0, slots := 0, locals := 260 + 120 * d + 40 }
def Sentence_readAlls_b15 (fr : xMem → Nat → Nat → Int32 → Option (Int32 × xMem)) (o : Nat) (p1 : Nat) (p2 : Int32) : Nat → Int32 → xMem → Option (Int32 × xMem)
  | 0, _, _ => none
  | n + 1, v4, m =>
    if v4 < 20 then
      if (m.1 3 8) = 22 then
        (Tokens_advance m).bind fun r2 =>
        (fr r2 o p1 p2).bind fun r3 =>
        if r3.1 = 0 then
          some (0, r3.2)
        else
          (Sentence_addStep r3.2 o 22 0 0).bind fun r4 =>
          Sentence_readAlls_b15 fr o p1 p2 n (v4 + 1) r4
      else
        some (1, m)
    else
      some (1, m)
def Sentence_readAlls (fr : xMem → Nat → Nat → Int32 → Option (Int32 × xMem)) (m : xMem) (o : Nat) (p1 : Nat) (p2 : Int32) : Option (Int32 × xMem) :=
  (fr m o p1 p2).bind fun r1 =>
  if r1.1 = 0 then
    some (0, r1.2)
  else
    Sentence_readAlls_b15 fr o p1 p2 1000 0 r1.2
def rmx_Sentence_readCond (d : Nat) : Room := { frames := 8 + 3 * d + 2, cells := 0, slots := 0, locals := 260 + 120 * d + 80 }
def Sentence_readCond_b15 (fr : xMem → Nat → Nat → Int32 → Option (Int32 × xMem)) (o : Nat) (p1 : Nat) (p2 : Int32) : Nat → Int32 → xMem → Option (Int32 × xMem)
  | 0, _, _ => none
  | n + 1, v4, m =>
    if v4 < 20 then
      if (m.1 3 8) = 21 then
        (Tokens_advance m).bind fun r2 =>
        (Sentence_readAlls fr r2 o p1 p2).bind fun r3 =>
        if r3.1 = 0 then
          some (0, r3.2)
        else
          (Sentence_addStep r3.2 o 21 0 0).bind fun r4 =>
          Sentence_readCond_b15 fr o p1 p2 n (v4 + 1) r4
      else
        some (1, m)
    else
      some (1, m)
def Sentence_readCond (fr : xMem → Nat → Nat → Int32 → Option (Int32 × xMem)) (m : xMem) (o : Nat) (p1 : Nat) (p2 : Int32) : Option (Int32 × xMem) :=
  (Sentence_readAlls fr m o p1 p2).bind fun r1 =>
  if r1.1 = 0 then
    some (0, r1.2)
  else
    Sentence_readCond_b15 fr o p1 p2 1000 0 r1.2
def rmx_Sentence_readOne (d : Nat) : Room := { frames := 8 + 3 * d + 0, cells := 0, slots := 0, locals := 260 + 120 * d + 0 }
def Sentence_readOne_b33 (fr : xMem → Nat → Nat → Int32 → Option (Int32 × xMem)) (o : Nat) (p1 : Nat) (p2 : Int32) (m : xMem) : Option (Int32 × xMem) :=
  (Tokens_fail m 1).bind fun r3 =>
  (rz r3.1).bind fun w => some (w, r3.2)
def Sentence_readOne_b54 (fr : xMem → Nat → Nat → Int32 → Option (Int32 × xMem)) (o : Nat) (p1 : Nat) (p2 : Int32) (m : xMem) : Option (Int32 × xMem) :=
  (Tokens_fail m 4).bind fun r11 =>
  (rz r11.1).bind fun w => some (w, r11.2)
def Sentence_readOne_b39 (fr : xMem → Nat → Nat → Int32 → Option (Int32 × xMem)) (o : Nat) (p1 : Nat) (p2 : Int32) (v4 : Int32) (v5 : Int32) (m : xMem) : Option (Int32 × xMem) :=
  if (m.1 o 1) < 20 then
    if 8 < p2 then
      Sentence_readOne_b54 fr o p1 p2 m
    else
      nm (upI m o 1 ((m.1 o 1) + 1)) fun m4 =>
      (Tokens_advance m4).bind fun r5 =>
      if v4 = 0 then
        if v5 = 23 then
          (fr r5 o p1 (p2 + 1)).bind fun r6 =>
          if r6.1 = 0 then
            some (0, r6.2)
          else
            (Sentence_addStep r6.2 o 23 0 0).bind fun r7 =>
            some (1, r7)
        else
          (Sentence_readPlain r5 o p1 v5).bind fun r8 =>
          (rz r8.1).bind fun w => some (w, r8.2)
      else
        (Sentence_readCond fr r5 o p1 (p2 + 1)).bind fun r9 =>
        if r9.1 = 0 then
          some (0, r9.2)
        else
          (Tokens_skipSign r9.2 41).bind fun r10 =>
          if r10.1 = 0 then
            some (0, r10.2)
          else
            some (1, r10.2)
  else
    Sentence_readOne_b54 fr o p1 p2 m
def Sentence_readOne_body (fr : xMem → Nat → Nat → Int32 → Option (Int32 × xMem)) (m : xMem) (o : Nat) (p1 : Nat) (p2 : Int32) : Option (Int32 × xMem) :=
  (Tokens_isSign m 40).bind fun r1 =>
  nm (m.1 3 8) fun x2 =>
  if r1 = 0 then
    if x2 < 23 then
      Sentence_readOne_b33 fr o p1 p2 m
    else
      if 31 < x2 then
        Sentence_readOne_b33 fr o p1 p2 m
      else
        Sentence_readOne_b39 fr o p1 p2 r1 x2 m
  else
    Sentence_readOne_b39 fr o p1 p2 r1 x2 m
def Sentence_readOne : Nat → xMem → Nat → Nat → Int32 → Option (Int32 × xMem)
  | 0, _, _, _, _ => none
  | d + 1, m, o, p1, p2 => Sentence_readOne_body (Sentence_readOne d) m o p1 p2
abbrev rm_Sentence_readAll : Room := { frames := 47, cells := 0, slots := 0, locals := 1804 }
def Sentence_readAll_b41 (o : Nat) (p1 : Nat) (s0 : Int32) (m : xMem) : Option (Int32 × xMem) :=
  (rz s0).bind fun z6 =>
  nm (upI m o 0 z6) fun m5 =>
  (rz (m5.1 o 0)).bind fun w => some (w, m5)
def Sentence_readAll (m : xMem) (o : Nat) (p1 : Nat) : Option (Int32 × xMem) :=
  nm (upI m o 1 0) fun m1 =>
  nm (upI m1 o 2 0) fun m2 =>
  (Sentence_readCond (Sentence_readOne 12) m2 o p1 1).bind fun r3 =>
  if r3.1 = 0 then
    Sentence_readAll_b41 o p1 0 r3.2
  else
    if (r3.2.1 3 4) = 0 then
      Sentence_readAll_b41 o p1 1 r3.2
    else
      (Tokens_fail r3.2 1).bind fun r4 =>
      if r4.1 = 0 then
        Sentence_readAll_b41 o p1 0 r4.2
      else
        Sentence_readAll_b41 o p1 1 r4.2
abbrev rm_Sentence_compares : Room := { frames := 0, cells := 0, slots := 0, locals := 0 }
def Sentence_compares_b44 (m : xMem) (o : Nat) (p0 : Nat) (p1 : Int32) (p2 : Int32) (v4 : Int32) : Option (Int32) :=
  (ix p2 40).bind fun j7 =>
  nm (m.1 (o + 3) j7) fun x8 =>
  (ix p2 40).bind fun j9 =>
  if (m.1 (o + 2) j9) = 60 then
    if v4 < x8 then
      some 1
    else
      some 0
  else
    (ix p2 40).bind fun j10 =>
    if (m.1 (o + 2) j10) = 61 then
      if v4 = x8 then
        some 1
      else
        some 0
    else
      if x8 < v4 then
        some 1
      else
        some 0
def Sentence_compares (m : xMem) (o : Nat) (p0 : Nat) (p1 : Int32) (p2 : Int32) : Option (Int32) :=
  (ix p2 40).bind fun j1 =>
  if (m.1 (o + 1) j1) = 29 then
    (ix p1 6).bind fun j2 =>
    nm (m.1 (p0 + 3) j2) fun x3 =>
    Sentence_compares_b44 m o p0 p1 p2 x3
  else
    (ix p2 40).bind fun j4 =>
    if (m.1 (o + 1) j4) = 30 then
      (ix p1 6).bind fun j5 =>
      nm (m.1 (p0 + 4) j5) fun x6 =>
      Sentence_compares_b44 m o p0 p1 p2 x6
    else
      Sentence_compares_b44 m o p0 p1 p2 p1
abbrev rm_Sentence_isSo : Room := { frames := 3, cells := 0, slots := 0, locals := 66 }
def Sentence_isSo (m : xMem) (o : Nat) (p0 : Nat) (p1 : Nat) (p2 : Int32) (p3 : Int32) (p4 : Int32) : Option (Int32) :=
  (ix p4 40).bind fun j1 =>
  nm (m.1 (o + 3) j1) fun x2 =>
  (ix p4 40).bind fun j3 =>
  nm (m.1 (o + 1) j3) fun x4 =>
  if x4 = 24 then
    (State_owlAt m p1 p0 p2).bind fun r5 =>
    if r5 = ((-1)) then
      some 1
    else
      some 0
  else
  if x4 = 25 then
    if p3 = ((-1)) then
      some 0
    else
      some 1
  else
  if x4 = 26 then
    (State_sideFrom m p1 p0 p2 p3).bind fun r6 =>
    if r6 = x2 then
      some 1
    else
      some 0
  else
  if x4 = 27 then
    (State_owlAt m p1 p0 p2).bind fun r7 =>
    if r7 = x2 then
      some 1
    else
      some 0
  else
    if p3 = ((-1)) then
      some 0
    else
      (State_rowOf m p1 p0 p3).bind fun r8 =>
      if (m.1 r8 0) = x2 then
        some 1
      else
        some 0
abbrev rm_Sentence_holds : Room := { frames := 4, cells := 0, slots := 0, locals := 99 }
def Sentence_holds_b91 (o : Nat) (p0 : Nat) (p1 : Nat) (p2 : Int32) (k35 : Int32 → Int32 → Int32 → xMem → Option (Int32 × xMem)) (v5 : Int32) (v6 : Int32) (v7 : Int32) (s0 : Int32) (s1 : Int32) (m : xMem) : Option (Int32 × xMem) :=
  (ix s1 20).bind fun j9 => nm (upI m (o + 4) j9 (vp_nar .boolean s0)) fun m8 =>
  k35 v5 v6 (v7 + 1) m8
def Sentence_holds_b146 (o : Nat) (p0 : Nat) (p1 : Nat) (p2 : Int32) (k35 : Int32 → Int32 → Int32 → xMem → Option (Int32 × xMem)) (v5 : Int32) (v6 : Int32) (v7 : Int32) (s0 : Int32) (s1 : Int32) (m : xMem) : Option (Int32 × xMem) :=
  (ix s1 20).bind fun j13 => nm (upI m (o + 4) j13 (vp_nar .boolean s0)) fun m12 =>
  k35 v5 v6 (v7 + 1) m12
def Sentence_holds_b201 (o : Nat) (p0 : Nat) (p1 : Nat) (p2 : Int32) (k35 : Int32 → Int32 → Int32 → xMem → Option (Int32 × xMem)) (v5 : Int32) (v6 : Int32) (v7 : Int32) (s0 : Int32) (s1 : Int32) (m : xMem) : Option (Int32 × xMem) :=
  (ix s1 20).bind fun j17 => nm (upI m (o + 4) j17 (vp_nar .boolean s0)) fun m16 =>
  k35 v5 v6 (v7 + 1) m16
def Sentence_holds_b247 (o : Nat) (p0 : Nat) (p1 : Nat) (p2 : Int32) (k35 : Int32 → Int32 → Int32 → xMem → Option (Int32 × xMem)) (v5 : Int32) (v6 : Int32) (v7 : Int32) (s0 : Int32) (s1 : Int32) (m : xMem) : Option (Int32 × xMem) :=
  (ix s1 20).bind fun j19 => nm (upI m (o + 4) j19 (vp_nar .boolean s0)) fun m18 =>
  k35 v5 (v6 + 1) (v7 + 1) m18
def Sentence_holds_b205 (o : Nat) (p0 : Nat) (p1 : Nat) (p2 : Int32) (k35 : Int32 → Int32 → Int32 → xMem → Option (Int32 × xMem)) (v5 : Int32) (v6 : Int32) (v7 : Int32) (v8 : Int32) (m : xMem) : Option (Int32 × xMem) :=
  if v6 < 20 then
    if v8 < 29 then
      (Sentence_isSo m o p0 p1 p2 v5 v7).bind fun r14 =>
      Sentence_holds_b247 o p0 p1 p2 k35 v5 v6 v7 r14 v6 m
    else
      (Sentence_compares m o p1 p2 v7).bind fun r15 =>
      Sentence_holds_b247 o p0 p1 p2 k35 v5 v6 v7 r15 v6 m
  else
    k35 v5 v6 (v7 + 1) m
def Sentence_holds_b150 (o : Nat) (p0 : Nat) (p1 : Nat) (p2 : Int32) (k35 : Int32 → Int32 → Int32 → xMem → Option (Int32 × xMem)) (v5 : Int32) (v6 : Int32) (v7 : Int32) (v8 : Int32) (m : xMem) : Option (Int32 × xMem) :=
  if v8 = 21 then
    if v6 < 2 then
      Sentence_holds_b205 o p0 p1 p2 k35 v5 v6 v7 v8 m
    else
      (ix ((v6 + (-1)) - 1) 20).bind fun j10 =>
      if (m.1 (o + 4) j10) = 0 then
        (ix (v6 + (-1)) 20).bind fun j11 =>
        if (m.1 (o + 4) j11) = 0 then
          Sentence_holds_b201 o p0 p1 p2 k35 v5 (v6 + (-1)) v7 0 ((v6 + (-1)) - 1) m
        else
          Sentence_holds_b201 o p0 p1 p2 k35 v5 (v6 + (-1)) v7 1 ((v6 + (-1)) - 1) m
      else
        Sentence_holds_b201 o p0 p1 p2 k35 v5 (v6 + (-1)) v7 1 ((v6 + (-1)) - 1) m
  else
    Sentence_holds_b205 o p0 p1 p2 k35 v5 v6 v7 v8 m
def Sentence_holds_b95 (o : Nat) (p0 : Nat) (p1 : Nat) (p2 : Int32) (k35 : Int32 → Int32 → Int32 → xMem → Option (Int32 × xMem)) (v5 : Int32) (v6 : Int32) (v7 : Int32) (v8 : Int32) (m : xMem) : Option (Int32 × xMem) :=
  if v8 = 22 then
    if v6 < 2 then
      Sentence_holds_b150 o p0 p1 p2 k35 v5 v6 v7 v8 m
    else
      (ix ((v6 + (-1)) - 1) 20).bind fun j6 =>
      if (m.1 (o + 4) j6) = 0 then
        Sentence_holds_b146 o p0 p1 p2 k35 v5 (v6 + (-1)) v7 0 ((v6 + (-1)) - 1) m
      else
        (ix (v6 + (-1)) 20).bind fun j7 =>
        if (m.1 (o + 4) j7) = 0 then
          Sentence_holds_b146 o p0 p1 p2 k35 v5 (v6 + (-1)) v7 0 ((v6 + (-1)) - 1) m
        else
          Sentence_holds_b146 o p0 p1 p2 k35 v5 (v6 + (-1)) v7 1 ((v6 + (-1)) - 1) m
  else
    Sentence_holds_b150 o p0 p1 p2 k35 v5 v6 v7 v8 m
def Sentence_holds_b35 (o : Nat) (p0 : Nat) (p1 : Nat) (p2 : Int32) : Nat → Int32 → Int32 → Int32 → xMem → Option (Int32 × xMem)
  | 0, _, _, _, _ => none
  | n + 1, v5, v6, v7, m =>
    if v7 < (m.1 o 2) then
      (ix v7 40).bind fun j3 =>
      nm (m.1 (o + 1) j3) fun x4 =>
      if x4 = 23 then
        if v6 < 1 then
          Sentence_holds_b95 o p0 p1 p2 (Sentence_holds_b35 o p0 p1 p2 n) v5 v6 v7 x4 m
        else
          (ix (v6 - 1) 20).bind fun j5 =>
          if (m.1 (o + 4) j5) = 0 then
            Sentence_holds_b91 o p0 p1 p2 (Sentence_holds_b35 o p0 p1 p2 n) v5 v6 v7 1 (v6 - 1) m
          else
            Sentence_holds_b91 o p0 p1 p2 (Sentence_holds_b35 o p0 p1 p2 n) v5 v6 v7 0 (v6 - 1) m
      else
        Sentence_holds_b95 o p0 p1 p2 (Sentence_holds_b35 o p0 p1 p2 n) v5 v6 v7 x4 m
    else
      if v6 = 1 then
        if (m.1 (o + 4) 0) = 0 then
          some (0, m)
        else
          some (1, m)
      else
        some (0, m)
def Sentence_holds (m : xMem) (o : Nat) (p0 : Nat) (p1 : Nat) (p2 : Int32) : Option (Int32 × xMem) :=
  (State_owlAt m p1 p0 p2).bind fun r1 =>
  if r1 = ((-1)) then
    Sentence_holds_b35 o p0 p1 p2 1000 ((-1)) 0 0 m
  else
    (State_lookOf m p1 p0 r1 p2 0).bind fun r2 =>
    Sentence_holds_b35 o p0 p1 p2 1000 r2 0 0 m
abbrev rm_Spots_isAsTold : Room := { frames := 1, cells := 0, slots := 0, locals := 21 }
def Spots_isAsTold_b45 (m : xMem) (p0 : Nat) (p1 : Nat) : Nat → Int32 → Int32 → Option (Int32)
  | 0, _, _ => none
  | n + 1, v2, v3 =>
    if v3 < v2 then
      (Tape_at m p0 (v3 + 1)).bind fun r4 =>
      (Tape_at m p0 v3).bind fun r5 =>
      (House_hasOwl m p1 r5).bind fun r6 =>
      if r6 = 0 then
        some 0
      else
        if 4 < r4 then
          if r4 = 255 then
            Spots_isAsTold_b45 m p0 p1 n v2 (v3 + 2)
          else
            some 0
        else
          Spots_isAsTold_b45 m p0 p1 n v2 (v3 + 2)
    else
      some 1
def Spots_isAsTold (m : xMem) (p0 : Nat) (p1 : Nat) : Option (Int32) :=
  nm (m.1 p0 1) fun x1 =>
  if x1 < 3 then
    some 0
  else
    if 13 < x1 then
      some 0
    else
      if (i_rem x1 2) = 0 then
        some 0
      else
        (Tape_at m p0 0).bind fun r2 =>
        if r2 < 1 then
          some 0
        else
          (Tape_at m p0 0).bind fun r3 =>
          if 30 < r3 then
            some 0
          else
            Spots_isAsTold_b45 m p0 p1 1000 x1 1
abbrev rm_Spots_fits : Room := { frames := 2, cells := 0, slots := 0, locals := 49 }
def Spots_fits_b46 (m : xMem) (p0 : Nat) (p1 : Nat) (p2 : Nat) (k3 : Int32 → Option (Int32)) (v4 : Int32) (v5 : Int32) (s0 : Int32) : Option (Int32) :=
  (House_hasOwl m p1 v5).bind fun r4 =>
  if r4 = 0 then
    some 0
  else
    (ix v5 6).bind fun j5 =>
    (House_heardSide m p1 v5 (m.1 (p2 + 2) j5) 168).bind fun r6 =>
    if r6 = s0 then
      k3 (v4 + 2)
    else
      some 0
def Spots_fits_b3 (m : xMem) (p0 : Nat) (p1 : Nat) (p2 : Nat) : Nat → Int32 → Option (Int32)
  | 0, _ => none
  | n + 1, v4 =>
    if v4 < (m.1 p0 1) then
      (Tape_at m p0 v4).bind fun r1 =>
      (Tape_at m p0 (v4 + 1)).bind fun r2 =>
      if r2 = 255 then
        Spots_fits_b46 m p0 p1 p2 (Spots_fits_b3 m p0 p1 p2 n) v4 r1 ((-1))
      else
        (Tape_at m p0 (v4 + 1)).bind fun r3 =>
        Spots_fits_b46 m p0 p1 p2 (Spots_fits_b3 m p0 p1 p2 n) v4 r1 r3
    else
      some 1
def Spots_fits (m : xMem) (p0 : Nat) (p1 : Nat) (p2 : Nat) : Option (Int32) :=
  Spots_fits_b3 m p0 p1 p2 1000 1
abbrev rm_Spots_mostLeft : Room := { frames := 2, cells := 0, slots := 0, locals := 49 }
def Spots_mostLeft_b33 (p0 : Nat) (p1 : Nat) (p2 : Int32) : Nat → Int32 → Int32 → xMem → Option (Int32 × xMem)
  | 0, _, _, _ => none
  | n + 1, v4, v5, m =>
    if v5 < (m.1 165 4) then
      (ix v5 81).bind fun j3 =>
      nm (upI m 168 1 (i_rem (m.1 166 j3) 9)) fun m4 =>
      (ix v5 81).bind fun j5 =>
      nm (upI m4 168 2 ((m4.1 166 j5) / 9)) fun m6 =>
      (ix p2 6).bind fun j7 =>
      (House_heardSide m6 p0 p2 (m6.1 (p1 + 2) j7) 168).bind fun r8 =>
      nm (r8 + 1) fun x9 =>
      (ix x9 6).bind fun j10 =>
      (ix x9 6).bind fun j12 => nm (upI m6 169 j12 ((m6.1 169 j10) + 1)) fun m11 =>
      (ix x9 6).bind fun j13 =>
      nm (i_max v4 (m11.1 169 j13)) fun x14 =>
      Spots_mostLeft_b33 p0 p1 p2 n x14 (v5 + 1) m11
    else
      some (v4, m)
def Spots_mostLeft_b3 (p0 : Nat) (p1 : Nat) (p2 : Int32) : Nat → Int32 → xMem → Option (Int32 × xMem)
  | 0, _, _ => none
  | n + 1, v4, m =>
    if v4 < 6 then
      (ix v4 6).bind fun j2 => nm (upI m 169 j2 0) fun m1 =>
      Spots_mostLeft_b3 p0 p1 p2 n (v4 + 1) m1
    else
      Spots_mostLeft_b33 p0 p1 p2 1000 0 0 m
def Spots_mostLeft (m : xMem) (p0 : Nat) (p1 : Nat) (p2 : Int32) : Option (Int32 × xMem) :=
  Spots_mostLeft_b3 p0 p1 p2 1000 0 m
abbrev rm_Spots_findNext : Room := { frames := 3, cells := 0, slots := 0, locals := 75 }
def Spots_findNext_b9 (p0 : Nat) (p1 : Nat) : Nat → Int32 → Int32 → Int32 → xMem → Option (Int32 × xMem)
  | 0, _, _, _, _ => none
  | n + 1, v3, v4, v5, m =>
    if v5 < (m.1 p0 7) then
      (Spots_mostLeft m p0 p1 v5).bind fun r1 =>
      if r1.1 < v4 then
        Spots_findNext_b9 p0 p1 n v5 r1.1 (v5 + 1) r1.2
      else
        Spots_findNext_b9 p0 p1 n v3 v4 (v5 + 1) r1.2
    else
      some (v3, m)
def Spots_findNext (m : xMem) (p0 : Nat) (p1 : Nat) : Option (Int32 × xMem) :=
  Spots_findNext_b9 p0 p1 1000 ((-1)) 82 0 m
abbrev rm_Spots_find : Room := { frames := 4, cells := 0, slots := 0, locals := 101 }
def Spots_find_b46 (p0 : Nat) (p1 : Nat) (p2 : Nat) (k34 : Int32 → Int32 → xMem → Option (Int32 × xMem)) : Nat → Int32 → Int32 → Int32 → xMem → Option (Int32 × xMem)
  | 0, _, _, _, _ => none
  | n + 1, v4, v5, v6, m =>
    if v6 < (m.1 p1 0) then
      nm (upI m 168 1 v6) fun m10 =>
      nm (upI m10 168 2 v5) fun m11 =>
      if v4 < 81 then
        (Spots_fits m11 p0 p1 p2).bind fun r12 =>
        if r12 = 0 then
          Spots_find_b46 p0 p1 p2 k34 n v4 v5 (v6 + 1) m11
        else
          (ix v4 81).bind fun j14 => nm (upI m11 167 j14 ((9 * v5) + v6)) fun m13 =>
          Spots_find_b46 p0 p1 p2 k34 n (v4 + 1) v5 (v6 + 1) m13
      else
        Spots_find_b46 p0 p1 p2 k34 n v4 v5 (v6 + 1) m11
    else
      k34 v4 (v5 + 1) m
def Spots_find_b34 (p0 : Nat) (p1 : Nat) (p2 : Nat) : Nat → Int32 → Int32 → xMem → Option (Int32 × xMem)
  | 0, _, _, _ => none
  | n + 1, v4, v5, m =>
    if v5 < (m.1 p1 1) then
      Spots_find_b46 p0 p1 p2 (Spots_find_b34 p0 p1 p2 n) 1000 v4 v5 0 m
    else
      if 0 < v4 then
        (ixc v4 (min 81 81)).bind fun j6 => nm (upR m 166 (xcpy (m.1 167) (m.1 166) j6)) fun m5 =>
        nm (upI m5 165 4 v4) fun m7 =>
        (Spots_findNext m7 p1 p2).bind fun r8 =>
        nm (upI r8.2 165 5 r8.1) fun m9 =>
        some (v4, m9)
      else
        some (v4, m)
def Spots_find (m : xMem) (p0 : Nat) (p1 : Nat) (p2 : Nat) : Option (Int32 × xMem) :=
  (Spots_isAsTold m p0 p1).bind fun r1 =>
  if r1 = 0 then
    some ((-1), m)
  else
    nm (upI m 168 0 1) fun m2 =>
    (Tape_at m2 p0 0).bind fun r3 =>
    nm (upI m2 168 3 r3) fun m4 =>
    Spots_find_b34 p0 p1 p2 1000 0 0 m4
abbrev rm_Undo_forget : Room := { frames := 0, cells := 0, slots := 0, locals := 0 }
def Undo_forget (m : xMem) : Option (xMem) :=
  nm (upI m 123 2 0) fun m1 =>
  some m1
abbrev rm_Undo_keep : Room := { frames := 2, cells := 0, slots := 0, locals := 85 }
def Undo_keep (m : xMem) (p0 : Nat) : Option (xMem) :=
  (ix (m.1 123 1) 8).bind fun j1 =>
  (State_copyFrom m (125 + 5 * j1) p0).bind fun r2 =>
  nm (upI r2 123 1 (i_rem ((r2.1 123 1) + 1) 8)) fun m3 =>
  nm (upI m3 123 2 (i_min 8 ((m3.1 123 2) + 1))) fun m4 =>
  some m4
abbrev rm_Undo_takeBack : Room := { frames := 2, cells := 0, slots := 0, locals := 85 }
def Undo_takeBack (m : xMem) (p0 : Nat) : Option (Int32 × xMem) :=
  if (m.1 123 2) = 0 then
    some ((-1), m)
  else
    nm (upI m 123 1 (i_rem (((m.1 123 1) + 8) - 1) 8)) fun m1 =>
    nm (upI m1 123 2 ((m1.1 123 2) - 1)) fun m2 =>
    (ix (m2.1 123 1) 8).bind fun j3 =>
    (State_copyFrom m2 p0 (125 + 5 * j3)).bind fun r4 =>
    some (r4.1 123 2, r4)
