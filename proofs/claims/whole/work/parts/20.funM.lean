abbrev rm_M_thrown : Room := { frames := 0, cells := 0, slots := 0, locals := 0 }
def M_thrown (m : xMem) : Option (Int32) :=
  some (m.1 0 0)
abbrev rm_M_throwsIf : Room := { frames := 0, cells := 0, slots := 0, locals := 0 }
def M_throwsIf_b10 (p0 : Int32) (s0 : Int32) (m : xMem) : Option (Int32 × xMem) :=
  nm (upI m 0 0 s0) fun m1 =>
  (rz p0).bind fun w => some (w, m1)
def M_throwsIf (m : xMem) (p0 : Int32) : Option (Int32 × xMem) :=
  if p0 = 0 then
    M_throwsIf_b10 p0 0 m
  else
    M_throwsIf_b10 p0 1 m
abbrev rm_M_four : Room := { frames := 0, cells := 0, slots := 0, locals := 0 }
def M_four_b3 (p0 : Int32) : Nat → Int32 → xMem → Option (xMem)
  | 0, _, _ => none
  | n + 1, v2, m =>
    if v2 < 0 then
      some m
    else
      (ix (m.1 0 2) 940).bind fun j2 => nm (upI m 1 j2 (vp_nar .byte (i_b (i_shr p0 v2)))) fun m1 =>
      nm (upI m1 0 2 ((m1.1 0 2) + 1)) fun m3 =>
      M_four_b3 p0 n (v2 + (-8)) m3
def M_four (m : xMem) (p0 : Int32) : Option (xMem) :=
  M_four_b3 p0 1000 24 m
abbrev rm_M_feed : Room := { frames := 1, cells := 0, slots := 0, locals := 22 }
def M_feed (m : xMem) (p0 : Int32) (p1 : Int32) (p2 : Int32) (p3 : Int32) (p4 : Int32) : Option (Int32 × xMem) :=
  nm (upI m 0 0 0) fun m1 =>
  if 940 < ((m1.1 0 2) + 20) then
    some ((-1), m1)
  else
    (M_four m1 p0).bind fun r2 =>
    (M_four r2 p1).bind fun r3 =>
    (M_four r3 p2).bind fun r4 =>
    (M_four r4 p3).bind fun r5 =>
    (M_four r5 p4).bind fun r6 =>
    some (r6.1 0 2, r6)
abbrev rm_M_end : Room := { frames := 0, cells := 0, slots := 0, locals := 0 }
def M_end (m : xMem) (p0 : Int32) : Option (Int32 × xMem) :=
  nm (upI m 0 0 0) fun m1 =>
  if p0 < 0 then
    some (0, m1)
  else
    if (m1.1 0 2) < p0 then
      some (0, m1)
    else
      nm (upI m1 0 2 p0) fun m2 =>
      some (1, m2)
abbrev rm_M_taken : Room := { frames := 0, cells := 0, slots := 0, locals := 0 }
def M_taken (m : xMem) (p0 : Int32) : Option (xMem) :=
  nm (upI m 0 3 (m.1 0 2)) fun m1 =>
  nm (upI m1 0 2 0) fun m2 =>
  nm (upI m2 0 4 0) fun m3 =>
  nm (upI m3 0 5 p0) fun m4 =>
  some m4
abbrev rm_M_isIn : Room := { frames := 0, cells := 0, slots := 0, locals := 0 }
def M_isIn (m : xMem) (p0 : Int32) (p1 : Int32) (p2 : Int32) : Option (Int32) :=
  if p0 < p1 then
    some 0
  else
    if p2 < p0 then
      some 0
    else
      some 1
abbrev rm_M_bitOf : Room := { frames := 0, cells := 0, slots := 0, locals := 0 }
def M_bitOf (m : xMem) (p0 : Int32) (p1 : Int32) : Option (Int32) :=
  if ((i_shr p0 p1) &&& 1) = 1 then
    some 1
  else
    some 0
abbrev rm_M_greater : Room := { frames := 0, cells := 0, slots := 0, locals := 0 }
def M_greater (m : xMem) (p0 : Int32) (p1 : Int32) : Option (Int32) :=
  if p1 < p0 then
    some p0
  else
    some p1
abbrev rm_M_absolute : Room := { frames := 0, cells := 0, slots := 0, locals := 0 }
def M_absolute (m : xMem) (p0 : Int32) : Option (Int32) :=
  if p0 < 0 then
    some (-p0)
  else
    some p0
abbrev rm_M_octet : Room := { frames := 0, cells := 0, slots := 0, locals := 0 }
def M_octet (m : xMem) (p0 : Int32) : Option (Int32) :=
  (ix p0 940).bind fun j1 =>
  some ((m.1 1 j1) &&& 255)
abbrev rm_M_clears : Room := { frames := 0, cells := 0, slots := 0, locals := 0 }
def M_clears_b2 : Nat → Int32 → xMem → Option (xMem)
  | 0, _, _ => none
  | n + 1, v1, m =>
    if v1 < 97 then
      (ix v1 97).bind fun j2 => nm (upI m 3 j2 0) fun m1 =>
      M_clears_b2 n (v1 + 1) m1
    else
      nm (upI m 3 3 6) fun m3 =>
      nm (upI m3 3 4 6) fun m4 =>
      nm (upI m4 3 5 6) fun m5 =>
      nm (upI m5 3 6 17) fun m6 =>
      some m6
def M_clears (m : xMem) : Option (xMem) :=
  M_clears_b2 1000 0 m
abbrev rm_M_peek : Room := { frames := 0, cells := 0, slots := 0, locals := 0 }
def M_peek (m : xMem) : Option (Int32) :=
  if (m.1 0 4) < (m.1 0 3) then
    (ix (m.1 0 4) 940).bind fun j1 =>
    some ((m.1 1 j1) &&& 255)
  else
    some ((-1))
abbrev rm_M_isSmall : Room := { frames := 0, cells := 0, slots := 0, locals := 0 }
def M_isSmall (m : xMem) (p0 : Int32) : Option (Int32) :=
  if p0 < 97 then
    some 0
  else
    if 122 < p0 then
      some 0
    else
      some 1
abbrev rm_M_isDigit : Room := { frames := 0, cells := 0, slots := 0, locals := 0 }
def M_isDigit (m : xMem) (p0 : Int32) : Option (Int32) :=
  if p0 < 48 then
    some 0
  else
    if 57 < p0 then
      some 0
    else
      some 1
abbrev rm_M_go : Room := { frames := 1, cells := 0, slots := 0, locals := 20 }
def M_go_b18 (k0 : xMem → Option (xMem)) (m : xMem) : Option (xMem) :=
  nm (upI m 0 4 ((m.1 0 4) + 1)) fun m7 =>
  k0 m7
def M_go_b145 (v1 : Int32) (s0 : Int32) (m : xMem) : Option (xMem) :=
  nm (upI m 0 11 s0) fun m12 =>
  nm (upI m12 0 14 v1) fun m13 =>
  nm (upI m13 0 4 ((m13.1 0 4) + 1)) fun m14 =>
  some m14
def M_go_b275 (k181 : Int32 → Int32 → xMem → Option (xMem)) (v2 : Int32) (v3 : Int32) (m : xMem) : Option (xMem) :=
  nm (upI m 0 13 ((m.1 0 13) + 1)) fun m29 =>
  nm (upI m29 0 4 ((m29.1 0 4) + 1)) fun m30 =>
  k181 v2 v3 m30
def M_go_b248 (k181 : Int32 → Int32 → xMem → Option (xMem)) (v2 : Int32) (v3 : Int32) (m : xMem) : Option (xMem) :=
  if (m.1 0 13) < 3 then
    (M_peek m).bind fun r27 =>
    nm (upI m 0 14 (((10 * (m.1 0 14)) + r27) - 48)) fun m28 =>
    M_go_b275 k181 v2 v3 m28
  else
    M_go_b275 k181 v2 v3 m
def M_go_b221 (k181 : Int32 → Int32 → xMem → Option (xMem)) (v2 : Int32) (s0 : Int32) (m : xMem) : Option (xMem) :=
  if (m.1 0 13) < 7 then
    (M_peek m).bind fun r25 =>
    nm (upL m 0 17 ((l_shl (m.2 0 17) 8) ||| (i_l r25))) fun m26 =>
    M_go_b248 k181 v2 s0 m26
  else
    M_go_b248 k181 v2 s0 m
def M_go_b201 (k181 : Int32 → Int32 → xMem → Option (xMem)) (v2 : Int32) (v3 : Int32) (m : xMem) : Option (xMem) :=
  if v3 = 0 then
    M_go_b221 k181 v2 0 m
  else
    (M_peek m).bind fun r23 =>
    (M_isSmall m r23).bind fun r24 =>
    if r24 = v2 then
      M_go_b221 k181 v2 1 m
    else
      M_go_b221 k181 v2 0 m
def M_go_b333 (s0 : Int32) (m : xMem) : Option (xMem) :=
  nm (upI m 0 11 s0) fun m22 =>
  some m22
def M_go_b317 (v2 : Int32) (s0 : Int32) (s1 : Int32) (m : xMem) : Option (xMem) :=
  if s0 < s1 then
    M_go_b333 4 m
  else
    if v2 = 0 then
      M_go_b333 2 m
    else
      M_go_b333 1 m
def M_go_b181 : Nat → Int32 → Int32 → xMem → Option (xMem)
  | 0, _, _, _ => none
  | n + 1, v2, v3, m =>
    (M_peek m).bind fun r18 =>
    (M_isSmall m r18).bind fun r19 =>
    if r19 = 0 then
      (M_peek m).bind fun r20 =>
      (M_isDigit m r20).bind fun r21 =>
      if r21 = 0 then
        if v3 = 0 then
          M_go_b333 4 m
        else
          if v2 = 0 then
            M_go_b317 v2 3 (m.1 0 13) m
          else
            M_go_b317 v2 7 (m.1 0 13) m
      else
        M_go_b201 (M_go_b181 n) v2 v3 m
    else
      M_go_b201 (M_go_b181 n) v2 v3 m
def M_go_b164 (v1 : Int32) (m : xMem) : Option (xMem) :=
  (M_isSmall m v1).bind fun r15 =>
  nm (upL m 0 17 0) fun m16 =>
  nm (upI m16 0 14 0) fun m17 =>
  M_go_b181 1000 r15 1 m17
def M_go_b80 (m : xMem) : Option (xMem) :=
  (M_peek m).bind fun r8 =>
  if r8 < 0 then
    nm (upI m 0 11 0) fun m9 =>
    some m9
  else
    (M_isSmall m r8).bind fun r10 =>
    if r10 = 0 then
      (M_isDigit m r8).bind fun r11 =>
      if r11 = 0 then
        if r8 = 59 then
          M_go_b145 r8 3 m
        else
          if r8 = 40 then
            M_go_b145 r8 3 m
          else
            if r8 = 41 then
              M_go_b145 r8 3 m
            else
              if r8 < 60 then
                M_go_b145 r8 4 m
              else
                if 62 < r8 then
                  M_go_b145 r8 4 m
                else
                  M_go_b145 r8 3 m
      else
        M_go_b164 r8 m
    else
      M_go_b164 r8 m
def M_go_b0 : Nat → xMem → Option (xMem)
  | 0, _ => none
  | n + 1, m =>
    (M_peek m).bind fun r1 =>
    if r1 = 32 then
      M_go_b18 (M_go_b0 n) m
    else
      (M_peek m).bind fun r2 =>
      if r2 = 10 then
        M_go_b18 (M_go_b0 n) m
      else
        nm (upI m 0 12 (m.1 0 4)) fun m3 =>
        nm (upI m3 0 13 0) fun m4 =>
        if (m4.1 0 5) < (m4.1 0 3) then
          if (m4.1 0 4) < (m4.1 0 5) then
            M_go_b80 m4
          else
            nm (upI m4 0 12 (m4.1 0 5)) fun m5 =>
            nm (upI m5 0 11 4) fun m6 =>
            some m6
        else
          M_go_b80 m4
def M_go (m : xMem) : Option (xMem) :=
  M_go_b0 1000 m
abbrev rm_M_bad : Room := { frames := 0, cells := 0, slots := 0, locals := 0 }
def M_bad (m : xMem) (p0 : Int32) : Option (Int32 × xMem) :=
  nm (upI m 0 15 p0) fun m1 =>
  nm (upI m1 0 16 (m1.1 0 12)) fun m2 =>
  some (0, m2)
abbrev rm_M_isWord : Room := { frames := 0, cells := 0, slots := 0, locals := 0 }
def M_isWord (m : xMem) (p0 : Int64) : Option (Int32) :=
  if (m.1 0 11) = 1 then
    if (lg_cmp (m.2 0 17) p0) = 0 then
      some 1
    else
      some 0
  else
    some 0
abbrev rm_M_isSign : Room := { frames := 0, cells := 0, slots := 0, locals := 0 }
def M_isSign (m : xMem) (p0 : Int32) : Option (Int32) :=
  if (m.1 0 11) = 3 then
    if (m.1 0 14) = p0 then
      some 1
    else
      some 0
  else
    some 0
abbrev rm_M_sign : Room := { frames := 2, cells := 0, slots := 0, locals := 43 }
def M_sign (m : xMem) (p0 : Int32) : Option (Int32 × xMem) :=
  (M_isSign m p0).bind fun r1 =>
  if r1 = 0 then
    (M_bad m 1).bind fun r2 =>
    (rz r2.1).bind fun w => some (w, r2.2)
  else
    (M_go m).bind fun r3 =>
    some (1, r3)
abbrev rm_M_isName : Room := { frames := 0, cells := 0, slots := 0, locals := 0 }
def M_isName_b16 (m : xMem) : Nat → Int32 → Int32 → Option (Int32)
  | 0, _, _ => none
  | n + 1, v1, v2 =>
    if v2 < 32 then
      if v1 = 0 then
        M_isName_b16 m n 0 (v2 + 1)
      else
        (ix v2 32).bind fun j1 =>
        if (lg_cmp (m.2 0 17) (m.2 6 j1)) = 0 then
          M_isName_b16 m n 0 (v2 + 1)
        else
          M_isName_b16 m n 1 (v2 + 1)
    else
      (rz v1).bind fun w => some w
def M_isName (m : xMem) : Option (Int32) :=
  if (m.1 0 11) = 1 then
    M_isName_b16 m 1000 1 0
  else
    M_isName_b16 m 1000 0 0
abbrev rm_M_takes : Room := { frames := 2, cells := 0, slots := 0, locals := 43 }
def M_takes (m : xMem) (p0 : Int32) (p1 : Int32) : Option (Int32 × xMem) :=
  if (m.1 0 11) = 2 then
    (M_isIn m (m.1 0 14) p0 p1).bind fun r1 =>
    if r1 = 0 then
      (M_bad m 2).bind fun r2 =>
      (rz r2.1).bind fun w => some (w, r2.2)
    else
      nm (upI m 0 18 (m.1 0 14)) fun m3 =>
      (M_go m3).bind fun r4 =>
      some (1, r4)
  else
    (M_bad m 1).bind fun r5 =>
    (rz r5.1).bind fun w => some (w, r5.2)
abbrev rm_M_puts : Room := { frames := 3, cells := 0, slots := 0, locals := 65 }
def M_puts (m : xMem) (p0 : Int32) (p1 : Int32) (p2 : Int32) : Option (Int32 × xMem) :=
  (M_takes m p1 p2).bind fun r1 =>
  if r1.1 = 0 then
    some (0, r1.2)
  else
    (ix p0 97).bind fun j3 => nm (upI r1.2 3 j3 (r1.2.1 0 18)) fun m2 =>
    some (1, m2)
abbrev rm_M_isOneOf : Room := { frames := 1, cells := 0, slots := 0, locals := 21 }
def M_isOneOf_b45 (p0 : Int32) (k7 : Int32 → xMem → Option (Int32 × xMem)) (v2 : Int32) (s0 : Int32) (m : xMem) : Option (Int32 × xMem) :=
  nm (upI m 0 18 s0) fun m4 =>
  k7 (v2 + 1) m4
def M_isOneOf_b7 (p0 : Int32) : Nat → Int32 → xMem → Option (Int32 × xMem)
  | 0, _, _ => none
  | n + 1, v2, m =>
    if v2 < 4 then
      if (m.1 0 11) = 1 then
        (ix (p0 + v2) 32).bind fun j2 =>
        if (lg_cmp (m.2 0 17) (m.2 6 j2)) = 0 then
          M_isOneOf_b45 p0 (M_isOneOf_b7 p0 n) v2 v2 m
        else
          M_isOneOf_b45 p0 (M_isOneOf_b7 p0 n) v2 (m.1 0 18) m
      else
        M_isOneOf_b45 p0 (M_isOneOf_b7 p0 n) v2 (m.1 0 18) m
    else
      if (m.1 0 18) < 0 then
        (M_bad m 1).bind fun r3 =>
        if r3.1 = 0 then
          some (0, r3.2)
        else
          some (1, r3.2)
      else
        some (1, m)
def M_isOneOf (m : xMem) (p0 : Int32) : Option (Int32 × xMem) :=
  nm (upI m 0 18 ((-1))) fun m1 =>
  M_isOneOf_b7 p0 1000 0 m1
abbrev rm_M_isKind : Room := { frames := 2, cells := 0, slots := 0, locals := 43 }
def M_isKind (m : xMem) : Option (Int32 × xMem) :=
  (M_isOneOf m 8).bind fun r1 =>
  (rz r1.1).bind fun w => some (w, r1.2)
abbrev rm_M_isSide : Room := { frames := 2, cells := 0, slots := 0, locals := 43 }
def M_isSide (m : xMem) : Option (Int32 × xMem) :=
  (M_isOneOf m 12).bind fun r1 =>
  (rz r1.1).bind fun w => some (w, r1.2)
abbrev rm_M_find : Room := { frames := 0, cells := 0, slots := 0, locals := 0 }
def M_find_b2 (m : xMem) (p0 : Int32) (p1 : Int32) : Nat → Int32 → Option (Int32)
  | 0, _ => none
  | n + 1, v3 =>
    if v3 < p1 then
      (ix (p0 + v3) 40).bind fun j1 =>
      if (lg_cmp (m.2 5 j1) (m.2 0 17)) = 0 then
        some v3
      else
        M_find_b2 m p0 p1 n (v3 + 1)
    else
      some ((-1))
def M_find (m : xMem) (p0 : Int32) (p1 : Int32) : Option (Int32) :=
  M_find_b2 m p0 p1 1000 0
abbrev rm_M_fresh : Room := { frames := 2, cells := 0, slots := 0, locals := 43 }
def M_fresh_b58 (p0 : Int32) (m : xMem) : Option (Int32 × xMem) :=
  (M_bad m 3).bind fun r9 =>
  (rz r9.1).bind fun w => some (w, r9.2)
def M_fresh (m : xMem) (p0 : Int32) : Option (Int32 × xMem) :=
  (M_isName m).bind fun r1 =>
  if r1 = 0 then
    (M_bad m 1).bind fun r2 =>
    (rz r2.1).bind fun w => some (w, r2.2)
  else
    (M_find m 20 (m.1 3 0)).bind fun r3 =>
    if r3 < 0 then
      (M_find m 26 (m.1 3 1)).bind fun r4 =>
      if r4 < 0 then
        (M_find m 32 (m.1 3 2)).bind fun r5 =>
        if r5 < 0 then
          (ix p0 40).bind fun j7 => nm (upL m 5 j7 (m.2 0 17)) fun m6 =>
          (M_go m6).bind fun r8 =>
          some (1, r8)
        else
          M_fresh_b58 p0 m
      else
        M_fresh_b58 p0 m
    else
      M_fresh_b58 p0 m
abbrev rm_M_looksAt : Room := { frames := 1, cells := 0, slots := 0, locals := 23 }
def M_looksAt (m : xMem) (p0 : Int32) (p1 : Int32) : Option (Int32 × xMem) :=
  (M_isName m).bind fun r1 =>
  if r1 = 0 then
    (M_bad m 1).bind fun r2 =>
    (rz r2.1).bind fun w => some (w, r2.2)
  else
    (M_find m p0 p1).bind fun r3 =>
    nm (upI m 0 18 r3) fun m4 =>
    if (m4.1 0 18) < 0 then
      (M_bad m4 3).bind fun r5 =>
      if r5.1 = 0 then
        some (0, r5.2)
      else
        some (1, r5.2)
    else
      some (1, m4)
abbrev rm_M_takesName : Room := { frames := 2, cells := 0, slots := 0, locals := 45 }
def M_takesName (m : xMem) (p0 : Int32) (p1 : Int32) : Option (Int32 × xMem) :=
  (M_looksAt m p0 p1).bind fun r1 =>
  if r1.1 = 0 then
    some (0, r1.2)
  else
    (M_go r1.2).bind fun r2 =>
    some (1, r2)
abbrev rm_M_readBed : Room := { frames := 4, cells := 0, slots := 0, locals := 88 }
def M_readBed_b96 : Nat → Int32 → Int32 → xMem → Option (Int32 × xMem)
  | 0, _, _, _ => none
  | n + 1, v1, v2, m =>
    if v2 < v1 then
      (ix (7 + v2) 97).bind fun j9 =>
      (ix (7 + v1) 97).bind fun j10 =>
      if (m.1 3 j9) = (m.1 3 j10) then
        (ix (13 + v2) 97).bind fun j11 =>
        if (m.1 3 j11) = (m.1 0 14) then
          (M_bad m 3).bind fun r12 =>
          (rz r12.1).bind fun w => some (w, r12.2)
        else
          M_readBed_b96 n v1 (v2 + 1) m
      else
        M_readBed_b96 n v1 (v2 + 1) m
    else
      (ix (13 + v1) 97).bind fun j14 => nm (upI m 3 j14 (m.1 0 14)) fun m13 =>
      (ix (19 + v1) 97).bind fun j16 => nm (upI m13 3 j16 0) fun m15 =>
      nm (upI m15 3 0 ((m15.1 3 0) + 1)) fun m17 =>
      (M_go m17).bind fun r18 =>
      some (1, r18)
def M_readBed (m : xMem) : Option (Int32 × xMem) :=
  nm (m.1 3 0) fun x1 =>
  if x1 = 6 then
    (M_bad m 4).bind fun r2 =>
    (rz r2.1).bind fun w => some (w, r2.2)
  else
    nm (upI m 0 20 1) fun m3 =>
    (M_go m3).bind fun r4 =>
    (M_fresh r4 (20 + x1)).bind fun r5 =>
    if r5.1 = 0 then
      some (0, r5.2)
    else
      (M_puts r5.2 (7 + x1) 0 ((r5.2.1 3 3) - 1)).bind fun r6 =>
      if r6.1 = 0 then
        some (0, r6.2)
      else
        if (r6.2.1 0 11) = 2 then
          if (r6.2.1 0 14) < (r6.2.1 3 4) then
            M_readBed_b96 1000 x1 0 r6.2
          else
            (M_bad r6.2 2).bind fun r7 =>
            (rz r7.1).bind fun w => some (w, r7.2)
        else
          (M_bad r6.2 1).bind fun r8 =>
          (rz r8.1).bind fun w => some (w, r8.2)
abbrev rm_M_readOwl : Room := { frames := 4, cells := 0, slots := 0, locals := 88 }
def M_readOwl_b53 : Nat → Int32 → Int32 → xMem → Option (Int32 × xMem)
  | 0, _, _, _ => none
  | n + 1, v1, v2, m =>
    if v2 < v1 then
      (ix (25 + v2) 97).bind fun j6 =>
      if (m.1 3 j6) = (m.1 0 18) then
        (M_bad m 3).bind fun r7 =>
        (rz r7.1).bind fun w => some (w, r7.2)
      else
        M_readOwl_b53 n v1 (v2 + 1) m
    else
      (ix (25 + v1) 97).bind fun j9 => nm (upI m 3 j9 (m.1 0 18)) fun m8 =>
      (M_go m8).bind fun r10 =>
      (M_puts r10 (31 + v1) 1 20).bind fun r11 =>
      if r11.1 = 0 then
        some (0, r11.2)
      else
        nm (upI r11.2 3 1 ((r11.2.1 3 1) + 1)) fun m12 =>
        some (1, m12)
def M_readOwl (m : xMem) : Option (Int32 × xMem) :=
  nm (m.1 3 1) fun x1 =>
  if x1 = 6 then
    (M_bad m 4).bind fun r2 =>
    (rz r2.1).bind fun w => some (w, r2.2)
  else
    (M_go m).bind fun r3 =>
    (M_fresh r3 (26 + x1)).bind fun r4 =>
    if r4.1 = 0 then
      some (0, r4.2)
    else
      (M_looksAt r4.2 20 (r4.2.1 3 0)).bind fun r5 =>
      if r5.1 = 0 then
        some (0, r5.2)
      else
        M_readOwl_b53 1000 x1 0 r5.2
abbrev rm_M_readBad : Room := { frames := 3, cells := 0, slots := 0, locals := 63 }
def M_readBad (m : xMem) : Option (Int32 × xMem) :=
  (M_go m).bind fun r1 =>
  (M_looksAt r1 26 (r1.1 3 1)).bind fun r2 =>
  if r2.1 = 0 then
    some (0, r2.2)
  else
    nm (r2.2.1 0 18) fun x3 =>
    (ix (37 + x3) 97).bind fun j4 =>
    if 0 < (r2.2.1 3 j4) then
      (M_bad r2.2 3).bind fun r5 =>
      (rz r5.1).bind fun w => some (w, r5.2)
    else
      (M_go r2.2).bind fun r6 =>
      (M_isSide r6).bind fun r7 =>
      if r7.1 = 0 then
        some (0, r7.2)
      else
        (ix (37 + x3) 97).bind fun j9 => nm (upI r7.2 3 j9 ((r7.2.1 0 18) + 1)) fun m8 =>
        (M_go m8).bind fun r10 =>
        some (1, r10)
abbrev rm_M_readDeaf : Room := { frames := 3, cells := 0, slots := 0, locals := 67 }
def M_readDeaf (m : xMem) : Option (Int32 × xMem) :=
  (M_go m).bind fun r1 =>
  (M_takesName r1 26 (r1.1 3 1)).bind fun r2 =>
  if r2.1 = 0 then
    some (0, r2.2)
  else
    nm (r2.2.1 0 18) fun x3 =>
    (M_isKind r2.2).bind fun r4 =>
    if r4.1 = 0 then
      some (0, r4.2)
    else
      (ix (43 + x3) 97).bind fun j5 =>
      (M_bitOf r4.2 (r4.2.1 3 j5) (r4.2.1 0 18)).bind fun r6 =>
      if r6 = 0 then
        nm (43 + x3) fun x7 =>
        (ix x7 97).bind fun j8 =>
        (ix x7 97).bind fun j10 => nm (upI r4.2 3 j10 ((r4.2.1 3 j8) ||| (i_shl 1 (r4.2.1 0 18)))) fun m9 =>
        (M_go m9).bind fun r11 =>
        some (1, r11)
      else
        (M_bad r4.2 3).bind fun r12 =>
        (rz r12.1).bind fun w => some (w, r12.2)
abbrev rm_M_readSound : Room := { frames := 4, cells := 0, slots := 0, locals := 88 }
def M_readSound (m : xMem) : Option (Int32 × xMem) :=
  nm (m.1 3 2) fun x1 =>
  if x1 = 8 then
    (M_bad m 4).bind fun r2 =>
    (rz r2.1).bind fun w => some (w, r2.2)
  else
    nm (upI m 0 20 1) fun m3 =>
    (M_go m3).bind fun r4 =>
    (M_fresh r4 (32 + x1)).bind fun r5 =>
    if r5.1 = 0 then
      some (0, r5.2)
    else
      (M_isKind r5.2).bind fun r6 =>
      if r6.1 = 0 then
        some (0, r6.2)
      else
        (ix (49 + x1) 97).bind fun j8 => nm (upI r6.2 3 j8 (r6.2.1 0 18)) fun m7 =>
        (M_go m7).bind fun r9 =>
        (M_puts r9 (57 + x1) 0 ((r9.1 3 3) - 1)).bind fun r10 =>
        if r10.1 = 0 then
          some (0, r10.2)
        else
          (M_puts r10.2 (65 + x1) 0 ((r10.2.1 3 4) - 1)).bind fun r11 =>
          if r11.1 = 0 then
            some (0, r11.2)
          else
            (M_puts r11.2 (73 + x1) 1 30).bind fun r12 =>
            if r12.1 = 0 then
              some (0, r12.2)
            else
              (M_puts r12.2 (81 + x1) 0 23).bind fun r13 =>
              if r13.1 = 0 then
                some (0, r13.2)
              else
                (M_puts r13.2 (89 + x1) 0 23).bind fun r14 =>
                if r14.1 = 0 then
                  some (0, r14.2)
                else
                  nm (upI r14.2 3 2 ((r14.2.1 3 2) + 1)) fun m15 =>
                  some (1, m15)
abbrev rm_M_readWants : Room := { frames := 3, cells := 0, slots := 0, locals := 63 }
def M_readWants (m : xMem) : Option (Int32 × xMem) :=
  (M_go m).bind fun r1 =>
  (M_looksAt r1 20 (r1.1 3 0)).bind fun r2 =>
  if r2.1 = 0 then
    some (0, r2.2)
  else
    nm (r2.2.1 0 18) fun x3 =>
    (ix (19 + x3) 97).bind fun j4 =>
    if 0 < (r2.2.1 3 j4) then
      (M_bad r2.2 3).bind fun r5 =>
      (rz r5.1).bind fun w => some (w, r5.2)
    else
      (M_go r2.2).bind fun r6 =>
      (M_isKind r6).bind fun r7 =>
      if r7.1 = 0 then
        some (0, r7.2)
      else
        (ix (19 + x3) 97).bind fun j9 => nm (upI r7.2 3 j9 ((r7.2.1 0 18) + 1)) fun m8 =>
        (M_go m8).bind fun r10 =>
        some (1, r10)
abbrev rm_M_line : Room := { frames := 5, cells := 0, slots := 0, locals := 110 }
def M_line (m : xMem) : Option (Int32 × xMem) :=
  (M_isWord m 448546567013).bind fun r1 =>
  if r1 = 0 then
    (M_isWord m 6448484).bind fun r2 =>
    if r2 = 0 then
      (M_isWord m 7305068).bind fun r3 =>
      if r3 = 0 then
        (M_isWord m 6447460).bind fun r4 =>
        if r4 = 0 then
          (M_isWord m 1684365670).bind fun r5 =>
          if r5 = 0 then
            (M_isWord m 495791205988).bind fun r6 =>
            if r6 = 0 then
              (M_isWord m 512735736947).bind fun r7 =>
              if r7 = 0 then
                (M_isWord m 1936225652).bind fun r8 =>
                if r8 = 0 then
                  (M_bad m 1).bind fun r9 =>
                  (rz r9.1).bind fun w => some (w, r9.2)
                else
                  if (m.1 0 21) = 0 then
                    nm (upI m 0 21 1) fun m10 =>
                    (M_go m10).bind fun r11 =>
                    (M_puts r11 5 0 23).bind fun r12 =>
                    if r12.1 = 0 then
                      some (0, r12.2)
                    else
                      (M_puts r12.2 6 0 23).bind fun r13 =>
                      if r13.1 = 0 then
                        some (0, r13.2)
                      else
                        some (1, r13.2)
                  else
                    (M_bad m 3).bind fun r14 =>
                    (rz r14.1).bind fun w => some (w, r14.2)
              else
                (M_readWants m).bind fun r15 =>
                (rz r15.1).bind fun w => some (w, r15.2)
            else
              (M_readSound m).bind fun r16 =>
              (rz r16.1).bind fun w => some (w, r16.2)
          else
            (M_readDeaf m).bind fun r17 =>
            (rz r17.1).bind fun w => some (w, r17.2)
        else
          (M_readBad m).bind fun r18 =>
          (rz r18.1).bind fun w => some (w, r18.2)
      else
        (M_readOwl m).bind fun r19 =>
        (rz r19.1).bind fun w => some (w, r19.2)
    else
      (M_readBed m).bind fun r20 =>
      (rz r20.1).bind fun w => some (w, r20.2)
  else
    if (m.1 0 20) = 0 then
      nm (upI m 0 20 1) fun m21 =>
      (M_go m21).bind fun r22 =>
      (M_puts r22 3 2 9).bind fun r23 =>
      if r23.1 = 0 then
        some (0, r23.2)
      else
        (M_puts r23.2 4 2 9).bind fun r24 =>
        if r24.1 = 0 then
          some (0, r24.2)
        else
          some (1, r24.2)
    else
      (M_bad m 3).bind fun r25 =>
      (rz r25.1).bind fun w => some (w, r25.2)
abbrev rm_M_house : Room := { frames := 6, cells := 0, slots := 0, locals := 130 }
def M_house_b113 (k85 : Int32 → xMem → Option (Int32 × xMem)) (v1 : Int32) (s0 : Int32) (s1 : Int32) (m : xMem) : Option (Int32 × xMem) :=
  (ix s1 302).bind fun j14 => nm (upI m 2 j14 s0) fun m13 =>
  k85 (v1 + 1) m13
def M_house_b151 : Nat → Int32 → xMem → Option (Int32 × xMem)
  | 0, _, _ => none
  | n + 1, v1, m =>
    if v1 < 6 then
      (ix (25 + v1) 302).bind fun j18 =>
      (ix (103 + v1) 302).bind fun j20 => nm (upI m 2 j20 (m.1 2 j18)) fun m19 =>
      M_house_b151 n (v1 + 1) m19
    else
      nm (upI m 0 24 0) fun m21 =>
      some (m21.1 0 19, m21)
def M_house_b122 : Nat → Int32 → xMem → Option (Int32 × xMem)
  | 0, _, _ => none
  | n + 1, v1, m =>
    if v1 < 20 then
      (ix (20 + v1) 40).bind fun j15 =>
      (ix v1 40).bind fun j17 => nm (upL m 5 j17 (m.2 5 j15)) fun m16 =>
      M_house_b122 n (v1 + 1) m16
    else
      M_house_b151 1000 0 m
def M_house_b85 : Nat → Int32 → xMem → Option (Int32 × xMem)
  | 0, _, _ => none
  | n + 1, v1, m =>
    if v1 < 302 then
      if v1 < 97 then
        (ix v1 97).bind fun j12 =>
        M_house_b113 (M_house_b85 n) v1 (m.1 3 j12) v1 m
      else
        M_house_b113 (M_house_b85 n) v1 0 v1 m
    else
      M_house_b122 1000 0 m
def M_house_b40 : Nat → xMem → Option (Int32 × xMem)
  | 0, _ => none
  | n + 1, m =>
    if (m.1 0 11) = 0 then
      M_house_b85 1000 0 m
    else
      (M_line m).bind fun r9 =>
      if r9.1 = 0 then
        some (((-1)) - (r9.2.1 0 16), r9.2)
      else
        (M_sign r9.2 59).bind fun r10 =>
        if r10.1 = 0 then
          some (((-1)) - (r10.2.1 0 16), r10.2)
        else
          nm (upI r10.2 0 19 ((r10.2.1 0 19) + 1)) fun m11 =>
          M_house_b40 n m11
def M_house (m : xMem) : Option (Int32 × xMem) :=
  nm (upI m 0 0 0) fun m1 =>
  (M_taken m1 900).bind fun r2 =>
  nm (upI r2 0 15 0) fun m3 =>
  nm (upI m3 0 19 0) fun m4 =>
  nm (upI m4 0 20 0) fun m5 =>
  nm (upI m5 0 21 0) fun m6 =>
  (M_clears m6).bind fun r7 =>
  (M_go r7).bind fun r8 =>
  M_house_b40 1000 r8
abbrev rm_M_fault : Room := { frames := 0, cells := 0, slots := 0, locals := 0 }
def M_fault (m : xMem) : Option (Int32 × xMem) :=
  nm (upI m 0 0 0) fun m1 =>
  some (m1.1 0 15, m1)
abbrev rm_M_isBed : Room := { frames := 1, cells := 0, slots := 0, locals := 22 }
def M_isBed (m : xMem) (p0 : Int32) : Option (Int32) :=
  (M_isIn m p0 0 ((m.1 2 0) - 1)).bind fun r1 =>
  (rz r1).bind fun w => some w
abbrev rm_M_isOwl : Room := { frames := 1, cells := 0, slots := 0, locals := 22 }
def M_isOwl (m : xMem) (p0 : Int32) : Option (Int32) :=
  (M_isIn m p0 0 ((m.1 2 1) - 1)).bind fun r1 =>
  (rz r1).bind fun w => some w
abbrev rm_M_isSound : Room := { frames := 1, cells := 0, slots := 0, locals := 22 }
def M_isSound (m : xMem) (p0 : Int32) : Option (Int32) :=
  (M_isIn m p0 0 ((m.1 2 2) - 1)).bind fun r1 =>
  (rz r1).bind fun w => some w
abbrev rm_M_isCell : Room := { frames := 1, cells := 0, slots := 0, locals := 22 }
def M_isCell (m : xMem) (p0 : Int32) (p1 : Int32) : Option (Int32) :=
  (M_isIn m p0 0 ((m.1 2 3) - 1)).bind fun r1 =>
  if r1 = 0 then
    some 0
  else
    (M_isIn m p1 0 ((m.1 2 4) - 1)).bind fun r2 =>
    if r2 = 0 then
      some 0
    else
      some 1
abbrev rm_M_isHour : Room := { frames := 1, cells := 0, slots := 0, locals := 22 }
def M_isHour (m : xMem) (p0 : Int32) (p1 : Int32) (p2 : Int32) : Option (Int32) :=
  if p2 < p1 then
    if p0 < p1 then
      if p2 < p0 then
        some 0
      else
        some 1
    else
      some 1
  else
    (M_isIn m p0 p1 p2).bind fun r1 =>
    (rz r1).bind fun w => some w
abbrev rm_M_isShut : Room := { frames := 2, cells := 0, slots := 0, locals := 44 }
def M_isShut (m : xMem) : Option (Int32) :=
  (M_isHour m (i_rem (m.1 2 97) 24) (m.1 2 5) (m.1 2 6)).bind fun r1 =>
  (rz r1).bind fun w => some w
abbrev rm_M_isOn : Room := { frames := 2, cells := 0, slots := 0, locals := 44 }
def M_isOn (m : xMem) (p0 : Int32) : Option (Int32) :=
  if p0 = (m.1 2 2) then
    if 0 < (m.1 2 100) then
      some 1
    else
      some 0
  else
    (M_bitOf m (m.1 2 98) p0).bind fun r1 =>
    if r1 = 0 then
      (ix (81 + p0) 302).bind fun j2 =>
      (ix (89 + p0) 302).bind fun j3 =>
      (M_isHour m (i_rem (m.1 2 97) 24) (m.1 2 j2) (m.1 2 j3)).bind fun r4 =>
      if r4 = 0 then
        some 0
      else
        some 1
    else
      some 0
abbrev rm_M_xOf : Room := { frames := 0, cells := 0, slots := 0, locals := 0 }
def M_xOf (m : xMem) (p0 : Int32) : Option (Int32) :=
  if p0 = (m.1 2 2) then
    some (m.1 2 101)
  else
    (ix (57 + p0) 302).bind fun j1 =>
    some (m.1 2 j1)
abbrev rm_M_yOf : Room := { frames := 0, cells := 0, slots := 0, locals := 0 }
def M_yOf (m : xMem) (p0 : Int32) : Option (Int32) :=
  if p0 = (m.1 2 2) then
    some (m.1 2 102)
  else
    (ix (65 + p0) 302).bind fun j1 =>
    some (m.1 2 j1)
abbrev rm_M_farFrom : Room := { frames := 1, cells := 0, slots := 0, locals := 20 }
def M_farFrom (m : xMem) (p0 : Int32) (p1 : Int32) (p2 : Int32) : Option (Int32) :=
  (ix (7 + p0) 302).bind fun j1 =>
  (M_absolute m (p1 - (m.1 2 j1))).bind fun r2 =>
  (ix (13 + p0) 302).bind fun j3 =>
  (M_absolute m (p2 - (m.1 2 j3))).bind fun r4 =>
  some (r2 + r4)
abbrev rm_M_sideOf : Room := { frames := 1, cells := 0, slots := 0, locals := 20 }
def M_sideOf_b38 (m : xMem) (p0 : Int32) (p1 : Int32) (p2 : Int32) (v4 : Int32) (v5 : Int32) : Option (Int32) :=
  (M_absolute m v4).bind fun r5 =>
  (M_absolute m v5).bind fun r6 =>
  if r5 < r6 then
    if 0 < v5 then
      some 1
    else
      some 3
  else
    if 0 < v4 then
      some 0
    else
      some 2
def M_sideOf (m : xMem) (p0 : Int32) (p1 : Int32) (p2 : Int32) : Option (Int32) :=
  (ix (7 + p0) 302).bind fun j1 =>
  nm (p1 - (m.1 2 j1)) fun x2 =>
  (ix (13 + p0) 302).bind fun j3 =>
  nm (p2 - (m.1 2 j3)) fun x4 =>
  if x2 = 0 then
    if x4 = 0 then
      some 4
    else
      M_sideOf_b38 m p0 p1 p2 x2 x4
  else
    M_sideOf_b38 m p0 p1 p2 x2 x4
abbrev rm_M_loudAt : Room := { frames := 2, cells := 0, slots := 0, locals := 43 }
def M_loudAt_b29 (m : xMem) (p0 : Int32) (p1 : Int32) (s0 : Int32) : Option (Int32) :=
  (M_xOf m p0).bind fun r2 =>
  (M_yOf m p0).bind fun r3 =>
  (M_farFrom m p1 r2 r3).bind fun r4 =>
  some (s0 - r4)
def M_loudAt (m : xMem) (p0 : Int32) (p1 : Int32) : Option (Int32) :=
  if p0 = (m.1 2 2) then
    M_loudAt_b29 m p0 p1 (m.1 2 100)
  else
    (ix (73 + p0) 302).bind fun j1 =>
    M_loudAt_b29 m p0 p1 (m.1 2 j1)
abbrev rm_M_kindOf : Room := { frames := 0, cells := 0, slots := 0, locals := 0 }
def M_kindOf (m : xMem) (p0 : Int32) : Option (Int32) :=
  if p0 = (m.1 2 2) then
    some 1
  else
    (ix (49 + p0) 302).bind fun j1 =>
    some (m.1 2 j1)
abbrev rm_M_isHeard : Room := { frames := 2, cells := 0, slots := 0, locals := 45 }
def M_isHeard (m : xMem) (p0 : Int32) (p1 : Int32) (p2 : Int32) (p3 : Int32) (p4 : Int32) (p5 : Int32) : Option (Int32) :=
  (ix (43 + p0) 302).bind fun j1 =>
  (M_bitOf m (m.1 2 j1) p2).bind fun r2 =>
  if r2 = 0 then
    (M_sideOf m p1 p3 p4).bind fun r3 =>
    (ix (37 + p0) 302).bind fun j4 =>
    if r3 = ((m.1 2 j4) - 1) then
      some 0
    else
      (M_farFrom m p1 p3 p4).bind fun r5 =>
      (ix (31 + p0) 302).bind fun j6 =>
      if (p5 - r5) < (m.1 2 j6) then
        some 0
      else
        some 1
  else
    some 0
abbrev rm_M_hearsOne : Room := { frames := 3, cells := 0, slots := 0, locals := 71 }
def M_hearsOne_b47 (m : xMem) (p0 : Int32) (p1 : Int32) (p2 : Int32) (s0 : Int32) (s1 : Int32) (s2 : Int32) (s3 : Int32) : Option (Int32) :=
  (M_isHeard m p0 p1 s3 s2 s1 s0).bind fun r5 =>
  (rz r5).bind fun w => some w
def M_hearsOne (m : xMem) (p0 : Int32) (p1 : Int32) (p2 : Int32) : Option (Int32) :=
  (M_kindOf m p2).bind fun r1 =>
  (M_xOf m p2).bind fun r2 =>
  (M_yOf m p2).bind fun r3 =>
  if p2 = (m.1 2 2) then
    M_hearsOne_b47 m p0 p1 p2 (m.1 2 100) r3 r2 r1
  else
    (ix (73 + p2) 302).bind fun j4 =>
    M_hearsOne_b47 m p0 p1 p2 (m.1 2 j4) r3 r2 r1
abbrev rm_M_heardBy : Room := { frames := 4, cells := 0, slots := 0, locals := 94 }
def M_heardBy_b5 (m : xMem) (p0 : Int32) (p1 : Int32) : Nat → Int32 → Int32 → Option (Int32)
  | 0, _, _ => none
  | n + 1, v3, v4 =>
    if (m.1 2 2) < v4 then
      some v3
    else
      (M_isShut m).bind fun r1 =>
      if r1 = 0 then
        (M_isOn m v4).bind fun r2 =>
        if r2 = 0 then
          nm (v3 ||| 0) fun x3 =>
          M_heardBy_b5 m p0 p1 n x3 (v4 + 1)
        else
          (M_hearsOne m p0 p1 v4).bind fun r4 =>
          if r4 = 0 then
            nm (v3 ||| 0) fun x5 =>
            M_heardBy_b5 m p0 p1 n x5 (v4 + 1)
          else
            nm (v3 ||| (i_shl 1 v4)) fun x6 =>
            M_heardBy_b5 m p0 p1 n x6 (v4 + 1)
      else
        some v3
def M_heardBy (m : xMem) (p0 : Int32) (p1 : Int32) : Option (Int32) :=
  M_heardBy_b5 m p0 p1 1000 0 0
abbrev rm_M_seenBy : Room := { frames := 5, cells := 0, slots := 0, locals := 118 }
def M_seenBy_b13 (m : xMem) (p0 : Int32) (p1 : Int32) : Nat → Int32 → Int32 → Int32 → Option (Int32)
  | 0, _, _, _ => none
  | n + 1, v3, v4, v5 =>
    if (m.1 2 2) < v5 then
      some v4
    else
      (M_bitOf m v3 v5).bind fun r2 =>
      if r2 = 0 then
        M_seenBy_b13 m p0 p1 n v3 v4 (v5 + 1)
      else
        if v4 < 0 then
          M_seenBy_b13 m p0 p1 n v3 v5 (v5 + 1)
        else
          (M_loudAt m v5 p1).bind fun r3 =>
          (M_loudAt m v4 p1).bind fun r4 =>
          if r4 < r3 then
            M_seenBy_b13 m p0 p1 n v3 v5 (v5 + 1)
          else
            M_seenBy_b13 m p0 p1 n v3 v4 (v5 + 1)
def M_seenBy (m : xMem) (p0 : Int32) (p1 : Int32) : Option (Int32) :=
  (M_heardBy m p0 p1).bind fun r1 =>
  M_seenBy_b13 m p0 p1 1000 r1 ((-1)) 0
abbrev rm_M_lookBy : Room := { frames := 6, cells := 0, slots := 0, locals := 143 }
def M_lookBy (m : xMem) (p0 : Int32) (p1 : Int32) : Option (Int32) :=
  (M_seenBy m p0 p1).bind fun r1 =>
  if r1 < 0 then
    some ((-1))
  else
    (M_xOf m r1).bind fun r2 =>
    (M_yOf m r1).bind fun r3 =>
    (M_sideOf m p1 r2 r3).bind fun r4 =>
    some r4
abbrev rm_M_owlBy : Room := { frames := 0, cells := 0, slots := 0, locals := 0 }
def M_owlBy_b2 (m : xMem) (p0 : Int32) : Nat → Int32 → Option (Int32)
  | 0, _ => none
  | n + 1, v2 =>
    if v2 < (m.1 2 1) then
      (ix (103 + v2) 302).bind fun j1 =>
      if (m.1 2 j1) = p0 then
        some v2
      else
        M_owlBy_b2 m p0 n (v2 + 1)
    else
      some ((-1))
def M_owlBy (m : xMem) (p0 : Int32) : Option (Int32) :=
  M_owlBy_b2 m p0 1000 0
abbrev rm_M_bed : Room := { frames := 2, cells := 0, slots := 0, locals := 43 }
def M_bed_b23 (p0 : Int32) (p1 : Int32) (s0 : Int32) (m : xMem) : Option (Int32 × xMem) :=
  (M_throwsIf m s0).bind fun r3 =>
  if r3.1 = 0 then
    if p1 = 0 then
      (ix (7 + p0) 302).bind fun j4 =>
      some (r3.2.1 2 j4, r3.2)
    else
    if p1 = 1 then
      (ix (13 + p0) 302).bind fun j5 =>
      some (r3.2.1 2 j5, r3.2)
    else
    if p1 = 2 then
      (M_owlBy r3.2 p0).bind fun r6 =>
      some (r6, r3.2)
    else
    if p1 = 3 then
      (ix (19 + p0) 302).bind fun j7 =>
      some ((r3.2.1 2 j7) - 1, r3.2)
    else
    if p1 = 4 then
      (ix (109 + p0) 302).bind fun j8 =>
      some (r3.2.1 2 j8, r3.2)
    else
      (ix (115 + p0) 302).bind fun j9 =>
      some (r3.2.1 2 j9, r3.2)
  else
    some (0, r3.2)
def M_bed (m : xMem) (p0 : Int32) (p1 : Int32) : Option (Int32 × xMem) :=
  (M_isBed m p0).bind fun r1 =>
  if r1 = 0 then
    M_bed_b23 p0 p1 1 m
  else
    (M_isIn m p1 0 5).bind fun r2 =>
    if r2 = 0 then
      M_bed_b23 p0 p1 1 m
    else
      M_bed_b23 p0 p1 0 m
abbrev rm_M_owl : Room := { frames := 7, cells := 0, slots := 0, locals := 166 }
def M_owl_b23 (p0 : Int32) (p1 : Int32) (s0 : Int32) (m : xMem) : Option (Int32 × xMem) :=
  (M_throwsIf m s0).bind fun r3 =>
  if r3.1 = 0 then
    if p1 = 0 then
      (ix (103 + p0) 302).bind fun j4 =>
      some (r3.2.1 2 j4, r3.2)
    else
    if p1 = 1 then
      (ix (31 + p0) 302).bind fun j5 =>
      some (r3.2.1 2 j5, r3.2)
    else
    if p1 = 2 then
      (ix (37 + p0) 302).bind fun j6 =>
      some ((r3.2.1 2 j6) - 1, r3.2)
    else
    if p1 = 3 then
      (ix (43 + p0) 302).bind fun j7 =>
      some (r3.2.1 2 j7, r3.2)
    else
    if p1 = 4 then
      (ix (103 + p0) 302).bind fun j8 =>
      (M_lookBy r3.2 p0 (r3.2.1 2 j8)).bind fun r9 =>
      some (r9, r3.2)
    else
      (ix (103 + p0) 302).bind fun j10 =>
      (M_seenBy r3.2 p0 (r3.2.1 2 j10)).bind fun r11 =>
      some (r11, r3.2)
  else
    some (0, r3.2)
def M_owl (m : xMem) (p0 : Int32) (p1 : Int32) : Option (Int32 × xMem) :=
  (M_isOwl m p0).bind fun r1 =>
  if r1 = 0 then
    M_owl_b23 p0 p1 1 m
  else
    (M_isIn m p1 0 5).bind fun r2 =>
    if r2 = 0 then
      M_owl_b23 p0 p1 1 m
    else
      M_owl_b23 p0 p1 0 m
abbrev rm_M_sound : Room := { frames := 3, cells := 0, slots := 0, locals := 65 }
def M_sound (m : xMem) (p0 : Int32) (p1 : Int32) : Option (Int32 × xMem) :=
  nm (upI m 0 0 0) fun m1 =>
  (M_isSound m1 p0).bind fun r2 =>
  if r2 = 0 then
    some ((-1), m1)
  else
    if p1 = 0 then
      (ix (49 + p0) 302).bind fun j3 =>
      some (m1.1 2 j3, m1)
    else
    if p1 = 1 then
      (ix (57 + p0) 302).bind fun j4 =>
      some (m1.1 2 j4, m1)
    else
    if p1 = 2 then
      (ix (65 + p0) 302).bind fun j5 =>
      some (m1.1 2 j5, m1)
    else
    if p1 = 3 then
      (ix (73 + p0) 302).bind fun j6 =>
      some (m1.1 2 j6, m1)
    else
    if p1 = 4 then
      (M_isOn m1 p0).bind fun r7 =>
      if r7 = 0 then
        some (0, m1)
      else
        some (1, m1)
    else
    if p1 = 5 then
      some ((i_shr (m1.1 2 98) p0) &&& 1, m1)
    else
      some ((-1), m1)
abbrev rm_M_sumOf : Room := { frames := 0, cells := 0, slots := 0, locals := 0 }
def M_sumOf_b4 (m : xMem) (p0 : Int32) : Nat → Int32 → Int32 → Option (Int32)
  | 0, _, _ => none
  | n + 1, v2, v3 =>
    if v3 < (m.1 2 0) then
      (ix (p0 + v3) 302).bind fun j1 =>
      nm (v2 + (m.1 2 j1)) fun x2 =>
      M_sumOf_b4 m p0 n x2 (v3 + 1)
    else
      some v2
def M_sumOf (m : xMem) (p0 : Int32) : Option (Int32) :=
  M_sumOf_b4 m p0 1000 0 0
abbrev rm_M_lookers : Room := { frames := 6, cells := 0, slots := 0, locals := 143 }
def M_lookers_b4 (m : xMem) : Nat → Int32 → Int32 → Option (Int32)
  | 0, _, _ => none
  | n + 1, v1, v2 =>
    if v2 < (m.1 2 1) then
      (ix (103 + v2) 302).bind fun j1 =>
      (M_seenBy m v2 (m.1 2 j1)).bind fun r2 =>
      if r2 < 0 then
        nm (v1 ||| 0) fun x3 =>
        M_lookers_b4 m n x3 (v2 + 1)
      else
        nm (v1 ||| (i_shl 1 v2)) fun x4 =>
        M_lookers_b4 m n x4 (v2 + 1)
    else
      some v1
def M_lookers (m : xMem) : Option (Int32) :=
  M_lookers_b4 m 1000 0 0
abbrev rm_M_now : Room := { frames := 7, cells := 0, slots := 0, locals := 165 }
def M_now_b9 (p0 : Int32) : Nat → Int32 → Int32 → xMem → Option (Int32 × xMem)
  | 0, _, _, _ => none
  | n + 1, v2, v3, m =>
    if (m.1 2 2) < v3 then
      if p0 = 0 then
        some (m.1 2 97, m)
      else
      if p0 = 1 then
        some (v2, m)
      else
      if p0 = 2 then
        some (m.1 2 98, m)
      else
      if p0 = 3 then
        (M_lookers m).bind fun r2 =>
        some (r2, m)
      else
      if p0 = 4 then
        (M_isShut m).bind fun r3 =>
        if r3 = 0 then
          some (0, m)
        else
          some (1, m)
      else
      if p0 = 5 then
        (M_sumOf m 109).bind fun r4 =>
        some (r4, m)
      else
      if p0 = 6 then
        (M_sumOf m 115).bind fun r5 =>
        some (r5, m)
      else
      if p0 = 7 then
        some (m.1 2 99, m)
      else
        some ((-1), m)
    else
      (M_isOn m v3).bind fun r6 =>
      if r6 = 0 then
        nm (v2 ||| 0) fun x7 =>
        M_now_b9 p0 n x7 (v3 + 1) m
      else
        nm (v2 ||| (i_shl 1 v3)) fun x8 =>
        M_now_b9 p0 n x8 (v3 + 1) m
def M_now (m : xMem) (p0 : Int32) : Option (Int32 × xMem) :=
  nm (upI m 0 0 0) fun m1 =>
  M_now_b9 p0 1000 0 0 m1
abbrev rm_M_whyLend : Room := { frames := 1, cells := 0, slots := 0, locals := 22 }
def M_whyLend (m : xMem) (p0 : Int32) (p1 : Int32) : Option (Int32) :=
  (ix (103 + p0) 302).bind fun j1 =>
  if (m.1 2 j1) = p1 then
    some 1
  else
    (M_owlBy m p1).bind fun r2 =>
    if r2 < 0 then
      some 0
    else
      some 2
abbrev rm_M_cries : Room := { frames := 0, cells := 0, slots := 0, locals := 0 }
def M_cries (m : xMem) (p0 : Int32) (p1 : Int32) (p2 : Int32) : Option (xMem) :=
  nm (upI m 2 101 p0) fun m1 =>
  nm (upI m1 2 102 p1) fun m2 =>
  nm (upI m2 2 100 p2) fun m3 =>
  nm (upI m3 2 99 ((m3.1 2 99) + 1)) fun m4 =>
  some m4
abbrev rm_M_hour : Room := { frames := 6, cells := 0, slots := 0, locals := 143 }
def M_hour_b109 (k2 : Int32 → xMem → Option (xMem)) (k57 : Int32 → Int32 → Int32 → xMem → Option (xMem)) (v1 : Int32) (v3 : Int32) (v4 : Int32) (s0 : Int32) (s1 : Int32) (s2 : Int32) (m : xMem) : Option (xMem) :=
  (ix s2 302).bind fun j14 => nm (upI m 2 j14 (s1 + s0)) fun m13 =>
  k57 v1 v3 (v4 + 1) m13
def M_hour_b57 (k2 : Int32 → xMem → Option (xMem)) : Nat → Int32 → Int32 → Int32 → xMem → Option (xMem)
  | 0, _, _, _, _ => none
  | n + 1, v1, v3, v4, m =>
    if (m.1 2 2) < v4 then
      k2 (v1 + 1) m
    else
      nm (115 + v1) fun x9 =>
      (ix x9 302).bind fun j10 =>
      if v4 = v3 then
        M_hour_b109 k2 (M_hour_b57 k2 n) v1 v3 v4 0 (m.1 2 j10) x9 m
      else
        (M_isOn m v4).bind fun r11 =>
        if r11 = 0 then
          M_hour_b109 k2 (M_hour_b57 k2 n) v1 v3 v4 0 (m.1 2 j10) x9 m
        else
          (M_loudAt m v4 v1).bind fun r12 =>
          if r12 < 5 then
            M_hour_b109 k2 (M_hour_b57 k2 n) v1 v3 v4 0 (m.1 2 j10) x9 m
          else
            M_hour_b109 k2 (M_hour_b57 k2 n) v1 v3 v4 1 (m.1 2 j10) x9 m
def M_hour_b52 (k2 : Int32 → xMem → Option (xMem)) (v1 : Int32) (v3 : Int32) (s0 : Int32) (s1 : Int32) (s2 : Int32) (m : xMem) : Option (xMem) :=
  (ix s2 302).bind fun j8 => nm (upI m 2 j8 (s1 + s0)) fun m7 =>
  M_hour_b57 k2 1000 v1 v3 0 m7
def M_hour_b32 (k2 : Int32 → xMem → Option (xMem)) (v1 : Int32) (s0 : Int32) (m : xMem) : Option (xMem) :=
  nm (109 + v1) fun x5 =>
  (ix x5 302).bind fun j6 =>
  if s0 < 0 then
    M_hour_b52 k2 v1 s0 0 (m.1 2 j6) x5 m
  else
    M_hour_b52 k2 v1 s0 1 (m.1 2 j6) x5 m
def M_hour_b2 : Nat → Int32 → xMem → Option (xMem)
  | 0, _, _ => none
  | n + 1, v1, m =>
    if v1 < (m.1 2 0) then
      (M_owlBy m v1).bind fun r1 =>
      if r1 < 0 then
        M_hour_b32 (M_hour_b2 n) v1 ((-1)) m
      else
        (M_seenBy m r1 v1).bind fun r2 =>
        M_hour_b32 (M_hour_b2 n) v1 r2 m
    else
      nm (upI m 2 100 0) fun m3 =>
      nm (upI m3 2 97 ((m3.1 2 97) + 1)) fun m4 =>
      some m4
def M_hour (m : xMem) : Option (xMem) :=
  M_hour_b2 1000 0 m
abbrev rm_M_goesOn : Room := { frames := 7, cells := 0, slots := 0, locals := 167 }
def M_goesOn_b2 (p0 : Int32) : Nat → Int32 → xMem → Option (Int32 × xMem)
  | 0, _, _ => none
  | n + 1, v2, m =>
    if v2 < p0 then
      if (m.1 2 97) < 400 then
        (M_hour m).bind fun r1 =>
        M_goesOn_b2 p0 n (v2 + 1) r1
      else
        some (v2, m)
    else
      some (v2, m)
def M_goesOn (m : xMem) (p0 : Int32) : Option (Int32 × xMem) :=
  M_goesOn_b2 p0 1000 0 m
abbrev rm_M_keep : Room := { frames := 0, cells := 0, slots := 0, locals := 0 }
def M_keep_b47 : Nat → Int32 → xMem → Option (xMem)
  | 0, _, _ => none
  | n + 1, v1, m =>
    if v1 < 24 then
      (ix (97 + v1) 302).bind fun j5 =>
      (ix ((24 * (m.1 0 24)) + v1) 192).bind fun j7 => nm (upI m 7 j7 (m.1 2 j5)) fun m6 =>
      M_keep_b47 n (v1 + 1) m6
    else
      nm (upI m 0 24 ((m.1 0 24) + 1)) fun m8 =>
      some m8
def M_keep_b11 : Nat → Int32 → xMem → Option (xMem)
  | 0, _, _ => none
  | n + 1, v1, m =>
    if v1 < 168 then
      (ix (v1 + 24) 192).bind fun j1 =>
      (ix v1 192).bind fun j3 => nm (upI m 7 j3 (m.1 7 j1)) fun m2 =>
      M_keep_b11 n (v1 + 1) m2
    else
      nm (upI m 0 24 7) fun m4 =>
      M_keep_b47 1000 0 m4
def M_keep (m : xMem) : Option (xMem) :=
  if (m.1 0 24) = 8 then
    M_keep_b11 1000 0 m
  else
    M_keep_b47 1000 0 m
abbrev rm_M_lend : Room := { frames := 2, cells := 0, slots := 0, locals := 44 }
def M_lend (m : xMem) (p0 : Int32) (p1 : Int32) : Option (Int32 × xMem) :=
  nm (upI m 0 0 0) fun m1 =>
  (M_isOwl m1 p0).bind fun r2 =>
  if r2 = 0 then
    some ((-1), m1)
  else
    (M_isBed m1 p1).bind fun r3 =>
    if r3 = 0 then
      some ((-1), m1)
    else
      (M_whyLend m1 p0 p1).bind fun r4 =>
      if 0 < r4 then
        some (r4, m1)
      else
        (M_keep m1).bind fun r5 =>
        (ix (103 + p0) 302).bind fun j7 => nm (upI r5 2 j7 p1) fun m6 =>
        some (0, m6)
abbrev rm_M_turns : Room := { frames := 2, cells := 0, slots := 0, locals := 43 }
def M_turns (m : xMem) (p0 : Int32) (p1 : Int32) : Option (Int32 × xMem) :=
  nm (upI m 0 0 0) fun m1 =>
  (M_isSound m1 p0).bind fun r2 =>
  if r2 = 0 then
    some ((-1), m1)
  else
    if ((i_shr (m1.1 2 98) p0) &&& 1) = p1 then
      some (1, m1)
    else
      (M_keep m1).bind fun r3 =>
      nm (upI r3 2 98 ((r3.1 2 98) ^^^ (i_shl 1 p0))) fun m4 =>
      some (0, m4)
abbrev rm_M_hush : Room := { frames := 3, cells := 0, slots := 0, locals := 65 }
def M_hush (m : xMem) (p0 : Int32) : Option (Int32 × xMem) :=
  (M_turns m p0 1).bind fun r1 =>
  some (r1.1, r1.2)
abbrev rm_M_let : Room := { frames := 3, cells := 0, slots := 0, locals := 65 }
def M_let (m : xMem) (p0 : Int32) : Option (Int32 × xMem) :=
  (M_turns m p0 0).bind fun r1 =>
  some (r1.1, r1.2)
abbrev rm_M_shout : Room := { frames := 2, cells := 0, slots := 0, locals := 44 }
def M_shout (m : xMem) (p0 : Int32) (p1 : Int32) (p2 : Int32) : Option (Int32 × xMem) :=
  nm (upI m 0 0 0) fun m1 =>
  (M_isCell m1 p0 p1).bind fun r2 =>
  if r2 = 0 then
    some ((-1), m1)
  else
    (M_isIn m1 p2 1 30).bind fun r3 =>
    if r3 = 0 then
      some ((-1), m1)
    else
      if 0 < (m1.1 2 100) then
        some (1, m1)
      else
        (M_keep m1).bind fun r4 =>
        (M_cries r4 p0 p1 p2).bind fun r5 =>
        some (0, r5)
abbrev rm_M_hours : Room := { frames := 8, cells := 0, slots := 0, locals := 189 }
def M_hours (m : xMem) (p0 : Int32) : Option (Int32 × xMem) :=
  nm (upI m 0 0 0) fun m1 =>
  (M_isIn m1 p0 1 60).bind fun r2 =>
  if r2 = 0 then
    some ((-1), m1)
  else
    if (m1.1 2 97) = 400 then
      some (0, m1)
    else
      (M_keep m1).bind fun r3 =>
      (M_goesOn r3 p0).bind fun r4 =>
      some (r4.1, r4.2)
abbrev rm_M_undo : Room := { frames := 0, cells := 0, slots := 0, locals := 0 }
def M_undo_b26 : Nat → Int32 → xMem → Option (Int32 × xMem)
  | 0, _, _ => none
  | n + 1, v1, m =>
    if v1 < 24 then
      (ix ((24 * (m.1 0 24)) + v1) 192).bind fun j3 =>
      (ix (97 + v1) 302).bind fun j5 => nm (upI m 2 j5 (m.1 7 j3)) fun m4 =>
      M_undo_b26 n (v1 + 1) m4
    else
      some (m.1 0 24, m)
def M_undo (m : xMem) : Option (Int32 × xMem) :=
  nm (upI m 0 0 0) fun m1 =>
  if (m1.1 0 24) = 0 then
    some ((-1), m1)
  else
    nm (upI m1 0 24 ((m1.1 0 24) - 1)) fun m2 =>
    M_undo_b26 1000 0 m2
abbrev rm_M_tries : Room := { frames := 0, cells := 0, slots := 0, locals := 0 }
def M_tries_b2 : Nat → Int32 → xMem → Option (xMem)
  | 0, _, _ => none
  | n + 1, v1, m =>
    if v1 < 24 then
      (ix (97 + v1) 302).bind fun j1 =>
      (ix v1 24).bind fun j3 => nm (upI m 8 j3 (m.1 2 j1)) fun m2 =>
      M_tries_b2 n (v1 + 1) m2
    else
      some m
def M_tries (m : xMem) : Option (xMem) :=
  M_tries_b2 1000 0 m
abbrev rm_M_back : Room := { frames := 0, cells := 0, slots := 0, locals := 0 }
def M_back_b2 : Nat → Int32 → xMem → Option (xMem)
  | 0, _, _ => none
  | n + 1, v1, m =>
    if v1 < 24 then
      (ix v1 24).bind fun j1 =>
      (ix (97 + v1) 302).bind fun j3 => nm (upI m 2 j3 (m.1 8 j1)) fun m2 =>
      M_back_b2 n (v1 + 1) m2
    else
      some m
def M_back (m : xMem) : Option (xMem) :=
  M_back_b2 1000 0 m
abbrev rm_M_hears : Room := { frames := 5, cells := 0, slots := 0, locals := 118 }
def M_hears (m : xMem) (p0 : Int32) : Option (Int32 × xMem) :=
  nm (upI m 0 0 0) fun m1 =>
  (M_isOwl m1 p0).bind fun r2 =>
  if r2 = 0 then
    some ((-1), m1)
  else
    (ix (103 + p0) 302).bind fun j3 =>
    (M_heardBy m1 p0 (m1.1 2 j3)).bind fun r4 =>
    some (r4, m1)
abbrev rm_M_would : Room := { frames := 7, cells := 0, slots := 0, locals := 166 }
def M_would (m : xMem) (p0 : Int32) (p1 : Int32) : Option (Int32 × xMem) :=
  nm (upI m 0 0 0) fun m1 =>
  (M_isOwl m1 p0).bind fun r2 =>
  if r2 = 0 then
    some ((-1), m1)
  else
    (M_isBed m1 p1).bind fun r3 =>
    if r3 = 0 then
      some ((-1), m1)
    else
      (M_lookBy m1 p0 p1).bind fun r4 =>
      some (r4, m1)
abbrev rm_M_when : Room := { frames := 7, cells := 0, slots := 0, locals := 166 }
def M_when_b78 (p0 : Int32) (p1 : Int32) (k33 : Int32 → Int32 → xMem → Option (Int32 × xMem)) (v3 : Int32) (v4 : Int32) (m : xMem) : Option (Int32 × xMem) :=
  nm (upI m 2 97 ((m.1 2 97) + 1)) fun m8 =>
  nm (upI m8 2 100 0) fun m9 =>
  k33 v3 (v4 + 1) m9
def M_when_b103 (p0 : Int32) (p1 : Int32) (v3 : Int32) (m : xMem) : Option (Int32 × xMem) :=
  (M_back m).bind fun r7 =>
  some (v3, r7)
def M_when_b33 (p0 : Int32) (p1 : Int32) : Nat → Int32 → Int32 → xMem → Option (Int32 × xMem)
  | 0, _, _, _ => none
  | n + 1, v3, v4, m =>
    if 48 < v4 then
      M_when_b103 p0 p1 v3 m
    else
      if v3 < 0 then
        if 400 < (m.1 2 97) then
          M_when_b103 p0 p1 v3 m
        else
          (ix (103 + p0) 302).bind fun j5 =>
          (M_lookBy m p0 (m.1 2 j5)).bind fun r6 =>
          if r6 = p1 then
            M_when_b78 p0 p1 (M_when_b33 p0 p1 n) v4 v4 m
          else
            M_when_b78 p0 p1 (M_when_b33 p0 p1 n) v3 v4 m
      else
        M_when_b103 p0 p1 v3 m
def M_when (m : xMem) (p0 : Int32) (p1 : Int32) : Option (Int32 × xMem) :=
  nm (upI m 0 0 0) fun m1 =>
  (M_isOwl m1 p0).bind fun r2 =>
  if r2 = 0 then
    some ((-1), m1)
  else
    (M_isIn m1 p1 0 4).bind fun r3 =>
    if r3 = 0 then
      some ((-1), m1)
    else
      (M_tries m1).bind fun r4 =>
      M_when_b33 p0 p1 1000 ((-1)) 0 r4
abbrev rm_M_loud : Room := { frames := 3, cells := 0, slots := 0, locals := 65 }
def M_loud_b22 (p0 : Int32) (p1 : Int32) (s0 : Int32) (m : xMem) : Option (Int32 × xMem) :=
  (M_throwsIf m s0).bind fun r3 =>
  if r3.1 = 0 then
    (M_loudAt r3.2 p0 p1).bind fun r4 =>
    some (r4, r3.2)
  else
    some (0, r3.2)
def M_loud (m : xMem) (p0 : Int32) (p1 : Int32) : Option (Int32 × xMem) :=
  (M_isSound m p0).bind fun r1 =>
  if r1 = 0 then
    M_loud_b22 p0 p1 1 m
  else
    (M_isBed m p1).bind fun r2 =>
    if r2 = 0 then
      M_loud_b22 p0 p1 1 m
    else
      M_loud_b22 p0 p1 0 m
abbrev rm_M_lookAlone : Room := { frames := 3, cells := 0, slots := 0, locals := 71 }
def M_lookAlone (m : xMem) (p0 : Int32) (p1 : Int32) (p2 : Int32) (p3 : Int32) : Option (Int32) :=
  (ix (103 + p0) 302).bind fun j1 =>
  (M_isHeard m p0 (m.1 2 j1) 1 p1 p2 p3).bind fun r2 =>
  if r2 = 0 then
    some 255
  else
    (ix (103 + p0) 302).bind fun j3 =>
    (M_sideOf m (m.1 2 j3) p1 p2).bind fun r4 =>
    some r4
abbrev rm_M_isSpot : Room := { frames := 4, cells := 0, slots := 0, locals := 95 }
def M_isSpot_b5 (m : xMem) (p0 : Int32) (p1 : Int32) : Nat → Int32 → Int32 → Option (Int32)
  | 0, _, _ => none
  | n + 1, v3, v4 =>
    if v4 < (m.1 0 3) then
      if v3 = 0 then
        M_isSpot_b5 m p0 p1 n 0 (v4 + 2)
      else
        (M_octet m v4).bind fun r1 =>
        (M_octet m 0).bind fun r2 =>
        (M_lookAlone m r1 p0 p1 r2).bind fun r3 =>
        (M_octet m (v4 + 1)).bind fun r4 =>
        if r3 = r4 then
          M_isSpot_b5 m p0 p1 n 1 (v4 + 2)
        else
          M_isSpot_b5 m p0 p1 n 0 (v4 + 2)
    else
      (rz v3).bind fun w => some w
def M_isSpot (m : xMem) (p0 : Int32) (p1 : Int32) : Option (Int32) :=
  M_isSpot_b5 m p0 p1 1000 1 1
abbrev rm_M_leftBy : Room := { frames := 4, cells := 0, slots := 0, locals := 95 }
def M_leftBy_b77 (p0 : Int32) (k25 : Int32 → Int32 → xMem → Option (Int32 × xMem)) (v2 : Int32) (v3 : Int32) (s0 : Int32) (m : xMem) : Option (Int32 × xMem) :=
  (ix s0 6).bind fun j7 =>
  (ix s0 6).bind fun j9 => nm (upI m 10 j9 ((m.1 10 j7) + 1)) fun m8 =>
  (ix s0 6).bind fun j10 =>
  (M_greater m8 v2 (m8.1 10 j10)).bind fun r11 =>
  k25 r11 (v3 + 1) m8
def M_leftBy_b25 (p0 : Int32) : Nat → Int32 → Int32 → xMem → Option (Int32 × xMem)
  | 0, _, _, _ => none
  | n + 1, v2, v3, m =>
    if v3 < (m.1 0 27) then
      (ix v3 81).bind fun j3 =>
      (ix v3 81).bind fun j4 =>
      (M_octet m 0).bind fun r5 =>
      (M_lookAlone m p0 (i_rem (m.1 9 j3) 9) ((m.1 9 j4) / 9) r5).bind fun r6 =>
      if r6 = 255 then
        M_leftBy_b77 p0 (M_leftBy_b25 p0 n) v2 v3 5 m
      else
        M_leftBy_b77 p0 (M_leftBy_b25 p0 n) v2 v3 r6 m
    else
      some (v2, m)
def M_leftBy_b2 (p0 : Int32) : Nat → Int32 → xMem → Option (Int32 × xMem)
  | 0, _, _ => none
  | n + 1, v2, m =>
    if v2 < 6 then
      (ix v2 6).bind fun j2 => nm (upI m 10 j2 0) fun m1 =>
      M_leftBy_b2 p0 n (v2 + 1) m1
    else
      M_leftBy_b25 p0 1000 0 0 m
def M_leftBy (m : xMem) (p0 : Int32) : Option (Int32 × xMem) :=
  M_leftBy_b2 p0 1000 0 m
abbrev rm_M_spots : Room := { frames := 5, cells := 0, slots := 0, locals := 120 }
def M_spots_b120 (k108 : Int32 → Int32 → xMem → Option (Int32 × xMem)) : Nat → Int32 → Int32 → Int32 → xMem → Option (Int32 × xMem)
  | 0, _, _, _, _ => none
  | n + 1, v1, v2, v3, m =>
    if v3 < (m.1 2 3) then
      (M_isSpot m v3 v2).bind fun r11 =>
      if r11 = 0 then
        nm (v1 + 0) fun x12 =>
        M_spots_b120 k108 n x12 v2 (v3 + 1) m
      else
        nm (v1 + 1) fun x13 =>
        M_spots_b120 k108 n x13 v2 (v3 + 1) m
    else
      k108 v1 (v2 + 1) m
def M_spots_b244 : Nat → Int32 → Int32 → xMem → Option (Int32 × xMem)
  | 0, _, _, _ => none
  | n + 1, v1, v2, m =>
    if v2 < (m.1 2 1) then
      (M_leftBy m v2).bind fun r20 =>
      (M_leftBy r20.2 (r20.2.1 0 28)).bind fun r21 =>
      if r20.1 < r21.1 then
        nm (upI r21.2 0 28 v2) fun m22 =>
        M_spots_b244 n v1 (v2 + 1) m22
      else
        M_spots_b244 n v1 (v2 + 1) r21.2
    else
      some (v1, m)
def M_spots_b172 : Nat → Int32 → Int32 → xMem → Option (Int32 × xMem)
  | 0, _, _, _ => none
  | n + 1, v1, v2, m =>
    if v2 < 81 then
      (M_isCell m (i_rem v2 9) (v2 / 9)).bind fun r14 =>
      if r14 = 0 then
        M_spots_b172 n v1 (v2 + 1) m
      else
        (M_isSpot m (i_rem v2 9) (v2 / 9)).bind fun r15 =>
        if r15 = 0 then
          M_spots_b172 n v1 (v2 + 1) m
        else
          (ix (m.1 0 27) 81).bind fun j17 => nm (upI m 9 j17 v2) fun m16 =>
          nm (upI m16 0 27 ((m16.1 0 27) + 1)) fun m18 =>
          M_spots_b172 n v1 (v2 + 1) m18
    else
      nm (upI m 0 28 0) fun m19 =>
      M_spots_b244 1000 v1 1 m19
def M_spots_b108 : Nat → Int32 → Int32 → xMem → Option (Int32 × xMem)
  | 0, _, _, _ => none
  | n + 1, v1, v2, m =>
    if v2 < (m.1 2 4) then
      M_spots_b120 (M_spots_b108 n) 1000 v1 v2 0 m
    else
      if v1 = 0 then
        some (0, m)
      else
        nm (upI m 0 27 0) fun m10 =>
        M_spots_b172 1000 v1 0 m10
def M_spots_b52 : Nat → Int32 → xMem → Option (Int32 × xMem)
  | 0, _, _ => none
  | n + 1, v1, m =>
    if v1 < (m.1 0 3) then
      (M_octet m v1).bind fun r6 =>
      (M_isOwl m r6).bind fun r7 =>
      if r7 = 0 then
        some ((-1), m)
      else
        (M_octet m (v1 + 1)).bind fun r8 =>
        if 4 < r8 then
          (M_octet m (v1 + 1)).bind fun r9 =>
          if r9 = 255 then
            M_spots_b52 n (v1 + 2) m
          else
            some ((-1), m)
        else
          M_spots_b52 n (v1 + 2) m
    else
      M_spots_b108 1000 0 0 m
def M_spots (m : xMem) : Option (Int32 × xMem) :=
  nm (upI m 0 0 0) fun m1 =>
  (M_taken m1 940).bind fun r2 =>
  (M_isIn r2 (r2.1 0 3) 3 13).bind fun r3 =>
  if r3 = 0 then
    some ((-1), r2)
  else
    if (i_rem (r2.1 0 3) 2) = 0 then
      some ((-1), r2)
    else
      (M_octet r2 0).bind fun r4 =>
      (M_isIn r2 r4 1 30).bind fun r5 =>
      if r5 = 0 then
        some ((-1), r2)
      else
        M_spots_b52 1000 1 r2
abbrev rm_M_spotAt : Room := { frames := 1, cells := 0, slots := 0, locals := 22 }
def M_spotAt (m : xMem) (p0 : Int32) : Option (Int32 × xMem) :=
  nm (upI m 0 0 0) fun m1 =>
  (M_isIn m1 p0 0 ((m1.1 0 27) - 1)).bind fun r2 =>
  if r2 = 0 then
    some ((-1), m1)
  else
    (ix p0 81).bind fun j3 =>
    some (m1.1 9 j3, m1)
abbrev rm_M_next : Room := { frames := 0, cells := 0, slots := 0, locals := 0 }
def M_next (m : xMem) : Option (Int32 × xMem) :=
  nm (upI m 0 0 0) fun m1 =>
  some (m1.1 0 28, m1)
abbrev rm_M_isKeen : Room := { frames := 1, cells := 0, slots := 0, locals := 21 }
def M_isKeen_b54 (m : xMem) (p0 : Int32) (k4 : Int32 → Int32 → Option (Int32)) (v3 : Int32) (s0 : Int32) (s1 : Int32) : Option (Int32) :=
  if s1 = s0 then
    k4 1 (v3 + 3)
  else
    k4 0 (v3 + 3)
def M_isKeen_b38 (m : xMem) (p0 : Int32) (k4 : Int32 → Int32 → Option (Int32)) (v3 : Int32) (s0 : Int32) : Option (Int32) :=
  (M_octet m (v3 + 2)).bind fun r3 =>
  if r3 = 1 then
    M_isKeen_b54 m p0 k4 v3 1 s0
  else
    M_isKeen_b54 m p0 k4 v3 0 s0
def M_isKeen_b4 (m : xMem) (p0 : Int32) : Nat → Int32 → Int32 → Option (Int32)
  | 0, _, _ => none
  | n + 1, v2, v3 =>
    if v3 < (m.1 0 3) then
      if v2 = 0 then
        M_isKeen_b4 m p0 n 0 (v3 + 3)
      else
        (M_octet m v3).bind fun r1 =>
        (M_octet m (v3 + 1)).bind fun r2 =>
        if (r1 - r2) < p0 then
          M_isKeen_b38 m p0 (M_isKeen_b4 m p0 n) v3 0
        else
          M_isKeen_b38 m p0 (M_isKeen_b4 m p0 n) v3 1
    else
      (rz v2).bind fun w => some w
def M_isKeen (m : xMem) (p0 : Int32) : Option (Int32) :=
  M_isKeen_b4 m p0 1000 1 0
abbrev rm_M_keen : Room := { frames := 2, cells := 0, slots := 0, locals := 44 }
def M_keen_b74 : Nat → Int32 → Int32 → Int32 → Int32 → xMem → Option (Int32 × xMem)
  | 0, _, _, _, _, _ => none
  | n + 1, v1, v2, v3, v4, m =>
    if 20 < v4 then
      if v1 = 0 then
        some (0, m)
      else
        nm (upI m 0 31 1) fun m5 =>
        nm (upI m5 0 29 v2) fun m6 =>
        nm (upI m6 0 30 v3) fun m7 =>
        some (v1, m7)
    else
      (M_isKeen m v4).bind fun r8 =>
      if r8 = 0 then
        M_keen_b74 n v1 v2 v3 (v4 + 1) m
      else
        if v1 = 0 then
          M_keen_b74 n (v1 + 1) v4 v4 (v4 + 1) m
        else
          M_keen_b74 n (v1 + 1) v2 v4 (v4 + 1) m
def M_keen_b38 : Nat → Int32 → xMem → Option (Int32 × xMem)
  | 0, _, _ => none
  | n + 1, v1, m =>
    if v1 < (m.1 0 3) then
      (M_octet m (v1 + 2)).bind fun r4 =>
      if 1 < r4 then
        some ((-1), m)
      else
        M_keen_b38 n (v1 + 3) m
    else
      M_keen_b74 1000 0 ((-1)) ((-1)) 1 m
def M_keen (m : xMem) : Option (Int32 × xMem) :=
  nm (upI m 0 0 0) fun m1 =>
  (M_taken m1 940).bind fun r2 =>
  (M_isIn r2 (r2.1 0 3) 3 18).bind fun r3 =>
  if r3 = 0 then
    some ((-1), r2)
  else
    if (i_rem (r2.1 0 3) 3) = 0 then
      M_keen_b38 1000 0 r2
    else
      some ((-1), r2)
abbrev rm_M_keenLeast : Room := { frames := 0, cells := 0, slots := 0, locals := 0 }
def M_keenLeast (m : xMem) : Option (Int32 × xMem) :=
  nm (upI m 0 0 0) fun m1 =>
  if (m1.1 0 31) = 0 then
    some ((-1), m1)
  else
    some (m1.1 0 29, m1)
abbrev rm_M_keenMost : Room := { frames := 0, cells := 0, slots := 0, locals := 0 }
def M_keenMost (m : xMem) : Option (Int32 × xMem) :=
  nm (upI m 0 0 0) fun m1 =>
  if (m1.1 0 31) = 0 then
    some ((-1), m1)
  else
    some (m1.1 0 30, m1)
abbrev rm_M_laysWorths : Room := { frames := 6, cells := 0, slots := 0, locals := 143 }
def M_laysWorths_b119 (k35 : Int32 → xMem → Option (xMem)) (k43 : Int32 → Int32 → xMem → Option (xMem)) (k55 : Int32 → Int32 → Int32 → xMem → Option (xMem)) (v1 : Int32) (v2 : Int32) (v3 : Int32) (s0 : Int32) (s1 : Int32) (s2 : Int32) (m : xMem) : Option (xMem) :=
  (ix s2 36).bind fun j13 => nm (upI m 11 j13 (s1 + s0)) fun m12 =>
  k55 v1 v2 (v3 + 1) m12
def M_laysWorths_b55 (k35 : Int32 → xMem → Option (xMem)) (k43 : Int32 → Int32 → xMem → Option (xMem)) : Nat → Int32 → Int32 → Int32 → xMem → Option (xMem)
  | 0, _, _, _, _ => none
  | n + 1, v1, v2, v3, m =>
    if v3 < (m.1 2 0) then
      (M_seenBy m v2 v3).bind fun r7 =>
      nm ((6 * v2) + v3) fun x8 =>
      (ix x8 36).bind fun j9 =>
      if r7 < 0 then
        M_laysWorths_b119 k35 k43 (M_laysWorths_b55 k35 k43 n) v1 v2 v3 0 (m.1 11 j9) x8 m
      else
        (ix (49 + r7) 302).bind fun j10 =>
        (ix (19 + v3) 302).bind fun j11 =>
        if (m.1 2 j10) = ((m.1 2 j11) - 1) then
          M_laysWorths_b119 k35 k43 (M_laysWorths_b55 k35 k43 n) v1 v2 v3 1 (m.1 11 j9) x8 m
        else
          M_laysWorths_b119 k35 k43 (M_laysWorths_b55 k35 k43 n) v1 v2 v3 0 (m.1 11 j9) x8 m
    else
      k43 v1 (v2 + 1) m
def M_laysWorths_b43 (k35 : Int32 → xMem → Option (xMem)) : Nat → Int32 → Int32 → xMem → Option (xMem)
  | 0, _, _, _ => none
  | n + 1, v1, v2, m =>
    if v2 < (m.1 2 1) then
      M_laysWorths_b55 k35 (M_laysWorths_b43 k35 n) 1000 v1 v2 0 m
    else
      nm (upI m 2 97 ((m.1 2 97) + 1)) fun m6 =>
      k35 (v1 + 1) m6
def M_laysWorths_b35 : Nat → Int32 → xMem → Option (xMem)
  | 0, _, _ => none
  | n + 1, v1, m =>
    if v1 < 24 then
      M_laysWorths_b43 (M_laysWorths_b35 n) 1000 v1 0 m
    else
      (M_back m).bind fun r5 =>
      some r5
def M_laysWorths_b14 : Nat → Int32 → xMem → Option (xMem)
  | 0, _, _ => none
  | n + 1, v1, m =>
    if v1 < 36 then
      (ix v1 36).bind fun j4 => nm (upI m 11 j4 0) fun m3 =>
      M_laysWorths_b14 n (v1 + 1) m3
    else
      M_laysWorths_b35 1000 0 m
def M_laysWorths (m : xMem) : Option (xMem) :=
  (M_tries m).bind fun r1 =>
  nm (upI r1 2 100 0) fun m2 =>
  M_laysWorths_b14 1000 0 m2
abbrev rm_M_restBy : Room := { frames := 0, cells := 0, slots := 0, locals := 0 }
def M_restBy (m : xMem) (p0 : Int32) (p1 : Int32) (p2 : Int32) : Option (Int32) :=
  (ix ((6 * p0) + p2) 36).bind fun j1 =>
  (ix ((64 * (p0 + 1)) + (p1 ||| (i_shl 1 p2))) 448).bind fun j2 =>
  some ((m.1 11 j1) + (m.1 12 j2))
abbrev rm_M_best : Room := { frames := 7, cells := 0, slots := 0, locals := 167 }
def M_best_b68 (k49 : Int32 → xMem → Option (Int32 × xMem)) (k55 : Int32 → Int32 → xMem → Option (Int32 × xMem)) : Nat → Int32 → Int32 → Int32 → Int32 → xMem → Option (Int32 × xMem)
  | 0, _, _, _, _, _ => none
  | n + 1, v1, v2, v3, v4, m =>
    if v4 < (m.1 2 0) then
      (M_bitOf m v2 v4).bind fun r13 =>
      if r13 = 0 then
        (M_restBy m v1 v2 v4).bind fun r14 =>
        (M_greater m v3 r14).bind fun r15 =>
        M_best_b68 k49 k55 n v1 v2 r15 (v4 + 1) m
      else
        M_best_b68 k49 k55 n v1 v2 v3 (v4 + 1) m
    else
      (ix ((64 * v1) + v2) 448).bind fun j17 => nm (upI m 12 j17 v3) fun m16 =>
      k55 v1 (v2 + 1) m16
def M_best_b55 (k49 : Int32 → xMem → Option (Int32 × xMem)) : Nat → Int32 → Int32 → xMem → Option (Int32 × xMem)
  | 0, _, _, _ => none
  | n + 1, v1, v2, m =>
    if v2 < 64 then
      M_best_b68 k49 (M_best_b55 k49 n) 1000 v1 v2 ((-1000000)) 0 m
    else
      k49 (v1 + (-1)) m
def M_best_b155 (k145 : Int32 → Int32 → xMem → Option (Int32 × xMem)) : Nat → Int32 → Int32 → Int32 → xMem → Option (Int32 × xMem)
  | 0, _, _, _, _ => none
  | n + 1, v1, v2, v3, m =>
    (M_bitOf m v1 v3).bind fun r7 =>
    if r7 = 0 then
      (M_restBy m v2 v1 v3).bind fun r8 =>
      (ix ((64 * v2) + v1) 448).bind fun j9 =>
      if r8 = (m.1 12 j9) then
        (ix v2 6).bind fun j11 => nm (upI m 13 j11 v3) fun m10 =>
        nm (v1 ||| (i_shl 1 v3)) fun x12 =>
        k145 x12 (v2 + 1) m10
      else
        M_best_b155 k145 n v1 v2 (v3 + 1) m
    else
      M_best_b155 k145 n v1 v2 (v3 + 1) m
def M_best_b145 : Nat → Int32 → Int32 → xMem → Option (Int32 × xMem)
  | 0, _, _, _ => none
  | n + 1, v1, v2, m =>
    if v2 < (m.1 0 35) then
      M_best_b155 (M_best_b145 n) 1000 v1 v2 0 m
    else
      some (m.1 12 0, m)
def M_best_b49 : Nat → Int32 → xMem → Option (Int32 × xMem)
  | 0, _, _ => none
  | n + 1, v1, m =>
    if v1 < 0 then
      nm (upI m 0 35 (m.1 2 1)) fun m6 =>
      M_best_b145 1000 0 0 m6
    else
      M_best_b55 (M_best_b49 n) 1000 v1 0 m
def M_best_b11 : Nat → Int32 → xMem → Option (Int32 × xMem)
  | 0, _, _ => none
  | n + 1, v1, m =>
    if v1 < 64 then
      (ix ((64 * (m.1 2 1)) + v1) 448).bind fun j4 => nm (upI m 12 j4 0) fun m3 =>
      M_best_b11 n (v1 + 1) m3
    else
      nm ((m.1 2 1) - 1) fun x5 =>
      M_best_b49 1000 x5 m
def M_best (m : xMem) : Option (Int32 × xMem) :=
  nm (upI m 0 0 0) fun m1 =>
  (M_laysWorths m1).bind fun r2 =>
  M_best_b11 1000 0 r2
abbrev rm_M_bestAt : Room := { frames := 1, cells := 0, slots := 0, locals := 22 }
def M_bestAt (m : xMem) (p0 : Int32) : Option (Int32 × xMem) :=
  nm (upI m 0 0 0) fun m1 =>
  (M_isIn m1 p0 0 ((m1.1 0 35) - 1)).bind fun r2 =>
  if r2 = 0 then
    some ((-1), m1)
  else
    (ix p0 6).bind fun j3 =>
    some (m1.1 13 j3, m1)
abbrev rm_M_soundFor : Room := { frames := 4, cells := 0, slots := 0, locals := 94 }
def M_soundFor_b13 (m : xMem) (p0 : Int32) (p1 : Int32) : Nat → Int32 → Int32 → Option (Int32)
  | 0, _, _ => none
  | n + 1, v3, v4 =>
    if v4 < (m.1 2 2) then
      (M_hearsOne m p0 v3 v4).bind fun r3 =>
      if r3 = 0 then
        M_soundFor_b13 m p0 p1 n v3 (v4 + 1)
      else
        (ix (57 + v4) 302).bind fun j4 =>
        (ix (65 + v4) 302).bind fun j5 =>
        (M_sideOf m v3 (m.1 2 j4) (m.1 2 j5)).bind fun r6 =>
        if r6 = p1 then
          some v4
        else
          M_soundFor_b13 m p0 p1 n v3 (v4 + 1)
    else
      some ((-1))
def M_soundFor (m : xMem) (p0 : Int32) (p1 : Int32) : Option (Int32) :=
  (ix (103 + p0) 302).bind fun j1 =>
  nm (m.1 2 j1) fun x2 =>
  M_soundFor_b13 m p0 p1 1000 x2 0
abbrev rm_M_code : Room := { frames := 5, cells := 0, slots := 0, locals := 118 }
def M_code_b106 (p0 : Int32) : Nat → Int32 → xMem → Option (Int32 × xMem)
  | 0, _, _ => none
  | n + 1, v2, m =>
    if v2 < (m.1 0 3) then
      (M_octet m v2).bind fun r9 =>
      (M_soundFor m p0 r9).bind fun r10 =>
      (ix v2 8).bind fun j12 => nm (upI m 14 j12 r10) fun m11 =>
      M_code_b106 p0 n (v2 + 1) m11
    else
      some (m.1 0 37, m)
def M_code_b64 (p0 : Int32) : Nat → Int32 → xMem → Option (Int32 × xMem)
  | 0, _, _ => none
  | n + 1, v2, m =>
    if v2 < (m.1 0 3) then
      (M_octet m v2).bind fun r6 =>
      (M_soundFor m p0 r6).bind fun r7 =>
      if r7 < 0 then
        some (((-2)) - v2, m)
      else
        M_code_b64 p0 n (v2 + 1) m
    else
      nm (upI m 0 37 (m.1 0 3)) fun m8 =>
      M_code_b106 p0 1000 0 m8
def M_code_b37 (p0 : Int32) : Nat → Int32 → xMem → Option (Int32 × xMem)
  | 0, _, _ => none
  | n + 1, v2, m =>
    if v2 < (m.1 0 3) then
      (M_octet m v2).bind fun r5 =>
      if 4 < r5 then
        some ((-1), m)
      else
        M_code_b37 p0 n (v2 + 1) m
    else
      M_code_b64 p0 1000 0 m
def M_code (m : xMem) (p0 : Int32) : Option (Int32 × xMem) :=
  nm (upI m 0 0 0) fun m1 =>
  (M_taken m1 940).bind fun r2 =>
  (M_isOwl r2 p0).bind fun r3 =>
  if r3 = 0 then
    some ((-1), r2)
  else
    (M_isIn r2 (r2.1 0 3) 1 8).bind fun r4 =>
    if r4 = 0 then
      some ((-1), r2)
    else
      M_code_b37 p0 1000 0 r2
abbrev rm_M_codeAt : Room := { frames := 1, cells := 0, slots := 0, locals := 22 }
def M_codeAt (m : xMem) (p0 : Int32) : Option (Int32 × xMem) :=
  nm (upI m 0 0 0) fun m1 =>
  (M_isIn m1 p0 0 ((m1.1 0 37) - 1)).bind fun r2 =>
  if r2 = 0 then
    some ((-1), m1)
  else
    (ix p0 8).bind fun j3 =>
    some (m1.1 14 j3, m1)
abbrev rm_M_laysEnds : Room := { frames := 7, cells := 0, slots := 0, locals := 166 }
def M_laysEnds_b61 (p0 : Int32) (p1 : Int32) (k6 : Int32 → xMem → Option (xMem)) (v3 : Int32) (s0 : Int32) (s1 : Int32) (m : xMem) : Option (xMem) :=
  (ix s1 256).bind fun j7 => nm (upI m 15 j7 (vp_nar .boolean s0)) fun m6 =>
  k6 (v3 + 1) m6
def M_laysEnds_b6 (p0 : Int32) (p1 : Int32) : Nat → Int32 → xMem → Option (xMem)
  | 0, _, _ => none
  | n + 1, v3, m =>
    if v3 < (i_shl 1 (m.1 2 2)) then
      nm (upI m 2 98 ((m.1 8 1) ||| v3)) fun m2 =>
      (ix (103 + p0) 302).bind fun j3 =>
      (M_lookBy m2 p0 (m2.1 2 j3)).bind fun r4 =>
      if r4 = p1 then
        M_laysEnds_b61 p0 p1 (M_laysEnds_b6 p0 p1 n) v3 1 v3 m2
      else
        M_laysEnds_b61 p0 p1 (M_laysEnds_b6 p0 p1 n) v3 0 v3 m2
    else
      (M_back m).bind fun r5 =>
      some r5
def M_laysEnds (m : xMem) (p0 : Int32) (p1 : Int32) : Option (xMem) :=
  (M_tries m).bind fun r1 =>
  M_laysEnds_b6 p0 p1 1000 0 r1
abbrev rm_M_laysMove : Room := { frames := 1, cells := 0, slots := 0, locals := 21 }
def M_laysMove_b51 (p0 : Int32) (k29 : Int32 → xMem → Option (xMem)) : Nat → Int32 → Int32 → Int32 → xMem → Option (xMem)
  | 0, _, _, _, _ => none
  | n + 1, v2, v3, v4, m =>
    if v4 < (m.1 2 2) then
      (M_bitOf m (v2 ||| (m.1 2 98)) v4).bind fun r6 =>
      if r6 = 0 then
        if p0 = 0 then
          if v3 = 0 then
            M_laysMove_b51 p0 k29 n v2 0 (v4 + 1) m
          else
            (ix (v2 ||| (i_shl 1 v4)) 256).bind fun j7 =>
            if (m.1 16 j7) = 0 then
              M_laysMove_b51 p0 k29 n v2 0 (v4 + 1) m
            else
              M_laysMove_b51 p0 k29 n v2 1 (v4 + 1) m
        else
          if v3 = 0 then
            (ix (v2 ||| (i_shl 1 v4)) 256).bind fun j8 =>
            if (m.1 16 j8) = 0 then
              M_laysMove_b51 p0 k29 n v2 0 (v4 + 1) m
            else
              M_laysMove_b51 p0 k29 n v2 1 (v4 + 1) m
          else
            M_laysMove_b51 p0 k29 n v2 1 (v4 + 1) m
      else
        M_laysMove_b51 p0 k29 n v2 v3 (v4 + 1) m
    else
      (ix v2 256).bind fun j10 => nm (upI m 15 j10 (vp_nar .boolean v3)) fun m9 =>
      k29 (v2 + 1) m9
def M_laysMove_b29 (p0 : Int32) : Nat → Int32 → xMem → Option (xMem)
  | 0, _, _ => none
  | n + 1, v2, m =>
    if v2 < (i_shl 1 (m.1 2 2)) then
      (ix v2 256).bind fun j4 =>
      nm (m.1 16 j4) fun x5 =>
      M_laysMove_b51 p0 (M_laysMove_b29 p0 n) 1000 v2 x5 0 m
    else
      some m
def M_laysMove_b2 (p0 : Int32) : Nat → Int32 → xMem → Option (xMem)
  | 0, _, _ => none
  | n + 1, v2, m =>
    if v2 < 256 then
      (ix v2 256).bind fun j1 =>
      (ix v2 256).bind fun j3 => nm (upI m 16 j3 (vp_nar .boolean (m.1 15 j1))) fun m2 =>
      M_laysMove_b2 p0 n (v2 + 1) m2
    else
      M_laysMove_b29 p0 1000 0 m
def M_laysMove (m : xMem) (p0 : Int32) : Option (xMem) :=
  M_laysMove_b2 p0 1000 0 m
abbrev rm_M_duel : Room := { frames := 8, cells := 0, slots := 0, locals := 189 }
def M_duel_b62 (p0 : Int32) (p1 : Int32) (p2 : Int32) (k44 : Int32 → xMem → Option (Int32 × xMem)) (v4 : Int32) (s0 : Int32) (m : xMem) : Option (Int32 × xMem) :=
  (M_laysMove m s0).bind fun r8 =>
  k44 (v4 + (-1)) r8
def M_duel_b85 (p0 : Int32) (p1 : Int32) (p2 : Int32) : Nat → Int32 → Int32 → Int32 → xMem → Option (Int32 × xMem)
  | 0, _, _, _, _ => none
  | n + 1, v4, v5, v6, m =>
    if v6 < (m.1 2 2) then
      if v4 = 0 then
        (M_bitOf m (m.1 2 98) v6).bind fun r9 =>
        if r9 = 0 then
          (ix (i_shl 1 v6) 256).bind fun j10 =>
          if (m.1 15 j10) = 0 then
            M_duel_b85 p0 p1 p2 n v4 v5 (v6 + 1) m
          else
            M_duel_b85 p0 p1 p2 n 1 v6 (v6 + 1) m
        else
          M_duel_b85 p0 p1 p2 n v4 v5 (v6 + 1) m
      else
        M_duel_b85 p0 p1 p2 n v4 v5 (v6 + 1) m
    else
      nm (upI m 0 41 1) fun m11 =>
      nm (upI m11 0 40 v5) fun m12 =>
      if v4 = 0 then
        some (0, m12)
      else
        some (1, m12)
def M_duel_b44 (p0 : Int32) (p1 : Int32) (p2 : Int32) : Nat → Int32 → xMem → Option (Int32 × xMem)
  | 0, _, _ => none
  | n + 1, v4, m =>
    if 0 < v4 then
      if (i_rem v4 2) = 0 then
        M_duel_b62 p0 p1 p2 (M_duel_b44 p0 p1 p2 n) v4 1 m
      else
        M_duel_b62 p0 p1 p2 (M_duel_b44 p0 p1 p2 n) v4 0 m
    else
      nm (m.1 15 0) fun x7 =>
      M_duel_b85 p0 p1 p2 1000 x7 ((-1)) 0 m
def M_duel (m : xMem) (p0 : Int32) (p1 : Int32) (p2 : Int32) : Option (Int32 × xMem) :=
  nm (upI m 0 0 0) fun m1 =>
  (M_isOwl m1 p0).bind fun r2 =>
  if r2 = 0 then
    some ((-1), m1)
  else
    (M_isIn m1 p1 0 4).bind fun r3 =>
    if r3 = 0 then
      some ((-1), m1)
    else
      (M_isIn m1 p2 1 4).bind fun r4 =>
      if r4 = 0 then
        some ((-1), m1)
      else
        (M_laysEnds m1 p0 p1).bind fun r5 =>
        nm (p2 - 1) fun x6 =>
        M_duel_b44 p0 p1 p2 1000 x6 r5
abbrev rm_M_duelAt : Room := { frames := 0, cells := 0, slots := 0, locals := 0 }
def M_duelAt (m : xMem) : Option (Int32 × xMem) :=
  nm (upI m 0 0 0) fun m1 =>
  if (m1.1 0 41) = 0 then
    some ((-1), m1)
  else
    some (m1.1 0 40, m1)
abbrev rm_M_worth : Room := { frames := 6, cells := 0, slots := 0, locals := 143 }
def M_worth_b95 (p0 : Int32) (p1 : Int32) (k42 : Int32 → Int32 → xMem → Option (Int32 × xMem)) (v4 : Int32) (s0 : Int32) (s1 : Int32) (m : xMem) : Option (Int32 × xMem) :=
  nm (s1 + s0) fun x9 =>
  nm (upI m 2 97 ((m.1 2 97) + 1)) fun m10 =>
  nm (upI m10 2 100 0) fun m11 =>
  k42 x9 (v4 + 1) m11
def M_worth_b122 (p0 : Int32) (p1 : Int32) (v3 : Int32) (m : xMem) : Option (Int32 × xMem) :=
  (M_back m).bind fun r12 =>
  some (v3, r12)
def M_worth_b42 (p0 : Int32) (p1 : Int32) : Nat → Int32 → Int32 → xMem → Option (Int32 × xMem)
  | 0, _, _, _ => none
  | n + 1, v3, v4, m =>
    if v4 < p1 then
      if (m.1 2 97) < 400 then
        (M_owlBy m p0).bind fun r6 =>
        (M_seenBy m r6 p0).bind fun r7 =>
        if r7 < 0 then
          M_worth_b95 p0 p1 (M_worth_b42 p0 p1 n) v4 0 v3 m
        else
          (M_loudAt m r7 p0).bind fun r8 =>
          if r8 < 5 then
            M_worth_b95 p0 p1 (M_worth_b42 p0 p1 n) v4 0 v3 m
          else
            M_worth_b95 p0 p1 (M_worth_b42 p0 p1 n) v4 1 v3 m
      else
        M_worth_b122 p0 p1 v3 m
    else
      M_worth_b122 p0 p1 v3 m
def M_worth (m : xMem) (p0 : Int32) (p1 : Int32) : Option (Int32 × xMem) :=
  nm (upI m 0 0 0) fun m1 =>
  (M_isBed m1 p0).bind fun r2 =>
  if r2 = 0 then
    some ((-1), m1)
  else
    (M_isIn m1 p1 1 60).bind fun r3 =>
    if r3 = 0 then
      some ((-1), m1)
    else
      (M_owlBy m1 p0).bind fun r4 =>
      if r4 < 0 then
        some ((-1), m1)
      else
        (M_tries m1).bind fun r5 =>
        M_worth_b42 p0 p1 1000 0 0 r5
abbrev rm_M_lays : Room := { frames := 0, cells := 0, slots := 0, locals := 0 }
def M_lays (m : xMem) (p0 : Int32) : Option (xMem) :=
  (ix (m.1 0 43) 48).bind fun j2 => nm (upI m 17 j2 (vp_nar .byte (i_b p0))) fun m1 =>
  nm (upI m1 0 43 ((m1.1 0 43) + 1)) fun m3 =>
  some m3
abbrev rm_M_spells : Room := { frames := 1, cells := 0, slots := 0, locals := 21 }
def M_spells_b3 (p0 : Int64) : Nat → Int32 → xMem → Option (xMem)
  | 0, _, _ => none
  | n + 1, v3, m =>
    if v3 < 0 then
      some m
    else
      if (lg_cmp ((l_shr p0 v3) &&& 255) 0) = 0 then
        M_spells_b3 p0 n (v3 + (-8)) m
      else
        (M_lays m (l_i ((l_shr p0 v3) &&& 255))).bind fun r1 =>
        M_spells_b3 p0 n (v3 + (-8)) r1
def M_spells (m : xMem) (p0 : Int64) : Option (xMem) :=
  M_spells_b3 p0 1000 56 m
abbrev rm_M_says : Room := { frames := 2, cells := 0, slots := 0, locals := 44 }
def M_says (m : xMem) (p0 : Int64) : Option (xMem) :=
  (M_lays m 32).bind fun r1 =>
  (M_spells r1 p0).bind fun r2 =>
  some r2
abbrev rm_M_note : Room := { frames := 7, cells := 0, slots := 0, locals := 166 }
def M_note_b131 (p0 : Int32) (s0 : Int64) (m : xMem) : Option (Int32 × xMem) :=
  (M_says m s0).bind fun r16 =>
  some (r16.1 0 43, r16)
def M_note (m : xMem) (p0 : Int32) : Option (Int32 × xMem) :=
  nm (upI m 0 0 0) fun m1 =>
  (M_isBed m1 p0).bind fun r2 =>
  if r2 = 0 then
    some ((-1), m1)
  else
    nm (upI m1 0 43 0) fun m3 =>
    (ix p0 40).bind fun j4 =>
    (M_spells m3 (m3.2 5 j4)).bind fun r5 =>
    (M_owlBy r5 p0).bind fun r6 =>
    if r6 < 0 then
      (M_says r5 418431069797).bind fun r7 =>
      some (r7.1 0 43, r7)
    else
      (ix (6 + r6) 40).bind fun j8 =>
      (M_says r5 (r5.2 5 j8)).bind fun r9 =>
      (M_lookBy r9 r6 p0).bind fun r10 =>
      (M_isShut r9).bind fun r11 =>
      if r11 = 0 then
        if r10 < 0 then
          (M_says r9 126909394808947).bind fun r12 =>
          some (r12.1 0 43, r12)
        else
          (M_says r9 465726040947).bind fun r13 =>
          if r10 = 4 then
            M_note_b131 p0 1751478885 r13
          else
            (ix (12 + r10) 32).bind fun j14 =>
            M_note_b131 p0 (r13.2 6 j14) r13
      else
        (M_says r9 1936225652).bind fun r15 =>
        some (r15.1 0 43, r15)
abbrev rm_M_byteAt : Room := { frames := 1, cells := 0, slots := 0, locals := 22 }
def M_byteAt (m : xMem) (p0 : Int32) : Option (Int32 × xMem) :=
  nm (upI m 0 0 0) fun m1 =>
  (M_isIn m1 p0 0 ((m1.1 0 43) - 1)).bind fun r2 =>
  if r2 = 0 then
    some ((-1), m1)
  else
    (ix p0 48).bind fun j3 =>
    some (m1.1 17 j3, m1)
abbrev rm_M_draw : Room := { frames := 0, cells := 0, slots := 0, locals := 0 }
def M_draw (m : xMem) (p0 : Int32) : Option (Int32 × xMem) :=
  nm (upI m 0 44 (((m.1 0 44) * 1103515245) + 12345)) fun m1 =>
  if p0 = 0 then none else
  some (i_rem (i_ushr (m1.1 0 44) 8) p0, m1)
abbrev rm_M_draws : Room := { frames := 7, cells := 0, slots := 0, locals := 167 }
def M_draws_b127 (p0 : Int32) (p1 : Int32) (k7 : Int32 → xMem → Option (Int32 × xMem)) (v3 : Int32) (m : xMem) : Option (Int32 × xMem) :=
  (M_hour m).bind fun r9 =>
  k7 (v3 + 1) r9
def M_draws_b28 (p0 : Int32) (p1 : Int32) (k7 : Int32 → xMem → Option (Int32 × xMem)) : Nat → Int32 → Int32 → xMem → Option (Int32 × xMem)
  | 0, _, _, _ => none
  | n + 1, v3, v4, m =>
    if v4 < (m.1 2 2) then
      (M_draw m 8).bind fun r2 =>
      if r2.1 = 0 then
        nm (upI r2.2 2 98 ((r2.2.1 2 98) ^^^ (i_shl 1 v4))) fun m3 =>
        M_draws_b28 p0 p1 k7 n v3 (v4 + 1) m3
      else
        M_draws_b28 p0 p1 k7 n v3 (v4 + 1) r2.2
    else
      (M_draw m 6).bind fun r4 =>
      if r4.1 = 0 then
        if (r4.2.1 2 100) = 0 then
          (M_draw r4.2 (r4.2.1 2 3)).bind fun r5 =>
          (M_draw r5.2 (r5.2.1 2 4)).bind fun r6 =>
          (M_draw r6.2 30).bind fun r7 =>
          (M_cries r7.2 r5.1 r6.1 (r7.1 + 1)).bind fun r8 =>
          M_draws_b127 p0 p1 k7 v3 r8
        else
          M_draws_b127 p0 p1 k7 v3 r4.2
      else
        M_draws_b127 p0 p1 k7 v3 r4.2
def M_draws_b7 (p0 : Int32) (p1 : Int32) : Nat → Int32 → xMem → Option (Int32 × xMem)
  | 0, _, _ => none
  | n + 1, v3, m =>
    if v3 < p0 then
      if (m.1 2 97) < 400 then
        M_draws_b28 p0 p1 (M_draws_b7 p0 p1 n) 1000 v3 0 m
      else
        some (v3, m)
    else
      some (v3, m)
def M_draws (m : xMem) (p0 : Int32) (p1 : Int32) : Option (Int32 × xMem) :=
  nm (upI m 0 44 p1) fun m1 =>
  M_draws_b7 p0 p1 1000 0 m1
abbrev rm_M_drawn : Room := { frames := 8, cells := 0, slots := 0, locals := 192 }
def M_drawn_b34 (p0 : Int32) (p1 : Int32) (m : xMem) : Option (Int32 × xMem) :=
  (M_draws m p0 p1).bind fun r4 =>
  some (r4.1, r4.2)
def M_drawn (m : xMem) (p0 : Int32) (p1 : Int32) : Option (Int32 × xMem) :=
  nm (upI m 0 0 0) fun m1 =>
  (M_isIn m1 p0 1 60).bind fun r2 =>
  if r2 = 0 then
    some ((-1), m1)
  else
    if (m1.1 2 97) < 400 then
      (M_keep m1).bind fun r3 =>
      M_drawn_b34 p0 p1 r3
    else
      M_drawn_b34 p0 p1 m1
abbrev rm_M_odds : Room := { frames := 8, cells := 0, slots := 0, locals := 192 }
def M_odds_b84 (p0 : Int32) (p1 : Int32) (p2 : Int32) (k46 : Int32 → Int32 → Int32 → xMem → Option (Int32 × xMem)) (v4 : Int32) (v6 : Int32) (s0 : Int32) (s1 : Int32) (m : xMem) : Option (Int32 × xMem) :=
  nm (s1 + s0) fun x9 =>
  (M_back m).bind fun r10 =>
  k46 v4 x9 (v6 + 1) r10
def M_odds_b46 (p0 : Int32) (p1 : Int32) (p2 : Int32) : Nat → Int32 → Int32 → Int32 → xMem → Option (Int32 × xMem)
  | 0, _, _, _, _ => none
  | n + 1, v4, v5, v6, m =>
    if v6 < p1 then
      (M_draws m 12 (p2 + v6)).bind fun r7 =>
      (ix (115 + p0) 302).bind fun j8 =>
      if (r7.2.1 2 j8) = v4 then
        M_odds_b84 p0 p1 p2 (M_odds_b46 p0 p1 p2 n) v4 v6 1 v5 r7.2
      else
        M_odds_b84 p0 p1 p2 (M_odds_b46 p0 p1 p2 n) v4 v6 0 v5 r7.2
    else
      some (v5, m)
def M_odds (m : xMem) (p0 : Int32) (p1 : Int32) (p2 : Int32) : Option (Int32 × xMem) :=
  nm (upI m 0 0 0) fun m1 =>
  (M_isBed m1 p0).bind fun r2 =>
  if r2 = 0 then
    some ((-1), m1)
  else
    (M_isIn m1 p1 1 30).bind fun r3 =>
    if r3 = 0 then
      some ((-1), m1)
    else
      (M_tries m1).bind fun r4 =>
      (ix (115 + p0) 302).bind fun j5 =>
      nm (r4.1 2 j5) fun x6 =>
      M_odds_b46 p0 p1 p2 1000 x6 0 0 r4
abbrev rm_M_bookLine : Room := { frames := 3, cells := 0, slots := 0, locals := 67 }
def M_bookLine_b231 (v1 : Int32) (v2 : Int32) (s0 : Int32) (m : xMem) : Option (Int32 × xMem) :=
  if s0 = 0 then
    some (0, m)
  else
    (ix (v1 + 2) 160).bind fun j21 => nm (upI m 4 j21 (m.1 0 18)) fun m20 =>
    if v2 = 0 then
      some (1, m20)
    else
      (M_takes m20 1 30).bind fun r22 =>
      if r22.1 = 0 then
        some (0, r22.2)
      else
        (ix (v1 + 3) 160).bind fun j24 => nm (upI r22.2 4 j24 (r22.2.1 0 18)) fun m23 =>
        some (1, m23)
def M_bookLine_b206 (v1 : Int32) (v2 : Int32) (m : xMem) : Option (Int32 × xMem) :=
  if v2 = 0 then
    (M_takesName m 0 (m.1 2 0)).bind fun r18 =>
    M_bookLine_b231 v1 v2 r18.1 r18.2
  else
    (M_takes m 0 8).bind fun r19 =>
    M_bookLine_b231 v1 v2 r19.1 r19.2
def M_bookLine_b176 (v1 : Int32) (v2 : Int32) (s0 : Int32) (m : xMem) : Option (Int32 × xMem) :=
  if s0 = 0 then
    some (0, m)
  else
    (ix (v1 + 1) 160).bind fun j17 => nm (upI m 4 j17 (m.1 0 18)) fun m16 =>
    if v2 = 0 then
      M_bookLine_b206 v1 v2 m16
    else
      if v2 = 3 then
        M_bookLine_b206 v1 v2 m16
      else
        some (1, m16)
def M_bookLine_b78 (v1 : Int32) (s0 : Int32) (m : xMem) : Option (Int32 × xMem) :=
  if s0 < 0 then
    (M_bad m 1).bind fun r7 =>
    (rz r7.1).bind fun w => some (w, r7.2)
  else
    if (m.1 0 45) = 40 then
      (M_bad m 4).bind fun r8 =>
      (rz r8.1).bind fun w => some (w, r8.2)
    else
      (M_go m).bind fun r9 =>
      (ix v1 160).bind fun j11 => nm (upI r9 4 j11 s0) fun m10 =>
      if s0 = 0 then
        (M_takesName m10 6 (m10.1 2 1)).bind fun r12 =>
        M_bookLine_b176 v1 s0 r12.1 r12.2
      else
        if s0 < 3 then
          (M_takesName m10 12 (m10.1 2 2)).bind fun r13 =>
          M_bookLine_b176 v1 s0 r13.1 r13.2
        else
          if s0 = 3 then
            (M_takes m10 0 8).bind fun r14 =>
            M_bookLine_b176 v1 s0 r14.1 r14.2
          else
            (M_takes m10 1 60).bind fun r15 =>
            M_bookLine_b176 v1 s0 r15.1 r15.2
def M_bookLine (m : xMem) : Option (Int32 × xMem) :=
  nm (4 * (m.1 0 45)) fun x1 =>
  (M_isWord m 1818586724).bind fun r2 =>
  if r2 = 0 then
    (M_isWord m 1752527720).bind fun r3 =>
    if r3 = 0 then
      (M_isWord m 7103860).bind fun r4 =>
      if r4 = 0 then
        (M_isWord m 495673374068).bind fun r5 =>
        if r5 = 0 then
          (M_isWord m 1752135026).bind fun r6 =>
          if r6 = 0 then
            M_bookLine_b78 x1 ((-1)) m
          else
            M_bookLine_b78 x1 4 m
        else
          M_bookLine_b78 x1 3 m
      else
        M_bookLine_b78 x1 2 m
    else
      M_bookLine_b78 x1 1 m
  else
    M_bookLine_b78 x1 0 m
abbrev rm_M_does : Room := { frames := 8, cells := 0, slots := 0, locals := 189 }
def M_does_b79 (p0 : Int32) (p1 : Int32) (p2 : Int32) (p3 : Int32) (s0 : Int32) (s1 : Int32) (m : xMem) : Option (Int32 × xMem) :=
  if s1 = s0 then
    some ((10 * p0) + 1, m)
  else
    nm (upI m 2 98 ((m.1 2 98) ^^^ (i_shl 1 p1))) fun m9 =>
    some (0, m9)
def M_does (m : xMem) (p0 : Int32) (p1 : Int32) (p2 : Int32) (p3 : Int32) : Option (Int32 × xMem) :=
  if p0 = 0 then
    (M_whyLend m p1 p2).bind fun r1 =>
    if r1 = 0 then
      (ix (103 + p1) 302).bind fun j3 => nm (upI m 2 j3 p2) fun m2 =>
      some (r1, m2)
    else
      some (r1, m)
  else
  if p0 = 1 then
    (M_bitOf m (m.1 2 98) p1).bind fun r4 =>
    if p0 = 1 then
      M_does_b79 p0 p1 p2 p3 1 r4 m
    else
      M_does_b79 p0 p1 p2 p3 0 r4 m
  else
  if p0 = 2 then
    (M_bitOf m (m.1 2 98) p1).bind fun r5 =>
    if p0 = 1 then
      M_does_b79 p0 p1 p2 p3 1 r5 m
    else
      M_does_b79 p0 p1 p2 p3 0 r5 m
  else
  if p0 = 3 then
    (M_isCell m p1 p2).bind fun r6 =>
    if r6 = 0 then
      some (39, m)
    else
      if 0 < (m.1 2 100) then
        some (31, m)
      else
        (M_cries m p1 p2 p3).bind fun r7 =>
        some (0, r7)
  else
    if 400 < ((m.1 2 97) + p1) then
      some (41, m)
    else
      (M_goesOn m p1).bind fun r8 =>
      some (0, r8.2)
abbrev rm_M_book : Room := { frames := 9, cells := 0, slots := 0, locals := 214 }
def M_book_b283 (p0 : Int32) (v2 : Int32) (m : xMem) : Option (Int32 × xMem) :=
  if p0 = 0 then
    (M_back m).bind fun r28 =>
    some (v2, r28)
  else
    some (v2, m)
def M_book_b249 (p0 : Int32) : Nat → Int32 → Int32 → xMem → Option (Int32 × xMem)
  | 0, _, _, _ => none
  | n + 1, v2, v3, m =>
    if v3 < 24 then
      (ix v3 24).bind fun j25 =>
      (ix ((24 * ((m.1 0 24) - 1)) + v3) 192).bind fun j27 => nm (upI m 7 j27 (m.1 8 j25)) fun m26 =>
      M_book_b249 p0 n v2 (v3 + 1) m26
    else
      M_book_b283 p0 v2 m
def M_book_b201 (p0 : Int32) (v2 : Int32) (m : xMem) : Option (Int32 × xMem) :=
  nm (upI m 18 2 (m.1 2 97)) fun m20 =>
  (M_lookers m20).bind fun r21 =>
  nm (upI m20 18 3 r21) fun m22 =>
  nm (upI m22 0 47 1) fun m23 =>
  if p0 = 1 then
    if 0 < (m23.1 18 1) then
      (M_keep m23).bind fun r24 =>
      M_book_b249 p0 1000 v2 0 r24
    else
      M_book_b283 p0 v2 m23
  else
    M_book_b283 p0 v2 m23
def M_book_b111 (p0 : Int32) : Nat → Int32 → Int32 → xMem → Option (Int32 × xMem)
  | 0, _, _, _ => none
  | n + 1, v2, v3, m =>
    if v3 < (m.1 0 45) then
      if v2 < 0 then
        (ix (4 * v3) 160).bind fun j13 =>
        (ix ((4 * v3) + 1) 160).bind fun j14 =>
        (ix ((4 * v3) + 2) 160).bind fun j15 =>
        (ix ((4 * v3) + 3) 160).bind fun j16 =>
        (M_does m (m.1 4 j13) (m.1 4 j14) (m.1 4 j15) (m.1 4 j16)).bind fun r17 =>
        nm (upI r17.2 18 0 r17.1) fun m18 =>
        if 0 < (m18.1 18 0) then
          M_book_b111 p0 n v3 (v3 + 1) m18
        else
          nm (upI m18 18 1 ((m18.1 18 1) + 1)) fun m19 =>
          M_book_b111 p0 n v2 (v3 + 1) m19
      else
        M_book_b201 p0 v2 m
    else
      M_book_b201 p0 v2 m
def M_book_b89 (p0 : Int32) : Nat → Int32 → xMem → Option (Int32 × xMem)
  | 0, _, _ => none
  | n + 1, v2, m =>
    if v2 < 4 then
      (ix v2 4).bind fun j12 => nm (upI m 18 j12 0) fun m11 =>
      M_book_b89 p0 n (v2 + 1) m11
    else
      M_book_b111 p0 1000 ((-1)) 0 m
def M_book_b39 (p0 : Int32) : Nat → xMem → Option (Int32 × xMem)
  | 0, _ => none
  | n + 1, m =>
    if (m.1 0 11) = 0 then
      (M_tries m).bind fun r7 =>
      M_book_b89 p0 1000 0 r7
    else
      (M_bookLine m).bind fun r8 =>
      if r8.1 = 0 then
        some (((-2)) - (r8.2.1 0 16), r8.2)
      else
        (M_sign r8.2 59).bind fun r9 =>
        if r9.1 = 0 then
          some (((-2)) - (r9.2.1 0 16), r9.2)
        else
          nm (upI r9.2 0 45 ((r9.2.1 0 45) + 1)) fun m10 =>
          M_book_b39 p0 n m10
def M_book (m : xMem) (p0 : Int32) : Option (Int32 × xMem) :=
  nm (upI m 0 0 0) fun m1 =>
  (M_isIn m1 p0 0 1).bind fun r2 =>
  if r2 = 0 then
    some ((-1000), m1)
  else
    (M_taken m1 400).bind fun r3 =>
    nm (upI r3 0 15 0) fun m4 =>
    nm (upI m4 0 45 0) fun m5 =>
    (M_go m5).bind fun r6 =>
    M_book_b39 p0 1000 r6
abbrev rm_M_told : Room := { frames := 1, cells := 0, slots := 0, locals := 22 }
def M_told (m : xMem) (p0 : Int32) : Option (Int32 × xMem) :=
  nm (upI m 0 0 0) fun m1 =>
  if (m1.1 0 47) = 0 then
    some ((-1), m1)
  else
    (M_isIn m1 p0 0 3).bind fun r2 =>
    if r2 = 0 then
      some ((-1), m1)
    else
      (ix p0 4).bind fun j3 =>
      some (m1.1 18 j3, m1)
abbrev rm_M_putCode : Room := { frames := 0, cells := 0, slots := 0, locals := 0 }
def M_putCode (m : xMem) (p0 : Int32) (p1 : Int32) (p2 : Int32) : Option (xMem) :=
  (ix (3 * (m.1 0 49)) 160).bind fun j2 => nm (upI m 4 j2 p0) fun m1 =>
  (ix ((3 * (m1.1 0 49)) + 1) 160).bind fun j4 => nm (upI m1 4 j4 p1) fun m3 =>
  (ix ((3 * (m3.1 0 49)) + 2) 160).bind fun j6 => nm (upI m3 4 j6 p2) fun m5 =>
  nm (upI m5 0 49 ((m5.1 0 49) + 1)) fun m7 =>
  some m7
abbrev rm_M_joins : Room := { frames := 1, cells := 0, slots := 0, locals := 23 }
def M_joins_b45 (p0 : Int32) (k0 : xMem → Option (xMem)) (m : xMem) : Option (xMem) :=
  nm (upI m 0 51 ((m.1 0 51) - 1)) fun m3 =>
  (ix (m3.1 0 51) 45).bind fun j4 =>
  (M_putCode m3 (m3.1 19 j4) 0 0).bind fun r5 =>
  k0 r5
def M_joins_b0 (p0 : Int32) : Nat → xMem → Option (xMem)
  | 0, _ => none
  | n + 1, m =>
    if 0 < (m.1 0 51) then
      (ix ((m.1 0 51) - 1) 45).bind fun j1 =>
      if (m.1 19 j1) = 21 then
        M_joins_b45 p0 (M_joins_b0 p0 n) m
      else
        (ix ((m.1 0 51) - 1) 45).bind fun j2 =>
        if (m.1 19 j2) = 22 then
          if p0 = 22 then
            M_joins_b45 p0 (M_joins_b0 p0 n) m
          else
            some m
        else
          some m
    else
      some m
def M_joins (m : xMem) (p0 : Int32) : Option (xMem) :=
  M_joins_b0 p0 1000 m
abbrev rm_M_nots : Room := { frames := 1, cells := 0, slots := 0, locals := 23 }
def M_nots_b0 : Nat → xMem → Option (xMem)
  | 0, _ => none
  | n + 1, m =>
    if 0 < (m.1 0 51) then
      (ix ((m.1 0 51) - 1) 45).bind fun j1 =>
      if (m.1 19 j1) = 20 then
        nm (upI m 0 51 ((m.1 0 51) - 1)) fun m2 =>
        nm (upI m2 0 52 ((m2.1 0 52) - 1)) fun m3 =>
        (M_putCode m3 20 0 0).bind fun r4 =>
        M_nots_b0 n r4
      else
        some m
    else
      some m
def M_nots (m : xMem) : Option (xMem) :=
  M_nots_b0 1000 m
abbrev rm_M_leafOf : Room := { frames := 1, cells := 0, slots := 0, locals := 22 }
def M_leafOf (m : xMem) : Option (Int32) :=
  (M_isWord m 422725643876).bind fun r1 =>
  if r1 = 0 then
    (M_isWord m 1953459300).bind fun r2 =>
    if r2 = 0 then
      (M_isWord m 465726040947).bind fun r3 =>
      if r3 = 0 then
        (M_isWord m 25209).bind fun r4 =>
        if r4 = 0 then
          (M_isWord m 448377483891).bind fun r5 =>
          if r5 = 0 then
            (M_isWord m 461414299507).bind fun r6 =>
            if r6 = 0 then
              (M_isWord m 120299675936100).bind fun r7 =>
              if r7 = 0 then
                (M_isWord m 121450625394034).bind fun r8 =>
                if r8 = 0 then
                  some ((-1))
                else
                  some 7
              else
                some 6
            else
              some 5
          else
            some 4
        else
          some 3
      else
        some 2
    else
      some 1
  else
    some 0
abbrev rm_M_operand : Room := { frames := 3, cells := 0, slots := 0, locals := 63 }
def M_operand_b56 (m : xMem) : Option (Int32 × xMem) :=
  (M_bad m 4).bind fun r17 =>
  (rz r17.1).bind fun w => some (w, r17.2)
def M_operand_b103 (s0 : Int32) (s1 : Int32) (m : xMem) : Option (Int32 × xMem) :=
  (ix s1 45).bind fun j22 => nm (upI m 19 j22 s0) fun m21 =>
  nm (upI m21 0 51 ((m21.1 0 51) + 1)) fun m23 =>
  nm (upI m23 0 52 ((m23.1 0 52) + 1)) fun m24 =>
  some (1, m24)
def M_operand_b84 (v1 : Int32) (m : xMem) : Option (Int32 × xMem) :=
  if v1 = 0 then
    M_operand_b103 23 (m.1 0 51) m
  else
    M_operand_b103 20 (m.1 0 51) m
def M_operand_b186 (v3 : Int32) (s0 : Int32) (m : xMem) : Option (Int32 × xMem) :=
  if s0 = 0 then
    some (0, m)
  else
    (M_putCode m v3 0 (m.1 0 18)).bind fun r18 =>
    (M_go r18).bind fun r19 =>
    some (1, r19)
def M_operand_b237 (m : xMem) : Option (Int32 × xMem) :=
  (M_bad m 1).bind fun r20 =>
  (rz r20.1).bind fun w => some (w, r20.2)
def M_operand_b38 (v1 : Int32) (v2 : Int32) (v3 : Int32) (m : xMem) : Option (Int32 × xMem) :=
  if (m.1 0 50) = 20 then
    M_operand_b56 m
  else
    if 8 < (m.1 0 52) then
      M_operand_b56 m
    else
      nm (upI m 0 50 ((m.1 0 50) + 1)) fun m5 =>
      (M_go m5).bind fun r6 =>
      if v1 = 0 then
        if v2 = 0 then
          nm (upI r6 0 53 1) fun m7 =>
          if v3 < 2 then
            (M_putCode m7 v3 0 0).bind fun r8 =>
            some (1, r8)
          else
            if v3 < 5 then
              if v3 = 2 then
                (M_isSide m7).bind fun r9 =>
                M_operand_b186 v3 r9.1 r9.2
              else
                if v3 = 3 then
                  (M_looksAt m7 6 (m7.1 2 1)).bind fun r10 =>
                  M_operand_b186 v3 r10.1 r10.2
                else
                  (M_isKind m7).bind fun r11 =>
                  M_operand_b186 v3 r11.1 r11.2
            else
              if (m7.1 0 11) = 3 then
                if (m7.1 0 14) < 60 then
                  M_operand_b237 m7
                else
                  if 62 < (m7.1 0 14) then
                    M_operand_b237 m7
                  else
                    nm (m7.1 0 14) fun x12 =>
                    (M_go m7).bind fun r13 =>
                    if (r13.1 0 11) = 2 then
                      (M_putCode r13 v3 x12 (r13.1 0 14)).bind fun r14 =>
                      (M_go r14).bind fun r15 =>
                      some (1, r15)
                    else
                      (M_bad r13 1).bind fun r16 =>
                      (rz r16.1).bind fun w => some (w, r16.2)
              else
                M_operand_b237 m7
        else
          M_operand_b84 v1 r6
      else
        M_operand_b84 v1 r6
def M_operand (m : xMem) : Option (Int32 × xMem) :=
  (M_isWord m 7237492).bind fun r1 =>
  (M_isSign m 40).bind fun r2 =>
  (M_leafOf m).bind fun r3 =>
  if r1 = 0 then
    if r2 = 0 then
      if r3 < 0 then
        (M_bad m 1).bind fun r4 =>
        (rz r4.1).bind fun w => some (w, r4.2)
      else
        M_operand_b38 r1 r2 r3 m
    else
      M_operand_b38 r1 r2 r3 m
  else
    M_operand_b38 r1 r2 r3 m
abbrev rm_M_behind : Room := { frames := 2, cells := 0, slots := 0, locals := 44 }
def M_behind_b70 (s0 : Int32) (s1 : Int32) (m : xMem) : Option (Int32 × xMem) :=
  (ix s1 45).bind fun j14 => nm (upI m 19 j14 s0) fun m13 =>
  nm (upI m13 0 51 ((m13.1 0 51) + 1)) fun m15 =>
  nm (upI m15 0 53 0) fun m16 =>
  (M_go m16).bind fun r17 =>
  some (1, r17)
def M_behind_b42 (s0 : Int32) (m : xMem) : Option (Int32 × xMem) :=
  (M_joins m s0).bind fun r11 =>
  (M_isWord r11 6385252).bind fun r12 =>
  if r12 = 0 then
    M_behind_b70 22 (r11.1 0 51) r11
  else
    M_behind_b70 21 (r11.1 0 51) r11
def M_behind_b24 (m : xMem) : Option (Int32 × xMem) :=
  (M_isWord m 6385252).bind fun r10 =>
  if r10 = 0 then
    M_behind_b42 22 m
  else
    M_behind_b42 21 m
def M_behind_b114 (m : xMem) : Option (Int32 × xMem) :=
  (M_bad m 1).bind fun r9 =>
  (rz r9.1).bind fun w => some (w, r9.2)
def M_behind (m : xMem) : Option (Int32 × xMem) :=
  (M_nots m).bind fun r1 =>
  (M_isWord r1 6385252).bind fun r2 =>
  if r2 = 0 then
    (M_isWord r1 28530).bind fun r3 =>
    if r3 = 0 then
      (M_joins r1 22).bind fun r4 =>
      (M_isSign r4 41).bind fun r5 =>
      if r5 = 0 then
        M_behind_b114 r4
      else
        if (r4.1 0 51) = 0 then
          M_behind_b114 r4
        else
          nm (upI r4 0 51 ((r4.1 0 51) - 1)) fun m6 =>
          nm (upI m6 0 52 ((m6.1 0 52) - 1)) fun m7 =>
          (M_go m7).bind fun r8 =>
          some (1, r8)
    else
      M_behind_b24 r1
  else
    M_behind_b24 r1
abbrev rm_M_sentence : Room := { frames := 4, cells := 0, slots := 0, locals := 87 }
def M_sentence_b101 (k48 : Int32 → xMem → Option (Int32 × xMem)) (v1 : Int32) (m : xMem) : Option (Int32 × xMem) :=
  if (m.1 0 53) = 0 then
    (M_operand m).bind fun r17 =>
    if r17.1 = 0 then
      some (((-1)) - (r17.2.1 0 16), r17.2)
    else
      k48 v1 r17.2
  else
    (M_behind m).bind fun r18 =>
    if r18.1 = 0 then
      some (((-1)) - (r18.2.1 0 16), r18.2)
    else
      k48 v1 r18.2
def M_sentence_b145 : Nat → Int32 → xMem → Option (Int32 × xMem)
  | 0, _, _ => none
  | n + 1, v2, m =>
    if v2 < (3 * (m.1 0 49)) then
      (ix v2 160).bind fun j14 =>
      (ix (122 + v2) 302).bind fun j16 => nm (upI m 2 j16 (m.1 4 j14)) fun m15 =>
      M_sentence_b145 n (v2 + 1) m15
    else
      some (m.1 0 50, m)
def M_sentence_b48 : Nat → Int32 → xMem → Option (Int32 × xMem)
  | 0, _, _ => none
  | n + 1, v1, m =>
    if v1 = 0 then
      nm (upI m 2 121 (m.1 0 49)) fun m10 =>
      M_sentence_b145 1000 0 m10
    else
      if (m.1 0 53) = 0 then
        M_sentence_b101 (M_sentence_b48 n) v1 m
      else
        if (m.1 0 11) = 0 then
          (M_nots m).bind fun r11 =>
          (M_joins r11 22).bind fun r12 =>
          if 0 < (r12.1 0 51) then
            (M_bad r12 1).bind fun r13 =>
            some (((-1)) - (r13.2.1 0 16), r13.2)
          else
            M_sentence_b48 n 0 r12
        else
          M_sentence_b101 (M_sentence_b48 n) v1 m
def M_sentence (m : xMem) : Option (Int32 × xMem) :=
  nm (upI m 0 0 0) fun m1 =>
  (M_taken m1 200).bind fun r2 =>
  nm (upI r2 0 15 0) fun m3 =>
  nm (upI m3 0 49 0) fun m4 =>
  nm (upI m4 0 50 0) fun m5 =>
  nm (upI m5 0 51 0) fun m6 =>
  nm (upI m6 0 52 1) fun m7 =>
  nm (upI m7 0 53 0) fun m8 =>
  (M_go m8).bind fun r9 =>
  M_sentence_b48 1000 1 r9
abbrev rm_M_isLeaf : Room := { frames := 7, cells := 0, slots := 0, locals := 166 }
def M_isLeaf_b176 (m : xMem) (p0 : Int32) (p1 : Int32) (p2 : Int32) (p3 : Int32) (s0 : Int32) : Option (Int32) :=
  if p2 = 60 then
    if s0 < p3 then
      some 1
    else
      some 0
  else
    if p2 = 61 then
      if s0 = p3 then
        some 1
      else
        some 0
    else
      if p3 < s0 then
        some 1
      else
        some 0
def M_isLeaf_b23 (m : xMem) (p0 : Int32) (p1 : Int32) (p2 : Int32) (p3 : Int32) (v5 : Int32) (s0 : Int32) : Option (Int32) :=
  if p1 = 0 then
    if v5 < 0 then
      some 1
    else
      some 0
  else
  if p1 = 1 then
    if s0 < 0 then
      some 0
    else
      some 1
  else
  if p1 = 2 then
    if v5 < 0 then
      some 0
    else
      (M_lookBy m v5 p0).bind fun r3 =>
      if r3 = p3 then
        some 1
      else
        some 0
  else
  if p1 = 3 then
    if v5 = p3 then
      some 1
    else
      some 0
  else
  if p1 = 4 then
    if s0 < 0 then
      some 0
    else
      (M_kindOf m s0).bind fun r4 =>
      if r4 = p3 then
        some 1
      else
        some 0
  else
    if p1 = 5 then
      (ix (109 + p0) 302).bind fun j5 =>
      M_isLeaf_b176 m p0 p1 p2 p3 (m.1 2 j5)
    else
      if p1 = 6 then
        (ix (115 + p0) 302).bind fun j6 =>
        M_isLeaf_b176 m p0 p1 p2 p3 (m.1 2 j6)
      else
        M_isLeaf_b176 m p0 p1 p2 p3 p0
def M_isLeaf (m : xMem) (p0 : Int32) (p1 : Int32) (p2 : Int32) (p3 : Int32) : Option (Int32) :=
  (M_owlBy m p0).bind fun r1 =>
  if r1 < 0 then
    M_isLeaf_b23 m p0 p1 p2 p3 r1 ((-1))
  else
    (M_seenBy m r1 p0).bind fun r2 =>
    M_isLeaf_b23 m p0 p1 p2 p3 r1 r2
abbrev rm_M_isSaid : Room := { frames := 8, cells := 0, slots := 0, locals := 193 }
def M_isSaid_b58 (p0 : Int32) (k4 : Int32 → Int32 → xMem → Option (Int32 × xMem)) (v2 : Int32) (v3 : Int32) (s0 : Int32) (s1 : Int32) (m : xMem) : Option (Int32 × xMem) :=
  (ix s1 45).bind fun j13 => nm (upI m 20 j13 (vp_nar .boolean s0)) fun m12 =>
  k4 v2 (v3 + 1) m12
def M_isSaid_b161 (p0 : Int32) (k4 : Int32 → Int32 → xMem → Option (Int32 × xMem)) (v2 : Int32) (v3 : Int32) (s0 : Int32) (s1 : Int32) (m : xMem) : Option (Int32 × xMem) :=
  (ix s1 45).bind fun j20 => nm (upI m 20 j20 (vp_nar .boolean s0)) fun m19 =>
  k4 v2 (v3 + 1) m19
def M_isSaid_b86 (p0 : Int32) (k4 : Int32 → Int32 → xMem → Option (Int32 × xMem)) (v2 : Int32) (v3 : Int32) (v4 : Int32) (m : xMem) : Option (Int32 × xMem) :=
  (ix v4 302).bind fun j14 =>
  if (m.1 2 j14) = 21 then
    (ix ((v2 + (-1)) - 1) 45).bind fun j15 =>
    if (m.1 20 j15) = 0 then
      M_isSaid_b161 p0 k4 (v2 + (-1)) v3 0 ((v2 + (-1)) - 1) m
    else
      (ix (v2 + (-1)) 45).bind fun j16 =>
      if (m.1 20 j16) = 0 then
        M_isSaid_b161 p0 k4 (v2 + (-1)) v3 0 ((v2 + (-1)) - 1) m
      else
        M_isSaid_b161 p0 k4 (v2 + (-1)) v3 1 ((v2 + (-1)) - 1) m
  else
    (ix ((v2 + (-1)) - 1) 45).bind fun j17 =>
    if (m.1 20 j17) = 0 then
      (ix (v2 + (-1)) 45).bind fun j18 =>
      if (m.1 20 j18) = 0 then
        M_isSaid_b161 p0 k4 (v2 + (-1)) v3 0 ((v2 + (-1)) - 1) m
      else
        M_isSaid_b161 p0 k4 (v2 + (-1)) v3 1 ((v2 + (-1)) - 1) m
    else
      M_isSaid_b161 p0 k4 (v2 + (-1)) v3 1 ((v2 + (-1)) - 1) m
def M_isSaid_b4 (p0 : Int32) : Nat → Int32 → Int32 → xMem → Option (Int32 × xMem)
  | 0, _, _, _ => none
  | n + 1, v2, v3, m =>
    if v3 < (m.1 2 121) then
      nm (122 + (3 * v3)) fun x1 =>
      (ix x1 302).bind fun j2 =>
      if (m.1 2 j2) = 20 then
        (ix (v2 - 1) 45).bind fun j3 =>
        if (m.1 20 j3) = 0 then
          M_isSaid_b58 p0 (M_isSaid_b4 p0 n) v2 v3 1 (v2 - 1) m
        else
          M_isSaid_b58 p0 (M_isSaid_b4 p0 n) v2 v3 0 (v2 - 1) m
      else
        (ix x1 302).bind fun j4 =>
        if (m.1 2 j4) = 21 then
          M_isSaid_b86 p0 (M_isSaid_b4 p0 n) v2 v3 x1 m
        else
          (ix x1 302).bind fun j5 =>
          if (m.1 2 j5) = 22 then
            M_isSaid_b86 p0 (M_isSaid_b4 p0 n) v2 v3 x1 m
          else
            (ix x1 302).bind fun j6 =>
            (ix (x1 + 1) 302).bind fun j7 =>
            (ix (x1 + 2) 302).bind fun j8 =>
            (M_isLeaf m p0 (m.1 2 j6) (m.1 2 j7) (m.1 2 j8)).bind fun r9 =>
            (ix v2 45).bind fun j11 => nm (upI m 20 j11 (vp_nar .boolean r9)) fun m10 =>
            M_isSaid_b4 p0 n (v2 + 1) (v3 + 1) m10
    else
      (rz (m.1 20 0)).bind fun w => some (w, m)
def M_isSaid (m : xMem) (p0 : Int32) : Option (Int32 × xMem) :=
  M_isSaid_b4 p0 1000 0 0 m
abbrev rm_M_said : Room := { frames := 9, cells := 0, slots := 0, locals := 217 }
def M_said_b26 (p0 : Int32) : Nat → Int32 → Int32 → xMem → Option (Int32 × xMem)
  | 0, _, _, _ => none
  | n + 1, v2, v3, m =>
    if v3 < (m.1 2 0) then
      (M_isSaid m v3).bind fun r2 =>
      if r2.1 = 0 then
        M_said_b26 p0 n v2 (v3 + 1) r2.2
      else
        if v2 = p0 then
          some (v3, r2.2)
        else
          M_said_b26 p0 n (v2 + 1) (v3 + 1) r2.2
    else
      if p0 = ((-1)) then
        some (v2, m)
      else
        some ((-1), m)
def M_said (m : xMem) (p0 : Int32) : Option (Int32 × xMem) :=
  nm (upI m 0 0 0) fun m1 =>
  if (m1.1 2 121) = 0 then
    some ((-1), m1)
  else
    if p0 < ((-1)) then
      some ((-1), m1)
    else
      M_said_b26 p0 1000 0 0 m1
abbrev rm_M_image : Room := { frames := 1, cells := 0, slots := 0, locals := 22 }
def M_image_b51 (p0 : Int32) : Nat → Int32 → xMem → Option (Int32 × xMem)
  | 0, _, _ => none
  | n + 1, v2, m =>
    if v2 < 20 then
      (ix v2 40).bind fun j6 =>
      (ix ((20 * p0) + v2) 40).bind fun j8 => nm (upL m 22 j8 (m.2 5 j6)) fun m7 =>
      M_image_b51 p0 n (v2 + 1) m7
    else
      (ix p0 2).bind fun j10 => nm (upI m 23 j10 (vp_nar .boolean 1)) fun m9 =>
      some (1, m9)
def M_image_b18 (p0 : Int32) : Nat → Int32 → xMem → Option (Int32 × xMem)
  | 0, _, _ => none
  | n + 1, v2, m =>
    if v2 < 302 then
      (ix v2 302).bind fun j3 =>
      (ix ((302 * p0) + v2) 604).bind fun j5 => nm (upI m 21 j5 (m.1 2 j3)) fun m4 =>
      M_image_b18 p0 n (v2 + 1) m4
    else
      M_image_b51 p0 1000 0 m
def M_image (m : xMem) (p0 : Int32) : Option (Int32 × xMem) :=
  nm (upI m 0 0 0) fun m1 =>
  (M_isIn m1 p0 0 1).bind fun r2 =>
  if r2 = 0 then
    some (0, m1)
  else
    M_image_b18 p0 1000 0 m1
abbrev rm_M_restore : Room := { frames := 1, cells := 0, slots := 0, locals := 22 }
def M_restore_b60 (p0 : Int32) : Nat → Int32 → xMem → Option (Int32 × xMem)
  | 0, _, _ => none
  | n + 1, v2, m =>
    if v2 < 20 then
      (ix ((20 * p0) + v2) 40).bind fun j7 =>
      (ix v2 40).bind fun j9 => nm (upL m 5 j9 (m.2 22 j7)) fun m8 =>
      M_restore_b60 p0 n (v2 + 1) m8
    else
      nm (upI m 0 24 0) fun m10 =>
      some (1, m10)
def M_restore_b27 (p0 : Int32) : Nat → Int32 → xMem → Option (Int32 × xMem)
  | 0, _, _ => none
  | n + 1, v2, m =>
    if v2 < 302 then
      (ix ((302 * p0) + v2) 604).bind fun j4 =>
      (ix v2 302).bind fun j6 => nm (upI m 2 j6 (m.1 21 j4)) fun m5 =>
      M_restore_b27 p0 n (v2 + 1) m5
    else
      M_restore_b60 p0 1000 0 m
def M_restore (m : xMem) (p0 : Int32) : Option (Int32 × xMem) :=
  nm (upI m 0 0 0) fun m1 =>
  (M_isIn m1 p0 0 1).bind fun r2 =>
  if r2 = 0 then
    some (0, m1)
  else
    (ix p0 2).bind fun j3 =>
    if (m1.1 23 j3) = 0 then
      some (0, m1)
    else
      M_restore_b27 p0 1000 0 m1
abbrev rm_M_count : Room := { frames := 1, cells := 0, slots := 0, locals := 22 }
def M_count (m : xMem) (p0 : Int32) : Option (Int32 × xMem) :=
  nm (upI m 0 0 0) fun m1 =>
  if p0 = 5 then
    some (m1.1 0 2, m1)
  else
    (M_isIn m1 p0 0 4).bind fun r2 =>
    if r2 = 0 then
      some ((-1), m1)
    else
      (ix p0 302).bind fun j3 =>
      some (m1.1 2 j3, m1)
