def sX11_putBytes_3 : Nat → Int32 → Int32 → Mm → Option (Mm)
  | 0, _, _, _ => none
  | F + 1, x1, x2, M => if x2 < 0 then
      (some M)
    else (if 800 ≤ (M.1 1 1) then
      (some M)
    else (ck (inb (M.1 1 1) 800) (sX11_putBytes_3 F x1 (x2 + (-8)) (sI (sI M 2 (M.1 1 1).toNatClampNeg ((x1 >>> (x2 &&& 31)) &&& 255)) 1 1 (((sI M 2 (M.1 1 1).toNatClampNeg ((x1 >>> (x2 &&& 31)) &&& 255)).1 1 1) + 1)))))
def sX11_putBytes (x1 : Int32) (M : Mm) : Option (Mm) :=
  sX11_putBytes_3 4096 x1 24 M
def sX11_feed (x1 : Int32) (x2 : Int32) (x3 : Int32) (x4 : Int32) (x5 : Int32) (M : Mm) : Option (Int32 × Mm) :=
  if ((M.1 1 1) + 20) ≤ 800 then
    ((sX11_putBytes x1 M).bind fun (M17 : Mm) =>
    (sX11_putBytes x2 M17).bind fun (M22 : Mm) =>
    (sX11_putBytes x3 M22).bind fun (M27 : Mm) =>
    (sX11_putBytes x4 M27).bind fun (M33 : Mm) =>
    (sX11_putBytes x5 M33).bind fun (M39 : Mm) =>
    some ((M39.1 1 1), M39))
  else (some ((-1), M))
def sX11_isHand (x0 : Int32) (M : Mm) : Option (Int32 × Mm) :=
  some ((if x0 < 0 then 0 else (if 3 ≤ x0 then 0 else 1)), M)
def sX6_hasCell (x1 : Int32) (M : Mm) : Option (Int32 × Mm) :=
  some ((if x1 < 0 then 0 else (if (M.1 22 2) ≤ x1 then 0 else 1)), M)
def sX10_isDigit (x0 : Int32) (M : Mm) : Option (Int32 × Mm) :=
  some ((if x0 < 48 then 0 else (if 57 < x0 then 0 else 1)), M)
def sX10_cutNumber_10 : Nat → Mm → Option (Mm)
  | 0, _ => none
  | F + 1, M => if (M.1 3 2) ≤ (M.1 3 3) then
      (some M)
    else (ck (inb (M.1 3 3) 800) ((sX10_isDigit (M.1 2 (M.1 3 3).toNatClampNeg) M).bind fun (q30 : Int32 × Mm) =>
    if q30.1 = 0 then
      (some q30.2)
    else (ck (inb (q30.2.1 3 3) 800) (sX10_cutNumber_10 F (sI (sI q30.2 3 6 (if 1000 < ((((q30.2.1 3 6) * 10) + (q30.2.1 2 (q30.2.1 3 3).toNatClampNeg)) - 48) then 1000 else ((((q30.2.1 3 6) * 10) + (q30.2.1 2 (q30.2.1 3 3).toNatClampNeg)) - 48))) 3 3 (((sI q30.2 3 6 (if 1000 < ((((q30.2.1 3 6) * 10) + (q30.2.1 2 (q30.2.1 3 3).toNatClampNeg)) - 48) then 1000 else ((((q30.2.1 3 6) * 10) + (q30.2.1 2 (q30.2.1 3 3).toNatClampNeg)) - 48))).1 3 3) + 1))))))
def sX10_cutNumber (M : Mm) : Option (Mm) :=
  sX10_cutNumber_10 4096 (sI (sI M 3 4 1) 3 6 0)
def sX10_isLetter (x0 : Int32) (M : Mm) : Option (Int32 × Mm) :=
  some ((if x0 < 97 then 0 else (if 122 < x0 then 0 else 1)), M)
def sX10_joined (y0 : Int64) (x2 : Int32) (M : Mm) : Option (Int64 × Mm) :=
  some (((y0 * 32) + ((x2 - 97) + 1).toInt64), M)
def sX10_wordNumber_2 : Nat → Int32 → Mm → Option (Int32 × Mm)
  | 0, _, _ => none
  | F + 1, x1, M => if 24 ≤ x1 then
      (some ((-1), M))
    else (ck (inb x1 24) (if (lg_cmp (M.2 4 x1.toNatClampNeg) (M.2 3 7)) = 0 then
      (some (x1, M))
    else (sX10_wordNumber_2 F (x1 + 1) M)))
def sX10_wordNumber (M : Mm) : Option (Int32 × Mm) :=
  sX10_wordNumber_2 4096 0 M
def sX10_cutWord_107 (s1 : Int32) (M : Mm) : Option (Mm) :=
  some (sI M 3 6 s1)
def sX10_cutWord_83 (M : Mm) : Option (Mm) :=
  if ((M.1 3 3) - (M.1 3 5)) ≤ 8 then
    ((sX10_wordNumber M).bind fun (q104 : Int32 × Mm) =>
    sX10_cutWord_107 q104.1 q104.2)
  else (sX10_cutWord_107 (-2) M)
def sX10_cutWord_70 (k10 : Mm → Option (Mm)) (M : Mm) : Option (Mm) :=
  k10 (sI M 3 3 ((M.1 3 3) + 1))
def sX10_cutWord_10 : Nat → Mm → Option (Mm)
  | 0, _ => none
  | F + 1, M => if (M.1 3 2) ≤ (M.1 3 3) then
      (sX10_cutWord_83 M)
    else (ck (inb (M.1 3 3) 800) ((sX10_isLetter (M.1 2 (M.1 3 3).toNatClampNeg) M).bind fun (q30 : Int32 × Mm) =>
    if q30.1 = 0 then
      (sX10_cutWord_83 q30.2)
    else (if 8 ≤ ((q30.2.1 3 3) - (q30.2.1 3 5)) then
      (sX10_cutWord_70 (sX10_cutWord_10 F) q30.2)
    else (ck (inb (q30.2.1 3 3) 800) ((sX10_joined (q30.2.2 3 7) (q30.2.1 2 (q30.2.1 3 3).toNatClampNeg) q30.2).bind fun (q64 : Int64 × Mm) =>
    sX10_cutWord_70 (sX10_cutWord_10 F) (sL q64.2 3 7 q64.1))))))
def sX10_cutWord (M : Mm) : Option (Mm) :=
  sX10_cutWord_10 4096 (sL (sI M 3 4 2) 3 7 0)
def sX10_cutSign_46 (M : Mm) : Option (Mm) :=
  if (M.1 3 2) ≤ (M.1 3 3) then
    (some M)
  else (ck (inb (M.1 3 3) 800) (if (M.1 2 (M.1 3 3).toNatClampNeg) = 61 then
    (some (sI (sI M 3 6 ((M.1 3 6) + 256)) 3 3 (((sI M 3 6 ((M.1 3 6) + 256)).1 3 3) + 1)))
  else (some M)))
def sX10_cutSign (M : Mm) : Option (Mm) :=
  ck (inb ((sI M 3 4 3).1 3 3) 800) (if ((sI (sI (sI M 3 4 3) 3 6 ((sI M 3 4 3).1 2 ((sI M 3 4 3).1 3 3).toNatClampNeg)) 3 3 (((sI (sI M 3 4 3) 3 6 ((sI M 3 4 3).1 2 ((sI M 3 4 3).1 3 3).toNatClampNeg)).1 3 3) + 1)).1 3 6) = 60 then
    (sX10_cutSign_46 (sI (sI (sI M 3 4 3) 3 6 ((sI M 3 4 3).1 2 ((sI M 3 4 3).1 3 3).toNatClampNeg)) 3 3 (((sI (sI M 3 4 3) 3 6 ((sI M 3 4 3).1 2 ((sI M 3 4 3).1 3 3).toNatClampNeg)).1 3 3) + 1)))
  else (if ((sI (sI (sI M 3 4 3) 3 6 ((sI M 3 4 3).1 2 ((sI M 3 4 3).1 3 3).toNatClampNeg)) 3 3 (((sI (sI M 3 4 3) 3 6 ((sI M 3 4 3).1 2 ((sI M 3 4 3).1 3 3).toNatClampNeg)).1 3 3) + 1)).1 3 6) = 62 then
    (sX10_cutSign_46 (sI (sI (sI M 3 4 3) 3 6 ((sI M 3 4 3).1 2 ((sI M 3 4 3).1 3 3).toNatClampNeg)) 3 3 (((sI (sI M 3 4 3) 3 6 ((sI M 3 4 3).1 2 ((sI M 3 4 3).1 3 3).toNatClampNeg)).1 3 3) + 1)))
  else (some (sI (sI (sI M 3 4 3) 3 6 ((sI M 3 4 3).1 2 ((sI M 3 4 3).1 3 3).toNatClampNeg)) 3 3 (((sI (sI M 3 4 3) 3 6 ((sI M 3 4 3).1 2 ((sI M 3 4 3).1 3 3).toNatClampNeg)).1 3 3) + 1)))))
def sX10_step_52 (M : Mm) : Option (Mm) :=
  if ((sI M 3 5 (M.1 3 3)).1 3 3) < ((sI M 3 5 (M.1 3 3)).1 3 2) then
    (ck (inb ((sI M 3 5 (M.1 3 3)).1 3 3) 800) ((sX10_isDigit ((sI M 3 5 (M.1 3 3)).1 2 ((sI M 3 5 (M.1 3 3)).1 3 3).toNatClampNeg) (sI M 3 5 (M.1 3 3))).bind fun (q88 : Int32 × Mm) =>
    if q88.1 = 0 then
      (ck (inb (q88.2.1 3 3) 800) ((sX10_isLetter (q88.2.1 2 (q88.2.1 3 3).toNatClampNeg) q88.2).bind fun (q110 : Int32 × Mm) =>
      if q110.1 = 0 then
        ((sX10_cutSign q110.2).bind fun (M124 : Mm) =>
        some M124)
      else ((sX10_cutWord q110.2).bind fun (M117 : Mm) =>
      some M117)))
    else ((sX10_cutNumber q88.2).bind fun (M95 : Mm) =>
    some M95)))
  else (some (sI (sI M 3 5 (M.1 3 3)) 3 4 0))
def sX10_step_39 (k0 : Mm → Option (Mm)) (M : Mm) : Option (Mm) :=
  k0 (sI M 3 3 ((M.1 3 3) + 1))
def sX10_step_0 : Nat → Mm → Option (Mm)
  | 0, _ => none
  | F + 1, M => if (M.1 3 2) ≤ (M.1 3 3) then
      (sX10_step_52 M)
    else (ck (inb (M.1 3 3) 800) (if (M.1 2 (M.1 3 3).toNatClampNeg) = 32 then
      (sX10_step_39 (sX10_step_0 F) M)
    else (ck (inb (M.1 3 3) 800) (if (M.1 2 (M.1 3 3).toNatClampNeg) = 10 then
      (sX10_step_39 (sX10_step_0 F) M)
    else (sX10_step_52 M)))))
def sX10_step (M : Mm) : Option (Mm) :=
  sX10_step_0 4096 M
def sX10_start (x1 : Int32) (M : Mm) : Option (Mm) :=
  (sX10_step (sI (sI (sI (sI M 3 2 (if 800 < x1 then 800 else x1)) 3 3 0) 3 8 0) 3 9 (-1))).bind fun (M29 : Mm) =>
  some M29
def sX7_get (r0 : Nat) (x1 : Int32) (x2 : Int32) (M : Mm) : Option (Int32 × Mm) :=
  ck (inb ((x1 * 6) + x2) 48) (some ((M.1 (r0 + 1) ((x1 * 6) + x2).toNatClampNeg), M))
def sX7_depth (r0 : Nat) (M : Mm) : Option (Int32 × Mm) :=
  if (M.1 r0 3) ≤ 0 then
    (some (0, M))
  else ((sX7_get r0 ((M.1 r0 3) - 1) 1 M).bind fun (q15 : Int32 × Mm) =>
  some (q15.1, q15.2))
def sX10_refuse (x1 : Int32) (M : Mm) : Option (Int32 × Mm) :=
  some (0, (sI (sI M 3 8 x1) 3 9 ((sI M 3 8 x1).1 3 5)))
def sX10_isNumberTo_30 (M : Mm) : Option (Int32 × Mm) :=
  some (1, M)
def sX10_isNumberTo (x1 : Int32) (M : Mm) : Option (Int32 × Mm) :=
  if (M.1 3 4) = 1 then
    (if (M.1 3 6) ≤ x1 then
      (sX10_isNumberTo_30 M)
    else ((sX10_refuse 2 M).bind fun (q24 : Int32 × Mm) =>
    if q24.1 = 0 then
      (some (0, q24.2))
    else (sX10_isNumberTo_30 q24.2)))
  else ((sX10_refuse 1 M).bind fun (q10 : Int32 × Mm) =>
  ck (isb q10.1) (some (q10.1, q10.2)))
def sX7_set (r0 : Nat) (x1 : Int32) (x2 : Int32) (x3 : Int32) (M : Mm) : Option (Mm) :=
  ck (inb ((x1 * 6) + x2) 48) (some (sI M (r0 + 1) ((x1 * 6) + x2).toNatClampNeg x3))
def sX10_isSign (x1 : Int32) (M : Mm) : Option (Int32 × Mm) :=
  some ((if (M.1 3 4) = 3 then (if (M.1 3 6) = x1 then 1 else 0) else 0), M)
def sX10_takeSign (x1 : Int32) (M : Mm) : Option (Int32 × Mm) :=
  (sX10_isSign x1 M).bind fun (q2 : Int32 × Mm) =>
  if q2.1 = 0 then
    ((sX10_refuse 1 q2.2).bind fun (q10 : Int32 × Mm) =>
    ck (isb q10.1) (some (q10.1, q10.2)))
  else ((sX10_step q2.2).bind fun (M15 : Mm) =>
  some (1, M15))
def sX7_readDepths (r0 : Nat) (x2 : Int32) (M : Mm) : Option (Int32 × Mm) :=
  (sX7_depth r0 M).bind fun (q1 : Int32 × Mm) =>
  (sX10_isNumberTo 300 q1.2).bind fun (q9 : Int32 × Mm) =>
  if q9.1 = 0 then
    (some (0, q9.2))
  else (if (q9.2.1 3 6) = q1.1 then
    ((sX7_set r0 x2 0 q1.1 q9.2).bind fun (M35 : Mm) =>
    (sX10_step M35).bind fun (M39 : Mm) =>
    (sX10_takeSign 45 M39).bind fun (q45 : Int32 × Mm) =>
    if q45.1 = 0 then
      (some (0, q45.2))
    else ((sX10_isNumberTo 300 q45.2).bind fun (q55 : Int32 × Mm) =>
    if q55.1 = 0 then
      (some (0, q55.2))
    else (if q1.1 < (q55.2.1 3 6) then
      ((sX7_set r0 x2 1 (q55.2.1 3 6) q55.2).bind fun (M84 : Mm) =>
      (sX10_step M84).bind fun (M88 : Mm) =>
      some (1, M88))
    else ((sX10_refuse 3 q55.2).bind fun (q73 : Int32 × Mm) =>
    ck (isb q73.1) (some (q73.1, q73.2))))))
  else ((sX10_refuse 3 q9.2).bind fun (q27 : Int32 × Mm) =>
  ck (isb q27.1) (some (q27.1, q27.2))))
def sX10_isWord (x1 : Int32) (x2 : Int32) (M : Mm) : Option (Int32 × Mm) :=
  some ((if (M.1 3 4) = 2 then (if (M.1 3 6) < x1 then 0 else (if (x1 + x2) ≤ (M.1 3 6) then 0 else 1)) else 0), M)
def sX7_readWord (r0 : Nat) (x2 : Int32) (x3 : Int32) (x4 : Int32) (x5 : Int32) (M : Mm) : Option (Int32 × Mm) :=
  (sX10_isWord x4 x5 M).bind fun (q5 : Int32 × Mm) =>
  if q5.1 = 0 then
    ((sX10_refuse 1 q5.2).bind fun (q13 : Int32 × Mm) =>
    ck (isb q13.1) (some (q13.1, q13.2)))
  else ((sX7_set r0 x2 x3 ((q5.2.1 3 6) - x4) q5.2).bind fun (M27 : Mm) =>
  (sX10_step M27).bind fun (M31 : Mm) =>
  some (1, M31))
def sX7_readStones (r0 : Nat) (x2 : Int32) (M : Mm) : Option (Int32 × Mm) :=
  (sX7_set r0 x2 5 0 M).bind fun (M4 : Mm) =>
  (sX10_isWord 12 1 M4).bind fun (q11 : Int32 × Mm) =>
  if q11.1 = 0 then
    (some (1, q11.2))
  else ((sX10_step q11.2).bind fun (M20 : Mm) =>
  (sX10_isNumberTo 99 M20).bind fun (q26 : Int32 × Mm) =>
  if q26.1 = 0 then
    (some (0, q26.2))
  else ((sX7_set r0 x2 5 (q26.2.1 3 6) q26.2).bind fun (M41 : Mm) =>
  (sX10_step M41).bind fun (M45 : Mm) =>
  some (1, M45)))
def sX7_readLook_59 (r0 : Nat) (x2 : Int32) (M : Mm) : Option (Int32 × Mm) :=
  (sX7_readStones r0 x2 M).bind fun (q62 : Int32 × Mm) =>
  ck (isb q62.1) (some (q62.1, q62.2))
def sX7_readLook_48 (r0 : Nat) (x2 : Int32) (x3 : Int32) (s1 : Int32) (s2 : Int32) (s3 : Int32) (M : Mm) : Option (Int32 × Mm) :=
  (sX7_set r0 s1 s2 s3 M).bind fun (M48 : Mm) =>
  if x3 = 0 then
    (sX7_readLook_59 r0 x2 M48)
  else ((sX10_step M48).bind fun (M56 : Mm) =>
  sX7_readLook_59 r0 x2 M56)
def sX7_readLook (r0 : Nat) (x2 : Int32) (M : Mm) : Option (Int32 × Mm) :=
  (sX7_readWord r0 x2 2 0 6 M).bind fun (q7 : Int32 × Mm) =>
  if q7.1 = 0 then
    (some (0, q7.2))
  else ((sX7_readWord r0 x2 3 6 5 q7.2).bind fun (q20 : Int32 × Mm) =>
  if q20.1 = 0 then
    (some (0, q20.2))
  else ((sX10_isWord 11 1 q20.2).bind fun (q32 : Int32 × Mm) =>
  sX7_readLook_48 r0 x2 q32.1 x2 4 (if q32.1 = 0 then 0 else 1) q32.2))
def sX7_readFrom_89 (r0 : Nat) (s1 : Int32) (M : Mm) : Option (Int32 × Mm) :=
  (sX10_refuse s1 M).bind fun (q89 : Int32 × Mm) =>
  ck (isb q89.1) (some (q89.1, q89.2))
def sX7_readFrom_7 (r0 : Nat) : Nat → Int32 → Mm → Option (Int32 × Mm)
  | 0, _, _ => none
  | F + 1, x2, M => if 8 ≤ x2 then
      (sX7_readFrom_89 r0 (if (M.1 3 4) = 1 then 2 else 1) M)
    else ((sX7_readDepths r0 x2 M).bind fun (q16 : Int32 × Mm) =>
    if q16.1 = 0 then
      (some (0, q16.2))
    else ((sX7_readLook r0 x2 q16.2).bind fun (q25 : Int32 × Mm) =>
    if q25.1 = 0 then
      (some (0, q25.2))
    else (if ((sI q25.2 r0 3 (x2 + 1)).1 3 4) = 0 then
      (some (1, (sI q25.2 r0 3 (x2 + 1))))
    else ((sX10_takeSign 59 (sI q25.2 r0 3 (x2 + 1))).bind fun (q52 : Int32 × Mm) =>
    if q52.1 = 0 then
      (some (0, q52.2))
    else (if (q52.2.1 3 4) = 0 then
      (some (1, q52.2))
    else (sX7_readFrom_7 r0 F (x2 + 1) q52.2))))))
def sX7_readFrom (r0 : Nat) (M : Mm) : Option (Int32 × Mm) :=
  sX7_readFrom_7 r0 4096 0 (sI M r0 3 0)
def sX11_keepFault (M : Mm) : Option (Mm) :=
  some (sI (sI (sI M 1 5 (M.1 3 8)) 1 6 ((sI M 1 5 (M.1 3 8)).1 3 9)) 1 1 0)
def sX7_allLayers (r0 : Nat) (M : Mm) : Option (Int32 × Mm) :=
  some (((1 <<< ((M.1 r0 3) &&& 31)) - 1), M)
def sX4_isAt_44 (r0 : Nat) (k2 : Int32 → Int32 → Int32 → Mm → Option (Int32 × Mm)) (x1 : Int32) (x2 : Int32) (x3 : Int32) (M : Mm) : Option (Int32 × Mm) :=
  k2 x1 x2 (x3 + 1) M
def sX4_isAt_2 (r0 : Nat) : Nat → Int32 → Int32 → Int32 → Mm → Option (Int32 × Mm)
  | 0, _, _, _, _ => none
  | F + 1, x1, x2, x3, M => if (M.1 r0 3) ≤ x3 then
      (some (0, M))
    else ((sX7_get r0 x3 0 M).bind fun (q13 : Int32 × Mm) =>
    if x1 < q13.1 then
      (sX4_isAt_44 r0 (sX4_isAt_2 r0 F) x1 x2 x3 q13.2)
    else ((sX7_get r0 x3 1 q13.2).bind fun (q24 : Int32 × Mm) =>
    if q24.1 ≤ x1 then
      (sX4_isAt_44 r0 (sX4_isAt_2 r0 F) x1 x2 x3 q24.2)
    else (some ((if (x2 &&& (1 <<< (x3 &&& 31))) = 0 then 0 else 1), q24.2))))
def sX4_isAt (r0 : Nat) (x1 : Int32) (x2 : Int32) (M : Mm) : Option (Int32 × Mm) :=
  sX4_isAt_2 r0 4096 x1 x2 0 M
def sX4_thickness_36 (r0 : Nat) (k4 : Int32 → Int32 → Int32 → Mm → Option (Int32 × Mm)) (x1 : Int32) (x2 : Int32) (x3 : Int32) (M : Mm) : Option (Int32 × Mm) :=
  k4 x1 x2 (x3 + 1) M
def sX4_thickness_4 (r0 : Nat) : Nat → Int32 → Int32 → Int32 → Mm → Option (Int32 × Mm)
  | 0, _, _, _, _ => none
  | F + 1, x1, x2, x3, M => if (M.1 r0 3) ≤ x3 then
      (some (x2, M))
    else (if (x1 &&& (1 <<< (x3 &&& 31))) = 0 then
      (sX4_thickness_36 r0 (sX4_thickness_4 r0 F) x1 x2 x3 M)
    else ((sX7_get r0 x3 1 M).bind fun (q24 : Int32 × Mm) =>
    (sX7_get r0 x3 0 q24.2).bind fun (q30 : Int32 × Mm) =>
    sX4_thickness_36 r0 (sX4_thickness_4 r0 F) x1 (x2 + (q24.1 - q30.1)) x3 q30.2))
def sX4_thickness (r0 : Nat) (x1 : Int32) (M : Mm) : Option (Int32 × Mm) :=
  sX4_thickness_4 r0 4096 x1 0 0 M
def sX4_compares (r0 : Nat) (x1 : Int32) (x2 : Int32) (M : Mm) : Option (Int32 × Mm) :=
  ck (inb x2 96) (if (M.1 (r0 + 2) x2.toNatClampNeg) = 60 then
    (ck (inb x2 96) (some ((if (M.1 (r0 + 3) x2.toNatClampNeg) ≤ x1 then 0 else 1), M)))
  else if (M.1 (r0 + 2) x2.toNatClampNeg) = 61 then
    (ck (inb x2 96) (some ((if x1 = (M.1 (r0 + 3) x2.toNatClampNeg) then 1 else 0), M)))
  else if (M.1 (r0 + 2) x2.toNatClampNeg) = 316 then
    (ck (inb x2 96) (some ((if (M.1 (r0 + 3) x2.toNatClampNeg) < x1 then 0 else 1), M)))
  else if (M.1 (r0 + 2) x2.toNatClampNeg) = 318 then
    (ck (inb x2 96) (some ((if x1 < (M.1 (r0 + 3) x2.toNatClampNeg) then 0 else 1), M)))
  else (ck (inb x2 96) (some ((if x1 ≤ (M.1 (r0 + 3) x2.toNatClampNeg) then 0 else 1), M))))
def sX4_firstBegin_2 (r0 : Nat) : Nat → Int32 → Int32 → Mm → Option (Int32 × Mm)
  | 0, _, _, _ => none
  | F + 1, x1, x2, M => if (M.1 r0 3) ≤ x2 then
      (some (999, M))
    else (if (x1 &&& (1 <<< (x2 &&& 31))) = 0 then
      (sX4_firstBegin_2 r0 F x1 (x2 + 1) M)
    else ((sX7_get r0 x2 0 M).bind fun (q21 : Int32 × Mm) =>
    some (q21.1, q21.2)))
def sX4_firstBegin (r0 : Nat) (x1 : Int32) (M : Mm) : Option (Int32 × Mm) :=
  sX4_firstBegin_2 r0 4096 x1 0 M
def sX4_changed_132 (r0 : Nat) (r1 : Nat) (x4 : Int32) (x5 : Int32) (M : Mm) : Option (Int32 × Mm) :=
  some ((if x5 = 0 then 0 else x4), M)
def sX4_changed_120 (r0 : Nat) (r1 : Nat) (x2 : Int32) (x3 : Int32) (x4 : Int32) (M : Mm) : Option (Int32 × Mm) :=
  (sX4_firstBegin r1 x3 M).bind fun (q123 : Int32 × Mm) =>
  (sX4_compares r0 q123.1 x2 q123.2).bind fun (q127 : Int32 × Mm) =>
  sX4_changed_132 r0 r1 x4 q127.1 q127.2
def sX4_changed_68 (r0 : Nat) (r1 : Nat) (x4 : Int32) (s0 : Int32) (M : Mm) : Option (Int32 × Mm) :=
  sX4_changed_132 r0 r1 x4 s0 M
def sX4_changed_84 (r0 : Nat) (r1 : Nat) (x4 : Int32) (s0 : Int32) (M : Mm) : Option (Int32 × Mm) :=
  sX4_changed_132 r0 r1 x4 s0 M
def sX4_changed (r0 : Nat) (r1 : Nat) (x2 : Int32) (x3 : Int32) (M : Mm) : Option (Int32 × Mm) :=
  (sX7_allLayers r1 M).bind fun (q1 : Int32 × Mm) =>
  ck (inb x2 96) (if (q1.2.1 (r0 + 1) x2.toNatClampNeg) = 16 then
    (some ((q1.1 &&& (x3 ^^^ (-1))), q1.2))
  else if (q1.2.1 (r0 + 1) x2.toNatClampNeg) = 17 then
    (sX4_changed_120 r0 r1 x2 x3 q1.1 q1.2)
  else if (q1.2.1 (r0 + 1) x2.toNatClampNeg) = 18 then
    (sX4_changed_68 r0 r1 q1.1 (if x3 = 0 then 0 else 1) q1.2)
  else if (q1.2.1 (r0 + 1) x2.toNatClampNeg) = 19 then
    (sX4_changed_84 r0 r1 q1.1 (if x3 = q1.1 then 1 else 0) q1.2)
  else if (q1.2.1 (r0 + 1) x2.toNatClampNeg) = 20 then
    (ck (inb x2 96) ((sX4_isAt r1 (q1.2.1 (r0 + 3) x2.toNatClampNeg) x3 q1.2).bind fun (q97 : Int32 × Mm) =>
    sX4_changed_132 r0 r1 q1.1 q97.1 q97.2))
  else if (q1.2.1 (r0 + 1) x2.toNatClampNeg) = 21 then
    ((sX4_thickness r1 x3 q1.2).bind fun (q108 : Int32 × Mm) =>
    (sX4_compares r0 q108.1 x2 q108.2).bind fun (q112 : Int32 × Mm) =>
    sX4_changed_132 r0 r1 q1.1 q112.1 q112.2)
  else (sX4_changed_120 r0 r1 x2 x3 q1.1 q1.2))
def sX4_isSo (r0 : Nat) (r1 : Nat) (x2 : Int32) (x3 : Int32) (M : Mm) : Option (Int32 × Mm) :=
  ck (inb x3 96) (if (M.1 (r0 + 1) x3.toNatClampNeg) = 11 then
    ((sX7_get r1 x2 4 M).bind fun (q35 : Int32 × Mm) =>
    some ((if q35.1 = 1 then 1 else 0), q35.2))
  else if (M.1 (r0 + 1) x3.toNatClampNeg) = 12 then
    ((sX7_get r1 x2 5 M).bind fun (q52 : Int32 × Mm) =>
    (sX4_compares r0 q52.1 x3 q52.2).bind fun (q56 : Int32 × Mm) =>
    ck (isb q56.1) (some (q56.1, q56.2)))
  else if (M.1 (r0 + 1) x3.toNatClampNeg) = 13 then
    ((sX7_get r1 x2 1 M).bind fun (q64 : Int32 × Mm) =>
    (sX7_get r1 x2 0 q64.2).bind fun (q70 : Int32 × Mm) =>
    (sX4_compares r0 (q64.1 - q70.1) x3 q70.2).bind fun (q75 : Int32 × Mm) =>
    ck (isb q75.1) (some (q75.1, q75.2)))
  else (ck (inb x3 96) (if 6 ≤ (M.1 (r0 + 1) x3.toNatClampNeg) then
    ((sX7_get r1 x2 3 M).bind fun (q118 : Int32 × Mm) =>
    ck (inb x3 96) (some ((if q118.1 = ((q118.2.1 (r0 + 1) x3.toNatClampNeg) - 6) then 1 else 0), q118.2)))
  else ((sX7_get r1 x2 2 M).bind fun (q93 : Int32 × Mm) =>
  ck (inb x3 96) (some ((if q93.1 = ((q93.2.1 (r0 + 1) x3.toNatClampNeg) - 0) then 1 else 0), q93.2))))))
def sX4_leaf_82 (r0 : Nat) (r1 : Nat) (k53 : Int32 → Int32 → Int32 → Mm → Option (Int32 × Mm)) (x2 : Int32) (x4 : Int32) (x5 : Int32) (M : Mm) : Option (Int32 × Mm) :=
  k53 x2 x4 (x5 + 1) M
def sX4_leaf_53 (r0 : Nat) (r1 : Nat) : Nat → Int32 → Int32 → Int32 → Mm → Option (Int32 × Mm)
  | 0, _, _, _, _ => none
  | F + 1, x2, x4, x5, M => if (M.1 r1 3) ≤ x5 then
      (some (x4, M))
    else ((sX4_isSo r0 r1 x5 x2 M).bind fun (q67 : Int32 × Mm) =>
    sX4_leaf_82 r0 r1 (sX4_leaf_53 r0 r1 F) x2 (if q67.1 = 0 then x4 else (x4 ||| (1 <<< (x5 &&& 31)))) x5 q67.2)
def sX4_leaf (r0 : Nat) (r1 : Nat) (x2 : Int32) (M : Mm) : Option (Int32 × Mm) :=
  (sX7_allLayers r1 M).bind fun (q1 : Int32 × Mm) =>
  ck (inb x2 96) (if (q1.2.1 (r0 + 1) x2.toNatClampNeg) = 17 then
    (some (q1.1, q1.2))
  else (ck (inb x2 96) (if (q1.2.1 (r0 + 1) x2.toNatClampNeg) = 23 then
    ((sX7_depth r1 q1.2).bind fun (q31 : Int32 × Mm) =>
    (sX4_compares r0 q31.1 x2 q31.2).bind fun (q35 : Int32 × Mm) =>
    some ((if q35.1 = 0 then 0 else q1.1), q35.2))
  else (sX4_leaf_53 r0 r1 4096 x2 0 0 q1.2))))
def sX4_holds_204 (r0 : Nat) (r1 : Nat) (k6 : Int32 → Int32 → Int32 → Mm → Option (Int32 × Mm)) (x3 : Int32) (x4 : Int32) (x5 : Int32) (M : Mm) : Option (Int32 × Mm) :=
  k6 x3 x4 (x5 + 1) M
def sX4_holds_104 (r0 : Nat) (r1 : Nat) (k6 : Int32 → Int32 → Int32 → Mm → Option (Int32 × Mm)) (x3 : Int32) (x4 : Int32) (x5 : Int32) (s1 : Int32) (s2 : Int32) (M : Mm) : Option (Int32 × Mm) :=
  ck (inb s1 96) (sX4_holds_204 r0 r1 k6 x3 x4 x5 (sI M (r0 + 7) s1.toNatClampNeg s2))
def sX4_holds_36 (r0 : Nat) (r1 : Nat) (k6 : Int32 → Int32 → Int32 → Mm → Option (Int32 × Mm)) (x3 : Int32) (x4 : Int32) (x5 : Int32) (M : Mm) : Option (Int32 × Mm) :=
  if 2 ≤ x4 then
    (ck (inb x5 96) (if (M.1 (r0 + 1) x5.toNatClampNeg) = 15 then
      (ck (inb ((x4 + (-1)) - 1) 96) (ck (inb (x4 + (-1)) 96) (sX4_holds_104 r0 r1 k6 x3 (x4 + (-1)) x5 ((x4 + (-1)) - 1) ((M.1 (r0 + 7) ((x4 + (-1)) - 1).toNatClampNeg) &&& (M.1 (r0 + 7) (x4 + (-1)).toNatClampNeg)) M)))
    else (ck (inb ((x4 + (-1)) - 1) 96) (ck (inb (x4 + (-1)) 96) (sX4_holds_104 r0 r1 k6 x3 (x4 + (-1)) x5 ((x4 + (-1)) - 1) ((M.1 (r0 + 7) ((x4 + (-1)) - 1).toNatClampNeg) ||| (M.1 (r0 + 7) (x4 + (-1)).toNatClampNeg)) M)))))
  else (some (0, M))
def sX4_holds_144 (r0 : Nat) (r1 : Nat) (k6 : Int32 → Int32 → Int32 → Mm → Option (Int32 × Mm)) (x3 : Int32) (x4 : Int32) (x5 : Int32) (M : Mm) : Option (Int32 × Mm) :=
  if 1 ≤ x4 then
    (ck (inb (x4 - 1) 96) ((sX4_changed r0 r1 x5 (M.1 (r0 + 7) (x4 - 1).toNatClampNeg) M).bind fun (q173 : Int32 × Mm) =>
    ck (inb (x4 - 1) 96) (sX4_holds_204 r0 r1 k6 x3 x4 x5 (sI q173.2 (r0 + 7) (x4 - 1).toNatClampNeg q173.1))))
  else (some (0, M))
def sX4_holds_180 (r0 : Nat) (r1 : Nat) (k6 : Int32 → Int32 → Int32 → Mm → Option (Int32 × Mm)) (x3 : Int32) (x4 : Int32) (x5 : Int32) (M : Mm) : Option (Int32 × Mm) :=
  if 96 ≤ x4 then
    (sX4_holds_204 r0 r1 k6 x3 x4 x5 M)
  else ((sX4_leaf r0 r1 x5 M).bind fun (q197 : Int32 × Mm) =>
  ck (inb x4 96) (sX4_holds_204 r0 r1 k6 x3 (x4 + 1) x5 (sI q197.2 (r0 + 7) x4.toNatClampNeg q197.1)))
def sX4_holds_6 (r0 : Nat) (r1 : Nat) : Nat → Int32 → Int32 → Int32 → Mm → Option (Int32 × Mm)
  | 0, _, _, _, _ => none
  | F + 1, x3, x4, x5, M => if x3 ≤ x5 then
      (if x4 ≤ 0 then
        (some (0, M))
      else (ck (inb (x4 - 1) 96) (some ((if (M.1 (r0 + 7) (x4 - 1).toNatClampNeg) = 0 then 0 else 1), M))))
    else (ck (inb x5 96) (if (M.1 (r0 + 1) x5.toNatClampNeg) = 15 then
      (sX4_holds_36 r0 r1 (sX4_holds_6 r0 r1 F) x3 x4 x5 M)
    else (ck (inb x5 96) (if (M.1 (r0 + 1) x5.toNatClampNeg) = 14 then
      (sX4_holds_36 r0 r1 (sX4_holds_6 r0 r1 F) x3 x4 x5 M)
    else (ck (inb x5 96) (if (M.1 (r0 + 1) x5.toNatClampNeg) = 16 then
      (sX4_holds_144 r0 r1 (sX4_holds_6 r0 r1 F) x3 x4 x5 M)
    else (ck (inb x5 96) (if (M.1 (r0 + 1) x5.toNatClampNeg) < 18 then
      (sX4_holds_180 r0 r1 (sX4_holds_6 r0 r1 F) x3 x4 x5 M)
    else (ck (inb x5 96) (if 22 < (M.1 (r0 + 1) x5.toNatClampNeg) then
      (sX4_holds_180 r0 r1 (sX4_holds_6 r0 r1 F) x3 x4 x5 M)
    else (sX4_holds_144 r0 r1 (sX4_holds_6 r0 r1 F) x3 x4 x5 M)))))))))))
def sX4_holds (r0 : Nat) (r1 : Nat) (x2 : Int32) (x3 : Int32) (M : Mm) : Option (Int32 × Mm) :=
  sX4_holds_6 r0 r1 4096 x3 0 x2 M
def sX4_firstLineOf_4 (r0 : Nat) (r1 : Nat) : Nat → Int32 → Int32 → Mm → Option (Int32 × Mm)
  | 0, _, _, _ => none
  | F + 1, x2, x3, M => if (M.1 r0 8) ≤ x3 then
      (some ((-1), M))
    else (ck (inb x3 16) ((sX4_holds r0 r1 x2 (M.1 (r0 + 4) x3.toNatClampNeg) M).bind fun (q21 : Int32 × Mm) =>
    if q21.1 = 0 then
      (ck (inb x3 16) (sX4_firstLineOf_4 r0 r1 F (q21.2.1 (r0 + 4) x3.toNatClampNeg) (x3 + 1) q21.2))
    else (some (x3, q21.2))))
def sX4_firstLineOf (r0 : Nat) (r1 : Nat) (M : Mm) : Option (Int32 × Mm) :=
  sX4_firstLineOf_4 r0 r1 4096 0 0 M
def sX7_judge_31 (r0 : Nat) (r1 : Nat) (s1 : Int32) (M : Mm) : Option (Mm) :=
  some (sI M r0 5 s1)
def sX7_judge (r0 : Nat) (r1 : Nat) (M : Mm) : Option (Mm) :=
  (sX4_firstLineOf r1 r0 M).bind fun (q3 : Int32 × Mm) =>
  if ((sI q3.2 r0 4 q3.1).1 r0 4) = (-1) then
    (sX7_judge_31 r0 r1 (-1) (sI q3.2 r0 4 q3.1))
  else (ck (inb ((sI q3.2 r0 4 q3.1).1 r0 4) 16) (sX7_judge_31 r0 r1 ((sI q3.2 r0 4 q3.1).1 (r1 + 5) ((sI q3.2 r0 4 q3.1).1 r0 4).toNatClampNeg) (sI q3.2 r0 4 q3.1)))
def sX11_bore (kq : Nat × Nat) (x1 : Int32) (x2 : Int32) (x3 : Int32) (M : Mm) : Option (Int32 × Mm) :=
  if x1 < 0 then
    (some ((-2), M))
  else (if (M.1 1 1) < x1 then
    (some ((-2), M))
  else ((sX11_isHand x2 M).bind fun (q13 : Int32 × Mm) =>
  if q13.1 = 0 then
    (some ((-2), q13.2))
  else ((sX6_hasCell x3 q13.2).bind fun (q24 : Int32 × Mm) =>
  if q24.1 = 0 then
    (some ((-2), q24.2))
  else (if (q24.2.1 34 1) < 60 then
    (ck (inb (q24.2.1 34 1) 60) ((sX10_start x1 q24.2).bind fun (M67 : Mm) =>
    (sX7_readFrom (38 + 2 * (q24.2.1 34 1).toNatClampNeg) M67).bind fun (q76 : Int32 × Mm) =>
    (sX11_keepFault q76.2).bind fun (M82 : Mm) =>
    if q76.1 = 0 then
      (some ((-1), M82))
    else ((sX7_judge (38 + 2 * (q24.2.1 34 1).toNatClampNeg) kq.1 (sI (sI (sI M82 (38 + 2 * (q24.2.1 34 1).toNatClampNeg) 0 (-1)) (38 + 2 * (q24.2.1 34 1).toNatClampNeg) 1 x2) (38 + 2 * (q24.2.1 34 1).toNatClampNeg) 2 x3)).bind fun (M116 : Mm) =>
    some ((((sI M116 34 1 ((M116.1 34 1) + 1)).1 34 1) - 1), (sI M116 34 1 ((M116.1 34 1) + 1))))))
  else (some ((-2), q24.2))))))
def sX11_fault (x1 : Int32) (M : Mm) : Option (Int32 × Mm) :=
  some ((if x1 = 0 then (M.1 1 5) else (if x1 = 1 then (M.1 1 6) else (-1))), M)
def sX1_hasNote (x1 : Int32) (M : Mm) : Option (Int32 × Mm) :=
  some ((if x1 < 0 then 0 else (if (M.1 34 1) ≤ x1 then 0 else 1)), M)
def sX11_strike (x1 : Int32) (M : Mm) : Option (Int32 × Mm) :=
  (sX1_hasNote x1 M).bind fun (q5 : Int32 × Mm) =>
  if q5.1 = 0 then
    (some ((-1), q5.2))
  else (if (q5.2.1 34 1) < 60 then
    (ck (inb (q5.2.1 34 1) 60) (some ((((sI (sI q5.2 (38 + 2 * (q5.2.1 34 1).toNatClampNeg) 0 x1) 34 1 (((sI q5.2 (38 + 2 * (q5.2.1 34 1).toNatClampNeg) 0 x1).1 34 1) + 1)).1 34 1) - 1), (sI (sI q5.2 (38 + 2 * (q5.2.1 34 1).toNatClampNeg) 0 x1) 34 1 (((sI q5.2 (38 + 2 * (q5.2.1 34 1).toNatClampNeg) 0 x1).1 34 1) + 1)))))
  else (some ((-1), q5.2)))
def sX6_heightGap (x1 : Int32) (x2 : Int32) (M : Mm) : Option (Int32 × Mm) :=
  ck (inb 0 5) (ck (inb x1 64) (ck (inb 0 5) (ck (inb x2 64) (some ((if 0 ≤ ((M.1 (24 + ((0 : Int32).toNatClampNeg)) x1.toNatClampNeg) - (M.1 (24 + ((0 : Int32).toNatClampNeg)) x2.toNatClampNeg)) then ((M.1 (24 + ((0 : Int32).toNatClampNeg)) x1.toNatClampNeg) - (M.1 (24 + ((0 : Int32).toNatClampNeg)) x2.toNatClampNeg)) else 0 - ((M.1 (24 + ((0 : Int32).toNatClampNeg)) x1.toNatClampNeg) - (M.1 (24 + ((0 : Int32).toNatClampNeg)) x2.toNatClampNeg))), M)))))
def sX6_slopeOf_111 (s0 : Int32) (s1 : Int32) (M : Mm) : Option (Int32 × Mm) :=
  some ((if s0 < s1 then s1 else s0), M)
def sX6_slopeOf_78 (x1 : Int32) (s0 : Int32) (s1 : Int32) (M : Mm) : Option (Int32 × Mm) :=
  if (M.1 22 2) ≤ (x1 + (M.1 22 0)) then
    (sX6_slopeOf_111 (if s0 < s1 then s1 else s0) 0 M)
  else ((sX6_heightGap x1 (x1 + (M.1 22 0)) M).bind fun (q104 : Int32 × Mm) =>
  sX6_slopeOf_111 (if s0 < s1 then s1 else s0) q104.1 q104.2)
def sX6_slopeOf_50 (x1 : Int32) (s0 : Int32) (s1 : Int32) (M : Mm) : Option (Int32 × Mm) :=
  if x1 < (M.1 22 0) then
    (sX6_slopeOf_78 x1 (if s0 < s1 then s1 else s0) 0 M)
  else ((sX6_heightGap x1 (x1 - (M.1 22 0)) M).bind fun (q71 : Int32 × Mm) =>
  sX6_slopeOf_78 x1 (if s0 < s1 then s1 else s0) q71.1 q71.2)
def sX6_slopeOf_21 (x1 : Int32) (s0 : Int32) (M : Mm) : Option (Int32 × Mm) :=
  ck (inb x1 64) (if ((M.1 22 0) - 1) ≤ (M.1 29 x1.toNatClampNeg) then
    (sX6_slopeOf_50 x1 s0 0 M)
  else ((sX6_heightGap x1 (x1 + 1) M).bind fun (q43 : Int32 × Mm) =>
  sX6_slopeOf_50 x1 s0 q43.1 q43.2))
def sX6_slopeOf (x1 : Int32) (M : Mm) : Option (Int32 × Mm) :=
  ck (inb x1 64) (if (M.1 29 x1.toNatClampNeg) ≤ 0 then
    (sX6_slopeOf_21 x1 0 M)
  else ((sX6_heightGap x1 (x1 - 1) M).bind fun (q14 : Int32 × Mm) =>
  sX6_slopeOf_21 x1 q14.1 q14.2))
def sX6_stepOf (x0 : Int32) (x1 : Int32) (x2 : Int32) (M : Mm) : Option (Int32 × Mm) :=
  some ((if x1 ≤ x0 then (if x2 ≤ x0 then 2 else 1) else 0), M)
def sX6_reckon_84 (k2 : Int32 → Mm → Option (Mm)) (x1 : Int32) (s1 : Int32) (s2 : Int32) (M : Mm) : Option (Mm) :=
  ck (inb s1 64) (k2 (x1 + 1) (sI M 33 s1.toNatClampNeg s2))
def sX6_reckon_2 : Nat → Int32 → Mm → Option (Mm)
  | 0, _, _ => none
  | F + 1, x1, M => if (M.1 22 2) ≤ x1 then
      (some M)
    else ((sX6_slopeOf x1 M).bind fun (q17 : Int32 × Mm) =>
    ck (inb x1 64) (ck (inb x1 64) ((sX6_stepOf ((sI q17.2 31 x1.toNatClampNeg q17.1).1 31 x1.toNatClampNeg) ((sI q17.2 31 x1.toNatClampNeg q17.1).1 22 9) ((sI q17.2 31 x1.toNatClampNeg q17.1).1 22 10) (sI q17.2 31 x1.toNatClampNeg q17.1)).bind fun (q40 : Int32 × Mm) =>
    ck (inb x1 64) (ck (inb 2 5) (ck (inb x1 64) (if ((sI q40.2 32 x1.toNatClampNeg q40.1).1 (24 + ((2 : Int32).toNatClampNeg)) x1.toNatClampNeg) = (-1) then
      (sX6_reckon_84 (sX6_reckon_2 F) x1 x1 (-1) (sI q40.2 32 x1.toNatClampNeg q40.1))
    else (ck (inb 2 5) (ck (inb x1 64) ((sX6_stepOf ((sI q40.2 32 x1.toNatClampNeg q40.1).1 (24 + ((2 : Int32).toNatClampNeg)) x1.toNatClampNeg) ((sI q40.2 32 x1.toNatClampNeg q40.1).1 22 11) ((sI q40.2 32 x1.toNatClampNeg q40.1).1 22 12) (sI q40.2 32 x1.toNatClampNeg q40.1)).bind fun (q81 : Int32 × Mm) =>
    sX6_reckon_84 (sX6_reckon_2 F) x1 x1 q81.1 q81.2)))))))))
def sX6_reckon (M : Mm) : Option (Mm) :=
  sX6_reckon_2 4096 0 M
def sX6_renew_98 (k90 : Int32 → Mm → Option (Mm)) : Nat → Int32 → Int32 → Mm → Option (Mm)
  | 0, _, _, _ => none
  | F + 1, x3, x4, M => if (M.1 22 2) ≤ x4 then
      (k90 (x3 + 1) M)
    else (ck (inb x3 5) (ck (inb x3 5) (ck (inb x4 64) (sX6_renew_98 k90 F x3 (x4 + 1) (sI M (24 + x3.toNatClampNeg) x4.toNatClampNeg (tFIRST x3.toNatClampNeg))))))
def sX6_renew_90 : Nat → Int32 → Mm → Option (Mm)
  | 0, _, _ => none
  | F + 1, x3, M => if 5 ≤ x3 then
      ((sX6_reckon M).bind fun (M134 : Mm) =>
      some M134)
    else (sX6_renew_98 (sX6_renew_90 F) 4096 x3 0 M)
def sX6_renew_36 (k25 : Int32 → Mm → Option (Mm)) : Nat → Int32 → Int32 → Mm → Option (Mm)
  | 0, _, _, _ => none
  | F + 1, x3, x4, M => if (M.1 22 0) ≤ x4 then
      (k25 (x3 + 1) M)
    else (ck (inb ((x3 * (M.1 22 0)) + x4) 64) (ck (inb ((x3 * ((sI M 29 ((x3 * (M.1 22 0)) + x4).toNatClampNeg x4).1 22 0)) + x4) 64) (sX6_renew_36 k25 F x3 (x4 + 1) (sI (sI M 29 ((x3 * (M.1 22 0)) + x4).toNatClampNeg x4) 30 ((x3 * ((sI M 29 ((x3 * (M.1 22 0)) + x4).toNatClampNeg x4).1 22 0)) + x4).toNatClampNeg x3))))
def sX6_renew_25 : Nat → Int32 → Mm → Option (Mm)
  | 0, _, _ => none
  | F + 1, x3, M => if (M.1 22 1) ≤ x3 then
      (sX6_renew_90 4096 0 M)
    else (sX6_renew_36 (sX6_renew_25 F) 4096 x3 0 M)
def sX6_renew (x1 : Int32) (x2 : Int32) (M : Mm) : Option (Mm) :=
  sX6_renew_25 4096 0 (sI (sI (sI M 22 0 x1) 22 1 x2) 22 2 (((sI (sI M 22 0 x1) 22 1 x2).1 22 0) * ((sI (sI M 22 0 x1) 22 1 x2).1 22 1)))
def sX11_land (x1 : Int32) (x2 : Int32) (M : Mm) : Option (Int32 × Mm) :=
  if x1 < 2 then
    (some (0, M))
  else (if 8 < x1 then
    (some (0, M))
  else (if x2 < 2 then
    (some (0, M))
  else (if x2 ≤ 8 then
    ((sX6_renew x1 x2 M).bind fun (M30 : Mm) =>
    some (1, (sI M30 34 1 0)))
  else (some (0, M)))))
def sX6_put (x1 : Int32) (x2 : Int32) (x3 : Int32) (M : Mm) : Option (Int32 × Mm) :=
  if x2 < 0 then
    (some (0, M))
  else (if 5 ≤ x2 then
    (some (0, M))
  else (ck (inb x2 5) (if x3 < (tLEAST x2.toNatClampNeg) then
    (some (0, M))
  else (ck (inb x2 5) (if x3 ≤ (tMOST x2.toNatClampNeg) then
    (ck (inb x2 5) (ck (inb x1 64) ((sX6_reckon (sI M (24 + x2.toNatClampNeg) x1.toNatClampNeg x3)).bind fun (M39 : Mm) =>
    some (1, M39))))
  else (some (0, M)))))))
def sX11_ground (x1 : Int32) (x2 : Int32) (x3 : Int32) (M : Mm) : Option (Int32 × Mm) :=
  (sX6_hasCell x1 M).bind fun (q5 : Int32 × Mm) =>
  if q5.1 = 0 then
    (some (0, q5.2))
  else ((sX6_put x1 x2 x3 q5.2).bind fun (q18 : Int32 × Mm) =>
  some ((if q18.1 = 0 then 0 else 1), q18.2))
def sX6_putBounds_64 (M : Mm) : Option (Int32 × Mm) :=
  (sX6_reckon M).bind fun (M65 : Mm) =>
  some (1, M65)
def sX6_putBounds_32 (x1 : Int32) (x2 : Int32) (x3 : Int32) (s0 : Int32) (s1 : Int32) (M : Mm) : Option (Int32 × Mm) :=
  if s0 ≤ s1 then
    (if x1 = 0 then
      (sX6_putBounds_64 (sI (sI M 22 9 x2) 22 10 x3))
    else (sX6_putBounds_64 (sI (sI M 22 11 x2) 22 12 x3)))
  else (some (0, M))
def sX6_putBounds (x1 : Int32) (x2 : Int32) (x3 : Int32) (M : Mm) : Option (Int32 × Mm) :=
  if x1 < 0 then
    (some (0, M))
  else (if 1 < x1 then
    (some (0, M))
  else (if x2 < 1 then
    (some (0, M))
  else (if x3 ≤ x2 then
    (some (0, M))
  else (sX6_putBounds_32 x1 x2 x3 x3 (if x1 = 0 then 999 else 99) M))))
def sX11_bounds (x1 : Int32) (x2 : Int32) (x3 : Int32) (M : Mm) : Option (Int32 × Mm) :=
  (sX6_putBounds x1 x2 x3 M).bind fun (q7 : Int32 × Mm) =>
  ck (isb q7.1) (some (q7.1, q7.2))
def sX11_price (x1 : Int32) (x2 : Int32) (M : Mm) : Option (Int32 × Mm) :=
  if x1 < 0 then
    (some (0, M))
  else (if 1 < x1 then
    (some (0, M))
  else (if x2 < 0 then
    (some (0, M))
  else (if x2 ≤ 9999 then
    (if x1 = 0 then
      (some (1, (sI M 162 2 x2)))
    else (some (1, (sI M 162 3 x2))))
  else (some (0, M)))))
def sX11_isKind (kq : Nat × Nat) (x1 : Int32) (M : Mm) : Option (Int32 × Mm) :=
  some ((if x1 < 0 then 0 else (if (M.1 kq.1 9) ≤ x1 then 0 else 1)), M)
def sX2_noteRow_37 (s1 : Int32) (s2 : Int32) (M : Mm) : Option (Mm) :=
  ck (inb s1 8) (some (sI M 160 s1.toNatClampNeg s2))
def sX2_noteRow_17 (x1 : Int32) (x2 : Int32) (s1 : Int32) (s2 : Int32) (M : Mm) : Option (Mm) :=
  ck (inb s1 8) (sX2_noteRow_37 (x1 + 1) (if 0 ≤ x2 then (x2 - x2 / 32 * 32) else (-1)) (sI M 160 s1.toNatClampNeg s2))
def sX2_noteRow (x1 : Int32) (x2 : Int32) (M : Mm) : Option (Mm) :=
  sX2_noteRow_17 x1 x2 x1 (if 0 ≤ x2 then (x2 / 32) else (-1)) M
def sX2_place (x0 : Int32) (x1 : Int32) (x2 : Int32) (M : Mm) : Option (Int32 × Mm) :=
  some (((((x0 * 8) + x1) * 8) + x2), M)
def sX2_takeRow_82 : Nat → Int32 → Int32 → Int32 → Mm → Option (Int32 × Mm)
  | 0, _, _, _, _ => none
  | F + 1, x1, x2, x4, M => if 8 ≤ x4 then
      (some (1, M))
    else ((sX2_place x1 x2 x4 M).bind fun (q97 : Int32 × Mm) =>
    ck (inb x4 8) (ck (inb q97.1 192) (sX2_takeRow_82 F x1 x2 (x4 + 1) (sI q97.2 159 q97.1.toNatClampNeg (q97.2.1 160 x4.toNatClampNeg)))))
def sX2_takeRow_55 (k5 : Int32 → Int32 → Int32 → Int32 → Mm → Option (Int32 × Mm)) (x1 : Int32) (x2 : Int32) (x3 : Int32) (x4 : Int32) (M : Mm) : Option (Int32 × Mm) :=
  ck (inb x4 8) (k5 x1 x2 (x3 + (M.1 160 x4.toNatClampNeg)) (x4 + 1) M)
def sX2_takeRow_5 : Nat → Int32 → Int32 → Int32 → Int32 → Mm → Option (Int32 × Mm)
  | 0, _, _, _, _, _ => none
  | F + 1, x1, x2, x3, x4, M => if 8 ≤ x4 then
      (if x3 = 16 then
        (sX2_takeRow_82 4096 x1 x2 0 M)
      else (some (0, M)))
    else (ck (inb x4 8) (if (M.1 160 x4.toNatClampNeg) < 0 then
      (some (0, M))
    else (ck (inb x4 8) (if 16 < (M.1 160 x4.toNatClampNeg) then
      (some (0, M))
    else (if x4 < (M.1 158 4) then
      (sX2_takeRow_55 (sX2_takeRow_5 F) x1 x2 x3 x4 M)
    else (ck (inb x4 8) (if (M.1 160 x4.toNatClampNeg) = 0 then
      (sX2_takeRow_55 (sX2_takeRow_5 F) x1 x2 x3 x4 M)
    else (some (0, M)))))))))
def sX2_takeRow (x1 : Int32) (x2 : Int32) (M : Mm) : Option (Int32 × Mm) :=
  sX2_takeRow_5 4096 x1 x2 0 0 M
def sX11_reads (kq : Nat × Nat) (x1 : Int32) (x2 : Int32) (x3 : Int32) (x4 : Int32) (x5 : Int32) (x6 : Int32) (M : Mm) : Option (Int32 × Mm) :=
  (sX11_isHand x1 M).bind fun (q1 : Int32 × Mm) =>
  if q1.1 = 0 then
    (some (0, q1.2))
  else ((sX11_isKind kq x2 q1.2).bind fun (q9 : Int32 × Mm) =>
  if q9.1 = 0 then
    (some (0, q9.2))
  else ((sX2_noteRow 0 x3 q9.2).bind fun (M23 : Mm) =>
  (sX2_noteRow 2 x4 M23).bind fun (M33 : Mm) =>
  (sX2_noteRow 4 x5 M33).bind fun (M43 : Mm) =>
  (sX2_noteRow 6 x6 M43).bind fun (M54 : Mm) =>
  (sX2_takeRow x1 x2 M54).bind fun (q63 : Int32 × Mm) =>
  ck (isb q63.1) (some (q63.1, q63.2))))
def sX11_value (kq : Nat × Nat) (x1 : Int32) (x2 : Int32) (M : Mm) : Option (Int32 × Mm) :=
  (sX11_isKind kq x1 M).bind fun (q2 : Int32 × Mm) =>
  if q2.1 = 0 then
    (some (0, q2.2))
  else (if x2 < 0 then
    (some (0, q2.2))
  else (if x2 ≤ 9999 then
    (ck (inb x1 8) (some (1, (sI q2.2 193 x1.toNatClampNeg x2))))
  else (some (0, q2.2))))
def sX1_hasBore (x1 : Int32) (M : Mm) : Option (Int32 × Mm) :=
  (sX1_hasNote x1 M).bind fun (q2 : Int32 × Mm) =>
  if q2.1 = 0 then
    (some (0, q2.2))
  else (ck (inb x1 60) (some ((if (q2.2.1 (38 + 2 * x1.toNatClampNeg) 0) = (-1) then 1 else 0), q2.2)))
def sX11_layer_47 (M : Mm) : Option (Int32 × Mm) :=
  some ((-1), M)
def sX11_layer (x1 : Int32) (x2 : Int32) (x3 : Int32) (M : Mm) : Option (Int32 × Mm) :=
  (sX1_hasBore x1 M).bind fun (q5 : Int32 × Mm) =>
  if q5.1 = 0 then
    (some ((-1), q5.2))
  else (if x3 < 0 then
    (some ((-1), q5.2))
  else (if x3 < 6 then
    (ck (inb x1 60) (if x2 < 0 then
      (sX11_layer_47 q5.2)
    else (if x2 < (q5.2.1 (38 + 2 * x1.toNatClampNeg) 3) then
      ((sX7_get (38 + 2 * x1.toNatClampNeg) x2 x3 q5.2).bind fun (q55 : Int32 × Mm) =>
      some (q55.1, q55.2))
    else (sX11_layer_47 q5.2))))
  else (some ((-1), q5.2))))
def sX11_told (x1 : Int32) (x2 : Int32) (M : Mm) : Option (Int32 × Mm) :=
  (sX1_hasBore x1 M).bind fun (q5 : Int32 × Mm) =>
  if q5.1 = 0 then
    (some ((-2), q5.2))
  else (ck (inb x1 60) (if x2 = 0 then
    (some ((q5.2.1 (38 + 2 * x1.toNatClampNeg) 1), q5.2))
  else if x2 = 1 then
    (some ((q5.2.1 (38 + 2 * x1.toNatClampNeg) 2), q5.2))
  else if x2 = 2 then
    (some ((q5.2.1 (38 + 2 * x1.toNatClampNeg) 3), q5.2))
  else if x2 = 3 then
    (some ((q5.2.1 (38 + 2 * x1.toNatClampNeg) 5), q5.2))
  else if x2 = 4 then
    (some ((q5.2.1 (38 + 2 * x1.toNatClampNeg) 4), q5.2))
  else (some ((-2), q5.2))))
def sX6_far (x1 : Int32) (x2 : Int32) (M : Mm) : Option (Int32 × Mm) :=
  ck (inb x1 64) (ck (inb x2 64) (ck (inb x1 64) (ck (inb x2 64) (some ((if (if 0 ≤ ((M.1 29 x1.toNatClampNeg) - (M.1 29 x2.toNatClampNeg)) then ((M.1 29 x1.toNatClampNeg) - (M.1 29 x2.toNatClampNeg)) else 0 - ((M.1 29 x1.toNatClampNeg) - (M.1 29 x2.toNatClampNeg))) < (if 0 ≤ ((M.1 30 x1.toNatClampNeg) - (M.1 30 x2.toNatClampNeg)) then ((M.1 30 x1.toNatClampNeg) - (M.1 30 x2.toNatClampNeg)) else 0 - ((M.1 30 x1.toNatClampNeg) - (M.1 30 x2.toNatClampNeg))) then (if 0 ≤ ((M.1 30 x1.toNatClampNeg) - (M.1 30 x2.toNatClampNeg)) then ((M.1 30 x1.toNatClampNeg) - (M.1 30 x2.toNatClampNeg)) else 0 - ((M.1 30 x1.toNatClampNeg) - (M.1 30 x2.toNatClampNeg))) else (if 0 ≤ ((M.1 29 x1.toNatClampNeg) - (M.1 29 x2.toNatClampNeg)) then ((M.1 29 x1.toNatClampNeg) - (M.1 29 x2.toNatClampNeg)) else 0 - ((M.1 29 x1.toNatClampNeg) - (M.1 29 x2.toNatClampNeg)))), M)))))
def sX6_likeness_79 (x1 : Int32) (x2 : Int32) (s0 : Int32) (s1 : Int32) (M : Mm) : Option (Int32 × Mm) :=
  (sX6_far x1 x2 M).bind fun (q88 : Int32 × Mm) =>
  some (((s0 + s1) + (if 0 < (6 - q88.1) then (6 - q88.1) else 0)), q88.2)
def sX6_likeness_78 (x1 : Int32) (x2 : Int32) (s0 : Int32) (M : Mm) : Option (Int32 × Mm) :=
  sX6_likeness_79 x1 x2 s0 0 M
def sX6_likeness_46 (x1 : Int32) (x2 : Int32) (s0 : Int32) (s1 : Int32) (M : Mm) : Option (Int32 × Mm) :=
  ck (inb x1 64) (if (M.1 33 x1.toNatClampNeg) = (-1) then
    (sX6_likeness_78 x1 x2 (s0 + s1) M)
  else (ck (inb x1 64) (ck (inb x2 64) (if (M.1 33 x1.toNatClampNeg) = (M.1 33 x2.toNatClampNeg) then
    (sX6_likeness_79 x1 x2 (s0 + s1) 2 M)
  else (sX6_likeness_78 x1 x2 (s0 + s1) M)))))
def sX6_likeness_24 (x1 : Int32) (x2 : Int32) (s0 : Int32) (M : Mm) : Option (Int32 × Mm) :=
  ck (inb x1 64) (ck (inb x2 64) (sX6_likeness_46 x1 x2 s0 (if (M.1 32 x1.toNatClampNeg) = (M.1 32 x2.toNatClampNeg) then 2 else 0) M))
def sX6_likeness (x1 : Int32) (x2 : Int32) (M : Mm) : Option (Int32 × Mm) :=
  ck (inb 1 5) (ck (inb x1 64) (ck (inb 1 5) (ck (inb x2 64) (sX6_likeness_24 x1 x2 (if (M.1 (24 + ((1 : Int32).toNatClampNeg)) x1.toNatClampNeg) = (M.1 (24 + ((1 : Int32).toNatClampNeg)) x2.toNatClampNeg) then 4 else 0) M))))
def sX11_like (x1 : Int32) (x2 : Int32) (M : Mm) : Option (Int32 × Mm) :=
  (sX6_hasCell x1 M).bind fun (q5 : Int32 × Mm) =>
  if q5.1 = 0 then
    (some ((-1), q5.2))
  else ((sX6_hasCell x2 q5.2).bind fun (q16 : Int32 × Mm) =>
  if q16.1 = 0 then
    (some ((-1), q16.2))
  else ((sX6_likeness x1 x2 q16.2).bind fun (q28 : Int32 × Mm) =>
  some (q28.1, q28.2)))
def sX1_knows (x1 : Int32) (M : Mm) : Option (Int32 × Mm) :=
  some ((if x1 < 0 then 0 else (if (M.1 34 1) < x1 then 0 else 1)), M)
def sX1_findStruck_74 (k31 : Int32 → Mm → Option (Mm)) (x3 : Int32) (M : Mm) : Option (Mm) :=
  k31 (x3 + (-1)) M
def sX1_findStruck_31 : Nat → Int32 → Mm → Option (Mm)
  | 0, _, _ => none
  | F + 1, x3, M => if x3 < 0 then
      (some M)
    else (ck (inb x3 60) (if (M.1 (38 + 2 * x3.toNatClampNeg) 0) < 0 then
      (sX1_findStruck_74 (sX1_findStruck_31 F) x3 M)
    else (if x3 ≤ (M.1 (38 + 2 * x3.toNatClampNeg) 0) then
      (sX1_findStruck_74 (sX1_findStruck_31 F) x3 M)
    else (ck (inb x3 60) (if (M.1 37 x3.toNatClampNeg) = 0 then
      (ck (inb (M.1 (38 + 2 * x3.toNatClampNeg) 0) 60) (sX1_findStruck_74 (sX1_findStruck_31 F) x3 (sI M 37 (M.1 (38 + 2 * x3.toNatClampNeg) 0).toNatClampNeg 1)))
    else (sX1_findStruck_74 (sX1_findStruck_31 F) x3 M))))))
def sX1_findStruck_9 : Nat → Int32 → Int32 → Mm → Option (Mm)
  | 0, _, _, _ => none
  | F + 1, x2, x3, M => if x2 ≤ x3 then
      (sX1_findStruck_31 4096 (x2 - 1) M)
    else (ck (inb x3 60) (sX1_findStruck_9 F x2 (x3 + 1) (sI M 37 x3.toNatClampNeg 0)))
def sX1_findStruck (x1 : Int32) (M : Mm) : Option (Mm) :=
  sX1_findStruck_9 4096 (if 60 < x1 then 60 else x1) 0 M
def sX1_gather_78 (k12 : Int32 → Int32 → Mm → Option (Mm)) (x1 : Int32) (x2 : Int32) (M : Mm) : Option (Mm) :=
  k12 x1 (x2 + 1) M
def sX1_gather_12 : Nat → Int32 → Int32 → Mm → Option (Mm)
  | 0, _, _, _ => none
  | F + 1, x1, x2, M => if x1 ≤ x2 then
      (some M)
    else (if 60 ≤ x2 then
      (some M)
    else (ck (inb x2 60) (if (M.1 (38 + 2 * x2.toNatClampNeg) 0) = (-1) then
      (ck (inb x2 60) (if (M.1 37 x2.toNatClampNeg) = 0 then
        (ck (inb x2 60) (if (M.1 (38 + 2 * x2.toNatClampNeg) 5) = (-1) then
          (sX1_gather_78 (sX1_gather_12 F) x1 x2 M)
        else (ck (inb (M.1 34 3) 60) (sX1_gather_78 (sX1_gather_12 F) x1 x2 (sI (sI M 36 (M.1 34 3).toNatClampNeg x2) 34 3 (((sI M 36 (M.1 34 3).toNatClampNeg x2).1 34 3) + 1))))))
      else (sX1_gather_78 (sX1_gather_12 F) x1 x2 M)))
    else (sX1_gather_78 (sX1_gather_12 F) x1 x2 M))))
def sX1_gather (x1 : Int32) (M : Mm) : Option (Mm) :=
  (sX1_findStruck x1 M).bind fun (M2 : Mm) =>
  sX1_gather_12 4096 x1 0 (sI M2 34 3 0)
def sX2_addBore_16 (r2 : Nat) : Nat → Int32 → Int32 → Mm → Option (Mm)
  | 0, _, _, _ => none
  | F + 1, x3, x4, M => if (M.1 158 4) ≤ x4 then
      (some M)
    else (ck (inb x4 8) ((sX2_place (M.1 r2 1) x4 (M.1 r2 5) M).bind fun (q48 : Int32 × Mm) =>
    ck (inb q48.1 192) (ck (inb x4 8) (sX2_addBore_16 r2 F x3 (x4 + 1) (sI q48.2 161 x4.toNatClampNeg ((M.1 161 x4.toNatClampNeg) + (x3 * (q48.2.1 159 q48.1.toNatClampNeg))))))))
def sX2_addBore (r2 : Nat) (x1 : Int32) (M : Mm) : Option (Mm) :=
  (sX6_likeness x1 (M.1 r2 2) M).bind fun (q9 : Int32 × Mm) =>
  sX2_addBore_16 r2 4096 q9.1 0 q9.2
def sX2_weigh_131 (k81 : Int32 → Mm → Option (Mm)) (x3 : Int32) (s1 : Int32) (M : Mm) : Option (Mm) :=
  k81 (x3 + 1) (sI M 158 7 s1)
def sX2_weigh_81 : Nat → Int32 → Mm → Option (Mm)
  | 0, _, _ => none
  | F + 1, x3, M => if (M.1 158 4) ≤ x3 then
      (some M)
    else (ck (inb x3 8) (ck (inb x3 8) (ck (inb ((sI M 158 6 ((M.1 158 6) + (M.1 161 x3.toNatClampNeg))).1 158 7) 8) (sX2_weigh_131 (sX2_weigh_81 F) x3 (if ((sI M 158 6 ((M.1 158 6) + (M.1 161 x3.toNatClampNeg))).1 161 x3.toNatClampNeg) ≤ ((sI M 158 6 ((M.1 158 6) + (M.1 161 x3.toNatClampNeg))).1 161 ((sI M 158 6 ((M.1 158 6) + (M.1 161 x3.toNatClampNeg))).1 158 7).toNatClampNeg) then ((sI M 158 6 ((M.1 158 6) + (M.1 161 x3.toNatClampNeg))).1 158 7) else x3) (sI M 158 6 ((M.1 158 6) + (M.1 161 x3.toNatClampNeg)))))))
def sX2_weigh_63 (k25 : Int32 → Int32 → Int32 → Mm → Option (Mm)) (x1 : Int32) (x2 : Int32) (x3 : Int32) (M : Mm) : Option (Mm) :=
  k25 x1 x2 (x3 + 1) M
def sX2_weigh_25 : Nat → Int32 → Int32 → Int32 → Mm → Option (Mm)
  | 0, _, _, _, _ => none
  | F + 1, x1, x2, x3, M => if (M.1 34 3) ≤ x3 then
      (sX2_weigh_81 4096 0 (sI (sI M 158 6 0) 158 7 0))
    else (if x3 = x2 then
      (sX2_weigh_63 (sX2_weigh_25 F) x1 x2 x3 M)
    else (ck (inb x3 60) (ck (inb (M.1 36 x3.toNatClampNeg) 60) ((sX2_addBore (38 + 2 * (M.1 36 x3.toNatClampNeg).toNatClampNeg) x1 M).bind fun (M60 : Mm) =>
    sX2_weigh_63 (sX2_weigh_25 F) x1 x2 x3 M60))))
def sX2_weigh_2 : Nat → Int32 → Int32 → Int32 → Mm → Option (Mm)
  | 0, _, _, _, _ => none
  | F + 1, x1, x2, x3, M => if (M.1 158 4) ≤ x3 then
      (sX2_weigh_25 4096 x1 x2 0 M)
    else (ck (inb x3 8) (sX2_weigh_2 F x1 x2 (x3 + 1) (sI M 161 x3.toNatClampNeg 1)))
def sX2_weigh (x1 : Int32) (x2 : Int32) (M : Mm) : Option (Mm) :=
  sX2_weigh_2 4096 x1 x2 0 M
def sX2_partsOf (x1 : Int32) (M : Mm) : Option (Int32 × Mm) :=
  if (M.1 158 6) ≤ 0 then
    (some (0, M))
  else (ck (inb x1 8) (ck (nz (M.1 158 6)) (some (((1000 * (M.1 161 x1.toNatClampNeg)) / (M.1 158 6)), M))))
def sX2_doubt (M : Mm) : Option (Int32 × Mm) :=
  (sX2_partsOf (M.1 158 7) M).bind fun (q8 : Int32 × Mm) =>
  some ((1000 - q8.1), q8.2)
def sX11_chance_71 (kq : Nat × Nat) (x1 : Int32) (x2 : Int32) (x3 : Int32) (x4 : Int32) (M : Mm) : Option (Int32 × Mm) :=
  (sX1_gather x1 M).bind fun (M76 : Mm) =>
  (sX2_weigh x2 (-1) M76).bind fun (M85 : Mm) =>
  if x4 = 0 then
    (ck (inb x3 8) (some ((M85.1 161 x3.toNatClampNeg), M85)))
  else if x4 = 1 then
    ((sX2_partsOf x3 M85).bind fun (q135 : Int32 × Mm) =>
    some (q135.1, q135.2))
  else if x4 = 2 then
    (some ((M85.1 158 7), M85))
  else if x4 = 3 then
    ((sX2_doubt M85).bind fun (q151 : Int32 × Mm) =>
    some (q151.1, q151.2))
  else (some ((M85.1 158 6), M85))
def sX11_chance_38 (kq : Nat × Nat) (x1 : Int32) (x2 : Int32) (x3 : Int32) (x4 : Int32) (s0 : Int32) (M : Mm) : Option (Int32 × Mm) :=
  if s0 = 0 then
    (if (M.1 kq.1 9) = 0 then
      (some ((-1), M))
    else (if 2 ≤ x4 then
      (sX11_chance_71 kq x1 x2 x3 x4 M)
    else ((sX11_isKind kq x3 M).bind fun (q63 : Int32 × Mm) =>
    if q63.1 = 0 then
      (some ((-1), q63.2))
    else (sX11_chance_71 kq x1 x2 x3 x4 q63.2))))
  else (some ((-1), M))
def sX11_chance_33 (kq : Nat × Nat) (x1 : Int32) (x2 : Int32) (x3 : Int32) (x4 : Int32) (M : Mm) : Option (Int32 × Mm) :=
  sX11_chance_38 kq x1 x2 x3 x4 1 M
def sX11_chance (kq : Nat × Nat) (x1 : Int32) (x2 : Int32) (x3 : Int32) (x4 : Int32) (M : Mm) : Option (Int32 × Mm) :=
  (sX1_knows x1 M).bind fun (q5 : Int32 × Mm) =>
  if q5.1 = 0 then
    (sX11_chance_33 kq x1 x2 x3 x4 q5.2)
  else ((sX6_hasCell x2 q5.2).bind fun (q16 : Int32 × Mm) =>
  if q16.1 = 0 then
    (sX11_chance_33 kq x1 x2 x3 x4 q16.2)
  else (if x4 < 0 then
    (sX11_chance_33 kq x1 x2 x3 x4 q16.2)
  else (if x4 ≤ 4 then
    (sX11_chance_38 kq x1 x2 x3 x4 0 q16.2)
  else (sX11_chance_33 kq x1 x2 x3 x4 q16.2))))
def sX11_countRight_62 (k4 : Int32 → Int32 → Mm → Option (Int32 × Mm)) (x1 : Int32) (x2 : Int32) (M : Mm) : Option (Int32 × Mm) :=
  k4 x1 (x2 + 1) M
def sX11_countRight_4 : Nat → Int32 → Int32 → Mm → Option (Int32 × Mm)
  | 0, _, _, _ => none
  | F + 1, x1, x2, M => if (M.1 34 3) ≤ x2 then
      (some (x1, M))
    else (ck (inb x2 60) (ck (inb (M.1 36 x2.toNatClampNeg) 60) ((sX2_weigh (M.1 (38 + 2 * (M.1 36 x2.toNatClampNeg).toNatClampNeg) 2) x2 M).bind fun (M42 : Mm) =>
    sX11_countRight_62 (sX11_countRight_4 F) (if (M42.1 158 7) = (M42.1 (38 + 2 * (M.1 36 x2.toNatClampNeg).toNatClampNeg) 5) then (x1 + 1) else x1) x2 M42)))
def sX11_countRight (M : Mm) : Option (Int32 × Mm) :=
  sX11_countRight_4 4096 0 0 M
def sX11_sumSaid_4 : Nat → Int32 → Int32 → Mm → Option (Int32 × Mm)
  | 0, _, _, _ => none
  | F + 1, x1, x2, M => if (M.1 34 3) ≤ x2 then
      (some (x1, M))
    else (ck (inb x2 60) (ck (inb (M.1 36 x2.toNatClampNeg) 60) ((sX2_weigh (M.1 (38 + 2 * (M.1 36 x2.toNatClampNeg).toNatClampNeg) 2) x2 M).bind fun (M40 : Mm) =>
    (sX2_partsOf (M40.1 158 7) M40).bind fun (q55 : Int32 × Mm) =>
    sX11_sumSaid_4 F (x1 + q55.1) (x2 + 1) q55.2)))
def sX11_sumSaid (M : Mm) : Option (Int32 × Mm) :=
  sX11_sumSaid_4 4096 0 0 M
def sX11_leftOut (x1 : Int32) (x2 : Int32) (M : Mm) : Option (Int32 × Mm) :=
  (sX1_knows x1 M).bind fun (q5 : Int32 × Mm) =>
  if q5.1 = 0 then
    (some ((-1), q5.2))
  else (if x2 < 0 then
    (some ((-1), q5.2))
  else (if x2 ≤ 2 then
    ((sX1_gather x1 q5.2).bind fun (M27 : Mm) =>
    if x2 = 0 then
      (some ((M27.1 34 3), M27))
    else (if x2 = 1 then
      ((sX11_countRight M27).bind fun (q50 : Int32 × Mm) =>
      some (q50.1, q50.2))
    else ((sX11_sumSaid M27).bind fun (q57 : Int32 × Mm) =>
    some (q57.1, q57.2))))
  else (some ((-1), q5.2))))
def sX3_costBehind (x1 : Int32) (x2 : Int32) (x3 : Int32) (M : Mm) : Option (Int32 × Mm) :=
  ck (inb (x1 + 1) 8) (ck (inb x3 8) (if x2 = x3 then
    (some (((M.1 (164 + (x1 + 1).toNatClampNeg) x3.toNatClampNeg) + 0), M))
  else (ck (inb x1 8) (some (((M.1 (164 + (x1 + 1).toNatClampNeg) x3.toNatClampNeg) + (M.1 172 x1.toNatClampNeg)), M)))))
def sX3_followerOf_41 (k5 : Int32 → Int32 → Int32 → Int32 → Mm → Option (Int32 × Mm)) (x1 : Int32) (x2 : Int32) (x4 : Int32) (s0 : Int32) (M : Mm) : Option (Int32 × Mm) :=
  k5 x1 x2 s0 (x4 + 1) M
def sX3_followerOf_5 : Nat → Int32 → Int32 → Int32 → Int32 → Mm → Option (Int32 × Mm)
  | 0, _, _, _, _, _ => none
  | F + 1, x1, x2, x3, x4, M => if (M.1 158 4) ≤ x4 then
      (some (x3, M))
    else ((sX3_costBehind x1 x2 x4 M).bind fun (q22 : Int32 × Mm) =>
    (sX3_costBehind x1 x2 x3 q22.2).bind fun (q29 : Int32 × Mm) =>
    sX3_followerOf_41 (sX3_followerOf_5 F) x1 x2 x4 (if q29.1 ≤ q22.1 then x3 else x4) q29.2)
def sX3_followerOf (x1 : Int32) (x2 : Int32) (M : Mm) : Option (Int32 × Mm) :=
  sX3_followerOf_5 4096 x1 x2 0 1 M
def sX3_chooseKinds_64 : Nat → Int32 → Int32 → Mm → Option (Int32 × Mm)
  | 0, _, _, _ => none
  | F + 1, x2, x3, M => if (M.1 162 7) ≤ x3 then
      (some (x2, M))
    else (ck (inb (x3 - 1) 8) ((sX3_followerOf (x3 - 1) (M.1 173 (x3 - 1).toNatClampNeg) M).bind fun (q89 : Int32 × Mm) =>
    ck (inb x3 8) (sX3_chooseKinds_64 F x2 (x3 + 1) (sI q89.2 173 x3.toNatClampNeg q89.1))))
def sX3_chooseKinds_39 (k4 : Int32 → Int32 → Mm → Option (Int32 × Mm)) (x2 : Int32) (s0 : Int32) (M : Mm) : Option (Int32 × Mm) :=
  k4 s0 (x2 + 1) M
def sX3_chooseKinds_4 : Nat → Int32 → Int32 → Mm → Option (Int32 × Mm)
  | 0, _, _, _ => none
  | F + 1, x1, x2, M => if (M.1 158 4) ≤ x2 then
      (ck (inb 0 8) (ck (inb x1 8) (ck (inb 0 8) (sX3_chooseKinds_64 4096 (M.1 (164 + ((0 : Int32).toNatClampNeg)) x1.toNatClampNeg) 1 (sI M 173 ((0 : Int32).toNatClampNeg) x1)))))
    else (ck (inb 0 8) (ck (inb x2 8) (ck (inb 0 8) (ck (inb x1 8) (sX3_chooseKinds_39 (sX3_chooseKinds_4 F) x2 (if (M.1 (164 + ((0 : Int32).toNatClampNeg)) x1.toNatClampNeg) ≤ (M.1 (164 + ((0 : Int32).toNatClampNeg)) x2.toNatClampNeg) then x1 else x2) M)))))
def sX3_chooseKinds (M : Mm) : Option (Int32 × Mm) :=
  sX3_chooseKinds_4 4096 0 1 M
def sX3_drawLine_219 (k68 : Int32 → Int32 → Int32 → Mm → Option (Int32 × Mm)) (k160 : Int32 → Int32 → Int32 → Int32 → Int32 → Mm → Option (Int32 × Mm)) (x3 : Int32) (x4 : Int32) (x5 : Int32) (x7 : Int32) (x8 : Int32) (t0 : Nat) (s1 : Int32) (s2 : Int32) (s3 : Int32) (M : Mm) : Option (Int32 × Mm) :=
  ck (inb s1 8) (k160 x3 x4 x5 x7 (x8 + 1) (sI M t0 s1.toNatClampNeg (s2 + s3)))
def sX3_drawLine_160 (k68 : Int32 → Int32 → Int32 → Mm → Option (Int32 × Mm)) : Nat → Int32 → Int32 → Int32 → Int32 → Int32 → Mm → Option (Int32 × Mm)
  | 0, _, _, _, _, _, _ => none
  | F + 1, x3, x4, x5, x7, x8, M => if (M.1 158 4) ≤ x8 then
      (k68 x3 x4 (x5 + (-1)) M)
    else (ck (inb x5 8) ((sX2_partsOf x8 M).bind fun (q190 : Int32 × Mm) =>
    if x7 = 0 then
      ((sX3_followerOf x5 x8 q190.2).bind fun (q213 : Int32 × Mm) =>
      (sX3_costBehind x5 x8 q213.1 q213.2).bind fun (q216 : Int32 × Mm) =>
      sX3_drawLine_219 k68 (sX3_drawLine_160 k68 F) x3 x4 x5 x7 x8 (164 + x5.toNatClampNeg) x8 (1000 - q190.1) q216.1 q216.2)
    else (sX3_drawLine_219 k68 (sX3_drawLine_160 k68 F) x3 x4 x5 x7 x8 (164 + x5.toNatClampNeg) x8 (1000 - q190.1) 0 q190.2)))
def sX3_drawLine_146 (k68 : Int32 → Int32 → Int32 → Mm → Option (Int32 × Mm)) (x3 : Int32) (x4 : Int32) (x5 : Int32) (x6 : Int32) (x7 : Int32) (s1 : Int32) (s2 : Int32) (M : Mm) : Option (Int32 × Mm) :=
  ck (inb s1 8) ((sX2_weigh x6 (-1) (sI M 172 s1.toNatClampNeg s2)).bind fun (M154 : Mm) =>
  sX3_drawLine_160 k68 4096 x3 x4 x5 x7 0 M154)
def sX3_drawLine_135 (k68 : Int32 → Int32 → Int32 → Mm → Option (Int32 × Mm)) (x3 : Int32) (x4 : Int32) (x5 : Int32) (x6 : Int32) (x7 : Int32) (s1 : Int32) (M : Mm) : Option (Int32 × Mm) :=
  sX3_drawLine_146 k68 x3 x4 x5 x6 x7 s1 (M.1 162 2) M
def sX3_drawLine_98 (k68 : Int32 → Int32 → Int32 → Mm → Option (Int32 × Mm)) (x3 : Int32) (x4 : Int32) (x5 : Int32) (x6 : Int32) (s0 : Int32) (M : Mm) : Option (Int32 × Mm) :=
  if s0 = 0 then
    ((sX6_heightGap x6 (x6 + x4) M).bind fun (q122 : Int32 × Mm) =>
    if (q122.2.1 22 9) ≤ q122.1 then
      (sX3_drawLine_146 k68 x3 x4 x5 x6 s0 x5 (q122.2.1 162 3) q122.2)
    else (sX3_drawLine_135 k68 x3 x4 x5 x6 s0 x5 q122.2))
  else (sX3_drawLine_135 k68 x3 x4 x5 x6 s0 x5 M)
def sX3_drawLine_68 : Nat → Int32 → Int32 → Int32 → Mm → Option (Int32 × Mm)
  | 0, _, _, _, _ => none
  | F + 1, x3, x4, x5, M => if x5 < 0 then
      ((sX3_chooseKinds M).bind fun (q234 : Int32 × Mm) =>
      some (q234.1, q234.2))
    else (sX3_drawLine_98 (sX3_drawLine_68 F) x3 x4 x5 (x3 + (x5 * x4)) (if x5 = ((M.1 162 7) - 1) then 1 else 0) M)
def sX3_drawLine_57 (x3 : Int32) (x4 : Int32) (s1 : Int32) (M : Mm) : Option (Int32 × Mm) :=
  sX3_drawLine_68 4096 x3 x4 (((sI M 162 7 s1).1 162 7) - 1) (sI M 162 7 s1)
def sX3_drawLine_33 (x1 : Int32) (x3 : Int32) (s0 : Int32) (M : Mm) : Option (Int32 × Mm) :=
  sX3_drawLine_57 x3 s0 (if x1 = 0 then (M.1 22 0) else (M.1 22 1)) M
def sX3_drawLine_17 (x1 : Int32) (s0 : Int32) (M : Mm) : Option (Int32 × Mm) :=
  sX3_drawLine_33 x1 s0 (if x1 = 0 then 1 else (M.1 22 0)) M
def sX3_drawLine (x1 : Int32) (x2 : Int32) (M : Mm) : Option (Int32 × Mm) :=
  sX3_drawLine_17 x1 (if x1 = 0 then (x2 * (M.1 22 0)) else x2) M
def sX11_draw_21 (kq : Nat × Nat) (x1 : Int32) (x2 : Int32) (x3 : Int32) (s0 : Int32) (M : Mm) : Option (Int32 × Mm) :=
  (sX1_knows x1 M).bind fun (q28 : Int32 × Mm) =>
  if q28.1 = 0 then
    (some ((-1), q28.2))
  else (if x3 < 0 then
    (some ((-1), q28.2))
  else (if s0 ≤ x3 then
    (some ((-1), q28.2))
  else (if (q28.2.1 kq.1 9) = 0 then
    (some ((-1), q28.2))
  else ((sX1_gather x1 q28.2).bind fun (M61 : Mm) =>
  (sX3_drawLine x2 x3 M61).bind fun (q70 : Int32 × Mm) =>
  some (q70.1, q70.2)))))
def sX11_draw (kq : Nat × Nat) (x1 : Int32) (x2 : Int32) (x3 : Int32) (M : Mm) : Option (Int32 × Mm) :=
  sX11_draw_21 kq x1 x2 x3 (if x2 = 0 then (M.1 22 1) else (M.1 22 0)) M
def sX11_drawn_15 (M : Mm) : Option (Int32 × Mm) :=
  some ((-1), M)
def sX11_drawn (x1 : Int32) (M : Mm) : Option (Int32 × Mm) :=
  if x1 < 0 then
    (sX11_drawn_15 M)
  else (if x1 < (M.1 162 7) then
    (ck (inb x1 8) (some ((M.1 173 x1.toNatClampNeg), M)))
  else (sX11_drawn_15 M))
def sX9_weighGains_90 : Nat → Int32 → Mm → Option (Mm)
  | 0, _, _ => none
  | F + 1, x3, M => if (M.1 22 2) ≤ x3 then
      (some M)
    else (ck (inb x3 64) (sX9_weighGains_90 F (x3 + 1) (sI M 174 2 (if (M.1 174 2) < (M.1 175 x3.toNatClampNeg) then (M.1 175 x3.toNatClampNeg) else (M.1 174 2)))))
def sX9_weighGains_54 : Nat → Int32 → Mm → Option (Mm)
  | 0, _, _ => none
  | F + 1, x3, M => if (M.1 34 3) ≤ x3 then
      (sX9_weighGains_90 4096 0 M)
    else (ck (inb x3 60) (ck (inb (M.1 36 x3.toNatClampNeg) 60) (ck (inb (M.1 (38 + 2 * (M.1 36 x3.toNatClampNeg).toNatClampNeg) 2) 64) (sX9_weighGains_54 F (x3 + 1) (sI M 175 (M.1 (38 + 2 * (M.1 36 x3.toNatClampNeg).toNatClampNeg) 2).toNatClampNeg (-1))))))
def sX9_weighGains_7 : Nat → Int32 → Mm → Option (Mm)
  | 0, _, _ => none
  | F + 1, x3, M => if (M.1 22 2) ≤ x3 then
      (sX9_weighGains_54 4096 0 M)
    else ((sX2_weigh x3 (-1) M).bind fun (M21 : Mm) =>
    (sX2_doubt M21).bind fun (q30 : Int32 × Mm) =>
    ck (inb 3 5) (ck (inb x3 64) (ck (inb x3 64) (sX9_weighGains_7 F (x3 + 1) (sI q30.2 175 x3.toNatClampNeg (q30.1 * (q30.2.1 (24 + ((3 : Int32).toNatClampNeg)) x3.toNatClampNeg)))))))
def sX9_weighGains (M : Mm) : Option (Mm) :=
  sX9_weighGains_7 4096 0 (sI M 174 2 0)
def sX9_keepFound_12 : Nat → Int32 → Mm → Option (Mm)
  | 0, _, _ => none
  | F + 1, x3, M => if (M.1 174 3) ≤ x3 then
      (some M)
    else (if 3 ≤ x3 then
      (some M)
    else (ck (inb x3 3) (ck (inb x3 3) (sX9_keepFound_12 F (x3 + 1) (sI M 177 x3.toNatClampNeg (M.1 176 x3.toNatClampNeg))))))
def sX9_keepFound (x1 : Int32) (x2 : Int32) (M : Mm) : Option (Mm) :=
  sX9_keepFound_12 4096 0 (sI (sI M 174 7 x1) 174 8 x2)
def sX6_steps (x1 : Int32) (x2 : Int32) (M : Mm) : Option (Int32 × Mm) :=
  ck (inb x1 64) (ck (inb x2 64) (ck (inb x1 64) (ck (inb x2 64) (some (((if 0 ≤ ((M.1 29 x1.toNatClampNeg) - (M.1 29 x2.toNatClampNeg)) then ((M.1 29 x1.toNatClampNeg) - (M.1 29 x2.toNatClampNeg)) else 0 - ((M.1 29 x1.toNatClampNeg) - (M.1 29 x2.toNatClampNeg))) + (if 0 ≤ ((M.1 30 x1.toNatClampNeg) - (M.1 30 x2.toNatClampNeg)) then ((M.1 30 x1.toNatClampNeg) - (M.1 30 x2.toNatClampNeg)) else 0 - ((M.1 30 x1.toNatClampNeg) - (M.1 30 x2.toNatClampNeg)))), M)))))
def sX9_isBetter_24 (M : Mm) : Option (Int32 × Mm) :=
  some (1, M)
def sX9_isBetter (x1 : Int32) (x2 : Int32) (M : Mm) : Option (Int32 × Mm) :=
  if (M.1 174 7) < x1 then
    (sX9_isBetter_24 M)
  else (if x1 = (M.1 174 7) then
    (if (M.1 174 8) ≤ x2 then
      (some (0, M))
    else (sX9_isBetter_24 M))
  else (some (0, M)))
def sX9_isApart_2 : Nat → Int32 → Int32 → Int32 → Mm → Option (Int32 × Mm)
  | 0, _, _, _, _ => none
  | F + 1, x1, x2, x3, M => if x1 ≤ x3 then
      (some (1, M))
    else (ck (inb x3 3) ((sX6_far (M.1 176 x3.toNatClampNeg) x2 M).bind fun (q18 : Int32 × Mm) =>
    if 2 ≤ q18.1 then
      (sX9_isApart_2 F x1 x2 (x3 + 1) q18.2)
    else (some (0, q18.2))))
def sX9_isApart (x1 : Int32) (x2 : Int32) (M : Mm) : Option (Int32 × Mm) :=
  sX9_isApart_2 4096 x1 x2 0 M
def sX9_tryCell (rec : Int32 → Int32 → Int32 → Int32 → Mm → Option (Mm)) (x1 : Int32) (x2 : Int32) (x3 : Int32) (x4 : Int32) (x5 : Int32) (M : Mm) : Option (Mm) :=
  ck (inb x3 64) (ck (inb x3 64) (if (M.1 175 x3.toNatClampNeg) = (-1) then
    (some M)
  else (if (M.1 174 7) ≤ ((x5 + (M.1 175 x3.toNatClampNeg)) + ((((M.1 174 3) - x1) - 1) * (M.1 174 2))) then
    ((sX6_steps x2 x3 M).bind fun (q57 : Int32 × Mm) =>
    if (q57.2.1 174 4) < (((x4 + q57.1) + 1) + ((((M.1 174 3) - x1) - 1) * 3)) then
      (some q57.2)
    else ((sX9_isBetter ((x5 + (M.1 175 x3.toNatClampNeg)) + ((((M.1 174 3) - x1) - 1) * (M.1 174 2))) (((x4 + q57.1) + 1) + ((((M.1 174 3) - x1) - 1) * 3)) q57.2).bind fun (q88 : Int32 × Mm) =>
    if q88.1 = 0 then
      (some q88.2)
    else ((sX9_isApart x1 x3 q88.2).bind fun (q97 : Int32 × Mm) =>
    if q97.1 = 0 then
      (some q97.2)
    else (ck (inb x1 3) (ck (inb x3 64) ((rec (x1 + 1) x3 ((x4 + q57.1) + 1) (x5 + ((sI q97.2 176 x1.toNatClampNeg x3).1 175 x3.toNatClampNeg)) (sI q97.2 176 x1.toNatClampNeg x3)).bind fun (M126 : Mm) =>
    some M126))))))
  else (some M))))
def sX9_search_o_13 (rec : Int32 → Int32 → Int32 → Int32 → Mm → Option (Mm)) (x3 : Int32) (x4 : Int32) (M : Mm) : Option (Mm) :=
  (sX9_keepFound x4 x3 M).bind fun (M17 : Mm) =>
  some M17
def sX9_search_o_24 (rec : Int32 → Int32 → Int32 → Int32 → Mm → Option (Mm)) : Nat → Int32 → Int32 → Int32 → Int32 → Int32 → Mm → Option (Mm)
  | 0, _, _, _, _, _, _ => none
  | F + 1, x1, x2, x3, x4, x5, M => if (M.1 22 2) ≤ x5 then
      (some M)
    else ((sX9_tryCell rec x1 x2 x5 x3 x4 M).bind fun (M44 : Mm) =>
    sX9_search_o_24 rec F x1 x2 x3 x4 (x5 + 1) M44)
def sX9_search_o (rec : Int32 → Int32 → Int32 → Int32 → Mm → Option (Mm)) (x1 : Int32) (x2 : Int32) (x3 : Int32) (x4 : Int32) (M : Mm) : Option (Mm) :=
  if (M.1 174 3) ≤ x1 then
    (sX9_search_o_13 rec x3 x4 M)
  else (if x1 < 3 then
    (sX9_search_o_24 rec 4096 x1 x2 x3 x4 0 M)
  else (sX9_search_o_13 rec x3 x4 M))
def sX9_search : Nat → Int32 → Int32 → Int32 → Int32 → Mm → Option (Mm)
  | 0, _, _, _, _, _ => none
  | F + 1, x1, x2, x3, x4, M => sX9_search_o (sX9_search F) x1 x2 x3 x4 M
def sX9_findPlan_54 : Nat → Int32 → Int32 → Mm → Option (Int32 × Mm)
  | 0, _, _, _ => none
  | F + 1, x1, x4, M => if x1 ≤ x4 then
      (some ((M.1 174 7), M))
    else (ck (inb x4 3) (ck (inb x4 3) (sX9_findPlan_54 F x1 (x4 + 1) (sI M 178 x4.toNatClampNeg (M.1 177 x4.toNatClampNeg)))))
def sX9_findPlan (x1 : Int32) (x2 : Int32) (x3 : Int32) (M : Mm) : Option (Int32 × Mm) :=
  (sX9_search 12 0 x3 0 0 (sI (sI (sI (sI M 174 3 x1) 174 4 x2) 174 7 (-1)) 174 8 0)).bind fun (M25 : Mm) =>
  if (M25.1 174 7) = (-1) then
    (some ((-1), M25))
  else (sX9_findPlan_54 4096 x1 0 (sI (sI M25 174 10 x1) 174 11 ((sI M25 174 10 x1).1 174 8)))
def sX11_plan_26 (kq : Nat × Nat) (x1 : Int32) (x2 : Int32) (x3 : Int32) (s0 : Int32) (M : Mm) : Option (Int32 × Mm) :=
  if s0 = 0 then
    ((sX6_hasCell x3 M).bind fun (q38 : Int32 × Mm) =>
    if q38.1 = 0 then
      (some ((-1), q38.2))
    else (if (q38.2.1 kq.1 9) = 0 then
      (some ((-1), q38.2))
    else ((sX1_gather (q38.2.1 34 1) q38.2).bind fun (M67 : Mm) =>
    (sX9_weighGains M67).bind fun (M82 : Mm) =>
    (sX9_findPlan x1 x2 x3 M82).bind fun (q92 : Int32 × Mm) =>
    some (q92.1, q92.2))))
  else (some ((-1), M))
def sX11_plan_21 (kq : Nat × Nat) (x1 : Int32) (x2 : Int32) (x3 : Int32) (M : Mm) : Option (Int32 × Mm) :=
  sX11_plan_26 kq x1 x2 x3 1 M
def sX11_plan (kq : Nat × Nat) (x1 : Int32) (x2 : Int32) (x3 : Int32) (M : Mm) : Option (Int32 × Mm) :=
  if x1 < 1 then
    (sX11_plan_21 kq x1 x2 x3 M)
  else (if 3 < x1 then
    (sX11_plan_21 kq x1 x2 x3 M)
  else (if x2 < 1 then
    (sX11_plan_21 kq x1 x2 x3 M)
  else (if x2 ≤ 60 then
    (sX11_plan_26 kq x1 x2 x3 0 M)
  else (sX11_plan_21 kq x1 x2 x3 M))))
def sX11_planned_32 (M : Mm) : Option (Int32 × Mm) :=
  some ((-1), M)
def sX11_planned (x1 : Int32) (x2 : Int32) (M : Mm) : Option (Int32 × Mm) :=
  if x1 = 1 then
    (some ((M.1 174 11), M))
  else (if x1 = 0 then
    (if x2 < 0 then
      (sX11_planned_32 M)
    else (if x2 < (M.1 174 10) then
      (ck (inb x2 3) (some ((M.1 178 x2.toNatClampNeg), M)))
    else (sX11_planned_32 M)))
  else (sX11_planned_32 M))
def sX8_mostTold_40 (k4 : Int32 → Int32 → Int32 → Mm → Option (Int32 × Mm)) (x1 : Int32) (x2 : Int32) (x3 : Int32) (M : Mm) : Option (Int32 × Mm) :=
  k4 x1 x2 (x3 + 1) M
def sX8_mostTold_35 (k4 : Int32 → Int32 → Int32 → Mm → Option (Int32 × Mm)) (x1 : Int32) (x2 : Int32) (x3 : Int32) (s0 : Int32) (s1 : Int32) (M : Mm) : Option (Int32 × Mm) :=
  sX8_mostTold_40 k4 x1 (if s0 ≤ s1 then x2 else x3) x3 M
def sX8_mostTold_4 : Nat → Int32 → Int32 → Int32 → Mm → Option (Int32 × Mm)
  | 0, _, _, _, _ => none
  | F + 1, x1, x2, x3, M => if 8 ≤ x3 then
      (some (x2, M))
    else (ck (inb x1 6) (ck (inb x3 8) (if x2 = (-1) then
      (sX8_mostTold_35 (sX8_mostTold_4 F) x1 x2 x3 (M.1 (181 + x1.toNatClampNeg) x3.toNatClampNeg) 0 M)
    else (ck (inb x1 6) (ck (inb x2 8) (sX8_mostTold_35 (sX8_mostTold_4 F) x1 x2 x3 (M.1 (181 + x1.toNatClampNeg) x3.toNatClampNeg) (M.1 (181 + x1.toNatClampNeg) x2.toNatClampNeg) M))))))
def sX8_mostTold (x1 : Int32) (M : Mm) : Option (Int32 × Mm) :=
  sX8_mostTold_4 4096 x1 (-1) 0 M
def sX8_tallyBores_111 : Nat → Int32 → Mm → Option (Mm)
  | 0, _, _ => none
  | F + 1, x1, M => if 6 ≤ x1 then
      (some M)
    else ((sX8_mostTold x1 M).bind fun (q124 : Int32 × Mm) =>
    ck (inb x1 6) (sX8_tallyBores_111 F (x1 + 1) (sI q124.2 187 x1.toNatClampNeg q124.1)))
def sX8_tallyBores_103 (k39 : Int32 → Mm → Option (Mm)) (x1 : Int32) (M : Mm) : Option (Mm) :=
  k39 (x1 + 1) M
def sX8_tallyBores_39 : Nat → Int32 → Mm → Option (Mm)
  | 0, _, _ => none
  | F + 1, x1, M => if (M.1 34 3) ≤ x1 then
      (sX8_tallyBores_111 4096 0 M)
    else (ck (inb x1 60) (ck (inb (M.1 36 x1.toNatClampNeg) 60) (ck (inb 4 5) (ck (inb (M.1 (38 + 2 * (M.1 36 x1.toNatClampNeg).toNatClampNeg) 2) 64) (if (M.1 (24 + ((4 : Int32).toNatClampNeg)) (M.1 (38 + 2 * (M.1 36 x1.toNatClampNeg).toNatClampNeg) 2).toNatClampNeg) = (-1) then
      (sX8_tallyBores_103 (sX8_tallyBores_39 F) x1 M)
    else (ck (inb (M.1 (24 + ((4 : Int32).toNatClampNeg)) (M.1 (38 + 2 * (M.1 36 x1.toNatClampNeg).toNatClampNeg) 2).toNatClampNeg) 6) (ck (inb (M.1 (38 + 2 * (M.1 36 x1.toNatClampNeg).toNatClampNeg) 5) 8) (ck (inb (M.1 (38 + 2 * (M.1 36 x1.toNatClampNeg).toNatClampNeg) 5) 8) (sX8_tallyBores_103 (sX8_tallyBores_39 F) x1 (sI M (181 + (M.1 (24 + ((4 : Int32).toNatClampNeg)) (M.1 (38 + 2 * (M.1 36 x1.toNatClampNeg).toNatClampNeg) 2).toNatClampNeg).toNatClampNeg) (M.1 (38 + 2 * (M.1 36 x1.toNatClampNeg).toNatClampNeg) 5).toNatClampNeg ((M.1 (181 + (M.1 (24 + ((4 : Int32).toNatClampNeg)) (M.1 (38 + 2 * (M.1 36 x1.toNatClampNeg).toNatClampNeg) 2).toNatClampNeg).toNatClampNeg) (M.1 (38 + 2 * (M.1 36 x1.toNatClampNeg).toNatClampNeg) 5).toNatClampNeg) + 1)))))))))))
def sX8_tallyBores_10 (k2 : Int32 → Mm → Option (Mm)) : Nat → Int32 → Int32 → Mm → Option (Mm)
  | 0, _, _, _ => none
  | F + 1, x1, x2, M => if 8 ≤ x2 then
      (k2 (x1 + 1) M)
    else (ck (inb x1 6) (ck (inb x2 8) (sX8_tallyBores_10 k2 F x1 (x2 + 1) (sI M (181 + x1.toNatClampNeg) x2.toNatClampNeg 0))))
def sX8_tallyBores_2 : Nat → Int32 → Mm → Option (Mm)
  | 0, _, _ => none
  | F + 1, x1, M => if 6 ≤ x1 then
      (sX8_tallyBores_39 4096 0 M)
    else (sX8_tallyBores_10 (sX8_tallyBores_2 F) 4096 x1 0 M)
def sX8_tallyBores (M : Mm) : Option (Mm) :=
  sX8_tallyBores_2 4096 0 M
def sX11_turned (x1 : Int32) (x2 : Int32) (M : Mm) : Option (Int32 × Mm) :=
  if x1 < 0 then
    (some ((-2), M))
  else (if 6 ≤ x1 then
    (some ((-2), M))
  else (if x2 < 0 then
    (some ((-2), M))
  else (if x2 ≤ 8 then
    ((sX1_gather (M.1 34 1) M).bind fun (M34 : Mm) =>
    (sX8_tallyBores M34).bind fun (M41 : Mm) =>
    if x2 = 8 then
      (ck (inb x1 6) (some ((M41.1 187 x1.toNatClampNeg), M41)))
    else (ck (inb x1 6) (ck (inb x2 8) (some ((M41.1 (181 + x1.toNatClampNeg) x2.toNatClampNeg), M41)))))
  else (some ((-2), M)))))
def sX8_turnedAt (x1 : Int32) (M : Mm) : Option (Int32 × Mm) :=
  ck (inb 4 5) (ck (inb x1 64) (if (M.1 (24 + ((4 : Int32).toNatClampNeg)) x1.toNatClampNeg) = (-1) then
    (some ((-1), M))
  else (ck (inb (M.1 (24 + ((4 : Int32).toNatClampNeg)) x1.toNatClampNeg) 6) (some ((M.1 187 (M.1 (24 + ((4 : Int32).toNatClampNeg)) x1.toNatClampNeg).toNatClampNeg), M)))))
def sX8_bestAt (x1 : Int32) (M : Mm) : Option (Int32 × Mm) :=
  (sX2_weigh x1 (-1) M).bind fun (M6 : Mm) =>
  some ((M6.1 158 7), M6)
def sX8_countAgreeing_38 (k4 : Int32 → Int32 → Mm → Option (Int32 × Mm)) (x1 : Int32) (x2 : Int32) (M : Mm) : Option (Int32 × Mm) :=
  k4 x1 (x2 + 1) M
def sX8_countAgreeing_4 : Nat → Int32 → Int32 → Mm → Option (Int32 × Mm)
  | 0, _, _, _ => none
  | F + 1, x1, x2, M => if (M.1 22 2) ≤ x2 then
      (some (x1, M))
    else ((sX8_turnedAt x2 M).bind fun (q17 : Int32 × Mm) =>
    if q17.1 = (-1) then
      (sX8_countAgreeing_38 (sX8_countAgreeing_4 F) x1 x2 q17.2)
    else ((sX8_bestAt x2 q17.2).bind fun (q29 : Int32 × Mm) =>
    sX8_countAgreeing_38 (sX8_countAgreeing_4 F) (if q17.1 = q29.1 then (x1 + 1) else x1) x2 q29.2))
def sX8_countAgreeing (M : Mm) : Option (Int32 × Mm) :=
  sX8_countAgreeing_4 4096 0 0 M
def sX8_seamOfOld_73 (k4 : Int32 → Int32 → Int32 → Mm → Option (Int32 × Mm)) (x1 : Int32) (x2 : Int32) (x3 : Int32) (M : Mm) : Option (Int32 × Mm) :=
  k4 x1 x2 (x3 + 1) M
def sX8_seamOfOld_4 : Nat → Int32 → Int32 → Int32 → Mm → Option (Int32 × Mm)
  | 0, _, _, _, _ => none
  | F + 1, x1, x2, x3, M => if (M.1 22 1) ≤ x3 then
      (some (x2, M))
    else ((sX8_turnedAt ((x3 * (M.1 22 0)) + x1) M).bind fun (q27 : Int32 × Mm) =>
    (sX8_turnedAt (((x3 * (q27.2.1 22 0)) + x1) + 1) q27.2).bind fun (q46 : Int32 × Mm) =>
    sX8_seamOfOld_73 (sX8_seamOfOld_4 F) x1 (if q27.1 = (-1) then x2 else (if q46.1 = (-1) then x2 else (if q27.1 = q46.1 then x2 else (x2 + 1)))) x3 q46.2)
def sX8_seamOfOld (x1 : Int32) (M : Mm) : Option (Int32 × Mm) :=
  sX8_seamOfOld_4 4096 x1 0 0 M
def sX8_seamOfBest_53 (k4 : Int32 → Int32 → Int32 → Mm → Option (Int32 × Mm)) (x1 : Int32) (x2 : Int32) (x3 : Int32) (M : Mm) : Option (Int32 × Mm) :=
  k4 x1 x2 (x3 + 1) M
def sX8_seamOfBest_4 : Nat → Int32 → Int32 → Int32 → Mm → Option (Int32 × Mm)
  | 0, _, _, _, _ => none
  | F + 1, x1, x2, x3, M => if (M.1 22 1) ≤ x3 then
      (some (x2, M))
    else ((sX8_bestAt ((x3 * (M.1 22 0)) + x1) M).bind fun (q27 : Int32 × Mm) =>
    (sX8_bestAt (((x3 * (q27.2.1 22 0)) + x1) + 1) q27.2).bind fun (q44 : Int32 × Mm) =>
    sX8_seamOfBest_53 (sX8_seamOfBest_4 F) x1 (if q27.1 = q44.1 then x2 else (x2 + 1)) x3 q44.2)
def sX8_seamOfBest (x1 : Int32) (M : Mm) : Option (Int32 × Mm) :=
  sX8_seamOfBest_4 4096 x1 0 0 M
def sX11_maps_32 (kq : Nat × Nat) (x1 : Int32) (x2 : Int32) (M : Mm) : Option (Int32 × Mm) :=
  if (M.1 kq.1 9) = 0 then
    (some (0, M))
  else ((sX1_gather (M.1 34 1) M).bind fun (M55 : Mm) =>
  (sX8_tallyBores M55).bind fun (M62 : Mm) =>
  if x1 = 0 then
    ((sX8_countAgreeing M62).bind fun (q73 : Int32 × Mm) =>
    some (q73.1, q73.2))
  else (if x1 = 1 then
    ((sX8_seamOfOld x2 M62).bind fun (q89 : Int32 × Mm) =>
    some (q89.1, q89.2))
  else ((sX8_seamOfBest x2 M62).bind fun (q100 : Int32 × Mm) =>
  some (q100.1, q100.2))))
def sX11_maps (kq : Nat × Nat) (x1 : Int32) (x2 : Int32) (M : Mm) : Option (Int32 × Mm) :=
  if x1 < 0 then
    (some ((-1), M))
  else (if 2 < x1 then
    (some ((-1), M))
  else (if x1 ≤ 0 then
    (sX11_maps_32 kq x1 x2 M)
  else (if x2 < 0 then
    (some ((-1), M))
  else (if x2 < ((M.1 22 0) - 1) then
    (sX11_maps_32 kq x1 x2 M)
  else (some ((-1), M))))))
def sX11_fairValue_4 (kq : Nat × Nat) : Nat → Int64 → Int32 → Mm → Option (Int32 × Mm)
  | 0, _, _, _ => none
  | F + 1, y1, x3, M => if (M.1 kq.1 9) ≤ x3 then
      (if (M.1 158 6) ≤ 0 then
        (some (0, M))
      else (ck (nzL ((M.1 158 6).toInt64)) (some ((y1 / (M.1 158 6).toInt64).toInt32, M))))
    else (ck (inb x3 8) (ck (inb x3 8) (sX11_fairValue_4 kq F (y1 + ((M.1 193 x3.toNatClampNeg).toInt64 * (M.1 161 x3.toNatClampNeg).toInt64)) (x3 + 1) M)))
def sX11_fairValue (kq : Nat × Nat) (M : Mm) : Option (Int32 × Mm) :=
  sX11_fairValue_4 kq 4096 0 0 M
def sX11_isUnsure_48 (kq : Nat × Nat) (k2 : Int32 → Int32 → Mm → Option (Int32 × Mm)) (x1 : Int32) (x2 : Int32) (M : Mm) : Option (Int32 × Mm) :=
  k2 x1 (x2 + 1) M
def sX11_isUnsure_2 (kq : Nat × Nat) : Nat → Int32 → Int32 → Mm → Option (Int32 × Mm)
  | 0, _, _, _ => none
  | F + 1, x1, x2, M => if (M.1 kq.1 9) ≤ x2 then
      (some (0, M))
    else (ck (inb x2 8) (ck (inb (M.1 158 7) 8) (if (M.1 193 x2.toNatClampNeg) = (M.1 193 (M.1 158 7).toNatClampNeg) then
      (sX11_isUnsure_48 kq (sX11_isUnsure_2 kq F) x1 x2 M)
    else ((sX2_partsOf x2 M).bind fun (q39 : Int32 × Mm) =>
    if q39.1 < x1 then
      (sX11_isUnsure_48 kq (sX11_isUnsure_2 kq F) x1 x2 q39.2)
    else (some (1, q39.2))))))
def sX11_isUnsure (kq : Nat × Nat) (x1 : Int32) (M : Mm) : Option (Int32 × Mm) :=
  sX11_isUnsure_2 kq 4096 x1 0 M
def sX11_worth_123 (kq : Nat × Nat) (k56 : Int32 → Int32 → Int32 → Int32 → Mm → Option (Int32 × Mm)) (x1 : Int32) (x2 : Int32) (x4 : Int32) (s0 : Int32) (s1 : Int32) (M : Mm) : Option (Int32 × Mm) :=
  k56 x1 x2 (s0 + s1) (x4 + 1) M
def sX11_worth_56 (kq : Nat × Nat) : Nat → Int32 → Int32 → Int32 → Int32 → Mm → Option (Int32 × Mm)
  | 0, _, _, _, _, _ => none
  | F + 1, x1, x2, x3, x4, M => if (M.1 22 2) ≤ x4 then
      (some (x3, M))
    else ((sX2_weigh x4 (-1) M).bind fun (M75 : Mm) =>
    if x1 = 0 then
      (ck (inb (M75.1 158 7) 8) (sX11_worth_123 kq (sX11_worth_56 kq F) x1 x2 x4 x3 (M75.1 193 (M75.1 158 7).toNatClampNeg) M75))
    else (if x1 = 1 then
      ((sX11_fairValue kq M75).bind fun (q104 : Int32 × Mm) =>
      sX11_worth_123 kq (sX11_worth_56 kq F) x1 x2 x4 x3 q104.1 q104.2)
    else ((sX11_isUnsure kq x2 M75).bind fun (q112 : Int32 × Mm) =>
    sX11_worth_123 kq (sX11_worth_56 kq F) x1 x2 x4 x3 (if q112.1 = 0 then 0 else 1) q112.2)))
def sX11_worth_25 (kq : Nat × Nat) (x1 : Int32) (x2 : Int32) (M : Mm) : Option (Int32 × Mm) :=
  if (M.1 kq.1 9) = 0 then
    (some ((-1), M))
  else ((sX1_gather (M.1 34 1) M).bind fun (M48 : Mm) =>
  sX11_worth_56 kq 4096 x1 x2 0 0 M48)
def sX11_worth (kq : Nat × Nat) (x1 : Int32) (x2 : Int32) (M : Mm) : Option (Int32 × Mm) :=
  if x1 < 0 then
    (some ((-1), M))
  else (if 2 < x1 then
    (some ((-1), M))
  else (if x1 = 2 then
    (if x2 < 0 then
      (some ((-1), M))
    else (if 1000 < x2 then
      (some ((-1), M))
    else (sX11_worth_25 kq x1 x2 M)))
  else (sX11_worth_25 kq x1 x2 M)))
def sX0_findLatest_71 (r2 : Nat) (k20 : Int32 → Int32 → Mm → Option (Mm)) (x1 : Int32) (x3 : Int32) (M : Mm) : Option (Mm) :=
  k20 x1 (x3 + 1) M
def sX0_findLatest_20 (r2 : Nat) : Nat → Int32 → Int32 → Mm → Option (Mm)
  | 0, _, _, _ => none
  | F + 1, x1, x3, M => if (M.1 34 3) ≤ x3 then
      (some M)
    else (ck (inb x3 60) (ck (inb (M.1 36 x3.toNatClampNeg) 60) (if (M.1 (38 + 2 * (M.1 36 x3.toNatClampNeg).toNatClampNeg) 1) = x1 then
      (ck (inb (M.1 (38 + 2 * (M.1 36 x3.toNatClampNeg).toNatClampNeg) 2) 64) (sX0_findLatest_71 r2 (sX0_findLatest_20 r2 F) x1 x3 (sI M r2 (M.1 (38 + 2 * (M.1 36 x3.toNatClampNeg).toNatClampNeg) 2).toNatClampNeg (M.1 (38 + 2 * (M.1 36 x3.toNatClampNeg).toNatClampNeg) 5))))
    else (sX0_findLatest_71 r2 (sX0_findLatest_20 r2 F) x1 x3 M))))
def sX0_findLatest_2 (r2 : Nat) : Nat → Int32 → Int32 → Mm → Option (Mm)
  | 0, _, _, _ => none
  | F + 1, x1, x3, M => if 64 ≤ x3 then
      (sX0_findLatest_20 r2 4096 x1 0 M)
    else (ck (inb x3 64) (sX0_findLatest_2 r2 F x1 (x3 + 1) (sI M r2 x3.toNatClampNeg (-1))))
def sX0_findLatest (r2 : Nat) (x1 : Int32) (M : Mm) : Option (Mm) :=
  sX0_findLatest_2 r2 4096 x1 0 M
def sX0_countCells_119 (k40 : Int32 → Mm → Option (Mm)) (x1 : Int32) (M : Mm) : Option (Mm) :=
  k40 (x1 + 1) M
def sX0_countCells_95 (k40 : Int32 → Mm → Option (Mm)) (x1 : Int32) (x2 : Int32) (x3 : Int32) (s1 : Int32) (s2 : Int32) (M : Mm) : Option (Mm) :=
  ck (inb x2 8) (ck (inb x2 8) (ck (inb x3 8) (ck (inb x3 8) (sX0_countCells_119 k40 x1 (sI (sI (sI M 188 6 (s1 + s2)) 191 x2.toNatClampNeg (((sI M 188 6 (s1 + s2)).1 191 x2.toNatClampNeg) + 1)) 192 x3.toNatClampNeg (((sI (sI M 188 6 (s1 + s2)) 191 x2.toNatClampNeg (((sI M 188 6 (s1 + s2)).1 191 x2.toNatClampNeg) + 1)).1 192 x3.toNatClampNeg) + 1))))))
def sX0_countCells_40 : Nat → Int32 → Mm → Option (Mm)
  | 0, _, _ => none
  | F + 1, x1, M => if 64 ≤ x1 then
      (some M)
    else (ck (inb x1 64) (ck (inb x1 64) (if (M.1 189 x1.toNatClampNeg) = (-1) then
      (sX0_countCells_119 (sX0_countCells_40 F) x1 M)
    else (if (M.1 190 x1.toNatClampNeg) = (-1) then
      (sX0_countCells_119 (sX0_countCells_40 F) x1 M)
    else (sX0_countCells_95 (sX0_countCells_40 F) x1 (M.1 189 x1.toNatClampNeg) (M.1 190 x1.toNatClampNeg) ((sI M 188 5 ((M.1 188 5) + 1)).1 188 6) (if (M.1 189 x1.toNatClampNeg) = (M.1 190 x1.toNatClampNeg) then 1 else 0) (sI M 188 5 ((M.1 188 5) + 1)))))))
def sX0_countCells_12 : Nat → Int32 → Mm → Option (Mm)
  | 0, _, _ => none
  | F + 1, x1, M => if 8 ≤ x1 then
      (sX0_countCells_40 4096 0 M)
    else (ck (inb x1 8) (ck (inb x1 8) (sX0_countCells_12 F (x1 + 1) (sI (sI M 191 x1.toNatClampNeg 0) 192 x1.toNatClampNeg 0))))
def sX0_countCells (M : Mm) : Option (Mm) :=
  sX0_countCells_12 4096 0 (sI (sI M 188 5 0) 188 6 0)
def sX0_greatestDivisor_13 : Nat → Int32 → Int32 → Int32 → Mm → Option (Int32 × Mm)
  | 0, _, _, _, _ => none
  | F + 1, x2, x3, x4, M => if 64 ≤ x4 then
      (some (x2, M))
    else (if x3 = 0 then
      (some (x2, M))
    else (ck (nz x3) (sX0_greatestDivisor_13 F x3 (x2 - x2 / x3 * x3) (x4 + 1) M)))
def sX0_greatestDivisor (x0 : Int32) (x1 : Int32) (M : Mm) : Option (Int32 × Mm) :=
  sX0_greatestDivisor_13 4096 (if 0 ≤ x0 then x0 else 0 - x0) (if 0 ≤ x1 then x1 else 0 - x1) 0 M
def sX0_compare_148 (s1 : Int32) (M : Mm) : Option (Mm) :=
  some (sI M 188 9 s1)
def sX0_compare_120 (x3 : Int32) (s1 : Int32) (M : Mm) : Option (Mm) :=
  if x3 ≤ 0 then
    (sX0_compare_148 0 (sI M 188 8 s1))
  else (ck (nz x3) (sX0_compare_148 (((((sI M 188 8 s1).1 188 5) * ((sI M 188 8 s1).1 188 5)) - ((sI M 188 8 s1).1 188 7)) / x3) (sI M 188 8 s1)))
def sX0_compare_29 : Nat → Int32 → Mm → Option (Mm)
  | 0, _, _ => none
  | F + 1, x3, M => if 8 ≤ x3 then
      ((sX0_greatestDivisor (((M.1 188 6) * (M.1 188 5)) - (M.1 188 7)) (((M.1 188 5) * (M.1 188 5)) - (M.1 188 7)) M).bind fun (q91 : Int32 × Mm) =>
      if q91.1 ≤ 0 then
        (sX0_compare_120 q91.1 0 q91.2)
      else (ck (nz q91.1) (sX0_compare_120 q91.1 ((((q91.2.1 188 6) * (q91.2.1 188 5)) - (q91.2.1 188 7)) / q91.1) q91.2)))
    else (ck (inb x3 8) (ck (inb x3 8) (sX0_compare_29 F (x3 + 1) (sI M 188 7 ((M.1 188 7) + ((M.1 191 x3.toNatClampNeg) * (M.1 192 x3.toNatClampNeg)))))))
def sX0_compare (x1 : Int32) (x2 : Int32) (M : Mm) : Option (Mm) :=
  (sX0_findLatest 189 x1 M).bind fun (M6 : Mm) =>
  (sX0_findLatest 190 x2 M6).bind fun (M15 : Mm) =>
  (sX0_countCells M15).bind fun (M19 : Mm) =>
  sX0_compare_29 4096 0 (sI M19 188 7 0)
def sX11_hands (x1 : Int32) (x2 : Int32) (x3 : Int32) (M : Mm) : Option (Int32 × Mm) :=
  (sX11_isHand x1 M).bind fun (q1 : Int32 × Mm) =>
  if q1.1 = 0 then
    (some ((-1000000), q1.2))
  else ((sX11_isHand x2 q1.2).bind fun (q8 : Int32 × Mm) =>
  if q8.1 = 0 then
    (some ((-1000000), q8.2))
  else (if x1 = x2 then
    (some ((-1000000), q8.2))
  else (if x3 < 0 then
    (some ((-1000000), q8.2))
  else (if x3 ≤ 4 then
    ((sX1_gather (q8.2.1 34 1) q8.2).bind fun (M43 : Mm) =>
    (sX0_compare x1 x2 M43).bind fun (M52 : Mm) =>
    if x3 = 0 then
      (some ((M52.1 188 5), M52))
    else if x3 = 1 then
      (some ((M52.1 188 6), M52))
    else if x3 = 2 then
      (some ((M52.1 188 7), M52))
    else if x3 = 3 then
      (some ((M52.1 188 8), M52))
    else (some ((M52.1 188 9), M52)))
  else (some ((-1000000), q8.2))))))
def sX11_count (kq : Nat × Nat) (x1 : Int32) (M : Mm) : Option (Int32 × Mm) :=
  if x1 = 0 then
    (some ((M.1 22 0), M))
  else if x1 = 1 then
    (some ((M.1 22 1), M))
  else if x1 = 2 then
    (some ((M.1 34 1), M))
  else if x1 = 3 then
    (some ((M.1 kq.1 9), M))
  else if x1 = 4 then
    (some ((M.1 kq.1 8), M))
  else if x1 = 5 then
    (some ((M.1 kq.1 10), M))
  else if x1 = 6 then
    ((sX1_gather (M.1 34 1) M).bind fun (M103 : Mm) =>
    some ((M103.1 34 3), M103))
  else (some ((-1), M))
def sX4_clear (r0 : Nat) (M : Mm) : Option (Mm) :=
  some (sI (sI (sI (sI M r0 3 0) r0 8 0) r0 9 0) r0 10 0)
def sX4_numberOf_2 (r0 : Nat) : Nat → Int64 → Int32 → Mm → Option (Int32 × Mm)
  | 0, _, _, _ => none
  | F + 1, y1, x3, M => if (M.1 r0 9) ≤ x3 then
      (if (M.1 r0 9) < 8 then
        (ck (inb (M.1 r0 9) 8) (some ((((sI (sL M (r0 + 6) (M.1 r0 9).toNatClampNeg y1) r0 9 (((sL M (r0 + 6) (M.1 r0 9).toNatClampNeg y1).1 r0 9) + 1)).1 r0 9) - 1), (sI (sL M (r0 + 6) (M.1 r0 9).toNatClampNeg y1) r0 9 (((sL M (r0 + 6) (M.1 r0 9).toNatClampNeg y1).1 r0 9) + 1)))))
      else (some ((-1), M)))
    else (ck (inb x3 8) (if (lg_cmp (M.2 (r0 + 6) x3.toNatClampNeg) y1) = 0 then
      (some (x3, M))
    else (sX4_numberOf_2 r0 F y1 (x3 + 1) M)))
def sX4_numberOf (r0 : Nat) (y1 : Int64) (M : Mm) : Option (Int32 × Mm) :=
  sX4_numberOf_2 r0 4096 y1 0 M
def sX5_readKind_24 (kq : Nat × Nat) (M : Mm) : Option (Int32 × Mm) :=
  (sX10_refuse 1 M).bind fun (q29 : Int32 × Mm) =>
  some ((-1), q29.2)
def sX5_readKind_62 (kq : Nat × Nat) (x1 : Int32) (M : Mm) : Option (Int32 × Mm) :=
  if x1 = (-1) then
    ((sX10_refuse 2 M).bind fun (q72 : Int32 × Mm) =>
    some ((-1), q72.2))
  else ((sX10_step M).bind fun (M82 : Mm) =>
  some (x1, M82))
def sX5_readKind (kq : Nat × Nat) (M : Mm) : Option (Int32 × Mm) :=
  if (M.1 3 4) = 2 then
    (if (M.1 3 6) = (-1) then
      (if 16 ≤ (M.1 kq.2 8) then
        (sX5_readKind_62 kq (-1) M)
      else ((sX4_numberOf kq.2 (M.2 3 7) M).bind fun (q58 : Int32 × Mm) =>
      sX5_readKind_62 kq q58.1 q58.2))
    else (sX5_readKind_24 kq M))
  else (sX5_readKind_24 kq M)
def sX5_takeKnot (kq : Nat × Nat) (M : Mm) : Option (Int32 × Mm) :=
  if (M.1 kq.2 10) < 96 then
    ((sX10_step (sI M kq.2 10 ((M.1 kq.2 10) + 1))).bind fun (M38 : Mm) =>
    some (1, M38))
  else ((sX10_refuse 2 M).bind fun (q17 : Int32 × Mm) =>
  ck (isb q17.1) (some (q17.1, q17.2)))
def sX5_readBracket_79 (rec : Int32 → Mm → Option (Int32 × Mm)) (kq : Nat × Nat) (s0 : Int32) (M : Mm) : Option (Int32 × Mm) :=
  ck (isb s0) (some (s0, (sI M 5 2 ((M.1 5 2) - 1))))
def sX5_readBracket_78 (rec : Int32 → Mm → Option (Int32 × Mm)) (kq : Nat × Nat) (M : Mm) : Option (Int32 × Mm) :=
  sX5_readBracket_79 rec kq 0 M
def sX5_readBracket_30 (rec : Int32 → Mm → Option (Int32 × Mm)) (kq : Nat × Nat) (x1 : Int32) (M : Mm) : Option (Int32 × Mm) :=
  (sX10_takeSign 40 M).bind fun (q36 : Int32 × Mm) =>
  if q36.1 = 0 then
    (some (0, q36.2))
  else ((rec x1 (sI q36.2 5 2 ((q36.2.1 5 2) + 1))).bind fun (q56 : Int32 × Mm) =>
  if q56.1 = 0 then
    (sX5_readBracket_78 rec kq q56.2)
  else ((sX10_takeSign 41 q56.2).bind fun (q68 : Int32 × Mm) =>
  if q68.1 = 0 then
    (sX5_readBracket_78 rec kq q68.2)
  else (sX5_readBracket_79 rec kq 1 q68.2)))
def sX5_readBracket (rec : Int32 → Mm → Option (Int32 × Mm)) (kq : Nat × Nat) (x1 : Int32) (M : Mm) : Option (Int32 × Mm) :=
  (sX10_isSign 40 M).bind fun (q6 : Int32 × Mm) =>
  if q6.1 = 0 then
    (sX5_readBracket_30 rec kq x1 q6.2)
  else (if (q6.2.1 5 2) < 8 then
    (sX5_readBracket_30 rec kq x1 q6.2)
  else ((sX10_refuse 2 q6.2).bind fun (q26 : Int32 × Mm) =>
  ck (isb q26.1) (some (q26.1, q26.2))))
def sX4_emit (r0 : Nat) (x1 : Int32) (x2 : Int32) (x3 : Int32) (M : Mm) : Option (Mm) :=
  if 96 ≤ (M.1 r0 3) then
    (some M)
  else (ck (inb (M.1 r0 3) 96) (ck (inb ((sI M (r0 + 1) (M.1 r0 3).toNatClampNeg x1).1 r0 3) 96) (ck (inb ((sI (sI M (r0 + 1) (M.1 r0 3).toNatClampNeg x1) (r0 + 2) ((sI M (r0 + 1) (M.1 r0 3).toNatClampNeg x1).1 r0 3).toNatClampNeg x2).1 r0 3) 96) (some (sI (sI (sI (sI M (r0 + 1) (M.1 r0 3).toNatClampNeg x1) (r0 + 2) ((sI M (r0 + 1) (M.1 r0 3).toNatClampNeg x1).1 r0 3).toNatClampNeg x2) (r0 + 3) ((sI (sI M (r0 + 1) (M.1 r0 3).toNatClampNeg x1) (r0 + 2) ((sI M (r0 + 1) (M.1 r0 3).toNatClampNeg x1).1 r0 3).toNatClampNeg x2).1 r0 3).toNatClampNeg x3) r0 3 (((sI (sI (sI M (r0 + 1) (M.1 r0 3).toNatClampNeg x1) (r0 + 2) ((sI M (r0 + 1) (M.1 r0 3).toNatClampNeg x1).1 r0 3).toNatClampNeg x2) (r0 + 3) ((sI (sI M (r0 + 1) (M.1 r0 3).toNatClampNeg x1) (r0 + 2) ((sI M (r0 + 1) (M.1 r0 3).toNatClampNeg x1).1 r0 3).toNatClampNeg x2).1 r0 3).toNatClampNeg x3).1 r0 3) + 1))))))
def sX5_readCompare_89 (kq : Nat × Nat) (x1 : Int32) (x2 : Int32) (M : Mm) : Option (Int32 × Mm) :=
  (sX10_step M).bind fun (M93 : Mm) =>
  (sX10_isNumberTo 999 M93).bind fun (q103 : Int32 × Mm) =>
  if q103.1 = 0 then
    (some (0, q103.2))
  else ((sX4_emit kq.2 x1 x2 (q103.2.1 3 6) q103.2).bind fun (M124 : Mm) =>
  (sX10_step M124).bind fun (M131 : Mm) =>
  some (1, M131))
def sX5_readCompare_49 (kq : Nat × Nat) (x1 : Int32) (x2 : Int32) (s0 : Int32) (M : Mm) : Option (Int32 × Mm) :=
  if s0 = 0 then
    ((sX10_isSign 316 M).bind fun (q61 : Int32 × Mm) =>
    if q61.1 = 0 then
      ((sX10_isSign 318 q61.2).bind fun (q74 : Int32 × Mm) =>
      if q74.1 = 0 then
        ((sX10_refuse 1 q74.2).bind fun (q85 : Int32 × Mm) =>
        ck (isb q85.1) (some (q85.1, q85.2)))
      else (sX5_readCompare_89 kq x1 x2 q74.2))
    else (sX5_readCompare_89 kq x1 x2 q61.2))
  else (sX5_readCompare_89 kq x1 x2 M)
def sX5_readCompare_44 (kq : Nat × Nat) (x1 : Int32) (x2 : Int32) (M : Mm) : Option (Int32 × Mm) :=
  sX5_readCompare_49 kq x1 x2 1 M
def sX5_readCompare (kq : Nat × Nat) (x1 : Int32) (M : Mm) : Option (Int32 × Mm) :=
  (sX10_isSign 60 M).bind fun (q14 : Int32 × Mm) =>
  if q14.1 = 0 then
    ((sX10_isSign 61 q14.2).bind fun (q26 : Int32 × Mm) =>
    if q26.1 = 0 then
      ((sX10_isSign 62 q26.2).bind fun (q38 : Int32 × Mm) =>
      if q38.1 = 0 then
        (sX5_readCompare_49 kq x1 (M.1 3 6) 0 q38.2)
      else (sX5_readCompare_44 kq x1 (M.1 3 6) q38.2))
    else (sX5_readCompare_44 kq x1 (M.1 3 6) q26.2))
  else (sX5_readCompare_44 kq x1 (M.1 3 6) q14.2)
def sX5_readOfLayer_58 (kq : Nat × Nat) (x1 : Int32) (M : Mm) : Option (Int32 × Mm) :=
  (sX5_takeKnot kq M).bind fun (q67 : Int32 × Mm) =>
  if q67.1 = 0 then
    (some (0, q67.2))
  else (if x1 = 0 then
    ((sX4_emit kq.2 (M.1 3 6) 0 0 q67.2).bind fun (M92 : Mm) =>
    some (1, M92))
  else ((sX5_readCompare kq (M.1 3 6) q67.2).bind fun (q81 : Int32 × Mm) =>
  ck (isb q81.1) (some (q81.1, q81.2))))
def sX5_readOfLayer_31 (kq : Nat × Nat) (s0 : Int32) (M : Mm) : Option (Int32 × Mm) :=
  if s0 = 0 then
    ((sX10_isWord 0 12 M).bind fun (q43 : Int32 × Mm) =>
    if q43.1 = 0 then
      ((sX10_refuse 1 q43.2).bind fun (q54 : Int32 × Mm) =>
      ck (isb q54.1) (some (q54.1, q54.2)))
    else (sX5_readOfLayer_58 kq s0 q43.2))
  else (sX5_readOfLayer_58 kq s0 M)
def sX5_readOfLayer_26 (kq : Nat × Nat) (M : Mm) : Option (Int32 × Mm) :=
  sX5_readOfLayer_31 kq 1 M
def sX5_readOfLayer (kq : Nat × Nat) (M : Mm) : Option (Int32 × Mm) :=
  (sX10_isWord 12 1 M).bind fun (q7 : Int32 × Mm) =>
  if q7.1 = 0 then
    ((sX10_isWord 13 1 q7.2).bind fun (q20 : Int32 × Mm) =>
    if q20.1 = 0 then
      (sX5_readOfLayer_31 kq 0 q20.2)
    else (sX5_readOfLayer_26 kq q20.2))
  else (sX5_readOfLayer_26 kq q7.2)
def sX5_readOfBore_118 (rec : Int32 → Mm → Option (Int32 × Mm)) (kq : Nat × Nat) (x1 : Int32) (M : Mm) : Option (Int32 × Mm) :=
  (sX5_readCompare kq x1 M).bind fun (q120 : Int32 × Mm) =>
  ck (isb q120.1) (some (q120.1, q120.2))
def sX5_readOfBore_100 (rec : Int32 → Mm → Option (Int32 × Mm)) (kq : Nat × Nat) (x1 : Int32) (x2 : Int32) (M : Mm) : Option (Int32 × Mm) :=
  if x1 = 21 then
    (sX5_readOfBore_118 rec kq x1 M)
  else (if x1 = 22 then
    (sX5_readOfBore_118 rec kq x1 M)
  else (if x1 = 23 then
    (sX5_readOfBore_118 rec kq x1 M)
  else ((sX4_emit kq.2 x1 0 x2 M).bind fun (M131 : Mm) =>
  some (1, M131))))
def sX5_readOfBore_78 (rec : Int32 → Mm → Option (Int32 × Mm)) (kq : Nat × Nat) (x1 : Int32) (x2 : Int32) (M : Mm) : Option (Int32 × Mm) :=
  if x1 = 17 then
    (sX5_readOfBore_100 rec kq x1 x2 M)
  else (if x1 = 23 then
    (sX5_readOfBore_100 rec kq x1 x2 M)
  else ((sX5_readBracket rec kq 1 M).bind fun (q92 : Int32 × Mm) =>
  if q92.1 = 0 then
    (some (0, q92.2))
  else (sX5_readOfBore_100 rec kq x1 x2 q92.2)))
def sX5_readOfBore (rec : Int32 → Mm → Option (Int32 × Mm)) (kq : Nat × Nat) (M : Mm) : Option (Int32 × Mm) :=
  (sX10_isWord 17 7 M).bind fun (q8 : Int32 × Mm) =>
  if q8.1 = 0 then
    ((sX10_refuse 1 q8.2).bind fun (q19 : Int32 × Mm) =>
    ck (isb q19.1) (some (q19.1, q19.2)))
  else ((sX5_takeKnot kq q8.2).bind fun (q34 : Int32 × Mm) =>
  if q34.1 = 0 then
    (some (0, q34.2))
  else (if (q8.2.1 3 6) = 20 then
    ((sX10_isNumberTo 999 q34.2).bind fun (q55 : Int32 × Mm) =>
    if q55.1 = 0 then
      (some (0, q55.2))
    else ((sX10_step q55.2).bind fun (M75 : Mm) =>
    sX5_readOfBore_78 rec kq (q8.2.1 3 6) (q55.2.1 3 6) M75))
  else (sX5_readOfBore_78 rec kq (q8.2.1 3 6) 0 q34.2)))
def sX5_readMaybeNot_71 (rec : Int32 → Mm → Option (Int32 × Mm)) (kq : Nat × Nat) (x2 : Int32) (s0 : Int32) (M : Mm) : Option (Int32 × Mm) :=
  if s0 = 0 then
    (ck (isb s0) (some (s0, M)))
  else (if (x2 - x2 / 2 * 2) = 1 then
    ((sX4_emit kq.2 16 0 0 M).bind fun (M91 : Mm) =>
    ck (isb s0) (some (s0, M91)))
  else (ck (isb s0) (some (s0, M))))
def sX5_readMaybeNot_36 (rec : Int32 → Mm → Option (Int32 × Mm)) (kq : Nat × Nat) (x1 : Int32) (x2 : Int32) (M : Mm) : Option (Int32 × Mm) :=
  (sX10_isSign 40 M).bind fun (q42 : Int32 × Mm) =>
  if q42.1 = 0 then
    (if x1 = 0 then
      ((sX5_readOfBore rec kq q42.2).bind fun (q68 : Int32 × Mm) =>
      sX5_readMaybeNot_71 rec kq x2 q68.1 q68.2)
    else ((sX5_readOfLayer kq q42.2).bind fun (q61 : Int32 × Mm) =>
    sX5_readMaybeNot_71 rec kq x2 q61.1 q61.2))
  else ((sX5_readBracket rec kq x1 q42.2).bind fun (q50 : Int32 × Mm) =>
  sX5_readMaybeNot_71 rec kq x2 q50.1 q50.2)
def sX5_readMaybeNot_2 (rec : Int32 → Mm → Option (Int32 × Mm)) (kq : Nat × Nat) : Nat → Int32 → Int32 → Mm → Option (Int32 × Mm)
  | 0, _, _, _ => none
  | F + 1, x1, x2, M => if 96 < x2 then
      (sX5_readMaybeNot_36 rec kq x1 x2 M)
    else ((sX10_isWord 16 1 M).bind fun (q15 : Int32 × Mm) =>
    if q15.1 = 0 then
      (sX5_readMaybeNot_36 rec kq x1 x2 q15.2)
    else ((sX5_takeKnot kq q15.2).bind fun (q22 : Int32 × Mm) =>
    if q22.1 = 0 then
      (some (0, q22.2))
    else (sX5_readMaybeNot_2 rec kq F x1 (x2 + 1) q22.2)))
def sX5_readMaybeNot (rec : Int32 → Mm → Option (Int32 × Mm)) (kq : Nat × Nat) (x1 : Int32) (M : Mm) : Option (Int32 × Mm) :=
  sX5_readMaybeNot_2 rec kq 4096 x1 0 M
def sX5_readBoth_12 (rec : Int32 → Mm → Option (Int32 × Mm)) (kq : Nat × Nat) : Nat → Int32 → Int32 → Mm → Option (Int32 × Mm)
  | 0, _, _, _ => none
  | F + 1, x1, x2, M => if 96 ≤ x2 then
      (some (1, M))
    else ((sX10_isWord 15 1 M).bind fun (q25 : Int32 × Mm) =>
    if q25.1 = 0 then
      (some (1, q25.2))
    else ((sX5_takeKnot kq q25.2).bind fun (q32 : Int32 × Mm) =>
    if q32.1 = 0 then
      (some (0, q32.2))
    else ((sX5_readMaybeNot rec kq x1 q32.2).bind fun (q40 : Int32 × Mm) =>
    if q40.1 = 0 then
      (some (0, q40.2))
    else ((sX4_emit kq.2 15 0 0 q40.2).bind fun (M56 : Mm) =>
    sX5_readBoth_12 rec kq F x1 (x2 + 1) M56))))
def sX5_readBoth (rec : Int32 → Mm → Option (Int32 × Mm)) (kq : Nat × Nat) (x1 : Int32) (M : Mm) : Option (Int32 × Mm) :=
  (sX5_readMaybeNot rec kq x1 M).bind fun (q2 : Int32 × Mm) =>
  if q2.1 = 0 then
    (some (0, q2.2))
  else (sX5_readBoth_12 rec kq 4096 x1 0 q2.2)
def sX5_readEither_o_12 (rec : Int32 → Mm → Option (Int32 × Mm)) (kq : Nat × Nat) : Nat → Int32 → Int32 → Mm → Option (Int32 × Mm)
  | 0, _, _, _ => none
  | F + 1, x1, x2, M => if 96 ≤ x2 then
      (some (1, M))
    else ((sX10_isWord 14 1 M).bind fun (q25 : Int32 × Mm) =>
    if q25.1 = 0 then
      (some (1, q25.2))
    else ((sX5_takeKnot kq q25.2).bind fun (q32 : Int32 × Mm) =>
    if q32.1 = 0 then
      (some (0, q32.2))
    else ((sX5_readBoth rec kq x1 q32.2).bind fun (q40 : Int32 × Mm) =>
    if q40.1 = 0 then
      (some (0, q40.2))
    else ((sX4_emit kq.2 14 0 0 q40.2).bind fun (M56 : Mm) =>
    sX5_readEither_o_12 rec kq F x1 (x2 + 1) M56))))
def sX5_readEither_o (rec : Int32 → Mm → Option (Int32 × Mm)) (kq : Nat × Nat) (x1 : Int32) (M : Mm) : Option (Int32 × Mm) :=
  (sX5_readBoth rec kq x1 M).bind fun (q2 : Int32 × Mm) =>
  if q2.1 = 0 then
    (some (0, q2.2))
  else (sX5_readEither_o_12 rec kq 4096 x1 0 q2.2)
def sX5_readEither (kq : Nat × Nat) : Nat → Int32 → Mm → Option (Int32 × Mm)
  | 0, _, _ => none
  | F + 1, x1, M => sX5_readEither_o (sX5_readEither kq F) kq x1 M
def sX4_endLine (r0 : Nat) (x1 : Int32) (M : Mm) : Option (Mm) :=
  if 16 ≤ (M.1 r0 8) then
    (some M)
  else (ck (inb (M.1 r0 8) 16) (ck (inb ((sI M (r0 + 4) (M.1 r0 8).toNatClampNeg (M.1 r0 3)).1 r0 8) 16) (some (sI (sI (sI M (r0 + 4) (M.1 r0 8).toNatClampNeg (M.1 r0 3)) (r0 + 5) ((sI M (r0 + 4) (M.1 r0 8).toNatClampNeg (M.1 r0 3)).1 r0 8).toNatClampNeg x1) r0 8 (((sI (sI M (r0 + 4) (M.1 r0 8).toNatClampNeg (M.1 r0 3)) (r0 + 5) ((sI M (r0 + 4) (M.1 r0 8).toNatClampNeg (M.1 r0 3)).1 r0 8).toNatClampNeg x1).1 r0 8) + 1)))))
def sX5_readKey_14 (kq : Nat × Nat) : Nat → Int32 → Mm → Option (Int32 × Mm)
  | 0, _, _ => none
  | F + 1, x1, M => if 16 < x1 then
      (some (0, M))
    else (if (M.1 3 4) = 0 then
      (some (1, M))
    else ((sX5_readKind kq M).bind fun (q33 : Int32 × Mm) =>
    if q33.1 = (-1) then
      (some (0, q33.2))
    else ((sX10_takeSign 58 q33.2).bind fun (q48 : Int32 × Mm) =>
    if q48.1 = 0 then
      (some (0, q48.2))
    else ((sX5_readEither kq 12 0 q48.2).bind fun (q56 : Int32 × Mm) =>
    if q56.1 = 0 then
      (some (0, q56.2))
    else ((sX10_takeSign 59 q56.2).bind fun (q68 : Int32 × Mm) =>
    if q68.1 = 0 then
      (some (0, q68.2))
    else ((sX4_endLine kq.2 q33.1 q68.2).bind fun (M81 : Mm) =>
    sX5_readKey_14 kq F (x1 + 1) M81))))))
def sX5_readKey (kq : Nat × Nat) (M : Mm) : Option (Int32 × Mm) :=
  (sX4_clear kq.2 M).bind fun (M4 : Mm) =>
  sX5_readKey_14 kq 4096 0 (sI M4 5 2 0)
def sX1_judgeAll_33 (r1 : Nat) (k2 : Int32 → Mm → Option (Mm)) (x2 : Int32) (M : Mm) : Option (Mm) :=
  k2 (x2 + 1) M
def sX1_judgeAll_2 (r1 : Nat) : Nat → Int32 → Mm → Option (Mm)
  | 0, _, _ => none
  | F + 1, x2, M => if (M.1 34 1) ≤ x2 then
      (some M)
    else (ck (inb x2 60) (if (M.1 (38 + 2 * x2.toNatClampNeg) 0) = (-1) then
      (ck (inb x2 60) ((sX7_judge (38 + 2 * x2.toNatClampNeg) r1 M).bind fun (M30 : Mm) =>
      sX1_judgeAll_33 r1 (sX1_judgeAll_2 r1 F) x2 M30))
    else (sX1_judgeAll_33 r1 (sX1_judgeAll_2 r1 F) x2 M)))
def sX1_judgeAll (r1 : Nat) (M : Mm) : Option (Mm) :=
  sX1_judgeAll_2 r1 4096 0 M
def sX2_resetReads_53 (k7 : Int32 → Mm → Option (Mm)) (k14 : Int32 → Int32 → Mm → Option (Mm)) (k23 : Int32 → Int32 → Int32 → Mm → Option (Mm)) (x2 : Int32) (x3 : Int32) (x4 : Int32) (s1 : Int32) (s2 : Int32) (M : Mm) : Option (Mm) :=
  ck (inb s1 192) (k23 x2 x3 (x4 + 1) (sI M 159 s1.toNatClampNeg s2))
def sX2_resetReads_23 (k7 : Int32 → Mm → Option (Mm)) (k14 : Int32 → Int32 → Mm → Option (Mm)) : Nat → Int32 → Int32 → Int32 → Mm → Option (Mm)
  | 0, _, _, _, _ => none
  | F + 1, x2, x3, x4, M => if 8 ≤ x4 then
      (k14 x2 (x3 + 1) M)
    else ((sX2_place x2 x3 x4 M).bind fun (q38 : Int32 × Mm) =>
    sX2_resetReads_53 k7 k14 (sX2_resetReads_23 k7 k14 F) x2 x3 x4 q38.1 (if x3 = x4 then 16 else 0) q38.2)
def sX2_resetReads_14 (k7 : Int32 → Mm → Option (Mm)) : Nat → Int32 → Int32 → Mm → Option (Mm)
  | 0, _, _, _ => none
  | F + 1, x2, x3, M => if 8 ≤ x3 then
      (k7 (x2 + 1) M)
    else (sX2_resetReads_23 k7 (sX2_resetReads_14 k7 F) 4096 x2 x3 0 M)
def sX2_resetReads_7 : Nat → Int32 → Mm → Option (Mm)
  | 0, _, _ => none
  | F + 1, x2, M => if 3 ≤ x2 then
      (some M)
    else (sX2_resetReads_14 (sX2_resetReads_7 F) 4096 x2 0 M)
def sX2_resetReads (x1 : Int32) (M : Mm) : Option (Mm) :=
  sX2_resetReads_7 4096 0 (sI M 158 4 x1)
def sX12_thrown (M : Mm) : Option (Int32 × Mm) :=
  some ((M.1 194 2), M)
def sX12_bare_2 : Nat → Int32 → Mm → Option (Mm)
  | 0, _, _ => none
  | F + 1, x1, M => if 64 ≤ x1 then
      (some (sI M 194 26 0))
    else (ck (inb x1 64) (ck (inb x1 64) (ck (inb x1 64) (ck (inb x1 64) (ck (inb x1 64) (sX12_bare_2 F (x1 + 1) (sI (sI (sI (sI (sI M 196 x1.toNatClampNeg 0) 197 x1.toNatClampNeg 0) 198 x1.toNatClampNeg (-1)) 199 x1.toNatClampNeg 1) 200 x1.toNatClampNeg (-1))))))))
def sX12_bare (M : Mm) : Option (Mm) :=
  sX12_bare_2 4096 0 M
def sX12_feed_76 (k23 : Int32 → Int32 → Int32 → Int32 → Int32 → Int32 → Mm → Option (Int32 × Mm)) (x1 : Int32) (x2 : Int32) (x3 : Int32) (x4 : Int32) (x5 : Int32) (x6 : Int32) (s0 : Int32) (M : Mm) : Option (Int32 × Mm) :=
  ck (inb ((M.1 194 1) + x6) 800) (k23 x1 x2 x3 x4 x5 (x6 + 1) (sI M 195 ((M.1 194 1) + x6).toNatClampNeg ((s0 >>> ((24 - (8 * (x6 - x6 / 4 * 4))) &&& 31)) &&& 255)))
def sX12_feed_23 : Nat → Int32 → Int32 → Int32 → Int32 → Int32 → Int32 → Mm → Option (Int32 × Mm)
  | 0, _, _, _, _, _, _, _ => none
  | F + 1, x1, x2, x3, x4, x5, x6, M => if 20 ≤ x6 then
      (some (((sI M 194 1 ((M.1 194 1) + 20)).1 194 1), (sI M 194 1 ((M.1 194 1) + 20))))
    else (sX12_feed_76 (sX12_feed_23 F) x1 x2 x3 x4 x5 x6 (if 4 ≤ x6 then (if 8 ≤ x6 then (if 12 ≤ x6 then (if 16 ≤ x6 then x5 else x4) else x3) else x2) else x1) M)
def sX12_feed (x1 : Int32) (x2 : Int32) (x3 : Int32) (x4 : Int32) (x5 : Int32) (M : Mm) : Option (Int32 × Mm) :=
  if (((sI M 194 2 0).1 194 1) + 20) ≤ 800 then
    (sX12_feed_23 4096 x1 x2 x3 x4 x5 0 (sI M 194 2 0))
  else (some ((-1), (sI M 194 2 0)))
def sX12_land (x1 : Int32) (x2 : Int32) (M : Mm) : Option (Int32 × Mm) :=
  if x1 < 2 then
    (some (0, (sI M 194 2 0)))
  else (if 8 < x1 then
    (some (0, (sI M 194 2 0)))
  else (if x2 < 2 then
    (some (0, (sI M 194 2 0)))
  else (if x2 ≤ 8 then
    ((sX12_bare (sI (sI (sI M 194 2 0) 194 3 x1) 194 4 x2)).bind fun (M40 : Mm) =>
    some (1, M40))
  else (some (0, (sI M 194 2 0))))))
def sX12_isCell (x1 : Int32) (M : Mm) : Option (Int32 × Mm) :=
  some ((if x1 < 0 then 0 else (if ((M.1 194 3) * (M.1 194 4)) ≤ x1 then 0 else 1)), M)
def sX12_ground (x1 : Int32) (x2 : Int32) (x3 : Int32) (M : Mm) : Option (Int32 × Mm) :=
  (sX12_isCell x1 (sI M 194 2 0)).bind fun (q7 : Int32 × Mm) =>
  if q7.1 = 0 then
    (some (0, q7.2))
  else (if x2 = 0 then
    (if x3 < 0 then
      (some (0, q7.2))
    else (if x3 ≤ 999 then
      (ck (inb x1 64) (some (1, (sI q7.2 196 x1.toNatClampNeg x3))))
    else (some (0, q7.2))))
  else if x2 = 1 then
    (if x3 < 0 then
      (some (0, q7.2))
    else (if x3 ≤ 3 then
      (ck (inb x1 64) (some (1, (sI q7.2 197 x1.toNatClampNeg x3))))
    else (some (0, q7.2))))
  else if x2 = 2 then
    (if x3 < (-1) then
      (some (0, q7.2))
    else (if x3 ≤ 99 then
      (ck (inb x1 64) (some (1, (sI q7.2 198 x1.toNatClampNeg x3))))
    else (some (0, q7.2))))
  else if x2 = 3 then
    (if x3 < 0 then
      (some (0, q7.2))
    else (if x3 ≤ 99 then
      (ck (inb x1 64) (some (1, (sI q7.2 199 x1.toNatClampNeg x3))))
    else (some (0, q7.2))))
  else if x2 = 4 then
    (if x3 < (-1) then
      (some (0, q7.2))
    else (if x3 ≤ 5 then
      (ck (inb x1 64) (some (1, (sI q7.2 200 x1.toNatClampNeg x3))))
    else (some (0, q7.2))))
  else (some (0, q7.2)))
def sX12_bounds_37 (x1 : Int32) (x2 : Int32) (x3 : Int32) (s0 : Int32) (s1 : Int32) (M : Mm) : Option (Int32 × Mm) :=
  if s0 ≤ s1 then
    (if x1 = 0 then
      (some (1, (sI (sI M 194 10 x2) 194 11 x3)))
    else (some (1, (sI (sI M 194 12 x2) 194 13 x3))))
  else (some (0, M))
def sX12_bounds (x1 : Int32) (x2 : Int32) (x3 : Int32) (M : Mm) : Option (Int32 × Mm) :=
  if x1 < 0 then
    (some (0, (sI M 194 2 0)))
  else (if 1 < x1 then
    (some (0, (sI M 194 2 0)))
  else (if x2 < 1 then
    (some (0, (sI M 194 2 0)))
  else (if x3 ≤ x2 then
    (some (0, (sI M 194 2 0)))
  else (sX12_bounds_37 x1 x2 x3 x3 (if x1 = 0 then 999 else 99) (sI M 194 2 0)))))
def sX12_price (x1 : Int32) (x2 : Int32) (M : Mm) : Option (Int32 × Mm) :=
  if x1 < 0 then
    (some (0, (sI M 194 2 0)))
  else (if 1 < x1 then
    (some (0, (sI M 194 2 0)))
  else (if x2 < 0 then
    (some (0, (sI M 194 2 0)))
  else (if x2 ≤ 9999 then
    (if x1 = 0 then
      (some (1, (sI (sI M 194 2 0) 194 14 x2)))
    else (some (1, (sI (sI M 194 2 0) 194 15 x2))))
  else (some (0, (sI M 194 2 0))))))
def sX12_wrong (x1 : Int32) (M : Mm) : Option (Int32 × Mm) :=
  some (0, (sI (sI M 194 17 x1) 194 18 ((sI M 194 17 x1).1 194 23)))
def sX12_wordAt_104 (k5 : Int32 → Int32 → Int32 → Int32 → Mm → Option (Int32 × Mm)) (x1 : Int32) (x2 : Int32) (x3 : Int32) (x4 : Int32) (x5 : Int32) (x6 : Int32) (M : Mm) : Option (Int32 × Mm) :=
  if x6 = 0 then
    (k5 x1 x2 (x3 + 1) (x4 + (x5 + 1)) M)
  else (some (x3, M))
def sX12_wordAt_96 (k5 : Int32 → Int32 → Int32 → Int32 → Mm → Option (Int32 × Mm)) (k57 : Int32 → Int32 → Int32 → Int32 → Int32 → Int32 → Int32 → Mm → Option (Int32 × Mm)) (x1 : Int32) (x2 : Int32) (x3 : Int32) (x4 : Int32) (x5 : Int32) (x7 : Int32) (s0 : Int32) (M : Mm) : Option (Int32 × Mm) :=
  k57 x1 x2 x3 x4 x5 s0 (x7 + 1) M
def sX12_wordAt_57 (k5 : Int32 → Int32 → Int32 → Int32 → Mm → Option (Int32 × Mm)) : Nat → Int32 → Int32 → Int32 → Int32 → Int32 → Int32 → Int32 → Mm → Option (Int32 × Mm)
  | 0, _, _, _, _, _, _, _, _ => none
  | F + 1, x1, x2, x3, x4, x5, x6, x7, M => if x5 ≤ x7 then
      (sX12_wordAt_104 k5 x1 x2 x3 x4 x5 x6 M)
    else (if x6 = 0 then
      (sX12_wordAt_104 k5 x1 x2 x3 x4 x5 x6 M)
    else (ck (inb (x4 + x7) 121) (ck (inb (x1 + x7) 800) (sX12_wordAt_96 k5 (sX12_wordAt_57 k5 F) x1 x2 x3 x4 x5 x7 (if (M.1 201 (x4 + x7).toNatClampNeg) = (M.1 195 (x1 + x7).toNatClampNeg) then 1 else 0) M))))
def sX12_wordAt_52 (k5 : Int32 → Int32 → Int32 → Int32 → Mm → Option (Int32 × Mm)) (x1 : Int32) (x2 : Int32) (x3 : Int32) (x4 : Int32) (x5 : Int32) (s0 : Int32) (M : Mm) : Option (Int32 × Mm) :=
  sX12_wordAt_57 k5 4096 x1 x2 x3 x4 x5 s0 0 M
def sX12_wordAt_18 (k5 : Int32 → Int32 → Int32 → Int32 → Mm → Option (Int32 × Mm)) : Nat → Int32 → Int32 → Int32 → Int32 → Int32 → Mm → Option (Int32 × Mm)
  | 0, _, _, _, _, _, _ => none
  | F + 1, x1, x2, x3, x4, x5, M => ck (inb (x4 + x5) 121) (if (M.1 201 (x4 + x5).toNatClampNeg) = 32 then
      (sX12_wordAt_52 k5 x1 x2 x3 x4 x5 (if x5 = (x2 - x1) then 1 else 0) M)
    else (sX12_wordAt_18 k5 F x1 x2 x3 x4 (x5 + 1) M))
def sX12_wordAt_5 : Nat → Int32 → Int32 → Int32 → Int32 → Mm → Option (Int32 × Mm)
  | 0, _, _, _, _, _ => none
  | F + 1, x1, x2, x3, x4, M => if 121 ≤ x4 then
      (some ((-1), M))
    else (sX12_wordAt_18 (sX12_wordAt_5 F) 4096 x1 x2 x3 x4 0 M)
def sX12_wordAt (x1 : Int32) (x2 : Int32) (M : Mm) : Option (Int32 × Mm) :=
  sX12_wordAt_5 4096 x1 x2 0 0 M
def sX12_isSmall (x1 : Int32) (M : Mm) : Option (Int32 × Mm) :=
  if (M.1 194 19) ≤ x1 then
    (some (0, M))
  else (ck (inb x1 800) (if (M.1 195 x1.toNatClampNeg) < 97 then
    (some (0, M))
  else (ck (inb x1 800) (some ((if 122 < (M.1 195 x1.toNatClampNeg) then 0 else 1), M)))))
def sX12_isDigit (x1 : Int32) (M : Mm) : Option (Int32 × Mm) :=
  if (M.1 194 19) ≤ x1 then
    (some (0, M))
  else (ck (inb x1 800) (if (M.1 195 x1.toNatClampNeg) < 48 then
    (some (0, M))
  else (ck (inb x1 800) (some ((if 57 < (M.1 195 x1.toNatClampNeg) then 0 else 1), M)))))
def sX12_isEqual (x1 : Int32) (M : Mm) : Option (Int32 × Mm) :=
  if (M.1 194 19) ≤ x1 then
    (some (0, M))
  else (ck (inb x1 800) (some ((if (M.1 195 x1.toNatClampNeg) = 61 then 1 else 0), M)))
def sX12_signOf_86 (x1 : Int32) (M : Mm) : Option (Int32 × Mm) :=
  some (x1, M)
def sX12_signOf (x1 : Int32) (M : Mm) : Option (Int32 × Mm) :=
  if x1 = 60 then
    ((sX12_isEqual (M.1 194 20) M).bind fun (q11 : Int32 × Mm) =>
    some ((if q11.1 = 0 then 1 else 2), q11.2))
  else (if x1 = 62 then
    ((sX12_isEqual (M.1 194 20) M).bind fun (q34 : Int32 × Mm) =>
    some ((if q34.1 = 0 then 5 else 4), q34.2))
  else (if x1 = 61 then
    (some (3, M))
  else (if x1 = 45 then
    (sX12_signOf_86 x1 M)
  else (if x1 = 59 then
    (sX12_signOf_86 x1 M)
  else (if x1 = 58 then
    (sX12_signOf_86 x1 M)
  else (if x1 = 40 then
    (sX12_signOf_86 x1 M)
  else (if x1 = 41 then
    (sX12_signOf_86 x1 M)
  else (some ((-1), M)))))))))
def sX12_take_324 (M : Mm) : Option (Mm) :=
  some (sI M 194 24 (M.1 194 20))
def sX12_take_314 (M : Mm) : Option (Mm) :=
  sX12_take_324 (sI M 194 20 ((M.1 194 20) + 1))
def sX12_take_295 (s1 : Int32) (M : Mm) : Option (Mm) :=
  if ((sI M 194 21 s1).1 194 22) = 2 then
    (sX12_take_314 (sI M 194 21 s1))
  else (if ((sI M 194 21 s1).1 194 22) = 4 then
    (sX12_take_314 (sI M 194 21 s1))
  else (sX12_take_324 (sI M 194 21 s1)))
def sX12_take_237 (k188 : Mm → Option (Mm)) (s1 : Int32) (M : Mm) : Option (Mm) :=
  k188 (sI (sI M 194 22 s1) 194 20 (((sI M 194 22 s1).1 194 20) + 1))
def sX12_take_188 : Nat → Mm → Option (Mm)
  | 0, _ => none
  | F + 1, M => (sX12_isDigit (M.1 194 20) M).bind fun (q193 : Int32 × Mm) =>
    if q193.1 = 0 then
      (sX12_take_324 q193.2)
    else (if (q193.2.1 194 22) ≤ 9999 then
      (ck (inb (q193.2.1 194 20) 800) (sX12_take_237 (sX12_take_188 F) (((10 * (q193.2.1 194 22)) + (q193.2.1 195 (q193.2.1 194 20).toNatClampNeg)) - 48) q193.2))
    else (sX12_take_237 (sX12_take_188 F) (q193.2.1 194 22) q193.2))
def sX12_take_161 (s1 : Int32) (M : Mm) : Option (Mm) :=
  sX12_take_324 (sI M 194 21 s1)
def sX12_take_90 : Nat → Mm → Option (Mm)
  | 0, _ => none
  | F + 1, M => (sX12_isSmall (M.1 194 20) M).bind fun (q95 : Int32 × Mm) =>
    if q95.1 = 0 then
      ((sX12_wordAt (q95.2.1 194 23) (q95.2.1 194 20) q95.2).bind fun (q124 : Int32 × Mm) =>
      sX12_take_161 (if ((sI q124.2 194 22 q124.1).1 194 22) < 0 then (if (((sI q124.2 194 22 q124.1).1 194 20) - ((sI q124.2 194 22 q124.1).1 194 23)) ≤ 8 then 2 else 5) else 1) (sI q124.2 194 22 q124.1))
    else (sX12_take_90 F (sI q95.2 194 20 ((q95.2.1 194 20) + 1)))
def sX12_take_52 (M : Mm) : Option (Mm) :=
  if ((sI M 194 23 (M.1 194 20)).1 194 20) = ((sI M 194 23 (M.1 194 20)).1 194 19) then
    (sX12_take_324 (sI (sI M 194 23 (M.1 194 20)) 194 21 0))
  else ((sX12_isSmall ((sI M 194 23 (M.1 194 20)).1 194 20) (sI M 194 23 (M.1 194 20))).bind fun (q84 : Int32 × Mm) =>
  if q84.1 = 0 then
    ((sX12_isDigit (q84.2.1 194 20) q84.2).bind fun (q172 : Int32 × Mm) =>
    if q172.1 = 0 then
      (ck (inb (q172.2.1 194 20) 800) ((sX12_signOf (q172.2.1 195 (q172.2.1 194 20).toNatClampNeg) (sI q172.2 194 20 ((q172.2.1 194 20) + 1))).bind fun (q276 : Int32 × Mm) =>
      sX12_take_295 (if 0 ≤ ((sI q276.2 194 22 q276.1).1 194 22) then 4 else 5) (sI q276.2 194 22 q276.1)))
    else (sX12_take_188 4096 (sI (sI q172.2 194 21 3) 194 22 0)))
  else (sX12_take_90 4096 q84.2))
def sX12_take_39 (k0 : Mm → Option (Mm)) (M : Mm) : Option (Mm) :=
  k0 (sI M 194 20 ((M.1 194 20) + 1))
def sX12_take_0 : Nat → Mm → Option (Mm)
  | 0, _ => none
  | F + 1, M => if (M.1 194 19) ≤ (M.1 194 20) then
      (sX12_take_52 M)
    else (ck (inb (M.1 194 20) 800) (if (M.1 195 (M.1 194 20).toNatClampNeg) = 10 then
      (sX12_take_39 (sX12_take_0 F) M)
    else (ck (inb (M.1 194 20) 800) (if (M.1 195 (M.1 194 20).toNatClampNeg) = 32 then
      (sX12_take_39 (sX12_take_0 F) M)
    else (sX12_take_52 M)))))
def sX12_take (M : Mm) : Option (Mm) :=
  sX12_take_0 4096 M
def sX12_isSign (x1 : Int32) (M : Mm) : Option (Int32 × Mm) :=
  some ((if (M.1 194 21) = 4 then (if (M.1 194 22) = x1 then 1 else 0) else 0), M)
def sX12_isWord (x1 : Int32) (M : Mm) : Option (Int32 × Mm) :=
  some ((if (M.1 194 21) = 1 then (if (M.1 194 22) = x1 then 1 else 0) else 0), M)
def sX12_number (x1 : Int32) (M : Mm) : Option (Int32 × Mm) :=
  if (M.1 194 21) = 3 then
    (if (M.1 194 22) ≤ x1 then
      ((sX12_take (sI M 194 25 (M.1 194 22))).bind fun (M37 : Mm) =>
      some (1, M37))
    else ((sX12_wrong 2 M).bind fun (q24 : Int32 × Mm) =>
    ck (isb q24.1) (some (q24.1, q24.2))))
  else ((sX12_wrong 1 M).bind fun (q10 : Int32 × Mm) =>
  ck (isb q10.1) (some (q10.1, q10.2)))
def sX12_begins (x1 : Int32) (M : Mm) : Option (Mm) :=
  (sX12_take (sI (sI (sI (sI (sI M 194 19 x1) 194 1 0) 194 17 0) 194 18 (-1)) 194 20 0)).bind fun (M26 : Mm) =>
  some M26
def sX12_layerRead_202 (M : Mm) : Option (Int32 × Mm) :=
  (sX12_wrong 1 M).bind fun (q204 : Int32 × Mm) =>
  ck (isb q204.1) (some (q204.1, q204.2))
def sX12_layerRead_250 (M : Mm) : Option (Int32 × Mm) :=
  (sX12_wrong 1 M).bind fun (q252 : Int32 × Mm) =>
  ck (isb q252.1) (some (q252.1, q252.2))
def sX12_layerRead_355 (M : Mm) : Option (Int32 × Mm) :=
  ck (inb (M.1 194 26) 60) (ck (inb (M.1 194 26) 60) (some (1, (sI M 205 (M.1 194 26).toNatClampNeg ((M.1 205 (M.1 194 26).toNatClampNeg) + 1)))))
def sX12_layerRead_310 (x2 : Int32) (M : Mm) : Option (Int32 × Mm) :=
  ck (inb (x2 + 5) 2880) ((sX12_isWord 12 (sI M 206 (x2 + 5).toNatClampNeg 0)).bind fun (q322 : Int32 × Mm) =>
  if q322.1 = 0 then
    (sX12_layerRead_355 q322.2)
  else ((sX12_take q322.2).bind fun (M329 : Mm) =>
  (sX12_number 99 M329).bind fun (q335 : Int32 × Mm) =>
  if q335.1 = 0 then
    (some (0, q335.2))
  else (ck (inb (x2 + 5) 2880) (sX12_layerRead_355 (sI q335.2 206 (x2 + 5).toNatClampNeg (q335.2.1 194 25))))))
def sX12_layerRead_296 (x2 : Int32) (s1 : Int32) (s2 : Int32) (M : Mm) : Option (Int32 × Mm) :=
  ck (inb s1 2880) ((sX12_isWord 11 (sI M 206 s1.toNatClampNeg s2)).bind fun (q300 : Int32 × Mm) =>
  if q300.1 = 0 then
    (sX12_layerRead_310 x2 q300.2)
  else ((sX12_take q300.2).bind fun (M307 : Mm) =>
  sX12_layerRead_310 x2 M307))
def sX12_layerRead_28 (x1 : Int32) (M : Mm) : Option (Int32 × Mm) :=
  ck (inb (M.1 194 26) 60) (if (M.1 194 21) = 3 then
    (if (M.1 194 22) ≤ 300 then
      (if (M.1 194 22) = x1 then
        (ck (inb ((48 * (M.1 194 26)) + (6 * (M.1 205 (M.1 194 26).toNatClampNeg))) 2880) ((sX12_take (sI M 206 ((48 * (M.1 194 26)) + (6 * (M.1 205 (M.1 194 26).toNatClampNeg))).toNatClampNeg (M.1 194 22))).bind fun (M104 : Mm) =>
        (sX12_isSign 45 M104).bind fun (q110 : Int32 × Mm) =>
        if q110.1 = 0 then
          ((sX12_wrong 1 q110.2).bind fun (q118 : Int32 × Mm) =>
          ck (isb q118.1) (some (q118.1, q118.2)))
        else ((sX12_take q110.2).bind fun (M123 : Mm) =>
        if (M123.1 194 21) = 3 then
          (if (M123.1 194 22) ≤ 300 then
            (if x1 < (M123.1 194 22) then
              (ck (inb (((48 * (M.1 194 26)) + (6 * (M.1 205 (M.1 194 26).toNatClampNeg))) + 1) 2880) ((sX12_take (sI M123 206 (((48 * (M.1 194 26)) + (6 * (M.1 205 (M.1 194 26).toNatClampNeg))) + 1).toNatClampNeg (M123.1 194 22))).bind fun (M183 : Mm) =>
              if (M183.1 194 21) = 1 then
                (if (M183.1 194 22) ≤ 5 then
                  (ck (inb (((48 * (M.1 194 26)) + (6 * (M.1 205 (M.1 194 26).toNatClampNeg))) + 2) 2880) ((sX12_take (sI M183 206 (((48 * (M.1 194 26)) + (6 * (M.1 205 (M.1 194 26).toNatClampNeg))) + 2).toNatClampNeg (M183.1 194 22))).bind fun (M221 : Mm) =>
                  if (M221.1 194 21) = 1 then
                    (if (M221.1 194 22) < 6 then
                      (sX12_layerRead_250 M221)
                    else (if (M221.1 194 22) ≤ 10 then
                      (ck (inb (((48 * (M.1 194 26)) + (6 * (M.1 205 (M.1 194 26).toNatClampNeg))) + 3) 2880) ((sX12_take (sI M221 206 (((48 * (M.1 194 26)) + (6 * (M.1 205 (M.1 194 26).toNatClampNeg))) + 3).toNatClampNeg ((M221.1 194 22) - 6))).bind fun (M272 : Mm) =>
                      (sX12_isWord 11 M272).bind fun (q285 : Int32 × Mm) =>
                      sX12_layerRead_296 ((48 * (M.1 194 26)) + (6 * (M.1 205 (M.1 194 26).toNatClampNeg))) (((48 * (M.1 194 26)) + (6 * (M.1 205 (M.1 194 26).toNatClampNeg))) + 4) (if q285.1 = 0 then 0 else 1) q285.2))
                    else (sX12_layerRead_250 M221)))
                  else (sX12_layerRead_250 M221)))
                else (sX12_layerRead_202 M183))
              else (sX12_layerRead_202 M183)))
            else ((sX12_wrong 3 M123).bind fun (q166 : Int32 × Mm) =>
            ck (isb q166.1) (some (q166.1, q166.2))))
          else ((sX12_wrong 2 M123).bind fun (q152 : Int32 × Mm) =>
          ck (isb q152.1) (some (q152.1, q152.2))))
        else ((sX12_wrong 1 M123).bind fun (q136 : Int32 × Mm) =>
        ck (isb q136.1) (some (q136.1, q136.2))))))
      else ((sX12_wrong 3 M).bind fun (q89 : Int32 × Mm) =>
      ck (isb q89.1) (some (q89.1, q89.2))))
    else ((sX12_wrong 2 M).bind fun (q75 : Int32 × Mm) =>
    ck (isb q75.1) (some (q75.1, q75.2))))
  else ((sX12_wrong 1 M).bind fun (q59 : Int32 × Mm) =>
  ck (isb q59.1) (some (q59.1, q59.2))))
def sX12_layerRead (x1 : Int32) (M : Mm) : Option (Int32 × Mm) :=
  if (M.1 194 21) = 3 then
    (ck (inb (M.1 194 26) 60) (if (M.1 205 (M.1 194 26).toNatClampNeg) = 8 then
      ((sX12_wrong 2 M).bind fun (q24 : Int32 × Mm) =>
      ck (isb q24.1) (some (q24.1, q24.2)))
    else (sX12_layerRead_28 x1 M)))
  else (sX12_layerRead_28 x1 M)
def sX12_boreRead_12 : Nat → Int32 → Mm → Option (Int32 × Mm)
  | 0, _, _ => none
  | F + 1, x1, M => (sX12_layerRead x1 M).bind fun (q14 : Int32 × Mm) =>
    if q14.1 = 0 then
      (some (0, q14.2))
    else (ck (inb (q14.2.1 194 26) 60) (ck (inb (((48 * (q14.2.1 194 26)) + (6 * (q14.2.1 205 (q14.2.1 194 26).toNatClampNeg))) - 5) 2880) (if (q14.2.1 194 21) = 0 then
      (some (1, q14.2))
    else ((sX12_isSign 59 q14.2).bind fun (q62 : Int32 × Mm) =>
    if q62.1 = 0 then
      ((sX12_wrong 1 q62.2).bind fun (q70 : Int32 × Mm) =>
      ck (isb q70.1) (some (q70.1, q70.2)))
    else ((sX12_take q62.2).bind fun (M75 : Mm) =>
    if (M75.1 194 21) = 0 then
      (some (1, M75))
    else (sX12_boreRead_12 F (q14.2.1 206 (((48 * (q14.2.1 194 26)) + (6 * (q14.2.1 205 (q14.2.1 194 26).toNatClampNeg))) - 5).toNatClampNeg) M75))))))
def sX12_boreRead (M : Mm) : Option (Int32 × Mm) :=
  ck (inb (M.1 194 26) 60) (sX12_boreRead_12 4096 0 (sI M 205 (M.1 194 26).toNatClampNeg 0))
def sX12_bore (x1 : Int32) (x2 : Int32) (x3 : Int32) (M : Mm) : Option (Int32 × Mm) :=
  if x1 < 0 then
    (some ((-2), (sI M 194 2 0)))
  else (if ((sI M 194 2 0).1 194 1) < x1 then
    (some ((-2), (sI M 194 2 0)))
  else (if x2 < 0 then
    (some ((-2), (sI M 194 2 0)))
  else (if 2 < x2 then
    (some ((-2), (sI M 194 2 0)))
  else ((sX12_isCell x3 (sI M 194 2 0)).bind fun (q28 : Int32 × Mm) =>
  if q28.1 = 0 then
    (some ((-2), q28.2))
  else (if (q28.2.1 194 26) = 60 then
    (some ((-2), q28.2))
  else ((sX12_begins x1 q28.2).bind fun (M48 : Mm) =>
  (sX12_boreRead M48).bind fun (q52 : Int32 × Mm) =>
  if q52.1 = 0 then
    (some ((-1), q52.2))
  else (ck (inb (q52.2.1 194 26) 60) (ck (inb ((sI q52.2 202 (q52.2.1 194 26).toNatClampNeg (-1)).1 194 26) 60) (ck (inb ((sI (sI q52.2 202 (q52.2.1 194 26).toNatClampNeg (-1)) 203 ((sI q52.2 202 (q52.2.1 194 26).toNatClampNeg (-1)).1 194 26).toNatClampNeg x2).1 194 26) 60) (some ((((sI (sI (sI (sI q52.2 202 (q52.2.1 194 26).toNatClampNeg (-1)) 203 ((sI q52.2 202 (q52.2.1 194 26).toNatClampNeg (-1)).1 194 26).toNatClampNeg x2) 204 ((sI (sI q52.2 202 (q52.2.1 194 26).toNatClampNeg (-1)) 203 ((sI q52.2 202 (q52.2.1 194 26).toNatClampNeg (-1)).1 194 26).toNatClampNeg x2).1 194 26).toNatClampNeg x3) 194 26 (((sI (sI (sI q52.2 202 (q52.2.1 194 26).toNatClampNeg (-1)) 203 ((sI q52.2 202 (q52.2.1 194 26).toNatClampNeg (-1)).1 194 26).toNatClampNeg x2) 204 ((sI (sI q52.2 202 (q52.2.1 194 26).toNatClampNeg (-1)) 203 ((sI q52.2 202 (q52.2.1 194 26).toNatClampNeg (-1)).1 194 26).toNatClampNeg x2).1 194 26).toNatClampNeg x3).1 194 26) + 1)).1 194 26) - 1), (sI (sI (sI (sI q52.2 202 (q52.2.1 194 26).toNatClampNeg (-1)) 203 ((sI q52.2 202 (q52.2.1 194 26).toNatClampNeg (-1)).1 194 26).toNatClampNeg x2) 204 ((sI (sI q52.2 202 (q52.2.1 194 26).toNatClampNeg (-1)) 203 ((sI q52.2 202 (q52.2.1 194 26).toNatClampNeg (-1)).1 194 26).toNatClampNeg x2).1 194 26).toNatClampNeg x3) 194 26 (((sI (sI (sI q52.2 202 (q52.2.1 194 26).toNatClampNeg (-1)) 203 ((sI q52.2 202 (q52.2.1 194 26).toNatClampNeg (-1)).1 194 26).toNatClampNeg x2) 204 ((sI (sI q52.2 202 (q52.2.1 194 26).toNatClampNeg (-1)) 203 ((sI q52.2 202 (q52.2.1 194 26).toNatClampNeg (-1)).1 194 26).toNatClampNeg x2).1 194 26).toNatClampNeg x3).1 194 26) + 1)))))))))))))
def sX12_fault (x1 : Int32) (M : Mm) : Option (Int32 × Mm) :=
  some ((if x1 = 0 then ((sI M 194 2 0).1 194 17) else (if x1 = 1 then ((sI M 194 2 0).1 194 18) else (-1))), (sI M 194 2 0))
def sX12_strike (x1 : Int32) (M : Mm) : Option (Int32 × Mm) :=
  if x1 < 0 then
    (some ((-1), (sI M 194 2 0)))
  else (if ((sI M 194 2 0).1 194 26) ≤ x1 then
    (some ((-1), (sI M 194 2 0)))
  else (if ((sI M 194 2 0).1 194 26) = 60 then
    (some ((-1), (sI M 194 2 0)))
  else (ck (inb ((sI M 194 2 0).1 194 26) 60) (some ((((sI (sI (sI M 194 2 0) 202 ((sI M 194 2 0).1 194 26).toNatClampNeg x1) 194 26 (((sI (sI M 194 2 0) 202 ((sI M 194 2 0).1 194 26).toNatClampNeg x1).1 194 26) + 1)).1 194 26) - 1), (sI (sI (sI M 194 2 0) 202 ((sI M 194 2 0).1 194 26).toNatClampNeg x1) 194 26 (((sI (sI M 194 2 0) 202 ((sI M 194 2 0).1 194 26).toNatClampNeg x1).1 194 26) + 1)))))))
def sX12_isBore (x1 : Int32) (M : Mm) : Option (Int32 × Mm) :=
  if x1 < 0 then
    (some (0, M))
  else (if (M.1 194 26) ≤ x1 then
    (some (0, M))
  else (ck (inb x1 60) (some ((if 0 ≤ (M.1 202 x1.toNatClampNeg) then 0 else 1), M))))
def sX12_layer (x1 : Int32) (x2 : Int32) (x3 : Int32) (M : Mm) : Option (Int32 × Mm) :=
  (sX12_isBore x1 (sI M 194 2 0)).bind fun (q7 : Int32 × Mm) =>
  if q7.1 = 0 then
    (some ((-1), q7.2))
  else (if x2 < 0 then
    (some ((-1), q7.2))
  else (ck (inb x1 60) (if (q7.2.1 205 x1.toNatClampNeg) ≤ x2 then
    (some ((-1), q7.2))
  else (if x3 < 0 then
    (some ((-1), q7.2))
  else (if x3 ≤ 5 then
    (ck (inb (((48 * x1) + (6 * x2)) + x3) 2880) (some ((q7.2.1 206 (((48 * x1) + (6 * x2)) + x3).toNatClampNeg), q7.2)))
  else (some ((-1), q7.2)))))))
def sX12_grown (x1 : Int32) (M : Mm) : Option (Int32 × Mm) :=
  if (M.1 194 38) = 96 then
    ((sX12_wrong 2 M).bind fun (q11 : Int32 × Mm) =>
    some ((-1), q11.2))
  else (ck (inb (96 + (M.1 194 38)) 192) (ck (inb (96 + (M.1 194 38)) 192) (ck (inb (96 + (M.1 194 38)) 192) (ck (inb (96 + (M.1 194 38)) 192) (ck (inb (96 + (M.1 194 38)) 192) (some ((96 + (M.1 194 38)), (sI (sI (sI (sI (sI (sI M 194 38 ((M.1 194 38) + 1)) 213 (96 + (M.1 194 38)).toNatClampNeg x1) 214 (96 + (M.1 194 38)).toNatClampNeg 0) 215 (96 + (M.1 194 38)).toNatClampNeg 0) 216 (96 + (M.1 194 38)).toNatClampNeg (-1)) 217 (96 + (M.1 194 38)).toNatClampNeg (-1)))))))))
def sX12_hold (x1 : Int32) (M : Mm) : Option (Mm) :=
  ck (inb (M.1 194 55) 120) (some (sI (sI M 221 (M.1 194 55).toNatClampNeg x1) 194 55 (((sI M 221 (M.1 194 55).toNatClampNeg x1).1 194 55) + 1)))
def sX12_drop (M : Mm) : Option (Int32 × Mm) :=
  ck (inb ((sI M 194 55 ((M.1 194 55) - 1)).1 194 55) 120) (some (((sI M 194 55 ((M.1 194 55) - 1)).1 221 ((sI M 194 55 ((M.1 194 55) - 1)).1 194 55).toNatClampNeg), (sI M 194 55 ((M.1 194 55) - 1))))
def sX12_done (x1 : Int32) (M : Mm) : Option (Mm) :=
  ck (inb (96 + (M.1 194 50)) 192) ((sX12_hold x1 (sI (sI M 218 (96 + (M.1 194 50)).toNatClampNeg x1) 194 50 (((sI M 218 (96 + (M.1 194 50)).toNatClampNeg x1).1 194 50) + 1))).bind fun (M25 : Mm) =>
  some M25)
def sX12_weight (x0 : Int32) (M : Mm) : Option (Int32 × Mm) :=
  some ((if x0 = 15 then 3 else (if x0 = 14 then 2 else (if x0 = 13 then 1 else 0))), M)
def sX12_bind_69 (k0 : Int32 → Mm → Option (Mm)) (x1 : Int32) (x2 : Int32) (M : Mm) : Option (Mm) :=
  (sX12_drop M).bind fun (q75 : Int32 × Mm) =>
  ck (inb x2 192) ((sX12_done x2 (sI q75.2 216 x2.toNatClampNeg q75.1)).bind fun (M81 : Mm) =>
  k0 x1 M81)
def sX12_bind_0 : Nat → Int32 → Mm → Option (Mm)
  | 0, _, _ => none
  | F + 1, x1, M => if (M.1 194 53) ≤ 0 then
      (some M)
    else (ck (inb ((M.1 194 53) - 1) 120) ((sX12_weight (M.1 219 ((M.1 194 53) - 1).toNatClampNeg) M).bind fun (q18 : Int32 × Mm) =>
    if q18.1 < x1 then
      (some q18.2)
    else (ck (inb ((sI q18.2 194 53 ((q18.2.1 194 53) - 1)).1 194 53) 120) (ck (inb ((sI q18.2 194 53 ((q18.2.1 194 53) - 1)).1 194 53) 120) (if ((sI q18.2 194 53 ((q18.2.1 194 53) - 1)).1 219 ((sI q18.2 194 53 ((q18.2.1 194 53) - 1)).1 194 53).toNatClampNeg) = 15 then
      (sX12_bind_69 (sX12_bind_0 F) x1 ((sI q18.2 194 53 ((q18.2.1 194 53) - 1)).1 220 ((sI q18.2 194 53 ((q18.2.1 194 53) - 1)).1 194 53).toNatClampNeg) (sI q18.2 194 53 ((q18.2.1 194 53) - 1)))
    else ((sX12_drop (sI q18.2 194 53 ((q18.2.1 194 53) - 1))).bind fun (q65 : Int32 × Mm) =>
    ck (inb ((sI q18.2 194 53 ((q18.2.1 194 53) - 1)).1 220 ((sI q18.2 194 53 ((q18.2.1 194 53) - 1)).1 194 53).toNatClampNeg) 192) (sX12_bind_69 (sX12_bind_0 F) x1 ((sI q18.2 194 53 ((q18.2.1 194 53) - 1)).1 220 ((sI q18.2 194 53 ((q18.2.1 194 53) - 1)).1 194 53).toNatClampNeg) (sI q65.2 217 ((sI q18.2 194 53 ((q18.2.1 194 53) - 1)).1 220 ((sI q18.2 194 53 ((q18.2.1 194 53) - 1)).1 194 53).toNatClampNeg).toNatClampNeg q65.1))))))))
def sX12_bind (x1 : Int32) (M : Mm) : Option (Mm) :=
  sX12_bind_0 4096 x1 M
def sX12_waitFor (x1 : Int32) (x2 : Int32) (M : Mm) : Option (Mm) :=
  ck (inb (M.1 194 53) 120) (ck (inb ((sI M 219 (M.1 194 53).toNatClampNeg x1).1 194 53) 120) (some (sI (sI (sI M 219 (M.1 194 53).toNatClampNeg x1) 220 ((sI M 219 (M.1 194 53).toNatClampNeg x1).1 194 53).toNatClampNeg x2) 194 53 (((sI (sI M 219 (M.1 194 53).toNatClampNeg x1) 220 ((sI M 219 (M.1 194 53).toNatClampNeg x1).1 194 53).toNatClampNeg x2).1 194 53) + 1))))
def sX12_opens (x1 : Int32) (x2 : Int32) (M : Mm) : Option (Int32 × Mm) :=
  if (M.1 194 56) = 8 then
    ((sX12_wrong 2 M).bind fun (q11 : Int32 × Mm) =>
    ck (isb q11.1) (some (q11.1, q11.2)))
  else ((sX12_waitFor x1 x2 (sI M 194 56 ((M.1 194 56) + 1))).bind fun (M28 : Mm) =>
  (sX12_take M28).bind fun (M32 : Mm) =>
  some (1, M32))
def sX12_compares_16 (M : Mm) : Option (Int32 × Mm) :=
  (sX12_wrong 1 M).bind fun (q18 : Int32 × Mm) =>
  ck (isb q18.1) (some (q18.1, q18.2))
def sX12_compares (x1 : Int32) (M : Mm) : Option (Int32 × Mm) :=
  if (M.1 194 21) = 4 then
    (if (M.1 194 22) ≤ 5 then
      (ck (inb x1 192) ((sX12_take (sI M 214 x1.toNatClampNeg (M.1 194 22))).bind fun (M33 : Mm) =>
      (sX12_number 999 M33).bind fun (q40 : Int32 × Mm) =>
      if q40.1 = 0 then
        (some (0, q40.2))
      else (ck (inb x1 192) (some (1, (sI q40.2 215 x1.toNatClampNeg (q40.2.1 194 25)))))))
    else (sX12_compares_16 M))
  else (sX12_compares_16 M)
def sX12_valueRead_80 (M : Mm) : Option (Int32 × Mm) :=
  (sX12_wrong 1 M).bind fun (q82 : Int32 × Mm) =>
  ck (isb q82.1) (some (q82.1, q82.2))
def sX12_valueRead_210 (x3 : Int32) (s1 : Int32) (M : Mm) : Option (Int32 × Mm) :=
  (sX12_opens s1 x3 M).bind fun (q211 : Int32 × Mm) =>
  if q211.1 = 0 then
    (some (0, q211.2))
  else (some (1, (sI q211.2 194 57 1)))
def sX12_valueRead_203 (x3 : Int32) (M : Mm) : Option (Int32 × Mm) :=
  sX12_valueRead_210 x3 102 M
def sX12_valueRead_175 (x1 : Int32) (x3 : Int32) (M : Mm) : Option (Int32 × Mm) :=
  (sX12_isSign 40 M).bind fun (q178 : Int32 × Mm) =>
  if q178.1 = 0 then
    ((sX12_wrong 1 q178.2).bind fun (q186 : Int32 × Mm) =>
    ck (isb q186.1) (some (q186.1, q186.2)))
  else (if x1 = 20 then
    (sX12_valueRead_203 x3 q178.2)
  else (if x1 = 21 then
    (sX12_valueRead_203 x3 q178.2)
  else (sX12_valueRead_210 x3 101 q178.2)))
def sX12_valueRead_254 (x3 : Int32) (M : Mm) : Option (Int32 × Mm) :=
  (sX12_done x3 M).bind fun (M256 : Mm) =>
  some (1, (sI M256 194 58 0))
def sX12_valueRead_244 (x3 : Int32) (M : Mm) : Option (Int32 × Mm) :=
  (sX12_compares x3 M).bind fun (q246 : Int32 × Mm) =>
  if q246.1 = 0 then
    (some (0, q246.2))
  else (sX12_valueRead_254 x3 q246.2)
def sX12_valueRead_145 (x1 : Int32) (x3 : Int32) (M : Mm) : Option (Int32 × Mm) :=
  if x1 = 17 then
    (sX12_valueRead_175 x1 x3 M)
  else (if x1 = 18 then
    (sX12_valueRead_175 x1 x3 M)
  else (if x1 = 19 then
    (sX12_valueRead_175 x1 x3 M)
  else (if x1 = 20 then
    (sX12_valueRead_175 x1 x3 M)
  else (if x1 = 21 then
    (sX12_valueRead_175 x1 x3 M)
  else (if x1 = 22 then
    (sX12_valueRead_244 x3 M)
  else (if x1 = 12 then
    (sX12_valueRead_244 x3 M)
  else (if x1 = 23 then
    (sX12_valueRead_244 x3 M)
  else (sX12_valueRead_254 x3 M))))))))
def sX12_valueRead_86 (x1 : Int32) (M : Mm) : Option (Int32 × Mm) :=
  (sX12_grown x1 M).bind fun (q88 : Int32 × Mm) =>
  if 0 ≤ q88.1 then
    ((sX12_take q88.2).bind fun (M99 : Mm) =>
    if x1 = 15 then
      ((sX12_waitFor 15 q88.1 M99).bind fun (M112 : Mm) =>
      some (1, M112))
    else (if x1 = 19 then
      ((sX12_number 999 M99).bind fun (q127 : Int32 × Mm) =>
      if q127.1 = 0 then
        (some (0, q127.2))
      else (ck (inb q88.1 192) (sX12_valueRead_145 x1 q88.1 (sI q127.2 215 q88.1.toNatClampNeg (q127.2.1 194 25)))))
    else (sX12_valueRead_145 x1 q88.1 M99)))
  else (some (0, q88.2))
def sX12_valueRead_53 (x1 : Int32) (s0 : Int32) (M : Mm) : Option (Int32 × Mm) :=
  if x1 = 13 then
    (sX12_valueRead_80 M)
  else (if x1 = 14 then
    (sX12_valueRead_80 M)
  else (if x1 = 15 then
    (sX12_valueRead_86 x1 M)
  else (if s0 = (M.1 194 57) then
    (sX12_valueRead_86 x1 M)
  else (sX12_valueRead_80 M))))
def sX12_valueRead_48 (x1 : Int32) (M : Mm) : Option (Int32 × Mm) :=
  sX12_valueRead_53 x1 1 M
def sX12_valueRead (M : Mm) : Option (Int32 × Mm) :=
  (sX12_isSign 40 M).bind fun (q3 : Int32 × Mm) =>
  if q3.1 = 0 then
    (if (q3.2.1 194 21) = 1 then
      (if (q3.2.1 194 22) ≤ 12 then
        (sX12_valueRead_48 (q3.2.1 194 22) q3.2)
      else (if (q3.2.1 194 22) = 23 then
        (sX12_valueRead_48 (q3.2.1 194 22) q3.2)
      else (sX12_valueRead_53 (q3.2.1 194 22) 0 q3.2)))
    else ((sX12_wrong 1 q3.2).bind fun (q27 : Int32 × Mm) =>
    ck (isb q27.1) (some (q27.1, q27.2))))
  else ((sX12_opens 100 (-1) q3.2).bind fun (q13 : Int32 × Mm) =>
  ck (isb q13.1) (some (q13.1, q13.2)))
def sX12_closes_88 (x2 : Int32) (M : Mm) : Option (Int32 × Mm) :=
  (sX12_done x2 M).bind fun (M90 : Mm) =>
  some (1, M90)
def sX12_closes (M : Mm) : Option (Int32 × Mm) :=
  (sX12_bind 1 M).bind fun (M2 : Mm) =>
  ck (inb ((sI (sI M2 194 53 ((M2.1 194 53) - 1)) 194 56 (((sI M2 194 53 ((M2.1 194 53) - 1)).1 194 56) - 1)).1 194 53) 120) (ck (inb ((sI (sI M2 194 53 ((M2.1 194 53) - 1)) 194 56 (((sI M2 194 53 ((M2.1 194 53) - 1)).1 194 56) - 1)).1 194 53) 120) ((sX12_take (sI (sI M2 194 53 ((M2.1 194 53) - 1)) 194 56 (((sI M2 194 53 ((M2.1 194 53) - 1)).1 194 56) - 1))).bind fun (M46 : Mm) =>
  if ((sI (sI M2 194 53 ((M2.1 194 53) - 1)) 194 56 (((sI M2 194 53 ((M2.1 194 53) - 1)).1 194 56) - 1)).1 219 ((sI (sI M2 194 53 ((M2.1 194 53) - 1)) 194 56 (((sI M2 194 53 ((M2.1 194 53) - 1)).1 194 56) - 1)).1 194 53).toNatClampNeg) = 100 then
    (some (1, M46))
  else ((sX12_drop M46).bind fun (q63 : Int32 × Mm) =>
  ck (inb ((sI (sI M2 194 53 ((M2.1 194 53) - 1)) 194 56 (((sI M2 194 53 ((M2.1 194 53) - 1)).1 194 56) - 1)).1 220 ((sI (sI M2 194 53 ((M2.1 194 53) - 1)) 194 56 (((sI M2 194 53 ((M2.1 194 53) - 1)).1 194 56) - 1)).1 194 53).toNatClampNeg) 192) (if ((sI (sI M2 194 53 ((M2.1 194 53) - 1)) 194 56 (((sI M2 194 53 ((M2.1 194 53) - 1)).1 194 56) - 1)).1 219 ((sI (sI M2 194 53 ((M2.1 194 53) - 1)) 194 56 (((sI M2 194 53 ((M2.1 194 53) - 1)).1 194 56) - 1)).1 194 53).toNatClampNeg) = 102 then
    ((sX12_compares ((sI (sI M2 194 53 ((M2.1 194 53) - 1)) 194 56 (((sI M2 194 53 ((M2.1 194 53) - 1)).1 194 56) - 1)).1 220 ((sI (sI M2 194 53 ((M2.1 194 53) - 1)) 194 56 (((sI M2 194 53 ((M2.1 194 53) - 1)).1 194 56) - 1)).1 194 53).toNatClampNeg) (sI (sI q63.2 216 ((sI (sI M2 194 53 ((M2.1 194 53) - 1)) 194 56 (((sI M2 194 53 ((M2.1 194 53) - 1)).1 194 56) - 1)).1 220 ((sI (sI M2 194 53 ((M2.1 194 53) - 1)) 194 56 (((sI M2 194 53 ((M2.1 194 53) - 1)).1 194 56) - 1)).1 194 53).toNatClampNeg).toNatClampNeg q63.1) 194 57 0)).bind fun (q80 : Int32 × Mm) =>
    if q80.1 = 0 then
      (some (0, q80.2))
    else (sX12_closes_88 ((sI (sI M2 194 53 ((M2.1 194 53) - 1)) 194 56 (((sI M2 194 53 ((M2.1 194 53) - 1)).1 194 56) - 1)).1 220 ((sI (sI M2 194 53 ((M2.1 194 53) - 1)) 194 56 (((sI M2 194 53 ((M2.1 194 53) - 1)).1 194 56) - 1)).1 194 53).toNatClampNeg) q80.2))
  else (sX12_closes_88 ((sI (sI M2 194 53 ((M2.1 194 53) - 1)) 194 56 (((sI M2 194 53 ((M2.1 194 53) - 1)).1 194 56) - 1)).1 220 ((sI (sI M2 194 53 ((M2.1 194 53) - 1)) 194 56 (((sI M2 194 53 ((M2.1 194 53) - 1)).1 194 56) - 1)).1 194 53).toNatClampNeg) (sI (sI q63.2 216 ((sI (sI M2 194 53 ((M2.1 194 53) - 1)) 194 56 (((sI M2 194 53 ((M2.1 194 53) - 1)).1 194 56) - 1)).1 220 ((sI (sI M2 194 53 ((M2.1 194 53) - 1)) 194 56 (((sI M2 194 53 ((M2.1 194 53) - 1)).1 194 56) - 1)).1 194 53).toNatClampNeg).toNatClampNeg q63.1) 194 57 0))))))
def sX12_joins (x1 : Int32) (M : Mm) : Option (Int32 × Mm) :=
  (sX12_grown x1 M).bind fun (q2 : Int32 × Mm) =>
  if 0 ≤ q2.1 then
    ((sX12_weight x1 q2.2).bind fun (q14 : Int32 × Mm) =>
    (sX12_bind q14.1 q14.2).bind fun (M17 : Mm) =>
    (sX12_waitFor x1 q2.1 M17).bind fun (M23 : Mm) =>
    (sX12_take (sI M23 194 58 1)).bind fun (M32 : Mm) =>
    some (1, M32))
  else (some (0, q2.2))
def sX12_expression_111 (k25 : Mm → Option (Int32 × Mm)) (x1 : Int32) (M : Mm) : Option (Int32 × Mm) :=
  if x1 = 0 then
    (some (0, M))
  else (k25 M)
def sX12_expression_60 (k25 : Mm → Option (Int32 × Mm)) (M : Mm) : Option (Int32 × Mm) :=
  (sX12_joins (M.1 194 22) M).bind fun (q65 : Int32 × Mm) =>
  sX12_expression_111 k25 q65.1 q65.2
def sX12_expression_100 (k25 : Mm → Option (Int32 × Mm)) (s0 : Int32) (M : Mm) : Option (Int32 × Mm) :=
  sX12_expression_111 k25 s0 M
def sX12_expression_25 : Nat → Mm → Option (Int32 × Mm)
  | 0, _ => none
  | F + 1, M => if (M.1 194 58) = 0 then
      ((sX12_isWord 13 M).bind fun (q45 : Int32 × Mm) =>
      if q45.1 = 0 then
        ((sX12_isWord 14 q45.2).bind fun (q54 : Int32 × Mm) =>
        if q54.1 = 0 then
          (if (q54.2.1 194 56) ≤ 0 then
            ((sX12_bind 1 q54.2).bind fun (M106 : Mm) =>
            some (1, M106))
          else ((sX12_isSign 41 q54.2).bind fun (q82 : Int32 × Mm) =>
          if q82.1 = 0 then
            ((sX12_wrong 1 q82.2).bind fun (q97 : Int32 × Mm) =>
            sX12_expression_100 (sX12_expression_25 F) q97.1 q97.2)
          else ((sX12_closes q82.2).bind fun (q89 : Int32 × Mm) =>
          sX12_expression_100 (sX12_expression_25 F) q89.1 q89.2)))
        else (sX12_expression_60 (sX12_expression_25 F) q54.2))
      else (sX12_expression_60 (sX12_expression_25 F) q45.2))
    else ((sX12_valueRead M).bind fun (q35 : Int32 × Mm) =>
    sX12_expression_111 (sX12_expression_25 F) q35.1 q35.2)
def sX12_expression (M : Mm) : Option (Int32 × Mm) :=
  sX12_expression_25 4096 (sI (sI (sI (sI (sI M 194 53 0) 194 55 0) 194 56 0) 194 57 0) 194 58 1)
def sX12_kindAt_142 : Nat → Int32 → Mm → Option (Int32 × Mm)
  | 0, _, _ => none
  | F + 1, x1, M => if ((M.1 194 24) - (M.1 194 23)) ≤ x1 then
      (some ((((sI M 194 36 ((M.1 194 36) + 1)).1 194 36) - 1), (sI M 194 36 ((M.1 194 36) + 1))))
    else (ck (inb ((M.1 194 23) + x1) 800) (ck (inb ((64 + (8 * (M.1 194 36))) + x1) 128) (sX12_kindAt_142 F (x1 + 1) (sI M 208 ((64 + (8 * (M.1 194 36))) + x1).toNatClampNeg (M.1 195 ((M.1 194 23) + x1).toNatClampNeg)))))
def sX12_kindAt_96 (k2 : Int32 → Mm → Option (Int32 × Mm)) (x1 : Int32) (x2 : Int32) (M : Mm) : Option (Int32 × Mm) :=
  if x2 = 0 then
    (k2 (x1 + 1) M)
  else (some (x1, M))
def sX12_kindAt_89 (k2 : Int32 → Mm → Option (Int32 × Mm)) (k39 : Int32 → Int32 → Int32 → Mm → Option (Int32 × Mm)) (x1 : Int32) (x3 : Int32) (s0 : Int32) (M : Mm) : Option (Int32 × Mm) :=
  k39 x1 s0 (x3 + 1) M
def sX12_kindAt_39 (k2 : Int32 → Mm → Option (Int32 × Mm)) : Nat → Int32 → Int32 → Int32 → Mm → Option (Int32 × Mm)
  | 0, _, _, _, _ => none
  | F + 1, x1, x2, x3, M => ck (inb (8 + x1) 16) (if (M.1 209 (8 + x1).toNatClampNeg) ≤ x3 then
      (sX12_kindAt_96 k2 x1 x2 M)
    else (if x2 = 0 then
      (sX12_kindAt_96 k2 x1 x2 M)
    else (ck (inb ((64 + (8 * x1)) + x3) 128) (ck (inb ((M.1 194 23) + x3) 800) (sX12_kindAt_89 k2 (sX12_kindAt_39 k2 F) x1 x3 (if (M.1 208 ((64 + (8 * x1)) + x3).toNatClampNeg) = (M.1 195 ((M.1 194 23) + x3).toNatClampNeg) then 1 else 0) M)))))
def sX12_kindAt_36 (k2 : Int32 → Mm → Option (Int32 × Mm)) (x1 : Int32) (s0 : Int32) (M : Mm) : Option (Int32 × Mm) :=
  sX12_kindAt_39 k2 4096 x1 s0 0 M
def sX12_kindAt_2 : Nat → Int32 → Mm → Option (Int32 × Mm)
  | 0, _, _ => none
  | F + 1, x1, M => if (M.1 194 36) ≤ x1 then
      (if (M.1 194 36) = 8 then
        (some ((-1), M))
      else (ck (inb (8 + (M.1 194 36)) 16) (sX12_kindAt_142 4096 0 (sI M 209 (8 + (M.1 194 36)).toNatClampNeg ((M.1 194 24) - (M.1 194 23))))))
    else (ck (inb (8 + x1) 16) (sX12_kindAt_36 (sX12_kindAt_2 F) x1 (if (M.1 209 (8 + x1).toNatClampNeg) = ((M.1 194 24) - (M.1 194 23)) then 1 else 0) M))
def sX12_kindAt (M : Mm) : Option (Int32 × Mm) :=
  sX12_kindAt_2 4096 0 M
def sX12_lineRead (M : Mm) : Option (Int32 × Mm) :=
  if (M.1 194 21) = 2 then
    (if (M.1 194 37) = 16 then
      ((sX12_wrong 2 M).bind fun (q25 : Int32 × Mm) =>
      ck (isb q25.1) (some (q25.1, q25.2)))
    else ((sX12_kindAt M).bind fun (q30 : Int32 × Mm) =>
    if 0 ≤ q30.1 then
      (ck (inb (16 + (q30.2.1 194 37)) 32) (ck (inb (16 + (q30.2.1 194 37)) 32) ((sX12_take (sI (sI q30.2 210 (16 + (q30.2.1 194 37)).toNatClampNeg q30.1) 211 (16 + (q30.2.1 194 37)).toNatClampNeg ((sI q30.2 210 (16 + (q30.2.1 194 37)).toNatClampNeg q30.1).1 194 50))).bind fun (M70 : Mm) =>
      (sX12_isSign 58 M70).bind fun (q76 : Int32 × Mm) =>
      if q76.1 = 0 then
        ((sX12_wrong 1 q76.2).bind fun (q84 : Int32 × Mm) =>
        ck (isb q84.1) (some (q84.1, q84.2)))
      else ((sX12_take q76.2).bind fun (M89 : Mm) =>
      (sX12_expression M89).bind fun (q93 : Int32 × Mm) =>
      if q93.1 = 0 then
        (some (0, q93.2))
      else ((sX12_isSign 59 q93.2).bind fun (q104 : Int32 × Mm) =>
      if q104.1 = 0 then
        ((sX12_wrong 1 q104.2).bind fun (q112 : Int32 × Mm) =>
        ck (isb q112.1) (some (q112.1, q112.2)))
      else ((sX12_take q104.2).bind fun (M117 : Mm) =>
      ck (inb (16 + (q30.2.1 194 37)) 32) (ck (inb (16 + (q30.2.1 194 37)) 32) (some (1, (sI (sI M117 212 (16 + (q30.2.1 194 37)).toNatClampNeg ((M117.1 194 50) - (M117.1 211 (16 + (q30.2.1 194 37)).toNatClampNeg))) 194 37 (((sI M117 212 (16 + (q30.2.1 194 37)).toNatClampNeg ((M117.1 194 50) - (M117.1 211 (16 + (q30.2.1 194 37)).toNatClampNeg))).1 194 37) + 1)))))))))))
    else ((sX12_wrong 2 q30.2).bind fun (q40 : Int32 × Mm) =>
    ck (isb q40.1) (some (q40.1, q40.2)))))
  else ((sX12_wrong 1 M).bind fun (q10 : Int32 × Mm) =>
  ck (isb q10.1) (some (q10.1, q10.2)))
def sX12_key_335 : Nat → Int32 → Mm → Option (Int32 × Mm)
  | 0, _, _ => none
  | F + 1, x2, M => if 8 ≤ x2 then
      (some ((M.1 194 34), M))
    else (ck (inb x2 8) (sX12_key_335 F (x2 + 1) (sI M 225 x2.toNatClampNeg 0)))
def sX12_key_314 (k263 : Int32 → Mm → Option (Int32 × Mm)) (k270 : Int32 → Int32 → Mm → Option (Int32 × Mm)) (k279 : Int32 → Int32 → Int32 → Mm → Option (Int32 × Mm)) (x2 : Int32) (x3 : Int32) (x4 : Int32) (s1 : Int32) (s2 : Int32) (M : Mm) : Option (Int32 × Mm) :=
  ck (inb s1 192) (k279 x2 x3 (x4 + 1) (sI M 224 s1.toNatClampNeg s2))
def sX12_key_279 (k263 : Int32 → Mm → Option (Int32 × Mm)) (k270 : Int32 → Int32 → Mm → Option (Int32 × Mm)) : Nat → Int32 → Int32 → Int32 → Mm → Option (Int32 × Mm)
  | 0, _, _, _, _ => none
  | F + 1, x2, x3, x4, M => if 8 ≤ x4 then
      (k270 x2 (x3 + 1) M)
    else (sX12_key_314 k263 k270 (sX12_key_279 k263 k270 F) x2 x3 x4 (((64 * x2) + (8 * x3)) + x4) (if x3 = x4 then 16 else 0) M)
def sX12_key_270 (k263 : Int32 → Mm → Option (Int32 × Mm)) : Nat → Int32 → Int32 → Mm → Option (Int32 × Mm)
  | 0, _, _, _ => none
  | F + 1, x2, x3, M => if 8 ≤ x3 then
      (k263 (x2 + 1) M)
    else (sX12_key_279 k263 (sX12_key_270 k263 F) 4096 x2 x3 0 M)
def sX12_key_263 : Nat → Int32 → Mm → Option (Int32 × Mm)
  | 0, _, _ => none
  | F + 1, x2, M => if 3 ≤ x2 then
      (sX12_key_335 4096 0 M)
    else (sX12_key_270 (sX12_key_263 F) 4096 x2 0 M)
def sX12_key_202 : Nat → Int32 → Mm → Option (Int32 × Mm)
  | 0, _, _ => none
  | F + 1, x2, M => if (M.1 194 34) ≤ x2 then
      (sX12_key_263 4096 0 M)
    else (ck (inb (16 + x2) 32) (ck (inb x2 32) (ck (inb (16 + x2) 32) (ck (inb x2 32) (ck (inb (16 + x2) 32) (ck (inb x2 32) (sX12_key_202 F (x2 + 1) (sI (sI (sI M 210 x2.toNatClampNeg (M.1 210 (16 + x2).toNatClampNeg)) 211 x2.toNatClampNeg ((sI M 210 x2.toNatClampNeg (M.1 210 (16 + x2).toNatClampNeg)).1 211 (16 + x2).toNatClampNeg)) 212 x2.toNatClampNeg ((sI (sI M 210 x2.toNatClampNeg (M.1 210 (16 + x2).toNatClampNeg)) 211 x2.toNatClampNeg ((sI M 210 x2.toNatClampNeg (M.1 210 (16 + x2).toNatClampNeg)).1 211 (16 + x2).toNatClampNeg)).1 212 (16 + x2).toNatClampNeg)))))))))
def sX12_key_87 : Nat → Int32 → Mm → Option (Int32 × Mm)
  | 0, _, _ => none
  | F + 1, x2, M => if (M.1 194 35) ≤ x2 then
      (sX12_key_202 4096 0 M)
    else (ck (inb (96 + x2) 192) (ck (inb x2 192) (ck (inb (96 + x2) 192) (ck (inb x2 192) (ck (inb (96 + x2) 192) (ck (inb x2 192) (ck (inb (96 + x2) 192) (ck (inb x2 192) (ck (inb (96 + x2) 192) (ck (inb x2 192) (ck (inb (96 + x2) 192) (ck (inb x2 192) (sX12_key_87 F (x2 + 1) (sI (sI (sI (sI (sI (sI M 213 x2.toNatClampNeg (M.1 213 (96 + x2).toNatClampNeg)) 214 x2.toNatClampNeg ((sI M 213 x2.toNatClampNeg (M.1 213 (96 + x2).toNatClampNeg)).1 214 (96 + x2).toNatClampNeg)) 215 x2.toNatClampNeg ((sI (sI M 213 x2.toNatClampNeg (M.1 213 (96 + x2).toNatClampNeg)) 214 x2.toNatClampNeg ((sI M 213 x2.toNatClampNeg (M.1 213 (96 + x2).toNatClampNeg)).1 214 (96 + x2).toNatClampNeg)).1 215 (96 + x2).toNatClampNeg)) 216 x2.toNatClampNeg (((sI (sI (sI M 213 x2.toNatClampNeg (M.1 213 (96 + x2).toNatClampNeg)) 214 x2.toNatClampNeg ((sI M 213 x2.toNatClampNeg (M.1 213 (96 + x2).toNatClampNeg)).1 214 (96 + x2).toNatClampNeg)) 215 x2.toNatClampNeg ((sI (sI M 213 x2.toNatClampNeg (M.1 213 (96 + x2).toNatClampNeg)) 214 x2.toNatClampNeg ((sI M 213 x2.toNatClampNeg (M.1 213 (96 + x2).toNatClampNeg)).1 214 (96 + x2).toNatClampNeg)).1 215 (96 + x2).toNatClampNeg)).1 216 (96 + x2).toNatClampNeg) - 96)) 217 x2.toNatClampNeg (((sI (sI (sI (sI M 213 x2.toNatClampNeg (M.1 213 (96 + x2).toNatClampNeg)) 214 x2.toNatClampNeg ((sI M 213 x2.toNatClampNeg (M.1 213 (96 + x2).toNatClampNeg)).1 214 (96 + x2).toNatClampNeg)) 215 x2.toNatClampNeg ((sI (sI M 213 x2.toNatClampNeg (M.1 213 (96 + x2).toNatClampNeg)) 214 x2.toNatClampNeg ((sI M 213 x2.toNatClampNeg (M.1 213 (96 + x2).toNatClampNeg)).1 214 (96 + x2).toNatClampNeg)).1 215 (96 + x2).toNatClampNeg)) 216 x2.toNatClampNeg (((sI (sI (sI M 213 x2.toNatClampNeg (M.1 213 (96 + x2).toNatClampNeg)) 214 x2.toNatClampNeg ((sI M 213 x2.toNatClampNeg (M.1 213 (96 + x2).toNatClampNeg)).1 214 (96 + x2).toNatClampNeg)) 215 x2.toNatClampNeg ((sI (sI M 213 x2.toNatClampNeg (M.1 213 (96 + x2).toNatClampNeg)) 214 x2.toNatClampNeg ((sI M 213 x2.toNatClampNeg (M.1 213 (96 + x2).toNatClampNeg)).1 214 (96 + x2).toNatClampNeg)).1 215 (96 + x2).toNatClampNeg)).1 216 (96 + x2).toNatClampNeg) - 96)).1 217 (96 + x2).toNatClampNeg) - 96)) 218 x2.toNatClampNeg (((sI (sI (sI (sI (sI M 213 x2.toNatClampNeg (M.1 213 (96 + x2).toNatClampNeg)) 214 x2.toNatClampNeg ((sI M 213 x2.toNatClampNeg (M.1 213 (96 + x2).toNatClampNeg)).1 214 (96 + x2).toNatClampNeg)) 215 x2.toNatClampNeg ((sI (sI M 213 x2.toNatClampNeg (M.1 213 (96 + x2).toNatClampNeg)) 214 x2.toNatClampNeg ((sI M 213 x2.toNatClampNeg (M.1 213 (96 + x2).toNatClampNeg)).1 214 (96 + x2).toNatClampNeg)).1 215 (96 + x2).toNatClampNeg)) 216 x2.toNatClampNeg (((sI (sI (sI M 213 x2.toNatClampNeg (M.1 213 (96 + x2).toNatClampNeg)) 214 x2.toNatClampNeg ((sI M 213 x2.toNatClampNeg (M.1 213 (96 + x2).toNatClampNeg)).1 214 (96 + x2).toNatClampNeg)) 215 x2.toNatClampNeg ((sI (sI M 213 x2.toNatClampNeg (M.1 213 (96 + x2).toNatClampNeg)) 214 x2.toNatClampNeg ((sI M 213 x2.toNatClampNeg (M.1 213 (96 + x2).toNatClampNeg)).1 214 (96 + x2).toNatClampNeg)).1 215 (96 + x2).toNatClampNeg)).1 216 (96 + x2).toNatClampNeg) - 96)) 217 x2.toNatClampNeg (((sI (sI (sI (sI M 213 x2.toNatClampNeg (M.1 213 (96 + x2).toNatClampNeg)) 214 x2.toNatClampNeg ((sI M 213 x2.toNatClampNeg (M.1 213 (96 + x2).toNatClampNeg)).1 214 (96 + x2).toNatClampNeg)) 215 x2.toNatClampNeg ((sI (sI M 213 x2.toNatClampNeg (M.1 213 (96 + x2).toNatClampNeg)) 214 x2.toNatClampNeg ((sI M 213 x2.toNatClampNeg (M.1 213 (96 + x2).toNatClampNeg)).1 214 (96 + x2).toNatClampNeg)).1 215 (96 + x2).toNatClampNeg)) 216 x2.toNatClampNeg (((sI (sI (sI M 213 x2.toNatClampNeg (M.1 213 (96 + x2).toNatClampNeg)) 214 x2.toNatClampNeg ((sI M 213 x2.toNatClampNeg (M.1 213 (96 + x2).toNatClampNeg)).1 214 (96 + x2).toNatClampNeg)) 215 x2.toNatClampNeg ((sI (sI M 213 x2.toNatClampNeg (M.1 213 (96 + x2).toNatClampNeg)) 214 x2.toNatClampNeg ((sI M 213 x2.toNatClampNeg (M.1 213 (96 + x2).toNatClampNeg)).1 214 (96 + x2).toNatClampNeg)).1 215 (96 + x2).toNatClampNeg)).1 216 (96 + x2).toNatClampNeg) - 96)).1 217 (96 + x2).toNatClampNeg) - 96)).1 218 (96 + x2).toNatClampNeg) - 96)))))))))))))))
def sX12_key_45 : Nat → Mm → Option (Int32 × Mm)
  | 0, _ => none
  | F + 1, M => if (M.1 194 21) = 0 then
      (sX12_key_87 4096 0 (sI (sI (sI M 194 33 (M.1 194 36)) 194 34 ((sI M 194 33 (M.1 194 36)).1 194 37)) 194 35 ((sI (sI M 194 33 (M.1 194 36)) 194 34 ((sI M 194 33 (M.1 194 36)).1 194 37)).1 194 38)))
    else ((sX12_lineRead M).bind fun (q53 : Int32 × Mm) =>
    if q53.1 = 0 then
      (some ((-1), q53.2))
    else (sX12_key_45 F q53.2))
def sX12_key (x1 : Int32) (M : Mm) : Option (Int32 × Mm) :=
  if x1 < 0 then
    (some ((-2), (sI M 194 2 0)))
  else (if x1 ≤ ((sI M 194 2 0).1 194 1) then
    ((sX12_begins x1 (sI M 194 2 0)).bind fun (M22 : Mm) =>
    sX12_key_45 4096 (sI (sI (sI (sI M22 194 36 0) 194 37 0) 194 38 0) 194 50 0))
  else (some ((-2), (sI M 194 2 0))))
def sX12_holds (x0 : Int32) (x1 : Int32) (x2 : Int32) (M : Mm) : Option (Int32 × Mm) :=
  some ((if x1 = 1 then (if x2 ≤ x0 then 0 else 1) else (if x1 = 2 then (if x2 < x0 then 0 else 1) else (if x1 = 3 then (if x0 = x2 then 1 else 0) else (if x1 = 4 then (if x0 < x2 then 0 else 1) else (if x0 ≤ x2 then 0 else 1))))), M)
def sX12_layerOf (x1 : Int32) (x2 : Int32) (x3 : Int32) (M : Mm) : Option (Int32 × Mm) :=
  ck (inb (((48 * x1) + (6 * x2)) + x3) 2880) (some ((M.1 206 (((48 * x1) + (6 * x2)) + x3).toNatClampNeg), M))
def sX12_layersSo_174 (k13 : Int32 → Int32 → Int32 → Int32 → Int32 → Mm → Option (Int32 × Mm)) (x1 : Int32) (x2 : Int32) (x3 : Int32) (x5 : Int32) (s0 : Int32) (s1 : Int32) (M : Mm) : Option (Int32 × Mm) :=
  k13 x1 x2 x3 (s0 ||| s1) (x5 + 1) M
def sX12_layersSo_157 (k13 : Int32 → Int32 → Int32 → Int32 → Int32 → Mm → Option (Int32 × Mm)) (x1 : Int32) (x2 : Int32) (x3 : Int32) (x4 : Int32) (x5 : Int32) (s0 : Int32) (M : Mm) : Option (Int32 × Mm) :=
  sX12_layersSo_174 k13 x1 x2 x3 x5 x4 (if s0 = 0 then 0 else (1 <<< (x5 &&& 31))) M
def sX12_layersSo_142 (k13 : Int32 → Int32 → Int32 → Int32 → Int32 → Mm → Option (Int32 × Mm)) (x1 : Int32) (x2 : Int32) (x3 : Int32) (x4 : Int32) (x5 : Int32) (s0 : Int32) (M : Mm) : Option (Int32 × Mm) :=
  ck (inb x2 192) (ck (inb x2 192) ((sX12_holds s0 (M.1 214 x2.toNatClampNeg) (M.1 215 x2.toNatClampNeg) M).bind fun (q154 : Int32 × Mm) =>
  sX12_layersSo_157 k13 x1 x2 x3 x4 x5 q154.1 q154.2))
def sX12_layersSo_13 : Nat → Int32 → Int32 → Int32 → Int32 → Int32 → Mm → Option (Int32 × Mm)
  | 0, _, _, _, _, _, _ => none
  | F + 1, x1, x2, x3, x4, x5, M => ck (inb x1 60) (if (M.1 205 x1.toNatClampNeg) ≤ x5 then
      (some (x4, M))
    else ((sX12_layerOf x1 x5 1 M).bind fun (q29 : Int32 × Mm) =>
    (sX12_layerOf x1 x5 0 q29.2).bind fun (q37 : Int32 × Mm) =>
    if 5 < x3 then
      (if 10 < x3 then
        (if x3 = 11 then
          ((sX12_layerOf x1 x5 4 q37.2).bind fun (q108 : Int32 × Mm) =>
          sX12_layersSo_157 (sX12_layersSo_13 F) x1 x2 x3 x4 x5 (if q108.1 = 1 then 1 else 0) q108.2)
        else (if x3 = 12 then
          ((sX12_layerOf x1 x5 5 q37.2).bind fun (q134 : Int32 × Mm) =>
          sX12_layersSo_142 (sX12_layersSo_13 F) x1 x2 x3 x4 x5 q134.1 q134.2)
        else (sX12_layersSo_142 (sX12_layersSo_13 F) x1 x2 x3 x4 x5 (q29.1 - q37.1) q37.2)))
      else ((sX12_layerOf x1 x5 3 q37.2).bind fun (q79 : Int32 × Mm) =>
      sX12_layersSo_157 (sX12_layersSo_13 F) x1 x2 x3 x4 x5 (if q79.1 = (x3 - 6) then 1 else 0) q79.2))
    else ((sX12_layerOf x1 x5 2 q37.2).bind fun (q53 : Int32 × Mm) =>
    sX12_layersSo_157 (sX12_layersSo_13 F) x1 x2 x3 x4 x5 (if q53.1 = x3 then 1 else 0) q53.2)))
def sX12_layersSo (x1 : Int32) (x2 : Int32) (M : Mm) : Option (Int32 × Mm) :=
  ck (inb x2 192) (sX12_layersSo_13 4096 x1 x2 (M.1 213 x2.toNatClampNeg) 0 0 M)
def sX12_isSo_116 (k21 : Int32 → Int32 → Int32 → Int32 → Int32 → Int32 → Int32 → Mm → Option (Int32 × Mm)) (x1 : Int32) (x2 : Int32) (x3 : Int32) (x4 : Int32) (x5 : Int32) (x6 : Int32) (x7 : Int32) (M : Mm) : Option (Int32 × Mm) :=
  k21 x1 x2 x3 x4 x5 x6 (x7 + (-1)) M
def sX12_isSo_114 (k21 : Int32 → Int32 → Int32 → Int32 → Int32 → Int32 → Int32 → Mm → Option (Int32 × Mm)) (x1 : Int32) (x2 : Int32) (x3 : Int32) (x4 : Int32) (x5 : Int32) (x7 : Int32) (s0 : Int32) (M : Mm) : Option (Int32 × Mm) :=
  sX12_isSo_116 k21 x1 x2 x3 x4 x5 s0 x7 M
def sX12_isSo_109 (k21 : Int32 → Int32 → Int32 → Int32 → Int32 → Int32 → Int32 → Mm → Option (Int32 × Mm)) (x1 : Int32) (x2 : Int32) (x3 : Int32) (x4 : Int32) (x5 : Int32) (x7 : Int32) (M : Mm) : Option (Int32 × Mm) :=
  sX12_isSo_114 k21 x1 x2 x3 x4 x5 x7 1 M
def sX12_isSo_113 (k21 : Int32 → Int32 → Int32 → Int32 → Int32 → Int32 → Int32 → Mm → Option (Int32 × Mm)) (x1 : Int32) (x2 : Int32) (x3 : Int32) (x4 : Int32) (x5 : Int32) (x7 : Int32) (M : Mm) : Option (Int32 × Mm) :=
  sX12_isSo_114 k21 x1 x2 x3 x4 x5 x7 0 M
def sX12_isSo_21 : Nat → Int32 → Int32 → Int32 → Int32 → Int32 → Int32 → Int32 → Mm → Option (Int32 × Mm)
  | 0, _, _, _, _, _, _, _, _ => none
  | F + 1, x1, x2, x3, x4, x5, x6, x7, M => if x7 < 0 then
      (ck (inb x2 192) (if (M.1 213 x2.toNatClampNeg) = 17 then
        (some ((if x3 = 0 then 0 else 1), M))
      else if (M.1 213 x2.toNatClampNeg) = 18 then
        (ck (inb x1 60) (some ((if x3 = ((1 <<< ((M.1 205 x1.toNatClampNeg) &&& 31)) - 1) then 1 else 0), M)))
      else if (M.1 213 x2.toNatClampNeg) = 19 then
        (ck (isb x6) (some (x6, M)))
      else if (M.1 213 x2.toNatClampNeg) = 20 then
        (ck (inb x2 192) (ck (inb x2 192) ((sX12_holds x4 (M.1 214 x2.toNatClampNeg) (M.1 215 x2.toNatClampNeg) M).bind fun (q207 : Int32 × Mm) =>
        ck (isb q207.1) (some (q207.1, q207.2)))))
      else (ck (inb x2 192) (ck (inb x2 192) ((sX12_holds x5 (M.1 214 x2.toNatClampNeg) (M.1 215 x2.toNatClampNeg) M).bind fun (q225 : Int32 × Mm) =>
      ck (isb q225.1) (some (q225.1, q225.2)))))))
    else (if ((x3 >>> (x7 &&& 31)) &&& 1) = 0 then
      (sX12_isSo_116 (sX12_isSo_21 F) x1 x2 x3 x4 x5 x6 x7 M)
    else ((sX12_layerOf x1 x7 1 M).bind fun (q45 : Int32 × Mm) =>
    (sX12_layerOf x1 x7 0 q45.2).bind fun (q53 : Int32 × Mm) =>
    (sX12_layerOf x1 x7 0 q53.2).bind fun (q65 : Int32 × Mm) =>
    if x6 = 0 then
      ((sX12_layerOf x1 x7 0 q65.2).bind fun (q80 : Int32 × Mm) =>
      ck (inb x2 192) (if (q80.2.1 215 x2.toNatClampNeg) < q80.1 then
        (sX12_isSo_113 (sX12_isSo_21 F) x1 x2 x3 (x4 + (q45.1 - q53.1)) q65.1 x7 q80.2)
      else (ck (inb x2 192) ((sX12_layerOf x1 x7 1 q80.2).bind fun (q103 : Int32 × Mm) =>
      if q103.1 ≤ (q80.2.1 215 x2.toNatClampNeg) then
        (sX12_isSo_113 (sX12_isSo_21 F) x1 x2 x3 (x4 + (q45.1 - q53.1)) q65.1 x7 q103.2)
      else (sX12_isSo_109 (sX12_isSo_21 F) x1 x2 x3 (x4 + (q45.1 - q53.1)) q65.1 x7 q103.2)))))
    else (sX12_isSo_109 (sX12_isSo_21 F) x1 x2 x3 (x4 + (q45.1 - q53.1)) q65.1 x7 q65.2)))
def sX12_isSo (x1 : Int32) (x2 : Int32) (x3 : Int32) (M : Mm) : Option (Int32 × Mm) :=
  ck (inb x1 60) (sX12_isSo_21 4096 x1 x2 x3 0 999 0 ((M.1 205 x1.toNatClampNeg) - 1) M)
def sX12_lineOf_380 (k13 : Int32 → Int32 → Int32 → Mm → Option (Int32 × Mm)) (k27 : Int32 → Int32 → Int32 → Int32 → Int32 → Mm → Option (Int32 × Mm)) (x1 : Int32) (x2 : Int32) (x3 : Int32) (x4 : Int32) (x5 : Int32) (M : Mm) : Option (Int32 × Mm) :=
  k27 x1 x2 x3 x4 (x5 + 1) M
def sX12_lineOf_81 (k13 : Int32 → Int32 → Int32 → Mm → Option (Int32 × Mm)) (k27 : Int32 → Int32 → Int32 → Int32 → Int32 → Mm → Option (Int32 × Mm)) (x1 : Int32) (x2 : Int32) (x3 : Int32) (x4 : Int32) (x5 : Int32) (x6 : Int32) (M : Mm) : Option (Int32 × Mm) :=
  (sX12_layersSo x1 x6 M).bind fun (q91 : Int32 × Mm) =>
  ck (inb x6 96) (ck (inb x6 96) (sX12_lineOf_380 k13 k27 x1 x2 x3 x4 x5 (sI (sI q91.2 222 x6.toNatClampNeg q91.1) 223 x6.toNatClampNeg 1)))
def sX12_lineOf_271 (k13 : Int32 → Int32 → Int32 → Mm → Option (Int32 × Mm)) (k27 : Int32 → Int32 → Int32 → Int32 → Int32 → Mm → Option (Int32 × Mm)) (x1 : Int32) (x2 : Int32) (x3 : Int32) (x4 : Int32) (x5 : Int32) (s1 : Int32) (s2 : Int32) (M : Mm) : Option (Int32 × Mm) :=
  ck (inb s1 96) (sX12_lineOf_380 k13 k27 x1 x2 x3 x4 x5 (sI M 222 s1.toNatClampNeg s2))
def sX12_lineOf_186 (k13 : Int32 → Int32 → Int32 → Mm → Option (Int32 × Mm)) (k27 : Int32 → Int32 → Int32 → Int32 → Int32 → Mm → Option (Int32 × Mm)) (x1 : Int32) (x2 : Int32) (x3 : Int32) (x4 : Int32) (x5 : Int32) (x6 : Int32) (x7 : Int32) (M : Mm) : Option (Int32 × Mm) :=
  ck (inb x6 192) (ck (inb (M.1 216 x6.toNatClampNeg) 96) (ck (inb x6 96) (ck (isb (M.1 223 (M.1 216 x6.toNatClampNeg).toNatClampNeg)) (if x7 = 14 then
    (ck (inb x6 192) (ck (inb ((sI M 223 x6.toNatClampNeg (M.1 223 (M.1 216 x6.toNatClampNeg).toNatClampNeg)).1 216 x6.toNatClampNeg) 96) (ck (inb x6 192) (ck (inb ((sI M 223 x6.toNatClampNeg (M.1 223 (M.1 216 x6.toNatClampNeg).toNatClampNeg)).1 217 x6.toNatClampNeg) 96) (sX12_lineOf_271 k13 k27 x1 x2 x3 x4 x5 x6 (((sI M 223 x6.toNatClampNeg (M.1 223 (M.1 216 x6.toNatClampNeg).toNatClampNeg)).1 222 ((sI M 223 x6.toNatClampNeg (M.1 223 (M.1 216 x6.toNatClampNeg).toNatClampNeg)).1 216 x6.toNatClampNeg).toNatClampNeg) &&& ((sI M 223 x6.toNatClampNeg (M.1 223 (M.1 216 x6.toNatClampNeg).toNatClampNeg)).1 222 ((sI M 223 x6.toNatClampNeg (M.1 223 (M.1 216 x6.toNatClampNeg).toNatClampNeg)).1 217 x6.toNatClampNeg).toNatClampNeg)) (sI M 223 x6.toNatClampNeg (M.1 223 (M.1 216 x6.toNatClampNeg).toNatClampNeg)))))))
  else (ck (inb x6 192) (ck (inb ((sI M 223 x6.toNatClampNeg (M.1 223 (M.1 216 x6.toNatClampNeg).toNatClampNeg)).1 216 x6.toNatClampNeg) 96) (ck (inb x6 192) (ck (inb ((sI M 223 x6.toNatClampNeg (M.1 223 (M.1 216 x6.toNatClampNeg).toNatClampNeg)).1 217 x6.toNatClampNeg) 96) (sX12_lineOf_271 k13 k27 x1 x2 x3 x4 x5 x6 (((sI M 223 x6.toNatClampNeg (M.1 223 (M.1 216 x6.toNatClampNeg).toNatClampNeg)).1 222 ((sI M 223 x6.toNatClampNeg (M.1 223 (M.1 216 x6.toNatClampNeg).toNatClampNeg)).1 216 x6.toNatClampNeg).toNatClampNeg) ||| ((sI M 223 x6.toNatClampNeg (M.1 223 (M.1 216 x6.toNatClampNeg).toNatClampNeg)).1 222 ((sI M 223 x6.toNatClampNeg (M.1 223 (M.1 216 x6.toNatClampNeg).toNatClampNeg)).1 217 x6.toNatClampNeg).toNatClampNeg)) (sI M 223 x6.toNatClampNeg (M.1 223 (M.1 216 x6.toNatClampNeg).toNatClampNeg)))))))))))
def sX12_lineOf_379 (k13 : Int32 → Int32 → Int32 → Mm → Option (Int32 × Mm)) (k27 : Int32 → Int32 → Int32 → Int32 → Int32 → Mm → Option (Int32 × Mm)) (x1 : Int32) (x2 : Int32) (x3 : Int32) (x4 : Int32) (x5 : Int32) (s1 : Int32) (s2 : Int32) (M : Mm) : Option (Int32 × Mm) :=
  ck (inb s1 96) (sX12_lineOf_380 k13 k27 x1 x2 x3 x4 x5 (sI M 222 s1.toNatClampNeg s2))
def sX12_lineOf_361 (k13 : Int32 → Int32 → Int32 → Mm → Option (Int32 × Mm)) (k27 : Int32 → Int32 → Int32 → Int32 → Int32 → Mm → Option (Int32 × Mm)) (x1 : Int32) (x2 : Int32) (x3 : Int32) (x4 : Int32) (x5 : Int32) (x6 : Int32) (s0 : Int32) (M : Mm) : Option (Int32 × Mm) :=
  sX12_lineOf_379 k13 k27 x1 x2 x3 x4 x5 x6 (if s0 = 0 then 0 else 1) M
def sX12_lineOf_356 (k13 : Int32 → Int32 → Int32 → Mm → Option (Int32 × Mm)) (k27 : Int32 → Int32 → Int32 → Int32 → Int32 → Mm → Option (Int32 × Mm)) (x1 : Int32) (x2 : Int32) (x3 : Int32) (x4 : Int32) (x5 : Int32) (x6 : Int32) (M : Mm) : Option (Int32 × Mm) :=
  sX12_lineOf_361 k13 k27 x1 x2 x3 x4 x5 x6 1 M
def sX12_lineOf_360 (k13 : Int32 → Int32 → Int32 → Mm → Option (Int32 × Mm)) (k27 : Int32 → Int32 → Int32 → Int32 → Int32 → Mm → Option (Int32 × Mm)) (x1 : Int32) (x2 : Int32) (x3 : Int32) (x4 : Int32) (x5 : Int32) (x6 : Int32) (M : Mm) : Option (Int32 × Mm) :=
  sX12_lineOf_361 k13 k27 x1 x2 x3 x4 x5 x6 0 M
def sX12_lineOf_153 (k13 : Int32 → Int32 → Int32 → Mm → Option (Int32 × Mm)) (k27 : Int32 → Int32 → Int32 → Int32 → Int32 → Mm → Option (Int32 × Mm)) (x1 : Int32) (x2 : Int32) (x3 : Int32) (x4 : Int32) (x5 : Int32) (x6 : Int32) (s1 : Int32) (s2 : Int32) (M : Mm) : Option (Int32 × Mm) :=
  ck (inb x6 192) (ck (inb (M.1 216 x6.toNatClampNeg) 96) (ck (inb s1 96) (sX12_lineOf_380 k13 k27 x1 x2 x3 x4 x5 (sI M 222 s1.toNatClampNeg (s2 &&& ((M.1 222 (M.1 216 x6.toNatClampNeg).toNatClampNeg) ^^^ (-1)))))))
def sX12_lineOf_27 (k13 : Int32 → Int32 → Int32 → Mm → Option (Int32 × Mm)) : Nat → Int32 → Int32 → Int32 → Int32 → Int32 → Mm → Option (Int32 × Mm)
  | 0, _, _, _, _, _, _ => none
  | F + 1, x1, x2, x3, x4, x5, M => ck (inb x3 32) (if (M.1 212 x3.toNatClampNeg) ≤ x5 then
      (ck (inb x4 96) (if (M.1 222 x4.toNatClampNeg) = 1 then
        (some (x3, M))
      else (k13 x1 x2 (x3 + 1) M)))
    else (ck (inb x3 32) (ck (inb ((M.1 211 x3.toNatClampNeg) + x5) 192) (ck (inb (M.1 218 ((M.1 211 x3.toNatClampNeg) + x5).toNatClampNeg) 192) (if (M.1 213 (M.1 218 ((M.1 211 x3.toNatClampNeg) + x5).toNatClampNeg).toNatClampNeg) ≤ 12 then
      (sX12_lineOf_81 k13 (sX12_lineOf_27 k13 F) x1 x2 x3 (M.1 218 ((M.1 211 x3.toNatClampNeg) + x5).toNatClampNeg) x5 (M.1 218 ((M.1 211 x3.toNatClampNeg) + x5).toNatClampNeg) M)
    else (if (M.1 213 (M.1 218 ((M.1 211 x3.toNatClampNeg) + x5).toNatClampNeg).toNatClampNeg) = 23 then
      (sX12_lineOf_81 k13 (sX12_lineOf_27 k13 F) x1 x2 x3 (M.1 218 ((M.1 211 x3.toNatClampNeg) + x5).toNatClampNeg) x5 (M.1 218 ((M.1 211 x3.toNatClampNeg) + x5).toNatClampNeg) M)
    else (if (M.1 213 (M.1 218 ((M.1 211 x3.toNatClampNeg) + x5).toNatClampNeg).toNatClampNeg) = 15 then
      (ck (inb (M.1 218 ((M.1 211 x3.toNatClampNeg) + x5).toNatClampNeg) 192) (ck (inb (M.1 216 (M.1 218 ((M.1 211 x3.toNatClampNeg) + x5).toNatClampNeg).toNatClampNeg) 96) (ck (inb (M.1 218 ((M.1 211 x3.toNatClampNeg) + x5).toNatClampNeg) 96) (ck (isb (M.1 223 (M.1 216 (M.1 218 ((M.1 211 x3.toNatClampNeg) + x5).toNatClampNeg).toNatClampNeg).toNatClampNeg)) (ck (inb (M.1 218 ((M.1 211 x3.toNatClampNeg) + x5).toNatClampNeg) 96) (sX12_lineOf_153 k13 (sX12_lineOf_27 k13 F) x1 x2 x3 (M.1 218 ((M.1 211 x3.toNatClampNeg) + x5).toNatClampNeg) x5 (M.1 218 ((M.1 211 x3.toNatClampNeg) + x5).toNatClampNeg) (M.1 218 ((M.1 211 x3.toNatClampNeg) + x5).toNatClampNeg) (if ((sI M 223 (M.1 218 ((M.1 211 x3.toNatClampNeg) + x5).toNatClampNeg).toNatClampNeg (M.1 223 (M.1 216 (M.1 218 ((M.1 211 x3.toNatClampNeg) + x5).toNatClampNeg).toNatClampNeg).toNatClampNeg)).1 223 (M.1 218 ((M.1 211 x3.toNatClampNeg) + x5).toNatClampNeg).toNatClampNeg) = 0 then 1 else x2) (sI M 223 (M.1 218 ((M.1 211 x3.toNatClampNeg) + x5).toNatClampNeg).toNatClampNeg (M.1 223 (M.1 216 (M.1 218 ((M.1 211 x3.toNatClampNeg) + x5).toNatClampNeg).toNatClampNeg).toNatClampNeg))))))))
    else (if (M.1 213 (M.1 218 ((M.1 211 x3.toNatClampNeg) + x5).toNatClampNeg).toNatClampNeg) = 14 then
      (sX12_lineOf_186 k13 (sX12_lineOf_27 k13 F) x1 x2 x3 (M.1 218 ((M.1 211 x3.toNatClampNeg) + x5).toNatClampNeg) x5 (M.1 218 ((M.1 211 x3.toNatClampNeg) + x5).toNatClampNeg) (M.1 213 (M.1 218 ((M.1 211 x3.toNatClampNeg) + x5).toNatClampNeg).toNatClampNeg) M)
    else (if (M.1 213 (M.1 218 ((M.1 211 x3.toNatClampNeg) + x5).toNatClampNeg).toNatClampNeg) = 13 then
      (sX12_lineOf_186 k13 (sX12_lineOf_27 k13 F) x1 x2 x3 (M.1 218 ((M.1 211 x3.toNatClampNeg) + x5).toNatClampNeg) x5 (M.1 218 ((M.1 211 x3.toNatClampNeg) + x5).toNatClampNeg) (M.1 213 (M.1 218 ((M.1 211 x3.toNatClampNeg) + x5).toNatClampNeg).toNatClampNeg) M)
    else (ck (inb (M.1 218 ((M.1 211 x3.toNatClampNeg) + x5).toNatClampNeg) 96) (if (M.1 213 (M.1 218 ((M.1 211 x3.toNatClampNeg) + x5).toNatClampNeg).toNatClampNeg) = 16 then
      (sX12_lineOf_356 k13 (sX12_lineOf_27 k13 F) x1 x2 x3 (M.1 218 ((M.1 211 x3.toNatClampNeg) + x5).toNatClampNeg) x5 (M.1 218 ((M.1 211 x3.toNatClampNeg) + x5).toNatClampNeg) (sI M 223 (M.1 218 ((M.1 211 x3.toNatClampNeg) + x5).toNatClampNeg).toNatClampNeg 0))
    else (if (M.1 213 (M.1 218 ((M.1 211 x3.toNatClampNeg) + x5).toNatClampNeg).toNatClampNeg) = 22 then
      (ck (inb x1 60) ((sX12_layerOf x1 (((sI M 223 (M.1 218 ((M.1 211 x3.toNatClampNeg) + x5).toNatClampNeg).toNatClampNeg 0).1 205 x1.toNatClampNeg) - 1) 1 (sI M 223 (M.1 218 ((M.1 211 x3.toNatClampNeg) + x5).toNatClampNeg).toNatClampNeg 0)).bind fun (q308 : Int32 × Mm) =>
      ck (inb (M.1 218 ((M.1 211 x3.toNatClampNeg) + x5).toNatClampNeg) 192) (ck (inb (M.1 218 ((M.1 211 x3.toNatClampNeg) + x5).toNatClampNeg) 192) ((sX12_holds q308.1 (q308.2.1 214 (M.1 218 ((M.1 211 x3.toNatClampNeg) + x5).toNatClampNeg).toNatClampNeg) (q308.2.1 215 (M.1 218 ((M.1 211 x3.toNatClampNeg) + x5).toNatClampNeg).toNatClampNeg) q308.2).bind fun (q325 : Int32 × Mm) =>
      if q325.1 = 0 then
        (sX12_lineOf_360 k13 (sX12_lineOf_27 k13 F) x1 x2 x3 (M.1 218 ((M.1 211 x3.toNatClampNeg) + x5).toNatClampNeg) x5 (M.1 218 ((M.1 211 x3.toNatClampNeg) + x5).toNatClampNeg) q325.2)
      else (sX12_lineOf_356 k13 (sX12_lineOf_27 k13 F) x1 x2 x3 (M.1 218 ((M.1 211 x3.toNatClampNeg) + x5).toNatClampNeg) x5 (M.1 218 ((M.1 211 x3.toNatClampNeg) + x5).toNatClampNeg) q325.2)))))
    else (ck (inb (M.1 218 ((M.1 211 x3.toNatClampNeg) + x5).toNatClampNeg) 192) (ck (inb ((sI M 223 (M.1 218 ((M.1 211 x3.toNatClampNeg) + x5).toNatClampNeg).toNatClampNeg 0).1 216 (M.1 218 ((M.1 211 x3.toNatClampNeg) + x5).toNatClampNeg).toNatClampNeg) 96) ((sX12_isSo x1 (M.1 218 ((M.1 211 x3.toNatClampNeg) + x5).toNatClampNeg) ((sI M 223 (M.1 218 ((M.1 211 x3.toNatClampNeg) + x5).toNatClampNeg).toNatClampNeg 0).1 222 ((sI M 223 (M.1 218 ((M.1 211 x3.toNatClampNeg) + x5).toNatClampNeg).toNatClampNeg 0).1 216 (M.1 218 ((M.1 211 x3.toNatClampNeg) + x5).toNatClampNeg).toNatClampNeg).toNatClampNeg) (sI M 223 (M.1 218 ((M.1 211 x3.toNatClampNeg) + x5).toNatClampNeg).toNatClampNeg 0)).bind fun (q350 : Int32 × Mm) =>
    if q350.1 = 0 then
      (sX12_lineOf_360 k13 (sX12_lineOf_27 k13 F) x1 x2 x3 (M.1 218 ((M.1 211 x3.toNatClampNeg) + x5).toNatClampNeg) x5 (M.1 218 ((M.1 211 x3.toNatClampNeg) + x5).toNatClampNeg) q350.2)
    else (sX12_lineOf_356 k13 (sX12_lineOf_27 k13 F) x1 x2 x3 (M.1 218 ((M.1 211 x3.toNatClampNeg) + x5).toNatClampNeg) x5 (M.1 218 ((M.1 211 x3.toNatClampNeg) + x5).toNatClampNeg) q350.2))))))))))))))))
def sX12_lineOf_13 : Nat → Int32 → Int32 → Int32 → Mm → Option (Int32 × Mm)
  | 0, _, _, _, _ => none
  | F + 1, x1, x2, x3, M => if (M.1 194 34) ≤ x3 then
      (some ((-1), M))
    else (sX12_lineOf_27 (sX12_lineOf_13 F) 4096 x1 x2 x3 (-1) 0 M)
def sX12_lineOf (x1 : Int32) (M : Mm) : Option (Int32 × Mm) :=
  ck (inb x1 60) (sX12_lineOf_13 4096 x1 ((1 <<< ((M.1 205 x1.toNatClampNeg) &&& 31)) - 1) 0 M)
def sX12_kindOf (x1 : Int32) (M : Mm) : Option (Int32 × Mm) :=
  (sX12_lineOf x1 M).bind fun (q2 : Int32 × Mm) =>
  if 0 ≤ q2.1 then
    (ck (inb q2.1 32) (some ((q2.2.1 210 q2.1.toNatClampNeg), q2.2)))
  else (some ((-1), q2.2))
def sX12_told (x1 : Int32) (x2 : Int32) (M : Mm) : Option (Int32 × Mm) :=
  (sX12_isBore x1 (sI M 194 2 0)).bind fun (q7 : Int32 × Mm) =>
  if q7.1 = 0 then
    (some ((-2), q7.2))
  else (if x2 = 0 then
    (ck (inb x1 60) (some ((q7.2.1 203 x1.toNatClampNeg), q7.2)))
  else if x2 = 1 then
    (ck (inb x1 60) (some ((q7.2.1 204 x1.toNatClampNeg), q7.2)))
  else if x2 = 2 then
    (ck (inb x1 60) (some ((q7.2.1 205 x1.toNatClampNeg), q7.2)))
  else if x2 = 3 then
    ((sX12_kindOf x1 q7.2).bind fun (q75 : Int32 × Mm) =>
    some (q75.1, q75.2))
  else if x2 = 4 then
    ((sX12_lineOf x1 q7.2).bind fun (q81 : Int32 × Mm) =>
    some (q81.1, q81.2))
  else (some ((-2), q7.2)))
def sX12_size (x0 : Int32) (M : Mm) : Option (Int32 × Mm) :=
  some ((if 0 ≤ x0 then x0 else (-x0)), M)
def sX12_slope_130 (k12 : Int32 → Int32 → Int32 → Int32 → Mm → Option (Int32 × Mm)) (x1 : Int32) (x2 : Int32) (x3 : Int32) (x4 : Int32) (M : Mm) : Option (Int32 × Mm) :=
  k12 x1 x2 x3 (x4 + 1) M
def sX12_slope_129 (k12 : Int32 → Int32 → Int32 → Int32 → Mm → Option (Int32 × Mm)) (x1 : Int32) (x2 : Int32) (x4 : Int32) (s0 : Int32) (M : Mm) : Option (Int32 × Mm) :=
  sX12_slope_130 k12 x1 x2 s0 x4 M
def sX12_slope_84 (k12 : Int32 → Int32 → Int32 → Int32 → Mm → Option (Int32 × Mm)) (x1 : Int32) (x2 : Int32) (x3 : Int32) (x4 : Int32) (s0 : Int32) (M : Mm) : Option (Int32 × Mm) :=
  (sX12_isCell s0 M).bind fun (q89 : Int32 × Mm) =>
  if q89.1 = 0 then
    (sX12_slope_130 k12 x1 x2 x3 x4 q89.2)
  else (ck (inb x1 64) (ck (inb s0 64) ((sX12_size ((q89.2.1 196 x1.toNatClampNeg) - (q89.2.1 196 s0.toNatClampNeg)) q89.2).bind fun (q112 : Int32 × Mm) =>
  sX12_slope_129 k12 x1 x2 x4 (if q112.1 ≤ x3 then x3 else q112.1) q112.2)))
def sX12_slope_12 : Nat → Int32 → Int32 → Int32 → Int32 → Mm → Option (Int32 × Mm)
  | 0, _, _, _, _, _ => none
  | F + 1, x1, x2, x3, x4, M => if 4 ≤ x4 then
      (some (x3, M))
    else (sX12_slope_84 (sX12_slope_12 F) x1 x2 x3 x4 (if x4 = 0 then (if x2 ≤ 0 then (-1) else (x1 - 1)) else (if x4 = 1 then (if ((M.1 194 3) - 1) ≤ x2 then (-1) else (x1 + 1)) else (if x4 = 2 then (x1 - (M.1 194 3)) else (x1 + (M.1 194 3))))) M)
def sX12_slope (x1 : Int32) (M : Mm) : Option (Int32 × Mm) :=
  ck (nz (M.1 194 3)) (sX12_slope_12 4096 x1 (x1 - x1 / (M.1 194 3) * (M.1 194 3)) 0 0 M)
def sX12_steep (x1 : Int32) (M : Mm) : Option (Int32 × Mm) :=
  (sX12_slope x1 M).bind fun (q2 : Int32 × Mm) =>
  if (q2.2.1 194 10) ≤ q2.1 then
    ((sX12_slope x1 q2.2).bind fun (q18 : Int32 × Mm) =>
    some ((if (q18.2.1 194 11) ≤ q18.1 then 2 else 1), q18.2))
  else (some (0, q2.2))
def sX12_feel (x1 : Int32) (M : Mm) : Option (Int32 × Mm) :=
  ck (inb x1 64) (if 0 ≤ (M.1 198 x1.toNatClampNeg) then
    (ck (inb x1 64) (if (M.1 194 12) ≤ (M.1 198 x1.toNatClampNeg) then
      (ck (inb x1 64) (some ((if (M.1 194 13) ≤ (M.1 198 x1.toNatClampNeg) then 2 else 1), M)))
    else (some (0, M))))
  else (some ((-1), M)))
def sX12_fails (x1 : Int32) (M : Mm) : Option (Int32 × Mm) :=
  some (0, (sI M 194 2 x1))
def sX12_look (x1 : Int32) (x2 : Int32) (M : Mm) : Option (Int32 × Mm) :=
  (sX12_isCell x1 (sI M 194 2 0)).bind fun (q7 : Int32 × Mm) =>
  if q7.1 = 0 then
    ((sX12_fails 1 q7.2).bind fun (q15 : Int32 × Mm) =>
    some (q15.1, q15.2))
  else (if x2 = 0 then
    ((sX12_slope x1 q7.2).bind fun (q70 : Int32 × Mm) =>
    some (q70.1, q70.2))
  else if x2 = 1 then
    ((sX12_steep x1 q7.2).bind fun (q76 : Int32 × Mm) =>
    some (q76.1, q76.2))
  else if x2 = 2 then
    ((sX12_feel x1 q7.2).bind fun (q82 : Int32 × Mm) =>
    some (q82.1, q82.2))
  else if x2 = 3 then
    (ck (inb x1 64) (some ((q7.2.1 196 x1.toNatClampNeg), q7.2)))
  else if x2 = 4 then
    (ck (inb x1 64) (some ((q7.2.1 197 x1.toNatClampNeg), q7.2)))
  else if x2 = 5 then
    (ck (inb x1 64) (some ((q7.2.1 198 x1.toNatClampNeg), q7.2)))
  else if x2 = 6 then
    (ck (inb x1 64) (some ((q7.2.1 199 x1.toNatClampNeg), q7.2)))
  else if x2 = 7 then
    (ck (inb x1 64) (some ((q7.2.1 200 x1.toNatClampNeg), q7.2)))
  else ((sX12_fails 2 q7.2).bind fun (q123 : Int32 × Mm) =>
  some (q123.1, q123.2)))
def sX12_far (x1 : Int32) (x2 : Int32) (M : Mm) : Option (Int32 × Mm) :=
  ck (nz (M.1 194 3)) (ck (nz (M.1 194 3)) ((sX12_size ((x1 - x1 / (M.1 194 3) * (M.1 194 3)) - (x2 - x2 / (M.1 194 3) * (M.1 194 3))) M).bind fun (q13 : Int32 × Mm) =>
  ck (nz (q13.2.1 194 3)) (ck (nz (q13.2.1 194 3)) ((sX12_size ((x1 / (q13.2.1 194 3)) - (x2 / (q13.2.1 194 3))) q13.2).bind fun (q30 : Int32 × Mm) =>
  some ((if q13.1 ≤ q30.1 then q30.1 else q13.1), q30.2)))))
def sX12_alike_67 (x1 : Int32) (x2 : Int32) (s0 : Int32) (s1 : Int32) (M : Mm) : Option (Int32 × Mm) :=
  (sX12_feel x1 M).bind fun (q72 : Int32 × Mm) =>
  if q72.1 < 0 then
    (some (((s0 + s1) + 0), q72.2))
  else ((sX12_feel x1 q72.2).bind fun (q80 : Int32 × Mm) =>
  (sX12_feel x2 q80.2).bind fun (q85 : Int32 × Mm) =>
  some ((if q80.1 = q85.1 then ((s0 + s1) + 2) else ((s0 + s1) + 0)), q85.2))
def sX12_alike_46 (x1 : Int32) (x2 : Int32) (s0 : Int32) (s1 : Int32) (M : Mm) : Option (Int32 × Mm) :=
  (sX12_steep x1 M).bind fun (q51 : Int32 × Mm) =>
  (sX12_steep x2 q51.2).bind fun (q56 : Int32 × Mm) =>
  sX12_alike_67 x1 x2 (s0 + s1) (if q51.1 = q56.1 then 2 else 0) q56.2
def sX12_alike_24 (x1 : Int32) (x2 : Int32) (s0 : Int32) (M : Mm) : Option (Int32 × Mm) :=
  ck (inb x1 64) (ck (inb x2 64) (sX12_alike_46 x1 x2 s0 (if (M.1 197 x1.toNatClampNeg) = (M.1 197 x2.toNatClampNeg) then 4 else 0) M))
def sX12_alike (x1 : Int32) (x2 : Int32) (M : Mm) : Option (Int32 × Mm) :=
  (sX12_far x1 x2 M).bind fun (q3 : Int32 × Mm) =>
  if 6 ≤ q3.1 then
    (sX12_alike_24 x1 x2 0 q3.2)
  else ((sX12_far x1 x2 q3.2).bind fun (q16 : Int32 × Mm) =>
  sX12_alike_24 x1 x2 (6 - q16.1) q16.2)
def sX12_like (x1 : Int32) (x2 : Int32) (M : Mm) : Option (Int32 × Mm) :=
  (sX12_isCell x1 (sI M 194 2 0)).bind fun (q7 : Int32 × Mm) =>
  if q7.1 = 0 then
    (some ((-1), q7.2))
  else ((sX12_isCell x2 q7.2).bind fun (q15 : Int32 × Mm) =>
  if q15.1 = 0 then
    (some ((-1), q15.2))
  else ((sX12_alike x1 x2 q15.2).bind fun (q24 : Int32 × Mm) =>
  some (q24.1, q24.2)))
def sX12_reads_197 : Nat → Int32 → Int32 → Int32 → Mm → Option (Int32 × Mm)
  | 0, _, _, _, _ => none
  | F + 1, x1, x2, x8, M => if 8 ≤ x8 then
      (some (1, M))
    else (ck (inb x8 8) (ck (inb (((64 * x1) + (8 * x2)) + x8) 192) (sX12_reads_197 F x1 x2 (x8 + 1) (sI M 224 (((64 * x1) + (8 * x2)) + x8).toNatClampNeg (M.1 226 x8.toNatClampNeg)))))
def sX12_reads_169 : Nat → Int32 → Int32 → Int32 → Mm → Option (Int32 × Mm)
  | 0, _, _, _, _ => none
  | F + 1, x1, x2, x8, M => if 8 ≤ x8 then
      (sX12_reads_197 4096 x1 x2 0 M)
    else (ck (inb x8 8) (if (M.1 226 x8.toNatClampNeg) = 0 then
      (sX12_reads_169 F x1 x2 (x8 + 1) M)
    else (some (0, M))))
def sX12_reads_73 (k34 : Int32 → Int32 → Int32 → Int32 → Int32 → Int32 → Int32 → Int32 → Mm → Option (Int32 × Mm)) (x1 : Int32) (x2 : Int32) (x3 : Int32) (x4 : Int32) (x5 : Int32) (x6 : Int32) (x7 : Int32) (x8 : Int32) (s0 : Int32) (M : Mm) : Option (Int32 × Mm) :=
  if s0 < 0 then
    (some (0, M))
  else (if 16 < (s0 / 32) then
    (some (0, M))
  else (if (s0 - s0 / 32 * 32) ≤ 16 then
    (ck (inb (2 * x8) 8) (ck (inb ((2 * x8) + 1) 8) (k34 x1 x2 x3 x4 x5 x6 (x7 + ((s0 / 32) + (s0 - s0 / 32 * 32))) (x8 + 1) (sI (sI M 226 (2 * x8).toNatClampNeg (s0 / 32)) 226 ((2 * x8) + 1).toNatClampNeg (s0 - s0 / 32 * 32)))))
  else (some (0, M))))
def sX12_reads_34 : Nat → Int32 → Int32 → Int32 → Int32 → Int32 → Int32 → Int32 → Int32 → Mm → Option (Int32 × Mm)
  | 0, _, _, _, _, _, _, _, _, _ => none
  | F + 1, x1, x2, x3, x4, x5, x6, x7, x8, M => if 4 ≤ x8 then
      (if x7 = 16 then
        (sX12_reads_169 4096 x1 x2 (M.1 194 33) M)
      else (some (0, M)))
    else (sX12_reads_73 (sX12_reads_34 F) x1 x2 x3 x4 x5 x6 x7 x8 (if x8 = 0 then x3 else (if x8 = 1 then x4 else (if x8 = 2 then x5 else x6))) M)
def sX12_reads (x1 : Int32) (x2 : Int32) (x3 : Int32) (x4 : Int32) (x5 : Int32) (x6 : Int32) (M : Mm) : Option (Int32 × Mm) :=
  if x1 < 0 then
    (some (0, (sI M 194 2 0)))
  else (if 2 < x1 then
    (some (0, (sI M 194 2 0)))
  else (if x2 < 0 then
    (some (0, (sI M 194 2 0)))
  else (if x2 < ((sI M 194 2 0).1 194 33) then
    (sX12_reads_34 4096 x1 x2 x3 x4 x5 x6 0 0 (sI M 194 2 0))
  else (some (0, (sI M 194 2 0))))))
def sX12_value (x1 : Int32) (x2 : Int32) (M : Mm) : Option (Int32 × Mm) :=
  if x1 < 0 then
    (some (0, (sI M 194 2 0)))
  else (if ((sI M 194 2 0).1 194 33) ≤ x1 then
    (some (0, (sI M 194 2 0)))
  else (if x2 < 0 then
    (some (0, (sI M 194 2 0)))
  else (if x2 ≤ 9999 then
    (ck (inb x1 8) (some (1, (sI (sI M 194 2 0) 225 x1.toNatClampNeg x2))))
  else (some (0, (sI M 194 2 0))))))
def sX12_know_114 (k76 : Int32 → Mm → Option (Mm)) (x2 : Int32) (s1 : Int32) (s2 : Int32) (M : Mm) : Option (Mm) :=
  ck (inb s1 60) (k76 (x2 + 1) (sI M 227 s1.toNatClampNeg s2))
def sX12_know_113 (k76 : Int32 → Mm → Option (Mm)) (x2 : Int32) (s1 : Int32) (M : Mm) : Option (Mm) :=
  sX12_know_114 k76 x2 s1 (-1) M
def sX12_know_76 : Nat → Int32 → Mm → Option (Mm)
  | 0, _, _ => none
  | F + 1, x2, M => if 60 ≤ x2 then
      (some M)
    else (ck (inb x2 60) (if (M.1 207 x2.toNatClampNeg) = 0 then
      (sX12_know_113 (sX12_know_76 F) x2 x2 M)
    else (ck (inb x2 60) (if 0 ≤ (M.1 202 x2.toNatClampNeg) then
      (sX12_know_113 (sX12_know_76 F) x2 x2 M)
    else ((sX12_kindOf x2 M).bind fun (q107 : Int32 × Mm) =>
    sX12_know_114 (sX12_know_76 F) x2 x2 q107.1 q107.2)))))
def sX12_know_68 (k34 : Int32 → Mm → Option (Mm)) (x2 : Int32) (M : Mm) : Option (Mm) :=
  k34 (x2 + (-1)) M
def sX12_know_34 : Nat → Int32 → Mm → Option (Mm)
  | 0, _, _ => none
  | F + 1, x2, M => if x2 < 0 then
      (sX12_know_76 4096 0 M)
    else (ck (inb x2 60) (if (M.1 202 x2.toNatClampNeg) < 0 then
      (sX12_know_68 (sX12_know_34 F) x2 M)
    else (ck (inb x2 60) (if (M.1 207 x2.toNatClampNeg) = 0 then
      (sX12_know_68 (sX12_know_34 F) x2 M)
    else (ck (inb x2 60) (ck (inb (M.1 202 x2.toNatClampNeg) 60) (sX12_know_68 (sX12_know_34 F) x2 (sI M 207 (M.1 202 x2.toNatClampNeg).toNatClampNeg 0))))))))
def sX12_know_23 (k2 : Int32 → Int32 → Mm → Option (Mm)) (x1 : Int32) (x2 : Int32) (s1 : Int32) (s2 : Int32) (M : Mm) : Option (Mm) :=
  ck (inb s1 60) (ck (isb s2) (k2 x1 (x2 + 1) (sI M 207 s1.toNatClampNeg s2)))
def sX12_know_2 : Nat → Int32 → Int32 → Mm → Option (Mm)
  | 0, _, _, _ => none
  | F + 1, x1, x2, M => if 60 ≤ x2 then
      (sX12_know_34 4096 (x1 - 1) M)
    else (sX12_know_23 (sX12_know_2 F) x1 x2 x2 (if x1 ≤ x2 then 0 else 1) M)
def sX12_know (x1 : Int32) (M : Mm) : Option (Mm) :=
  sX12_know_2 4096 x1 0 M
def sX12_weigh_134 : Nat → Int32 → Mm → Option (Mm)
  | 0, _, _ => none
  | F + 1, x3, M => if (M.1 194 33) ≤ x3 then
      (some M)
    else (ck (inb x3 8) (sX12_weigh_134 F (x3 + 1) (sI M 194 66 ((M.1 194 66) + (M.1 228 x3.toNatClampNeg)))))
def sX12_weigh_126 (k30 : Int32 → Int32 → Int32 → Mm → Option (Mm)) (x1 : Int32) (x2 : Int32) (x3 : Int32) (M : Mm) : Option (Mm) :=
  k30 x1 x2 (x3 + 1) M
def sX12_weigh_71 (k30 : Int32 → Int32 → Int32 → Mm → Option (Mm)) : Nat → Int32 → Int32 → Int32 → Int32 → Int32 → Mm → Option (Mm)
  | 0, _, _, _, _, _, _ => none
  | F + 1, x1, x2, x3, x4, x5, M => if (M.1 194 33) ≤ x5 then
      (sX12_weigh_126 k30 x1 x2 x3 M)
    else (ck (inb x5 8) (ck (inb x3 60) (ck (inb x3 60) (ck (inb (((64 * (M.1 203 x3.toNatClampNeg)) + (8 * x5)) + (M.1 227 x3.toNatClampNeg)) 192) (ck (inb x5 8) (sX12_weigh_71 k30 F x1 x2 x3 x4 (x5 + 1) (sI M 228 x5.toNatClampNeg ((M.1 228 x5.toNatClampNeg) + (x4 * (M.1 224 (((64 * (M.1 203 x3.toNatClampNeg)) + (8 * x5)) + (M.1 227 x3.toNatClampNeg)).toNatClampNeg))))))))))
def sX12_weigh_30 : Nat → Int32 → Int32 → Int32 → Mm → Option (Mm)
  | 0, _, _, _, _ => none
  | F + 1, x1, x2, x3, M => if (M.1 194 26) ≤ x3 then
      (sX12_weigh_134 4096 0 M)
    else (ck (inb x3 60) (if (M.1 227 x3.toNatClampNeg) < 0 then
      (sX12_weigh_126 (sX12_weigh_30 F) x1 x2 x3 M)
    else (if x3 = x2 then
      (sX12_weigh_126 (sX12_weigh_30 F) x1 x2 x3 M)
    else (ck (inb x3 60) ((sX12_alike x1 (M.1 204 x3.toNatClampNeg) M).bind fun (q63 : Int32 × Mm) =>
    sX12_weigh_71 (sX12_weigh_30 F) 4096 x1 x2 x3 q63.1 0 q63.2)))))
def sX12_weigh_7 : Nat → Int32 → Int32 → Int32 → Mm → Option (Mm)
  | 0, _, _, _, _ => none
  | F + 1, x1, x2, x3, M => if (M.1 194 33) ≤ x3 then
      (sX12_weigh_30 4096 x1 x2 0 M)
    else (ck (inb x3 8) (sX12_weigh_7 F x1 x2 (x3 + 1) (sI M 228 x3.toNatClampNeg 1)))
def sX12_weigh (x1 : Int32) (x2 : Int32) (M : Mm) : Option (Mm) :=
  sX12_weigh_7 4096 x1 x2 0 (sI M 194 66 0)
def sX12_part (x1 : Int32) (M : Mm) : Option (Int32 × Mm) :=
  ck (inb x1 8) (ck (nz (M.1 194 66)) (some (((1000 * (M.1 228 x1.toNatClampNeg)) / (M.1 194 66)), M)))
def sX12_bestHere_32 (k4 : Int32 → Int32 → Mm → Option (Int32 × Mm)) (x2 : Int32) (s0 : Int32) (M : Mm) : Option (Int32 × Mm) :=
  k4 s0 (x2 + 1) M
def sX12_bestHere_4 : Nat → Int32 → Int32 → Mm → Option (Int32 × Mm)
  | 0, _, _, _ => none
  | F + 1, x1, x2, M => if (M.1 194 33) ≤ x2 then
      (some (x1, M))
    else (ck (inb x2 8) (ck (inb x1 8) (sX12_bestHere_32 (sX12_bestHere_4 F) x2 (if (M.1 228 x2.toNatClampNeg) ≤ (M.1 228 x1.toNatClampNeg) then x1 else x2) M)))
def sX12_bestHere (M : Mm) : Option (Int32 × Mm) :=
  sX12_bestHere_4 4096 0 1 M
def sX12_isKnown (x1 : Int32) (M : Mm) : Option (Int32 × Mm) :=
  some ((if x1 < 0 then 0 else (if (M.1 194 26) < x1 then 0 else 1)), M)
def sX12_chance_59 (x1 : Int32) (x2 : Int32) (x3 : Int32) (x4 : Int32) (M : Mm) : Option (Int32 × Mm) :=
  (sX12_know x1 M).bind fun (M61 : Mm) =>
  (sX12_weigh x2 (-1) M61).bind fun (M67 : Mm) =>
  if x4 = 0 then
    (ck (inb x3 8) (some ((M67.1 228 x3.toNatClampNeg), M67)))
  else if x4 = 1 then
    ((sX12_part x3 M67).bind fun (q113 : Int32 × Mm) =>
    some (q113.1, q113.2))
  else if x4 = 2 then
    ((sX12_bestHere M67).bind fun (q118 : Int32 × Mm) =>
    some (q118.1, q118.2))
  else if x4 = 3 then
    ((sX12_bestHere M67).bind fun (q127 : Int32 × Mm) =>
    (sX12_part q127.1 q127.2).bind fun (q130 : Int32 × Mm) =>
    some ((1000 - q130.1), q130.2))
  else (some ((M67.1 194 66), M67))
def sX12_chance (x1 : Int32) (x2 : Int32) (x3 : Int32) (x4 : Int32) (M : Mm) : Option (Int32 × Mm) :=
  (sX12_isKnown x1 (sI M 194 2 0)).bind fun (q7 : Int32 × Mm) =>
  if q7.1 = 0 then
    (some ((-1), q7.2))
  else ((sX12_isCell x2 q7.2).bind fun (q15 : Int32 × Mm) =>
  if q15.1 = 0 then
    (some ((-1), q15.2))
  else (if x4 < 0 then
    (some ((-1), q15.2))
  else (if 4 < x4 then
    (some ((-1), q15.2))
  else (if (q15.2.1 194 33) = 0 then
    (some ((-1), q15.2))
  else (if 2 ≤ x4 then
    (sX12_chance_59 x1 x2 x3 x4 q15.2)
  else (if x3 < 0 then
    (some ((-1), q15.2))
  else (if x3 < (q15.2.1 194 33) then
    (sX12_chance_59 x1 x2 x3 x4 q15.2)
  else (some ((-1), q15.2)))))))))
def sX12_leftOut_115 (k40 : Int32 → Int32 → Int32 → Int32 → Int32 → Mm → Option (Int32 × Mm)) (x2 : Int32) (x3 : Int32) (x4 : Int32) (x5 : Int32) (x6 : Int32) (M : Mm) : Option (Int32 × Mm) :=
  k40 x2 x3 x4 x5 (x6 + 1) M
def sX12_leftOut_99 (k40 : Int32 → Int32 → Int32 → Int32 → Int32 → Mm → Option (Int32 × Mm)) (x2 : Int32) (x3 : Int32) (x5 : Int32) (x6 : Int32) (s0 : Int32) (s1 : Int32) (M : Mm) : Option (Int32 × Mm) :=
  (sX12_bestHere M).bind fun (q106 : Int32 × Mm) =>
  (sX12_part q106.1 q106.2).bind fun (q109 : Int32 × Mm) =>
  sX12_leftOut_115 k40 x2 x3 (s0 + s1) (x5 + q109.1) x6 q109.2
def sX12_leftOut_40 : Nat → Int32 → Int32 → Int32 → Int32 → Int32 → Mm → Option (Int32 × Mm)
  | 0, _, _, _, _, _, _ => none
  | F + 1, x2, x3, x4, x5, x6, M => if (M.1 194 26) ≤ x6 then
      (some ((if x2 = 0 then x3 else (if x2 = 1 then x4 else x5)), M))
    else (ck (inb x6 60) (if 0 ≤ (M.1 227 x6.toNatClampNeg) then
      (ck (inb x6 60) ((sX12_weigh (M.1 204 x6.toNatClampNeg) x6 M).bind fun (M72 : Mm) =>
      (sX12_bestHere M72).bind fun (q81 : Int32 × Mm) =>
      ck (inb x6 60) (sX12_leftOut_99 (sX12_leftOut_40 F) x2 (x3 + 1) x5 x6 x4 (if q81.1 = (q81.2.1 227 x6.toNatClampNeg) then 1 else 0) q81.2)))
    else (sX12_leftOut_115 (sX12_leftOut_40 F) x2 x3 x4 x5 x6 M)))
def sX12_leftOut (x1 : Int32) (x2 : Int32) (M : Mm) : Option (Int32 × Mm) :=
  (sX12_isKnown x1 (sI M 194 2 0)).bind fun (q7 : Int32 × Mm) =>
  if q7.1 = 0 then
    (some ((-1), q7.2))
  else (if x2 < 0 then
    (some ((-1), q7.2))
  else (if x2 ≤ 2 then
    ((sX12_know x1 q7.2).bind fun (M26 : Mm) =>
    sX12_leftOut_40 4096 x2 0 0 0 0 M26)
  else (some ((-1), q7.2))))
def sX12_change (x1 : Int32) (x2 : Int32) (x3 : Int32) (M : Mm) : Option (Int32 × Mm) :=
  if x2 = x3 then
    (some (0, M))
  else (ck (inb x1 8) (ck (inb (M.1 231 x1.toNatClampNeg) 64) (ck (inb (x1 + 1) 8) (ck (inb (M.1 231 (x1 + 1).toNatClampNeg) 64) ((sX12_size ((M.1 196 (M.1 231 x1.toNatClampNeg).toNatClampNeg) - (M.1 196 (M.1 231 (x1 + 1).toNatClampNeg).toNatClampNeg)) M).bind fun (q32 : Int32 × Mm) =>
  some ((if q32.1 < (q32.2.1 194 10) then (q32.2.1 194 14) else (q32.2.1 194 15)), q32.2))))))
def sX12_onward_91 (k25 : Int32 → Int32 → Int32 → Int32 → Mm → Option (Int32 × Mm)) (x1 : Int32) (x2 : Int32) (x5 : Int32) (s0 : Int32) (M : Mm) : Option (Int32 × Mm) :=
  k25 x1 x2 s0 (x5 + 1) M
def sX12_onward_84 (k25 : Int32 → Int32 → Int32 → Int32 → Mm → Option (Int32 × Mm)) (x1 : Int32) (x2 : Int32) (x5 : Int32) (x6 : Int32) (M : Mm) : Option (Int32 × Mm) :=
  sX12_onward_91 k25 x1 x2 x5 x6 M
def sX12_onward_25 : Nat → Int32 → Int32 → Int32 → Int32 → Mm → Option (Int32 × Mm)
  | 0, _, _, _, _, _ => none
  | F + 1, x1, x2, x4, x5, M => if (M.1 194 33) ≤ x5 then
      (some (x4, M))
    else (ck (inb ((8 * x1) + x2) 64) ((sX12_change x1 x2 x5 M).bind fun (q50 : Int32 × Mm) =>
    ck (inb (((8 * x1) + 8) + x5) 72) (if x4 < 0 then
      (sX12_onward_84 (sX12_onward_25 F) x1 x2 x5 (((M.1 230 ((8 * x1) + x2).toNatClampNeg) + q50.1) + (q50.2.1 229 (((8 * x1) + 8) + x5).toNatClampNeg)) q50.2)
    else (if x4 ≤ (((M.1 230 ((8 * x1) + x2).toNatClampNeg) + q50.1) + (q50.2.1 229 (((8 * x1) + 8) + x5).toNatClampNeg)) then
      (sX12_onward_91 (sX12_onward_25 F) x1 x2 x5 x4 q50.2)
    else (sX12_onward_84 (sX12_onward_25 F) x1 x2 x5 (((M.1 230 ((8 * x1) + x2).toNatClampNeg) + q50.1) + (q50.2.1 229 (((8 * x1) + 8) + x5).toNatClampNeg)) q50.2)))))
def sX12_onward (x1 : Int32) (x2 : Int32) (x3 : Int32) (M : Mm) : Option (Int32 × Mm) :=
  if x1 = (x3 - 1) then
    (ck (inb ((8 * x1) + x2) 64) (some ((M.1 230 ((8 * x1) + x2).toNatClampNeg), M)))
  else (sX12_onward_25 4096 x1 x2 (-1) 0 M)
def sX12_draw_320 (k299 : Int32 → Int32 → Int32 → Mm → Option (Int32 × Mm)) : Nat → Int32 → Int32 → Int32 → Int32 → Int32 → Mm → Option (Int32 × Mm)
  | 0, _, _, _, _, _, _ => none
  | F + 1, x4, x6, x7, x8, x9, M => ck (inb (((8 * x7) - 8) + x8) 64) ((sX12_change (x7 - 1) x8 x9 M).bind fun (q345 : Int32 × Mm) =>
    ck (inb ((8 * x7) + x9) 72) (ck (inb (((8 * x7) - 8) + x8) 72) (if (((M.1 230 (((8 * x7) - 8) + x8).toNatClampNeg) + q345.1) + (q345.2.1 229 ((8 * x7) + x9).toNatClampNeg)) = (q345.2.1 229 (((8 * x7) - 8) + x8).toNatClampNeg) then
      (ck (inb x7 8) (k299 x4 x6 (x7 + 1) (sI q345.2 232 x7.toNatClampNeg x9)))
    else (sX12_draw_320 k299 F x4 x6 x7 x8 (x9 + 1) q345.2))))
def sX12_draw_299 : Nat → Int32 → Int32 → Int32 → Mm → Option (Int32 × Mm)
  | 0, _, _, _, _ => none
  | F + 1, x4, x6, x7, M => if x4 ≤ x7 then
      (some (x6, M))
    else (ck (inb (x7 - 1) 8) (sX12_draw_320 (sX12_draw_299 F) 4096 x4 x6 x7 (M.1 232 (x7 - 1).toNatClampNeg) 0 M))
def sX12_draw_265 (k232 : Int32 → Int32 → Int32 → Mm → Option (Int32 × Mm)) (x4 : Int32) (x6 : Int32) (s0 : Int32) (M : Mm) : Option (Int32 × Mm) :=
  k232 x4 s0 (x6 + 1) M
def sX12_draw_232 : Nat → Int32 → Int32 → Int32 → Mm → Option (Int32 × Mm)
  | 0, _, _, _, _ => none
  | F + 1, x4, x5, x6, M => if (M.1 194 33) ≤ x6 then
      (ck (inb x5 72) (ck (inb 0 8) (sX12_draw_299 4096 x4 (M.1 229 x5.toNatClampNeg) 1 (sI (sI M 194 70 x4) 232 ((0 : Int32).toNatClampNeg) x5))))
    else (ck (inb x6 72) (ck (inb x5 72) (sX12_draw_265 (sX12_draw_232 F) x4 x6 (if (M.1 229 x5.toNatClampNeg) ≤ (M.1 229 x6.toNatClampNeg) then x5 else x6) M)))
def sX12_draw_182 (k174 : Int32 → Int32 → Mm → Option (Int32 × Mm)) : Nat → Int32 → Int32 → Int32 → Mm → Option (Int32 × Mm)
  | 0, _, _, _, _ => none
  | F + 1, x4, x5, x6, M => if (M.1 194 33) ≤ x6 then
      (k174 x4 (x5 + (-1)) M)
    else ((sX12_onward x5 x6 x4 M).bind fun (q210 : Int32 × Mm) =>
    ck (inb ((8 * x5) + x6) 72) (sX12_draw_182 k174 F x4 x5 (x6 + 1) (sI q210.2 229 ((8 * x5) + x6).toNatClampNeg q210.1)))
def sX12_draw_174 : Nat → Int32 → Int32 → Mm → Option (Int32 × Mm)
  | 0, _, _, _ => none
  | F + 1, x4, x5, M => if x5 < 0 then
      (sX12_draw_232 4096 x4 0 1 M)
    else (sX12_draw_182 (sX12_draw_174 F) 4096 x4 x5 0 M)
def sX12_draw_124 (k70 : Int32 → Int32 → Int32 → Int32 → Mm → Option (Int32 × Mm)) : Nat → Int32 → Int32 → Int32 → Int32 → Int32 → Mm → Option (Int32 × Mm)
  | 0, _, _, _, _, _, _ => none
  | F + 1, x2, x3, x4, x5, x6, M => if (M.1 194 33) ≤ x6 then
      (k70 x2 x3 x4 (x5 + 1) M)
    else ((sX12_part x6 M).bind fun (q151 : Int32 × Mm) =>
    ck (inb ((8 * x5) + x6) 64) (sX12_draw_124 k70 F x2 x3 x4 x5 (x6 + 1) (sI q151.2 230 ((8 * x5) + x6).toNatClampNeg (1000 - q151.1))))
def sX12_draw_108 (k70 : Int32 → Int32 → Int32 → Int32 → Mm → Option (Int32 × Mm)) (x2 : Int32) (x3 : Int32) (x4 : Int32) (x5 : Int32) (s1 : Int32) (s2 : Int32) (M : Mm) : Option (Int32 × Mm) :=
  ck (inb s1 8) (ck (inb x5 8) ((sX12_weigh ((sI M 231 s1.toNatClampNeg s2).1 231 x5.toNatClampNeg) (-1) (sI M 231 s1.toNatClampNeg s2)).bind fun (M118 : Mm) =>
  sX12_draw_124 k70 4096 x2 x3 x4 x5 0 M118))
def sX12_draw_70 : Nat → Int32 → Int32 → Int32 → Int32 → Mm → Option (Int32 × Mm)
  | 0, _, _, _, _, _ => none
  | F + 1, x2, x3, x4, x5, M => if x4 ≤ x5 then
      (sX12_draw_174 4096 x4 (x4 - 1) M)
    else (sX12_draw_108 (sX12_draw_70 F) x2 x3 x4 x5 x5 (if x2 = 0 then (((M.1 194 3) * x3) + x5) else (((M.1 194 3) * x5) + x3)) M)
def sX12_draw_65 (x2 : Int32) (x3 : Int32) (s0 : Int32) (M : Mm) : Option (Int32 × Mm) :=
  sX12_draw_70 4096 x2 x3 s0 0 M
def sX12_draw_33 (x1 : Int32) (x2 : Int32) (x3 : Int32) (s0 : Int32) (s1 : Int32) (M : Mm) : Option (Int32 × Mm) :=
  if s1 ≤ s0 then
    (some ((-1), M))
  else (if (M.1 194 33) = 0 then
    (some ((-1), M))
  else ((sX12_know x1 M).bind fun (M47 : Mm) =>
  sX12_draw_65 x2 x3 (if x2 = 0 then (M47.1 194 3) else (M47.1 194 4)) M47))
def sX12_draw (x1 : Int32) (x2 : Int32) (x3 : Int32) (M : Mm) : Option (Int32 × Mm) :=
  (sX12_isKnown x1 (sI M 194 2 0)).bind fun (q7 : Int32 × Mm) =>
  if q7.1 = 0 then
    (some ((-1), q7.2))
  else (if x3 < 0 then
    (some ((-1), q7.2))
  else (sX12_draw_33 x1 x2 x3 x3 (if x2 = 0 then (q7.2.1 194 4) else (q7.2.1 194 3)) q7.2))
def sX12_drawn_17 (M : Mm) : Option (Int32 × Mm) :=
  some ((-1), M)
def sX12_drawn (x1 : Int32) (M : Mm) : Option (Int32 × Mm) :=
  if x1 < 0 then
    (sX12_drawn_17 (sI M 194 2 0))
  else (if x1 < ((sI M 194 2 0).1 194 70) then
    (ck (inb x1 8) (some (((sI M 194 2 0).1 232 x1.toNatClampNeg), (sI M 194 2 0))))
  else (sX12_drawn_17 (sI M 194 2 0)))
def sX12_steps (x1 : Int32) (x2 : Int32) (M : Mm) : Option (Int32 × Mm) :=
  ck (nz (M.1 194 3)) (ck (nz (M.1 194 3)) ((sX12_size ((x1 - x1 / (M.1 194 3) * (M.1 194 3)) - (x2 - x2 / (M.1 194 3) * (M.1 194 3))) M).bind fun (q13 : Int32 × Mm) =>
  ck (nz (q13.2.1 194 3)) (ck (nz (q13.2.1 194 3)) ((sX12_size ((x1 / (q13.2.1 194 3)) - (x2 / (q13.2.1 194 3))) q13.2).bind fun (q29 : Int32 × Mm) =>
  some ((q13.1 + q29.1), q29.2)))))
def sX12_mayBore (x1 : Int32) (M : Mm) : Option (Int32 × Mm) :=
  ck (inb x1 64) (some ((if (M.1 234 x1.toNatClampNeg) = 0 then 1 else 0), M))
def sX12_better_35 (x1 : Int32) (x2 : Int32) (x3 : Int32) (x4 : Int32) (x5 : Int32) (x6 : Int32) (M : Mm) : Option (Mm) :=
  ck (inb 0 3) (ck (inb 1 3) (ck (inb 2 3) (some (sI (sI (sI (sI (sI (sI (sI M 194 77 x6) 194 78 x5) 194 74 x1) 194 75 x5) 235 ((0 : Int32).toNatClampNeg) x2) 235 ((1 : Int32).toNatClampNeg) x3) 235 ((2 : Int32).toNatClampNeg) x4))))
def sX12_better (x1 : Int32) (x2 : Int32) (x3 : Int32) (x4 : Int32) (x5 : Int32) (x6 : Int32) (x7 : Int32) (M : Mm) : Option (Mm) :=
  if x7 < x5 then
    (some M)
  else (if x6 < (M.1 194 77) then
    (some M)
  else (if x6 = (M.1 194 77) then
    (if x5 < (M.1 194 78) then
      (sX12_better_35 x1 x2 x3 x4 x5 x6 M)
    else (some M))
  else (sX12_better_35 x1 x2 x3 x4 x5 x6 M)))
def sX12_plan_426 (k174 : Int32 → Int32 → Int32 → Int32 → Int32 → Mm → Option (Int32 × Mm)) (x1 : Int32) (x2 : Int32) (x3 : Int32) (x4 : Int32) (x5 : Int32) (M : Mm) : Option (Int32 × Mm) :=
  k174 x1 x2 x3 x4 (x5 + 1) M
def sX12_plan_420 (k174 : Int32 → Int32 → Int32 → Int32 → Int32 → Mm → Option (Int32 × Mm)) (k231 : Int32 → Int32 → Int32 → Int32 → Int32 → Int32 → Int32 → Mm → Option (Int32 × Mm)) (x1 : Int32) (x2 : Int32) (x3 : Int32) (x4 : Int32) (x5 : Int32) (x6 : Int32) (x7 : Int32) (M : Mm) : Option (Int32 × Mm) :=
  k231 x1 x2 x3 x4 x5 x6 (x7 + 1) M
def sX12_plan_414 (k174 : Int32 → Int32 → Int32 → Int32 → Int32 → Mm → Option (Int32 × Mm)) (k231 : Int32 → Int32 → Int32 → Int32 → Int32 → Int32 → Int32 → Mm → Option (Int32 × Mm)) (k318 : Int32 → Int32 → Int32 → Int32 → Int32 → Int32 → Int32 → Int32 → Int32 → Mm → Option (Int32 × Mm)) (x1 : Int32) (x2 : Int32) (x3 : Int32) (x4 : Int32) (x5 : Int32) (x6 : Int32) (x7 : Int32) (x8 : Int32) (x9 : Int32) (M : Mm) : Option (Int32 × Mm) :=
  k318 x1 x2 x3 x4 x5 x6 x7 x8 (x9 + 1) M
def sX12_plan_318 (k174 : Int32 → Int32 → Int32 → Int32 → Int32 → Mm → Option (Int32 × Mm)) (k231 : Int32 → Int32 → Int32 → Int32 → Int32 → Int32 → Int32 → Mm → Option (Int32 × Mm)) : Nat → Int32 → Int32 → Int32 → Int32 → Int32 → Int32 → Int32 → Int32 → Int32 → Mm → Option (Int32 × Mm)
  | 0, _, _, _, _, _, _, _, _, _, _ => none
  | F + 1, x1, x2, x3, x4, x5, x6, x7, x8, x9, M => if x4 ≤ x9 then
      (sX12_plan_420 k174 k231 x1 x2 x3 x4 x5 x6 x7 M)
    else (if x1 ≤ 2 then
      (sX12_plan_420 k174 k231 x1 x2 x3 x4 x5 x6 x7 M)
    else ((sX12_mayBore x9 M).bind fun (q333 : Int32 × Mm) =>
    if q333.1 = 0 then
      (sX12_plan_414 k174 k231 (sX12_plan_318 k174 k231 F) x1 x2 x3 x4 x5 x6 x7 x8 x9 q333.2)
    else ((sX12_far x5 x9 q333.2).bind fun (q344 : Int32 × Mm) =>
    if q344.1 < 2 then
      (sX12_plan_414 k174 k231 (sX12_plan_318 k174 k231 F) x1 x2 x3 x4 x5 x6 x7 x8 x9 q344.2)
    else ((sX12_far x7 x9 q344.2).bind fun (q356 : Int32 × Mm) =>
    if 2 ≤ q356.1 then
      ((sX12_steps x7 x9 q356.2).bind fun (q381 : Int32 × Mm) =>
      ck (inb x5 64) (ck (inb x7 64) (ck (inb x9 64) ((sX12_better 3 x5 x7 x9 ((x8 + q381.1) + 1) (((q381.2.1 233 x5.toNatClampNeg) + (q381.2.1 233 x7.toNatClampNeg)) + (q381.2.1 233 x9.toNatClampNeg)) x2 q381.2).bind fun (M411 : Mm) =>
      sX12_plan_414 k174 k231 (sX12_plan_318 k174 k231 F) x1 x2 x3 x4 x5 x6 x7 x8 x9 M411))))
    else (sX12_plan_414 k174 k231 (sX12_plan_318 k174 k231 F) x1 x2 x3 x4 x5 x6 x7 x8 x9 q356.2)))))
def sX12_plan_315 (k174 : Int32 → Int32 → Int32 → Int32 → Int32 → Mm → Option (Int32 × Mm)) (k231 : Int32 → Int32 → Int32 → Int32 → Int32 → Int32 → Int32 → Mm → Option (Int32 × Mm)) (x1 : Int32) (x2 : Int32) (x3 : Int32) (x4 : Int32) (x5 : Int32) (x6 : Int32) (x7 : Int32) (x8 : Int32) (M : Mm) : Option (Int32 × Mm) :=
  sX12_plan_318 k174 k231 4096 x1 x2 x3 x4 x5 x6 x7 x8 0 M
def sX12_plan_231 (k174 : Int32 → Int32 → Int32 → Int32 → Int32 → Mm → Option (Int32 × Mm)) : Nat → Int32 → Int32 → Int32 → Int32 → Int32 → Int32 → Int32 → Mm → Option (Int32 × Mm)
  | 0, _, _, _, _, _, _, _, _ => none
  | F + 1, x1, x2, x3, x4, x5, x6, x7, M => if x4 ≤ x7 then
      (sX12_plan_426 k174 x1 x2 x3 x4 x5 M)
    else (if x1 ≤ 1 then
      (sX12_plan_426 k174 x1 x2 x3 x4 x5 M)
    else ((sX12_mayBore x7 M).bind fun (q246 : Int32 × Mm) =>
    if q246.1 = 0 then
      (sX12_plan_420 k174 (sX12_plan_231 k174 F) x1 x2 x3 x4 x5 x6 x7 q246.2)
    else ((sX12_far x5 x7 q246.2).bind fun (q257 : Int32 × Mm) =>
    if 2 ≤ q257.1 then
      ((sX12_steps x5 x7 q257.2).bind fun (q274 : Int32 × Mm) =>
      if x1 = 2 then
        (ck (inb x5 64) (ck (inb x7 64) ((sX12_better 2 x5 x7 (-1) ((x6 + q274.1) + 1) ((q274.2.1 233 x5.toNatClampNeg) + (q274.2.1 233 x7.toNatClampNeg)) x2 q274.2).bind fun (M312 : Mm) =>
        sX12_plan_315 k174 (sX12_plan_231 k174 F) x1 x2 x3 x4 x5 x6 x7 ((x6 + q274.1) + 1) M312)))
      else (sX12_plan_315 k174 (sX12_plan_231 k174 F) x1 x2 x3 x4 x5 x6 x7 ((x6 + q274.1) + 1) q274.2))
    else (sX12_plan_420 k174 (sX12_plan_231 k174 F) x1 x2 x3 x4 x5 x6 x7 q257.2))))
def sX12_plan_228 (k174 : Int32 → Int32 → Int32 → Int32 → Int32 → Mm → Option (Int32 × Mm)) (x1 : Int32) (x2 : Int32) (x3 : Int32) (x4 : Int32) (x5 : Int32) (x6 : Int32) (M : Mm) : Option (Int32 × Mm) :=
  sX12_plan_231 k174 4096 x1 x2 x3 x4 x5 x6 0 M
def sX12_plan_174 : Nat → Int32 → Int32 → Int32 → Int32 → Int32 → Mm → Option (Int32 × Mm)
  | 0, _, _, _, _, _, _ => none
  | F + 1, x1, x2, x3, x4, x5, M => if x4 ≤ x5 then
      (some ((M.1 194 77), M))
    else ((sX12_mayBore x5 M).bind fun (q184 : Int32 × Mm) =>
    if q184.1 = 0 then
      (sX12_plan_426 (sX12_plan_174 F) x1 x2 x3 x4 x5 q184.2)
    else ((sX12_steps x3 x5 q184.2).bind fun (q197 : Int32 × Mm) =>
    if x1 = 1 then
      (ck (inb x5 64) ((sX12_better 1 x5 (-1) (-1) (q197.1 + 1) (q197.2.1 233 x5.toNatClampNeg) x2 q197.2).bind fun (M225 : Mm) =>
      sX12_plan_228 (sX12_plan_174 F) x1 x2 x3 x4 x5 (q197.1 + 1) M225))
    else (sX12_plan_228 (sX12_plan_174 F) x1 x2 x3 x4 x5 (q197.1 + 1) q197.2)))
def sX12_plan_155 (k123 : Int32 → Int32 → Int32 → Int32 → Int32 → Mm → Option (Int32 × Mm)) (x1 : Int32) (x2 : Int32) (x3 : Int32) (x4 : Int32) (x5 : Int32) (M : Mm) : Option (Int32 × Mm) :=
  k123 x1 x2 x3 x4 (x5 + 1) M
def sX12_plan_123 : Nat → Int32 → Int32 → Int32 → Int32 → Int32 → Mm → Option (Int32 × Mm)
  | 0, _, _, _, _, _, _ => none
  | F + 1, x1, x2, x3, x4, x5, M => if (M.1 194 26) ≤ x5 then
      (sX12_plan_174 4096 x1 x2 x3 x4 0 (sI (sI M 194 77 (-1)) 194 78 0))
    else (ck (inb x5 60) (if (M.1 227 x5.toNatClampNeg) < 0 then
      (sX12_plan_155 (sX12_plan_123 F) x1 x2 x3 x4 x5 M)
    else (ck (inb x5 60) (ck (inb (M.1 204 x5.toNatClampNeg) 64) (sX12_plan_155 (sX12_plan_123 F) x1 x2 x3 x4 x5 (sI M 234 (M.1 204 x5.toNatClampNeg).toNatClampNeg 1))))))
def sX12_plan_65 : Nat → Int32 → Int32 → Int32 → Int32 → Int32 → Mm → Option (Int32 × Mm)
  | 0, _, _, _, _, _, _ => none
  | F + 1, x1, x2, x3, x4, x5, M => if x4 ≤ x5 then
      (sX12_plan_123 4096 x1 x2 x3 x4 0 M)
    else (ck (inb x5 64) ((sX12_weigh x5 (-1) (sI M 234 x5.toNatClampNeg 0)).bind fun (M84 : Mm) =>
    (sX12_bestHere M84).bind fun (q98 : Int32 × Mm) =>
    (sX12_part q98.1 q98.2).bind fun (q101 : Int32 × Mm) =>
    ck (inb x5 64) (ck (inb x5 64) (sX12_plan_65 F x1 x2 x3 x4 (x5 + 1) (sI q101.2 233 x5.toNatClampNeg ((1000 - q101.1) * (q101.2.1 199 x5.toNatClampNeg)))))))
def sX12_plan (x1 : Int32) (x2 : Int32) (x3 : Int32) (M : Mm) : Option (Int32 × Mm) :=
  if x1 < 1 then
    (some ((-1), (sI M 194 2 0)))
  else (if 3 < x1 then
    (some ((-1), (sI M 194 2 0)))
  else (if x2 < 1 then
    (some ((-1), (sI M 194 2 0)))
  else (if 60 < x2 then
    (some ((-1), (sI M 194 2 0)))
  else ((sX12_isCell x3 (sI M 194 2 0)).bind fun (q28 : Int32 × Mm) =>
  if q28.1 = 0 then
    (some ((-1), q28.2))
  else (if (q28.2.1 194 33) = 0 then
    (some ((-1), q28.2))
  else ((sX12_know (q28.2.1 194 26) q28.2).bind fun (M48 : Mm) =>
  sX12_plan_65 4096 x1 x2 x3 ((M48.1 194 3) * (M48.1 194 4)) 0 M48))))))
def sX12_planned_30 (M : Mm) : Option (Int32 × Mm) :=
  some ((-1), M)
def sX12_planned (x1 : Int32) (x2 : Int32) (M : Mm) : Option (Int32 × Mm) :=
  if ((sI M 194 2 0).1 194 74) = 0 then
    (some ((-1), (sI M 194 2 0)))
  else (if x1 = 0 then
    (if x2 < 0 then
      (sX12_planned_30 (sI M 194 2 0))
    else (if x2 < ((sI M 194 2 0).1 194 74) then
      (ck (inb x2 3) (some (((sI M 194 2 0).1 235 x2.toNatClampNeg), (sI M 194 2 0))))
    else (sX12_planned_30 (sI M 194 2 0))))
  else (some ((if x1 = 1 then ((sI M 194 2 0).1 194 75) else (-1)), (sI M 194 2 0))))
def sX12_boresOf_47 (k5 : Int32 → Int32 → Int32 → Int32 → Mm → Option (Int32 × Mm)) (x1 : Int32) (x2 : Int32) (x4 : Int32) (s0 : Int32) (s1 : Int32) (M : Mm) : Option (Int32 × Mm) :=
  k5 x1 x2 (s0 + s1) (x4 + 1) M
def sX12_boresOf_46 (k5 : Int32 → Int32 → Int32 → Int32 → Mm → Option (Int32 × Mm)) (x1 : Int32) (x2 : Int32) (x4 : Int32) (s0 : Int32) (M : Mm) : Option (Int32 × Mm) :=
  sX12_boresOf_47 k5 x1 x2 x4 s0 0 M
def sX12_boresOf_5 : Nat → Int32 → Int32 → Int32 → Int32 → Mm → Option (Int32 × Mm)
  | 0, _, _, _, _, _ => none
  | F + 1, x1, x2, x3, x4, M => if (M.1 194 26) ≤ x4 then
      (some (x3, M))
    else (ck (inb x4 60) (if (M.1 227 x4.toNatClampNeg) = x2 then
      (ck (inb x4 60) (ck (inb (M.1 204 x4.toNatClampNeg) 64) (if (M.1 200 (M.1 204 x4.toNatClampNeg).toNatClampNeg) = x1 then
        (sX12_boresOf_47 (sX12_boresOf_5 F) x1 x2 x4 x3 1 M)
      else (sX12_boresOf_46 (sX12_boresOf_5 F) x1 x2 x4 x3 M))))
    else (sX12_boresOf_46 (sX12_boresOf_5 F) x1 x2 x4 x3 M)))
def sX12_boresOf (x1 : Int32) (x2 : Int32) (M : Mm) : Option (Int32 × Mm) :=
  sX12_boresOf_5 4096 x1 x2 0 0 M
def sX12_turnedTo_42 (k4 : Int32 → Int32 → Int32 → Mm → Option (Int32 × Mm)) (x1 : Int32) (x2 : Int32) (x3 : Int32) (M : Mm) : Option (Int32 × Mm) :=
  k4 x1 x2 (x3 + 1) M
def sX12_turnedTo_40 (k4 : Int32 → Int32 → Int32 → Mm → Option (Int32 × Mm)) (x1 : Int32) (x3 : Int32) (M : Mm) : Option (Int32 × Mm) :=
  sX12_turnedTo_42 k4 x1 x3 x3 M
def sX12_turnedTo_4 : Nat → Int32 → Int32 → Int32 → Mm → Option (Int32 × Mm)
  | 0, _, _, _, _ => none
  | F + 1, x1, x2, x3, M => if (M.1 194 33) ≤ x3 then
      (some (x2, M))
    else ((sX12_boresOf x1 x3 M).bind fun (q15 : Int32 × Mm) =>
    if q15.1 ≤ 0 then
      (sX12_turnedTo_42 (sX12_turnedTo_4 F) x1 x2 x3 q15.2)
    else (if x2 < 0 then
      (sX12_turnedTo_40 (sX12_turnedTo_4 F) x1 x3 q15.2)
    else ((sX12_boresOf x1 x2 q15.2).bind fun (q34 : Int32 × Mm) =>
    if q15.1 ≤ q34.1 then
      (sX12_turnedTo_42 (sX12_turnedTo_4 F) x1 x2 x3 q34.2)
    else (sX12_turnedTo_40 (sX12_turnedTo_4 F) x1 x3 q34.2))))
def sX12_turnedTo (x1 : Int32) (M : Mm) : Option (Int32 × Mm) :=
  sX12_turnedTo_4 4096 x1 (-1) 0 M
def sX12_turned (x1 : Int32) (x2 : Int32) (M : Mm) : Option (Int32 × Mm) :=
  if x1 < 0 then
    (some ((-2), (sI M 194 2 0)))
  else (if 5 < x1 then
    (some ((-2), (sI M 194 2 0)))
  else (if x2 < 0 then
    (some ((-2), (sI M 194 2 0)))
  else (if x2 ≤ 8 then
    ((sX12_know ((sI M 194 2 0).1 194 26) (sI M 194 2 0)).bind fun (M32 : Mm) =>
    if x2 = 8 then
      ((sX12_turnedTo x1 M32).bind fun (q43 : Int32 × Mm) =>
      some (q43.1, q43.2))
    else (if (M32.1 194 33) ≤ x2 then
      (some (0, M32))
    else ((sX12_boresOf x1 x2 M32).bind fun (q60 : Int32 × Mm) =>
    some (q60.1, q60.2))))
  else (some ((-2), (sI M 194 2 0))))))
def sX12_turnedAt (x1 : Int32) (M : Mm) : Option (Int32 × Mm) :=
  ck (inb x1 64) (if 0 ≤ (M.1 200 x1.toNatClampNeg) then
    (ck (inb x1 64) ((sX12_turnedTo (M.1 200 x1.toNatClampNeg) M).bind fun (q20 : Int32 × Mm) =>
    some (q20.1, q20.2)))
  else (some ((-1), M)))
def sX12_bestAt (x1 : Int32) (M : Mm) : Option (Int32 × Mm) :=
  (sX12_weigh x1 (-1) M).bind fun (M3 : Mm) =>
  (sX12_bestHere M3).bind fun (q7 : Int32 × Mm) =>
  some (q7.1, q7.2)
def sX12_maps_215 (k117 : Int32 → Int32 → Int32 → Int32 → Mm → Option (Int32 × Mm)) (x1 : Int32) (x2 : Int32) (x3 : Int32) (x4 : Int32) (M : Mm) : Option (Int32 × Mm) :=
  k117 x1 x2 x3 (x4 + 1) M
def sX12_maps_213 (k117 : Int32 → Int32 → Int32 → Int32 → Mm → Option (Int32 × Mm)) (x1 : Int32) (x2 : Int32) (x4 : Int32) (s0 : Int32) (s1 : Int32) (M : Mm) : Option (Int32 × Mm) :=
  sX12_maps_215 k117 x1 x2 (s0 + s1) x4 M
def sX12_maps_185 (k117 : Int32 → Int32 → Int32 → Int32 → Mm → Option (Int32 × Mm)) (x1 : Int32) (x2 : Int32) (x4 : Int32) (s0 : Int32) (s1 : Int32) (M : Mm) : Option (Int32 × Mm) :=
  sX12_maps_215 k117 x1 x2 (s0 + s1) x4 M
def sX12_maps_184 (k117 : Int32 → Int32 → Int32 → Int32 → Mm → Option (Int32 × Mm)) (x1 : Int32) (x2 : Int32) (x4 : Int32) (s0 : Int32) (M : Mm) : Option (Int32 × Mm) :=
  sX12_maps_185 k117 x1 x2 x4 s0 0 M
def sX12_maps_117 : Nat → Int32 → Int32 → Int32 → Int32 → Mm → Option (Int32 × Mm)
  | 0, _, _, _, _, _ => none
  | F + 1, x1, x2, x3, x4, M => if (M.1 194 4) ≤ x4 then
      (some (x3, M))
    else (if x1 = 1 then
      ((sX12_turnedAt (((M.1 194 3) * x4) + x2) M).bind fun (q146 : Int32 × Mm) =>
      if q146.1 < 0 then
        (sX12_maps_184 (sX12_maps_117 F) x1 x2 x4 x3 q146.2)
      else ((sX12_turnedAt ((((M.1 194 3) * x4) + x2) + 1) q146.2).bind fun (q157 : Int32 × Mm) =>
      if q157.1 < 0 then
        (sX12_maps_184 (sX12_maps_117 F) x1 x2 x4 x3 q157.2)
      else ((sX12_turnedAt (((M.1 194 3) * x4) + x2) q157.2).bind fun (q166 : Int32 × Mm) =>
      (sX12_turnedAt ((((M.1 194 3) * x4) + x2) + 1) q166.2).bind fun (q174 : Int32 × Mm) =>
      if q166.1 = q174.1 then
        (sX12_maps_184 (sX12_maps_117 F) x1 x2 x4 x3 q174.2)
      else (sX12_maps_185 (sX12_maps_117 F) x1 x2 x4 x3 1 q174.2))))
    else ((sX12_bestAt (((M.1 194 3) * x4) + x2) M).bind fun (q194 : Int32 × Mm) =>
    (sX12_bestAt ((((M.1 194 3) * x4) + x2) + 1) q194.2).bind fun (q202 : Int32 × Mm) =>
    sX12_maps_213 (sX12_maps_117 F) x1 x2 x4 x3 (if q194.1 = q202.1 then 0 else 1) q202.2))
def sX12_maps_104 (k60 : Int32 → Int32 → Mm → Option (Int32 × Mm)) (x4 : Int32) (s0 : Int32) (s1 : Int32) (M : Mm) : Option (Int32 × Mm) :=
  k60 (s0 + s1) (x4 + 1) M
def sX12_maps_103 (k60 : Int32 → Int32 → Mm → Option (Int32 × Mm)) (x4 : Int32) (s0 : Int32) (M : Mm) : Option (Int32 × Mm) :=
  sX12_maps_104 k60 x4 s0 0 M
def sX12_maps_60 : Nat → Int32 → Int32 → Mm → Option (Int32 × Mm)
  | 0, _, _, _ => none
  | F + 1, x3, x4, M => if ((M.1 194 3) * (M.1 194 4)) ≤ x4 then
      (some (x3, M))
    else ((sX12_turnedAt x4 M).bind fun (q78 : Int32 × Mm) =>
    if q78.1 < 0 then
      (sX12_maps_103 (sX12_maps_60 F) x4 x3 q78.2)
    else ((sX12_turnedAt x4 q78.2).bind fun (q87 : Int32 × Mm) =>
    (sX12_bestAt x4 q87.2).bind fun (q93 : Int32 × Mm) =>
    if q87.1 = q93.1 then
      (sX12_maps_104 (sX12_maps_60 F) x4 x3 1 q93.2)
    else (sX12_maps_103 (sX12_maps_60 F) x4 x3 q93.2)))
def sX12_maps_34 (x1 : Int32) (x2 : Int32) (M : Mm) : Option (Int32 × Mm) :=
  (sX12_know (M.1 194 26) M).bind fun (M39 : Mm) =>
  if (M39.1 194 33) = 0 then
    (some (0, M39))
  else (if x1 = 0 then
    (sX12_maps_60 4096 0 0 M39)
  else (sX12_maps_117 4096 x1 x2 0 0 M39))
def sX12_maps (x1 : Int32) (x2 : Int32) (M : Mm) : Option (Int32 × Mm) :=
  if x1 < 0 then
    (some ((-1), (sI M 194 2 0)))
  else (if 2 < x1 then
    (some ((-1), (sI M 194 2 0)))
  else (if x1 ≤ 0 then
    (sX12_maps_34 x1 x2 (sI M 194 2 0))
  else (if x2 < 0 then
    (some ((-1), (sI M 194 2 0)))
  else (if x2 < (((sI M 194 2 0).1 194 3) - 1) then
    (sX12_maps_34 x1 x2 (sI M 194 2 0))
  else (some ((-1), (sI M 194 2 0)))))))
def sX12_worth_211 (k52 : Int32 → Int32 → Int32 → Int32 → Mm → Option (Int32 × Mm)) (x1 : Int32) (x2 : Int32) (x3 : Int32) (x4 : Int32) (M : Mm) : Option (Int32 × Mm) :=
  k52 x1 x2 x3 (x4 + 1) M
def sX12_worth_209 (k52 : Int32 → Int32 → Int32 → Int32 → Mm → Option (Int32 × Mm)) (x1 : Int32) (x2 : Int32) (x4 : Int32) (s0 : Int32) (s1 : Int32) (M : Mm) : Option (Int32 × Mm) :=
  sX12_worth_211 k52 x1 x2 (s0 + s1) x4 M
def sX12_worth_173 (k52 : Int32 → Int32 → Int32 → Int32 → Mm → Option (Int32 × Mm)) (k105 : Int32 → Int32 → Int32 → Int32 → Int32 → Int64 → Int32 → Int32 → Mm → Option (Int32 × Mm)) (x1 : Int32) (x2 : Int32) (x3 : Int32) (x4 : Int32) (x5 : Int32) (y6 : Int64) (x9 : Int32) (s0 : Int32) (M : Mm) : Option (Int32 × Mm) :=
  k105 x1 x2 x3 x4 x5 y6 s0 (x9 + 1) M
def sX12_worth_168 (k52 : Int32 → Int32 → Int32 → Int32 → Mm → Option (Int32 × Mm)) (k105 : Int32 → Int32 → Int32 → Int32 → Int32 → Int64 → Int32 → Int32 → Mm → Option (Int32 × Mm)) (x1 : Int32) (x2 : Int32) (x3 : Int32) (x4 : Int32) (x5 : Int32) (y6 : Int64) (x9 : Int32) (M : Mm) : Option (Int32 × Mm) :=
  sX12_worth_173 k52 k105 x1 x2 x3 x4 x5 y6 x9 1 M
def sX12_worth_172 (k52 : Int32 → Int32 → Int32 → Int32 → Mm → Option (Int32 × Mm)) (k105 : Int32 → Int32 → Int32 → Int32 → Int32 → Int64 → Int32 → Int32 → Mm → Option (Int32 × Mm)) (x1 : Int32) (x2 : Int32) (x3 : Int32) (x4 : Int32) (x5 : Int32) (y6 : Int64) (x9 : Int32) (M : Mm) : Option (Int32 × Mm) :=
  sX12_worth_173 k52 k105 x1 x2 x3 x4 x5 y6 x9 0 M
def sX12_worth_105 (k52 : Int32 → Int32 → Int32 → Int32 → Mm → Option (Int32 × Mm)) : Nat → Int32 → Int32 → Int32 → Int32 → Int32 → Int64 → Int32 → Int32 → Mm → Option (Int32 × Mm)
  | 0, _, _, _, _, _, _, _, _, _ => none
  | F + 1, x1, x2, x3, x4, x5, y6, x8, x9, M => if (M.1 194 33) ≤ x9 then
      (if x1 = 1 then
        (ck (nzL ((M.1 194 66).toInt64)) (sX12_worth_209 k52 x1 x2 x4 x3 ((y6 / (M.1 194 66).toInt64).toInt32) M))
      else (sX12_worth_209 k52 x1 x2 x4 x3 (if x8 = 0 then 0 else 1) M))
    else (ck (inb x9 8) (ck (inb x9 8) (if x8 = 0 then
      ((sX12_part x9 M).bind fun (q144 : Int32 × Mm) =>
      if q144.1 < x2 then
        (sX12_worth_172 k52 (sX12_worth_105 k52 F) x1 x2 x3 x4 x5 (y6 + ((M.1 225 x9.toNatClampNeg).toInt64 * (M.1 228 x9.toNatClampNeg).toInt64)) x9 q144.2)
      else (ck (inb x9 8) (ck (inb x5 8) (if (q144.2.1 225 x9.toNatClampNeg) = (q144.2.1 225 x5.toNatClampNeg) then
        (sX12_worth_172 k52 (sX12_worth_105 k52 F) x1 x2 x3 x4 x5 (y6 + ((M.1 225 x9.toNatClampNeg).toInt64 * (M.1 228 x9.toNatClampNeg).toInt64)) x9 q144.2)
      else (sX12_worth_168 k52 (sX12_worth_105 k52 F) x1 x2 x3 x4 x5 (y6 + ((M.1 225 x9.toNatClampNeg).toInt64 * (M.1 228 x9.toNatClampNeg).toInt64)) x9 q144.2)))))
    else (sX12_worth_168 k52 (sX12_worth_105 k52 F) x1 x2 x3 x4 x5 (y6 + ((M.1 225 x9.toNatClampNeg).toInt64 * (M.1 228 x9.toNatClampNeg).toInt64)) x9 M))))
def sX12_worth_52 : Nat → Int32 → Int32 → Int32 → Int32 → Mm → Option (Int32 × Mm)
  | 0, _, _, _, _, _ => none
  | F + 1, x1, x2, x3, x4, M => if ((M.1 194 3) * (M.1 194 4)) ≤ x4 then
      (some (x3, M))
    else ((sX12_weigh x4 (-1) M).bind fun (M70 : Mm) =>
    (sX12_bestHere M70).bind fun (q74 : Int32 × Mm) =>
    if x1 = 0 then
      (ck (inb q74.1 8) (sX12_worth_211 (sX12_worth_52 F) x1 x2 (x3 + (q74.2.1 225 q74.1.toNatClampNeg)) x4 q74.2))
    else (sX12_worth_105 (sX12_worth_52 F) 4096 x1 x2 x3 x4 q74.1 0 0 0 q74.2))
def sX12_worth_30 (x1 : Int32) (x2 : Int32) (M : Mm) : Option (Int32 × Mm) :=
  if (M.1 194 33) = 0 then
    (some ((-1), M))
  else ((sX12_know (M.1 194 26) M).bind fun (M44 : Mm) =>
  sX12_worth_52 4096 x1 x2 0 0 M44)
def sX12_worth (x1 : Int32) (x2 : Int32) (M : Mm) : Option (Int32 × Mm) :=
  if x1 < 0 then
    (some ((-1), (sI M 194 2 0)))
  else (if 2 < x1 then
    (some ((-1), (sI M 194 2 0)))
  else (if x1 = 2 then
    (if x2 < 0 then
      (some ((-1), (sI M 194 2 0)))
    else (if 1000 < x2 then
      (some ((-1), (sI M 194 2 0)))
    else (sX12_worth_30 x1 x2 (sI M 194 2 0))))
  else (sX12_worth_30 x1 x2 (sI M 194 2 0))))
def sX12_latestOf_47 (k7 : Int32 → Int32 → Int32 → Mm → Option (Int32 × Mm)) (x1 : Int32) (x2 : Int32) (x3 : Int32) (M : Mm) : Option (Int32 × Mm) :=
  k7 x1 x2 (x3 + (-1)) M
def sX12_latestOf_7 : Nat → Int32 → Int32 → Int32 → Mm → Option (Int32 × Mm)
  | 0, _, _, _, _ => none
  | F + 1, x1, x2, x3, M => if x3 < 0 then
      (some ((-1), M))
    else (ck (inb x3 60) (if (M.1 227 x3.toNatClampNeg) < 0 then
      (sX12_latestOf_47 (sX12_latestOf_7 F) x1 x2 x3 M)
    else (ck (inb x3 60) (if (M.1 203 x3.toNatClampNeg) = x1 then
      (ck (inb x3 60) (if (M.1 204 x3.toNatClampNeg) = x2 then
        (ck (inb x3 60) (some ((M.1 227 x3.toNatClampNeg), M)))
      else (sX12_latestOf_47 (sX12_latestOf_7 F) x1 x2 x3 M)))
    else (sX12_latestOf_47 (sX12_latestOf_7 F) x1 x2 x3 M)))))
def sX12_latestOf (x1 : Int32) (x2 : Int32) (M : Mm) : Option (Int32 × Mm) :=
  sX12_latestOf_7 4096 x1 x2 ((M.1 194 26) - 1) M
def sX12_hands_283 : Nat → Int32 → Int32 → Int32 → Int32 → Int32 → Mm → Option (Int32 × Mm)
  | 0, _, _, _, _, _, _ => none
  | F + 1, x3, x7, x8, x9, x10, M => if x10 = 0 then
      (if x9 = 0 then
        (some (0, M))
      else (if x3 = 3 then
        (ck (nz x9) (some ((x7 / x9), M)))
      else (ck (nz x9) (some ((x8 / x9), M)))))
    else (ck (nz x10) (sX12_hands_283 F x3 x7 x8 x10 (x9 - x9 / x10 * x10) M))
def sX12_hands_189 : Nat → Int32 → Int32 → Int32 → Int32 → Int32 → Mm → Option (Int32 × Mm)
  | 0, _, _, _, _, _, _ => none
  | F + 1, x3, x4, x5, x6, x7, M => if 8 ≤ x7 then
      (if 3 ≤ x3 then
        ((sX12_size ((x5 * x4) - x6) M).bind fun (q271 : Int32 × Mm) =>
        (sX12_size ((x4 * x4) - x6) q271.2).bind fun (q278 : Int32 × Mm) =>
        sX12_hands_283 4096 x3 ((x5 * x4) - x6) ((x4 * x4) - x6) q271.1 q278.1 q278.2)
      else (some ((if x3 = 0 then x4 else (if x3 = 1 then x5 else x6)), M)))
    else (ck (inb x7 8) (ck (inb x7 8) (sX12_hands_189 F x3 x4 x5 (x6 + ((M.1 236 x7.toNatClampNeg) * (M.1 237 x7.toNatClampNeg))) (x7 + 1) M)))
def sX12_hands_177 (k90 : Int32 → Int32 → Int32 → Int32 → Int32 → Int32 → Mm → Option (Int32 × Mm)) (x1 : Int32) (x2 : Int32) (x3 : Int32) (x4 : Int32) (x5 : Int32) (x6 : Int32) (M : Mm) : Option (Int32 × Mm) :=
  k90 x1 x2 x3 x4 x5 (x6 + 1) M
def sX12_hands_152 (k90 : Int32 → Int32 → Int32 → Int32 → Int32 → Int32 → Mm → Option (Int32 × Mm)) (x1 : Int32) (x2 : Int32) (x3 : Int32) (x4 : Int32) (x6 : Int32) (x7 : Int32) (x8 : Int32) (s0 : Int32) (s1 : Int32) (M : Mm) : Option (Int32 × Mm) :=
  ck (inb x7 8) (ck (inb x7 8) (ck (inb x8 8) (ck (inb x8 8) (sX12_hands_177 k90 x1 x2 x3 x4 (s0 + s1) x6 (sI (sI M 236 x7.toNatClampNeg ((M.1 236 x7.toNatClampNeg) + 1)) 237 x8.toNatClampNeg (((sI M 236 x7.toNatClampNeg ((M.1 236 x7.toNatClampNeg) + 1)).1 237 x8.toNatClampNeg) + 1))))))
def sX12_hands_90 : Nat → Int32 → Int32 → Int32 → Int32 → Int32 → Int32 → Mm → Option (Int32 × Mm)
  | 0, _, _, _, _, _, _, _ => none
  | F + 1, x1, x2, x3, x4, x5, x6, M => if ((M.1 194 3) * (M.1 194 4)) ≤ x6 then
      (sX12_hands_189 4096 x3 x4 x5 0 0 M)
    else ((sX12_latestOf x1 x6 M).bind fun (q108 : Int32 × Mm) =>
    (sX12_latestOf x2 x6 q108.2).bind fun (q117 : Int32 × Mm) =>
    if q108.1 < 0 then
      (sX12_hands_177 (sX12_hands_90 F) x1 x2 x3 x4 x5 x6 q117.2)
    else (if 0 ≤ q117.1 then
      (sX12_hands_152 (sX12_hands_90 F) x1 x2 x3 (x4 + 1) x6 q108.1 q117.1 x5 (if q108.1 = q117.1 then 1 else 0) q117.2)
    else (sX12_hands_177 (sX12_hands_90 F) x1 x2 x3 x4 x5 x6 q117.2)))
def sX12_hands_52 : Nat → Int32 → Int32 → Int32 → Int32 → Mm → Option (Int32 × Mm)
  | 0, _, _, _, _, _ => none
  | F + 1, x1, x2, x3, x4, M => if 8 ≤ x4 then
      (sX12_hands_90 4096 x1 x2 x3 0 0 0 M)
    else (ck (inb x4 8) (ck (inb x4 8) (sX12_hands_52 F x1 x2 x3 (x4 + 1) (sI (sI M 236 x4.toNatClampNeg 0) 237 x4.toNatClampNeg 0))))
def sX12_hands (x1 : Int32) (x2 : Int32) (x3 : Int32) (M : Mm) : Option (Int32 × Mm) :=
  if x1 < 0 then
    (some ((-1000000), (sI M 194 2 0)))
  else (if 2 < x1 then
    (some ((-1000000), (sI M 194 2 0)))
  else (if x2 < 0 then
    (some ((-1000000), (sI M 194 2 0)))
  else (if 2 < x2 then
    (some ((-1000000), (sI M 194 2 0)))
  else (if x1 = x2 then
    (some ((-1000000), (sI M 194 2 0)))
  else (if x3 < 0 then
    (some ((-1000000), (sI M 194 2 0)))
  else (if x3 ≤ 4 then
    ((sX12_know ((sI M 194 2 0).1 194 26) (sI M 194 2 0)).bind fun (M46 : Mm) =>
    sX12_hands_52 4096 x1 x2 x3 0 M46)
  else (some ((-1000000), (sI M 194 2 0)))))))))
def sX12_count_115 (k92 : Int32 → Int32 → Mm → Option (Int32 × Mm)) (x3 : Int32) (s0 : Int32) (s1 : Int32) (M : Mm) : Option (Int32 × Mm) :=
  k92 (s0 + s1) (x3 + 1) M
def sX12_count_92 : Nat → Int32 → Int32 → Mm → Option (Int32 × Mm)
  | 0, _, _, _ => none
  | F + 1, x2, x3, M => if (M.1 194 26) ≤ x3 then
      (some (x2, M))
    else (ck (inb x3 60) (sX12_count_115 (sX12_count_92 F) x3 x2 (if (M.1 227 x3.toNatClampNeg) < 0 then 0 else 1) M))
def sX12_count (x1 : Int32) (M : Mm) : Option (Int32 × Mm) :=
  if x1 = 0 then
    (some (((sI M 194 2 0).1 194 3), (sI M 194 2 0)))
  else if x1 = 1 then
    (some (((sI M 194 2 0).1 194 4), (sI M 194 2 0)))
  else if x1 = 2 then
    (some (((sI M 194 2 0).1 194 26), (sI M 194 2 0)))
  else if x1 = 3 then
    (some (((sI M 194 2 0).1 194 33), (sI M 194 2 0)))
  else if x1 = 4 then
    (some (((sI M 194 2 0).1 194 34), (sI M 194 2 0)))
  else if x1 = 5 then
    (some (((sI M 194 2 0).1 194 35), (sI M 194 2 0)))
  else if x1 = 6 then
    ((sX12_know ((sI M 194 2 0).1 194 26) (sI M 194 2 0)).bind fun (M87 : Mm) =>
    sX12_count_92 4096 0 0 M87)
  else (some ((-1), (sI M 194 2 0)))
