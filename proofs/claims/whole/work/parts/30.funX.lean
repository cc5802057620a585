/-! the class, as functions -/
def f_X10_append_40 (k3 : Int32 → Int32 → Int32 → (Nat → Int32) → Option (Int32 × (Nat → Int32))) (v1 : Int32) (v2 : Int32) (x_tapeLength : Int32) (x_tape : Nat → Int32) : Option (Int32 × (Nat → Int32)) :=
  k3 v1 (v2 + (-8)) x_tapeLength x_tape
def f_X10_append_3 : Nat → Int32 → Int32 → Int32 → (Nat → Int32) → Option (Int32 × (Nat → Int32))
  | 0, _, _, _, _ => none
  | n + 1, v1, v2, x_tapeLength, x_tape =>
   if v2 < 0 then
    some (x_tapeLength, x_tape)
   else
    if 900 ≤ x_tapeLength then
     f_X10_append_40 (f_X10_append_3 n) v1 v2 x_tapeLength x_tape
    else
     if rf_ib x_tapeLength 900 = true then
     f_X10_append_40 (f_X10_append_3 n) v1 v2 (x_tapeLength + 1) (upd x_tape (Int32.toNatClampNeg x_tapeLength) (vp_nar .byte ((Int32.toInt8 (v1 >>> (v2 &&& 31))).toInt32)))
     else none
def f_X10_append (x_tapeLength : Int32) (x_tape : Nat → Int32) (v1 : Int32) : Option (Int32 × (Nat → Int32)) :=
  f_X10_append_3 rf_fu v1 24 x_tapeLength x_tape
def f_X10_feed (x_tapeLength : Int32) (x_tape : Nat → Int32) (v1 : Int32) (v2 : Int32) (v3 : Int32) (v4 : Int32) (v5 : Int32) : Option (Int32 × Int32 × (Nat → Int32)) :=
  if (x_tapeLength + 20) ≤ 900 then
   (f_X10_append x_tapeLength x_tape v1).bind fun z17 =>
   (f_X10_append z17.1 z17.2 v2).bind fun z22 =>
   (f_X10_append z22.1 z22.2 v3).bind fun z27 =>
   (f_X10_append z27.1 z27.2 v4).bind fun z33 =>
   (f_X10_append z33.1 z33.2 v5).bind fun z39 =>
   some (z39.1, z39.1, z39.2)
  else
   some ((-1), x_tapeLength, x_tape)
def f_X10_refuse (x_lastTrouble : Int32) (v1 : Int32) : Option (Int32 × Int32) :=
  some ((-1), v1)
def f_X10_refused_18 (s1 : Int32) (x_lastTrouble : Int32) : Option (Int32 × Int32) :=
  if s1 = 0 then
   some (0, s1)
  else
   some (1, s1)
def f_X10_refused (x_lastTrouble : Int32) (v1 : Int32) (v2 : Int32) : Option (Int32 × Int32) :=
  if v1 = 0 then
   f_X10_refused_18 1 x_lastTrouble
  else
   if v2 = 0 then
    f_X10_refused_18 2 x_lastTrouble
   else
    f_X10_refused_18 0 x_lastTrouble
def f_X2_begin (td_personCount : Int32) (td_firstFar : Int32) (td_firstWords : Nat → Int32) (now_hour : Int32) (now_paid : Int32) (now_everybody : Int32) (now_far : Int32) (now_words : Nat → Int32) (now_wet : Nat → Int32) : Option (Int32 × Int32 × Int32 × Int32 × (Nat → Int32) × (Nat → Int32)) :=
  if rf_cok 0 0 8 8 8 = true then
  some (0, 0, ((1 : Int32) <<< (td_personCount &&& 31)) - 1, td_firstFar, va_cpy td_firstWords now_words (Int32.toNatClampNeg 0) (Int32.toNatClampNeg 0) (Int32.toNatClampNeg 8), rf_fill 8 0 now_wet)
  else none
def f_X5_fail (reader_place : Int32) (reader_fault : Int32) (reader_faultPlace : Int32) (v1 : Int32) : Option (Int32 × Int32 × Int32) :=
  some (0, v1, reader_place)
def f_X5_lookAtDigits_108 (reader_end : Int32) (reader_place : Int32) (x_tape : Nat → Int32) (s1 : Int32) (reader_next : Int32) (reader_sort : Int32) (reader_length : Int32) (reader_whole : Int32) : Option (Int32 × Int32 × Int32 × Int32) :=
  some (reader_next, s1, reader_length, reader_whole)
def f_X5_lookAtDigits_81 (reader_end : Int32) (reader_place : Int32) (x_tape : Nat → Int32) (reader_next : Int32) (reader_sort : Int32) (reader_length : Int32) (reader_whole : Int32) : Option (Int32 × Int32 × Int32 × Int32) :=
  if 3 < (reader_next - reader_place) then
   f_X5_lookAtDigits_108 reader_end reader_place x_tape 4 reader_next reader_sort (reader_next - reader_place) reader_whole
  else
   f_X5_lookAtDigits_108 reader_end reader_place x_tape 2 reader_next reader_sort (reader_next - reader_place) reader_whole
def f_X5_lookAtDigits_5 (reader_end : Int32) (reader_place : Int32) (x_tape : Nat → Int32) : Nat → Int32 → Int32 → Int32 → Int32 → Option (Int32 × Int32 × Int32 × Int32)
  | 0, _, _, _, _ => none
  | n + 1, reader_next, reader_sort, reader_length, reader_whole =>
   if reader_end ≤ reader_next then
    f_X5_lookAtDigits_81 reader_end reader_place x_tape reader_next reader_sort reader_length reader_whole
   else
    if rf_ib reader_next 900 = true then
    if (x_tape (Int32.toNatClampNeg reader_next)) < 48 then
     f_X5_lookAtDigits_81 reader_end reader_place x_tape reader_next reader_sort reader_length reader_whole
    else
     if rf_ib reader_next 900 = true then
     if 57 < (x_tape (Int32.toNatClampNeg reader_next)) then
      f_X5_lookAtDigits_81 reader_end reader_place x_tape reader_next reader_sort reader_length reader_whole
     else
      if rf_ib reader_next 900 = true then
      f_X5_lookAtDigits_5 reader_end reader_place x_tape n (reader_next + 1) reader_sort reader_length ((reader_whole * 10) + ((x_tape (Int32.toNatClampNeg reader_next)) - 48))
      else none
     else none
    else none
def f_X5_lookAtDigits (reader_end : Int32) (reader_place : Int32) (x_tape : Nat → Int32) (reader_next : Int32) (reader_sort : Int32) (reader_length : Int32) (reader_whole : Int32) : Option (Int32 × Int32 × Int32 × Int32) :=
  f_X5_lookAtDigits_5 reader_end reader_place x_tape rf_fu reader_next reader_sort reader_length 0
def f_X5_lookAtLetters_111 (reader_end : Int32) (reader_place : Int32) (x_tape : Nat → Int32) (s1 : Int32) (reader_next : Int32) (reader_sort : Int32) (reader_length : Int32) (reader_letters : Int64) : Option (Int32 × Int32 × Int32 × Int64) :=
  some (reader_next, s1, reader_length, reader_letters)
def f_X5_lookAtLetters_83 (reader_end : Int32) (reader_place : Int32) (x_tape : Nat → Int32) (reader_next : Int32) (reader_sort : Int32) (reader_length : Int32) (reader_letters : Int64) : Option (Int32 × Int32 × Int32 × Int64) :=
  if 8 < (reader_next - reader_place) then
   f_X5_lookAtLetters_111 reader_end reader_place x_tape 4 reader_next reader_sort (reader_next - reader_place) reader_letters
  else
   f_X5_lookAtLetters_111 reader_end reader_place x_tape 1 reader_next reader_sort (reader_next - reader_place) reader_letters
def f_X5_lookAtLetters_5 (reader_end : Int32) (reader_place : Int32) (x_tape : Nat → Int32) : Nat → Int32 → Int32 → Int32 → Int64 → Option (Int32 × Int32 × Int32 × Int64)
  | 0, _, _, _, _ => none
  | n + 1, reader_next, reader_sort, reader_length, reader_letters =>
   if reader_end ≤ reader_next then
    f_X5_lookAtLetters_83 reader_end reader_place x_tape reader_next reader_sort reader_length reader_letters
   else
    if rf_ib reader_next 900 = true then
    if (x_tape (Int32.toNatClampNeg reader_next)) < 97 then
     f_X5_lookAtLetters_83 reader_end reader_place x_tape reader_next reader_sort reader_length reader_letters
    else
     if rf_ib reader_next 900 = true then
     if 122 < (x_tape (Int32.toNatClampNeg reader_next)) then
      f_X5_lookAtLetters_83 reader_end reader_place x_tape reader_next reader_sort reader_length reader_letters
     else
      if rf_ib reader_next 900 = true then
      f_X5_lookAtLetters_5 reader_end reader_place x_tape n (reader_next + 1) reader_sort reader_length ((reader_letters <<< ((Int32.toInt64 5) &&& 63)) + (Int32.toInt64 (((x_tape (Int32.toNatClampNeg reader_next)) - 97) + 1)))
      else none
     else none
    else none
def f_X5_lookAtLetters (reader_end : Int32) (reader_place : Int32) (x_tape : Nat → Int32) (reader_next : Int32) (reader_sort : Int32) (reader_length : Int32) (reader_letters : Int64) : Option (Int32 × Int32 × Int32 × Int64) :=
  f_X5_lookAtLetters_5 reader_end reader_place x_tape rf_fu reader_next reader_sort reader_length 0
def f_X5_look_123 (reader_end : Int32) (x_tape : Nat → Int32) (s1 : Int32) (reader_next : Int32) (reader_sort : Int32) (reader_place : Int32) (reader_length : Int32) (reader_letters : Int64) (reader_whole : Int32) : Option (Int32 × Int32 × Int32 × Int32 × Int64 × Int32) :=
  some (reader_next + 1, s1, reader_place, reader_length, reader_letters, reader_whole)
def f_X5_look_111 (reader_end : Int32) (x_tape : Nat → Int32) (v1 : Int32) (reader_next : Int32) (reader_sort : Int32) (reader_place : Int32) (reader_length : Int32) (reader_letters : Int64) (reader_whole : Int32) : Option (Int32 × Int32 × Int32 × Int32 × Int64 × Int32) :=
  if v1 = 59 then
   f_X5_look_123 reader_end x_tape 3 reader_next reader_sort reader_place reader_length reader_letters reader_whole
  else
   f_X5_look_123 reader_end x_tape 4 reader_next reader_sort reader_place reader_length reader_letters reader_whole
def f_X5_look_92 (reader_end : Int32) (x_tape : Nat → Int32) (v1 : Int32) (reader_next : Int32) (reader_sort : Int32) (reader_place : Int32) (reader_length : Int32) (reader_letters : Int64) (reader_whole : Int32) : Option (Int32 × Int32 × Int32 × Int32 × Int64 × Int32) :=
  if v1 < 48 then
   f_X5_look_111 reader_end x_tape v1 reader_next reader_sort reader_place reader_length reader_letters reader_whole
  else
   if 57 < v1 then
    f_X5_look_111 reader_end x_tape v1 reader_next reader_sort reader_place reader_length reader_letters reader_whole
   else
    (f_X5_lookAtDigits reader_end reader_place x_tape reader_next reader_sort reader_length reader_whole).bind fun z105 =>
    some (z105.1, z105.2.1, reader_place, z105.2.2.1, reader_letters, z105.2.2.2)
def f_X5_look_38 (reader_end : Int32) (x_tape : Nat → Int32) (reader_next : Int32) (reader_sort : Int32) (reader_place : Int32) (reader_length : Int32) (reader_letters : Int64) (reader_whole : Int32) : Option (Int32 × Int32 × Int32 × Int32 × Int64 × Int32) :=
  if reader_next < reader_end then
   if rf_ib reader_next 900 = true then
   if (x_tape (Int32.toNatClampNeg reader_next)) < 97 then
    f_X5_look_92 reader_end x_tape (x_tape (Int32.toNatClampNeg reader_next)) reader_next reader_sort reader_next reader_length reader_letters reader_whole
   else
    if 122 < (x_tape (Int32.toNatClampNeg reader_next)) then
     f_X5_look_92 reader_end x_tape (x_tape (Int32.toNatClampNeg reader_next)) reader_next reader_sort reader_next reader_length reader_letters reader_whole
    else
     (f_X5_lookAtLetters reader_end reader_next x_tape reader_next reader_sort reader_length reader_letters).bind fun z86 =>
     some (z86.1, z86.2.1, reader_next, z86.2.2.1, z86.2.2.2, reader_whole)
   else none
  else
   some (reader_next, 0, reader_next, reader_length, reader_letters, reader_whole)
def f_X5_look_0 (reader_end : Int32) (x_tape : Nat → Int32) : Nat → Int32 → Int32 → Int32 → Int32 → Int64 → Int32 → Option (Int32 × Int32 × Int32 × Int32 × Int64 × Int32)
  | 0, _, _, _, _, _, _ => none
  | n + 1, reader_next, reader_sort, reader_place, reader_length, reader_letters, reader_whole =>
   if reader_end ≤ reader_next then
    f_X5_look_38 reader_end x_tape reader_next reader_sort reader_place reader_length reader_letters reader_whole
   else
    if rf_ib reader_next 900 = true then
    if (x_tape (Int32.toNatClampNeg reader_next)) = 32 then
     f_X5_look_0 reader_end x_tape n (reader_next + 1) reader_sort reader_place reader_length reader_letters reader_whole
    else
     f_X5_look_38 reader_end x_tape reader_next reader_sort reader_place reader_length reader_letters reader_whole
    else none
def f_X5_look (reader_end : Int32) (x_tape : Nat → Int32) (reader_next : Int32) (reader_sort : Int32) (reader_place : Int32) (reader_length : Int32) (reader_letters : Int64) (reader_whole : Int32) : Option (Int32 × Int32 × Int32 × Int32 × Int64 × Int32) :=
  f_X5_look_0 reader_end x_tape rf_fu reader_next reader_sort reader_place reader_length reader_letters reader_whole
def f_X9_hoursTold_25 (k4 : Int32 → Int32 → Option (Int32)) (t_hourEars : Nat → Int32) (v2 : Int32) (s0 : Int32) (s1 : Int32) : Option (Int32) :=
  k4 (s0 + s1) (v2 + 1)
def f_X9_hoursTold_4 (t_hourEars : Nat → Int32) : Nat → Int32 → Int32 → Option (Int32)
  | 0, _, _ => none
  | n + 1, v1, v2 =>
   if 24 ≤ v2 then
    some v1
   else
    if rf_ib v2 24 = true then
    if (t_hourEars (Int32.toNatClampNeg v2)) ≤ 0 then
     f_X9_hoursTold_25 (f_X9_hoursTold_4 t_hourEars n) t_hourEars v2 v1 0
    else
     f_X9_hoursTold_25 (f_X9_hoursTold_4 t_hourEars n) t_hourEars v2 v1 1
    else none
def f_X9_hoursTold (t_hourEars : Nat → Int32) : Option (Int32) :=
  f_X9_hoursTold_4 t_hourEars rf_fu 0 0
def f_X5_isRoomFor_148 (td_wordCount : Int32) (td_personCount : Int32) (td_alikeCount : Int32) (td_gotCount : Int32) (reader_knowings : Int32) (td_hourEars : Nat → Int32) : Option (Int32) :=
  some 1
def f_X5_isRoomFor (td_wordCount : Int32) (td_personCount : Int32) (td_alikeCount : Int32) (td_gotCount : Int32) (reader_knowings : Int32) (td_hourEars : Nat → Int32) (v1 : Int32) : Option (Int32) :=
  if v1 = 2 then
   if 10 ≤ td_wordCount then
    some 0
   else
    some 1
  else
  if v1 = 3 then
   if 8 ≤ td_personCount then
    some 0
   else
    some 1
  else
  if v1 = 4 then
   if 8 ≤ reader_knowings then
    some 0
   else
    some 1
  else
  if v1 = 5 then
   if 4 ≤ td_alikeCount then
    some 0
   else
    some 1
  else
  if v1 = 6 then
   (f_X9_hoursTold td_hourEars).bind fun z116 =>
   if 8 ≤ z116 then
    some 0
   else
    some 1
  else
  if v1 = 7 then
   f_X5_isRoomFor_148 td_wordCount td_personCount td_alikeCount td_gotCount reader_knowings td_hourEars
  else
  if v1 = 8 then
   if 6 ≤ td_gotCount then
    some 0
   else
    some 1
  else
   f_X5_isRoomFor_148 td_wordCount td_personCount td_alikeCount td_gotCount reader_knowings td_hourEars
def f_X5_is_19 (reader_sort : Int32) (reader_length : Int32) (reader_letters : Int64) : Option (Int32) :=
  some 0
def f_X5_is_26 (reader_sort : Int32) (reader_length : Int32) (reader_letters : Int64) : Nat → Nat → Int64 → Int32 → Option (Int32)
  | 0, _, _, _ => none
  | n + 1, v1, v2, v4 =>
   if reader_length ≤ v4 then
    if (lg_cmp v2 reader_letters) = 0 then
     some 1
    else
     some 0
   else
    if rf_ib v4 (rf_len v1) = true then
    f_X5_is_26 reader_sort reader_length reader_letters n v1 ((v2 <<< ((Int32.toInt64 5) &&& 63)) + (Int32.toInt64 (((rf_byt v1 (Int32.toNatClampNeg v4)) - 97) + 1))) (v4 + 1)
    else none
def f_X5_is (reader_sort : Int32) (reader_length : Int32) (reader_letters : Int64) (v1 : Nat) : Option (Int32) :=
  if reader_sort = 1 then
   if reader_length = (nI (rf_len v1)) then
    f_X5_is_26 reader_sort reader_length reader_letters rf_fu v1 0 0
   else
    f_X5_is_19 reader_sort reader_length reader_letters
  else
   f_X5_is_19 reader_sort reader_length reader_letters
def f_X5_lineBegun (reader_sort : Int32) (reader_length : Int32) (reader_letters : Int64) : Option (Int32) :=
  (f_X5_is reader_sort reader_length reader_letters 0).bind fun z3 =>
  if z3 = 0 then
   (f_X5_is reader_sort reader_length reader_letters 1).bind fun z14 =>
   if z14 = 0 then
    (f_X5_is reader_sort reader_length reader_letters 2).bind fun z25 =>
    if z25 = 0 then
     (f_X5_is reader_sort reader_length reader_letters 3).bind fun z36 =>
     if z36 = 0 then
      (f_X5_is reader_sort reader_length reader_letters 4).bind fun z47 =>
      if z47 = 0 then
       (f_X5_is reader_sort reader_length reader_letters 5).bind fun z58 =>
       if z58 = 0 then
        (f_X5_is reader_sort reader_length reader_letters 6).bind fun z70 =>
        if z70 = 0 then
         (f_X5_is reader_sort reader_length reader_letters 7).bind fun z82 =>
         if z82 = 0 then
          some 0
         else
          some 8
        else
         some 7
       else
        some 6
      else
       some 5
     else
      some 4
    else
     some 3
   else
    some 2
  else
   some 1
def f_X5_seesLetter_33 (reader_sort : Int32) (reader_place : Int32) (reader_length : Int32) (reader_letters : Int64) (reader_found : Int32) (reader_fault : Int32) (reader_faultPlace : Int32) : Option (Int32 × Int32 × Int32 × Int32) :=
  (f_X5_fail reader_place reader_fault reader_faultPlace 7).bind fun z36 =>
  if rf_zb z36.1 = true then
  some (z36.1, reader_found, z36.2.1, z36.2.2)
  else none
def f_X5_seesLetter (reader_sort : Int32) (reader_place : Int32) (reader_length : Int32) (reader_letters : Int64) (reader_found : Int32) (reader_fault : Int32) (reader_faultPlace : Int32) : Option (Int32 × Int32 × Int32 × Int32) :=
  if reader_sort = 1 then
   if reader_length = 1 then
    if (lg_cmp reader_letters 8) ≤ 0 then
     some (1, Int64.toInt32 reader_letters, reader_fault, reader_faultPlace)
    else
     f_X5_seesLetter_33 reader_sort reader_place reader_length reader_letters reader_found reader_fault reader_faultPlace
   else
    f_X5_seesLetter_33 reader_sort reader_place reader_length reader_letters reader_found reader_fault reader_faultPlace
  else
   (f_X5_fail reader_place reader_fault reader_faultPlace 1).bind fun z10 =>
   if rf_zb z10.1 = true then
   some (z10.1, reader_found, z10.2.1, z10.2.2)
   else none
def f_X9_addAlike (t_alikeCount : Int32) (t_alikes : Nat → Int32) (v1 : Int32) (v2 : Int32) : Option (Int32 × (Nat → Int32)) :=
  if rf_ib (v1 &&& 31) 32 = true then
  if rf_ib (v1 &&& 31) 32 = true then
  if rf_ib (v2 &&& 31) 32 = true then
  if rf_ib (v2 &&& 31) 32 = true then
  some (t_alikeCount + 1, upd (upd t_alikes (Int32.toNatClampNeg (v1 &&& 31)) ((t_alikes (Int32.toNatClampNeg (v1 &&& 31))) ||| ((1 : Int32) <<< (v2 &&& 31)))) (Int32.toNatClampNeg (v2 &&& 31)) (((upd t_alikes (Int32.toNatClampNeg (v1 &&& 31)) ((t_alikes (Int32.toNatClampNeg (v1 &&& 31))) ||| ((1 : Int32) <<< (v2 &&& 31)))) (Int32.toNatClampNeg (v2 &&& 31))) ||| ((1 : Int32) <<< (v1 &&& 31))))
  else none
  else none
  else none
  else none
def f_X10_holds (v0 : Int32) (v1 : Int32) : Option (Int32) :=
  if ((v0 >>> (v1 &&& 31)) &&& 1) = 1 then
   some 1
  else
   some 0
def f_X9_isAlike_21 (t_alikes : Nat → Int32) : Option (Int32) :=
  some 1
def f_X9_isAlike (t_alikes : Nat → Int32) (v1 : Int32) (v2 : Int32) : Option (Int32) :=
  if v1 = v2 then
   f_X9_isAlike_21 t_alikes
  else
   if rf_ib (v1 &&& 31) 32 = true then
   (f_X10_holds (t_alikes (Int32.toNatClampNeg (v1 &&& 31))) v2).bind fun z15 =>
   if z15 = 0 then
    some 0
   else
    f_X9_isAlike_21 t_alikes
   else none
def f_X5_readAlike (reader_end : Int32) (x_tape : Nat → Int32) (td_alikeCount : Int32) (reader_next : Int32) (reader_sort : Int32) (reader_place : Int32) (reader_length : Int32) (reader_letters : Int64) (reader_whole : Int32) (reader_found : Int32) (reader_fault : Int32) (reader_faultPlace : Int32) (td_alikes : Nat → Int32) : Option (Int32 × Int32 × Int32 × Int32 × Int32 × Int32 × Int64 × Int32 × Int32 × Int32 × Int32 × (Nat → Int32)) :=
  (f_X5_seesLetter reader_sort reader_place reader_length reader_letters reader_found reader_fault reader_faultPlace).bind fun z1 =>
  if z1.1 = 0 then
   some (0, td_alikeCount, reader_next, reader_sort, reader_place, reader_length, reader_letters, reader_whole, z1.2.1, z1.2.2.1, z1.2.2.2, td_alikes)
  else
   (f_X5_look reader_end x_tape reader_next reader_sort reader_place reader_length reader_letters reader_whole).bind fun z15 =>
   (f_X5_seesLetter z15.2.1 z15.2.2.1 z15.2.2.2.1 z15.2.2.2.2.1 z1.2.1 z1.2.2.1 z1.2.2.2).bind fun z19 =>
   if z19.1 = 0 then
    some (0, td_alikeCount, z15.1, z15.2.1, z15.2.2.1, z15.2.2.2.1, z15.2.2.2.2.1, z15.2.2.2.2.2, z19.2.1, z19.2.2.1, z19.2.2.2, td_alikes)
   else
    (f_X9_isAlike td_alikes z1.2.1 z19.2.1).bind fun z36 =>
    if z36 = 0 then
     (f_X5_look reader_end x_tape z15.1 z15.2.1 z15.2.2.1 z15.2.2.2.1 z15.2.2.2.2.1 z15.2.2.2.2.2).bind fun z49 =>
     (f_X9_addAlike td_alikeCount td_alikes z1.2.1 z19.2.1).bind fun z61 =>
     some (1, z61.1, z49.1, z49.2.1, z49.2.2.1, z49.2.2.2.1, z49.2.2.2.2.1, z49.2.2.2.2.2, z19.2.1, z19.2.2.1, z19.2.2.2, z61.2)
    else
     (f_X5_fail z15.2.2.1 z19.2.2.1 z19.2.2.2 3).bind fun z44 =>
     if rf_zb z44.1 = true then
     some (z44.1, td_alikeCount, z15.1, z15.2.1, z15.2.2.1, z15.2.2.2.1, z15.2.2.2.2.1, z15.2.2.2.2.2, z19.2.1, z44.2.1, z44.2.2, td_alikes)
     else none
def f_X9_personNamed_2 (t_personCount : Int32) (t_personNames : Nat → Int64) : Nat → Int64 → Int32 → Option (Int32)
  | 0, _, _ => none
  | n + 1, v1, v3 =>
   if t_personCount ≤ v3 then
    some (-1)
   else
    if rf_ib v3 8 = true then
    if (lg_cmp (t_personNames (Int32.toNatClampNeg v3)) v1) = 0 then
     some v3
    else
     f_X9_personNamed_2 t_personCount t_personNames n v1 (v3 + 1)
    else none
def f_X9_personNamed (t_personCount : Int32) (t_personNames : Nat → Int64) (v1 : Int64) : Option (Int32) :=
  f_X9_personNamed_2 t_personCount t_personNames rf_fu v1 0
def f_X5_seesToldPerson_15 (td_personCount : Int32) (reader_sort : Int32) (reader_place : Int32) (reader_length : Int32) (reader_letters : Int64) (td_personNames : Nat → Int64) (reader_found : Int32) (reader_fault : Int32) (reader_faultPlace : Int32) : Option (Int32 × Int32 × Int32 × Int32) :=
  (f_X5_fail reader_place reader_fault reader_faultPlace 1).bind fun z17 =>
  if rf_zb z17.1 = true then
  some (z17.1, reader_found, z17.2.1, z17.2.2)
  else none
def f_X5_seesToldPerson_52 (td_personCount : Int32) (reader_sort : Int32) (reader_place : Int32) (reader_length : Int32) (reader_letters : Int64) (td_personNames : Nat → Int64) (reader_found : Int32) (reader_fault : Int32) (reader_faultPlace : Int32) : Option (Int32 × Int32 × Int32 × Int32) :=
  some (1, reader_found, reader_fault, reader_faultPlace)
def f_X5_seesToldPerson (td_personCount : Int32) (reader_sort : Int32) (reader_place : Int32) (reader_length : Int32) (reader_letters : Int64) (td_personNames : Nat → Int64) (reader_found : Int32) (reader_fault : Int32) (reader_faultPlace : Int32) : Option (Int32 × Int32 × Int32 × Int32) :=
  if reader_sort = 1 then
   (f_X5_lineBegun reader_sort reader_length reader_letters).bind fun z9 =>
   if z9 = 0 then
    (f_X9_personNamed td_personCount td_personNames reader_letters).bind fun z30 =>
    if z30 = (-1) then
     (f_X5_fail reader_place reader_fault reader_faultPlace 2).bind fun z46 =>
     if z46.1 = 0 then
      some (0, z30, z46.2.1, z46.2.2)
     else
      f_X5_seesToldPerson_52 td_personCount reader_sort reader_place reader_length reader_letters td_personNames z30 z46.2.1 z46.2.2
    else
     f_X5_seesToldPerson_52 td_personCount reader_sort reader_place reader_length reader_letters td_personNames z30 reader_fault reader_faultPlace
   else
    f_X5_seesToldPerson_15 td_personCount reader_sort reader_place reader_length reader_letters td_personNames reader_found reader_fault reader_faultPlace
  else
   f_X5_seesToldPerson_15 td_personCount reader_sort reader_place reader_length reader_letters td_personNames reader_found reader_fault reader_faultPlace
def f_X5_takes (reader_end : Int32) (x_tape : Nat → Int32) (reader_next : Int32) (reader_sort : Int32) (reader_place : Int32) (reader_length : Int32) (reader_letters : Int64) (reader_whole : Int32) (reader_fault : Int32) (reader_faultPlace : Int32) (v1 : Nat) : Option (Int32 × Int32 × Int32 × Int32 × Int32 × Int64 × Int32 × Int32 × Int32) :=
  (f_X5_is reader_sort reader_length reader_letters v1).bind fun z2 =>
  if z2 = 0 then
   (f_X5_fail reader_place reader_fault reader_faultPlace 1).bind fun z10 =>
   if rf_zb z10.1 = true then
   some (z10.1, reader_next, reader_sort, reader_place, reader_length, reader_letters, reader_whole, z10.2.1, z10.2.2)
   else none
  else
   (f_X5_look reader_end x_tape reader_next reader_sort reader_place reader_length reader_letters reader_whole).bind fun z15 =>
   some (1, z15.1, z15.2.1, z15.2.2.1, z15.2.2.2.1, z15.2.2.2.2.1, z15.2.2.2.2.2, reader_fault, reader_faultPlace)
def f_X5_seesWhole_38 (reader_sort : Int32) (reader_place : Int32) (reader_whole : Int32) (reader_fault : Int32) (reader_faultPlace : Int32) : Option (Int32 × Int32 × Int32) :=
  some (1, reader_fault, reader_faultPlace)
def f_X5_seesWhole_30 (reader_sort : Int32) (reader_place : Int32) (reader_whole : Int32) (reader_fault : Int32) (reader_faultPlace : Int32) : Option (Int32 × Int32 × Int32) :=
  (f_X5_fail reader_place reader_fault reader_faultPlace 4).bind fun z32 =>
  if z32.1 = 0 then
   some (0, z32.2.1, z32.2.2)
  else
   f_X5_seesWhole_38 reader_sort reader_place reader_whole z32.2.1 z32.2.2
def f_X5_seesWhole (reader_sort : Int32) (reader_place : Int32) (reader_whole : Int32) (reader_fault : Int32) (reader_faultPlace : Int32) (v1 : Int32) (v2 : Int32) : Option (Int32 × Int32 × Int32) :=
  if reader_sort = 2 then
   if reader_whole < v1 then
    f_X5_seesWhole_30 reader_sort reader_place reader_whole reader_fault reader_faultPlace
   else
    if reader_whole ≤ v2 then
     f_X5_seesWhole_38 reader_sort reader_place reader_whole reader_fault reader_faultPlace
    else
     f_X5_seesWhole_30 reader_sort reader_place reader_whole reader_fault reader_faultPlace
  else
   (f_X5_fail reader_place reader_fault reader_faultPlace 1).bind fun z10 =>
   if rf_zb z10.1 = true then
   some (z10.1, z10.2.1, z10.2.2)
   else none
def f_X5_takesWhole (reader_end : Int32) (x_tape : Nat → Int32) (reader_next : Int32) (reader_sort : Int32) (reader_place : Int32) (reader_length : Int32) (reader_letters : Int64) (reader_whole : Int32) (reader_number : Int32) (reader_fault : Int32) (reader_faultPlace : Int32) (v1 : Int32) (v2 : Int32) : Option (Int32 × Int32 × Int32 × Int32 × Int32 × Int64 × Int32 × Int32 × Int32 × Int32) :=
  (f_X5_seesWhole reader_sort reader_place reader_whole reader_fault reader_faultPlace v1 v2).bind fun z3 =>
  if z3.1 = 0 then
   some (0, reader_next, reader_sort, reader_place, reader_length, reader_letters, reader_whole, reader_number, z3.2.1, z3.2.2)
  else
   (f_X5_look reader_end x_tape reader_next reader_sort reader_place reader_length reader_letters reader_whole).bind fun z20 =>
   some (1, z20.1, z20.2.1, z20.2.2.1, z20.2.2.2.1, z20.2.2.2.2.1, z20.2.2.2.2.2, reader_whole, z3.2.1, z3.2.2)
def f_X5_readErrand_54 (td_personCount : Int32) (reader_end : Int32) (x_tape : Nat → Int32) (td_personNames : Nat → Int64) (reader_next : Int32) (reader_sort : Int32) (reader_place : Int32) (reader_length : Int32) (reader_letters : Int64) (reader_whole : Int32) (reader_number : Int32) (reader_found : Int32) (reader_fault : Int32) (reader_faultPlace : Int32) (td_errands : Nat → Int32) : Option (Int32 × Int32 × Int32 × Int32 × Int32 × Int64 × Int32 × Int32 × Int32 × Int32 × Int32 × (Nat → Int32)) :=
  some (0, reader_next, reader_sort, reader_place, reader_length, reader_letters, reader_whole, reader_number, reader_found, reader_fault, reader_faultPlace, td_errands)
def f_X5_readErrand (td_personCount : Int32) (reader_end : Int32) (x_tape : Nat → Int32) (td_personNames : Nat → Int64) (reader_next : Int32) (reader_sort : Int32) (reader_place : Int32) (reader_length : Int32) (reader_letters : Int64) (reader_whole : Int32) (reader_number : Int32) (reader_found : Int32) (reader_fault : Int32) (reader_faultPlace : Int32) (td_errands : Nat → Int32) : Option (Int32 × Int32 × Int32 × Int32 × Int32 × Int64 × Int32 × Int32 × Int32 × Int32 × Int32 × (Nat → Int32)) :=
  (f_X5_seesToldPerson td_personCount reader_sort reader_place reader_length reader_letters td_personNames reader_found reader_fault reader_faultPlace).bind fun z1 =>
  if z1.1 = 0 then
   some (0, reader_next, reader_sort, reader_place, reader_length, reader_letters, reader_whole, reader_number, z1.2.1, z1.2.2.1, z1.2.2.2, td_errands)
  else
   if rf_ib z1.2.1 8 = true then
   if (td_errands (Int32.toNatClampNeg z1.2.1)) ≤ 0 then
    (f_X5_look reader_end x_tape reader_next reader_sort reader_place reader_length reader_letters reader_whole).bind fun z33 =>
    (f_X5_takes reader_end x_tape z33.1 z33.2.1 z33.2.2.1 z33.2.2.2.1 z33.2.2.2.2.1 z33.2.2.2.2.2 z1.2.2.1 z1.2.2.2 20).bind fun z39 =>
    if z39.1 = 0 then
     f_X5_readErrand_54 td_personCount reader_end x_tape td_personNames z39.2.1 z39.2.2.1 z39.2.2.2.1 z39.2.2.2.2.1 z39.2.2.2.2.2.1 z39.2.2.2.2.2.2.1 reader_number z1.2.1 z39.2.2.2.2.2.2.2.1 z39.2.2.2.2.2.2.2.2 td_errands
    else
     (f_X5_takesWhole reader_end x_tape z39.2.1 z39.2.2.1 z39.2.2.2.1 z39.2.2.2.2.1 z39.2.2.2.2.2.1 z39.2.2.2.2.2.2.1 reader_number z39.2.2.2.2.2.2.2.1 z39.2.2.2.2.2.2.2.2 1 4).bind fun z48 =>
     if z48.1 = 0 then
      f_X5_readErrand_54 td_personCount reader_end x_tape td_personNames z48.2.1 z48.2.2.1 z48.2.2.2.1 z48.2.2.2.2.1 z48.2.2.2.2.2.1 z48.2.2.2.2.2.2.1 z48.2.2.2.2.2.2.2.1 z1.2.1 z48.2.2.2.2.2.2.2.2.1 z48.2.2.2.2.2.2.2.2.2 td_errands
     else
      if rf_ib z1.2.1 8 = true then
      some (1, z48.2.1, z48.2.2.1, z48.2.2.2.1, z48.2.2.2.2.1, z48.2.2.2.2.2.1, z48.2.2.2.2.2.2.1, z48.2.2.2.2.2.2.2.1, z1.2.1, z48.2.2.2.2.2.2.2.2.1, z48.2.2.2.2.2.2.2.2.2, upd td_errands (Int32.toNatClampNeg z1.2.1) z48.2.2.2.2.2.2.2.1)
      else none
   else
    (f_X5_fail reader_place z1.2.2.1 z1.2.2.2 3).bind fun z28 =>
    if rf_zb z28.1 = true then
    some (z28.1, reader_next, reader_sort, reader_place, reader_length, reader_letters, reader_whole, reader_number, z1.2.1, z28.2.1, z28.2.2, td_errands)
    else none
   else none
def f_X5_readFerry_23 (reader_end : Int32) (x_tape : Nat → Int32) (td_ear : Int32) (td_pairs : Int32) (reader_next : Int32) (reader_begun : Int32) (reader_sort : Int32) (reader_place : Int32) (reader_length : Int32) (reader_letters : Int64) (reader_whole : Int32) (reader_number : Int32) (reader_fault : Int32) (reader_faultPlace : Int32) : Option (Int32 × Int32 × Int32 × Int32 × Int32 × Int32 × Int32 × Int32 × Int64 × Int32 × Int32 × Int32 × Int32) :=
  some (0, td_ear, td_pairs, reader_next, reader_begun, reader_sort, reader_place, reader_length, reader_letters, reader_whole, reader_number, reader_fault, reader_faultPlace)
def f_X5_readFerry_54 (reader_end : Int32) (x_tape : Nat → Int32) (td_ear : Int32) (td_pairs : Int32) (reader_next : Int32) (reader_begun : Int32) (reader_sort : Int32) (reader_place : Int32) (reader_length : Int32) (reader_letters : Int64) (reader_whole : Int32) (reader_number : Int32) (reader_fault : Int32) (reader_faultPlace : Int32) : Option (Int32 × Int32 × Int32 × Int32 × Int32 × Int32 × Int32 × Int32 × Int64 × Int32 × Int32 × Int32 × Int32) :=
  some (0, td_ear, td_pairs, reader_next, reader_begun, reader_sort, reader_place, reader_length, reader_letters, reader_whole, reader_number, reader_fault, reader_faultPlace)
def f_X5_readFerry (reader_end : Int32) (x_tape : Nat → Int32) (td_ear : Int32) (td_pairs : Int32) (reader_next : Int32) (reader_begun : Int32) (reader_sort : Int32) (reader_place : Int32) (reader_length : Int32) (reader_letters : Int64) (reader_whole : Int32) (reader_number : Int32) (reader_fault : Int32) (reader_faultPlace : Int32) : Option (Int32 × Int32 × Int32 × Int32 × Int32 × Int32 × Int32 × Int32 × Int64 × Int32 × Int32 × Int32 × Int32) :=
  (f_X5_takes reader_end x_tape reader_next reader_sort reader_place reader_length reader_letters reader_whole reader_fault reader_faultPlace 8).bind fun z8 =>
  if z8.1 = 0 then
   f_X5_readFerry_23 reader_end x_tape td_ear td_pairs z8.2.1 1 z8.2.2.1 z8.2.2.2.1 z8.2.2.2.2.1 z8.2.2.2.2.2.1 z8.2.2.2.2.2.2.1 reader_number z8.2.2.2.2.2.2.2.1 z8.2.2.2.2.2.2.2.2
  else
   (f_X5_takesWhole reader_end x_tape z8.2.1 z8.2.2.1 z8.2.2.2.1 z8.2.2.2.2.1 z8.2.2.2.2.2.1 z8.2.2.2.2.2.2.1 reader_number z8.2.2.2.2.2.2.2.1 z8.2.2.2.2.2.2.2.2 2 5).bind fun z17 =>
   if z17.1 = 0 then
    f_X5_readFerry_23 reader_end x_tape td_ear td_pairs z17.2.1 1 z17.2.2.1 z17.2.2.2.1 z17.2.2.2.2.1 z17.2.2.2.2.2.1 z17.2.2.2.2.2.2.1 z17.2.2.2.2.2.2.2.1 z17.2.2.2.2.2.2.2.2.1 z17.2.2.2.2.2.2.2.2.2
   else
    (f_X5_takes reader_end x_tape z17.2.1 z17.2.2.1 z17.2.2.2.1 z17.2.2.2.2.1 z17.2.2.2.2.2.1 z17.2.2.2.2.2.2.1 z17.2.2.2.2.2.2.2.2.1 z17.2.2.2.2.2.2.2.2.2 9).bind fun z39 =>
    if z39.1 = 0 then
     f_X5_readFerry_54 reader_end x_tape z17.2.2.2.2.2.2.2.1 td_pairs z39.2.1 1 z39.2.2.1 z39.2.2.2.1 z39.2.2.2.2.1 z39.2.2.2.2.2.1 z39.2.2.2.2.2.2.1 z17.2.2.2.2.2.2.2.1 z39.2.2.2.2.2.2.2.1 z39.2.2.2.2.2.2.2.2
    else
     (f_X5_takesWhole reader_end x_tape z39.2.1 z39.2.2.1 z39.2.2.2.1 z39.2.2.2.2.1 z39.2.2.2.2.2.1 z39.2.2.2.2.2.2.1 z17.2.2.2.2.2.2.2.1 z39.2.2.2.2.2.2.2.1 z39.2.2.2.2.2.2.2.2 1 3).bind fun z48 =>
     if z48.1 = 0 then
      f_X5_readFerry_54 reader_end x_tape z17.2.2.2.2.2.2.2.1 td_pairs z48.2.1 1 z48.2.2.1 z48.2.2.2.1 z48.2.2.2.2.1 z48.2.2.2.2.2.1 z48.2.2.2.2.2.2.1 z48.2.2.2.2.2.2.2.1 z48.2.2.2.2.2.2.2.2.1 z48.2.2.2.2.2.2.2.2.2
     else
      some (1, z17.2.2.2.2.2.2.2.1, z48.2.2.2.2.2.2.2.1, z48.2.1, 1, z48.2.2.1, z48.2.2.2.1, z48.2.2.2.2.1, z48.2.2.2.2.2.1, z48.2.2.2.2.2.2.1, z48.2.2.2.2.2.2.2.1, z48.2.2.2.2.2.2.2.2.1, z48.2.2.2.2.2.2.2.2.2)
def f_X9_addGot (t_gotCount : Int32) (t_gotFirst : Nat → Int32) (t_gotSecond : Nat → Int32) (t_gotDegree : Nat → Int32) (v1 : Int32) (v2 : Int32) (v3 : Int32) : Option (Int32 × (Nat → Int32) × (Nat → Int32) × (Nat → Int32)) :=
  if 6 ≤ t_gotCount then
   some (t_gotCount, t_gotFirst, t_gotSecond, t_gotDegree)
  else
   if rf_ib t_gotCount 6 = true then
   if rf_ib t_gotCount 6 = true then
   if rf_ib t_gotCount 6 = true then
   some (t_gotCount + 1, upd t_gotFirst (Int32.toNatClampNeg t_gotCount) v1, upd t_gotSecond (Int32.toNatClampNeg t_gotCount) v2, upd t_gotDegree (Int32.toNatClampNeg t_gotCount) v3)
   else none
   else none
   else none
def f_X5_readGot_85 (td_personCount : Int32) (reader_end : Int32) (x_tape : Nat → Int32) (td_personNames : Nat → Int64) (v1 : Int32) (s0 : Int32) (td_gotCount : Int32) (reader_next : Int32) (reader_sort : Int32) (reader_place : Int32) (reader_length : Int32) (reader_letters : Int64) (reader_whole : Int32) (reader_found : Int32) (reader_fault : Int32) (reader_faultPlace : Int32) (td_gotFirst : Nat → Int32) (td_gotSecond : Nat → Int32) (td_gotDegree : Nat → Int32) : Option (Int32 × Int32 × Int32 × Int32 × Int32 × Int32 × Int64 × Int32 × Int32 × Int32 × Int32 × (Nat → Int32) × (Nat → Int32) × (Nat → Int32)) :=
  if s0 = (-1) then
   (f_X5_fail reader_place reader_fault reader_faultPlace 1).bind fun z93 =>
   if rf_zb z93.1 = true then
   some (z93.1, td_gotCount, reader_next, reader_sort, reader_place, reader_length, reader_letters, reader_whole, reader_found, z93.2.1, z93.2.2, td_gotFirst, td_gotSecond, td_gotDegree)
   else none
  else
   (f_X5_look reader_end x_tape reader_next reader_sort reader_place reader_length reader_letters reader_whole).bind fun z98 =>
   (f_X9_addGot td_gotCount td_gotFirst td_gotSecond td_gotDegree v1 reader_found s0).bind fun z111 =>
   some (1, z111.1, z98.1, z98.2.1, z98.2.2.1, z98.2.2.2.1, z98.2.2.2.2.1, z98.2.2.2.2.2, reader_found, reader_fault, reader_faultPlace, z111.2.1, z111.2.2.1, z111.2.2.2)
def f_X5_readGot (td_personCount : Int32) (reader_end : Int32) (x_tape : Nat → Int32) (td_personNames : Nat → Int64) (td_gotCount : Int32) (reader_next : Int32) (reader_sort : Int32) (reader_place : Int32) (reader_length : Int32) (reader_letters : Int64) (reader_whole : Int32) (reader_found : Int32) (reader_fault : Int32) (reader_faultPlace : Int32) (td_gotFirst : Nat → Int32) (td_gotSecond : Nat → Int32) (td_gotDegree : Nat → Int32) : Option (Int32 × Int32 × Int32 × Int32 × Int32 × Int32 × Int64 × Int32 × Int32 × Int32 × Int32 × (Nat → Int32) × (Nat → Int32) × (Nat → Int32)) :=
  (f_X5_seesToldPerson td_personCount reader_sort reader_place reader_length reader_letters td_personNames reader_found reader_fault reader_faultPlace).bind fun z1 =>
  if z1.1 = 0 then
   some (0, td_gotCount, reader_next, reader_sort, reader_place, reader_length, reader_letters, reader_whole, z1.2.1, z1.2.2.1, z1.2.2.2, td_gotFirst, td_gotSecond, td_gotDegree)
  else
   (f_X5_look reader_end x_tape reader_next reader_sort reader_place reader_length reader_letters reader_whole).bind fun z15 =>
   (f_X5_seesToldPerson td_personCount z15.2.1 z15.2.2.1 z15.2.2.2.1 z15.2.2.2.2.1 td_personNames z1.2.1 z1.2.2.1 z1.2.2.2).bind fun z19 =>
   if z19.1 = 0 then
    some (0, td_gotCount, z15.1, z15.2.1, z15.2.2.1, z15.2.2.2.1, z15.2.2.2.2.1, z15.2.2.2.2.2, z19.2.1, z19.2.2.1, z19.2.2.2, td_gotFirst, td_gotSecond, td_gotDegree)
   else
    if z19.2.1 = z1.2.1 then
     (f_X5_fail z15.2.2.1 z19.2.2.1 z19.2.2.2 3).bind fun z37 =>
     if rf_zb z37.1 = true then
     some (z37.1, td_gotCount, z15.1, z15.2.1, z15.2.2.1, z15.2.2.2.1, z15.2.2.2.2.1, z15.2.2.2.2.2, z19.2.1, z37.2.1, z37.2.2, td_gotFirst, td_gotSecond, td_gotDegree)
     else none
    else
     (f_X5_look reader_end x_tape z15.1 z15.2.1 z15.2.2.1 z15.2.2.2.1 z15.2.2.2.2.1 z15.2.2.2.2.2).bind fun z42 =>
     (f_X5_is z42.2.1 z42.2.2.2.1 z42.2.2.2.2.1 21).bind fun z48 =>
     if z48 = 0 then
      (f_X5_is z42.2.1 z42.2.2.2.1 z42.2.2.2.2.1 22).bind fun z61 =>
      if z61 = 0 then
       (f_X5_is z42.2.1 z42.2.2.2.1 z42.2.2.2.2.1 23).bind fun z74 =>
       if z74 = 0 then
        f_X5_readGot_85 td_personCount reader_end x_tape td_personNames z1.2.1 (-1) td_gotCount z42.1 z42.2.1 z42.2.2.1 z42.2.2.2.1 z42.2.2.2.2.1 z42.2.2.2.2.2 z19.2.1 z19.2.2.1 z19.2.2.2 td_gotFirst td_gotSecond td_gotDegree
       else
        f_X5_readGot_85 td_personCount reader_end x_tape td_personNames z1.2.1 0 td_gotCount z42.1 z42.2.1 z42.2.2.1 z42.2.2.2.1 z42.2.2.2.2.1 z42.2.2.2.2.2 z19.2.1 z19.2.2.1 z19.2.2.2 td_gotFirst td_gotSecond td_gotDegree
      else
       f_X5_readGot_85 td_personCount reader_end x_tape td_personNames z1.2.1 1 td_gotCount z42.1 z42.2.1 z42.2.2.1 z42.2.2.2.1 z42.2.2.2.2.1 z42.2.2.2.2.2 z19.2.1 z19.2.2.1 z19.2.2.2 td_gotFirst td_gotSecond td_gotDegree
     else
      f_X5_readGot_85 td_personCount reader_end x_tape td_personNames z1.2.1 2 td_gotCount z42.1 z42.2.1 z42.2.2.1 z42.2.2.2.1 z42.2.2.2.2.1 z42.2.2.2.2.2 z19.2.1 z19.2.2.1 z19.2.2.2 td_gotFirst td_gotSecond td_gotDegree
def f_X5_readHour_58 (reader_end : Int32) (x_tape : Nat → Int32) (reader_next : Int32) (reader_sort : Int32) (reader_place : Int32) (reader_length : Int32) (reader_letters : Int64) (reader_whole : Int32) (reader_number : Int32) (reader_fault : Int32) (reader_faultPlace : Int32) (td_hourEars : Nat → Int32) : Option (Int32 × Int32 × Int32 × Int32 × Int32 × Int64 × Int32 × Int32 × Int32 × Int32 × (Nat → Int32)) :=
  some (0, reader_next, reader_sort, reader_place, reader_length, reader_letters, reader_whole, reader_number, reader_fault, reader_faultPlace, td_hourEars)
def f_X5_readHour (reader_end : Int32) (x_tape : Nat → Int32) (reader_next : Int32) (reader_sort : Int32) (reader_place : Int32) (reader_length : Int32) (reader_letters : Int64) (reader_whole : Int32) (reader_number : Int32) (reader_fault : Int32) (reader_faultPlace : Int32) (td_hourEars : Nat → Int32) : Option (Int32 × Int32 × Int32 × Int32 × Int32 × Int64 × Int32 × Int32 × Int32 × Int32 × (Nat → Int32)) :=
  (f_X5_seesWhole reader_sort reader_place reader_whole reader_fault reader_faultPlace 0 23).bind fun z4 =>
  if z4.1 = 0 then
   some (0, reader_next, reader_sort, reader_place, reader_length, reader_letters, reader_whole, reader_number, z4.2.1, z4.2.2, td_hourEars)
  else
   if rf_ib reader_whole 24 = true then
   if (td_hourEars (Int32.toNatClampNeg reader_whole)) ≤ 0 then
    (f_X5_look reader_end x_tape reader_next reader_sort reader_place reader_length reader_letters reader_whole).bind fun z36 =>
    (f_X5_takes reader_end x_tape z36.1 z36.2.1 z36.2.2.1 z36.2.2.2.1 z36.2.2.2.2.1 z36.2.2.2.2.2 z4.2.1 z4.2.2 8).bind fun z42 =>
    if z42.1 = 0 then
     f_X5_readHour_58 reader_end x_tape z42.2.1 z42.2.2.1 z42.2.2.2.1 z42.2.2.2.2.1 z42.2.2.2.2.2.1 z42.2.2.2.2.2.2.1 reader_number z42.2.2.2.2.2.2.2.1 z42.2.2.2.2.2.2.2.2 td_hourEars
    else
     (f_X5_takesWhole reader_end x_tape z42.2.1 z42.2.2.1 z42.2.2.2.1 z42.2.2.2.2.1 z42.2.2.2.2.2.1 z42.2.2.2.2.2.2.1 reader_number z42.2.2.2.2.2.2.2.1 z42.2.2.2.2.2.2.2.2 1 6).bind fun z52 =>
     if z52.1 = 0 then
      f_X5_readHour_58 reader_end x_tape z52.2.1 z52.2.2.1 z52.2.2.2.1 z52.2.2.2.2.1 z52.2.2.2.2.2.1 z52.2.2.2.2.2.2.1 z52.2.2.2.2.2.2.2.1 z52.2.2.2.2.2.2.2.2.1 z52.2.2.2.2.2.2.2.2.2 td_hourEars
     else
      if rf_ib reader_whole 24 = true then
      some (1, z52.2.1, z52.2.2.1, z52.2.2.2.1, z52.2.2.2.2.1, z52.2.2.2.2.2.1, z52.2.2.2.2.2.2.1, z52.2.2.2.2.2.2.2.1, z52.2.2.2.2.2.2.2.2.1, z52.2.2.2.2.2.2.2.2.2, upd td_hourEars (Int32.toNatClampNeg reader_whole) z52.2.2.2.2.2.2.2.1)
      else none
   else
    (f_X5_fail reader_place z4.2.1 z4.2.2 3).bind fun z31 =>
    if rf_zb z31.1 = true then
    some (z31.1, reader_next, reader_sort, reader_place, reader_length, reader_letters, reader_whole, reader_number, z31.2.1, z31.2.2, td_hourEars)
    else none
   else none
def f_X9_wordNamed_2 (t_wordCount : Int32) (t_wordNames : Nat → Int64) : Nat → Int64 → Int32 → Option (Int32)
  | 0, _, _ => none
  | n + 1, v1, v3 =>
   if t_wordCount ≤ v3 then
    some (-1)
   else
    if rf_ib v3 10 = true then
    if (lg_cmp (t_wordNames (Int32.toNatClampNeg v3)) v1) = 0 then
     some v3
    else
     f_X9_wordNamed_2 t_wordCount t_wordNames n v1 (v3 + 1)
    else none
def f_X9_wordNamed (t_wordCount : Int32) (t_wordNames : Nat → Int64) (v1 : Int64) : Option (Int32) :=
  f_X9_wordNamed_2 t_wordCount t_wordNames rf_fu v1 0
def f_X5_seesToldWord_15 (td_wordCount : Int32) (reader_sort : Int32) (reader_place : Int32) (reader_length : Int32) (reader_letters : Int64) (td_wordNames : Nat → Int64) (reader_found : Int32) (reader_fault : Int32) (reader_faultPlace : Int32) : Option (Int32 × Int32 × Int32 × Int32) :=
  (f_X5_fail reader_place reader_fault reader_faultPlace 1).bind fun z17 =>
  if rf_zb z17.1 = true then
  some (z17.1, reader_found, z17.2.1, z17.2.2)
  else none
def f_X5_seesToldWord_52 (td_wordCount : Int32) (reader_sort : Int32) (reader_place : Int32) (reader_length : Int32) (reader_letters : Int64) (td_wordNames : Nat → Int64) (reader_found : Int32) (reader_fault : Int32) (reader_faultPlace : Int32) : Option (Int32 × Int32 × Int32 × Int32) :=
  some (1, reader_found, reader_fault, reader_faultPlace)
def f_X5_seesToldWord (td_wordCount : Int32) (reader_sort : Int32) (reader_place : Int32) (reader_length : Int32) (reader_letters : Int64) (td_wordNames : Nat → Int64) (reader_found : Int32) (reader_fault : Int32) (reader_faultPlace : Int32) : Option (Int32 × Int32 × Int32 × Int32) :=
  if reader_sort = 1 then
   (f_X5_lineBegun reader_sort reader_length reader_letters).bind fun z9 =>
   if z9 = 0 then
    (f_X9_wordNamed td_wordCount td_wordNames reader_letters).bind fun z30 =>
    if z30 = (-1) then
     (f_X5_fail reader_place reader_fault reader_faultPlace 2).bind fun z46 =>
     if z46.1 = 0 then
      some (0, z30, z46.2.1, z46.2.2)
     else
      f_X5_seesToldWord_52 td_wordCount reader_sort reader_place reader_length reader_letters td_wordNames z30 z46.2.1 z46.2.2
    else
     f_X5_seesToldWord_52 td_wordCount reader_sort reader_place reader_length reader_letters td_wordNames z30 reader_fault reader_faultPlace
   else
    f_X5_seesToldWord_15 td_wordCount reader_sort reader_place reader_length reader_letters td_wordNames reader_found reader_fault reader_faultPlace
  else
   f_X5_seesToldWord_15 td_wordCount reader_sort reader_place reader_length reader_letters td_wordNames reader_found reader_fault reader_faultPlace
def f_X5_readKnows (td_wordCount : Int32) (td_personCount : Int32) (reader_end : Int32) (x_tape : Nat → Int32) (td_wordNames : Nat → Int64) (td_personNames : Nat → Int64) (reader_next : Int32) (reader_knowings : Int32) (reader_sort : Int32) (reader_place : Int32) (reader_length : Int32) (reader_letters : Int64) (reader_whole : Int32) (reader_found : Int32) (reader_fault : Int32) (reader_faultPlace : Int32) (td_firstWords : Nat → Int32) : Option (Int32 × Int32 × Int32 × Int32 × Int32 × Int32 × Int64 × Int32 × Int32 × Int32 × Int32 × (Nat → Int32)) :=
  (f_X5_seesToldPerson td_personCount reader_sort reader_place reader_length reader_letters td_personNames reader_found reader_fault reader_faultPlace).bind fun z1 =>
  if z1.1 = 0 then
   some (0, reader_next, reader_knowings, reader_sort, reader_place, reader_length, reader_letters, reader_whole, z1.2.1, z1.2.2.1, z1.2.2.2, td_firstWords)
  else
   (f_X5_look reader_end x_tape reader_next reader_sort reader_place reader_length reader_letters reader_whole).bind fun z15 =>
   (f_X5_seesToldWord td_wordCount z15.2.1 z15.2.2.1 z15.2.2.2.1 z15.2.2.2.2.1 td_wordNames z1.2.1 z1.2.2.1 z1.2.2.2).bind fun z19 =>
   if z19.1 = 0 then
    some (0, z15.1, reader_knowings, z15.2.1, z15.2.2.1, z15.2.2.2.1, z15.2.2.2.2.1, z15.2.2.2.2.2, z19.2.1, z19.2.2.1, z19.2.2.2, td_firstWords)
   else
    if rf_ib z1.2.1 8 = true then
    (f_X10_holds (td_firstWords (Int32.toNatClampNeg z1.2.1)) z19.2.1).bind fun z40 =>
    if z40 = 0 then
     (f_X5_look reader_end x_tape z15.1 z15.2.1 z15.2.2.1 z15.2.2.2.1 z15.2.2.2.2.1 z15.2.2.2.2.2).bind fun z53 =>
     if rf_ib z1.2.1 8 = true then
     if rf_ib z1.2.1 8 = true then
     some (1, z53.1, reader_knowings + 1, z53.2.1, z53.2.2.1, z53.2.2.2.1, z53.2.2.2.2.1, z53.2.2.2.2.2, z19.2.1, z19.2.2.1, z19.2.2.2, upd td_firstWords (Int32.toNatClampNeg z1.2.1) ((td_firstWords (Int32.toNatClampNeg z1.2.1)) ||| ((1 : Int32) <<< (z19.2.1 &&& 31))))
     else none
     else none
    else
     (f_X5_fail z15.2.2.1 z19.2.2.1 z19.2.2.2 3).bind fun z48 =>
     if rf_zb z48.1 = true then
     some (z48.1, z15.1, reader_knowings, z15.2.1, z15.2.2.1, z15.2.2.2.1, z15.2.2.2.2.1, z15.2.2.2.2.2, z19.2.1, z48.2.1, z48.2.2, td_firstWords)
     else none
    else none
def f_X5_takesNewName_15 (td_wordCount : Int32) (td_personCount : Int32) (reader_end : Int32) (x_tape : Nat → Int32) (td_wordNames : Nat → Int64) (td_personNames : Nat → Int64) (reader_next : Int32) (reader_sort : Int32) (reader_place : Int32) (reader_length : Int32) (reader_letters : Int64) (reader_whole : Int32) (reader_name : Int64) (reader_fault : Int32) (reader_faultPlace : Int32) : Option (Int32 × Int32 × Int32 × Int32 × Int32 × Int64 × Int32 × Int64 × Int32 × Int32) :=
  (f_X5_fail reader_place reader_fault reader_faultPlace 1).bind fun z17 =>
  if rf_zb z17.1 = true then
  some (z17.1, reader_next, reader_sort, reader_place, reader_length, reader_letters, reader_whole, reader_name, z17.2.1, z17.2.2)
  else none
def f_X5_takesNewName_51 (td_wordCount : Int32) (td_personCount : Int32) (reader_end : Int32) (x_tape : Nat → Int32) (td_wordNames : Nat → Int64) (td_personNames : Nat → Int64) (reader_next : Int32) (reader_sort : Int32) (reader_place : Int32) (reader_length : Int32) (reader_letters : Int64) (reader_whole : Int32) (reader_name : Int64) (reader_fault : Int32) (reader_faultPlace : Int32) : Option (Int32 × Int32 × Int32 × Int32 × Int32 × Int64 × Int32 × Int64 × Int32 × Int32) :=
  (f_X5_fail reader_place reader_fault reader_faultPlace 3).bind fun z53 =>
  if rf_zb z53.1 = true then
  some (z53.1, reader_next, reader_sort, reader_place, reader_length, reader_letters, reader_whole, reader_name, z53.2.1, z53.2.2)
  else none
def f_X5_takesNewName (td_wordCount : Int32) (td_personCount : Int32) (reader_end : Int32) (x_tape : Nat → Int32) (td_wordNames : Nat → Int64) (td_personNames : Nat → Int64) (reader_next : Int32) (reader_sort : Int32) (reader_place : Int32) (reader_length : Int32) (reader_letters : Int64) (reader_whole : Int32) (reader_name : Int64) (reader_fault : Int32) (reader_faultPlace : Int32) : Option (Int32 × Int32 × Int32 × Int32 × Int32 × Int64 × Int32 × Int64 × Int32 × Int32) :=
  if reader_sort = 1 then
   (f_X5_lineBegun reader_sort reader_length reader_letters).bind fun z9 =>
   if z9 = 0 then
    (f_X9_wordNamed td_wordCount td_wordNames reader_letters).bind fun z29 =>
    if z29 = (-1) then
     (f_X9_personNamed td_personCount td_personNames reader_letters).bind fun z44 =>
     if z44 = (-1) then
      (f_X5_look reader_end x_tape reader_next reader_sort reader_place reader_length reader_letters reader_whole).bind fun z66 =>
      some (1, z66.1, z66.2.1, z66.2.2.1, z66.2.2.2.1, z66.2.2.2.2.1, z66.2.2.2.2.2, reader_letters, reader_fault, reader_faultPlace)
     else
      f_X5_takesNewName_51 td_wordCount td_personCount reader_end x_tape td_wordNames td_personNames reader_next reader_sort reader_place reader_length reader_letters reader_whole reader_name reader_fault reader_faultPlace
    else
     f_X5_takesNewName_51 td_wordCount td_personCount reader_end x_tape td_wordNames td_personNames reader_next reader_sort reader_place reader_length reader_letters reader_whole reader_name reader_fault reader_faultPlace
   else
    f_X5_takesNewName_15 td_wordCount td_personCount reader_end x_tape td_wordNames td_personNames reader_next reader_sort reader_place reader_length reader_letters reader_whole reader_name reader_fault reader_faultPlace
  else
   f_X5_takesNewName_15 td_wordCount td_personCount reader_end x_tape td_wordNames td_personNames reader_next reader_sort reader_place reader_length reader_letters reader_whole reader_name reader_fault reader_faultPlace
def f_X9_addPerson_72 (s1 : Int32) (s2 : Int32) (t_personCount : Int32) (t_firstFar : Int32) (t_personNames : Nat → Int64) (t_kinds : Nat → Int32) (t_firstWords : Nat → Int32) (t_errands : Nat → Int32) : Option (Int32 × Int32 × (Nat → Int64) × (Nat → Int32) × (Nat → Int32) × (Nat → Int32)) :=
  some (t_personCount + 1, s1 ||| s2, t_personNames, t_kinds, t_firstWords, t_errands)
def f_X9_addPerson (t_personCount : Int32) (t_firstFar : Int32) (t_personNames : Nat → Int64) (t_kinds : Nat → Int32) (t_firstWords : Nat → Int32) (t_errands : Nat → Int32) (v1 : Int64) (v3 : Int32) (v4 : Int32) (v5 : Int32) : Option (Int32 × Int32 × (Nat → Int64) × (Nat → Int32) × (Nat → Int32) × (Nat → Int32)) :=
  if 8 ≤ t_personCount then
   some (t_personCount, t_firstFar, t_personNames, t_kinds, t_firstWords, t_errands)
  else
   if rf_ib t_personCount 8 = true then
   if rf_ib t_personCount 8 = true then
   if rf_ib t_personCount 8 = true then
   if rf_ib t_personCount 8 = true then
   if v4 = 0 then
    f_X9_addPerson_72 t_firstFar 0 t_personCount t_firstFar (vp_updL t_personNames (Int32.toNatClampNeg t_personCount) v1) (upd t_kinds (Int32.toNatClampNeg t_personCount) v3) (upd t_firstWords (Int32.toNatClampNeg t_personCount) ((1 : Int32) <<< (v5 &&& 31))) (upd t_errands (Int32.toNatClampNeg t_personCount) 0)
   else
    f_X9_addPerson_72 t_firstFar ((1 : Int32) <<< (t_personCount &&& 31)) t_personCount t_firstFar (vp_updL t_personNames (Int32.toNatClampNeg t_personCount) v1) (upd t_kinds (Int32.toNatClampNeg t_personCount) v3) (upd t_firstWords (Int32.toNatClampNeg t_personCount) ((1 : Int32) <<< (v5 &&& 31))) (upd t_errands (Int32.toNatClampNeg t_personCount) 0)
   else none
   else none
   else none
   else none
def f_X5_readPerson_135 (td_wordCount : Int32) (reader_end : Int32) (x_tape : Nat → Int32) (td_wordNames : Nat → Int64) (td_personCount : Int32) (td_firstFar : Int32) (reader_next : Int32) (reader_sort : Int32) (reader_place : Int32) (reader_length : Int32) (reader_letters : Int64) (reader_whole : Int32) (reader_name : Int64) (reader_found : Int32) (reader_fault : Int32) (reader_faultPlace : Int32) (td_personNames : Nat → Int64) (td_kinds : Nat → Int32) (td_firstWords : Nat → Int32) (td_errands : Nat → Int32) : Option (Int32 × Int32 × Int32 × Int32 × Int32 × Int32 × Int32 × Int64 × Int32 × Int64 × Int32 × Int32 × Int32 × (Nat → Int64) × (Nat → Int32) × (Nat → Int32) × (Nat → Int32)) :=
  some (0, td_personCount, td_firstFar, reader_next, reader_sort, reader_place, reader_length, reader_letters, reader_whole, reader_name, reader_found, reader_fault, reader_faultPlace, td_personNames, td_kinds, td_firstWords, td_errands)
def f_X5_readPerson_115 (td_wordCount : Int32) (reader_end : Int32) (x_tape : Nat → Int32) (td_wordNames : Nat → Int64) (v1 : Int32) (v2 : Int32) (td_personCount : Int32) (td_firstFar : Int32) (reader_next : Int32) (reader_sort : Int32) (reader_place : Int32) (reader_length : Int32) (reader_letters : Int64) (reader_whole : Int32) (reader_name : Int64) (reader_found : Int32) (reader_fault : Int32) (reader_faultPlace : Int32) (td_personNames : Nat → Int64) (td_kinds : Nat → Int32) (td_firstWords : Nat → Int32) (td_errands : Nat → Int32) : Option (Int32 × Int32 × Int32 × Int32 × Int32 × Int32 × Int32 × Int64 × Int32 × Int64 × Int32 × Int32 × Int32 × (Nat → Int64) × (Nat → Int32) × (Nat → Int32) × (Nat → Int32)) :=
  (f_X5_look reader_end x_tape reader_next reader_sort reader_place reader_length reader_letters reader_whole).bind fun z116 =>
  (f_X5_takes reader_end x_tape z116.1 z116.2.1 z116.2.2.1 z116.2.2.2.1 z116.2.2.2.2.1 z116.2.2.2.2.2 reader_fault reader_faultPlace 19).bind fun z122 =>
  if z122.1 = 0 then
   f_X5_readPerson_135 td_wordCount reader_end x_tape td_wordNames td_personCount td_firstFar z122.2.1 z122.2.2.1 z122.2.2.2.1 z122.2.2.2.2.1 z122.2.2.2.2.2.1 z122.2.2.2.2.2.2.1 reader_name reader_found z122.2.2.2.2.2.2.2.1 z122.2.2.2.2.2.2.2.2 td_personNames td_kinds td_firstWords td_errands
  else
   (f_X5_seesToldWord td_wordCount z122.2.2.1 z122.2.2.2.1 z122.2.2.2.2.1 z122.2.2.2.2.2.1 td_wordNames reader_found z122.2.2.2.2.2.2.2.1 z122.2.2.2.2.2.2.2.2).bind fun z129 =>
   if z129.1 = 0 then
    f_X5_readPerson_135 td_wordCount reader_end x_tape td_wordNames td_personCount td_firstFar z122.2.1 z122.2.2.1 z122.2.2.2.1 z122.2.2.2.2.1 z122.2.2.2.2.2.1 z122.2.2.2.2.2.2.1 reader_name z129.2.1 z129.2.2.1 z129.2.2.2 td_personNames td_kinds td_firstWords td_errands
   else
    (f_X5_look reader_end x_tape z122.2.1 z122.2.2.1 z122.2.2.2.1 z122.2.2.2.2.1 z122.2.2.2.2.2.1 z122.2.2.2.2.2.2.1).bind fun z138 =>
    (f_X9_addPerson td_personCount td_firstFar td_personNames td_kinds td_firstWords td_errands reader_name v1 v2 z129.2.1).bind fun z155 =>
    some (1, z155.1, z155.2.1, z138.1, z138.2.1, z138.2.2.1, z138.2.2.2.1, z138.2.2.2.2.1, z138.2.2.2.2.2, reader_name, z129.2.1, z129.2.2.1, z129.2.2.2, z155.2.2.1, z155.2.2.2.1, z155.2.2.2.2.1, z155.2.2.2.2.2)
def f_X5_readPerson_62 (td_wordCount : Int32) (reader_end : Int32) (x_tape : Nat → Int32) (td_wordNames : Nat → Int64) (s0 : Int32) (td_personCount : Int32) (td_firstFar : Int32) (reader_next : Int32) (reader_sort : Int32) (reader_place : Int32) (reader_length : Int32) (reader_letters : Int64) (reader_whole : Int32) (reader_name : Int64) (reader_found : Int32) (reader_fault : Int32) (reader_faultPlace : Int32) (td_personNames : Nat → Int64) (td_kinds : Nat → Int32) (td_firstWords : Nat → Int32) (td_errands : Nat → Int32) : Option (Int32 × Int32 × Int32 × Int32 × Int32 × Int32 × Int32 × Int64 × Int32 × Int64 × Int32 × Int32 × Int32 × (Nat → Int64) × (Nat → Int32) × (Nat → Int32) × (Nat → Int32)) :=
  if s0 = (-1) then
   (f_X5_fail reader_place reader_fault reader_faultPlace 1).bind fun z70 =>
   if rf_zb z70.1 = true then
   some (z70.1, td_personCount, td_firstFar, reader_next, reader_sort, reader_place, reader_length, reader_letters, reader_whole, reader_name, reader_found, z70.2.1, z70.2.2, td_personNames, td_kinds, td_firstWords, td_errands)
   else none
  else
   (f_X5_look reader_end x_tape reader_next reader_sort reader_place reader_length reader_letters reader_whole).bind fun z75 =>
   (f_X5_takes reader_end x_tape z75.1 z75.2.1 z75.2.2.1 z75.2.2.2.1 z75.2.2.2.2.1 z75.2.2.2.2.2 reader_fault reader_faultPlace 16).bind fun z81 =>
   if z81.1 = 0 then
    some (0, td_personCount, td_firstFar, z81.2.1, z81.2.2.1, z81.2.2.2.1, z81.2.2.2.2.1, z81.2.2.2.2.2.1, z81.2.2.2.2.2.2.1, reader_name, reader_found, z81.2.2.2.2.2.2.2.1, z81.2.2.2.2.2.2.2.2, td_personNames, td_kinds, td_firstWords, td_errands)
   else
    (f_X5_is z81.2.2.1 z81.2.2.2.2.1 z81.2.2.2.2.2.1 17).bind fun z92 =>
    if z92 = 0 then
     (f_X5_is z81.2.2.1 z81.2.2.2.2.1 z81.2.2.2.2.2.1 18).bind fun z103 =>
     if z103 = 0 then
      (f_X5_fail z81.2.2.2.1 z81.2.2.2.2.2.2.2.1 z81.2.2.2.2.2.2.2.2 1).bind fun z111 =>
      if rf_zb z111.1 = true then
      some (z111.1, td_personCount, td_firstFar, z81.2.1, z81.2.2.1, z81.2.2.2.1, z81.2.2.2.2.1, z81.2.2.2.2.2.1, z81.2.2.2.2.2.2.1, reader_name, reader_found, z111.2.1, z111.2.2, td_personNames, td_kinds, td_firstWords, td_errands)
      else none
     else
      f_X5_readPerson_115 td_wordCount reader_end x_tape td_wordNames s0 z92 td_personCount td_firstFar z81.2.1 z81.2.2.1 z81.2.2.2.1 z81.2.2.2.2.1 z81.2.2.2.2.2.1 z81.2.2.2.2.2.2.1 reader_name reader_found z81.2.2.2.2.2.2.2.1 z81.2.2.2.2.2.2.2.2 td_personNames td_kinds td_firstWords td_errands
    else
     f_X5_readPerson_115 td_wordCount reader_end x_tape td_wordNames s0 z92 td_personCount td_firstFar z81.2.1 z81.2.2.1 z81.2.2.2.1 z81.2.2.2.2.1 z81.2.2.2.2.2.1 z81.2.2.2.2.2.2.1 reader_name reader_found z81.2.2.2.2.2.2.2.1 z81.2.2.2.2.2.2.2.2 td_personNames td_kinds td_firstWords td_errands
def f_X5_readPerson (td_wordCount : Int32) (reader_end : Int32) (x_tape : Nat → Int32) (td_wordNames : Nat → Int64) (td_personCount : Int32) (td_firstFar : Int32) (reader_next : Int32) (reader_sort : Int32) (reader_place : Int32) (reader_length : Int32) (reader_letters : Int64) (reader_whole : Int32) (reader_name : Int64) (reader_found : Int32) (reader_fault : Int32) (reader_faultPlace : Int32) (td_personNames : Nat → Int64) (td_kinds : Nat → Int32) (td_firstWords : Nat → Int32) (td_errands : Nat → Int32) : Option (Int32 × Int32 × Int32 × Int32 × Int32 × Int32 × Int32 × Int64 × Int32 × Int64 × Int32 × Int32 × Int32 × (Nat → Int64) × (Nat → Int32) × (Nat → Int32) × (Nat → Int32)) :=
  (f_X5_takesNewName td_wordCount td_personCount reader_end x_tape td_wordNames td_personNames reader_next reader_sort reader_place reader_length reader_letters reader_whole reader_name reader_fault reader_faultPlace).bind fun z1 =>
  if z1.1 = 0 then
   some (0, td_personCount, td_firstFar, z1.2.1, z1.2.2.1, z1.2.2.2.1, z1.2.2.2.2.1, z1.2.2.2.2.2.1, z1.2.2.2.2.2.2.1, z1.2.2.2.2.2.2.2.1, reader_found, z1.2.2.2.2.2.2.2.2.1, z1.2.2.2.2.2.2.2.2.2, td_personNames, td_kinds, td_firstWords, td_errands)
  else
   (f_X5_is z1.2.2.1 z1.2.2.2.2.1 z1.2.2.2.2.2.1 12).bind fun z12 =>
   if z12 = 0 then
    (f_X5_is z1.2.2.1 z1.2.2.2.2.1 z1.2.2.2.2.2.1 13).bind fun z25 =>
    if z25 = 0 then
     (f_X5_is z1.2.2.1 z1.2.2.2.2.1 z1.2.2.2.2.2.1 14).bind fun z38 =>
     if z38 = 0 then
      (f_X5_is z1.2.2.1 z1.2.2.2.2.1 z1.2.2.2.2.2.1 15).bind fun z51 =>
      if z51 = 0 then
       f_X5_readPerson_62 td_wordCount reader_end x_tape td_wordNames (-1) td_personCount td_firstFar z1.2.1 z1.2.2.1 z1.2.2.2.1 z1.2.2.2.2.1 z1.2.2.2.2.2.1 z1.2.2.2.2.2.2.1 z1.2.2.2.2.2.2.2.1 reader_found z1.2.2.2.2.2.2.2.2.1 z1.2.2.2.2.2.2.2.2.2 td_personNames td_kinds td_firstWords td_errands
      else
       f_X5_readPerson_62 td_wordCount reader_end x_tape td_wordNames 3 td_personCount td_firstFar z1.2.1 z1.2.2.1 z1.2.2.2.1 z1.2.2.2.2.1 z1.2.2.2.2.2.1 z1.2.2.2.2.2.2.1 z1.2.2.2.2.2.2.2.1 reader_found z1.2.2.2.2.2.2.2.2.1 z1.2.2.2.2.2.2.2.2.2 td_personNames td_kinds td_firstWords td_errands
     else
      f_X5_readPerson_62 td_wordCount reader_end x_tape td_wordNames 2 td_personCount td_firstFar z1.2.1 z1.2.2.1 z1.2.2.2.1 z1.2.2.2.2.1 z1.2.2.2.2.2.1 z1.2.2.2.2.2.2.1 z1.2.2.2.2.2.2.2.1 reader_found z1.2.2.2.2.2.2.2.2.1 z1.2.2.2.2.2.2.2.2.2 td_personNames td_kinds td_firstWords td_errands
    else
     f_X5_readPerson_62 td_wordCount reader_end x_tape td_wordNames 1 td_personCount td_firstFar z1.2.1 z1.2.2.1 z1.2.2.2.1 z1.2.2.2.2.1 z1.2.2.2.2.2.1 z1.2.2.2.2.2.2.1 z1.2.2.2.2.2.2.2.1 reader_found z1.2.2.2.2.2.2.2.2.1 z1.2.2.2.2.2.2.2.2.2 td_personNames td_kinds td_firstWords td_errands
   else
    f_X5_readPerson_62 td_wordCount reader_end x_tape td_wordNames 0 td_personCount td_firstFar z1.2.1 z1.2.2.1 z1.2.2.2.1 z1.2.2.2.2.1 z1.2.2.2.2.2.1 z1.2.2.2.2.2.2.1 z1.2.2.2.2.2.2.2.1 reader_found z1.2.2.2.2.2.2.2.2.1 z1.2.2.2.2.2.2.2.2.2 td_personNames td_kinds td_firstWords td_errands
def f_X5_takesSounds_73 (k39 : Int32 → Int32 → Int32 → Int32 → Int32 → Int32 → Int64 → Int32 → Int64 → Int32 → Int32 → Option (Int32 × Int32 × Int32 × Int32 × Int32 × Int64 × Int32 × Int64 × Int32 × Int32)) (reader_end : Int32) (x_tape : Nat → Int32) (v2 : Int32) (s0 : Int32) (reader_next : Int32) (reader_sort : Int32) (reader_place : Int32) (reader_length : Int32) (reader_letters : Int64) (reader_whole : Int32) (reader_sounds : Int64) (reader_fault : Int32) (reader_faultPlace : Int32) : Option (Int32 × Int32 × Int32 × Int32 × Int32 × Int64 × Int32 × Int64 × Int32 × Int32) :=
  k39 s0 (v2 + 1) reader_next reader_sort reader_place reader_length reader_letters reader_whole reader_sounds reader_fault reader_faultPlace
def f_X5_takesSounds_72 (k39 : Int32 → Int32 → Int32 → Int32 → Int32 → Int32 → Int64 → Int32 → Int64 → Int32 → Int32 → Option (Int32 × Int32 × Int32 × Int32 × Int32 × Int64 × Int32 × Int64 × Int32 × Int32)) (reader_end : Int32) (x_tape : Nat → Int32) (v2 : Int32) (reader_next : Int32) (reader_sort : Int32) (reader_place : Int32) (reader_length : Int32) (reader_letters : Int64) (reader_whole : Int32) (reader_sounds : Int64) (reader_fault : Int32) (reader_faultPlace : Int32) : Option (Int32 × Int32 × Int32 × Int32 × Int32 × Int64 × Int32 × Int64 × Int32 × Int32) :=
  f_X5_takesSounds_73 k39 reader_end x_tape v2 0 reader_next reader_sort reader_place reader_length reader_letters reader_whole reader_sounds reader_fault reader_faultPlace
def f_X5_takesSounds_39 (reader_end : Int32) (x_tape : Nat → Int32) : Nat → Int32 → Int32 → Int32 → Int32 → Int32 → Int32 → Int64 → Int32 → Int64 → Int32 → Int32 → Option (Int32 × Int32 × Int32 × Int32 × Int32 × Int64 × Int32 × Int64 × Int32 × Int32)
  | 0, _, _, _, _, _, _, _, _, _, _, _ => none
  | n + 1, v1, v2, reader_next, reader_sort, reader_place, reader_length, reader_letters, reader_whole, reader_sounds, reader_fault, reader_faultPlace =>
   if 8 ≤ v2 then
    if v1 = 0 then
     (f_X5_fail reader_place reader_fault reader_faultPlace 7).bind fun z87 =>
     if rf_zb z87.1 = true then
     some (z87.1, reader_next, reader_sort, reader_place, reader_length, reader_letters, reader_whole, reader_sounds, z87.2.1, z87.2.2)
     else none
    else
     (f_X5_look reader_end x_tape reader_next reader_sort reader_place reader_length reader_letters reader_whole).bind fun z100 =>
     some (1, z100.1, z100.2.1, z100.2.2.1, z100.2.2.2.1, z100.2.2.2.2.1, z100.2.2.2.2.2, reader_letters, reader_fault, reader_faultPlace)
   else
    if v1 = 0 then
     f_X5_takesSounds_72 (f_X5_takesSounds_39 reader_end x_tape n) reader_end x_tape v2 reader_next reader_sort reader_place reader_length reader_letters reader_whole reader_sounds reader_fault reader_faultPlace
    else
     if 0 < (lg_cmp (((Int64.toUInt64 reader_letters >>> ((Int32.toInt64 ((5 : Int32) * v2)).toUInt64 &&& Int64.toUInt64 63)).toInt64) &&& 31) 8) then
      f_X5_takesSounds_72 (f_X5_takesSounds_39 reader_end x_tape n) reader_end x_tape v2 reader_next reader_sort reader_place reader_length reader_letters reader_whole reader_sounds reader_fault reader_faultPlace
     else
      f_X5_takesSounds_73 (f_X5_takesSounds_39 reader_end x_tape n) reader_end x_tape v2 1 reader_next reader_sort reader_place reader_length reader_letters reader_whole reader_sounds reader_fault reader_faultPlace
def f_X5_takesSounds_36 (reader_end : Int32) (x_tape : Nat → Int32) (s0 : Int32) (reader_next : Int32) (reader_sort : Int32) (reader_place : Int32) (reader_length : Int32) (reader_letters : Int64) (reader_whole : Int32) (reader_sounds : Int64) (reader_fault : Int32) (reader_faultPlace : Int32) : Option (Int32 × Int32 × Int32 × Int32 × Int32 × Int64 × Int32 × Int64 × Int32 × Int32) :=
  f_X5_takesSounds_39 reader_end x_tape rf_fu s0 0 reader_next reader_sort reader_place reader_length reader_letters reader_whole reader_sounds reader_fault reader_faultPlace
def f_X5_takesSounds_35 (reader_end : Int32) (x_tape : Nat → Int32) (reader_next : Int32) (reader_sort : Int32) (reader_place : Int32) (reader_length : Int32) (reader_letters : Int64) (reader_whole : Int32) (reader_sounds : Int64) (reader_fault : Int32) (reader_faultPlace : Int32) : Option (Int32 × Int32 × Int32 × Int32 × Int32 × Int64 × Int32 × Int64 × Int32 × Int32) :=
  f_X5_takesSounds_36 reader_end x_tape 0 reader_next reader_sort reader_place reader_length reader_letters reader_whole reader_sounds reader_fault reader_faultPlace
def f_X5_takesSounds (reader_end : Int32) (x_tape : Nat → Int32) (reader_next : Int32) (reader_sort : Int32) (reader_place : Int32) (reader_length : Int32) (reader_letters : Int64) (reader_whole : Int32) (reader_sounds : Int64) (reader_fault : Int32) (reader_faultPlace : Int32) : Option (Int32 × Int32 × Int32 × Int32 × Int32 × Int64 × Int32 × Int64 × Int32 × Int32) :=
  if reader_sort = 1 then
   if reader_length < 2 then
    f_X5_takesSounds_35 reader_end x_tape reader_next reader_sort reader_place reader_length reader_letters reader_whole reader_sounds reader_fault reader_faultPlace
   else
    if 6 < reader_length then
     f_X5_takesSounds_35 reader_end x_tape reader_next reader_sort reader_place reader_length reader_letters reader_whole reader_sounds reader_fault reader_faultPlace
    else
     f_X5_takesSounds_36 reader_end x_tape 1 reader_next reader_sort reader_place reader_length reader_letters reader_whole reader_sounds reader_fault reader_faultPlace
  else
   (f_X5_fail reader_place reader_fault reader_faultPlace 1).bind fun z10 =>
   if rf_zb z10.1 = true then
   some (z10.1, reader_next, reader_sort, reader_place, reader_length, reader_letters, reader_whole, reader_sounds, z10.2.1, z10.2.2)
   else none
def f_X9_addWord (t_wordCount : Int32) (t_wordNames : Nat → Int64) (t_sounds : Nat → Int64) (t_prices : Nat → Int32) (v1 : Int64) (v3 : Int64) (v5 : Int32) : Option (Int32 × (Nat → Int64) × (Nat → Int64) × (Nat → Int32)) :=
  if 10 ≤ t_wordCount then
   some (t_wordCount, t_wordNames, t_sounds, t_prices)
  else
   if rf_ib t_wordCount 10 = true then
   if rf_ib t_wordCount 10 = true then
   if rf_ib t_wordCount 10 = true then
   some (t_wordCount + 1, vp_updL t_wordNames (Int32.toNatClampNeg t_wordCount) v1, vp_updL t_sounds (Int32.toNatClampNeg t_wordCount) v3, upd t_prices (Int32.toNatClampNeg t_wordCount) v5)
   else none
   else none
   else none
def f_X5_readWord_23 (td_personCount : Int32) (reader_end : Int32) (x_tape : Nat → Int32) (td_personNames : Nat → Int64) (td_wordCount : Int32) (reader_next : Int32) (reader_sort : Int32) (reader_place : Int32) (reader_length : Int32) (reader_letters : Int64) (reader_whole : Int32) (reader_name : Int64) (reader_sounds : Int64) (reader_number : Int32) (reader_fault : Int32) (reader_faultPlace : Int32) (td_wordNames : Nat → Int64) (td_sounds : Nat → Int64) (td_prices : Nat → Int32) : Option (Int32 × Int32 × Int32 × Int32 × Int32 × Int32 × Int64 × Int32 × Int64 × Int64 × Int32 × Int32 × Int32 × (Nat → Int64) × (Nat → Int64) × (Nat → Int32)) :=
  some (0, td_wordCount, reader_next, reader_sort, reader_place, reader_length, reader_letters, reader_whole, reader_name, reader_sounds, reader_number, reader_fault, reader_faultPlace, td_wordNames, td_sounds, td_prices)
def f_X5_readWord_44 (td_personCount : Int32) (reader_end : Int32) (x_tape : Nat → Int32) (td_personNames : Nat → Int64) (td_wordCount : Int32) (reader_next : Int32) (reader_sort : Int32) (reader_place : Int32) (reader_length : Int32) (reader_letters : Int64) (reader_whole : Int32) (reader_name : Int64) (reader_sounds : Int64) (reader_number : Int32) (reader_fault : Int32) (reader_faultPlace : Int32) (td_wordNames : Nat → Int64) (td_sounds : Nat → Int64) (td_prices : Nat → Int32) : Option (Int32 × Int32 × Int32 × Int32 × Int32 × Int32 × Int64 × Int32 × Int64 × Int64 × Int32 × Int32 × Int32 × (Nat → Int64) × (Nat → Int64) × (Nat → Int32)) :=
  some (0, td_wordCount, reader_next, reader_sort, reader_place, reader_length, reader_letters, reader_whole, reader_name, reader_sounds, reader_number, reader_fault, reader_faultPlace, td_wordNames, td_sounds, td_prices)
def f_X5_readWord (td_personCount : Int32) (reader_end : Int32) (x_tape : Nat → Int32) (td_personNames : Nat → Int64) (td_wordCount : Int32) (reader_next : Int32) (reader_sort : Int32) (reader_place : Int32) (reader_length : Int32) (reader_letters : Int64) (reader_whole : Int32) (reader_name : Int64) (reader_sounds : Int64) (reader_number : Int32) (reader_fault : Int32) (reader_faultPlace : Int32) (td_wordNames : Nat → Int64) (td_sounds : Nat → Int64) (td_prices : Nat → Int32) : Option (Int32 × Int32 × Int32 × Int32 × Int32 × Int32 × Int64 × Int32 × Int64 × Int64 × Int32 × Int32 × Int32 × (Nat → Int64) × (Nat → Int64) × (Nat → Int32)) :=
  (f_X5_takesNewName td_wordCount td_personCount reader_end x_tape td_wordNames td_personNames reader_next reader_sort reader_place reader_length reader_letters reader_whole reader_name reader_fault reader_faultPlace).bind fun z1 =>
  if z1.1 = 0 then
   f_X5_readWord_23 td_personCount reader_end x_tape td_personNames td_wordCount z1.2.1 z1.2.2.1 z1.2.2.2.1 z1.2.2.2.2.1 z1.2.2.2.2.2.1 z1.2.2.2.2.2.2.1 z1.2.2.2.2.2.2.2.1 reader_sounds reader_number z1.2.2.2.2.2.2.2.2.1 z1.2.2.2.2.2.2.2.2.2 td_wordNames td_sounds td_prices
  else
   (f_X5_takes reader_end x_tape z1.2.1 z1.2.2.1 z1.2.2.2.1 z1.2.2.2.2.1 z1.2.2.2.2.2.1 z1.2.2.2.2.2.2.1 z1.2.2.2.2.2.2.2.2.1 z1.2.2.2.2.2.2.2.2.2 10).bind fun z10 =>
   if z10.1 = 0 then
    f_X5_readWord_23 td_personCount reader_end x_tape td_personNames td_wordCount z10.2.1 z10.2.2.1 z10.2.2.2.1 z10.2.2.2.2.1 z10.2.2.2.2.2.1 z10.2.2.2.2.2.2.1 z1.2.2.2.2.2.2.2.1 reader_sounds reader_number z10.2.2.2.2.2.2.2.1 z10.2.2.2.2.2.2.2.2 td_wordNames td_sounds td_prices
   else
    (f_X5_takesSounds reader_end x_tape z10.2.1 z10.2.2.1 z10.2.2.2.1 z10.2.2.2.2.1 z10.2.2.2.2.2.1 z10.2.2.2.2.2.2.1 reader_sounds z10.2.2.2.2.2.2.2.1 z10.2.2.2.2.2.2.2.2).bind fun z17 =>
    if z17.1 = 0 then
     f_X5_readWord_23 td_personCount reader_end x_tape td_personNames td_wordCount z17.2.1 z17.2.2.1 z17.2.2.2.1 z17.2.2.2.2.1 z17.2.2.2.2.2.1 z17.2.2.2.2.2.2.1 z1.2.2.2.2.2.2.2.1 z17.2.2.2.2.2.2.2.1 reader_number z17.2.2.2.2.2.2.2.2.1 z17.2.2.2.2.2.2.2.2.2 td_wordNames td_sounds td_prices
    else
     (f_X5_takes reader_end x_tape z17.2.1 z17.2.2.1 z17.2.2.2.1 z17.2.2.2.2.1 z17.2.2.2.2.2.1 z17.2.2.2.2.2.2.1 z17.2.2.2.2.2.2.2.2.1 z17.2.2.2.2.2.2.2.2.2 11).bind fun z28 =>
     if z28.1 = 0 then
      f_X5_readWord_44 td_personCount reader_end x_tape td_personNames td_wordCount z28.2.1 z28.2.2.1 z28.2.2.2.1 z28.2.2.2.2.1 z28.2.2.2.2.2.1 z28.2.2.2.2.2.2.1 z1.2.2.2.2.2.2.2.1 z17.2.2.2.2.2.2.2.1 reader_number z28.2.2.2.2.2.2.2.1 z28.2.2.2.2.2.2.2.2 td_wordNames td_sounds td_prices
     else
      (f_X5_takesWhole reader_end x_tape z28.2.1 z28.2.2.1 z28.2.2.2.1 z28.2.2.2.2.1 z28.2.2.2.2.2.1 z28.2.2.2.2.2.2.1 reader_number z28.2.2.2.2.2.2.2.1 z28.2.2.2.2.2.2.2.2 0 99).bind fun z38 =>
      if z38.1 = 0 then
       f_X5_readWord_44 td_personCount reader_end x_tape td_personNames td_wordCount z38.2.1 z38.2.2.1 z38.2.2.2.1 z38.2.2.2.2.1 z38.2.2.2.2.2.1 z38.2.2.2.2.2.2.1 z1.2.2.2.2.2.2.2.1 z17.2.2.2.2.2.2.2.1 z38.2.2.2.2.2.2.2.1 z38.2.2.2.2.2.2.2.2.1 z38.2.2.2.2.2.2.2.2.2 td_wordNames td_sounds td_prices
      else
       (f_X9_addWord td_wordCount td_wordNames td_sounds td_prices z1.2.2.2.2.2.2.2.1 z17.2.2.2.2.2.2.2.1 z38.2.2.2.2.2.2.2.1).bind fun z62 =>
       some (1, z62.1, z38.2.1, z38.2.2.1, z38.2.2.2.1, z38.2.2.2.2.1, z38.2.2.2.2.2.1, z38.2.2.2.2.2.2.1, z1.2.2.2.2.2.2.2.1, z17.2.2.2.2.2.2.2.1, z38.2.2.2.2.2.2.2.1, z38.2.2.2.2.2.2.2.2.1, z38.2.2.2.2.2.2.2.2.2, z62.2.1, z62.2.2.1, z62.2.2.2)
def f_X5_readLine_52 (reader_end : Int32) (x_tape : Nat → Int32) (v1 : Int32) (td_ear : Int32) (td_pairs : Int32) (td_wordCount : Int32) (td_personCount : Int32) (td_firstFar : Int32) (td_alikeCount : Int32) (td_gotCount : Int32) (reader_next : Int32) (reader_begun : Int32) (reader_knowings : Int32) (reader_sort : Int32) (reader_place : Int32) (reader_length : Int32) (reader_letters : Int64) (reader_whole : Int32) (reader_name : Int64) (reader_sounds : Int64) (reader_number : Int32) (reader_found : Int32) (reader_fault : Int32) (reader_faultPlace : Int32) (td_wordNames : Nat → Int64) (td_sounds : Nat → Int64) (td_prices : Nat → Int32) (td_personNames : Nat → Int64) (td_kinds : Nat → Int32) (td_firstWords : Nat → Int32) (td_errands : Nat → Int32) (td_alikes : Nat → Int32) (td_hourEars : Nat → Int32) (td_gotFirst : Nat → Int32) (td_gotSecond : Nat → Int32) (td_gotDegree : Nat → Int32) : Option (Int32 × Int32 × Int32 × Int32 × Int32 × Int32 × Int32 × Int32 × Int32 × Int32 × Int32 × Int32 × Int32 × Int32 × Int64 × Int32 × Int64 × Int64 × Int32 × Int32 × Int32 × Int32 × (Nat → Int64) × (Nat → Int64) × (Nat → Int32) × (Nat → Int64) × (Nat → Int32) × (Nat → Int32) × (Nat → Int32) × (Nat → Int32) × (Nat → Int32) × (Nat → Int32) × (Nat → Int32) × (Nat → Int32)) :=
  (f_X5_isRoomFor td_wordCount td_personCount td_alikeCount td_gotCount reader_knowings td_hourEars v1).bind fun z54 =>
  if z54 = 0 then
   (f_X5_fail reader_place reader_fault reader_faultPlace 5).bind fun z62 =>
   if rf_zb z62.1 = true then
   some (z62.1, td_ear, td_pairs, td_wordCount, td_personCount, td_firstFar, td_alikeCount, td_gotCount, reader_next, reader_begun, reader_knowings, reader_sort, reader_place, reader_length, reader_letters, reader_whole, reader_name, reader_sounds, reader_number, reader_found, z62.2.1, z62.2.2, td_wordNames, td_sounds, td_prices, td_personNames, td_kinds, td_firstWords, td_errands, td_alikes, td_hourEars, td_gotFirst, td_gotSecond, td_gotDegree)
   else none
  else
   (f_X5_look reader_end x_tape reader_next reader_sort reader_place reader_length reader_letters reader_whole).bind fun z67 =>
   if v1 = 1 then
    (f_X5_readFerry reader_end x_tape td_ear td_pairs z67.1 reader_begun z67.2.1 z67.2.2.1 z67.2.2.2.1 z67.2.2.2.2.1 z67.2.2.2.2.2 reader_number reader_fault reader_faultPlace).bind fun z113 =>
    if rf_zb z113.1 = true then
    some (z113.1, z113.2.1, z113.2.2.1, td_wordCount, td_personCount, td_firstFar, td_alikeCount, td_gotCount, z113.2.2.2.1, z113.2.2.2.2.1, reader_knowings, z113.2.2.2.2.2.1, z113.2.2.2.2.2.2.1, z113.2.2.2.2.2.2.2.1, z113.2.2.2.2.2.2.2.2.1, z113.2.2.2.2.2.2.2.2.2.1, reader_name, reader_sounds, z113.2.2.2.2.2.2.2.2.2.2.1, reader_found, z113.2.2.2.2.2.2.2.2.2.2.2.1, z113.2.2.2.2.2.2.2.2.2.2.2.2, td_wordNames, td_sounds, td_prices, td_personNames, td_kinds, td_firstWords, td_errands, td_alikes, td_hourEars, td_gotFirst, td_gotSecond, td_gotDegree)
    else none
   else
   if v1 = 2 then
    (f_X5_readWord td_personCount reader_end x_tape td_personNames td_wordCount z67.1 z67.2.1 z67.2.2.1 z67.2.2.2.1 z67.2.2.2.2.1 z67.2.2.2.2.2 reader_name reader_sounds reader_number reader_fault reader_faultPlace td_wordNames td_sounds td_prices).bind fun z118 =>
    if rf_zb z118.1 = true then
    some (z118.1, td_ear, td_pairs, z118.2.1, td_personCount, td_firstFar, td_alikeCount, td_gotCount, z118.2.2.1, reader_begun, reader_knowings, z118.2.2.2.1, z118.2.2.2.2.1, z118.2.2.2.2.2.1, z118.2.2.2.2.2.2.1, z118.2.2.2.2.2.2.2.1, z118.2.2.2.2.2.2.2.2.1, z118.2.2.2.2.2.2.2.2.2.1, z118.2.2.2.2.2.2.2.2.2.2.1, reader_found, z118.2.2.2.2.2.2.2.2.2.2.2.1, z118.2.2.2.2.2.2.2.2.2.2.2.2.1, z118.2.2.2.2.2.2.2.2.2.2.2.2.2.1, z118.2.2.2.2.2.2.2.2.2.2.2.2.2.2.1, z118.2.2.2.2.2.2.2.2.2.2.2.2.2.2.2, td_personNames, td_kinds, td_firstWords, td_errands, td_alikes, td_hourEars, td_gotFirst, td_gotSecond, td_gotDegree)
    else none
   else
   if v1 = 3 then
    (f_X5_readPerson td_wordCount reader_end x_tape td_wordNames td_personCount td_firstFar z67.1 z67.2.1 z67.2.2.1 z67.2.2.2.1 z67.2.2.2.2.1 z67.2.2.2.2.2 reader_name reader_found reader_fault reader_faultPlace td_personNames td_kinds td_firstWords td_errands).bind fun z123 =>
    if rf_zb z123.1 = true then
    some (z123.1, td_ear, td_pairs, td_wordCount, z123.2.1, z123.2.2.1, td_alikeCount, td_gotCount, z123.2.2.2.1, reader_begun, reader_knowings, z123.2.2.2.2.1, z123.2.2.2.2.2.1, z123.2.2.2.2.2.2.1, z123.2.2.2.2.2.2.2.1, z123.2.2.2.2.2.2.2.2.1, z123.2.2.2.2.2.2.2.2.2.1, reader_sounds, reader_number, z123.2.2.2.2.2.2.2.2.2.2.1, z123.2.2.2.2.2.2.2.2.2.2.2.1, z123.2.2.2.2.2.2.2.2.2.2.2.2.1, td_wordNames, td_sounds, td_prices, z123.2.2.2.2.2.2.2.2.2.2.2.2.2.1, z123.2.2.2.2.2.2.2.2.2.2.2.2.2.2.1, z123.2.2.2.2.2.2.2.2.2.2.2.2.2.2.2.1, z123.2.2.2.2.2.2.2.2.2.2.2.2.2.2.2.2, td_alikes, td_hourEars, td_gotFirst, td_gotSecond, td_gotDegree)
    else none
   else
   if v1 = 4 then
    (f_X5_readKnows td_wordCount td_personCount reader_end x_tape td_wordNames td_personNames z67.1 reader_knowings z67.2.1 z67.2.2.1 z67.2.2.2.1 z67.2.2.2.2.1 z67.2.2.2.2.2 reader_found reader_fault reader_faultPlace td_firstWords).bind fun z128 =>
    if rf_zb z128.1 = true then
    some (z128.1, td_ear, td_pairs, td_wordCount, td_personCount, td_firstFar, td_alikeCount, td_gotCount, z128.2.1, reader_begun, z128.2.2.1, z128.2.2.2.1, z128.2.2.2.2.1, z128.2.2.2.2.2.1, z128.2.2.2.2.2.2.1, z128.2.2.2.2.2.2.2.1, reader_name, reader_sounds, reader_number, z128.2.2.2.2.2.2.2.2.1, z128.2.2.2.2.2.2.2.2.2.1, z128.2.2.2.2.2.2.2.2.2.2.1, td_wordNames, td_sounds, td_prices, td_personNames, td_kinds, z128.2.2.2.2.2.2.2.2.2.2.2, td_errands, td_alikes, td_hourEars, td_gotFirst, td_gotSecond, td_gotDegree)
    else none
   else
   if v1 = 5 then
    (f_X5_readAlike reader_end x_tape td_alikeCount z67.1 z67.2.1 z67.2.2.1 z67.2.2.2.1 z67.2.2.2.2.1 z67.2.2.2.2.2 reader_found reader_fault reader_faultPlace td_alikes).bind fun z133 =>
    if rf_zb z133.1 = true then
    some (z133.1, td_ear, td_pairs, td_wordCount, td_personCount, td_firstFar, z133.2.1, td_gotCount, z133.2.2.1, reader_begun, reader_knowings, z133.2.2.2.1, z133.2.2.2.2.1, z133.2.2.2.2.2.1, z133.2.2.2.2.2.2.1, z133.2.2.2.2.2.2.2.1, reader_name, reader_sounds, reader_number, z133.2.2.2.2.2.2.2.2.1, z133.2.2.2.2.2.2.2.2.2.1, z133.2.2.2.2.2.2.2.2.2.2.1, td_wordNames, td_sounds, td_prices, td_personNames, td_kinds, td_firstWords, td_errands, z133.2.2.2.2.2.2.2.2.2.2.2, td_hourEars, td_gotFirst, td_gotSecond, td_gotDegree)
    else none
   else
   if v1 = 6 then
    (f_X5_readHour reader_end x_tape z67.1 z67.2.1 z67.2.2.1 z67.2.2.2.1 z67.2.2.2.2.1 z67.2.2.2.2.2 reader_number reader_fault reader_faultPlace td_hourEars).bind fun z138 =>
    if rf_zb z138.1 = true then
    some (z138.1, td_ear, td_pairs, td_wordCount, td_personCount, td_firstFar, td_alikeCount, td_gotCount, z138.2.1, reader_begun, reader_knowings, z138.2.2.1, z138.2.2.2.1, z138.2.2.2.2.1, z138.2.2.2.2.2.1, z138.2.2.2.2.2.2.1, reader_name, reader_sounds, z138.2.2.2.2.2.2.2.1, reader_found, z138.2.2.2.2.2.2.2.2.1, z138.2.2.2.2.2.2.2.2.2.1, td_wordNames, td_sounds, td_prices, td_personNames, td_kinds, td_firstWords, td_errands, td_alikes, z138.2.2.2.2.2.2.2.2.2.2, td_gotFirst, td_gotSecond, td_gotDegree)
    else none
   else
   if v1 = 7 then
    (f_X5_readErrand td_personCount reader_end x_tape td_personNames z67.1 z67.2.1 z67.2.2.1 z67.2.2.2.1 z67.2.2.2.2.1 z67.2.2.2.2.2 reader_number reader_found reader_fault reader_faultPlace td_errands).bind fun z143 =>
    if rf_zb z143.1 = true then
    some (z143.1, td_ear, td_pairs, td_wordCount, td_personCount, td_firstFar, td_alikeCount, td_gotCount, z143.2.1, reader_begun, reader_knowings, z143.2.2.1, z143.2.2.2.1, z143.2.2.2.2.1, z143.2.2.2.2.2.1, z143.2.2.2.2.2.2.1, reader_name, reader_sounds, z143.2.2.2.2.2.2.2.1, z143.2.2.2.2.2.2.2.2.1, z143.2.2.2.2.2.2.2.2.2.1, z143.2.2.2.2.2.2.2.2.2.2.1, td_wordNames, td_sounds, td_prices, td_personNames, td_kinds, td_firstWords, z143.2.2.2.2.2.2.2.2.2.2.2, td_alikes, td_hourEars, td_gotFirst, td_gotSecond, td_gotDegree)
    else none
   else
    (f_X5_readGot td_personCount reader_end x_tape td_personNames td_gotCount z67.1 z67.2.1 z67.2.2.1 z67.2.2.2.1 z67.2.2.2.2.1 z67.2.2.2.2.2 reader_found reader_fault reader_faultPlace td_gotFirst td_gotSecond td_gotDegree).bind fun z148 =>
    if rf_zb z148.1 = true then
    some (z148.1, td_ear, td_pairs, td_wordCount, td_personCount, td_firstFar, td_alikeCount, z148.2.1, z148.2.2.1, reader_begun, reader_knowings, z148.2.2.2.1, z148.2.2.2.2.1, z148.2.2.2.2.2.1, z148.2.2.2.2.2.2.1, z148.2.2.2.2.2.2.2.1, reader_name, reader_sounds, reader_number, z148.2.2.2.2.2.2.2.2.1, z148.2.2.2.2.2.2.2.2.2.1, z148.2.2.2.2.2.2.2.2.2.2.1, td_wordNames, td_sounds, td_prices, td_personNames, td_kinds, td_firstWords, td_errands, td_alikes, td_hourEars, z148.2.2.2.2.2.2.2.2.2.2.2.1, z148.2.2.2.2.2.2.2.2.2.2.2.2.1, z148.2.2.2.2.2.2.2.2.2.2.2.2.2)
    else none
def f_X5_readLine_33 (reader_end : Int32) (x_tape : Nat → Int32) (v1 : Int32) (td_ear : Int32) (td_pairs : Int32) (td_wordCount : Int32) (td_personCount : Int32) (td_firstFar : Int32) (td_alikeCount : Int32) (td_gotCount : Int32) (reader_next : Int32) (reader_begun : Int32) (reader_knowings : Int32) (reader_sort : Int32) (reader_place : Int32) (reader_length : Int32) (reader_letters : Int64) (reader_whole : Int32) (reader_name : Int64) (reader_sounds : Int64) (reader_number : Int32) (reader_found : Int32) (reader_fault : Int32) (reader_faultPlace : Int32) (td_wordNames : Nat → Int64) (td_sounds : Nat → Int64) (td_prices : Nat → Int32) (td_personNames : Nat → Int64) (td_kinds : Nat → Int32) (td_firstWords : Nat → Int32) (td_errands : Nat → Int32) (td_alikes : Nat → Int32) (td_hourEars : Nat → Int32) (td_gotFirst : Nat → Int32) (td_gotSecond : Nat → Int32) (td_gotDegree : Nat → Int32) : Option (Int32 × Int32 × Int32 × Int32 × Int32 × Int32 × Int32 × Int32 × Int32 × Int32 × Int32 × Int32 × Int32 × Int32 × Int64 × Int32 × Int64 × Int64 × Int32 × Int32 × Int32 × Int32 × (Nat → Int64) × (Nat → Int64) × (Nat → Int32) × (Nat → Int64) × (Nat → Int32) × (Nat → Int32) × (Nat → Int32) × (Nat → Int32) × (Nat → Int32) × (Nat → Int32) × (Nat → Int32) × (Nat → Int32)) :=
  if v1 = 1 then
   f_X5_readLine_52 reader_end x_tape v1 td_ear td_pairs td_wordCount td_personCount td_firstFar td_alikeCount td_gotCount reader_next reader_begun reader_knowings reader_sort reader_place reader_length reader_letters reader_whole reader_name reader_sounds reader_number reader_found reader_fault reader_faultPlace td_wordNames td_sounds td_prices td_personNames td_kinds td_firstWords td_errands td_alikes td_hourEars td_gotFirst td_gotSecond td_gotDegree
  else
   if reader_begun = 0 then
    (f_X5_fail reader_place reader_fault reader_faultPlace 6).bind fun z48 =>
    if rf_zb z48.1 = true then
    some (z48.1, td_ear, td_pairs, td_wordCount, td_personCount, td_firstFar, td_alikeCount, td_gotCount, reader_next, reader_begun, reader_knowings, reader_sort, reader_place, reader_length, reader_letters, reader_whole, reader_name, reader_sounds, reader_number, reader_found, z48.2.1, z48.2.2, td_wordNames, td_sounds, td_prices, td_personNames, td_kinds, td_firstWords, td_errands, td_alikes, td_hourEars, td_gotFirst, td_gotSecond, td_gotDegree)
    else none
   else
    f_X5_readLine_52 reader_end x_tape v1 td_ear td_pairs td_wordCount td_personCount td_firstFar td_alikeCount td_gotCount reader_next reader_begun reader_knowings reader_sort reader_place reader_length reader_letters reader_whole reader_name reader_sounds reader_number reader_found reader_fault reader_faultPlace td_wordNames td_sounds td_prices td_personNames td_kinds td_firstWords td_errands td_alikes td_hourEars td_gotFirst td_gotSecond td_gotDegree
def f_X5_readLine (reader_end : Int32) (x_tape : Nat → Int32) (td_ear : Int32) (td_pairs : Int32) (td_wordCount : Int32) (td_personCount : Int32) (td_firstFar : Int32) (td_alikeCount : Int32) (td_gotCount : Int32) (reader_next : Int32) (reader_begun : Int32) (reader_knowings : Int32) (reader_sort : Int32) (reader_place : Int32) (reader_length : Int32) (reader_letters : Int64) (reader_whole : Int32) (reader_name : Int64) (reader_sounds : Int64) (reader_number : Int32) (reader_found : Int32) (reader_fault : Int32) (reader_faultPlace : Int32) (td_wordNames : Nat → Int64) (td_sounds : Nat → Int64) (td_prices : Nat → Int32) (td_personNames : Nat → Int64) (td_kinds : Nat → Int32) (td_firstWords : Nat → Int32) (td_errands : Nat → Int32) (td_alikes : Nat → Int32) (td_hourEars : Nat → Int32) (td_gotFirst : Nat → Int32) (td_gotSecond : Nat → Int32) (td_gotDegree : Nat → Int32) : Option (Int32 × Int32 × Int32 × Int32 × Int32 × Int32 × Int32 × Int32 × Int32 × Int32 × Int32 × Int32 × Int32 × Int32 × Int64 × Int32 × Int64 × Int64 × Int32 × Int32 × Int32 × Int32 × (Nat → Int64) × (Nat → Int64) × (Nat → Int32) × (Nat → Int64) × (Nat → Int32) × (Nat → Int32) × (Nat → Int32) × (Nat → Int32) × (Nat → Int32) × (Nat → Int32) × (Nat → Int32) × (Nat → Int32)) :=
  (f_X5_lineBegun reader_sort reader_length reader_letters).bind fun z1 =>
  if z1 = 0 then
   (f_X5_fail reader_place reader_fault reader_faultPlace 1).bind fun z11 =>
   if rf_zb z11.1 = true then
   some (z11.1, td_ear, td_pairs, td_wordCount, td_personCount, td_firstFar, td_alikeCount, td_gotCount, reader_next, reader_begun, reader_knowings, reader_sort, reader_place, reader_length, reader_letters, reader_whole, reader_name, reader_sounds, reader_number, reader_found, z11.2.1, z11.2.2, td_wordNames, td_sounds, td_prices, td_personNames, td_kinds, td_firstWords, td_errands, td_alikes, td_hourEars, td_gotFirst, td_gotSecond, td_gotDegree)
   else none
  else
   if z1 = 1 then
    if reader_begun = 0 then
     f_X5_readLine_33 reader_end x_tape z1 td_ear td_pairs td_wordCount td_personCount td_firstFar td_alikeCount td_gotCount reader_next reader_begun reader_knowings reader_sort reader_place reader_length reader_letters reader_whole reader_name reader_sounds reader_number reader_found reader_fault reader_faultPlace td_wordNames td_sounds td_prices td_personNames td_kinds td_firstWords td_errands td_alikes td_hourEars td_gotFirst td_gotSecond td_gotDegree
    else
     (f_X5_fail reader_place reader_fault reader_faultPlace 3).bind fun z29 =>
     if rf_zb z29.1 = true then
     some (z29.1, td_ear, td_pairs, td_wordCount, td_personCount, td_firstFar, td_alikeCount, td_gotCount, reader_next, reader_begun, reader_knowings, reader_sort, reader_place, reader_length, reader_letters, reader_whole, reader_name, reader_sounds, reader_number, reader_found, z29.2.1, z29.2.2, td_wordNames, td_sounds, td_prices, td_personNames, td_kinds, td_firstWords, td_errands, td_alikes, td_hourEars, td_gotFirst, td_gotSecond, td_gotDegree)
     else none
   else
    f_X5_readLine_33 reader_end x_tape z1 td_ear td_pairs td_wordCount td_personCount td_firstFar td_alikeCount td_gotCount reader_next reader_begun reader_knowings reader_sort reader_place reader_length reader_letters reader_whole reader_name reader_sounds reader_number reader_found reader_fault reader_faultPlace td_wordNames td_sounds td_prices td_personNames td_kinds td_firstWords td_errands td_alikes td_hourEars td_gotFirst td_gotSecond td_gotDegree
def f_X9_forget (t_ear : Int32) (t_pairs : Int32) (t_wordCount : Int32) (t_personCount : Int32) (t_firstFar : Int32) (t_alikeCount : Int32) (t_gotCount : Int32) (t_alikes : Nat → Int32) (t_hourEars : Nat → Int32) : Option (Int32 × Int32 × Int32 × Int32 × Int32 × Int32 × Int32 × (Nat → Int32) × (Nat → Int32)) :=
  some (0, 0, 0, 0, 0, 0, 0, rf_fill 32 0 t_alikes, rf_fill 24 0 t_hourEars)
def f_X5_read_117 (x_tape : Nat → Int32) (v3 : Int32) (td_ear : Int32) (td_pairs : Int32) (td_wordCount : Int32) (td_personCount : Int32) (td_firstFar : Int32) (td_alikeCount : Int32) (td_gotCount : Int32) (reader_end : Int32) (reader_next : Int32) (reader_begun : Int32) (reader_knowings : Int32) (reader_sort : Int32) (reader_place : Int32) (reader_length : Int32) (reader_letters : Int64) (reader_whole : Int32) (reader_name : Int64) (reader_sounds : Int64) (reader_number : Int32) (reader_found : Int32) (reader_fault : Int32) (reader_faultPlace : Int32) (td_wordNames : Nat → Int64) (td_sounds : Nat → Int64) (td_prices : Nat → Int32) (td_personNames : Nat → Int64) (td_kinds : Nat → Int32) (td_firstWords : Nat → Int32) (td_errands : Nat → Int32) (td_alikes : Nat → Int32) (td_hourEars : Nat → Int32) (td_gotFirst : Nat → Int32) (td_gotSecond : Nat → Int32) (td_gotDegree : Nat → Int32) : Option (Int32 × Int32 × Int32 × Int32 × Int32 × Int32 × Int32 × Nat × Int32 × Int32 × Int32 × Int32 × Int32 × Int32 × Int32 × Int64 × Int32 × Int64 × Int64 × Int32 × Int32 × Int32 × Int32 × (Nat → Int64) × (Nat → Int64) × (Nat → Int32) × (Nat → Int64) × (Nat → Int32) × (Nat → Int32) × (Nat → Int32) × (Nat → Int32) × (Nat → Int32) × (Nat → Int32) × (Nat → Int32) × (Nat → Int32)) :=
  if v3 = 0 then
   some (td_ear, td_pairs, td_wordCount, td_personCount, td_firstFar, td_alikeCount, td_gotCount, 11, reader_end, reader_next, reader_begun, reader_knowings, reader_sort, reader_place, reader_length, reader_letters, reader_whole, reader_name, reader_sounds, reader_number, reader_found, reader_fault, reader_faultPlace, td_wordNames, td_sounds, td_prices, td_personNames, td_kinds, td_firstWords, td_errands, td_alikes, td_hourEars, td_gotFirst, td_gotSecond, td_gotDegree)
  else
   if td_personCount = 0 then
    (f_X5_fail reader_place reader_fault reader_faultPlace 6).bind fun z134 =>
    some (td_ear, td_pairs, td_wordCount, td_personCount, td_firstFar, td_alikeCount, td_gotCount, 11, reader_end, reader_next, reader_begun, reader_knowings, reader_sort, reader_place, reader_length, reader_letters, reader_whole, reader_name, reader_sounds, reader_number, reader_found, z134.2.1, z134.2.2, td_wordNames, td_sounds, td_prices, td_personNames, td_kinds, td_firstWords, td_errands, td_alikes, td_hourEars, td_gotFirst, td_gotSecond, td_gotDegree)
   else
    some (td_ear, td_pairs, td_wordCount, td_personCount, td_firstFar, td_alikeCount, td_gotCount, 11, reader_end, reader_next, reader_begun, reader_knowings, reader_sort, reader_place, reader_length, reader_letters, reader_whole, reader_name, reader_sounds, reader_number, reader_found, reader_fault, reader_faultPlace, td_wordNames, td_sounds, td_prices, td_personNames, td_kinds, td_firstWords, td_errands, td_alikes, td_hourEars, td_gotFirst, td_gotSecond, td_gotDegree)
def f_X5_read_97 (x_tape : Nat → Int32) (v3 : Int32) (td_ear : Int32) (td_pairs : Int32) (td_wordCount : Int32) (td_personCount : Int32) (td_firstFar : Int32) (td_alikeCount : Int32) (td_gotCount : Int32) (reader_end : Int32) (reader_next : Int32) (reader_begun : Int32) (reader_knowings : Int32) (reader_sort : Int32) (reader_place : Int32) (reader_length : Int32) (reader_letters : Int64) (reader_whole : Int32) (reader_name : Int64) (reader_sounds : Int64) (reader_number : Int32) (reader_found : Int32) (reader_fault : Int32) (reader_faultPlace : Int32) (td_wordNames : Nat → Int64) (td_sounds : Nat → Int64) (td_prices : Nat → Int32) (td_personNames : Nat → Int64) (td_kinds : Nat → Int32) (td_firstWords : Nat → Int32) (td_errands : Nat → Int32) (td_alikes : Nat → Int32) (td_hourEars : Nat → Int32) (td_gotFirst : Nat → Int32) (td_gotSecond : Nat → Int32) (td_gotDegree : Nat → Int32) : Option (Int32 × Int32 × Int32 × Int32 × Int32 × Int32 × Int32 × Nat × Int32 × Int32 × Int32 × Int32 × Int32 × Int32 × Int32 × Int64 × Int32 × Int64 × Int64 × Int32 × Int32 × Int32 × Int32 × (Nat → Int64) × (Nat → Int64) × (Nat → Int32) × (Nat → Int64) × (Nat → Int32) × (Nat → Int32) × (Nat → Int32) × (Nat → Int32) × (Nat → Int32) × (Nat → Int32) × (Nat → Int32) × (Nat → Int32)) :=
  if v3 = 0 then
   f_X5_read_117 x_tape v3 td_ear td_pairs td_wordCount td_personCount td_firstFar td_alikeCount td_gotCount reader_end reader_next reader_begun reader_knowings reader_sort reader_place reader_length reader_letters reader_whole reader_name reader_sounds reader_number reader_found reader_fault reader_faultPlace td_wordNames td_sounds td_prices td_personNames td_kinds td_firstWords td_errands td_alikes td_hourEars td_gotFirst td_gotSecond td_gotDegree
  else
   if reader_sort = 0 then
    f_X5_read_117 x_tape v3 td_ear td_pairs td_wordCount td_personCount td_firstFar td_alikeCount td_gotCount reader_end reader_next reader_begun reader_knowings reader_sort reader_place reader_length reader_letters reader_whole reader_name reader_sounds reader_number reader_found reader_fault reader_faultPlace td_wordNames td_sounds td_prices td_personNames td_kinds td_firstWords td_errands td_alikes td_hourEars td_gotFirst td_gotSecond td_gotDegree
   else
    (f_X5_fail reader_place reader_fault reader_faultPlace 1).bind fun z110 =>
    some (td_ear, td_pairs, td_wordCount, td_personCount, td_firstFar, td_alikeCount, td_gotCount, 11, reader_end, reader_next, reader_begun, reader_knowings, reader_sort, reader_place, reader_length, reader_letters, reader_whole, reader_name, reader_sounds, reader_number, reader_found, z110.2.1, z110.2.2, td_wordNames, td_sounds, td_prices, td_personNames, td_kinds, td_firstWords, td_errands, td_alikes, td_hourEars, td_gotFirst, td_gotSecond, td_gotDegree)
def f_X5_read_62 (x_tape : Nat → Int32) : Nat → Int32 → Int32 → Int32 → Int32 → Int32 → Int32 → Int32 → Int32 → Int32 → Int32 → Int32 → Int32 → Int32 → Int32 → Int32 → Int32 → Int64 → Int32 → Int64 → Int64 → Int32 → Int32 → Int32 → Int32 → (Nat → Int64) → (Nat → Int64) → (Nat → Int32) → (Nat → Int64) → (Nat → Int32) → (Nat → Int32) → (Nat → Int32) → (Nat → Int32) → (Nat → Int32) → (Nat → Int32) → (Nat → Int32) → (Nat → Int32) → Option (Int32 × Int32 × Int32 × Int32 × Int32 × Int32 × Int32 × Nat × Int32 × Int32 × Int32 × Int32 × Int32 × Int32 × Int32 × Int64 × Int32 × Int64 × Int64 × Int32 × Int32 × Int32 × Int32 × (Nat → Int64) × (Nat → Int64) × (Nat → Int32) × (Nat → Int64) × (Nat → Int32) × (Nat → Int32) × (Nat → Int32) × (Nat → Int32) × (Nat → Int32) × (Nat → Int32) × (Nat → Int32) × (Nat → Int32))
  | 0, _, _, _, _, _, _, _, _, _, _, _, _, _, _, _, _, _, _, _, _, _, _, _, _, _, _, _, _, _, _, _, _, _, _, _, _ => none
  | n + 1, v3, v4, td_ear, td_pairs, td_wordCount, td_personCount, td_firstFar, td_alikeCount, td_gotCount, reader_end, reader_next, reader_begun, reader_knowings, reader_sort, reader_place, reader_length, reader_letters, reader_whole, reader_name, reader_sounds, reader_number, reader_found, reader_fault, reader_faultPlace, td_wordNames, td_sounds, td_prices, td_personNames, td_kinds, td_firstWords, td_errands, td_alikes, td_hourEars, td_gotFirst, td_gotSecond, td_gotDegree =>
   if 900 ≤ v4 then
    f_X5_read_97 x_tape v3 td_ear td_pairs td_wordCount td_personCount td_firstFar td_alikeCount td_gotCount reader_end reader_next reader_begun reader_knowings reader_sort reader_place reader_length reader_letters reader_whole reader_name reader_sounds reader_number reader_found reader_fault reader_faultPlace td_wordNames td_sounds td_prices td_personNames td_kinds td_firstWords td_errands td_alikes td_hourEars td_gotFirst td_gotSecond td_gotDegree
   else
    if v3 = 0 then
     f_X5_read_97 x_tape v3 td_ear td_pairs td_wordCount td_personCount td_firstFar td_alikeCount td_gotCount reader_end reader_next reader_begun reader_knowings reader_sort reader_place reader_length reader_letters reader_whole reader_name reader_sounds reader_number reader_found reader_fault reader_faultPlace td_wordNames td_sounds td_prices td_personNames td_kinds td_firstWords td_errands td_alikes td_hourEars td_gotFirst td_gotSecond td_gotDegree
    else
     if reader_sort = 3 then
      (f_X5_look reader_end x_tape reader_next reader_sort reader_place reader_length reader_letters reader_whole).bind fun z83 =>
      (f_X5_readLine reader_end x_tape td_ear td_pairs td_wordCount td_personCount td_firstFar td_alikeCount td_gotCount z83.1 reader_begun reader_knowings z83.2.1 z83.2.2.1 z83.2.2.2.1 z83.2.2.2.2.1 z83.2.2.2.2.2 reader_name reader_sounds reader_number reader_found reader_fault reader_faultPlace td_wordNames td_sounds td_prices td_personNames td_kinds td_firstWords td_errands td_alikes td_hourEars td_gotFirst td_gotSecond td_gotDegree).bind fun z87 =>
      f_X5_read_62 x_tape n z87.1 (v4 + 1) z87.2.1 z87.2.2.1 z87.2.2.2.1 z87.2.2.2.2.1 z87.2.2.2.2.2.1 z87.2.2.2.2.2.2.1 z87.2.2.2.2.2.2.2.1 reader_end z87.2.2.2.2.2.2.2.2.1 z87.2.2.2.2.2.2.2.2.2.1 z87.2.2.2.2.2.2.2.2.2.2.1 z87.2.2.2.2.2.2.2.2.2.2.2.1 z87.2.2.2.2.2.2.2.2.2.2.2.2.1 z87.2.2.2.2.2.2.2.2.2.2.2.2.2.1 z87.2.2.2.2.2.2.2.2.2.2.2.2.2.2.1 z87.2.2.2.2.2.2.2.2.2.2.2.2.2.2.2.1 z87.2.2.2.2.2.2.2.2.2.2.2.2.2.2.2.2.1 z87.2.2.2.2.2.2.2.2.2.2.2.2.2.2.2.2.2.1 z87.2.2.2.2.2.2.2.2.2.2.2.2.2.2.2.2.2.2.1 z87.2.2.2.2.2.2.2.2.2.2.2.2.2.2.2.2.2.2.2.1 z87.2.2.2.2.2.2.2.2.2.2.2.2.2.2.2.2.2.2.2.2.1 z87.2.2.2.2.2.2.2.2.2.2.2.2.2.2.2.2.2.2.2.2.2.1 z87.2.2.2.2.2.2.2.2.2.2.2.2.2.2.2.2.2.2.2.2.2.2.1 z87.2.2.2.2.2.2.2.2.2.2.2.2.2.2.2.2.2.2.2.2.2.2.2.1 z87.2.2.2.2.2.2.2.2.2.2.2.2.2.2.2.2.2.2.2.2.2.2.2.2.1 z87.2.2.2.2.2.2.2.2.2.2.2.2.2.2.2.2.2.2.2.2.2.2.2.2.2.1 z87.2.2.2.2.2.2.2.2.2.2.2.2.2.2.2.2.2.2.2.2.2.2.2.2.2.2.1 z87.2.2.2.2.2.2.2.2.2.2.2.2.2.2.2.2.2.2.2.2.2.2.2.2.2.2.2.1 z87.2.2.2.2.2.2.2.2.2.2.2.2.2.2.2.2.2.2.2.2.2.2.2.2.2.2.2.2.1 z87.2.2.2.2.2.2.2.2.2.2.2.2.2.2.2.2.2.2.2.2.2.2.2.2.2.2.2.2.2.1 z87.2.2.2.2.2.2.2.2.2.2.2.2.2.2.2.2.2.2.2.2.2.2.2.2.2.2.2.2.2.2.1 z87.2.2.2.2.2.2.2.2.2.2.2.2.2.2.2.2.2.2.2.2.2.2.2.2.2.2.2.2.2.2.2.1 z87.2.2.2.2.2.2.2.2.2.2.2.2.2.2.2.2.2.2.2.2.2.2.2.2.2.2.2.2.2.2.2.2.1 z87.2.2.2.2.2.2.2.2.2.2.2.2.2.2.2.2.2.2.2.2.2.2.2.2.2.2.2.2.2.2.2.2.2
     else
      f_X5_read_97 x_tape v3 td_ear td_pairs td_wordCount td_personCount td_firstFar td_alikeCount td_gotCount reader_end reader_next reader_begun reader_knowings reader_sort reader_place reader_length reader_letters reader_whole reader_name reader_sounds reader_number reader_found reader_fault reader_faultPlace td_wordNames td_sounds td_prices td_personNames td_kinds td_firstWords td_errands td_alikes td_hourEars td_gotFirst td_gotSecond td_gotDegree
def f_X5_read (x_tape : Nat → Int32) (td_ear : Int32) (td_pairs : Int32) (td_wordCount : Int32) (td_personCount : Int32) (td_firstFar : Int32) (td_alikeCount : Int32) (td_gotCount : Int32) (reader_tale : Nat) (reader_end : Int32) (reader_next : Int32) (reader_begun : Int32) (reader_knowings : Int32) (reader_sort : Int32) (reader_place : Int32) (reader_length : Int32) (reader_letters : Int64) (reader_whole : Int32) (reader_name : Int64) (reader_sounds : Int64) (reader_number : Int32) (reader_found : Int32) (reader_fault : Int32) (reader_faultPlace : Int32) (td_wordNames : Nat → Int64) (td_sounds : Nat → Int64) (td_prices : Nat → Int32) (td_personNames : Nat → Int64) (td_kinds : Nat → Int32) (td_firstWords : Nat → Int32) (td_errands : Nat → Int32) (td_alikes : Nat → Int32) (td_hourEars : Nat → Int32) (td_gotFirst : Nat → Int32) (td_gotSecond : Nat → Int32) (td_gotDegree : Nat → Int32) (v2 : Int32) : Option (Int32 × Int32 × Int32 × Int32 × Int32 × Int32 × Int32 × Nat × Int32 × Int32 × Int32 × Int32 × Int32 × Int32 × Int32 × Int64 × Int32 × Int64 × Int64 × Int32 × Int32 × Int32 × Int32 × (Nat → Int64) × (Nat → Int64) × (Nat → Int32) × (Nat → Int64) × (Nat → Int32) × (Nat → Int32) × (Nat → Int32) × (Nat → Int32) × (Nat → Int32) × (Nat → Int32) × (Nat → Int32) × (Nat → Int32)) :=
  (f_X9_forget td_ear td_pairs td_wordCount td_personCount td_firstFar td_alikeCount td_gotCount td_alikes td_hourEars).bind fun z9 =>
  (f_X5_look (if 900 < v2 then 900 else v2) x_tape 0 reader_sort reader_place reader_length reader_letters reader_whole).bind fun z51 =>
  (f_X5_readLine (if 900 < v2 then 900 else v2) x_tape z9.1 z9.2.1 z9.2.2.1 z9.2.2.2.1 z9.2.2.2.2.1 z9.2.2.2.2.2.1 z9.2.2.2.2.2.2.1 z51.1 0 0 z51.2.1 z51.2.2.1 z51.2.2.2.1 z51.2.2.2.2.1 z51.2.2.2.2.2 reader_name reader_sounds reader_number reader_found 0 0 td_wordNames td_sounds td_prices td_personNames td_kinds td_firstWords td_errands z9.2.2.2.2.2.2.2.1 z9.2.2.2.2.2.2.2.2 td_gotFirst td_gotSecond td_gotDegree).bind fun z55 =>
  f_X5_read_62 x_tape rf_fu z55.1 0 z55.2.1 z55.2.2.1 z55.2.2.2.1 z55.2.2.2.2.1 z55.2.2.2.2.2.1 z55.2.2.2.2.2.2.1 z55.2.2.2.2.2.2.2.1 (if 900 < v2 then 900 else v2) z55.2.2.2.2.2.2.2.2.1 z55.2.2.2.2.2.2.2.2.2.1 z55.2.2.2.2.2.2.2.2.2.2.1 z55.2.2.2.2.2.2.2.2.2.2.2.1 z55.2.2.2.2.2.2.2.2.2.2.2.2.1 z55.2.2.2.2.2.2.2.2.2.2.2.2.2.1 z55.2.2.2.2.2.2.2.2.2.2.2.2.2.2.1 z55.2.2.2.2.2.2.2.2.2.2.2.2.2.2.2.1 z55.2.2.2.2.2.2.2.2.2.2.2.2.2.2.2.2.1 z55.2.2.2.2.2.2.2.2.2.2.2.2.2.2.2.2.2.1 z55.2.2.2.2.2.2.2.2.2.2.2.2.2.2.2.2.2.2.1 z55.2.2.2.2.2.2.2.2.2.2.2.2.2.2.2.2.2.2.2.1 z55.2.2.2.2.2.2.2.2.2.2.2.2.2.2.2.2.2.2.2.2.1 z55.2.2.2.2.2.2.2.2.2.2.2.2.2.2.2.2.2.2.2.2.2.1 z55.2.2.2.2.2.2.2.2.2.2.2.2.2.2.2.2.2.2.2.2.2.2.1 z55.2.2.2.2.2.2.2.2.2.2.2.2.2.2.2.2.2.2.2.2.2.2.2.1 z55.2.2.2.2.2.2.2.2.2.2.2.2.2.2.2.2.2.2.2.2.2.2.2.2.1 z55.2.2.2.2.2.2.2.2.2.2.2.2.2.2.2.2.2.2.2.2.2.2.2.2.2.1 z55.2.2.2.2.2.2.2.2.2.2.2.2.2.2.2.2.2.2.2.2.2.2.2.2.2.2.1 z55.2.2.2.2.2.2.2.2.2.2.2.2.2.2.2.2.2.2.2.2.2.2.2.2.2.2.2.1 z55.2.2.2.2.2.2.2.2.2.2.2.2.2.2.2.2.2.2.2.2.2.2.2.2.2.2.2.2.1 z55.2.2.2.2.2.2.2.2.2.2.2.2.2.2.2.2.2.2.2.2.2.2.2.2.2.2.2.2.2.1 z55.2.2.2.2.2.2.2.2.2.2.2.2.2.2.2.2.2.2.2.2.2.2.2.2.2.2.2.2.2.2.1 z55.2.2.2.2.2.2.2.2.2.2.2.2.2.2.2.2.2.2.2.2.2.2.2.2.2.2.2.2.2.2.2.1 z55.2.2.2.2.2.2.2.2.2.2.2.2.2.2.2.2.2.2.2.2.2.2.2.2.2.2.2.2.2.2.2.2.1 z55.2.2.2.2.2.2.2.2.2.2.2.2.2.2.2.2.2.2.2.2.2.2.2.2.2.2.2.2.2.2.2.2.2
def f_X8_clear_acts (h_first : Int32) (h_count : Int32) : Option (Int32 × Int32) :=
  some (0, 0)
def f_X8_clear_images (h_first : Int32) (h_count : Int32) : Option (Int32 × Int32) :=
  some (0, 0)
def f_X9_common_128 (t_wordNames : Nat → Int64) (t_sounds : Nat → Int64) (t_alikes : Nat → Int32) (v8 : Int32) : Option (Int32) :=
  some v8
def f_X9_common_110 (k45 : Int32 → Int64 → Int64 → Int32 → Option (Int32)) (t_wordNames : Nat → Int64) (t_sounds : Nat → Int64) (t_alikes : Nat → Int32) (v1 : Int32) (v4 : Int64) (v6 : Int64) (v8 : Int32) : Option (Int32) :=
  k45 v1 ((Int64.toUInt64 v4 >>> ((Int32.toInt64 5).toUInt64 &&& Int64.toUInt64 63)).toInt64) ((Int64.toUInt64 v6 >>> ((Int32.toInt64 5).toUInt64 &&& Int64.toUInt64 63)).toInt64) (v8 + 1)
def f_X9_common_107 (t_wordNames : Nat → Int64) (t_sounds : Nat → Int64) (t_alikes : Nat → Int32) (v8 : Int32) : Option (Int32) :=
  some v8
def f_X9_common_45 (t_wordNames : Nat → Int64) (t_sounds : Nat → Int64) (t_alikes : Nat → Int32) : Nat → Int32 → Int64 → Int64 → Int32 → Option (Int32)
  | 0, _, _, _, _ => none
  | n + 1, v1, v4, v6, v8 =>
   if 8 ≤ v8 then
    f_X9_common_128 t_wordNames t_sounds t_alikes v8
   else
    if (lg_cmp v4 0) = 0 then
     f_X9_common_128 t_wordNames t_sounds t_alikes v8
    else
     if (lg_cmp v6 0) = 0 then
      f_X9_common_128 t_wordNames t_sounds t_alikes v8
     else
      if (Int64.toInt32 (v4 &&& 31)) = (Int64.toInt32 (v6 &&& 31)) then
       f_X9_common_110 (f_X9_common_45 t_wordNames t_sounds t_alikes n) t_wordNames t_sounds t_alikes v1 v4 v6 v8
      else
       if v1 = 1 then
        f_X9_common_107 t_wordNames t_sounds t_alikes v8
       else
        (f_X9_isAlike t_alikes (Int64.toInt32 (v4 &&& 31)) (Int64.toInt32 (v6 &&& 31))).bind fun z101 =>
        if z101 = 0 then
         f_X9_common_107 t_wordNames t_sounds t_alikes v8
        else
         f_X9_common_110 (f_X9_common_45 t_wordNames t_sounds t_alikes n) t_wordNames t_sounds t_alikes v1 v4 v6 v8
def f_X9_common_40 (t_wordNames : Nat → Int64) (t_sounds : Nat → Int64) (t_alikes : Nat → Int32) (v1 : Int32) (v4 : Int64) (s0 : Int64) : Option (Int32) :=
  f_X9_common_45 t_wordNames t_sounds t_alikes rf_fu v1 v4 s0 0
def f_X9_common_19 (t_wordNames : Nat → Int64) (t_sounds : Nat → Int64) (t_alikes : Nat → Int32) (v1 : Int32) (v3 : Int32) (s0 : Int64) : Option (Int32) :=
  if v1 = 0 then
   if rf_ib v3 10 = true then
   f_X9_common_40 t_wordNames t_sounds t_alikes v1 s0 (t_sounds (Int32.toNatClampNeg v3))
   else none
  else
   if rf_ib v3 10 = true then
   f_X9_common_40 t_wordNames t_sounds t_alikes v1 s0 (t_wordNames (Int32.toNatClampNeg v3))
   else none
def f_X9_common (t_wordNames : Nat → Int64) (t_sounds : Nat → Int64) (t_alikes : Nat → Int32) (v1 : Int32) (v2 : Int32) (v3 : Int32) : Option (Int32) :=
  if v1 = 0 then
   if rf_ib v2 10 = true then
   f_X9_common_19 t_wordNames t_sounds t_alikes v1 v3 (t_sounds (Int32.toNatClampNeg v2))
   else none
  else
   if rf_ib v2 10 = true then
   f_X9_common_19 t_wordNames t_sounds t_alikes v1 v3 (t_wordNames (Int32.toNatClampNeg v2))
   else none
def f_X9_noteCommon_12 (t_wordNames : Nat → Int64) (t_sounds : Nat → Int64) (t_alikes : Nat → Int32) : Nat → Int32 → Int32 → Int32 → Int32 → Int32 → (Nat → Int32) → Option ((Nat → Int32))
  | 0, _, _, _, _, _, _ => none
  | n + 1, v1, v2, v3, v4, v5, t_close =>
   if v4 < v5 then
    some t_close
   else
    if 7 < v5 then
     some t_close
    else
     if rf_ib ((((v1 * 8) + v5) * 10) + v2) 160 = true then
     if rf_ib ((((v1 * 8) + v5) * 10) + v2) 160 = true then
     f_X9_noteCommon_12 t_wordNames t_sounds t_alikes n v1 v2 v3 v4 (v5 + 1) (upd t_close (Int32.toNatClampNeg ((((v1 * 8) + v5) * 10) + v2)) ((t_close (Int32.toNatClampNeg ((((v1 * 8) + v5) * 10) + v2))) ||| ((1 : Int32) <<< (v3 &&& 31))))
     else none
     else none
def f_X9_noteCommon (t_wordNames : Nat → Int64) (t_sounds : Nat → Int64) (t_alikes : Nat → Int32) (t_close : Nat → Int32) (v1 : Int32) (v2 : Int32) (v3 : Int32) : Option ((Nat → Int32)) :=
  (f_X9_common t_wordNames t_sounds t_alikes v1 v2 v3).bind fun z4 =>
  f_X9_noteCommon_12 t_wordNames t_sounds t_alikes rf_fu v1 v2 v3 z4 0 t_close
def f_X9_compareWords_20 (k10 : Int32 → (Nat → Int32) → Option ((Nat → Int32))) (t_wordCount : Int32) (t_wordNames : Nat → Int64) (t_sounds : Nat → Int64) (t_alikes : Nat → Int32) : Nat → Int32 → Int32 → (Nat → Int32) → Option ((Nat → Int32))
  | 0, _, _, _ => none
  | n + 1, v1, v2, t_close =>
   if t_wordCount ≤ v2 then
    k10 (v1 + 1) t_close
   else
    (f_X9_noteCommon t_wordNames t_sounds t_alikes t_close 0 v1 v2).bind fun z32 =>
    (f_X9_noteCommon t_wordNames t_sounds t_alikes z32 1 v1 v2).bind fun z39 =>
    f_X9_compareWords_20 k10 t_wordCount t_wordNames t_sounds t_alikes n v1 (v2 + 1) z39
def f_X9_compareWords_10 (t_wordCount : Int32) (t_wordNames : Nat → Int64) (t_sounds : Nat → Int64) (t_alikes : Nat → Int32) : Nat → Int32 → (Nat → Int32) → Option ((Nat → Int32))
  | 0, _, _ => none
  | n + 1, v1, t_close =>
   if t_wordCount ≤ v1 then
    some t_close
   else
    f_X9_compareWords_20 (f_X9_compareWords_10 t_wordCount t_wordNames t_sounds t_alikes n) t_wordCount t_wordNames t_sounds t_alikes rf_fu v1 0 t_close
def f_X9_compareWords (t_wordCount : Int32) (t_wordNames : Nat → Int64) (t_sounds : Nat → Int64) (t_alikes : Nat → Int32) (t_close : Nat → Int32) : Option ((Nat → Int32)) :=
  f_X9_compareWords_10 t_wordCount t_wordNames t_sounds t_alikes rf_fu 0 (rf_fill 160 0 t_close)
def f_X10_ferry_19 (x_tape : Nat → Int32) (v1 : Int32) (s1 : Int32) (s2 : Int32) (x_tapeLength : Int32) (x_lastFault : Int32) (x_faultPlace : Int32) (x_lastTrouble : Int32) (now_hour : Int32) (now_paid : Int32) (now_everybody : Int32) (now_far : Int32) (acts_first : Int32) (acts_count : Int32) (images_first : Int32) (images_count : Int32) (td_ear : Int32) (td_pairs : Int32) (td_wordCount : Int32) (td_personCount : Int32) (td_firstFar : Int32) (td_alikeCount : Int32) (td_gotCount : Int32) (reader_tale : Nat) (reader_end : Int32) (reader_next : Int32) (reader_begun : Int32) (reader_knowings : Int32) (reader_sort : Int32) (reader_place : Int32) (reader_length : Int32) (reader_letters : Int64) (reader_whole : Int32) (reader_name : Int64) (reader_sounds : Int64) (reader_number : Int32) (reader_found : Int32) (reader_fault : Int32) (reader_faultPlace : Int32) (now_words : Nat → Int32) (now_wet : Nat → Int32) (td_wordNames : Nat → Int64) (td_sounds : Nat → Int64) (td_prices : Nat → Int32) (td_personNames : Nat → Int64) (td_kinds : Nat → Int32) (td_firstWords : Nat → Int32) (td_errands : Nat → Int32) (td_alikes : Nat → Int32) (td_hourEars : Nat → Int32) (td_gotFirst : Nat → Int32) (td_gotSecond : Nat → Int32) (td_gotDegree : Nat → Int32) (td_close : Nat → Int32) : Option (Int32 × Nat × Nat × Int32 × Int32 × Int32 × Int32 × Int32 × Int32 × Int32 × Int32 × Nat × Int32 × Int32 × Int32 × Int32 × Int32 × Int32 × Int32 × Int32 × Int32 × Int32 × Int32 × Nat × Int32 × Int32 × Int32 × Int32 × Int32 × Int32 × Int32 × Int64 × Int32 × Int64 × Int64 × Int32 × Int32 × Int32 × Int32 × (Nat → Int32) × (Nat → Int32) × (Nat → Int64) × (Nat → Int64) × (Nat → Int32) × (Nat → Int64) × (Nat → Int32) × (Nat → Int32) × (Nat → Int32) × (Nat → Int32) × (Nat → Int32) × (Nat → Int32) × (Nat → Int32) × (Nat → Int32) × (Nat → Int32)) :=
  (f_X10_refused x_lastTrouble s1 s2).bind fun z19 =>
  if z19.1 = 0 then
   (f_X5_read x_tape td_ear td_pairs td_wordCount td_personCount td_firstFar td_alikeCount td_gotCount reader_tale reader_end reader_next reader_begun reader_knowings reader_sort reader_place reader_length reader_letters reader_whole reader_name reader_sounds reader_number reader_found reader_fault reader_faultPlace td_wordNames td_sounds td_prices td_personNames td_kinds td_firstWords td_errands td_alikes td_hourEars td_gotFirst td_gotSecond td_gotDegree v1).bind fun z41 =>
   if z41.2.2.2.2.2.2.2.2.2.2.2.2.2.2.2.2.2.2.2.2.2.1 = 0 then
    (f_X9_compareWords z41.2.2.1 z41.2.2.2.2.2.2.2.2.2.2.2.2.2.2.2.2.2.2.2.2.2.2.2.1 z41.2.2.2.2.2.2.2.2.2.2.2.2.2.2.2.2.2.2.2.2.2.2.2.2.1 z41.2.2.2.2.2.2.2.2.2.2.2.2.2.2.2.2.2.2.2.2.2.2.2.2.2.2.2.2.2.2.1 td_close).bind fun z101 =>
    (f_X2_begin z41.2.2.2.1 z41.2.2.2.2.1 z41.2.2.2.2.2.2.2.2.2.2.2.2.2.2.2.2.2.2.2.2.2.2.2.2.2.2.2.2.1 now_hour now_paid now_everybody now_far now_words now_wet).bind fun z123 =>
    (f_X8_clear_acts acts_first acts_count).bind fun z130 =>
    (f_X8_clear_images images_first images_count).bind fun z137 =>
    some (z41.2.2.2.1, 11, 10, 0, z41.2.2.2.2.2.2.2.2.2.2.2.2.2.2.2.2.2.2.2.2.2.1, z41.2.2.2.2.2.2.2.2.2.2.2.2.2.2.2.2.2.2.2.2.2.2.1, z19.2, z123.1, z123.2.1, z123.2.2.1, z123.2.2.2.1, 11, z130.1, z130.2, z137.1, z137.2, z41.1, z41.2.1, z41.2.2.1, z41.2.2.2.1, z41.2.2.2.2.1, z41.2.2.2.2.2.1, z41.2.2.2.2.2.2.1, z41.2.2.2.2.2.2.2.1, z41.2.2.2.2.2.2.2.2.1, z41.2.2.2.2.2.2.2.2.2.1, z41.2.2.2.2.2.2.2.2.2.2.1, z41.2.2.2.2.2.2.2.2.2.2.2.1, z41.2.2.2.2.2.2.2.2.2.2.2.2.1, z41.2.2.2.2.2.2.2.2.2.2.2.2.2.1, z41.2.2.2.2.2.2.2.2.2.2.2.2.2.2.1, z41.2.2.2.2.2.2.2.2.2.2.2.2.2.2.2.1, z41.2.2.2.2.2.2.2.2.2.2.2.2.2.2.2.2.1, z41.2.2.2.2.2.2.2.2.2.2.2.2.2.2.2.2.2.1, z41.2.2.2.2.2.2.2.2.2.2.2.2.2.2.2.2.2.2.1, z41.2.2.2.2.2.2.2.2.2.2.2.2.2.2.2.2.2.2.2.1, z41.2.2.2.2.2.2.2.2.2.2.2.2.2.2.2.2.2.2.2.2.1, z41.2.2.2.2.2.2.2.2.2.2.2.2.2.2.2.2.2.2.2.2.2.1, z41.2.2.2.2.2.2.2.2.2.2.2.2.2.2.2.2.2.2.2.2.2.2.1, z123.2.2.2.2.1, z123.2.2.2.2.2, z41.2.2.2.2.2.2.2.2.2.2.2.2.2.2.2.2.2.2.2.2.2.2.2.1, z41.2.2.2.2.2.2.2.2.2.2.2.2.2.2.2.2.2.2.2.2.2.2.2.2.1, z41.2.2.2.2.2.2.2.2.2.2.2.2.2.2.2.2.2.2.2.2.2.2.2.2.2.1, z41.2.2.2.2.2.2.2.2.2.2.2.2.2.2.2.2.2.2.2.2.2.2.2.2.2.2.1, z41.2.2.2.2.2.2.2.2.2.2.2.2.2.2.2.2.2.2.2.2.2.2.2.2.2.2.2.1, z41.2.2.2.2.2.2.2.2.2.2.2.2.2.2.2.2.2.2.2.2.2.2.2.2.2.2.2.2.1, z41.2.2.2.2.2.2.2.2.2.2.2.2.2.2.2.2.2.2.2.2.2.2.2.2.2.2.2.2.2.1, z41.2.2.2.2.2.2.2.2.2.2.2.2.2.2.2.2.2.2.2.2.2.2.2.2.2.2.2.2.2.2.1, z41.2.2.2.2.2.2.2.2.2.2.2.2.2.2.2.2.2.2.2.2.2.2.2.2.2.2.2.2.2.2.2.1, z41.2.2.2.2.2.2.2.2.2.2.2.2.2.2.2.2.2.2.2.2.2.2.2.2.2.2.2.2.2.2.2.2.1, z41.2.2.2.2.2.2.2.2.2.2.2.2.2.2.2.2.2.2.2.2.2.2.2.2.2.2.2.2.2.2.2.2.2.1, z41.2.2.2.2.2.2.2.2.2.2.2.2.2.2.2.2.2.2.2.2.2.2.2.2.2.2.2.2.2.2.2.2.2.2, z101)
   else
    (f_X10_refuse z19.2 4).bind fun z75 =>
    some (z75.1, 10, 11, 0, z41.2.2.2.2.2.2.2.2.2.2.2.2.2.2.2.2.2.2.2.2.2.1, z41.2.2.2.2.2.2.2.2.2.2.2.2.2.2.2.2.2.2.2.2.2.2.1, z75.2, now_hour, now_paid, now_everybody, now_far, 10, acts_first, acts_count, images_first, images_count, z41.1, z41.2.1, z41.2.2.1, z41.2.2.2.1, z41.2.2.2.2.1, z41.2.2.2.2.2.1, z41.2.2.2.2.2.2.1, z41.2.2.2.2.2.2.2.1, z41.2.2.2.2.2.2.2.2.1, z41.2.2.2.2.2.2.2.2.2.1, z41.2.2.2.2.2.2.2.2.2.2.1, z41.2.2.2.2.2.2.2.2.2.2.2.1, z41.2.2.2.2.2.2.2.2.2.2.2.2.1, z41.2.2.2.2.2.2.2.2.2.2.2.2.2.1, z41.2.2.2.2.2.2.2.2.2.2.2.2.2.2.1, z41.2.2.2.2.2.2.2.2.2.2.2.2.2.2.2.1, z41.2.2.2.2.2.2.2.2.2.2.2.2.2.2.2.2.1, z41.2.2.2.2.2.2.2.2.2.2.2.2.2.2.2.2.2.1, z41.2.2.2.2.2.2.2.2.2.2.2.2.2.2.2.2.2.2.1, z41.2.2.2.2.2.2.2.2.2.2.2.2.2.2.2.2.2.2.2.1, z41.2.2.2.2.2.2.2.2.2.2.2.2.2.2.2.2.2.2.2.2.1, z41.2.2.2.2.2.2.2.2.2.2.2.2.2.2.2.2.2.2.2.2.2.1, z41.2.2.2.2.2.2.2.2.2.2.2.2.2.2.2.2.2.2.2.2.2.2.1, now_words, now_wet, z41.2.2.2.2.2.2.2.2.2.2.2.2.2.2.2.2.2.2.2.2.2.2.2.1, z41.2.2.2.2.2.2.2.2.2.2.2.2.2.2.2.2.2.2.2.2.2.2.2.2.1, z41.2.2.2.2.2.2.2.2.2.2.2.2.2.2.2.2.2.2.2.2.2.2.2.2.2.1, z41.2.2.2.2.2.2.2.2.2.2.2.2.2.2.2.2.2.2.2.2.2.2.2.2.2.2.1, z41.2.2.2.2.2.2.2.2.2.2.2.2.2.2.2.2.2.2.2.2.2.2.2.2.2.2.2.1, z41.2.2.2.2.2.2.2.2.2.2.2.2.2.2.2.2.2.2.2.2.2.2.2.2.2.2.2.2.1, z41.2.2.2.2.2.2.2.2.2.2.2.2.2.2.2.2.2.2.2.2.2.2.2.2.2.2.2.2.2.1, z41.2.2.2.2.2.2.2.2.2.2.2.2.2.2.2.2.2.2.2.2.2.2.2.2.2.2.2.2.2.2.1, z41.2.2.2.2.2.2.2.2.2.2.2.2.2.2.2.2.2.2.2.2.2.2.2.2.2.2.2.2.2.2.2.1, z41.2.2.2.2.2.2.2.2.2.2.2.2.2.2.2.2.2.2.2.2.2.2.2.2.2.2.2.2.2.2.2.2.1, z41.2.2.2.2.2.2.2.2.2.2.2.2.2.2.2.2.2.2.2.2.2.2.2.2.2.2.2.2.2.2.2.2.2.1, z41.2.2.2.2.2.2.2.2.2.2.2.2.2.2.2.2.2.2.2.2.2.2.2.2.2.2.2.2.2.2.2.2.2.2, td_close)
  else
   some ((-1), 10, 11, x_tapeLength, x_lastFault, x_faultPlace, z19.2, now_hour, now_paid, now_everybody, now_far, 10, acts_first, acts_count, images_first, images_count, td_ear, td_pairs, td_wordCount, td_personCount, td_firstFar, td_alikeCount, td_gotCount, reader_tale, reader_end, reader_next, reader_begun, reader_knowings, reader_sort, reader_place, reader_length, reader_letters, reader_whole, reader_name, reader_sounds, reader_number, reader_found, reader_fault, reader_faultPlace, now_words, now_wet, td_wordNames, td_sounds, td_prices, td_personNames, td_kinds, td_firstWords, td_errands, td_alikes, td_hourEars, td_gotFirst, td_gotSecond, td_gotDegree, td_close)
def f_X10_ferry_18 (x_tape : Nat → Int32) (v1 : Int32) (s1 : Int32) (x_tapeLength : Int32) (x_lastFault : Int32) (x_faultPlace : Int32) (x_lastTrouble : Int32) (now_hour : Int32) (now_paid : Int32) (now_everybody : Int32) (now_far : Int32) (acts_first : Int32) (acts_count : Int32) (images_first : Int32) (images_count : Int32) (td_ear : Int32) (td_pairs : Int32) (td_wordCount : Int32) (td_personCount : Int32) (td_firstFar : Int32) (td_alikeCount : Int32) (td_gotCount : Int32) (reader_tale : Nat) (reader_end : Int32) (reader_next : Int32) (reader_begun : Int32) (reader_knowings : Int32) (reader_sort : Int32) (reader_place : Int32) (reader_length : Int32) (reader_letters : Int64) (reader_whole : Int32) (reader_name : Int64) (reader_sounds : Int64) (reader_number : Int32) (reader_found : Int32) (reader_fault : Int32) (reader_faultPlace : Int32) (now_words : Nat → Int32) (now_wet : Nat → Int32) (td_wordNames : Nat → Int64) (td_sounds : Nat → Int64) (td_prices : Nat → Int32) (td_personNames : Nat → Int64) (td_kinds : Nat → Int32) (td_firstWords : Nat → Int32) (td_errands : Nat → Int32) (td_alikes : Nat → Int32) (td_hourEars : Nat → Int32) (td_gotFirst : Nat → Int32) (td_gotSecond : Nat → Int32) (td_gotDegree : Nat → Int32) (td_close : Nat → Int32) : Option (Int32 × Nat × Nat × Int32 × Int32 × Int32 × Int32 × Int32 × Int32 × Int32 × Int32 × Nat × Int32 × Int32 × Int32 × Int32 × Int32 × Int32 × Int32 × Int32 × Int32 × Int32 × Int32 × Nat × Int32 × Int32 × Int32 × Int32 × Int32 × Int32 × Int32 × Int64 × Int32 × Int64 × Int64 × Int32 × Int32 × Int32 × Int32 × (Nat → Int32) × (Nat → Int32) × (Nat → Int64) × (Nat → Int64) × (Nat → Int32) × (Nat → Int64) × (Nat → Int32) × (Nat → Int32) × (Nat → Int32) × (Nat → Int32) × (Nat → Int32) × (Nat → Int32) × (Nat → Int32) × (Nat → Int32) × (Nat → Int32)) :=
  f_X10_ferry_19 x_tape v1 s1 0 x_tapeLength x_lastFault x_faultPlace x_lastTrouble now_hour now_paid now_everybody now_far acts_first acts_count images_first images_count td_ear td_pairs td_wordCount td_personCount td_firstFar td_alikeCount td_gotCount reader_tale reader_end reader_next reader_begun reader_knowings reader_sort reader_place reader_length reader_letters reader_whole reader_name reader_sounds reader_number reader_found reader_fault reader_faultPlace now_words now_wet td_wordNames td_sounds td_prices td_personNames td_kinds td_firstWords td_errands td_alikes td_hourEars td_gotFirst td_gotSecond td_gotDegree td_close
def f_X10_ferry (x_tape : Nat → Int32) (x_tapeLength : Int32) (x_lastFault : Int32) (x_faultPlace : Int32) (x_lastTrouble : Int32) (now_hour : Int32) (now_paid : Int32) (now_everybody : Int32) (now_far : Int32) (acts_first : Int32) (acts_count : Int32) (images_first : Int32) (images_count : Int32) (td_ear : Int32) (td_pairs : Int32) (td_wordCount : Int32) (td_personCount : Int32) (td_firstFar : Int32) (td_alikeCount : Int32) (td_gotCount : Int32) (reader_tale : Nat) (reader_end : Int32) (reader_next : Int32) (reader_begun : Int32) (reader_knowings : Int32) (reader_sort : Int32) (reader_place : Int32) (reader_length : Int32) (reader_letters : Int64) (reader_whole : Int32) (reader_name : Int64) (reader_sounds : Int64) (reader_number : Int32) (reader_found : Int32) (reader_fault : Int32) (reader_faultPlace : Int32) (now_words : Nat → Int32) (now_wet : Nat → Int32) (td_wordNames : Nat → Int64) (td_sounds : Nat → Int64) (td_prices : Nat → Int32) (td_personNames : Nat → Int64) (td_kinds : Nat → Int32) (td_firstWords : Nat → Int32) (td_errands : Nat → Int32) (td_alikes : Nat → Int32) (td_hourEars : Nat → Int32) (td_gotFirst : Nat → Int32) (td_gotSecond : Nat → Int32) (td_gotDegree : Nat → Int32) (td_close : Nat → Int32) (v1 : Int32) : Option (Int32 × Nat × Nat × Int32 × Int32 × Int32 × Int32 × Int32 × Int32 × Int32 × Int32 × Nat × Int32 × Int32 × Int32 × Int32 × Int32 × Int32 × Int32 × Int32 × Int32 × Int32 × Int32 × Nat × Int32 × Int32 × Int32 × Int32 × Int32 × Int32 × Int32 × Int64 × Int32 × Int64 × Int64 × Int32 × Int32 × Int32 × Int32 × (Nat → Int32) × (Nat → Int32) × (Nat → Int64) × (Nat → Int64) × (Nat → Int32) × (Nat → Int64) × (Nat → Int32) × (Nat → Int32) × (Nat → Int32) × (Nat → Int32) × (Nat → Int32) × (Nat → Int32) × (Nat → Int32) × (Nat → Int32) × (Nat → Int32)) :=
  if v1 < 0 then
   f_X10_ferry_18 x_tape v1 1 x_tapeLength x_lastFault x_faultPlace x_lastTrouble now_hour now_paid now_everybody now_far acts_first acts_count images_first images_count td_ear td_pairs td_wordCount td_personCount td_firstFar td_alikeCount td_gotCount reader_tale reader_end reader_next reader_begun reader_knowings reader_sort reader_place reader_length reader_letters reader_whole reader_name reader_sounds reader_number reader_found reader_fault reader_faultPlace now_words now_wet td_wordNames td_sounds td_prices td_personNames td_kinds td_firstWords td_errands td_alikes td_hourEars td_gotFirst td_gotSecond td_gotDegree td_close
  else
   if x_tapeLength < v1 then
    f_X10_ferry_18 x_tape v1 1 x_tapeLength x_lastFault x_faultPlace x_lastTrouble now_hour now_paid now_everybody now_far acts_first acts_count images_first images_count td_ear td_pairs td_wordCount td_personCount td_firstFar td_alikeCount td_gotCount reader_tale reader_end reader_next reader_begun reader_knowings reader_sort reader_place reader_length reader_letters reader_whole reader_name reader_sounds reader_number reader_found reader_fault reader_faultPlace now_words now_wet td_wordNames td_sounds td_prices td_personNames td_kinds td_firstWords td_errands td_alikes td_hourEars td_gotFirst td_gotSecond td_gotDegree td_close
   else
    f_X10_ferry_19 x_tape v1 1 1 x_tapeLength x_lastFault x_faultPlace x_lastTrouble now_hour now_paid now_everybody now_far acts_first acts_count images_first images_count td_ear td_pairs td_wordCount td_personCount td_firstFar td_alikeCount td_gotCount reader_tale reader_end reader_next reader_begun reader_knowings reader_sort reader_place reader_length reader_letters reader_whole reader_name reader_sounds reader_number reader_found reader_fault reader_faultPlace now_words now_wet td_wordNames td_sounds td_prices td_personNames td_kinds td_firstWords td_errands td_alikes td_hourEars td_gotFirst td_gotSecond td_gotDegree td_close
def f_X10_fault (x_lastFault : Int32) : Option (Int32) :=
  some x_lastFault
def f_X10_where (x_faultPlace : Int32) (x_lastTrouble : Int32) : Option (Int32) :=
  if x_lastTrouble = 4 then
   some x_faultPlace
  else
   some (-1)
def f_X10_isWord_19 (tc_wordCount : Int32) : Option (Int32) :=
  some 0
def f_X10_isWord (tc_wordCount : Int32) (v1 : Int32) : Option (Int32) :=
  if v1 < 0 then
   f_X10_isWord_19 tc_wordCount
  else
   if tc_wordCount ≤ v1 then
    f_X10_isWord_19 tc_wordCount
   else
    some 1
def f_X2_has (now_words : Nat → Int32) (v1 : Int32) (v2 : Int32) : Option (Int32) :=
  if rf_ib v1 8 = true then
  (f_X10_holds (now_words (Int32.toNatClampNeg v1)) v2).bind fun z7 =>
  if rf_zb z7 = true then
  some z7
  else none
  else none
def f_X2_whoHas_36 (k4 : Int32 → Int32 → Int32 → Option (Int32)) (now_everybody : Int32) (now_words : Nat → Int32) (v1 : Int32) (v2 : Int32) (v3 : Int32) : Option (Int32) :=
  k4 v1 v2 (v3 + 1)
def f_X2_whoHas_4 (now_everybody : Int32) (now_words : Nat → Int32) : Nat → Int32 → Int32 → Int32 → Option (Int32)
  | 0, _, _, _ => none
  | n + 1, v1, v2, v3 =>
   if 8 ≤ v3 then
    some v2
   else
    (f_X10_holds now_everybody v3).bind fun z15 =>
    if z15 = 0 then
     f_X2_whoHas_36 (f_X2_whoHas_4 now_everybody now_words n) now_everybody now_words v1 v2 v3
    else
     (f_X2_has now_words v3 v1).bind fun z24 =>
     if z24 = 0 then
      f_X2_whoHas_36 (f_X2_whoHas_4 now_everybody now_words n) now_everybody now_words v1 v2 v3
     else
      f_X2_whoHas_36 (f_X2_whoHas_4 now_everybody now_words n) now_everybody now_words v1 (v2 ||| ((1 : Int32) <<< (v3 &&& 31))) v3
def f_X2_whoHas (now_everybody : Int32) (now_words : Nat → Int32) (v1 : Int32) : Option (Int32) :=
  f_X2_whoHas_4 now_everybody now_words rf_fu v1 0 0
def f_X9_lettersOf_24 (v2 : Int32) : Option (Int32) :=
  some v2
def f_X9_lettersOf_2 : Nat → Int64 → Int32 → Option (Int32)
  | 0, _, _ => none
  | n + 1, v0, v2 =>
   if 8 ≤ v2 then
    f_X9_lettersOf_24 v2
   else
    if (lg_cmp ((Int64.toUInt64 v0 >>> ((Int32.toInt64 ((5 : Int32) * v2)).toUInt64 &&& Int64.toUInt64 63)).toInt64) 0) = 0 then
     f_X9_lettersOf_24 v2
    else
     f_X9_lettersOf_2 n v0 (v2 + 1)
def f_X9_lettersOf (v0 : Int64) : Option (Int32) :=
  f_X9_lettersOf_2 rf_fu v0 0
def f_X10_word_23 (now_everybody : Int32) (tc_wordCount : Int32) (now_words : Nat → Int32) (tc_sounds : Nat → Int64) (tc_prices : Nat → Int32) (v1 : Int32) (v2 : Int32) (s1 : Int32) (x_lastTrouble : Int32) : Option (Int32 × Int32) :=
  (f_X10_refused x_lastTrouble s1 1).bind fun z24 =>
  if z24.1 = 0 then
   if v2 = 0 then
    if rf_ib v1 10 = true then
    some (tc_prices (Int32.toNatClampNeg v1), z24.2)
    else none
   else
   if v2 = 1 then
    if rf_ib v1 10 = true then
    (f_X9_lettersOf (tc_sounds (Int32.toNatClampNeg v1))).bind fun z79 =>
    some (z79, z24.2)
    else none
   else
    (f_X2_whoHas now_everybody now_words v1).bind fun z88 =>
    some (z88, z24.2)
  else
   some ((-1), z24.2)
def f_X10_word_22 (now_everybody : Int32) (tc_wordCount : Int32) (now_words : Nat → Int32) (tc_sounds : Nat → Int64) (tc_prices : Nat → Int32) (v1 : Int32) (v2 : Int32) (x_lastTrouble : Int32) : Option (Int32 × Int32) :=
  f_X10_word_23 now_everybody tc_wordCount now_words tc_sounds tc_prices v1 v2 0 x_lastTrouble
def f_X10_word (now_everybody : Int32) (tc_wordCount : Int32) (now_words : Nat → Int32) (tc_sounds : Nat → Int64) (tc_prices : Nat → Int32) (x_lastTrouble : Int32) (v1 : Int32) (v2 : Int32) : Option (Int32 × Int32) :=
  (f_X10_isWord tc_wordCount v1).bind fun z3 =>
  if z3 = 0 then
   f_X10_word_22 now_everybody tc_wordCount now_words tc_sounds tc_prices v1 v2 x_lastTrouble
  else
   if v2 < 0 then
    f_X10_word_22 now_everybody tc_wordCount now_words tc_sounds tc_prices v1 v2 x_lastTrouble
   else
    if 2 < v2 then
     f_X10_word_22 now_everybody tc_wordCount now_words tc_sounds tc_prices v1 v2 x_lastTrouble
    else
     f_X10_word_23 now_everybody tc_wordCount now_words tc_sounds tc_prices v1 v2 1 x_lastTrouble
def f_X10_like_22 (tc_wordCount : Int32) (tc_wordNames : Nat → Int64) (tc_sounds : Nat → Int64) (tc_alikes : Nat → Int32) (v1 : Int32) (v2 : Int32) (s1 : Int32) (x_lastTrouble : Int32) : Option (Int32 × Int32) :=
  (f_X10_refused x_lastTrouble s1 1).bind fun z23 =>
  if z23.1 = 0 then
   (f_X9_common tc_wordNames tc_sounds tc_alikes 0 v1 v2).bind fun z38 =>
   some (z38, z23.2)
  else
   some ((-1), z23.2)
def f_X10_like_21 (tc_wordCount : Int32) (tc_wordNames : Nat → Int64) (tc_sounds : Nat → Int64) (tc_alikes : Nat → Int32) (v1 : Int32) (v2 : Int32) (x_lastTrouble : Int32) : Option (Int32 × Int32) :=
  f_X10_like_22 tc_wordCount tc_wordNames tc_sounds tc_alikes v1 v2 0 x_lastTrouble
def f_X10_like (tc_wordCount : Int32) (tc_wordNames : Nat → Int64) (tc_sounds : Nat → Int64) (tc_alikes : Nat → Int32) (x_lastTrouble : Int32) (v1 : Int32) (v2 : Int32) : Option (Int32 × Int32) :=
  (f_X10_isWord tc_wordCount v1).bind fun z3 =>
  if z3 = 0 then
   f_X10_like_21 tc_wordCount tc_wordNames tc_sounds tc_alikes v1 v2 x_lastTrouble
  else
   (f_X10_isWord tc_wordCount v2).bind fun z11 =>
   if z11 = 0 then
    f_X10_like_21 tc_wordCount tc_wordNames tc_sounds tc_alikes v1 v2 x_lastTrouble
   else
    f_X10_like_22 tc_wordCount tc_wordNames tc_sounds tc_alikes v1 v2 1 x_lastTrouble
def f_X10_eye_22 (tc_wordCount : Int32) (tc_wordNames : Nat → Int64) (tc_sounds : Nat → Int64) (tc_alikes : Nat → Int32) (v1 : Int32) (v2 : Int32) (s1 : Int32) (x_lastTrouble : Int32) : Option (Int32 × Int32) :=
  (f_X10_refused x_lastTrouble s1 1).bind fun z23 =>
  if z23.1 = 0 then
   (f_X9_common tc_wordNames tc_sounds tc_alikes 1 v1 v2).bind fun z38 =>
   some (z38, z23.2)
  else
   some ((-1), z23.2)
def f_X10_eye_21 (tc_wordCount : Int32) (tc_wordNames : Nat → Int64) (tc_sounds : Nat → Int64) (tc_alikes : Nat → Int32) (v1 : Int32) (v2 : Int32) (x_lastTrouble : Int32) : Option (Int32 × Int32) :=
  f_X10_eye_22 tc_wordCount tc_wordNames tc_sounds tc_alikes v1 v2 0 x_lastTrouble
def f_X10_eye (tc_wordCount : Int32) (tc_wordNames : Nat → Int64) (tc_sounds : Nat → Int64) (tc_alikes : Nat → Int32) (x_lastTrouble : Int32) (v1 : Int32) (v2 : Int32) : Option (Int32 × Int32) :=
  (f_X10_isWord tc_wordCount v1).bind fun z3 =>
  if z3 = 0 then
   f_X10_eye_21 tc_wordCount tc_wordNames tc_sounds tc_alikes v1 v2 x_lastTrouble
  else
   (f_X10_isWord tc_wordCount v2).bind fun z11 =>
   if z11 = 0 then
    f_X10_eye_21 tc_wordCount tc_wordNames tc_sounds tc_alikes v1 v2 x_lastTrouble
   else
    f_X10_eye_22 tc_wordCount tc_wordNames tc_sounds tc_alikes v1 v2 1 x_lastTrouble
def f_X10_isPerson_19 (tc_personCount : Int32) : Option (Int32) :=
  some 0
def f_X10_isPerson (tc_personCount : Int32) (v1 : Int32) : Option (Int32) :=
  if v1 < 0 then
   f_X10_isPerson_19 tc_personCount
  else
   if tc_personCount ≤ v1 then
    f_X10_isPerson_19 tc_personCount
   else
    some 1
def f_X2_bankOf (now_far : Int32) (v1 : Int32) : Option (Int32) :=
  (f_X10_holds now_far v1).bind fun z5 =>
  if z5 = 0 then
   some 0
  else
   some 1
def f_X10_person_23 (now_far : Int32) (tc_personCount : Int32) (now_words : Nat → Int32) (now_wet : Nat → Int32) (tc_kinds : Nat → Int32) (tc_errands : Nat → Int32) (v1 : Int32) (v2 : Int32) (s1 : Int32) (x_lastTrouble : Int32) : Option (Int32 × Int32) :=
  (f_X10_refused x_lastTrouble s1 1).bind fun z24 =>
  if z24.1 = 0 then
   if v2 = 0 then
    if rf_ib v1 8 = true then
    some (tc_kinds (Int32.toNatClampNeg v1), z24.2)
    else none
   else
   if v2 = 1 then
    (f_X2_bankOf now_far v1).bind fun z79 =>
    some (z79, z24.2)
   else
   if v2 = 2 then
    if rf_ib v1 8 = true then
    some (now_words (Int32.toNatClampNeg v1), z24.2)
    else none
   else
   if v2 = 3 then
    if rf_ib v1 8 = true then
    some (now_wet (Int32.toNatClampNeg v1), z24.2)
    else none
   else
    if rf_ib v1 8 = true then
    some (tc_errands (Int32.toNatClampNeg v1), z24.2)
    else none
  else
   some ((-1), z24.2)
def f_X10_person_22 (now_far : Int32) (tc_personCount : Int32) (now_words : Nat → Int32) (now_wet : Nat → Int32) (tc_kinds : Nat → Int32) (tc_errands : Nat → Int32) (v1 : Int32) (v2 : Int32) (x_lastTrouble : Int32) : Option (Int32 × Int32) :=
  f_X10_person_23 now_far tc_personCount now_words now_wet tc_kinds tc_errands v1 v2 0 x_lastTrouble
def f_X10_person (now_far : Int32) (tc_personCount : Int32) (now_words : Nat → Int32) (now_wet : Nat → Int32) (tc_kinds : Nat → Int32) (tc_errands : Nat → Int32) (x_lastTrouble : Int32) (v1 : Int32) (v2 : Int32) : Option (Int32 × Int32) :=
  (f_X10_isPerson tc_personCount v1).bind fun z3 =>
  if z3 = 0 then
   f_X10_person_22 now_far tc_personCount now_words now_wet tc_kinds tc_errands v1 v2 x_lastTrouble
  else
   if v2 < 0 then
    f_X10_person_22 now_far tc_personCount now_words now_wet tc_kinds tc_errands v1 v2 x_lastTrouble
   else
    if 4 < v2 then
     f_X10_person_22 now_far tc_personCount now_words now_wet tc_kinds tc_errands v1 v2 x_lastTrouble
    else
     f_X10_person_23 now_far tc_personCount now_words now_wet tc_kinds tc_errands v1 v2 1 x_lastTrouble
def f_X10_hasFerry (tc_personCount : Int32) : Option (Int32) :=
  if tc_personCount ≤ 0 then
   some 0
  else
   some 1
def f_X10_isHour_14 : Option (Int32) :=
  some 0
def f_X10_isHour (v1 : Int32) : Option (Int32) :=
  if v1 < 0 then
   f_X10_isHour_14
  else
   if 24 ≤ v1 then
    f_X10_isHour_14
   else
    some 1
def f_X9_earAt (t_ear : Int32) (t_hourEars : Nat → Int32) (v1 : Int32) : Option (Int32) :=
  if rf_ib v1 24 = true then
  if (t_hourEars (Int32.toNatClampNeg v1)) ≤ 0 then
   some t_ear
  else
   if rf_ib v1 24 = true then
   some (t_hourEars (Int32.toNatClampNeg v1))
   else none
  else none
def f_X10_ear (tc_ear : Int32) (tc_personCount : Int32) (tc_hourEars : Nat → Int32) (x_lastTrouble : Int32) (v1 : Int32) : Option (Int32 × Int32) :=
  (f_X10_hasFerry tc_personCount).bind fun z2 =>
  (f_X10_isHour v1).bind fun z7 =>
  (f_X10_refused x_lastTrouble z2 z7).bind fun z10 =>
  if z10.1 = 0 then
   (f_X9_earAt tc_ear tc_hourEars v1).bind fun z23 =>
   some (z23, z10.2)
  else
   some ((-1), z10.2)
def f_X10_isPair_25 (tc_personCount : Int32) : Option (Int32) :=
  some 0
def f_X10_isPair (tc_personCount : Int32) (v1 : Int32) (v2 : Int32) : Option (Int32) :=
  (f_X10_isPerson tc_personCount v1).bind fun z2 =>
  if z2 = 0 then
   f_X10_isPair_25 tc_personCount
  else
   (f_X10_isPerson tc_personCount v2).bind fun z10 =>
   if z10 = 0 then
    f_X10_isPair_25 tc_personCount
   else
    if v1 = v2 then
     f_X10_isPair_25 tc_personCount
    else
     some 1
def f_X9_rhymingWords_10 (t_wordCount : Int32) (t_close : Nat → Int32) : Option (Int32) :=
  some (((1 : Int32) <<< (t_wordCount &&& 31)) - 1)
def f_X9_rhymingWords_69 (t_wordCount : Int32) (t_close : Nat → Int32) : Option (Int32) :=
  some 0
def f_X9_rhymingWords_55 (t_wordCount : Int32) (t_close : Nat → Int32) (v1 : Int32) (v5 : Int32) (s0 : Int32) : Option (Int32) :=
  if s0 < 0 then
   f_X9_rhymingWords_69 t_wordCount t_close
  else
   if s0 ≤ 7 then
    if rf_ib ((((v5 * 8) + s0) * 10) + v1) 160 = true then
    some (t_close (Int32.toNatClampNeg ((((v5 * 8) + s0) * 10) + v1)))
    else none
   else
    f_X9_rhymingWords_69 t_wordCount t_close
def f_X9_rhymingWords_46 (t_wordCount : Int32) (t_close : Nat → Int32) (v1 : Int32) (v4 : Int32) (v5 : Int32) : Option (Int32) :=
  f_X9_rhymingWords_55 t_wordCount t_close v1 v5 (v4 - 1)
def f_X9_rhymingWords_34 (t_wordCount : Int32) (t_close : Nat → Int32) (v1 : Int32) (v2 : Int32) (v3 : Int32) (v4 : Int32) (s0 : Int32) : Option (Int32) :=
  if v2 = 3 then
   f_X9_rhymingWords_46 t_wordCount t_close v1 v4 s0
  else
   if v3 = 3 then
    f_X9_rhymingWords_46 t_wordCount t_close v1 v4 s0
   else
    f_X9_rhymingWords_55 t_wordCount t_close v1 s0 v4
def f_X9_rhymingWords_29 (t_wordCount : Int32) (t_close : Nat → Int32) (v1 : Int32) (v2 : Int32) (v3 : Int32) (v4 : Int32) : Option (Int32) :=
  f_X9_rhymingWords_34 t_wordCount t_close v1 v2 v3 v4 1
def f_X9_rhymingWords (t_wordCount : Int32) (t_close : Nat → Int32) (v1 : Int32) (v2 : Int32) (v3 : Int32) (v4 : Int32) : Option (Int32) :=
  if v2 = 2 then
   f_X9_rhymingWords_10 t_wordCount t_close
  else
   if v3 = 2 then
    f_X9_rhymingWords_10 t_wordCount t_close
   else
    if v2 = 1 then
     f_X9_rhymingWords_29 t_wordCount t_close v1 v2 v3 v4
    else
     if v3 = 1 then
      f_X9_rhymingWords_29 t_wordCount t_close v1 v2 v3 v4
     else
      f_X9_rhymingWords_34 t_wordCount t_close v1 v2 v3 v4 0
def f_X9_isFullRhyme_39 (k3 : Int32 → Int32 → Int32 → Int32 → Int32 → Int32 → Option (Int32)) (t_wordCount : Int32) (t_close : Nat → Int32) (v1 : Int32) (v2 : Int32) (v3 : Int32) (v4 : Int32) (v5 : Int32) (v6 : Int32) : Option (Int32) :=
  k3 v1 v2 v3 v4 v5 (v6 + 1)
def f_X9_isFullRhyme_3 (t_wordCount : Int32) (t_close : Nat → Int32) : Nat → Int32 → Int32 → Int32 → Int32 → Int32 → Int32 → Option (Int32)
  | 0, _, _, _, _, _, _ => none
  | n + 1, v1, v2, v3, v4, v5, v6 =>
   if t_wordCount ≤ v6 then
    some 0
   else
    (f_X10_holds v2 v6).bind fun z15 =>
    if z15 = 0 then
     f_X9_isFullRhyme_39 (f_X9_isFullRhyme_3 t_wordCount t_close n) t_wordCount t_close v1 v2 v3 v4 v5 v6
    else
     (f_X9_rhymingWords t_wordCount t_close v6 v1 v3 v5).bind fun z28 =>
     if (z28 &&& v4) = 0 then
      f_X9_isFullRhyme_39 (f_X9_isFullRhyme_3 t_wordCount t_close n) t_wordCount t_close v1 v2 v3 v4 v5 v6
     else
      some 1
def f_X9_isFullRhyme (t_wordCount : Int32) (t_close : Nat → Int32) (v1 : Int32) (v2 : Int32) (v3 : Int32) (v4 : Int32) (v5 : Int32) : Option (Int32) :=
  f_X9_isFullRhyme_3 t_wordCount t_close rf_fu v1 v2 v3 v4 v5 0
def f_X9_degree_26 (t_wordCount : Int32) (t_close : Nat → Int32) : Option (Int32) :=
  some 0
def f_X9_degree (t_wordCount : Int32) (t_close : Nat → Int32) (v1 : Int32) (v2 : Int32) (v3 : Int32) (v4 : Int32) (v5 : Int32) : Option (Int32) :=
  (f_X9_isFullRhyme t_wordCount t_close v1 v2 v3 v4 v5).bind fun z8 =>
  if z8 = 0 then
   if v1 = 3 then
    f_X9_degree_26 t_wordCount t_close
   else
    if v3 = 3 then
     f_X9_degree_26 t_wordCount t_close
    else
     (f_X9_isFullRhyme t_wordCount t_close v1 v2 v3 v4 (v5 - 1)).bind fun z38 =>
     if z38 = 0 then
      some 0
     else
      some 1
  else
   some 2
def f_X6_degree (tc_wordCount : Int32) (now_words : Nat → Int32) (tc_kinds : Nat → Int32) (tc_close : Nat → Int32) (v1 : Int32) (v2 : Int32) (v3 : Int32) : Option (Int32) :=
  if rf_ib v1 8 = true then
  if rf_ib v1 8 = true then
  if rf_ib v2 8 = true then
  if rf_ib v2 8 = true then
  (f_X9_degree tc_wordCount tc_close (tc_kinds (Int32.toNatClampNeg v1)) (now_words (Int32.toNatClampNeg v1)) (tc_kinds (Int32.toNatClampNeg v2)) (now_words (Int32.toNatClampNeg v2)) v3).bind fun z41 =>
  some z41
  else none
  else none
  else none
  else none
def f_X10_rhyme (tc_ear : Int32) (tc_wordCount : Int32) (tc_personCount : Int32) (now_words : Nat → Int32) (tc_kinds : Nat → Int32) (tc_hourEars : Nat → Int32) (tc_close : Nat → Int32) (x_lastTrouble : Int32) (v1 : Int32) (v2 : Int32) (v3 : Int32) : Option (Int32 × Int32) :=
  (f_X10_isPair tc_personCount v1 v2).bind fun z4 =>
  (f_X10_isHour v3).bind fun z9 =>
  (f_X10_refused x_lastTrouble z4 z9).bind fun z12 =>
  if z12.1 = 0 then
   (f_X9_earAt tc_ear tc_hourEars v3).bind fun z31 =>
   (f_X6_degree tc_wordCount now_words tc_kinds tc_close v1 v2 z31).bind fun z34 =>
   some (z34, z12.2)
  else
   some ((-1), z12.2)
def f_X6_metBy_81 (k6 : Int32 → Int32 → Int32 → Int32 → Int32 → Int32 → Option (Int32)) (tc_wordCount : Int32) (tc_personCount : Int32) (now_words : Nat → Int32) (tc_kinds : Nat → Int32) (tc_close : Nat → Int32) (v1 : Int32) (v2 : Int32) (v3 : Int32) (v4 : Int32) (v5 : Int32) (v6 : Int32) : Option (Int32) :=
  k6 v1 v2 v3 v4 v5 (v6 + 1)
def f_X6_metBy_6 (tc_wordCount : Int32) (tc_personCount : Int32) (now_words : Nat → Int32) (tc_kinds : Nat → Int32) (tc_close : Nat → Int32) : Nat → Int32 → Int32 → Int32 → Int32 → Int32 → Int32 → Option (Int32)
  | 0, _, _, _, _, _, _ => none
  | n + 1, v1, v2, v3, v4, v5, v6 =>
   if tc_personCount ≤ v6 then
    some v5
   else
    if rf_ib v6 8 = true then
    if v6 = v1 then
     f_X6_metBy_81 (f_X6_metBy_6 tc_wordCount tc_personCount now_words tc_kinds tc_close n) tc_wordCount tc_personCount now_words tc_kinds tc_close v1 v2 v3 v4 v5 v6
    else
     if rf_ib v1 8 = true then
     if rf_ib v6 8 = true then
     (f_X9_isFullRhyme tc_wordCount tc_close (tc_kinds (Int32.toNatClampNeg v1)) v2 (tc_kinds (Int32.toNatClampNeg v6)) ((now_words (Int32.toNatClampNeg v6)) ||| v3) v4).bind fun z66 =>
     if z66 = 0 then
      f_X6_metBy_81 (f_X6_metBy_6 tc_wordCount tc_personCount now_words tc_kinds tc_close n) tc_wordCount tc_personCount now_words tc_kinds tc_close v1 v2 v3 v4 v5 v6
     else
      f_X6_metBy_81 (f_X6_metBy_6 tc_wordCount tc_personCount now_words tc_kinds tc_close n) tc_wordCount tc_personCount now_words tc_kinds tc_close v1 v2 v3 v4 (v5 ||| ((1 : Int32) <<< (v6 &&& 31))) v6
     else none
     else none
    else none
def f_X6_metBy (tc_wordCount : Int32) (tc_personCount : Int32) (now_words : Nat → Int32) (tc_kinds : Nat → Int32) (tc_close : Nat → Int32) (v1 : Int32) (v2 : Int32) (v3 : Int32) (v4 : Int32) : Option (Int32) :=
  f_X6_metBy_6 tc_wordCount tc_personCount now_words tc_kinds tc_close rf_fu v1 v2 v3 v4 0 0
def f_X6_metNow (tc_wordCount : Int32) (tc_personCount : Int32) (now_words : Nat → Int32) (tc_kinds : Nat → Int32) (tc_close : Nat → Int32) (v1 : Int32) (v2 : Int32) : Option (Int32) :=
  if rf_ib v1 8 = true then
  (f_X6_metBy tc_wordCount tc_personCount now_words tc_kinds tc_close v1 (now_words (Int32.toNatClampNeg v1)) 0 v2).bind fun z13 =>
  some z13
  else none
def f_X10_with (tc_ear : Int32) (tc_wordCount : Int32) (tc_personCount : Int32) (now_words : Nat → Int32) (tc_kinds : Nat → Int32) (tc_hourEars : Nat → Int32) (tc_close : Nat → Int32) (x_lastTrouble : Int32) (v1 : Int32) (v2 : Int32) : Option (Int32 × Int32) :=
  (f_X10_isPerson tc_personCount v1).bind fun z3 =>
  (f_X10_isHour v2).bind fun z8 =>
  (f_X10_refused x_lastTrouble z3 z8).bind fun z11 =>
  if z11.1 = 0 then
   (f_X9_earAt tc_ear tc_hourEars v2).bind fun z29 =>
   (f_X6_metNow tc_wordCount tc_personCount now_words tc_kinds tc_close v1 z29).bind fun z32 =>
   some (z32, z11.2)
  else
   some ((-1), z11.2)

def f_X6_hourOfMost_45 (k7 : Int32 → Int32 → Int32 → Int32 → Option (Int32)) (tc_ear : Int32) (tc_wordCount : Int32) (tc_personCount : Int32) (now_words : Nat → Int32) (tc_kinds : Nat → Int32) (tc_hourEars : Nat → Int32) (tc_close : Nat → Int32) (v1 : Int32) (v2 : Int32) (v3 : Int32) (v4 : Int32) : Option (Int32) :=
  k7 v1 v2 v3 (v4 + 1)
def f_X6_hourOfMost_7 (tc_ear : Int32) (tc_wordCount : Int32) (tc_personCount : Int32) (now_words : Nat → Int32) (tc_kinds : Nat → Int32) (tc_hourEars : Nat → Int32) (tc_close : Nat → Int32) : Nat → Int32 → Int32 → Int32 → Int32 → Option (Int32)
  | 0, _, _, _, _ => none
  | n + 1, v1, v2, v3, v4 =>
   if 24 ≤ v4 then
    some v2
   else
    (f_X9_earAt tc_ear tc_hourEars v4).bind fun z22 =>
    (f_X6_metNow tc_wordCount tc_personCount now_words tc_kinds tc_close v1 z22).bind fun z25 =>
    (f_J6_bitCount_0f7a4 z25).bind fun z28 =>
    if z28 ≤ v3 then
     f_X6_hourOfMost_45 (f_X6_hourOfMost_7 tc_ear tc_wordCount tc_personCount now_words tc_kinds tc_hourEars tc_close n) tc_ear tc_wordCount tc_personCount now_words tc_kinds tc_hourEars tc_close v1 v2 v3 v4
    else
     f_X6_hourOfMost_45 (f_X6_hourOfMost_7 tc_ear tc_wordCount tc_personCount now_words tc_kinds tc_hourEars tc_close n) tc_ear tc_wordCount tc_personCount now_words tc_kinds tc_hourEars tc_close v1 v4 z28 v4
def f_X6_hourOfMost (tc_ear : Int32) (tc_wordCount : Int32) (tc_personCount : Int32) (now_words : Nat → Int32) (tc_kinds : Nat → Int32) (tc_hourEars : Nat → Int32) (tc_close : Nat → Int32) (v1 : Int32) : Option (Int32) :=
  f_X6_hourOfMost_7 tc_ear tc_wordCount tc_personCount now_words tc_kinds tc_hourEars tc_close rf_fu v1 0 (-1) 0
def f_X10_bestHour (tc_ear : Int32) (tc_wordCount : Int32) (tc_personCount : Int32) (now_words : Nat → Int32) (tc_kinds : Nat → Int32) (tc_hourEars : Nat → Int32) (tc_close : Nat → Int32) (x_lastTrouble : Int32) (v1 : Int32) : Option (Int32 × Int32) :=
  (f_X10_isPerson tc_personCount v1).bind fun z3 =>
  (f_X10_refused x_lastTrouble z3 1).bind fun z7 =>
  if z7.1 = 0 then
   (f_X6_hourOfMost tc_ear tc_wordCount tc_personCount now_words tc_kinds tc_hourEars tc_close v1).bind fun z20 =>
   some (z20, z7.2)
  else
   some ((-1), z7.2)
def f_X6_groupOf_53 (k6 : Int32 → Int32 → Option (Int32)) (k20 : Int32 → Int32 → Int32 → Option (Int32)) (tc_personCount : Int32) (rhymes_links : Nat → Int32) (v3 : Int32) (v4 : Int32) (s0 : Int32) (s1 : Int32) : Option (Int32) :=
  k20 (s0 ||| s1) v3 (v4 + 1)
def f_X6_groupOf_20 (k6 : Int32 → Int32 → Option (Int32)) (tc_personCount : Int32) (rhymes_links : Nat → Int32) : Nat → Int32 → Int32 → Int32 → Option (Int32)
  | 0, _, _, _ => none
  | n + 1, v2, v3, v4 =>
   if tc_personCount ≤ v4 then
    k6 v2 (v3 + 1)
   else
    (f_X10_holds v2 v4).bind fun z36 =>
    if z36 = 0 then
     f_X6_groupOf_53 k6 (f_X6_groupOf_20 k6 tc_personCount rhymes_links n) tc_personCount rhymes_links v3 v4 v2 0
    else
     if rf_ib v4 8 = true then
     f_X6_groupOf_53 k6 (f_X6_groupOf_20 k6 tc_personCount rhymes_links n) tc_personCount rhymes_links v3 v4 v2 (rhymes_links (Int32.toNatClampNeg v4))
     else none
def f_X6_groupOf_6 (tc_personCount : Int32) (rhymes_links : Nat → Int32) : Nat → Int32 → Int32 → Option (Int32)
  | 0, _, _ => none
  | n + 1, v2, v3 =>
   if tc_personCount ≤ v3 then
    some v2
   else
    f_X6_groupOf_20 (f_X6_groupOf_6 tc_personCount rhymes_links n) tc_personCount rhymes_links rf_fu v2 v3 0
def f_X6_groupOf (tc_personCount : Int32) (rhymes_links : Nat → Int32) (v1 : Int32) : Option (Int32) :=
  f_X6_groupOf_6 tc_personCount rhymes_links rf_fu ((1 : Int32) <<< (v1 &&& 31)) 0
def f_X6_link_2 (tc_wordCount : Int32) (tc_personCount : Int32) (now_words : Nat → Int32) (tc_kinds : Nat → Int32) (tc_close : Nat → Int32) : Nat → Int32 → Int32 → (Nat → Int32) → Option ((Nat → Int32))
  | 0, _, _, _ => none
  | n + 1, v1, v2, rhymes_links =>
   if tc_personCount ≤ v2 then
    some rhymes_links
   else
    (f_X6_metNow tc_wordCount tc_personCount now_words tc_kinds tc_close v2 v1).bind fun z21 =>
    if rf_ib v2 8 = true then
    f_X6_link_2 tc_wordCount tc_personCount now_words tc_kinds tc_close n v1 (v2 + 1) (upd rhymes_links (Int32.toNatClampNeg v2) z21)
    else none
def f_X6_link (tc_wordCount : Int32) (tc_personCount : Int32) (now_words : Nat → Int32) (tc_kinds : Nat → Int32) (tc_close : Nat → Int32) (rhymes_links : Nat → Int32) (v1 : Int32) : Option ((Nat → Int32)) :=
  f_X6_link_2 tc_wordCount tc_personCount now_words tc_kinds tc_close rf_fu v1 0 rhymes_links
def f_X10_classOf (tc_ear : Int32) (tc_wordCount : Int32) (tc_personCount : Int32) (now_words : Nat → Int32) (tc_kinds : Nat → Int32) (tc_hourEars : Nat → Int32) (tc_close : Nat → Int32) (x_lastTrouble : Int32) (rhymes_links : Nat → Int32) (v1 : Int32) (v2 : Int32) : Option (Int32 × Int32 × (Nat → Int32)) :=
  (f_X10_isPerson tc_personCount v1).bind fun z3 =>
  (f_X10_isHour v2).bind fun z8 =>
  (f_X10_refused x_lastTrouble z3 z8).bind fun z11 =>
  if z11.1 = 0 then
   (f_X9_earAt tc_ear tc_hourEars v2).bind fun z28 =>
   (f_X6_link tc_wordCount tc_personCount now_words tc_kinds tc_close rhymes_links z28).bind fun z31 =>
   (f_X6_groupOf tc_personCount z31 v1).bind fun z39 =>
   some (z39, z11.2, z31)
  else
   some ((-1), z11.2, rhymes_links)
def f_X6_groupCount_36 (k6 : Int32 → Int32 → Int32 → Option (Int32)) (tc_personCount : Int32) (rhymes_links : Nat → Int32) (v1 : Int32) (v2 : Int32) (v3 : Int32) : Option (Int32) :=
  k6 v1 v2 (v3 + 1)
def f_X6_groupCount_6 (tc_personCount : Int32) (rhymes_links : Nat → Int32) : Nat → Int32 → Int32 → Int32 → Option (Int32)
  | 0, _, _, _ => none
  | n + 1, v1, v2, v3 =>
   if tc_personCount ≤ v3 then
    some v1
   else
    (f_X10_holds v2 v3).bind fun z19 =>
    if z19 = 0 then
     (f_X6_groupOf tc_personCount rhymes_links v3).bind fun z28 =>
     f_X6_groupCount_36 (f_X6_groupCount_6 tc_personCount rhymes_links n) tc_personCount rhymes_links (v1 + 1) (v2 ||| z28) v3
    else
     f_X6_groupCount_36 (f_X6_groupCount_6 tc_personCount rhymes_links n) tc_personCount rhymes_links v1 v2 v3
def f_X6_groupCount (tc_personCount : Int32) (rhymes_links : Nat → Int32) : Option (Int32) :=
  f_X6_groupCount_6 tc_personCount rhymes_links rf_fu 0 0 0
def f_X10_classes (tc_ear : Int32) (tc_wordCount : Int32) (tc_personCount : Int32) (now_words : Nat → Int32) (tc_kinds : Nat → Int32) (tc_hourEars : Nat → Int32) (tc_close : Nat → Int32) (x_lastTrouble : Int32) (rhymes_links : Nat → Int32) (v1 : Int32) : Option (Int32 × Int32 × (Nat → Int32)) :=
  (f_X10_hasFerry tc_personCount).bind fun z2 =>
  (f_X10_isHour v1).bind fun z7 =>
  (f_X10_refused x_lastTrouble z2 z7).bind fun z10 =>
  if z10.1 = 0 then
   (f_X9_earAt tc_ear tc_hourEars v1).bind fun z27 =>
   (f_X6_link tc_wordCount tc_personCount now_words tc_kinds tc_close rhymes_links z27).bind fun z30 =>
   (f_X6_groupCount tc_personCount z30).bind fun z37 =>
   some (z37, z10.2, z30)
  else
   some ((-1), z10.2, rhymes_links)
def f_X6_wordOfMost_50 (k8 : Int32 → Int32 → Int32 → Int32 → Int32 → Option (Int32)) (tc_wordCount : Int32) (tc_personCount : Int32) (now_words : Nat → Int32) (tc_kinds : Nat → Int32) (tc_close : Nat → Int32) (v1 : Int32) (v2 : Int32) (v3 : Int32) (v4 : Int32) (v5 : Int32) : Option (Int32) :=
  k8 v1 v2 v3 v4 (v5 + 1)
def f_X6_wordOfMost_8 (tc_wordCount : Int32) (tc_personCount : Int32) (now_words : Nat → Int32) (tc_kinds : Nat → Int32) (tc_close : Nat → Int32) : Nat → Int32 → Int32 → Int32 → Int32 → Int32 → Option (Int32)
  | 0, _, _, _, _, _ => none
  | n + 1, v1, v2, v3, v4, v5 =>
   if tc_wordCount ≤ v5 then
    some v3
   else
    (f_X6_metBy tc_wordCount tc_personCount now_words tc_kinds tc_close v1 ((1 : Int32) <<< (v5 &&& 31)) 0 v2).bind fun z28 =>
    (f_J6_bitCount_0f7a4 z28).bind fun z31 =>
    if z31 ≤ v4 then
     f_X6_wordOfMost_50 (f_X6_wordOfMost_8 tc_wordCount tc_personCount now_words tc_kinds tc_close n) tc_wordCount tc_personCount now_words tc_kinds tc_close v1 v2 v3 v4 v5
    else
     f_X6_wordOfMost_50 (f_X6_wordOfMost_8 tc_wordCount tc_personCount now_words tc_kinds tc_close n) tc_wordCount tc_personCount now_words tc_kinds tc_close v1 v2 v5 z31 v5
def f_X6_wordOfMost (tc_wordCount : Int32) (tc_personCount : Int32) (now_words : Nat → Int32) (tc_kinds : Nat → Int32) (tc_close : Nat → Int32) (v1 : Int32) (v2 : Int32) : Option (Int32) :=
  f_X6_wordOfMost_8 tc_wordCount tc_personCount now_words tc_kinds tc_close rf_fu v1 v2 0 (-1) 0
def f_X10_bestName (tc_ear : Int32) (tc_wordCount : Int32) (tc_personCount : Int32) (now_words : Nat → Int32) (tc_kinds : Nat → Int32) (tc_hourEars : Nat → Int32) (tc_close : Nat → Int32) (x_lastTrouble : Int32) (v1 : Int32) (v2 : Int32) : Option (Int32 × Int32) :=
  (f_X10_isPerson tc_personCount v1).bind fun z3 =>
  (f_X10_isHour v2).bind fun z8 =>
  (f_X10_refused x_lastTrouble z3 z8).bind fun z11 =>
  if z11.1 = 0 then
   (f_X9_earAt tc_ear tc_hourEars v2).bind fun z29 =>
   (f_X6_wordOfMost tc_wordCount tc_personCount now_words tc_kinds tc_close v1 z29).bind fun z32 =>
   some (z32, z11.2)
  else
   some ((-1), z11.2)
def f_X10_renamed_22 (tc_ear : Int32) (tc_wordCount : Int32) (tc_personCount : Int32) (now_words : Nat → Int32) (tc_kinds : Nat → Int32) (tc_hourEars : Nat → Int32) (tc_close : Nat → Int32) (v1 : Int32) (v2 : Int32) (v3 : Int32) (s1 : Int32) (x_lastTrouble : Int32) : Option (Int32 × Int32) :=
  (f_X10_isHour v3).bind fun z24 =>
  (f_X10_refused x_lastTrouble s1 z24).bind fun z27 =>
  if z27.1 = 0 then
   (f_X9_earAt tc_ear tc_hourEars v3).bind fun z49 =>
   (f_X6_metBy tc_wordCount tc_personCount now_words tc_kinds tc_close v1 ((1 : Int32) <<< (v2 &&& 31)) 0 z49).bind fun z52 =>
   some (z52, z27.2)
  else
   some ((-1), z27.2)
def f_X10_renamed_21 (tc_ear : Int32) (tc_wordCount : Int32) (tc_personCount : Int32) (now_words : Nat → Int32) (tc_kinds : Nat → Int32) (tc_hourEars : Nat → Int32) (tc_close : Nat → Int32) (v1 : Int32) (v2 : Int32) (v3 : Int32) (x_lastTrouble : Int32) : Option (Int32 × Int32) :=
  f_X10_renamed_22 tc_ear tc_wordCount tc_personCount now_words tc_kinds tc_hourEars tc_close v1 v2 v3 0 x_lastTrouble
def f_X10_renamed (tc_ear : Int32) (tc_wordCount : Int32) (tc_personCount : Int32) (now_words : Nat → Int32) (tc_kinds : Nat → Int32) (tc_hourEars : Nat → Int32) (tc_close : Nat → Int32) (x_lastTrouble : Int32) (v1 : Int32) (v2 : Int32) (v3 : Int32) : Option (Int32 × Int32) :=
  (f_X10_isPerson tc_personCount v1).bind fun z3 =>
  if z3 = 0 then
   f_X10_renamed_21 tc_ear tc_wordCount tc_personCount now_words tc_kinds tc_hourEars tc_close v1 v2 v3 x_lastTrouble
  else
   (f_X10_isWord tc_wordCount v2).bind fun z11 =>
   if z11 = 0 then
    f_X10_renamed_21 tc_ear tc_wordCount tc_personCount now_words tc_kinds tc_hourEars tc_close v1 v2 v3 x_lastTrouble
   else
    f_X10_renamed_22 tc_ear tc_wordCount tc_personCount now_words tc_kinds tc_hourEars tc_close v1 v2 v3 1 x_lastTrouble
def f_X6_firstHour_2 (tc_ear : Int32) (tc_wordCount : Int32) (now_words : Nat → Int32) (tc_kinds : Nat → Int32) (tc_hourEars : Nat → Int32) (tc_close : Nat → Int32) : Nat → Int32 → Int32 → Int32 → Option (Int32)
  | 0, _, _, _ => none
  | n + 1, v1, v2, v3 =>
   if 24 ≤ v3 then
    some (-2)
   else
    (f_X9_earAt tc_ear tc_hourEars v3).bind fun z16 =>
    (f_X6_degree tc_wordCount now_words tc_kinds tc_close v1 v2 z16).bind fun z19 =>
    if z19 = 2 then
     some v3
    else
     f_X6_firstHour_2 tc_ear tc_wordCount now_words tc_kinds tc_hourEars tc_close n v1 v2 (v3 + 1)
def f_X6_firstHour (tc_ear : Int32) (tc_wordCount : Int32) (now_words : Nat → Int32) (tc_kinds : Nat → Int32) (tc_hourEars : Nat → Int32) (tc_close : Nat → Int32) (v1 : Int32) (v2 : Int32) : Option (Int32) :=
  f_X6_firstHour_2 tc_ear tc_wordCount now_words tc_kinds tc_hourEars tc_close rf_fu v1 v2 0
def f_X10_meets (tc_ear : Int32) (tc_wordCount : Int32) (tc_personCount : Int32) (now_words : Nat → Int32) (tc_kinds : Nat → Int32) (tc_hourEars : Nat → Int32) (tc_close : Nat → Int32) (x_lastTrouble : Int32) (v1 : Int32) (v2 : Int32) : Option (Int32 × Int32) :=
  (f_X10_isPair tc_personCount v1 v2).bind fun z4 =>
  (f_X10_refused x_lastTrouble z4 1).bind fun z8 =>
  if z8.1 = 0 then
   (f_X6_firstHour tc_ear tc_wordCount now_words tc_kinds tc_hourEars tc_close v1 v2).bind fun z22 =>
   some (z22, z8.2)
  else
   some ((-1), z8.2)
def f_X6_hourCount_37 (k5 : Int32 → Int32 → Int32 → Int32 → Option (Int32)) (tc_ear : Int32) (tc_wordCount : Int32) (now_words : Nat → Int32) (tc_kinds : Nat → Int32) (tc_hourEars : Nat → Int32) (tc_close : Nat → Int32) (v1 : Int32) (v2 : Int32) (v4 : Int32) (s0 : Int32) (s1 : Int32) : Option (Int32) :=
  k5 v1 v2 (s0 + s1) (v4 + 1)
def f_X6_hourCount_5 (tc_ear : Int32) (tc_wordCount : Int32) (now_words : Nat → Int32) (tc_kinds : Nat → Int32) (tc_hourEars : Nat → Int32) (tc_close : Nat → Int32) : Nat → Int32 → Int32 → Int32 → Int32 → Option (Int32)
  | 0, _, _, _, _ => none
  | n + 1, v1, v2, v3, v4 =>
   if 24 ≤ v4 then
    some v3
   else
    (f_X9_earAt tc_ear tc_hourEars v4).bind fun z22 =>
    (f_X6_degree tc_wordCount now_words tc_kinds tc_close v1 v2 z22).bind fun z25 =>
    if z25 = 2 then
     f_X6_hourCount_37 (f_X6_hourCount_5 tc_ear tc_wordCount now_words tc_kinds tc_hourEars tc_close n) tc_ear tc_wordCount now_words tc_kinds tc_hourEars tc_close v1 v2 v4 v3 1
    else
     f_X6_hourCount_37 (f_X6_hourCount_5 tc_ear tc_wordCount now_words tc_kinds tc_hourEars tc_close n) tc_ear tc_wordCount now_words tc_kinds tc_hourEars tc_close v1 v2 v4 v3 0
def f_X6_hourCount (tc_ear : Int32) (tc_wordCount : Int32) (now_words : Nat → Int32) (tc_kinds : Nat → Int32) (tc_hourEars : Nat → Int32) (tc_close : Nat → Int32) (v1 : Int32) (v2 : Int32) : Option (Int32) :=
  f_X6_hourCount_5 tc_ear tc_wordCount now_words tc_kinds tc_hourEars tc_close rf_fu v1 v2 0 0
def f_X10_often (tc_ear : Int32) (tc_wordCount : Int32) (tc_personCount : Int32) (now_words : Nat → Int32) (tc_kinds : Nat → Int32) (tc_hourEars : Nat → Int32) (tc_close : Nat → Int32) (x_lastTrouble : Int32) (v1 : Int32) (v2 : Int32) : Option (Int32 × Int32) :=
  (f_X10_isPair tc_personCount v1 v2).bind fun z4 =>
  (f_X10_refused x_lastTrouble z4 1).bind fun z8 =>
  if z8.1 = 0 then
   (f_X6_hourCount tc_ear tc_wordCount now_words tc_kinds tc_hourEars tc_close v1 v2).bind fun z22 =>
   some (z22, z8.2)
  else
   some ((-1), z8.2)
def f_X2_onBank (now_everybody : Int32) (now_far : Int32) (v1 : Int32) : Option (Int32) :=
  if v1 = 1 then
   some now_far
  else
   some (now_everybody &&& (now_far ^^^ (-1)))
def f_X6_metHaving (tc_wordCount : Int32) (tc_personCount : Int32) (now_words : Nat → Int32) (tc_kinds : Nat → Int32) (tc_close : Nat → Int32) (v1 : Int32) (v2 : Int32) (v3 : Int32) : Option (Int32) :=
  if rf_ib v1 8 = true then
  (f_X6_metBy tc_wordCount tc_personCount now_words tc_kinds tc_close v1 ((now_words (Int32.toNatClampNeg v1)) ||| ((1 : Int32) <<< (v2 &&& 31))) 0 v3).bind fun z17 =>
  some z17
  else none
def f_X6_cheapestGain_116 (k32 : Int32 → Int32 → Int32 → Int32 → Int32 → Option (Int32)) (now_everybody : Int32) (now_far : Int32) (tc_wordCount : Int32) (tc_personCount : Int32) (now_words : Nat → Int32) (tc_prices : Nat → Int32) (tc_kinds : Nat → Int32) (tc_close : Nat → Int32) (v1 : Int32) (v2 : Int32) (v3 : Int32) (v4 : Int32) (v5 : Int32) : Option (Int32) :=
  k32 v1 v2 v3 v4 (v5 + 1)
def f_X6_cheapestGain_79 (k32 : Int32 → Int32 → Int32 → Int32 → Int32 → Option (Int32)) (now_everybody : Int32) (now_far : Int32) (tc_wordCount : Int32) (tc_personCount : Int32) (now_words : Nat → Int32) (tc_prices : Nat → Int32) (tc_kinds : Nat → Int32) (tc_close : Nat → Int32) (v1 : Int32) (v2 : Int32) (v3 : Int32) (v4 : Int32) (v5 : Int32) (s0 : Int32) : Option (Int32) :=
  if s0 = 0 then
   f_X6_cheapestGain_116 k32 now_everybody now_far tc_wordCount tc_personCount now_words tc_prices tc_kinds tc_close v1 v2 v3 v4 v5
  else
   (f_X2_has now_words v1 v5).bind fun z93 =>
   if z93 = 0 then
    (f_X6_metHaving tc_wordCount tc_personCount now_words tc_kinds tc_close v1 v5 v2).bind fun z104 =>
    if (z104 &&& v3) = 0 then
     f_X6_cheapestGain_116 k32 now_everybody now_far tc_wordCount tc_personCount now_words tc_prices tc_kinds tc_close v1 v2 v3 v4 v5
    else
     f_X6_cheapestGain_116 k32 now_everybody now_far tc_wordCount tc_personCount now_words tc_prices tc_kinds tc_close v1 v2 v3 v5 v5
   else
    f_X6_cheapestGain_116 k32 now_everybody now_far tc_wordCount tc_personCount now_words tc_prices tc_kinds tc_close v1 v2 v3 v4 v5
def f_X6_cheapestGain_74 (k32 : Int32 → Int32 → Int32 → Int32 → Int32 → Option (Int32)) (now_everybody : Int32) (now_far : Int32) (tc_wordCount : Int32) (tc_personCount : Int32) (now_words : Nat → Int32) (tc_prices : Nat → Int32) (tc_kinds : Nat → Int32) (tc_close : Nat → Int32) (v1 : Int32) (v2 : Int32) (v3 : Int32) (v4 : Int32) (v5 : Int32) : Option (Int32) :=
  f_X6_cheapestGain_79 k32 now_everybody now_far tc_wordCount tc_personCount now_words tc_prices tc_kinds tc_close v1 v2 v3 v4 v5 1
def f_X6_cheapestGain_32 (now_everybody : Int32) (now_far : Int32) (tc_wordCount : Int32) (tc_personCount : Int32) (now_words : Nat → Int32) (tc_prices : Nat → Int32) (tc_kinds : Nat → Int32) (tc_close : Nat → Int32) : Nat → Int32 → Int32 → Int32 → Int32 → Int32 → Option (Int32)
  | 0, _, _, _, _, _ => none
  | n + 1, v1, v2, v3, v4, v5 =>
   if tc_wordCount ≤ v5 then
    some v4
   else
    if v4 = (-2) then
     f_X6_cheapestGain_74 (f_X6_cheapestGain_32 now_everybody now_far tc_wordCount tc_personCount now_words tc_prices tc_kinds tc_close n) now_everybody now_far tc_wordCount tc_personCount now_words tc_prices tc_kinds tc_close v1 v2 v3 v4 v5
    else
     if rf_ib v5 10 = true then
     if rf_ib v4 10 = true then
     if (tc_prices (Int32.toNatClampNeg v4)) ≤ (tc_prices (Int32.toNatClampNeg v5)) then
      f_X6_cheapestGain_79 (f_X6_cheapestGain_32 now_everybody now_far tc_wordCount tc_personCount now_words tc_prices tc_kinds tc_close n) now_everybody now_far tc_wordCount tc_personCount now_words tc_prices tc_kinds tc_close v1 v2 v3 v4 v5 0
     else
      f_X6_cheapestGain_74 (f_X6_cheapestGain_32 now_everybody now_far tc_wordCount tc_personCount now_words tc_prices tc_kinds tc_close n) now_everybody now_far tc_wordCount tc_personCount now_words tc_prices tc_kinds tc_close v1 v2 v3 v4 v5
     else none
     else none
def f_X6_cheapestGain (now_everybody : Int32) (now_far : Int32) (tc_wordCount : Int32) (tc_personCount : Int32) (now_words : Nat → Int32) (tc_prices : Nat → Int32) (tc_kinds : Nat → Int32) (tc_close : Nat → Int32) (v1 : Int32) (v2 : Int32) : Option (Int32) :=
  (f_X2_bankOf now_far v1).bind fun z9 =>
  (f_X2_onBank now_everybody now_far z9).bind fun z12 =>
  (f_X6_metNow tc_wordCount tc_personCount now_words tc_kinds tc_close v1 v2).bind fun z18 =>
  f_X6_cheapestGain_32 now_everybody now_far tc_wordCount tc_personCount now_words tc_prices tc_kinds tc_close rf_fu v1 v2 (z12 &&& (z18 ^^^ (-1))) (-2) 0
def f_X10_cheapest (now_everybody : Int32) (now_far : Int32) (tc_ear : Int32) (tc_wordCount : Int32) (tc_personCount : Int32) (now_words : Nat → Int32) (tc_prices : Nat → Int32) (tc_kinds : Nat → Int32) (tc_hourEars : Nat → Int32) (tc_close : Nat → Int32) (x_lastTrouble : Int32) (v1 : Int32) (v2 : Int32) : Option (Int32 × Int32) :=
  (f_X10_isPerson tc_personCount v1).bind fun z3 =>
  (f_X10_isHour v2).bind fun z8 =>
  (f_X10_refused x_lastTrouble z3 z8).bind fun z11 =>
  if z11.1 = 0 then
   (f_X9_earAt tc_ear tc_hourEars v2).bind fun z29 =>
   (f_X6_cheapestGain now_everybody now_far tc_wordCount tc_personCount now_words tc_prices tc_kinds tc_close v1 z29).bind fun z32 =>
   some (z32, z11.2)
  else
   some ((-1), z11.2)
def f_X10_isBank_20 (tc_personCount : Int32) : Option (Int32) :=
  some 0
def f_X10_isBank_16 (tc_personCount : Int32) : Option (Int32) :=
  some 1
def f_X10_isBank (tc_personCount : Int32) (v1 : Int32) : Option (Int32) :=
  (f_X10_hasFerry tc_personCount).bind fun z1 =>
  if z1 = 0 then
   f_X10_isBank_20 tc_personCount
  else
   if v1 = 0 then
    f_X10_isBank_16 tc_personCount
   else
    if v1 = 1 then
     f_X10_isBank_16 tc_personCount
    else
     f_X10_isBank_20 tc_personCount
def f_X3_leastOf_2 : Nat → Int32 → Int32 → Option (Int32)
  | 0, _, _ => none
  | n + 1, v0, v1 =>
   if 8 ≤ v1 then
    some (-1)
   else
    (f_X10_holds v0 v1).bind fun z10 =>
    if z10 = 0 then
     f_X3_leastOf_2 n v0 (v1 + 1)
    else
     some v1
def f_X3_leastOf (v0 : Int32) : Option (Int32) :=
  f_X3_leastOf_2 rf_fu v0 0
def f_X3_mostIn_79 (k35 : Int32 → Int32 → Int32 → Int32 → Option (Int32)) (rhymes_links : Nat → Int32) (pairing_best : Nat → Int32) (v3 : Int32) (v4 : Int32) (v5 : Int32) (v6 : Int32) : Option (Int32) :=
  k35 v3 v4 v5 (v6 + 1)
def f_X3_mostIn_35 (rhymes_links : Nat → Int32) (pairing_best : Nat → Int32) : Nat → Int32 → Int32 → Int32 → Int32 → Option (Int32)
  | 0, _, _, _, _ => none
  | n + 1, v3, v4, v5, v6 =>
   if 8 ≤ v6 then
    some v5
   else
    if rf_ib v3 8 = true then
    (f_X10_holds (v4 &&& (rhymes_links (Int32.toNatClampNeg v3))) v6).bind fun z50 =>
    if z50 = 0 then
     f_X3_mostIn_79 (f_X3_mostIn_35 rhymes_links pairing_best n) rhymes_links pairing_best v3 v4 v5 v6
    else
     if rf_ib (v4 &&& (((1 : Int32) <<< (v6 &&& 31)) ^^^ (-1))) 256 = true then
     f_X3_mostIn_79 (f_X3_mostIn_35 rhymes_links pairing_best n) rhymes_links pairing_best v3 v4 (if v5 < ((1 : Int32) + (pairing_best (Int32.toNatClampNeg (v4 &&& (((1 : Int32) <<< (v6 &&& 31)) ^^^ (-1)))))) then ((1 : Int32) + (pairing_best (Int32.toNatClampNeg (v4 &&& (((1 : Int32) <<< (v6 &&& 31)) ^^^ (-1)))))) else v5) v6
     else none
    else none
def f_X3_mostIn (rhymes_links : Nat → Int32) (pairing_best : Nat → Int32) (v2 : Int32) : Option (Int32) :=
  (f_X3_leastOf v2).bind fun z1 =>
  if z1 = (-1) then
   some 0
  else
   if rf_ib (v2 &&& (((1 : Int32) <<< (z1 &&& 31)) ^^^ (-1))) 256 = true then
   f_X3_mostIn_35 rhymes_links pairing_best rf_fu z1 (v2 &&& (((1 : Int32) <<< (z1 &&& 31)) ^^^ (-1))) (pairing_best (Int32.toNatClampNeg (v2 &&& (((1 : Int32) <<< (z1 &&& 31)) ^^^ (-1))))) (z1 + 1)
   else none
def f_X3_most_40 (rhymes_links : Nat → Int32) (v2 : Int32) (pairing_best : Nat → Int32) : Option (Int32 × (Nat → Int32)) :=
  if rf_ib (v2 &&& 255) 256 = true then
  some (pairing_best (Int32.toNatClampNeg (v2 &&& 255)), pairing_best)
  else none
def f_X3_most_34 (k2 : Int32 → Int32 → (Nat → Int32) → Option (Int32 × (Nat → Int32))) (rhymes_links : Nat → Int32) (v2 : Int32) (v3 : Int32) (pairing_best : Nat → Int32) : Option (Int32 × (Nat → Int32)) :=
  k2 v2 (v3 + 1) pairing_best
def f_X3_most_2 (rhymes_links : Nat → Int32) : Nat → Int32 → Int32 → (Nat → Int32) → Option (Int32 × (Nat → Int32))
  | 0, _, _, _ => none
  | n + 1, v2, v3, pairing_best =>
   if v2 < v3 then
    f_X3_most_40 rhymes_links v2 pairing_best
   else
    if 256 ≤ v3 then
     f_X3_most_40 rhymes_links v2 pairing_best
    else
     if (v3 &&& (v2 ^^^ (-1))) = 0 then
      (f_X3_mostIn rhymes_links pairing_best v3).bind fun z30 =>
      if rf_ib v3 256 = true then
      f_X3_most_34 (f_X3_most_2 rhymes_links n) rhymes_links v2 v3 (upd pairing_best (Int32.toNatClampNeg v3) z30)
      else none
     else
      f_X3_most_34 (f_X3_most_2 rhymes_links n) rhymes_links v2 v3 pairing_best
def f_X3_most (rhymes_links : Nat → Int32) (pairing_best : Nat → Int32) (v2 : Int32) : Option (Int32 × (Nat → Int32)) :=
  f_X3_most_2 rhymes_links rf_fu v2 0 pairing_best
def f_X10_pairs (now_everybody : Int32) (now_far : Int32) (tc_ear : Int32) (tc_wordCount : Int32) (tc_personCount : Int32) (now_words : Nat → Int32) (tc_kinds : Nat → Int32) (tc_hourEars : Nat → Int32) (tc_close : Nat → Int32) (x_lastTrouble : Int32) (rhymes_links : Nat → Int32) (pairing_best : Nat → Int32) (v1 : Int32) (v2 : Int32) : Option (Int32 × Int32 × (Nat → Int32) × (Nat → Int32)) :=
  (f_X10_isBank tc_personCount v1).bind fun z3 =>
  (f_X10_isHour v2).bind fun z8 =>
  (f_X10_refused x_lastTrouble z3 z8).bind fun z11 =>
  if z11.1 = 0 then
   (f_X9_earAt tc_ear tc_hourEars v2).bind fun z28 =>
   (f_X6_link tc_wordCount tc_personCount now_words tc_kinds tc_close rhymes_links z28).bind fun z31 =>
   (f_X2_onBank now_everybody now_far v1).bind fun z50 =>
   (f_X3_most z31 pairing_best z50).bind fun z53 =>
   some (z53.1, z11.2, z31, z53.2)
  else
   some ((-1), z11.2, rhymes_links, pairing_best)
def f_X3_firstPartner_63 (k14 : Int32 → Int32 → Int32 → Int32 → Option (Int32)) (rhymes_links : Nat → Int32) (pairing_best : Nat → Int32) (v2 : Int32) (v3 : Int32) (v4 : Int32) (v5 : Int32) : Option (Int32) :=
  k14 v2 v3 v4 (v5 + 1)
def f_X3_firstPartner_14 (rhymes_links : Nat → Int32) (pairing_best : Nat → Int32) : Nat → Int32 → Int32 → Int32 → Int32 → Option (Int32)
  | 0, _, _, _, _ => none
  | n + 1, v2, v3, v4, v5 =>
   if 8 ≤ v5 then
    some (-2)
   else
    if rf_ib v2 8 = true then
    (f_X10_holds (v4 &&& (rhymes_links (Int32.toNatClampNeg v2))) v5).bind fun z29 =>
    if z29 = 0 then
     f_X3_firstPartner_63 (f_X3_firstPartner_14 rhymes_links pairing_best n) rhymes_links pairing_best v2 v3 v4 v5
    else
     if rf_ib (v4 &&& (((1 : Int32) <<< (v5 &&& 31)) ^^^ (-1))) 256 = true then
     if rf_ib v3 256 = true then
     if ((1 : Int32) + (pairing_best (Int32.toNatClampNeg (v4 &&& (((1 : Int32) <<< (v5 &&& 31)) ^^^ (-1)))))) = (pairing_best (Int32.toNatClampNeg v3)) then
      some v5
     else
      f_X3_firstPartner_63 (f_X3_firstPartner_14 rhymes_links pairing_best n) rhymes_links pairing_best v2 v3 v4 v5
     else none
     else none
    else none
def f_X3_firstPartner (rhymes_links : Nat → Int32) (pairing_best : Nat → Int32) (v2 : Int32) (v3 : Int32) : Option (Int32) :=
  f_X3_firstPartner_14 rhymes_links pairing_best rf_fu v2 v3 (v3 &&& (((1 : Int32) <<< (v2 &&& 31)) ^^^ (-1))) (v2 + 1)
def f_X3_pairFirst_94 (k25 : Int32 → Int32 → (Nat → Int32) → (Nat → Int32) → Option ((Nat → Int32) × (Nat → Int32))) (rhymes_links : Nat → Int32) (v3 : Int32) (v4 : Int32) (pairing_partners : Nat → Int32) (pairing_best : Nat → Int32) : Option ((Nat → Int32) × (Nat → Int32)) :=
  k25 v3 (v4 + 1) pairing_partners pairing_best
def f_X3_pairFirst_25 (rhymes_links : Nat → Int32) : Nat → Int32 → Int32 → (Nat → Int32) → (Nat → Int32) → Option ((Nat → Int32) × (Nat → Int32))
  | 0, _, _, _, _ => none
  | n + 1, v3, v4, pairing_partners, pairing_best =>
   if 8 ≤ v4 then
    some (pairing_partners, pairing_best)
   else
    (f_X10_holds v3 v4).bind fun z35 =>
    if z35 = 0 then
     f_X3_pairFirst_94 (f_X3_pairFirst_25 rhymes_links n) rhymes_links v3 v4 pairing_partners pairing_best
    else
     (f_X3_firstPartner rhymes_links pairing_best v4 v3).bind fun z46 =>
     if z46 = (-2) then
      f_X3_pairFirst_94 (f_X3_pairFirst_25 rhymes_links n) rhymes_links (v3 &&& (((1 : Int32) <<< (v4 &&& 31)) ^^^ (-1))) v4 pairing_partners pairing_best
     else
      if rf_ib v4 8 = true then
      if rf_ib z46 8 = true then
      f_X3_pairFirst_94 (f_X3_pairFirst_25 rhymes_links n) rhymes_links ((v3 &&& (((1 : Int32) <<< (v4 &&& 31)) ^^^ (-1))) &&& (((1 : Int32) <<< (z46 &&& 31)) ^^^ (-1))) v4 (upd (upd pairing_partners (Int32.toNatClampNeg v4) z46) (Int32.toNatClampNeg z46) v4) pairing_best
      else none
      else none
def f_X3_pairFirst (rhymes_links : Nat → Int32) (pairing_partners : Nat → Int32) (pairing_best : Nat → Int32) (v2 : Int32) : Option ((Nat → Int32) × (Nat → Int32)) :=
  (f_X3_most rhymes_links pairing_best v2).bind fun z3 =>
  f_X3_pairFirst_25 rhymes_links rf_fu (v2 &&& 255) 0 (rf_fill 8 (-2) pairing_partners) z3.2
def f_X10_partner_22 (now_everybody : Int32) (now_far : Int32) (tc_ear : Int32) (tc_wordCount : Int32) (tc_personCount : Int32) (now_words : Nat → Int32) (tc_kinds : Nat → Int32) (tc_hourEars : Nat → Int32) (tc_close : Nat → Int32) (v1 : Int32) (v2 : Int32) (v3 : Int32) (s1 : Int32) (x_lastTrouble : Int32) (rhymes_links : Nat → Int32) (pairing_partners : Nat → Int32) (pairing_best : Nat → Int32) : Option (Int32 × Int32 × (Nat → Int32) × (Nat → Int32) × (Nat → Int32)) :=
  (f_X10_isHour v3).bind fun z24 =>
  (f_X10_refused x_lastTrouble s1 z24).bind fun z27 =>
  if z27.1 = 0 then
   (f_X9_earAt tc_ear tc_hourEars v3).bind fun z44 =>
   (f_X6_link tc_wordCount tc_personCount now_words tc_kinds tc_close rhymes_links z44).bind fun z47 =>
   (f_X2_onBank now_everybody now_far v2).bind fun z66 =>
   (f_X3_pairFirst z47 pairing_partners pairing_best z66).bind fun z69 =>
   if rf_ib v1 8 = true then
   some (z69.1 (Int32.toNatClampNeg v1), z27.2, z47, z69.1, z69.2)
   else none
  else
   some ((-1), z27.2, rhymes_links, pairing_partners, pairing_best)
def f_X10_partner_21 (now_everybody : Int32) (now_far : Int32) (tc_ear : Int32) (tc_wordCount : Int32) (tc_personCount : Int32) (now_words : Nat → Int32) (tc_kinds : Nat → Int32) (tc_hourEars : Nat → Int32) (tc_close : Nat → Int32) (v1 : Int32) (v2 : Int32) (v3 : Int32) (x_lastTrouble : Int32) (rhymes_links : Nat → Int32) (pairing_partners : Nat → Int32) (pairing_best : Nat → Int32) : Option (Int32 × Int32 × (Nat → Int32) × (Nat → Int32) × (Nat → Int32)) :=
  f_X10_partner_22 now_everybody now_far tc_ear tc_wordCount tc_personCount now_words tc_kinds tc_hourEars tc_close v1 v2 v3 0 x_lastTrouble rhymes_links pairing_partners pairing_best
def f_X10_partner (now_everybody : Int32) (now_far : Int32) (tc_ear : Int32) (tc_wordCount : Int32) (tc_personCount : Int32) (now_words : Nat → Int32) (tc_kinds : Nat → Int32) (tc_hourEars : Nat → Int32) (tc_close : Nat → Int32) (x_lastTrouble : Int32) (rhymes_links : Nat → Int32) (pairing_partners : Nat → Int32) (pairing_best : Nat → Int32) (v1 : Int32) (v2 : Int32) (v3 : Int32) : Option (Int32 × Int32 × (Nat → Int32) × (Nat → Int32) × (Nat → Int32)) :=
  (f_X10_isPerson tc_personCount v1).bind fun z3 =>
  if z3 = 0 then
   f_X10_partner_21 now_everybody now_far tc_ear tc_wordCount tc_personCount now_words tc_kinds tc_hourEars tc_close v1 v2 v3 x_lastTrouble rhymes_links pairing_partners pairing_best
  else
   (f_X10_isBank tc_personCount v2).bind fun z11 =>
   if z11 = 0 then
    f_X10_partner_21 now_everybody now_far tc_ear tc_wordCount tc_personCount now_words tc_kinds tc_hourEars tc_close v1 v2 v3 x_lastTrouble rhymes_links pairing_partners pairing_best
   else
    f_X10_partner_22 now_everybody now_far tc_ear tc_wordCount tc_personCount now_words tc_kinds tc_hourEars tc_close v1 v2 v3 1 x_lastTrouble rhymes_links pairing_partners pairing_best
def f_X6_lonely_45 (k5 : Int32 → Int32 → Int32 → Int32 → Option (Int32)) (tc_wordCount : Int32) (tc_personCount : Int32) (now_words : Nat → Int32) (tc_kinds : Nat → Int32) (tc_close : Nat → Int32) (v1 : Int32) (v2 : Int32) (v3 : Int32) (v4 : Int32) : Option (Int32) :=
  k5 v1 v2 v3 (v4 + 1)
def f_X6_lonely_5 (tc_wordCount : Int32) (tc_personCount : Int32) (now_words : Nat → Int32) (tc_kinds : Nat → Int32) (tc_close : Nat → Int32) : Nat → Int32 → Int32 → Int32 → Int32 → Option (Int32)
  | 0, _, _, _, _ => none
  | n + 1, v1, v2, v3, v4 =>
   if tc_personCount ≤ v4 then
    some v3
   else
    (f_X10_holds v1 v4).bind fun z20 =>
    if z20 = 0 then
     f_X6_lonely_45 (f_X6_lonely_5 tc_wordCount tc_personCount now_words tc_kinds tc_close n) tc_wordCount tc_personCount now_words tc_kinds tc_close v1 v2 v3 v4
    else
     (f_X6_metNow tc_wordCount tc_personCount now_words tc_kinds tc_close v4 v2).bind fun z30 =>
     if (z30 &&& v1) = 0 then
      f_X6_lonely_45 (f_X6_lonely_5 tc_wordCount tc_personCount now_words tc_kinds tc_close n) tc_wordCount tc_personCount now_words tc_kinds tc_close v1 v2 (v3 ||| ((1 : Int32) <<< (v4 &&& 31))) v4
     else
      f_X6_lonely_45 (f_X6_lonely_5 tc_wordCount tc_personCount now_words tc_kinds tc_close n) tc_wordCount tc_personCount now_words tc_kinds tc_close v1 v2 v3 v4
def f_X6_lonely (tc_wordCount : Int32) (tc_personCount : Int32) (now_words : Nat → Int32) (tc_kinds : Nat → Int32) (tc_close : Nat → Int32) (v1 : Int32) (v2 : Int32) : Option (Int32) :=
  f_X6_lonely_5 tc_wordCount tc_personCount now_words tc_kinds tc_close rf_fu v1 v2 0 0
def f_X10_alone (now_everybody : Int32) (now_far : Int32) (tc_ear : Int32) (tc_wordCount : Int32) (tc_personCount : Int32) (now_words : Nat → Int32) (tc_kinds : Nat → Int32) (tc_hourEars : Nat → Int32) (tc_close : Nat → Int32) (x_lastTrouble : Int32) (v1 : Int32) (v2 : Int32) : Option (Int32 × Int32) :=
  (f_X10_isBank tc_personCount v1).bind fun z3 =>
  (f_X10_isHour v2).bind fun z8 =>
  (f_X10_refused x_lastTrouble z3 z8).bind fun z11 =>
  if z11.1 = 0 then
   (f_X2_onBank now_everybody now_far v1).bind fun z28 =>
   (f_X9_earAt tc_ear tc_hourEars v2).bind fun z36 =>
   (f_X6_lonely tc_wordCount tc_personCount now_words tc_kinds tc_close z28 z36).bind fun z39 =>
   some (z39, z11.2)
  else
   some ((-1), z11.2)
def f_X3_mostKeptIn_116 (k6 : Int32 → Int32 → Int32 → Int32 → Option (Int32)) (k19 : Int32 → Int32 → Int32 → Int32 → Int32 → Option (Int32)) (rhymes_links : Nat → Int32) (pairing_best : Nat → Int32) (tc_errands : Nat → Int32) (v2 : Int32) (v4 : Int32) (v5 : Int32) (v6 : Int32) (v7 : Int32) : Option (Int32) :=
  k19 v2 v4 v5 v6 (v7 + 1)
def f_X3_mostKeptIn_83 (k6 : Int32 → Int32 → Int32 → Int32 → Option (Int32)) (k19 : Int32 → Int32 → Int32 → Int32 → Int32 → Option (Int32)) (rhymes_links : Nat → Int32) (pairing_best : Nat → Int32) (tc_errands : Nat → Int32) (v2 : Int32) (v4 : Int32) (v5 : Int32) (v6 : Int32) (v7 : Int32) (s0 : Int32) (s1 : Int32) : Option (Int32) :=
  if rf_ib ((v2 &&& (((1 : Int32) <<< (v6 &&& 31)) ^^^ (-1))) &&& (((1 : Int32) <<< (v7 &&& 31)) ^^^ (-1))) 256 = true then
  f_X3_mostKeptIn_116 k6 k19 rhymes_links pairing_best tc_errands v2 v4 (if v5 < ((s0 + s1) + (pairing_best (Int32.toNatClampNeg ((v2 &&& (((1 : Int32) <<< (v6 &&& 31)) ^^^ (-1))) &&& (((1 : Int32) <<< (v7 &&& 31)) ^^^ (-1)))))) then ((s0 + s1) + (pairing_best (Int32.toNatClampNeg ((v2 &&& (((1 : Int32) <<< (v6 &&& 31)) ^^^ (-1))) &&& (((1 : Int32) <<< (v7 &&& 31)) ^^^ (-1)))))) else v5) v6 v7
  else none
def f_X3_mostKeptIn_66 (k6 : Int32 → Int32 → Int32 → Int32 → Option (Int32)) (k19 : Int32 → Int32 → Int32 → Int32 → Int32 → Option (Int32)) (rhymes_links : Nat → Int32) (pairing_best : Nat → Int32) (tc_errands : Nat → Int32) (v2 : Int32) (v4 : Int32) (v5 : Int32) (v6 : Int32) (v7 : Int32) (s0 : Int32) : Option (Int32) :=
  if rf_ib v7 8 = true then
  if (tc_errands (Int32.toNatClampNeg v7)) < v4 then
   f_X3_mostKeptIn_83 k6 k19 rhymes_links pairing_best tc_errands v2 v4 v5 v6 v7 s0 0
  else
   f_X3_mostKeptIn_83 k6 k19 rhymes_links pairing_best tc_errands v2 v4 v5 v6 v7 s0 1
  else none
def f_X3_mostKeptIn_19 (k6 : Int32 → Int32 → Int32 → Int32 → Option (Int32)) (rhymes_links : Nat → Int32) (pairing_best : Nat → Int32) (tc_errands : Nat → Int32) : Nat → Int32 → Int32 → Int32 → Int32 → Int32 → Option (Int32)
  | 0, _, _, _, _, _ => none
  | n + 1, v2, v4, v5, v6, v7 =>
   if 8 ≤ v7 then
    k6 v2 v4 v5 (v6 + 1)
   else
    (f_X10_holds v2 v6).bind fun z29 =>
    if z29 = 0 then
     f_X3_mostKeptIn_116 k6 (f_X3_mostKeptIn_19 k6 rhymes_links pairing_best tc_errands n) rhymes_links pairing_best tc_errands v2 v4 v5 v6 v7
    else
     if rf_ib v6 8 = true then
     (f_X10_holds (v2 &&& (rhymes_links (Int32.toNatClampNeg v6))) v7).bind fun z43 =>
     if z43 = 0 then
      f_X3_mostKeptIn_116 k6 (f_X3_mostKeptIn_19 k6 rhymes_links pairing_best tc_errands n) rhymes_links pairing_best tc_errands v2 v4 v5 v6 v7
     else
      if rf_ib v6 8 = true then
      if (tc_errands (Int32.toNatClampNeg v6)) < v4 then
       f_X3_mostKeptIn_66 k6 (f_X3_mostKeptIn_19 k6 rhymes_links pairing_best tc_errands n) rhymes_links pairing_best tc_errands v2 v4 v5 v6 v7 0
      else
       f_X3_mostKeptIn_66 k6 (f_X3_mostKeptIn_19 k6 rhymes_links pairing_best tc_errands n) rhymes_links pairing_best tc_errands v2 v4 v5 v6 v7 1
      else none
     else none
def f_X3_mostKeptIn_6 (rhymes_links : Nat → Int32) (pairing_best : Nat → Int32) (tc_errands : Nat → Int32) : Nat → Int32 → Int32 → Int32 → Int32 → Option (Int32)
  | 0, _, _, _, _ => none
  | n + 1, v2, v4, v5, v6 =>
   if 8 ≤ v6 then
    some v5
   else
    f_X3_mostKeptIn_19 (f_X3_mostKeptIn_6 rhymes_links pairing_best tc_errands n) rhymes_links pairing_best tc_errands rf_fu v2 v4 v5 v6 (v6 + 1)
def f_X3_mostKeptIn (rhymes_links : Nat → Int32) (pairing_best : Nat → Int32) (tc_errands : Nat → Int32) (v2 : Int32) (v4 : Int32) : Option (Int32) :=
  f_X3_mostKeptIn_6 rhymes_links pairing_best tc_errands rf_fu v2 v4 0 0
def f_X3_mostKept_89 (tc_pairs : Int32) (rhymes_links : Nat → Int32) (tc_errands : Nat → Int32) (v2 : Int32) (pairing_best : Nat → Int32) : Option (Int32 × (Nat → Int32)) :=
  if rf_ib (v2 &&& 255) 256 = true then
  some (pairing_best (Int32.toNatClampNeg (v2 &&& 255)), pairing_best)
  else none
def f_X3_mostKept_83 (k9 : Int32 → Int32 → Int32 → (Nat → Int32) → Option (Int32 × (Nat → Int32))) (tc_pairs : Int32) (rhymes_links : Nat → Int32) (tc_errands : Nat → Int32) (v2 : Int32) (v4 : Int32) (v5 : Int32) (pairing_best : Nat → Int32) : Option (Int32 × (Nat → Int32)) :=
  k9 v2 v4 (v5 + 1) pairing_best
def f_X3_mostKept_9 (tc_pairs : Int32) (rhymes_links : Nat → Int32) (tc_errands : Nat → Int32) : Nat → Int32 → Int32 → Int32 → (Nat → Int32) → Option (Int32 × (Nat → Int32))
  | 0, _, _, _, _ => none
  | n + 1, v2, v4, v5, pairing_best =>
   if v2 < v5 then
    f_X3_mostKept_89 tc_pairs rhymes_links tc_errands v2 pairing_best
   else
    if 256 ≤ v5 then
     f_X3_mostKept_89 tc_pairs rhymes_links tc_errands v2 pairing_best
    else
     (f_J6_bitCount_0f7a4 v5).bind fun z27 =>
     if (v5 &&& (v2 ^^^ (-1))) = 0 then
      if ((v4 - z27) - (v4 - z27) / 2 * 2) = 0 then
       if (if 1 < tc_pairs then tc_pairs else 1) = 0 then none else
       (f_X3_mostKeptIn rhymes_links pairing_best tc_errands v5 ((((v4 - z27) / 2) / (if 1 < tc_pairs then tc_pairs else 1)) + 1)).bind fun z79 =>
       if rf_ib v5 256 = true then
       f_X3_mostKept_83 (f_X3_mostKept_9 tc_pairs rhymes_links tc_errands n) tc_pairs rhymes_links tc_errands v2 v4 v5 (upd pairing_best (Int32.toNatClampNeg v5) z79)
       else none
      else
       f_X3_mostKept_83 (f_X3_mostKept_9 tc_pairs rhymes_links tc_errands n) tc_pairs rhymes_links tc_errands v2 v4 v5 pairing_best
     else
      f_X3_mostKept_83 (f_X3_mostKept_9 tc_pairs rhymes_links tc_errands n) tc_pairs rhymes_links tc_errands v2 v4 v5 pairing_best
def f_X3_mostKept (tc_pairs : Int32) (rhymes_links : Nat → Int32) (tc_errands : Nat → Int32) (pairing_best : Nat → Int32) (v2 : Int32) : Option (Int32 × (Nat → Int32)) :=
  (f_J6_bitCount_0f7a4 v2).bind fun z1 =>
  f_X3_mostKept_9 tc_pairs rhymes_links tc_errands rf_fu v2 z1 0 pairing_best
def f_X10_kept (now_everybody : Int32) (now_far : Int32) (tc_ear : Int32) (tc_pairs : Int32) (tc_wordCount : Int32) (tc_personCount : Int32) (now_words : Nat → Int32) (tc_kinds : Nat → Int32) (tc_errands : Nat → Int32) (tc_hourEars : Nat → Int32) (tc_close : Nat → Int32) (x_lastTrouble : Int32) (rhymes_links : Nat → Int32) (pairing_best : Nat → Int32) (v1 : Int32) : Option (Int32 × Int32 × (Nat → Int32) × (Nat → Int32)) :=
  (f_X10_hasFerry tc_personCount).bind fun z2 =>
  (f_X10_isHour v1).bind fun z7 =>
  (f_X10_refused x_lastTrouble z2 z7).bind fun z10 =>
  if z10.1 = 0 then
   (f_X9_earAt tc_ear tc_hourEars v1).bind fun z27 =>
   (f_X6_link tc_wordCount tc_personCount now_words tc_kinds tc_close rhymes_links z27).bind fun z30 =>
   (f_X2_onBank now_everybody now_far 0).bind fun z49 =>
   (f_X3_mostKept tc_pairs z30 tc_errands pairing_best z49).bind fun z56 =>
   some (z56.1, z10.2, z30, z56.2)
  else
   some ((-1), z10.2, rhymes_links, pairing_best)
def f_X1_firstUntrue_10 (tc_wordCount : Int32) (tc_gotCount : Int32) (now_words : Nat → Int32) (tc_kinds : Nat → Int32) (tc_gotFirst : Nat → Int32) (tc_gotSecond : Nat → Int32) (tc_gotDegree : Nat → Int32) (tc_close : Nat → Int32) : Nat → Int32 → Int32 → Option (Int32)
  | 0, _, _ => none
  | n + 1, v1, v3 =>
   if tc_gotCount ≤ v3 then
    some (-2)
   else
    if rf_ib v3 6 = true then
    if rf_ib v3 6 = true then
    (f_X6_degree tc_wordCount now_words tc_kinds tc_close (tc_gotFirst (Int32.toNatClampNeg v3)) (tc_gotSecond (Int32.toNatClampNeg v3)) v1).bind fun z35 =>
    if rf_ib v3 6 = true then
    if z35 = (tc_gotDegree (Int32.toNatClampNeg v3)) then
     f_X1_firstUntrue_10 tc_wordCount tc_gotCount now_words tc_kinds tc_gotFirst tc_gotSecond tc_gotDegree tc_close n v1 (v3 + 1)
    else
     some v3
    else none
    else none
    else none
def f_X1_firstUntrue (tc_wordCount : Int32) (tc_gotCount : Int32) (now_words : Nat → Int32) (tc_kinds : Nat → Int32) (tc_gotFirst : Nat → Int32) (tc_gotSecond : Nat → Int32) (tc_gotDegree : Nat → Int32) (tc_close : Nat → Int32) (v1 : Int32) : Option (Int32) :=
  f_X1_firstUntrue_10 tc_wordCount tc_gotCount now_words tc_kinds tc_gotFirst tc_gotSecond tc_gotDegree tc_close rf_fu v1 0
def f_X10_judge (tc_ear : Int32) (tc_wordCount : Int32) (tc_personCount : Int32) (tc_gotCount : Int32) (now_words : Nat → Int32) (tc_kinds : Nat → Int32) (tc_gotFirst : Nat → Int32) (tc_gotSecond : Nat → Int32) (tc_gotDegree : Nat → Int32) (tc_close : Nat → Int32) (x_lastTrouble : Int32) : Option (Int32 × Int32) :=
  (f_X10_hasFerry tc_personCount).bind fun z2 =>
  (f_X10_refused x_lastTrouble z2 1).bind fun z6 =>
  if z6.1 = 0 then
   (f_X1_firstUntrue tc_wordCount tc_gotCount now_words tc_kinds tc_gotFirst tc_gotSecond tc_gotDegree tc_close tc_ear).bind fun z25 =>
   some (z25, z6.2)
  else
   some ((-1), z6.2)
def f_X3_leastCoinsIn_86 (pairing_best : Nat → Int32) (purse_coins : Nat → Int32) (v4 : Int32) : Option (Int32) :=
  some v4
def f_X3_leastCoinsIn_80 (k14 : Int32 → Int32 → Int32 → Int32 → Option (Int32)) (pairing_best : Nat → Int32) (purse_coins : Nat → Int32) (v2 : Int32) (v3 : Int32) (v4 : Int32) (v5 : Int32) : Option (Int32) :=
  k14 v2 v3 v4 (v5 + 1)
def f_X3_leastCoinsIn_14 (pairing_best : Nat → Int32) (purse_coins : Nat → Int32) : Nat → Int32 → Int32 → Int32 → Int32 → Option (Int32)
  | 0, _, _, _, _ => none
  | n + 1, v2, v3, v4, v5 =>
   if v3 = (-1) then
    f_X3_leastCoinsIn_86 pairing_best purse_coins v4
   else
    if 8 ≤ v5 then
     f_X3_leastCoinsIn_86 pairing_best purse_coins v4
    else
     if rf_ib ((v3 * 8) + v5) 64 = true then
     (f_X10_holds v2 v5).bind fun z40 =>
     if z40 = 0 then
      f_X3_leastCoinsIn_80 (f_X3_leastCoinsIn_14 pairing_best purse_coins n) pairing_best purse_coins v2 v3 v4 v5
     else
      if (purse_coins (Int32.toNatClampNeg ((v3 * 8) + v5))) < 0 then
       f_X3_leastCoinsIn_80 (f_X3_leastCoinsIn_14 pairing_best purse_coins n) pairing_best purse_coins v2 v3 v4 v5
      else
       if rf_ib ((v2 &&& (((1 : Int32) <<< (v3 &&& 31)) ^^^ (-1))) &&& (((1 : Int32) <<< (v5 &&& 31)) ^^^ (-1))) 256 = true then
       f_X3_leastCoinsIn_80 (f_X3_leastCoinsIn_14 pairing_best purse_coins n) pairing_best purse_coins v2 v3 (if ((purse_coins (Int32.toNatClampNeg ((v3 * 8) + v5))) + (pairing_best (Int32.toNatClampNeg ((v2 &&& (((1 : Int32) <<< (v3 &&& 31)) ^^^ (-1))) &&& (((1 : Int32) <<< (v5 &&& 31)) ^^^ (-1)))))) < v4 then ((purse_coins (Int32.toNatClampNeg ((v3 * 8) + v5))) + (pairing_best (Int32.toNatClampNeg ((v2 &&& (((1 : Int32) <<< (v3 &&& 31)) ^^^ (-1))) &&& (((1 : Int32) <<< (v5 &&& 31)) ^^^ (-1)))))) else v4) v5
       else none
     else none
def f_X3_leastCoinsIn (pairing_best : Nat → Int32) (purse_coins : Nat → Int32) (v2 : Int32) : Option (Int32) :=
  (f_X3_leastOf v2).bind fun z1 =>
  f_X3_leastCoinsIn_14 pairing_best purse_coins rf_fu v2 z1 1000000 (z1 + 1)
def f_X3_leastCoins_47 (purse_coins : Nat → Int32) (v2 : Int32) (pairing_best : Nat → Int32) : Option (Int32 × (Nat → Int32)) :=
  if rf_ib (v2 &&& 255) 256 = true then
  if 1000000 ≤ (pairing_best (Int32.toNatClampNeg (v2 &&& 255))) then
   some ((-2), pairing_best)
  else
   some (pairing_best (Int32.toNatClampNeg (v2 &&& 255)), pairing_best)
  else none
def f_X3_leastCoins_41 (k9 : Int32 → Int32 → (Nat → Int32) → Option (Int32 × (Nat → Int32))) (purse_coins : Nat → Int32) (v2 : Int32) (v3 : Int32) (pairing_best : Nat → Int32) : Option (Int32 × (Nat → Int32)) :=
  k9 v2 (v3 + 1) pairing_best
def f_X3_leastCoins_9 (purse_coins : Nat → Int32) : Nat → Int32 → Int32 → (Nat → Int32) → Option (Int32 × (Nat → Int32))
  | 0, _, _, _ => none
  | n + 1, v2, v3, pairing_best =>
   if v2 < v3 then
    f_X3_leastCoins_47 purse_coins v2 pairing_best
   else
    if 256 ≤ v3 then
     f_X3_leastCoins_47 purse_coins v2 pairing_best
    else
     if (v3 &&& (v2 ^^^ (-1))) = 0 then
      (f_X3_leastCoinsIn pairing_best purse_coins v3).bind fun z37 =>
      if rf_ib v3 256 = true then
      f_X3_leastCoins_41 (f_X3_leastCoins_9 purse_coins n) purse_coins v2 v3 (upd pairing_best (Int32.toNatClampNeg v3) z37)
      else none
     else
      f_X3_leastCoins_41 (f_X3_leastCoins_9 purse_coins n) purse_coins v2 v3 pairing_best
def f_X3_leastCoins (purse_coins : Nat → Int32) (pairing_best : Nat → Int32) (v2 : Int32) : Option (Int32 × (Nat → Int32)) :=
  f_X3_leastCoins_9 purse_coins rf_fu v2 1 (upd pairing_best (Int32.toNatClampNeg 0) 0)
def f_X4_coinsFor_152 (k15 : Int32 → Int32 → Int32 → Int32 → Int32 → Option (Int32)) (k82 : Int32 → Int32 → Int32 → Int32 → Int32 → Int32 → Int32 → Int32 → Option (Int32)) (tc_wordCount : Int32) (now_words : Nat → Int32) (tc_prices : Nat → Int32) (tc_kinds : Nat → Int32) (tc_close : Nat → Int32) (v1 : Int32) (v2 : Int32) (v3 : Int32) (v5 : Int32) (v6 : Int32) (v7 : Int32) (v8 : Int32) (v9 : Int32) : Option (Int32) :=
  k82 v1 v2 v3 v5 v6 v7 v8 (v9 + 1)
def f_X4_coinsFor_148 (k15 : Int32 → Int32 → Int32 → Int32 → Int32 → Option (Int32)) (k82 : Int32 → Int32 → Int32 → Int32 → Int32 → Int32 → Int32 → Int32 → Option (Int32)) (tc_wordCount : Int32) (now_words : Nat → Int32) (tc_prices : Nat → Int32) (tc_kinds : Nat → Int32) (tc_close : Nat → Int32) (v1 : Int32) (v2 : Int32) (v3 : Int32) (v6 : Int32) (v7 : Int32) (v8 : Int32) (v9 : Int32) (v10 : Int32) : Option (Int32) :=
  f_X4_coinsFor_152 k15 k82 tc_wordCount now_words tc_prices tc_kinds tc_close v1 v2 v3 v10 v6 v7 v8 v9
def f_X4_coinsFor_122 (k15 : Int32 → Int32 → Int32 → Int32 → Int32 → Option (Int32)) (k82 : Int32 → Int32 → Int32 → Int32 → Int32 → Int32 → Int32 → Int32 → Option (Int32)) (tc_wordCount : Int32) (now_words : Nat → Int32) (tc_prices : Nat → Int32) (tc_kinds : Nat → Int32) (tc_close : Nat → Int32) (v1 : Int32) (v2 : Int32) (v3 : Int32) (v5 : Int32) (v6 : Int32) (v7 : Int32) (v8 : Int32) (v9 : Int32) (s0 : Int32) (s1 : Int32) : Option (Int32) :=
  (f_X10_holds v7 v9).bind fun z129 =>
  if z129 = 0 then
   f_X4_coinsFor_152 k15 k82 tc_wordCount now_words tc_prices tc_kinds tc_close v1 v2 v3 v5 v6 v7 v8 v9
  else
   if v5 = (-1) then
    f_X4_coinsFor_148 k15 k82 tc_wordCount now_words tc_prices tc_kinds tc_close v1 v2 v3 v6 v7 v8 v9 (s0 + s1)
   else
    if v5 ≤ (s0 + s1) then
     f_X4_coinsFor_152 k15 k82 tc_wordCount now_words tc_prices tc_kinds tc_close v1 v2 v3 v5 v6 v7 v8 v9
    else
     f_X4_coinsFor_148 k15 k82 tc_wordCount now_words tc_prices tc_kinds tc_close v1 v2 v3 v6 v7 v8 v9 (s0 + s1)
def f_X4_coinsFor_82 (k15 : Int32 → Int32 → Int32 → Int32 → Int32 → Option (Int32)) (tc_wordCount : Int32) (now_words : Nat → Int32) (tc_prices : Nat → Int32) (tc_kinds : Nat → Int32) (tc_close : Nat → Int32) : Nat → Int32 → Int32 → Int32 → Int32 → Int32 → Int32 → Int32 → Int32 → Option (Int32)
  | 0, _, _, _, _, _, _, _, _ => none
  | n + 1, v1, v2, v3, v5, v6, v7, v8, v9 =>
   if tc_wordCount ≤ v9 then
    k15 v1 v2 v3 v5 (v6 + 1)
   else
    (f_X2_has now_words v2 v9).bind fun z104 =>
    if z104 = 0 then
     if rf_ib v9 10 = true then
     f_X4_coinsFor_122 k15 (f_X4_coinsFor_82 k15 tc_wordCount now_words tc_prices tc_kinds tc_close n) tc_wordCount now_words tc_prices tc_kinds tc_close v1 v2 v3 v5 v6 v7 v8 v9 v8 (tc_prices (Int32.toNatClampNeg v9))
     else none
    else
     f_X4_coinsFor_122 k15 (f_X4_coinsFor_82 k15 tc_wordCount now_words tc_prices tc_kinds tc_close n) tc_wordCount now_words tc_prices tc_kinds tc_close v1 v2 v3 v5 v6 v7 v8 v9 v8 0
def f_X4_coinsFor_77 (k15 : Int32 → Int32 → Int32 → Int32 → Int32 → Option (Int32)) (tc_wordCount : Int32) (now_words : Nat → Int32) (tc_prices : Nat → Int32) (tc_kinds : Nat → Int32) (tc_close : Nat → Int32) (v1 : Int32) (v2 : Int32) (v3 : Int32) (v5 : Int32) (v6 : Int32) (v7 : Int32) (s0 : Int32) : Option (Int32) :=
  f_X4_coinsFor_82 k15 tc_wordCount now_words tc_prices tc_kinds tc_close rf_fu v1 v2 v3 v5 v6 v7 s0 0
def f_X4_coinsFor_15 (tc_wordCount : Int32) (now_words : Nat → Int32) (tc_prices : Nat → Int32) (tc_kinds : Nat → Int32) (tc_close : Nat → Int32) : Nat → Int32 → Int32 → Int32 → Int32 → Int32 → Option (Int32)
  | 0, _, _, _, _, _ => none
  | n + 1, v1, v2, v3, v5, v6 =>
   if tc_wordCount ≤ v6 then
    some v5
   else
    if rf_ib v1 8 = true then
    if rf_ib v2 8 = true then
    (f_X9_rhymingWords tc_wordCount tc_close v6 (tc_kinds (Int32.toNatClampNeg v1)) (tc_kinds (Int32.toNatClampNeg v2)) v3).bind fun z44 =>
    (f_X2_has now_words v1 v6).bind fun z59 =>
    if z59 = 0 then
     if rf_ib v6 10 = true then
     f_X4_coinsFor_77 (f_X4_coinsFor_15 tc_wordCount now_words tc_prices tc_kinds tc_close n) tc_wordCount now_words tc_prices tc_kinds tc_close v1 v2 v3 v5 v6 z44 (tc_prices (Int32.toNatClampNeg v6))
     else none
    else
     f_X4_coinsFor_77 (f_X4_coinsFor_15 tc_wordCount now_words tc_prices tc_kinds tc_close n) tc_wordCount now_words tc_prices tc_kinds tc_close v1 v2 v3 v5 v6 z44 0
    else none
    else none
def f_X4_coinsFor (tc_wordCount : Int32) (now_words : Nat → Int32) (tc_prices : Nat → Int32) (tc_kinds : Nat → Int32) (tc_close : Nat → Int32) (v1 : Int32) (v2 : Int32) (v3 : Int32) : Option (Int32) :=
  f_X4_coinsFor_15 tc_wordCount now_words tc_prices tc_kinds tc_close rf_fu v1 v2 v3 (-1) 0
def f_X4_leastCoins_87 (k14 : Int32 → Int32 → Int32 → Int32 → (Nat → Int32) → (Nat → Int32) → Option (Int32 × (Nat → Int32) × (Nat → Int32))) (k26 : Int32 → Int32 → Int32 → Int32 → Int32 → (Nat → Int32) → (Nat → Int32) → Option (Int32 × (Nat → Int32) × (Nat → Int32))) (tc_wordCount : Int32) (tc_personCount : Int32) (now_words : Nat → Int32) (tc_prices : Nat → Int32) (tc_kinds : Nat → Int32) (tc_close : Nat → Int32) (v1 : Int32) (v2 : Int32) (v3 : Int32) (v4 : Int32) (v5 : Int32) (s1 : Int32) (s2 : Int32) (pairing_best : Nat → Int32) (purse_coins : Nat → Int32) : Option (Int32 × (Nat → Int32) × (Nat → Int32)) :=
  if rf_ib s1 64 = true then
  k26 v1 v2 v3 v4 (v5 + 1) pairing_best (upd purse_coins (Int32.toNatClampNeg s1) s2)
  else none
def f_X4_leastCoins_55 (k14 : Int32 → Int32 → Int32 → Int32 → (Nat → Int32) → (Nat → Int32) → Option (Int32 × (Nat → Int32) × (Nat → Int32))) (k26 : Int32 → Int32 → Int32 → Int32 → Int32 → (Nat → Int32) → (Nat → Int32) → Option (Int32 × (Nat → Int32) × (Nat → Int32))) (tc_wordCount : Int32) (tc_personCount : Int32) (now_words : Nat → Int32) (tc_prices : Nat → Int32) (tc_kinds : Nat → Int32) (tc_close : Nat → Int32) (v1 : Int32) (v2 : Int32) (v3 : Int32) (v4 : Int32) (v5 : Int32) (s0 : Int32) (pairing_best : Nat → Int32) (purse_coins : Nat → Int32) : Option (Int32 × (Nat → Int32) × (Nat → Int32)) :=
  if s0 = 0 then
   f_X4_leastCoins_87 k14 k26 tc_wordCount tc_personCount now_words tc_prices tc_kinds tc_close v1 v2 v3 v4 v5 ((v4 * 8) + v5) (-1) pairing_best purse_coins
  else
   (f_X4_coinsFor tc_wordCount now_words tc_prices tc_kinds tc_close v4 v5 v2).bind fun z80 =>
   f_X4_leastCoins_87 k14 k26 tc_wordCount tc_personCount now_words tc_prices tc_kinds tc_close v1 v2 v3 v4 v5 ((v4 * 8) + v5) z80 pairing_best purse_coins
def f_X4_leastCoins_54 (k14 : Int32 → Int32 → Int32 → Int32 → (Nat → Int32) → (Nat → Int32) → Option (Int32 × (Nat → Int32) × (Nat → Int32))) (k26 : Int32 → Int32 → Int32 → Int32 → Int32 → (Nat → Int32) → (Nat → Int32) → Option (Int32 × (Nat → Int32) × (Nat → Int32))) (tc_wordCount : Int32) (tc_personCount : Int32) (now_words : Nat → Int32) (tc_prices : Nat → Int32) (tc_kinds : Nat → Int32) (tc_close : Nat → Int32) (v1 : Int32) (v2 : Int32) (v3 : Int32) (v4 : Int32) (v5 : Int32) (pairing_best : Nat → Int32) (purse_coins : Nat → Int32) : Option (Int32 × (Nat → Int32) × (Nat → Int32)) :=
  f_X4_leastCoins_55 k14 k26 tc_wordCount tc_personCount now_words tc_prices tc_kinds tc_close v1 v2 v3 v4 v5 0 pairing_best purse_coins
def f_X4_leastCoins_26 (k14 : Int32 → Int32 → Int32 → Int32 → (Nat → Int32) → (Nat → Int32) → Option (Int32 × (Nat → Int32) × (Nat → Int32))) (tc_wordCount : Int32) (tc_personCount : Int32) (now_words : Nat → Int32) (tc_prices : Nat → Int32) (tc_kinds : Nat → Int32) (tc_close : Nat → Int32) : Nat → Int32 → Int32 → Int32 → Int32 → Int32 → (Nat → Int32) → (Nat → Int32) → Option (Int32 × (Nat → Int32) × (Nat → Int32))
  | 0, _, _, _, _, _, _, _ => none
  | n + 1, v1, v2, v3, v4, v5, pairing_best, purse_coins =>
   if v3 ≤ v5 then
    k14 v1 v2 v3 (v4 + 1) pairing_best purse_coins
   else
    (f_X10_holds v1 v4).bind fun z35 =>
    if z35 = 0 then
     f_X4_leastCoins_54 k14 (f_X4_leastCoins_26 k14 tc_wordCount tc_personCount now_words tc_prices tc_kinds tc_close n) tc_wordCount tc_personCount now_words tc_prices tc_kinds tc_close v1 v2 v3 v4 v5 pairing_best purse_coins
    else
     (f_X10_holds v1 v5).bind fun z44 =>
     if z44 = 0 then
      f_X4_leastCoins_54 k14 (f_X4_leastCoins_26 k14 tc_wordCount tc_personCount now_words tc_prices tc_kinds tc_close n) tc_wordCount tc_personCount now_words tc_prices tc_kinds tc_close v1 v2 v3 v4 v5 pairing_best purse_coins
     else
      f_X4_leastCoins_55 k14 (f_X4_leastCoins_26 k14 tc_wordCount tc_personCount now_words tc_prices tc_kinds tc_close n) tc_wordCount tc_personCount now_words tc_prices tc_kinds tc_close v1 v2 v3 v4 v5 1 pairing_best purse_coins
def f_X4_leastCoins_14 (tc_wordCount : Int32) (tc_personCount : Int32) (now_words : Nat → Int32) (tc_prices : Nat → Int32) (tc_kinds : Nat → Int32) (tc_close : Nat → Int32) : Nat → Int32 → Int32 → Int32 → Int32 → (Nat → Int32) → (Nat → Int32) → Option (Int32 × (Nat → Int32) × (Nat → Int32))
  | 0, _, _, _, _, _, _ => none
  | n + 1, v1, v2, v3, v4, pairing_best, purse_coins =>
   if v3 ≤ v4 then
    (f_X3_leastCoins purse_coins pairing_best v1).bind fun z109 =>
    some (z109.1, z109.2, purse_coins)
   else
    f_X4_leastCoins_26 (f_X4_leastCoins_14 tc_wordCount tc_personCount now_words tc_prices tc_kinds tc_close n) tc_wordCount tc_personCount now_words tc_prices tc_kinds tc_close rf_fu v1 v2 v3 v4 (v4 + 1) pairing_best purse_coins
def f_X4_leastCoins (tc_wordCount : Int32) (tc_personCount : Int32) (now_words : Nat → Int32) (tc_prices : Nat → Int32) (tc_kinds : Nat → Int32) (tc_close : Nat → Int32) (pairing_best : Nat → Int32) (purse_coins : Nat → Int32) (v1 : Int32) (v2 : Int32) : Option (Int32 × (Nat → Int32) × (Nat → Int32)) :=
  f_X4_leastCoins_14 tc_wordCount tc_personCount now_words tc_prices tc_kinds tc_close rf_fu v1 v2 tc_personCount 0 pairing_best purse_coins
def f_X10_coins (now_everybody : Int32) (now_far : Int32) (tc_ear : Int32) (tc_wordCount : Int32) (tc_personCount : Int32) (now_words : Nat → Int32) (tc_prices : Nat → Int32) (tc_kinds : Nat → Int32) (tc_hourEars : Nat → Int32) (tc_close : Nat → Int32) (x_lastTrouble : Int32) (pairing_best : Nat → Int32) (purse_coins : Nat → Int32) (v1 : Int32) (v2 : Int32) : Option (Int32 × Int32 × (Nat → Int32) × (Nat → Int32)) :=
  (f_X10_isBank tc_personCount v1).bind fun z3 =>
  (f_X10_isHour v2).bind fun z8 =>
  (f_X10_refused x_lastTrouble z3 z8).bind fun z11 =>
  if z11.1 = 0 then
   (f_X2_onBank now_everybody now_far v1).bind fun z28 =>
   (f_X9_earAt tc_ear tc_hourEars v2).bind fun z36 =>
   (f_X4_leastCoins tc_wordCount tc_personCount now_words tc_prices tc_kinds tc_close pairing_best purse_coins z28 z36).bind fun z39 =>
   some (z39.1, z11.2, z39.2.1, z39.2.2)
  else
   some ((-1), z11.2, pairing_best, purse_coins)
def f_X3_canAll_62 (k25 : Int32 → Int32 → Int32 → Option (Int32)) (slf : Int32 → Option (Int32)) (purse_links : Nat → Int32) (v2 : Int32) (v3 : Int32) (v4 : Int32) : Option (Int32) :=
  k25 v2 v3 (v4 + 1)
def f_X3_canAll_25 (slf : Int32 → Option (Int32)) (purse_links : Nat → Int32) : Nat → Int32 → Int32 → Int32 → Option (Int32)
  | 0, _, _, _ => none
  | n + 1, v2, v3, v4 =>
   if 8 ≤ v4 then
    some 0
   else
    if rf_ib v2 8 = true then
    (f_X10_holds (v3 &&& (purse_links (Int32.toNatClampNeg v2))) v4).bind fun z39 =>
    if z39 = 0 then
     f_X3_canAll_62 (f_X3_canAll_25 slf purse_links n) slf purse_links v2 v3 v4
    else
     (slf (v3 &&& (((1 : Int32) <<< (v4 &&& 31)) ^^^ (-1)))).bind fun z54 =>
     if z54 = 0 then
      f_X3_canAll_62 (f_X3_canAll_25 slf purse_links n) slf purse_links v2 v3 v4
     else
      some 1
    else none
def f_X3_canAll (purse_links : Nat → Int32) : Nat → Int32 → Option (Int32)
  | 0, _ => none
  | d + 1, v1 =>
   (f_X3_leastOf v1).bind fun z1 =>
   if z1 = (-1) then
    some 1
   else
    f_X3_canAll_25 (f_X3_canAll purse_links d) purse_links rf_fu z1 (v1 &&& (((1 : Int32) <<< (z1 &&& 31)) ^^^ (-1))) (z1 + 1)
def f_X4_allPair_77 (k2 : Int32 → Int32 → (Nat → Int32) → Option (Int32 × (Nat → Int32))) (k33 : Int32 → Int32 → Int32 → (Nat → Int32) → Option (Int32 × (Nat → Int32))) (purse_people : Int32) (tc_wordCount : Int32) (tc_personCount : Int32) (rhymes_links : Nat → Int32) (purse_linksBy : Nat → Int32) (v1 : Int32) (v2 : Int32) (v3 : Int32) (s1 : Int32) (s2 : Int32) (s3 : Int32) (purse_links : Nat → Int32) : Option (Int32 × (Nat → Int32)) :=
  if rf_ib s1 8 = true then
  k33 v1 v2 (v3 + 1) (upd purse_links (Int32.toNatClampNeg s1) (s2 ||| s3))
  else none
def f_X4_allPair_33 (k2 : Int32 → Int32 → (Nat → Int32) → Option (Int32 × (Nat → Int32))) (purse_people : Int32) (tc_wordCount : Int32) (tc_personCount : Int32) (rhymes_links : Nat → Int32) (purse_linksBy : Nat → Int32) : Nat → Int32 → Int32 → Int32 → (Nat → Int32) → Option (Int32 × (Nat → Int32))
  | 0, _, _, _, _ => none
  | n + 1, v1, v2, v3, purse_links =>
   if tc_wordCount ≤ v3 then
    k2 v1 (v2 + 1) purse_links
   else
    if rf_ib v2 8 = true then
    (f_X10_holds v1 v3).bind fun z56 =>
    if z56 = 0 then
     f_X4_allPair_77 k2 (f_X4_allPair_33 k2 purse_people tc_wordCount tc_personCount rhymes_links purse_linksBy n) purse_people tc_wordCount tc_personCount rhymes_links purse_linksBy v1 v2 v3 v2 (purse_links (Int32.toNatClampNeg v2)) 0 purse_links
    else
     if rf_ib ((v3 * 8) + v2) 80 = true then
     f_X4_allPair_77 k2 (f_X4_allPair_33 k2 purse_people tc_wordCount tc_personCount rhymes_links purse_linksBy n) purse_people tc_wordCount tc_personCount rhymes_links purse_linksBy v1 v2 v3 v2 (purse_links (Int32.toNatClampNeg v2)) (purse_linksBy (Int32.toNatClampNeg ((v3 * 8) + v2))) purse_links
     else none
    else none
def f_X4_allPair_2 (purse_people : Int32) (tc_wordCount : Int32) (tc_personCount : Int32) (rhymes_links : Nat → Int32) (purse_linksBy : Nat → Int32) : Nat → Int32 → Int32 → (Nat → Int32) → Option (Int32 × (Nat → Int32))
  | 0, _, _, _ => none
  | n + 1, v1, v2, purse_links =>
   if tc_personCount ≤ v2 then
    (f_X3_canAll purse_links 12 purse_people).bind fun z99 =>
    if rf_zb z99 = true then
    some (z99, purse_links)
    else none
   else
    if rf_ib v2 8 = true then
    if rf_ib v2 8 = true then
    f_X4_allPair_33 (f_X4_allPair_2 purse_people tc_wordCount tc_personCount rhymes_links purse_linksBy n) purse_people tc_wordCount tc_personCount rhymes_links purse_linksBy rf_fu v1 v2 0 (upd purse_links (Int32.toNatClampNeg v2) (rhymes_links (Int32.toNatClampNeg v2)))
    else none
    else none
def f_X4_allPair (purse_people : Int32) (tc_wordCount : Int32) (tc_personCount : Int32) (rhymes_links : Nat → Int32) (purse_linksBy : Nat → Int32) (purse_links : Nat → Int32) (v1 : Int32) : Option (Int32 × (Nat → Int32)) :=
  f_X4_allPair_2 purse_people tc_wordCount tc_personCount rhymes_links purse_linksBy rf_fu v1 0 purse_links
def f_X4_allSing_37 (k4 : Int32 → Int32 → Int32 → Option (Int32)) (purse_people : Int32) (tc_wordCount : Int32) (purse_singers : Nat → Int32) (v1 : Int32) (v3 : Int32) (s0 : Int32) (s1 : Int32) : Option (Int32) :=
  k4 v1 (s0 ||| s1) (v3 + 1)
def f_X4_allSing_4 (purse_people : Int32) (tc_wordCount : Int32) (purse_singers : Nat → Int32) : Nat → Int32 → Int32 → Int32 → Option (Int32)
  | 0, _, _, _ => none
  | n + 1, v1, v2, v3 =>
   if tc_wordCount ≤ v3 then
    if (purse_people &&& (v2 ^^^ (-1))) = 0 then
     some 1
    else
     some 0
   else
    (f_X10_holds v1 v3).bind fun z21 =>
    if z21 = 0 then
     f_X4_allSing_37 (f_X4_allSing_4 purse_people tc_wordCount purse_singers n) purse_people tc_wordCount purse_singers v1 v3 v2 0
    else
     if rf_ib v3 10 = true then
     f_X4_allSing_37 (f_X4_allSing_4 purse_people tc_wordCount purse_singers n) purse_people tc_wordCount purse_singers v1 v3 v2 (purse_singers (Int32.toNatClampNeg v3))
     else none
def f_X4_allSing (purse_people : Int32) (tc_wordCount : Int32) (purse_singers : Nat → Int32) (v1 : Int32) : Option (Int32) :=
  f_X4_allSing_4 purse_people tc_wordCount purse_singers rf_fu v1 0 0
def f_X4_isEnough (purse_people : Int32) (tc_wordCount : Int32) (tc_personCount : Int32) (rhymes_links : Nat → Int32) (purse_singers : Nat → Int32) (purse_linksBy : Nat → Int32) (purse_links : Nat → Int32) (v1 : Int32) (v2 : Int32) : Option (Int32 × (Nat → Int32)) :=
  if v2 = 0 then
   (f_X4_allPair purse_people tc_wordCount tc_personCount rhymes_links purse_linksBy purse_links v1).bind fun z14 =>
   if rf_zb z14.1 = true then
   some (z14.1, z14.2)
   else none
  else
   (f_X4_allSing purse_people tc_wordCount purse_singers v1).bind fun z6 =>
   if rf_zb z6 = true then
   some (z6, purse_links)
   else none
def f_X4_fewest_70 (k32 : Int32 → Int32 → Int32 → Int32 → (Nat → Int32) → Option (Int32 × (Nat → Int32))) (k41 : Int32 → Int32 → Int32 → Int32 → Int32 → (Nat → Int32) → Option (Int32 × (Nat → Int32))) (purse_people : Int32) (tc_wordCount : Int32) (tc_personCount : Int32) (rhymes_links : Nat → Int32) (purse_singers : Nat → Int32) (purse_linksBy : Nat → Int32) (v1 : Int32) (v2 : Int32) (v3 : Int32) (v4 : Int32) (v5 : Int32) (purse_links : Nat → Int32) : Option (Int32 × (Nat → Int32)) :=
  k41 v1 v2 v3 v4 (v5 + 1) purse_links
def f_X4_fewest_41 (k32 : Int32 → Int32 → Int32 → Int32 → (Nat → Int32) → Option (Int32 × (Nat → Int32))) (purse_people : Int32) (tc_wordCount : Int32) (tc_personCount : Int32) (rhymes_links : Nat → Int32) (purse_singers : Nat → Int32) (purse_linksBy : Nat → Int32) : Nat → Int32 → Int32 → Int32 → Int32 → Int32 → (Nat → Int32) → Option (Int32 × (Nat → Int32))
  | 0, _, _, _, _, _, _ => none
  | n + 1, v1, v2, v3, v4, v5, purse_links =>
   if v3 ≤ v5 then
    k32 v1 v2 v3 (v4 + 1) purse_links
   else
    (f_J6_bitCount_0f7a4 v5).bind fun z49 =>
    if z49 = v4 then
     (f_X4_isEnough purse_people tc_wordCount tc_personCount rhymes_links purse_singers purse_linksBy purse_links v5 v1).bind fun z61 =>
     if z61.1 = 0 then
      f_X4_fewest_70 k32 (f_X4_fewest_41 k32 purse_people tc_wordCount tc_personCount rhymes_links purse_singers purse_linksBy n) purse_people tc_wordCount tc_personCount rhymes_links purse_singers purse_linksBy v1 v2 v3 v4 v5 z61.2
     else
      some (v5, z61.2)
    else
     f_X4_fewest_70 k32 (f_X4_fewest_41 k32 purse_people tc_wordCount tc_personCount rhymes_links purse_singers purse_linksBy n) purse_people tc_wordCount tc_personCount rhymes_links purse_singers purse_linksBy v1 v2 v3 v4 v5 purse_links
def f_X4_fewest_32 (purse_people : Int32) (tc_wordCount : Int32) (tc_personCount : Int32) (rhymes_links : Nat → Int32) (purse_singers : Nat → Int32) (purse_linksBy : Nat → Int32) : Nat → Int32 → Int32 → Int32 → Int32 → (Nat → Int32) → Option (Int32 × (Nat → Int32))
  | 0, _, _, _, _, _ => none
  | n + 1, v1, v2, v3, v4, purse_links =>
   if v2 ≤ v4 then
    some (v3, purse_links)
   else
    f_X4_fewest_41 (f_X4_fewest_32 purse_people tc_wordCount tc_personCount rhymes_links purse_singers purse_linksBy n) purse_people tc_wordCount tc_personCount rhymes_links purse_singers purse_linksBy rf_fu v1 v2 v3 v4 0 purse_links
def f_X4_fewest (purse_people : Int32) (tc_wordCount : Int32) (tc_personCount : Int32) (rhymes_links : Nat → Int32) (purse_singers : Nat → Int32) (purse_linksBy : Nat → Int32) (purse_links : Nat → Int32) (v1 : Int32) : Option (Int32 × (Nat → Int32)) :=
  (f_X4_isEnough purse_people tc_wordCount tc_personCount rhymes_links purse_singers purse_linksBy purse_links (((1 : Int32) <<< (tc_wordCount &&& 31)) - 1) v1).bind fun z20 =>
  if z20.1 = 0 then
   some ((-2), z20.2)
  else
   f_X4_fewest_32 purse_people tc_wordCount tc_personCount rhymes_links purse_singers purse_linksBy rf_fu v1 tc_wordCount (((1 : Int32) <<< (tc_wordCount &&& 31)) - 1) 0 z20.2
def f_X4_planPairs_32 (k15 : Int32 → Int32 → Int32 → (Nat → Int32) → (Nat → Int32) → Option (Int32 × (Nat → Int32) × (Nat → Int32))) (tc_wordCount : Int32) (tc_personCount : Int32) (now_words : Nat → Int32) (tc_kinds : Nat → Int32) (tc_close : Nat → Int32) : Nat → Int32 → Int32 → Int32 → Int32 → (Nat → Int32) → (Nat → Int32) → Option (Int32 × (Nat → Int32) × (Nat → Int32))
  | 0, _, _, _, _, _, _ => none
  | n + 1, v2, v3, v4, purse_people, rhymes_links, purse_linksBy =>
   if tc_personCount ≤ v4 then
    k15 v2 (v3 + 1) purse_people rhymes_links purse_linksBy
   else
    if rf_ib v4 8 = true then
    (f_X6_metBy tc_wordCount tc_personCount now_words tc_kinds tc_close v4 ((now_words (Int32.toNatClampNeg v4)) ||| ((1 : Int32) <<< (v3 &&& 31))) ((1 : Int32) <<< (v3 &&& 31)) v2).bind fun z89 =>
    if rf_ib ((v3 * 8) + v4) 80 = true then
    f_X4_planPairs_32 k15 tc_wordCount tc_personCount now_words tc_kinds tc_close n v2 v3 (v4 + 1) purse_people rhymes_links (upd purse_linksBy (Int32.toNatClampNeg ((v3 * 8) + v4)) z89)
    else none
    else none
def f_X4_planPairs_15 (tc_wordCount : Int32) (tc_personCount : Int32) (now_words : Nat → Int32) (tc_kinds : Nat → Int32) (tc_close : Nat → Int32) : Nat → Int32 → Int32 → Int32 → (Nat → Int32) → (Nat → Int32) → Option (Int32 × (Nat → Int32) × (Nat → Int32))
  | 0, _, _, _, _, _ => none
  | n + 1, v2, v3, purse_people, rhymes_links, purse_linksBy =>
   if tc_wordCount ≤ v3 then
    some (purse_people, rhymes_links, purse_linksBy)
   else
    f_X4_planPairs_32 (f_X4_planPairs_15 tc_wordCount tc_personCount now_words tc_kinds tc_close n) tc_wordCount tc_personCount now_words tc_kinds tc_close rf_fu v2 v3 0 purse_people rhymes_links purse_linksBy
def f_X4_planPairs (tc_wordCount : Int32) (tc_personCount : Int32) (now_words : Nat → Int32) (tc_kinds : Nat → Int32) (tc_close : Nat → Int32) (purse_people : Int32) (rhymes_links : Nat → Int32) (purse_linksBy : Nat → Int32) (v1 : Int32) (v2 : Int32) : Option (Int32 × (Nat → Int32) × (Nat → Int32)) :=
  (f_X6_link tc_wordCount tc_personCount now_words tc_kinds tc_close rhymes_links v2).bind fun z10 =>
  f_X4_planPairs_15 tc_wordCount tc_personCount now_words tc_kinds tc_close rf_fu v2 0 v1 z10 purse_linksBy
def f_X10_keep (now_everybody : Int32) (now_far : Int32) (tc_ear : Int32) (tc_wordCount : Int32) (tc_personCount : Int32) (now_words : Nat → Int32) (purse_singers : Nat → Int32) (tc_kinds : Nat → Int32) (tc_hourEars : Nat → Int32) (tc_close : Nat → Int32) (x_lastTrouble : Int32) (purse_people : Int32) (rhymes_links : Nat → Int32) (purse_links : Nat → Int32) (purse_linksBy : Nat → Int32) (v1 : Int32) (v2 : Int32) : Option (Int32 × Int32 × Int32 × (Nat → Int32) × (Nat → Int32) × (Nat → Int32)) :=
  (f_X10_isBank tc_personCount v1).bind fun z3 =>
  (f_X10_isHour v2).bind fun z8 =>
  (f_X10_refused x_lastTrouble z3 z8).bind fun z11 =>
  if z11.1 = 0 then
   (f_X2_onBank now_everybody now_far v1).bind fun z28 =>
   (f_X9_earAt tc_ear tc_hourEars v2).bind fun z36 =>
   (f_X4_planPairs tc_wordCount tc_personCount now_words tc_kinds tc_close purse_people rhymes_links purse_linksBy z28 z36).bind fun z39 =>
   (f_X4_fewest z39.1 tc_wordCount tc_personCount z39.2.1 purse_singers z39.2.2 purse_links 0).bind fun z47 =>
   some (z47.1, z11.2, z39.1, z39.2.1, z47.2, z39.2.2)
  else
   some ((-1), z11.2, purse_people, rhymes_links, purse_links, purse_linksBy)
def f_X4_planSinging_96 (k16 : Int32 → Int32 → Int32 → (Nat → Int32) → Option (Int32 × (Nat → Int32))) (k36 : Int32 → Int32 → Int32 → Int32 → (Nat → Int32) → Option (Int32 × (Nat → Int32))) (tc_wordCount : Int32) (tc_personCount : Int32) (now_words : Nat → Int32) (tc_kinds : Nat → Int32) (tc_close : Nat → Int32) (v2 : Int32) (v4 : Int32) (v5 : Int32) (purse_people : Int32) (purse_singers : Nat → Int32) : Option (Int32 × (Nat → Int32)) :=
  k36 v2 v4 (v5 + 1) purse_people purse_singers
def f_X4_planSinging_36 (k16 : Int32 → Int32 → Int32 → (Nat → Int32) → Option (Int32 × (Nat → Int32))) (tc_wordCount : Int32) (tc_personCount : Int32) (now_words : Nat → Int32) (tc_kinds : Nat → Int32) (tc_close : Nat → Int32) : Nat → Int32 → Int32 → Int32 → Int32 → (Nat → Int32) → Option (Int32 × (Nat → Int32))
  | 0, _, _, _, _, _ => none
  | n + 1, v2, v4, v5, purse_people, purse_singers =>
   if tc_personCount ≤ v5 then
    k16 v2 (v4 + 1) purse_people purse_singers
   else
    if rf_ib v5 8 = true then
    if rf_ib v5 8 = true then
    (f_X9_isFullRhyme tc_wordCount tc_close (tc_kinds (Int32.toNatClampNeg v5)) (now_words (Int32.toNatClampNeg v5)) 0 ((1 : Int32) <<< (v4 &&& 31)) v2).bind fun z76 =>
    if z76 = 0 then
     f_X4_planSinging_96 k16 (f_X4_planSinging_36 k16 tc_wordCount tc_personCount now_words tc_kinds tc_close n) tc_wordCount tc_personCount now_words tc_kinds tc_close v2 v4 v5 purse_people purse_singers
    else
     if rf_ib v4 10 = true then
     if rf_ib v4 10 = true then
     f_X4_planSinging_96 k16 (f_X4_planSinging_36 k16 tc_wordCount tc_personCount now_words tc_kinds tc_close n) tc_wordCount tc_personCount now_words tc_kinds tc_close v2 v4 v5 purse_people (upd purse_singers (Int32.toNatClampNeg v4) ((purse_singers (Int32.toNatClampNeg v4)) ||| ((1 : Int32) <<< (v5 &&& 31))))
     else none
     else none
    else none
    else none
def f_X4_planSinging_16 (tc_wordCount : Int32) (tc_personCount : Int32) (now_words : Nat → Int32) (tc_kinds : Nat → Int32) (tc_close : Nat → Int32) : Nat → Int32 → Int32 → Int32 → (Nat → Int32) → Option (Int32 × (Nat → Int32))
  | 0, _, _, _, _ => none
  | n + 1, v2, v4, purse_people, purse_singers =>
   if tc_wordCount ≤ v4 then
    some (purse_people, purse_singers)
   else
    if rf_ib v4 10 = true then
    f_X4_planSinging_36 (f_X4_planSinging_16 tc_wordCount tc_personCount now_words tc_kinds tc_close n) tc_wordCount tc_personCount now_words tc_kinds tc_close rf_fu v2 v4 0 purse_people (upd purse_singers (Int32.toNatClampNeg v4) 0)
    else none
def f_X4_planSinging (tc_wordCount : Int32) (tc_personCount : Int32) (now_words : Nat → Int32) (tc_kinds : Nat → Int32) (tc_close : Nat → Int32) (purse_people : Int32) (purse_singers : Nat → Int32) (v1 : Int32) (v2 : Int32) : Option (Int32 × (Nat → Int32)) :=
  f_X4_planSinging_16 tc_wordCount tc_personCount now_words tc_kinds tc_close rf_fu v2 0 v1 purse_singers
def f_X10_refrain (now_everybody : Int32) (now_far : Int32) (tc_ear : Int32) (tc_wordCount : Int32) (tc_personCount : Int32) (now_words : Nat → Int32) (rhymes_links : Nat → Int32) (tc_kinds : Nat → Int32) (tc_hourEars : Nat → Int32) (tc_close : Nat → Int32) (purse_linksBy : Nat → Int32) (x_lastTrouble : Int32) (purse_people : Int32) (purse_links : Nat → Int32) (purse_singers : Nat → Int32) (v1 : Int32) (v2 : Int32) : Option (Int32 × Int32 × Int32 × (Nat → Int32) × (Nat → Int32)) :=
  (f_X10_isBank tc_personCount v1).bind fun z3 =>
  (f_X10_isHour v2).bind fun z8 =>
  (f_X10_refused x_lastTrouble z3 z8).bind fun z11 =>
  if z11.1 = 0 then
   (f_X2_onBank now_everybody now_far v1).bind fun z28 =>
   (f_X9_earAt tc_ear tc_hourEars v2).bind fun z36 =>
   (f_X4_planSinging tc_wordCount tc_personCount now_words tc_kinds tc_close purse_people purse_singers z28 z36).bind fun z39 =>
   (f_X4_fewest z39.1 tc_wordCount tc_personCount rhymes_links z39.2 purse_linksBy purse_links 1).bind fun z47 =>
   some (z47.1, z11.2, z39.1, z47.2, z39.2)
  else
   some ((-1), z11.2, purse_people, purse_links, purse_singers)
def f_X1_ears_28 (k4 : Int32 → Int32 → Option (Int32)) (tc_wordCount : Int32) (tc_gotCount : Int32) (now_words : Nat → Int32) (tc_kinds : Nat → Int32) (tc_gotFirst : Nat → Int32) (tc_gotSecond : Nat → Int32) (tc_gotDegree : Nat → Int32) (tc_close : Nat → Int32) (v2 : Int32) (s0 : Int32) (s1 : Int32) : Option (Int32) :=
  k4 (s0 ||| s1) (v2 + 1)
def f_X1_ears_4 (tc_wordCount : Int32) (tc_gotCount : Int32) (now_words : Nat → Int32) (tc_kinds : Nat → Int32) (tc_gotFirst : Nat → Int32) (tc_gotSecond : Nat → Int32) (tc_gotDegree : Nat → Int32) (tc_close : Nat → Int32) : Nat → Int32 → Int32 → Option (Int32)
  | 0, _, _ => none
  | n + 1, v1, v2 =>
   if 6 < v2 then
    some v1
   else
    (f_X1_firstUntrue tc_wordCount tc_gotCount now_words tc_kinds tc_gotFirst tc_gotSecond tc_gotDegree tc_close v2).bind fun z13 =>
    if z13 = (-2) then
     f_X1_ears_28 (f_X1_ears_4 tc_wordCount tc_gotCount now_words tc_kinds tc_gotFirst tc_gotSecond tc_gotDegree tc_close n) tc_wordCount tc_gotCount now_words tc_kinds tc_gotFirst tc_gotSecond tc_gotDegree tc_close v2 v1 ((1 : Int32) <<< (v2 &&& 31))
    else
     f_X1_ears_28 (f_X1_ears_4 tc_wordCount tc_gotCount now_words tc_kinds tc_gotFirst tc_gotSecond tc_gotDegree tc_close n) tc_wordCount tc_gotCount now_words tc_kinds tc_gotFirst tc_gotSecond tc_gotDegree tc_close v2 v1 0
def f_X1_ears (tc_wordCount : Int32) (tc_gotCount : Int32) (now_words : Nat → Int32) (tc_kinds : Nat → Int32) (tc_gotFirst : Nat → Int32) (tc_gotSecond : Nat → Int32) (tc_gotDegree : Nat → Int32) (tc_close : Nat → Int32) : Option (Int32) :=
  f_X1_ears_4 tc_wordCount tc_gotCount now_words tc_kinds tc_gotFirst tc_gotSecond tc_gotDegree tc_close rf_fu 0 1
def f_X10_heard (tc_wordCount : Int32) (tc_personCount : Int32) (tc_gotCount : Int32) (now_words : Nat → Int32) (tc_kinds : Nat → Int32) (tc_gotFirst : Nat → Int32) (tc_gotSecond : Nat → Int32) (tc_gotDegree : Nat → Int32) (tc_close : Nat → Int32) (x_lastTrouble : Int32) : Option (Int32 × Int32) :=
  (f_X10_hasFerry tc_personCount).bind fun z2 =>
  (f_X10_refused x_lastTrouble z2 1).bind fun z6 =>
  if z6.1 = 0 then
   (f_X1_ears tc_wordCount tc_gotCount now_words tc_kinds tc_gotFirst tc_gotSecond tc_gotDegree tc_close).bind fun z18 =>
   (f_J6_bitCount_0f7a4 z18).bind fun z21 =>
   some (z21, z6.2)
  else
   some ((-1), z6.2)
def f_X1_endOf_35 (k6 : Int32 → Int32 → Int32 → Int32 → Option (Int32)) (v1 : Int32) (v2 : Int32) (v3 : Int32) (v4 : Int32) : Option (Int32) :=
  k6 v1 v2 v3 (v4 + 1)
def f_X1_endOf_32 (k6 : Int32 → Int32 → Int32 → Int32 → Option (Int32)) (v1 : Int32) (v2 : Int32) (v4 : Int32) : Option (Int32) :=
  f_X1_endOf_35 k6 v1 v2 v4 v4
def f_X1_endOf_6 : Nat → Int32 → Int32 → Int32 → Int32 → Option (Int32)
  | 0, _, _, _, _ => none
  | n + 1, v1, v2, v3, v4 =>
   if 6 < v4 then
    some v3
   else
    (f_X10_holds v1 v4).bind fun z16 =>
    if z16 = 0 then
     f_X1_endOf_35 (f_X1_endOf_6 n) v1 v2 v3 v4
    else
     if v2 = 0 then
      if v3 = (-2) then
       f_X1_endOf_32 (f_X1_endOf_6 n) v1 v2 v4
      else
       f_X1_endOf_35 (f_X1_endOf_6 n) v1 v2 v3 v4
     else
      f_X1_endOf_32 (f_X1_endOf_6 n) v1 v2 v4
def f_X1_endOf (v1 : Int32) (v2 : Int32) : Option (Int32) :=
  f_X1_endOf_6 rf_fu v1 v2 (-2) 1
def f_X10_heardEar (tc_wordCount : Int32) (tc_personCount : Int32) (tc_gotCount : Int32) (now_words : Nat → Int32) (tc_kinds : Nat → Int32) (tc_gotFirst : Nat → Int32) (tc_gotSecond : Nat → Int32) (tc_gotDegree : Nat → Int32) (tc_close : Nat → Int32) (x_lastTrouble : Int32) (v1 : Int32) : Option (Int32 × Int32) :=
  (f_X10_hasFerry tc_personCount).bind fun z2 =>
  (f_X10_refused x_lastTrouble z2 1).bind fun z6 =>
  if z6.1 = 0 then
   (f_X1_ears tc_wordCount tc_gotCount now_words tc_kinds tc_gotFirst tc_gotSecond tc_gotDegree tc_close).bind fun z22 =>
   (f_X1_endOf z22 v1).bind fun z26 =>
   some (z26, z6.2)
  else
   some ((-1), z6.2)
def f_X1_mostLeft_47 (k11 : Int32 → Int32 → Int32 → Int32 → (Nat → Int32) → Option (Int32 × (Nat → Int32))) (tc_wordCount : Int32) (now_words : Nat → Int32) (tc_kinds : Nat → Int32) (tc_close : Nat → Int32) (v1 : Int32) (v2 : Int32) (v3 : Int32) (v4 : Int32) (hearing_left : Nat → Int32) : Option (Int32 × (Nat → Int32)) :=
  k11 v1 v2 v3 (v4 + 1) hearing_left
def f_X1_mostLeft_11 (tc_wordCount : Int32) (now_words : Nat → Int32) (tc_kinds : Nat → Int32) (tc_close : Nat → Int32) : Nat → Int32 → Int32 → Int32 → Int32 → (Nat → Int32) → Option (Int32 × (Nat → Int32))
  | 0, _, _, _, _, _ => none
  | n + 1, v1, v2, v3, v4, hearing_left =>
   if 6 < v4 then
    some ((if (hearing_left (Int32.toNatClampNeg 0)) < (if (hearing_left (Int32.toNatClampNeg 1)) < (hearing_left (Int32.toNatClampNeg 2)) then (hearing_left (Int32.toNatClampNeg 2)) else (hearing_left (Int32.toNatClampNeg 1))) then (if (hearing_left (Int32.toNatClampNeg 1)) < (hearing_left (Int32.toNatClampNeg 2)) then (hearing_left (Int32.toNatClampNeg 2)) else (hearing_left (Int32.toNatClampNeg 1))) else (hearing_left (Int32.toNatClampNeg 0))), hearing_left)
   else
    (f_X10_holds v3 v4).bind fun z21 =>
    if z21 = 0 then
     f_X1_mostLeft_47 (f_X1_mostLeft_11 tc_wordCount now_words tc_kinds tc_close n) tc_wordCount now_words tc_kinds tc_close v1 v2 v3 v4 hearing_left
    else
     (f_X6_degree tc_wordCount now_words tc_kinds tc_close v1 v2 v4).bind fun z39 =>
     if rf_ib z39 3 = true then
     if rf_ib z39 3 = true then
     f_X1_mostLeft_47 (f_X1_mostLeft_11 tc_wordCount now_words tc_kinds tc_close n) tc_wordCount now_words tc_kinds tc_close v1 v2 v3 v4 (upd hearing_left (Int32.toNatClampNeg z39) ((hearing_left (Int32.toNatClampNeg z39)) + 1))
     else none
     else none
def f_X1_mostLeft (tc_wordCount : Int32) (now_words : Nat → Int32) (tc_kinds : Nat → Int32) (tc_close : Nat → Int32) (hearing_left : Nat → Int32) (v1 : Int32) (v2 : Int32) (v3 : Int32) : Option (Int32 × (Nat → Int32)) :=
  f_X1_mostLeft_11 tc_wordCount now_words tc_kinds tc_close rf_fu v1 v2 v3 1 (rf_fill 3 0 hearing_left)
def f_X1_seekQuestion_94 (k33 : Int32 → Int32 → Int32 → Int32 → Int32 → (Nat → Int32) → Option (Int32 × Int32 × (Nat → Int32))) (k43 : Int32 → Int32 → Int32 → Int32 → Int32 → Int32 → (Nat → Int32) → Option (Int32 × Int32 × (Nat → Int32))) (tc_wordCount : Int32) (tc_personCount : Int32) (now_words : Nat → Int32) (tc_kinds : Nat → Int32) (tc_close : Nat → Int32) (v1 : Int32) (v2 : Int32) (v3 : Int32) (v4 : Int32) (hearing_question : Int32) (hearing_leaves : Int32) (hearing_left : Nat → Int32) : Option (Int32 × Int32 × (Nat → Int32)) :=
  k43 v1 v2 v3 (v4 + 1) hearing_question hearing_leaves hearing_left
def f_X1_seekQuestion_77 (k33 : Int32 → Int32 → Int32 → Int32 → Int32 → (Nat → Int32) → Option (Int32 × Int32 × (Nat → Int32))) (k43 : Int32 → Int32 → Int32 → Int32 → Int32 → Int32 → (Nat → Int32) → Option (Int32 × Int32 × (Nat → Int32))) (tc_wordCount : Int32) (tc_personCount : Int32) (now_words : Nat → Int32) (tc_kinds : Nat → Int32) (tc_close : Nat → Int32) (v1 : Int32) (v2 : Int32) (v3 : Int32) (v4 : Int32) (v5 : Int32) (hearing_question : Int32) (hearing_leaves : Int32) (hearing_left : Nat → Int32) : Option (Int32 × Int32 × (Nat → Int32)) :=
  f_X1_seekQuestion_94 k33 k43 tc_wordCount tc_personCount now_words tc_kinds tc_close v1 v2 v3 v4 (((10 : Int32) * v3) + v4) v5 hearing_left
def f_X1_seekQuestion_43 (k33 : Int32 → Int32 → Int32 → Int32 → Int32 → (Nat → Int32) → Option (Int32 × Int32 × (Nat → Int32))) (tc_wordCount : Int32) (tc_personCount : Int32) (now_words : Nat → Int32) (tc_kinds : Nat → Int32) (tc_close : Nat → Int32) : Nat → Int32 → Int32 → Int32 → Int32 → Int32 → Int32 → (Nat → Int32) → Option (Int32 × Int32 × (Nat → Int32))
  | 0, _, _, _, _, _, _, _ => none
  | n + 1, v1, v2, v3, v4, hearing_question, hearing_leaves, hearing_left =>
   if v2 ≤ v4 then
    k33 v1 v2 (v3 + 1) hearing_question hearing_leaves hearing_left
   else
    (f_X1_mostLeft tc_wordCount now_words tc_kinds tc_close hearing_left v3 v4 v1).bind fun z54 =>
    if hearing_leaves = (-2) then
     f_X1_seekQuestion_77 k33 (f_X1_seekQuestion_43 k33 tc_wordCount tc_personCount now_words tc_kinds tc_close n) tc_wordCount tc_personCount now_words tc_kinds tc_close v1 v2 v3 v4 z54.1 hearing_question hearing_leaves z54.2
    else
     if hearing_leaves ≤ z54.1 then
      f_X1_seekQuestion_94 k33 (f_X1_seekQuestion_43 k33 tc_wordCount tc_personCount now_words tc_kinds tc_close n) tc_wordCount tc_personCount now_words tc_kinds tc_close v1 v2 v3 v4 hearing_question hearing_leaves z54.2
     else
      f_X1_seekQuestion_77 k33 (f_X1_seekQuestion_43 k33 tc_wordCount tc_personCount now_words tc_kinds tc_close n) tc_wordCount tc_personCount now_words tc_kinds tc_close v1 v2 v3 v4 z54.1 hearing_question hearing_leaves z54.2
def f_X1_seekQuestion_33 (tc_wordCount : Int32) (tc_personCount : Int32) (now_words : Nat → Int32) (tc_kinds : Nat → Int32) (tc_close : Nat → Int32) : Nat → Int32 → Int32 → Int32 → Int32 → Int32 → (Nat → Int32) → Option (Int32 × Int32 × (Nat → Int32))
  | 0, _, _, _, _, _, _ => none
  | n + 1, v1, v2, v3, hearing_question, hearing_leaves, hearing_left =>
   if v2 ≤ v3 then
    some (hearing_question, hearing_leaves, hearing_left)
   else
    f_X1_seekQuestion_43 (f_X1_seekQuestion_33 tc_wordCount tc_personCount now_words tc_kinds tc_close n) tc_wordCount tc_personCount now_words tc_kinds tc_close rf_fu v1 v2 v3 (v3 + 1) hearing_question hearing_leaves hearing_left
def f_X1_seekQuestion_30 (tc_wordCount : Int32) (tc_personCount : Int32) (now_words : Nat → Int32) (tc_kinds : Nat → Int32) (tc_close : Nat → Int32) (v1 : Int32) (s0 : Int32) (hearing_question : Int32) (hearing_leaves : Int32) (hearing_left : Nat → Int32) : Option (Int32 × Int32 × (Nat → Int32)) :=
  f_X1_seekQuestion_33 tc_wordCount tc_personCount now_words tc_kinds tc_close rf_fu v1 s0 0 hearing_question hearing_leaves hearing_left
def f_X1_seekQuestion (tc_wordCount : Int32) (tc_personCount : Int32) (now_words : Nat → Int32) (tc_kinds : Nat → Int32) (tc_close : Nat → Int32) (hearing_question : Int32) (hearing_leaves : Int32) (hearing_left : Nat → Int32) (v1 : Int32) : Option (Int32 × Int32 × (Nat → Int32)) :=
  if v1 = 0 then
   f_X1_seekQuestion_30 tc_wordCount tc_personCount now_words tc_kinds tc_close v1 0 (-2) (-2) hearing_left
  else
   f_X1_seekQuestion_30 tc_wordCount tc_personCount now_words tc_kinds tc_close v1 tc_personCount (-2) (-2) hearing_left
def f_X10_ask (tc_wordCount : Int32) (tc_personCount : Int32) (tc_gotCount : Int32) (now_words : Nat → Int32) (tc_kinds : Nat → Int32) (tc_gotFirst : Nat → Int32) (tc_gotSecond : Nat → Int32) (tc_gotDegree : Nat → Int32) (tc_close : Nat → Int32) (x_lastTrouble : Int32) (hearing_question : Int32) (hearing_leaves : Int32) (hearing_left : Nat → Int32) : Option (Int32 × Int32 × Int32 × Int32 × (Nat → Int32)) :=
  (f_X10_hasFerry tc_personCount).bind fun z2 =>
  (f_X10_refused x_lastTrouble z2 1).bind fun z6 =>
  if z6.1 = 0 then
   (f_X1_ears tc_wordCount tc_gotCount now_words tc_kinds tc_gotFirst tc_gotSecond tc_gotDegree tc_close).bind fun z22 =>
   (f_X1_seekQuestion tc_wordCount tc_personCount now_words tc_kinds tc_close hearing_question hearing_leaves hearing_left z22).bind fun z25 =>
   some (z25.1, z6.2, z25.1, z25.2.1, z25.2.2)
  else
   some ((-1), z6.2, hearing_question, hearing_leaves, hearing_left)
def f_X10_askLeaves (tc_wordCount : Int32) (tc_personCount : Int32) (tc_gotCount : Int32) (now_words : Nat → Int32) (tc_kinds : Nat → Int32) (tc_gotFirst : Nat → Int32) (tc_gotSecond : Nat → Int32) (tc_gotDegree : Nat → Int32) (tc_close : Nat → Int32) (x_lastTrouble : Int32) (hearing_question : Int32) (hearing_leaves : Int32) (hearing_left : Nat → Int32) : Option (Int32 × Int32 × Int32 × Int32 × (Nat → Int32)) :=
  (f_X10_hasFerry tc_personCount).bind fun z2 =>
  (f_X10_refused x_lastTrouble z2 1).bind fun z6 =>
  if z6.1 = 0 then
   (f_X1_ears tc_wordCount tc_gotCount now_words tc_kinds tc_gotFirst tc_gotSecond tc_gotDegree tc_close).bind fun z22 =>
   (f_X1_seekQuestion tc_wordCount tc_personCount now_words tc_kinds tc_close hearing_question hearing_leaves hearing_left z22).bind fun z25 =>
   some (z25.2.1, z6.2, z25.1, z25.2.1, z25.2.2)
  else
   some ((-1), z6.2, hearing_question, hearing_leaves, hearing_left)
def f_X10_isPrice_14 : Option (Int32) :=
  some 0
def f_X10_isPrice (v1 : Int32) : Option (Int32) :=
  if v1 < 0 then
   f_X10_isPrice_14
  else
   if 10 ≤ v1 then
    f_X10_isPrice_14
   else
    some 1
def f_X10_isTwoWords_25 (tc_wordCount : Int32) : Option (Int32) :=
  some 0
def f_X10_isTwoWords (tc_wordCount : Int32) (v1 : Int32) (v2 : Int32) : Option (Int32) :=
  (f_X10_isWord tc_wordCount v1).bind fun z2 =>
  if z2 = 0 then
   f_X10_isTwoWords_25 tc_wordCount
  else
   (f_X10_isWord tc_wordCount v2).bind fun z10 =>
   if z10 = 0 then
    f_X10_isTwoWords_25 tc_wordCount
   else
    if v1 = v2 then
     f_X10_isTwoWords_25 tc_wordCount
    else
     some 1
def f_X7_countBuyers_188 (k43 : Int32 → Int32 → Int32 → Int32 → Int32 → Int32 → Int32 → Int32 → Int32 → Option (Int32 × Int32 × Int32)) (now_everybody : Int32) (now_far : Int32) (tc_wordCount : Int32) (tc_personCount : Int32) (now_words : Nat → Int32) (tc_kinds : Nat → Int32) (tc_close : Nat → Int32) (v1 : Int32) (v2 : Int32) (v3 : Int32) (v4 : Int32) (v5 : Int32) (v6 : Int32) (sellers_firstsOwn : Int32) (sellers_secondsOwn : Int32) (sellers_shared : Int32) : Option (Int32 × Int32 × Int32) :=
  k43 v1 v2 v3 v4 v5 (v6 + 1) sellers_firstsOwn sellers_secondsOwn sellers_shared
def f_X7_countBuyers_184 (k43 : Int32 → Int32 → Int32 → Int32 → Int32 → Int32 → Int32 → Int32 → Int32 → Option (Int32 × Int32 × Int32)) (now_everybody : Int32) (now_far : Int32) (tc_wordCount : Int32) (tc_personCount : Int32) (now_words : Nat → Int32) (tc_kinds : Nat → Int32) (tc_close : Nat → Int32) (v1 : Int32) (v2 : Int32) (v3 : Int32) (v4 : Int32) (v5 : Int32) (v6 : Int32) (s1 : Int32) (s2 : Int32) (sellers_firstsOwn : Int32) (sellers_secondsOwn : Int32) (sellers_shared : Int32) : Option (Int32 × Int32 × Int32) :=
  f_X7_countBuyers_188 k43 now_everybody now_far tc_wordCount tc_personCount now_words tc_kinds tc_close v1 v2 v3 v4 v5 v6 sellers_firstsOwn sellers_secondsOwn (s1 + s2)
def f_X7_countBuyers_183 (k43 : Int32 → Int32 → Int32 → Int32 → Int32 → Int32 → Int32 → Int32 → Int32 → Option (Int32 × Int32 × Int32)) (now_everybody : Int32) (now_far : Int32) (tc_wordCount : Int32) (tc_personCount : Int32) (now_words : Nat → Int32) (tc_kinds : Nat → Int32) (tc_close : Nat → Int32) (v1 : Int32) (v2 : Int32) (v3 : Int32) (v4 : Int32) (v5 : Int32) (v6 : Int32) (s1 : Int32) (sellers_firstsOwn : Int32) (sellers_secondsOwn : Int32) (sellers_shared : Int32) : Option (Int32 × Int32 × Int32) :=
  f_X7_countBuyers_184 k43 now_everybody now_far tc_wordCount tc_personCount now_words tc_kinds tc_close v1 v2 v3 v4 v5 v6 s1 0 sellers_firstsOwn sellers_secondsOwn sellers_shared
def f_X7_countBuyers_160 (k43 : Int32 → Int32 → Int32 → Int32 → Int32 → Int32 → Int32 → Int32 → Int32 → Option (Int32 × Int32 × Int32)) (now_everybody : Int32) (now_far : Int32) (tc_wordCount : Int32) (tc_personCount : Int32) (now_words : Nat → Int32) (tc_kinds : Nat → Int32) (tc_close : Nat → Int32) (v1 : Int32) (v2 : Int32) (v3 : Int32) (v4 : Int32) (v5 : Int32) (v6 : Int32) (v7 : Int32) (v8 : Int32) (s1 : Int32) (s2 : Int32) (sellers_firstsOwn : Int32) (sellers_secondsOwn : Int32) (sellers_shared : Int32) : Option (Int32 × Int32 × Int32) :=
  if v7 = 0 then
   f_X7_countBuyers_183 k43 now_everybody now_far tc_wordCount tc_personCount now_words tc_kinds tc_close v1 v2 v3 v4 v5 v6 sellers_shared sellers_firstsOwn (s1 + s2) sellers_shared
  else
   if v8 = 0 then
    f_X7_countBuyers_183 k43 now_everybody now_far tc_wordCount tc_personCount now_words tc_kinds tc_close v1 v2 v3 v4 v5 v6 sellers_shared sellers_firstsOwn (s1 + s2) sellers_shared
   else
    f_X7_countBuyers_184 k43 now_everybody now_far tc_wordCount tc_personCount now_words tc_kinds tc_close v1 v2 v3 v4 v5 v6 sellers_shared 1 sellers_firstsOwn (s1 + s2) sellers_shared
def f_X7_countBuyers_159 (k43 : Int32 → Int32 → Int32 → Int32 → Int32 → Int32 → Int32 → Int32 → Int32 → Option (Int32 × Int32 × Int32)) (now_everybody : Int32) (now_far : Int32) (tc_wordCount : Int32) (tc_personCount : Int32) (now_words : Nat → Int32) (tc_kinds : Nat → Int32) (tc_close : Nat → Int32) (v1 : Int32) (v2 : Int32) (v3 : Int32) (v4 : Int32) (v5 : Int32) (v6 : Int32) (v7 : Int32) (v8 : Int32) (s1 : Int32) (sellers_firstsOwn : Int32) (sellers_secondsOwn : Int32) (sellers_shared : Int32) : Option (Int32 × Int32 × Int32) :=
  f_X7_countBuyers_160 k43 now_everybody now_far tc_wordCount tc_personCount now_words tc_kinds tc_close v1 v2 v3 v4 v5 v6 v7 v8 s1 0 sellers_firstsOwn sellers_secondsOwn sellers_shared
def f_X7_countBuyers_136 (k43 : Int32 → Int32 → Int32 → Int32 → Int32 → Int32 → Int32 → Int32 → Int32 → Option (Int32 × Int32 × Int32)) (now_everybody : Int32) (now_far : Int32) (tc_wordCount : Int32) (tc_personCount : Int32) (now_words : Nat → Int32) (tc_kinds : Nat → Int32) (tc_close : Nat → Int32) (v1 : Int32) (v2 : Int32) (v3 : Int32) (v4 : Int32) (v5 : Int32) (v6 : Int32) (v7 : Int32) (v8 : Int32) (s1 : Int32) (s2 : Int32) (sellers_firstsOwn : Int32) (sellers_secondsOwn : Int32) (sellers_shared : Int32) : Option (Int32 × Int32 × Int32) :=
  if v8 = 0 then
   f_X7_countBuyers_159 k43 now_everybody now_far tc_wordCount tc_personCount now_words tc_kinds tc_close v1 v2 v3 v4 v5 v6 v7 v8 sellers_secondsOwn (s1 + s2) sellers_secondsOwn sellers_shared
  else
   if v7 = 0 then
    f_X7_countBuyers_160 k43 now_everybody now_far tc_wordCount tc_personCount now_words tc_kinds tc_close v1 v2 v3 v4 v5 v6 v7 v8 sellers_secondsOwn 1 (s1 + s2) sellers_secondsOwn sellers_shared
   else
    f_X7_countBuyers_159 k43 now_everybody now_far tc_wordCount tc_personCount now_words tc_kinds tc_close v1 v2 v3 v4 v5 v6 v7 v8 sellers_secondsOwn (s1 + s2) sellers_secondsOwn sellers_shared
def f_X7_countBuyers_135 (k43 : Int32 → Int32 → Int32 → Int32 → Int32 → Int32 → Int32 → Int32 → Int32 → Option (Int32 × Int32 × Int32)) (now_everybody : Int32) (now_far : Int32) (tc_wordCount : Int32) (tc_personCount : Int32) (now_words : Nat → Int32) (tc_kinds : Nat → Int32) (tc_close : Nat → Int32) (v1 : Int32) (v2 : Int32) (v3 : Int32) (v4 : Int32) (v5 : Int32) (v6 : Int32) (v7 : Int32) (v8 : Int32) (s1 : Int32) (sellers_firstsOwn : Int32) (sellers_secondsOwn : Int32) (sellers_shared : Int32) : Option (Int32 × Int32 × Int32) :=
  f_X7_countBuyers_136 k43 now_everybody now_far tc_wordCount tc_personCount now_words tc_kinds tc_close v1 v2 v3 v4 v5 v6 v7 v8 s1 0 sellers_firstsOwn sellers_secondsOwn sellers_shared
def f_X7_countBuyers_114 (k43 : Int32 → Int32 → Int32 → Int32 → Int32 → Int32 → Int32 → Int32 → Int32 → Option (Int32 × Int32 × Int32)) (now_everybody : Int32) (now_far : Int32) (tc_wordCount : Int32) (tc_personCount : Int32) (now_words : Nat → Int32) (tc_kinds : Nat → Int32) (tc_close : Nat → Int32) (v1 : Int32) (v2 : Int32) (v3 : Int32) (v4 : Int32) (v5 : Int32) (v6 : Int32) (v7 : Int32) (s0 : Int32) (sellers_firstsOwn : Int32) (sellers_secondsOwn : Int32) (sellers_shared : Int32) : Option (Int32 × Int32 × Int32) :=
  if v7 = 0 then
   f_X7_countBuyers_135 k43 now_everybody now_far tc_wordCount tc_personCount now_words tc_kinds tc_close v1 v2 v3 v4 v5 v6 v7 s0 sellers_firstsOwn sellers_firstsOwn sellers_secondsOwn sellers_shared
  else
   if s0 = 0 then
    f_X7_countBuyers_136 k43 now_everybody now_far tc_wordCount tc_personCount now_words tc_kinds tc_close v1 v2 v3 v4 v5 v6 v7 s0 sellers_firstsOwn 1 sellers_firstsOwn sellers_secondsOwn sellers_shared
   else
    f_X7_countBuyers_135 k43 now_everybody now_far tc_wordCount tc_personCount now_words tc_kinds tc_close v1 v2 v3 v4 v5 v6 v7 s0 sellers_firstsOwn sellers_firstsOwn sellers_secondsOwn sellers_shared
def f_X7_countBuyers_90 (k43 : Int32 → Int32 → Int32 → Int32 → Int32 → Int32 → Int32 → Int32 → Int32 → Option (Int32 × Int32 × Int32)) (now_everybody : Int32) (now_far : Int32) (tc_wordCount : Int32) (tc_personCount : Int32) (now_words : Nat → Int32) (tc_kinds : Nat → Int32) (tc_close : Nat → Int32) (v1 : Int32) (v2 : Int32) (v3 : Int32) (v4 : Int32) (v5 : Int32) (v6 : Int32) (s0 : Int32) (sellers_firstsOwn : Int32) (sellers_secondsOwn : Int32) (sellers_shared : Int32) : Option (Int32 × Int32 × Int32) :=
  (f_X6_metHaving tc_wordCount tc_personCount now_words tc_kinds tc_close v6 v2 v3).bind fun z100 =>
  if (z100 &&& v4) = 0 then
   f_X7_countBuyers_114 k43 now_everybody now_far tc_wordCount tc_personCount now_words tc_kinds tc_close v1 v2 v3 v4 v5 v6 s0 0 sellers_firstsOwn sellers_secondsOwn sellers_shared
  else
   f_X7_countBuyers_114 k43 now_everybody now_far tc_wordCount tc_personCount now_words tc_kinds tc_close v1 v2 v3 v4 v5 v6 s0 1 sellers_firstsOwn sellers_secondsOwn sellers_shared
def f_X7_countBuyers_43 (now_everybody : Int32) (now_far : Int32) (tc_wordCount : Int32) (tc_personCount : Int32) (now_words : Nat → Int32) (tc_kinds : Nat → Int32) (tc_close : Nat → Int32) : Nat → Int32 → Int32 → Int32 → Int32 → Int32 → Int32 → Int32 → Int32 → Int32 → Option (Int32 × Int32 × Int32)
  | 0, _, _, _, _, _, _, _, _, _ => none
  | n + 1, v1, v2, v3, v4, v5, v6, sellers_firstsOwn, sellers_secondsOwn, sellers_shared =>
   if tc_personCount ≤ v6 then
    some (sellers_firstsOwn, sellers_secondsOwn, sellers_shared)
   else
    (f_X10_holds v5 v6).bind fun z62 =>
    if z62 = 0 then
     f_X7_countBuyers_188 (f_X7_countBuyers_43 now_everybody now_far tc_wordCount tc_personCount now_words tc_kinds tc_close n) now_everybody now_far tc_wordCount tc_personCount now_words tc_kinds tc_close v1 v2 v3 v4 v5 v6 sellers_firstsOwn sellers_secondsOwn sellers_shared
    else
     (f_X6_metHaving tc_wordCount tc_personCount now_words tc_kinds tc_close v6 v1 v3).bind fun z76 =>
     if (z76 &&& v4) = 0 then
      f_X7_countBuyers_90 (f_X7_countBuyers_43 now_everybody now_far tc_wordCount tc_personCount now_words tc_kinds tc_close n) now_everybody now_far tc_wordCount tc_personCount now_words tc_kinds tc_close v1 v2 v3 v4 v5 v6 0 sellers_firstsOwn sellers_secondsOwn sellers_shared
     else
      f_X7_countBuyers_90 (f_X7_countBuyers_43 now_everybody now_far tc_wordCount tc_personCount now_words tc_kinds tc_close n) now_everybody now_far tc_wordCount tc_personCount now_words tc_kinds tc_close v1 v2 v3 v4 v5 v6 1 sellers_firstsOwn sellers_secondsOwn sellers_shared
def f_X7_countBuyers (now_everybody : Int32) (now_far : Int32) (tc_wordCount : Int32) (tc_personCount : Int32) (now_words : Nat → Int32) (tc_kinds : Nat → Int32) (tc_close : Nat → Int32) (sellers_firstsOwn : Int32) (sellers_secondsOwn : Int32) (sellers_shared : Int32) (v1 : Int32) (v2 : Int32) (v3 : Int32) : Option (Int32 × Int32 × Int32) :=
  (f_X2_onBank now_everybody now_far 0).bind fun z23 =>
  (f_X6_lonely tc_wordCount tc_personCount now_words tc_kinds tc_close z23 v3).bind fun z35 =>
  f_X7_countBuyers_43 now_everybody now_far tc_wordCount tc_personCount now_words tc_kinds tc_close rf_fu v1 v2 v3 z23 z35 0 0 0 0
def f_X7_firstHas_18 (sellers_firstsOwn : Int32) (sellers_shared : Int32) (s0 : Int32) (s1 : Int32) (s2 : Int32) : Option (Int32) :=
  some (s0 * (s1 + s2))
def f_X7_firstHas (sellers_firstsOwn : Int32) (sellers_shared : Int32) (v1 : Int32) (v2 : Int32) : Option (Int32) :=
  if v2 < v1 then
   f_X7_firstHas_18 sellers_firstsOwn sellers_shared v1 sellers_firstsOwn 0
  else
   f_X7_firstHas_18 sellers_firstsOwn sellers_shared v1 sellers_firstsOwn sellers_shared
def f_X7_secondHas_18 (sellers_secondsOwn : Int32) (sellers_shared : Int32) (s0 : Int32) (s1 : Int32) (s2 : Int32) : Option (Int32) :=
  some (s0 * (s1 + s2))
def f_X7_secondHas (sellers_secondsOwn : Int32) (sellers_shared : Int32) (v1 : Int32) (v2 : Int32) : Option (Int32) :=
  if v1 ≤ v2 then
   f_X7_secondHas_18 sellers_secondsOwn sellers_shared v2 sellers_secondsOwn 0
  else
   f_X7_secondHas_18 sellers_secondsOwn sellers_shared v2 sellers_secondsOwn sellers_shared
def f_X10_sells_38 (now_everybody : Int32) (now_far : Int32) (tc_ear : Int32) (tc_wordCount : Int32) (tc_personCount : Int32) (now_words : Nat → Int32) (tc_kinds : Nat → Int32) (tc_hourEars : Nat → Int32) (tc_close : Nat → Int32) (v1 : Int32) (v2 : Int32) (v3 : Int32) (v4 : Int32) (v5 : Int32) (v6 : Int32) (s1 : Int32) (s2 : Int32) (x_lastTrouble : Int32) (sellers_firstsOwn : Int32) (sellers_secondsOwn : Int32) (sellers_shared : Int32) : Option (Int32 × Int32 × Int32 × Int32 × Int32) :=
  (f_X10_refused x_lastTrouble s1 s2).bind fun z38 =>
  if z38.1 = 0 then
   (f_X9_earAt tc_ear tc_hourEars v5).bind fun z58 =>
   (f_X7_countBuyers now_everybody now_far tc_wordCount tc_personCount now_words tc_kinds tc_close sellers_firstsOwn sellers_secondsOwn sellers_shared v1 v3 z58).bind fun z61 =>
   if v6 = 0 then
    (f_X7_firstHas z61.1 z61.2.2 v2 v4).bind fun z89 =>
    some (z89, z38.2, z61.1, z61.2.1, z61.2.2)
   else
    (f_X7_secondHas z61.2.1 z61.2.2 v2 v4).bind fun z76 =>
    some (z76, z38.2, z61.1, z61.2.1, z61.2.2)
  else
   some ((-1), z38.2, sellers_firstsOwn, sellers_secondsOwn, sellers_shared)
def f_X10_sells_37 (now_everybody : Int32) (now_far : Int32) (tc_ear : Int32) (tc_wordCount : Int32) (tc_personCount : Int32) (now_words : Nat → Int32) (tc_kinds : Nat → Int32) (tc_hourEars : Nat → Int32) (tc_close : Nat → Int32) (v1 : Int32) (v2 : Int32) (v3 : Int32) (v4 : Int32) (v5 : Int32) (v6 : Int32) (s1 : Int32) (x_lastTrouble : Int32) (sellers_firstsOwn : Int32) (sellers_secondsOwn : Int32) (sellers_shared : Int32) : Option (Int32 × Int32 × Int32 × Int32 × Int32) :=
  f_X10_sells_38 now_everybody now_far tc_ear tc_wordCount tc_personCount now_words tc_kinds tc_hourEars tc_close v1 v2 v3 v4 v5 v6 s1 0 x_lastTrouble sellers_firstsOwn sellers_secondsOwn sellers_shared
def f_X10_sells (now_everybody : Int32) (now_far : Int32) (tc_ear : Int32) (tc_wordCount : Int32) (tc_personCount : Int32) (now_words : Nat → Int32) (tc_kinds : Nat → Int32) (tc_hourEars : Nat → Int32) (tc_close : Nat → Int32) (x_lastTrouble : Int32) (sellers_firstsOwn : Int32) (sellers_secondsOwn : Int32) (sellers_shared : Int32) (v1 : Int32) (v2 : Int32) (v3 : Int32) (v4 : Int32) (v5 : Int32) (v6 : Int32) : Option (Int32 × Int32 × Int32 × Int32 × Int32) :=
  (f_X10_isTwoWords tc_wordCount v1 v3).bind fun z4 =>
  (f_X10_isPrice v2).bind fun z9 =>
  if z9 = 0 then
   f_X10_sells_37 now_everybody now_far tc_ear tc_wordCount tc_personCount now_words tc_kinds tc_hourEars tc_close v1 v2 v3 v4 v5 v6 z4 x_lastTrouble sellers_firstsOwn sellers_secondsOwn sellers_shared
  else
   (f_X10_isPrice v4).bind fun z18 =>
   if z18 = 0 then
    f_X10_sells_37 now_everybody now_far tc_ear tc_wordCount tc_personCount now_words tc_kinds tc_hourEars tc_close v1 v2 v3 v4 v5 v6 z4 x_lastTrouble sellers_firstsOwn sellers_secondsOwn sellers_shared
   else
    (f_X10_isHour v5).bind fun z27 =>
    if z27 = 0 then
     f_X10_sells_37 now_everybody now_far tc_ear tc_wordCount tc_personCount now_words tc_kinds tc_hourEars tc_close v1 v2 v3 v4 v5 v6 z4 x_lastTrouble sellers_firstsOwn sellers_secondsOwn sellers_shared
    else
     f_X10_sells_38 now_everybody now_far tc_ear tc_wordCount tc_personCount now_words tc_kinds tc_hourEars tc_close v1 v2 v3 v4 v5 v6 z4 1 x_lastTrouble sellers_firstsOwn sellers_secondsOwn sellers_shared
def f_X7_isRest_38 (sellers_firstsOwn : Int32) (sellers_secondsOwn : Int32) (sellers_shared : Int32) : Option (Int32) :=
  some 0
def f_X7_isRest_2 (sellers_firstsOwn : Int32) (sellers_secondsOwn : Int32) (sellers_shared : Int32) : Nat → Int32 → Int32 → Int32 → Option (Int32)
  | 0, _, _, _ => none
  | n + 1, v1, v2, v3 =>
   if 10 ≤ v3 then
    some 1
   else
    (f_X7_firstHas sellers_firstsOwn sellers_shared v3 v2).bind fun z11 =>
    (f_X7_firstHas sellers_firstsOwn sellers_shared v1 v2).bind fun z17 =>
    if z17 < z11 then
     f_X7_isRest_38 sellers_firstsOwn sellers_secondsOwn sellers_shared
    else
     (f_X7_secondHas sellers_secondsOwn sellers_shared v1 v3).bind fun z26 =>
     (f_X7_secondHas sellers_secondsOwn sellers_shared v1 v2).bind fun z32 =>
     if z26 ≤ z32 then
      f_X7_isRest_2 sellers_firstsOwn sellers_secondsOwn sellers_shared n v1 v2 (v3 + 1)
     else
      f_X7_isRest_38 sellers_firstsOwn sellers_secondsOwn sellers_shared
def f_X7_isRest (sellers_firstsOwn : Int32) (sellers_secondsOwn : Int32) (sellers_shared : Int32) (v1 : Int32) (v2 : Int32) : Option (Int32) :=
  f_X7_isRest_2 sellers_firstsOwn sellers_secondsOwn sellers_shared rf_fu v1 v2 0
def f_X7_restCount_31 (k4 : Int32 → Int32 → Option (Int32)) (sellers_firstsOwn : Int32) (sellers_secondsOwn : Int32) (sellers_shared : Int32) (v2 : Int32) (s0 : Int32) (s1 : Int32) : Option (Int32) :=
  k4 (s0 + s1) (v2 + 1)
def f_X7_restCount_4 (sellers_firstsOwn : Int32) (sellers_secondsOwn : Int32) (sellers_shared : Int32) : Nat → Int32 → Int32 → Option (Int32)
  | 0, _, _ => none
  | n + 1, v1, v2 =>
   if 100 ≤ v2 then
    some v1
   else
    (f_X7_isRest sellers_firstsOwn sellers_secondsOwn sellers_shared (v2 / 10) (v2 - v2 / 10 * 10)).bind fun z20 =>
    if z20 = 0 then
     f_X7_restCount_31 (f_X7_restCount_4 sellers_firstsOwn sellers_secondsOwn sellers_shared n) sellers_firstsOwn sellers_secondsOwn sellers_shared v2 v1 0
    else
     f_X7_restCount_31 (f_X7_restCount_4 sellers_firstsOwn sellers_secondsOwn sellers_shared n) sellers_firstsOwn sellers_secondsOwn sellers_shared v2 v1 1
def f_X7_restCount (sellers_firstsOwn : Int32) (sellers_secondsOwn : Int32) (sellers_shared : Int32) : Option (Int32) :=
  f_X7_restCount_4 sellers_firstsOwn sellers_secondsOwn sellers_shared rf_fu 0 0
def f_X10_rests (now_everybody : Int32) (now_far : Int32) (tc_ear : Int32) (tc_wordCount : Int32) (tc_personCount : Int32) (now_words : Nat → Int32) (tc_kinds : Nat → Int32) (tc_hourEars : Nat → Int32) (tc_close : Nat → Int32) (x_lastTrouble : Int32) (sellers_firstsOwn : Int32) (sellers_secondsOwn : Int32) (sellers_shared : Int32) (v1 : Int32) (v2 : Int32) (v3 : Int32) : Option (Int32 × Int32 × Int32 × Int32 × Int32) :=
  (f_X10_isTwoWords tc_wordCount v1 v2).bind fun z4 =>
  (f_X10_isHour v3).bind fun z9 =>
  (f_X10_refused x_lastTrouble z4 z9).bind fun z12 =>
  if z12.1 = 0 then
   (f_X9_earAt tc_ear tc_hourEars v3).bind fun z31 =>
   (f_X7_countBuyers now_everybody now_far tc_wordCount tc_personCount now_words tc_kinds tc_close sellers_firstsOwn sellers_secondsOwn sellers_shared v1 v2 z31).bind fun z34 =>
   (f_X7_restCount z34.1 z34.2.1 z34.2.2).bind fun z41 =>
   some (z41, z12.2, z34.1, z34.2.1, z34.2.2)
  else
   some ((-1), z12.2, sellers_firstsOwn, sellers_secondsOwn, sellers_shared)
def f_X7_firstRest_2 (sellers_firstsOwn : Int32) (sellers_secondsOwn : Int32) (sellers_shared : Int32) : Nat → Int32 → Option (Int32)
  | 0, _ => none
  | n + 1, v1 =>
   if 100 ≤ v1 then
    some (-2)
   else
    (f_X7_isRest sellers_firstsOwn sellers_secondsOwn sellers_shared (v1 / 10) (v1 - v1 / 10 * 10)).bind fun z17 =>
    if z17 = 0 then
     f_X7_firstRest_2 sellers_firstsOwn sellers_secondsOwn sellers_shared n (v1 + 1)
    else
     some v1
def f_X7_firstRest (sellers_firstsOwn : Int32) (sellers_secondsOwn : Int32) (sellers_shared : Int32) : Option (Int32) :=
  f_X7_firstRest_2 sellers_firstsOwn sellers_secondsOwn sellers_shared rf_fu 0
def f_X10_rest (now_everybody : Int32) (now_far : Int32) (tc_ear : Int32) (tc_wordCount : Int32) (tc_personCount : Int32) (now_words : Nat → Int32) (tc_kinds : Nat → Int32) (tc_hourEars : Nat → Int32) (tc_close : Nat → Int32) (x_lastTrouble : Int32) (sellers_firstsOwn : Int32) (sellers_secondsOwn : Int32) (sellers_shared : Int32) (v1 : Int32) (v2 : Int32) (v3 : Int32) : Option (Int32 × Int32 × Int32 × Int32 × Int32) :=
  (f_X10_isTwoWords tc_wordCount v1 v2).bind fun z4 =>
  (f_X10_isHour v3).bind fun z9 =>
  (f_X10_refused x_lastTrouble z4 z9).bind fun z12 =>
  if z12.1 = 0 then
   (f_X9_earAt tc_ear tc_hourEars v3).bind fun z31 =>
   (f_X7_countBuyers now_everybody now_far tc_wordCount tc_personCount now_words tc_kinds tc_close sellers_firstsOwn sellers_secondsOwn sellers_shared v1 v2 z31).bind fun z34 =>
   (f_X7_firstRest z34.1 z34.2.1 z34.2.2).bind fun z41 =>
   some (z41, z12.2, z34.1, z34.2.1, z34.2.2)
  else
   some ((-1), z12.2, sellers_firstsOwn, sellers_secondsOwn, sellers_shared)
def f_X0_crossersAt_84 (tc_pairs : Int32) (pairing_partners : Nat → Int32) (v2 : Int32) (days_crossings : Nat → Int32) : Option (Int32 × (Nat → Int32)) :=
  some (v2, days_crossings)
def f_X0_crossersAt_78 (k7 : Int32 → Int32 → Int32 → Int32 → (Nat → Int32) → Option (Int32 × (Nat → Int32))) (tc_pairs : Int32) (pairing_partners : Nat → Int32) (v1 : Int32) (v2 : Int32) (v3 : Int32) (v4 : Int32) (days_crossings : Nat → Int32) : Option (Int32 × (Nat → Int32)) :=
  k7 v1 v2 v3 (v4 + 1) days_crossings
def f_X0_crossersAt_7 (tc_pairs : Int32) (pairing_partners : Nat → Int32) : Nat → Int32 → Int32 → Int32 → Int32 → (Nat → Int32) → Option (Int32 × (Nat → Int32))
  | 0, _, _, _, _, _ => none
  | n + 1, v1, v2, v3, v4, days_crossings =>
   if 8 ≤ v4 then
    f_X0_crossersAt_84 tc_pairs pairing_partners v2 days_crossings
   else
    if tc_pairs ≤ v3 then
     f_X0_crossersAt_84 tc_pairs pairing_partners v2 days_crossings
    else
     if rf_ib v4 8 = true then
     if (pairing_partners (Int32.toNatClampNeg v4)) ≤ v4 then
      f_X0_crossersAt_78 (f_X0_crossersAt_7 tc_pairs pairing_partners n) tc_pairs pairing_partners v1 v2 v3 v4 days_crossings
     else
      if rf_ib v4 8 = true then
      if rf_ib (pairing_partners (Int32.toNatClampNeg v4)) 8 = true then
      f_X0_crossersAt_78 (f_X0_crossersAt_7 tc_pairs pairing_partners n) tc_pairs pairing_partners v1 (v2 ||| (((1 : Int32) <<< (v4 &&& 31)) ||| ((1 : Int32) <<< ((pairing_partners (Int32.toNatClampNeg v4)) &&& 31)))) (v3 + 1) v4 (upd (upd days_crossings (Int32.toNatClampNeg v4) v1) (Int32.toNatClampNeg (pairing_partners (Int32.toNatClampNeg v4))) v1)
      else none
      else none
     else none
def f_X0_crossersAt (tc_pairs : Int32) (pairing_partners : Nat → Int32) (days_crossings : Nat → Int32) (v1 : Int32) : Option (Int32 × (Nat → Int32)) :=
  f_X0_crossersAt_7 tc_pairs pairing_partners rf_fu v1 0 0 0 days_crossings
def f_X0_pass_143 (now_hour : Int32) (now_everybody : Int32) (now_far : Int32) (tc_ear : Int32) (tc_pairs : Int32) (tc_wordCount : Int32) (tc_personCount : Int32) (now_words : Nat → Int32) (tc_kinds : Nat → Int32) (tc_hourEars : Nat → Int32) (tc_close : Nat → Int32) (v3 : Int32) (v4 : Int32) (rhymes_links : Nat → Int32) (pairing_partners : Nat → Int32) (pairing_best : Nat → Int32) (days_crossings : Nat → Int32) : Option (Int32 × (Nat → Int32) × (Nat → Int32) × (Nat → Int32) × (Nat → Int32)) :=
  (f_J6_bitCount_0f7a4 (v3 &&& (v4 ^^^ (-1)))).bind fun z149 =>
  some (z149, rhymes_links, pairing_partners, pairing_best, days_crossings)
def f_X0_pass_30 (now_hour : Int32) (now_everybody : Int32) (now_far : Int32) (tc_ear : Int32) (tc_pairs : Int32) (tc_wordCount : Int32) (tc_personCount : Int32) (now_words : Nat → Int32) (tc_kinds : Nat → Int32) (tc_hourEars : Nat → Int32) (tc_close : Nat → Int32) : Nat → Int32 → Int32 → Int32 → Int32 → Int32 → (Nat → Int32) → (Nat → Int32) → (Nat → Int32) → (Nat → Int32) → Option (Int32 × (Nat → Int32) × (Nat → Int32) × (Nat → Int32) × (Nat → Int32))
  | 0, _, _, _, _, _, _, _, _, _ => none
  | n + 1, v2, v3, v4, v5, v6, rhymes_links, pairing_partners, pairing_best, days_crossings =>
   if v2 ≤ v6 then
    f_X0_pass_143 now_hour now_everybody now_far tc_ear tc_pairs tc_wordCount tc_personCount now_words tc_kinds tc_hourEars tc_close v3 v4 rhymes_links pairing_partners pairing_best days_crossings
   else
    (f_J6_bitCount_0f7a4 v4).bind fun z38 =>
    if z38 ≤ 1 then
     f_X0_pass_143 now_hour now_everybody now_far tc_ear tc_pairs tc_wordCount tc_personCount now_words tc_kinds tc_hourEars tc_close v3 v4 rhymes_links pairing_partners pairing_best days_crossings
    else
     (f_X9_earAt tc_ear tc_hourEars ((now_hour + v6) - (now_hour + v6) / 24 * 24)).bind fun z81 =>
     (f_X6_link tc_wordCount tc_personCount now_words tc_kinds tc_close rhymes_links (if 1 < ((z81 + (((((75 : Int32) * v5) + 74) - (((75 : Int32) * v5) + 74) / 65537 * 65537) - ((((75 : Int32) * v5) + 74) - (((75 : Int32) * v5) + 74) / 65537 * 65537) / 3 * 3)) - 1) then ((z81 + (((((75 : Int32) * v5) + 74) - (((75 : Int32) * v5) + 74) / 65537 * 65537) - ((((75 : Int32) * v5) + 74) - (((75 : Int32) * v5) + 74) / 65537 * 65537) / 3 * 3)) - 1) else 1)).bind fun z103 =>
     (f_X3_pairFirst z103 pairing_partners pairing_best v4).bind fun z119 =>
     (f_X0_crossersAt tc_pairs z119.1 days_crossings (v6 + 1)).bind fun z129 =>
     f_X0_pass_30 now_hour now_everybody now_far tc_ear tc_pairs tc_wordCount tc_personCount now_words tc_kinds tc_hourEars tc_close n v2 v3 (v4 &&& (z129.1 ^^^ (-1))) ((((75 : Int32) * v5) + 74) - (((75 : Int32) * v5) + 74) / 65537 * 65537) (v6 + 1) z103 z119.1 z119.2 z129.2
def f_X0_pass (now_hour : Int32) (now_everybody : Int32) (now_far : Int32) (tc_ear : Int32) (tc_pairs : Int32) (tc_wordCount : Int32) (tc_personCount : Int32) (now_words : Nat → Int32) (tc_kinds : Nat → Int32) (tc_hourEars : Nat → Int32) (tc_close : Nat → Int32) (rhymes_links : Nat → Int32) (pairing_partners : Nat → Int32) (pairing_best : Nat → Int32) (days_crossings : Nat → Int32) (v1 : Int32) (v2 : Int32) : Option (Int32 × (Nat → Int32) × (Nat → Int32) × (Nat → Int32) × (Nat → Int32)) :=
  (f_X2_onBank now_everybody now_far 0).bind fun z17 =>
  f_X0_pass_30 now_hour now_everybody now_far tc_ear tc_pairs tc_wordCount tc_personCount now_words tc_kinds tc_hourEars tc_close rf_fu v2 z17 z17 v1 0 rhymes_links pairing_partners pairing_best (rf_fill 8 (-2) days_crossings)
def f_X10_isDay_25 : Option (Int32) :=
  some 0
def f_X10_isDay (v1 : Int32) (v2 : Int32) : Option (Int32) :=
  if v1 < 0 then
   f_X10_isDay_25
  else
   if 65537 ≤ v1 then
    f_X10_isDay_25
   else
    if v2 < 0 then
     f_X10_isDay_25
    else
     if 24 < v2 then
      f_X10_isDay_25
     else
      some 1
def f_X10_day (now_hour : Int32) (now_everybody : Int32) (now_far : Int32) (tc_ear : Int32) (tc_pairs : Int32) (tc_wordCount : Int32) (tc_personCount : Int32) (now_words : Nat → Int32) (tc_kinds : Nat → Int32) (tc_hourEars : Nat → Int32) (tc_close : Nat → Int32) (x_lastTrouble : Int32) (rhymes_links : Nat → Int32) (pairing_partners : Nat → Int32) (pairing_best : Nat → Int32) (days_crossings : Nat → Int32) (v1 : Int32) (v2 : Int32) : Option (Int32 × Int32 × (Nat → Int32) × (Nat → Int32) × (Nat → Int32) × (Nat → Int32)) :=
  (f_X10_hasFerry tc_personCount).bind fun z2 =>
  (f_X10_isDay v1 v2).bind fun z8 =>
  (f_X10_refused x_lastTrouble z2 z8).bind fun z11 =>
  if z11.1 = 0 then
   (f_X0_pass now_hour now_everybody now_far tc_ear tc_pairs tc_wordCount tc_personCount now_words tc_kinds tc_hourEars tc_close rhymes_links pairing_partners pairing_best days_crossings v1 v2).bind fun z25 =>
   some (z25.1, z11.2, z25.2.1, z25.2.2.1, z25.2.2.2.1, z25.2.2.2.2)
  else
   some ((-1), z11.2, rhymes_links, pairing_partners, pairing_best, days_crossings)
def f_X10_crossedIn (now_hour : Int32) (now_everybody : Int32) (now_far : Int32) (tc_ear : Int32) (tc_pairs : Int32) (tc_wordCount : Int32) (tc_personCount : Int32) (now_words : Nat → Int32) (tc_kinds : Nat → Int32) (tc_hourEars : Nat → Int32) (tc_close : Nat → Int32) (x_lastTrouble : Int32) (rhymes_links : Nat → Int32) (pairing_partners : Nat → Int32) (pairing_best : Nat → Int32) (days_crossings : Nat → Int32) (v1 : Int32) (v2 : Int32) (v3 : Int32) : Option (Int32 × Int32 × (Nat → Int32) × (Nat → Int32) × (Nat → Int32) × (Nat → Int32)) :=
  (f_X10_isPerson tc_personCount v1).bind fun z3 =>
  (f_X10_isDay v2 v3).bind fun z9 =>
  (f_X10_refused x_lastTrouble z3 z9).bind fun z12 =>
  if z12.1 = 0 then
   (f_X0_pass now_hour now_everybody now_far tc_ear tc_pairs tc_wordCount tc_personCount now_words tc_kinds tc_hourEars tc_close rhymes_links pairing_partners pairing_best days_crossings v2 v3).bind fun z26 =>
   if rf_ib v1 8 = true then
   some (z26.2.2.2.2 (Int32.toNatClampNeg v1), z12.2, z26.2.1, z26.2.2.1, z26.2.2.2.1, z26.2.2.2.2)
   else none
  else
   some ((-1), z12.2, rhymes_links, pairing_partners, pairing_best, days_crossings)
def f_X2_carryOver (now_far : Int32) (v1 : Int32) : Option (Int32) :=
  some (now_far ^^^ ((1 : Int32) <<< (v1 &&& 31)))
def f_X8_placeOf_acts (h_room : Int32) (h_first : Int32) (v1 : Int32) : Option (Int32) :=
  if h_room = 0 then none else
  some (((h_first + v1) - (h_first + v1) / h_room * h_room) * 19)
def f_X8_push_acts_36 (now_hour : Int32) (now_paid : Int32) (now_far : Int32) (h_room : Int32) (now_words : Nat → Int32) (now_wet : Nat → Int32) (h_first : Int32) (h_count : Int32) (h_cells : Nat → Int32) : Option (Int32 × Int32 × (Nat → Int32)) :=
  (f_X8_placeOf_acts h_room h_first h_count).bind fun z41 =>
  if rf_ib z41 304 = true then
  if rf_ib (z41 + 1) 304 = true then
  if rf_ib (z41 + 2) 304 = true then
  if rf_cok 0 (z41 + 3) 8 8 304 = true then
  if rf_cok 0 ((z41 + 3) + 8) 8 8 304 = true then
  some (h_first, h_count + 1, va_cpy now_wet (va_cpy now_words (upd (upd (upd h_cells (Int32.toNatClampNeg z41) now_hour) (Int32.toNatClampNeg (z41 + 1)) now_paid) (Int32.toNatClampNeg (z41 + 2)) now_far) (Int32.toNatClampNeg 0) (Int32.toNatClampNeg (z41 + 3)) (Int32.toNatClampNeg 8)) (Int32.toNatClampNeg 0) (Int32.toNatClampNeg ((z41 + 3) + 8)) (Int32.toNatClampNeg 8))
  else none
  else none
  else none
  else none
  else none
def f_X8_push_acts (now_hour : Int32) (now_paid : Int32) (now_far : Int32) (h_room : Int32) (now_words : Nat → Int32) (now_wet : Nat → Int32) (h_first : Int32) (h_count : Int32) (h_cells : Nat → Int32) : Option (Int32 × Int32 × (Nat → Int32)) :=
  if h_count = h_room then
   if h_room = 0 then none else
   f_X8_push_acts_36 now_hour now_paid now_far h_room now_words now_wet ((h_first + 1) - (h_first + 1) / h_room * h_room) (h_count - 1) h_cells
  else
   f_X8_push_acts_36 now_hour now_paid now_far h_room now_words now_wet h_first h_count h_cells
def f_X10_cross_63 (now_hour : Int32) (now_paid : Int32) (acts_room : Int32) (tc_ear : Int32) (tc_wordCount : Int32) (tc_personCount : Int32) (now_words : Nat → Int32) (tc_kinds : Nat → Int32) (tc_hourEars : Nat → Int32) (tc_close : Nat → Int32) (x_lastTrouble : Int32) (now_far : Int32) (acts_first : Int32) (acts_count : Int32) (now_wet : Nat → Int32) (acts_cells : Nat → Int32) : Option (Int32 × Int32 × Int32 × Int32 × Int32 × (Nat → Int32) × (Nat → Int32)) :=
  (f_X10_refuse x_lastTrouble 5).bind fun z65 =>
  some (z65.1, z65.2, now_far, acts_first, acts_count, now_wet, acts_cells)
def f_X10_cross_127 (now_hour : Int32) (now_paid : Int32) (acts_room : Int32) (tc_ear : Int32) (tc_wordCount : Int32) (tc_personCount : Int32) (now_words : Nat → Int32) (tc_kinds : Nat → Int32) (tc_hourEars : Nat → Int32) (tc_close : Nat → Int32) (v3 : Int32) (x_lastTrouble : Int32) (now_far : Int32) (acts_first : Int32) (acts_count : Int32) (now_wet : Nat → Int32) (acts_cells : Nat → Int32) : Option (Int32 × Int32 × Int32 × Int32 × Int32 × (Nat → Int32) × (Nat → Int32)) :=
  some (v3, x_lastTrouble, now_far, acts_first, acts_count, now_wet, acts_cells)
def f_X10_cross (now_hour : Int32) (now_paid : Int32) (acts_room : Int32) (tc_ear : Int32) (tc_wordCount : Int32) (tc_personCount : Int32) (now_words : Nat → Int32) (tc_kinds : Nat → Int32) (tc_hourEars : Nat → Int32) (tc_close : Nat → Int32) (x_lastTrouble : Int32) (now_far : Int32) (acts_first : Int32) (acts_count : Int32) (now_wet : Nat → Int32) (acts_cells : Nat → Int32) (v1 : Int32) (v2 : Int32) : Option (Int32 × Int32 × Int32 × Int32 × Int32 × (Nat → Int32) × (Nat → Int32)) :=
  (f_X10_isPair tc_personCount v1 v2).bind fun z4 =>
  (f_X10_refused x_lastTrouble z4 1).bind fun z8 =>
  if z8.1 = 0 then
   (f_X9_earAt tc_ear tc_hourEars now_hour).bind fun z33 =>
   (f_X6_degree tc_wordCount now_words tc_kinds tc_close v1 v2 z33).bind fun z36 =>
   (f_X2_bankOf now_far v1).bind fun z45 =>
   (f_X2_bankOf now_far v2).bind fun z53 =>
   if z45 = z53 then
    if z36 = 0 then
     f_X10_cross_63 now_hour now_paid acts_room tc_ear tc_wordCount tc_personCount now_words tc_kinds tc_hourEars tc_close z8.2 now_far acts_first acts_count now_wet acts_cells
    else
     (f_X8_push_acts now_hour now_paid now_far acts_room now_words now_wet acts_first acts_count acts_cells).bind fun z77 =>
     (f_X2_carryOver now_far v1).bind fun z85 =>
     (f_X2_carryOver z85 v2).bind fun z93 =>
     if z36 = 1 then
      if rf_ib v1 8 = true then
      if rf_ib v1 8 = true then
      if rf_ib v2 8 = true then
      if rf_ib v2 8 = true then
      f_X10_cross_127 now_hour now_paid acts_room tc_ear tc_wordCount tc_personCount now_words tc_kinds tc_hourEars tc_close z36 z8.2 z93 z77.1 z77.2.1 (upd (upd now_wet (Int32.toNatClampNeg v1) ((now_wet (Int32.toNatClampNeg v1)) + 1)) (Int32.toNatClampNeg v2) (((upd now_wet (Int32.toNatClampNeg v1) ((now_wet (Int32.toNatClampNeg v1)) + 1)) (Int32.toNatClampNeg v2)) + 1)) z77.2.2
      else none
      else none
      else none
      else none
     else
      f_X10_cross_127 now_hour now_paid acts_room tc_ear tc_wordCount tc_personCount now_words tc_kinds tc_hourEars tc_close z36 z8.2 z93 z77.1 z77.2.1 now_wet z77.2.2
   else
    f_X10_cross_63 now_hour now_paid acts_room tc_ear tc_wordCount tc_personCount now_words tc_kinds tc_hourEars tc_close z8.2 now_far acts_first acts_count now_wet acts_cells
  else
   some ((-1), z8.2, now_far, acts_first, acts_count, now_wet, acts_cells)
def f_X10_buy_22 (now_hour : Int32) (now_far : Int32) (acts_room : Int32) (tc_wordCount : Int32) (tc_personCount : Int32) (now_wet : Nat → Int32) (tc_prices : Nat → Int32) (v1 : Int32) (v2 : Int32) (s1 : Int32) (x_lastTrouble : Int32) (now_paid : Int32) (acts_first : Int32) (acts_count : Int32) (now_words : Nat → Int32) (acts_cells : Nat → Int32) : Option (Int32 × Int32 × Int32 × Int32 × Int32 × (Nat → Int32) × (Nat → Int32)) :=
  (f_X10_refused x_lastTrouble s1 1).bind fun z23 =>
  if z23.1 = 0 then
   (f_X2_has now_words v1 v2).bind fun z37 =>
   if z37 = 0 then
    (f_X8_push_acts now_hour now_paid now_far acts_room now_words now_wet acts_first acts_count acts_cells).bind fun z57 =>
    if rf_ib v1 8 = true then
    if rf_ib v1 8 = true then
    if rf_ib v2 10 = true then
    some (now_paid + (tc_prices (Int32.toNatClampNeg v2)), z23.2, now_paid + (tc_prices (Int32.toNatClampNeg v2)), z57.1, z57.2.1, upd now_words (Int32.toNatClampNeg v1) ((now_words (Int32.toNatClampNeg v1)) ||| ((1 : Int32) <<< (v2 &&& 31))), z57.2.2)
    else none
    else none
    else none
   else
    (f_X10_refuse z23.2 5).bind fun z45 =>
    some (z45.1, z45.2, now_paid, acts_first, acts_count, now_words, acts_cells)
  else
   some ((-1), z23.2, now_paid, acts_first, acts_count, now_words, acts_cells)
def f_X10_buy_21 (now_hour : Int32) (now_far : Int32) (acts_room : Int32) (tc_wordCount : Int32) (tc_personCount : Int32) (now_wet : Nat → Int32) (tc_prices : Nat → Int32) (v1 : Int32) (v2 : Int32) (x_lastTrouble : Int32) (now_paid : Int32) (acts_first : Int32) (acts_count : Int32) (now_words : Nat → Int32) (acts_cells : Nat → Int32) : Option (Int32 × Int32 × Int32 × Int32 × Int32 × (Nat → Int32) × (Nat → Int32)) :=
  f_X10_buy_22 now_hour now_far acts_room tc_wordCount tc_personCount now_wet tc_prices v1 v2 0 x_lastTrouble now_paid acts_first acts_count now_words acts_cells
def f_X10_buy (now_hour : Int32) (now_far : Int32) (acts_room : Int32) (tc_wordCount : Int32) (tc_personCount : Int32) (now_wet : Nat → Int32) (tc_prices : Nat → Int32) (x_lastTrouble : Int32) (now_paid : Int32) (acts_first : Int32) (acts_count : Int32) (now_words : Nat → Int32) (acts_cells : Nat → Int32) (v1 : Int32) (v2 : Int32) : Option (Int32 × Int32 × Int32 × Int32 × Int32 × (Nat → Int32) × (Nat → Int32)) :=
  (f_X10_isPerson tc_personCount v1).bind fun z3 =>
  if z3 = 0 then
   f_X10_buy_21 now_hour now_far acts_room tc_wordCount tc_personCount now_wet tc_prices v1 v2 x_lastTrouble now_paid acts_first acts_count now_words acts_cells
  else
   (f_X10_isWord tc_wordCount v2).bind fun z11 =>
   if z11 = 0 then
    f_X10_buy_21 now_hour now_far acts_room tc_wordCount tc_personCount now_wet tc_prices v1 v2 x_lastTrouble now_paid acts_first acts_count now_words acts_cells
   else
    f_X10_buy_22 now_hour now_far acts_room tc_wordCount tc_personCount now_wet tc_prices v1 v2 1 x_lastTrouble now_paid acts_first acts_count now_words acts_cells
def f_X10_hours_21 (now_paid : Int32) (now_far : Int32) (acts_room : Int32) (tc_personCount : Int32) (now_words : Nat → Int32) (now_wet : Nat → Int32) (v1 : Int32) (s1 : Int32) (s2 : Int32) (x_lastTrouble : Int32) (now_hour : Int32) (acts_first : Int32) (acts_count : Int32) (acts_cells : Nat → Int32) : Option (Int32 × Int32 × Int32 × Int32 × Int32 × (Nat → Int32)) :=
  (f_X10_refused x_lastTrouble s1 s2).bind fun z21 =>
  if z21.1 = 0 then
   (f_X8_push_acts now_hour now_paid now_far acts_room now_words now_wet acts_first acts_count acts_cells).bind fun z37 =>
   some ((now_hour + v1) - (now_hour + v1) / 24 * 24, z21.2, (now_hour + v1) - (now_hour + v1) / 24 * 24, z37.1, z37.2.1, z37.2.2)
  else
   some ((-1), z21.2, now_hour, acts_first, acts_count, acts_cells)
def f_X10_hours_20 (now_paid : Int32) (now_far : Int32) (acts_room : Int32) (tc_personCount : Int32) (now_words : Nat → Int32) (now_wet : Nat → Int32) (v1 : Int32) (s1 : Int32) (x_lastTrouble : Int32) (now_hour : Int32) (acts_first : Int32) (acts_count : Int32) (acts_cells : Nat → Int32) : Option (Int32 × Int32 × Int32 × Int32 × Int32 × (Nat → Int32)) :=
  f_X10_hours_21 now_paid now_far acts_room tc_personCount now_words now_wet v1 s1 0 x_lastTrouble now_hour acts_first acts_count acts_cells
def f_X10_hours (now_paid : Int32) (now_far : Int32) (acts_room : Int32) (tc_personCount : Int32) (now_words : Nat → Int32) (now_wet : Nat → Int32) (x_lastTrouble : Int32) (now_hour : Int32) (acts_first : Int32) (acts_count : Int32) (acts_cells : Nat → Int32) (v1 : Int32) : Option (Int32 × Int32 × Int32 × Int32 × Int32 × (Nat → Int32)) :=
  (f_X10_hasFerry tc_personCount).bind fun z2 =>
  if v1 < 1 then
   f_X10_hours_20 now_paid now_far acts_room tc_personCount now_words now_wet v1 z2 x_lastTrouble now_hour acts_first acts_count acts_cells
  else
   if 24 ≤ v1 then
    f_X10_hours_20 now_paid now_far acts_room tc_personCount now_words now_wet v1 z2 x_lastTrouble now_hour acts_first acts_count acts_cells
   else
    f_X10_hours_21 now_paid now_far acts_room tc_personCount now_words now_wet v1 z2 1 x_lastTrouble now_hour acts_first acts_count acts_cells
def f_X8_copyTo_acts (h_room : Int32) (h_first : Int32) (h_cells : Nat → Int32) (now_hour : Int32) (now_paid : Int32) (now_far : Int32) (now_words : Nat → Int32) (now_wet : Nat → Int32) (v1 : Int32) : Option (Int32 × Int32 × Int32 × (Nat → Int32) × (Nat → Int32)) :=
  (f_X8_placeOf_acts h_room h_first v1).bind fun z2 =>
  if rf_ib z2 304 = true then
  if rf_ib (z2 + 1) 304 = true then
  if rf_ib (z2 + 2) 304 = true then
  if rf_cok (z2 + 3) 0 8 304 8 = true then
  if rf_cok ((z2 + 3) + 8) 0 8 304 8 = true then
  some (h_cells (Int32.toNatClampNeg z2), h_cells (Int32.toNatClampNeg (z2 + 1)), h_cells (Int32.toNatClampNeg (z2 + 2)), va_cpy h_cells now_words (Int32.toNatClampNeg (z2 + 3)) (Int32.toNatClampNeg 0) (Int32.toNatClampNeg 8), va_cpy h_cells now_wet (Int32.toNatClampNeg ((z2 + 3) + 8)) (Int32.toNatClampNeg 0) (Int32.toNatClampNeg 8))
  else none
  else none
  else none
  else none
  else none
def f_X8_pop_acts (h_room : Int32) (h_first : Int32) (h_cells : Nat → Int32) (now_hour : Int32) (now_paid : Int32) (now_far : Int32) (h_count : Int32) (now_words : Nat → Int32) (now_wet : Nat → Int32) : Option (Int32 × Int32 × Int32 × Int32 × (Nat → Int32) × (Nat → Int32)) :=
  if h_count ≤ 0 then
   some (now_hour, now_paid, now_far, h_count, now_words, now_wet)
  else
   (f_X8_copyTo_acts h_room h_first h_cells now_hour now_paid now_far now_words now_wet (h_count - 1)).bind fun z23 =>
   some (z23.1, z23.2.1, z23.2.2.1, h_count - 1, z23.2.2.2.1, z23.2.2.2.2)
def f_X10_undo_17 (acts_room : Int32) (acts_first : Int32) (acts_cells : Nat → Int32) (s1 : Int32) (x_lastTrouble : Int32) (now_hour : Int32) (now_paid : Int32) (now_far : Int32) (acts_count : Int32) (now_words : Nat → Int32) (now_wet : Nat → Int32) : Option (Int32 × Int32 × Int32 × Int32 × Int32 × Int32 × (Nat → Int32) × (Nat → Int32)) :=
  if acts_count = 0 then
   some (0, s1, now_hour, now_paid, now_far, acts_count, now_words, now_wet)
  else
   (f_X8_pop_acts acts_room acts_first acts_cells now_hour now_paid now_far acts_count now_words now_wet).bind fun z40 =>
   some (1, s1, z40.1, z40.2.1, z40.2.2.1, z40.2.2.2.1, z40.2.2.2.2.1, z40.2.2.2.2.2)
def f_X10_undo (acts_room : Int32) (acts_first : Int32) (acts_cells : Nat → Int32) (x_lastTrouble : Int32) (now_hour : Int32) (now_paid : Int32) (now_far : Int32) (acts_count : Int32) (now_words : Nat → Int32) (now_wet : Nat → Int32) : Option (Int32 × Int32 × Int32 × Int32 × Int32 × Int32 × (Nat → Int32) × (Nat → Int32)) :=
  if acts_count = 0 then
   f_X10_undo_17 acts_room acts_first acts_cells 6 x_lastTrouble now_hour now_paid now_far acts_count now_words now_wet
  else
   f_X10_undo_17 acts_room acts_first acts_cells 0 x_lastTrouble now_hour now_paid now_far acts_count now_words now_wet
def f_X8_placeOf_images (h_room : Int32) (h_first : Int32) (v1 : Int32) : Option (Int32) :=
  if h_room = 0 then none else
  some (((h_first + v1) - (h_first + v1) / h_room * h_room) * 19)
def f_X8_push_images_36 (now_hour : Int32) (now_paid : Int32) (now_far : Int32) (h_room : Int32) (now_words : Nat → Int32) (now_wet : Nat → Int32) (h_first : Int32) (h_count : Int32) (h_cells : Nat → Int32) : Option (Int32 × Int32 × (Nat → Int32)) :=
  (f_X8_placeOf_images h_room h_first h_count).bind fun z41 =>
  if rf_ib z41 57 = true then
  if rf_ib (z41 + 1) 57 = true then
  if rf_ib (z41 + 2) 57 = true then
  if rf_cok 0 (z41 + 3) 8 8 57 = true then
  if rf_cok 0 ((z41 + 3) + 8) 8 8 57 = true then
  some (h_first, h_count + 1, va_cpy now_wet (va_cpy now_words (upd (upd (upd h_cells (Int32.toNatClampNeg z41) now_hour) (Int32.toNatClampNeg (z41 + 1)) now_paid) (Int32.toNatClampNeg (z41 + 2)) now_far) (Int32.toNatClampNeg 0) (Int32.toNatClampNeg (z41 + 3)) (Int32.toNatClampNeg 8)) (Int32.toNatClampNeg 0) (Int32.toNatClampNeg ((z41 + 3) + 8)) (Int32.toNatClampNeg 8))
  else none
  else none
  else none
  else none
  else none
def f_X8_push_images (now_hour : Int32) (now_paid : Int32) (now_far : Int32) (h_room : Int32) (now_words : Nat → Int32) (now_wet : Nat → Int32) (h_first : Int32) (h_count : Int32) (h_cells : Nat → Int32) : Option (Int32 × Int32 × (Nat → Int32)) :=
  if h_count = h_room then
   if h_room = 0 then none else
   f_X8_push_images_36 now_hour now_paid now_far h_room now_words now_wet ((h_first + 1) - (h_first + 1) / h_room * h_room) (h_count - 1) h_cells
  else
   f_X8_push_images_36 now_hour now_paid now_far h_room now_words now_wet h_first h_count h_cells
def f_X10_image (now_hour : Int32) (now_paid : Int32) (now_far : Int32) (images_room : Int32) (tc_personCount : Int32) (now_words : Nat → Int32) (now_wet : Nat → Int32) (x_lastTrouble : Int32) (images_first : Int32) (images_count : Int32) (images_cells : Nat → Int32) : Option (Int32 × Int32 × Int32 × Int32 × (Nat → Int32)) :=
  (f_X10_hasFerry tc_personCount).bind fun z2 =>
  (f_X10_refused x_lastTrouble z2 1).bind fun z6 =>
  if z6.1 = 0 then
   if images_count < 3 then
    (f_X8_push_images now_hour now_paid now_far images_room now_words now_wet images_first images_count images_cells).bind fun z39 =>
    some (z39.2.1 - 1, z6.2, z39.1, z39.2.1, z39.2.2)
   else
    (f_X10_refuse z6.2 3).bind fun z27 =>
    some (z27.1, z27.2, images_first, images_count, images_cells)
  else
   some ((-1), z6.2, images_first, images_count, images_cells)
def f_X8_copyTo_images (h_room : Int32) (h_first : Int32) (h_cells : Nat → Int32) (now_hour : Int32) (now_paid : Int32) (now_far : Int32) (now_words : Nat → Int32) (now_wet : Nat → Int32) (v1 : Int32) : Option (Int32 × Int32 × Int32 × (Nat → Int32) × (Nat → Int32)) :=
  (f_X8_placeOf_images h_room h_first v1).bind fun z2 =>
  if rf_ib z2 57 = true then
  if rf_ib (z2 + 1) 57 = true then
  if rf_ib (z2 + 2) 57 = true then
  if rf_cok (z2 + 3) 0 8 57 8 = true then
  if rf_cok ((z2 + 3) + 8) 0 8 57 8 = true then
  some (h_cells (Int32.toNatClampNeg z2), h_cells (Int32.toNatClampNeg (z2 + 1)), h_cells (Int32.toNatClampNeg (z2 + 2)), va_cpy h_cells now_words (Int32.toNatClampNeg (z2 + 3)) (Int32.toNatClampNeg 0) (Int32.toNatClampNeg 8), va_cpy h_cells now_wet (Int32.toNatClampNeg ((z2 + 3) + 8)) (Int32.toNatClampNeg 0) (Int32.toNatClampNeg 8))
  else none
  else none
  else none
  else none
  else none
def f_X10_back_21 (images_room : Int32) (images_first : Int32) (images_count : Int32) (images_cells : Nat → Int32) (v1 : Int32) (s1 : Int32) (x_lastTrouble : Int32) (now_hour : Int32) (now_paid : Int32) (now_far : Int32) (acts_first : Int32) (acts_count : Int32) (now_words : Nat → Int32) (now_wet : Nat → Int32) : Option (Int32 × Int32 × Int32 × Int32 × Int32 × Int32 × Int32 × (Nat → Int32) × (Nat → Int32)) :=
  (f_X10_refused x_lastTrouble s1 1).bind fun z22 =>
  if z22.1 = 0 then
   (f_X8_copyTo_images images_room images_first images_cells now_hour now_paid now_far now_words now_wet v1).bind fun z39 =>
   (f_X8_clear_acts acts_first acts_count).bind fun z46 =>
   some (1, z22.2, z39.1, z39.2.1, z39.2.2.1, z46.1, z46.2, z39.2.2.2.1, z39.2.2.2.2)
  else
   some (0, z22.2, now_hour, now_paid, now_far, acts_first, acts_count, now_words, now_wet)
def f_X10_back_20 (images_room : Int32) (images_first : Int32) (images_count : Int32) (images_cells : Nat → Int32) (v1 : Int32) (x_lastTrouble : Int32) (now_hour : Int32) (now_paid : Int32) (now_far : Int32) (acts_first : Int32) (acts_count : Int32) (now_words : Nat → Int32) (now_wet : Nat → Int32) : Option (Int32 × Int32 × Int32 × Int32 × Int32 × Int32 × Int32 × (Nat → Int32) × (Nat → Int32)) :=
  f_X10_back_21 images_room images_first images_count images_cells v1 0 x_lastTrouble now_hour now_paid now_far acts_first acts_count now_words now_wet
def f_X10_back (images_room : Int32) (images_first : Int32) (images_count : Int32) (images_cells : Nat → Int32) (x_lastTrouble : Int32) (now_hour : Int32) (now_paid : Int32) (now_far : Int32) (acts_first : Int32) (acts_count : Int32) (now_words : Nat → Int32) (now_wet : Nat → Int32) (v1 : Int32) : Option (Int32 × Int32 × Int32 × Int32 × Int32 × Int32 × Int32 × (Nat → Int32) × (Nat → Int32)) :=
  if v1 < 0 then
   f_X10_back_20 images_room images_first images_count images_cells v1 x_lastTrouble now_hour now_paid now_far acts_first acts_count now_words now_wet
  else
   if images_count ≤ v1 then
    f_X10_back_20 images_room images_first images_count images_cells v1 x_lastTrouble now_hour now_paid now_far acts_first acts_count now_words now_wet
   else
    f_X10_back_21 images_room images_first images_count images_cells v1 1 x_lastTrouble now_hour now_paid now_far acts_first acts_count now_words now_wet
def f_X9_errandsTold_27 (k4 : Int32 → Int32 → Option (Int32)) (t_personCount : Int32) (t_errands : Nat → Int32) (v2 : Int32) (s0 : Int32) (s1 : Int32) : Option (Int32) :=
  k4 (s0 + s1) (v2 + 1)
def f_X9_errandsTold_4 (t_personCount : Int32) (t_errands : Nat → Int32) : Nat → Int32 → Int32 → Option (Int32)
  | 0, _, _ => none
  | n + 1, v1, v2 =>
   if t_personCount ≤ v2 then
    some v1
   else
    if rf_ib v2 8 = true then
    if (t_errands (Int32.toNatClampNeg v2)) ≤ 0 then
     f_X9_errandsTold_27 (f_X9_errandsTold_4 t_personCount t_errands n) t_personCount t_errands v2 v1 0
    else
     f_X9_errandsTold_27 (f_X9_errandsTold_4 t_personCount t_errands n) t_personCount t_errands v2 v1 1
    else none
def f_X9_errandsTold (t_personCount : Int32) (t_errands : Nat → Int32) : Option (Int32) :=
  f_X9_errandsTold_4 t_personCount t_errands rf_fu 0 0
def f_X10_size (x_tapeLength : Int32) (now_hour : Int32) (now_paid : Int32) (acts_count : Int32) (images_count : Int32) (tc_ear : Int32) (tc_pairs : Int32) (tc_wordCount : Int32) (tc_personCount : Int32) (tc_alikeCount : Int32) (tc_gotCount : Int32) (tc_errands : Nat → Int32) (tc_hourEars : Nat → Int32) (v1 : Int32) : Option (Int32) :=
  if v1 = 0 then
   some tc_ear
  else
  if v1 = 1 then
   some tc_pairs
  else
  if v1 = 2 then
   some tc_wordCount
  else
  if v1 = 3 then
   some tc_personCount
  else
  if v1 = 4 then
   some tc_alikeCount
  else
  if v1 = 5 then
   (f_X9_hoursTold tc_hourEars).bind fun z112 =>
   some z112
  else
  if v1 = 6 then
   (f_X9_errandsTold tc_personCount tc_errands).bind fun z120 =>
   some z120
  else
  if v1 = 7 then
   some tc_gotCount
  else
  if v1 = 8 then
   some now_hour
  else
  if v1 = 9 then
   some now_paid
  else
  if v1 = 10 then
   some acts_count
  else
  if v1 = 11 then
   some images_count
  else
  if v1 = 12 then
   some x_tapeLength
  else
   some (-1)
def f_X10_trouble (x_lastTrouble : Int32) : Option (Int32) :=
  some x_lastTrouble
