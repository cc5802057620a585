/-! the reference, as functions -/
def f_X11_thrown (m_thrown : Int32) : Option (Int32) :=
  some m_thrown
def f_X11_feed_76 (k23 : Int32 → Int32 → Int32 → Int32 → Int32 → Int32 → Int32 → Int32 → (Nat → Int32) → Option (Int32 × Int32 × Int32 × (Nat → Int32))) (v1 : Int32) (v2 : Int32) (v3 : Int32) (v4 : Int32) (v5 : Int32) (v6 : Int32) (s0 : Int32) (m_thrown : Int32) (m_taped : Int32) (m_tape : Nat → Int32) : Option (Int32 × Int32 × Int32 × (Nat → Int32)) :=
  if rf_ib m_taped 900 = true then
  k23 v1 v2 v3 v4 v5 (v6 + 1) m_thrown (m_taped + 1) (upd m_tape (Int32.toNatClampNeg m_taped) ((s0 >>> (((24 : Int32) - ((8 : Int32) * (v6 - v6 / 4 * 4))) &&& 31)) &&& 255))
  else none
def f_X11_feed_23 : Nat → Int32 → Int32 → Int32 → Int32 → Int32 → Int32 → Int32 → Int32 → (Nat → Int32) → Option (Int32 × Int32 × Int32 × (Nat → Int32))
  | 0, _, _, _, _, _, _, _, _, _ => none
  | n + 1, v1, v2, v3, v4, v5, v6, m_thrown, m_taped, m_tape =>
   if 20 ≤ v6 then
    some (m_taped, m_thrown, m_taped, m_tape)
   else
    if 4 ≤ v6 then
     if 8 ≤ v6 then
      if 12 ≤ v6 then
       if 16 ≤ v6 then
        f_X11_feed_76 (f_X11_feed_23 n) v1 v2 v3 v4 v5 v6 v5 m_thrown m_taped m_tape
       else
        f_X11_feed_76 (f_X11_feed_23 n) v1 v2 v3 v4 v5 v6 v4 m_thrown m_taped m_tape
      else
       f_X11_feed_76 (f_X11_feed_23 n) v1 v2 v3 v4 v5 v6 v3 m_thrown m_taped m_tape
     else
      f_X11_feed_76 (f_X11_feed_23 n) v1 v2 v3 v4 v5 v6 v2 m_thrown m_taped m_tape
    else
     f_X11_feed_76 (f_X11_feed_23 n) v1 v2 v3 v4 v5 v6 v1 m_thrown m_taped m_tape
def f_X11_feed (m_thrown : Int32) (m_taped : Int32) (m_tape : Nat → Int32) (v1 : Int32) (v2 : Int32) (v3 : Int32) (v4 : Int32) (v5 : Int32) : Option (Int32 × Int32 × Int32 × (Nat → Int32)) :=
  if (m_taped + 20) ≤ 900 then
   f_X11_feed_23 rf_fu v1 v2 v3 v4 v5 0 0 m_taped m_tape
  else
   some ((-1), 0, m_taped, m_tape)
def f_X11_good (m_thrown : Int32) (m_trouble : Int32) : Option (Int32 × Int32) :=
  some (0, 0)
def f_X11_in_14 : Option (Int32) :=
  some 0
def f_X11_in (v0 : Int32) (v1 : Int32) (v2 : Int32) : Option (Int32) :=
  if v0 < v1 then
   f_X11_in_14
  else
   if v2 < v0 then
    f_X11_in_14
   else
    some 1
def f_X11_isDigit_16 : Option (Int32) :=
  some 0
def f_X11_isDigit (v0 : Int32) : Option (Int32) :=
  if v0 < 48 then
   f_X11_isDigit_16
  else
   if 57 < v0 then
    f_X11_isDigit_16
   else
    some 1
def f_X11_isSmall_16 : Option (Int32) :=
  some 0
def f_X11_isSmall (v0 : Int32) : Option (Int32) :=
  if v0 < 97 then
   f_X11_isSmall_16
  else
   if 122 < v0 then
    f_X11_isSmall_16
   else
    some 1
def f_X11_look (m_size : Int32) (m_tape : Nat → Int32) (v1 : Int32) : Option (Int32) :=
  if m_size ≤ v1 then
   some (-1)
  else
   if rf_ib v1 900 = true then
   some (m_tape (Int32.toNatClampNeg v1))
   else none
def f_X11_next_238 (m_size : Int32) (m_tape : Nat → Int32) (s1 : Int32) (m_at : Int32) (m_end : Int32) (m_token : Int32) (m_whole : Int32) (m_nameSize : Int32) (m_letters : Nat → Int32) : Option (Int32 × Int32 × Int32 × Int32 × Int32 × (Nat → Int32)) :=
  some (m_at, m_end, s1, m_whole, m_nameSize, m_letters)
def f_X11_next_213 (m_size : Int32) (m_tape : Nat → Int32) (s1 : Int32) (m_at : Int32) (m_end : Int32) (m_token : Int32) (m_whole : Int32) (m_nameSize : Int32) (m_letters : Nat → Int32) : Option (Int32 × Int32 × Int32 × Int32 × Int32 × (Nat → Int32)) :=
  some (m_at, m_end, s1, m_whole, m_nameSize, m_letters)
def f_X11_next_188 (k152 : Int32 → Int32 → Int32 → Int32 → Int32 → Int32 → Int32 → (Nat → Int32) → Option (Int32 × Int32 × Int32 × Int32 × Int32 × (Nat → Int32))) (m_size : Int32) (m_tape : Nat → Int32) (v1 : Int32) (v3 : Int32) (m_at : Int32) (m_end : Int32) (m_token : Int32) (m_whole : Int32) (m_nameSize : Int32) (m_letters : Nat → Int32) : Option (Int32 × Int32 × Int32 × Int32 × Int32 × (Nat → Int32)) :=
  k152 (v1 + 1) (v3 + 1) m_at m_end m_token m_whole m_nameSize m_letters
def f_X11_next_152 (m_size : Int32) (m_tape : Nat → Int32) : Nat → Int32 → Int32 → Int32 → Int32 → Int32 → Int32 → Int32 → (Nat → Int32) → Option (Int32 × Int32 × Int32 × Int32 × Int32 × (Nat → Int32))
  | 0, _, _, _, _, _, _, _, _ => none
  | n + 1, v1, v3, m_at, m_end, m_token, m_whole, m_nameSize, m_letters =>
   (f_X11_look m_size m_tape v1).bind fun z154 =>
   (f_X11_isDigit z154).bind fun z157 =>
   if z157 = 0 then
    if v3 ≤ 3 then
     f_X11_next_213 m_size m_tape 3 m_at v1 m_token m_whole m_nameSize m_letters
    else
     f_X11_next_213 m_size m_tape 1 m_at v1 m_token m_whole m_nameSize m_letters
   else
    if 3 ≤ v3 then
     f_X11_next_188 (f_X11_next_152 m_size m_tape n) m_size m_tape v1 v3 m_at m_end m_token m_whole m_nameSize m_letters
    else
     (f_X11_look m_size m_tape v1).bind fun z178 =>
     f_X11_next_188 (f_X11_next_152 m_size m_tape n) m_size m_tape v1 v3 m_at m_end m_token ((((10 : Int32) * m_whole) + z178) - 48) m_nameSize m_letters
def f_X11_next_137 (m_size : Int32) (m_tape : Nat → Int32) (s1 : Int32) (m_at : Int32) (m_end : Int32) (m_token : Int32) (m_whole : Int32) (m_nameSize : Int32) (m_letters : Nat → Int32) : Option (Int32 × Int32 × Int32 × Int32 × Int32 × (Nat → Int32)) :=
  some (m_at, m_end, s1, m_whole, m_nameSize, m_letters)
def f_X11_next_101 (k67 : Int32 → Int32 → Int32 → Int32 → Int32 → Int32 → (Nat → Int32) → Option (Int32 × Int32 × Int32 × Int32 × Int32 × (Nat → Int32))) (m_size : Int32) (m_tape : Nat → Int32) (v1 : Int32) (m_at : Int32) (m_end : Int32) (m_token : Int32) (m_whole : Int32) (m_nameSize : Int32) (m_letters : Nat → Int32) : Option (Int32 × Int32 × Int32 × Int32 × Int32 × (Nat → Int32)) :=
  k67 (v1 + 1) m_at m_end m_token m_whole (m_nameSize + 1) m_letters
def f_X11_next_67 (m_size : Int32) (m_tape : Nat → Int32) : Nat → Int32 → Int32 → Int32 → Int32 → Int32 → Int32 → (Nat → Int32) → Option (Int32 × Int32 × Int32 × Int32 × Int32 × (Nat → Int32))
  | 0, _, _, _, _, _, _, _ => none
  | n + 1, v1, m_at, m_end, m_token, m_whole, m_nameSize, m_letters =>
   (f_X11_look m_size m_tape v1).bind fun z69 =>
   (f_X11_isSmall z69).bind fun z72 =>
   if z72 = 0 then
    if m_nameSize ≤ 8 then
     f_X11_next_137 m_size m_tape 2 m_at v1 m_token m_whole m_nameSize m_letters
    else
     f_X11_next_137 m_size m_tape 1 m_at v1 m_token m_whole m_nameSize m_letters
   else
    if 8 ≤ m_nameSize then
     f_X11_next_101 (f_X11_next_67 m_size m_tape n) m_size m_tape v1 m_at m_end m_token m_whole m_nameSize m_letters
    else
     (f_X11_look m_size m_tape v1).bind fun z97 =>
     if rf_ib m_nameSize 8 = true then
     f_X11_next_101 (f_X11_next_67 m_size m_tape n) m_size m_tape v1 m_at m_end m_token m_whole m_nameSize (upd m_letters (Int32.toNatClampNeg m_nameSize) z97)
     else none
def f_X11_next_5 (m_size : Int32) (m_tape : Nat → Int32) : Nat → Int32 → Int32 → Int32 → Int32 → Int32 → Int32 → (Nat → Int32) → Option (Int32 × Int32 × Int32 × Int32 × Int32 × (Nat → Int32))
  | 0, _, _, _, _, _, _, _ => none
  | n + 1, v1, m_at, m_end, m_token, m_whole, m_nameSize, m_letters =>
   (f_X11_look m_size m_tape v1).bind fun z7 =>
   if z7 = 32 then
    f_X11_next_5 m_size m_tape n (v1 + 1) m_at m_end m_token m_whole m_nameSize m_letters
   else
    (f_X11_look m_size m_tape v1).bind fun z28 =>
    if z28 = (-1) then
     some (v1, v1, 0, 0, 0, m_letters)
    else
     (f_X11_isSmall z28).bind fun z61 =>
     if z61 = 0 then
      (f_X11_isDigit z28).bind fun z144 =>
      if z144 = 0 then
       if z28 = 59 then
        f_X11_next_238 m_size m_tape z28 v1 (v1 + 1) m_token 0 0 m_letters
       else
        f_X11_next_238 m_size m_tape 1 v1 (v1 + 1) m_token 0 0 m_letters
      else
       f_X11_next_152 m_size m_tape rf_fu v1 0 v1 m_end m_token 0 0 m_letters
     else
      f_X11_next_67 m_size m_tape rf_fu v1 v1 m_end m_token 0 0 m_letters
def f_X11_next (m_size : Int32) (m_tape : Nat → Int32) (m_at : Int32) (m_end : Int32) (m_token : Int32) (m_whole : Int32) (m_nameSize : Int32) (m_letters : Nat → Int32) : Option (Int32 × Int32 × Int32 × Int32 × Int32 × (Nat → Int32)) :=
  f_X11_next_5 m_size m_tape rf_fu m_end m_at m_end m_token m_whole m_nameSize m_letters
def f_X11_no (m_trouble : Int32) (v1 : Int32) : Option (Int32 × Int32) :=
  some ((-1), v1)
def f_X11_hasBit (v0 : Int32) (v1 : Int32) : Option (Int32) :=
  if ((v0 >>> (v1 &&& 31)) &&& 1) = 1 then
   some 1
  else
   some 0
def f_X11_areLetters_37 (k4 : Int32 → Int32 → Option (Int32)) (m_nameSize : Int32) (m_letters : Nat → Int32) (v2 : Int32) (s0 : Int32) : Option (Int32) :=
  k4 s0 (v2 + 1)
def f_X11_areLetters_36 (k4 : Int32 → Int32 → Option (Int32)) (m_nameSize : Int32) (m_letters : Nat → Int32) (v2 : Int32) : Option (Int32) :=
  f_X11_areLetters_37 k4 m_nameSize m_letters v2 0
def f_X11_areLetters_4 (m_nameSize : Int32) (m_letters : Nat → Int32) : Nat → Int32 → Int32 → Option (Int32)
  | 0, _, _ => none
  | n + 1, v1, v2 =>
   if m_nameSize ≤ v2 then
    if rf_zb v1 = true then
    some v1
    else none
   else
    if v1 = 0 then
     f_X11_areLetters_36 (f_X11_areLetters_4 m_nameSize m_letters n) m_nameSize m_letters v2
    else
     if rf_ib v2 8 = true then
     (f_X11_in (m_letters (Int32.toNatClampNeg v2)) 97 104).bind fun z26 =>
     if z26 = 0 then
      f_X11_areLetters_36 (f_X11_areLetters_4 m_nameSize m_letters n) m_nameSize m_letters v2
     else
      f_X11_areLetters_37 (f_X11_areLetters_4 m_nameSize m_letters n) m_nameSize m_letters v2 1
     else none
def f_X11_areLetters (m_nameSize : Int32) (m_letters : Nat → Int32) : Option (Int32) :=
  f_X11_areLetters_4 m_nameSize m_letters rf_fu 1 0
def f_X11_wrong (m_fault : Int32) (m_place : Int32) (m_failed : Int32) (v1 : Int32) (v2 : Int32) : Option (Int32 × Int32 × Int32) :=
  if m_failed = 0 then
   some (v1, v2, 1)
  else
   some (m_fault, m_place, m_failed)
def f_X11_letterHere_54 (m_at : Int32) (m_token : Int32) (m_nameSize : Int32) (m_letters : Nat → Int32) (m_fault : Int32) (m_place : Int32) (m_failed : Int32) : Option (Int32 × Int32 × Int32 × Int32) :=
  if m_failed = 0 then
   some ((m_letters (Int32.toNatClampNeg 0)) - 97, m_fault, m_place, m_failed)
  else
   some (0, m_fault, m_place, m_failed)
def f_X11_letterHere_44 (m_at : Int32) (m_token : Int32) (m_nameSize : Int32) (m_letters : Nat → Int32) (m_fault : Int32) (m_place : Int32) (m_failed : Int32) : Option (Int32 × Int32 × Int32 × Int32) :=
  (f_X11_wrong m_fault m_place m_failed 7 m_at).bind fun z51 =>
  f_X11_letterHere_54 m_at m_token m_nameSize m_letters z51.1 z51.2.1 z51.2.2
def f_X11_letterHere (m_at : Int32) (m_token : Int32) (m_nameSize : Int32) (m_letters : Nat → Int32) (m_fault : Int32) (m_place : Int32) (m_failed : Int32) : Option (Int32 × Int32 × Int32 × Int32) :=
  if m_failed = 0 then
   if m_token = 2 then
    if m_nameSize = 1 then
     (f_X11_areLetters m_nameSize m_letters).bind fun z38 =>
     if z38 = 0 then
      f_X11_letterHere_44 m_at m_token m_nameSize m_letters m_fault m_place m_failed
     else
      f_X11_letterHere_54 m_at m_token m_nameSize m_letters m_fault m_place m_failed
    else
     f_X11_letterHere_44 m_at m_token m_nameSize m_letters m_fault m_place m_failed
   else
    (f_X11_wrong m_fault m_place m_failed 1 m_at).bind fun z23 =>
    f_X11_letterHere_54 m_at m_token m_nameSize m_letters z23.1 z23.2.1 z23.2.2
  else
   some (0, m_fault, m_place, m_failed)
def f_X11_alikeLine_66 (m_size : Int32) (m_tape : Nat → Int32) (v1 : Int32) (v2 : Int32) (m_at : Int32) (m_end : Int32) (m_token : Int32) (m_whole : Int32) (m_nameSize : Int32) (m_fault : Int32) (m_place : Int32) (m_failed : Int32) (m_letters : Nat → Int32) (m_fresh : Nat → Int32) : Option (Int32 × Int32 × Int32 × Int32 × Int32 × Int32 × Int32 × Int32 × (Nat → Int32) × (Nat → Int32)) :=
  if m_failed = 0 then
   (f_X11_next m_size m_tape m_at m_end m_token m_whole m_nameSize m_letters).bind fun z75 =>
   if rf_ib ((121 : Int32) + v1) 333 = true then
   if rf_ib ((121 : Int32) + v1) 333 = true then
   if rf_ib ((121 : Int32) + v2) 333 = true then
   if rf_ib ((121 : Int32) + v2) 333 = true then
   some (z75.1, z75.2.1, z75.2.2.1, z75.2.2.2.1, z75.2.2.2.2.1, m_fault, m_place, m_failed, z75.2.2.2.2.2, upd (upd (upd m_fresh (Int32.toNatClampNeg ((121 : Int32) + v1)) ((m_fresh (Int32.toNatClampNeg ((121 : Int32) + v1))) ||| ((1 : Int32) <<< (v2 &&& 31)))) (Int32.toNatClampNeg ((121 : Int32) + v2)) (((upd m_fresh (Int32.toNatClampNeg ((121 : Int32) + v1)) ((m_fresh (Int32.toNatClampNeg ((121 : Int32) + v1))) ||| ((1 : Int32) <<< (v2 &&& 31)))) (Int32.toNatClampNeg ((121 : Int32) + v2))) ||| ((1 : Int32) <<< (v1 &&& 31)))) (Int32.toNatClampNeg 4) (((upd (upd m_fresh (Int32.toNatClampNeg ((121 : Int32) + v1)) ((m_fresh (Int32.toNatClampNeg ((121 : Int32) + v1))) ||| ((1 : Int32) <<< (v2 &&& 31)))) (Int32.toNatClampNeg ((121 : Int32) + v2)) (((upd m_fresh (Int32.toNatClampNeg ((121 : Int32) + v1)) ((m_fresh (Int32.toNatClampNeg ((121 : Int32) + v1))) ||| ((1 : Int32) <<< (v2 &&& 31)))) (Int32.toNatClampNeg ((121 : Int32) + v2))) ||| ((1 : Int32) <<< (v1 &&& 31)))) (Int32.toNatClampNeg 4)) + 1))
   else none
   else none
   else none
   else none
  else
   some (m_at, m_end, m_token, m_whole, m_nameSize, m_fault, m_place, m_failed, m_letters, m_fresh)
def f_X11_alikeLine_57 (m_size : Int32) (m_tape : Nat → Int32) (v1 : Int32) (v2 : Int32) (m_at : Int32) (m_end : Int32) (m_token : Int32) (m_whole : Int32) (m_nameSize : Int32) (m_fault : Int32) (m_place : Int32) (m_failed : Int32) (m_letters : Nat → Int32) (m_fresh : Nat → Int32) : Option (Int32 × Int32 × Int32 × Int32 × Int32 × Int32 × Int32 × Int32 × (Nat → Int32) × (Nat → Int32)) :=
  (f_X11_wrong m_fault m_place m_failed 3 m_at).bind fun z63 =>
  f_X11_alikeLine_66 m_size m_tape v1 v2 m_at m_end m_token m_whole m_nameSize z63.1 z63.2.1 z63.2.2 m_letters m_fresh
def f_X11_alikeLine_24 (m_size : Int32) (m_tape : Nat → Int32) (v1 : Int32) (m_at : Int32) (m_end : Int32) (m_token : Int32) (m_whole : Int32) (m_nameSize : Int32) (m_fault : Int32) (m_place : Int32) (m_failed : Int32) (m_letters : Nat → Int32) (m_fresh : Nat → Int32) : Option (Int32 × Int32 × Int32 × Int32 × Int32 × Int32 × Int32 × Int32 × (Nat → Int32) × (Nat → Int32)) :=
  (f_X11_letterHere m_at m_token m_nameSize m_letters m_fault m_place m_failed).bind fun z25 =>
  if z25.2.2.2 = 0 then
   if v1 = z25.1 then
    f_X11_alikeLine_57 m_size m_tape v1 z25.1 m_at m_end m_token m_whole m_nameSize z25.2.1 z25.2.2.1 z25.2.2.2 m_letters m_fresh
   else
    if rf_ib ((121 : Int32) + v1) 333 = true then
    (f_X11_hasBit (m_fresh (Int32.toNatClampNeg ((121 : Int32) + v1))) z25.1).bind fun z51 =>
    if z51 = 0 then
     f_X11_alikeLine_66 m_size m_tape v1 z25.1 m_at m_end m_token m_whole m_nameSize z25.2.1 z25.2.2.1 z25.2.2.2 m_letters m_fresh
    else
     f_X11_alikeLine_57 m_size m_tape v1 z25.1 m_at m_end m_token m_whole m_nameSize z25.2.1 z25.2.2.1 z25.2.2.2 m_letters m_fresh
    else none
  else
   f_X11_alikeLine_66 m_size m_tape v1 z25.1 m_at m_end m_token m_whole m_nameSize z25.2.1 z25.2.2.1 z25.2.2.2 m_letters m_fresh
def f_X11_alikeLine (m_size : Int32) (m_tape : Nat → Int32) (m_at : Int32) (m_end : Int32) (m_token : Int32) (m_whole : Int32) (m_nameSize : Int32) (m_fault : Int32) (m_place : Int32) (m_failed : Int32) (m_letters : Nat → Int32) (m_fresh : Nat → Int32) : Option (Int32 × Int32 × Int32 × Int32 × Int32 × Int32 × Int32 × Int32 × (Nat → Int32) × (Nat → Int32)) :=
  if m_failed = 0 then
   (f_X11_letterHere m_at m_token m_nameSize m_letters m_fault m_place m_failed).bind fun z9 =>
   if z9.2.2.2 = 0 then
    (f_X11_next m_size m_tape m_at m_end m_token m_whole m_nameSize m_letters).bind fun z21 =>
    f_X11_alikeLine_24 m_size m_tape z9.1 z21.1 z21.2.1 z21.2.2.1 z21.2.2.2.1 z21.2.2.2.2.1 z9.2.1 z9.2.2.1 z9.2.2.2 z21.2.2.2.2.2 m_fresh
   else
    f_X11_alikeLine_24 m_size m_tape z9.1 m_at m_end m_token m_whole m_nameSize z9.2.1 z9.2.2.1 z9.2.2.2 m_letters m_fresh
  else
   some (m_at, m_end, m_token, m_whole, m_nameSize, m_fault, m_place, m_failed, m_letters, m_fresh)
def f_X11_isWord_26 (m_token : Int32) (m_nameSize : Int32) (m_failed : Int32) (m_letters : Nat → Int32) : Option (Int32) :=
  some 0
def f_X11_isWord_63 (k32 : Nat → Int32 → Int32 → Option (Int32)) (m_token : Int32) (m_nameSize : Int32) (m_failed : Int32) (m_letters : Nat → Int32) (v1 : Nat) (v3 : Int32) (s0 : Int32) : Option (Int32) :=
  k32 v1 s0 (v3 + 1)
def f_X11_isWord_62 (k32 : Nat → Int32 → Int32 → Option (Int32)) (m_token : Int32) (m_nameSize : Int32) (m_failed : Int32) (m_letters : Nat → Int32) (v1 : Nat) (v3 : Int32) : Option (Int32) :=
  f_X11_isWord_63 k32 m_token m_nameSize m_failed m_letters v1 v3 0
def f_X11_isWord_32 (m_token : Int32) (m_nameSize : Int32) (m_failed : Int32) (m_letters : Nat → Int32) : Nat → Nat → Int32 → Int32 → Option (Int32)
  | 0, _, _, _ => none
  | n + 1, v1, v2, v3 =>
   if m_nameSize ≤ v3 then
    if rf_zb v2 = true then
    some v2
    else none
   else
    if v2 = 0 then
     f_X11_isWord_62 (f_X11_isWord_32 m_token m_nameSize m_failed m_letters n) m_token m_nameSize m_failed m_letters v1 v3
    else
     if rf_ib v3 8 = true then
     if rf_ib v3 (rf_len v1) = true then
     if (m_letters (Int32.toNatClampNeg v3)) = (rf_byt v1 (Int32.toNatClampNeg v3)) then
      f_X11_isWord_63 (f_X11_isWord_32 m_token m_nameSize m_failed m_letters n) m_token m_nameSize m_failed m_letters v1 v3 1
     else
      f_X11_isWord_62 (f_X11_isWord_32 m_token m_nameSize m_failed m_letters n) m_token m_nameSize m_failed m_letters v1 v3
     else none
     else none
def f_X11_isWord (m_token : Int32) (m_nameSize : Int32) (m_failed : Int32) (m_letters : Nat → Int32) (v1 : Nat) : Option (Int32) :=
  if m_failed = 0 then
   if m_token = 2 then
    if m_nameSize = (nI (rf_len v1)) then
     f_X11_isWord_32 m_token m_nameSize m_failed m_letters rf_fu v1 1 0
    else
     f_X11_isWord_26 m_token m_nameSize m_failed m_letters
   else
    f_X11_isWord_26 m_token m_nameSize m_failed m_letters
  else
   f_X11_isWord_26 m_token m_nameSize m_failed m_letters
def f_X11_begins_53 (m_size : Int32) (m_tape : Nat → Int32) (m_fresh : Nat → Int32) (m_at : Int32) (m_end : Int32) (m_token : Int32) (m_whole : Int32) (m_nameSize : Int32) (m_fault : Int32) (m_place : Int32) (m_failed : Int32) (m_letters : Nat → Int32) : Option (Int32 × Int32 × Int32 × Int32 × Int32 × Int32 × Int32 × Int32 × Int32 × (Nat → Int32)) :=
  some (1, m_at, m_end, m_token, m_whole, m_nameSize, m_fault, m_place, m_failed, m_letters)
def f_X11_begins_42 (m_size : Int32) (m_tape : Nat → Int32) (m_fresh : Nat → Int32) (m_at : Int32) (m_end : Int32) (m_token : Int32) (m_whole : Int32) (m_nameSize : Int32) (m_fault : Int32) (m_place : Int32) (m_failed : Int32) (m_letters : Nat → Int32) : Option (Int32 × Int32 × Int32 × Int32 × Int32 × Int32 × Int32 × Int32 × Int32 × (Nat → Int32)) :=
  if m_failed = 0 then
   (f_X11_next m_size m_tape m_at m_end m_token m_whole m_nameSize m_letters).bind fun z50 =>
   f_X11_begins_53 m_size m_tape m_fresh z50.1 z50.2.1 z50.2.2.1 z50.2.2.2.1 z50.2.2.2.2.1 m_fault m_place m_failed z50.2.2.2.2.2
  else
   f_X11_begins_53 m_size m_tape m_fresh m_at m_end m_token m_whole m_nameSize m_fault m_place m_failed m_letters
def f_X11_begins_23 (m_size : Int32) (m_tape : Nat → Int32) (m_fresh : Nat → Int32) (m_at : Int32) (m_end : Int32) (m_token : Int32) (m_whole : Int32) (m_nameSize : Int32) (m_fault : Int32) (m_place : Int32) (m_failed : Int32) (m_letters : Nat → Int32) : Option (Int32 × Int32 × Int32 × Int32 × Int32 × Int32 × Int32 × Int32 × Int32 × (Nat → Int32)) :=
  if (m_fresh (Int32.toNatClampNeg 0)) = 0 then
   (f_X11_wrong m_fault m_place m_failed 6 m_at).bind fun z39 =>
   f_X11_begins_42 m_size m_tape m_fresh m_at m_end m_token m_whole m_nameSize z39.1 z39.2.1 z39.2.2 m_letters
  else
   f_X11_begins_42 m_size m_tape m_fresh m_at m_end m_token m_whole m_nameSize m_fault m_place m_failed m_letters
def f_X11_begins (m_size : Int32) (m_tape : Nat → Int32) (m_fresh : Nat → Int32) (m_at : Int32) (m_end : Int32) (m_token : Int32) (m_whole : Int32) (m_nameSize : Int32) (m_fault : Int32) (m_place : Int32) (m_failed : Int32) (m_letters : Nat → Int32) (v1 : Nat) (v2 : Int32) : Option (Int32 × Int32 × Int32 × Int32 × Int32 × Int32 × Int32 × Int32 × Int32 × (Nat → Int32)) :=
  (f_X11_isWord m_token m_nameSize m_failed m_letters v1).bind fun z2 =>
  if z2 = 0 then
   some (0, m_at, m_end, m_token, m_whole, m_nameSize, m_fault, m_place, m_failed, m_letters)
  else
   if v2 = 0 then
    (f_X11_wrong m_fault m_place m_failed 5 m_at).bind fun z20 =>
    f_X11_begins_23 m_size m_tape m_fresh m_at m_end m_token m_whole m_nameSize z20.1 z20.2.1 z20.2.2 m_letters
   else
    f_X11_begins_23 m_size m_tape m_fresh m_at m_end m_token m_whole m_nameSize m_fault m_place m_failed m_letters
def f_X11_takesWord (m_size : Int32) (m_failed : Int32) (m_tape : Nat → Int32) (m_at : Int32) (m_end : Int32) (m_token : Int32) (m_whole : Int32) (m_nameSize : Int32) (m_letters : Nat → Int32) (v1 : Nat) : Option (Int32 × Int32 × Int32 × Int32 × Int32 × Int32 × (Nat → Int32)) :=
  (f_X11_isWord m_token m_nameSize m_failed m_letters v1).bind fun z2 =>
  if z2 = 0 then
   some (0, m_at, m_end, m_token, m_whole, m_nameSize, m_letters)
  else
   (f_X11_next m_size m_tape m_at m_end m_token m_whole m_nameSize m_letters).bind fun z11 =>
   some (1, z11.1, z11.2.1, z11.2.2.1, z11.2.2.2.1, z11.2.2.2.2.1, z11.2.2.2.2.2)
def f_X11_must (m_size : Int32) (m_tape : Nat → Int32) (m_at : Int32) (m_end : Int32) (m_token : Int32) (m_whole : Int32) (m_nameSize : Int32) (m_fault : Int32) (m_place : Int32) (m_failed : Int32) (m_letters : Nat → Int32) (v1 : Nat) : Option (Int32 × Int32 × Int32 × Int32 × Int32 × Int32 × Int32 × Int32 × (Nat → Int32)) :=
  if m_failed = 0 then
   (f_X11_takesWord m_size m_failed m_tape m_at m_end m_token m_whole m_nameSize m_letters v1).bind fun z9 =>
   if z9.1 = 0 then
    (f_X11_wrong m_fault m_place m_failed 1 z9.2.1).bind fun z21 =>
    some (z9.2.1, z9.2.2.1, z9.2.2.2.1, z9.2.2.2.2.1, z9.2.2.2.2.2.1, z21.1, z21.2.1, z21.2.2, z9.2.2.2.2.2.2)
   else
    some (z9.2.1, z9.2.2.1, z9.2.2.2.1, z9.2.2.2.2.1, z9.2.2.2.2.2.1, m_fault, m_place, m_failed, z9.2.2.2.2.2.2)
  else
   some (m_at, m_end, m_token, m_whole, m_nameSize, m_fault, m_place, m_failed, m_letters)
def f_X11_numberHere_50 (m_at : Int32) (m_token : Int32) (m_whole : Int32) (v1 : Int32) (m_fault : Int32) (m_place : Int32) (m_failed : Int32) : Option (Int32 × Int32 × Int32 × Int32) :=
  if m_failed = 0 then
   some (m_whole, m_fault, m_place, m_failed)
  else
   some (v1, m_fault, m_place, m_failed)
def f_X11_numberHere (m_at : Int32) (m_token : Int32) (m_whole : Int32) (m_fault : Int32) (m_place : Int32) (m_failed : Int32) (v1 : Int32) (v2 : Int32) : Option (Int32 × Int32 × Int32 × Int32) :=
  if m_failed = 0 then
   if m_token = 3 then
    (f_X11_in m_whole v1 v2).bind fun z35 =>
    if z35 = 0 then
     (f_X11_wrong m_fault m_place m_failed 4 m_at).bind fun z47 =>
     f_X11_numberHere_50 m_at m_token m_whole v1 z47.1 z47.2.1 z47.2.2
    else
     f_X11_numberHere_50 m_at m_token m_whole v1 m_fault m_place m_failed
   else
    (f_X11_wrong m_fault m_place m_failed 1 m_at).bind fun z23 =>
    f_X11_numberHere_50 m_at m_token m_whole v1 z23.1 z23.2.1 z23.2.2
  else
   some (v1, m_fault, m_place, m_failed)
def f_X11_number_18 (m_size : Int32) (m_tape : Nat → Int32) (v3 : Int32) (m_at : Int32) (m_end : Int32) (m_token : Int32) (m_whole : Int32) (m_nameSize : Int32) (m_fault : Int32) (m_place : Int32) (m_failed : Int32) (m_letters : Nat → Int32) : Option (Int32 × Int32 × Int32 × Int32 × Int32 × Int32 × Int32 × Int32 × Int32 × (Nat → Int32)) :=
  some (v3, m_at, m_end, m_token, m_whole, m_nameSize, m_fault, m_place, m_failed, m_letters)
def f_X11_number (m_size : Int32) (m_tape : Nat → Int32) (m_at : Int32) (m_end : Int32) (m_token : Int32) (m_whole : Int32) (m_nameSize : Int32) (m_fault : Int32) (m_place : Int32) (m_failed : Int32) (m_letters : Nat → Int32) (v1 : Int32) (v2 : Int32) : Option (Int32 × Int32 × Int32 × Int32 × Int32 × Int32 × Int32 × Int32 × Int32 × (Nat → Int32)) :=
  (f_X11_numberHere m_at m_token m_whole m_fault m_place m_failed v1 v2).bind fun z3 =>
  if z3.2.2.2 = 0 then
   (f_X11_next m_size m_tape m_at m_end m_token m_whole m_nameSize m_letters).bind fun z15 =>
   f_X11_number_18 m_size m_tape z3.1 z15.1 z15.2.1 z15.2.2.1 z15.2.2.2.1 z15.2.2.2.2.1 z3.2.1 z3.2.2.1 z3.2.2.2 z15.2.2.2.2.2
  else
   f_X11_number_18 m_size m_tape z3.1 m_at m_end m_token m_whole m_nameSize z3.2.1 z3.2.2.1 z3.2.2.2 m_letters
def f_X11_after (m_size : Int32) (m_tape : Nat → Int32) (m_at : Int32) (m_end : Int32) (m_token : Int32) (m_whole : Int32) (m_nameSize : Int32) (m_fault : Int32) (m_place : Int32) (m_failed : Int32) (m_letters : Nat → Int32) (v1 : Nat) (v2 : Int32) (v3 : Int32) : Option (Int32 × Int32 × Int32 × Int32 × Int32 × Int32 × Int32 × Int32 × Int32 × (Nat → Int32)) :=
  (f_X11_must m_size m_tape m_at m_end m_token m_whole m_nameSize m_fault m_place m_failed m_letters v1).bind fun z2 =>
  (f_X11_number m_size m_tape z2.1 z2.2.1 z2.2.2.1 z2.2.2.2.1 z2.2.2.2.2.1 z2.2.2.2.2.2.1 z2.2.2.2.2.2.2.1 z2.2.2.2.2.2.2.2.1 z2.2.2.2.2.2.2.2.2 v2 v3).bind fun z8 =>
  some (z8.1, z8.2.1, z8.2.2.1, z8.2.2.2.1, z8.2.2.2.2.1, z8.2.2.2.2.2.1, z8.2.2.2.2.2.2.1, z8.2.2.2.2.2.2.2.1, z8.2.2.2.2.2.2.2.2.1, z8.2.2.2.2.2.2.2.2.2)
def f_X11_find_94 (k2 : Int32 → Option (Int32)) (m_nameSize : Int32) (m_letters : Nat → Int32) (m_fresh : Nat → Int32) (v1 : Int32) (v2 : Int32) : Option (Int32) :=
  if v2 = 0 then
   k2 (v1 + 1)
  else
   some v1
def f_X11_find_87 (k2 : Int32 → Option (Int32)) (k46 : Int32 → Int32 → Int32 → Option (Int32)) (m_nameSize : Int32) (m_letters : Nat → Int32) (m_fresh : Nat → Int32) (v1 : Int32) (v3 : Int32) (s0 : Int32) : Option (Int32) :=
  k46 v1 s0 (v3 + 1)
def f_X11_find_46 (k2 : Int32 → Option (Int32)) (m_nameSize : Int32) (m_letters : Nat → Int32) (m_fresh : Nat → Int32) : Nat → Int32 → Int32 → Int32 → Option (Int32)
  | 0, _, _, _ => none
  | n + 1, v1, v2, v3 =>
   if m_nameSize ≤ v3 then
    f_X11_find_94 k2 m_nameSize m_letters m_fresh v1 v2
   else
    if v2 = 0 then
     f_X11_find_94 k2 m_nameSize m_letters m_fresh v1 v2
    else
     if rf_ib (((189 : Int32) + ((8 : Int32) * v1)) + v3) 333 = true then
     if rf_ib v3 8 = true then
     if (m_fresh (Int32.toNatClampNeg (((189 : Int32) + ((8 : Int32) * v1)) + v3))) = (m_letters (Int32.toNatClampNeg v3)) then
      f_X11_find_87 k2 (f_X11_find_46 k2 m_nameSize m_letters m_fresh n) m_nameSize m_letters m_fresh v1 v3 1
     else
      f_X11_find_87 k2 (f_X11_find_46 k2 m_nameSize m_letters m_fresh n) m_nameSize m_letters m_fresh v1 v3 0
     else none
     else none
def f_X11_find_43 (k2 : Int32 → Option (Int32)) (m_nameSize : Int32) (m_letters : Nat → Int32) (m_fresh : Nat → Int32) (v1 : Int32) (s0 : Int32) : Option (Int32) :=
  f_X11_find_46 k2 m_nameSize m_letters m_fresh rf_fu v1 s0 0
def f_X11_find_42 (k2 : Int32 → Option (Int32)) (m_nameSize : Int32) (m_letters : Nat → Int32) (m_fresh : Nat → Int32) (v1 : Int32) : Option (Int32) :=
  f_X11_find_43 k2 m_nameSize m_letters m_fresh v1 0
def f_X11_find_2 (m_nameSize : Int32) (m_letters : Nat → Int32) (m_fresh : Nat → Int32) : Nat → Int32 → Option (Int32)
  | 0, _ => none
  | n + 1, v1 =>
   if 18 ≤ v1 then
    some (-1)
   else
    if rf_ib ((171 : Int32) + v1) 333 = true then
    if (m_fresh (Int32.toNatClampNeg ((171 : Int32) + v1))) ≤ 0 then
     f_X11_find_42 (f_X11_find_2 m_nameSize m_letters m_fresh n) m_nameSize m_letters m_fresh v1
    else
     if rf_ib ((171 : Int32) + v1) 333 = true then
     if (m_fresh (Int32.toNatClampNeg ((171 : Int32) + v1))) = m_nameSize then
      f_X11_find_43 (f_X11_find_2 m_nameSize m_letters m_fresh n) m_nameSize m_letters m_fresh v1 1
     else
      f_X11_find_42 (f_X11_find_2 m_nameSize m_letters m_fresh n) m_nameSize m_letters m_fresh v1
     else none
    else none
def f_X11_find (m_nameSize : Int32) (m_letters : Nat → Int32) (m_fresh : Nat → Int32) : Option (Int32) :=
  f_X11_find_2 m_nameSize m_letters m_fresh rf_fu 0
def f_X11_mustName_80 (m_at : Int32) (m_token : Int32) (m_nameSize : Int32) (m_letters : Nat → Int32) (m_fault : Int32) (m_place : Int32) (m_failed : Int32) : Option (Int32 × Int32 × Int32) :=
  (f_X11_wrong m_fault m_place m_failed 1 m_at).bind fun z86 =>
  some (z86.1, z86.2.1, z86.2.2)
def f_X11_mustName (m_at : Int32) (m_token : Int32) (m_nameSize : Int32) (m_letters : Nat → Int32) (m_fault : Int32) (m_place : Int32) (m_failed : Int32) : Option (Int32 × Int32 × Int32) :=
  if m_token = 2 then
   (f_X11_isWord m_token m_nameSize m_failed m_letters 24).bind fun z11 =>
   if z11 = 0 then
    (f_X11_isWord m_token m_nameSize m_failed m_letters 27).bind fun z20 =>
    if z20 = 0 then
     (f_X11_isWord m_token m_nameSize m_failed m_letters 28).bind fun z29 =>
     if z29 = 0 then
      (f_X11_isWord m_token m_nameSize m_failed m_letters 29).bind fun z38 =>
      if z38 = 0 then
       (f_X11_isWord m_token m_nameSize m_failed m_letters 30).bind fun z47 =>
       if z47 = 0 then
        (f_X11_isWord m_token m_nameSize m_failed m_letters 31).bind fun z56 =>
        if z56 = 0 then
         (f_X11_isWord m_token m_nameSize m_failed m_letters 32).bind fun z65 =>
         if z65 = 0 then
          (f_X11_isWord m_token m_nameSize m_failed m_letters 33).bind fun z74 =>
          if z74 = 0 then
           some (m_fault, m_place, m_failed)
          else
           f_X11_mustName_80 m_at m_token m_nameSize m_letters m_fault m_place m_failed
         else
          f_X11_mustName_80 m_at m_token m_nameSize m_letters m_fault m_place m_failed
        else
         f_X11_mustName_80 m_at m_token m_nameSize m_letters m_fault m_place m_failed
       else
        f_X11_mustName_80 m_at m_token m_nameSize m_letters m_fault m_place m_failed
      else
       f_X11_mustName_80 m_at m_token m_nameSize m_letters m_fault m_place m_failed
     else
      f_X11_mustName_80 m_at m_token m_nameSize m_letters m_fault m_place m_failed
    else
     f_X11_mustName_80 m_at m_token m_nameSize m_letters m_fault m_place m_failed
   else
    f_X11_mustName_80 m_at m_token m_nameSize m_letters m_fault m_place m_failed
  else
   f_X11_mustName_80 m_at m_token m_nameSize m_letters m_fault m_place m_failed
def f_X11_named_45 (m_at : Int32) (m_token : Int32) (m_nameSize : Int32) (m_letters : Nat → Int32) (m_fresh : Nat → Int32) (v1 : Int32) (v3 : Int32) (m_fault : Int32) (m_place : Int32) (m_failed : Int32) : Option (Int32 × Int32 × Int32 × Int32) :=
  if m_failed = 0 then
   some (v3 - v1, m_fault, m_place, m_failed)
  else
   some (0, m_fault, m_place, m_failed)
def f_X11_named (m_at : Int32) (m_token : Int32) (m_nameSize : Int32) (m_letters : Nat → Int32) (m_fresh : Nat → Int32) (m_fault : Int32) (m_place : Int32) (m_failed : Int32) (v1 : Int32) (v2 : Int32) : Option (Int32 × Int32 × Int32 × Int32) :=
  if m_failed = 0 then
   (f_X11_mustName m_at m_token m_nameSize m_letters m_fault m_place m_failed).bind fun z10 =>
   if z10.2.2 = 0 then
    (f_X11_find m_nameSize m_letters m_fresh).bind fun z23 =>
    (f_X11_in z23 v1 v2).bind fun z30 =>
    if z30 = 0 then
     (f_X11_wrong z10.1 z10.2.1 z10.2.2 2 m_at).bind fun z42 =>
     f_X11_named_45 m_at m_token m_nameSize m_letters m_fresh v1 z23 z42.1 z42.2.1 z42.2.2
    else
     f_X11_named_45 m_at m_token m_nameSize m_letters m_fresh v1 z23 z10.1 z10.2.1 z10.2.2
   else
    some (0, z10.1, z10.2.1, z10.2.2)
  else
   some (0, m_fault, m_place, m_failed)
def f_X11_personHere (m_at : Int32) (m_token : Int32) (m_nameSize : Int32) (m_letters : Nat → Int32) (m_fresh : Nat → Int32) (m_fault : Int32) (m_place : Int32) (m_failed : Int32) : Option (Int32 × Int32 × Int32 × Int32) :=
  (f_X11_named m_at m_token m_nameSize m_letters m_fresh m_fault m_place m_failed 10 17).bind fun z5 =>
  some (z5.1, z5.2.1, z5.2.2.1, z5.2.2.2)
def f_X11_errandLine_45 (m_size : Int32) (m_tape : Nat → Int32) (v1 : Int32) (m_at : Int32) (m_end : Int32) (m_token : Int32) (m_whole : Int32) (m_nameSize : Int32) (m_fault : Int32) (m_place : Int32) (m_failed : Int32) (m_letters : Nat → Int32) (m_fresh : Nat → Int32) : Option (Int32 × Int32 × Int32 × Int32 × Int32 × Int32 × Int32 × Int32 × (Nat → Int32) × (Nat → Int32)) :=
  if m_failed = 0 then
   (f_X11_next m_size m_tape m_at m_end m_token m_whole m_nameSize m_letters).bind fun z54 =>
   (f_X11_after m_size m_tape z54.1 z54.2.1 z54.2.2.1 z54.2.2.2.1 z54.2.2.2.2.1 m_fault m_place m_failed z54.2.2.2.2.2 45 1 4).bind fun z63 =>
   if z63.2.2.2.2.2.2.2.2.1 = 0 then
    if rf_ib (((89 : Int32) + ((4 : Int32) * v1)) + 3) 333 = true then
    some (z63.2.1, z63.2.2.1, z63.2.2.2.1, z63.2.2.2.2.1, z63.2.2.2.2.2.1, z63.2.2.2.2.2.2.1, z63.2.2.2.2.2.2.2.1, z63.2.2.2.2.2.2.2.2.1, z63.2.2.2.2.2.2.2.2.2, upd (upd m_fresh (Int32.toNatClampNeg (((89 : Int32) + ((4 : Int32) * v1)) + 3)) z63.1) (Int32.toNatClampNeg 6) (((upd m_fresh (Int32.toNatClampNeg (((89 : Int32) + ((4 : Int32) * v1)) + 3)) z63.1) (Int32.toNatClampNeg 6)) + 1))
    else none
   else
    some (z63.2.1, z63.2.2.1, z63.2.2.2.1, z63.2.2.2.2.1, z63.2.2.2.2.2.1, z63.2.2.2.2.2.2.1, z63.2.2.2.2.2.2.2.1, z63.2.2.2.2.2.2.2.2.1, z63.2.2.2.2.2.2.2.2.2, m_fresh)
  else
   some (m_at, m_end, m_token, m_whole, m_nameSize, m_fault, m_place, m_failed, m_letters, m_fresh)
def f_X11_errandLine (m_size : Int32) (m_tape : Nat → Int32) (m_at : Int32) (m_end : Int32) (m_token : Int32) (m_whole : Int32) (m_nameSize : Int32) (m_fault : Int32) (m_place : Int32) (m_failed : Int32) (m_letters : Nat → Int32) (m_fresh : Nat → Int32) : Option (Int32 × Int32 × Int32 × Int32 × Int32 × Int32 × Int32 × Int32 × (Nat → Int32) × (Nat → Int32)) :=
  if m_failed = 0 then
   (f_X11_personHere m_at m_token m_nameSize m_letters m_fresh m_fault m_place m_failed).bind fun z9 =>
   if z9.2.2.2 = 0 then
    if rf_ib (((89 : Int32) + ((4 : Int32) * z9.1)) + 3) 333 = true then
    if (m_fresh (Int32.toNatClampNeg (((89 : Int32) + ((4 : Int32) * z9.1)) + 3))) ≤ 0 then
     f_X11_errandLine_45 m_size m_tape z9.1 m_at m_end m_token m_whole m_nameSize z9.2.1 z9.2.2.1 z9.2.2.2 m_letters m_fresh
    else
     (f_X11_wrong z9.2.1 z9.2.2.1 z9.2.2.2 3 m_at).bind fun z42 =>
     f_X11_errandLine_45 m_size m_tape z9.1 m_at m_end m_token m_whole m_nameSize z42.1 z42.2.1 z42.2.2 m_letters m_fresh
    else none
   else
    f_X11_errandLine_45 m_size m_tape z9.1 m_at m_end m_token m_whole m_nameSize z9.2.1 z9.2.2.1 z9.2.2.2 m_letters m_fresh
  else
   some (m_at, m_end, m_token, m_whole, m_nameSize, m_fault, m_place, m_failed, m_letters, m_fresh)
def f_X11_ferryLine_18 (m_size : Int32) (m_tape : Nat → Int32) (m_at : Int32) (m_end : Int32) (m_token : Int32) (m_whole : Int32) (m_nameSize : Int32) (m_fault : Int32) (m_place : Int32) (m_failed : Int32) (m_letters : Nat → Int32) (m_fresh : Nat → Int32) : Option (Int32 × Int32 × Int32 × Int32 × Int32 × Int32 × Int32 × Int32 × (Nat → Int32) × (Nat → Int32)) :=
  if m_failed = 0 then
   (f_X11_next m_size m_tape m_at m_end m_token m_whole m_nameSize m_letters).bind fun z27 =>
   (f_X11_after m_size m_tape z27.1 z27.2.1 z27.2.2.1 z27.2.2.2.1 z27.2.2.2.2.1 m_fault m_place m_failed z27.2.2.2.2.2 25 2 5).bind fun z35 =>
   (f_X11_after m_size m_tape z35.2.1 z35.2.2.1 z35.2.2.2.1 z35.2.2.2.2.1 z35.2.2.2.2.2.1 z35.2.2.2.2.2.2.1 z35.2.2.2.2.2.2.2.1 z35.2.2.2.2.2.2.2.2.1 z35.2.2.2.2.2.2.2.2.2 26 1 3).bind fun z49 =>
   if z49.2.2.2.2.2.2.2.2.1 = 0 then
    some (z49.2.1, z49.2.2.1, z49.2.2.2.1, z49.2.2.2.2.1, z49.2.2.2.2.2.1, z49.2.2.2.2.2.2.1, z49.2.2.2.2.2.2.2.1, z49.2.2.2.2.2.2.2.2.1, z49.2.2.2.2.2.2.2.2.2, upd (upd m_fresh (Int32.toNatClampNeg 1) z49.1) (Int32.toNatClampNeg 0) z35.1)
   else
    some (z49.2.1, z49.2.2.1, z49.2.2.2.1, z49.2.2.2.2.1, z49.2.2.2.2.2.1, z49.2.2.2.2.2.2.1, z49.2.2.2.2.2.2.2.1, z49.2.2.2.2.2.2.2.2.1, z49.2.2.2.2.2.2.2.2.2, upd m_fresh (Int32.toNatClampNeg 1) z49.1)
  else
   some (m_at, m_end, m_token, m_whole, m_nameSize, m_fault, m_place, m_failed, m_letters, m_fresh)
def f_X11_ferryLine (m_size : Int32) (m_tape : Nat → Int32) (m_at : Int32) (m_end : Int32) (m_token : Int32) (m_whole : Int32) (m_nameSize : Int32) (m_fault : Int32) (m_place : Int32) (m_failed : Int32) (m_letters : Nat → Int32) (m_fresh : Nat → Int32) : Option (Int32 × Int32 × Int32 × Int32 × Int32 × Int32 × Int32 × Int32 × (Nat → Int32) × (Nat → Int32)) :=
  if (m_fresh (Int32.toNatClampNeg 0)) ≤ 0 then
   f_X11_ferryLine_18 m_size m_tape m_at m_end m_token m_whole m_nameSize m_fault m_place m_failed m_letters m_fresh
  else
   (f_X11_wrong m_fault m_place m_failed 3 m_at).bind fun z15 =>
   f_X11_ferryLine_18 m_size m_tape m_at m_end m_token m_whole m_nameSize z15.1 z15.2.1 z15.2.2 m_letters m_fresh
def f_X11_oneOf_77 (m_size : Int32) (m_tape : Nat → Int32) (v5 : Int32) (m_at : Int32) (m_end : Int32) (m_token : Int32) (m_whole : Int32) (m_nameSize : Int32) (m_fault : Int32) (m_place : Int32) (m_failed : Int32) (m_letters : Nat → Int32) : Option (Int32 × Int32 × Int32 × Int32 × Int32 × Int32 × Int32 × Int32 × Int32 × (Nat → Int32)) :=
  some (v5, m_at, m_end, m_token, m_whole, m_nameSize, m_fault, m_place, m_failed, m_letters)
def f_X11_oneOf_66 (m_size : Int32) (m_tape : Nat → Int32) (v5 : Int32) (m_at : Int32) (m_end : Int32) (m_token : Int32) (m_whole : Int32) (m_nameSize : Int32) (m_fault : Int32) (m_place : Int32) (m_failed : Int32) (m_letters : Nat → Int32) : Option (Int32 × Int32 × Int32 × Int32 × Int32 × Int32 × Int32 × Int32 × Int32 × (Nat → Int32)) :=
  if m_failed = 0 then
   (f_X11_next m_size m_tape m_at m_end m_token m_whole m_nameSize m_letters).bind fun z74 =>
   f_X11_oneOf_77 m_size m_tape v5 z74.1 z74.2.1 z74.2.2.1 z74.2.2.2.1 z74.2.2.2.2.1 m_fault m_place m_failed z74.2.2.2.2.2
  else
   f_X11_oneOf_77 m_size m_tape v5 m_at m_end m_token m_whole m_nameSize m_fault m_place m_failed m_letters
def f_X11_oneOf_50 (m_size : Int32) (m_tape : Nat → Int32) (s0 : Int32) (m_at : Int32) (m_end : Int32) (m_token : Int32) (m_whole : Int32) (m_nameSize : Int32) (m_fault : Int32) (m_place : Int32) (m_failed : Int32) (m_letters : Nat → Int32) : Option (Int32 × Int32 × Int32 × Int32 × Int32 × Int32 × Int32 × Int32 × Int32 × (Nat → Int32)) :=
  if 0 ≤ s0 then
   f_X11_oneOf_66 m_size m_tape s0 m_at m_end m_token m_whole m_nameSize m_fault m_place m_failed m_letters
  else
   (f_X11_wrong m_fault m_place m_failed 1 m_at).bind fun z63 =>
   f_X11_oneOf_66 m_size m_tape s0 m_at m_end m_token m_whole m_nameSize z63.1 z63.2.1 z63.2.2 m_letters
def f_X11_oneOf (m_size : Int32) (m_tape : Nat → Int32) (m_at : Int32) (m_end : Int32) (m_token : Int32) (m_whole : Int32) (m_nameSize : Int32) (m_fault : Int32) (m_place : Int32) (m_failed : Int32) (m_letters : Nat → Int32) (v1 : Nat) (v2 : Nat) (v3 : Nat) (v4 : Nat) : Option (Int32 × Int32 × Int32 × Int32 × Int32 × Int32 × Int32 × Int32 × Int32 × (Nat → Int32)) :=
  (f_X11_isWord m_token m_nameSize m_failed m_letters v1).bind fun z2 =>
  if z2 = 0 then
   (f_X11_isWord m_token m_nameSize m_failed m_letters v2).bind fun z14 =>
   if z14 = 0 then
    (f_X11_isWord m_token m_nameSize m_failed m_letters v3).bind fun z26 =>
    if z26 = 0 then
     (f_X11_isWord m_token m_nameSize m_failed m_letters v4).bind fun z39 =>
     if z39 = 0 then
      f_X11_oneOf_50 m_size m_tape (-1) m_at m_end m_token m_whole m_nameSize m_fault m_place m_failed m_letters
     else
      f_X11_oneOf_50 m_size m_tape 3 m_at m_end m_token m_whole m_nameSize m_fault m_place m_failed m_letters
    else
     f_X11_oneOf_50 m_size m_tape 2 m_at m_end m_token m_whole m_nameSize m_fault m_place m_failed m_letters
   else
    f_X11_oneOf_50 m_size m_tape 1 m_at m_end m_token m_whole m_nameSize m_fault m_place m_failed m_letters
  else
   f_X11_oneOf_50 m_size m_tape 0 m_at m_end m_token m_whole m_nameSize m_fault m_place m_failed m_letters
def f_X11_personPassed_16 (m_size : Int32) (m_tape : Nat → Int32) (m_fresh : Nat → Int32) (v1 : Int32) (m_at : Int32) (m_end : Int32) (m_token : Int32) (m_whole : Int32) (m_nameSize : Int32) (m_fault : Int32) (m_place : Int32) (m_failed : Int32) (m_letters : Nat → Int32) : Option (Int32 × Int32 × Int32 × Int32 × Int32 × Int32 × Int32 × Int32 × Int32 × (Nat → Int32)) :=
  some (v1, m_at, m_end, m_token, m_whole, m_nameSize, m_fault, m_place, m_failed, m_letters)
def f_X11_personPassed (m_size : Int32) (m_tape : Nat → Int32) (m_fresh : Nat → Int32) (m_at : Int32) (m_end : Int32) (m_token : Int32) (m_whole : Int32) (m_nameSize : Int32) (m_fault : Int32) (m_place : Int32) (m_failed : Int32) (m_letters : Nat → Int32) : Option (Int32 × Int32 × Int32 × Int32 × Int32 × Int32 × Int32 × Int32 × Int32 × (Nat → Int32)) :=
  (f_X11_personHere m_at m_token m_nameSize m_letters m_fresh m_fault m_place m_failed).bind fun z1 =>
  if z1.2.2.2 = 0 then
   (f_X11_next m_size m_tape m_at m_end m_token m_whole m_nameSize m_letters).bind fun z13 =>
   f_X11_personPassed_16 m_size m_tape m_fresh z1.1 z13.1 z13.2.1 z13.2.2.1 z13.2.2.2.1 z13.2.2.2.2.1 z1.2.1 z1.2.2.1 z1.2.2.2 z13.2.2.2.2.2
  else
   f_X11_personPassed_16 m_size m_tape m_fresh z1.1 m_at m_end m_token m_whole m_nameSize z1.2.1 z1.2.2.1 z1.2.2.2 m_letters
def f_X11_gotLine_77 (m_size : Int32) (m_tape : Nat → Int32) (v1 : Int32) (m_at : Int32) (m_end : Int32) (m_token : Int32) (m_whole : Int32) (m_nameSize : Int32) (m_fault : Int32) (m_place : Int32) (m_failed : Int32) (m_letters : Nat → Int32) (m_fresh : Nat → Int32) : Option (Int32 × Int32 × Int32 × Int32 × Int32 × Int32 × Int32 × Int32 × (Nat → Int32) × (Nat → Int32)) :=
  if m_failed = 0 then
   (f_X11_next m_size m_tape m_at m_end m_token m_whole m_nameSize m_letters).bind fun z86 =>
   (f_X11_oneOf m_size m_tape z86.1 z86.2.1 z86.2.2.1 z86.2.2.2.1 z86.2.2.2.2.1 m_fault m_place m_failed z86.2.2.2.2.2 46 47 48 43).bind fun z102 =>
   if z102.2.2.2.2.2.2.2.2.1 = 0 then
    if rf_ib (v1 + 2) 333 = true then
    some (z102.2.1, z102.2.2.1, z102.2.2.2.1, z102.2.2.2.2.1, z102.2.2.2.2.2.1, z102.2.2.2.2.2.2.1, z102.2.2.2.2.2.2.2.1, z102.2.2.2.2.2.2.2.2.1, z102.2.2.2.2.2.2.2.2.2, upd (upd m_fresh (Int32.toNatClampNeg (v1 + 2)) z102.1) (Int32.toNatClampNeg 7) (((upd m_fresh (Int32.toNatClampNeg (v1 + 2)) z102.1) (Int32.toNatClampNeg 7)) + 1))
    else none
   else
    some (z102.2.1, z102.2.2.1, z102.2.2.2.1, z102.2.2.2.2.1, z102.2.2.2.2.2.1, z102.2.2.2.2.2.2.1, z102.2.2.2.2.2.2.2.1, z102.2.2.2.2.2.2.2.2.1, z102.2.2.2.2.2.2.2.2.2, m_fresh)
  else
   some (m_at, m_end, m_token, m_whole, m_nameSize, m_fault, m_place, m_failed, m_letters, m_fresh)
def f_X11_gotLine (m_size : Int32) (m_tape : Nat → Int32) (m_at : Int32) (m_end : Int32) (m_token : Int32) (m_whole : Int32) (m_nameSize : Int32) (m_fault : Int32) (m_place : Int32) (m_failed : Int32) (m_letters : Nat → Int32) (m_fresh : Nat → Int32) : Option (Int32 × Int32 × Int32 × Int32 × Int32 × Int32 × Int32 × Int32 × (Nat → Int32) × (Nat → Int32)) :=
  if m_failed = 0 then
   (f_X11_personPassed m_size m_tape m_fresh m_at m_end m_token m_whole m_nameSize m_fault m_place m_failed m_letters).bind fun z28 =>
   if rf_ib ((153 : Int32) + ((3 : Int32) * (m_fresh (Int32.toNatClampNeg 7)))) 333 = true then
   (f_X11_personHere z28.2.1 z28.2.2.2.1 z28.2.2.2.2.2.1 z28.2.2.2.2.2.2.2.2.2 (upd m_fresh (Int32.toNatClampNeg ((153 : Int32) + ((3 : Int32) * (m_fresh (Int32.toNatClampNeg 7))))) z28.1) z28.2.2.2.2.2.2.1 z28.2.2.2.2.2.2.2.1 z28.2.2.2.2.2.2.2.2.1).bind fun z40 =>
   if rf_ib (((153 : Int32) + ((3 : Int32) * (m_fresh (Int32.toNatClampNeg 7)))) + 1) 333 = true then
   if z40.2.2.2 = 0 then
    if rf_ib ((153 : Int32) + ((3 : Int32) * (m_fresh (Int32.toNatClampNeg 7)))) 333 = true then
    if rf_ib (((153 : Int32) + ((3 : Int32) * (m_fresh (Int32.toNatClampNeg 7)))) + 1) 333 = true then
    if ((upd (upd m_fresh (Int32.toNatClampNeg ((153 : Int32) + ((3 : Int32) * (m_fresh (Int32.toNatClampNeg 7))))) z28.1) (Int32.toNatClampNeg (((153 : Int32) + ((3 : Int32) * (m_fresh (Int32.toNatClampNeg 7)))) + 1)) z40.1) (Int32.toNatClampNeg ((153 : Int32) + ((3 : Int32) * (m_fresh (Int32.toNatClampNeg 7)))))) = ((upd (upd m_fresh (Int32.toNatClampNeg ((153 : Int32) + ((3 : Int32) * (m_fresh (Int32.toNatClampNeg 7))))) z28.1) (Int32.toNatClampNeg (((153 : Int32) + ((3 : Int32) * (m_fresh (Int32.toNatClampNeg 7)))) + 1)) z40.1) (Int32.toNatClampNeg (((153 : Int32) + ((3 : Int32) * (m_fresh (Int32.toNatClampNeg 7)))) + 1))) then
     (f_X11_wrong z40.2.1 z40.2.2.1 z40.2.2.2 3 z28.2.1).bind fun z74 =>
     f_X11_gotLine_77 m_size m_tape ((153 : Int32) + ((3 : Int32) * (m_fresh (Int32.toNatClampNeg 7)))) z28.2.1 z28.2.2.1 z28.2.2.2.1 z28.2.2.2.2.1 z28.2.2.2.2.2.1 z74.1 z74.2.1 z74.2.2 z28.2.2.2.2.2.2.2.2.2 (upd (upd m_fresh (Int32.toNatClampNeg ((153 : Int32) + ((3 : Int32) * (m_fresh (Int32.toNatClampNeg 7))))) z28.1) (Int32.toNatClampNeg (((153 : Int32) + ((3 : Int32) * (m_fresh (Int32.toNatClampNeg 7)))) + 1)) z40.1)
    else
     f_X11_gotLine_77 m_size m_tape ((153 : Int32) + ((3 : Int32) * (m_fresh (Int32.toNatClampNeg 7)))) z28.2.1 z28.2.2.1 z28.2.2.2.1 z28.2.2.2.2.1 z28.2.2.2.2.2.1 z40.2.1 z40.2.2.1 z40.2.2.2 z28.2.2.2.2.2.2.2.2.2 (upd (upd m_fresh (Int32.toNatClampNeg ((153 : Int32) + ((3 : Int32) * (m_fresh (Int32.toNatClampNeg 7))))) z28.1) (Int32.toNatClampNeg (((153 : Int32) + ((3 : Int32) * (m_fresh (Int32.toNatClampNeg 7)))) + 1)) z40.1)
    else none
    else none
   else
    f_X11_gotLine_77 m_size m_tape ((153 : Int32) + ((3 : Int32) * (m_fresh (Int32.toNatClampNeg 7)))) z28.2.1 z28.2.2.1 z28.2.2.2.1 z28.2.2.2.2.1 z28.2.2.2.2.2.1 z40.2.1 z40.2.2.1 z40.2.2.2 z28.2.2.2.2.2.2.2.2.2 (upd (upd m_fresh (Int32.toNatClampNeg ((153 : Int32) + ((3 : Int32) * (m_fresh (Int32.toNatClampNeg 7))))) z28.1) (Int32.toNatClampNeg (((153 : Int32) + ((3 : Int32) * (m_fresh (Int32.toNatClampNeg 7)))) + 1)) z40.1)
   else none
   else none
  else
   some (m_at, m_end, m_token, m_whole, m_nameSize, m_fault, m_place, m_failed, m_letters, m_fresh)
def f_X11_hourLine_45 (m_size : Int32) (m_tape : Nat → Int32) (v1 : Int32) (m_at : Int32) (m_end : Int32) (m_token : Int32) (m_whole : Int32) (m_nameSize : Int32) (m_fault : Int32) (m_place : Int32) (m_failed : Int32) (m_letters : Nat → Int32) (m_fresh : Nat → Int32) : Option (Int32 × Int32 × Int32 × Int32 × Int32 × Int32 × Int32 × Int32 × (Nat → Int32) × (Nat → Int32)) :=
  if m_failed = 0 then
   (f_X11_next m_size m_tape m_at m_end m_token m_whole m_nameSize m_letters).bind fun z54 =>
   (f_X11_after m_size m_tape z54.1 z54.2.1 z54.2.2.1 z54.2.2.2.1 z54.2.2.2.2.1 m_fault m_place m_failed z54.2.2.2.2.2 25 1 6).bind fun z63 =>
   if z63.2.2.2.2.2.2.2.2.1 = 0 then
    if rf_ib ((129 : Int32) + v1) 333 = true then
    some (z63.2.1, z63.2.2.1, z63.2.2.2.1, z63.2.2.2.2.1, z63.2.2.2.2.2.1, z63.2.2.2.2.2.2.1, z63.2.2.2.2.2.2.2.1, z63.2.2.2.2.2.2.2.2.1, z63.2.2.2.2.2.2.2.2.2, upd (upd m_fresh (Int32.toNatClampNeg ((129 : Int32) + v1)) z63.1) (Int32.toNatClampNeg 5) (((upd m_fresh (Int32.toNatClampNeg ((129 : Int32) + v1)) z63.1) (Int32.toNatClampNeg 5)) + 1))
    else none
   else
    some (z63.2.1, z63.2.2.1, z63.2.2.2.1, z63.2.2.2.2.1, z63.2.2.2.2.2.1, z63.2.2.2.2.2.2.1, z63.2.2.2.2.2.2.2.1, z63.2.2.2.2.2.2.2.2.1, z63.2.2.2.2.2.2.2.2.2, m_fresh)
  else
   some (m_at, m_end, m_token, m_whole, m_nameSize, m_fault, m_place, m_failed, m_letters, m_fresh)
def f_X11_hourLine (m_size : Int32) (m_tape : Nat → Int32) (m_at : Int32) (m_end : Int32) (m_token : Int32) (m_whole : Int32) (m_nameSize : Int32) (m_fault : Int32) (m_place : Int32) (m_failed : Int32) (m_letters : Nat → Int32) (m_fresh : Nat → Int32) : Option (Int32 × Int32 × Int32 × Int32 × Int32 × Int32 × Int32 × Int32 × (Nat → Int32) × (Nat → Int32)) :=
  if m_failed = 0 then
   (f_X11_numberHere m_at m_token m_whole m_fault m_place m_failed 0 23).bind fun z12 =>
   if z12.2.2.2 = 0 then
    if rf_ib ((129 : Int32) + z12.1) 333 = true then
    if (m_fresh (Int32.toNatClampNeg ((129 : Int32) + z12.1))) ≤ 0 then
     f_X11_hourLine_45 m_size m_tape z12.1 m_at m_end m_token m_whole m_nameSize z12.2.1 z12.2.2.1 z12.2.2.2 m_letters m_fresh
    else
     (f_X11_wrong z12.2.1 z12.2.2.1 z12.2.2.2 3 m_at).bind fun z42 =>
     f_X11_hourLine_45 m_size m_tape z12.1 m_at m_end m_token m_whole m_nameSize z42.1 z42.2.1 z42.2.2 m_letters m_fresh
    else none
   else
    f_X11_hourLine_45 m_size m_tape z12.1 m_at m_end m_token m_whole m_nameSize z12.2.1 z12.2.2.1 z12.2.2.2 m_letters m_fresh
  else
   some (m_at, m_end, m_token, m_whole, m_nameSize, m_fault, m_place, m_failed, m_letters, m_fresh)
def f_X11_wordHere (m_at : Int32) (m_token : Int32) (m_nameSize : Int32) (m_letters : Nat → Int32) (m_fresh : Nat → Int32) (m_fault : Int32) (m_place : Int32) (m_failed : Int32) : Option (Int32 × Int32 × Int32 × Int32) :=
  (f_X11_named m_at m_token m_nameSize m_letters m_fresh m_fault m_place m_failed 0 9).bind fun z4 =>
  some (z4.1, z4.2.1, z4.2.2.1, z4.2.2.2)
def f_X11_knowsLine_54 (m_size : Int32) (m_tape : Nat → Int32) (v1 : Int32) (v2 : Int32) (m_at : Int32) (m_end : Int32) (m_token : Int32) (m_whole : Int32) (m_nameSize : Int32) (m_fault : Int32) (m_place : Int32) (m_failed : Int32) (m_letters : Nat → Int32) (m_fresh : Nat → Int32) : Option (Int32 × Int32 × Int32 × Int32 × Int32 × Int32 × Int32 × Int32 × (Nat → Int32) × (Nat → Int32)) :=
  if m_failed = 0 then
   (f_X11_next m_size m_tape m_at m_end m_token m_whole m_nameSize m_letters).bind fun z63 =>
   if rf_ib (((89 : Int32) + ((4 : Int32) * v1)) + 2) 333 = true then
   if rf_ib (((89 : Int32) + ((4 : Int32) * v1)) + 2) 333 = true then
   some (z63.1, z63.2.1, z63.2.2.1, z63.2.2.2.1, z63.2.2.2.2.1, m_fault, m_place, m_failed, z63.2.2.2.2.2, upd (upd m_fresh (Int32.toNatClampNeg (((89 : Int32) + ((4 : Int32) * v1)) + 2)) ((m_fresh (Int32.toNatClampNeg (((89 : Int32) + ((4 : Int32) * v1)) + 2))) ||| ((1 : Int32) <<< (v2 &&& 31)))) (Int32.toNatClampNeg 8) (((upd m_fresh (Int32.toNatClampNeg (((89 : Int32) + ((4 : Int32) * v1)) + 2)) ((m_fresh (Int32.toNatClampNeg (((89 : Int32) + ((4 : Int32) * v1)) + 2))) ||| ((1 : Int32) <<< (v2 &&& 31)))) (Int32.toNatClampNeg 8)) + 1))
   else none
   else none
  else
   some (m_at, m_end, m_token, m_whole, m_nameSize, m_fault, m_place, m_failed, m_letters, m_fresh)
def f_X11_knowsLine (m_size : Int32) (m_tape : Nat → Int32) (m_at : Int32) (m_end : Int32) (m_token : Int32) (m_whole : Int32) (m_nameSize : Int32) (m_fault : Int32) (m_place : Int32) (m_failed : Int32) (m_letters : Nat → Int32) (m_fresh : Nat → Int32) : Option (Int32 × Int32 × Int32 × Int32 × Int32 × Int32 × Int32 × Int32 × (Nat → Int32) × (Nat → Int32)) :=
  if m_failed = 0 then
   (f_X11_personPassed m_size m_tape m_fresh m_at m_end m_token m_whole m_nameSize m_fault m_place m_failed m_letters).bind fun z9 =>
   (f_X11_wordHere z9.2.1 z9.2.2.2.1 z9.2.2.2.2.2.1 z9.2.2.2.2.2.2.2.2.2 m_fresh z9.2.2.2.2.2.2.1 z9.2.2.2.2.2.2.2.1 z9.2.2.2.2.2.2.2.2.1).bind fun z14 =>
   if z14.2.2.2 = 0 then
    if rf_ib (((89 : Int32) + ((4 : Int32) * z9.1)) + 2) 333 = true then
    (f_X11_hasBit (m_fresh (Int32.toNatClampNeg (((89 : Int32) + ((4 : Int32) * z9.1)) + 2))) z14.1).bind fun z39 =>
    if z39 = 0 then
     f_X11_knowsLine_54 m_size m_tape z9.1 z14.1 z9.2.1 z9.2.2.1 z9.2.2.2.1 z9.2.2.2.2.1 z9.2.2.2.2.2.1 z14.2.1 z14.2.2.1 z14.2.2.2 z9.2.2.2.2.2.2.2.2.2 m_fresh
    else
     (f_X11_wrong z14.2.1 z14.2.2.1 z14.2.2.2 3 z9.2.1).bind fun z51 =>
     f_X11_knowsLine_54 m_size m_tape z9.1 z14.1 z9.2.1 z9.2.2.1 z9.2.2.2.1 z9.2.2.2.2.1 z9.2.2.2.2.2.1 z51.1 z51.2.1 z51.2.2 z9.2.2.2.2.2.2.2.2.2 m_fresh
    else none
   else
    f_X11_knowsLine_54 m_size m_tape z9.1 z14.1 z9.2.1 z9.2.2.1 z9.2.2.2.1 z9.2.2.2.2.1 z9.2.2.2.2.2.1 z14.2.1 z14.2.2.1 z14.2.2.2 z9.2.2.2.2.2.2.2.2.2 m_fresh
  else
   some (m_at, m_end, m_token, m_whole, m_nameSize, m_fault, m_place, m_failed, m_letters, m_fresh)
def f_X11_newName_45 (m_size : Int32) (m_tape : Nat → Int32) : Nat → Int32 → Int32 → Int32 → Int32 → Int32 → Int32 → Int32 → Int32 → Int32 → Int32 → (Nat → Int32) → (Nat → Int32) → Option (Int32 × Int32 × Int32 × Int32 × Int32 × Int32 × Int32 × Int32 × (Nat → Int32) × (Nat → Int32))
  | 0, _, _, _, _, _, _, _, _, _, _, _, _ => none
  | n + 1, v1, v2, m_at, m_end, m_token, m_whole, m_nameSize, m_fault, m_place, m_failed, m_letters, m_fresh =>
   if m_nameSize ≤ v2 then
    if rf_ib ((171 : Int32) + v1) 333 = true then
    (f_X11_next m_size m_tape m_at m_end m_token m_whole m_nameSize m_letters).bind fun z95 =>
    some (z95.1, z95.2.1, z95.2.2.1, z95.2.2.2.1, z95.2.2.2.2.1, m_fault, m_place, m_failed, z95.2.2.2.2.2, upd m_fresh (Int32.toNatClampNeg ((171 : Int32) + v1)) m_nameSize)
    else none
   else
    if rf_ib v2 8 = true then
    if rf_ib (((189 : Int32) + ((8 : Int32) * v1)) + v2) 333 = true then
    f_X11_newName_45 m_size m_tape n v1 (v2 + 1) m_at m_end m_token m_whole m_nameSize m_fault m_place m_failed m_letters (upd m_fresh (Int32.toNatClampNeg (((189 : Int32) + ((8 : Int32) * v1)) + v2)) (m_letters (Int32.toNatClampNeg v2)))
    else none
    else none
def f_X11_newName_35 (m_size : Int32) (m_tape : Nat → Int32) (v1 : Int32) (m_at : Int32) (m_end : Int32) (m_token : Int32) (m_whole : Int32) (m_nameSize : Int32) (m_fault : Int32) (m_place : Int32) (m_failed : Int32) (m_letters : Nat → Int32) (m_fresh : Nat → Int32) : Option (Int32 × Int32 × Int32 × Int32 × Int32 × Int32 × Int32 × Int32 × (Nat → Int32) × (Nat → Int32)) :=
  if m_failed = 0 then
   f_X11_newName_45 m_size m_tape rf_fu v1 0 m_at m_end m_token m_whole m_nameSize m_fault m_place m_failed m_letters m_fresh
  else
   some (m_at, m_end, m_token, m_whole, m_nameSize, m_fault, m_place, m_failed, m_letters, m_fresh)
def f_X11_newName (m_size : Int32) (m_tape : Nat → Int32) (m_at : Int32) (m_end : Int32) (m_token : Int32) (m_whole : Int32) (m_nameSize : Int32) (m_fault : Int32) (m_place : Int32) (m_failed : Int32) (m_letters : Nat → Int32) (m_fresh : Nat → Int32) (v1 : Int32) : Option (Int32 × Int32 × Int32 × Int32 × Int32 × Int32 × Int32 × Int32 × (Nat → Int32) × (Nat → Int32)) :=
  if m_failed = 0 then
   (f_X11_mustName m_at m_token m_nameSize m_letters m_fault m_place m_failed).bind fun z9 =>
   if z9.2.2 = 0 then
    (f_X11_find m_nameSize m_letters m_fresh).bind fun z20 =>
    if z20 < 0 then
     f_X11_newName_35 m_size m_tape v1 m_at m_end m_token m_whole m_nameSize z9.1 z9.2.1 z9.2.2 m_letters m_fresh
    else
     (f_X11_wrong z9.1 z9.2.1 z9.2.2 3 m_at).bind fun z32 =>
     f_X11_newName_35 m_size m_tape v1 m_at m_end m_token m_whole m_nameSize z32.1 z32.2.1 z32.2.2 m_letters m_fresh
   else
    f_X11_newName_35 m_size m_tape v1 m_at m_end m_token m_whole m_nameSize z9.1 z9.2.1 z9.2.2 m_letters m_fresh
  else
   some (m_at, m_end, m_token, m_whole, m_nameSize, m_fault, m_place, m_failed, m_letters, m_fresh)
def f_X11_personLine_93 (m_size : Int32) (m_tape : Nat → Int32) (v1 : Int32) (m_at : Int32) (m_end : Int32) (m_token : Int32) (m_whole : Int32) (m_nameSize : Int32) (m_fault : Int32) (m_place : Int32) (m_failed : Int32) (m_letters : Nat → Int32) (m_fresh : Nat → Int32) : Option (Int32 × Int32 × Int32 × Int32 × Int32 × Int32 × Int32 × Int32 × (Nat → Int32) × (Nat → Int32)) :=
  (f_X11_must m_size m_tape m_at m_end m_token m_whole m_nameSize m_fault m_place m_failed m_letters 44).bind fun z97 =>
  (f_X11_wordHere z97.1 z97.2.2.1 z97.2.2.2.2.1 z97.2.2.2.2.2.2.2.2 m_fresh z97.2.2.2.2.2.1 z97.2.2.2.2.2.2.1 z97.2.2.2.2.2.2.2.1).bind fun z101 =>
  if z101.2.2.2 = 0 then
   (f_X11_next m_size m_tape z97.1 z97.2.1 z97.2.2.1 z97.2.2.2.1 z97.2.2.2.2.1 z97.2.2.2.2.2.2.2.2).bind fun z114 =>
   if rf_ib (v1 + 2) 333 = true then
   if rf_ib (v1 + 3) 333 = true then
   some (z114.1, z114.2.1, z114.2.2.1, z114.2.2.2.1, z114.2.2.2.2.1, z101.2.1, z101.2.2.1, z101.2.2.2, z114.2.2.2.2.2, upd (upd (upd m_fresh (Int32.toNatClampNeg (v1 + 2)) ((1 : Int32) <<< (z101.1 &&& 31))) (Int32.toNatClampNeg (v1 + 3)) 0) (Int32.toNatClampNeg 3) (((upd (upd m_fresh (Int32.toNatClampNeg (v1 + 2)) ((1 : Int32) <<< (z101.1 &&& 31))) (Int32.toNatClampNeg (v1 + 3)) 0) (Int32.toNatClampNeg 3)) + 1))
   else none
   else none
  else
   some (z97.1, z97.2.1, z97.2.2.1, z97.2.2.2.1, z97.2.2.2.2.1, z101.2.1, z101.2.2.1, z101.2.2.2, z97.2.2.2.2.2.2.2.2, m_fresh)
def f_X11_personLine_58 (m_size : Int32) (m_tape : Nat → Int32) (v1 : Int32) (m_at : Int32) (m_end : Int32) (m_token : Int32) (m_whole : Int32) (m_nameSize : Int32) (m_fault : Int32) (m_place : Int32) (m_failed : Int32) (m_letters : Nat → Int32) (m_fresh : Nat → Int32) : Option (Int32 × Int32 × Int32 × Int32 × Int32 × Int32 × Int32 × Int32 × (Nat → Int32) × (Nat → Int32)) :=
  (f_X11_must m_size m_tape m_at m_end m_token m_whole m_nameSize m_fault m_place m_failed m_letters 40).bind fun z61 =>
  if z61.2.2.2.2.2.2.2.1 = 0 then
   (f_X11_oneOf m_size m_tape z61.1 z61.2.1 z61.2.2.1 z61.2.2.2.1 z61.2.2.2.2.1 z61.2.2.2.2.2.1 z61.2.2.2.2.2.2.1 z61.2.2.2.2.2.2.2.1 z61.2.2.2.2.2.2.2.2 41 42 43 43).bind fun z89 =>
   if rf_ib (v1 + 1) 333 = true then
   f_X11_personLine_93 m_size m_tape v1 z89.2.1 z89.2.2.1 z89.2.2.2.1 z89.2.2.2.2.1 z89.2.2.2.2.2.1 z89.2.2.2.2.2.2.1 z89.2.2.2.2.2.2.2.1 z89.2.2.2.2.2.2.2.2.1 z89.2.2.2.2.2.2.2.2.2 (upd m_fresh (Int32.toNatClampNeg (v1 + 1)) z89.1)
   else none
  else
   f_X11_personLine_93 m_size m_tape v1 z61.1 z61.2.1 z61.2.2.1 z61.2.2.2.1 z61.2.2.2.2.1 z61.2.2.2.2.2.1 z61.2.2.2.2.2.2.1 z61.2.2.2.2.2.2.2.1 z61.2.2.2.2.2.2.2.2 m_fresh
def f_X11_personLine (m_size : Int32) (m_tape : Nat → Int32) (m_at : Int32) (m_end : Int32) (m_token : Int32) (m_whole : Int32) (m_nameSize : Int32) (m_fault : Int32) (m_place : Int32) (m_failed : Int32) (m_letters : Nat → Int32) (m_fresh : Nat → Int32) : Option (Int32 × Int32 × Int32 × Int32 × Int32 × Int32 × Int32 × Int32 × (Nat → Int32) × (Nat → Int32)) :=
  if m_failed = 0 then
   (f_X11_newName m_size m_tape m_at m_end m_token m_whole m_nameSize m_fault m_place m_failed m_letters m_fresh ((10 : Int32) + (m_fresh (Int32.toNatClampNeg 3)))).bind fun z30 =>
   if z30.2.2.2.2.2.2.2.1 = 0 then
    (f_X11_oneOf m_size m_tape z30.1 z30.2.1 z30.2.2.1 z30.2.2.2.1 z30.2.2.2.2.1 z30.2.2.2.2.2.1 z30.2.2.2.2.2.2.1 z30.2.2.2.2.2.2.2.1 z30.2.2.2.2.2.2.2.2.1 36 37 38 39).bind fun z54 =>
    if rf_ib ((89 : Int32) + ((4 : Int32) * (m_fresh (Int32.toNatClampNeg 3)))) 333 = true then
    f_X11_personLine_58 m_size m_tape ((89 : Int32) + ((4 : Int32) * (m_fresh (Int32.toNatClampNeg 3)))) z54.2.1 z54.2.2.1 z54.2.2.2.1 z54.2.2.2.2.1 z54.2.2.2.2.2.1 z54.2.2.2.2.2.2.1 z54.2.2.2.2.2.2.2.1 z54.2.2.2.2.2.2.2.2.1 z54.2.2.2.2.2.2.2.2.2 (upd z30.2.2.2.2.2.2.2.2.2 (Int32.toNatClampNeg ((89 : Int32) + ((4 : Int32) * (m_fresh (Int32.toNatClampNeg 3))))) z54.1)
    else none
   else
    f_X11_personLine_58 m_size m_tape ((89 : Int32) + ((4 : Int32) * (m_fresh (Int32.toNatClampNeg 3)))) z30.1 z30.2.1 z30.2.2.1 z30.2.2.2.1 z30.2.2.2.2.1 z30.2.2.2.2.2.1 z30.2.2.2.2.2.2.1 z30.2.2.2.2.2.2.2.1 z30.2.2.2.2.2.2.2.2.1 z30.2.2.2.2.2.2.2.2.2
  else
   some (m_at, m_end, m_token, m_whole, m_nameSize, m_fault, m_place, m_failed, m_letters, m_fresh)
def f_X11_wordLine_120 (m_size : Int32) (m_tape : Nat → Int32) : Nat → Int32 → Int32 → Int32 → Int32 → Int32 → Int32 → Int32 → Int32 → Int32 → Int32 → (Nat → Int32) → (Nat → Int32) → Option (Int32 × Int32 × Int32 × Int32 × Int32 × Int32 × Int32 × Int32 × (Nat → Int32) × (Nat → Int32))
  | 0, _, _, _, _, _, _, _, _, _, _, _, _ => none
  | n + 1, v1, v2, m_at, m_end, m_token, m_whole, m_nameSize, m_fault, m_place, m_failed, m_letters, m_fresh =>
   if m_nameSize ≤ v2 then
    (f_X11_next m_size m_tape m_at m_end m_token m_whole m_nameSize m_letters).bind fun z154 =>
    (f_X11_after m_size m_tape z154.1 z154.2.1 z154.2.2.1 z154.2.2.2.1 z154.2.2.2.2.1 m_fault m_place m_failed z154.2.2.2.2.2 35 0 99).bind fun z168 =>
    if rf_ib v1 333 = true then
    if z168.2.2.2.2.2.2.2.2.1 = 0 then
     some (z168.2.1, z168.2.2.1, z168.2.2.2.1, z168.2.2.2.2.1, z168.2.2.2.2.2.1, z168.2.2.2.2.2.2.1, z168.2.2.2.2.2.2.2.1, z168.2.2.2.2.2.2.2.2.1, z168.2.2.2.2.2.2.2.2.2, upd (upd m_fresh (Int32.toNatClampNeg v1) z168.1) (Int32.toNatClampNeg 2) (((upd m_fresh (Int32.toNatClampNeg v1) z168.1) (Int32.toNatClampNeg 2)) + 1))
    else
     some (z168.2.1, z168.2.2.1, z168.2.2.2.1, z168.2.2.2.2.1, z168.2.2.2.2.2.1, z168.2.2.2.2.2.2.1, z168.2.2.2.2.2.2.2.1, z168.2.2.2.2.2.2.2.2.1, z168.2.2.2.2.2.2.2.2.2, upd m_fresh (Int32.toNatClampNeg v1) z168.1)
    else none
   else
    if rf_ib v2 8 = true then
    if rf_ib ((v1 + 2) + v2) 333 = true then
    f_X11_wordLine_120 m_size m_tape n v1 (v2 + 1) m_at m_end m_token m_whole m_nameSize m_fault m_place m_failed m_letters (upd m_fresh (Int32.toNatClampNeg ((v1 + 2) + v2)) ((m_letters (Int32.toNatClampNeg v2)) - 97))
    else none
    else none
def f_X11_wordLine_98 (m_size : Int32) (m_tape : Nat → Int32) (v1 : Int32) (m_at : Int32) (m_end : Int32) (m_token : Int32) (m_whole : Int32) (m_nameSize : Int32) (m_fault : Int32) (m_place : Int32) (m_failed : Int32) (m_letters : Nat → Int32) (m_fresh : Nat → Int32) : Option (Int32 × Int32 × Int32 × Int32 × Int32 × Int32 × Int32 × Int32 × (Nat → Int32) × (Nat → Int32)) :=
  if m_failed = 0 then
   if rf_ib (v1 + 1) 333 = true then
   f_X11_wordLine_120 m_size m_tape rf_fu v1 0 m_at m_end m_token m_whole m_nameSize m_fault m_place m_failed m_letters (upd m_fresh (Int32.toNatClampNeg (v1 + 1)) m_nameSize)
   else none
  else
   some (m_at, m_end, m_token, m_whole, m_nameSize, m_fault, m_place, m_failed, m_letters, m_fresh)
def f_X11_wordLine_88 (m_size : Int32) (m_tape : Nat → Int32) (v1 : Int32) (m_at : Int32) (m_end : Int32) (m_token : Int32) (m_whole : Int32) (m_nameSize : Int32) (m_fault : Int32) (m_place : Int32) (m_failed : Int32) (m_letters : Nat → Int32) (m_fresh : Nat → Int32) : Option (Int32 × Int32 × Int32 × Int32 × Int32 × Int32 × Int32 × Int32 × (Nat → Int32) × (Nat → Int32)) :=
  (f_X11_wrong m_fault m_place m_failed 7 m_at).bind fun z95 =>
  f_X11_wordLine_98 m_size m_tape v1 m_at m_end m_token m_whole m_nameSize z95.1 z95.2.1 z95.2.2 m_letters m_fresh
def f_X11_wordLine_61 (m_size : Int32) (m_tape : Nat → Int32) (v1 : Int32) (m_at : Int32) (m_end : Int32) (m_token : Int32) (m_whole : Int32) (m_nameSize : Int32) (m_fault : Int32) (m_place : Int32) (m_failed : Int32) (m_letters : Nat → Int32) (m_fresh : Nat → Int32) : Option (Int32 × Int32 × Int32 × Int32 × Int32 × Int32 × Int32 × Int32 × (Nat → Int32) × (Nat → Int32)) :=
  if m_failed = 0 then
   (f_X11_in m_nameSize 2 6).bind fun z75 =>
   if z75 = 0 then
    f_X11_wordLine_88 m_size m_tape v1 m_at m_end m_token m_whole m_nameSize m_fault m_place m_failed m_letters m_fresh
   else
    (f_X11_areLetters m_nameSize m_letters).bind fun z82 =>
    if z82 = 0 then
     f_X11_wordLine_88 m_size m_tape v1 m_at m_end m_token m_whole m_nameSize m_fault m_place m_failed m_letters m_fresh
    else
     f_X11_wordLine_98 m_size m_tape v1 m_at m_end m_token m_whole m_nameSize m_fault m_place m_failed m_letters m_fresh
  else
   f_X11_wordLine_98 m_size m_tape v1 m_at m_end m_token m_whole m_nameSize m_fault m_place m_failed m_letters m_fresh
def f_X11_wordLine (m_size : Int32) (m_tape : Nat → Int32) (m_at : Int32) (m_end : Int32) (m_token : Int32) (m_whole : Int32) (m_nameSize : Int32) (m_fault : Int32) (m_place : Int32) (m_failed : Int32) (m_letters : Nat → Int32) (m_fresh : Nat → Int32) : Option (Int32 × Int32 × Int32 × Int32 × Int32 × Int32 × Int32 × Int32 × (Nat → Int32) × (Nat → Int32)) :=
  if m_failed = 0 then
   (f_X11_newName m_size m_tape m_at m_end m_token m_whole m_nameSize m_fault m_place m_failed m_letters m_fresh (m_fresh (Int32.toNatClampNeg 2))).bind fun z28 =>
   (f_X11_must m_size m_tape z28.1 z28.2.1 z28.2.2.1 z28.2.2.2.1 z28.2.2.2.2.1 z28.2.2.2.2.2.1 z28.2.2.2.2.2.2.1 z28.2.2.2.2.2.2.2.1 z28.2.2.2.2.2.2.2.2.1 34).bind fun z34 =>
   if z34.2.2.2.2.2.2.2.1 = 0 then
    if z34.2.2.1 = 2 then
     f_X11_wordLine_61 m_size m_tape ((9 : Int32) + ((8 : Int32) * (m_fresh (Int32.toNatClampNeg 2)))) z34.1 z34.2.1 z34.2.2.1 z34.2.2.2.1 z34.2.2.2.2.1 z34.2.2.2.2.2.1 z34.2.2.2.2.2.2.1 z34.2.2.2.2.2.2.2.1 z34.2.2.2.2.2.2.2.2 z28.2.2.2.2.2.2.2.2.2
    else
     (f_X11_wrong z34.2.2.2.2.2.1 z34.2.2.2.2.2.2.1 z34.2.2.2.2.2.2.2.1 1 z34.1).bind fun z58 =>
     f_X11_wordLine_61 m_size m_tape ((9 : Int32) + ((8 : Int32) * (m_fresh (Int32.toNatClampNeg 2)))) z34.1 z34.2.1 z34.2.2.1 z34.2.2.2.1 z34.2.2.2.2.1 z58.1 z58.2.1 z58.2.2 z34.2.2.2.2.2.2.2.2 z28.2.2.2.2.2.2.2.2.2
   else
    f_X11_wordLine_61 m_size m_tape ((9 : Int32) + ((8 : Int32) * (m_fresh (Int32.toNatClampNeg 2)))) z34.1 z34.2.1 z34.2.2.1 z34.2.2.2.1 z34.2.2.2.2.1 z34.2.2.2.2.2.1 z34.2.2.2.2.2.2.1 z34.2.2.2.2.2.2.2.1 z34.2.2.2.2.2.2.2.2 z28.2.2.2.2.2.2.2.2.2
  else
   some (m_at, m_end, m_token, m_whole, m_nameSize, m_fault, m_place, m_failed, m_letters, m_fresh)
def f_X11_readLine_213 (m_size : Int32) (m_tape : Nat → Int32) (s2 : Int32) (m_at : Int32) (m_end : Int32) (m_token : Int32) (m_whole : Int32) (m_nameSize : Int32) (m_fault : Int32) (m_place : Int32) (m_failed : Int32) (m_letters : Nat → Int32) (m_fresh : Nat → Int32) : Option (Int32 × Int32 × Int32 × Int32 × Int32 × Int32 × Int32 × Int32 × (Nat → Int32) × (Nat → Int32)) :=
  (f_X11_begins m_size m_tape m_fresh m_at m_end m_token m_whole m_nameSize m_fault m_place m_failed m_letters 33 s2).bind fun z213 =>
  if z213.1 = 0 then
   (f_X11_wrong z213.2.2.2.2.2.2.1 z213.2.2.2.2.2.2.2.1 z213.2.2.2.2.2.2.2.2.1 1 z213.2.1).bind fun z232 =>
   some (z213.2.1, z213.2.2.1, z213.2.2.2.1, z213.2.2.2.2.1, z213.2.2.2.2.2.1, z232.1, z232.2.1, z232.2.2, z213.2.2.2.2.2.2.2.2.2, m_fresh)
  else
   (f_X11_gotLine m_size m_tape z213.2.1 z213.2.2.1 z213.2.2.2.1 z213.2.2.2.2.1 z213.2.2.2.2.2.1 z213.2.2.2.2.2.2.1 z213.2.2.2.2.2.2.2.1 z213.2.2.2.2.2.2.2.2.1 z213.2.2.2.2.2.2.2.2.2 m_fresh).bind fun z220 =>
   some (z220.1, z220.2.1, z220.2.2.1, z220.2.2.2.1, z220.2.2.2.2.1, z220.2.2.2.2.2.1, z220.2.2.2.2.2.2.1, z220.2.2.2.2.2.2.2.1, z220.2.2.2.2.2.2.2.2.1, z220.2.2.2.2.2.2.2.2.2)
def f_X11_readLine_163 (m_size : Int32) (m_tape : Nat → Int32) (s2 : Int32) (m_at : Int32) (m_end : Int32) (m_token : Int32) (m_whole : Int32) (m_nameSize : Int32) (m_fault : Int32) (m_place : Int32) (m_failed : Int32) (m_letters : Nat → Int32) (m_fresh : Nat → Int32) : Option (Int32 × Int32 × Int32 × Int32 × Int32 × Int32 × Int32 × Int32 × (Nat → Int32) × (Nat → Int32)) :=
  (f_X11_begins m_size m_tape m_fresh m_at m_end m_token m_whole m_nameSize m_fault m_place m_failed m_letters 31 s2).bind fun z163 =>
  if z163.1 = 0 then
   (f_X11_begins m_size m_tape m_fresh z163.2.1 z163.2.2.1 z163.2.2.2.1 z163.2.2.2.2.1 z163.2.2.2.2.2.1 z163.2.2.2.2.2.2.1 z163.2.2.2.2.2.2.2.1 z163.2.2.2.2.2.2.2.2.1 z163.2.2.2.2.2.2.2.2.2 32 1).bind fun z180 =>
   if z180.1 = 0 then
    if 6 ≤ (m_fresh (Int32.toNatClampNeg 7)) then
     f_X11_readLine_213 m_size m_tape 0 z180.2.1 z180.2.2.1 z180.2.2.2.1 z180.2.2.2.2.1 z180.2.2.2.2.2.1 z180.2.2.2.2.2.2.1 z180.2.2.2.2.2.2.2.1 z180.2.2.2.2.2.2.2.2.1 z180.2.2.2.2.2.2.2.2.2 m_fresh
    else
     f_X11_readLine_213 m_size m_tape 1 z180.2.1 z180.2.2.1 z180.2.2.2.1 z180.2.2.2.2.1 z180.2.2.2.2.2.1 z180.2.2.2.2.2.2.1 z180.2.2.2.2.2.2.2.1 z180.2.2.2.2.2.2.2.2.1 z180.2.2.2.2.2.2.2.2.2 m_fresh
   else
    (f_X11_errandLine m_size m_tape z180.2.1 z180.2.2.1 z180.2.2.2.1 z180.2.2.2.2.1 z180.2.2.2.2.2.1 z180.2.2.2.2.2.2.1 z180.2.2.2.2.2.2.2.1 z180.2.2.2.2.2.2.2.2.1 z180.2.2.2.2.2.2.2.2.2 m_fresh).bind fun z187 =>
    some (z187.1, z187.2.1, z187.2.2.1, z187.2.2.2.1, z187.2.2.2.2.1, z187.2.2.2.2.2.1, z187.2.2.2.2.2.2.1, z187.2.2.2.2.2.2.2.1, z187.2.2.2.2.2.2.2.2.1, z187.2.2.2.2.2.2.2.2.2)
  else
   (f_X11_hourLine m_size m_tape z163.2.1 z163.2.2.1 z163.2.2.2.1 z163.2.2.2.2.1 z163.2.2.2.2.2.1 z163.2.2.2.2.2.2.1 z163.2.2.2.2.2.2.2.1 z163.2.2.2.2.2.2.2.2.1 z163.2.2.2.2.2.2.2.2.2 m_fresh).bind fun z170 =>
   some (z170.1, z170.2.1, z170.2.2.1, z170.2.2.2.1, z170.2.2.2.2.1, z170.2.2.2.2.2.1, z170.2.2.2.2.2.2.1, z170.2.2.2.2.2.2.2.1, z170.2.2.2.2.2.2.2.2.1, z170.2.2.2.2.2.2.2.2.2)
def f_X11_readLine_131 (m_size : Int32) (m_tape : Nat → Int32) (s2 : Int32) (m_at : Int32) (m_end : Int32) (m_token : Int32) (m_whole : Int32) (m_nameSize : Int32) (m_fault : Int32) (m_place : Int32) (m_failed : Int32) (m_letters : Nat → Int32) (m_fresh : Nat → Int32) : Option (Int32 × Int32 × Int32 × Int32 × Int32 × Int32 × Int32 × Int32 × (Nat → Int32) × (Nat → Int32)) :=
  (f_X11_begins m_size m_tape m_fresh m_at m_end m_token m_whole m_nameSize m_fault m_place m_failed m_letters 30 s2).bind fun z131 =>
  if z131.1 = 0 then
   if 8 ≤ (m_fresh (Int32.toNatClampNeg 5)) then
    f_X11_readLine_163 m_size m_tape 0 z131.2.1 z131.2.2.1 z131.2.2.2.1 z131.2.2.2.2.1 z131.2.2.2.2.2.1 z131.2.2.2.2.2.2.1 z131.2.2.2.2.2.2.2.1 z131.2.2.2.2.2.2.2.2.1 z131.2.2.2.2.2.2.2.2.2 m_fresh
   else
    f_X11_readLine_163 m_size m_tape 1 z131.2.1 z131.2.2.1 z131.2.2.2.1 z131.2.2.2.2.1 z131.2.2.2.2.2.1 z131.2.2.2.2.2.2.1 z131.2.2.2.2.2.2.2.1 z131.2.2.2.2.2.2.2.2.1 z131.2.2.2.2.2.2.2.2.2 m_fresh
  else
   (f_X11_alikeLine m_size m_tape z131.2.1 z131.2.2.1 z131.2.2.2.1 z131.2.2.2.2.1 z131.2.2.2.2.2.1 z131.2.2.2.2.2.2.1 z131.2.2.2.2.2.2.2.1 z131.2.2.2.2.2.2.2.2.1 z131.2.2.2.2.2.2.2.2.2 m_fresh).bind fun z138 =>
   some (z138.1, z138.2.1, z138.2.2.1, z138.2.2.2.1, z138.2.2.2.2.1, z138.2.2.2.2.2.1, z138.2.2.2.2.2.2.1, z138.2.2.2.2.2.2.2.1, z138.2.2.2.2.2.2.2.2.1, z138.2.2.2.2.2.2.2.2.2)
def f_X11_readLine_100 (m_size : Int32) (m_tape : Nat → Int32) (s2 : Int32) (m_at : Int32) (m_end : Int32) (m_token : Int32) (m_whole : Int32) (m_nameSize : Int32) (m_fault : Int32) (m_place : Int32) (m_failed : Int32) (m_letters : Nat → Int32) (m_fresh : Nat → Int32) : Option (Int32 × Int32 × Int32 × Int32 × Int32 × Int32 × Int32 × Int32 × (Nat → Int32) × (Nat → Int32)) :=
  (f_X11_begins m_size m_tape m_fresh m_at m_end m_token m_whole m_nameSize m_fault m_place m_failed m_letters 29 s2).bind fun z100 =>
  if z100.1 = 0 then
   if 4 ≤ (m_fresh (Int32.toNatClampNeg 4)) then
    f_X11_readLine_131 m_size m_tape 0 z100.2.1 z100.2.2.1 z100.2.2.2.1 z100.2.2.2.2.1 z100.2.2.2.2.2.1 z100.2.2.2.2.2.2.1 z100.2.2.2.2.2.2.2.1 z100.2.2.2.2.2.2.2.2.1 z100.2.2.2.2.2.2.2.2.2 m_fresh
   else
    f_X11_readLine_131 m_size m_tape 1 z100.2.1 z100.2.2.1 z100.2.2.2.1 z100.2.2.2.2.1 z100.2.2.2.2.2.1 z100.2.2.2.2.2.2.1 z100.2.2.2.2.2.2.2.1 z100.2.2.2.2.2.2.2.2.1 z100.2.2.2.2.2.2.2.2.2 m_fresh
  else
   (f_X11_knowsLine m_size m_tape z100.2.1 z100.2.2.1 z100.2.2.2.1 z100.2.2.2.2.1 z100.2.2.2.2.2.1 z100.2.2.2.2.2.2.1 z100.2.2.2.2.2.2.2.1 z100.2.2.2.2.2.2.2.2.1 z100.2.2.2.2.2.2.2.2.2 m_fresh).bind fun z107 =>
   some (z107.1, z107.2.1, z107.2.2.1, z107.2.2.2.1, z107.2.2.2.2.1, z107.2.2.2.2.2.1, z107.2.2.2.2.2.2.1, z107.2.2.2.2.2.2.2.1, z107.2.2.2.2.2.2.2.2.1, z107.2.2.2.2.2.2.2.2.2)
def f_X11_readLine_67 (m_size : Int32) (m_tape : Nat → Int32) (s2 : Int32) (m_at : Int32) (m_end : Int32) (m_token : Int32) (m_whole : Int32) (m_nameSize : Int32) (m_fault : Int32) (m_place : Int32) (m_failed : Int32) (m_letters : Nat → Int32) (m_fresh : Nat → Int32) : Option (Int32 × Int32 × Int32 × Int32 × Int32 × Int32 × Int32 × Int32 × (Nat → Int32) × (Nat → Int32)) :=
  (f_X11_begins m_size m_tape m_fresh m_at m_end m_token m_whole m_nameSize m_fault m_place m_failed m_letters 28 s2).bind fun z67 =>
  if z67.1 = 0 then
   if 8 ≤ (m_fresh (Int32.toNatClampNeg 8)) then
    f_X11_readLine_100 m_size m_tape 0 z67.2.1 z67.2.2.1 z67.2.2.2.1 z67.2.2.2.2.1 z67.2.2.2.2.2.1 z67.2.2.2.2.2.2.1 z67.2.2.2.2.2.2.2.1 z67.2.2.2.2.2.2.2.2.1 z67.2.2.2.2.2.2.2.2.2 m_fresh
   else
    f_X11_readLine_100 m_size m_tape 1 z67.2.1 z67.2.2.1 z67.2.2.2.1 z67.2.2.2.2.1 z67.2.2.2.2.2.1 z67.2.2.2.2.2.2.1 z67.2.2.2.2.2.2.2.1 z67.2.2.2.2.2.2.2.2.1 z67.2.2.2.2.2.2.2.2.2 m_fresh
  else
   (f_X11_personLine m_size m_tape z67.2.1 z67.2.2.1 z67.2.2.2.1 z67.2.2.2.2.1 z67.2.2.2.2.2.1 z67.2.2.2.2.2.2.1 z67.2.2.2.2.2.2.2.1 z67.2.2.2.2.2.2.2.2.1 z67.2.2.2.2.2.2.2.2.2 m_fresh).bind fun z74 =>
   some (z74.1, z74.2.1, z74.2.2.1, z74.2.2.2.1, z74.2.2.2.2.1, z74.2.2.2.2.2.1, z74.2.2.2.2.2.2.1, z74.2.2.2.2.2.2.2.1, z74.2.2.2.2.2.2.2.2.1, z74.2.2.2.2.2.2.2.2.2)
def f_X11_readLine_35 (m_size : Int32) (m_tape : Nat → Int32) (s2 : Int32) (m_at : Int32) (m_end : Int32) (m_token : Int32) (m_whole : Int32) (m_nameSize : Int32) (m_fault : Int32) (m_place : Int32) (m_failed : Int32) (m_letters : Nat → Int32) (m_fresh : Nat → Int32) : Option (Int32 × Int32 × Int32 × Int32 × Int32 × Int32 × Int32 × Int32 × (Nat → Int32) × (Nat → Int32)) :=
  (f_X11_begins m_size m_tape m_fresh m_at m_end m_token m_whole m_nameSize m_fault m_place m_failed m_letters 27 s2).bind fun z35 =>
  if z35.1 = 0 then
   if 8 ≤ (m_fresh (Int32.toNatClampNeg 3)) then
    f_X11_readLine_67 m_size m_tape 0 z35.2.1 z35.2.2.1 z35.2.2.2.1 z35.2.2.2.2.1 z35.2.2.2.2.2.1 z35.2.2.2.2.2.2.1 z35.2.2.2.2.2.2.2.1 z35.2.2.2.2.2.2.2.2.1 z35.2.2.2.2.2.2.2.2.2 m_fresh
   else
    f_X11_readLine_67 m_size m_tape 1 z35.2.1 z35.2.2.1 z35.2.2.2.1 z35.2.2.2.2.1 z35.2.2.2.2.2.1 z35.2.2.2.2.2.2.1 z35.2.2.2.2.2.2.2.1 z35.2.2.2.2.2.2.2.2.1 z35.2.2.2.2.2.2.2.2.2 m_fresh
  else
   (f_X11_wordLine m_size m_tape z35.2.1 z35.2.2.1 z35.2.2.2.1 z35.2.2.2.2.1 z35.2.2.2.2.2.1 z35.2.2.2.2.2.2.1 z35.2.2.2.2.2.2.2.1 z35.2.2.2.2.2.2.2.2.1 z35.2.2.2.2.2.2.2.2.2 m_fresh).bind fun z42 =>
   some (z42.1, z42.2.1, z42.2.2.1, z42.2.2.2.1, z42.2.2.2.2.1, z42.2.2.2.2.2.1, z42.2.2.2.2.2.2.1, z42.2.2.2.2.2.2.2.1, z42.2.2.2.2.2.2.2.2.1, z42.2.2.2.2.2.2.2.2.2)
def f_X11_readLine (m_size : Int32) (m_tape : Nat → Int32) (m_at : Int32) (m_end : Int32) (m_token : Int32) (m_whole : Int32) (m_nameSize : Int32) (m_fault : Int32) (m_place : Int32) (m_failed : Int32) (m_letters : Nat → Int32) (m_fresh : Nat → Int32) : Option (Int32 × Int32 × Int32 × Int32 × Int32 × Int32 × Int32 × Int32 × (Nat → Int32) × (Nat → Int32)) :=
  (f_X11_isWord m_token m_nameSize m_failed m_letters 24).bind fun z3 =>
  if z3 = 0 then
   if 10 ≤ (m_fresh (Int32.toNatClampNeg 2)) then
    f_X11_readLine_35 m_size m_tape 0 m_at m_end m_token m_whole m_nameSize m_fault m_place m_failed m_letters m_fresh
   else
    f_X11_readLine_35 m_size m_tape 1 m_at m_end m_token m_whole m_nameSize m_fault m_place m_failed m_letters m_fresh
  else
   (f_X11_ferryLine m_size m_tape m_at m_end m_token m_whole m_nameSize m_fault m_place m_failed m_letters m_fresh).bind fun z10 =>
   some (z10.1, z10.2.1, z10.2.2.1, z10.2.2.2.1, z10.2.2.2.2.1, z10.2.2.2.2.2.1, z10.2.2.2.2.2.2.1, z10.2.2.2.2.2.2.2.1, z10.2.2.2.2.2.2.2.2.1, z10.2.2.2.2.2.2.2.2.2)
def f_X11_ferry_223 (m_tape : Nat → Int32) : Nat → Int32 → Int32 → Int32 → Int32 → Int32 → Int32 → Int32 → Int32 → Int32 → Int32 → Int32 → Int32 → Int32 → Int32 → Int32 → Int32 → (Nat → Int32) → (Nat → Int32) → (Nat → Int32) → (Nat → Int32) → Option (Int32 × Int32 × Int32 × Int32 × Int32 × Int32 × Int32 × Int32 × Int32 × Int32 × Int32 × Int32 × Int32 × Int32 × Int32 × Int32 × (Nat → Int32) × (Nat → Int32) × (Nat → Int32) × (Nat → Int32))
  | 0, _, _, _, _, _, _, _, _, _, _, _, _, _, _, _, _, _, _, _, _ => none
  | n + 1, v2, m_thrown, m_taped, m_size, m_at, m_end, m_token, m_whole, m_nameSize, m_fault, m_place, m_trouble, m_failed, m_hasFerry, m_undos, m_images, m_letters, m_r, m_fresh, m_st =>
   if (m_r (Int32.toNatClampNeg 3)) ≤ v2 then
    some (m_r (Int32.toNatClampNeg 3), m_thrown, m_taped, m_size, m_at, m_end, m_token, m_whole, m_nameSize, m_fault, m_place, m_trouble, m_failed, 1, 0, 0, m_letters, m_r, m_fresh, m_st)
   else
    if rf_ib (((89 : Int32) + ((4 : Int32) * v2)) + 1) 333 = true then
    if rf_ib v2 26 = true then
    if rf_ib (((89 : Int32) + ((4 : Int32) * v2)) + 2) 333 = true then
    if rf_ib ((8 : Int32) + v2) 26 = true then
    f_X11_ferry_223 m_tape n (v2 + 1) m_thrown m_taped m_size m_at m_end m_token m_whole m_nameSize m_fault m_place m_trouble m_failed m_hasFerry m_undos m_images m_letters m_r m_fresh (upd (upd m_st (Int32.toNatClampNeg v2) (m_r (Int32.toNatClampNeg (((89 : Int32) + ((4 : Int32) * v2)) + 1)))) (Int32.toNatClampNeg ((8 : Int32) + v2)) (m_r (Int32.toNatClampNeg (((89 : Int32) + ((4 : Int32) * v2)) + 2))))
    else none
    else none
    else none
    else none
def f_X11_ferry_202 (m_tape : Nat → Int32) : Nat → Int32 → Int32 → Int32 → Int32 → Int32 → Int32 → Int32 → Int32 → Int32 → Int32 → Int32 → Int32 → Int32 → Int32 → Int32 → Int32 → (Nat → Int32) → (Nat → Int32) → (Nat → Int32) → (Nat → Int32) → Option (Int32 × Int32 × Int32 × Int32 × Int32 × Int32 × Int32 × Int32 × Int32 × Int32 × Int32 × Int32 × Int32 × Int32 × Int32 × Int32 × (Nat → Int32) × (Nat → Int32) × (Nat → Int32) × (Nat → Int32))
  | 0, _, _, _, _, _, _, _, _, _, _, _, _, _, _, _, _, _, _, _, _ => none
  | n + 1, v2, m_thrown, m_taped, m_size, m_at, m_end, m_token, m_whole, m_nameSize, m_fault, m_place, m_trouble, m_failed, m_hasFerry, m_undos, m_images, m_letters, m_r, m_fresh, m_st =>
   if 26 ≤ v2 then
    f_X11_ferry_223 m_tape rf_fu 0 m_thrown m_taped m_size m_at m_end m_token m_whole m_nameSize m_fault m_place m_trouble m_failed m_hasFerry m_undos m_images m_letters m_r m_fresh m_st
   else
    if rf_ib v2 26 = true then
    f_X11_ferry_202 m_tape n (v2 + 1) m_thrown m_taped m_size m_at m_end m_token m_whole m_nameSize m_fault m_place m_trouble m_failed m_hasFerry m_undos m_images m_letters m_r m_fresh (upd m_st (Int32.toNatClampNeg v2) 0)
    else none
def f_X11_ferry_171 (m_tape : Nat → Int32) (m_thrown : Int32) (m_taped : Int32) (m_size : Int32) (m_at : Int32) (m_end : Int32) (m_token : Int32) (m_whole : Int32) (m_nameSize : Int32) (m_fault : Int32) (m_place : Int32) (m_trouble : Int32) (m_failed : Int32) (m_hasFerry : Int32) (m_undos : Int32) (m_images : Int32) (m_letters : Nat → Int32) (m_r : Nat → Int32) (m_fresh : Nat → Int32) (m_st : Nat → Int32) : Option (Int32 × Int32 × Int32 × Int32 × Int32 × Int32 × Int32 × Int32 × Int32 × Int32 × Int32 × Int32 × Int32 × Int32 × Int32 × Int32 × (Nat → Int32) × (Nat → Int32) × (Nat → Int32) × (Nat → Int32)) :=
  if m_failed = 0 then
   if rf_cok 0 0 333 333 333 = true then
   f_X11_ferry_202 m_tape rf_fu 0 m_thrown m_taped m_size m_at m_end m_token m_whole m_nameSize m_fault m_place m_trouble m_failed m_hasFerry m_undos m_images m_letters (va_cpy m_fresh m_r (Int32.toNatClampNeg 0) (Int32.toNatClampNeg 0) (Int32.toNatClampNeg 333)) m_fresh m_st
   else none
  else
   (f_X11_no m_trouble 4).bind fun z180 =>
   some (z180.1, m_thrown, m_taped, m_size, m_at, m_end, m_token, m_whole, m_nameSize, m_fault, m_place, z180.2, m_failed, m_hasFerry, m_undos, m_images, m_letters, m_r, m_fresh, m_st)
def f_X11_ferry_161 (m_tape : Nat → Int32) (m_thrown : Int32) (m_taped : Int32) (m_size : Int32) (m_at : Int32) (m_end : Int32) (m_token : Int32) (m_whole : Int32) (m_nameSize : Int32) (m_fault : Int32) (m_place : Int32) (m_trouble : Int32) (m_failed : Int32) (m_hasFerry : Int32) (m_undos : Int32) (m_images : Int32) (m_letters : Nat → Int32) (m_r : Nat → Int32) (m_fresh : Nat → Int32) (m_st : Nat → Int32) : Option (Int32 × Int32 × Int32 × Int32 × Int32 × Int32 × Int32 × Int32 × Int32 × Int32 × Int32 × Int32 × Int32 × Int32 × Int32 × Int32 × (Nat → Int32) × (Nat → Int32) × (Nat → Int32) × (Nat → Int32)) :=
  (f_X11_wrong m_fault m_place m_failed 6 m_at).bind fun z168 =>
  f_X11_ferry_171 m_tape m_thrown m_taped m_size m_at m_end m_token m_whole m_nameSize z168.1 z168.2.1 m_trouble z168.2.2 m_hasFerry m_undos m_images m_letters m_r m_fresh m_st
def f_X11_ferry_127 (m_tape : Nat → Int32) (m_thrown : Int32) (m_taped : Int32) (m_size : Int32) (m_at : Int32) (m_end : Int32) (m_token : Int32) (m_whole : Int32) (m_nameSize : Int32) (m_fault : Int32) (m_place : Int32) (m_trouble : Int32) (m_failed : Int32) (m_hasFerry : Int32) (m_undos : Int32) (m_images : Int32) (m_letters : Nat → Int32) (m_r : Nat → Int32) (m_fresh : Nat → Int32) (m_st : Nat → Int32) : Option (Int32 × Int32 × Int32 × Int32 × Int32 × Int32 × Int32 × Int32 × Int32 × Int32 × Int32 × Int32 × Int32 × Int32 × Int32 × Int32 × (Nat → Int32) × (Nat → Int32) × (Nat → Int32) × (Nat → Int32)) :=
  if m_failed = 0 then
   if (m_fresh (Int32.toNatClampNeg 0)) = 0 then
    f_X11_ferry_161 m_tape m_thrown m_taped m_size m_at m_end m_token m_whole m_nameSize m_fault m_place m_trouble m_failed m_hasFerry m_undos m_images m_letters m_r m_fresh m_st
   else
    if (m_fresh (Int32.toNatClampNeg 2)) = 0 then
     f_X11_ferry_161 m_tape m_thrown m_taped m_size m_at m_end m_token m_whole m_nameSize m_fault m_place m_trouble m_failed m_hasFerry m_undos m_images m_letters m_r m_fresh m_st
    else
     if (m_fresh (Int32.toNatClampNeg 3)) = 0 then
      f_X11_ferry_161 m_tape m_thrown m_taped m_size m_at m_end m_token m_whole m_nameSize m_fault m_place m_trouble m_failed m_hasFerry m_undos m_images m_letters m_r m_fresh m_st
     else
      f_X11_ferry_171 m_tape m_thrown m_taped m_size m_at m_end m_token m_whole m_nameSize m_fault m_place m_trouble m_failed m_hasFerry m_undos m_images m_letters m_r m_fresh m_st
  else
   f_X11_ferry_171 m_tape m_thrown m_taped m_size m_at m_end m_token m_whole m_nameSize m_fault m_place m_trouble m_failed m_hasFerry m_undos m_images m_letters m_r m_fresh m_st
def f_X11_ferry_104 (m_tape : Nat → Int32) (m_thrown : Int32) (m_taped : Int32) (m_size : Int32) (m_at : Int32) (m_end : Int32) (m_token : Int32) (m_whole : Int32) (m_nameSize : Int32) (m_fault : Int32) (m_place : Int32) (m_trouble : Int32) (m_failed : Int32) (m_hasFerry : Int32) (m_undos : Int32) (m_images : Int32) (m_letters : Nat → Int32) (m_r : Nat → Int32) (m_fresh : Nat → Int32) (m_st : Nat → Int32) : Option (Int32 × Int32 × Int32 × Int32 × Int32 × Int32 × Int32 × Int32 × Int32 × Int32 × Int32 × Int32 × Int32 × Int32 × Int32 × Int32 × (Nat → Int32) × (Nat → Int32) × (Nat → Int32) × (Nat → Int32)) :=
  if m_failed = 0 then
   if m_token = 0 then
    f_X11_ferry_127 m_tape m_thrown m_taped m_size m_at m_end m_token m_whole m_nameSize m_fault m_place m_trouble m_failed m_hasFerry m_undos m_images m_letters m_r m_fresh m_st
   else
    (f_X11_wrong m_fault m_place m_failed 1 m_at).bind fun z124 =>
    f_X11_ferry_127 m_tape m_thrown m_taped m_size m_at m_end m_token m_whole m_nameSize z124.1 z124.2.1 m_trouble z124.2.2 m_hasFerry m_undos m_images m_letters m_r m_fresh m_st
  else
   f_X11_ferry_127 m_tape m_thrown m_taped m_size m_at m_end m_token m_whole m_nameSize m_fault m_place m_trouble m_failed m_hasFerry m_undos m_images m_letters m_r m_fresh m_st
def f_X11_ferry_77 (m_tape : Nat → Int32) : Nat → Int32 → Int32 → Int32 → Int32 → Int32 → Int32 → Int32 → Int32 → Int32 → Int32 → Int32 → Int32 → Int32 → Int32 → Int32 → (Nat → Int32) → (Nat → Int32) → (Nat → Int32) → (Nat → Int32) → Option (Int32 × Int32 × Int32 × Int32 × Int32 × Int32 × Int32 × Int32 × Int32 × Int32 × Int32 × Int32 × Int32 × Int32 × Int32 × Int32 × (Nat → Int32) × (Nat → Int32) × (Nat → Int32) × (Nat → Int32))
  | 0, _, _, _, _, _, _, _, _, _, _, _, _, _, _, _, _, _, _, _ => none
  | n + 1, m_thrown, m_taped, m_size, m_at, m_end, m_token, m_whole, m_nameSize, m_fault, m_place, m_trouble, m_failed, m_hasFerry, m_undos, m_images, m_letters, m_r, m_fresh, m_st =>
   if m_failed = 0 then
    if m_token = 59 then
     (f_X11_next m_size m_tape m_at m_end m_token m_whole m_nameSize m_letters).bind fun z94 =>
     (f_X11_readLine m_size m_tape z94.1 z94.2.1 z94.2.2.1 z94.2.2.2.1 z94.2.2.2.2.1 m_fault m_place m_failed z94.2.2.2.2.2 m_fresh).bind fun z98 =>
     f_X11_ferry_77 m_tape n m_thrown m_taped m_size z98.1 z98.2.1 z98.2.2.1 z98.2.2.2.1 z98.2.2.2.2.1 z98.2.2.2.2.2.1 z98.2.2.2.2.2.2.1 m_trouble z98.2.2.2.2.2.2.2.1 m_hasFerry m_undos m_images z98.2.2.2.2.2.2.2.2.1 m_r z98.2.2.2.2.2.2.2.2.2 m_st
    else
     f_X11_ferry_104 m_tape m_thrown m_taped m_size m_at m_end m_token m_whole m_nameSize m_fault m_place m_trouble m_failed m_hasFerry m_undos m_images m_letters m_r m_fresh m_st
   else
    f_X11_ferry_104 m_tape m_thrown m_taped m_size m_at m_end m_token m_whole m_nameSize m_fault m_place m_trouble m_failed m_hasFerry m_undos m_images m_letters m_r m_fresh m_st
def f_X11_ferry_39 (m_tape : Nat → Int32) : Nat → Int32 → Int32 → Int32 → Int32 → Int32 → Int32 → Int32 → Int32 → Int32 → Int32 → Int32 → Int32 → Int32 → Int32 → Int32 → Int32 → Int32 → (Nat → Int32) → (Nat → Int32) → (Nat → Int32) → (Nat → Int32) → Option (Int32 × Int32 × Int32 × Int32 × Int32 × Int32 × Int32 × Int32 × Int32 × Int32 × Int32 × Int32 × Int32 × Int32 × Int32 × Int32 × (Nat → Int32) × (Nat → Int32) × (Nat → Int32) × (Nat → Int32))
  | 0, _, _, _, _, _, _, _, _, _, _, _, _, _, _, _, _, _, _, _, _, _ => none
  | n + 1, v1, v2, m_thrown, m_taped, m_size, m_at, m_end, m_token, m_whole, m_nameSize, m_fault, m_place, m_trouble, m_failed, m_hasFerry, m_undos, m_images, m_letters, m_r, m_fresh, m_st =>
   if 333 ≤ v2 then
    (f_X11_next v1 m_tape m_at 0 m_token m_whole m_nameSize m_letters).bind fun z70 =>
    (f_X11_readLine v1 m_tape z70.1 z70.2.1 z70.2.2.1 z70.2.2.2.1 z70.2.2.2.2.1 m_fault m_place m_failed z70.2.2.2.2.2 m_fresh).bind fun z74 =>
    f_X11_ferry_77 m_tape rf_fu m_thrown m_taped v1 z74.1 z74.2.1 z74.2.2.1 z74.2.2.2.1 z74.2.2.2.2.1 z74.2.2.2.2.2.1 z74.2.2.2.2.2.2.1 m_trouble z74.2.2.2.2.2.2.2.1 m_hasFerry m_undos m_images z74.2.2.2.2.2.2.2.2.1 m_r z74.2.2.2.2.2.2.2.2.2 m_st
   else
    if rf_ib v2 333 = true then
    f_X11_ferry_39 m_tape n v1 (v2 + 1) m_thrown m_taped m_size m_at m_end m_token m_whole m_nameSize m_fault m_place m_trouble m_failed m_hasFerry m_undos m_images m_letters m_r (upd m_fresh (Int32.toNatClampNeg v2) 0) m_st
    else none
def f_X11_ferry (m_tape : Nat → Int32) (m_thrown : Int32) (m_taped : Int32) (m_size : Int32) (m_at : Int32) (m_end : Int32) (m_token : Int32) (m_whole : Int32) (m_nameSize : Int32) (m_fault : Int32) (m_place : Int32) (m_trouble : Int32) (m_failed : Int32) (m_hasFerry : Int32) (m_undos : Int32) (m_images : Int32) (m_letters : Nat → Int32) (m_r : Nat → Int32) (m_fresh : Nat → Int32) (m_st : Nat → Int32) (v1 : Int32) : Option (Int32 × Int32 × Int32 × Int32 × Int32 × Int32 × Int32 × Int32 × Int32 × Int32 × Int32 × Int32 × Int32 × Int32 × Int32 × Int32 × (Nat → Int32) × (Nat → Int32) × (Nat → Int32) × (Nat → Int32)) :=
  (f_X11_good m_thrown m_trouble).bind fun z1 =>
  (f_X11_in v1 0 m_taped).bind fun z10 =>
  if z10 = 0 then
   (f_X11_no z1.2 2).bind fun z18 =>
   some (z18.1, z1.1, m_taped, m_size, m_at, m_end, m_token, m_whole, m_nameSize, m_fault, m_place, z18.2, m_failed, m_hasFerry, m_undos, m_images, m_letters, m_r, m_fresh, m_st)
  else
   f_X11_ferry_39 m_tape rf_fu v1 0 z1.1 0 m_size m_at m_end m_token m_whole m_nameSize 0 m_place z1.2 0 m_hasFerry m_undos m_images m_letters m_r m_fresh m_st
def f_X11_fault (m_fault : Int32) (m_thrown : Int32) : Option (Int32 × Int32) :=
  some (m_fault, 0)
def f_X11_where (m_place : Int32) (m_trouble : Int32) (m_thrown : Int32) : Option (Int32 × Int32) :=
  if m_trouble = 4 then
   some (m_place, 0)
  else
   some ((-1), 0)
def f_X11_isWordThere_27 (m_hasFerry : Int32) (m_r : Nat → Int32) : Option (Int32) :=
  some 0
def f_X11_isWordThere (m_hasFerry : Int32) (m_r : Nat → Int32) (v1 : Int32) : Option (Int32) :=
  if m_hasFerry = 0 then
   f_X11_isWordThere_27 m_hasFerry m_r
  else
   (f_X11_in v1 0 ((m_r (Int32.toNatClampNeg 2)) - 1)).bind fun z17 =>
   if z17 = 0 then
    f_X11_isWordThere_27 m_hasFerry m_r
   else
    some 1
def f_X11_word_21 (m_hasFerry : Int32) (m_r : Nat → Int32) (m_st : Nat → Int32) (m_thrown : Int32) (m_trouble : Int32) : Option (Int32 × Int32 × Int32) :=
  (f_X11_no m_trouble 1).bind fun z23 =>
  some (z23.1, m_thrown, z23.2)
def f_X11_word_89 (k52 : Int32 → Int32 → Int32 → Int32 → Int32 → Option (Int32 × Int32 × Int32)) (m_hasFerry : Int32) (m_r : Nat → Int32) (m_st : Nat → Int32) (v1 : Int32) (v4 : Int32) (s0 : Int32) (s1 : Int32) (m_thrown : Int32) (m_trouble : Int32) : Option (Int32 × Int32 × Int32) :=
  k52 v1 (s0 ||| s1) (v4 + 1) m_thrown m_trouble
def f_X11_word_52 (m_hasFerry : Int32) (m_r : Nat → Int32) (m_st : Nat → Int32) : Nat → Int32 → Int32 → Int32 → Int32 → Int32 → Option (Int32 × Int32 × Int32)
  | 0, _, _, _, _, _ => none
  | n + 1, v1, v3, v4, m_thrown, m_trouble =>
   if (m_r (Int32.toNatClampNeg 3)) ≤ v4 then
    some (v3, m_thrown, m_trouble)
   else
    if rf_ib ((8 : Int32) + v4) 26 = true then
    (f_X11_hasBit (m_st (Int32.toNatClampNeg ((8 : Int32) + v4))) v1).bind fun z75 =>
    if z75 = 0 then
     f_X11_word_89 (f_X11_word_52 m_hasFerry m_r m_st n) m_hasFerry m_r m_st v1 v4 v3 0 m_thrown m_trouble
    else
     f_X11_word_89 (f_X11_word_52 m_hasFerry m_r m_st n) m_hasFerry m_r m_st v1 v4 v3 ((1 : Int32) <<< (v4 &&& 31)) m_thrown m_trouble
    else none
def f_X11_word (m_hasFerry : Int32) (m_r : Nat → Int32) (m_st : Nat → Int32) (m_thrown : Int32) (m_trouble : Int32) (v1 : Int32) (v2 : Int32) : Option (Int32 × Int32 × Int32) :=
  (f_X11_good m_thrown m_trouble).bind fun z1 =>
  (f_X11_isWordThere m_hasFerry m_r v1).bind fun z6 =>
  if z6 = 0 then
   f_X11_word_21 m_hasFerry m_r m_st z1.1 z1.2
  else
   (f_X11_in v2 0 2).bind fun z15 =>
   if z15 = 0 then
    f_X11_word_21 m_hasFerry m_r m_st z1.1 z1.2
   else
    if 2 ≤ v2 then
     f_X11_word_52 m_hasFerry m_r m_st rf_fu v1 0 0 z1.1 z1.2
    else
     if rf_ib (((9 : Int32) + ((8 : Int32) * v1)) + v2) 333 = true then
     some (m_r (Int32.toNatClampNeg (((9 : Int32) + ((8 : Int32) * v1)) + v2)), z1.1, z1.2)
     else none
def f_X11_likeOf_127 (m_r : Nat → Int32) (v5 : Int32) : Option (Int32) :=
  some v5
def f_X11_likeOf_121 (k20 : Int32 → Int32 → Int32 → Option (Int32)) (m_r : Nat → Int32) (v3 : Int32) (v4 : Int32) (v5 : Int32) : Option (Int32) :=
  k20 v3 v4 (v5 + 1)
def f_X11_likeOf_20 (m_r : Nat → Int32) : Nat → Int32 → Int32 → Int32 → Option (Int32)
  | 0, _, _, _ => none
  | n + 1, v3, v4, v5 =>
   if rf_ib (v3 + 1) 333 = true then
   if (m_r (Int32.toNatClampNeg (v3 + 1))) ≤ v5 then
    f_X11_likeOf_127 m_r v5
   else
    if rf_ib (v4 + 1) 333 = true then
    if (m_r (Int32.toNatClampNeg (v4 + 1))) ≤ v5 then
     f_X11_likeOf_127 m_r v5
    else
     if rf_ib (v3 + 1) 333 = true then
     if rf_ib (((v3 + 1) + (m_r (Int32.toNatClampNeg (v3 + 1)))) - v5) 333 = true then
     if rf_ib (v4 + 1) 333 = true then
     if rf_ib (((v4 + 1) + (m_r (Int32.toNatClampNeg (v4 + 1)))) - v5) 333 = true then
     if (m_r (Int32.toNatClampNeg (((v3 + 1) + (m_r (Int32.toNatClampNeg (v3 + 1)))) - v5))) = (m_r (Int32.toNatClampNeg (((v4 + 1) + (m_r (Int32.toNatClampNeg (v4 + 1)))) - v5))) then
      f_X11_likeOf_121 (f_X11_likeOf_20 m_r n) m_r v3 v4 v5
     else
      if rf_ib ((121 : Int32) + (m_r (Int32.toNatClampNeg (((v3 + 1) + (m_r (Int32.toNatClampNeg (v3 + 1)))) - v5)))) 333 = true then
      (f_X11_hasBit (m_r (Int32.toNatClampNeg ((121 : Int32) + (m_r (Int32.toNatClampNeg (((v3 + 1) + (m_r (Int32.toNatClampNeg (v3 + 1)))) - v5)))))) (m_r (Int32.toNatClampNeg (((v4 + 1) + (m_r (Int32.toNatClampNeg (v4 + 1)))) - v5)))).bind fun z112 =>
      if z112 = 0 then
       some v5
      else
       f_X11_likeOf_121 (f_X11_likeOf_20 m_r n) m_r v3 v4 v5
      else none
     else none
     else none
     else none
     else none
    else none
   else none
def f_X11_likeOf (m_r : Nat → Int32) (v1 : Int32) (v2 : Int32) : Option (Int32) :=
  f_X11_likeOf_20 m_r rf_fu ((9 : Int32) + ((8 : Int32) * v1)) ((9 : Int32) + ((8 : Int32) * v2)) 0
def f_X11_like_29 (m_hasFerry : Int32) (m_r : Nat → Int32) (m_thrown : Int32) (m_trouble : Int32) : Option (Int32 × Int32 × Int32) :=
  (f_X11_no m_trouble 1).bind fun z31 =>
  some (z31.1, m_thrown, z31.2)
def f_X11_like (m_hasFerry : Int32) (m_r : Nat → Int32) (m_thrown : Int32) (m_trouble : Int32) (v1 : Int32) (v2 : Int32) : Option (Int32 × Int32 × Int32) :=
  (f_X11_good m_thrown m_trouble).bind fun z1 =>
  (f_X11_isWordThere m_hasFerry m_r v1).bind fun z6 =>
  if z6 = 0 then
   f_X11_like_29 m_hasFerry m_r z1.1 z1.2
  else
   (f_X11_isWordThere m_hasFerry m_r v2).bind fun z14 =>
   if z14 = 0 then
    f_X11_like_29 m_hasFerry m_r z1.1 z1.2
   else
    (f_X11_likeOf m_r v1 v2).bind fun z23 =>
    some (z23, z1.1, z1.2)
def f_X11_eyeOf_95 (m_r : Nat → Int32) (v3 : Int32) : Option (Int32) :=
  some v3
def f_X11_eyeOf_2 (m_r : Nat → Int32) : Nat → Int32 → Int32 → Int32 → Option (Int32)
  | 0, _, _, _ => none
  | n + 1, v1, v2, v3 =>
   if rf_ib ((171 : Int32) + v1) 333 = true then
   if (m_r (Int32.toNatClampNeg ((171 : Int32) + v1))) ≤ v3 then
    f_X11_eyeOf_95 m_r v3
   else
    if rf_ib ((171 : Int32) + v2) 333 = true then
    if (m_r (Int32.toNatClampNeg ((171 : Int32) + v2))) ≤ v3 then
     f_X11_eyeOf_95 m_r v3
    else
     if rf_ib ((171 : Int32) + v1) 333 = true then
     if rf_ib (((((189 : Int32) + ((8 : Int32) * v1)) + (m_r (Int32.toNatClampNeg ((171 : Int32) + v1)))) - 1) - v3) 333 = true then
     if rf_ib ((171 : Int32) + v2) 333 = true then
     if rf_ib (((((189 : Int32) + ((8 : Int32) * v2)) + (m_r (Int32.toNatClampNeg ((171 : Int32) + v2)))) - 1) - v3) 333 = true then
     if (m_r (Int32.toNatClampNeg (((((189 : Int32) + ((8 : Int32) * v1)) + (m_r (Int32.toNatClampNeg ((171 : Int32) + v1)))) - 1) - v3))) = (m_r (Int32.toNatClampNeg (((((189 : Int32) + ((8 : Int32) * v2)) + (m_r (Int32.toNatClampNeg ((171 : Int32) + v2)))) - 1) - v3))) then
      f_X11_eyeOf_2 m_r n v1 v2 (v3 + 1)
     else
      f_X11_eyeOf_95 m_r v3
     else none
     else none
     else none
     else none
    else none
   else none
def f_X11_eyeOf (m_r : Nat → Int32) (v1 : Int32) (v2 : Int32) : Option (Int32) :=
  f_X11_eyeOf_2 m_r rf_fu v1 v2 0
def f_X11_eye_29 (m_hasFerry : Int32) (m_r : Nat → Int32) (m_thrown : Int32) (m_trouble : Int32) : Option (Int32 × Int32 × Int32) :=
  (f_X11_no m_trouble 1).bind fun z31 =>
  some (z31.1, m_thrown, z31.2)
def f_X11_eye (m_hasFerry : Int32) (m_r : Nat → Int32) (m_thrown : Int32) (m_trouble : Int32) (v1 : Int32) (v2 : Int32) : Option (Int32 × Int32 × Int32) :=
  (f_X11_good m_thrown m_trouble).bind fun z1 =>
  (f_X11_isWordThere m_hasFerry m_r v1).bind fun z6 =>
  if z6 = 0 then
   f_X11_eye_29 m_hasFerry m_r z1.1 z1.2
  else
   (f_X11_isWordThere m_hasFerry m_r v2).bind fun z14 =>
   if z14 = 0 then
    f_X11_eye_29 m_hasFerry m_r z1.1 z1.2
   else
    (f_X11_eyeOf m_r v1 v2).bind fun z23 =>
    some (z23, z1.1, z1.2)
def f_X11_isPerson_27 (m_hasFerry : Int32) (m_r : Nat → Int32) : Option (Int32) :=
  some 0
def f_X11_isPerson (m_hasFerry : Int32) (m_r : Nat → Int32) (v1 : Int32) : Option (Int32) :=
  if m_hasFerry = 0 then
   f_X11_isPerson_27 m_hasFerry m_r
  else
   (f_X11_in v1 0 ((m_r (Int32.toNatClampNeg 3)) - 1)).bind fun z17 =>
   if z17 = 0 then
    f_X11_isPerson_27 m_hasFerry m_r
   else
    some 1
def f_X11_kindOf (m_r : Nat → Int32) (v1 : Int32) : Option (Int32) :=
  if rf_ib ((89 : Int32) + ((4 : Int32) * v1)) 333 = true then
  some (m_r (Int32.toNatClampNeg ((89 : Int32) + ((4 : Int32) * v1))))
  else none
def f_X11_person_21 (m_hasFerry : Int32) (m_r : Nat → Int32) (m_st : Nat → Int32) (m_thrown : Int32) (m_trouble : Int32) : Option (Int32 × Int32 × Int32) :=
  (f_X11_no m_trouble 1).bind fun z23 =>
  some (z23.1, m_thrown, z23.2)
def f_X11_person (m_hasFerry : Int32) (m_r : Nat → Int32) (m_st : Nat → Int32) (m_thrown : Int32) (m_trouble : Int32) (v1 : Int32) (v2 : Int32) : Option (Int32 × Int32 × Int32) :=
  (f_X11_good m_thrown m_trouble).bind fun z1 =>
  (f_X11_isPerson m_hasFerry m_r v1).bind fun z6 =>
  if z6 = 0 then
   f_X11_person_21 m_hasFerry m_r m_st z1.1 z1.2
  else
   (f_X11_in v2 0 4).bind fun z15 =>
   if z15 = 0 then
    f_X11_person_21 m_hasFerry m_r m_st z1.1 z1.2
   else
    if v2 = 0 then
     (f_X11_kindOf m_r v1).bind fun z62 =>
     some (z62, z1.1, z1.2)
    else
    if v2 = 1 then
     if rf_ib v1 26 = true then
     some (m_st (Int32.toNatClampNeg v1), z1.1, z1.2)
     else none
    else
    if v2 = 2 then
     if rf_ib ((8 : Int32) + v1) 26 = true then
     some (m_st (Int32.toNatClampNeg ((8 : Int32) + v1)), z1.1, z1.2)
     else none
    else
    if v2 = 3 then
     if rf_ib ((16 : Int32) + v1) 26 = true then
     some (m_st (Int32.toNatClampNeg ((16 : Int32) + v1)), z1.1, z1.2)
     else none
    else
     if rf_ib (((89 : Int32) + ((4 : Int32) * v1)) + 3) 333 = true then
     some (m_r (Int32.toNatClampNeg (((89 : Int32) + ((4 : Int32) * v1)) + 3)), z1.1, z1.2)
     else none
def f_X11_earAt (m_r : Nat → Int32) (v1 : Int32) : Option (Int32) :=
  if rf_ib ((129 : Int32) + v1) 333 = true then
  if (m_r (Int32.toNatClampNeg ((129 : Int32) + v1))) ≤ 0 then
   some (m_r (Int32.toNatClampNeg 0))
  else
   if rf_ib ((129 : Int32) + v1) 333 = true then
   some (m_r (Int32.toNatClampNeg ((129 : Int32) + v1)))
   else none
  else none
def f_X11_isHour (v0 : Int32) : Option (Int32) :=
  (f_X11_in v0 0 23).bind fun z4 =>
  if rf_zb z4 = true then
  some z4
  else none
def f_X11_why (v1 : Int32) (v2 : Int32) : Option (Int32) :=
  if v1 = 0 then
   some 1
  else
   (f_X11_isHour v2).bind fun z9 =>
   if z9 = 0 then
    some 2
   else
    some 0
def f_X11_ear (m_hasFerry : Int32) (m_r : Nat → Int32) (m_thrown : Int32) (m_trouble : Int32) (v1 : Int32) : Option (Int32 × Int32 × Int32) :=
  (f_X11_good m_thrown m_trouble).bind fun z1 =>
  (f_X11_why m_hasFerry v1).bind fun z10 =>
  if z10 = 0 then
   (f_X11_earAt m_r v1).bind fun z28 =>
   some (z28, z1.1, z1.2)
  else
   (f_X11_no z1.2 z10).bind fun z20 =>
   some (z20.1, z1.1, z20.2)
def f_X11_areTwo_25 (m_hasFerry : Int32) (m_r : Nat → Int32) : Option (Int32) :=
  some 0
def f_X11_areTwo (m_hasFerry : Int32) (m_r : Nat → Int32) (v1 : Int32) (v2 : Int32) : Option (Int32) :=
  (f_X11_isPerson m_hasFerry m_r v1).bind fun z2 =>
  if z2 = 0 then
   f_X11_areTwo_25 m_hasFerry m_r
  else
   (f_X11_isPerson m_hasFerry m_r v2).bind fun z10 =>
   if z10 = 0 then
    f_X11_areTwo_25 m_hasFerry m_r
   else
    if v1 = v2 then
     f_X11_areTwo_25 m_hasFerry m_r
    else
     some 1
def f_X11_rhymeOf_10 (m_r : Nat → Int32) : Option (Int32) :=
  some 2
def f_X11_rhymeOf_156 (m_r : Nat → Int32) : Option (Int32) :=
  some 2
def f_X11_rhymeOf_112 (k18 : Int32 → Int32 → Int32 → Int32 → Int32 → Int32 → Int32 → Option (Int32)) (k32 : Int32 → Int32 → Int32 → Int32 → Int32 → Int32 → Int32 → Int32 → Option (Int32)) (m_r : Nat → Int32) (v1 : Int32) (v2 : Int32) (v3 : Int32) (v4 : Int32) (v5 : Int32) (v6 : Int32) (v7 : Int32) (v8 : Int32) : Option (Int32) :=
  k32 v1 v2 v3 v4 v5 v6 v7 (v8 + 1)
def f_X11_rhymeOf_110 (k18 : Int32 → Int32 → Int32 → Int32 → Int32 → Int32 → Int32 → Option (Int32)) (k32 : Int32 → Int32 → Int32 → Int32 → Int32 → Int32 → Int32 → Int32 → Option (Int32)) (m_r : Nat → Int32) (v1 : Int32) (v2 : Int32) (v3 : Int32) (v4 : Int32) (v5 : Int32) (v7 : Int32) (v8 : Int32) (s0 : Int32) : Option (Int32) :=
  f_X11_rhymeOf_112 k18 k32 m_r v1 v2 v3 v4 v5 s0 v7 v8
def f_X11_rhymeOf_94 (k18 : Int32 → Int32 → Int32 → Int32 → Int32 → Int32 → Int32 → Option (Int32)) (k32 : Int32 → Int32 → Int32 → Int32 → Int32 → Int32 → Int32 → Int32 → Option (Int32)) (m_r : Nat → Int32) (v1 : Int32) (v2 : Int32) (v3 : Int32) (v4 : Int32) (v5 : Int32) (v6 : Int32) (v7 : Int32) (v8 : Int32) (s0 : Int32) : Option (Int32) :=
  if s0 ≤ v6 then
   f_X11_rhymeOf_110 k18 k32 m_r v1 v2 v3 v4 v5 v7 v8 v6
  else
   f_X11_rhymeOf_110 k18 k32 m_r v1 v2 v3 v4 v5 v7 v8 s0
def f_X11_rhymeOf_75 (k18 : Int32 → Int32 → Int32 → Int32 → Int32 → Int32 → Int32 → Option (Int32)) (k32 : Int32 → Int32 → Int32 → Int32 → Int32 → Int32 → Int32 → Int32 → Option (Int32)) (m_r : Nat → Int32) (v1 : Int32) (v2 : Int32) (v3 : Int32) (v4 : Int32) (v5 : Int32) (v6 : Int32) (v7 : Int32) (v8 : Int32) : Option (Int32) :=
  (f_X11_eyeOf m_r v7 v8).bind fun z80 =>
  f_X11_rhymeOf_94 k18 k32 m_r v1 v2 v3 v4 v5 v6 v7 v8 z80
def f_X11_rhymeOf_32 (k18 : Int32 → Int32 → Int32 → Int32 → Int32 → Int32 → Int32 → Option (Int32)) (m_r : Nat → Int32) : Nat → Int32 → Int32 → Int32 → Int32 → Int32 → Int32 → Int32 → Int32 → Option (Int32)
  | 0, _, _, _, _, _, _, _, _ => none
  | n + 1, v1, v2, v3, v4, v5, v6, v7, v8 =>
   if (m_r (Int32.toNatClampNeg 2)) ≤ v8 then
    k18 v1 v2 v3 v4 v5 v6 (v7 + 1)
   else
    (f_X11_hasBit v2 v7).bind fun z46 =>
    if z46 = 0 then
     f_X11_rhymeOf_112 k18 (f_X11_rhymeOf_32 k18 m_r n) m_r v1 v2 v3 v4 v5 v6 v7 v8
    else
     (f_X11_hasBit v4 v8).bind fun z56 =>
     if z56 = 0 then
      f_X11_rhymeOf_112 k18 (f_X11_rhymeOf_32 k18 m_r n) m_r v1 v2 v3 v4 v5 v6 v7 v8
     else
      if v1 = 1 then
       f_X11_rhymeOf_75 k18 (f_X11_rhymeOf_32 k18 m_r n) m_r v1 v2 v3 v4 v5 v6 v7 v8
      else
       if v3 = 1 then
        f_X11_rhymeOf_75 k18 (f_X11_rhymeOf_32 k18 m_r n) m_r v1 v2 v3 v4 v5 v6 v7 v8
       else
        (f_X11_likeOf m_r v7 v8).bind fun z91 =>
        f_X11_rhymeOf_94 k18 (f_X11_rhymeOf_32 k18 m_r n) m_r v1 v2 v3 v4 v5 v6 v7 v8 z91
def f_X11_rhymeOf_18 (m_r : Nat → Int32) : Nat → Int32 → Int32 → Int32 → Int32 → Int32 → Int32 → Int32 → Option (Int32)
  | 0, _, _, _, _, _, _, _ => none
  | n + 1, v1, v2, v3, v4, v5, v6, v7 =>
   if (m_r (Int32.toNatClampNeg 2)) ≤ v7 then
    if v6 < v5 then
     if (v5 - 1) ≤ v6 then
      if v1 = 3 then
       f_X11_rhymeOf_156 m_r
      else
       if v3 = 3 then
        f_X11_rhymeOf_156 m_r
       else
        some 1
     else
      some 0
    else
     some 2
   else
    f_X11_rhymeOf_32 (f_X11_rhymeOf_18 m_r n) m_r rf_fu v1 v2 v3 v4 v5 v6 v7 0
def f_X11_rhymeOf (m_r : Nat → Int32) (v1 : Int32) (v2 : Int32) (v3 : Int32) (v4 : Int32) (v5 : Int32) : Option (Int32) :=
  if v1 = 2 then
   f_X11_rhymeOf_10 m_r
  else
   if v3 = 2 then
    f_X11_rhymeOf_10 m_r
   else
    f_X11_rhymeOf_18 m_r rf_fu v1 v2 v3 v4 v5 0 0
def f_X11_rhymeNow (m_r : Nat → Int32) (m_st : Nat → Int32) (v1 : Int32) (v2 : Int32) (v3 : Int32) : Option (Int32) :=
  (f_X11_kindOf m_r v1).bind fun z3 =>
  if rf_ib ((8 : Int32) + v1) 26 = true then
  (f_X11_kindOf m_r v2).bind fun z17 =>
  if rf_ib ((8 : Int32) + v2) 26 = true then
  (f_X11_rhymeOf m_r z3 (m_st (Int32.toNatClampNeg ((8 : Int32) + v1))) z17 (m_st (Int32.toNatClampNeg ((8 : Int32) + v2))) v3).bind fun z30 =>
  some z30
  else none
  else none
def f_X11_rhyme (m_hasFerry : Int32) (m_r : Nat → Int32) (m_st : Nat → Int32) (m_thrown : Int32) (m_trouble : Int32) (v1 : Int32) (v2 : Int32) (v3 : Int32) : Option (Int32 × Int32 × Int32) :=
  (f_X11_good m_thrown m_trouble).bind fun z1 =>
  (f_X11_areTwo m_hasFerry m_r v1 v2).bind fun z8 =>
  (f_X11_why z8 v3).bind fun z12 =>
  if z12 = 0 then
   (f_X11_earAt m_r v3).bind fun z36 =>
   (f_X11_rhymeNow m_r m_st v1 v2 z36).bind fun z39 =>
   some (z39, z1.1, z1.2)
  else
   (f_X11_no z1.2 z12).bind fun z25 =>
   some (z25.1, z1.1, z25.2)
def f_X11_withBy_64 (k6 : Int32 → Int32 → Int32 → Int32 → Int32 → Option (Int32)) (m_r : Nat → Int32) (m_st : Nat → Int32) (v1 : Int32) (v2 : Int32) (v3 : Int32) (v5 : Int32) (s0 : Int32) (s1 : Int32) : Option (Int32) :=
  k6 v1 v2 v3 (s0 ||| s1) (v5 + 1)
def f_X11_withBy_63 (k6 : Int32 → Int32 → Int32 → Int32 → Int32 → Option (Int32)) (m_r : Nat → Int32) (m_st : Nat → Int32) (v1 : Int32) (v2 : Int32) (v3 : Int32) (v5 : Int32) (s0 : Int32) : Option (Int32) :=
  f_X11_withBy_64 k6 m_r m_st v1 v2 v3 v5 s0 0
def f_X11_withBy_6 (m_r : Nat → Int32) (m_st : Nat → Int32) : Nat → Int32 → Int32 → Int32 → Int32 → Int32 → Option (Int32)
  | 0, _, _, _, _, _ => none
  | n + 1, v1, v2, v3, v4, v5 =>
   if (m_r (Int32.toNatClampNeg 3)) ≤ v5 then
    some v4
   else
    if v5 = v1 then
     f_X11_withBy_63 (f_X11_withBy_6 m_r m_st n) m_r m_st v1 v2 v3 v5 v4
    else
     (f_X11_kindOf m_r v1).bind fun z28 =>
     (f_X11_kindOf m_r v5).bind fun z35 =>
     if rf_ib ((8 : Int32) + v5) 26 = true then
     (f_X11_rhymeOf m_r z28 v2 z35 (m_st (Int32.toNatClampNeg ((8 : Int32) + v5))) v3).bind fun z49 =>
     if z49 = 2 then
      f_X11_withBy_64 (f_X11_withBy_6 m_r m_st n) m_r m_st v1 v2 v3 v5 v4 ((1 : Int32) <<< (v5 &&& 31))
     else
      f_X11_withBy_63 (f_X11_withBy_6 m_r m_st n) m_r m_st v1 v2 v3 v5 v4
     else none
def f_X11_withBy (m_r : Nat → Int32) (m_st : Nat → Int32) (v1 : Int32) (v2 : Int32) (v3 : Int32) : Option (Int32) :=
  f_X11_withBy_6 m_r m_st rf_fu v1 v2 v3 0 0
def f_X11_with (m_hasFerry : Int32) (m_r : Nat → Int32) (m_st : Nat → Int32) (m_thrown : Int32) (m_trouble : Int32) (v1 : Int32) (v2 : Int32) : Option (Int32 × Int32 × Int32) :=
  (f_X11_good m_thrown m_trouble).bind fun z1 =>
  (f_X11_isPerson m_hasFerry m_r v1).bind fun z7 =>
  (f_X11_why z7 v2).bind fun z11 =>
  if z11 = 0 then
   if rf_ib ((8 : Int32) + v1) 26 = true then
   (f_X11_earAt m_r v2).bind fun z40 =>
   (f_X11_withBy m_r m_st v1 (m_st (Int32.toNatClampNeg ((8 : Int32) + v1))) z40).bind fun z43 =>
   some (z43, z1.1, z1.2)
   else none
  else
   (f_X11_no z1.2 z11).bind fun z21 =>
   some (z21.1, z1.1, z21.2)
def f_X11_renamed_26 (m_hasFerry : Int32) (m_r : Nat → Int32) (m_st : Nat → Int32) (v1 : Int32) (v2 : Int32) (v3 : Int32) (s1 : Int32) (m_thrown : Int32) (m_trouble : Int32) : Option (Int32 × Int32 × Int32) :=
  (f_X11_why s1 v3).bind fun z27 =>
  if z27 = 0 then
   (f_X11_earAt m_r v3).bind fun z53 =>
   (f_X11_withBy m_r m_st v1 ((1 : Int32) <<< (v2 &&& 31)) z53).bind fun z56 =>
   some (z56, m_thrown, m_trouble)
  else
   (f_X11_no m_trouble z27).bind fun z40 =>
   some (z40.1, m_thrown, z40.2)
def f_X11_renamed_25 (m_hasFerry : Int32) (m_r : Nat → Int32) (m_st : Nat → Int32) (v1 : Int32) (v2 : Int32) (v3 : Int32) (m_thrown : Int32) (m_trouble : Int32) : Option (Int32 × Int32 × Int32) :=
  f_X11_renamed_26 m_hasFerry m_r m_st v1 v2 v3 0 m_thrown m_trouble
def f_X11_renamed (m_hasFerry : Int32) (m_r : Nat → Int32) (m_st : Nat → Int32) (m_thrown : Int32) (m_trouble : Int32) (v1 : Int32) (v2 : Int32) (v3 : Int32) : Option (Int32 × Int32 × Int32) :=
  (f_X11_good m_thrown m_trouble).bind fun z1 =>
  (f_X11_isPerson m_hasFerry m_r v1).bind fun z7 =>
  if z7 = 0 then
   f_X11_renamed_25 m_hasFerry m_r m_st v1 v2 v3 z1.1 z1.2
  else
   (f_X11_isWordThere m_hasFerry m_r v2).bind fun z15 =>
   if z15 = 0 then
    f_X11_renamed_25 m_hasFerry m_r m_st v1 v2 v3 z1.1 z1.2
   else
    f_X11_renamed_26 m_hasFerry m_r m_st v1 v2 v3 1 z1.1 z1.2
def f_X11_ones_4 : Nat → Int32 → Int32 → Int32 → Option (Int32)
  | 0, _, _, _ => none
  | n + 1, v0, v1, v2 =>
   if 10 ≤ v2 then
    some v1
   else
    f_X11_ones_4 n v0 (v1 + ((v0 >>> (v2 &&& 31)) &&& 1)) (v2 + 1)
def f_X11_ones (v0 : Int32) : Option (Int32) :=
  f_X11_ones_4 rf_fu v0 0 0
def f_X11_bestHour_80 (k22 : Int32 → Int32 → Int32 → Int32 → Int32 → Option (Int32 × Int32 × Int32)) (m_hasFerry : Int32) (m_r : Nat → Int32) (m_st : Nat → Int32) (v1 : Int32) (v3 : Int32) (s0 : Int32) (m_thrown : Int32) (m_trouble : Int32) : Option (Int32 × Int32 × Int32) :=
  k22 v1 s0 (v3 + 1) m_thrown m_trouble
def f_X11_bestHour_22 (m_hasFerry : Int32) (m_r : Nat → Int32) (m_st : Nat → Int32) : Nat → Int32 → Int32 → Int32 → Int32 → Int32 → Option (Int32 × Int32 × Int32)
  | 0, _, _, _, _, _ => none
  | n + 1, v1, v2, v3, m_thrown, m_trouble =>
   if 24 ≤ v3 then
    some (v2, m_thrown, m_trouble)
   else
    if rf_ib ((8 : Int32) + v1) 26 = true then
    (f_X11_earAt m_r v3).bind fun z41 =>
    (f_X11_withBy m_r m_st v1 (m_st (Int32.toNatClampNeg ((8 : Int32) + v1))) z41).bind fun z44 =>
    (f_X11_ones z44).bind fun z47 =>
    if rf_ib ((8 : Int32) + v1) 26 = true then
    (f_X11_earAt m_r v2).bind fun z63 =>
    (f_X11_withBy m_r m_st v1 (m_st (Int32.toNatClampNeg ((8 : Int32) + v1))) z63).bind fun z66 =>
    (f_X11_ones z66).bind fun z69 =>
    if z47 ≤ z69 then
     f_X11_bestHour_80 (f_X11_bestHour_22 m_hasFerry m_r m_st n) m_hasFerry m_r m_st v1 v3 v2 m_thrown m_trouble
    else
     f_X11_bestHour_80 (f_X11_bestHour_22 m_hasFerry m_r m_st n) m_hasFerry m_r m_st v1 v3 v3 m_thrown m_trouble
    else none
    else none
def f_X11_bestHour (m_hasFerry : Int32) (m_r : Nat → Int32) (m_st : Nat → Int32) (m_thrown : Int32) (m_trouble : Int32) (v1 : Int32) : Option (Int32 × Int32 × Int32) :=
  (f_X11_good m_thrown m_trouble).bind fun z1 =>
  (f_X11_isPerson m_hasFerry m_r v1).bind fun z6 =>
  if z6 = 0 then
   (f_X11_no z1.2 1).bind fun z14 =>
   some (z14.1, z1.1, z14.2)
  else
   f_X11_bestHour_22 m_hasFerry m_r m_st rf_fu v1 0 1 z1.1 z1.2
def f_X11_meets_21 (m_hasFerry : Int32) (m_r : Nat → Int32) (m_st : Nat → Int32) : Nat → Int32 → Int32 → Int32 → Int32 → Int32 → Option (Int32 × Int32 × Int32)
  | 0, _, _, _, _, _ => none
  | n + 1, v1, v2, v3, m_thrown, m_trouble =>
   if 24 ≤ v3 then
    some ((-2), m_thrown, m_trouble)
   else
    (f_X11_earAt m_r v3).bind fun z32 =>
    (f_X11_rhymeNow m_r m_st v1 v2 z32).bind fun z35 =>
    if z35 = 2 then
     some (v3, m_thrown, m_trouble)
    else
     f_X11_meets_21 m_hasFerry m_r m_st n v1 v2 (v3 + 1) m_thrown m_trouble
def f_X11_meets (m_hasFerry : Int32) (m_r : Nat → Int32) (m_st : Nat → Int32) (m_thrown : Int32) (m_trouble : Int32) (v1 : Int32) (v2 : Int32) : Option (Int32 × Int32 × Int32) :=
  (f_X11_good m_thrown m_trouble).bind fun z1 =>
  (f_X11_areTwo m_hasFerry m_r v1 v2).bind fun z7 =>
  if z7 = 0 then
   (f_X11_no z1.2 1).bind fun z15 =>
   some (z15.1, z1.1, z15.2)
  else
   f_X11_meets_21 m_hasFerry m_r m_st rf_fu v1 v2 0 z1.1 z1.2
def f_X11_often_53 (k24 : Int32 → Int32 → Int32 → Int32 → Int32 → Int32 → Option (Int32 × Int32 × Int32)) (m_hasFerry : Int32) (m_r : Nat → Int32) (m_st : Nat → Int32) (v1 : Int32) (v2 : Int32) (v4 : Int32) (s0 : Int32) (s1 : Int32) (m_thrown : Int32) (m_trouble : Int32) : Option (Int32 × Int32 × Int32) :=
  k24 v1 v2 (s0 + s1) (v4 + 1) m_thrown m_trouble
def f_X11_often_24 (m_hasFerry : Int32) (m_r : Nat → Int32) (m_st : Nat → Int32) : Nat → Int32 → Int32 → Int32 → Int32 → Int32 → Int32 → Option (Int32 × Int32 × Int32)
  | 0, _, _, _, _, _, _ => none
  | n + 1, v1, v2, v3, v4, m_thrown, m_trouble =>
   if 24 ≤ v4 then
    some (v3, m_thrown, m_trouble)
   else
    (f_X11_earAt m_r v4).bind fun z38 =>
    (f_X11_rhymeNow m_r m_st v1 v2 z38).bind fun z41 =>
    if z41 = 2 then
     f_X11_often_53 (f_X11_often_24 m_hasFerry m_r m_st n) m_hasFerry m_r m_st v1 v2 v4 v3 1 m_thrown m_trouble
    else
     f_X11_often_53 (f_X11_often_24 m_hasFerry m_r m_st n) m_hasFerry m_r m_st v1 v2 v4 v3 0 m_thrown m_trouble
def f_X11_often (m_hasFerry : Int32) (m_r : Nat → Int32) (m_st : Nat → Int32) (m_thrown : Int32) (m_trouble : Int32) (v1 : Int32) (v2 : Int32) : Option (Int32 × Int32 × Int32) :=
  (f_X11_good m_thrown m_trouble).bind fun z1 =>
  (f_X11_areTwo m_hasFerry m_r v1 v2).bind fun z7 =>
  if z7 = 0 then
   (f_X11_no z1.2 1).bind fun z15 =>
   some (z15.1, z1.1, z15.2)
  else
   f_X11_often_24 m_hasFerry m_r m_st rf_fu v1 v2 0 0 z1.1 z1.2
def f_X11_classBy_62 (k7 : Int32 → Int32 → Int32 → Option (Int32)) (k19 : Int32 → Int32 → Int32 → Int32 → Option (Int32)) (m_r : Nat → Int32) (m_st : Nat → Int32) (v2 : Int32) (v4 : Int32) (v5 : Int32) (s0 : Int32) (s1 : Int32) : Option (Int32) :=
  k19 v2 (s0 ||| s1) v4 (v5 + 1)
def f_X11_classBy_19 (k7 : Int32 → Int32 → Int32 → Option (Int32)) (m_r : Nat → Int32) (m_st : Nat → Int32) : Nat → Int32 → Int32 → Int32 → Int32 → Option (Int32)
  | 0, _, _, _, _ => none
  | n + 1, v2, v3, v4, v5 =>
   if (m_r (Int32.toNatClampNeg 3)) ≤ v5 then
    k7 v2 v3 v4
   else
    (f_X11_hasBit v4 v5).bind fun z35 =>
    if z35 = 0 then
     f_X11_classBy_62 k7 (f_X11_classBy_19 k7 m_r m_st n) m_r m_st v2 v4 v5 v3 0
    else
     if rf_ib ((8 : Int32) + v5) 26 = true then
     (f_X11_withBy m_r m_st v5 (m_st (Int32.toNatClampNeg ((8 : Int32) + v5))) v2).bind fun z55 =>
     f_X11_classBy_62 k7 (f_X11_classBy_19 k7 m_r m_st n) m_r m_st v2 v4 v5 v3 z55
     else none
def f_X11_classBy_7 (m_r : Nat → Int32) (m_st : Nat → Int32) : Nat → Int32 → Int32 → Int32 → Option (Int32)
  | 0, _, _, _ => none
  | n + 1, v2, v3, v4 =>
   if v4 = v3 then
    some v3
   else
    f_X11_classBy_19 (f_X11_classBy_7 m_r m_st n) m_r m_st rf_fu v2 v3 v3 0
def f_X11_classBy (m_r : Nat → Int32) (m_st : Nat → Int32) (v1 : Int32) (v2 : Int32) : Option (Int32) :=
  f_X11_classBy_7 m_r m_st rf_fu v2 ((1 : Int32) <<< (v1 &&& 31)) 0
def f_X11_classOf (m_hasFerry : Int32) (m_r : Nat → Int32) (m_st : Nat → Int32) (m_thrown : Int32) (m_trouble : Int32) (v1 : Int32) (v2 : Int32) : Option (Int32 × Int32 × Int32) :=
  (f_X11_good m_thrown m_trouble).bind fun z1 =>
  (f_X11_isPerson m_hasFerry m_r v1).bind fun z7 =>
  (f_X11_why z7 v2).bind fun z11 =>
  if z11 = 0 then
   (f_X11_earAt m_r v2).bind fun z31 =>
   (f_X11_classBy m_r m_st v1 z31).bind fun z34 =>
   some (z34, z1.1, z1.2)
  else
   (f_X11_no z1.2 z11).bind fun z21 =>
   some (z21.1, z1.1, z21.2)
def f_X11_classes_67 (k29 : Int32 → Int32 → Int32 → Int32 → Int32 → Option (Int32 × Int32 × Int32)) (m_hasFerry : Int32) (m_r : Nat → Int32) (m_st : Nat → Int32) (v1 : Int32) (v4 : Int32) (s0 : Int32) (s1 : Int32) (m_thrown : Int32) (m_trouble : Int32) : Option (Int32 × Int32 × Int32) :=
  k29 v1 (s0 + s1) (v4 + 1) m_thrown m_trouble
def f_X11_classes_29 (m_hasFerry : Int32) (m_r : Nat → Int32) (m_st : Nat → Int32) : Nat → Int32 → Int32 → Int32 → Int32 → Int32 → Option (Int32 × Int32 × Int32)
  | 0, _, _, _, _, _ => none
  | n + 1, v1, v3, v4, m_thrown, m_trouble =>
   if (m_r (Int32.toNatClampNeg 3)) ≤ v4 then
    some (v3, m_thrown, m_trouble)
   else
    (f_X11_earAt m_r v1).bind fun z46 =>
    (f_X11_classBy m_r m_st v4 z46).bind fun z49 =>
    if (z49 &&& (((1 : Int32) <<< (v4 &&& 31)) - 1)) = 0 then
     f_X11_classes_67 (f_X11_classes_29 m_hasFerry m_r m_st n) m_hasFerry m_r m_st v1 v4 v3 1 m_thrown m_trouble
    else
     f_X11_classes_67 (f_X11_classes_29 m_hasFerry m_r m_st n) m_hasFerry m_r m_st v1 v4 v3 0 m_thrown m_trouble
def f_X11_classes (m_hasFerry : Int32) (m_r : Nat → Int32) (m_st : Nat → Int32) (m_thrown : Int32) (m_trouble : Int32) (v1 : Int32) : Option (Int32 × Int32 × Int32) :=
  (f_X11_good m_thrown m_trouble).bind fun z1 =>
  (f_X11_why m_hasFerry v1).bind fun z10 =>
  if z10 = 0 then
   f_X11_classes_29 m_hasFerry m_r m_st rf_fu v1 0 0 z1.1 z1.2
  else
   (f_X11_no z1.2 z10).bind fun z20 =>
   some (z20.1, z1.1, z20.2)
def f_X11_bestName_86 (k31 : Int32 → Int32 → Int32 → Int32 → Int32 → Int32 → Option (Int32 × Int32 × Int32)) (m_hasFerry : Int32) (m_r : Nat → Int32) (m_st : Nat → Int32) (v1 : Int32) (v2 : Int32) (v5 : Int32) (s0 : Int32) (m_thrown : Int32) (m_trouble : Int32) : Option (Int32 × Int32 × Int32) :=
  k31 v1 v2 s0 (v5 + 1) m_thrown m_trouble
def f_X11_bestName_31 (m_hasFerry : Int32) (m_r : Nat → Int32) (m_st : Nat → Int32) : Nat → Int32 → Int32 → Int32 → Int32 → Int32 → Int32 → Option (Int32 × Int32 × Int32)
  | 0, _, _, _, _, _, _ => none
  | n + 1, v1, v2, v4, v5, m_thrown, m_trouble =>
   if (m_r (Int32.toNatClampNeg 2)) ≤ v5 then
    some (v4, m_thrown, m_trouble)
   else
    (f_X11_earAt m_r v2).bind fun z50 =>
    (f_X11_withBy m_r m_st v1 ((1 : Int32) <<< (v5 &&& 31)) z50).bind fun z53 =>
    (f_X11_ones z53).bind fun z56 =>
    (f_X11_earAt m_r v2).bind fun z67 =>
    (f_X11_withBy m_r m_st v1 ((1 : Int32) <<< (v4 &&& 31)) z67).bind fun z70 =>
    (f_X11_ones z70).bind fun z73 =>
    if z56 ≤ z73 then
     f_X11_bestName_86 (f_X11_bestName_31 m_hasFerry m_r m_st n) m_hasFerry m_r m_st v1 v2 v5 v4 m_thrown m_trouble
    else
     f_X11_bestName_86 (f_X11_bestName_31 m_hasFerry m_r m_st n) m_hasFerry m_r m_st v1 v2 v5 v5 m_thrown m_trouble
def f_X11_bestName (m_hasFerry : Int32) (m_r : Nat → Int32) (m_st : Nat → Int32) (m_thrown : Int32) (m_trouble : Int32) (v1 : Int32) (v2 : Int32) : Option (Int32 × Int32 × Int32) :=
  (f_X11_good m_thrown m_trouble).bind fun z1 =>
  (f_X11_isPerson m_hasFerry m_r v1).bind fun z7 =>
  (f_X11_why z7 v2).bind fun z11 =>
  if z11 = 0 then
   f_X11_bestName_31 m_hasFerry m_r m_st rf_fu v1 v2 0 1 z1.1 z1.2
  else
   (f_X11_no z1.2 z11).bind fun z21 =>
   some (z21.1, z1.1, z21.2)
def f_X11_onBank_32 (k4 : Int32 → Int32 → Int32 → Option (Int32)) (m_r : Nat → Int32) (m_st : Nat → Int32) (v1 : Int32) (v3 : Int32) (s0 : Int32) (s1 : Int32) : Option (Int32) :=
  k4 v1 (s0 ||| s1) (v3 + 1)
def f_X11_onBank_4 (m_r : Nat → Int32) (m_st : Nat → Int32) : Nat → Int32 → Int32 → Int32 → Option (Int32)
  | 0, _, _, _ => none
  | n + 1, v1, v2, v3 =>
   if (m_r (Int32.toNatClampNeg 3)) ≤ v3 then
    some v2
   else
    if rf_ib v3 26 = true then
    if (m_st (Int32.toNatClampNeg v3)) = v1 then
     f_X11_onBank_32 (f_X11_onBank_4 m_r m_st n) m_r m_st v1 v3 v2 ((1 : Int32) <<< (v3 &&& 31))
    else
     f_X11_onBank_32 (f_X11_onBank_4 m_r m_st n) m_r m_st v1 v3 v2 0
    else none
def f_X11_onBank (m_r : Nat → Int32) (m_st : Nat → Int32) (v1 : Int32) : Option (Int32) :=
  f_X11_onBank_4 m_r m_st rf_fu v1 0 0
def f_X11_priceOf (m_r : Nat → Int32) (v1 : Int32) : Option (Int32) :=
  if rf_ib ((9 : Int32) + ((8 : Int32) * v1)) 333 = true then
  some (m_r (Int32.toNatClampNeg ((9 : Int32) + ((8 : Int32) * v1))))
  else none
def f_X11_cheapest_158 (k68 : Int32 → Int32 → Int32 → Int32 → Int32 → Int32 → Int32 → Int32 → Option (Int32 × Int32 × Int32)) (m_hasFerry : Int32) (m_r : Nat → Int32) (m_st : Nat → Int32) (v1 : Int32) (v2 : Int32) (v4 : Int32) (v5 : Int32) (v6 : Int32) (v7 : Int32) (m_thrown : Int32) (m_trouble : Int32) : Option (Int32 × Int32 × Int32) :=
  k68 v1 v2 v4 v5 v6 (v7 + 1) m_thrown m_trouble
def f_X11_cheapest_154 (k68 : Int32 → Int32 → Int32 → Int32 → Int32 → Int32 → Int32 → Int32 → Option (Int32 × Int32 × Int32)) (m_hasFerry : Int32) (m_r : Nat → Int32) (m_st : Nat → Int32) (v1 : Int32) (v2 : Int32) (v4 : Int32) (v5 : Int32) (v7 : Int32) (m_thrown : Int32) (m_trouble : Int32) : Option (Int32 × Int32 × Int32) :=
  f_X11_cheapest_158 k68 m_hasFerry m_r m_st v1 v2 v4 v5 v7 v7 m_thrown m_trouble
def f_X11_cheapest_68 (m_hasFerry : Int32) (m_r : Nat → Int32) (m_st : Nat → Int32) : Nat → Int32 → Int32 → Int32 → Int32 → Int32 → Int32 → Int32 → Int32 → Option (Int32 × Int32 × Int32)
  | 0, _, _, _, _, _, _, _, _ => none
  | n + 1, v1, v2, v4, v5, v6, v7, m_thrown, m_trouble =>
   if (m_r (Int32.toNatClampNeg 2)) ≤ v7 then
    some (v6, m_thrown, m_trouble)
   else
    if rf_ib ((8 : Int32) + v1) 26 = true then
    (f_X11_hasBit (m_st (Int32.toNatClampNeg ((8 : Int32) + v1))) v7).bind fun z90 =>
    if z90 = 0 then
     if rf_ib ((8 : Int32) + v1) 26 = true then
     (f_X11_earAt m_r v2).bind fun z114 =>
     (f_X11_withBy m_r m_st v1 ((m_st (Int32.toNatClampNeg ((8 : Int32) + v1))) ||| ((1 : Int32) <<< (v7 &&& 31))) z114).bind fun z117 =>
     if ((z117 &&& v4) &&& (v5 ^^^ (-1))) = 0 then
      f_X11_cheapest_158 (f_X11_cheapest_68 m_hasFerry m_r m_st n) m_hasFerry m_r m_st v1 v2 v4 v5 v6 v7 m_thrown m_trouble
     else
      if v6 < 0 then
       f_X11_cheapest_154 (f_X11_cheapest_68 m_hasFerry m_r m_st n) m_hasFerry m_r m_st v1 v2 v4 v5 v7 m_thrown m_trouble
      else
       (f_X11_priceOf m_r v7).bind fun z142 =>
       (f_X11_priceOf m_r v6).bind fun z148 =>
       if z148 ≤ z142 then
        f_X11_cheapest_158 (f_X11_cheapest_68 m_hasFerry m_r m_st n) m_hasFerry m_r m_st v1 v2 v4 v5 v6 v7 m_thrown m_trouble
       else
        f_X11_cheapest_154 (f_X11_cheapest_68 m_hasFerry m_r m_st n) m_hasFerry m_r m_st v1 v2 v4 v5 v7 m_thrown m_trouble
     else none
    else
     f_X11_cheapest_158 (f_X11_cheapest_68 m_hasFerry m_r m_st n) m_hasFerry m_r m_st v1 v2 v4 v5 v6 v7 m_thrown m_trouble
    else none
def f_X11_cheapest (m_hasFerry : Int32) (m_r : Nat → Int32) (m_st : Nat → Int32) (m_thrown : Int32) (m_trouble : Int32) (v1 : Int32) (v2 : Int32) : Option (Int32 × Int32 × Int32) :=
  (f_X11_good m_thrown m_trouble).bind fun z1 =>
  (f_X11_isPerson m_hasFerry m_r v1).bind fun z7 =>
  (f_X11_why z7 v2).bind fun z11 =>
  if z11 = 0 then
   if rf_ib v1 26 = true then
   (f_X11_onBank m_r m_st (m_st (Int32.toNatClampNeg v1))).bind fun z32 =>
   if rf_ib ((8 : Int32) + v1) 26 = true then
   (f_X11_earAt m_r v2).bind fun z50 =>
   (f_X11_withBy m_r m_st v1 (m_st (Int32.toNatClampNeg ((8 : Int32) + v1))) z50).bind fun z53 =>
   f_X11_cheapest_68 m_hasFerry m_r m_st rf_fu v1 v2 z32 (z53 &&& z32) (-2) 0 z1.1 z1.2
   else none
   else none
  else
   (f_X11_no z1.2 z11).bind fun z21 =>
   some (z21.1, z1.1, z21.2)
def f_X11_bankWhy_22 (m_hasFerry : Int32) (v2 : Int32) (s1 : Int32) : Option (Int32) :=
  (f_X11_why s1 v2).bind fun z23 =>
  some z23
def f_X11_bankWhy_21 (m_hasFerry : Int32) (v2 : Int32) : Option (Int32) :=
  f_X11_bankWhy_22 m_hasFerry v2 0
def f_X11_bankWhy (m_hasFerry : Int32) (v1 : Int32) (v2 : Int32) : Option (Int32) :=
  if m_hasFerry = 0 then
   f_X11_bankWhy_21 m_hasFerry v2
  else
   (f_X11_in v1 0 1).bind fun z11 =>
   if z11 = 0 then
    f_X11_bankWhy_21 m_hasFerry v2
   else
    f_X11_bankWhy_22 m_hasFerry v2 1
def f_X11_layCan_42 (k2 : Int32 → Int32 → Int32 → (Nat → Int32) → Option ((Nat → Int32))) (m_r : Nat → Int32) (m_st : Nat → Int32) (v1 : Int32) (v2 : Int32) (v3 : Int32) (s1 : Int32) (s2 : Int32) (m_can : Nat → Int32) : Option ((Nat → Int32)) :=
  if rf_ib s1 8 = true then
  k2 v1 v2 (v3 + 1) (upd m_can (Int32.toNatClampNeg s1) s2)
  else none
def f_X11_layCan_2 (m_r : Nat → Int32) (m_st : Nat → Int32) : Nat → Int32 → Int32 → Int32 → (Nat → Int32) → Option ((Nat → Int32))
  | 0, _, _, _, _ => none
  | n + 1, v1, v2, v3, m_can =>
   if 8 ≤ v3 then
    some m_can
   else
    (f_X11_hasBit v1 v3).bind fun z15 =>
    if z15 = 0 then
     f_X11_layCan_42 (f_X11_layCan_2 m_r m_st n) m_r m_st v1 v2 v3 v3 0 m_can
    else
     if rf_ib ((8 : Int32) + v3) 26 = true then
     (f_X11_withBy m_r m_st v3 (m_st (Int32.toNatClampNeg ((8 : Int32) + v3))) v2).bind fun z33 =>
     f_X11_layCan_42 (f_X11_layCan_2 m_r m_st n) m_r m_st v1 v2 v3 v3 (z33 &&& v1) m_can
     else none
def f_X11_layCan (m_r : Nat → Int32) (m_st : Nat → Int32) (m_can : Nat → Int32) (v1 : Int32) (v2 : Int32) : Option ((Nat → Int32)) :=
  f_X11_layCan_2 m_r m_st rf_fu v1 v2 0 m_can
def f_X11_tryPairs_148 (k63 : Int32 → Int32 → Int32 → Int32 → Int32 → (Nat → Int32) → (Nat → Int32) → Option (Int32 × (Nat → Int32) × (Nat → Int32))) (slf : Int32 → (Nat → Int32) → (Nat → Int32) → Int32 → Int32 → Int32 → Option (Int32 × (Nat → Int32) × (Nat → Int32))) (m_r : Nat → Int32) (m_can : Nat → Int32) (v1 : Int32) (v2 : Int32) (v3 : Int32) (v4 : Int32) (m_bestMany : Int32) (m_now : Nat → Int32) (m_best : Nat → Int32) : Option (Int32 × (Nat → Int32) × (Nat → Int32)) :=
  k63 v1 v2 v3 (v4 + 1) m_bestMany m_now m_best
def f_X11_tryPairs_63 (slf : Int32 → (Nat → Int32) → (Nat → Int32) → Int32 → Int32 → Int32 → Option (Int32 × (Nat → Int32) × (Nat → Int32))) (m_r : Nat → Int32) (m_can : Nat → Int32) : Nat → Int32 → Int32 → Int32 → Int32 → Int32 → (Nat → Int32) → (Nat → Int32) → Option (Int32 × (Nat → Int32) × (Nat → Int32))
  | 0, _, _, _, _, _, _, _ => none
  | n + 1, v1, v2, v3, v4, m_bestMany, m_now, m_best =>
   if (m_r (Int32.toNatClampNeg 3)) ≤ v4 then
    (slf m_bestMany m_now m_best (v1 + 1) v2 v3).bind fun z160 =>
    some (z160.1, z160.2.1, z160.2.2)
   else
    if rf_ib v1 8 = true then
    (f_X11_hasBit (v2 &&& (m_can (Int32.toNatClampNeg v1))) v4).bind fun z84 =>
    if z84 = 0 then
     f_X11_tryPairs_148 (f_X11_tryPairs_63 slf m_r m_can n) slf m_r m_can v1 v2 v3 v4 m_bestMany m_now m_best
    else
     if rf_ib v1 8 = true then
     if rf_ib v4 8 = true then
     (slf m_bestMany (upd (upd m_now (Int32.toNatClampNeg v1) v4) (Int32.toNatClampNeg v4) v1) m_best (v1 + 1) (v2 &&& ((((1 : Int32) <<< (v1 &&& 31)) ||| ((1 : Int32) <<< (v4 &&& 31))) ^^^ (-1))) (v3 + 1)).bind fun z128 =>
     if rf_ib v1 8 = true then
     if rf_ib v4 8 = true then
     f_X11_tryPairs_148 (f_X11_tryPairs_63 slf m_r m_can n) slf m_r m_can v1 v2 v3 v4 z128.1 (upd (upd z128.2.1 (Int32.toNatClampNeg v1) (-2)) (Int32.toNatClampNeg v4) (-2)) z128.2.2
     else none
     else none
     else none
     else none
    else none
def f_X11_tryPairs (m_r : Nat → Int32) (m_can : Nat → Int32) : Nat → Int32 → (Nat → Int32) → (Nat → Int32) → Int32 → Int32 → Int32 → Option (Int32 × (Nat → Int32) × (Nat → Int32))
  | 0, _, _, _, _, _, _ => none
  | d + 1, m_bestMany, m_now, m_best, v1, v2, v3 =>
   if v1 = (m_r (Int32.toNatClampNeg 3)) then
    if m_bestMany < v3 then
     if rf_cok 0 0 8 8 8 = true then
     some (v3, m_now, va_cpy m_now m_best (Int32.toNatClampNeg 0) (Int32.toNatClampNeg 0) (Int32.toNatClampNeg 8))
     else none
    else
     some (m_bestMany, m_now, m_best)
   else
    (f_X11_hasBit v2 v1).bind fun z42 =>
    if z42 = 0 then
     ((f_X11_tryPairs m_r m_can d) m_bestMany m_now m_best (v1 + 1) v2 v3).bind fun z54 =>
     some (z54.1, z54.2.1, z54.2.2)
    else
     f_X11_tryPairs_63 (f_X11_tryPairs m_r m_can d) m_r m_can rf_fu v1 v2 v3 (v1 + 1) m_bestMany m_now m_best
def f_X11_seekPairs_8 (m_r : Nat → Int32) (m_st : Nat → Int32) : Nat → Int32 → Int32 → Int32 → (Nat → Int32) → (Nat → Int32) → (Nat → Int32) → Option (Int32 × Int32 × (Nat → Int32) × (Nat → Int32) × (Nat → Int32))
  | 0, _, _, _, _, _, _ => none
  | n + 1, v1, v3, m_bestMany, m_can, m_now, m_best =>
   if 8 ≤ v3 then
    (f_X11_tryPairs m_r m_can 12 (-1) m_now m_best 0 v1 0).bind fun z37 =>
    some (z37.1, z37.1, m_can, z37.2.1, z37.2.2)
   else
    if rf_ib v3 8 = true then
    f_X11_seekPairs_8 m_r m_st n v1 (v3 + 1) m_bestMany m_can (upd m_now (Int32.toNatClampNeg v3) (-2)) m_best
    else none
def f_X11_seekPairs (m_r : Nat → Int32) (m_st : Nat → Int32) (m_bestMany : Int32) (m_can : Nat → Int32) (m_now : Nat → Int32) (m_best : Nat → Int32) (v1 : Int32) (v2 : Int32) : Option (Int32 × Int32 × (Nat → Int32) × (Nat → Int32) × (Nat → Int32)) :=
  (f_X11_layCan m_r m_st m_can v1 v2).bind fun z3 =>
  f_X11_seekPairs_8 m_r m_st rf_fu v1 0 m_bestMany z3 m_now m_best
def f_X11_pairs (m_hasFerry : Int32) (m_r : Nat → Int32) (m_st : Nat → Int32) (m_thrown : Int32) (m_trouble : Int32) (m_bestMany : Int32) (m_can : Nat → Int32) (m_now : Nat → Int32) (m_best : Nat → Int32) (v1 : Int32) (v2 : Int32) : Option (Int32 × Int32 × Int32 × Int32 × (Nat → Int32) × (Nat → Int32) × (Nat → Int32)) :=
  (f_X11_good m_thrown m_trouble).bind fun z1 =>
  (f_X11_bankWhy m_hasFerry v1 v2).bind fun z7 =>
  if z7 = 0 then
   (f_X11_onBank m_r m_st v1).bind fun z26 =>
   (f_X11_earAt m_r v2).bind fun z31 =>
   (f_X11_seekPairs m_r m_st m_bestMany m_can m_now m_best z26 z31).bind fun z34 =>
   some (z34.1, z1.1, z1.2, z34.2.1, z34.2.2.1, z34.2.2.2.1, z34.2.2.2.2)
  else
   (f_X11_no z1.2 z7).bind fun z17 =>
   some (z17.1, z1.1, z17.2, m_bestMany, m_can, m_now, m_best)
def f_X11_partner (m_hasFerry : Int32) (m_r : Nat → Int32) (m_st : Nat → Int32) (m_thrown : Int32) (m_trouble : Int32) (m_bestMany : Int32) (m_can : Nat → Int32) (m_now : Nat → Int32) (m_best : Nat → Int32) (v1 : Int32) (v2 : Int32) (v3 : Int32) : Option (Int32 × Int32 × Int32 × Int32 × (Nat → Int32) × (Nat → Int32) × (Nat → Int32)) :=
  (f_X11_good m_thrown m_trouble).bind fun z1 =>
  (f_X11_isPerson m_hasFerry m_r v1).bind fun z6 =>
  if z6 = 0 then
   (f_X11_no z1.2 1).bind fun z14 =>
   some (z14.1, z1.1, z14.2, m_bestMany, m_can, m_now, m_best)
  else
   (f_X11_bankWhy m_hasFerry v2 v3).bind fun z21 =>
   if z21 = 0 then
    (f_X11_onBank m_r m_st v2).bind fun z41 =>
    (f_X11_earAt m_r v3).bind fun z46 =>
    (f_X11_seekPairs m_r m_st m_bestMany m_can m_now m_best z41 z46).bind fun z49 =>
    if rf_ib v1 8 = true then
    some (z49.2.2.2.2 (Int32.toNatClampNeg v1), z1.1, z1.2, z49.2.1, z49.2.2.1, z49.2.2.2.1, z49.2.2.2.2)
    else none
   else
    (f_X11_no z1.2 z21).bind fun z34 =>
    some (z34.1, z1.1, z34.2, m_bestMany, m_can, m_now, m_best)
def f_X11_aloneBy_56 (k15 : Int32 → Int32 → Int32 → (Nat → Int32) → Option (Int32 × (Nat → Int32))) (m_r : Nat → Int32) (m_st : Nat → Int32) (v1 : Int32) (v4 : Int32) (s0 : Int32) (s1 : Int32) (m_can : Nat → Int32) : Option (Int32 × (Nat → Int32)) :=
  k15 v1 (s0 ||| s1) (v4 + 1) m_can
def f_X11_aloneBy_55 (k15 : Int32 → Int32 → Int32 → (Nat → Int32) → Option (Int32 × (Nat → Int32))) (m_r : Nat → Int32) (m_st : Nat → Int32) (v1 : Int32) (v4 : Int32) (s0 : Int32) (m_can : Nat → Int32) : Option (Int32 × (Nat → Int32)) :=
  f_X11_aloneBy_56 k15 m_r m_st v1 v4 s0 0 m_can
def f_X11_aloneBy_15 (m_r : Nat → Int32) (m_st : Nat → Int32) : Nat → Int32 → Int32 → Int32 → (Nat → Int32) → Option (Int32 × (Nat → Int32))
  | 0, _, _, _, _ => none
  | n + 1, v1, v3, v4, m_can =>
   if (m_r (Int32.toNatClampNeg 3)) ≤ v4 then
    some (v3, m_can)
   else
    if rf_ib v4 26 = true then
    if (m_st (Int32.toNatClampNeg v4)) = v1 then
     if rf_ib v4 8 = true then
     if (m_can (Int32.toNatClampNeg v4)) = 0 then
      f_X11_aloneBy_56 (f_X11_aloneBy_15 m_r m_st n) m_r m_st v1 v4 v3 ((1 : Int32) <<< (v4 &&& 31)) m_can
     else
      f_X11_aloneBy_55 (f_X11_aloneBy_15 m_r m_st n) m_r m_st v1 v4 v3 m_can
     else none
    else
     f_X11_aloneBy_55 (f_X11_aloneBy_15 m_r m_st n) m_r m_st v1 v4 v3 m_can
    else none
def f_X11_aloneBy (m_r : Nat → Int32) (m_st : Nat → Int32) (m_can : Nat → Int32) (v1 : Int32) (v2 : Int32) : Option (Int32 × (Nat → Int32)) :=
  (f_X11_onBank m_r m_st v1).bind fun z3 =>
  (f_X11_layCan m_r m_st m_can z3 v2).bind fun z7 =>
  f_X11_aloneBy_15 m_r m_st rf_fu v1 0 0 z7
def f_X11_alone (m_hasFerry : Int32) (m_r : Nat → Int32) (m_st : Nat → Int32) (m_thrown : Int32) (m_trouble : Int32) (m_can : Nat → Int32) (v1 : Int32) (v2 : Int32) : Option (Int32 × Int32 × Int32 × (Nat → Int32)) :=
  (f_X11_good m_thrown m_trouble).bind fun z1 =>
  (f_X11_bankWhy m_hasFerry v1 v2).bind fun z7 =>
  if z7 = 0 then
   (f_X11_earAt m_r v2).bind fun z27 =>
   (f_X11_aloneBy m_r m_st m_can v1 z27).bind fun z30 =>
   some (z30.1, z1.1, z1.2, z30.2)
  else
   (f_X11_no z1.2 z7).bind fun z17 =>
   some (z17.1, z1.1, z17.2, m_can)
def f_X11_isKept (m_r : Nat → Int32) (v1 : Int32) (v2 : Int32) : Option (Int32) :=
  if rf_ib (((89 : Int32) + ((4 : Int32) * v1)) + 3) 333 = true then
  if (m_r (Int32.toNatClampNeg (((89 : Int32) + ((4 : Int32) * v1)) + 3))) < v2 then
   some 0
  else
   some 1
  else none
def f_X11_tryErrands_167 (slf : Int32 → (Nat → Int32) → Int32 → Int32 → Int32 → Option (Int32 × (Nat → Int32))) (m_r : Nat → Int32) (m_can : Nat → Int32) (v1 : Int32) (v2 : Int32) (v3 : Int32) (m_mostKept : Int32) (m_seats : Nat → Int32) : Option (Int32 × (Nat → Int32)) :=
  (slf m_mostKept m_seats (v1 + 1) (v2 &&& (((1 : Int32) <<< (v1 &&& 31)) ^^^ (-1))) v3).bind fun z179 =>
  some (z179.1, z179.2)
def f_X11_tryErrands_161 (k36 : Int32 → Int32 → Int32 → Int32 → Int32 → (Nat → Int32) → Option (Int32 × (Nat → Int32))) (slf : Int32 → (Nat → Int32) → Int32 → Int32 → Int32 → Option (Int32 × (Nat → Int32))) (m_r : Nat → Int32) (m_can : Nat → Int32) (v1 : Int32) (v2 : Int32) (v3 : Int32) (v4 : Int32) (m_mostKept : Int32) (m_seats : Nat → Int32) : Option (Int32 × (Nat → Int32)) :=
  k36 v1 v2 v3 (v4 + 1) m_mostKept m_seats
def f_X11_tryErrands_155 (k36 : Int32 → Int32 → Int32 → Int32 → Int32 → (Nat → Int32) → Option (Int32 × (Nat → Int32))) (k77 : Int32 → Int32 → Int32 → Int32 → Int32 → Int32 → (Nat → Int32) → Option (Int32 × (Nat → Int32))) (slf : Int32 → (Nat → Int32) → Int32 → Int32 → Int32 → Option (Int32 × (Nat → Int32))) (m_r : Nat → Int32) (m_can : Nat → Int32) (v1 : Int32) (v2 : Int32) (v3 : Int32) (v4 : Int32) (v5 : Int32) (m_mostKept : Int32) (m_seats : Nat → Int32) : Option (Int32 × (Nat → Int32)) :=
  k77 v1 v2 v3 v4 (v5 + 1) m_mostKept m_seats
def f_X11_tryErrands_77 (k36 : Int32 → Int32 → Int32 → Int32 → Int32 → (Nat → Int32) → Option (Int32 × (Nat → Int32))) (slf : Int32 → (Nat → Int32) → Int32 → Int32 → Int32 → Option (Int32 × (Nat → Int32))) (m_r : Nat → Int32) (m_can : Nat → Int32) : Nat → Int32 → Int32 → Int32 → Int32 → Int32 → Int32 → (Nat → Int32) → Option (Int32 × (Nat → Int32))
  | 0, _, _, _, _, _, _, _ => none
  | n + 1, v1, v2, v3, v4, v5, m_mostKept, m_seats =>
   if 4 < v5 then
    f_X11_tryErrands_161 k36 slf m_r m_can v1 v2 v3 v4 m_mostKept m_seats
   else
    if rf_ib v5 5 = true then
    if (m_seats (Int32.toNatClampNeg v5)) = 0 then
     f_X11_tryErrands_155 k36 (f_X11_tryErrands_77 k36 slf m_r m_can n) slf m_r m_can v1 v2 v3 v4 v5 m_mostKept m_seats
    else
     if rf_ib v5 5 = true then
     if rf_ib v5 5 = true then
     (f_X11_isKept m_r v1 v5).bind fun z128 =>
     (f_X11_isKept m_r v4 v5).bind fun z137 =>
     (slf m_mostKept (upd m_seats (Int32.toNatClampNeg v5) ((m_seats (Int32.toNatClampNeg v5)) - 1)) (v1 + 1) (v2 &&& ((((1 : Int32) <<< (v1 &&& 31)) ||| ((1 : Int32) <<< (v4 &&& 31))) ^^^ (-1))) ((v3 + z128) + z137)).bind fun z141 =>
     if rf_ib v5 5 = true then
     if rf_ib v5 5 = true then
     f_X11_tryErrands_155 k36 (f_X11_tryErrands_77 k36 slf m_r m_can n) slf m_r m_can v1 v2 v3 v4 v5 z141.1 (upd z141.2 (Int32.toNatClampNeg v5) ((z141.2 (Int32.toNatClampNeg v5)) + 1))
     else none
     else none
     else none
     else none
    else none
def f_X11_tryErrands_36 (slf : Int32 → (Nat → Int32) → Int32 → Int32 → Int32 → Option (Int32 × (Nat → Int32))) (m_r : Nat → Int32) (m_can : Nat → Int32) : Nat → Int32 → Int32 → Int32 → Int32 → Int32 → (Nat → Int32) → Option (Int32 × (Nat → Int32))
  | 0, _, _, _, _, _, _ => none
  | n + 1, v1, v2, v3, v4, m_mostKept, m_seats =>
   if (m_r (Int32.toNatClampNeg 3)) ≤ v4 then
    f_X11_tryErrands_167 slf m_r m_can v1 v2 v3 m_mostKept m_seats
   else
    (f_X11_hasBit v2 v1).bind fun z49 =>
    if z49 = 0 then
     f_X11_tryErrands_167 slf m_r m_can v1 v2 v3 m_mostKept m_seats
    else
     if rf_ib v1 8 = true then
     (f_X11_hasBit (v2 &&& (m_can (Int32.toNatClampNeg v1))) v4).bind fun z65 =>
     if z65 = 0 then
      f_X11_tryErrands_161 (f_X11_tryErrands_36 slf m_r m_can n) slf m_r m_can v1 v2 v3 v4 m_mostKept m_seats
     else
      f_X11_tryErrands_77 (f_X11_tryErrands_36 slf m_r m_can n) slf m_r m_can rf_fu v1 v2 v3 v4 1 m_mostKept m_seats
     else none
def f_X11_tryErrands_27 (slf : Int32 → (Nat → Int32) → Int32 → Int32 → Int32 → Option (Int32 × (Nat → Int32))) (m_r : Nat → Int32) (m_can : Nat → Int32) (s1 : Int32) (m_mostKept : Int32) (m_seats : Nat → Int32) : Option (Int32 × (Nat → Int32)) :=
  some (s1, m_seats)
def f_X11_tryErrands (m_r : Nat → Int32) (m_can : Nat → Int32) : Nat → Int32 → (Nat → Int32) → Int32 → Int32 → Int32 → Option (Int32 × (Nat → Int32))
  | 0, _, _, _, _, _ => none
  | d + 1, m_mostKept, m_seats, v1, v2, v3 =>
   if v1 = (m_r (Int32.toNatClampNeg 3)) then
    if v3 ≤ m_mostKept then
     f_X11_tryErrands_27 (f_X11_tryErrands m_r m_can d) m_r m_can m_mostKept m_mostKept m_seats
    else
     f_X11_tryErrands_27 (f_X11_tryErrands m_r m_can d) m_r m_can v3 m_mostKept m_seats
   else
    f_X11_tryErrands_36 (f_X11_tryErrands m_r m_can d) m_r m_can rf_fu v1 v2 v3 (v1 + 1) m_mostKept m_seats
def f_X11_kept_43 (m_hasFerry : Int32) (m_r : Nat → Int32) (m_st : Nat → Int32) : Nat → Int32 → Int32 → Int32 → Int32 → Int32 → (Nat → Int32) → (Nat → Int32) → Option (Int32 × Int32 × Int32 × Int32 × (Nat → Int32) × (Nat → Int32))
  | 0, _, _, _, _, _, _, _ => none
  | n + 1, v3, v4, m_thrown, m_trouble, m_mostKept, m_can, m_seats =>
   if 4 < v4 then
    (f_X11_tryErrands m_r m_can 12 0 m_seats 0 v3 0).bind fun z77 =>
    some (z77.1, m_thrown, m_trouble, z77.1, m_can, z77.2)
   else
    if rf_ib v4 5 = true then
    f_X11_kept_43 m_hasFerry m_r m_st n v3 (v4 + 1) m_thrown m_trouble m_mostKept m_can (upd m_seats (Int32.toNatClampNeg v4) (m_r (Int32.toNatClampNeg 1)))
    else none
def f_X11_kept (m_hasFerry : Int32) (m_r : Nat → Int32) (m_st : Nat → Int32) (m_thrown : Int32) (m_trouble : Int32) (m_mostKept : Int32) (m_can : Nat → Int32) (m_seats : Nat → Int32) (v1 : Int32) : Option (Int32 × Int32 × Int32 × Int32 × (Nat → Int32) × (Nat → Int32)) :=
  (f_X11_good m_thrown m_trouble).bind fun z1 =>
  (f_X11_why m_hasFerry v1).bind fun z10 =>
  if z10 = 0 then
   (f_X11_onBank m_r m_st 0).bind fun z26 =>
   (f_X11_earAt m_r v1).bind fun z34 =>
   (f_X11_layCan m_r m_st m_can z26 z34).bind fun z37 =>
   f_X11_kept_43 m_hasFerry m_r m_st rf_fu z26 1 z1.1 z1.2 m_mostKept z37 m_seats
  else
   (f_X11_no z1.2 z10).bind fun z20 =>
   some (z20.1, z1.1, z20.2, m_mostKept, m_can, m_seats)
def f_X11_wrongGot_2 (m_r : Nat → Int32) (m_st : Nat → Int32) : Nat → Int32 → Int32 → Option (Int32)
  | 0, _, _ => none
  | n + 1, v1, v2 =>
   if (m_r (Int32.toNatClampNeg 7)) ≤ v2 then
    some (-2)
   else
    if rf_ib ((153 : Int32) + ((3 : Int32) * v2)) 333 = true then
    if rf_ib (((153 : Int32) + ((3 : Int32) * v2)) + 1) 333 = true then
    (f_X11_rhymeNow m_r m_st (m_r (Int32.toNatClampNeg ((153 : Int32) + ((3 : Int32) * v2)))) (m_r (Int32.toNatClampNeg (((153 : Int32) + ((3 : Int32) * v2)) + 1))) v1).bind fun z41 =>
    if rf_ib (((153 : Int32) + ((3 : Int32) * v2)) + 2) 333 = true then
    if z41 = (m_r (Int32.toNatClampNeg (((153 : Int32) + ((3 : Int32) * v2)) + 2))) then
     f_X11_wrongGot_2 m_r m_st n v1 (v2 + 1)
    else
     some v2
    else none
    else none
    else none
def f_X11_wrongGot (m_r : Nat → Int32) (m_st : Nat → Int32) (v1 : Int32) : Option (Int32) :=
  f_X11_wrongGot_2 m_r m_st rf_fu v1 0
def f_X11_judge (m_hasFerry : Int32) (m_r : Nat → Int32) (m_st : Nat → Int32) (m_thrown : Int32) (m_trouble : Int32) : Option (Int32 × Int32 × Int32) :=
  (f_X11_good m_thrown m_trouble).bind fun z1 =>
  if m_hasFerry = 0 then
   (f_X11_no z1.2 1).bind fun z26 =>
   some (z26.1, z1.1, z26.2)
  else
   (f_X11_wrongGot m_r m_st (m_r (Int32.toNatClampNeg 0))).bind fun z18 =>
   some (z18, z1.1, z1.2)
def f_X11_costOf_225 (k23 : Int32 → Int32 → Int32 → Int32 → Int32 → Option (Int32)) (m_r : Nat → Int32) (m_st : Nat → Int32) (v1 : Int32) (v2 : Int32) (v3 : Int32) (v4 : Int32) (v5 : Int32) : Option (Int32) :=
  k23 v1 v2 v3 v4 (v5 + 1)
def f_X11_costOf_219 (k23 : Int32 → Int32 → Int32 → Int32 → Int32 → Option (Int32)) (k37 : Int32 → Int32 → Int32 → Int32 → Int32 → Int32 → Option (Int32)) (m_r : Nat → Int32) (m_st : Nat → Int32) (v1 : Int32) (v2 : Int32) (v3 : Int32) (v4 : Int32) (v5 : Int32) (v6 : Int32) : Option (Int32) :=
  k37 v1 v2 v3 v4 v5 (v6 + 1)
def f_X11_costOf_159 (k23 : Int32 → Int32 → Int32 → Int32 → Int32 → Option (Int32)) (k37 : Int32 → Int32 → Int32 → Int32 → Int32 → Int32 → Option (Int32)) (m_r : Nat → Int32) (m_st : Nat → Int32) (v1 : Int32) (v2 : Int32) (v3 : Int32) (v4 : Int32) (v5 : Int32) (v6 : Int32) (v7 : Int32) (v8 : Int32) (s0 : Int32) (s1 : Int32) : Option (Int32) :=
  if v4 ≤ (s0 + s1) then
   f_X11_costOf_219 k23 k37 m_r m_st v1 v2 v3 v4 v5 v6
  else
   (f_X11_kindOf m_r v1).bind fun z172 =>
   if rf_ib ((8 : Int32) + v1) 26 = true then
   (f_X11_kindOf m_r v2).bind fun z189 =>
   if rf_ib ((8 : Int32) + v2) 26 = true then
   (f_X11_rhymeOf m_r z172 ((m_st (Int32.toNatClampNeg ((8 : Int32) + v1))) ||| v7) z189 ((m_st (Int32.toNatClampNeg ((8 : Int32) + v2))) ||| v8) v3).bind fun z205 =>
   if z205 = 2 then
    f_X11_costOf_219 k23 k37 m_r m_st v1 v2 v3 (s0 + s1) v5 v6
   else
    f_X11_costOf_219 k23 k37 m_r m_st v1 v2 v3 v4 v5 v6
   else none
   else none
def f_X11_costOf_144 (k23 : Int32 → Int32 → Int32 → Int32 → Int32 → Option (Int32)) (k37 : Int32 → Int32 → Int32 → Int32 → Int32 → Int32 → Option (Int32)) (m_r : Nat → Int32) (m_st : Nat → Int32) (v1 : Int32) (v2 : Int32) (v3 : Int32) (v4 : Int32) (v5 : Int32) (v6 : Int32) (v7 : Int32) (v8 : Int32) (s0 : Int32) : Option (Int32) :=
  if v8 = 0 then
   f_X11_costOf_159 k23 k37 m_r m_st v1 v2 v3 v4 v5 v6 v7 v8 s0 0
  else
   (f_X11_priceOf m_r v6).bind fun z156 =>
   f_X11_costOf_159 k23 k37 m_r m_st v1 v2 v3 v4 v5 v6 v7 v8 s0 z156
def f_X11_costOf_127 (k23 : Int32 → Int32 → Int32 → Int32 → Int32 → Option (Int32)) (k37 : Int32 → Int32 → Int32 → Int32 → Int32 → Int32 → Option (Int32)) (m_r : Nat → Int32) (m_st : Nat → Int32) (v1 : Int32) (v2 : Int32) (v3 : Int32) (v4 : Int32) (v5 : Int32) (v6 : Int32) (v7 : Int32) (s0 : Int32) : Option (Int32) :=
  if v7 = 0 then
   f_X11_costOf_144 k23 k37 m_r m_st v1 v2 v3 v4 v5 v6 v7 s0 0
  else
   (f_X11_priceOf m_r v5).bind fun z141 =>
   f_X11_costOf_144 k23 k37 m_r m_st v1 v2 v3 v4 v5 v6 v7 s0 z141
def f_X11_costOf_119 (k23 : Int32 → Int32 → Int32 → Int32 → Int32 → Option (Int32)) (k37 : Int32 → Int32 → Int32 → Int32 → Int32 → Int32 → Option (Int32)) (m_r : Nat → Int32) (m_st : Nat → Int32) (v1 : Int32) (v2 : Int32) (v3 : Int32) (v4 : Int32) (v5 : Int32) (v6 : Int32) (v7 : Int32) : Option (Int32) :=
  f_X11_costOf_127 k23 k37 m_r m_st v1 v2 v3 v4 v5 v6 v7 0
def f_X11_costOf_89 (k23 : Int32 → Int32 → Int32 → Int32 → Int32 → Option (Int32)) (k37 : Int32 → Int32 → Int32 → Int32 → Int32 → Int32 → Option (Int32)) (m_r : Nat → Int32) (m_st : Nat → Int32) (v1 : Int32) (v2 : Int32) (v3 : Int32) (v4 : Int32) (v5 : Int32) (v6 : Int32) (s0 : Int32) : Option (Int32) :=
  if v6 = (m_r (Int32.toNatClampNeg 2)) then
   f_X11_costOf_119 k23 k37 m_r m_st v1 v2 v3 v4 v5 v6 s0
  else
   if rf_ib ((8 : Int32) + v2) 26 = true then
   (f_X11_hasBit (m_st (Int32.toNatClampNeg ((8 : Int32) + v2))) v6).bind fun z113 =>
   if z113 = 0 then
    f_X11_costOf_127 k23 k37 m_r m_st v1 v2 v3 v4 v5 v6 s0 ((1 : Int32) <<< (v6 &&& 31))
   else
    f_X11_costOf_119 k23 k37 m_r m_st v1 v2 v3 v4 v5 v6 s0
   else none
def f_X11_costOf_81 (k23 : Int32 → Int32 → Int32 → Int32 → Int32 → Option (Int32)) (k37 : Int32 → Int32 → Int32 → Int32 → Int32 → Int32 → Option (Int32)) (m_r : Nat → Int32) (m_st : Nat → Int32) (v1 : Int32) (v2 : Int32) (v3 : Int32) (v4 : Int32) (v5 : Int32) (v6 : Int32) : Option (Int32) :=
  f_X11_costOf_89 k23 k37 m_r m_st v1 v2 v3 v4 v5 v6 0
def f_X11_costOf_37 (k23 : Int32 → Int32 → Int32 → Int32 → Int32 → Option (Int32)) (m_r : Nat → Int32) (m_st : Nat → Int32) : Nat → Int32 → Int32 → Int32 → Int32 → Int32 → Int32 → Option (Int32)
  | 0, _, _, _, _, _, _ => none
  | n + 1, v1, v2, v3, v4, v5, v6 =>
   if (m_r (Int32.toNatClampNeg 2)) < v6 then
    f_X11_costOf_225 k23 m_r m_st v1 v2 v3 v4 v5
   else
    if v4 ≤ 0 then
     f_X11_costOf_225 k23 m_r m_st v1 v2 v3 v4 v5
    else
     if v5 = (m_r (Int32.toNatClampNeg 2)) then
      f_X11_costOf_81 k23 (f_X11_costOf_37 k23 m_r m_st n) m_r m_st v1 v2 v3 v4 v5 v6
     else
      if rf_ib ((8 : Int32) + v1) 26 = true then
      (f_X11_hasBit (m_st (Int32.toNatClampNeg ((8 : Int32) + v1))) v5).bind fun z75 =>
      if z75 = 0 then
       f_X11_costOf_89 k23 (f_X11_costOf_37 k23 m_r m_st n) m_r m_st v1 v2 v3 v4 v5 v6 ((1 : Int32) <<< (v5 &&& 31))
      else
       f_X11_costOf_81 k23 (f_X11_costOf_37 k23 m_r m_st n) m_r m_st v1 v2 v3 v4 v5 v6
      else none
def f_X11_costOf_23 (m_r : Nat → Int32) (m_st : Nat → Int32) : Nat → Int32 → Int32 → Int32 → Int32 → Int32 → Option (Int32)
  | 0, _, _, _, _, _ => none
  | n + 1, v1, v2, v3, v4, v5 =>
   if (m_r (Int32.toNatClampNeg 2)) < v5 then
    some v4
   else
    f_X11_costOf_37 (f_X11_costOf_23 m_r m_st n) m_r m_st rf_fu v1 v2 v3 v4 v5 0
def f_X11_costOf_18 (m_r : Nat → Int32) (m_st : Nat → Int32) (v1 : Int32) (v2 : Int32) (v3 : Int32) (s0 : Int32) : Option (Int32) :=
  f_X11_costOf_23 m_r m_st rf_fu v1 v2 v3 s0 0
def f_X11_costOf (m_r : Nat → Int32) (m_st : Nat → Int32) (v1 : Int32) (v2 : Int32) (v3 : Int32) : Option (Int32) :=
  (f_X11_rhymeNow m_r m_st v1 v2 v3).bind fun z4 =>
  if z4 = 2 then
   f_X11_costOf_18 m_r m_st v1 v2 v3 0
  else
   f_X11_costOf_18 m_r m_st v1 v2 v3 1000000
def f_X11_tryCoins_90 (k40 : Int32 → Int32 → Int32 → Int32 → Int32 → Option (Int32)) (slf : Int32 → Int32 → Int32 → Option (Int32)) (m_r : Nat → Int32) (m_costs : Nat → Int32) (v1 : Int32) (v2 : Int32) (v3 : Int32) (v4 : Int32) (m_leastCoins : Int32) : Option (Int32) :=
  k40 v1 v2 v3 (v4 + 1) m_leastCoins
def f_X11_tryCoins_40 (slf : Int32 → Int32 → Int32 → Option (Int32)) (m_r : Nat → Int32) (m_costs : Nat → Int32) : Nat → Int32 → Int32 → Int32 → Int32 → Int32 → Option (Int32)
  | 0, _, _, _, _, _ => none
  | n + 1, v1, v2, v3, v4, m_leastCoins =>
   if (m_r (Int32.toNatClampNeg 3)) ≤ v4 then
    some m_leastCoins
   else
    (f_X11_hasBit v1 v4).bind fun z54 =>
    if z54 = 0 then
     f_X11_tryCoins_90 (f_X11_tryCoins_40 slf m_r m_costs n) slf m_r m_costs v1 v2 v3 v4 m_leastCoins
    else
     if rf_ib (((8 : Int32) * v3) + v4) 64 = true then
     (slf m_leastCoins (v1 &&& ((((1 : Int32) <<< (v3 &&& 31)) ||| ((1 : Int32) <<< (v4 &&& 31))) ^^^ (-1))) (v2 + (m_costs (Int32.toNatClampNeg (((8 : Int32) * v3) + v4))))).bind fun z87 =>
     f_X11_tryCoins_90 (f_X11_tryCoins_40 slf m_r m_costs n) slf m_r m_costs v1 v2 v3 v4 z87
     else none
def f_X11_tryCoins_21 (slf : Int32 → Int32 → Int32 → Option (Int32)) (m_r : Nat → Int32) (m_costs : Nat → Int32) : Nat → Int32 → Int32 → Int32 → Int32 → Option (Int32)
  | 0, _, _, _, _ => none
  | n + 1, v1, v2, v3, m_leastCoins =>
   (f_X11_hasBit v1 v3).bind fun z23 =>
   if z23 = 0 then
    f_X11_tryCoins_21 slf m_r m_costs n v1 v2 (v3 + 1) m_leastCoins
   else
    f_X11_tryCoins_40 slf m_r m_costs rf_fu v1 v2 v3 (v3 + 1) m_leastCoins
def f_X11_tryCoins (m_r : Nat → Int32) (m_costs : Nat → Int32) : Nat → Int32 → Int32 → Int32 → Option (Int32)
  | 0, _, _, _ => none
  | d + 1, m_leastCoins, v1, v2 =>
   if v2 < m_leastCoins then
    if v1 = 0 then
     some v2
    else
     f_X11_tryCoins_21 (f_X11_tryCoins m_r m_costs d) m_r m_costs rf_fu v1 v2 0 m_leastCoins
   else
    some m_leastCoins
def f_X11_coins_110 (k31 : Int32 → Int32 → Int32 → Int32 → Int32 → Int32 → (Nat → Int32) → Option (Int32 × Int32 × Int32 × Int32 × (Nat → Int32))) (k48 : Int32 → Int32 → Int32 → Int32 → Int32 → Int32 → Int32 → (Nat → Int32) → Option (Int32 × Int32 × Int32 × Int32 × (Nat → Int32))) (m_hasFerry : Int32) (m_r : Nat → Int32) (m_st : Nat → Int32) (v2 : Int32) (v4 : Int32) (v5 : Int32) (v6 : Int32) (s1 : Int32) (s2 : Int32) (m_thrown : Int32) (m_trouble : Int32) (m_leastCoins : Int32) (m_costs : Nat → Int32) : Option (Int32 × Int32 × Int32 × Int32 × (Nat → Int32)) :=
  if rf_ib s1 64 = true then
  k48 v2 v4 v5 (v6 + 1) m_thrown m_trouble m_leastCoins (upd m_costs (Int32.toNatClampNeg s1) s2)
  else none
def f_X11_coins_107 (k31 : Int32 → Int32 → Int32 → Int32 → Int32 → Int32 → (Nat → Int32) → Option (Int32 × Int32 × Int32 × Int32 × (Nat → Int32))) (k48 : Int32 → Int32 → Int32 → Int32 → Int32 → Int32 → Int32 → (Nat → Int32) → Option (Int32 × Int32 × Int32 × Int32 × (Nat → Int32))) (m_hasFerry : Int32) (m_r : Nat → Int32) (m_st : Nat → Int32) (v2 : Int32) (v4 : Int32) (v5 : Int32) (v6 : Int32) (s1 : Int32) (m_thrown : Int32) (m_trouble : Int32) (m_leastCoins : Int32) (m_costs : Nat → Int32) : Option (Int32 × Int32 × Int32 × Int32 × (Nat → Int32)) :=
  f_X11_coins_110 k31 k48 m_hasFerry m_r m_st v2 v4 v5 v6 s1 1000000 m_thrown m_trouble m_leastCoins m_costs
def f_X11_coins_48 (k31 : Int32 → Int32 → Int32 → Int32 → Int32 → Int32 → (Nat → Int32) → Option (Int32 × Int32 × Int32 × Int32 × (Nat → Int32))) (m_hasFerry : Int32) (m_r : Nat → Int32) (m_st : Nat → Int32) : Nat → Int32 → Int32 → Int32 → Int32 → Int32 → Int32 → Int32 → (Nat → Int32) → Option (Int32 × Int32 × Int32 × Int32 × (Nat → Int32))
  | 0, _, _, _, _, _, _, _, _ => none
  | n + 1, v2, v4, v5, v6, m_thrown, m_trouble, m_leastCoins, m_costs =>
   if (m_r (Int32.toNatClampNeg 3)) ≤ v6 then
    k31 v2 v4 (v5 + 1) m_thrown m_trouble m_leastCoins m_costs
   else
    (f_X11_hasBit v4 v5).bind fun z75 =>
    if z75 = 0 then
     f_X11_coins_107 k31 (f_X11_coins_48 k31 m_hasFerry m_r m_st n) m_hasFerry m_r m_st v2 v4 v5 v6 (((8 : Int32) * v5) + v6) m_thrown m_trouble m_leastCoins m_costs
    else
     (f_X11_hasBit v4 v6).bind fun z85 =>
     if z85 = 0 then
      f_X11_coins_107 k31 (f_X11_coins_48 k31 m_hasFerry m_r m_st n) m_hasFerry m_r m_st v2 v4 v5 v6 (((8 : Int32) * v5) + v6) m_thrown m_trouble m_leastCoins m_costs
     else
      (f_X11_earAt m_r v2).bind fun z98 =>
      (f_X11_costOf m_r m_st v5 v6 z98).bind fun z101 =>
      f_X11_coins_110 k31 (f_X11_coins_48 k31 m_hasFerry m_r m_st n) m_hasFerry m_r m_st v2 v4 v5 v6 (((8 : Int32) * v5) + v6) z101 m_thrown m_trouble m_leastCoins m_costs
def f_X11_coins_31 (m_hasFerry : Int32) (m_r : Nat → Int32) (m_st : Nat → Int32) : Nat → Int32 → Int32 → Int32 → Int32 → Int32 → Int32 → (Nat → Int32) → Option (Int32 × Int32 × Int32 × Int32 × (Nat → Int32))
  | 0, _, _, _, _, _, _, _ => none
  | n + 1, v2, v4, v5, m_thrown, m_trouble, m_leastCoins, m_costs =>
   if (m_r (Int32.toNatClampNeg 3)) ≤ v5 then
    (f_X11_tryCoins m_r m_costs 12 1000000 v4 0).bind fun z134 =>
    if z134 = 1000000 then
     some ((-2), m_thrown, m_trouble, z134, m_costs)
    else
     some (z134, m_thrown, m_trouble, z134, m_costs)
   else
    f_X11_coins_48 (f_X11_coins_31 m_hasFerry m_r m_st n) m_hasFerry m_r m_st rf_fu v2 v4 v5 (v5 + 1) m_thrown m_trouble m_leastCoins m_costs
def f_X11_coins (m_hasFerry : Int32) (m_r : Nat → Int32) (m_st : Nat → Int32) (m_thrown : Int32) (m_trouble : Int32) (m_leastCoins : Int32) (m_costs : Nat → Int32) (v1 : Int32) (v2 : Int32) : Option (Int32 × Int32 × Int32 × Int32 × (Nat → Int32)) :=
  (f_X11_good m_thrown m_trouble).bind fun z1 =>
  (f_X11_bankWhy m_hasFerry v1 v2).bind fun z7 =>
  if z7 = 0 then
   (f_X11_onBank m_r m_st v1).bind fun z23 =>
   f_X11_coins_31 m_hasFerry m_r m_st rf_fu v2 z23 0 z1.1 z1.2 m_leastCoins m_costs
  else
   (f_X11_no z1.2 z7).bind fun z17 =>
   some (z17.1, z1.1, z17.2, m_leastCoins, m_costs)
def f_X11_isPaired_71 (k26 : Int32 → Int32 → Int32 → Option (Int32)) (slf : Int32 → Option (Int32)) (m_r : Nat → Int32) (m_can : Nat → Int32) (v1 : Int32) (v2 : Int32) (v3 : Int32) : Option (Int32) :=
  k26 v1 v2 (v3 + 1)
def f_X11_isPaired_26 (slf : Int32 → Option (Int32)) (m_r : Nat → Int32) (m_can : Nat → Int32) : Nat → Int32 → Int32 → Int32 → Option (Int32)
  | 0, _, _, _ => none
  | n + 1, v1, v2, v3 =>
   if (m_r (Int32.toNatClampNeg 3)) ≤ v3 then
    some 0
   else
    if rf_ib v2 8 = true then
    (f_X11_hasBit (v1 &&& (m_can (Int32.toNatClampNeg v2))) v3).bind fun z45 =>
    if z45 = 0 then
     f_X11_isPaired_71 (f_X11_isPaired_26 slf m_r m_can n) slf m_r m_can v1 v2 v3
    else
     (slf (v1 &&& ((((1 : Int32) <<< (v2 &&& 31)) ||| ((1 : Int32) <<< (v3 &&& 31))) ^^^ (-1)))).bind fun z63 =>
     if z63 = 0 then
      f_X11_isPaired_71 (f_X11_isPaired_26 slf m_r m_can n) slf m_r m_can v1 v2 v3
     else
      some 1
    else none
def f_X11_isPaired_8 (slf : Int32 → Option (Int32)) (m_r : Nat → Int32) (m_can : Nat → Int32) : Nat → Int32 → Int32 → Option (Int32)
  | 0, _, _ => none
  | n + 1, v1, v2 =>
   (f_X11_hasBit v1 v2).bind fun z10 =>
   if z10 = 0 then
    f_X11_isPaired_8 slf m_r m_can n v1 (v2 + 1)
   else
    f_X11_isPaired_26 slf m_r m_can rf_fu v1 v2 (v2 + 1)
def f_X11_isPaired (m_r : Nat → Int32) (m_can : Nat → Int32) : Nat → Int32 → Option (Int32)
  | 0, _ => none
  | d + 1, v1 =>
   if v1 = 0 then
    some 1
   else
    f_X11_isPaired_8 (f_X11_isPaired m_r m_can d) m_r m_can rf_fu v1 0
def f_X11_areAllPaired_123 (k3 : Int32 → Int32 → Int32 → Int32 → (Nat → Int32) → Option (Int32 × (Nat → Int32))) (k28 : Int32 → Int32 → Int32 → Int32 → Int32 → (Nat → Int32) → Option (Int32 × (Nat → Int32))) (m_r : Nat → Int32) (m_st : Nat → Int32) (v1 : Int32) (v2 : Int32) (v3 : Int32) (v4 : Int32) (v5 : Int32) (m_can : Nat → Int32) : Option (Int32 × (Nat → Int32)) :=
  k28 v1 v2 v3 v4 (v5 + 1) m_can
def f_X11_areAllPaired_121 (k3 : Int32 → Int32 → Int32 → Int32 → (Nat → Int32) → Option (Int32 × (Nat → Int32))) (k28 : Int32 → Int32 → Int32 → Int32 → Int32 → (Nat → Int32) → Option (Int32 × (Nat → Int32))) (m_r : Nat → Int32) (m_st : Nat → Int32) (v1 : Int32) (v2 : Int32) (v3 : Int32) (v4 : Int32) (v5 : Int32) (s1 : Int32) (s2 : Int32) (s3 : Int32) (m_can : Nat → Int32) : Option (Int32 × (Nat → Int32)) :=
  if rf_ib s1 8 = true then
  f_X11_areAllPaired_123 k3 k28 m_r m_st v1 v2 v3 v4 v5 (upd m_can (Int32.toNatClampNeg s1) (s2 ||| s3))
  else none
def f_X11_areAllPaired_28 (k3 : Int32 → Int32 → Int32 → Int32 → (Nat → Int32) → Option (Int32 × (Nat → Int32))) (m_r : Nat → Int32) (m_st : Nat → Int32) : Nat → Int32 → Int32 → Int32 → Int32 → Int32 → (Nat → Int32) → Option (Int32 × (Nat → Int32))
  | 0, _, _, _, _, _, _ => none
  | n + 1, v1, v2, v3, v4, v5, m_can =>
   if (m_r (Int32.toNatClampNeg 3)) ≤ v5 then
    k3 v1 v2 v3 (v4 + 1) m_can
   else
    (f_X11_hasBit v1 v4).bind fun z42 =>
    if z42 = 0 then
     f_X11_areAllPaired_123 k3 (f_X11_areAllPaired_28 k3 m_r m_st n) m_r m_st v1 v2 v3 v4 v5 m_can
    else
     (f_X11_hasBit v1 v5).bind fun z51 =>
     if z51 = 0 then
      f_X11_areAllPaired_123 k3 (f_X11_areAllPaired_28 k3 m_r m_st n) m_r m_st v1 v2 v3 v4 v5 m_can
     else
      if rf_ib v4 8 = true then
      (f_X11_kindOf m_r v4).bind fun z72 =>
      if rf_ib ((8 : Int32) + v4) 26 = true then
      (f_X11_kindOf m_r v5).bind fun z90 =>
      if rf_ib ((8 : Int32) + v5) 26 = true then
      (f_X11_rhymeOf m_r z72 ((m_st (Int32.toNatClampNeg ((8 : Int32) + v4))) ||| v2) z90 ((m_st (Int32.toNatClampNeg ((8 : Int32) + v5))) ||| v2) v3).bind fun z106 =>
      if z106 = 2 then
       f_X11_areAllPaired_121 k3 (f_X11_areAllPaired_28 k3 m_r m_st n) m_r m_st v1 v2 v3 v4 v5 v4 (m_can (Int32.toNatClampNeg v4)) ((1 : Int32) <<< (v5 &&& 31)) m_can
      else
       f_X11_areAllPaired_121 k3 (f_X11_areAllPaired_28 k3 m_r m_st n) m_r m_st v1 v2 v3 v4 v5 v4 (m_can (Int32.toNatClampNeg v4)) 0 m_can
      else none
      else none
      else none
def f_X11_areAllPaired_3 (m_r : Nat → Int32) (m_st : Nat → Int32) : Nat → Int32 → Int32 → Int32 → Int32 → (Nat → Int32) → Option (Int32 × (Nat → Int32))
  | 0, _, _, _, _, _ => none
  | n + 1, v1, v2, v3, v4, m_can =>
   if (m_r (Int32.toNatClampNeg 3)) ≤ v4 then
    (f_X11_isPaired m_r m_can 12 v1).bind fun z137 =>
    if rf_zb z137 = true then
    some (z137, m_can)
    else none
   else
    if rf_ib v4 8 = true then
    f_X11_areAllPaired_28 (f_X11_areAllPaired_3 m_r m_st n) m_r m_st rf_fu v1 v2 v3 v4 (v4 + 1) (upd m_can (Int32.toNatClampNeg v4) 0)
    else none
def f_X11_areAllPaired (m_r : Nat → Int32) (m_st : Nat → Int32) (m_can : Nat → Int32) (v1 : Int32) (v2 : Int32) (v3 : Int32) : Option (Int32 × (Nat → Int32)) :=
  f_X11_areAllPaired_3 m_r m_st rf_fu v1 v2 v3 0 m_can
def f_X11_keep_66 (m_hasFerry : Int32) (m_r : Nat → Int32) (m_st : Nat → Int32) (m_thrown : Int32) (m_trouble : Int32) (m_can : Nat → Int32) : Option (Int32 × Int32 × Int32 × (Nat → Int32)) :=
  some ((-2), m_thrown, m_trouble, m_can)
def f_X11_keep_118 (k72 : Int32 → Int32 → Int32 → Int32 → Int32 → Int32 → (Nat → Int32) → Option (Int32 × Int32 × Int32 × (Nat → Int32))) (m_hasFerry : Int32) (m_r : Nat → Int32) (m_st : Nat → Int32) (v2 : Int32) (v4 : Int32) (v5 : Int32) (v6 : Int32) (m_thrown : Int32) (m_trouble : Int32) (m_can : Nat → Int32) : Option (Int32 × Int32 × Int32 × (Nat → Int32)) :=
  k72 v2 v4 v5 (v6 + 1) m_thrown m_trouble m_can
def f_X11_keep_72 (m_hasFerry : Int32) (m_r : Nat → Int32) (m_st : Nat → Int32) : Nat → Int32 → Int32 → Int32 → Int32 → Int32 → Int32 → (Nat → Int32) → Option (Int32 × Int32 × Int32 × (Nat → Int32))
  | 0, _, _, _, _, _, _, _ => none
  | n + 1, v2, v4, v5, v6, m_thrown, m_trouble, m_can =>
   if ((1 : Int32) <<< ((m_r (Int32.toNatClampNeg 2)) &&& 31)) ≤ v6 then
    some (v5, m_thrown, m_trouble, m_can)
   else
    (f_X11_ones v6).bind fun z87 =>
    (f_X11_ones v5).bind fun z92 =>
    if z92 ≤ z87 then
     f_X11_keep_118 (f_X11_keep_72 m_hasFerry m_r m_st n) m_hasFerry m_r m_st v2 v4 v5 v6 m_thrown m_trouble m_can
    else
     (f_X11_earAt m_r v2).bind fun z105 =>
     (f_X11_areAllPaired m_r m_st m_can v4 v6 z105).bind fun z108 =>
     if z108.1 = 0 then
      f_X11_keep_118 (f_X11_keep_72 m_hasFerry m_r m_st n) m_hasFerry m_r m_st v2 v4 v5 v6 m_thrown m_trouble z108.2
     else
      f_X11_keep_118 (f_X11_keep_72 m_hasFerry m_r m_st n) m_hasFerry m_r m_st v2 v4 v6 v6 m_thrown m_trouble z108.2
def f_X11_keep (m_hasFerry : Int32) (m_r : Nat → Int32) (m_st : Nat → Int32) (m_thrown : Int32) (m_trouble : Int32) (m_can : Nat → Int32) (v1 : Int32) (v2 : Int32) : Option (Int32 × Int32 × Int32 × (Nat → Int32)) :=
  (f_X11_good m_thrown m_trouble).bind fun z1 =>
  (f_X11_bankWhy m_hasFerry v1 v2).bind fun z7 =>
  if z7 = 0 then
   (f_X11_onBank m_r m_st v1).bind fun z23 =>
   (f_X11_ones z23).bind fun z42 =>
   if (z42 - z42 / 2 * 2) = 0 then
    (f_X11_earAt m_r v2).bind fun z57 =>
    (f_X11_areAllPaired m_r m_st m_can z23 (((1 : Int32) <<< ((m_r (Int32.toNatClampNeg 2)) &&& 31)) - 1) z57).bind fun z60 =>
    if z60.1 = 0 then
     f_X11_keep_66 m_hasFerry m_r m_st z1.1 z1.2 z60.2
    else
     f_X11_keep_72 m_hasFerry m_r m_st rf_fu v2 z23 (((1 : Int32) <<< ((m_r (Int32.toNatClampNeg 2)) &&& 31)) - 1) 0 z1.1 z1.2 z60.2
   else
    f_X11_keep_66 m_hasFerry m_r m_st z1.1 z1.2 m_can
  else
   (f_X11_no z1.2 z7).bind fun z17 =>
   some (z17.1, z1.1, z17.2, m_can)
def f_X11_refrain_239 (k145 : Int32 → Int32 → Int32 → Int32 → Int32 → (Nat → Int32) → Option (Int32 × Int32 × Int32 × (Nat → Int32))) (m_hasFerry : Int32) (m_r : Nat → Int32) (m_st : Nat → Int32) (v4 : Int32) (v5 : Int32) (v6 : Int32) (m_thrown : Int32) (m_trouble : Int32) (m_covers : Nat → Int32) : Option (Int32 × Int32 × Int32 × (Nat → Int32)) :=
  k145 v4 v5 (v6 + 1) m_thrown m_trouble m_covers
def f_X11_refrain_219 (k145 : Int32 → Int32 → Int32 → Int32 → Int32 → (Nat → Int32) → Option (Int32 × Int32 × Int32 × (Nat → Int32))) (k185 : Int32 → Int32 → Int32 → Int32 → Int32 → Int32 → Int32 → (Nat → Int32) → Option (Int32 × Int32 × Int32 × (Nat → Int32))) (m_hasFerry : Int32) (m_r : Nat → Int32) (m_st : Nat → Int32) (v4 : Int32) (v5 : Int32) (v6 : Int32) (v8 : Int32) (s0 : Int32) (s1 : Int32) (m_thrown : Int32) (m_trouble : Int32) (m_covers : Nat → Int32) : Option (Int32 × Int32 × Int32 × (Nat → Int32)) :=
  k185 v4 v5 v6 (s0 ||| s1) (v8 + 1) m_thrown m_trouble m_covers
def f_X11_refrain_185 (k145 : Int32 → Int32 → Int32 → Int32 → Int32 → (Nat → Int32) → Option (Int32 × Int32 × Int32 × (Nat → Int32))) (m_hasFerry : Int32) (m_r : Nat → Int32) (m_st : Nat → Int32) : Nat → Int32 → Int32 → Int32 → Int32 → Int32 → Int32 → Int32 → (Nat → Int32) → Option (Int32 × Int32 × Int32 × (Nat → Int32))
  | 0, _, _, _, _, _, _, _, _ => none
  | n + 1, v4, v5, v6, v7, v8, m_thrown, m_trouble, m_covers =>
   if (m_r (Int32.toNatClampNeg 2)) ≤ v8 then
    if v7 = v4 then
     f_X11_refrain_239 k145 m_hasFerry m_r m_st v4 v6 v6 m_thrown m_trouble m_covers
    else
     f_X11_refrain_239 k145 m_hasFerry m_r m_st v4 v5 v6 m_thrown m_trouble m_covers
   else
    (f_X11_hasBit v6 v8).bind fun z202 =>
    if z202 = 0 then
     f_X11_refrain_219 k145 (f_X11_refrain_185 k145 m_hasFerry m_r m_st n) m_hasFerry m_r m_st v4 v5 v6 v8 v7 0 m_thrown m_trouble m_covers
    else
     if rf_ib v8 10 = true then
     f_X11_refrain_219 k145 (f_X11_refrain_185 k145 m_hasFerry m_r m_st n) m_hasFerry m_r m_st v4 v5 v6 v8 v7 (m_covers (Int32.toNatClampNeg v8)) m_thrown m_trouble m_covers
     else none
def f_X11_refrain_179 (k145 : Int32 → Int32 → Int32 → Int32 → Int32 → (Nat → Int32) → Option (Int32 × Int32 × Int32 × (Nat → Int32))) (m_hasFerry : Int32) (m_r : Nat → Int32) (m_st : Nat → Int32) (v4 : Int32) (v5 : Int32) (v6 : Int32) (m_thrown : Int32) (m_trouble : Int32) (m_covers : Nat → Int32) : Option (Int32 × Int32 × Int32 × (Nat → Int32)) :=
  f_X11_refrain_185 k145 m_hasFerry m_r m_st rf_fu v4 v5 v6 0 0 m_thrown m_trouble m_covers
def f_X11_refrain_145 (m_hasFerry : Int32) (m_r : Nat → Int32) (m_st : Nat → Int32) : Nat → Int32 → Int32 → Int32 → Int32 → Int32 → (Nat → Int32) → Option (Int32 × Int32 × Int32 × (Nat → Int32))
  | 0, _, _, _, _, _, _ => none
  | n + 1, v4, v5, v6, m_thrown, m_trouble, m_covers =>
   if ((1 : Int32) <<< ((m_r (Int32.toNatClampNeg 2)) &&& 31)) ≤ v6 then
    some (v5, m_thrown, m_trouble, m_covers)
   else
    if v5 < 0 then
     f_X11_refrain_179 (f_X11_refrain_145 m_hasFerry m_r m_st n) m_hasFerry m_r m_st v4 v5 v6 m_thrown m_trouble m_covers
    else
     (f_X11_ones v6).bind fun z165 =>
     (f_X11_ones v5).bind fun z170 =>
     if z165 < z170 then
      f_X11_refrain_179 (f_X11_refrain_145 m_hasFerry m_r m_st n) m_hasFerry m_r m_st v4 v5 v6 m_thrown m_trouble m_covers
     else
      f_X11_refrain_239 (f_X11_refrain_145 m_hasFerry m_r m_st n) m_hasFerry m_r m_st v4 v5 v6 m_thrown m_trouble m_covers
def f_X11_refrain_124 (k31 : Int32 → Int32 → Int32 → Int32 → Int32 → (Nat → Int32) → Option (Int32 × Int32 × Int32 × (Nat → Int32))) (k53 : Int32 → Int32 → Int32 → Int32 → Int32 → Int32 → (Nat → Int32) → Option (Int32 × Int32 × Int32 × (Nat → Int32))) (m_hasFerry : Int32) (m_r : Nat → Int32) (m_st : Nat → Int32) (v2 : Int32) (v4 : Int32) (v5 : Int32) (v6 : Int32) (s1 : Int32) (s2 : Int32) (s3 : Int32) (m_thrown : Int32) (m_trouble : Int32) (m_covers : Nat → Int32) : Option (Int32 × Int32 × Int32 × (Nat → Int32)) :=
  if rf_ib s1 10 = true then
  k53 v2 v4 v5 (v6 + 1) m_thrown m_trouble (upd m_covers (Int32.toNatClampNeg s1) (s2 ||| s3))
  else none
def f_X11_refrain_123 (k31 : Int32 → Int32 → Int32 → Int32 → Int32 → (Nat → Int32) → Option (Int32 × Int32 × Int32 × (Nat → Int32))) (k53 : Int32 → Int32 → Int32 → Int32 → Int32 → Int32 → (Nat → Int32) → Option (Int32 × Int32 × Int32 × (Nat → Int32))) (m_hasFerry : Int32) (m_r : Nat → Int32) (m_st : Nat → Int32) (v2 : Int32) (v4 : Int32) (v5 : Int32) (v6 : Int32) (s1 : Int32) (s2 : Int32) (m_thrown : Int32) (m_trouble : Int32) (m_covers : Nat → Int32) : Option (Int32 × Int32 × Int32 × (Nat → Int32)) :=
  f_X11_refrain_124 k31 k53 m_hasFerry m_r m_st v2 v4 v5 v6 s1 s2 0 m_thrown m_trouble m_covers
def f_X11_refrain_53 (k31 : Int32 → Int32 → Int32 → Int32 → Int32 → (Nat → Int32) → Option (Int32 × Int32 × Int32 × (Nat → Int32))) (m_hasFerry : Int32) (m_r : Nat → Int32) (m_st : Nat → Int32) : Nat → Int32 → Int32 → Int32 → Int32 → Int32 → Int32 → (Nat → Int32) → Option (Int32 × Int32 × Int32 × (Nat → Int32))
  | 0, _, _, _, _, _, _, _ => none
  | n + 1, v2, v4, v5, v6, m_thrown, m_trouble, m_covers =>
   if (m_r (Int32.toNatClampNeg 3)) ≤ v6 then
    k31 v2 v4 (v5 + 1) m_thrown m_trouble m_covers
   else
    if rf_ib v5 10 = true then
    (f_X11_hasBit v4 v6).bind fun z76 =>
    if z76 = 0 then
     f_X11_refrain_123 k31 (f_X11_refrain_53 k31 m_hasFerry m_r m_st n) m_hasFerry m_r m_st v2 v4 v5 v6 v5 (m_covers (Int32.toNatClampNeg v5)) m_thrown m_trouble m_covers
    else
     (f_X11_kindOf m_r v6).bind fun z91 =>
     if rf_ib ((8 : Int32) + v6) 26 = true then
     (f_X11_earAt m_r v2).bind fun z106 =>
     (f_X11_rhymeOf m_r 0 ((1 : Int32) <<< (v5 &&& 31)) z91 (m_st (Int32.toNatClampNeg ((8 : Int32) + v6))) z106).bind fun z109 =>
     if z109 = 2 then
      f_X11_refrain_124 k31 (f_X11_refrain_53 k31 m_hasFerry m_r m_st n) m_hasFerry m_r m_st v2 v4 v5 v6 v5 (m_covers (Int32.toNatClampNeg v5)) ((1 : Int32) <<< (v6 &&& 31)) m_thrown m_trouble m_covers
     else
      f_X11_refrain_123 k31 (f_X11_refrain_53 k31 m_hasFerry m_r m_st n) m_hasFerry m_r m_st v2 v4 v5 v6 v5 (m_covers (Int32.toNatClampNeg v5)) m_thrown m_trouble m_covers
     else none
    else none
def f_X11_refrain_31 (m_hasFerry : Int32) (m_r : Nat → Int32) (m_st : Nat → Int32) : Nat → Int32 → Int32 → Int32 → Int32 → Int32 → (Nat → Int32) → Option (Int32 × Int32 × Int32 × (Nat → Int32))
  | 0, _, _, _, _, _, _ => none
  | n + 1, v2, v4, v5, m_thrown, m_trouble, m_covers =>
   if (m_r (Int32.toNatClampNeg 2)) ≤ v5 then
    f_X11_refrain_145 m_hasFerry m_r m_st rf_fu v4 (-2) 0 m_thrown m_trouble m_covers
   else
    if rf_ib v5 10 = true then
    f_X11_refrain_53 (f_X11_refrain_31 m_hasFerry m_r m_st n) m_hasFerry m_r m_st rf_fu v2 v4 v5 0 m_thrown m_trouble (upd m_covers (Int32.toNatClampNeg v5) 0)
    else none
def f_X11_refrain (m_hasFerry : Int32) (m_r : Nat → Int32) (m_st : Nat → Int32) (m_thrown : Int32) (m_trouble : Int32) (m_covers : Nat → Int32) (v1 : Int32) (v2 : Int32) : Option (Int32 × Int32 × Int32 × (Nat → Int32)) :=
  (f_X11_good m_thrown m_trouble).bind fun z1 =>
  (f_X11_bankWhy m_hasFerry v1 v2).bind fun z7 =>
  if z7 = 0 then
   (f_X11_onBank m_r m_st v1).bind fun z23 =>
   f_X11_refrain_31 m_hasFerry m_r m_st rf_fu v2 z23 0 z1.1 z1.2 m_covers
  else
   (f_X11_no z1.2 z7).bind fun z17 =>
   some (z17.1, z1.1, z17.2, m_covers)
def f_X11_heardSet_28 (k4 : Int32 → Int32 → Option (Int32)) (m_r : Nat → Int32) (m_st : Nat → Int32) (v2 : Int32) (s0 : Int32) (s1 : Int32) : Option (Int32) :=
  k4 (s0 ||| s1) (v2 + 1)
def f_X11_heardSet_4 (m_r : Nat → Int32) (m_st : Nat → Int32) : Nat → Int32 → Int32 → Option (Int32)
  | 0, _, _ => none
  | n + 1, v1, v2 =>
   if 6 < v2 then
    some v1
   else
    (f_X11_wrongGot m_r m_st v2).bind fun z13 =>
    if z13 = (-2) then
     f_X11_heardSet_28 (f_X11_heardSet_4 m_r m_st n) m_r m_st v2 v1 ((1 : Int32) <<< (v2 &&& 31))
    else
     f_X11_heardSet_28 (f_X11_heardSet_4 m_r m_st n) m_r m_st v2 v1 0
def f_X11_heardSet (m_r : Nat → Int32) (m_st : Nat → Int32) : Option (Int32) :=
  f_X11_heardSet_4 m_r m_st rf_fu 0 1
def f_X11_heard (m_hasFerry : Int32) (m_r : Nat → Int32) (m_st : Nat → Int32) (m_thrown : Int32) (m_trouble : Int32) : Option (Int32 × Int32 × Int32) :=
  (f_X11_good m_thrown m_trouble).bind fun z1 =>
  if m_hasFerry = 0 then
   (f_X11_no z1.2 1).bind fun z23 =>
   some (z23.1, z1.1, z23.2)
  else
   (f_X11_heardSet m_r m_st).bind fun z12 =>
   (f_X11_ones z12).bind fun z15 =>
   some (z15, z1.1, z1.2)
def f_X11_heardEar_49 (k22 : Int32 → Int32 → Int32 → Int32 → Int32 → Option (Int32 × Int32 × Int32)) (m_hasFerry : Int32) (m_r : Nat → Int32) (m_st : Nat → Int32) (v1 : Int32) (v2 : Int32) (v3 : Int32) (m_thrown : Int32) (m_trouble : Int32) : Option (Int32 × Int32 × Int32) :=
  k22 v1 v2 (v3 + 1) m_thrown m_trouble
def f_X11_heardEar_47 (k22 : Int32 → Int32 → Int32 → Int32 → Int32 → Option (Int32 × Int32 × Int32)) (m_hasFerry : Int32) (m_r : Nat → Int32) (m_st : Nat → Int32) (v1 : Int32) (v3 : Int32) (m_thrown : Int32) (m_trouble : Int32) : Option (Int32 × Int32 × Int32) :=
  f_X11_heardEar_49 k22 m_hasFerry m_r m_st v1 v3 v3 m_thrown m_trouble
def f_X11_heardEar_22 (m_hasFerry : Int32) (m_r : Nat → Int32) (m_st : Nat → Int32) : Nat → Int32 → Int32 → Int32 → Int32 → Int32 → Option (Int32 × Int32 × Int32)
  | 0, _, _, _, _, _ => none
  | n + 1, v1, v2, v3, m_thrown, m_trouble =>
   if 6 < v3 then
    some (v2, m_thrown, m_trouble)
   else
    (f_X11_heardSet m_r m_st).bind fun z29 =>
    (f_X11_hasBit z29 v3).bind fun z33 =>
    if z33 = 0 then
     f_X11_heardEar_49 (f_X11_heardEar_22 m_hasFerry m_r m_st n) m_hasFerry m_r m_st v1 v2 v3 m_thrown m_trouble
    else
     if v1 = 0 then
      if 0 ≤ v2 then
       f_X11_heardEar_49 (f_X11_heardEar_22 m_hasFerry m_r m_st n) m_hasFerry m_r m_st v1 v2 v3 m_thrown m_trouble
      else
       f_X11_heardEar_47 (f_X11_heardEar_22 m_hasFerry m_r m_st n) m_hasFerry m_r m_st v1 v3 m_thrown m_trouble
     else
      f_X11_heardEar_47 (f_X11_heardEar_22 m_hasFerry m_r m_st n) m_hasFerry m_r m_st v1 v3 m_thrown m_trouble
def f_X11_heardEar (m_hasFerry : Int32) (m_r : Nat → Int32) (m_st : Nat → Int32) (m_thrown : Int32) (m_trouble : Int32) (v1 : Int32) : Option (Int32 × Int32 × Int32) :=
  (f_X11_good m_thrown m_trouble).bind fun z1 =>
  if m_hasFerry = 0 then
   (f_X11_no z1.2 1).bind fun z13 =>
   some (z13.1, z1.1, z13.2)
  else
   f_X11_heardEar_22 m_hasFerry m_r m_st rf_fu v1 (-2) 1 z1.1 z1.2
def f_X11_leavesBy_77 (k6 : Int32 → Int32 → Int32 → Int32 → Int32 → Option (Int32)) (m_r : Nat → Int32) (m_st : Nat → Int32) (v1 : Int32) (v2 : Int32) (v3 : Int32) (v5 : Int32) (s0 : Int32) : Option (Int32) :=
  k6 v1 v2 v3 s0 (v5 + 1)
def f_X11_leavesBy_54 (k6 : Int32 → Int32 → Int32 → Int32 → Int32 → Option (Int32)) (k18 : Int32 → Int32 → Int32 → Int32 → Int32 → Int32 → Int32 → Option (Int32)) (m_r : Nat → Int32) (m_st : Nat → Int32) (v1 : Int32) (v2 : Int32) (v3 : Int32) (v4 : Int32) (v5 : Int32) (v7 : Int32) (s0 : Int32) (s1 : Int32) : Option (Int32) :=
  k18 v1 v2 v3 v4 v5 (s0 + s1) (v7 + 1)
def f_X11_leavesBy_53 (k6 : Int32 → Int32 → Int32 → Int32 → Int32 → Option (Int32)) (k18 : Int32 → Int32 → Int32 → Int32 → Int32 → Int32 → Int32 → Option (Int32)) (m_r : Nat → Int32) (m_st : Nat → Int32) (v1 : Int32) (v2 : Int32) (v3 : Int32) (v4 : Int32) (v5 : Int32) (v7 : Int32) (s0 : Int32) : Option (Int32) :=
  f_X11_leavesBy_54 k6 k18 m_r m_st v1 v2 v3 v4 v5 v7 s0 0
def f_X11_leavesBy_18 (k6 : Int32 → Int32 → Int32 → Int32 → Int32 → Option (Int32)) (m_r : Nat → Int32) (m_st : Nat → Int32) : Nat → Int32 → Int32 → Int32 → Int32 → Int32 → Int32 → Int32 → Option (Int32)
  | 0, _, _, _, _, _, _, _ => none
  | n + 1, v1, v2, v3, v4, v5, v6, v7 =>
   if 6 < v7 then
    if v6 ≤ v4 then
     f_X11_leavesBy_77 k6 m_r m_st v1 v2 v3 v5 v4
    else
     f_X11_leavesBy_77 k6 m_r m_st v1 v2 v3 v5 v6
   else
    (f_X11_hasBit v3 v7).bind fun z30 =>
    if z30 = 0 then
     f_X11_leavesBy_53 k6 (f_X11_leavesBy_18 k6 m_r m_st n) m_r m_st v1 v2 v3 v4 v5 v7 v6
    else
     (f_X11_rhymeNow m_r m_st v1 v2 v7).bind fun z41 =>
     if z41 = v5 then
      f_X11_leavesBy_54 k6 (f_X11_leavesBy_18 k6 m_r m_st n) m_r m_st v1 v2 v3 v4 v5 v7 v6 1
     else
      f_X11_leavesBy_53 k6 (f_X11_leavesBy_18 k6 m_r m_st n) m_r m_st v1 v2 v3 v4 v5 v7 v6
def f_X11_leavesBy_6 (m_r : Nat → Int32) (m_st : Nat → Int32) : Nat → Int32 → Int32 → Int32 → Int32 → Int32 → Option (Int32)
  | 0, _, _, _, _, _ => none
  | n + 1, v1, v2, v3, v4, v5 =>
   if 2 < v5 then
    some v4
   else
    f_X11_leavesBy_18 (f_X11_leavesBy_6 m_r m_st n) m_r m_st rf_fu v1 v2 v3 v4 v5 0 1
def f_X11_leavesBy (m_r : Nat → Int32) (m_st : Nat → Int32) (v1 : Int32) (v2 : Int32) (v3 : Int32) : Option (Int32) :=
  f_X11_leavesBy_6 m_r m_st rf_fu v1 v2 v3 0 0
def f_X11_askOf_98 (m_r : Nat → Int32) (m_st : Nat → Int32) (v2 : Int32) (m_leftThen : Int32) : Option (Int32 × Int32) :=
  some (v2, m_leftThen)
def f_X11_askOf_86 (k16 : Int32 → Int32 → Int32 → Int32 → Option (Int32 × Int32)) (k35 : Int32 → Int32 → Int32 → Int32 → Int32 → Option (Int32 × Int32)) (m_r : Nat → Int32) (m_st : Nat → Int32) (v1 : Int32) (v2 : Int32) (v3 : Int32) (v4 : Int32) (m_leftThen : Int32) : Option (Int32 × Int32) :=
  k35 v1 v2 v3 (v4 + 1) m_leftThen
def f_X11_askOf_72 (k16 : Int32 → Int32 → Int32 → Int32 → Option (Int32 × Int32)) (k35 : Int32 → Int32 → Int32 → Int32 → Int32 → Option (Int32 × Int32)) (m_r : Nat → Int32) (m_st : Nat → Int32) (v1 : Int32) (v3 : Int32) (v4 : Int32) (v5 : Int32) (m_leftThen : Int32) : Option (Int32 × Int32) :=
  f_X11_askOf_86 k16 k35 m_r m_st v1 (((10 : Int32) * v3) + v4) v3 v4 v5
def f_X11_askOf_35 (k16 : Int32 → Int32 → Int32 → Int32 → Option (Int32 × Int32)) (m_r : Nat → Int32) (m_st : Nat → Int32) : Nat → Int32 → Int32 → Int32 → Int32 → Int32 → Option (Int32 × Int32)
  | 0, _, _, _, _, _ => none
  | n + 1, v1, v2, v3, v4, m_leftThen =>
   if (m_r (Int32.toNatClampNeg 3)) ≤ v4 then
    k16 v1 v2 (v3 + 1) m_leftThen
   else
    (f_X11_leavesBy m_r m_st v3 v4 v1).bind fun z51 =>
    if v2 < 0 then
     f_X11_askOf_72 k16 (f_X11_askOf_35 k16 m_r m_st n) m_r m_st v1 v3 v4 z51 m_leftThen
    else
     if z51 < m_leftThen then
      f_X11_askOf_72 k16 (f_X11_askOf_35 k16 m_r m_st n) m_r m_st v1 v3 v4 z51 m_leftThen
     else
      f_X11_askOf_86 k16 (f_X11_askOf_35 k16 m_r m_st n) m_r m_st v1 v2 v3 v4 m_leftThen
def f_X11_askOf_16 (m_r : Nat → Int32) (m_st : Nat → Int32) : Nat → Int32 → Int32 → Int32 → Int32 → Option (Int32 × Int32)
  | 0, _, _, _, _ => none
  | n + 1, v1, v2, v3, m_leftThen =>
   if (m_r (Int32.toNatClampNeg 3)) ≤ v3 then
    f_X11_askOf_98 m_r m_st v2 m_leftThen
   else
    if v1 = 0 then
     f_X11_askOf_98 m_r m_st v2 m_leftThen
    else
     f_X11_askOf_35 (f_X11_askOf_16 m_r m_st n) m_r m_st rf_fu v1 v2 v3 (v3 + 1) m_leftThen
def f_X11_askOf (m_r : Nat → Int32) (m_st : Nat → Int32) (m_leftThen : Int32) : Option (Int32 × Int32) :=
  (f_X11_heardSet m_r m_st).bind fun z1 =>
  f_X11_askOf_16 m_r m_st rf_fu z1 (-2) 0 (-2)
def f_X11_ask (m_hasFerry : Int32) (m_r : Nat → Int32) (m_st : Nat → Int32) (m_thrown : Int32) (m_trouble : Int32) (m_leftThen : Int32) : Option (Int32 × Int32 × Int32 × Int32) :=
  (f_X11_good m_thrown m_trouble).bind fun z1 =>
  if m_hasFerry = 0 then
   (f_X11_no z1.2 1).bind fun z20 =>
   some (z20.1, z1.1, z20.2, m_leftThen)
  else
   (f_X11_askOf m_r m_st m_leftThen).bind fun z12 =>
   some (z12.1, z1.1, z1.2, z12.2)
def f_X11_askLeaves (m_hasFerry : Int32) (m_r : Nat → Int32) (m_st : Nat → Int32) (m_thrown : Int32) (m_trouble : Int32) (m_leftThen : Int32) : Option (Int32 × Int32 × Int32 × Int32) :=
  (f_X11_good m_thrown m_trouble).bind fun z1 =>
  if m_hasFerry = 0 then
   (f_X11_no z1.2 1).bind fun z13 =>
   some (z13.1, z1.1, z13.2, m_leftThen)
  else
   (f_X11_askOf m_r m_st m_leftThen).bind fun z18 =>
   some (z18.2, z1.1, z1.2, z18.2)
def f_X11_layBuyers_197 (k33 : Int32 → Int32 → Int32 → Int32 → Int32 → Int32 → Int32 → Int32 → Int32 → (Nat → Int32) → Option (Int32 × Int32 × Int32 × (Nat → Int32))) (m_r : Nat → Int32) (m_st : Nat → Int32) (v1 : Int32) (v2 : Int32) (v3 : Int32) (v4 : Int32) (v5 : Int32) (v6 : Int32) (m_onlyOne : Int32) (m_onlyOther : Int32) (m_either : Int32) (m_can : Nat → Int32) : Option (Int32 × Int32 × Int32 × (Nat → Int32)) :=
  k33 v1 v2 v3 v4 v5 (v6 + 1) m_onlyOne m_onlyOther m_either m_can
def f_X11_layBuyers_193 (k33 : Int32 → Int32 → Int32 → Int32 → Int32 → Int32 → Int32 → Int32 → Int32 → (Nat → Int32) → Option (Int32 × Int32 × Int32 × (Nat → Int32))) (m_r : Nat → Int32) (m_st : Nat → Int32) (v1 : Int32) (v2 : Int32) (v3 : Int32) (v4 : Int32) (v5 : Int32) (v6 : Int32) (s1 : Int32) (s2 : Int32) (m_onlyOne : Int32) (m_onlyOther : Int32) (m_either : Int32) (m_can : Nat → Int32) : Option (Int32 × Int32 × Int32 × (Nat → Int32)) :=
  f_X11_layBuyers_197 k33 m_r m_st v1 v2 v3 v4 v5 v6 m_onlyOne (s1 + s2) m_either m_can
def f_X11_layBuyers_192 (k33 : Int32 → Int32 → Int32 → Int32 → Int32 → Int32 → Int32 → Int32 → Int32 → (Nat → Int32) → Option (Int32 × Int32 × Int32 × (Nat → Int32))) (m_r : Nat → Int32) (m_st : Nat → Int32) (v1 : Int32) (v2 : Int32) (v3 : Int32) (v4 : Int32) (v5 : Int32) (v6 : Int32) (s1 : Int32) (m_onlyOne : Int32) (m_onlyOther : Int32) (m_either : Int32) (m_can : Nat → Int32) : Option (Int32 × Int32 × Int32 × (Nat → Int32)) :=
  f_X11_layBuyers_193 k33 m_r m_st v1 v2 v3 v4 v5 v6 s1 0 m_onlyOne m_onlyOther m_either m_can
def f_X11_layBuyers_169 (k33 : Int32 → Int32 → Int32 → Int32 → Int32 → Int32 → Int32 → Int32 → Int32 → (Nat → Int32) → Option (Int32 × Int32 × Int32 × (Nat → Int32))) (m_r : Nat → Int32) (m_st : Nat → Int32) (v1 : Int32) (v2 : Int32) (v3 : Int32) (v4 : Int32) (v5 : Int32) (v6 : Int32) (v7 : Int32) (v8 : Int32) (s1 : Int32) (s2 : Int32) (m_onlyOne : Int32) (m_onlyOther : Int32) (m_either : Int32) (m_can : Nat → Int32) : Option (Int32 × Int32 × Int32 × (Nat → Int32)) :=
  if v8 = 0 then
   f_X11_layBuyers_192 k33 m_r m_st v1 v2 v3 v4 v5 v6 m_onlyOther (s1 + s2) m_onlyOther m_either m_can
  else
   if v7 = 0 then
    f_X11_layBuyers_193 k33 m_r m_st v1 v2 v3 v4 v5 v6 m_onlyOther 1 (s1 + s2) m_onlyOther m_either m_can
   else
    f_X11_layBuyers_192 k33 m_r m_st v1 v2 v3 v4 v5 v6 m_onlyOther (s1 + s2) m_onlyOther m_either m_can
def f_X11_layBuyers_168 (k33 : Int32 → Int32 → Int32 → Int32 → Int32 → Int32 → Int32 → Int32 → Int32 → (Nat → Int32) → Option (Int32 × Int32 × Int32 × (Nat → Int32))) (m_r : Nat → Int32) (m_st : Nat → Int32) (v1 : Int32) (v2 : Int32) (v3 : Int32) (v4 : Int32) (v5 : Int32) (v6 : Int32) (v7 : Int32) (v8 : Int32) (s1 : Int32) (m_onlyOne : Int32) (m_onlyOther : Int32) (m_either : Int32) (m_can : Nat → Int32) : Option (Int32 × Int32 × Int32 × (Nat → Int32)) :=
  f_X11_layBuyers_169 k33 m_r m_st v1 v2 v3 v4 v5 v6 v7 v8 s1 0 m_onlyOne m_onlyOther m_either m_can
def f_X11_layBuyers_145 (k33 : Int32 → Int32 → Int32 → Int32 → Int32 → Int32 → Int32 → Int32 → Int32 → (Nat → Int32) → Option (Int32 × Int32 × Int32 × (Nat → Int32))) (m_r : Nat → Int32) (m_st : Nat → Int32) (v1 : Int32) (v2 : Int32) (v3 : Int32) (v4 : Int32) (v5 : Int32) (v6 : Int32) (v7 : Int32) (v8 : Int32) (s1 : Int32) (s2 : Int32) (m_onlyOne : Int32) (m_onlyOther : Int32) (m_either : Int32) (m_can : Nat → Int32) : Option (Int32 × Int32 × Int32 × (Nat → Int32)) :=
  if v7 = 0 then
   f_X11_layBuyers_168 k33 m_r m_st v1 v2 v3 v4 v5 v6 v7 v8 m_onlyOne m_onlyOne m_onlyOther (s1 + s2) m_can
  else
   if v8 = 0 then
    f_X11_layBuyers_169 k33 m_r m_st v1 v2 v3 v4 v5 v6 v7 v8 m_onlyOne 1 m_onlyOne m_onlyOther (s1 + s2) m_can
   else
    f_X11_layBuyers_168 k33 m_r m_st v1 v2 v3 v4 v5 v6 v7 v8 m_onlyOne m_onlyOne m_onlyOther (s1 + s2) m_can
def f_X11_layBuyers_144 (k33 : Int32 → Int32 → Int32 → Int32 → Int32 → Int32 → Int32 → Int32 → Int32 → (Nat → Int32) → Option (Int32 × Int32 × Int32 × (Nat → Int32))) (m_r : Nat → Int32) (m_st : Nat → Int32) (v1 : Int32) (v2 : Int32) (v3 : Int32) (v4 : Int32) (v5 : Int32) (v6 : Int32) (v7 : Int32) (v8 : Int32) (s1 : Int32) (m_onlyOne : Int32) (m_onlyOther : Int32) (m_either : Int32) (m_can : Nat → Int32) : Option (Int32 × Int32 × Int32 × (Nat → Int32)) :=
  f_X11_layBuyers_145 k33 m_r m_st v1 v2 v3 v4 v5 v6 v7 v8 s1 0 m_onlyOne m_onlyOther m_either m_can
def f_X11_layBuyers_123 (k33 : Int32 → Int32 → Int32 → Int32 → Int32 → Int32 → Int32 → Int32 → Int32 → (Nat → Int32) → Option (Int32 × Int32 × Int32 × (Nat → Int32))) (m_r : Nat → Int32) (m_st : Nat → Int32) (v1 : Int32) (v2 : Int32) (v3 : Int32) (v4 : Int32) (v5 : Int32) (v6 : Int32) (v7 : Int32) (s0 : Int32) (m_onlyOne : Int32) (m_onlyOther : Int32) (m_either : Int32) (m_can : Nat → Int32) : Option (Int32 × Int32 × Int32 × (Nat → Int32)) :=
  if v7 = 0 then
   f_X11_layBuyers_144 k33 m_r m_st v1 v2 v3 v4 v5 v6 v7 s0 m_either m_onlyOne m_onlyOther m_either m_can
  else
   if s0 = 0 then
    f_X11_layBuyers_144 k33 m_r m_st v1 v2 v3 v4 v5 v6 v7 s0 m_either m_onlyOne m_onlyOther m_either m_can
   else
    f_X11_layBuyers_145 k33 m_r m_st v1 v2 v3 v4 v5 v6 v7 s0 m_either 1 m_onlyOne m_onlyOther m_either m_can
def f_X11_layBuyers_89 (k33 : Int32 → Int32 → Int32 → Int32 → Int32 → Int32 → Int32 → Int32 → Int32 → (Nat → Int32) → Option (Int32 × Int32 × Int32 × (Nat → Int32))) (m_r : Nat → Int32) (m_st : Nat → Int32) (v1 : Int32) (v2 : Int32) (v3 : Int32) (v4 : Int32) (v5 : Int32) (v6 : Int32) (s0 : Int32) (m_onlyOne : Int32) (m_onlyOther : Int32) (m_either : Int32) (m_can : Nat → Int32) : Option (Int32 × Int32 × Int32 × (Nat → Int32)) :=
  if rf_ib ((8 : Int32) + v6) 26 = true then
  (f_X11_withBy m_r m_st v6 ((m_st (Int32.toNatClampNeg ((8 : Int32) + v6))) ||| ((1 : Int32) <<< (v2 &&& 31))) v3).bind fun z109 =>
  if (z109 &&& v4) = 0 then
   f_X11_layBuyers_123 k33 m_r m_st v1 v2 v3 v4 v5 v6 s0 0 m_onlyOne m_onlyOther m_either m_can
  else
   f_X11_layBuyers_123 k33 m_r m_st v1 v2 v3 v4 v5 v6 s0 1 m_onlyOne m_onlyOther m_either m_can
  else none
def f_X11_layBuyers_33 (m_r : Nat → Int32) (m_st : Nat → Int32) : Nat → Int32 → Int32 → Int32 → Int32 → Int32 → Int32 → Int32 → Int32 → Int32 → (Nat → Int32) → Option (Int32 × Int32 × Int32 × (Nat → Int32))
  | 0, _, _, _, _, _, _, _, _, _, _ => none
  | n + 1, v1, v2, v3, v4, v5, v6, m_onlyOne, m_onlyOther, m_either, m_can =>
   if (m_r (Int32.toNatClampNeg 3)) ≤ v6 then
    some (m_onlyOne, m_onlyOther, m_either, m_can)
   else
    (f_X11_hasBit v5 v6).bind fun z48 =>
    if z48 = 0 then
     f_X11_layBuyers_197 (f_X11_layBuyers_33 m_r m_st n) m_r m_st v1 v2 v3 v4 v5 v6 m_onlyOne m_onlyOther m_either m_can
    else
     if rf_ib ((8 : Int32) + v6) 26 = true then
     (f_X11_withBy m_r m_st v6 ((m_st (Int32.toNatClampNeg ((8 : Int32) + v6))) ||| ((1 : Int32) <<< (v1 &&& 31))) v3).bind fun z75 =>
     if (z75 &&& v4) = 0 then
      f_X11_layBuyers_89 (f_X11_layBuyers_33 m_r m_st n) m_r m_st v1 v2 v3 v4 v5 v6 0 m_onlyOne m_onlyOther m_either m_can
     else
      f_X11_layBuyers_89 (f_X11_layBuyers_33 m_r m_st n) m_r m_st v1 v2 v3 v4 v5 v6 1 m_onlyOne m_onlyOther m_either m_can
     else none
def f_X11_layBuyers (m_r : Nat → Int32) (m_st : Nat → Int32) (m_onlyOne : Int32) (m_onlyOther : Int32) (m_either : Int32) (m_can : Nat → Int32) (v1 : Int32) (v2 : Int32) (v3 : Int32) : Option (Int32 × Int32 × Int32 × (Nat → Int32)) :=
  (f_X11_onBank m_r m_st 0).bind fun z17 =>
  (f_X11_aloneBy m_r m_st m_can 0 v3).bind fun z25 =>
  f_X11_layBuyers_33 m_r m_st rf_fu v1 v2 v3 z17 z25.1 0 0 0 0 z25.2
def f_X11_sellersWhy_27 (m_hasFerry : Int32) (m_r : Nat → Int32) (v3 : Int32) (s1 : Int32) : Option (Int32) :=
  (f_X11_why s1 v3).bind fun z28 =>
  some z28
def f_X11_sellersWhy_26 (m_hasFerry : Int32) (m_r : Nat → Int32) (v3 : Int32) : Option (Int32) :=
  f_X11_sellersWhy_27 m_hasFerry m_r v3 0
def f_X11_sellersWhy (m_hasFerry : Int32) (m_r : Nat → Int32) (v1 : Int32) (v2 : Int32) (v3 : Int32) : Option (Int32) :=
  (f_X11_isWordThere m_hasFerry m_r v1).bind fun z3 =>
  if z3 = 0 then
   f_X11_sellersWhy_26 m_hasFerry m_r v3
  else
   (f_X11_isWordThere m_hasFerry m_r v2).bind fun z11 =>
   if z11 = 0 then
    f_X11_sellersWhy_26 m_hasFerry m_r v3
   else
    if v1 = v2 then
     f_X11_sellersWhy_26 m_hasFerry m_r v3
    else
     f_X11_sellersWhy_27 m_hasFerry m_r v3 1
def f_X11_sellsOf_45 (m_onlyOne : Int32) (m_onlyOther : Int32) (m_either : Int32) (s0 : Int32) (s1 : Int32) (s2 : Int32) : Option (Int32) :=
  some (s0 * (s1 + s2))
def f_X11_sellsOf_22 (m_onlyOne : Int32) (m_onlyOther : Int32) (m_either : Int32) (s0 : Int32) (s1 : Int32) (s2 : Int32) : Option (Int32) :=
  some (s0 * (s1 + s2))
def f_X11_sellsOf (m_onlyOne : Int32) (m_onlyOther : Int32) (m_either : Int32) (v1 : Int32) (v2 : Int32) (v3 : Int32) : Option (Int32) :=
  if v3 = 0 then
   if v2 < v1 then
    f_X11_sellsOf_45 m_onlyOne m_onlyOther m_either v1 m_onlyOne 0
   else
    f_X11_sellsOf_45 m_onlyOne m_onlyOther m_either v1 m_onlyOne m_either
  else
   if v1 ≤ v2 then
    f_X11_sellsOf_22 m_onlyOne m_onlyOther m_either v2 m_onlyOther 0
   else
    f_X11_sellsOf_22 m_onlyOne m_onlyOther m_either v2 m_onlyOther m_either
def f_X11_sells_43 (m_hasFerry : Int32) (m_r : Nat → Int32) (m_st : Nat → Int32) (v1 : Int32) (v2 : Int32) (v3 : Int32) (v4 : Int32) (v5 : Int32) (v6 : Int32) (v7 : Int32) (m_thrown : Int32) (m_trouble : Int32) (m_onlyOne : Int32) (m_onlyOther : Int32) (m_either : Int32) (m_can : Nat → Int32) : Option (Int32 × Int32 × Int32 × Int32 × Int32 × Int32 × (Nat → Int32)) :=
  if v7 = 0 then
   (f_X11_earAt m_r v5).bind fun z61 =>
   (f_X11_layBuyers m_r m_st m_onlyOne m_onlyOther m_either m_can v1 v3 z61).bind fun z64 =>
   (f_X11_sellsOf z64.1 z64.2.1 z64.2.2.1 v2 v4 v6).bind fun z73 =>
   some (z73, m_thrown, m_trouble, z64.1, z64.2.1, z64.2.2.1, z64.2.2.2)
  else
   (f_X11_no m_trouble v7).bind fun z51 =>
   some (z51.1, m_thrown, z51.2, m_onlyOne, m_onlyOther, m_either, m_can)
def f_X11_sells_40 (m_hasFerry : Int32) (m_r : Nat → Int32) (m_st : Nat → Int32) (v1 : Int32) (v2 : Int32) (v3 : Int32) (v4 : Int32) (v5 : Int32) (v6 : Int32) (m_thrown : Int32) (m_trouble : Int32) (m_onlyOne : Int32) (m_onlyOther : Int32) (m_either : Int32) (m_can : Nat → Int32) : Option (Int32 × Int32 × Int32 × Int32 × Int32 × Int32 × (Nat → Int32)) :=
  f_X11_sells_43 m_hasFerry m_r m_st v1 v2 v3 v4 v5 v6 2 m_thrown m_trouble m_onlyOne m_onlyOther m_either m_can
def f_X11_sells (m_hasFerry : Int32) (m_r : Nat → Int32) (m_st : Nat → Int32) (m_thrown : Int32) (m_trouble : Int32) (m_onlyOne : Int32) (m_onlyOther : Int32) (m_either : Int32) (m_can : Nat → Int32) (v1 : Int32) (v2 : Int32) (v3 : Int32) (v4 : Int32) (v5 : Int32) (v6 : Int32) : Option (Int32 × Int32 × Int32 × Int32 × Int32 × Int32 × (Nat → Int32)) :=
  (f_X11_good m_thrown m_trouble).bind fun z1 =>
  (f_X11_sellersWhy m_hasFerry m_r v1 v3 v5).bind fun z9 =>
  if z9 = 0 then
   (f_X11_in v2 0 9).bind fun z23 =>
   if z23 = 0 then
    f_X11_sells_40 m_hasFerry m_r m_st v1 v2 v3 v4 v5 v6 z1.1 z1.2 m_onlyOne m_onlyOther m_either m_can
   else
    (f_X11_in v4 0 9).bind fun z34 =>
    if z34 = 0 then
     f_X11_sells_40 m_hasFerry m_r m_st v1 v2 v3 v4 v5 v6 z1.1 z1.2 m_onlyOne m_onlyOther m_either m_can
    else
     f_X11_sells_43 m_hasFerry m_r m_st v1 v2 v3 v4 v5 v6 z9 z1.1 z1.2 m_onlyOne m_onlyOther m_either m_can
  else
   f_X11_sells_43 m_hasFerry m_r m_st v1 v2 v3 v4 v5 v6 z9 z1.1 z1.2 m_onlyOne m_onlyOther m_either m_can
def f_X11_isRest_57 (k5 : Int32 → Int32 → Int32 → Int32 → Option (Int32)) (m_onlyOne : Int32) (m_onlyOther : Int32) (m_either : Int32) (v1 : Int32) (v2 : Int32) (v4 : Int32) (s0 : Int32) : Option (Int32) :=
  k5 v1 v2 s0 (v4 + 1)
def f_X11_isRest_56 (k5 : Int32 → Int32 → Int32 → Int32 → Option (Int32)) (m_onlyOne : Int32) (m_onlyOther : Int32) (m_either : Int32) (v1 : Int32) (v2 : Int32) (v4 : Int32) : Option (Int32) :=
  f_X11_isRest_57 k5 m_onlyOne m_onlyOther m_either v1 v2 v4 0
def f_X11_isRest_5 (m_onlyOne : Int32) (m_onlyOther : Int32) (m_either : Int32) : Nat → Int32 → Int32 → Int32 → Int32 → Option (Int32)
  | 0, _, _, _, _ => none
  | n + 1, v1, v2, v3, v4 =>
   if 9 < v4 then
    if rf_zb v3 = true then
    some v3
    else none
   else
    if v3 = 0 then
     f_X11_isRest_56 (f_X11_isRest_5 m_onlyOne m_onlyOther m_either n) m_onlyOne m_onlyOther m_either v1 v2 v4
    else
     (f_X11_sellsOf m_onlyOne m_onlyOther m_either v4 v2 0).bind fun z21 =>
     (f_X11_sellsOf m_onlyOne m_onlyOther m_either v1 v2 0).bind fun z28 =>
     if z28 < z21 then
      f_X11_isRest_56 (f_X11_isRest_5 m_onlyOne m_onlyOther m_either n) m_onlyOne m_onlyOther m_either v1 v2 v4
     else
      (f_X11_sellsOf m_onlyOne m_onlyOther m_either v1 v4 1).bind fun z39 =>
      (f_X11_sellsOf m_onlyOne m_onlyOther m_either v1 v2 1).bind fun z46 =>
      if z46 < z39 then
       f_X11_isRest_56 (f_X11_isRest_5 m_onlyOne m_onlyOther m_either n) m_onlyOne m_onlyOther m_either v1 v2 v4
      else
       f_X11_isRest_57 (f_X11_isRest_5 m_onlyOne m_onlyOther m_either n) m_onlyOne m_onlyOther m_either v1 v2 v4 1
def f_X11_isRest (m_onlyOne : Int32) (m_onlyOther : Int32) (m_either : Int32) (v1 : Int32) (v2 : Int32) : Option (Int32) :=
  f_X11_isRest_5 m_onlyOne m_onlyOther m_either rf_fu v1 v2 1 0
def f_X11_seekRests_70 (k19 : Int32 → Int32 → Int32 → Int32 → Int32 → Int32 → (Nat → Int32) → Option (Int32 × Int32 × Int32 × Int32 × Int32 × (Nat → Int32))) (k29 : Int32 → Int32 → Int32 → Int32 → Int32 → Int32 → Int32 → (Nat → Int32) → Option (Int32 × Int32 × Int32 × Int32 × Int32 × (Nat → Int32))) (m_r : Nat → Int32) (m_st : Nat → Int32) (v4 : Int32) (v5 : Int32) (v6 : Int32) (m_onlyOne : Int32) (m_onlyOther : Int32) (m_either : Int32) (m_firstRest : Int32) (m_can : Nat → Int32) : Option (Int32 × Int32 × Int32 × Int32 × Int32 × (Nat → Int32)) :=
  k29 v4 v5 (v6 + 1) m_onlyOne m_onlyOther m_either m_firstRest m_can
def f_X11_seekRests_67 (k19 : Int32 → Int32 → Int32 → Int32 → Int32 → Int32 → (Nat → Int32) → Option (Int32 × Int32 × Int32 × Int32 × Int32 × (Nat → Int32))) (k29 : Int32 → Int32 → Int32 → Int32 → Int32 → Int32 → Int32 → (Nat → Int32) → Option (Int32 × Int32 × Int32 × Int32 × Int32 × (Nat → Int32))) (m_r : Nat → Int32) (m_st : Nat → Int32) (v4 : Int32) (v5 : Int32) (v6 : Int32) (m_onlyOne : Int32) (m_onlyOther : Int32) (m_either : Int32) (m_firstRest : Int32) (m_can : Nat → Int32) : Option (Int32 × Int32 × Int32 × Int32 × Int32 × (Nat → Int32)) :=
  f_X11_seekRests_70 k19 k29 m_r m_st (v4 + 1) v5 v6 m_onlyOne m_onlyOther m_either m_firstRest m_can
def f_X11_seekRests_29 (k19 : Int32 → Int32 → Int32 → Int32 → Int32 → Int32 → (Nat → Int32) → Option (Int32 × Int32 × Int32 × Int32 × Int32 × (Nat → Int32))) (m_r : Nat → Int32) (m_st : Nat → Int32) : Nat → Int32 → Int32 → Int32 → Int32 → Int32 → Int32 → Int32 → (Nat → Int32) → Option (Int32 × Int32 × Int32 × Int32 × Int32 × (Nat → Int32))
  | 0, _, _, _, _, _, _, _, _ => none
  | n + 1, v4, v5, v6, m_onlyOne, m_onlyOther, m_either, m_firstRest, m_can =>
   if 9 < v6 then
    k19 v4 (v5 + 1) m_onlyOne m_onlyOther m_either m_firstRest m_can
   else
    (f_X11_isRest m_onlyOne m_onlyOther m_either v5 v6).bind fun z41 =>
    if z41 = 0 then
     f_X11_seekRests_70 k19 (f_X11_seekRests_29 k19 m_r m_st n) m_r m_st v4 v5 v6 m_onlyOne m_onlyOther m_either m_firstRest m_can
    else
     if v4 = 0 then
      f_X11_seekRests_67 k19 (f_X11_seekRests_29 k19 m_r m_st n) m_r m_st v4 v5 v6 m_onlyOne m_onlyOther m_either (((10 : Int32) * v5) + v6) m_can
     else
      f_X11_seekRests_67 k19 (f_X11_seekRests_29 k19 m_r m_st n) m_r m_st v4 v5 v6 m_onlyOne m_onlyOther m_either m_firstRest m_can
def f_X11_seekRests_19 (m_r : Nat → Int32) (m_st : Nat → Int32) : Nat → Int32 → Int32 → Int32 → Int32 → Int32 → Int32 → (Nat → Int32) → Option (Int32 × Int32 × Int32 × Int32 × Int32 × (Nat → Int32))
  | 0, _, _, _, _, _, _, _ => none
  | n + 1, v4, v5, m_onlyOne, m_onlyOther, m_either, m_firstRest, m_can =>
   if 9 < v5 then
    some (v4, m_onlyOne, m_onlyOther, m_either, m_firstRest, m_can)
   else
    f_X11_seekRests_29 (f_X11_seekRests_19 m_r m_st n) m_r m_st rf_fu v4 v5 0 m_onlyOne m_onlyOther m_either m_firstRest m_can
def f_X11_seekRests (m_r : Nat → Int32) (m_st : Nat → Int32) (m_onlyOne : Int32) (m_onlyOther : Int32) (m_either : Int32) (m_firstRest : Int32) (m_can : Nat → Int32) (v1 : Int32) (v2 : Int32) (v3 : Int32) : Option (Int32 × Int32 × Int32 × Int32 × Int32 × (Nat → Int32)) :=
  (f_X11_layBuyers m_r m_st m_onlyOne m_onlyOther m_either m_can v1 v2 v3).bind fun z4 =>
  f_X11_seekRests_19 m_r m_st rf_fu 0 0 z4.1 z4.2.1 z4.2.2.1 (-2) z4.2.2.2
def f_X11_rests (m_hasFerry : Int32) (m_r : Nat → Int32) (m_st : Nat → Int32) (m_thrown : Int32) (m_trouble : Int32) (m_onlyOne : Int32) (m_onlyOther : Int32) (m_either : Int32) (m_firstRest : Int32) (m_can : Nat → Int32) (v1 : Int32) (v2 : Int32) (v3 : Int32) : Option (Int32 × Int32 × Int32 × Int32 × Int32 × Int32 × Int32 × (Nat → Int32)) :=
  (f_X11_good m_thrown m_trouble).bind fun z1 =>
  (f_X11_sellersWhy m_hasFerry m_r v1 v2 v3).bind fun z8 =>
  if z8 = 0 then
   (f_X11_earAt m_r v3).bind fun z32 =>
   (f_X11_seekRests m_r m_st m_onlyOne m_onlyOther m_either m_firstRest m_can v1 v2 z32).bind fun z35 =>
   some (z35.1, z1.1, z1.2, z35.2.1, z35.2.2.1, z35.2.2.2.1, z35.2.2.2.2.1, z35.2.2.2.2.2)
  else
   (f_X11_no z1.2 z8).bind fun z21 =>
   some (z21.1, z1.1, z21.2, m_onlyOne, m_onlyOther, m_either, m_firstRest, m_can)
def f_X11_rest (m_hasFerry : Int32) (m_r : Nat → Int32) (m_st : Nat → Int32) (m_thrown : Int32) (m_trouble : Int32) (m_onlyOne : Int32) (m_onlyOther : Int32) (m_either : Int32) (m_firstRest : Int32) (m_can : Nat → Int32) (v1 : Int32) (v2 : Int32) (v3 : Int32) : Option (Int32 × Int32 × Int32 × Int32 × Int32 × Int32 × Int32 × (Nat → Int32)) :=
  (f_X11_good m_thrown m_trouble).bind fun z1 =>
  (f_X11_sellersWhy m_hasFerry m_r v1 v2 v3).bind fun z8 =>
  if z8 = 0 then
   (f_X11_earAt m_r v3).bind fun z30 =>
   (f_X11_seekRests m_r m_st m_onlyOne m_onlyOther m_either m_firstRest m_can v1 v2 z30).bind fun z33 =>
   some (z33.2.2.2.2.1, z1.1, z1.2, z33.2.1, z33.2.2.1, z33.2.2.2.1, z33.2.2.2.2.1, z33.2.2.2.2.2)
  else
   (f_X11_no z1.2 z8).bind fun z21 =>
   some (z21.1, z1.1, z21.2, m_onlyOne, m_onlyOther, m_either, m_firstRest, m_can)
def f_X11_dayWhy_33 : Option (Int32) :=
  some 2
def f_X11_dayWhy (v1 : Int32) (v2 : Int32) (v3 : Int32) : Option (Int32) :=
  if v1 = 0 then
   some 1
  else
   (f_X11_in v2 0 65536).bind fun z13 =>
   if z13 = 0 then
    f_X11_dayWhy_33
   else
    (f_X11_in v3 0 24).bind fun z23 =>
    if z23 = 0 then
     f_X11_dayWhy_33
    else
     some 0
def f_X11_goThrough_202 (k40 : Int32 → Int32 → Int32 → Int32 → Int32 → Int32 → (Nat → Int32) → (Nat → Int32) → (Nat → Int32) → (Nat → Int32) → Option (Int32 × Int32 × (Nat → Int32) × (Nat → Int32) × (Nat → Int32) × (Nat → Int32))) (m_r : Nat → Int32) (m_st : Nat → Int32) (v2 : Int32) (v3 : Int32) (v4 : Int32) (v5 : Int32) (v6 : Int32) (v8 : Int32) (m_bestMany : Int32) (m_can : Nat → Int32) (m_now : Nat → Int32) (m_best : Nat → Int32) (m_hourOf : Nat → Int32) : Option (Int32 × Int32 × (Nat → Int32) × (Nat → Int32) × (Nat → Int32) × (Nat → Int32)) :=
  k40 v2 v3 v4 (v5 + ((2 : Int32) * v8)) (v6 + 1) m_bestMany m_can m_now m_best m_hourOf
def f_X11_goThrough_196 (k40 : Int32 → Int32 → Int32 → Int32 → Int32 → Int32 → (Nat → Int32) → (Nat → Int32) → (Nat → Int32) → (Nat → Int32) → Option (Int32 × Int32 × (Nat → Int32) × (Nat → Int32) × (Nat → Int32) × (Nat → Int32))) (k108 : Int32 → Int32 → Int32 → Int32 → Int32 → Int32 → Int32 → Int32 → (Nat → Int32) → (Nat → Int32) → (Nat → Int32) → (Nat → Int32) → Option (Int32 × Int32 × (Nat → Int32) × (Nat → Int32) × (Nat → Int32) × (Nat → Int32))) (m_r : Nat → Int32) (m_st : Nat → Int32) (v2 : Int32) (v3 : Int32) (v4 : Int32) (v5 : Int32) (v6 : Int32) (v8 : Int32) (v9 : Int32) (m_bestMany : Int32) (m_can : Nat → Int32) (m_now : Nat → Int32) (m_best : Nat → Int32) (m_hourOf : Nat → Int32) : Option (Int32 × Int32 × (Nat → Int32) × (Nat → Int32) × (Nat → Int32) × (Nat → Int32)) :=
  k108 v2 v3 v4 v5 v6 v8 (v9 + 1) m_bestMany m_can m_now m_best m_hourOf
def f_X11_goThrough_108 (k40 : Int32 → Int32 → Int32 → Int32 → Int32 → Int32 → (Nat → Int32) → (Nat → Int32) → (Nat → Int32) → (Nat → Int32) → Option (Int32 × Int32 × (Nat → Int32) × (Nat → Int32) × (Nat → Int32) × (Nat → Int32))) (m_r : Nat → Int32) (m_st : Nat → Int32) : Nat → Int32 → Int32 → Int32 → Int32 → Int32 → Int32 → Int32 → Int32 → (Nat → Int32) → (Nat → Int32) → (Nat → Int32) → (Nat → Int32) → Option (Int32 × Int32 × (Nat → Int32) × (Nat → Int32) × (Nat → Int32) × (Nat → Int32))
  | 0, _, _, _, _, _, _, _, _, _, _, _, _ => none
  | n + 1, v2, v3, v4, v5, v6, v8, v9, m_bestMany, m_can, m_now, m_best, m_hourOf =>
   if (m_r (Int32.toNatClampNeg 3)) ≤ v9 then
    f_X11_goThrough_202 k40 m_r m_st v2 v3 v4 v5 v6 v8 m_bestMany m_can m_now m_best m_hourOf
   else
    if (m_r (Int32.toNatClampNeg 1)) ≤ v8 then
     f_X11_goThrough_202 k40 m_r m_st v2 v3 v4 v5 v6 v8 m_bestMany m_can m_now m_best m_hourOf
    else
     if rf_ib v9 8 = true then
     if v9 ≤ (m_best (Int32.toNatClampNeg v9)) then
      if rf_ib v9 8 = true then
      if rf_ib v9 8 = true then
      if rf_ib (m_best (Int32.toNatClampNeg v9)) 8 = true then
      if rf_ib v9 8 = true then
      f_X11_goThrough_196 k40 (f_X11_goThrough_108 k40 m_r m_st n) m_r m_st v2 v3 (v4 &&& ((((1 : Int32) <<< (v9 &&& 31)) ||| ((1 : Int32) <<< ((m_best (Int32.toNatClampNeg v9)) &&& 31))) ^^^ (-1))) v5 v6 (v8 + 1) v9 m_bestMany m_can m_now m_best (upd (upd m_hourOf (Int32.toNatClampNeg v9) (v6 + 1)) (Int32.toNatClampNeg (m_best (Int32.toNatClampNeg v9))) (v6 + 1))
      else none
      else none
      else none
      else none
     else
      f_X11_goThrough_196 k40 (f_X11_goThrough_108 k40 m_r m_st n) m_r m_st v2 v3 v4 v5 v6 v8 v9 m_bestMany m_can m_now m_best m_hourOf
     else none
def f_X11_goThrough_98 (k40 : Int32 → Int32 → Int32 → Int32 → Int32 → Int32 → (Nat → Int32) → (Nat → Int32) → (Nat → Int32) → (Nat → Int32) → Option (Int32 × Int32 × (Nat → Int32) × (Nat → Int32) × (Nat → Int32) × (Nat → Int32))) (m_r : Nat → Int32) (m_st : Nat → Int32) (v2 : Int32) (v3 : Int32) (v4 : Int32) (v5 : Int32) (v6 : Int32) (s1 : Int32) (s2 : Int32) (m_bestMany : Int32) (m_can : Nat → Int32) (m_now : Nat → Int32) (m_best : Nat → Int32) (m_hourOf : Nat → Int32) : Option (Int32 × Int32 × (Nat → Int32) × (Nat → Int32) × (Nat → Int32) × (Nat → Int32)) :=
  (f_X11_seekPairs m_r m_st m_bestMany m_can m_now m_best s1 s2).bind fun z98 =>
  f_X11_goThrough_108 k40 m_r m_st rf_fu v2 v3 v4 v5 v6 0 0 z98.2.1 z98.2.2.1 z98.2.2.2.1 z98.2.2.2.2 m_hourOf
def f_X11_goThrough_40 (m_r : Nat → Int32) (m_st : Nat → Int32) : Nat → Int32 → Int32 → Int32 → Int32 → Int32 → Int32 → (Nat → Int32) → (Nat → Int32) → (Nat → Int32) → (Nat → Int32) → Option (Int32 × Int32 × (Nat → Int32) × (Nat → Int32) × (Nat → Int32) × (Nat → Int32))
  | 0, _, _, _, _, _, _, _, _, _, _ => none
  | n + 1, v2, v3, v4, v5, v6, m_bestMany, m_can, m_now, m_best, m_hourOf =>
   if v2 ≤ v6 then
    some (v5, m_bestMany, m_can, m_now, m_best, m_hourOf)
   else
    (f_X11_earAt m_r (((m_st (Int32.toNatClampNeg 24)) + v6) - ((m_st (Int32.toNatClampNeg 24)) + v6) / 24 * 24)).bind fun z72 =>
    if 1 ≤ ((z72 + (((((75 : Int32) * v3) + 74) - (((75 : Int32) * v3) + 74) / 65537 * 65537) - ((((75 : Int32) * v3) + 74) - (((75 : Int32) * v3) + 74) / 65537 * 65537) / 3 * 3)) - 1) then
     f_X11_goThrough_98 (f_X11_goThrough_40 m_r m_st n) m_r m_st v2 ((((75 : Int32) * v3) + 74) - (((75 : Int32) * v3) + 74) / 65537 * 65537) v4 v5 v6 v4 ((z72 + (((((75 : Int32) * v3) + 74) - (((75 : Int32) * v3) + 74) / 65537 * 65537) - ((((75 : Int32) * v3) + 74) - (((75 : Int32) * v3) + 74) / 65537 * 65537) / 3 * 3)) - 1) m_bestMany m_can m_now m_best m_hourOf
    else
     f_X11_goThrough_98 (f_X11_goThrough_40 m_r m_st n) m_r m_st v2 ((((75 : Int32) * v3) + 74) - (((75 : Int32) * v3) + 74) / 65537 * 65537) v4 v5 v6 v4 1 m_bestMany m_can m_now m_best m_hourOf
def f_X11_goThrough_15 (m_r : Nat → Int32) (m_st : Nat → Int32) : Nat → Int32 → Int32 → Int32 → Int32 → Int32 → Int32 → (Nat → Int32) → (Nat → Int32) → (Nat → Int32) → (Nat → Int32) → Option (Int32 × Int32 × (Nat → Int32) × (Nat → Int32) × (Nat → Int32) × (Nat → Int32))
  | 0, _, _, _, _, _, _, _, _, _, _ => none
  | n + 1, v2, v3, v4, v5, v6, m_bestMany, m_can, m_now, m_best, m_hourOf =>
   if 8 ≤ v6 then
    f_X11_goThrough_40 m_r m_st rf_fu v2 v3 v4 v5 0 m_bestMany m_can m_now m_best m_hourOf
   else
    if rf_ib v6 8 = true then
    f_X11_goThrough_15 m_r m_st n v2 v3 v4 v5 (v6 + 1) m_bestMany m_can m_now m_best (upd m_hourOf (Int32.toNatClampNeg v6) (-2))
    else none
def f_X11_goThrough (m_r : Nat → Int32) (m_st : Nat → Int32) (m_bestMany : Int32) (m_can : Nat → Int32) (m_now : Nat → Int32) (m_best : Nat → Int32) (m_hourOf : Nat → Int32) (v1 : Int32) (v2 : Int32) : Option (Int32 × Int32 × (Nat → Int32) × (Nat → Int32) × (Nat → Int32) × (Nat → Int32)) :=
  (f_X11_onBank m_r m_st 0).bind fun z4 =>
  f_X11_goThrough_15 m_r m_st rf_fu v2 v1 z4 0 0 m_bestMany m_can m_now m_best m_hourOf
def f_X11_day (m_hasFerry : Int32) (m_r : Nat → Int32) (m_st : Nat → Int32) (m_thrown : Int32) (m_trouble : Int32) (m_bestMany : Int32) (m_can : Nat → Int32) (m_now : Nat → Int32) (m_best : Nat → Int32) (m_hourOf : Nat → Int32) (v1 : Int32) (v2 : Int32) : Option (Int32 × Int32 × Int32 × Int32 × (Nat → Int32) × (Nat → Int32) × (Nat → Int32) × (Nat → Int32)) :=
  (f_X11_good m_thrown m_trouble).bind fun z1 =>
  (f_X11_dayWhy m_hasFerry v1 v2).bind fun z11 =>
  if z11 = 0 then
   (f_X11_goThrough m_r m_st m_bestMany m_can m_now m_best m_hourOf v1 v2).bind fun z30 =>
   some (z30.1, z1.1, z1.2, z30.2.1, z30.2.2.1, z30.2.2.2.1, z30.2.2.2.2.1, z30.2.2.2.2.2)
  else
   (f_X11_no z1.2 z11).bind fun z21 =>
   some (z21.1, z1.1, z21.2, m_bestMany, m_can, m_now, m_best, m_hourOf)
def f_X11_crossedIn (m_hasFerry : Int32) (m_r : Nat → Int32) (m_st : Nat → Int32) (m_thrown : Int32) (m_trouble : Int32) (m_bestMany : Int32) (m_can : Nat → Int32) (m_now : Nat → Int32) (m_best : Nat → Int32) (m_hourOf : Nat → Int32) (v1 : Int32) (v2 : Int32) (v3 : Int32) : Option (Int32 × Int32 × Int32 × Int32 × (Nat → Int32) × (Nat → Int32) × (Nat → Int32) × (Nat → Int32)) :=
  (f_X11_good m_thrown m_trouble).bind fun z1 =>
  (f_X11_isPerson m_hasFerry m_r v1).bind fun z7 =>
  (f_X11_dayWhy z7 v2 v3).bind fun z12 =>
  if z12 = 0 then
   (f_X11_goThrough m_r m_st m_bestMany m_can m_now m_best m_hourOf v2 v3).bind fun z32 =>
   if rf_ib v1 8 = true then
   some (z32.2.2.2.2.2 (Int32.toNatClampNeg v1), z1.1, z1.2, z32.2.1, z32.2.2.1, z32.2.2.2.1, z32.2.2.2.2.1, z32.2.2.2.2.2)
   else none
  else
   (f_X11_no z1.2 z12).bind fun z25 =>
   some (z25.1, z1.1, z25.2, m_bestMany, m_can, m_now, m_best, m_hourOf)
def f_X11_note_49 (m_st : Nat → Int32) (m_undos : Int32) (m_undone : Nat → Int32) : Option (Int32 × (Nat → Int32)) :=
  if rf_cok 0 ((26 : Int32) * m_undos) 26 26 416 = true then
  some (m_undos + 1, va_cpy m_st m_undone (Int32.toNatClampNeg 0) (Int32.toNatClampNeg ((26 : Int32) * m_undos)) (Int32.toNatClampNeg 26))
  else none
def f_X11_note_11 (m_st : Nat → Int32) : Nat → Int32 → Int32 → (Nat → Int32) → Option (Int32 × (Nat → Int32))
  | 0, _, _, _ => none
  | n + 1, v1, m_undos, m_undone =>
   if 390 ≤ v1 then
    f_X11_note_49 m_st (m_undos - 1) m_undone
   else
    if rf_ib (v1 + 26) 416 = true then
    if rf_ib v1 416 = true then
    f_X11_note_11 m_st n (v1 + 1) m_undos (upd m_undone (Int32.toNatClampNeg v1) (m_undone (Int32.toNatClampNeg (v1 + 26))))
    else none
    else none
def f_X11_note (m_st : Nat → Int32) (m_undos : Int32) (m_undone : Nat → Int32) : Option (Int32 × (Nat → Int32)) :=
  if m_undos = 16 then
   f_X11_note_11 m_st rf_fu 0 m_undos m_undone
  else
   f_X11_note_49 m_st m_undos m_undone
def f_X11_cross_56 (m_hasFerry : Int32) (m_r : Nat → Int32) (m_thrown : Int32) (m_trouble : Int32) (m_undos : Int32) (m_st : Nat → Int32) (m_undone : Nat → Int32) : Option (Int32 × Int32 × Int32 × Int32 × (Nat → Int32) × (Nat → Int32)) :=
  (f_X11_no m_trouble 5).bind fun z58 =>
  some (z58.1, m_thrown, z58.2, m_undos, m_st, m_undone)
def f_X11_cross_125 (m_hasFerry : Int32) (m_r : Nat → Int32) (v3 : Int32) (m_thrown : Int32) (m_trouble : Int32) (m_undos : Int32) (m_st : Nat → Int32) (m_undone : Nat → Int32) : Option (Int32 × Int32 × Int32 × Int32 × (Nat → Int32) × (Nat → Int32)) :=
  some (v3, m_thrown, m_trouble, m_undos, m_st, m_undone)
def f_X11_cross (m_hasFerry : Int32) (m_r : Nat → Int32) (m_thrown : Int32) (m_trouble : Int32) (m_undos : Int32) (m_st : Nat → Int32) (m_undone : Nat → Int32) (v1 : Int32) (v2 : Int32) : Option (Int32 × Int32 × Int32 × Int32 × (Nat → Int32) × (Nat → Int32)) :=
  (f_X11_good m_thrown m_trouble).bind fun z1 =>
  (f_X11_areTwo m_hasFerry m_r v1 v2).bind fun z7 =>
  if z7 = 0 then
   (f_X11_no z1.2 1).bind fun z15 =>
   some (z15.1, z1.1, z15.2, m_undos, m_st, m_undone)
  else
   (f_X11_earAt m_r (m_st (Int32.toNatClampNeg 24))).bind fun z30 =>
   (f_X11_rhymeNow m_r m_st v1 v2 z30).bind fun z33 =>
   if rf_ib v1 26 = true then
   if rf_ib v2 26 = true then
   if (m_st (Int32.toNatClampNeg v1)) = (m_st (Int32.toNatClampNeg v2)) then
    if z33 = 0 then
     f_X11_cross_56 m_hasFerry m_r z1.1 z1.2 m_undos m_st m_undone
    else
     (f_X11_note m_st m_undos m_undone).bind fun z63 =>
     if rf_ib v1 26 = true then
     if rf_ib v1 26 = true then
     if rf_ib v2 26 = true then
     if rf_ib v2 26 = true then
     if z33 = 1 then
      if rf_ib ((16 : Int32) + v1) 26 = true then
      if rf_ib ((16 : Int32) + v1) 26 = true then
      if rf_ib ((16 : Int32) + v2) 26 = true then
      if rf_ib ((16 : Int32) + v2) 26 = true then
      f_X11_cross_125 m_hasFerry m_r z33 z1.1 z1.2 z63.1 (upd (upd (upd (upd m_st (Int32.toNatClampNeg v1) ((1 : Int32) - (m_st (Int32.toNatClampNeg v1)))) (Int32.toNatClampNeg v2) ((1 : Int32) - ((upd m_st (Int32.toNatClampNeg v1) ((1 : Int32) - (m_st (Int32.toNatClampNeg v1)))) (Int32.toNatClampNeg v2)))) (Int32.toNatClampNeg ((16 : Int32) + v1)) (((upd (upd m_st (Int32.toNatClampNeg v1) ((1 : Int32) - (m_st (Int32.toNatClampNeg v1)))) (Int32.toNatClampNeg v2) ((1 : Int32) - ((upd m_st (Int32.toNatClampNeg v1) ((1 : Int32) - (m_st (Int32.toNatClampNeg v1)))) (Int32.toNatClampNeg v2)))) (Int32.toNatClampNeg ((16 : Int32) + v1))) + 1)) (Int32.toNatClampNeg ((16 : Int32) + v2)) (((upd (upd (upd m_st (Int32.toNatClampNeg v1) ((1 : Int32) - (m_st (Int32.toNatClampNeg v1)))) (Int32.toNatClampNeg v2) ((1 : Int32) - ((upd m_st (Int32.toNatClampNeg v1) ((1 : Int32) - (m_st (Int32.toNatClampNeg v1)))) (Int32.toNatClampNeg v2)))) (Int32.toNatClampNeg ((16 : Int32) + v1)) (((upd (upd m_st (Int32.toNatClampNeg v1) ((1 : Int32) - (m_st (Int32.toNatClampNeg v1)))) (Int32.toNatClampNeg v2) ((1 : Int32) - ((upd m_st (Int32.toNatClampNeg v1) ((1 : Int32) - (m_st (Int32.toNatClampNeg v1)))) (Int32.toNatClampNeg v2)))) (Int32.toNatClampNeg ((16 : Int32) + v1))) + 1)) (Int32.toNatClampNeg ((16 : Int32) + v2))) + 1)) z63.2
      else none
      else none
      else none
      else none
     else
      f_X11_cross_125 m_hasFerry m_r z33 z1.1 z1.2 z63.1 (upd (upd m_st (Int32.toNatClampNeg v1) ((1 : Int32) - (m_st (Int32.toNatClampNeg v1)))) (Int32.toNatClampNeg v2) ((1 : Int32) - ((upd m_st (Int32.toNatClampNeg v1) ((1 : Int32) - (m_st (Int32.toNatClampNeg v1)))) (Int32.toNatClampNeg v2)))) z63.2
     else none
     else none
     else none
     else none
   else
    f_X11_cross_56 m_hasFerry m_r z1.1 z1.2 m_undos m_st m_undone
   else none
   else none
def f_X11_buy_20 (m_hasFerry : Int32) (m_r : Nat → Int32) (m_thrown : Int32) (m_trouble : Int32) (m_undos : Int32) (m_st : Nat → Int32) (m_undone : Nat → Int32) : Option (Int32 × Int32 × Int32 × Int32 × (Nat → Int32) × (Nat → Int32)) :=
  (f_X11_no m_trouble 1).bind fun z22 =>
  some (z22.1, m_thrown, z22.2, m_undos, m_st, m_undone)
def f_X11_buy (m_hasFerry : Int32) (m_r : Nat → Int32) (m_thrown : Int32) (m_trouble : Int32) (m_undos : Int32) (m_st : Nat → Int32) (m_undone : Nat → Int32) (v1 : Int32) (v2 : Int32) : Option (Int32 × Int32 × Int32 × Int32 × (Nat → Int32) × (Nat → Int32)) :=
  (f_X11_good m_thrown m_trouble).bind fun z1 =>
  (f_X11_isPerson m_hasFerry m_r v1).bind fun z6 =>
  if z6 = 0 then
   f_X11_buy_20 m_hasFerry m_r z1.1 z1.2 m_undos m_st m_undone
  else
   (f_X11_isWordThere m_hasFerry m_r v2).bind fun z14 =>
   if z14 = 0 then
    f_X11_buy_20 m_hasFerry m_r z1.1 z1.2 m_undos m_st m_undone
   else
    if rf_ib ((8 : Int32) + v1) 26 = true then
    (f_X11_hasBit (m_st (Int32.toNatClampNeg ((8 : Int32) + v1))) v2).bind fun z36 =>
    if z36 = 0 then
     (f_X11_note m_st m_undos m_undone).bind fun z49 =>
     if rf_ib ((8 : Int32) + v1) 26 = true then
     if rf_ib ((8 : Int32) + v1) 26 = true then
     (f_X11_priceOf m_r v2).bind fun z77 =>
     some ((upd (upd m_st (Int32.toNatClampNeg ((8 : Int32) + v1)) ((m_st (Int32.toNatClampNeg ((8 : Int32) + v1))) ||| ((1 : Int32) <<< (v2 &&& 31)))) (Int32.toNatClampNeg 25) (((upd m_st (Int32.toNatClampNeg ((8 : Int32) + v1)) ((m_st (Int32.toNatClampNeg ((8 : Int32) + v1))) ||| ((1 : Int32) <<< (v2 &&& 31)))) (Int32.toNatClampNeg 25)) + z77)) (Int32.toNatClampNeg 25), z1.1, z1.2, z49.1, upd (upd m_st (Int32.toNatClampNeg ((8 : Int32) + v1)) ((m_st (Int32.toNatClampNeg ((8 : Int32) + v1))) ||| ((1 : Int32) <<< (v2 &&& 31)))) (Int32.toNatClampNeg 25) (((upd m_st (Int32.toNatClampNeg ((8 : Int32) + v1)) ((m_st (Int32.toNatClampNeg ((8 : Int32) + v1))) ||| ((1 : Int32) <<< (v2 &&& 31)))) (Int32.toNatClampNeg 25)) + z77), z49.2)
     else none
     else none
    else
     (f_X11_no z1.2 5).bind fun z44 =>
     some (z44.1, z1.1, z44.2, m_undos, m_st, m_undone)
    else none
def f_X11_hours (m_hasFerry : Int32) (m_thrown : Int32) (m_trouble : Int32) (m_undos : Int32) (m_st : Nat → Int32) (m_undone : Nat → Int32) (v1 : Int32) : Option (Int32 × Int32 × Int32 × Int32 × (Nat → Int32) × (Nat → Int32)) :=
  (f_X11_good m_thrown m_trouble).bind fun z1 =>
  if m_hasFerry = 0 then
   (f_X11_no z1.2 1).bind fun z13 =>
   some (z13.1, z1.1, z13.2, m_undos, m_st, m_undone)
  else
   (f_X11_in v1 1 23).bind fun z21 =>
   if z21 = 0 then
    (f_X11_no z1.2 2).bind fun z29 =>
    some (z29.1, z1.1, z29.2, m_undos, m_st, m_undone)
   else
    (f_X11_note m_st m_undos m_undone).bind fun z34 =>
    some ((upd m_st (Int32.toNatClampNeg 24) (((m_st (Int32.toNatClampNeg 24)) + v1) - ((m_st (Int32.toNatClampNeg 24)) + v1) / 24 * 24)) (Int32.toNatClampNeg 24), z1.1, z1.2, z34.1, upd m_st (Int32.toNatClampNeg 24) (((m_st (Int32.toNatClampNeg 24)) + v1) - ((m_st (Int32.toNatClampNeg 24)) + v1) / 24 * 24), z34.2)
def f_X11_isNot (m_trouble : Int32) (v1 : Int32) : Option (Int32 × Int32) :=
  some (0, v1)
def f_X11_undo (m_undone : Nat → Int32) (m_thrown : Int32) (m_trouble : Int32) (m_undos : Int32) (m_st : Nat → Int32) : Option (Int32 × Int32 × Int32 × Int32 × (Nat → Int32)) :=
  (f_X11_good m_thrown m_trouble).bind fun z1 =>
  if m_undos = 0 then
   (f_X11_isNot z1.2 6).bind fun z14 =>
   if rf_zb z14.1 = true then
   some (z14.1, z1.1, z14.2, m_undos, m_st)
   else none
  else
   if rf_cok ((26 : Int32) * (m_undos - 1)) 0 26 416 26 = true then
   some (1, z1.1, z1.2, m_undos - 1, va_cpy m_undone m_st (Int32.toNatClampNeg ((26 : Int32) * (m_undos - 1))) (Int32.toNatClampNeg 0) (Int32.toNatClampNeg 26))
   else none
def f_X11_image (m_hasFerry : Int32) (m_st : Nat → Int32) (m_thrown : Int32) (m_trouble : Int32) (m_images : Int32) (m_kept : Nat → Int32) : Option (Int32 × Int32 × Int32 × Int32 × (Nat → Int32)) :=
  (f_X11_good m_thrown m_trouble).bind fun z1 =>
  if m_hasFerry = 0 then
   (f_X11_no z1.2 1).bind fun z13 =>
   some (z13.1, z1.1, z13.2, m_images, m_kept)
  else
   if m_images = 3 then
    (f_X11_no z1.2 3).bind fun z27 =>
    some (z27.1, z1.1, z27.2, m_images, m_kept)
   else
    if rf_cok 0 ((26 : Int32) * m_images) 26 26 78 = true then
    some ((m_images + 1) - 1, z1.1, z1.2, m_images + 1, va_cpy m_st m_kept (Int32.toNatClampNeg 0) (Int32.toNatClampNeg ((26 : Int32) * m_images)) (Int32.toNatClampNeg 26))
    else none
def f_X11_back (m_images : Int32) (m_kept : Nat → Int32) (m_thrown : Int32) (m_trouble : Int32) (m_undos : Int32) (m_st : Nat → Int32) (v1 : Int32) : Option (Int32 × Int32 × Int32 × Int32 × (Nat → Int32)) :=
  (f_X11_good m_thrown m_trouble).bind fun z1 =>
  (f_X11_in v1 0 (m_images - 1)).bind fun z12 =>
  if z12 = 0 then
   (f_X11_isNot z1.2 1).bind fun z20 =>
   if rf_zb z20.1 = true then
   some (z20.1, z1.1, z20.2, m_undos, m_st)
   else none
  else
   if rf_cok ((26 : Int32) * v1) 0 26 78 26 = true then
   some (1, z1.1, z1.2, 0, va_cpy m_kept m_st (Int32.toNatClampNeg ((26 : Int32) * v1)) (Int32.toNatClampNeg 0) (Int32.toNatClampNeg 26))
   else none
def f_X11_led_57 (m_hasFerry : Int32) (m_r : Nat → Int32) (m_st : Nat → Int32) (m_thrown : Int32) : Option (Int32 × Int32) :=
  some (0, 1)
def f_X11_led_51 (k4 : Int32 → Int32 → Int32 → Int32 → Option (Int32 × Int32)) (m_hasFerry : Int32) (m_r : Nat → Int32) (m_st : Nat → Int32) (v1 : Int32) (v2 : Int32) (v3 : Int32) (m_thrown : Int32) : Option (Int32 × Int32) :=
  k4 v1 v2 (v3 + 1) m_thrown
def f_X11_led_4 (m_hasFerry : Int32) (m_r : Nat → Int32) (m_st : Nat → Int32) : Nat → Int32 → Int32 → Int32 → Int32 → Option (Int32 × Int32)
  | 0, _, _, _, _ => none
  | n + 1, v1, v2, v3, m_thrown =>
   if m_hasFerry = 0 then
    f_X11_led_57 m_hasFerry m_r m_st m_thrown
   else
    if (m_r (Int32.toNatClampNeg 3)) ≤ v3 then
     f_X11_led_57 m_hasFerry m_r m_st m_thrown
    else
     if rf_ib ((16 : Int32) + v3) 26 = true then
     if (m_st (Int32.toNatClampNeg ((16 : Int32) + v3))) = 0 then
      f_X11_led_51 (f_X11_led_4 m_hasFerry m_r m_st n) m_hasFerry m_r m_st v1 v2 v3 m_thrown
     else
      if v2 = v1 then
       some (v3, 0)
      else
       f_X11_led_51 (f_X11_led_4 m_hasFerry m_r m_st n) m_hasFerry m_r m_st v1 (v2 + 1) v3 m_thrown
     else none
def f_X11_led (m_hasFerry : Int32) (m_r : Nat → Int32) (m_st : Nat → Int32) (m_thrown : Int32) (v1 : Int32) : Option (Int32 × Int32) :=
  f_X11_led_4 m_hasFerry m_r m_st rf_fu v1 0 0 m_thrown
def f_X11_size (m_taped : Int32) (m_hasFerry : Int32) (m_undos : Int32) (m_images : Int32) (m_r : Nat → Int32) (m_st : Nat → Int32) (m_thrown : Int32) (v1 : Int32) : Option (Int32 × Int32) :=
  if v1 = 12 then
   some (m_taped, 0)
  else
   if m_hasFerry = 0 then
    (f_X11_in v1 0 11).bind fun z27 =>
    if z27 = 0 then
     some ((-1), 0)
    else
     some (0, 0)
   else
    (f_X11_in v1 0 7).bind fun z43 =>
    if z43 = 0 then
     if v1 = 8 then
      some (m_st (Int32.toNatClampNeg 24), 0)
     else
      if v1 = 9 then
       some (m_st (Int32.toNatClampNeg 25), 0)
      else
       if v1 = 10 then
        some (m_undos, 0)
       else
        if v1 = 11 then
         some (m_images, 0)
        else
         some ((-1), 0)
    else
     if rf_ib v1 333 = true then
     some (m_r (Int32.toNatClampNeg v1), 0)
     else none
def f_X11_trouble (m_trouble : Int32) (m_thrown : Int32) : Option (Int32 × Int32) :=
  some (m_trouble, 0)
