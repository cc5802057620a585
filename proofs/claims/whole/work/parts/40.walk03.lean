set_option maxHeartbeats 4000000 in
set_option maxRecDepth 100000 in
theorem w_X5_takesNewName_15 {l : Launch} {p : Program} {e : Env} {s : State} {m : MethodId} {args : Array Value} {below : List Frame} {meth : Method} {c : Code} {A0 : Nat → Prop} {E : rf_E} {a P : Nat → Nat} {I : Nat → Int32} {J : Nat → Int64} {A : Nat → Nat → Int32} {B : Nat → Nat → Int64} {td_wordCount : Int32} {td_personCount : Int32} {reader_end : Int32} {x_tape : Nat → Int32} {td_wordNames : Nat → Int64} {td_personNames : Nat → Int64} {z : Int32 × Int32 × Int32 × Int32 × Int32 × Int64 × Int32 × Int64 × Int32 × Int32} (hC : rf_C p E s m args meth c cX5_takesNewName 1 RX5 (some .boolean) A0) (hD : va_D A0 (cX E a P I J A B)) (hp3 : P 3 = a 11) (e_td_wordCount : I 30 = td_wordCount) (e_td_personCount : I 31 = td_personCount) (e_reader_end : I 35 = reader_end) (e_x_tape : A 0 = x_tape) (e_td_wordNames : B 3 = td_wordNames) (e_td_personNames : B 5 = td_personNames) :
    ∀ (reader_next : Int32) (reader_sort : Int32) (reader_place : Int32) (reader_length : Int32) (reader_letters : Int64) (reader_whole : Int32) (reader_name : Int64) (reader_fault : Int32) (reader_faultPlace : Int32), f_X5_takesNewName_15 td_wordCount td_personCount reader_end x_tape td_wordNames td_personNames reader_next reader_sort reader_place reader_length reader_letters reader_whole reader_name reader_fault reader_faultPlace = some z → ∀ (H : Heap) (locs : List Loc) (ls : Array Slot), va_P (rf_D E) vwCl (cX E a P (rf_upL I [(36, reader_next), (39, reader_sort), (40, reader_place), (41, reader_length), (42, reader_whole), (45, reader_fault), (46, reader_faultPlace)]) (rf_upL J [(0, reader_letters), (1, reader_name)]) A B) H → va_S A0 s.heap H locs → lv_has ls 1 [(0, .ref (a 12))] → W p l e ({ frames := 8, cells := 0, slots := 0, locals := 244 }) s m args below meth c H locs 0 0 (rf_QI below args s E A0 z.1 (cX E a P (rf_upL I [(36, z.2.1), (39, z.2.2.1), (40, z.2.2.2.1), (41, z.2.2.2.2.1), (42, z.2.2.2.2.2.2.1), (45, z.2.2.2.2.2.2.2.2.1), (46, z.2.2.2.2.2.2.2.2.2)]) (rf_upL J [(0, z.2.2.2.2.2.1), (1, z.2.2.2.2.2.2.2.1)]) A B)) (F0 m 15 ls []) := by
  have hx := hC.1
  have hb := hC.2.1
  intro reader_next reader_sort reader_place reader_length reader_letters reader_whole reader_name reader_fault reader_faultPlace hf H locs ls hP hS hl
  unfold f_X5_takesNewName_15 at hf
  refine lv_aload_n hx hb dX5_takesNewName_15 rfl (lv_at hl 0 rfl) ?_
  refine lv_iconst (v := 1) hx hb dX5_takesNewName_16 (by decide) ?_
  obtain ⟨z17, hz17, hf⟩ := rf_bd hf
  refine rf_vi (q0 := 12) (ci := 5) hC (c_X5_fail l E a P (rf_upL I [(36, reader_next), (39, reader_sort), (40, reader_place), (41, reader_length), (42, reader_whole), (45, reader_fault), (46, reader_faultPlace)]) (rf_upL J [(0, reader_letters), (1, reader_name)]) A B reader_place reader_fault reader_faultPlace 1 rfl rfl rfl hz17) kV_X5_fail tw_553 ⟨Nat.le_of_ble_eq_true rfl, Nat.le_of_ble_eq_true rfl⟩ rfl rfl rfl rfl rfl hP (rf_DX hD) hS rfl hl.1 (rest := []) rfl (Nat.le_of_ble_eq_true rfl) dX5_takesNewName_17 (fun H locs hP hS => ?_)
  rw [rf_cat (f := I) (l := [(36, reader_next), (39, reader_sort), (40, reader_place), (41, reader_length), (42, reader_whole), (45, reader_fault), (46, reader_faultPlace)]) (lc := [(45, z17.2.1), (46, z17.2.2)]) (l' := [(36, reader_next), (39, reader_sort), (40, reader_place), (41, reader_length), (42, reader_whole), (45, z17.2.1), (46, z17.2.2)]) rfl] at hP
  obtain ⟨hz_20, hf⟩ := rf_gu hf
  obtain rfl := Option.some.inj hf
  exact rf_retz hC hP hS hz_20 rfl rfl dX5_takesNewName_20
set_option maxHeartbeats 4000000 in
set_option maxRecDepth 100000 in
theorem w_X5_takesNewName_51 {l : Launch} {p : Program} {e : Env} {s : State} {m : MethodId} {args : Array Value} {below : List Frame} {meth : Method} {c : Code} {A0 : Nat → Prop} {E : rf_E} {a P : Nat → Nat} {I : Nat → Int32} {J : Nat → Int64} {A : Nat → Nat → Int32} {B : Nat → Nat → Int64} {td_wordCount : Int32} {td_personCount : Int32} {reader_end : Int32} {x_tape : Nat → Int32} {td_wordNames : Nat → Int64} {td_personNames : Nat → Int64} {z : Int32 × Int32 × Int32 × Int32 × Int32 × Int64 × Int32 × Int64 × Int32 × Int32} (hC : rf_C p E s m args meth c cX5_takesNewName 1 RX5 (some .boolean) A0) (hD : va_D A0 (cX E a P I J A B)) (hp3 : P 3 = a 11) (e_td_wordCount : I 30 = td_wordCount) (e_td_personCount : I 31 = td_personCount) (e_reader_end : I 35 = reader_end) (e_x_tape : A 0 = x_tape) (e_td_wordNames : B 3 = td_wordNames) (e_td_personNames : B 5 = td_personNames) :
    ∀ (reader_next : Int32) (reader_sort : Int32) (reader_place : Int32) (reader_length : Int32) (reader_letters : Int64) (reader_whole : Int32) (reader_name : Int64) (reader_fault : Int32) (reader_faultPlace : Int32), f_X5_takesNewName_51 td_wordCount td_personCount reader_end x_tape td_wordNames td_personNames reader_next reader_sort reader_place reader_length reader_letters reader_whole reader_name reader_fault reader_faultPlace = some z → ∀ (H : Heap) (locs : List Loc) (ls : Array Slot), va_P (rf_D E) vwCl (cX E a P (rf_upL I [(36, reader_next), (39, reader_sort), (40, reader_place), (41, reader_length), (42, reader_whole), (45, reader_fault), (46, reader_faultPlace)]) (rf_upL J [(0, reader_letters), (1, reader_name)]) A B) H → va_S A0 s.heap H locs → lv_has ls 1 [(0, .ref (a 12))] → W p l e ({ frames := 8, cells := 0, slots := 0, locals := 244 }) s m args below meth c H locs 0 0 (rf_QI below args s E A0 z.1 (cX E a P (rf_upL I [(36, z.2.1), (39, z.2.2.1), (40, z.2.2.2.1), (41, z.2.2.2.2.1), (42, z.2.2.2.2.2.2.1), (45, z.2.2.2.2.2.2.2.2.1), (46, z.2.2.2.2.2.2.2.2.2)]) (rf_upL J [(0, z.2.2.2.2.2.1), (1, z.2.2.2.2.2.2.2.1)]) A B)) (F0 m 51 ls []) := by
  have hx := hC.1
  have hb := hC.2.1
  intro reader_next reader_sort reader_place reader_length reader_letters reader_whole reader_name reader_fault reader_faultPlace hf H locs ls hP hS hl
  unfold f_X5_takesNewName_51 at hf
  refine lv_aload_n hx hb dX5_takesNewName_51 rfl (lv_at hl 0 rfl) ?_
  refine lv_iconst (v := 3) hx hb dX5_takesNewName_52 (by decide) ?_
  obtain ⟨z53, hz53, hf⟩ := rf_bd hf
  refine rf_vi (q0 := 12) (ci := 5) hC (c_X5_fail l E a P (rf_upL I [(36, reader_next), (39, reader_sort), (40, reader_place), (41, reader_length), (42, reader_whole), (45, reader_fault), (46, reader_faultPlace)]) (rf_upL J [(0, reader_letters), (1, reader_name)]) A B reader_place reader_fault reader_faultPlace 3 rfl rfl rfl hz53) kV_X5_fail tw_553 ⟨Nat.le_of_ble_eq_true rfl, Nat.le_of_ble_eq_true rfl⟩ rfl rfl rfl rfl rfl hP (rf_DX hD) hS rfl hl.1 (rest := []) rfl (Nat.le_of_ble_eq_true rfl) dX5_takesNewName_53 (fun H locs hP hS => ?_)
  rw [rf_cat (f := I) (l := [(36, reader_next), (39, reader_sort), (40, reader_place), (41, reader_length), (42, reader_whole), (45, reader_fault), (46, reader_faultPlace)]) (lc := [(45, z53.2.1), (46, z53.2.2)]) (l' := [(36, reader_next), (39, reader_sort), (40, reader_place), (41, reader_length), (42, reader_whole), (45, z53.2.1), (46, z53.2.2)]) rfl] at hP
  obtain ⟨hz_56, hf⟩ := rf_gu hf
  obtain rfl := Option.some.inj hf
  exact rf_retz hC hP hS hz_56 rfl rfl dX5_takesNewName_56
set_option maxHeartbeats 4000000 in
set_option maxRecDepth 100000 in
theorem c_X5_takesNewName (l : Launch) (E : rf_E) (a P : Nat → Nat) (I : Nat → Int32) (J : Nat → Int64) (A : Nat → Nat → Int32) (B : Nat → Nat → Int64) (td_wordCount : Int32) (td_personCount : Int32) (reader_end : Int32) (x_tape : Nat → Int32) (td_wordNames : Nat → Int64) (td_personNames : Nat → Int64) (reader_next : Int32) (reader_sort : Int32) (reader_place : Int32) (reader_length : Int32) (reader_letters : Int64) (reader_whole : Int32) (reader_name : Int64) (reader_fault : Int32) (reader_faultPlace : Int32) {z : Int32 × Int32 × Int32 × Int32 × Int32 × Int64 × Int32 × Int64 × Int32 × Int32} (hp3 : P 3 = a 11) (e_td_wordCount : I 30 = td_wordCount) (e_td_personCount : I 31 = td_personCount) (e_reader_end : I 35 = reader_end) (e_x_tape : A 0 = x_tape) (e_td_wordNames : B 3 = td_wordNames) (e_td_personNames : B 5 = td_personNames) (e_reader_next : I 36 = reader_next) (e_reader_sort : I 39 = reader_sort) (e_reader_place : I 40 = reader_place) (e_reader_length : I 41 = reader_length) (e_reader_letters : J 0 = reader_letters) (e_reader_whole : I 42 = reader_whole) (e_reader_name : J 1 = reader_name) (e_reader_fault : I 45 = reader_fault) (e_reader_faultPlace : I 46 = reader_faultPlace) (hf : f_X5_takesNewName td_wordCount td_personCount reader_end x_tape td_wordNames td_personNames reader_next reader_sort reader_place reader_length reader_letters reader_whole reader_name reader_fault reader_faultPlace = some z) : rf_MI l yX5_takesNewName cX5_takesNewName 1 (some .boolean) ({ frames := 8, cells := 0, slots := 0, locals := 244 }) E [.ref (a 12)] (cX E a P I J A B) z.1 (cX E a P (rf_upL I [(36, z.2.1), (39, z.2.2.1), (40, z.2.2.2.1), (41, z.2.2.2.2.1), (42, z.2.2.2.2.2.2.1), (45, z.2.2.2.2.2.2.2.2.1), (46, z.2.2.2.2.2.2.2.2.2)]) (rf_upL J [(0, z.2.2.2.2.2.1), (1, z.2.2.2.2.2.2.2.1)]) A B) := by
  unfold f_X5_takesNewName at hf
  refine rf_ofI (by decide) (Nat.le_of_ble_eq_true rfl) ?_
  intro p e s m below meth c A0 ls hC hD hP hS hl
  have hC : rf_C p E s m _ meth c cX5_takesNewName 1 RX5 (some .boolean) A0 := hC
  have hx := hC.1
  have hb := hC.2.1
  have hl : lv_has ls 1 [(0, .ref (a 12))] := hl
  have hP : va_P (rf_D E) vwCl (cX E a P (rf_upL I [(36, reader_next), (39, reader_sort), (40, reader_place), (41, reader_length), (42, reader_whole), (45, reader_fault), (46, reader_faultPlace)]) (rf_upL J [(0, reader_letters), (1, reader_name)]) A B) s.heap := by
    rw [rf_self (f := I) [(36, reader_next), (39, reader_sort), (40, reader_place), (41, reader_length), (42, reader_whole), (45, reader_fault), (46, reader_faultPlace)] (rf_fa1 e_reader_next (rf_fa1 e_reader_sort (rf_fa1 e_reader_place (rf_fa1 e_reader_length (rf_fa1 e_reader_whole (rf_fa1 e_reader_fault (rf_fa1 e_reader_faultPlace rf_fa0)))))))]
    rw [rf_self (f := J) [(0, reader_letters), (1, reader_name)] (rf_fa1 e_reader_letters (rf_fa1 e_reader_name rf_fa0))]
    exact hP
  refine lv_aload_n hx hb dX5_takesNewName_0 rfl (lv_at hl 0 rfl) ?_
  refine gX_reader_sort hC hP tw_343 (v := reader_sort) rfl dX5_takesNewName_1 ?_
  refine lv_iconst (v := 1) hx hb dX5_takesNewName_4 (by decide) ?_
  refine lv_icmp_ne (tgt := 15) hx hb dX5_takesNewName_5 (by decide) (fun c_5 => ?_) (fun c_5 => ?_)
  · have hf := rf_ie c_5 hf
    exact w_X5_takesNewName_15 hC hD hp3 e_td_wordCount e_td_personCount e_reader_end e_x_tape e_td_wordNames e_td_personNames reader_next reader_sort reader_place reader_length reader_letters reader_whole reader_name reader_fault reader_faultPlace hf _ _ _ hP hS (lv_sub hl [0] rfl)
  have hf := rf_it c_5 hf
  refine lv_aload_n hx hb dX5_takesNewName_8 rfl (lv_at hl 0 rfl) ?_
  obtain ⟨z9, hz9, hf⟩ := rf_bd hf
  refine rf_vi (q0 := 12) (ci := 5) hC (c_X5_lineBegun l E a P (rf_upL I [(36, reader_next), (39, reader_sort), (40, reader_place), (41, reader_length), (42, reader_whole), (45, reader_fault), (46, reader_faultPlace)]) (rf_upL J [(0, reader_letters), (1, reader_name)]) A B reader_sort reader_length reader_letters rfl rfl rfl hz9) kV_X5_lineBegun tw_489 ⟨Nat.le_of_ble_eq_true rfl, Nat.le_of_ble_eq_true rfl⟩ rfl rfl rfl rfl rfl hP (rf_DX hD) hS rfl hl.1 (rest := []) rfl (Nat.le_of_ble_eq_true rfl) dX5_takesNewName_9 (fun H locs hP hS => ?_)
  refine lv_if_eq (tgt := 21) hx hb dX5_takesNewName_12 (by decide) (fun c_12 => ?_) (fun c_12 => ?_)
  · have hf := rf_it c_12 hf
    refine lv_aload_n hx hb dX5_takesNewName_21 rfl (lv_at hl 0 rfl) ?_
    refine gX_reader_tale hC hP tw_338 (v := a 11) hp3 dX5_takesNewName_22 ?_
    refine lv_aload_n hx hb dX5_takesNewName_25 rfl (lv_at hl 0 rfl) ?_
    refine gX_reader_letters hC hP tw_346 (v := reader_letters) rfl dX5_takesNewName_26 ?_
    obtain ⟨z29, hz29, hf⟩ := rf_bd hf
    refine rf_vi (q0 := 11) (ci := 9) hC (c_X9_wordNamed_td l E a P (rf_upL I [(36, reader_next), (39, reader_sort), (40, reader_place), (41, reader_length), (42, reader_whole), (45, reader_fault), (46, reader_faultPlace)]) (rf_upL J [(0, reader_letters), (1, reader_name)]) A B td_wordCount td_wordNames reader_letters e_td_wordCount e_td_wordNames hz29) kV_X9_wordNamed tw_591 ⟨Nat.le_of_ble_eq_true rfl, Nat.le_of_ble_eq_true rfl⟩ rfl rfl rfl rfl rfl hP (rf_DX hD) hS rfl hl.1 (rest := []) rfl (Nat.le_of_ble_eq_true rfl) dX5_takesNewName_29 (fun H locs hP hS => ?_)
    refine lv_iconst (v := (-1)) hx hb dX5_takesNewName_32 (by decide) ?_
    refine lv_icmp_ne (tgt := 51) hx hb dX5_takesNewName_33 (by decide) (fun c_33 => ?_) (fun c_33 => ?_)
    · have hf := rf_ie c_33 hf
      exact w_X5_takesNewName_51 hC hD hp3 e_td_wordCount e_td_personCount e_reader_end e_x_tape e_td_wordNames e_td_personNames reader_next reader_sort reader_place reader_length reader_letters reader_whole reader_name reader_fault reader_faultPlace hf _ _ _ hP hS (lv_sub hl [0] rfl)
    have hf := rf_it c_33 hf
    refine lv_aload_n hx hb dX5_takesNewName_36 rfl (lv_at hl 0 rfl) ?_
    refine gX_reader_tale hC hP tw_338 (v := a 11) hp3 dX5_takesNewName_37 ?_
    refine lv_aload_n hx hb dX5_takesNewName_40 rfl (lv_at hl 0 rfl) ?_
    refine gX_reader_letters hC hP tw_346 (v := reader_letters) rfl dX5_takesNewName_41 ?_
    obtain ⟨z44, hz44, hf⟩ := rf_bd hf
    refine rf_vi (q0 := 11) (ci := 9) hC (c_X9_personNamed_td l E a P (rf_upL I [(36, reader_next), (39, reader_sort), (40, reader_place), (41, reader_length), (42, reader_whole), (45, reader_fault), (46, reader_faultPlace)]) (rf_upL J [(0, reader_letters), (1, reader_name)]) A B td_personCount td_personNames reader_letters e_td_personCount e_td_personNames hz44) kV_X9_personNamed tw_595 ⟨Nat.le_of_ble_eq_true rfl, Nat.le_of_ble_eq_true rfl⟩ rfl rfl rfl rfl rfl hP (rf_DX hD) hS rfl hl.1 (rest := []) rfl (Nat.le_of_ble_eq_true rfl) dX5_takesNewName_44 (fun H locs hP hS => ?_)
    refine lv_iconst (v := (-1)) hx hb dX5_takesNewName_47 (by decide) ?_
    refine lv_icmp_eq (tgt := 57) hx hb dX5_takesNewName_48 (by decide) (fun c_48 => ?_) (fun c_48 => ?_)
    · have hf := rf_it c_48 hf
      refine lv_aload_n hx hb dX5_takesNewName_57 rfl (lv_at hl 0 rfl) ?_
      refine lv_aload_n hx hb dX5_takesNewName_58 rfl (lv_at hl 0 rfl) ?_
      refine gX_reader_letters hC hP tw_346 (v := reader_letters) rfl dX5_takesNewName_59 ?_
      refine pX_reader_name hC hD hP hS tw_348 dX5_takesNewName_62 (rf_upL J [(0, reader_letters), (1, reader_letters)]) (rf_put rfl) (fun H locs hP hS => ?_)
      refine lv_aload_n hx hb dX5_takesNewName_65 rfl (lv_at hl 0 rfl) ?_
      obtain ⟨z66, hz66, hf⟩ := rf_bd hf
      refine rf_vv (q0 := 12) (ci := 5) hC (c_X5_look l E a P (rf_upL I [(36, reader_next), (39, reader_sort), (40, reader_place), (41, reader_length), (42, reader_whole), (45, reader_fault), (46, reader_faultPlace)]) (rf_upL J [(0, reader_letters), (1, reader_letters)]) A B reader_end x_tape reader_next reader_sort reader_place reader_length reader_letters reader_whole e_reader_end e_x_tape rfl rfl rfl rfl rfl rfl hz66) kV_X5_look tw_473 ⟨Nat.le_of_ble_eq_true rfl, Nat.le_of_ble_eq_true rfl⟩ rfl rfl rfl rfl rfl hP (rf_DX hD) hS rfl hl.1 (rest := []) rfl (Nat.le_of_ble_eq_true rfl) dX5_takesNewName_66 (fun H locs hP hS => ?_)
      rw [rf_cat (f := I) (l := [(36, reader_next), (39, reader_sort), (40, reader_place), (41, reader_length), (42, reader_whole), (45, reader_fault), (46, reader_faultPlace)]) (lc := [(36, z66.1), (39, z66.2.1), (40, z66.2.2.1), (41, z66.2.2.2.1), (42, z66.2.2.2.2.2)]) (l' := [(36, z66.1), (39, z66.2.1), (40, z66.2.2.1), (41, z66.2.2.2.1), (42, z66.2.2.2.2.2), (45, reader_fault), (46, reader_faultPlace)]) rfl] at hP
      rw [rf_cat (f := J) (l := [(0, reader_letters), (1, reader_letters)]) (lc := [(0, z66.2.2.2.2.1)]) (l' := [(0, z66.2.2.2.2.1), (1, reader_letters)]) rfl] at hP
      refine lv_iconst (v := 1) hx hb dX5_takesNewName_69 (by decide) ?_
      obtain rfl := Option.some.inj hf
      exact rf_retz hC hP hS (by decide) rfl rfl dX5_takesNewName_70
    have hf := rf_ie c_48 hf
    exact w_X5_takesNewName_51 hC hD hp3 e_td_wordCount e_td_personCount e_reader_end e_x_tape e_td_wordNames e_td_personNames reader_next reader_sort reader_place reader_length reader_letters reader_whole reader_name reader_fault reader_faultPlace hf _ _ _ hP hS (lv_sub hl [0] rfl)
  have hf := rf_ie c_12 hf
  exact w_X5_takesNewName_15 hC hD hp3 e_td_wordCount e_td_personCount e_reader_end e_x_tape e_td_wordNames e_td_personNames reader_next reader_sort reader_place reader_length reader_letters reader_whole reader_name reader_fault reader_faultPlace hf _ _ _ hP hS (lv_sub hl [0] rfl)
set_option maxHeartbeats 4000000 in
set_option maxRecDepth 100000 in
theorem w_X9_addPerson_td_72 {l : Launch} {p : Program} {e : Env} {s : State} {m : MethodId} {args : Array Value} {below : List Frame} {meth : Method} {c : Code} {A0 : Nat → Prop} {E : rf_E} {a P : Nat → Nat} {I : Nat → Int32} {J : Nat → Int64} {A : Nat → Nat → Int32} {B : Nat → Nat → Int64} {z : Int32 × Int32 × (Nat → Int64) × (Nat → Int32) × (Nat → Int32) × (Nat → Int32)} (hC : rf_C p E s m args meth c cX9_addPerson 6 RX9 (none) A0) (hD : va_D A0 (cX E a P I J A B)) :
    ∀ (s1 : Int32) (s2 : Int32) (t_personCount : Int32) (t_firstFar : Int32) (t_personNames : Nat → Int64) (t_kinds : Nat → Int32) (t_firstWords : Nat → Int32) (t_errands : Nat → Int32), f_X9_addPerson_72 s1 s2 t_personCount t_firstFar t_personNames t_kinds t_firstWords t_errands = some z → ∀ (H : Heap) (locs : List Loc) (ls : Array Slot), va_P (rf_D E) vwCl (cX E a P (rf_upL I [(31, t_personCount), (32, t_firstFar)]) J (rf_upL A [(24, t_kinds), (25, t_firstWords), (26, t_errands)]) (rf_upL B [(5, t_personNames)])) H → va_S A0 s.heap H locs → lv_has ls 6 [(0, .ref (a 11))] → W p l e ({ frames := 0, cells := 0, slots := 0, locals := 0 }) s m args below meth c H locs 0 0 (rf_QV below args s E A0 (cX E a P (rf_upL I [(31, z.1), (32, z.2.1)]) J (rf_upL A [(24, z.2.2.2.1), (25, z.2.2.2.2.1), (26, z.2.2.2.2.2)]) (rf_upL B [(5, z.2.2.1)]))) (F0 m 72 ls [.int s2, .int s1, .ref (a 11)]) := by
  have hx := hC.1
  have hb := hC.2.1
  intro s1 s2 t_personCount t_firstFar t_personNames t_kinds t_firstWords t_errands hf H locs ls hP hS hl
  unfold f_X9_addPerson_72 at hf
  refine lv_ior hx hb dX9_addPerson_72 ?_
  refine pX_td_firstFar hC hD hP hS tw_134 dX9_addPerson_73 (rf_upL I [(31, t_personCount), (32, s1 ||| s2)]) (rf_put rfl) (fun H locs hP hS => ?_)
  refine lv_aload_n hx hb dX9_addPerson_76 rfl (lv_at hl 0 rfl) ?_
  refine lv_dup hx hb dX9_addPerson_77 rfl ?_
  refine gX_td_personCount hC hP tw_126 (v := t_personCount) rfl dX9_addPerson_78 ?_
  refine lv_iconst (v := 1) hx hb dX9_addPerson_81 (by decide) ?_
  refine lv_iadd hx hb dX9_addPerson_82 ?_
  refine pX_td_personCount hC hD hP hS tw_126 dX9_addPerson_83 (rf_upL I [(31, t_personCount + 1), (32, s1 ||| s2)]) (rf_put rfl) (fun H locs hP hS => ?_)
  obtain rfl := Option.some.inj hf
  exact rf_retv hC hP hS rfl dX9_addPerson_86
set_option maxHeartbeats 4000000 in
set_option maxRecDepth 100000 in
theorem c_X9_addPerson_td (l : Launch) (E : rf_E) (a P : Nat → Nat) (I : Nat → Int32) (J : Nat → Int64) (A : Nat → Nat → Int32) (B : Nat → Nat → Int64) (t_personCount : Int32) (t_firstFar : Int32) (t_personNames : Nat → Int64) (t_kinds : Nat → Int32) (t_firstWords : Nat → Int32) (t_errands : Nat → Int32) (v1 : Int64) (v3 : Int32) (v4 : Int32) (v5 : Int32) {z : Int32 × Int32 × (Nat → Int64) × (Nat → Int32) × (Nat → Int32) × (Nat → Int32)} (e_t_personCount : I 31 = t_personCount) (e_t_firstFar : I 32 = t_firstFar) (e_t_personNames : B 5 = t_personNames) (e_t_kinds : A 24 = t_kinds) (e_t_firstWords : A 25 = t_firstWords) (e_t_errands : A 26 = t_errands) (hf : f_X9_addPerson t_personCount t_firstFar t_personNames t_kinds t_firstWords t_errands v1 v3 v4 v5 = some z) : rf_MV l yX9_addPerson cX9_addPerson 6 ({ frames := 0, cells := 0, slots := 0, locals := 0 }) E [.ref (a 11), .long v1, .int v3, .int v4, .int v5] (cX E a P I J A B) (cX E a P (rf_upL I [(31, z.1), (32, z.2.1)]) J (rf_upL A [(24, z.2.2.2.1), (25, z.2.2.2.2.1), (26, z.2.2.2.2.2)]) (rf_upL B [(5, z.2.2.1)])) := by
  unfold f_X9_addPerson at hf
  refine rf_ofV (by decide) (Nat.le_of_ble_eq_true rfl) ?_
  intro p e s m below meth c A0 ls hC hD hP hS hl
  have hC : rf_C p E s m _ meth c cX9_addPerson 6 RX9 (none) A0 := hC
  have hx := hC.1
  have hb := hC.2.1
  have hl : lv_has ls 6 [(0, .ref (a 11)), (1, .long v1), (3, .int v3), (4, .int v4), (5, .int v5)] := hl
  have hP : va_P (rf_D E) vwCl (cX E a P (rf_upL I [(31, t_personCount), (32, t_firstFar)]) J (rf_upL A [(24, t_kinds), (25, t_firstWords), (26, t_errands)]) (rf_upL B [(5, t_personNames)])) s.heap := by
    rw [rf_self (f := I) [(31, t_personCount), (32, t_firstFar)] (rf_fa1 e_t_personCount (rf_fa1 e_t_firstFar rf_fa0))]
    rw [rf_self (f := A) [(24, t_kinds), (25, t_firstWords), (26, t_errands)] (rf_fa1 e_t_kinds (rf_fa1 e_t_firstWords (rf_fa1 e_t_errands rf_fa0)))]
    rw [rf_self (f := B) [(5, t_personNames)] (rf_fa1 e_t_personNames rf_fa0)]
    exact hP
  refine lv_aload_n hx hb dX9_addPerson_0 rfl (lv_at hl 0 rfl) ?_
  refine gX_td_personCount hC hP tw_126 (v := t_personCount) rfl dX9_addPerson_1 ?_
  refine lv_bipush (v := 8) hx hb dX9_addPerson_4 (by decide) ?_
  refine lv_icmp_ge (tgt := 86) hx hb dX9_addPerson_6 (by decide) (fun c_6 => ?_) (fun c_6 => ?_)
  · have hf := rf_it c_6 hf
    obtain rfl := Option.some.inj hf
    exact rf_retv hC hP hS rfl dX9_addPerson_86
  have hf := rf_ie c_6 hf
  refine lv_aload_n hx hb dX9_addPerson_9 rfl (lv_at hl 0 rfl) ?_
  refine gX_td_personNames hC hP tw_91 dX9_addPerson_10 ?_
  refine lv_aload_n hx hb dX9_addPerson_13 rfl (lv_at hl 0 rfl) ?_
  refine gX_td_personCount hC hP tw_126 (v := t_personCount) rfl dX9_addPerson_14 ?_
  refine lv_lload_n hx hb dX9_addPerson_17 rfl (lv_at hl 1 rfl) ?_
  obtain ⟨hi_18, hf⟩ := rf_gu hf
  refine sX_td_personNames hC hD hP hS hi_18 (f := t_personNames) rfl dX9_addPerson_18 (rf_upL B [(5, vp_updL t_personNames (Int32.toNatClampNeg t_personCount) v1)]) (rf_put rfl) (fun H locs hP hS => ?_)
  refine lv_aload_n hx hb dX9_addPerson_19 rfl (lv_at hl 0 rfl) ?_
  refine gX_td_kinds hC hP tw_92 dX9_addPerson_20 ?_
  refine lv_aload_n hx hb dX9_addPerson_23 rfl (lv_at hl 0 rfl) ?_
  refine gX_td_personCount hC hP tw_126 (v := t_personCount) rfl dX9_addPerson_24 ?_
  refine lv_iload_n hx hb dX9_addPerson_27 rfl (lv_at hl 2 rfl) ?_
  obtain ⟨hi_28, hf⟩ := rf_gu hf
  refine sX_td_kinds hC hD hP hS hi_28 (f := t_kinds) rfl dX9_addPerson_28 (rf_upL A [(24, upd t_kinds (Int32.toNatClampNeg t_personCount) v3), (25, t_firstWords), (26, t_errands)]) (rf_put rfl) (fun H locs hP hS => ?_)
  refine lv_aload_n hx hb dX9_addPerson_29 rfl (lv_at hl 0 rfl) ?_
  refine gX_td_firstWords hC hP tw_96 dX9_addPerson_30 ?_
  refine lv_aload_n hx hb dX9_addPerson_33 rfl (lv_at hl 0 rfl) ?_
  refine gX_td_personCount hC hP tw_126 (v := t_personCount) rfl dX9_addPerson_34 ?_
  refine lv_iconst (v := 1) hx hb dX9_addPerson_37 (by decide) ?_
  refine lv_iload hx hb dX9_addPerson_38 (lv_at hl 4 rfl) ?_
  refine lv_ishl hx hb dX9_addPerson_40 ?_
  obtain ⟨hi_41, hf⟩ := rf_gu hf
  refine sX_td_firstWords hC hD hP hS hi_41 (f := t_firstWords) rfl dX9_addPerson_41 (rf_upL A [(24, upd t_kinds (Int32.toNatClampNeg t_personCount) v3), (25, upd t_firstWords (Int32.toNatClampNeg t_personCount) ((1 : Int32) <<< (v5 &&& 31))), (26, t_errands)]) (rf_put rfl) (fun H locs hP hS => ?_)
  refine lv_aload_n hx hb dX9_addPerson_42 rfl (lv_at hl 0 rfl) ?_
  refine gX_td_errands hC hP tw_99 dX9_addPerson_43 ?_
  refine lv_aload_n hx hb dX9_addPerson_46 rfl (lv_at hl 0 rfl) ?_
  refine gX_td_personCount hC hP tw_126 (v := t_personCount) rfl dX9_addPerson_47 ?_
  refine lv_iconst (v := 0) hx hb dX9_addPerson_50 (by decide) ?_
  obtain ⟨hi_51, hf⟩ := rf_gu hf
  refine sX_td_errands hC hD hP hS hi_51 (f := t_errands) rfl dX9_addPerson_51 (rf_upL A [(24, upd t_kinds (Int32.toNatClampNeg t_personCount) v3), (25, upd t_firstWords (Int32.toNatClampNeg t_personCount) ((1 : Int32) <<< (v5 &&& 31))), (26, upd t_errands (Int32.toNatClampNeg t_personCount) 0)]) (rf_put rfl) (fun H locs hP hS => ?_)
  refine lv_aload_n hx hb dX9_addPerson_52 rfl (lv_at hl 0 rfl) ?_
  refine lv_dup hx hb dX9_addPerson_53 rfl ?_
  refine gX_td_firstFar hC hP tw_134 (v := t_firstFar) rfl dX9_addPerson_54 ?_
  refine lv_iload hx hb dX9_addPerson_57 (lv_at hl 3 rfl) ?_
  refine lv_if_eq (tgt := 71) hx hb dX9_addPerson_59 (by decide) (fun c_59 => ?_) (fun c_59 => ?_)
  · have hf := rf_it c_59 hf
    refine lv_iconst (v := 0) hx hb dX9_addPerson_71 (by decide) ?_
    exact w_X9_addPerson_td_72 hC hD t_firstFar 0 t_personCount t_firstFar (vp_updL t_personNames (Int32.toNatClampNeg t_personCount) v1) (upd t_kinds (Int32.toNatClampNeg t_personCount) v3) (upd t_firstWords (Int32.toNatClampNeg t_personCount) ((1 : Int32) <<< (v5 &&& 31))) (upd t_errands (Int32.toNatClampNeg t_personCount) 0) hf _ _ _ hP hS (lv_sub hl [0] rfl)
  have hf := rf_ie c_59 hf
  refine lv_iconst (v := 1) hx hb dX9_addPerson_62 (by decide) ?_
  refine lv_aload_n hx hb dX9_addPerson_63 rfl (lv_at hl 0 rfl) ?_
  refine gX_td_personCount hC hP tw_126 (v := t_personCount) rfl dX9_addPerson_64 ?_
  refine lv_ishl hx hb dX9_addPerson_67 ?_
  refine lv_goto (tgt := 72) hx hb dX9_addPerson_68 (by decide) ?_
  exact w_X9_addPerson_td_72 hC hD t_firstFar ((1 : Int32) <<< (t_personCount &&& 31)) t_personCount t_firstFar (vp_updL t_personNames (Int32.toNatClampNeg t_personCount) v1) (upd t_kinds (Int32.toNatClampNeg t_personCount) v3) (upd t_firstWords (Int32.toNatClampNeg t_personCount) ((1 : Int32) <<< (v5 &&& 31))) (upd t_errands (Int32.toNatClampNeg t_personCount) 0) hf _ _ _ hP hS (lv_sub hl [0] rfl)
set_option maxHeartbeats 4000000 in
set_option maxRecDepth 100000 in
theorem w_X5_readPerson_135 {l : Launch} {p : Program} {e : Env} {s : State} {m : MethodId} {args : Array Value} {below : List Frame} {meth : Method} {c : Code} {A0 : Nat → Prop} {E : rf_E} {a P : Nat → Nat} {I : Nat → Int32} {J : Nat → Int64} {A : Nat → Nat → Int32} {B : Nat → Nat → Int64} {td_wordCount : Int32} {reader_end : Int32} {x_tape : Nat → Int32} {td_wordNames : Nat → Int64} {z : Int32 × Int32 × Int32 × Int32 × Int32 × Int32 × Int32 × Int64 × Int32 × Int64 × Int32 × Int32 × Int32 × (Nat → Int64) × (Nat → Int32) × (Nat → Int32) × (Nat → Int32)} (hC : rf_C p E s m args meth c cX5_readPerson 3 RX5 (some .boolean) A0) (hD : va_D A0 (cX E a P I J A B)) (hp3 : P 3 = a 11) (e_td_wordCount : I 30 = td_wordCount) (e_reader_end : I 35 = reader_end) (e_x_tape : A 0 = x_tape) (e_td_wordNames : B 3 = td_wordNames) :
    ∀ (td_personCount : Int32) (td_firstFar : Int32) (reader_next : Int32) (reader_sort : Int32) (reader_place : Int32) (reader_length : Int32) (reader_letters : Int64) (reader_whole : Int32) (reader_name : Int64) (reader_found : Int32) (reader_fault : Int32) (reader_faultPlace : Int32) (td_personNames : Nat → Int64) (td_kinds : Nat → Int32) (td_firstWords : Nat → Int32) (td_errands : Nat → Int32), f_X5_readPerson_135 td_wordCount reader_end x_tape td_wordNames td_personCount td_firstFar reader_next reader_sort reader_place reader_length reader_letters reader_whole reader_name reader_found reader_fault reader_faultPlace td_personNames td_kinds td_firstWords td_errands = some z → ∀ (H : Heap) (locs : List Loc) (ls : Array Slot), va_P (rf_D E) vwCl (cX E a P (rf_upL I [(31, td_personCount), (32, td_firstFar), (36, reader_next), (39, reader_sort), (40, reader_place), (41, reader_length), (42, reader_whole), (44, reader_found), (45, reader_fault), (46, reader_faultPlace)]) (rf_upL J [(0, reader_letters), (1, reader_name)]) (rf_upL A [(24, td_kinds), (25, td_firstWords), (26, td_errands)]) (rf_upL B [(5, td_personNames)])) H → va_S A0 s.heap H locs → lv_has ls 3 [] → W p l e ({ frames := 9, cells := 0, slots := 0, locals := 264 }) s m args below meth c H locs 0 0 (rf_QI below args s E A0 z.1 (cX E a P (rf_upL I [(31, z.2.1), (32, z.2.2.1), (36, z.2.2.2.1), (39, z.2.2.2.2.1), (40, z.2.2.2.2.2.1), (41, z.2.2.2.2.2.2.1), (42, z.2.2.2.2.2.2.2.2.1), (44, z.2.2.2.2.2.2.2.2.2.2.1), (45, z.2.2.2.2.2.2.2.2.2.2.2.1), (46, z.2.2.2.2.2.2.2.2.2.2.2.2.1)]) (rf_upL J [(0, z.2.2.2.2.2.2.2.1), (1, z.2.2.2.2.2.2.2.2.2.1)]) (rf_upL A [(24, z.2.2.2.2.2.2.2.2.2.2.2.2.2.2.1), (25, z.2.2.2.2.2.2.2.2.2.2.2.2.2.2.2.1), (26, z.2.2.2.2.2.2.2.2.2.2.2.2.2.2.2.2)]) (rf_upL B [(5, z.2.2.2.2.2.2.2.2.2.2.2.2.2.1)]))) (F0 m 135 ls []) := by
  have hx := hC.1
  have hb := hC.2.1
  intro td_personCount td_firstFar reader_next reader_sort reader_place reader_length reader_letters reader_whole reader_name reader_found reader_fault reader_faultPlace td_personNames td_kinds td_firstWords td_errands hf H locs ls hP hS hl
  unfold f_X5_readPerson_135 at hf
  refine lv_iconst (v := 0) hx hb dX5_readPerson_135 (by decide) ?_
  obtain rfl := Option.some.inj hf
  exact rf_retz hC hP hS (by decide) rfl rfl dX5_readPerson_136
set_option maxHeartbeats 4000000 in
set_option maxRecDepth 100000 in
theorem w_X5_readPerson_115 {l : Launch} {p : Program} {e : Env} {s : State} {m : MethodId} {args : Array Value} {below : List Frame} {meth : Method} {c : Code} {A0 : Nat → Prop} {E : rf_E} {a P : Nat → Nat} {I : Nat → Int32} {J : Nat → Int64} {A : Nat → Nat → Int32} {B : Nat → Nat → Int64} {td_wordCount : Int32} {reader_end : Int32} {x_tape : Nat → Int32} {td_wordNames : Nat → Int64} {z : Int32 × Int32 × Int32 × Int32 × Int32 × Int32 × Int32 × Int64 × Int32 × Int64 × Int32 × Int32 × Int32 × (Nat → Int64) × (Nat → Int32) × (Nat → Int32) × (Nat → Int32)} (hC : rf_C p E s m args meth c cX5_readPerson 3 RX5 (some .boolean) A0) (hD : va_D A0 (cX E a P I J A B)) (hp3 : P 3 = a 11) (e_td_wordCount : I 30 = td_wordCount) (e_reader_end : I 35 = reader_end) (e_x_tape : A 0 = x_tape) (e_td_wordNames : B 3 = td_wordNames) :
    ∀ (v1 : Int32) (v2 : Int32) (td_personCount : Int32) (td_firstFar : Int32) (reader_next : Int32) (reader_sort : Int32) (reader_place : Int32) (reader_length : Int32) (reader_letters : Int64) (reader_whole : Int32) (reader_name : Int64) (reader_found : Int32) (reader_fault : Int32) (reader_faultPlace : Int32) (td_personNames : Nat → Int64) (td_kinds : Nat → Int32) (td_firstWords : Nat → Int32) (td_errands : Nat → Int32), f_X5_readPerson_115 td_wordCount reader_end x_tape td_wordNames v1 v2 td_personCount td_firstFar reader_next reader_sort reader_place reader_length reader_letters reader_whole reader_name reader_found reader_fault reader_faultPlace td_personNames td_kinds td_firstWords td_errands = some z → ∀ (H : Heap) (locs : List Loc) (ls : Array Slot), va_P (rf_D E) vwCl (cX E a P (rf_upL I [(31, td_personCount), (32, td_firstFar), (36, reader_next), (39, reader_sort), (40, reader_place), (41, reader_length), (42, reader_whole), (44, reader_found), (45, reader_fault), (46, reader_faultPlace)]) (rf_upL J [(0, reader_letters), (1, reader_name)]) (rf_upL A [(24, td_kinds), (25, td_firstWords), (26, td_errands)]) (rf_upL B [(5, td_personNames)])) H → va_S A0 s.heap H locs → lv_has ls 3 [(0, .ref (a 12)), (1, .int v1), (2, .int v2)] → W p l e ({ frames := 9, cells := 0, slots := 0, locals := 264 }) s m args below meth c H locs 0 0 (rf_QI below args s E A0 z.1 (cX E a P (rf_upL I [(31, z.2.1), (32, z.2.2.1), (36, z.2.2.2.1), (39, z.2.2.2.2.1), (40, z.2.2.2.2.2.1), (41, z.2.2.2.2.2.2.1), (42, z.2.2.2.2.2.2.2.2.1), (44, z.2.2.2.2.2.2.2.2.2.2.1), (45, z.2.2.2.2.2.2.2.2.2.2.2.1), (46, z.2.2.2.2.2.2.2.2.2.2.2.2.1)]) (rf_upL J [(0, z.2.2.2.2.2.2.2.1), (1, z.2.2.2.2.2.2.2.2.2.1)]) (rf_upL A [(24, z.2.2.2.2.2.2.2.2.2.2.2.2.2.2.1), (25, z.2.2.2.2.2.2.2.2.2.2.2.2.2.2.2.1), (26, z.2.2.2.2.2.2.2.2.2.2.2.2.2.2.2.2)]) (rf_upL B [(5, z.2.2.2.2.2.2.2.2.2.2.2.2.2.1)]))) (F0 m 115 ls []) := by
  have hx := hC.1
  have hb := hC.2.1
  intro v1 v2 td_personCount td_firstFar reader_next reader_sort reader_place reader_length reader_letters reader_whole reader_name reader_found reader_fault reader_faultPlace td_personNames td_kinds td_firstWords td_errands hf H locs ls hP hS hl
  unfold f_X5_readPerson_115 at hf
  refine lv_aload_n hx hb dX5_readPerson_115 rfl (lv_at hl 0 rfl) ?_
  obtain ⟨z116, hz116, hf⟩ := rf_bd hf
  refine rf_vv (q0 := 12) (ci := 5) hC (c_X5_look l E a P (rf_upL I [(31, td_personCount), (32, td_firstFar), (36, reader_next), (39, reader_sort), (40, reader_place), (41, reader_length), (42, reader_whole), (44, reader_found), (45, reader_fault), (46, reader_faultPlace)]) (rf_upL J [(0, reader_letters), (1, reader_name)]) (rf_upL A [(24, td_kinds), (25, td_firstWords), (26, td_errands)]) (rf_upL B [(5, td_personNames)]) reader_end x_tape reader_next reader_sort reader_place reader_length reader_letters reader_whole e_reader_end e_x_tape rfl rfl rfl rfl rfl rfl hz116) kV_X5_look tw_473 ⟨Nat.le_of_ble_eq_true rfl, Nat.le_of_ble_eq_true rfl⟩ rfl rfl rfl rfl rfl hP (rf_DX hD) hS rfl hl.1 (rest := []) rfl (Nat.le_of_ble_eq_true rfl) dX5_readPerson_116 (fun H locs hP hS => ?_)
  rw [rf_cat (f := I) (l := [(31, td_personCount), (32, td_firstFar), (36, reader_next), (39, reader_sort), (40, reader_place), (41, reader_length), (42, reader_whole), (44, reader_found), (45, reader_fault), (46, reader_faultPlace)]) (lc := [(36, z116.1), (39, z116.2.1), (40, z116.2.2.1), (41, z116.2.2.2.1), (42, z116.2.2.2.2.2)]) (l' := [(31, td_personCount), (32, td_firstFar), (36, z116.1), (39, z116.2.1), (40, z116.2.2.1), (41, z116.2.2.2.1), (42, z116.2.2.2.2.2), (44, reader_found), (45, reader_fault), (46, reader_faultPlace)]) rfl] at hP
  rw [rf_cat (f := J) (l := [(0, reader_letters), (1, reader_name)]) (lc := [(0, z116.2.2.2.2.1)]) (l' := [(0, z116.2.2.2.2.1), (1, reader_name)]) rfl] at hP
  refine lv_aload_n hx hb dX5_readPerson_119 rfl (lv_at hl 0 rfl) ?_
  refine va_ldcS hx hb hC.2.2.2.1 (lk_19 hC.2.2.2.2.2.2.2.1.2.2.2) dX5_readPerson_120 ?_
  obtain ⟨z122, hz122, hf⟩ := rf_bd hf
  refine rf_vi (q0 := 12) (ci := 5) hC (c_X5_takes l E a P (rf_upL I [(31, td_personCount), (32, td_firstFar), (36, z116.1), (39, z116.2.1), (40, z116.2.2.1), (41, z116.2.2.2.1), (42, z116.2.2.2.2.2), (44, reader_found), (45, reader_fault), (46, reader_faultPlace)]) (rf_upL J [(0, z116.2.2.2.2.1), (1, reader_name)]) (rf_upL A [(24, td_kinds), (25, td_firstWords), (26, td_errands)]) (rf_upL B [(5, td_personNames)]) reader_end x_tape z116.1 z116.2.1 z116.2.2.1 z116.2.2.2.1 z116.2.2.2.2.1 z116.2.2.2.2.2 reader_fault reader_faultPlace 19 e_reader_end e_x_tape rfl rfl rfl rfl rfl rfl rfl rfl (by decide) hz122) kV_X5_takes tw_570 ⟨Nat.le_of_ble_eq_true rfl, Nat.le_of_ble_eq_true rfl⟩ rfl rfl rfl rfl rfl hP (rf_DX hD) hS rfl hl.1 (rest := []) rfl (Nat.le_of_ble_eq_true rfl) dX5_readPerson_122 (fun H locs hP hS => ?_)
  rw [rf_cat (f := I) (l := [(31, td_personCount), (32, td_firstFar), (36, z116.1), (39, z116.2.1), (40, z116.2.2.1), (41, z116.2.2.2.1), (42, z116.2.2.2.2.2), (44, reader_found), (45, reader_fault), (46, reader_faultPlace)]) (lc := [(36, z122.2.1), (39, z122.2.2.1), (40, z122.2.2.2.1), (41, z122.2.2.2.2.1), (42, z122.2.2.2.2.2.2.1), (45, z122.2.2.2.2.2.2.2.1), (46, z122.2.2.2.2.2.2.2.2)]) (l' := [(31, td_personCount), (32, td_firstFar), (36, z122.2.1), (39, z122.2.2.1), (40, z122.2.2.2.1), (41, z122.2.2.2.2.1), (42, z122.2.2.2.2.2.2.1), (44, reader_found), (45, z122.2.2.2.2.2.2.2.1), (46, z122.2.2.2.2.2.2.2.2)]) rfl] at hP
  rw [rf_cat (f := J) (l := [(0, z116.2.2.2.2.1), (1, reader_name)]) (lc := [(0, z122.2.2.2.2.2.1)]) (l' := [(0, z122.2.2.2.2.2.1), (1, reader_name)]) rfl] at hP
  refine lv_if_eq (tgt := 135) hx hb dX5_readPerson_125 (by decide) (fun c_125 => ?_) (fun c_125 => ?_)
  · have hf := rf_it c_125 hf
    exact w_X5_readPerson_135 hC hD hp3 e_td_wordCount e_reader_end e_x_tape e_td_wordNames td_personCount td_firstFar z122.2.1 z122.2.2.1 z122.2.2.2.1 z122.2.2.2.2.1 z122.2.2.2.2.2.1 z122.2.2.2.2.2.2.1 reader_name reader_found z122.2.2.2.2.2.2.2.1 z122.2.2.2.2.2.2.2.2 td_personNames td_kinds td_firstWords td_errands hf _ _ _ hP hS (lv_sub hl [] rfl)
  have hf := rf_ie c_125 hf
  refine lv_aload_n hx hb dX5_readPerson_128 rfl (lv_at hl 0 rfl) ?_
  obtain ⟨z129, hz129, hf⟩ := rf_bd hf
  refine rf_vi (q0 := 12) (ci := 5) hC (c_X5_seesToldWord l E a P (rf_upL I [(31, td_personCount), (32, td_firstFar), (36, z122.2.1), (39, z122.2.2.1), (40, z122.2.2.2.1), (41, z122.2.2.2.2.1), (42, z122.2.2.2.2.2.2.1), (44, reader_found), (45, z122.2.2.2.2.2.2.2.1), (46, z122.2.2.2.2.2.2.2.2)]) (rf_upL J [(0, z122.2.2.2.2.2.1), (1, reader_name)]) (rf_upL A [(24, td_kinds), (25, td_firstWords), (26, td_errands)]) (rf_upL B [(5, td_personNames)]) td_wordCount z122.2.2.1 z122.2.2.2.1 z122.2.2.2.2.1 z122.2.2.2.2.2.1 td_wordNames reader_found z122.2.2.2.2.2.2.2.1 z122.2.2.2.2.2.2.2.2 hp3 e_td_wordCount rfl rfl rfl rfl e_td_wordNames rfl rfl rfl hz129) kV_X5_seesToldWord tw_623 ⟨Nat.le_of_ble_eq_true rfl, Nat.le_of_ble_eq_true rfl⟩ rfl rfl rfl rfl rfl hP (rf_DX hD) hS rfl hl.1 (rest := []) rfl (Nat.le_of_ble_eq_true rfl) dX5_readPerson_129 (fun H locs hP hS => ?_)
  rw [rf_cat (f := I) (l := [(31, td_personCount), (32, td_firstFar), (36, z122.2.1), (39, z122.2.2.1), (40, z122.2.2.2.1), (41, z122.2.2.2.2.1), (42, z122.2.2.2.2.2.2.1), (44, reader_found), (45, z122.2.2.2.2.2.2.2.1), (46, z122.2.2.2.2.2.2.2.2)]) (lc := [(44, z129.2.1), (45, z129.2.2.1), (46, z129.2.2.2)]) (l' := [(31, td_personCount), (32, td_firstFar), (36, z122.2.1), (39, z122.2.2.1), (40, z122.2.2.2.1), (41, z122.2.2.2.2.1), (42, z122.2.2.2.2.2.2.1), (44, z129.2.1), (45, z129.2.2.1), (46, z129.2.2.2)]) rfl] at hP
  refine lv_if_ne (tgt := 137) hx hb dX5_readPerson_132 (by decide) (fun c_132 => ?_) (fun c_132 => ?_)
  · have hf := rf_ie c_132 hf
    refine lv_aload_n hx hb dX5_readPerson_137 rfl (lv_at hl 0 rfl) ?_
    obtain ⟨z138, hz138, hf⟩ := rf_bd hf
    refine rf_vv (q0 := 12) (ci := 5) hC (c_X5_look l E a P (rf_upL I [(31, td_personCount), (32, td_firstFar), (36, z122.2.1), (39, z122.2.2.1), (40, z122.2.2.2.1), (41, z122.2.2.2.2.1), (42, z122.2.2.2.2.2.2.1), (44, z129.2.1), (45, z129.2.2.1), (46, z129.2.2.2)]) (rf_upL J [(0, z122.2.2.2.2.2.1), (1, reader_name)]) (rf_upL A [(24, td_kinds), (25, td_firstWords), (26, td_errands)]) (rf_upL B [(5, td_personNames)]) reader_end x_tape z122.2.1 z122.2.2.1 z122.2.2.2.1 z122.2.2.2.2.1 z122.2.2.2.2.2.1 z122.2.2.2.2.2.2.1 e_reader_end e_x_tape rfl rfl rfl rfl rfl rfl hz138) kV_X5_look tw_473 ⟨Nat.le_of_ble_eq_true rfl, Nat.le_of_ble_eq_true rfl⟩ rfl rfl rfl rfl rfl hP (rf_DX hD) hS rfl hl.1 (rest := []) rfl (Nat.le_of_ble_eq_true rfl) dX5_readPerson_138 (fun H locs hP hS => ?_)
    rw [rf_cat (f := I) (l := [(31, td_personCount), (32, td_firstFar), (36, z122.2.1), (39, z122.2.2.1), (40, z122.2.2.2.1), (41, z122.2.2.2.2.1), (42, z122.2.2.2.2.2.2.1), (44, z129.2.1), (45, z129.2.2.1), (46, z129.2.2.2)]) (lc := [(36, z138.1), (39, z138.2.1), (40, z138.2.2.1), (41, z138.2.2.2.1), (42, z138.2.2.2.2.2)]) (l' := [(31, td_personCount), (32, td_firstFar), (36, z138.1), (39, z138.2.1), (40, z138.2.2.1), (41, z138.2.2.2.1), (42, z138.2.2.2.2.2), (44, z129.2.1), (45, z129.2.2.1), (46, z129.2.2.2)]) rfl] at hP
    rw [rf_cat (f := J) (l := [(0, z122.2.2.2.2.2.1), (1, reader_name)]) (lc := [(0, z138.2.2.2.2.1)]) (l' := [(0, z138.2.2.2.2.1), (1, reader_name)]) rfl] at hP
    refine lv_aload_n hx hb dX5_readPerson_141 rfl (lv_at hl 0 rfl) ?_
    refine gX_reader_tale hC hP tw_338 (v := a 11) hp3 dX5_readPerson_142 ?_
    refine lv_aload_n hx hb dX5_readPerson_145 rfl (lv_at hl 0 rfl) ?_
    refine gX_reader_name hC hP tw_348 (v := reader_name) rfl dX5_readPerson_146 ?_
    refine lv_iload_n hx hb dX5_readPerson_149 rfl (lv_at hl 1 rfl) ?_
    refine lv_iload_n hx hb dX5_readPerson_150 rfl (lv_at hl 2 rfl) ?_
    refine lv_aload_n hx hb dX5_readPerson_151 rfl (lv_at hl 0 rfl) ?_
    refine gX_reader_found hC hP tw_351 (v := z129.2.1) rfl dX5_readPerson_152 ?_
    obtain ⟨z155, hz155, hf⟩ := rf_bd hf
    refine rf_vv (q0 := 11) (ci := 9) hC (c_X9_addPerson_td l E a P (rf_upL I [(31, td_personCount), (32, td_firstFar), (36, z138.1), (39, z138.2.1), (40, z138.2.2.1), (41, z138.2.2.2.1), (42, z138.2.2.2.2.2), (44, z129.2.1), (45, z129.2.2.1), (46, z129.2.2.2)]) (rf_upL J [(0, z138.2.2.2.2.1), (1, reader_name)]) (rf_upL A [(24, td_kinds), (25, td_firstWords), (26, td_errands)]) (rf_upL B [(5, td_personNames)]) td_personCount td_firstFar td_personNames td_kinds td_firstWords td_errands reader_name v1 v2 z129.2.1 rfl rfl rfl rfl rfl rfl hz155) kV_X9_addPerson tw_627 ⟨Nat.le_of_ble_eq_true rfl, Nat.le_of_ble_eq_true rfl⟩ rfl rfl rfl rfl rfl hP (rf_DX hD) hS rfl hl.1 (rest := []) rfl (Nat.le_of_ble_eq_true rfl) dX5_readPerson_155 (fun H locs hP hS => ?_)
    rw [rf_cat (f := I) (l := [(31, td_personCount), (32, td_firstFar), (36, z138.1), (39, z138.2.1), (40, z138.2.2.1), (41, z138.2.2.2.1), (42, z138.2.2.2.2.2), (44, z129.2.1), (45, z129.2.2.1), (46, z129.2.2.2)]) (lc := [(31, z155.1), (32, z155.2.1)]) (l' := [(31, z155.1), (32, z155.2.1), (36, z138.1), (39, z138.2.1), (40, z138.2.2.1), (41, z138.2.2.2.1), (42, z138.2.2.2.2.2), (44, z129.2.1), (45, z129.2.2.1), (46, z129.2.2.2)]) rfl] at hP
    rw [rf_cat (f := A) (l := [(24, td_kinds), (25, td_firstWords), (26, td_errands)]) (lc := [(24, z155.2.2.2.1), (25, z155.2.2.2.2.1), (26, z155.2.2.2.2.2)]) (l' := [(24, z155.2.2.2.1), (25, z155.2.2.2.2.1), (26, z155.2.2.2.2.2)]) rfl] at hP
    rw [rf_cat (f := B) (l := [(5, td_personNames)]) (lc := [(5, z155.2.2.1)]) (l' := [(5, z155.2.2.1)]) rfl] at hP
    refine lv_iconst (v := 1) hx hb dX5_readPerson_158 (by decide) ?_
    obtain rfl := Option.some.inj hf
    exact rf_retz hC hP hS (by decide) rfl rfl dX5_readPerson_159
  have hf := rf_it c_132 hf
  exact w_X5_readPerson_135 hC hD hp3 e_td_wordCount e_reader_end e_x_tape e_td_wordNames td_personCount td_firstFar z122.2.1 z122.2.2.1 z122.2.2.2.1 z122.2.2.2.2.1 z122.2.2.2.2.2.1 z122.2.2.2.2.2.2.1 reader_name z129.2.1 z129.2.2.1 z129.2.2.2 td_personNames td_kinds td_firstWords td_errands hf _ _ _ hP hS (lv_sub hl [] rfl)
set_option maxHeartbeats 4000000 in
set_option maxRecDepth 100000 in
theorem w_X5_readPerson_62 {l : Launch} {p : Program} {e : Env} {s : State} {m : MethodId} {args : Array Value} {below : List Frame} {meth : Method} {c : Code} {A0 : Nat → Prop} {E : rf_E} {a P : Nat → Nat} {I : Nat → Int32} {J : Nat → Int64} {A : Nat → Nat → Int32} {B : Nat → Nat → Int64} {td_wordCount : Int32} {reader_end : Int32} {x_tape : Nat → Int32} {td_wordNames : Nat → Int64} {z : Int32 × Int32 × Int32 × Int32 × Int32 × Int32 × Int32 × Int64 × Int32 × Int64 × Int32 × Int32 × Int32 × (Nat → Int64) × (Nat → Int32) × (Nat → Int32) × (Nat → Int32)} (hC : rf_C p E s m args meth c cX5_readPerson 3 RX5 (some .boolean) A0) (hD : va_D A0 (cX E a P I J A B)) (hp3 : P 3 = a 11) (e_td_wordCount : I 30 = td_wordCount) (e_reader_end : I 35 = reader_end) (e_x_tape : A 0 = x_tape) (e_td_wordNames : B 3 = td_wordNames) :
    ∀ (s0 : Int32) (td_personCount : Int32) (td_firstFar : Int32) (reader_next : Int32) (reader_sort : Int32) (reader_place : Int32) (reader_length : Int32) (reader_letters : Int64) (reader_whole : Int32) (reader_name : Int64) (reader_found : Int32) (reader_fault : Int32) (reader_faultPlace : Int32) (td_personNames : Nat → Int64) (td_kinds : Nat → Int32) (td_firstWords : Nat → Int32) (td_errands : Nat → Int32), f_X5_readPerson_62 td_wordCount reader_end x_tape td_wordNames s0 td_personCount td_firstFar reader_next reader_sort reader_place reader_length reader_letters reader_whole reader_name reader_found reader_fault reader_faultPlace td_personNames td_kinds td_firstWords td_errands = some z → ∀ (H : Heap) (locs : List Loc) (ls : Array Slot), va_P (rf_D E) vwCl (cX E a P (rf_upL I [(31, td_personCount), (32, td_firstFar), (36, reader_next), (39, reader_sort), (40, reader_place), (41, reader_length), (42, reader_whole), (44, reader_found), (45, reader_fault), (46, reader_faultPlace)]) (rf_upL J [(0, reader_letters), (1, reader_name)]) (rf_upL A [(24, td_kinds), (25, td_firstWords), (26, td_errands)]) (rf_upL B [(5, td_personNames)])) H → va_S A0 s.heap H locs → lv_has ls 3 [(0, .ref (a 12))] → W p l e ({ frames := 9, cells := 0, slots := 0, locals := 264 }) s m args below meth c H locs 0 0 (rf_QI below args s E A0 z.1 (cX E a P (rf_upL I [(31, z.2.1), (32, z.2.2.1), (36, z.2.2.2.1), (39, z.2.2.2.2.1), (40, z.2.2.2.2.2.1), (41, z.2.2.2.2.2.2.1), (42, z.2.2.2.2.2.2.2.2.1), (44, z.2.2.2.2.2.2.2.2.2.2.1), (45, z.2.2.2.2.2.2.2.2.2.2.2.1), (46, z.2.2.2.2.2.2.2.2.2.2.2.2.1)]) (rf_upL J [(0, z.2.2.2.2.2.2.2.1), (1, z.2.2.2.2.2.2.2.2.2.1)]) (rf_upL A [(24, z.2.2.2.2.2.2.2.2.2.2.2.2.2.2.1), (25, z.2.2.2.2.2.2.2.2.2.2.2.2.2.2.2.1), (26, z.2.2.2.2.2.2.2.2.2.2.2.2.2.2.2.2)]) (rf_upL B [(5, z.2.2.2.2.2.2.2.2.2.2.2.2.2.1)]))) (F0 m 62 ls [.int s0]) := by
  have hx := hC.1
  have hb := hC.2.1
  intro s0 td_personCount td_firstFar reader_next reader_sort reader_place reader_length reader_letters reader_whole reader_name reader_found reader_fault reader_faultPlace td_personNames td_kinds td_firstWords td_errands hf H locs ls hP hS hl
  unfold f_X5_readPerson_62 at hf
  refine lv_istore_n (lv' := [(1, .int s0), (0, .ref (a 12))]) hx hb dX5_readPerson_62 rfl hl (by decide) rfl (fun ls hl => ?_)
  refine lv_iload_n hx hb dX5_readPerson_63 rfl (lv_at hl 0 rfl) ?_
  refine lv_iconst (v := (-1)) hx hb dX5_readPerson_64 (by decide) ?_
  refine lv_icmp_ne (tgt := 74) hx hb dX5_readPerson_65 (by decide) (fun c_65 => ?_) (fun c_65 => ?_)
  · have hf := rf_ie c_65 hf
    refine lv_aload_n hx hb dX5_readPerson_74 rfl (lv_at hl 1 rfl) ?_
    obtain ⟨z75, hz75, hf⟩ := rf_bd hf
    refine rf_vv (q0 := 12) (ci := 5) hC (c_X5_look l E a P (rf_upL I [(31, td_personCount), (32, td_firstFar), (36, reader_next), (39, reader_sort), (40, reader_place), (41, reader_length), (42, reader_whole), (44, reader_found), (45, reader_fault), (46, reader_faultPlace)]) (rf_upL J [(0, reader_letters), (1, reader_name)]) (rf_upL A [(24, td_kinds), (25, td_firstWords), (26, td_errands)]) (rf_upL B [(5, td_personNames)]) reader_end x_tape reader_next reader_sort reader_place reader_length reader_letters reader_whole e_reader_end e_x_tape rfl rfl rfl rfl rfl rfl hz75) kV_X5_look tw_473 ⟨Nat.le_of_ble_eq_true rfl, Nat.le_of_ble_eq_true rfl⟩ rfl rfl rfl rfl rfl hP (rf_DX hD) hS rfl hl.1 (rest := []) rfl (Nat.le_of_ble_eq_true rfl) dX5_readPerson_75 (fun H locs hP hS => ?_)
    rw [rf_cat (f := I) (l := [(31, td_personCount), (32, td_firstFar), (36, reader_next), (39, reader_sort), (40, reader_place), (41, reader_length), (42, reader_whole), (44, reader_found), (45, reader_fault), (46, reader_faultPlace)]) (lc := [(36, z75.1), (39, z75.2.1), (40, z75.2.2.1), (41, z75.2.2.2.1), (42, z75.2.2.2.2.2)]) (l' := [(31, td_personCount), (32, td_firstFar), (36, z75.1), (39, z75.2.1), (40, z75.2.2.1), (41, z75.2.2.2.1), (42, z75.2.2.2.2.2), (44, reader_found), (45, reader_fault), (46, reader_faultPlace)]) rfl] at hP
    rw [rf_cat (f := J) (l := [(0, reader_letters), (1, reader_name)]) (lc := [(0, z75.2.2.2.2.1)]) (l' := [(0, z75.2.2.2.2.1), (1, reader_name)]) rfl] at hP
    refine lv_aload_n hx hb dX5_readPerson_78 rfl (lv_at hl 1 rfl) ?_
    refine va_ldcS hx hb hC.2.2.2.1 (lk_16 hC.2.2.2.2.2.2.2.1.2.2.2) dX5_readPerson_79 ?_
    obtain ⟨z81, hz81, hf⟩ := rf_bd hf
    refine rf_vi (q0 := 12) (ci := 5) hC (c_X5_takes l E a P (rf_upL I [(31, td_personCount), (32, td_firstFar), (36, z75.1), (39, z75.2.1), (40, z75.2.2.1), (41, z75.2.2.2.1), (42, z75.2.2.2.2.2), (44, reader_found), (45, reader_fault), (46, reader_faultPlace)]) (rf_upL J [(0, z75.2.2.2.2.1), (1, reader_name)]) (rf_upL A [(24, td_kinds), (25, td_firstWords), (26, td_errands)]) (rf_upL B [(5, td_personNames)]) reader_end x_tape z75.1 z75.2.1 z75.2.2.1 z75.2.2.2.1 z75.2.2.2.2.1 z75.2.2.2.2.2 reader_fault reader_faultPlace 16 e_reader_end e_x_tape rfl rfl rfl rfl rfl rfl rfl rfl (by decide) hz81) kV_X5_takes tw_570 ⟨Nat.le_of_ble_eq_true rfl, Nat.le_of_ble_eq_true rfl⟩ rfl rfl rfl rfl rfl hP (rf_DX hD) hS rfl hl.1 (rest := []) rfl (Nat.le_of_ble_eq_true rfl) dX5_readPerson_81 (fun H locs hP hS => ?_)
    rw [rf_cat (f := I) (l := [(31, td_personCount), (32, td_firstFar), (36, z75.1), (39, z75.2.1), (40, z75.2.2.1), (41, z75.2.2.2.1), (42, z75.2.2.2.2.2), (44, reader_found), (45, reader_fault), (46, reader_faultPlace)]) (lc := [(36, z81.2.1), (39, z81.2.2.1), (40, z81.2.2.2.1), (41, z81.2.2.2.2.1), (42, z81.2.2.2.2.2.2.1), (45, z81.2.2.2.2.2.2.2.1), (46, z81.2.2.2.2.2.2.2.2)]) (l' := [(31, td_personCount), (32, td_firstFar), (36, z81.2.1), (39, z81.2.2.1), (40, z81.2.2.2.1), (41, z81.2.2.2.2.1), (42, z81.2.2.2.2.2.2.1), (44, reader_found), (45, z81.2.2.2.2.2.2.2.1), (46, z81.2.2.2.2.2.2.2.2)]) rfl] at hP
    rw [rf_cat (f := J) (l := [(0, z75.2.2.2.2.1), (1, reader_name)]) (lc := [(0, z81.2.2.2.2.2.1)]) (l' := [(0, z81.2.2.2.2.2.1), (1, reader_name)]) rfl] at hP
    refine lv_if_ne (tgt := 89) hx hb dX5_readPerson_84 (by decide) (fun c_84 => ?_) (fun c_84 => ?_)
    · have hf := rf_ie c_84 hf
      refine lv_aload_n hx hb dX5_readPerson_89 rfl (lv_at hl 1 rfl) ?_
      refine va_ldcS hx hb hC.2.2.2.1 (lk_17 hC.2.2.2.2.2.2.2.1.2.2.2) dX5_readPerson_90 ?_
      obtain ⟨z92, hz92, hf⟩ := rf_bd hf
      refine rf_vi (q0 := 12) (ci := 5) hC (c_X5_is l E a P (rf_upL I [(31, td_personCount), (32, td_firstFar), (36, z81.2.1), (39, z81.2.2.1), (40, z81.2.2.2.1), (41, z81.2.2.2.2.1), (42, z81.2.2.2.2.2.2.1), (44, reader_found), (45, z81.2.2.2.2.2.2.2.1), (46, z81.2.2.2.2.2.2.2.2)]) (rf_upL J [(0, z81.2.2.2.2.2.1), (1, reader_name)]) (rf_upL A [(24, td_kinds), (25, td_firstWords), (26, td_errands)]) (rf_upL B [(5, td_personNames)]) z81.2.2.1 z81.2.2.2.2.1 z81.2.2.2.2.2.1 17 rfl rfl rfl (by decide) hz92) kV_X5_is tw_494 ⟨Nat.le_of_ble_eq_true rfl, Nat.le_of_ble_eq_true rfl⟩ rfl rfl rfl rfl rfl hP (rf_DX hD) hS rfl hl.1 (rest := []) rfl (Nat.le_of_ble_eq_true rfl) dX5_readPerson_92 (fun H locs hP hS => ?_)
      refine lv_istore_n (lv' := [(2, .int z92), (1, .int s0), (0, .ref (a 12))]) hx hb dX5_readPerson_95 rfl hl (by decide) rfl (fun ls hl => ?_)
      refine lv_iload_n hx hb dX5_readPerson_96 rfl (lv_at hl 0 rfl) ?_
      refine lv_if_ne (tgt := 115) hx hb dX5_readPerson_97 (by decide) (fun c_97 => ?_) (fun c_97 => ?_)
      · have hf := rf_ie c_97 hf
        exact w_X5_readPerson_115 hC hD hp3 e_td_wordCount e_reader_end e_x_tape e_td_wordNames s0 z92 td_personCount td_firstFar z81.2.1 z81.2.2.1 z81.2.2.2.1 z81.2.2.2.2.1 z81.2.2.2.2.2.1 z81.2.2.2.2.2.2.1 reader_name reader_found z81.2.2.2.2.2.2.2.1 z81.2.2.2.2.2.2.2.2 td_personNames td_kinds td_firstWords td_errands hf _ _ _ hP hS (lv_sub hl [2, 1, 0] rfl)
      have hf := rf_it c_97 hf
      refine lv_aload_n hx hb dX5_readPerson_100 rfl (lv_at hl 2 rfl) ?_
      refine va_ldcS hx hb hC.2.2.2.1 (lk_18 hC.2.2.2.2.2.2.2.1.2.2.2) dX5_readPerson_101 ?_
      obtain ⟨z103, hz103, hf⟩ := rf_bd hf
      refine rf_vi (q0 := 12) (ci := 5) hC (c_X5_is l E a P (rf_upL I [(31, td_personCount), (32, td_firstFar), (36, z81.2.1), (39, z81.2.2.1), (40, z81.2.2.2.1), (41, z81.2.2.2.2.1), (42, z81.2.2.2.2.2.2.1), (44, reader_found), (45, z81.2.2.2.2.2.2.2.1), (46, z81.2.2.2.2.2.2.2.2)]) (rf_upL J [(0, z81.2.2.2.2.2.1), (1, reader_name)]) (rf_upL A [(24, td_kinds), (25, td_firstWords), (26, td_errands)]) (rf_upL B [(5, td_personNames)]) z81.2.2.1 z81.2.2.2.2.1 z81.2.2.2.2.2.1 18 rfl rfl rfl (by decide) hz103) kV_X5_is tw_494 ⟨Nat.le_of_ble_eq_true rfl, Nat.le_of_ble_eq_true rfl⟩ rfl rfl rfl rfl rfl hP (rf_DX hD) hS rfl hl.1 (rest := []) rfl (Nat.le_of_ble_eq_true rfl) dX5_readPerson_103 (fun H locs hP hS => ?_)
      refine lv_if_ne (tgt := 115) hx hb dX5_readPerson_106 (by decide) (fun c_106 => ?_) (fun c_106 => ?_)
      · have hf := rf_ie c_106 hf
        exact w_X5_readPerson_115 hC hD hp3 e_td_wordCount e_reader_end e_x_tape e_td_wordNames s0 z92 td_personCount td_firstFar z81.2.1 z81.2.2.1 z81.2.2.2.1 z81.2.2.2.2.1 z81.2.2.2.2.2.1 z81.2.2.2.2.2.2.1 reader_name reader_found z81.2.2.2.2.2.2.2.1 z81.2.2.2.2.2.2.2.2 td_personNames td_kinds td_firstWords td_errands hf _ _ _ hP hS (lv_sub hl [2, 1, 0] rfl)
      have hf := rf_it c_106 hf
      refine lv_aload_n hx hb dX5_readPerson_109 rfl (lv_at hl 2 rfl) ?_
      refine lv_iconst (v := 1) hx hb dX5_readPerson_110 (by decide) ?_
      obtain ⟨z111, hz111, hf⟩ := rf_bd hf
      refine rf_vi (q0 := 12) (ci := 5) hC (c_X5_fail l E a P (rf_upL I [(31, td_personCount), (32, td_firstFar), (36, z81.2.1), (39, z81.2.2.1), (40, z81.2.2.2.1), (41, z81.2.2.2.2.1), (42, z81.2.2.2.2.2.2.1), (44, reader_found), (45, z81.2.2.2.2.2.2.2.1), (46, z81.2.2.2.2.2.2.2.2)]) (rf_upL J [(0, z81.2.2.2.2.2.1), (1, reader_name)]) (rf_upL A [(24, td_kinds), (25, td_firstWords), (26, td_errands)]) (rf_upL B [(5, td_personNames)]) z81.2.2.2.1 z81.2.2.2.2.2.2.2.1 z81.2.2.2.2.2.2.2.2 1 rfl rfl rfl hz111) kV_X5_fail tw_553 ⟨Nat.le_of_ble_eq_true rfl, Nat.le_of_ble_eq_true rfl⟩ rfl rfl rfl rfl rfl hP (rf_DX hD) hS rfl hl.1 (rest := []) rfl (Nat.le_of_ble_eq_true rfl) dX5_readPerson_111 (fun H locs hP hS => ?_)
      rw [rf_cat (f := I) (l := [(31, td_personCount), (32, td_firstFar), (36, z81.2.1), (39, z81.2.2.1), (40, z81.2.2.2.1), (41, z81.2.2.2.2.1), (42, z81.2.2.2.2.2.2.1), (44, reader_found), (45, z81.2.2.2.2.2.2.2.1), (46, z81.2.2.2.2.2.2.2.2)]) (lc := [(45, z111.2.1), (46, z111.2.2)]) (l' := [(31, td_personCount), (32, td_firstFar), (36, z81.2.1), (39, z81.2.2.1), (40, z81.2.2.2.1), (41, z81.2.2.2.2.1), (42, z81.2.2.2.2.2.2.1), (44, reader_found), (45, z111.2.1), (46, z111.2.2)]) rfl] at hP
      obtain ⟨hz_114, hf⟩ := rf_gu hf
      obtain rfl := Option.some.inj hf
      exact rf_retz hC hP hS hz_114 rfl rfl dX5_readPerson_114
    have hf := rf_it c_84 hf
    refine lv_iconst (v := 0) hx hb dX5_readPerson_87 (by decide) ?_
    obtain rfl := Option.some.inj hf
    exact rf_retz hC hP hS (by decide) rfl rfl dX5_readPerson_88
  have hf := rf_it c_65 hf
  refine lv_aload_n hx hb dX5_readPerson_68 rfl (lv_at hl 1 rfl) ?_
  refine lv_iconst (v := 1) hx hb dX5_readPerson_69 (by decide) ?_
  obtain ⟨z70, hz70, hf⟩ := rf_bd hf
  refine rf_vi (q0 := 12) (ci := 5) hC (c_X5_fail l E a P (rf_upL I [(31, td_personCount), (32, td_firstFar), (36, reader_next), (39, reader_sort), (40, reader_place), (41, reader_length), (42, reader_whole), (44, reader_found), (45, reader_fault), (46, reader_faultPlace)]) (rf_upL J [(0, reader_letters), (1, reader_name)]) (rf_upL A [(24, td_kinds), (25, td_firstWords), (26, td_errands)]) (rf_upL B [(5, td_personNames)]) reader_place reader_fault reader_faultPlace 1 rfl rfl rfl hz70) kV_X5_fail tw_553 ⟨Nat.le_of_ble_eq_true rfl, Nat.le_of_ble_eq_true rfl⟩ rfl rfl rfl rfl rfl hP (rf_DX hD) hS rfl hl.1 (rest := []) rfl (Nat.le_of_ble_eq_true rfl) dX5_readPerson_70 (fun H locs hP hS => ?_)
  rw [rf_cat (f := I) (l := [(31, td_personCount), (32, td_firstFar), (36, reader_next), (39, reader_sort), (40, reader_place), (41, reader_length), (42, reader_whole), (44, reader_found), (45, reader_fault), (46, reader_faultPlace)]) (lc := [(45, z70.2.1), (46, z70.2.2)]) (l' := [(31, td_personCount), (32, td_firstFar), (36, reader_next), (39, reader_sort), (40, reader_place), (41, reader_length), (42, reader_whole), (44, reader_found), (45, z70.2.1), (46, z70.2.2)]) rfl] at hP
  obtain ⟨hz_73, hf⟩ := rf_gu hf
  obtain rfl := Option.some.inj hf
  exact rf_retz hC hP hS hz_73 rfl rfl dX5_readPerson_73
set_option maxHeartbeats 4000000 in
set_option maxRecDepth 100000 in
theorem c_X5_readPerson (l : Launch) (E : rf_E) (a P : Nat → Nat) (I : Nat → Int32) (J : Nat → Int64) (A : Nat → Nat → Int32) (B : Nat → Nat → Int64) (td_wordCount : Int32) (reader_end : Int32) (x_tape : Nat → Int32) (td_wordNames : Nat → Int64) (td_personCount : Int32) (td_firstFar : Int32) (reader_next : Int32) (reader_sort : Int32) (reader_place : Int32) (reader_length : Int32) (reader_letters : Int64) (reader_whole : Int32) (reader_name : Int64) (reader_found : Int32) (reader_fault : Int32) (reader_faultPlace : Int32) (td_personNames : Nat → Int64) (td_kinds : Nat → Int32) (td_firstWords : Nat → Int32) (td_errands : Nat → Int32) {z : Int32 × Int32 × Int32 × Int32 × Int32 × Int32 × Int32 × Int64 × Int32 × Int64 × Int32 × Int32 × Int32 × (Nat → Int64) × (Nat → Int32) × (Nat → Int32) × (Nat → Int32)} (hp3 : P 3 = a 11) (e_td_wordCount : I 30 = td_wordCount) (e_reader_end : I 35 = reader_end) (e_x_tape : A 0 = x_tape) (e_td_wordNames : B 3 = td_wordNames) (e_td_personCount : I 31 = td_personCount) (e_td_firstFar : I 32 = td_firstFar) (e_reader_next : I 36 = reader_next) (e_reader_sort : I 39 = reader_sort) (e_reader_place : I 40 = reader_place) (e_reader_length : I 41 = reader_length) (e_reader_letters : J 0 = reader_letters) (e_reader_whole : I 42 = reader_whole) (e_reader_name : J 1 = reader_name) (e_reader_found : I 44 = reader_found) (e_reader_fault : I 45 = reader_fault) (e_reader_faultPlace : I 46 = reader_faultPlace) (e_td_personNames : B 5 = td_personNames) (e_td_kinds : A 24 = td_kinds) (e_td_firstWords : A 25 = td_firstWords) (e_td_errands : A 26 = td_errands) (hf : f_X5_readPerson td_wordCount reader_end x_tape td_wordNames td_personCount td_firstFar reader_next reader_sort reader_place reader_length reader_letters reader_whole reader_name reader_found reader_fault reader_faultPlace td_personNames td_kinds td_firstWords td_errands = some z) : rf_MI l yX5_readPerson cX5_readPerson 3 (some .boolean) ({ frames := 9, cells := 0, slots := 0, locals := 264 }) E [.ref (a 12)] (cX E a P I J A B) z.1 (cX E a P (rf_upL I [(31, z.2.1), (32, z.2.2.1), (36, z.2.2.2.1), (39, z.2.2.2.2.1), (40, z.2.2.2.2.2.1), (41, z.2.2.2.2.2.2.1), (42, z.2.2.2.2.2.2.2.2.1), (44, z.2.2.2.2.2.2.2.2.2.2.1), (45, z.2.2.2.2.2.2.2.2.2.2.2.1), (46, z.2.2.2.2.2.2.2.2.2.2.2.2.1)]) (rf_upL J [(0, z.2.2.2.2.2.2.2.1), (1, z.2.2.2.2.2.2.2.2.2.1)]) (rf_upL A [(24, z.2.2.2.2.2.2.2.2.2.2.2.2.2.2.1), (25, z.2.2.2.2.2.2.2.2.2.2.2.2.2.2.2.1), (26, z.2.2.2.2.2.2.2.2.2.2.2.2.2.2.2.2)]) (rf_upL B [(5, z.2.2.2.2.2.2.2.2.2.2.2.2.2.1)])) := by
  unfold f_X5_readPerson at hf
  refine rf_ofI (by decide) (Nat.le_of_ble_eq_true rfl) ?_
  intro p e s m below meth c A0 ls hC hD hP hS hl
  have hC : rf_C p E s m _ meth c cX5_readPerson 3 RX5 (some .boolean) A0 := hC
  have hx := hC.1
  have hb := hC.2.1
  have hl : lv_has ls 3 [(0, .ref (a 12))] := hl
  have hP : va_P (rf_D E) vwCl (cX E a P (rf_upL I [(31, td_personCount), (32, td_firstFar), (36, reader_next), (39, reader_sort), (40, reader_place), (41, reader_length), (42, reader_whole), (44, reader_found), (45, reader_fault), (46, reader_faultPlace)]) (rf_upL J [(0, reader_letters), (1, reader_name)]) (rf_upL A [(24, td_kinds), (25, td_firstWords), (26, td_errands)]) (rf_upL B [(5, td_personNames)])) s.heap := by
    rw [rf_self (f := I) [(31, td_personCount), (32, td_firstFar), (36, reader_next), (39, reader_sort), (40, reader_place), (41, reader_length), (42, reader_whole), (44, reader_found), (45, reader_fault), (46, reader_faultPlace)] (rf_fa1 e_td_personCount (rf_fa1 e_td_firstFar (rf_fa1 e_reader_next (rf_fa1 e_reader_sort (rf_fa1 e_reader_place (rf_fa1 e_reader_length (rf_fa1 e_reader_whole (rf_fa1 e_reader_found (rf_fa1 e_reader_fault (rf_fa1 e_reader_faultPlace rf_fa0))))))))))]
    rw [rf_self (f := J) [(0, reader_letters), (1, reader_name)] (rf_fa1 e_reader_letters (rf_fa1 e_reader_name rf_fa0))]
    rw [rf_self (f := A) [(24, td_kinds), (25, td_firstWords), (26, td_errands)] (rf_fa1 e_td_kinds (rf_fa1 e_td_firstWords (rf_fa1 e_td_errands rf_fa0)))]
    rw [rf_self (f := B) [(5, td_personNames)] (rf_fa1 e_td_personNames rf_fa0)]
    exact hP
  refine lv_aload_n hx hb dX5_readPerson_0 rfl (lv_at hl 0 rfl) ?_
  obtain ⟨z1, hz1, hf⟩ := rf_bd hf
  refine rf_vi (q0 := 12) (ci := 5) hC (c_X5_takesNewName l E a P (rf_upL I [(31, td_personCount), (32, td_firstFar), (36, reader_next), (39, reader_sort), (40, reader_place), (41, reader_length), (42, reader_whole), (44, reader_found), (45, reader_fault), (46, reader_faultPlace)]) (rf_upL J [(0, reader_letters), (1, reader_name)]) (rf_upL A [(24, td_kinds), (25, td_firstWords), (26, td_errands)]) (rf_upL B [(5, td_personNames)]) td_wordCount td_personCount reader_end x_tape td_wordNames td_personNames reader_next reader_sort reader_place reader_length reader_letters reader_whole reader_name reader_fault reader_faultPlace hp3 e_td_wordCount rfl e_reader_end e_x_tape e_td_wordNames rfl rfl rfl rfl rfl rfl rfl rfl rfl rfl hz1) kV_X5_takesNewName tw_587 ⟨Nat.le_of_ble_eq_true rfl, Nat.le_of_ble_eq_true rfl⟩ rfl rfl rfl rfl rfl hP (rf_DX hD) hS rfl hl.1 (rest := []) rfl (Nat.le_of_ble_eq_true rfl) dX5_readPerson_1 (fun H locs hP hS => ?_)
  rw [rf_cat (f := I) (l := [(31, td_personCount), (32, td_firstFar), (36, reader_next), (39, reader_sort), (40, reader_place), (41, reader_length), (42, reader_whole), (44, reader_found), (45, reader_fault), (46, reader_faultPlace)]) (lc := [(36, z1.2.1), (39, z1.2.2.1), (40, z1.2.2.2.1), (41, z1.2.2.2.2.1), (42, z1.2.2.2.2.2.2.1), (45, z1.2.2.2.2.2.2.2.2.1), (46, z1.2.2.2.2.2.2.2.2.2)]) (l' := [(31, td_personCount), (32, td_firstFar), (36, z1.2.1), (39, z1.2.2.1), (40, z1.2.2.2.1), (41, z1.2.2.2.2.1), (42, z1.2.2.2.2.2.2.1), (44, reader_found), (45, z1.2.2.2.2.2.2.2.2.1), (46, z1.2.2.2.2.2.2.2.2.2)]) rfl] at hP
  rw [rf_cat (f := J) (l := [(0, reader_letters), (1, reader_name)]) (lc := [(0, z1.2.2.2.2.2.1), (1, z1.2.2.2.2.2.2.2.1)]) (l' := [(0, z1.2.2.2.2.2.1), (1, z1.2.2.2.2.2.2.2.1)]) rfl] at hP
  refine lv_if_ne (tgt := 9) hx hb dX5_readPerson_4 (by decide) (fun c_4 => ?_) (fun c_4 => ?_)
  · have hf := rf_ie c_4 hf
    refine lv_aload_n hx hb dX5_readPerson_9 rfl (lv_at hl 0 rfl) ?_
    refine va_ldcS hx hb hC.2.2.2.1 (lk_12 hC.2.2.2.2.2.2.2.1.2.2.2) dX5_readPerson_10 ?_
    obtain ⟨z12, hz12, hf⟩ := rf_bd hf
    refine rf_vi (q0 := 12) (ci := 5) hC (c_X5_is l E a P (rf_upL I [(31, td_personCount), (32, td_firstFar), (36, z1.2.1), (39, z1.2.2.1), (40, z1.2.2.2.1), (41, z1.2.2.2.2.1), (42, z1.2.2.2.2.2.2.1), (44, reader_found), (45, z1.2.2.2.2.2.2.2.2.1), (46, z1.2.2.2.2.2.2.2.2.2)]) (rf_upL J [(0, z1.2.2.2.2.2.1), (1, z1.2.2.2.2.2.2.2.1)]) (rf_upL A [(24, td_kinds), (25, td_firstWords), (26, td_errands)]) (rf_upL B [(5, td_personNames)]) z1.2.2.1 z1.2.2.2.2.1 z1.2.2.2.2.2.1 12 rfl rfl rfl (by decide) hz12) kV_X5_is tw_494 ⟨Nat.le_of_ble_eq_true rfl, Nat.le_of_ble_eq_true rfl⟩ rfl rfl rfl rfl rfl hP (rf_DX hD) hS rfl hl.1 (rest := []) rfl (Nat.le_of_ble_eq_true rfl) dX5_readPerson_12 (fun H locs hP hS => ?_)
    refine lv_if_eq (tgt := 22) hx hb dX5_readPerson_15 (by decide) (fun c_15 => ?_) (fun c_15 => ?_)
    · have hf := rf_it c_15 hf
      refine lv_aload_n hx hb dX5_readPerson_22 rfl (lv_at hl 0 rfl) ?_
      refine va_ldcS hx hb hC.2.2.2.1 (lk_13 hC.2.2.2.2.2.2.2.1.2.2.2) dX5_readPerson_23 ?_
      obtain ⟨z25, hz25, hf⟩ := rf_bd hf
      refine rf_vi (q0 := 12) (ci := 5) hC (c_X5_is l E a P (rf_upL I [(31, td_personCount), (32, td_firstFar), (36, z1.2.1), (39, z1.2.2.1), (40, z1.2.2.2.1), (41, z1.2.2.2.2.1), (42, z1.2.2.2.2.2.2.1), (44, reader_found), (45, z1.2.2.2.2.2.2.2.2.1), (46, z1.2.2.2.2.2.2.2.2.2)]) (rf_upL J [(0, z1.2.2.2.2.2.1), (1, z1.2.2.2.2.2.2.2.1)]) (rf_upL A [(24, td_kinds), (25, td_firstWords), (26, td_errands)]) (rf_upL B [(5, td_personNames)]) z1.2.2.1 z1.2.2.2.2.1 z1.2.2.2.2.2.1 13 rfl rfl rfl (by decide) hz25) kV_X5_is tw_494 ⟨Nat.le_of_ble_eq_true rfl, Nat.le_of_ble_eq_true rfl⟩ rfl rfl rfl rfl rfl hP (rf_DX hD) hS rfl hl.1 (rest := []) rfl (Nat.le_of_ble_eq_true rfl) dX5_readPerson_25 (fun H locs hP hS => ?_)
      refine lv_if_eq (tgt := 35) hx hb dX5_readPerson_28 (by decide) (fun c_28 => ?_) (fun c_28 => ?_)
      · have hf := rf_it c_28 hf
        refine lv_aload_n hx hb dX5_readPerson_35 rfl (lv_at hl 0 rfl) ?_
        refine va_ldcS hx hb hC.2.2.2.1 (lk_14 hC.2.2.2.2.2.2.2.1.2.2.2) dX5_readPerson_36 ?_
        obtain ⟨z38, hz38, hf⟩ := rf_bd hf
        refine rf_vi (q0 := 12) (ci := 5) hC (c_X5_is l E a P (rf_upL I [(31, td_personCount), (32, td_firstFar), (36, z1.2.1), (39, z1.2.2.1), (40, z1.2.2.2.1), (41, z1.2.2.2.2.1), (42, z1.2.2.2.2.2.2.1), (44, reader_found), (45, z1.2.2.2.2.2.2.2.2.1), (46, z1.2.2.2.2.2.2.2.2.2)]) (rf_upL J [(0, z1.2.2.2.2.2.1), (1, z1.2.2.2.2.2.2.2.1)]) (rf_upL A [(24, td_kinds), (25, td_firstWords), (26, td_errands)]) (rf_upL B [(5, td_personNames)]) z1.2.2.1 z1.2.2.2.2.1 z1.2.2.2.2.2.1 14 rfl rfl rfl (by decide) hz38) kV_X5_is tw_494 ⟨Nat.le_of_ble_eq_true rfl, Nat.le_of_ble_eq_true rfl⟩ rfl rfl rfl rfl rfl hP (rf_DX hD) hS rfl hl.1 (rest := []) rfl (Nat.le_of_ble_eq_true rfl) dX5_readPerson_38 (fun H locs hP hS => ?_)
        refine lv_if_eq (tgt := 48) hx hb dX5_readPerson_41 (by decide) (fun c_41 => ?_) (fun c_41 => ?_)
        · have hf := rf_it c_41 hf
          refine lv_aload_n hx hb dX5_readPerson_48 rfl (lv_at hl 0 rfl) ?_
          refine va_ldcS hx hb hC.2.2.2.1 (lk_15 hC.2.2.2.2.2.2.2.1.2.2.2) dX5_readPerson_49 ?_
          obtain ⟨z51, hz51, hf⟩ := rf_bd hf
          refine rf_vi (q0 := 12) (ci := 5) hC (c_X5_is l E a P (rf_upL I [(31, td_personCount), (32, td_firstFar), (36, z1.2.1), (39, z1.2.2.1), (40, z1.2.2.2.1), (41, z1.2.2.2.2.1), (42, z1.2.2.2.2.2.2.1), (44, reader_found), (45, z1.2.2.2.2.2.2.2.2.1), (46, z1.2.2.2.2.2.2.2.2.2)]) (rf_upL J [(0, z1.2.2.2.2.2.1), (1, z1.2.2.2.2.2.2.2.1)]) (rf_upL A [(24, td_kinds), (25, td_firstWords), (26, td_errands)]) (rf_upL B [(5, td_personNames)]) z1.2.2.1 z1.2.2.2.2.1 z1.2.2.2.2.2.1 15 rfl rfl rfl (by decide) hz51) kV_X5_is tw_494 ⟨Nat.le_of_ble_eq_true rfl, Nat.le_of_ble_eq_true rfl⟩ rfl rfl rfl rfl rfl hP (rf_DX hD) hS rfl hl.1 (rest := []) rfl (Nat.le_of_ble_eq_true rfl) dX5_readPerson_51 (fun H locs hP hS => ?_)
          refine lv_if_eq (tgt := 61) hx hb dX5_readPerson_54 (by decide) (fun c_54 => ?_) (fun c_54 => ?_)
          · have hf := rf_it c_54 hf
            refine lv_iconst (v := (-1)) hx hb dX5_readPerson_61 (by decide) ?_
            exact w_X5_readPerson_62 hC hD hp3 e_td_wordCount e_reader_end e_x_tape e_td_wordNames (-1) td_personCount td_firstFar z1.2.1 z1.2.2.1 z1.2.2.2.1 z1.2.2.2.2.1 z1.2.2.2.2.2.1 z1.2.2.2.2.2.2.1 z1.2.2.2.2.2.2.2.1 reader_found z1.2.2.2.2.2.2.2.2.1 z1.2.2.2.2.2.2.2.2.2 td_personNames td_kinds td_firstWords td_errands hf _ _ _ hP hS (lv_sub hl [0] rfl)
          have hf := rf_ie c_54 hf
          refine lv_iconst (v := 3) hx hb dX5_readPerson_57 (by decide) ?_
          refine lv_goto (tgt := 62) hx hb dX5_readPerson_58 (by decide) ?_
          exact w_X5_readPerson_62 hC hD hp3 e_td_wordCount e_reader_end e_x_tape e_td_wordNames 3 td_personCount td_firstFar z1.2.1 z1.2.2.1 z1.2.2.2.1 z1.2.2.2.2.1 z1.2.2.2.2.2.1 z1.2.2.2.2.2.2.1 z1.2.2.2.2.2.2.2.1 reader_found z1.2.2.2.2.2.2.2.2.1 z1.2.2.2.2.2.2.2.2.2 td_personNames td_kinds td_firstWords td_errands hf _ _ _ hP hS (lv_sub hl [0] rfl)
        have hf := rf_ie c_41 hf
        refine lv_iconst (v := 2) hx hb dX5_readPerson_44 (by decide) ?_
        refine lv_goto (tgt := 62) hx hb dX5_readPerson_45 (by decide) ?_
        exact w_X5_readPerson_62 hC hD hp3 e_td_wordCount e_reader_end e_x_tape e_td_wordNames 2 td_personCount td_firstFar z1.2.1 z1.2.2.1 z1.2.2.2.1 z1.2.2.2.2.1 z1.2.2.2.2.2.1 z1.2.2.2.2.2.2.1 z1.2.2.2.2.2.2.2.1 reader_found z1.2.2.2.2.2.2.2.2.1 z1.2.2.2.2.2.2.2.2.2 td_personNames td_kinds td_firstWords td_errands hf _ _ _ hP hS (lv_sub hl [0] rfl)
      have hf := rf_ie c_28 hf
      refine lv_iconst (v := 1) hx hb dX5_readPerson_31 (by decide) ?_
      refine lv_goto (tgt := 62) hx hb dX5_readPerson_32 (by decide) ?_
      exact w_X5_readPerson_62 hC hD hp3 e_td_wordCount e_reader_end e_x_tape e_td_wordNames 1 td_personCount td_firstFar z1.2.1 z1.2.2.1 z1.2.2.2.1 z1.2.2.2.2.1 z1.2.2.2.2.2.1 z1.2.2.2.2.2.2.1 z1.2.2.2.2.2.2.2.1 reader_found z1.2.2.2.2.2.2.2.2.1 z1.2.2.2.2.2.2.2.2.2 td_personNames td_kinds td_firstWords td_errands hf _ _ _ hP hS (lv_sub hl [0] rfl)
    have hf := rf_ie c_15 hf
    refine lv_iconst (v := 0) hx hb dX5_readPerson_18 (by decide) ?_
    refine lv_goto (tgt := 62) hx hb dX5_readPerson_19 (by decide) ?_
    exact w_X5_readPerson_62 hC hD hp3 e_td_wordCount e_reader_end e_x_tape e_td_wordNames 0 td_personCount td_firstFar z1.2.1 z1.2.2.1 z1.2.2.2.1 z1.2.2.2.2.1 z1.2.2.2.2.2.1 z1.2.2.2.2.2.2.1 z1.2.2.2.2.2.2.2.1 reader_found z1.2.2.2.2.2.2.2.2.1 z1.2.2.2.2.2.2.2.2.2 td_personNames td_kinds td_firstWords td_errands hf _ _ _ hP hS (lv_sub hl [0] rfl)
  have hf := rf_it c_4 hf
  refine lv_iconst (v := 0) hx hb dX5_readPerson_7 (by decide) ?_
  obtain rfl := Option.some.inj hf
  exact rf_retz hC hP hS (by decide) rfl rfl dX5_readPerson_8
set_option maxHeartbeats 4000000 in
set_option maxRecDepth 100000 in
theorem w_X5_takesSounds_73 {l : Launch} {p : Program} {e : Env} {s : State} {m : MethodId} {args : Array Value} {below : List Frame} {meth : Method} {c : Code} {A0 : Nat → Prop} {E : rf_E} {a P : Nat → Nat} {I : Nat → Int32} {J : Nat → Int64} {A : Nat → Nat → Int32} {B : Nat → Nat → Int64} {reader_end : Int32} {x_tape : Nat → Int32} {z : Int32 × Int32 × Int32 × Int32 × Int32 × Int64 × Int32 × Int64 × Int32 × Int32} (hC : rf_C p E s m args meth c cX5_takesSounds 3 RX5 (some .boolean) A0) (hD : va_D A0 (cX E a P I J A B)) (e_reader_end : I 35 = reader_end) (e_x_tape : A 0 = x_tape) {k39 : Int32 → Int32 → Int32 → Int32 → Int32 → Int32 → Int64 → Int32 → Int64 → Int32 → Int32 → Option (Int32 × Int32 × Int32 × Int32 × Int32 × Int64 × Int32 × Int64 × Int32 × Int32)} (hk39 : ∀ (v1 : Int32) (v2 : Int32) (reader_next : Int32) (reader_sort : Int32) (reader_place : Int32) (reader_length : Int32) (reader_letters : Int64) (reader_whole : Int32) (reader_sounds : Int64) (reader_fault : Int32) (reader_faultPlace : Int32), k39 v1 v2 reader_next reader_sort reader_place reader_length reader_letters reader_whole reader_sounds reader_fault reader_faultPlace = some z → ∀ (H : Heap) (locs : List Loc) (ls : Array Slot), va_P (rf_D E) vwCl (cX E a P (rf_upL I [(36, reader_next), (39, reader_sort), (40, reader_place), (41, reader_length), (42, reader_whole), (45, reader_fault), (46, reader_faultPlace)]) (rf_upL J [(0, reader_letters), (2, reader_sounds)]) A B) H → va_S A0 s.heap H locs → lv_has ls 3 [(0, .ref (a 12)), (1, .int v1), (2, .int v2)] → W p l e ({ frames := 2, cells := 0, slots := 0, locals := 41 }) s m args below meth c H locs 0 0 (rf_QI below args s E A0 z.1 (cX E a P (rf_upL I [(36, z.2.1), (39, z.2.2.1), (40, z.2.2.2.1), (41, z.2.2.2.2.1), (42, z.2.2.2.2.2.2.1), (45, z.2.2.2.2.2.2.2.2.1), (46, z.2.2.2.2.2.2.2.2.2)]) (rf_upL J [(0, z.2.2.2.2.2.1), (2, z.2.2.2.2.2.2.2.1)]) A B)) (F0 m 39 ls [])) :
    ∀ (v2 : Int32) (s0 : Int32) (reader_next : Int32) (reader_sort : Int32) (reader_place : Int32) (reader_length : Int32) (reader_letters : Int64) (reader_whole : Int32) (reader_sounds : Int64) (reader_fault : Int32) (reader_faultPlace : Int32), f_X5_takesSounds_73 k39 reader_end x_tape v2 s0 reader_next reader_sort reader_place reader_length reader_letters reader_whole reader_sounds reader_fault reader_faultPlace = some z → ∀ (H : Heap) (locs : List Loc) (ls : Array Slot), va_P (rf_D E) vwCl (cX E a P (rf_upL I [(36, reader_next), (39, reader_sort), (40, reader_place), (41, reader_length), (42, reader_whole), (45, reader_fault), (46, reader_faultPlace)]) (rf_upL J [(0, reader_letters), (2, reader_sounds)]) A B) H → va_S A0 s.heap H locs → lv_has ls 3 [(0, .ref (a 12)), (2, .int v2)] → W p l e ({ frames := 2, cells := 0, slots := 0, locals := 41 }) s m args below meth c H locs 0 0 (rf_QI below args s E A0 z.1 (cX E a P (rf_upL I [(36, z.2.1), (39, z.2.2.1), (40, z.2.2.2.1), (41, z.2.2.2.2.1), (42, z.2.2.2.2.2.2.1), (45, z.2.2.2.2.2.2.2.2.1), (46, z.2.2.2.2.2.2.2.2.2)]) (rf_upL J [(0, z.2.2.2.2.2.1), (2, z.2.2.2.2.2.2.2.1)]) A B)) (F0 m 73 ls [.int s0]) := by
  have hx := hC.1
  have hb := hC.2.1
  intro v2 s0 reader_next reader_sort reader_place reader_length reader_letters reader_whole reader_sounds reader_fault reader_faultPlace hf H locs ls hP hS hl
  unfold f_X5_takesSounds_73 at hf
  refine lv_istore_n (lv' := [(1, .int s0), (0, .ref (a 12)), (2, .int v2)]) hx hb dX5_takesSounds_73 rfl hl (by decide) rfl (fun ls hl => ?_)
  refine lv_iinc (v := v2 + 1) (lv' := [(2, .int (v2 + 1)), (1, .int s0), (0, .ref (a 12))]) hx hb dX5_takesSounds_74 hl (k := 2) rfl rfl (by decide) rfl (fun ls hl => ?_)
  refine lv_goto (tgt := 39) hx hb dX5_takesSounds_77 (by decide) ?_
  exact hk39 s0 (v2 + 1) reader_next reader_sort reader_place reader_length reader_letters reader_whole reader_sounds reader_fault reader_faultPlace hf _ _ _ hP hS (lv_sub hl [2, 1, 0] rfl)
set_option maxHeartbeats 4000000 in
set_option maxRecDepth 100000 in
theorem w_X5_takesSounds_72 {l : Launch} {p : Program} {e : Env} {s : State} {m : MethodId} {args : Array Value} {below : List Frame} {meth : Method} {c : Code} {A0 : Nat → Prop} {E : rf_E} {a P : Nat → Nat} {I : Nat → Int32} {J : Nat → Int64} {A : Nat → Nat → Int32} {B : Nat → Nat → Int64} {reader_end : Int32} {x_tape : Nat → Int32} {z : Int32 × Int32 × Int32 × Int32 × Int32 × Int64 × Int32 × Int64 × Int32 × Int32} (hC : rf_C p E s m args meth c cX5_takesSounds 3 RX5 (some .boolean) A0) (hD : va_D A0 (cX E a P I J A B)) (e_reader_end : I 35 = reader_end) (e_x_tape : A 0 = x_tape) {k39 : Int32 → Int32 → Int32 → Int32 → Int32 → Int32 → Int64 → Int32 → Int64 → Int32 → Int32 → Option (Int32 × Int32 × Int32 × Int32 × Int32 × Int64 × Int32 × Int64 × Int32 × Int32)} (hk39 : ∀ (v1 : Int32) (v2 : Int32) (reader_next : Int32) (reader_sort : Int32) (reader_place : Int32) (reader_length : Int32) (reader_letters : Int64) (reader_whole : Int32) (reader_sounds : Int64) (reader_fault : Int32) (reader_faultPlace : Int32), k39 v1 v2 reader_next reader_sort reader_place reader_length reader_letters reader_whole reader_sounds reader_fault reader_faultPlace = some z → ∀ (H : Heap) (locs : List Loc) (ls : Array Slot), va_P (rf_D E) vwCl (cX E a P (rf_upL I [(36, reader_next), (39, reader_sort), (40, reader_place), (41, reader_length), (42, reader_whole), (45, reader_fault), (46, reader_faultPlace)]) (rf_upL J [(0, reader_letters), (2, reader_sounds)]) A B) H → va_S A0 s.heap H locs → lv_has ls 3 [(0, .ref (a 12)), (1, .int v1), (2, .int v2)] → W p l e ({ frames := 2, cells := 0, slots := 0, locals := 41 }) s m args below meth c H locs 0 0 (rf_QI below args s E A0 z.1 (cX E a P (rf_upL I [(36, z.2.1), (39, z.2.2.1), (40, z.2.2.2.1), (41, z.2.2.2.2.1), (42, z.2.2.2.2.2.2.1), (45, z.2.2.2.2.2.2.2.2.1), (46, z.2.2.2.2.2.2.2.2.2)]) (rf_upL J [(0, z.2.2.2.2.2.1), (2, z.2.2.2.2.2.2.2.1)]) A B)) (F0 m 39 ls [])) :
    ∀ (v2 : Int32) (reader_next : Int32) (reader_sort : Int32) (reader_place : Int32) (reader_length : Int32) (reader_letters : Int64) (reader_whole : Int32) (reader_sounds : Int64) (reader_fault : Int32) (reader_faultPlace : Int32), f_X5_takesSounds_72 k39 reader_end x_tape v2 reader_next reader_sort reader_place reader_length reader_letters reader_whole reader_sounds reader_fault reader_faultPlace = some z → ∀ (H : Heap) (locs : List Loc) (ls : Array Slot), va_P (rf_D E) vwCl (cX E a P (rf_upL I [(36, reader_next), (39, reader_sort), (40, reader_place), (41, reader_length), (42, reader_whole), (45, reader_fault), (46, reader_faultPlace)]) (rf_upL J [(0, reader_letters), (2, reader_sounds)]) A B) H → va_S A0 s.heap H locs → lv_has ls 3 [(0, .ref (a 12)), (2, .int v2)] → W p l e ({ frames := 2, cells := 0, slots := 0, locals := 41 }) s m args below meth c H locs 0 0 (rf_QI below args s E A0 z.1 (cX E a P (rf_upL I [(36, z.2.1), (39, z.2.2.1), (40, z.2.2.2.1), (41, z.2.2.2.2.1), (42, z.2.2.2.2.2.2.1), (45, z.2.2.2.2.2.2.2.2.1), (46, z.2.2.2.2.2.2.2.2.2)]) (rf_upL J [(0, z.2.2.2.2.2.1), (2, z.2.2.2.2.2.2.2.1)]) A B)) (F0 m 72 ls []) := by
  have hx := hC.1
  have hb := hC.2.1
  intro v2 reader_next reader_sort reader_place reader_length reader_letters reader_whole reader_sounds reader_fault reader_faultPlace hf H locs ls hP hS hl
  unfold f_X5_takesSounds_72 at hf
  refine lv_iconst (v := 0) hx hb dX5_takesSounds_72 (by decide) ?_
  exact w_X5_takesSounds_73 hC hD e_reader_end e_x_tape hk39 v2 0 reader_next reader_sort reader_place reader_length reader_letters reader_whole reader_sounds reader_fault reader_faultPlace hf _ _ _ hP hS (lv_sub hl [0, 1] rfl)
set_option maxHeartbeats 4000000 in
set_option maxRecDepth 100000 in
theorem w_X5_takesSounds_39 {l : Launch} {p : Program} {e : Env} {s : State} {m : MethodId} {args : Array Value} {below : List Frame} {meth : Method} {c : Code} {A0 : Nat → Prop} {E : rf_E} {a P : Nat → Nat} {I : Nat → Int32} {J : Nat → Int64} {A : Nat → Nat → Int32} {B : Nat → Nat → Int64} {reader_end : Int32} {x_tape : Nat → Int32} {z : Int32 × Int32 × Int32 × Int32 × Int32 × Int64 × Int32 × Int64 × Int32 × Int32} (hC : rf_C p E s m args meth c cX5_takesSounds 3 RX5 (some .boolean) A0) (hD : va_D A0 (cX E a P I J A B)) (e_reader_end : I 35 = reader_end) (e_x_tape : A 0 = x_tape) :
    ∀ (n : Nat), ∀ (v1 : Int32) (v2 : Int32) (reader_next : Int32) (reader_sort : Int32) (reader_place : Int32) (reader_length : Int32) (reader_letters : Int64) (reader_whole : Int32) (reader_sounds : Int64) (reader_fault : Int32) (reader_faultPlace : Int32), f_X5_takesSounds_39 reader_end x_tape n v1 v2 reader_next reader_sort reader_place reader_length reader_letters reader_whole reader_sounds reader_fault reader_faultPlace = some z → ∀ (H : Heap) (locs : List Loc) (ls : Array Slot), va_P (rf_D E) vwCl (cX E a P (rf_upL I [(36, reader_next), (39, reader_sort), (40, reader_place), (41, reader_length), (42, reader_whole), (45, reader_fault), (46, reader_faultPlace)]) (rf_upL J [(0, reader_letters), (2, reader_sounds)]) A B) H → va_S A0 s.heap H locs → lv_has ls 3 [(0, .ref (a 12)), (1, .int v1), (2, .int v2)] → W p l e ({ frames := 2, cells := 0, slots := 0, locals := 41 }) s m args below meth c H locs 0 0 (rf_QI below args s E A0 z.1 (cX E a P (rf_upL I [(36, z.2.1), (39, z.2.2.1), (40, z.2.2.2.1), (41, z.2.2.2.2.1), (42, z.2.2.2.2.2.2.1), (45, z.2.2.2.2.2.2.2.2.1), (46, z.2.2.2.2.2.2.2.2.2)]) (rf_upL J [(0, z.2.2.2.2.2.1), (2, z.2.2.2.2.2.2.2.1)]) A B)) (F0 m 39 ls []) := by
  have hx := hC.1
  have hb := hC.2.1
  intro n
  induction n with
  | zero =>
    intro v1 v2 reader_next reader_sort reader_place reader_length reader_letters reader_whole reader_sounds reader_fault reader_faultPlace hf
    have hf : (none : Option (Int32 × Int32 × Int32 × Int32 × Int32 × Int64 × Int32 × Int64 × Int32 × Int32)) = some z := hf
    cases hf
  | succ n ih =>
    intro v1 v2 reader_next reader_sort reader_place reader_length reader_letters reader_whole reader_sounds reader_fault reader_faultPlace hf H locs ls hP hS hl
    rw [f_X5_takesSounds_39] at hf
    refine lv_iload_n hx hb dX5_takesSounds_39 rfl (lv_at hl 2 rfl) ?_
    refine lv_bipush (v := 8) hx hb dX5_takesSounds_40 (by decide) ?_
    refine lv_icmp_ge (tgt := 80) hx hb dX5_takesSounds_42 (by decide) (fun c_42 => ?_) (fun c_42 => ?_)
    · have hf := rf_it c_42 hf
      refine lv_iload_n hx hb dX5_takesSounds_80 rfl (lv_at hl 1 rfl) ?_
      refine lv_if_ne (tgt := 91) hx hb dX5_takesSounds_81 (by decide) (fun c_81 => ?_) (fun c_81 => ?_)
      · have hf := rf_ie c_81 hf
        refine lv_aload_n hx hb dX5_takesSounds_91 rfl (lv_at hl 0 rfl) ?_
        refine lv_aload_n hx hb dX5_takesSounds_92 rfl (lv_at hl 0 rfl) ?_
        refine gX_reader_letters hC hP tw_346 (v := reader_letters) rfl dX5_takesSounds_93 ?_
        refine pX_reader_sounds hC hD hP hS tw_349 dX5_takesSounds_96 (rf_upL J [(0, reader_letters), (2, reader_letters)]) (rf_put rfl) (fun H locs hP hS => ?_)
        refine lv_aload_n hx hb dX5_takesSounds_99 rfl (lv_at hl 0 rfl) ?_
        obtain ⟨z100, hz100, hf⟩ := rf_bd hf
        refine rf_vv (q0 := 12) (ci := 5) hC (c_X5_look l E a P (rf_upL I [(36, reader_next), (39, reader_sort), (40, reader_place), (41, reader_length), (42, reader_whole), (45, reader_fault), (46, reader_faultPlace)]) (rf_upL J [(0, reader_letters), (2, reader_letters)]) A B reader_end x_tape reader_next reader_sort reader_place reader_length reader_letters reader_whole e_reader_end e_x_tape rfl rfl rfl rfl rfl rfl hz100) kV_X5_look tw_473 ⟨Nat.le_of_ble_eq_true rfl, Nat.le_of_ble_eq_true rfl⟩ rfl rfl rfl rfl rfl hP (rf_DX hD) hS rfl hl.1 (rest := []) rfl (Nat.le_of_ble_eq_true rfl) dX5_takesSounds_100 (fun H locs hP hS => ?_)
        rw [rf_cat (f := I) (l := [(36, reader_next), (39, reader_sort), (40, reader_place), (41, reader_length), (42, reader_whole), (45, reader_fault), (46, reader_faultPlace)]) (lc := [(36, z100.1), (39, z100.2.1), (40, z100.2.2.1), (41, z100.2.2.2.1), (42, z100.2.2.2.2.2)]) (l' := [(36, z100.1), (39, z100.2.1), (40, z100.2.2.1), (41, z100.2.2.2.1), (42, z100.2.2.2.2.2), (45, reader_fault), (46, reader_faultPlace)]) rfl] at hP
        rw [rf_cat (f := J) (l := [(0, reader_letters), (2, reader_letters)]) (lc := [(0, z100.2.2.2.2.1)]) (l' := [(0, z100.2.2.2.2.1), (2, reader_letters)]) rfl] at hP
        refine lv_iconst (v := 1) hx hb dX5_takesSounds_103 (by decide) ?_
        obtain rfl := Option.some.inj hf
        exact rf_retz hC hP hS (by decide) rfl rfl dX5_takesSounds_104
      have hf := rf_it c_81 hf
      refine lv_aload_n hx hb dX5_takesSounds_84 rfl (lv_at hl 0 rfl) ?_
      refine lv_bipush (v := 7) hx hb dX5_takesSounds_85 (by decide) ?_
      obtain ⟨z87, hz87, hf⟩ := rf_bd hf
      refine rf_vi (q0 := 12) (ci := 5) hC (c_X5_fail l E a P (rf_upL I [(36, reader_next), (39, reader_sort), (40, reader_place), (41, reader_length), (42, reader_whole), (45, reader_fault), (46, reader_faultPlace)]) (rf_upL J [(0, reader_letters), (2, reader_sounds)]) A B reader_place reader_fault reader_faultPlace 7 rfl rfl rfl hz87) kV_X5_fail tw_553 ⟨Nat.le_of_ble_eq_true rfl, Nat.le_of_ble_eq_true rfl⟩ rfl rfl rfl rfl rfl hP (rf_DX hD) hS rfl hl.1 (rest := []) rfl (Nat.le_of_ble_eq_true rfl) dX5_takesSounds_87 (fun H locs hP hS => ?_)
      rw [rf_cat (f := I) (l := [(36, reader_next), (39, reader_sort), (40, reader_place), (41, reader_length), (42, reader_whole), (45, reader_fault), (46, reader_faultPlace)]) (lc := [(45, z87.2.1), (46, z87.2.2)]) (l' := [(36, reader_next), (39, reader_sort), (40, reader_place), (41, reader_length), (42, reader_whole), (45, z87.2.1), (46, z87.2.2)]) rfl] at hP
      obtain ⟨hz_90, hf⟩ := rf_gu hf
      obtain rfl := Option.some.inj hf
      exact rf_retz hC hP hS hz_90 rfl rfl dX5_takesSounds_90
    have hf := rf_ie c_42 hf
    refine lv_iload_n hx hb dX5_takesSounds_45 rfl (lv_at hl 1 rfl) ?_
    refine lv_if_eq (tgt := 72) hx hb dX5_takesSounds_46 (by decide) (fun c_46 => ?_) (fun c_46 => ?_)
    · have hf := rf_it c_46 hf
      exact w_X5_takesSounds_72 hC hD e_reader_end e_x_tape ih v2 reader_next reader_sort reader_place reader_length reader_letters reader_whole reader_sounds reader_fault reader_faultPlace hf _ _ _ hP hS (lv_sub hl [0, 2] rfl)
    have hf := rf_ie c_46 hf
    refine lv_aload_n hx hb dX5_takesSounds_49 rfl (lv_at hl 0 rfl) ?_
    refine gX_reader_letters hC hP tw_346 (v := reader_letters) rfl dX5_takesSounds_50 ?_
    refine lv_iconst (v := 5) hx hb dX5_takesSounds_53 (by decide) ?_
    refine lv_iload_n hx hb dX5_takesSounds_54 rfl (lv_at hl 2 rfl) ?_
    refine lv_imul hx hb dX5_takesSounds_55 ?_
    refine lv_lushr hx hb dX5_takesSounds_56 rfl ?_
    refine lv_ldc2 hx hb hC.2.2.2.1 (hC.2.2.2.2.1 _ tw_604) dX5_takesSounds_57 ?_
    refine lv_land hx hb dX5_takesSounds_60 ?_
    refine lv_ldc2 hx hb hC.2.2.2.1 (hC.2.2.2.2.1 _ tw_605) dX5_takesSounds_61 ?_
    refine W.lcmp hx hb dX5_takesSounds_64 ?_
    refine lv_if_gt (tgt := 72) hx hb dX5_takesSounds_65 (by decide) (fun c_65 => ?_) (fun c_65 => ?_)
    · have hf := rf_it c_65 hf
      exact w_X5_takesSounds_72 hC hD e_reader_end e_x_tape ih v2 reader_next reader_sort reader_place reader_length reader_letters reader_whole reader_sounds reader_fault reader_faultPlace hf _ _ _ hP hS (lv_sub hl [0, 2] rfl)
    have hf := rf_ie c_65 hf
    refine lv_iconst (v := 1) hx hb dX5_takesSounds_68 (by decide) ?_
    refine lv_goto (tgt := 73) hx hb dX5_takesSounds_69 (by decide) ?_
    exact w_X5_takesSounds_73 hC hD e_reader_end e_x_tape ih v2 1 reader_next reader_sort reader_place reader_length reader_letters reader_whole reader_sounds reader_fault reader_faultPlace hf _ _ _ hP hS (lv_sub hl [0, 2] rfl)
set_option maxHeartbeats 4000000 in
set_option maxRecDepth 100000 in
theorem w_X5_takesSounds_36 {l : Launch} {p : Program} {e : Env} {s : State} {m : MethodId} {args : Array Value} {below : List Frame} {meth : Method} {c : Code} {A0 : Nat → Prop} {E : rf_E} {a P : Nat → Nat} {I : Nat → Int32} {J : Nat → Int64} {A : Nat → Nat → Int32} {B : Nat → Nat → Int64} {reader_end : Int32} {x_tape : Nat → Int32} {z : Int32 × Int32 × Int32 × Int32 × Int32 × Int64 × Int32 × Int64 × Int32 × Int32} (hC : rf_C p E s m args meth c cX5_takesSounds 3 RX5 (some .boolean) A0) (hD : va_D A0 (cX E a P I J A B)) (e_reader_end : I 35 = reader_end) (e_x_tape : A 0 = x_tape) :
    ∀ (s0 : Int32) (reader_next : Int32) (reader_sort : Int32) (reader_place : Int32) (reader_length : Int32) (reader_letters : Int64) (reader_whole : Int32) (reader_sounds : Int64) (reader_fault : Int32) (reader_faultPlace : Int32), f_X5_takesSounds_36 reader_end x_tape s0 reader_next reader_sort reader_place reader_length reader_letters reader_whole reader_sounds reader_fault reader_faultPlace = some z → ∀ (H : Heap) (locs : List Loc) (ls : Array Slot), va_P (rf_D E) vwCl (cX E a P (rf_upL I [(36, reader_next), (39, reader_sort), (40, reader_place), (41, reader_length), (42, reader_whole), (45, reader_fault), (46, reader_faultPlace)]) (rf_upL J [(0, reader_letters), (2, reader_sounds)]) A B) H → va_S A0 s.heap H locs → lv_has ls 3 [(0, .ref (a 12))] → W p l e ({ frames := 2, cells := 0, slots := 0, locals := 41 }) s m args below meth c H locs 0 0 (rf_QI below args s E A0 z.1 (cX E a P (rf_upL I [(36, z.2.1), (39, z.2.2.1), (40, z.2.2.2.1), (41, z.2.2.2.2.1), (42, z.2.2.2.2.2.2.1), (45, z.2.2.2.2.2.2.2.2.1), (46, z.2.2.2.2.2.2.2.2.2)]) (rf_upL J [(0, z.2.2.2.2.2.1), (2, z.2.2.2.2.2.2.2.1)]) A B)) (F0 m 36 ls [.int s0]) := by
  have hx := hC.1
  have hb := hC.2.1
  intro s0 reader_next reader_sort reader_place reader_length reader_letters reader_whole reader_sounds reader_fault reader_faultPlace hf H locs ls hP hS hl
  unfold f_X5_takesSounds_36 at hf
  refine lv_istore_n (lv' := [(1, .int s0), (0, .ref (a 12))]) hx hb dX5_takesSounds_36 rfl hl (by decide) rfl (fun ls hl => ?_)
  refine lv_iconst (v := 0) hx hb dX5_takesSounds_37 (by decide) ?_
  refine lv_istore_n (lv' := [(2, .int 0), (1, .int s0), (0, .ref (a 12))]) hx hb dX5_takesSounds_38 rfl hl (by decide) rfl (fun ls hl => ?_)
  exact w_X5_takesSounds_39 hC hD e_reader_end e_x_tape rf_fu s0 0 reader_next reader_sort reader_place reader_length reader_letters reader_whole reader_sounds reader_fault reader_faultPlace hf _ _ _ hP hS (lv_sub hl [2, 1, 0] rfl)
set_option maxHeartbeats 4000000 in
set_option maxRecDepth 100000 in
theorem w_X5_takesSounds_35 {l : Launch} {p : Program} {e : Env} {s : State} {m : MethodId} {args : Array Value} {below : List Frame} {meth : Method} {c : Code} {A0 : Nat → Prop} {E : rf_E} {a P : Nat → Nat} {I : Nat → Int32} {J : Nat → Int64} {A : Nat → Nat → Int32} {B : Nat → Nat → Int64} {reader_end : Int32} {x_tape : Nat → Int32} {z : Int32 × Int32 × Int32 × Int32 × Int32 × Int64 × Int32 × Int64 × Int32 × Int32} (hC : rf_C p E s m args meth c cX5_takesSounds 3 RX5 (some .boolean) A0) (hD : va_D A0 (cX E a P I J A B)) (e_reader_end : I 35 = reader_end) (e_x_tape : A 0 = x_tape) :
    ∀ (reader_next : Int32) (reader_sort : Int32) (reader_place : Int32) (reader_length : Int32) (reader_letters : Int64) (reader_whole : Int32) (reader_sounds : Int64) (reader_fault : Int32) (reader_faultPlace : Int32), f_X5_takesSounds_35 reader_end x_tape reader_next reader_sort reader_place reader_length reader_letters reader_whole reader_sounds reader_fault reader_faultPlace = some z → ∀ (H : Heap) (locs : List Loc) (ls : Array Slot), va_P (rf_D E) vwCl (cX E a P (rf_upL I [(36, reader_next), (39, reader_sort), (40, reader_place), (41, reader_length), (42, reader_whole), (45, reader_fault), (46, reader_faultPlace)]) (rf_upL J [(0, reader_letters), (2, reader_sounds)]) A B) H → va_S A0 s.heap H locs → lv_has ls 3 [(0, .ref (a 12))] → W p l e ({ frames := 2, cells := 0, slots := 0, locals := 41 }) s m args below meth c H locs 0 0 (rf_QI below args s E A0 z.1 (cX E a P (rf_upL I [(36, z.2.1), (39, z.2.2.1), (40, z.2.2.2.1), (41, z.2.2.2.2.1), (42, z.2.2.2.2.2.2.1), (45, z.2.2.2.2.2.2.2.2.1), (46, z.2.2.2.2.2.2.2.2.2)]) (rf_upL J [(0, z.2.2.2.2.2.1), (2, z.2.2.2.2.2.2.2.1)]) A B)) (F0 m 35 ls []) := by
  have hx := hC.1
  have hb := hC.2.1
  intro reader_next reader_sort reader_place reader_length reader_letters reader_whole reader_sounds reader_fault reader_faultPlace hf H locs ls hP hS hl
  unfold f_X5_takesSounds_35 at hf
  refine lv_iconst (v := 0) hx hb dX5_takesSounds_35 (by decide) ?_
  exact w_X5_takesSounds_36 hC hD e_reader_end e_x_tape 0 reader_next reader_sort reader_place reader_length reader_letters reader_whole reader_sounds reader_fault reader_faultPlace hf _ _ _ hP hS (lv_sub hl [0] rfl)
set_option maxHeartbeats 4000000 in
set_option maxRecDepth 100000 in
theorem c_X5_takesSounds (l : Launch) (E : rf_E) (a P : Nat → Nat) (I : Nat → Int32) (J : Nat → Int64) (A : Nat → Nat → Int32) (B : Nat → Nat → Int64) (reader_end : Int32) (x_tape : Nat → Int32) (reader_next : Int32) (reader_sort : Int32) (reader_place : Int32) (reader_length : Int32) (reader_letters : Int64) (reader_whole : Int32) (reader_sounds : Int64) (reader_fault : Int32) (reader_faultPlace : Int32) {z : Int32 × Int32 × Int32 × Int32 × Int32 × Int64 × Int32 × Int64 × Int32 × Int32} (e_reader_end : I 35 = reader_end) (e_x_tape : A 0 = x_tape) (e_reader_next : I 36 = reader_next) (e_reader_sort : I 39 = reader_sort) (e_reader_place : I 40 = reader_place) (e_reader_length : I 41 = reader_length) (e_reader_letters : J 0 = reader_letters) (e_reader_whole : I 42 = reader_whole) (e_reader_sounds : J 2 = reader_sounds) (e_reader_fault : I 45 = reader_fault) (e_reader_faultPlace : I 46 = reader_faultPlace) (hf : f_X5_takesSounds reader_end x_tape reader_next reader_sort reader_place reader_length reader_letters reader_whole reader_sounds reader_fault reader_faultPlace = some z) : rf_MI l yX5_takesSounds cX5_takesSounds 3 (some .boolean) ({ frames := 2, cells := 0, slots := 0, locals := 41 }) E [.ref (a 12)] (cX E a P I J A B) z.1 (cX E a P (rf_upL I [(36, z.2.1), (39, z.2.2.1), (40, z.2.2.2.1), (41, z.2.2.2.2.1), (42, z.2.2.2.2.2.2.1), (45, z.2.2.2.2.2.2.2.2.1), (46, z.2.2.2.2.2.2.2.2.2)]) (rf_upL J [(0, z.2.2.2.2.2.1), (2, z.2.2.2.2.2.2.2.1)]) A B) := by
  unfold f_X5_takesSounds at hf
  refine rf_ofI (by decide) (Nat.le_of_ble_eq_true rfl) ?_
  intro p e s m below meth c A0 ls hC hD hP hS hl
  have hC : rf_C p E s m _ meth c cX5_takesSounds 3 RX5 (some .boolean) A0 := hC
  have hx := hC.1
  have hb := hC.2.1
  have hl : lv_has ls 3 [(0, .ref (a 12))] := hl
  have hP : va_P (rf_D E) vwCl (cX E a P (rf_upL I [(36, reader_next), (39, reader_sort), (40, reader_place), (41, reader_length), (42, reader_whole), (45, reader_fault), (46, reader_faultPlace)]) (rf_upL J [(0, reader_letters), (2, reader_sounds)]) A B) s.heap := by
    rw [rf_self (f := I) [(36, reader_next), (39, reader_sort), (40, reader_place), (41, reader_length), (42, reader_whole), (45, reader_fault), (46, reader_faultPlace)] (rf_fa1 e_reader_next (rf_fa1 e_reader_sort (rf_fa1 e_reader_place (rf_fa1 e_reader_length (rf_fa1 e_reader_whole (rf_fa1 e_reader_fault (rf_fa1 e_reader_faultPlace rf_fa0)))))))]
    rw [rf_self (f := J) [(0, reader_letters), (2, reader_sounds)] (rf_fa1 e_reader_letters (rf_fa1 e_reader_sounds rf_fa0))]
    exact hP
  refine lv_aload_n hx hb dX5_takesSounds_0 rfl (lv_at hl 0 rfl) ?_
  refine gX_reader_sort hC hP tw_343 (v := reader_sort) rfl dX5_takesSounds_1 ?_
  refine lv_iconst (v := 1) hx hb dX5_takesSounds_4 (by decide) ?_
  refine lv_icmp_eq (tgt := 14) hx hb dX5_takesSounds_5 (by decide) (fun c_5 => ?_) (fun c_5 => ?_)
  · have hf := rf_it c_5 hf
    refine lv_aload_n hx hb dX5_takesSounds_14 rfl (lv_at hl 0 rfl) ?_
    refine gX_reader_length hC hP tw_345 (v := reader_length) rfl dX5_takesSounds_15 ?_
    refine lv_iconst (v := 2) hx hb dX5_takesSounds_18 (by decide) ?_
    refine lv_icmp_lt (tgt := 35) hx hb dX5_takesSounds_19 (by decide) (fun c_19 => ?_) (fun c_19 => ?_)
    · have hf := rf_it c_19 hf
      exact w_X5_takesSounds_35 hC hD e_reader_end e_x_tape reader_next reader_sort reader_place reader_length reader_letters reader_whole reader_sounds reader_fault reader_faultPlace hf _ _ _ hP hS (lv_sub hl [0] rfl)
    have hf := rf_ie c_19 hf
    refine lv_aload_n hx hb dX5_takesSounds_22 rfl (lv_at hl 0 rfl) ?_
    refine gX_reader_length hC hP tw_345 (v := reader_length) rfl dX5_takesSounds_23 ?_
    refine lv_bipush (v := 6) hx hb dX5_takesSounds_26 (by decide) ?_
    refine lv_icmp_gt (tgt := 35) hx hb dX5_takesSounds_28 (by decide) (fun c_28 => ?_) (fun c_28 => ?_)
    · have hf := rf_it c_28 hf
      exact w_X5_takesSounds_35 hC hD e_reader_end e_x_tape reader_next reader_sort reader_place reader_length reader_letters reader_whole reader_sounds reader_fault reader_faultPlace hf _ _ _ hP hS (lv_sub hl [0] rfl)
    have hf := rf_ie c_28 hf
    refine lv_iconst (v := 1) hx hb dX5_takesSounds_31 (by decide) ?_
    refine lv_goto (tgt := 36) hx hb dX5_takesSounds_32 (by decide) ?_
    exact w_X5_takesSounds_36 hC hD e_reader_end e_x_tape 1 reader_next reader_sort reader_place reader_length reader_letters reader_whole reader_sounds reader_fault reader_faultPlace hf _ _ _ hP hS (lv_sub hl [0] rfl)
  have hf := rf_ie c_5 hf
  refine lv_aload_n hx hb dX5_takesSounds_8 rfl (lv_at hl 0 rfl) ?_
  refine lv_iconst (v := 1) hx hb dX5_takesSounds_9 (by decide) ?_
  obtain ⟨z10, hz10, hf⟩ := rf_bd hf
  refine rf_vi (q0 := 12) (ci := 5) hC (c_X5_fail l E a P (rf_upL I [(36, reader_next), (39, reader_sort), (40, reader_place), (41, reader_length), (42, reader_whole), (45, reader_fault), (46, reader_faultPlace)]) (rf_upL J [(0, reader_letters), (2, reader_sounds)]) A B reader_place reader_fault reader_faultPlace 1 rfl rfl rfl hz10) kV_X5_fail tw_553 ⟨Nat.le_of_ble_eq_true rfl, Nat.le_of_ble_eq_true rfl⟩ rfl rfl rfl rfl rfl hP (rf_DX hD) hS rfl hl.1 (rest := []) rfl (Nat.le_of_ble_eq_true rfl) dX5_takesSounds_10 (fun H locs hP hS => ?_)
  rw [rf_cat (f := I) (l := [(36, reader_next), (39, reader_sort), (40, reader_place), (41, reader_length), (42, reader_whole), (45, reader_fault), (46, reader_faultPlace)]) (lc := [(45, z10.2.1), (46, z10.2.2)]) (l' := [(36, reader_next), (39, reader_sort), (40, reader_place), (41, reader_length), (42, reader_whole), (45, z10.2.1), (46, z10.2.2)]) rfl] at hP
  obtain ⟨hz_13, hf⟩ := rf_gu hf
  obtain rfl := Option.some.inj hf
  exact rf_retz hC hP hS hz_13 rfl rfl dX5_takesSounds_13
