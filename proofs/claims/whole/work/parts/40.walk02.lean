set_option maxHeartbeats 4000000 in
set_option maxRecDepth 100000 in
theorem w_X5_readFerry_23 {l : Launch} {p : Program} {e : Env} {s : State} {m : MethodId} {args : Array Value} {below : List Frame} {meth : Method} {c : Code} {A0 : Nat → Prop} {E : rf_E} {a P : Nat → Nat} {I : Nat → Int32} {J : Nat → Int64} {A : Nat → Nat → Int32} {B : Nat → Nat → Int64} {reader_end : Int32} {x_tape : Nat → Int32} {z : Int32 × Int32 × Int32 × Int32 × Int32 × Int32 × Int32 × Int32 × Int64 × Int32 × Int32 × Int32 × Int32} (hC : rf_C p E s m args meth c cX5_readFerry 1 RX5 (some .boolean) A0) (hD : va_D A0 (cX E a P I J A B)) (hp3 : P 3 = a 11) (e_reader_end : I 35 = reader_end) (e_x_tape : A 0 = x_tape) :
    ∀ (td_ear : Int32) (td_pairs : Int32) (reader_next : Int32) (reader_begun : Int32) (reader_sort : Int32) (reader_place : Int32) (reader_length : Int32) (reader_letters : Int64) (reader_whole : Int32) (reader_number : Int32) (reader_fault : Int32) (reader_faultPlace : Int32), f_X5_readFerry_23 reader_end x_tape td_ear td_pairs reader_next reader_begun reader_sort reader_place reader_length reader_letters reader_whole reader_number reader_fault reader_faultPlace = some z → ∀ (H : Heap) (locs : List Loc) (ls : Array Slot), va_P (rf_D E) vwCl (cX E a P (rf_upL I [(28, td_ear), (29, td_pairs), (36, reader_next), (37, reader_begun), (39, reader_sort), (40, reader_place), (41, reader_length), (42, reader_whole), (43, reader_number), (45, reader_fault), (46, reader_faultPlace)]) (rf_upL J [(0, reader_letters)]) A B) H → va_S A0 s.heap H locs → lv_has ls 1 [] → W p l e ({ frames := 8, cells := 0, slots := 0, locals := 245 }) s m args below meth c H locs 0 0 (rf_QI below args s E A0 z.1 (cX E a P (rf_upL I [(28, z.2.1), (29, z.2.2.1), (36, z.2.2.2.1), (37, z.2.2.2.2.1), (39, z.2.2.2.2.2.1), (40, z.2.2.2.2.2.2.1), (41, z.2.2.2.2.2.2.2.1), (42, z.2.2.2.2.2.2.2.2.2.1), (43, z.2.2.2.2.2.2.2.2.2.2.1), (45, z.2.2.2.2.2.2.2.2.2.2.2.1), (46, z.2.2.2.2.2.2.2.2.2.2.2.2)]) (rf_upL J [(0, z.2.2.2.2.2.2.2.2.1)]) A B)) (F0 m 23 ls []) := by
  have hx := hC.1
  have hb := hC.2.1
  intro td_ear td_pairs reader_next reader_begun reader_sort reader_place reader_length reader_letters reader_whole reader_number reader_fault reader_faultPlace hf H locs ls hP hS hl
  unfold f_X5_readFerry_23 at hf
  refine lv_iconst (v := 0) hx hb dX5_readFerry_23 (by decide) ?_
  obtain rfl := Option.some.inj hf
  exact rf_retz hC hP hS (by decide) rfl rfl dX5_readFerry_24
set_option maxHeartbeats 4000000 in
set_option maxRecDepth 100000 in
theorem w_X5_readFerry_54 {l : Launch} {p : Program} {e : Env} {s : State} {m : MethodId} {args : Array Value} {below : List Frame} {meth : Method} {c : Code} {A0 : Nat → Prop} {E : rf_E} {a P : Nat → Nat} {I : Nat → Int32} {J : Nat → Int64} {A : Nat → Nat → Int32} {B : Nat → Nat → Int64} {reader_end : Int32} {x_tape : Nat → Int32} {z : Int32 × Int32 × Int32 × Int32 × Int32 × Int32 × Int32 × Int32 × Int64 × Int32 × Int32 × Int32 × Int32} (hC : rf_C p E s m args meth c cX5_readFerry 1 RX5 (some .boolean) A0) (hD : va_D A0 (cX E a P I J A B)) (hp3 : P 3 = a 11) (e_reader_end : I 35 = reader_end) (e_x_tape : A 0 = x_tape) :
    ∀ (td_ear : Int32) (td_pairs : Int32) (reader_next : Int32) (reader_begun : Int32) (reader_sort : Int32) (reader_place : Int32) (reader_length : Int32) (reader_letters : Int64) (reader_whole : Int32) (reader_number : Int32) (reader_fault : Int32) (reader_faultPlace : Int32), f_X5_readFerry_54 reader_end x_tape td_ear td_pairs reader_next reader_begun reader_sort reader_place reader_length reader_letters reader_whole reader_number reader_fault reader_faultPlace = some z → ∀ (H : Heap) (locs : List Loc) (ls : Array Slot), va_P (rf_D E) vwCl (cX E a P (rf_upL I [(28, td_ear), (29, td_pairs), (36, reader_next), (37, reader_begun), (39, reader_sort), (40, reader_place), (41, reader_length), (42, reader_whole), (43, reader_number), (45, reader_fault), (46, reader_faultPlace)]) (rf_upL J [(0, reader_letters)]) A B) H → va_S A0 s.heap H locs → lv_has ls 1 [] → W p l e ({ frames := 8, cells := 0, slots := 0, locals := 245 }) s m args below meth c H locs 0 0 (rf_QI below args s E A0 z.1 (cX E a P (rf_upL I [(28, z.2.1), (29, z.2.2.1), (36, z.2.2.2.1), (37, z.2.2.2.2.1), (39, z.2.2.2.2.2.1), (40, z.2.2.2.2.2.2.1), (41, z.2.2.2.2.2.2.2.1), (42, z.2.2.2.2.2.2.2.2.2.1), (43, z.2.2.2.2.2.2.2.2.2.2.1), (45, z.2.2.2.2.2.2.2.2.2.2.2.1), (46, z.2.2.2.2.2.2.2.2.2.2.2.2)]) (rf_upL J [(0, z.2.2.2.2.2.2.2.2.1)]) A B)) (F0 m 54 ls []) := by
  have hx := hC.1
  have hb := hC.2.1
  intro td_ear td_pairs reader_next reader_begun reader_sort reader_place reader_length reader_letters reader_whole reader_number reader_fault reader_faultPlace hf H locs ls hP hS hl
  unfold f_X5_readFerry_54 at hf
  refine lv_iconst (v := 0) hx hb dX5_readFerry_54 (by decide) ?_
  obtain rfl := Option.some.inj hf
  exact rf_retz hC hP hS (by decide) rfl rfl dX5_readFerry_55
set_option maxHeartbeats 4000000 in
set_option maxRecDepth 100000 in
theorem c_X5_readFerry (l : Launch) (E : rf_E) (a P : Nat → Nat) (I : Nat → Int32) (J : Nat → Int64) (A : Nat → Nat → Int32) (B : Nat → Nat → Int64) (reader_end : Int32) (x_tape : Nat → Int32) (td_ear : Int32) (td_pairs : Int32) (reader_next : Int32) (reader_begun : Int32) (reader_sort : Int32) (reader_place : Int32) (reader_length : Int32) (reader_letters : Int64) (reader_whole : Int32) (reader_number : Int32) (reader_fault : Int32) (reader_faultPlace : Int32) {z : Int32 × Int32 × Int32 × Int32 × Int32 × Int32 × Int32 × Int32 × Int64 × Int32 × Int32 × Int32 × Int32} (hp3 : P 3 = a 11) (e_reader_end : I 35 = reader_end) (e_x_tape : A 0 = x_tape) (e_td_ear : I 28 = td_ear) (e_td_pairs : I 29 = td_pairs) (e_reader_next : I 36 = reader_next) (e_reader_begun : I 37 = reader_begun) (e_reader_sort : I 39 = reader_sort) (e_reader_place : I 40 = reader_place) (e_reader_length : I 41 = reader_length) (e_reader_letters : J 0 = reader_letters) (e_reader_whole : I 42 = reader_whole) (e_reader_number : I 43 = reader_number) (e_reader_fault : I 45 = reader_fault) (e_reader_faultPlace : I 46 = reader_faultPlace) (hf : f_X5_readFerry reader_end x_tape td_ear td_pairs reader_next reader_begun reader_sort reader_place reader_length reader_letters reader_whole reader_number reader_fault reader_faultPlace = some z) : rf_MI l yX5_readFerry cX5_readFerry 1 (some .boolean) ({ frames := 8, cells := 0, slots := 0, locals := 245 }) E [.ref (a 12)] (cX E a P I J A B) z.1 (cX E a P (rf_upL I [(28, z.2.1), (29, z.2.2.1), (36, z.2.2.2.1), (37, z.2.2.2.2.1), (39, z.2.2.2.2.2.1), (40, z.2.2.2.2.2.2.1), (41, z.2.2.2.2.2.2.2.1), (42, z.2.2.2.2.2.2.2.2.2.1), (43, z.2.2.2.2.2.2.2.2.2.2.1), (45, z.2.2.2.2.2.2.2.2.2.2.2.1), (46, z.2.2.2.2.2.2.2.2.2.2.2.2)]) (rf_upL J [(0, z.2.2.2.2.2.2.2.2.1)]) A B) := by
  unfold f_X5_readFerry at hf
  refine rf_ofI (by decide) (Nat.le_of_ble_eq_true rfl) ?_
  intro p e s m below meth c A0 ls hC hD hP hS hl
  have hC : rf_C p E s m _ meth c cX5_readFerry 1 RX5 (some .boolean) A0 := hC
  have hx := hC.1
  have hb := hC.2.1
  have hl : lv_has ls 1 [(0, .ref (a 12))] := hl
  have hP : va_P (rf_D E) vwCl (cX E a P (rf_upL I [(28, td_ear), (29, td_pairs), (36, reader_next), (37, reader_begun), (39, reader_sort), (40, reader_place), (41, reader_length), (42, reader_whole), (43, reader_number), (45, reader_fault), (46, reader_faultPlace)]) (rf_upL J [(0, reader_letters)]) A B) s.heap := by
    rw [rf_self (f := I) [(28, td_ear), (29, td_pairs), (36, reader_next), (37, reader_begun), (39, reader_sort), (40, reader_place), (41, reader_length), (42, reader_whole), (43, reader_number), (45, reader_fault), (46, reader_faultPlace)] (rf_fa1 e_td_ear (rf_fa1 e_td_pairs (rf_fa1 e_reader_next (rf_fa1 e_reader_begun (rf_fa1 e_reader_sort (rf_fa1 e_reader_place (rf_fa1 e_reader_length (rf_fa1 e_reader_whole (rf_fa1 e_reader_number (rf_fa1 e_reader_fault (rf_fa1 e_reader_faultPlace rf_fa0)))))))))))]
    rw [rf_self (f := J) [(0, reader_letters)] (rf_fa1 e_reader_letters rf_fa0)]
    exact hP
  refine lv_aload_n hx hb dX5_readFerry_0 rfl (lv_at hl 0 rfl) ?_
  refine lv_iconst (v := 1) hx hb dX5_readFerry_1 (by decide) ?_
  refine pX_reader_begun hC hD hP hS tw_341 (by decide) dX5_readFerry_2 (rf_upL I [(28, td_ear), (29, td_pairs), (36, reader_next), (37, 1), (39, reader_sort), (40, reader_place), (41, reader_length), (42, reader_whole), (43, reader_number), (45, reader_fault), (46, reader_faultPlace)]) (rf_put rfl) (fun H locs hP hS => ?_)
  refine lv_aload_n hx hb dX5_readFerry_5 rfl (lv_at hl 0 rfl) ?_
  refine va_ldcS hx hb hC.2.2.2.1 (lk_8 hC.2.2.2.2.2.2.2.1.2.2.2) dX5_readFerry_6 ?_
  obtain ⟨z8, hz8, hf⟩ := rf_bd hf
  refine rf_vi (q0 := 12) (ci := 5) hC (c_X5_takes l E a P (rf_upL I [(28, td_ear), (29, td_pairs), (36, reader_next), (37, 1), (39, reader_sort), (40, reader_place), (41, reader_length), (42, reader_whole), (43, reader_number), (45, reader_fault), (46, reader_faultPlace)]) (rf_upL J [(0, reader_letters)]) A B reader_end x_tape reader_next reader_sort reader_place reader_length reader_letters reader_whole reader_fault reader_faultPlace 8 e_reader_end e_x_tape rfl rfl rfl rfl rfl rfl rfl rfl (by decide) hz8) kV_X5_takes tw_570 ⟨Nat.le_of_ble_eq_true rfl, Nat.le_of_ble_eq_true rfl⟩ rfl rfl rfl rfl rfl hP (rf_DX hD) hS rfl hl.1 (rest := []) rfl (Nat.le_of_ble_eq_true rfl) dX5_readFerry_8 (fun H locs hP hS => ?_)
  rw [rf_cat (f := I) (l := [(28, td_ear), (29, td_pairs), (36, reader_next), (37, 1), (39, reader_sort), (40, reader_place), (41, reader_length), (42, reader_whole), (43, reader_number), (45, reader_fault), (46, reader_faultPlace)]) (lc := [(36, z8.2.1), (39, z8.2.2.1), (40, z8.2.2.2.1), (41, z8.2.2.2.2.1), (42, z8.2.2.2.2.2.2.1), (45, z8.2.2.2.2.2.2.2.1), (46, z8.2.2.2.2.2.2.2.2)]) (l' := [(28, td_ear), (29, td_pairs), (36, z8.2.1), (37, 1), (39, z8.2.2.1), (40, z8.2.2.2.1), (41, z8.2.2.2.2.1), (42, z8.2.2.2.2.2.2.1), (43, reader_number), (45, z8.2.2.2.2.2.2.2.1), (46, z8.2.2.2.2.2.2.2.2)]) rfl] at hP
  rw [rf_cat (f := J) (l := [(0, reader_letters)]) (lc := [(0, z8.2.2.2.2.2.1)]) (l' := [(0, z8.2.2.2.2.2.1)]) rfl] at hP
  refine lv_if_eq (tgt := 23) hx hb dX5_readFerry_11 (by decide) (fun c_11 => ?_) (fun c_11 => ?_)
  · have hf := rf_it c_11 hf
    exact w_X5_readFerry_23 hC hD hp3 e_reader_end e_x_tape td_ear td_pairs z8.2.1 1 z8.2.2.1 z8.2.2.2.1 z8.2.2.2.2.1 z8.2.2.2.2.2.1 z8.2.2.2.2.2.2.1 reader_number z8.2.2.2.2.2.2.2.1 z8.2.2.2.2.2.2.2.2 hf _ _ _ hP hS (lv_sub hl [] rfl)
  have hf := rf_ie c_11 hf
  refine lv_aload_n hx hb dX5_readFerry_14 rfl (lv_at hl 0 rfl) ?_
  refine lv_iconst (v := 2) hx hb dX5_readFerry_15 (by decide) ?_
  refine lv_iconst (v := 5) hx hb dX5_readFerry_16 (by decide) ?_
  obtain ⟨z17, hz17, hf⟩ := rf_bd hf
  refine rf_vi (q0 := 12) (ci := 5) hC (c_X5_takesWhole l E a P (rf_upL I [(28, td_ear), (29, td_pairs), (36, z8.2.1), (37, 1), (39, z8.2.2.1), (40, z8.2.2.2.1), (41, z8.2.2.2.2.1), (42, z8.2.2.2.2.2.2.1), (43, reader_number), (45, z8.2.2.2.2.2.2.2.1), (46, z8.2.2.2.2.2.2.2.2)]) (rf_upL J [(0, z8.2.2.2.2.2.1)]) A B reader_end x_tape z8.2.1 z8.2.2.1 z8.2.2.2.1 z8.2.2.2.2.1 z8.2.2.2.2.2.1 z8.2.2.2.2.2.2.1 reader_number z8.2.2.2.2.2.2.2.1 z8.2.2.2.2.2.2.2.2 2 5 e_reader_end e_x_tape rfl rfl rfl rfl rfl rfl rfl rfl rfl hz17) kV_X5_takesWhole tw_574 ⟨Nat.le_of_ble_eq_true rfl, Nat.le_of_ble_eq_true rfl⟩ rfl rfl rfl rfl rfl hP (rf_DX hD) hS rfl hl.1 (rest := []) rfl (Nat.le_of_ble_eq_true rfl) dX5_readFerry_17 (fun H locs hP hS => ?_)
  rw [rf_cat (f := I) (l := [(28, td_ear), (29, td_pairs), (36, z8.2.1), (37, 1), (39, z8.2.2.1), (40, z8.2.2.2.1), (41, z8.2.2.2.2.1), (42, z8.2.2.2.2.2.2.1), (43, reader_number), (45, z8.2.2.2.2.2.2.2.1), (46, z8.2.2.2.2.2.2.2.2)]) (lc := [(36, z17.2.1), (39, z17.2.2.1), (40, z17.2.2.2.1), (41, z17.2.2.2.2.1), (42, z17.2.2.2.2.2.2.1), (43, z17.2.2.2.2.2.2.2.1), (45, z17.2.2.2.2.2.2.2.2.1), (46, z17.2.2.2.2.2.2.2.2.2)]) (l' := [(28, td_ear), (29, td_pairs), (36, z17.2.1), (37, 1), (39, z17.2.2.1), (40, z17.2.2.2.1), (41, z17.2.2.2.2.1), (42, z17.2.2.2.2.2.2.1), (43, z17.2.2.2.2.2.2.2.1), (45, z17.2.2.2.2.2.2.2.2.1), (46, z17.2.2.2.2.2.2.2.2.2)]) rfl] at hP
  rw [rf_cat (f := J) (l := [(0, z8.2.2.2.2.2.1)]) (lc := [(0, z17.2.2.2.2.2.1)]) (l' := [(0, z17.2.2.2.2.2.1)]) rfl] at hP
  refine lv_if_ne (tgt := 25) hx hb dX5_readFerry_20 (by decide) (fun c_20 => ?_) (fun c_20 => ?_)
  · have hf := rf_ie c_20 hf
    refine lv_aload_n hx hb dX5_readFerry_25 rfl (lv_at hl 0 rfl) ?_
    refine gX_reader_tale hC hP tw_338 (v := a 11) hp3 dX5_readFerry_26 ?_
    refine lv_aload_n hx hb dX5_readFerry_29 rfl (lv_at hl 0 rfl) ?_
    refine gX_reader_number hC hP tw_350 (v := z17.2.2.2.2.2.2.2.1) rfl dX5_readFerry_30 ?_
    refine pX_td_ear hC hD hP hS tw_114 dX5_readFerry_33 (rf_upL I [(28, z17.2.2.2.2.2.2.2.1), (29, td_pairs), (36, z17.2.1), (37, 1), (39, z17.2.2.1), (40, z17.2.2.2.1), (41, z17.2.2.2.2.1), (42, z17.2.2.2.2.2.2.1), (43, z17.2.2.2.2.2.2.2.1), (45, z17.2.2.2.2.2.2.2.2.1), (46, z17.2.2.2.2.2.2.2.2.2)]) (rf_put rfl) (fun H locs hP hS => ?_)
    refine lv_aload_n hx hb dX5_readFerry_36 rfl (lv_at hl 0 rfl) ?_
    refine va_ldcS hx hb hC.2.2.2.1 (lk_9 hC.2.2.2.2.2.2.2.1.2.2.2) dX5_readFerry_37 ?_
    obtain ⟨z39, hz39, hf⟩ := rf_bd hf
    refine rf_vi (q0 := 12) (ci := 5) hC (c_X5_takes l E a P (rf_upL I [(28, z17.2.2.2.2.2.2.2.1), (29, td_pairs), (36, z17.2.1), (37, 1), (39, z17.2.2.1), (40, z17.2.2.2.1), (41, z17.2.2.2.2.1), (42, z17.2.2.2.2.2.2.1), (43, z17.2.2.2.2.2.2.2.1), (45, z17.2.2.2.2.2.2.2.2.1), (46, z17.2.2.2.2.2.2.2.2.2)]) (rf_upL J [(0, z17.2.2.2.2.2.1)]) A B reader_end x_tape z17.2.1 z17.2.2.1 z17.2.2.2.1 z17.2.2.2.2.1 z17.2.2.2.2.2.1 z17.2.2.2.2.2.2.1 z17.2.2.2.2.2.2.2.2.1 z17.2.2.2.2.2.2.2.2.2 9 e_reader_end e_x_tape rfl rfl rfl rfl rfl rfl rfl rfl (by decide) hz39) kV_X5_takes tw_570 ⟨Nat.le_of_ble_eq_true rfl, Nat.le_of_ble_eq_true rfl⟩ rfl rfl rfl rfl rfl hP (rf_DX hD) hS rfl hl.1 (rest := []) rfl (Nat.le_of_ble_eq_true rfl) dX5_readFerry_39 (fun H locs hP hS => ?_)
    rw [rf_cat (f := I) (l := [(28, z17.2.2.2.2.2.2.2.1), (29, td_pairs), (36, z17.2.1), (37, 1), (39, z17.2.2.1), (40, z17.2.2.2.1), (41, z17.2.2.2.2.1), (42, z17.2.2.2.2.2.2.1), (43, z17.2.2.2.2.2.2.2.1), (45, z17.2.2.2.2.2.2.2.2.1), (46, z17.2.2.2.2.2.2.2.2.2)]) (lc := [(36, z39.2.1), (39, z39.2.2.1), (40, z39.2.2.2.1), (41, z39.2.2.2.2.1), (42, z39.2.2.2.2.2.2.1), (45, z39.2.2.2.2.2.2.2.1), (46, z39.2.2.2.2.2.2.2.2)]) (l' := [(28, z17.2.2.2.2.2.2.2.1), (29, td_pairs), (36, z39.2.1), (37, 1), (39, z39.2.2.1), (40, z39.2.2.2.1), (41, z39.2.2.2.2.1), (42, z39.2.2.2.2.2.2.1), (43, z17.2.2.2.2.2.2.2.1), (45, z39.2.2.2.2.2.2.2.1), (46, z39.2.2.2.2.2.2.2.2)]) rfl] at hP
    rw [rf_cat (f := J) (l := [(0, z17.2.2.2.2.2.1)]) (lc := [(0, z39.2.2.2.2.2.1)]) (l' := [(0, z39.2.2.2.2.2.1)]) rfl] at hP
    refine lv_if_eq (tgt := 54) hx hb dX5_readFerry_42 (by decide) (fun c_42 => ?_) (fun c_42 => ?_)
    · have hf := rf_it c_42 hf
      exact w_X5_readFerry_54 hC hD hp3 e_reader_end e_x_tape z17.2.2.2.2.2.2.2.1 td_pairs z39.2.1 1 z39.2.2.1 z39.2.2.2.1 z39.2.2.2.2.1 z39.2.2.2.2.2.1 z39.2.2.2.2.2.2.1 z17.2.2.2.2.2.2.2.1 z39.2.2.2.2.2.2.2.1 z39.2.2.2.2.2.2.2.2 hf _ _ _ hP hS (lv_sub hl [] rfl)
    have hf := rf_ie c_42 hf
    refine lv_aload_n hx hb dX5_readFerry_45 rfl (lv_at hl 0 rfl) ?_
    refine lv_iconst (v := 1) hx hb dX5_readFerry_46 (by decide) ?_
    refine lv_iconst (v := 3) hx hb dX5_readFerry_47 (by decide) ?_
    obtain ⟨z48, hz48, hf⟩ := rf_bd hf
    refine rf_vi (q0 := 12) (ci := 5) hC (c_X5_takesWhole l E a P (rf_upL I [(28, z17.2.2.2.2.2.2.2.1), (29, td_pairs), (36, z39.2.1), (37, 1), (39, z39.2.2.1), (40, z39.2.2.2.1), (41, z39.2.2.2.2.1), (42, z39.2.2.2.2.2.2.1), (43, z17.2.2.2.2.2.2.2.1), (45, z39.2.2.2.2.2.2.2.1), (46, z39.2.2.2.2.2.2.2.2)]) (rf_upL J [(0, z39.2.2.2.2.2.1)]) A B reader_end x_tape z39.2.1 z39.2.2.1 z39.2.2.2.1 z39.2.2.2.2.1 z39.2.2.2.2.2.1 z39.2.2.2.2.2.2.1 z17.2.2.2.2.2.2.2.1 z39.2.2.2.2.2.2.2.1 z39.2.2.2.2.2.2.2.2 1 3 e_reader_end e_x_tape rfl rfl rfl rfl rfl rfl rfl rfl rfl hz48) kV_X5_takesWhole tw_574 ⟨Nat.le_of_ble_eq_true rfl, Nat.le_of_ble_eq_true rfl⟩ rfl rfl rfl rfl rfl hP (rf_DX hD) hS rfl hl.1 (rest := []) rfl (Nat.le_of_ble_eq_true rfl) dX5_readFerry_48 (fun H locs hP hS => ?_)
    rw [rf_cat (f := I) (l := [(28, z17.2.2.2.2.2.2.2.1), (29, td_pairs), (36, z39.2.1), (37, 1), (39, z39.2.2.1), (40, z39.2.2.2.1), (41, z39.2.2.2.2.1), (42, z39.2.2.2.2.2.2.1), (43, z17.2.2.2.2.2.2.2.1), (45, z39.2.2.2.2.2.2.2.1), (46, z39.2.2.2.2.2.2.2.2)]) (lc := [(36, z48.2.1), (39, z48.2.2.1), (40, z48.2.2.2.1), (41, z48.2.2.2.2.1), (42, z48.2.2.2.2.2.2.1), (43, z48.2.2.2.2.2.2.2.1), (45, z48.2.2.2.2.2.2.2.2.1), (46, z48.2.2.2.2.2.2.2.2.2)]) (l' := [(28, z17.2.2.2.2.2.2.2.1), (29, td_pairs), (36, z48.2.1), (37, 1), (39, z48.2.2.1), (40, z48.2.2.2.1), (41, z48.2.2.2.2.1), (42, z48.2.2.2.2.2.2.1), (43, z48.2.2.2.2.2.2.2.1), (45, z48.2.2.2.2.2.2.2.2.1), (46, z48.2.2.2.2.2.2.2.2.2)]) rfl] at hP
    rw [rf_cat (f := J) (l := [(0, z39.2.2.2.2.2.1)]) (lc := [(0, z48.2.2.2.2.2.1)]) (l' := [(0, z48.2.2.2.2.2.1)]) rfl] at hP
    refine lv_if_ne (tgt := 56) hx hb dX5_readFerry_51 (by decide) (fun c_51 => ?_) (fun c_51 => ?_)
    · have hf := rf_ie c_51 hf
      refine lv_aload_n hx hb dX5_readFerry_56 rfl (lv_at hl 0 rfl) ?_
      refine gX_reader_tale hC hP tw_338 (v := a 11) hp3 dX5_readFerry_57 ?_
      refine lv_aload_n hx hb dX5_readFerry_60 rfl (lv_at hl 0 rfl) ?_
      refine gX_reader_number hC hP tw_350 (v := z48.2.2.2.2.2.2.2.1) rfl dX5_readFerry_61 ?_
      refine pX_td_pairs hC hD hP hS tw_119 dX5_readFerry_64 (rf_upL I [(28, z17.2.2.2.2.2.2.2.1), (29, z48.2.2.2.2.2.2.2.1), (36, z48.2.1), (37, 1), (39, z48.2.2.1), (40, z48.2.2.2.1), (41, z48.2.2.2.2.1), (42, z48.2.2.2.2.2.2.1), (43, z48.2.2.2.2.2.2.2.1), (45, z48.2.2.2.2.2.2.2.2.1), (46, z48.2.2.2.2.2.2.2.2.2)]) (rf_put rfl) (fun H locs hP hS => ?_)
      refine lv_iconst (v := 1) hx hb dX5_readFerry_67 (by decide) ?_
      obtain rfl := Option.some.inj hf
      exact rf_retz hC hP hS (by decide) rfl rfl dX5_readFerry_68
    have hf := rf_it c_51 hf
    exact w_X5_readFerry_54 hC hD hp3 e_reader_end e_x_tape z17.2.2.2.2.2.2.2.1 td_pairs z48.2.1 1 z48.2.2.1 z48.2.2.2.1 z48.2.2.2.2.1 z48.2.2.2.2.2.1 z48.2.2.2.2.2.2.1 z48.2.2.2.2.2.2.2.1 z48.2.2.2.2.2.2.2.2.1 z48.2.2.2.2.2.2.2.2.2 hf _ _ _ hP hS (lv_sub hl [] rfl)
  have hf := rf_it c_20 hf
  exact w_X5_readFerry_23 hC hD hp3 e_reader_end e_x_tape td_ear td_pairs z17.2.1 1 z17.2.2.1 z17.2.2.2.1 z17.2.2.2.2.1 z17.2.2.2.2.2.1 z17.2.2.2.2.2.2.1 z17.2.2.2.2.2.2.2.1 z17.2.2.2.2.2.2.2.2.1 z17.2.2.2.2.2.2.2.2.2 hf _ _ _ hP hS (lv_sub hl [] rfl)
set_option maxHeartbeats 4000000 in
set_option maxRecDepth 100000 in
theorem c_X9_addGot_td (l : Launch) (E : rf_E) (a P : Nat → Nat) (I : Nat → Int32) (J : Nat → Int64) (A : Nat → Nat → Int32) (B : Nat → Nat → Int64) (t_gotCount : Int32) (t_gotFirst : Nat → Int32) (t_gotSecond : Nat → Int32) (t_gotDegree : Nat → Int32) (v1 : Int32) (v2 : Int32) (v3 : Int32) {z : Int32 × (Nat → Int32) × (Nat → Int32) × (Nat → Int32)} (e_t_gotCount : I 34 = t_gotCount) (e_t_gotFirst : A 29 = t_gotFirst) (e_t_gotSecond : A 30 = t_gotSecond) (e_t_gotDegree : A 31 = t_gotDegree) (hf : f_X9_addGot t_gotCount t_gotFirst t_gotSecond t_gotDegree v1 v2 v3 = some z) : rf_MV l yX9_addGot cX9_addGot 4 ({ frames := 0, cells := 0, slots := 0, locals := 0 }) E [.ref (a 11), .int v1, .int v2, .int v3] (cX E a P I J A B) (cX E a P (rf_upL I [(34, z.1)]) J (rf_upL A [(29, z.2.1), (30, z.2.2.1), (31, z.2.2.2)]) B) := by
  unfold f_X9_addGot at hf
  refine rf_ofV (by decide) (Nat.le_of_ble_eq_true rfl) ?_
  intro p e s m below meth c A0 ls hC hD hP hS hl
  have hC : rf_C p E s m _ meth c cX9_addGot 4 RX9 (none) A0 := hC
  have hx := hC.1
  have hb := hC.2.1
  have hl : lv_has ls 4 [(0, .ref (a 11)), (1, .int v1), (2, .int v2), (3, .int v3)] := hl
  have hP : va_P (rf_D E) vwCl (cX E a P (rf_upL I [(34, t_gotCount)]) J (rf_upL A [(29, t_gotFirst), (30, t_gotSecond), (31, t_gotDegree)]) B) s.heap := by
    rw [rf_self (f := I) [(34, t_gotCount)] (rf_fa1 e_t_gotCount rf_fa0)]
    rw [rf_self (f := A) [(29, t_gotFirst), (30, t_gotSecond), (31, t_gotDegree)] (rf_fa1 e_t_gotFirst (rf_fa1 e_t_gotSecond (rf_fa1 e_t_gotDegree rf_fa0)))]
    exact hP
  refine lv_aload_n hx hb dX9_addGot_0 rfl (lv_at hl 0 rfl) ?_
  refine gX_td_gotCount hC hP tw_139 (v := t_gotCount) rfl dX9_addGot_1 ?_
  refine lv_bipush (v := 6) hx hb dX9_addGot_4 (by decide) ?_
  refine lv_icmp_ge (tgt := 49) hx hb dX9_addGot_6 (by decide) (fun c_6 => ?_) (fun c_6 => ?_)
  · have hf := rf_it c_6 hf
    obtain rfl := Option.some.inj hf
    exact rf_retv hC hP hS rfl dX9_addGot_49
  have hf := rf_ie c_6 hf
  refine lv_aload_n hx hb dX9_addGot_9 rfl (lv_at hl 0 rfl) ?_
  refine gX_td_gotFirst hC hP tw_106 dX9_addGot_10 ?_
  refine lv_aload_n hx hb dX9_addGot_13 rfl (lv_at hl 0 rfl) ?_
  refine gX_td_gotCount hC hP tw_139 (v := t_gotCount) rfl dX9_addGot_14 ?_
  refine lv_iload_n hx hb dX9_addGot_17 rfl (lv_at hl 1 rfl) ?_
  obtain ⟨hi_18, hf⟩ := rf_gu hf
  refine sX_td_gotFirst hC hD hP hS hi_18 (f := t_gotFirst) rfl dX9_addGot_18 (rf_upL A [(29, upd t_gotFirst (Int32.toNatClampNeg t_gotCount) v1), (30, t_gotSecond), (31, t_gotDegree)]) (rf_put rfl) (fun H locs hP hS => ?_)
  refine lv_aload_n hx hb dX9_addGot_19 rfl (lv_at hl 0 rfl) ?_
  refine gX_td_gotSecond hC hP tw_108 dX9_addGot_20 ?_
  refine lv_aload_n hx hb dX9_addGot_23 rfl (lv_at hl 0 rfl) ?_
  refine gX_td_gotCount hC hP tw_139 (v := t_gotCount) rfl dX9_addGot_24 ?_
  refine lv_iload_n hx hb dX9_addGot_27 rfl (lv_at hl 2 rfl) ?_
  obtain ⟨hi_28, hf⟩ := rf_gu hf
  refine sX_td_gotSecond hC hD hP hS hi_28 (f := t_gotSecond) rfl dX9_addGot_28 (rf_upL A [(29, upd t_gotFirst (Int32.toNatClampNeg t_gotCount) v1), (30, upd t_gotSecond (Int32.toNatClampNeg t_gotCount) v2), (31, t_gotDegree)]) (rf_put rfl) (fun H locs hP hS => ?_)
  refine lv_aload_n hx hb dX9_addGot_29 rfl (lv_at hl 0 rfl) ?_
  refine gX_td_gotDegree hC hP tw_110 dX9_addGot_30 ?_
  refine lv_aload_n hx hb dX9_addGot_33 rfl (lv_at hl 0 rfl) ?_
  refine gX_td_gotCount hC hP tw_139 (v := t_gotCount) rfl dX9_addGot_34 ?_
  refine lv_iload_n hx hb dX9_addGot_37 rfl (lv_at hl 3 rfl) ?_
  obtain ⟨hi_38, hf⟩ := rf_gu hf
  refine sX_td_gotDegree hC hD hP hS hi_38 (f := t_gotDegree) rfl dX9_addGot_38 (rf_upL A [(29, upd t_gotFirst (Int32.toNatClampNeg t_gotCount) v1), (30, upd t_gotSecond (Int32.toNatClampNeg t_gotCount) v2), (31, upd t_gotDegree (Int32.toNatClampNeg t_gotCount) v3)]) (rf_put rfl) (fun H locs hP hS => ?_)
  refine lv_aload_n hx hb dX9_addGot_39 rfl (lv_at hl 0 rfl) ?_
  refine lv_dup hx hb dX9_addGot_40 rfl ?_
  refine gX_td_gotCount hC hP tw_139 (v := t_gotCount) rfl dX9_addGot_41 ?_
  refine lv_iconst (v := 1) hx hb dX9_addGot_44 (by decide) ?_
  refine lv_iadd hx hb dX9_addGot_45 ?_
  refine pX_td_gotCount hC hD hP hS tw_139 dX9_addGot_46 (rf_upL I [(34, t_gotCount + 1)]) (rf_put rfl) (fun H locs hP hS => ?_)
  obtain rfl := Option.some.inj hf
  exact rf_retv hC hP hS rfl dX9_addGot_49
set_option maxHeartbeats 4000000 in
set_option maxRecDepth 100000 in
theorem w_X5_readGot_85 {l : Launch} {p : Program} {e : Env} {s : State} {m : MethodId} {args : Array Value} {below : List Frame} {meth : Method} {c : Code} {A0 : Nat → Prop} {E : rf_E} {a P : Nat → Nat} {I : Nat → Int32} {J : Nat → Int64} {A : Nat → Nat → Int32} {B : Nat → Nat → Int64} {td_personCount : Int32} {reader_end : Int32} {x_tape : Nat → Int32} {td_personNames : Nat → Int64} {z : Int32 × Int32 × Int32 × Int32 × Int32 × Int32 × Int64 × Int32 × Int32 × Int32 × Int32 × (Nat → Int32) × (Nat → Int32) × (Nat → Int32)} (hC : rf_C p E s m args meth c cX5_readGot 3 RX5 (some .boolean) A0) (hD : va_D A0 (cX E a P I J A B)) (hp3 : P 3 = a 11) (e_td_personCount : I 31 = td_personCount) (e_reader_end : I 35 = reader_end) (e_x_tape : A 0 = x_tape) (e_td_personNames : B 5 = td_personNames) :
    ∀ (v1 : Int32) (s0 : Int32) (td_gotCount : Int32) (reader_next : Int32) (reader_sort : Int32) (reader_place : Int32) (reader_length : Int32) (reader_letters : Int64) (reader_whole : Int32) (reader_found : Int32) (reader_fault : Int32) (reader_faultPlace : Int32) (td_gotFirst : Nat → Int32) (td_gotSecond : Nat → Int32) (td_gotDegree : Nat → Int32), f_X5_readGot_85 td_personCount reader_end x_tape td_personNames v1 s0 td_gotCount reader_next reader_sort reader_place reader_length reader_letters reader_whole reader_found reader_fault reader_faultPlace td_gotFirst td_gotSecond td_gotDegree = some z → ∀ (H : Heap) (locs : List Loc) (ls : Array Slot), va_P (rf_D E) vwCl (cX E a P (rf_upL I [(34, td_gotCount), (36, reader_next), (39, reader_sort), (40, reader_place), (41, reader_length), (42, reader_whole), (44, reader_found), (45, reader_fault), (46, reader_faultPlace)]) (rf_upL J [(0, reader_letters)]) (rf_upL A [(29, td_gotFirst), (30, td_gotSecond), (31, td_gotDegree)]) B) H → va_S A0 s.heap H locs → lv_has ls 3 [(0, .ref (a 12)), (1, .int v1)] → W p l e ({ frames := 9, cells := 0, slots := 0, locals := 264 }) s m args below meth c H locs 0 0 (rf_QI below args s E A0 z.1 (cX E a P (rf_upL I [(34, z.2.1), (36, z.2.2.1), (39, z.2.2.2.1), (40, z.2.2.2.2.1), (41, z.2.2.2.2.2.1), (42, z.2.2.2.2.2.2.2.1), (44, z.2.2.2.2.2.2.2.2.1), (45, z.2.2.2.2.2.2.2.2.2.1), (46, z.2.2.2.2.2.2.2.2.2.2.1)]) (rf_upL J [(0, z.2.2.2.2.2.2.1)]) (rf_upL A [(29, z.2.2.2.2.2.2.2.2.2.2.2.1), (30, z.2.2.2.2.2.2.2.2.2.2.2.2.1), (31, z.2.2.2.2.2.2.2.2.2.2.2.2.2)]) B)) (F0 m 85 ls [.int s0]) := by
  have hx := hC.1
  have hb := hC.2.1
  intro v1 s0 td_gotCount reader_next reader_sort reader_place reader_length reader_letters reader_whole reader_found reader_fault reader_faultPlace td_gotFirst td_gotSecond td_gotDegree hf H locs ls hP hS hl
  unfold f_X5_readGot_85 at hf
  refine lv_istore_n (lv' := [(2, .int s0), (0, .ref (a 12)), (1, .int v1)]) hx hb dX5_readGot_85 rfl hl (by decide) rfl (fun ls hl => ?_)
  refine lv_iload_n hx hb dX5_readGot_86 rfl (lv_at hl 0 rfl) ?_
  refine lv_iconst (v := (-1)) hx hb dX5_readGot_87 (by decide) ?_
  refine lv_icmp_ne (tgt := 97) hx hb dX5_readGot_88 (by decide) (fun c_88 => ?_) (fun c_88 => ?_)
  · have hf := rf_ie c_88 hf
    refine lv_aload_n hx hb dX5_readGot_97 rfl (lv_at hl 1 rfl) ?_
    obtain ⟨z98, hz98, hf⟩ := rf_bd hf
    refine rf_vv (q0 := 12) (ci := 5) hC (c_X5_look l E a P (rf_upL I [(34, td_gotCount), (36, reader_next), (39, reader_sort), (40, reader_place), (41, reader_length), (42, reader_whole), (44, reader_found), (45, reader_fault), (46, reader_faultPlace)]) (rf_upL J [(0, reader_letters)]) (rf_upL A [(29, td_gotFirst), (30, td_gotSecond), (31, td_gotDegree)]) B reader_end x_tape reader_next reader_sort reader_place reader_length reader_letters reader_whole e_reader_end e_x_tape rfl rfl rfl rfl rfl rfl hz98) kV_X5_look tw_473 ⟨Nat.le_of_ble_eq_true rfl, Nat.le_of_ble_eq_true rfl⟩ rfl rfl rfl rfl rfl hP (rf_DX hD) hS rfl hl.1 (rest := []) rfl (Nat.le_of_ble_eq_true rfl) dX5_readGot_98 (fun H locs hP hS => ?_)
    rw [rf_cat (f := I) (l := [(34, td_gotCount), (36, reader_next), (39, reader_sort), (40, reader_place), (41, reader_length), (42, reader_whole), (44, reader_found), (45, reader_fault), (46, reader_faultPlace)]) (lc := [(36, z98.1), (39, z98.2.1), (40, z98.2.2.1), (41, z98.2.2.2.1), (42, z98.2.2.2.2.2)]) (l' := [(34, td_gotCount), (36, z98.1), (39, z98.2.1), (40, z98.2.2.1), (41, z98.2.2.2.1), (42, z98.2.2.2.2.2), (44, reader_found), (45, reader_fault), (46, reader_faultPlace)]) rfl] at hP
    rw [rf_cat (f := J) (l := [(0, reader_letters)]) (lc := [(0, z98.2.2.2.2.1)]) (l' := [(0, z98.2.2.2.2.1)]) rfl] at hP
    refine lv_aload_n hx hb dX5_readGot_101 rfl (lv_at hl 1 rfl) ?_
    refine gX_reader_tale hC hP tw_338 (v := a 11) hp3 dX5_readGot_102 ?_
    refine lv_iload_n hx hb dX5_readGot_105 rfl (lv_at hl 2 rfl) ?_
    refine lv_aload_n hx hb dX5_readGot_106 rfl (lv_at hl 1 rfl) ?_
    refine gX_reader_found hC hP tw_351 (v := reader_found) rfl dX5_readGot_107 ?_
    refine lv_iload_n hx hb dX5_readGot_110 rfl (lv_at hl 0 rfl) ?_
    obtain ⟨z111, hz111, hf⟩ := rf_bd hf
    refine rf_vv (q0 := 11) (ci := 9) hC (c_X9_addGot_td l E a P (rf_upL I [(34, td_gotCount), (36, z98.1), (39, z98.2.1), (40, z98.2.2.1), (41, z98.2.2.2.1), (42, z98.2.2.2.2.2), (44, reader_found), (45, reader_fault), (46, reader_faultPlace)]) (rf_upL J [(0, z98.2.2.2.2.1)]) (rf_upL A [(29, td_gotFirst), (30, td_gotSecond), (31, td_gotDegree)]) B td_gotCount td_gotFirst td_gotSecond td_gotDegree v1 reader_found s0 rfl rfl rfl rfl hz111) kV_X9_addGot tw_675 ⟨Nat.le_of_ble_eq_true rfl, Nat.le_of_ble_eq_true rfl⟩ rfl rfl rfl rfl rfl hP (rf_DX hD) hS rfl hl.1 (rest := []) rfl (Nat.le_of_ble_eq_true rfl) dX5_readGot_111 (fun H locs hP hS => ?_)
    rw [rf_cat (f := I) (l := [(34, td_gotCount), (36, z98.1), (39, z98.2.1), (40, z98.2.2.1), (41, z98.2.2.2.1), (42, z98.2.2.2.2.2), (44, reader_found), (45, reader_fault), (46, reader_faultPlace)]) (lc := [(34, z111.1)]) (l' := [(34, z111.1), (36, z98.1), (39, z98.2.1), (40, z98.2.2.1), (41, z98.2.2.2.1), (42, z98.2.2.2.2.2), (44, reader_found), (45, reader_fault), (46, reader_faultPlace)]) rfl] at hP
    rw [rf_cat (f := A) (l := [(29, td_gotFirst), (30, td_gotSecond), (31, td_gotDegree)]) (lc := [(29, z111.2.1), (30, z111.2.2.1), (31, z111.2.2.2)]) (l' := [(29, z111.2.1), (30, z111.2.2.1), (31, z111.2.2.2)]) rfl] at hP
    refine lv_iconst (v := 1) hx hb dX5_readGot_114 (by decide) ?_
    obtain rfl := Option.some.inj hf
    exact rf_retz hC hP hS (by decide) rfl rfl dX5_readGot_115
  have hf := rf_it c_88 hf
  refine lv_aload_n hx hb dX5_readGot_91 rfl (lv_at hl 1 rfl) ?_
  refine lv_iconst (v := 1) hx hb dX5_readGot_92 (by decide) ?_
  obtain ⟨z93, hz93, hf⟩ := rf_bd hf
  refine rf_vi (q0 := 12) (ci := 5) hC (c_X5_fail l E a P (rf_upL I [(34, td_gotCount), (36, reader_next), (39, reader_sort), (40, reader_place), (41, reader_length), (42, reader_whole), (44, reader_found), (45, reader_fault), (46, reader_faultPlace)]) (rf_upL J [(0, reader_letters)]) (rf_upL A [(29, td_gotFirst), (30, td_gotSecond), (31, td_gotDegree)]) B reader_place reader_fault reader_faultPlace 1 rfl rfl rfl hz93) kV_X5_fail tw_553 ⟨Nat.le_of_ble_eq_true rfl, Nat.le_of_ble_eq_true rfl⟩ rfl rfl rfl rfl rfl hP (rf_DX hD) hS rfl hl.1 (rest := []) rfl (Nat.le_of_ble_eq_true rfl) dX5_readGot_93 (fun H locs hP hS => ?_)
  rw [rf_cat (f := I) (l := [(34, td_gotCount), (36, reader_next), (39, reader_sort), (40, reader_place), (41, reader_length), (42, reader_whole), (44, reader_found), (45, reader_fault), (46, reader_faultPlace)]) (lc := [(45, z93.2.1), (46, z93.2.2)]) (l' := [(34, td_gotCount), (36, reader_next), (39, reader_sort), (40, reader_place), (41, reader_length), (42, reader_whole), (44, reader_found), (45, z93.2.1), (46, z93.2.2)]) rfl] at hP
  obtain ⟨hz_96, hf⟩ := rf_gu hf
  obtain rfl := Option.some.inj hf
  exact rf_retz hC hP hS hz_96 rfl rfl dX5_readGot_96
set_option maxHeartbeats 4000000 in
set_option maxRecDepth 100000 in
theorem c_X5_readGot (l : Launch) (E : rf_E) (a P : Nat → Nat) (I : Nat → Int32) (J : Nat → Int64) (A : Nat → Nat → Int32) (B : Nat → Nat → Int64) (td_personCount : Int32) (reader_end : Int32) (x_tape : Nat → Int32) (td_personNames : Nat → Int64) (td_gotCount : Int32) (reader_next : Int32) (reader_sort : Int32) (reader_place : Int32) (reader_length : Int32) (reader_letters : Int64) (reader_whole : Int32) (reader_found : Int32) (reader_fault : Int32) (reader_faultPlace : Int32) (td_gotFirst : Nat → Int32) (td_gotSecond : Nat → Int32) (td_gotDegree : Nat → Int32) {z : Int32 × Int32 × Int32 × Int32 × Int32 × Int32 × Int64 × Int32 × Int32 × Int32 × Int32 × (Nat → Int32) × (Nat → Int32) × (Nat → Int32)} (hp3 : P 3 = a 11) (e_td_personCount : I 31 = td_personCount) (e_reader_end : I 35 = reader_end) (e_x_tape : A 0 = x_tape) (e_td_personNames : B 5 = td_personNames) (e_td_gotCount : I 34 = td_gotCount) (e_reader_next : I 36 = reader_next) (e_reader_sort : I 39 = reader_sort) (e_reader_place : I 40 = reader_place) (e_reader_length : I 41 = reader_length) (e_reader_letters : J 0 = reader_letters) (e_reader_whole : I 42 = reader_whole) (e_reader_found : I 44 = reader_found) (e_reader_fault : I 45 = reader_fault) (e_reader_faultPlace : I 46 = reader_faultPlace) (e_td_gotFirst : A 29 = td_gotFirst) (e_td_gotSecond : A 30 = td_gotSecond) (e_td_gotDegree : A 31 = td_gotDegree) (hf : f_X5_readGot td_personCount reader_end x_tape td_personNames td_gotCount reader_next reader_sort reader_place reader_length reader_letters reader_whole reader_found reader_fault reader_faultPlace td_gotFirst td_gotSecond td_gotDegree = some z) : rf_MI l yX5_readGot cX5_readGot 3 (some .boolean) ({ frames := 9, cells := 0, slots := 0, locals := 264 }) E [.ref (a 12)] (cX E a P I J A B) z.1 (cX E a P (rf_upL I [(34, z.2.1), (36, z.2.2.1), (39, z.2.2.2.1), (40, z.2.2.2.2.1), (41, z.2.2.2.2.2.1), (42, z.2.2.2.2.2.2.2.1), (44, z.2.2.2.2.2.2.2.2.1), (45, z.2.2.2.2.2.2.2.2.2.1), (46, z.2.2.2.2.2.2.2.2.2.2.1)]) (rf_upL J [(0, z.2.2.2.2.2.2.1)]) (rf_upL A [(29, z.2.2.2.2.2.2.2.2.2.2.2.1), (30, z.2.2.2.2.2.2.2.2.2.2.2.2.1), (31, z.2.2.2.2.2.2.2.2.2.2.2.2.2)]) B) := by
  unfold f_X5_readGot at hf
  refine rf_ofI (by decide) (Nat.le_of_ble_eq_true rfl) ?_
  intro p e s m below meth c A0 ls hC hD hP hS hl
  have hC : rf_C p E s m _ meth c cX5_readGot 3 RX5 (some .boolean) A0 := hC
  have hx := hC.1
  have hb := hC.2.1
  have hl : lv_has ls 3 [(0, .ref (a 12))] := hl
  have hP : va_P (rf_D E) vwCl (cX E a P (rf_upL I [(34, td_gotCount), (36, reader_next), (39, reader_sort), (40, reader_place), (41, reader_length), (42, reader_whole), (44, reader_found), (45, reader_fault), (46, reader_faultPlace)]) (rf_upL J [(0, reader_letters)]) (rf_upL A [(29, td_gotFirst), (30, td_gotSecond), (31, td_gotDegree)]) B) s.heap := by
    rw [rf_self (f := I) [(34, td_gotCount), (36, reader_next), (39, reader_sort), (40, reader_place), (41, reader_length), (42, reader_whole), (44, reader_found), (45, reader_fault), (46, reader_faultPlace)] (rf_fa1 e_td_gotCount (rf_fa1 e_reader_next (rf_fa1 e_reader_sort (rf_fa1 e_reader_place (rf_fa1 e_reader_length (rf_fa1 e_reader_whole (rf_fa1 e_reader_found (rf_fa1 e_reader_fault (rf_fa1 e_reader_faultPlace rf_fa0)))))))))]
    rw [rf_self (f := J) [(0, reader_letters)] (rf_fa1 e_reader_letters rf_fa0)]
    rw [rf_self (f := A) [(29, td_gotFirst), (30, td_gotSecond), (31, td_gotDegree)] (rf_fa1 e_td_gotFirst (rf_fa1 e_td_gotSecond (rf_fa1 e_td_gotDegree rf_fa0)))]
    exact hP
  refine lv_aload_n hx hb dX5_readGot_0 rfl (lv_at hl 0 rfl) ?_
  obtain ⟨z1, hz1, hf⟩ := rf_bd hf
  refine rf_vi (q0 := 12) (ci := 5) hC (c_X5_seesToldPerson l E a P (rf_upL I [(34, td_gotCount), (36, reader_next), (39, reader_sort), (40, reader_place), (41, reader_length), (42, reader_whole), (44, reader_found), (45, reader_fault), (46, reader_faultPlace)]) (rf_upL J [(0, reader_letters)]) (rf_upL A [(29, td_gotFirst), (30, td_gotSecond), (31, td_gotDegree)]) B td_personCount reader_sort reader_place reader_length reader_letters td_personNames reader_found reader_fault reader_faultPlace hp3 e_td_personCount rfl rfl rfl rfl e_td_personNames rfl rfl rfl hz1) kV_X5_seesToldPerson tw_635 ⟨Nat.le_of_ble_eq_true rfl, Nat.le_of_ble_eq_true rfl⟩ rfl rfl rfl rfl rfl hP (rf_DX hD) hS rfl hl.1 (rest := []) rfl (Nat.le_of_ble_eq_true rfl) dX5_readGot_1 (fun H locs hP hS => ?_)
  rw [rf_cat (f := I) (l := [(34, td_gotCount), (36, reader_next), (39, reader_sort), (40, reader_place), (41, reader_length), (42, reader_whole), (44, reader_found), (45, reader_fault), (46, reader_faultPlace)]) (lc := [(44, z1.2.1), (45, z1.2.2.1), (46, z1.2.2.2)]) (l' := [(34, td_gotCount), (36, reader_next), (39, reader_sort), (40, reader_place), (41, reader_length), (42, reader_whole), (44, z1.2.1), (45, z1.2.2.1), (46, z1.2.2.2)]) rfl] at hP
  refine lv_if_ne (tgt := 9) hx hb dX5_readGot_4 (by decide) (fun c_4 => ?_) (fun c_4 => ?_)
  · have hf := rf_ie c_4 hf
    refine lv_aload_n hx hb dX5_readGot_9 rfl (lv_at hl 0 rfl) ?_
    refine gX_reader_found hC hP tw_351 (v := z1.2.1) rfl dX5_readGot_10 ?_
    refine lv_istore_n (lv' := [(1, .int z1.2.1), (0, .ref (a 12))]) hx hb dX5_readGot_13 rfl hl (by decide) rfl (fun ls hl => ?_)
    refine lv_aload_n hx hb dX5_readGot_14 rfl (lv_at hl 1 rfl) ?_
    obtain ⟨z15, hz15, hf⟩ := rf_bd hf
    refine rf_vv (q0 := 12) (ci := 5) hC (c_X5_look l E a P (rf_upL I [(34, td_gotCount), (36, reader_next), (39, reader_sort), (40, reader_place), (41, reader_length), (42, reader_whole), (44, z1.2.1), (45, z1.2.2.1), (46, z1.2.2.2)]) (rf_upL J [(0, reader_letters)]) (rf_upL A [(29, td_gotFirst), (30, td_gotSecond), (31, td_gotDegree)]) B reader_end x_tape reader_next reader_sort reader_place reader_length reader_letters reader_whole e_reader_end e_x_tape rfl rfl rfl rfl rfl rfl hz15) kV_X5_look tw_473 ⟨Nat.le_of_ble_eq_true rfl, Nat.le_of_ble_eq_true rfl⟩ rfl rfl rfl rfl rfl hP (rf_DX hD) hS rfl hl.1 (rest := []) rfl (Nat.le_of_ble_eq_true rfl) dX5_readGot_15 (fun H locs hP hS => ?_)
    rw [rf_cat (f := I) (l := [(34, td_gotCount), (36, reader_next), (39, reader_sort), (40, reader_place), (41, reader_length), (42, reader_whole), (44, z1.2.1), (45, z1.2.2.1), (46, z1.2.2.2)]) (lc := [(36, z15.1), (39, z15.2.1), (40, z15.2.2.1), (41, z15.2.2.2.1), (42, z15.2.2.2.2.2)]) (l' := [(34, td_gotCount), (36, z15.1), (39, z15.2.1), (40, z15.2.2.1), (41, z15.2.2.2.1), (42, z15.2.2.2.2.2), (44, z1.2.1), (45, z1.2.2.1), (46, z1.2.2.2)]) rfl] at hP
    rw [rf_cat (f := J) (l := [(0, reader_letters)]) (lc := [(0, z15.2.2.2.2.1)]) (l' := [(0, z15.2.2.2.2.1)]) rfl] at hP
    refine lv_aload_n hx hb dX5_readGot_18 rfl (lv_at hl 1 rfl) ?_
    obtain ⟨z19, hz19, hf⟩ := rf_bd hf
    refine rf_vi (q0 := 12) (ci := 5) hC (c_X5_seesToldPerson l E a P (rf_upL I [(34, td_gotCount), (36, z15.1), (39, z15.2.1), (40, z15.2.2.1), (41, z15.2.2.2.1), (42, z15.2.2.2.2.2), (44, z1.2.1), (45, z1.2.2.1), (46, z1.2.2.2)]) (rf_upL J [(0, z15.2.2.2.2.1)]) (rf_upL A [(29, td_gotFirst), (30, td_gotSecond), (31, td_gotDegree)]) B td_personCount z15.2.1 z15.2.2.1 z15.2.2.2.1 z15.2.2.2.2.1 td_personNames z1.2.1 z1.2.2.1 z1.2.2.2 hp3 e_td_personCount rfl rfl rfl rfl e_td_personNames rfl rfl rfl hz19) kV_X5_seesToldPerson tw_635 ⟨Nat.le_of_ble_eq_true rfl, Nat.le_of_ble_eq_true rfl⟩ rfl rfl rfl rfl rfl hP (rf_DX hD) hS rfl hl.1 (rest := []) rfl (Nat.le_of_ble_eq_true rfl) dX5_readGot_19 (fun H locs hP hS => ?_)
    rw [rf_cat (f := I) (l := [(34, td_gotCount), (36, z15.1), (39, z15.2.1), (40, z15.2.2.1), (41, z15.2.2.2.1), (42, z15.2.2.2.2.2), (44, z1.2.1), (45, z1.2.2.1), (46, z1.2.2.2)]) (lc := [(44, z19.2.1), (45, z19.2.2.1), (46, z19.2.2.2)]) (l' := [(34, td_gotCount), (36, z15.1), (39, z15.2.1), (40, z15.2.2.1), (41, z15.2.2.2.1), (42, z15.2.2.2.2.2), (44, z19.2.1), (45, z19.2.2.1), (46, z19.2.2.2)]) rfl] at hP
    refine lv_if_ne (tgt := 27) hx hb dX5_readGot_22 (by decide) (fun c_22 => ?_) (fun c_22 => ?_)
    · have hf := rf_ie c_22 hf
      refine lv_aload_n hx hb dX5_readGot_27 rfl (lv_at hl 1 rfl) ?_
      refine gX_reader_found hC hP tw_351 (v := z19.2.1) rfl dX5_readGot_28 ?_
      refine lv_iload_n hx hb dX5_readGot_31 rfl (lv_at hl 0 rfl) ?_
      refine lv_icmp_ne (tgt := 41) hx hb dX5_readGot_32 (by decide) (fun c_32 => ?_) (fun c_32 => ?_)
      · have hf := rf_ie c_32 hf
        refine lv_aload_n hx hb dX5_readGot_41 rfl (lv_at hl 1 rfl) ?_
        obtain ⟨z42, hz42, hf⟩ := rf_bd hf
        refine rf_vv (q0 := 12) (ci := 5) hC (c_X5_look l E a P (rf_upL I [(34, td_gotCount), (36, z15.1), (39, z15.2.1), (40, z15.2.2.1), (41, z15.2.2.2.1), (42, z15.2.2.2.2.2), (44, z19.2.1), (45, z19.2.2.1), (46, z19.2.2.2)]) (rf_upL J [(0, z15.2.2.2.2.1)]) (rf_upL A [(29, td_gotFirst), (30, td_gotSecond), (31, td_gotDegree)]) B reader_end x_tape z15.1 z15.2.1 z15.2.2.1 z15.2.2.2.1 z15.2.2.2.2.1 z15.2.2.2.2.2 e_reader_end e_x_tape rfl rfl rfl rfl rfl rfl hz42) kV_X5_look tw_473 ⟨Nat.le_of_ble_eq_true rfl, Nat.le_of_ble_eq_true rfl⟩ rfl rfl rfl rfl rfl hP (rf_DX hD) hS rfl hl.1 (rest := []) rfl (Nat.le_of_ble_eq_true rfl) dX5_readGot_42 (fun H locs hP hS => ?_)
        rw [rf_cat (f := I) (l := [(34, td_gotCount), (36, z15.1), (39, z15.2.1), (40, z15.2.2.1), (41, z15.2.2.2.1), (42, z15.2.2.2.2.2), (44, z19.2.1), (45, z19.2.2.1), (46, z19.2.2.2)]) (lc := [(36, z42.1), (39, z42.2.1), (40, z42.2.2.1), (41, z42.2.2.2.1), (42, z42.2.2.2.2.2)]) (l' := [(34, td_gotCount), (36, z42.1), (39, z42.2.1), (40, z42.2.2.1), (41, z42.2.2.2.1), (42, z42.2.2.2.2.2), (44, z19.2.1), (45, z19.2.2.1), (46, z19.2.2.2)]) rfl] at hP
        rw [rf_cat (f := J) (l := [(0, z15.2.2.2.2.1)]) (lc := [(0, z42.2.2.2.2.1)]) (l' := [(0, z42.2.2.2.2.1)]) rfl] at hP
        refine lv_aload_n hx hb dX5_readGot_45 rfl (lv_at hl 1 rfl) ?_
        refine va_ldcS hx hb hC.2.2.2.1 (lk_21 hC.2.2.2.2.2.2.2.1.2.2.2) dX5_readGot_46 ?_
        obtain ⟨z48, hz48, hf⟩ := rf_bd hf
        refine rf_vi (q0 := 12) (ci := 5) hC (c_X5_is l E a P (rf_upL I [(34, td_gotCount), (36, z42.1), (39, z42.2.1), (40, z42.2.2.1), (41, z42.2.2.2.1), (42, z42.2.2.2.2.2), (44, z19.2.1), (45, z19.2.2.1), (46, z19.2.2.2)]) (rf_upL J [(0, z42.2.2.2.2.1)]) (rf_upL A [(29, td_gotFirst), (30, td_gotSecond), (31, td_gotDegree)]) B z42.2.1 z42.2.2.2.1 z42.2.2.2.2.1 21 rfl rfl rfl (by decide) hz48) kV_X5_is tw_494 ⟨Nat.le_of_ble_eq_true rfl, Nat.le_of_ble_eq_true rfl⟩ rfl rfl rfl rfl rfl hP (rf_DX hD) hS rfl hl.1 (rest := []) rfl (Nat.le_of_ble_eq_true rfl) dX5_readGot_48 (fun H locs hP hS => ?_)
        refine lv_if_eq (tgt := 58) hx hb dX5_readGot_51 (by decide) (fun c_51 => ?_) (fun c_51 => ?_)
        · have hf := rf_it c_51 hf
          refine lv_aload_n hx hb dX5_readGot_58 rfl (lv_at hl 1 rfl) ?_
          refine va_ldcS hx hb hC.2.2.2.1 (lk_22 hC.2.2.2.2.2.2.2.1.2.2.2) dX5_readGot_59 ?_
          obtain ⟨z61, hz61, hf⟩ := rf_bd hf
          refine rf_vi (q0 := 12) (ci := 5) hC (c_X5_is l E a P (rf_upL I [(34, td_gotCount), (36, z42.1), (39, z42.2.1), (40, z42.2.2.1), (41, z42.2.2.2.1), (42, z42.2.2.2.2.2), (44, z19.2.1), (45, z19.2.2.1), (46, z19.2.2.2)]) (rf_upL J [(0, z42.2.2.2.2.1)]) (rf_upL A [(29, td_gotFirst), (30, td_gotSecond), (31, td_gotDegree)]) B z42.2.1 z42.2.2.2.1 z42.2.2.2.2.1 22 rfl rfl rfl (by decide) hz61) kV_X5_is tw_494 ⟨Nat.le_of_ble_eq_true rfl, Nat.le_of_ble_eq_true rfl⟩ rfl rfl rfl rfl rfl hP (rf_DX hD) hS rfl hl.1 (rest := []) rfl (Nat.le_of_ble_eq_true rfl) dX5_readGot_61 (fun H locs hP hS => ?_)
          refine lv_if_eq (tgt := 71) hx hb dX5_readGot_64 (by decide) (fun c_64 => ?_) (fun c_64 => ?_)
          · have hf := rf_it c_64 hf
            refine lv_aload_n hx hb dX5_readGot_71 rfl (lv_at hl 1 rfl) ?_
            refine va_ldcS hx hb hC.2.2.2.1 (lk_23 hC.2.2.2.2.2.2.2.1.2.2.2) dX5_readGot_72 ?_
            obtain ⟨z74, hz74, hf⟩ := rf_bd hf
            refine rf_vi (q0 := 12) (ci := 5) hC (c_X5_is l E a P (rf_upL I [(34, td_gotCount), (36, z42.1), (39, z42.2.1), (40, z42.2.2.1), (41, z42.2.2.2.1), (42, z42.2.2.2.2.2), (44, z19.2.1), (45, z19.2.2.1), (46, z19.2.2.2)]) (rf_upL J [(0, z42.2.2.2.2.1)]) (rf_upL A [(29, td_gotFirst), (30, td_gotSecond), (31, td_gotDegree)]) B z42.2.1 z42.2.2.2.1 z42.2.2.2.2.1 23 rfl rfl rfl (by decide) hz74) kV_X5_is tw_494 ⟨Nat.le_of_ble_eq_true rfl, Nat.le_of_ble_eq_true rfl⟩ rfl rfl rfl rfl rfl hP (rf_DX hD) hS rfl hl.1 (rest := []) rfl (Nat.le_of_ble_eq_true rfl) dX5_readGot_74 (fun H locs hP hS => ?_)
            refine lv_if_eq (tgt := 84) hx hb dX5_readGot_77 (by decide) (fun c_77 => ?_) (fun c_77 => ?_)
            · have hf := rf_it c_77 hf
              refine lv_iconst (v := (-1)) hx hb dX5_readGot_84 (by decide) ?_
              exact w_X5_readGot_85 hC hD hp3 e_td_personCount e_reader_end e_x_tape e_td_personNames z1.2.1 (-1) td_gotCount z42.1 z42.2.1 z42.2.2.1 z42.2.2.2.1 z42.2.2.2.2.1 z42.2.2.2.2.2 z19.2.1 z19.2.2.1 z19.2.2.2 td_gotFirst td_gotSecond td_gotDegree hf _ _ _ hP hS (lv_sub hl [1, 0] rfl)
            have hf := rf_ie c_77 hf
            refine lv_iconst (v := 0) hx hb dX5_readGot_80 (by decide) ?_
            refine lv_goto (tgt := 85) hx hb dX5_readGot_81 (by decide) ?_
            exact w_X5_readGot_85 hC hD hp3 e_td_personCount e_reader_end e_x_tape e_td_personNames z1.2.1 0 td_gotCount z42.1 z42.2.1 z42.2.2.1 z42.2.2.2.1 z42.2.2.2.2.1 z42.2.2.2.2.2 z19.2.1 z19.2.2.1 z19.2.2.2 td_gotFirst td_gotSecond td_gotDegree hf _ _ _ hP hS (lv_sub hl [1, 0] rfl)
          have hf := rf_ie c_64 hf
          refine lv_iconst (v := 1) hx hb dX5_readGot_67 (by decide) ?_
          refine lv_goto (tgt := 85) hx hb dX5_readGot_68 (by decide) ?_
          exact w_X5_readGot_85 hC hD hp3 e_td_personCount e_reader_end e_x_tape e_td_personNames z1.2.1 1 td_gotCount z42.1 z42.2.1 z42.2.2.1 z42.2.2.2.1 z42.2.2.2.2.1 z42.2.2.2.2.2 z19.2.1 z19.2.2.1 z19.2.2.2 td_gotFirst td_gotSecond td_gotDegree hf _ _ _ hP hS (lv_sub hl [1, 0] rfl)
        have hf := rf_ie c_51 hf
        refine lv_iconst (v := 2) hx hb dX5_readGot_54 (by decide) ?_
        refine lv_goto (tgt := 85) hx hb dX5_readGot_55 (by decide) ?_
        exact w_X5_readGot_85 hC hD hp3 e_td_personCount e_reader_end e_x_tape e_td_personNames z1.2.1 2 td_gotCount z42.1 z42.2.1 z42.2.2.1 z42.2.2.2.1 z42.2.2.2.2.1 z42.2.2.2.2.2 z19.2.1 z19.2.2.1 z19.2.2.2 td_gotFirst td_gotSecond td_gotDegree hf _ _ _ hP hS (lv_sub hl [1, 0] rfl)
      have hf := rf_it c_32 hf
      refine lv_aload_n hx hb dX5_readGot_35 rfl (lv_at hl 1 rfl) ?_
      refine lv_iconst (v := 3) hx hb dX5_readGot_36 (by decide) ?_
      obtain ⟨z37, hz37, hf⟩ := rf_bd hf
      refine rf_vi (q0 := 12) (ci := 5) hC (c_X5_fail l E a P (rf_upL I [(34, td_gotCount), (36, z15.1), (39, z15.2.1), (40, z15.2.2.1), (41, z15.2.2.2.1), (42, z15.2.2.2.2.2), (44, z19.2.1), (45, z19.2.2.1), (46, z19.2.2.2)]) (rf_upL J [(0, z15.2.2.2.2.1)]) (rf_upL A [(29, td_gotFirst), (30, td_gotSecond), (31, td_gotDegree)]) B z15.2.2.1 z19.2.2.1 z19.2.2.2 3 rfl rfl rfl hz37) kV_X5_fail tw_553 ⟨Nat.le_of_ble_eq_true rfl, Nat.le_of_ble_eq_true rfl⟩ rfl rfl rfl rfl rfl hP (rf_DX hD) hS rfl hl.1 (rest := []) rfl (Nat.le_of_ble_eq_true rfl) dX5_readGot_37 (fun H locs hP hS => ?_)
      rw [rf_cat (f := I) (l := [(34, td_gotCount), (36, z15.1), (39, z15.2.1), (40, z15.2.2.1), (41, z15.2.2.2.1), (42, z15.2.2.2.2.2), (44, z19.2.1), (45, z19.2.2.1), (46, z19.2.2.2)]) (lc := [(45, z37.2.1), (46, z37.2.2)]) (l' := [(34, td_gotCount), (36, z15.1), (39, z15.2.1), (40, z15.2.2.1), (41, z15.2.2.2.1), (42, z15.2.2.2.2.2), (44, z19.2.1), (45, z37.2.1), (46, z37.2.2)]) rfl] at hP
      obtain ⟨hz_40, hf⟩ := rf_gu hf
      obtain rfl := Option.some.inj hf
      exact rf_retz hC hP hS hz_40 rfl rfl dX5_readGot_40
    have hf := rf_it c_22 hf
    refine lv_iconst (v := 0) hx hb dX5_readGot_25 (by decide) ?_
    obtain rfl := Option.some.inj hf
    exact rf_retz hC hP hS (by decide) rfl rfl dX5_readGot_26
  have hf := rf_it c_4 hf
  refine lv_iconst (v := 0) hx hb dX5_readGot_7 (by decide) ?_
  obtain rfl := Option.some.inj hf
  exact rf_retz hC hP hS (by decide) rfl rfl dX5_readGot_8
set_option maxHeartbeats 4000000 in
set_option maxRecDepth 100000 in
theorem w_X5_readHour_58 {l : Launch} {p : Program} {e : Env} {s : State} {m : MethodId} {args : Array Value} {below : List Frame} {meth : Method} {c : Code} {A0 : Nat → Prop} {E : rf_E} {a P : Nat → Nat} {I : Nat → Int32} {J : Nat → Int64} {A : Nat → Nat → Int32} {B : Nat → Nat → Int64} {reader_end : Int32} {x_tape : Nat → Int32} {z : Int32 × Int32 × Int32 × Int32 × Int32 × Int64 × Int32 × Int32 × Int32 × Int32 × (Nat → Int32)} (hC : rf_C p E s m args meth c cX5_readHour 2 RX5 (some .boolean) A0) (hD : va_D A0 (cX E a P I J A B)) (hp3 : P 3 = a 11) (e_reader_end : I 35 = reader_end) (e_x_tape : A 0 = x_tape) :
    ∀ (reader_next : Int32) (reader_sort : Int32) (reader_place : Int32) (reader_length : Int32) (reader_letters : Int64) (reader_whole : Int32) (reader_number : Int32) (reader_fault : Int32) (reader_faultPlace : Int32) (td_hourEars : Nat → Int32), f_X5_readHour_58 reader_end x_tape reader_next reader_sort reader_place reader_length reader_letters reader_whole reader_number reader_fault reader_faultPlace td_hourEars = some z → ∀ (H : Heap) (locs : List Loc) (ls : Array Slot), va_P (rf_D E) vwCl (cX E a P (rf_upL I [(36, reader_next), (39, reader_sort), (40, reader_place), (41, reader_length), (42, reader_whole), (43, reader_number), (45, reader_fault), (46, reader_faultPlace)]) (rf_upL J [(0, reader_letters)]) (rf_upL A [(28, td_hourEars)]) B) H → va_S A0 s.heap H locs → lv_has ls 2 [] → W p l e ({ frames := 8, cells := 0, slots := 0, locals := 245 }) s m args below meth c H locs 0 0 (rf_QI below args s E A0 z.1 (cX E a P (rf_upL I [(36, z.2.1), (39, z.2.2.1), (40, z.2.2.2.1), (41, z.2.2.2.2.1), (42, z.2.2.2.2.2.2.1), (43, z.2.2.2.2.2.2.2.1), (45, z.2.2.2.2.2.2.2.2.1), (46, z.2.2.2.2.2.2.2.2.2.1)]) (rf_upL J [(0, z.2.2.2.2.2.1)]) (rf_upL A [(28, z.2.2.2.2.2.2.2.2.2.2)]) B)) (F0 m 58 ls []) := by
  have hx := hC.1
  have hb := hC.2.1
  intro reader_next reader_sort reader_place reader_length reader_letters reader_whole reader_number reader_fault reader_faultPlace td_hourEars hf H locs ls hP hS hl
  unfold f_X5_readHour_58 at hf
  refine lv_iconst (v := 0) hx hb dX5_readHour_58 (by decide) ?_
  obtain rfl := Option.some.inj hf
  exact rf_retz hC hP hS (by decide) rfl rfl dX5_readHour_59
set_option maxHeartbeats 4000000 in
set_option maxRecDepth 100000 in
theorem c_X5_readHour (l : Launch) (E : rf_E) (a P : Nat → Nat) (I : Nat → Int32) (J : Nat → Int64) (A : Nat → Nat → Int32) (B : Nat → Nat → Int64) (reader_end : Int32) (x_tape : Nat → Int32) (reader_next : Int32) (reader_sort : Int32) (reader_place : Int32) (reader_length : Int32) (reader_letters : Int64) (reader_whole : Int32) (reader_number : Int32) (reader_fault : Int32) (reader_faultPlace : Int32) (td_hourEars : Nat → Int32) {z : Int32 × Int32 × Int32 × Int32 × Int32 × Int64 × Int32 × Int32 × Int32 × Int32 × (Nat → Int32)} (hp3 : P 3 = a 11) (e_reader_end : I 35 = reader_end) (e_x_tape : A 0 = x_tape) (e_reader_next : I 36 = reader_next) (e_reader_sort : I 39 = reader_sort) (e_reader_place : I 40 = reader_place) (e_reader_length : I 41 = reader_length) (e_reader_letters : J 0 = reader_letters) (e_reader_whole : I 42 = reader_whole) (e_reader_number : I 43 = reader_number) (e_reader_fault : I 45 = reader_fault) (e_reader_faultPlace : I 46 = reader_faultPlace) (e_td_hourEars : A 28 = td_hourEars) (hf : f_X5_readHour reader_end x_tape reader_next reader_sort reader_place reader_length reader_letters reader_whole reader_number reader_fault reader_faultPlace td_hourEars = some z) : rf_MI l yX5_readHour cX5_readHour 2 (some .boolean) ({ frames := 8, cells := 0, slots := 0, locals := 245 }) E [.ref (a 12)] (cX E a P I J A B) z.1 (cX E a P (rf_upL I [(36, z.2.1), (39, z.2.2.1), (40, z.2.2.2.1), (41, z.2.2.2.2.1), (42, z.2.2.2.2.2.2.1), (43, z.2.2.2.2.2.2.2.1), (45, z.2.2.2.2.2.2.2.2.1), (46, z.2.2.2.2.2.2.2.2.2.1)]) (rf_upL J [(0, z.2.2.2.2.2.1)]) (rf_upL A [(28, z.2.2.2.2.2.2.2.2.2.2)]) B) := by
  unfold f_X5_readHour at hf
  refine rf_ofI (by decide) (Nat.le_of_ble_eq_true rfl) ?_
  intro p e s m below meth c A0 ls hC hD hP hS hl
  have hC : rf_C p E s m _ meth c cX5_readHour 2 RX5 (some .boolean) A0 := hC
  have hx := hC.1
  have hb := hC.2.1
  have hl : lv_has ls 2 [(0, .ref (a 12))] := hl
  have hP : va_P (rf_D E) vwCl (cX E a P (rf_upL I [(36, reader_next), (39, reader_sort), (40, reader_place), (41, reader_length), (42, reader_whole), (43, reader_number), (45, reader_fault), (46, reader_faultPlace)]) (rf_upL J [(0, reader_letters)]) (rf_upL A [(28, td_hourEars)]) B) s.heap := by
    rw [rf_self (f := I) [(36, reader_next), (39, reader_sort), (40, reader_place), (41, reader_length), (42, reader_whole), (43, reader_number), (45, reader_fault), (46, reader_faultPlace)] (rf_fa1 e_reader_next (rf_fa1 e_reader_sort (rf_fa1 e_reader_place (rf_fa1 e_reader_length (rf_fa1 e_reader_whole (rf_fa1 e_reader_number (rf_fa1 e_reader_fault (rf_fa1 e_reader_faultPlace rf_fa0))))))))]
    rw [rf_self (f := J) [(0, reader_letters)] (rf_fa1 e_reader_letters rf_fa0)]
    rw [rf_self (f := A) [(28, td_hourEars)] (rf_fa1 e_td_hourEars rf_fa0)]
    exact hP
  refine lv_aload_n hx hb dX5_readHour_0 rfl (lv_at hl 0 rfl) ?_
  refine lv_iconst (v := 0) hx hb dX5_readHour_1 (by decide) ?_
  refine lv_bipush (v := 23) hx hb dX5_readHour_2 (by decide) ?_
  obtain ⟨z4, hz4, hf⟩ := rf_bd hf
  refine rf_vi (q0 := 12) (ci := 5) hC (c_X5_seesWhole l E a P (rf_upL I [(36, reader_next), (39, reader_sort), (40, reader_place), (41, reader_length), (42, reader_whole), (43, reader_number), (45, reader_fault), (46, reader_faultPlace)]) (rf_upL J [(0, reader_letters)]) (rf_upL A [(28, td_hourEars)]) B reader_sort reader_place reader_whole reader_fault reader_faultPlace 0 23 rfl rfl rfl rfl rfl hz4) kV_X5_seesWhole tw_578 ⟨Nat.le_of_ble_eq_true rfl, Nat.le_of_ble_eq_true rfl⟩ rfl rfl rfl rfl rfl hP (rf_DX hD) hS rfl hl.1 (rest := []) rfl (Nat.le_of_ble_eq_true rfl) dX5_readHour_4 (fun H locs hP hS => ?_)
  rw [rf_cat (f := I) (l := [(36, reader_next), (39, reader_sort), (40, reader_place), (41, reader_length), (42, reader_whole), (43, reader_number), (45, reader_fault), (46, reader_faultPlace)]) (lc := [(45, z4.2.1), (46, z4.2.2)]) (l' := [(36, reader_next), (39, reader_sort), (40, reader_place), (41, reader_length), (42, reader_whole), (43, reader_number), (45, z4.2.1), (46, z4.2.2)]) rfl] at hP
  refine lv_if_ne (tgt := 12) hx hb dX5_readHour_7 (by decide) (fun c_7 => ?_) (fun c_7 => ?_)
  · have hf := rf_ie c_7 hf
    refine lv_aload_n hx hb dX5_readHour_12 rfl (lv_at hl 0 rfl) ?_
    refine gX_reader_whole hC hP tw_347 (v := reader_whole) rfl dX5_readHour_13 ?_
    refine lv_istore_n (lv' := [(1, .int reader_whole), (0, .ref (a 12))]) hx hb dX5_readHour_16 rfl hl (by decide) rfl (fun ls hl => ?_)
    refine lv_aload_n hx hb dX5_readHour_17 rfl (lv_at hl 1 rfl) ?_
    refine gX_reader_tale hC hP tw_338 (v := a 11) hp3 dX5_readHour_18 ?_
    refine gX_td_hourEars hC hP tw_105 dX5_readHour_21 ?_
    refine lv_iload_n hx hb dX5_readHour_24 rfl (lv_at hl 0 rfl) ?_
    obtain ⟨hi_25, hf⟩ := rf_gu hf
    refine lX_td_hourEars hC hP hi_25 (f := td_hourEars) rfl dX5_readHour_25 ?_
    refine lv_if_le (tgt := 35) hx hb dX5_readHour_26 (by decide) (fun c_26 => ?_) (fun c_26 => ?_)
    · have hf := rf_it c_26 hf
      refine lv_aload_n hx hb dX5_readHour_35 rfl (lv_at hl 1 rfl) ?_
      obtain ⟨z36, hz36, hf⟩ := rf_bd hf
      refine rf_vv (q0 := 12) (ci := 5) hC (c_X5_look l E a P (rf_upL I [(36, reader_next), (39, reader_sort), (40, reader_place), (41, reader_length), (42, reader_whole), (43, reader_number), (45, z4.2.1), (46, z4.2.2)]) (rf_upL J [(0, reader_letters)]) (rf_upL A [(28, td_hourEars)]) B reader_end x_tape reader_next reader_sort reader_place reader_length reader_letters reader_whole e_reader_end e_x_tape rfl rfl rfl rfl rfl rfl hz36) kV_X5_look tw_473 ⟨Nat.le_of_ble_eq_true rfl, Nat.le_of_ble_eq_true rfl⟩ rfl rfl rfl rfl rfl hP (rf_DX hD) hS rfl hl.1 (rest := []) rfl (Nat.le_of_ble_eq_true rfl) dX5_readHour_36 (fun H locs hP hS => ?_)
      rw [rf_cat (f := I) (l := [(36, reader_next), (39, reader_sort), (40, reader_place), (41, reader_length), (42, reader_whole), (43, reader_number), (45, z4.2.1), (46, z4.2.2)]) (lc := [(36, z36.1), (39, z36.2.1), (40, z36.2.2.1), (41, z36.2.2.2.1), (42, z36.2.2.2.2.2)]) (l' := [(36, z36.1), (39, z36.2.1), (40, z36.2.2.1), (41, z36.2.2.2.1), (42, z36.2.2.2.2.2), (43, reader_number), (45, z4.2.1), (46, z4.2.2)]) rfl] at hP
      rw [rf_cat (f := J) (l := [(0, reader_letters)]) (lc := [(0, z36.2.2.2.2.1)]) (l' := [(0, z36.2.2.2.2.1)]) rfl] at hP
      refine lv_aload_n hx hb dX5_readHour_39 rfl (lv_at hl 1 rfl) ?_
      refine va_ldcS hx hb hC.2.2.2.1 (lk_8 hC.2.2.2.2.2.2.2.1.2.2.2) dX5_readHour_40 ?_
      obtain ⟨z42, hz42, hf⟩ := rf_bd hf
      refine rf_vi (q0 := 12) (ci := 5) hC (c_X5_takes l E a P (rf_upL I [(36, z36.1), (39, z36.2.1), (40, z36.2.2.1), (41, z36.2.2.2.1), (42, z36.2.2.2.2.2), (43, reader_number), (45, z4.2.1), (46, z4.2.2)]) (rf_upL J [(0, z36.2.2.2.2.1)]) (rf_upL A [(28, td_hourEars)]) B reader_end x_tape z36.1 z36.2.1 z36.2.2.1 z36.2.2.2.1 z36.2.2.2.2.1 z36.2.2.2.2.2 z4.2.1 z4.2.2 8 e_reader_end e_x_tape rfl rfl rfl rfl rfl rfl rfl rfl (by decide) hz42) kV_X5_takes tw_570 ⟨Nat.le_of_ble_eq_true rfl, Nat.le_of_ble_eq_true rfl⟩ rfl rfl rfl rfl rfl hP (rf_DX hD) hS rfl hl.1 (rest := []) rfl (Nat.le_of_ble_eq_true rfl) dX5_readHour_42 (fun H locs hP hS => ?_)
      rw [rf_cat (f := I) (l := [(36, z36.1), (39, z36.2.1), (40, z36.2.2.1), (41, z36.2.2.2.1), (42, z36.2.2.2.2.2), (43, reader_number), (45, z4.2.1), (46, z4.2.2)]) (lc := [(36, z42.2.1), (39, z42.2.2.1), (40, z42.2.2.2.1), (41, z42.2.2.2.2.1), (42, z42.2.2.2.2.2.2.1), (45, z42.2.2.2.2.2.2.2.1), (46, z42.2.2.2.2.2.2.2.2)]) (l' := [(36, z42.2.1), (39, z42.2.2.1), (40, z42.2.2.2.1), (41, z42.2.2.2.2.1), (42, z42.2.2.2.2.2.2.1), (43, reader_number), (45, z42.2.2.2.2.2.2.2.1), (46, z42.2.2.2.2.2.2.2.2)]) rfl] at hP
      rw [rf_cat (f := J) (l := [(0, z36.2.2.2.2.1)]) (lc := [(0, z42.2.2.2.2.2.1)]) (l' := [(0, z42.2.2.2.2.2.1)]) rfl] at hP
      refine lv_if_eq (tgt := 58) hx hb dX5_readHour_45 (by decide) (fun c_45 => ?_) (fun c_45 => ?_)
      · have hf := rf_it c_45 hf
        exact w_X5_readHour_58 hC hD hp3 e_reader_end e_x_tape z42.2.1 z42.2.2.1 z42.2.2.2.1 z42.2.2.2.2.1 z42.2.2.2.2.2.1 z42.2.2.2.2.2.2.1 reader_number z42.2.2.2.2.2.2.2.1 z42.2.2.2.2.2.2.2.2 td_hourEars hf _ _ _ hP hS (lv_sub hl [] rfl)
      have hf := rf_ie c_45 hf
      refine lv_aload_n hx hb dX5_readHour_48 rfl (lv_at hl 1 rfl) ?_
      refine lv_iconst (v := 1) hx hb dX5_readHour_49 (by decide) ?_
      refine lv_bipush (v := 6) hx hb dX5_readHour_50 (by decide) ?_
      obtain ⟨z52, hz52, hf⟩ := rf_bd hf
      refine rf_vi (q0 := 12) (ci := 5) hC (c_X5_takesWhole l E a P (rf_upL I [(36, z42.2.1), (39, z42.2.2.1), (40, z42.2.2.2.1), (41, z42.2.2.2.2.1), (42, z42.2.2.2.2.2.2.1), (43, reader_number), (45, z42.2.2.2.2.2.2.2.1), (46, z42.2.2.2.2.2.2.2.2)]) (rf_upL J [(0, z42.2.2.2.2.2.1)]) (rf_upL A [(28, td_hourEars)]) B reader_end x_tape z42.2.1 z42.2.2.1 z42.2.2.2.1 z42.2.2.2.2.1 z42.2.2.2.2.2.1 z42.2.2.2.2.2.2.1 reader_number z42.2.2.2.2.2.2.2.1 z42.2.2.2.2.2.2.2.2 1 6 e_reader_end e_x_tape rfl rfl rfl rfl rfl rfl rfl rfl rfl hz52) kV_X5_takesWhole tw_574 ⟨Nat.le_of_ble_eq_true rfl, Nat.le_of_ble_eq_true rfl⟩ rfl rfl rfl rfl rfl hP (rf_DX hD) hS rfl hl.1 (rest := []) rfl (Nat.le_of_ble_eq_true rfl) dX5_readHour_52 (fun H locs hP hS => ?_)
      rw [rf_cat (f := I) (l := [(36, z42.2.1), (39, z42.2.2.1), (40, z42.2.2.2.1), (41, z42.2.2.2.2.1), (42, z42.2.2.2.2.2.2.1), (43, reader_number), (45, z42.2.2.2.2.2.2.2.1), (46, z42.2.2.2.2.2.2.2.2)]) (lc := [(36, z52.2.1), (39, z52.2.2.1), (40, z52.2.2.2.1), (41, z52.2.2.2.2.1), (42, z52.2.2.2.2.2.2.1), (43, z52.2.2.2.2.2.2.2.1), (45, z52.2.2.2.2.2.2.2.2.1), (46, z52.2.2.2.2.2.2.2.2.2)]) (l' := [(36, z52.2.1), (39, z52.2.2.1), (40, z52.2.2.2.1), (41, z52.2.2.2.2.1), (42, z52.2.2.2.2.2.2.1), (43, z52.2.2.2.2.2.2.2.1), (45, z52.2.2.2.2.2.2.2.2.1), (46, z52.2.2.2.2.2.2.2.2.2)]) rfl] at hP
      rw [rf_cat (f := J) (l := [(0, z42.2.2.2.2.2.1)]) (lc := [(0, z52.2.2.2.2.2.1)]) (l' := [(0, z52.2.2.2.2.2.1)]) rfl] at hP
      refine lv_if_ne (tgt := 60) hx hb dX5_readHour_55 (by decide) (fun c_55 => ?_) (fun c_55 => ?_)
      · have hf := rf_ie c_55 hf
        refine lv_aload_n hx hb dX5_readHour_60 rfl (lv_at hl 1 rfl) ?_
        refine gX_reader_tale hC hP tw_338 (v := a 11) hp3 dX5_readHour_61 ?_
        refine gX_td_hourEars hC hP tw_105 dX5_readHour_64 ?_
        refine lv_iload_n hx hb dX5_readHour_67 rfl (lv_at hl 0 rfl) ?_
        refine lv_aload_n hx hb dX5_readHour_68 rfl (lv_at hl 1 rfl) ?_
        refine gX_reader_number hC hP tw_350 (v := z52.2.2.2.2.2.2.2.1) rfl dX5_readHour_69 ?_
        obtain ⟨hi_72, hf⟩ := rf_gu hf
        refine sX_td_hourEars hC hD hP hS hi_72 (f := td_hourEars) rfl dX5_readHour_72 (rf_upL A [(28, upd td_hourEars (Int32.toNatClampNeg reader_whole) z52.2.2.2.2.2.2.2.1)]) (rf_put rfl) (fun H locs hP hS => ?_)
        refine lv_iconst (v := 1) hx hb dX5_readHour_73 (by decide) ?_
        obtain rfl := Option.some.inj hf
        exact rf_retz hC hP hS (by decide) rfl rfl dX5_readHour_74
      have hf := rf_it c_55 hf
      exact w_X5_readHour_58 hC hD hp3 e_reader_end e_x_tape z52.2.1 z52.2.2.1 z52.2.2.2.1 z52.2.2.2.2.1 z52.2.2.2.2.2.1 z52.2.2.2.2.2.2.1 z52.2.2.2.2.2.2.2.1 z52.2.2.2.2.2.2.2.2.1 z52.2.2.2.2.2.2.2.2.2 td_hourEars hf _ _ _ hP hS (lv_sub hl [] rfl)
    have hf := rf_ie c_26 hf
    refine lv_aload_n hx hb dX5_readHour_29 rfl (lv_at hl 1 rfl) ?_
    refine lv_iconst (v := 3) hx hb dX5_readHour_30 (by decide) ?_
    obtain ⟨z31, hz31, hf⟩ := rf_bd hf
    refine rf_vi (q0 := 12) (ci := 5) hC (c_X5_fail l E a P (rf_upL I [(36, reader_next), (39, reader_sort), (40, reader_place), (41, reader_length), (42, reader_whole), (43, reader_number), (45, z4.2.1), (46, z4.2.2)]) (rf_upL J [(0, reader_letters)]) (rf_upL A [(28, td_hourEars)]) B reader_place z4.2.1 z4.2.2 3 rfl rfl rfl hz31) kV_X5_fail tw_553 ⟨Nat.le_of_ble_eq_true rfl, Nat.le_of_ble_eq_true rfl⟩ rfl rfl rfl rfl rfl hP (rf_DX hD) hS rfl hl.1 (rest := []) rfl (Nat.le_of_ble_eq_true rfl) dX5_readHour_31 (fun H locs hP hS => ?_)
    rw [rf_cat (f := I) (l := [(36, reader_next), (39, reader_sort), (40, reader_place), (41, reader_length), (42, reader_whole), (43, reader_number), (45, z4.2.1), (46, z4.2.2)]) (lc := [(45, z31.2.1), (46, z31.2.2)]) (l' := [(36, reader_next), (39, reader_sort), (40, reader_place), (41, reader_length), (42, reader_whole), (43, reader_number), (45, z31.2.1), (46, z31.2.2)]) rfl] at hP
    obtain ⟨hz_34, hf⟩ := rf_gu hf
    obtain rfl := Option.some.inj hf
    exact rf_retz hC hP hS hz_34 rfl rfl dX5_readHour_34
  have hf := rf_it c_7 hf
  refine lv_iconst (v := 0) hx hb dX5_readHour_10 (by decide) ?_
  obtain rfl := Option.some.inj hf
  exact rf_retz hC hP hS (by decide) rfl rfl dX5_readHour_11
set_option maxHeartbeats 4000000 in
set_option maxRecDepth 100000 in
theorem w_X9_wordNamed_td_2 {l : Launch} {p : Program} {e : Env} {s : State} {m : MethodId} {args : Array Value} {below : List Frame} {meth : Method} {c : Code} {A0 : Nat → Prop} {E : rf_E} {a P : Nat → Nat} {I : Nat → Int32} {J : Nat → Int64} {A : Nat → Nat → Int32} {B : Nat → Nat → Int64} {t_wordCount : Int32} {t_wordNames : Nat → Int64} {z : Int32} (hC : rf_C p E s m args meth c cX9_wordNamed 4 RX9 (some .int) A0) (hD : va_D A0 (cX E a P I J A B)) (e_t_wordCount : I 30 = t_wordCount) (e_t_wordNames : B 3 = t_wordNames) :
    ∀ (n : Nat), ∀ (v1 : Int64) (v3 : Int32), f_X9_wordNamed_2 t_wordCount t_wordNames n v1 v3 = some z → ∀ (H : Heap) (locs : List Loc) (ls : Array Slot), va_P (rf_D E) vwCl (cX E a P I J A B) H → va_S A0 s.heap H locs → lv_has ls 4 [(0, .ref (a 11)), (1, .long v1), (3, .int v3)] → W p l e ({ frames := 0, cells := 0, slots := 0, locals := 0 }) s m args below meth c H locs 0 0 (rf_QI below args s E A0 z (cX E a P I J A B)) (F0 m 2 ls []) := by
  have hx := hC.1
  have hb := hC.2.1
  intro n
  induction n with
  | zero =>
    intro v1 v3 hf
    have hf : (none : Option (Int32)) = some z := hf
    cases hf
  | succ n ih =>
    intro v1 v3 hf H locs ls hP hS hl
    rw [f_X9_wordNamed_2] at hf
    refine lv_iload_n hx hb dX9_wordNamed_2 rfl (lv_at hl 2 rfl) ?_
    refine lv_aload_n hx hb dX9_wordNamed_3 rfl (lv_at hl 0 rfl) ?_
    refine gX_td_wordCount hC hP tw_121 (v := t_wordCount) e_t_wordCount dX9_wordNamed_4 ?_
    refine lv_icmp_ge (tgt := 29) hx hb dX9_wordNamed_7 (by decide) (fun c_7 => ?_) (fun c_7 => ?_)
    · have hf := rf_it c_7 hf
      refine lv_iconst (v := (-1)) hx hb dX9_wordNamed_29 (by decide) ?_
      obtain rfl := Option.some.inj hf
      exact rf_reti hC hP hS rfl rfl dX9_wordNamed_30
    have hf := rf_ie c_7 hf
    refine lv_aload_n hx hb dX9_wordNamed_10 rfl (lv_at hl 0 rfl) ?_
    refine gX_td_wordNames hC hP tw_84 dX9_wordNamed_11 ?_
    refine lv_iload_n hx hb dX9_wordNamed_14 rfl (lv_at hl 2 rfl) ?_
    obtain ⟨hi_15, hf⟩ := rf_gu hf
    refine lX_td_wordNames hC hP hi_15 (f := t_wordNames) e_t_wordNames dX9_wordNamed_15 ?_
    refine lv_lload_n hx hb dX9_wordNamed_16 rfl (lv_at hl 1 rfl) ?_
    refine W.lcmp hx hb dX9_wordNamed_17 ?_
    refine lv_if_ne (tgt := 23) hx hb dX9_wordNamed_18 (by decide) (fun c_18 => ?_) (fun c_18 => ?_)
    · have hf := rf_ie c_18 hf
      refine lv_iinc (v := v3 + 1) (lv' := [(3, .int (v3 + 1)), (0, .ref (a 11)), (1, .long v1)]) hx hb dX9_wordNamed_23 hl (k := 2) rfl rfl (by decide) rfl (fun ls hl => ?_)
      refine lv_goto (tgt := 2) hx hb dX9_wordNamed_26 (by decide) ?_
      exact ih v1 (v3 + 1) hf _ _ _ hP hS (lv_sub hl [1, 2, 0] rfl)
    have hf := rf_it c_18 hf
    refine lv_iload_n hx hb dX9_wordNamed_21 rfl (lv_at hl 2 rfl) ?_
    obtain rfl := Option.some.inj hf
    exact rf_reti hC hP hS rfl rfl dX9_wordNamed_22
set_option maxHeartbeats 4000000 in
set_option maxRecDepth 100000 in
theorem c_X9_wordNamed_td (l : Launch) (E : rf_E) (a P : Nat → Nat) (I : Nat → Int32) (J : Nat → Int64) (A : Nat → Nat → Int32) (B : Nat → Nat → Int64) (t_wordCount : Int32) (t_wordNames : Nat → Int64) (v1 : Int64) {z : Int32} (e_t_wordCount : I 30 = t_wordCount) (e_t_wordNames : B 3 = t_wordNames) (hf : f_X9_wordNamed t_wordCount t_wordNames v1 = some z) : rf_MI l yX9_wordNamed cX9_wordNamed 4 (some .int) ({ frames := 0, cells := 0, slots := 0, locals := 0 }) E [.ref (a 11), .long v1] (cX E a P I J A B) z (cX E a P I J A B) := by
  unfold f_X9_wordNamed at hf
  refine rf_ofI (by decide) (Nat.le_of_ble_eq_true rfl) ?_
  intro p e s m below meth c A0 ls hC hD hP hS hl
  have hC : rf_C p E s m _ meth c cX9_wordNamed 4 RX9 (some .int) A0 := hC
  have hx := hC.1
  have hb := hC.2.1
  have hl : lv_has ls 4 [(0, .ref (a 11)), (1, .long v1)] := hl
  refine lv_iconst (v := 0) hx hb dX9_wordNamed_0 (by decide) ?_
  refine lv_istore_n (lv' := [(3, .int 0), (0, .ref (a 11)), (1, .long v1)]) hx hb dX9_wordNamed_1 rfl hl (by decide) rfl (fun ls hl => ?_)
  exact w_X9_wordNamed_td_2 hC hD e_t_wordCount e_t_wordNames rf_fu v1 0 hf _ _ _ hP hS (lv_sub hl [1, 2, 0] rfl)
set_option maxHeartbeats 4000000 in
set_option maxRecDepth 100000 in
theorem w_X5_seesToldWord_15 {l : Launch} {p : Program} {e : Env} {s : State} {m : MethodId} {args : Array Value} {below : List Frame} {meth : Method} {c : Code} {A0 : Nat → Prop} {E : rf_E} {a P : Nat → Nat} {I : Nat → Int32} {J : Nat → Int64} {A : Nat → Nat → Int32} {B : Nat → Nat → Int64} {td_wordCount : Int32} {reader_sort : Int32} {reader_place : Int32} {reader_length : Int32} {reader_letters : Int64} {td_wordNames : Nat → Int64} {z : Int32 × Int32 × Int32 × Int32} (hC : rf_C p E s m args meth c cX5_seesToldWord 1 RX5 (some .boolean) A0) (hD : va_D A0 (cX E a P I J A B)) (hp3 : P 3 = a 11) (e_td_wordCount : I 30 = td_wordCount) (e_reader_sort : I 39 = reader_sort) (e_reader_place : I 40 = reader_place) (e_reader_length : I 41 = reader_length) (e_reader_letters : J 0 = reader_letters) (e_td_wordNames : B 3 = td_wordNames) :
    ∀ (reader_found : Int32) (reader_fault : Int32) (reader_faultPlace : Int32), f_X5_seesToldWord_15 td_wordCount reader_sort reader_place reader_length reader_letters td_wordNames reader_found reader_fault reader_faultPlace = some z → ∀ (H : Heap) (locs : List Loc) (ls : Array Slot), va_P (rf_D E) vwCl (cX E a P (rf_upL I [(44, reader_found), (45, reader_fault), (46, reader_faultPlace)]) J A B) H → va_S A0 s.heap H locs → lv_has ls 1 [(0, .ref (a 12))] → W p l e ({ frames := 8, cells := 0, slots := 0, locals := 244 }) s m args below meth c H locs 0 0 (rf_QI below args s E A0 z.1 (cX E a P (rf_upL I [(44, z.2.1), (45, z.2.2.1), (46, z.2.2.2)]) J A B)) (F0 m 15 ls []) := by
  have hx := hC.1
  have hb := hC.2.1
  intro reader_found reader_fault reader_faultPlace hf H locs ls hP hS hl
  unfold f_X5_seesToldWord_15 at hf
  refine lv_aload_n hx hb dX5_seesToldWord_15 rfl (lv_at hl 0 rfl) ?_
  refine lv_iconst (v := 1) hx hb dX5_seesToldWord_16 (by decide) ?_
  obtain ⟨z17, hz17, hf⟩ := rf_bd hf
  refine rf_vi (q0 := 12) (ci := 5) hC (c_X5_fail l E a P (rf_upL I [(44, reader_found), (45, reader_fault), (46, reader_faultPlace)]) J A B reader_place reader_fault reader_faultPlace 1 e_reader_place rfl rfl hz17) kV_X5_fail tw_553 ⟨Nat.le_of_ble_eq_true rfl, Nat.le_of_ble_eq_true rfl⟩ rfl rfl rfl rfl rfl hP (rf_DX hD) hS rfl hl.1 (rest := []) rfl (Nat.le_of_ble_eq_true rfl) dX5_seesToldWord_17 (fun H locs hP hS => ?_)
  rw [rf_cat (f := I) (l := [(44, reader_found), (45, reader_fault), (46, reader_faultPlace)]) (lc := [(45, z17.2.1), (46, z17.2.2)]) (l' := [(44, reader_found), (45, z17.2.1), (46, z17.2.2)]) rfl] at hP
  obtain ⟨hz_20, hf⟩ := rf_gu hf
  obtain rfl := Option.some.inj hf
  exact rf_retz hC hP hS hz_20 rfl rfl dX5_seesToldWord_20
set_option maxHeartbeats 4000000 in
set_option maxRecDepth 100000 in
theorem w_X5_seesToldWord_52 {l : Launch} {p : Program} {e : Env} {s : State} {m : MethodId} {args : Array Value} {below : List Frame} {meth : Method} {c : Code} {A0 : Nat → Prop} {E : rf_E} {a P : Nat → Nat} {I : Nat → Int32} {J : Nat → Int64} {A : Nat → Nat → Int32} {B : Nat → Nat → Int64} {td_wordCount : Int32} {reader_sort : Int32} {reader_place : Int32} {reader_length : Int32} {reader_letters : Int64} {td_wordNames : Nat → Int64} {z : Int32 × Int32 × Int32 × Int32} (hC : rf_C p E s m args meth c cX5_seesToldWord 1 RX5 (some .boolean) A0) (hD : va_D A0 (cX E a P I J A B)) (hp3 : P 3 = a 11) (e_td_wordCount : I 30 = td_wordCount) (e_reader_sort : I 39 = reader_sort) (e_reader_place : I 40 = reader_place) (e_reader_length : I 41 = reader_length) (e_reader_letters : J 0 = reader_letters) (e_td_wordNames : B 3 = td_wordNames) :
    ∀ (reader_found : Int32) (reader_fault : Int32) (reader_faultPlace : Int32), f_X5_seesToldWord_52 td_wordCount reader_sort reader_place reader_length reader_letters td_wordNames reader_found reader_fault reader_faultPlace = some z → ∀ (H : Heap) (locs : List Loc) (ls : Array Slot), va_P (rf_D E) vwCl (cX E a P (rf_upL I [(44, reader_found), (45, reader_fault), (46, reader_faultPlace)]) J A B) H → va_S A0 s.heap H locs → lv_has ls 1 [] → W p l e ({ frames := 8, cells := 0, slots := 0, locals := 244 }) s m args below meth c H locs 0 0 (rf_QI below args s E A0 z.1 (cX E a P (rf_upL I [(44, z.2.1), (45, z.2.2.1), (46, z.2.2.2)]) J A B)) (F0 m 52 ls []) := by
  have hx := hC.1
  have hb := hC.2.1
  intro reader_found reader_fault reader_faultPlace hf H locs ls hP hS hl
  unfold f_X5_seesToldWord_52 at hf
  refine lv_iconst (v := 1) hx hb dX5_seesToldWord_52 (by decide) ?_
  refine lv_goto (tgt := 57) hx hb dX5_seesToldWord_53 (by decide) ?_
  obtain rfl := Option.some.inj hf
  exact rf_retz hC hP hS (by decide) rfl rfl dX5_seesToldWord_57
set_option maxHeartbeats 4000000 in
set_option maxRecDepth 100000 in
theorem c_X5_seesToldWord (l : Launch) (E : rf_E) (a P : Nat → Nat) (I : Nat → Int32) (J : Nat → Int64) (A : Nat → Nat → Int32) (B : Nat → Nat → Int64) (td_wordCount : Int32) (reader_sort : Int32) (reader_place : Int32) (reader_length : Int32) (reader_letters : Int64) (td_wordNames : Nat → Int64) (reader_found : Int32) (reader_fault : Int32) (reader_faultPlace : Int32) {z : Int32 × Int32 × Int32 × Int32} (hp3 : P 3 = a 11) (e_td_wordCount : I 30 = td_wordCount) (e_reader_sort : I 39 = reader_sort) (e_reader_place : I 40 = reader_place) (e_reader_length : I 41 = reader_length) (e_reader_letters : J 0 = reader_letters) (e_td_wordNames : B 3 = td_wordNames) (e_reader_found : I 44 = reader_found) (e_reader_fault : I 45 = reader_fault) (e_reader_faultPlace : I 46 = reader_faultPlace) (hf : f_X5_seesToldWord td_wordCount reader_sort reader_place reader_length reader_letters td_wordNames reader_found reader_fault reader_faultPlace = some z) : rf_MI l yX5_seesToldWord cX5_seesToldWord 1 (some .boolean) ({ frames := 8, cells := 0, slots := 0, locals := 244 }) E [.ref (a 12)] (cX E a P I J A B) z.1 (cX E a P (rf_upL I [(44, z.2.1), (45, z.2.2.1), (46, z.2.2.2)]) J A B) := by
  unfold f_X5_seesToldWord at hf
  refine rf_ofI (by decide) (Nat.le_of_ble_eq_true rfl) ?_
  intro p e s m below meth c A0 ls hC hD hP hS hl
  have hC : rf_C p E s m _ meth c cX5_seesToldWord 1 RX5 (some .boolean) A0 := hC
  have hx := hC.1
  have hb := hC.2.1
  have hl : lv_has ls 1 [(0, .ref (a 12))] := hl
  have hP : va_P (rf_D E) vwCl (cX E a P (rf_upL I [(44, reader_found), (45, reader_fault), (46, reader_faultPlace)]) J A B) s.heap := by
    rw [rf_self (f := I) [(44, reader_found), (45, reader_fault), (46, reader_faultPlace)] (rf_fa1 e_reader_found (rf_fa1 e_reader_fault (rf_fa1 e_reader_faultPlace rf_fa0)))]
    exact hP
  refine lv_aload_n hx hb dX5_seesToldWord_0 rfl (lv_at hl 0 rfl) ?_
  refine gX_reader_sort hC hP tw_343 (v := reader_sort) e_reader_sort dX5_seesToldWord_1 ?_
  refine lv_iconst (v := 1) hx hb dX5_seesToldWord_4 (by decide) ?_
  refine lv_icmp_ne (tgt := 15) hx hb dX5_seesToldWord_5 (by decide) (fun c_5 => ?_) (fun c_5 => ?_)
  · have hf := rf_ie c_5 hf
    exact w_X5_seesToldWord_15 hC hD hp3 e_td_wordCount e_reader_sort e_reader_place e_reader_length e_reader_letters e_td_wordNames reader_found reader_fault reader_faultPlace hf _ _ _ hP hS (lv_sub hl [0] rfl)
  have hf := rf_it c_5 hf
  refine lv_aload_n hx hb dX5_seesToldWord_8 rfl (lv_at hl 0 rfl) ?_
  obtain ⟨z9, hz9, hf⟩ := rf_bd hf
  refine rf_vi (q0 := 12) (ci := 5) hC (c_X5_lineBegun l E a P (rf_upL I [(44, reader_found), (45, reader_fault), (46, reader_faultPlace)]) J A B reader_sort reader_length reader_letters e_reader_sort e_reader_length e_reader_letters hz9) kV_X5_lineBegun tw_489 ⟨Nat.le_of_ble_eq_true rfl, Nat.le_of_ble_eq_true rfl⟩ rfl rfl rfl rfl rfl hP (rf_DX hD) hS rfl hl.1 (rest := []) rfl (Nat.le_of_ble_eq_true rfl) dX5_seesToldWord_9 (fun H locs hP hS => ?_)
  refine lv_if_eq (tgt := 21) hx hb dX5_seesToldWord_12 (by decide) (fun c_12 => ?_) (fun c_12 => ?_)
  · have hf := rf_it c_12 hf
    refine lv_aload_n hx hb dX5_seesToldWord_21 rfl (lv_at hl 0 rfl) ?_
    refine lv_aload_n hx hb dX5_seesToldWord_22 rfl (lv_at hl 0 rfl) ?_
    refine gX_reader_tale hC hP tw_338 (v := a 11) hp3 dX5_seesToldWord_23 ?_
    refine lv_aload_n hx hb dX5_seesToldWord_26 rfl (lv_at hl 0 rfl) ?_
    refine gX_reader_letters hC hP tw_346 (v := reader_letters) e_reader_letters dX5_seesToldWord_27 ?_
    obtain ⟨z30, hz30, hf⟩ := rf_bd hf
    refine rf_vi (q0 := 11) (ci := 9) hC (c_X9_wordNamed_td l E a P (rf_upL I [(44, reader_found), (45, reader_fault), (46, reader_faultPlace)]) J A B td_wordCount td_wordNames reader_letters e_td_wordCount e_td_wordNames hz30) kV_X9_wordNamed tw_591 ⟨Nat.le_of_ble_eq_true rfl, Nat.le_of_ble_eq_true rfl⟩ rfl rfl rfl rfl rfl hP (rf_DX hD) hS rfl hl.1 (rest := [.ref (a 12)]) rfl (Nat.le_of_ble_eq_true rfl) dX5_seesToldWord_30 (fun H locs hP hS => ?_)
    refine pX_reader_found hC hD hP hS tw_351 dX5_seesToldWord_33 (rf_upL I [(44, z30), (45, reader_fault), (46, reader_faultPlace)]) (rf_put rfl) (fun H locs hP hS => ?_)
    refine lv_aload_n hx hb dX5_seesToldWord_36 rfl (lv_at hl 0 rfl) ?_
    refine gX_reader_found hC hP tw_351 (v := z30) rfl dX5_seesToldWord_37 ?_
    refine lv_iconst (v := (-1)) hx hb dX5_seesToldWord_40 (by decide) ?_
    refine lv_icmp_ne (tgt := 52) hx hb dX5_seesToldWord_41 (by decide) (fun c_41 => ?_) (fun c_41 => ?_)
    · have hf := rf_ie c_41 hf
      exact w_X5_seesToldWord_52 hC hD hp3 e_td_wordCount e_reader_sort e_reader_place e_reader_length e_reader_letters e_td_wordNames z30 reader_fault reader_faultPlace hf _ _ _ hP hS (lv_sub hl [] rfl)
    have hf := rf_it c_41 hf
    refine lv_aload_n hx hb dX5_seesToldWord_44 rfl (lv_at hl 0 rfl) ?_
    refine lv_iconst (v := 2) hx hb dX5_seesToldWord_45 (by decide) ?_
    obtain ⟨z46, hz46, hf⟩ := rf_bd hf
    refine rf_vi (q0 := 12) (ci := 5) hC (c_X5_fail l E a P (rf_upL I [(44, z30), (45, reader_fault), (46, reader_faultPlace)]) J A B reader_place reader_fault reader_faultPlace 2 e_reader_place rfl rfl hz46) kV_X5_fail tw_553 ⟨Nat.le_of_ble_eq_true rfl, Nat.le_of_ble_eq_true rfl⟩ rfl rfl rfl rfl rfl hP (rf_DX hD) hS rfl hl.1 (rest := []) rfl (Nat.le_of_ble_eq_true rfl) dX5_seesToldWord_46 (fun H locs hP hS => ?_)
    rw [rf_cat (f := I) (l := [(44, z30), (45, reader_fault), (46, reader_faultPlace)]) (lc := [(45, z46.2.1), (46, z46.2.2)]) (l' := [(44, z30), (45, z46.2.1), (46, z46.2.2)]) rfl] at hP
    refine lv_if_eq (tgt := 56) hx hb dX5_seesToldWord_49 (by decide) (fun c_49 => ?_) (fun c_49 => ?_)
    · have hf := rf_it c_49 hf
      refine lv_iconst (v := 0) hx hb dX5_seesToldWord_56 (by decide) ?_
      obtain rfl := Option.some.inj hf
      exact rf_retz hC hP hS (by decide) rfl rfl dX5_seesToldWord_57
    have hf := rf_ie c_49 hf
    exact w_X5_seesToldWord_52 hC hD hp3 e_td_wordCount e_reader_sort e_reader_place e_reader_length e_reader_letters e_td_wordNames z30 z46.2.1 z46.2.2 hf _ _ _ hP hS (lv_sub hl [] rfl)
  have hf := rf_ie c_12 hf
  exact w_X5_seesToldWord_15 hC hD hp3 e_td_wordCount e_reader_sort e_reader_place e_reader_length e_reader_letters e_td_wordNames reader_found reader_fault reader_faultPlace hf _ _ _ hP hS (lv_sub hl [0] rfl)
set_option maxHeartbeats 4000000 in
set_option maxRecDepth 100000 in
theorem c_X5_readKnows (l : Launch) (E : rf_E) (a P : Nat → Nat) (I : Nat → Int32) (J : Nat → Int64) (A : Nat → Nat → Int32) (B : Nat → Nat → Int64) (td_wordCount : Int32) (td_personCount : Int32) (reader_end : Int32) (x_tape : Nat → Int32) (td_wordNames : Nat → Int64) (td_personNames : Nat → Int64) (reader_next : Int32) (reader_knowings : Int32) (reader_sort : Int32) (reader_place : Int32) (reader_length : Int32) (reader_letters : Int64) (reader_whole : Int32) (reader_found : Int32) (reader_fault : Int32) (reader_faultPlace : Int32) (td_firstWords : Nat → Int32) {z : Int32 × Int32 × Int32 × Int32 × Int32 × Int32 × Int64 × Int32 × Int32 × Int32 × Int32 × (Nat → Int32)} (hp3 : P 3 = a 11) (e_td_wordCount : I 30 = td_wordCount) (e_td_personCount : I 31 = td_personCount) (e_reader_end : I 35 = reader_end) (e_x_tape : A 0 = x_tape) (e_td_wordNames : B 3 = td_wordNames) (e_td_personNames : B 5 = td_personNames) (e_reader_next : I 36 = reader_next) (e_reader_knowings : I 38 = reader_knowings) (e_reader_sort : I 39 = reader_sort) (e_reader_place : I 40 = reader_place) (e_reader_length : I 41 = reader_length) (e_reader_letters : J 0 = reader_letters) (e_reader_whole : I 42 = reader_whole) (e_reader_found : I 44 = reader_found) (e_reader_fault : I 45 = reader_fault) (e_reader_faultPlace : I 46 = reader_faultPlace) (e_td_firstWords : A 25 = td_firstWords) (hf : f_X5_readKnows td_wordCount td_personCount reader_end x_tape td_wordNames td_personNames reader_next reader_knowings reader_sort reader_place reader_length reader_letters reader_whole reader_found reader_fault reader_faultPlace td_firstWords = some z) : rf_MI l yX5_readKnows cX5_readKnows 2 (some .boolean) ({ frames := 9, cells := 0, slots := 0, locals := 264 }) E [.ref (a 12)] (cX E a P I J A B) z.1 (cX E a P (rf_upL I [(36, z.2.1), (38, z.2.2.1), (39, z.2.2.2.1), (40, z.2.2.2.2.1), (41, z.2.2.2.2.2.1), (42, z.2.2.2.2.2.2.2.1), (44, z.2.2.2.2.2.2.2.2.1), (45, z.2.2.2.2.2.2.2.2.2.1), (46, z.2.2.2.2.2.2.2.2.2.2.1)]) (rf_upL J [(0, z.2.2.2.2.2.2.1)]) (rf_upL A [(25, z.2.2.2.2.2.2.2.2.2.2.2)]) B) := by
  unfold f_X5_readKnows at hf
  refine rf_ofI (by decide) (Nat.le_of_ble_eq_true rfl) ?_
  intro p e s m below meth c A0 ls hC hD hP hS hl
  have hC : rf_C p E s m _ meth c cX5_readKnows 2 RX5 (some .boolean) A0 := hC
  have hx := hC.1
  have hb := hC.2.1
  have hl : lv_has ls 2 [(0, .ref (a 12))] := hl
  have hP : va_P (rf_D E) vwCl (cX E a P (rf_upL I [(36, reader_next), (38, reader_knowings), (39, reader_sort), (40, reader_place), (41, reader_length), (42, reader_whole), (44, reader_found), (45, reader_fault), (46, reader_faultPlace)]) (rf_upL J [(0, reader_letters)]) (rf_upL A [(25, td_firstWords)]) B) s.heap := by
    rw [rf_self (f := I) [(36, reader_next), (38, reader_knowings), (39, reader_sort), (40, reader_place), (41, reader_length), (42, reader_whole), (44, reader_found), (45, reader_fault), (46, reader_faultPlace)] (rf_fa1 e_reader_next (rf_fa1 e_reader_knowings (rf_fa1 e_reader_sort (rf_fa1 e_reader_place (rf_fa1 e_reader_length (rf_fa1 e_reader_whole (rf_fa1 e_reader_found (rf_fa1 e_reader_fault (rf_fa1 e_reader_faultPlace rf_fa0)))))))))]
    rw [rf_self (f := J) [(0, reader_letters)] (rf_fa1 e_reader_letters rf_fa0)]
    rw [rf_self (f := A) [(25, td_firstWords)] (rf_fa1 e_td_firstWords rf_fa0)]
    exact hP
  refine lv_aload_n hx hb dX5_readKnows_0 rfl (lv_at hl 0 rfl) ?_
  obtain ⟨z1, hz1, hf⟩ := rf_bd hf
  refine rf_vi (q0 := 12) (ci := 5) hC (c_X5_seesToldPerson l E a P (rf_upL I [(36, reader_next), (38, reader_knowings), (39, reader_sort), (40, reader_place), (41, reader_length), (42, reader_whole), (44, reader_found), (45, reader_fault), (46, reader_faultPlace)]) (rf_upL J [(0, reader_letters)]) (rf_upL A [(25, td_firstWords)]) B td_personCount reader_sort reader_place reader_length reader_letters td_personNames reader_found reader_fault reader_faultPlace hp3 e_td_personCount rfl rfl rfl rfl e_td_personNames rfl rfl rfl hz1) kV_X5_seesToldPerson tw_635 ⟨Nat.le_of_ble_eq_true rfl, Nat.le_of_ble_eq_true rfl⟩ rfl rfl rfl rfl rfl hP (rf_DX hD) hS rfl hl.1 (rest := []) rfl (Nat.le_of_ble_eq_true rfl) dX5_readKnows_1 (fun H locs hP hS => ?_)
  rw [rf_cat (f := I) (l := [(36, reader_next), (38, reader_knowings), (39, reader_sort), (40, reader_place), (41, reader_length), (42, reader_whole), (44, reader_found), (45, reader_fault), (46, reader_faultPlace)]) (lc := [(44, z1.2.1), (45, z1.2.2.1), (46, z1.2.2.2)]) (l' := [(36, reader_next), (38, reader_knowings), (39, reader_sort), (40, reader_place), (41, reader_length), (42, reader_whole), (44, z1.2.1), (45, z1.2.2.1), (46, z1.2.2.2)]) rfl] at hP
  refine lv_if_ne (tgt := 9) hx hb dX5_readKnows_4 (by decide) (fun c_4 => ?_) (fun c_4 => ?_)
  · have hf := rf_ie c_4 hf
    refine lv_aload_n hx hb dX5_readKnows_9 rfl (lv_at hl 0 rfl) ?_
    refine gX_reader_found hC hP tw_351 (v := z1.2.1) rfl dX5_readKnows_10 ?_
    refine lv_istore_n (lv' := [(1, .int z1.2.1), (0, .ref (a 12))]) hx hb dX5_readKnows_13 rfl hl (by decide) rfl (fun ls hl => ?_)
    refine lv_aload_n hx hb dX5_readKnows_14 rfl (lv_at hl 1 rfl) ?_
    obtain ⟨z15, hz15, hf⟩ := rf_bd hf
    refine rf_vv (q0 := 12) (ci := 5) hC (c_X5_look l E a P (rf_upL I [(36, reader_next), (38, reader_knowings), (39, reader_sort), (40, reader_place), (41, reader_length), (42, reader_whole), (44, z1.2.1), (45, z1.2.2.1), (46, z1.2.2.2)]) (rf_upL J [(0, reader_letters)]) (rf_upL A [(25, td_firstWords)]) B reader_end x_tape reader_next reader_sort reader_place reader_length reader_letters reader_whole e_reader_end e_x_tape rfl rfl rfl rfl rfl rfl hz15) kV_X5_look tw_473 ⟨Nat.le_of_ble_eq_true rfl, Nat.le_of_ble_eq_true rfl⟩ rfl rfl rfl rfl rfl hP (rf_DX hD) hS rfl hl.1 (rest := []) rfl (Nat.le_of_ble_eq_true rfl) dX5_readKnows_15 (fun H locs hP hS => ?_)
    rw [rf_cat (f := I) (l := [(36, reader_next), (38, reader_knowings), (39, reader_sort), (40, reader_place), (41, reader_length), (42, reader_whole), (44, z1.2.1), (45, z1.2.2.1), (46, z1.2.2.2)]) (lc := [(36, z15.1), (39, z15.2.1), (40, z15.2.2.1), (41, z15.2.2.2.1), (42, z15.2.2.2.2.2)]) (l' := [(36, z15.1), (38, reader_knowings), (39, z15.2.1), (40, z15.2.2.1), (41, z15.2.2.2.1), (42, z15.2.2.2.2.2), (44, z1.2.1), (45, z1.2.2.1), (46, z1.2.2.2)]) rfl] at hP
    rw [rf_cat (f := J) (l := [(0, reader_letters)]) (lc := [(0, z15.2.2.2.2.1)]) (l' := [(0, z15.2.2.2.2.1)]) rfl] at hP
    refine lv_aload_n hx hb dX5_readKnows_18 rfl (lv_at hl 1 rfl) ?_
    obtain ⟨z19, hz19, hf⟩ := rf_bd hf
    refine rf_vi (q0 := 12) (ci := 5) hC (c_X5_seesToldWord l E a P (rf_upL I [(36, z15.1), (38, reader_knowings), (39, z15.2.1), (40, z15.2.2.1), (41, z15.2.2.2.1), (42, z15.2.2.2.2.2), (44, z1.2.1), (45, z1.2.2.1), (46, z1.2.2.2)]) (rf_upL J [(0, z15.2.2.2.2.1)]) (rf_upL A [(25, td_firstWords)]) B td_wordCount z15.2.1 z15.2.2.1 z15.2.2.2.1 z15.2.2.2.2.1 td_wordNames z1.2.1 z1.2.2.1 z1.2.2.2 hp3 e_td_wordCount rfl rfl rfl rfl e_td_wordNames rfl rfl rfl hz19) kV_X5_seesToldWord tw_623 ⟨Nat.le_of_ble_eq_true rfl, Nat.le_of_ble_eq_true rfl⟩ rfl rfl rfl rfl rfl hP (rf_DX hD) hS rfl hl.1 (rest := []) rfl (Nat.le_of_ble_eq_true rfl) dX5_readKnows_19 (fun H locs hP hS => ?_)
    rw [rf_cat (f := I) (l := [(36, z15.1), (38, reader_knowings), (39, z15.2.1), (40, z15.2.2.1), (41, z15.2.2.2.1), (42, z15.2.2.2.2.2), (44, z1.2.1), (45, z1.2.2.1), (46, z1.2.2.2)]) (lc := [(44, z19.2.1), (45, z19.2.2.1), (46, z19.2.2.2)]) (l' := [(36, z15.1), (38, reader_knowings), (39, z15.2.1), (40, z15.2.2.1), (41, z15.2.2.2.1), (42, z15.2.2.2.2.2), (44, z19.2.1), (45, z19.2.2.1), (46, z19.2.2.2)]) rfl] at hP
    refine lv_if_ne (tgt := 27) hx hb dX5_readKnows_22 (by decide) (fun c_22 => ?_) (fun c_22 => ?_)
    · have hf := rf_ie c_22 hf
      refine lv_aload_n hx hb dX5_readKnows_27 rfl (lv_at hl 1 rfl) ?_
      refine gX_reader_tale hC hP tw_338 (v := a 11) hp3 dX5_readKnows_28 ?_
      refine gX_td_firstWords hC hP tw_98 dX5_readKnows_31 ?_
      refine lv_iload_n hx hb dX5_readKnows_34 rfl (lv_at hl 0 rfl) ?_
      obtain ⟨hi_35, hf⟩ := rf_gu hf
      refine lX_td_firstWords hC hP hi_35 (f := td_firstWords) rfl dX5_readKnows_35 ?_
      refine lv_aload_n hx hb dX5_readKnows_36 rfl (lv_at hl 1 rfl) ?_
      refine gX_reader_found hC hP tw_351 (v := z19.2.1) rfl dX5_readKnows_37 ?_
      obtain ⟨z40, hz40, hf⟩ := rf_bd hf
      refine rf_sn0 hC (c_X10_holds l E (td_firstWords (Int32.toNatClampNeg z1.2.1)) z19.2.1 hz40) kS_X10_holds nw_639 ⟨Nat.le_of_ble_eq_true rfl, Nat.le_of_ble_eq_true rfl⟩ rfl rfl hP hS rfl hl.1 (rest := []) rfl (Nat.le_of_ble_eq_true rfl) dX5_readKnows_40 (fun H locs hP hS => ?_)
      refine lv_if_eq (tgt := 52) hx hb dX5_readKnows_43 (by decide) (fun c_43 => ?_) (fun c_43 => ?_)
      · have hf := rf_it c_43 hf
        refine lv_aload_n hx hb dX5_readKnows_52 rfl (lv_at hl 1 rfl) ?_
        obtain ⟨z53, hz53, hf⟩ := rf_bd hf
        refine rf_vv (q0 := 12) (ci := 5) hC (c_X5_look l E a P (rf_upL I [(36, z15.1), (38, reader_knowings), (39, z15.2.1), (40, z15.2.2.1), (41, z15.2.2.2.1), (42, z15.2.2.2.2.2), (44, z19.2.1), (45, z19.2.2.1), (46, z19.2.2.2)]) (rf_upL J [(0, z15.2.2.2.2.1)]) (rf_upL A [(25, td_firstWords)]) B reader_end x_tape z15.1 z15.2.1 z15.2.2.1 z15.2.2.2.1 z15.2.2.2.2.1 z15.2.2.2.2.2 e_reader_end e_x_tape rfl rfl rfl rfl rfl rfl hz53) kV_X5_look tw_473 ⟨Nat.le_of_ble_eq_true rfl, Nat.le_of_ble_eq_true rfl⟩ rfl rfl rfl rfl rfl hP (rf_DX hD) hS rfl hl.1 (rest := []) rfl (Nat.le_of_ble_eq_true rfl) dX5_readKnows_53 (fun H locs hP hS => ?_)
        rw [rf_cat (f := I) (l := [(36, z15.1), (38, reader_knowings), (39, z15.2.1), (40, z15.2.2.1), (41, z15.2.2.2.1), (42, z15.2.2.2.2.2), (44, z19.2.1), (45, z19.2.2.1), (46, z19.2.2.2)]) (lc := [(36, z53.1), (39, z53.2.1), (40, z53.2.2.1), (41, z53.2.2.2.1), (42, z53.2.2.2.2.2)]) (l' := [(36, z53.1), (38, reader_knowings), (39, z53.2.1), (40, z53.2.2.1), (41, z53.2.2.2.1), (42, z53.2.2.2.2.2), (44, z19.2.1), (45, z19.2.2.1), (46, z19.2.2.2)]) rfl] at hP
        rw [rf_cat (f := J) (l := [(0, z15.2.2.2.2.1)]) (lc := [(0, z53.2.2.2.2.1)]) (l' := [(0, z53.2.2.2.2.1)]) rfl] at hP
        refine lv_aload_n hx hb dX5_readKnows_56 rfl (lv_at hl 1 rfl) ?_
        refine gX_reader_tale hC hP tw_338 (v := a 11) hp3 dX5_readKnows_57 ?_
        refine gX_td_firstWords hC hP tw_98 dX5_readKnows_60 ?_
        refine lv_iload_n hx hb dX5_readKnows_63 rfl (lv_at hl 0 rfl) ?_
        refine lv_dup2_11 hx hb dX5_readKnows_64 rfl rfl ?_
        obtain ⟨hi_65, hf⟩ := rf_gu hf
        refine lX_td_firstWords hC hP hi_65 (f := td_firstWords) rfl dX5_readKnows_65 ?_
        refine lv_iconst (v := 1) hx hb dX5_readKnows_66 (by decide) ?_
        refine lv_aload_n hx hb dX5_readKnows_67 rfl (lv_at hl 1 rfl) ?_
        refine gX_reader_found hC hP tw_351 (v := z19.2.1) rfl dX5_readKnows_68 ?_
        refine lv_ishl hx hb dX5_readKnows_71 ?_
        refine lv_ior hx hb dX5_readKnows_72 ?_
        obtain ⟨hi_73, hf⟩ := rf_gu hf
        refine sX_td_firstWords hC hD hP hS hi_73 (f := td_firstWords) rfl dX5_readKnows_73 (rf_upL A [(25, upd td_firstWords (Int32.toNatClampNeg z1.2.1) ((td_firstWords (Int32.toNatClampNeg z1.2.1)) ||| ((1 : Int32) <<< (z19.2.1 &&& 31))))]) (rf_put rfl) (fun H locs hP hS => ?_)
        refine lv_aload_n hx hb dX5_readKnows_74 rfl (lv_at hl 1 rfl) ?_
        refine lv_dup hx hb dX5_readKnows_75 rfl ?_
        refine gX_reader_knowings hC hP tw_342 (v := reader_knowings) rfl dX5_readKnows_76 ?_
        refine lv_iconst (v := 1) hx hb dX5_readKnows_79 (by decide) ?_
        refine lv_iadd hx hb dX5_readKnows_80 ?_
        refine pX_reader_knowings hC hD hP hS tw_342 dX5_readKnows_81 (rf_upL I [(36, z53.1), (38, reader_knowings + 1), (39, z53.2.1), (40, z53.2.2.1), (41, z53.2.2.2.1), (42, z53.2.2.2.2.2), (44, z19.2.1), (45, z19.2.2.1), (46, z19.2.2.2)]) (rf_put rfl) (fun H locs hP hS => ?_)
        refine lv_iconst (v := 1) hx hb dX5_readKnows_84 (by decide) ?_
        obtain rfl := Option.some.inj hf
        exact rf_retz hC hP hS (by decide) rfl rfl dX5_readKnows_85
      have hf := rf_ie c_43 hf
      refine lv_aload_n hx hb dX5_readKnows_46 rfl (lv_at hl 1 rfl) ?_
      refine lv_iconst (v := 3) hx hb dX5_readKnows_47 (by decide) ?_
      obtain ⟨z48, hz48, hf⟩ := rf_bd hf
      refine rf_vi (q0 := 12) (ci := 5) hC (c_X5_fail l E a P (rf_upL I [(36, z15.1), (38, reader_knowings), (39, z15.2.1), (40, z15.2.2.1), (41, z15.2.2.2.1), (42, z15.2.2.2.2.2), (44, z19.2.1), (45, z19.2.2.1), (46, z19.2.2.2)]) (rf_upL J [(0, z15.2.2.2.2.1)]) (rf_upL A [(25, td_firstWords)]) B z15.2.2.1 z19.2.2.1 z19.2.2.2 3 rfl rfl rfl hz48) kV_X5_fail tw_553 ⟨Nat.le_of_ble_eq_true rfl, Nat.le_of_ble_eq_true rfl⟩ rfl rfl rfl rfl rfl hP (rf_DX hD) hS rfl hl.1 (rest := []) rfl (Nat.le_of_ble_eq_true rfl) dX5_readKnows_48 (fun H locs hP hS => ?_)
      rw [rf_cat (f := I) (l := [(36, z15.1), (38, reader_knowings), (39, z15.2.1), (40, z15.2.2.1), (41, z15.2.2.2.1), (42, z15.2.2.2.2.2), (44, z19.2.1), (45, z19.2.2.1), (46, z19.2.2.2)]) (lc := [(45, z48.2.1), (46, z48.2.2)]) (l' := [(36, z15.1), (38, reader_knowings), (39, z15.2.1), (40, z15.2.2.1), (41, z15.2.2.2.1), (42, z15.2.2.2.2.2), (44, z19.2.1), (45, z48.2.1), (46, z48.2.2)]) rfl] at hP
      obtain ⟨hz_51, hf⟩ := rf_gu hf
      obtain rfl := Option.some.inj hf
      exact rf_retz hC hP hS hz_51 rfl rfl dX5_readKnows_51
    have hf := rf_it c_22 hf
    refine lv_iconst (v := 0) hx hb dX5_readKnows_25 (by decide) ?_
    obtain rfl := Option.some.inj hf
    exact rf_retz hC hP hS (by decide) rfl rfl dX5_readKnows_26
  have hf := rf_it c_4 hf
  refine lv_iconst (v := 0) hx hb dX5_readKnows_7 (by decide) ?_
  obtain rfl := Option.some.inj hf
  exact rf_retz hC hP hS (by decide) rfl rfl dX5_readKnows_8
