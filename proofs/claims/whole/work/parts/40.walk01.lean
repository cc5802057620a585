set_option maxHeartbeats 4000000 in
set_option maxRecDepth 100000 in
theorem c_X5_lineBegun (l : Launch) (E : rf_E) (a P : Nat → Nat) (I : Nat → Int32) (J : Nat → Int64) (A : Nat → Nat → Int32) (B : Nat → Nat → Int64) (reader_sort : Int32) (reader_length : Int32) (reader_letters : Int64) {z : Int32} (e_reader_sort : I 39 = reader_sort) (e_reader_length : I 41 = reader_length) (e_reader_letters : J 0 = reader_letters) (hf : f_X5_lineBegun reader_sort reader_length reader_letters = some z) : rf_MI l yX5_lineBegun cX5_lineBegun 1 (some .int) ({ frames := 7, cells := 0, slots := 0, locals := 224 }) E [.ref (a 12)] (cX E a P I J A B) z (cX E a P I J A B) := by
  unfold f_X5_lineBegun at hf
  refine rf_ofI (by decide) (Nat.le_of_ble_eq_true rfl) ?_
  intro p e s m below meth c A0 ls hC hD hP hS hl
  have hC : rf_C p E s m _ meth c cX5_lineBegun 1 RX5 (some .int) A0 := hC
  have hx := hC.1
  have hb := hC.2.1
  have hl : lv_has ls 1 [(0, .ref (a 12))] := hl
  refine lv_aload_n hx hb dX5_lineBegun_0 rfl (lv_at hl 0 rfl) ?_
  refine va_ldcS hx hb hC.2.2.2.1 (lk_0 hC.2.2.2.2.2.2.2.1.2.2.2) dX5_lineBegun_1 ?_
  obtain ⟨z3, hz3, hf⟩ := rf_bd hf
  refine rf_vi (q0 := 12) (ci := 5) hC (c_X5_is l E a P I J A B reader_sort reader_length reader_letters 0 e_reader_sort e_reader_length e_reader_letters (by decide) hz3) kV_X5_is tw_494 ⟨Nat.le_of_ble_eq_true rfl, Nat.le_of_ble_eq_true rfl⟩ rfl rfl rfl rfl rfl hP (rf_DX hD) hS rfl hl.1 (rest := []) rfl (Nat.le_of_ble_eq_true rfl) dX5_lineBegun_3 (fun H locs hP hS => ?_)
  refine lv_if_eq (tgt := 11) hx hb dX5_lineBegun_6 (by decide) (fun c_6 => ?_) (fun c_6 => ?_)
  · have hf := rf_it c_6 hf
    refine lv_aload_n hx hb dX5_lineBegun_11 rfl (lv_at hl 0 rfl) ?_
    refine va_ldcS hx hb hC.2.2.2.1 (lk_1 hC.2.2.2.2.2.2.2.1.2.2.2) dX5_lineBegun_12 ?_
    obtain ⟨z14, hz14, hf⟩ := rf_bd hf
    refine rf_vi (q0 := 12) (ci := 5) hC (c_X5_is l E a P I J A B reader_sort reader_length reader_letters 1 e_reader_sort e_reader_length e_reader_letters (by decide) hz14) kV_X5_is tw_494 ⟨Nat.le_of_ble_eq_true rfl, Nat.le_of_ble_eq_true rfl⟩ rfl rfl rfl rfl rfl hP (rf_DX hD) hS rfl hl.1 (rest := []) rfl (Nat.le_of_ble_eq_true rfl) dX5_lineBegun_14 (fun H locs hP hS => ?_)
    refine lv_if_eq (tgt := 22) hx hb dX5_lineBegun_17 (by decide) (fun c_17 => ?_) (fun c_17 => ?_)
    · have hf := rf_it c_17 hf
      refine lv_aload_n hx hb dX5_lineBegun_22 rfl (lv_at hl 0 rfl) ?_
      refine va_ldcS hx hb hC.2.2.2.1 (lk_2 hC.2.2.2.2.2.2.2.1.2.2.2) dX5_lineBegun_23 ?_
      obtain ⟨z25, hz25, hf⟩ := rf_bd hf
      refine rf_vi (q0 := 12) (ci := 5) hC (c_X5_is l E a P I J A B reader_sort reader_length reader_letters 2 e_reader_sort e_reader_length e_reader_letters (by decide) hz25) kV_X5_is tw_494 ⟨Nat.le_of_ble_eq_true rfl, Nat.le_of_ble_eq_true rfl⟩ rfl rfl rfl rfl rfl hP (rf_DX hD) hS rfl hl.1 (rest := []) rfl (Nat.le_of_ble_eq_true rfl) dX5_lineBegun_25 (fun H locs hP hS => ?_)
      refine lv_if_eq (tgt := 33) hx hb dX5_lineBegun_28 (by decide) (fun c_28 => ?_) (fun c_28 => ?_)
      · have hf := rf_it c_28 hf
        refine lv_aload_n hx hb dX5_lineBegun_33 rfl (lv_at hl 0 rfl) ?_
        refine va_ldcS hx hb hC.2.2.2.1 (lk_3 hC.2.2.2.2.2.2.2.1.2.2.2) dX5_lineBegun_34 ?_
        obtain ⟨z36, hz36, hf⟩ := rf_bd hf
        refine rf_vi (q0 := 12) (ci := 5) hC (c_X5_is l E a P I J A B reader_sort reader_length reader_letters 3 e_reader_sort e_reader_length e_reader_letters (by decide) hz36) kV_X5_is tw_494 ⟨Nat.le_of_ble_eq_true rfl, Nat.le_of_ble_eq_true rfl⟩ rfl rfl rfl rfl rfl hP (rf_DX hD) hS rfl hl.1 (rest := []) rfl (Nat.le_of_ble_eq_true rfl) dX5_lineBegun_36 (fun H locs hP hS => ?_)
        refine lv_if_eq (tgt := 44) hx hb dX5_lineBegun_39 (by decide) (fun c_39 => ?_) (fun c_39 => ?_)
        · have hf := rf_it c_39 hf
          refine lv_aload_n hx hb dX5_lineBegun_44 rfl (lv_at hl 0 rfl) ?_
          refine va_ldcS hx hb hC.2.2.2.1 (lk_4 hC.2.2.2.2.2.2.2.1.2.2.2) dX5_lineBegun_45 ?_
          obtain ⟨z47, hz47, hf⟩ := rf_bd hf
          refine rf_vi (q0 := 12) (ci := 5) hC (c_X5_is l E a P I J A B reader_sort reader_length reader_letters 4 e_reader_sort e_reader_length e_reader_letters (by decide) hz47) kV_X5_is tw_494 ⟨Nat.le_of_ble_eq_true rfl, Nat.le_of_ble_eq_true rfl⟩ rfl rfl rfl rfl rfl hP (rf_DX hD) hS rfl hl.1 (rest := []) rfl (Nat.le_of_ble_eq_true rfl) dX5_lineBegun_47 (fun H locs hP hS => ?_)
          refine lv_if_eq (tgt := 55) hx hb dX5_lineBegun_50 (by decide) (fun c_50 => ?_) (fun c_50 => ?_)
          · have hf := rf_it c_50 hf
            refine lv_aload_n hx hb dX5_lineBegun_55 rfl (lv_at hl 0 rfl) ?_
            refine va_ldcS hx hb hC.2.2.2.1 (lk_5 hC.2.2.2.2.2.2.2.1.2.2.2) dX5_lineBegun_56 ?_
            obtain ⟨z58, hz58, hf⟩ := rf_bd hf
            refine rf_vi (q0 := 12) (ci := 5) hC (c_X5_is l E a P I J A B reader_sort reader_length reader_letters 5 e_reader_sort e_reader_length e_reader_letters (by decide) hz58) kV_X5_is tw_494 ⟨Nat.le_of_ble_eq_true rfl, Nat.le_of_ble_eq_true rfl⟩ rfl rfl rfl rfl rfl hP (rf_DX hD) hS rfl hl.1 (rest := []) rfl (Nat.le_of_ble_eq_true rfl) dX5_lineBegun_58 (fun H locs hP hS => ?_)
            refine lv_if_eq (tgt := 67) hx hb dX5_lineBegun_61 (by decide) (fun c_61 => ?_) (fun c_61 => ?_)
            · have hf := rf_it c_61 hf
              refine lv_aload_n hx hb dX5_lineBegun_67 rfl (lv_at hl 0 rfl) ?_
              refine va_ldcS hx hb hC.2.2.2.1 (lk_6 hC.2.2.2.2.2.2.2.1.2.2.2) dX5_lineBegun_68 ?_
              obtain ⟨z70, hz70, hf⟩ := rf_bd hf
              refine rf_vi (q0 := 12) (ci := 5) hC (c_X5_is l E a P I J A B reader_sort reader_length reader_letters 6 e_reader_sort e_reader_length e_reader_letters (by decide) hz70) kV_X5_is tw_494 ⟨Nat.le_of_ble_eq_true rfl, Nat.le_of_ble_eq_true rfl⟩ rfl rfl rfl rfl rfl hP (rf_DX hD) hS rfl hl.1 (rest := []) rfl (Nat.le_of_ble_eq_true rfl) dX5_lineBegun_70 (fun H locs hP hS => ?_)
              refine lv_if_eq (tgt := 79) hx hb dX5_lineBegun_73 (by decide) (fun c_73 => ?_) (fun c_73 => ?_)
              · have hf := rf_it c_73 hf
                refine lv_aload_n hx hb dX5_lineBegun_79 rfl (lv_at hl 0 rfl) ?_
                refine va_ldcS hx hb hC.2.2.2.1 (lk_7 hC.2.2.2.2.2.2.2.1.2.2.2) dX5_lineBegun_80 ?_
                obtain ⟨z82, hz82, hf⟩ := rf_bd hf
                refine rf_vi (q0 := 12) (ci := 5) hC (c_X5_is l E a P I J A B reader_sort reader_length reader_letters 7 e_reader_sort e_reader_length e_reader_letters (by decide) hz82) kV_X5_is tw_494 ⟨Nat.le_of_ble_eq_true rfl, Nat.le_of_ble_eq_true rfl⟩ rfl rfl rfl rfl rfl hP (rf_DX hD) hS rfl hl.1 (rest := []) rfl (Nat.le_of_ble_eq_true rfl) dX5_lineBegun_82 (fun H locs hP hS => ?_)
                refine lv_if_eq (tgt := 93) hx hb dX5_lineBegun_85 (by decide) (fun c_85 => ?_) (fun c_85 => ?_)
                · have hf := rf_it c_85 hf
                  refine lv_iconst (v := 0) hx hb dX5_lineBegun_93 (by decide) ?_
                  obtain rfl := Option.some.inj hf
                  exact rf_reti hC hP hS rfl rfl dX5_lineBegun_94
                have hf := rf_ie c_85 hf
                refine lv_bipush (v := 8) hx hb dX5_lineBegun_88 (by decide) ?_
                refine lv_goto (tgt := 94) hx hb dX5_lineBegun_90 (by decide) ?_
                obtain rfl := Option.some.inj hf
                exact rf_reti hC hP hS rfl rfl dX5_lineBegun_94
              have hf := rf_ie c_73 hf
              refine lv_bipush (v := 7) hx hb dX5_lineBegun_76 (by decide) ?_
              obtain rfl := Option.some.inj hf
              exact rf_reti hC hP hS rfl rfl dX5_lineBegun_78
            have hf := rf_ie c_61 hf
            refine lv_bipush (v := 6) hx hb dX5_lineBegun_64 (by decide) ?_
            obtain rfl := Option.some.inj hf
            exact rf_reti hC hP hS rfl rfl dX5_lineBegun_66
          have hf := rf_ie c_50 hf
          refine lv_iconst (v := 5) hx hb dX5_lineBegun_53 (by decide) ?_
          obtain rfl := Option.some.inj hf
          exact rf_reti hC hP hS rfl rfl dX5_lineBegun_54
        have hf := rf_ie c_39 hf
        refine lv_iconst (v := 4) hx hb dX5_lineBegun_42 (by decide) ?_
        obtain rfl := Option.some.inj hf
        exact rf_reti hC hP hS rfl rfl dX5_lineBegun_43
      have hf := rf_ie c_28 hf
      refine lv_iconst (v := 3) hx hb dX5_lineBegun_31 (by decide) ?_
      obtain rfl := Option.some.inj hf
      exact rf_reti hC hP hS rfl rfl dX5_lineBegun_32
    have hf := rf_ie c_17 hf
    refine lv_iconst (v := 2) hx hb dX5_lineBegun_20 (by decide) ?_
    obtain rfl := Option.some.inj hf
    exact rf_reti hC hP hS rfl rfl dX5_lineBegun_21
  have hf := rf_ie c_6 hf
  refine lv_iconst (v := 1) hx hb dX5_lineBegun_9 (by decide) ?_
  obtain rfl := Option.some.inj hf
  exact rf_reti hC hP hS rfl rfl dX5_lineBegun_10
set_option maxHeartbeats 4000000 in
set_option maxRecDepth 100000 in
theorem w_X5_seesLetter_33 {l : Launch} {p : Program} {e : Env} {s : State} {m : MethodId} {args : Array Value} {below : List Frame} {meth : Method} {c : Code} {A0 : Nat → Prop} {E : rf_E} {a P : Nat → Nat} {I : Nat → Int32} {J : Nat → Int64} {A : Nat → Nat → Int32} {B : Nat → Nat → Int64} {reader_sort : Int32} {reader_place : Int32} {reader_length : Int32} {reader_letters : Int64} {z : Int32 × Int32 × Int32 × Int32} (hC : rf_C p E s m args meth c cX5_seesLetter 1 RX5 (some .boolean) A0) (hD : va_D A0 (cX E a P I J A B)) (e_reader_sort : I 39 = reader_sort) (e_reader_place : I 40 = reader_place) (e_reader_length : I 41 = reader_length) (e_reader_letters : J 0 = reader_letters) :
    ∀ (reader_found : Int32) (reader_fault : Int32) (reader_faultPlace : Int32), f_X5_seesLetter_33 reader_sort reader_place reader_length reader_letters reader_found reader_fault reader_faultPlace = some z → ∀ (H : Heap) (locs : List Loc) (ls : Array Slot), va_P (rf_D E) vwCl (cX E a P (rf_upL I [(44, reader_found), (45, reader_fault), (46, reader_faultPlace)]) J A B) H → va_S A0 s.heap H locs → lv_has ls 1 [(0, .ref (a 12))] → W p l e ({ frames := 1, cells := 0, slots := 0, locals := 21 }) s m args below meth c H locs 0 0 (rf_QI below args s E A0 z.1 (cX E a P (rf_upL I [(44, z.2.1), (45, z.2.2.1), (46, z.2.2.2)]) J A B)) (F0 m 33 ls []) := by
  have hx := hC.1
  have hb := hC.2.1
  intro reader_found reader_fault reader_faultPlace hf H locs ls hP hS hl
  unfold f_X5_seesLetter_33 at hf
  refine lv_aload_n hx hb dX5_seesLetter_33 rfl (lv_at hl 0 rfl) ?_
  refine lv_bipush (v := 7) hx hb dX5_seesLetter_34 (by decide) ?_
  obtain ⟨z36, hz36, hf⟩ := rf_bd hf
  refine rf_vi (q0 := 12) (ci := 5) hC (c_X5_fail l E a P (rf_upL I [(44, reader_found), (45, reader_fault), (46, reader_faultPlace)]) J A B reader_place reader_fault reader_faultPlace 7 e_reader_place rfl rfl hz36) kV_X5_fail tw_553 ⟨Nat.le_of_ble_eq_true rfl, Nat.le_of_ble_eq_true rfl⟩ rfl rfl rfl rfl rfl hP (rf_DX hD) hS rfl hl.1 (rest := []) rfl (Nat.le_of_ble_eq_true rfl) dX5_seesLetter_36 (fun H locs hP hS => ?_)
  rw [rf_cat (f := I) (l := [(44, reader_found), (45, reader_fault), (46, reader_faultPlace)]) (lc := [(45, z36.2.1), (46, z36.2.2)]) (l' := [(44, reader_found), (45, z36.2.1), (46, z36.2.2)]) rfl] at hP
  obtain ⟨hz_39, hf⟩ := rf_gu hf
  obtain rfl := Option.some.inj hf
  exact rf_retz hC hP hS hz_39 rfl rfl dX5_seesLetter_39
set_option maxHeartbeats 4000000 in
set_option maxRecDepth 100000 in
theorem c_X5_seesLetter (l : Launch) (E : rf_E) (a P : Nat → Nat) (I : Nat → Int32) (J : Nat → Int64) (A : Nat → Nat → Int32) (B : Nat → Nat → Int64) (reader_sort : Int32) (reader_place : Int32) (reader_length : Int32) (reader_letters : Int64) (reader_found : Int32) (reader_fault : Int32) (reader_faultPlace : Int32) {z : Int32 × Int32 × Int32 × Int32} (e_reader_sort : I 39 = reader_sort) (e_reader_place : I 40 = reader_place) (e_reader_length : I 41 = reader_length) (e_reader_letters : J 0 = reader_letters) (e_reader_found : I 44 = reader_found) (e_reader_fault : I 45 = reader_fault) (e_reader_faultPlace : I 46 = reader_faultPlace) (hf : f_X5_seesLetter reader_sort reader_place reader_length reader_letters reader_found reader_fault reader_faultPlace = some z) : rf_MI l yX5_seesLetter cX5_seesLetter 1 (some .boolean) ({ frames := 1, cells := 0, slots := 0, locals := 21 }) E [.ref (a 12)] (cX E a P I J A B) z.1 (cX E a P (rf_upL I [(44, z.2.1), (45, z.2.2.1), (46, z.2.2.2)]) J A B) := by
  unfold f_X5_seesLetter at hf
  refine rf_ofI (by decide) (Nat.le_of_ble_eq_true rfl) ?_
  intro p e s m below meth c A0 ls hC hD hP hS hl
  have hC : rf_C p E s m _ meth c cX5_seesLetter 1 RX5 (some .boolean) A0 := hC
  have hx := hC.1
  have hb := hC.2.1
  have hl : lv_has ls 1 [(0, .ref (a 12))] := hl
  have hP : va_P (rf_D E) vwCl (cX E a P (rf_upL I [(44, reader_found), (45, reader_fault), (46, reader_faultPlace)]) J A B) s.heap := by
    rw [rf_self (f := I) [(44, reader_found), (45, reader_fault), (46, reader_faultPlace)] (rf_fa1 e_reader_found (rf_fa1 e_reader_fault (rf_fa1 e_reader_faultPlace rf_fa0)))]
    exact hP
  refine lv_aload_n hx hb dX5_seesLetter_0 rfl (lv_at hl 0 rfl) ?_
  refine gX_reader_sort hC hP tw_343 (v := reader_sort) e_reader_sort dX5_seesLetter_1 ?_
  refine lv_iconst (v := 1) hx hb dX5_seesLetter_4 (by decide) ?_
  refine lv_icmp_eq (tgt := 14) hx hb dX5_seesLetter_5 (by decide) (fun c_5 => ?_) (fun c_5 => ?_)
  · have hf := rf_it c_5 hf
    refine lv_aload_n hx hb dX5_seesLetter_14 rfl (lv_at hl 0 rfl) ?_
    refine gX_reader_length hC hP tw_345 (v := reader_length) e_reader_length dX5_seesLetter_15 ?_
    refine lv_iconst (v := 1) hx hb dX5_seesLetter_18 (by decide) ?_
    refine lv_icmp_ne (tgt := 33) hx hb dX5_seesLetter_19 (by decide) (fun c_19 => ?_) (fun c_19 => ?_)
    · have hf := rf_ie c_19 hf
      exact w_X5_seesLetter_33 hC hD e_reader_sort e_reader_place e_reader_length e_reader_letters reader_found reader_fault reader_faultPlace hf _ _ _ hP hS (lv_sub hl [0] rfl)
    have hf := rf_it c_19 hf
    refine lv_aload_n hx hb dX5_seesLetter_22 rfl (lv_at hl 0 rfl) ?_
    refine gX_reader_letters hC hP tw_346 (v := reader_letters) e_reader_letters dX5_seesLetter_23 ?_
    refine lv_ldc2 hx hb hC.2.2.2.1 (hC.2.2.2.2.1 _ tw_605) dX5_seesLetter_26 ?_
    refine W.lcmp hx hb dX5_seesLetter_29 ?_
    refine lv_if_le (tgt := 40) hx hb dX5_seesLetter_30 (by decide) (fun c_30 => ?_) (fun c_30 => ?_)
    · have hf := rf_it c_30 hf
      refine lv_aload_n hx hb dX5_seesLetter_40 rfl (lv_at hl 0 rfl) ?_
      refine lv_aload_n hx hb dX5_seesLetter_41 rfl (lv_at hl 0 rfl) ?_
      refine gX_reader_letters hC hP tw_346 (v := reader_letters) e_reader_letters dX5_seesLetter_42 ?_
      refine lv_l2i hx hb dX5_seesLetter_45 rfl ?_
      refine pX_reader_found hC hD hP hS tw_351 dX5_seesLetter_46 (rf_upL I [(44, Int64.toInt32 reader_letters), (45, reader_fault), (46, reader_faultPlace)]) (rf_put rfl) (fun H locs hP hS => ?_)
      refine lv_iconst (v := 1) hx hb dX5_seesLetter_49 (by decide) ?_
      obtain rfl := Option.some.inj hf
      exact rf_retz hC hP hS (by decide) rfl rfl dX5_seesLetter_50
    have hf := rf_ie c_30 hf
    exact w_X5_seesLetter_33 hC hD e_reader_sort e_reader_place e_reader_length e_reader_letters reader_found reader_fault reader_faultPlace hf _ _ _ hP hS (lv_sub hl [0] rfl)
  have hf := rf_ie c_5 hf
  refine lv_aload_n hx hb dX5_seesLetter_8 rfl (lv_at hl 0 rfl) ?_
  refine lv_iconst (v := 1) hx hb dX5_seesLetter_9 (by decide) ?_
  obtain ⟨z10, hz10, hf⟩ := rf_bd hf
  refine rf_vi (q0 := 12) (ci := 5) hC (c_X5_fail l E a P (rf_upL I [(44, reader_found), (45, reader_fault), (46, reader_faultPlace)]) J A B reader_place reader_fault reader_faultPlace 1 e_reader_place rfl rfl hz10) kV_X5_fail tw_553 ⟨Nat.le_of_ble_eq_true rfl, Nat.le_of_ble_eq_true rfl⟩ rfl rfl rfl rfl rfl hP (rf_DX hD) hS rfl hl.1 (rest := []) rfl (Nat.le_of_ble_eq_true rfl) dX5_seesLetter_10 (fun H locs hP hS => ?_)
  rw [rf_cat (f := I) (l := [(44, reader_found), (45, reader_fault), (46, reader_faultPlace)]) (lc := [(45, z10.2.1), (46, z10.2.2)]) (l' := [(44, reader_found), (45, z10.2.1), (46, z10.2.2)]) rfl] at hP
  obtain ⟨hz_13, hf⟩ := rf_gu hf
  obtain rfl := Option.some.inj hf
  exact rf_retz hC hP hS hz_13 rfl rfl dX5_seesLetter_13
set_option maxHeartbeats 4000000 in
set_option maxRecDepth 100000 in
theorem c_X9_addAlike_td (l : Launch) (E : rf_E) (a P : Nat → Nat) (I : Nat → Int32) (J : Nat → Int64) (A : Nat → Nat → Int32) (B : Nat → Nat → Int64) (t_alikeCount : Int32) (t_alikes : Nat → Int32) (v1 : Int32) (v2 : Int32) {z : Int32 × (Nat → Int32)} (e_t_alikeCount : I 33 = t_alikeCount) (e_t_alikes : A 27 = t_alikes) (hf : f_X9_addAlike t_alikeCount t_alikes v1 v2 = some z) : rf_MV l yX9_addAlike cX9_addAlike 3 ({ frames := 0, cells := 0, slots := 0, locals := 0 }) E [.ref (a 11), .int v1, .int v2] (cX E a P I J A B) (cX E a P (rf_upL I [(33, z.1)]) J (rf_upL A [(27, z.2)]) B) := by
  unfold f_X9_addAlike at hf
  refine rf_ofV (by decide) (Nat.le_of_ble_eq_true rfl) ?_
  intro p e s m below meth c A0 ls hC hD hP hS hl
  have hC : rf_C p E s m _ meth c cX9_addAlike 3 RX9 (none) A0 := hC
  have hx := hC.1
  have hb := hC.2.1
  have hl : lv_has ls 3 [(0, .ref (a 11)), (1, .int v1), (2, .int v2)] := hl
  have hP : va_P (rf_D E) vwCl (cX E a P (rf_upL I [(33, t_alikeCount)]) J (rf_upL A [(27, t_alikes)]) B) s.heap := by
    rw [rf_self (f := I) [(33, t_alikeCount)] (rf_fa1 e_t_alikeCount rf_fa0)]
    rw [rf_self (f := A) [(27, t_alikes)] (rf_fa1 e_t_alikes rf_fa0)]
    exact hP
  refine lv_aload_n hx hb dX9_addAlike_0 rfl (lv_at hl 0 rfl) ?_
  refine gX_td_alikes hC hP tw_103 dX9_addAlike_1 ?_
  refine lv_iload_n hx hb dX9_addAlike_4 rfl (lv_at hl 1 rfl) ?_
  refine lv_bipush (v := 31) hx hb dX9_addAlike_5 (by decide) ?_
  refine lv_iand hx hb dX9_addAlike_7 ?_
  refine lv_dup2_11 hx hb dX9_addAlike_8 rfl rfl ?_
  obtain ⟨hi_9, hf⟩ := rf_gu hf
  refine lX_td_alikes hC hP hi_9 (f := t_alikes) rfl dX9_addAlike_9 ?_
  refine lv_iconst (v := 1) hx hb dX9_addAlike_10 (by decide) ?_
  refine lv_iload_n hx hb dX9_addAlike_11 rfl (lv_at hl 2 rfl) ?_
  refine lv_ishl hx hb dX9_addAlike_12 ?_
  refine lv_ior hx hb dX9_addAlike_13 ?_
  obtain ⟨hi_14, hf⟩ := rf_gu hf
  refine sX_td_alikes hC hD hP hS hi_14 (f := t_alikes) rfl dX9_addAlike_14 (rf_upL A [(27, upd t_alikes (Int32.toNatClampNeg (v1 &&& 31)) ((t_alikes (Int32.toNatClampNeg (v1 &&& 31))) ||| ((1 : Int32) <<< (v2 &&& 31))))]) (rf_put rfl) (fun H locs hP hS => ?_)
  refine lv_aload_n hx hb dX9_addAlike_15 rfl (lv_at hl 0 rfl) ?_
  refine gX_td_alikes hC hP tw_103 dX9_addAlike_16 ?_
  refine lv_iload_n hx hb dX9_addAlike_19 rfl (lv_at hl 2 rfl) ?_
  refine lv_bipush (v := 31) hx hb dX9_addAlike_20 (by decide) ?_
  refine lv_iand hx hb dX9_addAlike_22 ?_
  refine lv_dup2_11 hx hb dX9_addAlike_23 rfl rfl ?_
  obtain ⟨hi_24, hf⟩ := rf_gu hf
  refine lX_td_alikes hC hP hi_24 (f := upd t_alikes (Int32.toNatClampNeg (v1 &&& 31)) ((t_alikes (Int32.toNatClampNeg (v1 &&& 31))) ||| ((1 : Int32) <<< (v2 &&& 31)))) rfl dX9_addAlike_24 ?_
  refine lv_iconst (v := 1) hx hb dX9_addAlike_25 (by decide) ?_
  refine lv_iload_n hx hb dX9_addAlike_26 rfl (lv_at hl 1 rfl) ?_
  refine lv_ishl hx hb dX9_addAlike_27 ?_
  refine lv_ior hx hb dX9_addAlike_28 ?_
  obtain ⟨hi_29, hf⟩ := rf_gu hf
  refine sX_td_alikes hC hD hP hS hi_29 (f := upd t_alikes (Int32.toNatClampNeg (v1 &&& 31)) ((t_alikes (Int32.toNatClampNeg (v1 &&& 31))) ||| ((1 : Int32) <<< (v2 &&& 31)))) rfl dX9_addAlike_29 (rf_upL A [(27, upd (upd t_alikes (Int32.toNatClampNeg (v1 &&& 31)) ((t_alikes (Int32.toNatClampNeg (v1 &&& 31))) ||| ((1 : Int32) <<< (v2 &&& 31)))) (Int32.toNatClampNeg (v2 &&& 31)) (((upd t_alikes (Int32.toNatClampNeg (v1 &&& 31)) ((t_alikes (Int32.toNatClampNeg (v1 &&& 31))) ||| ((1 : Int32) <<< (v2 &&& 31)))) (Int32.toNatClampNeg (v2 &&& 31))) ||| ((1 : Int32) <<< (v1 &&& 31))))]) (rf_put rfl) (fun H locs hP hS => ?_)
  refine lv_aload_n hx hb dX9_addAlike_30 rfl (lv_at hl 0 rfl) ?_
  refine lv_dup hx hb dX9_addAlike_31 rfl ?_
  refine gX_td_alikeCount hC hP tw_136 (v := t_alikeCount) rfl dX9_addAlike_32 ?_
  refine lv_iconst (v := 1) hx hb dX9_addAlike_35 (by decide) ?_
  refine lv_iadd hx hb dX9_addAlike_36 ?_
  refine pX_td_alikeCount hC hD hP hS tw_136 dX9_addAlike_37 (rf_upL I [(33, t_alikeCount + 1)]) (rf_put rfl) (fun H locs hP hS => ?_)
  obtain rfl := Option.some.inj hf
  exact rf_retv hC hP hS rfl dX9_addAlike_40
set_option maxHeartbeats 4000000 in
set_option maxRecDepth 100000 in
theorem c_X10_holds (l : Launch) (E : rf_E) (v0 : Int32) (v1 : Int32) {z : Int32} (hf : f_X10_holds v0 v1 = some z) : rf_MI l yX10_holds cX10_holds 2 (some .boolean) ({ frames := 0, cells := 0, slots := 0, locals := 0 }) E [.int v0, .int v1] ([]) z ([]) := by
  unfold f_X10_holds at hf
  refine rf_ofI (by decide) (Nat.le_of_ble_eq_true rfl) ?_
  intro p e s m below meth c A0 ls hC hD hP hS hl
  have hC : rf_C p E s m _ meth c cX10_holds 2 RX10 (some .boolean) A0 := hC
  have hx := hC.1
  have hb := hC.2.1
  have hl : lv_has ls 2 [(0, .int v0), (1, .int v1)] := hl
  refine lv_iload_n hx hb dX10_holds_0 rfl (lv_at hl 0 rfl) ?_
  refine lv_iload_n hx hb dX10_holds_1 rfl (lv_at hl 1 rfl) ?_
  refine lv_ishr hx hb dX10_holds_2 ?_
  refine lv_iconst (v := 1) hx hb dX10_holds_3 (by decide) ?_
  refine lv_iand hx hb dX10_holds_4 ?_
  refine lv_iconst (v := 1) hx hb dX10_holds_5 (by decide) ?_
  refine lv_icmp_ne (tgt := 13) hx hb dX10_holds_6 (by decide) (fun c_6 => ?_) (fun c_6 => ?_)
  · have hf := rf_ie c_6 hf
    refine lv_iconst (v := 0) hx hb dX10_holds_13 (by decide) ?_
    obtain rfl := Option.some.inj hf
    exact rf_retz hC hP hS (by decide) rfl rfl dX10_holds_14
  have hf := rf_it c_6 hf
  refine lv_iconst (v := 1) hx hb dX10_holds_9 (by decide) ?_
  refine lv_goto (tgt := 14) hx hb dX10_holds_10 (by decide) ?_
  obtain rfl := Option.some.inj hf
  exact rf_retz hC hP hS (by decide) rfl rfl dX10_holds_14
set_option maxHeartbeats 4000000 in
set_option maxRecDepth 100000 in
theorem w_X9_isAlike_td_21 {l : Launch} {p : Program} {e : Env} {s : State} {m : MethodId} {args : Array Value} {below : List Frame} {meth : Method} {c : Code} {A0 : Nat → Prop} {E : rf_E} {a P : Nat → Nat} {I : Nat → Int32} {J : Nat → Int64} {A : Nat → Nat → Int32} {B : Nat → Nat → Int64} {t_alikes : Nat → Int32} {z : Int32} (hC : rf_C p E s m args meth c cX9_isAlike 3 RX9 (some .boolean) A0) (hD : va_D A0 (cX E a P I J A B)) (e_t_alikes : A 27 = t_alikes) :
    ∀ (_ : Unit), f_X9_isAlike_21 t_alikes = some z → ∀ (H : Heap) (locs : List Loc) (ls : Array Slot), va_P (rf_D E) vwCl (cX E a P I J A B) H → va_S A0 s.heap H locs → lv_has ls 3 [] → W p l e ({ frames := 1, cells := 0, slots := 0, locals := 21 }) s m args below meth c H locs 0 0 (rf_QI below args s E A0 z (cX E a P I J A B)) (F0 m 21 ls []) := by
  have hx := hC.1
  have hb := hC.2.1
  intro _ hf H locs ls hP hS hl
  unfold f_X9_isAlike_21 at hf
  refine lv_iconst (v := 1) hx hb dX9_isAlike_21 (by decide) ?_
  refine lv_goto (tgt := 26) hx hb dX9_isAlike_22 (by decide) ?_
  obtain rfl := Option.some.inj hf
  exact rf_retz hC hP hS (by decide) rfl rfl dX9_isAlike_26
set_option maxHeartbeats 4000000 in
set_option maxRecDepth 100000 in
theorem c_X9_isAlike_td (l : Launch) (E : rf_E) (a P : Nat → Nat) (I : Nat → Int32) (J : Nat → Int64) (A : Nat → Nat → Int32) (B : Nat → Nat → Int64) (t_alikes : Nat → Int32) (v1 : Int32) (v2 : Int32) {z : Int32} (e_t_alikes : A 27 = t_alikes) (hf : f_X9_isAlike t_alikes v1 v2 = some z) : rf_MI l yX9_isAlike cX9_isAlike 3 (some .boolean) ({ frames := 1, cells := 0, slots := 0, locals := 21 }) E [.ref (a 11), .int v1, .int v2] (cX E a P I J A B) z (cX E a P I J A B) := by
  unfold f_X9_isAlike at hf
  refine rf_ofI (by decide) (Nat.le_of_ble_eq_true rfl) ?_
  intro p e s m below meth c A0 ls hC hD hP hS hl
  have hC : rf_C p E s m _ meth c cX9_isAlike 3 RX9 (some .boolean) A0 := hC
  have hx := hC.1
  have hb := hC.2.1
  have hl : lv_has ls 3 [(0, .ref (a 11)), (1, .int v1), (2, .int v2)] := hl
  refine lv_iload_n hx hb dX9_isAlike_0 rfl (lv_at hl 1 rfl) ?_
  refine lv_iload_n hx hb dX9_isAlike_1 rfl (lv_at hl 2 rfl) ?_
  refine lv_icmp_eq (tgt := 21) hx hb dX9_isAlike_2 (by decide) (fun c_2 => ?_) (fun c_2 => ?_)
  · have hf := rf_it c_2 hf
    exact w_X9_isAlike_td_21 hC hD e_t_alikes () hf _ _ _ hP hS (lv_sub hl [] rfl)
  have hf := rf_ie c_2 hf
  refine lv_aload_n hx hb dX9_isAlike_5 rfl (lv_at hl 0 rfl) ?_
  refine gX_td_alikes hC hP tw_103 dX9_isAlike_6 ?_
  refine lv_iload_n hx hb dX9_isAlike_9 rfl (lv_at hl 1 rfl) ?_
  refine lv_bipush (v := 31) hx hb dX9_isAlike_10 (by decide) ?_
  refine lv_iand hx hb dX9_isAlike_12 ?_
  obtain ⟨hi_13, hf⟩ := rf_gu hf
  refine lX_td_alikes hC hP hi_13 (f := t_alikes) e_t_alikes dX9_isAlike_13 ?_
  refine lv_iload_n hx hb dX9_isAlike_14 rfl (lv_at hl 2 rfl) ?_
  obtain ⟨z15, hz15, hf⟩ := rf_bd hf
  refine rf_sn0 hC (c_X10_holds l E (t_alikes (Int32.toNatClampNeg (v1 &&& 31))) v2 hz15) kS_X10_holds nw_654 ⟨Nat.le_of_ble_eq_true rfl, Nat.le_of_ble_eq_true rfl⟩ rfl rfl hP hS rfl hl.1 (rest := []) rfl (Nat.le_of_ble_eq_true rfl) dX9_isAlike_15 (fun H locs hP hS => ?_)
  refine lv_if_eq (tgt := 25) hx hb dX9_isAlike_18 (by decide) (fun c_18 => ?_) (fun c_18 => ?_)
  · have hf := rf_it c_18 hf
    refine lv_iconst (v := 0) hx hb dX9_isAlike_25 (by decide) ?_
    obtain rfl := Option.some.inj hf
    exact rf_retz hC hP hS (by decide) rfl rfl dX9_isAlike_26
  have hf := rf_ie c_18 hf
  exact w_X9_isAlike_td_21 hC hD e_t_alikes () hf _ _ _ hP hS (lv_sub hl [] rfl)
set_option maxHeartbeats 4000000 in
set_option maxRecDepth 100000 in
theorem c_X5_readAlike (l : Launch) (E : rf_E) (a P : Nat → Nat) (I : Nat → Int32) (J : Nat → Int64) (A : Nat → Nat → Int32) (B : Nat → Nat → Int64) (reader_end : Int32) (x_tape : Nat → Int32) (td_alikeCount : Int32) (reader_next : Int32) (reader_sort : Int32) (reader_place : Int32) (reader_length : Int32) (reader_letters : Int64) (reader_whole : Int32) (reader_found : Int32) (reader_fault : Int32) (reader_faultPlace : Int32) (td_alikes : Nat → Int32) {z : Int32 × Int32 × Int32 × Int32 × Int32 × Int32 × Int64 × Int32 × Int32 × Int32 × Int32 × (Nat → Int32)} (hp3 : P 3 = a 11) (e_reader_end : I 35 = reader_end) (e_x_tape : A 0 = x_tape) (e_td_alikeCount : I 33 = td_alikeCount) (e_reader_next : I 36 = reader_next) (e_reader_sort : I 39 = reader_sort) (e_reader_place : I 40 = reader_place) (e_reader_length : I 41 = reader_length) (e_reader_letters : J 0 = reader_letters) (e_reader_whole : I 42 = reader_whole) (e_reader_found : I 44 = reader_found) (e_reader_fault : I 45 = reader_fault) (e_reader_faultPlace : I 46 = reader_faultPlace) (e_td_alikes : A 27 = td_alikes) (hf : f_X5_readAlike reader_end x_tape td_alikeCount reader_next reader_sort reader_place reader_length reader_letters reader_whole reader_found reader_fault reader_faultPlace td_alikes = some z) : rf_MI l yX5_readAlike cX5_readAlike 2 (some .boolean) ({ frames := 2, cells := 0, slots := 0, locals := 43 }) E [.ref (a 12)] (cX E a P I J A B) z.1 (cX E a P (rf_upL I [(33, z.2.1), (36, z.2.2.1), (39, z.2.2.2.1), (40, z.2.2.2.2.1), (41, z.2.2.2.2.2.1), (42, z.2.2.2.2.2.2.2.1), (44, z.2.2.2.2.2.2.2.2.1), (45, z.2.2.2.2.2.2.2.2.2.1), (46, z.2.2.2.2.2.2.2.2.2.2.1)]) (rf_upL J [(0, z.2.2.2.2.2.2.1)]) (rf_upL A [(27, z.2.2.2.2.2.2.2.2.2.2.2)]) B) := by
  unfold f_X5_readAlike at hf
  refine rf_ofI (by decide) (Nat.le_of_ble_eq_true rfl) ?_
  intro p e s m below meth c A0 ls hC hD hP hS hl
  have hC : rf_C p E s m _ meth c cX5_readAlike 2 RX5 (some .boolean) A0 := hC
  have hx := hC.1
  have hb := hC.2.1
  have hl : lv_has ls 2 [(0, .ref (a 12))] := hl
  have hP : va_P (rf_D E) vwCl (cX E a P (rf_upL I [(33, td_alikeCount), (36, reader_next), (39, reader_sort), (40, reader_place), (41, reader_length), (42, reader_whole), (44, reader_found), (45, reader_fault), (46, reader_faultPlace)]) (rf_upL J [(0, reader_letters)]) (rf_upL A [(27, td_alikes)]) B) s.heap := by
    rw [rf_self (f := I) [(33, td_alikeCount), (36, reader_next), (39, reader_sort), (40, reader_place), (41, reader_length), (42, reader_whole), (44, reader_found), (45, reader_fault), (46, reader_faultPlace)] (rf_fa1 e_td_alikeCount (rf_fa1 e_reader_next (rf_fa1 e_reader_sort (rf_fa1 e_reader_place (rf_fa1 e_reader_length (rf_fa1 e_reader_whole (rf_fa1 e_reader_found (rf_fa1 e_reader_fault (rf_fa1 e_reader_faultPlace rf_fa0)))))))))]
    rw [rf_self (f := J) [(0, reader_letters)] (rf_fa1 e_reader_letters rf_fa0)]
    rw [rf_self (f := A) [(27, td_alikes)] (rf_fa1 e_td_alikes rf_fa0)]
    exact hP
  refine lv_aload_n hx hb dX5_readAlike_0 rfl (lv_at hl 0 rfl) ?_
  obtain ⟨z1, hz1, hf⟩ := rf_bd hf
  refine rf_vi (q0 := 12) (ci := 5) hC (c_X5_seesLetter l E a P (rf_upL I [(33, td_alikeCount), (36, reader_next), (39, reader_sort), (40, reader_place), (41, reader_length), (42, reader_whole), (44, reader_found), (45, reader_fault), (46, reader_faultPlace)]) (rf_upL J [(0, reader_letters)]) (rf_upL A [(27, td_alikes)]) B reader_sort reader_place reader_length reader_letters reader_found reader_fault reader_faultPlace rfl rfl rfl rfl rfl rfl rfl hz1) kV_X5_seesLetter tw_646 ⟨Nat.le_of_ble_eq_true rfl, Nat.le_of_ble_eq_true rfl⟩ rfl rfl rfl rfl rfl hP (rf_DX hD) hS rfl hl.1 (rest := []) rfl (Nat.le_of_ble_eq_true rfl) dX5_readAlike_1 (fun H locs hP hS => ?_)
  rw [rf_cat (f := I) (l := [(33, td_alikeCount), (36, reader_next), (39, reader_sort), (40, reader_place), (41, reader_length), (42, reader_whole), (44, reader_found), (45, reader_fault), (46, reader_faultPlace)]) (lc := [(44, z1.2.1), (45, z1.2.2.1), (46, z1.2.2.2)]) (l' := [(33, td_alikeCount), (36, reader_next), (39, reader_sort), (40, reader_place), (41, reader_length), (42, reader_whole), (44, z1.2.1), (45, z1.2.2.1), (46, z1.2.2.2)]) rfl] at hP
  refine lv_if_ne (tgt := 9) hx hb dX5_readAlike_4 (by decide) (fun c_4 => ?_) (fun c_4 => ?_)
  · have hf := rf_ie c_4 hf
    refine lv_aload_n hx hb dX5_readAlike_9 rfl (lv_at hl 0 rfl) ?_
    refine gX_reader_found hC hP tw_351 (v := z1.2.1) rfl dX5_readAlike_10 ?_
    refine lv_istore_n (lv' := [(1, .int z1.2.1), (0, .ref (a 12))]) hx hb dX5_readAlike_13 rfl hl (by decide) rfl (fun ls hl => ?_)
    refine lv_aload_n hx hb dX5_readAlike_14 rfl (lv_at hl 1 rfl) ?_
    obtain ⟨z15, hz15, hf⟩ := rf_bd hf
    refine rf_vv (q0 := 12) (ci := 5) hC (c_X5_look l E a P (rf_upL I [(33, td_alikeCount), (36, reader_next), (39, reader_sort), (40, reader_place), (41, reader_length), (42, reader_whole), (44, z1.2.1), (45, z1.2.2.1), (46, z1.2.2.2)]) (rf_upL J [(0, reader_letters)]) (rf_upL A [(27, td_alikes)]) B reader_end x_tape reader_next reader_sort reader_place reader_length reader_letters reader_whole e_reader_end e_x_tape rfl rfl rfl rfl rfl rfl hz15) kV_X5_look tw_473 ⟨Nat.le_of_ble_eq_true rfl, Nat.le_of_ble_eq_true rfl⟩ rfl rfl rfl rfl rfl hP (rf_DX hD) hS rfl hl.1 (rest := []) rfl (Nat.le_of_ble_eq_true rfl) dX5_readAlike_15 (fun H locs hP hS => ?_)
    rw [rf_cat (f := I) (l := [(33, td_alikeCount), (36, reader_next), (39, reader_sort), (40, reader_place), (41, reader_length), (42, reader_whole), (44, z1.2.1), (45, z1.2.2.1), (46, z1.2.2.2)]) (lc := [(36, z15.1), (39, z15.2.1), (40, z15.2.2.1), (41, z15.2.2.2.1), (42, z15.2.2.2.2.2)]) (l' := [(33, td_alikeCount), (36, z15.1), (39, z15.2.1), (40, z15.2.2.1), (41, z15.2.2.2.1), (42, z15.2.2.2.2.2), (44, z1.2.1), (45, z1.2.2.1), (46, z1.2.2.2)]) rfl] at hP
    rw [rf_cat (f := J) (l := [(0, reader_letters)]) (lc := [(0, z15.2.2.2.2.1)]) (l' := [(0, z15.2.2.2.2.1)]) rfl] at hP
    refine lv_aload_n hx hb dX5_readAlike_18 rfl (lv_at hl 1 rfl) ?_
    obtain ⟨z19, hz19, hf⟩ := rf_bd hf
    refine rf_vi (q0 := 12) (ci := 5) hC (c_X5_seesLetter l E a P (rf_upL I [(33, td_alikeCount), (36, z15.1), (39, z15.2.1), (40, z15.2.2.1), (41, z15.2.2.2.1), (42, z15.2.2.2.2.2), (44, z1.2.1), (45, z1.2.2.1), (46, z1.2.2.2)]) (rf_upL J [(0, z15.2.2.2.2.1)]) (rf_upL A [(27, td_alikes)]) B z15.2.1 z15.2.2.1 z15.2.2.2.1 z15.2.2.2.2.1 z1.2.1 z1.2.2.1 z1.2.2.2 rfl rfl rfl rfl rfl rfl rfl hz19) kV_X5_seesLetter tw_646 ⟨Nat.le_of_ble_eq_true rfl, Nat.le_of_ble_eq_true rfl⟩ rfl rfl rfl rfl rfl hP (rf_DX hD) hS rfl hl.1 (rest := []) rfl (Nat.le_of_ble_eq_true rfl) dX5_readAlike_19 (fun H locs hP hS => ?_)
    rw [rf_cat (f := I) (l := [(33, td_alikeCount), (36, z15.1), (39, z15.2.1), (40, z15.2.2.1), (41, z15.2.2.2.1), (42, z15.2.2.2.2.2), (44, z1.2.1), (45, z1.2.2.1), (46, z1.2.2.2)]) (lc := [(44, z19.2.1), (45, z19.2.2.1), (46, z19.2.2.2)]) (l' := [(33, td_alikeCount), (36, z15.1), (39, z15.2.1), (40, z15.2.2.1), (41, z15.2.2.2.1), (42, z15.2.2.2.2.2), (44, z19.2.1), (45, z19.2.2.1), (46, z19.2.2.2)]) rfl] at hP
    refine lv_if_ne (tgt := 27) hx hb dX5_readAlike_22 (by decide) (fun c_22 => ?_) (fun c_22 => ?_)
    · have hf := rf_ie c_22 hf
      refine lv_aload_n hx hb dX5_readAlike_27 rfl (lv_at hl 1 rfl) ?_
      refine gX_reader_tale hC hP tw_338 (v := a 11) hp3 dX5_readAlike_28 ?_
      refine lv_iload_n hx hb dX5_readAlike_31 rfl (lv_at hl 0 rfl) ?_
      refine lv_aload_n hx hb dX5_readAlike_32 rfl (lv_at hl 1 rfl) ?_
      refine gX_reader_found hC hP tw_351 (v := z19.2.1) rfl dX5_readAlike_33 ?_
      obtain ⟨z36, hz36, hf⟩ := rf_bd hf
      refine rf_vi (q0 := 11) (ci := 9) hC (c_X9_isAlike_td l E a P (rf_upL I [(33, td_alikeCount), (36, z15.1), (39, z15.2.1), (40, z15.2.2.1), (41, z15.2.2.2.1), (42, z15.2.2.2.2.2), (44, z19.2.1), (45, z19.2.2.1), (46, z19.2.2.2)]) (rf_upL J [(0, z15.2.2.2.2.1)]) (rf_upL A [(27, td_alikes)]) B td_alikes z1.2.1 z19.2.1 rfl hz36) kV_X9_isAlike tw_650 ⟨Nat.le_of_ble_eq_true rfl, Nat.le_of_ble_eq_true rfl⟩ rfl rfl rfl rfl rfl hP (rf_DX hD) hS rfl hl.1 (rest := []) rfl (Nat.le_of_ble_eq_true rfl) dX5_readAlike_36 (fun H locs hP hS => ?_)
      refine lv_if_eq (tgt := 48) hx hb dX5_readAlike_39 (by decide) (fun c_39 => ?_) (fun c_39 => ?_)
      · have hf := rf_it c_39 hf
        refine lv_aload_n hx hb dX5_readAlike_48 rfl (lv_at hl 1 rfl) ?_
        obtain ⟨z49, hz49, hf⟩ := rf_bd hf
        refine rf_vv (q0 := 12) (ci := 5) hC (c_X5_look l E a P (rf_upL I [(33, td_alikeCount), (36, z15.1), (39, z15.2.1), (40, z15.2.2.1), (41, z15.2.2.2.1), (42, z15.2.2.2.2.2), (44, z19.2.1), (45, z19.2.2.1), (46, z19.2.2.2)]) (rf_upL J [(0, z15.2.2.2.2.1)]) (rf_upL A [(27, td_alikes)]) B reader_end x_tape z15.1 z15.2.1 z15.2.2.1 z15.2.2.2.1 z15.2.2.2.2.1 z15.2.2.2.2.2 e_reader_end e_x_tape rfl rfl rfl rfl rfl rfl hz49) kV_X5_look tw_473 ⟨Nat.le_of_ble_eq_true rfl, Nat.le_of_ble_eq_true rfl⟩ rfl rfl rfl rfl rfl hP (rf_DX hD) hS rfl hl.1 (rest := []) rfl (Nat.le_of_ble_eq_true rfl) dX5_readAlike_49 (fun H locs hP hS => ?_)
        rw [rf_cat (f := I) (l := [(33, td_alikeCount), (36, z15.1), (39, z15.2.1), (40, z15.2.2.1), (41, z15.2.2.2.1), (42, z15.2.2.2.2.2), (44, z19.2.1), (45, z19.2.2.1), (46, z19.2.2.2)]) (lc := [(36, z49.1), (39, z49.2.1), (40, z49.2.2.1), (41, z49.2.2.2.1), (42, z49.2.2.2.2.2)]) (l' := [(33, td_alikeCount), (36, z49.1), (39, z49.2.1), (40, z49.2.2.1), (41, z49.2.2.2.1), (42, z49.2.2.2.2.2), (44, z19.2.1), (45, z19.2.2.1), (46, z19.2.2.2)]) rfl] at hP
        rw [rf_cat (f := J) (l := [(0, z15.2.2.2.2.1)]) (lc := [(0, z49.2.2.2.2.1)]) (l' := [(0, z49.2.2.2.2.1)]) rfl] at hP
        refine lv_aload_n hx hb dX5_readAlike_52 rfl (lv_at hl 1 rfl) ?_
        refine gX_reader_tale hC hP tw_338 (v := a 11) hp3 dX5_readAlike_53 ?_
        refine lv_iload_n hx hb dX5_readAlike_56 rfl (lv_at hl 0 rfl) ?_
        refine lv_aload_n hx hb dX5_readAlike_57 rfl (lv_at hl 1 rfl) ?_
        refine gX_reader_found hC hP tw_351 (v := z19.2.1) rfl dX5_readAlike_58 ?_
        obtain ⟨z61, hz61, hf⟩ := rf_bd hf
        refine rf_vv (q0 := 11) (ci := 9) hC (c_X9_addAlike_td l E a P (rf_upL I [(33, td_alikeCount), (36, z49.1), (39, z49.2.1), (40, z49.2.2.1), (41, z49.2.2.2.1), (42, z49.2.2.2.2.2), (44, z19.2.1), (45, z19.2.2.1), (46, z19.2.2.2)]) (rf_upL J [(0, z49.2.2.2.2.1)]) (rf_upL A [(27, td_alikes)]) B td_alikeCount td_alikes z1.2.1 z19.2.1 rfl rfl hz61) kV_X9_addAlike tw_655 ⟨Nat.le_of_ble_eq_true rfl, Nat.le_of_ble_eq_true rfl⟩ rfl rfl rfl rfl rfl hP (rf_DX hD) hS rfl hl.1 (rest := []) rfl (Nat.le_of_ble_eq_true rfl) dX5_readAlike_61 (fun H locs hP hS => ?_)
        rw [rf_cat (f := I) (l := [(33, td_alikeCount), (36, z49.1), (39, z49.2.1), (40, z49.2.2.1), (41, z49.2.2.2.1), (42, z49.2.2.2.2.2), (44, z19.2.1), (45, z19.2.2.1), (46, z19.2.2.2)]) (lc := [(33, z61.1)]) (l' := [(33, z61.1), (36, z49.1), (39, z49.2.1), (40, z49.2.2.1), (41, z49.2.2.2.1), (42, z49.2.2.2.2.2), (44, z19.2.1), (45, z19.2.2.1), (46, z19.2.2.2)]) rfl] at hP
        rw [rf_cat (f := A) (l := [(27, td_alikes)]) (lc := [(27, z61.2)]) (l' := [(27, z61.2)]) rfl] at hP
        refine lv_iconst (v := 1) hx hb dX5_readAlike_64 (by decide) ?_
        obtain rfl := Option.some.inj hf
        exact rf_retz hC hP hS (by decide) rfl rfl dX5_readAlike_65
      have hf := rf_ie c_39 hf
      refine lv_aload_n hx hb dX5_readAlike_42 rfl (lv_at hl 1 rfl) ?_
      refine lv_iconst (v := 3) hx hb dX5_readAlike_43 (by decide) ?_
      obtain ⟨z44, hz44, hf⟩ := rf_bd hf
      refine rf_vi (q0 := 12) (ci := 5) hC (c_X5_fail l E a P (rf_upL I [(33, td_alikeCount), (36, z15.1), (39, z15.2.1), (40, z15.2.2.1), (41, z15.2.2.2.1), (42, z15.2.2.2.2.2), (44, z19.2.1), (45, z19.2.2.1), (46, z19.2.2.2)]) (rf_upL J [(0, z15.2.2.2.2.1)]) (rf_upL A [(27, td_alikes)]) B z15.2.2.1 z19.2.2.1 z19.2.2.2 3 rfl rfl rfl hz44) kV_X5_fail tw_553 ⟨Nat.le_of_ble_eq_true rfl, Nat.le_of_ble_eq_true rfl⟩ rfl rfl rfl rfl rfl hP (rf_DX hD) hS rfl hl.1 (rest := []) rfl (Nat.le_of_ble_eq_true rfl) dX5_readAlike_44 (fun H locs hP hS => ?_)
      rw [rf_cat (f := I) (l := [(33, td_alikeCount), (36, z15.1), (39, z15.2.1), (40, z15.2.2.1), (41, z15.2.2.2.1), (42, z15.2.2.2.2.2), (44, z19.2.1), (45, z19.2.2.1), (46, z19.2.2.2)]) (lc := [(45, z44.2.1), (46, z44.2.2)]) (l' := [(33, td_alikeCount), (36, z15.1), (39, z15.2.1), (40, z15.2.2.1), (41, z15.2.2.2.1), (42, z15.2.2.2.2.2), (44, z19.2.1), (45, z44.2.1), (46, z44.2.2)]) rfl] at hP
      obtain ⟨hz_47, hf⟩ := rf_gu hf
      obtain rfl := Option.some.inj hf
      exact rf_retz hC hP hS hz_47 rfl rfl dX5_readAlike_47
    have hf := rf_it c_22 hf
    refine lv_iconst (v := 0) hx hb dX5_readAlike_25 (by decide) ?_
    obtain rfl := Option.some.inj hf
    exact rf_retz hC hP hS (by decide) rfl rfl dX5_readAlike_26
  have hf := rf_it c_4 hf
  refine lv_iconst (v := 0) hx hb dX5_readAlike_7 (by decide) ?_
  obtain rfl := Option.some.inj hf
  exact rf_retz hC hP hS (by decide) rfl rfl dX5_readAlike_8
set_option maxHeartbeats 4000000 in
set_option maxRecDepth 100000 in
theorem w_X9_personNamed_td_2 {l : Launch} {p : Program} {e : Env} {s : State} {m : MethodId} {args : Array Value} {below : List Frame} {meth : Method} {c : Code} {A0 : Nat → Prop} {E : rf_E} {a P : Nat → Nat} {I : Nat → Int32} {J : Nat → Int64} {A : Nat → Nat → Int32} {B : Nat → Nat → Int64} {t_personCount : Int32} {t_personNames : Nat → Int64} {z : Int32} (hC : rf_C p E s m args meth c cX9_personNamed 4 RX9 (some .int) A0) (hD : va_D A0 (cX E a P I J A B)) (e_t_personCount : I 31 = t_personCount) (e_t_personNames : B 5 = t_personNames) :
    ∀ (n : Nat), ∀ (v1 : Int64) (v3 : Int32), f_X9_personNamed_2 t_personCount t_personNames n v1 v3 = some z → ∀ (H : Heap) (locs : List Loc) (ls : Array Slot), va_P (rf_D E) vwCl (cX E a P I J A B) H → va_S A0 s.heap H locs → lv_has ls 4 [(0, .ref (a 11)), (1, .long v1), (3, .int v3)] → W p l e ({ frames := 0, cells := 0, slots := 0, locals := 0 }) s m args below meth c H locs 0 0 (rf_QI below args s E A0 z (cX E a P I J A B)) (F0 m 2 ls []) := by
  have hx := hC.1
  have hb := hC.2.1
  intro n
  induction n with
  | zero =>
    intro v1 v3 hf
    have hf : (none : Option (Int32)) = some z := hf
    cases hf
  | succ n ih =>
    intro v1 v3 hf H locs ls hP hS hl
    rw [f_X9_personNamed_2] at hf
    refine lv_iload_n hx hb dX9_personNamed_2 rfl (lv_at hl 2 rfl) ?_
    refine lv_aload_n hx hb dX9_personNamed_3 rfl (lv_at hl 0 rfl) ?_
    refine gX_td_personCount hC hP tw_126 (v := t_personCount) e_t_personCount dX9_personNamed_4 ?_
    refine lv_icmp_ge (tgt := 29) hx hb dX9_personNamed_7 (by decide) (fun c_7 => ?_) (fun c_7 => ?_)
    · have hf := rf_it c_7 hf
      refine lv_iconst (v := (-1)) hx hb dX9_personNamed_29 (by decide) ?_
      obtain rfl := Option.some.inj hf
      exact rf_reti hC hP hS rfl rfl dX9_personNamed_30
    have hf := rf_ie c_7 hf
    refine lv_aload_n hx hb dX9_personNamed_10 rfl (lv_at hl 0 rfl) ?_
    refine gX_td_personNames hC hP tw_91 dX9_personNamed_11 ?_
    refine lv_iload_n hx hb dX9_personNamed_14 rfl (lv_at hl 2 rfl) ?_
    obtain ⟨hi_15, hf⟩ := rf_gu hf
    refine lX_td_personNames hC hP hi_15 (f := t_personNames) e_t_personNames dX9_personNamed_15 ?_
    refine lv_lload_n hx hb dX9_personNamed_16 rfl (lv_at hl 1 rfl) ?_
    refine W.lcmp hx hb dX9_personNamed_17 ?_
    refine lv_if_ne (tgt := 23) hx hb dX9_personNamed_18 (by decide) (fun c_18 => ?_) (fun c_18 => ?_)
    · have hf := rf_ie c_18 hf
      refine lv_iinc (v := v3 + 1) (lv' := [(3, .int (v3 + 1)), (0, .ref (a 11)), (1, .long v1)]) hx hb dX9_personNamed_23 hl (k := 2) rfl rfl (by decide) rfl (fun ls hl => ?_)
      refine lv_goto (tgt := 2) hx hb dX9_personNamed_26 (by decide) ?_
      exact ih v1 (v3 + 1) hf _ _ _ hP hS (lv_sub hl [1, 2, 0] rfl)
    have hf := rf_it c_18 hf
    refine lv_iload_n hx hb dX9_personNamed_21 rfl (lv_at hl 2 rfl) ?_
    obtain rfl := Option.some.inj hf
    exact rf_reti hC hP hS rfl rfl dX9_personNamed_22
set_option maxHeartbeats 4000000 in
set_option maxRecDepth 100000 in
theorem c_X9_personNamed_td (l : Launch) (E : rf_E) (a P : Nat → Nat) (I : Nat → Int32) (J : Nat → Int64) (A : Nat → Nat → Int32) (B : Nat → Nat → Int64) (t_personCount : Int32) (t_personNames : Nat → Int64) (v1 : Int64) {z : Int32} (e_t_personCount : I 31 = t_personCount) (e_t_personNames : B 5 = t_personNames) (hf : f_X9_personNamed t_personCount t_personNames v1 = some z) : rf_MI l yX9_personNamed cX9_personNamed 4 (some .int) ({ frames := 0, cells := 0, slots := 0, locals := 0 }) E [.ref (a 11), .long v1] (cX E a P I J A B) z (cX E a P I J A B) := by
  unfold f_X9_personNamed at hf
  refine rf_ofI (by decide) (Nat.le_of_ble_eq_true rfl) ?_
  intro p e s m below meth c A0 ls hC hD hP hS hl
  have hC : rf_C p E s m _ meth c cX9_personNamed 4 RX9 (some .int) A0 := hC
  have hx := hC.1
  have hb := hC.2.1
  have hl : lv_has ls 4 [(0, .ref (a 11)), (1, .long v1)] := hl
  refine lv_iconst (v := 0) hx hb dX9_personNamed_0 (by decide) ?_
  refine lv_istore_n (lv' := [(3, .int 0), (0, .ref (a 11)), (1, .long v1)]) hx hb dX9_personNamed_1 rfl hl (by decide) rfl (fun ls hl => ?_)
  exact w_X9_personNamed_td_2 hC hD e_t_personCount e_t_personNames rf_fu v1 0 hf _ _ _ hP hS (lv_sub hl [1, 2, 0] rfl)
set_option maxHeartbeats 4000000 in
set_option maxRecDepth 100000 in
theorem w_X5_seesToldPerson_15 {l : Launch} {p : Program} {e : Env} {s : State} {m : MethodId} {args : Array Value} {below : List Frame} {meth : Method} {c : Code} {A0 : Nat → Prop} {E : rf_E} {a P : Nat → Nat} {I : Nat → Int32} {J : Nat → Int64} {A : Nat → Nat → Int32} {B : Nat → Nat → Int64} {td_personCount : Int32} {reader_sort : Int32} {reader_place : Int32} {reader_length : Int32} {reader_letters : Int64} {td_personNames : Nat → Int64} {z : Int32 × Int32 × Int32 × Int32} (hC : rf_C p E s m args meth c cX5_seesToldPerson 1 RX5 (some .boolean) A0) (hD : va_D A0 (cX E a P I J A B)) (hp3 : P 3 = a 11) (e_td_personCount : I 31 = td_personCount) (e_reader_sort : I 39 = reader_sort) (e_reader_place : I 40 = reader_place) (e_reader_length : I 41 = reader_length) (e_reader_letters : J 0 = reader_letters) (e_td_personNames : B 5 = td_personNames) :
    ∀ (reader_found : Int32) (reader_fault : Int32) (reader_faultPlace : Int32), f_X5_seesToldPerson_15 td_personCount reader_sort reader_place reader_length reader_letters td_personNames reader_found reader_fault reader_faultPlace = some z → ∀ (H : Heap) (locs : List Loc) (ls : Array Slot), va_P (rf_D E) vwCl (cX E a P (rf_upL I [(44, reader_found), (45, reader_fault), (46, reader_faultPlace)]) J A B) H → va_S A0 s.heap H locs → lv_has ls 1 [(0, .ref (a 12))] → W p l e ({ frames := 8, cells := 0, slots := 0, locals := 244 }) s m args below meth c H locs 0 0 (rf_QI below args s E A0 z.1 (cX E a P (rf_upL I [(44, z.2.1), (45, z.2.2.1), (46, z.2.2.2)]) J A B)) (F0 m 15 ls []) := by
  have hx := hC.1
  have hb := hC.2.1
  intro reader_found reader_fault reader_faultPlace hf H locs ls hP hS hl
  unfold f_X5_seesToldPerson_15 at hf
  refine lv_aload_n hx hb dX5_seesToldPerson_15 rfl (lv_at hl 0 rfl) ?_
  refine lv_iconst (v := 1) hx hb dX5_seesToldPerson_16 (by decide) ?_
  obtain ⟨z17, hz17, hf⟩ := rf_bd hf
  refine rf_vi (q0 := 12) (ci := 5) hC (c_X5_fail l E a P (rf_upL I [(44, reader_found), (45, reader_fault), (46, reader_faultPlace)]) J A B reader_place reader_fault reader_faultPlace 1 e_reader_place rfl rfl hz17) kV_X5_fail tw_553 ⟨Nat.le_of_ble_eq_true rfl, Nat.le_of_ble_eq_true rfl⟩ rfl rfl rfl rfl rfl hP (rf_DX hD) hS rfl hl.1 (rest := []) rfl (Nat.le_of_ble_eq_true rfl) dX5_seesToldPerson_17 (fun H locs hP hS => ?_)
  rw [rf_cat (f := I) (l := [(44, reader_found), (45, reader_fault), (46, reader_faultPlace)]) (lc := [(45, z17.2.1), (46, z17.2.2)]) (l' := [(44, reader_found), (45, z17.2.1), (46, z17.2.2)]) rfl] at hP
  obtain ⟨hz_20, hf⟩ := rf_gu hf
  obtain rfl := Option.some.inj hf
  exact rf_retz hC hP hS hz_20 rfl rfl dX5_seesToldPerson_20
set_option maxHeartbeats 4000000 in
set_option maxRecDepth 100000 in
theorem w_X5_seesToldPerson_52 {l : Launch} {p : Program} {e : Env} {s : State} {m : MethodId} {args : Array Value} {below : List Frame} {meth : Method} {c : Code} {A0 : Nat → Prop} {E : rf_E} {a P : Nat → Nat} {I : Nat → Int32} {J : Nat → Int64} {A : Nat → Nat → Int32} {B : Nat → Nat → Int64} {td_personCount : Int32} {reader_sort : Int32} {reader_place : Int32} {reader_length : Int32} {reader_letters : Int64} {td_personNames : Nat → Int64} {z : Int32 × Int32 × Int32 × Int32} (hC : rf_C p E s m args meth c cX5_seesToldPerson 1 RX5 (some .boolean) A0) (hD : va_D A0 (cX E a P I J A B)) (hp3 : P 3 = a 11) (e_td_personCount : I 31 = td_personCount) (e_reader_sort : I 39 = reader_sort) (e_reader_place : I 40 = reader_place) (e_reader_length : I 41 = reader_length) (e_reader_letters : J 0 = reader_letters) (e_td_personNames : B 5 = td_personNames) :
    ∀ (reader_found : Int32) (reader_fault : Int32) (reader_faultPlace : Int32), f_X5_seesToldPerson_52 td_personCount reader_sort reader_place reader_length reader_letters td_personNames reader_found reader_fault reader_faultPlace = some z → ∀ (H : Heap) (locs : List Loc) (ls : Array Slot), va_P (rf_D E) vwCl (cX E a P (rf_upL I [(44, reader_found), (45, reader_fault), (46, reader_faultPlace)]) J A B) H → va_S A0 s.heap H locs → lv_has ls 1 [] → W p l e ({ frames := 8, cells := 0, slots := 0, locals := 244 }) s m args below meth c H locs 0 0 (rf_QI below args s E A0 z.1 (cX E a P (rf_upL I [(44, z.2.1), (45, z.2.2.1), (46, z.2.2.2)]) J A B)) (F0 m 52 ls []) := by
  have hx := hC.1
  have hb := hC.2.1
  intro reader_found reader_fault reader_faultPlace hf H locs ls hP hS hl
  unfold f_X5_seesToldPerson_52 at hf
  refine lv_iconst (v := 1) hx hb dX5_seesToldPerson_52 (by decide) ?_
  refine lv_goto (tgt := 57) hx hb dX5_seesToldPerson_53 (by decide) ?_
  obtain rfl := Option.some.inj hf
  exact rf_retz hC hP hS (by decide) rfl rfl dX5_seesToldPerson_57
set_option maxHeartbeats 4000000 in
set_option maxRecDepth 100000 in
theorem c_X5_seesToldPerson (l : Launch) (E : rf_E) (a P : Nat → Nat) (I : Nat → Int32) (J : Nat → Int64) (A : Nat → Nat → Int32) (B : Nat → Nat → Int64) (td_personCount : Int32) (reader_sort : Int32) (reader_place : Int32) (reader_length : Int32) (reader_letters : Int64) (td_personNames : Nat → Int64) (reader_found : Int32) (reader_fault : Int32) (reader_faultPlace : Int32) {z : Int32 × Int32 × Int32 × Int32} (hp3 : P 3 = a 11) (e_td_personCount : I 31 = td_personCount) (e_reader_sort : I 39 = reader_sort) (e_reader_place : I 40 = reader_place) (e_reader_length : I 41 = reader_length) (e_reader_letters : J 0 = reader_letters) (e_td_personNames : B 5 = td_personNames) (e_reader_found : I 44 = reader_found) (e_reader_fault : I 45 = reader_fault) (e_reader_faultPlace : I 46 = reader_faultPlace) (hf : f_X5_seesToldPerson td_personCount reader_sort reader_place reader_length reader_letters td_personNames reader_found reader_fault reader_faultPlace = some z) : rf_MI l yX5_seesToldPerson cX5_seesToldPerson 1 (some .boolean) ({ frames := 8, cells := 0, slots := 0, locals := 244 }) E [.ref (a 12)] (cX E a P I J A B) z.1 (cX E a P (rf_upL I [(44, z.2.1), (45, z.2.2.1), (46, z.2.2.2)]) J A B) := by
  unfold f_X5_seesToldPerson at hf
  refine rf_ofI (by decide) (Nat.le_of_ble_eq_true rfl) ?_
  intro p e s m below meth c A0 ls hC hD hP hS hl
  have hC : rf_C p E s m _ meth c cX5_seesToldPerson 1 RX5 (some .boolean) A0 := hC
  have hx := hC.1
  have hb := hC.2.1
  have hl : lv_has ls 1 [(0, .ref (a 12))] := hl
  have hP : va_P (rf_D E) vwCl (cX E a P (rf_upL I [(44, reader_found), (45, reader_fault), (46, reader_faultPlace)]) J A B) s.heap := by
    rw [rf_self (f := I) [(44, reader_found), (45, reader_fault), (46, reader_faultPlace)] (rf_fa1 e_reader_found (rf_fa1 e_reader_fault (rf_fa1 e_reader_faultPlace rf_fa0)))]
    exact hP
  refine lv_aload_n hx hb dX5_seesToldPerson_0 rfl (lv_at hl 0 rfl) ?_
  refine gX_reader_sort hC hP tw_343 (v := reader_sort) e_reader_sort dX5_seesToldPerson_1 ?_
  refine lv_iconst (v := 1) hx hb dX5_seesToldPerson_4 (by decide) ?_
  refine lv_icmp_ne (tgt := 15) hx hb dX5_seesToldPerson_5 (by decide) (fun c_5 => ?_) (fun c_5 => ?_)
  · have hf := rf_ie c_5 hf
    exact w_X5_seesToldPerson_15 hC hD hp3 e_td_personCount e_reader_sort e_reader_place e_reader_length e_reader_letters e_td_personNames reader_found reader_fault reader_faultPlace hf _ _ _ hP hS (lv_sub hl [0] rfl)
  have hf := rf_it c_5 hf
  refine lv_aload_n hx hb dX5_seesToldPerson_8 rfl (lv_at hl 0 rfl) ?_
  obtain ⟨z9, hz9, hf⟩ := rf_bd hf
  refine rf_vi (q0 := 12) (ci := 5) hC (c_X5_lineBegun l E a P (rf_upL I [(44, reader_found), (45, reader_fault), (46, reader_faultPlace)]) J A B reader_sort reader_length reader_letters e_reader_sort e_reader_length e_reader_letters hz9) kV_X5_lineBegun tw_489 ⟨Nat.le_of_ble_eq_true rfl, Nat.le_of_ble_eq_true rfl⟩ rfl rfl rfl rfl rfl hP (rf_DX hD) hS rfl hl.1 (rest := []) rfl (Nat.le_of_ble_eq_true rfl) dX5_seesToldPerson_9 (fun H locs hP hS => ?_)
  refine lv_if_eq (tgt := 21) hx hb dX5_seesToldPerson_12 (by decide) (fun c_12 => ?_) (fun c_12 => ?_)
  · have hf := rf_it c_12 hf
    refine lv_aload_n hx hb dX5_seesToldPerson_21 rfl (lv_at hl 0 rfl) ?_
    refine lv_aload_n hx hb dX5_seesToldPerson_22 rfl (lv_at hl 0 rfl) ?_
    refine gX_reader_tale hC hP tw_338 (v := a 11) hp3 dX5_seesToldPerson_23 ?_
    refine lv_aload_n hx hb dX5_seesToldPerson_26 rfl (lv_at hl 0 rfl) ?_
    refine gX_reader_letters hC hP tw_346 (v := reader_letters) e_reader_letters dX5_seesToldPerson_27 ?_
    obtain ⟨z30, hz30, hf⟩ := rf_bd hf
    refine rf_vi (q0 := 11) (ci := 9) hC (c_X9_personNamed_td l E a P (rf_upL I [(44, reader_found), (45, reader_fault), (46, reader_faultPlace)]) J A B td_personCount td_personNames reader_letters e_td_personCount e_td_personNames hz30) kV_X9_personNamed tw_595 ⟨Nat.le_of_ble_eq_true rfl, Nat.le_of_ble_eq_true rfl⟩ rfl rfl rfl rfl rfl hP (rf_DX hD) hS rfl hl.1 (rest := [.ref (a 12)]) rfl (Nat.le_of_ble_eq_true rfl) dX5_seesToldPerson_30 (fun H locs hP hS => ?_)
    refine pX_reader_found hC hD hP hS tw_351 dX5_seesToldPerson_33 (rf_upL I [(44, z30), (45, reader_fault), (46, reader_faultPlace)]) (rf_put rfl) (fun H locs hP hS => ?_)
    refine lv_aload_n hx hb dX5_seesToldPerson_36 rfl (lv_at hl 0 rfl) ?_
    refine gX_reader_found hC hP tw_351 (v := z30) rfl dX5_seesToldPerson_37 ?_
    refine lv_iconst (v := (-1)) hx hb dX5_seesToldPerson_40 (by decide) ?_
    refine lv_icmp_ne (tgt := 52) hx hb dX5_seesToldPerson_41 (by decide) (fun c_41 => ?_) (fun c_41 => ?_)
    · have hf := rf_ie c_41 hf
      exact w_X5_seesToldPerson_52 hC hD hp3 e_td_personCount e_reader_sort e_reader_place e_reader_length e_reader_letters e_td_personNames z30 reader_fault reader_faultPlace hf _ _ _ hP hS (lv_sub hl [] rfl)
    have hf := rf_it c_41 hf
    refine lv_aload_n hx hb dX5_seesToldPerson_44 rfl (lv_at hl 0 rfl) ?_
    refine lv_iconst (v := 2) hx hb dX5_seesToldPerson_45 (by decide) ?_
    obtain ⟨z46, hz46, hf⟩ := rf_bd hf
    refine rf_vi (q0 := 12) (ci := 5) hC (c_X5_fail l E a P (rf_upL I [(44, z30), (45, reader_fault), (46, reader_faultPlace)]) J A B reader_place reader_fault reader_faultPlace 2 e_reader_place rfl rfl hz46) kV_X5_fail tw_553 ⟨Nat.le_of_ble_eq_true rfl, Nat.le_of_ble_eq_true rfl⟩ rfl rfl rfl rfl rfl hP (rf_DX hD) hS rfl hl.1 (rest := []) rfl (Nat.le_of_ble_eq_true rfl) dX5_seesToldPerson_46 (fun H locs hP hS => ?_)
    rw [rf_cat (f := I) (l := [(44, z30), (45, reader_fault), (46, reader_faultPlace)]) (lc := [(45, z46.2.1), (46, z46.2.2)]) (l' := [(44, z30), (45, z46.2.1), (46, z46.2.2)]) rfl] at hP
    refine lv_if_eq (tgt := 56) hx hb dX5_seesToldPerson_49 (by decide) (fun c_49 => ?_) (fun c_49 => ?_)
    · have hf := rf_it c_49 hf
      refine lv_iconst (v := 0) hx hb dX5_seesToldPerson_56 (by decide) ?_
      obtain rfl := Option.some.inj hf
      exact rf_retz hC hP hS (by decide) rfl rfl dX5_seesToldPerson_57
    have hf := rf_ie c_49 hf
    exact w_X5_seesToldPerson_52 hC hD hp3 e_td_personCount e_reader_sort e_reader_place e_reader_length e_reader_letters e_td_personNames z30 z46.2.1 z46.2.2 hf _ _ _ hP hS (lv_sub hl [] rfl)
  have hf := rf_ie c_12 hf
  exact w_X5_seesToldPerson_15 hC hD hp3 e_td_personCount e_reader_sort e_reader_place e_reader_length e_reader_letters e_td_personNames reader_found reader_fault reader_faultPlace hf _ _ _ hP hS (lv_sub hl [0] rfl)
set_option maxHeartbeats 4000000 in
set_option maxRecDepth 100000 in
theorem c_X5_takes (l : Launch) (E : rf_E) (a P : Nat → Nat) (I : Nat → Int32) (J : Nat → Int64) (A : Nat → Nat → Int32) (B : Nat → Nat → Int64) (reader_end : Int32) (x_tape : Nat → Int32) (reader_next : Int32) (reader_sort : Int32) (reader_place : Int32) (reader_length : Int32) (reader_letters : Int64) (reader_whole : Int32) (reader_fault : Int32) (reader_faultPlace : Int32) (v1 : Nat) {z : Int32 × Int32 × Int32 × Int32 × Int32 × Int64 × Int32 × Int32 × Int32} (e_reader_end : I 35 = reader_end) (e_x_tape : A 0 = x_tape) (e_reader_next : I 36 = reader_next) (e_reader_sort : I 39 = reader_sort) (e_reader_place : I 40 = reader_place) (e_reader_length : I 41 = reader_length) (e_reader_letters : J 0 = reader_letters) (e_reader_whole : I 42 = reader_whole) (e_reader_fault : I 45 = reader_fault) (e_reader_faultPlace : I 46 = reader_faultPlace) (hk_v1 : v1 < 49) (hf : f_X5_takes reader_end x_tape reader_next reader_sort reader_place reader_length reader_letters reader_whole reader_fault reader_faultPlace v1 = some z) : rf_MI l yX5_takes cX5_takes 2 (some .boolean) ({ frames := 7, cells := 0, slots := 0, locals := 224 }) E [.ref (a 12), .ref (rf_aK E v1)] (cX E a P I J A B) z.1 (cX E a P (rf_upL I [(36, z.2.1), (39, z.2.2.1), (40, z.2.2.2.1), (41, z.2.2.2.2.1), (42, z.2.2.2.2.2.2.1), (45, z.2.2.2.2.2.2.2.1), (46, z.2.2.2.2.2.2.2.2)]) (rf_upL J [(0, z.2.2.2.2.2.1)]) A B) := by
  unfold f_X5_takes at hf
  refine rf_ofI (by decide) (Nat.le_of_ble_eq_true rfl) ?_
  intro p e s m below meth c A0 ls hC hD hP hS hl
  have hC : rf_C p E s m _ meth c cX5_takes 2 RX5 (some .boolean) A0 := hC
  have hx := hC.1
  have hb := hC.2.1
  have hl : lv_has ls 2 [(0, .ref (a 12)), (1, .ref (rf_aK E v1))] := hl
  have hP : va_P (rf_D E) vwCl (cX E a P (rf_upL I [(36, reader_next), (39, reader_sort), (40, reader_place), (41, reader_length), (42, reader_whole), (45, reader_fault), (46, reader_faultPlace)]) (rf_upL J [(0, reader_letters)]) A B) s.heap := by
    rw [rf_self (f := I) [(36, reader_next), (39, reader_sort), (40, reader_place), (41, reader_length), (42, reader_whole), (45, reader_fault), (46, reader_faultPlace)] (rf_fa1 e_reader_next (rf_fa1 e_reader_sort (rf_fa1 e_reader_place (rf_fa1 e_reader_length (rf_fa1 e_reader_whole (rf_fa1 e_reader_fault (rf_fa1 e_reader_faultPlace rf_fa0)))))))]
    rw [rf_self (f := J) [(0, reader_letters)] (rf_fa1 e_reader_letters rf_fa0)]
    exact hP
  refine lv_aload_n hx hb dX5_takes_0 rfl (lv_at hl 0 rfl) ?_
  refine lv_aload_n hx hb dX5_takes_1 rfl (lv_at hl 1 rfl) ?_
  obtain ⟨z2, hz2, hf⟩ := rf_bd hf
  refine rf_vi (q0 := 12) (ci := 5) hC (c_X5_is l E a P (rf_upL I [(36, reader_next), (39, reader_sort), (40, reader_place), (41, reader_length), (42, reader_whole), (45, reader_fault), (46, reader_faultPlace)]) (rf_upL J [(0, reader_letters)]) A B reader_sort reader_length reader_letters v1 rfl rfl rfl hk_v1 hz2) kV_X5_is tw_494 ⟨Nat.le_of_ble_eq_true rfl, Nat.le_of_ble_eq_true rfl⟩ rfl rfl rfl rfl rfl hP (rf_DX hD) hS rfl hl.1 (rest := []) rfl (Nat.le_of_ble_eq_true rfl) dX5_takes_2 (fun H locs hP hS => ?_)
  refine lv_if_ne (tgt := 14) hx hb dX5_takes_5 (by decide) (fun c_5 => ?_) (fun c_5 => ?_)
  · have hf := rf_ie c_5 hf
    refine lv_aload_n hx hb dX5_takes_14 rfl (lv_at hl 0 rfl) ?_
    obtain ⟨z15, hz15, hf⟩ := rf_bd hf
    refine rf_vv (q0 := 12) (ci := 5) hC (c_X5_look l E a P (rf_upL I [(36, reader_next), (39, reader_sort), (40, reader_place), (41, reader_length), (42, reader_whole), (45, reader_fault), (46, reader_faultPlace)]) (rf_upL J [(0, reader_letters)]) A B reader_end x_tape reader_next reader_sort reader_place reader_length reader_letters reader_whole e_reader_end e_x_tape rfl rfl rfl rfl rfl rfl hz15) kV_X5_look tw_473 ⟨Nat.le_of_ble_eq_true rfl, Nat.le_of_ble_eq_true rfl⟩ rfl rfl rfl rfl rfl hP (rf_DX hD) hS rfl hl.1 (rest := []) rfl (Nat.le_of_ble_eq_true rfl) dX5_takes_15 (fun H locs hP hS => ?_)
    rw [rf_cat (f := I) (l := [(36, reader_next), (39, reader_sort), (40, reader_place), (41, reader_length), (42, reader_whole), (45, reader_fault), (46, reader_faultPlace)]) (lc := [(36, z15.1), (39, z15.2.1), (40, z15.2.2.1), (41, z15.2.2.2.1), (42, z15.2.2.2.2.2)]) (l' := [(36, z15.1), (39, z15.2.1), (40, z15.2.2.1), (41, z15.2.2.2.1), (42, z15.2.2.2.2.2), (45, reader_fault), (46, reader_faultPlace)]) rfl] at hP
    rw [rf_cat (f := J) (l := [(0, reader_letters)]) (lc := [(0, z15.2.2.2.2.1)]) (l' := [(0, z15.2.2.2.2.1)]) rfl] at hP
    refine lv_iconst (v := 1) hx hb dX5_takes_18 (by decide) ?_
    obtain rfl := Option.some.inj hf
    exact rf_retz hC hP hS (by decide) rfl rfl dX5_takes_19
  have hf := rf_it c_5 hf
  refine lv_aload_n hx hb dX5_takes_8 rfl (lv_at hl 0 rfl) ?_
  refine lv_iconst (v := 1) hx hb dX5_takes_9 (by decide) ?_
  obtain ⟨z10, hz10, hf⟩ := rf_bd hf
  refine rf_vi (q0 := 12) (ci := 5) hC (c_X5_fail l E a P (rf_upL I [(36, reader_next), (39, reader_sort), (40, reader_place), (41, reader_length), (42, reader_whole), (45, reader_fault), (46, reader_faultPlace)]) (rf_upL J [(0, reader_letters)]) A B reader_place reader_fault reader_faultPlace 1 rfl rfl rfl hz10) kV_X5_fail tw_553 ⟨Nat.le_of_ble_eq_true rfl, Nat.le_of_ble_eq_true rfl⟩ rfl rfl rfl rfl rfl hP (rf_DX hD) hS rfl hl.1 (rest := []) rfl (Nat.le_of_ble_eq_true rfl) dX5_takes_10 (fun H locs hP hS => ?_)
  rw [rf_cat (f := I) (l := [(36, reader_next), (39, reader_sort), (40, reader_place), (41, reader_length), (42, reader_whole), (45, reader_fault), (46, reader_faultPlace)]) (lc := [(45, z10.2.1), (46, z10.2.2)]) (l' := [(36, reader_next), (39, reader_sort), (40, reader_place), (41, reader_length), (42, reader_whole), (45, z10.2.1), (46, z10.2.2)]) rfl] at hP
  obtain ⟨hz_13, hf⟩ := rf_gu hf
  obtain rfl := Option.some.inj hf
  exact rf_retz hC hP hS hz_13 rfl rfl dX5_takes_13
set_option maxHeartbeats 4000000 in
set_option maxRecDepth 100000 in
theorem w_X5_seesWhole_38 {l : Launch} {p : Program} {e : Env} {s : State} {m : MethodId} {args : Array Value} {below : List Frame} {meth : Method} {c : Code} {A0 : Nat → Prop} {E : rf_E} {a P : Nat → Nat} {I : Nat → Int32} {J : Nat → Int64} {A : Nat → Nat → Int32} {B : Nat → Nat → Int64} {reader_sort : Int32} {reader_place : Int32} {reader_whole : Int32} {z : Int32 × Int32 × Int32} (hC : rf_C p E s m args meth c cX5_seesWhole 3 RX5 (some .boolean) A0) (hD : va_D A0 (cX E a P I J A B)) (e_reader_sort : I 39 = reader_sort) (e_reader_place : I 40 = reader_place) (e_reader_whole : I 42 = reader_whole) :
    ∀ (reader_fault : Int32) (reader_faultPlace : Int32), f_X5_seesWhole_38 reader_sort reader_place reader_whole reader_fault reader_faultPlace = some z → ∀ (H : Heap) (locs : List Loc) (ls : Array Slot), va_P (rf_D E) vwCl (cX E a P (rf_upL I [(45, reader_fault), (46, reader_faultPlace)]) J A B) H → va_S A0 s.heap H locs → lv_has ls 3 [] → W p l e ({ frames := 1, cells := 0, slots := 0, locals := 21 }) s m args below meth c H locs 0 0 (rf_QI below args s E A0 z.1 (cX E a P (rf_upL I [(45, z.2.1), (46, z.2.2)]) J A B)) (F0 m 38 ls []) := by
  have hx := hC.1
  have hb := hC.2.1
  intro reader_fault reader_faultPlace hf H locs ls hP hS hl
  unfold f_X5_seesWhole_38 at hf
  refine lv_iconst (v := 1) hx hb dX5_seesWhole_38 (by decide) ?_
  refine lv_goto (tgt := 43) hx hb dX5_seesWhole_39 (by decide) ?_
  obtain rfl := Option.some.inj hf
  exact rf_retz hC hP hS (by decide) rfl rfl dX5_seesWhole_43
set_option maxHeartbeats 4000000 in
set_option maxRecDepth 100000 in
theorem w_X5_seesWhole_30 {l : Launch} {p : Program} {e : Env} {s : State} {m : MethodId} {args : Array Value} {below : List Frame} {meth : Method} {c : Code} {A0 : Nat → Prop} {E : rf_E} {a P : Nat → Nat} {I : Nat → Int32} {J : Nat → Int64} {A : Nat → Nat → Int32} {B : Nat → Nat → Int64} {reader_sort : Int32} {reader_place : Int32} {reader_whole : Int32} {z : Int32 × Int32 × Int32} (hC : rf_C p E s m args meth c cX5_seesWhole 3 RX5 (some .boolean) A0) (hD : va_D A0 (cX E a P I J A B)) (e_reader_sort : I 39 = reader_sort) (e_reader_place : I 40 = reader_place) (e_reader_whole : I 42 = reader_whole) :
    ∀ (reader_fault : Int32) (reader_faultPlace : Int32), f_X5_seesWhole_30 reader_sort reader_place reader_whole reader_fault reader_faultPlace = some z → ∀ (H : Heap) (locs : List Loc) (ls : Array Slot), va_P (rf_D E) vwCl (cX E a P (rf_upL I [(45, reader_fault), (46, reader_faultPlace)]) J A B) H → va_S A0 s.heap H locs → lv_has ls 3 [(0, .ref (a 12))] → W p l e ({ frames := 1, cells := 0, slots := 0, locals := 21 }) s m args below meth c H locs 0 0 (rf_QI below args s E A0 z.1 (cX E a P (rf_upL I [(45, z.2.1), (46, z.2.2)]) J A B)) (F0 m 30 ls []) := by
  have hx := hC.1
  have hb := hC.2.1
  intro reader_fault reader_faultPlace hf H locs ls hP hS hl
  unfold f_X5_seesWhole_30 at hf
  refine lv_aload_n hx hb dX5_seesWhole_30 rfl (lv_at hl 0 rfl) ?_
  refine lv_iconst (v := 4) hx hb dX5_seesWhole_31 (by decide) ?_
  obtain ⟨z32, hz32, hf⟩ := rf_bd hf
  refine rf_vi (q0 := 12) (ci := 5) hC (c_X5_fail l E a P (rf_upL I [(45, reader_fault), (46, reader_faultPlace)]) J A B reader_place reader_fault reader_faultPlace 4 e_reader_place rfl rfl hz32) kV_X5_fail tw_553 ⟨Nat.le_of_ble_eq_true rfl, Nat.le_of_ble_eq_true rfl⟩ rfl rfl rfl rfl rfl hP (rf_DX hD) hS rfl hl.1 (rest := []) rfl (Nat.le_of_ble_eq_true rfl) dX5_seesWhole_32 (fun H locs hP hS => ?_)
  rw [rf_cat (f := I) (l := [(45, reader_fault), (46, reader_faultPlace)]) (lc := [(45, z32.2.1), (46, z32.2.2)]) (l' := [(45, z32.2.1), (46, z32.2.2)]) rfl] at hP
  refine lv_if_eq (tgt := 42) hx hb dX5_seesWhole_35 (by decide) (fun c_35 => ?_) (fun c_35 => ?_)
  · have hf := rf_it c_35 hf
    refine lv_iconst (v := 0) hx hb dX5_seesWhole_42 (by decide) ?_
    obtain rfl := Option.some.inj hf
    exact rf_retz hC hP hS (by decide) rfl rfl dX5_seesWhole_43
  have hf := rf_ie c_35 hf
  exact w_X5_seesWhole_38 hC hD e_reader_sort e_reader_place e_reader_whole z32.2.1 z32.2.2 hf _ _ _ hP hS (lv_sub hl [] rfl)
set_option maxHeartbeats 4000000 in
set_option maxRecDepth 100000 in
theorem c_X5_seesWhole (l : Launch) (E : rf_E) (a P : Nat → Nat) (I : Nat → Int32) (J : Nat → Int64) (A : Nat → Nat → Int32) (B : Nat → Nat → Int64) (reader_sort : Int32) (reader_place : Int32) (reader_whole : Int32) (reader_fault : Int32) (reader_faultPlace : Int32) (v1 : Int32) (v2 : Int32) {z : Int32 × Int32 × Int32} (e_reader_sort : I 39 = reader_sort) (e_reader_place : I 40 = reader_place) (e_reader_whole : I 42 = reader_whole) (e_reader_fault : I 45 = reader_fault) (e_reader_faultPlace : I 46 = reader_faultPlace) (hf : f_X5_seesWhole reader_sort reader_place reader_whole reader_fault reader_faultPlace v1 v2 = some z) : rf_MI l yX5_seesWhole cX5_seesWhole 3 (some .boolean) ({ frames := 1, cells := 0, slots := 0, locals := 21 }) E [.ref (a 12), .int v1, .int v2] (cX E a P I J A B) z.1 (cX E a P (rf_upL I [(45, z.2.1), (46, z.2.2)]) J A B) := by
  unfold f_X5_seesWhole at hf
  refine rf_ofI (by decide) (Nat.le_of_ble_eq_true rfl) ?_
  intro p e s m below meth c A0 ls hC hD hP hS hl
  have hC : rf_C p E s m _ meth c cX5_seesWhole 3 RX5 (some .boolean) A0 := hC
  have hx := hC.1
  have hb := hC.2.1
  have hl : lv_has ls 3 [(0, .ref (a 12)), (1, .int v1), (2, .int v2)] := hl
  have hP : va_P (rf_D E) vwCl (cX E a P (rf_upL I [(45, reader_fault), (46, reader_faultPlace)]) J A B) s.heap := by
    rw [rf_self (f := I) [(45, reader_fault), (46, reader_faultPlace)] (rf_fa1 e_reader_fault (rf_fa1 e_reader_faultPlace rf_fa0))]
    exact hP
  refine lv_aload_n hx hb dX5_seesWhole_0 rfl (lv_at hl 0 rfl) ?_
  refine gX_reader_sort hC hP tw_343 (v := reader_sort) e_reader_sort dX5_seesWhole_1 ?_
  refine lv_iconst (v := 2) hx hb dX5_seesWhole_4 (by decide) ?_
  refine lv_icmp_eq (tgt := 14) hx hb dX5_seesWhole_5 (by decide) (fun c_5 => ?_) (fun c_5 => ?_)
  · have hf := rf_it c_5 hf
    refine lv_aload_n hx hb dX5_seesWhole_14 rfl (lv_at hl 0 rfl) ?_
    refine gX_reader_whole hC hP tw_347 (v := reader_whole) e_reader_whole dX5_seesWhole_15 ?_
    refine lv_iload_n hx hb dX5_seesWhole_18 rfl (lv_at hl 1 rfl) ?_
    refine lv_icmp_lt (tgt := 30) hx hb dX5_seesWhole_19 (by decide) (fun c_19 => ?_) (fun c_19 => ?_)
    · have hf := rf_it c_19 hf
      exact w_X5_seesWhole_30 hC hD e_reader_sort e_reader_place e_reader_whole reader_fault reader_faultPlace hf _ _ _ hP hS (lv_sub hl [0] rfl)
    have hf := rf_ie c_19 hf
    refine lv_aload_n hx hb dX5_seesWhole_22 rfl (lv_at hl 0 rfl) ?_
    refine gX_reader_whole hC hP tw_347 (v := reader_whole) e_reader_whole dX5_seesWhole_23 ?_
    refine lv_iload_n hx hb dX5_seesWhole_26 rfl (lv_at hl 2 rfl) ?_
    refine lv_icmp_le (tgt := 38) hx hb dX5_seesWhole_27 (by decide) (fun c_27 => ?_) (fun c_27 => ?_)
    · have hf := rf_it c_27 hf
      exact w_X5_seesWhole_38 hC hD e_reader_sort e_reader_place e_reader_whole reader_fault reader_faultPlace hf _ _ _ hP hS (lv_sub hl [] rfl)
    have hf := rf_ie c_27 hf
    exact w_X5_seesWhole_30 hC hD e_reader_sort e_reader_place e_reader_whole reader_fault reader_faultPlace hf _ _ _ hP hS (lv_sub hl [0] rfl)
  have hf := rf_ie c_5 hf
  refine lv_aload_n hx hb dX5_seesWhole_8 rfl (lv_at hl 0 rfl) ?_
  refine lv_iconst (v := 1) hx hb dX5_seesWhole_9 (by decide) ?_
  obtain ⟨z10, hz10, hf⟩ := rf_bd hf
  refine rf_vi (q0 := 12) (ci := 5) hC (c_X5_fail l E a P (rf_upL I [(45, reader_fault), (46, reader_faultPlace)]) J A B reader_place reader_fault reader_faultPlace 1 e_reader_place rfl rfl hz10) kV_X5_fail tw_553 ⟨Nat.le_of_ble_eq_true rfl, Nat.le_of_ble_eq_true rfl⟩ rfl rfl rfl rfl rfl hP (rf_DX hD) hS rfl hl.1 (rest := []) rfl (Nat.le_of_ble_eq_true rfl) dX5_seesWhole_10 (fun H locs hP hS => ?_)
  rw [rf_cat (f := I) (l := [(45, reader_fault), (46, reader_faultPlace)]) (lc := [(45, z10.2.1), (46, z10.2.2)]) (l' := [(45, z10.2.1), (46, z10.2.2)]) rfl] at hP
  obtain ⟨hz_13, hf⟩ := rf_gu hf
  obtain rfl := Option.some.inj hf
  exact rf_retz hC hP hS hz_13 rfl rfl dX5_seesWhole_13
set_option maxHeartbeats 4000000 in
set_option maxRecDepth 100000 in
theorem c_X5_takesWhole (l : Launch) (E : rf_E) (a P : Nat → Nat) (I : Nat → Int32) (J : Nat → Int64) (A : Nat → Nat → Int32) (B : Nat → Nat → Int64) (reader_end : Int32) (x_tape : Nat → Int32) (reader_next : Int32) (reader_sort : Int32) (reader_place : Int32) (reader_length : Int32) (reader_letters : Int64) (reader_whole : Int32) (reader_number : Int32) (reader_fault : Int32) (reader_faultPlace : Int32) (v1 : Int32) (v2 : Int32) {z : Int32 × Int32 × Int32 × Int32 × Int32 × Int64 × Int32 × Int32 × Int32 × Int32} (e_reader_end : I 35 = reader_end) (e_x_tape : A 0 = x_tape) (e_reader_next : I 36 = reader_next) (e_reader_sort : I 39 = reader_sort) (e_reader_place : I 40 = reader_place) (e_reader_length : I 41 = reader_length) (e_reader_letters : J 0 = reader_letters) (e_reader_whole : I 42 = reader_whole) (e_reader_number : I 43 = reader_number) (e_reader_fault : I 45 = reader_fault) (e_reader_faultPlace : I 46 = reader_faultPlace) (hf : f_X5_takesWhole reader_end x_tape reader_next reader_sort reader_place reader_length reader_letters reader_whole reader_number reader_fault reader_faultPlace v1 v2 = some z) : rf_MI l yX5_takesWhole cX5_takesWhole 3 (some .boolean) ({ frames := 2, cells := 0, slots := 0, locals := 43 }) E [.ref (a 12), .int v1, .int v2] (cX E a P I J A B) z.1 (cX E a P (rf_upL I [(36, z.2.1), (39, z.2.2.1), (40, z.2.2.2.1), (41, z.2.2.2.2.1), (42, z.2.2.2.2.2.2.1), (43, z.2.2.2.2.2.2.2.1), (45, z.2.2.2.2.2.2.2.2.1), (46, z.2.2.2.2.2.2.2.2.2)]) (rf_upL J [(0, z.2.2.2.2.2.1)]) A B) := by
  unfold f_X5_takesWhole at hf
  refine rf_ofI (by decide) (Nat.le_of_ble_eq_true rfl) ?_
  intro p e s m below meth c A0 ls hC hD hP hS hl
  have hC : rf_C p E s m _ meth c cX5_takesWhole 3 RX5 (some .boolean) A0 := hC
  have hx := hC.1
  have hb := hC.2.1
  have hl : lv_has ls 3 [(0, .ref (a 12)), (1, .int v1), (2, .int v2)] := hl
  have hP : va_P (rf_D E) vwCl (cX E a P (rf_upL I [(36, reader_next), (39, reader_sort), (40, reader_place), (41, reader_length), (42, reader_whole), (43, reader_number), (45, reader_fault), (46, reader_faultPlace)]) (rf_upL J [(0, reader_letters)]) A B) s.heap := by
    rw [rf_self (f := I) [(36, reader_next), (39, reader_sort), (40, reader_place), (41, reader_length), (42, reader_whole), (43, reader_number), (45, reader_fault), (46, reader_faultPlace)] (rf_fa1 e_reader_next (rf_fa1 e_reader_sort (rf_fa1 e_reader_place (rf_fa1 e_reader_length (rf_fa1 e_reader_whole (rf_fa1 e_reader_number (rf_fa1 e_reader_fault (rf_fa1 e_reader_faultPlace rf_fa0))))))))]
    rw [rf_self (f := J) [(0, reader_letters)] (rf_fa1 e_reader_letters rf_fa0)]
    exact hP
  refine lv_aload_n hx hb dX5_takesWhole_0 rfl (lv_at hl 0 rfl) ?_
  refine lv_iload_n hx hb dX5_takesWhole_1 rfl (lv_at hl 1 rfl) ?_
  refine lv_iload_n hx hb dX5_takesWhole_2 rfl (lv_at hl 2 rfl) ?_
  obtain ⟨z3, hz3, hf⟩ := rf_bd hf
  refine rf_vi (q0 := 12) (ci := 5) hC (c_X5_seesWhole l E a P (rf_upL I [(36, reader_next), (39, reader_sort), (40, reader_place), (41, reader_length), (42, reader_whole), (43, reader_number), (45, reader_fault), (46, reader_faultPlace)]) (rf_upL J [(0, reader_letters)]) A B reader_sort reader_place reader_whole reader_fault reader_faultPlace v1 v2 rfl rfl rfl rfl rfl hz3) kV_X5_seesWhole tw_578 ⟨Nat.le_of_ble_eq_true rfl, Nat.le_of_ble_eq_true rfl⟩ rfl rfl rfl rfl rfl hP (rf_DX hD) hS rfl hl.1 (rest := []) rfl (Nat.le_of_ble_eq_true rfl) dX5_takesWhole_3 (fun H locs hP hS => ?_)
  rw [rf_cat (f := I) (l := [(36, reader_next), (39, reader_sort), (40, reader_place), (41, reader_length), (42, reader_whole), (43, reader_number), (45, reader_fault), (46, reader_faultPlace)]) (lc := [(45, z3.2.1), (46, z3.2.2)]) (l' := [(36, reader_next), (39, reader_sort), (40, reader_place), (41, reader_length), (42, reader_whole), (43, reader_number), (45, z3.2.1), (46, z3.2.2)]) rfl] at hP
  refine lv_if_ne (tgt := 11) hx hb dX5_takesWhole_6 (by decide) (fun c_6 => ?_) (fun c_6 => ?_)
  · have hf := rf_ie c_6 hf
    refine lv_aload_n hx hb dX5_takesWhole_11 rfl (lv_at hl 0 rfl) ?_
    refine lv_aload_n hx hb dX5_takesWhole_12 rfl (lv_at hl 0 rfl) ?_
    refine gX_reader_whole hC hP tw_347 (v := reader_whole) rfl dX5_takesWhole_13 ?_
    refine pX_reader_number hC hD hP hS tw_350 dX5_takesWhole_16 (rf_upL I [(36, reader_next), (39, reader_sort), (40, reader_place), (41, reader_length), (42, reader_whole), (43, reader_whole), (45, z3.2.1), (46, z3.2.2)]) (rf_put rfl) (fun H locs hP hS => ?_)
    refine lv_aload_n hx hb dX5_takesWhole_19 rfl (lv_at hl 0 rfl) ?_
    obtain ⟨z20, hz20, hf⟩ := rf_bd hf
    refine rf_vv (q0 := 12) (ci := 5) hC (c_X5_look l E a P (rf_upL I [(36, reader_next), (39, reader_sort), (40, reader_place), (41, reader_length), (42, reader_whole), (43, reader_whole), (45, z3.2.1), (46, z3.2.2)]) (rf_upL J [(0, reader_letters)]) A B reader_end x_tape reader_next reader_sort reader_place reader_length reader_letters reader_whole e_reader_end e_x_tape rfl rfl rfl rfl rfl rfl hz20) kV_X5_look tw_473 ⟨Nat.le_of_ble_eq_true rfl, Nat.le_of_ble_eq_true rfl⟩ rfl rfl rfl rfl rfl hP (rf_DX hD) hS rfl hl.1 (rest := []) rfl (Nat.le_of_ble_eq_true rfl) dX5_takesWhole_20 (fun H locs hP hS => ?_)
    rw [rf_cat (f := I) (l := [(36, reader_next), (39, reader_sort), (40, reader_place), (41, reader_length), (42, reader_whole), (43, reader_whole), (45, z3.2.1), (46, z3.2.2)]) (lc := [(36, z20.1), (39, z20.2.1), (40, z20.2.2.1), (41, z20.2.2.2.1), (42, z20.2.2.2.2.2)]) (l' := [(36, z20.1), (39, z20.2.1), (40, z20.2.2.1), (41, z20.2.2.2.1), (42, z20.2.2.2.2.2), (43, reader_whole), (45, z3.2.1), (46, z3.2.2)]) rfl] at hP
    rw [rf_cat (f := J) (l := [(0, reader_letters)]) (lc := [(0, z20.2.2.2.2.1)]) (l' := [(0, z20.2.2.2.2.1)]) rfl] at hP
    refine lv_iconst (v := 1) hx hb dX5_takesWhole_23 (by decide) ?_
    obtain rfl := Option.some.inj hf
    exact rf_retz hC hP hS (by decide) rfl rfl dX5_takesWhole_24
  have hf := rf_it c_6 hf
  refine lv_iconst (v := 0) hx hb dX5_takesWhole_9 (by decide) ?_
  obtain rfl := Option.some.inj hf
  exact rf_retz hC hP hS (by decide) rfl rfl dX5_takesWhole_10
set_option maxHeartbeats 4000000 in
set_option maxRecDepth 100000 in
theorem w_X5_readErrand_54 {l : Launch} {p : Program} {e : Env} {s : State} {m : MethodId} {args : Array Value} {below : List Frame} {meth : Method} {c : Code} {A0 : Nat → Prop} {E : rf_E} {a P : Nat → Nat} {I : Nat → Int32} {J : Nat → Int64} {A : Nat → Nat → Int32} {B : Nat → Nat → Int64} {td_personCount : Int32} {reader_end : Int32} {x_tape : Nat → Int32} {td_personNames : Nat → Int64} {z : Int32 × Int32 × Int32 × Int32 × Int32 × Int64 × Int32 × Int32 × Int32 × Int32 × Int32 × (Nat → Int32)} (hC : rf_C p E s m args meth c cX5_readErrand 2 RX5 (some .boolean) A0) (hD : va_D A0 (cX E a P I J A B)) (hp3 : P 3 = a 11) (e_td_personCount : I 31 = td_personCount) (e_reader_end : I 35 = reader_end) (e_x_tape : A 0 = x_tape) (e_td_personNames : B 5 = td_personNames) :
    ∀ (reader_next : Int32) (reader_sort : Int32) (reader_place : Int32) (reader_length : Int32) (reader_letters : Int64) (reader_whole : Int32) (reader_number : Int32) (reader_found : Int32) (reader_fault : Int32) (reader_faultPlace : Int32) (td_errands : Nat → Int32), f_X5_readErrand_54 td_personCount reader_end x_tape td_personNames reader_next reader_sort reader_place reader_length reader_letters reader_whole reader_number reader_found reader_fault reader_faultPlace td_errands = some z → ∀ (H : Heap) (locs : List Loc) (ls : Array Slot), va_P (rf_D E) vwCl (cX E a P (rf_upL I [(36, reader_next), (39, reader_sort), (40, reader_place), (41, reader_length), (42, reader_whole), (43, reader_number), (44, reader_found), (45, reader_fault), (46, reader_faultPlace)]) (rf_upL J [(0, reader_letters)]) (rf_upL A [(26, td_errands)]) B) H → va_S A0 s.heap H locs → lv_has ls 2 [] → W p l e ({ frames := 9, cells := 0, slots := 0, locals := 264 }) s m args below meth c H locs 0 0 (rf_QI below args s E A0 z.1 (cX E a P (rf_upL I [(36, z.2.1), (39, z.2.2.1), (40, z.2.2.2.1), (41, z.2.2.2.2.1), (42, z.2.2.2.2.2.2.1), (43, z.2.2.2.2.2.2.2.1), (44, z.2.2.2.2.2.2.2.2.1), (45, z.2.2.2.2.2.2.2.2.2.1), (46, z.2.2.2.2.2.2.2.2.2.2.1)]) (rf_upL J [(0, z.2.2.2.2.2.1)]) (rf_upL A [(26, z.2.2.2.2.2.2.2.2.2.2.2)]) B)) (F0 m 54 ls []) := by
  have hx := hC.1
  have hb := hC.2.1
  intro reader_next reader_sort reader_place reader_length reader_letters reader_whole reader_number reader_found reader_fault reader_faultPlace td_errands hf H locs ls hP hS hl
  unfold f_X5_readErrand_54 at hf
  refine lv_iconst (v := 0) hx hb dX5_readErrand_54 (by decide) ?_
  obtain rfl := Option.some.inj hf
  exact rf_retz hC hP hS (by decide) rfl rfl dX5_readErrand_55
set_option maxHeartbeats 4000000 in
set_option maxRecDepth 100000 in
theorem c_X5_readErrand (l : Launch) (E : rf_E) (a P : Nat → Nat) (I : Nat → Int32) (J : Nat → Int64) (A : Nat → Nat → Int32) (B : Nat → Nat → Int64) (td_personCount : Int32) (reader_end : Int32) (x_tape : Nat → Int32) (td_personNames : Nat → Int64) (reader_next : Int32) (reader_sort : Int32) (reader_place : Int32) (reader_length : Int32) (reader_letters : Int64) (reader_whole : Int32) (reader_number : Int32) (reader_found : Int32) (reader_fault : Int32) (reader_faultPlace : Int32) (td_errands : Nat → Int32) {z : Int32 × Int32 × Int32 × Int32 × Int32 × Int64 × Int32 × Int32 × Int32 × Int32 × Int32 × (Nat → Int32)} (hp3 : P 3 = a 11) (e_td_personCount : I 31 = td_personCount) (e_reader_end : I 35 = reader_end) (e_x_tape : A 0 = x_tape) (e_td_personNames : B 5 = td_personNames) (e_reader_next : I 36 = reader_next) (e_reader_sort : I 39 = reader_sort) (e_reader_place : I 40 = reader_place) (e_reader_length : I 41 = reader_length) (e_reader_letters : J 0 = reader_letters) (e_reader_whole : I 42 = reader_whole) (e_reader_number : I 43 = reader_number) (e_reader_found : I 44 = reader_found) (e_reader_fault : I 45 = reader_fault) (e_reader_faultPlace : I 46 = reader_faultPlace) (e_td_errands : A 26 = td_errands) (hf : f_X5_readErrand td_personCount reader_end x_tape td_personNames reader_next reader_sort reader_place reader_length reader_letters reader_whole reader_number reader_found reader_fault reader_faultPlace td_errands = some z) : rf_MI l yX5_readErrand cX5_readErrand 2 (some .boolean) ({ frames := 9, cells := 0, slots := 0, locals := 264 }) E [.ref (a 12)] (cX E a P I J A B) z.1 (cX E a P (rf_upL I [(36, z.2.1), (39, z.2.2.1), (40, z.2.2.2.1), (41, z.2.2.2.2.1), (42, z.2.2.2.2.2.2.1), (43, z.2.2.2.2.2.2.2.1), (44, z.2.2.2.2.2.2.2.2.1), (45, z.2.2.2.2.2.2.2.2.2.1), (46, z.2.2.2.2.2.2.2.2.2.2.1)]) (rf_upL J [(0, z.2.2.2.2.2.1)]) (rf_upL A [(26, z.2.2.2.2.2.2.2.2.2.2.2)]) B) := by
  unfold f_X5_readErrand at hf
  refine rf_ofI (by decide) (Nat.le_of_ble_eq_true rfl) ?_
  intro p e s m below meth c A0 ls hC hD hP hS hl
  have hC : rf_C p E s m _ meth c cX5_readErrand 2 RX5 (some .boolean) A0 := hC
  have hx := hC.1
  have hb := hC.2.1
  have hl : lv_has ls 2 [(0, .ref (a 12))] := hl
  have hP : va_P (rf_D E) vwCl (cX E a P (rf_upL I [(36, reader_next), (39, reader_sort), (40, reader_place), (41, reader_length), (42, reader_whole), (43, reader_number), (44, reader_found), (45, reader_fault), (46, reader_faultPlace)]) (rf_upL J [(0, reader_letters)]) (rf_upL A [(26, td_errands)]) B) s.heap := by
    rw [rf_self (f := I) [(36, reader_next), (39, reader_sort), (40, reader_place), (41, reader_length), (42, reader_whole), (43, reader_number), (44, reader_found), (45, reader_fault), (46, reader_faultPlace)] (rf_fa1 e_reader_next (rf_fa1 e_reader_sort (rf_fa1 e_reader_place (rf_fa1 e_reader_length (rf_fa1 e_reader_whole (rf_fa1 e_reader_number (rf_fa1 e_reader_found (rf_fa1 e_reader_fault (rf_fa1 e_reader_faultPlace rf_fa0)))))))))]
    rw [rf_self (f := J) [(0, reader_letters)] (rf_fa1 e_reader_letters rf_fa0)]
    rw [rf_self (f := A) [(26, td_errands)] (rf_fa1 e_td_errands rf_fa0)]
    exact hP
  refine lv_aload_n hx hb dX5_readErrand_0 rfl (lv_at hl 0 rfl) ?_
  obtain ⟨z1, hz1, hf⟩ := rf_bd hf
  refine rf_vi (q0 := 12) (ci := 5) hC (c_X5_seesToldPerson l E a P (rf_upL I [(36, reader_next), (39, reader_sort), (40, reader_place), (41, reader_length), (42, reader_whole), (43, reader_number), (44, reader_found), (45, reader_fault), (46, reader_faultPlace)]) (rf_upL J [(0, reader_letters)]) (rf_upL A [(26, td_errands)]) B td_personCount reader_sort reader_place reader_length reader_letters td_personNames reader_found reader_fault reader_faultPlace hp3 e_td_personCount rfl rfl rfl rfl e_td_personNames rfl rfl rfl hz1) kV_X5_seesToldPerson tw_635 ⟨Nat.le_of_ble_eq_true rfl, Nat.le_of_ble_eq_true rfl⟩ rfl rfl rfl rfl rfl hP (rf_DX hD) hS rfl hl.1 (rest := []) rfl (Nat.le_of_ble_eq_true rfl) dX5_readErrand_1 (fun H locs hP hS => ?_)
  rw [rf_cat (f := I) (l := [(36, reader_next), (39, reader_sort), (40, reader_place), (41, reader_length), (42, reader_whole), (43, reader_number), (44, reader_found), (45, reader_fault), (46, reader_faultPlace)]) (lc := [(44, z1.2.1), (45, z1.2.2.1), (46, z1.2.2.2)]) (l' := [(36, reader_next), (39, reader_sort), (40, reader_place), (41, reader_length), (42, reader_whole), (43, reader_number), (44, z1.2.1), (45, z1.2.2.1), (46, z1.2.2.2)]) rfl] at hP
  refine lv_if_ne (tgt := 9) hx hb dX5_readErrand_4 (by decide) (fun c_4 => ?_) (fun c_4 => ?_)
  · have hf := rf_ie c_4 hf
    refine lv_aload_n hx hb dX5_readErrand_9 rfl (lv_at hl 0 rfl) ?_
    refine gX_reader_found hC hP tw_351 (v := z1.2.1) rfl dX5_readErrand_10 ?_
    refine lv_istore_n (lv' := [(1, .int z1.2.1), (0, .ref (a 12))]) hx hb dX5_readErrand_13 rfl hl (by decide) rfl (fun ls hl => ?_)
    refine lv_aload_n hx hb dX5_readErrand_14 rfl (lv_at hl 1 rfl) ?_
    refine gX_reader_tale hC hP tw_338 (v := a 11) hp3 dX5_readErrand_15 ?_
    refine gX_td_errands hC hP tw_102 dX5_readErrand_18 ?_
    refine lv_iload_n hx hb dX5_readErrand_21 rfl (lv_at hl 0 rfl) ?_
    obtain ⟨hi_22, hf⟩ := rf_gu hf
    refine lX_td_errands hC hP hi_22 (f := td_errands) rfl dX5_readErrand_22 ?_
    refine lv_if_le (tgt := 32) hx hb dX5_readErrand_23 (by decide) (fun c_23 => ?_) (fun c_23 => ?_)
    · have hf := rf_it c_23 hf
      refine lv_aload_n hx hb dX5_readErrand_32 rfl (lv_at hl 1 rfl) ?_
      obtain ⟨z33, hz33, hf⟩ := rf_bd hf
      refine rf_vv (q0 := 12) (ci := 5) hC (c_X5_look l E a P (rf_upL I [(36, reader_next), (39, reader_sort), (40, reader_place), (41, reader_length), (42, reader_whole), (43, reader_number), (44, z1.2.1), (45, z1.2.2.1), (46, z1.2.2.2)]) (rf_upL J [(0, reader_letters)]) (rf_upL A [(26, td_errands)]) B reader_end x_tape reader_next reader_sort reader_place reader_length reader_letters reader_whole e_reader_end e_x_tape rfl rfl rfl rfl rfl rfl hz33) kV_X5_look tw_473 ⟨Nat.le_of_ble_eq_true rfl, Nat.le_of_ble_eq_true rfl⟩ rfl rfl rfl rfl rfl hP (rf_DX hD) hS rfl hl.1 (rest := []) rfl (Nat.le_of_ble_eq_true rfl) dX5_readErrand_33 (fun H locs hP hS => ?_)
      rw [rf_cat (f := I) (l := [(36, reader_next), (39, reader_sort), (40, reader_place), (41, reader_length), (42, reader_whole), (43, reader_number), (44, z1.2.1), (45, z1.2.2.1), (46, z1.2.2.2)]) (lc := [(36, z33.1), (39, z33.2.1), (40, z33.2.2.1), (41, z33.2.2.2.1), (42, z33.2.2.2.2.2)]) (l' := [(36, z33.1), (39, z33.2.1), (40, z33.2.2.1), (41, z33.2.2.2.1), (42, z33.2.2.2.2.2), (43, reader_number), (44, z1.2.1), (45, z1.2.2.1), (46, z1.2.2.2)]) rfl] at hP
      rw [rf_cat (f := J) (l := [(0, reader_letters)]) (lc := [(0, z33.2.2.2.2.1)]) (l' := [(0, z33.2.2.2.2.1)]) rfl] at hP
      refine lv_aload_n hx hb dX5_readErrand_36 rfl (lv_at hl 1 rfl) ?_
      refine va_ldcS hx hb hC.2.2.2.1 (lk_20 hC.2.2.2.2.2.2.2.1.2.2.2) dX5_readErrand_37 ?_
      obtain ⟨z39, hz39, hf⟩ := rf_bd hf
      refine rf_vi (q0 := 12) (ci := 5) hC (c_X5_takes l E a P (rf_upL I [(36, z33.1), (39, z33.2.1), (40, z33.2.2.1), (41, z33.2.2.2.1), (42, z33.2.2.2.2.2), (43, reader_number), (44, z1.2.1), (45, z1.2.2.1), (46, z1.2.2.2)]) (rf_upL J [(0, z33.2.2.2.2.1)]) (rf_upL A [(26, td_errands)]) B reader_end x_tape z33.1 z33.2.1 z33.2.2.1 z33.2.2.2.1 z33.2.2.2.2.1 z33.2.2.2.2.2 z1.2.2.1 z1.2.2.2 20 e_reader_end e_x_tape rfl rfl rfl rfl rfl rfl rfl rfl (by decide) hz39) kV_X5_takes tw_570 ⟨Nat.le_of_ble_eq_true rfl, Nat.le_of_ble_eq_true rfl⟩ rfl rfl rfl rfl rfl hP (rf_DX hD) hS rfl hl.1 (rest := []) rfl (Nat.le_of_ble_eq_true rfl) dX5_readErrand_39 (fun H locs hP hS => ?_)
      rw [rf_cat (f := I) (l := [(36, z33.1), (39, z33.2.1), (40, z33.2.2.1), (41, z33.2.2.2.1), (42, z33.2.2.2.2.2), (43, reader_number), (44, z1.2.1), (45, z1.2.2.1), (46, z1.2.2.2)]) (lc := [(36, z39.2.1), (39, z39.2.2.1), (40, z39.2.2.2.1), (41, z39.2.2.2.2.1), (42, z39.2.2.2.2.2.2.1), (45, z39.2.2.2.2.2.2.2.1), (46, z39.2.2.2.2.2.2.2.2)]) (l' := [(36, z39.2.1), (39, z39.2.2.1), (40, z39.2.2.2.1), (41, z39.2.2.2.2.1), (42, z39.2.2.2.2.2.2.1), (43, reader_number), (44, z1.2.1), (45, z39.2.2.2.2.2.2.2.1), (46, z39.2.2.2.2.2.2.2.2)]) rfl] at hP
      rw [rf_cat (f := J) (l := [(0, z33.2.2.2.2.1)]) (lc := [(0, z39.2.2.2.2.2.1)]) (l' := [(0, z39.2.2.2.2.2.1)]) rfl] at hP
      refine lv_if_eq (tgt := 54) hx hb dX5_readErrand_42 (by decide) (fun c_42 => ?_) (fun c_42 => ?_)
      · have hf := rf_it c_42 hf
        exact w_X5_readErrand_54 hC hD hp3 e_td_personCount e_reader_end e_x_tape e_td_personNames z39.2.1 z39.2.2.1 z39.2.2.2.1 z39.2.2.2.2.1 z39.2.2.2.2.2.1 z39.2.2.2.2.2.2.1 reader_number z1.2.1 z39.2.2.2.2.2.2.2.1 z39.2.2.2.2.2.2.2.2 td_errands hf _ _ _ hP hS (lv_sub hl [] rfl)
      have hf := rf_ie c_42 hf
      refine lv_aload_n hx hb dX5_readErrand_45 rfl (lv_at hl 1 rfl) ?_
      refine lv_iconst (v := 1) hx hb dX5_readErrand_46 (by decide) ?_
      refine lv_iconst (v := 4) hx hb dX5_readErrand_47 (by decide) ?_
      obtain ⟨z48, hz48, hf⟩ := rf_bd hf
      refine rf_vi (q0 := 12) (ci := 5) hC (c_X5_takesWhole l E a P (rf_upL I [(36, z39.2.1), (39, z39.2.2.1), (40, z39.2.2.2.1), (41, z39.2.2.2.2.1), (42, z39.2.2.2.2.2.2.1), (43, reader_number), (44, z1.2.1), (45, z39.2.2.2.2.2.2.2.1), (46, z39.2.2.2.2.2.2.2.2)]) (rf_upL J [(0, z39.2.2.2.2.2.1)]) (rf_upL A [(26, td_errands)]) B reader_end x_tape z39.2.1 z39.2.2.1 z39.2.2.2.1 z39.2.2.2.2.1 z39.2.2.2.2.2.1 z39.2.2.2.2.2.2.1 reader_number z39.2.2.2.2.2.2.2.1 z39.2.2.2.2.2.2.2.2 1 4 e_reader_end e_x_tape rfl rfl rfl rfl rfl rfl rfl rfl rfl hz48) kV_X5_takesWhole tw_574 ⟨Nat.le_of_ble_eq_true rfl, Nat.le_of_ble_eq_true rfl⟩ rfl rfl rfl rfl rfl hP (rf_DX hD) hS rfl hl.1 (rest := []) rfl (Nat.le_of_ble_eq_true rfl) dX5_readErrand_48 (fun H locs hP hS => ?_)
      rw [rf_cat (f := I) (l := [(36, z39.2.1), (39, z39.2.2.1), (40, z39.2.2.2.1), (41, z39.2.2.2.2.1), (42, z39.2.2.2.2.2.2.1), (43, reader_number), (44, z1.2.1), (45, z39.2.2.2.2.2.2.2.1), (46, z39.2.2.2.2.2.2.2.2)]) (lc := [(36, z48.2.1), (39, z48.2.2.1), (40, z48.2.2.2.1), (41, z48.2.2.2.2.1), (42, z48.2.2.2.2.2.2.1), (43, z48.2.2.2.2.2.2.2.1), (45, z48.2.2.2.2.2.2.2.2.1), (46, z48.2.2.2.2.2.2.2.2.2)]) (l' := [(36, z48.2.1), (39, z48.2.2.1), (40, z48.2.2.2.1), (41, z48.2.2.2.2.1), (42, z48.2.2.2.2.2.2.1), (43, z48.2.2.2.2.2.2.2.1), (44, z1.2.1), (45, z48.2.2.2.2.2.2.2.2.1), (46, z48.2.2.2.2.2.2.2.2.2)]) rfl] at hP
      rw [rf_cat (f := J) (l := [(0, z39.2.2.2.2.2.1)]) (lc := [(0, z48.2.2.2.2.2.1)]) (l' := [(0, z48.2.2.2.2.2.1)]) rfl] at hP
      refine lv_if_ne (tgt := 56) hx hb dX5_readErrand_51 (by decide) (fun c_51 => ?_) (fun c_51 => ?_)
      · have hf := rf_ie c_51 hf
        refine lv_aload_n hx hb dX5_readErrand_56 rfl (lv_at hl 1 rfl) ?_
        refine gX_reader_tale hC hP tw_338 (v := a 11) hp3 dX5_readErrand_57 ?_
        refine gX_td_errands hC hP tw_102 dX5_readErrand_60 ?_
        refine lv_iload_n hx hb dX5_readErrand_63 rfl (lv_at hl 0 rfl) ?_
        refine lv_aload_n hx hb dX5_readErrand_64 rfl (lv_at hl 1 rfl) ?_
        refine gX_reader_number hC hP tw_350 (v := z48.2.2.2.2.2.2.2.1) rfl dX5_readErrand_65 ?_
        obtain ⟨hi_68, hf⟩ := rf_gu hf
        refine sX_td_errands hC hD hP hS hi_68 (f := td_errands) rfl dX5_readErrand_68 (rf_upL A [(26, upd td_errands (Int32.toNatClampNeg z1.2.1) z48.2.2.2.2.2.2.2.1)]) (rf_put rfl) (fun H locs hP hS => ?_)
        refine lv_iconst (v := 1) hx hb dX5_readErrand_69 (by decide) ?_
        obtain rfl := Option.some.inj hf
        exact rf_retz hC hP hS (by decide) rfl rfl dX5_readErrand_70
      have hf := rf_it c_51 hf
      exact w_X5_readErrand_54 hC hD hp3 e_td_personCount e_reader_end e_x_tape e_td_personNames z48.2.1 z48.2.2.1 z48.2.2.2.1 z48.2.2.2.2.1 z48.2.2.2.2.2.1 z48.2.2.2.2.2.2.1 z48.2.2.2.2.2.2.2.1 z1.2.1 z48.2.2.2.2.2.2.2.2.1 z48.2.2.2.2.2.2.2.2.2 td_errands hf _ _ _ hP hS (lv_sub hl [] rfl)
    have hf := rf_ie c_23 hf
    refine lv_aload_n hx hb dX5_readErrand_26 rfl (lv_at hl 1 rfl) ?_
    refine lv_iconst (v := 3) hx hb dX5_readErrand_27 (by decide) ?_
    obtain ⟨z28, hz28, hf⟩ := rf_bd hf
    refine rf_vi (q0 := 12) (ci := 5) hC (c_X5_fail l E a P (rf_upL I [(36, reader_next), (39, reader_sort), (40, reader_place), (41, reader_length), (42, reader_whole), (43, reader_number), (44, z1.2.1), (45, z1.2.2.1), (46, z1.2.2.2)]) (rf_upL J [(0, reader_letters)]) (rf_upL A [(26, td_errands)]) B reader_place z1.2.2.1 z1.2.2.2 3 rfl rfl rfl hz28) kV_X5_fail tw_553 ⟨Nat.le_of_ble_eq_true rfl, Nat.le_of_ble_eq_true rfl⟩ rfl rfl rfl rfl rfl hP (rf_DX hD) hS rfl hl.1 (rest := []) rfl (Nat.le_of_ble_eq_true rfl) dX5_readErrand_28 (fun H locs hP hS => ?_)
    rw [rf_cat (f := I) (l := [(36, reader_next), (39, reader_sort), (40, reader_place), (41, reader_length), (42, reader_whole), (43, reader_number), (44, z1.2.1), (45, z1.2.2.1), (46, z1.2.2.2)]) (lc := [(45, z28.2.1), (46, z28.2.2)]) (l' := [(36, reader_next), (39, reader_sort), (40, reader_place), (41, reader_length), (42, reader_whole), (43, reader_number), (44, z1.2.1), (45, z28.2.1), (46, z28.2.2)]) rfl] at hP
    obtain ⟨hz_31, hf⟩ := rf_gu hf
    obtain rfl := Option.some.inj hf
    exact rf_retz hC hP hS hz_31 rfl rfl dX5_readErrand_31
  have hf := rf_it c_4 hf
  refine lv_iconst (v := 0) hx hb dX5_readErrand_7 (by decide) ?_
  obtain rfl := Option.some.inj hf
  exact rf_retz hC hP hS (by decide) rfl rfl dX5_readErrand_8
