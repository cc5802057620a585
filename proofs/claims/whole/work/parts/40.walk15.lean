set_option maxHeartbeats 4000000 in
set_option maxRecDepth 100000 in
theorem c_X10_day (l : Launch) (E : rf_E) (a P : Nat → Nat) (I : Nat → Int32) (J : Nat → Int64) (A : Nat → Nat → Int32) (B : Nat → Nat → Int64) (now_hour : Int32) (now_everybody : Int32) (now_far : Int32) (tc_ear : Int32) (tc_pairs : Int32) (tc_wordCount : Int32) (tc_personCount : Int32) (now_words : Nat → Int32) (tc_kinds : Nat → Int32) (tc_hourEars : Nat → Int32) (tc_close : Nat → Int32) (x_lastTrouble : Int32) (rhymes_links : Nat → Int32) (pairing_partners : Nat → Int32) (pairing_best : Nat → Int32) (days_crossings : Nat → Int32) (v1 : Int32) (v2 : Int32) {z : Int32 × Int32 × (Nat → Int32) × (Nat → Int32) × (Nat → Int32) × (Nat → Int32)} (hp0 : P 0 = a 10) (hp2 : P 2 = a 10) (e_now_hour : I 4 = now_hour) (e_now_everybody : I 6 = now_everybody) (e_now_far : I 7 = now_far) (e_tc_ear : I 21 = tc_ear) (e_tc_pairs : I 22 = tc_pairs) (e_tc_wordCount : I 23 = tc_wordCount) (e_tc_personCount : I 24 = tc_personCount) (e_now_words : A 1 = now_words) (e_tc_kinds : A 14 = tc_kinds) (e_tc_hourEars : A 18 = tc_hourEars) (e_tc_close : A 22 = tc_close) (e_x_lastTrouble : I 3 = x_lastTrouble) (e_rhymes_links : A 3 = rhymes_links) (e_pairing_partners : A 4 = pairing_partners) (e_pairing_best : A 5 = pairing_best) (e_days_crossings : A 10 = days_crossings) (hf : f_X10_day now_hour now_everybody now_far tc_ear tc_pairs tc_wordCount tc_personCount now_words tc_kinds tc_hourEars tc_close x_lastTrouble rhymes_links pairing_partners pairing_best days_crossings v1 v2 = some z) : rf_MI l yX10_day cX10_day 3 (some .int) ({ frames := 8, cells := 0, slots := 0, locals := 252 }) E [.ref (a 0), .int v1, .int v2] (cX E a P I J A B) z.1 (cX E a P (rf_upL I [(3, z.2.1)]) J (rf_upL A [(3, z.2.2.1), (4, z.2.2.2.1), (5, z.2.2.2.2.1), (10, z.2.2.2.2.2)]) B) := by
  unfold f_X10_day at hf
  refine rf_ofI (by decide) (Nat.le_of_ble_eq_true rfl) ?_
  intro p e s m below meth c A0 ls hC hD hP hS hl
  have hC : rf_C p E s m _ meth c cX10_day 3 RX10 (some .int) A0 := hC
  have hx := hC.1
  have hb := hC.2.1
  have hl : lv_has ls 3 [(0, .ref (a 0)), (1, .int v1), (2, .int v2)] := hl
  have hP : va_P (rf_D E) vwCl (cX E a P (rf_upL I [(3, x_lastTrouble)]) J (rf_upL A [(3, rhymes_links), (4, pairing_partners), (5, pairing_best), (10, days_crossings)]) B) s.heap := by
    rw [rf_self (f := I) [(3, x_lastTrouble)] (rf_fa1 e_x_lastTrouble rf_fa0)]
    rw [rf_self (f := A) [(3, rhymes_links), (4, pairing_partners), (5, pairing_best), (10, days_crossings)] (rf_fa1 e_rhymes_links (rf_fa1 e_pairing_partners (rf_fa1 e_pairing_best (rf_fa1 e_days_crossings rf_fa0))))]
    exact hP
  refine lv_aload_n hx hb dX10_day_0 rfl (lv_at hl 0 rfl) ?_
  refine lv_aload_n hx hb dX10_day_1 rfl (lv_at hl 0 rfl) ?_
  obtain ⟨z2, hz2, hf⟩ := rf_bd hf
  refine rf_vi (q0 := 0) (ci := 10) hC (c_X10_hasFerry l E a P (rf_upL I [(3, x_lastTrouble)]) J (rf_upL A [(3, rhymes_links), (4, pairing_partners), (5, pairing_best), (10, days_crossings)]) B tc_personCount hp0 e_tc_personCount hz2) kV_X10_hasFerry tw_762 ⟨Nat.le_of_ble_eq_true rfl, Nat.le_of_ble_eq_true rfl⟩ rfl rfl rfl rfl rfl hP (rf_DX hD) hS rfl hl.1 (rest := [.ref (a 0)]) rfl (Nat.le_of_ble_eq_true rfl) dX10_day_2 (fun H locs hP hS => ?_)
  refine lv_aload_n hx hb dX10_day_5 rfl (lv_at hl 0 rfl) ?_
  refine lv_iload_n hx hb dX10_day_6 rfl (lv_at hl 1 rfl) ?_
  refine lv_iload_n hx hb dX10_day_7 rfl (lv_at hl 2 rfl) ?_
  obtain ⟨z8, hz8, hf⟩ := rf_bd hf
  refine rf_vi (q0 := 0) (ci := 10) hC (c_X10_isDay l E a P (rf_upL I [(3, x_lastTrouble)]) J (rf_upL A [(3, rhymes_links), (4, pairing_partners), (5, pairing_best), (10, days_crossings)]) B v1 v2 hz8) kV_X10_isDay tw_1119 ⟨Nat.le_of_ble_eq_true rfl, Nat.le_of_ble_eq_true rfl⟩ rfl rfl rfl rfl rfl hP (rf_DX hD) hS rfl hl.1 (rest := [.int z2, .ref (a 0)]) rfl (Nat.le_of_ble_eq_true rfl) dX10_day_8 (fun H locs hP hS => ?_)
  obtain ⟨z11, hz11, hf⟩ := rf_bd hf
  refine rf_vi (q0 := 0) (ci := 10) hC (c_X10_refused l E a P (rf_upL I [(3, x_lastTrouble)]) J (rf_upL A [(3, rhymes_links), (4, pairing_partners), (5, pairing_best), (10, days_crossings)]) B x_lastTrouble z2 z8 rfl hz11) kV_X10_refused tw_455 ⟨Nat.le_of_ble_eq_true rfl, Nat.le_of_ble_eq_true rfl⟩ rfl rfl rfl rfl rfl hP (rf_DX hD) hS rfl hl.1 (rest := []) rfl (Nat.le_of_ble_eq_true rfl) dX10_day_11 (fun H locs hP hS => ?_)
  rw [rf_cat (f := I) (l := [(3, x_lastTrouble)]) (lc := [(3, z11.2)]) (l' := [(3, z11.2)]) rfl] at hP
  refine lv_if_eq (tgt := 19) hx hb dX10_day_14 (by decide) (fun c_14 => ?_) (fun c_14 => ?_)
  · have hf := rf_it c_14 hf
    refine lv_aload_n hx hb dX10_day_19 rfl (lv_at hl 0 rfl) ?_
    refine gX_x_days hC hP tw_398 dX10_day_20 ?_
    refine lv_iload_n hx hb dX10_day_23 rfl (lv_at hl 1 rfl) ?_
    refine lv_iload_n hx hb dX10_day_24 rfl (lv_at hl 2 rfl) ?_
    obtain ⟨z25, hz25, hf⟩ := rf_bd hf
    refine rf_vi (q0 := 7) (ci := 0) hC (c_X0_pass l E a P (rf_upL I [(3, z11.2)]) J (rf_upL A [(3, rhymes_links), (4, pairing_partners), (5, pairing_best), (10, days_crossings)]) B now_hour now_everybody now_far tc_ear tc_pairs tc_wordCount tc_personCount now_words tc_kinds tc_hourEars tc_close rhymes_links pairing_partners pairing_best days_crossings v1 v2 hp2 e_now_hour e_now_everybody e_now_far e_tc_ear e_tc_pairs e_tc_wordCount e_tc_personCount e_now_words e_tc_kinds e_tc_hourEars e_tc_close rfl rfl rfl rfl hz25) kV_X0_pass tw_1124 ⟨Nat.le_of_ble_eq_true rfl, Nat.le_of_ble_eq_true rfl⟩ rfl rfl rfl rfl rfl hP (rf_DX hD) hS rfl hl.1 (rest := []) rfl (Nat.le_of_ble_eq_true rfl) dX10_day_25 (fun H locs hP hS => ?_)
    rw [rf_cat (f := A) (l := [(3, rhymes_links), (4, pairing_partners), (5, pairing_best), (10, days_crossings)]) (lc := [(3, z25.2.1), (4, z25.2.2.1), (5, z25.2.2.2.1), (10, z25.2.2.2.2)]) (l' := [(3, z25.2.1), (4, z25.2.2.1), (5, z25.2.2.2.1), (10, z25.2.2.2.2)]) rfl] at hP
    obtain rfl := Option.some.inj hf
    exact rf_reti hC hP hS rfl rfl dX10_day_28
  have hf := rf_ie c_14 hf
  refine lv_iconst (v := (-1)) hx hb dX10_day_17 (by decide) ?_
  obtain rfl := Option.some.inj hf
  exact rf_reti hC hP hS rfl rfl dX10_day_18
set_option maxHeartbeats 4000000 in
set_option maxRecDepth 100000 in
theorem c_X10_crossedIn (l : Launch) (E : rf_E) (a P : Nat → Nat) (I : Nat → Int32) (J : Nat → Int64) (A : Nat → Nat → Int32) (B : Nat → Nat → Int64) (now_hour : Int32) (now_everybody : Int32) (now_far : Int32) (tc_ear : Int32) (tc_pairs : Int32) (tc_wordCount : Int32) (tc_personCount : Int32) (now_words : Nat → Int32) (tc_kinds : Nat → Int32) (tc_hourEars : Nat → Int32) (tc_close : Nat → Int32) (x_lastTrouble : Int32) (rhymes_links : Nat → Int32) (pairing_partners : Nat → Int32) (pairing_best : Nat → Int32) (days_crossings : Nat → Int32) (v1 : Int32) (v2 : Int32) (v3 : Int32) {z : Int32 × Int32 × (Nat → Int32) × (Nat → Int32) × (Nat → Int32) × (Nat → Int32)} (hp0 : P 0 = a 10) (hp2 : P 2 = a 10) (e_now_hour : I 4 = now_hour) (e_now_everybody : I 6 = now_everybody) (e_now_far : I 7 = now_far) (e_tc_ear : I 21 = tc_ear) (e_tc_pairs : I 22 = tc_pairs) (e_tc_wordCount : I 23 = tc_wordCount) (e_tc_personCount : I 24 = tc_personCount) (e_now_words : A 1 = now_words) (e_tc_kinds : A 14 = tc_kinds) (e_tc_hourEars : A 18 = tc_hourEars) (e_tc_close : A 22 = tc_close) (e_x_lastTrouble : I 3 = x_lastTrouble) (e_rhymes_links : A 3 = rhymes_links) (e_pairing_partners : A 4 = pairing_partners) (e_pairing_best : A 5 = pairing_best) (e_days_crossings : A 10 = days_crossings) (hf : f_X10_crossedIn now_hour now_everybody now_far tc_ear tc_pairs tc_wordCount tc_personCount now_words tc_kinds tc_hourEars tc_close x_lastTrouble rhymes_links pairing_partners pairing_best days_crossings v1 v2 v3 = some z) : rf_MI l yX10_crossedIn cX10_crossedIn 4 (some .int) ({ frames := 8, cells := 0, slots := 0, locals := 252 }) E [.ref (a 0), .int v1, .int v2, .int v3] (cX E a P I J A B) z.1 (cX E a P (rf_upL I [(3, z.2.1)]) J (rf_upL A [(3, z.2.2.1), (4, z.2.2.2.1), (5, z.2.2.2.2.1), (10, z.2.2.2.2.2)]) B) := by
  unfold f_X10_crossedIn at hf
  refine rf_ofI (by decide) (Nat.le_of_ble_eq_true rfl) ?_
  intro p e s m below meth c A0 ls hC hD hP hS hl
  have hC : rf_C p E s m _ meth c cX10_crossedIn 4 RX10 (some .int) A0 := hC
  have hx := hC.1
  have hb := hC.2.1
  have hl : lv_has ls 4 [(0, .ref (a 0)), (1, .int v1), (2, .int v2), (3, .int v3)] := hl
  have hP : va_P (rf_D E) vwCl (cX E a P (rf_upL I [(3, x_lastTrouble)]) J (rf_upL A [(3, rhymes_links), (4, pairing_partners), (5, pairing_best), (10, days_crossings)]) B) s.heap := by
    rw [rf_self (f := I) [(3, x_lastTrouble)] (rf_fa1 e_x_lastTrouble rf_fa0)]
    rw [rf_self (f := A) [(3, rhymes_links), (4, pairing_partners), (5, pairing_best), (10, days_crossings)] (rf_fa1 e_rhymes_links (rf_fa1 e_pairing_partners (rf_fa1 e_pairing_best (rf_fa1 e_days_crossings rf_fa0))))]
    exact hP
  refine lv_aload_n hx hb dX10_crossedIn_0 rfl (lv_at hl 0 rfl) ?_
  refine lv_aload_n hx hb dX10_crossedIn_1 rfl (lv_at hl 0 rfl) ?_
  refine lv_iload_n hx hb dX10_crossedIn_2 rfl (lv_at hl 1 rfl) ?_
  obtain ⟨z3, hz3, hf⟩ := rf_bd hf
  refine rf_vi (q0 := 0) (ci := 10) hC (c_X10_isPerson l E a P (rf_upL I [(3, x_lastTrouble)]) J (rf_upL A [(3, rhymes_links), (4, pairing_partners), (5, pairing_best), (10, days_crossings)]) B tc_personCount v1 hp0 e_tc_personCount hz3) kV_X10_isPerson tw_750 ⟨Nat.le_of_ble_eq_true rfl, Nat.le_of_ble_eq_true rfl⟩ rfl rfl rfl rfl rfl hP (rf_DX hD) hS rfl hl.1 (rest := [.ref (a 0)]) rfl (Nat.le_of_ble_eq_true rfl) dX10_crossedIn_3 (fun H locs hP hS => ?_)
  refine lv_aload_n hx hb dX10_crossedIn_6 rfl (lv_at hl 0 rfl) ?_
  refine lv_iload_n hx hb dX10_crossedIn_7 rfl (lv_at hl 2 rfl) ?_
  refine lv_iload_n hx hb dX10_crossedIn_8 rfl (lv_at hl 3 rfl) ?_
  obtain ⟨z9, hz9, hf⟩ := rf_bd hf
  refine rf_vi (q0 := 0) (ci := 10) hC (c_X10_isDay l E a P (rf_upL I [(3, x_lastTrouble)]) J (rf_upL A [(3, rhymes_links), (4, pairing_partners), (5, pairing_best), (10, days_crossings)]) B v2 v3 hz9) kV_X10_isDay tw_1119 ⟨Nat.le_of_ble_eq_true rfl, Nat.le_of_ble_eq_true rfl⟩ rfl rfl rfl rfl rfl hP (rf_DX hD) hS rfl hl.1 (rest := [.int z3, .ref (a 0)]) rfl (Nat.le_of_ble_eq_true rfl) dX10_crossedIn_9 (fun H locs hP hS => ?_)
  obtain ⟨z12, hz12, hf⟩ := rf_bd hf
  refine rf_vi (q0 := 0) (ci := 10) hC (c_X10_refused l E a P (rf_upL I [(3, x_lastTrouble)]) J (rf_upL A [(3, rhymes_links), (4, pairing_partners), (5, pairing_best), (10, days_crossings)]) B x_lastTrouble z3 z9 rfl hz12) kV_X10_refused tw_455 ⟨Nat.le_of_ble_eq_true rfl, Nat.le_of_ble_eq_true rfl⟩ rfl rfl rfl rfl rfl hP (rf_DX hD) hS rfl hl.1 (rest := []) rfl (Nat.le_of_ble_eq_true rfl) dX10_crossedIn_12 (fun H locs hP hS => ?_)
  rw [rf_cat (f := I) (l := [(3, x_lastTrouble)]) (lc := [(3, z12.2)]) (l' := [(3, z12.2)]) rfl] at hP
  refine lv_if_eq (tgt := 20) hx hb dX10_crossedIn_15 (by decide) (fun c_15 => ?_) (fun c_15 => ?_)
  · have hf := rf_it c_15 hf
    refine lv_aload_n hx hb dX10_crossedIn_20 rfl (lv_at hl 0 rfl) ?_
    refine gX_x_days hC hP tw_398 dX10_crossedIn_21 ?_
    refine lv_iload_n hx hb dX10_crossedIn_24 rfl (lv_at hl 2 rfl) ?_
    refine lv_iload_n hx hb dX10_crossedIn_25 rfl (lv_at hl 3 rfl) ?_
    obtain ⟨z26, hz26, hf⟩ := rf_bd hf
    refine rf_vi (q0 := 7) (ci := 0) hC (c_X0_pass l E a P (rf_upL I [(3, z12.2)]) J (rf_upL A [(3, rhymes_links), (4, pairing_partners), (5, pairing_best), (10, days_crossings)]) B now_hour now_everybody now_far tc_ear tc_pairs tc_wordCount tc_personCount now_words tc_kinds tc_hourEars tc_close rhymes_links pairing_partners pairing_best days_crossings v2 v3 hp2 e_now_hour e_now_everybody e_now_far e_tc_ear e_tc_pairs e_tc_wordCount e_tc_personCount e_now_words e_tc_kinds e_tc_hourEars e_tc_close rfl rfl rfl rfl hz26) kV_X0_pass tw_1124 ⟨Nat.le_of_ble_eq_true rfl, Nat.le_of_ble_eq_true rfl⟩ rfl rfl rfl rfl rfl hP (rf_DX hD) hS rfl hl.1 (rest := []) rfl (Nat.le_of_ble_eq_true rfl) dX10_crossedIn_26 (fun H locs hP hS => ?_)
    rw [rf_cat (f := A) (l := [(3, rhymes_links), (4, pairing_partners), (5, pairing_best), (10, days_crossings)]) (lc := [(3, z26.2.1), (4, z26.2.2.1), (5, z26.2.2.2.1), (10, z26.2.2.2.2)]) (l' := [(3, z26.2.1), (4, z26.2.2.1), (5, z26.2.2.2.1), (10, z26.2.2.2.2)]) rfl] at hP
    refine lv_pop hx hb dX10_crossedIn_29 rfl ?_
    refine lv_aload_n hx hb dX10_crossedIn_30 rfl (lv_at hl 0 rfl) ?_
    refine gX_x_days hC hP tw_398 dX10_crossedIn_31 ?_
    refine gX_days_crossings hC hP tw_298 dX10_crossedIn_34 ?_
    refine lv_iload_n hx hb dX10_crossedIn_37 rfl (lv_at hl 1 rfl) ?_
    obtain ⟨hi_38, hf⟩ := rf_gu hf
    refine lX_days_crossings hC hP hi_38 (f := z26.2.2.2.2) rfl dX10_crossedIn_38 ?_
    obtain rfl := Option.some.inj hf
    exact rf_reti hC hP hS rfl rfl dX10_crossedIn_39
  have hf := rf_ie c_15 hf
  refine lv_iconst (v := (-1)) hx hb dX10_crossedIn_18 (by decide) ?_
  obtain rfl := Option.some.inj hf
  exact rf_reti hC hP hS rfl rfl dX10_crossedIn_19
set_option maxHeartbeats 4000000 in
set_option maxRecDepth 100000 in
theorem c_X2_carryOver (l : Launch) (E : rf_E) (a P : Nat → Nat) (I : Nat → Int32) (J : Nat → Int64) (A : Nat → Nat → Int32) (B : Nat → Nat → Int64) (now_far : Int32) (v1 : Int32) {z : Int32} (e_now_far : I 7 = now_far) (hf : f_X2_carryOver now_far v1 = some z) : rf_MV l yX2_carryOver cX2_carryOver 2 ({ frames := 0, cells := 0, slots := 0, locals := 0 }) E [.ref (a 1), .int v1] (cX E a P I J A B) (cX E a P (rf_upL I [(7, z)]) J A B) := by
  unfold f_X2_carryOver at hf
  refine rf_ofV (by decide) (Nat.le_of_ble_eq_true rfl) ?_
  intro p e s m below meth c A0 ls hC hD hP hS hl
  have hC : rf_C p E s m _ meth c cX2_carryOver 2 RX2 (none) A0 := hC
  have hx := hC.1
  have hb := hC.2.1
  have hl : lv_has ls 2 [(0, .ref (a 1)), (1, .int v1)] := hl
  have hP : va_P (rf_D E) vwCl (cX E a P (rf_upL I [(7, now_far)]) J A B) s.heap := by
    rw [rf_self (f := I) [(7, now_far)] (rf_fa1 e_now_far rf_fa0)]
    exact hP
  refine lv_aload_n hx hb dX2_carryOver_0 rfl (lv_at hl 0 rfl) ?_
  refine lv_dup hx hb dX2_carryOver_1 rfl ?_
  refine gX_now_far hC hP tw_47 (v := now_far) rfl dX2_carryOver_2 ?_
  refine lv_iconst (v := 1) hx hb dX2_carryOver_5 (by decide) ?_
  refine lv_iload_n hx hb dX2_carryOver_6 rfl (lv_at hl 1 rfl) ?_
  refine lv_ishl hx hb dX2_carryOver_7 ?_
  refine lv_ixor hx hb dX2_carryOver_8 ?_
  refine pX_now_far hC hD hP hS tw_47 dX2_carryOver_9 (rf_upL I [(7, now_far ^^^ ((1 : Int32) <<< (v1 &&& 31)))]) (rf_put rfl) (fun H locs hP hS => ?_)
  obtain rfl := Option.some.inj hf
  exact rf_retv hC hP hS rfl dX2_carryOver_12
set_option maxHeartbeats 4000000 in
set_option maxRecDepth 100000 in
theorem c_X8_placeOf_acts (l : Launch) (E : rf_E) (a P : Nat → Nat) (I : Nat → Int32) (J : Nat → Int64) (A : Nat → Nat → Int32) (B : Nat → Nat → Int64) (h_room : Int32) (h_first : Int32) (v1 : Int32) {z : Int32} (e_h_room : I 15 = h_room) (e_h_first : I 16 = h_first) (hf : f_X8_placeOf_acts h_room h_first v1 = some z) : rf_MI l yX8_placeOf cX8_placeOf 2 (some .int) ({ frames := 0, cells := 0, slots := 0, locals := 0 }) E [.ref (a 8), .int v1] (cX E a P I J A B) z (cX E a P I J A B) := by
  unfold f_X8_placeOf_acts at hf
  refine rf_ofI (by decide) (Nat.le_of_ble_eq_true rfl) ?_
  intro p e s m below meth c A0 ls hC hD hP hS hl
  have hC : rf_C p E s m _ meth c cX8_placeOf 2 RX8 (some .int) A0 := hC
  have hx := hC.1
  have hb := hC.2.1
  have hl : lv_has ls 2 [(0, .ref (a 8)), (1, .int v1)] := hl
  refine lv_aload_n hx hb dX8_placeOf_0 rfl (lv_at hl 0 rfl) ?_
  refine gX_acts_first hC hP tw_317 (v := h_first) e_h_first dX8_placeOf_1 ?_
  refine lv_iload_n hx hb dX8_placeOf_4 rfl (lv_at hl 1 rfl) ?_
  refine lv_iadd hx hb dX8_placeOf_5 ?_
  refine lv_aload_n hx hb dX8_placeOf_6 rfl (lv_at hl 0 rfl) ?_
  refine gX_acts_room hC hP tw_315 (v := h_room) e_h_room dX8_placeOf_7 ?_
  obtain ⟨hn_10, hf⟩ := rf_gn hf
  refine lv_irem hx hb dX8_placeOf_10 hn_10 ?_
  refine lv_bipush (v := 19) hx hb dX8_placeOf_11 (by decide) ?_
  refine lv_imul hx hb dX8_placeOf_13 ?_
  obtain rfl := Option.some.inj hf
  exact rf_reti hC hP hS rfl rfl dX8_placeOf_14
set_option maxHeartbeats 4000000 in
set_option maxRecDepth 100000 in
theorem w_X8_push_acts_36 {l : Launch} {p : Program} {e : Env} {s : State} {m : MethodId} {args : Array Value} {below : List Frame} {meth : Method} {c : Code} {A0 : Nat → Prop} {E : rf_E} {a P : Nat → Nat} {I : Nat → Int32} {J : Nat → Int64} {A : Nat → Nat → Int32} {B : Nat → Nat → Int64} {now_hour : Int32} {now_paid : Int32} {now_far : Int32} {h_room : Int32} {now_words : Nat → Int32} {now_wet : Nat → Int32} {z : Int32 × Int32 × (Nat → Int32)} (hC : rf_C p E s m args meth c cX8_push 3 RX8 (none) A0) (hD : va_D A0 (cX E a P I J A B)) (e_now_hour : I 4 = now_hour) (e_now_paid : I 5 = now_paid) (e_now_far : I 7 = now_far) (e_h_room : I 15 = h_room) (e_now_words : A 1 = now_words) (e_now_wet : A 2 = now_wet) :
    ∀ (h_first : Int32) (h_count : Int32) (h_cells : Nat → Int32), f_X8_push_acts_36 now_hour now_paid now_far h_room now_words now_wet h_first h_count h_cells = some z → ∀ (H : Heap) (locs : List Loc) (ls : Array Slot), va_P (rf_D E) vwCl (cX E a P (rf_upL I [(16, h_first), (17, h_count)]) J (rf_upL A [(11, h_cells)]) B) H → va_S A0 s.heap H locs → lv_has ls 3 [(0, .ref (a 8)), (1, .ref (a 1))] → W p l e ({ frames := 6, cells := 0, slots := 0, locals := 200 }) s m args below meth c H locs 0 0 (rf_QV below args s E A0 (cX E a P (rf_upL I [(16, z.1), (17, z.2.1)]) J (rf_upL A [(11, z.2.2)]) B)) (F0 m 36 ls []) := by
  have hx := hC.1
  have hb := hC.2.1
  intro h_first h_count h_cells hf H locs ls hP hS hl
  unfold f_X8_push_acts_36 at hf
  refine lv_aload_n hx hb dX8_push_36 rfl (lv_at hl 0 rfl) ?_
  refine lv_aload_n hx hb dX8_push_37 rfl (lv_at hl 0 rfl) ?_
  refine gX_acts_count hC hP tw_318 (v := h_count) rfl dX8_push_38 ?_
  obtain ⟨z41, hz41, hf⟩ := rf_bd hf
  refine rf_vi (q0 := 8) (ci := 8) hC (c_X8_placeOf_acts l E a P (rf_upL I [(16, h_first), (17, h_count)]) J (rf_upL A [(11, h_cells)]) B h_room h_first h_count e_h_room rfl hz41) kV_X8_placeOf tw_1152 ⟨Nat.le_of_ble_eq_true rfl, Nat.le_of_ble_eq_true rfl⟩ rfl rfl rfl rfl rfl hP (rf_DX hD) hS rfl hl.1 (rest := []) rfl (Nat.le_of_ble_eq_true rfl) dX8_push_41 (fun H locs hP hS => ?_)
  refine lv_istore_n (lv' := [(2, .int z41), (0, .ref (a 8)), (1, .ref (a 1))]) hx hb dX8_push_44 rfl hl (by decide) rfl (fun ls hl => ?_)
  refine lv_aload_n hx hb dX8_push_45 rfl (lv_at hl 1 rfl) ?_
  refine gX_acts_cells hC hP tw_316 dX8_push_46 ?_
  refine lv_iload_n hx hb dX8_push_49 rfl (lv_at hl 0 rfl) ?_
  refine lv_aload_n hx hb dX8_push_50 rfl (lv_at hl 2 rfl) ?_
  refine gX_now_hour hC hP tw_41 (v := now_hour) e_now_hour dX8_push_51 ?_
  obtain ⟨hi_54, hf⟩ := rf_gu hf
  refine sX_acts_cells hC hD hP hS hi_54 (f := h_cells) rfl dX8_push_54 (rf_upL A [(11, upd h_cells (Int32.toNatClampNeg z41) now_hour)]) (rf_put rfl) (fun H locs hP hS => ?_)
  refine lv_aload_n hx hb dX8_push_55 rfl (lv_at hl 1 rfl) ?_
  refine gX_acts_cells hC hP tw_316 dX8_push_56 ?_
  refine lv_iload_n hx hb dX8_push_59 rfl (lv_at hl 0 rfl) ?_
  refine lv_iconst (v := 1) hx hb dX8_push_60 (by decide) ?_
  refine lv_iadd hx hb dX8_push_61 ?_
  refine lv_aload_n hx hb dX8_push_62 rfl (lv_at hl 2 rfl) ?_
  refine gX_now_paid hC hP tw_44 (v := now_paid) e_now_paid dX8_push_63 ?_
  obtain ⟨hi_66, hf⟩ := rf_gu hf
  refine sX_acts_cells hC hD hP hS hi_66 (f := upd h_cells (Int32.toNatClampNeg z41) now_hour) rfl dX8_push_66 (rf_upL A [(11, upd (upd h_cells (Int32.toNatClampNeg z41) now_hour) (Int32.toNatClampNeg (z41 + 1)) now_paid)]) (rf_put rfl) (fun H locs hP hS => ?_)
  refine lv_aload_n hx hb dX8_push_67 rfl (lv_at hl 1 rfl) ?_
  refine gX_acts_cells hC hP tw_316 dX8_push_68 ?_
  refine lv_iload_n hx hb dX8_push_71 rfl (lv_at hl 0 rfl) ?_
  refine lv_iconst (v := 2) hx hb dX8_push_72 (by decide) ?_
  refine lv_iadd hx hb dX8_push_73 ?_
  refine lv_aload_n hx hb dX8_push_74 rfl (lv_at hl 2 rfl) ?_
  refine gX_now_far hC hP tw_48 (v := now_far) e_now_far dX8_push_75 ?_
  obtain ⟨hi_78, hf⟩ := rf_gu hf
  refine sX_acts_cells hC hD hP hS hi_78 (f := upd (upd h_cells (Int32.toNatClampNeg z41) now_hour) (Int32.toNatClampNeg (z41 + 1)) now_paid) rfl dX8_push_78 (rf_upL A [(11, upd (upd (upd h_cells (Int32.toNatClampNeg z41) now_hour) (Int32.toNatClampNeg (z41 + 1)) now_paid) (Int32.toNatClampNeg (z41 + 2)) now_far)]) (rf_put rfl) (fun H locs hP hS => ?_)
  refine lv_aload_n hx hb dX8_push_79 rfl (lv_at hl 2 rfl) ?_
  refine gX_now_words hC hP tw_51 dX8_push_80 ?_
  refine lv_iconst (v := 0) hx hb dX8_push_83 (by decide) ?_
  refine lv_aload_n hx hb dX8_push_84 rfl (lv_at hl 1 rfl) ?_
  refine gX_acts_cells hC hP tw_316 dX8_push_85 ?_
  refine lv_iload_n hx hb dX8_push_88 rfl (lv_at hl 0 rfl) ?_
  refine lv_iconst (v := 3) hx hb dX8_push_89 (by decide) ?_
  refine lv_iadd hx hb dX8_push_90 ?_
  refine lv_bipush (v := 8) hx hb dX8_push_91 (by decide) ?_
  obtain ⟨hi_93, hf⟩ := rf_gu hf
  refine yX_now_words_acts_cells hC hD hP hS hi_93 (f := now_words) e_now_words (g := upd (upd (upd h_cells (Int32.toNatClampNeg z41) now_hour) (Int32.toNatClampNeg (z41 + 1)) now_paid) (Int32.toNatClampNeg (z41 + 2)) now_far) rfl tw_1156 hl.1 (Nat.le_of_ble_eq_true rfl) ⟨Nat.le_of_ble_eq_true rfl, Nat.le_of_ble_eq_true rfl⟩ dX8_push_93 (rf_upL A [(11, va_cpy now_words (upd (upd (upd h_cells (Int32.toNatClampNeg z41) now_hour) (Int32.toNatClampNeg (z41 + 1)) now_paid) (Int32.toNatClampNeg (z41 + 2)) now_far) (Int32.toNatClampNeg 0) (Int32.toNatClampNeg (z41 + 3)) (Int32.toNatClampNeg 8))]) (rf_put rfl) (fun H locs hP hS => ?_)
  refine lv_aload_n hx hb dX8_push_96 rfl (lv_at hl 2 rfl) ?_
  refine gX_now_wet hC hP tw_55 dX8_push_97 ?_
  refine lv_iconst (v := 0) hx hb dX8_push_100 (by decide) ?_
  refine lv_aload_n hx hb dX8_push_101 rfl (lv_at hl 1 rfl) ?_
  refine gX_acts_cells hC hP tw_316 dX8_push_102 ?_
  refine lv_iload_n hx hb dX8_push_105 rfl (lv_at hl 0 rfl) ?_
  refine lv_iconst (v := 3) hx hb dX8_push_106 (by decide) ?_
  refine lv_iadd hx hb dX8_push_107 ?_
  refine lv_bipush (v := 8) hx hb dX8_push_108 (by decide) ?_
  refine lv_iadd hx hb dX8_push_110 ?_
  refine lv_bipush (v := 8) hx hb dX8_push_111 (by decide) ?_
  obtain ⟨hi_113, hf⟩ := rf_gu hf
  refine yX_now_wet_acts_cells hC hD hP hS hi_113 (f := now_wet) e_now_wet (g := va_cpy now_words (upd (upd (upd h_cells (Int32.toNatClampNeg z41) now_hour) (Int32.toNatClampNeg (z41 + 1)) now_paid) (Int32.toNatClampNeg (z41 + 2)) now_far) (Int32.toNatClampNeg 0) (Int32.toNatClampNeg (z41 + 3)) (Int32.toNatClampNeg 8)) rfl tw_1156 hl.1 (Nat.le_of_ble_eq_true rfl) ⟨Nat.le_of_ble_eq_true rfl, Nat.le_of_ble_eq_true rfl⟩ dX8_push_113 (rf_upL A [(11, va_cpy now_wet (va_cpy now_words (upd (upd (upd h_cells (Int32.toNatClampNeg z41) now_hour) (Int32.toNatClampNeg (z41 + 1)) now_paid) (Int32.toNatClampNeg (z41 + 2)) now_far) (Int32.toNatClampNeg 0) (Int32.toNatClampNeg (z41 + 3)) (Int32.toNatClampNeg 8)) (Int32.toNatClampNeg 0) (Int32.toNatClampNeg ((z41 + 3) + 8)) (Int32.toNatClampNeg 8))]) (rf_put rfl) (fun H locs hP hS => ?_)
  refine lv_aload_n hx hb dX8_push_116 rfl (lv_at hl 1 rfl) ?_
  refine lv_dup hx hb dX8_push_117 rfl ?_
  refine gX_acts_count hC hP tw_318 (v := h_count) rfl dX8_push_118 ?_
  refine lv_iconst (v := 1) hx hb dX8_push_121 (by decide) ?_
  refine lv_iadd hx hb dX8_push_122 ?_
  refine pX_acts_count hC hD hP hS tw_318 dX8_push_123 (rf_upL I [(16, h_first), (17, h_count + 1)]) (rf_put rfl) (fun H locs hP hS => ?_)
  obtain rfl := Option.some.inj hf
  exact rf_retv hC hP hS rfl dX8_push_126
set_option maxHeartbeats 4000000 in
set_option maxRecDepth 100000 in
theorem c_X8_push_acts (l : Launch) (E : rf_E) (a P : Nat → Nat) (I : Nat → Int32) (J : Nat → Int64) (A : Nat → Nat → Int32) (B : Nat → Nat → Int64) (now_hour : Int32) (now_paid : Int32) (now_far : Int32) (h_room : Int32) (now_words : Nat → Int32) (now_wet : Nat → Int32) (h_first : Int32) (h_count : Int32) (h_cells : Nat → Int32) {z : Int32 × Int32 × (Nat → Int32)} (e_now_hour : I 4 = now_hour) (e_now_paid : I 5 = now_paid) (e_now_far : I 7 = now_far) (e_h_room : I 15 = h_room) (e_now_words : A 1 = now_words) (e_now_wet : A 2 = now_wet) (e_h_first : I 16 = h_first) (e_h_count : I 17 = h_count) (e_h_cells : A 11 = h_cells) (hf : f_X8_push_acts now_hour now_paid now_far h_room now_words now_wet h_first h_count h_cells = some z) : rf_MV l yX8_push cX8_push 3 ({ frames := 6, cells := 0, slots := 0, locals := 200 }) E [.ref (a 8), .ref (a 1)] (cX E a P I J A B) (cX E a P (rf_upL I [(16, z.1), (17, z.2.1)]) J (rf_upL A [(11, z.2.2)]) B) := by
  unfold f_X8_push_acts at hf
  refine rf_ofV (by decide) (Nat.le_of_ble_eq_true rfl) ?_
  intro p e s m below meth c A0 ls hC hD hP hS hl
  have hC : rf_C p E s m _ meth c cX8_push 3 RX8 (none) A0 := hC
  have hx := hC.1
  have hb := hC.2.1
  have hl : lv_has ls 3 [(0, .ref (a 8)), (1, .ref (a 1))] := hl
  have hP : va_P (rf_D E) vwCl (cX E a P (rf_upL I [(16, h_first), (17, h_count)]) J (rf_upL A [(11, h_cells)]) B) s.heap := by
    rw [rf_self (f := I) [(16, h_first), (17, h_count)] (rf_fa1 e_h_first (rf_fa1 e_h_count rf_fa0))]
    rw [rf_self (f := A) [(11, h_cells)] (rf_fa1 e_h_cells rf_fa0)]
    exact hP
  refine lv_aload_n hx hb dX8_push_0 rfl (lv_at hl 0 rfl) ?_
  refine gX_acts_count hC hP tw_318 (v := h_count) rfl dX8_push_1 ?_
  refine lv_aload_n hx hb dX8_push_4 rfl (lv_at hl 0 rfl) ?_
  refine gX_acts_room hC hP tw_315 (v := h_room) e_h_room dX8_push_5 ?_
  refine lv_icmp_ne (tgt := 36) hx hb dX8_push_8 (by decide) (fun c_8 => ?_) (fun c_8 => ?_)
  · have hf := rf_ie c_8 hf
    exact w_X8_push_acts_36 hC hD e_now_hour e_now_paid e_now_far e_h_room e_now_words e_now_wet h_first h_count h_cells hf _ _ _ hP hS (lv_sub hl [0, 1] rfl)
  have hf := rf_it c_8 hf
  refine lv_aload_n hx hb dX8_push_11 rfl (lv_at hl 0 rfl) ?_
  refine lv_aload_n hx hb dX8_push_12 rfl (lv_at hl 0 rfl) ?_
  refine gX_acts_first hC hP tw_317 (v := h_first) rfl dX8_push_13 ?_
  refine lv_iconst (v := 1) hx hb dX8_push_16 (by decide) ?_
  refine lv_iadd hx hb dX8_push_17 ?_
  refine lv_aload_n hx hb dX8_push_18 rfl (lv_at hl 0 rfl) ?_
  refine gX_acts_room hC hP tw_315 (v := h_room) e_h_room dX8_push_19 ?_
  obtain ⟨hn_22, hf⟩ := rf_gn hf
  refine lv_irem hx hb dX8_push_22 hn_22 ?_
  refine pX_acts_first hC hD hP hS tw_317 dX8_push_23 (rf_upL I [(16, (h_first + 1) - (h_first + 1) / h_room * h_room), (17, h_count)]) (rf_put rfl) (fun H locs hP hS => ?_)
  refine lv_aload_n hx hb dX8_push_26 rfl (lv_at hl 0 rfl) ?_
  refine lv_dup hx hb dX8_push_27 rfl ?_
  refine gX_acts_count hC hP tw_318 (v := h_count) rfl dX8_push_28 ?_
  refine lv_iconst (v := 1) hx hb dX8_push_31 (by decide) ?_
  refine lv_isub hx hb dX8_push_32 ?_
  refine pX_acts_count hC hD hP hS tw_318 dX8_push_33 (rf_upL I [(16, (h_first + 1) - (h_first + 1) / h_room * h_room), (17, h_count - 1)]) (rf_put rfl) (fun H locs hP hS => ?_)
  exact w_X8_push_acts_36 hC hD e_now_hour e_now_paid e_now_far e_h_room e_now_words e_now_wet ((h_first + 1) - (h_first + 1) / h_room * h_room) (h_count - 1) h_cells hf _ _ _ hP hS (lv_sub hl [0, 1] rfl)
set_option maxHeartbeats 4000000 in
set_option maxRecDepth 100000 in
theorem w_X10_cross_63 {l : Launch} {p : Program} {e : Env} {s : State} {m : MethodId} {args : Array Value} {below : List Frame} {meth : Method} {c : Code} {A0 : Nat → Prop} {E : rf_E} {a P : Nat → Nat} {I : Nat → Int32} {J : Nat → Int64} {A : Nat → Nat → Int32} {B : Nat → Nat → Int64} {now_hour : Int32} {now_paid : Int32} {acts_room : Int32} {tc_ear : Int32} {tc_wordCount : Int32} {tc_personCount : Int32} {now_words : Nat → Int32} {tc_kinds : Nat → Int32} {tc_hourEars : Nat → Int32} {tc_close : Nat → Int32} {z : Int32 × Int32 × Int32 × Int32 × Int32 × (Nat → Int32) × (Nat → Int32)} (hC : rf_C p E s m args meth c cX10_cross 4 RX10 (some .int) A0) (hD : va_D A0 (cX E a P I J A B)) (hp0 : P 0 = a 10) (hp2 : P 2 = a 10) (e_now_hour : I 4 = now_hour) (e_now_paid : I 5 = now_paid) (e_acts_room : I 15 = acts_room) (e_tc_ear : I 21 = tc_ear) (e_tc_wordCount : I 23 = tc_wordCount) (e_tc_personCount : I 24 = tc_personCount) (e_now_words : A 1 = now_words) (e_tc_kinds : A 14 = tc_kinds) (e_tc_hourEars : A 18 = tc_hourEars) (e_tc_close : A 22 = tc_close) :
    ∀ (x_lastTrouble : Int32) (now_far : Int32) (acts_first : Int32) (acts_count : Int32) (now_wet : Nat → Int32) (acts_cells : Nat → Int32), f_X10_cross_63 now_hour now_paid acts_room tc_ear tc_wordCount tc_personCount now_words tc_kinds tc_hourEars tc_close x_lastTrouble now_far acts_first acts_count now_wet acts_cells = some z → ∀ (H : Heap) (locs : List Loc) (ls : Array Slot), va_P (rf_D E) vwCl (cX E a P (rf_upL I [(3, x_lastTrouble), (7, now_far), (16, acts_first), (17, acts_count)]) J (rf_upL A [(2, now_wet), (11, acts_cells)]) B) H → va_S A0 s.heap H locs → lv_has ls 4 [(0, .ref (a 0))] → W p l e ({ frames := 7, cells := 0, slots := 0, locals := 222 }) s m args below meth c H locs 0 0 (rf_QI below args s E A0 z.1 (cX E a P (rf_upL I [(3, z.2.1), (7, z.2.2.1), (16, z.2.2.2.1), (17, z.2.2.2.2.1)]) J (rf_upL A [(2, z.2.2.2.2.2.1), (11, z.2.2.2.2.2.2)]) B)) (F0 m 63 ls []) := by
  have hx := hC.1
  have hb := hC.2.1
  intro x_lastTrouble now_far acts_first acts_count now_wet acts_cells hf H locs ls hP hS hl
  unfold f_X10_cross_63 at hf
  refine lv_aload_n hx hb dX10_cross_63 rfl (lv_at hl 0 rfl) ?_
  refine lv_iconst (v := 5) hx hb dX10_cross_64 (by decide) ?_
  obtain ⟨z65, hz65, hf⟩ := rf_bd hf
  refine rf_vi (q0 := 0) (ci := 10) hC (c_X10_refuse l E a P (rf_upL I [(3, x_lastTrouble), (7, now_far), (16, acts_first), (17, acts_count)]) J (rf_upL A [(2, now_wet), (11, acts_cells)]) B x_lastTrouble 5 rfl hz65) kV_X10_refuse tw_679 ⟨Nat.le_of_ble_eq_true rfl, Nat.le_of_ble_eq_true rfl⟩ rfl rfl rfl rfl rfl hP (rf_DX hD) hS rfl hl.1 (rest := []) rfl (Nat.le_of_ble_eq_true rfl) dX10_cross_65 (fun H locs hP hS => ?_)
  rw [rf_cat (f := I) (l := [(3, x_lastTrouble), (7, now_far), (16, acts_first), (17, acts_count)]) (lc := [(3, z65.2)]) (l' := [(3, z65.2), (7, now_far), (16, acts_first), (17, acts_count)]) rfl] at hP
  obtain rfl := Option.some.inj hf
  exact rf_reti hC hP hS rfl rfl dX10_cross_68
set_option maxHeartbeats 4000000 in
set_option maxRecDepth 100000 in
theorem w_X10_cross_127 {l : Launch} {p : Program} {e : Env} {s : State} {m : MethodId} {args : Array Value} {below : List Frame} {meth : Method} {c : Code} {A0 : Nat → Prop} {E : rf_E} {a P : Nat → Nat} {I : Nat → Int32} {J : Nat → Int64} {A : Nat → Nat → Int32} {B : Nat → Nat → Int64} {now_hour : Int32} {now_paid : Int32} {acts_room : Int32} {tc_ear : Int32} {tc_wordCount : Int32} {tc_personCount : Int32} {now_words : Nat → Int32} {tc_kinds : Nat → Int32} {tc_hourEars : Nat → Int32} {tc_close : Nat → Int32} {z : Int32 × Int32 × Int32 × Int32 × Int32 × (Nat → Int32) × (Nat → Int32)} (hC : rf_C p E s m args meth c cX10_cross 4 RX10 (some .int) A0) (hD : va_D A0 (cX E a P I J A B)) (hp0 : P 0 = a 10) (hp2 : P 2 = a 10) (e_now_hour : I 4 = now_hour) (e_now_paid : I 5 = now_paid) (e_acts_room : I 15 = acts_room) (e_tc_ear : I 21 = tc_ear) (e_tc_wordCount : I 23 = tc_wordCount) (e_tc_personCount : I 24 = tc_personCount) (e_now_words : A 1 = now_words) (e_tc_kinds : A 14 = tc_kinds) (e_tc_hourEars : A 18 = tc_hourEars) (e_tc_close : A 22 = tc_close) :
    ∀ (v3 : Int32) (x_lastTrouble : Int32) (now_far : Int32) (acts_first : Int32) (acts_count : Int32) (now_wet : Nat → Int32) (acts_cells : Nat → Int32), f_X10_cross_127 now_hour now_paid acts_room tc_ear tc_wordCount tc_personCount now_words tc_kinds tc_hourEars tc_close v3 x_lastTrouble now_far acts_first acts_count now_wet acts_cells = some z → ∀ (H : Heap) (locs : List Loc) (ls : Array Slot), va_P (rf_D E) vwCl (cX E a P (rf_upL I [(3, x_lastTrouble), (7, now_far), (16, acts_first), (17, acts_count)]) J (rf_upL A [(2, now_wet), (11, acts_cells)]) B) H → va_S A0 s.heap H locs → lv_has ls 4 [(3, .int v3)] → W p l e ({ frames := 7, cells := 0, slots := 0, locals := 222 }) s m args below meth c H locs 0 0 (rf_QI below args s E A0 z.1 (cX E a P (rf_upL I [(3, z.2.1), (7, z.2.2.1), (16, z.2.2.2.1), (17, z.2.2.2.2.1)]) J (rf_upL A [(2, z.2.2.2.2.2.1), (11, z.2.2.2.2.2.2)]) B)) (F0 m 127 ls []) := by
  have hx := hC.1
  have hb := hC.2.1
  intro v3 x_lastTrouble now_far acts_first acts_count now_wet acts_cells hf H locs ls hP hS hl
  unfold f_X10_cross_127 at hf
  refine lv_iload_n hx hb dX10_cross_127 rfl (lv_at hl 0 rfl) ?_
  obtain rfl := Option.some.inj hf
  exact rf_reti hC hP hS rfl rfl dX10_cross_128
set_option maxHeartbeats 4000000 in
set_option maxRecDepth 100000 in
theorem c_X10_cross (l : Launch) (E : rf_E) (a P : Nat → Nat) (I : Nat → Int32) (J : Nat → Int64) (A : Nat → Nat → Int32) (B : Nat → Nat → Int64) (now_hour : Int32) (now_paid : Int32) (acts_room : Int32) (tc_ear : Int32) (tc_wordCount : Int32) (tc_personCount : Int32) (now_words : Nat → Int32) (tc_kinds : Nat → Int32) (tc_hourEars : Nat → Int32) (tc_close : Nat → Int32) (x_lastTrouble : Int32) (now_far : Int32) (acts_first : Int32) (acts_count : Int32) (now_wet : Nat → Int32) (acts_cells : Nat → Int32) (v1 : Int32) (v2 : Int32) {z : Int32 × Int32 × Int32 × Int32 × Int32 × (Nat → Int32) × (Nat → Int32)} (hp0 : P 0 = a 10) (hp2 : P 2 = a 10) (e_now_hour : I 4 = now_hour) (e_now_paid : I 5 = now_paid) (e_acts_room : I 15 = acts_room) (e_tc_ear : I 21 = tc_ear) (e_tc_wordCount : I 23 = tc_wordCount) (e_tc_personCount : I 24 = tc_personCount) (e_now_words : A 1 = now_words) (e_tc_kinds : A 14 = tc_kinds) (e_tc_hourEars : A 18 = tc_hourEars) (e_tc_close : A 22 = tc_close) (e_x_lastTrouble : I 3 = x_lastTrouble) (e_now_far : I 7 = now_far) (e_acts_first : I 16 = acts_first) (e_acts_count : I 17 = acts_count) (e_now_wet : A 2 = now_wet) (e_acts_cells : A 11 = acts_cells) (hf : f_X10_cross now_hour now_paid acts_room tc_ear tc_wordCount tc_personCount now_words tc_kinds tc_hourEars tc_close x_lastTrouble now_far acts_first acts_count now_wet acts_cells v1 v2 = some z) : rf_MI l yX10_cross cX10_cross 4 (some .int) ({ frames := 7, cells := 0, slots := 0, locals := 222 }) E [.ref (a 0), .int v1, .int v2] (cX E a P I J A B) z.1 (cX E a P (rf_upL I [(3, z.2.1), (7, z.2.2.1), (16, z.2.2.2.1), (17, z.2.2.2.2.1)]) J (rf_upL A [(2, z.2.2.2.2.2.1), (11, z.2.2.2.2.2.2)]) B) := by
  unfold f_X10_cross at hf
  refine rf_ofI (by decide) (Nat.le_of_ble_eq_true rfl) ?_
  intro p e s m below meth c A0 ls hC hD hP hS hl
  have hC : rf_C p E s m _ meth c cX10_cross 4 RX10 (some .int) A0 := hC
  have hx := hC.1
  have hb := hC.2.1
  have hl : lv_has ls 4 [(0, .ref (a 0)), (1, .int v1), (2, .int v2)] := hl
  have hP : va_P (rf_D E) vwCl (cX E a P (rf_upL I [(3, x_lastTrouble), (7, now_far), (16, acts_first), (17, acts_count)]) J (rf_upL A [(2, now_wet), (11, acts_cells)]) B) s.heap := by
    rw [rf_self (f := I) [(3, x_lastTrouble), (7, now_far), (16, acts_first), (17, acts_count)] (rf_fa1 e_x_lastTrouble (rf_fa1 e_now_far (rf_fa1 e_acts_first (rf_fa1 e_acts_count rf_fa0))))]
    rw [rf_self (f := A) [(2, now_wet), (11, acts_cells)] (rf_fa1 e_now_wet (rf_fa1 e_acts_cells rf_fa0))]
    exact hP
  refine lv_aload_n hx hb dX10_cross_0 rfl (lv_at hl 0 rfl) ?_
  refine lv_aload_n hx hb dX10_cross_1 rfl (lv_at hl 0 rfl) ?_
  refine lv_iload_n hx hb dX10_cross_2 rfl (lv_at hl 1 rfl) ?_
  refine lv_iload_n hx hb dX10_cross_3 rfl (lv_at hl 2 rfl) ?_
  obtain ⟨z4, hz4, hf⟩ := rf_bd hf
  refine rf_vi (q0 := 0) (ci := 10) hC (c_X10_isPair l E a P (rf_upL I [(3, x_lastTrouble), (7, now_far), (16, acts_first), (17, acts_count)]) J (rf_upL A [(2, now_wet), (11, acts_cells)]) B tc_personCount v1 v2 hp0 e_tc_personCount hz4) kV_X10_isPair tw_778 ⟨Nat.le_of_ble_eq_true rfl, Nat.le_of_ble_eq_true rfl⟩ rfl rfl rfl rfl rfl hP (rf_DX hD) hS rfl hl.1 (rest := [.ref (a 0)]) rfl (Nat.le_of_ble_eq_true rfl) dX10_cross_4 (fun H locs hP hS => ?_)
  refine lv_iconst (v := 1) hx hb dX10_cross_7 (by decide) ?_
  obtain ⟨z8, hz8, hf⟩ := rf_bd hf
  refine rf_vi (q0 := 0) (ci := 10) hC (c_X10_refused l E a P (rf_upL I [(3, x_lastTrouble), (7, now_far), (16, acts_first), (17, acts_count)]) J (rf_upL A [(2, now_wet), (11, acts_cells)]) B x_lastTrouble z4 1 rfl hz8) kV_X10_refused tw_455 ⟨Nat.le_of_ble_eq_true rfl, Nat.le_of_ble_eq_true rfl⟩ rfl rfl rfl rfl rfl hP (rf_DX hD) hS rfl hl.1 (rest := []) rfl (Nat.le_of_ble_eq_true rfl) dX10_cross_8 (fun H locs hP hS => ?_)
  rw [rf_cat (f := I) (l := [(3, x_lastTrouble), (7, now_far), (16, acts_first), (17, acts_count)]) (lc := [(3, z8.2)]) (l' := [(3, z8.2), (7, now_far), (16, acts_first), (17, acts_count)]) rfl] at hP
  refine lv_if_eq (tgt := 16) hx hb dX10_cross_11 (by decide) (fun c_11 => ?_) (fun c_11 => ?_)
  · have hf := rf_it c_11 hf
    refine lv_aload_n hx hb dX10_cross_16 rfl (lv_at hl 0 rfl) ?_
    refine gX_x_rhymes hC hP tw_393 dX10_cross_17 ?_
    refine lv_iload_n hx hb dX10_cross_20 rfl (lv_at hl 1 rfl) ?_
    refine lv_iload_n hx hb dX10_cross_21 rfl (lv_at hl 2 rfl) ?_
    refine lv_aload_n hx hb dX10_cross_22 rfl (lv_at hl 0 rfl) ?_
    refine gX_x_tale hC hP tw_401 (v := a 10) hp0 dX10_cross_23 ?_
    refine lv_aload_n hx hb dX10_cross_26 rfl (lv_at hl 0 rfl) ?_
    refine gX_x_now hC hP tw_392 dX10_cross_27 ?_
    refine gX_now_hour hC hP tw_42 (v := now_hour) e_now_hour dX10_cross_30 ?_
    obtain ⟨z33, hz33, hf⟩ := rf_bd hf
    refine rf_vi (q0 := 10) (ci := 9) hC (c_X9_earAt_tc l E a P (rf_upL I [(3, z8.2), (7, now_far), (16, acts_first), (17, acts_count)]) J (rf_upL A [(2, now_wet), (11, acts_cells)]) B tc_ear tc_hourEars now_hour e_tc_ear e_tc_hourEars hz33) kV_X9_earAt tw_770 ⟨Nat.le_of_ble_eq_true rfl, Nat.le_of_ble_eq_true rfl⟩ rfl rfl rfl rfl rfl hP (rf_DX hD) hS rfl hl.1 (rest := [.int v2, .int v1, .ref (a 2)]) rfl (Nat.le_of_ble_eq_true rfl) dX10_cross_33 (fun H locs hP hS => ?_)
    obtain ⟨z36, hz36, hf⟩ := rf_bd hf
    refine rf_vi (q0 := 2) (ci := 6) hC (c_X6_degree l E a P (rf_upL I [(3, z8.2), (7, now_far), (16, acts_first), (17, acts_count)]) J (rf_upL A [(2, now_wet), (11, acts_cells)]) B tc_wordCount now_words tc_kinds tc_close v1 v2 z33 hp2 e_tc_wordCount e_now_words e_tc_kinds e_tc_close hz36) kV_X6_degree tw_782 ⟨Nat.le_of_ble_eq_true rfl, Nat.le_of_ble_eq_true rfl⟩ rfl rfl rfl rfl rfl hP (rf_DX hD) hS rfl hl.1 (rest := []) rfl (Nat.le_of_ble_eq_true rfl) dX10_cross_36 (fun H locs hP hS => ?_)
    refine lv_istore_n (lv' := [(3, .int z36), (0, .ref (a 0)), (1, .int v1), (2, .int v2)]) hx hb dX10_cross_39 rfl hl (by decide) rfl (fun ls hl => ?_)
    refine lv_aload_n hx hb dX10_cross_40 rfl (lv_at hl 1 rfl) ?_
    refine gX_x_now hC hP tw_392 dX10_cross_41 ?_
    refine lv_iload_n hx hb dX10_cross_44 rfl (lv_at hl 2 rfl) ?_
    obtain ⟨z45, hz45, hf⟩ := rf_bd hf
    refine rf_vi (q0 := 1) (ci := 2) hC (c_X2_bankOf l E a P (rf_upL I [(3, z8.2), (7, now_far), (16, acts_first), (17, acts_count)]) J (rf_upL A [(2, now_wet), (11, acts_cells)]) B now_far v1 rfl hz45) kV_X2_bankOf tw_754 ⟨Nat.le_of_ble_eq_true rfl, Nat.le_of_ble_eq_true rfl⟩ rfl rfl rfl rfl rfl hP (rf_DX hD) hS rfl hl.1 (rest := []) rfl (Nat.le_of_ble_eq_true rfl) dX10_cross_45 (fun H locs hP hS => ?_)
    refine lv_aload_n hx hb dX10_cross_48 rfl (lv_at hl 1 rfl) ?_
    refine gX_x_now hC hP tw_392 dX10_cross_49 ?_
    refine lv_iload_n hx hb dX10_cross_52 rfl (lv_at hl 3 rfl) ?_
    obtain ⟨z53, hz53, hf⟩ := rf_bd hf
    refine rf_vi (q0 := 1) (ci := 2) hC (c_X2_bankOf l E a P (rf_upL I [(3, z8.2), (7, now_far), (16, acts_first), (17, acts_count)]) J (rf_upL A [(2, now_wet), (11, acts_cells)]) B now_far v2 rfl hz53) kV_X2_bankOf tw_754 ⟨Nat.le_of_ble_eq_true rfl, Nat.le_of_ble_eq_true rfl⟩ rfl rfl rfl rfl rfl hP (rf_DX hD) hS rfl hl.1 (rest := [.int z45]) rfl (Nat.le_of_ble_eq_true rfl) dX10_cross_53 (fun H locs hP hS => ?_)
    refine lv_icmp_ne (tgt := 63) hx hb dX10_cross_56 (by decide) (fun c_56 => ?_) (fun c_56 => ?_)
    · have hf := rf_ie c_56 hf
      exact w_X10_cross_63 hC hD hp0 hp2 e_now_hour e_now_paid e_acts_room e_tc_ear e_tc_wordCount e_tc_personCount e_now_words e_tc_kinds e_tc_hourEars e_tc_close z8.2 now_far acts_first acts_count now_wet acts_cells hf _ _ _ hP hS (lv_sub hl [1] rfl)
    have hf := rf_it c_56 hf
    refine lv_iload_n hx hb dX10_cross_59 rfl (lv_at hl 0 rfl) ?_
    refine lv_if_ne (tgt := 69) hx hb dX10_cross_60 (by decide) (fun c_60 => ?_) (fun c_60 => ?_)
    · have hf := rf_ie c_60 hf
      refine lv_aload_n hx hb dX10_cross_69 rfl (lv_at hl 1 rfl) ?_
      refine gX_x_acts hC hP tw_399 dX10_cross_70 ?_
      refine lv_aload_n hx hb dX10_cross_73 rfl (lv_at hl 1 rfl) ?_
      refine gX_x_now hC hP tw_392 dX10_cross_74 ?_
      obtain ⟨z77, hz77, hf⟩ := rf_bd hf
      refine rf_vv (q0 := 8) (ci := 8) hC (c_X8_push_acts l E a P (rf_upL I [(3, z8.2), (7, now_far), (16, acts_first), (17, acts_count)]) J (rf_upL A [(2, now_wet), (11, acts_cells)]) B now_hour now_paid now_far acts_room now_words now_wet acts_first acts_count acts_cells e_now_hour e_now_paid rfl e_acts_room e_now_words rfl rfl rfl rfl hz77) kV_X8_push tw_1148 ⟨Nat.le_of_ble_eq_true rfl, Nat.le_of_ble_eq_true rfl⟩ rfl rfl rfl rfl rfl hP (rf_DX hD) hS rfl hl.1 (rest := []) rfl (Nat.le_of_ble_eq_true rfl) dX10_cross_77 (fun H locs hP hS => ?_)
      rw [rf_cat (f := I) (l := [(3, z8.2), (7, now_far), (16, acts_first), (17, acts_count)]) (lc := [(16, z77.1), (17, z77.2.1)]) (l' := [(3, z8.2), (7, now_far), (16, z77.1), (17, z77.2.1)]) rfl] at hP
      rw [rf_cat (f := A) (l := [(2, now_wet), (11, acts_cells)]) (lc := [(11, z77.2.2)]) (l' := [(2, now_wet), (11, z77.2.2)]) rfl] at hP
      refine lv_aload_n hx hb dX10_cross_80 rfl (lv_at hl 1 rfl) ?_
      refine gX_x_now hC hP tw_392 dX10_cross_81 ?_
      refine lv_iload_n hx hb dX10_cross_84 rfl (lv_at hl 2 rfl) ?_
      obtain ⟨z85, hz85, hf⟩ := rf_bd hf
      refine rf_vv (q0 := 1) (ci := 2) hC (c_X2_carryOver l E a P (rf_upL I [(3, z8.2), (7, now_far), (16, z77.1), (17, z77.2.1)]) J (rf_upL A [(2, now_wet), (11, z77.2.2)]) B now_far v1 rfl hz85) kV_X2_carryOver tw_1157 ⟨Nat.le_of_ble_eq_true rfl, Nat.le_of_ble_eq_true rfl⟩ rfl rfl rfl rfl rfl hP (rf_DX hD) hS rfl hl.1 (rest := []) rfl (Nat.le_of_ble_eq_true rfl) dX10_cross_85 (fun H locs hP hS => ?_)
      rw [rf_cat (f := I) (l := [(3, z8.2), (7, now_far), (16, z77.1), (17, z77.2.1)]) (lc := [(7, z85)]) (l' := [(3, z8.2), (7, z85), (16, z77.1), (17, z77.2.1)]) rfl] at hP
      refine lv_aload_n hx hb dX10_cross_88 rfl (lv_at hl 1 rfl) ?_
      refine gX_x_now hC hP tw_392 dX10_cross_89 ?_
      refine lv_iload_n hx hb dX10_cross_92 rfl (lv_at hl 3 rfl) ?_
      obtain ⟨z93, hz93, hf⟩ := rf_bd hf
      refine rf_vv (q0 := 1) (ci := 2) hC (c_X2_carryOver l E a P (rf_upL I [(3, z8.2), (7, z85), (16, z77.1), (17, z77.2.1)]) J (rf_upL A [(2, now_wet), (11, z77.2.2)]) B z85 v2 rfl hz93) kV_X2_carryOver tw_1157 ⟨Nat.le_of_ble_eq_true rfl, Nat.le_of_ble_eq_true rfl⟩ rfl rfl rfl rfl rfl hP (rf_DX hD) hS rfl hl.1 (rest := []) rfl (Nat.le_of_ble_eq_true rfl) dX10_cross_93 (fun H locs hP hS => ?_)
      rw [rf_cat (f := I) (l := [(3, z8.2), (7, z85), (16, z77.1), (17, z77.2.1)]) (lc := [(7, z93)]) (l' := [(3, z8.2), (7, z93), (16, z77.1), (17, z77.2.1)]) rfl] at hP
      refine lv_iload_n hx hb dX10_cross_96 rfl (lv_at hl 0 rfl) ?_
      refine lv_iconst (v := 1) hx hb dX10_cross_97 (by decide) ?_
      refine lv_icmp_ne (tgt := 127) hx hb dX10_cross_98 (by decide) (fun c_98 => ?_) (fun c_98 => ?_)
      · have hf := rf_ie c_98 hf
        exact w_X10_cross_127 hC hD hp0 hp2 e_now_hour e_now_paid e_acts_room e_tc_ear e_tc_wordCount e_tc_personCount e_now_words e_tc_kinds e_tc_hourEars e_tc_close z36 z8.2 z93 z77.1 z77.2.1 now_wet z77.2.2 hf _ _ _ hP hS (lv_sub hl [0] rfl)
      have hf := rf_it c_98 hf
      refine lv_aload_n hx hb dX10_cross_101 rfl (lv_at hl 1 rfl) ?_
      refine gX_x_now hC hP tw_392 dX10_cross_102 ?_
      refine gX_now_wet hC hP tw_56 dX10_cross_105 ?_
      refine lv_iload_n hx hb dX10_cross_108 rfl (lv_at hl 2 rfl) ?_
      refine lv_dup2_11 hx hb dX10_cross_109 rfl rfl ?_
      obtain ⟨hi_110, hf⟩ := rf_gu hf
      refine lX_now_wet hC hP hi_110 (f := now_wet) rfl dX10_cross_110 ?_
      refine lv_iconst (v := 1) hx hb dX10_cross_111 (by decide) ?_
      refine lv_iadd hx hb dX10_cross_112 ?_
      obtain ⟨hi_113, hf⟩ := rf_gu hf
      refine sX_now_wet hC hD hP hS hi_113 (f := now_wet) rfl dX10_cross_113 (rf_upL A [(2, upd now_wet (Int32.toNatClampNeg v1) ((now_wet (Int32.toNatClampNeg v1)) + 1)), (11, z77.2.2)]) (rf_put rfl) (fun H locs hP hS => ?_)
      refine lv_aload_n hx hb dX10_cross_114 rfl (lv_at hl 1 rfl) ?_
      refine gX_x_now hC hP tw_392 dX10_cross_115 ?_
      refine gX_now_wet hC hP tw_56 dX10_cross_118 ?_
      refine lv_iload_n hx hb dX10_cross_121 rfl (lv_at hl 3 rfl) ?_
      refine lv_dup2_11 hx hb dX10_cross_122 rfl rfl ?_
      obtain ⟨hi_123, hf⟩ := rf_gu hf
      refine lX_now_wet hC hP hi_123 (f := upd now_wet (Int32.toNatClampNeg v1) ((now_wet (Int32.toNatClampNeg v1)) + 1)) rfl dX10_cross_123 ?_
      refine lv_iconst (v := 1) hx hb dX10_cross_124 (by decide) ?_
      refine lv_iadd hx hb dX10_cross_125 ?_
      obtain ⟨hi_126, hf⟩ := rf_gu hf
      refine sX_now_wet hC hD hP hS hi_126 (f := upd now_wet (Int32.toNatClampNeg v1) ((now_wet (Int32.toNatClampNeg v1)) + 1)) rfl dX10_cross_126 (rf_upL A [(2, upd (upd now_wet (Int32.toNatClampNeg v1) ((now_wet (Int32.toNatClampNeg v1)) + 1)) (Int32.toNatClampNeg v2) (((upd now_wet (Int32.toNatClampNeg v1) ((now_wet (Int32.toNatClampNeg v1)) + 1)) (Int32.toNatClampNeg v2)) + 1)), (11, z77.2.2)]) (rf_put rfl) (fun H locs hP hS => ?_)
      exact w_X10_cross_127 hC hD hp0 hp2 e_now_hour e_now_paid e_acts_room e_tc_ear e_tc_wordCount e_tc_personCount e_now_words e_tc_kinds e_tc_hourEars e_tc_close z36 z8.2 z93 z77.1 z77.2.1 (upd (upd now_wet (Int32.toNatClampNeg v1) ((now_wet (Int32.toNatClampNeg v1)) + 1)) (Int32.toNatClampNeg v2) (((upd now_wet (Int32.toNatClampNeg v1) ((now_wet (Int32.toNatClampNeg v1)) + 1)) (Int32.toNatClampNeg v2)) + 1)) z77.2.2 hf _ _ _ hP hS (lv_sub hl [0] rfl)
    have hf := rf_it c_60 hf
    exact w_X10_cross_63 hC hD hp0 hp2 e_now_hour e_now_paid e_acts_room e_tc_ear e_tc_wordCount e_tc_personCount e_now_words e_tc_kinds e_tc_hourEars e_tc_close z8.2 now_far acts_first acts_count now_wet acts_cells hf _ _ _ hP hS (lv_sub hl [1] rfl)
  have hf := rf_ie c_11 hf
  refine lv_iconst (v := (-1)) hx hb dX10_cross_14 (by decide) ?_
  obtain rfl := Option.some.inj hf
  exact rf_reti hC hP hS rfl rfl dX10_cross_15
set_option maxHeartbeats 4000000 in
set_option maxRecDepth 100000 in
theorem w_X10_buy_22 {l : Launch} {p : Program} {e : Env} {s : State} {m : MethodId} {args : Array Value} {below : List Frame} {meth : Method} {c : Code} {A0 : Nat → Prop} {E : rf_E} {a P : Nat → Nat} {I : Nat → Int32} {J : Nat → Int64} {A : Nat → Nat → Int32} {B : Nat → Nat → Int64} {now_hour : Int32} {now_far : Int32} {acts_room : Int32} {tc_wordCount : Int32} {tc_personCount : Int32} {now_wet : Nat → Int32} {tc_prices : Nat → Int32} {z : Int32 × Int32 × Int32 × Int32 × Int32 × (Nat → Int32) × (Nat → Int32)} (hC : rf_C p E s m args meth c cX10_buy 3 RX10 (some .int) A0) (hD : va_D A0 (cX E a P I J A B)) (hp0 : P 0 = a 10) (e_now_hour : I 4 = now_hour) (e_now_far : I 7 = now_far) (e_acts_room : I 15 = acts_room) (e_tc_wordCount : I 23 = tc_wordCount) (e_tc_personCount : I 24 = tc_personCount) (e_now_wet : A 2 = now_wet) (e_tc_prices : A 13 = tc_prices) :
    ∀ (v1 : Int32) (v2 : Int32) (s1 : Int32) (x_lastTrouble : Int32) (now_paid : Int32) (acts_first : Int32) (acts_count : Int32) (now_words : Nat → Int32) (acts_cells : Nat → Int32), f_X10_buy_22 now_hour now_far acts_room tc_wordCount tc_personCount now_wet tc_prices v1 v2 s1 x_lastTrouble now_paid acts_first acts_count now_words acts_cells = some z → ∀ (H : Heap) (locs : List Loc) (ls : Array Slot), va_P (rf_D E) vwCl (cX E a P (rf_upL I [(3, x_lastTrouble), (5, now_paid), (16, acts_first), (17, acts_count)]) J (rf_upL A [(1, now_words), (11, acts_cells)]) B) H → va_S A0 s.heap H locs → lv_has ls 3 [(0, .ref (a 0)), (1, .int v1), (2, .int v2)] → W p l e ({ frames := 7, cells := 0, slots := 0, locals := 222 }) s m args below meth c H locs 0 0 (rf_QI below args s E A0 z.1 (cX E a P (rf_upL I [(3, z.2.1), (5, z.2.2.1), (16, z.2.2.2.1), (17, z.2.2.2.2.1)]) J (rf_upL A [(1, z.2.2.2.2.2.1), (11, z.2.2.2.2.2.2)]) B)) (F0 m 22 ls [.int s1, .ref (a 0)]) := by
  have hx := hC.1
  have hb := hC.2.1
  intro v1 v2 s1 x_lastTrouble now_paid acts_first acts_count now_words acts_cells hf H locs ls hP hS hl
  unfold f_X10_buy_22 at hf
  refine lv_iconst (v := 1) hx hb dX10_buy_22 (by decide) ?_
  obtain ⟨z23, hz23, hf⟩ := rf_bd hf
  refine rf_vi (q0 := 0) (ci := 10) hC (c_X10_refused l E a P (rf_upL I [(3, x_lastTrouble), (5, now_paid), (16, acts_first), (17, acts_count)]) J (rf_upL A [(1, now_words), (11, acts_cells)]) B x_lastTrouble s1 1 rfl hz23) kV_X10_refused tw_455 ⟨Nat.le_of_ble_eq_true rfl, Nat.le_of_ble_eq_true rfl⟩ rfl rfl rfl rfl rfl hP (rf_DX hD) hS rfl hl.1 (rest := []) rfl (Nat.le_of_ble_eq_true rfl) dX10_buy_23 (fun H locs hP hS => ?_)
  rw [rf_cat (f := I) (l := [(3, x_lastTrouble), (5, now_paid), (16, acts_first), (17, acts_count)]) (lc := [(3, z23.2)]) (l' := [(3, z23.2), (5, now_paid), (16, acts_first), (17, acts_count)]) rfl] at hP
  refine lv_if_eq (tgt := 31) hx hb dX10_buy_26 (by decide) (fun c_26 => ?_) (fun c_26 => ?_)
  · have hf := rf_it c_26 hf
    refine lv_aload_n hx hb dX10_buy_31 rfl (lv_at hl 0 rfl) ?_
    refine gX_x_now hC hP tw_392 dX10_buy_32 ?_
    refine lv_iload_n hx hb dX10_buy_35 rfl (lv_at hl 1 rfl) ?_
    refine lv_iload_n hx hb dX10_buy_36 rfl (lv_at hl 2 rfl) ?_
    obtain ⟨z37, hz37, hf⟩ := rf_bd hf
    refine rf_vi (q0 := 1) (ci := 2) hC (c_X2_has l E a P (rf_upL I [(3, z23.2), (5, now_paid), (16, acts_first), (17, acts_count)]) J (rf_upL A [(1, now_words), (11, acts_cells)]) B now_words v1 v2 rfl hz37) kV_X2_has tw_1165 ⟨Nat.le_of_ble_eq_true rfl, Nat.le_of_ble_eq_true rfl⟩ rfl rfl rfl rfl rfl hP (rf_DX hD) hS rfl hl.1 (rest := []) rfl (Nat.le_of_ble_eq_true rfl) dX10_buy_37 (fun H locs hP hS => ?_)
    refine lv_if_eq (tgt := 49) hx hb dX10_buy_40 (by decide) (fun c_40 => ?_) (fun c_40 => ?_)
    · have hf := rf_it c_40 hf
      refine lv_aload_n hx hb dX10_buy_49 rfl (lv_at hl 0 rfl) ?_
      refine gX_x_acts hC hP tw_399 dX10_buy_50 ?_
      refine lv_aload_n hx hb dX10_buy_53 rfl (lv_at hl 0 rfl) ?_
      refine gX_x_now hC hP tw_392 dX10_buy_54 ?_
      obtain ⟨z57, hz57, hf⟩ := rf_bd hf
      refine rf_vv (q0 := 8) (ci := 8) hC (c_X8_push_acts l E a P (rf_upL I [(3, z23.2), (5, now_paid), (16, acts_first), (17, acts_count)]) J (rf_upL A [(1, now_words), (11, acts_cells)]) B now_hour now_paid now_far acts_room now_words now_wet acts_first acts_count acts_cells e_now_hour rfl e_now_far e_acts_room rfl e_now_wet rfl rfl rfl hz57) kV_X8_push tw_1148 ⟨Nat.le_of_ble_eq_true rfl, Nat.le_of_ble_eq_true rfl⟩ rfl rfl rfl rfl rfl hP (rf_DX hD) hS rfl hl.1 (rest := []) rfl (Nat.le_of_ble_eq_true rfl) dX10_buy_57 (fun H locs hP hS => ?_)
      rw [rf_cat (f := I) (l := [(3, z23.2), (5, now_paid), (16, acts_first), (17, acts_count)]) (lc := [(16, z57.1), (17, z57.2.1)]) (l' := [(3, z23.2), (5, now_paid), (16, z57.1), (17, z57.2.1)]) rfl] at hP
      rw [rf_cat (f := A) (l := [(1, now_words), (11, acts_cells)]) (lc := [(11, z57.2.2)]) (l' := [(1, now_words), (11, z57.2.2)]) rfl] at hP
      refine lv_aload_n hx hb dX10_buy_60 rfl (lv_at hl 0 rfl) ?_
      refine gX_x_now hC hP tw_392 dX10_buy_61 ?_
      refine gX_now_words hC hP tw_53 dX10_buy_64 ?_
      refine lv_iload_n hx hb dX10_buy_67 rfl (lv_at hl 1 rfl) ?_
      refine lv_dup2_11 hx hb dX10_buy_68 rfl rfl ?_
      obtain ⟨hi_69, hf⟩ := rf_gu hf
      refine lX_now_words hC hP hi_69 (f := now_words) rfl dX10_buy_69 ?_
      refine lv_iconst (v := 1) hx hb dX10_buy_70 (by decide) ?_
      refine lv_iload_n hx hb dX10_buy_71 rfl (lv_at hl 2 rfl) ?_
      refine lv_ishl hx hb dX10_buy_72 ?_
      refine lv_ior hx hb dX10_buy_73 ?_
      obtain ⟨hi_74, hf⟩ := rf_gu hf
      refine sX_now_words hC hD hP hS hi_74 (f := now_words) rfl dX10_buy_74 (rf_upL A [(1, upd now_words (Int32.toNatClampNeg v1) ((now_words (Int32.toNatClampNeg v1)) ||| ((1 : Int32) <<< (v2 &&& 31)))), (11, z57.2.2)]) (rf_put rfl) (fun H locs hP hS => ?_)
      refine lv_aload_n hx hb dX10_buy_75 rfl (lv_at hl 0 rfl) ?_
      refine gX_x_now hC hP tw_392 dX10_buy_76 ?_
      refine lv_dup hx hb dX10_buy_79 rfl ?_
      refine gX_now_paid hC hP tw_45 (v := now_paid) rfl dX10_buy_80 ?_
      refine lv_aload_n hx hb dX10_buy_83 rfl (lv_at hl 0 rfl) ?_
      refine gX_x_tale hC hP tw_401 (v := a 10) hp0 dX10_buy_84 ?_
      refine gX_tc_prices hC hP tw_89 dX10_buy_87 ?_
      refine lv_iload_n hx hb dX10_buy_90 rfl (lv_at hl 2 rfl) ?_
      obtain ⟨hi_91, hf⟩ := rf_gu hf
      refine lX_tc_prices hC hP hi_91 (f := tc_prices) e_tc_prices dX10_buy_91 ?_
      refine lv_iadd hx hb dX10_buy_92 ?_
      refine pX_now_paid hC hD hP hS tw_45 dX10_buy_93 (rf_upL I [(3, z23.2), (5, now_paid + (tc_prices (Int32.toNatClampNeg v2))), (16, z57.1), (17, z57.2.1)]) (rf_put rfl) (fun H locs hP hS => ?_)
      refine lv_aload_n hx hb dX10_buy_96 rfl (lv_at hl 0 rfl) ?_
      refine gX_x_now hC hP tw_392 dX10_buy_97 ?_
      refine gX_now_paid hC hP tw_45 (v := now_paid + (tc_prices (Int32.toNatClampNeg v2))) rfl dX10_buy_100 ?_
      obtain rfl := Option.some.inj hf
      exact rf_reti hC hP hS rfl rfl dX10_buy_103
    have hf := rf_ie c_40 hf
    refine lv_aload_n hx hb dX10_buy_43 rfl (lv_at hl 0 rfl) ?_
    refine lv_iconst (v := 5) hx hb dX10_buy_44 (by decide) ?_
    obtain ⟨z45, hz45, hf⟩ := rf_bd hf
    refine rf_vi (q0 := 0) (ci := 10) hC (c_X10_refuse l E a P (rf_upL I [(3, z23.2), (5, now_paid), (16, acts_first), (17, acts_count)]) J (rf_upL A [(1, now_words), (11, acts_cells)]) B z23.2 5 rfl hz45) kV_X10_refuse tw_679 ⟨Nat.le_of_ble_eq_true rfl, Nat.le_of_ble_eq_true rfl⟩ rfl rfl rfl rfl rfl hP (rf_DX hD) hS rfl hl.1 (rest := []) rfl (Nat.le_of_ble_eq_true rfl) dX10_buy_45 (fun H locs hP hS => ?_)
    rw [rf_cat (f := I) (l := [(3, z23.2), (5, now_paid), (16, acts_first), (17, acts_count)]) (lc := [(3, z45.2)]) (l' := [(3, z45.2), (5, now_paid), (16, acts_first), (17, acts_count)]) rfl] at hP
    obtain rfl := Option.some.inj hf
    exact rf_reti hC hP hS rfl rfl dX10_buy_48
  have hf := rf_ie c_26 hf
  refine lv_iconst (v := (-1)) hx hb dX10_buy_29 (by decide) ?_
  obtain rfl := Option.some.inj hf
  exact rf_reti hC hP hS rfl rfl dX10_buy_30
set_option maxHeartbeats 4000000 in
set_option maxRecDepth 100000 in
theorem w_X10_buy_21 {l : Launch} {p : Program} {e : Env} {s : State} {m : MethodId} {args : Array Value} {below : List Frame} {meth : Method} {c : Code} {A0 : Nat → Prop} {E : rf_E} {a P : Nat → Nat} {I : Nat → Int32} {J : Nat → Int64} {A : Nat → Nat → Int32} {B : Nat → Nat → Int64} {now_hour : Int32} {now_far : Int32} {acts_room : Int32} {tc_wordCount : Int32} {tc_personCount : Int32} {now_wet : Nat → Int32} {tc_prices : Nat → Int32} {z : Int32 × Int32 × Int32 × Int32 × Int32 × (Nat → Int32) × (Nat → Int32)} (hC : rf_C p E s m args meth c cX10_buy 3 RX10 (some .int) A0) (hD : va_D A0 (cX E a P I J A B)) (hp0 : P 0 = a 10) (e_now_hour : I 4 = now_hour) (e_now_far : I 7 = now_far) (e_acts_room : I 15 = acts_room) (e_tc_wordCount : I 23 = tc_wordCount) (e_tc_personCount : I 24 = tc_personCount) (e_now_wet : A 2 = now_wet) (e_tc_prices : A 13 = tc_prices) :
    ∀ (v1 : Int32) (v2 : Int32) (x_lastTrouble : Int32) (now_paid : Int32) (acts_first : Int32) (acts_count : Int32) (now_words : Nat → Int32) (acts_cells : Nat → Int32), f_X10_buy_21 now_hour now_far acts_room tc_wordCount tc_personCount now_wet tc_prices v1 v2 x_lastTrouble now_paid acts_first acts_count now_words acts_cells = some z → ∀ (H : Heap) (locs : List Loc) (ls : Array Slot), va_P (rf_D E) vwCl (cX E a P (rf_upL I [(3, x_lastTrouble), (5, now_paid), (16, acts_first), (17, acts_count)]) J (rf_upL A [(1, now_words), (11, acts_cells)]) B) H → va_S A0 s.heap H locs → lv_has ls 3 [(0, .ref (a 0)), (1, .int v1), (2, .int v2)] → W p l e ({ frames := 7, cells := 0, slots := 0, locals := 222 }) s m args below meth c H locs 0 0 (rf_QI below args s E A0 z.1 (cX E a P (rf_upL I [(3, z.2.1), (5, z.2.2.1), (16, z.2.2.2.1), (17, z.2.2.2.2.1)]) J (rf_upL A [(1, z.2.2.2.2.2.1), (11, z.2.2.2.2.2.2)]) B)) (F0 m 21 ls [.ref (a 0)]) := by
  have hx := hC.1
  have hb := hC.2.1
  intro v1 v2 x_lastTrouble now_paid acts_first acts_count now_words acts_cells hf H locs ls hP hS hl
  unfold f_X10_buy_21 at hf
  refine lv_iconst (v := 0) hx hb dX10_buy_21 (by decide) ?_
  exact w_X10_buy_22 hC hD hp0 e_now_hour e_now_far e_acts_room e_tc_wordCount e_tc_personCount e_now_wet e_tc_prices v1 v2 0 x_lastTrouble now_paid acts_first acts_count now_words acts_cells hf _ _ _ hP hS (lv_sub hl [0, 1, 2] rfl)
set_option maxHeartbeats 4000000 in
set_option maxRecDepth 100000 in
theorem c_X10_buy (l : Launch) (E : rf_E) (a P : Nat → Nat) (I : Nat → Int32) (J : Nat → Int64) (A : Nat → Nat → Int32) (B : Nat → Nat → Int64) (now_hour : Int32) (now_far : Int32) (acts_room : Int32) (tc_wordCount : Int32) (tc_personCount : Int32) (now_wet : Nat → Int32) (tc_prices : Nat → Int32) (x_lastTrouble : Int32) (now_paid : Int32) (acts_first : Int32) (acts_count : Int32) (now_words : Nat → Int32) (acts_cells : Nat → Int32) (v1 : Int32) (v2 : Int32) {z : Int32 × Int32 × Int32 × Int32 × Int32 × (Nat → Int32) × (Nat → Int32)} (hp0 : P 0 = a 10) (e_now_hour : I 4 = now_hour) (e_now_far : I 7 = now_far) (e_acts_room : I 15 = acts_room) (e_tc_wordCount : I 23 = tc_wordCount) (e_tc_personCount : I 24 = tc_personCount) (e_now_wet : A 2 = now_wet) (e_tc_prices : A 13 = tc_prices) (e_x_lastTrouble : I 3 = x_lastTrouble) (e_now_paid : I 5 = now_paid) (e_acts_first : I 16 = acts_first) (e_acts_count : I 17 = acts_count) (e_now_words : A 1 = now_words) (e_acts_cells : A 11 = acts_cells) (hf : f_X10_buy now_hour now_far acts_room tc_wordCount tc_personCount now_wet tc_prices x_lastTrouble now_paid acts_first acts_count now_words acts_cells v1 v2 = some z) : rf_MI l yX10_buy cX10_buy 3 (some .int) ({ frames := 7, cells := 0, slots := 0, locals := 222 }) E [.ref (a 0), .int v1, .int v2] (cX E a P I J A B) z.1 (cX E a P (rf_upL I [(3, z.2.1), (5, z.2.2.1), (16, z.2.2.2.1), (17, z.2.2.2.2.1)]) J (rf_upL A [(1, z.2.2.2.2.2.1), (11, z.2.2.2.2.2.2)]) B) := by
  unfold f_X10_buy at hf
  refine rf_ofI (by decide) (Nat.le_of_ble_eq_true rfl) ?_
  intro p e s m below meth c A0 ls hC hD hP hS hl
  have hC : rf_C p E s m _ meth c cX10_buy 3 RX10 (some .int) A0 := hC
  have hx := hC.1
  have hb := hC.2.1
  have hl : lv_has ls 3 [(0, .ref (a 0)), (1, .int v1), (2, .int v2)] := hl
  have hP : va_P (rf_D E) vwCl (cX E a P (rf_upL I [(3, x_lastTrouble), (5, now_paid), (16, acts_first), (17, acts_count)]) J (rf_upL A [(1, now_words), (11, acts_cells)]) B) s.heap := by
    rw [rf_self (f := I) [(3, x_lastTrouble), (5, now_paid), (16, acts_first), (17, acts_count)] (rf_fa1 e_x_lastTrouble (rf_fa1 e_now_paid (rf_fa1 e_acts_first (rf_fa1 e_acts_count rf_fa0))))]
    rw [rf_self (f := A) [(1, now_words), (11, acts_cells)] (rf_fa1 e_now_words (rf_fa1 e_acts_cells rf_fa0))]
    exact hP
  refine lv_aload_n hx hb dX10_buy_0 rfl (lv_at hl 0 rfl) ?_
  refine lv_aload_n hx hb dX10_buy_1 rfl (lv_at hl 0 rfl) ?_
  refine lv_iload_n hx hb dX10_buy_2 rfl (lv_at hl 1 rfl) ?_
  obtain ⟨z3, hz3, hf⟩ := rf_bd hf
  refine rf_vi (q0 := 0) (ci := 10) hC (c_X10_isPerson l E a P (rf_upL I [(3, x_lastTrouble), (5, now_paid), (16, acts_first), (17, acts_count)]) J (rf_upL A [(1, now_words), (11, acts_cells)]) B tc_personCount v1 hp0 e_tc_personCount hz3) kV_X10_isPerson tw_750 ⟨Nat.le_of_ble_eq_true rfl, Nat.le_of_ble_eq_true rfl⟩ rfl rfl rfl rfl rfl hP (rf_DX hD) hS rfl hl.1 (rest := [.ref (a 0)]) rfl (Nat.le_of_ble_eq_true rfl) dX10_buy_3 (fun H locs hP hS => ?_)
  refine lv_if_eq (tgt := 21) hx hb dX10_buy_6 (by decide) (fun c_6 => ?_) (fun c_6 => ?_)
  · have hf := rf_it c_6 hf
    exact w_X10_buy_21 hC hD hp0 e_now_hour e_now_far e_acts_room e_tc_wordCount e_tc_personCount e_now_wet e_tc_prices v1 v2 x_lastTrouble now_paid acts_first acts_count now_words acts_cells hf _ _ _ hP hS (lv_sub hl [0, 1, 2] rfl)
  have hf := rf_ie c_6 hf
  refine lv_aload_n hx hb dX10_buy_9 rfl (lv_at hl 0 rfl) ?_
  refine lv_iload_n hx hb dX10_buy_10 rfl (lv_at hl 2 rfl) ?_
  obtain ⟨z11, hz11, hf⟩ := rf_bd hf
  refine rf_vi (q0 := 0) (ci := 10) hC (c_X10_isWord l E a P (rf_upL I [(3, x_lastTrouble), (5, now_paid), (16, acts_first), (17, acts_count)]) J (rf_upL A [(1, now_words), (11, acts_cells)]) B tc_wordCount v2 hp0 e_tc_wordCount hz11) kV_X10_isWord tw_721 ⟨Nat.le_of_ble_eq_true rfl, Nat.le_of_ble_eq_true rfl⟩ rfl rfl rfl rfl rfl hP (rf_DX hD) hS rfl hl.1 (rest := [.ref (a 0)]) rfl (Nat.le_of_ble_eq_true rfl) dX10_buy_11 (fun H locs hP hS => ?_)
  refine lv_if_eq (tgt := 21) hx hb dX10_buy_14 (by decide) (fun c_14 => ?_) (fun c_14 => ?_)
  · have hf := rf_it c_14 hf
    exact w_X10_buy_21 hC hD hp0 e_now_hour e_now_far e_acts_room e_tc_wordCount e_tc_personCount e_now_wet e_tc_prices v1 v2 x_lastTrouble now_paid acts_first acts_count now_words acts_cells hf _ _ _ hP hS (lv_sub hl [0, 1, 2] rfl)
  have hf := rf_ie c_14 hf
  refine lv_iconst (v := 1) hx hb dX10_buy_17 (by decide) ?_
  refine lv_goto (tgt := 22) hx hb dX10_buy_18 (by decide) ?_
  exact w_X10_buy_22 hC hD hp0 e_now_hour e_now_far e_acts_room e_tc_wordCount e_tc_personCount e_now_wet e_tc_prices v1 v2 1 x_lastTrouble now_paid acts_first acts_count now_words acts_cells hf _ _ _ hP hS (lv_sub hl [0, 1, 2] rfl)
set_option maxHeartbeats 4000000 in
set_option maxRecDepth 100000 in
theorem w_X10_hours_21 {l : Launch} {p : Program} {e : Env} {s : State} {m : MethodId} {args : Array Value} {below : List Frame} {meth : Method} {c : Code} {A0 : Nat → Prop} {E : rf_E} {a P : Nat → Nat} {I : Nat → Int32} {J : Nat → Int64} {A : Nat → Nat → Int32} {B : Nat → Nat → Int64} {now_paid : Int32} {now_far : Int32} {acts_room : Int32} {tc_personCount : Int32} {now_words : Nat → Int32} {now_wet : Nat → Int32} {z : Int32 × Int32 × Int32 × Int32 × Int32 × (Nat → Int32)} (hC : rf_C p E s m args meth c cX10_hours 2 RX10 (some .int) A0) (hD : va_D A0 (cX E a P I J A B)) (hp0 : P 0 = a 10) (e_now_paid : I 5 = now_paid) (e_now_far : I 7 = now_far) (e_acts_room : I 15 = acts_room) (e_tc_personCount : I 24 = tc_personCount) (e_now_words : A 1 = now_words) (e_now_wet : A 2 = now_wet) :
    ∀ (v1 : Int32) (s1 : Int32) (s2 : Int32) (x_lastTrouble : Int32) (now_hour : Int32) (acts_first : Int32) (acts_count : Int32) (acts_cells : Nat → Int32), f_X10_hours_21 now_paid now_far acts_room tc_personCount now_words now_wet v1 s1 s2 x_lastTrouble now_hour acts_first acts_count acts_cells = some z → ∀ (H : Heap) (locs : List Loc) (ls : Array Slot), va_P (rf_D E) vwCl (cX E a P (rf_upL I [(3, x_lastTrouble), (4, now_hour), (16, acts_first), (17, acts_count)]) J (rf_upL A [(11, acts_cells)]) B) H → va_S A0 s.heap H locs → lv_has ls 2 [(0, .ref (a 0)), (1, .int v1)] → W p l e ({ frames := 7, cells := 0, slots := 0, locals := 222 }) s m args below meth c H locs 0 0 (rf_QI below args s E A0 z.1 (cX E a P (rf_upL I [(3, z.2.1), (4, z.2.2.1), (16, z.2.2.2.1), (17, z.2.2.2.2.1)]) J (rf_upL A [(11, z.2.2.2.2.2)]) B)) (F0 m 21 ls [.int s2, .int s1, .ref (a 0)]) := by
  have hx := hC.1
  have hb := hC.2.1
  intro v1 s1 s2 x_lastTrouble now_hour acts_first acts_count acts_cells hf H locs ls hP hS hl
  unfold f_X10_hours_21 at hf
  obtain ⟨z21, hz21, hf⟩ := rf_bd hf
  refine rf_vi (q0 := 0) (ci := 10) hC (c_X10_refused l E a P (rf_upL I [(3, x_lastTrouble), (4, now_hour), (16, acts_first), (17, acts_count)]) J (rf_upL A [(11, acts_cells)]) B x_lastTrouble s1 s2 rfl hz21) kV_X10_refused tw_455 ⟨Nat.le_of_ble_eq_true rfl, Nat.le_of_ble_eq_true rfl⟩ rfl rfl rfl rfl rfl hP (rf_DX hD) hS rfl hl.1 (rest := []) rfl (Nat.le_of_ble_eq_true rfl) dX10_hours_21 (fun H locs hP hS => ?_)
  rw [rf_cat (f := I) (l := [(3, x_lastTrouble), (4, now_hour), (16, acts_first), (17, acts_count)]) (lc := [(3, z21.2)]) (l' := [(3, z21.2), (4, now_hour), (16, acts_first), (17, acts_count)]) rfl] at hP
  refine lv_if_eq (tgt := 29) hx hb dX10_hours_24 (by decide) (fun c_24 => ?_) (fun c_24 => ?_)
  · have hf := rf_it c_24 hf
    refine lv_aload_n hx hb dX10_hours_29 rfl (lv_at hl 0 rfl) ?_
    refine gX_x_acts hC hP tw_399 dX10_hours_30 ?_
    refine lv_aload_n hx hb dX10_hours_33 rfl (lv_at hl 0 rfl) ?_
    refine gX_x_now hC hP tw_392 dX10_hours_34 ?_
    obtain ⟨z37, hz37, hf⟩ := rf_bd hf
    refine rf_vv (q0 := 8) (ci := 8) hC (c_X8_push_acts l E a P (rf_upL I [(3, z21.2), (4, now_hour), (16, acts_first), (17, acts_count)]) J (rf_upL A [(11, acts_cells)]) B now_hour now_paid now_far acts_room now_words now_wet acts_first acts_count acts_cells rfl e_now_paid e_now_far e_acts_room e_now_words e_now_wet rfl rfl rfl hz37) kV_X8_push tw_1148 ⟨Nat.le_of_ble_eq_true rfl, Nat.le_of_ble_eq_true rfl⟩ rfl rfl rfl rfl rfl hP (rf_DX hD) hS rfl hl.1 (rest := []) rfl (Nat.le_of_ble_eq_true rfl) dX10_hours_37 (fun H locs hP hS => ?_)
    rw [rf_cat (f := I) (l := [(3, z21.2), (4, now_hour), (16, acts_first), (17, acts_count)]) (lc := [(16, z37.1), (17, z37.2.1)]) (l' := [(3, z21.2), (4, now_hour), (16, z37.1), (17, z37.2.1)]) rfl] at hP
    rw [rf_cat (f := A) (l := [(11, acts_cells)]) (lc := [(11, z37.2.2)]) (l' := [(11, z37.2.2)]) rfl] at hP
    refine lv_aload_n hx hb dX10_hours_40 rfl (lv_at hl 0 rfl) ?_
    refine gX_x_now hC hP tw_392 dX10_hours_41 ?_
    refine lv_aload_n hx hb dX10_hours_44 rfl (lv_at hl 0 rfl) ?_
    refine gX_x_now hC hP tw_392 dX10_hours_45 ?_
    refine gX_now_hour hC hP tw_42 (v := now_hour) rfl dX10_hours_48 ?_
    refine lv_iload_n hx hb dX10_hours_51 rfl (lv_at hl 1 rfl) ?_
    refine lv_iadd hx hb dX10_hours_52 ?_
    refine lv_bipush (v := 24) hx hb dX10_hours_53 (by decide) ?_
    refine lv_irem hx hb dX10_hours_55 (by decide) ?_
    refine pX_now_hour hC hD hP hS tw_42 dX10_hours_56 (rf_upL I [(3, z21.2), (4, (now_hour + v1) - (now_hour + v1) / 24 * 24), (16, z37.1), (17, z37.2.1)]) (rf_put rfl) (fun H locs hP hS => ?_)
    refine lv_aload_n hx hb dX10_hours_59 rfl (lv_at hl 0 rfl) ?_
    refine gX_x_now hC hP tw_392 dX10_hours_60 ?_
    refine gX_now_hour hC hP tw_42 (v := (now_hour + v1) - (now_hour + v1) / 24 * 24) rfl dX10_hours_63 ?_
    obtain rfl := Option.some.inj hf
    exact rf_reti hC hP hS rfl rfl dX10_hours_66
  have hf := rf_ie c_24 hf
  refine lv_iconst (v := (-1)) hx hb dX10_hours_27 (by decide) ?_
  obtain rfl := Option.some.inj hf
  exact rf_reti hC hP hS rfl rfl dX10_hours_28
set_option maxHeartbeats 4000000 in
set_option maxRecDepth 100000 in
theorem w_X10_hours_20 {l : Launch} {p : Program} {e : Env} {s : State} {m : MethodId} {args : Array Value} {below : List Frame} {meth : Method} {c : Code} {A0 : Nat → Prop} {E : rf_E} {a P : Nat → Nat} {I : Nat → Int32} {J : Nat → Int64} {A : Nat → Nat → Int32} {B : Nat → Nat → Int64} {now_paid : Int32} {now_far : Int32} {acts_room : Int32} {tc_personCount : Int32} {now_words : Nat → Int32} {now_wet : Nat → Int32} {z : Int32 × Int32 × Int32 × Int32 × Int32 × (Nat → Int32)} (hC : rf_C p E s m args meth c cX10_hours 2 RX10 (some .int) A0) (hD : va_D A0 (cX E a P I J A B)) (hp0 : P 0 = a 10) (e_now_paid : I 5 = now_paid) (e_now_far : I 7 = now_far) (e_acts_room : I 15 = acts_room) (e_tc_personCount : I 24 = tc_personCount) (e_now_words : A 1 = now_words) (e_now_wet : A 2 = now_wet) :
    ∀ (v1 : Int32) (s1 : Int32) (x_lastTrouble : Int32) (now_hour : Int32) (acts_first : Int32) (acts_count : Int32) (acts_cells : Nat → Int32), f_X10_hours_20 now_paid now_far acts_room tc_personCount now_words now_wet v1 s1 x_lastTrouble now_hour acts_first acts_count acts_cells = some z → ∀ (H : Heap) (locs : List Loc) (ls : Array Slot), va_P (rf_D E) vwCl (cX E a P (rf_upL I [(3, x_lastTrouble), (4, now_hour), (16, acts_first), (17, acts_count)]) J (rf_upL A [(11, acts_cells)]) B) H → va_S A0 s.heap H locs → lv_has ls 2 [(0, .ref (a 0)), (1, .int v1)] → W p l e ({ frames := 7, cells := 0, slots := 0, locals := 222 }) s m args below meth c H locs 0 0 (rf_QI below args s E A0 z.1 (cX E a P (rf_upL I [(3, z.2.1), (4, z.2.2.1), (16, z.2.2.2.1), (17, z.2.2.2.2.1)]) J (rf_upL A [(11, z.2.2.2.2.2)]) B)) (F0 m 20 ls [.int s1, .ref (a 0)]) := by
  have hx := hC.1
  have hb := hC.2.1
  intro v1 s1 x_lastTrouble now_hour acts_first acts_count acts_cells hf H locs ls hP hS hl
  unfold f_X10_hours_20 at hf
  refine lv_iconst (v := 0) hx hb dX10_hours_20 (by decide) ?_
  exact w_X10_hours_21 hC hD hp0 e_now_paid e_now_far e_acts_room e_tc_personCount e_now_words e_now_wet v1 s1 0 x_lastTrouble now_hour acts_first acts_count acts_cells hf _ _ _ hP hS (lv_sub hl [0, 1] rfl)
set_option maxHeartbeats 4000000 in
set_option maxRecDepth 100000 in
theorem c_X10_hours (l : Launch) (E : rf_E) (a P : Nat → Nat) (I : Nat → Int32) (J : Nat → Int64) (A : Nat → Nat → Int32) (B : Nat → Nat → Int64) (now_paid : Int32) (now_far : Int32) (acts_room : Int32) (tc_personCount : Int32) (now_words : Nat → Int32) (now_wet : Nat → Int32) (x_lastTrouble : Int32) (now_hour : Int32) (acts_first : Int32) (acts_count : Int32) (acts_cells : Nat → Int32) (v1 : Int32) {z : Int32 × Int32 × Int32 × Int32 × Int32 × (Nat → Int32)} (hp0 : P 0 = a 10) (e_now_paid : I 5 = now_paid) (e_now_far : I 7 = now_far) (e_acts_room : I 15 = acts_room) (e_tc_personCount : I 24 = tc_personCount) (e_now_words : A 1 = now_words) (e_now_wet : A 2 = now_wet) (e_x_lastTrouble : I 3 = x_lastTrouble) (e_now_hour : I 4 = now_hour) (e_acts_first : I 16 = acts_first) (e_acts_count : I 17 = acts_count) (e_acts_cells : A 11 = acts_cells) (hf : f_X10_hours now_paid now_far acts_room tc_personCount now_words now_wet x_lastTrouble now_hour acts_first acts_count acts_cells v1 = some z) : rf_MI l yX10_hours cX10_hours 2 (some .int) ({ frames := 7, cells := 0, slots := 0, locals := 222 }) E [.ref (a 0), .int v1] (cX E a P I J A B) z.1 (cX E a P (rf_upL I [(3, z.2.1), (4, z.2.2.1), (16, z.2.2.2.1), (17, z.2.2.2.2.1)]) J (rf_upL A [(11, z.2.2.2.2.2)]) B) := by
  unfold f_X10_hours at hf
  refine rf_ofI (by decide) (Nat.le_of_ble_eq_true rfl) ?_
  intro p e s m below meth c A0 ls hC hD hP hS hl
  have hC : rf_C p E s m _ meth c cX10_hours 2 RX10 (some .int) A0 := hC
  have hx := hC.1
  have hb := hC.2.1
  have hl : lv_has ls 2 [(0, .ref (a 0)), (1, .int v1)] := hl
  have hP : va_P (rf_D E) vwCl (cX E a P (rf_upL I [(3, x_lastTrouble), (4, now_hour), (16, acts_first), (17, acts_count)]) J (rf_upL A [(11, acts_cells)]) B) s.heap := by
    rw [rf_self (f := I) [(3, x_lastTrouble), (4, now_hour), (16, acts_first), (17, acts_count)] (rf_fa1 e_x_lastTrouble (rf_fa1 e_now_hour (rf_fa1 e_acts_first (rf_fa1 e_acts_count rf_fa0))))]
    rw [rf_self (f := A) [(11, acts_cells)] (rf_fa1 e_acts_cells rf_fa0)]
    exact hP
  refine lv_aload_n hx hb dX10_hours_0 rfl (lv_at hl 0 rfl) ?_
  refine lv_aload_n hx hb dX10_hours_1 rfl (lv_at hl 0 rfl) ?_
  obtain ⟨z2, hz2, hf⟩ := rf_bd hf
  refine rf_vi (q0 := 0) (ci := 10) hC (c_X10_hasFerry l E a P (rf_upL I [(3, x_lastTrouble), (4, now_hour), (16, acts_first), (17, acts_count)]) J (rf_upL A [(11, acts_cells)]) B tc_personCount hp0 e_tc_personCount hz2) kV_X10_hasFerry tw_762 ⟨Nat.le_of_ble_eq_true rfl, Nat.le_of_ble_eq_true rfl⟩ rfl rfl rfl rfl rfl hP (rf_DX hD) hS rfl hl.1 (rest := [.ref (a 0)]) rfl (Nat.le_of_ble_eq_true rfl) dX10_hours_2 (fun H locs hP hS => ?_)
  refine lv_iload_n hx hb dX10_hours_5 rfl (lv_at hl 1 rfl) ?_
  refine lv_iconst (v := 1) hx hb dX10_hours_6 (by decide) ?_
  refine lv_icmp_lt (tgt := 20) hx hb dX10_hours_7 (by decide) (fun c_7 => ?_) (fun c_7 => ?_)
  · have hf := rf_it c_7 hf
    exact w_X10_hours_20 hC hD hp0 e_now_paid e_now_far e_acts_room e_tc_personCount e_now_words e_now_wet v1 z2 x_lastTrouble now_hour acts_first acts_count acts_cells hf _ _ _ hP hS (lv_sub hl [0, 1] rfl)
  have hf := rf_ie c_7 hf
  refine lv_iload_n hx hb dX10_hours_10 rfl (lv_at hl 1 rfl) ?_
  refine lv_bipush (v := 24) hx hb dX10_hours_11 (by decide) ?_
  refine lv_icmp_ge (tgt := 20) hx hb dX10_hours_13 (by decide) (fun c_13 => ?_) (fun c_13 => ?_)
  · have hf := rf_it c_13 hf
    exact w_X10_hours_20 hC hD hp0 e_now_paid e_now_far e_acts_room e_tc_personCount e_now_words e_now_wet v1 z2 x_lastTrouble now_hour acts_first acts_count acts_cells hf _ _ _ hP hS (lv_sub hl [0, 1] rfl)
  have hf := rf_ie c_13 hf
  refine lv_iconst (v := 1) hx hb dX10_hours_16 (by decide) ?_
  refine lv_goto (tgt := 21) hx hb dX10_hours_17 (by decide) ?_
  exact w_X10_hours_21 hC hD hp0 e_now_paid e_now_far e_acts_room e_tc_personCount e_now_words e_now_wet v1 z2 1 x_lastTrouble now_hour acts_first acts_count acts_cells hf _ _ _ hP hS (lv_sub hl [0, 1] rfl)
set_option maxHeartbeats 4000000 in
set_option maxRecDepth 100000 in
theorem c_X8_copyTo_acts (l : Launch) (E : rf_E) (a P : Nat → Nat) (I : Nat → Int32) (J : Nat → Int64) (A : Nat → Nat → Int32) (B : Nat → Nat → Int64) (h_room : Int32) (h_first : Int32) (h_cells : Nat → Int32) (now_hour : Int32) (now_paid : Int32) (now_far : Int32) (now_words : Nat → Int32) (now_wet : Nat → Int32) (v1 : Int32) {z : Int32 × Int32 × Int32 × (Nat → Int32) × (Nat → Int32)} (e_h_room : I 15 = h_room) (e_h_first : I 16 = h_first) (e_h_cells : A 11 = h_cells) (e_now_hour : I 4 = now_hour) (e_now_paid : I 5 = now_paid) (e_now_far : I 7 = now_far) (e_now_words : A 1 = now_words) (e_now_wet : A 2 = now_wet) (hf : f_X8_copyTo_acts h_room h_first h_cells now_hour now_paid now_far now_words now_wet v1 = some z) : rf_MV l yX8_copyTo cX8_copyTo 4 ({ frames := 6, cells := 0, slots := 0, locals := 200 }) E [.ref (a 8), .int v1, .ref (a 1)] (cX E a P I J A B) (cX E a P (rf_upL I [(4, z.1), (5, z.2.1), (7, z.2.2.1)]) J (rf_upL A [(1, z.2.2.2.1), (2, z.2.2.2.2)]) B) := by
  unfold f_X8_copyTo_acts at hf
  refine rf_ofV (by decide) (Nat.le_of_ble_eq_true rfl) ?_
  intro p e s m below meth c A0 ls hC hD hP hS hl
  have hC : rf_C p E s m _ meth c cX8_copyTo 4 RX8 (none) A0 := hC
  have hx := hC.1
  have hb := hC.2.1
  have hl : lv_has ls 4 [(0, .ref (a 8)), (1, .int v1), (2, .ref (a 1))] := hl
  have hP : va_P (rf_D E) vwCl (cX E a P (rf_upL I [(4, now_hour), (5, now_paid), (7, now_far)]) J (rf_upL A [(1, now_words), (2, now_wet)]) B) s.heap := by
    rw [rf_self (f := I) [(4, now_hour), (5, now_paid), (7, now_far)] (rf_fa1 e_now_hour (rf_fa1 e_now_paid (rf_fa1 e_now_far rf_fa0)))]
    rw [rf_self (f := A) [(1, now_words), (2, now_wet)] (rf_fa1 e_now_words (rf_fa1 e_now_wet rf_fa0))]
    exact hP
  refine lv_aload_n hx hb dX8_copyTo_0 rfl (lv_at hl 0 rfl) ?_
  refine lv_iload_n hx hb dX8_copyTo_1 rfl (lv_at hl 1 rfl) ?_
  obtain ⟨z2, hz2, hf⟩ := rf_bd hf
  refine rf_vi (q0 := 8) (ci := 8) hC (c_X8_placeOf_acts l E a P (rf_upL I [(4, now_hour), (5, now_paid), (7, now_far)]) J (rf_upL A [(1, now_words), (2, now_wet)]) B h_room h_first v1 e_h_room e_h_first hz2) kV_X8_placeOf tw_1152 ⟨Nat.le_of_ble_eq_true rfl, Nat.le_of_ble_eq_true rfl⟩ rfl rfl rfl rfl rfl hP (rf_DX hD) hS rfl hl.1 (rest := []) rfl (Nat.le_of_ble_eq_true rfl) dX8_copyTo_2 (fun H locs hP hS => ?_)
  refine lv_istore_n (lv' := [(3, .int z2), (0, .ref (a 8)), (1, .int v1), (2, .ref (a 1))]) hx hb dX8_copyTo_5 rfl hl (by decide) rfl (fun ls hl => ?_)
  refine lv_aload_n hx hb dX8_copyTo_6 rfl (lv_at hl 3 rfl) ?_
  refine lv_aload_n hx hb dX8_copyTo_7 rfl (lv_at hl 1 rfl) ?_
  refine gX_acts_cells hC hP tw_316 dX8_copyTo_8 ?_
  refine lv_iload_n hx hb dX8_copyTo_11 rfl (lv_at hl 0 rfl) ?_
  obtain ⟨hi_12, hf⟩ := rf_gu hf
  refine lX_acts_cells hC hP hi_12 (f := h_cells) e_h_cells dX8_copyTo_12 ?_
  refine pX_now_hour hC hD hP hS tw_41 dX8_copyTo_13 (rf_upL I [(4, h_cells (Int32.toNatClampNeg z2)), (5, now_paid), (7, now_far)]) (rf_put rfl) (fun H locs hP hS => ?_)
  refine lv_aload_n hx hb dX8_copyTo_16 rfl (lv_at hl 3 rfl) ?_
  refine lv_aload_n hx hb dX8_copyTo_17 rfl (lv_at hl 1 rfl) ?_
  refine gX_acts_cells hC hP tw_316 dX8_copyTo_18 ?_
  refine lv_iload_n hx hb dX8_copyTo_21 rfl (lv_at hl 0 rfl) ?_
  refine lv_iconst (v := 1) hx hb dX8_copyTo_22 (by decide) ?_
  refine lv_iadd hx hb dX8_copyTo_23 ?_
  obtain ⟨hi_24, hf⟩ := rf_gu hf
  refine lX_acts_cells hC hP hi_24 (f := h_cells) e_h_cells dX8_copyTo_24 ?_
  refine pX_now_paid hC hD hP hS tw_44 dX8_copyTo_25 (rf_upL I [(4, h_cells (Int32.toNatClampNeg z2)), (5, h_cells (Int32.toNatClampNeg (z2 + 1))), (7, now_far)]) (rf_put rfl) (fun H locs hP hS => ?_)
  refine lv_aload_n hx hb dX8_copyTo_28 rfl (lv_at hl 3 rfl) ?_
  refine lv_aload_n hx hb dX8_copyTo_29 rfl (lv_at hl 1 rfl) ?_
  refine gX_acts_cells hC hP tw_316 dX8_copyTo_30 ?_
  refine lv_iload_n hx hb dX8_copyTo_33 rfl (lv_at hl 0 rfl) ?_
  refine lv_iconst (v := 2) hx hb dX8_copyTo_34 (by decide) ?_
  refine lv_iadd hx hb dX8_copyTo_35 ?_
  obtain ⟨hi_36, hf⟩ := rf_gu hf
  refine lX_acts_cells hC hP hi_36 (f := h_cells) e_h_cells dX8_copyTo_36 ?_
  refine pX_now_far hC hD hP hS tw_48 dX8_copyTo_37 (rf_upL I [(4, h_cells (Int32.toNatClampNeg z2)), (5, h_cells (Int32.toNatClampNeg (z2 + 1))), (7, h_cells (Int32.toNatClampNeg (z2 + 2)))]) (rf_put rfl) (fun H locs hP hS => ?_)
  refine lv_aload_n hx hb dX8_copyTo_40 rfl (lv_at hl 1 rfl) ?_
  refine gX_acts_cells hC hP tw_316 dX8_copyTo_41 ?_
  refine lv_iload_n hx hb dX8_copyTo_44 rfl (lv_at hl 0 rfl) ?_
  refine lv_iconst (v := 3) hx hb dX8_copyTo_45 (by decide) ?_
  refine lv_iadd hx hb dX8_copyTo_46 ?_
  refine lv_aload_n hx hb dX8_copyTo_47 rfl (lv_at hl 3 rfl) ?_
  refine gX_now_words hC hP tw_51 dX8_copyTo_48 ?_
  refine lv_iconst (v := 0) hx hb dX8_copyTo_51 (by decide) ?_
  refine lv_bipush (v := 8) hx hb dX8_copyTo_52 (by decide) ?_
  obtain ⟨hi_54, hf⟩ := rf_gu hf
  refine yX_acts_cells_now_words hC hD hP hS hi_54 (f := h_cells) e_h_cells (g := now_words) rfl tw_1156 hl.1 (Nat.le_of_ble_eq_true rfl) ⟨Nat.le_of_ble_eq_true rfl, Nat.le_of_ble_eq_true rfl⟩ dX8_copyTo_54 (rf_upL A [(1, va_cpy h_cells now_words (Int32.toNatClampNeg (z2 + 3)) (Int32.toNatClampNeg 0) (Int32.toNatClampNeg 8)), (2, now_wet)]) (rf_put rfl) (fun H locs hP hS => ?_)
  refine lv_aload_n hx hb dX8_copyTo_57 rfl (lv_at hl 1 rfl) ?_
  refine gX_acts_cells hC hP tw_316 dX8_copyTo_58 ?_
  refine lv_iload_n hx hb dX8_copyTo_61 rfl (lv_at hl 0 rfl) ?_
  refine lv_iconst (v := 3) hx hb dX8_copyTo_62 (by decide) ?_
  refine lv_iadd hx hb dX8_copyTo_63 ?_
  refine lv_bipush (v := 8) hx hb dX8_copyTo_64 (by decide) ?_
  refine lv_iadd hx hb dX8_copyTo_66 ?_
  refine lv_aload_n hx hb dX8_copyTo_67 rfl (lv_at hl 3 rfl) ?_
  refine gX_now_wet hC hP tw_55 dX8_copyTo_68 ?_
  refine lv_iconst (v := 0) hx hb dX8_copyTo_71 (by decide) ?_
  refine lv_bipush (v := 8) hx hb dX8_copyTo_72 (by decide) ?_
  obtain ⟨hi_74, hf⟩ := rf_gu hf
  refine yX_acts_cells_now_wet hC hD hP hS hi_74 (f := h_cells) e_h_cells (g := now_wet) rfl tw_1156 hl.1 (Nat.le_of_ble_eq_true rfl) ⟨Nat.le_of_ble_eq_true rfl, Nat.le_of_ble_eq_true rfl⟩ dX8_copyTo_74 (rf_upL A [(1, va_cpy h_cells now_words (Int32.toNatClampNeg (z2 + 3)) (Int32.toNatClampNeg 0) (Int32.toNatClampNeg 8)), (2, va_cpy h_cells now_wet (Int32.toNatClampNeg ((z2 + 3) + 8)) (Int32.toNatClampNeg 0) (Int32.toNatClampNeg 8))]) (rf_put rfl) (fun H locs hP hS => ?_)
  obtain rfl := Option.some.inj hf
  exact rf_retv hC hP hS rfl dX8_copyTo_77
set_option maxHeartbeats 4000000 in
set_option maxRecDepth 100000 in
theorem c_X8_pop_acts (l : Launch) (E : rf_E) (a P : Nat → Nat) (I : Nat → Int32) (J : Nat → Int64) (A : Nat → Nat → Int32) (B : Nat → Nat → Int64) (h_room : Int32) (h_first : Int32) (h_cells : Nat → Int32) (now_hour : Int32) (now_paid : Int32) (now_far : Int32) (h_count : Int32) (now_words : Nat → Int32) (now_wet : Nat → Int32) {z : Int32 × Int32 × Int32 × Int32 × (Nat → Int32) × (Nat → Int32)} (e_h_room : I 15 = h_room) (e_h_first : I 16 = h_first) (e_h_cells : A 11 = h_cells) (e_now_hour : I 4 = now_hour) (e_now_paid : I 5 = now_paid) (e_now_far : I 7 = now_far) (e_h_count : I 17 = h_count) (e_now_words : A 1 = now_words) (e_now_wet : A 2 = now_wet) (hf : f_X8_pop_acts h_room h_first h_cells now_hour now_paid now_far h_count now_words now_wet = some z) : rf_MV l yX8_pop cX8_pop 2 ({ frames := 7, cells := 0, slots := 0, locals := 223 }) E [.ref (a 8), .ref (a 1)] (cX E a P I J A B) (cX E a P (rf_upL I [(4, z.1), (5, z.2.1), (7, z.2.2.1), (17, z.2.2.2.1)]) J (rf_upL A [(1, z.2.2.2.2.1), (2, z.2.2.2.2.2)]) B) := by
  unfold f_X8_pop_acts at hf
  refine rf_ofV (by decide) (Nat.le_of_ble_eq_true rfl) ?_
  intro p e s m below meth c A0 ls hC hD hP hS hl
  have hC : rf_C p E s m _ meth c cX8_pop 2 RX8 (none) A0 := hC
  have hx := hC.1
  have hb := hC.2.1
  have hl : lv_has ls 2 [(0, .ref (a 8)), (1, .ref (a 1))] := hl
  have hP : va_P (rf_D E) vwCl (cX E a P (rf_upL I [(4, now_hour), (5, now_paid), (7, now_far), (17, h_count)]) J (rf_upL A [(1, now_words), (2, now_wet)]) B) s.heap := by
    rw [rf_self (f := I) [(4, now_hour), (5, now_paid), (7, now_far), (17, h_count)] (rf_fa1 e_now_hour (rf_fa1 e_now_paid (rf_fa1 e_now_far (rf_fa1 e_h_count rf_fa0))))]
    rw [rf_self (f := A) [(1, now_words), (2, now_wet)] (rf_fa1 e_now_words (rf_fa1 e_now_wet rf_fa0))]
    exact hP
  refine lv_aload_n hx hb dX8_pop_0 rfl (lv_at hl 0 rfl) ?_
  refine gX_acts_count hC hP tw_318 (v := h_count) rfl dX8_pop_1 ?_
  refine lv_if_le (tgt := 26) hx hb dX8_pop_4 (by decide) (fun c_4 => ?_) (fun c_4 => ?_)
  · have hf := rf_it c_4 hf
    obtain rfl := Option.some.inj hf
    exact rf_retv hC hP hS rfl dX8_pop_26
  have hf := rf_ie c_4 hf
  refine lv_aload_n hx hb dX8_pop_7 rfl (lv_at hl 0 rfl) ?_
  refine lv_dup hx hb dX8_pop_8 rfl ?_
  refine gX_acts_count hC hP tw_318 (v := h_count) rfl dX8_pop_9 ?_
  refine lv_iconst (v := 1) hx hb dX8_pop_12 (by decide) ?_
  refine lv_isub hx hb dX8_pop_13 ?_
  refine pX_acts_count hC hD hP hS tw_318 dX8_pop_14 (rf_upL I [(4, now_hour), (5, now_paid), (7, now_far), (17, h_count - 1)]) (rf_put rfl) (fun H locs hP hS => ?_)
  refine lv_aload_n hx hb dX8_pop_17 rfl (lv_at hl 0 rfl) ?_
  refine lv_aload_n hx hb dX8_pop_18 rfl (lv_at hl 0 rfl) ?_
  refine gX_acts_count hC hP tw_318 (v := h_count - 1) rfl dX8_pop_19 ?_
  refine lv_aload_n hx hb dX8_pop_22 rfl (lv_at hl 1 rfl) ?_
  obtain ⟨z23, hz23, hf⟩ := rf_bd hf
  refine rf_vv (q0 := 8) (ci := 8) hC (c_X8_copyTo_acts l E a P (rf_upL I [(4, now_hour), (5, now_paid), (7, now_far), (17, h_count - 1)]) J (rf_upL A [(1, now_words), (2, now_wet)]) B h_room h_first h_cells now_hour now_paid now_far now_words now_wet (h_count - 1) e_h_room e_h_first e_h_cells rfl rfl rfl rfl rfl hz23) kV_X8_copyTo tw_1178 ⟨Nat.le_of_ble_eq_true rfl, Nat.le_of_ble_eq_true rfl⟩ rfl rfl rfl rfl rfl hP (rf_DX hD) hS rfl hl.1 (rest := []) rfl (Nat.le_of_ble_eq_true rfl) dX8_pop_23 (fun H locs hP hS => ?_)
  rw [rf_cat (f := I) (l := [(4, now_hour), (5, now_paid), (7, now_far), (17, h_count - 1)]) (lc := [(4, z23.1), (5, z23.2.1), (7, z23.2.2.1)]) (l' := [(4, z23.1), (5, z23.2.1), (7, z23.2.2.1), (17, h_count - 1)]) rfl] at hP
  rw [rf_cat (f := A) (l := [(1, now_words), (2, now_wet)]) (lc := [(1, z23.2.2.2.1), (2, z23.2.2.2.2)]) (l' := [(1, z23.2.2.2.1), (2, z23.2.2.2.2)]) rfl] at hP
  obtain rfl := Option.some.inj hf
  exact rf_retv hC hP hS rfl dX8_pop_26
set_option maxHeartbeats 4000000 in
set_option maxRecDepth 100000 in
theorem w_X10_undo_17 {l : Launch} {p : Program} {e : Env} {s : State} {m : MethodId} {args : Array Value} {below : List Frame} {meth : Method} {c : Code} {A0 : Nat → Prop} {E : rf_E} {a P : Nat → Nat} {I : Nat → Int32} {J : Nat → Int64} {A : Nat → Nat → Int32} {B : Nat → Nat → Int64} {acts_room : Int32} {acts_first : Int32} {acts_cells : Nat → Int32} {z : Int32 × Int32 × Int32 × Int32 × Int32 × Int32 × (Nat → Int32) × (Nat → Int32)} (hC : rf_C p E s m args meth c cX10_undo 1 RX10 (some .boolean) A0) (hD : va_D A0 (cX E a P I J A B)) (e_acts_room : I 15 = acts_room) (e_acts_first : I 16 = acts_first) (e_acts_cells : A 11 = acts_cells) :
    ∀ (s1 : Int32) (x_lastTrouble : Int32) (now_hour : Int32) (now_paid : Int32) (now_far : Int32) (acts_count : Int32) (now_words : Nat → Int32) (now_wet : Nat → Int32), f_X10_undo_17 acts_room acts_first acts_cells s1 x_lastTrouble now_hour now_paid now_far acts_count now_words now_wet = some z → ∀ (H : Heap) (locs : List Loc) (ls : Array Slot), va_P (rf_D E) vwCl (cX E a P (rf_upL I [(3, x_lastTrouble), (4, now_hour), (5, now_paid), (7, now_far), (17, acts_count)]) J (rf_upL A [(1, now_words), (2, now_wet)]) B) H → va_S A0 s.heap H locs → lv_has ls 1 [(0, .ref (a 0))] → W p l e ({ frames := 8, cells := 0, slots := 0, locals := 244 }) s m args below meth c H locs 0 0 (rf_QI below args s E A0 z.1 (cX E a P (rf_upL I [(3, z.2.1), (4, z.2.2.1), (5, z.2.2.2.1), (7, z.2.2.2.2.1), (17, z.2.2.2.2.2.1)]) J (rf_upL A [(1, z.2.2.2.2.2.2.1), (2, z.2.2.2.2.2.2.2)]) B)) (F0 m 17 ls [.int s1, .ref (a 0)]) := by
  have hx := hC.1
  have hb := hC.2.1
  intro s1 x_lastTrouble now_hour now_paid now_far acts_count now_words now_wet hf H locs ls hP hS hl
  unfold f_X10_undo_17 at hf
  refine pX_x_lastTrouble hC hD hP hS tw_407 dX10_undo_17 (rf_upL I [(3, s1), (4, now_hour), (5, now_paid), (7, now_far), (17, acts_count)]) (rf_put rfl) (fun H locs hP hS => ?_)
  refine lv_aload_n hx hb dX10_undo_20 rfl (lv_at hl 0 rfl) ?_
  refine gX_x_acts hC hP tw_399 dX10_undo_21 ?_
  refine gX_acts_count hC hP tw_319 (v := acts_count) rfl dX10_undo_24 ?_
  refine lv_if_ne (tgt := 32) hx hb dX10_undo_27 (by decide) (fun c_27 => ?_) (fun c_27 => ?_)
  · have hf := rf_ie c_27 hf
    refine lv_aload_n hx hb dX10_undo_32 rfl (lv_at hl 0 rfl) ?_
    refine gX_x_acts hC hP tw_399 dX10_undo_33 ?_
    refine lv_aload_n hx hb dX10_undo_36 rfl (lv_at hl 0 rfl) ?_
    refine gX_x_now hC hP tw_392 dX10_undo_37 ?_
    obtain ⟨z40, hz40, hf⟩ := rf_bd hf
    refine rf_vv (q0 := 8) (ci := 8) hC (c_X8_pop_acts l E a P (rf_upL I [(3, s1), (4, now_hour), (5, now_paid), (7, now_far), (17, acts_count)]) J (rf_upL A [(1, now_words), (2, now_wet)]) B acts_room acts_first acts_cells now_hour now_paid now_far acts_count now_words now_wet e_acts_room e_acts_first e_acts_cells rfl rfl rfl rfl rfl rfl hz40) kV_X8_pop tw_1174 ⟨Nat.le_of_ble_eq_true rfl, Nat.le_of_ble_eq_true rfl⟩ rfl rfl rfl rfl rfl hP (rf_DX hD) hS rfl hl.1 (rest := []) rfl (Nat.le_of_ble_eq_true rfl) dX10_undo_40 (fun H locs hP hS => ?_)
    rw [rf_cat (f := I) (l := [(3, s1), (4, now_hour), (5, now_paid), (7, now_far), (17, acts_count)]) (lc := [(4, z40.1), (5, z40.2.1), (7, z40.2.2.1), (17, z40.2.2.2.1)]) (l' := [(3, s1), (4, z40.1), (5, z40.2.1), (7, z40.2.2.1), (17, z40.2.2.2.1)]) rfl] at hP
    rw [rf_cat (f := A) (l := [(1, now_words), (2, now_wet)]) (lc := [(1, z40.2.2.2.2.1), (2, z40.2.2.2.2.2)]) (l' := [(1, z40.2.2.2.2.1), (2, z40.2.2.2.2.2)]) rfl] at hP
    refine lv_iconst (v := 1) hx hb dX10_undo_43 (by decide) ?_
    obtain rfl := Option.some.inj hf
    exact rf_retz hC hP hS (by decide) rfl rfl dX10_undo_44
  have hf := rf_it c_27 hf
  refine lv_iconst (v := 0) hx hb dX10_undo_30 (by decide) ?_
  obtain rfl := Option.some.inj hf
  exact rf_retz hC hP hS (by decide) rfl rfl dX10_undo_31
set_option maxHeartbeats 4000000 in
set_option maxRecDepth 100000 in
theorem c_X10_undo (l : Launch) (E : rf_E) (a P : Nat → Nat) (I : Nat → Int32) (J : Nat → Int64) (A : Nat → Nat → Int32) (B : Nat → Nat → Int64) (acts_room : Int32) (acts_first : Int32) (acts_cells : Nat → Int32) (x_lastTrouble : Int32) (now_hour : Int32) (now_paid : Int32) (now_far : Int32) (acts_count : Int32) (now_words : Nat → Int32) (now_wet : Nat → Int32) {z : Int32 × Int32 × Int32 × Int32 × Int32 × Int32 × (Nat → Int32) × (Nat → Int32)} (e_acts_room : I 15 = acts_room) (e_acts_first : I 16 = acts_first) (e_acts_cells : A 11 = acts_cells) (e_x_lastTrouble : I 3 = x_lastTrouble) (e_now_hour : I 4 = now_hour) (e_now_paid : I 5 = now_paid) (e_now_far : I 7 = now_far) (e_acts_count : I 17 = acts_count) (e_now_words : A 1 = now_words) (e_now_wet : A 2 = now_wet) (hf : f_X10_undo acts_room acts_first acts_cells x_lastTrouble now_hour now_paid now_far acts_count now_words now_wet = some z) : rf_MI l yX10_undo cX10_undo 1 (some .boolean) ({ frames := 8, cells := 0, slots := 0, locals := 244 }) E [.ref (a 0)] (cX E a P I J A B) z.1 (cX E a P (rf_upL I [(3, z.2.1), (4, z.2.2.1), (5, z.2.2.2.1), (7, z.2.2.2.2.1), (17, z.2.2.2.2.2.1)]) J (rf_upL A [(1, z.2.2.2.2.2.2.1), (2, z.2.2.2.2.2.2.2)]) B) := by
  unfold f_X10_undo at hf
  refine rf_ofI (by decide) (Nat.le_of_ble_eq_true rfl) ?_
  intro p e s m below meth c A0 ls hC hD hP hS hl
  have hC : rf_C p E s m _ meth c cX10_undo 1 RX10 (some .boolean) A0 := hC
  have hx := hC.1
  have hb := hC.2.1
  have hl : lv_has ls 1 [(0, .ref (a 0))] := hl
  have hP : va_P (rf_D E) vwCl (cX E a P (rf_upL I [(3, x_lastTrouble), (4, now_hour), (5, now_paid), (7, now_far), (17, acts_count)]) J (rf_upL A [(1, now_words), (2, now_wet)]) B) s.heap := by
    rw [rf_self (f := I) [(3, x_lastTrouble), (4, now_hour), (5, now_paid), (7, now_far), (17, acts_count)] (rf_fa1 e_x_lastTrouble (rf_fa1 e_now_hour (rf_fa1 e_now_paid (rf_fa1 e_now_far (rf_fa1 e_acts_count rf_fa0)))))]
    rw [rf_self (f := A) [(1, now_words), (2, now_wet)] (rf_fa1 e_now_words (rf_fa1 e_now_wet rf_fa0))]
    exact hP
  refine lv_aload_n hx hb dX10_undo_0 rfl (lv_at hl 0 rfl) ?_
  refine lv_aload_n hx hb dX10_undo_1 rfl (lv_at hl 0 rfl) ?_
  refine gX_x_acts hC hP tw_399 dX10_undo_2 ?_
  refine gX_acts_count hC hP tw_319 (v := acts_count) rfl dX10_undo_5 ?_
  refine lv_if_ne (tgt := 16) hx hb dX10_undo_8 (by decide) (fun c_8 => ?_) (fun c_8 => ?_)
  · have hf := rf_ie c_8 hf
    refine lv_iconst (v := 0) hx hb dX10_undo_16 (by decide) ?_
    exact w_X10_undo_17 hC hD e_acts_room e_acts_first e_acts_cells 0 x_lastTrouble now_hour now_paid now_far acts_count now_words now_wet hf _ _ _ hP hS (lv_sub hl [0] rfl)
  have hf := rf_it c_8 hf
  refine lv_bipush (v := 6) hx hb dX10_undo_11 (by decide) ?_
  refine lv_goto (tgt := 17) hx hb dX10_undo_13 (by decide) ?_
  exact w_X10_undo_17 hC hD e_acts_room e_acts_first e_acts_cells 6 x_lastTrouble now_hour now_paid now_far acts_count now_words now_wet hf _ _ _ hP hS (lv_sub hl [0] rfl)
