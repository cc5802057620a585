set_option maxHeartbeats 4000000 in
set_option maxRecDepth 100000 in
theorem c_X10_bestName (l : Launch) (E : rf_E) (a P : Nat → Nat) (I : Nat → Int32) (J : Nat → Int64) (A : Nat → Nat → Int32) (B : Nat → Nat → Int64) (tc_ear : Int32) (tc_wordCount : Int32) (tc_personCount : Int32) (now_words : Nat → Int32) (tc_kinds : Nat → Int32) (tc_hourEars : Nat → Int32) (tc_close : Nat → Int32) (x_lastTrouble : Int32) (v1 : Int32) (v2 : Int32) {z : Int32 × Int32} (hp0 : P 0 = a 10) (hp2 : P 2 = a 10) (e_tc_ear : I 21 = tc_ear) (e_tc_wordCount : I 23 = tc_wordCount) (e_tc_personCount : I 24 = tc_personCount) (e_now_words : A 1 = now_words) (e_tc_kinds : A 14 = tc_kinds) (e_tc_hourEars : A 18 = tc_hourEars) (e_tc_close : A 22 = tc_close) (e_x_lastTrouble : I 3 = x_lastTrouble) (hf : f_X10_bestName tc_ear tc_wordCount tc_personCount now_words tc_kinds tc_hourEars tc_close x_lastTrouble v1 v2 = some z) : rf_MI l yX10_bestName cX10_bestName 3 (some .int) ({ frames := 4, cells := 0, slots := 0, locals := 105 }) E [.ref (a 0), .int v1, .int v2] (cX E a P I J A B) z.1 (cX E a P (rf_upL I [(3, z.2)]) J A B) := by
  unfold f_X10_bestName at hf
  refine rf_ofI (by decide) (Nat.le_of_ble_eq_true rfl) ?_
  intro p e s m below meth c A0 ls hC hD hP hS hl
  have hC : rf_C p E s m _ meth c cX10_bestName 3 RX10 (some .int) A0 := hC
  have hx := hC.1
  have hb := hC.2.1
  have hl : lv_has ls 3 [(0, .ref (a 0)), (1, .int v1), (2, .int v2)] := hl
  have hP : va_P (rf_D E) vwCl (cX E a P (rf_upL I [(3, x_lastTrouble)]) J A B) s.heap := by
    rw [rf_self (f := I) [(3, x_lastTrouble)] (rf_fa1 e_x_lastTrouble rf_fa0)]
    exact hP
  refine lv_aload_n hx hb dX10_bestName_0 rfl (lv_at hl 0 rfl) ?_
  refine lv_aload_n hx hb dX10_bestName_1 rfl (lv_at hl 0 rfl) ?_
  refine lv_iload_n hx hb dX10_bestName_2 rfl (lv_at hl 1 rfl) ?_
  obtain ⟨z3, hz3, hf⟩ := rf_bd hf
  refine rf_vi (q0 := 0) (ci := 10) hC (c_X10_isPerson l E a P (rf_upL I [(3, x_lastTrouble)]) J A B tc_personCount v1 hp0 e_tc_personCount hz3) kV_X10_isPerson tw_750 ⟨Nat.le_of_ble_eq_true rfl, Nat.le_of_ble_eq_true rfl⟩ rfl rfl rfl rfl rfl hP (rf_DX hD) hS rfl hl.1 (rest := [.ref (a 0)]) rfl (Nat.le_of_ble_eq_true rfl) dX10_bestName_3 (fun H locs hP hS => ?_)
  refine lv_aload_n hx hb dX10_bestName_6 rfl (lv_at hl 0 rfl) ?_
  refine lv_iload_n hx hb dX10_bestName_7 rfl (lv_at hl 2 rfl) ?_
  obtain ⟨z8, hz8, hf⟩ := rf_bd hf
  refine rf_vi (q0 := 0) (ci := 10) hC (c_X10_isHour l E a P (rf_upL I [(3, x_lastTrouble)]) J A B v2 hz8) kV_X10_isHour tw_766 ⟨Nat.le_of_ble_eq_true rfl, Nat.le_of_ble_eq_true rfl⟩ rfl rfl rfl rfl rfl hP (rf_DX hD) hS rfl hl.1 (rest := [.int z3, .ref (a 0)]) rfl (Nat.le_of_ble_eq_true rfl) dX10_bestName_8 (fun H locs hP hS => ?_)
  obtain ⟨z11, hz11, hf⟩ := rf_bd hf
  refine rf_vi (q0 := 0) (ci := 10) hC (c_X10_refused l E a P (rf_upL I [(3, x_lastTrouble)]) J A B x_lastTrouble z3 z8 rfl hz11) kV_X10_refused tw_455 ⟨Nat.le_of_ble_eq_true rfl, Nat.le_of_ble_eq_true rfl⟩ rfl rfl rfl rfl rfl hP (rf_DX hD) hS rfl hl.1 (rest := []) rfl (Nat.le_of_ble_eq_true rfl) dX10_bestName_11 (fun H locs hP hS => ?_)
  rw [rf_cat (f := I) (l := [(3, x_lastTrouble)]) (lc := [(3, z11.2)]) (l' := [(3, z11.2)]) rfl] at hP
  refine lv_if_eq (tgt := 19) hx hb dX10_bestName_14 (by decide) (fun c_14 => ?_) (fun c_14 => ?_)
  · have hf := rf_it c_14 hf
    refine lv_aload_n hx hb dX10_bestName_19 rfl (lv_at hl 0 rfl) ?_
    refine gX_x_rhymes hC hP tw_393 dX10_bestName_20 ?_
    refine lv_iload_n hx hb dX10_bestName_23 rfl (lv_at hl 1 rfl) ?_
    refine lv_aload_n hx hb dX10_bestName_24 rfl (lv_at hl 0 rfl) ?_
    refine gX_x_tale hC hP tw_401 (v := a 10) hp0 dX10_bestName_25 ?_
    refine lv_iload_n hx hb dX10_bestName_28 rfl (lv_at hl 2 rfl) ?_
    obtain ⟨z29, hz29, hf⟩ := rf_bd hf
    refine rf_vi (q0 := 10) (ci := 9) hC (c_X9_earAt_tc l E a P (rf_upL I [(3, z11.2)]) J A B tc_ear tc_hourEars v2 e_tc_ear e_tc_hourEars hz29) kV_X9_earAt tw_770 ⟨Nat.le_of_ble_eq_true rfl, Nat.le_of_ble_eq_true rfl⟩ rfl rfl rfl rfl rfl hP (rf_DX hD) hS rfl hl.1 (rest := [.int v1, .ref (a 2)]) rfl (Nat.le_of_ble_eq_true rfl) dX10_bestName_29 (fun H locs hP hS => ?_)
    obtain ⟨z32, hz32, hf⟩ := rf_bd hf
    refine rf_vi (q0 := 2) (ci := 6) hC (c_X6_wordOfMost l E a P (rf_upL I [(3, z11.2)]) J A B tc_wordCount tc_personCount now_words tc_kinds tc_close v1 z29 hp2 e_tc_wordCount e_tc_personCount e_now_words e_tc_kinds e_tc_close hz32) kV_X6_wordOfMost tw_853 ⟨Nat.le_of_ble_eq_true rfl, Nat.le_of_ble_eq_true rfl⟩ rfl rfl rfl rfl rfl hP (rf_DX hD) hS rfl hl.1 (rest := []) rfl (Nat.le_of_ble_eq_true rfl) dX10_bestName_32 (fun H locs hP hS => ?_)
    obtain rfl := Option.some.inj hf
    exact rf_reti hC hP hS rfl rfl dX10_bestName_35
  have hf := rf_ie c_14 hf
  refine lv_iconst (v := (-1)) hx hb dX10_bestName_17 (by decide) ?_
  obtain rfl := Option.some.inj hf
  exact rf_reti hC hP hS rfl rfl dX10_bestName_18
set_option maxHeartbeats 4000000 in
set_option maxRecDepth 100000 in
theorem w_X10_renamed_22 {l : Launch} {p : Program} {e : Env} {s : State} {m : MethodId} {args : Array Value} {below : List Frame} {meth : Method} {c : Code} {A0 : Nat → Prop} {E : rf_E} {a P : Nat → Nat} {I : Nat → Int32} {J : Nat → Int64} {A : Nat → Nat → Int32} {B : Nat → Nat → Int64} {tc_ear : Int32} {tc_wordCount : Int32} {tc_personCount : Int32} {now_words : Nat → Int32} {tc_kinds : Nat → Int32} {tc_hourEars : Nat → Int32} {tc_close : Nat → Int32} {z : Int32 × Int32} (hC : rf_C p E s m args meth c cX10_renamed 4 RX10 (some .int) A0) (hD : va_D A0 (cX E a P I J A B)) (hp0 : P 0 = a 10) (hp2 : P 2 = a 10) (e_tc_ear : I 21 = tc_ear) (e_tc_wordCount : I 23 = tc_wordCount) (e_tc_personCount : I 24 = tc_personCount) (e_now_words : A 1 = now_words) (e_tc_kinds : A 14 = tc_kinds) (e_tc_hourEars : A 18 = tc_hourEars) (e_tc_close : A 22 = tc_close) :
    ∀ (v1 : Int32) (v2 : Int32) (v3 : Int32) (s1 : Int32) (x_lastTrouble : Int32), f_X10_renamed_22 tc_ear tc_wordCount tc_personCount now_words tc_kinds tc_hourEars tc_close v1 v2 v3 s1 x_lastTrouble = some z → ∀ (H : Heap) (locs : List Loc) (ls : Array Slot), va_P (rf_D E) vwCl (cX E a P (rf_upL I [(3, x_lastTrouble)]) J A B) H → va_S A0 s.heap H locs → lv_has ls 4 [(0, .ref (a 0)), (1, .int v1), (2, .int v2), (3, .int v3)] → W p l e ({ frames := 3, cells := 0, slots := 0, locals := 79 }) s m args below meth c H locs 0 0 (rf_QI below args s E A0 z.1 (cX E a P (rf_upL I [(3, z.2)]) J A B)) (F0 m 22 ls [.int s1, .ref (a 0)]) := by
  have hx := hC.1
  have hb := hC.2.1
  intro v1 v2 v3 s1 x_lastTrouble hf H locs ls hP hS hl
  unfold f_X10_renamed_22 at hf
  refine lv_aload_n hx hb dX10_renamed_22 rfl (lv_at hl 0 rfl) ?_
  refine lv_iload_n hx hb dX10_renamed_23 rfl (lv_at hl 3 rfl) ?_
  obtain ⟨z24, hz24, hf⟩ := rf_bd hf
  refine rf_vi (q0 := 0) (ci := 10) hC (c_X10_isHour l E a P (rf_upL I [(3, x_lastTrouble)]) J A B v3 hz24) kV_X10_isHour tw_766 ⟨Nat.le_of_ble_eq_true rfl, Nat.le_of_ble_eq_true rfl⟩ rfl rfl rfl rfl rfl hP (rf_DX hD) hS rfl hl.1 (rest := [.int s1, .ref (a 0)]) rfl (Nat.le_of_ble_eq_true rfl) dX10_renamed_24 (fun H locs hP hS => ?_)
  obtain ⟨z27, hz27, hf⟩ := rf_bd hf
  refine rf_vi (q0 := 0) (ci := 10) hC (c_X10_refused l E a P (rf_upL I [(3, x_lastTrouble)]) J A B x_lastTrouble s1 z24 rfl hz27) kV_X10_refused tw_455 ⟨Nat.le_of_ble_eq_true rfl, Nat.le_of_ble_eq_true rfl⟩ rfl rfl rfl rfl rfl hP (rf_DX hD) hS rfl hl.1 (rest := []) rfl (Nat.le_of_ble_eq_true rfl) dX10_renamed_27 (fun H locs hP hS => ?_)
  rw [rf_cat (f := I) (l := [(3, x_lastTrouble)]) (lc := [(3, z27.2)]) (l' := [(3, z27.2)]) rfl] at hP
  refine lv_if_eq (tgt := 35) hx hb dX10_renamed_30 (by decide) (fun c_30 => ?_) (fun c_30 => ?_)
  · have hf := rf_it c_30 hf
    refine lv_aload_n hx hb dX10_renamed_35 rfl (lv_at hl 0 rfl) ?_
    refine gX_x_rhymes hC hP tw_393 dX10_renamed_36 ?_
    refine lv_iload_n hx hb dX10_renamed_39 rfl (lv_at hl 1 rfl) ?_
    refine lv_iconst (v := 1) hx hb dX10_renamed_40 (by decide) ?_
    refine lv_iload_n hx hb dX10_renamed_41 rfl (lv_at hl 2 rfl) ?_
    refine lv_ishl hx hb dX10_renamed_42 ?_
    refine lv_iconst (v := 0) hx hb dX10_renamed_43 (by decide) ?_
    refine lv_aload_n hx hb dX10_renamed_44 rfl (lv_at hl 0 rfl) ?_
    refine gX_x_tale hC hP tw_401 (v := a 10) hp0 dX10_renamed_45 ?_
    refine lv_iload_n hx hb dX10_renamed_48 rfl (lv_at hl 3 rfl) ?_
    obtain ⟨z49, hz49, hf⟩ := rf_bd hf
    refine rf_vi (q0 := 10) (ci := 9) hC (c_X9_earAt_tc l E a P (rf_upL I [(3, z27.2)]) J A B tc_ear tc_hourEars v3 e_tc_ear e_tc_hourEars hz49) kV_X9_earAt tw_770 ⟨Nat.le_of_ble_eq_true rfl, Nat.le_of_ble_eq_true rfl⟩ rfl rfl rfl rfl rfl hP (rf_DX hD) hS rfl hl.1 (rest := [.int 0, .int ((1 : Int32) <<< (v2 &&& 31)), .int v1, .ref (a 2)]) rfl (Nat.le_of_ble_eq_true rfl) dX10_renamed_49 (fun H locs hP hS => ?_)
    obtain ⟨z52, hz52, hf⟩ := rf_bd hf
    refine rf_vi (q0 := 2) (ci := 6) hC (c_X6_metBy l E a P (rf_upL I [(3, z27.2)]) J A B tc_wordCount tc_personCount now_words tc_kinds tc_close v1 ((1 : Int32) <<< (v2 &&& 31)) 0 z49 hp2 e_tc_wordCount e_tc_personCount e_now_words e_tc_kinds e_tc_close hz52) kV_X6_metBy tw_861 ⟨Nat.le_of_ble_eq_true rfl, Nat.le_of_ble_eq_true rfl⟩ rfl rfl rfl rfl rfl hP (rf_DX hD) hS rfl hl.1 (rest := []) rfl (Nat.le_of_ble_eq_true rfl) dX10_renamed_52 (fun H locs hP hS => ?_)
    obtain rfl := Option.some.inj hf
    exact rf_reti hC hP hS rfl rfl dX10_renamed_55
  have hf := rf_ie c_30 hf
  refine lv_iconst (v := (-1)) hx hb dX10_renamed_33 (by decide) ?_
  obtain rfl := Option.some.inj hf
  exact rf_reti hC hP hS rfl rfl dX10_renamed_34
set_option maxHeartbeats 4000000 in
set_option maxRecDepth 100000 in
theorem w_X10_renamed_21 {l : Launch} {p : Program} {e : Env} {s : State} {m : MethodId} {args : Array Value} {below : List Frame} {meth : Method} {c : Code} {A0 : Nat → Prop} {E : rf_E} {a P : Nat → Nat} {I : Nat → Int32} {J : Nat → Int64} {A : Nat → Nat → Int32} {B : Nat → Nat → Int64} {tc_ear : Int32} {tc_wordCount : Int32} {tc_personCount : Int32} {now_words : Nat → Int32} {tc_kinds : Nat → Int32} {tc_hourEars : Nat → Int32} {tc_close : Nat → Int32} {z : Int32 × Int32} (hC : rf_C p E s m args meth c cX10_renamed 4 RX10 (some .int) A0) (hD : va_D A0 (cX E a P I J A B)) (hp0 : P 0 = a 10) (hp2 : P 2 = a 10) (e_tc_ear : I 21 = tc_ear) (e_tc_wordCount : I 23 = tc_wordCount) (e_tc_personCount : I 24 = tc_personCount) (e_now_words : A 1 = now_words) (e_tc_kinds : A 14 = tc_kinds) (e_tc_hourEars : A 18 = tc_hourEars) (e_tc_close : A 22 = tc_close) :
    ∀ (v1 : Int32) (v2 : Int32) (v3 : Int32) (x_lastTrouble : Int32), f_X10_renamed_21 tc_ear tc_wordCount tc_personCount now_words tc_kinds tc_hourEars tc_close v1 v2 v3 x_lastTrouble = some z → ∀ (H : Heap) (locs : List Loc) (ls : Array Slot), va_P (rf_D E) vwCl (cX E a P (rf_upL I [(3, x_lastTrouble)]) J A B) H → va_S A0 s.heap H locs → lv_has ls 4 [(0, .ref (a 0)), (1, .int v1), (2, .int v2), (3, .int v3)] → W p l e ({ frames := 3, cells := 0, slots := 0, locals := 79 }) s m args below meth c H locs 0 0 (rf_QI below args s E A0 z.1 (cX E a P (rf_upL I [(3, z.2)]) J A B)) (F0 m 21 ls [.ref (a 0)]) := by
  have hx := hC.1
  have hb := hC.2.1
  intro v1 v2 v3 x_lastTrouble hf H locs ls hP hS hl
  unfold f_X10_renamed_21 at hf
  refine lv_iconst (v := 0) hx hb dX10_renamed_21 (by decide) ?_
  exact w_X10_renamed_22 hC hD hp0 hp2 e_tc_ear e_tc_wordCount e_tc_personCount e_now_words e_tc_kinds e_tc_hourEars e_tc_close v1 v2 v3 0 x_lastTrouble hf _ _ _ hP hS (lv_sub hl [0, 1, 2, 3] rfl)
set_option maxHeartbeats 4000000 in
set_option maxRecDepth 100000 in
theorem c_X10_renamed (l : Launch) (E : rf_E) (a P : Nat → Nat) (I : Nat → Int32) (J : Nat → Int64) (A : Nat → Nat → Int32) (B : Nat → Nat → Int64) (tc_ear : Int32) (tc_wordCount : Int32) (tc_personCount : Int32) (now_words : Nat → Int32) (tc_kinds : Nat → Int32) (tc_hourEars : Nat → Int32) (tc_close : Nat → Int32) (x_lastTrouble : Int32) (v1 : Int32) (v2 : Int32) (v3 : Int32) {z : Int32 × Int32} (hp0 : P 0 = a 10) (hp2 : P 2 = a 10) (e_tc_ear : I 21 = tc_ear) (e_tc_wordCount : I 23 = tc_wordCount) (e_tc_personCount : I 24 = tc_personCount) (e_now_words : A 1 = now_words) (e_tc_kinds : A 14 = tc_kinds) (e_tc_hourEars : A 18 = tc_hourEars) (e_tc_close : A 22 = tc_close) (e_x_lastTrouble : I 3 = x_lastTrouble) (hf : f_X10_renamed tc_ear tc_wordCount tc_personCount now_words tc_kinds tc_hourEars tc_close x_lastTrouble v1 v2 v3 = some z) : rf_MI l yX10_renamed cX10_renamed 4 (some .int) ({ frames := 3, cells := 0, slots := 0, locals := 79 }) E [.ref (a 0), .int v1, .int v2, .int v3] (cX E a P I J A B) z.1 (cX E a P (rf_upL I [(3, z.2)]) J A B) := by
  unfold f_X10_renamed at hf
  refine rf_ofI (by decide) (Nat.le_of_ble_eq_true rfl) ?_
  intro p e s m below meth c A0 ls hC hD hP hS hl
  have hC : rf_C p E s m _ meth c cX10_renamed 4 RX10 (some .int) A0 := hC
  have hx := hC.1
  have hb := hC.2.1
  have hl : lv_has ls 4 [(0, .ref (a 0)), (1, .int v1), (2, .int v2), (3, .int v3)] := hl
  have hP : va_P (rf_D E) vwCl (cX E a P (rf_upL I [(3, x_lastTrouble)]) J A B) s.heap := by
    rw [rf_self (f := I) [(3, x_lastTrouble)] (rf_fa1 e_x_lastTrouble rf_fa0)]
    exact hP
  refine lv_aload_n hx hb dX10_renamed_0 rfl (lv_at hl 0 rfl) ?_
  refine lv_aload_n hx hb dX10_renamed_1 rfl (lv_at hl 0 rfl) ?_
  refine lv_iload_n hx hb dX10_renamed_2 rfl (lv_at hl 1 rfl) ?_
  obtain ⟨z3, hz3, hf⟩ := rf_bd hf
  refine rf_vi (q0 := 0) (ci := 10) hC (c_X10_isPerson l E a P (rf_upL I [(3, x_lastTrouble)]) J A B tc_personCount v1 hp0 e_tc_personCount hz3) kV_X10_isPerson tw_750 ⟨Nat.le_of_ble_eq_true rfl, Nat.le_of_ble_eq_true rfl⟩ rfl rfl rfl rfl rfl hP (rf_DX hD) hS rfl hl.1 (rest := [.ref (a 0)]) rfl (Nat.le_of_ble_eq_true rfl) dX10_renamed_3 (fun H locs hP hS => ?_)
  refine lv_if_eq (tgt := 21) hx hb dX10_renamed_6 (by decide) (fun c_6 => ?_) (fun c_6 => ?_)
  · have hf := rf_it c_6 hf
    exact w_X10_renamed_21 hC hD hp0 hp2 e_tc_ear e_tc_wordCount e_tc_personCount e_now_words e_tc_kinds e_tc_hourEars e_tc_close v1 v2 v3 x_lastTrouble hf _ _ _ hP hS (lv_sub hl [0, 1, 2, 3] rfl)
  have hf := rf_ie c_6 hf
  refine lv_aload_n hx hb dX10_renamed_9 rfl (lv_at hl 0 rfl) ?_
  refine lv_iload_n hx hb dX10_renamed_10 rfl (lv_at hl 2 rfl) ?_
  obtain ⟨z11, hz11, hf⟩ := rf_bd hf
  refine rf_vi (q0 := 0) (ci := 10) hC (c_X10_isWord l E a P (rf_upL I [(3, x_lastTrouble)]) J A B tc_wordCount v2 hp0 e_tc_wordCount hz11) kV_X10_isWord tw_721 ⟨Nat.le_of_ble_eq_true rfl, Nat.le_of_ble_eq_true rfl⟩ rfl rfl rfl rfl rfl hP (rf_DX hD) hS rfl hl.1 (rest := [.ref (a 0)]) rfl (Nat.le_of_ble_eq_true rfl) dX10_renamed_11 (fun H locs hP hS => ?_)
  refine lv_if_eq (tgt := 21) hx hb dX10_renamed_14 (by decide) (fun c_14 => ?_) (fun c_14 => ?_)
  · have hf := rf_it c_14 hf
    exact w_X10_renamed_21 hC hD hp0 hp2 e_tc_ear e_tc_wordCount e_tc_personCount e_now_words e_tc_kinds e_tc_hourEars e_tc_close v1 v2 v3 x_lastTrouble hf _ _ _ hP hS (lv_sub hl [0, 1, 2, 3] rfl)
  have hf := rf_ie c_14 hf
  refine lv_iconst (v := 1) hx hb dX10_renamed_17 (by decide) ?_
  refine lv_goto (tgt := 22) hx hb dX10_renamed_18 (by decide) ?_
  exact w_X10_renamed_22 hC hD hp0 hp2 e_tc_ear e_tc_wordCount e_tc_personCount e_now_words e_tc_kinds e_tc_hourEars e_tc_close v1 v2 v3 1 x_lastTrouble hf _ _ _ hP hS (lv_sub hl [0, 1, 2, 3] rfl)
set_option maxHeartbeats 4000000 in
set_option maxRecDepth 100000 in
theorem w_X6_firstHour_2 {l : Launch} {p : Program} {e : Env} {s : State} {m : MethodId} {args : Array Value} {below : List Frame} {meth : Method} {c : Code} {A0 : Nat → Prop} {E : rf_E} {a P : Nat → Nat} {I : Nat → Int32} {J : Nat → Int64} {A : Nat → Nat → Int32} {B : Nat → Nat → Int64} {tc_ear : Int32} {tc_wordCount : Int32} {now_words : Nat → Int32} {tc_kinds : Nat → Int32} {tc_hourEars : Nat → Int32} {tc_close : Nat → Int32} {z : Int32} (hC : rf_C p E s m args meth c cX6_firstHour 4 RX6 (some .int) A0) (hD : va_D A0 (cX E a P I J A B)) (hp2 : P 2 = a 10) (e_tc_ear : I 21 = tc_ear) (e_tc_wordCount : I 23 = tc_wordCount) (e_now_words : A 1 = now_words) (e_tc_kinds : A 14 = tc_kinds) (e_tc_hourEars : A 18 = tc_hourEars) (e_tc_close : A 22 = tc_close) :
    ∀ (n : Nat), ∀ (v1 : Int32) (v2 : Int32) (v3 : Int32), f_X6_firstHour_2 tc_ear tc_wordCount now_words tc_kinds tc_hourEars tc_close n v1 v2 v3 = some z → ∀ (H : Heap) (locs : List Loc) (ls : Array Slot), va_P (rf_D E) vwCl (cX E a P I J A B) H → va_S A0 s.heap H locs → lv_has ls 4 [(0, .ref (a 2)), (1, .int v1), (2, .int v2), (3, .int v3)] → W p l e ({ frames := 4, cells := 0, slots := 0, locals := 100 }) s m args below meth c H locs 0 0 (rf_QI below args s E A0 z (cX E a P I J A B)) (F0 m 2 ls []) := by
  have hx := hC.1
  have hb := hC.2.1
  intro n
  induction n with
  | zero =>
    intro v1 v2 v3 hf
    have hf : (none : Option (Int32)) = some z := hf
    cases hf
  | succ n ih =>
    intro v1 v2 v3 hf H locs ls hP hS hl
    rw [f_X6_firstHour_2] at hf
    refine lv_iload_n hx hb dX6_firstHour_2 rfl (lv_at hl 3 rfl) ?_
    refine lv_bipush (v := 24) hx hb dX6_firstHour_3 (by decide) ?_
    refine lv_icmp_ge (tgt := 34) hx hb dX6_firstHour_5 (by decide) (fun c_5 => ?_) (fun c_5 => ?_)
    · have hf := rf_it c_5 hf
      refine lv_bipush (v := (-2)) hx hb dX6_firstHour_34 (by decide) ?_
      obtain rfl := Option.some.inj hf
      exact rf_reti hC hP hS rfl rfl dX6_firstHour_36
    have hf := rf_ie c_5 hf
    refine lv_aload_n hx hb dX6_firstHour_8 rfl (lv_at hl 0 rfl) ?_
    refine lv_iload_n hx hb dX6_firstHour_9 rfl (lv_at hl 1 rfl) ?_
    refine lv_iload_n hx hb dX6_firstHour_10 rfl (lv_at hl 2 rfl) ?_
    refine lv_aload_n hx hb dX6_firstHour_11 rfl (lv_at hl 0 rfl) ?_
    refine gX_rhymes_tale hC hP tw_193 (v := a 10) hp2 dX6_firstHour_12 ?_
    refine lv_iload_n hx hb dX6_firstHour_15 rfl (lv_at hl 3 rfl) ?_
    obtain ⟨z16, hz16, hf⟩ := rf_bd hf
    refine rf_vi (q0 := 10) (ci := 9) hC (c_X9_earAt_tc l E a P I J A B tc_ear tc_hourEars v3 e_tc_ear e_tc_hourEars hz16) kV_X9_earAt tw_819 ⟨Nat.le_of_ble_eq_true rfl, Nat.le_of_ble_eq_true rfl⟩ rfl rfl rfl rfl rfl hP (rf_DX hD) hS rfl hl.1 (rest := [.int v2, .int v1, .ref (a 2)]) rfl (Nat.le_of_ble_eq_true rfl) dX6_firstHour_16 (fun H locs hP hS => ?_)
    obtain ⟨z19, hz19, hf⟩ := rf_bd hf
    refine rf_vi (q0 := 2) (ci := 6) hC (c_X6_degree l E a P I J A B tc_wordCount now_words tc_kinds tc_close v1 v2 z16 hp2 e_tc_wordCount e_now_words e_tc_kinds e_tc_close hz19) kV_X6_degree tw_870 ⟨Nat.le_of_ble_eq_true rfl, Nat.le_of_ble_eq_true rfl⟩ rfl rfl rfl rfl rfl hP (rf_DX hD) hS rfl hl.1 (rest := []) rfl (Nat.le_of_ble_eq_true rfl) dX6_firstHour_19 (fun H locs hP hS => ?_)
    refine lv_iconst (v := 2) hx hb dX6_firstHour_22 (by decide) ?_
    refine lv_icmp_ne (tgt := 28) hx hb dX6_firstHour_23 (by decide) (fun c_23 => ?_) (fun c_23 => ?_)
    · have hf := rf_ie c_23 hf
      refine lv_iinc (v := v3 + 1) (lv' := [(3, .int (v3 + 1)), (0, .ref (a 2)), (1, .int v1), (2, .int v2)]) hx hb dX6_firstHour_28 hl (k := 3) rfl rfl (by decide) rfl (fun ls hl => ?_)
      refine lv_goto (tgt := 2) hx hb dX6_firstHour_31 (by decide) ?_
      exact ih v1 v2 (v3 + 1) hf _ _ _ hP hS (lv_sub hl [1, 2, 3, 0] rfl)
    have hf := rf_it c_23 hf
    refine lv_iload_n hx hb dX6_firstHour_26 rfl (lv_at hl 3 rfl) ?_
    obtain rfl := Option.some.inj hf
    exact rf_reti hC hP hS rfl rfl dX6_firstHour_27
set_option maxHeartbeats 4000000 in
set_option maxRecDepth 100000 in
theorem c_X6_firstHour (l : Launch) (E : rf_E) (a P : Nat → Nat) (I : Nat → Int32) (J : Nat → Int64) (A : Nat → Nat → Int32) (B : Nat → Nat → Int64) (tc_ear : Int32) (tc_wordCount : Int32) (now_words : Nat → Int32) (tc_kinds : Nat → Int32) (tc_hourEars : Nat → Int32) (tc_close : Nat → Int32) (v1 : Int32) (v2 : Int32) {z : Int32} (hp2 : P 2 = a 10) (e_tc_ear : I 21 = tc_ear) (e_tc_wordCount : I 23 = tc_wordCount) (e_now_words : A 1 = now_words) (e_tc_kinds : A 14 = tc_kinds) (e_tc_hourEars : A 18 = tc_hourEars) (e_tc_close : A 22 = tc_close) (hf : f_X6_firstHour tc_ear tc_wordCount now_words tc_kinds tc_hourEars tc_close v1 v2 = some z) : rf_MI l yX6_firstHour cX6_firstHour 4 (some .int) ({ frames := 4, cells := 0, slots := 0, locals := 100 }) E [.ref (a 2), .int v1, .int v2] (cX E a P I J A B) z (cX E a P I J A B) := by
  unfold f_X6_firstHour at hf
  refine rf_ofI (by decide) (Nat.le_of_ble_eq_true rfl) ?_
  intro p e s m below meth c A0 ls hC hD hP hS hl
  have hC : rf_C p E s m _ meth c cX6_firstHour 4 RX6 (some .int) A0 := hC
  have hx := hC.1
  have hb := hC.2.1
  have hl : lv_has ls 4 [(0, .ref (a 2)), (1, .int v1), (2, .int v2)] := hl
  refine lv_iconst (v := 0) hx hb dX6_firstHour_0 (by decide) ?_
  refine lv_istore_n (lv' := [(3, .int 0), (0, .ref (a 2)), (1, .int v1), (2, .int v2)]) hx hb dX6_firstHour_1 rfl hl (by decide) rfl (fun ls hl => ?_)
  exact w_X6_firstHour_2 hC hD hp2 e_tc_ear e_tc_wordCount e_now_words e_tc_kinds e_tc_hourEars e_tc_close rf_fu v1 v2 0 hf _ _ _ hP hS (lv_sub hl [1, 2, 3, 0] rfl)
set_option maxHeartbeats 4000000 in
set_option maxRecDepth 100000 in
theorem c_X10_meets (l : Launch) (E : rf_E) (a P : Nat → Nat) (I : Nat → Int32) (J : Nat → Int64) (A : Nat → Nat → Int32) (B : Nat → Nat → Int64) (tc_ear : Int32) (tc_wordCount : Int32) (tc_personCount : Int32) (now_words : Nat → Int32) (tc_kinds : Nat → Int32) (tc_hourEars : Nat → Int32) (tc_close : Nat → Int32) (x_lastTrouble : Int32) (v1 : Int32) (v2 : Int32) {z : Int32 × Int32} (hp0 : P 0 = a 10) (hp2 : P 2 = a 10) (e_tc_ear : I 21 = tc_ear) (e_tc_wordCount : I 23 = tc_wordCount) (e_tc_personCount : I 24 = tc_personCount) (e_now_words : A 1 = now_words) (e_tc_kinds : A 14 = tc_kinds) (e_tc_hourEars : A 18 = tc_hourEars) (e_tc_close : A 22 = tc_close) (e_x_lastTrouble : I 3 = x_lastTrouble) (hf : f_X10_meets tc_ear tc_wordCount tc_personCount now_words tc_kinds tc_hourEars tc_close x_lastTrouble v1 v2 = some z) : rf_MI l yX10_meets cX10_meets 3 (some .int) ({ frames := 5, cells := 0, slots := 0, locals := 123 }) E [.ref (a 0), .int v1, .int v2] (cX E a P I J A B) z.1 (cX E a P (rf_upL I [(3, z.2)]) J A B) := by
  unfold f_X10_meets at hf
  refine rf_ofI (by decide) (Nat.le_of_ble_eq_true rfl) ?_
  intro p e s m below meth c A0 ls hC hD hP hS hl
  have hC : rf_C p E s m _ meth c cX10_meets 3 RX10 (some .int) A0 := hC
  have hx := hC.1
  have hb := hC.2.1
  have hl : lv_has ls 3 [(0, .ref (a 0)), (1, .int v1), (2, .int v2)] := hl
  have hP : va_P (rf_D E) vwCl (cX E a P (rf_upL I [(3, x_lastTrouble)]) J A B) s.heap := by
    rw [rf_self (f := I) [(3, x_lastTrouble)] (rf_fa1 e_x_lastTrouble rf_fa0)]
    exact hP
  refine lv_aload_n hx hb dX10_meets_0 rfl (lv_at hl 0 rfl) ?_
  refine lv_aload_n hx hb dX10_meets_1 rfl (lv_at hl 0 rfl) ?_
  refine lv_iload_n hx hb dX10_meets_2 rfl (lv_at hl 1 rfl) ?_
  refine lv_iload_n hx hb dX10_meets_3 rfl (lv_at hl 2 rfl) ?_
  obtain ⟨z4, hz4, hf⟩ := rf_bd hf
  refine rf_vi (q0 := 0) (ci := 10) hC (c_X10_isPair l E a P (rf_upL I [(3, x_lastTrouble)]) J A B tc_personCount v1 v2 hp0 e_tc_personCount hz4) kV_X10_isPair tw_778 ⟨Nat.le_of_ble_eq_true rfl, Nat.le_of_ble_eq_true rfl⟩ rfl rfl rfl rfl rfl hP (rf_DX hD) hS rfl hl.1 (rest := [.ref (a 0)]) rfl (Nat.le_of_ble_eq_true rfl) dX10_meets_4 (fun H locs hP hS => ?_)
  refine lv_iconst (v := 1) hx hb dX10_meets_7 (by decide) ?_
  obtain ⟨z8, hz8, hf⟩ := rf_bd hf
  refine rf_vi (q0 := 0) (ci := 10) hC (c_X10_refused l E a P (rf_upL I [(3, x_lastTrouble)]) J A B x_lastTrouble z4 1 rfl hz8) kV_X10_refused tw_455 ⟨Nat.le_of_ble_eq_true rfl, Nat.le_of_ble_eq_true rfl⟩ rfl rfl rfl rfl rfl hP (rf_DX hD) hS rfl hl.1 (rest := []) rfl (Nat.le_of_ble_eq_true rfl) dX10_meets_8 (fun H locs hP hS => ?_)
  rw [rf_cat (f := I) (l := [(3, x_lastTrouble)]) (lc := [(3, z8.2)]) (l' := [(3, z8.2)]) rfl] at hP
  refine lv_if_eq (tgt := 16) hx hb dX10_meets_11 (by decide) (fun c_11 => ?_) (fun c_11 => ?_)
  · have hf := rf_it c_11 hf
    refine lv_aload_n hx hb dX10_meets_16 rfl (lv_at hl 0 rfl) ?_
    refine gX_x_rhymes hC hP tw_393 dX10_meets_17 ?_
    refine lv_iload_n hx hb dX10_meets_20 rfl (lv_at hl 1 rfl) ?_
    refine lv_iload_n hx hb dX10_meets_21 rfl (lv_at hl 2 rfl) ?_
    obtain ⟨z22, hz22, hf⟩ := rf_bd hf
    refine rf_vi (q0 := 2) (ci := 6) hC (c_X6_firstHour l E a P (rf_upL I [(3, z8.2)]) J A B tc_ear tc_wordCount now_words tc_kinds tc_hourEars tc_close v1 v2 hp2 e_tc_ear e_tc_wordCount e_now_words e_tc_kinds e_tc_hourEars e_tc_close hz22) kV_X6_firstHour tw_866 ⟨Nat.le_of_ble_eq_true rfl, Nat.le_of_ble_eq_true rfl⟩ rfl rfl rfl rfl rfl hP (rf_DX hD) hS rfl hl.1 (rest := []) rfl (Nat.le_of_ble_eq_true rfl) dX10_meets_22 (fun H locs hP hS => ?_)
    obtain rfl := Option.some.inj hf
    exact rf_reti hC hP hS rfl rfl dX10_meets_25
  have hf := rf_ie c_11 hf
  refine lv_iconst (v := (-1)) hx hb dX10_meets_14 (by decide) ?_
  obtain rfl := Option.some.inj hf
  exact rf_reti hC hP hS rfl rfl dX10_meets_15
set_option maxHeartbeats 4000000 in
set_option maxRecDepth 100000 in
theorem w_X6_hourCount_37 {l : Launch} {p : Program} {e : Env} {s : State} {m : MethodId} {args : Array Value} {below : List Frame} {meth : Method} {c : Code} {A0 : Nat → Prop} {E : rf_E} {a P : Nat → Nat} {I : Nat → Int32} {J : Nat → Int64} {A : Nat → Nat → Int32} {B : Nat → Nat → Int64} {tc_ear : Int32} {tc_wordCount : Int32} {now_words : Nat → Int32} {tc_kinds : Nat → Int32} {tc_hourEars : Nat → Int32} {tc_close : Nat → Int32} {z : Int32} (hC : rf_C p E s m args meth c cX6_hourCount 5 RX6 (some .int) A0) (hD : va_D A0 (cX E a P I J A B)) (hp2 : P 2 = a 10) (e_tc_ear : I 21 = tc_ear) (e_tc_wordCount : I 23 = tc_wordCount) (e_now_words : A 1 = now_words) (e_tc_kinds : A 14 = tc_kinds) (e_tc_hourEars : A 18 = tc_hourEars) (e_tc_close : A 22 = tc_close) {k5 : Int32 → Int32 → Int32 → Int32 → Option (Int32)} (hk5 : ∀ (v1 : Int32) (v2 : Int32) (v3 : Int32) (v4 : Int32), k5 v1 v2 v3 v4 = some z → ∀ (H : Heap) (locs : List Loc) (ls : Array Slot), va_P (rf_D E) vwCl (cX E a P I J A B) H → va_S A0 s.heap H locs → lv_has ls 5 [(0, .ref (a 2)), (1, .int v1), (2, .int v2), (3, .int v3), (4, .int v4)] → W p l e ({ frames := 4, cells := 0, slots := 0, locals := 100 }) s m args below meth c H locs 0 0 (rf_QI below args s E A0 z (cX E a P I J A B)) (F0 m 5 ls [])) :
    ∀ (v1 : Int32) (v2 : Int32) (v4 : Int32) (s0 : Int32) (s1 : Int32), f_X6_hourCount_37 k5 tc_ear tc_wordCount now_words tc_kinds tc_hourEars tc_close v1 v2 v4 s0 s1 = some z → ∀ (H : Heap) (locs : List Loc) (ls : Array Slot), va_P (rf_D E) vwCl (cX E a P I J A B) H → va_S A0 s.heap H locs → lv_has ls 5 [(0, .ref (a 2)), (1, .int v1), (2, .int v2), (4, .int v4)] → W p l e ({ frames := 4, cells := 0, slots := 0, locals := 100 }) s m args below meth c H locs 0 0 (rf_QI below args s E A0 z (cX E a P I J A B)) (F0 m 37 ls [.int s1, .int s0]) := by
  have hx := hC.1
  have hb := hC.2.1
  intro v1 v2 v4 s0 s1 hf H locs ls hP hS hl
  unfold f_X6_hourCount_37 at hf
  refine lv_iadd hx hb dX6_hourCount_37 ?_
  refine lv_istore_n (lv' := [(3, .int (s0 + s1)), (0, .ref (a 2)), (1, .int v1), (2, .int v2), (4, .int v4)]) hx hb dX6_hourCount_38 rfl hl (by decide) rfl (fun ls hl => ?_)
  refine lv_iinc (v := v4 + 1) (lv' := [(4, .int (v4 + 1)), (3, .int (s0 + s1)), (0, .ref (a 2)), (1, .int v1), (2, .int v2)]) hx hb dX6_hourCount_39 hl (k := 4) rfl rfl (by decide) rfl (fun ls hl => ?_)
  refine lv_goto (tgt := 5) hx hb dX6_hourCount_42 (by decide) ?_
  exact hk5 v1 v2 (s0 + s1) (v4 + 1) hf _ _ _ hP hS (lv_sub hl [2, 3, 4, 1, 0] rfl)
set_option maxHeartbeats 4000000 in
set_option maxRecDepth 100000 in
theorem w_X6_hourCount_5 {l : Launch} {p : Program} {e : Env} {s : State} {m : MethodId} {args : Array Value} {below : List Frame} {meth : Method} {c : Code} {A0 : Nat → Prop} {E : rf_E} {a P : Nat → Nat} {I : Nat → Int32} {J : Nat → Int64} {A : Nat → Nat → Int32} {B : Nat → Nat → Int64} {tc_ear : Int32} {tc_wordCount : Int32} {now_words : Nat → Int32} {tc_kinds : Nat → Int32} {tc_hourEars : Nat → Int32} {tc_close : Nat → Int32} {z : Int32} (hC : rf_C p E s m args meth c cX6_hourCount 5 RX6 (some .int) A0) (hD : va_D A0 (cX E a P I J A B)) (hp2 : P 2 = a 10) (e_tc_ear : I 21 = tc_ear) (e_tc_wordCount : I 23 = tc_wordCount) (e_now_words : A 1 = now_words) (e_tc_kinds : A 14 = tc_kinds) (e_tc_hourEars : A 18 = tc_hourEars) (e_tc_close : A 22 = tc_close) :
    ∀ (n : Nat), ∀ (v1 : Int32) (v2 : Int32) (v3 : Int32) (v4 : Int32), f_X6_hourCount_5 tc_ear tc_wordCount now_words tc_kinds tc_hourEars tc_close n v1 v2 v3 v4 = some z → ∀ (H : Heap) (locs : List Loc) (ls : Array Slot), va_P (rf_D E) vwCl (cX E a P I J A B) H → va_S A0 s.heap H locs → lv_has ls 5 [(0, .ref (a 2)), (1, .int v1), (2, .int v2), (3, .int v3), (4, .int v4)] → W p l e ({ frames := 4, cells := 0, slots := 0, locals := 100 }) s m args below meth c H locs 0 0 (rf_QI below args s E A0 z (cX E a P I J A B)) (F0 m 5 ls []) := by
  have hx := hC.1
  have hb := hC.2.1
  intro n
  induction n with
  | zero =>
    intro v1 v2 v3 v4 hf
    have hf : (none : Option (Int32)) = some z := hf
    cases hf
  | succ n ih =>
    intro v1 v2 v3 v4 hf H locs ls hP hS hl
    rw [f_X6_hourCount_5] at hf
    refine lv_iload hx hb dX6_hourCount_5 (lv_at hl 4 rfl) ?_
    refine lv_bipush (v := 24) hx hb dX6_hourCount_7 (by decide) ?_
    refine lv_icmp_ge (tgt := 45) hx hb dX6_hourCount_9 (by decide) (fun c_9 => ?_) (fun c_9 => ?_)
    · have hf := rf_it c_9 hf
      refine lv_iload_n hx hb dX6_hourCount_45 rfl (lv_at hl 3 rfl) ?_
      obtain rfl := Option.some.inj hf
      exact rf_reti hC hP hS rfl rfl dX6_hourCount_46
    have hf := rf_ie c_9 hf
    refine lv_iload_n hx hb dX6_hourCount_12 rfl (lv_at hl 3 rfl) ?_
    refine lv_aload_n hx hb dX6_hourCount_13 rfl (lv_at hl 0 rfl) ?_
    refine lv_iload_n hx hb dX6_hourCount_14 rfl (lv_at hl 1 rfl) ?_
    refine lv_iload_n hx hb dX6_hourCount_15 rfl (lv_at hl 2 rfl) ?_
    refine lv_aload_n hx hb dX6_hourCount_16 rfl (lv_at hl 0 rfl) ?_
    refine gX_rhymes_tale hC hP tw_193 (v := a 10) hp2 dX6_hourCount_17 ?_
    refine lv_iload hx hb dX6_hourCount_20 (lv_at hl 4 rfl) ?_
    obtain ⟨z22, hz22, hf⟩ := rf_bd hf
    refine rf_vi (q0 := 10) (ci := 9) hC (c_X9_earAt_tc l E a P I J A B tc_ear tc_hourEars v4 e_tc_ear e_tc_hourEars hz22) kV_X9_earAt tw_819 ⟨Nat.le_of_ble_eq_true rfl, Nat.le_of_ble_eq_true rfl⟩ rfl rfl rfl rfl rfl hP (rf_DX hD) hS rfl hl.1 (rest := [.int v2, .int v1, .ref (a 2), .int v3]) rfl (Nat.le_of_ble_eq_true rfl) dX6_hourCount_22 (fun H locs hP hS => ?_)
    obtain ⟨z25, hz25, hf⟩ := rf_bd hf
    refine rf_vi (q0 := 2) (ci := 6) hC (c_X6_degree l E a P I J A B tc_wordCount now_words tc_kinds tc_close v1 v2 z22 hp2 e_tc_wordCount e_now_words e_tc_kinds e_tc_close hz25) kV_X6_degree tw_870 ⟨Nat.le_of_ble_eq_true rfl, Nat.le_of_ble_eq_true rfl⟩ rfl rfl rfl rfl rfl hP (rf_DX hD) hS rfl hl.1 (rest := [.int v3]) rfl (Nat.le_of_ble_eq_true rfl) dX6_hourCount_25 (fun H locs hP hS => ?_)
    refine lv_iconst (v := 2) hx hb dX6_hourCount_28 (by decide) ?_
    refine lv_icmp_ne (tgt := 36) hx hb dX6_hourCount_29 (by decide) (fun c_29 => ?_) (fun c_29 => ?_)
    · have hf := rf_ie c_29 hf
      refine lv_iconst (v := 0) hx hb dX6_hourCount_36 (by decide) ?_
      exact w_X6_hourCount_37 hC hD hp2 e_tc_ear e_tc_wordCount e_now_words e_tc_kinds e_tc_hourEars e_tc_close ih v1 v2 v4 v3 0 hf _ _ _ hP hS (lv_sub hl [0, 1, 2, 4] rfl)
    have hf := rf_it c_29 hf
    refine lv_iconst (v := 1) hx hb dX6_hourCount_32 (by decide) ?_
    refine lv_goto (tgt := 37) hx hb dX6_hourCount_33 (by decide) ?_
    exact w_X6_hourCount_37 hC hD hp2 e_tc_ear e_tc_wordCount e_now_words e_tc_kinds e_tc_hourEars e_tc_close ih v1 v2 v4 v3 1 hf _ _ _ hP hS (lv_sub hl [0, 1, 2, 4] rfl)
set_option maxHeartbeats 4000000 in
set_option maxRecDepth 100000 in
theorem c_X6_hourCount (l : Launch) (E : rf_E) (a P : Nat → Nat) (I : Nat → Int32) (J : Nat → Int64) (A : Nat → Nat → Int32) (B : Nat → Nat → Int64) (tc_ear : Int32) (tc_wordCount : Int32) (now_words : Nat → Int32) (tc_kinds : Nat → Int32) (tc_hourEars : Nat → Int32) (tc_close : Nat → Int32) (v1 : Int32) (v2 : Int32) {z : Int32} (hp2 : P 2 = a 10) (e_tc_ear : I 21 = tc_ear) (e_tc_wordCount : I 23 = tc_wordCount) (e_now_words : A 1 = now_words) (e_tc_kinds : A 14 = tc_kinds) (e_tc_hourEars : A 18 = tc_hourEars) (e_tc_close : A 22 = tc_close) (hf : f_X6_hourCount tc_ear tc_wordCount now_words tc_kinds tc_hourEars tc_close v1 v2 = some z) : rf_MI l yX6_hourCount cX6_hourCount 5 (some .int) ({ frames := 4, cells := 0, slots := 0, locals := 100 }) E [.ref (a 2), .int v1, .int v2] (cX E a P I J A B) z (cX E a P I J A B) := by
  unfold f_X6_hourCount at hf
  refine rf_ofI (by decide) (Nat.le_of_ble_eq_true rfl) ?_
  intro p e s m below meth c A0 ls hC hD hP hS hl
  have hC : rf_C p E s m _ meth c cX6_hourCount 5 RX6 (some .int) A0 := hC
  have hx := hC.1
  have hb := hC.2.1
  have hl : lv_has ls 5 [(0, .ref (a 2)), (1, .int v1), (2, .int v2)] := hl
  refine lv_iconst (v := 0) hx hb dX6_hourCount_0 (by decide) ?_
  refine lv_istore_n (lv' := [(3, .int 0), (0, .ref (a 2)), (1, .int v1), (2, .int v2)]) hx hb dX6_hourCount_1 rfl hl (by decide) rfl (fun ls hl => ?_)
  refine lv_iconst (v := 0) hx hb dX6_hourCount_2 (by decide) ?_
  refine lv_istore (lv' := [(4, .int 0), (3, .int 0), (0, .ref (a 2)), (1, .int v1), (2, .int v2)]) hx hb dX6_hourCount_3 hl (by decide) rfl (fun ls hl => ?_)
  exact w_X6_hourCount_5 hC hD hp2 e_tc_ear e_tc_wordCount e_now_words e_tc_kinds e_tc_hourEars e_tc_close rf_fu v1 v2 0 0 hf _ _ _ hP hS (lv_sub hl [2, 3, 4, 1, 0] rfl)
set_option maxHeartbeats 4000000 in
set_option maxRecDepth 100000 in
theorem c_X10_often (l : Launch) (E : rf_E) (a P : Nat → Nat) (I : Nat → Int32) (J : Nat → Int64) (A : Nat → Nat → Int32) (B : Nat → Nat → Int64) (tc_ear : Int32) (tc_wordCount : Int32) (tc_personCount : Int32) (now_words : Nat → Int32) (tc_kinds : Nat → Int32) (tc_hourEars : Nat → Int32) (tc_close : Nat → Int32) (x_lastTrouble : Int32) (v1 : Int32) (v2 : Int32) {z : Int32 × Int32} (hp0 : P 0 = a 10) (hp2 : P 2 = a 10) (e_tc_ear : I 21 = tc_ear) (e_tc_wordCount : I 23 = tc_wordCount) (e_tc_personCount : I 24 = tc_personCount) (e_now_words : A 1 = now_words) (e_tc_kinds : A 14 = tc_kinds) (e_tc_hourEars : A 18 = tc_hourEars) (e_tc_close : A 22 = tc_close) (e_x_lastTrouble : I 3 = x_lastTrouble) (hf : f_X10_often tc_ear tc_wordCount tc_personCount now_words tc_kinds tc_hourEars tc_close x_lastTrouble v1 v2 = some z) : rf_MI l yX10_often cX10_often 3 (some .int) ({ frames := 5, cells := 0, slots := 0, locals := 124 }) E [.ref (a 0), .int v1, .int v2] (cX E a P I J A B) z.1 (cX E a P (rf_upL I [(3, z.2)]) J A B) := by
  unfold f_X10_often at hf
  refine rf_ofI (by decide) (Nat.le_of_ble_eq_true rfl) ?_
  intro p e s m below meth c A0 ls hC hD hP hS hl
  have hC : rf_C p E s m _ meth c cX10_often 3 RX10 (some .int) A0 := hC
  have hx := hC.1
  have hb := hC.2.1
  have hl : lv_has ls 3 [(0, .ref (a 0)), (1, .int v1), (2, .int v2)] := hl
  have hP : va_P (rf_D E) vwCl (cX E a P (rf_upL I [(3, x_lastTrouble)]) J A B) s.heap := by
    rw [rf_self (f := I) [(3, x_lastTrouble)] (rf_fa1 e_x_lastTrouble rf_fa0)]
    exact hP
  refine lv_aload_n hx hb dX10_often_0 rfl (lv_at hl 0 rfl) ?_
  refine lv_aload_n hx hb dX10_often_1 rfl (lv_at hl 0 rfl) ?_
  refine lv_iload_n hx hb dX10_often_2 rfl (lv_at hl 1 rfl) ?_
  refine lv_iload_n hx hb dX10_often_3 rfl (lv_at hl 2 rfl) ?_
  obtain ⟨z4, hz4, hf⟩ := rf_bd hf
  refine rf_vi (q0 := 0) (ci := 10) hC (c_X10_isPair l E a P (rf_upL I [(3, x_lastTrouble)]) J A B tc_personCount v1 v2 hp0 e_tc_personCount hz4) kV_X10_isPair tw_778 ⟨Nat.le_of_ble_eq_true rfl, Nat.le_of_ble_eq_true rfl⟩ rfl rfl rfl rfl rfl hP (rf_DX hD) hS rfl hl.1 (rest := [.ref (a 0)]) rfl (Nat.le_of_ble_eq_true rfl) dX10_often_4 (fun H locs hP hS => ?_)
  refine lv_iconst (v := 1) hx hb dX10_often_7 (by decide) ?_
  obtain ⟨z8, hz8, hf⟩ := rf_bd hf
  refine rf_vi (q0 := 0) (ci := 10) hC (c_X10_refused l E a P (rf_upL I [(3, x_lastTrouble)]) J A B x_lastTrouble z4 1 rfl hz8) kV_X10_refused tw_455 ⟨Nat.le_of_ble_eq_true rfl, Nat.le_of_ble_eq_true rfl⟩ rfl rfl rfl rfl rfl hP (rf_DX hD) hS rfl hl.1 (rest := []) rfl (Nat.le_of_ble_eq_true rfl) dX10_often_8 (fun H locs hP hS => ?_)
  rw [rf_cat (f := I) (l := [(3, x_lastTrouble)]) (lc := [(3, z8.2)]) (l' := [(3, z8.2)]) rfl] at hP
  refine lv_if_eq (tgt := 16) hx hb dX10_often_11 (by decide) (fun c_11 => ?_) (fun c_11 => ?_)
  · have hf := rf_it c_11 hf
    refine lv_aload_n hx hb dX10_often_16 rfl (lv_at hl 0 rfl) ?_
    refine gX_x_rhymes hC hP tw_393 dX10_often_17 ?_
    refine lv_iload_n hx hb dX10_often_20 rfl (lv_at hl 1 rfl) ?_
    refine lv_iload_n hx hb dX10_often_21 rfl (lv_at hl 2 rfl) ?_
    obtain ⟨z22, hz22, hf⟩ := rf_bd hf
    refine rf_vi (q0 := 2) (ci := 6) hC (c_X6_hourCount l E a P (rf_upL I [(3, z8.2)]) J A B tc_ear tc_wordCount now_words tc_kinds tc_hourEars tc_close v1 v2 hp2 e_tc_ear e_tc_wordCount e_now_words e_tc_kinds e_tc_hourEars e_tc_close hz22) kV_X6_hourCount tw_875 ⟨Nat.le_of_ble_eq_true rfl, Nat.le_of_ble_eq_true rfl⟩ rfl rfl rfl rfl rfl hP (rf_DX hD) hS rfl hl.1 (rest := []) rfl (Nat.le_of_ble_eq_true rfl) dX10_often_22 (fun H locs hP hS => ?_)
    obtain rfl := Option.some.inj hf
    exact rf_reti hC hP hS rfl rfl dX10_often_25
  have hf := rf_ie c_11 hf
  refine lv_iconst (v := (-1)) hx hb dX10_often_14 (by decide) ?_
  obtain rfl := Option.some.inj hf
  exact rf_reti hC hP hS rfl rfl dX10_often_15
set_option maxHeartbeats 4000000 in
set_option maxRecDepth 100000 in
theorem c_X2_onBank (l : Launch) (E : rf_E) (a P : Nat → Nat) (I : Nat → Int32) (J : Nat → Int64) (A : Nat → Nat → Int32) (B : Nat → Nat → Int64) (now_everybody : Int32) (now_far : Int32) (v1 : Int32) {z : Int32} (e_now_everybody : I 6 = now_everybody) (e_now_far : I 7 = now_far) (hf : f_X2_onBank now_everybody now_far v1 = some z) : rf_MI l yX2_onBank cX2_onBank 2 (some .int) ({ frames := 0, cells := 0, slots := 0, locals := 0 }) E [.ref (a 1), .int v1] (cX E a P I J A B) z (cX E a P I J A B) := by
  unfold f_X2_onBank at hf
  refine rf_ofI (by decide) (Nat.le_of_ble_eq_true rfl) ?_
  intro p e s m below meth c A0 ls hC hD hP hS hl
  have hC : rf_C p E s m _ meth c cX2_onBank 2 RX2 (some .int) A0 := hC
  have hx := hC.1
  have hb := hC.2.1
  have hl : lv_has ls 2 [(0, .ref (a 1)), (1, .int v1)] := hl
  refine lv_iload_n hx hb dX2_onBank_0 rfl (lv_at hl 1 rfl) ?_
  refine lv_iconst (v := 1) hx hb dX2_onBank_1 (by decide) ?_
  refine lv_icmp_ne (tgt := 12) hx hb dX2_onBank_2 (by decide) (fun c_2 => ?_) (fun c_2 => ?_)
  · have hf := rf_ie c_2 hf
    refine lv_aload_n hx hb dX2_onBank_12 rfl (lv_at hl 0 rfl) ?_
    refine gX_now_everybody hC hP tw_46 (v := now_everybody) e_now_everybody dX2_onBank_13 ?_
    refine lv_aload_n hx hb dX2_onBank_16 rfl (lv_at hl 0 rfl) ?_
    refine gX_now_far hC hP tw_47 (v := now_far) e_now_far dX2_onBank_17 ?_
    refine lv_iconst (v := (-1)) hx hb dX2_onBank_20 (by decide) ?_
    refine lv_ixor hx hb dX2_onBank_21 ?_
    refine lv_iand hx hb dX2_onBank_22 ?_
    obtain rfl := Option.some.inj hf
    exact rf_reti hC hP hS rfl rfl dX2_onBank_23
  have hf := rf_it c_2 hf
  refine lv_aload_n hx hb dX2_onBank_5 rfl (lv_at hl 0 rfl) ?_
  refine gX_now_far hC hP tw_47 (v := now_far) e_now_far dX2_onBank_6 ?_
  refine lv_goto (tgt := 23) hx hb dX2_onBank_9 (by decide) ?_
  obtain rfl := Option.some.inj hf
  exact rf_reti hC hP hS rfl rfl dX2_onBank_23
set_option maxHeartbeats 4000000 in
set_option maxRecDepth 100000 in
theorem c_X6_metHaving (l : Launch) (E : rf_E) (a P : Nat → Nat) (I : Nat → Int32) (J : Nat → Int64) (A : Nat → Nat → Int32) (B : Nat → Nat → Int64) (tc_wordCount : Int32) (tc_personCount : Int32) (now_words : Nat → Int32) (tc_kinds : Nat → Int32) (tc_close : Nat → Int32) (v1 : Int32) (v2 : Int32) (v3 : Int32) {z : Int32} (hp2 : P 2 = a 10) (e_tc_wordCount : I 23 = tc_wordCount) (e_tc_personCount : I 24 = tc_personCount) (e_now_words : A 1 = now_words) (e_tc_kinds : A 14 = tc_kinds) (e_tc_close : A 22 = tc_close) (hf : f_X6_metHaving tc_wordCount tc_personCount now_words tc_kinds tc_close v1 v2 v3 = some z) : rf_MI l yX6_metHaving cX6_metHaving 4 (some .int) ({ frames := 3, cells := 0, slots := 0, locals := 79 }) E [.ref (a 2), .int v1, .int v2, .int v3] (cX E a P I J A B) z (cX E a P I J A B) := by
  unfold f_X6_metHaving at hf
  refine rf_ofI (by decide) (Nat.le_of_ble_eq_true rfl) ?_
  intro p e s m below meth c A0 ls hC hD hP hS hl
  have hC : rf_C p E s m _ meth c cX6_metHaving 4 RX6 (some .int) A0 := hC
  have hx := hC.1
  have hb := hC.2.1
  have hl : lv_has ls 4 [(0, .ref (a 2)), (1, .int v1), (2, .int v2), (3, .int v3)] := hl
  refine lv_aload_n hx hb dX6_metHaving_0 rfl (lv_at hl 0 rfl) ?_
  refine lv_iload_n hx hb dX6_metHaving_1 rfl (lv_at hl 1 rfl) ?_
  refine lv_aload_n hx hb dX6_metHaving_2 rfl (lv_at hl 0 rfl) ?_
  refine gX_rhymes_now hC hP tw_185 dX6_metHaving_3 ?_
  refine gX_now_words hC hP tw_50 dX6_metHaving_6 ?_
  refine lv_iload_n hx hb dX6_metHaving_9 rfl (lv_at hl 1 rfl) ?_
  obtain ⟨hi_10, hf⟩ := rf_gu hf
  refine lX_now_words hC hP hi_10 (f := now_words) e_now_words dX6_metHaving_10 ?_
  refine lv_iconst (v := 1) hx hb dX6_metHaving_11 (by decide) ?_
  refine lv_iload_n hx hb dX6_metHaving_12 rfl (lv_at hl 2 rfl) ?_
  refine lv_ishl hx hb dX6_metHaving_13 ?_
  refine lv_ior hx hb dX6_metHaving_14 ?_
  refine lv_iconst (v := 0) hx hb dX6_metHaving_15 (by decide) ?_
  refine lv_iload_n hx hb dX6_metHaving_16 rfl (lv_at hl 3 rfl) ?_
  obtain ⟨z17, hz17, hf⟩ := rf_bd hf
  refine rf_vi (q0 := 2) (ci := 6) hC (c_X6_metBy l E a P I J A B tc_wordCount tc_personCount now_words tc_kinds tc_close v1 ((now_words (Int32.toNatClampNeg v1)) ||| ((1 : Int32) <<< (v2 &&& 31))) 0 v3 hp2 e_tc_wordCount e_tc_personCount e_now_words e_tc_kinds e_tc_close hz17) kV_X6_metBy tw_806 ⟨Nat.le_of_ble_eq_true rfl, Nat.le_of_ble_eq_true rfl⟩ rfl rfl rfl rfl rfl hP (rf_DX hD) hS rfl hl.1 (rest := []) rfl (Nat.le_of_ble_eq_true rfl) dX6_metHaving_17 (fun H locs hP hS => ?_)
  obtain rfl := Option.some.inj hf
  exact rf_reti hC hP hS rfl rfl dX6_metHaving_20
set_option maxHeartbeats 4000000 in
set_option maxRecDepth 100000 in
theorem w_X6_cheapestGain_116 {l : Launch} {p : Program} {e : Env} {s : State} {m : MethodId} {args : Array Value} {below : List Frame} {meth : Method} {c : Code} {A0 : Nat → Prop} {E : rf_E} {a P : Nat → Nat} {I : Nat → Int32} {J : Nat → Int64} {A : Nat → Nat → Int32} {B : Nat → Nat → Int64} {now_everybody : Int32} {now_far : Int32} {tc_wordCount : Int32} {tc_personCount : Int32} {now_words : Nat → Int32} {tc_prices : Nat → Int32} {tc_kinds : Nat → Int32} {tc_close : Nat → Int32} {z : Int32} (hC : rf_C p E s m args meth c cX6_cheapestGain 7 RX6 (some .int) A0) (hD : va_D A0 (cX E a P I J A B)) (hp2 : P 2 = a 10) (e_now_everybody : I 6 = now_everybody) (e_now_far : I 7 = now_far) (e_tc_wordCount : I 23 = tc_wordCount) (e_tc_personCount : I 24 = tc_personCount) (e_now_words : A 1 = now_words) (e_tc_prices : A 13 = tc_prices) (e_tc_kinds : A 14 = tc_kinds) (e_tc_close : A 22 = tc_close) {k32 : Int32 → Int32 → Int32 → Int32 → Int32 → Option (Int32)} (hk32 : ∀ (v1 : Int32) (v2 : Int32) (v3 : Int32) (v4 : Int32) (v5 : Int32), k32 v1 v2 v3 v4 v5 = some z → ∀ (H : Heap) (locs : List Loc) (ls : Array Slot), va_P (rf_D E) vwCl (cX E a P I J A B) H → va_S A0 s.heap H locs → lv_has ls 7 [(0, .ref (a 2)), (1, .int v1), (2, .int v2), (3, .int v3), (4, .int v4), (5, .int v5)] → W p l e ({ frames := 4, cells := 0, slots := 0, locals := 102 }) s m args below meth c H locs 0 0 (rf_QI below args s E A0 z (cX E a P I J A B)) (F0 m 32 ls [])) :
    ∀ (v1 : Int32) (v2 : Int32) (v3 : Int32) (v4 : Int32) (v5 : Int32), f_X6_cheapestGain_116 k32 now_everybody now_far tc_wordCount tc_personCount now_words tc_prices tc_kinds tc_close v1 v2 v3 v4 v5 = some z → ∀ (H : Heap) (locs : List Loc) (ls : Array Slot), va_P (rf_D E) vwCl (cX E a P I J A B) H → va_S A0 s.heap H locs → lv_has ls 7 [(0, .ref (a 2)), (1, .int v1), (2, .int v2), (3, .int v3), (4, .int v4), (5, .int v5)] → W p l e ({ frames := 4, cells := 0, slots := 0, locals := 102 }) s m args below meth c H locs 0 0 (rf_QI below args s E A0 z (cX E a P I J A B)) (F0 m 116 ls []) := by
  have hx := hC.1
  have hb := hC.2.1
  intro v1 v2 v3 v4 v5 hf H locs ls hP hS hl
  unfold f_X6_cheapestGain_116 at hf
  refine lv_iinc (v := v5 + 1) (lv' := [(5, .int (v5 + 1)), (0, .ref (a 2)), (1, .int v1), (2, .int v2), (3, .int v3), (4, .int v4)]) hx hb dX6_cheapestGain_116 hl (k := 5) rfl rfl (by decide) rfl (fun ls hl => ?_)
  refine lv_goto (tgt := 32) hx hb dX6_cheapestGain_119 (by decide) ?_
  exact hk32 v1 v2 v3 v4 (v5 + 1) hf _ _ _ hP hS (lv_sub hl [1, 2, 3, 4, 5, 0] rfl)
set_option maxHeartbeats 4000000 in
set_option maxRecDepth 100000 in
theorem w_X6_cheapestGain_79 {l : Launch} {p : Program} {e : Env} {s : State} {m : MethodId} {args : Array Value} {below : List Frame} {meth : Method} {c : Code} {A0 : Nat → Prop} {E : rf_E} {a P : Nat → Nat} {I : Nat → Int32} {J : Nat → Int64} {A : Nat → Nat → Int32} {B : Nat → Nat → Int64} {now_everybody : Int32} {now_far : Int32} {tc_wordCount : Int32} {tc_personCount : Int32} {now_words : Nat → Int32} {tc_prices : Nat → Int32} {tc_kinds : Nat → Int32} {tc_close : Nat → Int32} {z : Int32} (hC : rf_C p E s m args meth c cX6_cheapestGain 7 RX6 (some .int) A0) (hD : va_D A0 (cX E a P I J A B)) (hp2 : P 2 = a 10) (e_now_everybody : I 6 = now_everybody) (e_now_far : I 7 = now_far) (e_tc_wordCount : I 23 = tc_wordCount) (e_tc_personCount : I 24 = tc_personCount) (e_now_words : A 1 = now_words) (e_tc_prices : A 13 = tc_prices) (e_tc_kinds : A 14 = tc_kinds) (e_tc_close : A 22 = tc_close) {k32 : Int32 → Int32 → Int32 → Int32 → Int32 → Option (Int32)} (hk32 : ∀ (v1 : Int32) (v2 : Int32) (v3 : Int32) (v4 : Int32) (v5 : Int32), k32 v1 v2 v3 v4 v5 = some z → ∀ (H : Heap) (locs : List Loc) (ls : Array Slot), va_P (rf_D E) vwCl (cX E a P I J A B) H → va_S A0 s.heap H locs → lv_has ls 7 [(0, .ref (a 2)), (1, .int v1), (2, .int v2), (3, .int v3), (4, .int v4), (5, .int v5)] → W p l e ({ frames := 4, cells := 0, slots := 0, locals := 102 }) s m args below meth c H locs 0 0 (rf_QI below args s E A0 z (cX E a P I J A B)) (F0 m 32 ls [])) :
    ∀ (v1 : Int32) (v2 : Int32) (v3 : Int32) (v4 : Int32) (v5 : Int32) (s0 : Int32), f_X6_cheapestGain_79 k32 now_everybody now_far tc_wordCount tc_personCount now_words tc_prices tc_kinds tc_close v1 v2 v3 v4 v5 s0 = some z → ∀ (H : Heap) (locs : List Loc) (ls : Array Slot), va_P (rf_D E) vwCl (cX E a P I J A B) H → va_S A0 s.heap H locs → lv_has ls 7 [(0, .ref (a 2)), (1, .int v1), (2, .int v2), (3, .int v3), (4, .int v4), (5, .int v5)] → W p l e ({ frames := 4, cells := 0, slots := 0, locals := 102 }) s m args below meth c H locs 0 0 (rf_QI below args s E A0 z (cX E a P I J A B)) (F0 m 79 ls [.int s0]) := by
  have hx := hC.1
  have hb := hC.2.1
  intro v1 v2 v3 v4 v5 s0 hf H locs ls hP hS hl
  unfold f_X6_cheapestGain_79 at hf
  refine lv_istore (lv' := [(6, .int s0), (0, .ref (a 2)), (1, .int v1), (2, .int v2), (3, .int v3), (4, .int v4), (5, .int v5)]) hx hb dX6_cheapestGain_79 hl (by decide) rfl (fun ls hl => ?_)
  refine lv_iload hx hb dX6_cheapestGain_81 (lv_at hl 0 rfl) ?_
  refine lv_if_eq (tgt := 116) hx hb dX6_cheapestGain_83 (by decide) (fun c_83 => ?_) (fun c_83 => ?_)
  · have hf := rf_it c_83 hf
    exact w_X6_cheapestGain_116 hC hD hp2 e_now_everybody e_now_far e_tc_wordCount e_tc_personCount e_now_words e_tc_prices e_tc_kinds e_tc_close hk32 v1 v2 v3 v4 v5 hf _ _ _ hP hS (lv_sub hl [1, 2, 3, 4, 5, 6] rfl)
  have hf := rf_ie c_83 hf
  refine lv_aload_n hx hb dX6_cheapestGain_86 rfl (lv_at hl 1 rfl) ?_
  refine gX_rhymes_now hC hP tw_185 dX6_cheapestGain_87 ?_
  refine lv_iload_n hx hb dX6_cheapestGain_90 rfl (lv_at hl 2 rfl) ?_
  refine lv_iload hx hb dX6_cheapestGain_91 (lv_at hl 6 rfl) ?_
  obtain ⟨z93, hz93, hf⟩ := rf_bd hf
  refine rf_vi (q0 := 1) (ci := 2) hC (c_X2_has l E a P I J A B now_words v1 v5 e_now_words hz93) kV_X2_has tw_892 ⟨Nat.le_of_ble_eq_true rfl, Nat.le_of_ble_eq_true rfl⟩ rfl rfl rfl rfl rfl hP (rf_DX hD) hS rfl hl.1 (rest := []) rfl (Nat.le_of_ble_eq_true rfl) dX6_cheapestGain_93 (fun H locs hP hS => ?_)
  refine lv_if_ne (tgt := 116) hx hb dX6_cheapestGain_96 (by decide) (fun c_96 => ?_) (fun c_96 => ?_)
  · have hf := rf_ie c_96 hf
    exact w_X6_cheapestGain_116 hC hD hp2 e_now_everybody e_now_far e_tc_wordCount e_tc_personCount e_now_words e_tc_prices e_tc_kinds e_tc_close hk32 v1 v2 v3 v4 v5 hf _ _ _ hP hS (lv_sub hl [1, 2, 3, 4, 5, 6] rfl)
  have hf := rf_it c_96 hf
  refine lv_aload_n hx hb dX6_cheapestGain_99 rfl (lv_at hl 1 rfl) ?_
  refine lv_iload_n hx hb dX6_cheapestGain_100 rfl (lv_at hl 2 rfl) ?_
  refine lv_iload hx hb dX6_cheapestGain_101 (lv_at hl 6 rfl) ?_
  refine lv_iload_n hx hb dX6_cheapestGain_103 rfl (lv_at hl 3 rfl) ?_
  obtain ⟨z104, hz104, hf⟩ := rf_bd hf
  refine rf_vi (q0 := 2) (ci := 6) hC (c_X6_metHaving l E a P I J A B tc_wordCount tc_personCount now_words tc_kinds tc_close v1 v5 v2 hp2 e_tc_wordCount e_tc_personCount e_now_words e_tc_kinds e_tc_close hz104) kV_X6_metHaving tw_893 ⟨Nat.le_of_ble_eq_true rfl, Nat.le_of_ble_eq_true rfl⟩ rfl rfl rfl rfl rfl hP (rf_DX hD) hS rfl hl.1 (rest := []) rfl (Nat.le_of_ble_eq_true rfl) dX6_cheapestGain_104 (fun H locs hP hS => ?_)
  refine lv_iload_n hx hb dX6_cheapestGain_107 rfl (lv_at hl 4 rfl) ?_
  refine lv_iand hx hb dX6_cheapestGain_108 ?_
  refine lv_if_eq (tgt := 116) hx hb dX6_cheapestGain_109 (by decide) (fun c_109 => ?_) (fun c_109 => ?_)
  · have hf := rf_it c_109 hf
    exact w_X6_cheapestGain_116 hC hD hp2 e_now_everybody e_now_far e_tc_wordCount e_tc_personCount e_now_words e_tc_prices e_tc_kinds e_tc_close hk32 v1 v2 v3 v4 v5 hf _ _ _ hP hS (lv_sub hl [1, 2, 3, 4, 5, 6] rfl)
  have hf := rf_ie c_109 hf
  refine lv_iload hx hb dX6_cheapestGain_112 (lv_at hl 6 rfl) ?_
  refine lv_istore (lv' := [(4, .int v5), (6, .int s0), (0, .ref (a 2)), (1, .int v1), (2, .int v2), (3, .int v3), (5, .int v5)]) hx hb dX6_cheapestGain_114 hl (by decide) rfl (fun ls hl => ?_)
  exact w_X6_cheapestGain_116 hC hD hp2 e_now_everybody e_now_far e_tc_wordCount e_tc_personCount e_now_words e_tc_prices e_tc_kinds e_tc_close hk32 v1 v2 v3 v5 v5 hf _ _ _ hP hS (lv_sub hl [2, 3, 4, 5, 0, 6] rfl)
set_option maxHeartbeats 4000000 in
set_option maxRecDepth 100000 in
theorem w_X6_cheapestGain_74 {l : Launch} {p : Program} {e : Env} {s : State} {m : MethodId} {args : Array Value} {below : List Frame} {meth : Method} {c : Code} {A0 : Nat → Prop} {E : rf_E} {a P : Nat → Nat} {I : Nat → Int32} {J : Nat → Int64} {A : Nat → Nat → Int32} {B : Nat → Nat → Int64} {now_everybody : Int32} {now_far : Int32} {tc_wordCount : Int32} {tc_personCount : Int32} {now_words : Nat → Int32} {tc_prices : Nat → Int32} {tc_kinds : Nat → Int32} {tc_close : Nat → Int32} {z : Int32} (hC : rf_C p E s m args meth c cX6_cheapestGain 7 RX6 (some .int) A0) (hD : va_D A0 (cX E a P I J A B)) (hp2 : P 2 = a 10) (e_now_everybody : I 6 = now_everybody) (e_now_far : I 7 = now_far) (e_tc_wordCount : I 23 = tc_wordCount) (e_tc_personCount : I 24 = tc_personCount) (e_now_words : A 1 = now_words) (e_tc_prices : A 13 = tc_prices) (e_tc_kinds : A 14 = tc_kinds) (e_tc_close : A 22 = tc_close) {k32 : Int32 → Int32 → Int32 → Int32 → Int32 → Option (Int32)} (hk32 : ∀ (v1 : Int32) (v2 : Int32) (v3 : Int32) (v4 : Int32) (v5 : Int32), k32 v1 v2 v3 v4 v5 = some z → ∀ (H : Heap) (locs : List Loc) (ls : Array Slot), va_P (rf_D E) vwCl (cX E a P I J A B) H → va_S A0 s.heap H locs → lv_has ls 7 [(0, .ref (a 2)), (1, .int v1), (2, .int v2), (3, .int v3), (4, .int v4), (5, .int v5)] → W p l e ({ frames := 4, cells := 0, slots := 0, locals := 102 }) s m args below meth c H locs 0 0 (rf_QI below args s E A0 z (cX E a P I J A B)) (F0 m 32 ls [])) :
    ∀ (v1 : Int32) (v2 : Int32) (v3 : Int32) (v4 : Int32) (v5 : Int32), f_X6_cheapestGain_74 k32 now_everybody now_far tc_wordCount tc_personCount now_words tc_prices tc_kinds tc_close v1 v2 v3 v4 v5 = some z → ∀ (H : Heap) (locs : List Loc) (ls : Array Slot), va_P (rf_D E) vwCl (cX E a P I J A B) H → va_S A0 s.heap H locs → lv_has ls 7 [(0, .ref (a 2)), (1, .int v1), (2, .int v2), (3, .int v3), (4, .int v4), (5, .int v5)] → W p l e ({ frames := 4, cells := 0, slots := 0, locals := 102 }) s m args below meth c H locs 0 0 (rf_QI below args s E A0 z (cX E a P I J A B)) (F0 m 74 ls []) := by
  have hx := hC.1
  have hb := hC.2.1
  intro v1 v2 v3 v4 v5 hf H locs ls hP hS hl
  unfold f_X6_cheapestGain_74 at hf
  refine lv_iconst (v := 1) hx hb dX6_cheapestGain_74 (by decide) ?_
  refine lv_goto (tgt := 79) hx hb dX6_cheapestGain_75 (by decide) ?_
  exact w_X6_cheapestGain_79 hC hD hp2 e_now_everybody e_now_far e_tc_wordCount e_tc_personCount e_now_words e_tc_prices e_tc_kinds e_tc_close hk32 v1 v2 v3 v4 v5 1 hf _ _ _ hP hS (lv_sub hl [0, 1, 2, 3, 4, 5] rfl)
set_option maxHeartbeats 4000000 in
set_option maxRecDepth 100000 in
theorem w_X6_cheapestGain_32 {l : Launch} {p : Program} {e : Env} {s : State} {m : MethodId} {args : Array Value} {below : List Frame} {meth : Method} {c : Code} {A0 : Nat → Prop} {E : rf_E} {a P : Nat → Nat} {I : Nat → Int32} {J : Nat → Int64} {A : Nat → Nat → Int32} {B : Nat → Nat → Int64} {now_everybody : Int32} {now_far : Int32} {tc_wordCount : Int32} {tc_personCount : Int32} {now_words : Nat → Int32} {tc_prices : Nat → Int32} {tc_kinds : Nat → Int32} {tc_close : Nat → Int32} {z : Int32} (hC : rf_C p E s m args meth c cX6_cheapestGain 7 RX6 (some .int) A0) (hD : va_D A0 (cX E a P I J A B)) (hp2 : P 2 = a 10) (e_now_everybody : I 6 = now_everybody) (e_now_far : I 7 = now_far) (e_tc_wordCount : I 23 = tc_wordCount) (e_tc_personCount : I 24 = tc_personCount) (e_now_words : A 1 = now_words) (e_tc_prices : A 13 = tc_prices) (e_tc_kinds : A 14 = tc_kinds) (e_tc_close : A 22 = tc_close) :
    ∀ (n : Nat), ∀ (v1 : Int32) (v2 : Int32) (v3 : Int32) (v4 : Int32) (v5 : Int32), f_X6_cheapestGain_32 now_everybody now_far tc_wordCount tc_personCount now_words tc_prices tc_kinds tc_close n v1 v2 v3 v4 v5 = some z → ∀ (H : Heap) (locs : List Loc) (ls : Array Slot), va_P (rf_D E) vwCl (cX E a P I J A B) H → va_S A0 s.heap H locs → lv_has ls 7 [(0, .ref (a 2)), (1, .int v1), (2, .int v2), (3, .int v3), (4, .int v4), (5, .int v5)] → W p l e ({ frames := 4, cells := 0, slots := 0, locals := 102 }) s m args below meth c H locs 0 0 (rf_QI below args s E A0 z (cX E a P I J A B)) (F0 m 32 ls []) := by
  have hx := hC.1
  have hb := hC.2.1
  intro n
  induction n with
  | zero =>
    intro v1 v2 v3 v4 v5 hf
    have hf : (none : Option (Int32)) = some z := hf
    cases hf
  | succ n ih =>
    intro v1 v2 v3 v4 v5 hf H locs ls hP hS hl
    rw [f_X6_cheapestGain_32] at hf
    refine lv_iload hx hb dX6_cheapestGain_32 (lv_at hl 5 rfl) ?_
    refine lv_aload_n hx hb dX6_cheapestGain_34 rfl (lv_at hl 0 rfl) ?_
    refine gX_rhymes_tale hC hP tw_193 (v := a 10) hp2 dX6_cheapestGain_35 ?_
    refine gX_tc_wordCount hC hP tw_124 (v := tc_wordCount) e_tc_wordCount dX6_cheapestGain_38 ?_
    refine lv_icmp_ge (tgt := 122) hx hb dX6_cheapestGain_41 (by decide) (fun c_41 => ?_) (fun c_41 => ?_)
    · have hf := rf_it c_41 hf
      refine lv_iload hx hb dX6_cheapestGain_122 (lv_at hl 4 rfl) ?_
      obtain rfl := Option.some.inj hf
      exact rf_reti hC hP hS rfl rfl dX6_cheapestGain_124
    have hf := rf_ie c_41 hf
    refine lv_iload hx hb dX6_cheapestGain_44 (lv_at hl 4 rfl) ?_
    refine lv_bipush (v := (-2)) hx hb dX6_cheapestGain_46 (by decide) ?_
    refine lv_icmp_eq (tgt := 74) hx hb dX6_cheapestGain_48 (by decide) (fun c_48 => ?_) (fun c_48 => ?_)
    · have hf := rf_it c_48 hf
      exact w_X6_cheapestGain_74 hC hD hp2 e_now_everybody e_now_far e_tc_wordCount e_tc_personCount e_now_words e_tc_prices e_tc_kinds e_tc_close ih v1 v2 v3 v4 v5 hf _ _ _ hP hS (lv_sub hl [0, 1, 2, 3, 4, 5] rfl)
    have hf := rf_ie c_48 hf
    refine lv_aload_n hx hb dX6_cheapestGain_51 rfl (lv_at hl 0 rfl) ?_
    refine gX_rhymes_tale hC hP tw_193 (v := a 10) hp2 dX6_cheapestGain_52 ?_
    refine gX_tc_prices hC hP tw_90 dX6_cheapestGain_55 ?_
    refine lv_iload hx hb dX6_cheapestGain_58 (lv_at hl 5 rfl) ?_
    obtain ⟨hi_60, hf⟩ := rf_gu hf
    refine lX_tc_prices hC hP hi_60 (f := tc_prices) e_tc_prices dX6_cheapestGain_60 ?_
    refine lv_aload_n hx hb dX6_cheapestGain_61 rfl (lv_at hl 0 rfl) ?_
    refine gX_rhymes_tale hC hP tw_193 (v := a 10) hp2 dX6_cheapestGain_62 ?_
    refine gX_tc_prices hC hP tw_90 dX6_cheapestGain_65 ?_
    refine lv_iload hx hb dX6_cheapestGain_68 (lv_at hl 4 rfl) ?_
    obtain ⟨hi_70, hf⟩ := rf_gu hf
    refine lX_tc_prices hC hP hi_70 (f := tc_prices) e_tc_prices dX6_cheapestGain_70 ?_
    refine lv_icmp_ge (tgt := 78) hx hb dX6_cheapestGain_71 (by decide) (fun c_71 => ?_) (fun c_71 => ?_)
    · have hf := rf_it c_71 hf
      refine lv_iconst (v := 0) hx hb dX6_cheapestGain_78 (by decide) ?_
      exact w_X6_cheapestGain_79 hC hD hp2 e_now_everybody e_now_far e_tc_wordCount e_tc_personCount e_now_words e_tc_prices e_tc_kinds e_tc_close ih v1 v2 v3 v4 v5 0 hf _ _ _ hP hS (lv_sub hl [0, 1, 2, 3, 4, 5] rfl)
    have hf := rf_ie c_71 hf
    exact w_X6_cheapestGain_74 hC hD hp2 e_now_everybody e_now_far e_tc_wordCount e_tc_personCount e_now_words e_tc_prices e_tc_kinds e_tc_close ih v1 v2 v3 v4 v5 hf _ _ _ hP hS (lv_sub hl [0, 1, 2, 3, 4, 5] rfl)
set_option maxHeartbeats 4000000 in
set_option maxRecDepth 100000 in
theorem c_X6_cheapestGain (l : Launch) (E : rf_E) (a P : Nat → Nat) (I : Nat → Int32) (J : Nat → Int64) (A : Nat → Nat → Int32) (B : Nat → Nat → Int64) (now_everybody : Int32) (now_far : Int32) (tc_wordCount : Int32) (tc_personCount : Int32) (now_words : Nat → Int32) (tc_prices : Nat → Int32) (tc_kinds : Nat → Int32) (tc_close : Nat → Int32) (v1 : Int32) (v2 : Int32) {z : Int32} (hp2 : P 2 = a 10) (e_now_everybody : I 6 = now_everybody) (e_now_far : I 7 = now_far) (e_tc_wordCount : I 23 = tc_wordCount) (e_tc_personCount : I 24 = tc_personCount) (e_now_words : A 1 = now_words) (e_tc_prices : A 13 = tc_prices) (e_tc_kinds : A 14 = tc_kinds) (e_tc_close : A 22 = tc_close) (hf : f_X6_cheapestGain now_everybody now_far tc_wordCount tc_personCount now_words tc_prices tc_kinds tc_close v1 v2 = some z) : rf_MI l yX6_cheapestGain cX6_cheapestGain 7 (some .int) ({ frames := 4, cells := 0, slots := 0, locals := 102 }) E [.ref (a 2), .int v1, .int v2] (cX E a P I J A B) z (cX E a P I J A B) := by
  unfold f_X6_cheapestGain at hf
  refine rf_ofI (by decide) (Nat.le_of_ble_eq_true rfl) ?_
  intro p e s m below meth c A0 ls hC hD hP hS hl
  have hC : rf_C p E s m _ meth c cX6_cheapestGain 7 RX6 (some .int) A0 := hC
  have hx := hC.1
  have hb := hC.2.1
  have hl : lv_has ls 7 [(0, .ref (a 2)), (1, .int v1), (2, .int v2)] := hl
  refine lv_aload_n hx hb dX6_cheapestGain_0 rfl (lv_at hl 0 rfl) ?_
  refine gX_rhymes_now hC hP tw_185 dX6_cheapestGain_1 ?_
  refine lv_aload_n hx hb dX6_cheapestGain_4 rfl (lv_at hl 0 rfl) ?_
  refine gX_rhymes_now hC hP tw_185 dX6_cheapestGain_5 ?_
  refine lv_iload_n hx hb dX6_cheapestGain_8 rfl (lv_at hl 1 rfl) ?_
  obtain ⟨z9, hz9, hf⟩ := rf_bd hf
  refine rf_vi (q0 := 1) (ci := 2) hC (c_X2_bankOf l E a P I J A B now_far v1 e_now_far hz9) kV_X2_bankOf tw_887 ⟨Nat.le_of_ble_eq_true rfl, Nat.le_of_ble_eq_true rfl⟩ rfl rfl rfl rfl rfl hP (rf_DX hD) hS rfl hl.1 (rest := [.ref (a 1)]) rfl (Nat.le_of_ble_eq_true rfl) dX6_cheapestGain_9 (fun H locs hP hS => ?_)
  obtain ⟨z12, hz12, hf⟩ := rf_bd hf
  refine rf_vi (q0 := 1) (ci := 2) hC (c_X2_onBank l E a P I J A B now_everybody now_far z9 e_now_everybody e_now_far hz12) kV_X2_onBank tw_888 ⟨Nat.le_of_ble_eq_true rfl, Nat.le_of_ble_eq_true rfl⟩ rfl rfl rfl rfl rfl hP (rf_DX hD) hS rfl hl.1 (rest := []) rfl (Nat.le_of_ble_eq_true rfl) dX6_cheapestGain_12 (fun H locs hP hS => ?_)
  refine lv_aload_n hx hb dX6_cheapestGain_15 rfl (lv_at hl 0 rfl) ?_
  refine lv_iload_n hx hb dX6_cheapestGain_16 rfl (lv_at hl 1 rfl) ?_
  refine lv_iload_n hx hb dX6_cheapestGain_17 rfl (lv_at hl 2 rfl) ?_
  obtain ⟨z18, hz18, hf⟩ := rf_bd hf
  refine rf_vi (q0 := 2) (ci := 6) hC (c_X6_metNow l E a P I J A B tc_wordCount tc_personCount now_words tc_kinds tc_close v1 v2 hp2 e_tc_wordCount e_tc_personCount e_now_words e_tc_kinds e_tc_close hz18) kV_X6_metNow tw_820 ⟨Nat.le_of_ble_eq_true rfl, Nat.le_of_ble_eq_true rfl⟩ rfl rfl rfl rfl rfl hP (rf_DX hD) hS rfl hl.1 (rest := [.int z12]) rfl (Nat.le_of_ble_eq_true rfl) dX6_cheapestGain_18 (fun H locs hP hS => ?_)
  refine lv_iconst (v := (-1)) hx hb dX6_cheapestGain_21 (by decide) ?_
  refine lv_ixor hx hb dX6_cheapestGain_22 ?_
  refine lv_iand hx hb dX6_cheapestGain_23 ?_
  refine lv_istore_n (lv' := [(3, .int (z12 &&& (z18 ^^^ (-1)))), (0, .ref (a 2)), (1, .int v1), (2, .int v2)]) hx hb dX6_cheapestGain_24 rfl hl (by decide) rfl (fun ls hl => ?_)
  refine lv_bipush (v := (-2)) hx hb dX6_cheapestGain_25 (by decide) ?_
  refine lv_istore (lv' := [(4, .int (-2)), (3, .int (z12 &&& (z18 ^^^ (-1)))), (0, .ref (a 2)), (1, .int v1), (2, .int v2)]) hx hb dX6_cheapestGain_27 hl (by decide) rfl (fun ls hl => ?_)
  refine lv_iconst (v := 0) hx hb dX6_cheapestGain_29 (by decide) ?_
  refine lv_istore (lv' := [(5, .int 0), (4, .int (-2)), (3, .int (z12 &&& (z18 ^^^ (-1)))), (0, .ref (a 2)), (1, .int v1), (2, .int v2)]) hx hb dX6_cheapestGain_30 hl (by decide) rfl (fun ls hl => ?_)
  exact w_X6_cheapestGain_32 hC hD hp2 e_now_everybody e_now_far e_tc_wordCount e_tc_personCount e_now_words e_tc_prices e_tc_kinds e_tc_close rf_fu v1 v2 (z12 &&& (z18 ^^^ (-1))) (-2) 0 hf _ _ _ hP hS (lv_sub hl [3, 4, 5, 2, 1, 0] rfl)
set_option maxHeartbeats 4000000 in
set_option maxRecDepth 100000 in
theorem c_X10_cheapest (l : Launch) (E : rf_E) (a P : Nat → Nat) (I : Nat → Int32) (J : Nat → Int64) (A : Nat → Nat → Int32) (B : Nat → Nat → Int64) (now_everybody : Int32) (now_far : Int32) (tc_ear : Int32) (tc_wordCount : Int32) (tc_personCount : Int32) (now_words : Nat → Int32) (tc_prices : Nat → Int32) (tc_kinds : Nat → Int32) (tc_hourEars : Nat → Int32) (tc_close : Nat → Int32) (x_lastTrouble : Int32) (v1 : Int32) (v2 : Int32) {z : Int32 × Int32} (hp0 : P 0 = a 10) (hp2 : P 2 = a 10) (e_now_everybody : I 6 = now_everybody) (e_now_far : I 7 = now_far) (e_tc_ear : I 21 = tc_ear) (e_tc_wordCount : I 23 = tc_wordCount) (e_tc_personCount : I 24 = tc_personCount) (e_now_words : A 1 = now_words) (e_tc_prices : A 13 = tc_prices) (e_tc_kinds : A 14 = tc_kinds) (e_tc_hourEars : A 18 = tc_hourEars) (e_tc_close : A 22 = tc_close) (e_x_lastTrouble : I 3 = x_lastTrouble) (hf : f_X10_cheapest now_everybody now_far tc_ear tc_wordCount tc_personCount now_words tc_prices tc_kinds tc_hourEars tc_close x_lastTrouble v1 v2 = some z) : rf_MI l yX10_cheapest cX10_cheapest 3 (some .int) ({ frames := 5, cells := 0, slots := 0, locals := 128 }) E [.ref (a 0), .int v1, .int v2] (cX E a P I J A B) z.1 (cX E a P (rf_upL I [(3, z.2)]) J A B) := by
  unfold f_X10_cheapest at hf
  refine rf_ofI (by decide) (Nat.le_of_ble_eq_true rfl) ?_
  intro p e s m below meth c A0 ls hC hD hP hS hl
  have hC : rf_C p E s m _ meth c cX10_cheapest 3 RX10 (some .int) A0 := hC
  have hx := hC.1
  have hb := hC.2.1
  have hl : lv_has ls 3 [(0, .ref (a 0)), (1, .int v1), (2, .int v2)] := hl
  have hP : va_P (rf_D E) vwCl (cX E a P (rf_upL I [(3, x_lastTrouble)]) J A B) s.heap := by
    rw [rf_self (f := I) [(3, x_lastTrouble)] (rf_fa1 e_x_lastTrouble rf_fa0)]
    exact hP
  refine lv_aload_n hx hb dX10_cheapest_0 rfl (lv_at hl 0 rfl) ?_
  refine lv_aload_n hx hb dX10_cheapest_1 rfl (lv_at hl 0 rfl) ?_
  refine lv_iload_n hx hb dX10_cheapest_2 rfl (lv_at hl 1 rfl) ?_
  obtain ⟨z3, hz3, hf⟩ := rf_bd hf
  refine rf_vi (q0 := 0) (ci := 10) hC (c_X10_isPerson l E a P (rf_upL I [(3, x_lastTrouble)]) J A B tc_personCount v1 hp0 e_tc_personCount hz3) kV_X10_isPerson tw_750 ⟨Nat.le_of_ble_eq_true rfl, Nat.le_of_ble_eq_true rfl⟩ rfl rfl rfl rfl rfl hP (rf_DX hD) hS rfl hl.1 (rest := [.ref (a 0)]) rfl (Nat.le_of_ble_eq_true rfl) dX10_cheapest_3 (fun H locs hP hS => ?_)
  refine lv_aload_n hx hb dX10_cheapest_6 rfl (lv_at hl 0 rfl) ?_
  refine lv_iload_n hx hb dX10_cheapest_7 rfl (lv_at hl 2 rfl) ?_
  obtain ⟨z8, hz8, hf⟩ := rf_bd hf
  refine rf_vi (q0 := 0) (ci := 10) hC (c_X10_isHour l E a P (rf_upL I [(3, x_lastTrouble)]) J A B v2 hz8) kV_X10_isHour tw_766 ⟨Nat.le_of_ble_eq_true rfl, Nat.le_of_ble_eq_true rfl⟩ rfl rfl rfl rfl rfl hP (rf_DX hD) hS rfl hl.1 (rest := [.int z3, .ref (a 0)]) rfl (Nat.le_of_ble_eq_true rfl) dX10_cheapest_8 (fun H locs hP hS => ?_)
  obtain ⟨z11, hz11, hf⟩ := rf_bd hf
  refine rf_vi (q0 := 0) (ci := 10) hC (c_X10_refused l E a P (rf_upL I [(3, x_lastTrouble)]) J A B x_lastTrouble z3 z8 rfl hz11) kV_X10_refused tw_455 ⟨Nat.le_of_ble_eq_true rfl, Nat.le_of_ble_eq_true rfl⟩ rfl rfl rfl rfl rfl hP (rf_DX hD) hS rfl hl.1 (rest := []) rfl (Nat.le_of_ble_eq_true rfl) dX10_cheapest_11 (fun H locs hP hS => ?_)
  rw [rf_cat (f := I) (l := [(3, x_lastTrouble)]) (lc := [(3, z11.2)]) (l' := [(3, z11.2)]) rfl] at hP
  refine lv_if_eq (tgt := 19) hx hb dX10_cheapest_14 (by decide) (fun c_14 => ?_) (fun c_14 => ?_)
  · have hf := rf_it c_14 hf
    refine lv_aload_n hx hb dX10_cheapest_19 rfl (lv_at hl 0 rfl) ?_
    refine gX_x_rhymes hC hP tw_393 dX10_cheapest_20 ?_
    refine lv_iload_n hx hb dX10_cheapest_23 rfl (lv_at hl 1 rfl) ?_
    refine lv_aload_n hx hb dX10_cheapest_24 rfl (lv_at hl 0 rfl) ?_
    refine gX_x_tale hC hP tw_401 (v := a 10) hp0 dX10_cheapest_25 ?_
    refine lv_iload_n hx hb dX10_cheapest_28 rfl (lv_at hl 2 rfl) ?_
    obtain ⟨z29, hz29, hf⟩ := rf_bd hf
    refine rf_vi (q0 := 10) (ci := 9) hC (c_X9_earAt_tc l E a P (rf_upL I [(3, z11.2)]) J A B tc_ear tc_hourEars v2 e_tc_ear e_tc_hourEars hz29) kV_X9_earAt tw_770 ⟨Nat.le_of_ble_eq_true rfl, Nat.le_of_ble_eq_true rfl⟩ rfl rfl rfl rfl rfl hP (rf_DX hD) hS rfl hl.1 (rest := [.int v1, .ref (a 2)]) rfl (Nat.le_of_ble_eq_true rfl) dX10_cheapest_29 (fun H locs hP hS => ?_)
    obtain ⟨z32, hz32, hf⟩ := rf_bd hf
    refine rf_vi (q0 := 2) (ci := 6) hC (c_X6_cheapestGain l E a P (rf_upL I [(3, z11.2)]) J A B now_everybody now_far tc_wordCount tc_personCount now_words tc_prices tc_kinds tc_close v1 z29 hp2 e_now_everybody e_now_far e_tc_wordCount e_tc_personCount e_now_words e_tc_prices e_tc_kinds e_tc_close hz32) kV_X6_cheapestGain tw_883 ⟨Nat.le_of_ble_eq_true rfl, Nat.le_of_ble_eq_true rfl⟩ rfl rfl rfl rfl rfl hP (rf_DX hD) hS rfl hl.1 (rest := []) rfl (Nat.le_of_ble_eq_true rfl) dX10_cheapest_32 (fun H locs hP hS => ?_)
    obtain rfl := Option.some.inj hf
    exact rf_reti hC hP hS rfl rfl dX10_cheapest_35
  have hf := rf_ie c_14 hf
  refine lv_iconst (v := (-1)) hx hb dX10_cheapest_17 (by decide) ?_
  obtain rfl := Option.some.inj hf
  exact rf_reti hC hP hS rfl rfl dX10_cheapest_18
set_option maxHeartbeats 4000000 in
set_option maxRecDepth 100000 in
theorem w_X10_isBank_20 {l : Launch} {p : Program} {e : Env} {s : State} {m : MethodId} {args : Array Value} {below : List Frame} {meth : Method} {c : Code} {A0 : Nat → Prop} {E : rf_E} {a P : Nat → Nat} {I : Nat → Int32} {J : Nat → Int64} {A : Nat → Nat → Int32} {B : Nat → Nat → Int64} {tc_personCount : Int32} {z : Int32} (hC : rf_C p E s m args meth c cX10_isBank 2 RX10 (some .boolean) A0) (hD : va_D A0 (cX E a P I J A B)) (hp0 : P 0 = a 10) (e_tc_personCount : I 24 = tc_personCount) :
    ∀ (_ : Unit), f_X10_isBank_20 tc_personCount = some z → ∀ (H : Heap) (locs : List Loc) (ls : Array Slot), va_P (rf_D E) vwCl (cX E a P I J A B) H → va_S A0 s.heap H locs → lv_has ls 2 [] → W p l e ({ frames := 1, cells := 0, slots := 0, locals := 20 }) s m args below meth c H locs 0 0 (rf_QI below args s E A0 z (cX E a P I J A B)) (F0 m 20 ls []) := by
  have hx := hC.1
  have hb := hC.2.1
  intro _ hf H locs ls hP hS hl
  unfold f_X10_isBank_20 at hf
  refine lv_iconst (v := 0) hx hb dX10_isBank_20 (by decide) ?_
  obtain rfl := Option.some.inj hf
  exact rf_retz hC hP hS (by decide) rfl rfl dX10_isBank_21
set_option maxHeartbeats 4000000 in
set_option maxRecDepth 100000 in
theorem w_X10_isBank_16 {l : Launch} {p : Program} {e : Env} {s : State} {m : MethodId} {args : Array Value} {below : List Frame} {meth : Method} {c : Code} {A0 : Nat → Prop} {E : rf_E} {a P : Nat → Nat} {I : Nat → Int32} {J : Nat → Int64} {A : Nat → Nat → Int32} {B : Nat → Nat → Int64} {tc_personCount : Int32} {z : Int32} (hC : rf_C p E s m args meth c cX10_isBank 2 RX10 (some .boolean) A0) (hD : va_D A0 (cX E a P I J A B)) (hp0 : P 0 = a 10) (e_tc_personCount : I 24 = tc_personCount) :
    ∀ (_ : Unit), f_X10_isBank_16 tc_personCount = some z → ∀ (H : Heap) (locs : List Loc) (ls : Array Slot), va_P (rf_D E) vwCl (cX E a P I J A B) H → va_S A0 s.heap H locs → lv_has ls 2 [] → W p l e ({ frames := 1, cells := 0, slots := 0, locals := 20 }) s m args below meth c H locs 0 0 (rf_QI below args s E A0 z (cX E a P I J A B)) (F0 m 16 ls []) := by
  have hx := hC.1
  have hb := hC.2.1
  intro _ hf H locs ls hP hS hl
  unfold f_X10_isBank_16 at hf
  refine lv_iconst (v := 1) hx hb dX10_isBank_16 (by decide) ?_
  refine lv_goto (tgt := 21) hx hb dX10_isBank_17 (by decide) ?_
  obtain rfl := Option.some.inj hf
  exact rf_retz hC hP hS (by decide) rfl rfl dX10_isBank_21
set_option maxHeartbeats 4000000 in
set_option maxRecDepth 100000 in
theorem c_X10_isBank (l : Launch) (E : rf_E) (a P : Nat → Nat) (I : Nat → Int32) (J : Nat → Int64) (A : Nat → Nat → Int32) (B : Nat → Nat → Int64) (tc_personCount : Int32) (v1 : Int32) {z : Int32} (hp0 : P 0 = a 10) (e_tc_personCount : I 24 = tc_personCount) (hf : f_X10_isBank tc_personCount v1 = some z) : rf_MI l yX10_isBank cX10_isBank 2 (some .boolean) ({ frames := 1, cells := 0, slots := 0, locals := 20 }) E [.ref (a 0), .int v1] (cX E a P I J A B) z (cX E a P I J A B) := by
  unfold f_X10_isBank at hf
  refine rf_ofI (by decide) (Nat.le_of_ble_eq_true rfl) ?_
  intro p e s m below meth c A0 ls hC hD hP hS hl
  have hC : rf_C p E s m _ meth c cX10_isBank 2 RX10 (some .boolean) A0 := hC
  have hx := hC.1
  have hb := hC.2.1
  have hl : lv_has ls 2 [(0, .ref (a 0)), (1, .int v1)] := hl
  refine lv_aload_n hx hb dX10_isBank_0 rfl (lv_at hl 0 rfl) ?_
  obtain ⟨z1, hz1, hf⟩ := rf_bd hf
  refine rf_vi (q0 := 0) (ci := 10) hC (c_X10_hasFerry l E a P I J A B tc_personCount hp0 e_tc_personCount hz1) kV_X10_hasFerry tw_762 ⟨Nat.le_of_ble_eq_true rfl, Nat.le_of_ble_eq_true rfl⟩ rfl rfl rfl rfl rfl hP (rf_DX hD) hS rfl hl.1 (rest := []) rfl (Nat.le_of_ble_eq_true rfl) dX10_isBank_1 (fun H locs hP hS => ?_)
  refine lv_if_eq (tgt := 20) hx hb dX10_isBank_4 (by decide) (fun c_4 => ?_) (fun c_4 => ?_)
  · have hf := rf_it c_4 hf
    exact w_X10_isBank_20 hC hD hp0 e_tc_personCount () hf _ _ _ hP hS (lv_sub hl [] rfl)
  have hf := rf_ie c_4 hf
  refine lv_iload_n hx hb dX10_isBank_7 rfl (lv_at hl 1 rfl) ?_
  refine lv_if_eq (tgt := 16) hx hb dX10_isBank_8 (by decide) (fun c_8 => ?_) (fun c_8 => ?_)
  · have hf := rf_it c_8 hf
    exact w_X10_isBank_16 hC hD hp0 e_tc_personCount () hf _ _ _ hP hS (lv_sub hl [] rfl)
  have hf := rf_ie c_8 hf
  refine lv_iload_n hx hb dX10_isBank_11 rfl (lv_at hl 1 rfl) ?_
  refine lv_iconst (v := 1) hx hb dX10_isBank_12 (by decide) ?_
  refine lv_icmp_ne (tgt := 20) hx hb dX10_isBank_13 (by decide) (fun c_13 => ?_) (fun c_13 => ?_)
  · have hf := rf_ie c_13 hf
    exact w_X10_isBank_20 hC hD hp0 e_tc_personCount () hf _ _ _ hP hS (lv_sub hl [] rfl)
  have hf := rf_it c_13 hf
  exact w_X10_isBank_16 hC hD hp0 e_tc_personCount () hf _ _ _ hP hS (lv_sub hl [] rfl)
set_option maxHeartbeats 4000000 in
set_option maxRecDepth 100000 in
theorem w_X3_leastOf_2 {l : Launch} {p : Program} {e : Env} {s : State} {m : MethodId} {args : Array Value} {below : List Frame} {meth : Method} {c : Code} {A0 : Nat → Prop} {E : rf_E} {z : Int32} (hC : rf_C p E s m args meth c cX3_leastOf 2 RX3 (some .int) A0) :
    ∀ (n : Nat), ∀ (v0 : Int32) (v1 : Int32), f_X3_leastOf_2 n v0 v1 = some z → ∀ (H : Heap) (locs : List Loc) (ls : Array Slot), va_P (rf_D E) vwCl ([]) H → va_S A0 s.heap H locs → lv_has ls 2 [(0, .int v0), (1, .int v1)] → W p l e ({ frames := 1, cells := 0, slots := 0, locals := 21 }) s m args below meth c H locs 0 0 (rf_QI below args s E A0 z ([])) (F0 m 2 ls []) := by
  have hx := hC.1
  have hb := hC.2.1
  intro n
  induction n with
  | zero =>
    intro v0 v1 hf
    have hf : (none : Option (Int32)) = some z := hf
    cases hf
  | succ n ih =>
    intro v0 v1 hf H locs ls hP hS hl
    rw [f_X3_leastOf_2] at hf
    refine lv_iload_n hx hb dX3_leastOf_2 rfl (lv_at hl 1 rfl) ?_
    refine lv_bipush (v := 8) hx hb dX3_leastOf_3 (by decide) ?_
    refine lv_icmp_ge (tgt := 24) hx hb dX3_leastOf_5 (by decide) (fun c_5 => ?_) (fun c_5 => ?_)
    · have hf := rf_it c_5 hf
      refine lv_iconst (v := (-1)) hx hb dX3_leastOf_24 (by decide) ?_
      obtain rfl := Option.some.inj hf
      exact rf_reti hC hP hS rfl rfl dX3_leastOf_25
    have hf := rf_ie c_5 hf
    refine lv_iload_n hx hb dX3_leastOf_8 rfl (lv_at hl 0 rfl) ?_
    refine lv_iload_n hx hb dX3_leastOf_9 rfl (lv_at hl 1 rfl) ?_
    obtain ⟨z10, hz10, hf⟩ := rf_bd hf
    refine rf_sn0 hC (c_X10_holds l E v0 v1 hz10) kS_X10_holds nw_917 ⟨Nat.le_of_ble_eq_true rfl, Nat.le_of_ble_eq_true rfl⟩ rfl rfl hP hS rfl hl.1 (rest := []) rfl (Nat.le_of_ble_eq_true rfl) dX3_leastOf_10 (fun H locs hP hS => ?_)
    refine lv_if_eq (tgt := 18) hx hb dX3_leastOf_13 (by decide) (fun c_13 => ?_) (fun c_13 => ?_)
    · have hf := rf_it c_13 hf
      refine lv_iinc (v := v1 + 1) (lv' := [(1, .int (v1 + 1)), (0, .int v0)]) hx hb dX3_leastOf_18 hl (k := 1) rfl rfl (by decide) rfl (fun ls hl => ?_)
      refine lv_goto (tgt := 2) hx hb dX3_leastOf_21 (by decide) ?_
      exact ih v0 (v1 + 1) hf _ _ _ hP hS (lv_sub hl [1, 0] rfl)
    have hf := rf_ie c_13 hf
    refine lv_iload_n hx hb dX3_leastOf_16 rfl (lv_at hl 1 rfl) ?_
    obtain rfl := Option.some.inj hf
    exact rf_reti hC hP hS rfl rfl dX3_leastOf_17
set_option maxHeartbeats 4000000 in
set_option maxRecDepth 100000 in
theorem c_X3_leastOf (l : Launch) (E : rf_E) (v0 : Int32) {z : Int32} (hf : f_X3_leastOf v0 = some z) : rf_MI l yX3_leastOf cX3_leastOf 2 (some .int) ({ frames := 1, cells := 0, slots := 0, locals := 21 }) E [.int v0] ([]) z ([]) := by
  unfold f_X3_leastOf at hf
  refine rf_ofI (by decide) (Nat.le_of_ble_eq_true rfl) ?_
  intro p e s m below meth c A0 ls hC hD hP hS hl
  have hC : rf_C p E s m _ meth c cX3_leastOf 2 RX3 (some .int) A0 := hC
  have hx := hC.1
  have hb := hC.2.1
  have hl : lv_has ls 2 [(0, .int v0)] := hl
  refine lv_iconst (v := 0) hx hb dX3_leastOf_0 (by decide) ?_
  refine lv_istore_n (lv' := [(1, .int 0), (0, .int v0)]) hx hb dX3_leastOf_1 rfl hl (by decide) rfl (fun ls hl => ?_)
  exact w_X3_leastOf_2 hC rf_fu v0 0 hf _ _ _ hP hS (lv_sub hl [1, 0] rfl)
set_option maxHeartbeats 4000000 in
set_option maxRecDepth 100000 in
theorem w_X3_mostIn_79 {l : Launch} {p : Program} {e : Env} {s : State} {m : MethodId} {args : Array Value} {below : List Frame} {meth : Method} {c : Code} {A0 : Nat → Prop} {E : rf_E} {a P : Nat → Nat} {I : Nat → Int32} {J : Nat → Int64} {A : Nat → Nat → Int32} {B : Nat → Nat → Int64} {rhymes_links : Nat → Int32} {pairing_best : Nat → Int32} {z : Int32} (hC : rf_C p E s m args meth c cX3_mostIn 7 RX3 (some .int) A0) (hD : va_D A0 (cX E a P I J A B)) (e_rhymes_links : A 3 = rhymes_links) (e_pairing_best : A 5 = pairing_best) {k35 : Int32 → Int32 → Int32 → Int32 → Option (Int32)} (hk35 : ∀ (v3 : Int32) (v4 : Int32) (v5 : Int32) (v6 : Int32), k35 v3 v4 v5 v6 = some z → ∀ (H : Heap) (locs : List Loc) (ls : Array Slot), va_P (rf_D E) vwCl (cX E a P I J A B) H → va_S A0 s.heap H locs → lv_has ls 7 [(0, .ref (a 3)), (1, .ref (a 16)), (3, .int v3), (4, .int v4), (5, .int v5), (6, .int v6)] → W p l e ({ frames := 2, cells := 0, slots := 0, locals := 42 }) s m args below meth c H locs 0 0 (rf_QI below args s E A0 z (cX E a P I J A B)) (F0 m 35 ls [])) :
    ∀ (v3 : Int32) (v4 : Int32) (v5 : Int32) (v6 : Int32), f_X3_mostIn_79 k35 rhymes_links pairing_best v3 v4 v5 v6 = some z → ∀ (H : Heap) (locs : List Loc) (ls : Array Slot), va_P (rf_D E) vwCl (cX E a P I J A B) H → va_S A0 s.heap H locs → lv_has ls 7 [(0, .ref (a 3)), (1, .ref (a 16)), (3, .int v3), (4, .int v4), (5, .int v5), (6, .int v6)] → W p l e ({ frames := 2, cells := 0, slots := 0, locals := 42 }) s m args below meth c H locs 0 0 (rf_QI below args s E A0 z (cX E a P I J A B)) (F0 m 79 ls []) := by
  have hx := hC.1
  have hb := hC.2.1
  intro v3 v4 v5 v6 hf H locs ls hP hS hl
  unfold f_X3_mostIn_79 at hf
  refine lv_iinc (v := v6 + 1) (lv' := [(6, .int (v6 + 1)), (0, .ref (a 3)), (1, .ref (a 16)), (3, .int v3), (4, .int v4), (5, .int v5)]) hx hb dX3_mostIn_79 hl (k := 5) rfl rfl (by decide) rfl (fun ls hl => ?_)
  refine lv_goto (tgt := 35) hx hb dX3_mostIn_82 (by decide) ?_
  exact hk35 v3 v4 v5 (v6 + 1) hf _ _ _ hP hS (lv_sub hl [1, 2, 3, 4, 5, 0] rfl)
set_option maxHeartbeats 4000000 in
set_option maxRecDepth 100000 in
theorem w_X3_mostIn_35 {l : Launch} {p : Program} {e : Env} {s : State} {m : MethodId} {args : Array Value} {below : List Frame} {meth : Method} {c : Code} {A0 : Nat → Prop} {E : rf_E} {a P : Nat → Nat} {I : Nat → Int32} {J : Nat → Int64} {A : Nat → Nat → Int32} {B : Nat → Nat → Int64} {rhymes_links : Nat → Int32} {pairing_best : Nat → Int32} {z : Int32} (hC : rf_C p E s m args meth c cX3_mostIn 7 RX3 (some .int) A0) (hD : va_D A0 (cX E a P I J A B)) (e_rhymes_links : A 3 = rhymes_links) (e_pairing_best : A 5 = pairing_best) :
    ∀ (n : Nat), ∀ (v3 : Int32) (v4 : Int32) (v5 : Int32) (v6 : Int32), f_X3_mostIn_35 rhymes_links pairing_best n v3 v4 v5 v6 = some z → ∀ (H : Heap) (locs : List Loc) (ls : Array Slot), va_P (rf_D E) vwCl (cX E a P I J A B) H → va_S A0 s.heap H locs → lv_has ls 7 [(0, .ref (a 3)), (1, .ref (a 16)), (3, .int v3), (4, .int v4), (5, .int v5), (6, .int v6)] → W p l e ({ frames := 2, cells := 0, slots := 0, locals := 42 }) s m args below meth c H locs 0 0 (rf_QI below args s E A0 z (cX E a P I J A B)) (F0 m 35 ls []) := by
  have hx := hC.1
  have hb := hC.2.1
  intro n
  induction n with
  | zero =>
    intro v3 v4 v5 v6 hf
    have hf : (none : Option (Int32)) = some z := hf
    cases hf
  | succ n ih =>
    intro v3 v4 v5 v6 hf H locs ls hP hS hl
    rw [f_X3_mostIn_35] at hf
    refine lv_iload hx hb dX3_mostIn_35 (lv_at hl 5 rfl) ?_
    refine lv_bipush (v := 8) hx hb dX3_mostIn_37 (by decide) ?_
    refine lv_icmp_ge (tgt := 85) hx hb dX3_mostIn_39 (by decide) (fun c_39 => ?_) (fun c_39 => ?_)
    · have hf := rf_it c_39 hf
      refine lv_iload hx hb dX3_mostIn_85 (lv_at hl 4 rfl) ?_
      obtain rfl := Option.some.inj hf
      exact rf_reti hC hP hS rfl rfl dX3_mostIn_87
    have hf := rf_ie c_39 hf
    refine lv_iload hx hb dX3_mostIn_42 (lv_at hl 3 rfl) ?_
    refine lv_aload_n hx hb dX3_mostIn_44 rfl (lv_at hl 1 rfl) ?_
    refine lv_iload_n hx hb dX3_mostIn_45 rfl (lv_at hl 2 rfl) ?_
    obtain ⟨hi_46, hf⟩ := rf_gu hf
    refine lX_rhymes_links hC hP hi_46 (f := rhymes_links) e_rhymes_links dX3_mostIn_46 ?_
    refine lv_iand hx hb dX3_mostIn_47 ?_
    refine lv_iload hx hb dX3_mostIn_48 (lv_at hl 5 rfl) ?_
    obtain ⟨z50, hz50, hf⟩ := rf_bd hf
    refine rf_sn0 hC (c_X10_holds l E (v4 &&& (rhymes_links (Int32.toNatClampNeg v3))) v6 hz50) kS_X10_holds nw_917 ⟨Nat.le_of_ble_eq_true rfl, Nat.le_of_ble_eq_true rfl⟩ rfl rfl hP hS rfl hl.1 (rest := []) rfl (Nat.le_of_ble_eq_true rfl) dX3_mostIn_50 (fun H locs hP hS => ?_)
    refine lv_if_eq (tgt := 79) hx hb dX3_mostIn_53 (by decide) (fun c_53 => ?_) (fun c_53 => ?_)
    · have hf := rf_it c_53 hf
      exact w_X3_mostIn_79 hC hD e_rhymes_links e_pairing_best ih v3 v4 v5 v6 hf _ _ _ hP hS (lv_sub hl [0, 1, 2, 3, 4, 5] rfl)
    have hf := rf_ie c_53 hf
    refine lv_iload hx hb dX3_mostIn_56 (lv_at hl 4 rfl) ?_
    refine lv_iconst (v := 1) hx hb dX3_mostIn_58 (by decide) ?_
    refine lv_aload_n hx hb dX3_mostIn_59 rfl (lv_at hl 0 rfl) ?_
    refine gX_pairing_best hC hP tw_215 dX3_mostIn_60 ?_
    refine lv_iload hx hb dX3_mostIn_63 (lv_at hl 3 rfl) ?_
    refine lv_iconst (v := 1) hx hb dX3_mostIn_65 (by decide) ?_
    refine lv_iload hx hb dX3_mostIn_66 (lv_at hl 5 rfl) ?_
    refine lv_ishl hx hb dX3_mostIn_68 ?_
    refine lv_iconst (v := (-1)) hx hb dX3_mostIn_69 (by decide) ?_
    refine lv_ixor hx hb dX3_mostIn_70 ?_
    refine lv_iand hx hb dX3_mostIn_71 ?_
    obtain ⟨hi_72, hf⟩ := rf_gu hf
    refine lX_pairing_best hC hP hi_72 (f := pairing_best) e_pairing_best dX3_mostIn_72 ?_
    refine lv_iadd hx hb dX3_mostIn_73 ?_
    refine va_mmax hx hb (by rw [hC.2.2.1]; exact hl.1.symm) hC.2.2.2.1 (hC.2.2.2.2.1 _ tw_918) (hC.2.2.2.2.1 _ rf_max.1) (hC.2.2.2.2.1 _ rf_max.2.1) (hC.2.2.2.2.1 _ rf_max.2.2) (Nat.le_of_ble_eq_true rfl) (Nat.le_of_ble_eq_true rfl) (Nat.zero_le _) (Nat.zero_le _) dX3_mostIn_74 ?_
    refine lv_istore (lv' := [(5, .int (if v5 < ((1 : Int32) + (pairing_best (Int32.toNatClampNeg (v4 &&& (((1 : Int32) <<< (v6 &&& 31)) ^^^ (-1)))))) then ((1 : Int32) + (pairing_best (Int32.toNatClampNeg (v4 &&& (((1 : Int32) <<< (v6 &&& 31)) ^^^ (-1)))))) else v5)), (0, .ref (a 3)), (1, .ref (a 16)), (3, .int v3), (4, .int v4), (6, .int v6)]) hx hb dX3_mostIn_77 hl (by decide) rfl (fun ls hl => ?_)
    exact w_X3_mostIn_79 hC hD e_rhymes_links e_pairing_best ih v3 v4 (if v5 < ((1 : Int32) + (pairing_best (Int32.toNatClampNeg (v4 &&& (((1 : Int32) <<< (v6 &&& 31)) ^^^ (-1)))))) then ((1 : Int32) + (pairing_best (Int32.toNatClampNeg (v4 &&& (((1 : Int32) <<< (v6 &&& 31)) ^^^ (-1)))))) else v5) v6 hf _ _ _ hP hS (lv_sub hl [1, 2, 3, 4, 0, 5] rfl)
set_option maxHeartbeats 4000000 in
set_option maxRecDepth 100000 in
theorem c_X3_mostIn (l : Launch) (E : rf_E) (a P : Nat → Nat) (I : Nat → Int32) (J : Nat → Int64) (A : Nat → Nat → Int32) (B : Nat → Nat → Int64) (rhymes_links : Nat → Int32) (pairing_best : Nat → Int32) (v2 : Int32) {z : Int32} (e_rhymes_links : A 3 = rhymes_links) (e_pairing_best : A 5 = pairing_best) (hf : f_X3_mostIn rhymes_links pairing_best v2 = some z) : rf_MI l yX3_mostIn cX3_mostIn 7 (some .int) ({ frames := 2, cells := 0, slots := 0, locals := 42 }) E [.ref (a 3), .ref (a 16), .int v2] (cX E a P I J A B) z (cX E a P I J A B) := by
  unfold f_X3_mostIn at hf
  refine rf_ofI (by decide) (Nat.le_of_ble_eq_true rfl) ?_
  intro p e s m below meth c A0 ls hC hD hP hS hl
  have hC : rf_C p E s m _ meth c cX3_mostIn 7 RX3 (some .int) A0 := hC
  have hx := hC.1
  have hb := hC.2.1
  have hl : lv_has ls 7 [(0, .ref (a 3)), (1, .ref (a 16)), (2, .int v2)] := hl
  refine lv_iload_n hx hb dX3_mostIn_0 rfl (lv_at hl 2 rfl) ?_
  obtain ⟨z1, hz1, hf⟩ := rf_bd hf
  refine rf_si0 hC (c_X3_leastOf l E v2 hz1) kS_X3_leastOf tw_914 ⟨Nat.le_of_ble_eq_true rfl, Nat.le_of_ble_eq_true rfl⟩ rfl rfl hP hS rfl hl.1 (rest := []) rfl (Nat.le_of_ble_eq_true rfl) dX3_mostIn_1 (fun H locs hP hS => ?_)
  refine lv_istore_n (lv' := [(3, .int z1), (0, .ref (a 3)), (1, .ref (a 16)), (2, .int v2)]) hx hb dX3_mostIn_4 rfl hl (by decide) rfl (fun ls hl => ?_)
  refine lv_iload_n hx hb dX3_mostIn_5 rfl (lv_at hl 0 rfl) ?_
  refine lv_iconst (v := (-1)) hx hb dX3_mostIn_6 (by decide) ?_
  refine lv_icmp_ne (tgt := 12) hx hb dX3_mostIn_7 (by decide) (fun c_7 => ?_) (fun c_7 => ?_)
  · have hf := rf_ie c_7 hf
    refine lv_iload_n hx hb dX3_mostIn_12 rfl (lv_at hl 3 rfl) ?_
    refine lv_iconst (v := 1) hx hb dX3_mostIn_13 (by decide) ?_
    refine lv_iload_n hx hb dX3_mostIn_14 rfl (lv_at hl 0 rfl) ?_
    refine lv_ishl hx hb dX3_mostIn_15 ?_
    refine lv_iconst (v := (-1)) hx hb dX3_mostIn_16 (by decide) ?_
    refine lv_ixor hx hb dX3_mostIn_17 ?_
    refine lv_iand hx hb dX3_mostIn_18 ?_
    refine lv_istore (lv' := [(4, .int (v2 &&& (((1 : Int32) <<< (z1 &&& 31)) ^^^ (-1)))), (3, .int z1), (0, .ref (a 3)), (1, .ref (a 16)), (2, .int v2)]) hx hb dX3_mostIn_19 hl (by decide) rfl (fun ls hl => ?_)
    refine lv_aload_n hx hb dX3_mostIn_21 rfl (lv_at hl 2 rfl) ?_
    refine gX_pairing_best hC hP tw_215 dX3_mostIn_22 ?_
    refine lv_iload hx hb dX3_mostIn_25 (lv_at hl 0 rfl) ?_
    obtain ⟨hi_27, hf⟩ := rf_gu hf
    refine lX_pairing_best hC hP hi_27 (f := pairing_best) e_pairing_best dX3_mostIn_27 ?_
    refine lv_istore (lv' := [(5, .int (pairing_best (Int32.toNatClampNeg (v2 &&& (((1 : Int32) <<< (z1 &&& 31)) ^^^ (-1)))))), (4, .int (v2 &&& (((1 : Int32) <<< (z1 &&& 31)) ^^^ (-1)))), (3, .int z1), (0, .ref (a 3)), (1, .ref (a 16)), (2, .int v2)]) hx hb dX3_mostIn_28 hl (by decide) rfl (fun ls hl => ?_)
    refine lv_iload_n hx hb dX3_mostIn_30 rfl (lv_at hl 2 rfl) ?_
    refine lv_iconst (v := 1) hx hb dX3_mostIn_31 (by decide) ?_
    refine lv_iadd hx hb dX3_mostIn_32 ?_
    refine lv_istore (lv' := [(6, .int (z1 + 1)), (5, .int (pairing_best (Int32.toNatClampNeg (v2 &&& (((1 : Int32) <<< (z1 &&& 31)) ^^^ (-1)))))), (4, .int (v2 &&& (((1 : Int32) <<< (z1 &&& 31)) ^^^ (-1)))), (3, .int z1), (0, .ref (a 3)), (1, .ref (a 16)), (2, .int v2)]) hx hb dX3_mostIn_33 hl (by decide) rfl (fun ls hl => ?_)
    exact w_X3_mostIn_35 hC hD e_rhymes_links e_pairing_best rf_fu z1 (v2 &&& (((1 : Int32) <<< (z1 &&& 31)) ^^^ (-1))) (pairing_best (Int32.toNatClampNeg (v2 &&& (((1 : Int32) <<< (z1 &&& 31)) ^^^ (-1))))) (z1 + 1) hf _ _ _ hP hS (lv_sub hl [4, 5, 3, 2, 1, 0] rfl)
  have hf := rf_it c_7 hf
  refine lv_iconst (v := 0) hx hb dX3_mostIn_10 (by decide) ?_
  obtain rfl := Option.some.inj hf
  exact rf_reti hC hP hS rfl rfl dX3_mostIn_11
set_option maxHeartbeats 4000000 in
set_option maxRecDepth 100000 in
theorem w_X3_most_40 {l : Launch} {p : Program} {e : Env} {s : State} {m : MethodId} {args : Array Value} {below : List Frame} {meth : Method} {c : Code} {A0 : Nat → Prop} {E : rf_E} {a P : Nat → Nat} {I : Nat → Int32} {J : Nat → Int64} {A : Nat → Nat → Int32} {B : Nat → Nat → Int64} {rhymes_links : Nat → Int32} {z : Int32 × (Nat → Int32)} (hC : rf_C p E s m args meth c cX3_most 4 RX3 (some .int) A0) (hD : va_D A0 (cX E a P I J A B)) (e_rhymes_links : A 3 = rhymes_links) :
    ∀ (v2 : Int32) (pairing_best : Nat → Int32), f_X3_most_40 rhymes_links v2 pairing_best = some z → ∀ (H : Heap) (locs : List Loc) (ls : Array Slot), va_P (rf_D E) vwCl (cX E a P I J (rf_upL A [(5, pairing_best)]) B) H → va_S A0 s.heap H locs → lv_has ls 4 [(0, .ref (a 3)), (2, .int v2)] → W p l e ({ frames := 3, cells := 0, slots := 0, locals := 68 }) s m args below meth c H locs 0 0 (rf_QI below args s E A0 z.1 (cX E a P I J (rf_upL A [(5, z.2)]) B)) (F0 m 40 ls []) := by
  have hx := hC.1
  have hb := hC.2.1
  intro v2 pairing_best hf H locs ls hP hS hl
  unfold f_X3_most_40 at hf
  refine lv_aload_n hx hb dX3_most_40 rfl (lv_at hl 0 rfl) ?_
  refine gX_pairing_best hC hP tw_215 dX3_most_41 ?_
  refine lv_iload_n hx hb dX3_most_44 rfl (lv_at hl 1 rfl) ?_
  refine lv_sipush (v := 255) hx hb dX3_most_45 (by decide) ?_
  refine lv_iand hx hb dX3_most_48 ?_
  obtain ⟨hi_49, hf⟩ := rf_gu hf
  refine lX_pairing_best hC hP hi_49 (f := pairing_best) rfl dX3_most_49 ?_
  obtain rfl := Option.some.inj hf
  exact rf_reti hC hP hS rfl rfl dX3_most_50
set_option maxHeartbeats 4000000 in
set_option maxRecDepth 100000 in
theorem w_X3_most_34 {l : Launch} {p : Program} {e : Env} {s : State} {m : MethodId} {args : Array Value} {below : List Frame} {meth : Method} {c : Code} {A0 : Nat → Prop} {E : rf_E} {a P : Nat → Nat} {I : Nat → Int32} {J : Nat → Int64} {A : Nat → Nat → Int32} {B : Nat → Nat → Int64} {rhymes_links : Nat → Int32} {z : Int32 × (Nat → Int32)} (hC : rf_C p E s m args meth c cX3_most 4 RX3 (some .int) A0) (hD : va_D A0 (cX E a P I J A B)) (e_rhymes_links : A 3 = rhymes_links) {k2 : Int32 → Int32 → (Nat → Int32) → Option (Int32 × (Nat → Int32))} (hk2 : ∀ (v2 : Int32) (v3 : Int32) (pairing_best : Nat → Int32), k2 v2 v3 pairing_best = some z → ∀ (H : Heap) (locs : List Loc) (ls : Array Slot), va_P (rf_D E) vwCl (cX E a P I J (rf_upL A [(5, pairing_best)]) B) H → va_S A0 s.heap H locs → lv_has ls 4 [(0, .ref (a 3)), (1, .ref (a 16)), (2, .int v2), (3, .int v3)] → W p l e ({ frames := 3, cells := 0, slots := 0, locals := 68 }) s m args below meth c H locs 0 0 (rf_QI below args s E A0 z.1 (cX E a P I J (rf_upL A [(5, z.2)]) B)) (F0 m 2 ls [])) :
    ∀ (v2 : Int32) (v3 : Int32) (pairing_best : Nat → Int32), f_X3_most_34 k2 rhymes_links v2 v3 pairing_best = some z → ∀ (H : Heap) (locs : List Loc) (ls : Array Slot), va_P (rf_D E) vwCl (cX E a P I J (rf_upL A [(5, pairing_best)]) B) H → va_S A0 s.heap H locs → lv_has ls 4 [(0, .ref (a 3)), (1, .ref (a 16)), (2, .int v2), (3, .int v3)] → W p l e ({ frames := 3, cells := 0, slots := 0, locals := 68 }) s m args below meth c H locs 0 0 (rf_QI below args s E A0 z.1 (cX E a P I J (rf_upL A [(5, z.2)]) B)) (F0 m 34 ls []) := by
  have hx := hC.1
  have hb := hC.2.1
  intro v2 v3 pairing_best hf H locs ls hP hS hl
  unfold f_X3_most_34 at hf
  refine lv_iinc (v := v3 + 1) (lv' := [(3, .int (v3 + 1)), (0, .ref (a 3)), (1, .ref (a 16)), (2, .int v2)]) hx hb dX3_most_34 hl (k := 3) rfl rfl (by decide) rfl (fun ls hl => ?_)
  refine lv_goto (tgt := 2) hx hb dX3_most_37 (by decide) ?_
  exact hk2 v2 (v3 + 1) pairing_best hf _ _ _ hP hS (lv_sub hl [1, 2, 3, 0] rfl)
set_option maxHeartbeats 4000000 in
set_option maxRecDepth 100000 in
theorem w_X3_most_2 {l : Launch} {p : Program} {e : Env} {s : State} {m : MethodId} {args : Array Value} {below : List Frame} {meth : Method} {c : Code} {A0 : Nat → Prop} {E : rf_E} {a P : Nat → Nat} {I : Nat → Int32} {J : Nat → Int64} {A : Nat → Nat → Int32} {B : Nat → Nat → Int64} {rhymes_links : Nat → Int32} {z : Int32 × (Nat → Int32)} (hC : rf_C p E s m args meth c cX3_most 4 RX3 (some .int) A0) (hD : va_D A0 (cX E a P I J A B)) (e_rhymes_links : A 3 = rhymes_links) :
    ∀ (n : Nat), ∀ (v2 : Int32) (v3 : Int32) (pairing_best : Nat → Int32), f_X3_most_2 rhymes_links n v2 v3 pairing_best = some z → ∀ (H : Heap) (locs : List Loc) (ls : Array Slot), va_P (rf_D E) vwCl (cX E a P I J (rf_upL A [(5, pairing_best)]) B) H → va_S A0 s.heap H locs → lv_has ls 4 [(0, .ref (a 3)), (1, .ref (a 16)), (2, .int v2), (3, .int v3)] → W p l e ({ frames := 3, cells := 0, slots := 0, locals := 68 }) s m args below meth c H locs 0 0 (rf_QI below args s E A0 z.1 (cX E a P I J (rf_upL A [(5, z.2)]) B)) (F0 m 2 ls []) := by
  have hx := hC.1
  have hb := hC.2.1
  intro n
  induction n with
  | zero =>
    intro v2 v3 pairing_best hf
    have hf : (none : Option (Int32 × (Nat → Int32))) = some z := hf
    cases hf
  | succ n ih =>
    intro v2 v3 pairing_best hf H locs ls hP hS hl
    rw [f_X3_most_2] at hf
    refine lv_iload_n hx hb dX3_most_2 rfl (lv_at hl 3 rfl) ?_
    refine lv_iload_n hx hb dX3_most_3 rfl (lv_at hl 2 rfl) ?_
    refine lv_icmp_gt (tgt := 40) hx hb dX3_most_4 (by decide) (fun c_4 => ?_) (fun c_4 => ?_)
    · have hf := rf_it c_4 hf
      exact w_X3_most_40 hC hD e_rhymes_links v2 pairing_best hf _ _ _ hP hS (lv_sub hl [0, 2] rfl)
    have hf := rf_ie c_4 hf
    refine lv_iload_n hx hb dX3_most_7 rfl (lv_at hl 3 rfl) ?_
    refine lv_sipush (v := 256) hx hb dX3_most_8 (by decide) ?_
    refine lv_icmp_ge (tgt := 40) hx hb dX3_most_11 (by decide) (fun c_11 => ?_) (fun c_11 => ?_)
    · have hf := rf_it c_11 hf
      exact w_X3_most_40 hC hD e_rhymes_links v2 pairing_best hf _ _ _ hP hS (lv_sub hl [0, 2] rfl)
    have hf := rf_ie c_11 hf
    refine lv_iload_n hx hb dX3_most_14 rfl (lv_at hl 3 rfl) ?_
    refine lv_iload_n hx hb dX3_most_15 rfl (lv_at hl 2 rfl) ?_
    refine lv_iconst (v := (-1)) hx hb dX3_most_16 (by decide) ?_
    refine lv_ixor hx hb dX3_most_17 ?_
    refine lv_iand hx hb dX3_most_18 ?_
    refine lv_if_ne (tgt := 34) hx hb dX3_most_19 (by decide) (fun c_19 => ?_) (fun c_19 => ?_)
    · have hf := rf_ie c_19 hf
      exact w_X3_most_34 hC hD e_rhymes_links ih v2 v3 pairing_best hf _ _ _ hP hS (lv_sub hl [0, 1, 2, 3] rfl)
    have hf := rf_it c_19 hf
    refine lv_aload_n hx hb dX3_most_22 rfl (lv_at hl 0 rfl) ?_
    refine gX_pairing_best hC hP tw_215 dX3_most_23 ?_
    refine lv_iload_n hx hb dX3_most_26 rfl (lv_at hl 3 rfl) ?_
    refine lv_aload_n hx hb dX3_most_27 rfl (lv_at hl 0 rfl) ?_
    refine lv_aload_n hx hb dX3_most_28 rfl (lv_at hl 1 rfl) ?_
    refine lv_iload_n hx hb dX3_most_29 rfl (lv_at hl 3 rfl) ?_
    obtain ⟨z30, hz30, hf⟩ := rf_bd hf
    refine rf_vi (q0 := 3) (ci := 3) hC (c_X3_mostIn l E a P I J (rf_upL A [(5, pairing_best)]) B rhymes_links pairing_best v3 e_rhymes_links rfl hz30) kV_X3_mostIn tw_910 ⟨Nat.le_of_ble_eq_true rfl, Nat.le_of_ble_eq_true rfl⟩ rfl rfl rfl rfl rfl hP (rf_DX hD) hS rfl hl.1 (rest := [.int v3, .ref (a 18)]) rfl (Nat.le_of_ble_eq_true rfl) dX3_most_30 (fun H locs hP hS => ?_)
    obtain ⟨hi_33, hf⟩ := rf_gu hf
    refine sX_pairing_best hC hD hP hS hi_33 (f := pairing_best) rfl dX3_most_33 (rf_upL A [(5, upd pairing_best (Int32.toNatClampNeg v3) z30)]) (rf_put rfl) (fun H locs hP hS => ?_)
    exact w_X3_most_34 hC hD e_rhymes_links ih v2 v3 (upd pairing_best (Int32.toNatClampNeg v3) z30) hf _ _ _ hP hS (lv_sub hl [0, 1, 2, 3] rfl)
set_option maxHeartbeats 4000000 in
set_option maxRecDepth 100000 in
theorem c_X3_most (l : Launch) (E : rf_E) (a P : Nat → Nat) (I : Nat → Int32) (J : Nat → Int64) (A : Nat → Nat → Int32) (B : Nat → Nat → Int64) (rhymes_links : Nat → Int32) (pairing_best : Nat → Int32) (v2 : Int32) {z : Int32 × (Nat → Int32)} (e_rhymes_links : A 3 = rhymes_links) (e_pairing_best : A 5 = pairing_best) (hf : f_X3_most rhymes_links pairing_best v2 = some z) : rf_MI l yX3_most cX3_most 4 (some .int) ({ frames := 3, cells := 0, slots := 0, locals := 68 }) E [.ref (a 3), .ref (a 16), .int v2] (cX E a P I J A B) z.1 (cX E a P I J (rf_upL A [(5, z.2)]) B) := by
  unfold f_X3_most at hf
  refine rf_ofI (by decide) (Nat.le_of_ble_eq_true rfl) ?_
  intro p e s m below meth c A0 ls hC hD hP hS hl
  have hC : rf_C p E s m _ meth c cX3_most 4 RX3 (some .int) A0 := hC
  have hx := hC.1
  have hb := hC.2.1
  have hl : lv_has ls 4 [(0, .ref (a 3)), (1, .ref (a 16)), (2, .int v2)] := hl
  have hP : va_P (rf_D E) vwCl (cX E a P I J (rf_upL A [(5, pairing_best)]) B) s.heap := by
    rw [rf_self (f := A) [(5, pairing_best)] (rf_fa1 e_pairing_best rf_fa0)]
    exact hP
  refine lv_iconst (v := 0) hx hb dX3_most_0 (by decide) ?_
  refine lv_istore_n (lv' := [(3, .int 0), (0, .ref (a 3)), (1, .ref (a 16)), (2, .int v2)]) hx hb dX3_most_1 rfl hl (by decide) rfl (fun ls hl => ?_)
  exact w_X3_most_2 hC hD e_rhymes_links rf_fu v2 0 pairing_best hf _ _ _ hP hS (lv_sub hl [1, 2, 3, 0] rfl)
