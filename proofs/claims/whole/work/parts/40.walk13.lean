set_option maxHeartbeats 4000000 in
set_option maxRecDepth 100000 in
theorem c_X10_refrain (l : Launch) (E : rf_E) (a P : Nat → Nat) (I : Nat → Int32) (J : Nat → Int64) (A : Nat → Nat → Int32) (B : Nat → Nat → Int64) (now_everybody : Int32) (now_far : Int32) (tc_ear : Int32) (tc_wordCount : Int32) (tc_personCount : Int32) (now_words : Nat → Int32) (rhymes_links : Nat → Int32) (tc_kinds : Nat → Int32) (tc_hourEars : Nat → Int32) (tc_close : Nat → Int32) (purse_linksBy : Nat → Int32) (x_lastTrouble : Int32) (purse_people : Int32) (purse_links : Nat → Int32) (purse_singers : Nat → Int32) (v1 : Int32) (v2 : Int32) {z : Int32 × Int32 × Int32 × (Nat → Int32) × (Nat → Int32)} (hp0 : P 0 = a 10) (hp2 : P 2 = a 10) (e_now_everybody : I 6 = now_everybody) (e_now_far : I 7 = now_far) (e_tc_ear : I 21 = tc_ear) (e_tc_wordCount : I 23 = tc_wordCount) (e_tc_personCount : I 24 = tc_personCount) (e_now_words : A 1 = now_words) (e_rhymes_links : A 3 = rhymes_links) (e_tc_kinds : A 14 = tc_kinds) (e_tc_hourEars : A 18 = tc_hourEars) (e_tc_close : A 22 = tc_close) (e_purse_linksBy : A 33 = purse_linksBy) (e_x_lastTrouble : I 3 = x_lastTrouble) (e_purse_people : I 8 = purse_people) (e_purse_links : A 7 = purse_links) (e_purse_singers : A 8 = purse_singers) (hf : f_X10_refrain now_everybody now_far tc_ear tc_wordCount tc_personCount now_words rhymes_links tc_kinds tc_hourEars tc_close purse_linksBy x_lastTrouble purse_people purse_links purse_singers v1 v2 = some z) : rf_MI l yX10_refrain cX10_refrain 3 (some .int) ({ frames := 18, cells := 0, slots := 0, locals := 424 }) E [.ref (a 0), .int v1, .int v2] (cX E a P I J A B) z.1 (cX E a P (rf_upL I [(3, z.2.1), (8, z.2.2.1)]) J (rf_upL A [(7, z.2.2.2.1), (8, z.2.2.2.2)]) B) := by
  unfold f_X10_refrain at hf
  refine rf_ofI (by decide) (Nat.le_of_ble_eq_true rfl) ?_
  intro p e s m below meth c A0 ls hC hD hP hS hl
  have hC : rf_C p E s m _ meth c cX10_refrain 3 RX10 (some .int) A0 := hC
  have hx := hC.1
  have hb := hC.2.1
  have hl : lv_has ls 3 [(0, .ref (a 0)), (1, .int v1), (2, .int v2)] := hl
  have hP : va_P (rf_D E) vwCl (cX E a P (rf_upL I [(3, x_lastTrouble), (8, purse_people)]) J (rf_upL A [(7, purse_links), (8, purse_singers)]) B) s.heap := by
    rw [rf_self (f := I) [(3, x_lastTrouble), (8, purse_people)] (rf_fa1 e_x_lastTrouble (rf_fa1 e_purse_people rf_fa0))]
    rw [rf_self (f := A) [(7, purse_links), (8, purse_singers)] (rf_fa1 e_purse_links (rf_fa1 e_purse_singers rf_fa0))]
    exact hP
  refine lv_aload_n hx hb dX10_refrain_0 rfl (lv_at hl 0 rfl) ?_
  refine lv_aload_n hx hb dX10_refrain_1 rfl (lv_at hl 0 rfl) ?_
  refine lv_iload_n hx hb dX10_refrain_2 rfl (lv_at hl 1 rfl) ?_
  obtain ⟨z3, hz3, hf⟩ := rf_bd hf
  refine rf_vi (q0 := 0) (ci := 10) hC (c_X10_isBank l E a P (rf_upL I [(3, x_lastTrouble), (8, purse_people)]) J (rf_upL A [(7, purse_links), (8, purse_singers)]) B tc_personCount v1 hp0 e_tc_personCount hz3) kV_X10_isBank tw_901 ⟨Nat.le_of_ble_eq_true rfl, Nat.le_of_ble_eq_true rfl⟩ rfl rfl rfl rfl rfl hP (rf_DX hD) hS rfl hl.1 (rest := [.ref (a 0)]) rfl (Nat.le_of_ble_eq_true rfl) dX10_refrain_3 (fun H locs hP hS => ?_)
  refine lv_aload_n hx hb dX10_refrain_6 rfl (lv_at hl 0 rfl) ?_
  refine lv_iload_n hx hb dX10_refrain_7 rfl (lv_at hl 2 rfl) ?_
  obtain ⟨z8, hz8, hf⟩ := rf_bd hf
  refine rf_vi (q0 := 0) (ci := 10) hC (c_X10_isHour l E a P (rf_upL I [(3, x_lastTrouble), (8, purse_people)]) J (rf_upL A [(7, purse_links), (8, purse_singers)]) B v2 hz8) kV_X10_isHour tw_766 ⟨Nat.le_of_ble_eq_true rfl, Nat.le_of_ble_eq_true rfl⟩ rfl rfl rfl rfl rfl hP (rf_DX hD) hS rfl hl.1 (rest := [.int z3, .ref (a 0)]) rfl (Nat.le_of_ble_eq_true rfl) dX10_refrain_8 (fun H locs hP hS => ?_)
  obtain ⟨z11, hz11, hf⟩ := rf_bd hf
  refine rf_vi (q0 := 0) (ci := 10) hC (c_X10_refused l E a P (rf_upL I [(3, x_lastTrouble), (8, purse_people)]) J (rf_upL A [(7, purse_links), (8, purse_singers)]) B x_lastTrouble z3 z8 rfl hz11) kV_X10_refused tw_455 ⟨Nat.le_of_ble_eq_true rfl, Nat.le_of_ble_eq_true rfl⟩ rfl rfl rfl rfl rfl hP (rf_DX hD) hS rfl hl.1 (rest := []) rfl (Nat.le_of_ble_eq_true rfl) dX10_refrain_11 (fun H locs hP hS => ?_)
  rw [rf_cat (f := I) (l := [(3, x_lastTrouble), (8, purse_people)]) (lc := [(3, z11.2)]) (l' := [(3, z11.2), (8, purse_people)]) rfl] at hP
  refine lv_if_eq (tgt := 19) hx hb dX10_refrain_14 (by decide) (fun c_14 => ?_) (fun c_14 => ?_)
  · have hf := rf_it c_14 hf
    refine lv_aload_n hx hb dX10_refrain_19 rfl (lv_at hl 0 rfl) ?_
    refine gX_x_purse hC hP tw_395 dX10_refrain_20 ?_
    refine lv_aload_n hx hb dX10_refrain_23 rfl (lv_at hl 0 rfl) ?_
    refine gX_x_now hC hP tw_392 dX10_refrain_24 ?_
    refine lv_iload_n hx hb dX10_refrain_27 rfl (lv_at hl 1 rfl) ?_
    obtain ⟨z28, hz28, hf⟩ := rf_bd hf
    refine rf_vi (q0 := 1) (ci := 2) hC (c_X2_onBank l E a P (rf_upL I [(3, z11.2), (8, purse_people)]) J (rf_upL A [(7, purse_links), (8, purse_singers)]) B now_everybody now_far v1 e_now_everybody e_now_far hz28) kV_X2_onBank tw_905 ⟨Nat.le_of_ble_eq_true rfl, Nat.le_of_ble_eq_true rfl⟩ rfl rfl rfl rfl rfl hP (rf_DX hD) hS rfl hl.1 (rest := [.ref (a 4)]) rfl (Nat.le_of_ble_eq_true rfl) dX10_refrain_28 (fun H locs hP hS => ?_)
    refine lv_aload_n hx hb dX10_refrain_31 rfl (lv_at hl 0 rfl) ?_
    refine gX_x_tale hC hP tw_401 (v := a 10) hp0 dX10_refrain_32 ?_
    refine lv_iload_n hx hb dX10_refrain_35 rfl (lv_at hl 2 rfl) ?_
    obtain ⟨z36, hz36, hf⟩ := rf_bd hf
    refine rf_vi (q0 := 10) (ci := 9) hC (c_X9_earAt_tc l E a P (rf_upL I [(3, z11.2), (8, purse_people)]) J (rf_upL A [(7, purse_links), (8, purse_singers)]) B tc_ear tc_hourEars v2 e_tc_ear e_tc_hourEars hz36) kV_X9_earAt tw_770 ⟨Nat.le_of_ble_eq_true rfl, Nat.le_of_ble_eq_true rfl⟩ rfl rfl rfl rfl rfl hP (rf_DX hD) hS rfl hl.1 (rest := [.int z28, .ref (a 4)]) rfl (Nat.le_of_ble_eq_true rfl) dX10_refrain_36 (fun H locs hP hS => ?_)
    obtain ⟨z39, hz39, hf⟩ := rf_bd hf
    refine rf_vv (q0 := 4) (ci := 4) hC (c_X4_planSinging l E a P (rf_upL I [(3, z11.2), (8, purse_people)]) J (rf_upL A [(7, purse_links), (8, purse_singers)]) B tc_wordCount tc_personCount now_words tc_kinds tc_close purse_people purse_singers z28 z36 hp2 e_tc_wordCount e_tc_personCount e_now_words e_tc_kinds e_tc_close rfl rfl hz39) kV_X4_planSinging tw_1023 ⟨Nat.le_of_ble_eq_true rfl, Nat.le_of_ble_eq_true rfl⟩ rfl rfl rfl rfl rfl hP (rf_DX hD) hS rfl hl.1 (rest := []) rfl (Nat.le_of_ble_eq_true rfl) dX10_refrain_39 (fun H locs hP hS => ?_)
    rw [rf_cat (f := I) (l := [(3, z11.2), (8, purse_people)]) (lc := [(8, z39.1)]) (l' := [(3, z11.2), (8, z39.1)]) rfl] at hP
    rw [rf_cat (f := A) (l := [(7, purse_links), (8, purse_singers)]) (lc := [(8, z39.2)]) (l' := [(7, purse_links), (8, z39.2)]) rfl] at hP
    refine lv_aload_n hx hb dX10_refrain_42 rfl (lv_at hl 0 rfl) ?_
    refine gX_x_purse hC hP tw_395 dX10_refrain_43 ?_
    refine lv_iconst (v := 1) hx hb dX10_refrain_46 (by decide) ?_
    obtain ⟨z47, hz47, hf⟩ := rf_bd hf
    refine rf_vi (q0 := 4) (ci := 4) hC (c_X4_fewest l E a P (rf_upL I [(3, z11.2), (8, z39.1)]) J (rf_upL A [(7, purse_links), (8, z39.2)]) B z39.1 tc_wordCount tc_personCount rhymes_links z39.2 purse_linksBy purse_links 1 hp2 rfl e_tc_wordCount e_tc_personCount e_rhymes_links rfl e_purse_linksBy rfl hz47) kV_X4_fewest tw_998 ⟨Nat.le_of_ble_eq_true rfl, Nat.le_of_ble_eq_true rfl⟩ rfl rfl rfl rfl rfl hP (rf_DX hD) hS rfl hl.1 (rest := []) rfl (Nat.le_of_ble_eq_true rfl) dX10_refrain_47 (fun H locs hP hS => ?_)
    rw [rf_cat (f := A) (l := [(7, purse_links), (8, z39.2)]) (lc := [(7, z47.2)]) (l' := [(7, z47.2), (8, z39.2)]) rfl] at hP
    obtain rfl := Option.some.inj hf
    exact rf_reti hC hP hS rfl rfl dX10_refrain_50
  have hf := rf_ie c_14 hf
  refine lv_iconst (v := (-1)) hx hb dX10_refrain_17 (by decide) ?_
  obtain rfl := Option.some.inj hf
  exact rf_reti hC hP hS rfl rfl dX10_refrain_18
set_option maxHeartbeats 4000000 in
set_option maxRecDepth 100000 in
theorem w_X1_ears_28 {l : Launch} {p : Program} {e : Env} {s : State} {m : MethodId} {args : Array Value} {below : List Frame} {meth : Method} {c : Code} {A0 : Nat → Prop} {E : rf_E} {a P : Nat → Nat} {I : Nat → Int32} {J : Nat → Int64} {A : Nat → Nat → Int32} {B : Nat → Nat → Int64} {tc_wordCount : Int32} {tc_gotCount : Int32} {now_words : Nat → Int32} {tc_kinds : Nat → Int32} {tc_gotFirst : Nat → Int32} {tc_gotSecond : Nat → Int32} {tc_gotDegree : Nat → Int32} {tc_close : Nat → Int32} {z : Int32} (hC : rf_C p E s m args meth c cX1_ears 3 RX1 (some .int) A0) (hD : va_D A0 (cX E a P I J A B)) (hp2 : P 2 = a 10) (e_tc_wordCount : I 23 = tc_wordCount) (e_tc_gotCount : I 27 = tc_gotCount) (e_now_words : A 1 = now_words) (e_tc_kinds : A 14 = tc_kinds) (e_tc_gotFirst : A 19 = tc_gotFirst) (e_tc_gotSecond : A 20 = tc_gotSecond) (e_tc_gotDegree : A 21 = tc_gotDegree) (e_tc_close : A 22 = tc_close) {k4 : Int32 → Int32 → Option (Int32)} (hk4 : ∀ (v1 : Int32) (v2 : Int32), k4 v1 v2 = some z → ∀ (H : Heap) (locs : List Loc) (ls : Array Slot), va_P (rf_D E) vwCl (cX E a P I J A B) H → va_S A0 s.heap H locs → lv_has ls 3 [(0, .ref (a 5)), (1, .int v1), (2, .int v2)] → W p l e ({ frames := 5, cells := 0, slots := 0, locals := 123 }) s m args below meth c H locs 0 0 (rf_QI below args s E A0 z (cX E a P I J A B)) (F0 m 4 ls [])) :
    ∀ (v2 : Int32) (s0 : Int32) (s1 : Int32), f_X1_ears_28 k4 tc_wordCount tc_gotCount now_words tc_kinds tc_gotFirst tc_gotSecond tc_gotDegree tc_close v2 s0 s1 = some z → ∀ (H : Heap) (locs : List Loc) (ls : Array Slot), va_P (rf_D E) vwCl (cX E a P I J A B) H → va_S A0 s.heap H locs → lv_has ls 3 [(0, .ref (a 5)), (2, .int v2)] → W p l e ({ frames := 5, cells := 0, slots := 0, locals := 123 }) s m args below meth c H locs 0 0 (rf_QI below args s E A0 z (cX E a P I J A B)) (F0 m 28 ls [.int s1, .int s0]) := by
  have hx := hC.1
  have hb := hC.2.1
  intro v2 s0 s1 hf H locs ls hP hS hl
  unfold f_X1_ears_28 at hf
  refine lv_ior hx hb dX1_ears_28 ?_
  refine lv_istore_n (lv' := [(1, .int (s0 ||| s1)), (0, .ref (a 5)), (2, .int v2)]) hx hb dX1_ears_29 rfl hl (by decide) rfl (fun ls hl => ?_)
  refine lv_iinc (v := v2 + 1) (lv' := [(2, .int (v2 + 1)), (1, .int (s0 ||| s1)), (0, .ref (a 5))]) hx hb dX1_ears_30 hl (k := 2) rfl rfl (by decide) rfl (fun ls hl => ?_)
  refine lv_goto (tgt := 4) hx hb dX1_ears_33 (by decide) ?_
  exact hk4 (s0 ||| s1) (v2 + 1) hf _ _ _ hP hS (lv_sub hl [2, 1, 0] rfl)
set_option maxHeartbeats 4000000 in
set_option maxRecDepth 100000 in
theorem w_X1_ears_4 {l : Launch} {p : Program} {e : Env} {s : State} {m : MethodId} {args : Array Value} {below : List Frame} {meth : Method} {c : Code} {A0 : Nat → Prop} {E : rf_E} {a P : Nat → Nat} {I : Nat → Int32} {J : Nat → Int64} {A : Nat → Nat → Int32} {B : Nat → Nat → Int64} {tc_wordCount : Int32} {tc_gotCount : Int32} {now_words : Nat → Int32} {tc_kinds : Nat → Int32} {tc_gotFirst : Nat → Int32} {tc_gotSecond : Nat → Int32} {tc_gotDegree : Nat → Int32} {tc_close : Nat → Int32} {z : Int32} (hC : rf_C p E s m args meth c cX1_ears 3 RX1 (some .int) A0) (hD : va_D A0 (cX E a P I J A B)) (hp2 : P 2 = a 10) (e_tc_wordCount : I 23 = tc_wordCount) (e_tc_gotCount : I 27 = tc_gotCount) (e_now_words : A 1 = now_words) (e_tc_kinds : A 14 = tc_kinds) (e_tc_gotFirst : A 19 = tc_gotFirst) (e_tc_gotSecond : A 20 = tc_gotSecond) (e_tc_gotDegree : A 21 = tc_gotDegree) (e_tc_close : A 22 = tc_close) :
    ∀ (n : Nat), ∀ (v1 : Int32) (v2 : Int32), f_X1_ears_4 tc_wordCount tc_gotCount now_words tc_kinds tc_gotFirst tc_gotSecond tc_gotDegree tc_close n v1 v2 = some z → ∀ (H : Heap) (locs : List Loc) (ls : Array Slot), va_P (rf_D E) vwCl (cX E a P I J A B) H → va_S A0 s.heap H locs → lv_has ls 3 [(0, .ref (a 5)), (1, .int v1), (2, .int v2)] → W p l e ({ frames := 5, cells := 0, slots := 0, locals := 123 }) s m args below meth c H locs 0 0 (rf_QI below args s E A0 z (cX E a P I J A B)) (F0 m 4 ls []) := by
  have hx := hC.1
  have hb := hC.2.1
  intro n
  induction n with
  | zero =>
    intro v1 v2 hf
    have hf : (none : Option (Int32)) = some z := hf
    cases hf
  | succ n ih =>
    intro v1 v2 hf H locs ls hP hS hl
    rw [f_X1_ears_4] at hf
    refine lv_iload_n hx hb dX1_ears_4 rfl (lv_at hl 2 rfl) ?_
    refine lv_bipush (v := 6) hx hb dX1_ears_5 (by decide) ?_
    refine lv_icmp_gt (tgt := 36) hx hb dX1_ears_7 (by decide) (fun c_7 => ?_) (fun c_7 => ?_)
    · have hf := rf_it c_7 hf
      refine lv_iload_n hx hb dX1_ears_36 rfl (lv_at hl 1 rfl) ?_
      obtain rfl := Option.some.inj hf
      exact rf_reti hC hP hS rfl rfl dX1_ears_37
    have hf := rf_ie c_7 hf
    refine lv_iload_n hx hb dX1_ears_10 rfl (lv_at hl 1 rfl) ?_
    refine lv_aload_n hx hb dX1_ears_11 rfl (lv_at hl 0 rfl) ?_
    refine lv_iload_n hx hb dX1_ears_12 rfl (lv_at hl 2 rfl) ?_
    obtain ⟨z13, hz13, hf⟩ := rf_bd hf
    refine rf_vi (q0 := 5) (ci := 1) hC (c_X1_firstUntrue l E a P I J A B tc_wordCount tc_gotCount now_words tc_kinds tc_gotFirst tc_gotSecond tc_gotDegree tc_close v2 hp2 e_tc_wordCount e_tc_gotCount e_now_words e_tc_kinds e_tc_gotFirst e_tc_gotSecond e_tc_gotDegree e_tc_close hz13) kV_X1_firstUntrue tw_1036 ⟨Nat.le_of_ble_eq_true rfl, Nat.le_of_ble_eq_true rfl⟩ rfl rfl rfl rfl rfl hP (rf_DX hD) hS rfl hl.1 (rest := [.int v1]) rfl (Nat.le_of_ble_eq_true rfl) dX1_ears_13 (fun H locs hP hS => ?_)
    refine lv_bipush (v := (-2)) hx hb dX1_ears_16 (by decide) ?_
    refine lv_icmp_ne (tgt := 27) hx hb dX1_ears_18 (by decide) (fun c_18 => ?_) (fun c_18 => ?_)
    · have hf := rf_ie c_18 hf
      refine lv_iconst (v := 0) hx hb dX1_ears_27 (by decide) ?_
      exact w_X1_ears_28 hC hD hp2 e_tc_wordCount e_tc_gotCount e_now_words e_tc_kinds e_tc_gotFirst e_tc_gotSecond e_tc_gotDegree e_tc_close ih v2 v1 0 hf _ _ _ hP hS (lv_sub hl [0, 2] rfl)
    have hf := rf_it c_18 hf
    refine lv_iconst (v := 1) hx hb dX1_ears_21 (by decide) ?_
    refine lv_iload_n hx hb dX1_ears_22 rfl (lv_at hl 2 rfl) ?_
    refine lv_ishl hx hb dX1_ears_23 ?_
    refine lv_goto (tgt := 28) hx hb dX1_ears_24 (by decide) ?_
    exact w_X1_ears_28 hC hD hp2 e_tc_wordCount e_tc_gotCount e_now_words e_tc_kinds e_tc_gotFirst e_tc_gotSecond e_tc_gotDegree e_tc_close ih v2 v1 ((1 : Int32) <<< (v2 &&& 31)) hf _ _ _ hP hS (lv_sub hl [0, 2] rfl)
set_option maxHeartbeats 4000000 in
set_option maxRecDepth 100000 in
theorem c_X1_ears (l : Launch) (E : rf_E) (a P : Nat → Nat) (I : Nat → Int32) (J : Nat → Int64) (A : Nat → Nat → Int32) (B : Nat → Nat → Int64) (tc_wordCount : Int32) (tc_gotCount : Int32) (now_words : Nat → Int32) (tc_kinds : Nat → Int32) (tc_gotFirst : Nat → Int32) (tc_gotSecond : Nat → Int32) (tc_gotDegree : Nat → Int32) (tc_close : Nat → Int32) {z : Int32} (hp2 : P 2 = a 10) (e_tc_wordCount : I 23 = tc_wordCount) (e_tc_gotCount : I 27 = tc_gotCount) (e_now_words : A 1 = now_words) (e_tc_kinds : A 14 = tc_kinds) (e_tc_gotFirst : A 19 = tc_gotFirst) (e_tc_gotSecond : A 20 = tc_gotSecond) (e_tc_gotDegree : A 21 = tc_gotDegree) (e_tc_close : A 22 = tc_close) (hf : f_X1_ears tc_wordCount tc_gotCount now_words tc_kinds tc_gotFirst tc_gotSecond tc_gotDegree tc_close = some z) : rf_MI l yX1_ears cX1_ears 3 (some .int) ({ frames := 5, cells := 0, slots := 0, locals := 123 }) E [.ref (a 5)] (cX E a P I J A B) z (cX E a P I J A B) := by
  unfold f_X1_ears at hf
  refine rf_ofI (by decide) (Nat.le_of_ble_eq_true rfl) ?_
  intro p e s m below meth c A0 ls hC hD hP hS hl
  have hC : rf_C p E s m _ meth c cX1_ears 3 RX1 (some .int) A0 := hC
  have hx := hC.1
  have hb := hC.2.1
  have hl : lv_has ls 3 [(0, .ref (a 5))] := hl
  refine lv_iconst (v := 0) hx hb dX1_ears_0 (by decide) ?_
  refine lv_istore_n (lv' := [(1, .int 0), (0, .ref (a 5))]) hx hb dX1_ears_1 rfl hl (by decide) rfl (fun ls hl => ?_)
  refine lv_iconst (v := 1) hx hb dX1_ears_2 (by decide) ?_
  refine lv_istore_n (lv' := [(2, .int 1), (1, .int 0), (0, .ref (a 5))]) hx hb dX1_ears_3 rfl hl (by decide) rfl (fun ls hl => ?_)
  exact w_X1_ears_4 hC hD hp2 e_tc_wordCount e_tc_gotCount e_now_words e_tc_kinds e_tc_gotFirst e_tc_gotSecond e_tc_gotDegree e_tc_close rf_fu 0 1 hf _ _ _ hP hS (lv_sub hl [2, 1, 0] rfl)
set_option maxHeartbeats 4000000 in
set_option maxRecDepth 100000 in
theorem c_X10_heard (l : Launch) (E : rf_E) (a P : Nat → Nat) (I : Nat → Int32) (J : Nat → Int64) (A : Nat → Nat → Int32) (B : Nat → Nat → Int64) (tc_wordCount : Int32) (tc_personCount : Int32) (tc_gotCount : Int32) (now_words : Nat → Int32) (tc_kinds : Nat → Int32) (tc_gotFirst : Nat → Int32) (tc_gotSecond : Nat → Int32) (tc_gotDegree : Nat → Int32) (tc_close : Nat → Int32) (x_lastTrouble : Int32) {z : Int32 × Int32} (hp0 : P 0 = a 10) (hp2 : P 2 = a 10) (e_tc_wordCount : I 23 = tc_wordCount) (e_tc_personCount : I 24 = tc_personCount) (e_tc_gotCount : I 27 = tc_gotCount) (e_now_words : A 1 = now_words) (e_tc_kinds : A 14 = tc_kinds) (e_tc_gotFirst : A 19 = tc_gotFirst) (e_tc_gotSecond : A 20 = tc_gotSecond) (e_tc_gotDegree : A 21 = tc_gotDegree) (e_tc_close : A 22 = tc_close) (e_x_lastTrouble : I 3 = x_lastTrouble) (hf : f_X10_heard tc_wordCount tc_personCount tc_gotCount now_words tc_kinds tc_gotFirst tc_gotSecond tc_gotDegree tc_close x_lastTrouble = some z) : rf_MI l yX10_heard cX10_heard 1 (some .int) ({ frames := 6, cells := 0, slots := 0, locals := 145 }) E [.ref (a 0)] (cX E a P I J A B) z.1 (cX E a P (rf_upL I [(3, z.2)]) J A B) := by
  unfold f_X10_heard at hf
  refine rf_ofI (by decide) (Nat.le_of_ble_eq_true rfl) ?_
  intro p e s m below meth c A0 ls hC hD hP hS hl
  have hC : rf_C p E s m _ meth c cX10_heard 1 RX10 (some .int) A0 := hC
  have hx := hC.1
  have hb := hC.2.1
  have hl : lv_has ls 1 [(0, .ref (a 0))] := hl
  have hP : va_P (rf_D E) vwCl (cX E a P (rf_upL I [(3, x_lastTrouble)]) J A B) s.heap := by
    rw [rf_self (f := I) [(3, x_lastTrouble)] (rf_fa1 e_x_lastTrouble rf_fa0)]
    exact hP
  refine lv_aload_n hx hb dX10_heard_0 rfl (lv_at hl 0 rfl) ?_
  refine lv_aload_n hx hb dX10_heard_1 rfl (lv_at hl 0 rfl) ?_
  obtain ⟨z2, hz2, hf⟩ := rf_bd hf
  refine rf_vi (q0 := 0) (ci := 10) hC (c_X10_hasFerry l E a P (rf_upL I [(3, x_lastTrouble)]) J A B tc_personCount hp0 e_tc_personCount hz2) kV_X10_hasFerry tw_762 ⟨Nat.le_of_ble_eq_true rfl, Nat.le_of_ble_eq_true rfl⟩ rfl rfl rfl rfl rfl hP (rf_DX hD) hS rfl hl.1 (rest := [.ref (a 0)]) rfl (Nat.le_of_ble_eq_true rfl) dX10_heard_2 (fun H locs hP hS => ?_)
  refine lv_iconst (v := 1) hx hb dX10_heard_5 (by decide) ?_
  obtain ⟨z6, hz6, hf⟩ := rf_bd hf
  refine rf_vi (q0 := 0) (ci := 10) hC (c_X10_refused l E a P (rf_upL I [(3, x_lastTrouble)]) J A B x_lastTrouble z2 1 rfl hz6) kV_X10_refused tw_455 ⟨Nat.le_of_ble_eq_true rfl, Nat.le_of_ble_eq_true rfl⟩ rfl rfl rfl rfl rfl hP (rf_DX hD) hS rfl hl.1 (rest := []) rfl (Nat.le_of_ble_eq_true rfl) dX10_heard_6 (fun H locs hP hS => ?_)
  rw [rf_cat (f := I) (l := [(3, x_lastTrouble)]) (lc := [(3, z6.2)]) (l' := [(3, z6.2)]) rfl] at hP
  refine lv_if_eq (tgt := 14) hx hb dX10_heard_9 (by decide) (fun c_9 => ?_) (fun c_9 => ?_)
  · have hf := rf_it c_9 hf
    refine lv_aload_n hx hb dX10_heard_14 rfl (lv_at hl 0 rfl) ?_
    refine gX_x_hearing hC hP tw_396 dX10_heard_15 ?_
    obtain ⟨z18, hz18, hf⟩ := rf_bd hf
    refine rf_vi (q0 := 5) (ci := 1) hC (c_X1_ears l E a P (rf_upL I [(3, z6.2)]) J A B tc_wordCount tc_gotCount now_words tc_kinds tc_gotFirst tc_gotSecond tc_gotDegree tc_close hp2 e_tc_wordCount e_tc_gotCount e_now_words e_tc_kinds e_tc_gotFirst e_tc_gotSecond e_tc_gotDegree e_tc_close hz18) kV_X1_ears tw_1032 ⟨Nat.le_of_ble_eq_true rfl, Nat.le_of_ble_eq_true rfl⟩ rfl rfl rfl rfl rfl hP (rf_DX hD) hS rfl hl.1 (rest := []) rfl (Nat.le_of_ble_eq_true rfl) dX10_heard_18 (fun H locs hP hS => ?_)
    obtain ⟨z21, hz21, hf⟩ := rf_bd hf
    refine rf_si0 hC (c_J6_bitCount_0f7a4 l E z18 hz21) kS_J6_bitCount_0f7a4 tw_1037 ⟨Nat.le_of_ble_eq_true rfl, Nat.le_of_ble_eq_true rfl⟩ rfl rfl hP hS rfl hl.1 (rest := []) rfl (Nat.le_of_ble_eq_true rfl) dX10_heard_21 (fun H locs hP hS => ?_)
    obtain rfl := Option.some.inj hf
    exact rf_reti hC hP hS rfl rfl dX10_heard_24
  have hf := rf_ie c_9 hf
  refine lv_iconst (v := (-1)) hx hb dX10_heard_12 (by decide) ?_
  obtain rfl := Option.some.inj hf
  exact rf_reti hC hP hS rfl rfl dX10_heard_13
set_option maxHeartbeats 4000000 in
set_option maxRecDepth 100000 in
theorem w_X1_endOf_35 {l : Launch} {p : Program} {e : Env} {s : State} {m : MethodId} {args : Array Value} {below : List Frame} {meth : Method} {c : Code} {A0 : Nat → Prop} {E : rf_E} {a P : Nat → Nat} {I : Nat → Int32} {J : Nat → Int64} {A : Nat → Nat → Int32} {B : Nat → Nat → Int64} {z : Int32} (hC : rf_C p E s m args meth c cX1_endOf 5 RX1 (some .int) A0) (hD : va_D A0 (cX E a P I J A B)) {k6 : Int32 → Int32 → Int32 → Int32 → Option (Int32)} (hk6 : ∀ (v1 : Int32) (v2 : Int32) (v3 : Int32) (v4 : Int32), k6 v1 v2 v3 v4 = some z → ∀ (H : Heap) (locs : List Loc) (ls : Array Slot), va_P (rf_D E) vwCl (cX E a P I J A B) H → va_S A0 s.heap H locs → lv_has ls 5 [(1, .int v1), (2, .int v2), (3, .int v3), (4, .int v4)] → W p l e ({ frames := 1, cells := 0, slots := 0, locals := 21 }) s m args below meth c H locs 0 0 (rf_QI below args s E A0 z (cX E a P I J A B)) (F0 m 6 ls [])) :
    ∀ (v1 : Int32) (v2 : Int32) (v3 : Int32) (v4 : Int32), f_X1_endOf_35 k6 v1 v2 v3 v4 = some z → ∀ (H : Heap) (locs : List Loc) (ls : Array Slot), va_P (rf_D E) vwCl (cX E a P I J A B) H → va_S A0 s.heap H locs → lv_has ls 5 [(1, .int v1), (2, .int v2), (3, .int v3), (4, .int v4)] → W p l e ({ frames := 1, cells := 0, slots := 0, locals := 21 }) s m args below meth c H locs 0 0 (rf_QI below args s E A0 z (cX E a P I J A B)) (F0 m 35 ls []) := by
  have hx := hC.1
  have hb := hC.2.1
  intro v1 v2 v3 v4 hf H locs ls hP hS hl
  unfold f_X1_endOf_35 at hf
  refine lv_iinc (v := v4 + 1) (lv' := [(4, .int (v4 + 1)), (1, .int v1), (2, .int v2), (3, .int v3)]) hx hb dX1_endOf_35 hl (k := 3) rfl rfl (by decide) rfl (fun ls hl => ?_)
  refine lv_goto (tgt := 6) hx hb dX1_endOf_38 (by decide) ?_
  exact hk6 v1 v2 v3 (v4 + 1) hf _ _ _ hP hS (lv_sub hl [1, 2, 3, 0] rfl)
set_option maxHeartbeats 4000000 in
set_option maxRecDepth 100000 in
theorem w_X1_endOf_32 {l : Launch} {p : Program} {e : Env} {s : State} {m : MethodId} {args : Array Value} {below : List Frame} {meth : Method} {c : Code} {A0 : Nat → Prop} {E : rf_E} {a P : Nat → Nat} {I : Nat → Int32} {J : Nat → Int64} {A : Nat → Nat → Int32} {B : Nat → Nat → Int64} {z : Int32} (hC : rf_C p E s m args meth c cX1_endOf 5 RX1 (some .int) A0) (hD : va_D A0 (cX E a P I J A B)) {k6 : Int32 → Int32 → Int32 → Int32 → Option (Int32)} (hk6 : ∀ (v1 : Int32) (v2 : Int32) (v3 : Int32) (v4 : Int32), k6 v1 v2 v3 v4 = some z → ∀ (H : Heap) (locs : List Loc) (ls : Array Slot), va_P (rf_D E) vwCl (cX E a P I J A B) H → va_S A0 s.heap H locs → lv_has ls 5 [(1, .int v1), (2, .int v2), (3, .int v3), (4, .int v4)] → W p l e ({ frames := 1, cells := 0, slots := 0, locals := 21 }) s m args below meth c H locs 0 0 (rf_QI below args s E A0 z (cX E a P I J A B)) (F0 m 6 ls [])) :
    ∀ (v1 : Int32) (v2 : Int32) (v4 : Int32), f_X1_endOf_32 k6 v1 v2 v4 = some z → ∀ (H : Heap) (locs : List Loc) (ls : Array Slot), va_P (rf_D E) vwCl (cX E a P I J A B) H → va_S A0 s.heap H locs → lv_has ls 5 [(1, .int v1), (2, .int v2), (4, .int v4)] → W p l e ({ frames := 1, cells := 0, slots := 0, locals := 21 }) s m args below meth c H locs 0 0 (rf_QI below args s E A0 z (cX E a P I J A B)) (F0 m 32 ls []) := by
  have hx := hC.1
  have hb := hC.2.1
  intro v1 v2 v4 hf H locs ls hP hS hl
  unfold f_X1_endOf_32 at hf
  refine lv_iload hx hb dX1_endOf_32 (lv_at hl 2 rfl) ?_
  refine lv_istore_n (lv' := [(3, .int v4), (1, .int v1), (2, .int v2), (4, .int v4)]) hx hb dX1_endOf_34 rfl hl (by decide) rfl (fun ls hl => ?_)
  exact w_X1_endOf_35 hC hD hk6 v1 v2 v4 v4 hf _ _ _ hP hS (lv_sub hl [1, 2, 0, 3] rfl)
set_option maxHeartbeats 4000000 in
set_option maxRecDepth 100000 in
theorem w_X1_endOf_6 {l : Launch} {p : Program} {e : Env} {s : State} {m : MethodId} {args : Array Value} {below : List Frame} {meth : Method} {c : Code} {A0 : Nat → Prop} {E : rf_E} {a P : Nat → Nat} {I : Nat → Int32} {J : Nat → Int64} {A : Nat → Nat → Int32} {B : Nat → Nat → Int64} {z : Int32} (hC : rf_C p E s m args meth c cX1_endOf 5 RX1 (some .int) A0) (hD : va_D A0 (cX E a P I J A B)) :
    ∀ (n : Nat), ∀ (v1 : Int32) (v2 : Int32) (v3 : Int32) (v4 : Int32), f_X1_endOf_6 n v1 v2 v3 v4 = some z → ∀ (H : Heap) (locs : List Loc) (ls : Array Slot), va_P (rf_D E) vwCl (cX E a P I J A B) H → va_S A0 s.heap H locs → lv_has ls 5 [(1, .int v1), (2, .int v2), (3, .int v3), (4, .int v4)] → W p l e ({ frames := 1, cells := 0, slots := 0, locals := 21 }) s m args below meth c H locs 0 0 (rf_QI below args s E A0 z (cX E a P I J A B)) (F0 m 6 ls []) := by
  have hx := hC.1
  have hb := hC.2.1
  intro n
  induction n with
  | zero =>
    intro v1 v2 v3 v4 hf
    have hf : (none : Option (Int32)) = some z := hf
    cases hf
  | succ n ih =>
    intro v1 v2 v3 v4 hf H locs ls hP hS hl
    rw [f_X1_endOf_6] at hf
    refine lv_iload hx hb dX1_endOf_6 (lv_at hl 3 rfl) ?_
    refine lv_bipush (v := 6) hx hb dX1_endOf_8 (by decide) ?_
    refine lv_icmp_gt (tgt := 41) hx hb dX1_endOf_10 (by decide) (fun c_10 => ?_) (fun c_10 => ?_)
    · have hf := rf_it c_10 hf
      refine lv_iload_n hx hb dX1_endOf_41 rfl (lv_at hl 2 rfl) ?_
      obtain rfl := Option.some.inj hf
      exact rf_reti hC hP hS rfl rfl dX1_endOf_42
    have hf := rf_ie c_10 hf
    refine lv_iload_n hx hb dX1_endOf_13 rfl (lv_at hl 0 rfl) ?_
    refine lv_iload hx hb dX1_endOf_14 (lv_at hl 3 rfl) ?_
    obtain ⟨z16, hz16, hf⟩ := rf_bd hf
    refine rf_sn0 hC (c_X10_holds l E v1 v4 hz16) kS_X10_holds nw_1046 ⟨Nat.le_of_ble_eq_true rfl, Nat.le_of_ble_eq_true rfl⟩ rfl rfl hP hS rfl hl.1 (rest := []) rfl (Nat.le_of_ble_eq_true rfl) dX1_endOf_16 (fun H locs hP hS => ?_)
    refine lv_if_eq (tgt := 35) hx hb dX1_endOf_19 (by decide) (fun c_19 => ?_) (fun c_19 => ?_)
    · have hf := rf_it c_19 hf
      exact w_X1_endOf_35 hC hD ih v1 v2 v3 v4 hf _ _ _ hP hS (lv_sub hl [0, 1, 2, 3] rfl)
    have hf := rf_ie c_19 hf
    refine lv_iload_n hx hb dX1_endOf_22 rfl (lv_at hl 1 rfl) ?_
    refine lv_if_ne (tgt := 32) hx hb dX1_endOf_23 (by decide) (fun c_23 => ?_) (fun c_23 => ?_)
    · have hf := rf_ie c_23 hf
      exact w_X1_endOf_32 hC hD ih v1 v2 v4 hf _ _ _ hP hS (lv_sub hl [0, 1, 3] rfl)
    have hf := rf_it c_23 hf
    refine lv_iload_n hx hb dX1_endOf_26 rfl (lv_at hl 2 rfl) ?_
    refine lv_bipush (v := (-2)) hx hb dX1_endOf_27 (by decide) ?_
    refine lv_icmp_ne (tgt := 35) hx hb dX1_endOf_29 (by decide) (fun c_29 => ?_) (fun c_29 => ?_)
    · have hf := rf_ie c_29 hf
      exact w_X1_endOf_35 hC hD ih v1 v2 v3 v4 hf _ _ _ hP hS (lv_sub hl [0, 1, 2, 3] rfl)
    have hf := rf_it c_29 hf
    exact w_X1_endOf_32 hC hD ih v1 v2 v4 hf _ _ _ hP hS (lv_sub hl [0, 1, 3] rfl)
set_option maxHeartbeats 4000000 in
set_option maxRecDepth 100000 in
theorem c_X1_endOf (l : Launch) (E : rf_E) (a P : Nat → Nat) (I : Nat → Int32) (J : Nat → Int64) (A : Nat → Nat → Int32) (B : Nat → Nat → Int64) (v1 : Int32) (v2 : Int32) {z : Int32} (hf : f_X1_endOf v1 v2 = some z) : rf_MI l yX1_endOf cX1_endOf 5 (some .int) ({ frames := 1, cells := 0, slots := 0, locals := 21 }) E [.ref (a 5), .int v1, .int v2] (cX E a P I J A B) z (cX E a P I J A B) := by
  unfold f_X1_endOf at hf
  refine rf_ofI (by decide) (Nat.le_of_ble_eq_true rfl) ?_
  intro p e s m below meth c A0 ls hC hD hP hS hl
  have hC : rf_C p E s m _ meth c cX1_endOf 5 RX1 (some .int) A0 := hC
  have hx := hC.1
  have hb := hC.2.1
  have hl : lv_has ls 5 [(0, .ref (a 5)), (1, .int v1), (2, .int v2)] := hl
  refine lv_bipush (v := (-2)) hx hb dX1_endOf_0 (by decide) ?_
  refine lv_istore_n (lv' := [(3, .int (-2)), (0, .ref (a 5)), (1, .int v1), (2, .int v2)]) hx hb dX1_endOf_2 rfl hl (by decide) rfl (fun ls hl => ?_)
  refine lv_iconst (v := 1) hx hb dX1_endOf_3 (by decide) ?_
  refine lv_istore (lv' := [(4, .int 1), (3, .int (-2)), (0, .ref (a 5)), (1, .int v1), (2, .int v2)]) hx hb dX1_endOf_4 hl (by decide) rfl (fun ls hl => ?_)
  exact w_X1_endOf_6 hC hD rf_fu v1 v2 (-2) 1 hf _ _ _ hP hS (lv_sub hl [3, 4, 1, 0] rfl)
set_option maxHeartbeats 4000000 in
set_option maxRecDepth 100000 in
theorem c_X10_heardEar (l : Launch) (E : rf_E) (a P : Nat → Nat) (I : Nat → Int32) (J : Nat → Int64) (A : Nat → Nat → Int32) (B : Nat → Nat → Int64) (tc_wordCount : Int32) (tc_personCount : Int32) (tc_gotCount : Int32) (now_words : Nat → Int32) (tc_kinds : Nat → Int32) (tc_gotFirst : Nat → Int32) (tc_gotSecond : Nat → Int32) (tc_gotDegree : Nat → Int32) (tc_close : Nat → Int32) (x_lastTrouble : Int32) (v1 : Int32) {z : Int32 × Int32} (hp0 : P 0 = a 10) (hp2 : P 2 = a 10) (e_tc_wordCount : I 23 = tc_wordCount) (e_tc_personCount : I 24 = tc_personCount) (e_tc_gotCount : I 27 = tc_gotCount) (e_now_words : A 1 = now_words) (e_tc_kinds : A 14 = tc_kinds) (e_tc_gotFirst : A 19 = tc_gotFirst) (e_tc_gotSecond : A 20 = tc_gotSecond) (e_tc_gotDegree : A 21 = tc_gotDegree) (e_tc_close : A 22 = tc_close) (e_x_lastTrouble : I 3 = x_lastTrouble) (hf : f_X10_heardEar tc_wordCount tc_personCount tc_gotCount now_words tc_kinds tc_gotFirst tc_gotSecond tc_gotDegree tc_close x_lastTrouble v1 = some z) : rf_MI l yX10_heardEar cX10_heardEar 2 (some .int) ({ frames := 6, cells := 0, slots := 0, locals := 145 }) E [.ref (a 0), .int v1] (cX E a P I J A B) z.1 (cX E a P (rf_upL I [(3, z.2)]) J A B) := by
  unfold f_X10_heardEar at hf
  refine rf_ofI (by decide) (Nat.le_of_ble_eq_true rfl) ?_
  intro p e s m below meth c A0 ls hC hD hP hS hl
  have hC : rf_C p E s m _ meth c cX10_heardEar 2 RX10 (some .int) A0 := hC
  have hx := hC.1
  have hb := hC.2.1
  have hl : lv_has ls 2 [(0, .ref (a 0)), (1, .int v1)] := hl
  have hP : va_P (rf_D E) vwCl (cX E a P (rf_upL I [(3, x_lastTrouble)]) J A B) s.heap := by
    rw [rf_self (f := I) [(3, x_lastTrouble)] (rf_fa1 e_x_lastTrouble rf_fa0)]
    exact hP
  refine lv_aload_n hx hb dX10_heardEar_0 rfl (lv_at hl 0 rfl) ?_
  refine lv_aload_n hx hb dX10_heardEar_1 rfl (lv_at hl 0 rfl) ?_
  obtain ⟨z2, hz2, hf⟩ := rf_bd hf
  refine rf_vi (q0 := 0) (ci := 10) hC (c_X10_hasFerry l E a P (rf_upL I [(3, x_lastTrouble)]) J A B tc_personCount hp0 e_tc_personCount hz2) kV_X10_hasFerry tw_762 ⟨Nat.le_of_ble_eq_true rfl, Nat.le_of_ble_eq_true rfl⟩ rfl rfl rfl rfl rfl hP (rf_DX hD) hS rfl hl.1 (rest := [.ref (a 0)]) rfl (Nat.le_of_ble_eq_true rfl) dX10_heardEar_2 (fun H locs hP hS => ?_)
  refine lv_iconst (v := 1) hx hb dX10_heardEar_5 (by decide) ?_
  obtain ⟨z6, hz6, hf⟩ := rf_bd hf
  refine rf_vi (q0 := 0) (ci := 10) hC (c_X10_refused l E a P (rf_upL I [(3, x_lastTrouble)]) J A B x_lastTrouble z2 1 rfl hz6) kV_X10_refused tw_455 ⟨Nat.le_of_ble_eq_true rfl, Nat.le_of_ble_eq_true rfl⟩ rfl rfl rfl rfl rfl hP (rf_DX hD) hS rfl hl.1 (rest := []) rfl (Nat.le_of_ble_eq_true rfl) dX10_heardEar_6 (fun H locs hP hS => ?_)
  rw [rf_cat (f := I) (l := [(3, x_lastTrouble)]) (lc := [(3, z6.2)]) (l' := [(3, z6.2)]) rfl] at hP
  refine lv_if_eq (tgt := 14) hx hb dX10_heardEar_9 (by decide) (fun c_9 => ?_) (fun c_9 => ?_)
  · have hf := rf_it c_9 hf
    refine lv_aload_n hx hb dX10_heardEar_14 rfl (lv_at hl 0 rfl) ?_
    refine gX_x_hearing hC hP tw_396 dX10_heardEar_15 ?_
    refine lv_aload_n hx hb dX10_heardEar_18 rfl (lv_at hl 0 rfl) ?_
    refine gX_x_hearing hC hP tw_396 dX10_heardEar_19 ?_
    obtain ⟨z22, hz22, hf⟩ := rf_bd hf
    refine rf_vi (q0 := 5) (ci := 1) hC (c_X1_ears l E a P (rf_upL I [(3, z6.2)]) J A B tc_wordCount tc_gotCount now_words tc_kinds tc_gotFirst tc_gotSecond tc_gotDegree tc_close hp2 e_tc_wordCount e_tc_gotCount e_now_words e_tc_kinds e_tc_gotFirst e_tc_gotSecond e_tc_gotDegree e_tc_close hz22) kV_X1_ears tw_1032 ⟨Nat.le_of_ble_eq_true rfl, Nat.le_of_ble_eq_true rfl⟩ rfl rfl rfl rfl rfl hP (rf_DX hD) hS rfl hl.1 (rest := [.ref (a 5)]) rfl (Nat.le_of_ble_eq_true rfl) dX10_heardEar_22 (fun H locs hP hS => ?_)
    refine lv_iload_n hx hb dX10_heardEar_25 rfl (lv_at hl 1 rfl) ?_
    obtain ⟨z26, hz26, hf⟩ := rf_bd hf
    refine rf_vi (q0 := 5) (ci := 1) hC (c_X1_endOf l E a P (rf_upL I [(3, z6.2)]) J A B z22 v1 hz26) kV_X1_endOf tw_1042 ⟨Nat.le_of_ble_eq_true rfl, Nat.le_of_ble_eq_true rfl⟩ rfl rfl rfl rfl rfl hP (rf_DX hD) hS rfl hl.1 (rest := []) rfl (Nat.le_of_ble_eq_true rfl) dX10_heardEar_26 (fun H locs hP hS => ?_)
    obtain rfl := Option.some.inj hf
    exact rf_reti hC hP hS rfl rfl dX10_heardEar_29
  have hf := rf_ie c_9 hf
  refine lv_iconst (v := (-1)) hx hb dX10_heardEar_12 (by decide) ?_
  obtain rfl := Option.some.inj hf
  exact rf_reti hC hP hS rfl rfl dX10_heardEar_13
set_option maxHeartbeats 4000000 in
set_option maxRecDepth 100000 in
theorem w_X1_mostLeft_47 {l : Launch} {p : Program} {e : Env} {s : State} {m : MethodId} {args : Array Value} {below : List Frame} {meth : Method} {c : Code} {A0 : Nat → Prop} {E : rf_E} {a P : Nat → Nat} {I : Nat → Int32} {J : Nat → Int64} {A : Nat → Nat → Int32} {B : Nat → Nat → Int64} {tc_wordCount : Int32} {now_words : Nat → Int32} {tc_kinds : Nat → Int32} {tc_close : Nat → Int32} {z : Int32 × (Nat → Int32)} (hC : rf_C p E s m args meth c cX1_mostLeft 5 RX1 (some .int) A0) (hD : va_D A0 (cX E a P I J A B)) (hp2 : P 2 = a 10) (e_tc_wordCount : I 23 = tc_wordCount) (e_now_words : A 1 = now_words) (e_tc_kinds : A 14 = tc_kinds) (e_tc_close : A 22 = tc_close) {k11 : Int32 → Int32 → Int32 → Int32 → (Nat → Int32) → Option (Int32 × (Nat → Int32))} (hk11 : ∀ (v1 : Int32) (v2 : Int32) (v3 : Int32) (v4 : Int32) (hearing_left : Nat → Int32), k11 v1 v2 v3 v4 hearing_left = some z → ∀ (H : Heap) (locs : List Loc) (ls : Array Slot), va_P (rf_D E) vwCl (cX E a P I J (rf_upL A [(9, hearing_left)]) B) H → va_S A0 s.heap H locs → lv_has ls 5 [(0, .ref (a 5)), (1, .int v1), (2, .int v2), (3, .int v3), (4, .int v4)] → W p l e ({ frames := 6, cells := 0, slots := 0, locals := 200 }) s m args below meth c H locs 0 0 (rf_QI below args s E A0 z.1 (cX E a P I J (rf_upL A [(9, z.2)]) B)) (F0 m 11 ls [])) :
    ∀ (v1 : Int32) (v2 : Int32) (v3 : Int32) (v4 : Int32) (hearing_left : Nat → Int32), f_X1_mostLeft_47 k11 tc_wordCount now_words tc_kinds tc_close v1 v2 v3 v4 hearing_left = some z → ∀ (H : Heap) (locs : List Loc) (ls : Array Slot), va_P (rf_D E) vwCl (cX E a P I J (rf_upL A [(9, hearing_left)]) B) H → va_S A0 s.heap H locs → lv_has ls 5 [(0, .ref (a 5)), (1, .int v1), (2, .int v2), (3, .int v3), (4, .int v4)] → W p l e ({ frames := 6, cells := 0, slots := 0, locals := 200 }) s m args below meth c H locs 0 0 (rf_QI below args s E A0 z.1 (cX E a P I J (rf_upL A [(9, z.2)]) B)) (F0 m 47 ls []) := by
  have hx := hC.1
  have hb := hC.2.1
  intro v1 v2 v3 v4 hearing_left hf H locs ls hP hS hl
  unfold f_X1_mostLeft_47 at hf
  refine lv_iinc (v := v4 + 1) (lv' := [(4, .int (v4 + 1)), (0, .ref (a 5)), (1, .int v1), (2, .int v2), (3, .int v3)]) hx hb dX1_mostLeft_47 hl (k := 4) rfl rfl (by decide) rfl (fun ls hl => ?_)
  refine lv_goto (tgt := 11) hx hb dX1_mostLeft_50 (by decide) ?_
  exact hk11 v1 v2 v3 (v4 + 1) hearing_left hf _ _ _ hP hS (lv_sub hl [1, 2, 3, 4, 0] rfl)
set_option maxHeartbeats 4000000 in
set_option maxRecDepth 100000 in
theorem w_X1_mostLeft_11 {l : Launch} {p : Program} {e : Env} {s : State} {m : MethodId} {args : Array Value} {below : List Frame} {meth : Method} {c : Code} {A0 : Nat → Prop} {E : rf_E} {a P : Nat → Nat} {I : Nat → Int32} {J : Nat → Int64} {A : Nat → Nat → Int32} {B : Nat → Nat → Int64} {tc_wordCount : Int32} {now_words : Nat → Int32} {tc_kinds : Nat → Int32} {tc_close : Nat → Int32} {z : Int32 × (Nat → Int32)} (hC : rf_C p E s m args meth c cX1_mostLeft 5 RX1 (some .int) A0) (hD : va_D A0 (cX E a P I J A B)) (hp2 : P 2 = a 10) (e_tc_wordCount : I 23 = tc_wordCount) (e_now_words : A 1 = now_words) (e_tc_kinds : A 14 = tc_kinds) (e_tc_close : A 22 = tc_close) :
    ∀ (n : Nat), ∀ (v1 : Int32) (v2 : Int32) (v3 : Int32) (v4 : Int32) (hearing_left : Nat → Int32), f_X1_mostLeft_11 tc_wordCount now_words tc_kinds tc_close n v1 v2 v3 v4 hearing_left = some z → ∀ (H : Heap) (locs : List Loc) (ls : Array Slot), va_P (rf_D E) vwCl (cX E a P I J (rf_upL A [(9, hearing_left)]) B) H → va_S A0 s.heap H locs → lv_has ls 5 [(0, .ref (a 5)), (1, .int v1), (2, .int v2), (3, .int v3), (4, .int v4)] → W p l e ({ frames := 6, cells := 0, slots := 0, locals := 200 }) s m args below meth c H locs 0 0 (rf_QI below args s E A0 z.1 (cX E a P I J (rf_upL A [(9, z.2)]) B)) (F0 m 11 ls []) := by
  have hx := hC.1
  have hb := hC.2.1
  intro n
  induction n with
  | zero =>
    intro v1 v2 v3 v4 hearing_left hf
    have hf : (none : Option (Int32 × (Nat → Int32))) = some z := hf
    cases hf
  | succ n ih =>
    intro v1 v2 v3 v4 hearing_left hf H locs ls hP hS hl
    rw [f_X1_mostLeft_11] at hf
    refine lv_iload hx hb dX1_mostLeft_11 (lv_at hl 4 rfl) ?_
    refine lv_bipush (v := 6) hx hb dX1_mostLeft_13 (by decide) ?_
    refine lv_icmp_gt (tgt := 53) hx hb dX1_mostLeft_15 (by decide) (fun c_15 => ?_) (fun c_15 => ?_)
    · have hf := rf_it c_15 hf
      refine lv_aload_n hx hb dX1_mostLeft_53 rfl (lv_at hl 0 rfl) ?_
      refine gX_hearing_left hC hP tw_256 dX1_mostLeft_54 ?_
      refine lv_iconst (v := 0) hx hb dX1_mostLeft_57 (by decide) ?_
      refine lX_hearing_left hC hP (by decide) (f := hearing_left) rfl dX1_mostLeft_58 ?_
      refine lv_aload_n hx hb dX1_mostLeft_59 rfl (lv_at hl 0 rfl) ?_
      refine gX_hearing_left hC hP tw_256 dX1_mostLeft_60 ?_
      refine lv_iconst (v := 1) hx hb dX1_mostLeft_63 (by decide) ?_
      refine lX_hearing_left hC hP (by decide) (f := hearing_left) rfl dX1_mostLeft_64 ?_
      refine lv_aload_n hx hb dX1_mostLeft_65 rfl (lv_at hl 0 rfl) ?_
      refine gX_hearing_left hC hP tw_256 dX1_mostLeft_66 ?_
      refine lv_iconst (v := 2) hx hb dX1_mostLeft_69 (by decide) ?_
      refine lX_hearing_left hC hP (by decide) (f := hearing_left) rfl dX1_mostLeft_70 ?_
      refine va_mmax hx hb (by rw [hC.2.2.1]; exact hl.1.symm) hC.2.2.2.1 (hC.2.2.2.2.1 _ tw_1060) (hC.2.2.2.2.1 _ rf_max.1) (hC.2.2.2.2.1 _ rf_max.2.1) (hC.2.2.2.2.1 _ rf_max.2.2) (Nat.le_of_ble_eq_true rfl) (Nat.le_of_ble_eq_true rfl) (Nat.zero_le _) (Nat.zero_le _) dX1_mostLeft_71 ?_
      refine va_mmax hx hb (by rw [hC.2.2.1]; exact hl.1.symm) hC.2.2.2.1 (hC.2.2.2.2.1 _ tw_1060) (hC.2.2.2.2.1 _ rf_max.1) (hC.2.2.2.2.1 _ rf_max.2.1) (hC.2.2.2.2.1 _ rf_max.2.2) (Nat.le_of_ble_eq_true rfl) (Nat.le_of_ble_eq_true rfl) (Nat.zero_le _) (Nat.zero_le _) dX1_mostLeft_74 ?_
      obtain rfl := Option.some.inj hf
      exact rf_reti hC hP hS rfl rfl dX1_mostLeft_77
    have hf := rf_ie c_15 hf
    refine lv_iload_n hx hb dX1_mostLeft_18 rfl (lv_at hl 3 rfl) ?_
    refine lv_iload hx hb dX1_mostLeft_19 (lv_at hl 4 rfl) ?_
    obtain ⟨z21, hz21, hf⟩ := rf_bd hf
    refine rf_sn0 hC (c_X10_holds l E v3 v4 hz21) kS_X10_holds nw_1046 ⟨Nat.le_of_ble_eq_true rfl, Nat.le_of_ble_eq_true rfl⟩ rfl rfl hP hS rfl hl.1 (rest := []) rfl (Nat.le_of_ble_eq_true rfl) dX1_mostLeft_21 (fun H locs hP hS => ?_)
    refine lv_if_eq (tgt := 47) hx hb dX1_mostLeft_24 (by decide) (fun c_24 => ?_) (fun c_24 => ?_)
    · have hf := rf_it c_24 hf
      exact w_X1_mostLeft_47 hC hD hp2 e_tc_wordCount e_now_words e_tc_kinds e_tc_close ih v1 v2 v3 v4 hearing_left hf _ _ _ hP hS (lv_sub hl [0, 1, 2, 3, 4] rfl)
    have hf := rf_ie c_24 hf
    refine lv_aload_n hx hb dX1_mostLeft_27 rfl (lv_at hl 0 rfl) ?_
    refine gX_hearing_left hC hP tw_256 dX1_mostLeft_28 ?_
    refine lv_aload_n hx hb dX1_mostLeft_31 rfl (lv_at hl 0 rfl) ?_
    refine gX_hearing_rhymes hC hP tw_255 dX1_mostLeft_32 ?_
    refine lv_iload_n hx hb dX1_mostLeft_35 rfl (lv_at hl 1 rfl) ?_
    refine lv_iload_n hx hb dX1_mostLeft_36 rfl (lv_at hl 2 rfl) ?_
    refine lv_iload hx hb dX1_mostLeft_37 (lv_at hl 4 rfl) ?_
    obtain ⟨z39, hz39, hf⟩ := rf_bd hf
    refine rf_vi (q0 := 2) (ci := 6) hC (c_X6_degree l E a P I J (rf_upL A [(9, hearing_left)]) B tc_wordCount now_words tc_kinds tc_close v1 v2 v4 hp2 e_tc_wordCount e_now_words e_tc_kinds e_tc_close hz39) kV_X6_degree tw_962 ⟨Nat.le_of_ble_eq_true rfl, Nat.le_of_ble_eq_true rfl⟩ rfl rfl rfl rfl rfl hP (rf_DX hD) hS rfl hl.1 (rest := [.ref (a 22)]) rfl (Nat.le_of_ble_eq_true rfl) dX1_mostLeft_39 (fun H locs hP hS => ?_)
    refine lv_dup2_11 hx hb dX1_mostLeft_42 rfl rfl ?_
    obtain ⟨hi_43, hf⟩ := rf_gu hf
    refine lX_hearing_left hC hP hi_43 (f := hearing_left) rfl dX1_mostLeft_43 ?_
    refine lv_iconst (v := 1) hx hb dX1_mostLeft_44 (by decide) ?_
    refine lv_iadd hx hb dX1_mostLeft_45 ?_
    obtain ⟨hi_46, hf⟩ := rf_gu hf
    refine sX_hearing_left hC hD hP hS hi_46 (f := hearing_left) rfl dX1_mostLeft_46 (rf_upL A [(9, upd hearing_left (Int32.toNatClampNeg z39) ((hearing_left (Int32.toNatClampNeg z39)) + 1))]) (rf_put rfl) (fun H locs hP hS => ?_)
    exact w_X1_mostLeft_47 hC hD hp2 e_tc_wordCount e_now_words e_tc_kinds e_tc_close ih v1 v2 v3 v4 (upd hearing_left (Int32.toNatClampNeg z39) ((hearing_left (Int32.toNatClampNeg z39)) + 1)) hf _ _ _ hP hS (lv_sub hl [0, 1, 2, 3, 4] rfl)
set_option maxHeartbeats 4000000 in
set_option maxRecDepth 100000 in
theorem c_X1_mostLeft (l : Launch) (E : rf_E) (a P : Nat → Nat) (I : Nat → Int32) (J : Nat → Int64) (A : Nat → Nat → Int32) (B : Nat → Nat → Int64) (tc_wordCount : Int32) (now_words : Nat → Int32) (tc_kinds : Nat → Int32) (tc_close : Nat → Int32) (hearing_left : Nat → Int32) (v1 : Int32) (v2 : Int32) (v3 : Int32) {z : Int32 × (Nat → Int32)} (hp2 : P 2 = a 10) (e_tc_wordCount : I 23 = tc_wordCount) (e_now_words : A 1 = now_words) (e_tc_kinds : A 14 = tc_kinds) (e_tc_close : A 22 = tc_close) (e_hearing_left : A 9 = hearing_left) (hf : f_X1_mostLeft tc_wordCount now_words tc_kinds tc_close hearing_left v1 v2 v3 = some z) : rf_MI l yX1_mostLeft cX1_mostLeft 5 (some .int) ({ frames := 6, cells := 0, slots := 0, locals := 200 }) E [.ref (a 5), .int v1, .int v2, .int v3] (cX E a P I J A B) z.1 (cX E a P I J (rf_upL A [(9, z.2)]) B) := by
  unfold f_X1_mostLeft at hf
  refine rf_ofI (by decide) (Nat.le_of_ble_eq_true rfl) ?_
  intro p e s m below meth c A0 ls hC hD hP hS hl
  have hC : rf_C p E s m _ meth c cX1_mostLeft 5 RX1 (some .int) A0 := hC
  have hx := hC.1
  have hb := hC.2.1
  have hl : lv_has ls 5 [(0, .ref (a 5)), (1, .int v1), (2, .int v2), (3, .int v3)] := hl
  have hP : va_P (rf_D E) vwCl (cX E a P I J (rf_upL A [(9, hearing_left)]) B) s.heap := by
    rw [rf_self (f := A) [(9, hearing_left)] (rf_fa1 e_hearing_left rf_fa0)]
    exact hP
  refine lv_aload_n hx hb dX1_mostLeft_0 rfl (lv_at hl 0 rfl) ?_
  refine gX_hearing_left hC hP tw_256 dX1_mostLeft_1 ?_
  refine lv_iconst (v := 0) hx hb dX1_mostLeft_4 (by decide) ?_
  refine fX_hearing_left hC hD hP hS (f := hearing_left) rfl tw_1059  hl.1 (Nat.le_of_ble_eq_true rfl) ⟨Nat.le_of_ble_eq_true rfl, Nat.le_of_ble_eq_true rfl⟩ dX1_mostLeft_5 (rf_upL A [(9, rf_fill 3 0 hearing_left)]) (rf_put rfl) (fun H locs hP hS => ?_)
  refine lv_iconst (v := 1) hx hb dX1_mostLeft_8 (by decide) ?_
  refine lv_istore (lv' := [(4, .int 1), (0, .ref (a 5)), (1, .int v1), (2, .int v2), (3, .int v3)]) hx hb dX1_mostLeft_9 hl (by decide) rfl (fun ls hl => ?_)
  exact w_X1_mostLeft_11 hC hD hp2 e_tc_wordCount e_now_words e_tc_kinds e_tc_close rf_fu v1 v2 v3 1 (rf_fill 3 0 hearing_left) hf _ _ _ hP hS (lv_sub hl [1, 2, 3, 4, 0] rfl)
set_option maxHeartbeats 4000000 in
set_option maxRecDepth 100000 in
theorem w_X1_seekQuestion_94 {l : Launch} {p : Program} {e : Env} {s : State} {m : MethodId} {args : Array Value} {below : List Frame} {meth : Method} {c : Code} {A0 : Nat → Prop} {E : rf_E} {a P : Nat → Nat} {I : Nat → Int32} {J : Nat → Int64} {A : Nat → Nat → Int32} {B : Nat → Nat → Int64} {tc_wordCount : Int32} {tc_personCount : Int32} {now_words : Nat → Int32} {tc_kinds : Nat → Int32} {tc_close : Nat → Int32} {z : Int32 × Int32 × (Nat → Int32)} (hC : rf_C p E s m args meth c cX1_seekQuestion 6 RX1 (none) A0) (hD : va_D A0 (cX E a P I J A B)) (hp2 : P 2 = a 10) (e_tc_wordCount : I 23 = tc_wordCount) (e_tc_personCount : I 24 = tc_personCount) (e_now_words : A 1 = now_words) (e_tc_kinds : A 14 = tc_kinds) (e_tc_close : A 22 = tc_close) {k33 : Int32 → Int32 → Int32 → Int32 → Int32 → (Nat → Int32) → Option (Int32 × Int32 × (Nat → Int32))} (hk33 : ∀ (v1 : Int32) (v2 : Int32) (v3 : Int32) (hearing_question : Int32) (hearing_leaves : Int32) (hearing_left : Nat → Int32), k33 v1 v2 v3 hearing_question hearing_leaves hearing_left = some z → ∀ (H : Heap) (locs : List Loc) (ls : Array Slot), va_P (rf_D E) vwCl (cX E a P (rf_upL I [(10, hearing_question), (11, hearing_leaves)]) J (rf_upL A [(9, hearing_left)]) B) H → va_S A0 s.heap H locs → lv_has ls 6 [(0, .ref (a 5)), (1, .int v1), (2, .int v2), (3, .int v3)] → W p l e ({ frames := 7, cells := 0, slots := 0, locals := 224 }) s m args below meth c H locs 0 0 (rf_QV below args s E A0 (cX E a P (rf_upL I [(10, z.1), (11, z.2.1)]) J (rf_upL A [(9, z.2.2)]) B)) (F0 m 33 ls [])) {k43 : Int32 → Int32 → Int32 → Int32 → Int32 → Int32 → (Nat → Int32) → Option (Int32 × Int32 × (Nat → Int32))} (hk43 : ∀ (v1 : Int32) (v2 : Int32) (v3 : Int32) (v4 : Int32) (hearing_question : Int32) (hearing_leaves : Int32) (hearing_left : Nat → Int32), k43 v1 v2 v3 v4 hearing_question hearing_leaves hearing_left = some z → ∀ (H : Heap) (locs : List Loc) (ls : Array Slot), va_P (rf_D E) vwCl (cX E a P (rf_upL I [(10, hearing_question), (11, hearing_leaves)]) J (rf_upL A [(9, hearing_left)]) B) H → va_S A0 s.heap H locs → lv_has ls 6 [(0, .ref (a 5)), (1, .int v1), (2, .int v2), (3, .int v3), (4, .int v4)] → W p l e ({ frames := 7, cells := 0, slots := 0, locals := 224 }) s m args below meth c H locs 0 0 (rf_QV below args s E A0 (cX E a P (rf_upL I [(10, z.1), (11, z.2.1)]) J (rf_upL A [(9, z.2.2)]) B)) (F0 m 43 ls [])) :
    ∀ (v1 : Int32) (v2 : Int32) (v3 : Int32) (v4 : Int32) (hearing_question : Int32) (hearing_leaves : Int32) (hearing_left : Nat → Int32), f_X1_seekQuestion_94 k33 k43 tc_wordCount tc_personCount now_words tc_kinds tc_close v1 v2 v3 v4 hearing_question hearing_leaves hearing_left = some z → ∀ (H : Heap) (locs : List Loc) (ls : Array Slot), va_P (rf_D E) vwCl (cX E a P (rf_upL I [(10, hearing_question), (11, hearing_leaves)]) J (rf_upL A [(9, hearing_left)]) B) H → va_S A0 s.heap H locs → lv_has ls 6 [(0, .ref (a 5)), (1, .int v1), (2, .int v2), (3, .int v3), (4, .int v4)] → W p l e ({ frames := 7, cells := 0, slots := 0, locals := 224 }) s m args below meth c H locs 0 0 (rf_QV below args s E A0 (cX E a P (rf_upL I [(10, z.1), (11, z.2.1)]) J (rf_upL A [(9, z.2.2)]) B)) (F0 m 94 ls []) := by
  have hx := hC.1
  have hb := hC.2.1
  intro v1 v2 v3 v4 hearing_question hearing_leaves hearing_left hf H locs ls hP hS hl
  unfold f_X1_seekQuestion_94 at hf
  refine lv_iinc (v := v4 + 1) (lv' := [(4, .int (v4 + 1)), (0, .ref (a 5)), (1, .int v1), (2, .int v2), (3, .int v3)]) hx hb dX1_seekQuestion_94 hl (k := 4) rfl rfl (by decide) rfl (fun ls hl => ?_)
  refine lv_goto (tgt := 43) hx hb dX1_seekQuestion_97 (by decide) ?_
  exact hk43 v1 v2 v3 (v4 + 1) hearing_question hearing_leaves hearing_left hf _ _ _ hP hS (lv_sub hl [1, 2, 3, 4, 0] rfl)
set_option maxHeartbeats 4000000 in
set_option maxRecDepth 100000 in
theorem w_X1_seekQuestion_77 {l : Launch} {p : Program} {e : Env} {s : State} {m : MethodId} {args : Array Value} {below : List Frame} {meth : Method} {c : Code} {A0 : Nat → Prop} {E : rf_E} {a P : Nat → Nat} {I : Nat → Int32} {J : Nat → Int64} {A : Nat → Nat → Int32} {B : Nat → Nat → Int64} {tc_wordCount : Int32} {tc_personCount : Int32} {now_words : Nat → Int32} {tc_kinds : Nat → Int32} {tc_close : Nat → Int32} {z : Int32 × Int32 × (Nat → Int32)} (hC : rf_C p E s m args meth c cX1_seekQuestion 6 RX1 (none) A0) (hD : va_D A0 (cX E a P I J A B)) (hp2 : P 2 = a 10) (e_tc_wordCount : I 23 = tc_wordCount) (e_tc_personCount : I 24 = tc_personCount) (e_now_words : A 1 = now_words) (e_tc_kinds : A 14 = tc_kinds) (e_tc_close : A 22 = tc_close) {k33 : Int32 → Int32 → Int32 → Int32 → Int32 → (Nat → Int32) → Option (Int32 × Int32 × (Nat → Int32))} (hk33 : ∀ (v1 : Int32) (v2 : Int32) (v3 : Int32) (hearing_question : Int32) (hearing_leaves : Int32) (hearing_left : Nat → Int32), k33 v1 v2 v3 hearing_question hearing_leaves hearing_left = some z → ∀ (H : Heap) (locs : List Loc) (ls : Array Slot), va_P (rf_D E) vwCl (cX E a P (rf_upL I [(10, hearing_question), (11, hearing_leaves)]) J (rf_upL A [(9, hearing_left)]) B) H → va_S A0 s.heap H locs → lv_has ls 6 [(0, .ref (a 5)), (1, .int v1), (2, .int v2), (3, .int v3)] → W p l e ({ frames := 7, cells := 0, slots := 0, locals := 224 }) s m args below meth c H locs 0 0 (rf_QV below args s E A0 (cX E a P (rf_upL I [(10, z.1), (11, z.2.1)]) J (rf_upL A [(9, z.2.2)]) B)) (F0 m 33 ls [])) {k43 : Int32 → Int32 → Int32 → Int32 → Int32 → Int32 → (Nat → Int32) → Option (Int32 × Int32 × (Nat → Int32))} (hk43 : ∀ (v1 : Int32) (v2 : Int32) (v3 : Int32) (v4 : Int32) (hearing_question : Int32) (hearing_leaves : Int32) (hearing_left : Nat → Int32), k43 v1 v2 v3 v4 hearing_question hearing_leaves hearing_left = some z → ∀ (H : Heap) (locs : List Loc) (ls : Array Slot), va_P (rf_D E) vwCl (cX E a P (rf_upL I [(10, hearing_question), (11, hearing_leaves)]) J (rf_upL A [(9, hearing_left)]) B) H → va_S A0 s.heap H locs → lv_has ls 6 [(0, .ref (a 5)), (1, .int v1), (2, .int v2), (3, .int v3), (4, .int v4)] → W p l e ({ frames := 7, cells := 0, slots := 0, locals := 224 }) s m args below meth c H locs 0 0 (rf_QV below args s E A0 (cX E a P (rf_upL I [(10, z.1), (11, z.2.1)]) J (rf_upL A [(9, z.2.2)]) B)) (F0 m 43 ls [])) :
    ∀ (v1 : Int32) (v2 : Int32) (v3 : Int32) (v4 : Int32) (v5 : Int32) (hearing_question : Int32) (hearing_leaves : Int32) (hearing_left : Nat → Int32), f_X1_seekQuestion_77 k33 k43 tc_wordCount tc_personCount now_words tc_kinds tc_close v1 v2 v3 v4 v5 hearing_question hearing_leaves hearing_left = some z → ∀ (H : Heap) (locs : List Loc) (ls : Array Slot), va_P (rf_D E) vwCl (cX E a P (rf_upL I [(10, hearing_question), (11, hearing_leaves)]) J (rf_upL A [(9, hearing_left)]) B) H → va_S A0 s.heap H locs → lv_has ls 6 [(0, .ref (a 5)), (1, .int v1), (2, .int v2), (3, .int v3), (4, .int v4), (5, .int v5)] → W p l e ({ frames := 7, cells := 0, slots := 0, locals := 224 }) s m args below meth c H locs 0 0 (rf_QV below args s E A0 (cX E a P (rf_upL I [(10, z.1), (11, z.2.1)]) J (rf_upL A [(9, z.2.2)]) B)) (F0 m 77 ls []) := by
  have hx := hC.1
  have hb := hC.2.1
  intro v1 v2 v3 v4 v5 hearing_question hearing_leaves hearing_left hf H locs ls hP hS hl
  unfold f_X1_seekQuestion_77 at hf
  refine lv_aload_n hx hb dX1_seekQuestion_77 rfl (lv_at hl 0 rfl) ?_
  refine lv_iload hx hb dX1_seekQuestion_78 (lv_at hl 5 rfl) ?_
  refine pX_hearing_leaves hC hD hP hS tw_259 dX1_seekQuestion_80 (rf_upL I [(10, hearing_question), (11, v5)]) (rf_put rfl) (fun H locs hP hS => ?_)
  refine lv_aload_n hx hb dX1_seekQuestion_83 rfl (lv_at hl 0 rfl) ?_
  refine lv_bipush (v := 10) hx hb dX1_seekQuestion_84 (by decide) ?_
  refine lv_iload_n hx hb dX1_seekQuestion_86 rfl (lv_at hl 3 rfl) ?_
  refine lv_imul hx hb dX1_seekQuestion_87 ?_
  refine lv_iload hx hb dX1_seekQuestion_88 (lv_at hl 4 rfl) ?_
  refine lv_iadd hx hb dX1_seekQuestion_90 ?_
  refine pX_hearing_question hC hD hP hS tw_257 dX1_seekQuestion_91 (rf_upL I [(10, ((10 : Int32) * v3) + v4), (11, v5)]) (rf_put rfl) (fun H locs hP hS => ?_)
  exact w_X1_seekQuestion_94 hC hD hp2 e_tc_wordCount e_tc_personCount e_now_words e_tc_kinds e_tc_close hk33 hk43 v1 v2 v3 v4 (((10 : Int32) * v3) + v4) v5 hearing_left hf _ _ _ hP hS (lv_sub hl [0, 1, 2, 3, 4] rfl)
set_option maxHeartbeats 4000000 in
set_option maxRecDepth 100000 in
theorem w_X1_seekQuestion_43 {l : Launch} {p : Program} {e : Env} {s : State} {m : MethodId} {args : Array Value} {below : List Frame} {meth : Method} {c : Code} {A0 : Nat → Prop} {E : rf_E} {a P : Nat → Nat} {I : Nat → Int32} {J : Nat → Int64} {A : Nat → Nat → Int32} {B : Nat → Nat → Int64} {tc_wordCount : Int32} {tc_personCount : Int32} {now_words : Nat → Int32} {tc_kinds : Nat → Int32} {tc_close : Nat → Int32} {z : Int32 × Int32 × (Nat → Int32)} (hC : rf_C p E s m args meth c cX1_seekQuestion 6 RX1 (none) A0) (hD : va_D A0 (cX E a P I J A B)) (hp2 : P 2 = a 10) (e_tc_wordCount : I 23 = tc_wordCount) (e_tc_personCount : I 24 = tc_personCount) (e_now_words : A 1 = now_words) (e_tc_kinds : A 14 = tc_kinds) (e_tc_close : A 22 = tc_close) {k33 : Int32 → Int32 → Int32 → Int32 → Int32 → (Nat → Int32) → Option (Int32 × Int32 × (Nat → Int32))} (hk33 : ∀ (v1 : Int32) (v2 : Int32) (v3 : Int32) (hearing_question : Int32) (hearing_leaves : Int32) (hearing_left : Nat → Int32), k33 v1 v2 v3 hearing_question hearing_leaves hearing_left = some z → ∀ (H : Heap) (locs : List Loc) (ls : Array Slot), va_P (rf_D E) vwCl (cX E a P (rf_upL I [(10, hearing_question), (11, hearing_leaves)]) J (rf_upL A [(9, hearing_left)]) B) H → va_S A0 s.heap H locs → lv_has ls 6 [(0, .ref (a 5)), (1, .int v1), (2, .int v2), (3, .int v3)] → W p l e ({ frames := 7, cells := 0, slots := 0, locals := 224 }) s m args below meth c H locs 0 0 (rf_QV below args s E A0 (cX E a P (rf_upL I [(10, z.1), (11, z.2.1)]) J (rf_upL A [(9, z.2.2)]) B)) (F0 m 33 ls [])) :
    ∀ (n : Nat), ∀ (v1 : Int32) (v2 : Int32) (v3 : Int32) (v4 : Int32) (hearing_question : Int32) (hearing_leaves : Int32) (hearing_left : Nat → Int32), f_X1_seekQuestion_43 k33 tc_wordCount tc_personCount now_words tc_kinds tc_close n v1 v2 v3 v4 hearing_question hearing_leaves hearing_left = some z → ∀ (H : Heap) (locs : List Loc) (ls : Array Slot), va_P (rf_D E) vwCl (cX E a P (rf_upL I [(10, hearing_question), (11, hearing_leaves)]) J (rf_upL A [(9, hearing_left)]) B) H → va_S A0 s.heap H locs → lv_has ls 6 [(0, .ref (a 5)), (1, .int v1), (2, .int v2), (3, .int v3), (4, .int v4)] → W p l e ({ frames := 7, cells := 0, slots := 0, locals := 224 }) s m args below meth c H locs 0 0 (rf_QV below args s E A0 (cX E a P (rf_upL I [(10, z.1), (11, z.2.1)]) J (rf_upL A [(9, z.2.2)]) B)) (F0 m 43 ls []) := by
  have hx := hC.1
  have hb := hC.2.1
  intro n
  induction n with
  | zero =>
    intro v1 v2 v3 v4 hearing_question hearing_leaves hearing_left hf
    have hf : (none : Option (Int32 × Int32 × (Nat → Int32))) = some z := hf
    cases hf
  | succ n ih =>
    intro v1 v2 v3 v4 hearing_question hearing_leaves hearing_left hf H locs ls hP hS hl
    rw [f_X1_seekQuestion_43] at hf
    refine lv_iload hx hb dX1_seekQuestion_43 (lv_at hl 4 rfl) ?_
    refine lv_iload_n hx hb dX1_seekQuestion_45 rfl (lv_at hl 2 rfl) ?_
    refine lv_icmp_ge (tgt := 100) hx hb dX1_seekQuestion_46 (by decide) (fun c_46 => ?_) (fun c_46 => ?_)
    · have hf := rf_it c_46 hf
      refine lv_iinc (v := v3 + 1) (lv' := [(3, .int (v3 + 1)), (0, .ref (a 5)), (1, .int v1), (2, .int v2), (4, .int v4)]) hx hb dX1_seekQuestion_100 hl (k := 3) rfl rfl (by decide) rfl (fun ls hl => ?_)
      refine lv_goto (tgt := 33) hx hb dX1_seekQuestion_103 (by decide) ?_
      exact hk33 v1 v2 (v3 + 1) hearing_question hearing_leaves hearing_left hf _ _ _ hP hS (lv_sub hl [1, 2, 3, 0] rfl)
    have hf := rf_ie c_46 hf
    refine lv_aload_n hx hb dX1_seekQuestion_49 rfl (lv_at hl 0 rfl) ?_
    refine lv_iload_n hx hb dX1_seekQuestion_50 rfl (lv_at hl 3 rfl) ?_
    refine lv_iload hx hb dX1_seekQuestion_51 (lv_at hl 4 rfl) ?_
    refine lv_iload_n hx hb dX1_seekQuestion_53 rfl (lv_at hl 1 rfl) ?_
    obtain ⟨z54, hz54, hf⟩ := rf_bd hf
    refine rf_vi (q0 := 5) (ci := 1) hC (c_X1_mostLeft l E a P (rf_upL I [(10, hearing_question), (11, hearing_leaves)]) J (rf_upL A [(9, hearing_left)]) B tc_wordCount now_words tc_kinds tc_close hearing_left v3 v4 v1 hp2 e_tc_wordCount e_now_words e_tc_kinds e_tc_close rfl hz54) kV_X1_mostLeft tw_1055 ⟨Nat.le_of_ble_eq_true rfl, Nat.le_of_ble_eq_true rfl⟩ rfl rfl rfl rfl rfl hP (rf_DX hD) hS rfl hl.1 (rest := []) rfl (Nat.le_of_ble_eq_true rfl) dX1_seekQuestion_54 (fun H locs hP hS => ?_)
    rw [rf_cat (f := A) (l := [(9, hearing_left)]) (lc := [(9, z54.2)]) (l' := [(9, z54.2)]) rfl] at hP
    refine lv_istore (lv' := [(5, .int z54.1), (0, .ref (a 5)), (1, .int v1), (2, .int v2), (3, .int v3), (4, .int v4)]) hx hb dX1_seekQuestion_57 hl (by decide) rfl (fun ls hl => ?_)
    refine lv_aload_n hx hb dX1_seekQuestion_59 rfl (lv_at hl 1 rfl) ?_
    refine gX_hearing_leaves hC hP tw_259 (v := hearing_leaves) rfl dX1_seekQuestion_60 ?_
    refine lv_bipush (v := (-2)) hx hb dX1_seekQuestion_63 (by decide) ?_
    refine lv_icmp_eq (tgt := 77) hx hb dX1_seekQuestion_65 (by decide) (fun c_65 => ?_) (fun c_65 => ?_)
    · have hf := rf_it c_65 hf
      exact w_X1_seekQuestion_77 hC hD hp2 e_tc_wordCount e_tc_personCount e_now_words e_tc_kinds e_tc_close hk33 ih v1 v2 v3 v4 z54.1 hearing_question hearing_leaves z54.2 hf _ _ _ hP hS (lv_sub hl [1, 2, 3, 4, 5, 0] rfl)
    have hf := rf_ie c_65 hf
    refine lv_iload hx hb dX1_seekQuestion_68 (lv_at hl 0 rfl) ?_
    refine lv_aload_n hx hb dX1_seekQuestion_70 rfl (lv_at hl 1 rfl) ?_
    refine gX_hearing_leaves hC hP tw_259 (v := hearing_leaves) rfl dX1_seekQuestion_71 ?_
    refine lv_icmp_ge (tgt := 94) hx hb dX1_seekQuestion_74 (by decide) (fun c_74 => ?_) (fun c_74 => ?_)
    · have hf := rf_it c_74 hf
      exact w_X1_seekQuestion_94 hC hD hp2 e_tc_wordCount e_tc_personCount e_now_words e_tc_kinds e_tc_close hk33 ih v1 v2 v3 v4 hearing_question hearing_leaves z54.2 hf _ _ _ hP hS (lv_sub hl [1, 2, 3, 4, 5] rfl)
    have hf := rf_ie c_74 hf
    exact w_X1_seekQuestion_77 hC hD hp2 e_tc_wordCount e_tc_personCount e_now_words e_tc_kinds e_tc_close hk33 ih v1 v2 v3 v4 z54.1 hearing_question hearing_leaves z54.2 hf _ _ _ hP hS (lv_sub hl [1, 2, 3, 4, 5, 0] rfl)
set_option maxHeartbeats 4000000 in
set_option maxRecDepth 100000 in
theorem w_X1_seekQuestion_33 {l : Launch} {p : Program} {e : Env} {s : State} {m : MethodId} {args : Array Value} {below : List Frame} {meth : Method} {c : Code} {A0 : Nat → Prop} {E : rf_E} {a P : Nat → Nat} {I : Nat → Int32} {J : Nat → Int64} {A : Nat → Nat → Int32} {B : Nat → Nat → Int64} {tc_wordCount : Int32} {tc_personCount : Int32} {now_words : Nat → Int32} {tc_kinds : Nat → Int32} {tc_close : Nat → Int32} {z : Int32 × Int32 × (Nat → Int32)} (hC : rf_C p E s m args meth c cX1_seekQuestion 6 RX1 (none) A0) (hD : va_D A0 (cX E a P I J A B)) (hp2 : P 2 = a 10) (e_tc_wordCount : I 23 = tc_wordCount) (e_tc_personCount : I 24 = tc_personCount) (e_now_words : A 1 = now_words) (e_tc_kinds : A 14 = tc_kinds) (e_tc_close : A 22 = tc_close) :
    ∀ (n : Nat), ∀ (v1 : Int32) (v2 : Int32) (v3 : Int32) (hearing_question : Int32) (hearing_leaves : Int32) (hearing_left : Nat → Int32), f_X1_seekQuestion_33 tc_wordCount tc_personCount now_words tc_kinds tc_close n v1 v2 v3 hearing_question hearing_leaves hearing_left = some z → ∀ (H : Heap) (locs : List Loc) (ls : Array Slot), va_P (rf_D E) vwCl (cX E a P (rf_upL I [(10, hearing_question), (11, hearing_leaves)]) J (rf_upL A [(9, hearing_left)]) B) H → va_S A0 s.heap H locs → lv_has ls 6 [(0, .ref (a 5)), (1, .int v1), (2, .int v2), (3, .int v3)] → W p l e ({ frames := 7, cells := 0, slots := 0, locals := 224 }) s m args below meth c H locs 0 0 (rf_QV below args s E A0 (cX E a P (rf_upL I [(10, z.1), (11, z.2.1)]) J (rf_upL A [(9, z.2.2)]) B)) (F0 m 33 ls []) := by
  have hx := hC.1
  have hb := hC.2.1
  intro n
  induction n with
  | zero =>
    intro v1 v2 v3 hearing_question hearing_leaves hearing_left hf
    have hf : (none : Option (Int32 × Int32 × (Nat → Int32))) = some z := hf
    cases hf
  | succ n ih =>
    intro v1 v2 v3 hearing_question hearing_leaves hearing_left hf H locs ls hP hS hl
    rw [f_X1_seekQuestion_33] at hf
    refine lv_iload_n hx hb dX1_seekQuestion_33 rfl (lv_at hl 3 rfl) ?_
    refine lv_iload_n hx hb dX1_seekQuestion_34 rfl (lv_at hl 2 rfl) ?_
    refine lv_icmp_ge (tgt := 106) hx hb dX1_seekQuestion_35 (by decide) (fun c_35 => ?_) (fun c_35 => ?_)
    · have hf := rf_it c_35 hf
      obtain rfl := Option.some.inj hf
      exact rf_retv hC hP hS rfl dX1_seekQuestion_106
    have hf := rf_ie c_35 hf
    refine lv_iload_n hx hb dX1_seekQuestion_38 rfl (lv_at hl 3 rfl) ?_
    refine lv_iconst (v := 1) hx hb dX1_seekQuestion_39 (by decide) ?_
    refine lv_iadd hx hb dX1_seekQuestion_40 ?_
    refine lv_istore (lv' := [(4, .int (v3 + 1)), (0, .ref (a 5)), (1, .int v1), (2, .int v2), (3, .int v3)]) hx hb dX1_seekQuestion_41 hl (by decide) rfl (fun ls hl => ?_)
    exact w_X1_seekQuestion_43 hC hD hp2 e_tc_wordCount e_tc_personCount e_now_words e_tc_kinds e_tc_close ih rf_fu v1 v2 v3 (v3 + 1) hearing_question hearing_leaves hearing_left hf _ _ _ hP hS (lv_sub hl [1, 2, 3, 4, 0] rfl)
set_option maxHeartbeats 4000000 in
set_option maxRecDepth 100000 in
theorem w_X1_seekQuestion_30 {l : Launch} {p : Program} {e : Env} {s : State} {m : MethodId} {args : Array Value} {below : List Frame} {meth : Method} {c : Code} {A0 : Nat → Prop} {E : rf_E} {a P : Nat → Nat} {I : Nat → Int32} {J : Nat → Int64} {A : Nat → Nat → Int32} {B : Nat → Nat → Int64} {tc_wordCount : Int32} {tc_personCount : Int32} {now_words : Nat → Int32} {tc_kinds : Nat → Int32} {tc_close : Nat → Int32} {z : Int32 × Int32 × (Nat → Int32)} (hC : rf_C p E s m args meth c cX1_seekQuestion 6 RX1 (none) A0) (hD : va_D A0 (cX E a P I J A B)) (hp2 : P 2 = a 10) (e_tc_wordCount : I 23 = tc_wordCount) (e_tc_personCount : I 24 = tc_personCount) (e_now_words : A 1 = now_words) (e_tc_kinds : A 14 = tc_kinds) (e_tc_close : A 22 = tc_close) :
    ∀ (v1 : Int32) (s0 : Int32) (hearing_question : Int32) (hearing_leaves : Int32) (hearing_left : Nat → Int32), f_X1_seekQuestion_30 tc_wordCount tc_personCount now_words tc_kinds tc_close v1 s0 hearing_question hearing_leaves hearing_left = some z → ∀ (H : Heap) (locs : List Loc) (ls : Array Slot), va_P (rf_D E) vwCl (cX E a P (rf_upL I [(10, hearing_question), (11, hearing_leaves)]) J (rf_upL A [(9, hearing_left)]) B) H → va_S A0 s.heap H locs → lv_has ls 6 [(0, .ref (a 5)), (1, .int v1)] → W p l e ({ frames := 7, cells := 0, slots := 0, locals := 224 }) s m args below meth c H locs 0 0 (rf_QV below args s E A0 (cX E a P (rf_upL I [(10, z.1), (11, z.2.1)]) J (rf_upL A [(9, z.2.2)]) B)) (F0 m 30 ls [.int s0]) := by
  have hx := hC.1
  have hb := hC.2.1
  intro v1 s0 hearing_question hearing_leaves hearing_left hf H locs ls hP hS hl
  unfold f_X1_seekQuestion_30 at hf
  refine lv_istore_n (lv' := [(2, .int s0), (0, .ref (a 5)), (1, .int v1)]) hx hb dX1_seekQuestion_30 rfl hl (by decide) rfl (fun ls hl => ?_)
  refine lv_iconst (v := 0) hx hb dX1_seekQuestion_31 (by decide) ?_
  refine lv_istore_n (lv' := [(3, .int 0), (2, .int s0), (0, .ref (a 5)), (1, .int v1)]) hx hb dX1_seekQuestion_32 rfl hl (by decide) rfl (fun ls hl => ?_)
  exact w_X1_seekQuestion_33 hC hD hp2 e_tc_wordCount e_tc_personCount e_now_words e_tc_kinds e_tc_close rf_fu v1 s0 0 hearing_question hearing_leaves hearing_left hf _ _ _ hP hS (lv_sub hl [2, 3, 1, 0] rfl)
set_option maxHeartbeats 4000000 in
set_option maxRecDepth 100000 in
theorem c_X1_seekQuestion (l : Launch) (E : rf_E) (a P : Nat → Nat) (I : Nat → Int32) (J : Nat → Int64) (A : Nat → Nat → Int32) (B : Nat → Nat → Int64) (tc_wordCount : Int32) (tc_personCount : Int32) (now_words : Nat → Int32) (tc_kinds : Nat → Int32) (tc_close : Nat → Int32) (hearing_question : Int32) (hearing_leaves : Int32) (hearing_left : Nat → Int32) (v1 : Int32) {z : Int32 × Int32 × (Nat → Int32)} (hp2 : P 2 = a 10) (e_tc_wordCount : I 23 = tc_wordCount) (e_tc_personCount : I 24 = tc_personCount) (e_now_words : A 1 = now_words) (e_tc_kinds : A 14 = tc_kinds) (e_tc_close : A 22 = tc_close) (e_hearing_question : I 10 = hearing_question) (e_hearing_leaves : I 11 = hearing_leaves) (e_hearing_left : A 9 = hearing_left) (hf : f_X1_seekQuestion tc_wordCount tc_personCount now_words tc_kinds tc_close hearing_question hearing_leaves hearing_left v1 = some z) : rf_MV l yX1_seekQuestion cX1_seekQuestion 6 ({ frames := 7, cells := 0, slots := 0, locals := 224 }) E [.ref (a 5), .int v1] (cX E a P I J A B) (cX E a P (rf_upL I [(10, z.1), (11, z.2.1)]) J (rf_upL A [(9, z.2.2)]) B) := by
  unfold f_X1_seekQuestion at hf
  refine rf_ofV (by decide) (Nat.le_of_ble_eq_true rfl) ?_
  intro p e s m below meth c A0 ls hC hD hP hS hl
  have hC : rf_C p E s m _ meth c cX1_seekQuestion 6 RX1 (none) A0 := hC
  have hx := hC.1
  have hb := hC.2.1
  have hl : lv_has ls 6 [(0, .ref (a 5)), (1, .int v1)] := hl
  have hP : va_P (rf_D E) vwCl (cX E a P (rf_upL I [(10, hearing_question), (11, hearing_leaves)]) J (rf_upL A [(9, hearing_left)]) B) s.heap := by
    rw [rf_self (f := I) [(10, hearing_question), (11, hearing_leaves)] (rf_fa1 e_hearing_question (rf_fa1 e_hearing_leaves rf_fa0))]
    rw [rf_self (f := A) [(9, hearing_left)] (rf_fa1 e_hearing_left rf_fa0)]
    exact hP
  refine lv_aload_n hx hb dX1_seekQuestion_0 rfl (lv_at hl 0 rfl) ?_
  refine lv_bipush (v := (-2)) hx hb dX1_seekQuestion_1 (by decide) ?_
  refine pX_hearing_question hC hD hP hS tw_257 dX1_seekQuestion_3 (rf_upL I [(10, (-2)), (11, hearing_leaves)]) (rf_put rfl) (fun H locs hP hS => ?_)
  refine lv_aload_n hx hb dX1_seekQuestion_6 rfl (lv_at hl 0 rfl) ?_
  refine lv_bipush (v := (-2)) hx hb dX1_seekQuestion_7 (by decide) ?_
  refine pX_hearing_leaves hC hD hP hS tw_259 dX1_seekQuestion_9 (rf_upL I [(10, (-2)), (11, (-2))]) (rf_put rfl) (fun H locs hP hS => ?_)
  refine lv_iload_n hx hb dX1_seekQuestion_12 rfl (lv_at hl 1 rfl) ?_
  refine lv_if_ne (tgt := 20) hx hb dX1_seekQuestion_13 (by decide) (fun c_13 => ?_) (fun c_13 => ?_)
  · have hf := rf_ie c_13 hf
    refine lv_aload_n hx hb dX1_seekQuestion_20 rfl (lv_at hl 0 rfl) ?_
    refine gX_hearing_rhymes hC hP tw_255 dX1_seekQuestion_21 ?_
    refine gX_rhymes_tale hC hP tw_195 (v := a 10) hp2 dX1_seekQuestion_24 ?_
    refine gX_tc_personCount hC hP tw_133 (v := tc_personCount) e_tc_personCount dX1_seekQuestion_27 ?_
    exact w_X1_seekQuestion_30 hC hD hp2 e_tc_wordCount e_tc_personCount e_now_words e_tc_kinds e_tc_close v1 tc_personCount (-2) (-2) hearing_left hf _ _ _ hP hS (lv_sub hl [0, 1] rfl)
  have hf := rf_it c_13 hf
  refine lv_iconst (v := 0) hx hb dX1_seekQuestion_16 (by decide) ?_
  refine lv_goto (tgt := 30) hx hb dX1_seekQuestion_17 (by decide) ?_
  exact w_X1_seekQuestion_30 hC hD hp2 e_tc_wordCount e_tc_personCount e_now_words e_tc_kinds e_tc_close v1 0 (-2) (-2) hearing_left hf _ _ _ hP hS (lv_sub hl [0, 1] rfl)
set_option maxHeartbeats 4000000 in
set_option maxRecDepth 100000 in
theorem c_X10_ask (l : Launch) (E : rf_E) (a P : Nat → Nat) (I : Nat → Int32) (J : Nat → Int64) (A : Nat → Nat → Int32) (B : Nat → Nat → Int64) (tc_wordCount : Int32) (tc_personCount : Int32) (tc_gotCount : Int32) (now_words : Nat → Int32) (tc_kinds : Nat → Int32) (tc_gotFirst : Nat → Int32) (tc_gotSecond : Nat → Int32) (tc_gotDegree : Nat → Int32) (tc_close : Nat → Int32) (x_lastTrouble : Int32) (hearing_question : Int32) (hearing_leaves : Int32) (hearing_left : Nat → Int32) {z : Int32 × Int32 × Int32 × Int32 × (Nat → Int32)} (hp0 : P 0 = a 10) (hp2 : P 2 = a 10) (e_tc_wordCount : I 23 = tc_wordCount) (e_tc_personCount : I 24 = tc_personCount) (e_tc_gotCount : I 27 = tc_gotCount) (e_now_words : A 1 = now_words) (e_tc_kinds : A 14 = tc_kinds) (e_tc_gotFirst : A 19 = tc_gotFirst) (e_tc_gotSecond : A 20 = tc_gotSecond) (e_tc_gotDegree : A 21 = tc_gotDegree) (e_tc_close : A 22 = tc_close) (e_x_lastTrouble : I 3 = x_lastTrouble) (e_hearing_question : I 10 = hearing_question) (e_hearing_leaves : I 11 = hearing_leaves) (e_hearing_left : A 9 = hearing_left) (hf : f_X10_ask tc_wordCount tc_personCount tc_gotCount now_words tc_kinds tc_gotFirst tc_gotSecond tc_gotDegree tc_close x_lastTrouble hearing_question hearing_leaves hearing_left = some z) : rf_MI l yX10_ask cX10_ask 1 (some .int) ({ frames := 8, cells := 0, slots := 0, locals := 249 }) E [.ref (a 0)] (cX E a P I J A B) z.1 (cX E a P (rf_upL I [(3, z.2.1), (10, z.2.2.1), (11, z.2.2.2.1)]) J (rf_upL A [(9, z.2.2.2.2)]) B) := by
  unfold f_X10_ask at hf
  refine rf_ofI (by decide) (Nat.le_of_ble_eq_true rfl) ?_
  intro p e s m below meth c A0 ls hC hD hP hS hl
  have hC : rf_C p E s m _ meth c cX10_ask 1 RX10 (some .int) A0 := hC
  have hx := hC.1
  have hb := hC.2.1
  have hl : lv_has ls 1 [(0, .ref (a 0))] := hl
  have hP : va_P (rf_D E) vwCl (cX E a P (rf_upL I [(3, x_lastTrouble), (10, hearing_question), (11, hearing_leaves)]) J (rf_upL A [(9, hearing_left)]) B) s.heap := by
    rw [rf_self (f := I) [(3, x_lastTrouble), (10, hearing_question), (11, hearing_leaves)] (rf_fa1 e_x_lastTrouble (rf_fa1 e_hearing_question (rf_fa1 e_hearing_leaves rf_fa0)))]
    rw [rf_self (f := A) [(9, hearing_left)] (rf_fa1 e_hearing_left rf_fa0)]
    exact hP
  refine lv_aload_n hx hb dX10_ask_0 rfl (lv_at hl 0 rfl) ?_
  refine lv_aload_n hx hb dX10_ask_1 rfl (lv_at hl 0 rfl) ?_
  obtain ⟨z2, hz2, hf⟩ := rf_bd hf
  refine rf_vi (q0 := 0) (ci := 10) hC (c_X10_hasFerry l E a P (rf_upL I [(3, x_lastTrouble), (10, hearing_question), (11, hearing_leaves)]) J (rf_upL A [(9, hearing_left)]) B tc_personCount hp0 e_tc_personCount hz2) kV_X10_hasFerry tw_762 ⟨Nat.le_of_ble_eq_true rfl, Nat.le_of_ble_eq_true rfl⟩ rfl rfl rfl rfl rfl hP (rf_DX hD) hS rfl hl.1 (rest := [.ref (a 0)]) rfl (Nat.le_of_ble_eq_true rfl) dX10_ask_2 (fun H locs hP hS => ?_)
  refine lv_iconst (v := 1) hx hb dX10_ask_5 (by decide) ?_
  obtain ⟨z6, hz6, hf⟩ := rf_bd hf
  refine rf_vi (q0 := 0) (ci := 10) hC (c_X10_refused l E a P (rf_upL I [(3, x_lastTrouble), (10, hearing_question), (11, hearing_leaves)]) J (rf_upL A [(9, hearing_left)]) B x_lastTrouble z2 1 rfl hz6) kV_X10_refused tw_455 ⟨Nat.le_of_ble_eq_true rfl, Nat.le_of_ble_eq_true rfl⟩ rfl rfl rfl rfl rfl hP (rf_DX hD) hS rfl hl.1 (rest := []) rfl (Nat.le_of_ble_eq_true rfl) dX10_ask_6 (fun H locs hP hS => ?_)
  rw [rf_cat (f := I) (l := [(3, x_lastTrouble), (10, hearing_question), (11, hearing_leaves)]) (lc := [(3, z6.2)]) (l' := [(3, z6.2), (10, hearing_question), (11, hearing_leaves)]) rfl] at hP
  refine lv_if_eq (tgt := 14) hx hb dX10_ask_9 (by decide) (fun c_9 => ?_) (fun c_9 => ?_)
  · have hf := rf_it c_9 hf
    refine lv_aload_n hx hb dX10_ask_14 rfl (lv_at hl 0 rfl) ?_
    refine gX_x_hearing hC hP tw_396 dX10_ask_15 ?_
    refine lv_aload_n hx hb dX10_ask_18 rfl (lv_at hl 0 rfl) ?_
    refine gX_x_hearing hC hP tw_396 dX10_ask_19 ?_
    obtain ⟨z22, hz22, hf⟩ := rf_bd hf
    refine rf_vi (q0 := 5) (ci := 1) hC (c_X1_ears l E a P (rf_upL I [(3, z6.2), (10, hearing_question), (11, hearing_leaves)]) J (rf_upL A [(9, hearing_left)]) B tc_wordCount tc_gotCount now_words tc_kinds tc_gotFirst tc_gotSecond tc_gotDegree tc_close hp2 e_tc_wordCount e_tc_gotCount e_now_words e_tc_kinds e_tc_gotFirst e_tc_gotSecond e_tc_gotDegree e_tc_close hz22) kV_X1_ears tw_1032 ⟨Nat.le_of_ble_eq_true rfl, Nat.le_of_ble_eq_true rfl⟩ rfl rfl rfl rfl rfl hP (rf_DX hD) hS rfl hl.1 (rest := [.ref (a 5)]) rfl (Nat.le_of_ble_eq_true rfl) dX10_ask_22 (fun H locs hP hS => ?_)
    obtain ⟨z25, hz25, hf⟩ := rf_bd hf
    refine rf_vv (q0 := 5) (ci := 1) hC (c_X1_seekQuestion l E a P (rf_upL I [(3, z6.2), (10, hearing_question), (11, hearing_leaves)]) J (rf_upL A [(9, hearing_left)]) B tc_wordCount tc_personCount now_words tc_kinds tc_close hearing_question hearing_leaves hearing_left z22 hp2 e_tc_wordCount e_tc_personCount e_now_words e_tc_kinds e_tc_close rfl rfl rfl hz25) kV_X1_seekQuestion tw_1051 ⟨Nat.le_of_ble_eq_true rfl, Nat.le_of_ble_eq_true rfl⟩ rfl rfl rfl rfl rfl hP (rf_DX hD) hS rfl hl.1 (rest := []) rfl (Nat.le_of_ble_eq_true rfl) dX10_ask_25 (fun H locs hP hS => ?_)
    rw [rf_cat (f := I) (l := [(3, z6.2), (10, hearing_question), (11, hearing_leaves)]) (lc := [(10, z25.1), (11, z25.2.1)]) (l' := [(3, z6.2), (10, z25.1), (11, z25.2.1)]) rfl] at hP
    rw [rf_cat (f := A) (l := [(9, hearing_left)]) (lc := [(9, z25.2.2)]) (l' := [(9, z25.2.2)]) rfl] at hP
    refine lv_aload_n hx hb dX10_ask_28 rfl (lv_at hl 0 rfl) ?_
    refine gX_x_hearing hC hP tw_396 dX10_ask_29 ?_
    refine gX_hearing_question hC hP tw_258 (v := z25.1) rfl dX10_ask_32 ?_
    obtain rfl := Option.some.inj hf
    exact rf_reti hC hP hS rfl rfl dX10_ask_35
  have hf := rf_ie c_9 hf
  refine lv_iconst (v := (-1)) hx hb dX10_ask_12 (by decide) ?_
  obtain rfl := Option.some.inj hf
  exact rf_reti hC hP hS rfl rfl dX10_ask_13
set_option maxHeartbeats 4000000 in
set_option maxRecDepth 100000 in
theorem c_X10_askLeaves (l : Launch) (E : rf_E) (a P : Nat → Nat) (I : Nat → Int32) (J : Nat → Int64) (A : Nat → Nat → Int32) (B : Nat → Nat → Int64) (tc_wordCount : Int32) (tc_personCount : Int32) (tc_gotCount : Int32) (now_words : Nat → Int32) (tc_kinds : Nat → Int32) (tc_gotFirst : Nat → Int32) (tc_gotSecond : Nat → Int32) (tc_gotDegree : Nat → Int32) (tc_close : Nat → Int32) (x_lastTrouble : Int32) (hearing_question : Int32) (hearing_leaves : Int32) (hearing_left : Nat → Int32) {z : Int32 × Int32 × Int32 × Int32 × (Nat → Int32)} (hp0 : P 0 = a 10) (hp2 : P 2 = a 10) (e_tc_wordCount : I 23 = tc_wordCount) (e_tc_personCount : I 24 = tc_personCount) (e_tc_gotCount : I 27 = tc_gotCount) (e_now_words : A 1 = now_words) (e_tc_kinds : A 14 = tc_kinds) (e_tc_gotFirst : A 19 = tc_gotFirst) (e_tc_gotSecond : A 20 = tc_gotSecond) (e_tc_gotDegree : A 21 = tc_gotDegree) (e_tc_close : A 22 = tc_close) (e_x_lastTrouble : I 3 = x_lastTrouble) (e_hearing_question : I 10 = hearing_question) (e_hearing_leaves : I 11 = hearing_leaves) (e_hearing_left : A 9 = hearing_left) (hf : f_X10_askLeaves tc_wordCount tc_personCount tc_gotCount now_words tc_kinds tc_gotFirst tc_gotSecond tc_gotDegree tc_close x_lastTrouble hearing_question hearing_leaves hearing_left = some z) : rf_MI l yX10_askLeaves cX10_askLeaves 1 (some .int) ({ frames := 8, cells := 0, slots := 0, locals := 249 }) E [.ref (a 0)] (cX E a P I J A B) z.1 (cX E a P (rf_upL I [(3, z.2.1), (10, z.2.2.1), (11, z.2.2.2.1)]) J (rf_upL A [(9, z.2.2.2.2)]) B) := by
  unfold f_X10_askLeaves at hf
  refine rf_ofI (by decide) (Nat.le_of_ble_eq_true rfl) ?_
  intro p e s m below meth c A0 ls hC hD hP hS hl
  have hC : rf_C p E s m _ meth c cX10_askLeaves 1 RX10 (some .int) A0 := hC
  have hx := hC.1
  have hb := hC.2.1
  have hl : lv_has ls 1 [(0, .ref (a 0))] := hl
  have hP : va_P (rf_D E) vwCl (cX E a P (rf_upL I [(3, x_lastTrouble), (10, hearing_question), (11, hearing_leaves)]) J (rf_upL A [(9, hearing_left)]) B) s.heap := by
    rw [rf_self (f := I) [(3, x_lastTrouble), (10, hearing_question), (11, hearing_leaves)] (rf_fa1 e_x_lastTrouble (rf_fa1 e_hearing_question (rf_fa1 e_hearing_leaves rf_fa0)))]
    rw [rf_self (f := A) [(9, hearing_left)] (rf_fa1 e_hearing_left rf_fa0)]
    exact hP
  refine lv_aload_n hx hb dX10_askLeaves_0 rfl (lv_at hl 0 rfl) ?_
  refine lv_aload_n hx hb dX10_askLeaves_1 rfl (lv_at hl 0 rfl) ?_
  obtain ⟨z2, hz2, hf⟩ := rf_bd hf
  refine rf_vi (q0 := 0) (ci := 10) hC (c_X10_hasFerry l E a P (rf_upL I [(3, x_lastTrouble), (10, hearing_question), (11, hearing_leaves)]) J (rf_upL A [(9, hearing_left)]) B tc_personCount hp0 e_tc_personCount hz2) kV_X10_hasFerry tw_762 ⟨Nat.le_of_ble_eq_true rfl, Nat.le_of_ble_eq_true rfl⟩ rfl rfl rfl rfl rfl hP (rf_DX hD) hS rfl hl.1 (rest := [.ref (a 0)]) rfl (Nat.le_of_ble_eq_true rfl) dX10_askLeaves_2 (fun H locs hP hS => ?_)
  refine lv_iconst (v := 1) hx hb dX10_askLeaves_5 (by decide) ?_
  obtain ⟨z6, hz6, hf⟩ := rf_bd hf
  refine rf_vi (q0 := 0) (ci := 10) hC (c_X10_refused l E a P (rf_upL I [(3, x_lastTrouble), (10, hearing_question), (11, hearing_leaves)]) J (rf_upL A [(9, hearing_left)]) B x_lastTrouble z2 1 rfl hz6) kV_X10_refused tw_455 ⟨Nat.le_of_ble_eq_true rfl, Nat.le_of_ble_eq_true rfl⟩ rfl rfl rfl rfl rfl hP (rf_DX hD) hS rfl hl.1 (rest := []) rfl (Nat.le_of_ble_eq_true rfl) dX10_askLeaves_6 (fun H locs hP hS => ?_)
  rw [rf_cat (f := I) (l := [(3, x_lastTrouble), (10, hearing_question), (11, hearing_leaves)]) (lc := [(3, z6.2)]) (l' := [(3, z6.2), (10, hearing_question), (11, hearing_leaves)]) rfl] at hP
  refine lv_if_eq (tgt := 14) hx hb dX10_askLeaves_9 (by decide) (fun c_9 => ?_) (fun c_9 => ?_)
  · have hf := rf_it c_9 hf
    refine lv_aload_n hx hb dX10_askLeaves_14 rfl (lv_at hl 0 rfl) ?_
    refine gX_x_hearing hC hP tw_396 dX10_askLeaves_15 ?_
    refine lv_aload_n hx hb dX10_askLeaves_18 rfl (lv_at hl 0 rfl) ?_
    refine gX_x_hearing hC hP tw_396 dX10_askLeaves_19 ?_
    obtain ⟨z22, hz22, hf⟩ := rf_bd hf
    refine rf_vi (q0 := 5) (ci := 1) hC (c_X1_ears l E a P (rf_upL I [(3, z6.2), (10, hearing_question), (11, hearing_leaves)]) J (rf_upL A [(9, hearing_left)]) B tc_wordCount tc_gotCount now_words tc_kinds tc_gotFirst tc_gotSecond tc_gotDegree tc_close hp2 e_tc_wordCount e_tc_gotCount e_now_words e_tc_kinds e_tc_gotFirst e_tc_gotSecond e_tc_gotDegree e_tc_close hz22) kV_X1_ears tw_1032 ⟨Nat.le_of_ble_eq_true rfl, Nat.le_of_ble_eq_true rfl⟩ rfl rfl rfl rfl rfl hP (rf_DX hD) hS rfl hl.1 (rest := [.ref (a 5)]) rfl (Nat.le_of_ble_eq_true rfl) dX10_askLeaves_22 (fun H locs hP hS => ?_)
    obtain ⟨z25, hz25, hf⟩ := rf_bd hf
    refine rf_vv (q0 := 5) (ci := 1) hC (c_X1_seekQuestion l E a P (rf_upL I [(3, z6.2), (10, hearing_question), (11, hearing_leaves)]) J (rf_upL A [(9, hearing_left)]) B tc_wordCount tc_personCount now_words tc_kinds tc_close hearing_question hearing_leaves hearing_left z22 hp2 e_tc_wordCount e_tc_personCount e_now_words e_tc_kinds e_tc_close rfl rfl rfl hz25) kV_X1_seekQuestion tw_1051 ⟨Nat.le_of_ble_eq_true rfl, Nat.le_of_ble_eq_true rfl⟩ rfl rfl rfl rfl rfl hP (rf_DX hD) hS rfl hl.1 (rest := []) rfl (Nat.le_of_ble_eq_true rfl) dX10_askLeaves_25 (fun H locs hP hS => ?_)
    rw [rf_cat (f := I) (l := [(3, z6.2), (10, hearing_question), (11, hearing_leaves)]) (lc := [(10, z25.1), (11, z25.2.1)]) (l' := [(3, z6.2), (10, z25.1), (11, z25.2.1)]) rfl] at hP
    rw [rf_cat (f := A) (l := [(9, hearing_left)]) (lc := [(9, z25.2.2)]) (l' := [(9, z25.2.2)]) rfl] at hP
    refine lv_aload_n hx hb dX10_askLeaves_28 rfl (lv_at hl 0 rfl) ?_
    refine gX_x_hearing hC hP tw_396 dX10_askLeaves_29 ?_
    refine gX_hearing_leaves hC hP tw_260 (v := z25.2.1) rfl dX10_askLeaves_32 ?_
    obtain rfl := Option.some.inj hf
    exact rf_reti hC hP hS rfl rfl dX10_askLeaves_35
  have hf := rf_ie c_9 hf
  refine lv_iconst (v := (-1)) hx hb dX10_askLeaves_12 (by decide) ?_
  obtain rfl := Option.some.inj hf
  exact rf_reti hC hP hS rfl rfl dX10_askLeaves_13
set_option maxHeartbeats 4000000 in
set_option maxRecDepth 100000 in
theorem w_X10_isPrice_14 {l : Launch} {p : Program} {e : Env} {s : State} {m : MethodId} {args : Array Value} {below : List Frame} {meth : Method} {c : Code} {A0 : Nat → Prop} {E : rf_E} {a P : Nat → Nat} {I : Nat → Int32} {J : Nat → Int64} {A : Nat → Nat → Int32} {B : Nat → Nat → Int64} {z : Int32} (hC : rf_C p E s m args meth c cX10_isPrice 2 RX10 (some .boolean) A0) (hD : va_D A0 (cX E a P I J A B)) :
    ∀ (_ : Unit), f_X10_isPrice_14 = some z → ∀ (H : Heap) (locs : List Loc) (ls : Array Slot), va_P (rf_D E) vwCl (cX E a P I J A B) H → va_S A0 s.heap H locs → lv_has ls 2 [] → W p l e ({ frames := 0, cells := 0, slots := 0, locals := 0 }) s m args below meth c H locs 0 0 (rf_QI below args s E A0 z (cX E a P I J A B)) (F0 m 14 ls []) := by
  have hx := hC.1
  have hb := hC.2.1
  intro _ hf H locs ls hP hS hl
  unfold f_X10_isPrice_14 at hf
  refine lv_iconst (v := 0) hx hb dX10_isPrice_14 (by decide) ?_
  obtain rfl := Option.some.inj hf
  exact rf_retz hC hP hS (by decide) rfl rfl dX10_isPrice_15
set_option maxHeartbeats 4000000 in
set_option maxRecDepth 100000 in
theorem c_X10_isPrice (l : Launch) (E : rf_E) (a P : Nat → Nat) (I : Nat → Int32) (J : Nat → Int64) (A : Nat → Nat → Int32) (B : Nat → Nat → Int64) (v1 : Int32) {z : Int32} (hf : f_X10_isPrice v1 = some z) : rf_MI l yX10_isPrice cX10_isPrice 2 (some .boolean) ({ frames := 0, cells := 0, slots := 0, locals := 0 }) E [.ref (a 0), .int v1] (cX E a P I J A B) z (cX E a P I J A B) := by
  unfold f_X10_isPrice at hf
  refine rf_ofI (by decide) (Nat.le_of_ble_eq_true rfl) ?_
  intro p e s m below meth c A0 ls hC hD hP hS hl
  have hC : rf_C p E s m _ meth c cX10_isPrice 2 RX10 (some .boolean) A0 := hC
  have hx := hC.1
  have hb := hC.2.1
  have hl : lv_has ls 2 [(0, .ref (a 0)), (1, .int v1)] := hl
  refine lv_iload_n hx hb dX10_isPrice_0 rfl (lv_at hl 1 rfl) ?_
  refine lv_if_lt (tgt := 14) hx hb dX10_isPrice_1 (by decide) (fun c_1 => ?_) (fun c_1 => ?_)
  · have hf := rf_it c_1 hf
    exact w_X10_isPrice_14 hC hD () hf _ _ _ hP hS (lv_sub hl [] rfl)
  have hf := rf_ie c_1 hf
  refine lv_iload_n hx hb dX10_isPrice_4 rfl (lv_at hl 1 rfl) ?_
  refine lv_bipush (v := 10) hx hb dX10_isPrice_5 (by decide) ?_
  refine lv_icmp_ge (tgt := 14) hx hb dX10_isPrice_7 (by decide) (fun c_7 => ?_) (fun c_7 => ?_)
  · have hf := rf_it c_7 hf
    exact w_X10_isPrice_14 hC hD () hf _ _ _ hP hS (lv_sub hl [] rfl)
  have hf := rf_ie c_7 hf
  refine lv_iconst (v := 1) hx hb dX10_isPrice_10 (by decide) ?_
  refine lv_goto (tgt := 15) hx hb dX10_isPrice_11 (by decide) ?_
  obtain rfl := Option.some.inj hf
  exact rf_retz hC hP hS (by decide) rfl rfl dX10_isPrice_15
set_option maxHeartbeats 4000000 in
set_option maxRecDepth 100000 in
theorem w_X10_isTwoWords_25 {l : Launch} {p : Program} {e : Env} {s : State} {m : MethodId} {args : Array Value} {below : List Frame} {meth : Method} {c : Code} {A0 : Nat → Prop} {E : rf_E} {a P : Nat → Nat} {I : Nat → Int32} {J : Nat → Int64} {A : Nat → Nat → Int32} {B : Nat → Nat → Int64} {tc_wordCount : Int32} {z : Int32} (hC : rf_C p E s m args meth c cX10_isTwoWords 3 RX10 (some .boolean) A0) (hD : va_D A0 (cX E a P I J A B)) (hp0 : P 0 = a 10) (e_tc_wordCount : I 23 = tc_wordCount) :
    ∀ (_ : Unit), f_X10_isTwoWords_25 tc_wordCount = some z → ∀ (H : Heap) (locs : List Loc) (ls : Array Slot), va_P (rf_D E) vwCl (cX E a P I J A B) H → va_S A0 s.heap H locs → lv_has ls 3 [] → W p l e ({ frames := 1, cells := 0, slots := 0, locals := 21 }) s m args below meth c H locs 0 0 (rf_QI below args s E A0 z (cX E a P I J A B)) (F0 m 25 ls []) := by
  have hx := hC.1
  have hb := hC.2.1
  intro _ hf H locs ls hP hS hl
  unfold f_X10_isTwoWords_25 at hf
  refine lv_iconst (v := 0) hx hb dX10_isTwoWords_25 (by decide) ?_
  obtain rfl := Option.some.inj hf
  exact rf_retz hC hP hS (by decide) rfl rfl dX10_isTwoWords_26
set_option maxHeartbeats 4000000 in
set_option maxRecDepth 100000 in
theorem c_X10_isTwoWords (l : Launch) (E : rf_E) (a P : Nat → Nat) (I : Nat → Int32) (J : Nat → Int64) (A : Nat → Nat → Int32) (B : Nat → Nat → Int64) (tc_wordCount : Int32) (v1 : Int32) (v2 : Int32) {z : Int32} (hp0 : P 0 = a 10) (e_tc_wordCount : I 23 = tc_wordCount) (hf : f_X10_isTwoWords tc_wordCount v1 v2 = some z) : rf_MI l yX10_isTwoWords cX10_isTwoWords 3 (some .boolean) ({ frames := 1, cells := 0, slots := 0, locals := 21 }) E [.ref (a 0), .int v1, .int v2] (cX E a P I J A B) z (cX E a P I J A B) := by
  unfold f_X10_isTwoWords at hf
  refine rf_ofI (by decide) (Nat.le_of_ble_eq_true rfl) ?_
  intro p e s m below meth c A0 ls hC hD hP hS hl
  have hC : rf_C p E s m _ meth c cX10_isTwoWords 3 RX10 (some .boolean) A0 := hC
  have hx := hC.1
  have hb := hC.2.1
  have hl : lv_has ls 3 [(0, .ref (a 0)), (1, .int v1), (2, .int v2)] := hl
  refine lv_aload_n hx hb dX10_isTwoWords_0 rfl (lv_at hl 0 rfl) ?_
  refine lv_iload_n hx hb dX10_isTwoWords_1 rfl (lv_at hl 1 rfl) ?_
  obtain ⟨z2, hz2, hf⟩ := rf_bd hf
  refine rf_vi (q0 := 0) (ci := 10) hC (c_X10_isWord l E a P I J A B tc_wordCount v1 hp0 e_tc_wordCount hz2) kV_X10_isWord tw_721 ⟨Nat.le_of_ble_eq_true rfl, Nat.le_of_ble_eq_true rfl⟩ rfl rfl rfl rfl rfl hP (rf_DX hD) hS rfl hl.1 (rest := []) rfl (Nat.le_of_ble_eq_true rfl) dX10_isTwoWords_2 (fun H locs hP hS => ?_)
  refine lv_if_eq (tgt := 25) hx hb dX10_isTwoWords_5 (by decide) (fun c_5 => ?_) (fun c_5 => ?_)
  · have hf := rf_it c_5 hf
    exact w_X10_isTwoWords_25 hC hD hp0 e_tc_wordCount () hf _ _ _ hP hS (lv_sub hl [] rfl)
  have hf := rf_ie c_5 hf
  refine lv_aload_n hx hb dX10_isTwoWords_8 rfl (lv_at hl 0 rfl) ?_
  refine lv_iload_n hx hb dX10_isTwoWords_9 rfl (lv_at hl 2 rfl) ?_
  obtain ⟨z10, hz10, hf⟩ := rf_bd hf
  refine rf_vi (q0 := 0) (ci := 10) hC (c_X10_isWord l E a P I J A B tc_wordCount v2 hp0 e_tc_wordCount hz10) kV_X10_isWord tw_721 ⟨Nat.le_of_ble_eq_true rfl, Nat.le_of_ble_eq_true rfl⟩ rfl rfl rfl rfl rfl hP (rf_DX hD) hS rfl hl.1 (rest := []) rfl (Nat.le_of_ble_eq_true rfl) dX10_isTwoWords_10 (fun H locs hP hS => ?_)
  refine lv_if_eq (tgt := 25) hx hb dX10_isTwoWords_13 (by decide) (fun c_13 => ?_) (fun c_13 => ?_)
  · have hf := rf_it c_13 hf
    exact w_X10_isTwoWords_25 hC hD hp0 e_tc_wordCount () hf _ _ _ hP hS (lv_sub hl [] rfl)
  have hf := rf_ie c_13 hf
  refine lv_iload_n hx hb dX10_isTwoWords_16 rfl (lv_at hl 1 rfl) ?_
  refine lv_iload_n hx hb dX10_isTwoWords_17 rfl (lv_at hl 2 rfl) ?_
  refine lv_icmp_eq (tgt := 25) hx hb dX10_isTwoWords_18 (by decide) (fun c_18 => ?_) (fun c_18 => ?_)
  · have hf := rf_it c_18 hf
    exact w_X10_isTwoWords_25 hC hD hp0 e_tc_wordCount () hf _ _ _ hP hS (lv_sub hl [] rfl)
  have hf := rf_ie c_18 hf
  refine lv_iconst (v := 1) hx hb dX10_isTwoWords_21 (by decide) ?_
  refine lv_goto (tgt := 26) hx hb dX10_isTwoWords_22 (by decide) ?_
  obtain rfl := Option.some.inj hf
  exact rf_retz hC hP hS (by decide) rfl rfl dX10_isTwoWords_26
set_option maxHeartbeats 4000000 in
set_option maxRecDepth 100000 in
theorem w_X7_countBuyers_188 {l : Launch} {p : Program} {e : Env} {s : State} {m : MethodId} {args : Array Value} {below : List Frame} {meth : Method} {c : Code} {A0 : Nat → Prop} {E : rf_E} {a P : Nat → Nat} {I : Nat → Int32} {J : Nat → Int64} {A : Nat → Nat → Int32} {B : Nat → Nat → Int64} {now_everybody : Int32} {now_far : Int32} {tc_wordCount : Int32} {tc_personCount : Int32} {now_words : Nat → Int32} {tc_kinds : Nat → Int32} {tc_close : Nat → Int32} {z : Int32 × Int32 × Int32} (hC : rf_C p E s m args meth c cX7_countBuyers 9 RX7 (none) A0) (hD : va_D A0 (cX E a P I J A B)) (hp2 : P 2 = a 10) (e_now_everybody : I 6 = now_everybody) (e_now_far : I 7 = now_far) (e_tc_wordCount : I 23 = tc_wordCount) (e_tc_personCount : I 24 = tc_personCount) (e_now_words : A 1 = now_words) (e_tc_kinds : A 14 = tc_kinds) (e_tc_close : A 22 = tc_close) {k43 : Int32 → Int32 → Int32 → Int32 → Int32 → Int32 → Int32 → Int32 → Int32 → Option (Int32 × Int32 × Int32)} (hk43 : ∀ (v1 : Int32) (v2 : Int32) (v3 : Int32) (v4 : Int32) (v5 : Int32) (v6 : Int32) (sellers_firstsOwn : Int32) (sellers_secondsOwn : Int32) (sellers_shared : Int32), k43 v1 v2 v3 v4 v5 v6 sellers_firstsOwn sellers_secondsOwn sellers_shared = some z → ∀ (H : Heap) (locs : List Loc) (ls : Array Slot), va_P (rf_D E) vwCl (cX E a P (rf_upL I [(12, sellers_firstsOwn), (13, sellers_secondsOwn), (14, sellers_shared)]) J A B) H → va_S A0 s.heap H locs → lv_has ls 9 [(0, .ref (a 6)), (1, .int v1), (2, .int v2), (3, .int v3), (4, .int v4), (5, .int v5), (6, .int v6)] → W p l e ({ frames := 5, cells := 0, slots := 0, locals := 125 }) s m args below meth c H locs 0 0 (rf_QV below args s E A0 (cX E a P (rf_upL I [(12, z.1), (13, z.2.1), (14, z.2.2)]) J A B)) (F0 m 43 ls [])) :
    ∀ (v1 : Int32) (v2 : Int32) (v3 : Int32) (v4 : Int32) (v5 : Int32) (v6 : Int32) (sellers_firstsOwn : Int32) (sellers_secondsOwn : Int32) (sellers_shared : Int32), f_X7_countBuyers_188 k43 now_everybody now_far tc_wordCount tc_personCount now_words tc_kinds tc_close v1 v2 v3 v4 v5 v6 sellers_firstsOwn sellers_secondsOwn sellers_shared = some z → ∀ (H : Heap) (locs : List Loc) (ls : Array Slot), va_P (rf_D E) vwCl (cX E a P (rf_upL I [(12, sellers_firstsOwn), (13, sellers_secondsOwn), (14, sellers_shared)]) J A B) H → va_S A0 s.heap H locs → lv_has ls 9 [(0, .ref (a 6)), (1, .int v1), (2, .int v2), (3, .int v3), (4, .int v4), (5, .int v5), (6, .int v6)] → W p l e ({ frames := 5, cells := 0, slots := 0, locals := 125 }) s m args below meth c H locs 0 0 (rf_QV below args s E A0 (cX E a P (rf_upL I [(12, z.1), (13, z.2.1), (14, z.2.2)]) J A B)) (F0 m 188 ls []) := by
  have hx := hC.1
  have hb := hC.2.1
  intro v1 v2 v3 v4 v5 v6 sellers_firstsOwn sellers_secondsOwn sellers_shared hf H locs ls hP hS hl
  unfold f_X7_countBuyers_188 at hf
  refine lv_iinc (v := v6 + 1) (lv' := [(6, .int (v6 + 1)), (0, .ref (a 6)), (1, .int v1), (2, .int v2), (3, .int v3), (4, .int v4), (5, .int v5)]) hx hb dX7_countBuyers_188 hl (k := 6) rfl rfl (by decide) rfl (fun ls hl => ?_)
  refine lv_goto (tgt := 43) hx hb dX7_countBuyers_191 (by decide) ?_
  exact hk43 v1 v2 v3 v4 v5 (v6 + 1) sellers_firstsOwn sellers_secondsOwn sellers_shared hf _ _ _ hP hS (lv_sub hl [1, 2, 3, 4, 5, 6, 0] rfl)
set_option maxHeartbeats 4000000 in
set_option maxRecDepth 100000 in
theorem w_X7_countBuyers_184 {l : Launch} {p : Program} {e : Env} {s : State} {m : MethodId} {args : Array Value} {below : List Frame} {meth : Method} {c : Code} {A0 : Nat → Prop} {E : rf_E} {a P : Nat → Nat} {I : Nat → Int32} {J : Nat → Int64} {A : Nat → Nat → Int32} {B : Nat → Nat → Int64} {now_everybody : Int32} {now_far : Int32} {tc_wordCount : Int32} {tc_personCount : Int32} {now_words : Nat → Int32} {tc_kinds : Nat → Int32} {tc_close : Nat → Int32} {z : Int32 × Int32 × Int32} (hC : rf_C p E s m args meth c cX7_countBuyers 9 RX7 (none) A0) (hD : va_D A0 (cX E a P I J A B)) (hp2 : P 2 = a 10) (e_now_everybody : I 6 = now_everybody) (e_now_far : I 7 = now_far) (e_tc_wordCount : I 23 = tc_wordCount) (e_tc_personCount : I 24 = tc_personCount) (e_now_words : A 1 = now_words) (e_tc_kinds : A 14 = tc_kinds) (e_tc_close : A 22 = tc_close) {k43 : Int32 → Int32 → Int32 → Int32 → Int32 → Int32 → Int32 → Int32 → Int32 → Option (Int32 × Int32 × Int32)} (hk43 : ∀ (v1 : Int32) (v2 : Int32) (v3 : Int32) (v4 : Int32) (v5 : Int32) (v6 : Int32) (sellers_firstsOwn : Int32) (sellers_secondsOwn : Int32) (sellers_shared : Int32), k43 v1 v2 v3 v4 v5 v6 sellers_firstsOwn sellers_secondsOwn sellers_shared = some z → ∀ (H : Heap) (locs : List Loc) (ls : Array Slot), va_P (rf_D E) vwCl (cX E a P (rf_upL I [(12, sellers_firstsOwn), (13, sellers_secondsOwn), (14, sellers_shared)]) J A B) H → va_S A0 s.heap H locs → lv_has ls 9 [(0, .ref (a 6)), (1, .int v1), (2, .int v2), (3, .int v3), (4, .int v4), (5, .int v5), (6, .int v6)] → W p l e ({ frames := 5, cells := 0, slots := 0, locals := 125 }) s m args below meth c H locs 0 0 (rf_QV below args s E A0 (cX E a P (rf_upL I [(12, z.1), (13, z.2.1), (14, z.2.2)]) J A B)) (F0 m 43 ls [])) :
    ∀ (v1 : Int32) (v2 : Int32) (v3 : Int32) (v4 : Int32) (v5 : Int32) (v6 : Int32) (s1 : Int32) (s2 : Int32) (sellers_firstsOwn : Int32) (sellers_secondsOwn : Int32) (sellers_shared : Int32), f_X7_countBuyers_184 k43 now_everybody now_far tc_wordCount tc_personCount now_words tc_kinds tc_close v1 v2 v3 v4 v5 v6 s1 s2 sellers_firstsOwn sellers_secondsOwn sellers_shared = some z → ∀ (H : Heap) (locs : List Loc) (ls : Array Slot), va_P (rf_D E) vwCl (cX E a P (rf_upL I [(12, sellers_firstsOwn), (13, sellers_secondsOwn), (14, sellers_shared)]) J A B) H → va_S A0 s.heap H locs → lv_has ls 9 [(0, .ref (a 6)), (1, .int v1), (2, .int v2), (3, .int v3), (4, .int v4), (5, .int v5), (6, .int v6)] → W p l e ({ frames := 5, cells := 0, slots := 0, locals := 125 }) s m args below meth c H locs 0 0 (rf_QV below args s E A0 (cX E a P (rf_upL I [(12, z.1), (13, z.2.1), (14, z.2.2)]) J A B)) (F0 m 184 ls [.int s2, .int s1, .ref (a 6)]) := by
  have hx := hC.1
  have hb := hC.2.1
  intro v1 v2 v3 v4 v5 v6 s1 s2 sellers_firstsOwn sellers_secondsOwn sellers_shared hf H locs ls hP hS hl
  unfold f_X7_countBuyers_184 at hf
  refine lv_iadd hx hb dX7_countBuyers_184 ?_
  refine pX_sellers_shared hC hD hP hS tw_279 dX7_countBuyers_185 (rf_upL I [(12, sellers_firstsOwn), (13, sellers_secondsOwn), (14, s1 + s2)]) (rf_put rfl) (fun H locs hP hS => ?_)
  exact w_X7_countBuyers_188 hC hD hp2 e_now_everybody e_now_far e_tc_wordCount e_tc_personCount e_now_words e_tc_kinds e_tc_close hk43 v1 v2 v3 v4 v5 v6 sellers_firstsOwn sellers_secondsOwn (s1 + s2) hf _ _ _ hP hS (lv_sub hl [0, 1, 2, 3, 4, 5, 6] rfl)
set_option maxHeartbeats 4000000 in
set_option maxRecDepth 100000 in
theorem w_X7_countBuyers_183 {l : Launch} {p : Program} {e : Env} {s : State} {m : MethodId} {args : Array Value} {below : List Frame} {meth : Method} {c : Code} {A0 : Nat → Prop} {E : rf_E} {a P : Nat → Nat} {I : Nat → Int32} {J : Nat → Int64} {A : Nat → Nat → Int32} {B : Nat → Nat → Int64} {now_everybody : Int32} {now_far : Int32} {tc_wordCount : Int32} {tc_personCount : Int32} {now_words : Nat → Int32} {tc_kinds : Nat → Int32} {tc_close : Nat → Int32} {z : Int32 × Int32 × Int32} (hC : rf_C p E s m args meth c cX7_countBuyers 9 RX7 (none) A0) (hD : va_D A0 (cX E a P I J A B)) (hp2 : P 2 = a 10) (e_now_everybody : I 6 = now_everybody) (e_now_far : I 7 = now_far) (e_tc_wordCount : I 23 = tc_wordCount) (e_tc_personCount : I 24 = tc_personCount) (e_now_words : A 1 = now_words) (e_tc_kinds : A 14 = tc_kinds) (e_tc_close : A 22 = tc_close) {k43 : Int32 → Int32 → Int32 → Int32 → Int32 → Int32 → Int32 → Int32 → Int32 → Option (Int32 × Int32 × Int32)} (hk43 : ∀ (v1 : Int32) (v2 : Int32) (v3 : Int32) (v4 : Int32) (v5 : Int32) (v6 : Int32) (sellers_firstsOwn : Int32) (sellers_secondsOwn : Int32) (sellers_shared : Int32), k43 v1 v2 v3 v4 v5 v6 sellers_firstsOwn sellers_secondsOwn sellers_shared = some z → ∀ (H : Heap) (locs : List Loc) (ls : Array Slot), va_P (rf_D E) vwCl (cX E a P (rf_upL I [(12, sellers_firstsOwn), (13, sellers_secondsOwn), (14, sellers_shared)]) J A B) H → va_S A0 s.heap H locs → lv_has ls 9 [(0, .ref (a 6)), (1, .int v1), (2, .int v2), (3, .int v3), (4, .int v4), (5, .int v5), (6, .int v6)] → W p l e ({ frames := 5, cells := 0, slots := 0, locals := 125 }) s m args below meth c H locs 0 0 (rf_QV below args s E A0 (cX E a P (rf_upL I [(12, z.1), (13, z.2.1), (14, z.2.2)]) J A B)) (F0 m 43 ls [])) :
    ∀ (v1 : Int32) (v2 : Int32) (v3 : Int32) (v4 : Int32) (v5 : Int32) (v6 : Int32) (s1 : Int32) (sellers_firstsOwn : Int32) (sellers_secondsOwn : Int32) (sellers_shared : Int32), f_X7_countBuyers_183 k43 now_everybody now_far tc_wordCount tc_personCount now_words tc_kinds tc_close v1 v2 v3 v4 v5 v6 s1 sellers_firstsOwn sellers_secondsOwn sellers_shared = some z → ∀ (H : Heap) (locs : List Loc) (ls : Array Slot), va_P (rf_D E) vwCl (cX E a P (rf_upL I [(12, sellers_firstsOwn), (13, sellers_secondsOwn), (14, sellers_shared)]) J A B) H → va_S A0 s.heap H locs → lv_has ls 9 [(0, .ref (a 6)), (1, .int v1), (2, .int v2), (3, .int v3), (4, .int v4), (5, .int v5), (6, .int v6)] → W p l e ({ frames := 5, cells := 0, slots := 0, locals := 125 }) s m args below meth c H locs 0 0 (rf_QV below args s E A0 (cX E a P (rf_upL I [(12, z.1), (13, z.2.1), (14, z.2.2)]) J A B)) (F0 m 183 ls [.int s1, .ref (a 6)]) := by
  have hx := hC.1
  have hb := hC.2.1
  intro v1 v2 v3 v4 v5 v6 s1 sellers_firstsOwn sellers_secondsOwn sellers_shared hf H locs ls hP hS hl
  unfold f_X7_countBuyers_183 at hf
  refine lv_iconst (v := 0) hx hb dX7_countBuyers_183 (by decide) ?_
  exact w_X7_countBuyers_184 hC hD hp2 e_now_everybody e_now_far e_tc_wordCount e_tc_personCount e_now_words e_tc_kinds e_tc_close hk43 v1 v2 v3 v4 v5 v6 s1 0 sellers_firstsOwn sellers_secondsOwn sellers_shared hf _ _ _ hP hS (lv_sub hl [0, 1, 2, 3, 4, 5, 6] rfl)
set_option maxHeartbeats 4000000 in
set_option maxRecDepth 100000 in
theorem w_X7_countBuyers_160 {l : Launch} {p : Program} {e : Env} {s : State} {m : MethodId} {args : Array Value} {below : List Frame} {meth : Method} {c : Code} {A0 : Nat → Prop} {E : rf_E} {a P : Nat → Nat} {I : Nat → Int32} {J : Nat → Int64} {A : Nat → Nat → Int32} {B : Nat → Nat → Int64} {now_everybody : Int32} {now_far : Int32} {tc_wordCount : Int32} {tc_personCount : Int32} {now_words : Nat → Int32} {tc_kinds : Nat → Int32} {tc_close : Nat → Int32} {z : Int32 × Int32 × Int32} (hC : rf_C p E s m args meth c cX7_countBuyers 9 RX7 (none) A0) (hD : va_D A0 (cX E a P I J A B)) (hp2 : P 2 = a 10) (e_now_everybody : I 6 = now_everybody) (e_now_far : I 7 = now_far) (e_tc_wordCount : I 23 = tc_wordCount) (e_tc_personCount : I 24 = tc_personCount) (e_now_words : A 1 = now_words) (e_tc_kinds : A 14 = tc_kinds) (e_tc_close : A 22 = tc_close) {k43 : Int32 → Int32 → Int32 → Int32 → Int32 → Int32 → Int32 → Int32 → Int32 → Option (Int32 × Int32 × Int32)} (hk43 : ∀ (v1 : Int32) (v2 : Int32) (v3 : Int32) (v4 : Int32) (v5 : Int32) (v6 : Int32) (sellers_firstsOwn : Int32) (sellers_secondsOwn : Int32) (sellers_shared : Int32), k43 v1 v2 v3 v4 v5 v6 sellers_firstsOwn sellers_secondsOwn sellers_shared = some z → ∀ (H : Heap) (locs : List Loc) (ls : Array Slot), va_P (rf_D E) vwCl (cX E a P (rf_upL I [(12, sellers_firstsOwn), (13, sellers_secondsOwn), (14, sellers_shared)]) J A B) H → va_S A0 s.heap H locs → lv_has ls 9 [(0, .ref (a 6)), (1, .int v1), (2, .int v2), (3, .int v3), (4, .int v4), (5, .int v5), (6, .int v6)] → W p l e ({ frames := 5, cells := 0, slots := 0, locals := 125 }) s m args below meth c H locs 0 0 (rf_QV below args s E A0 (cX E a P (rf_upL I [(12, z.1), (13, z.2.1), (14, z.2.2)]) J A B)) (F0 m 43 ls [])) :
    ∀ (v1 : Int32) (v2 : Int32) (v3 : Int32) (v4 : Int32) (v5 : Int32) (v6 : Int32) (v7 : Int32) (v8 : Int32) (s1 : Int32) (s2 : Int32) (sellers_firstsOwn : Int32) (sellers_secondsOwn : Int32) (sellers_shared : Int32), f_X7_countBuyers_160 k43 now_everybody now_far tc_wordCount tc_personCount now_words tc_kinds tc_close v1 v2 v3 v4 v5 v6 v7 v8 s1 s2 sellers_firstsOwn sellers_secondsOwn sellers_shared = some z → ∀ (H : Heap) (locs : List Loc) (ls : Array Slot), va_P (rf_D E) vwCl (cX E a P (rf_upL I [(12, sellers_firstsOwn), (13, sellers_secondsOwn), (14, sellers_shared)]) J A B) H → va_S A0 s.heap H locs → lv_has ls 9 [(0, .ref (a 6)), (1, .int v1), (2, .int v2), (3, .int v3), (4, .int v4), (5, .int v5), (6, .int v6), (7, .int v7), (8, .int v8)] → W p l e ({ frames := 5, cells := 0, slots := 0, locals := 125 }) s m args below meth c H locs 0 0 (rf_QV below args s E A0 (cX E a P (rf_upL I [(12, z.1), (13, z.2.1), (14, z.2.2)]) J A B)) (F0 m 160 ls [.int s2, .int s1, .ref (a 6)]) := by
  have hx := hC.1
  have hb := hC.2.1
  intro v1 v2 v3 v4 v5 v6 v7 v8 s1 s2 sellers_firstsOwn sellers_secondsOwn sellers_shared hf H locs ls hP hS hl
  unfold f_X7_countBuyers_160 at hf
  refine lv_iadd hx hb dX7_countBuyers_160 ?_
  refine pX_sellers_secondsOwn hC hD hP hS tw_278 dX7_countBuyers_161 (rf_upL I [(12, sellers_firstsOwn), (13, s1 + s2), (14, sellers_shared)]) (rf_put rfl) (fun H locs hP hS => ?_)
  refine lv_aload_n hx hb dX7_countBuyers_164 rfl (lv_at hl 0 rfl) ?_
  refine lv_dup hx hb dX7_countBuyers_165 rfl ?_
  refine gX_sellers_shared hC hP tw_279 (v := sellers_shared) rfl dX7_countBuyers_166 ?_
  refine lv_iload hx hb dX7_countBuyers_169 (lv_at hl 7 rfl) ?_
  refine lv_if_eq (tgt := 183) hx hb dX7_countBuyers_171 (by decide) (fun c_171 => ?_) (fun c_171 => ?_)
  · have hf := rf_it c_171 hf
    exact w_X7_countBuyers_183 hC hD hp2 e_now_everybody e_now_far e_tc_wordCount e_tc_personCount e_now_words e_tc_kinds e_tc_close hk43 v1 v2 v3 v4 v5 v6 sellers_shared sellers_firstsOwn (s1 + s2) sellers_shared hf _ _ _ hP hS (lv_sub hl [0, 1, 2, 3, 4, 5, 6] rfl)
  have hf := rf_ie c_171 hf
  refine lv_iload hx hb dX7_countBuyers_174 (lv_at hl 8 rfl) ?_
  refine lv_if_eq (tgt := 183) hx hb dX7_countBuyers_176 (by decide) (fun c_176 => ?_) (fun c_176 => ?_)
  · have hf := rf_it c_176 hf
    exact w_X7_countBuyers_183 hC hD hp2 e_now_everybody e_now_far e_tc_wordCount e_tc_personCount e_now_words e_tc_kinds e_tc_close hk43 v1 v2 v3 v4 v5 v6 sellers_shared sellers_firstsOwn (s1 + s2) sellers_shared hf _ _ _ hP hS (lv_sub hl [0, 1, 2, 3, 4, 5, 6] rfl)
  have hf := rf_ie c_176 hf
  refine lv_iconst (v := 1) hx hb dX7_countBuyers_179 (by decide) ?_
  refine lv_goto (tgt := 184) hx hb dX7_countBuyers_180 (by decide) ?_
  exact w_X7_countBuyers_184 hC hD hp2 e_now_everybody e_now_far e_tc_wordCount e_tc_personCount e_now_words e_tc_kinds e_tc_close hk43 v1 v2 v3 v4 v5 v6 sellers_shared 1 sellers_firstsOwn (s1 + s2) sellers_shared hf _ _ _ hP hS (lv_sub hl [0, 1, 2, 3, 4, 5, 6] rfl)
set_option maxHeartbeats 4000000 in
set_option maxRecDepth 100000 in
theorem w_X7_countBuyers_159 {l : Launch} {p : Program} {e : Env} {s : State} {m : MethodId} {args : Array Value} {below : List Frame} {meth : Method} {c : Code} {A0 : Nat → Prop} {E : rf_E} {a P : Nat → Nat} {I : Nat → Int32} {J : Nat → Int64} {A : Nat → Nat → Int32} {B : Nat → Nat → Int64} {now_everybody : Int32} {now_far : Int32} {tc_wordCount : Int32} {tc_personCount : Int32} {now_words : Nat → Int32} {tc_kinds : Nat → Int32} {tc_close : Nat → Int32} {z : Int32 × Int32 × Int32} (hC : rf_C p E s m args meth c cX7_countBuyers 9 RX7 (none) A0) (hD : va_D A0 (cX E a P I J A B)) (hp2 : P 2 = a 10) (e_now_everybody : I 6 = now_everybody) (e_now_far : I 7 = now_far) (e_tc_wordCount : I 23 = tc_wordCount) (e_tc_personCount : I 24 = tc_personCount) (e_now_words : A 1 = now_words) (e_tc_kinds : A 14 = tc_kinds) (e_tc_close : A 22 = tc_close) {k43 : Int32 → Int32 → Int32 → Int32 → Int32 → Int32 → Int32 → Int32 → Int32 → Option (Int32 × Int32 × Int32)} (hk43 : ∀ (v1 : Int32) (v2 : Int32) (v3 : Int32) (v4 : Int32) (v5 : Int32) (v6 : Int32) (sellers_firstsOwn : Int32) (sellers_secondsOwn : Int32) (sellers_shared : Int32), k43 v1 v2 v3 v4 v5 v6 sellers_firstsOwn sellers_secondsOwn sellers_shared = some z → ∀ (H : Heap) (locs : List Loc) (ls : Array Slot), va_P (rf_D E) vwCl (cX E a P (rf_upL I [(12, sellers_firstsOwn), (13, sellers_secondsOwn), (14, sellers_shared)]) J A B) H → va_S A0 s.heap H locs → lv_has ls 9 [(0, .ref (a 6)), (1, .int v1), (2, .int v2), (3, .int v3), (4, .int v4), (5, .int v5), (6, .int v6)] → W p l e ({ frames := 5, cells := 0, slots := 0, locals := 125 }) s m args below meth c H locs 0 0 (rf_QV below args s E A0 (cX E a P (rf_upL I [(12, z.1), (13, z.2.1), (14, z.2.2)]) J A B)) (F0 m 43 ls [])) :
    ∀ (v1 : Int32) (v2 : Int32) (v3 : Int32) (v4 : Int32) (v5 : Int32) (v6 : Int32) (v7 : Int32) (v8 : Int32) (s1 : Int32) (sellers_firstsOwn : Int32) (sellers_secondsOwn : Int32) (sellers_shared : Int32), f_X7_countBuyers_159 k43 now_everybody now_far tc_wordCount tc_personCount now_words tc_kinds tc_close v1 v2 v3 v4 v5 v6 v7 v8 s1 sellers_firstsOwn sellers_secondsOwn sellers_shared = some z → ∀ (H : Heap) (locs : List Loc) (ls : Array Slot), va_P (rf_D E) vwCl (cX E a P (rf_upL I [(12, sellers_firstsOwn), (13, sellers_secondsOwn), (14, sellers_shared)]) J A B) H → va_S A0 s.heap H locs → lv_has ls 9 [(0, .ref (a 6)), (1, .int v1), (2, .int v2), (3, .int v3), (4, .int v4), (5, .int v5), (6, .int v6), (7, .int v7), (8, .int v8)] → W p l e ({ frames := 5, cells := 0, slots := 0, locals := 125 }) s m args below meth c H locs 0 0 (rf_QV below args s E A0 (cX E a P (rf_upL I [(12, z.1), (13, z.2.1), (14, z.2.2)]) J A B)) (F0 m 159 ls [.int s1, .ref (a 6)]) := by
  have hx := hC.1
  have hb := hC.2.1
  intro v1 v2 v3 v4 v5 v6 v7 v8 s1 sellers_firstsOwn sellers_secondsOwn sellers_shared hf H locs ls hP hS hl
  unfold f_X7_countBuyers_159 at hf
  refine lv_iconst (v := 0) hx hb dX7_countBuyers_159 (by decide) ?_
  exact w_X7_countBuyers_160 hC hD hp2 e_now_everybody e_now_far e_tc_wordCount e_tc_personCount e_now_words e_tc_kinds e_tc_close hk43 v1 v2 v3 v4 v5 v6 v7 v8 s1 0 sellers_firstsOwn sellers_secondsOwn sellers_shared hf _ _ _ hP hS (lv_sub hl [0, 1, 2, 3, 4, 5, 6, 7, 8] rfl)
set_option maxHeartbeats 4000000 in
set_option maxRecDepth 100000 in
theorem w_X7_countBuyers_136 {l : Launch} {p : Program} {e : Env} {s : State} {m : MethodId} {args : Array Value} {below : List Frame} {meth : Method} {c : Code} {A0 : Nat → Prop} {E : rf_E} {a P : Nat → Nat} {I : Nat → Int32} {J : Nat → Int64} {A : Nat → Nat → Int32} {B : Nat → Nat → Int64} {now_everybody : Int32} {now_far : Int32} {tc_wordCount : Int32} {tc_personCount : Int32} {now_words : Nat → Int32} {tc_kinds : Nat → Int32} {tc_close : Nat → Int32} {z : Int32 × Int32 × Int32} (hC : rf_C p E s m args meth c cX7_countBuyers 9 RX7 (none) A0) (hD : va_D A0 (cX E a P I J A B)) (hp2 : P 2 = a 10) (e_now_everybody : I 6 = now_everybody) (e_now_far : I 7 = now_far) (e_tc_wordCount : I 23 = tc_wordCount) (e_tc_personCount : I 24 = tc_personCount) (e_now_words : A 1 = now_words) (e_tc_kinds : A 14 = tc_kinds) (e_tc_close : A 22 = tc_close) {k43 : Int32 → Int32 → Int32 → Int32 → Int32 → Int32 → Int32 → Int32 → Int32 → Option (Int32 × Int32 × Int32)} (hk43 : ∀ (v1 : Int32) (v2 : Int32) (v3 : Int32) (v4 : Int32) (v5 : Int32) (v6 : Int32) (sellers_firstsOwn : Int32) (sellers_secondsOwn : Int32) (sellers_shared : Int32), k43 v1 v2 v3 v4 v5 v6 sellers_firstsOwn sellers_secondsOwn sellers_shared = some z → ∀ (H : Heap) (locs : List Loc) (ls : Array Slot), va_P (rf_D E) vwCl (cX E a P (rf_upL I [(12, sellers_firstsOwn), (13, sellers_secondsOwn), (14, sellers_shared)]) J A B) H → va_S A0 s.heap H locs → lv_has ls 9 [(0, .ref (a 6)), (1, .int v1), (2, .int v2), (3, .int v3), (4, .int v4), (5, .int v5), (6, .int v6)] → W p l e ({ frames := 5, cells := 0, slots := 0, locals := 125 }) s m args below meth c H locs 0 0 (rf_QV below args s E A0 (cX E a P (rf_upL I [(12, z.1), (13, z.2.1), (14, z.2.2)]) J A B)) (F0 m 43 ls [])) :
    ∀ (v1 : Int32) (v2 : Int32) (v3 : Int32) (v4 : Int32) (v5 : Int32) (v6 : Int32) (v7 : Int32) (v8 : Int32) (s1 : Int32) (s2 : Int32) (sellers_firstsOwn : Int32) (sellers_secondsOwn : Int32) (sellers_shared : Int32), f_X7_countBuyers_136 k43 now_everybody now_far tc_wordCount tc_personCount now_words tc_kinds tc_close v1 v2 v3 v4 v5 v6 v7 v8 s1 s2 sellers_firstsOwn sellers_secondsOwn sellers_shared = some z → ∀ (H : Heap) (locs : List Loc) (ls : Array Slot), va_P (rf_D E) vwCl (cX E a P (rf_upL I [(12, sellers_firstsOwn), (13, sellers_secondsOwn), (14, sellers_shared)]) J A B) H → va_S A0 s.heap H locs → lv_has ls 9 [(0, .ref (a 6)), (1, .int v1), (2, .int v2), (3, .int v3), (4, .int v4), (5, .int v5), (6, .int v6), (7, .int v7), (8, .int v8)] → W p l e ({ frames := 5, cells := 0, slots := 0, locals := 125 }) s m args below meth c H locs 0 0 (rf_QV below args s E A0 (cX E a P (rf_upL I [(12, z.1), (13, z.2.1), (14, z.2.2)]) J A B)) (F0 m 136 ls [.int s2, .int s1, .ref (a 6)]) := by
  have hx := hC.1
  have hb := hC.2.1
  intro v1 v2 v3 v4 v5 v6 v7 v8 s1 s2 sellers_firstsOwn sellers_secondsOwn sellers_shared hf H locs ls hP hS hl
  unfold f_X7_countBuyers_136 at hf
  refine lv_iadd hx hb dX7_countBuyers_136 ?_
  refine pX_sellers_firstsOwn hC hD hP hS tw_277 dX7_countBuyers_137 (rf_upL I [(12, s1 + s2), (13, sellers_secondsOwn), (14, sellers_shared)]) (rf_put rfl) (fun H locs hP hS => ?_)
  refine lv_aload_n hx hb dX7_countBuyers_140 rfl (lv_at hl 0 rfl) ?_
  refine lv_dup hx hb dX7_countBuyers_141 rfl ?_
  refine gX_sellers_secondsOwn hC hP tw_278 (v := sellers_secondsOwn) rfl dX7_countBuyers_142 ?_
  refine lv_iload hx hb dX7_countBuyers_145 (lv_at hl 8 rfl) ?_
  refine lv_if_eq (tgt := 159) hx hb dX7_countBuyers_147 (by decide) (fun c_147 => ?_) (fun c_147 => ?_)
  · have hf := rf_it c_147 hf
    exact w_X7_countBuyers_159 hC hD hp2 e_now_everybody e_now_far e_tc_wordCount e_tc_personCount e_now_words e_tc_kinds e_tc_close hk43 v1 v2 v3 v4 v5 v6 v7 v8 sellers_secondsOwn (s1 + s2) sellers_secondsOwn sellers_shared hf _ _ _ hP hS (lv_sub hl [0, 1, 2, 3, 4, 5, 6, 7, 8] rfl)
  have hf := rf_ie c_147 hf
  refine lv_iload hx hb dX7_countBuyers_150 (lv_at hl 7 rfl) ?_
  refine lv_if_ne (tgt := 159) hx hb dX7_countBuyers_152 (by decide) (fun c_152 => ?_) (fun c_152 => ?_)
  · have hf := rf_ie c_152 hf
    exact w_X7_countBuyers_159 hC hD hp2 e_now_everybody e_now_far e_tc_wordCount e_tc_personCount e_now_words e_tc_kinds e_tc_close hk43 v1 v2 v3 v4 v5 v6 v7 v8 sellers_secondsOwn (s1 + s2) sellers_secondsOwn sellers_shared hf _ _ _ hP hS (lv_sub hl [0, 1, 2, 3, 4, 5, 6, 7, 8] rfl)
  have hf := rf_it c_152 hf
  refine lv_iconst (v := 1) hx hb dX7_countBuyers_155 (by decide) ?_
  refine lv_goto (tgt := 160) hx hb dX7_countBuyers_156 (by decide) ?_
  exact w_X7_countBuyers_160 hC hD hp2 e_now_everybody e_now_far e_tc_wordCount e_tc_personCount e_now_words e_tc_kinds e_tc_close hk43 v1 v2 v3 v4 v5 v6 v7 v8 sellers_secondsOwn 1 (s1 + s2) sellers_secondsOwn sellers_shared hf _ _ _ hP hS (lv_sub hl [0, 1, 2, 3, 4, 5, 6, 7, 8] rfl)
set_option maxHeartbeats 4000000 in
set_option maxRecDepth 100000 in
theorem w_X7_countBuyers_135 {l : Launch} {p : Program} {e : Env} {s : State} {m : MethodId} {args : Array Value} {below : List Frame} {meth : Method} {c : Code} {A0 : Nat → Prop} {E : rf_E} {a P : Nat → Nat} {I : Nat → Int32} {J : Nat → Int64} {A : Nat → Nat → Int32} {B : Nat → Nat → Int64} {now_everybody : Int32} {now_far : Int32} {tc_wordCount : Int32} {tc_personCount : Int32} {now_words : Nat → Int32} {tc_kinds : Nat → Int32} {tc_close : Nat → Int32} {z : Int32 × Int32 × Int32} (hC : rf_C p E s m args meth c cX7_countBuyers 9 RX7 (none) A0) (hD : va_D A0 (cX E a P I J A B)) (hp2 : P 2 = a 10) (e_now_everybody : I 6 = now_everybody) (e_now_far : I 7 = now_far) (e_tc_wordCount : I 23 = tc_wordCount) (e_tc_personCount : I 24 = tc_personCount) (e_now_words : A 1 = now_words) (e_tc_kinds : A 14 = tc_kinds) (e_tc_close : A 22 = tc_close) {k43 : Int32 → Int32 → Int32 → Int32 → Int32 → Int32 → Int32 → Int32 → Int32 → Option (Int32 × Int32 × Int32)} (hk43 : ∀ (v1 : Int32) (v2 : Int32) (v3 : Int32) (v4 : Int32) (v5 : Int32) (v6 : Int32) (sellers_firstsOwn : Int32) (sellers_secondsOwn : Int32) (sellers_shared : Int32), k43 v1 v2 v3 v4 v5 v6 sellers_firstsOwn sellers_secondsOwn sellers_shared = some z → ∀ (H : Heap) (locs : List Loc) (ls : Array Slot), va_P (rf_D E) vwCl (cX E a P (rf_upL I [(12, sellers_firstsOwn), (13, sellers_secondsOwn), (14, sellers_shared)]) J A B) H → va_S A0 s.heap H locs → lv_has ls 9 [(0, .ref (a 6)), (1, .int v1), (2, .int v2), (3, .int v3), (4, .int v4), (5, .int v5), (6, .int v6)] → W p l e ({ frames := 5, cells := 0, slots := 0, locals := 125 }) s m args below meth c H locs 0 0 (rf_QV below args s E A0 (cX E a P (rf_upL I [(12, z.1), (13, z.2.1), (14, z.2.2)]) J A B)) (F0 m 43 ls [])) :
    ∀ (v1 : Int32) (v2 : Int32) (v3 : Int32) (v4 : Int32) (v5 : Int32) (v6 : Int32) (v7 : Int32) (v8 : Int32) (s1 : Int32) (sellers_firstsOwn : Int32) (sellers_secondsOwn : Int32) (sellers_shared : Int32), f_X7_countBuyers_135 k43 now_everybody now_far tc_wordCount tc_personCount now_words tc_kinds tc_close v1 v2 v3 v4 v5 v6 v7 v8 s1 sellers_firstsOwn sellers_secondsOwn sellers_shared = some z → ∀ (H : Heap) (locs : List Loc) (ls : Array Slot), va_P (rf_D E) vwCl (cX E a P (rf_upL I [(12, sellers_firstsOwn), (13, sellers_secondsOwn), (14, sellers_shared)]) J A B) H → va_S A0 s.heap H locs → lv_has ls 9 [(0, .ref (a 6)), (1, .int v1), (2, .int v2), (3, .int v3), (4, .int v4), (5, .int v5), (6, .int v6), (7, .int v7), (8, .int v8)] → W p l e ({ frames := 5, cells := 0, slots := 0, locals := 125 }) s m args below meth c H locs 0 0 (rf_QV below args s E A0 (cX E a P (rf_upL I [(12, z.1), (13, z.2.1), (14, z.2.2)]) J A B)) (F0 m 135 ls [.int s1, .ref (a 6)]) := by
  have hx := hC.1
  have hb := hC.2.1
  intro v1 v2 v3 v4 v5 v6 v7 v8 s1 sellers_firstsOwn sellers_secondsOwn sellers_shared hf H locs ls hP hS hl
  unfold f_X7_countBuyers_135 at hf
  refine lv_iconst (v := 0) hx hb dX7_countBuyers_135 (by decide) ?_
  exact w_X7_countBuyers_136 hC hD hp2 e_now_everybody e_now_far e_tc_wordCount e_tc_personCount e_now_words e_tc_kinds e_tc_close hk43 v1 v2 v3 v4 v5 v6 v7 v8 s1 0 sellers_firstsOwn sellers_secondsOwn sellers_shared hf _ _ _ hP hS (lv_sub hl [0, 1, 2, 3, 4, 5, 6, 7, 8] rfl)
set_option maxHeartbeats 4000000 in
set_option maxRecDepth 100000 in
theorem w_X7_countBuyers_114 {l : Launch} {p : Program} {e : Env} {s : State} {m : MethodId} {args : Array Value} {below : List Frame} {meth : Method} {c : Code} {A0 : Nat → Prop} {E : rf_E} {a P : Nat → Nat} {I : Nat → Int32} {J : Nat → Int64} {A : Nat → Nat → Int32} {B : Nat → Nat → Int64} {now_everybody : Int32} {now_far : Int32} {tc_wordCount : Int32} {tc_personCount : Int32} {now_words : Nat → Int32} {tc_kinds : Nat → Int32} {tc_close : Nat → Int32} {z : Int32 × Int32 × Int32} (hC : rf_C p E s m args meth c cX7_countBuyers 9 RX7 (none) A0) (hD : va_D A0 (cX E a P I J A B)) (hp2 : P 2 = a 10) (e_now_everybody : I 6 = now_everybody) (e_now_far : I 7 = now_far) (e_tc_wordCount : I 23 = tc_wordCount) (e_tc_personCount : I 24 = tc_personCount) (e_now_words : A 1 = now_words) (e_tc_kinds : A 14 = tc_kinds) (e_tc_close : A 22 = tc_close) {k43 : Int32 → Int32 → Int32 → Int32 → Int32 → Int32 → Int32 → Int32 → Int32 → Option (Int32 × Int32 × Int32)} (hk43 : ∀ (v1 : Int32) (v2 : Int32) (v3 : Int32) (v4 : Int32) (v5 : Int32) (v6 : Int32) (sellers_firstsOwn : Int32) (sellers_secondsOwn : Int32) (sellers_shared : Int32), k43 v1 v2 v3 v4 v5 v6 sellers_firstsOwn sellers_secondsOwn sellers_shared = some z → ∀ (H : Heap) (locs : List Loc) (ls : Array Slot), va_P (rf_D E) vwCl (cX E a P (rf_upL I [(12, sellers_firstsOwn), (13, sellers_secondsOwn), (14, sellers_shared)]) J A B) H → va_S A0 s.heap H locs → lv_has ls 9 [(0, .ref (a 6)), (1, .int v1), (2, .int v2), (3, .int v3), (4, .int v4), (5, .int v5), (6, .int v6)] → W p l e ({ frames := 5, cells := 0, slots := 0, locals := 125 }) s m args below meth c H locs 0 0 (rf_QV below args s E A0 (cX E a P (rf_upL I [(12, z.1), (13, z.2.1), (14, z.2.2)]) J A B)) (F0 m 43 ls [])) :
    ∀ (v1 : Int32) (v2 : Int32) (v3 : Int32) (v4 : Int32) (v5 : Int32) (v6 : Int32) (v7 : Int32) (s0 : Int32) (sellers_firstsOwn : Int32) (sellers_secondsOwn : Int32) (sellers_shared : Int32), f_X7_countBuyers_114 k43 now_everybody now_far tc_wordCount tc_personCount now_words tc_kinds tc_close v1 v2 v3 v4 v5 v6 v7 s0 sellers_firstsOwn sellers_secondsOwn sellers_shared = some z → ∀ (H : Heap) (locs : List Loc) (ls : Array Slot), va_P (rf_D E) vwCl (cX E a P (rf_upL I [(12, sellers_firstsOwn), (13, sellers_secondsOwn), (14, sellers_shared)]) J A B) H → va_S A0 s.heap H locs → lv_has ls 9 [(0, .ref (a 6)), (1, .int v1), (2, .int v2), (3, .int v3), (4, .int v4), (5, .int v5), (6, .int v6), (7, .int v7)] → W p l e ({ frames := 5, cells := 0, slots := 0, locals := 125 }) s m args below meth c H locs 0 0 (rf_QV below args s E A0 (cX E a P (rf_upL I [(12, z.1), (13, z.2.1), (14, z.2.2)]) J A B)) (F0 m 114 ls [.int s0]) := by
  have hx := hC.1
  have hb := hC.2.1
  intro v1 v2 v3 v4 v5 v6 v7 s0 sellers_firstsOwn sellers_secondsOwn sellers_shared hf H locs ls hP hS hl
  unfold f_X7_countBuyers_114 at hf
  refine lv_istore (lv' := [(8, .int s0), (0, .ref (a 6)), (1, .int v1), (2, .int v2), (3, .int v3), (4, .int v4), (5, .int v5), (6, .int v6), (7, .int v7)]) hx hb dX7_countBuyers_114 hl (by decide) rfl (fun ls hl => ?_)
  refine lv_aload_n hx hb dX7_countBuyers_116 rfl (lv_at hl 1 rfl) ?_
  refine lv_dup hx hb dX7_countBuyers_117 rfl ?_
  refine gX_sellers_firstsOwn hC hP tw_277 (v := sellers_firstsOwn) rfl dX7_countBuyers_118 ?_
  refine lv_iload hx hb dX7_countBuyers_121 (lv_at hl 8 rfl) ?_
  refine lv_if_eq (tgt := 135) hx hb dX7_countBuyers_123 (by decide) (fun c_123 => ?_) (fun c_123 => ?_)
  · have hf := rf_it c_123 hf
    exact w_X7_countBuyers_135 hC hD hp2 e_now_everybody e_now_far e_tc_wordCount e_tc_personCount e_now_words e_tc_kinds e_tc_close hk43 v1 v2 v3 v4 v5 v6 v7 s0 sellers_firstsOwn sellers_firstsOwn sellers_secondsOwn sellers_shared hf _ _ _ hP hS (lv_sub hl [1, 2, 3, 4, 5, 6, 7, 8, 0] rfl)
  have hf := rf_ie c_123 hf
  refine lv_iload hx hb dX7_countBuyers_126 (lv_at hl 0 rfl) ?_
  refine lv_if_ne (tgt := 135) hx hb dX7_countBuyers_128 (by decide) (fun c_128 => ?_) (fun c_128 => ?_)
  · have hf := rf_ie c_128 hf
    exact w_X7_countBuyers_135 hC hD hp2 e_now_everybody e_now_far e_tc_wordCount e_tc_personCount e_now_words e_tc_kinds e_tc_close hk43 v1 v2 v3 v4 v5 v6 v7 s0 sellers_firstsOwn sellers_firstsOwn sellers_secondsOwn sellers_shared hf _ _ _ hP hS (lv_sub hl [1, 2, 3, 4, 5, 6, 7, 8, 0] rfl)
  have hf := rf_it c_128 hf
  refine lv_iconst (v := 1) hx hb dX7_countBuyers_131 (by decide) ?_
  refine lv_goto (tgt := 136) hx hb dX7_countBuyers_132 (by decide) ?_
  exact w_X7_countBuyers_136 hC hD hp2 e_now_everybody e_now_far e_tc_wordCount e_tc_personCount e_now_words e_tc_kinds e_tc_close hk43 v1 v2 v3 v4 v5 v6 v7 s0 sellers_firstsOwn 1 sellers_firstsOwn sellers_secondsOwn sellers_shared hf _ _ _ hP hS (lv_sub hl [1, 2, 3, 4, 5, 6, 7, 8, 0] rfl)
set_option maxHeartbeats 4000000 in
set_option maxRecDepth 100000 in
theorem w_X7_countBuyers_90 {l : Launch} {p : Program} {e : Env} {s : State} {m : MethodId} {args : Array Value} {below : List Frame} {meth : Method} {c : Code} {A0 : Nat → Prop} {E : rf_E} {a P : Nat → Nat} {I : Nat → Int32} {J : Nat → Int64} {A : Nat → Nat → Int32} {B : Nat → Nat → Int64} {now_everybody : Int32} {now_far : Int32} {tc_wordCount : Int32} {tc_personCount : Int32} {now_words : Nat → Int32} {tc_kinds : Nat → Int32} {tc_close : Nat → Int32} {z : Int32 × Int32 × Int32} (hC : rf_C p E s m args meth c cX7_countBuyers 9 RX7 (none) A0) (hD : va_D A0 (cX E a P I J A B)) (hp2 : P 2 = a 10) (e_now_everybody : I 6 = now_everybody) (e_now_far : I 7 = now_far) (e_tc_wordCount : I 23 = tc_wordCount) (e_tc_personCount : I 24 = tc_personCount) (e_now_words : A 1 = now_words) (e_tc_kinds : A 14 = tc_kinds) (e_tc_close : A 22 = tc_close) {k43 : Int32 → Int32 → Int32 → Int32 → Int32 → Int32 → Int32 → Int32 → Int32 → Option (Int32 × Int32 × Int32)} (hk43 : ∀ (v1 : Int32) (v2 : Int32) (v3 : Int32) (v4 : Int32) (v5 : Int32) (v6 : Int32) (sellers_firstsOwn : Int32) (sellers_secondsOwn : Int32) (sellers_shared : Int32), k43 v1 v2 v3 v4 v5 v6 sellers_firstsOwn sellers_secondsOwn sellers_shared = some z → ∀ (H : Heap) (locs : List Loc) (ls : Array Slot), va_P (rf_D E) vwCl (cX E a P (rf_upL I [(12, sellers_firstsOwn), (13, sellers_secondsOwn), (14, sellers_shared)]) J A B) H → va_S A0 s.heap H locs → lv_has ls 9 [(0, .ref (a 6)), (1, .int v1), (2, .int v2), (3, .int v3), (4, .int v4), (5, .int v5), (6, .int v6)] → W p l e ({ frames := 5, cells := 0, slots := 0, locals := 125 }) s m args below meth c H locs 0 0 (rf_QV below args s E A0 (cX E a P (rf_upL I [(12, z.1), (13, z.2.1), (14, z.2.2)]) J A B)) (F0 m 43 ls [])) :
    ∀ (v1 : Int32) (v2 : Int32) (v3 : Int32) (v4 : Int32) (v5 : Int32) (v6 : Int32) (s0 : Int32) (sellers_firstsOwn : Int32) (sellers_secondsOwn : Int32) (sellers_shared : Int32), f_X7_countBuyers_90 k43 now_everybody now_far tc_wordCount tc_personCount now_words tc_kinds tc_close v1 v2 v3 v4 v5 v6 s0 sellers_firstsOwn sellers_secondsOwn sellers_shared = some z → ∀ (H : Heap) (locs : List Loc) (ls : Array Slot), va_P (rf_D E) vwCl (cX E a P (rf_upL I [(12, sellers_firstsOwn), (13, sellers_secondsOwn), (14, sellers_shared)]) J A B) H → va_S A0 s.heap H locs → lv_has ls 9 [(0, .ref (a 6)), (1, .int v1), (2, .int v2), (3, .int v3), (4, .int v4), (5, .int v5), (6, .int v6)] → W p l e ({ frames := 5, cells := 0, slots := 0, locals := 125 }) s m args below meth c H locs 0 0 (rf_QV below args s E A0 (cX E a P (rf_upL I [(12, z.1), (13, z.2.1), (14, z.2.2)]) J A B)) (F0 m 90 ls [.int s0]) := by
  have hx := hC.1
  have hb := hC.2.1
  intro v1 v2 v3 v4 v5 v6 s0 sellers_firstsOwn sellers_secondsOwn sellers_shared hf H locs ls hP hS hl
  unfold f_X7_countBuyers_90 at hf
  refine lv_istore (lv' := [(7, .int s0), (0, .ref (a 6)), (1, .int v1), (2, .int v2), (3, .int v3), (4, .int v4), (5, .int v5), (6, .int v6)]) hx hb dX7_countBuyers_90 hl (by decide) rfl (fun ls hl => ?_)
  refine lv_aload_n hx hb dX7_countBuyers_92 rfl (lv_at hl 1 rfl) ?_
  refine gX_sellers_rhymes hC hP tw_276 dX7_countBuyers_93 ?_
  refine lv_iload hx hb dX7_countBuyers_96 (lv_at hl 7 rfl) ?_
  refine lv_iload_n hx hb dX7_countBuyers_98 rfl (lv_at hl 3 rfl) ?_
  refine lv_iload_n hx hb dX7_countBuyers_99 rfl (lv_at hl 4 rfl) ?_
  obtain ⟨z100, hz100, hf⟩ := rf_bd hf
  refine rf_vi (q0 := 2) (ci := 6) hC (c_X6_metHaving l E a P (rf_upL I [(12, sellers_firstsOwn), (13, sellers_secondsOwn), (14, sellers_shared)]) J A B tc_wordCount tc_personCount now_words tc_kinds tc_close v6 v2 v3 hp2 e_tc_wordCount e_tc_personCount e_now_words e_tc_kinds e_tc_close hz100) kV_X6_metHaving tw_1084 ⟨Nat.le_of_ble_eq_true rfl, Nat.le_of_ble_eq_true rfl⟩ rfl rfl rfl rfl rfl hP (rf_DX hD) hS rfl hl.1 (rest := []) rfl (Nat.le_of_ble_eq_true rfl) dX7_countBuyers_100 (fun H locs hP hS => ?_)
  refine lv_iload hx hb dX7_countBuyers_103 (lv_at hl 5 rfl) ?_
  refine lv_iand hx hb dX7_countBuyers_105 ?_
  refine lv_if_eq (tgt := 113) hx hb dX7_countBuyers_106 (by decide) (fun c_106 => ?_) (fun c_106 => ?_)
  · have hf := rf_it c_106 hf
    refine lv_iconst (v := 0) hx hb dX7_countBuyers_113 (by decide) ?_
    exact w_X7_countBuyers_114 hC hD hp2 e_now_everybody e_now_far e_tc_wordCount e_tc_personCount e_now_words e_tc_kinds e_tc_close hk43 v1 v2 v3 v4 v5 v6 s0 0 sellers_firstsOwn sellers_secondsOwn sellers_shared hf _ _ _ hP hS (lv_sub hl [1, 2, 3, 4, 5, 6, 7, 0] rfl)
  have hf := rf_ie c_106 hf
  refine lv_iconst (v := 1) hx hb dX7_countBuyers_109 (by decide) ?_
  refine lv_goto (tgt := 114) hx hb dX7_countBuyers_110 (by decide) ?_
  exact w_X7_countBuyers_114 hC hD hp2 e_now_everybody e_now_far e_tc_wordCount e_tc_personCount e_now_words e_tc_kinds e_tc_close hk43 v1 v2 v3 v4 v5 v6 s0 1 sellers_firstsOwn sellers_secondsOwn sellers_shared hf _ _ _ hP hS (lv_sub hl [1, 2, 3, 4, 5, 6, 7, 0] rfl)
set_option maxHeartbeats 4000000 in
set_option maxRecDepth 100000 in
theorem w_X7_countBuyers_43 {l : Launch} {p : Program} {e : Env} {s : State} {m : MethodId} {args : Array Value} {below : List Frame} {meth : Method} {c : Code} {A0 : Nat → Prop} {E : rf_E} {a P : Nat → Nat} {I : Nat → Int32} {J : Nat → Int64} {A : Nat → Nat → Int32} {B : Nat → Nat → Int64} {now_everybody : Int32} {now_far : Int32} {tc_wordCount : Int32} {tc_personCount : Int32} {now_words : Nat → Int32} {tc_kinds : Nat → Int32} {tc_close : Nat → Int32} {z : Int32 × Int32 × Int32} (hC : rf_C p E s m args meth c cX7_countBuyers 9 RX7 (none) A0) (hD : va_D A0 (cX E a P I J A B)) (hp2 : P 2 = a 10) (e_now_everybody : I 6 = now_everybody) (e_now_far : I 7 = now_far) (e_tc_wordCount : I 23 = tc_wordCount) (e_tc_personCount : I 24 = tc_personCount) (e_now_words : A 1 = now_words) (e_tc_kinds : A 14 = tc_kinds) (e_tc_close : A 22 = tc_close) :
    ∀ (n : Nat), ∀ (v1 : Int32) (v2 : Int32) (v3 : Int32) (v4 : Int32) (v5 : Int32) (v6 : Int32) (sellers_firstsOwn : Int32) (sellers_secondsOwn : Int32) (sellers_shared : Int32), f_X7_countBuyers_43 now_everybody now_far tc_wordCount tc_personCount now_words tc_kinds tc_close n v1 v2 v3 v4 v5 v6 sellers_firstsOwn sellers_secondsOwn sellers_shared = some z → ∀ (H : Heap) (locs : List Loc) (ls : Array Slot), va_P (rf_D E) vwCl (cX E a P (rf_upL I [(12, sellers_firstsOwn), (13, sellers_secondsOwn), (14, sellers_shared)]) J A B) H → va_S A0 s.heap H locs → lv_has ls 9 [(0, .ref (a 6)), (1, .int v1), (2, .int v2), (3, .int v3), (4, .int v4), (5, .int v5), (6, .int v6)] → W p l e ({ frames := 5, cells := 0, slots := 0, locals := 125 }) s m args below meth c H locs 0 0 (rf_QV below args s E A0 (cX E a P (rf_upL I [(12, z.1), (13, z.2.1), (14, z.2.2)]) J A B)) (F0 m 43 ls []) := by
  have hx := hC.1
  have hb := hC.2.1
  intro n
  induction n with
  | zero =>
    intro v1 v2 v3 v4 v5 v6 sellers_firstsOwn sellers_secondsOwn sellers_shared hf
    have hf : (none : Option (Int32 × Int32 × Int32)) = some z := hf
    cases hf
  | succ n ih =>
    intro v1 v2 v3 v4 v5 v6 sellers_firstsOwn sellers_secondsOwn sellers_shared hf H locs ls hP hS hl
    rw [f_X7_countBuyers_43] at hf
    refine lv_iload hx hb dX7_countBuyers_43 (lv_at hl 6 rfl) ?_
    refine lv_aload_n hx hb dX7_countBuyers_45 rfl (lv_at hl 0 rfl) ?_
    refine gX_sellers_rhymes hC hP tw_276 dX7_countBuyers_46 ?_
    refine gX_rhymes_tale hC hP tw_197 (v := a 10) hp2 dX7_countBuyers_49 ?_
    refine gX_tc_personCount hC hP tw_129 (v := tc_personCount) e_tc_personCount dX7_countBuyers_52 ?_
    refine lv_icmp_ge (tgt := 194) hx hb dX7_countBuyers_55 (by decide) (fun c_55 => ?_) (fun c_55 => ?_)
    · have hf := rf_it c_55 hf
      obtain rfl := Option.some.inj hf
      exact rf_retv hC hP hS rfl dX7_countBuyers_194
    have hf := rf_ie c_55 hf
    refine lv_iload hx hb dX7_countBuyers_58 (lv_at hl 5 rfl) ?_
    refine lv_iload hx hb dX7_countBuyers_60 (lv_at hl 6 rfl) ?_
    obtain ⟨z62, hz62, hf⟩ := rf_bd hf
    refine rf_sn0 hC (c_X10_holds l E v5 v6 hz62) kS_X10_holds nw_1083 ⟨Nat.le_of_ble_eq_true rfl, Nat.le_of_ble_eq_true rfl⟩ rfl rfl hP hS rfl hl.1 (rest := []) rfl (Nat.le_of_ble_eq_true rfl) dX7_countBuyers_62 (fun H locs hP hS => ?_)
    refine lv_if_eq (tgt := 188) hx hb dX7_countBuyers_65 (by decide) (fun c_65 => ?_) (fun c_65 => ?_)
    · have hf := rf_it c_65 hf
      exact w_X7_countBuyers_188 hC hD hp2 e_now_everybody e_now_far e_tc_wordCount e_tc_personCount e_now_words e_tc_kinds e_tc_close ih v1 v2 v3 v4 v5 v6 sellers_firstsOwn sellers_secondsOwn sellers_shared hf _ _ _ hP hS (lv_sub hl [0, 1, 2, 3, 4, 5, 6] rfl)
    have hf := rf_ie c_65 hf
    refine lv_aload_n hx hb dX7_countBuyers_68 rfl (lv_at hl 0 rfl) ?_
    refine gX_sellers_rhymes hC hP tw_276 dX7_countBuyers_69 ?_
    refine lv_iload hx hb dX7_countBuyers_72 (lv_at hl 6 rfl) ?_
    refine lv_iload_n hx hb dX7_countBuyers_74 rfl (lv_at hl 1 rfl) ?_
    refine lv_iload_n hx hb dX7_countBuyers_75 rfl (lv_at hl 3 rfl) ?_
    obtain ⟨z76, hz76, hf⟩ := rf_bd hf
    refine rf_vi (q0 := 2) (ci := 6) hC (c_X6_metHaving l E a P (rf_upL I [(12, sellers_firstsOwn), (13, sellers_secondsOwn), (14, sellers_shared)]) J A B tc_wordCount tc_personCount now_words tc_kinds tc_close v6 v1 v3 hp2 e_tc_wordCount e_tc_personCount e_now_words e_tc_kinds e_tc_close hz76) kV_X6_metHaving tw_1084 ⟨Nat.le_of_ble_eq_true rfl, Nat.le_of_ble_eq_true rfl⟩ rfl rfl rfl rfl rfl hP (rf_DX hD) hS rfl hl.1 (rest := []) rfl (Nat.le_of_ble_eq_true rfl) dX7_countBuyers_76 (fun H locs hP hS => ?_)
    refine lv_iload hx hb dX7_countBuyers_79 (lv_at hl 4 rfl) ?_
    refine lv_iand hx hb dX7_countBuyers_81 ?_
    refine lv_if_eq (tgt := 89) hx hb dX7_countBuyers_82 (by decide) (fun c_82 => ?_) (fun c_82 => ?_)
    · have hf := rf_it c_82 hf
      refine lv_iconst (v := 0) hx hb dX7_countBuyers_89 (by decide) ?_
      exact w_X7_countBuyers_90 hC hD hp2 e_now_everybody e_now_far e_tc_wordCount e_tc_personCount e_now_words e_tc_kinds e_tc_close ih v1 v2 v3 v4 v5 v6 0 sellers_firstsOwn sellers_secondsOwn sellers_shared hf _ _ _ hP hS (lv_sub hl [0, 1, 2, 3, 4, 5, 6] rfl)
    have hf := rf_ie c_82 hf
    refine lv_iconst (v := 1) hx hb dX7_countBuyers_85 (by decide) ?_
    refine lv_goto (tgt := 90) hx hb dX7_countBuyers_86 (by decide) ?_
    exact w_X7_countBuyers_90 hC hD hp2 e_now_everybody e_now_far e_tc_wordCount e_tc_personCount e_now_words e_tc_kinds e_tc_close ih v1 v2 v3 v4 v5 v6 1 sellers_firstsOwn sellers_secondsOwn sellers_shared hf _ _ _ hP hS (lv_sub hl [0, 1, 2, 3, 4, 5, 6] rfl)
set_option maxHeartbeats 4000000 in
set_option maxRecDepth 100000 in
theorem c_X7_countBuyers (l : Launch) (E : rf_E) (a P : Nat → Nat) (I : Nat → Int32) (J : Nat → Int64) (A : Nat → Nat → Int32) (B : Nat → Nat → Int64) (now_everybody : Int32) (now_far : Int32) (tc_wordCount : Int32) (tc_personCount : Int32) (now_words : Nat → Int32) (tc_kinds : Nat → Int32) (tc_close : Nat → Int32) (sellers_firstsOwn : Int32) (sellers_secondsOwn : Int32) (sellers_shared : Int32) (v1 : Int32) (v2 : Int32) (v3 : Int32) {z : Int32 × Int32 × Int32} (hp2 : P 2 = a 10) (e_now_everybody : I 6 = now_everybody) (e_now_far : I 7 = now_far) (e_tc_wordCount : I 23 = tc_wordCount) (e_tc_personCount : I 24 = tc_personCount) (e_now_words : A 1 = now_words) (e_tc_kinds : A 14 = tc_kinds) (e_tc_close : A 22 = tc_close) (e_sellers_firstsOwn : I 12 = sellers_firstsOwn) (e_sellers_secondsOwn : I 13 = sellers_secondsOwn) (e_sellers_shared : I 14 = sellers_shared) (hf : f_X7_countBuyers now_everybody now_far tc_wordCount tc_personCount now_words tc_kinds tc_close sellers_firstsOwn sellers_secondsOwn sellers_shared v1 v2 v3 = some z) : rf_MV l yX7_countBuyers cX7_countBuyers 9 ({ frames := 5, cells := 0, slots := 0, locals := 125 }) E [.ref (a 6), .int v1, .int v2, .int v3] (cX E a P I J A B) (cX E a P (rf_upL I [(12, z.1), (13, z.2.1), (14, z.2.2)]) J A B) := by
  unfold f_X7_countBuyers at hf
  refine rf_ofV (by decide) (Nat.le_of_ble_eq_true rfl) ?_
  intro p e s m below meth c A0 ls hC hD hP hS hl
  have hC : rf_C p E s m _ meth c cX7_countBuyers 9 RX7 (none) A0 := hC
  have hx := hC.1
  have hb := hC.2.1
  have hl : lv_has ls 9 [(0, .ref (a 6)), (1, .int v1), (2, .int v2), (3, .int v3)] := hl
  have hP : va_P (rf_D E) vwCl (cX E a P (rf_upL I [(12, sellers_firstsOwn), (13, sellers_secondsOwn), (14, sellers_shared)]) J A B) s.heap := by
    rw [rf_self (f := I) [(12, sellers_firstsOwn), (13, sellers_secondsOwn), (14, sellers_shared)] (rf_fa1 e_sellers_firstsOwn (rf_fa1 e_sellers_secondsOwn (rf_fa1 e_sellers_shared rf_fa0)))]
    exact hP
  refine lv_aload_n hx hb dX7_countBuyers_0 rfl (lv_at hl 0 rfl) ?_
  refine lv_iconst (v := 0) hx hb dX7_countBuyers_1 (by decide) ?_
  refine pX_sellers_firstsOwn hC hD hP hS tw_277 dX7_countBuyers_2 (rf_upL I [(12, 0), (13, sellers_secondsOwn), (14, sellers_shared)]) (rf_put rfl) (fun H locs hP hS => ?_)
  refine lv_aload_n hx hb dX7_countBuyers_5 rfl (lv_at hl 0 rfl) ?_
  refine lv_iconst (v := 0) hx hb dX7_countBuyers_6 (by decide) ?_
  refine pX_sellers_secondsOwn hC hD hP hS tw_278 dX7_countBuyers_7 (rf_upL I [(12, 0), (13, 0), (14, sellers_shared)]) (rf_put rfl) (fun H locs hP hS => ?_)
  refine lv_aload_n hx hb dX7_countBuyers_10 rfl (lv_at hl 0 rfl) ?_
  refine lv_iconst (v := 0) hx hb dX7_countBuyers_11 (by decide) ?_
  refine pX_sellers_shared hC hD hP hS tw_279 dX7_countBuyers_12 (rf_upL I [(12, 0), (13, 0), (14, 0)]) (rf_put rfl) (fun H locs hP hS => ?_)
  refine lv_aload_n hx hb dX7_countBuyers_15 rfl (lv_at hl 0 rfl) ?_
  refine gX_sellers_rhymes hC hP tw_276 dX7_countBuyers_16 ?_
  refine gX_rhymes_now hC hP tw_187 dX7_countBuyers_19 ?_
  refine lv_iconst (v := 0) hx hb dX7_countBuyers_22 (by decide) ?_
  obtain ⟨z23, hz23, hf⟩ := rf_bd hf
  refine rf_vi (q0 := 1) (ci := 2) hC (c_X2_onBank l E a P (rf_upL I [(12, 0), (13, 0), (14, 0)]) J A B now_everybody now_far 0 e_now_everybody e_now_far hz23) kV_X2_onBank tw_1081 ⟨Nat.le_of_ble_eq_true rfl, Nat.le_of_ble_eq_true rfl⟩ rfl rfl rfl rfl rfl hP (rf_DX hD) hS rfl hl.1 (rest := []) rfl (Nat.le_of_ble_eq_true rfl) dX7_countBuyers_23 (fun H locs hP hS => ?_)
  refine lv_istore (lv' := [(4, .int z23), (0, .ref (a 6)), (1, .int v1), (2, .int v2), (3, .int v3)]) hx hb dX7_countBuyers_26 hl (by decide) rfl (fun ls hl => ?_)
  refine lv_aload_n hx hb dX7_countBuyers_28 rfl (lv_at hl 1 rfl) ?_
  refine gX_sellers_rhymes hC hP tw_276 dX7_countBuyers_29 ?_
  refine lv_iload hx hb dX7_countBuyers_32 (lv_at hl 0 rfl) ?_
  refine lv_iload_n hx hb dX7_countBuyers_34 rfl (lv_at hl 4 rfl) ?_
  obtain ⟨z35, hz35, hf⟩ := rf_bd hf
  refine rf_vi (q0 := 2) (ci := 6) hC (c_X6_lonely l E a P (rf_upL I [(12, 0), (13, 0), (14, 0)]) J A B tc_wordCount tc_personCount now_words tc_kinds tc_close z23 v3 hp2 e_tc_wordCount e_tc_personCount e_now_words e_tc_kinds e_tc_close hz35) kV_X6_lonely tw_1082 ⟨Nat.le_of_ble_eq_true rfl, Nat.le_of_ble_eq_true rfl⟩ rfl rfl rfl rfl rfl hP (rf_DX hD) hS rfl hl.1 (rest := []) rfl (Nat.le_of_ble_eq_true rfl) dX7_countBuyers_35 (fun H locs hP hS => ?_)
  refine lv_istore (lv' := [(5, .int z35), (4, .int z23), (0, .ref (a 6)), (1, .int v1), (2, .int v2), (3, .int v3)]) hx hb dX7_countBuyers_38 hl (by decide) rfl (fun ls hl => ?_)
  refine lv_iconst (v := 0) hx hb dX7_countBuyers_40 (by decide) ?_
  refine lv_istore (lv' := [(6, .int 0), (5, .int z35), (4, .int z23), (0, .ref (a 6)), (1, .int v1), (2, .int v2), (3, .int v3)]) hx hb dX7_countBuyers_41 hl (by decide) rfl (fun ls hl => ?_)
  exact w_X7_countBuyers_43 hC hD hp2 e_now_everybody e_now_far e_tc_wordCount e_tc_personCount e_now_words e_tc_kinds e_tc_close rf_fu v1 v2 v3 z23 z35 0 0 0 0 hf _ _ _ hP hS (lv_sub hl [3, 4, 5, 6, 2, 1, 0] rfl)
