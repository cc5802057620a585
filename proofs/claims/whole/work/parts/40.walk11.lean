set_option maxHeartbeats 4000000 in
set_option maxRecDepth 100000 in
theorem c_X10_kept (l : Launch) (E : rf_E) (a P : Nat → Nat) (I : Nat → Int32) (J : Nat → Int64) (A : Nat → Nat → Int32) (B : Nat → Nat → Int64) (now_everybody : Int32) (now_far : Int32) (tc_ear : Int32) (tc_pairs : Int32) (tc_wordCount : Int32) (tc_personCount : Int32) (now_words : Nat → Int32) (tc_kinds : Nat → Int32) (tc_errands : Nat → Int32) (tc_hourEars : Nat → Int32) (tc_close : Nat → Int32) (x_lastTrouble : Int32) (rhymes_links : Nat → Int32) (pairing_best : Nat → Int32) (v1 : Int32) {z : Int32 × Int32 × (Nat → Int32) × (Nat → Int32)} (hp0 : P 0 = a 10) (hp2 : P 2 = a 10) (e_now_everybody : I 6 = now_everybody) (e_now_far : I 7 = now_far) (e_tc_ear : I 21 = tc_ear) (e_tc_pairs : I 22 = tc_pairs) (e_tc_wordCount : I 23 = tc_wordCount) (e_tc_personCount : I 24 = tc_personCount) (e_now_words : A 1 = now_words) (e_tc_kinds : A 14 = tc_kinds) (e_tc_errands : A 16 = tc_errands) (e_tc_hourEars : A 18 = tc_hourEars) (e_tc_close : A 22 = tc_close) (e_x_lastTrouble : I 3 = x_lastTrouble) (e_rhymes_links : A 3 = rhymes_links) (e_pairing_best : A 5 = pairing_best) (hf : f_X10_kept now_everybody now_far tc_ear tc_pairs tc_wordCount tc_personCount now_words tc_kinds tc_errands tc_hourEars tc_close x_lastTrouble rhymes_links pairing_best v1 = some z) : rf_MI l yX10_kept cX10_kept 2 (some .int) ({ frames := 5, cells := 0, slots := 0, locals := 123 }) E [.ref (a 0), .int v1] (cX E a P I J A B) z.1 (cX E a P (rf_upL I [(3, z.2.1)]) J (rf_upL A [(3, z.2.2.1), (5, z.2.2.2)]) B) := by
  unfold f_X10_kept at hf
  refine rf_ofI (by decide) (Nat.le_of_ble_eq_true rfl) ?_
  intro p e s m below meth c A0 ls hC hD hP hS hl
  have hC : rf_C p E s m _ meth c cX10_kept 2 RX10 (some .int) A0 := hC
  have hx := hC.1
  have hb := hC.2.1
  have hl : lv_has ls 2 [(0, .ref (a 0)), (1, .int v1)] := hl
  have hP : va_P (rf_D E) vwCl (cX E a P (rf_upL I [(3, x_lastTrouble)]) J (rf_upL A [(3, rhymes_links), (5, pairing_best)]) B) s.heap := by
    rw [rf_self (f := I) [(3, x_lastTrouble)] (rf_fa1 e_x_lastTrouble rf_fa0)]
    rw [rf_self (f := A) [(3, rhymes_links), (5, pairing_best)] (rf_fa1 e_rhymes_links (rf_fa1 e_pairing_best rf_fa0))]
    exact hP
  refine lv_aload_n hx hb dX10_kept_0 rfl (lv_at hl 0 rfl) ?_
  refine lv_aload_n hx hb dX10_kept_1 rfl (lv_at hl 0 rfl) ?_
  obtain ⟨z2, hz2, hf⟩ := rf_bd hf
  refine rf_vi (q0 := 0) (ci := 10) hC (c_X10_hasFerry l E a P (rf_upL I [(3, x_lastTrouble)]) J (rf_upL A [(3, rhymes_links), (5, pairing_best)]) B tc_personCount hp0 e_tc_personCount hz2) kV_X10_hasFerry tw_762 ⟨Nat.le_of_ble_eq_true rfl, Nat.le_of_ble_eq_true rfl⟩ rfl rfl rfl rfl rfl hP (rf_DX hD) hS rfl hl.1 (rest := [.ref (a 0)]) rfl (Nat.le_of_ble_eq_true rfl) dX10_kept_2 (fun H locs hP hS => ?_)
  refine lv_aload_n hx hb dX10_kept_5 rfl (lv_at hl 0 rfl) ?_
  refine lv_iload_n hx hb dX10_kept_6 rfl (lv_at hl 1 rfl) ?_
  obtain ⟨z7, hz7, hf⟩ := rf_bd hf
  refine rf_vi (q0 := 0) (ci := 10) hC (c_X10_isHour l E a P (rf_upL I [(3, x_lastTrouble)]) J (rf_upL A [(3, rhymes_links), (5, pairing_best)]) B v1 hz7) kV_X10_isHour tw_766 ⟨Nat.le_of_ble_eq_true rfl, Nat.le_of_ble_eq_true rfl⟩ rfl rfl rfl rfl rfl hP (rf_DX hD) hS rfl hl.1 (rest := [.int z2, .ref (a 0)]) rfl (Nat.le_of_ble_eq_true rfl) dX10_kept_7 (fun H locs hP hS => ?_)
  obtain ⟨z10, hz10, hf⟩ := rf_bd hf
  refine rf_vi (q0 := 0) (ci := 10) hC (c_X10_refused l E a P (rf_upL I [(3, x_lastTrouble)]) J (rf_upL A [(3, rhymes_links), (5, pairing_best)]) B x_lastTrouble z2 z7 rfl hz10) kV_X10_refused tw_455 ⟨Nat.le_of_ble_eq_true rfl, Nat.le_of_ble_eq_true rfl⟩ rfl rfl rfl rfl rfl hP (rf_DX hD) hS rfl hl.1 (rest := []) rfl (Nat.le_of_ble_eq_true rfl) dX10_kept_10 (fun H locs hP hS => ?_)
  rw [rf_cat (f := I) (l := [(3, x_lastTrouble)]) (lc := [(3, z10.2)]) (l' := [(3, z10.2)]) rfl] at hP
  refine lv_if_eq (tgt := 18) hx hb dX10_kept_13 (by decide) (fun c_13 => ?_) (fun c_13 => ?_)
  · have hf := rf_it c_13 hf
    refine lv_aload_n hx hb dX10_kept_18 rfl (lv_at hl 0 rfl) ?_
    refine gX_x_rhymes hC hP tw_393 dX10_kept_19 ?_
    refine lv_aload_n hx hb dX10_kept_22 rfl (lv_at hl 0 rfl) ?_
    refine gX_x_tale hC hP tw_401 (v := a 10) hp0 dX10_kept_23 ?_
    refine lv_iload_n hx hb dX10_kept_26 rfl (lv_at hl 1 rfl) ?_
    obtain ⟨z27, hz27, hf⟩ := rf_bd hf
    refine rf_vi (q0 := 10) (ci := 9) hC (c_X9_earAt_tc l E a P (rf_upL I [(3, z10.2)]) J (rf_upL A [(3, rhymes_links), (5, pairing_best)]) B tc_ear tc_hourEars v1 e_tc_ear e_tc_hourEars hz27) kV_X9_earAt tw_770 ⟨Nat.le_of_ble_eq_true rfl, Nat.le_of_ble_eq_true rfl⟩ rfl rfl rfl rfl rfl hP (rf_DX hD) hS rfl hl.1 (rest := [.ref (a 2)]) rfl (Nat.le_of_ble_eq_true rfl) dX10_kept_27 (fun H locs hP hS => ?_)
    obtain ⟨z30, hz30, hf⟩ := rf_bd hf
    refine rf_vv (q0 := 2) (ci := 6) hC (c_X6_link l E a P (rf_upL I [(3, z10.2)]) J (rf_upL A [(3, rhymes_links), (5, pairing_best)]) B tc_wordCount tc_personCount now_words tc_kinds tc_close rhymes_links z27 hp2 e_tc_wordCount e_tc_personCount e_now_words e_tc_kinds e_tc_close rfl hz30) kV_X6_link tw_831 ⟨Nat.le_of_ble_eq_true rfl, Nat.le_of_ble_eq_true rfl⟩ rfl rfl rfl rfl rfl hP (rf_DX hD) hS rfl hl.1 (rest := []) rfl (Nat.le_of_ble_eq_true rfl) dX10_kept_30 (fun H locs hP hS => ?_)
    rw [rf_cat (f := A) (l := [(3, rhymes_links), (5, pairing_best)]) (lc := [(3, z30)]) (l' := [(3, z30), (5, pairing_best)]) rfl] at hP
    refine lv_aload_n hx hb dX10_kept_33 rfl (lv_at hl 0 rfl) ?_
    refine gX_x_pairing hC hP tw_394 dX10_kept_34 ?_
    refine lv_aload_n hx hb dX10_kept_37 rfl (lv_at hl 0 rfl) ?_
    refine gX_x_rhymes hC hP tw_393 dX10_kept_38 ?_
    refine gX_rhymes_links hC hP tw_192 dX10_kept_41 ?_
    refine lv_aload_n hx hb dX10_kept_44 rfl (lv_at hl 0 rfl) ?_
    refine gX_x_now hC hP tw_392 dX10_kept_45 ?_
    refine lv_iconst (v := 0) hx hb dX10_kept_48 (by decide) ?_
    obtain ⟨z49, hz49, hf⟩ := rf_bd hf
    refine rf_vi (q0 := 1) (ci := 2) hC (c_X2_onBank l E a P (rf_upL I [(3, z10.2)]) J (rf_upL A [(3, z30), (5, pairing_best)]) B now_everybody now_far 0 e_now_everybody e_now_far hz49) kV_X2_onBank tw_905 ⟨Nat.le_of_ble_eq_true rfl, Nat.le_of_ble_eq_true rfl⟩ rfl rfl rfl rfl rfl hP (rf_DX hD) hS rfl hl.1 (rest := [.ref (a 16), .ref (a 3)]) rfl (Nat.le_of_ble_eq_true rfl) dX10_kept_49 (fun H locs hP hS => ?_)
    refine lv_aload_n hx hb dX10_kept_52 rfl (lv_at hl 0 rfl) ?_
    refine gX_x_tale hC hP tw_401 (v := a 10) hp0 dX10_kept_53 ?_
    obtain ⟨z56, hz56, hf⟩ := rf_bd hf
    refine rf_vi (q0 := 3) (ci := 3) hC (c_X3_mostKept l E a P (rf_upL I [(3, z10.2)]) J (rf_upL A [(3, z30), (5, pairing_best)]) B tc_pairs z30 tc_errands pairing_best z49 e_tc_pairs rfl e_tc_errands rfl hz56) kV_X3_mostKept tw_945 ⟨Nat.le_of_ble_eq_true rfl, Nat.le_of_ble_eq_true rfl⟩ rfl rfl rfl rfl rfl hP (rf_DX hD) hS rfl hl.1 (rest := []) rfl (Nat.le_of_ble_eq_true rfl) dX10_kept_56 (fun H locs hP hS => ?_)
    rw [rf_cat (f := A) (l := [(3, z30), (5, pairing_best)]) (lc := [(5, z56.2)]) (l' := [(3, z30), (5, z56.2)]) rfl] at hP
    obtain rfl := Option.some.inj hf
    exact rf_reti hC hP hS rfl rfl dX10_kept_59
  have hf := rf_ie c_13 hf
  refine lv_iconst (v := (-1)) hx hb dX10_kept_16 (by decide) ?_
  obtain rfl := Option.some.inj hf
  exact rf_reti hC hP hS rfl rfl dX10_kept_17
set_option maxHeartbeats 4000000 in
set_option maxRecDepth 100000 in
theorem w_X1_firstUntrue_10 {l : Launch} {p : Program} {e : Env} {s : State} {m : MethodId} {args : Array Value} {below : List Frame} {meth : Method} {c : Code} {A0 : Nat → Prop} {E : rf_E} {a P : Nat → Nat} {I : Nat → Int32} {J : Nat → Int64} {A : Nat → Nat → Int32} {B : Nat → Nat → Int64} {tc_wordCount : Int32} {tc_gotCount : Int32} {now_words : Nat → Int32} {tc_kinds : Nat → Int32} {tc_gotFirst : Nat → Int32} {tc_gotSecond : Nat → Int32} {tc_gotDegree : Nat → Int32} {tc_close : Nat → Int32} {z : Int32} (hC : rf_C p E s m args meth c cX1_firstUntrue 4 RX1 (some .int) A0) (hD : va_D A0 (cX E a P I J A B)) (hp2 : P 2 = a 10) (e_tc_wordCount : I 23 = tc_wordCount) (e_tc_gotCount : I 27 = tc_gotCount) (e_now_words : A 1 = now_words) (e_tc_kinds : A 14 = tc_kinds) (e_tc_gotFirst : A 19 = tc_gotFirst) (e_tc_gotSecond : A 20 = tc_gotSecond) (e_tc_gotDegree : A 21 = tc_gotDegree) (e_tc_close : A 22 = tc_close) :
    ∀ (n : Nat), ∀ (v1 : Int32) (v3 : Int32), f_X1_firstUntrue_10 tc_wordCount tc_gotCount now_words tc_kinds tc_gotFirst tc_gotSecond tc_gotDegree tc_close n v1 v3 = some z → ∀ (H : Heap) (locs : List Loc) (ls : Array Slot), va_P (rf_D E) vwCl (cX E a P I J A B) H → va_S A0 s.heap H locs → lv_has ls 4 [(0, .ref (a 5)), (1, .int v1), (2, .ref (a 10)), (3, .int v3)] → W p l e ({ frames := 4, cells := 0, slots := 0, locals := 100 }) s m args below meth c H locs 0 0 (rf_QI below args s E A0 z (cX E a P I J A B)) (F0 m 10 ls []) := by
  have hx := hC.1
  have hb := hC.2.1
  intro n
  induction n with
  | zero =>
    intro v1 v3 hf
    have hf : (none : Option (Int32)) = some z := hf
    cases hf
  | succ n ih =>
    intro v1 v3 hf H locs ls hP hS hl
    rw [f_X1_firstUntrue_10] at hf
    refine lv_iload_n hx hb dX1_firstUntrue_10 rfl (lv_at hl 3 rfl) ?_
    refine lv_aload_n hx hb dX1_firstUntrue_11 rfl (lv_at hl 2 rfl) ?_
    refine gX_tc_gotCount hC hP tw_140 (v := tc_gotCount) e_tc_gotCount dX1_firstUntrue_12 ?_
    refine lv_icmp_ge (tgt := 55) hx hb dX1_firstUntrue_15 (by decide) (fun c_15 => ?_) (fun c_15 => ?_)
    · have hf := rf_it c_15 hf
      refine lv_bipush (v := (-2)) hx hb dX1_firstUntrue_55 (by decide) ?_
      obtain rfl := Option.some.inj hf
      exact rf_reti hC hP hS rfl rfl dX1_firstUntrue_57
    have hf := rf_ie c_15 hf
    refine lv_aload_n hx hb dX1_firstUntrue_18 rfl (lv_at hl 0 rfl) ?_
    refine gX_hearing_rhymes hC hP tw_255 dX1_firstUntrue_19 ?_
    refine lv_aload_n hx hb dX1_firstUntrue_22 rfl (lv_at hl 2 rfl) ?_
    refine gX_tc_gotFirst hC hP tw_107 dX1_firstUntrue_23 ?_
    refine lv_iload_n hx hb dX1_firstUntrue_26 rfl (lv_at hl 3 rfl) ?_
    obtain ⟨hi_27, hf⟩ := rf_gu hf
    refine lX_tc_gotFirst hC hP hi_27 (f := tc_gotFirst) e_tc_gotFirst dX1_firstUntrue_27 ?_
    refine lv_aload_n hx hb dX1_firstUntrue_28 rfl (lv_at hl 2 rfl) ?_
    refine gX_tc_gotSecond hC hP tw_109 dX1_firstUntrue_29 ?_
    refine lv_iload_n hx hb dX1_firstUntrue_32 rfl (lv_at hl 3 rfl) ?_
    obtain ⟨hi_33, hf⟩ := rf_gu hf
    refine lX_tc_gotSecond hC hP hi_33 (f := tc_gotSecond) e_tc_gotSecond dX1_firstUntrue_33 ?_
    refine lv_iload_n hx hb dX1_firstUntrue_34 rfl (lv_at hl 1 rfl) ?_
    obtain ⟨z35, hz35, hf⟩ := rf_bd hf
    refine rf_vi (q0 := 2) (ci := 6) hC (c_X6_degree l E a P I J A B tc_wordCount now_words tc_kinds tc_close (tc_gotFirst (Int32.toNatClampNeg v3)) (tc_gotSecond (Int32.toNatClampNeg v3)) v1 hp2 e_tc_wordCount e_now_words e_tc_kinds e_tc_close hz35) kV_X6_degree tw_962 ⟨Nat.le_of_ble_eq_true rfl, Nat.le_of_ble_eq_true rfl⟩ rfl rfl rfl rfl rfl hP (rf_DX hD) hS rfl hl.1 (rest := []) rfl (Nat.le_of_ble_eq_true rfl) dX1_firstUntrue_35 (fun H locs hP hS => ?_)
    refine lv_aload_n hx hb dX1_firstUntrue_38 rfl (lv_at hl 2 rfl) ?_
    refine gX_tc_gotDegree hC hP tw_111 dX1_firstUntrue_39 ?_
    refine lv_iload_n hx hb dX1_firstUntrue_42 rfl (lv_at hl 3 rfl) ?_
    obtain ⟨hi_43, hf⟩ := rf_gu hf
    refine lX_tc_gotDegree hC hP hi_43 (f := tc_gotDegree) e_tc_gotDegree dX1_firstUntrue_43 ?_
    refine lv_icmp_eq (tgt := 49) hx hb dX1_firstUntrue_44 (by decide) (fun c_44 => ?_) (fun c_44 => ?_)
    · have hf := rf_it c_44 hf
      refine lv_iinc (v := v3 + 1) (lv' := [(3, .int (v3 + 1)), (0, .ref (a 5)), (1, .int v1), (2, .ref (a 10))]) hx hb dX1_firstUntrue_49 hl (k := 3) rfl rfl (by decide) rfl (fun ls hl => ?_)
      refine lv_goto (tgt := 10) hx hb dX1_firstUntrue_52 (by decide) ?_
      exact ih v1 (v3 + 1) hf _ _ _ hP hS (lv_sub hl [1, 2, 3, 0] rfl)
    have hf := rf_ie c_44 hf
    refine lv_iload_n hx hb dX1_firstUntrue_47 rfl (lv_at hl 3 rfl) ?_
    obtain rfl := Option.some.inj hf
    exact rf_reti hC hP hS rfl rfl dX1_firstUntrue_48
set_option maxHeartbeats 4000000 in
set_option maxRecDepth 100000 in
theorem c_X1_firstUntrue (l : Launch) (E : rf_E) (a P : Nat → Nat) (I : Nat → Int32) (J : Nat → Int64) (A : Nat → Nat → Int32) (B : Nat → Nat → Int64) (tc_wordCount : Int32) (tc_gotCount : Int32) (now_words : Nat → Int32) (tc_kinds : Nat → Int32) (tc_gotFirst : Nat → Int32) (tc_gotSecond : Nat → Int32) (tc_gotDegree : Nat → Int32) (tc_close : Nat → Int32) (v1 : Int32) {z : Int32} (hp2 : P 2 = a 10) (e_tc_wordCount : I 23 = tc_wordCount) (e_tc_gotCount : I 27 = tc_gotCount) (e_now_words : A 1 = now_words) (e_tc_kinds : A 14 = tc_kinds) (e_tc_gotFirst : A 19 = tc_gotFirst) (e_tc_gotSecond : A 20 = tc_gotSecond) (e_tc_gotDegree : A 21 = tc_gotDegree) (e_tc_close : A 22 = tc_close) (hf : f_X1_firstUntrue tc_wordCount tc_gotCount now_words tc_kinds tc_gotFirst tc_gotSecond tc_gotDegree tc_close v1 = some z) : rf_MI l yX1_firstUntrue cX1_firstUntrue 4 (some .int) ({ frames := 4, cells := 0, slots := 0, locals := 100 }) E [.ref (a 5), .int v1] (cX E a P I J A B) z (cX E a P I J A B) := by
  unfold f_X1_firstUntrue at hf
  refine rf_ofI (by decide) (Nat.le_of_ble_eq_true rfl) ?_
  intro p e s m below meth c A0 ls hC hD hP hS hl
  have hC : rf_C p E s m _ meth c cX1_firstUntrue 4 RX1 (some .int) A0 := hC
  have hx := hC.1
  have hb := hC.2.1
  have hl : lv_has ls 4 [(0, .ref (a 5)), (1, .int v1)] := hl
  refine lv_aload_n hx hb dX1_firstUntrue_0 rfl (lv_at hl 0 rfl) ?_
  refine gX_hearing_rhymes hC hP tw_255 dX1_firstUntrue_1 ?_
  refine gX_rhymes_tale hC hP tw_195 (v := a 10) hp2 dX1_firstUntrue_4 ?_
  refine lv_astore_n (lv' := [(2, .ref (a 10)), (0, .ref (a 5)), (1, .int v1)]) hx hb dX1_firstUntrue_7 rfl hl (by decide) rfl (fun ls hl => ?_)
  refine lv_iconst (v := 0) hx hb dX1_firstUntrue_8 (by decide) ?_
  refine lv_istore_n (lv' := [(3, .int 0), (2, .ref (a 10)), (0, .ref (a 5)), (1, .int v1)]) hx hb dX1_firstUntrue_9 rfl hl (by decide) rfl (fun ls hl => ?_)
  exact w_X1_firstUntrue_10 hC hD hp2 e_tc_wordCount e_tc_gotCount e_now_words e_tc_kinds e_tc_gotFirst e_tc_gotSecond e_tc_gotDegree e_tc_close rf_fu v1 0 hf _ _ _ hP hS (lv_sub hl [2, 3, 1, 0] rfl)
set_option maxHeartbeats 4000000 in
set_option maxRecDepth 100000 in
theorem c_X10_judge (l : Launch) (E : rf_E) (a P : Nat → Nat) (I : Nat → Int32) (J : Nat → Int64) (A : Nat → Nat → Int32) (B : Nat → Nat → Int64) (tc_ear : Int32) (tc_wordCount : Int32) (tc_personCount : Int32) (tc_gotCount : Int32) (now_words : Nat → Int32) (tc_kinds : Nat → Int32) (tc_gotFirst : Nat → Int32) (tc_gotSecond : Nat → Int32) (tc_gotDegree : Nat → Int32) (tc_close : Nat → Int32) (x_lastTrouble : Int32) {z : Int32 × Int32} (hp0 : P 0 = a 10) (hp2 : P 2 = a 10) (e_tc_ear : I 21 = tc_ear) (e_tc_wordCount : I 23 = tc_wordCount) (e_tc_personCount : I 24 = tc_personCount) (e_tc_gotCount : I 27 = tc_gotCount) (e_now_words : A 1 = now_words) (e_tc_kinds : A 14 = tc_kinds) (e_tc_gotFirst : A 19 = tc_gotFirst) (e_tc_gotSecond : A 20 = tc_gotSecond) (e_tc_gotDegree : A 21 = tc_gotDegree) (e_tc_close : A 22 = tc_close) (e_x_lastTrouble : I 3 = x_lastTrouble) (hf : f_X10_judge tc_ear tc_wordCount tc_personCount tc_gotCount now_words tc_kinds tc_gotFirst tc_gotSecond tc_gotDegree tc_close x_lastTrouble = some z) : rf_MI l yX10_judge cX10_judge 1 (some .int) ({ frames := 5, cells := 0, slots := 0, locals := 123 }) E [.ref (a 0)] (cX E a P I J A B) z.1 (cX E a P (rf_upL I [(3, z.2)]) J A B) := by
  unfold f_X10_judge at hf
  refine rf_ofI (by decide) (Nat.le_of_ble_eq_true rfl) ?_
  intro p e s m below meth c A0 ls hC hD hP hS hl
  have hC : rf_C p E s m _ meth c cX10_judge 1 RX10 (some .int) A0 := hC
  have hx := hC.1
  have hb := hC.2.1
  have hl : lv_has ls 1 [(0, .ref (a 0))] := hl
  have hP : va_P (rf_D E) vwCl (cX E a P (rf_upL I [(3, x_lastTrouble)]) J A B) s.heap := by
    rw [rf_self (f := I) [(3, x_lastTrouble)] (rf_fa1 e_x_lastTrouble rf_fa0)]
    exact hP
  refine lv_aload_n hx hb dX10_judge_0 rfl (lv_at hl 0 rfl) ?_
  refine lv_aload_n hx hb dX10_judge_1 rfl (lv_at hl 0 rfl) ?_
  obtain ⟨z2, hz2, hf⟩ := rf_bd hf
  refine rf_vi (q0 := 0) (ci := 10) hC (c_X10_hasFerry l E a P (rf_upL I [(3, x_lastTrouble)]) J A B tc_personCount hp0 e_tc_personCount hz2) kV_X10_hasFerry tw_762 ⟨Nat.le_of_ble_eq_true rfl, Nat.le_of_ble_eq_true rfl⟩ rfl rfl rfl rfl rfl hP (rf_DX hD) hS rfl hl.1 (rest := [.ref (a 0)]) rfl (Nat.le_of_ble_eq_true rfl) dX10_judge_2 (fun H locs hP hS => ?_)
  refine lv_iconst (v := 1) hx hb dX10_judge_5 (by decide) ?_
  obtain ⟨z6, hz6, hf⟩ := rf_bd hf
  refine rf_vi (q0 := 0) (ci := 10) hC (c_X10_refused l E a P (rf_upL I [(3, x_lastTrouble)]) J A B x_lastTrouble z2 1 rfl hz6) kV_X10_refused tw_455 ⟨Nat.le_of_ble_eq_true rfl, Nat.le_of_ble_eq_true rfl⟩ rfl rfl rfl rfl rfl hP (rf_DX hD) hS rfl hl.1 (rest := []) rfl (Nat.le_of_ble_eq_true rfl) dX10_judge_6 (fun H locs hP hS => ?_)
  rw [rf_cat (f := I) (l := [(3, x_lastTrouble)]) (lc := [(3, z6.2)]) (l' := [(3, z6.2)]) rfl] at hP
  refine lv_if_eq (tgt := 14) hx hb dX10_judge_9 (by decide) (fun c_9 => ?_) (fun c_9 => ?_)
  · have hf := rf_it c_9 hf
    refine lv_aload_n hx hb dX10_judge_14 rfl (lv_at hl 0 rfl) ?_
    refine gX_x_hearing hC hP tw_396 dX10_judge_15 ?_
    refine lv_aload_n hx hb dX10_judge_18 rfl (lv_at hl 0 rfl) ?_
    refine gX_x_tale hC hP tw_401 (v := a 10) hp0 dX10_judge_19 ?_
    refine gX_tc_ear hC hP tw_115 (v := tc_ear) e_tc_ear dX10_judge_22 ?_
    obtain ⟨z25, hz25, hf⟩ := rf_bd hf
    refine rf_vi (q0 := 5) (ci := 1) hC (c_X1_firstUntrue l E a P (rf_upL I [(3, z6.2)]) J A B tc_wordCount tc_gotCount now_words tc_kinds tc_gotFirst tc_gotSecond tc_gotDegree tc_close tc_ear hp2 e_tc_wordCount e_tc_gotCount e_now_words e_tc_kinds e_tc_gotFirst e_tc_gotSecond e_tc_gotDegree e_tc_close hz25) kV_X1_firstUntrue tw_958 ⟨Nat.le_of_ble_eq_true rfl, Nat.le_of_ble_eq_true rfl⟩ rfl rfl rfl rfl rfl hP (rf_DX hD) hS rfl hl.1 (rest := []) rfl (Nat.le_of_ble_eq_true rfl) dX10_judge_25 (fun H locs hP hS => ?_)
    obtain rfl := Option.some.inj hf
    exact rf_reti hC hP hS rfl rfl dX10_judge_28
  have hf := rf_ie c_9 hf
  refine lv_iconst (v := (-1)) hx hb dX10_judge_12 (by decide) ?_
  obtain rfl := Option.some.inj hf
  exact rf_reti hC hP hS rfl rfl dX10_judge_13
set_option maxHeartbeats 4000000 in
set_option maxRecDepth 100000 in
theorem w_X3_leastCoinsIn_86 {l : Launch} {p : Program} {e : Env} {s : State} {m : MethodId} {args : Array Value} {below : List Frame} {meth : Method} {c : Code} {A0 : Nat → Prop} {E : rf_E} {a P : Nat → Nat} {I : Nat → Int32} {J : Nat → Int64} {A : Nat → Nat → Int32} {B : Nat → Nat → Int64} {pairing_best : Nat → Int32} {purse_coins : Nat → Int32} {z : Int32} (hC : rf_C p E s m args meth c cX3_leastCoinsIn 7 RX3 (some .int) A0) (hD : va_D A0 (cX E a P I J A B)) (e_pairing_best : A 5 = pairing_best) (e_purse_coins : A 6 = purse_coins) :
    ∀ (v4 : Int32), f_X3_leastCoinsIn_86 pairing_best purse_coins v4 = some z → ∀ (H : Heap) (locs : List Loc) (ls : Array Slot), va_P (rf_D E) vwCl (cX E a P I J A B) H → va_S A0 s.heap H locs → lv_has ls 7 [(4, .int v4)] → W p l e ({ frames := 2, cells := 0, slots := 0, locals := 42 }) s m args below meth c H locs 0 0 (rf_QI below args s E A0 z (cX E a P I J A B)) (F0 m 86 ls []) := by
  have hx := hC.1
  have hb := hC.2.1
  intro v4 hf H locs ls hP hS hl
  unfold f_X3_leastCoinsIn_86 at hf
  refine lv_iload hx hb dX3_leastCoinsIn_86 (lv_at hl 0 rfl) ?_
  obtain rfl := Option.some.inj hf
  exact rf_reti hC hP hS rfl rfl dX3_leastCoinsIn_88
set_option maxHeartbeats 4000000 in
set_option maxRecDepth 100000 in
theorem w_X3_leastCoinsIn_80 {l : Launch} {p : Program} {e : Env} {s : State} {m : MethodId} {args : Array Value} {below : List Frame} {meth : Method} {c : Code} {A0 : Nat → Prop} {E : rf_E} {a P : Nat → Nat} {I : Nat → Int32} {J : Nat → Int64} {A : Nat → Nat → Int32} {B : Nat → Nat → Int64} {pairing_best : Nat → Int32} {purse_coins : Nat → Int32} {z : Int32} (hC : rf_C p E s m args meth c cX3_leastCoinsIn 7 RX3 (some .int) A0) (hD : va_D A0 (cX E a P I J A B)) (e_pairing_best : A 5 = pairing_best) (e_purse_coins : A 6 = purse_coins) {k14 : Int32 → Int32 → Int32 → Int32 → Option (Int32)} (hk14 : ∀ (v2 : Int32) (v3 : Int32) (v4 : Int32) (v5 : Int32), k14 v2 v3 v4 v5 = some z → ∀ (H : Heap) (locs : List Loc) (ls : Array Slot), va_P (rf_D E) vwCl (cX E a P I J A B) H → va_S A0 s.heap H locs → lv_has ls 7 [(0, .ref (a 3)), (1, .ref (a 19)), (2, .int v2), (3, .int v3), (4, .int v4), (5, .int v5)] → W p l e ({ frames := 2, cells := 0, slots := 0, locals := 42 }) s m args below meth c H locs 0 0 (rf_QI below args s E A0 z (cX E a P I J A B)) (F0 m 14 ls [])) :
    ∀ (v2 : Int32) (v3 : Int32) (v4 : Int32) (v5 : Int32), f_X3_leastCoinsIn_80 k14 pairing_best purse_coins v2 v3 v4 v5 = some z → ∀ (H : Heap) (locs : List Loc) (ls : Array Slot), va_P (rf_D E) vwCl (cX E a P I J A B) H → va_S A0 s.heap H locs → lv_has ls 7 [(0, .ref (a 3)), (1, .ref (a 19)), (2, .int v2), (3, .int v3), (4, .int v4), (5, .int v5)] → W p l e ({ frames := 2, cells := 0, slots := 0, locals := 42 }) s m args below meth c H locs 0 0 (rf_QI below args s E A0 z (cX E a P I J A B)) (F0 m 80 ls []) := by
  have hx := hC.1
  have hb := hC.2.1
  intro v2 v3 v4 v5 hf H locs ls hP hS hl
  unfold f_X3_leastCoinsIn_80 at hf
  refine lv_iinc (v := v5 + 1) (lv' := [(5, .int (v5 + 1)), (0, .ref (a 3)), (1, .ref (a 19)), (2, .int v2), (3, .int v3), (4, .int v4)]) hx hb dX3_leastCoinsIn_80 hl (k := 5) rfl rfl (by decide) rfl (fun ls hl => ?_)
  refine lv_goto (tgt := 14) hx hb dX3_leastCoinsIn_83 (by decide) ?_
  exact hk14 v2 v3 v4 (v5 + 1) hf _ _ _ hP hS (lv_sub hl [1, 2, 3, 4, 5, 0] rfl)
set_option maxHeartbeats 4000000 in
set_option maxRecDepth 100000 in
theorem w_X3_leastCoinsIn_14 {l : Launch} {p : Program} {e : Env} {s : State} {m : MethodId} {args : Array Value} {below : List Frame} {meth : Method} {c : Code} {A0 : Nat → Prop} {E : rf_E} {a P : Nat → Nat} {I : Nat → Int32} {J : Nat → Int64} {A : Nat → Nat → Int32} {B : Nat → Nat → Int64} {pairing_best : Nat → Int32} {purse_coins : Nat → Int32} {z : Int32} (hC : rf_C p E s m args meth c cX3_leastCoinsIn 7 RX3 (some .int) A0) (hD : va_D A0 (cX E a P I J A B)) (e_pairing_best : A 5 = pairing_best) (e_purse_coins : A 6 = purse_coins) :
    ∀ (n : Nat), ∀ (v2 : Int32) (v3 : Int32) (v4 : Int32) (v5 : Int32), f_X3_leastCoinsIn_14 pairing_best purse_coins n v2 v3 v4 v5 = some z → ∀ (H : Heap) (locs : List Loc) (ls : Array Slot), va_P (rf_D E) vwCl (cX E a P I J A B) H → va_S A0 s.heap H locs → lv_has ls 7 [(0, .ref (a 3)), (1, .ref (a 19)), (2, .int v2), (3, .int v3), (4, .int v4), (5, .int v5)] → W p l e ({ frames := 2, cells := 0, slots := 0, locals := 42 }) s m args below meth c H locs 0 0 (rf_QI below args s E A0 z (cX E a P I J A B)) (F0 m 14 ls []) := by
  have hx := hC.1
  have hb := hC.2.1
  intro n
  induction n with
  | zero =>
    intro v2 v3 v4 v5 hf
    have hf : (none : Option (Int32)) = some z := hf
    cases hf
  | succ n ih =>
    intro v2 v3 v4 v5 hf H locs ls hP hS hl
    rw [f_X3_leastCoinsIn_14] at hf
    refine lv_iload_n hx hb dX3_leastCoinsIn_14 rfl (lv_at hl 3 rfl) ?_
    refine lv_iconst (v := (-1)) hx hb dX3_leastCoinsIn_15 (by decide) ?_
    refine lv_icmp_eq (tgt := 86) hx hb dX3_leastCoinsIn_16 (by decide) (fun c_16 => ?_) (fun c_16 => ?_)
    · have hf := rf_it c_16 hf
      exact w_X3_leastCoinsIn_86 hC hD e_pairing_best e_purse_coins v4 hf _ _ _ hP hS (lv_sub hl [4] rfl)
    have hf := rf_ie c_16 hf
    refine lv_iload hx hb dX3_leastCoinsIn_19 (lv_at hl 5 rfl) ?_
    refine lv_bipush (v := 8) hx hb dX3_leastCoinsIn_21 (by decide) ?_
    refine lv_icmp_ge (tgt := 86) hx hb dX3_leastCoinsIn_23 (by decide) (fun c_23 => ?_) (fun c_23 => ?_)
    · have hf := rf_it c_23 hf
      exact w_X3_leastCoinsIn_86 hC hD e_pairing_best e_purse_coins v4 hf _ _ _ hP hS (lv_sub hl [4] rfl)
    have hf := rf_ie c_23 hf
    refine lv_aload_n hx hb dX3_leastCoinsIn_26 rfl (lv_at hl 1 rfl) ?_
    refine lv_iload_n hx hb dX3_leastCoinsIn_27 rfl (lv_at hl 3 rfl) ?_
    refine lv_bipush (v := 8) hx hb dX3_leastCoinsIn_28 (by decide) ?_
    refine lv_imul hx hb dX3_leastCoinsIn_30 ?_
    refine lv_iload hx hb dX3_leastCoinsIn_31 (lv_at hl 5 rfl) ?_
    refine lv_iadd hx hb dX3_leastCoinsIn_33 ?_
    obtain ⟨hi_34, hf⟩ := rf_gu hf
    refine lX_purse_coins hC hP hi_34 (f := purse_coins) e_purse_coins dX3_leastCoinsIn_34 ?_
    refine lv_istore (lv' := [(6, .int (purse_coins (Int32.toNatClampNeg ((v3 * 8) + v5)))), (0, .ref (a 3)), (1, .ref (a 19)), (2, .int v2), (3, .int v3), (4, .int v4), (5, .int v5)]) hx hb dX3_leastCoinsIn_35 hl (by decide) rfl (fun ls hl => ?_)
    refine lv_iload_n hx hb dX3_leastCoinsIn_37 rfl (lv_at hl 3 rfl) ?_
    refine lv_iload hx hb dX3_leastCoinsIn_38 (lv_at hl 6 rfl) ?_
    obtain ⟨z40, hz40, hf⟩ := rf_bd hf
    refine rf_sn0 hC (c_X10_holds l E v2 v5 hz40) kS_X10_holds nw_917 ⟨Nat.le_of_ble_eq_true rfl, Nat.le_of_ble_eq_true rfl⟩ rfl rfl hP hS rfl hl.1 (rest := []) rfl (Nat.le_of_ble_eq_true rfl) dX3_leastCoinsIn_40 (fun H locs hP hS => ?_)
    refine lv_if_eq (tgt := 80) hx hb dX3_leastCoinsIn_43 (by decide) (fun c_43 => ?_) (fun c_43 => ?_)
    · have hf := rf_it c_43 hf
      exact w_X3_leastCoinsIn_80 hC hD e_pairing_best e_purse_coins ih v2 v3 v4 v5 hf _ _ _ hP hS (lv_sub hl [1, 2, 3, 4, 5, 6] rfl)
    have hf := rf_ie c_43 hf
    refine lv_iload hx hb dX3_leastCoinsIn_46 (lv_at hl 0 rfl) ?_
    refine lv_if_lt (tgt := 80) hx hb dX3_leastCoinsIn_48 (by decide) (fun c_48 => ?_) (fun c_48 => ?_)
    · have hf := rf_it c_48 hf
      exact w_X3_leastCoinsIn_80 hC hD e_pairing_best e_purse_coins ih v2 v3 v4 v5 hf _ _ _ hP hS (lv_sub hl [1, 2, 3, 4, 5, 6] rfl)
    have hf := rf_ie c_48 hf
    refine lv_iload hx hb dX3_leastCoinsIn_51 (lv_at hl 5 rfl) ?_
    refine lv_iload hx hb dX3_leastCoinsIn_53 (lv_at hl 0 rfl) ?_
    refine lv_aload_n hx hb dX3_leastCoinsIn_55 rfl (lv_at hl 1 rfl) ?_
    refine gX_pairing_best hC hP tw_215 dX3_leastCoinsIn_56 ?_
    refine lv_iload_n hx hb dX3_leastCoinsIn_59 rfl (lv_at hl 3 rfl) ?_
    refine lv_iconst (v := 1) hx hb dX3_leastCoinsIn_60 (by decide) ?_
    refine lv_iload_n hx hb dX3_leastCoinsIn_61 rfl (lv_at hl 4 rfl) ?_
    refine lv_ishl hx hb dX3_leastCoinsIn_62 ?_
    refine lv_iconst (v := (-1)) hx hb dX3_leastCoinsIn_63 (by decide) ?_
    refine lv_ixor hx hb dX3_leastCoinsIn_64 ?_
    refine lv_iand hx hb dX3_leastCoinsIn_65 ?_
    refine lv_iconst (v := 1) hx hb dX3_leastCoinsIn_66 (by decide) ?_
    refine lv_iload hx hb dX3_leastCoinsIn_67 (lv_at hl 6 rfl) ?_
    refine lv_ishl hx hb dX3_leastCoinsIn_69 ?_
    refine lv_iconst (v := (-1)) hx hb dX3_leastCoinsIn_70 (by decide) ?_
    refine lv_ixor hx hb dX3_leastCoinsIn_71 ?_
    refine lv_iand hx hb dX3_leastCoinsIn_72 ?_
    obtain ⟨hi_73, hf⟩ := rf_gu hf
    refine lX_pairing_best hC hP hi_73 (f := pairing_best) e_pairing_best dX3_leastCoinsIn_73 ?_
    refine lv_iadd hx hb dX3_leastCoinsIn_74 ?_
    refine va_mmin hx hb (by rw [hC.2.2.1]; exact hl.1.symm) hC.2.2.2.1 (hC.2.2.2.2.1 _ tw_987) (hC.2.2.2.2.1 _ rf_min.1) (hC.2.2.2.2.1 _ rf_min.2.1) (hC.2.2.2.2.1 _ rf_min.2.2) (Nat.le_of_ble_eq_true rfl) (Nat.le_of_ble_eq_true rfl) (Nat.zero_le _) (Nat.zero_le _) dX3_leastCoinsIn_75 ?_
    refine lv_istore (lv' := [(4, .int (if ((purse_coins (Int32.toNatClampNeg ((v3 * 8) + v5))) + (pairing_best (Int32.toNatClampNeg ((v2 &&& (((1 : Int32) <<< (v3 &&& 31)) ^^^ (-1))) &&& (((1 : Int32) <<< (v5 &&& 31)) ^^^ (-1)))))) < v4 then ((purse_coins (Int32.toNatClampNeg ((v3 * 8) + v5))) + (pairing_best (Int32.toNatClampNeg ((v2 &&& (((1 : Int32) <<< (v3 &&& 31)) ^^^ (-1))) &&& (((1 : Int32) <<< (v5 &&& 31)) ^^^ (-1)))))) else v4)), (6, .int (purse_coins (Int32.toNatClampNeg ((v3 * 8) + v5)))), (0, .ref (a 3)), (1, .ref (a 19)), (2, .int v2), (3, .int v3), (5, .int v5)]) hx hb dX3_leastCoinsIn_78 hl (by decide) rfl (fun ls hl => ?_)
    exact w_X3_leastCoinsIn_80 hC hD e_pairing_best e_purse_coins ih v2 v3 (if ((purse_coins (Int32.toNatClampNeg ((v3 * 8) + v5))) + (pairing_best (Int32.toNatClampNeg ((v2 &&& (((1 : Int32) <<< (v3 &&& 31)) ^^^ (-1))) &&& (((1 : Int32) <<< (v5 &&& 31)) ^^^ (-1)))))) < v4 then ((purse_coins (Int32.toNatClampNeg ((v3 * 8) + v5))) + (pairing_best (Int32.toNatClampNeg ((v2 &&& (((1 : Int32) <<< (v3 &&& 31)) ^^^ (-1))) &&& (((1 : Int32) <<< (v5 &&& 31)) ^^^ (-1)))))) else v4) v5 hf _ _ _ hP hS (lv_sub hl [2, 3, 4, 5, 0, 6] rfl)
set_option maxHeartbeats 4000000 in
set_option maxRecDepth 100000 in
theorem c_X3_leastCoinsIn (l : Launch) (E : rf_E) (a P : Nat → Nat) (I : Nat → Int32) (J : Nat → Int64) (A : Nat → Nat → Int32) (B : Nat → Nat → Int64) (pairing_best : Nat → Int32) (purse_coins : Nat → Int32) (v2 : Int32) {z : Int32} (e_pairing_best : A 5 = pairing_best) (e_purse_coins : A 6 = purse_coins) (hf : f_X3_leastCoinsIn pairing_best purse_coins v2 = some z) : rf_MI l yX3_leastCoinsIn cX3_leastCoinsIn 7 (some .int) ({ frames := 2, cells := 0, slots := 0, locals := 42 }) E [.ref (a 3), .ref (a 19), .int v2] (cX E a P I J A B) z (cX E a P I J A B) := by
  unfold f_X3_leastCoinsIn at hf
  refine rf_ofI (by decide) (Nat.le_of_ble_eq_true rfl) ?_
  intro p e s m below meth c A0 ls hC hD hP hS hl
  have hC : rf_C p E s m _ meth c cX3_leastCoinsIn 7 RX3 (some .int) A0 := hC
  have hx := hC.1
  have hb := hC.2.1
  have hl : lv_has ls 7 [(0, .ref (a 3)), (1, .ref (a 19)), (2, .int v2)] := hl
  refine lv_iload_n hx hb dX3_leastCoinsIn_0 rfl (lv_at hl 2 rfl) ?_
  obtain ⟨z1, hz1, hf⟩ := rf_bd hf
  refine rf_si0 hC (c_X3_leastOf l E v2 hz1) kS_X3_leastOf tw_914 ⟨Nat.le_of_ble_eq_true rfl, Nat.le_of_ble_eq_true rfl⟩ rfl rfl hP hS rfl hl.1 (rest := []) rfl (Nat.le_of_ble_eq_true rfl) dX3_leastCoinsIn_1 (fun H locs hP hS => ?_)
  refine lv_istore_n (lv' := [(3, .int z1), (0, .ref (a 3)), (1, .ref (a 19)), (2, .int v2)]) hx hb dX3_leastCoinsIn_4 rfl hl (by decide) rfl (fun ls hl => ?_)
  refine lv_ldc hx hb hC.2.2.2.1 (hC.2.2.2.2.1 _ tw_986) dX3_leastCoinsIn_5 ?_
  refine lv_istore (lv' := [(4, .int 1000000), (3, .int z1), (0, .ref (a 3)), (1, .ref (a 19)), (2, .int v2)]) hx hb dX3_leastCoinsIn_7 hl (by decide) rfl (fun ls hl => ?_)
  refine lv_iload_n hx hb dX3_leastCoinsIn_9 rfl (lv_at hl 1 rfl) ?_
  refine lv_iconst (v := 1) hx hb dX3_leastCoinsIn_10 (by decide) ?_
  refine lv_iadd hx hb dX3_leastCoinsIn_11 ?_
  refine lv_istore (lv' := [(5, .int (z1 + 1)), (4, .int 1000000), (3, .int z1), (0, .ref (a 3)), (1, .ref (a 19)), (2, .int v2)]) hx hb dX3_leastCoinsIn_12 hl (by decide) rfl (fun ls hl => ?_)
  exact w_X3_leastCoinsIn_14 hC hD e_pairing_best e_purse_coins rf_fu v2 z1 1000000 (z1 + 1) hf _ _ _ hP hS (lv_sub hl [3, 4, 5, 2, 1, 0] rfl)
set_option maxHeartbeats 4000000 in
set_option maxRecDepth 100000 in
theorem w_X3_leastCoins_47 {l : Launch} {p : Program} {e : Env} {s : State} {m : MethodId} {args : Array Value} {below : List Frame} {meth : Method} {c : Code} {A0 : Nat → Prop} {E : rf_E} {a P : Nat → Nat} {I : Nat → Int32} {J : Nat → Int64} {A : Nat → Nat → Int32} {B : Nat → Nat → Int64} {purse_coins : Nat → Int32} {z : Int32 × (Nat → Int32)} (hC : rf_C p E s m args meth c cX3_leastCoins 4 RX3 (some .int) A0) (hD : va_D A0 (cX E a P I J A B)) (e_purse_coins : A 6 = purse_coins) :
    ∀ (v2 : Int32) (pairing_best : Nat → Int32), f_X3_leastCoins_47 purse_coins v2 pairing_best = some z → ∀ (H : Heap) (locs : List Loc) (ls : Array Slot), va_P (rf_D E) vwCl (cX E a P I J (rf_upL A [(5, pairing_best)]) B) H → va_S A0 s.heap H locs → lv_has ls 4 [(0, .ref (a 3)), (2, .int v2)] → W p l e ({ frames := 3, cells := 0, slots := 0, locals := 68 }) s m args below meth c H locs 0 0 (rf_QI below args s E A0 z.1 (cX E a P I J (rf_upL A [(5, z.2)]) B)) (F0 m 47 ls []) := by
  have hx := hC.1
  have hb := hC.2.1
  intro v2 pairing_best hf H locs ls hP hS hl
  unfold f_X3_leastCoins_47 at hf
  refine lv_aload_n hx hb dX3_leastCoins_47 rfl (lv_at hl 0 rfl) ?_
  refine gX_pairing_best hC hP tw_215 dX3_leastCoins_48 ?_
  refine lv_iload_n hx hb dX3_leastCoins_51 rfl (lv_at hl 1 rfl) ?_
  refine lv_sipush (v := 255) hx hb dX3_leastCoins_52 (by decide) ?_
  refine lv_iand hx hb dX3_leastCoins_55 ?_
  obtain ⟨hi_56, hf⟩ := rf_gu hf
  refine lX_pairing_best hC hP hi_56 (f := pairing_best) rfl dX3_leastCoins_56 ?_
  refine lv_istore_n (lv' := [(3, .int (pairing_best (Int32.toNatClampNeg (v2 &&& 255)))), (0, .ref (a 3)), (2, .int v2)]) hx hb dX3_leastCoins_57 rfl hl (by decide) rfl (fun ls hl => ?_)
  refine lv_iload_n hx hb dX3_leastCoins_58 rfl (lv_at hl 0 rfl) ?_
  refine lv_ldc hx hb hC.2.2.2.1 (hC.2.2.2.2.1 _ tw_986) dX3_leastCoins_59 ?_
  refine lv_icmp_ge (tgt := 68) hx hb dX3_leastCoins_61 (by decide) (fun c_61 => ?_) (fun c_61 => ?_)
  · have hf := rf_it c_61 hf
    refine lv_bipush (v := (-2)) hx hb dX3_leastCoins_68 (by decide) ?_
    obtain rfl := Option.some.inj hf
    exact rf_reti hC hP hS rfl rfl dX3_leastCoins_70
  have hf := rf_ie c_61 hf
  refine lv_iload_n hx hb dX3_leastCoins_64 rfl (lv_at hl 0 rfl) ?_
  refine lv_goto (tgt := 70) hx hb dX3_leastCoins_65 (by decide) ?_
  obtain rfl := Option.some.inj hf
  exact rf_reti hC hP hS rfl rfl dX3_leastCoins_70
set_option maxHeartbeats 4000000 in
set_option maxRecDepth 100000 in
theorem w_X3_leastCoins_41 {l : Launch} {p : Program} {e : Env} {s : State} {m : MethodId} {args : Array Value} {below : List Frame} {meth : Method} {c : Code} {A0 : Nat → Prop} {E : rf_E} {a P : Nat → Nat} {I : Nat → Int32} {J : Nat → Int64} {A : Nat → Nat → Int32} {B : Nat → Nat → Int64} {purse_coins : Nat → Int32} {z : Int32 × (Nat → Int32)} (hC : rf_C p E s m args meth c cX3_leastCoins 4 RX3 (some .int) A0) (hD : va_D A0 (cX E a P I J A B)) (e_purse_coins : A 6 = purse_coins) {k9 : Int32 → Int32 → (Nat → Int32) → Option (Int32 × (Nat → Int32))} (hk9 : ∀ (v2 : Int32) (v3 : Int32) (pairing_best : Nat → Int32), k9 v2 v3 pairing_best = some z → ∀ (H : Heap) (locs : List Loc) (ls : Array Slot), va_P (rf_D E) vwCl (cX E a P I J (rf_upL A [(5, pairing_best)]) B) H → va_S A0 s.heap H locs → lv_has ls 4 [(0, .ref (a 3)), (1, .ref (a 19)), (2, .int v2), (3, .int v3)] → W p l e ({ frames := 3, cells := 0, slots := 0, locals := 68 }) s m args below meth c H locs 0 0 (rf_QI below args s E A0 z.1 (cX E a P I J (rf_upL A [(5, z.2)]) B)) (F0 m 9 ls [])) :
    ∀ (v2 : Int32) (v3 : Int32) (pairing_best : Nat → Int32), f_X3_leastCoins_41 k9 purse_coins v2 v3 pairing_best = some z → ∀ (H : Heap) (locs : List Loc) (ls : Array Slot), va_P (rf_D E) vwCl (cX E a P I J (rf_upL A [(5, pairing_best)]) B) H → va_S A0 s.heap H locs → lv_has ls 4 [(0, .ref (a 3)), (1, .ref (a 19)), (2, .int v2), (3, .int v3)] → W p l e ({ frames := 3, cells := 0, slots := 0, locals := 68 }) s m args below meth c H locs 0 0 (rf_QI below args s E A0 z.1 (cX E a P I J (rf_upL A [(5, z.2)]) B)) (F0 m 41 ls []) := by
  have hx := hC.1
  have hb := hC.2.1
  intro v2 v3 pairing_best hf H locs ls hP hS hl
  unfold f_X3_leastCoins_41 at hf
  refine lv_iinc (v := v3 + 1) (lv' := [(3, .int (v3 + 1)), (0, .ref (a 3)), (1, .ref (a 19)), (2, .int v2)]) hx hb dX3_leastCoins_41 hl (k := 3) rfl rfl (by decide) rfl (fun ls hl => ?_)
  refine lv_goto (tgt := 9) hx hb dX3_leastCoins_44 (by decide) ?_
  exact hk9 v2 (v3 + 1) pairing_best hf _ _ _ hP hS (lv_sub hl [1, 2, 3, 0] rfl)
set_option maxHeartbeats 4000000 in
set_option maxRecDepth 100000 in
theorem w_X3_leastCoins_9 {l : Launch} {p : Program} {e : Env} {s : State} {m : MethodId} {args : Array Value} {below : List Frame} {meth : Method} {c : Code} {A0 : Nat → Prop} {E : rf_E} {a P : Nat → Nat} {I : Nat → Int32} {J : Nat → Int64} {A : Nat → Nat → Int32} {B : Nat → Nat → Int64} {purse_coins : Nat → Int32} {z : Int32 × (Nat → Int32)} (hC : rf_C p E s m args meth c cX3_leastCoins 4 RX3 (some .int) A0) (hD : va_D A0 (cX E a P I J A B)) (e_purse_coins : A 6 = purse_coins) :
    ∀ (n : Nat), ∀ (v2 : Int32) (v3 : Int32) (pairing_best : Nat → Int32), f_X3_leastCoins_9 purse_coins n v2 v3 pairing_best = some z → ∀ (H : Heap) (locs : List Loc) (ls : Array Slot), va_P (rf_D E) vwCl (cX E a P I J (rf_upL A [(5, pairing_best)]) B) H → va_S A0 s.heap H locs → lv_has ls 4 [(0, .ref (a 3)), (1, .ref (a 19)), (2, .int v2), (3, .int v3)] → W p l e ({ frames := 3, cells := 0, slots := 0, locals := 68 }) s m args below meth c H locs 0 0 (rf_QI below args s E A0 z.1 (cX E a P I J (rf_upL A [(5, z.2)]) B)) (F0 m 9 ls []) := by
  have hx := hC.1
  have hb := hC.2.1
  intro n
  induction n with
  | zero =>
    intro v2 v3 pairing_best hf
    have hf : (none : Option (Int32 × (Nat → Int32))) = some z := hf
    cases hf
  | succ n ih =>
    intro v2 v3 pairing_best hf H locs ls hP hS hl
    rw [f_X3_leastCoins_9] at hf
    refine lv_iload_n hx hb dX3_leastCoins_9 rfl (lv_at hl 3 rfl) ?_
    refine lv_iload_n hx hb dX3_leastCoins_10 rfl (lv_at hl 2 rfl) ?_
    refine lv_icmp_gt (tgt := 47) hx hb dX3_leastCoins_11 (by decide) (fun c_11 => ?_) (fun c_11 => ?_)
    · have hf := rf_it c_11 hf
      exact w_X3_leastCoins_47 hC hD e_purse_coins v2 pairing_best hf _ _ _ hP hS (lv_sub hl [0, 2] rfl)
    have hf := rf_ie c_11 hf
    refine lv_iload_n hx hb dX3_leastCoins_14 rfl (lv_at hl 3 rfl) ?_
    refine lv_sipush (v := 256) hx hb dX3_leastCoins_15 (by decide) ?_
    refine lv_icmp_ge (tgt := 47) hx hb dX3_leastCoins_18 (by decide) (fun c_18 => ?_) (fun c_18 => ?_)
    · have hf := rf_it c_18 hf
      exact w_X3_leastCoins_47 hC hD e_purse_coins v2 pairing_best hf _ _ _ hP hS (lv_sub hl [0, 2] rfl)
    have hf := rf_ie c_18 hf
    refine lv_iload_n hx hb dX3_leastCoins_21 rfl (lv_at hl 3 rfl) ?_
    refine lv_iload_n hx hb dX3_leastCoins_22 rfl (lv_at hl 2 rfl) ?_
    refine lv_iconst (v := (-1)) hx hb dX3_leastCoins_23 (by decide) ?_
    refine lv_ixor hx hb dX3_leastCoins_24 ?_
    refine lv_iand hx hb dX3_leastCoins_25 ?_
    refine lv_if_ne (tgt := 41) hx hb dX3_leastCoins_26 (by decide) (fun c_26 => ?_) (fun c_26 => ?_)
    · have hf := rf_ie c_26 hf
      exact w_X3_leastCoins_41 hC hD e_purse_coins ih v2 v3 pairing_best hf _ _ _ hP hS (lv_sub hl [0, 1, 2, 3] rfl)
    have hf := rf_it c_26 hf
    refine lv_aload_n hx hb dX3_leastCoins_29 rfl (lv_at hl 0 rfl) ?_
    refine gX_pairing_best hC hP tw_215 dX3_leastCoins_30 ?_
    refine lv_iload_n hx hb dX3_leastCoins_33 rfl (lv_at hl 3 rfl) ?_
    refine lv_aload_n hx hb dX3_leastCoins_34 rfl (lv_at hl 0 rfl) ?_
    refine lv_aload_n hx hb dX3_leastCoins_35 rfl (lv_at hl 1 rfl) ?_
    refine lv_iload_n hx hb dX3_leastCoins_36 rfl (lv_at hl 3 rfl) ?_
    obtain ⟨z37, hz37, hf⟩ := rf_bd hf
    refine rf_vi (q0 := 3) (ci := 3) hC (c_X3_leastCoinsIn l E a P I J (rf_upL A [(5, pairing_best)]) B pairing_best purse_coins v3 rfl e_purse_coins hz37) kV_X3_leastCoinsIn tw_982 ⟨Nat.le_of_ble_eq_true rfl, Nat.le_of_ble_eq_true rfl⟩ rfl rfl rfl rfl rfl hP (rf_DX hD) hS rfl hl.1 (rest := [.int v3, .ref (a 18)]) rfl (Nat.le_of_ble_eq_true rfl) dX3_leastCoins_37 (fun H locs hP hS => ?_)
    obtain ⟨hi_40, hf⟩ := rf_gu hf
    refine sX_pairing_best hC hD hP hS hi_40 (f := pairing_best) rfl dX3_leastCoins_40 (rf_upL A [(5, upd pairing_best (Int32.toNatClampNeg v3) z37)]) (rf_put rfl) (fun H locs hP hS => ?_)
    exact w_X3_leastCoins_41 hC hD e_purse_coins ih v2 v3 (upd pairing_best (Int32.toNatClampNeg v3) z37) hf _ _ _ hP hS (lv_sub hl [0, 1, 2, 3] rfl)
set_option maxHeartbeats 4000000 in
set_option maxRecDepth 100000 in
theorem c_X3_leastCoins (l : Launch) (E : rf_E) (a P : Nat → Nat) (I : Nat → Int32) (J : Nat → Int64) (A : Nat → Nat → Int32) (B : Nat → Nat → Int64) (purse_coins : Nat → Int32) (pairing_best : Nat → Int32) (v2 : Int32) {z : Int32 × (Nat → Int32)} (e_purse_coins : A 6 = purse_coins) (e_pairing_best : A 5 = pairing_best) (hf : f_X3_leastCoins purse_coins pairing_best v2 = some z) : rf_MI l yX3_leastCoins cX3_leastCoins 4 (some .int) ({ frames := 3, cells := 0, slots := 0, locals := 68 }) E [.ref (a 3), .ref (a 19), .int v2] (cX E a P I J A B) z.1 (cX E a P I J (rf_upL A [(5, z.2)]) B) := by
  unfold f_X3_leastCoins at hf
  refine rf_ofI (by decide) (Nat.le_of_ble_eq_true rfl) ?_
  intro p e s m below meth c A0 ls hC hD hP hS hl
  have hC : rf_C p E s m _ meth c cX3_leastCoins 4 RX3 (some .int) A0 := hC
  have hx := hC.1
  have hb := hC.2.1
  have hl : lv_has ls 4 [(0, .ref (a 3)), (1, .ref (a 19)), (2, .int v2)] := hl
  have hP : va_P (rf_D E) vwCl (cX E a P I J (rf_upL A [(5, pairing_best)]) B) s.heap := by
    rw [rf_self (f := A) [(5, pairing_best)] (rf_fa1 e_pairing_best rf_fa0)]
    exact hP
  refine lv_aload_n hx hb dX3_leastCoins_0 rfl (lv_at hl 0 rfl) ?_
  refine gX_pairing_best hC hP tw_215 dX3_leastCoins_1 ?_
  refine lv_iconst (v := 0) hx hb dX3_leastCoins_4 (by decide) ?_
  refine lv_iconst (v := 0) hx hb dX3_leastCoins_5 (by decide) ?_
  refine sX_pairing_best hC hD hP hS (by decide) (f := pairing_best) rfl dX3_leastCoins_6 (rf_upL A [(5, upd pairing_best (Int32.toNatClampNeg 0) 0)]) (rf_put rfl) (fun H locs hP hS => ?_)
  refine lv_iconst (v := 1) hx hb dX3_leastCoins_7 (by decide) ?_
  refine lv_istore_n (lv' := [(3, .int 1), (0, .ref (a 3)), (1, .ref (a 19)), (2, .int v2)]) hx hb dX3_leastCoins_8 rfl hl (by decide) rfl (fun ls hl => ?_)
  exact w_X3_leastCoins_9 hC hD e_purse_coins rf_fu v2 1 (upd pairing_best (Int32.toNatClampNeg 0) 0) hf _ _ _ hP hS (lv_sub hl [1, 2, 3, 0] rfl)
set_option maxHeartbeats 4000000 in
set_option maxRecDepth 100000 in
theorem w_X4_coinsFor_152 {l : Launch} {p : Program} {e : Env} {s : State} {m : MethodId} {args : Array Value} {below : List Frame} {meth : Method} {c : Code} {A0 : Nat → Prop} {E : rf_E} {a P : Nat → Nat} {I : Nat → Int32} {J : Nat → Int64} {A : Nat → Nat → Int32} {B : Nat → Nat → Int64} {tc_wordCount : Int32} {now_words : Nat → Int32} {tc_prices : Nat → Int32} {tc_kinds : Nat → Int32} {tc_close : Nat → Int32} {z : Int32} (hC : rf_C p E s m args meth c cX4_coinsFor 11 RX4 (some .int) A0) (hD : va_D A0 (cX E a P I J A B)) (hp2 : P 2 = a 10) (e_tc_wordCount : I 23 = tc_wordCount) (e_now_words : A 1 = now_words) (e_tc_prices : A 13 = tc_prices) (e_tc_kinds : A 14 = tc_kinds) (e_tc_close : A 22 = tc_close) {k15 : Int32 → Int32 → Int32 → Int32 → Int32 → Option (Int32)} (hk15 : ∀ (v1 : Int32) (v2 : Int32) (v3 : Int32) (v5 : Int32) (v6 : Int32), k15 v1 v2 v3 v5 v6 = some z → ∀ (H : Heap) (locs : List Loc) (ls : Array Slot), va_P (rf_D E) vwCl (cX E a P I J A B) H → va_S A0 s.heap H locs → lv_has ls 11 [(0, .ref (a 4)), (1, .int v1), (2, .int v2), (3, .int v3), (4, .ref (a 10)), (5, .int v5), (6, .int v6)] → W p l e ({ frames := 2, cells := 0, slots := 0, locals := 43 }) s m args below meth c H locs 0 0 (rf_QI below args s E A0 z (cX E a P I J A B)) (F0 m 15 ls [])) {k82 : Int32 → Int32 → Int32 → Int32 → Int32 → Int32 → Int32 → Int32 → Option (Int32)} (hk82 : ∀ (v1 : Int32) (v2 : Int32) (v3 : Int32) (v5 : Int32) (v6 : Int32) (v7 : Int32) (v8 : Int32) (v9 : Int32), k82 v1 v2 v3 v5 v6 v7 v8 v9 = some z → ∀ (H : Heap) (locs : List Loc) (ls : Array Slot), va_P (rf_D E) vwCl (cX E a P I J A B) H → va_S A0 s.heap H locs → lv_has ls 11 [(0, .ref (a 4)), (1, .int v1), (2, .int v2), (3, .int v3), (4, .ref (a 10)), (5, .int v5), (6, .int v6), (7, .int v7), (8, .int v8), (9, .int v9)] → W p l e ({ frames := 2, cells := 0, slots := 0, locals := 43 }) s m args below meth c H locs 0 0 (rf_QI below args s E A0 z (cX E a P I J A B)) (F0 m 82 ls [])) :
    ∀ (v1 : Int32) (v2 : Int32) (v3 : Int32) (v5 : Int32) (v6 : Int32) (v7 : Int32) (v8 : Int32) (v9 : Int32), f_X4_coinsFor_152 k15 k82 tc_wordCount now_words tc_prices tc_kinds tc_close v1 v2 v3 v5 v6 v7 v8 v9 = some z → ∀ (H : Heap) (locs : List Loc) (ls : Array Slot), va_P (rf_D E) vwCl (cX E a P I J A B) H → va_S A0 s.heap H locs → lv_has ls 11 [(0, .ref (a 4)), (1, .int v1), (2, .int v2), (3, .int v3), (4, .ref (a 10)), (5, .int v5), (6, .int v6), (7, .int v7), (8, .int v8), (9, .int v9)] → W p l e ({ frames := 2, cells := 0, slots := 0, locals := 43 }) s m args below meth c H locs 0 0 (rf_QI below args s E A0 z (cX E a P I J A B)) (F0 m 152 ls []) := by
  have hx := hC.1
  have hb := hC.2.1
  intro v1 v2 v3 v5 v6 v7 v8 v9 hf H locs ls hP hS hl
  unfold f_X4_coinsFor_152 at hf
  refine lv_iinc (v := v9 + 1) (lv' := [(9, .int (v9 + 1)), (0, .ref (a 4)), (1, .int v1), (2, .int v2), (3, .int v3), (4, .ref (a 10)), (5, .int v5), (6, .int v6), (7, .int v7), (8, .int v8)]) hx hb dX4_coinsFor_152 hl (k := 9) rfl rfl (by decide) rfl (fun ls hl => ?_)
  refine lv_goto (tgt := 82) hx hb dX4_coinsFor_155 (by decide) ?_
  exact hk82 v1 v2 v3 v5 v6 v7 v8 (v9 + 1) hf _ _ _ hP hS (lv_sub hl [1, 2, 3, 4, 5, 6, 7, 8, 9, 0] rfl)
set_option maxHeartbeats 4000000 in
set_option maxRecDepth 100000 in
theorem w_X4_coinsFor_148 {l : Launch} {p : Program} {e : Env} {s : State} {m : MethodId} {args : Array Value} {below : List Frame} {meth : Method} {c : Code} {A0 : Nat → Prop} {E : rf_E} {a P : Nat → Nat} {I : Nat → Int32} {J : Nat → Int64} {A : Nat → Nat → Int32} {B : Nat → Nat → Int64} {tc_wordCount : Int32} {now_words : Nat → Int32} {tc_prices : Nat → Int32} {tc_kinds : Nat → Int32} {tc_close : Nat → Int32} {z : Int32} (hC : rf_C p E s m args meth c cX4_coinsFor 11 RX4 (some .int) A0) (hD : va_D A0 (cX E a P I J A B)) (hp2 : P 2 = a 10) (e_tc_wordCount : I 23 = tc_wordCount) (e_now_words : A 1 = now_words) (e_tc_prices : A 13 = tc_prices) (e_tc_kinds : A 14 = tc_kinds) (e_tc_close : A 22 = tc_close) {k15 : Int32 → Int32 → Int32 → Int32 → Int32 → Option (Int32)} (hk15 : ∀ (v1 : Int32) (v2 : Int32) (v3 : Int32) (v5 : Int32) (v6 : Int32), k15 v1 v2 v3 v5 v6 = some z → ∀ (H : Heap) (locs : List Loc) (ls : Array Slot), va_P (rf_D E) vwCl (cX E a P I J A B) H → va_S A0 s.heap H locs → lv_has ls 11 [(0, .ref (a 4)), (1, .int v1), (2, .int v2), (3, .int v3), (4, .ref (a 10)), (5, .int v5), (6, .int v6)] → W p l e ({ frames := 2, cells := 0, slots := 0, locals := 43 }) s m args below meth c H locs 0 0 (rf_QI below args s E A0 z (cX E a P I J A B)) (F0 m 15 ls [])) {k82 : Int32 → Int32 → Int32 → Int32 → Int32 → Int32 → Int32 → Int32 → Option (Int32)} (hk82 : ∀ (v1 : Int32) (v2 : Int32) (v3 : Int32) (v5 : Int32) (v6 : Int32) (v7 : Int32) (v8 : Int32) (v9 : Int32), k82 v1 v2 v3 v5 v6 v7 v8 v9 = some z → ∀ (H : Heap) (locs : List Loc) (ls : Array Slot), va_P (rf_D E) vwCl (cX E a P I J A B) H → va_S A0 s.heap H locs → lv_has ls 11 [(0, .ref (a 4)), (1, .int v1), (2, .int v2), (3, .int v3), (4, .ref (a 10)), (5, .int v5), (6, .int v6), (7, .int v7), (8, .int v8), (9, .int v9)] → W p l e ({ frames := 2, cells := 0, slots := 0, locals := 43 }) s m args below meth c H locs 0 0 (rf_QI below args s E A0 z (cX E a P I J A B)) (F0 m 82 ls [])) :
    ∀ (v1 : Int32) (v2 : Int32) (v3 : Int32) (v6 : Int32) (v7 : Int32) (v8 : Int32) (v9 : Int32) (v10 : Int32), f_X4_coinsFor_148 k15 k82 tc_wordCount now_words tc_prices tc_kinds tc_close v1 v2 v3 v6 v7 v8 v9 v10 = some z → ∀ (H : Heap) (locs : List Loc) (ls : Array Slot), va_P (rf_D E) vwCl (cX E a P I J A B) H → va_S A0 s.heap H locs → lv_has ls 11 [(0, .ref (a 4)), (1, .int v1), (2, .int v2), (3, .int v3), (4, .ref (a 10)), (6, .int v6), (7, .int v7), (8, .int v8), (9, .int v9), (10, .int v10)] → W p l e ({ frames := 2, cells := 0, slots := 0, locals := 43 }) s m args below meth c H locs 0 0 (rf_QI below args s E A0 z (cX E a P I J A B)) (F0 m 148 ls []) := by
  have hx := hC.1
  have hb := hC.2.1
  intro v1 v2 v3 v6 v7 v8 v9 v10 hf H locs ls hP hS hl
  unfold f_X4_coinsFor_148 at hf
  refine lv_iload hx hb dX4_coinsFor_148 (lv_at hl 9 rfl) ?_
  refine lv_istore (lv' := [(5, .int v10), (0, .ref (a 4)), (1, .int v1), (2, .int v2), (3, .int v3), (4, .ref (a 10)), (6, .int v6), (7, .int v7), (8, .int v8), (9, .int v9), (10, .int v10)]) hx hb dX4_coinsFor_150 hl (by decide) rfl (fun ls hl => ?_)
  exact w_X4_coinsFor_152 hC hD hp2 e_tc_wordCount e_now_words e_tc_prices e_tc_kinds e_tc_close hk15 hk82 v1 v2 v3 v10 v6 v7 v8 v9 hf _ _ _ hP hS (lv_sub hl [1, 2, 3, 4, 5, 0, 6, 7, 8, 9] rfl)
set_option maxHeartbeats 4000000 in
set_option maxRecDepth 100000 in
theorem w_X4_coinsFor_122 {l : Launch} {p : Program} {e : Env} {s : State} {m : MethodId} {args : Array Value} {below : List Frame} {meth : Method} {c : Code} {A0 : Nat → Prop} {E : rf_E} {a P : Nat → Nat} {I : Nat → Int32} {J : Nat → Int64} {A : Nat → Nat → Int32} {B : Nat → Nat → Int64} {tc_wordCount : Int32} {now_words : Nat → Int32} {tc_prices : Nat → Int32} {tc_kinds : Nat → Int32} {tc_close : Nat → Int32} {z : Int32} (hC : rf_C p E s m args meth c cX4_coinsFor 11 RX4 (some .int) A0) (hD : va_D A0 (cX E a P I J A B)) (hp2 : P 2 = a 10) (e_tc_wordCount : I 23 = tc_wordCount) (e_now_words : A 1 = now_words) (e_tc_prices : A 13 = tc_prices) (e_tc_kinds : A 14 = tc_kinds) (e_tc_close : A 22 = tc_close) {k15 : Int32 → Int32 → Int32 → Int32 → Int32 → Option (Int32)} (hk15 : ∀ (v1 : Int32) (v2 : Int32) (v3 : Int32) (v5 : Int32) (v6 : Int32), k15 v1 v2 v3 v5 v6 = some z → ∀ (H : Heap) (locs : List Loc) (ls : Array Slot), va_P (rf_D E) vwCl (cX E a P I J A B) H → va_S A0 s.heap H locs → lv_has ls 11 [(0, .ref (a 4)), (1, .int v1), (2, .int v2), (3, .int v3), (4, .ref (a 10)), (5, .int v5), (6, .int v6)] → W p l e ({ frames := 2, cells := 0, slots := 0, locals := 43 }) s m args below meth c H locs 0 0 (rf_QI below args s E A0 z (cX E a P I J A B)) (F0 m 15 ls [])) {k82 : Int32 → Int32 → Int32 → Int32 → Int32 → Int32 → Int32 → Int32 → Option (Int32)} (hk82 : ∀ (v1 : Int32) (v2 : Int32) (v3 : Int32) (v5 : Int32) (v6 : Int32) (v7 : Int32) (v8 : Int32) (v9 : Int32), k82 v1 v2 v3 v5 v6 v7 v8 v9 = some z → ∀ (H : Heap) (locs : List Loc) (ls : Array Slot), va_P (rf_D E) vwCl (cX E a P I J A B) H → va_S A0 s.heap H locs → lv_has ls 11 [(0, .ref (a 4)), (1, .int v1), (2, .int v2), (3, .int v3), (4, .ref (a 10)), (5, .int v5), (6, .int v6), (7, .int v7), (8, .int v8), (9, .int v9)] → W p l e ({ frames := 2, cells := 0, slots := 0, locals := 43 }) s m args below meth c H locs 0 0 (rf_QI below args s E A0 z (cX E a P I J A B)) (F0 m 82 ls [])) :
    ∀ (v1 : Int32) (v2 : Int32) (v3 : Int32) (v5 : Int32) (v6 : Int32) (v7 : Int32) (v8 : Int32) (v9 : Int32) (s0 : Int32) (s1 : Int32), f_X4_coinsFor_122 k15 k82 tc_wordCount now_words tc_prices tc_kinds tc_close v1 v2 v3 v5 v6 v7 v8 v9 s0 s1 = some z → ∀ (H : Heap) (locs : List Loc) (ls : Array Slot), va_P (rf_D E) vwCl (cX E a P I J A B) H → va_S A0 s.heap H locs → lv_has ls 11 [(0, .ref (a 4)), (1, .int v1), (2, .int v2), (3, .int v3), (4, .ref (a 10)), (5, .int v5), (6, .int v6), (7, .int v7), (8, .int v8), (9, .int v9)] → W p l e ({ frames := 2, cells := 0, slots := 0, locals := 43 }) s m args below meth c H locs 0 0 (rf_QI below args s E A0 z (cX E a P I J A B)) (F0 m 122 ls [.int s1, .int s0]) := by
  have hx := hC.1
  have hb := hC.2.1
  intro v1 v2 v3 v5 v6 v7 v8 v9 s0 s1 hf H locs ls hP hS hl
  unfold f_X4_coinsFor_122 at hf
  refine lv_iadd hx hb dX4_coinsFor_122 ?_
  refine lv_istore (lv' := [(10, .int (s0 + s1)), (0, .ref (a 4)), (1, .int v1), (2, .int v2), (3, .int v3), (4, .ref (a 10)), (5, .int v5), (6, .int v6), (7, .int v7), (8, .int v8), (9, .int v9)]) hx hb dX4_coinsFor_123 hl (by decide) rfl (fun ls hl => ?_)
  refine lv_iload hx hb dX4_coinsFor_125 (lv_at hl 8 rfl) ?_
  refine lv_iload hx hb dX4_coinsFor_127 (lv_at hl 10 rfl) ?_
  obtain ⟨z129, hz129, hf⟩ := rf_bd hf
  refine rf_sn0 hC (c_X10_holds l E v7 v9 hz129) kS_X10_holds nw_971 ⟨Nat.le_of_ble_eq_true rfl, Nat.le_of_ble_eq_true rfl⟩ rfl rfl hP hS rfl hl.1 (rest := []) rfl (Nat.le_of_ble_eq_true rfl) dX4_coinsFor_129 (fun H locs hP hS => ?_)
  refine lv_if_eq (tgt := 152) hx hb dX4_coinsFor_132 (by decide) (fun c_132 => ?_) (fun c_132 => ?_)
  · have hf := rf_it c_132 hf
    exact w_X4_coinsFor_152 hC hD hp2 e_tc_wordCount e_now_words e_tc_prices e_tc_kinds e_tc_close hk15 hk82 v1 v2 v3 v5 v6 v7 v8 v9 hf _ _ _ hP hS (lv_sub hl [1, 2, 3, 4, 5, 6, 7, 8, 9, 10] rfl)
  have hf := rf_ie c_132 hf
  refine lv_iload hx hb dX4_coinsFor_135 (lv_at hl 6 rfl) ?_
  refine lv_iconst (v := (-1)) hx hb dX4_coinsFor_137 (by decide) ?_
  refine lv_icmp_eq (tgt := 148) hx hb dX4_coinsFor_138 (by decide) (fun c_138 => ?_) (fun c_138 => ?_)
  · have hf := rf_it c_138 hf
    exact w_X4_coinsFor_148 hC hD hp2 e_tc_wordCount e_now_words e_tc_prices e_tc_kinds e_tc_close hk15 hk82 v1 v2 v3 v6 v7 v8 v9 (s0 + s1) hf _ _ _ hP hS (lv_sub hl [1, 2, 3, 4, 5, 7, 8, 9, 10, 0] rfl)
  have hf := rf_ie c_138 hf
  refine lv_iload hx hb dX4_coinsFor_141 (lv_at hl 0 rfl) ?_
  refine lv_iload hx hb dX4_coinsFor_143 (lv_at hl 6 rfl) ?_
  refine lv_icmp_ge (tgt := 152) hx hb dX4_coinsFor_145 (by decide) (fun c_145 => ?_) (fun c_145 => ?_)
  · have hf := rf_it c_145 hf
    exact w_X4_coinsFor_152 hC hD hp2 e_tc_wordCount e_now_words e_tc_prices e_tc_kinds e_tc_close hk15 hk82 v1 v2 v3 v5 v6 v7 v8 v9 hf _ _ _ hP hS (lv_sub hl [1, 2, 3, 4, 5, 6, 7, 8, 9, 10] rfl)
  have hf := rf_ie c_145 hf
  exact w_X4_coinsFor_148 hC hD hp2 e_tc_wordCount e_now_words e_tc_prices e_tc_kinds e_tc_close hk15 hk82 v1 v2 v3 v6 v7 v8 v9 (s0 + s1) hf _ _ _ hP hS (lv_sub hl [1, 2, 3, 4, 5, 7, 8, 9, 10, 0] rfl)
set_option maxHeartbeats 4000000 in
set_option maxRecDepth 100000 in
theorem w_X4_coinsFor_82 {l : Launch} {p : Program} {e : Env} {s : State} {m : MethodId} {args : Array Value} {below : List Frame} {meth : Method} {c : Code} {A0 : Nat → Prop} {E : rf_E} {a P : Nat → Nat} {I : Nat → Int32} {J : Nat → Int64} {A : Nat → Nat → Int32} {B : Nat → Nat → Int64} {tc_wordCount : Int32} {now_words : Nat → Int32} {tc_prices : Nat → Int32} {tc_kinds : Nat → Int32} {tc_close : Nat → Int32} {z : Int32} (hC : rf_C p E s m args meth c cX4_coinsFor 11 RX4 (some .int) A0) (hD : va_D A0 (cX E a P I J A B)) (hp2 : P 2 = a 10) (e_tc_wordCount : I 23 = tc_wordCount) (e_now_words : A 1 = now_words) (e_tc_prices : A 13 = tc_prices) (e_tc_kinds : A 14 = tc_kinds) (e_tc_close : A 22 = tc_close) {k15 : Int32 → Int32 → Int32 → Int32 → Int32 → Option (Int32)} (hk15 : ∀ (v1 : Int32) (v2 : Int32) (v3 : Int32) (v5 : Int32) (v6 : Int32), k15 v1 v2 v3 v5 v6 = some z → ∀ (H : Heap) (locs : List Loc) (ls : Array Slot), va_P (rf_D E) vwCl (cX E a P I J A B) H → va_S A0 s.heap H locs → lv_has ls 11 [(0, .ref (a 4)), (1, .int v1), (2, .int v2), (3, .int v3), (4, .ref (a 10)), (5, .int v5), (6, .int v6)] → W p l e ({ frames := 2, cells := 0, slots := 0, locals := 43 }) s m args below meth c H locs 0 0 (rf_QI below args s E A0 z (cX E a P I J A B)) (F0 m 15 ls [])) :
    ∀ (n : Nat), ∀ (v1 : Int32) (v2 : Int32) (v3 : Int32) (v5 : Int32) (v6 : Int32) (v7 : Int32) (v8 : Int32) (v9 : Int32), f_X4_coinsFor_82 k15 tc_wordCount now_words tc_prices tc_kinds tc_close n v1 v2 v3 v5 v6 v7 v8 v9 = some z → ∀ (H : Heap) (locs : List Loc) (ls : Array Slot), va_P (rf_D E) vwCl (cX E a P I J A B) H → va_S A0 s.heap H locs → lv_has ls 11 [(0, .ref (a 4)), (1, .int v1), (2, .int v2), (3, .int v3), (4, .ref (a 10)), (5, .int v5), (6, .int v6), (7, .int v7), (8, .int v8), (9, .int v9)] → W p l e ({ frames := 2, cells := 0, slots := 0, locals := 43 }) s m args below meth c H locs 0 0 (rf_QI below args s E A0 z (cX E a P I J A B)) (F0 m 82 ls []) := by
  have hx := hC.1
  have hb := hC.2.1
  intro n
  induction n with
  | zero =>
    intro v1 v2 v3 v5 v6 v7 v8 v9 hf
    have hf : (none : Option (Int32)) = some z := hf
    cases hf
  | succ n ih =>
    intro v1 v2 v3 v5 v6 v7 v8 v9 hf H locs ls hP hS hl
    rw [f_X4_coinsFor_82] at hf
    refine lv_iload hx hb dX4_coinsFor_82 (lv_at hl 9 rfl) ?_
    refine lv_aload hx hb dX4_coinsFor_84 (lv_at hl 4 rfl) ?_
    refine gX_tc_wordCount hC hP tw_122 (v := tc_wordCount) e_tc_wordCount dX4_coinsFor_86 ?_
    refine lv_icmp_ge (tgt := 158) hx hb dX4_coinsFor_89 (by decide) (fun c_89 => ?_) (fun c_89 => ?_)
    · have hf := rf_it c_89 hf
      refine lv_iinc (v := v6 + 1) (lv' := [(6, .int (v6 + 1)), (0, .ref (a 4)), (1, .int v1), (2, .int v2), (3, .int v3), (4, .ref (a 10)), (5, .int v5), (7, .int v7), (8, .int v8), (9, .int v9)]) hx hb dX4_coinsFor_158 hl (k := 6) rfl rfl (by decide) rfl (fun ls hl => ?_)
      refine lv_goto (tgt := 15) hx hb dX4_coinsFor_161 (by decide) ?_
      exact hk15 v1 v2 v3 v5 (v6 + 1) hf _ _ _ hP hS (lv_sub hl [1, 2, 3, 4, 5, 6, 0] rfl)
    have hf := rf_ie c_89 hf
    refine lv_iload hx hb dX4_coinsFor_92 (lv_at hl 8 rfl) ?_
    refine lv_aload_n hx hb dX4_coinsFor_94 rfl (lv_at hl 0 rfl) ?_
    refine gX_purse_rhymes hC hP tw_227 dX4_coinsFor_95 ?_
    refine gX_rhymes_now hC hP tw_188 dX4_coinsFor_98 ?_
    refine lv_iload_n hx hb dX4_coinsFor_101 rfl (lv_at hl 2 rfl) ?_
    refine lv_iload hx hb dX4_coinsFor_102 (lv_at hl 9 rfl) ?_
    obtain ⟨z104, hz104, hf⟩ := rf_bd hf
    refine rf_vi (q0 := 1) (ci := 2) hC (c_X2_has l E a P I J A B now_words v2 v9 e_now_words hz104) kV_X2_has tw_977 ⟨Nat.le_of_ble_eq_true rfl, Nat.le_of_ble_eq_true rfl⟩ rfl rfl rfl rfl rfl hP (rf_DX hD) hS rfl hl.1 (rest := [.int v8]) rfl (Nat.le_of_ble_eq_true rfl) dX4_coinsFor_104 (fun H locs hP hS => ?_)
    refine lv_if_eq (tgt := 114) hx hb dX4_coinsFor_107 (by decide) (fun c_107 => ?_) (fun c_107 => ?_)
    · have hf := rf_it c_107 hf
      refine lv_aload hx hb dX4_coinsFor_114 (lv_at hl 4 rfl) ?_
      refine gX_tc_prices hC hP tw_88 dX4_coinsFor_116 ?_
      refine lv_iload hx hb dX4_coinsFor_119 (lv_at hl 9 rfl) ?_
      obtain ⟨hi_121, hf⟩ := rf_gu hf
      refine lX_tc_prices hC hP hi_121 (f := tc_prices) e_tc_prices dX4_coinsFor_121 ?_
      exact w_X4_coinsFor_122 hC hD hp2 e_tc_wordCount e_now_words e_tc_prices e_tc_kinds e_tc_close hk15 ih v1 v2 v3 v5 v6 v7 v8 v9 v8 (tc_prices (Int32.toNatClampNeg v9)) hf _ _ _ hP hS (lv_sub hl [0, 1, 2, 3, 4, 5, 6, 7, 8, 9] rfl)
    have hf := rf_ie c_107 hf
    refine lv_iconst (v := 0) hx hb dX4_coinsFor_110 (by decide) ?_
    refine lv_goto (tgt := 122) hx hb dX4_coinsFor_111 (by decide) ?_
    exact w_X4_coinsFor_122 hC hD hp2 e_tc_wordCount e_now_words e_tc_prices e_tc_kinds e_tc_close hk15 ih v1 v2 v3 v5 v6 v7 v8 v9 v8 0 hf _ _ _ hP hS (lv_sub hl [0, 1, 2, 3, 4, 5, 6, 7, 8, 9] rfl)
set_option maxHeartbeats 4000000 in
set_option maxRecDepth 100000 in
theorem w_X4_coinsFor_77 {l : Launch} {p : Program} {e : Env} {s : State} {m : MethodId} {args : Array Value} {below : List Frame} {meth : Method} {c : Code} {A0 : Nat → Prop} {E : rf_E} {a P : Nat → Nat} {I : Nat → Int32} {J : Nat → Int64} {A : Nat → Nat → Int32} {B : Nat → Nat → Int64} {tc_wordCount : Int32} {now_words : Nat → Int32} {tc_prices : Nat → Int32} {tc_kinds : Nat → Int32} {tc_close : Nat → Int32} {z : Int32} (hC : rf_C p E s m args meth c cX4_coinsFor 11 RX4 (some .int) A0) (hD : va_D A0 (cX E a P I J A B)) (hp2 : P 2 = a 10) (e_tc_wordCount : I 23 = tc_wordCount) (e_now_words : A 1 = now_words) (e_tc_prices : A 13 = tc_prices) (e_tc_kinds : A 14 = tc_kinds) (e_tc_close : A 22 = tc_close) {k15 : Int32 → Int32 → Int32 → Int32 → Int32 → Option (Int32)} (hk15 : ∀ (v1 : Int32) (v2 : Int32) (v3 : Int32) (v5 : Int32) (v6 : Int32), k15 v1 v2 v3 v5 v6 = some z → ∀ (H : Heap) (locs : List Loc) (ls : Array Slot), va_P (rf_D E) vwCl (cX E a P I J A B) H → va_S A0 s.heap H locs → lv_has ls 11 [(0, .ref (a 4)), (1, .int v1), (2, .int v2), (3, .int v3), (4, .ref (a 10)), (5, .int v5), (6, .int v6)] → W p l e ({ frames := 2, cells := 0, slots := 0, locals := 43 }) s m args below meth c H locs 0 0 (rf_QI below args s E A0 z (cX E a P I J A B)) (F0 m 15 ls [])) :
    ∀ (v1 : Int32) (v2 : Int32) (v3 : Int32) (v5 : Int32) (v6 : Int32) (v7 : Int32) (s0 : Int32), f_X4_coinsFor_77 k15 tc_wordCount now_words tc_prices tc_kinds tc_close v1 v2 v3 v5 v6 v7 s0 = some z → ∀ (H : Heap) (locs : List Loc) (ls : Array Slot), va_P (rf_D E) vwCl (cX E a P I J A B) H → va_S A0 s.heap H locs → lv_has ls 11 [(0, .ref (a 4)), (1, .int v1), (2, .int v2), (3, .int v3), (4, .ref (a 10)), (5, .int v5), (6, .int v6), (7, .int v7)] → W p l e ({ frames := 2, cells := 0, slots := 0, locals := 43 }) s m args below meth c H locs 0 0 (rf_QI below args s E A0 z (cX E a P I J A B)) (F0 m 77 ls [.int s0]) := by
  have hx := hC.1
  have hb := hC.2.1
  intro v1 v2 v3 v5 v6 v7 s0 hf H locs ls hP hS hl
  unfold f_X4_coinsFor_77 at hf
  refine lv_istore (lv' := [(8, .int s0), (0, .ref (a 4)), (1, .int v1), (2, .int v2), (3, .int v3), (4, .ref (a 10)), (5, .int v5), (6, .int v6), (7, .int v7)]) hx hb dX4_coinsFor_77 hl (by decide) rfl (fun ls hl => ?_)
  refine lv_iconst (v := 0) hx hb dX4_coinsFor_79 (by decide) ?_
  refine lv_istore (lv' := [(9, .int 0), (8, .int s0), (0, .ref (a 4)), (1, .int v1), (2, .int v2), (3, .int v3), (4, .ref (a 10)), (5, .int v5), (6, .int v6), (7, .int v7)]) hx hb dX4_coinsFor_80 hl (by decide) rfl (fun ls hl => ?_)
  exact w_X4_coinsFor_82 hC hD hp2 e_tc_wordCount e_now_words e_tc_prices e_tc_kinds e_tc_close hk15 rf_fu v1 v2 v3 v5 v6 v7 s0 0 hf _ _ _ hP hS (lv_sub hl [2, 3, 4, 5, 6, 7, 8, 9, 1, 0] rfl)
set_option maxHeartbeats 4000000 in
set_option maxRecDepth 100000 in
theorem w_X4_coinsFor_15 {l : Launch} {p : Program} {e : Env} {s : State} {m : MethodId} {args : Array Value} {below : List Frame} {meth : Method} {c : Code} {A0 : Nat → Prop} {E : rf_E} {a P : Nat → Nat} {I : Nat → Int32} {J : Nat → Int64} {A : Nat → Nat → Int32} {B : Nat → Nat → Int64} {tc_wordCount : Int32} {now_words : Nat → Int32} {tc_prices : Nat → Int32} {tc_kinds : Nat → Int32} {tc_close : Nat → Int32} {z : Int32} (hC : rf_C p E s m args meth c cX4_coinsFor 11 RX4 (some .int) A0) (hD : va_D A0 (cX E a P I J A B)) (hp2 : P 2 = a 10) (e_tc_wordCount : I 23 = tc_wordCount) (e_now_words : A 1 = now_words) (e_tc_prices : A 13 = tc_prices) (e_tc_kinds : A 14 = tc_kinds) (e_tc_close : A 22 = tc_close) :
    ∀ (n : Nat), ∀ (v1 : Int32) (v2 : Int32) (v3 : Int32) (v5 : Int32) (v6 : Int32), f_X4_coinsFor_15 tc_wordCount now_words tc_prices tc_kinds tc_close n v1 v2 v3 v5 v6 = some z → ∀ (H : Heap) (locs : List Loc) (ls : Array Slot), va_P (rf_D E) vwCl (cX E a P I J A B) H → va_S A0 s.heap H locs → lv_has ls 11 [(0, .ref (a 4)), (1, .int v1), (2, .int v2), (3, .int v3), (4, .ref (a 10)), (5, .int v5), (6, .int v6)] → W p l e ({ frames := 2, cells := 0, slots := 0, locals := 43 }) s m args below meth c H locs 0 0 (rf_QI below args s E A0 z (cX E a P I J A B)) (F0 m 15 ls []) := by
  have hx := hC.1
  have hb := hC.2.1
  intro n
  induction n with
  | zero =>
    intro v1 v2 v3 v5 v6 hf
    have hf : (none : Option (Int32)) = some z := hf
    cases hf
  | succ n ih =>
    intro v1 v2 v3 v5 v6 hf H locs ls hP hS hl
    rw [f_X4_coinsFor_15] at hf
    refine lv_iload hx hb dX4_coinsFor_15 (lv_at hl 6 rfl) ?_
    refine lv_aload hx hb dX4_coinsFor_17 (lv_at hl 4 rfl) ?_
    refine gX_tc_wordCount hC hP tw_122 (v := tc_wordCount) e_tc_wordCount dX4_coinsFor_19 ?_
    refine lv_icmp_ge (tgt := 164) hx hb dX4_coinsFor_22 (by decide) (fun c_22 => ?_) (fun c_22 => ?_)
    · have hf := rf_it c_22 hf
      refine lv_iload hx hb dX4_coinsFor_164 (lv_at hl 5 rfl) ?_
      obtain rfl := Option.some.inj hf
      exact rf_reti hC hP hS rfl rfl dX4_coinsFor_166
    have hf := rf_ie c_22 hf
    refine lv_aload hx hb dX4_coinsFor_25 (lv_at hl 4 rfl) ?_
    refine lv_iload hx hb dX4_coinsFor_27 (lv_at hl 6 rfl) ?_
    refine lv_aload hx hb dX4_coinsFor_29 (lv_at hl 4 rfl) ?_
    refine gX_tc_kinds hC hP tw_94 dX4_coinsFor_31 ?_
    refine lv_iload_n hx hb dX4_coinsFor_34 rfl (lv_at hl 1 rfl) ?_
    obtain ⟨hi_35, hf⟩ := rf_gu hf
    refine lX_tc_kinds hC hP hi_35 (f := tc_kinds) e_tc_kinds dX4_coinsFor_35 ?_
    refine lv_aload hx hb dX4_coinsFor_36 (lv_at hl 4 rfl) ?_
    refine gX_tc_kinds hC hP tw_94 dX4_coinsFor_38 ?_
    refine lv_iload_n hx hb dX4_coinsFor_41 rfl (lv_at hl 2 rfl) ?_
    obtain ⟨hi_42, hf⟩ := rf_gu hf
    refine lX_tc_kinds hC hP hi_42 (f := tc_kinds) e_tc_kinds dX4_coinsFor_42 ?_
    refine lv_iload_n hx hb dX4_coinsFor_43 rfl (lv_at hl 3 rfl) ?_
    obtain ⟨z44, hz44, hf⟩ := rf_bd hf
    refine rf_vi (q0 := 10) (ci := 9) hC (c_X9_rhymingWords_tc l E a P I J A B tc_wordCount tc_close v6 (tc_kinds (Int32.toNatClampNeg v1)) (tc_kinds (Int32.toNatClampNeg v2)) v3 e_tc_wordCount e_tc_close hz44) kV_X9_rhymingWords tw_976 ⟨Nat.le_of_ble_eq_true rfl, Nat.le_of_ble_eq_true rfl⟩ rfl rfl rfl rfl rfl hP (rf_DX hD) hS rfl hl.1 (rest := []) rfl (Nat.le_of_ble_eq_true rfl) dX4_coinsFor_44 (fun H locs hP hS => ?_)
    refine lv_istore (lv' := [(7, .int z44), (0, .ref (a 4)), (1, .int v1), (2, .int v2), (3, .int v3), (4, .ref (a 10)), (5, .int v5), (6, .int v6)]) hx hb dX4_coinsFor_47 hl (by decide) rfl (fun ls hl => ?_)
    refine lv_aload_n hx hb dX4_coinsFor_49 rfl (lv_at hl 1 rfl) ?_
    refine gX_purse_rhymes hC hP tw_227 dX4_coinsFor_50 ?_
    refine gX_rhymes_now hC hP tw_188 dX4_coinsFor_53 ?_
    refine lv_iload_n hx hb dX4_coinsFor_56 rfl (lv_at hl 2 rfl) ?_
    refine lv_iload hx hb dX4_coinsFor_57 (lv_at hl 7 rfl) ?_
    obtain ⟨z59, hz59, hf⟩ := rf_bd hf
    refine rf_vi (q0 := 1) (ci := 2) hC (c_X2_has l E a P I J A B now_words v1 v6 e_now_words hz59) kV_X2_has tw_977 ⟨Nat.le_of_ble_eq_true rfl, Nat.le_of_ble_eq_true rfl⟩ rfl rfl rfl rfl rfl hP (rf_DX hD) hS rfl hl.1 (rest := []) rfl (Nat.le_of_ble_eq_true rfl) dX4_coinsFor_59 (fun H locs hP hS => ?_)
    refine lv_if_eq (tgt := 69) hx hb dX4_coinsFor_62 (by decide) (fun c_62 => ?_) (fun c_62 => ?_)
    · have hf := rf_it c_62 hf
      refine lv_aload hx hb dX4_coinsFor_69 (lv_at hl 5 rfl) ?_
      refine gX_tc_prices hC hP tw_88 dX4_coinsFor_71 ?_
      refine lv_iload hx hb dX4_coinsFor_74 (lv_at hl 7 rfl) ?_
      obtain ⟨hi_76, hf⟩ := rf_gu hf
      refine lX_tc_prices hC hP hi_76 (f := tc_prices) e_tc_prices dX4_coinsFor_76 ?_
      exact w_X4_coinsFor_77 hC hD hp2 e_tc_wordCount e_now_words e_tc_prices e_tc_kinds e_tc_close ih v1 v2 v3 v5 v6 z44 (tc_prices (Int32.toNatClampNeg v6)) hf _ _ _ hP hS (lv_sub hl [1, 2, 3, 4, 5, 6, 7, 0] rfl)
    have hf := rf_ie c_62 hf
    refine lv_iconst (v := 0) hx hb dX4_coinsFor_65 (by decide) ?_
    refine lv_goto (tgt := 77) hx hb dX4_coinsFor_66 (by decide) ?_
    exact w_X4_coinsFor_77 hC hD hp2 e_tc_wordCount e_now_words e_tc_prices e_tc_kinds e_tc_close ih v1 v2 v3 v5 v6 z44 0 hf _ _ _ hP hS (lv_sub hl [1, 2, 3, 4, 5, 6, 7, 0] rfl)
set_option maxHeartbeats 4000000 in
set_option maxRecDepth 100000 in
theorem c_X4_coinsFor (l : Launch) (E : rf_E) (a P : Nat → Nat) (I : Nat → Int32) (J : Nat → Int64) (A : Nat → Nat → Int32) (B : Nat → Nat → Int64) (tc_wordCount : Int32) (now_words : Nat → Int32) (tc_prices : Nat → Int32) (tc_kinds : Nat → Int32) (tc_close : Nat → Int32) (v1 : Int32) (v2 : Int32) (v3 : Int32) {z : Int32} (hp2 : P 2 = a 10) (e_tc_wordCount : I 23 = tc_wordCount) (e_now_words : A 1 = now_words) (e_tc_prices : A 13 = tc_prices) (e_tc_kinds : A 14 = tc_kinds) (e_tc_close : A 22 = tc_close) (hf : f_X4_coinsFor tc_wordCount now_words tc_prices tc_kinds tc_close v1 v2 v3 = some z) : rf_MI l yX4_coinsFor cX4_coinsFor 11 (some .int) ({ frames := 2, cells := 0, slots := 0, locals := 43 }) E [.ref (a 4), .int v1, .int v2, .int v3] (cX E a P I J A B) z (cX E a P I J A B) := by
  unfold f_X4_coinsFor at hf
  refine rf_ofI (by decide) (Nat.le_of_ble_eq_true rfl) ?_
  intro p e s m below meth c A0 ls hC hD hP hS hl
  have hC : rf_C p E s m _ meth c cX4_coinsFor 11 RX4 (some .int) A0 := hC
  have hx := hC.1
  have hb := hC.2.1
  have hl : lv_has ls 11 [(0, .ref (a 4)), (1, .int v1), (2, .int v2), (3, .int v3)] := hl
  refine lv_aload_n hx hb dX4_coinsFor_0 rfl (lv_at hl 0 rfl) ?_
  refine gX_purse_rhymes hC hP tw_227 dX4_coinsFor_1 ?_
  refine gX_rhymes_tale hC hP tw_196 (v := a 10) hp2 dX4_coinsFor_4 ?_
  refine lv_astore (lv' := [(4, .ref (a 10)), (0, .ref (a 4)), (1, .int v1), (2, .int v2), (3, .int v3)]) hx hb dX4_coinsFor_7 hl (by decide) rfl (fun ls hl => ?_)
  refine lv_iconst (v := (-1)) hx hb dX4_coinsFor_9 (by decide) ?_
  refine lv_istore (lv' := [(5, .int (-1)), (4, .ref (a 10)), (0, .ref (a 4)), (1, .int v1), (2, .int v2), (3, .int v3)]) hx hb dX4_coinsFor_10 hl (by decide) rfl (fun ls hl => ?_)
  refine lv_iconst (v := 0) hx hb dX4_coinsFor_12 (by decide) ?_
  refine lv_istore (lv' := [(6, .int 0), (5, .int (-1)), (4, .ref (a 10)), (0, .ref (a 4)), (1, .int v1), (2, .int v2), (3, .int v3)]) hx hb dX4_coinsFor_13 hl (by decide) rfl (fun ls hl => ?_)
  exact w_X4_coinsFor_15 hC hD hp2 e_tc_wordCount e_now_words e_tc_prices e_tc_kinds e_tc_close rf_fu v1 v2 v3 (-1) 0 hf _ _ _ hP hS (lv_sub hl [3, 4, 5, 6, 2, 1, 0] rfl)
set_option maxHeartbeats 4000000 in
set_option maxRecDepth 100000 in
theorem w_X4_leastCoins_87 {l : Launch} {p : Program} {e : Env} {s : State} {m : MethodId} {args : Array Value} {below : List Frame} {meth : Method} {c : Code} {A0 : Nat → Prop} {E : rf_E} {a P : Nat → Nat} {I : Nat → Int32} {J : Nat → Int64} {A : Nat → Nat → Int32} {B : Nat → Nat → Int64} {tc_wordCount : Int32} {tc_personCount : Int32} {now_words : Nat → Int32} {tc_prices : Nat → Int32} {tc_kinds : Nat → Int32} {tc_close : Nat → Int32} {z : Int32 × (Nat → Int32) × (Nat → Int32)} (hC : rf_C p E s m args meth c cX4_leastCoins 7 RX4 (some .int) A0) (hD : va_D A0 (cX E a P I J A B)) (hp2 : P 2 = a 10) (e_tc_wordCount : I 23 = tc_wordCount) (e_tc_personCount : I 24 = tc_personCount) (e_now_words : A 1 = now_words) (e_tc_prices : A 13 = tc_prices) (e_tc_kinds : A 14 = tc_kinds) (e_tc_close : A 22 = tc_close) {k14 : Int32 → Int32 → Int32 → Int32 → (Nat → Int32) → (Nat → Int32) → Option (Int32 × (Nat → Int32) × (Nat → Int32))} (hk14 : ∀ (v1 : Int32) (v2 : Int32) (v3 : Int32) (v4 : Int32) (pairing_best : Nat → Int32) (purse_coins : Nat → Int32), k14 v1 v2 v3 v4 pairing_best purse_coins = some z → ∀ (H : Heap) (locs : List Loc) (ls : Array Slot), va_P (rf_D E) vwCl (cX E a P I J (rf_upL A [(5, pairing_best), (6, purse_coins)]) B) H → va_S A0 s.heap H locs → lv_has ls 7 [(0, .ref (a 4)), (1, .int v1), (2, .int v2), (3, .int v3), (4, .int v4)] → W p l e ({ frames := 4, cells := 0, slots := 0, locals := 91 }) s m args below meth c H locs 0 0 (rf_QI below args s E A0 z.1 (cX E a P I J (rf_upL A [(5, z.2.1), (6, z.2.2)]) B)) (F0 m 14 ls [])) {k26 : Int32 → Int32 → Int32 → Int32 → Int32 → (Nat → Int32) → (Nat → Int32) → Option (Int32 × (Nat → Int32) × (Nat → Int32))} (hk26 : ∀ (v1 : Int32) (v2 : Int32) (v3 : Int32) (v4 : Int32) (v5 : Int32) (pairing_best : Nat → Int32) (purse_coins : Nat → Int32), k26 v1 v2 v3 v4 v5 pairing_best purse_coins = some z → ∀ (H : Heap) (locs : List Loc) (ls : Array Slot), va_P (rf_D E) vwCl (cX E a P I J (rf_upL A [(5, pairing_best), (6, purse_coins)]) B) H → va_S A0 s.heap H locs → lv_has ls 7 [(0, .ref (a 4)), (1, .int v1), (2, .int v2), (3, .int v3), (4, .int v4), (5, .int v5)] → W p l e ({ frames := 4, cells := 0, slots := 0, locals := 91 }) s m args below meth c H locs 0 0 (rf_QI below args s E A0 z.1 (cX E a P I J (rf_upL A [(5, z.2.1), (6, z.2.2)]) B)) (F0 m 26 ls [])) :
    ∀ (v1 : Int32) (v2 : Int32) (v3 : Int32) (v4 : Int32) (v5 : Int32) (s1 : Int32) (s2 : Int32) (pairing_best : Nat → Int32) (purse_coins : Nat → Int32), f_X4_leastCoins_87 k14 k26 tc_wordCount tc_personCount now_words tc_prices tc_kinds tc_close v1 v2 v3 v4 v5 s1 s2 pairing_best purse_coins = some z → ∀ (H : Heap) (locs : List Loc) (ls : Array Slot), va_P (rf_D E) vwCl (cX E a P I J (rf_upL A [(5, pairing_best), (6, purse_coins)]) B) H → va_S A0 s.heap H locs → lv_has ls 7 [(0, .ref (a 4)), (1, .int v1), (2, .int v2), (3, .int v3), (4, .int v4), (5, .int v5)] → W p l e ({ frames := 4, cells := 0, slots := 0, locals := 91 }) s m args below meth c H locs 0 0 (rf_QI below args s E A0 z.1 (cX E a P I J (rf_upL A [(5, z.2.1), (6, z.2.2)]) B)) (F0 m 87 ls [.int s2, .int s1, .ref (a 19)]) := by
  have hx := hC.1
  have hb := hC.2.1
  intro v1 v2 v3 v4 v5 s1 s2 pairing_best purse_coins hf H locs ls hP hS hl
  unfold f_X4_leastCoins_87 at hf
  obtain ⟨hi_87, hf⟩ := rf_gu hf
  refine sX_purse_coins hC hD hP hS hi_87 (f := purse_coins) rfl dX4_leastCoins_87 (rf_upL A [(5, pairing_best), (6, upd purse_coins (Int32.toNatClampNeg s1) s2)]) (rf_put rfl) (fun H locs hP hS => ?_)
  refine lv_iinc (v := v5 + 1) (lv' := [(5, .int (v5 + 1)), (0, .ref (a 4)), (1, .int v1), (2, .int v2), (3, .int v3), (4, .int v4)]) hx hb dX4_leastCoins_88 hl (k := 5) rfl rfl (by decide) rfl (fun ls hl => ?_)
  refine lv_goto (tgt := 26) hx hb dX4_leastCoins_91 (by decide) ?_
  exact hk26 v1 v2 v3 v4 (v5 + 1) pairing_best (upd purse_coins (Int32.toNatClampNeg s1) s2) hf _ _ _ hP hS (lv_sub hl [1, 2, 3, 4, 5, 0] rfl)
set_option maxHeartbeats 4000000 in
set_option maxRecDepth 100000 in
theorem w_X4_leastCoins_55 {l : Launch} {p : Program} {e : Env} {s : State} {m : MethodId} {args : Array Value} {below : List Frame} {meth : Method} {c : Code} {A0 : Nat → Prop} {E : rf_E} {a P : Nat → Nat} {I : Nat → Int32} {J : Nat → Int64} {A : Nat → Nat → Int32} {B : Nat → Nat → Int64} {tc_wordCount : Int32} {tc_personCount : Int32} {now_words : Nat → Int32} {tc_prices : Nat → Int32} {tc_kinds : Nat → Int32} {tc_close : Nat → Int32} {z : Int32 × (Nat → Int32) × (Nat → Int32)} (hC : rf_C p E s m args meth c cX4_leastCoins 7 RX4 (some .int) A0) (hD : va_D A0 (cX E a P I J A B)) (hp2 : P 2 = a 10) (e_tc_wordCount : I 23 = tc_wordCount) (e_tc_personCount : I 24 = tc_personCount) (e_now_words : A 1 = now_words) (e_tc_prices : A 13 = tc_prices) (e_tc_kinds : A 14 = tc_kinds) (e_tc_close : A 22 = tc_close) {k14 : Int32 → Int32 → Int32 → Int32 → (Nat → Int32) → (Nat → Int32) → Option (Int32 × (Nat → Int32) × (Nat → Int32))} (hk14 : ∀ (v1 : Int32) (v2 : Int32) (v3 : Int32) (v4 : Int32) (pairing_best : Nat → Int32) (purse_coins : Nat → Int32), k14 v1 v2 v3 v4 pairing_best purse_coins = some z → ∀ (H : Heap) (locs : List Loc) (ls : Array Slot), va_P (rf_D E) vwCl (cX E a P I J (rf_upL A [(5, pairing_best), (6, purse_coins)]) B) H → va_S A0 s.heap H locs → lv_has ls 7 [(0, .ref (a 4)), (1, .int v1), (2, .int v2), (3, .int v3), (4, .int v4)] → W p l e ({ frames := 4, cells := 0, slots := 0, locals := 91 }) s m args below meth c H locs 0 0 (rf_QI below args s E A0 z.1 (cX E a P I J (rf_upL A [(5, z.2.1), (6, z.2.2)]) B)) (F0 m 14 ls [])) {k26 : Int32 → Int32 → Int32 → Int32 → Int32 → (Nat → Int32) → (Nat → Int32) → Option (Int32 × (Nat → Int32) × (Nat → Int32))} (hk26 : ∀ (v1 : Int32) (v2 : Int32) (v3 : Int32) (v4 : Int32) (v5 : Int32) (pairing_best : Nat → Int32) (purse_coins : Nat → Int32), k26 v1 v2 v3 v4 v5 pairing_best purse_coins = some z → ∀ (H : Heap) (locs : List Loc) (ls : Array Slot), va_P (rf_D E) vwCl (cX E a P I J (rf_upL A [(5, pairing_best), (6, purse_coins)]) B) H → va_S A0 s.heap H locs → lv_has ls 7 [(0, .ref (a 4)), (1, .int v1), (2, .int v2), (3, .int v3), (4, .int v4), (5, .int v5)] → W p l e ({ frames := 4, cells := 0, slots := 0, locals := 91 }) s m args below meth c H locs 0 0 (rf_QI below args s E A0 z.1 (cX E a P I J (rf_upL A [(5, z.2.1), (6, z.2.2)]) B)) (F0 m 26 ls [])) :
    ∀ (v1 : Int32) (v2 : Int32) (v3 : Int32) (v4 : Int32) (v5 : Int32) (s0 : Int32) (pairing_best : Nat → Int32) (purse_coins : Nat → Int32), f_X4_leastCoins_55 k14 k26 tc_wordCount tc_personCount now_words tc_prices tc_kinds tc_close v1 v2 v3 v4 v5 s0 pairing_best purse_coins = some z → ∀ (H : Heap) (locs : List Loc) (ls : Array Slot), va_P (rf_D E) vwCl (cX E a P I J (rf_upL A [(5, pairing_best), (6, purse_coins)]) B) H → va_S A0 s.heap H locs → lv_has ls 7 [(0, .ref (a 4)), (1, .int v1), (2, .int v2), (3, .int v3), (4, .int v4), (5, .int v5)] → W p l e ({ frames := 4, cells := 0, slots := 0, locals := 91 }) s m args below meth c H locs 0 0 (rf_QI below args s E A0 z.1 (cX E a P I J (rf_upL A [(5, z.2.1), (6, z.2.2)]) B)) (F0 m 55 ls [.int s0]) := by
  have hx := hC.1
  have hb := hC.2.1
  intro v1 v2 v3 v4 v5 s0 pairing_best purse_coins hf H locs ls hP hS hl
  unfold f_X4_leastCoins_55 at hf
  refine lv_istore (lv' := [(6, .int s0), (0, .ref (a 4)), (1, .int v1), (2, .int v2), (3, .int v3), (4, .int v4), (5, .int v5)]) hx hb dX4_leastCoins_55 hl (by decide) rfl (fun ls hl => ?_)
  refine lv_aload_n hx hb dX4_leastCoins_57 rfl (lv_at hl 1 rfl) ?_
  refine gX_purse_coins hC hP tw_229 dX4_leastCoins_58 ?_
  refine lv_iload hx hb dX4_leastCoins_61 (lv_at hl 5 rfl) ?_
  refine lv_bipush (v := 8) hx hb dX4_leastCoins_63 (by decide) ?_
  refine lv_imul hx hb dX4_leastCoins_65 ?_
  refine lv_iload hx hb dX4_leastCoins_66 (lv_at hl 6 rfl) ?_
  refine lv_iadd hx hb dX4_leastCoins_68 ?_
  refine lv_iload hx hb dX4_leastCoins_69 (lv_at hl 0 rfl) ?_
  refine lv_if_eq (tgt := 86) hx hb dX4_leastCoins_71 (by decide) (fun c_71 => ?_) (fun c_71 => ?_)
  · have hf := rf_it c_71 hf
    refine lv_iconst (v := (-1)) hx hb dX4_leastCoins_86 (by decide) ?_
    exact w_X4_leastCoins_87 hC hD hp2 e_tc_wordCount e_tc_personCount e_now_words e_tc_prices e_tc_kinds e_tc_close hk14 hk26 v1 v2 v3 v4 v5 ((v4 * 8) + v5) (-1) pairing_best purse_coins hf _ _ _ hP hS (lv_sub hl [1, 2, 3, 4, 5, 6] rfl)
  have hf := rf_ie c_71 hf
  refine lv_aload_n hx hb dX4_leastCoins_74 rfl (lv_at hl 1 rfl) ?_
  refine lv_iload hx hb dX4_leastCoins_75 (lv_at hl 5 rfl) ?_
  refine lv_iload hx hb dX4_leastCoins_77 (lv_at hl 6 rfl) ?_
  refine lv_iload_n hx hb dX4_leastCoins_79 rfl (lv_at hl 3 rfl) ?_
  obtain ⟨z80, hz80, hf⟩ := rf_bd hf
  refine rf_vi (q0 := 4) (ci := 4) hC (c_X4_coinsFor l E a P I J (rf_upL A [(5, pairing_best), (6, purse_coins)]) B tc_wordCount now_words tc_prices tc_kinds tc_close v4 v5 v2 hp2 e_tc_wordCount e_now_words e_tc_prices e_tc_kinds e_tc_close hz80) kV_X4_coinsFor tw_972 ⟨Nat.le_of_ble_eq_true rfl, Nat.le_of_ble_eq_true rfl⟩ rfl rfl rfl rfl rfl hP (rf_DX hD) hS rfl hl.1 (rest := [.int ((v4 * 8) + v5), .ref (a 19)]) rfl (Nat.le_of_ble_eq_true rfl) dX4_leastCoins_80 (fun H locs hP hS => ?_)
  refine lv_goto (tgt := 87) hx hb dX4_leastCoins_83 (by decide) ?_
  exact w_X4_leastCoins_87 hC hD hp2 e_tc_wordCount e_tc_personCount e_now_words e_tc_prices e_tc_kinds e_tc_close hk14 hk26 v1 v2 v3 v4 v5 ((v4 * 8) + v5) z80 pairing_best purse_coins hf _ _ _ hP hS (lv_sub hl [1, 2, 3, 4, 5, 6] rfl)
set_option maxHeartbeats 4000000 in
set_option maxRecDepth 100000 in
theorem w_X4_leastCoins_54 {l : Launch} {p : Program} {e : Env} {s : State} {m : MethodId} {args : Array Value} {below : List Frame} {meth : Method} {c : Code} {A0 : Nat → Prop} {E : rf_E} {a P : Nat → Nat} {I : Nat → Int32} {J : Nat → Int64} {A : Nat → Nat → Int32} {B : Nat → Nat → Int64} {tc_wordCount : Int32} {tc_personCount : Int32} {now_words : Nat → Int32} {tc_prices : Nat → Int32} {tc_kinds : Nat → Int32} {tc_close : Nat → Int32} {z : Int32 × (Nat → Int32) × (Nat → Int32)} (hC : rf_C p E s m args meth c cX4_leastCoins 7 RX4 (some .int) A0) (hD : va_D A0 (cX E a P I J A B)) (hp2 : P 2 = a 10) (e_tc_wordCount : I 23 = tc_wordCount) (e_tc_personCount : I 24 = tc_personCount) (e_now_words : A 1 = now_words) (e_tc_prices : A 13 = tc_prices) (e_tc_kinds : A 14 = tc_kinds) (e_tc_close : A 22 = tc_close) {k14 : Int32 → Int32 → Int32 → Int32 → (Nat → Int32) → (Nat → Int32) → Option (Int32 × (Nat → Int32) × (Nat → Int32))} (hk14 : ∀ (v1 : Int32) (v2 : Int32) (v3 : Int32) (v4 : Int32) (pairing_best : Nat → Int32) (purse_coins : Nat → Int32), k14 v1 v2 v3 v4 pairing_best purse_coins = some z → ∀ (H : Heap) (locs : List Loc) (ls : Array Slot), va_P (rf_D E) vwCl (cX E a P I J (rf_upL A [(5, pairing_best), (6, purse_coins)]) B) H → va_S A0 s.heap H locs → lv_has ls 7 [(0, .ref (a 4)), (1, .int v1), (2, .int v2), (3, .int v3), (4, .int v4)] → W p l e ({ frames := 4, cells := 0, slots := 0, locals := 91 }) s m args below meth c H locs 0 0 (rf_QI below args s E A0 z.1 (cX E a P I J (rf_upL A [(5, z.2.1), (6, z.2.2)]) B)) (F0 m 14 ls [])) {k26 : Int32 → Int32 → Int32 → Int32 → Int32 → (Nat → Int32) → (Nat → Int32) → Option (Int32 × (Nat → Int32) × (Nat → Int32))} (hk26 : ∀ (v1 : Int32) (v2 : Int32) (v3 : Int32) (v4 : Int32) (v5 : Int32) (pairing_best : Nat → Int32) (purse_coins : Nat → Int32), k26 v1 v2 v3 v4 v5 pairing_best purse_coins = some z → ∀ (H : Heap) (locs : List Loc) (ls : Array Slot), va_P (rf_D E) vwCl (cX E a P I J (rf_upL A [(5, pairing_best), (6, purse_coins)]) B) H → va_S A0 s.heap H locs → lv_has ls 7 [(0, .ref (a 4)), (1, .int v1), (2, .int v2), (3, .int v3), (4, .int v4), (5, .int v5)] → W p l e ({ frames := 4, cells := 0, slots := 0, locals := 91 }) s m args below meth c H locs 0 0 (rf_QI below args s E A0 z.1 (cX E a P I J (rf_upL A [(5, z.2.1), (6, z.2.2)]) B)) (F0 m 26 ls [])) :
    ∀ (v1 : Int32) (v2 : Int32) (v3 : Int32) (v4 : Int32) (v5 : Int32) (pairing_best : Nat → Int32) (purse_coins : Nat → Int32), f_X4_leastCoins_54 k14 k26 tc_wordCount tc_personCount now_words tc_prices tc_kinds tc_close v1 v2 v3 v4 v5 pairing_best purse_coins = some z → ∀ (H : Heap) (locs : List Loc) (ls : Array Slot), va_P (rf_D E) vwCl (cX E a P I J (rf_upL A [(5, pairing_best), (6, purse_coins)]) B) H → va_S A0 s.heap H locs → lv_has ls 7 [(0, .ref (a 4)), (1, .int v1), (2, .int v2), (3, .int v3), (4, .int v4), (5, .int v5)] → W p l e ({ frames := 4, cells := 0, slots := 0, locals := 91 }) s m args below meth c H locs 0 0 (rf_QI below args s E A0 z.1 (cX E a P I J (rf_upL A [(5, z.2.1), (6, z.2.2)]) B)) (F0 m 54 ls []) := by
  have hx := hC.1
  have hb := hC.2.1
  intro v1 v2 v3 v4 v5 pairing_best purse_coins hf H locs ls hP hS hl
  unfold f_X4_leastCoins_54 at hf
  refine lv_iconst (v := 0) hx hb dX4_leastCoins_54 (by decide) ?_
  exact w_X4_leastCoins_55 hC hD hp2 e_tc_wordCount e_tc_personCount e_now_words e_tc_prices e_tc_kinds e_tc_close hk14 hk26 v1 v2 v3 v4 v5 0 pairing_best purse_coins hf _ _ _ hP hS (lv_sub hl [0, 1, 2, 3, 4, 5] rfl)
set_option maxHeartbeats 4000000 in
set_option maxRecDepth 100000 in
theorem w_X4_leastCoins_26 {l : Launch} {p : Program} {e : Env} {s : State} {m : MethodId} {args : Array Value} {below : List Frame} {meth : Method} {c : Code} {A0 : Nat → Prop} {E : rf_E} {a P : Nat → Nat} {I : Nat → Int32} {J : Nat → Int64} {A : Nat → Nat → Int32} {B : Nat → Nat → Int64} {tc_wordCount : Int32} {tc_personCount : Int32} {now_words : Nat → Int32} {tc_prices : Nat → Int32} {tc_kinds : Nat → Int32} {tc_close : Nat → Int32} {z : Int32 × (Nat → Int32) × (Nat → Int32)} (hC : rf_C p E s m args meth c cX4_leastCoins 7 RX4 (some .int) A0) (hD : va_D A0 (cX E a P I J A B)) (hp2 : P 2 = a 10) (e_tc_wordCount : I 23 = tc_wordCount) (e_tc_personCount : I 24 = tc_personCount) (e_now_words : A 1 = now_words) (e_tc_prices : A 13 = tc_prices) (e_tc_kinds : A 14 = tc_kinds) (e_tc_close : A 22 = tc_close) {k14 : Int32 → Int32 → Int32 → Int32 → (Nat → Int32) → (Nat → Int32) → Option (Int32 × (Nat → Int32) × (Nat → Int32))} (hk14 : ∀ (v1 : Int32) (v2 : Int32) (v3 : Int32) (v4 : Int32) (pairing_best : Nat → Int32) (purse_coins : Nat → Int32), k14 v1 v2 v3 v4 pairing_best purse_coins = some z → ∀ (H : Heap) (locs : List Loc) (ls : Array Slot), va_P (rf_D E) vwCl (cX E a P I J (rf_upL A [(5, pairing_best), (6, purse_coins)]) B) H → va_S A0 s.heap H locs → lv_has ls 7 [(0, .ref (a 4)), (1, .int v1), (2, .int v2), (3, .int v3), (4, .int v4)] → W p l e ({ frames := 4, cells := 0, slots := 0, locals := 91 }) s m args below meth c H locs 0 0 (rf_QI below args s E A0 z.1 (cX E a P I J (rf_upL A [(5, z.2.1), (6, z.2.2)]) B)) (F0 m 14 ls [])) :
    ∀ (n : Nat), ∀ (v1 : Int32) (v2 : Int32) (v3 : Int32) (v4 : Int32) (v5 : Int32) (pairing_best : Nat → Int32) (purse_coins : Nat → Int32), f_X4_leastCoins_26 k14 tc_wordCount tc_personCount now_words tc_prices tc_kinds tc_close n v1 v2 v3 v4 v5 pairing_best purse_coins = some z → ∀ (H : Heap) (locs : List Loc) (ls : Array Slot), va_P (rf_D E) vwCl (cX E a P I J (rf_upL A [(5, pairing_best), (6, purse_coins)]) B) H → va_S A0 s.heap H locs → lv_has ls 7 [(0, .ref (a 4)), (1, .int v1), (2, .int v2), (3, .int v3), (4, .int v4), (5, .int v5)] → W p l e ({ frames := 4, cells := 0, slots := 0, locals := 91 }) s m args below meth c H locs 0 0 (rf_QI below args s E A0 z.1 (cX E a P I J (rf_upL A [(5, z.2.1), (6, z.2.2)]) B)) (F0 m 26 ls []) := by
  have hx := hC.1
  have hb := hC.2.1
  intro n
  induction n with
  | zero =>
    intro v1 v2 v3 v4 v5 pairing_best purse_coins hf
    have hf : (none : Option (Int32 × (Nat → Int32) × (Nat → Int32))) = some z := hf
    cases hf
  | succ n ih =>
    intro v1 v2 v3 v4 v5 pairing_best purse_coins hf H locs ls hP hS hl
    rw [f_X4_leastCoins_26] at hf
    refine lv_iload hx hb dX4_leastCoins_26 (lv_at hl 5 rfl) ?_
    refine lv_iload_n hx hb dX4_leastCoins_28 rfl (lv_at hl 3 rfl) ?_
    refine lv_icmp_ge (tgt := 94) hx hb dX4_leastCoins_29 (by decide) (fun c_29 => ?_) (fun c_29 => ?_)
    · have hf := rf_it c_29 hf
      refine lv_iinc (v := v4 + 1) (lv' := [(4, .int (v4 + 1)), (0, .ref (a 4)), (1, .int v1), (2, .int v2), (3, .int v3), (5, .int v5)]) hx hb dX4_leastCoins_94 hl (k := 4) rfl rfl (by decide) rfl (fun ls hl => ?_)
      refine lv_goto (tgt := 14) hx hb dX4_leastCoins_97 (by decide) ?_
      exact hk14 v1 v2 v3 (v4 + 1) pairing_best purse_coins hf _ _ _ hP hS (lv_sub hl [1, 2, 3, 4, 0] rfl)
    have hf := rf_ie c_29 hf
    refine lv_iload_n hx hb dX4_leastCoins_32 rfl (lv_at hl 1 rfl) ?_
    refine lv_iload hx hb dX4_leastCoins_33 (lv_at hl 4 rfl) ?_
    obtain ⟨z35, hz35, hf⟩ := rf_bd hf
    refine rf_sn0 hC (c_X10_holds l E v1 v4 hz35) kS_X10_holds nw_971 ⟨Nat.le_of_ble_eq_true rfl, Nat.le_of_ble_eq_true rfl⟩ rfl rfl hP hS rfl hl.1 (rest := []) rfl (Nat.le_of_ble_eq_true rfl) dX4_leastCoins_35 (fun H locs hP hS => ?_)
    refine lv_if_eq (tgt := 54) hx hb dX4_leastCoins_38 (by decide) (fun c_38 => ?_) (fun c_38 => ?_)
    · have hf := rf_it c_38 hf
      exact w_X4_leastCoins_54 hC hD hp2 e_tc_wordCount e_tc_personCount e_now_words e_tc_prices e_tc_kinds e_tc_close hk14 ih v1 v2 v3 v4 v5 pairing_best purse_coins hf _ _ _ hP hS (lv_sub hl [0, 1, 2, 3, 4, 5] rfl)
    have hf := rf_ie c_38 hf
    refine lv_iload_n hx hb dX4_leastCoins_41 rfl (lv_at hl 1 rfl) ?_
    refine lv_iload hx hb dX4_leastCoins_42 (lv_at hl 5 rfl) ?_
    obtain ⟨z44, hz44, hf⟩ := rf_bd hf
    refine rf_sn0 hC (c_X10_holds l E v1 v5 hz44) kS_X10_holds nw_971 ⟨Nat.le_of_ble_eq_true rfl, Nat.le_of_ble_eq_true rfl⟩ rfl rfl hP hS rfl hl.1 (rest := []) rfl (Nat.le_of_ble_eq_true rfl) dX4_leastCoins_44 (fun H locs hP hS => ?_)
    refine lv_if_eq (tgt := 54) hx hb dX4_leastCoins_47 (by decide) (fun c_47 => ?_) (fun c_47 => ?_)
    · have hf := rf_it c_47 hf
      exact w_X4_leastCoins_54 hC hD hp2 e_tc_wordCount e_tc_personCount e_now_words e_tc_prices e_tc_kinds e_tc_close hk14 ih v1 v2 v3 v4 v5 pairing_best purse_coins hf _ _ _ hP hS (lv_sub hl [0, 1, 2, 3, 4, 5] rfl)
    have hf := rf_ie c_47 hf
    refine lv_iconst (v := 1) hx hb dX4_leastCoins_50 (by decide) ?_
    refine lv_goto (tgt := 55) hx hb dX4_leastCoins_51 (by decide) ?_
    exact w_X4_leastCoins_55 hC hD hp2 e_tc_wordCount e_tc_personCount e_now_words e_tc_prices e_tc_kinds e_tc_close hk14 ih v1 v2 v3 v4 v5 1 pairing_best purse_coins hf _ _ _ hP hS (lv_sub hl [0, 1, 2, 3, 4, 5] rfl)
set_option maxHeartbeats 4000000 in
set_option maxRecDepth 100000 in
theorem w_X4_leastCoins_14 {l : Launch} {p : Program} {e : Env} {s : State} {m : MethodId} {args : Array Value} {below : List Frame} {meth : Method} {c : Code} {A0 : Nat → Prop} {E : rf_E} {a P : Nat → Nat} {I : Nat → Int32} {J : Nat → Int64} {A : Nat → Nat → Int32} {B : Nat → Nat → Int64} {tc_wordCount : Int32} {tc_personCount : Int32} {now_words : Nat → Int32} {tc_prices : Nat → Int32} {tc_kinds : Nat → Int32} {tc_close : Nat → Int32} {z : Int32 × (Nat → Int32) × (Nat → Int32)} (hC : rf_C p E s m args meth c cX4_leastCoins 7 RX4 (some .int) A0) (hD : va_D A0 (cX E a P I J A B)) (hp2 : P 2 = a 10) (e_tc_wordCount : I 23 = tc_wordCount) (e_tc_personCount : I 24 = tc_personCount) (e_now_words : A 1 = now_words) (e_tc_prices : A 13 = tc_prices) (e_tc_kinds : A 14 = tc_kinds) (e_tc_close : A 22 = tc_close) :
    ∀ (n : Nat), ∀ (v1 : Int32) (v2 : Int32) (v3 : Int32) (v4 : Int32) (pairing_best : Nat → Int32) (purse_coins : Nat → Int32), f_X4_leastCoins_14 tc_wordCount tc_personCount now_words tc_prices tc_kinds tc_close n v1 v2 v3 v4 pairing_best purse_coins = some z → ∀ (H : Heap) (locs : List Loc) (ls : Array Slot), va_P (rf_D E) vwCl (cX E a P I J (rf_upL A [(5, pairing_best), (6, purse_coins)]) B) H → va_S A0 s.heap H locs → lv_has ls 7 [(0, .ref (a 4)), (1, .int v1), (2, .int v2), (3, .int v3), (4, .int v4)] → W p l e ({ frames := 4, cells := 0, slots := 0, locals := 91 }) s m args below meth c H locs 0 0 (rf_QI below args s E A0 z.1 (cX E a P I J (rf_upL A [(5, z.2.1), (6, z.2.2)]) B)) (F0 m 14 ls []) := by
  have hx := hC.1
  have hb := hC.2.1
  intro n
  induction n with
  | zero =>
    intro v1 v2 v3 v4 pairing_best purse_coins hf
    have hf : (none : Option (Int32 × (Nat → Int32) × (Nat → Int32))) = some z := hf
    cases hf
  | succ n ih =>
    intro v1 v2 v3 v4 pairing_best purse_coins hf H locs ls hP hS hl
    rw [f_X4_leastCoins_14] at hf
    refine lv_iload hx hb dX4_leastCoins_14 (lv_at hl 4 rfl) ?_
    refine lv_iload_n hx hb dX4_leastCoins_16 rfl (lv_at hl 3 rfl) ?_
    refine lv_icmp_ge (tgt := 100) hx hb dX4_leastCoins_17 (by decide) (fun c_17 => ?_) (fun c_17 => ?_)
    · have hf := rf_it c_17 hf
      refine lv_aload_n hx hb dX4_leastCoins_100 rfl (lv_at hl 0 rfl) ?_
      refine gX_purse_pairing hC hP tw_228 dX4_leastCoins_101 ?_
      refine lv_aload_n hx hb dX4_leastCoins_104 rfl (lv_at hl 0 rfl) ?_
      refine gX_purse_coins hC hP tw_229 dX4_leastCoins_105 ?_
      refine lv_iload_n hx hb dX4_leastCoins_108 rfl (lv_at hl 1 rfl) ?_
      obtain ⟨z109, hz109, hf⟩ := rf_bd hf
      refine rf_vi (q0 := 3) (ci := 3) hC (c_X3_leastCoins l E a P I J (rf_upL A [(5, pairing_best), (6, purse_coins)]) B purse_coins pairing_best v1 rfl rfl hz109) kV_X3_leastCoins tw_978 ⟨Nat.le_of_ble_eq_true rfl, Nat.le_of_ble_eq_true rfl⟩ rfl rfl rfl rfl rfl hP (rf_DX hD) hS rfl hl.1 (rest := []) rfl (Nat.le_of_ble_eq_true rfl) dX4_leastCoins_109 (fun H locs hP hS => ?_)
      rw [rf_cat (f := A) (l := [(5, pairing_best), (6, purse_coins)]) (lc := [(5, z109.2)]) (l' := [(5, z109.2), (6, purse_coins)]) rfl] at hP
      obtain rfl := Option.some.inj hf
      exact rf_reti hC hP hS rfl rfl dX4_leastCoins_112
    have hf := rf_ie c_17 hf
    refine lv_iload hx hb dX4_leastCoins_20 (lv_at hl 4 rfl) ?_
    refine lv_iconst (v := 1) hx hb dX4_leastCoins_22 (by decide) ?_
    refine lv_iadd hx hb dX4_leastCoins_23 ?_
    refine lv_istore (lv' := [(5, .int (v4 + 1)), (0, .ref (a 4)), (1, .int v1), (2, .int v2), (3, .int v3), (4, .int v4)]) hx hb dX4_leastCoins_24 hl (by decide) rfl (fun ls hl => ?_)
    exact w_X4_leastCoins_26 hC hD hp2 e_tc_wordCount e_tc_personCount e_now_words e_tc_prices e_tc_kinds e_tc_close ih rf_fu v1 v2 v3 v4 (v4 + 1) pairing_best purse_coins hf _ _ _ hP hS (lv_sub hl [1, 2, 3, 4, 5, 0] rfl)
set_option maxHeartbeats 4000000 in
set_option maxRecDepth 100000 in
theorem c_X4_leastCoins (l : Launch) (E : rf_E) (a P : Nat → Nat) (I : Nat → Int32) (J : Nat → Int64) (A : Nat → Nat → Int32) (B : Nat → Nat → Int64) (tc_wordCount : Int32) (tc_personCount : Int32) (now_words : Nat → Int32) (tc_prices : Nat → Int32) (tc_kinds : Nat → Int32) (tc_close : Nat → Int32) (pairing_best : Nat → Int32) (purse_coins : Nat → Int32) (v1 : Int32) (v2 : Int32) {z : Int32 × (Nat → Int32) × (Nat → Int32)} (hp2 : P 2 = a 10) (e_tc_wordCount : I 23 = tc_wordCount) (e_tc_personCount : I 24 = tc_personCount) (e_now_words : A 1 = now_words) (e_tc_prices : A 13 = tc_prices) (e_tc_kinds : A 14 = tc_kinds) (e_tc_close : A 22 = tc_close) (e_pairing_best : A 5 = pairing_best) (e_purse_coins : A 6 = purse_coins) (hf : f_X4_leastCoins tc_wordCount tc_personCount now_words tc_prices tc_kinds tc_close pairing_best purse_coins v1 v2 = some z) : rf_MI l yX4_leastCoins cX4_leastCoins 7 (some .int) ({ frames := 4, cells := 0, slots := 0, locals := 91 }) E [.ref (a 4), .int v1, .int v2] (cX E a P I J A B) z.1 (cX E a P I J (rf_upL A [(5, z.2.1), (6, z.2.2)]) B) := by
  unfold f_X4_leastCoins at hf
  refine rf_ofI (by decide) (Nat.le_of_ble_eq_true rfl) ?_
  intro p e s m below meth c A0 ls hC hD hP hS hl
  have hC : rf_C p E s m _ meth c cX4_leastCoins 7 RX4 (some .int) A0 := hC
  have hx := hC.1
  have hb := hC.2.1
  have hl : lv_has ls 7 [(0, .ref (a 4)), (1, .int v1), (2, .int v2)] := hl
  have hP : va_P (rf_D E) vwCl (cX E a P I J (rf_upL A [(5, pairing_best), (6, purse_coins)]) B) s.heap := by
    rw [rf_self (f := A) [(5, pairing_best), (6, purse_coins)] (rf_fa1 e_pairing_best (rf_fa1 e_purse_coins rf_fa0))]
    exact hP
  refine lv_aload_n hx hb dX4_leastCoins_0 rfl (lv_at hl 0 rfl) ?_
  refine gX_purse_rhymes hC hP tw_227 dX4_leastCoins_1 ?_
  refine gX_rhymes_tale hC hP tw_196 (v := a 10) hp2 dX4_leastCoins_4 ?_
  refine gX_tc_personCount hC hP tw_127 (v := tc_personCount) e_tc_personCount dX4_leastCoins_7 ?_
  refine lv_istore_n (lv' := [(3, .int tc_personCount), (0, .ref (a 4)), (1, .int v1), (2, .int v2)]) hx hb dX4_leastCoins_10 rfl hl (by decide) rfl (fun ls hl => ?_)
  refine lv_iconst (v := 0) hx hb dX4_leastCoins_11 (by decide) ?_
  refine lv_istore (lv' := [(4, .int 0), (3, .int tc_personCount), (0, .ref (a 4)), (1, .int v1), (2, .int v2)]) hx hb dX4_leastCoins_12 hl (by decide) rfl (fun ls hl => ?_)
  exact w_X4_leastCoins_14 hC hD hp2 e_tc_wordCount e_tc_personCount e_now_words e_tc_prices e_tc_kinds e_tc_close rf_fu v1 v2 tc_personCount 0 pairing_best purse_coins hf _ _ _ hP hS (lv_sub hl [2, 3, 4, 1, 0] rfl)
