set_option maxHeartbeats 4000000 in
set_option maxRecDepth 100000 in
theorem c_X10_kept (l : Launch) (E : rf_E) (a P : Nat → Nat) (I : Nat → Int32) (J : Nat → Int64) (A : Nat → Nat → Int32) (B : Nat → Nat → Int64) (now_everybody : Int32) (now_far : Int32) (tc_ear : Int32) (tc_pairs : Int32) (tc_wordCount : Int32) (tc_personCount : Int32) (now_words : Nat → Int32) (tc_kinds : Nat → Int32) (tc_errands : Nat → Int32) (tc_hourEars : Nat → Int32) (tc_close : Nat → Int32) (x_lastTrouble : Int32) (rhymes_links : Nat → Int32) (pairing_best : Nat → Int32) (v1 : Int32) {z : Int32 × Int32 × (Nat → Int32) × (Nat → Int32)} (hp0 : P 0 = a 10) (hp2 : P 2 = a 10) (e_now_everybody : I 6 = now_everybody) (e_now_far : I 7 = now_far) (e_tc_ear : I 21 = tc_ear) (e_tc_pairs : I 22 = tc_pairs) (e_tc_wordCount : I 23 = tc_wordCount) (e_tc_personCount : I 24 = tc_personCount) (e_now_words : A 1 = now_words) (e_tc_kinds : A 14 = tc_kinds) (e_tc_errands : A 16 = tc_errands) (e_tc_hourEars : A 18 = tc_hourEars) (e_tc_close : A 22 = tc_close) (e_x_lastTrouble : I 3 = x_lastTrouble) (e_rhymes_links : A 3 = rhymes_links) (e_pairing_best : A 5 = pairing_best) (hf : f_X10_kept now_everybody now_far tc_ear tc_pairs tc_wordCount tc_personCount now_words tc_kinds tc_errands tc_hourEars tc_close x_lastTrouble rhymes_links pairing_best v1 = some z) : rf_MI l yX10_kept cX10_kept 2 (some .int) ({ frames := 5, cells := 0, slots := 0, locals := 123 }) E [.ref (a 0), .int v1] (cX E a P I J A B) z.1 (cX E a P (rf_upL I [(3, z.2.1)]) J (rf_upL A [(3, z.2.2.1), (5, z.2.2.2)]) B) := by
  unfold f_X10_kept at hf
  refine rf_ofI (by decide) (Nat.le_of_ble_eq_true rfl) ?_
  intro p e s m below meth c A0 ls hC hD hP hS hl
  have hC : rf_C p E s m _ meth c cX10_kept 2 RX10 (some .int) A0 := hC
  have hx := hC.1
  have hb := hC.2.1
  have hl : lv_has ls 2 [(0, .ref (a 0)), (1, .int v1)] := hl
  have hP : va_P (rf_D E) vwCl (cX E a P (rf_upL I [(3, x_lastTrouble)]) J (rf_upL A [(3, rhymes_links), (5, pairing_best)]) B) s.heap := by
    rw [rf_self (f := I) [(3, x_lastTrouble)] (rf_fa1 e_x_lastTrouble rf_fa0)]
    rw [rf_self (f := A) [(3, rhymes_links), (5, pairing_best)] (rf_fa1 e_rhymes_links (rf_fa1 e_pairing_best rf_fa0))]
    exact hP
  refine lv_aload_n hx hb dX10_kept_0 rfl (lv_at hl 0 rfl) ?_
  refine lv_aload_n hx hb dX10_kept_1 rfl (lv_at hl 0 rfl) ?_
  obtain ⟨z2, hz2, hf⟩ := rf_bd hf
  refine rf_vi (q0 := 0) (ci := 10) hC (c_X10_hasFerry l E a P (rf_upL I [(3, x_lastTrouble)]) J (rf_upL A [(3, rhymes_links), (5, pairing_best)]) B tc_personCount hp0 e_tc_personCount hz2) kV_X10_hasFerry tw_761 ⟨Nat.le_of_ble_eq_true rfl, Nat.le_of_ble_eq_true rfl⟩ rfl rfl rfl rfl rfl hP (rf_DX hD) hS rfl hl.1 (rest := [.ref (a 0)]) rfl (Nat.le_of_ble_eq_true rfl) dX10_kept_2 (fun H locs hP hS => ?_)
  refine lv_aload_n hx hb dX10_kept_5 rfl (lv_at hl 0 rfl) ?_
  refine lv_iload_n hx hb dX10_kept_6 rfl (lv_at hl 1 rfl) ?_
  obtain ⟨z7, hz7, hf⟩ := rf_bd hf
  refine rf_vi (q0 := 0) (ci := 10) hC (c_X10_isHour l E a P (rf_upL I [(3, x_lastTrouble)]) J (rf_upL A [(3, rhymes_links), (5, pairing_best)]) B v1 hz7) kV_X10_isHour tw_765 ⟨Nat.le_of_ble_eq_true rfl, Nat.le_of_ble_eq_true rfl⟩ rfl rfl rfl rfl rfl hP (rf_DX hD) hS rfl hl.1 (rest := [.int z2, .ref (a 0)]) rfl (Nat.le_of_ble_eq_true rfl) dX10_kept_7 (fun H locs hP hS => ?_)
  obtain ⟨z10, hz10, hf⟩ := rf_bd hf
  refine rf_vi (q0 := 0) (ci := 10) hC (c_X10_refused l E a P (rf_upL I [(3, x_lastTrouble)]) J (rf_upL A [(3, rhymes_links), (5, pairing_best)]) B x_lastTrouble z2 z7 rfl hz10) kV_X10_refused tw_454 ⟨Nat.le_of_ble_eq_true rfl, Nat.le_of_ble_eq_true rfl⟩ rfl rfl rfl rfl rfl hP (rf_DX hD) hS rfl hl.1 (rest := []) rfl (Nat.le_of_ble_eq_true rfl) dX10_kept_10 (fun H locs hP hS => ?_)
  rw [rf_cat (f := I) (l := [(3, x_lastTrouble)]) (lc := [(3, z10.2)]) (l' := [(3, z10.2)]) rfl] at hP
  refine lv_if_eq (tgt := 18) hx hb dX10_kept_13 (by decide) (fun c_13 => ?_) (fun c_13 => ?_)
  · have hf := rf_it c_13 hf
    refine lv_aload_n hx hb dX10_kept_18 rfl (lv_at hl 0 rfl) ?_
    refine gX_x_rhymes hC hP tw_392 dX10_kept_19 ?_
    refine lv_aload_n hx hb dX10_kept_22 rfl (lv_at hl 0 rfl) ?_
    refine gX_x_tale hC hP tw_400 (v := a 10) hp0 dX10_kept_23 ?_
    refine lv_iload_n hx hb dX10_kept_26 rfl (lv_at hl 1 rfl) ?_
    obtain ⟨z27, hz27, hf⟩ := rf_bd hf
    refine rf_vi (q0 := 10) (ci := 9) hC (c_X9_earAt_tc l E a P (rf_upL I [(3, z10.2)]) J (rf_upL A [(3, rhymes_links), (5, pairing_best)]) B tc_ear tc_hourEars v1 e_tc_ear e_tc_hourEars hz27) kV_X9_earAt tw_769 ⟨Nat.le_of_ble_eq_true rfl, Nat.le_of_ble_eq_true rfl⟩ rfl rfl rfl rfl rfl hP (rf_DX hD) hS rfl hl.1 (rest := [.ref (a 2)]) rfl (Nat.le_of_ble_eq_true rfl) dX10_kept_27 (fun H locs hP hS => ?_)
    obtain ⟨z30, hz30, hf⟩ := rf_bd hf
    refine rf_vv (q0 := 2) (ci := 6) hC (c_X6_link l E a P (rf_upL I [(3, z10.2)]) J (rf_upL A [(3, rhymes_links), (5, pairing_best)]) B tc_wordCount tc_personCount now_words tc_kinds tc_close rhymes_links z27 hp2 e_tc_wordCount e_tc_personCount e_now_words e_tc_kinds e_tc_close rfl hz30) kV_X6_link tw_830 ⟨Nat.le_of_ble_eq_true rfl, Nat.le_of_ble_eq_true rfl⟩ rfl rfl rfl rfl rfl hP (rf_DX hD) hS rfl hl.1 (rest := []) rfl (Nat.le_of_ble_eq_true rfl) dX10_kept_30 (fun H locs hP hS => ?_)
    rw [rf_cat (f := A) (l := [(3, rhymes_links), (5, pairing_best)]) (lc := [(3, z30)]) (l' := [(3, z30), (5, pairing_best)]) rfl] at hP
    refine lv_aload_n hx hb dX10_kept_33 rfl (lv_at hl 0 rfl) ?_
    refine gX_x_pairing hC hP tw_393 dX10_kept_34 ?_
    refine lv_aload_n hx hb dX10_kept_37 rfl (lv_at hl 0 rfl) ?_
    refine gX_x_rhymes hC hP tw_392 dX10_kept_38 ?_
    refine gX_rhymes_links hC hP tw_191 dX10_kept_41 ?_
    refine lv_aload_n hx hb dX10_kept_44 rfl (lv_at hl 0 rfl) ?_
    refine gX_x_now hC hP tw_391 dX10_kept_45 ?_
    refine lv_iconst (v := 0) hx hb dX10_kept_48 (by decide) ?_
    obtain ⟨z49, hz49, hf⟩ := rf_bd hf
    refine rf_vi (q0 := 1) (ci := 2) hC (c_X2_onBank l E a P (rf_upL I [(3, z10.2)]) J (rf_upL A [(3, z30), (5, pairing_best)]) B now_everybody now_far 0 e_now_everybody e_now_far hz49) kV_X2_onBank tw_904 ⟨Nat.le_of_ble_eq_true rfl, Nat.le_of_ble_eq_true rfl⟩ rfl rfl rfl rfl rfl hP (rf_DX hD) hS rfl hl.1 (rest := [.ref (a 16), .ref (a 3)]) rfl (Nat.le_of_ble_eq_true rfl) dX10_kept_49 (fun H locs hP hS => ?_)
    refine lv_aload_n hx hb dX10_kept_52 rfl (lv_at hl 0 rfl) ?_
    refine gX_x_tale hC hP tw_400 (v := a 10) hp0 dX10_kept_53 ?_
    obtain ⟨z56, hz56, hf⟩ := rf_bd hf
    refine rf_vi (q0 := 3) (ci := 3) hC (c_X3_mostKept l E a P (rf_upL I [(3, z10.2)]) J (rf_upL A [(3, z30), (5, pairing_best)]) B tc_pairs z30 tc_errands pairing_best z49 e_tc_pairs rfl e_tc_errands rfl hz56) kV_X3_mostKept tw_944 ⟨Nat.le_of_ble_eq_true rfl, Nat.le_of_ble_eq_true rfl⟩ rfl rfl rfl rfl rfl hP (rf_DX hD) hS rfl hl.1 (rest := []) rfl (Nat.le_of_ble_eq_true rfl) dX10_kept_56 (fun H locs hP hS => ?_)
    rw [rf_cat (f := A) (l := [(3, z30), (5, pairing_best)]) (lc := [(5, z56.2)]) (l' := [(3, z30), (5, z56.2)]) rfl] at hP
    obtain rfl := Option.some.inj hf
    exact rf_reti hC hP hS rfl rfl dX10_kept_59
  have hf := rf_ie c_13 hf
  refine lv_iconst (v := (-1)) hx hb dX10_kept_16 (by decide) ?_
  obtain rfl := Option.some.inj hf
  exact rf_reti hC hP hS rfl rfl dX10_kept_17
set_option maxHeartbeats 4000000 in
set_option maxRecDepth 100000 in
theorem w_X1_firstUntrue_10 {l : Launch} {p : Program} {e : Env} {s : State} {m : MethodId} {args : Array Value} {below : List Frame} {meth : Method} {c : Code} {A0 : Nat → Prop} {E : rf_E} {a P : Nat → Nat} {I : Nat → Int32} {J : Nat → Int64} {A : Nat → Nat → Int32} {B : Nat → Nat → Int64} {tc_wordCount : Int32} {tc_gotCount : Int32} {now_words : Nat → Int32} {tc_kinds : Nat → Int32} {tc_gotFirst : Nat → Int32} {tc_gotSecond : Nat → Int32} {tc_gotDegree : Nat → Int32} {tc_close : Nat → Int32} {z : Int32} (hC : rf_C p E s m args meth c cX1_firstUntrue 4 RX1 (some .int) A0) (hD : va_D A0 (cX E a P I J A B)) (hp2 : P 2 = a 10) (e_tc_wordCount : I 23 = tc_wordCount) (e_tc_gotCount : I 27 = tc_gotCount) (e_now_words : A 1 = now_words) (e_tc_kinds : A 14 = tc_kinds) (e_tc_gotFirst : A 19 = tc_gotFirst) (e_tc_gotSecond : A 20 = tc_gotSecond) (e_tc_gotDegree : A 21 = tc_gotDegree) (e_tc_close : A 22 = tc_close) :
    ∀ (n : Nat), ∀ (v1 : Int32) (v3 : Int32), f_X1_firstUntrue_10 tc_wordCount tc_gotCount now_words tc_kinds tc_gotFirst tc_gotSecond tc_gotDegree tc_close n v1 v3 = some z → ∀ (H : Heap) (locs : List Loc) (ls : Array Slot), va_P (rf_D E) vwCl (cX E a P I J A B) H → va_S A0 s.heap H locs → lv_has ls 4 [(0, .ref (a 5)), (1, .int v1), (2, .ref (a 10)), (3, .int v3)] → W p l e ({ frames := 4, cells := 0, slots := 0, locals := 100 }) s m args below meth c H locs 0 0 (rf_QI below args s E A0 z (cX E a P I J A B)) (F0 m 10 ls []) := by
  have hx := hC.1
  have hb := hC.2.1
  intro n
  induction n with
  | zero =>
    intro v1 v3 hf
    have hf : (none : Option (Int32)) = some z := hf
    cases hf
  | succ n ih =>
    intro v1 v3 hf H locs ls hP hS hl
    rw [f_X1_firstUntrue_10] at hf
    refine lv_iload_n hx hb dX1_firstUntrue_10 rfl (lv_at hl 3 rfl) ?_
    refine lv_aload_n hx hb dX1_firstUntrue_11 rfl (lv_at hl 2 rfl) ?_
    refine gX_tc_gotCount hC hP tw_140 (v := tc_gotCount) e_tc_gotCount dX1_firstUntrue_12 ?_
    refine lv_icmp_ge (tgt := 55) hx hb dX1_firstUntrue_15 (by decide) (fun c_15 => ?_) (fun c_15 => ?_)
    · have hf := rf_it c_15 hf
      refine lv_bipush (v := (-2)) hx hb dX1_firstUntrue_55 (by decide) ?_
      obtain rfl := Option.some.inj hf
      exact rf_reti hC hP hS rfl rfl dX1_firstUntrue_57
    have hf := rf_ie c_15 hf
    refine lv_aload_n hx hb dX1_firstUntrue_18 rfl (lv_at hl 0 rfl) ?_
    refine gX_hearing_rhymes hC hP tw_254 dX1_firstUntrue_19 ?_
    refine lv_aload_n hx hb dX1_firstUntrue_22 rfl (lv_at hl 2 rfl) ?_
    refine gX_tc_gotFirst hC hP tw_107 dX1_firstUntrue_23 ?_
    refine lv_iload_n hx hb dX1_firstUntrue_26 rfl (lv_at hl 3 rfl) ?_
    obtain ⟨hi_27, hf⟩ := rf_gu hf
    refine lX_tc_gotFirst hC hP hi_27 (f := tc_gotFirst) e_tc_gotFirst dX1_firstUntrue_27 ?_
    refine lv_aload_n hx hb dX1_firstUntrue_28 rfl (lv_at hl 2 rfl) ?_
    refine gX_tc_gotSecond hC hP tw_109 dX1_firstUntrue_29 ?_
    refine lv_iload_n hx hb dX1_firstUntrue_32 rfl (lv_at hl 3 rfl) ?_
    obtain ⟨hi_33, hf⟩ := rf_gu hf
    refine lX_tc_gotSecond hC hP hi_33 (f := tc_gotSecond) e_tc_gotSecond dX1_firstUntrue_33 ?_
    refine lv_iload_n hx hb dX1_firstUntrue_34 rfl (lv_at hl 1 rfl) ?_
    obtain ⟨z35, hz35, hf⟩ := rf_bd hf
    refine rf_vi (q0 := 2) (ci := 6) hC (c_X6_degree l E a P I J A B tc_wordCount now_words tc_kinds tc_close (tc_gotFirst (Int32.toNatClampNeg v3)) (tc_gotSecond (Int32.toNatClampNeg v3)) v1 hp2 e_tc_wordCount e_now_words e_tc_kinds e_tc_close hz35) kV_X6_degree tw_961 ⟨Nat.le_of_ble_eq_true rfl, Nat.le_of_ble_eq_true rfl⟩ rfl rfl rfl rfl rfl hP (rf_DX hD) hS rfl hl.1 (rest := []) rfl (Nat.le_of_ble_eq_true rfl) dX1_firstUntrue_35 (fun H locs hP hS => ?_)
    refine lv_aload_n hx hb dX1_firstUntrue_38 rfl (lv_at hl 2 rfl) ?_
    refine gX_tc_gotDegree hC hP tw_111 dX1_firstUntrue_39 ?_
    refine lv_iload_n hx hb dX1_firstUntrue_42 rfl (lv_at hl 3 rfl) ?_
    obtain ⟨hi_43, hf⟩ := rf_gu hf
    refine lX_tc_gotDegree hC hP hi_43 (f := tc_gotDegree) e_tc_gotDegree dX1_firstUntrue_43 ?_
    refine lv_icmp_eq (tgt := 49) hx hb dX1_firstUntrue_44 (by decide) (fun c_44 => ?_) (fun c_44 => ?_)
    · have hf := rf_it c_44 hf
      refine lv_iinc (v := v3 + 1) (lv' := [(3, .int (v3 + 1)), (0, .ref (a 5)), (1, .int v1), (2, .ref (a 10))]) hx hb dX1_firstUntrue_49 hl (k := 3) rfl rfl (by decide) rfl (fun ls hl => ?_)
      refine lv_goto (tgt := 10) hx hb dX1_firstUntrue_52 (by decide) ?_
      exact ih v1 (v3 + 1) hf _ _ _ hP hS (lv_sub hl [1, 2, 3, 0] rfl)
    have hf := rf_ie c_44 hf
    refine lv_iload_n hx hb dX1_firstUntrue_47 rfl (lv_at hl 3 rfl) ?_
    obtain rfl := Option.some.inj hf
    exact rf_reti hC hP hS rfl rfl dX1_firstUntrue_48
set_option maxHeartbeats 4000000 in
set_option maxRecDepth 100000 in
theorem c_X1_firstUntrue (l : Launch) (E : rf_E) (a P : Nat → Nat) (I : Nat → Int32) (J : Nat → Int64) (A : Nat → Nat → Int32) (B : Nat → Nat → Int64) (tc_wordCount : Int32) (tc_gotCount : Int32) (now_words : Nat → Int32) (tc_kinds : Nat → Int32) (tc_gotFirst : Nat → Int32) (tc_gotSecond : Nat → Int32) (tc_gotDegree : Nat → Int32) (tc_close : Nat → Int32) (v1 : Int32) {z : Int32} (hp2 : P 2 = a 10) (e_tc_wordCount : I 23 = tc_wordCount) (e_tc_gotCount : I 27 = tc_gotCount) (e_now_words : A 1 = now_words) (e_tc_kinds : A 14 = tc_kinds) (e_tc_gotFirst : A 19 = tc_gotFirst) (e_tc_gotSecond : A 20 = tc_gotSecond) (e_tc_gotDegree : A 21 = tc_gotDegree) (e_tc_close : A 22 = tc_close) (hf : f_X1_firstUntrue tc_wordCount tc_gotCount now_words tc_kinds tc_gotFirst tc_gotSecond tc_gotDegree tc_close v1 = some z) : rf_MI l yX1_firstUntrue cX1_firstUntrue 4 (some .int) ({ frames := 4, cells := 0, slots := 0, locals := 100 }) E [.ref (a 5), .int v1] (cX E a P I J A B) z (cX E a P I J A B) := by
  unfold f_X1_firstUntrue at hf
  refine rf_ofI (by decide) (Nat.le_of_ble_eq_true rfl) ?_
  intro p e s m below meth c A0 ls hC hD hP hS hl
  have hC : rf_C p E s m _ meth c cX1_firstUntrue 4 RX1 (some .int) A0 := hC
  have hx := hC.1
  have hb := hC.2.1
  have hl : lv_has ls 4 [(0, .ref (a 5)), (1, .int v1)] := hl
  refine lv_aload_n hx hb dX1_firstUntrue_0 rfl (lv_at hl 0 rfl) ?_
  refine gX_hearing_rhymes hC hP tw_254 dX1_firstUntrue_1 ?_
  refine gX_rhymes_tale hC hP tw_194 (v := a 10) hp2 dX1_firstUntrue_4 ?_
  refine lv_astore_n (lv' := [(2, .ref (a 10)), (0, .ref (a 5)), (1, .int v1)]) hx hb dX1_firstUntrue_7 rfl hl (by decide) rfl (fun ls hl => ?_)
  refine lv_iconst (v := 0) hx hb dX1_firstUntrue_8 (by decide) ?_
  refine lv_istore_n (lv' := [(3, .int 0), (2, .ref (a 10)), (0, .ref (a 5)), (1, .int v1)]) hx hb dX1_firstUntrue_9 rfl hl (by decide) rfl (fun ls hl => ?_)
  exact w_X1_firstUntrue_10 hC hD hp2 e_tc_wordCount e_tc_gotCount e_now_words e_tc_kinds e_tc_gotFirst e_tc_gotSecond e_tc_gotDegree e_tc_close rf_fu v1 0 hf _ _ _ hP hS (lv_sub hl [2, 3, 1, 0] rfl)
set_option maxHeartbeats 4000000 in
set_option maxRecDepth 100000 in
theorem c_X10_judge (l : Launch) (E : rf_E) (a P : Nat → Nat) (I : Nat → Int32) (J : Nat → Int64) (A : Nat → Nat → Int32) (B : Nat → Nat → Int64) (tc_ear : Int32) (tc_wordCount : Int32) (tc_personCount : Int32) (tc_gotCount : Int32) (now_words : Nat → Int32) (tc_kinds : Nat → Int32) (tc_gotFirst : Nat → Int32) (tc_gotSecond : Nat → Int32) (tc_gotDegree : Nat → Int32) (tc_close : Nat → Int32) (x_lastTrouble : Int32) {z : Int32 × Int32} (hp0 : P 0 = a 10) (hp2 : P 2 = a 10) (e_tc_ear : I 21 = tc_ear) (e_tc_wordCount : I 23 = tc_wordCount) (e_tc_personCount : I 24 = tc_personCount) (e_tc_gotCount : I 27 = tc_gotCount) (e_now_words : A 1 = now_words) (e_tc_kinds : A 14 = tc_kinds) (e_tc_gotFirst : A 19 = tc_gotFirst) (e_tc_gotSecond : A 20 = tc_gotSecond) (e_tc_gotDegree : A 21 = tc_gotDegree) (e_tc_close : A 22 = tc_close) (e_x_lastTrouble : I 3 = x_lastTrouble) (hf : f_X10_judge tc_ear tc_wordCount tc_personCount tc_gotCount now_words tc_kinds tc_gotFirst tc_gotSecond tc_gotDegree tc_close x_lastTrouble = some z) : rf_MI l yX10_judge cX10_judge 1 (some .int) ({ frames := 5, cells := 0, slots := 0, locals := 123 }) E [.ref (a 0)] (cX E a P I J A B) z.1 (cX E a P (rf_upL I [(3, z.2)]) J A B) := by
  unfold f_X10_judge at hf
  refine rf_ofI (by decide) (Nat.le_of_ble_eq_true rfl) ?_
  intro p e s m below meth c A0 ls hC hD hP hS hl
  have hC : rf_C p E s m _ meth c cX10_judge 1 RX10 (some .int) A0 := hC
  have hx := hC.1
  have hb := hC.2.1
  have hl : lv_has ls 1 [(0, .ref (a 0))] := hl
  have hP : va_P (rf_D E) vwCl (cX E a P (rf_upL I [(3, x_lastTrouble)]) J A B) s.heap := by
    rw [rf_self (f := I) [(3, x_lastTrouble)] (rf_fa1 e_x_lastTrouble rf_fa0)]
    exact hP
  refine lv_aload_n hx hb dX10_judge_0 rfl (lv_at hl 0 rfl) ?_
  refine lv_aload_n hx hb dX10_judge_1 rfl (lv_at hl 0 rfl) ?_
  obtain ⟨z2, hz2, hf⟩ := rf_bd hf
  refine rf_vi (q0 := 0) (ci := 10) hC (c_X10_hasFerry l E a P (rf_upL I [(3, x_lastTrouble)]) J A B tc_personCount hp0 e_tc_personCount hz2) kV_X10_hasFerry tw_761 ⟨Nat.le_of_ble_eq_true rfl, Nat.le_of_ble_eq_true rfl⟩ rfl rfl rfl rfl rfl hP (rf_DX hD) hS rfl hl.1 (rest := [.ref (a 0)]) rfl (Nat.le_of_ble_eq_true rfl) dX10_judge_2 (fun H locs hP hS => ?_)
  refine lv_iconst (v := 1) hx hb dX10_judge_5 (by decide) ?_
  obtain ⟨z6, hz6, hf⟩ := rf_bd hf
  refine rf_vi (q0 := 0) (ci := 10) hC (c_X10_refused l E a P (rf_upL I [(3, x_lastTrouble)]) J A B x_lastTrouble z2 1 rfl hz6) kV_X10_refused tw_454 ⟨Nat.le_of_ble_eq_true rfl, Nat.le_of_ble_eq_true rfl⟩ rfl rfl rfl rfl rfl hP (rf_DX hD) hS rfl hl.1 (rest := []) rfl (Nat.le_of_ble_eq_true rfl) dX10_judge_6 (fun H locs hP hS => ?_)
  rw [rf_cat (f := I) (l := [(3, x_lastTrouble)]) (lc := [(3, z6.2)]) (l' := [(3, z6.2)]) rfl] at hP
  refine lv_if_eq (tgt := 14) hx hb dX10_judge_9 (by decide) (fun c_9 => ?_) (fun c_9 => ?_)
  · have hf := rf_it c_9 hf
    refine lv_aload_n hx hb dX10_judge_14 rfl (lv_at hl 0 rfl) ?_
    refine gX_x_hearing hC hP tw_395 dX10_judge_15 ?_
    refine lv_aload_n hx hb dX10_judge_18 rfl (lv_at hl 0 rfl) ?_
    refine gX_x_tale hC hP tw_400 (v := a 10) hp0 dX10_judge_19 ?_
    refine gX_tc_ear hC hP tw_115 (v := tc_ear) e_tc_ear dX10_judge_22 ?_
    obtain ⟨z25, hz25, hf⟩ := rf_bd hf
    refine rf_vi (q0 := 5) (ci := 1) hC (c_X1_firstUntrue l E a P (rf_upL I [(3, z6.2)]) J A B tc_wordCount tc_gotCount now_words tc_kinds tc_gotFirst tc_gotSecond tc_gotDegree tc_close tc_ear hp2 e_tc_wordCount e_tc_gotCount e_now_words e_tc_kinds e_tc_gotFirst e_tc_gotSecond e_tc_gotDegree e_tc_close hz25) kV_X1_firstUntrue tw_957 ⟨Nat.le_of_ble_eq_true rfl, Nat.le_of_ble_eq_true rfl⟩ rfl rfl rfl rfl rfl hP (rf_DX hD) hS rfl hl.1 (rest := []) rfl (Nat.le_of_ble_eq_true rfl) dX10_judge_25 (fun H locs hP hS => ?_)
    obtain rfl := Option.some.inj hf
    exact rf_reti hC hP hS rfl rfl dX10_judge_28
  have hf := rf_ie c_9 hf
  refine lv_iconst (v := (-1)) hx hb dX10_judge_12 (by decide) ?_
  obtain rfl := Option.some.inj hf
  exact rf_reti hC hP hS rfl rfl dX10_judge_13
set_option maxHeartbeats 4000000 in
set_option maxRecDepth 100000 in
theorem w_X3_leastCoinsIn_86 {l : Launch} {p : Program} {e : Env} {s : State} {m : MethodId} {args : Array Value} {below : List Frame} {meth : Method} {c : Code} {A0 : Nat → Prop} {E : rf_E} {a P : Nat → Nat} {I : Nat → Int32} {J : Nat → Int64} {A : Nat → Nat → Int32} {B : Nat → Nat → Int64} {pairing_best : Nat → Int32} {purse_coins : Nat → Int32} {z : Int32} (hC : rf_C p E s m args meth c cX3_leastCoinsIn 7 RX3 (some .int) A0) (hD : va_D A0 (cX E a P I J A B)) (e_pairing_best : A 5 = pairing_best) (e_purse_coins : A 6 = purse_coins) :
    ∀ (v4 : Int32), f_X3_leastCoinsIn_86 pairing_best purse_coins v4 = some z → ∀ (H : Heap) (locs : List Loc) (ls : Array Slot), va_P (rf_D E) vwCl (cX E a P I J A B) H → va_S A0 s.heap H locs → lv_has ls 7 [(4, .int v4)] → W p l e ({ frames := 2, cells := 0, slots := 0, locals := 42 }) s m args below meth c H locs 0 0 (rf_QI below args s E A0 z (cX E a P I J A B)) (F0 m 86 ls []) := by
  have hx := hC.1
  have hb := hC.2.1
  intro v4 hf H locs ls hP hS hl
  unfold f_X3_leastCoinsIn_86 at hf
  refine lv_iload hx hb dX3_leastCoinsIn_86 (lv_at hl 0 rfl) ?_
  obtain rfl := Option.some.inj hf
  exact rf_reti hC hP hS rfl rfl dX3_leastCoinsIn_88
set_option maxHeartbeats 4000000 in
set_option maxRecDepth 100000 in
theorem w_X3_leastCoinsIn_80 {l : Launch} {p : Program} {e : Env} {s : State} {m : MethodId} {args : Array Value} {below : List Frame} {meth : Method} {c : Code} {A0 : Nat → Prop} {E : rf_E} {a P : Nat → Nat} {I : Nat → Int32} {J : Nat → Int64} {A : Nat → Nat → Int32} {B : Nat → Nat → Int64} {pairing_best : Nat → Int32} {purse_coins : Nat → Int32} {z : Int32} (hC : rf_C p E s m args meth c cX3_leastCoinsIn 7 RX3 (some .int) A0) (hD : va_D A0 (cX E a P I J A B)) (e_pairing_best : A 5 = pairing_best) (e_purse_coins : A 6 = purse_coins) {k14 : Int32 → Int32 → Int32 → Int32 → Option (Int32)} (hk14 : ∀ (v2 : Int32) (v3 : Int32) (v4 : Int32) (v5 : Int32), k14 v2 v3 v4 v5 = some z → ∀ (H : Heap) (locs : List Loc) (ls : Array Slot), va_P (rf_D E) vwCl (cX E a P I J A B) H → va_S A0 s.heap H locs → lv_has ls 7 [(0, .ref (a 3)), (1, .ref (a 19)), (2, .int v2), (3, .int v3), (4, .int v4), (5, .int v5)] → W p l e ({ frames := 2, cells := 0, slots := 0, locals := 42 }) s m args below meth c H locs 0 0 (rf_QI below args s E A0 z (cX E a P I J A B)) (F0 m 14 ls [])) :
    ∀ (v2 : Int32) (v3 : Int32) (v4 : Int32) (v5 : Int32), f_X3_leastCoinsIn_80 k14 pairing_best purse_coins v2 v3 v4 v5 = some z → ∀ (H : Heap) (locs : List Loc) (ls : Array Slot), va_P (rf_D E) vwCl (cX E a P I J A B) H → va_S A0 s.heap H locs → lv_has ls 7 [(0, .ref (a 3)), (1, .ref (a 19)), (2, .int v2), (3, .int v3), (4, .int v4), (5, .int v5)] → W p l e ({ frames := 2, cells := 0, slots := 0, locals := 42 }) s m args below meth c H locs 0 0 (rf_QI below args s E A0 z (cX E a P I J A B)) (F0 m 80 ls []) := by
  have hx := hC.1
  have hb := hC.2.1
  intro v2 v3 v4 v5 hf H locs ls hP hS hl
  unfold f_X3_leastCoinsIn_80 at hf
  refine lv_iinc (v := v5 + 1) (lv' := [(5, .int (v5 + 1)), (0, .ref (a 3)), (1, .ref (a 19)), (2, .int v2), (3, .int v3), (4, .int v4)]) hx hb dX3_leastCoinsIn_80 hl (k := 5) rfl rfl (by decide) rfl (fun ls hl => ?_)
  refine lv_goto (tgt := 14) hx hb dX3_leastCoinsIn_83 (by decide) ?_
  exact hk14 v2 v3 v4 (v5 + 1) hf _ _ _ hP hS (lv_sub hl [1, 2, 3, 4, 5, 0] rfl)
set_option maxHeartbeats 4000000 in
set_option maxRecDepth 100000 in
theorem w_X3_leastCoinsIn_14 {l : Launch} {p : Program} {e : Env} {s : State} {m : MethodId} {args : Array Value} {below : List Frame} {meth : Method} {c : Code} {A0 : Nat → Prop} {E : rf_E} {a P : Nat → Nat} {I : Nat → Int32} {J : Nat → Int64} {A : Nat → Nat → Int32} {B : Nat → Nat → Int64} {pairing_best : Nat → Int32} {purse_coins : Nat → Int32} {z : Int32} (hC : rf_C p E s m args meth c cX3_leastCoinsIn 7 RX3 (some .int) A0) (hD : va_D A0 (cX E a P I J A B)) (e_pairing_best : A 5 = pairing_best) (e_purse_coins : A 6 = purse_coins) :
    ∀ (n : Nat), ∀ (v2 : Int32) (v3 : Int32) (v4 : Int32) (v5 : Int32), f_X3_leastCoinsIn_14 pairing_best purse_coins n v2 v3 v4 v5 = some z → ∀ (H : Heap) (locs : List Loc) (ls : Array Slot), va_P (rf_D E) vwCl (cX E a P I J A B) H → va_S A0 s.heap H locs → lv_has ls 7 [(0, .ref (a 3)), (1, .ref (a 19)), (2, .int v2), (3, .int v3), (4, .int v4), (5, .int v5)] → W p l e ({ frames := 2, cells := 0, slots := 0, locals := 42 }) s m args below meth c H locs 0 0 (rf_QI below args s E A0 z (cX E a P I J A B)) (F0 m 14 ls []) := by
  have hx := hC.1
  have hb := hC.2.1
  intro n
  induction n with
  | zero =>
    intro v2 v3 v4 v5 hf
    have hf : (none : Option (Int32)) = some z := hf
    cases hf
  | succ n ih =>
    intro v2 v3 v4 v5 hf H locs ls hP hS hl
    rw [f_X3_leastCoinsIn_14] at hf
    refine lv_iload_n hx hb dX3_leastCoinsIn_14 rfl (lv_at hl 3 rfl) ?_
    refine lv_iconst (v := (-1)) hx hb dX3_leastCoinsIn_15 (by decide) ?_
    refine lv_icmp_eq (tgt := 86) hx hb dX3_leastCoinsIn_16 (by decide) (fun c_16 => ?_) (fun c_16 => ?_)
    · have hf := rf_it c_16 hf
      exact w_X3_leastCoinsIn_86 hC hD e_pairing_best e_purse_coins v4 hf _ _ _ hP hS (lv_sub hl [4] rfl)
    have hf := rf_ie c_16 hf
    refine lv_iload hx hb dX3_leastCoinsIn_19 (lv_at hl 5 rfl) ?_
    refine lv_bipush (v := 8) hx hb dX3_leastCoinsIn_21 (by decide) ?_
    refine lv_icmp_ge (tgt := 86) hx hb dX3_leastCoinsIn_23 (by decide) (fun c_23 => ?_) (fun c_23 => ?_)
    · have hf := rf_it c_23 hf
      exact w_X3_leastCoinsIn_86 hC hD e_pairing_best e_purse_coins v4 hf _ _ _ hP hS (lv_sub hl [4] rfl)
    have hf := rf_ie c_23 hf
    refine lv_aload_n hx hb dX3_leastCoinsIn_26 rfl (lv_at hl 1 rfl) ?_
    refine lv_iload_n hx hb dX3_leastCoinsIn_27 rfl (lv_at hl 3 rfl) ?_
    refine lv_bipush (v := 8) hx hb dX3_leastCoinsIn_28 (by decide) ?_
    refine lv_imul hx hb dX3_leastCoinsIn_30 ?_
    refine lv_iload hx hb dX3_leastCoinsIn_31 (lv_at hl 5 rfl) ?_
    refine lv_iadd hx hb dX3_leastCoinsIn_33 ?_
    obtain ⟨hi_34, hf⟩ := rf_gu hf
    refine lX_purse_coins hC hP hi_34 (f := purse_coins) e_purse_coins dX3_leastCoinsIn_34 ?_
    refine lv_istore (lv' := [(6, .int (purse_coins (Int32.toNatClampNeg ((v3 * 8) + v5)))), (0, .ref (a 3)), (1, .ref (a 19)), (2, .int v2), (3, .int v3), (4, .int v4), (5, .int v5)]) hx hb dX3_leastCoinsIn_35 hl (by decide) rfl (fun ls hl => ?_)
    refine lv_iload_n hx hb dX3_leastCoinsIn_37 rfl (lv_at hl 3 rfl) ?_
    refine lv_iload hx hb dX3_leastCoinsIn_38 (lv_at hl 6 rfl) ?_
    obtain ⟨z40, hz40, hf⟩ := rf_bd hf
    refine rf_sn0 hC (c_X10_holds l E v2 v5 hz40) kS_X10_holds nw_916 ⟨Nat.le_of_ble_eq_true rfl, Nat.le_of_ble_eq_true rfl⟩ rfl rfl hP hS rfl hl.1 (rest := []) rfl (Nat.le_of_ble_eq_true rfl) dX3_leastCoinsIn_40 (fun H locs hP hS => ?_)
    refine lv_if_eq (tgt := 80) hx hb dX3_leastCoinsIn_43 (by decide) (fun c_43 => ?_) (fun c_43 => ?_)
    · have hf := rf_it c_43 hf
      exact w_X3_leastCoinsIn_80 hC hD e_pairing_best e_purse_coins ih v2 v3 v4 v5 hf _ _ _ hP hS (lv_sub hl [1, 2, 3, 4, 5, 6] rfl)
    have hf := rf_ie c_43 hf
    refine lv_iload hx hb dX3_leastCoinsIn_46 (lv_at hl 0 rfl) ?_
    refine lv_if_lt (tgt := 80) hx hb dX3_leastCoinsIn_48 (by decide) (fun c_48 => ?_) (fun c_48 => ?_)
    · have hf := rf_it c_48 hf
      exact w_X3_leastCoinsIn_80 hC hD e_pairing_best e_purse_coins ih v2 v3 v4 v5 hf _ _ _ hP hS (lv_sub hl [1, 2, 3, 4, 5, 6] rfl)
    have hf := rf_ie c_48 hf
    refine lv_iload hx hb dX3_leastCoinsIn_51 (lv_at hl 5 rfl) ?_
    refine lv_iload hx hb dX3_leastCoinsIn_53 (lv_at hl 0 rfl) ?_
    refine lv_aload_n hx hb dX3_leastCoinsIn_55 rfl (lv_at hl 1 rfl) ?_
    refine gX_pairing_best hC hP tw_214 dX3_leastCoinsIn_56 ?_
    refine lv_iload_n hx hb dX3_leastCoinsIn_59 rfl (lv_at hl 3 rfl) ?_
    refine lv_iconst (v := 1) hx hb dX3_leastCoinsIn_60 (by decide) ?_
    refine lv_iload_n hx hb dX3_leastCoinsIn_61 rfl (lv_at hl 4 rfl) ?_
    refine lv_ishl hx hb dX3_leastCoinsIn_62 ?_
    refine lv_iconst (v := (-1)) hx hb dX3_leastCoinsIn_63 (by decide) ?_
    refine lv_ixor hx hb dX3_leastCoinsIn_64 ?_
    refine lv_iand hx hb dX3_leastCoinsIn_65 ?_
    refine lv_iconst (v := 1) hx hb dX3_leastCoinsIn_66 (by decide) ?_
    refine lv_iload hx hb dX3_leastCoinsIn_67 (lv_at hl 6 rfl) ?_
    refine lv_ishl hx hb dX3_leastCoinsIn_69 ?_
    refine lv_iconst (v := (-1)) hx hb dX3_leastCoinsIn_70 (by decide) ?_
    refine lv_ixor hx hb dX3_leastCoinsIn_71 ?_
    refine lv_iand hx hb dX3_leastCoinsIn_72 ?_
    obtain ⟨hi_73, hf⟩ := rf_gu hf
    refine lX_pairing_best hC hP hi_73 (f := pairing_best) e_pairing_best dX3_leastCoinsIn_73 ?_
    refine lv_iadd hx hb dX3_leastCoinsIn_74 ?_
    refine va_mmin hx hb (by rw [hC.2.2.1]; exact hl.1.symm) hC.2.2.2.1 (hC.2.2.2.2.1 _ tw_986) (hC.2.2.2.2.1 _ rf_min.1) (hC.2.2.2.2.1 _ rf_min.2.1) (hC.2.2.2.2.1 _ rf_min.2.2) (Nat.le_of_ble_eq_true rfl) (Nat.le_of_ble_eq_true rfl) (Nat.zero_le _) (Nat.zero_le _) dX3_leastCoinsIn_75 ?_
    refine lv_istore (lv' := [(4, .int (if ((purse_coins (Int32.toNatClampNeg ((v3 * 8) + v5))) + (pairing_best (Int32.toNatClampNeg ((v2 &&& (((1 : Int32) <<< (v3 &&& 31)) ^^^ (-1))) &&& (((1 : Int32) <<< (v5 &&& 31)) ^^^ (-1)))))) < v4 then ((purse_coins (Int32.toNatClampNeg ((v3 * 8) + v5))) + (pairing_best (Int32.toNatClampNeg ((v2 &&& (((1 : Int32) <<< (v3 &&& 31)) ^^^ (-1))) &&& (((1 : Int32) <<< (v5 &&& 31)) ^^^ (-1)))))) else v4)), (6, .int (purse_coins (Int32.toNatClampNeg ((v3 * 8) + v5)))), (0, .ref (a 3)), (1, .ref (a 19)), (2, .int v2), (3, .int v3), (5, .int v5)]) hx hb dX3_leastCoinsIn_78 hl (by decide) rfl (fun ls hl => ?_)
    exact w_X3_leastCoinsIn_80 hC hD e_pairing_best e_purse_coins ih v2 v3 (if ((purse_coins (Int32.toNatClampNeg ((v3 * 8) + v5))) + (pairing_best (Int32.toNatClampNeg ((v2 &&& (((1 : Int32) <<< (v3 &&& 31)) ^^^ (-1))) &&& (((1 : Int32) <<< (v5 &&& 31)) ^^^ (-1)))))) < v4 then ((purse_coins (Int32.toNatClampNeg ((v3 * 8) + v5))) + (pairing_best (Int32.toNatClampNeg ((v2 &&& (((1 : Int32) <<< (v3 &&& 31)) ^^^ (-1))) &&& (((1 : Int32) <<< (v5 &&& 31)) ^^^ (-1)))))) else v4) v5 hf _ _ _ hP hS (lv_sub hl [2, 3, 4, 5, 0, 6] rfl)
set_option maxHeartbeats 4000000 in
set_option maxRecDepth 100000 in
theorem c_X3_leastCoinsIn (l : Launch) (E : rf_E) (a P : Nat → Nat) (I : Nat → Int32) (J : Nat → Int64) (A : Nat → Nat → Int32) (B : Nat → Nat → Int64) (pairing_best : Nat → Int32) (purse_coins : Nat → Int32) (v2 : Int32) {z : Int32} (e_pairing_best : A 5 = pairing_best) (e_purse_coins : A 6 = purse_coins) (hf : f_X3_leastCoinsIn pairing_best purse_coins v2 = some z) : rf_MI l yX3_leastCoinsIn cX3_leastCoinsIn 7 (some .int) ({ frames := 2, cells := 0, slots := 0, locals := 42 }) E [.ref (a 3), .ref (a 19), .int v2] (cX E a P I J A B) z (cX E a P I J A B) := by
  unfold f_X3_leastCoinsIn at hf
  refine rf_ofI (by decide) (Nat.le_of_ble_eq_true rfl) ?_
  intro p e s m below meth c A0 ls hC hD hP hS hl
  have hC : rf_C p E s m _ meth c cX3_leastCoinsIn 7 RX3 (some .int) A0 := hC
  have hx := hC.1
  have hb := hC.2.1
  have hl : lv_has ls 7 [(0, .ref (a 3)), (1, .ref (a 19)), (2, .int v2)] := hl
  refine lv_iload_n hx hb dX3_leastCoinsIn_0 rfl (lv_at hl 2 rfl) ?_
  obtain ⟨z1, hz1, hf⟩ := rf_bd hf
  refine rf_si0 hC (c_X3_leastOf l E v2 hz1) kS_X3_leastOf tw_913 ⟨Nat.le_of_ble_eq_true rfl, Nat.le_of_ble_eq_true rfl⟩ rfl rfl hP hS rfl hl.1 (rest := []) rfl (Nat.le_of_ble_eq_true rfl) dX3_leastCoinsIn_1 (fun H locs hP hS => ?_)
  refine lv_istore_n (lv' := [(3, .int z1), (0, .ref (a 3)), (1, .ref (a 19)), (2, .int v2)]) hx hb dX3_leastCoinsIn_4 rfl hl (by decide) rfl (fun ls hl => ?_)
  refine lv_ldc hx hb hC.2.2.2.1 (hC.2.2.2.2.1 _ tw_985) dX3_leastCoinsIn_5 ?_
  refine lv_istore (lv' := [(4, .int 1000000), (3, .int z1), (0, .ref (a 3)), (1, .ref (a 19)), (2, .int v2)]) hx hb dX3_leastCoinsIn_7 hl (by decide) rfl (fun ls hl => ?_)
  refine lv_iload_n hx hb dX3_leastCoinsIn_9 rfl (lv_at hl 1 rfl) ?_
  refine lv_iconst (v := 1) hx hb dX3_leastCoinsIn_10 (by decide) ?_
  refine lv_iadd hx hb dX3_leastCoinsIn_11 ?_
  refine lv_istore (lv' := [(5, .int (z1 + 1)), (4, .int 1000000), (3, .int z1), (0, .ref (a 3)), (1, .ref (a 19)), (2, .int v2)]) hx hb dX3_leastCoinsIn_12 hl (by decide) rfl (fun ls hl => ?_)
  exact w_X3_leastCoinsIn_14 hC hD e_pairing_best e_purse_coins rf_fu v2 z1 1000000 (z1 + 1) hf _ _ _ hP hS (lv_sub hl [3, 4, 5, 2, 1, 0] rfl)
set_option maxHeartbeats 4000000 in
set_option maxRecDepth 100000 in
theorem w_X3_leastCoins_47 {l : Launch} {p : Program} {e : Env} {s : State} {m : MethodId} {args : Array Value} {below : List Frame} {meth : Method} {c : Code} {A0 : Nat → Prop} {E : rf_E} {a P : Nat → Nat} {I : Nat → Int32} {J : Nat → Int64} {A : Nat → Nat → Int32} {B : Nat → Nat → Int64} {purse_coins : Nat → Int32} {z : Int32 × (Nat → Int32)} (hC : rf_C p E s m args meth c cX3_leastCoins 4 RX3 (some .int) A0) (hD : va_D A0 (cX E a P I J A B)) (e_purse_coins : A 6 = purse_coins) :
    ∀ (v2 : Int32) (pairing_best : Nat → Int32), f_X3_leastCoins_47 purse_coins v2 pairing_best = some z → ∀ (H : Heap) (locs : List Loc) (ls : Array Slot), va_P (rf_D E) vwCl (cX E a P I J (rf_upL A [(5, pairing_best)]) B) H → va_S A0 s.heap H locs → lv_has ls 4 [(0, .ref (a 3)), (2, .int v2)] → W p l e ({ frames := 3, cells := 0, slots := 0, locals := 68 }) s m args below meth c H locs 0 0 (rf_QI below args s E A0 z.1 (cX E a P I J (rf_upL A [(5, z.2)]) B)) (F0 m 47 ls []) := by
  have hx := hC.1
  have hb := hC.2.1
  intro v2 pairing_best hf H locs ls hP hS hl
  unfold f_X3_leastCoins_47 at hf
  refine lv_aload_n hx hb dX3_leastCoins_47 rfl (lv_at hl 0 rfl) ?_
  refine gX_pairing_best hC hP tw_214 dX3_leastCoins_48 ?_
  refine lv_iload_n hx hb dX3_leastCoins_51 rfl (lv_at hl 1 rfl) ?_
  refine lv_sipush (v := 255) hx hb dX3_leastCoins_52 (by decide) ?_
  refine lv_iand hx hb dX3_leastCoins_55 ?_
  obtain ⟨hi_56, hf⟩ := rf_gu hf
  refine lX_pairing_best hC hP hi_56 (f := pairing_best) rfl dX3_leastCoins_56 ?_
  refine lv_istore_n (lv' := [(3, .int (pairing_best (Int32.toNatClampNeg (v2 &&& 255)))), (0, .ref (a 3)), (2, .int v2)]) hx hb dX3_leastCoins_57 rfl hl (by decide) rfl (fun ls hl => ?_)
  refine lv_iload_n hx hb dX3_leastCoins_58 rfl (lv_at hl 0 rfl) ?_
  refine lv_ldc hx hb hC.2.2.2.1 (hC.2.2.2.2.1 _ tw_985) dX3_leastCoins_59 ?_
  refine lv_icmp_ge (tgt := 68) hx hb dX3_leastCoins_61 (by decide) (fun c_61 => ?_) (fun c_61 => ?_)
  · have hf := rf_it c_61 hf
    refine lv_bipush (v := (-2)) hx hb dX3_leastCoins_68 (by decide) ?_
    obtain rfl := Option.some.inj hf
    exact rf_reti hC hP hS rfl rfl dX3_leastCoins_70
  have hf := rf_ie c_61 hf
  refine lv_iload_n hx hb dX3_leastCoins_64 rfl (lv_at hl 0 rfl) ?_
  refine lv_goto (tgt := 70) hx hb dX3_leastCoins_65 (by decide) ?_
  obtain rfl := Option.some.inj hf
  exact rf_reti hC hP hS rfl rfl dX3_leastCoins_70
set_option maxHeartbeats 4000000 in
set_option maxRecDepth 100000 in
theorem w_X3_leastCoins_41 {l : Launch} {p : Program} {e : Env} {s : State} {m : MethodId} {args : Array Value} {below : List Frame} {meth : Method} {c : Code} {A0 : Nat → Prop} {E : rf_E} {a P : Nat → Nat} {I : Nat → Int32} {J : Nat → Int64} {A : Nat → Nat → Int32} {B : Nat → Nat → Int64} {purse_coins : Nat → Int32} {z : Int32 × (Nat → Int32)} (hC : rf_C p E s m args meth c cX3_leastCoins 4 RX3 (some .int) A0) (hD : va_D A0 (cX E a P I J A B)) (e_purse_coins : A 6 = purse_coins) {k9 : Int32 → Int32 → (Nat → Int32) → Option (Int32 × (Nat → Int32))} (hk9 : ∀ (v2 : Int32) (v3 : Int32) (pairing_best : Nat → Int32), k9 v2 v3 pairing_best = some z → ∀ (H : Heap) (locs : List Loc) (ls : Array Slot), va_P (rf_D E) vwCl (cX E a P I J (rf_upL A [(5, pairing_best)]) B) H → va_S A0 s.heap H locs → lv_has ls 4 [(0, .ref (a 3)), (1, .ref (a 19)), (2, .int v2), (3, .int v3)] → W p l e ({ frames := 3, cells := 0, slots := 0, locals := 68 }) s m args below meth c H locs 0 0 (rf_QI below args s E A0 z.1 (cX E a P I J (rf_upL A [(5, z.2)]) B)) (F0 m 9 ls [])) :
    ∀ (v2 : Int32) (v3 : Int32) (pairing_best : Nat → Int32), f_X3_leastCoins_41 k9 purse_coins v2 v3 pairing_best = some z → ∀ (H : Heap) (locs : List Loc) (ls : Array Slot), va_P (rf_D E) vwCl (cX E a P I J (rf_upL A [(5, pairing_best)]) B) H → va_S A0 s.heap H locs → lv_has ls 4 [(0, .ref (a 3)), (1, .ref (a 19)), (2, .int v2), (3, .int v3)] → W p l e ({ frames := 3, cells := 0, slots := 0, locals := 68 }) s m args below meth c H locs 0 0 (rf_QI below args s E A0 z.1 (cX E a P I J (rf_upL A [(5, z.2)]) B)) (F0 m 41 ls []) := by
  have hx := hC.1
  have hb := hC.2.1
  intro v2 v3 pairing_best hf H locs ls hP hS hl
  unfold f_X3_leastCoins_41 at hf
  refine lv_iinc (v := v3 + 1) (lv' := [(3, .int (v3 + 1)), (0, .ref (a 3)), (1, .ref (a 19)), (2, .int v2)]) hx hb dX3_leastCoins_41 hl (k := 3) rfl rfl (by decide) rfl (fun ls hl => ?_)
  refine lv_goto (tgt := 9) hx hb dX3_leastCoins_44 (by decide) ?_
  exact hk9 v2 (v3 + 1) pairing_best hf _ _ _ hP hS (lv_sub hl [1, 2, 3, 0] rfl)
set_option maxHeartbeats 4000000 in
set_option maxRecDepth 100000 in
theorem w_X3_leastCoins_9 {l : Launch} {p : Program} {e : Env} {s : State} {m : MethodId} {args : Array Value} {below : List Frame} {meth : Method} {c : Code} {A0 : Nat → Prop} {E : rf_E} {a P : Nat → Nat} {I : Nat → Int32} {J : Nat → Int64} {A : Nat → Nat → Int32} {B : Nat → Nat → Int64} {purse_coins : Nat → Int32} {z : Int32 × (Nat → Int32)} (hC : rf_C p E s m args meth c cX3_leastCoins 4 RX3 (some .int) A0) (hD : va_D A0 (cX E a P I J A B)) (e_purse_coins : A 6 = purse_coins) :
    ∀ (n : Nat), ∀ (v2 : Int32) (v3 : Int32) (pairing_best : Nat → Int32), f_X3_leastCoins_9 purse_coins n v2 v3 pairing_best = some z → ∀ (H : Heap) (locs : List Loc) (ls : Array Slot), va_P (rf_D E) vwCl (cX E a P I J (rf_upL A [(5, pairing_best)]) B) H → va_S A0 s.heap H locs → lv_has ls 4 [(0, .ref (a 3)), (1, .ref (a 19)), (2, .int v2), (3, .int v3)] → W p l e ({ frames := 3, cells := 0, slots := 0, locals := 68 }) s m args below meth c H locs 0 0 (rf_QI below args s E A0 z.1 (cX E a P I J (rf_upL A [(5, z.2)]) B)) (F0 m 9 ls []) := by
  have hx := hC.1
  have hb := hC.2.1
  intro n
  induction n with
  | zero =>
    intro v2 v3 pairing_best hf
    have hf : (none : Option (Int32 × (Nat → Int32))) = some z := hf
    cases hf
  | succ n ih =>
    intro v2 v3 pairing_best hf H locs ls hP hS hl
    rw [f_X3_leastCoins_9] at hf
    refine lv_iload_n hx hb dX3_leastCoins_9 rfl (lv_at hl 3 rfl) ?_
    refine lv_iload_n hx hb dX3_leastCoins_10 rfl (lv_at hl 2 rfl) ?_
    refine lv_icmp_gt (tgt := 47) hx hb dX3_leastCoins_11 (by decide) (fun c_11 => ?_) (fun c_11 => ?_)
    · have hf := rf_it c_11 hf
      exact w_X3_leastCoins_47 hC hD e_purse_coins v2 pairing_best hf _ _ _ hP hS (lv_sub hl [0, 2] rfl)
    have hf := rf_ie c_11 hf
    refine lv_iload_n hx hb dX3_leastCoins_14 rfl (lv_at hl 3 rfl) ?_
    refine lv_sipush (v := 256) hx hb dX3_leastCoins_15 (by decide) ?_
    refine lv_icmp_ge (tgt := 47) hx hb dX3_leastCoins_18 (by decide) (fun c_18 => ?_) (fun c_18 => ?_)
    · have hf := rf_it c_18 hf
      exact w_X3_leastCoins_47 hC hD e_purse_coins v2 pairing_best hf _ _ _ hP hS (lv_sub hl [0, 2] rfl)
    have hf := rf_ie c_18 hf
    refine lv_iload_n hx hb dX3_leastCoins_21 rfl (lv_at hl 3 rfl) ?_
    refine lv_iload_n hx hb dX3_leastCoins_22 rfl (lv_at hl 2 rfl) ?_
    refine lv_iconst (v := (-1)) hx hb dX3_leastCoins_23 (by decide) ?_
    refine lv_ixor hx hb dX3_leastCoins_24 ?_
    refine lv_iand hx hb dX3_leastCoins_25 ?_
    refine lv_if_ne (tgt := 41) hx hb dX3_leastCoins_26 (by decide) (fun c_26 => ?_) (fun c_26 => ?_)
    · have hf := rf_ie c_26 hf
      exact w_X3_leastCoins_41 hC hD e_purse_coins ih v2 v3 pairing_best hf _ _ _ hP hS (lv_sub hl [0, 1, 2, 3] rfl)
    have hf := rf_it c_26 hf
    refine lv_aload_n hx hb dX3_leastCoins_29 rfl (lv_at hl 0 rfl) ?_
    refine gX_pairing_best hC hP tw_214 dX3_leastCoins_30 ?_
    refine lv_iload_n hx hb dX3_leastCoins_33 rfl (lv_at hl 3 rfl) ?_
    refine lv_aload_n hx hb dX3_leastCoins_34 rfl (lv_at hl 0 rfl) ?_
    refine lv_aload_n hx hb dX3_leastCoins_35 rfl (lv_at hl 1 rfl) ?_
    refine lv_iload_n hx hb dX3_leastCoins_36 rfl (lv_at hl 3 rfl) ?_
    obtain ⟨z37, hz37, hf⟩ := rf_bd hf
    refine rf_vi (q0 := 3) (ci := 3) hC (c_X3_leastCoinsIn l E a P I J (rf_upL A [(5, pairing_best)]) B pairing_best purse_coins v3 rfl e_purse_coins hz37) kV_X3_leastCoinsIn tw_981 ⟨Nat.le_of_ble_eq_true rfl, Nat.le_of_ble_eq_true rfl⟩ rfl rfl rfl rfl rfl hP (rf_DX hD) hS rfl hl.1 (rest := [.int v3, .ref (a 18)]) rfl (Nat.le_of_ble_eq_true rfl) dX3_leastCoins_37 (fun H locs hP hS => ?_)
    obtain ⟨hi_40, hf⟩ := rf_gu hf
    refine sX_pairing_best hC hD hP hS hi_40 (f := pairing_best) rfl dX3_leastCoins_40 (rf_upL A [(5, upd pairing_best (Int32.toNatClampNeg v3) z37)]) (rf_put rfl) (fun H locs hP hS => ?_)
    exact w_X3_leastCoins_41 hC hD e_purse_coins ih v2 v3 (upd pairing_best (Int32.toNatClampNeg v3) z37) hf _ _ _ hP hS (lv_sub hl [0, 1, 2, 3] rfl)
set_option maxHeartbeats 4000000 in
set_option maxRecDepth 100000 in
theorem c_X3_leastCoins (l : Launch) (E : rf_E) (a P : Nat → Nat) (I : Nat → Int32) (J : Nat → Int64) (A : Nat → Nat → Int32) (B : Nat → Nat → Int64) (purse_coins : Nat → Int32) (pairing_best : Nat → Int32) (v2 : Int32) {z : Int32 × (Nat → Int32)} (e_purse_coins : A 6 = purse_coins) (e_pairing_best : A 5 = pairing_best) (hf : f_X3_leastCoins purse_coins pairing_best v2 = some z) : rf_MI l yX3_leastCoins cX3_leastCoins 4 (some .int) ({ frames := 3, cells := 0, slots := 0, locals := 68 }) E [.ref (a 3), .ref (a 19), .int v2] (cX E a P I J A B) z.1 (cX E a P I J (rf_upL A [(5, z.2)]) B) := by
  unfold f_X3_leastCoins at hf
  refine rf_ofI (by decide) (Nat.le_of_ble_eq_true rfl) ?_
  intro p e s m below meth c A0 ls hC hD hP hS hl
  have hC : rf_C p E s m _ meth c cX3_leastCoins 4 RX3 (some .int) A0 := hC
  have hx := hC.1
  have hb := hC.2.1
  have hl : lv_has ls 4 [(0, .ref (a 3)), (1, .ref (a 19)), (2, .int v2)] := hl
  have hP : va_P (rf_D E) vwCl (cX E a P I J (rf_upL A [(5, pairing_best)]) B) s.heap := by
    rw [rf_self (f := A) [(5, pairing_best)] (rf_fa1 e_pairing_best rf_fa0)]
    exact hP
  refine lv_aload_n hx hb dX3_leastCoins_0 rfl (lv_at hl 0 rfl) ?_
  refine gX_pairing_best hC hP tw_214 dX3_leastCoins_1 ?_
  refine lv_iconst (v := 0) hx hb dX3_leastCoins_4 (by decide) ?_
  refine lv_iconst (v := 0) hx hb dX3_leastCoins_5 (by decide) ?_
  refine sX_pairing_best hC hD hP hS (by decide) (f := pairing_best) rfl dX3_leastCoins_6 (rf_upL A [(5, upd pairing_best (Int32.toNatClampNeg 0) 0)]) (rf_put rfl) (fun H locs hP hS => ?_)
  refine lv_iconst (v := 1) hx hb dX3_leastCoins_7 (by decide) ?_
  refine lv_istore_n (lv' := [(3, .int 1), (0, .ref (a 3)), (1, .ref (a 19)), (2, .int v2)]) hx hb dX3_leastCoins_8 rfl hl (by decide) rfl (fun ls hl => ?_)
  exact w_X3_leastCoins_9 hC hD e_purse_coins rf_fu v2 1 (upd pairing_best (Int32.toNatClampNeg 0) 0) hf _ _ _ hP hS (lv_sub hl [1, 2, 3, 0] rfl)
set_option maxHeartbeats 4000000 in
set_option maxRecDepth 100000 in
theorem w_X4_coinsFor_147 {l : Launch} {p : Program} {e : Env} {s : State} {m : MethodId} {args : Array Value} {below : List Frame} {meth : Method} {c : Code} {A0 : Nat → Prop} {E : rf_E} {a P : Nat → Nat} {I : Nat → Int32} {J : Nat → Int64} {A : Nat → Nat → Int32} {B : Nat → Nat → Int64} {purse_ear : Int32} {tc_wordCount : Int32} {now_words : Nat → Int32} {tc_prices : Nat → Int32} {tc_kinds : Nat → Int32} {tc_close : Nat → Int32} {z : Int32} (hC : rf_C p E s m args meth c cX4_coinsFor 10 RX4 (some .int) A0) (hD : va_D A0 (cX E a P I J A B)) (hp2 : P 2 = a 10) (e_purse_ear : I 9 = purse_ear) (e_tc_wordCount : I 23 = tc_wordCount) (e_now_words : A 1 = now_words) (e_tc_prices : A 13 = tc_prices) (e_tc_kinds : A 14 = tc_kinds) (e_tc_close : A 22 = tc_close) {k14 : Int32 → Int32 → Int32 → Int32 → Option (Int32)} (hk14 : ∀ (v1 : Int32) (v2 : Int32) (v4 : Int32) (v5 : Int32), k14 v1 v2 v4 v5 = some z → ∀ (H : Heap) (locs : List Loc) (ls : Array Slot), va_P (rf_D E) vwCl (cX E a P I J A B) H → va_S A0 s.heap H locs → lv_has ls 10 [(0, .ref (a 4)), (1, .int v1), (2, .int v2), (3, .ref (a 10)), (4, .int v4), (5, .int v5)] → W p l e ({ frames := 2, cells := 0, slots := 0, locals := 43 }) s m args below meth c H locs 0 0 (rf_QI below args s E A0 z (cX E a P I J A B)) (F0 m 14 ls [])) {k79 : Int32 → Int32 → Int32 → Int32 → Int32 → Int32 → Int32 → Option (Int32)} (hk79 : ∀ (v1 : Int32) (v2 : Int32) (v4 : Int32) (v5 : Int32) (v6 : Int32) (v7 : Int32) (v8 : Int32), k79 v1 v2 v4 v5 v6 v7 v8 = some z → ∀ (H : Heap) (locs : List Loc) (ls : Array Slot), va_P (rf_D E) vwCl (cX E a P I J A B) H → va_S A0 s.heap H locs → lv_has ls 10 [(0, .ref (a 4)), (1, .int v1), (2, .int v2), (3, .ref (a 10)), (4, .int v4), (5, .int v5), (6, .int v6), (7, .int v7), (8, .int v8)] → W p l e ({ frames := 2, cells := 0, slots := 0, locals := 43 }) s m args below meth c H locs 0 0 (rf_QI below args s E A0 z (cX E a P I J A B)) (F0 m 79 ls [])) :
    ∀ (v1 : Int32) (v2 : Int32) (v4 : Int32) (v5 : Int32) (v6 : Int32) (v7 : Int32) (v8 : Int32), f_X4_coinsFor_147 k14 k79 purse_ear tc_wordCount now_words tc_prices tc_kinds tc_close v1 v2 v4 v5 v6 v7 v8 = some z → ∀ (H : Heap) (locs : List Loc) (ls : Array Slot), va_P (rf_D E) vwCl (cX E a P I J A B) H → va_S A0 s.heap H locs → lv_has ls 10 [(0, .ref (a 4)), (1, .int v1), (2, .int v2), (3, .ref (a 10)), (4, .int v4), (5, .int v5), (6, .int v6), (7, .int v7), (8, .int v8)] → W p l e ({ frames := 2, cells := 0, slots := 0, locals := 43 }) s m args below meth c H locs 0 0 (rf_QI below args s E A0 z (cX E a P I J A B)) (F0 m 147 ls []) := by
  have hx := hC.1
  have hb := hC.2.1
  intro v1 v2 v4 v5 v6 v7 v8 hf H locs ls hP hS hl
  unfold f_X4_coinsFor_147 at hf
  refine lv_iinc (v := v8 + 1) (lv' := [(8, .int (v8 + 1)), (0, .ref (a 4)), (1, .int v1), (2, .int v2), (3, .ref (a 10)), (4, .int v4), (5, .int v5), (6, .int v6), (7, .int v7)]) hx hb dX4_coinsFor_147 hl (k := 8) rfl rfl (by decide) rfl (fun ls hl => ?_)
  refine lv_goto (tgt := 79) hx hb dX4_coinsFor_150 (by decide) ?_
  exact hk79 v1 v2 v4 v5 v6 v7 (v8 + 1) hf _ _ _ hP hS (lv_sub hl [1, 2, 3, 4, 5, 6, 7, 8, 0] rfl)
set_option maxHeartbeats 4000000 in
set_option maxRecDepth 100000 in
theorem w_X4_coinsFor_143 {l : Launch} {p : Program} {e : Env} {s : State} {m : MethodId} {args : Array Value} {below : List Frame} {meth : Method} {c : Code} {A0 : Nat → Prop} {E : rf_E} {a P : Nat → Nat} {I : Nat → Int32} {J : Nat → Int64} {A : Nat → Nat → Int32} {B : Nat → Nat → Int64} {purse_ear : Int32} {tc_wordCount : Int32} {now_words : Nat → Int32} {tc_prices : Nat → Int32} {tc_kinds : Nat → Int32} {tc_close : Nat → Int32} {z : Int32} (hC : rf_C p E s m args meth c cX4_coinsFor 10 RX4 (some .int) A0) (hD : va_D A0 (cX E a P I J A B)) (hp2 : P 2 = a 10) (e_purse_ear : I 9 = purse_ear) (e_tc_wordCount : I 23 = tc_wordCount) (e_now_words : A 1 = now_words) (e_tc_prices : A 13 = tc_prices) (e_tc_kinds : A 14 = tc_kinds) (e_tc_close : A 22 = tc_close) {k14 : Int32 → Int32 → Int32 → Int32 → Option (Int32)} (hk14 : ∀ (v1 : Int32) (v2 : Int32) (v4 : Int32) (v5 : Int32), k14 v1 v2 v4 v5 = some z → ∀ (H : Heap) (locs : List Loc) (ls : Array Slot), va_P (rf_D E) vwCl (cX E a P I J A B) H → va_S A0 s.heap H locs → lv_has ls 10 [(0, .ref (a 4)), (1, .int v1), (2, .int v2), (3, .ref (a 10)), (4, .int v4), (5, .int v5)] → W p l e ({ frames := 2, cells := 0, slots := 0, locals := 43 }) s m args below meth c H locs 0 0 (rf_QI below args s E A0 z (cX E a P I J A B)) (F0 m 14 ls [])) {k79 : Int32 → Int32 → Int32 → Int32 → Int32 → Int32 → Int32 → Option (Int32)} (hk79 : ∀ (v1 : Int32) (v2 : Int32) (v4 : Int32) (v5 : Int32) (v6 : Int32) (v7 : Int32) (v8 : Int32), k79 v1 v2 v4 v5 v6 v7 v8 = some z → ∀ (H : Heap) (locs : List Loc) (ls : Array Slot), va_P (rf_D E) vwCl (cX E a P I J A B) H → va_S A0 s.heap H locs → lv_has ls 10 [(0, .ref (a 4)), (1, .int v1), (2, .int v2), (3, .ref (a 10)), (4, .int v4), (5, .int v5), (6, .int v6), (7, .int v7), (8, .int v8)] → W p l e ({ frames := 2, cells := 0, slots := 0, locals := 43 }) s m args below meth c H locs 0 0 (rf_QI below args s E A0 z (cX E a P I J A B)) (F0 m 79 ls [])) :
    ∀ (v1 : Int32) (v2 : Int32) (v5 : Int32) (v6 : Int32) (v7 : Int32) (v8 : Int32) (v9 : Int32), f_X4_coinsFor_143 k14 k79 purse_ear tc_wordCount now_words tc_prices tc_kinds tc_close v1 v2 v5 v6 v7 v8 v9 = some z → ∀ (H : Heap) (locs : List Loc) (ls : Array Slot), va_P (rf_D E) vwCl (cX E a P I J A B) H → va_S A0 s.heap H locs → lv_has ls 10 [(0, .ref (a 4)), (1, .int v1), (2, .int v2), (3, .ref (a 10)), (5, .int v5), (6, .int v6), (7, .int v7), (8, .int v8), (9, .int v9)] → W p l e ({ frames := 2, cells := 0, slots := 0, locals := 43 }) s m args below meth c H locs 0 0 (rf_QI below args s E A0 z (cX E a P I J A B)) (F0 m 143 ls []) := by
  have hx := hC.1
  have hb := hC.2.1
  intro v1 v2 v5 v6 v7 v8 v9 hf H locs ls hP hS hl
  unfold f_X4_coinsFor_143 at hf
  refine lv_iload hx hb dX4_coinsFor_143 (lv_at hl 8 rfl) ?_
  refine lv_istore (lv' := [(4, .int v9), (0, .ref (a 4)), (1, .int v1), (2, .int v2), (3, .ref (a 10)), (5, .int v5), (6, .int v6), (7, .int v7), (8, .int v8), (9, .int v9)]) hx hb dX4_coinsFor_145 hl (by decide) rfl (fun ls hl => ?_)
  exact w_X4_coinsFor_147 hC hD hp2 e_purse_ear e_tc_wordCount e_now_words e_tc_prices e_tc_kinds e_tc_close hk14 hk79 v1 v2 v9 v5 v6 v7 v8 hf _ _ _ hP hS (lv_sub hl [1, 2, 3, 4, 0, 5, 6, 7, 8] rfl)
set_option maxHeartbeats 4000000 in
set_option maxRecDepth 100000 in
theorem w_X4_coinsFor_117 {l : Launch} {p : Program} {e : Env} {s : State} {m : MethodId} {args : Array Value} {below : List Frame} {meth : Method} {c : Code} {A0 : Nat → Prop} {E : rf_E} {a P : Nat → Nat} {I : Nat → Int32} {J : Nat → Int64} {A : Nat → Nat → Int32} {B : Nat → Nat → Int64} {purse_ear : Int32} {tc_wordCount : Int32} {now_words : Nat → Int32} {tc_prices : Nat → Int32} {tc_kinds : Nat → Int32} {tc_close : Nat → Int32} {z : Int32} (hC : rf_C p E s m args meth c cX4_coinsFor 10 RX4 (some .int) A0) (hD : va_D A0 (cX E a P I J A B)) (hp2 : P 2 = a 10) (e_purse_ear : I 9 = purse_ear) (e_tc_wordCount : I 23 = tc_wordCount) (e_now_words : A 1 = now_words) (e_tc_prices : A 13 = tc_prices) (e_tc_kinds : A 14 = tc_kinds) (e_tc_close : A 22 = tc_close) {k14 : Int32 → Int32 → Int32 → Int32 → Option (Int32)} (hk14 : ∀ (v1 : Int32) (v2 : Int32) (v4 : Int32) (v5 : Int32), k14 v1 v2 v4 v5 = some z → ∀ (H : Heap) (locs : List Loc) (ls : Array Slot), va_P (rf_D E) vwCl (cX E a P I J A B) H → va_S A0 s.heap H locs → lv_has ls 10 [(0, .ref (a 4)), (1, .int v1), (2, .int v2), (3, .ref (a 10)), (4, .int v4), (5, .int v5)] → W p l e ({ frames := 2, cells := 0, slots := 0, locals := 43 }) s m args below meth c H locs 0 0 (rf_QI below args s E A0 z (cX E a P I J A B)) (F0 m 14 ls [])) {k79 : Int32 → Int32 → Int32 → Int32 → Int32 → Int32 → Int32 → Option (Int32)} (hk79 : ∀ (v1 : Int32) (v2 : Int32) (v4 : Int32) (v5 : Int32) (v6 : Int32) (v7 : Int32) (v8 : Int32), k79 v1 v2 v4 v5 v6 v7 v8 = some z → ∀ (H : Heap) (locs : List Loc) (ls : Array Slot), va_P (rf_D E) vwCl (cX E a P I J A B) H → va_S A0 s.heap H locs → lv_has ls 10 [(0, .ref (a 4)), (1, .int v1), (2, .int v2), (3, .ref (a 10)), (4, .int v4), (5, .int v5), (6, .int v6), (7, .int v7), (8, .int v8)] → W p l e ({ frames := 2, cells := 0, slots := 0, locals := 43 }) s m args below meth c H locs 0 0 (rf_QI below args s E A0 z (cX E a P I J A B)) (F0 m 79 ls [])) :
    ∀ (v1 : Int32) (v2 : Int32) (v4 : Int32) (v5 : Int32) (v6 : Int32) (v7 : Int32) (v8 : Int32) (s0 : Int32) (s1 : Int32), f_X4_coinsFor_117 k14 k79 purse_ear tc_wordCount now_words tc_prices tc_kinds tc_close v1 v2 v4 v5 v6 v7 v8 s0 s1 = some z → ∀ (H : Heap) (locs : List Loc) (ls : Array Slot), va_P (rf_D E) vwCl (cX E a P I J A B) H → va_S A0 s.heap H locs → lv_has ls 10 [(0, .ref (a 4)), (1, .int v1), (2, .int v2), (3, .ref (a 10)), (4, .int v4), (5, .int v5), (6, .int v6), (7, .int v7), (8, .int v8)] → W p l e ({ frames := 2, cells := 0, slots := 0, locals := 43 }) s m args below meth c H locs 0 0 (rf_QI below args s E A0 z (cX E a P I J A B)) (F0 m 117 ls [.int s1, .int s0]) := by
  have hx := hC.1
  have hb := hC.2.1
  intro v1 v2 v4 v5 v6 v7 v8 s0 s1 hf H locs ls hP hS hl
  unfold f_X4_coinsFor_117 at hf
  refine lv_iadd hx hb dX4_coinsFor_117 ?_
  refine lv_istore (lv' := [(9, .int (s0 + s1)), (0, .ref (a 4)), (1, .int v1), (2, .int v2), (3, .ref (a 10)), (4, .int v4), (5, .int v5), (6, .int v6), (7, .int v7), (8, .int v8)]) hx hb dX4_coinsFor_118 hl (by decide) rfl (fun ls hl => ?_)
  refine lv_iload hx hb dX4_coinsFor_120 (lv_at hl 7 rfl) ?_
  refine lv_iload hx hb dX4_coinsFor_122 (lv_at hl 9 rfl) ?_
  obtain ⟨z124, hz124, hf⟩ := rf_bd hf
  refine rf_sn0 hC (c_X10_holds l E v6 v8 hz124) kS_X10_holds nw_970 ⟨Nat.le_of_ble_eq_true rfl, Nat.le_of_ble_eq_true rfl⟩ rfl rfl hP hS rfl hl.1 (rest := []) rfl (Nat.le_of_ble_eq_true rfl) dX4_coinsFor_124 (fun H locs hP hS => ?_)
  refine lv_if_eq (tgt := 147) hx hb dX4_coinsFor_127 (by decide) (fun c_127 => ?_) (fun c_127 => ?_)
  · have hf := rf_it c_127 hf
    exact w_X4_coinsFor_147 hC hD hp2 e_purse_ear e_tc_wordCount e_now_words e_tc_prices e_tc_kinds e_tc_close hk14 hk79 v1 v2 v4 v5 v6 v7 v8 hf _ _ _ hP hS (lv_sub hl [1, 2, 3, 4, 5, 6, 7, 8, 9] rfl)
  have hf := rf_ie c_127 hf
  refine lv_iload hx hb dX4_coinsFor_130 (lv_at hl 5 rfl) ?_
  refine lv_iconst (v := (-1)) hx hb dX4_coinsFor_132 (by decide) ?_
  refine lv_icmp_eq (tgt := 143) hx hb dX4_coinsFor_133 (by decide) (fun c_133 => ?_) (fun c_133 => ?_)
  · have hf := rf_it c_133 hf
    exact w_X4_coinsFor_143 hC hD hp2 e_purse_ear e_tc_wordCount e_now_words e_tc_prices e_tc_kinds e_tc_close hk14 hk79 v1 v2 v5 v6 v7 v8 (s0 + s1) hf _ _ _ hP hS (lv_sub hl [1, 2, 3, 4, 6, 7, 8, 9, 0] rfl)
  have hf := rf_ie c_133 hf
  refine lv_iload hx hb dX4_coinsFor_136 (lv_at hl 0 rfl) ?_
  refine lv_iload hx hb dX4_coinsFor_138 (lv_at hl 5 rfl) ?_
  refine lv_icmp_ge (tgt := 147) hx hb dX4_coinsFor_140 (by decide) (fun c_140 => ?_) (fun c_140 => ?_)
  · have hf := rf_it c_140 hf
    exact w_X4_coinsFor_147 hC hD hp2 e_purse_ear e_tc_wordCount e_now_words e_tc_prices e_tc_kinds e_tc_close hk14 hk79 v1 v2 v4 v5 v6 v7 v8 hf _ _ _ hP hS (lv_sub hl [1, 2, 3, 4, 5, 6, 7, 8, 9] rfl)
  have hf := rf_ie c_140 hf
  exact w_X4_coinsFor_143 hC hD hp2 e_purse_ear e_tc_wordCount e_now_words e_tc_prices e_tc_kinds e_tc_close hk14 hk79 v1 v2 v5 v6 v7 v8 (s0 + s1) hf _ _ _ hP hS (lv_sub hl [1, 2, 3, 4, 6, 7, 8, 9, 0] rfl)
set_option maxHeartbeats 4000000 in
set_option maxRecDepth 100000 in
theorem w_X4_coinsFor_79 {l : Launch} {p : Program} {e : Env} {s : State} {m : MethodId} {args : Array Value} {below : List Frame} {meth : Method} {c : Code} {A0 : Nat → Prop} {E : rf_E} {a P : Nat → Nat} {I : Nat → Int32} {J : Nat → Int64} {A : Nat → Nat → Int32} {B : Nat → Nat → Int64} {purse_ear : Int32} {tc_wordCount : Int32} {now_words : Nat → Int32} {tc_prices : Nat → Int32} {tc_kinds : Nat → Int32} {tc_close : Nat → Int32} {z : Int32} (hC : rf_C p E s m args meth c cX4_coinsFor 10 RX4 (some .int) A0) (hD : va_D A0 (cX E a P I J A B)) (hp2 : P 2 = a 10) (e_purse_ear : I 9 = purse_ear) (e_tc_wordCount : I 23 = tc_wordCount) (e_now_words : A 1 = now_words) (e_tc_prices : A 13 = tc_prices) (e_tc_kinds : A 14 = tc_kinds) (e_tc_close : A 22 = tc_close) {k14 : Int32 → Int32 → Int32 → Int32 → Option (Int32)} (hk14 : ∀ (v1 : Int32) (v2 : Int32) (v4 : Int32) (v5 : Int32), k14 v1 v2 v4 v5 = some z → ∀ (H : Heap) (locs : List Loc) (ls : Array Slot), va_P (rf_D E) vwCl (cX E a P I J A B) H → va_S A0 s.heap H locs → lv_has ls 10 [(0, .ref (a 4)), (1, .int v1), (2, .int v2), (3, .ref (a 10)), (4, .int v4), (5, .int v5)] → W p l e ({ frames := 2, cells := 0, slots := 0, locals := 43 }) s m args below meth c H locs 0 0 (rf_QI below args s E A0 z (cX E a P I J A B)) (F0 m 14 ls [])) :
    ∀ (n : Nat), ∀ (v1 : Int32) (v2 : Int32) (v4 : Int32) (v5 : Int32) (v6 : Int32) (v7 : Int32) (v8 : Int32), f_X4_coinsFor_79 k14 purse_ear tc_wordCount now_words tc_prices tc_kinds tc_close n v1 v2 v4 v5 v6 v7 v8 = some z → ∀ (H : Heap) (locs : List Loc) (ls : Array Slot), va_P (rf_D E) vwCl (cX E a P I J A B) H → va_S A0 s.heap H locs → lv_has ls 10 [(0, .ref (a 4)), (1, .int v1), (2, .int v2), (3, .ref (a 10)), (4, .int v4), (5, .int v5), (6, .int v6), (7, .int v7), (8, .int v8)] → W p l e ({ frames := 2, cells := 0, slots := 0, locals := 43 }) s m args below meth c H locs 0 0 (rf_QI below args s E A0 z (cX E a P I J A B)) (F0 m 79 ls []) := by
  have hx := hC.1
  have hb := hC.2.1
  intro n
  induction n with
  | zero =>
    intro v1 v2 v4 v5 v6 v7 v8 hf
    have hf : (none : Option (Int32)) = some z := hf
    cases hf
  | succ n ih =>
    intro v1 v2 v4 v5 v6 v7 v8 hf H locs ls hP hS hl
    rw [f_X4_coinsFor_79] at hf
    refine lv_iload hx hb dX4_coinsFor_79 (lv_at hl 8 rfl) ?_
    refine lv_aload_n hx hb dX4_coinsFor_81 rfl (lv_at hl 3 rfl) ?_
    refine gX_tc_wordCount hC hP tw_122 (v := tc_wordCount) e_tc_wordCount dX4_coinsFor_82 ?_
    refine lv_icmp_ge (tgt := 153) hx hb dX4_coinsFor_85 (by decide) (fun c_85 => ?_) (fun c_85 => ?_)
    · have hf := rf_it c_85 hf
      refine lv_iinc (v := v5 + 1) (lv' := [(5, .int (v5 + 1)), (0, .ref (a 4)), (1, .int v1), (2, .int v2), (3, .ref (a 10)), (4, .int v4), (6, .int v6), (7, .int v7), (8, .int v8)]) hx hb dX4_coinsFor_153 hl (k := 5) rfl rfl (by decide) rfl (fun ls hl => ?_)
      refine lv_goto (tgt := 14) hx hb dX4_coinsFor_156 (by decide) ?_
      exact hk14 v1 v2 v4 (v5 + 1) hf _ _ _ hP hS (lv_sub hl [1, 2, 3, 4, 5, 0] rfl)
    have hf := rf_ie c_85 hf
    refine lv_iload hx hb dX4_coinsFor_88 (lv_at hl 7 rfl) ?_
    refine lv_aload_n hx hb dX4_coinsFor_90 rfl (lv_at hl 0 rfl) ?_
    refine gX_purse_rhymes hC hP tw_226 dX4_coinsFor_91 ?_
    refine gX_rhymes_now hC hP tw_188 dX4_coinsFor_94 ?_
    refine lv_iload_n hx hb dX4_coinsFor_97 rfl (lv_at hl 2 rfl) ?_
    refine lv_iload hx hb dX4_coinsFor_98 (lv_at hl 8 rfl) ?_
    obtain ⟨z100, hz100, hf⟩ := rf_bd hf
    refine rf_vi (q0 := 1) (ci := 2) hC (c_X2_has l E a P I J A B now_words v2 v8 e_now_words hz100) kV_X2_has tw_976 ⟨Nat.le_of_ble_eq_true rfl, Nat.le_of_ble_eq_true rfl⟩ rfl rfl rfl rfl rfl hP (rf_DX hD) hS rfl hl.1 (rest := [.int v7]) rfl (Nat.le_of_ble_eq_true rfl) dX4_coinsFor_100 (fun H locs hP hS => ?_)
    refine lv_if_eq (tgt := 110) hx hb dX4_coinsFor_103 (by decide) (fun c_103 => ?_) (fun c_103 => ?_)
    · have hf := rf_it c_103 hf
      refine lv_aload_n hx hb dX4_coinsFor_110 rfl (lv_at hl 3 rfl) ?_
      refine gX_tc_prices hC hP tw_88 dX4_coinsFor_111 ?_
      refine lv_iload hx hb dX4_coinsFor_114 (lv_at hl 8 rfl) ?_
      obtain ⟨hi_116, hf⟩ := rf_gu hf
      refine lX_tc_prices hC hP hi_116 (f := tc_prices) e_tc_prices dX4_coinsFor_116 ?_
      exact w_X4_coinsFor_117 hC hD hp2 e_purse_ear e_tc_wordCount e_now_words e_tc_prices e_tc_kinds e_tc_close hk14 ih v1 v2 v4 v5 v6 v7 v8 v7 (tc_prices (Int32.toNatClampNeg v8)) hf _ _ _ hP hS (lv_sub hl [0, 1, 2, 3, 4, 5, 6, 7, 8] rfl)
    have hf := rf_ie c_103 hf
    refine lv_iconst (v := 0) hx hb dX4_coinsFor_106 (by decide) ?_
    refine lv_goto (tgt := 117) hx hb dX4_coinsFor_107 (by decide) ?_
    exact w_X4_coinsFor_117 hC hD hp2 e_purse_ear e_tc_wordCount e_now_words e_tc_prices e_tc_kinds e_tc_close hk14 ih v1 v2 v4 v5 v6 v7 v8 v7 0 hf _ _ _ hP hS (lv_sub hl [0, 1, 2, 3, 4, 5, 6, 7, 8] rfl)
set_option maxHeartbeats 4000000 in
set_option maxRecDepth 100000 in
theorem w_X4_coinsFor_74 {l : Launch} {p : Program} {e : Env} {s : State} {m : MethodId} {args : Array Value} {below : List Frame} {meth : Method} {c : Code} {A0 : Nat → Prop} {E : rf_E} {a P : Nat → Nat} {I : Nat → Int32} {J : Nat → Int64} {A : Nat → Nat → Int32} {B : Nat → Nat → Int64} {purse_ear : Int32} {tc_wordCount : Int32} {now_words : Nat → Int32} {tc_prices : Nat → Int32} {tc_kinds : Nat → Int32} {tc_close : Nat → Int32} {z : Int32} (hC : rf_C p E s m args meth c cX4_coinsFor 10 RX4 (some .int) A0) (hD : va_D A0 (cX E a P I J A B)) (hp2 : P 2 = a 10) (e_purse_ear : I 9 = purse_ear) (e_tc_wordCount : I 23 = tc_wordCount) (e_now_words : A 1 = now_words) (e_tc_prices : A 13 = tc_prices) (e_tc_kinds : A 14 = tc_kinds) (e_tc_close : A 22 = tc_close) {k14 : Int32 → Int32 → Int32 → Int32 → Option (Int32)} (hk14 : ∀ (v1 : Int32) (v2 : Int32) (v4 : Int32) (v5 : Int32), k14 v1 v2 v4 v5 = some z → ∀ (H : Heap) (locs : List Loc) (ls : Array Slot), va_P (rf_D E) vwCl (cX E a P I J A B) H → va_S A0 s.heap H locs → lv_has ls 10 [(0, .ref (a 4)), (1, .int v1), (2, .int v2), (3, .ref (a 10)), (4, .int v4), (5, .int v5)] → W p l e ({ frames := 2, cells := 0, slots := 0, locals := 43 }) s m args below meth c H locs 0 0 (rf_QI below args s E A0 z (cX E a P I J A B)) (F0 m 14 ls [])) :
    ∀ (v1 : Int32) (v2 : Int32) (v4 : Int32) (v5 : Int32) (v6 : Int32) (s0 : Int32), f_X4_coinsFor_74 k14 purse_ear tc_wordCount now_words tc_prices tc_kinds tc_close v1 v2 v4 v5 v6 s0 = some z → ∀ (H : Heap) (locs : List Loc) (ls : Array Slot), va_P (rf_D E) vwCl (cX E a P I J A B) H → va_S A0 s.heap H locs → lv_has ls 10 [(0, .ref (a 4)), (1, .int v1), (2, .int v2), (3, .ref (a 10)), (4, .int v4), (5, .int v5), (6, .int v6)] → W p l e ({ frames := 2, cells := 0, slots := 0, locals := 43 }) s m args below meth c H locs 0 0 (rf_QI below args s E A0 z (cX E a P I J A B)) (F0 m 74 ls [.int s0]) := by
  have hx := hC.1
  have hb := hC.2.1
  intro v1 v2 v4 v5 v6 s0 hf H locs ls hP hS hl
  unfold f_X4_coinsFor_74 at hf
  refine lv_istore (lv' := [(7, .int s0), (0, .ref (a 4)), (1, .int v1), (2, .int v2), (3, .ref (a 10)), (4, .int v4), (5, .int v5), (6, .int v6)]) hx hb dX4_coinsFor_74 hl (by decide) rfl (fun ls hl => ?_)
  refine lv_iconst (v := 0) hx hb dX4_coinsFor_76 (by decide) ?_
  refine lv_istore (lv' := [(8, .int 0), (7, .int s0), (0, .ref (a 4)), (1, .int v1), (2, .int v2), (3, .ref (a 10)), (4, .int v4), (5, .int v5), (6, .int v6)]) hx hb dX4_coinsFor_77 hl (by decide) rfl (fun ls hl => ?_)
  exact w_X4_coinsFor_79 hC hD hp2 e_purse_ear e_tc_wordCount e_now_words e_tc_prices e_tc_kinds e_tc_close hk14 rf_fu v1 v2 v4 v5 v6 s0 0 hf _ _ _ hP hS (lv_sub hl [2, 3, 4, 5, 6, 7, 8, 1, 0] rfl)
set_option maxHeartbeats 4000000 in
set_option maxRecDepth 100000 in
theorem w_X4_coinsFor_14 {l : Launch} {p : Program} {e : Env} {s : State} {m : MethodId} {args : Array Value} {below : List Frame} {meth : Method} {c : Code} {A0 : Nat → Prop} {E : rf_E} {a P : Nat → Nat} {I : Nat → Int32} {J : Nat → Int64} {A : Nat → Nat → Int32} {B : Nat → Nat → Int64} {purse_ear : Int32} {tc_wordCount : Int32} {now_words : Nat → Int32} {tc_prices : Nat → Int32} {tc_kinds : Nat → Int32} {tc_close : Nat → Int32} {z : Int32} (hC : rf_C p E s m args meth c cX4_coinsFor 10 RX4 (some .int) A0) (hD : va_D A0 (cX E a P I J A B)) (hp2 : P 2 = a 10) (e_purse_ear : I 9 = purse_ear) (e_tc_wordCount : I 23 = tc_wordCount) (e_now_words : A 1 = now_words) (e_tc_prices : A 13 = tc_prices) (e_tc_kinds : A 14 = tc_kinds) (e_tc_close : A 22 = tc_close) :
    ∀ (n : Nat), ∀ (v1 : Int32) (v2 : Int32) (v4 : Int32) (v5 : Int32), f_X4_coinsFor_14 purse_ear tc_wordCount now_words tc_prices tc_kinds tc_close n v1 v2 v4 v5 = some z → ∀ (H : Heap) (locs : List Loc) (ls : Array Slot), va_P (rf_D E) vwCl (cX E a P I J A B) H → va_S A0 s.heap H locs → lv_has ls 10 [(0, .ref (a 4)), (1, .int v1), (2, .int v2), (3, .ref (a 10)), (4, .int v4), (5, .int v5)] → W p l e ({ frames := 2, cells := 0, slots := 0, locals := 43 }) s m args below meth c H locs 0 0 (rf_QI below args s E A0 z (cX E a P I J A B)) (F0 m 14 ls []) := by
  have hx := hC.1
  have hb := hC.2.1
  intro n
  induction n with
  | zero =>
    intro v1 v2 v4 v5 hf
    have hf : (none : Option (Int32)) = some z := hf
    cases hf
  | succ n ih =>
    intro v1 v2 v4 v5 hf H locs ls hP hS hl
    rw [f_X4_coinsFor_14] at hf
    refine lv_iload hx hb dX4_coinsFor_14 (lv_at hl 5 rfl) ?_
    refine lv_aload_n hx hb dX4_coinsFor_16 rfl (lv_at hl 3 rfl) ?_
    refine gX_tc_wordCount hC hP tw_122 (v := tc_wordCount) e_tc_wordCount dX4_coinsFor_17 ?_
    refine lv_icmp_ge (tgt := 159) hx hb dX4_coinsFor_20 (by decide) (fun c_20 => ?_) (fun c_20 => ?_)
    · have hf := rf_it c_20 hf
      refine lv_iload hx hb dX4_coinsFor_159 (lv_at hl 4 rfl) ?_
      obtain rfl := Option.some.inj hf
      exact rf_reti hC hP hS rfl rfl dX4_coinsFor_161
    have hf := rf_ie c_20 hf
    refine lv_aload_n hx hb dX4_coinsFor_23 rfl (lv_at hl 3 rfl) ?_
    refine lv_iload hx hb dX4_coinsFor_24 (lv_at hl 5 rfl) ?_
    refine lv_aload_n hx hb dX4_coinsFor_26 rfl (lv_at hl 3 rfl) ?_
    refine gX_tc_kinds hC hP tw_94 dX4_coinsFor_27 ?_
    refine lv_iload_n hx hb dX4_coinsFor_30 rfl (lv_at hl 1 rfl) ?_
    obtain ⟨hi_31, hf⟩ := rf_gu hf
    refine lX_tc_kinds hC hP hi_31 (f := tc_kinds) e_tc_kinds dX4_coinsFor_31 ?_
    refine lv_aload_n hx hb dX4_coinsFor_32 rfl (lv_at hl 3 rfl) ?_
    refine gX_tc_kinds hC hP tw_94 dX4_coinsFor_33 ?_
    refine lv_iload_n hx hb dX4_coinsFor_36 rfl (lv_at hl 2 rfl) ?_
    obtain ⟨hi_37, hf⟩ := rf_gu hf
    refine lX_tc_kinds hC hP hi_37 (f := tc_kinds) e_tc_kinds dX4_coinsFor_37 ?_
    refine lv_aload_n hx hb dX4_coinsFor_38 rfl (lv_at hl 0 rfl) ?_
    refine gX_purse_ear hC hP tw_232 (v := purse_ear) e_purse_ear dX4_coinsFor_39 ?_
    obtain ⟨z42, hz42, hf⟩ := rf_bd hf
    refine rf_vi (q0 := 10) (ci := 9) hC (c_X9_rhymingWords_tc l E a P I J A B tc_wordCount tc_close v5 (tc_kinds (Int32.toNatClampNeg v1)) (tc_kinds (Int32.toNatClampNeg v2)) purse_ear e_tc_wordCount e_tc_close hz42) kV_X9_rhymingWords tw_975 ⟨Nat.le_of_ble_eq_true rfl, Nat.le_of_ble_eq_true rfl⟩ rfl rfl rfl rfl rfl hP (rf_DX hD) hS rfl hl.1 (rest := []) rfl (Nat.le_of_ble_eq_true rfl) dX4_coinsFor_42 (fun H locs hP hS => ?_)
    refine lv_istore (lv' := [(6, .int z42), (0, .ref (a 4)), (1, .int v1), (2, .int v2), (3, .ref (a 10)), (4, .int v4), (5, .int v5)]) hx hb dX4_coinsFor_45 hl (by decide) rfl (fun ls hl => ?_)
    refine lv_aload_n hx hb dX4_coinsFor_47 rfl (lv_at hl 1 rfl) ?_
    refine gX_purse_rhymes hC hP tw_226 dX4_coinsFor_48 ?_
    refine gX_rhymes_now hC hP tw_188 dX4_coinsFor_51 ?_
    refine lv_iload_n hx hb dX4_coinsFor_54 rfl (lv_at hl 2 rfl) ?_
    refine lv_iload hx hb dX4_coinsFor_55 (lv_at hl 6 rfl) ?_
    obtain ⟨z57, hz57, hf⟩ := rf_bd hf
    refine rf_vi (q0 := 1) (ci := 2) hC (c_X2_has l E a P I J A B now_words v1 v5 e_now_words hz57) kV_X2_has tw_976 ⟨Nat.le_of_ble_eq_true rfl, Nat.le_of_ble_eq_true rfl⟩ rfl rfl rfl rfl rfl hP (rf_DX hD) hS rfl hl.1 (rest := []) rfl (Nat.le_of_ble_eq_true rfl) dX4_coinsFor_57 (fun H locs hP hS => ?_)
    refine lv_if_eq (tgt := 67) hx hb dX4_coinsFor_60 (by decide) (fun c_60 => ?_) (fun c_60 => ?_)
    · have hf := rf_it c_60 hf
      refine lv_aload_n hx hb dX4_coinsFor_67 rfl (lv_at hl 4 rfl) ?_
      refine gX_tc_prices hC hP tw_88 dX4_coinsFor_68 ?_
      refine lv_iload hx hb dX4_coinsFor_71 (lv_at hl 6 rfl) ?_
      obtain ⟨hi_73, hf⟩ := rf_gu hf
      refine lX_tc_prices hC hP hi_73 (f := tc_prices) e_tc_prices dX4_coinsFor_73 ?_
      exact w_X4_coinsFor_74 hC hD hp2 e_purse_ear e_tc_wordCount e_now_words e_tc_prices e_tc_kinds e_tc_close ih v1 v2 v4 v5 z42 (tc_prices (Int32.toNatClampNeg v5)) hf _ _ _ hP hS (lv_sub hl [1, 2, 3, 4, 5, 6, 0] rfl)
    have hf := rf_ie c_60 hf
    refine lv_iconst (v := 0) hx hb dX4_coinsFor_63 (by decide) ?_
    refine lv_goto (tgt := 74) hx hb dX4_coinsFor_64 (by decide) ?_
    exact w_X4_coinsFor_74 hC hD hp2 e_purse_ear e_tc_wordCount e_now_words e_tc_prices e_tc_kinds e_tc_close ih v1 v2 v4 v5 z42 0 hf _ _ _ hP hS (lv_sub hl [1, 2, 3, 4, 5, 6, 0] rfl)
set_option maxHeartbeats 4000000 in
set_option maxRecDepth 100000 in
theorem c_X4_coinsFor (l : Launch) (E : rf_E) (a P : Nat → Nat) (I : Nat → Int32) (J : Nat → Int64) (A : Nat → Nat → Int32) (B : Nat → Nat → Int64) (purse_ear : Int32) (tc_wordCount : Int32) (now_words : Nat → Int32) (tc_prices : Nat → Int32) (tc_kinds : Nat → Int32) (tc_close : Nat → Int32) (v1 : Int32) (v2 : Int32) {z : Int32} (hp2 : P 2 = a 10) (e_purse_ear : I 9 = purse_ear) (e_tc_wordCount : I 23 = tc_wordCount) (e_now_words : A 1 = now_words) (e_tc_prices : A 13 = tc_prices) (e_tc_kinds : A 14 = tc_kinds) (e_tc_close : A 22 = tc_close) (hf : f_X4_coinsFor purse_ear tc_wordCount now_words tc_prices tc_kinds tc_close v1 v2 = some z) : rf_MI l yX4_coinsFor cX4_coinsFor 10 (some .int) ({ frames := 2, cells := 0, slots := 0, locals := 43 }) E [.ref (a 4), .int v1, .int v2] (cX E a P I J A B) z (cX E a P I J A B) := by
  unfold f_X4_coinsFor at hf
  refine rf_ofI (by decide) (Nat.le_of_ble_eq_true rfl) ?_
  intro p e s m below meth c A0 ls hC hD hP hS hl
  have hC : rf_C p E s m _ meth c cX4_coinsFor 10 RX4 (some .int) A0 := hC
  have hx := hC.1
  have hb := hC.2.1
  have hl : lv_has ls 10 [(0, .ref (a 4)), (1, .int v1), (2, .int v2)] := hl
  refine lv_aload_n hx hb dX4_coinsFor_0 rfl (lv_at hl 0 rfl) ?_
  refine gX_purse_rhymes hC hP tw_226 dX4_coinsFor_1 ?_
  refine gX_rhymes_tale hC hP tw_195 (v := a 10) hp2 dX4_coinsFor_4 ?_
  refine lv_astore_n (lv' := [(3, .ref (a 10)), (0, .ref (a 4)), (1, .int v1), (2, .int v2)]) hx hb dX4_coinsFor_7 rfl hl (by decide) rfl (fun ls hl => ?_)
  refine lv_iconst (v := (-1)) hx hb dX4_coinsFor_8 (by decide) ?_
  refine lv_istore (lv' := [(4, .int (-1)), (3, .ref (a 10)), (0, .ref (a 4)), (1, .int v1), (2, .int v2)]) hx hb dX4_coinsFor_9 hl (by decide) rfl (fun ls hl => ?_)
  refine lv_iconst (v := 0) hx hb dX4_coinsFor_11 (by decide) ?_
  refine lv_istore (lv' := [(5, .int 0), (4, .int (-1)), (3, .ref (a 10)), (0, .ref (a 4)), (1, .int v1), (2, .int v2)]) hx hb dX4_coinsFor_12 hl (by decide) rfl (fun ls hl => ?_)
  exact w_X4_coinsFor_14 hC hD hp2 e_purse_ear e_tc_wordCount e_now_words e_tc_prices e_tc_kinds e_tc_close rf_fu v1 v2 (-1) 0 hf _ _ _ hP hS (lv_sub hl [3, 4, 5, 2, 1, 0] rfl)
set_option maxHeartbeats 4000000 in
set_option maxRecDepth 100000 in
theorem w_X4_leastCoins_79 {l : Launch} {p : Program} {e : Env} {s : State} {m : MethodId} {args : Array Value} {below : List Frame} {meth : Method} {c : Code} {A0 : Nat → Prop} {E : rf_E} {a P : Nat → Nat} {I : Nat → Int32} {J : Nat → Int64} {A : Nat → Nat → Int32} {B : Nat → Nat → Int64} {tc_wordCount : Int32} {tc_personCount : Int32} {now_words : Nat → Int32} {tc_prices : Nat → Int32} {tc_kinds : Nat → Int32} {tc_close : Nat → Int32} {z : Int32 × Int32 × (Nat → Int32) × (Nat → Int32)} (hC : rf_C p E s m args meth c cX4_leastCoins 6 RX4 (some .int) A0) (hD : va_D A0 (cX E a P I J A B)) (hp2 : P 2 = a 10) (e_tc_wordCount : I 23 = tc_wordCount) (e_tc_personCount : I 24 = tc_personCount) (e_now_words : A 1 = now_words) (e_tc_prices : A 13 = tc_prices) (e_tc_kinds : A 14 = tc_kinds) (e_tc_close : A 22 = tc_close) {k19 : Int32 → Int32 → Int32 → Int32 → (Nat → Int32) → (Nat → Int32) → Option (Int32 × Int32 × (Nat → Int32) × (Nat → Int32))} (hk19 : ∀ (v1 : Int32) (v3 : Int32) (v4 : Int32) (purse_ear : Int32) (pairing_best : Nat → Int32) (purse_coins : Nat → Int32), k19 v1 v3 v4 purse_ear pairing_best purse_coins = some z → ∀ (H : Heap) (locs : List Loc) (ls : Array Slot), va_P (rf_D E) vwCl (cX E a P (rf_upL I [(9, purse_ear)]) J (rf_upL A [(5, pairing_best), (6, purse_coins)]) B) H → va_S A0 s.heap H locs → lv_has ls 6 [(0, .ref (a 4)), (1, .int v1), (3, .int v3), (4, .int v4)] → W p l e ({ frames := 4, cells := 0, slots := 0, locals := 91 }) s m args below meth c H locs 0 0 (rf_QI below args s E A0 z.1 (cX E a P (rf_upL I [(9, z.2.1)]) J (rf_upL A [(5, z.2.2.1), (6, z.2.2.2)]) B)) (F0 m 19 ls [])) {k31 : Int32 → Int32 → Int32 → Int32 → Int32 → (Nat → Int32) → (Nat → Int32) → Option (Int32 × Int32 × (Nat → Int32) × (Nat → Int32))} (hk31 : ∀ (v1 : Int32) (v3 : Int32) (v4 : Int32) (v5 : Int32) (purse_ear : Int32) (pairing_best : Nat → Int32) (purse_coins : Nat → Int32), k31 v1 v3 v4 v5 purse_ear pairing_best purse_coins = some z → ∀ (H : Heap) (locs : List Loc) (ls : Array Slot), va_P (rf_D E) vwCl (cX E a P (rf_upL I [(9, purse_ear)]) J (rf_upL A [(5, pairing_best), (6, purse_coins)]) B) H → va_S A0 s.heap H locs → lv_has ls 6 [(0, .ref (a 4)), (1, .int v1), (3, .int v3), (4, .int v4), (5, .int v5)] → W p l e ({ frames := 4, cells := 0, slots := 0, locals := 91 }) s m args below meth c H locs 0 0 (rf_QI below args s E A0 z.1 (cX E a P (rf_upL I [(9, z.2.1)]) J (rf_upL A [(5, z.2.2.1), (6, z.2.2.2)]) B)) (F0 m 31 ls [])) :
    ∀ (v1 : Int32) (v3 : Int32) (v4 : Int32) (v5 : Int32) (s1 : Int32) (s2 : Int32) (purse_ear : Int32) (pairing_best : Nat → Int32) (purse_coins : Nat → Int32), f_X4_leastCoins_79 k19 k31 tc_wordCount tc_personCount now_words tc_prices tc_kinds tc_close v1 v3 v4 v5 s1 s2 purse_ear pairing_best purse_coins = some z → ∀ (H : Heap) (locs : List Loc) (ls : Array Slot), va_P (rf_D E) vwCl (cX E a P (rf_upL I [(9, purse_ear)]) J (rf_upL A [(5, pairing_best), (6, purse_coins)]) B) H → va_S A0 s.heap H locs → lv_has ls 6 [(0, .ref (a 4)), (1, .int v1), (3, .int v3), (4, .int v4), (5, .int v5)] → W p l e ({ frames := 4, cells := 0, slots := 0, locals := 91 }) s m args below meth c H locs 0 0 (rf_QI below args s E A0 z.1 (cX E a P (rf_upL I [(9, z.2.1)]) J (rf_upL A [(5, z.2.2.1), (6, z.2.2.2)]) B)) (F0 m 79 ls [.int s2, .int s1, .ref (a 19)]) := by
  have hx := hC.1
  have hb := hC.2.1
  intro v1 v3 v4 v5 s1 s2 purse_ear pairing_best purse_coins hf H locs ls hP hS hl
  unfold f_X4_leastCoins_79 at hf
  obtain ⟨hi_79, hf⟩ := rf_gu hf
  refine sX_purse_coins hC hD hP hS hi_79 (f := purse_coins) rfl dX4_leastCoins_79 (rf_upL A [(5, pairing_best), (6, upd purse_coins (Int32.toNatClampNeg s1) s2)]) (rf_put rfl) (fun H locs hP hS => ?_)
  refine lv_iinc (v := v5 + 1) (lv' := [(5, .int (v5 + 1)), (0, .ref (a 4)), (1, .int v1), (3, .int v3), (4, .int v4)]) hx hb dX4_leastCoins_80 hl (k := 4) rfl rfl (by decide) rfl (fun ls hl => ?_)
  refine lv_goto (tgt := 31) hx hb dX4_leastCoins_83 (by decide) ?_
  exact hk31 v1 v3 v4 (v5 + 1) purse_ear pairing_best (upd purse_coins (Int32.toNatClampNeg s1) s2) hf _ _ _ hP hS (lv_sub hl [1, 2, 3, 4, 0] rfl)
set_option maxHeartbeats 4000000 in
set_option maxRecDepth 100000 in
theorem w_X4_leastCoins_78 {l : Launch} {p : Program} {e : Env} {s : State} {m : MethodId} {args : Array Value} {below : List Frame} {meth : Method} {c : Code} {A0 : Nat → Prop} {E : rf_E} {a P : Nat → Nat} {I : Nat → Int32} {J : Nat → Int64} {A : Nat → Nat → Int32} {B : Nat → Nat → Int64} {tc_wordCount : Int32} {tc_personCount : Int32} {now_words : Nat → Int32} {tc_prices : Nat → Int32} {tc_kinds : Nat → Int32} {tc_close : Nat → Int32} {z : Int32 × Int32 × (Nat → Int32) × (Nat → Int32)} (hC : rf_C p E s m args meth c cX4_leastCoins 6 RX4 (some .int) A0) (hD : va_D A0 (cX E a P I J A B)) (hp2 : P 2 = a 10) (e_tc_wordCount : I 23 = tc_wordCount) (e_tc_personCount : I 24 = tc_personCount) (e_now_words : A 1 = now_words) (e_tc_prices : A 13 = tc_prices) (e_tc_kinds : A 14 = tc_kinds) (e_tc_close : A 22 = tc_close) {k19 : Int32 → Int32 → Int32 → Int32 → (Nat → Int32) → (Nat → Int32) → Option (Int32 × Int32 × (Nat → Int32) × (Nat → Int32))} (hk19 : ∀ (v1 : Int32) (v3 : Int32) (v4 : Int32) (purse_ear : Int32) (pairing_best : Nat → Int32) (purse_coins : Nat → Int32), k19 v1 v3 v4 purse_ear pairing_best purse_coins = some z → ∀ (H : Heap) (locs : List Loc) (ls : Array Slot), va_P (rf_D E) vwCl (cX E a P (rf_upL I [(9, purse_ear)]) J (rf_upL A [(5, pairing_best), (6, purse_coins)]) B) H → va_S A0 s.heap H locs → lv_has ls 6 [(0, .ref (a 4)), (1, .int v1), (3, .int v3), (4, .int v4)] → W p l e ({ frames := 4, cells := 0, slots := 0, locals := 91 }) s m args below meth c H locs 0 0 (rf_QI below args s E A0 z.1 (cX E a P (rf_upL I [(9, z.2.1)]) J (rf_upL A [(5, z.2.2.1), (6, z.2.2.2)]) B)) (F0 m 19 ls [])) {k31 : Int32 → Int32 → Int32 → Int32 → Int32 → (Nat → Int32) → (Nat → Int32) → Option (Int32 × Int32 × (Nat → Int32) × (Nat → Int32))} (hk31 : ∀ (v1 : Int32) (v3 : Int32) (v4 : Int32) (v5 : Int32) (purse_ear : Int32) (pairing_best : Nat → Int32) (purse_coins : Nat → Int32), k31 v1 v3 v4 v5 purse_ear pairing_best purse_coins = some z → ∀ (H : Heap) (locs : List Loc) (ls : Array Slot), va_P (rf_D E) vwCl (cX E a P (rf_upL I [(9, purse_ear)]) J (rf_upL A [(5, pairing_best), (6, purse_coins)]) B) H → va_S A0 s.heap H locs → lv_has ls 6 [(0, .ref (a 4)), (1, .int v1), (3, .int v3), (4, .int v4), (5, .int v5)] → W p l e ({ frames := 4, cells := 0, slots := 0, locals := 91 }) s m args below meth c H locs 0 0 (rf_QI below args s E A0 z.1 (cX E a P (rf_upL I [(9, z.2.1)]) J (rf_upL A [(5, z.2.2.1), (6, z.2.2.2)]) B)) (F0 m 31 ls [])) :
    ∀ (v1 : Int32) (v3 : Int32) (v4 : Int32) (v5 : Int32) (s1 : Int32) (purse_ear : Int32) (pairing_best : Nat → Int32) (purse_coins : Nat → Int32), f_X4_leastCoins_78 k19 k31 tc_wordCount tc_personCount now_words tc_prices tc_kinds tc_close v1 v3 v4 v5 s1 purse_ear pairing_best purse_coins = some z → ∀ (H : Heap) (locs : List Loc) (ls : Array Slot), va_P (rf_D E) vwCl (cX E a P (rf_upL I [(9, purse_ear)]) J (rf_upL A [(5, pairing_best), (6, purse_coins)]) B) H → va_S A0 s.heap H locs → lv_has ls 6 [(0, .ref (a 4)), (1, .int v1), (3, .int v3), (4, .int v4), (5, .int v5)] → W p l e ({ frames := 4, cells := 0, slots := 0, locals := 91 }) s m args below meth c H locs 0 0 (rf_QI below args s E A0 z.1 (cX E a P (rf_upL I [(9, z.2.1)]) J (rf_upL A [(5, z.2.2.1), (6, z.2.2.2)]) B)) (F0 m 78 ls [.int s1, .ref (a 19)]) := by
  have hx := hC.1
  have hb := hC.2.1
  intro v1 v3 v4 v5 s1 purse_ear pairing_best purse_coins hf H locs ls hP hS hl
  unfold f_X4_leastCoins_78 at hf
  refine lv_iconst (v := (-1)) hx hb dX4_leastCoins_78 (by decide) ?_
  exact w_X4_leastCoins_79 hC hD hp2 e_tc_wordCount e_tc_personCount e_now_words e_tc_prices e_tc_kinds e_tc_close hk19 hk31 v1 v3 v4 v5 s1 (-1) purse_ear pairing_best purse_coins hf _ _ _ hP hS (lv_sub hl [0, 1, 2, 3, 4] rfl)
set_option maxHeartbeats 4000000 in
set_option maxRecDepth 100000 in
theorem w_X4_leastCoins_31 {l : Launch} {p : Program} {e : Env} {s : State} {m : MethodId} {args : Array Value} {below : List Frame} {meth : Method} {c : Code} {A0 : Nat → Prop} {E : rf_E} {a P : Nat → Nat} {I : Nat → Int32} {J : Nat → Int64} {A : Nat → Nat → Int32} {B : Nat → Nat → Int64} {tc_wordCount : Int32} {tc_personCount : Int32} {now_words : Nat → Int32} {tc_prices : Nat → Int32} {tc_kinds : Nat → Int32} {tc_close : Nat → Int32} {z : Int32 × Int32 × (Nat → Int32) × (Nat → Int32)} (hC : rf_C p E s m args meth c cX4_leastCoins 6 RX4 (some .int) A0) (hD : va_D A0 (cX E a P I J A B)) (hp2 : P 2 = a 10) (e_tc_wordCount : I 23 = tc_wordCount) (e_tc_personCount : I 24 = tc_personCount) (e_now_words : A 1 = now_words) (e_tc_prices : A 13 = tc_prices) (e_tc_kinds : A 14 = tc_kinds) (e_tc_close : A 22 = tc_close) {k19 : Int32 → Int32 → Int32 → Int32 → (Nat → Int32) → (Nat → Int32) → Option (Int32 × Int32 × (Nat → Int32) × (Nat → Int32))} (hk19 : ∀ (v1 : Int32) (v3 : Int32) (v4 : Int32) (purse_ear : Int32) (pairing_best : Nat → Int32) (purse_coins : Nat → Int32), k19 v1 v3 v4 purse_ear pairing_best purse_coins = some z → ∀ (H : Heap) (locs : List Loc) (ls : Array Slot), va_P (rf_D E) vwCl (cX E a P (rf_upL I [(9, purse_ear)]) J (rf_upL A [(5, pairing_best), (6, purse_coins)]) B) H → va_S A0 s.heap H locs → lv_has ls 6 [(0, .ref (a 4)), (1, .int v1), (3, .int v3), (4, .int v4)] → W p l e ({ frames := 4, cells := 0, slots := 0, locals := 91 }) s m args below meth c H locs 0 0 (rf_QI below args s E A0 z.1 (cX E a P (rf_upL I [(9, z.2.1)]) J (rf_upL A [(5, z.2.2.1), (6, z.2.2.2)]) B)) (F0 m 19 ls [])) :
    ∀ (n : Nat), ∀ (v1 : Int32) (v3 : Int32) (v4 : Int32) (v5 : Int32) (purse_ear : Int32) (pairing_best : Nat → Int32) (purse_coins : Nat → Int32), f_X4_leastCoins_31 k19 tc_wordCount tc_personCount now_words tc_prices tc_kinds tc_close n v1 v3 v4 v5 purse_ear pairing_best purse_coins = some z → ∀ (H : Heap) (locs : List Loc) (ls : Array Slot), va_P (rf_D E) vwCl (cX E a P (rf_upL I [(9, purse_ear)]) J (rf_upL A [(5, pairing_best), (6, purse_coins)]) B) H → va_S A0 s.heap H locs → lv_has ls 6 [(0, .ref (a 4)), (1, .int v1), (3, .int v3), (4, .int v4), (5, .int v5)] → W p l e ({ frames := 4, cells := 0, slots := 0, locals := 91 }) s m args below meth c H locs 0 0 (rf_QI below args s E A0 z.1 (cX E a P (rf_upL I [(9, z.2.1)]) J (rf_upL A [(5, z.2.2.1), (6, z.2.2.2)]) B)) (F0 m 31 ls []) := by
  have hx := hC.1
  have hb := hC.2.1
  intro n
  induction n with
  | zero =>
    intro v1 v3 v4 v5 purse_ear pairing_best purse_coins hf
    have hf : (none : Option (Int32 × Int32 × (Nat → Int32) × (Nat → Int32))) = some z := hf
    cases hf
  | succ n ih =>
    intro v1 v3 v4 v5 purse_ear pairing_best purse_coins hf H locs ls hP hS hl
    rw [f_X4_leastCoins_31] at hf
    refine lv_iload hx hb dX4_leastCoins_31 (lv_at hl 4 rfl) ?_
    refine lv_iload_n hx hb dX4_leastCoins_33 rfl (lv_at hl 2 rfl) ?_
    refine lv_icmp_ge (tgt := 86) hx hb dX4_leastCoins_34 (by decide) (fun c_34 => ?_) (fun c_34 => ?_)
    · have hf := rf_it c_34 hf
      refine lv_iinc (v := v4 + 1) (lv' := [(4, .int (v4 + 1)), (0, .ref (a 4)), (1, .int v1), (3, .int v3), (5, .int v5)]) hx hb dX4_leastCoins_86 hl (k := 3) rfl rfl (by decide) rfl (fun ls hl => ?_)
      refine lv_goto (tgt := 19) hx hb dX4_leastCoins_89 (by decide) ?_
      exact hk19 v1 v3 (v4 + 1) purse_ear pairing_best purse_coins hf _ _ _ hP hS (lv_sub hl [1, 2, 3, 0] rfl)
    have hf := rf_ie c_34 hf
    refine lv_aload_n hx hb dX4_leastCoins_37 rfl (lv_at hl 0 rfl) ?_
    refine gX_purse_coins hC hP tw_228 dX4_leastCoins_38 ?_
    refine lv_iload hx hb dX4_leastCoins_41 (lv_at hl 3 rfl) ?_
    refine lv_bipush (v := 8) hx hb dX4_leastCoins_43 (by decide) ?_
    refine lv_imul hx hb dX4_leastCoins_45 ?_
    refine lv_iload hx hb dX4_leastCoins_46 (lv_at hl 4 rfl) ?_
    refine lv_iadd hx hb dX4_leastCoins_48 ?_
    refine lv_iload_n hx hb dX4_leastCoins_49 rfl (lv_at hl 1 rfl) ?_
    refine lv_iload hx hb dX4_leastCoins_50 (lv_at hl 3 rfl) ?_
    obtain ⟨z52, hz52, hf⟩ := rf_bd hf
    refine rf_sn0 hC (c_X10_holds l E v1 v4 hz52) kS_X10_holds nw_970 ⟨Nat.le_of_ble_eq_true rfl, Nat.le_of_ble_eq_true rfl⟩ rfl rfl hP hS rfl hl.1 (rest := [.int ((v4 * 8) + v5), .ref (a 19)]) rfl (Nat.le_of_ble_eq_true rfl) dX4_leastCoins_52 (fun H locs hP hS => ?_)
    refine lv_if_eq (tgt := 78) hx hb dX4_leastCoins_55 (by decide) (fun c_55 => ?_) (fun c_55 => ?_)
    · have hf := rf_it c_55 hf
      exact w_X4_leastCoins_78 hC hD hp2 e_tc_wordCount e_tc_personCount e_now_words e_tc_prices e_tc_kinds e_tc_close hk19 ih v1 v3 v4 v5 ((v4 * 8) + v5) purse_ear pairing_best purse_coins hf _ _ _ hP hS (lv_sub hl [0, 1, 2, 3, 4] rfl)
    have hf := rf_ie c_55 hf
    refine lv_iload_n hx hb dX4_leastCoins_58 rfl (lv_at hl 1 rfl) ?_
    refine lv_iload hx hb dX4_leastCoins_59 (lv_at hl 4 rfl) ?_
    obtain ⟨z61, hz61, hf⟩ := rf_bd hf
    refine rf_sn0 hC (c_X10_holds l E v1 v5 hz61) kS_X10_holds nw_970 ⟨Nat.le_of_ble_eq_true rfl, Nat.le_of_ble_eq_true rfl⟩ rfl rfl hP hS rfl hl.1 (rest := [.int ((v4 * 8) + v5), .ref (a 19)]) rfl (Nat.le_of_ble_eq_true rfl) dX4_leastCoins_61 (fun H locs hP hS => ?_)
    refine lv_if_eq (tgt := 78) hx hb dX4_leastCoins_64 (by decide) (fun c_64 => ?_) (fun c_64 => ?_)
    · have hf := rf_it c_64 hf
      exact w_X4_leastCoins_78 hC hD hp2 e_tc_wordCount e_tc_personCount e_now_words e_tc_prices e_tc_kinds e_tc_close hk19 ih v1 v3 v4 v5 ((v4 * 8) + v5) purse_ear pairing_best purse_coins hf _ _ _ hP hS (lv_sub hl [0, 1, 2, 3, 4] rfl)
    have hf := rf_ie c_64 hf
    refine lv_aload_n hx hb dX4_leastCoins_67 rfl (lv_at hl 0 rfl) ?_
    refine lv_iload hx hb dX4_leastCoins_68 (lv_at hl 3 rfl) ?_
    refine lv_iload hx hb dX4_leastCoins_70 (lv_at hl 4 rfl) ?_
    obtain ⟨z72, hz72, hf⟩ := rf_bd hf
    refine rf_vi (q0 := 4) (ci := 4) hC (c_X4_coinsFor l E a P (rf_upL I [(9, purse_ear)]) J (rf_upL A [(5, pairing_best), (6, purse_coins)]) B purse_ear tc_wordCount now_words tc_prices tc_kinds tc_close v4 v5 hp2 rfl e_tc_wordCount e_now_words e_tc_prices e_tc_kinds e_tc_close hz72) kV_X4_coinsFor tw_971 ⟨Nat.le_of_ble_eq_true rfl, Nat.le_of_ble_eq_true rfl⟩ rfl rfl rfl rfl rfl hP (rf_DX hD) hS rfl hl.1 (rest := [.int ((v4 * 8) + v5), .ref (a 19)]) rfl (Nat.le_of_ble_eq_true rfl) dX4_leastCoins_72 (fun H locs hP hS => ?_)
    refine lv_goto (tgt := 79) hx hb dX4_leastCoins_75 (by decide) ?_
    exact w_X4_leastCoins_79 hC hD hp2 e_tc_wordCount e_tc_personCount e_now_words e_tc_prices e_tc_kinds e_tc_close hk19 ih v1 v3 v4 v5 ((v4 * 8) + v5) z72 purse_ear pairing_best purse_coins hf _ _ _ hP hS (lv_sub hl [0, 1, 2, 3, 4] rfl)
set_option maxHeartbeats 4000000 in
set_option maxRecDepth 100000 in
theorem w_X4_leastCoins_19 {l : Launch} {p : Program} {e : Env} {s : State} {m : MethodId} {args : Array Value} {below : List Frame} {meth : Method} {c : Code} {A0 : Nat → Prop} {E : rf_E} {a P : Nat → Nat} {I : Nat → Int32} {J : Nat → Int64} {A : Nat → Nat → Int32} {B : Nat → Nat → Int64} {tc_wordCount : Int32} {tc_personCount : Int32} {now_words : Nat → Int32} {tc_prices : Nat → Int32} {tc_kinds : Nat → Int32} {tc_close : Nat → Int32} {z : Int32 × Int32 × (Nat → Int32) × (Nat → Int32)} (hC : rf_C p E s m args meth c cX4_leastCoins 6 RX4 (some .int) A0) (hD : va_D A0 (cX E a P I J A B)) (hp2 : P 2 = a 10) (e_tc_wordCount : I 23 = tc_wordCount) (e_tc_personCount : I 24 = tc_personCount) (e_now_words : A 1 = now_words) (e_tc_prices : A 13 = tc_prices) (e_tc_kinds : A 14 = tc_kinds) (e_tc_close : A 22 = tc_close) :
    ∀ (n : Nat), ∀ (v1 : Int32) (v3 : Int32) (v4 : Int32) (purse_ear : Int32) (pairing_best : Nat → Int32) (purse_coins : Nat → Int32), f_X4_leastCoins_19 tc_wordCount tc_personCount now_words tc_prices tc_kinds tc_close n v1 v3 v4 purse_ear pairing_best purse_coins = some z → ∀ (H : Heap) (locs : List Loc) (ls : Array Slot), va_P (rf_D E) vwCl (cX E a P (rf_upL I [(9, purse_ear)]) J (rf_upL A [(5, pairing_best), (6, purse_coins)]) B) H → va_S A0 s.heap H locs → lv_has ls 6 [(0, .ref (a 4)), (1, .int v1), (3, .int v3), (4, .int v4)] → W p l e ({ frames := 4, cells := 0, slots := 0, locals := 91 }) s m args below meth c H locs 0 0 (rf_QI below args s E A0 z.1 (cX E a P (rf_upL I [(9, z.2.1)]) J (rf_upL A [(5, z.2.2.1), (6, z.2.2.2)]) B)) (F0 m 19 ls []) := by
  have hx := hC.1
  have hb := hC.2.1
  intro n
  induction n with
  | zero =>
    intro v1 v3 v4 purse_ear pairing_best purse_coins hf
    have hf : (none : Option (Int32 × Int32 × (Nat → Int32) × (Nat → Int32))) = some z := hf
    cases hf
  | succ n ih =>
    intro v1 v3 v4 purse_ear pairing_best purse_coins hf H locs ls hP hS hl
    rw [f_X4_leastCoins_19] at hf
    refine lv_iload hx hb dX4_leastCoins_19 (lv_at hl 3 rfl) ?_
    refine lv_iload_n hx hb dX4_leastCoins_21 rfl (lv_at hl 2 rfl) ?_
    refine lv_icmp_ge (tgt := 92) hx hb dX4_leastCoins_22 (by decide) (fun c_22 => ?_) (fun c_22 => ?_)
    · have hf := rf_it c_22 hf
      refine lv_aload_n hx hb dX4_leastCoins_92 rfl (lv_at hl 0 rfl) ?_
      refine gX_purse_pairing hC hP tw_227 dX4_leastCoins_93 ?_
      refine lv_aload_n hx hb dX4_leastCoins_96 rfl (lv_at hl 0 rfl) ?_
      refine gX_purse_coins hC hP tw_228 dX4_leastCoins_97 ?_
      refine lv_iload_n hx hb dX4_leastCoins_100 rfl (lv_at hl 1 rfl) ?_
      obtain ⟨z101, hz101, hf⟩ := rf_bd hf
      refine rf_vi (q0 := 3) (ci := 3) hC (c_X3_leastCoins l E a P (rf_upL I [(9, purse_ear)]) J (rf_upL A [(5, pairing_best), (6, purse_coins)]) B purse_coins pairing_best v1 rfl rfl hz101) kV_X3_leastCoins tw_977 ⟨Nat.le_of_ble_eq_true rfl, Nat.le_of_ble_eq_true rfl⟩ rfl rfl rfl rfl rfl hP (rf_DX hD) hS rfl hl.1 (rest := []) rfl (Nat.le_of_ble_eq_true rfl) dX4_leastCoins_101 (fun H locs hP hS => ?_)
      rw [rf_cat (f := A) (l := [(5, pairing_best), (6, purse_coins)]) (lc := [(5, z101.2)]) (l' := [(5, z101.2), (6, purse_coins)]) rfl] at hP
      obtain rfl := Option.some.inj hf
      exact rf_reti hC hP hS rfl rfl dX4_leastCoins_104
    have hf := rf_ie c_22 hf
    refine lv_iload hx hb dX4_leastCoins_25 (lv_at hl 3 rfl) ?_
    refine lv_iconst (v := 1) hx hb dX4_leastCoins_27 (by decide) ?_
    refine lv_iadd hx hb dX4_leastCoins_28 ?_
    refine lv_istore (lv' := [(5, .int (v4 + 1)), (0, .ref (a 4)), (1, .int v1), (3, .int v3), (4, .int v4)]) hx hb dX4_leastCoins_29 hl (by decide) rfl (fun ls hl => ?_)
    exact w_X4_leastCoins_31 hC hD hp2 e_tc_wordCount e_tc_personCount e_now_words e_tc_prices e_tc_kinds e_tc_close ih rf_fu v1 v3 v4 (v4 + 1) purse_ear pairing_best purse_coins hf _ _ _ hP hS (lv_sub hl [1, 2, 3, 4, 0] rfl)
set_option maxHeartbeats 4000000 in
set_option maxRecDepth 100000 in
theorem c_X4_leastCoins (l : Launch) (E : rf_E) (a P : Nat → Nat) (I : Nat → Int32) (J : Nat → Int64) (A : Nat → Nat → Int32) (B : Nat → Nat → Int64) (tc_wordCount : Int32) (tc_personCount : Int32) (now_words : Nat → Int32) (tc_prices : Nat → Int32) (tc_kinds : Nat → Int32) (tc_close : Nat → Int32) (purse_ear : Int32) (pairing_best : Nat → Int32) (purse_coins : Nat → Int32) (v1 : Int32) (v2 : Int32) {z : Int32 × Int32 × (Nat → Int32) × (Nat → Int32)} (hp2 : P 2 = a 10) (e_tc_wordCount : I 23 = tc_wordCount) (e_tc_personCount : I 24 = tc_personCount) (e_now_words : A 1 = now_words) (e_tc_prices : A 13 = tc_prices) (e_tc_kinds : A 14 = tc_kinds) (e_tc_close : A 22 = tc_close) (e_purse_ear : I 9 = purse_ear) (e_pairing_best : A 5 = pairing_best) (e_purse_coins : A 6 = purse_coins) (hf : f_X4_leastCoins tc_wordCount tc_personCount now_words tc_prices tc_kinds tc_close purse_ear pairing_best purse_coins v1 v2 = some z) : rf_MI l yX4_leastCoins cX4_leastCoins 6 (some .int) ({ frames := 4, cells := 0, slots := 0, locals := 91 }) E [.ref (a 4), .int v1, .int v2] (cX E a P I J A B) z.1 (cX E a P (rf_upL I [(9, z.2.1)]) J (rf_upL A [(5, z.2.2.1), (6, z.2.2.2)]) B) := by
  unfold f_X4_leastCoins at hf
  refine rf_ofI (by decide) (Nat.le_of_ble_eq_true rfl) ?_
  intro p e s m below meth c A0 ls hC hD hP hS hl
  have hC : rf_C p E s m _ meth c cX4_leastCoins 6 RX4 (some .int) A0 := hC
  have hx := hC.1
  have hb := hC.2.1
  have hl : lv_has ls 6 [(0, .ref (a 4)), (1, .int v1), (2, .int v2)] := hl
  have hP : va_P (rf_D E) vwCl (cX E a P (rf_upL I [(9, purse_ear)]) J (rf_upL A [(5, pairing_best), (6, purse_coins)]) B) s.heap := by
    rw [rf_self (f := I) [(9, purse_ear)] (rf_fa1 e_purse_ear rf_fa0)]
    rw [rf_self (f := A) [(5, pairing_best), (6, purse_coins)] (rf_fa1 e_pairing_best (rf_fa1 e_purse_coins rf_fa0))]
    exact hP
  refine lv_aload_n hx hb dX4_leastCoins_0 rfl (lv_at hl 0 rfl) ?_
  refine lv_iload_n hx hb dX4_leastCoins_1 rfl (lv_at hl 2 rfl) ?_
  refine pX_purse_ear hC hD hP hS tw_232 dX4_leastCoins_2 (rf_upL I [(9, v2)]) (rf_put rfl) (fun H locs hP hS => ?_)
  refine lv_aload_n hx hb dX4_leastCoins_5 rfl (lv_at hl 0 rfl) ?_
  refine gX_purse_rhymes hC hP tw_226 dX4_leastCoins_6 ?_
  refine gX_rhymes_tale hC hP tw_195 (v := a 10) hp2 dX4_leastCoins_9 ?_
  refine gX_tc_personCount hC hP tw_127 (v := tc_personCount) e_tc_personCount dX4_leastCoins_12 ?_
  refine lv_istore_n (lv' := [(3, .int tc_personCount), (0, .ref (a 4)), (1, .int v1), (2, .int v2)]) hx hb dX4_leastCoins_15 rfl hl (by decide) rfl (fun ls hl => ?_)
  refine lv_iconst (v := 0) hx hb dX4_leastCoins_16 (by decide) ?_
  refine lv_istore (lv' := [(4, .int 0), (3, .int tc_personCount), (0, .ref (a 4)), (1, .int v1), (2, .int v2)]) hx hb dX4_leastCoins_17 hl (by decide) rfl (fun ls hl => ?_)
  exact w_X4_leastCoins_19 hC hD hp2 e_tc_wordCount e_tc_personCount e_now_words e_tc_prices e_tc_kinds e_tc_close rf_fu v1 tc_personCount 0 v2 pairing_best purse_coins hf _ _ _ hP hS (lv_sub hl [2, 3, 1, 0] rfl)
set_option maxHeartbeats 4000000 in
set_option maxRecDepth 100000 in
theorem c_X10_coins (l : Launch) (E : rf_E) (a P : Nat → Nat) (I : Nat → Int32) (J : Nat → Int64) (A : Nat → Nat → Int32) (B : Nat → Nat → Int64) (now_everybody : Int32) (now_far : Int32) (tc_ear : Int32) (tc_wordCount : Int32) (tc_personCount : Int32) (now_words : Nat → Int32) (tc_prices : Nat → Int32) (tc_kinds : Nat → Int32) (tc_hourEars : Nat → Int32) (tc_close : Nat → Int32) (x_lastTrouble : Int32) (purse_ear : Int32) (pairing_best : Nat → Int32) (purse_coins : Nat → Int32) (v1 : Int32) (v2 : Int32) {z : Int32 × Int32 × Int32 × (Nat → Int32) × (Nat → Int32)} (hp0 : P 0 = a 10) (hp2 : P 2 = a 10) (e_now_everybody : I 6 = now_everybody) (e_now_far : I 7 = now_far) (e_tc_ear : I 21 = tc_ear) (e_tc_wordCount : I 23 = tc_wordCount) (e_tc_personCount : I 24 = tc_personCount) (e_now_words : A 1 = now_words) (e_tc_prices : A 13 = tc_prices) (e_tc_kinds : A 14 = tc_kinds) (e_tc_hourEars : A 18 = tc_hourEars) (e_tc_close : A 22 = tc_close) (e_x_lastTrouble : I 3 = x_lastTrouble) (e_purse_ear : I 9 = purse_ear) (e_pairing_best : A 5 = pairing_best) (e_purse_coins : A 6 = purse_coins) (hf : f_X10_coins now_everybody now_far tc_ear tc_wordCount tc_personCount now_words tc_prices tc_kinds tc_hourEars tc_close x_lastTrouble purse_ear pairing_best purse_coins v1 v2 = some z) : rf_MI l yX10_coins cX10_coins 3 (some .int) ({ frames := 5, cells := 0, slots := 0, locals := 116 }) E [.ref (a 0), .int v1, .int v2] (cX E a P I J A B) z.1 (cX E a P (rf_upL I [(3, z.2.1), (9, z.2.2.1)]) J (rf_upL A [(5, z.2.2.2.1), (6, z.2.2.2.2)]) B) := by
  unfold f_X10_coins at hf
  refine rf_ofI (by decide) (Nat.le_of_ble_eq_true rfl) ?_
  intro p e s m below meth c A0 ls hC hD hP hS hl
  have hC : rf_C p E s m _ meth c cX10_coins 3 RX10 (some .int) A0 := hC
  have hx := hC.1
  have hb := hC.2.1
  have hl : lv_has ls 3 [(0, .ref (a 0)), (1, .int v1), (2, .int v2)] := hl
  have hP : va_P (rf_D E) vwCl (cX E a P (rf_upL I [(3, x_lastTrouble), (9, purse_ear)]) J (rf_upL A [(5, pairing_best), (6, purse_coins)]) B) s.heap := by
    rw [rf_self (f := I) [(3, x_lastTrouble), (9, purse_ear)] (rf_fa1 e_x_lastTrouble (rf_fa1 e_purse_ear rf_fa0))]
    rw [rf_self (f := A) [(5, pairing_best), (6, purse_coins)] (rf_fa1 e_pairing_best (rf_fa1 e_purse_coins rf_fa0))]
    exact hP
  refine lv_aload_n hx hb dX10_coins_0 rfl (lv_at hl 0 rfl) ?_
  refine lv_aload_n hx hb dX10_coins_1 rfl (lv_at hl 0 rfl) ?_
  refine lv_iload_n hx hb dX10_coins_2 rfl (lv_at hl 1 rfl) ?_
  obtain ⟨z3, hz3, hf⟩ := rf_bd hf
  refine rf_vi (q0 := 0) (ci := 10) hC (c_X10_isBank l E a P (rf_upL I [(3, x_lastTrouble), (9, purse_ear)]) J (rf_upL A [(5, pairing_best), (6, purse_coins)]) B tc_personCount v1 hp0 e_tc_personCount hz3) kV_X10_isBank tw_900 ⟨Nat.le_of_ble_eq_true rfl, Nat.le_of_ble_eq_true rfl⟩ rfl rfl rfl rfl rfl hP (rf_DX hD) hS rfl hl.1 (rest := [.ref (a 0)]) rfl (Nat.le_of_ble_eq_true rfl) dX10_coins_3 (fun H locs hP hS => ?_)
  refine lv_aload_n hx hb dX10_coins_6 rfl (lv_at hl 0 rfl) ?_
  refine lv_iload_n hx hb dX10_coins_7 rfl (lv_at hl 2 rfl) ?_
  obtain ⟨z8, hz8, hf⟩ := rf_bd hf
  refine rf_vi (q0 := 0) (ci := 10) hC (c_X10_isHour l E a P (rf_upL I [(3, x_lastTrouble), (9, purse_ear)]) J (rf_upL A [(5, pairing_best), (6, purse_coins)]) B v2 hz8) kV_X10_isHour tw_765 ⟨Nat.le_of_ble_eq_true rfl, Nat.le_of_ble_eq_true rfl⟩ rfl rfl rfl rfl rfl hP (rf_DX hD) hS rfl hl.1 (rest := [.int z3, .ref (a 0)]) rfl (Nat.le_of_ble_eq_true rfl) dX10_coins_8 (fun H locs hP hS => ?_)
  obtain ⟨z11, hz11, hf⟩ := rf_bd hf
  refine rf_vi (q0 := 0) (ci := 10) hC (c_X10_refused l E a P (rf_upL I [(3, x_lastTrouble), (9, purse_ear)]) J (rf_upL A [(5, pairing_best), (6, purse_coins)]) B x_lastTrouble z3 z8 rfl hz11) kV_X10_refused tw_454 ⟨Nat.le_of_ble_eq_true rfl, Nat.le_of_ble_eq_true rfl⟩ rfl rfl rfl rfl rfl hP (rf_DX hD) hS rfl hl.1 (rest := []) rfl (Nat.le_of_ble_eq_true rfl) dX10_coins_11 (fun H locs hP hS => ?_)
  rw [rf_cat (f := I) (l := [(3, x_lastTrouble), (9, purse_ear)]) (lc := [(3, z11.2)]) (l' := [(3, z11.2), (9, purse_ear)]) rfl] at hP
  refine lv_if_eq (tgt := 19) hx hb dX10_coins_14 (by decide) (fun c_14 => ?_) (fun c_14 => ?_)
  · have hf := rf_it c_14 hf
    refine lv_aload_n hx hb dX10_coins_19 rfl (lv_at hl 0 rfl) ?_
    refine gX_x_purse hC hP tw_394 dX10_coins_20 ?_
    refine lv_aload_n hx hb dX10_coins_23 rfl (lv_at hl 0 rfl) ?_
    refine gX_x_now hC hP tw_391 dX10_coins_24 ?_
    refine lv_iload_n hx hb dX10_coins_27 rfl (lv_at hl 1 rfl) ?_
    obtain ⟨z28, hz28, hf⟩ := rf_bd hf
    refine rf_vi (q0 := 1) (ci := 2) hC (c_X2_onBank l E a P (rf_upL I [(3, z11.2), (9, purse_ear)]) J (rf_upL A [(5, pairing_best), (6, purse_coins)]) B now_everybody now_far v1 e_now_everybody e_now_far hz28) kV_X2_onBank tw_904 ⟨Nat.le_of_ble_eq_true rfl, Nat.le_of_ble_eq_true rfl⟩ rfl rfl rfl rfl rfl hP (rf_DX hD) hS rfl hl.1 (rest := [.ref (a 4)]) rfl (Nat.le_of_ble_eq_true rfl) dX10_coins_28 (fun H locs hP hS => ?_)
    refine lv_aload_n hx hb dX10_coins_31 rfl (lv_at hl 0 rfl) ?_
    refine gX_x_tale hC hP tw_400 (v := a 10) hp0 dX10_coins_32 ?_
    refine lv_iload_n hx hb dX10_coins_35 rfl (lv_at hl 2 rfl) ?_
    obtain ⟨z36, hz36, hf⟩ := rf_bd hf
    refine rf_vi (q0 := 10) (ci := 9) hC (c_X9_earAt_tc l E a P (rf_upL I [(3, z11.2), (9, purse_ear)]) J (rf_upL A [(5, pairing_best), (6, purse_coins)]) B tc_ear tc_hourEars v2 e_tc_ear e_tc_hourEars hz36) kV_X9_earAt tw_769 ⟨Nat.le_of_ble_eq_true rfl, Nat.le_of_ble_eq_true rfl⟩ rfl rfl rfl rfl rfl hP (rf_DX hD) hS rfl hl.1 (rest := [.int z28, .ref (a 4)]) rfl (Nat.le_of_ble_eq_true rfl) dX10_coins_36 (fun H locs hP hS => ?_)
    obtain ⟨z39, hz39, hf⟩ := rf_bd hf
    refine rf_vi (q0 := 4) (ci := 4) hC (c_X4_leastCoins l E a P (rf_upL I [(3, z11.2), (9, purse_ear)]) J (rf_upL A [(5, pairing_best), (6, purse_coins)]) B tc_wordCount tc_personCount now_words tc_prices tc_kinds tc_close purse_ear pairing_best purse_coins z28 z36 hp2 e_tc_wordCount e_tc_personCount e_now_words e_tc_prices e_tc_kinds e_tc_close rfl rfl rfl hz39) kV_X4_leastCoins tw_966 ⟨Nat.le_of_ble_eq_true rfl, Nat.le_of_ble_eq_true rfl⟩ rfl rfl rfl rfl rfl hP (rf_DX hD) hS rfl hl.1 (rest := []) rfl (Nat.le_of_ble_eq_true rfl) dX10_coins_39 (fun H locs hP hS => ?_)
    rw [rf_cat (f := I) (l := [(3, z11.2), (9, purse_ear)]) (lc := [(9, z39.2.1)]) (l' := [(3, z11.2), (9, z39.2.1)]) rfl] at hP
    rw [rf_cat (f := A) (l := [(5, pairing_best), (6, purse_coins)]) (lc := [(5, z39.2.2.1), (6, z39.2.2.2)]) (l' := [(5, z39.2.2.1), (6, z39.2.2.2)]) rfl] at hP
    obtain rfl := Option.some.inj hf
    exact rf_reti hC hP hS rfl rfl dX10_coins_42
  have hf := rf_ie c_14 hf
  refine lv_iconst (v := (-1)) hx hb dX10_coins_17 (by decide) ?_
  obtain rfl := Option.some.inj hf
  exact rf_reti hC hP hS rfl rfl dX10_coins_18
