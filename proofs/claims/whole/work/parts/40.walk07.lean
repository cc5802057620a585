set_option maxHeartbeats 4000000 in
set_option maxRecDepth 100000 in
theorem w_X9_lettersOf_24 {l : Launch} {p : Program} {e : Env} {s : State} {m : MethodId} {args : Array Value} {below : List Frame} {meth : Method} {c : Code} {A0 : Nat → Prop} {E : rf_E} {z : Int32} (hC : rf_C p E s m args meth c cX9_lettersOf 3 RX9 (some .int) A0) :
    ∀ (v2 : Int32), f_X9_lettersOf_24 v2 = some z → ∀ (H : Heap) (locs : List Loc) (ls : Array Slot), va_P (rf_D E) vwCl ([]) H → va_S A0 s.heap H locs → lv_has ls 3 [(2, .int v2)] → W p l e ({ frames := 0, cells := 0, slots := 0, locals := 0 }) s m args below meth c H locs 0 0 (rf_QI below args s E A0 z ([])) (F0 m 24 ls []) := by
  have hx := hC.1
  have hb := hC.2.1
  intro v2 hf H locs ls hP hS hl
  unfold f_X9_lettersOf_24 at hf
  refine lv_iload_n hx hb dX9_lettersOf_24 rfl (lv_at hl 0 rfl) ?_
  obtain rfl := Option.some.inj hf
  exact rf_reti hC hP hS rfl rfl dX9_lettersOf_25
set_option maxHeartbeats 4000000 in
set_option maxRecDepth 100000 in
theorem w_X9_lettersOf_2 {l : Launch} {p : Program} {e : Env} {s : State} {m : MethodId} {args : Array Value} {below : List Frame} {meth : Method} {c : Code} {A0 : Nat → Prop} {E : rf_E} {z : Int32} (hC : rf_C p E s m args meth c cX9_lettersOf 3 RX9 (some .int) A0) :
    ∀ (n : Nat), ∀ (v0 : Int64) (v2 : Int32), f_X9_lettersOf_2 n v0 v2 = some z → ∀ (H : Heap) (locs : List Loc) (ls : Array Slot), va_P (rf_D E) vwCl ([]) H → va_S A0 s.heap H locs → lv_has ls 3 [(0, .long v0), (2, .int v2)] → W p l e ({ frames := 0, cells := 0, slots := 0, locals := 0 }) s m args below meth c H locs 0 0 (rf_QI below args s E A0 z ([])) (F0 m 2 ls []) := by
  have hx := hC.1
  have hb := hC.2.1
  intro n
  induction n with
  | zero =>
    intro v0 v2 hf
    have hf : (none : Option (Int32)) = some z := hf
    cases hf
  | succ n ih =>
    intro v0 v2 hf H locs ls hP hS hl
    rw [f_X9_lettersOf_2] at hf
    refine lv_iload_n hx hb dX9_lettersOf_2 rfl (lv_at hl 1 rfl) ?_
    refine lv_bipush (v := 8) hx hb dX9_lettersOf_3 (by decide) ?_
    refine lv_icmp_ge (tgt := 24) hx hb dX9_lettersOf_5 (by decide) (fun c_5 => ?_) (fun c_5 => ?_)
    · have hf := rf_it c_5 hf
      exact w_X9_lettersOf_24 hC v2 hf _ _ _ hP hS (lv_sub hl [1] rfl)
    have hf := rf_ie c_5 hf
    refine lv_lload_n hx hb dX9_lettersOf_8 rfl (lv_at hl 0 rfl) ?_
    refine lv_iconst (v := 5) hx hb dX9_lettersOf_9 (by decide) ?_
    refine lv_iload_n hx hb dX9_lettersOf_10 rfl (lv_at hl 1 rfl) ?_
    refine lv_imul hx hb dX9_lettersOf_11 ?_
    refine lv_lushr hx hb dX9_lettersOf_12 rfl ?_
    refine lv_lconst (v := 0) hx hb dX9_lettersOf_13 (by decide) ?_
    refine W.lcmp hx hb dX9_lettersOf_14 ?_
    refine lv_if_eq (tgt := 24) hx hb dX9_lettersOf_15 (by decide) (fun c_15 => ?_) (fun c_15 => ?_)
    · have hf := rf_it c_15 hf
      exact w_X9_lettersOf_24 hC v2 hf _ _ _ hP hS (lv_sub hl [1] rfl)
    have hf := rf_ie c_15 hf
    refine lv_iinc (v := v2 + 1) (lv' := [(2, .int (v2 + 1)), (0, .long v0)]) hx hb dX9_lettersOf_18 hl (k := 1) rfl rfl (by decide) rfl (fun ls hl => ?_)
    refine lv_goto (tgt := 2) hx hb dX9_lettersOf_21 (by decide) ?_
    exact ih v0 (v2 + 1) hf _ _ _ hP hS (lv_sub hl [1, 0] rfl)
set_option maxHeartbeats 4000000 in
set_option maxRecDepth 100000 in
theorem c_X9_lettersOf (l : Launch) (E : rf_E) (v0 : Int64) {z : Int32} (hf : f_X9_lettersOf v0 = some z) : rf_MI l yX9_lettersOf cX9_lettersOf 3 (some .int) ({ frames := 0, cells := 0, slots := 0, locals := 0 }) E [.long v0] ([]) z ([]) := by
  unfold f_X9_lettersOf at hf
  refine rf_ofI (by decide) (Nat.le_of_ble_eq_true rfl) ?_
  intro p e s m below meth c A0 ls hC hD hP hS hl
  have hC : rf_C p E s m _ meth c cX9_lettersOf 3 RX9 (some .int) A0 := hC
  have hx := hC.1
  have hb := hC.2.1
  have hl : lv_has ls 3 [(0, .long v0)] := hl
  refine lv_iconst (v := 0) hx hb dX9_lettersOf_0 (by decide) ?_
  refine lv_istore_n (lv' := [(2, .int 0), (0, .long v0)]) hx hb dX9_lettersOf_1 rfl hl (by decide) rfl (fun ls hl => ?_)
  exact w_X9_lettersOf_2 hC rf_fu v0 0 hf _ _ _ hP hS (lv_sub hl [1, 0] rfl)
set_option maxHeartbeats 4000000 in
set_option maxRecDepth 100000 in
theorem w_X10_word_23 {l : Launch} {p : Program} {e : Env} {s : State} {m : MethodId} {args : Array Value} {below : List Frame} {meth : Method} {c : Code} {A0 : Nat → Prop} {E : rf_E} {a P : Nat → Nat} {I : Nat → Int32} {J : Nat → Int64} {A : Nat → Nat → Int32} {B : Nat → Nat → Int64} {now_everybody : Int32} {tc_wordCount : Int32} {now_words : Nat → Int32} {tc_sounds : Nat → Int64} {tc_prices : Nat → Int32} {z : Int32 × Int32} (hC : rf_C p E s m args meth c cX10_word 3 RX10 (some .int) A0) (hD : va_D A0 (cX E a P I J A B)) (hp0 : P 0 = a 10) (e_now_everybody : I 6 = now_everybody) (e_tc_wordCount : I 23 = tc_wordCount) (e_now_words : A 1 = now_words) (e_tc_sounds : B 1 = tc_sounds) (e_tc_prices : A 13 = tc_prices) :
    ∀ (v1 : Int32) (v2 : Int32) (s1 : Int32) (x_lastTrouble : Int32), f_X10_word_23 now_everybody tc_wordCount now_words tc_sounds tc_prices v1 v2 s1 x_lastTrouble = some z → ∀ (H : Heap) (locs : List Loc) (ls : Array Slot), va_P (rf_D E) vwCl (cX E a P (rf_upL I [(3, x_lastTrouble)]) J A B) H → va_S A0 s.heap H locs → lv_has ls 3 [(0, .ref (a 0)), (1, .int v1), (2, .int v2)] → W p l e ({ frames := 3, cells := 0, slots := 0, locals := 66 }) s m args below meth c H locs 0 0 (rf_QI below args s E A0 z.1 (cX E a P (rf_upL I [(3, z.2)]) J A B)) (F0 m 23 ls [.int s1, .ref (a 0)]) := by
  have hx := hC.1
  have hb := hC.2.1
  intro v1 v2 s1 x_lastTrouble hf H locs ls hP hS hl
  unfold f_X10_word_23 at hf
  refine lv_iconst (v := 1) hx hb dX10_word_23 (by decide) ?_
  obtain ⟨z24, hz24, hf⟩ := rf_bd hf
  refine rf_vi (q0 := 0) (ci := 10) hC (c_X10_refused l E a P (rf_upL I [(3, x_lastTrouble)]) J A B x_lastTrouble s1 1 rfl hz24) kV_X10_refused tw_455 ⟨Nat.le_of_ble_eq_true rfl, Nat.le_of_ble_eq_true rfl⟩ rfl rfl rfl rfl rfl hP (rf_DX hD) hS rfl hl.1 (rest := []) rfl (Nat.le_of_ble_eq_true rfl) dX10_word_24 (fun H locs hP hS => ?_)
  rw [rf_cat (f := I) (l := [(3, x_lastTrouble)]) (lc := [(3, z24.2)]) (l' := [(3, z24.2)]) rfl] at hP
  refine lv_if_eq (tgt := 32) hx hb dX10_word_27 (by decide) (fun c_27 => ?_) (fun c_27 => ?_)
  · have hf := rf_it c_27 hf
    refine lv_iload_n hx hb dX10_word_32 rfl (lv_at hl 2 rfl) ?_
    by_cases c_33_0 : v2 = 0
    · have hf := rf_it c_33_0 hf
      refine lv_lookup (off := 27) (tgt := 60) hx hb dX10_word_33 (by decide) (by rw [c_33_0]; decide) (by decide) ?_
      refine lv_aload_n hx hb dX10_word_60 rfl (lv_at hl 0 rfl) ?_
      refine gX_x_tale hC hP tw_401 (v := a 10) hp0 dX10_word_61 ?_
      refine gX_tc_prices hC hP tw_89 dX10_word_64 ?_
      refine lv_iload_n hx hb dX10_word_67 rfl (lv_at hl 1 rfl) ?_
      obtain ⟨hi_68, hf⟩ := rf_gu hf
      refine lX_tc_prices hC hP hi_68 (f := tc_prices) e_tc_prices dX10_word_68 ?_
      obtain rfl := Option.some.inj hf
      exact rf_reti hC hP hS rfl rfl dX10_word_69
    have hf := rf_ie c_33_0 hf
    by_cases c_33_1 : v2 = 1
    · have hf := rf_it c_33_1 hf
      refine lv_lookup (off := 37) (tgt := 70) hx hb dX10_word_33 (by decide) (by rw [c_33_1]; decide) (by decide) ?_
      refine lv_aload_n hx hb dX10_word_70 rfl (lv_at hl 0 rfl) ?_
      refine gX_x_tale hC hP tw_401 (v := a 10) hp0 dX10_word_71 ?_
      refine gX_tc_sounds hC hP tw_86 dX10_word_74 ?_
      refine lv_iload_n hx hb dX10_word_77 rfl (lv_at hl 1 rfl) ?_
      obtain ⟨hi_78, hf⟩ := rf_gu hf
      refine lX_tc_sounds hC hP hi_78 (f := tc_sounds) e_tc_sounds dX10_word_78 ?_
      obtain ⟨z79, hz79, hf⟩ := rf_bd hf
      refine rf_si0 hC (c_X9_lettersOf l E (tc_sounds (Int32.toNatClampNeg v1)) hz79) kS_X9_lettersOf tw_725 ⟨Nat.le_of_ble_eq_true rfl, Nat.le_of_ble_eq_true rfl⟩ rfl rfl hP hS rfl hl.1 (rest := []) rfl (Nat.le_of_ble_eq_true rfl) dX10_word_79 (fun H locs hP hS => ?_)
      obtain rfl := Option.some.inj hf
      exact rf_reti hC hP hS rfl rfl dX10_word_82
    have hf := rf_ie c_33_1 hf
    refine lv_lookup (off := 50) (tgt := 83) hx hb dX10_word_33 (by decide) (by rw [lv_osw c_33_0 (by decide), lv_osw c_33_1 (by decide)]; rfl) (by decide) ?_
    refine lv_aload_n hx hb dX10_word_83 rfl (lv_at hl 0 rfl) ?_
    refine gX_x_now hC hP tw_392 dX10_word_84 ?_
    refine lv_iload_n hx hb dX10_word_87 rfl (lv_at hl 1 rfl) ?_
    obtain ⟨z88, hz88, hf⟩ := rf_bd hf
    refine rf_vi (q0 := 1) (ci := 2) hC (c_X2_whoHas l E a P (rf_upL I [(3, z24.2)]) J A B now_everybody now_words v1 e_now_everybody e_now_words hz88) kV_X2_whoHas tw_728 ⟨Nat.le_of_ble_eq_true rfl, Nat.le_of_ble_eq_true rfl⟩ rfl rfl rfl rfl rfl hP (rf_DX hD) hS rfl hl.1 (rest := []) rfl (Nat.le_of_ble_eq_true rfl) dX10_word_88 (fun H locs hP hS => ?_)
    obtain rfl := Option.some.inj hf
    exact rf_reti hC hP hS rfl rfl dX10_word_91
  have hf := rf_ie c_27 hf
  refine lv_iconst (v := (-1)) hx hb dX10_word_30 (by decide) ?_
  obtain rfl := Option.some.inj hf
  exact rf_reti hC hP hS rfl rfl dX10_word_31
set_option maxHeartbeats 4000000 in
set_option maxRecDepth 100000 in
theorem w_X10_word_22 {l : Launch} {p : Program} {e : Env} {s : State} {m : MethodId} {args : Array Value} {below : List Frame} {meth : Method} {c : Code} {A0 : Nat → Prop} {E : rf_E} {a P : Nat → Nat} {I : Nat → Int32} {J : Nat → Int64} {A : Nat → Nat → Int32} {B : Nat → Nat → Int64} {now_everybody : Int32} {tc_wordCount : Int32} {now_words : Nat → Int32} {tc_sounds : Nat → Int64} {tc_prices : Nat → Int32} {z : Int32 × Int32} (hC : rf_C p E s m args meth c cX10_word 3 RX10 (some .int) A0) (hD : va_D A0 (cX E a P I J A B)) (hp0 : P 0 = a 10) (e_now_everybody : I 6 = now_everybody) (e_tc_wordCount : I 23 = tc_wordCount) (e_now_words : A 1 = now_words) (e_tc_sounds : B 1 = tc_sounds) (e_tc_prices : A 13 = tc_prices) :
    ∀ (v1 : Int32) (v2 : Int32) (x_lastTrouble : Int32), f_X10_word_22 now_everybody tc_wordCount now_words tc_sounds tc_prices v1 v2 x_lastTrouble = some z → ∀ (H : Heap) (locs : List Loc) (ls : Array Slot), va_P (rf_D E) vwCl (cX E a P (rf_upL I [(3, x_lastTrouble)]) J A B) H → va_S A0 s.heap H locs → lv_has ls 3 [(0, .ref (a 0)), (1, .int v1), (2, .int v2)] → W p l e ({ frames := 3, cells := 0, slots := 0, locals := 66 }) s m args below meth c H locs 0 0 (rf_QI below args s E A0 z.1 (cX E a P (rf_upL I [(3, z.2)]) J A B)) (F0 m 22 ls [.ref (a 0)]) := by
  have hx := hC.1
  have hb := hC.2.1
  intro v1 v2 x_lastTrouble hf H locs ls hP hS hl
  unfold f_X10_word_22 at hf
  refine lv_iconst (v := 0) hx hb dX10_word_22 (by decide) ?_
  exact w_X10_word_23 hC hD hp0 e_now_everybody e_tc_wordCount e_now_words e_tc_sounds e_tc_prices v1 v2 0 x_lastTrouble hf _ _ _ hP hS (lv_sub hl [0, 1, 2] rfl)
set_option maxHeartbeats 4000000 in
set_option maxRecDepth 100000 in
theorem c_X10_word (l : Launch) (E : rf_E) (a P : Nat → Nat) (I : Nat → Int32) (J : Nat → Int64) (A : Nat → Nat → Int32) (B : Nat → Nat → Int64) (now_everybody : Int32) (tc_wordCount : Int32) (now_words : Nat → Int32) (tc_sounds : Nat → Int64) (tc_prices : Nat → Int32) (x_lastTrouble : Int32) (v1 : Int32) (v2 : Int32) {z : Int32 × Int32} (hp0 : P 0 = a 10) (e_now_everybody : I 6 = now_everybody) (e_tc_wordCount : I 23 = tc_wordCount) (e_now_words : A 1 = now_words) (e_tc_sounds : B 1 = tc_sounds) (e_tc_prices : A 13 = tc_prices) (e_x_lastTrouble : I 3 = x_lastTrouble) (hf : f_X10_word now_everybody tc_wordCount now_words tc_sounds tc_prices x_lastTrouble v1 v2 = some z) : rf_MI l yX10_word cX10_word 3 (some .int) ({ frames := 3, cells := 0, slots := 0, locals := 66 }) E [.ref (a 0), .int v1, .int v2] (cX E a P I J A B) z.1 (cX E a P (rf_upL I [(3, z.2)]) J A B) := by
  unfold f_X10_word at hf
  refine rf_ofI (by decide) (Nat.le_of_ble_eq_true rfl) ?_
  intro p e s m below meth c A0 ls hC hD hP hS hl
  have hC : rf_C p E s m _ meth c cX10_word 3 RX10 (some .int) A0 := hC
  have hx := hC.1
  have hb := hC.2.1
  have hl : lv_has ls 3 [(0, .ref (a 0)), (1, .int v1), (2, .int v2)] := hl
  have hP : va_P (rf_D E) vwCl (cX E a P (rf_upL I [(3, x_lastTrouble)]) J A B) s.heap := by
    rw [rf_self (f := I) [(3, x_lastTrouble)] (rf_fa1 e_x_lastTrouble rf_fa0)]
    exact hP
  refine lv_aload_n hx hb dX10_word_0 rfl (lv_at hl 0 rfl) ?_
  refine lv_aload_n hx hb dX10_word_1 rfl (lv_at hl 0 rfl) ?_
  refine lv_iload_n hx hb dX10_word_2 rfl (lv_at hl 1 rfl) ?_
  obtain ⟨z3, hz3, hf⟩ := rf_bd hf
  refine rf_vi (q0 := 0) (ci := 10) hC (c_X10_isWord l E a P (rf_upL I [(3, x_lastTrouble)]) J A B tc_wordCount v1 hp0 e_tc_wordCount hz3) kV_X10_isWord tw_721 ⟨Nat.le_of_ble_eq_true rfl, Nat.le_of_ble_eq_true rfl⟩ rfl rfl rfl rfl rfl hP (rf_DX hD) hS rfl hl.1 (rest := [.ref (a 0)]) rfl (Nat.le_of_ble_eq_true rfl) dX10_word_3 (fun H locs hP hS => ?_)
  refine lv_if_eq (tgt := 22) hx hb dX10_word_6 (by decide) (fun c_6 => ?_) (fun c_6 => ?_)
  · have hf := rf_it c_6 hf
    exact w_X10_word_22 hC hD hp0 e_now_everybody e_tc_wordCount e_now_words e_tc_sounds e_tc_prices v1 v2 x_lastTrouble hf _ _ _ hP hS (lv_sub hl [0, 1, 2] rfl)
  have hf := rf_ie c_6 hf
  refine lv_iload_n hx hb dX10_word_9 rfl (lv_at hl 2 rfl) ?_
  refine lv_if_lt (tgt := 22) hx hb dX10_word_10 (by decide) (fun c_10 => ?_) (fun c_10 => ?_)
  · have hf := rf_it c_10 hf
    exact w_X10_word_22 hC hD hp0 e_now_everybody e_tc_wordCount e_now_words e_tc_sounds e_tc_prices v1 v2 x_lastTrouble hf _ _ _ hP hS (lv_sub hl [0, 1, 2] rfl)
  have hf := rf_ie c_10 hf
  refine lv_iload_n hx hb dX10_word_13 rfl (lv_at hl 2 rfl) ?_
  refine lv_iconst (v := 2) hx hb dX10_word_14 (by decide) ?_
  refine lv_icmp_gt (tgt := 22) hx hb dX10_word_15 (by decide) (fun c_15 => ?_) (fun c_15 => ?_)
  · have hf := rf_it c_15 hf
    exact w_X10_word_22 hC hD hp0 e_now_everybody e_tc_wordCount e_now_words e_tc_sounds e_tc_prices v1 v2 x_lastTrouble hf _ _ _ hP hS (lv_sub hl [0, 1, 2] rfl)
  have hf := rf_ie c_15 hf
  refine lv_iconst (v := 1) hx hb dX10_word_18 (by decide) ?_
  refine lv_goto (tgt := 23) hx hb dX10_word_19 (by decide) ?_
  exact w_X10_word_23 hC hD hp0 e_now_everybody e_tc_wordCount e_now_words e_tc_sounds e_tc_prices v1 v2 1 x_lastTrouble hf _ _ _ hP hS (lv_sub hl [0, 1, 2] rfl)
set_option maxHeartbeats 4000000 in
set_option maxRecDepth 100000 in
theorem w_X9_isAlike_tc_21 {l : Launch} {p : Program} {e : Env} {s : State} {m : MethodId} {args : Array Value} {below : List Frame} {meth : Method} {c : Code} {A0 : Nat → Prop} {E : rf_E} {a P : Nat → Nat} {I : Nat → Int32} {J : Nat → Int64} {A : Nat → Nat → Int32} {B : Nat → Nat → Int64} {t_alikes : Nat → Int32} {z : Int32} (hC : rf_C p E s m args meth c cX9_isAlike 3 RX9 (some .boolean) A0) (hD : va_D A0 (cX E a P I J A B)) (e_t_alikes : A 17 = t_alikes) :
    ∀ (_ : Unit), f_X9_isAlike_21 t_alikes = some z → ∀ (H : Heap) (locs : List Loc) (ls : Array Slot), va_P (rf_D E) vwCl (cX E a P I J A B) H → va_S A0 s.heap H locs → lv_has ls 3 [] → W p l e ({ frames := 1, cells := 0, slots := 0, locals := 21 }) s m args below meth c H locs 0 0 (rf_QI below args s E A0 z (cX E a P I J A B)) (F0 m 21 ls []) := by
  have hx := hC.1
  have hb := hC.2.1
  intro _ hf H locs ls hP hS hl
  unfold f_X9_isAlike_21 at hf
  refine lv_iconst (v := 1) hx hb dX9_isAlike_21 (by decide) ?_
  refine lv_goto (tgt := 26) hx hb dX9_isAlike_22 (by decide) ?_
  obtain rfl := Option.some.inj hf
  exact rf_retz hC hP hS (by decide) rfl rfl dX9_isAlike_26
set_option maxHeartbeats 4000000 in
set_option maxRecDepth 100000 in
theorem c_X9_isAlike_tc (l : Launch) (E : rf_E) (a P : Nat → Nat) (I : Nat → Int32) (J : Nat → Int64) (A : Nat → Nat → Int32) (B : Nat → Nat → Int64) (t_alikes : Nat → Int32) (v1 : Int32) (v2 : Int32) {z : Int32} (e_t_alikes : A 17 = t_alikes) (hf : f_X9_isAlike t_alikes v1 v2 = some z) : rf_MI l yX9_isAlike cX9_isAlike 3 (some .boolean) ({ frames := 1, cells := 0, slots := 0, locals := 21 }) E [.ref (a 10), .int v1, .int v2] (cX E a P I J A B) z (cX E a P I J A B) := by
  unfold f_X9_isAlike at hf
  refine rf_ofI (by decide) (Nat.le_of_ble_eq_true rfl) ?_
  intro p e s m below meth c A0 ls hC hD hP hS hl
  have hC : rf_C p E s m _ meth c cX9_isAlike 3 RX9 (some .boolean) A0 := hC
  have hx := hC.1
  have hb := hC.2.1
  have hl : lv_has ls 3 [(0, .ref (a 10)), (1, .int v1), (2, .int v2)] := hl
  refine lv_iload_n hx hb dX9_isAlike_0 rfl (lv_at hl 1 rfl) ?_
  refine lv_iload_n hx hb dX9_isAlike_1 rfl (lv_at hl 2 rfl) ?_
  refine lv_icmp_eq (tgt := 21) hx hb dX9_isAlike_2 (by decide) (fun c_2 => ?_) (fun c_2 => ?_)
  · have hf := rf_it c_2 hf
    exact w_X9_isAlike_tc_21 hC hD e_t_alikes () hf _ _ _ hP hS (lv_sub hl [] rfl)
  have hf := rf_ie c_2 hf
  refine lv_aload_n hx hb dX9_isAlike_5 rfl (lv_at hl 0 rfl) ?_
  refine gX_tc_alikes hC hP tw_103 dX9_isAlike_6 ?_
  refine lv_iload_n hx hb dX9_isAlike_9 rfl (lv_at hl 1 rfl) ?_
  refine lv_bipush (v := 31) hx hb dX9_isAlike_10 (by decide) ?_
  refine lv_iand hx hb dX9_isAlike_12 ?_
  obtain ⟨hi_13, hf⟩ := rf_gu hf
  refine lX_tc_alikes hC hP hi_13 (f := t_alikes) e_t_alikes dX9_isAlike_13 ?_
  refine lv_iload_n hx hb dX9_isAlike_14 rfl (lv_at hl 2 rfl) ?_
  obtain ⟨z15, hz15, hf⟩ := rf_bd hf
  refine rf_sn0 hC (c_X10_holds l E (t_alikes (Int32.toNatClampNeg (v1 &&& 31))) v2 hz15) kS_X10_holds nw_654 ⟨Nat.le_of_ble_eq_true rfl, Nat.le_of_ble_eq_true rfl⟩ rfl rfl hP hS rfl hl.1 (rest := []) rfl (Nat.le_of_ble_eq_true rfl) dX9_isAlike_15 (fun H locs hP hS => ?_)
  refine lv_if_eq (tgt := 25) hx hb dX9_isAlike_18 (by decide) (fun c_18 => ?_) (fun c_18 => ?_)
  · have hf := rf_it c_18 hf
    refine lv_iconst (v := 0) hx hb dX9_isAlike_25 (by decide) ?_
    obtain rfl := Option.some.inj hf
    exact rf_retz hC hP hS (by decide) rfl rfl dX9_isAlike_26
  have hf := rf_ie c_18 hf
  exact w_X9_isAlike_tc_21 hC hD e_t_alikes () hf _ _ _ hP hS (lv_sub hl [] rfl)
set_option maxHeartbeats 4000000 in
set_option maxRecDepth 100000 in
theorem w_X9_common_tc_128 {l : Launch} {p : Program} {e : Env} {s : State} {m : MethodId} {args : Array Value} {below : List Frame} {meth : Method} {c : Code} {A0 : Nat → Prop} {E : rf_E} {a P : Nat → Nat} {I : Nat → Int32} {J : Nat → Int64} {A : Nat → Nat → Int32} {B : Nat → Nat → Int64} {t_wordNames : Nat → Int64} {t_sounds : Nat → Int64} {t_alikes : Nat → Int32} {z : Int32} (hC : rf_C p E s m args meth c cX9_common 11 RX9 (some .int) A0) (hD : va_D A0 (cX E a P I J A B)) (e_t_wordNames : B 0 = t_wordNames) (e_t_sounds : B 1 = t_sounds) (e_t_alikes : A 17 = t_alikes) :
    ∀ (v8 : Int32), f_X9_common_128 t_wordNames t_sounds t_alikes v8 = some z → ∀ (H : Heap) (locs : List Loc) (ls : Array Slot), va_P (rf_D E) vwCl (cX E a P I J A B) H → va_S A0 s.heap H locs → lv_has ls 11 [(8, .int v8)] → W p l e ({ frames := 2, cells := 0, slots := 0, locals := 43 }) s m args below meth c H locs 0 0 (rf_QI below args s E A0 z (cX E a P I J A B)) (F0 m 128 ls []) := by
  have hx := hC.1
  have hb := hC.2.1
  intro v8 hf H locs ls hP hS hl
  unfold f_X9_common_128 at hf
  refine lv_iload hx hb dX9_common_128 (lv_at hl 0 rfl) ?_
  obtain rfl := Option.some.inj hf
  exact rf_reti hC hP hS rfl rfl dX9_common_130
set_option maxHeartbeats 4000000 in
set_option maxRecDepth 100000 in
theorem w_X9_common_tc_110 {l : Launch} {p : Program} {e : Env} {s : State} {m : MethodId} {args : Array Value} {below : List Frame} {meth : Method} {c : Code} {A0 : Nat → Prop} {E : rf_E} {a P : Nat → Nat} {I : Nat → Int32} {J : Nat → Int64} {A : Nat → Nat → Int32} {B : Nat → Nat → Int64} {t_wordNames : Nat → Int64} {t_sounds : Nat → Int64} {t_alikes : Nat → Int32} {z : Int32} (hC : rf_C p E s m args meth c cX9_common 11 RX9 (some .int) A0) (hD : va_D A0 (cX E a P I J A B)) (e_t_wordNames : B 0 = t_wordNames) (e_t_sounds : B 1 = t_sounds) (e_t_alikes : A 17 = t_alikes) {k45 : Int32 → Int64 → Int64 → Int32 → Option (Int32)} (hk45 : ∀ (v1 : Int32) (v4 : Int64) (v6 : Int64) (v8 : Int32), k45 v1 v4 v6 v8 = some z → ∀ (H : Heap) (locs : List Loc) (ls : Array Slot), va_P (rf_D E) vwCl (cX E a P I J A B) H → va_S A0 s.heap H locs → lv_has ls 11 [(0, .ref (a 10)), (1, .int v1), (4, .long v4), (6, .long v6), (8, .int v8)] → W p l e ({ frames := 2, cells := 0, slots := 0, locals := 43 }) s m args below meth c H locs 0 0 (rf_QI below args s E A0 z (cX E a P I J A B)) (F0 m 45 ls [])) :
    ∀ (v1 : Int32) (v4 : Int64) (v6 : Int64) (v8 : Int32), f_X9_common_110 k45 t_wordNames t_sounds t_alikes v1 v4 v6 v8 = some z → ∀ (H : Heap) (locs : List Loc) (ls : Array Slot), va_P (rf_D E) vwCl (cX E a P I J A B) H → va_S A0 s.heap H locs → lv_has ls 11 [(0, .ref (a 10)), (1, .int v1), (4, .long v4), (6, .long v6), (8, .int v8)] → W p l e ({ frames := 2, cells := 0, slots := 0, locals := 43 }) s m args below meth c H locs 0 0 (rf_QI below args s E A0 z (cX E a P I J A B)) (F0 m 110 ls []) := by
  have hx := hC.1
  have hb := hC.2.1
  intro v1 v4 v6 v8 hf H locs ls hP hS hl
  unfold f_X9_common_110 at hf
  refine lv_lload hx hb dX9_common_110 (lv_at hl 2 rfl) ?_
  refine lv_iconst (v := 5) hx hb dX9_common_112 (by decide) ?_
  refine lv_lushr hx hb dX9_common_113 rfl ?_
  refine lv_lstore (lv' := [(4, .long ((Int64.toUInt64 v4 >>> ((Int32.toInt64 5).toUInt64 &&& Int64.toUInt64 63)).toInt64)), (0, .ref (a 10)), (1, .int v1), (6, .long v6), (8, .int v8)]) hx hb dX9_common_114 hl (by decide) rfl (fun ls hl => ?_)
  refine lv_lload hx hb dX9_common_116 (lv_at hl 3 rfl) ?_
  refine lv_iconst (v := 5) hx hb dX9_common_118 (by decide) ?_
  refine lv_lushr hx hb dX9_common_119 rfl ?_
  refine lv_lstore (lv' := [(6, .long ((Int64.toUInt64 v6 >>> ((Int32.toInt64 5).toUInt64 &&& Int64.toUInt64 63)).toInt64)), (4, .long ((Int64.toUInt64 v4 >>> ((Int32.toInt64 5).toUInt64 &&& Int64.toUInt64 63)).toInt64)), (0, .ref (a 10)), (1, .int v1), (8, .int v8)]) hx hb dX9_common_120 hl (by decide) rfl (fun ls hl => ?_)
  refine lv_iinc (v := v8 + 1) (lv' := [(8, .int (v8 + 1)), (6, .long ((Int64.toUInt64 v6 >>> ((Int32.toInt64 5).toUInt64 &&& Int64.toUInt64 63)).toInt64)), (4, .long ((Int64.toUInt64 v4 >>> ((Int32.toInt64 5).toUInt64 &&& Int64.toUInt64 63)).toInt64)), (0, .ref (a 10)), (1, .int v1)]) hx hb dX9_common_122 hl (k := 4) rfl rfl (by decide) rfl (fun ls hl => ?_)
  refine lv_goto (tgt := 45) hx hb dX9_common_125 (by decide) ?_
  exact hk45 v1 ((Int64.toUInt64 v4 >>> ((Int32.toInt64 5).toUInt64 &&& Int64.toUInt64 63)).toInt64) ((Int64.toUInt64 v6 >>> ((Int32.toInt64 5).toUInt64 &&& Int64.toUInt64 63)).toInt64) (v8 + 1) hf _ _ _ hP hS (lv_sub hl [3, 4, 2, 1, 0] rfl)
set_option maxHeartbeats 4000000 in
set_option maxRecDepth 100000 in
theorem w_X9_common_tc_107 {l : Launch} {p : Program} {e : Env} {s : State} {m : MethodId} {args : Array Value} {below : List Frame} {meth : Method} {c : Code} {A0 : Nat → Prop} {E : rf_E} {a P : Nat → Nat} {I : Nat → Int32} {J : Nat → Int64} {A : Nat → Nat → Int32} {B : Nat → Nat → Int64} {t_wordNames : Nat → Int64} {t_sounds : Nat → Int64} {t_alikes : Nat → Int32} {z : Int32} (hC : rf_C p E s m args meth c cX9_common 11 RX9 (some .int) A0) (hD : va_D A0 (cX E a P I J A B)) (e_t_wordNames : B 0 = t_wordNames) (e_t_sounds : B 1 = t_sounds) (e_t_alikes : A 17 = t_alikes) :
    ∀ (v8 : Int32), f_X9_common_107 t_wordNames t_sounds t_alikes v8 = some z → ∀ (H : Heap) (locs : List Loc) (ls : Array Slot), va_P (rf_D E) vwCl (cX E a P I J A B) H → va_S A0 s.heap H locs → lv_has ls 11 [(8, .int v8)] → W p l e ({ frames := 2, cells := 0, slots := 0, locals := 43 }) s m args below meth c H locs 0 0 (rf_QI below args s E A0 z (cX E a P I J A B)) (F0 m 107 ls []) := by
  have hx := hC.1
  have hb := hC.2.1
  intro v8 hf H locs ls hP hS hl
  unfold f_X9_common_107 at hf
  refine lv_iload hx hb dX9_common_107 (lv_at hl 0 rfl) ?_
  obtain rfl := Option.some.inj hf
  exact rf_reti hC hP hS rfl rfl dX9_common_109
set_option maxHeartbeats 4000000 in
set_option maxRecDepth 100000 in
theorem w_X9_common_tc_45 {l : Launch} {p : Program} {e : Env} {s : State} {m : MethodId} {args : Array Value} {below : List Frame} {meth : Method} {c : Code} {A0 : Nat → Prop} {E : rf_E} {a P : Nat → Nat} {I : Nat → Int32} {J : Nat → Int64} {A : Nat → Nat → Int32} {B : Nat → Nat → Int64} {t_wordNames : Nat → Int64} {t_sounds : Nat → Int64} {t_alikes : Nat → Int32} {z : Int32} (hC : rf_C p E s m args meth c cX9_common 11 RX9 (some .int) A0) (hD : va_D A0 (cX E a P I J A B)) (e_t_wordNames : B 0 = t_wordNames) (e_t_sounds : B 1 = t_sounds) (e_t_alikes : A 17 = t_alikes) :
    ∀ (n : Nat), ∀ (v1 : Int32) (v4 : Int64) (v6 : Int64) (v8 : Int32), f_X9_common_45 t_wordNames t_sounds t_alikes n v1 v4 v6 v8 = some z → ∀ (H : Heap) (locs : List Loc) (ls : Array Slot), va_P (rf_D E) vwCl (cX E a P I J A B) H → va_S A0 s.heap H locs → lv_has ls 11 [(0, .ref (a 10)), (1, .int v1), (4, .long v4), (6, .long v6), (8, .int v8)] → W p l e ({ frames := 2, cells := 0, slots := 0, locals := 43 }) s m args below meth c H locs 0 0 (rf_QI below args s E A0 z (cX E a P I J A B)) (F0 m 45 ls []) := by
  have hx := hC.1
  have hb := hC.2.1
  intro n
  induction n with
  | zero =>
    intro v1 v4 v6 v8 hf
    have hf : (none : Option (Int32)) = some z := hf
    cases hf
  | succ n ih =>
    intro v1 v4 v6 v8 hf H locs ls hP hS hl
    rw [f_X9_common_45] at hf
    refine lv_iload hx hb dX9_common_45 (lv_at hl 4 rfl) ?_
    refine lv_bipush (v := 8) hx hb dX9_common_47 (by decide) ?_
    refine lv_icmp_ge (tgt := 128) hx hb dX9_common_49 (by decide) (fun c_49 => ?_) (fun c_49 => ?_)
    · have hf := rf_it c_49 hf
      exact w_X9_common_tc_128 hC hD e_t_wordNames e_t_sounds e_t_alikes v8 hf _ _ _ hP hS (lv_sub hl [4] rfl)
    have hf := rf_ie c_49 hf
    refine lv_lload hx hb dX9_common_52 (lv_at hl 2 rfl) ?_
    refine lv_lconst (v := 0) hx hb dX9_common_54 (by decide) ?_
    refine W.lcmp hx hb dX9_common_55 ?_
    refine lv_if_eq (tgt := 128) hx hb dX9_common_56 (by decide) (fun c_56 => ?_) (fun c_56 => ?_)
    · have hf := rf_it c_56 hf
      exact w_X9_common_tc_128 hC hD e_t_wordNames e_t_sounds e_t_alikes v8 hf _ _ _ hP hS (lv_sub hl [4] rfl)
    have hf := rf_ie c_56 hf
    refine lv_lload hx hb dX9_common_59 (lv_at hl 3 rfl) ?_
    refine lv_lconst (v := 0) hx hb dX9_common_61 (by decide) ?_
    refine W.lcmp hx hb dX9_common_62 ?_
    refine lv_if_eq (tgt := 128) hx hb dX9_common_63 (by decide) (fun c_63 => ?_) (fun c_63 => ?_)
    · have hf := rf_it c_63 hf
      exact w_X9_common_tc_128 hC hD e_t_wordNames e_t_sounds e_t_alikes v8 hf _ _ _ hP hS (lv_sub hl [4] rfl)
    have hf := rf_ie c_63 hf
    refine lv_lload hx hb dX9_common_66 (lv_at hl 2 rfl) ?_
    refine lv_ldc2 hx hb hC.2.2.2.1 (hC.2.2.2.2.1 _ tw_695) dX9_common_68 ?_
    refine lv_land hx hb dX9_common_71 ?_
    refine lv_l2i hx hb dX9_common_72 rfl ?_
    refine lv_istore (lv' := [(9, .int (Int64.toInt32 (v4 &&& 31))), (0, .ref (a 10)), (1, .int v1), (4, .long v4), (6, .long v6), (8, .int v8)]) hx hb dX9_common_73 hl (by decide) rfl (fun ls hl => ?_)
    refine lv_lload hx hb dX9_common_75 (lv_at hl 4 rfl) ?_
    refine lv_ldc2 hx hb hC.2.2.2.1 (hC.2.2.2.2.1 _ tw_695) dX9_common_77 ?_
    refine lv_land hx hb dX9_common_80 ?_
    refine lv_l2i hx hb dX9_common_81 rfl ?_
    refine lv_istore (lv' := [(10, .int (Int64.toInt32 (v6 &&& 31))), (9, .int (Int64.toInt32 (v4 &&& 31))), (0, .ref (a 10)), (1, .int v1), (4, .long v4), (6, .long v6), (8, .int v8)]) hx hb dX9_common_82 hl (by decide) rfl (fun ls hl => ?_)
    refine lv_iload hx hb dX9_common_84 (lv_at hl 1 rfl) ?_
    refine lv_iload hx hb dX9_common_86 (lv_at hl 0 rfl) ?_
    refine lv_icmp_eq (tgt := 110) hx hb dX9_common_88 (by decide) (fun c_88 => ?_) (fun c_88 => ?_)
    · have hf := rf_it c_88 hf
      exact w_X9_common_tc_110 hC hD e_t_wordNames e_t_sounds e_t_alikes ih v1 v4 v6 v8 hf _ _ _ hP hS (lv_sub hl [2, 3, 4, 5, 6] rfl)
    have hf := rf_ie c_88 hf
    refine lv_iload_n hx hb dX9_common_91 rfl (lv_at hl 3 rfl) ?_
    refine lv_iconst (v := 1) hx hb dX9_common_92 (by decide) ?_
    refine lv_icmp_eq (tgt := 107) hx hb dX9_common_93 (by decide) (fun c_93 => ?_) (fun c_93 => ?_)
    · have hf := rf_it c_93 hf
      exact w_X9_common_tc_107 hC hD e_t_wordNames e_t_sounds e_t_alikes v8 hf _ _ _ hP hS (lv_sub hl [6] rfl)
    have hf := rf_ie c_93 hf
    refine lv_aload_n hx hb dX9_common_96 rfl (lv_at hl 2 rfl) ?_
    refine lv_iload hx hb dX9_common_97 (lv_at hl 1 rfl) ?_
    refine lv_iload hx hb dX9_common_99 (lv_at hl 0 rfl) ?_
    obtain ⟨z101, hz101, hf⟩ := rf_bd hf
    refine rf_vi (q0 := 10) (ci := 9) hC (c_X9_isAlike_tc l E a P I J A B t_alikes (Int64.toInt32 (v4 &&& 31)) (Int64.toInt32 (v6 &&& 31)) e_t_alikes hz101) kV_X9_isAlike tw_696 ⟨Nat.le_of_ble_eq_true rfl, Nat.le_of_ble_eq_true rfl⟩ rfl rfl rfl rfl rfl hP (rf_DX hD) hS rfl hl.1 (rest := []) rfl (Nat.le_of_ble_eq_true rfl) dX9_common_101 (fun H locs hP hS => ?_)
    refine lv_if_ne (tgt := 110) hx hb dX9_common_104 (by decide) (fun c_104 => ?_) (fun c_104 => ?_)
    · have hf := rf_ie c_104 hf
      exact w_X9_common_tc_110 hC hD e_t_wordNames e_t_sounds e_t_alikes ih v1 v4 v6 v8 hf _ _ _ hP hS (lv_sub hl [2, 3, 4, 5, 6] rfl)
    have hf := rf_it c_104 hf
    exact w_X9_common_tc_107 hC hD e_t_wordNames e_t_sounds e_t_alikes v8 hf _ _ _ hP hS (lv_sub hl [6] rfl)
set_option maxHeartbeats 4000000 in
set_option maxRecDepth 100000 in
theorem w_X9_common_tc_40 {l : Launch} {p : Program} {e : Env} {s : State} {m : MethodId} {args : Array Value} {below : List Frame} {meth : Method} {c : Code} {A0 : Nat → Prop} {E : rf_E} {a P : Nat → Nat} {I : Nat → Int32} {J : Nat → Int64} {A : Nat → Nat → Int32} {B : Nat → Nat → Int64} {t_wordNames : Nat → Int64} {t_sounds : Nat → Int64} {t_alikes : Nat → Int32} {z : Int32} (hC : rf_C p E s m args meth c cX9_common 11 RX9 (some .int) A0) (hD : va_D A0 (cX E a P I J A B)) (e_t_wordNames : B 0 = t_wordNames) (e_t_sounds : B 1 = t_sounds) (e_t_alikes : A 17 = t_alikes) :
    ∀ (v1 : Int32) (v4 : Int64) (s0 : Int64), f_X9_common_40 t_wordNames t_sounds t_alikes v1 v4 s0 = some z → ∀ (H : Heap) (locs : List Loc) (ls : Array Slot), va_P (rf_D E) vwCl (cX E a P I J A B) H → va_S A0 s.heap H locs → lv_has ls 11 [(0, .ref (a 10)), (1, .int v1), (4, .long v4)] → W p l e ({ frames := 2, cells := 0, slots := 0, locals := 43 }) s m args below meth c H locs 0 0 (rf_QI below args s E A0 z (cX E a P I J A B)) (F0 m 40 ls [.long s0]) := by
  have hx := hC.1
  have hb := hC.2.1
  intro v1 v4 s0 hf H locs ls hP hS hl
  unfold f_X9_common_40 at hf
  refine lv_lstore (lv' := [(6, .long s0), (0, .ref (a 10)), (1, .int v1), (4, .long v4)]) hx hb dX9_common_40 hl (by decide) rfl (fun ls hl => ?_)
  refine lv_iconst (v := 0) hx hb dX9_common_42 (by decide) ?_
  refine lv_istore (lv' := [(8, .int 0), (6, .long s0), (0, .ref (a 10)), (1, .int v1), (4, .long v4)]) hx hb dX9_common_43 hl (by decide) rfl (fun ls hl => ?_)
  exact w_X9_common_tc_45 hC hD e_t_wordNames e_t_sounds e_t_alikes rf_fu v1 v4 s0 0 hf _ _ _ hP hS (lv_sub hl [2, 3, 4, 1, 0] rfl)
set_option maxHeartbeats 4000000 in
set_option maxRecDepth 100000 in
theorem w_X9_common_tc_19 {l : Launch} {p : Program} {e : Env} {s : State} {m : MethodId} {args : Array Value} {below : List Frame} {meth : Method} {c : Code} {A0 : Nat → Prop} {E : rf_E} {a P : Nat → Nat} {I : Nat → Int32} {J : Nat → Int64} {A : Nat → Nat → Int32} {B : Nat → Nat → Int64} {t_wordNames : Nat → Int64} {t_sounds : Nat → Int64} {t_alikes : Nat → Int32} {z : Int32} (hC : rf_C p E s m args meth c cX9_common 11 RX9 (some .int) A0) (hD : va_D A0 (cX E a P I J A B)) (e_t_wordNames : B 0 = t_wordNames) (e_t_sounds : B 1 = t_sounds) (e_t_alikes : A 17 = t_alikes) :
    ∀ (v1 : Int32) (v3 : Int32) (s0 : Int64), f_X9_common_19 t_wordNames t_sounds t_alikes v1 v3 s0 = some z → ∀ (H : Heap) (locs : List Loc) (ls : Array Slot), va_P (rf_D E) vwCl (cX E a P I J A B) H → va_S A0 s.heap H locs → lv_has ls 11 [(0, .ref (a 10)), (1, .int v1), (3, .int v3)] → W p l e ({ frames := 2, cells := 0, slots := 0, locals := 43 }) s m args below meth c H locs 0 0 (rf_QI below args s E A0 z (cX E a P I J A B)) (F0 m 19 ls [.long s0]) := by
  have hx := hC.1
  have hb := hC.2.1
  intro v1 v3 s0 hf H locs ls hP hS hl
  unfold f_X9_common_19 at hf
  refine lv_lstore (lv' := [(4, .long s0), (0, .ref (a 10)), (1, .int v1), (3, .int v3)]) hx hb dX9_common_19 hl (by decide) rfl (fun ls hl => ?_)
  refine lv_iload_n hx hb dX9_common_21 rfl (lv_at hl 2 rfl) ?_
  refine lv_if_ne (tgt := 34) hx hb dX9_common_22 (by decide) (fun c_22 => ?_) (fun c_22 => ?_)
  · have hf := rf_ie c_22 hf
    refine lv_aload_n hx hb dX9_common_34 rfl (lv_at hl 1 rfl) ?_
    refine gX_tc_wordNames hC hP tw_84 dX9_common_35 ?_
    refine lv_iload_n hx hb dX9_common_38 rfl (lv_at hl 3 rfl) ?_
    obtain ⟨hi_39, hf⟩ := rf_gu hf
    refine lX_tc_wordNames hC hP hi_39 (f := t_wordNames) e_t_wordNames dX9_common_39 ?_
    exact w_X9_common_tc_40 hC hD e_t_wordNames e_t_sounds e_t_alikes v1 s0 (t_wordNames (Int32.toNatClampNeg v3)) hf _ _ _ hP hS (lv_sub hl [1, 2, 0] rfl)
  have hf := rf_it c_22 hf
  refine lv_aload_n hx hb dX9_common_25 rfl (lv_at hl 1 rfl) ?_
  refine gX_tc_sounds hC hP tw_85 dX9_common_26 ?_
  refine lv_iload_n hx hb dX9_common_29 rfl (lv_at hl 3 rfl) ?_
  obtain ⟨hi_30, hf⟩ := rf_gu hf
  refine lX_tc_sounds hC hP hi_30 (f := t_sounds) e_t_sounds dX9_common_30 ?_
  refine lv_goto (tgt := 40) hx hb dX9_common_31 (by decide) ?_
  exact w_X9_common_tc_40 hC hD e_t_wordNames e_t_sounds e_t_alikes v1 s0 (t_sounds (Int32.toNatClampNeg v3)) hf _ _ _ hP hS (lv_sub hl [1, 2, 0] rfl)
set_option maxHeartbeats 4000000 in
set_option maxRecDepth 100000 in
theorem c_X9_common_tc (l : Launch) (E : rf_E) (a P : Nat → Nat) (I : Nat → Int32) (J : Nat → Int64) (A : Nat → Nat → Int32) (B : Nat → Nat → Int64) (t_wordNames : Nat → Int64) (t_sounds : Nat → Int64) (t_alikes : Nat → Int32) (v1 : Int32) (v2 : Int32) (v3 : Int32) {z : Int32} (e_t_wordNames : B 0 = t_wordNames) (e_t_sounds : B 1 = t_sounds) (e_t_alikes : A 17 = t_alikes) (hf : f_X9_common t_wordNames t_sounds t_alikes v1 v2 v3 = some z) : rf_MI l yX9_common cX9_common 11 (some .int) ({ frames := 2, cells := 0, slots := 0, locals := 43 }) E [.ref (a 10), .int v1, .int v2, .int v3] (cX E a P I J A B) z (cX E a P I J A B) := by
  unfold f_X9_common at hf
  refine rf_ofI (by decide) (Nat.le_of_ble_eq_true rfl) ?_
  intro p e s m below meth c A0 ls hC hD hP hS hl
  have hC : rf_C p E s m _ meth c cX9_common 11 RX9 (some .int) A0 := hC
  have hx := hC.1
  have hb := hC.2.1
  have hl : lv_has ls 11 [(0, .ref (a 10)), (1, .int v1), (2, .int v2), (3, .int v3)] := hl
  refine lv_iload_n hx hb dX9_common_0 rfl (lv_at hl 1 rfl) ?_
  refine lv_if_ne (tgt := 13) hx hb dX9_common_1 (by decide) (fun c_1 => ?_) (fun c_1 => ?_)
  · have hf := rf_ie c_1 hf
    refine lv_aload_n hx hb dX9_common_13 rfl (lv_at hl 0 rfl) ?_
    refine gX_tc_wordNames hC hP tw_84 dX9_common_14 ?_
    refine lv_iload_n hx hb dX9_common_17 rfl (lv_at hl 2 rfl) ?_
    obtain ⟨hi_18, hf⟩ := rf_gu hf
    refine lX_tc_wordNames hC hP hi_18 (f := t_wordNames) e_t_wordNames dX9_common_18 ?_
    exact w_X9_common_tc_19 hC hD e_t_wordNames e_t_sounds e_t_alikes v1 v3 (t_wordNames (Int32.toNatClampNeg v2)) hf _ _ _ hP hS (lv_sub hl [0, 1, 3] rfl)
  have hf := rf_it c_1 hf
  refine lv_aload_n hx hb dX9_common_4 rfl (lv_at hl 0 rfl) ?_
  refine gX_tc_sounds hC hP tw_85 dX9_common_5 ?_
  refine lv_iload_n hx hb dX9_common_8 rfl (lv_at hl 2 rfl) ?_
  obtain ⟨hi_9, hf⟩ := rf_gu hf
  refine lX_tc_sounds hC hP hi_9 (f := t_sounds) e_t_sounds dX9_common_9 ?_
  refine lv_goto (tgt := 19) hx hb dX9_common_10 (by decide) ?_
  exact w_X9_common_tc_19 hC hD e_t_wordNames e_t_sounds e_t_alikes v1 v3 (t_sounds (Int32.toNatClampNeg v2)) hf _ _ _ hP hS (lv_sub hl [0, 1, 3] rfl)
set_option maxHeartbeats 4000000 in
set_option maxRecDepth 100000 in
theorem w_X10_like_22 {l : Launch} {p : Program} {e : Env} {s : State} {m : MethodId} {args : Array Value} {below : List Frame} {meth : Method} {c : Code} {A0 : Nat → Prop} {E : rf_E} {a P : Nat → Nat} {I : Nat → Int32} {J : Nat → Int64} {A : Nat → Nat → Int32} {B : Nat → Nat → Int64} {tc_wordCount : Int32} {tc_wordNames : Nat → Int64} {tc_sounds : Nat → Int64} {tc_alikes : Nat → Int32} {z : Int32 × Int32} (hC : rf_C p E s m args meth c cX10_like 3 RX10 (some .int) A0) (hD : va_D A0 (cX E a P I J A B)) (hp0 : P 0 = a 10) (e_tc_wordCount : I 23 = tc_wordCount) (e_tc_wordNames : B 0 = tc_wordNames) (e_tc_sounds : B 1 = tc_sounds) (e_tc_alikes : A 17 = tc_alikes) :
    ∀ (v1 : Int32) (v2 : Int32) (s1 : Int32) (x_lastTrouble : Int32), f_X10_like_22 tc_wordCount tc_wordNames tc_sounds tc_alikes v1 v2 s1 x_lastTrouble = some z → ∀ (H : Heap) (locs : List Loc) (ls : Array Slot), va_P (rf_D E) vwCl (cX E a P (rf_upL I [(3, x_lastTrouble)]) J A B) H → va_S A0 s.heap H locs → lv_has ls 3 [(0, .ref (a 0)), (1, .int v1), (2, .int v2)] → W p l e ({ frames := 3, cells := 0, slots := 0, locals := 73 }) s m args below meth c H locs 0 0 (rf_QI below args s E A0 z.1 (cX E a P (rf_upL I [(3, z.2)]) J A B)) (F0 m 22 ls [.int s1, .ref (a 0)]) := by
  have hx := hC.1
  have hb := hC.2.1
  intro v1 v2 s1 x_lastTrouble hf H locs ls hP hS hl
  unfold f_X10_like_22 at hf
  refine lv_iconst (v := 1) hx hb dX10_like_22 (by decide) ?_
  obtain ⟨z23, hz23, hf⟩ := rf_bd hf
  refine rf_vi (q0 := 0) (ci := 10) hC (c_X10_refused l E a P (rf_upL I [(3, x_lastTrouble)]) J A B x_lastTrouble s1 1 rfl hz23) kV_X10_refused tw_455 ⟨Nat.le_of_ble_eq_true rfl, Nat.le_of_ble_eq_true rfl⟩ rfl rfl rfl rfl rfl hP (rf_DX hD) hS rfl hl.1 (rest := []) rfl (Nat.le_of_ble_eq_true rfl) dX10_like_23 (fun H locs hP hS => ?_)
  rw [rf_cat (f := I) (l := [(3, x_lastTrouble)]) (lc := [(3, z23.2)]) (l' := [(3, z23.2)]) rfl] at hP
  refine lv_if_eq (tgt := 31) hx hb dX10_like_26 (by decide) (fun c_26 => ?_) (fun c_26 => ?_)
  · have hf := rf_it c_26 hf
    refine lv_aload_n hx hb dX10_like_31 rfl (lv_at hl 0 rfl) ?_
    refine gX_x_tale hC hP tw_401 (v := a 10) hp0 dX10_like_32 ?_
    refine lv_iconst (v := 0) hx hb dX10_like_35 (by decide) ?_
    refine lv_iload_n hx hb dX10_like_36 rfl (lv_at hl 1 rfl) ?_
    refine lv_iload_n hx hb dX10_like_37 rfl (lv_at hl 2 rfl) ?_
    obtain ⟨z38, hz38, hf⟩ := rf_bd hf
    refine rf_vi (q0 := 10) (ci := 9) hC (c_X9_common_tc l E a P (rf_upL I [(3, z23.2)]) J A B tc_wordNames tc_sounds tc_alikes 0 v1 v2 e_tc_wordNames e_tc_sounds e_tc_alikes hz38) kV_X9_common tw_741 ⟨Nat.le_of_ble_eq_true rfl, Nat.le_of_ble_eq_true rfl⟩ rfl rfl rfl rfl rfl hP (rf_DX hD) hS rfl hl.1 (rest := []) rfl (Nat.le_of_ble_eq_true rfl) dX10_like_38 (fun H locs hP hS => ?_)
    obtain rfl := Option.some.inj hf
    exact rf_reti hC hP hS rfl rfl dX10_like_41
  have hf := rf_ie c_26 hf
  refine lv_iconst (v := (-1)) hx hb dX10_like_29 (by decide) ?_
  obtain rfl := Option.some.inj hf
  exact rf_reti hC hP hS rfl rfl dX10_like_30
set_option maxHeartbeats 4000000 in
set_option maxRecDepth 100000 in
theorem w_X10_like_21 {l : Launch} {p : Program} {e : Env} {s : State} {m : MethodId} {args : Array Value} {below : List Frame} {meth : Method} {c : Code} {A0 : Nat → Prop} {E : rf_E} {a P : Nat → Nat} {I : Nat → Int32} {J : Nat → Int64} {A : Nat → Nat → Int32} {B : Nat → Nat → Int64} {tc_wordCount : Int32} {tc_wordNames : Nat → Int64} {tc_sounds : Nat → Int64} {tc_alikes : Nat → Int32} {z : Int32 × Int32} (hC : rf_C p E s m args meth c cX10_like 3 RX10 (some .int) A0) (hD : va_D A0 (cX E a P I J A B)) (hp0 : P 0 = a 10) (e_tc_wordCount : I 23 = tc_wordCount) (e_tc_wordNames : B 0 = tc_wordNames) (e_tc_sounds : B 1 = tc_sounds) (e_tc_alikes : A 17 = tc_alikes) :
    ∀ (v1 : Int32) (v2 : Int32) (x_lastTrouble : Int32), f_X10_like_21 tc_wordCount tc_wordNames tc_sounds tc_alikes v1 v2 x_lastTrouble = some z → ∀ (H : Heap) (locs : List Loc) (ls : Array Slot), va_P (rf_D E) vwCl (cX E a P (rf_upL I [(3, x_lastTrouble)]) J A B) H → va_S A0 s.heap H locs → lv_has ls 3 [(0, .ref (a 0)), (1, .int v1), (2, .int v2)] → W p l e ({ frames := 3, cells := 0, slots := 0, locals := 73 }) s m args below meth c H locs 0 0 (rf_QI below args s E A0 z.1 (cX E a P (rf_upL I [(3, z.2)]) J A B)) (F0 m 21 ls [.ref (a 0)]) := by
  have hx := hC.1
  have hb := hC.2.1
  intro v1 v2 x_lastTrouble hf H locs ls hP hS hl
  unfold f_X10_like_21 at hf
  refine lv_iconst (v := 0) hx hb dX10_like_21 (by decide) ?_
  exact w_X10_like_22 hC hD hp0 e_tc_wordCount e_tc_wordNames e_tc_sounds e_tc_alikes v1 v2 0 x_lastTrouble hf _ _ _ hP hS (lv_sub hl [0, 1, 2] rfl)
set_option maxHeartbeats 4000000 in
set_option maxRecDepth 100000 in
theorem c_X10_like (l : Launch) (E : rf_E) (a P : Nat → Nat) (I : Nat → Int32) (J : Nat → Int64) (A : Nat → Nat → Int32) (B : Nat → Nat → Int64) (tc_wordCount : Int32) (tc_wordNames : Nat → Int64) (tc_sounds : Nat → Int64) (tc_alikes : Nat → Int32) (x_lastTrouble : Int32) (v1 : Int32) (v2 : Int32) {z : Int32 × Int32} (hp0 : P 0 = a 10) (e_tc_wordCount : I 23 = tc_wordCount) (e_tc_wordNames : B 0 = tc_wordNames) (e_tc_sounds : B 1 = tc_sounds) (e_tc_alikes : A 17 = tc_alikes) (e_x_lastTrouble : I 3 = x_lastTrouble) (hf : f_X10_like tc_wordCount tc_wordNames tc_sounds tc_alikes x_lastTrouble v1 v2 = some z) : rf_MI l yX10_like cX10_like 3 (some .int) ({ frames := 3, cells := 0, slots := 0, locals := 73 }) E [.ref (a 0), .int v1, .int v2] (cX E a P I J A B) z.1 (cX E a P (rf_upL I [(3, z.2)]) J A B) := by
  unfold f_X10_like at hf
  refine rf_ofI (by decide) (Nat.le_of_ble_eq_true rfl) ?_
  intro p e s m below meth c A0 ls hC hD hP hS hl
  have hC : rf_C p E s m _ meth c cX10_like 3 RX10 (some .int) A0 := hC
  have hx := hC.1
  have hb := hC.2.1
  have hl : lv_has ls 3 [(0, .ref (a 0)), (1, .int v1), (2, .int v2)] := hl
  have hP : va_P (rf_D E) vwCl (cX E a P (rf_upL I [(3, x_lastTrouble)]) J A B) s.heap := by
    rw [rf_self (f := I) [(3, x_lastTrouble)] (rf_fa1 e_x_lastTrouble rf_fa0)]
    exact hP
  refine lv_aload_n hx hb dX10_like_0 rfl (lv_at hl 0 rfl) ?_
  refine lv_aload_n hx hb dX10_like_1 rfl (lv_at hl 0 rfl) ?_
  refine lv_iload_n hx hb dX10_like_2 rfl (lv_at hl 1 rfl) ?_
  obtain ⟨z3, hz3, hf⟩ := rf_bd hf
  refine rf_vi (q0 := 0) (ci := 10) hC (c_X10_isWord l E a P (rf_upL I [(3, x_lastTrouble)]) J A B tc_wordCount v1 hp0 e_tc_wordCount hz3) kV_X10_isWord tw_721 ⟨Nat.le_of_ble_eq_true rfl, Nat.le_of_ble_eq_true rfl⟩ rfl rfl rfl rfl rfl hP (rf_DX hD) hS rfl hl.1 (rest := [.ref (a 0)]) rfl (Nat.le_of_ble_eq_true rfl) dX10_like_3 (fun H locs hP hS => ?_)
  refine lv_if_eq (tgt := 21) hx hb dX10_like_6 (by decide) (fun c_6 => ?_) (fun c_6 => ?_)
  · have hf := rf_it c_6 hf
    exact w_X10_like_21 hC hD hp0 e_tc_wordCount e_tc_wordNames e_tc_sounds e_tc_alikes v1 v2 x_lastTrouble hf _ _ _ hP hS (lv_sub hl [0, 1, 2] rfl)
  have hf := rf_ie c_6 hf
  refine lv_aload_n hx hb dX10_like_9 rfl (lv_at hl 0 rfl) ?_
  refine lv_iload_n hx hb dX10_like_10 rfl (lv_at hl 2 rfl) ?_
  obtain ⟨z11, hz11, hf⟩ := rf_bd hf
  refine rf_vi (q0 := 0) (ci := 10) hC (c_X10_isWord l E a P (rf_upL I [(3, x_lastTrouble)]) J A B tc_wordCount v2 hp0 e_tc_wordCount hz11) kV_X10_isWord tw_721 ⟨Nat.le_of_ble_eq_true rfl, Nat.le_of_ble_eq_true rfl⟩ rfl rfl rfl rfl rfl hP (rf_DX hD) hS rfl hl.1 (rest := [.ref (a 0)]) rfl (Nat.le_of_ble_eq_true rfl) dX10_like_11 (fun H locs hP hS => ?_)
  refine lv_if_eq (tgt := 21) hx hb dX10_like_14 (by decide) (fun c_14 => ?_) (fun c_14 => ?_)
  · have hf := rf_it c_14 hf
    exact w_X10_like_21 hC hD hp0 e_tc_wordCount e_tc_wordNames e_tc_sounds e_tc_alikes v1 v2 x_lastTrouble hf _ _ _ hP hS (lv_sub hl [0, 1, 2] rfl)
  have hf := rf_ie c_14 hf
  refine lv_iconst (v := 1) hx hb dX10_like_17 (by decide) ?_
  refine lv_goto (tgt := 22) hx hb dX10_like_18 (by decide) ?_
  exact w_X10_like_22 hC hD hp0 e_tc_wordCount e_tc_wordNames e_tc_sounds e_tc_alikes v1 v2 1 x_lastTrouble hf _ _ _ hP hS (lv_sub hl [0, 1, 2] rfl)
set_option maxHeartbeats 4000000 in
set_option maxRecDepth 100000 in
theorem w_X10_eye_22 {l : Launch} {p : Program} {e : Env} {s : State} {m : MethodId} {args : Array Value} {below : List Frame} {meth : Method} {c : Code} {A0 : Nat → Prop} {E : rf_E} {a P : Nat → Nat} {I : Nat → Int32} {J : Nat → Int64} {A : Nat → Nat → Int32} {B : Nat → Nat → Int64} {tc_wordCount : Int32} {tc_wordNames : Nat → Int64} {tc_sounds : Nat → Int64} {tc_alikes : Nat → Int32} {z : Int32 × Int32} (hC : rf_C p E s m args meth c cX10_eye 3 RX10 (some .int) A0) (hD : va_D A0 (cX E a P I J A B)) (hp0 : P 0 = a 10) (e_tc_wordCount : I 23 = tc_wordCount) (e_tc_wordNames : B 0 = tc_wordNames) (e_tc_sounds : B 1 = tc_sounds) (e_tc_alikes : A 17 = tc_alikes) :
    ∀ (v1 : Int32) (v2 : Int32) (s1 : Int32) (x_lastTrouble : Int32), f_X10_eye_22 tc_wordCount tc_wordNames tc_sounds tc_alikes v1 v2 s1 x_lastTrouble = some z → ∀ (H : Heap) (locs : List Loc) (ls : Array Slot), va_P (rf_D E) vwCl (cX E a P (rf_upL I [(3, x_lastTrouble)]) J A B) H → va_S A0 s.heap H locs → lv_has ls 3 [(0, .ref (a 0)), (1, .int v1), (2, .int v2)] → W p l e ({ frames := 3, cells := 0, slots := 0, locals := 73 }) s m args below meth c H locs 0 0 (rf_QI below args s E A0 z.1 (cX E a P (rf_upL I [(3, z.2)]) J A B)) (F0 m 22 ls [.int s1, .ref (a 0)]) := by
  have hx := hC.1
  have hb := hC.2.1
  intro v1 v2 s1 x_lastTrouble hf H locs ls hP hS hl
  unfold f_X10_eye_22 at hf
  refine lv_iconst (v := 1) hx hb dX10_eye_22 (by decide) ?_
  obtain ⟨z23, hz23, hf⟩ := rf_bd hf
  refine rf_vi (q0 := 0) (ci := 10) hC (c_X10_refused l E a P (rf_upL I [(3, x_lastTrouble)]) J A B x_lastTrouble s1 1 rfl hz23) kV_X10_refused tw_455 ⟨Nat.le_of_ble_eq_true rfl, Nat.le_of_ble_eq_true rfl⟩ rfl rfl rfl rfl rfl hP (rf_DX hD) hS rfl hl.1 (rest := []) rfl (Nat.le_of_ble_eq_true rfl) dX10_eye_23 (fun H locs hP hS => ?_)
  rw [rf_cat (f := I) (l := [(3, x_lastTrouble)]) (lc := [(3, z23.2)]) (l' := [(3, z23.2)]) rfl] at hP
  refine lv_if_eq (tgt := 31) hx hb dX10_eye_26 (by decide) (fun c_26 => ?_) (fun c_26 => ?_)
  · have hf := rf_it c_26 hf
    refine lv_aload_n hx hb dX10_eye_31 rfl (lv_at hl 0 rfl) ?_
    refine gX_x_tale hC hP tw_401 (v := a 10) hp0 dX10_eye_32 ?_
    refine lv_iconst (v := 1) hx hb dX10_eye_35 (by decide) ?_
    refine lv_iload_n hx hb dX10_eye_36 rfl (lv_at hl 1 rfl) ?_
    refine lv_iload_n hx hb dX10_eye_37 rfl (lv_at hl 2 rfl) ?_
    obtain ⟨z38, hz38, hf⟩ := rf_bd hf
    refine rf_vi (q0 := 10) (ci := 9) hC (c_X9_common_tc l E a P (rf_upL I [(3, z23.2)]) J A B tc_wordNames tc_sounds tc_alikes 1 v1 v2 e_tc_wordNames e_tc_sounds e_tc_alikes hz38) kV_X9_common tw_741 ⟨Nat.le_of_ble_eq_true rfl, Nat.le_of_ble_eq_true rfl⟩ rfl rfl rfl rfl rfl hP (rf_DX hD) hS rfl hl.1 (rest := []) rfl (Nat.le_of_ble_eq_true rfl) dX10_eye_38 (fun H locs hP hS => ?_)
    obtain rfl := Option.some.inj hf
    exact rf_reti hC hP hS rfl rfl dX10_eye_41
  have hf := rf_ie c_26 hf
  refine lv_iconst (v := (-1)) hx hb dX10_eye_29 (by decide) ?_
  obtain rfl := Option.some.inj hf
  exact rf_reti hC hP hS rfl rfl dX10_eye_30
set_option maxHeartbeats 4000000 in
set_option maxRecDepth 100000 in
theorem w_X10_eye_21 {l : Launch} {p : Program} {e : Env} {s : State} {m : MethodId} {args : Array Value} {below : List Frame} {meth : Method} {c : Code} {A0 : Nat → Prop} {E : rf_E} {a P : Nat → Nat} {I : Nat → Int32} {J : Nat → Int64} {A : Nat → Nat → Int32} {B : Nat → Nat → Int64} {tc_wordCount : Int32} {tc_wordNames : Nat → Int64} {tc_sounds : Nat → Int64} {tc_alikes : Nat → Int32} {z : Int32 × Int32} (hC : rf_C p E s m args meth c cX10_eye 3 RX10 (some .int) A0) (hD : va_D A0 (cX E a P I J A B)) (hp0 : P 0 = a 10) (e_tc_wordCount : I 23 = tc_wordCount) (e_tc_wordNames : B 0 = tc_wordNames) (e_tc_sounds : B 1 = tc_sounds) (e_tc_alikes : A 17 = tc_alikes) :
    ∀ (v1 : Int32) (v2 : Int32) (x_lastTrouble : Int32), f_X10_eye_21 tc_wordCount tc_wordNames tc_sounds tc_alikes v1 v2 x_lastTrouble = some z → ∀ (H : Heap) (locs : List Loc) (ls : Array Slot), va_P (rf_D E) vwCl (cX E a P (rf_upL I [(3, x_lastTrouble)]) J A B) H → va_S A0 s.heap H locs → lv_has ls 3 [(0, .ref (a 0)), (1, .int v1), (2, .int v2)] → W p l e ({ frames := 3, cells := 0, slots := 0, locals := 73 }) s m args below meth c H locs 0 0 (rf_QI below args s E A0 z.1 (cX E a P (rf_upL I [(3, z.2)]) J A B)) (F0 m 21 ls [.ref (a 0)]) := by
  have hx := hC.1
  have hb := hC.2.1
  intro v1 v2 x_lastTrouble hf H locs ls hP hS hl
  unfold f_X10_eye_21 at hf
  refine lv_iconst (v := 0) hx hb dX10_eye_21 (by decide) ?_
  exact w_X10_eye_22 hC hD hp0 e_tc_wordCount e_tc_wordNames e_tc_sounds e_tc_alikes v1 v2 0 x_lastTrouble hf _ _ _ hP hS (lv_sub hl [0, 1, 2] rfl)
set_option maxHeartbeats 4000000 in
set_option maxRecDepth 100000 in
theorem c_X10_eye (l : Launch) (E : rf_E) (a P : Nat → Nat) (I : Nat → Int32) (J : Nat → Int64) (A : Nat → Nat → Int32) (B : Nat → Nat → Int64) (tc_wordCount : Int32) (tc_wordNames : Nat → Int64) (tc_sounds : Nat → Int64) (tc_alikes : Nat → Int32) (x_lastTrouble : Int32) (v1 : Int32) (v2 : Int32) {z : Int32 × Int32} (hp0 : P 0 = a 10) (e_tc_wordCount : I 23 = tc_wordCount) (e_tc_wordNames : B 0 = tc_wordNames) (e_tc_sounds : B 1 = tc_sounds) (e_tc_alikes : A 17 = tc_alikes) (e_x_lastTrouble : I 3 = x_lastTrouble) (hf : f_X10_eye tc_wordCount tc_wordNames tc_sounds tc_alikes x_lastTrouble v1 v2 = some z) : rf_MI l yX10_eye cX10_eye 3 (some .int) ({ frames := 3, cells := 0, slots := 0, locals := 73 }) E [.ref (a 0), .int v1, .int v2] (cX E a P I J A B) z.1 (cX E a P (rf_upL I [(3, z.2)]) J A B) := by
  unfold f_X10_eye at hf
  refine rf_ofI (by decide) (Nat.le_of_ble_eq_true rfl) ?_
  intro p e s m below meth c A0 ls hC hD hP hS hl
  have hC : rf_C p E s m _ meth c cX10_eye 3 RX10 (some .int) A0 := hC
  have hx := hC.1
  have hb := hC.2.1
  have hl : lv_has ls 3 [(0, .ref (a 0)), (1, .int v1), (2, .int v2)] := hl
  have hP : va_P (rf_D E) vwCl (cX E a P (rf_upL I [(3, x_lastTrouble)]) J A B) s.heap := by
    rw [rf_self (f := I) [(3, x_lastTrouble)] (rf_fa1 e_x_lastTrouble rf_fa0)]
    exact hP
  refine lv_aload_n hx hb dX10_eye_0 rfl (lv_at hl 0 rfl) ?_
  refine lv_aload_n hx hb dX10_eye_1 rfl (lv_at hl 0 rfl) ?_
  refine lv_iload_n hx hb dX10_eye_2 rfl (lv_at hl 1 rfl) ?_
  obtain ⟨z3, hz3, hf⟩ := rf_bd hf
  refine rf_vi (q0 := 0) (ci := 10) hC (c_X10_isWord l E a P (rf_upL I [(3, x_lastTrouble)]) J A B tc_wordCount v1 hp0 e_tc_wordCount hz3) kV_X10_isWord tw_721 ⟨Nat.le_of_ble_eq_true rfl, Nat.le_of_ble_eq_true rfl⟩ rfl rfl rfl rfl rfl hP (rf_DX hD) hS rfl hl.1 (rest := [.ref (a 0)]) rfl (Nat.le_of_ble_eq_true rfl) dX10_eye_3 (fun H locs hP hS => ?_)
  refine lv_if_eq (tgt := 21) hx hb dX10_eye_6 (by decide) (fun c_6 => ?_) (fun c_6 => ?_)
  · have hf := rf_it c_6 hf
    exact w_X10_eye_21 hC hD hp0 e_tc_wordCount e_tc_wordNames e_tc_sounds e_tc_alikes v1 v2 x_lastTrouble hf _ _ _ hP hS (lv_sub hl [0, 1, 2] rfl)
  have hf := rf_ie c_6 hf
  refine lv_aload_n hx hb dX10_eye_9 rfl (lv_at hl 0 rfl) ?_
  refine lv_iload_n hx hb dX10_eye_10 rfl (lv_at hl 2 rfl) ?_
  obtain ⟨z11, hz11, hf⟩ := rf_bd hf
  refine rf_vi (q0 := 0) (ci := 10) hC (c_X10_isWord l E a P (rf_upL I [(3, x_lastTrouble)]) J A B tc_wordCount v2 hp0 e_tc_wordCount hz11) kV_X10_isWord tw_721 ⟨Nat.le_of_ble_eq_true rfl, Nat.le_of_ble_eq_true rfl⟩ rfl rfl rfl rfl rfl hP (rf_DX hD) hS rfl hl.1 (rest := [.ref (a 0)]) rfl (Nat.le_of_ble_eq_true rfl) dX10_eye_11 (fun H locs hP hS => ?_)
  refine lv_if_eq (tgt := 21) hx hb dX10_eye_14 (by decide) (fun c_14 => ?_) (fun c_14 => ?_)
  · have hf := rf_it c_14 hf
    exact w_X10_eye_21 hC hD hp0 e_tc_wordCount e_tc_wordNames e_tc_sounds e_tc_alikes v1 v2 x_lastTrouble hf _ _ _ hP hS (lv_sub hl [0, 1, 2] rfl)
  have hf := rf_ie c_14 hf
  refine lv_iconst (v := 1) hx hb dX10_eye_17 (by decide) ?_
  refine lv_goto (tgt := 22) hx hb dX10_eye_18 (by decide) ?_
  exact w_X10_eye_22 hC hD hp0 e_tc_wordCount e_tc_wordNames e_tc_sounds e_tc_alikes v1 v2 1 x_lastTrouble hf _ _ _ hP hS (lv_sub hl [0, 1, 2] rfl)
set_option maxHeartbeats 4000000 in
set_option maxRecDepth 100000 in
theorem w_X10_isPerson_19 {l : Launch} {p : Program} {e : Env} {s : State} {m : MethodId} {args : Array Value} {below : List Frame} {meth : Method} {c : Code} {A0 : Nat → Prop} {E : rf_E} {a P : Nat → Nat} {I : Nat → Int32} {J : Nat → Int64} {A : Nat → Nat → Int32} {B : Nat → Nat → Int64} {tc_personCount : Int32} {z : Int32} (hC : rf_C p E s m args meth c cX10_isPerson 2 RX10 (some .boolean) A0) (hD : va_D A0 (cX E a P I J A B)) (hp0 : P 0 = a 10) (e_tc_personCount : I 24 = tc_personCount) :
    ∀ (_ : Unit), f_X10_isPerson_19 tc_personCount = some z → ∀ (H : Heap) (locs : List Loc) (ls : Array Slot), va_P (rf_D E) vwCl (cX E a P I J A B) H → va_S A0 s.heap H locs → lv_has ls 2 [] → W p l e ({ frames := 0, cells := 0, slots := 0, locals := 0 }) s m args below meth c H locs 0 0 (rf_QI below args s E A0 z (cX E a P I J A B)) (F0 m 19 ls []) := by
  have hx := hC.1
  have hb := hC.2.1
  intro _ hf H locs ls hP hS hl
  unfold f_X10_isPerson_19 at hf
  refine lv_iconst (v := 0) hx hb dX10_isPerson_19 (by decide) ?_
  obtain rfl := Option.some.inj hf
  exact rf_retz hC hP hS (by decide) rfl rfl dX10_isPerson_20
set_option maxHeartbeats 4000000 in
set_option maxRecDepth 100000 in
theorem c_X10_isPerson (l : Launch) (E : rf_E) (a P : Nat → Nat) (I : Nat → Int32) (J : Nat → Int64) (A : Nat → Nat → Int32) (B : Nat → Nat → Int64) (tc_personCount : Int32) (v1 : Int32) {z : Int32} (hp0 : P 0 = a 10) (e_tc_personCount : I 24 = tc_personCount) (hf : f_X10_isPerson tc_personCount v1 = some z) : rf_MI l yX10_isPerson cX10_isPerson 2 (some .boolean) ({ frames := 0, cells := 0, slots := 0, locals := 0 }) E [.ref (a 0), .int v1] (cX E a P I J A B) z (cX E a P I J A B) := by
  unfold f_X10_isPerson at hf
  refine rf_ofI (by decide) (Nat.le_of_ble_eq_true rfl) ?_
  intro p e s m below meth c A0 ls hC hD hP hS hl
  have hC : rf_C p E s m _ meth c cX10_isPerson 2 RX10 (some .boolean) A0 := hC
  have hx := hC.1
  have hb := hC.2.1
  have hl : lv_has ls 2 [(0, .ref (a 0)), (1, .int v1)] := hl
  refine lv_iload_n hx hb dX10_isPerson_0 rfl (lv_at hl 1 rfl) ?_
  refine lv_if_lt (tgt := 19) hx hb dX10_isPerson_1 (by decide) (fun c_1 => ?_) (fun c_1 => ?_)
  · have hf := rf_it c_1 hf
    exact w_X10_isPerson_19 hC hD hp0 e_tc_personCount () hf _ _ _ hP hS (lv_sub hl [] rfl)
  have hf := rf_ie c_1 hf
  refine lv_iload_n hx hb dX10_isPerson_4 rfl (lv_at hl 1 rfl) ?_
  refine lv_aload_n hx hb dX10_isPerson_5 rfl (lv_at hl 0 rfl) ?_
  refine gX_x_tale hC hP tw_401 (v := a 10) hp0 dX10_isPerson_6 ?_
  refine gX_tc_personCount hC hP tw_132 (v := tc_personCount) e_tc_personCount dX10_isPerson_9 ?_
  refine lv_icmp_ge (tgt := 19) hx hb dX10_isPerson_12 (by decide) (fun c_12 => ?_) (fun c_12 => ?_)
  · have hf := rf_it c_12 hf
    exact w_X10_isPerson_19 hC hD hp0 e_tc_personCount () hf _ _ _ hP hS (lv_sub hl [] rfl)
  have hf := rf_ie c_12 hf
  refine lv_iconst (v := 1) hx hb dX10_isPerson_15 (by decide) ?_
  refine lv_goto (tgt := 20) hx hb dX10_isPerson_16 (by decide) ?_
  obtain rfl := Option.some.inj hf
  exact rf_retz hC hP hS (by decide) rfl rfl dX10_isPerson_20
set_option maxHeartbeats 4000000 in
set_option maxRecDepth 100000 in
theorem c_X2_bankOf (l : Launch) (E : rf_E) (a P : Nat → Nat) (I : Nat → Int32) (J : Nat → Int64) (A : Nat → Nat → Int32) (B : Nat → Nat → Int64) (now_far : Int32) (v1 : Int32) {z : Int32} (e_now_far : I 7 = now_far) (hf : f_X2_bankOf now_far v1 = some z) : rf_MI l yX2_bankOf cX2_bankOf 2 (some .int) ({ frames := 1, cells := 0, slots := 0, locals := 21 }) E [.ref (a 1), .int v1] (cX E a P I J A B) z (cX E a P I J A B) := by
  unfold f_X2_bankOf at hf
  refine rf_ofI (by decide) (Nat.le_of_ble_eq_true rfl) ?_
  intro p e s m below meth c A0 ls hC hD hP hS hl
  have hC : rf_C p E s m _ meth c cX2_bankOf 2 RX2 (some .int) A0 := hC
  have hx := hC.1
  have hb := hC.2.1
  have hl : lv_has ls 2 [(0, .ref (a 1)), (1, .int v1)] := hl
  refine lv_aload_n hx hb dX2_bankOf_0 rfl (lv_at hl 0 rfl) ?_
  refine gX_now_far hC hP tw_47 (v := now_far) e_now_far dX2_bankOf_1 ?_
  refine lv_iload_n hx hb dX2_bankOf_4 rfl (lv_at hl 1 rfl) ?_
  obtain ⟨z5, hz5, hf⟩ := rf_bd hf
  refine rf_sn0 hC (c_X10_holds l E now_far v1 hz5) kS_X10_holds nw_732 ⟨Nat.le_of_ble_eq_true rfl, Nat.le_of_ble_eq_true rfl⟩ rfl rfl hP hS rfl hl.1 (rest := []) rfl (Nat.le_of_ble_eq_true rfl) dX2_bankOf_5 (fun H locs hP hS => ?_)
  refine lv_if_eq (tgt := 15) hx hb dX2_bankOf_8 (by decide) (fun c_8 => ?_) (fun c_8 => ?_)
  · have hf := rf_it c_8 hf
    refine lv_iconst (v := 0) hx hb dX2_bankOf_15 (by decide) ?_
    obtain rfl := Option.some.inj hf
    exact rf_reti hC hP hS rfl rfl dX2_bankOf_16
  have hf := rf_ie c_8 hf
  refine lv_iconst (v := 1) hx hb dX2_bankOf_11 (by decide) ?_
  refine lv_goto (tgt := 16) hx hb dX2_bankOf_12 (by decide) ?_
  obtain rfl := Option.some.inj hf
  exact rf_reti hC hP hS rfl rfl dX2_bankOf_16
set_option maxHeartbeats 4000000 in
set_option maxRecDepth 100000 in
theorem w_X10_person_23 {l : Launch} {p : Program} {e : Env} {s : State} {m : MethodId} {args : Array Value} {below : List Frame} {meth : Method} {c : Code} {A0 : Nat → Prop} {E : rf_E} {a P : Nat → Nat} {I : Nat → Int32} {J : Nat → Int64} {A : Nat → Nat → Int32} {B : Nat → Nat → Int64} {now_far : Int32} {tc_personCount : Int32} {now_words : Nat → Int32} {now_wet : Nat → Int32} {tc_kinds : Nat → Int32} {tc_errands : Nat → Int32} {z : Int32 × Int32} (hC : rf_C p E s m args meth c cX10_person 3 RX10 (some .int) A0) (hD : va_D A0 (cX E a P I J A B)) (hp0 : P 0 = a 10) (e_now_far : I 7 = now_far) (e_tc_personCount : I 24 = tc_personCount) (e_now_words : A 1 = now_words) (e_now_wet : A 2 = now_wet) (e_tc_kinds : A 14 = tc_kinds) (e_tc_errands : A 16 = tc_errands) :
    ∀ (v1 : Int32) (v2 : Int32) (s1 : Int32) (x_lastTrouble : Int32), f_X10_person_23 now_far tc_personCount now_words now_wet tc_kinds tc_errands v1 v2 s1 x_lastTrouble = some z → ∀ (H : Heap) (locs : List Loc) (ls : Array Slot), va_P (rf_D E) vwCl (cX E a P (rf_upL I [(3, x_lastTrouble)]) J A B) H → va_S A0 s.heap H locs → lv_has ls 3 [(0, .ref (a 0)), (1, .int v1), (2, .int v2)] → W p l e ({ frames := 2, cells := 0, slots := 0, locals := 42 }) s m args below meth c H locs 0 0 (rf_QI below args s E A0 z.1 (cX E a P (rf_upL I [(3, z.2)]) J A B)) (F0 m 23 ls [.int s1, .ref (a 0)]) := by
  have hx := hC.1
  have hb := hC.2.1
  intro v1 v2 s1 x_lastTrouble hf H locs ls hP hS hl
  unfold f_X10_person_23 at hf
  refine lv_iconst (v := 1) hx hb dX10_person_23 (by decide) ?_
  obtain ⟨z24, hz24, hf⟩ := rf_bd hf
  refine rf_vi (q0 := 0) (ci := 10) hC (c_X10_refused l E a P (rf_upL I [(3, x_lastTrouble)]) J A B x_lastTrouble s1 1 rfl hz24) kV_X10_refused tw_455 ⟨Nat.le_of_ble_eq_true rfl, Nat.le_of_ble_eq_true rfl⟩ rfl rfl rfl rfl rfl hP (rf_DX hD) hS rfl hl.1 (rest := []) rfl (Nat.le_of_ble_eq_true rfl) dX10_person_24 (fun H locs hP hS => ?_)
  rw [rf_cat (f := I) (l := [(3, x_lastTrouble)]) (lc := [(3, z24.2)]) (l' := [(3, z24.2)]) rfl] at hP
  refine lv_if_eq (tgt := 32) hx hb dX10_person_27 (by decide) (fun c_27 => ?_) (fun c_27 => ?_)
  · have hf := rf_it c_27 hf
    refine lv_iload_n hx hb dX10_person_32 rfl (lv_at hl 2 rfl) ?_
    by_cases c_33_0 : v2 = 0
    · have hf := rf_it c_33_0 hf
      refine lv_tableIn (off := 31) (tgt := 64) hx hb dX10_person_33 (by rw [c_33_0]; decide) (by rw [c_33_0]; decide) (by rw [c_33_0]; decide) (by decide) ?_
      refine lv_aload_n hx hb dX10_person_64 rfl (lv_at hl 0 rfl) ?_
      refine gX_x_tale hC hP tw_401 (v := a 10) hp0 dX10_person_65 ?_
      refine gX_tc_kinds hC hP tw_95 dX10_person_68 ?_
      refine lv_iload_n hx hb dX10_person_71 rfl (lv_at hl 1 rfl) ?_
      obtain ⟨hi_72, hf⟩ := rf_gu hf
      refine lX_tc_kinds hC hP hi_72 (f := tc_kinds) e_tc_kinds dX10_person_72 ?_
      obtain rfl := Option.some.inj hf
      exact rf_reti hC hP hS rfl rfl dX10_person_73
    have hf := rf_ie c_33_0 hf
    by_cases c_33_1 : v2 = 1
    · have hf := rf_it c_33_1 hf
      refine lv_tableIn (off := 41) (tgt := 74) hx hb dX10_person_33 (by rw [c_33_1]; decide) (by rw [c_33_1]; decide) (by rw [c_33_1]; decide) (by decide) ?_
      refine lv_aload_n hx hb dX10_person_74 rfl (lv_at hl 0 rfl) ?_
      refine gX_x_now hC hP tw_392 dX10_person_75 ?_
      refine lv_iload_n hx hb dX10_person_78 rfl (lv_at hl 1 rfl) ?_
      obtain ⟨z79, hz79, hf⟩ := rf_bd hf
      refine rf_vi (q0 := 1) (ci := 2) hC (c_X2_bankOf l E a P (rf_upL I [(3, z24.2)]) J A B now_far v1 e_now_far hz79) kV_X2_bankOf tw_754 ⟨Nat.le_of_ble_eq_true rfl, Nat.le_of_ble_eq_true rfl⟩ rfl rfl rfl rfl rfl hP (rf_DX hD) hS rfl hl.1 (rest := []) rfl (Nat.le_of_ble_eq_true rfl) dX10_person_79 (fun H locs hP hS => ?_)
      obtain rfl := Option.some.inj hf
      exact rf_reti hC hP hS rfl rfl dX10_person_82
    have hf := rf_ie c_33_1 hf
    by_cases c_33_2 : v2 = 2
    · have hf := rf_it c_33_2 hf
      refine lv_tableIn (off := 50) (tgt := 83) hx hb dX10_person_33 (by rw [c_33_2]; decide) (by rw [c_33_2]; decide) (by rw [c_33_2]; decide) (by decide) ?_
      refine lv_aload_n hx hb dX10_person_83 rfl (lv_at hl 0 rfl) ?_
      refine gX_x_now hC hP tw_392 dX10_person_84 ?_
      refine gX_now_words hC hP tw_53 dX10_person_87 ?_
      refine lv_iload_n hx hb dX10_person_90 rfl (lv_at hl 1 rfl) ?_
      obtain ⟨hi_91, hf⟩ := rf_gu hf
      refine lX_now_words hC hP hi_91 (f := now_words) e_now_words dX10_person_91 ?_
      obtain rfl := Option.some.inj hf
      exact rf_reti hC hP hS rfl rfl dX10_person_92
    have hf := rf_ie c_33_2 hf
    by_cases c_33_3 : v2 = 3
    · have hf := rf_it c_33_3 hf
      refine lv_tableIn (off := 60) (tgt := 93) hx hb dX10_person_33 (by rw [c_33_3]; decide) (by rw [c_33_3]; decide) (by rw [c_33_3]; decide) (by decide) ?_
      refine lv_aload_n hx hb dX10_person_93 rfl (lv_at hl 0 rfl) ?_
      refine gX_x_now hC hP tw_392 dX10_person_94 ?_
      refine gX_now_wet hC hP tw_56 dX10_person_97 ?_
      refine lv_iload_n hx hb dX10_person_100 rfl (lv_at hl 1 rfl) ?_
      obtain ⟨hi_101, hf⟩ := rf_gu hf
      refine lX_now_wet hC hP hi_101 (f := now_wet) e_now_wet dX10_person_101 ?_
      obtain rfl := Option.some.inj hf
      exact rf_reti hC hP hS rfl rfl dX10_person_102
    have hf := rf_ie c_33_3 hf
    refine lv_tableOut (tgt := 103) hx hb dX10_person_33 (rf_tout_0_4 c_33_0 c_33_1 c_33_2 c_33_3) (by decide) ?_
    refine lv_aload_n hx hb dX10_person_103 rfl (lv_at hl 0 rfl) ?_
    refine gX_x_tale hC hP tw_401 (v := a 10) hp0 dX10_person_104 ?_
    refine gX_tc_errands hC hP tw_101 dX10_person_107 ?_
    refine lv_iload_n hx hb dX10_person_110 rfl (lv_at hl 1 rfl) ?_
    obtain ⟨hi_111, hf⟩ := rf_gu hf
    refine lX_tc_errands hC hP hi_111 (f := tc_errands) e_tc_errands dX10_person_111 ?_
    obtain rfl := Option.some.inj hf
    exact rf_reti hC hP hS rfl rfl dX10_person_112
  have hf := rf_ie c_27 hf
  refine lv_iconst (v := (-1)) hx hb dX10_person_30 (by decide) ?_
  obtain rfl := Option.some.inj hf
  exact rf_reti hC hP hS rfl rfl dX10_person_31
set_option maxHeartbeats 4000000 in
set_option maxRecDepth 100000 in
theorem w_X10_person_22 {l : Launch} {p : Program} {e : Env} {s : State} {m : MethodId} {args : Array Value} {below : List Frame} {meth : Method} {c : Code} {A0 : Nat → Prop} {E : rf_E} {a P : Nat → Nat} {I : Nat → Int32} {J : Nat → Int64} {A : Nat → Nat → Int32} {B : Nat → Nat → Int64} {now_far : Int32} {tc_personCount : Int32} {now_words : Nat → Int32} {now_wet : Nat → Int32} {tc_kinds : Nat → Int32} {tc_errands : Nat → Int32} {z : Int32 × Int32} (hC : rf_C p E s m args meth c cX10_person 3 RX10 (some .int) A0) (hD : va_D A0 (cX E a P I J A B)) (hp0 : P 0 = a 10) (e_now_far : I 7 = now_far) (e_tc_personCount : I 24 = tc_personCount) (e_now_words : A 1 = now_words) (e_now_wet : A 2 = now_wet) (e_tc_kinds : A 14 = tc_kinds) (e_tc_errands : A 16 = tc_errands) :
    ∀ (v1 : Int32) (v2 : Int32) (x_lastTrouble : Int32), f_X10_person_22 now_far tc_personCount now_words now_wet tc_kinds tc_errands v1 v2 x_lastTrouble = some z → ∀ (H : Heap) (locs : List Loc) (ls : Array Slot), va_P (rf_D E) vwCl (cX E a P (rf_upL I [(3, x_lastTrouble)]) J A B) H → va_S A0 s.heap H locs → lv_has ls 3 [(0, .ref (a 0)), (1, .int v1), (2, .int v2)] → W p l e ({ frames := 2, cells := 0, slots := 0, locals := 42 }) s m args below meth c H locs 0 0 (rf_QI below args s E A0 z.1 (cX E a P (rf_upL I [(3, z.2)]) J A B)) (F0 m 22 ls [.ref (a 0)]) := by
  have hx := hC.1
  have hb := hC.2.1
  intro v1 v2 x_lastTrouble hf H locs ls hP hS hl
  unfold f_X10_person_22 at hf
  refine lv_iconst (v := 0) hx hb dX10_person_22 (by decide) ?_
  exact w_X10_person_23 hC hD hp0 e_now_far e_tc_personCount e_now_words e_now_wet e_tc_kinds e_tc_errands v1 v2 0 x_lastTrouble hf _ _ _ hP hS (lv_sub hl [0, 1, 2] rfl)
set_option maxHeartbeats 4000000 in
set_option maxRecDepth 100000 in
theorem c_X10_person (l : Launch) (E : rf_E) (a P : Nat → Nat) (I : Nat → Int32) (J : Nat → Int64) (A : Nat → Nat → Int32) (B : Nat → Nat → Int64) (now_far : Int32) (tc_personCount : Int32) (now_words : Nat → Int32) (now_wet : Nat → Int32) (tc_kinds : Nat → Int32) (tc_errands : Nat → Int32) (x_lastTrouble : Int32) (v1 : Int32) (v2 : Int32) {z : Int32 × Int32} (hp0 : P 0 = a 10) (e_now_far : I 7 = now_far) (e_tc_personCount : I 24 = tc_personCount) (e_now_words : A 1 = now_words) (e_now_wet : A 2 = now_wet) (e_tc_kinds : A 14 = tc_kinds) (e_tc_errands : A 16 = tc_errands) (e_x_lastTrouble : I 3 = x_lastTrouble) (hf : f_X10_person now_far tc_personCount now_words now_wet tc_kinds tc_errands x_lastTrouble v1 v2 = some z) : rf_MI l yX10_person cX10_person 3 (some .int) ({ frames := 2, cells := 0, slots := 0, locals := 42 }) E [.ref (a 0), .int v1, .int v2] (cX E a P I J A B) z.1 (cX E a P (rf_upL I [(3, z.2)]) J A B) := by
  unfold f_X10_person at hf
  refine rf_ofI (by decide) (Nat.le_of_ble_eq_true rfl) ?_
  intro p e s m below meth c A0 ls hC hD hP hS hl
  have hC : rf_C p E s m _ meth c cX10_person 3 RX10 (some .int) A0 := hC
  have hx := hC.1
  have hb := hC.2.1
  have hl : lv_has ls 3 [(0, .ref (a 0)), (1, .int v1), (2, .int v2)] := hl
  have hP : va_P (rf_D E) vwCl (cX E a P (rf_upL I [(3, x_lastTrouble)]) J A B) s.heap := by
    rw [rf_self (f := I) [(3, x_lastTrouble)] (rf_fa1 e_x_lastTrouble rf_fa0)]
    exact hP
  refine lv_aload_n hx hb dX10_person_0 rfl (lv_at hl 0 rfl) ?_
  refine lv_aload_n hx hb dX10_person_1 rfl (lv_at hl 0 rfl) ?_
  refine lv_iload_n hx hb dX10_person_2 rfl (lv_at hl 1 rfl) ?_
  obtain ⟨z3, hz3, hf⟩ := rf_bd hf
  refine rf_vi (q0 := 0) (ci := 10) hC (c_X10_isPerson l E a P (rf_upL I [(3, x_lastTrouble)]) J A B tc_personCount v1 hp0 e_tc_personCount hz3) kV_X10_isPerson tw_750 ⟨Nat.le_of_ble_eq_true rfl, Nat.le_of_ble_eq_true rfl⟩ rfl rfl rfl rfl rfl hP (rf_DX hD) hS rfl hl.1 (rest := [.ref (a 0)]) rfl (Nat.le_of_ble_eq_true rfl) dX10_person_3 (fun H locs hP hS => ?_)
  refine lv_if_eq (tgt := 22) hx hb dX10_person_6 (by decide) (fun c_6 => ?_) (fun c_6 => ?_)
  · have hf := rf_it c_6 hf
    exact w_X10_person_22 hC hD hp0 e_now_far e_tc_personCount e_now_words e_now_wet e_tc_kinds e_tc_errands v1 v2 x_lastTrouble hf _ _ _ hP hS (lv_sub hl [0, 1, 2] rfl)
  have hf := rf_ie c_6 hf
  refine lv_iload_n hx hb dX10_person_9 rfl (lv_at hl 2 rfl) ?_
  refine lv_if_lt (tgt := 22) hx hb dX10_person_10 (by decide) (fun c_10 => ?_) (fun c_10 => ?_)
  · have hf := rf_it c_10 hf
    exact w_X10_person_22 hC hD hp0 e_now_far e_tc_personCount e_now_words e_now_wet e_tc_kinds e_tc_errands v1 v2 x_lastTrouble hf _ _ _ hP hS (lv_sub hl [0, 1, 2] rfl)
  have hf := rf_ie c_10 hf
  refine lv_iload_n hx hb dX10_person_13 rfl (lv_at hl 2 rfl) ?_
  refine lv_iconst (v := 4) hx hb dX10_person_14 (by decide) ?_
  refine lv_icmp_gt (tgt := 22) hx hb dX10_person_15 (by decide) (fun c_15 => ?_) (fun c_15 => ?_)
  · have hf := rf_it c_15 hf
    exact w_X10_person_22 hC hD hp0 e_now_far e_tc_personCount e_now_words e_now_wet e_tc_kinds e_tc_errands v1 v2 x_lastTrouble hf _ _ _ hP hS (lv_sub hl [0, 1, 2] rfl)
  have hf := rf_ie c_15 hf
  refine lv_iconst (v := 1) hx hb dX10_person_18 (by decide) ?_
  refine lv_goto (tgt := 23) hx hb dX10_person_19 (by decide) ?_
  exact w_X10_person_23 hC hD hp0 e_now_far e_tc_personCount e_now_words e_now_wet e_tc_kinds e_tc_errands v1 v2 1 x_lastTrouble hf _ _ _ hP hS (lv_sub hl [0, 1, 2] rfl)
set_option maxHeartbeats 4000000 in
set_option maxRecDepth 100000 in
theorem c_X10_hasFerry (l : Launch) (E : rf_E) (a P : Nat → Nat) (I : Nat → Int32) (J : Nat → Int64) (A : Nat → Nat → Int32) (B : Nat → Nat → Int64) (tc_personCount : Int32) {z : Int32} (hp0 : P 0 = a 10) (e_tc_personCount : I 24 = tc_personCount) (hf : f_X10_hasFerry tc_personCount = some z) : rf_MI l yX10_hasFerry cX10_hasFerry 1 (some .boolean) ({ frames := 0, cells := 0, slots := 0, locals := 0 }) E [.ref (a 0)] (cX E a P I J A B) z (cX E a P I J A B) := by
  unfold f_X10_hasFerry at hf
  refine rf_ofI (by decide) (Nat.le_of_ble_eq_true rfl) ?_
  intro p e s m below meth c A0 ls hC hD hP hS hl
  have hC : rf_C p E s m _ meth c cX10_hasFerry 1 RX10 (some .boolean) A0 := hC
  have hx := hC.1
  have hb := hC.2.1
  have hl : lv_has ls 1 [(0, .ref (a 0))] := hl
  refine lv_aload_n hx hb dX10_hasFerry_0 rfl (lv_at hl 0 rfl) ?_
  refine gX_x_tale hC hP tw_401 (v := a 10) hp0 dX10_hasFerry_1 ?_
  refine gX_tc_personCount hC hP tw_132 (v := tc_personCount) e_tc_personCount dX10_hasFerry_4 ?_
  refine lv_if_le (tgt := 14) hx hb dX10_hasFerry_7 (by decide) (fun c_7 => ?_) (fun c_7 => ?_)
  · have hf := rf_it c_7 hf
    refine lv_iconst (v := 0) hx hb dX10_hasFerry_14 (by decide) ?_
    obtain rfl := Option.some.inj hf
    exact rf_retz hC hP hS (by decide) rfl rfl dX10_hasFerry_15
  have hf := rf_ie c_7 hf
  refine lv_iconst (v := 1) hx hb dX10_hasFerry_10 (by decide) ?_
  refine lv_goto (tgt := 15) hx hb dX10_hasFerry_11 (by decide) ?_
  obtain rfl := Option.some.inj hf
  exact rf_retz hC hP hS (by decide) rfl rfl dX10_hasFerry_15
set_option maxHeartbeats 4000000 in
set_option maxRecDepth 100000 in
theorem w_X10_isHour_14 {l : Launch} {p : Program} {e : Env} {s : State} {m : MethodId} {args : Array Value} {below : List Frame} {meth : Method} {c : Code} {A0 : Nat → Prop} {E : rf_E} {a P : Nat → Nat} {I : Nat → Int32} {J : Nat → Int64} {A : Nat → Nat → Int32} {B : Nat → Nat → Int64} {z : Int32} (hC : rf_C p E s m args meth c cX10_isHour 2 RX10 (some .boolean) A0) (hD : va_D A0 (cX E a P I J A B)) :
    ∀ (_ : Unit), f_X10_isHour_14 = some z → ∀ (H : Heap) (locs : List Loc) (ls : Array Slot), va_P (rf_D E) vwCl (cX E a P I J A B) H → va_S A0 s.heap H locs → lv_has ls 2 [] → W p l e ({ frames := 0, cells := 0, slots := 0, locals := 0 }) s m args below meth c H locs 0 0 (rf_QI below args s E A0 z (cX E a P I J A B)) (F0 m 14 ls []) := by
  have hx := hC.1
  have hb := hC.2.1
  intro _ hf H locs ls hP hS hl
  unfold f_X10_isHour_14 at hf
  refine lv_iconst (v := 0) hx hb dX10_isHour_14 (by decide) ?_
  obtain rfl := Option.some.inj hf
  exact rf_retz hC hP hS (by decide) rfl rfl dX10_isHour_15
set_option maxHeartbeats 4000000 in
set_option maxRecDepth 100000 in
theorem c_X10_isHour (l : Launch) (E : rf_E) (a P : Nat → Nat) (I : Nat → Int32) (J : Nat → Int64) (A : Nat → Nat → Int32) (B : Nat → Nat → Int64) (v1 : Int32) {z : Int32} (hf : f_X10_isHour v1 = some z) : rf_MI l yX10_isHour cX10_isHour 2 (some .boolean) ({ frames := 0, cells := 0, slots := 0, locals := 0 }) E [.ref (a 0), .int v1] (cX E a P I J A B) z (cX E a P I J A B) := by
  unfold f_X10_isHour at hf
  refine rf_ofI (by decide) (Nat.le_of_ble_eq_true rfl) ?_
  intro p e s m below meth c A0 ls hC hD hP hS hl
  have hC : rf_C p E s m _ meth c cX10_isHour 2 RX10 (some .boolean) A0 := hC
  have hx := hC.1
  have hb := hC.2.1
  have hl : lv_has ls 2 [(0, .ref (a 0)), (1, .int v1)] := hl
  refine lv_iload_n hx hb dX10_isHour_0 rfl (lv_at hl 1 rfl) ?_
  refine lv_if_lt (tgt := 14) hx hb dX10_isHour_1 (by decide) (fun c_1 => ?_) (fun c_1 => ?_)
  · have hf := rf_it c_1 hf
    exact w_X10_isHour_14 hC hD () hf _ _ _ hP hS (lv_sub hl [] rfl)
  have hf := rf_ie c_1 hf
  refine lv_iload_n hx hb dX10_isHour_4 rfl (lv_at hl 1 rfl) ?_
  refine lv_bipush (v := 24) hx hb dX10_isHour_5 (by decide) ?_
  refine lv_icmp_ge (tgt := 14) hx hb dX10_isHour_7 (by decide) (fun c_7 => ?_) (fun c_7 => ?_)
  · have hf := rf_it c_7 hf
    exact w_X10_isHour_14 hC hD () hf _ _ _ hP hS (lv_sub hl [] rfl)
  have hf := rf_ie c_7 hf
  refine lv_iconst (v := 1) hx hb dX10_isHour_10 (by decide) ?_
  refine lv_goto (tgt := 15) hx hb dX10_isHour_11 (by decide) ?_
  obtain rfl := Option.some.inj hf
  exact rf_retz hC hP hS (by decide) rfl rfl dX10_isHour_15
set_option maxHeartbeats 4000000 in
set_option maxRecDepth 100000 in
theorem c_X9_earAt_tc (l : Launch) (E : rf_E) (a P : Nat → Nat) (I : Nat → Int32) (J : Nat → Int64) (A : Nat → Nat → Int32) (B : Nat → Nat → Int64) (t_ear : Int32) (t_hourEars : Nat → Int32) (v1 : Int32) {z : Int32} (e_t_ear : I 21 = t_ear) (e_t_hourEars : A 18 = t_hourEars) (hf : f_X9_earAt t_ear t_hourEars v1 = some z) : rf_MI l yX9_earAt cX9_earAt 2 (some .int) ({ frames := 0, cells := 0, slots := 0, locals := 0 }) E [.ref (a 10), .int v1] (cX E a P I J A B) z (cX E a P I J A B) := by
  unfold f_X9_earAt at hf
  refine rf_ofI (by decide) (Nat.le_of_ble_eq_true rfl) ?_
  intro p e s m below meth c A0 ls hC hD hP hS hl
  have hC : rf_C p E s m _ meth c cX9_earAt 2 RX9 (some .int) A0 := hC
  have hx := hC.1
  have hb := hC.2.1
  have hl : lv_has ls 2 [(0, .ref (a 10)), (1, .int v1)] := hl
  refine lv_aload_n hx hb dX9_earAt_0 rfl (lv_at hl 0 rfl) ?_
  refine gX_tc_hourEars hC hP tw_104 dX9_earAt_1 ?_
  refine lv_iload_n hx hb dX9_earAt_4 rfl (lv_at hl 1 rfl) ?_
  obtain ⟨hi_5, hf⟩ := rf_gu hf
  refine lX_tc_hourEars hC hP hi_5 (f := t_hourEars) e_t_hourEars dX9_earAt_5 ?_
  refine lv_if_le (tgt := 18) hx hb dX9_earAt_6 (by decide) (fun c_6 => ?_) (fun c_6 => ?_)
  · have hf := rf_it c_6 hf
    refine lv_aload_n hx hb dX9_earAt_18 rfl (lv_at hl 0 rfl) ?_
    refine gX_tc_ear hC hP tw_113 (v := t_ear) e_t_ear dX9_earAt_19 ?_
    obtain rfl := Option.some.inj hf
    exact rf_reti hC hP hS rfl rfl dX9_earAt_22
  have hf := rf_ie c_6 hf
  refine lv_aload_n hx hb dX9_earAt_9 rfl (lv_at hl 0 rfl) ?_
  refine gX_tc_hourEars hC hP tw_104 dX9_earAt_10 ?_
  refine lv_iload_n hx hb dX9_earAt_13 rfl (lv_at hl 1 rfl) ?_
  obtain ⟨hi_14, hf⟩ := rf_gu hf
  refine lX_tc_hourEars hC hP hi_14 (f := t_hourEars) e_t_hourEars dX9_earAt_14 ?_
  refine lv_goto (tgt := 22) hx hb dX9_earAt_15 (by decide) ?_
  obtain rfl := Option.some.inj hf
  exact rf_reti hC hP hS rfl rfl dX9_earAt_22
set_option maxHeartbeats 4000000 in
set_option maxRecDepth 100000 in
theorem c_X10_ear (l : Launch) (E : rf_E) (a P : Nat → Nat) (I : Nat → Int32) (J : Nat → Int64) (A : Nat → Nat → Int32) (B : Nat → Nat → Int64) (tc_ear : Int32) (tc_personCount : Int32) (tc_hourEars : Nat → Int32) (x_lastTrouble : Int32) (v1 : Int32) {z : Int32 × Int32} (hp0 : P 0 = a 10) (e_tc_ear : I 21 = tc_ear) (e_tc_personCount : I 24 = tc_personCount) (e_tc_hourEars : A 18 = tc_hourEars) (e_x_lastTrouble : I 3 = x_lastTrouble) (hf : f_X10_ear tc_ear tc_personCount tc_hourEars x_lastTrouble v1 = some z) : rf_MI l yX10_ear cX10_ear 2 (some .int) ({ frames := 1, cells := 0, slots := 0, locals := 22 }) E [.ref (a 0), .int v1] (cX E a P I J A B) z.1 (cX E a P (rf_upL I [(3, z.2)]) J A B) := by
  unfold f_X10_ear at hf
  refine rf_ofI (by decide) (Nat.le_of_ble_eq_true rfl) ?_
  intro p e s m below meth c A0 ls hC hD hP hS hl
  have hC : rf_C p E s m _ meth c cX10_ear 2 RX10 (some .int) A0 := hC
  have hx := hC.1
  have hb := hC.2.1
  have hl : lv_has ls 2 [(0, .ref (a 0)), (1, .int v1)] := hl
  have hP : va_P (rf_D E) vwCl (cX E a P (rf_upL I [(3, x_lastTrouble)]) J A B) s.heap := by
    rw [rf_self (f := I) [(3, x_lastTrouble)] (rf_fa1 e_x_lastTrouble rf_fa0)]
    exact hP
  refine lv_aload_n hx hb dX10_ear_0 rfl (lv_at hl 0 rfl) ?_
  refine lv_aload_n hx hb dX10_ear_1 rfl (lv_at hl 0 rfl) ?_
  obtain ⟨z2, hz2, hf⟩ := rf_bd hf
  refine rf_vi (q0 := 0) (ci := 10) hC (c_X10_hasFerry l E a P (rf_upL I [(3, x_lastTrouble)]) J A B tc_personCount hp0 e_tc_personCount hz2) kV_X10_hasFerry tw_762 ⟨Nat.le_of_ble_eq_true rfl, Nat.le_of_ble_eq_true rfl⟩ rfl rfl rfl rfl rfl hP (rf_DX hD) hS rfl hl.1 (rest := [.ref (a 0)]) rfl (Nat.le_of_ble_eq_true rfl) dX10_ear_2 (fun H locs hP hS => ?_)
  refine lv_aload_n hx hb dX10_ear_5 rfl (lv_at hl 0 rfl) ?_
  refine lv_iload_n hx hb dX10_ear_6 rfl (lv_at hl 1 rfl) ?_
  obtain ⟨z7, hz7, hf⟩ := rf_bd hf
  refine rf_vi (q0 := 0) (ci := 10) hC (c_X10_isHour l E a P (rf_upL I [(3, x_lastTrouble)]) J A B v1 hz7) kV_X10_isHour tw_766 ⟨Nat.le_of_ble_eq_true rfl, Nat.le_of_ble_eq_true rfl⟩ rfl rfl rfl rfl rfl hP (rf_DX hD) hS rfl hl.1 (rest := [.int z2, .ref (a 0)]) rfl (Nat.le_of_ble_eq_true rfl) dX10_ear_7 (fun H locs hP hS => ?_)
  obtain ⟨z10, hz10, hf⟩ := rf_bd hf
  refine rf_vi (q0 := 0) (ci := 10) hC (c_X10_refused l E a P (rf_upL I [(3, x_lastTrouble)]) J A B x_lastTrouble z2 z7 rfl hz10) kV_X10_refused tw_455 ⟨Nat.le_of_ble_eq_true rfl, Nat.le_of_ble_eq_true rfl⟩ rfl rfl rfl rfl rfl hP (rf_DX hD) hS rfl hl.1 (rest := []) rfl (Nat.le_of_ble_eq_true rfl) dX10_ear_10 (fun H locs hP hS => ?_)
  rw [rf_cat (f := I) (l := [(3, x_lastTrouble)]) (lc := [(3, z10.2)]) (l' := [(3, z10.2)]) rfl] at hP
  refine lv_if_eq (tgt := 18) hx hb dX10_ear_13 (by decide) (fun c_13 => ?_) (fun c_13 => ?_)
  · have hf := rf_it c_13 hf
    refine lv_aload_n hx hb dX10_ear_18 rfl (lv_at hl 0 rfl) ?_
    refine gX_x_tale hC hP tw_401 (v := a 10) hp0 dX10_ear_19 ?_
    refine lv_iload_n hx hb dX10_ear_22 rfl (lv_at hl 1 rfl) ?_
    obtain ⟨z23, hz23, hf⟩ := rf_bd hf
    refine rf_vi (q0 := 10) (ci := 9) hC (c_X9_earAt_tc l E a P (rf_upL I [(3, z10.2)]) J A B tc_ear tc_hourEars v1 e_tc_ear e_tc_hourEars hz23) kV_X9_earAt tw_770 ⟨Nat.le_of_ble_eq_true rfl, Nat.le_of_ble_eq_true rfl⟩ rfl rfl rfl rfl rfl hP (rf_DX hD) hS rfl hl.1 (rest := []) rfl (Nat.le_of_ble_eq_true rfl) dX10_ear_23 (fun H locs hP hS => ?_)
    obtain rfl := Option.some.inj hf
    exact rf_reti hC hP hS rfl rfl dX10_ear_26
  have hf := rf_ie c_13 hf
  refine lv_iconst (v := (-1)) hx hb dX10_ear_16 (by decide) ?_
  obtain rfl := Option.some.inj hf
  exact rf_reti hC hP hS rfl rfl dX10_ear_17
set_option maxHeartbeats 4000000 in
set_option maxRecDepth 100000 in
theorem w_X10_isPair_25 {l : Launch} {p : Program} {e : Env} {s : State} {m : MethodId} {args : Array Value} {below : List Frame} {meth : Method} {c : Code} {A0 : Nat → Prop} {E : rf_E} {a P : Nat → Nat} {I : Nat → Int32} {J : Nat → Int64} {A : Nat → Nat → Int32} {B : Nat → Nat → Int64} {tc_personCount : Int32} {z : Int32} (hC : rf_C p E s m args meth c cX10_isPair 3 RX10 (some .boolean) A0) (hD : va_D A0 (cX E a P I J A B)) (hp0 : P 0 = a 10) (e_tc_personCount : I 24 = tc_personCount) :
    ∀ (_ : Unit), f_X10_isPair_25 tc_personCount = some z → ∀ (H : Heap) (locs : List Loc) (ls : Array Slot), va_P (rf_D E) vwCl (cX E a P I J A B) H → va_S A0 s.heap H locs → lv_has ls 3 [] → W p l e ({ frames := 1, cells := 0, slots := 0, locals := 21 }) s m args below meth c H locs 0 0 (rf_QI below args s E A0 z (cX E a P I J A B)) (F0 m 25 ls []) := by
  have hx := hC.1
  have hb := hC.2.1
  intro _ hf H locs ls hP hS hl
  unfold f_X10_isPair_25 at hf
  refine lv_iconst (v := 0) hx hb dX10_isPair_25 (by decide) ?_
  obtain rfl := Option.some.inj hf
  exact rf_retz hC hP hS (by decide) rfl rfl dX10_isPair_26
set_option maxHeartbeats 4000000 in
set_option maxRecDepth 100000 in
theorem c_X10_isPair (l : Launch) (E : rf_E) (a P : Nat → Nat) (I : Nat → Int32) (J : Nat → Int64) (A : Nat → Nat → Int32) (B : Nat → Nat → Int64) (tc_personCount : Int32) (v1 : Int32) (v2 : Int32) {z : Int32} (hp0 : P 0 = a 10) (e_tc_personCount : I 24 = tc_personCount) (hf : f_X10_isPair tc_personCount v1 v2 = some z) : rf_MI l yX10_isPair cX10_isPair 3 (some .boolean) ({ frames := 1, cells := 0, slots := 0, locals := 21 }) E [.ref (a 0), .int v1, .int v2] (cX E a P I J A B) z (cX E a P I J A B) := by
  unfold f_X10_isPair at hf
  refine rf_ofI (by decide) (Nat.le_of_ble_eq_true rfl) ?_
  intro p e s m below meth c A0 ls hC hD hP hS hl
  have hC : rf_C p E s m _ meth c cX10_isPair 3 RX10 (some .boolean) A0 := hC
  have hx := hC.1
  have hb := hC.2.1
  have hl : lv_has ls 3 [(0, .ref (a 0)), (1, .int v1), (2, .int v2)] := hl
  refine lv_aload_n hx hb dX10_isPair_0 rfl (lv_at hl 0 rfl) ?_
  refine lv_iload_n hx hb dX10_isPair_1 rfl (lv_at hl 1 rfl) ?_
  obtain ⟨z2, hz2, hf⟩ := rf_bd hf
  refine rf_vi (q0 := 0) (ci := 10) hC (c_X10_isPerson l E a P I J A B tc_personCount v1 hp0 e_tc_personCount hz2) kV_X10_isPerson tw_750 ⟨Nat.le_of_ble_eq_true rfl, Nat.le_of_ble_eq_true rfl⟩ rfl rfl rfl rfl rfl hP (rf_DX hD) hS rfl hl.1 (rest := []) rfl (Nat.le_of_ble_eq_true rfl) dX10_isPair_2 (fun H locs hP hS => ?_)
  refine lv_if_eq (tgt := 25) hx hb dX10_isPair_5 (by decide) (fun c_5 => ?_) (fun c_5 => ?_)
  · have hf := rf_it c_5 hf
    exact w_X10_isPair_25 hC hD hp0 e_tc_personCount () hf _ _ _ hP hS (lv_sub hl [] rfl)
  have hf := rf_ie c_5 hf
  refine lv_aload_n hx hb dX10_isPair_8 rfl (lv_at hl 0 rfl) ?_
  refine lv_iload_n hx hb dX10_isPair_9 rfl (lv_at hl 2 rfl) ?_
  obtain ⟨z10, hz10, hf⟩ := rf_bd hf
  refine rf_vi (q0 := 0) (ci := 10) hC (c_X10_isPerson l E a P I J A B tc_personCount v2 hp0 e_tc_personCount hz10) kV_X10_isPerson tw_750 ⟨Nat.le_of_ble_eq_true rfl, Nat.le_of_ble_eq_true rfl⟩ rfl rfl rfl rfl rfl hP (rf_DX hD) hS rfl hl.1 (rest := []) rfl (Nat.le_of_ble_eq_true rfl) dX10_isPair_10 (fun H locs hP hS => ?_)
  refine lv_if_eq (tgt := 25) hx hb dX10_isPair_13 (by decide) (fun c_13 => ?_) (fun c_13 => ?_)
  · have hf := rf_it c_13 hf
    exact w_X10_isPair_25 hC hD hp0 e_tc_personCount () hf _ _ _ hP hS (lv_sub hl [] rfl)
  have hf := rf_ie c_13 hf
  refine lv_iload_n hx hb dX10_isPair_16 rfl (lv_at hl 1 rfl) ?_
  refine lv_iload_n hx hb dX10_isPair_17 rfl (lv_at hl 2 rfl) ?_
  refine lv_icmp_eq (tgt := 25) hx hb dX10_isPair_18 (by decide) (fun c_18 => ?_) (fun c_18 => ?_)
  · have hf := rf_it c_18 hf
    exact w_X10_isPair_25 hC hD hp0 e_tc_personCount () hf _ _ _ hP hS (lv_sub hl [] rfl)
  have hf := rf_ie c_18 hf
  refine lv_iconst (v := 1) hx hb dX10_isPair_21 (by decide) ?_
  refine lv_goto (tgt := 26) hx hb dX10_isPair_22 (by decide) ?_
  obtain rfl := Option.some.inj hf
  exact rf_retz hC hP hS (by decide) rfl rfl dX10_isPair_26
set_option maxHeartbeats 4000000 in
set_option maxRecDepth 100000 in
theorem w_X9_rhymingWords_tc_10 {l : Launch} {p : Program} {e : Env} {s : State} {m : MethodId} {args : Array Value} {below : List Frame} {meth : Method} {c : Code} {A0 : Nat → Prop} {E : rf_E} {a P : Nat → Nat} {I : Nat → Int32} {J : Nat → Int64} {A : Nat → Nat → Int32} {B : Nat → Nat → Int64} {t_wordCount : Int32} {t_close : Nat → Int32} {z : Int32} (hC : rf_C p E s m args meth c cX9_rhymingWords 7 RX9 (some .int) A0) (hD : va_D A0 (cX E a P I J A B)) (e_t_wordCount : I 23 = t_wordCount) (e_t_close : A 22 = t_close) :
    ∀ (_ : Unit), f_X9_rhymingWords_10 t_wordCount t_close = some z → ∀ (H : Heap) (locs : List Loc) (ls : Array Slot), va_P (rf_D E) vwCl (cX E a P I J A B) H → va_S A0 s.heap H locs → lv_has ls 7 [(0, .ref (a 10))] → W p l e ({ frames := 0, cells := 0, slots := 0, locals := 0 }) s m args below meth c H locs 0 0 (rf_QI below args s E A0 z (cX E a P I J A B)) (F0 m 10 ls []) := by
  have hx := hC.1
  have hb := hC.2.1
  intro _ hf H locs ls hP hS hl
  unfold f_X9_rhymingWords_10 at hf
  refine lv_iconst (v := 1) hx hb dX9_rhymingWords_10 (by decide) ?_
  refine lv_aload_n hx hb dX9_rhymingWords_11 rfl (lv_at hl 0 rfl) ?_
  refine gX_tc_wordCount hC hP tw_121 (v := t_wordCount) e_t_wordCount dX9_rhymingWords_12 ?_
  refine lv_ishl hx hb dX9_rhymingWords_15 ?_
  refine lv_iconst (v := 1) hx hb dX9_rhymingWords_16 (by decide) ?_
  refine lv_isub hx hb dX9_rhymingWords_17 ?_
  obtain rfl := Option.some.inj hf
  exact rf_reti hC hP hS rfl rfl dX9_rhymingWords_18
set_option maxHeartbeats 4000000 in
set_option maxRecDepth 100000 in
theorem w_X9_rhymingWords_tc_69 {l : Launch} {p : Program} {e : Env} {s : State} {m : MethodId} {args : Array Value} {below : List Frame} {meth : Method} {c : Code} {A0 : Nat → Prop} {E : rf_E} {a P : Nat → Nat} {I : Nat → Int32} {J : Nat → Int64} {A : Nat → Nat → Int32} {B : Nat → Nat → Int64} {t_wordCount : Int32} {t_close : Nat → Int32} {z : Int32} (hC : rf_C p E s m args meth c cX9_rhymingWords 7 RX9 (some .int) A0) (hD : va_D A0 (cX E a P I J A B)) (e_t_wordCount : I 23 = t_wordCount) (e_t_close : A 22 = t_close) :
    ∀ (_ : Unit), f_X9_rhymingWords_69 t_wordCount t_close = some z → ∀ (H : Heap) (locs : List Loc) (ls : Array Slot), va_P (rf_D E) vwCl (cX E a P I J A B) H → va_S A0 s.heap H locs → lv_has ls 7 [] → W p l e ({ frames := 0, cells := 0, slots := 0, locals := 0 }) s m args below meth c H locs 0 0 (rf_QI below args s E A0 z (cX E a P I J A B)) (F0 m 69 ls []) := by
  have hx := hC.1
  have hb := hC.2.1
  intro _ hf H locs ls hP hS hl
  unfold f_X9_rhymingWords_69 at hf
  refine lv_iconst (v := 0) hx hb dX9_rhymingWords_69 (by decide) ?_
  obtain rfl := Option.some.inj hf
  exact rf_reti hC hP hS rfl rfl dX9_rhymingWords_70
set_option maxHeartbeats 4000000 in
set_option maxRecDepth 100000 in
theorem w_X9_rhymingWords_tc_55 {l : Launch} {p : Program} {e : Env} {s : State} {m : MethodId} {args : Array Value} {below : List Frame} {meth : Method} {c : Code} {A0 : Nat → Prop} {E : rf_E} {a P : Nat → Nat} {I : Nat → Int32} {J : Nat → Int64} {A : Nat → Nat → Int32} {B : Nat → Nat → Int64} {t_wordCount : Int32} {t_close : Nat → Int32} {z : Int32} (hC : rf_C p E s m args meth c cX9_rhymingWords 7 RX9 (some .int) A0) (hD : va_D A0 (cX E a P I J A B)) (e_t_wordCount : I 23 = t_wordCount) (e_t_close : A 22 = t_close) :
    ∀ (v1 : Int32) (v5 : Int32) (s0 : Int32), f_X9_rhymingWords_55 t_wordCount t_close v1 v5 s0 = some z → ∀ (H : Heap) (locs : List Loc) (ls : Array Slot), va_P (rf_D E) vwCl (cX E a P I J A B) H → va_S A0 s.heap H locs → lv_has ls 7 [(0, .ref (a 10)), (1, .int v1), (5, .int v5)] → W p l e ({ frames := 0, cells := 0, slots := 0, locals := 0 }) s m args below meth c H locs 0 0 (rf_QI below args s E A0 z (cX E a P I J A B)) (F0 m 55 ls [.int s0]) := by
  have hx := hC.1
  have hb := hC.2.1
  intro v1 v5 s0 hf H locs ls hP hS hl
  unfold f_X9_rhymingWords_55 at hf
  refine lv_istore (lv' := [(6, .int s0), (0, .ref (a 10)), (1, .int v1), (5, .int v5)]) hx hb dX9_rhymingWords_55 hl (by decide) rfl (fun ls hl => ?_)
  refine lv_iload hx hb dX9_rhymingWords_57 (lv_at hl 0 rfl) ?_
  refine lv_if_lt (tgt := 69) hx hb dX9_rhymingWords_59 (by decide) (fun c_59 => ?_) (fun c_59 => ?_)
  · have hf := rf_it c_59 hf
    exact w_X9_rhymingWords_tc_69 hC hD e_t_wordCount e_t_close () hf _ _ _ hP hS (lv_sub hl [] rfl)
  have hf := rf_ie c_59 hf
  refine lv_iload hx hb dX9_rhymingWords_62 (lv_at hl 0 rfl) ?_
  refine lv_bipush (v := 7) hx hb dX9_rhymingWords_64 (by decide) ?_
  refine lv_icmp_le (tgt := 71) hx hb dX9_rhymingWords_66 (by decide) (fun c_66 => ?_) (fun c_66 => ?_)
  · have hf := rf_it c_66 hf
    refine lv_aload_n hx hb dX9_rhymingWords_71 rfl (lv_at hl 1 rfl) ?_
    refine gX_tc_close hC hP tw_112 dX9_rhymingWords_72 ?_
    refine lv_iload hx hb dX9_rhymingWords_75 (lv_at hl 3 rfl) ?_
    refine lv_bipush (v := 8) hx hb dX9_rhymingWords_77 (by decide) ?_
    refine lv_imul hx hb dX9_rhymingWords_79 ?_
    refine lv_iload hx hb dX9_rhymingWords_80 (lv_at hl 0 rfl) ?_
    refine lv_iadd hx hb dX9_rhymingWords_82 ?_
    refine lv_bipush (v := 10) hx hb dX9_rhymingWords_83 (by decide) ?_
    refine lv_imul hx hb dX9_rhymingWords_85 ?_
    refine lv_iload_n hx hb dX9_rhymingWords_86 rfl (lv_at hl 2 rfl) ?_
    refine lv_iadd hx hb dX9_rhymingWords_87 ?_
    obtain ⟨hi_88, hf⟩ := rf_gu hf
    refine lX_tc_close hC hP hi_88 (f := t_close) e_t_close dX9_rhymingWords_88 ?_
    obtain rfl := Option.some.inj hf
    exact rf_reti hC hP hS rfl rfl dX9_rhymingWords_89
  have hf := rf_ie c_66 hf
  exact w_X9_rhymingWords_tc_69 hC hD e_t_wordCount e_t_close () hf _ _ _ hP hS (lv_sub hl [] rfl)
set_option maxHeartbeats 4000000 in
set_option maxRecDepth 100000 in
theorem w_X9_rhymingWords_tc_46 {l : Launch} {p : Program} {e : Env} {s : State} {m : MethodId} {args : Array Value} {below : List Frame} {meth : Method} {c : Code} {A0 : Nat → Prop} {E : rf_E} {a P : Nat → Nat} {I : Nat → Int32} {J : Nat → Int64} {A : Nat → Nat → Int32} {B : Nat → Nat → Int64} {t_wordCount : Int32} {t_close : Nat → Int32} {z : Int32} (hC : rf_C p E s m args meth c cX9_rhymingWords 7 RX9 (some .int) A0) (hD : va_D A0 (cX E a P I J A B)) (e_t_wordCount : I 23 = t_wordCount) (e_t_close : A 22 = t_close) :
    ∀ (v1 : Int32) (v4 : Int32) (v5 : Int32), f_X9_rhymingWords_46 t_wordCount t_close v1 v4 v5 = some z → ∀ (H : Heap) (locs : List Loc) (ls : Array Slot), va_P (rf_D E) vwCl (cX E a P I J A B) H → va_S A0 s.heap H locs → lv_has ls 7 [(0, .ref (a 10)), (1, .int v1), (4, .int v4), (5, .int v5)] → W p l e ({ frames := 0, cells := 0, slots := 0, locals := 0 }) s m args below meth c H locs 0 0 (rf_QI below args s E A0 z (cX E a P I J A B)) (F0 m 46 ls []) := by
  have hx := hC.1
  have hb := hC.2.1
  intro v1 v4 v5 hf H locs ls hP hS hl
  unfold f_X9_rhymingWords_46 at hf
  refine lv_iload hx hb dX9_rhymingWords_46 (lv_at hl 2 rfl) ?_
  refine lv_iconst (v := 1) hx hb dX9_rhymingWords_48 (by decide) ?_
  refine lv_isub hx hb dX9_rhymingWords_49 ?_
  refine lv_goto (tgt := 55) hx hb dX9_rhymingWords_50 (by decide) ?_
  exact w_X9_rhymingWords_tc_55 hC hD e_t_wordCount e_t_close v1 v5 (v4 - 1) hf _ _ _ hP hS (lv_sub hl [0, 1, 3] rfl)
set_option maxHeartbeats 4000000 in
set_option maxRecDepth 100000 in
theorem w_X9_rhymingWords_tc_34 {l : Launch} {p : Program} {e : Env} {s : State} {m : MethodId} {args : Array Value} {below : List Frame} {meth : Method} {c : Code} {A0 : Nat → Prop} {E : rf_E} {a P : Nat → Nat} {I : Nat → Int32} {J : Nat → Int64} {A : Nat → Nat → Int32} {B : Nat → Nat → Int64} {t_wordCount : Int32} {t_close : Nat → Int32} {z : Int32} (hC : rf_C p E s m args meth c cX9_rhymingWords 7 RX9 (some .int) A0) (hD : va_D A0 (cX E a P I J A B)) (e_t_wordCount : I 23 = t_wordCount) (e_t_close : A 22 = t_close) :
    ∀ (v1 : Int32) (v2 : Int32) (v3 : Int32) (v4 : Int32) (s0 : Int32), f_X9_rhymingWords_34 t_wordCount t_close v1 v2 v3 v4 s0 = some z → ∀ (H : Heap) (locs : List Loc) (ls : Array Slot), va_P (rf_D E) vwCl (cX E a P I J A B) H → va_S A0 s.heap H locs → lv_has ls 7 [(0, .ref (a 10)), (1, .int v1), (2, .int v2), (3, .int v3), (4, .int v4)] → W p l e ({ frames := 0, cells := 0, slots := 0, locals := 0 }) s m args below meth c H locs 0 0 (rf_QI below args s E A0 z (cX E a P I J A B)) (F0 m 34 ls [.int s0]) := by
  have hx := hC.1
  have hb := hC.2.1
  intro v1 v2 v3 v4 s0 hf H locs ls hP hS hl
  unfold f_X9_rhymingWords_34 at hf
  refine lv_istore (lv' := [(5, .int s0), (0, .ref (a 10)), (1, .int v1), (2, .int v2), (3, .int v3), (4, .int v4)]) hx hb dX9_rhymingWords_34 hl (by decide) rfl (fun ls hl => ?_)
  refine lv_iload_n hx hb dX9_rhymingWords_36 rfl (lv_at hl 3 rfl) ?_
  refine lv_iconst (v := 3) hx hb dX9_rhymingWords_37 (by decide) ?_
  refine lv_icmp_eq (tgt := 46) hx hb dX9_rhymingWords_38 (by decide) (fun c_38 => ?_) (fun c_38 => ?_)
  · have hf := rf_it c_38 hf
    exact w_X9_rhymingWords_tc_46 hC hD e_t_wordCount e_t_close v1 v4 s0 hf _ _ _ hP hS (lv_sub hl [1, 2, 5, 0] rfl)
  have hf := rf_ie c_38 hf
  refine lv_iload_n hx hb dX9_rhymingWords_41 rfl (lv_at hl 4 rfl) ?_
  refine lv_iconst (v := 3) hx hb dX9_rhymingWords_42 (by decide) ?_
  refine lv_icmp_ne (tgt := 53) hx hb dX9_rhymingWords_43 (by decide) (fun c_43 => ?_) (fun c_43 => ?_)
  · have hf := rf_ie c_43 hf
    refine lv_iload hx hb dX9_rhymingWords_53 (lv_at hl 5 rfl) ?_
    exact w_X9_rhymingWords_tc_55 hC hD e_t_wordCount e_t_close v1 s0 v4 hf _ _ _ hP hS (lv_sub hl [1, 2, 0] rfl)
  have hf := rf_it c_43 hf
  exact w_X9_rhymingWords_tc_46 hC hD e_t_wordCount e_t_close v1 v4 s0 hf _ _ _ hP hS (lv_sub hl [1, 2, 5, 0] rfl)
set_option maxHeartbeats 4000000 in
set_option maxRecDepth 100000 in
theorem w_X9_rhymingWords_tc_29 {l : Launch} {p : Program} {e : Env} {s : State} {m : MethodId} {args : Array Value} {below : List Frame} {meth : Method} {c : Code} {A0 : Nat → Prop} {E : rf_E} {a P : Nat → Nat} {I : Nat → Int32} {J : Nat → Int64} {A : Nat → Nat → Int32} {B : Nat → Nat → Int64} {t_wordCount : Int32} {t_close : Nat → Int32} {z : Int32} (hC : rf_C p E s m args meth c cX9_rhymingWords 7 RX9 (some .int) A0) (hD : va_D A0 (cX E a P I J A B)) (e_t_wordCount : I 23 = t_wordCount) (e_t_close : A 22 = t_close) :
    ∀ (v1 : Int32) (v2 : Int32) (v3 : Int32) (v4 : Int32), f_X9_rhymingWords_29 t_wordCount t_close v1 v2 v3 v4 = some z → ∀ (H : Heap) (locs : List Loc) (ls : Array Slot), va_P (rf_D E) vwCl (cX E a P I J A B) H → va_S A0 s.heap H locs → lv_has ls 7 [(0, .ref (a 10)), (1, .int v1), (2, .int v2), (3, .int v3), (4, .int v4)] → W p l e ({ frames := 0, cells := 0, slots := 0, locals := 0 }) s m args below meth c H locs 0 0 (rf_QI below args s E A0 z (cX E a P I J A B)) (F0 m 29 ls []) := by
  have hx := hC.1
  have hb := hC.2.1
  intro v1 v2 v3 v4 hf H locs ls hP hS hl
  unfold f_X9_rhymingWords_29 at hf
  refine lv_iconst (v := 1) hx hb dX9_rhymingWords_29 (by decide) ?_
  refine lv_goto (tgt := 34) hx hb dX9_rhymingWords_30 (by decide) ?_
  exact w_X9_rhymingWords_tc_34 hC hD e_t_wordCount e_t_close v1 v2 v3 v4 1 hf _ _ _ hP hS (lv_sub hl [0, 1, 2, 3, 4] rfl)
set_option maxHeartbeats 4000000 in
set_option maxRecDepth 100000 in
theorem c_X9_rhymingWords_tc (l : Launch) (E : rf_E) (a P : Nat → Nat) (I : Nat → Int32) (J : Nat → Int64) (A : Nat → Nat → Int32) (B : Nat → Nat → Int64) (t_wordCount : Int32) (t_close : Nat → Int32) (v1 : Int32) (v2 : Int32) (v3 : Int32) (v4 : Int32) {z : Int32} (e_t_wordCount : I 23 = t_wordCount) (e_t_close : A 22 = t_close) (hf : f_X9_rhymingWords t_wordCount t_close v1 v2 v3 v4 = some z) : rf_MI l yX9_rhymingWords cX9_rhymingWords 7 (some .int) ({ frames := 0, cells := 0, slots := 0, locals := 0 }) E [.ref (a 10), .int v1, .int v2, .int v3, .int v4] (cX E a P I J A B) z (cX E a P I J A B) := by
  unfold f_X9_rhymingWords at hf
  refine rf_ofI (by decide) (Nat.le_of_ble_eq_true rfl) ?_
  intro p e s m below meth c A0 ls hC hD hP hS hl
  have hC : rf_C p E s m _ meth c cX9_rhymingWords 7 RX9 (some .int) A0 := hC
  have hx := hC.1
  have hb := hC.2.1
  have hl : lv_has ls 7 [(0, .ref (a 10)), (1, .int v1), (2, .int v2), (3, .int v3), (4, .int v4)] := hl
  refine lv_iload_n hx hb dX9_rhymingWords_0 rfl (lv_at hl 2 rfl) ?_
  refine lv_iconst (v := 2) hx hb dX9_rhymingWords_1 (by decide) ?_
  refine lv_icmp_eq (tgt := 10) hx hb dX9_rhymingWords_2 (by decide) (fun c_2 => ?_) (fun c_2 => ?_)
  · have hf := rf_it c_2 hf
    exact w_X9_rhymingWords_tc_10 hC hD e_t_wordCount e_t_close () hf _ _ _ hP hS (lv_sub hl [0] rfl)
  have hf := rf_ie c_2 hf
  refine lv_iload_n hx hb dX9_rhymingWords_5 rfl (lv_at hl 3 rfl) ?_
  refine lv_iconst (v := 2) hx hb dX9_rhymingWords_6 (by decide) ?_
  refine lv_icmp_ne (tgt := 19) hx hb dX9_rhymingWords_7 (by decide) (fun c_7 => ?_) (fun c_7 => ?_)
  · have hf := rf_ie c_7 hf
    refine lv_iload_n hx hb dX9_rhymingWords_19 rfl (lv_at hl 2 rfl) ?_
    refine lv_iconst (v := 1) hx hb dX9_rhymingWords_20 (by decide) ?_
    refine lv_icmp_eq (tgt := 29) hx hb dX9_rhymingWords_21 (by decide) (fun c_21 => ?_) (fun c_21 => ?_)
    · have hf := rf_it c_21 hf
      exact w_X9_rhymingWords_tc_29 hC hD e_t_wordCount e_t_close v1 v2 v3 v4 hf _ _ _ hP hS (lv_sub hl [0, 1, 2, 3, 4] rfl)
    have hf := rf_ie c_21 hf
    refine lv_iload_n hx hb dX9_rhymingWords_24 rfl (lv_at hl 3 rfl) ?_
    refine lv_iconst (v := 1) hx hb dX9_rhymingWords_25 (by decide) ?_
    refine lv_icmp_ne (tgt := 33) hx hb dX9_rhymingWords_26 (by decide) (fun c_26 => ?_) (fun c_26 => ?_)
    · have hf := rf_ie c_26 hf
      refine lv_iconst (v := 0) hx hb dX9_rhymingWords_33 (by decide) ?_
      exact w_X9_rhymingWords_tc_34 hC hD e_t_wordCount e_t_close v1 v2 v3 v4 0 hf _ _ _ hP hS (lv_sub hl [0, 1, 2, 3, 4] rfl)
    have hf := rf_it c_26 hf
    exact w_X9_rhymingWords_tc_29 hC hD e_t_wordCount e_t_close v1 v2 v3 v4 hf _ _ _ hP hS (lv_sub hl [0, 1, 2, 3, 4] rfl)
  have hf := rf_it c_7 hf
  exact w_X9_rhymingWords_tc_10 hC hD e_t_wordCount e_t_close () hf _ _ _ hP hS (lv_sub hl [0] rfl)
