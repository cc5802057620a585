set_option maxHeartbeats 4000000 in
set_option maxRecDepth 100000 in
theorem w_X10_append_40 {l : Launch} {p : Program} {e : Env} {s : State} {m : MethodId} {args : Array Value} {below : List Frame} {meth : Method} {c : Code} {A0 : Nat → Prop} {E : rf_E} {a P : Nat → Nat} {I : Nat → Int32} {J : Nat → Int64} {A : Nat → Nat → Int32} {B : Nat → Nat → Int64} {z : Int32 × (Nat → Int32)} (hC : rf_C p E s m args meth c cX10_append 3 RX10 (none) A0) (hD : va_D A0 (cX E a P I J A B)) {k3 : Int32 → Int32 → Int32 → (Nat → Int32) → Option (Int32 × (Nat → Int32))} (hk3 : ∀ (v1 : Int32) (v2 : Int32) (x_tapeLength : Int32) (x_tape : Nat → Int32), k3 v1 v2 x_tapeLength x_tape = some z → ∀ (H : Heap) (locs : List Loc) (ls : Array Slot), va_P (rf_D E) vwCl (cX E a P (rf_upL I [(0, x_tapeLength)]) J (rf_upL A [(0, x_tape)]) B) H → va_S A0 s.heap H locs → lv_has ls 3 [(0, .ref (a 0)), (1, .int v1), (2, .int v2)] → W p l e ({ frames := 0, cells := 0, slots := 0, locals := 0 }) s m args below meth c H locs 0 0 (rf_QV below args s E A0 (cX E a P (rf_upL I [(0, z.1)]) J (rf_upL A [(0, z.2)]) B)) (F0 m 3 ls [])) :
    ∀ (v1 : Int32) (v2 : Int32) (x_tapeLength : Int32) (x_tape : Nat → Int32), f_X10_append_40 k3 v1 v2 x_tapeLength x_tape = some z → ∀ (H : Heap) (locs : List Loc) (ls : Array Slot), va_P (rf_D E) vwCl (cX E a P (rf_upL I [(0, x_tapeLength)]) J (rf_upL A [(0, x_tape)]) B) H → va_S A0 s.heap H locs → lv_has ls 3 [(0, .ref (a 0)), (1, .int v1), (2, .int v2)] → W p l e ({ frames := 0, cells := 0, slots := 0, locals := 0 }) s m args below meth c H locs 0 0 (rf_QV below args s E A0 (cX E a P (rf_upL I [(0, z.1)]) J (rf_upL A [(0, z.2)]) B)) (F0 m 40 ls []) := by
  have hx := hC.1
  have hb := hC.2.1
  intro v1 v2 x_tapeLength x_tape hf H locs ls hP hS hl
  unfold f_X10_append_40 at hf
  refine lv_iinc (v := v2 + (-8)) (lv' := [(2, .int (v2 + (-8))), (0, .ref (a 0)), (1, .int v1)]) hx hb dX10_append_40 hl (k := 2) rfl rfl (by decide) rfl (fun ls hl => ?_)
  refine lv_goto (tgt := 3) hx hb dX10_append_43 (by decide) ?_
  exact hk3 v1 (v2 + (-8)) x_tapeLength x_tape hf _ _ _ hP hS (lv_sub hl [1, 2, 0] rfl)
set_option maxHeartbeats 4000000 in
set_option maxRecDepth 100000 in
theorem w_X10_append_3 {l : Launch} {p : Program} {e : Env} {s : State} {m : MethodId} {args : Array Value} {below : List Frame} {meth : Method} {c : Code} {A0 : Nat → Prop} {E : rf_E} {a P : Nat → Nat} {I : Nat → Int32} {J : Nat → Int64} {A : Nat → Nat → Int32} {B : Nat → Nat → Int64} {z : Int32 × (Nat → Int32)} (hC : rf_C p E s m args meth c cX10_append 3 RX10 (none) A0) (hD : va_D A0 (cX E a P I J A B)) :
    ∀ (n : Nat), ∀ (v1 : Int32) (v2 : Int32) (x_tapeLength : Int32) (x_tape : Nat → Int32), f_X10_append_3 n v1 v2 x_tapeLength x_tape = some z → ∀ (H : Heap) (locs : List Loc) (ls : Array Slot), va_P (rf_D E) vwCl (cX E a P (rf_upL I [(0, x_tapeLength)]) J (rf_upL A [(0, x_tape)]) B) H → va_S A0 s.heap H locs → lv_has ls 3 [(0, .ref (a 0)), (1, .int v1), (2, .int v2)] → W p l e ({ frames := 0, cells := 0, slots := 0, locals := 0 }) s m args below meth c H locs 0 0 (rf_QV below args s E A0 (cX E a P (rf_upL I [(0, z.1)]) J (rf_upL A [(0, z.2)]) B)) (F0 m 3 ls []) := by
  have hx := hC.1
  have hb := hC.2.1
  intro n
  induction n with
  | zero =>
    intro v1 v2 x_tapeLength x_tape hf
    have hf : (none : Option (Int32 × (Nat → Int32))) = some z := hf
    cases hf
  | succ n ih =>
    intro v1 v2 x_tapeLength x_tape hf H locs ls hP hS hl
    rw [f_X10_append_3] at hf
    refine lv_iload_n hx hb dX10_append_3 rfl (lv_at hl 2 rfl) ?_
    refine lv_if_lt (tgt := 46) hx hb dX10_append_4 (by decide) (fun c_4 => ?_) (fun c_4 => ?_)
    · have hf := rf_it c_4 hf
      obtain rfl := Option.some.inj hf
      exact rf_retv hC hP hS rfl dX10_append_46
    have hf := rf_ie c_4 hf
    refine lv_aload_n hx hb dX10_append_7 rfl (lv_at hl 0 rfl) ?_
    refine gX_x_tapeLength hC hP tw_404 (v := x_tapeLength) rfl dX10_append_8 ?_
    refine lv_sipush (v := 900) hx hb dX10_append_11 (by decide) ?_
    refine lv_icmp_ge (tgt := 40) hx hb dX10_append_14 (by decide) (fun c_14 => ?_) (fun c_14 => ?_)
    · have hf := rf_it c_14 hf
      exact w_X10_append_40 hC hD ih v1 v2 x_tapeLength x_tape hf _ _ _ hP hS (lv_sub hl [0, 1, 2] rfl)
    have hf := rf_ie c_14 hf
    refine lv_aload_n hx hb dX10_append_17 rfl (lv_at hl 0 rfl) ?_
    refine gX_x_tape hC hP tw_391 dX10_append_18 ?_
    refine lv_aload_n hx hb dX10_append_21 rfl (lv_at hl 0 rfl) ?_
    refine gX_x_tapeLength hC hP tw_404 (v := x_tapeLength) rfl dX10_append_22 ?_
    refine lv_iload_n hx hb dX10_append_25 rfl (lv_at hl 1 rfl) ?_
    refine lv_iload_n hx hb dX10_append_26 rfl (lv_at hl 2 rfl) ?_
    refine lv_ishr hx hb dX10_append_27 ?_
    refine lv_i2b hx hb dX10_append_28 rfl ?_
    obtain ⟨hi_29, hf⟩ := rf_gu hf
    refine sX_x_tape hC hD hP hS hi_29 (f := x_tape) rfl dX10_append_29 (rf_upL A [(0, upd x_tape (Int32.toNatClampNeg x_tapeLength) (vp_nar .byte ((Int32.toInt8 (v1 >>> (v2 &&& 31))).toInt32)))]) (rf_put rfl) (fun H locs hP hS => ?_)
    refine lv_aload_n hx hb dX10_append_30 rfl (lv_at hl 0 rfl) ?_
    refine lv_dup hx hb dX10_append_31 rfl ?_
    refine gX_x_tapeLength hC hP tw_404 (v := x_tapeLength) rfl dX10_append_32 ?_
    refine lv_iconst (v := 1) hx hb dX10_append_35 (by decide) ?_
    refine lv_iadd hx hb dX10_append_36 ?_
    refine pX_x_tapeLength hC hD hP hS tw_404 dX10_append_37 (rf_upL I [(0, x_tapeLength + 1)]) (rf_put rfl) (fun H locs hP hS => ?_)
    exact w_X10_append_40 hC hD ih v1 v2 (x_tapeLength + 1) (upd x_tape (Int32.toNatClampNeg x_tapeLength) (vp_nar .byte ((Int32.toInt8 (v1 >>> (v2 &&& 31))).toInt32))) hf _ _ _ hP hS (lv_sub hl [0, 1, 2] rfl)
set_option maxHeartbeats 4000000 in
set_option maxRecDepth 100000 in
theorem c_X10_append (l : Launch) (E : rf_E) (a P : Nat → Nat) (I : Nat → Int32) (J : Nat → Int64) (A : Nat → Nat → Int32) (B : Nat → Nat → Int64) (x_tapeLength : Int32) (x_tape : Nat → Int32) (v1 : Int32) {z : Int32 × (Nat → Int32)} (e_x_tapeLength : I 0 = x_tapeLength) (e_x_tape : A 0 = x_tape) (hf : f_X10_append x_tapeLength x_tape v1 = some z) : rf_MV l yX10_append cX10_append 3 ({ frames := 0, cells := 0, slots := 0, locals := 0 }) E [.ref (a 0), .int v1] (cX E a P I J A B) (cX E a P (rf_upL I [(0, z.1)]) J (rf_upL A [(0, z.2)]) B) := by
  unfold f_X10_append at hf
  refine rf_ofV (by decide) (Nat.le_of_ble_eq_true rfl) ?_
  intro p e s m below meth c A0 ls hC hD hP hS hl
  have hC : rf_C p E s m _ meth c cX10_append 3 RX10 (none) A0 := hC
  have hx := hC.1
  have hb := hC.2.1
  have hl : lv_has ls 3 [(0, .ref (a 0)), (1, .int v1)] := hl
  have hP : va_P (rf_D E) vwCl (cX E a P (rf_upL I [(0, x_tapeLength)]) J (rf_upL A [(0, x_tape)]) B) s.heap := by
    rw [rf_self (f := I) [(0, x_tapeLength)] (rf_fa1 e_x_tapeLength rf_fa0)]
    rw [rf_self (f := A) [(0, x_tape)] (rf_fa1 e_x_tape rf_fa0)]
    exact hP
  refine lv_bipush (v := 24) hx hb dX10_append_0 (by decide) ?_
  refine lv_istore_n (lv' := [(2, .int 24), (0, .ref (a 0)), (1, .int v1)]) hx hb dX10_append_2 rfl hl (by decide) rfl (fun ls hl => ?_)
  exact w_X10_append_3 hC hD rf_fu v1 24 x_tapeLength x_tape hf _ _ _ hP hS (lv_sub hl [1, 2, 0] rfl)
set_option maxHeartbeats 4000000 in
set_option maxRecDepth 100000 in
theorem c_X10_feed (l : Launch) (E : rf_E) (a P : Nat → Nat) (I : Nat → Int32) (J : Nat → Int64) (A : Nat → Nat → Int32) (B : Nat → Nat → Int64) (x_tapeLength : Int32) (x_tape : Nat → Int32) (v1 : Int32) (v2 : Int32) (v3 : Int32) (v4 : Int32) (v5 : Int32) {z : Int32 × Int32 × (Nat → Int32)} (e_x_tapeLength : I 0 = x_tapeLength) (e_x_tape : A 0 = x_tape) (hf : f_X10_feed x_tapeLength x_tape v1 v2 v3 v4 v5 = some z) : rf_MI l yX10_feed cX10_feed 6 (some .int) ({ frames := 1, cells := 0, slots := 0, locals := 22 }) E [.ref (a 0), .int v1, .int v2, .int v3, .int v4, .int v5] (cX E a P I J A B) z.1 (cX E a P (rf_upL I [(0, z.2.1)]) J (rf_upL A [(0, z.2.2)]) B) := by
  unfold f_X10_feed at hf
  refine rf_ofI (by decide) (Nat.le_of_ble_eq_true rfl) ?_
  intro p e s m below meth c A0 ls hC hD hP hS hl
  have hC : rf_C p E s m _ meth c cX10_feed 6 RX10 (some .int) A0 := hC
  have hx := hC.1
  have hb := hC.2.1
  have hl : lv_has ls 6 [(0, .ref (a 0)), (1, .int v1), (2, .int v2), (3, .int v3), (4, .int v4), (5, .int v5)] := hl
  have hP : va_P (rf_D E) vwCl (cX E a P (rf_upL I [(0, x_tapeLength)]) J (rf_upL A [(0, x_tape)]) B) s.heap := by
    rw [rf_self (f := I) [(0, x_tapeLength)] (rf_fa1 e_x_tapeLength rf_fa0)]
    rw [rf_self (f := A) [(0, x_tape)] (rf_fa1 e_x_tape rf_fa0)]
    exact hP
  refine lv_aload_n hx hb dX10_feed_0 rfl (lv_at hl 0 rfl) ?_
  refine gX_x_tapeLength hC hP tw_404 (v := x_tapeLength) rfl dX10_feed_1 ?_
  refine lv_bipush (v := 20) hx hb dX10_feed_4 (by decide) ?_
  refine lv_iadd hx hb dX10_feed_6 ?_
  refine lv_sipush (v := 900) hx hb dX10_feed_7 (by decide) ?_
  refine lv_icmp_le (tgt := 15) hx hb dX10_feed_10 (by decide) (fun c_10 => ?_) (fun c_10 => ?_)
  · have hf := rf_it c_10 hf
    refine lv_aload_n hx hb dX10_feed_15 rfl (lv_at hl 0 rfl) ?_
    refine lv_iload_n hx hb dX10_feed_16 rfl (lv_at hl 1 rfl) ?_
    obtain ⟨z17, hz17, hf⟩ := rf_bd hf
    refine rf_vv (q0 := 0) (ci := 10) hC (c_X10_append l E a P (rf_upL I [(0, x_tapeLength)]) J (rf_upL A [(0, x_tape)]) B x_tapeLength x_tape v1 rfl rfl hz17) kV_X10_append tw_447 ⟨Nat.le_of_ble_eq_true rfl, Nat.le_of_ble_eq_true rfl⟩ rfl rfl rfl rfl rfl hP (rf_DX hD) hS rfl hl.1 (rest := []) rfl (Nat.le_of_ble_eq_true rfl) dX10_feed_17 (fun H locs hP hS => ?_)
    rw [rf_cat (f := I) (l := [(0, x_tapeLength)]) (lc := [(0, z17.1)]) (l' := [(0, z17.1)]) rfl] at hP
    rw [rf_cat (f := A) (l := [(0, x_tape)]) (lc := [(0, z17.2)]) (l' := [(0, z17.2)]) rfl] at hP
    refine lv_aload_n hx hb dX10_feed_20 rfl (lv_at hl 0 rfl) ?_
    refine lv_iload_n hx hb dX10_feed_21 rfl (lv_at hl 2 rfl) ?_
    obtain ⟨z22, hz22, hf⟩ := rf_bd hf
    refine rf_vv (q0 := 0) (ci := 10) hC (c_X10_append l E a P (rf_upL I [(0, z17.1)]) J (rf_upL A [(0, z17.2)]) B z17.1 z17.2 v2 rfl rfl hz22) kV_X10_append tw_447 ⟨Nat.le_of_ble_eq_true rfl, Nat.le_of_ble_eq_true rfl⟩ rfl rfl rfl rfl rfl hP (rf_DX hD) hS rfl hl.1 (rest := []) rfl (Nat.le_of_ble_eq_true rfl) dX10_feed_22 (fun H locs hP hS => ?_)
    rw [rf_cat (f := I) (l := [(0, z17.1)]) (lc := [(0, z22.1)]) (l' := [(0, z22.1)]) rfl] at hP
    rw [rf_cat (f := A) (l := [(0, z17.2)]) (lc := [(0, z22.2)]) (l' := [(0, z22.2)]) rfl] at hP
    refine lv_aload_n hx hb dX10_feed_25 rfl (lv_at hl 0 rfl) ?_
    refine lv_iload_n hx hb dX10_feed_26 rfl (lv_at hl 3 rfl) ?_
    obtain ⟨z27, hz27, hf⟩ := rf_bd hf
    refine rf_vv (q0 := 0) (ci := 10) hC (c_X10_append l E a P (rf_upL I [(0, z22.1)]) J (rf_upL A [(0, z22.2)]) B z22.1 z22.2 v3 rfl rfl hz27) kV_X10_append tw_447 ⟨Nat.le_of_ble_eq_true rfl, Nat.le_of_ble_eq_true rfl⟩ rfl rfl rfl rfl rfl hP (rf_DX hD) hS rfl hl.1 (rest := []) rfl (Nat.le_of_ble_eq_true rfl) dX10_feed_27 (fun H locs hP hS => ?_)
    rw [rf_cat (f := I) (l := [(0, z22.1)]) (lc := [(0, z27.1)]) (l' := [(0, z27.1)]) rfl] at hP
    rw [rf_cat (f := A) (l := [(0, z22.2)]) (lc := [(0, z27.2)]) (l' := [(0, z27.2)]) rfl] at hP
    refine lv_aload_n hx hb dX10_feed_30 rfl (lv_at hl 0 rfl) ?_
    refine lv_iload hx hb dX10_feed_31 (lv_at hl 4 rfl) ?_
    obtain ⟨z33, hz33, hf⟩ := rf_bd hf
    refine rf_vv (q0 := 0) (ci := 10) hC (c_X10_append l E a P (rf_upL I [(0, z27.1)]) J (rf_upL A [(0, z27.2)]) B z27.1 z27.2 v4 rfl rfl hz33) kV_X10_append tw_447 ⟨Nat.le_of_ble_eq_true rfl, Nat.le_of_ble_eq_true rfl⟩ rfl rfl rfl rfl rfl hP (rf_DX hD) hS rfl hl.1 (rest := []) rfl (Nat.le_of_ble_eq_true rfl) dX10_feed_33 (fun H locs hP hS => ?_)
    rw [rf_cat (f := I) (l := [(0, z27.1)]) (lc := [(0, z33.1)]) (l' := [(0, z33.1)]) rfl] at hP
    rw [rf_cat (f := A) (l := [(0, z27.2)]) (lc := [(0, z33.2)]) (l' := [(0, z33.2)]) rfl] at hP
    refine lv_aload_n hx hb dX10_feed_36 rfl (lv_at hl 0 rfl) ?_
    refine lv_iload hx hb dX10_feed_37 (lv_at hl 5 rfl) ?_
    obtain ⟨z39, hz39, hf⟩ := rf_bd hf
    refine rf_vv (q0 := 0) (ci := 10) hC (c_X10_append l E a P (rf_upL I [(0, z33.1)]) J (rf_upL A [(0, z33.2)]) B z33.1 z33.2 v5 rfl rfl hz39) kV_X10_append tw_447 ⟨Nat.le_of_ble_eq_true rfl, Nat.le_of_ble_eq_true rfl⟩ rfl rfl rfl rfl rfl hP (rf_DX hD) hS rfl hl.1 (rest := []) rfl (Nat.le_of_ble_eq_true rfl) dX10_feed_39 (fun H locs hP hS => ?_)
    rw [rf_cat (f := I) (l := [(0, z33.1)]) (lc := [(0, z39.1)]) (l' := [(0, z39.1)]) rfl] at hP
    rw [rf_cat (f := A) (l := [(0, z33.2)]) (lc := [(0, z39.2)]) (l' := [(0, z39.2)]) rfl] at hP
    refine lv_aload_n hx hb dX10_feed_42 rfl (lv_at hl 0 rfl) ?_
    refine gX_x_tapeLength hC hP tw_404 (v := z39.1) rfl dX10_feed_43 ?_
    obtain rfl := Option.some.inj hf
    exact rf_reti hC hP hS rfl rfl dX10_feed_46
  have hf := rf_ie c_10 hf
  refine lv_iconst (v := (-1)) hx hb dX10_feed_13 (by decide) ?_
  obtain rfl := Option.some.inj hf
  exact rf_reti hC hP hS rfl rfl dX10_feed_14
set_option maxHeartbeats 4000000 in
set_option maxRecDepth 100000 in
theorem c_X10_refuse (l : Launch) (E : rf_E) (a P : Nat → Nat) (I : Nat → Int32) (J : Nat → Int64) (A : Nat → Nat → Int32) (B : Nat → Nat → Int64) (x_lastTrouble : Int32) (v1 : Int32) {z : Int32 × Int32} (e_x_lastTrouble : I 3 = x_lastTrouble) (hf : f_X10_refuse x_lastTrouble v1 = some z) : rf_MI l yX10_refuse cX10_refuse 2 (some .int) ({ frames := 0, cells := 0, slots := 0, locals := 0 }) E [.ref (a 0), .int v1] (cX E a P I J A B) z.1 (cX E a P (rf_upL I [(3, z.2)]) J A B) := by
  unfold f_X10_refuse at hf
  refine rf_ofI (by decide) (Nat.le_of_ble_eq_true rfl) ?_
  intro p e s m below meth c A0 ls hC hD hP hS hl
  have hC : rf_C p E s m _ meth c cX10_refuse 2 RX10 (some .int) A0 := hC
  have hx := hC.1
  have hb := hC.2.1
  have hl : lv_has ls 2 [(0, .ref (a 0)), (1, .int v1)] := hl
  have hP : va_P (rf_D E) vwCl (cX E a P (rf_upL I [(3, x_lastTrouble)]) J A B) s.heap := by
    rw [rf_self (f := I) [(3, x_lastTrouble)] (rf_fa1 e_x_lastTrouble rf_fa0)]
    exact hP
  refine lv_aload_n hx hb dX10_refuse_0 rfl (lv_at hl 0 rfl) ?_
  refine lv_iload_n hx hb dX10_refuse_1 rfl (lv_at hl 1 rfl) ?_
  refine pX_x_lastTrouble hC hD hP hS tw_407 dX10_refuse_2 (rf_upL I [(3, v1)]) (rf_put rfl) (fun H locs hP hS => ?_)
  refine lv_iconst (v := (-1)) hx hb dX10_refuse_5 (by decide) ?_
  obtain rfl := Option.some.inj hf
  exact rf_reti hC hP hS rfl rfl dX10_refuse_6
set_option maxHeartbeats 4000000 in
set_option maxRecDepth 100000 in
theorem w_X10_refused_18 {l : Launch} {p : Program} {e : Env} {s : State} {m : MethodId} {args : Array Value} {below : List Frame} {meth : Method} {c : Code} {A0 : Nat → Prop} {E : rf_E} {a P : Nat → Nat} {I : Nat → Int32} {J : Nat → Int64} {A : Nat → Nat → Int32} {B : Nat → Nat → Int64} {z : Int32 × Int32} (hC : rf_C p E s m args meth c cX10_refused 3 RX10 (some .boolean) A0) (hD : va_D A0 (cX E a P I J A B)) :
    ∀ (s1 : Int32) (x_lastTrouble : Int32), f_X10_refused_18 s1 x_lastTrouble = some z → ∀ (H : Heap) (locs : List Loc) (ls : Array Slot), va_P (rf_D E) vwCl (cX E a P (rf_upL I [(3, x_lastTrouble)]) J A B) H → va_S A0 s.heap H locs → lv_has ls 3 [(0, .ref (a 0))] → W p l e ({ frames := 0, cells := 0, slots := 0, locals := 0 }) s m args below meth c H locs 0 0 (rf_QI below args s E A0 z.1 (cX E a P (rf_upL I [(3, z.2)]) J A B)) (F0 m 18 ls [.int s1, .ref (a 0)]) := by
  have hx := hC.1
  have hb := hC.2.1
  intro s1 x_lastTrouble hf H locs ls hP hS hl
  unfold f_X10_refused_18 at hf
  refine pX_x_lastTrouble hC hD hP hS tw_407 dX10_refused_18 (rf_upL I [(3, s1)]) (rf_put rfl) (fun H locs hP hS => ?_)
  refine lv_aload_n hx hb dX10_refused_21 rfl (lv_at hl 0 rfl) ?_
  refine gX_x_lastTrouble hC hP tw_407 (v := s1) rfl dX10_refused_22 ?_
  refine lv_if_eq (tgt := 32) hx hb dX10_refused_25 (by decide) (fun c_25 => ?_) (fun c_25 => ?_)
  · have hf := rf_it c_25 hf
    refine lv_iconst (v := 0) hx hb dX10_refused_32 (by decide) ?_
    obtain rfl := Option.some.inj hf
    exact rf_retz hC hP hS (by decide) rfl rfl dX10_refused_33
  have hf := rf_ie c_25 hf
  refine lv_iconst (v := 1) hx hb dX10_refused_28 (by decide) ?_
  refine lv_goto (tgt := 33) hx hb dX10_refused_29 (by decide) ?_
  obtain rfl := Option.some.inj hf
  exact rf_retz hC hP hS (by decide) rfl rfl dX10_refused_33
set_option maxHeartbeats 4000000 in
set_option maxRecDepth 100000 in
theorem c_X10_refused (l : Launch) (E : rf_E) (a P : Nat → Nat) (I : Nat → Int32) (J : Nat → Int64) (A : Nat → Nat → Int32) (B : Nat → Nat → Int64) (x_lastTrouble : Int32) (v1 : Int32) (v2 : Int32) {z : Int32 × Int32} (e_x_lastTrouble : I 3 = x_lastTrouble) (hf : f_X10_refused x_lastTrouble v1 v2 = some z) : rf_MI l yX10_refused cX10_refused 3 (some .boolean) ({ frames := 0, cells := 0, slots := 0, locals := 0 }) E [.ref (a 0), .int v1, .int v2] (cX E a P I J A B) z.1 (cX E a P (rf_upL I [(3, z.2)]) J A B) := by
  unfold f_X10_refused at hf
  refine rf_ofI (by decide) (Nat.le_of_ble_eq_true rfl) ?_
  intro p e s m below meth c A0 ls hC hD hP hS hl
  have hC : rf_C p E s m _ meth c cX10_refused 3 RX10 (some .boolean) A0 := hC
  have hx := hC.1
  have hb := hC.2.1
  have hl : lv_has ls 3 [(0, .ref (a 0)), (1, .int v1), (2, .int v2)] := hl
  have hP : va_P (rf_D E) vwCl (cX E a P (rf_upL I [(3, x_lastTrouble)]) J A B) s.heap := by
    rw [rf_self (f := I) [(3, x_lastTrouble)] (rf_fa1 e_x_lastTrouble rf_fa0)]
    exact hP
  refine lv_aload_n hx hb dX10_refused_0 rfl (lv_at hl 0 rfl) ?_
  refine lv_iload_n hx hb dX10_refused_1 rfl (lv_at hl 1 rfl) ?_
  refine lv_if_ne (tgt := 9) hx hb dX10_refused_2 (by decide) (fun c_2 => ?_) (fun c_2 => ?_)
  · have hf := rf_ie c_2 hf
    refine lv_iload_n hx hb dX10_refused_9 rfl (lv_at hl 2 rfl) ?_
    refine lv_if_ne (tgt := 17) hx hb dX10_refused_10 (by decide) (fun c_10 => ?_) (fun c_10 => ?_)
    · have hf := rf_ie c_10 hf
      refine lv_iconst (v := 0) hx hb dX10_refused_17 (by decide) ?_
      exact w_X10_refused_18 hC hD 0 x_lastTrouble hf _ _ _ hP hS (lv_sub hl [0] rfl)
    have hf := rf_it c_10 hf
    refine lv_iconst (v := 2) hx hb dX10_refused_13 (by decide) ?_
    refine lv_goto (tgt := 18) hx hb dX10_refused_14 (by decide) ?_
    exact w_X10_refused_18 hC hD 2 x_lastTrouble hf _ _ _ hP hS (lv_sub hl [0] rfl)
  have hf := rf_it c_2 hf
  refine lv_iconst (v := 1) hx hb dX10_refused_5 (by decide) ?_
  refine lv_goto (tgt := 18) hx hb dX10_refused_6 (by decide) ?_
  exact w_X10_refused_18 hC hD 1 x_lastTrouble hf _ _ _ hP hS (lv_sub hl [0] rfl)
set_option maxHeartbeats 4000000 in
set_option maxRecDepth 100000 in
theorem c_X2_begin (l : Launch) (E : rf_E) (a P : Nat → Nat) (I : Nat → Int32) (J : Nat → Int64) (A : Nat → Nat → Int32) (B : Nat → Nat → Int64) (td_personCount : Int32) (td_firstFar : Int32) (td_firstWords : Nat → Int32) (now_hour : Int32) (now_paid : Int32) (now_everybody : Int32) (now_far : Int32) (now_words : Nat → Int32) (now_wet : Nat → Int32) {z : Int32 × Int32 × Int32 × Int32 × (Nat → Int32) × (Nat → Int32)} (e_td_personCount : I 31 = td_personCount) (e_td_firstFar : I 32 = td_firstFar) (e_td_firstWords : A 25 = td_firstWords) (e_now_hour : I 4 = now_hour) (e_now_paid : I 5 = now_paid) (e_now_everybody : I 6 = now_everybody) (e_now_far : I 7 = now_far) (e_now_words : A 1 = now_words) (e_now_wet : A 2 = now_wet) (hf : f_X2_begin td_personCount td_firstFar td_firstWords now_hour now_paid now_everybody now_far now_words now_wet = some z) : rf_MV l yX2_begin cX2_begin 2 ({ frames := 6, cells := 0, slots := 0, locals := 200 }) E [.ref (a 1), .ref (a 11)] (cX E a P I J A B) (cX E a P (rf_upL I [(4, z.1), (5, z.2.1), (6, z.2.2.1), (7, z.2.2.2.1)]) J (rf_upL A [(1, z.2.2.2.2.1), (2, z.2.2.2.2.2)]) B) := by
  unfold f_X2_begin at hf
  refine rf_ofV (by decide) (Nat.le_of_ble_eq_true rfl) ?_
  intro p e s m below meth c A0 ls hC hD hP hS hl
  have hC : rf_C p E s m _ meth c cX2_begin 2 RX2 (none) A0 := hC
  have hx := hC.1
  have hb := hC.2.1
  have hl : lv_has ls 2 [(0, .ref (a 1)), (1, .ref (a 11))] := hl
  have hP : va_P (rf_D E) vwCl (cX E a P (rf_upL I [(4, now_hour), (5, now_paid), (6, now_everybody), (7, now_far)]) J (rf_upL A [(1, now_words), (2, now_wet)]) B) s.heap := by
    rw [rf_self (f := I) [(4, now_hour), (5, now_paid), (6, now_everybody), (7, now_far)] (rf_fa1 e_now_hour (rf_fa1 e_now_paid (rf_fa1 e_now_everybody (rf_fa1 e_now_far rf_fa0))))]
    rw [rf_self (f := A) [(1, now_words), (2, now_wet)] (rf_fa1 e_now_words (rf_fa1 e_now_wet rf_fa0))]
    exact hP
  refine lv_aload_n hx hb dX2_begin_0 rfl (lv_at hl 0 rfl) ?_
  refine lv_iconst (v := 0) hx hb dX2_begin_1 (by decide) ?_
  refine pX_now_hour hC hD hP hS tw_39 dX2_begin_2 (rf_upL I [(4, 0), (5, now_paid), (6, now_everybody), (7, now_far)]) (rf_put rfl) (fun H locs hP hS => ?_)
  refine lv_aload_n hx hb dX2_begin_5 rfl (lv_at hl 0 rfl) ?_
  refine lv_iconst (v := 0) hx hb dX2_begin_6 (by decide) ?_
  refine pX_now_paid hC hD hP hS tw_43 dX2_begin_7 (rf_upL I [(4, 0), (5, 0), (6, now_everybody), (7, now_far)]) (rf_put rfl) (fun H locs hP hS => ?_)
  refine lv_aload_n hx hb dX2_begin_10 rfl (lv_at hl 0 rfl) ?_
  refine lv_iconst (v := 1) hx hb dX2_begin_11 (by decide) ?_
  refine lv_aload_n hx hb dX2_begin_12 rfl (lv_at hl 1 rfl) ?_
  refine gX_td_personCount hC hP tw_128 (v := td_personCount) e_td_personCount dX2_begin_13 ?_
  refine lv_ishl hx hb dX2_begin_16 ?_
  refine lv_iconst (v := 1) hx hb dX2_begin_17 (by decide) ?_
  refine lv_isub hx hb dX2_begin_18 ?_
  refine pX_now_everybody hC hD hP hS tw_46 dX2_begin_19 (rf_upL I [(4, 0), (5, 0), (6, ((1 : Int32) <<< (td_personCount &&& 31)) - 1), (7, now_far)]) (rf_put rfl) (fun H locs hP hS => ?_)
  refine lv_aload_n hx hb dX2_begin_22 rfl (lv_at hl 0 rfl) ?_
  refine lv_aload_n hx hb dX2_begin_23 rfl (lv_at hl 1 rfl) ?_
  refine gX_td_firstFar hC hP tw_135 (v := td_firstFar) e_td_firstFar dX2_begin_24 ?_
  refine pX_now_far hC hD hP hS tw_47 dX2_begin_27 (rf_upL I [(4, 0), (5, 0), (6, ((1 : Int32) <<< (td_personCount &&& 31)) - 1), (7, td_firstFar)]) (rf_put rfl) (fun H locs hP hS => ?_)
  refine lv_aload_n hx hb dX2_begin_30 rfl (lv_at hl 1 rfl) ?_
  refine gX_td_firstWords hC hP tw_97 dX2_begin_31 ?_
  refine lv_iconst (v := 0) hx hb dX2_begin_34 (by decide) ?_
  refine lv_aload_n hx hb dX2_begin_35 rfl (lv_at hl 0 rfl) ?_
  refine gX_now_words hC hP tw_49 dX2_begin_36 ?_
  refine lv_iconst (v := 0) hx hb dX2_begin_39 (by decide) ?_
  refine lv_bipush (v := 8) hx hb dX2_begin_40 (by decide) ?_
  obtain ⟨hi_42, hf⟩ := rf_gu hf
  refine yX_td_firstWords_now_words hC hD hP hS hi_42 (f := td_firstWords) e_td_firstWords (g := now_words) rfl tw_701 hl.1 (Nat.le_of_ble_eq_true rfl) ⟨Nat.le_of_ble_eq_true rfl, Nat.le_of_ble_eq_true rfl⟩ dX2_begin_42 (rf_upL A [(1, va_cpy td_firstWords now_words (Int32.toNatClampNeg 0) (Int32.toNatClampNeg 0) (Int32.toNatClampNeg 8)), (2, now_wet)]) (rf_put rfl) (fun H locs hP hS => ?_)
  refine lv_aload_n hx hb dX2_begin_45 rfl (lv_at hl 0 rfl) ?_
  refine gX_now_wet hC hP tw_54 dX2_begin_46 ?_
  refine lv_iconst (v := 0) hx hb dX2_begin_49 (by decide) ?_
  refine fX_now_wet hC hD hP hS (f := now_wet) rfl tw_704  hl.1 (Nat.le_of_ble_eq_true rfl) ⟨Nat.le_of_ble_eq_true rfl, Nat.le_of_ble_eq_true rfl⟩ dX2_begin_50 (rf_upL A [(1, va_cpy td_firstWords now_words (Int32.toNatClampNeg 0) (Int32.toNatClampNeg 0) (Int32.toNatClampNeg 8)), (2, rf_fill 8 0 now_wet)]) (rf_put rfl) (fun H locs hP hS => ?_)
  obtain rfl := Option.some.inj hf
  exact rf_retv hC hP hS rfl dX2_begin_53
set_option maxHeartbeats 4000000 in
set_option maxRecDepth 100000 in
theorem c_X5_fail (l : Launch) (E : rf_E) (a P : Nat → Nat) (I : Nat → Int32) (J : Nat → Int64) (A : Nat → Nat → Int32) (B : Nat → Nat → Int64) (reader_place : Int32) (reader_fault : Int32) (reader_faultPlace : Int32) (v1 : Int32) {z : Int32 × Int32 × Int32} (e_reader_place : I 40 = reader_place) (e_reader_fault : I 45 = reader_fault) (e_reader_faultPlace : I 46 = reader_faultPlace) (hf : f_X5_fail reader_place reader_fault reader_faultPlace v1 = some z) : rf_MI l yX5_fail cX5_fail 2 (some .boolean) ({ frames := 0, cells := 0, slots := 0, locals := 0 }) E [.ref (a 12), .int v1] (cX E a P I J A B) z.1 (cX E a P (rf_upL I [(45, z.2.1), (46, z.2.2)]) J A B) := by
  unfold f_X5_fail at hf
  refine rf_ofI (by decide) (Nat.le_of_ble_eq_true rfl) ?_
  intro p e s m below meth c A0 ls hC hD hP hS hl
  have hC : rf_C p E s m _ meth c cX5_fail 2 RX5 (some .boolean) A0 := hC
  have hx := hC.1
  have hb := hC.2.1
  have hl : lv_has ls 2 [(0, .ref (a 12)), (1, .int v1)] := hl
  have hP : va_P (rf_D E) vwCl (cX E a P (rf_upL I [(45, reader_fault), (46, reader_faultPlace)]) J A B) s.heap := by
    rw [rf_self (f := I) [(45, reader_fault), (46, reader_faultPlace)] (rf_fa1 e_reader_fault (rf_fa1 e_reader_faultPlace rf_fa0))]
    exact hP
  refine lv_aload_n hx hb dX5_fail_0 rfl (lv_at hl 0 rfl) ?_
  refine lv_iload_n hx hb dX5_fail_1 rfl (lv_at hl 1 rfl) ?_
  refine pX_reader_fault hC hD hP hS tw_352 dX5_fail_2 (rf_upL I [(45, v1), (46, reader_faultPlace)]) (rf_put rfl) (fun H locs hP hS => ?_)
  refine lv_aload_n hx hb dX5_fail_5 rfl (lv_at hl 0 rfl) ?_
  refine lv_aload_n hx hb dX5_fail_6 rfl (lv_at hl 0 rfl) ?_
  refine gX_reader_place hC hP tw_344 (v := reader_place) e_reader_place dX5_fail_7 ?_
  refine pX_reader_faultPlace hC hD hP hS tw_354 dX5_fail_10 (rf_upL I [(45, v1), (46, reader_place)]) (rf_put rfl) (fun H locs hP hS => ?_)
  refine lv_iconst (v := 0) hx hb dX5_fail_13 (by decide) ?_
  obtain rfl := Option.some.inj hf
  exact rf_retz hC hP hS (by decide) rfl rfl dX5_fail_14
set_option maxHeartbeats 4000000 in
set_option maxRecDepth 100000 in
theorem w_X5_lookAtDigits_108 {l : Launch} {p : Program} {e : Env} {s : State} {m : MethodId} {args : Array Value} {below : List Frame} {meth : Method} {c : Code} {A0 : Nat → Prop} {E : rf_E} {a P : Nat → Nat} {I : Nat → Int32} {J : Nat → Int64} {A : Nat → Nat → Int32} {B : Nat → Nat → Int64} {reader_end : Int32} {reader_place : Int32} {x_tape : Nat → Int32} {z : Int32 × Int32 × Int32 × Int32} (hC : rf_C p E s m args meth c cX5_lookAtDigits 1 RX5 (none) A0) (hD : va_D A0 (cX E a P I J A B)) (e_reader_end : I 35 = reader_end) (e_reader_place : I 40 = reader_place) (e_x_tape : A 0 = x_tape) :
    ∀ (s1 : Int32) (reader_next : Int32) (reader_sort : Int32) (reader_length : Int32) (reader_whole : Int32), f_X5_lookAtDigits_108 reader_end reader_place x_tape s1 reader_next reader_sort reader_length reader_whole = some z → ∀ (H : Heap) (locs : List Loc) (ls : Array Slot), va_P (rf_D E) vwCl (cX E a P (rf_upL I [(36, reader_next), (39, reader_sort), (41, reader_length), (42, reader_whole)]) J A B) H → va_S A0 s.heap H locs → lv_has ls 1 [] → W p l e ({ frames := 0, cells := 0, slots := 0, locals := 0 }) s m args below meth c H locs 0 0 (rf_QV below args s E A0 (cX E a P (rf_upL I [(36, z.1), (39, z.2.1), (41, z.2.2.1), (42, z.2.2.2)]) J A B)) (F0 m 108 ls [.int s1, .ref (a 12)]) := by
  have hx := hC.1
  have hb := hC.2.1
  intro s1 reader_next reader_sort reader_length reader_whole hf H locs ls hP hS hl
  unfold f_X5_lookAtDigits_108 at hf
  refine pX_reader_sort hC hD hP hS tw_343 dX5_lookAtDigits_108 (rf_upL I [(36, reader_next), (39, s1), (41, reader_length), (42, reader_whole)]) (rf_put rfl) (fun H locs hP hS => ?_)
  obtain rfl := Option.some.inj hf
  exact rf_retv hC hP hS rfl dX5_lookAtDigits_111
set_option maxHeartbeats 4000000 in
set_option maxRecDepth 100000 in
theorem w_X5_lookAtDigits_81 {l : Launch} {p : Program} {e : Env} {s : State} {m : MethodId} {args : Array Value} {below : List Frame} {meth : Method} {c : Code} {A0 : Nat → Prop} {E : rf_E} {a P : Nat → Nat} {I : Nat → Int32} {J : Nat → Int64} {A : Nat → Nat → Int32} {B : Nat → Nat → Int64} {reader_end : Int32} {reader_place : Int32} {x_tape : Nat → Int32} {z : Int32 × Int32 × Int32 × Int32} (hC : rf_C p E s m args meth c cX5_lookAtDigits 1 RX5 (none) A0) (hD : va_D A0 (cX E a P I J A B)) (e_reader_end : I 35 = reader_end) (e_reader_place : I 40 = reader_place) (e_x_tape : A 0 = x_tape) :
    ∀ (reader_next : Int32) (reader_sort : Int32) (reader_length : Int32) (reader_whole : Int32), f_X5_lookAtDigits_81 reader_end reader_place x_tape reader_next reader_sort reader_length reader_whole = some z → ∀ (H : Heap) (locs : List Loc) (ls : Array Slot), va_P (rf_D E) vwCl (cX E a P (rf_upL I [(36, reader_next), (39, reader_sort), (41, reader_length), (42, reader_whole)]) J A B) H → va_S A0 s.heap H locs → lv_has ls 1 [(0, .ref (a 12))] → W p l e ({ frames := 0, cells := 0, slots := 0, locals := 0 }) s m args below meth c H locs 0 0 (rf_QV below args s E A0 (cX E a P (rf_upL I [(36, z.1), (39, z.2.1), (41, z.2.2.1), (42, z.2.2.2)]) J A B)) (F0 m 81 ls []) := by
  have hx := hC.1
  have hb := hC.2.1
  intro reader_next reader_sort reader_length reader_whole hf H locs ls hP hS hl
  unfold f_X5_lookAtDigits_81 at hf
  refine lv_aload_n hx hb dX5_lookAtDigits_81 rfl (lv_at hl 0 rfl) ?_
  refine lv_aload_n hx hb dX5_lookAtDigits_82 rfl (lv_at hl 0 rfl) ?_
  refine gX_reader_next hC hP tw_340 (v := reader_next) rfl dX5_lookAtDigits_83 ?_
  refine lv_aload_n hx hb dX5_lookAtDigits_86 rfl (lv_at hl 0 rfl) ?_
  refine gX_reader_place hC hP tw_344 (v := reader_place) e_reader_place dX5_lookAtDigits_87 ?_
  refine lv_isub hx hb dX5_lookAtDigits_90 ?_
  refine pX_reader_length hC hD hP hS tw_345 dX5_lookAtDigits_91 (rf_upL I [(36, reader_next), (39, reader_sort), (41, reader_next - reader_place), (42, reader_whole)]) (rf_put rfl) (fun H locs hP hS => ?_)
  refine lv_aload_n hx hb dX5_lookAtDigits_94 rfl (lv_at hl 0 rfl) ?_
  refine lv_aload_n hx hb dX5_lookAtDigits_95 rfl (lv_at hl 0 rfl) ?_
  refine gX_reader_length hC hP tw_345 (v := reader_next - reader_place) rfl dX5_lookAtDigits_96 ?_
  refine lv_iconst (v := 3) hx hb dX5_lookAtDigits_99 (by decide) ?_
  refine lv_icmp_gt (tgt := 107) hx hb dX5_lookAtDigits_100 (by decide) (fun c_100 => ?_) (fun c_100 => ?_)
  · have hf := rf_it c_100 hf
    refine lv_iconst (v := 4) hx hb dX5_lookAtDigits_107 (by decide) ?_
    exact w_X5_lookAtDigits_108 hC hD e_reader_end e_reader_place e_x_tape 4 reader_next reader_sort (reader_next - reader_place) reader_whole hf _ _ _ hP hS (lv_sub hl [] rfl)
  have hf := rf_ie c_100 hf
  refine lv_iconst (v := 2) hx hb dX5_lookAtDigits_103 (by decide) ?_
  refine lv_goto (tgt := 108) hx hb dX5_lookAtDigits_104 (by decide) ?_
  exact w_X5_lookAtDigits_108 hC hD e_reader_end e_reader_place e_x_tape 2 reader_next reader_sort (reader_next - reader_place) reader_whole hf _ _ _ hP hS (lv_sub hl [] rfl)
set_option maxHeartbeats 4000000 in
set_option maxRecDepth 100000 in
theorem w_X5_lookAtDigits_5 {l : Launch} {p : Program} {e : Env} {s : State} {m : MethodId} {args : Array Value} {below : List Frame} {meth : Method} {c : Code} {A0 : Nat → Prop} {E : rf_E} {a P : Nat → Nat} {I : Nat → Int32} {J : Nat → Int64} {A : Nat → Nat → Int32} {B : Nat → Nat → Int64} {reader_end : Int32} {reader_place : Int32} {x_tape : Nat → Int32} {z : Int32 × Int32 × Int32 × Int32} (hC : rf_C p E s m args meth c cX5_lookAtDigits 1 RX5 (none) A0) (hD : va_D A0 (cX E a P I J A B)) (e_reader_end : I 35 = reader_end) (e_reader_place : I 40 = reader_place) (e_x_tape : A 0 = x_tape) :
    ∀ (n : Nat), ∀ (reader_next : Int32) (reader_sort : Int32) (reader_length : Int32) (reader_whole : Int32), f_X5_lookAtDigits_5 reader_end reader_place x_tape n reader_next reader_sort reader_length reader_whole = some z → ∀ (H : Heap) (locs : List Loc) (ls : Array Slot), va_P (rf_D E) vwCl (cX E a P (rf_upL I [(36, reader_next), (39, reader_sort), (41, reader_length), (42, reader_whole)]) J A B) H → va_S A0 s.heap H locs → lv_has ls 1 [(0, .ref (a 12))] → W p l e ({ frames := 0, cells := 0, slots := 0, locals := 0 }) s m args below meth c H locs 0 0 (rf_QV below args s E A0 (cX E a P (rf_upL I [(36, z.1), (39, z.2.1), (41, z.2.2.1), (42, z.2.2.2)]) J A B)) (F0 m 5 ls []) := by
  have hx := hC.1
  have hb := hC.2.1
  intro n
  induction n with
  | zero =>
    intro reader_next reader_sort reader_length reader_whole hf
    have hf : (none : Option (Int32 × Int32 × Int32 × Int32)) = some z := hf
    cases hf
  | succ n ih =>
    intro reader_next reader_sort reader_length reader_whole hf H locs ls hP hS hl
    rw [f_X5_lookAtDigits_5] at hf
    refine lv_aload_n hx hb dX5_lookAtDigits_5 rfl (lv_at hl 0 rfl) ?_
    refine gX_reader_next hC hP tw_340 (v := reader_next) rfl dX5_lookAtDigits_6 ?_
    refine lv_aload_n hx hb dX5_lookAtDigits_9 rfl (lv_at hl 0 rfl) ?_
    refine gX_reader_end hC hP tw_339 (v := reader_end) e_reader_end dX5_lookAtDigits_10 ?_
    refine lv_icmp_ge (tgt := 81) hx hb dX5_lookAtDigits_13 (by decide) (fun c_13 => ?_) (fun c_13 => ?_)
    · have hf := rf_it c_13 hf
      exact w_X5_lookAtDigits_81 hC hD e_reader_end e_reader_place e_x_tape reader_next reader_sort reader_length reader_whole hf _ _ _ hP hS (lv_sub hl [0] rfl)
    have hf := rf_ie c_13 hf
    refine lv_aload_n hx hb dX5_lookAtDigits_16 rfl (lv_at hl 0 rfl) ?_
    refine gX_reader_bytes hC hP tw_337 dX5_lookAtDigits_17 ?_
    refine lv_aload_n hx hb dX5_lookAtDigits_20 rfl (lv_at hl 0 rfl) ?_
    refine gX_reader_next hC hP tw_340 (v := reader_next) rfl dX5_lookAtDigits_21 ?_
    obtain ⟨hi_24, hf⟩ := rf_gu hf
    refine lX_x_tape hC hP hi_24 (f := x_tape) e_x_tape dX5_lookAtDigits_24 ?_
    refine lv_bipush (v := 48) hx hb dX5_lookAtDigits_25 (by decide) ?_
    refine lv_icmp_lt (tgt := 81) hx hb dX5_lookAtDigits_27 (by decide) (fun c_27 => ?_) (fun c_27 => ?_)
    · have hf := rf_it c_27 hf
      exact w_X5_lookAtDigits_81 hC hD e_reader_end e_reader_place e_x_tape reader_next reader_sort reader_length reader_whole hf _ _ _ hP hS (lv_sub hl [0] rfl)
    have hf := rf_ie c_27 hf
    refine lv_aload_n hx hb dX5_lookAtDigits_30 rfl (lv_at hl 0 rfl) ?_
    refine gX_reader_bytes hC hP tw_337 dX5_lookAtDigits_31 ?_
    refine lv_aload_n hx hb dX5_lookAtDigits_34 rfl (lv_at hl 0 rfl) ?_
    refine gX_reader_next hC hP tw_340 (v := reader_next) rfl dX5_lookAtDigits_35 ?_
    obtain ⟨hi_38, hf⟩ := rf_gu hf
    refine lX_x_tape hC hP hi_38 (f := x_tape) e_x_tape dX5_lookAtDigits_38 ?_
    refine lv_bipush (v := 57) hx hb dX5_lookAtDigits_39 (by decide) ?_
    refine lv_icmp_gt (tgt := 81) hx hb dX5_lookAtDigits_41 (by decide) (fun c_41 => ?_) (fun c_41 => ?_)
    · have hf := rf_it c_41 hf
      exact w_X5_lookAtDigits_81 hC hD e_reader_end e_reader_place e_x_tape reader_next reader_sort reader_length reader_whole hf _ _ _ hP hS (lv_sub hl [0] rfl)
    have hf := rf_ie c_41 hf
    refine lv_aload_n hx hb dX5_lookAtDigits_44 rfl (lv_at hl 0 rfl) ?_
    refine lv_aload_n hx hb dX5_lookAtDigits_45 rfl (lv_at hl 0 rfl) ?_
    refine gX_reader_whole hC hP tw_347 (v := reader_whole) rfl dX5_lookAtDigits_46 ?_
    refine lv_bipush (v := 10) hx hb dX5_lookAtDigits_49 (by decide) ?_
    refine lv_imul hx hb dX5_lookAtDigits_51 ?_
    refine lv_aload_n hx hb dX5_lookAtDigits_52 rfl (lv_at hl 0 rfl) ?_
    refine gX_reader_bytes hC hP tw_337 dX5_lookAtDigits_53 ?_
    refine lv_aload_n hx hb dX5_lookAtDigits_56 rfl (lv_at hl 0 rfl) ?_
    refine gX_reader_next hC hP tw_340 (v := reader_next) rfl dX5_lookAtDigits_57 ?_
    obtain ⟨hi_60, hf⟩ := rf_gu hf
    refine lX_x_tape hC hP hi_60 (f := x_tape) e_x_tape dX5_lookAtDigits_60 ?_
    refine lv_bipush (v := 48) hx hb dX5_lookAtDigits_61 (by decide) ?_
    refine lv_isub hx hb dX5_lookAtDigits_63 ?_
    refine lv_iadd hx hb dX5_lookAtDigits_64 ?_
    refine pX_reader_whole hC hD hP hS tw_347 dX5_lookAtDigits_65 (rf_upL I [(36, reader_next), (39, reader_sort), (41, reader_length), (42, (reader_whole * 10) + ((x_tape (Int32.toNatClampNeg reader_next)) - 48))]) (rf_put rfl) (fun H locs hP hS => ?_)
    refine lv_aload_n hx hb dX5_lookAtDigits_68 rfl (lv_at hl 0 rfl) ?_
    refine lv_dup hx hb dX5_lookAtDigits_69 rfl ?_
    refine gX_reader_next hC hP tw_340 (v := reader_next) rfl dX5_lookAtDigits_70 ?_
    refine lv_iconst (v := 1) hx hb dX5_lookAtDigits_73 (by decide) ?_
    refine lv_iadd hx hb dX5_lookAtDigits_74 ?_
    refine pX_reader_next hC hD hP hS tw_340 dX5_lookAtDigits_75 (rf_upL I [(36, reader_next + 1), (39, reader_sort), (41, reader_length), (42, (reader_whole * 10) + ((x_tape (Int32.toNatClampNeg reader_next)) - 48))]) (rf_put rfl) (fun H locs hP hS => ?_)
    refine lv_goto (tgt := 5) hx hb dX5_lookAtDigits_78 (by decide) ?_
    exact ih (reader_next + 1) reader_sort reader_length ((reader_whole * 10) + ((x_tape (Int32.toNatClampNeg reader_next)) - 48)) hf _ _ _ hP hS (lv_sub hl [0] rfl)
set_option maxHeartbeats 4000000 in
set_option maxRecDepth 100000 in
theorem c_X5_lookAtDigits (l : Launch) (E : rf_E) (a P : Nat → Nat) (I : Nat → Int32) (J : Nat → Int64) (A : Nat → Nat → Int32) (B : Nat → Nat → Int64) (reader_end : Int32) (reader_place : Int32) (x_tape : Nat → Int32) (reader_next : Int32) (reader_sort : Int32) (reader_length : Int32) (reader_whole : Int32) {z : Int32 × Int32 × Int32 × Int32} (e_reader_end : I 35 = reader_end) (e_reader_place : I 40 = reader_place) (e_x_tape : A 0 = x_tape) (e_reader_next : I 36 = reader_next) (e_reader_sort : I 39 = reader_sort) (e_reader_length : I 41 = reader_length) (e_reader_whole : I 42 = reader_whole) (hf : f_X5_lookAtDigits reader_end reader_place x_tape reader_next reader_sort reader_length reader_whole = some z) : rf_MV l yX5_lookAtDigits cX5_lookAtDigits 1 ({ frames := 0, cells := 0, slots := 0, locals := 0 }) E [.ref (a 12)] (cX E a P I J A B) (cX E a P (rf_upL I [(36, z.1), (39, z.2.1), (41, z.2.2.1), (42, z.2.2.2)]) J A B) := by
  unfold f_X5_lookAtDigits at hf
  refine rf_ofV (by decide) (Nat.le_of_ble_eq_true rfl) ?_
  intro p e s m below meth c A0 ls hC hD hP hS hl
  have hC : rf_C p E s m _ meth c cX5_lookAtDigits 1 RX5 (none) A0 := hC
  have hx := hC.1
  have hb := hC.2.1
  have hl : lv_has ls 1 [(0, .ref (a 12))] := hl
  have hP : va_P (rf_D E) vwCl (cX E a P (rf_upL I [(36, reader_next), (39, reader_sort), (41, reader_length), (42, reader_whole)]) J A B) s.heap := by
    rw [rf_self (f := I) [(36, reader_next), (39, reader_sort), (41, reader_length), (42, reader_whole)] (rf_fa1 e_reader_next (rf_fa1 e_reader_sort (rf_fa1 e_reader_length (rf_fa1 e_reader_whole rf_fa0))))]
    exact hP
  refine lv_aload_n hx hb dX5_lookAtDigits_0 rfl (lv_at hl 0 rfl) ?_
  refine lv_iconst (v := 0) hx hb dX5_lookAtDigits_1 (by decide) ?_
  refine pX_reader_whole hC hD hP hS tw_347 dX5_lookAtDigits_2 (rf_upL I [(36, reader_next), (39, reader_sort), (41, reader_length), (42, 0)]) (rf_put rfl) (fun H locs hP hS => ?_)
  exact w_X5_lookAtDigits_5 hC hD e_reader_end e_reader_place e_x_tape rf_fu reader_next reader_sort reader_length 0 hf _ _ _ hP hS (lv_sub hl [0] rfl)
set_option maxHeartbeats 4000000 in
set_option maxRecDepth 100000 in
theorem w_X5_lookAtLetters_111 {l : Launch} {p : Program} {e : Env} {s : State} {m : MethodId} {args : Array Value} {below : List Frame} {meth : Method} {c : Code} {A0 : Nat → Prop} {E : rf_E} {a P : Nat → Nat} {I : Nat → Int32} {J : Nat → Int64} {A : Nat → Nat → Int32} {B : Nat → Nat → Int64} {reader_end : Int32} {reader_place : Int32} {x_tape : Nat → Int32} {z : Int32 × Int32 × Int32 × Int64} (hC : rf_C p E s m args meth c cX5_lookAtLetters 1 RX5 (none) A0) (hD : va_D A0 (cX E a P I J A B)) (e_reader_end : I 35 = reader_end) (e_reader_place : I 40 = reader_place) (e_x_tape : A 0 = x_tape) :
    ∀ (s1 : Int32) (reader_next : Int32) (reader_sort : Int32) (reader_length : Int32) (reader_letters : Int64), f_X5_lookAtLetters_111 reader_end reader_place x_tape s1 reader_next reader_sort reader_length reader_letters = some z → ∀ (H : Heap) (locs : List Loc) (ls : Array Slot), va_P (rf_D E) vwCl (cX E a P (rf_upL I [(36, reader_next), (39, reader_sort), (41, reader_length)]) (rf_upL J [(0, reader_letters)]) A B) H → va_S A0 s.heap H locs → lv_has ls 1 [] → W p l e ({ frames := 0, cells := 0, slots := 0, locals := 0 }) s m args below meth c H locs 0 0 (rf_QV below args s E A0 (cX E a P (rf_upL I [(36, z.1), (39, z.2.1), (41, z.2.2.1)]) (rf_upL J [(0, z.2.2.2)]) A B)) (F0 m 111 ls [.int s1, .ref (a 12)]) := by
  have hx := hC.1
  have hb := hC.2.1
  intro s1 reader_next reader_sort reader_length reader_letters hf H locs ls hP hS hl
  unfold f_X5_lookAtLetters_111 at hf
  refine pX_reader_sort hC hD hP hS tw_343 dX5_lookAtLetters_111 (rf_upL I [(36, reader_next), (39, s1), (41, reader_length)]) (rf_put rfl) (fun H locs hP hS => ?_)
  obtain rfl := Option.some.inj hf
  exact rf_retv hC hP hS rfl dX5_lookAtLetters_114
set_option maxHeartbeats 4000000 in
set_option maxRecDepth 100000 in
theorem w_X5_lookAtLetters_83 {l : Launch} {p : Program} {e : Env} {s : State} {m : MethodId} {args : Array Value} {below : List Frame} {meth : Method} {c : Code} {A0 : Nat → Prop} {E : rf_E} {a P : Nat → Nat} {I : Nat → Int32} {J : Nat → Int64} {A : Nat → Nat → Int32} {B : Nat → Nat → Int64} {reader_end : Int32} {reader_place : Int32} {x_tape : Nat → Int32} {z : Int32 × Int32 × Int32 × Int64} (hC : rf_C p E s m args meth c cX5_lookAtLetters 1 RX5 (none) A0) (hD : va_D A0 (cX E a P I J A B)) (e_reader_end : I 35 = reader_end) (e_reader_place : I 40 = reader_place) (e_x_tape : A 0 = x_tape) :
    ∀ (reader_next : Int32) (reader_sort : Int32) (reader_length : Int32) (reader_letters : Int64), f_X5_lookAtLetters_83 reader_end reader_place x_tape reader_next reader_sort reader_length reader_letters = some z → ∀ (H : Heap) (locs : List Loc) (ls : Array Slot), va_P (rf_D E) vwCl (cX E a P (rf_upL I [(36, reader_next), (39, reader_sort), (41, reader_length)]) (rf_upL J [(0, reader_letters)]) A B) H → va_S A0 s.heap H locs → lv_has ls 1 [(0, .ref (a 12))] → W p l e ({ frames := 0, cells := 0, slots := 0, locals := 0 }) s m args below meth c H locs 0 0 (rf_QV below args s E A0 (cX E a P (rf_upL I [(36, z.1), (39, z.2.1), (41, z.2.2.1)]) (rf_upL J [(0, z.2.2.2)]) A B)) (F0 m 83 ls []) := by
  have hx := hC.1
  have hb := hC.2.1
  intro reader_next reader_sort reader_length reader_letters hf H locs ls hP hS hl
  unfold f_X5_lookAtLetters_83 at hf
  refine lv_aload_n hx hb dX5_lookAtLetters_83 rfl (lv_at hl 0 rfl) ?_
  refine lv_aload_n hx hb dX5_lookAtLetters_84 rfl (lv_at hl 0 rfl) ?_
  refine gX_reader_next hC hP tw_340 (v := reader_next) rfl dX5_lookAtLetters_85 ?_
  refine lv_aload_n hx hb dX5_lookAtLetters_88 rfl (lv_at hl 0 rfl) ?_
  refine gX_reader_place hC hP tw_344 (v := reader_place) e_reader_place dX5_lookAtLetters_89 ?_
  refine lv_isub hx hb dX5_lookAtLetters_92 ?_
  refine pX_reader_length hC hD hP hS tw_345 dX5_lookAtLetters_93 (rf_upL I [(36, reader_next), (39, reader_sort), (41, reader_next - reader_place)]) (rf_put rfl) (fun H locs hP hS => ?_)
  refine lv_aload_n hx hb dX5_lookAtLetters_96 rfl (lv_at hl 0 rfl) ?_
  refine lv_aload_n hx hb dX5_lookAtLetters_97 rfl (lv_at hl 0 rfl) ?_
  refine gX_reader_length hC hP tw_345 (v := reader_next - reader_place) rfl dX5_lookAtLetters_98 ?_
  refine lv_bipush (v := 8) hx hb dX5_lookAtLetters_101 (by decide) ?_
  refine lv_icmp_gt (tgt := 110) hx hb dX5_lookAtLetters_103 (by decide) (fun c_103 => ?_) (fun c_103 => ?_)
  · have hf := rf_it c_103 hf
    refine lv_iconst (v := 4) hx hb dX5_lookAtLetters_110 (by decide) ?_
    exact w_X5_lookAtLetters_111 hC hD e_reader_end e_reader_place e_x_tape 4 reader_next reader_sort (reader_next - reader_place) reader_letters hf _ _ _ hP hS (lv_sub hl [] rfl)
  have hf := rf_ie c_103 hf
  refine lv_iconst (v := 1) hx hb dX5_lookAtLetters_106 (by decide) ?_
  refine lv_goto (tgt := 111) hx hb dX5_lookAtLetters_107 (by decide) ?_
  exact w_X5_lookAtLetters_111 hC hD e_reader_end e_reader_place e_x_tape 1 reader_next reader_sort (reader_next - reader_place) reader_letters hf _ _ _ hP hS (lv_sub hl [] rfl)
set_option maxHeartbeats 4000000 in
set_option maxRecDepth 100000 in
theorem w_X5_lookAtLetters_5 {l : Launch} {p : Program} {e : Env} {s : State} {m : MethodId} {args : Array Value} {below : List Frame} {meth : Method} {c : Code} {A0 : Nat → Prop} {E : rf_E} {a P : Nat → Nat} {I : Nat → Int32} {J : Nat → Int64} {A : Nat → Nat → Int32} {B : Nat → Nat → Int64} {reader_end : Int32} {reader_place : Int32} {x_tape : Nat → Int32} {z : Int32 × Int32 × Int32 × Int64} (hC : rf_C p E s m args meth c cX5_lookAtLetters 1 RX5 (none) A0) (hD : va_D A0 (cX E a P I J A B)) (e_reader_end : I 35 = reader_end) (e_reader_place : I 40 = reader_place) (e_x_tape : A 0 = x_tape) :
    ∀ (n : Nat), ∀ (reader_next : Int32) (reader_sort : Int32) (reader_length : Int32) (reader_letters : Int64), f_X5_lookAtLetters_5 reader_end reader_place x_tape n reader_next reader_sort reader_length reader_letters = some z → ∀ (H : Heap) (locs : List Loc) (ls : Array Slot), va_P (rf_D E) vwCl (cX E a P (rf_upL I [(36, reader_next), (39, reader_sort), (41, reader_length)]) (rf_upL J [(0, reader_letters)]) A B) H → va_S A0 s.heap H locs → lv_has ls 1 [(0, .ref (a 12))] → W p l e ({ frames := 0, cells := 0, slots := 0, locals := 0 }) s m args below meth c H locs 0 0 (rf_QV below args s E A0 (cX E a P (rf_upL I [(36, z.1), (39, z.2.1), (41, z.2.2.1)]) (rf_upL J [(0, z.2.2.2)]) A B)) (F0 m 5 ls []) := by
  have hx := hC.1
  have hb := hC.2.1
  intro n
  induction n with
  | zero =>
    intro reader_next reader_sort reader_length reader_letters hf
    have hf : (none : Option (Int32 × Int32 × Int32 × Int64)) = some z := hf
    cases hf
  | succ n ih =>
    intro reader_next reader_sort reader_length reader_letters hf H locs ls hP hS hl
    rw [f_X5_lookAtLetters_5] at hf
    refine lv_aload_n hx hb dX5_lookAtLetters_5 rfl (lv_at hl 0 rfl) ?_
    refine gX_reader_next hC hP tw_340 (v := reader_next) rfl dX5_lookAtLetters_6 ?_
    refine lv_aload_n hx hb dX5_lookAtLetters_9 rfl (lv_at hl 0 rfl) ?_
    refine gX_reader_end hC hP tw_339 (v := reader_end) e_reader_end dX5_lookAtLetters_10 ?_
    refine lv_icmp_ge (tgt := 83) hx hb dX5_lookAtLetters_13 (by decide) (fun c_13 => ?_) (fun c_13 => ?_)
    · have hf := rf_it c_13 hf
      exact w_X5_lookAtLetters_83 hC hD e_reader_end e_reader_place e_x_tape reader_next reader_sort reader_length reader_letters hf _ _ _ hP hS (lv_sub hl [0] rfl)
    have hf := rf_ie c_13 hf
    refine lv_aload_n hx hb dX5_lookAtLetters_16 rfl (lv_at hl 0 rfl) ?_
    refine gX_reader_bytes hC hP tw_337 dX5_lookAtLetters_17 ?_
    refine lv_aload_n hx hb dX5_lookAtLetters_20 rfl (lv_at hl 0 rfl) ?_
    refine gX_reader_next hC hP tw_340 (v := reader_next) rfl dX5_lookAtLetters_21 ?_
    obtain ⟨hi_24, hf⟩ := rf_gu hf
    refine lX_x_tape hC hP hi_24 (f := x_tape) e_x_tape dX5_lookAtLetters_24 ?_
    refine lv_bipush (v := 97) hx hb dX5_lookAtLetters_25 (by decide) ?_
    refine lv_icmp_lt (tgt := 83) hx hb dX5_lookAtLetters_27 (by decide) (fun c_27 => ?_) (fun c_27 => ?_)
    · have hf := rf_it c_27 hf
      exact w_X5_lookAtLetters_83 hC hD e_reader_end e_reader_place e_x_tape reader_next reader_sort reader_length reader_letters hf _ _ _ hP hS (lv_sub hl [0] rfl)
    have hf := rf_ie c_27 hf
    refine lv_aload_n hx hb dX5_lookAtLetters_30 rfl (lv_at hl 0 rfl) ?_
    refine gX_reader_bytes hC hP tw_337 dX5_lookAtLetters_31 ?_
    refine lv_aload_n hx hb dX5_lookAtLetters_34 rfl (lv_at hl 0 rfl) ?_
    refine gX_reader_next hC hP tw_340 (v := reader_next) rfl dX5_lookAtLetters_35 ?_
    obtain ⟨hi_38, hf⟩ := rf_gu hf
    refine lX_x_tape hC hP hi_38 (f := x_tape) e_x_tape dX5_lookAtLetters_38 ?_
    refine lv_bipush (v := 122) hx hb dX5_lookAtLetters_39 (by decide) ?_
    refine lv_icmp_gt (tgt := 83) hx hb dX5_lookAtLetters_41 (by decide) (fun c_41 => ?_) (fun c_41 => ?_)
    · have hf := rf_it c_41 hf
      exact w_X5_lookAtLetters_83 hC hD e_reader_end e_reader_place e_x_tape reader_next reader_sort reader_length reader_letters hf _ _ _ hP hS (lv_sub hl [0] rfl)
    have hf := rf_ie c_41 hf
    refine lv_aload_n hx hb dX5_lookAtLetters_44 rfl (lv_at hl 0 rfl) ?_
    refine lv_aload_n hx hb dX5_lookAtLetters_45 rfl (lv_at hl 0 rfl) ?_
    refine gX_reader_letters hC hP tw_346 (v := reader_letters) rfl dX5_lookAtLetters_46 ?_
    refine lv_iconst (v := 5) hx hb dX5_lookAtLetters_49 (by decide) ?_
    refine lv_lshl hx hb dX5_lookAtLetters_50 rfl ?_
    refine lv_aload_n hx hb dX5_lookAtLetters_51 rfl (lv_at hl 0 rfl) ?_
    refine gX_reader_bytes hC hP tw_337 dX5_lookAtLetters_52 ?_
    refine lv_aload_n hx hb dX5_lookAtLetters_55 rfl (lv_at hl 0 rfl) ?_
    refine gX_reader_next hC hP tw_340 (v := reader_next) rfl dX5_lookAtLetters_56 ?_
    obtain ⟨hi_59, hf⟩ := rf_gu hf
    refine lX_x_tape hC hP hi_59 (f := x_tape) e_x_tape dX5_lookAtLetters_59 ?_
    refine lv_bipush (v := 97) hx hb dX5_lookAtLetters_60 (by decide) ?_
    refine lv_isub hx hb dX5_lookAtLetters_62 ?_
    refine lv_iconst (v := 1) hx hb dX5_lookAtLetters_63 (by decide) ?_
    refine lv_iadd hx hb dX5_lookAtLetters_64 ?_
    refine lv_i2l hx hb dX5_lookAtLetters_65 rfl ?_
    refine lv_ladd hx hb dX5_lookAtLetters_66 ?_
    refine pX_reader_letters hC hD hP hS tw_346 dX5_lookAtLetters_67 (rf_upL J [(0, (reader_letters <<< ((Int32.toInt64 5) &&& 63)) + (Int32.toInt64 (((x_tape (Int32.toNatClampNeg reader_next)) - 97) + 1)))]) (rf_put rfl) (fun H locs hP hS => ?_)
    refine lv_aload_n hx hb dX5_lookAtLetters_70 rfl (lv_at hl 0 rfl) ?_
    refine lv_dup hx hb dX5_lookAtLetters_71 rfl ?_
    refine gX_reader_next hC hP tw_340 (v := reader_next) rfl dX5_lookAtLetters_72 ?_
    refine lv_iconst (v := 1) hx hb dX5_lookAtLetters_75 (by decide) ?_
    refine lv_iadd hx hb dX5_lookAtLetters_76 ?_
    refine pX_reader_next hC hD hP hS tw_340 dX5_lookAtLetters_77 (rf_upL I [(36, reader_next + 1), (39, reader_sort), (41, reader_length)]) (rf_put rfl) (fun H locs hP hS => ?_)
    refine lv_goto (tgt := 5) hx hb dX5_lookAtLetters_80 (by decide) ?_
    exact ih (reader_next + 1) reader_sort reader_length ((reader_letters <<< ((Int32.toInt64 5) &&& 63)) + (Int32.toInt64 (((x_tape (Int32.toNatClampNeg reader_next)) - 97) + 1))) hf _ _ _ hP hS (lv_sub hl [0] rfl)
set_option maxHeartbeats 4000000 in
set_option maxRecDepth 100000 in
theorem c_X5_lookAtLetters (l : Launch) (E : rf_E) (a P : Nat → Nat) (I : Nat → Int32) (J : Nat → Int64) (A : Nat → Nat → Int32) (B : Nat → Nat → Int64) (reader_end : Int32) (reader_place : Int32) (x_tape : Nat → Int32) (reader_next : Int32) (reader_sort : Int32) (reader_length : Int32) (reader_letters : Int64) {z : Int32 × Int32 × Int32 × Int64} (e_reader_end : I 35 = reader_end) (e_reader_place : I 40 = reader_place) (e_x_tape : A 0 = x_tape) (e_reader_next : I 36 = reader_next) (e_reader_sort : I 39 = reader_sort) (e_reader_length : I 41 = reader_length) (e_reader_letters : J 0 = reader_letters) (hf : f_X5_lookAtLetters reader_end reader_place x_tape reader_next reader_sort reader_length reader_letters = some z) : rf_MV l yX5_lookAtLetters cX5_lookAtLetters 1 ({ frames := 0, cells := 0, slots := 0, locals := 0 }) E [.ref (a 12)] (cX E a P I J A B) (cX E a P (rf_upL I [(36, z.1), (39, z.2.1), (41, z.2.2.1)]) (rf_upL J [(0, z.2.2.2)]) A B) := by
  unfold f_X5_lookAtLetters at hf
  refine rf_ofV (by decide) (Nat.le_of_ble_eq_true rfl) ?_
  intro p e s m below meth c A0 ls hC hD hP hS hl
  have hC : rf_C p E s m _ meth c cX5_lookAtLetters 1 RX5 (none) A0 := hC
  have hx := hC.1
  have hb := hC.2.1
  have hl : lv_has ls 1 [(0, .ref (a 12))] := hl
  have hP : va_P (rf_D E) vwCl (cX E a P (rf_upL I [(36, reader_next), (39, reader_sort), (41, reader_length)]) (rf_upL J [(0, reader_letters)]) A B) s.heap := by
    rw [rf_self (f := I) [(36, reader_next), (39, reader_sort), (41, reader_length)] (rf_fa1 e_reader_next (rf_fa1 e_reader_sort (rf_fa1 e_reader_length rf_fa0)))]
    rw [rf_self (f := J) [(0, reader_letters)] (rf_fa1 e_reader_letters rf_fa0)]
    exact hP
  refine lv_aload_n hx hb dX5_lookAtLetters_0 rfl (lv_at hl 0 rfl) ?_
  refine lv_lconst (v := 0) hx hb dX5_lookAtLetters_1 (by decide) ?_
  refine pX_reader_letters hC hD hP hS tw_346 dX5_lookAtLetters_2 (rf_upL J [(0, 0)]) (rf_put rfl) (fun H locs hP hS => ?_)
  exact w_X5_lookAtLetters_5 hC hD e_reader_end e_reader_place e_x_tape rf_fu reader_next reader_sort reader_length 0 hf _ _ _ hP hS (lv_sub hl [0] rfl)
set_option maxHeartbeats 4000000 in
set_option maxRecDepth 100000 in
theorem w_X5_look_123 {l : Launch} {p : Program} {e : Env} {s : State} {m : MethodId} {args : Array Value} {below : List Frame} {meth : Method} {c : Code} {A0 : Nat → Prop} {E : rf_E} {a P : Nat → Nat} {I : Nat → Int32} {J : Nat → Int64} {A : Nat → Nat → Int32} {B : Nat → Nat → Int64} {reader_end : Int32} {x_tape : Nat → Int32} {z : Int32 × Int32 × Int32 × Int32 × Int64 × Int32} (hC : rf_C p E s m args meth c cX5_look 2 RX5 (none) A0) (hD : va_D A0 (cX E a P I J A B)) (e_reader_end : I 35 = reader_end) (e_x_tape : A 0 = x_tape) :
    ∀ (s1 : Int32) (reader_next : Int32) (reader_sort : Int32) (reader_place : Int32) (reader_length : Int32) (reader_letters : Int64) (reader_whole : Int32), f_X5_look_123 reader_end x_tape s1 reader_next reader_sort reader_place reader_length reader_letters reader_whole = some z → ∀ (H : Heap) (locs : List Loc) (ls : Array Slot), va_P (rf_D E) vwCl (cX E a P (rf_upL I [(36, reader_next), (39, reader_sort), (40, reader_place), (41, reader_length), (42, reader_whole)]) (rf_upL J [(0, reader_letters)]) A B) H → va_S A0 s.heap H locs → lv_has ls 2 [(0, .ref (a 12))] → W p l e ({ frames := 1, cells := 0, slots := 0, locals := 20 }) s m args below meth c H locs 0 0 (rf_QV below args s E A0 (cX E a P (rf_upL I [(36, z.1), (39, z.2.1), (40, z.2.2.1), (41, z.2.2.2.1), (42, z.2.2.2.2.2)]) (rf_upL J [(0, z.2.2.2.2.1)]) A B)) (F0 m 123 ls [.int s1, .ref (a 12)]) := by
  have hx := hC.1
  have hb := hC.2.1
  intro s1 reader_next reader_sort reader_place reader_length reader_letters reader_whole hf H locs ls hP hS hl
  unfold f_X5_look_123 at hf
  refine pX_reader_sort hC hD hP hS tw_343 dX5_look_123 (rf_upL I [(36, reader_next), (39, s1), (40, reader_place), (41, reader_length), (42, reader_whole)]) (rf_put rfl) (fun H locs hP hS => ?_)
  refine lv_aload_n hx hb dX5_look_126 rfl (lv_at hl 0 rfl) ?_
  refine lv_dup hx hb dX5_look_127 rfl ?_
  refine gX_reader_next hC hP tw_340 (v := reader_next) rfl dX5_look_128 ?_
  refine lv_iconst (v := 1) hx hb dX5_look_131 (by decide) ?_
  refine lv_iadd hx hb dX5_look_132 ?_
  refine pX_reader_next hC hD hP hS tw_340 dX5_look_133 (rf_upL I [(36, reader_next + 1), (39, s1), (40, reader_place), (41, reader_length), (42, reader_whole)]) (rf_put rfl) (fun H locs hP hS => ?_)
  obtain rfl := Option.some.inj hf
  exact rf_retv hC hP hS rfl dX5_look_136
set_option maxHeartbeats 4000000 in
set_option maxRecDepth 100000 in
theorem w_X5_look_111 {l : Launch} {p : Program} {e : Env} {s : State} {m : MethodId} {args : Array Value} {below : List Frame} {meth : Method} {c : Code} {A0 : Nat → Prop} {E : rf_E} {a P : Nat → Nat} {I : Nat → Int32} {J : Nat → Int64} {A : Nat → Nat → Int32} {B : Nat → Nat → Int64} {reader_end : Int32} {x_tape : Nat → Int32} {z : Int32 × Int32 × Int32 × Int32 × Int64 × Int32} (hC : rf_C p E s m args meth c cX5_look 2 RX5 (none) A0) (hD : va_D A0 (cX E a P I J A B)) (e_reader_end : I 35 = reader_end) (e_x_tape : A 0 = x_tape) :
    ∀ (v1 : Int32) (reader_next : Int32) (reader_sort : Int32) (reader_place : Int32) (reader_length : Int32) (reader_letters : Int64) (reader_whole : Int32), f_X5_look_111 reader_end x_tape v1 reader_next reader_sort reader_place reader_length reader_letters reader_whole = some z → ∀ (H : Heap) (locs : List Loc) (ls : Array Slot), va_P (rf_D E) vwCl (cX E a P (rf_upL I [(36, reader_next), (39, reader_sort), (40, reader_place), (41, reader_length), (42, reader_whole)]) (rf_upL J [(0, reader_letters)]) A B) H → va_S A0 s.heap H locs → lv_has ls 2 [(0, .ref (a 12)), (1, .int v1)] → W p l e ({ frames := 1, cells := 0, slots := 0, locals := 20 }) s m args below meth c H locs 0 0 (rf_QV below args s E A0 (cX E a P (rf_upL I [(36, z.1), (39, z.2.1), (40, z.2.2.1), (41, z.2.2.2.1), (42, z.2.2.2.2.2)]) (rf_upL J [(0, z.2.2.2.2.1)]) A B)) (F0 m 111 ls []) := by
  have hx := hC.1
  have hb := hC.2.1
  intro v1 reader_next reader_sort reader_place reader_length reader_letters reader_whole hf H locs ls hP hS hl
  unfold f_X5_look_111 at hf
  refine lv_aload_n hx hb dX5_look_111 rfl (lv_at hl 0 rfl) ?_
  refine lv_iload_n hx hb dX5_look_112 rfl (lv_at hl 1 rfl) ?_
  refine lv_bipush (v := 59) hx hb dX5_look_113 (by decide) ?_
  refine lv_icmp_ne (tgt := 122) hx hb dX5_look_115 (by decide) (fun c_115 => ?_) (fun c_115 => ?_)
  · have hf := rf_ie c_115 hf
    refine lv_iconst (v := 4) hx hb dX5_look_122 (by decide) ?_
    exact w_X5_look_123 hC hD e_reader_end e_x_tape 4 reader_next reader_sort reader_place reader_length reader_letters reader_whole hf _ _ _ hP hS (lv_sub hl [0] rfl)
  have hf := rf_it c_115 hf
  refine lv_iconst (v := 3) hx hb dX5_look_118 (by decide) ?_
  refine lv_goto (tgt := 123) hx hb dX5_look_119 (by decide) ?_
  exact w_X5_look_123 hC hD e_reader_end e_x_tape 3 reader_next reader_sort reader_place reader_length reader_letters reader_whole hf _ _ _ hP hS (lv_sub hl [0] rfl)
set_option maxHeartbeats 4000000 in
set_option maxRecDepth 100000 in
theorem w_X5_look_92 {l : Launch} {p : Program} {e : Env} {s : State} {m : MethodId} {args : Array Value} {below : List Frame} {meth : Method} {c : Code} {A0 : Nat → Prop} {E : rf_E} {a P : Nat → Nat} {I : Nat → Int32} {J : Nat → Int64} {A : Nat → Nat → Int32} {B : Nat → Nat → Int64} {reader_end : Int32} {x_tape : Nat → Int32} {z : Int32 × Int32 × Int32 × Int32 × Int64 × Int32} (hC : rf_C p E s m args meth c cX5_look 2 RX5 (none) A0) (hD : va_D A0 (cX E a P I J A B)) (e_reader_end : I 35 = reader_end) (e_x_tape : A 0 = x_tape) :
    ∀ (v1 : Int32) (reader_next : Int32) (reader_sort : Int32) (reader_place : Int32) (reader_length : Int32) (reader_letters : Int64) (reader_whole : Int32), f_X5_look_92 reader_end x_tape v1 reader_next reader_sort reader_place reader_length reader_letters reader_whole = some z → ∀ (H : Heap) (locs : List Loc) (ls : Array Slot), va_P (rf_D E) vwCl (cX E a P (rf_upL I [(36, reader_next), (39, reader_sort), (40, reader_place), (41, reader_length), (42, reader_whole)]) (rf_upL J [(0, reader_letters)]) A B) H → va_S A0 s.heap H locs → lv_has ls 2 [(0, .ref (a 12)), (1, .int v1)] → W p l e ({ frames := 1, cells := 0, slots := 0, locals := 20 }) s m args below meth c H locs 0 0 (rf_QV below args s E A0 (cX E a P (rf_upL I [(36, z.1), (39, z.2.1), (40, z.2.2.1), (41, z.2.2.2.1), (42, z.2.2.2.2.2)]) (rf_upL J [(0, z.2.2.2.2.1)]) A B)) (F0 m 92 ls []) := by
  have hx := hC.1
  have hb := hC.2.1
  intro v1 reader_next reader_sort reader_place reader_length reader_letters reader_whole hf H locs ls hP hS hl
  unfold f_X5_look_92 at hf
  refine lv_iload_n hx hb dX5_look_92 rfl (lv_at hl 1 rfl) ?_
  refine lv_bipush (v := 48) hx hb dX5_look_93 (by decide) ?_
  refine lv_icmp_lt (tgt := 111) hx hb dX5_look_95 (by decide) (fun c_95 => ?_) (fun c_95 => ?_)
  · have hf := rf_it c_95 hf
    exact w_X5_look_111 hC hD e_reader_end e_x_tape v1 reader_next reader_sort reader_place reader_length reader_letters reader_whole hf _ _ _ hP hS (lv_sub hl [0, 1] rfl)
  have hf := rf_ie c_95 hf
  refine lv_iload_n hx hb dX5_look_98 rfl (lv_at hl 1 rfl) ?_
  refine lv_bipush (v := 57) hx hb dX5_look_99 (by decide) ?_
  refine lv_icmp_gt (tgt := 111) hx hb dX5_look_101 (by decide) (fun c_101 => ?_) (fun c_101 => ?_)
  · have hf := rf_it c_101 hf
    exact w_X5_look_111 hC hD e_reader_end e_x_tape v1 reader_next reader_sort reader_place reader_length reader_letters reader_whole hf _ _ _ hP hS (lv_sub hl [0, 1] rfl)
  have hf := rf_ie c_101 hf
  refine lv_aload_n hx hb dX5_look_104 rfl (lv_at hl 0 rfl) ?_
  obtain ⟨z105, hz105, hf⟩ := rf_bd hf
  refine rf_vv (q0 := 12) (ci := 5) hC (c_X5_lookAtDigits l E a P (rf_upL I [(36, reader_next), (39, reader_sort), (40, reader_place), (41, reader_length), (42, reader_whole)]) (rf_upL J [(0, reader_letters)]) A B reader_end reader_place x_tape reader_next reader_sort reader_length reader_whole e_reader_end rfl e_x_tape rfl rfl rfl rfl hz105) kV_X5_lookAtDigits tw_481 ⟨Nat.le_of_ble_eq_true rfl, Nat.le_of_ble_eq_true rfl⟩ rfl rfl rfl rfl rfl hP (rf_DX hD) hS rfl hl.1 (rest := []) rfl (Nat.le_of_ble_eq_true rfl) dX5_look_105 (fun H locs hP hS => ?_)
  rw [rf_cat (f := I) (l := [(36, reader_next), (39, reader_sort), (40, reader_place), (41, reader_length), (42, reader_whole)]) (lc := [(36, z105.1), (39, z105.2.1), (41, z105.2.2.1), (42, z105.2.2.2)]) (l' := [(36, z105.1), (39, z105.2.1), (40, reader_place), (41, z105.2.2.1), (42, z105.2.2.2)]) rfl] at hP
  refine lv_goto (tgt := 136) hx hb dX5_look_108 (by decide) ?_
  obtain rfl := Option.some.inj hf
  exact rf_retv hC hP hS rfl dX5_look_136
set_option maxHeartbeats 4000000 in
set_option maxRecDepth 100000 in
theorem w_X5_look_38 {l : Launch} {p : Program} {e : Env} {s : State} {m : MethodId} {args : Array Value} {below : List Frame} {meth : Method} {c : Code} {A0 : Nat → Prop} {E : rf_E} {a P : Nat → Nat} {I : Nat → Int32} {J : Nat → Int64} {A : Nat → Nat → Int32} {B : Nat → Nat → Int64} {reader_end : Int32} {x_tape : Nat → Int32} {z : Int32 × Int32 × Int32 × Int32 × Int64 × Int32} (hC : rf_C p E s m args meth c cX5_look 2 RX5 (none) A0) (hD : va_D A0 (cX E a P I J A B)) (e_reader_end : I 35 = reader_end) (e_x_tape : A 0 = x_tape) :
    ∀ (reader_next : Int32) (reader_sort : Int32) (reader_place : Int32) (reader_length : Int32) (reader_letters : Int64) (reader_whole : Int32), f_X5_look_38 reader_end x_tape reader_next reader_sort reader_place reader_length reader_letters reader_whole = some z → ∀ (H : Heap) (locs : List Loc) (ls : Array Slot), va_P (rf_D E) vwCl (cX E a P (rf_upL I [(36, reader_next), (39, reader_sort), (40, reader_place), (41, reader_length), (42, reader_whole)]) (rf_upL J [(0, reader_letters)]) A B) H → va_S A0 s.heap H locs → lv_has ls 2 [(0, .ref (a 12))] → W p l e ({ frames := 1, cells := 0, slots := 0, locals := 20 }) s m args below meth c H locs 0 0 (rf_QV below args s E A0 (cX E a P (rf_upL I [(36, z.1), (39, z.2.1), (40, z.2.2.1), (41, z.2.2.2.1), (42, z.2.2.2.2.2)]) (rf_upL J [(0, z.2.2.2.2.1)]) A B)) (F0 m 38 ls []) := by
  have hx := hC.1
  have hb := hC.2.1
  intro reader_next reader_sort reader_place reader_length reader_letters reader_whole hf H locs ls hP hS hl
  unfold f_X5_look_38 at hf
  refine lv_aload_n hx hb dX5_look_38 rfl (lv_at hl 0 rfl) ?_
  refine lv_aload_n hx hb dX5_look_39 rfl (lv_at hl 0 rfl) ?_
  refine gX_reader_next hC hP tw_340 (v := reader_next) rfl dX5_look_40 ?_
  refine pX_reader_place hC hD hP hS tw_344 dX5_look_43 (rf_upL I [(36, reader_next), (39, reader_sort), (40, reader_next), (41, reader_length), (42, reader_whole)]) (rf_put rfl) (fun H locs hP hS => ?_)
  refine lv_aload_n hx hb dX5_look_46 rfl (lv_at hl 0 rfl) ?_
  refine gX_reader_next hC hP tw_340 (v := reader_next) rfl dX5_look_47 ?_
  refine lv_aload_n hx hb dX5_look_50 rfl (lv_at hl 0 rfl) ?_
  refine gX_reader_end hC hP tw_339 (v := reader_end) e_reader_end dX5_look_51 ?_
  refine lv_icmp_lt (tgt := 63) hx hb dX5_look_54 (by decide) (fun c_54 => ?_) (fun c_54 => ?_)
  · have hf := rf_it c_54 hf
    refine lv_aload_n hx hb dX5_look_63 rfl (lv_at hl 0 rfl) ?_
    refine gX_reader_bytes hC hP tw_337 dX5_look_64 ?_
    refine lv_aload_n hx hb dX5_look_67 rfl (lv_at hl 0 rfl) ?_
    refine gX_reader_next hC hP tw_340 (v := reader_next) rfl dX5_look_68 ?_
    obtain ⟨hi_71, hf⟩ := rf_gu hf
    refine lX_x_tape hC hP hi_71 (f := x_tape) e_x_tape dX5_look_71 ?_
    refine lv_istore_n (lv' := [(1, .int (x_tape (Int32.toNatClampNeg reader_next))), (0, .ref (a 12))]) hx hb dX5_look_72 rfl hl (by decide) rfl (fun ls hl => ?_)
    refine lv_iload_n hx hb dX5_look_73 rfl (lv_at hl 0 rfl) ?_
    refine lv_bipush (v := 97) hx hb dX5_look_74 (by decide) ?_
    refine lv_icmp_lt (tgt := 92) hx hb dX5_look_76 (by decide) (fun c_76 => ?_) (fun c_76 => ?_)
    · have hf := rf_it c_76 hf
      exact w_X5_look_92 hC hD e_reader_end e_x_tape (x_tape (Int32.toNatClampNeg reader_next)) reader_next reader_sort reader_next reader_length reader_letters reader_whole hf _ _ _ hP hS (lv_sub hl [1, 0] rfl)
    have hf := rf_ie c_76 hf
    refine lv_iload_n hx hb dX5_look_79 rfl (lv_at hl 0 rfl) ?_
    refine lv_bipush (v := 122) hx hb dX5_look_80 (by decide) ?_
    refine lv_icmp_gt (tgt := 92) hx hb dX5_look_82 (by decide) (fun c_82 => ?_) (fun c_82 => ?_)
    · have hf := rf_it c_82 hf
      exact w_X5_look_92 hC hD e_reader_end e_x_tape (x_tape (Int32.toNatClampNeg reader_next)) reader_next reader_sort reader_next reader_length reader_letters reader_whole hf _ _ _ hP hS (lv_sub hl [1, 0] rfl)
    have hf := rf_ie c_82 hf
    refine lv_aload_n hx hb dX5_look_85 rfl (lv_at hl 1 rfl) ?_
    obtain ⟨z86, hz86, hf⟩ := rf_bd hf
    refine rf_vv (q0 := 12) (ci := 5) hC (c_X5_lookAtLetters l E a P (rf_upL I [(36, reader_next), (39, reader_sort), (40, reader_next), (41, reader_length), (42, reader_whole)]) (rf_upL J [(0, reader_letters)]) A B reader_end reader_next x_tape reader_next reader_sort reader_length reader_letters e_reader_end rfl e_x_tape rfl rfl rfl rfl hz86) kV_X5_lookAtLetters tw_477 ⟨Nat.le_of_ble_eq_true rfl, Nat.le_of_ble_eq_true rfl⟩ rfl rfl rfl rfl rfl hP (rf_DX hD) hS rfl hl.1 (rest := []) rfl (Nat.le_of_ble_eq_true rfl) dX5_look_86 (fun H locs hP hS => ?_)
    rw [rf_cat (f := I) (l := [(36, reader_next), (39, reader_sort), (40, reader_next), (41, reader_length), (42, reader_whole)]) (lc := [(36, z86.1), (39, z86.2.1), (41, z86.2.2.1)]) (l' := [(36, z86.1), (39, z86.2.1), (40, reader_next), (41, z86.2.2.1), (42, reader_whole)]) rfl] at hP
    rw [rf_cat (f := J) (l := [(0, reader_letters)]) (lc := [(0, z86.2.2.2)]) (l' := [(0, z86.2.2.2)]) rfl] at hP
    refine lv_goto (tgt := 136) hx hb dX5_look_89 (by decide) ?_
    obtain rfl := Option.some.inj hf
    exact rf_retv hC hP hS rfl dX5_look_136
  have hf := rf_ie c_54 hf
  refine lv_aload_n hx hb dX5_look_57 rfl (lv_at hl 0 rfl) ?_
  refine lv_iconst (v := 0) hx hb dX5_look_58 (by decide) ?_
  refine pX_reader_sort hC hD hP hS tw_343 dX5_look_59 (rf_upL I [(36, reader_next), (39, 0), (40, reader_next), (41, reader_length), (42, reader_whole)]) (rf_put rfl) (fun H locs hP hS => ?_)
  obtain rfl := Option.some.inj hf
  exact rf_retv hC hP hS rfl dX5_look_62
set_option maxHeartbeats 4000000 in
set_option maxRecDepth 100000 in
theorem w_X5_look_0 {l : Launch} {p : Program} {e : Env} {s : State} {m : MethodId} {args : Array Value} {below : List Frame} {meth : Method} {c : Code} {A0 : Nat → Prop} {E : rf_E} {a P : Nat → Nat} {I : Nat → Int32} {J : Nat → Int64} {A : Nat → Nat → Int32} {B : Nat → Nat → Int64} {reader_end : Int32} {x_tape : Nat → Int32} {z : Int32 × Int32 × Int32 × Int32 × Int64 × Int32} (hC : rf_C p E s m args meth c cX5_look 2 RX5 (none) A0) (hD : va_D A0 (cX E a P I J A B)) (e_reader_end : I 35 = reader_end) (e_x_tape : A 0 = x_tape) :
    ∀ (n : Nat), ∀ (reader_next : Int32) (reader_sort : Int32) (reader_place : Int32) (reader_length : Int32) (reader_letters : Int64) (reader_whole : Int32), f_X5_look_0 reader_end x_tape n reader_next reader_sort reader_place reader_length reader_letters reader_whole = some z → ∀ (H : Heap) (locs : List Loc) (ls : Array Slot), va_P (rf_D E) vwCl (cX E a P (rf_upL I [(36, reader_next), (39, reader_sort), (40, reader_place), (41, reader_length), (42, reader_whole)]) (rf_upL J [(0, reader_letters)]) A B) H → va_S A0 s.heap H locs → lv_has ls 2 [(0, .ref (a 12))] → W p l e ({ frames := 1, cells := 0, slots := 0, locals := 20 }) s m args below meth c H locs 0 0 (rf_QV below args s E A0 (cX E a P (rf_upL I [(36, z.1), (39, z.2.1), (40, z.2.2.1), (41, z.2.2.2.1), (42, z.2.2.2.2.2)]) (rf_upL J [(0, z.2.2.2.2.1)]) A B)) (F0 m 0 ls []) := by
  have hx := hC.1
  have hb := hC.2.1
  intro n
  induction n with
  | zero =>
    intro reader_next reader_sort reader_place reader_length reader_letters reader_whole hf
    have hf : (none : Option (Int32 × Int32 × Int32 × Int32 × Int64 × Int32)) = some z := hf
    cases hf
  | succ n ih =>
    intro reader_next reader_sort reader_place reader_length reader_letters reader_whole hf H locs ls hP hS hl
    rw [f_X5_look_0] at hf
    refine lv_aload_n hx hb dX5_look_0 rfl (lv_at hl 0 rfl) ?_
    refine gX_reader_next hC hP tw_340 (v := reader_next) rfl dX5_look_1 ?_
    refine lv_aload_n hx hb dX5_look_4 rfl (lv_at hl 0 rfl) ?_
    refine gX_reader_end hC hP tw_339 (v := reader_end) e_reader_end dX5_look_5 ?_
    refine lv_icmp_ge (tgt := 38) hx hb dX5_look_8 (by decide) (fun c_8 => ?_) (fun c_8 => ?_)
    · have hf := rf_it c_8 hf
      exact w_X5_look_38 hC hD e_reader_end e_x_tape reader_next reader_sort reader_place reader_length reader_letters reader_whole hf _ _ _ hP hS (lv_sub hl [0] rfl)
    have hf := rf_ie c_8 hf
    refine lv_aload_n hx hb dX5_look_11 rfl (lv_at hl 0 rfl) ?_
    refine gX_reader_bytes hC hP tw_337 dX5_look_12 ?_
    refine lv_aload_n hx hb dX5_look_15 rfl (lv_at hl 0 rfl) ?_
    refine gX_reader_next hC hP tw_340 (v := reader_next) rfl dX5_look_16 ?_
    obtain ⟨hi_19, hf⟩ := rf_gu hf
    refine lX_x_tape hC hP hi_19 (f := x_tape) e_x_tape dX5_look_19 ?_
    refine lv_bipush (v := 32) hx hb dX5_look_20 (by decide) ?_
    refine lv_icmp_ne (tgt := 38) hx hb dX5_look_22 (by decide) (fun c_22 => ?_) (fun c_22 => ?_)
    · have hf := rf_ie c_22 hf
      exact w_X5_look_38 hC hD e_reader_end e_x_tape reader_next reader_sort reader_place reader_length reader_letters reader_whole hf _ _ _ hP hS (lv_sub hl [0] rfl)
    have hf := rf_it c_22 hf
    refine lv_aload_n hx hb dX5_look_25 rfl (lv_at hl 0 rfl) ?_
    refine lv_dup hx hb dX5_look_26 rfl ?_
    refine gX_reader_next hC hP tw_340 (v := reader_next) rfl dX5_look_27 ?_
    refine lv_iconst (v := 1) hx hb dX5_look_30 (by decide) ?_
    refine lv_iadd hx hb dX5_look_31 ?_
    refine pX_reader_next hC hD hP hS tw_340 dX5_look_32 (rf_upL I [(36, reader_next + 1), (39, reader_sort), (40, reader_place), (41, reader_length), (42, reader_whole)]) (rf_put rfl) (fun H locs hP hS => ?_)
    refine lv_goto (tgt := 0) hx hb dX5_look_35 (by decide) ?_
    exact ih (reader_next + 1) reader_sort reader_place reader_length reader_letters reader_whole hf _ _ _ hP hS (lv_sub hl [0] rfl)
set_option maxHeartbeats 4000000 in
set_option maxRecDepth 100000 in
theorem c_X5_look (l : Launch) (E : rf_E) (a P : Nat → Nat) (I : Nat → Int32) (J : Nat → Int64) (A : Nat → Nat → Int32) (B : Nat → Nat → Int64) (reader_end : Int32) (x_tape : Nat → Int32) (reader_next : Int32) (reader_sort : Int32) (reader_place : Int32) (reader_length : Int32) (reader_letters : Int64) (reader_whole : Int32) {z : Int32 × Int32 × Int32 × Int32 × Int64 × Int32} (e_reader_end : I 35 = reader_end) (e_x_tape : A 0 = x_tape) (e_reader_next : I 36 = reader_next) (e_reader_sort : I 39 = reader_sort) (e_reader_place : I 40 = reader_place) (e_reader_length : I 41 = reader_length) (e_reader_letters : J 0 = reader_letters) (e_reader_whole : I 42 = reader_whole) (hf : f_X5_look reader_end x_tape reader_next reader_sort reader_place reader_length reader_letters reader_whole = some z) : rf_MV l yX5_look cX5_look 2 ({ frames := 1, cells := 0, slots := 0, locals := 20 }) E [.ref (a 12)] (cX E a P I J A B) (cX E a P (rf_upL I [(36, z.1), (39, z.2.1), (40, z.2.2.1), (41, z.2.2.2.1), (42, z.2.2.2.2.2)]) (rf_upL J [(0, z.2.2.2.2.1)]) A B) := by
  unfold f_X5_look at hf
  refine rf_ofV (by decide) (Nat.le_of_ble_eq_true rfl) ?_
  intro p e s m below meth c A0 ls hC hD hP hS hl
  have hC : rf_C p E s m _ meth c cX5_look 2 RX5 (none) A0 := hC
  have hx := hC.1
  have hb := hC.2.1
  have hl : lv_has ls 2 [(0, .ref (a 12))] := hl
  have hP : va_P (rf_D E) vwCl (cX E a P (rf_upL I [(36, reader_next), (39, reader_sort), (40, reader_place), (41, reader_length), (42, reader_whole)]) (rf_upL J [(0, reader_letters)]) A B) s.heap := by
    rw [rf_self (f := I) [(36, reader_next), (39, reader_sort), (40, reader_place), (41, reader_length), (42, reader_whole)] (rf_fa1 e_reader_next (rf_fa1 e_reader_sort (rf_fa1 e_reader_place (rf_fa1 e_reader_length (rf_fa1 e_reader_whole rf_fa0)))))]
    rw [rf_self (f := J) [(0, reader_letters)] (rf_fa1 e_reader_letters rf_fa0)]
    exact hP
  exact w_X5_look_0 hC hD e_reader_end e_x_tape rf_fu reader_next reader_sort reader_place reader_length reader_letters reader_whole hf _ _ _ hP hS (lv_sub hl [0] rfl)
set_option maxHeartbeats 4000000 in
set_option maxRecDepth 100000 in
theorem w_X9_hoursTold_td_25 {l : Launch} {p : Program} {e : Env} {s : State} {m : MethodId} {args : Array Value} {below : List Frame} {meth : Method} {c : Code} {A0 : Nat → Prop} {E : rf_E} {a P : Nat → Nat} {I : Nat → Int32} {J : Nat → Int64} {A : Nat → Nat → Int32} {B : Nat → Nat → Int64} {t_hourEars : Nat → Int32} {z : Int32} (hC : rf_C p E s m args meth c cX9_hoursTold 3 RX9 (some .int) A0) (hD : va_D A0 (cX E a P I J A B)) (e_t_hourEars : A 28 = t_hourEars) {k4 : Int32 → Int32 → Option (Int32)} (hk4 : ∀ (v1 : Int32) (v2 : Int32), k4 v1 v2 = some z → ∀ (H : Heap) (locs : List Loc) (ls : Array Slot), va_P (rf_D E) vwCl (cX E a P I J A B) H → va_S A0 s.heap H locs → lv_has ls 3 [(0, .ref (a 11)), (1, .int v1), (2, .int v2)] → W p l e ({ frames := 0, cells := 0, slots := 0, locals := 0 }) s m args below meth c H locs 0 0 (rf_QI below args s E A0 z (cX E a P I J A B)) (F0 m 4 ls [])) :
    ∀ (v2 : Int32) (s0 : Int32) (s1 : Int32), f_X9_hoursTold_25 k4 t_hourEars v2 s0 s1 = some z → ∀ (H : Heap) (locs : List Loc) (ls : Array Slot), va_P (rf_D E) vwCl (cX E a P I J A B) H → va_S A0 s.heap H locs → lv_has ls 3 [(0, .ref (a 11)), (2, .int v2)] → W p l e ({ frames := 0, cells := 0, slots := 0, locals := 0 }) s m args below meth c H locs 0 0 (rf_QI below args s E A0 z (cX E a P I J A B)) (F0 m 25 ls [.int s1, .int s0]) := by
  have hx := hC.1
  have hb := hC.2.1
  intro v2 s0 s1 hf H locs ls hP hS hl
  unfold f_X9_hoursTold_25 at hf
  refine lv_iadd hx hb dX9_hoursTold_25 ?_
  refine lv_istore_n (lv' := [(1, .int (s0 + s1)), (0, .ref (a 11)), (2, .int v2)]) hx hb dX9_hoursTold_26 rfl hl (by decide) rfl (fun ls hl => ?_)
  refine lv_iinc (v := v2 + 1) (lv' := [(2, .int (v2 + 1)), (1, .int (s0 + s1)), (0, .ref (a 11))]) hx hb dX9_hoursTold_27 hl (k := 2) rfl rfl (by decide) rfl (fun ls hl => ?_)
  refine lv_goto (tgt := 4) hx hb dX9_hoursTold_30 (by decide) ?_
  exact hk4 (s0 + s1) (v2 + 1) hf _ _ _ hP hS (lv_sub hl [2, 1, 0] rfl)
set_option maxHeartbeats 4000000 in
set_option maxRecDepth 100000 in
theorem w_X9_hoursTold_td_4 {l : Launch} {p : Program} {e : Env} {s : State} {m : MethodId} {args : Array Value} {below : List Frame} {meth : Method} {c : Code} {A0 : Nat → Prop} {E : rf_E} {a P : Nat → Nat} {I : Nat → Int32} {J : Nat → Int64} {A : Nat → Nat → Int32} {B : Nat → Nat → Int64} {t_hourEars : Nat → Int32} {z : Int32} (hC : rf_C p E s m args meth c cX9_hoursTold 3 RX9 (some .int) A0) (hD : va_D A0 (cX E a P I J A B)) (e_t_hourEars : A 28 = t_hourEars) :
    ∀ (n : Nat), ∀ (v1 : Int32) (v2 : Int32), f_X9_hoursTold_4 t_hourEars n v1 v2 = some z → ∀ (H : Heap) (locs : List Loc) (ls : Array Slot), va_P (rf_D E) vwCl (cX E a P I J A B) H → va_S A0 s.heap H locs → lv_has ls 3 [(0, .ref (a 11)), (1, .int v1), (2, .int v2)] → W p l e ({ frames := 0, cells := 0, slots := 0, locals := 0 }) s m args below meth c H locs 0 0 (rf_QI below args s E A0 z (cX E a P I J A B)) (F0 m 4 ls []) := by
  have hx := hC.1
  have hb := hC.2.1
  intro n
  induction n with
  | zero =>
    intro v1 v2 hf
    have hf : (none : Option (Int32)) = some z := hf
    cases hf
  | succ n ih =>
    intro v1 v2 hf H locs ls hP hS hl
    rw [f_X9_hoursTold_4] at hf
    refine lv_iload_n hx hb dX9_hoursTold_4 rfl (lv_at hl 2 rfl) ?_
    refine lv_bipush (v := 24) hx hb dX9_hoursTold_5 (by decide) ?_
    refine lv_icmp_ge (tgt := 33) hx hb dX9_hoursTold_7 (by decide) (fun c_7 => ?_) (fun c_7 => ?_)
    · have hf := rf_it c_7 hf
      refine lv_iload_n hx hb dX9_hoursTold_33 rfl (lv_at hl 1 rfl) ?_
      obtain rfl := Option.some.inj hf
      exact rf_reti hC hP hS rfl rfl dX9_hoursTold_34
    have hf := rf_ie c_7 hf
    refine lv_iload_n hx hb dX9_hoursTold_10 rfl (lv_at hl 1 rfl) ?_
    refine lv_aload_n hx hb dX9_hoursTold_11 rfl (lv_at hl 0 rfl) ?_
    refine gX_td_hourEars hC hP tw_104 dX9_hoursTold_12 ?_
    refine lv_iload_n hx hb dX9_hoursTold_15 rfl (lv_at hl 2 rfl) ?_
    obtain ⟨hi_16, hf⟩ := rf_gu hf
    refine lX_td_hourEars hC hP hi_16 (f := t_hourEars) e_t_hourEars dX9_hoursTold_16 ?_
    refine lv_if_le (tgt := 24) hx hb dX9_hoursTold_17 (by decide) (fun c_17 => ?_) (fun c_17 => ?_)
    · have hf := rf_it c_17 hf
      refine lv_iconst (v := 0) hx hb dX9_hoursTold_24 (by decide) ?_
      exact w_X9_hoursTold_td_25 hC hD e_t_hourEars ih v2 v1 0 hf _ _ _ hP hS (lv_sub hl [0, 2] rfl)
    have hf := rf_ie c_17 hf
    refine lv_iconst (v := 1) hx hb dX9_hoursTold_20 (by decide) ?_
    refine lv_goto (tgt := 25) hx hb dX9_hoursTold_21 (by decide) ?_
    exact w_X9_hoursTold_td_25 hC hD e_t_hourEars ih v2 v1 1 hf _ _ _ hP hS (lv_sub hl [0, 2] rfl)
set_option maxHeartbeats 4000000 in
set_option maxRecDepth 100000 in
theorem c_X9_hoursTold_td (l : Launch) (E : rf_E) (a P : Nat → Nat) (I : Nat → Int32) (J : Nat → Int64) (A : Nat → Nat → Int32) (B : Nat → Nat → Int64) (t_hourEars : Nat → Int32) {z : Int32} (e_t_hourEars : A 28 = t_hourEars) (hf : f_X9_hoursTold t_hourEars = some z) : rf_MI l yX9_hoursTold cX9_hoursTold 3 (some .int) ({ frames := 0, cells := 0, slots := 0, locals := 0 }) E [.ref (a 11)] (cX E a P I J A B) z (cX E a P I J A B) := by
  unfold f_X9_hoursTold at hf
  refine rf_ofI (by decide) (Nat.le_of_ble_eq_true rfl) ?_
  intro p e s m below meth c A0 ls hC hD hP hS hl
  have hC : rf_C p E s m _ meth c cX9_hoursTold 3 RX9 (some .int) A0 := hC
  have hx := hC.1
  have hb := hC.2.1
  have hl : lv_has ls 3 [(0, .ref (a 11))] := hl
  refine lv_iconst (v := 0) hx hb dX9_hoursTold_0 (by decide) ?_
  refine lv_istore_n (lv' := [(1, .int 0), (0, .ref (a 11))]) hx hb dX9_hoursTold_1 rfl hl (by decide) rfl (fun ls hl => ?_)
  refine lv_iconst (v := 0) hx hb dX9_hoursTold_2 (by decide) ?_
  refine lv_istore_n (lv' := [(2, .int 0), (1, .int 0), (0, .ref (a 11))]) hx hb dX9_hoursTold_3 rfl hl (by decide) rfl (fun ls hl => ?_)
  exact w_X9_hoursTold_td_4 hC hD e_t_hourEars rf_fu 0 0 hf _ _ _ hP hS (lv_sub hl [2, 1, 0] rfl)
set_option maxHeartbeats 4000000 in
set_option maxRecDepth 100000 in
theorem w_X5_isRoomFor_148 {l : Launch} {p : Program} {e : Env} {s : State} {m : MethodId} {args : Array Value} {below : List Frame} {meth : Method} {c : Code} {A0 : Nat → Prop} {E : rf_E} {a P : Nat → Nat} {I : Nat → Int32} {J : Nat → Int64} {A : Nat → Nat → Int32} {B : Nat → Nat → Int64} {td_wordCount : Int32} {td_personCount : Int32} {td_alikeCount : Int32} {td_gotCount : Int32} {reader_knowings : Int32} {td_hourEars : Nat → Int32} {z : Int32} (hC : rf_C p E s m args meth c cX5_isRoomFor 2 RX5 (some .boolean) A0) (hD : va_D A0 (cX E a P I J A B)) (hp3 : P 3 = a 11) (e_td_wordCount : I 30 = td_wordCount) (e_td_personCount : I 31 = td_personCount) (e_td_alikeCount : I 33 = td_alikeCount) (e_td_gotCount : I 34 = td_gotCount) (e_reader_knowings : I 38 = reader_knowings) (e_td_hourEars : A 28 = td_hourEars) :
    ∀ (_ : Unit), f_X5_isRoomFor_148 td_wordCount td_personCount td_alikeCount td_gotCount reader_knowings td_hourEars = some z → ∀ (H : Heap) (locs : List Loc) (ls : Array Slot), va_P (rf_D E) vwCl (cX E a P I J A B) H → va_S A0 s.heap H locs → lv_has ls 2 [] → W p l e ({ frames := 1, cells := 0, slots := 0, locals := 22 }) s m args below meth c H locs 0 0 (rf_QI below args s E A0 z (cX E a P I J A B)) (F0 m 148 ls []) := by
  have hx := hC.1
  have hb := hC.2.1
  intro _ hf H locs ls hP hS hl
  unfold f_X5_isRoomFor_148 at hf
  refine lv_iconst (v := 1) hx hb dX5_isRoomFor_148 (by decide) ?_
  obtain rfl := Option.some.inj hf
  exact rf_retz hC hP hS (by decide) rfl rfl dX5_isRoomFor_149
set_option maxHeartbeats 4000000 in
set_option maxRecDepth 100000 in
theorem c_X5_isRoomFor (l : Launch) (E : rf_E) (a P : Nat → Nat) (I : Nat → Int32) (J : Nat → Int64) (A : Nat → Nat → Int32) (B : Nat → Nat → Int64) (td_wordCount : Int32) (td_personCount : Int32) (td_alikeCount : Int32) (td_gotCount : Int32) (reader_knowings : Int32) (td_hourEars : Nat → Int32) (v1 : Int32) {z : Int32} (hp3 : P 3 = a 11) (e_td_wordCount : I 30 = td_wordCount) (e_td_personCount : I 31 = td_personCount) (e_td_alikeCount : I 33 = td_alikeCount) (e_td_gotCount : I 34 = td_gotCount) (e_reader_knowings : I 38 = reader_knowings) (e_td_hourEars : A 28 = td_hourEars) (hf : f_X5_isRoomFor td_wordCount td_personCount td_alikeCount td_gotCount reader_knowings td_hourEars v1 = some z) : rf_MI l yX5_isRoomFor cX5_isRoomFor 2 (some .boolean) ({ frames := 1, cells := 0, slots := 0, locals := 22 }) E [.ref (a 12), .int v1] (cX E a P I J A B) z (cX E a P I J A B) := by
  unfold f_X5_isRoomFor at hf
  refine rf_ofI (by decide) (Nat.le_of_ble_eq_true rfl) ?_
  intro p e s m below meth c A0 ls hC hD hP hS hl
  have hC : rf_C p E s m _ meth c cX5_isRoomFor 2 RX5 (some .boolean) A0 := hC
  have hx := hC.1
  have hb := hC.2.1
  have hl : lv_has ls 2 [(0, .ref (a 12)), (1, .int v1)] := hl
  refine lv_iload_n hx hb dX5_isRoomFor_0 rfl (lv_at hl 1 rfl) ?_
  by_cases c_1_0 : v1 = 2
  · have hf := rf_it c_1_0 hf
    refine lv_tableIn (off := 43) (tgt := 44) hx hb dX5_isRoomFor_1 (by rw [c_1_0]; decide) (by rw [c_1_0]; decide) (by rw [c_1_0]; decide) (by decide) ?_
    refine lv_aload_n hx hb dX5_isRoomFor_44 rfl (lv_at hl 0 rfl) ?_
    refine gX_reader_tale hC hP tw_338 (v := a 11) hp3 dX5_isRoomFor_45 ?_
    refine gX_td_wordCount hC hP tw_123 (v := td_wordCount) e_td_wordCount dX5_isRoomFor_48 ?_
    refine lv_bipush (v := 10) hx hb dX5_isRoomFor_51 (by decide) ?_
    refine lv_icmp_ge (tgt := 60) hx hb dX5_isRoomFor_53 (by decide) (fun c_53 => ?_) (fun c_53 => ?_)
    · have hf := rf_it c_53 hf
      refine lv_iconst (v := 0) hx hb dX5_isRoomFor_60 (by decide) ?_
      obtain rfl := Option.some.inj hf
      exact rf_retz hC hP hS (by decide) rfl rfl dX5_isRoomFor_61
    have hf := rf_ie c_53 hf
    refine lv_iconst (v := 1) hx hb dX5_isRoomFor_56 (by decide) ?_
    refine lv_goto (tgt := 61) hx hb dX5_isRoomFor_57 (by decide) ?_
    obtain rfl := Option.some.inj hf
    exact rf_retz hC hP hS (by decide) rfl rfl dX5_isRoomFor_61
  have hf := rf_ie c_1_0 hf
  by_cases c_1_1 : v1 = 3
  · have hf := rf_it c_1_1 hf
    refine lv_tableIn (off := 61) (tgt := 62) hx hb dX5_isRoomFor_1 (by rw [c_1_1]; decide) (by rw [c_1_1]; decide) (by rw [c_1_1]; decide) (by decide) ?_
    refine lv_aload_n hx hb dX5_isRoomFor_62 rfl (lv_at hl 0 rfl) ?_
    refine gX_reader_tale hC hP tw_338 (v := a 11) hp3 dX5_isRoomFor_63 ?_
    refine gX_td_personCount hC hP tw_130 (v := td_personCount) e_td_personCount dX5_isRoomFor_66 ?_
    refine lv_bipush (v := 8) hx hb dX5_isRoomFor_69 (by decide) ?_
    refine lv_icmp_ge (tgt := 78) hx hb dX5_isRoomFor_71 (by decide) (fun c_71 => ?_) (fun c_71 => ?_)
    · have hf := rf_it c_71 hf
      refine lv_iconst (v := 0) hx hb dX5_isRoomFor_78 (by decide) ?_
      obtain rfl := Option.some.inj hf
      exact rf_retz hC hP hS (by decide) rfl rfl dX5_isRoomFor_79
    have hf := rf_ie c_71 hf
    refine lv_iconst (v := 1) hx hb dX5_isRoomFor_74 (by decide) ?_
    refine lv_goto (tgt := 79) hx hb dX5_isRoomFor_75 (by decide) ?_
    obtain rfl := Option.some.inj hf
    exact rf_retz hC hP hS (by decide) rfl rfl dX5_isRoomFor_79
  have hf := rf_ie c_1_1 hf
  by_cases c_1_2 : v1 = 4
  · have hf := rf_it c_1_2 hf
    refine lv_tableIn (off := 79) (tgt := 80) hx hb dX5_isRoomFor_1 (by rw [c_1_2]; decide) (by rw [c_1_2]; decide) (by rw [c_1_2]; decide) (by decide) ?_
    refine lv_aload_n hx hb dX5_isRoomFor_80 rfl (lv_at hl 0 rfl) ?_
    refine gX_reader_knowings hC hP tw_342 (v := reader_knowings) e_reader_knowings dX5_isRoomFor_81 ?_
    refine lv_bipush (v := 8) hx hb dX5_isRoomFor_84 (by decide) ?_
    refine lv_icmp_ge (tgt := 93) hx hb dX5_isRoomFor_86 (by decide) (fun c_86 => ?_) (fun c_86 => ?_)
    · have hf := rf_it c_86 hf
      refine lv_iconst (v := 0) hx hb dX5_isRoomFor_93 (by decide) ?_
      obtain rfl := Option.some.inj hf
      exact rf_retz hC hP hS (by decide) rfl rfl dX5_isRoomFor_94
    have hf := rf_ie c_86 hf
    refine lv_iconst (v := 1) hx hb dX5_isRoomFor_89 (by decide) ?_
    refine lv_goto (tgt := 94) hx hb dX5_isRoomFor_90 (by decide) ?_
    obtain rfl := Option.some.inj hf
    exact rf_retz hC hP hS (by decide) rfl rfl dX5_isRoomFor_94
  have hf := rf_ie c_1_2 hf
  by_cases c_1_3 : v1 = 5
  · have hf := rf_it c_1_3 hf
    refine lv_tableIn (off := 94) (tgt := 95) hx hb dX5_isRoomFor_1 (by rw [c_1_3]; decide) (by rw [c_1_3]; decide) (by rw [c_1_3]; decide) (by decide) ?_
    refine lv_aload_n hx hb dX5_isRoomFor_95 rfl (lv_at hl 0 rfl) ?_
    refine gX_reader_tale hC hP tw_338 (v := a 11) hp3 dX5_isRoomFor_96 ?_
    refine gX_td_alikeCount hC hP tw_137 (v := td_alikeCount) e_td_alikeCount dX5_isRoomFor_99 ?_
    refine lv_iconst (v := 4) hx hb dX5_isRoomFor_102 (by decide) ?_
    refine lv_icmp_ge (tgt := 110) hx hb dX5_isRoomFor_103 (by decide) (fun c_103 => ?_) (fun c_103 => ?_)
    · have hf := rf_it c_103 hf
      refine lv_iconst (v := 0) hx hb dX5_isRoomFor_110 (by decide) ?_
      obtain rfl := Option.some.inj hf
      exact rf_retz hC hP hS (by decide) rfl rfl dX5_isRoomFor_111
    have hf := rf_ie c_103 hf
    refine lv_iconst (v := 1) hx hb dX5_isRoomFor_106 (by decide) ?_
    refine lv_goto (tgt := 111) hx hb dX5_isRoomFor_107 (by decide) ?_
    obtain rfl := Option.some.inj hf
    exact rf_retz hC hP hS (by decide) rfl rfl dX5_isRoomFor_111
  have hf := rf_ie c_1_3 hf
  by_cases c_1_4 : v1 = 6
  · have hf := rf_it c_1_4 hf
    refine lv_tableIn (off := 111) (tgt := 112) hx hb dX5_isRoomFor_1 (by rw [c_1_4]; decide) (by rw [c_1_4]; decide) (by rw [c_1_4]; decide) (by decide) ?_
    refine lv_aload_n hx hb dX5_isRoomFor_112 rfl (lv_at hl 0 rfl) ?_
    refine gX_reader_tale hC hP tw_338 (v := a 11) hp3 dX5_isRoomFor_113 ?_
    obtain ⟨z116, hz116, hf⟩ := rf_bd hf
    refine rf_vi (q0 := 11) (ci := 9) hC (c_X9_hoursTold_td l E a P I J A B td_hourEars e_td_hourEars hz116) kV_X9_hoursTold tw_561 ⟨Nat.le_of_ble_eq_true rfl, Nat.le_of_ble_eq_true rfl⟩ rfl rfl rfl rfl rfl hP (rf_DX hD) hS rfl hl.1 (rest := []) rfl (Nat.le_of_ble_eq_true rfl) dX5_isRoomFor_116 (fun H locs hP hS => ?_)
    refine lv_bipush (v := 8) hx hb dX5_isRoomFor_119 (by decide) ?_
    refine lv_icmp_ge (tgt := 128) hx hb dX5_isRoomFor_121 (by decide) (fun c_121 => ?_) (fun c_121 => ?_)
    · have hf := rf_it c_121 hf
      refine lv_iconst (v := 0) hx hb dX5_isRoomFor_128 (by decide) ?_
      obtain rfl := Option.some.inj hf
      exact rf_retz hC hP hS (by decide) rfl rfl dX5_isRoomFor_129
    have hf := rf_ie c_121 hf
    refine lv_iconst (v := 1) hx hb dX5_isRoomFor_124 (by decide) ?_
    refine lv_goto (tgt := 129) hx hb dX5_isRoomFor_125 (by decide) ?_
    obtain rfl := Option.some.inj hf
    exact rf_retz hC hP hS (by decide) rfl rfl dX5_isRoomFor_129
  have hf := rf_ie c_1_4 hf
  by_cases c_1_5 : v1 = 7
  · have hf := rf_it c_1_5 hf
    refine lv_tableIn (off := 147) (tgt := 148) hx hb dX5_isRoomFor_1 (by rw [c_1_5]; decide) (by rw [c_1_5]; decide) (by rw [c_1_5]; decide) (by decide) ?_
    exact w_X5_isRoomFor_148 hC hD hp3 e_td_wordCount e_td_personCount e_td_alikeCount e_td_gotCount e_reader_knowings e_td_hourEars () hf _ _ _ hP hS (lv_sub hl [] rfl)
  have hf := rf_ie c_1_5 hf
  by_cases c_1_6 : v1 = 8
  · have hf := rf_it c_1_6 hf
    refine lv_tableIn (off := 129) (tgt := 130) hx hb dX5_isRoomFor_1 (by rw [c_1_6]; decide) (by rw [c_1_6]; decide) (by rw [c_1_6]; decide) (by decide) ?_
    refine lv_aload_n hx hb dX5_isRoomFor_130 rfl (lv_at hl 0 rfl) ?_
    refine gX_reader_tale hC hP tw_338 (v := a 11) hp3 dX5_isRoomFor_131 ?_
    refine gX_td_gotCount hC hP tw_141 (v := td_gotCount) e_td_gotCount dX5_isRoomFor_134 ?_
    refine lv_bipush (v := 6) hx hb dX5_isRoomFor_137 (by decide) ?_
    refine lv_icmp_ge (tgt := 146) hx hb dX5_isRoomFor_139 (by decide) (fun c_139 => ?_) (fun c_139 => ?_)
    · have hf := rf_it c_139 hf
      refine lv_iconst (v := 0) hx hb dX5_isRoomFor_146 (by decide) ?_
      obtain rfl := Option.some.inj hf
      exact rf_retz hC hP hS (by decide) rfl rfl dX5_isRoomFor_147
    have hf := rf_ie c_139 hf
    refine lv_iconst (v := 1) hx hb dX5_isRoomFor_142 (by decide) ?_
    refine lv_goto (tgt := 147) hx hb dX5_isRoomFor_143 (by decide) ?_
    obtain rfl := Option.some.inj hf
    exact rf_retz hC hP hS (by decide) rfl rfl dX5_isRoomFor_147
  have hf := rf_ie c_1_6 hf
  refine lv_tableOut (tgt := 148) hx hb dX5_isRoomFor_1 (rf_tout_2_7 c_1_0 c_1_1 c_1_2 c_1_3 c_1_4 c_1_5 c_1_6) (by decide) ?_
  exact w_X5_isRoomFor_148 hC hD hp3 e_td_wordCount e_td_personCount e_td_alikeCount e_td_gotCount e_reader_knowings e_td_hourEars () hf _ _ _ hP hS (lv_sub hl [] rfl)
set_option maxHeartbeats 4000000 in
set_option maxRecDepth 100000 in
theorem w_X5_is_19 {l : Launch} {p : Program} {e : Env} {s : State} {m : MethodId} {args : Array Value} {below : List Frame} {meth : Method} {c : Code} {A0 : Nat → Prop} {E : rf_E} {a P : Nat → Nat} {I : Nat → Int32} {J : Nat → Int64} {A : Nat → Nat → Int32} {B : Nat → Nat → Int64} {reader_sort : Int32} {reader_length : Int32} {reader_letters : Int64} {z : Int32} (hC : rf_C p E s m args meth c cX5_is 5 RX5 (some .boolean) A0) (hD : va_D A0 (cX E a P I J A B)) (e_reader_sort : I 39 = reader_sort) (e_reader_length : I 41 = reader_length) (e_reader_letters : J 0 = reader_letters) :
    ∀ (_ : Unit), f_X5_is_19 reader_sort reader_length reader_letters = some z → ∀ (H : Heap) (locs : List Loc) (ls : Array Slot), va_P (rf_D E) vwCl (cX E a P I J A B) H → va_S A0 s.heap H locs → lv_has ls 5 [] → W p l e ({ frames := 6, cells := 0, slots := 0, locals := 200 }) s m args below meth c H locs 0 0 (rf_QI below args s E A0 z (cX E a P I J A B)) (F0 m 19 ls []) := by
  have hx := hC.1
  have hb := hC.2.1
  intro _ hf H locs ls hP hS hl
  unfold f_X5_is_19 at hf
  refine lv_iconst (v := 0) hx hb dX5_is_19 (by decide) ?_
  obtain rfl := Option.some.inj hf
  exact rf_retz hC hP hS (by decide) rfl rfl dX5_is_20
set_option maxHeartbeats 4000000 in
set_option maxRecDepth 100000 in
theorem w_X5_is_26 {l : Launch} {p : Program} {e : Env} {s : State} {m : MethodId} {args : Array Value} {below : List Frame} {meth : Method} {c : Code} {A0 : Nat → Prop} {E : rf_E} {a P : Nat → Nat} {I : Nat → Int32} {J : Nat → Int64} {A : Nat → Nat → Int32} {B : Nat → Nat → Int64} {reader_sort : Int32} {reader_length : Int32} {reader_letters : Int64} {z : Int32} (hC : rf_C p E s m args meth c cX5_is 5 RX5 (some .boolean) A0) (hD : va_D A0 (cX E a P I J A B)) (e_reader_sort : I 39 = reader_sort) (e_reader_length : I 41 = reader_length) (e_reader_letters : J 0 = reader_letters) :
    ∀ (n : Nat), ∀ (v1 : Nat) (v2 : Int64) (v4 : Int32), v1 < 49 → f_X5_is_26 reader_sort reader_length reader_letters n v1 v2 v4 = some z → ∀ (H : Heap) (locs : List Loc) (ls : Array Slot), va_P (rf_D E) vwCl (cX E a P I J A B) H → va_S A0 s.heap H locs → lv_has ls 5 [(0, .ref (a 12)), (1, .ref (rf_aK E v1)), (2, .long v2), (4, .int v4)] → W p l e ({ frames := 6, cells := 0, slots := 0, locals := 200 }) s m args below meth c H locs 0 0 (rf_QI below args s E A0 z (cX E a P I J A B)) (F0 m 26 ls []) := by
  have hx := hC.1
  have hb := hC.2.1
  intro n
  induction n with
  | zero =>
    intro v1 v2 v4 hk_v1 hf
    have hf : (none : Option (Int32)) = some z := hf
    cases hf
  | succ n ih =>
    intro v1 v2 v4 hk_v1 hf H locs ls hP hS hl
    rw [f_X5_is_26] at hf
    refine lv_iload hx hb dX5_is_26 (lv_at hl 3 rfl) ?_
    refine lv_aload_n hx hb dX5_is_28 rfl (lv_at hl 0 rfl) ?_
    refine gX_reader_length hC hP tw_345 (v := reader_length) e_reader_length dX5_is_29 ?_
    refine lv_icmp_ge (tgt := 58) hx hb dX5_is_32 (by decide) (fun c_32 => ?_) (fun c_32 => ?_)
    · have hf := rf_it c_32 hf
      refine lv_lload_n hx hb dX5_is_58 rfl (lv_at hl 2 rfl) ?_
      refine lv_aload_n hx hb dX5_is_59 rfl (lv_at hl 0 rfl) ?_
      refine gX_reader_letters hC hP tw_346 (v := reader_letters) e_reader_letters dX5_is_60 ?_
      refine W.lcmp hx hb dX5_is_63 ?_
      refine lv_if_ne (tgt := 71) hx hb dX5_is_64 (by decide) (fun c_64 => ?_) (fun c_64 => ?_)
      · have hf := rf_ie c_64 hf
        refine lv_iconst (v := 0) hx hb dX5_is_71 (by decide) ?_
        obtain rfl := Option.some.inj hf
        exact rf_retz hC hP hS (by decide) rfl rfl dX5_is_72
      have hf := rf_it c_64 hf
      refine lv_iconst (v := 1) hx hb dX5_is_67 (by decide) ?_
      refine lv_goto (tgt := 72) hx hb dX5_is_68 (by decide) ?_
      obtain rfl := Option.some.inj hf
      exact rf_retz hC hP hS (by decide) rfl rfl dX5_is_72
    have hf := rf_ie c_32 hf
    refine lv_lload_n hx hb dX5_is_35 rfl (lv_at hl 2 rfl) ?_
    refine lv_iconst (v := 5) hx hb dX5_is_36 (by decide) ?_
    refine lv_lshl hx hb dX5_is_37 rfl ?_
    refine lv_aload_n hx hb dX5_is_38 rfl (lv_at hl 1 rfl) ?_
    refine lv_iload hx hb dX5_is_39 (lv_at hl 3 rfl) ?_
    obtain ⟨hi_41, hf⟩ := rf_gu hf
    refine rf_scat hC hP hS (k := v1) hk_v1 hi_41 tw_508 hl.1 (Nat.le_of_ble_eq_true rfl) ⟨Nat.le_of_ble_eq_true rfl, Nat.le_of_ble_eq_true rfl⟩ dX5_is_41 (fun H locs hP hS => ?_)
    refine lv_bipush (v := 97) hx hb dX5_is_44 (by decide) ?_
    refine lv_isub hx hb dX5_is_46 ?_
    refine lv_iconst (v := 1) hx hb dX5_is_47 (by decide) ?_
    refine lv_iadd hx hb dX5_is_48 ?_
    refine lv_i2l hx hb dX5_is_49 rfl ?_
    refine lv_ladd hx hb dX5_is_50 ?_
    refine lv_lstore_n (lv' := [(2, .long ((v2 <<< ((Int32.toInt64 5) &&& 63)) + (Int32.toInt64 (((rf_byt v1 (Int32.toNatClampNeg v4)) - 97) + 1)))), (0, .ref (a 12)), (1, .ref (rf_aK E v1)), (4, .int v4)]) hx hb dX5_is_51 rfl hl (by decide) rfl (fun ls hl => ?_)
    refine lv_iinc (v := v4 + 1) (lv' := [(4, .int (v4 + 1)), (2, .long ((v2 <<< ((Int32.toInt64 5) &&& 63)) + (Int32.toInt64 (((rf_byt v1 (Int32.toNatClampNeg v4)) - 97) + 1)))), (0, .ref (a 12)), (1, .ref (rf_aK E v1))]) hx hb dX5_is_52 hl (k := 3) rfl rfl (by decide) rfl (fun ls hl => ?_)
    refine lv_goto (tgt := 26) hx hb dX5_is_55 (by decide) ?_
    exact ih v1 ((v2 <<< ((Int32.toInt64 5) &&& 63)) + (Int32.toInt64 (((rf_byt v1 (Int32.toNatClampNeg v4)) - 97) + 1))) (v4 + 1) hk_v1 hf _ _ _ hP hS (lv_sub hl [2, 3, 1, 0] rfl)
set_option maxHeartbeats 4000000 in
set_option maxRecDepth 100000 in
theorem c_X5_is (l : Launch) (E : rf_E) (a P : Nat → Nat) (I : Nat → Int32) (J : Nat → Int64) (A : Nat → Nat → Int32) (B : Nat → Nat → Int64) (reader_sort : Int32) (reader_length : Int32) (reader_letters : Int64) (v1 : Nat) {z : Int32} (e_reader_sort : I 39 = reader_sort) (e_reader_length : I 41 = reader_length) (e_reader_letters : J 0 = reader_letters) (hk_v1 : v1 < 49) (hf : f_X5_is reader_sort reader_length reader_letters v1 = some z) : rf_MI l yX5_is cX5_is 5 (some .boolean) ({ frames := 6, cells := 0, slots := 0, locals := 200 }) E [.ref (a 12), .ref (rf_aK E v1)] (cX E a P I J A B) z (cX E a P I J A B) := by
  unfold f_X5_is at hf
  refine rf_ofI (by decide) (Nat.le_of_ble_eq_true rfl) ?_
  intro p e s m below meth c A0 ls hC hD hP hS hl
  have hC : rf_C p E s m _ meth c cX5_is 5 RX5 (some .boolean) A0 := hC
  have hx := hC.1
  have hb := hC.2.1
  have hl : lv_has ls 5 [(0, .ref (a 12)), (1, .ref (rf_aK E v1))] := hl
  refine lv_aload_n hx hb dX5_is_0 rfl (lv_at hl 0 rfl) ?_
  refine gX_reader_sort hC hP tw_343 (v := reader_sort) e_reader_sort dX5_is_1 ?_
  refine lv_iconst (v := 1) hx hb dX5_is_4 (by decide) ?_
  refine lv_icmp_ne (tgt := 19) hx hb dX5_is_5 (by decide) (fun c_5 => ?_) (fun c_5 => ?_)
  · have hf := rf_ie c_5 hf
    exact w_X5_is_19 hC hD e_reader_sort e_reader_length e_reader_letters () hf _ _ _ hP hS (lv_sub hl [] rfl)
  have hf := rf_it c_5 hf
  refine lv_aload_n hx hb dX5_is_8 rfl (lv_at hl 0 rfl) ?_
  refine gX_reader_length hC hP tw_345 (v := reader_length) e_reader_length dX5_is_9 ?_
  refine lv_aload_n hx hb dX5_is_12 rfl (lv_at hl 1 rfl) ?_
  refine rf_slen hC hP hS (k := v1) hk_v1 tw_498  hl.1 (Nat.le_of_ble_eq_true rfl) ⟨Nat.le_of_ble_eq_true rfl, Nat.le_of_ble_eq_true rfl⟩ dX5_is_13 (fun H locs hP hS => ?_)
  refine lv_icmp_eq (tgt := 21) hx hb dX5_is_16 (by decide) (fun c_16 => ?_) (fun c_16 => ?_)
  · have hf := rf_it c_16 hf
    refine lv_lconst (v := 0) hx hb dX5_is_21 (by decide) ?_
    refine lv_lstore_n (lv' := [(2, .long 0), (0, .ref (a 12)), (1, .ref (rf_aK E v1))]) hx hb dX5_is_22 rfl hl (by decide) rfl (fun ls hl => ?_)
    refine lv_iconst (v := 0) hx hb dX5_is_23 (by decide) ?_
    refine lv_istore (lv' := [(4, .int 0), (2, .long 0), (0, .ref (a 12)), (1, .ref (rf_aK E v1))]) hx hb dX5_is_24 hl (by decide) rfl (fun ls hl => ?_)
    exact w_X5_is_26 hC hD e_reader_sort e_reader_length e_reader_letters rf_fu v1 0 0 hk_v1 hf _ _ _ hP hS (lv_sub hl [2, 3, 1, 0] rfl)
  have hf := rf_ie c_16 hf
  exact w_X5_is_19 hC hD e_reader_sort e_reader_length e_reader_letters () hf _ _ _ hP hS (lv_sub hl [] rfl)
