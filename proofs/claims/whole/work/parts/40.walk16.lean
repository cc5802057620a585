set_option maxHeartbeats 4000000 in
set_option maxRecDepth 100000 in
theorem c_X8_placeOf_images (l : Launch) (E : rf_E) (a P : Nat → Nat) (I : Nat → Int32) (J : Nat → Int64) (A : Nat → Nat → Int32) (B : Nat → Nat → Int64) (h_room : Int32) (h_first : Int32) (v1 : Int32) {z : Int32} (e_h_room : I 18 = h_room) (e_h_first : I 19 = h_first) (hf : f_X8_placeOf_images h_room h_first v1 = some z) : rf_MI l yX8_placeOf cX8_placeOf 2 (some .int) ({ frames := 0, cells := 0, slots := 0, locals := 0 }) E [.ref (a 9), .int v1] (cX E a P I J A B) z (cX E a P I J A B) := by
  unfold f_X8_placeOf_images at hf
  refine rf_ofI (by decide) (Nat.le_of_ble_eq_true rfl) ?_
  intro p e s m below meth c A0 ls hC hD hP hS hl
  have hC : rf_C p E s m _ meth c cX8_placeOf 2 RX8 (some .int) A0 := hC
  have hx := hC.1
  have hb := hC.2.1
  have hl : lv_has ls 2 [(0, .ref (a 9)), (1, .int v1)] := hl
  refine lv_aload_n hx hb dX8_placeOf_0 rfl (lv_at hl 0 rfl) ?_
  refine gX_images_first hC hP tw_317 (v := h_first) e_h_first dX8_placeOf_1 ?_
  refine lv_iload_n hx hb dX8_placeOf_4 rfl (lv_at hl 1 rfl) ?_
  refine lv_iadd hx hb dX8_placeOf_5 ?_
  refine lv_aload_n hx hb dX8_placeOf_6 rfl (lv_at hl 0 rfl) ?_
  refine gX_images_room hC hP tw_315 (v := h_room) e_h_room dX8_placeOf_7 ?_
  obtain ⟨hn_10, hf⟩ := rf_gn hf
  refine lv_irem hx hb dX8_placeOf_10 hn_10 ?_
  refine lv_bipush (v := 19) hx hb dX8_placeOf_11 (by decide) ?_
  refine lv_imul hx hb dX8_placeOf_13 ?_
  obtain rfl := Option.some.inj hf
  exact rf_reti hC hP hS rfl rfl dX8_placeOf_14
set_option maxHeartbeats 4000000 in
set_option maxRecDepth 100000 in
theorem w_X8_push_images_36 {l : Launch} {p : Program} {e : Env} {s : State} {m : MethodId} {args : Array Value} {below : List Frame} {meth : Method} {c : Code} {A0 : Nat → Prop} {E : rf_E} {a P : Nat → Nat} {I : Nat → Int32} {J : Nat → Int64} {A : Nat → Nat → Int32} {B : Nat → Nat → Int64} {now_hour : Int32} {now_paid : Int32} {now_far : Int32} {h_room : Int32} {now_words : Nat → Int32} {now_wet : Nat → Int32} {z : Int32 × Int32 × (Nat → Int32)} (hC : rf_C p E s m args meth c cX8_push 3 RX8 (none) A0) (hD : va_D A0 (cX E a P I J A B)) (e_now_hour : I 4 = now_hour) (e_now_paid : I 5 = now_paid) (e_now_far : I 7 = now_far) (e_h_room : I 18 = h_room) (e_now_words : A 1 = now_words) (e_now_wet : A 2 = now_wet) :
    ∀ (h_first : Int32) (h_count : Int32) (h_cells : Nat → Int32), f_X8_push_images_36 now_hour now_paid now_far h_room now_words now_wet h_first h_count h_cells = some z → ∀ (H : Heap) (locs : List Loc) (ls : Array Slot), va_P (rf_D E) vwCl (cX E a P (rf_upL I [(19, h_first), (20, h_count)]) J (rf_upL A [(12, h_cells)]) B) H → va_S A0 s.heap H locs → lv_has ls 3 [(0, .ref (a 9)), (1, .ref (a 1))] → W p l e ({ frames := 6, cells := 0, slots := 0, locals := 200 }) s m args below meth c H locs 0 0 (rf_QV below args s E A0 (cX E a P (rf_upL I [(19, z.1), (20, z.2.1)]) J (rf_upL A [(12, z.2.2)]) B)) (F0 m 36 ls []) := by
  have hx := hC.1
  have hb := hC.2.1
  intro h_first h_count h_cells hf H locs ls hP hS hl
  unfold f_X8_push_images_36 at hf
  refine lv_aload_n hx hb dX8_push_36 rfl (lv_at hl 0 rfl) ?_
  refine lv_aload_n hx hb dX8_push_37 rfl (lv_at hl 0 rfl) ?_
  refine gX_images_count hC hP tw_318 (v := h_count) rfl dX8_push_38 ?_
  obtain ⟨z41, hz41, hf⟩ := rf_bd hf
  refine rf_vi (q0 := 9) (ci := 8) hC (c_X8_placeOf_images l E a P (rf_upL I [(19, h_first), (20, h_count)]) J (rf_upL A [(12, h_cells)]) B h_room h_first h_count e_h_room rfl hz41) kV_X8_placeOf tw_1152 ⟨Nat.le_of_ble_eq_true rfl, Nat.le_of_ble_eq_true rfl⟩ rfl rfl rfl rfl rfl hP (rf_DX hD) hS rfl hl.1 (rest := []) rfl (Nat.le_of_ble_eq_true rfl) dX8_push_41 (fun H locs hP hS => ?_)
  refine lv_istore_n (lv' := [(2, .int z41), (0, .ref (a 9)), (1, .ref (a 1))]) hx hb dX8_push_44 rfl hl (by decide) rfl (fun ls hl => ?_)
  refine lv_aload_n hx hb dX8_push_45 rfl (lv_at hl 1 rfl) ?_
  refine gX_images_cells hC hP tw_316 dX8_push_46 ?_
  refine lv_iload_n hx hb dX8_push_49 rfl (lv_at hl 0 rfl) ?_
  refine lv_aload_n hx hb dX8_push_50 rfl (lv_at hl 2 rfl) ?_
  refine gX_now_hour hC hP tw_41 (v := now_hour) e_now_hour dX8_push_51 ?_
  obtain ⟨hi_54, hf⟩ := rf_gu hf
  refine sX_images_cells hC hD hP hS hi_54 (f := h_cells) rfl dX8_push_54 (rf_upL A [(12, upd h_cells (Int32.toNatClampNeg z41) now_hour)]) (rf_put rfl) (fun H locs hP hS => ?_)
  refine lv_aload_n hx hb dX8_push_55 rfl (lv_at hl 1 rfl) ?_
  refine gX_images_cells hC hP tw_316 dX8_push_56 ?_
  refine lv_iload_n hx hb dX8_push_59 rfl (lv_at hl 0 rfl) ?_
  refine lv_iconst (v := 1) hx hb dX8_push_60 (by decide) ?_
  refine lv_iadd hx hb dX8_push_61 ?_
  refine lv_aload_n hx hb dX8_push_62 rfl (lv_at hl 2 rfl) ?_
  refine gX_now_paid hC hP tw_44 (v := now_paid) e_now_paid dX8_push_63 ?_
  obtain ⟨hi_66, hf⟩ := rf_gu hf
  refine sX_images_cells hC hD hP hS hi_66 (f := upd h_cells (Int32.toNatClampNeg z41) now_hour) rfl dX8_push_66 (rf_upL A [(12, upd (upd h_cells (Int32.toNatClampNeg z41) now_hour) (Int32.toNatClampNeg (z41 + 1)) now_paid)]) (rf_put rfl) (fun H locs hP hS => ?_)
  refine lv_aload_n hx hb dX8_push_67 rfl (lv_at hl 1 rfl) ?_
  refine gX_images_cells hC hP tw_316 dX8_push_68 ?_
  refine lv_iload_n hx hb dX8_push_71 rfl (lv_at hl 0 rfl) ?_
  refine lv_iconst (v := 2) hx hb dX8_push_72 (by decide) ?_
  refine lv_iadd hx hb dX8_push_73 ?_
  refine lv_aload_n hx hb dX8_push_74 rfl (lv_at hl 2 rfl) ?_
  refine gX_now_far hC hP tw_48 (v := now_far) e_now_far dX8_push_75 ?_
  obtain ⟨hi_78, hf⟩ := rf_gu hf
  refine sX_images_cells hC hD hP hS hi_78 (f := upd (upd h_cells (Int32.toNatClampNeg z41) now_hour) (Int32.toNatClampNeg (z41 + 1)) now_paid) rfl dX8_push_78 (rf_upL A [(12, upd (upd (upd h_cells (Int32.toNatClampNeg z41) now_hour) (Int32.toNatClampNeg (z41 + 1)) now_paid) (Int32.toNatClampNeg (z41 + 2)) now_far)]) (rf_put rfl) (fun H locs hP hS => ?_)
  refine lv_aload_n hx hb dX8_push_79 rfl (lv_at hl 2 rfl) ?_
  refine gX_now_words hC hP tw_51 dX8_push_80 ?_
  refine lv_iconst (v := 0) hx hb dX8_push_83 (by decide) ?_
  refine lv_aload_n hx hb dX8_push_84 rfl (lv_at hl 1 rfl) ?_
  refine gX_images_cells hC hP tw_316 dX8_push_85 ?_
  refine lv_iload_n hx hb dX8_push_88 rfl (lv_at hl 0 rfl) ?_
  refine lv_iconst (v := 3) hx hb dX8_push_89 (by decide) ?_
  refine lv_iadd hx hb dX8_push_90 ?_
  refine lv_bipush (v := 8) hx hb dX8_push_91 (by decide) ?_
  obtain ⟨hi_93, hf⟩ := rf_gu hf
  refine yX_now_words_images_cells hC hD hP hS hi_93 (f := now_words) e_now_words (g := upd (upd (upd h_cells (Int32.toNatClampNeg z41) now_hour) (Int32.toNatClampNeg (z41 + 1)) now_paid) (Int32.toNatClampNeg (z41 + 2)) now_far) rfl tw_1156 hl.1 (Nat.le_of_ble_eq_true rfl) ⟨Nat.le_of_ble_eq_true rfl, Nat.le_of_ble_eq_true rfl⟩ dX8_push_93 (rf_upL A [(12, va_cpy now_words (upd (upd (upd h_cells (Int32.toNatClampNeg z41) now_hour) (Int32.toNatClampNeg (z41 + 1)) now_paid) (Int32.toNatClampNeg (z41 + 2)) now_far) (Int32.toNatClampNeg 0) (Int32.toNatClampNeg (z41 + 3)) (Int32.toNatClampNeg 8))]) (rf_put rfl) (fun H locs hP hS => ?_)
  refine lv_aload_n hx hb dX8_push_96 rfl (lv_at hl 2 rfl) ?_
  refine gX_now_wet hC hP tw_55 dX8_push_97 ?_
  refine lv_iconst (v := 0) hx hb dX8_push_100 (by decide) ?_
  refine lv_aload_n hx hb dX8_push_101 rfl (lv_at hl 1 rfl) ?_
  refine gX_images_cells hC hP tw_316 dX8_push_102 ?_
  refine lv_iload_n hx hb dX8_push_105 rfl (lv_at hl 0 rfl) ?_
  refine lv_iconst (v := 3) hx hb dX8_push_106 (by decide) ?_
  refine lv_iadd hx hb dX8_push_107 ?_
  refine lv_bipush (v := 8) hx hb dX8_push_108 (by decide) ?_
  refine lv_iadd hx hb dX8_push_110 ?_
  refine lv_bipush (v := 8) hx hb dX8_push_111 (by decide) ?_
  obtain ⟨hi_113, hf⟩ := rf_gu hf
  refine yX_now_wet_images_cells hC hD hP hS hi_113 (f := now_wet) e_now_wet (g := va_cpy now_words (upd (upd (upd h_cells (Int32.toNatClampNeg z41) now_hour) (Int32.toNatClampNeg (z41 + 1)) now_paid) (Int32.toNatClampNeg (z41 + 2)) now_far) (Int32.toNatClampNeg 0) (Int32.toNatClampNeg (z41 + 3)) (Int32.toNatClampNeg 8)) rfl tw_1156 hl.1 (Nat.le_of_ble_eq_true rfl) ⟨Nat.le_of_ble_eq_true rfl, Nat.le_of_ble_eq_true rfl⟩ dX8_push_113 (rf_upL A [(12, va_cpy now_wet (va_cpy now_words (upd (upd (upd h_cells (Int32.toNatClampNeg z41) now_hour) (Int32.toNatClampNeg (z41 + 1)) now_paid) (Int32.toNatClampNeg (z41 + 2)) now_far) (Int32.toNatClampNeg 0) (Int32.toNatClampNeg (z41 + 3)) (Int32.toNatClampNeg 8)) (Int32.toNatClampNeg 0) (Int32.toNatClampNeg ((z41 + 3) + 8)) (Int32.toNatClampNeg 8))]) (rf_put rfl) (fun H locs hP hS => ?_)
  refine lv_aload_n hx hb dX8_push_116 rfl (lv_at hl 1 rfl) ?_
  refine lv_dup hx hb dX8_push_117 rfl ?_
  refine gX_images_count hC hP tw_318 (v := h_count) rfl dX8_push_118 ?_
  refine lv_iconst (v := 1) hx hb dX8_push_121 (by decide) ?_
  refine lv_iadd hx hb dX8_push_122 ?_
  refine pX_images_count hC hD hP hS tw_318 dX8_push_123 (rf_upL I [(19, h_first), (20, h_count + 1)]) (rf_put rfl) (fun H locs hP hS => ?_)
  obtain rfl := Option.some.inj hf
  exact rf_retv hC hP hS rfl dX8_push_126
set_option maxHeartbeats 4000000 in
set_option maxRecDepth 100000 in
theorem c_X8_push_images (l : Launch) (E : rf_E) (a P : Nat → Nat) (I : Nat → Int32) (J : Nat → Int64) (A : Nat → Nat → Int32) (B : Nat → Nat → Int64) (now_hour : Int32) (now_paid : Int32) (now_far : Int32) (h_room : Int32) (now_words : Nat → Int32) (now_wet : Nat → Int32) (h_first : Int32) (h_count : Int32) (h_cells : Nat → Int32) {z : Int32 × Int32 × (Nat → Int32)} (e_now_hour : I 4 = now_hour) (e_now_paid : I 5 = now_paid) (e_now_far : I 7 = now_far) (e_h_room : I 18 = h_room) (e_now_words : A 1 = now_words) (e_now_wet : A 2 = now_wet) (e_h_first : I 19 = h_first) (e_h_count : I 20 = h_count) (e_h_cells : A 12 = h_cells) (hf : f_X8_push_images now_hour now_paid now_far h_room now_words now_wet h_first h_count h_cells = some z) : rf_MV l yX8_push cX8_push 3 ({ frames := 6, cells := 0, slots := 0, locals := 200 }) E [.ref (a 9), .ref (a 1)] (cX E a P I J A B) (cX E a P (rf_upL I [(19, z.1), (20, z.2.1)]) J (rf_upL A [(12, z.2.2)]) B) := by
  unfold f_X8_push_images at hf
  refine rf_ofV (by decide) (Nat.le_of_ble_eq_true rfl) ?_
  intro p e s m below meth c A0 ls hC hD hP hS hl
  have hC : rf_C p E s m _ meth c cX8_push 3 RX8 (none) A0 := hC
  have hx := hC.1
  have hb := hC.2.1
  have hl : lv_has ls 3 [(0, .ref (a 9)), (1, .ref (a 1))] := hl
  have hP : va_P (rf_D E) vwCl (cX E a P (rf_upL I [(19, h_first), (20, h_count)]) J (rf_upL A [(12, h_cells)]) B) s.heap := by
    rw [rf_self (f := I) [(19, h_first), (20, h_count)] (rf_fa1 e_h_first (rf_fa1 e_h_count rf_fa0))]
    rw [rf_self (f := A) [(12, h_cells)] (rf_fa1 e_h_cells rf_fa0)]
    exact hP
  refine lv_aload_n hx hb dX8_push_0 rfl (lv_at hl 0 rfl) ?_
  refine gX_images_count hC hP tw_318 (v := h_count) rfl dX8_push_1 ?_
  refine lv_aload_n hx hb dX8_push_4 rfl (lv_at hl 0 rfl) ?_
  refine gX_images_room hC hP tw_315 (v := h_room) e_h_room dX8_push_5 ?_
  refine lv_icmp_ne (tgt := 36) hx hb dX8_push_8 (by decide) (fun c_8 => ?_) (fun c_8 => ?_)
  · have hf := rf_ie c_8 hf
    exact w_X8_push_images_36 hC hD e_now_hour e_now_paid e_now_far e_h_room e_now_words e_now_wet h_first h_count h_cells hf _ _ _ hP hS (lv_sub hl [0, 1] rfl)
  have hf := rf_it c_8 hf
  refine lv_aload_n hx hb dX8_push_11 rfl (lv_at hl 0 rfl) ?_
  refine lv_aload_n hx hb dX8_push_12 rfl (lv_at hl 0 rfl) ?_
  refine gX_images_first hC hP tw_317 (v := h_first) rfl dX8_push_13 ?_
  refine lv_iconst (v := 1) hx hb dX8_push_16 (by decide) ?_
  refine lv_iadd hx hb dX8_push_17 ?_
  refine lv_aload_n hx hb dX8_push_18 rfl (lv_at hl 0 rfl) ?_
  refine gX_images_room hC hP tw_315 (v := h_room) e_h_room dX8_push_19 ?_
  obtain ⟨hn_22, hf⟩ := rf_gn hf
  refine lv_irem hx hb dX8_push_22 hn_22 ?_
  refine pX_images_first hC hD hP hS tw_317 dX8_push_23 (rf_upL I [(19, (h_first + 1) - (h_first + 1) / h_room * h_room), (20, h_count)]) (rf_put rfl) (fun H locs hP hS => ?_)
  refine lv_aload_n hx hb dX8_push_26 rfl (lv_at hl 0 rfl) ?_
  refine lv_dup hx hb dX8_push_27 rfl ?_
  refine gX_images_count hC hP tw_318 (v := h_count) rfl dX8_push_28 ?_
  refine lv_iconst (v := 1) hx hb dX8_push_31 (by decide) ?_
  refine lv_isub hx hb dX8_push_32 ?_
  refine pX_images_count hC hD hP hS tw_318 dX8_push_33 (rf_upL I [(19, (h_first + 1) - (h_first + 1) / h_room * h_room), (20, h_count - 1)]) (rf_put rfl) (fun H locs hP hS => ?_)
  exact w_X8_push_images_36 hC hD e_now_hour e_now_paid e_now_far e_h_room e_now_words e_now_wet ((h_first + 1) - (h_first + 1) / h_room * h_room) (h_count - 1) h_cells hf _ _ _ hP hS (lv_sub hl [0, 1] rfl)
set_option maxHeartbeats 4000000 in
set_option maxRecDepth 100000 in
theorem c_X10_image (l : Launch) (E : rf_E) (a P : Nat → Nat) (I : Nat → Int32) (J : Nat → Int64) (A : Nat → Nat → Int32) (B : Nat → Nat → Int64) (now_hour : Int32) (now_paid : Int32) (now_far : Int32) (images_room : Int32) (tc_personCount : Int32) (now_words : Nat → Int32) (now_wet : Nat → Int32) (x_lastTrouble : Int32) (images_first : Int32) (images_count : Int32) (images_cells : Nat → Int32) {z : Int32 × Int32 × Int32 × Int32 × (Nat → Int32)} (hp0 : P 0 = a 10) (e_now_hour : I 4 = now_hour) (e_now_paid : I 5 = now_paid) (e_now_far : I 7 = now_far) (e_images_room : I 18 = images_room) (e_tc_personCount : I 24 = tc_personCount) (e_now_words : A 1 = now_words) (e_now_wet : A 2 = now_wet) (e_x_lastTrouble : I 3 = x_lastTrouble) (e_images_first : I 19 = images_first) (e_images_count : I 20 = images_count) (e_images_cells : A 12 = images_cells) (hf : f_X10_image now_hour now_paid now_far images_room tc_personCount now_words now_wet x_lastTrouble images_first images_count images_cells = some z) : rf_MI l yX10_image cX10_image 1 (some .int) ({ frames := 7, cells := 0, slots := 0, locals := 222 }) E [.ref (a 0)] (cX E a P I J A B) z.1 (cX E a P (rf_upL I [(3, z.2.1), (19, z.2.2.1), (20, z.2.2.2.1)]) J (rf_upL A [(12, z.2.2.2.2)]) B) := by
  unfold f_X10_image at hf
  refine rf_ofI (by decide) (Nat.le_of_ble_eq_true rfl) ?_
  intro p e s m below meth c A0 ls hC hD hP hS hl
  have hC : rf_C p E s m _ meth c cX10_image 1 RX10 (some .int) A0 := hC
  have hx := hC.1
  have hb := hC.2.1
  have hl : lv_has ls 1 [(0, .ref (a 0))] := hl
  have hP : va_P (rf_D E) vwCl (cX E a P (rf_upL I [(3, x_lastTrouble), (19, images_first), (20, images_count)]) J (rf_upL A [(12, images_cells)]) B) s.heap := by
    rw [rf_self (f := I) [(3, x_lastTrouble), (19, images_first), (20, images_count)] (rf_fa1 e_x_lastTrouble (rf_fa1 e_images_first (rf_fa1 e_images_count rf_fa0)))]
    rw [rf_self (f := A) [(12, images_cells)] (rf_fa1 e_images_cells rf_fa0)]
    exact hP
  refine lv_aload_n hx hb dX10_image_0 rfl (lv_at hl 0 rfl) ?_
  refine lv_aload_n hx hb dX10_image_1 rfl (lv_at hl 0 rfl) ?_
  obtain ⟨z2, hz2, hf⟩ := rf_bd hf
  refine rf_vi (q0 := 0) (ci := 10) hC (c_X10_hasFerry l E a P (rf_upL I [(3, x_lastTrouble), (19, images_first), (20, images_count)]) J (rf_upL A [(12, images_cells)]) B tc_personCount hp0 e_tc_personCount hz2) kV_X10_hasFerry tw_762 ⟨Nat.le_of_ble_eq_true rfl, Nat.le_of_ble_eq_true rfl⟩ rfl rfl rfl rfl rfl hP (rf_DX hD) hS rfl hl.1 (rest := [.ref (a 0)]) rfl (Nat.le_of_ble_eq_true rfl) dX10_image_2 (fun H locs hP hS => ?_)
  refine lv_iconst (v := 1) hx hb dX10_image_5 (by decide) ?_
  obtain ⟨z6, hz6, hf⟩ := rf_bd hf
  refine rf_vi (q0 := 0) (ci := 10) hC (c_X10_refused l E a P (rf_upL I [(3, x_lastTrouble), (19, images_first), (20, images_count)]) J (rf_upL A [(12, images_cells)]) B x_lastTrouble z2 1 rfl hz6) kV_X10_refused tw_455 ⟨Nat.le_of_ble_eq_true rfl, Nat.le_of_ble_eq_true rfl⟩ rfl rfl rfl rfl rfl hP (rf_DX hD) hS rfl hl.1 (rest := []) rfl (Nat.le_of_ble_eq_true rfl) dX10_image_6 (fun H locs hP hS => ?_)
  rw [rf_cat (f := I) (l := [(3, x_lastTrouble), (19, images_first), (20, images_count)]) (lc := [(3, z6.2)]) (l' := [(3, z6.2), (19, images_first), (20, images_count)]) rfl] at hP
  refine lv_if_eq (tgt := 14) hx hb dX10_image_9 (by decide) (fun c_9 => ?_) (fun c_9 => ?_)
  · have hf := rf_it c_9 hf
    refine lv_aload_n hx hb dX10_image_14 rfl (lv_at hl 0 rfl) ?_
    refine gX_x_images hC hP tw_400 dX10_image_15 ?_
    refine gX_images_count hC hP tw_319 (v := images_count) rfl dX10_image_18 ?_
    refine lv_iconst (v := 3) hx hb dX10_image_21 (by decide) ?_
    refine lv_icmp_lt (tgt := 31) hx hb dX10_image_22 (by decide) (fun c_22 => ?_) (fun c_22 => ?_)
    · have hf := rf_it c_22 hf
      refine lv_aload_n hx hb dX10_image_31 rfl (lv_at hl 0 rfl) ?_
      refine gX_x_images hC hP tw_400 dX10_image_32 ?_
      refine lv_aload_n hx hb dX10_image_35 rfl (lv_at hl 0 rfl) ?_
      refine gX_x_now hC hP tw_392 dX10_image_36 ?_
      obtain ⟨z39, hz39, hf⟩ := rf_bd hf
      refine rf_vv (q0 := 9) (ci := 8) hC (c_X8_push_images l E a P (rf_upL I [(3, z6.2), (19, images_first), (20, images_count)]) J (rf_upL A [(12, images_cells)]) B now_hour now_paid now_far images_room now_words now_wet images_first images_count images_cells e_now_hour e_now_paid e_now_far e_images_room e_now_words e_now_wet rfl rfl rfl hz39) kV_X8_push tw_1148 ⟨Nat.le_of_ble_eq_true rfl, Nat.le_of_ble_eq_true rfl⟩ rfl rfl rfl rfl rfl hP (rf_DX hD) hS rfl hl.1 (rest := []) rfl (Nat.le_of_ble_eq_true rfl) dX10_image_39 (fun H locs hP hS => ?_)
      rw [rf_cat (f := I) (l := [(3, z6.2), (19, images_first), (20, images_count)]) (lc := [(19, z39.1), (20, z39.2.1)]) (l' := [(3, z6.2), (19, z39.1), (20, z39.2.1)]) rfl] at hP
      rw [rf_cat (f := A) (l := [(12, images_cells)]) (lc := [(12, z39.2.2)]) (l' := [(12, z39.2.2)]) rfl] at hP
      refine lv_aload_n hx hb dX10_image_42 rfl (lv_at hl 0 rfl) ?_
      refine gX_x_images hC hP tw_400 dX10_image_43 ?_
      refine gX_images_count hC hP tw_319 (v := z39.2.1) rfl dX10_image_46 ?_
      refine lv_iconst (v := 1) hx hb dX10_image_49 (by decide) ?_
      refine lv_isub hx hb dX10_image_50 ?_
      obtain rfl := Option.some.inj hf
      exact rf_reti hC hP hS rfl rfl dX10_image_51
    have hf := rf_ie c_22 hf
    refine lv_aload_n hx hb dX10_image_25 rfl (lv_at hl 0 rfl) ?_
    refine lv_iconst (v := 3) hx hb dX10_image_26 (by decide) ?_
    obtain ⟨z27, hz27, hf⟩ := rf_bd hf
    refine rf_vi (q0 := 0) (ci := 10) hC (c_X10_refuse l E a P (rf_upL I [(3, z6.2), (19, images_first), (20, images_count)]) J (rf_upL A [(12, images_cells)]) B z6.2 3 rfl hz27) kV_X10_refuse tw_679 ⟨Nat.le_of_ble_eq_true rfl, Nat.le_of_ble_eq_true rfl⟩ rfl rfl rfl rfl rfl hP (rf_DX hD) hS rfl hl.1 (rest := []) rfl (Nat.le_of_ble_eq_true rfl) dX10_image_27 (fun H locs hP hS => ?_)
    rw [rf_cat (f := I) (l := [(3, z6.2), (19, images_first), (20, images_count)]) (lc := [(3, z27.2)]) (l' := [(3, z27.2), (19, images_first), (20, images_count)]) rfl] at hP
    obtain rfl := Option.some.inj hf
    exact rf_reti hC hP hS rfl rfl dX10_image_30
  have hf := rf_ie c_9 hf
  refine lv_iconst (v := (-1)) hx hb dX10_image_12 (by decide) ?_
  obtain rfl := Option.some.inj hf
  exact rf_reti hC hP hS rfl rfl dX10_image_13
set_option maxHeartbeats 4000000 in
set_option maxRecDepth 100000 in
theorem c_X8_copyTo_images (l : Launch) (E : rf_E) (a P : Nat → Nat) (I : Nat → Int32) (J : Nat → Int64) (A : Nat → Nat → Int32) (B : Nat → Nat → Int64) (h_room : Int32) (h_first : Int32) (h_cells : Nat → Int32) (now_hour : Int32) (now_paid : Int32) (now_far : Int32) (now_words : Nat → Int32) (now_wet : Nat → Int32) (v1 : Int32) {z : Int32 × Int32 × Int32 × (Nat → Int32) × (Nat → Int32)} (e_h_room : I 18 = h_room) (e_h_first : I 19 = h_first) (e_h_cells : A 12 = h_cells) (e_now_hour : I 4 = now_hour) (e_now_paid : I 5 = now_paid) (e_now_far : I 7 = now_far) (e_now_words : A 1 = now_words) (e_now_wet : A 2 = now_wet) (hf : f_X8_copyTo_images h_room h_first h_cells now_hour now_paid now_far now_words now_wet v1 = some z) : rf_MV l yX8_copyTo cX8_copyTo 4 ({ frames := 6, cells := 0, slots := 0, locals := 200 }) E [.ref (a 9), .int v1, .ref (a 1)] (cX E a P I J A B) (cX E a P (rf_upL I [(4, z.1), (5, z.2.1), (7, z.2.2.1)]) J (rf_upL A [(1, z.2.2.2.1), (2, z.2.2.2.2)]) B) := by
  unfold f_X8_copyTo_images at hf
  refine rf_ofV (by decide) (Nat.le_of_ble_eq_true rfl) ?_
  intro p e s m below meth c A0 ls hC hD hP hS hl
  have hC : rf_C p E s m _ meth c cX8_copyTo 4 RX8 (none) A0 := hC
  have hx := hC.1
  have hb := hC.2.1
  have hl : lv_has ls 4 [(0, .ref (a 9)), (1, .int v1), (2, .ref (a 1))] := hl
  have hP : va_P (rf_D E) vwCl (cX E a P (rf_upL I [(4, now_hour), (5, now_paid), (7, now_far)]) J (rf_upL A [(1, now_words), (2, now_wet)]) B) s.heap := by
    rw [rf_self (f := I) [(4, now_hour), (5, now_paid), (7, now_far)] (rf_fa1 e_now_hour (rf_fa1 e_now_paid (rf_fa1 e_now_far rf_fa0)))]
    rw [rf_self (f := A) [(1, now_words), (2, now_wet)] (rf_fa1 e_now_words (rf_fa1 e_now_wet rf_fa0))]
    exact hP
  refine lv_aload_n hx hb dX8_copyTo_0 rfl (lv_at hl 0 rfl) ?_
  refine lv_iload_n hx hb dX8_copyTo_1 rfl (lv_at hl 1 rfl) ?_
  obtain ⟨z2, hz2, hf⟩ := rf_bd hf
  refine rf_vi (q0 := 9) (ci := 8) hC (c_X8_placeOf_images l E a P (rf_upL I [(4, now_hour), (5, now_paid), (7, now_far)]) J (rf_upL A [(1, now_words), (2, now_wet)]) B h_room h_first v1 e_h_room e_h_first hz2) kV_X8_placeOf tw_1152 ⟨Nat.le_of_ble_eq_true rfl, Nat.le_of_ble_eq_true rfl⟩ rfl rfl rfl rfl rfl hP (rf_DX hD) hS rfl hl.1 (rest := []) rfl (Nat.le_of_ble_eq_true rfl) dX8_copyTo_2 (fun H locs hP hS => ?_)
  refine lv_istore_n (lv' := [(3, .int z2), (0, .ref (a 9)), (1, .int v1), (2, .ref (a 1))]) hx hb dX8_copyTo_5 rfl hl (by decide) rfl (fun ls hl => ?_)
  refine lv_aload_n hx hb dX8_copyTo_6 rfl (lv_at hl 3 rfl) ?_
  refine lv_aload_n hx hb dX8_copyTo_7 rfl (lv_at hl 1 rfl) ?_
  refine gX_images_cells hC hP tw_316 dX8_copyTo_8 ?_
  refine lv_iload_n hx hb dX8_copyTo_11 rfl (lv_at hl 0 rfl) ?_
  obtain ⟨hi_12, hf⟩ := rf_gu hf
  refine lX_images_cells hC hP hi_12 (f := h_cells) e_h_cells dX8_copyTo_12 ?_
  refine pX_now_hour hC hD hP hS tw_41 dX8_copyTo_13 (rf_upL I [(4, h_cells (Int32.toNatClampNeg z2)), (5, now_paid), (7, now_far)]) (rf_put rfl) (fun H locs hP hS => ?_)
  refine lv_aload_n hx hb dX8_copyTo_16 rfl (lv_at hl 3 rfl) ?_
  refine lv_aload_n hx hb dX8_copyTo_17 rfl (lv_at hl 1 rfl) ?_
  refine gX_images_cells hC hP tw_316 dX8_copyTo_18 ?_
  refine lv_iload_n hx hb dX8_copyTo_21 rfl (lv_at hl 0 rfl) ?_
  refine lv_iconst (v := 1) hx hb dX8_copyTo_22 (by decide) ?_
  refine lv_iadd hx hb dX8_copyTo_23 ?_
  obtain ⟨hi_24, hf⟩ := rf_gu hf
  refine lX_images_cells hC hP hi_24 (f := h_cells) e_h_cells dX8_copyTo_24 ?_
  refine pX_now_paid hC hD hP hS tw_44 dX8_copyTo_25 (rf_upL I [(4, h_cells (Int32.toNatClampNeg z2)), (5, h_cells (Int32.toNatClampNeg (z2 + 1))), (7, now_far)]) (rf_put rfl) (fun H locs hP hS => ?_)
  refine lv_aload_n hx hb dX8_copyTo_28 rfl (lv_at hl 3 rfl) ?_
  refine lv_aload_n hx hb dX8_copyTo_29 rfl (lv_at hl 1 rfl) ?_
  refine gX_images_cells hC hP tw_316 dX8_copyTo_30 ?_
  refine lv_iload_n hx hb dX8_copyTo_33 rfl (lv_at hl 0 rfl) ?_
  refine lv_iconst (v := 2) hx hb dX8_copyTo_34 (by decide) ?_
  refine lv_iadd hx hb dX8_copyTo_35 ?_
  obtain ⟨hi_36, hf⟩ := rf_gu hf
  refine lX_images_cells hC hP hi_36 (f := h_cells) e_h_cells dX8_copyTo_36 ?_
  refine pX_now_far hC hD hP hS tw_48 dX8_copyTo_37 (rf_upL I [(4, h_cells (Int32.toNatClampNeg z2)), (5, h_cells (Int32.toNatClampNeg (z2 + 1))), (7, h_cells (Int32.toNatClampNeg (z2 + 2)))]) (rf_put rfl) (fun H locs hP hS => ?_)
  refine lv_aload_n hx hb dX8_copyTo_40 rfl (lv_at hl 1 rfl) ?_
  refine gX_images_cells hC hP tw_316 dX8_copyTo_41 ?_
  refine lv_iload_n hx hb dX8_copyTo_44 rfl (lv_at hl 0 rfl) ?_
  refine lv_iconst (v := 3) hx hb dX8_copyTo_45 (by decide) ?_
  refine lv_iadd hx hb dX8_copyTo_46 ?_
  refine lv_aload_n hx hb dX8_copyTo_47 rfl (lv_at hl 3 rfl) ?_
  refine gX_now_words hC hP tw_51 dX8_copyTo_48 ?_
  refine lv_iconst (v := 0) hx hb dX8_copyTo_51 (by decide) ?_
  refine lv_bipush (v := 8) hx hb dX8_copyTo_52 (by decide) ?_
  obtain ⟨hi_54, hf⟩ := rf_gu hf
  refine yX_images_cells_now_words hC hD hP hS hi_54 (f := h_cells) e_h_cells (g := now_words) rfl tw_1156 hl.1 (Nat.le_of_ble_eq_true rfl) ⟨Nat.le_of_ble_eq_true rfl, Nat.le_of_ble_eq_true rfl⟩ dX8_copyTo_54 (rf_upL A [(1, va_cpy h_cells now_words (Int32.toNatClampNeg (z2 + 3)) (Int32.toNatClampNeg 0) (Int32.toNatClampNeg 8)), (2, now_wet)]) (rf_put rfl) (fun H locs hP hS => ?_)
  refine lv_aload_n hx hb dX8_copyTo_57 rfl (lv_at hl 1 rfl) ?_
  refine gX_images_cells hC hP tw_316 dX8_copyTo_58 ?_
  refine lv_iload_n hx hb dX8_copyTo_61 rfl (lv_at hl 0 rfl) ?_
  refine lv_iconst (v := 3) hx hb dX8_copyTo_62 (by decide) ?_
  refine lv_iadd hx hb dX8_copyTo_63 ?_
  refine lv_bipush (v := 8) hx hb dX8_copyTo_64 (by decide) ?_
  refine lv_iadd hx hb dX8_copyTo_66 ?_
  refine lv_aload_n hx hb dX8_copyTo_67 rfl (lv_at hl 3 rfl) ?_
  refine gX_now_wet hC hP tw_55 dX8_copyTo_68 ?_
  refine lv_iconst (v := 0) hx hb dX8_copyTo_71 (by decide) ?_
  refine lv_bipush (v := 8) hx hb dX8_copyTo_72 (by decide) ?_
  obtain ⟨hi_74, hf⟩ := rf_gu hf
  refine yX_images_cells_now_wet hC hD hP hS hi_74 (f := h_cells) e_h_cells (g := now_wet) rfl tw_1156 hl.1 (Nat.le_of_ble_eq_true rfl) ⟨Nat.le_of_ble_eq_true rfl, Nat.le_of_ble_eq_true rfl⟩ dX8_copyTo_74 (rf_upL A [(1, va_cpy h_cells now_words (Int32.toNatClampNeg (z2 + 3)) (Int32.toNatClampNeg 0) (Int32.toNatClampNeg 8)), (2, va_cpy h_cells now_wet (Int32.toNatClampNeg ((z2 + 3) + 8)) (Int32.toNatClampNeg 0) (Int32.toNatClampNeg 8))]) (rf_put rfl) (fun H locs hP hS => ?_)
  obtain rfl := Option.some.inj hf
  exact rf_retv hC hP hS rfl dX8_copyTo_77
set_option maxHeartbeats 4000000 in
set_option maxRecDepth 100000 in
theorem w_X10_back_21 {l : Launch} {p : Program} {e : Env} {s : State} {m : MethodId} {args : Array Value} {below : List Frame} {meth : Method} {c : Code} {A0 : Nat → Prop} {E : rf_E} {a P : Nat → Nat} {I : Nat → Int32} {J : Nat → Int64} {A : Nat → Nat → Int32} {B : Nat → Nat → Int64} {images_room : Int32} {images_first : Int32} {images_count : Int32} {images_cells : Nat → Int32} {z : Int32 × Int32 × Int32 × Int32 × Int32 × Int32 × Int32 × (Nat → Int32) × (Nat → Int32)} (hC : rf_C p E s m args meth c cX10_back 2 RX10 (some .boolean) A0) (hD : va_D A0 (cX E a P I J A B)) (e_images_room : I 18 = images_room) (e_images_first : I 19 = images_first) (e_images_count : I 20 = images_count) (e_images_cells : A 12 = images_cells) :
    ∀ (v1 : Int32) (s1 : Int32) (x_lastTrouble : Int32) (now_hour : Int32) (now_paid : Int32) (now_far : Int32) (acts_first : Int32) (acts_count : Int32) (now_words : Nat → Int32) (now_wet : Nat → Int32), f_X10_back_21 images_room images_first images_count images_cells v1 s1 x_lastTrouble now_hour now_paid now_far acts_first acts_count now_words now_wet = some z → ∀ (H : Heap) (locs : List Loc) (ls : Array Slot), va_P (rf_D E) vwCl (cX E a P (rf_upL I [(3, x_lastTrouble), (4, now_hour), (5, now_paid), (7, now_far), (16, acts_first), (17, acts_count)]) J (rf_upL A [(1, now_words), (2, now_wet)]) B) H → va_S A0 s.heap H locs → lv_has ls 2 [(0, .ref (a 0)), (1, .int v1)] → W p l e ({ frames := 7, cells := 0, slots := 0, locals := 223 }) s m args below meth c H locs 0 0 (rf_QI below args s E A0 z.1 (cX E a P (rf_upL I [(3, z.2.1), (4, z.2.2.1), (5, z.2.2.2.1), (7, z.2.2.2.2.1), (16, z.2.2.2.2.2.1), (17, z.2.2.2.2.2.2.1)]) J (rf_upL A [(1, z.2.2.2.2.2.2.2.1), (2, z.2.2.2.2.2.2.2.2)]) B)) (F0 m 21 ls [.int s1, .ref (a 0)]) := by
  have hx := hC.1
  have hb := hC.2.1
  intro v1 s1 x_lastTrouble now_hour now_paid now_far acts_first acts_count now_words now_wet hf H locs ls hP hS hl
  unfold f_X10_back_21 at hf
  refine lv_iconst (v := 1) hx hb dX10_back_21 (by decide) ?_
  obtain ⟨z22, hz22, hf⟩ := rf_bd hf
  refine rf_vi (q0 := 0) (ci := 10) hC (c_X10_refused l E a P (rf_upL I [(3, x_lastTrouble), (4, now_hour), (5, now_paid), (7, now_far), (16, acts_first), (17, acts_count)]) J (rf_upL A [(1, now_words), (2, now_wet)]) B x_lastTrouble s1 1 rfl hz22) kV_X10_refused tw_455 ⟨Nat.le_of_ble_eq_true rfl, Nat.le_of_ble_eq_true rfl⟩ rfl rfl rfl rfl rfl hP (rf_DX hD) hS rfl hl.1 (rest := []) rfl (Nat.le_of_ble_eq_true rfl) dX10_back_22 (fun H locs hP hS => ?_)
  rw [rf_cat (f := I) (l := [(3, x_lastTrouble), (4, now_hour), (5, now_paid), (7, now_far), (16, acts_first), (17, acts_count)]) (lc := [(3, z22.2)]) (l' := [(3, z22.2), (4, now_hour), (5, now_paid), (7, now_far), (16, acts_first), (17, acts_count)]) rfl] at hP
  refine lv_if_eq (tgt := 30) hx hb dX10_back_25 (by decide) (fun c_25 => ?_) (fun c_25 => ?_)
  · have hf := rf_it c_25 hf
    refine lv_aload_n hx hb dX10_back_30 rfl (lv_at hl 0 rfl) ?_
    refine gX_x_images hC hP tw_400 dX10_back_31 ?_
    refine lv_iload_n hx hb dX10_back_34 rfl (lv_at hl 1 rfl) ?_
    refine lv_aload_n hx hb dX10_back_35 rfl (lv_at hl 0 rfl) ?_
    refine gX_x_now hC hP tw_392 dX10_back_36 ?_
    obtain ⟨z39, hz39, hf⟩ := rf_bd hf
    refine rf_vv (q0 := 9) (ci := 8) hC (c_X8_copyTo_images l E a P (rf_upL I [(3, z22.2), (4, now_hour), (5, now_paid), (7, now_far), (16, acts_first), (17, acts_count)]) J (rf_upL A [(1, now_words), (2, now_wet)]) B images_room images_first images_cells now_hour now_paid now_far now_words now_wet v1 e_images_room e_images_first e_images_cells rfl rfl rfl rfl rfl hz39) kV_X8_copyTo tw_1190 ⟨Nat.le_of_ble_eq_true rfl, Nat.le_of_ble_eq_true rfl⟩ rfl rfl rfl rfl rfl hP (rf_DX hD) hS rfl hl.1 (rest := []) rfl (Nat.le_of_ble_eq_true rfl) dX10_back_39 (fun H locs hP hS => ?_)
    rw [rf_cat (f := I) (l := [(3, z22.2), (4, now_hour), (5, now_paid), (7, now_far), (16, acts_first), (17, acts_count)]) (lc := [(4, z39.1), (5, z39.2.1), (7, z39.2.2.1)]) (l' := [(3, z22.2), (4, z39.1), (5, z39.2.1), (7, z39.2.2.1), (16, acts_first), (17, acts_count)]) rfl] at hP
    rw [rf_cat (f := A) (l := [(1, now_words), (2, now_wet)]) (lc := [(1, z39.2.2.2.1), (2, z39.2.2.2.2)]) (l' := [(1, z39.2.2.2.1), (2, z39.2.2.2.2)]) rfl] at hP
    refine lv_aload_n hx hb dX10_back_42 rfl (lv_at hl 0 rfl) ?_
    refine gX_x_acts hC hP tw_399 dX10_back_43 ?_
    obtain ⟨z46, hz46, hf⟩ := rf_bd hf
    refine rf_vv (q0 := 8) (ci := 8) hC (c_X8_clear_acts l E a P (rf_upL I [(3, z22.2), (4, z39.1), (5, z39.2.1), (7, z39.2.2.1), (16, acts_first), (17, acts_count)]) J (rf_upL A [(1, z39.2.2.2.1), (2, z39.2.2.2.2)]) B acts_first acts_count rfl rfl hz46) kV_X8_clear tw_705 ⟨Nat.le_of_ble_eq_true rfl, Nat.le_of_ble_eq_true rfl⟩ rfl rfl rfl rfl rfl hP (rf_DX hD) hS rfl hl.1 (rest := []) rfl (Nat.le_of_ble_eq_true rfl) dX10_back_46 (fun H locs hP hS => ?_)
    rw [rf_cat (f := I) (l := [(3, z22.2), (4, z39.1), (5, z39.2.1), (7, z39.2.2.1), (16, acts_first), (17, acts_count)]) (lc := [(16, z46.1), (17, z46.2)]) (l' := [(3, z22.2), (4, z39.1), (5, z39.2.1), (7, z39.2.2.1), (16, z46.1), (17, z46.2)]) rfl] at hP
    refine lv_iconst (v := 1) hx hb dX10_back_49 (by decide) ?_
    obtain rfl := Option.some.inj hf
    exact rf_retz hC hP hS (by decide) rfl rfl dX10_back_50
  have hf := rf_ie c_25 hf
  refine lv_iconst (v := 0) hx hb dX10_back_28 (by decide) ?_
  obtain rfl := Option.some.inj hf
  exact rf_retz hC hP hS (by decide) rfl rfl dX10_back_29
set_option maxHeartbeats 4000000 in
set_option maxRecDepth 100000 in
theorem w_X10_back_20 {l : Launch} {p : Program} {e : Env} {s : State} {m : MethodId} {args : Array Value} {below : List Frame} {meth : Method} {c : Code} {A0 : Nat → Prop} {E : rf_E} {a P : Nat → Nat} {I : Nat → Int32} {J : Nat → Int64} {A : Nat → Nat → Int32} {B : Nat → Nat → Int64} {images_room : Int32} {images_first : Int32} {images_count : Int32} {images_cells : Nat → Int32} {z : Int32 × Int32 × Int32 × Int32 × Int32 × Int32 × Int32 × (Nat → Int32) × (Nat → Int32)} (hC : rf_C p E s m args meth c cX10_back 2 RX10 (some .boolean) A0) (hD : va_D A0 (cX E a P I J A B)) (e_images_room : I 18 = images_room) (e_images_first : I 19 = images_first) (e_images_count : I 20 = images_count) (e_images_cells : A 12 = images_cells) :
    ∀ (v1 : Int32) (x_lastTrouble : Int32) (now_hour : Int32) (now_paid : Int32) (now_far : Int32) (acts_first : Int32) (acts_count : Int32) (now_words : Nat → Int32) (now_wet : Nat → Int32), f_X10_back_20 images_room images_first images_count images_cells v1 x_lastTrouble now_hour now_paid now_far acts_first acts_count now_words now_wet = some z → ∀ (H : Heap) (locs : List Loc) (ls : Array Slot), va_P (rf_D E) vwCl (cX E a P (rf_upL I [(3, x_lastTrouble), (4, now_hour), (5, now_paid), (7, now_far), (16, acts_first), (17, acts_count)]) J (rf_upL A [(1, now_words), (2, now_wet)]) B) H → va_S A0 s.heap H locs → lv_has ls 2 [(0, .ref (a 0)), (1, .int v1)] → W p l e ({ frames := 7, cells := 0, slots := 0, locals := 223 }) s m args below meth c H locs 0 0 (rf_QI below args s E A0 z.1 (cX E a P (rf_upL I [(3, z.2.1), (4, z.2.2.1), (5, z.2.2.2.1), (7, z.2.2.2.2.1), (16, z.2.2.2.2.2.1), (17, z.2.2.2.2.2.2.1)]) J (rf_upL A [(1, z.2.2.2.2.2.2.2.1), (2, z.2.2.2.2.2.2.2.2)]) B)) (F0 m 20 ls [.ref (a 0)]) := by
  have hx := hC.1
  have hb := hC.2.1
  intro v1 x_lastTrouble now_hour now_paid now_far acts_first acts_count now_words now_wet hf H locs ls hP hS hl
  unfold f_X10_back_20 at hf
  refine lv_iconst (v := 0) hx hb dX10_back_20 (by decide) ?_
  exact w_X10_back_21 hC hD e_images_room e_images_first e_images_count e_images_cells v1 0 x_lastTrouble now_hour now_paid now_far acts_first acts_count now_words now_wet hf _ _ _ hP hS (lv_sub hl [0, 1] rfl)
set_option maxHeartbeats 4000000 in
set_option maxRecDepth 100000 in
theorem c_X10_back (l : Launch) (E : rf_E) (a P : Nat → Nat) (I : Nat → Int32) (J : Nat → Int64) (A : Nat → Nat → Int32) (B : Nat → Nat → Int64) (images_room : Int32) (images_first : Int32) (images_count : Int32) (images_cells : Nat → Int32) (x_lastTrouble : Int32) (now_hour : Int32) (now_paid : Int32) (now_far : Int32) (acts_first : Int32) (acts_count : Int32) (now_words : Nat → Int32) (now_wet : Nat → Int32) (v1 : Int32) {z : Int32 × Int32 × Int32 × Int32 × Int32 × Int32 × Int32 × (Nat → Int32) × (Nat → Int32)} (e_images_room : I 18 = images_room) (e_images_first : I 19 = images_first) (e_images_count : I 20 = images_count) (e_images_cells : A 12 = images_cells) (e_x_lastTrouble : I 3 = x_lastTrouble) (e_now_hour : I 4 = now_hour) (e_now_paid : I 5 = now_paid) (e_now_far : I 7 = now_far) (e_acts_first : I 16 = acts_first) (e_acts_count : I 17 = acts_count) (e_now_words : A 1 = now_words) (e_now_wet : A 2 = now_wet) (hf : f_X10_back images_room images_first images_count images_cells x_lastTrouble now_hour now_paid now_far acts_first acts_count now_words now_wet v1 = some z) : rf_MI l yX10_back cX10_back 2 (some .boolean) ({ frames := 7, cells := 0, slots := 0, locals := 223 }) E [.ref (a 0), .int v1] (cX E a P I J A B) z.1 (cX E a P (rf_upL I [(3, z.2.1), (4, z.2.2.1), (5, z.2.2.2.1), (7, z.2.2.2.2.1), (16, z.2.2.2.2.2.1), (17, z.2.2.2.2.2.2.1)]) J (rf_upL A [(1, z.2.2.2.2.2.2.2.1), (2, z.2.2.2.2.2.2.2.2)]) B) := by
  unfold f_X10_back at hf
  refine rf_ofI (by decide) (Nat.le_of_ble_eq_true rfl) ?_
  intro p e s m below meth c A0 ls hC hD hP hS hl
  have hC : rf_C p E s m _ meth c cX10_back 2 RX10 (some .boolean) A0 := hC
  have hx := hC.1
  have hb := hC.2.1
  have hl : lv_has ls 2 [(0, .ref (a 0)), (1, .int v1)] := hl
  have hP : va_P (rf_D E) vwCl (cX E a P (rf_upL I [(3, x_lastTrouble), (4, now_hour), (5, now_paid), (7, now_far), (16, acts_first), (17, acts_count)]) J (rf_upL A [(1, now_words), (2, now_wet)]) B) s.heap := by
    rw [rf_self (f := I) [(3, x_lastTrouble), (4, now_hour), (5, now_paid), (7, now_far), (16, acts_first), (17, acts_count)] (rf_fa1 e_x_lastTrouble (rf_fa1 e_now_hour (rf_fa1 e_now_paid (rf_fa1 e_now_far (rf_fa1 e_acts_first (rf_fa1 e_acts_count rf_fa0))))))]
    rw [rf_self (f := A) [(1, now_words), (2, now_wet)] (rf_fa1 e_now_words (rf_fa1 e_now_wet rf_fa0))]
    exact hP
  refine lv_aload_n hx hb dX10_back_0 rfl (lv_at hl 0 rfl) ?_
  refine lv_iload_n hx hb dX10_back_1 rfl (lv_at hl 1 rfl) ?_
  refine lv_if_lt (tgt := 20) hx hb dX10_back_2 (by decide) (fun c_2 => ?_) (fun c_2 => ?_)
  · have hf := rf_it c_2 hf
    exact w_X10_back_20 hC hD e_images_room e_images_first e_images_count e_images_cells v1 x_lastTrouble now_hour now_paid now_far acts_first acts_count now_words now_wet hf _ _ _ hP hS (lv_sub hl [0, 1] rfl)
  have hf := rf_ie c_2 hf
  refine lv_iload_n hx hb dX10_back_5 rfl (lv_at hl 1 rfl) ?_
  refine lv_aload_n hx hb dX10_back_6 rfl (lv_at hl 0 rfl) ?_
  refine gX_x_images hC hP tw_400 dX10_back_7 ?_
  refine gX_images_count hC hP tw_319 (v := images_count) e_images_count dX10_back_10 ?_
  refine lv_icmp_ge (tgt := 20) hx hb dX10_back_13 (by decide) (fun c_13 => ?_) (fun c_13 => ?_)
  · have hf := rf_it c_13 hf
    exact w_X10_back_20 hC hD e_images_room e_images_first e_images_count e_images_cells v1 x_lastTrouble now_hour now_paid now_far acts_first acts_count now_words now_wet hf _ _ _ hP hS (lv_sub hl [0, 1] rfl)
  have hf := rf_ie c_13 hf
  refine lv_iconst (v := 1) hx hb dX10_back_16 (by decide) ?_
  refine lv_goto (tgt := 21) hx hb dX10_back_17 (by decide) ?_
  exact w_X10_back_21 hC hD e_images_room e_images_first e_images_count e_images_cells v1 1 x_lastTrouble now_hour now_paid now_far acts_first acts_count now_words now_wet hf _ _ _ hP hS (lv_sub hl [0, 1] rfl)
set_option maxHeartbeats 4000000 in
set_option maxRecDepth 100000 in
theorem w_X9_errandsTold_tc_27 {l : Launch} {p : Program} {e : Env} {s : State} {m : MethodId} {args : Array Value} {below : List Frame} {meth : Method} {c : Code} {A0 : Nat → Prop} {E : rf_E} {a P : Nat → Nat} {I : Nat → Int32} {J : Nat → Int64} {A : Nat → Nat → Int32} {B : Nat → Nat → Int64} {t_personCount : Int32} {t_errands : Nat → Int32} {z : Int32} (hC : rf_C p E s m args meth c cX9_errandsTold 3 RX9 (some .int) A0) (hD : va_D A0 (cX E a P I J A B)) (e_t_personCount : I 24 = t_personCount) (e_t_errands : A 16 = t_errands) {k4 : Int32 → Int32 → Option (Int32)} (hk4 : ∀ (v1 : Int32) (v2 : Int32), k4 v1 v2 = some z → ∀ (H : Heap) (locs : List Loc) (ls : Array Slot), va_P (rf_D E) vwCl (cX E a P I J A B) H → va_S A0 s.heap H locs → lv_has ls 3 [(0, .ref (a 10)), (1, .int v1), (2, .int v2)] → W p l e ({ frames := 0, cells := 0, slots := 0, locals := 0 }) s m args below meth c H locs 0 0 (rf_QI below args s E A0 z (cX E a P I J A B)) (F0 m 4 ls [])) :
    ∀ (v2 : Int32) (s0 : Int32) (s1 : Int32), f_X9_errandsTold_27 k4 t_personCount t_errands v2 s0 s1 = some z → ∀ (H : Heap) (locs : List Loc) (ls : Array Slot), va_P (rf_D E) vwCl (cX E a P I J A B) H → va_S A0 s.heap H locs → lv_has ls 3 [(0, .ref (a 10)), (2, .int v2)] → W p l e ({ frames := 0, cells := 0, slots := 0, locals := 0 }) s m args below meth c H locs 0 0 (rf_QI below args s E A0 z (cX E a P I J A B)) (F0 m 27 ls [.int s1, .int s0]) := by
  have hx := hC.1
  have hb := hC.2.1
  intro v2 s0 s1 hf H locs ls hP hS hl
  unfold f_X9_errandsTold_27 at hf
  refine lv_iadd hx hb dX9_errandsTold_27 ?_
  refine lv_istore_n (lv' := [(1, .int (s0 + s1)), (0, .ref (a 10)), (2, .int v2)]) hx hb dX9_errandsTold_28 rfl hl (by decide) rfl (fun ls hl => ?_)
  refine lv_iinc (v := v2 + 1) (lv' := [(2, .int (v2 + 1)), (1, .int (s0 + s1)), (0, .ref (a 10))]) hx hb dX9_errandsTold_29 hl (k := 2) rfl rfl (by decide) rfl (fun ls hl => ?_)
  refine lv_goto (tgt := 4) hx hb dX9_errandsTold_32 (by decide) ?_
  exact hk4 (s0 + s1) (v2 + 1) hf _ _ _ hP hS (lv_sub hl [2, 1, 0] rfl)
set_option maxHeartbeats 4000000 in
set_option maxRecDepth 100000 in
theorem w_X9_errandsTold_tc_4 {l : Launch} {p : Program} {e : Env} {s : State} {m : MethodId} {args : Array Value} {below : List Frame} {meth : Method} {c : Code} {A0 : Nat → Prop} {E : rf_E} {a P : Nat → Nat} {I : Nat → Int32} {J : Nat → Int64} {A : Nat → Nat → Int32} {B : Nat → Nat → Int64} {t_personCount : Int32} {t_errands : Nat → Int32} {z : Int32} (hC : rf_C p E s m args meth c cX9_errandsTold 3 RX9 (some .int) A0) (hD : va_D A0 (cX E a P I J A B)) (e_t_personCount : I 24 = t_personCount) (e_t_errands : A 16 = t_errands) :
    ∀ (n : Nat), ∀ (v1 : Int32) (v2 : Int32), f_X9_errandsTold_4 t_personCount t_errands n v1 v2 = some z → ∀ (H : Heap) (locs : List Loc) (ls : Array Slot), va_P (rf_D E) vwCl (cX E a P I J A B) H → va_S A0 s.heap H locs → lv_has ls 3 [(0, .ref (a 10)), (1, .int v1), (2, .int v2)] → W p l e ({ frames := 0, cells := 0, slots := 0, locals := 0 }) s m args below meth c H locs 0 0 (rf_QI below args s E A0 z (cX E a P I J A B)) (F0 m 4 ls []) := by
  have hx := hC.1
  have hb := hC.2.1
  intro n
  induction n with
  | zero =>
    intro v1 v2 hf
    have hf : (none : Option (Int32)) = some z := hf
    cases hf
  | succ n ih =>
    intro v1 v2 hf H locs ls hP hS hl
    rw [f_X9_errandsTold_4] at hf
    refine lv_iload_n hx hb dX9_errandsTold_4 rfl (lv_at hl 2 rfl) ?_
    refine lv_aload_n hx hb dX9_errandsTold_5 rfl (lv_at hl 0 rfl) ?_
    refine gX_tc_personCount hC hP tw_126 (v := t_personCount) e_t_personCount dX9_errandsTold_6 ?_
    refine lv_icmp_ge (tgt := 35) hx hb dX9_errandsTold_9 (by decide) (fun c_9 => ?_) (fun c_9 => ?_)
    · have hf := rf_it c_9 hf
      refine lv_iload_n hx hb dX9_errandsTold_35 rfl (lv_at hl 1 rfl) ?_
      obtain rfl := Option.some.inj hf
      exact rf_reti hC hP hS rfl rfl dX9_errandsTold_36
    have hf := rf_ie c_9 hf
    refine lv_iload_n hx hb dX9_errandsTold_12 rfl (lv_at hl 1 rfl) ?_
    refine lv_aload_n hx hb dX9_errandsTold_13 rfl (lv_at hl 0 rfl) ?_
    refine gX_tc_errands hC hP tw_99 dX9_errandsTold_14 ?_
    refine lv_iload_n hx hb dX9_errandsTold_17 rfl (lv_at hl 2 rfl) ?_
    obtain ⟨hi_18, hf⟩ := rf_gu hf
    refine lX_tc_errands hC hP hi_18 (f := t_errands) e_t_errands dX9_errandsTold_18 ?_
    refine lv_if_le (tgt := 26) hx hb dX9_errandsTold_19 (by decide) (fun c_19 => ?_) (fun c_19 => ?_)
    · have hf := rf_it c_19 hf
      refine lv_iconst (v := 0) hx hb dX9_errandsTold_26 (by decide) ?_
      exact w_X9_errandsTold_tc_27 hC hD e_t_personCount e_t_errands ih v2 v1 0 hf _ _ _ hP hS (lv_sub hl [0, 2] rfl)
    have hf := rf_ie c_19 hf
    refine lv_iconst (v := 1) hx hb dX9_errandsTold_22 (by decide) ?_
    refine lv_goto (tgt := 27) hx hb dX9_errandsTold_23 (by decide) ?_
    exact w_X9_errandsTold_tc_27 hC hD e_t_personCount e_t_errands ih v2 v1 1 hf _ _ _ hP hS (lv_sub hl [0, 2] rfl)
set_option maxHeartbeats 4000000 in
set_option maxRecDepth 100000 in
theorem c_X9_errandsTold_tc (l : Launch) (E : rf_E) (a P : Nat → Nat) (I : Nat → Int32) (J : Nat → Int64) (A : Nat → Nat → Int32) (B : Nat → Nat → Int64) (t_personCount : Int32) (t_errands : Nat → Int32) {z : Int32} (e_t_personCount : I 24 = t_personCount) (e_t_errands : A 16 = t_errands) (hf : f_X9_errandsTold t_personCount t_errands = some z) : rf_MI l yX9_errandsTold cX9_errandsTold 3 (some .int) ({ frames := 0, cells := 0, slots := 0, locals := 0 }) E [.ref (a 10)] (cX E a P I J A B) z (cX E a P I J A B) := by
  unfold f_X9_errandsTold at hf
  refine rf_ofI (by decide) (Nat.le_of_ble_eq_true rfl) ?_
  intro p e s m below meth c A0 ls hC hD hP hS hl
  have hC : rf_C p E s m _ meth c cX9_errandsTold 3 RX9 (some .int) A0 := hC
  have hx := hC.1
  have hb := hC.2.1
  have hl : lv_has ls 3 [(0, .ref (a 10))] := hl
  refine lv_iconst (v := 0) hx hb dX9_errandsTold_0 (by decide) ?_
  refine lv_istore_n (lv' := [(1, .int 0), (0, .ref (a 10))]) hx hb dX9_errandsTold_1 rfl hl (by decide) rfl (fun ls hl => ?_)
  refine lv_iconst (v := 0) hx hb dX9_errandsTold_2 (by decide) ?_
  refine lv_istore_n (lv' := [(2, .int 0), (1, .int 0), (0, .ref (a 10))]) hx hb dX9_errandsTold_3 rfl hl (by decide) rfl (fun ls hl => ?_)
  exact w_X9_errandsTold_tc_4 hC hD e_t_personCount e_t_errands rf_fu 0 0 hf _ _ _ hP hS (lv_sub hl [2, 1, 0] rfl)
set_option maxHeartbeats 4000000 in
set_option maxRecDepth 100000 in
theorem w_X9_hoursTold_tc_25 {l : Launch} {p : Program} {e : Env} {s : State} {m : MethodId} {args : Array Value} {below : List Frame} {meth : Method} {c : Code} {A0 : Nat → Prop} {E : rf_E} {a P : Nat → Nat} {I : Nat → Int32} {J : Nat → Int64} {A : Nat → Nat → Int32} {B : Nat → Nat → Int64} {t_hourEars : Nat → Int32} {z : Int32} (hC : rf_C p E s m args meth c cX9_hoursTold 3 RX9 (some .int) A0) (hD : va_D A0 (cX E a P I J A B)) (e_t_hourEars : A 18 = t_hourEars) {k4 : Int32 → Int32 → Option (Int32)} (hk4 : ∀ (v1 : Int32) (v2 : Int32), k4 v1 v2 = some z → ∀ (H : Heap) (locs : List Loc) (ls : Array Slot), va_P (rf_D E) vwCl (cX E a P I J A B) H → va_S A0 s.heap H locs → lv_has ls 3 [(0, .ref (a 10)), (1, .int v1), (2, .int v2)] → W p l e ({ frames := 0, cells := 0, slots := 0, locals := 0 }) s m args below meth c H locs 0 0 (rf_QI below args s E A0 z (cX E a P I J A B)) (F0 m 4 ls [])) :
    ∀ (v2 : Int32) (s0 : Int32) (s1 : Int32), f_X9_hoursTold_25 k4 t_hourEars v2 s0 s1 = some z → ∀ (H : Heap) (locs : List Loc) (ls : Array Slot), va_P (rf_D E) vwCl (cX E a P I J A B) H → va_S A0 s.heap H locs → lv_has ls 3 [(0, .ref (a 10)), (2, .int v2)] → W p l e ({ frames := 0, cells := 0, slots := 0, locals := 0 }) s m args below meth c H locs 0 0 (rf_QI below args s E A0 z (cX E a P I J A B)) (F0 m 25 ls [.int s1, .int s0]) := by
  have hx := hC.1
  have hb := hC.2.1
  intro v2 s0 s1 hf H locs ls hP hS hl
  unfold f_X9_hoursTold_25 at hf
  refine lv_iadd hx hb dX9_hoursTold_25 ?_
  refine lv_istore_n (lv' := [(1, .int (s0 + s1)), (0, .ref (a 10)), (2, .int v2)]) hx hb dX9_hoursTold_26 rfl hl (by decide) rfl (fun ls hl => ?_)
  refine lv_iinc (v := v2 + 1) (lv' := [(2, .int (v2 + 1)), (1, .int (s0 + s1)), (0, .ref (a 10))]) hx hb dX9_hoursTold_27 hl (k := 2) rfl rfl (by decide) rfl (fun ls hl => ?_)
  refine lv_goto (tgt := 4) hx hb dX9_hoursTold_30 (by decide) ?_
  exact hk4 (s0 + s1) (v2 + 1) hf _ _ _ hP hS (lv_sub hl [2, 1, 0] rfl)
set_option maxHeartbeats 4000000 in
set_option maxRecDepth 100000 in
theorem w_X9_hoursTold_tc_4 {l : Launch} {p : Program} {e : Env} {s : State} {m : MethodId} {args : Array Value} {below : List Frame} {meth : Method} {c : Code} {A0 : Nat → Prop} {E : rf_E} {a P : Nat → Nat} {I : Nat → Int32} {J : Nat → Int64} {A : Nat → Nat → Int32} {B : Nat → Nat → Int64} {t_hourEars : Nat → Int32} {z : Int32} (hC : rf_C p E s m args meth c cX9_hoursTold 3 RX9 (some .int) A0) (hD : va_D A0 (cX E a P I J A B)) (e_t_hourEars : A 18 = t_hourEars) :
    ∀ (n : Nat), ∀ (v1 : Int32) (v2 : Int32), f_X9_hoursTold_4 t_hourEars n v1 v2 = some z → ∀ (H : Heap) (locs : List Loc) (ls : Array Slot), va_P (rf_D E) vwCl (cX E a P I J A B) H → va_S A0 s.heap H locs → lv_has ls 3 [(0, .ref (a 10)), (1, .int v1), (2, .int v2)] → W p l e ({ frames := 0, cells := 0, slots := 0, locals := 0 }) s m args below meth c H locs 0 0 (rf_QI below args s E A0 z (cX E a P I J A B)) (F0 m 4 ls []) := by
  have hx := hC.1
  have hb := hC.2.1
  intro n
  induction n with
  | zero =>
    intro v1 v2 hf
    have hf : (none : Option (Int32)) = some z := hf
    cases hf
  | succ n ih =>
    intro v1 v2 hf H locs ls hP hS hl
    rw [f_X9_hoursTold_4] at hf
    refine lv_iload_n hx hb dX9_hoursTold_4 rfl (lv_at hl 2 rfl) ?_
    refine lv_bipush (v := 24) hx hb dX9_hoursTold_5 (by decide) ?_
    refine lv_icmp_ge (tgt := 33) hx hb dX9_hoursTold_7 (by decide) (fun c_7 => ?_) (fun c_7 => ?_)
    · have hf := rf_it c_7 hf
      refine lv_iload_n hx hb dX9_hoursTold_33 rfl (lv_at hl 1 rfl) ?_
      obtain rfl := Option.some.inj hf
      exact rf_reti hC hP hS rfl rfl dX9_hoursTold_34
    have hf := rf_ie c_7 hf
    refine lv_iload_n hx hb dX9_hoursTold_10 rfl (lv_at hl 1 rfl) ?_
    refine lv_aload_n hx hb dX9_hoursTold_11 rfl (lv_at hl 0 rfl) ?_
    refine gX_tc_hourEars hC hP tw_104 dX9_hoursTold_12 ?_
    refine lv_iload_n hx hb dX9_hoursTold_15 rfl (lv_at hl 2 rfl) ?_
    obtain ⟨hi_16, hf⟩ := rf_gu hf
    refine lX_tc_hourEars hC hP hi_16 (f := t_hourEars) e_t_hourEars dX9_hoursTold_16 ?_
    refine lv_if_le (tgt := 24) hx hb dX9_hoursTold_17 (by decide) (fun c_17 => ?_) (fun c_17 => ?_)
    · have hf := rf_it c_17 hf
      refine lv_iconst (v := 0) hx hb dX9_hoursTold_24 (by decide) ?_
      exact w_X9_hoursTold_tc_25 hC hD e_t_hourEars ih v2 v1 0 hf _ _ _ hP hS (lv_sub hl [0, 2] rfl)
    have hf := rf_ie c_17 hf
    refine lv_iconst (v := 1) hx hb dX9_hoursTold_20 (by decide) ?_
    refine lv_goto (tgt := 25) hx hb dX9_hoursTold_21 (by decide) ?_
    exact w_X9_hoursTold_tc_25 hC hD e_t_hourEars ih v2 v1 1 hf _ _ _ hP hS (lv_sub hl [0, 2] rfl)
set_option maxHeartbeats 4000000 in
set_option maxRecDepth 100000 in
theorem c_X9_hoursTold_tc (l : Launch) (E : rf_E) (a P : Nat → Nat) (I : Nat → Int32) (J : Nat → Int64) (A : Nat → Nat → Int32) (B : Nat → Nat → Int64) (t_hourEars : Nat → Int32) {z : Int32} (e_t_hourEars : A 18 = t_hourEars) (hf : f_X9_hoursTold t_hourEars = some z) : rf_MI l yX9_hoursTold cX9_hoursTold 3 (some .int) ({ frames := 0, cells := 0, slots := 0, locals := 0 }) E [.ref (a 10)] (cX E a P I J A B) z (cX E a P I J A B) := by
  unfold f_X9_hoursTold at hf
  refine rf_ofI (by decide) (Nat.le_of_ble_eq_true rfl) ?_
  intro p e s m below meth c A0 ls hC hD hP hS hl
  have hC : rf_C p E s m _ meth c cX9_hoursTold 3 RX9 (some .int) A0 := hC
  have hx := hC.1
  have hb := hC.2.1
  have hl : lv_has ls 3 [(0, .ref (a 10))] := hl
  refine lv_iconst (v := 0) hx hb dX9_hoursTold_0 (by decide) ?_
  refine lv_istore_n (lv' := [(1, .int 0), (0, .ref (a 10))]) hx hb dX9_hoursTold_1 rfl hl (by decide) rfl (fun ls hl => ?_)
  refine lv_iconst (v := 0) hx hb dX9_hoursTold_2 (by decide) ?_
  refine lv_istore_n (lv' := [(2, .int 0), (1, .int 0), (0, .ref (a 10))]) hx hb dX9_hoursTold_3 rfl hl (by decide) rfl (fun ls hl => ?_)
  exact w_X9_hoursTold_tc_4 hC hD e_t_hourEars rf_fu 0 0 hf _ _ _ hP hS (lv_sub hl [2, 1, 0] rfl)
set_option maxHeartbeats 4000000 in
set_option maxRecDepth 100000 in
theorem c_X10_size (l : Launch) (E : rf_E) (a P : Nat → Nat) (I : Nat → Int32) (J : Nat → Int64) (A : Nat → Nat → Int32) (B : Nat → Nat → Int64) (x_tapeLength : Int32) (now_hour : Int32) (now_paid : Int32) (acts_count : Int32) (images_count : Int32) (tc_ear : Int32) (tc_pairs : Int32) (tc_wordCount : Int32) (tc_personCount : Int32) (tc_alikeCount : Int32) (tc_gotCount : Int32) (tc_errands : Nat → Int32) (tc_hourEars : Nat → Int32) (v1 : Int32) {z : Int32} (hp0 : P 0 = a 10) (e_x_tapeLength : I 0 = x_tapeLength) (e_now_hour : I 4 = now_hour) (e_now_paid : I 5 = now_paid) (e_acts_count : I 17 = acts_count) (e_images_count : I 20 = images_count) (e_tc_ear : I 21 = tc_ear) (e_tc_pairs : I 22 = tc_pairs) (e_tc_wordCount : I 23 = tc_wordCount) (e_tc_personCount : I 24 = tc_personCount) (e_tc_alikeCount : I 26 = tc_alikeCount) (e_tc_gotCount : I 27 = tc_gotCount) (e_tc_errands : A 16 = tc_errands) (e_tc_hourEars : A 18 = tc_hourEars) (hf : f_X10_size x_tapeLength now_hour now_paid acts_count images_count tc_ear tc_pairs tc_wordCount tc_personCount tc_alikeCount tc_gotCount tc_errands tc_hourEars v1 = some z) : rf_MI l yX10_size cX10_size 2 (some .int) ({ frames := 1, cells := 0, slots := 0, locals := 22 }) E [.ref (a 0), .int v1] (cX E a P I J A B) z (cX E a P I J A B) := by
  unfold f_X10_size at hf
  refine rf_ofI (by decide) (Nat.le_of_ble_eq_true rfl) ?_
  intro p e s m below meth c A0 ls hC hD hP hS hl
  have hC : rf_C p E s m _ meth c cX10_size 2 RX10 (some .int) A0 := hC
  have hx := hC.1
  have hb := hC.2.1
  have hl : lv_has ls 2 [(0, .ref (a 0)), (1, .int v1)] := hl
  refine lv_iload_n hx hb dX10_size_0 rfl (lv_at hl 1 rfl) ?_
  by_cases c_1_0 : v1 = 0
  · have hf := rf_it c_1_0 hf
    refine lv_tableIn (off := 67) (tgt := 68) hx hb dX10_size_1 (by rw [c_1_0]; decide) (by rw [c_1_0]; decide) (by rw [c_1_0]; decide) (by decide) ?_
    refine lv_aload_n hx hb dX10_size_68 rfl (lv_at hl 0 rfl) ?_
    refine gX_x_tale hC hP tw_401 (v := a 10) hp0 dX10_size_69 ?_
    refine gX_tc_ear hC hP tw_115 (v := tc_ear) e_tc_ear dX10_size_72 ?_
    obtain rfl := Option.some.inj hf
    exact rf_reti hC hP hS rfl rfl dX10_size_75
  have hf := rf_ie c_1_0 hf
  by_cases c_1_1 : v1 = 1
  · have hf := rf_it c_1_1 hf
    refine lv_tableIn (off := 75) (tgt := 76) hx hb dX10_size_1 (by rw [c_1_1]; decide) (by rw [c_1_1]; decide) (by rw [c_1_1]; decide) (by decide) ?_
    refine lv_aload_n hx hb dX10_size_76 rfl (lv_at hl 0 rfl) ?_
    refine gX_x_tale hC hP tw_401 (v := a 10) hp0 dX10_size_77 ?_
    refine gX_tc_pairs hC hP tw_120 (v := tc_pairs) e_tc_pairs dX10_size_80 ?_
    obtain rfl := Option.some.inj hf
    exact rf_reti hC hP hS rfl rfl dX10_size_83
  have hf := rf_ie c_1_1 hf
  by_cases c_1_2 : v1 = 2
  · have hf := rf_it c_1_2 hf
    refine lv_tableIn (off := 83) (tgt := 84) hx hb dX10_size_1 (by rw [c_1_2]; decide) (by rw [c_1_2]; decide) (by rw [c_1_2]; decide) (by decide) ?_
    refine lv_aload_n hx hb dX10_size_84 rfl (lv_at hl 0 rfl) ?_
    refine gX_x_tale hC hP tw_401 (v := a 10) hp0 dX10_size_85 ?_
    refine gX_tc_wordCount hC hP tw_125 (v := tc_wordCount) e_tc_wordCount dX10_size_88 ?_
    obtain rfl := Option.some.inj hf
    exact rf_reti hC hP hS rfl rfl dX10_size_91
  have hf := rf_ie c_1_2 hf
  by_cases c_1_3 : v1 = 3
  · have hf := rf_it c_1_3 hf
    refine lv_tableIn (off := 91) (tgt := 92) hx hb dX10_size_1 (by rw [c_1_3]; decide) (by rw [c_1_3]; decide) (by rw [c_1_3]; decide) (by decide) ?_
    refine lv_aload_n hx hb dX10_size_92 rfl (lv_at hl 0 rfl) ?_
    refine gX_x_tale hC hP tw_401 (v := a 10) hp0 dX10_size_93 ?_
    refine gX_tc_personCount hC hP tw_132 (v := tc_personCount) e_tc_personCount dX10_size_96 ?_
    obtain rfl := Option.some.inj hf
    exact rf_reti hC hP hS rfl rfl dX10_size_99
  have hf := rf_ie c_1_3 hf
  by_cases c_1_4 : v1 = 4
  · have hf := rf_it c_1_4 hf
    refine lv_tableIn (off := 99) (tgt := 100) hx hb dX10_size_1 (by rw [c_1_4]; decide) (by rw [c_1_4]; decide) (by rw [c_1_4]; decide) (by decide) ?_
    refine lv_aload_n hx hb dX10_size_100 rfl (lv_at hl 0 rfl) ?_
    refine gX_x_tale hC hP tw_401 (v := a 10) hp0 dX10_size_101 ?_
    refine gX_tc_alikeCount hC hP tw_138 (v := tc_alikeCount) e_tc_alikeCount dX10_size_104 ?_
    obtain rfl := Option.some.inj hf
    exact rf_reti hC hP hS rfl rfl dX10_size_107
  have hf := rf_ie c_1_4 hf
  by_cases c_1_5 : v1 = 5
  · have hf := rf_it c_1_5 hf
    refine lv_tableIn (off := 107) (tgt := 108) hx hb dX10_size_1 (by rw [c_1_5]; decide) (by rw [c_1_5]; decide) (by rw [c_1_5]; decide) (by decide) ?_
    refine lv_aload_n hx hb dX10_size_108 rfl (lv_at hl 0 rfl) ?_
    refine gX_x_tale hC hP tw_401 (v := a 10) hp0 dX10_size_109 ?_
    obtain ⟨z112, hz112, hf⟩ := rf_bd hf
    refine rf_vi (q0 := 10) (ci := 9) hC (c_X9_hoursTold_tc l E a P I J A B tc_hourEars e_tc_hourEars hz112) kV_X9_hoursTold tw_1195 ⟨Nat.le_of_ble_eq_true rfl, Nat.le_of_ble_eq_true rfl⟩ rfl rfl rfl rfl rfl hP (rf_DX hD) hS rfl hl.1 (rest := []) rfl (Nat.le_of_ble_eq_true rfl) dX10_size_112 (fun H locs hP hS => ?_)
    obtain rfl := Option.some.inj hf
    exact rf_reti hC hP hS rfl rfl dX10_size_115
  have hf := rf_ie c_1_5 hf
  by_cases c_1_6 : v1 = 6
  · have hf := rf_it c_1_6 hf
    refine lv_tableIn (off := 115) (tgt := 116) hx hb dX10_size_1 (by rw [c_1_6]; decide) (by rw [c_1_6]; decide) (by rw [c_1_6]; decide) (by decide) ?_
    refine lv_aload_n hx hb dX10_size_116 rfl (lv_at hl 0 rfl) ?_
    refine gX_x_tale hC hP tw_401 (v := a 10) hp0 dX10_size_117 ?_
    obtain ⟨z120, hz120, hf⟩ := rf_bd hf
    refine rf_vi (q0 := 10) (ci := 9) hC (c_X9_errandsTold_tc l E a P I J A B tc_personCount tc_errands e_tc_personCount e_tc_errands hz120) kV_X9_errandsTold tw_1196 ⟨Nat.le_of_ble_eq_true rfl, Nat.le_of_ble_eq_true rfl⟩ rfl rfl rfl rfl rfl hP (rf_DX hD) hS rfl hl.1 (rest := []) rfl (Nat.le_of_ble_eq_true rfl) dX10_size_120 (fun H locs hP hS => ?_)
    obtain rfl := Option.some.inj hf
    exact rf_reti hC hP hS rfl rfl dX10_size_123
  have hf := rf_ie c_1_6 hf
  by_cases c_1_7 : v1 = 7
  · have hf := rf_it c_1_7 hf
    refine lv_tableIn (off := 123) (tgt := 124) hx hb dX10_size_1 (by rw [c_1_7]; decide) (by rw [c_1_7]; decide) (by rw [c_1_7]; decide) (by decide) ?_
    refine lv_aload_n hx hb dX10_size_124 rfl (lv_at hl 0 rfl) ?_
    refine gX_x_tale hC hP tw_401 (v := a 10) hp0 dX10_size_125 ?_
    refine gX_tc_gotCount hC hP tw_142 (v := tc_gotCount) e_tc_gotCount dX10_size_128 ?_
    obtain rfl := Option.some.inj hf
    exact rf_reti hC hP hS rfl rfl dX10_size_131
  have hf := rf_ie c_1_7 hf
  by_cases c_1_8 : v1 = 8
  · have hf := rf_it c_1_8 hf
    refine lv_tableIn (off := 131) (tgt := 132) hx hb dX10_size_1 (by rw [c_1_8]; decide) (by rw [c_1_8]; decide) (by rw [c_1_8]; decide) (by decide) ?_
    refine lv_aload_n hx hb dX10_size_132 rfl (lv_at hl 0 rfl) ?_
    refine gX_x_now hC hP tw_392 dX10_size_133 ?_
    refine gX_now_hour hC hP tw_42 (v := now_hour) e_now_hour dX10_size_136 ?_
    obtain rfl := Option.some.inj hf
    exact rf_reti hC hP hS rfl rfl dX10_size_139
  have hf := rf_ie c_1_8 hf
  by_cases c_1_9 : v1 = 9
  · have hf := rf_it c_1_9 hf
    refine lv_tableIn (off := 139) (tgt := 140) hx hb dX10_size_1 (by rw [c_1_9]; decide) (by rw [c_1_9]; decide) (by rw [c_1_9]; decide) (by decide) ?_
    refine lv_aload_n hx hb dX10_size_140 rfl (lv_at hl 0 rfl) ?_
    refine gX_x_now hC hP tw_392 dX10_size_141 ?_
    refine gX_now_paid hC hP tw_45 (v := now_paid) e_now_paid dX10_size_144 ?_
    obtain rfl := Option.some.inj hf
    exact rf_reti hC hP hS rfl rfl dX10_size_147
  have hf := rf_ie c_1_9 hf
  by_cases c_1_10 : v1 = 10
  · have hf := rf_it c_1_10 hf
    refine lv_tableIn (off := 147) (tgt := 148) hx hb dX10_size_1 (by rw [c_1_10]; decide) (by rw [c_1_10]; decide) (by rw [c_1_10]; decide) (by decide) ?_
    refine lv_aload_n hx hb dX10_size_148 rfl (lv_at hl 0 rfl) ?_
    refine gX_x_acts hC hP tw_399 dX10_size_149 ?_
    refine gX_acts_count hC hP tw_319 (v := acts_count) e_acts_count dX10_size_152 ?_
    obtain rfl := Option.some.inj hf
    exact rf_reti hC hP hS rfl rfl dX10_size_155
  have hf := rf_ie c_1_10 hf
  by_cases c_1_11 : v1 = 11
  · have hf := rf_it c_1_11 hf
    refine lv_tableIn (off := 155) (tgt := 156) hx hb dX10_size_1 (by rw [c_1_11]; decide) (by rw [c_1_11]; decide) (by rw [c_1_11]; decide) (by decide) ?_
    refine lv_aload_n hx hb dX10_size_156 rfl (lv_at hl 0 rfl) ?_
    refine gX_x_images hC hP tw_400 dX10_size_157 ?_
    refine gX_images_count hC hP tw_319 (v := images_count) e_images_count dX10_size_160 ?_
    obtain rfl := Option.some.inj hf
    exact rf_reti hC hP hS rfl rfl dX10_size_163
  have hf := rf_ie c_1_11 hf
  by_cases c_1_12 : v1 = 12
  · have hf := rf_it c_1_12 hf
    refine lv_tableIn (off := 163) (tgt := 164) hx hb dX10_size_1 (by rw [c_1_12]; decide) (by rw [c_1_12]; decide) (by rw [c_1_12]; decide) (by decide) ?_
    refine lv_aload_n hx hb dX10_size_164 rfl (lv_at hl 0 rfl) ?_
    refine gX_x_tapeLength hC hP tw_404 (v := x_tapeLength) e_x_tapeLength dX10_size_165 ?_
    obtain rfl := Option.some.inj hf
    exact rf_reti hC hP hS rfl rfl dX10_size_168
  have hf := rf_ie c_1_12 hf
  refine lv_tableOut (tgt := 169) hx hb dX10_size_1 (rf_tout_0_13 c_1_0 c_1_1 c_1_2 c_1_3 c_1_4 c_1_5 c_1_6 c_1_7 c_1_8 c_1_9 c_1_10 c_1_11 c_1_12) (by decide) ?_
  refine lv_iconst (v := (-1)) hx hb dX10_size_169 (by decide) ?_
  obtain rfl := Option.some.inj hf
  exact rf_reti hC hP hS rfl rfl dX10_size_170
set_option maxHeartbeats 4000000 in
set_option maxRecDepth 100000 in
theorem c_X10_trouble (l : Launch) (E : rf_E) (a P : Nat → Nat) (I : Nat → Int32) (J : Nat → Int64) (A : Nat → Nat → Int32) (B : Nat → Nat → Int64) (x_lastTrouble : Int32) {z : Int32} (e_x_lastTrouble : I 3 = x_lastTrouble) (hf : f_X10_trouble x_lastTrouble = some z) : rf_MI l yX10_trouble cX10_trouble 1 (some .int) ({ frames := 0, cells := 0, slots := 0, locals := 0 }) E [.ref (a 0)] (cX E a P I J A B) z (cX E a P I J A B) := by
  unfold f_X10_trouble at hf
  refine rf_ofI (by decide) (Nat.le_of_ble_eq_true rfl) ?_
  intro p e s m below meth c A0 ls hC hD hP hS hl
  have hC : rf_C p E s m _ meth c cX10_trouble 1 RX10 (some .int) A0 := hC
  have hx := hC.1
  have hb := hC.2.1
  have hl : lv_has ls 1 [(0, .ref (a 0))] := hl
  refine lv_aload_n hx hb dX10_trouble_0 rfl (lv_at hl 0 rfl) ?_
  refine gX_x_lastTrouble hC hP tw_407 (v := x_lastTrouble) e_x_lastTrouble dX10_trouble_1 ?_
  obtain rfl := Option.some.inj hf
  exact rf_reti hC hP hS rfl rfl dX10_trouble_4
set_option maxHeartbeats 4000000 in
set_option maxRecDepth 100000 in
theorem c_X11_thrown (l : Launch) (E : rf_E) (a : Nat → Nat) (I : Nat → Int32) (A : Nat → Nat → Int32) (m_thrown : Int32) {z : Int32} (e_m_thrown : I 0 = m_thrown) (hf : f_X11_thrown m_thrown = some z) : rf_MI l yX11_thrown cX11_thrown 1 (some .int) ({ frames := 0, cells := 0, slots := 0, locals := 0 }) E [.ref (a 0)] (cM E a I A) z (cM E a I A) := by
  unfold f_X11_thrown at hf
  refine rf_ofI (by decide) (Nat.le_of_ble_eq_true rfl) ?_
  intro p e s m below meth c A0 ls hC hD hP hS hl
  have hC : rf_C p E s m _ meth c cX11_thrown 1 RX11 (some .int) A0 := hC
  have hx := hC.1
  have hb := hC.2.1
  have hl : lv_has ls 1 [(0, .ref (a 0))] := hl
  refine lv_aload_n hx hb dX11_thrown_0 rfl (lv_at hl 0 rfl) ?_
  refine gM_m_thrown hC hP tw_1279 (v := m_thrown) e_m_thrown dX11_thrown_1 ?_
  obtain rfl := Option.some.inj hf
  exact rf_reti hC hP hS rfl rfl dX11_thrown_4
set_option maxHeartbeats 4000000 in
set_option maxRecDepth 100000 in
theorem w_X11_feed_76 {l : Launch} {p : Program} {e : Env} {s : State} {m : MethodId} {args : Array Value} {below : List Frame} {meth : Method} {c : Code} {A0 : Nat → Prop} {E : rf_E} {a : Nat → Nat} {I : Nat → Int32} {A : Nat → Nat → Int32} {z : Int32 × Int32 × Int32 × (Nat → Int32)} (hC : rf_C p E s m args meth c cX11_feed 8 RX11 (some .int) A0) (hD : va_D A0 (cM E a I A)) {k23 : Int32 → Int32 → Int32 → Int32 → Int32 → Int32 → Int32 → Int32 → (Nat → Int32) → Option (Int32 × Int32 × Int32 × (Nat → Int32))} (hk23 : ∀ (v1 : Int32) (v2 : Int32) (v3 : Int32) (v4 : Int32) (v5 : Int32) (v6 : Int32) (m_thrown : Int32) (m_taped : Int32) (m_tape : Nat → Int32), k23 v1 v2 v3 v4 v5 v6 m_thrown m_taped m_tape = some z → ∀ (H : Heap) (locs : List Loc) (ls : Array Slot), va_P (rf_D E) vwCl (cM E a (rf_upL I [(0, m_thrown), (1, m_taped)]) (rf_upL A [(0, m_tape)])) H → va_S A0 s.heap H locs → lv_has ls 8 [(0, .ref (a 0)), (1, .int v1), (2, .int v2), (3, .int v3), (4, .int v4), (5, .int v5), (6, .int v6)] → W p l e ({ frames := 0, cells := 0, slots := 0, locals := 0 }) s m args below meth c H locs 0 0 (rf_QI below args s E A0 z.1 (cM E a (rf_upL I [(0, z.2.1), (1, z.2.2.1)]) (rf_upL A [(0, z.2.2.2)]))) (F0 m 23 ls [])) :
    ∀ (v1 : Int32) (v2 : Int32) (v3 : Int32) (v4 : Int32) (v5 : Int32) (v6 : Int32) (s0 : Int32) (m_thrown : Int32) (m_taped : Int32) (m_tape : Nat → Int32), f_X11_feed_76 k23 v1 v2 v3 v4 v5 v6 s0 m_thrown m_taped m_tape = some z → ∀ (H : Heap) (locs : List Loc) (ls : Array Slot), va_P (rf_D E) vwCl (cM E a (rf_upL I [(0, m_thrown), (1, m_taped)]) (rf_upL A [(0, m_tape)])) H → va_S A0 s.heap H locs → lv_has ls 8 [(0, .ref (a 0)), (1, .int v1), (2, .int v2), (3, .int v3), (4, .int v4), (5, .int v5), (6, .int v6)] → W p l e ({ frames := 0, cells := 0, slots := 0, locals := 0 }) s m args below meth c H locs 0 0 (rf_QI below args s E A0 z.1 (cM E a (rf_upL I [(0, z.2.1), (1, z.2.2.1)]) (rf_upL A [(0, z.2.2.2)]))) (F0 m 76 ls [.int s0]) := by
  have hx := hC.1
  have hb := hC.2.1
  intro v1 v2 v3 v4 v5 v6 s0 m_thrown m_taped m_tape hf H locs ls hP hS hl
  unfold f_X11_feed_76 at hf
  refine lv_istore (lv' := [(7, .int s0), (0, .ref (a 0)), (1, .int v1), (2, .int v2), (3, .int v3), (4, .int v4), (5, .int v5), (6, .int v6)]) hx hb dX11_feed_76 hl (by decide) rfl (fun ls hl => ?_)
  refine lv_aload_n hx hb dX11_feed_78 rfl (lv_at hl 1 rfl) ?_
  refine gM_m_tape hC hP tw_1280 dX11_feed_79 ?_
  refine lv_aload_n hx hb dX11_feed_82 rfl (lv_at hl 1 rfl) ?_
  refine gM_m_taped hC hP tw_1281 (v := m_taped) rfl dX11_feed_83 ?_
  refine lv_iload hx hb dX11_feed_86 (lv_at hl 0 rfl) ?_
  refine lv_bipush (v := 24) hx hb dX11_feed_88 (by decide) ?_
  refine lv_bipush (v := 8) hx hb dX11_feed_90 (by decide) ?_
  refine lv_iload hx hb dX11_feed_92 (lv_at hl 7 rfl) ?_
  refine lv_iconst (v := 4) hx hb dX11_feed_94 (by decide) ?_
  refine lv_irem hx hb dX11_feed_95 (by decide) ?_
  refine lv_imul hx hb dX11_feed_96 ?_
  refine lv_isub hx hb dX11_feed_97 ?_
  refine lv_ishr hx hb dX11_feed_98 ?_
  refine lv_sipush (v := 255) hx hb dX11_feed_99 (by decide) ?_
  refine lv_iand hx hb dX11_feed_102 ?_
  obtain ⟨hi_103, hf⟩ := rf_gu hf
  refine sM_m_tape hC hD hP hS hi_103 (f := m_tape) rfl dX11_feed_103 (rf_upL A [(0, upd m_tape (Int32.toNatClampNeg m_taped) ((s0 >>> (((24 : Int32) - ((8 : Int32) * (v6 - v6 / 4 * 4))) &&& 31)) &&& 255))]) (rf_put rfl) (fun H locs hP hS => ?_)
  refine lv_aload_n hx hb dX11_feed_104 rfl (lv_at hl 1 rfl) ?_
  refine lv_dup hx hb dX11_feed_105 rfl ?_
  refine gM_m_taped hC hP tw_1281 (v := m_taped) rfl dX11_feed_106 ?_
  refine lv_iconst (v := 1) hx hb dX11_feed_109 (by decide) ?_
  refine lv_iadd hx hb dX11_feed_110 ?_
  refine pM_m_taped hC hD hP hS tw_1281 dX11_feed_111 (rf_upL I [(0, m_thrown), (1, m_taped + 1)]) (rf_put rfl) (fun H locs hP hS => ?_)
  refine lv_iinc (v := v6 + 1) (lv' := [(6, .int (v6 + 1)), (7, .int s0), (0, .ref (a 0)), (1, .int v1), (2, .int v2), (3, .int v3), (4, .int v4), (5, .int v5)]) hx hb dX11_feed_114 hl (k := 7) rfl rfl (by decide) rfl (fun ls hl => ?_)
  refine lv_goto (tgt := 23) hx hb dX11_feed_117 (by decide) ?_
  exact hk23 v1 v2 v3 v4 v5 (v6 + 1) m_thrown (m_taped + 1) (upd m_tape (Int32.toNatClampNeg m_taped) ((s0 >>> (((24 : Int32) - ((8 : Int32) * (v6 - v6 / 4 * 4))) &&& 31)) &&& 255)) hf _ _ _ hP hS (lv_sub hl [2, 3, 4, 5, 6, 7, 0] rfl)
set_option maxHeartbeats 4000000 in
set_option maxRecDepth 100000 in
theorem w_X11_feed_23 {l : Launch} {p : Program} {e : Env} {s : State} {m : MethodId} {args : Array Value} {below : List Frame} {meth : Method} {c : Code} {A0 : Nat → Prop} {E : rf_E} {a : Nat → Nat} {I : Nat → Int32} {A : Nat → Nat → Int32} {z : Int32 × Int32 × Int32 × (Nat → Int32)} (hC : rf_C p E s m args meth c cX11_feed 8 RX11 (some .int) A0) (hD : va_D A0 (cM E a I A)) :
    ∀ (n : Nat), ∀ (v1 : Int32) (v2 : Int32) (v3 : Int32) (v4 : Int32) (v5 : Int32) (v6 : Int32) (m_thrown : Int32) (m_taped : Int32) (m_tape : Nat → Int32), f_X11_feed_23 n v1 v2 v3 v4 v5 v6 m_thrown m_taped m_tape = some z → ∀ (H : Heap) (locs : List Loc) (ls : Array Slot), va_P (rf_D E) vwCl (cM E a (rf_upL I [(0, m_thrown), (1, m_taped)]) (rf_upL A [(0, m_tape)])) H → va_S A0 s.heap H locs → lv_has ls 8 [(0, .ref (a 0)), (1, .int v1), (2, .int v2), (3, .int v3), (4, .int v4), (5, .int v5), (6, .int v6)] → W p l e ({ frames := 0, cells := 0, slots := 0, locals := 0 }) s m args below meth c H locs 0 0 (rf_QI below args s E A0 z.1 (cM E a (rf_upL I [(0, z.2.1), (1, z.2.2.1)]) (rf_upL A [(0, z.2.2.2)]))) (F0 m 23 ls []) := by
  have hx := hC.1
  have hb := hC.2.1
  intro n
  induction n with
  | zero =>
    intro v1 v2 v3 v4 v5 v6 m_thrown m_taped m_tape hf
    have hf : (none : Option (Int32 × Int32 × Int32 × (Nat → Int32))) = some z := hf
    cases hf
  | succ n ih =>
    intro v1 v2 v3 v4 v5 v6 m_thrown m_taped m_tape hf H locs ls hP hS hl
    rw [f_X11_feed_23] at hf
    refine lv_iload hx hb dX11_feed_23 (lv_at hl 6 rfl) ?_
    refine lv_bipush (v := 20) hx hb dX11_feed_25 (by decide) ?_
    refine lv_icmp_ge (tgt := 120) hx hb dX11_feed_27 (by decide) (fun c_27 => ?_) (fun c_27 => ?_)
    · have hf := rf_it c_27 hf
      refine lv_aload_n hx hb dX11_feed_120 rfl (lv_at hl 0 rfl) ?_
      refine gM_m_taped hC hP tw_1281 (v := m_taped) rfl dX11_feed_121 ?_
      obtain rfl := Option.some.inj hf
      exact rf_reti hC hP hS rfl rfl dX11_feed_124
    have hf := rf_ie c_27 hf
    refine lv_iload hx hb dX11_feed_30 (lv_at hl 6 rfl) ?_
    refine lv_iconst (v := 4) hx hb dX11_feed_32 (by decide) ?_
    refine lv_icmp_ge (tgt := 40) hx hb dX11_feed_33 (by decide) (fun c_33 => ?_) (fun c_33 => ?_)
    · have hf := rf_it c_33 hf
      refine lv_iload hx hb dX11_feed_40 (lv_at hl 6 rfl) ?_
      refine lv_bipush (v := 8) hx hb dX11_feed_42 (by decide) ?_
      refine lv_icmp_ge (tgt := 51) hx hb dX11_feed_44 (by decide) (fun c_44 => ?_) (fun c_44 => ?_)
      · have hf := rf_it c_44 hf
        refine lv_iload hx hb dX11_feed_51 (lv_at hl 6 rfl) ?_
        refine lv_bipush (v := 12) hx hb dX11_feed_53 (by decide) ?_
        refine lv_icmp_ge (tgt := 62) hx hb dX11_feed_55 (by decide) (fun c_55 => ?_) (fun c_55 => ?_)
        · have hf := rf_it c_55 hf
          refine lv_iload hx hb dX11_feed_62 (lv_at hl 6 rfl) ?_
          refine lv_bipush (v := 16) hx hb dX11_feed_64 (by decide) ?_
          refine lv_icmp_ge (tgt := 74) hx hb dX11_feed_66 (by decide) (fun c_66 => ?_) (fun c_66 => ?_)
          · have hf := rf_it c_66 hf
            refine lv_iload hx hb dX11_feed_74 (lv_at hl 5 rfl) ?_
            exact w_X11_feed_76 hC hD ih v1 v2 v3 v4 v5 v6 v5 m_thrown m_taped m_tape hf _ _ _ hP hS (lv_sub hl [0, 1, 2, 3, 4, 5, 6] rfl)
          have hf := rf_ie c_66 hf
          refine lv_iload hx hb dX11_feed_69 (lv_at hl 4 rfl) ?_
          refine lv_goto (tgt := 76) hx hb dX11_feed_71 (by decide) ?_
          exact w_X11_feed_76 hC hD ih v1 v2 v3 v4 v5 v6 v4 m_thrown m_taped m_tape hf _ _ _ hP hS (lv_sub hl [0, 1, 2, 3, 4, 5, 6] rfl)
        have hf := rf_ie c_55 hf
        refine lv_iload_n hx hb dX11_feed_58 rfl (lv_at hl 3 rfl) ?_
        refine lv_goto (tgt := 76) hx hb dX11_feed_59 (by decide) ?_
        exact w_X11_feed_76 hC hD ih v1 v2 v3 v4 v5 v6 v3 m_thrown m_taped m_tape hf _ _ _ hP hS (lv_sub hl [0, 1, 2, 3, 4, 5, 6] rfl)
      have hf := rf_ie c_44 hf
      refine lv_iload_n hx hb dX11_feed_47 rfl (lv_at hl 2 rfl) ?_
      refine lv_goto (tgt := 76) hx hb dX11_feed_48 (by decide) ?_
      exact w_X11_feed_76 hC hD ih v1 v2 v3 v4 v5 v6 v2 m_thrown m_taped m_tape hf _ _ _ hP hS (lv_sub hl [0, 1, 2, 3, 4, 5, 6] rfl)
    have hf := rf_ie c_33 hf
    refine lv_iload_n hx hb dX11_feed_36 rfl (lv_at hl 1 rfl) ?_
    refine lv_goto (tgt := 76) hx hb dX11_feed_37 (by decide) ?_
    exact w_X11_feed_76 hC hD ih v1 v2 v3 v4 v5 v6 v1 m_thrown m_taped m_tape hf _ _ _ hP hS (lv_sub hl [0, 1, 2, 3, 4, 5, 6] rfl)
set_option maxHeartbeats 4000000 in
set_option maxRecDepth 100000 in
theorem c_X11_feed (l : Launch) (E : rf_E) (a : Nat → Nat) (I : Nat → Int32) (A : Nat → Nat → Int32) (m_thrown : Int32) (m_taped : Int32) (m_tape : Nat → Int32) (v1 : Int32) (v2 : Int32) (v3 : Int32) (v4 : Int32) (v5 : Int32) {z : Int32 × Int32 × Int32 × (Nat → Int32)} (e_m_thrown : I 0 = m_thrown) (e_m_taped : I 1 = m_taped) (e_m_tape : A 0 = m_tape) (hf : f_X11_feed m_thrown m_taped m_tape v1 v2 v3 v4 v5 = some z) : rf_MI l yX11_feed cX11_feed 8 (some .int) ({ frames := 0, cells := 0, slots := 0, locals := 0 }) E [.ref (a 0), .int v1, .int v2, .int v3, .int v4, .int v5] (cM E a I A) z.1 (cM E a (rf_upL I [(0, z.2.1), (1, z.2.2.1)]) (rf_upL A [(0, z.2.2.2)])) := by
  unfold f_X11_feed at hf
  refine rf_ofI (by decide) (Nat.le_of_ble_eq_true rfl) ?_
  intro p e s m below meth c A0 ls hC hD hP hS hl
  have hC : rf_C p E s m _ meth c cX11_feed 8 RX11 (some .int) A0 := hC
  have hx := hC.1
  have hb := hC.2.1
  have hl : lv_has ls 8 [(0, .ref (a 0)), (1, .int v1), (2, .int v2), (3, .int v3), (4, .int v4), (5, .int v5)] := hl
  have hP : va_P (rf_D E) vwCl (cM E a (rf_upL I [(0, m_thrown), (1, m_taped)]) (rf_upL A [(0, m_tape)])) s.heap := by
    rw [rf_self (f := I) [(0, m_thrown), (1, m_taped)] (rf_fa1 e_m_thrown (rf_fa1 e_m_taped rf_fa0))]
    rw [rf_self (f := A) [(0, m_tape)] (rf_fa1 e_m_tape rf_fa0)]
    exact hP
  refine lv_aload_n hx hb dX11_feed_0 rfl (lv_at hl 0 rfl) ?_
  refine lv_iconst (v := 0) hx hb dX11_feed_1 (by decide) ?_
  refine pM_m_thrown hC hD hP hS tw_1279 dX11_feed_2 (rf_upL I [(0, 0), (1, m_taped)]) (rf_put rfl) (fun H locs hP hS => ?_)
  refine lv_aload_n hx hb dX11_feed_5 rfl (lv_at hl 0 rfl) ?_
  refine gM_m_taped hC hP tw_1281 (v := m_taped) rfl dX11_feed_6 ?_
  refine lv_bipush (v := 20) hx hb dX11_feed_9 (by decide) ?_
  refine lv_iadd hx hb dX11_feed_11 ?_
  refine lv_sipush (v := 900) hx hb dX11_feed_12 (by decide) ?_
  refine lv_icmp_le (tgt := 20) hx hb dX11_feed_15 (by decide) (fun c_15 => ?_) (fun c_15 => ?_)
  · have hf := rf_it c_15 hf
    refine lv_iconst (v := 0) hx hb dX11_feed_20 (by decide) ?_
    refine lv_istore (lv' := [(6, .int 0), (0, .ref (a 0)), (1, .int v1), (2, .int v2), (3, .int v3), (4, .int v4), (5, .int v5)]) hx hb dX11_feed_21 hl (by decide) rfl (fun ls hl => ?_)
    exact w_X11_feed_23 hC hD rf_fu v1 v2 v3 v4 v5 0 0 m_taped m_tape hf _ _ _ hP hS (lv_sub hl [1, 2, 3, 4, 5, 6, 0] rfl)
  have hf := rf_ie c_15 hf
  refine lv_iconst (v := (-1)) hx hb dX11_feed_18 (by decide) ?_
  obtain rfl := Option.some.inj hf
  exact rf_reti hC hP hS rfl rfl dX11_feed_19
set_option maxHeartbeats 4000000 in
set_option maxRecDepth 100000 in
theorem c_X11_good (l : Launch) (E : rf_E) (a : Nat → Nat) (I : Nat → Int32) (A : Nat → Nat → Int32) (m_thrown : Int32) (m_trouble : Int32) {z : Int32 × Int32} (e_m_thrown : I 0 = m_thrown) (e_m_trouble : I 10 = m_trouble) (hf : f_X11_good m_thrown m_trouble = some z) : rf_MV l yX11_good cX11_good 1 ({ frames := 0, cells := 0, slots := 0, locals := 0 }) E [.ref (a 0)] (cM E a I A) (cM E a (rf_upL I [(0, z.1), (10, z.2)]) A) := by
  unfold f_X11_good at hf
  refine rf_ofV (by decide) (Nat.le_of_ble_eq_true rfl) ?_
  intro p e s m below meth c A0 ls hC hD hP hS hl
  have hC : rf_C p E s m _ meth c cX11_good 1 RX11 (none) A0 := hC
  have hx := hC.1
  have hb := hC.2.1
  have hl : lv_has ls 1 [(0, .ref (a 0))] := hl
  have hP : va_P (rf_D E) vwCl (cM E a (rf_upL I [(0, m_thrown), (10, m_trouble)]) A) s.heap := by
    rw [rf_self (f := I) [(0, m_thrown), (10, m_trouble)] (rf_fa1 e_m_thrown (rf_fa1 e_m_trouble rf_fa0))]
    exact hP
  refine lv_aload_n hx hb dX11_good_0 rfl (lv_at hl 0 rfl) ?_
  refine lv_iconst (v := 0) hx hb dX11_good_1 (by decide) ?_
  refine pM_m_thrown hC hD hP hS tw_1279 dX11_good_2 (rf_upL I [(0, 0), (10, m_trouble)]) (rf_put rfl) (fun H locs hP hS => ?_)
  refine lv_aload_n hx hb dX11_good_5 rfl (lv_at hl 0 rfl) ?_
  refine lv_iconst (v := 0) hx hb dX11_good_6 (by decide) ?_
  refine pM_m_trouble hC hD hP hS tw_1290 dX11_good_7 (rf_upL I [(0, 0), (10, 0)]) (rf_put rfl) (fun H locs hP hS => ?_)
  obtain rfl := Option.some.inj hf
  exact rf_retv hC hP hS rfl dX11_good_10
set_option maxHeartbeats 4000000 in
set_option maxRecDepth 100000 in
theorem w_X11_in_14 {l : Launch} {p : Program} {e : Env} {s : State} {m : MethodId} {args : Array Value} {below : List Frame} {meth : Method} {c : Code} {A0 : Nat → Prop} {E : rf_E} {z : Int32} (hC : rf_C p E s m args meth c cX11_in 3 RX11 (some .boolean) A0) :
    ∀ (_ : Unit), f_X11_in_14 = some z → ∀ (H : Heap) (locs : List Loc) (ls : Array Slot), va_P (rf_D E) vwCl ([]) H → va_S A0 s.heap H locs → lv_has ls 3 [] → W p l e ({ frames := 0, cells := 0, slots := 0, locals := 0 }) s m args below meth c H locs 0 0 (rf_QI below args s E A0 z ([])) (F0 m 14 ls []) := by
  have hx := hC.1
  have hb := hC.2.1
  intro _ hf H locs ls hP hS hl
  unfold f_X11_in_14 at hf
  refine lv_iconst (v := 0) hx hb dX11_in_14 (by decide) ?_
  obtain rfl := Option.some.inj hf
  exact rf_retz hC hP hS (by decide) rfl rfl dX11_in_15
set_option maxHeartbeats 4000000 in
set_option maxRecDepth 100000 in
theorem c_X11_in (l : Launch) (E : rf_E) (v0 : Int32) (v1 : Int32) (v2 : Int32) {z : Int32} (hf : f_X11_in v0 v1 v2 = some z) : rf_MI l yX11_in cX11_in 3 (some .boolean) ({ frames := 0, cells := 0, slots := 0, locals := 0 }) E [.int v0, .int v1, .int v2] ([]) z ([]) := by
  unfold f_X11_in at hf
  refine rf_ofI (by decide) (Nat.le_of_ble_eq_true rfl) ?_
  intro p e s m below meth c A0 ls hC hD hP hS hl
  have hC : rf_C p E s m _ meth c cX11_in 3 RX11 (some .boolean) A0 := hC
  have hx := hC.1
  have hb := hC.2.1
  have hl : lv_has ls 3 [(0, .int v0), (1, .int v1), (2, .int v2)] := hl
  refine lv_iload_n hx hb dX11_in_0 rfl (lv_at hl 0 rfl) ?_
  refine lv_iload_n hx hb dX11_in_1 rfl (lv_at hl 1 rfl) ?_
  refine lv_icmp_lt (tgt := 14) hx hb dX11_in_2 (by decide) (fun c_2 => ?_) (fun c_2 => ?_)
  · have hf := rf_it c_2 hf
    exact w_X11_in_14 hC () hf _ _ _ hP hS (lv_sub hl [] rfl)
  have hf := rf_ie c_2 hf
  refine lv_iload_n hx hb dX11_in_5 rfl (lv_at hl 0 rfl) ?_
  refine lv_iload_n hx hb dX11_in_6 rfl (lv_at hl 2 rfl) ?_
  refine lv_icmp_gt (tgt := 14) hx hb dX11_in_7 (by decide) (fun c_7 => ?_) (fun c_7 => ?_)
  · have hf := rf_it c_7 hf
    exact w_X11_in_14 hC () hf _ _ _ hP hS (lv_sub hl [] rfl)
  have hf := rf_ie c_7 hf
  refine lv_iconst (v := 1) hx hb dX11_in_10 (by decide) ?_
  refine lv_goto (tgt := 15) hx hb dX11_in_11 (by decide) ?_
  obtain rfl := Option.some.inj hf
  exact rf_retz hC hP hS (by decide) rfl rfl dX11_in_15
set_option maxHeartbeats 4000000 in
set_option maxRecDepth 100000 in
theorem w_X11_isDigit_16 {l : Launch} {p : Program} {e : Env} {s : State} {m : MethodId} {args : Array Value} {below : List Frame} {meth : Method} {c : Code} {A0 : Nat → Prop} {E : rf_E} {z : Int32} (hC : rf_C p E s m args meth c cX11_isDigit 1 RX11 (some .boolean) A0) :
    ∀ (_ : Unit), f_X11_isDigit_16 = some z → ∀ (H : Heap) (locs : List Loc) (ls : Array Slot), va_P (rf_D E) vwCl ([]) H → va_S A0 s.heap H locs → lv_has ls 1 [] → W p l e ({ frames := 0, cells := 0, slots := 0, locals := 0 }) s m args below meth c H locs 0 0 (rf_QI below args s E A0 z ([])) (F0 m 16 ls []) := by
  have hx := hC.1
  have hb := hC.2.1
  intro _ hf H locs ls hP hS hl
  unfold f_X11_isDigit_16 at hf
  refine lv_iconst (v := 0) hx hb dX11_isDigit_16 (by decide) ?_
  obtain rfl := Option.some.inj hf
  exact rf_retz hC hP hS (by decide) rfl rfl dX11_isDigit_17
set_option maxHeartbeats 4000000 in
set_option maxRecDepth 100000 in
theorem c_X11_isDigit (l : Launch) (E : rf_E) (v0 : Int32) {z : Int32} (hf : f_X11_isDigit v0 = some z) : rf_MI l yX11_isDigit cX11_isDigit 1 (some .boolean) ({ frames := 0, cells := 0, slots := 0, locals := 0 }) E [.int v0] ([]) z ([]) := by
  unfold f_X11_isDigit at hf
  refine rf_ofI (by decide) (Nat.le_of_ble_eq_true rfl) ?_
  intro p e s m below meth c A0 ls hC hD hP hS hl
  have hC : rf_C p E s m _ meth c cX11_isDigit 1 RX11 (some .boolean) A0 := hC
  have hx := hC.1
  have hb := hC.2.1
  have hl : lv_has ls 1 [(0, .int v0)] := hl
  refine lv_iload_n hx hb dX11_isDigit_0 rfl (lv_at hl 0 rfl) ?_
  refine lv_bipush (v := 48) hx hb dX11_isDigit_1 (by decide) ?_
  refine lv_icmp_lt (tgt := 16) hx hb dX11_isDigit_3 (by decide) (fun c_3 => ?_) (fun c_3 => ?_)
  · have hf := rf_it c_3 hf
    exact w_X11_isDigit_16 hC () hf _ _ _ hP hS (lv_sub hl [] rfl)
  have hf := rf_ie c_3 hf
  refine lv_iload_n hx hb dX11_isDigit_6 rfl (lv_at hl 0 rfl) ?_
  refine lv_bipush (v := 57) hx hb dX11_isDigit_7 (by decide) ?_
  refine lv_icmp_gt (tgt := 16) hx hb dX11_isDigit_9 (by decide) (fun c_9 => ?_) (fun c_9 => ?_)
  · have hf := rf_it c_9 hf
    exact w_X11_isDigit_16 hC () hf _ _ _ hP hS (lv_sub hl [] rfl)
  have hf := rf_ie c_9 hf
  refine lv_iconst (v := 1) hx hb dX11_isDigit_12 (by decide) ?_
  refine lv_goto (tgt := 17) hx hb dX11_isDigit_13 (by decide) ?_
  obtain rfl := Option.some.inj hf
  exact rf_retz hC hP hS (by decide) rfl rfl dX11_isDigit_17
set_option maxHeartbeats 4000000 in
set_option maxRecDepth 100000 in
theorem w_X11_isSmall_16 {l : Launch} {p : Program} {e : Env} {s : State} {m : MethodId} {args : Array Value} {below : List Frame} {meth : Method} {c : Code} {A0 : Nat → Prop} {E : rf_E} {z : Int32} (hC : rf_C p E s m args meth c cX11_isSmall 1 RX11 (some .boolean) A0) :
    ∀ (_ : Unit), f_X11_isSmall_16 = some z → ∀ (H : Heap) (locs : List Loc) (ls : Array Slot), va_P (rf_D E) vwCl ([]) H → va_S A0 s.heap H locs → lv_has ls 1 [] → W p l e ({ frames := 0, cells := 0, slots := 0, locals := 0 }) s m args below meth c H locs 0 0 (rf_QI below args s E A0 z ([])) (F0 m 16 ls []) := by
  have hx := hC.1
  have hb := hC.2.1
  intro _ hf H locs ls hP hS hl
  unfold f_X11_isSmall_16 at hf
  refine lv_iconst (v := 0) hx hb dX11_isSmall_16 (by decide) ?_
  obtain rfl := Option.some.inj hf
  exact rf_retz hC hP hS (by decide) rfl rfl dX11_isSmall_17
set_option maxHeartbeats 4000000 in
set_option maxRecDepth 100000 in
theorem c_X11_isSmall (l : Launch) (E : rf_E) (v0 : Int32) {z : Int32} (hf : f_X11_isSmall v0 = some z) : rf_MI l yX11_isSmall cX11_isSmall 1 (some .boolean) ({ frames := 0, cells := 0, slots := 0, locals := 0 }) E [.int v0] ([]) z ([]) := by
  unfold f_X11_isSmall at hf
  refine rf_ofI (by decide) (Nat.le_of_ble_eq_true rfl) ?_
  intro p e s m below meth c A0 ls hC hD hP hS hl
  have hC : rf_C p E s m _ meth c cX11_isSmall 1 RX11 (some .boolean) A0 := hC
  have hx := hC.1
  have hb := hC.2.1
  have hl : lv_has ls 1 [(0, .int v0)] := hl
  refine lv_iload_n hx hb dX11_isSmall_0 rfl (lv_at hl 0 rfl) ?_
  refine lv_bipush (v := 97) hx hb dX11_isSmall_1 (by decide) ?_
  refine lv_icmp_lt (tgt := 16) hx hb dX11_isSmall_3 (by decide) (fun c_3 => ?_) (fun c_3 => ?_)
  · have hf := rf_it c_3 hf
    exact w_X11_isSmall_16 hC () hf _ _ _ hP hS (lv_sub hl [] rfl)
  have hf := rf_ie c_3 hf
  refine lv_iload_n hx hb dX11_isSmall_6 rfl (lv_at hl 0 rfl) ?_
  refine lv_bipush (v := 122) hx hb dX11_isSmall_7 (by decide) ?_
  refine lv_icmp_gt (tgt := 16) hx hb dX11_isSmall_9 (by decide) (fun c_9 => ?_) (fun c_9 => ?_)
  · have hf := rf_it c_9 hf
    exact w_X11_isSmall_16 hC () hf _ _ _ hP hS (lv_sub hl [] rfl)
  have hf := rf_ie c_9 hf
  refine lv_iconst (v := 1) hx hb dX11_isSmall_12 (by decide) ?_
  refine lv_goto (tgt := 17) hx hb dX11_isSmall_13 (by decide) ?_
  obtain rfl := Option.some.inj hf
  exact rf_retz hC hP hS (by decide) rfl rfl dX11_isSmall_17
set_option maxHeartbeats 4000000 in
set_option maxRecDepth 100000 in
theorem c_X11_look (l : Launch) (E : rf_E) (a : Nat → Nat) (I : Nat → Int32) (A : Nat → Nat → Int32) (m_size : Int32) (m_tape : Nat → Int32) (v1 : Int32) {z : Int32} (e_m_size : I 2 = m_size) (e_m_tape : A 0 = m_tape) (hf : f_X11_look m_size m_tape v1 = some z) : rf_MI l yX11_look cX11_look 2 (some .int) ({ frames := 0, cells := 0, slots := 0, locals := 0 }) E [.ref (a 0), .int v1] (cM E a I A) z (cM E a I A) := by
  unfold f_X11_look at hf
  refine rf_ofI (by decide) (Nat.le_of_ble_eq_true rfl) ?_
  intro p e s m below meth c A0 ls hC hD hP hS hl
  have hC : rf_C p E s m _ meth c cX11_look 2 RX11 (some .int) A0 := hC
  have hx := hC.1
  have hb := hC.2.1
  have hl : lv_has ls 2 [(0, .ref (a 0)), (1, .int v1)] := hl
  refine lv_iload_n hx hb dX11_look_0 rfl (lv_at hl 1 rfl) ?_
  refine lv_aload_n hx hb dX11_look_1 rfl (lv_at hl 0 rfl) ?_
  refine gM_m_size hC hP tw_1282 (v := m_size) e_m_size dX11_look_2 ?_
  refine lv_icmp_ge (tgt := 17) hx hb dX11_look_5 (by decide) (fun c_5 => ?_) (fun c_5 => ?_)
  · have hf := rf_it c_5 hf
    refine lv_iconst (v := (-1)) hx hb dX11_look_17 (by decide) ?_
    obtain rfl := Option.some.inj hf
    exact rf_reti hC hP hS rfl rfl dX11_look_18
  have hf := rf_ie c_5 hf
  refine lv_aload_n hx hb dX11_look_8 rfl (lv_at hl 0 rfl) ?_
  refine gM_m_tape hC hP tw_1280 dX11_look_9 ?_
  refine lv_iload_n hx hb dX11_look_12 rfl (lv_at hl 1 rfl) ?_
  obtain ⟨hi_13, hf⟩ := rf_gu hf
  refine lM_m_tape hC hP hi_13 (f := m_tape) e_m_tape dX11_look_13 ?_
  refine lv_goto (tgt := 18) hx hb dX11_look_14 (by decide) ?_
  obtain rfl := Option.some.inj hf
  exact rf_reti hC hP hS rfl rfl dX11_look_18
set_option maxHeartbeats 4000000 in
set_option maxRecDepth 100000 in
theorem w_X11_next_238 {l : Launch} {p : Program} {e : Env} {s : State} {m : MethodId} {args : Array Value} {below : List Frame} {meth : Method} {c : Code} {A0 : Nat → Prop} {E : rf_E} {a : Nat → Nat} {I : Nat → Int32} {A : Nat → Nat → Int32} {m_size : Int32} {m_tape : Nat → Int32} {z : Int32 × Int32 × Int32 × Int32 × Int32 × (Nat → Int32)} (hC : rf_C p E s m args meth c cX11_next 4 RX11 (none) A0) (hD : va_D A0 (cM E a I A)) (e_m_size : I 2 = m_size) (e_m_tape : A 0 = m_tape) :
    ∀ (s1 : Int32) (m_at : Int32) (m_end : Int32) (m_token : Int32) (m_whole : Int32) (m_nameSize : Int32) (m_letters : Nat → Int32), f_X11_next_238 m_size m_tape s1 m_at m_end m_token m_whole m_nameSize m_letters = some z → ∀ (H : Heap) (locs : List Loc) (ls : Array Slot), va_P (rf_D E) vwCl (cM E a (rf_upL I [(3, m_at), (4, m_end), (5, m_token), (6, m_whole), (7, m_nameSize)]) (rf_upL A [(1, m_letters)])) H → va_S A0 s.heap H locs → lv_has ls 4 [] → W p l e ({ frames := 1, cells := 0, slots := 0, locals := 21 }) s m args below meth c H locs 0 0 (rf_QV below args s E A0 (cM E a (rf_upL I [(3, z.1), (4, z.2.1), (5, z.2.2.1), (6, z.2.2.2.1), (7, z.2.2.2.2.1)]) (rf_upL A [(1, z.2.2.2.2.2)]))) (F0 m 238 ls [.int s1, .ref (a 0)]) := by
  have hx := hC.1
  have hb := hC.2.1
  intro s1 m_at m_end m_token m_whole m_nameSize m_letters hf H locs ls hP hS hl
  unfold f_X11_next_238 at hf
  refine pM_m_token hC hD hP hS tw_1285 dX11_next_238 (rf_upL I [(3, m_at), (4, m_end), (5, s1), (6, m_whole), (7, m_nameSize)]) (rf_put rfl) (fun H locs hP hS => ?_)
  obtain rfl := Option.some.inj hf
  exact rf_retv hC hP hS rfl dX11_next_241
set_option maxHeartbeats 4000000 in
set_option maxRecDepth 100000 in
theorem w_X11_next_213 {l : Launch} {p : Program} {e : Env} {s : State} {m : MethodId} {args : Array Value} {below : List Frame} {meth : Method} {c : Code} {A0 : Nat → Prop} {E : rf_E} {a : Nat → Nat} {I : Nat → Int32} {A : Nat → Nat → Int32} {m_size : Int32} {m_tape : Nat → Int32} {z : Int32 × Int32 × Int32 × Int32 × Int32 × (Nat → Int32)} (hC : rf_C p E s m args meth c cX11_next 4 RX11 (none) A0) (hD : va_D A0 (cM E a I A)) (e_m_size : I 2 = m_size) (e_m_tape : A 0 = m_tape) :
    ∀ (s1 : Int32) (m_at : Int32) (m_end : Int32) (m_token : Int32) (m_whole : Int32) (m_nameSize : Int32) (m_letters : Nat → Int32), f_X11_next_213 m_size m_tape s1 m_at m_end m_token m_whole m_nameSize m_letters = some z → ∀ (H : Heap) (locs : List Loc) (ls : Array Slot), va_P (rf_D E) vwCl (cM E a (rf_upL I [(3, m_at), (4, m_end), (5, m_token), (6, m_whole), (7, m_nameSize)]) (rf_upL A [(1, m_letters)])) H → va_S A0 s.heap H locs → lv_has ls 4 [] → W p l e ({ frames := 1, cells := 0, slots := 0, locals := 21 }) s m args below meth c H locs 0 0 (rf_QV below args s E A0 (cM E a (rf_upL I [(3, z.1), (4, z.2.1), (5, z.2.2.1), (6, z.2.2.2.1), (7, z.2.2.2.2.1)]) (rf_upL A [(1, z.2.2.2.2.2)]))) (F0 m 213 ls [.int s1, .ref (a 0)]) := by
  have hx := hC.1
  have hb := hC.2.1
  intro s1 m_at m_end m_token m_whole m_nameSize m_letters hf H locs ls hP hS hl
  unfold f_X11_next_213 at hf
  refine pM_m_token hC hD hP hS tw_1285 dX11_next_213 (rf_upL I [(3, m_at), (4, m_end), (5, s1), (6, m_whole), (7, m_nameSize)]) (rf_put rfl) (fun H locs hP hS => ?_)
  refine lv_goto (tgt := 241) hx hb dX11_next_216 (by decide) ?_
  obtain rfl := Option.some.inj hf
  exact rf_retv hC hP hS rfl dX11_next_241
set_option maxHeartbeats 4000000 in
set_option maxRecDepth 100000 in
theorem w_X11_next_188 {l : Launch} {p : Program} {e : Env} {s : State} {m : MethodId} {args : Array Value} {below : List Frame} {meth : Method} {c : Code} {A0 : Nat → Prop} {E : rf_E} {a : Nat → Nat} {I : Nat → Int32} {A : Nat → Nat → Int32} {m_size : Int32} {m_tape : Nat → Int32} {z : Int32 × Int32 × Int32 × Int32 × Int32 × (Nat → Int32)} (hC : rf_C p E s m args meth c cX11_next 4 RX11 (none) A0) (hD : va_D A0 (cM E a I A)) (e_m_size : I 2 = m_size) (e_m_tape : A 0 = m_tape) {k152 : Int32 → Int32 → Int32 → Int32 → Int32 → Int32 → Int32 → (Nat → Int32) → Option (Int32 × Int32 × Int32 × Int32 × Int32 × (Nat → Int32))} (hk152 : ∀ (v1 : Int32) (v3 : Int32) (m_at : Int32) (m_end : Int32) (m_token : Int32) (m_whole : Int32) (m_nameSize : Int32) (m_letters : Nat → Int32), k152 v1 v3 m_at m_end m_token m_whole m_nameSize m_letters = some z → ∀ (H : Heap) (locs : List Loc) (ls : Array Slot), va_P (rf_D E) vwCl (cM E a (rf_upL I [(3, m_at), (4, m_end), (5, m_token), (6, m_whole), (7, m_nameSize)]) (rf_upL A [(1, m_letters)])) H → va_S A0 s.heap H locs → lv_has ls 4 [(0, .ref (a 0)), (1, .int v1), (3, .int v3)] → W p l e ({ frames := 1, cells := 0, slots := 0, locals := 21 }) s m args below meth c H locs 0 0 (rf_QV below args s E A0 (cM E a (rf_upL I [(3, z.1), (4, z.2.1), (5, z.2.2.1), (6, z.2.2.2.1), (7, z.2.2.2.2.1)]) (rf_upL A [(1, z.2.2.2.2.2)]))) (F0 m 152 ls [])) :
    ∀ (v1 : Int32) (v3 : Int32) (m_at : Int32) (m_end : Int32) (m_token : Int32) (m_whole : Int32) (m_nameSize : Int32) (m_letters : Nat → Int32), f_X11_next_188 k152 m_size m_tape v1 v3 m_at m_end m_token m_whole m_nameSize m_letters = some z → ∀ (H : Heap) (locs : List Loc) (ls : Array Slot), va_P (rf_D E) vwCl (cM E a (rf_upL I [(3, m_at), (4, m_end), (5, m_token), (6, m_whole), (7, m_nameSize)]) (rf_upL A [(1, m_letters)])) H → va_S A0 s.heap H locs → lv_has ls 4 [(0, .ref (a 0)), (1, .int v1), (3, .int v3)] → W p l e ({ frames := 1, cells := 0, slots := 0, locals := 21 }) s m args below meth c H locs 0 0 (rf_QV below args s E A0 (cM E a (rf_upL I [(3, z.1), (4, z.2.1), (5, z.2.2.1), (6, z.2.2.2.1), (7, z.2.2.2.2.1)]) (rf_upL A [(1, z.2.2.2.2.2)]))) (F0 m 188 ls []) := by
  have hx := hC.1
  have hb := hC.2.1
  intro v1 v3 m_at m_end m_token m_whole m_nameSize m_letters hf H locs ls hP hS hl
  unfold f_X11_next_188 at hf
  refine lv_iinc (v := v3 + 1) (lv' := [(3, .int (v3 + 1)), (0, .ref (a 0)), (1, .int v1)]) hx hb dX11_next_188 hl (k := 2) rfl rfl (by decide) rfl (fun ls hl => ?_)
  refine lv_iinc (v := v1 + 1) (lv' := [(1, .int (v1 + 1)), (3, .int (v3 + 1)), (0, .ref (a 0))]) hx hb dX11_next_191 hl (k := 2) rfl rfl (by decide) rfl (fun ls hl => ?_)
  refine lv_goto (tgt := 152) hx hb dX11_next_194 (by decide) ?_
  exact hk152 (v1 + 1) (v3 + 1) m_at m_end m_token m_whole m_nameSize m_letters hf _ _ _ hP hS (lv_sub hl [2, 0, 1] rfl)
set_option maxHeartbeats 4000000 in
set_option maxRecDepth 100000 in
theorem w_X11_next_152 {l : Launch} {p : Program} {e : Env} {s : State} {m : MethodId} {args : Array Value} {below : List Frame} {meth : Method} {c : Code} {A0 : Nat → Prop} {E : rf_E} {a : Nat → Nat} {I : Nat → Int32} {A : Nat → Nat → Int32} {m_size : Int32} {m_tape : Nat → Int32} {z : Int32 × Int32 × Int32 × Int32 × Int32 × (Nat → Int32)} (hC : rf_C p E s m args meth c cX11_next 4 RX11 (none) A0) (hD : va_D A0 (cM E a I A)) (e_m_size : I 2 = m_size) (e_m_tape : A 0 = m_tape) :
    ∀ (n : Nat), ∀ (v1 : Int32) (v3 : Int32) (m_at : Int32) (m_end : Int32) (m_token : Int32) (m_whole : Int32) (m_nameSize : Int32) (m_letters : Nat → Int32), f_X11_next_152 m_size m_tape n v1 v3 m_at m_end m_token m_whole m_nameSize m_letters = some z → ∀ (H : Heap) (locs : List Loc) (ls : Array Slot), va_P (rf_D E) vwCl (cM E a (rf_upL I [(3, m_at), (4, m_end), (5, m_token), (6, m_whole), (7, m_nameSize)]) (rf_upL A [(1, m_letters)])) H → va_S A0 s.heap H locs → lv_has ls 4 [(0, .ref (a 0)), (1, .int v1), (3, .int v3)] → W p l e ({ frames := 1, cells := 0, slots := 0, locals := 21 }) s m args below meth c H locs 0 0 (rf_QV below args s E A0 (cM E a (rf_upL I [(3, z.1), (4, z.2.1), (5, z.2.2.1), (6, z.2.2.2.1), (7, z.2.2.2.2.1)]) (rf_upL A [(1, z.2.2.2.2.2)]))) (F0 m 152 ls []) := by
  have hx := hC.1
  have hb := hC.2.1
  intro n
  induction n with
  | zero =>
    intro v1 v3 m_at m_end m_token m_whole m_nameSize m_letters hf
    have hf : (none : Option (Int32 × Int32 × Int32 × Int32 × Int32 × (Nat → Int32))) = some z := hf
    cases hf
  | succ n ih =>
    intro v1 v3 m_at m_end m_token m_whole m_nameSize m_letters hf H locs ls hP hS hl
    rw [f_X11_next_152] at hf
    refine lv_aload_n hx hb dX11_next_152 rfl (lv_at hl 0 rfl) ?_
    refine lv_iload_n hx hb dX11_next_153 rfl (lv_at hl 1 rfl) ?_
    obtain ⟨z154, hz154, hf⟩ := rf_bd hf
    refine rf_vi (q0 := 0) (ci := 11) hC (c_X11_look l E a (rf_upL I [(3, m_at), (4, m_end), (5, m_token), (6, m_whole), (7, m_nameSize)]) (rf_upL A [(1, m_letters)]) m_size m_tape v1 e_m_size e_m_tape hz154) kV_X11_look tw_1418 ⟨Nat.le_of_ble_eq_true rfl, Nat.le_of_ble_eq_true rfl⟩ rfl rfl rfl rfl rfl hP (rf_DM hD) hS rfl hl.1 (rest := []) rfl (Nat.le_of_ble_eq_true rfl) dX11_next_154 (fun H locs hP hS => ?_)
    obtain ⟨z157, hz157, hf⟩ := rf_bd hf
    refine rf_si0 hC (c_X11_isDigit l E z154 hz157) kS_X11_isDigit tw_1425 ⟨Nat.le_of_ble_eq_true rfl, Nat.le_of_ble_eq_true rfl⟩ rfl rfl hP hS rfl hl.1 (rest := []) rfl (Nat.le_of_ble_eq_true rfl) dX11_next_157 (fun H locs hP hS => ?_)
    refine lv_if_eq (tgt := 197) hx hb dX11_next_160 (by decide) (fun c_160 => ?_) (fun c_160 => ?_)
    · have hf := rf_it c_160 hf
      refine lv_aload_n hx hb dX11_next_197 rfl (lv_at hl 0 rfl) ?_
      refine lv_iload_n hx hb dX11_next_198 rfl (lv_at hl 1 rfl) ?_
      refine pM_m_end hC hD hP hS tw_1284 dX11_next_199 (rf_upL I [(3, m_at), (4, v1), (5, m_token), (6, m_whole), (7, m_nameSize)]) (rf_put rfl) (fun H locs hP hS => ?_)
      refine lv_aload_n hx hb dX11_next_202 rfl (lv_at hl 0 rfl) ?_
      refine lv_iload_n hx hb dX11_next_203 rfl (lv_at hl 2 rfl) ?_
      refine lv_iconst (v := 3) hx hb dX11_next_204 (by decide) ?_
      refine lv_icmp_le (tgt := 212) hx hb dX11_next_205 (by decide) (fun c_205 => ?_) (fun c_205 => ?_)
      · have hf := rf_it c_205 hf
        refine lv_iconst (v := 3) hx hb dX11_next_212 (by decide) ?_
        exact w_X11_next_213 hC hD e_m_size e_m_tape 3 m_at v1 m_token m_whole m_nameSize m_letters hf _ _ _ hP hS (lv_sub hl [] rfl)
      have hf := rf_ie c_205 hf
      refine lv_iconst (v := 1) hx hb dX11_next_208 (by decide) ?_
      refine lv_goto (tgt := 213) hx hb dX11_next_209 (by decide) ?_
      exact w_X11_next_213 hC hD e_m_size e_m_tape 1 m_at v1 m_token m_whole m_nameSize m_letters hf _ _ _ hP hS (lv_sub hl [] rfl)
    have hf := rf_ie c_160 hf
    refine lv_iload_n hx hb dX11_next_163 rfl (lv_at hl 2 rfl) ?_
    refine lv_iconst (v := 3) hx hb dX11_next_164 (by decide) ?_
    refine lv_icmp_ge (tgt := 188) hx hb dX11_next_165 (by decide) (fun c_165 => ?_) (fun c_165 => ?_)
    · have hf := rf_it c_165 hf
      exact w_X11_next_188 hC hD e_m_size e_m_tape ih v1 v3 m_at m_end m_token m_whole m_nameSize m_letters hf _ _ _ hP hS (lv_sub hl [0, 1, 2] rfl)
    have hf := rf_ie c_165 hf
    refine lv_aload_n hx hb dX11_next_168 rfl (lv_at hl 0 rfl) ?_
    refine lv_bipush (v := 10) hx hb dX11_next_169 (by decide) ?_
    refine lv_aload_n hx hb dX11_next_171 rfl (lv_at hl 0 rfl) ?_
    refine gM_m_whole hC hP tw_1286 (v := m_whole) rfl dX11_next_172 ?_
    refine lv_imul hx hb dX11_next_175 ?_
    refine lv_aload_n hx hb dX11_next_176 rfl (lv_at hl 0 rfl) ?_
    refine lv_iload_n hx hb dX11_next_177 rfl (lv_at hl 1 rfl) ?_
    obtain ⟨z178, hz178, hf⟩ := rf_bd hf
    refine rf_vi (q0 := 0) (ci := 11) hC (c_X11_look l E a (rf_upL I [(3, m_at), (4, m_end), (5, m_token), (6, m_whole), (7, m_nameSize)]) (rf_upL A [(1, m_letters)]) m_size m_tape v1 e_m_size e_m_tape hz178) kV_X11_look tw_1418 ⟨Nat.le_of_ble_eq_true rfl, Nat.le_of_ble_eq_true rfl⟩ rfl rfl rfl rfl rfl hP (rf_DM hD) hS rfl hl.1 (rest := [.int ((10 : Int32) * m_whole), .ref (a 0)]) rfl (Nat.le_of_ble_eq_true rfl) dX11_next_178 (fun H locs hP hS => ?_)
    refine lv_iadd hx hb dX11_next_181 ?_
    refine lv_bipush (v := 48) hx hb dX11_next_182 (by decide) ?_
    refine lv_isub hx hb dX11_next_184 ?_
    refine pM_m_whole hC hD hP hS tw_1286 dX11_next_185 (rf_upL I [(3, m_at), (4, m_end), (5, m_token), (6, (((10 : Int32) * m_whole) + z178) - 48), (7, m_nameSize)]) (rf_put rfl) (fun H locs hP hS => ?_)
    exact w_X11_next_188 hC hD e_m_size e_m_tape ih v1 v3 m_at m_end m_token ((((10 : Int32) * m_whole) + z178) - 48) m_nameSize m_letters hf _ _ _ hP hS (lv_sub hl [0, 1, 2] rfl)
set_option maxHeartbeats 4000000 in
set_option maxRecDepth 100000 in
theorem w_X11_next_137 {l : Launch} {p : Program} {e : Env} {s : State} {m : MethodId} {args : Array Value} {below : List Frame} {meth : Method} {c : Code} {A0 : Nat → Prop} {E : rf_E} {a : Nat → Nat} {I : Nat → Int32} {A : Nat → Nat → Int32} {m_size : Int32} {m_tape : Nat → Int32} {z : Int32 × Int32 × Int32 × Int32 × Int32 × (Nat → Int32)} (hC : rf_C p E s m args meth c cX11_next 4 RX11 (none) A0) (hD : va_D A0 (cM E a I A)) (e_m_size : I 2 = m_size) (e_m_tape : A 0 = m_tape) :
    ∀ (s1 : Int32) (m_at : Int32) (m_end : Int32) (m_token : Int32) (m_whole : Int32) (m_nameSize : Int32) (m_letters : Nat → Int32), f_X11_next_137 m_size m_tape s1 m_at m_end m_token m_whole m_nameSize m_letters = some z → ∀ (H : Heap) (locs : List Loc) (ls : Array Slot), va_P (rf_D E) vwCl (cM E a (rf_upL I [(3, m_at), (4, m_end), (5, m_token), (6, m_whole), (7, m_nameSize)]) (rf_upL A [(1, m_letters)])) H → va_S A0 s.heap H locs → lv_has ls 4 [] → W p l e ({ frames := 1, cells := 0, slots := 0, locals := 21 }) s m args below meth c H locs 0 0 (rf_QV below args s E A0 (cM E a (rf_upL I [(3, z.1), (4, z.2.1), (5, z.2.2.1), (6, z.2.2.2.1), (7, z.2.2.2.2.1)]) (rf_upL A [(1, z.2.2.2.2.2)]))) (F0 m 137 ls [.int s1, .ref (a 0)]) := by
  have hx := hC.1
  have hb := hC.2.1
  intro s1 m_at m_end m_token m_whole m_nameSize m_letters hf H locs ls hP hS hl
  unfold f_X11_next_137 at hf
  refine pM_m_token hC hD hP hS tw_1285 dX11_next_137 (rf_upL I [(3, m_at), (4, m_end), (5, s1), (6, m_whole), (7, m_nameSize)]) (rf_put rfl) (fun H locs hP hS => ?_)
  refine lv_goto (tgt := 241) hx hb dX11_next_140 (by decide) ?_
  obtain rfl := Option.some.inj hf
  exact rf_retv hC hP hS rfl dX11_next_241
set_option maxHeartbeats 4000000 in
set_option maxRecDepth 100000 in
theorem w_X11_next_101 {l : Launch} {p : Program} {e : Env} {s : State} {m : MethodId} {args : Array Value} {below : List Frame} {meth : Method} {c : Code} {A0 : Nat → Prop} {E : rf_E} {a : Nat → Nat} {I : Nat → Int32} {A : Nat → Nat → Int32} {m_size : Int32} {m_tape : Nat → Int32} {z : Int32 × Int32 × Int32 × Int32 × Int32 × (Nat → Int32)} (hC : rf_C p E s m args meth c cX11_next 4 RX11 (none) A0) (hD : va_D A0 (cM E a I A)) (e_m_size : I 2 = m_size) (e_m_tape : A 0 = m_tape) {k67 : Int32 → Int32 → Int32 → Int32 → Int32 → Int32 → (Nat → Int32) → Option (Int32 × Int32 × Int32 × Int32 × Int32 × (Nat → Int32))} (hk67 : ∀ (v1 : Int32) (m_at : Int32) (m_end : Int32) (m_token : Int32) (m_whole : Int32) (m_nameSize : Int32) (m_letters : Nat → Int32), k67 v1 m_at m_end m_token m_whole m_nameSize m_letters = some z → ∀ (H : Heap) (locs : List Loc) (ls : Array Slot), va_P (rf_D E) vwCl (cM E a (rf_upL I [(3, m_at), (4, m_end), (5, m_token), (6, m_whole), (7, m_nameSize)]) (rf_upL A [(1, m_letters)])) H → va_S A0 s.heap H locs → lv_has ls 4 [(0, .ref (a 0)), (1, .int v1)] → W p l e ({ frames := 1, cells := 0, slots := 0, locals := 21 }) s m args below meth c H locs 0 0 (rf_QV below args s E A0 (cM E a (rf_upL I [(3, z.1), (4, z.2.1), (5, z.2.2.1), (6, z.2.2.2.1), (7, z.2.2.2.2.1)]) (rf_upL A [(1, z.2.2.2.2.2)]))) (F0 m 67 ls [])) :
    ∀ (v1 : Int32) (m_at : Int32) (m_end : Int32) (m_token : Int32) (m_whole : Int32) (m_nameSize : Int32) (m_letters : Nat → Int32), f_X11_next_101 k67 m_size m_tape v1 m_at m_end m_token m_whole m_nameSize m_letters = some z → ∀ (H : Heap) (locs : List Loc) (ls : Array Slot), va_P (rf_D E) vwCl (cM E a (rf_upL I [(3, m_at), (4, m_end), (5, m_token), (6, m_whole), (7, m_nameSize)]) (rf_upL A [(1, m_letters)])) H → va_S A0 s.heap H locs → lv_has ls 4 [(0, .ref (a 0)), (1, .int v1)] → W p l e ({ frames := 1, cells := 0, slots := 0, locals := 21 }) s m args below meth c H locs 0 0 (rf_QV below args s E A0 (cM E a (rf_upL I [(3, z.1), (4, z.2.1), (5, z.2.2.1), (6, z.2.2.2.1), (7, z.2.2.2.2.1)]) (rf_upL A [(1, z.2.2.2.2.2)]))) (F0 m 101 ls []) := by
  have hx := hC.1
  have hb := hC.2.1
  intro v1 m_at m_end m_token m_whole m_nameSize m_letters hf H locs ls hP hS hl
  unfold f_X11_next_101 at hf
  refine lv_aload_n hx hb dX11_next_101 rfl (lv_at hl 0 rfl) ?_
  refine lv_dup hx hb dX11_next_102 rfl ?_
  refine gM_m_nameSize hC hP tw_1287 (v := m_nameSize) rfl dX11_next_103 ?_
  refine lv_iconst (v := 1) hx hb dX11_next_106 (by decide) ?_
  refine lv_iadd hx hb dX11_next_107 ?_
  refine pM_m_nameSize hC hD hP hS tw_1287 dX11_next_108 (rf_upL I [(3, m_at), (4, m_end), (5, m_token), (6, m_whole), (7, m_nameSize + 1)]) (rf_put rfl) (fun H locs hP hS => ?_)
  refine lv_iinc (v := v1 + 1) (lv' := [(1, .int (v1 + 1)), (0, .ref (a 0))]) hx hb dX11_next_111 hl (k := 1) rfl rfl (by decide) rfl (fun ls hl => ?_)
  refine lv_goto (tgt := 67) hx hb dX11_next_114 (by decide) ?_
  exact hk67 (v1 + 1) m_at m_end m_token m_whole (m_nameSize + 1) m_letters hf _ _ _ hP hS (lv_sub hl [1, 0] rfl)
set_option maxHeartbeats 4000000 in
set_option maxRecDepth 100000 in
theorem w_X11_next_67 {l : Launch} {p : Program} {e : Env} {s : State} {m : MethodId} {args : Array Value} {below : List Frame} {meth : Method} {c : Code} {A0 : Nat → Prop} {E : rf_E} {a : Nat → Nat} {I : Nat → Int32} {A : Nat → Nat → Int32} {m_size : Int32} {m_tape : Nat → Int32} {z : Int32 × Int32 × Int32 × Int32 × Int32 × (Nat → Int32)} (hC : rf_C p E s m args meth c cX11_next 4 RX11 (none) A0) (hD : va_D A0 (cM E a I A)) (e_m_size : I 2 = m_size) (e_m_tape : A 0 = m_tape) :
    ∀ (n : Nat), ∀ (v1 : Int32) (m_at : Int32) (m_end : Int32) (m_token : Int32) (m_whole : Int32) (m_nameSize : Int32) (m_letters : Nat → Int32), f_X11_next_67 m_size m_tape n v1 m_at m_end m_token m_whole m_nameSize m_letters = some z → ∀ (H : Heap) (locs : List Loc) (ls : Array Slot), va_P (rf_D E) vwCl (cM E a (rf_upL I [(3, m_at), (4, m_end), (5, m_token), (6, m_whole), (7, m_nameSize)]) (rf_upL A [(1, m_letters)])) H → va_S A0 s.heap H locs → lv_has ls 4 [(0, .ref (a 0)), (1, .int v1)] → W p l e ({ frames := 1, cells := 0, slots := 0, locals := 21 }) s m args below meth c H locs 0 0 (rf_QV below args s E A0 (cM E a (rf_upL I [(3, z.1), (4, z.2.1), (5, z.2.2.1), (6, z.2.2.2.1), (7, z.2.2.2.2.1)]) (rf_upL A [(1, z.2.2.2.2.2)]))) (F0 m 67 ls []) := by
  have hx := hC.1
  have hb := hC.2.1
  intro n
  induction n with
  | zero =>
    intro v1 m_at m_end m_token m_whole m_nameSize m_letters hf
    have hf : (none : Option (Int32 × Int32 × Int32 × Int32 × Int32 × (Nat → Int32))) = some z := hf
    cases hf
  | succ n ih =>
    intro v1 m_at m_end m_token m_whole m_nameSize m_letters hf H locs ls hP hS hl
    rw [f_X11_next_67] at hf
    refine lv_aload_n hx hb dX11_next_67 rfl (lv_at hl 0 rfl) ?_
    refine lv_iload_n hx hb dX11_next_68 rfl (lv_at hl 1 rfl) ?_
    obtain ⟨z69, hz69, hf⟩ := rf_bd hf
    refine rf_vi (q0 := 0) (ci := 11) hC (c_X11_look l E a (rf_upL I [(3, m_at), (4, m_end), (5, m_token), (6, m_whole), (7, m_nameSize)]) (rf_upL A [(1, m_letters)]) m_size m_tape v1 e_m_size e_m_tape hz69) kV_X11_look tw_1418 ⟨Nat.le_of_ble_eq_true rfl, Nat.le_of_ble_eq_true rfl⟩ rfl rfl rfl rfl rfl hP (rf_DM hD) hS rfl hl.1 (rest := []) rfl (Nat.le_of_ble_eq_true rfl) dX11_next_69 (fun H locs hP hS => ?_)
    obtain ⟨z72, hz72, hf⟩ := rf_bd hf
    refine rf_si0 hC (c_X11_isSmall l E z69 hz72) kS_X11_isSmall tw_1422 ⟨Nat.le_of_ble_eq_true rfl, Nat.le_of_ble_eq_true rfl⟩ rfl rfl hP hS rfl hl.1 (rest := []) rfl (Nat.le_of_ble_eq_true rfl) dX11_next_72 (fun H locs hP hS => ?_)
    refine lv_if_eq (tgt := 117) hx hb dX11_next_75 (by decide) (fun c_75 => ?_) (fun c_75 => ?_)
    · have hf := rf_it c_75 hf
      refine lv_aload_n hx hb dX11_next_117 rfl (lv_at hl 0 rfl) ?_
      refine lv_iload_n hx hb dX11_next_118 rfl (lv_at hl 1 rfl) ?_
      refine pM_m_end hC hD hP hS tw_1284 dX11_next_119 (rf_upL I [(3, m_at), (4, v1), (5, m_token), (6, m_whole), (7, m_nameSize)]) (rf_put rfl) (fun H locs hP hS => ?_)
      refine lv_aload_n hx hb dX11_next_122 rfl (lv_at hl 0 rfl) ?_
      refine lv_aload_n hx hb dX11_next_123 rfl (lv_at hl 0 rfl) ?_
      refine gM_m_nameSize hC hP tw_1287 (v := m_nameSize) rfl dX11_next_124 ?_
      refine lv_bipush (v := 8) hx hb dX11_next_127 (by decide) ?_
      refine lv_icmp_le (tgt := 136) hx hb dX11_next_129 (by decide) (fun c_129 => ?_) (fun c_129 => ?_)
      · have hf := rf_it c_129 hf
        refine lv_iconst (v := 2) hx hb dX11_next_136 (by decide) ?_
        exact w_X11_next_137 hC hD e_m_size e_m_tape 2 m_at v1 m_token m_whole m_nameSize m_letters hf _ _ _ hP hS (lv_sub hl [] rfl)
      have hf := rf_ie c_129 hf
      refine lv_iconst (v := 1) hx hb dX11_next_132 (by decide) ?_
      refine lv_goto (tgt := 137) hx hb dX11_next_133 (by decide) ?_
      exact w_X11_next_137 hC hD e_m_size e_m_tape 1 m_at v1 m_token m_whole m_nameSize m_letters hf _ _ _ hP hS (lv_sub hl [] rfl)
    have hf := rf_ie c_75 hf
    refine lv_aload_n hx hb dX11_next_78 rfl (lv_at hl 0 rfl) ?_
    refine gM_m_nameSize hC hP tw_1287 (v := m_nameSize) rfl dX11_next_79 ?_
    refine lv_bipush (v := 8) hx hb dX11_next_82 (by decide) ?_
    refine lv_icmp_ge (tgt := 101) hx hb dX11_next_84 (by decide) (fun c_84 => ?_) (fun c_84 => ?_)
    · have hf := rf_it c_84 hf
      exact w_X11_next_101 hC hD e_m_size e_m_tape ih v1 m_at m_end m_token m_whole m_nameSize m_letters hf _ _ _ hP hS (lv_sub hl [0, 1] rfl)
    have hf := rf_ie c_84 hf
    refine lv_aload_n hx hb dX11_next_87 rfl (lv_at hl 0 rfl) ?_
    refine gM_m_letters hC hP tw_1291 dX11_next_88 ?_
    refine lv_aload_n hx hb dX11_next_91 rfl (lv_at hl 0 rfl) ?_
    refine gM_m_nameSize hC hP tw_1287 (v := m_nameSize) rfl dX11_next_92 ?_
    refine lv_aload_n hx hb dX11_next_95 rfl (lv_at hl 0 rfl) ?_
    refine lv_iload_n hx hb dX11_next_96 rfl (lv_at hl 1 rfl) ?_
    obtain ⟨z97, hz97, hf⟩ := rf_bd hf
    refine rf_vi (q0 := 0) (ci := 11) hC (c_X11_look l E a (rf_upL I [(3, m_at), (4, m_end), (5, m_token), (6, m_whole), (7, m_nameSize)]) (rf_upL A [(1, m_letters)]) m_size m_tape v1 e_m_size e_m_tape hz97) kV_X11_look tw_1418 ⟨Nat.le_of_ble_eq_true rfl, Nat.le_of_ble_eq_true rfl⟩ rfl rfl rfl rfl rfl hP (rf_DM hD) hS rfl hl.1 (rest := [.int m_nameSize, .ref (a 2)]) rfl (Nat.le_of_ble_eq_true rfl) dX11_next_97 (fun H locs hP hS => ?_)
    obtain ⟨hi_100, hf⟩ := rf_gu hf
    refine sM_m_letters hC hD hP hS hi_100 (f := m_letters) rfl dX11_next_100 (rf_upL A [(1, upd m_letters (Int32.toNatClampNeg m_nameSize) z97)]) (rf_put rfl) (fun H locs hP hS => ?_)
    exact w_X11_next_101 hC hD e_m_size e_m_tape ih v1 m_at m_end m_token m_whole m_nameSize (upd m_letters (Int32.toNatClampNeg m_nameSize) z97) hf _ _ _ hP hS (lv_sub hl [0, 1] rfl)
set_option maxHeartbeats 4000000 in
set_option maxRecDepth 100000 in
theorem w_X11_next_5 {l : Launch} {p : Program} {e : Env} {s : State} {m : MethodId} {args : Array Value} {below : List Frame} {meth : Method} {c : Code} {A0 : Nat → Prop} {E : rf_E} {a : Nat → Nat} {I : Nat → Int32} {A : Nat → Nat → Int32} {m_size : Int32} {m_tape : Nat → Int32} {z : Int32 × Int32 × Int32 × Int32 × Int32 × (Nat → Int32)} (hC : rf_C p E s m args meth c cX11_next 4 RX11 (none) A0) (hD : va_D A0 (cM E a I A)) (e_m_size : I 2 = m_size) (e_m_tape : A 0 = m_tape) :
    ∀ (n : Nat), ∀ (v1 : Int32) (m_at : Int32) (m_end : Int32) (m_token : Int32) (m_whole : Int32) (m_nameSize : Int32) (m_letters : Nat → Int32), f_X11_next_5 m_size m_tape n v1 m_at m_end m_token m_whole m_nameSize m_letters = some z → ∀ (H : Heap) (locs : List Loc) (ls : Array Slot), va_P (rf_D E) vwCl (cM E a (rf_upL I [(3, m_at), (4, m_end), (5, m_token), (6, m_whole), (7, m_nameSize)]) (rf_upL A [(1, m_letters)])) H → va_S A0 s.heap H locs → lv_has ls 4 [(0, .ref (a 0)), (1, .int v1)] → W p l e ({ frames := 1, cells := 0, slots := 0, locals := 21 }) s m args below meth c H locs 0 0 (rf_QV below args s E A0 (cM E a (rf_upL I [(3, z.1), (4, z.2.1), (5, z.2.2.1), (6, z.2.2.2.1), (7, z.2.2.2.2.1)]) (rf_upL A [(1, z.2.2.2.2.2)]))) (F0 m 5 ls []) := by
  have hx := hC.1
  have hb := hC.2.1
  intro n
  induction n with
  | zero =>
    intro v1 m_at m_end m_token m_whole m_nameSize m_letters hf
    have hf : (none : Option (Int32 × Int32 × Int32 × Int32 × Int32 × (Nat → Int32))) = some z := hf
    cases hf
  | succ n ih =>
    intro v1 m_at m_end m_token m_whole m_nameSize m_letters hf H locs ls hP hS hl
    rw [f_X11_next_5] at hf
    refine lv_aload_n hx hb dX11_next_5 rfl (lv_at hl 0 rfl) ?_
    refine lv_iload_n hx hb dX11_next_6 rfl (lv_at hl 1 rfl) ?_
    obtain ⟨z7, hz7, hf⟩ := rf_bd hf
    refine rf_vi (q0 := 0) (ci := 11) hC (c_X11_look l E a (rf_upL I [(3, m_at), (4, m_end), (5, m_token), (6, m_whole), (7, m_nameSize)]) (rf_upL A [(1, m_letters)]) m_size m_tape v1 e_m_size e_m_tape hz7) kV_X11_look tw_1418 ⟨Nat.le_of_ble_eq_true rfl, Nat.le_of_ble_eq_true rfl⟩ rfl rfl rfl rfl rfl hP (rf_DM hD) hS rfl hl.1 (rest := []) rfl (Nat.le_of_ble_eq_true rfl) dX11_next_7 (fun H locs hP hS => ?_)
    refine lv_bipush (v := 32) hx hb dX11_next_10 (by decide) ?_
    refine lv_icmp_ne (tgt := 21) hx hb dX11_next_12 (by decide) (fun c_12 => ?_) (fun c_12 => ?_)
    · have hf := rf_ie c_12 hf
      refine lv_aload_n hx hb dX11_next_21 rfl (lv_at hl 0 rfl) ?_
      refine lv_iload_n hx hb dX11_next_22 rfl (lv_at hl 1 rfl) ?_
      refine pM_m_at hC hD hP hS tw_1283 dX11_next_23 (rf_upL I [(3, v1), (4, m_end), (5, m_token), (6, m_whole), (7, m_nameSize)]) (rf_put rfl) (fun H locs hP hS => ?_)
      refine lv_aload_n hx hb dX11_next_26 rfl (lv_at hl 0 rfl) ?_
      refine lv_iload_n hx hb dX11_next_27 rfl (lv_at hl 1 rfl) ?_
      obtain ⟨z28, hz28, hf⟩ := rf_bd hf
      refine rf_vi (q0 := 0) (ci := 11) hC (c_X11_look l E a (rf_upL I [(3, v1), (4, m_end), (5, m_token), (6, m_whole), (7, m_nameSize)]) (rf_upL A [(1, m_letters)]) m_size m_tape v1 e_m_size e_m_tape hz28) kV_X11_look tw_1418 ⟨Nat.le_of_ble_eq_true rfl, Nat.le_of_ble_eq_true rfl⟩ rfl rfl rfl rfl rfl hP (rf_DM hD) hS rfl hl.1 (rest := []) rfl (Nat.le_of_ble_eq_true rfl) dX11_next_28 (fun H locs hP hS => ?_)
      refine lv_istore_n (lv' := [(2, .int z28), (0, .ref (a 0)), (1, .int v1)]) hx hb dX11_next_31 rfl hl (by decide) rfl (fun ls hl => ?_)
      refine lv_aload_n hx hb dX11_next_32 rfl (lv_at hl 1 rfl) ?_
      refine lv_iconst (v := 0) hx hb dX11_next_33 (by decide) ?_
      refine pM_m_nameSize hC hD hP hS tw_1287 dX11_next_34 (rf_upL I [(3, v1), (4, m_end), (5, m_token), (6, m_whole), (7, 0)]) (rf_put rfl) (fun H locs hP hS => ?_)
      refine lv_aload_n hx hb dX11_next_37 rfl (lv_at hl 1 rfl) ?_
      refine lv_iconst (v := 0) hx hb dX11_next_38 (by decide) ?_
      refine pM_m_whole hC hD hP hS tw_1286 dX11_next_39 (rf_upL I [(3, v1), (4, m_end), (5, m_token), (6, 0), (7, 0)]) (rf_put rfl) (fun H locs hP hS => ?_)
      refine lv_iload_n hx hb dX11_next_42 rfl (lv_at hl 0 rfl) ?_
      refine lv_iconst (v := (-1)) hx hb dX11_next_43 (by decide) ?_
      refine lv_icmp_ne (tgt := 60) hx hb dX11_next_44 (by decide) (fun c_44 => ?_) (fun c_44 => ?_)
      · have hf := rf_ie c_44 hf
        refine lv_iload_n hx hb dX11_next_60 rfl (lv_at hl 0 rfl) ?_
        obtain ⟨z61, hz61, hf⟩ := rf_bd hf
        refine rf_si0 hC (c_X11_isSmall l E z28 hz61) kS_X11_isSmall tw_1422 ⟨Nat.le_of_ble_eq_true rfl, Nat.le_of_ble_eq_true rfl⟩ rfl rfl hP hS rfl hl.1 (rest := []) rfl (Nat.le_of_ble_eq_true rfl) dX11_next_61 (fun H locs hP hS => ?_)
        refine lv_if_eq (tgt := 143) hx hb dX11_next_64 (by decide) (fun c_64 => ?_) (fun c_64 => ?_)
        · have hf := rf_it c_64 hf
          refine lv_iload_n hx hb dX11_next_143 rfl (lv_at hl 0 rfl) ?_
          obtain ⟨z144, hz144, hf⟩ := rf_bd hf
          refine rf_si0 hC (c_X11_isDigit l E z28 hz144) kS_X11_isDigit tw_1425 ⟨Nat.le_of_ble_eq_true rfl, Nat.le_of_ble_eq_true rfl⟩ rfl rfl hP hS rfl hl.1 (rest := []) rfl (Nat.le_of_ble_eq_true rfl) dX11_next_144 (fun H locs hP hS => ?_)
          refine lv_if_eq (tgt := 219) hx hb dX11_next_147 (by decide) (fun c_147 => ?_) (fun c_147 => ?_)
          · have hf := rf_it c_147 hf
            refine lv_aload_n hx hb dX11_next_219 rfl (lv_at hl 1 rfl) ?_
            refine lv_iload_n hx hb dX11_next_220 rfl (lv_at hl 2 rfl) ?_
            refine lv_iconst (v := 1) hx hb dX11_next_221 (by decide) ?_
            refine lv_iadd hx hb dX11_next_222 ?_
            refine pM_m_end hC hD hP hS tw_1284 dX11_next_223 (rf_upL I [(3, v1), (4, v1 + 1), (5, m_token), (6, 0), (7, 0)]) (rf_put rfl) (fun H locs hP hS => ?_)
            refine lv_aload_n hx hb dX11_next_226 rfl (lv_at hl 1 rfl) ?_
            refine lv_iload_n hx hb dX11_next_227 rfl (lv_at hl 0 rfl) ?_
            refine lv_bipush (v := 59) hx hb dX11_next_228 (by decide) ?_
            refine lv_icmp_ne (tgt := 237) hx hb dX11_next_230 (by decide) (fun c_230 => ?_) (fun c_230 => ?_)
            · have hf := rf_ie c_230 hf
              refine lv_iconst (v := 1) hx hb dX11_next_237 (by decide) ?_
              exact w_X11_next_238 hC hD e_m_size e_m_tape 1 v1 (v1 + 1) m_token 0 0 m_letters hf _ _ _ hP hS (lv_sub hl [] rfl)
            have hf := rf_it c_230 hf
            refine lv_iload_n hx hb dX11_next_233 rfl (lv_at hl 0 rfl) ?_
            refine lv_goto (tgt := 238) hx hb dX11_next_234 (by decide) ?_
            exact w_X11_next_238 hC hD e_m_size e_m_tape z28 v1 (v1 + 1) m_token 0 0 m_letters hf _ _ _ hP hS (lv_sub hl [] rfl)
          have hf := rf_ie c_147 hf
          refine lv_iconst (v := 0) hx hb dX11_next_150 (by decide) ?_
          refine lv_istore_n (lv' := [(3, .int 0), (2, .int z28), (0, .ref (a 0)), (1, .int v1)]) hx hb dX11_next_151 rfl hl (by decide) rfl (fun ls hl => ?_)
          exact w_X11_next_152 hC hD e_m_size e_m_tape rf_fu v1 0 v1 m_end m_token 0 0 m_letters hf _ _ _ hP hS (lv_sub hl [2, 3, 0] rfl)
        have hf := rf_ie c_64 hf
        exact w_X11_next_67 hC hD e_m_size e_m_tape rf_fu v1 v1 m_end m_token 0 0 m_letters hf _ _ _ hP hS (lv_sub hl [1, 2] rfl)
      have hf := rf_it c_44 hf
      refine lv_aload_n hx hb dX11_next_47 rfl (lv_at hl 1 rfl) ?_
      refine lv_iconst (v := 0) hx hb dX11_next_48 (by decide) ?_
      refine pM_m_token hC hD hP hS tw_1285 dX11_next_49 (rf_upL I [(3, v1), (4, m_end), (5, 0), (6, 0), (7, 0)]) (rf_put rfl) (fun H locs hP hS => ?_)
      refine lv_aload_n hx hb dX11_next_52 rfl (lv_at hl 1 rfl) ?_
      refine lv_iload_n hx hb dX11_next_53 rfl (lv_at hl 2 rfl) ?_
      refine pM_m_end hC hD hP hS tw_1284 dX11_next_54 (rf_upL I [(3, v1), (4, v1), (5, 0), (6, 0), (7, 0)]) (rf_put rfl) (fun H locs hP hS => ?_)
      refine lv_goto (tgt := 241) hx hb dX11_next_57 (by decide) ?_
      obtain rfl := Option.some.inj hf
      exact rf_retv hC hP hS rfl dX11_next_241
    have hf := rf_it c_12 hf
    refine lv_iinc (v := v1 + 1) (lv' := [(1, .int (v1 + 1)), (0, .ref (a 0))]) hx hb dX11_next_15 hl (k := 1) rfl rfl (by decide) rfl (fun ls hl => ?_)
    refine lv_goto (tgt := 5) hx hb dX11_next_18 (by decide) ?_
    exact ih (v1 + 1) m_at m_end m_token m_whole m_nameSize m_letters hf _ _ _ hP hS (lv_sub hl [1, 0] rfl)
set_option maxHeartbeats 4000000 in
set_option maxRecDepth 100000 in
theorem c_X11_next (l : Launch) (E : rf_E) (a : Nat → Nat) (I : Nat → Int32) (A : Nat → Nat → Int32) (m_size : Int32) (m_tape : Nat → Int32) (m_at : Int32) (m_end : Int32) (m_token : Int32) (m_whole : Int32) (m_nameSize : Int32) (m_letters : Nat → Int32) {z : Int32 × Int32 × Int32 × Int32 × Int32 × (Nat → Int32)} (e_m_size : I 2 = m_size) (e_m_tape : A 0 = m_tape) (e_m_at : I 3 = m_at) (e_m_end : I 4 = m_end) (e_m_token : I 5 = m_token) (e_m_whole : I 6 = m_whole) (e_m_nameSize : I 7 = m_nameSize) (e_m_letters : A 1 = m_letters) (hf : f_X11_next m_size m_tape m_at m_end m_token m_whole m_nameSize m_letters = some z) : rf_MV l yX11_next cX11_next 4 ({ frames := 1, cells := 0, slots := 0, locals := 21 }) E [.ref (a 0)] (cM E a I A) (cM E a (rf_upL I [(3, z.1), (4, z.2.1), (5, z.2.2.1), (6, z.2.2.2.1), (7, z.2.2.2.2.1)]) (rf_upL A [(1, z.2.2.2.2.2)])) := by
  unfold f_X11_next at hf
  refine rf_ofV (by decide) (Nat.le_of_ble_eq_true rfl) ?_
  intro p e s m below meth c A0 ls hC hD hP hS hl
  have hC : rf_C p E s m _ meth c cX11_next 4 RX11 (none) A0 := hC
  have hx := hC.1
  have hb := hC.2.1
  have hl : lv_has ls 4 [(0, .ref (a 0))] := hl
  have hP : va_P (rf_D E) vwCl (cM E a (rf_upL I [(3, m_at), (4, m_end), (5, m_token), (6, m_whole), (7, m_nameSize)]) (rf_upL A [(1, m_letters)])) s.heap := by
    rw [rf_self (f := I) [(3, m_at), (4, m_end), (5, m_token), (6, m_whole), (7, m_nameSize)] (rf_fa1 e_m_at (rf_fa1 e_m_end (rf_fa1 e_m_token (rf_fa1 e_m_whole (rf_fa1 e_m_nameSize rf_fa0)))))]
    rw [rf_self (f := A) [(1, m_letters)] (rf_fa1 e_m_letters rf_fa0)]
    exact hP
  refine lv_aload_n hx hb dX11_next_0 rfl (lv_at hl 0 rfl) ?_
  refine gM_m_end hC hP tw_1284 (v := m_end) rfl dX11_next_1 ?_
  refine lv_istore_n (lv' := [(1, .int m_end), (0, .ref (a 0))]) hx hb dX11_next_4 rfl hl (by decide) rfl (fun ls hl => ?_)
  exact w_X11_next_5 hC hD e_m_size e_m_tape rf_fu m_end m_at m_end m_token m_whole m_nameSize m_letters hf _ _ _ hP hS (lv_sub hl [1, 0] rfl)
