set_option maxHeartbeats 4000000 in
set_option maxRecDepth 100000 in
theorem w_X11_bestName_86 {l : Launch} {p : Program} {e : Env} {s : State} {m : MethodId} {args : Array Value} {below : List Frame} {meth : Method} {c : Code} {A0 : Nat → Prop} {E : rf_E} {a : Nat → Nat} {I : Nat → Int32} {A : Nat → Nat → Int32} {m_hasFerry : Int32} {m_r : Nat → Int32} {m_st : Nat → Int32} {z : Int32 × Int32 × Int32} (hC : rf_C p E s m args meth c cX11_bestName 6 RX11 (some .int) A0) (hD : va_D A0 (cM E a I A)) (e_m_hasFerry : I 12 = m_hasFerry) (e_m_r : A 2 = m_r) (e_m_st : A 4 = m_st) {k31 : Int32 → Int32 → Int32 → Int32 → Int32 → Int32 → Option (Int32 × Int32 × Int32)} (hk31 : ∀ (v1 : Int32) (v2 : Int32) (v4 : Int32) (v5 : Int32) (m_thrown : Int32) (m_trouble : Int32), k31 v1 v2 v4 v5 m_thrown m_trouble = some z → ∀ (H : Heap) (locs : List Loc) (ls : Array Slot), va_P (rf_D E) vwCl (cM E a (rf_upL I [(0, m_thrown), (10, m_trouble)]) A) H → va_S A0 s.heap H locs → lv_has ls 6 [(0, .ref (a 0)), (1, .int v1), (2, .int v2), (4, .int v4), (5, .int v5)] → W p l e ({ frames := 4, cells := 0, slots := 0, locals := 102 }) s m args below meth c H locs 0 0 (rf_QI below args s E A0 z.1 (cM E a (rf_upL I [(0, z.2.1), (10, z.2.2)]) A)) (F0 m 31 ls [])) :
    ∀ (v1 : Int32) (v2 : Int32) (v5 : Int32) (s0 : Int32) (m_thrown : Int32) (m_trouble : Int32), f_X11_bestName_86 k31 m_hasFerry m_r m_st v1 v2 v5 s0 m_thrown m_trouble = some z → ∀ (H : Heap) (locs : List Loc) (ls : Array Slot), va_P (rf_D E) vwCl (cM E a (rf_upL I [(0, m_thrown), (10, m_trouble)]) A) H → va_S A0 s.heap H locs → lv_has ls 6 [(0, .ref (a 0)), (1, .int v1), (2, .int v2), (5, .int v5)] → W p l e ({ frames := 4, cells := 0, slots := 0, locals := 102 }) s m args below meth c H locs 0 0 (rf_QI below args s E A0 z.1 (cM E a (rf_upL I [(0, z.2.1), (10, z.2.2)]) A)) (F0 m 86 ls [.int s0]) := by
  have hx := hC.1
  have hb := hC.2.1
  intro v1 v2 v5 s0 m_thrown m_trouble hf H locs ls hP hS hl
  unfold f_X11_bestName_86 at hf
  refine lv_istore (lv' := [(4, .int s0), (0, .ref (a 0)), (1, .int v1), (2, .int v2), (5, .int v5)]) hx hb dX11_bestName_86 hl (by decide) rfl (fun ls hl => ?_)
  refine lv_iinc (v := v5 + 1) (lv' := [(5, .int (v5 + 1)), (4, .int s0), (0, .ref (a 0)), (1, .int v1), (2, .int v2)]) hx hb dX11_bestName_88 hl (k := 4) rfl rfl (by decide) rfl (fun ls hl => ?_)
  refine lv_goto (tgt := 31) hx hb dX11_bestName_91 (by decide) ?_
  exact hk31 v1 v2 s0 (v5 + 1) m_thrown m_trouble hf _ _ _ hP hS (lv_sub hl [2, 3, 4, 1, 0] rfl)
set_option maxHeartbeats 4000000 in
set_option maxRecDepth 100000 in
theorem w_X11_bestName_31 {l : Launch} {p : Program} {e : Env} {s : State} {m : MethodId} {args : Array Value} {below : List Frame} {meth : Method} {c : Code} {A0 : Nat → Prop} {E : rf_E} {a : Nat → Nat} {I : Nat → Int32} {A : Nat → Nat → Int32} {m_hasFerry : Int32} {m_r : Nat → Int32} {m_st : Nat → Int32} {z : Int32 × Int32 × Int32} (hC : rf_C p E s m args meth c cX11_bestName 6 RX11 (some .int) A0) (hD : va_D A0 (cM E a I A)) (e_m_hasFerry : I 12 = m_hasFerry) (e_m_r : A 2 = m_r) (e_m_st : A 4 = m_st) :
    ∀ (n : Nat), ∀ (v1 : Int32) (v2 : Int32) (v4 : Int32) (v5 : Int32) (m_thrown : Int32) (m_trouble : Int32), f_X11_bestName_31 m_hasFerry m_r m_st n v1 v2 v4 v5 m_thrown m_trouble = some z → ∀ (H : Heap) (locs : List Loc) (ls : Array Slot), va_P (rf_D E) vwCl (cM E a (rf_upL I [(0, m_thrown), (10, m_trouble)]) A) H → va_S A0 s.heap H locs → lv_has ls 6 [(0, .ref (a 0)), (1, .int v1), (2, .int v2), (4, .int v4), (5, .int v5)] → W p l e ({ frames := 4, cells := 0, slots := 0, locals := 102 }) s m args below meth c H locs 0 0 (rf_QI below args s E A0 z.1 (cM E a (rf_upL I [(0, z.2.1), (10, z.2.2)]) A)) (F0 m 31 ls []) := by
  have hx := hC.1
  have hb := hC.2.1
  intro n
  induction n with
  | zero =>
    intro v1 v2 v4 v5 m_thrown m_trouble hf
    have hf : (none : Option (Int32 × Int32 × Int32)) = some z := hf
    cases hf
  | succ n ih =>
    intro v1 v2 v4 v5 m_thrown m_trouble hf H locs ls hP hS hl
    rw [f_X11_bestName_31] at hf
    refine lv_iload hx hb dX11_bestName_31 (lv_at hl 4 rfl) ?_
    refine lv_aload_n hx hb dX11_bestName_33 rfl (lv_at hl 0 rfl) ?_
    refine gM_m_r hC hP tw_1294 dX11_bestName_34 ?_
    refine lv_iconst (v := 2) hx hb dX11_bestName_37 (by decide) ?_
    refine lM_m_r hC hP (by decide) (f := m_r) e_m_r dX11_bestName_38 ?_
    refine lv_icmp_ge (tgt := 94) hx hb dX11_bestName_39 (by decide) (fun c_39 => ?_) (fun c_39 => ?_)
    · have hf := rf_it c_39 hf
      refine lv_iload hx hb dX11_bestName_94 (lv_at hl 3 rfl) ?_
      obtain rfl := Option.some.inj hf
      exact rf_reti hC hP hS rfl rfl dX11_bestName_96
    have hf := rf_ie c_39 hf
    refine lv_aload_n hx hb dX11_bestName_42 rfl (lv_at hl 0 rfl) ?_
    refine lv_iload_n hx hb dX11_bestName_43 rfl (lv_at hl 1 rfl) ?_
    refine lv_iconst (v := 1) hx hb dX11_bestName_44 (by decide) ?_
    refine lv_iload hx hb dX11_bestName_45 (lv_at hl 4 rfl) ?_
    refine lv_ishl hx hb dX11_bestName_47 ?_
    refine lv_aload_n hx hb dX11_bestName_48 rfl (lv_at hl 0 rfl) ?_
    refine lv_iload_n hx hb dX11_bestName_49 rfl (lv_at hl 2 rfl) ?_
    obtain ⟨z50, hz50, hf⟩ := rf_bd hf
    refine rf_vi (q0 := 0) (ci := 11) hC (c_X11_earAt l E a (rf_upL I [(0, m_thrown), (10, m_trouble)]) A m_r v2 e_m_r hz50) kV_X11_earAt tw_1624 ⟨Nat.le_of_ble_eq_true rfl, Nat.le_of_ble_eq_true rfl⟩ rfl rfl rfl rfl rfl hP (rf_DM hD) hS rfl hl.1 (rest := [.int ((1 : Int32) <<< (v5 &&& 31)), .int v1, .ref (a 0)]) rfl (Nat.le_of_ble_eq_true rfl) dX11_bestName_50 (fun H locs hP hS => ?_)
    obtain ⟨z53, hz53, hf⟩ := rf_bd hf
    refine rf_vi (q0 := 0) (ci := 11) hC (c_X11_withBy l E a (rf_upL I [(0, m_thrown), (10, m_trouble)]) A m_r m_st v1 ((1 : Int32) <<< (v5 &&& 31)) z50 e_m_r e_m_st hz53) kV_X11_withBy tw_1648 ⟨Nat.le_of_ble_eq_true rfl, Nat.le_of_ble_eq_true rfl⟩ rfl rfl rfl rfl rfl hP (rf_DM hD) hS rfl hl.1 (rest := []) rfl (Nat.le_of_ble_eq_true rfl) dX11_bestName_53 (fun H locs hP hS => ?_)
    obtain ⟨z56, hz56, hf⟩ := rf_bd hf
    refine rf_si0 hC (c_X11_ones l E z53 hz56) kS_X11_ones tw_1660 ⟨Nat.le_of_ble_eq_true rfl, Nat.le_of_ble_eq_true rfl⟩ rfl rfl hP hS rfl hl.1 (rest := []) rfl (Nat.le_of_ble_eq_true rfl) dX11_bestName_56 (fun H locs hP hS => ?_)
    refine lv_aload_n hx hb dX11_bestName_59 rfl (lv_at hl 0 rfl) ?_
    refine lv_iload_n hx hb dX11_bestName_60 rfl (lv_at hl 1 rfl) ?_
    refine lv_iconst (v := 1) hx hb dX11_bestName_61 (by decide) ?_
    refine lv_iload hx hb dX11_bestName_62 (lv_at hl 3 rfl) ?_
    refine lv_ishl hx hb dX11_bestName_64 ?_
    refine lv_aload_n hx hb dX11_bestName_65 rfl (lv_at hl 0 rfl) ?_
    refine lv_iload_n hx hb dX11_bestName_66 rfl (lv_at hl 2 rfl) ?_
    obtain ⟨z67, hz67, hf⟩ := rf_bd hf
    refine rf_vi (q0 := 0) (ci := 11) hC (c_X11_earAt l E a (rf_upL I [(0, m_thrown), (10, m_trouble)]) A m_r v2 e_m_r hz67) kV_X11_earAt tw_1624 ⟨Nat.le_of_ble_eq_true rfl, Nat.le_of_ble_eq_true rfl⟩ rfl rfl rfl rfl rfl hP (rf_DM hD) hS rfl hl.1 (rest := [.int ((1 : Int32) <<< (v4 &&& 31)), .int v1, .ref (a 0), .int z56]) rfl (Nat.le_of_ble_eq_true rfl) dX11_bestName_67 (fun H locs hP hS => ?_)
    obtain ⟨z70, hz70, hf⟩ := rf_bd hf
    refine rf_vi (q0 := 0) (ci := 11) hC (c_X11_withBy l E a (rf_upL I [(0, m_thrown), (10, m_trouble)]) A m_r m_st v1 ((1 : Int32) <<< (v4 &&& 31)) z67 e_m_r e_m_st hz70) kV_X11_withBy tw_1648 ⟨Nat.le_of_ble_eq_true rfl, Nat.le_of_ble_eq_true rfl⟩ rfl rfl rfl rfl rfl hP (rf_DM hD) hS rfl hl.1 (rest := [.int z56]) rfl (Nat.le_of_ble_eq_true rfl) dX11_bestName_70 (fun H locs hP hS => ?_)
    obtain ⟨z73, hz73, hf⟩ := rf_bd hf
    refine rf_si0 hC (c_X11_ones l E z70 hz73) kS_X11_ones tw_1660 ⟨Nat.le_of_ble_eq_true rfl, Nat.le_of_ble_eq_true rfl⟩ rfl rfl hP hS rfl hl.1 (rest := [.int z56]) rfl (Nat.le_of_ble_eq_true rfl) dX11_bestName_73 (fun H locs hP hS => ?_)
    refine lv_icmp_le (tgt := 84) hx hb dX11_bestName_76 (by decide) (fun c_76 => ?_) (fun c_76 => ?_)
    · have hf := rf_it c_76 hf
      refine lv_iload hx hb dX11_bestName_84 (lv_at hl 3 rfl) ?_
      exact w_X11_bestName_86 hC hD e_m_hasFerry e_m_r e_m_st ih v1 v2 v5 v4 m_thrown m_trouble hf _ _ _ hP hS (lv_sub hl [0, 1, 2, 4] rfl)
    have hf := rf_ie c_76 hf
    refine lv_iload hx hb dX11_bestName_79 (lv_at hl 4 rfl) ?_
    refine lv_goto (tgt := 86) hx hb dX11_bestName_81 (by decide) ?_
    exact w_X11_bestName_86 hC hD e_m_hasFerry e_m_r e_m_st ih v1 v2 v5 v5 m_thrown m_trouble hf _ _ _ hP hS (lv_sub hl [0, 1, 2, 4] rfl)
set_option maxHeartbeats 4000000 in
set_option maxRecDepth 100000 in
theorem c_X11_bestName (l : Launch) (E : rf_E) (a : Nat → Nat) (I : Nat → Int32) (A : Nat → Nat → Int32) (m_hasFerry : Int32) (m_r : Nat → Int32) (m_st : Nat → Int32) (m_thrown : Int32) (m_trouble : Int32) (v1 : Int32) (v2 : Int32) {z : Int32 × Int32 × Int32} (e_m_hasFerry : I 12 = m_hasFerry) (e_m_r : A 2 = m_r) (e_m_st : A 4 = m_st) (e_m_thrown : I 0 = m_thrown) (e_m_trouble : I 10 = m_trouble) (hf : f_X11_bestName m_hasFerry m_r m_st m_thrown m_trouble v1 v2 = some z) : rf_MI l yX11_bestName cX11_bestName 6 (some .int) ({ frames := 4, cells := 0, slots := 0, locals := 102 }) E [.ref (a 0), .int v1, .int v2] (cM E a I A) z.1 (cM E a (rf_upL I [(0, z.2.1), (10, z.2.2)]) A) := by
  unfold f_X11_bestName at hf
  refine rf_ofI (by decide) (Nat.le_of_ble_eq_true rfl) ?_
  intro p e s m below meth c A0 ls hC hD hP hS hl
  have hC : rf_C p E s m _ meth c cX11_bestName 6 RX11 (some .int) A0 := hC
  have hx := hC.1
  have hb := hC.2.1
  have hl : lv_has ls 6 [(0, .ref (a 0)), (1, .int v1), (2, .int v2)] := hl
  have hP : va_P (rf_D E) vwCl (cM E a (rf_upL I [(0, m_thrown), (10, m_trouble)]) A) s.heap := by
    rw [rf_self (f := I) [(0, m_thrown), (10, m_trouble)] (rf_fa1 e_m_thrown (rf_fa1 e_m_trouble rf_fa0))]
    exact hP
  refine lv_aload_n hx hb dX11_bestName_0 rfl (lv_at hl 0 rfl) ?_
  obtain ⟨z1, hz1, hf⟩ := rf_bd hf
  refine rf_vv (q0 := 0) (ci := 11) hC (c_X11_good l E a (rf_upL I [(0, m_thrown), (10, m_trouble)]) A m_thrown m_trouble rfl rfl hz1) kV_X11_good tw_1403 ⟨Nat.le_of_ble_eq_true rfl, Nat.le_of_ble_eq_true rfl⟩ rfl rfl rfl rfl rfl hP (rf_DM hD) hS rfl hl.1 (rest := []) rfl (Nat.le_of_ble_eq_true rfl) dX11_bestName_1 (fun H locs hP hS => ?_)
  rw [rf_cat (f := I) (l := [(0, m_thrown), (10, m_trouble)]) (lc := [(0, z1.1), (10, z1.2)]) (l' := [(0, z1.1), (10, z1.2)]) rfl] at hP
  refine lv_aload_n hx hb dX11_bestName_4 rfl (lv_at hl 0 rfl) ?_
  refine lv_aload_n hx hb dX11_bestName_5 rfl (lv_at hl 0 rfl) ?_
  refine lv_iload_n hx hb dX11_bestName_6 rfl (lv_at hl 1 rfl) ?_
  obtain ⟨z7, hz7, hf⟩ := rf_bd hf
  refine rf_vi (q0 := 0) (ci := 11) hC (c_X11_isPerson l E a (rf_upL I [(0, z1.1), (10, z1.2)]) A m_hasFerry m_r v1 e_m_hasFerry e_m_r hz7) kV_X11_isPerson tw_1605 ⟨Nat.le_of_ble_eq_true rfl, Nat.le_of_ble_eq_true rfl⟩ rfl rfl rfl rfl rfl hP (rf_DM hD) hS rfl hl.1 (rest := [.ref (a 0)]) rfl (Nat.le_of_ble_eq_true rfl) dX11_bestName_7 (fun H locs hP hS => ?_)
  refine lv_iload_n hx hb dX11_bestName_10 rfl (lv_at hl 2 rfl) ?_
  obtain ⟨z11, hz11, hf⟩ := rf_bd hf
  refine rf_vi (q0 := 0) (ci := 11) hC (c_X11_why l E a (rf_upL I [(0, z1.1), (10, z1.2)]) A z7 v2 hz11) kV_X11_why tw_1617 ⟨Nat.le_of_ble_eq_true rfl, Nat.le_of_ble_eq_true rfl⟩ rfl rfl rfl rfl rfl hP (rf_DM hD) hS rfl hl.1 (rest := []) rfl (Nat.le_of_ble_eq_true rfl) dX11_bestName_11 (fun H locs hP hS => ?_)
  refine lv_istore_n (lv' := [(3, .int z11), (0, .ref (a 0)), (1, .int v1), (2, .int v2)]) hx hb dX11_bestName_14 rfl hl (by decide) rfl (fun ls hl => ?_)
  refine lv_iload_n hx hb dX11_bestName_15 rfl (lv_at hl 0 rfl) ?_
  refine lv_if_eq (tgt := 25) hx hb dX11_bestName_16 (by decide) (fun c_16 => ?_) (fun c_16 => ?_)
  · have hf := rf_it c_16 hf
    refine lv_iconst (v := 0) hx hb dX11_bestName_25 (by decide) ?_
    refine lv_istore (lv' := [(4, .int 0), (3, .int z11), (0, .ref (a 0)), (1, .int v1), (2, .int v2)]) hx hb dX11_bestName_26 hl (by decide) rfl (fun ls hl => ?_)
    refine lv_iconst (v := 1) hx hb dX11_bestName_28 (by decide) ?_
    refine lv_istore (lv' := [(5, .int 1), (4, .int 0), (3, .int z11), (0, .ref (a 0)), (1, .int v1), (2, .int v2)]) hx hb dX11_bestName_29 hl (by decide) rfl (fun ls hl => ?_)
    exact w_X11_bestName_31 hC hD e_m_hasFerry e_m_r e_m_st rf_fu v1 v2 0 1 z1.1 z1.2 hf _ _ _ hP hS (lv_sub hl [3, 4, 5, 1, 0] rfl)
  have hf := rf_ie c_16 hf
  refine lv_aload_n hx hb dX11_bestName_19 rfl (lv_at hl 1 rfl) ?_
  refine lv_iload_n hx hb dX11_bestName_20 rfl (lv_at hl 0 rfl) ?_
  obtain ⟨z21, hz21, hf⟩ := rf_bd hf
  refine rf_vi (q0 := 0) (ci := 11) hC (c_X11_no l E a (rf_upL I [(0, z1.1), (10, z1.2)]) A z1.2 z11 rfl hz21) kV_X11_no tw_1410 ⟨Nat.le_of_ble_eq_true rfl, Nat.le_of_ble_eq_true rfl⟩ rfl rfl rfl rfl rfl hP (rf_DM hD) hS rfl hl.1 (rest := []) rfl (Nat.le_of_ble_eq_true rfl) dX11_bestName_21 (fun H locs hP hS => ?_)
  rw [rf_cat (f := I) (l := [(0, z1.1), (10, z1.2)]) (lc := [(10, z21.2)]) (l' := [(0, z1.1), (10, z21.2)]) rfl] at hP
  obtain rfl := Option.some.inj hf
  exact rf_reti hC hP hS rfl rfl dX11_bestName_24
set_option maxHeartbeats 4000000 in
set_option maxRecDepth 100000 in
theorem w_X11_onBank_32 {l : Launch} {p : Program} {e : Env} {s : State} {m : MethodId} {args : Array Value} {below : List Frame} {meth : Method} {c : Code} {A0 : Nat → Prop} {E : rf_E} {a : Nat → Nat} {I : Nat → Int32} {A : Nat → Nat → Int32} {m_r : Nat → Int32} {m_st : Nat → Int32} {z : Int32} (hC : rf_C p E s m args meth c cX11_onBank 4 RX11 (some .int) A0) (hD : va_D A0 (cM E a I A)) (e_m_r : A 2 = m_r) (e_m_st : A 4 = m_st) {k4 : Int32 → Int32 → Int32 → Option (Int32)} (hk4 : ∀ (v1 : Int32) (v2 : Int32) (v3 : Int32), k4 v1 v2 v3 = some z → ∀ (H : Heap) (locs : List Loc) (ls : Array Slot), va_P (rf_D E) vwCl (cM E a I A) H → va_S A0 s.heap H locs → lv_has ls 4 [(0, .ref (a 0)), (1, .int v1), (2, .int v2), (3, .int v3)] → W p l e ({ frames := 0, cells := 0, slots := 0, locals := 0 }) s m args below meth c H locs 0 0 (rf_QI below args s E A0 z (cM E a I A)) (F0 m 4 ls [])) :
    ∀ (v1 : Int32) (v3 : Int32) (s0 : Int32) (s1 : Int32), f_X11_onBank_32 k4 m_r m_st v1 v3 s0 s1 = some z → ∀ (H : Heap) (locs : List Loc) (ls : Array Slot), va_P (rf_D E) vwCl (cM E a I A) H → va_S A0 s.heap H locs → lv_has ls 4 [(0, .ref (a 0)), (1, .int v1), (3, .int v3)] → W p l e ({ frames := 0, cells := 0, slots := 0, locals := 0 }) s m args below meth c H locs 0 0 (rf_QI below args s E A0 z (cM E a I A)) (F0 m 32 ls [.int s1, .int s0]) := by
  have hx := hC.1
  have hb := hC.2.1
  intro v1 v3 s0 s1 hf H locs ls hP hS hl
  unfold f_X11_onBank_32 at hf
  refine lv_ior hx hb dX11_onBank_32 ?_
  refine lv_istore_n (lv' := [(2, .int (s0 ||| s1)), (0, .ref (a 0)), (1, .int v1), (3, .int v3)]) hx hb dX11_onBank_33 rfl hl (by decide) rfl (fun ls hl => ?_)
  refine lv_iinc (v := v3 + 1) (lv' := [(3, .int (v3 + 1)), (2, .int (s0 ||| s1)), (0, .ref (a 0)), (1, .int v1)]) hx hb dX11_onBank_34 hl (k := 3) rfl rfl (by decide) rfl (fun ls hl => ?_)
  refine lv_goto (tgt := 4) hx hb dX11_onBank_37 (by decide) ?_
  exact hk4 v1 (s0 ||| s1) (v3 + 1) hf _ _ _ hP hS (lv_sub hl [2, 3, 1, 0] rfl)
set_option maxHeartbeats 4000000 in
set_option maxRecDepth 100000 in
theorem w_X11_onBank_4 {l : Launch} {p : Program} {e : Env} {s : State} {m : MethodId} {args : Array Value} {below : List Frame} {meth : Method} {c : Code} {A0 : Nat → Prop} {E : rf_E} {a : Nat → Nat} {I : Nat → Int32} {A : Nat → Nat → Int32} {m_r : Nat → Int32} {m_st : Nat → Int32} {z : Int32} (hC : rf_C p E s m args meth c cX11_onBank 4 RX11 (some .int) A0) (hD : va_D A0 (cM E a I A)) (e_m_r : A 2 = m_r) (e_m_st : A 4 = m_st) :
    ∀ (n : Nat), ∀ (v1 : Int32) (v2 : Int32) (v3 : Int32), f_X11_onBank_4 m_r m_st n v1 v2 v3 = some z → ∀ (H : Heap) (locs : List Loc) (ls : Array Slot), va_P (rf_D E) vwCl (cM E a I A) H → va_S A0 s.heap H locs → lv_has ls 4 [(0, .ref (a 0)), (1, .int v1), (2, .int v2), (3, .int v3)] → W p l e ({ frames := 0, cells := 0, slots := 0, locals := 0 }) s m args below meth c H locs 0 0 (rf_QI below args s E A0 z (cM E a I A)) (F0 m 4 ls []) := by
  have hx := hC.1
  have hb := hC.2.1
  intro n
  induction n with
  | zero =>
    intro v1 v2 v3 hf
    have hf : (none : Option (Int32)) = some z := hf
    cases hf
  | succ n ih =>
    intro v1 v2 v3 hf H locs ls hP hS hl
    rw [f_X11_onBank_4] at hf
    refine lv_iload_n hx hb dX11_onBank_4 rfl (lv_at hl 3 rfl) ?_
    refine lv_aload_n hx hb dX11_onBank_5 rfl (lv_at hl 0 rfl) ?_
    refine gM_m_r hC hP tw_1294 dX11_onBank_6 ?_
    refine lv_iconst (v := 3) hx hb dX11_onBank_9 (by decide) ?_
    refine lM_m_r hC hP (by decide) (f := m_r) e_m_r dX11_onBank_10 ?_
    refine lv_icmp_ge (tgt := 40) hx hb dX11_onBank_11 (by decide) (fun c_11 => ?_) (fun c_11 => ?_)
    · have hf := rf_it c_11 hf
      refine lv_iload_n hx hb dX11_onBank_40 rfl (lv_at hl 2 rfl) ?_
      obtain rfl := Option.some.inj hf
      exact rf_reti hC hP hS rfl rfl dX11_onBank_41
    have hf := rf_ie c_11 hf
    refine lv_iload_n hx hb dX11_onBank_14 rfl (lv_at hl 2 rfl) ?_
    refine lv_aload_n hx hb dX11_onBank_15 rfl (lv_at hl 0 rfl) ?_
    refine gM_m_st hC hP tw_1296 dX11_onBank_16 ?_
    refine lv_iload_n hx hb dX11_onBank_19 rfl (lv_at hl 3 rfl) ?_
    obtain ⟨hi_20, hf⟩ := rf_gu hf
    refine lM_m_st hC hP hi_20 (f := m_st) e_m_st dX11_onBank_20 ?_
    refine lv_iload_n hx hb dX11_onBank_21 rfl (lv_at hl 1 rfl) ?_
    refine lv_icmp_ne (tgt := 31) hx hb dX11_onBank_22 (by decide) (fun c_22 => ?_) (fun c_22 => ?_)
    · have hf := rf_ie c_22 hf
      refine lv_iconst (v := 0) hx hb dX11_onBank_31 (by decide) ?_
      exact w_X11_onBank_32 hC hD e_m_r e_m_st ih v1 v3 v2 0 hf _ _ _ hP hS (lv_sub hl [0, 1, 3] rfl)
    have hf := rf_it c_22 hf
    refine lv_iconst (v := 1) hx hb dX11_onBank_25 (by decide) ?_
    refine lv_iload_n hx hb dX11_onBank_26 rfl (lv_at hl 3 rfl) ?_
    refine lv_ishl hx hb dX11_onBank_27 ?_
    refine lv_goto (tgt := 32) hx hb dX11_onBank_28 (by decide) ?_
    exact w_X11_onBank_32 hC hD e_m_r e_m_st ih v1 v3 v2 ((1 : Int32) <<< (v3 &&& 31)) hf _ _ _ hP hS (lv_sub hl [0, 1, 3] rfl)
set_option maxHeartbeats 4000000 in
set_option maxRecDepth 100000 in
theorem c_X11_onBank (l : Launch) (E : rf_E) (a : Nat → Nat) (I : Nat → Int32) (A : Nat → Nat → Int32) (m_r : Nat → Int32) (m_st : Nat → Int32) (v1 : Int32) {z : Int32} (e_m_r : A 2 = m_r) (e_m_st : A 4 = m_st) (hf : f_X11_onBank m_r m_st v1 = some z) : rf_MI l yX11_onBank cX11_onBank 4 (some .int) ({ frames := 0, cells := 0, slots := 0, locals := 0 }) E [.ref (a 0), .int v1] (cM E a I A) z (cM E a I A) := by
  unfold f_X11_onBank at hf
  refine rf_ofI (by decide) (Nat.le_of_ble_eq_true rfl) ?_
  intro p e s m below meth c A0 ls hC hD hP hS hl
  have hC : rf_C p E s m _ meth c cX11_onBank 4 RX11 (some .int) A0 := hC
  have hx := hC.1
  have hb := hC.2.1
  have hl : lv_has ls 4 [(0, .ref (a 0)), (1, .int v1)] := hl
  refine lv_iconst (v := 0) hx hb dX11_onBank_0 (by decide) ?_
  refine lv_istore_n (lv' := [(2, .int 0), (0, .ref (a 0)), (1, .int v1)]) hx hb dX11_onBank_1 rfl hl (by decide) rfl (fun ls hl => ?_)
  refine lv_iconst (v := 0) hx hb dX11_onBank_2 (by decide) ?_
  refine lv_istore_n (lv' := [(3, .int 0), (2, .int 0), (0, .ref (a 0)), (1, .int v1)]) hx hb dX11_onBank_3 rfl hl (by decide) rfl (fun ls hl => ?_)
  exact w_X11_onBank_4 hC hD e_m_r e_m_st rf_fu v1 0 0 hf _ _ _ hP hS (lv_sub hl [2, 3, 1, 0] rfl)
set_option maxHeartbeats 4000000 in
set_option maxRecDepth 100000 in
theorem c_X11_priceOf (l : Launch) (E : rf_E) (a : Nat → Nat) (I : Nat → Int32) (A : Nat → Nat → Int32) (m_r : Nat → Int32) (v1 : Int32) {z : Int32} (e_m_r : A 2 = m_r) (hf : f_X11_priceOf m_r v1 = some z) : rf_MI l yX11_priceOf cX11_priceOf 2 (some .int) ({ frames := 0, cells := 0, slots := 0, locals := 0 }) E [.ref (a 0), .int v1] (cM E a I A) z (cM E a I A) := by
  unfold f_X11_priceOf at hf
  refine rf_ofI (by decide) (Nat.le_of_ble_eq_true rfl) ?_
  intro p e s m below meth c A0 ls hC hD hP hS hl
  have hC : rf_C p E s m _ meth c cX11_priceOf 2 RX11 (some .int) A0 := hC
  have hx := hC.1
  have hb := hC.2.1
  have hl : lv_has ls 2 [(0, .ref (a 0)), (1, .int v1)] := hl
  refine lv_aload_n hx hb dX11_priceOf_0 rfl (lv_at hl 0 rfl) ?_
  refine gM_m_r hC hP tw_1294 dX11_priceOf_1 ?_
  refine lv_bipush (v := 9) hx hb dX11_priceOf_4 (by decide) ?_
  refine lv_bipush (v := 8) hx hb dX11_priceOf_6 (by decide) ?_
  refine lv_iload_n hx hb dX11_priceOf_8 rfl (lv_at hl 1 rfl) ?_
  refine lv_imul hx hb dX11_priceOf_9 ?_
  refine lv_iadd hx hb dX11_priceOf_10 ?_
  obtain ⟨hi_11, hf⟩ := rf_gu hf
  refine lM_m_r hC hP hi_11 (f := m_r) e_m_r dX11_priceOf_11 ?_
  obtain rfl := Option.some.inj hf
  exact rf_reti hC hP hS rfl rfl dX11_priceOf_12
set_option maxHeartbeats 4000000 in
set_option maxRecDepth 100000 in
theorem w_X11_cheapest_158 {l : Launch} {p : Program} {e : Env} {s : State} {m : MethodId} {args : Array Value} {below : List Frame} {meth : Method} {c : Code} {A0 : Nat → Prop} {E : rf_E} {a : Nat → Nat} {I : Nat → Int32} {A : Nat → Nat → Int32} {m_hasFerry : Int32} {m_r : Nat → Int32} {m_st : Nat → Int32} {z : Int32 × Int32 × Int32} (hC : rf_C p E s m args meth c cX11_cheapest 8 RX11 (some .int) A0) (hD : va_D A0 (cM E a I A)) (e_m_hasFerry : I 12 = m_hasFerry) (e_m_r : A 2 = m_r) (e_m_st : A 4 = m_st) {k68 : Int32 → Int32 → Int32 → Int32 → Int32 → Int32 → Int32 → Int32 → Option (Int32 × Int32 × Int32)} (hk68 : ∀ (v1 : Int32) (v2 : Int32) (v4 : Int32) (v5 : Int32) (v6 : Int32) (v7 : Int32) (m_thrown : Int32) (m_trouble : Int32), k68 v1 v2 v4 v5 v6 v7 m_thrown m_trouble = some z → ∀ (H : Heap) (locs : List Loc) (ls : Array Slot), va_P (rf_D E) vwCl (cM E a (rf_upL I [(0, m_thrown), (10, m_trouble)]) A) H → va_S A0 s.heap H locs → lv_has ls 8 [(0, .ref (a 0)), (1, .int v1), (2, .int v2), (4, .int v4), (5, .int v5), (6, .int v6), (7, .int v7)] → W p l e ({ frames := 4, cells := 0, slots := 0, locals := 102 }) s m args below meth c H locs 0 0 (rf_QI below args s E A0 z.1 (cM E a (rf_upL I [(0, z.2.1), (10, z.2.2)]) A)) (F0 m 68 ls [])) :
    ∀ (v1 : Int32) (v2 : Int32) (v4 : Int32) (v5 : Int32) (v6 : Int32) (v7 : Int32) (m_thrown : Int32) (m_trouble : Int32), f_X11_cheapest_158 k68 m_hasFerry m_r m_st v1 v2 v4 v5 v6 v7 m_thrown m_trouble = some z → ∀ (H : Heap) (locs : List Loc) (ls : Array Slot), va_P (rf_D E) vwCl (cM E a (rf_upL I [(0, m_thrown), (10, m_trouble)]) A) H → va_S A0 s.heap H locs → lv_has ls 8 [(0, .ref (a 0)), (1, .int v1), (2, .int v2), (4, .int v4), (5, .int v5), (6, .int v6), (7, .int v7)] → W p l e ({ frames := 4, cells := 0, slots := 0, locals := 102 }) s m args below meth c H locs 0 0 (rf_QI below args s E A0 z.1 (cM E a (rf_upL I [(0, z.2.1), (10, z.2.2)]) A)) (F0 m 158 ls []) := by
  have hx := hC.1
  have hb := hC.2.1
  intro v1 v2 v4 v5 v6 v7 m_thrown m_trouble hf H locs ls hP hS hl
  unfold f_X11_cheapest_158 at hf
  refine lv_iinc (v := v7 + 1) (lv' := [(7, .int (v7 + 1)), (0, .ref (a 0)), (1, .int v1), (2, .int v2), (4, .int v4), (5, .int v5), (6, .int v6)]) hx hb dX11_cheapest_158 hl (k := 6) rfl rfl (by decide) rfl (fun ls hl => ?_)
  refine lv_goto (tgt := 68) hx hb dX11_cheapest_161 (by decide) ?_
  exact hk68 v1 v2 v4 v5 v6 (v7 + 1) m_thrown m_trouble hf _ _ _ hP hS (lv_sub hl [1, 2, 3, 4, 5, 6, 0] rfl)
set_option maxHeartbeats 4000000 in
set_option maxRecDepth 100000 in
theorem w_X11_cheapest_154 {l : Launch} {p : Program} {e : Env} {s : State} {m : MethodId} {args : Array Value} {below : List Frame} {meth : Method} {c : Code} {A0 : Nat → Prop} {E : rf_E} {a : Nat → Nat} {I : Nat → Int32} {A : Nat → Nat → Int32} {m_hasFerry : Int32} {m_r : Nat → Int32} {m_st : Nat → Int32} {z : Int32 × Int32 × Int32} (hC : rf_C p E s m args meth c cX11_cheapest 8 RX11 (some .int) A0) (hD : va_D A0 (cM E a I A)) (e_m_hasFerry : I 12 = m_hasFerry) (e_m_r : A 2 = m_r) (e_m_st : A 4 = m_st) {k68 : Int32 → Int32 → Int32 → Int32 → Int32 → Int32 → Int32 → Int32 → Option (Int32 × Int32 × Int32)} (hk68 : ∀ (v1 : Int32) (v2 : Int32) (v4 : Int32) (v5 : Int32) (v6 : Int32) (v7 : Int32) (m_thrown : Int32) (m_trouble : Int32), k68 v1 v2 v4 v5 v6 v7 m_thrown m_trouble = some z → ∀ (H : Heap) (locs : List Loc) (ls : Array Slot), va_P (rf_D E) vwCl (cM E a (rf_upL I [(0, m_thrown), (10, m_trouble)]) A) H → va_S A0 s.heap H locs → lv_has ls 8 [(0, .ref (a 0)), (1, .int v1), (2, .int v2), (4, .int v4), (5, .int v5), (6, .int v6), (7, .int v7)] → W p l e ({ frames := 4, cells := 0, slots := 0, locals := 102 }) s m args below meth c H locs 0 0 (rf_QI below args s E A0 z.1 (cM E a (rf_upL I [(0, z.2.1), (10, z.2.2)]) A)) (F0 m 68 ls [])) :
    ∀ (v1 : Int32) (v2 : Int32) (v4 : Int32) (v5 : Int32) (v7 : Int32) (m_thrown : Int32) (m_trouble : Int32), f_X11_cheapest_154 k68 m_hasFerry m_r m_st v1 v2 v4 v5 v7 m_thrown m_trouble = some z → ∀ (H : Heap) (locs : List Loc) (ls : Array Slot), va_P (rf_D E) vwCl (cM E a (rf_upL I [(0, m_thrown), (10, m_trouble)]) A) H → va_S A0 s.heap H locs → lv_has ls 8 [(0, .ref (a 0)), (1, .int v1), (2, .int v2), (4, .int v4), (5, .int v5), (7, .int v7)] → W p l e ({ frames := 4, cells := 0, slots := 0, locals := 102 }) s m args below meth c H locs 0 0 (rf_QI below args s E A0 z.1 (cM E a (rf_upL I [(0, z.2.1), (10, z.2.2)]) A)) (F0 m 154 ls []) := by
  have hx := hC.1
  have hb := hC.2.1
  intro v1 v2 v4 v5 v7 m_thrown m_trouble hf H locs ls hP hS hl
  unfold f_X11_cheapest_154 at hf
  refine lv_iload hx hb dX11_cheapest_154 (lv_at hl 5 rfl) ?_
  refine lv_istore (lv' := [(6, .int v7), (0, .ref (a 0)), (1, .int v1), (2, .int v2), (4, .int v4), (5, .int v5), (7, .int v7)]) hx hb dX11_cheapest_156 hl (by decide) rfl (fun ls hl => ?_)
  exact w_X11_cheapest_158 hC hD e_m_hasFerry e_m_r e_m_st hk68 v1 v2 v4 v5 v7 v7 m_thrown m_trouble hf _ _ _ hP hS (lv_sub hl [1, 2, 3, 4, 5, 0, 6] rfl)
set_option maxHeartbeats 4000000 in
set_option maxRecDepth 100000 in
theorem w_X11_cheapest_68 {l : Launch} {p : Program} {e : Env} {s : State} {m : MethodId} {args : Array Value} {below : List Frame} {meth : Method} {c : Code} {A0 : Nat → Prop} {E : rf_E} {a : Nat → Nat} {I : Nat → Int32} {A : Nat → Nat → Int32} {m_hasFerry : Int32} {m_r : Nat → Int32} {m_st : Nat → Int32} {z : Int32 × Int32 × Int32} (hC : rf_C p E s m args meth c cX11_cheapest 8 RX11 (some .int) A0) (hD : va_D A0 (cM E a I A)) (e_m_hasFerry : I 12 = m_hasFerry) (e_m_r : A 2 = m_r) (e_m_st : A 4 = m_st) :
    ∀ (n : Nat), ∀ (v1 : Int32) (v2 : Int32) (v4 : Int32) (v5 : Int32) (v6 : Int32) (v7 : Int32) (m_thrown : Int32) (m_trouble : Int32), f_X11_cheapest_68 m_hasFerry m_r m_st n v1 v2 v4 v5 v6 v7 m_thrown m_trouble = some z → ∀ (H : Heap) (locs : List Loc) (ls : Array Slot), va_P (rf_D E) vwCl (cM E a (rf_upL I [(0, m_thrown), (10, m_trouble)]) A) H → va_S A0 s.heap H locs → lv_has ls 8 [(0, .ref (a 0)), (1, .int v1), (2, .int v2), (4, .int v4), (5, .int v5), (6, .int v6), (7, .int v7)] → W p l e ({ frames := 4, cells := 0, slots := 0, locals := 102 }) s m args below meth c H locs 0 0 (rf_QI below args s E A0 z.1 (cM E a (rf_upL I [(0, z.2.1), (10, z.2.2)]) A)) (F0 m 68 ls []) := by
  have hx := hC.1
  have hb := hC.2.1
  intro n
  induction n with
  | zero =>
    intro v1 v2 v4 v5 v6 v7 m_thrown m_trouble hf
    have hf : (none : Option (Int32 × Int32 × Int32)) = some z := hf
    cases hf
  | succ n ih =>
    intro v1 v2 v4 v5 v6 v7 m_thrown m_trouble hf H locs ls hP hS hl
    rw [f_X11_cheapest_68] at hf
    refine lv_iload hx hb dX11_cheapest_68 (lv_at hl 6 rfl) ?_
    refine lv_aload_n hx hb dX11_cheapest_70 rfl (lv_at hl 0 rfl) ?_
    refine gM_m_r hC hP tw_1294 dX11_cheapest_71 ?_
    refine lv_iconst (v := 2) hx hb dX11_cheapest_74 (by decide) ?_
    refine lM_m_r hC hP (by decide) (f := m_r) e_m_r dX11_cheapest_75 ?_
    refine lv_icmp_ge (tgt := 164) hx hb dX11_cheapest_76 (by decide) (fun c_76 => ?_) (fun c_76 => ?_)
    · have hf := rf_it c_76 hf
      refine lv_iload hx hb dX11_cheapest_164 (lv_at hl 5 rfl) ?_
      obtain rfl := Option.some.inj hf
      exact rf_reti hC hP hS rfl rfl dX11_cheapest_166
    have hf := rf_ie c_76 hf
    refine lv_aload_n hx hb dX11_cheapest_79 rfl (lv_at hl 0 rfl) ?_
    refine gM_m_st hC hP tw_1296 dX11_cheapest_80 ?_
    refine lv_bipush (v := 8) hx hb dX11_cheapest_83 (by decide) ?_
    refine lv_iload_n hx hb dX11_cheapest_85 rfl (lv_at hl 1 rfl) ?_
    refine lv_iadd hx hb dX11_cheapest_86 ?_
    obtain ⟨hi_87, hf⟩ := rf_gu hf
    refine lM_m_st hC hP hi_87 (f := m_st) e_m_st dX11_cheapest_87 ?_
    refine lv_iload hx hb dX11_cheapest_88 (lv_at hl 6 rfl) ?_
    obtain ⟨z90, hz90, hf⟩ := rf_bd hf
    refine rf_si0 hC (c_X11_hasBit l E (m_st (Int32.toNatClampNeg ((8 : Int32) + v1))) v7 hz90) kS_X11_hasBit tw_1539 ⟨Nat.le_of_ble_eq_true rfl, Nat.le_of_ble_eq_true rfl⟩ rfl rfl hP hS rfl hl.1 (rest := []) rfl (Nat.le_of_ble_eq_true rfl) dX11_cheapest_90 (fun H locs hP hS => ?_)
    refine lv_if_ne (tgt := 158) hx hb dX11_cheapest_93 (by decide) (fun c_93 => ?_) (fun c_93 => ?_)
    · have hf := rf_ie c_93 hf
      exact w_X11_cheapest_158 hC hD e_m_hasFerry e_m_r e_m_st ih v1 v2 v4 v5 v6 v7 m_thrown m_trouble hf _ _ _ hP hS (lv_sub hl [0, 1, 2, 3, 4, 5, 6] rfl)
    have hf := rf_it c_93 hf
    refine lv_aload_n hx hb dX11_cheapest_96 rfl (lv_at hl 0 rfl) ?_
    refine lv_iload_n hx hb dX11_cheapest_97 rfl (lv_at hl 1 rfl) ?_
    refine lv_aload_n hx hb dX11_cheapest_98 rfl (lv_at hl 0 rfl) ?_
    refine gM_m_st hC hP tw_1296 dX11_cheapest_99 ?_
    refine lv_bipush (v := 8) hx hb dX11_cheapest_102 (by decide) ?_
    refine lv_iload_n hx hb dX11_cheapest_104 rfl (lv_at hl 1 rfl) ?_
    refine lv_iadd hx hb dX11_cheapest_105 ?_
    obtain ⟨hi_106, hf⟩ := rf_gu hf
    refine lM_m_st hC hP hi_106 (f := m_st) e_m_st dX11_cheapest_106 ?_
    refine lv_iconst (v := 1) hx hb dX11_cheapest_107 (by decide) ?_
    refine lv_iload hx hb dX11_cheapest_108 (lv_at hl 6 rfl) ?_
    refine lv_ishl hx hb dX11_cheapest_110 ?_
    refine lv_ior hx hb dX11_cheapest_111 ?_
    refine lv_aload_n hx hb dX11_cheapest_112 rfl (lv_at hl 0 rfl) ?_
    refine lv_iload_n hx hb dX11_cheapest_113 rfl (lv_at hl 2 rfl) ?_
    obtain ⟨z114, hz114, hf⟩ := rf_bd hf
    refine rf_vi (q0 := 0) (ci := 11) hC (c_X11_earAt l E a (rf_upL I [(0, m_thrown), (10, m_trouble)]) A m_r v2 e_m_r hz114) kV_X11_earAt tw_1624 ⟨Nat.le_of_ble_eq_true rfl, Nat.le_of_ble_eq_true rfl⟩ rfl rfl rfl rfl rfl hP (rf_DM hD) hS rfl hl.1 (rest := [.int ((m_st (Int32.toNatClampNeg ((8 : Int32) + v1))) ||| ((1 : Int32) <<< (v7 &&& 31))), .int v1, .ref (a 0)]) rfl (Nat.le_of_ble_eq_true rfl) dX11_cheapest_114 (fun H locs hP hS => ?_)
    obtain ⟨z117, hz117, hf⟩ := rf_bd hf
    refine rf_vi (q0 := 0) (ci := 11) hC (c_X11_withBy l E a (rf_upL I [(0, m_thrown), (10, m_trouble)]) A m_r m_st v1 ((m_st (Int32.toNatClampNeg ((8 : Int32) + v1))) ||| ((1 : Int32) <<< (v7 &&& 31))) z114 e_m_r e_m_st hz117) kV_X11_withBy tw_1648 ⟨Nat.le_of_ble_eq_true rfl, Nat.le_of_ble_eq_true rfl⟩ rfl rfl rfl rfl rfl hP (rf_DM hD) hS rfl hl.1 (rest := []) rfl (Nat.le_of_ble_eq_true rfl) dX11_cheapest_117 (fun H locs hP hS => ?_)
    refine lv_iload hx hb dX11_cheapest_120 (lv_at hl 3 rfl) ?_
    refine lv_iand hx hb dX11_cheapest_122 ?_
    refine lv_iload hx hb dX11_cheapest_123 (lv_at hl 4 rfl) ?_
    refine lv_iconst (v := (-1)) hx hb dX11_cheapest_125 (by decide) ?_
    refine lv_ixor hx hb dX11_cheapest_126 ?_
    refine lv_iand hx hb dX11_cheapest_127 ?_
    refine lv_if_ne (tgt := 134) hx hb dX11_cheapest_128 (by decide) (fun c_128 => ?_) (fun c_128 => ?_)
    · have hf := rf_ie c_128 hf
      refine lv_iload hx hb dX11_cheapest_134 (lv_at hl 5 rfl) ?_
      refine lv_if_lt (tgt := 154) hx hb dX11_cheapest_136 (by decide) (fun c_136 => ?_) (fun c_136 => ?_)
      · have hf := rf_it c_136 hf
        exact w_X11_cheapest_154 hC hD e_m_hasFerry e_m_r e_m_st ih v1 v2 v4 v5 v7 m_thrown m_trouble hf _ _ _ hP hS (lv_sub hl [0, 1, 2, 3, 4, 6] rfl)
      have hf := rf_ie c_136 hf
      refine lv_aload_n hx hb dX11_cheapest_139 rfl (lv_at hl 0 rfl) ?_
      refine lv_iload hx hb dX11_cheapest_140 (lv_at hl 6 rfl) ?_
      obtain ⟨z142, hz142, hf⟩ := rf_bd hf
      refine rf_vi (q0 := 0) (ci := 11) hC (c_X11_priceOf l E a (rf_upL I [(0, m_thrown), (10, m_trouble)]) A m_r v7 e_m_r hz142) kV_X11_priceOf tw_1695 ⟨Nat.le_of_ble_eq_true rfl, Nat.le_of_ble_eq_true rfl⟩ rfl rfl rfl rfl rfl hP (rf_DM hD) hS rfl hl.1 (rest := []) rfl (Nat.le_of_ble_eq_true rfl) dX11_cheapest_142 (fun H locs hP hS => ?_)
      refine lv_aload_n hx hb dX11_cheapest_145 rfl (lv_at hl 0 rfl) ?_
      refine lv_iload hx hb dX11_cheapest_146 (lv_at hl 5 rfl) ?_
      obtain ⟨z148, hz148, hf⟩ := rf_bd hf
      refine rf_vi (q0 := 0) (ci := 11) hC (c_X11_priceOf l E a (rf_upL I [(0, m_thrown), (10, m_trouble)]) A m_r v6 e_m_r hz148) kV_X11_priceOf tw_1695 ⟨Nat.le_of_ble_eq_true rfl, Nat.le_of_ble_eq_true rfl⟩ rfl rfl rfl rfl rfl hP (rf_DM hD) hS rfl hl.1 (rest := [.int z142]) rfl (Nat.le_of_ble_eq_true rfl) dX11_cheapest_148 (fun H locs hP hS => ?_)
      refine lv_icmp_ge (tgt := 158) hx hb dX11_cheapest_151 (by decide) (fun c_151 => ?_) (fun c_151 => ?_)
      · have hf := rf_it c_151 hf
        exact w_X11_cheapest_158 hC hD e_m_hasFerry e_m_r e_m_st ih v1 v2 v4 v5 v6 v7 m_thrown m_trouble hf _ _ _ hP hS (lv_sub hl [0, 1, 2, 3, 4, 5, 6] rfl)
      have hf := rf_ie c_151 hf
      exact w_X11_cheapest_154 hC hD e_m_hasFerry e_m_r e_m_st ih v1 v2 v4 v5 v7 m_thrown m_trouble hf _ _ _ hP hS (lv_sub hl [0, 1, 2, 3, 4, 6] rfl)
    have hf := rf_it c_128 hf
    refine lv_goto (tgt := 158) hx hb dX11_cheapest_131 (by decide) ?_
    exact w_X11_cheapest_158 hC hD e_m_hasFerry e_m_r e_m_st ih v1 v2 v4 v5 v6 v7 m_thrown m_trouble hf _ _ _ hP hS (lv_sub hl [0, 1, 2, 3, 4, 5, 6] rfl)
set_option maxHeartbeats 4000000 in
set_option maxRecDepth 100000 in
theorem c_X11_cheapest (l : Launch) (E : rf_E) (a : Nat → Nat) (I : Nat → Int32) (A : Nat → Nat → Int32) (m_hasFerry : Int32) (m_r : Nat → Int32) (m_st : Nat → Int32) (m_thrown : Int32) (m_trouble : Int32) (v1 : Int32) (v2 : Int32) {z : Int32 × Int32 × Int32} (e_m_hasFerry : I 12 = m_hasFerry) (e_m_r : A 2 = m_r) (e_m_st : A 4 = m_st) (e_m_thrown : I 0 = m_thrown) (e_m_trouble : I 10 = m_trouble) (hf : f_X11_cheapest m_hasFerry m_r m_st m_thrown m_trouble v1 v2 = some z) : rf_MI l yX11_cheapest cX11_cheapest 8 (some .int) ({ frames := 4, cells := 0, slots := 0, locals := 102 }) E [.ref (a 0), .int v1, .int v2] (cM E a I A) z.1 (cM E a (rf_upL I [(0, z.2.1), (10, z.2.2)]) A) := by
  unfold f_X11_cheapest at hf
  refine rf_ofI (by decide) (Nat.le_of_ble_eq_true rfl) ?_
  intro p e s m below meth c A0 ls hC hD hP hS hl
  have hC : rf_C p E s m _ meth c cX11_cheapest 8 RX11 (some .int) A0 := hC
  have hx := hC.1
  have hb := hC.2.1
  have hl : lv_has ls 8 [(0, .ref (a 0)), (1, .int v1), (2, .int v2)] := hl
  have hP : va_P (rf_D E) vwCl (cM E a (rf_upL I [(0, m_thrown), (10, m_trouble)]) A) s.heap := by
    rw [rf_self (f := I) [(0, m_thrown), (10, m_trouble)] (rf_fa1 e_m_thrown (rf_fa1 e_m_trouble rf_fa0))]
    exact hP
  refine lv_aload_n hx hb dX11_cheapest_0 rfl (lv_at hl 0 rfl) ?_
  obtain ⟨z1, hz1, hf⟩ := rf_bd hf
  refine rf_vv (q0 := 0) (ci := 11) hC (c_X11_good l E a (rf_upL I [(0, m_thrown), (10, m_trouble)]) A m_thrown m_trouble rfl rfl hz1) kV_X11_good tw_1403 ⟨Nat.le_of_ble_eq_true rfl, Nat.le_of_ble_eq_true rfl⟩ rfl rfl rfl rfl rfl hP (rf_DM hD) hS rfl hl.1 (rest := []) rfl (Nat.le_of_ble_eq_true rfl) dX11_cheapest_1 (fun H locs hP hS => ?_)
  rw [rf_cat (f := I) (l := [(0, m_thrown), (10, m_trouble)]) (lc := [(0, z1.1), (10, z1.2)]) (l' := [(0, z1.1), (10, z1.2)]) rfl] at hP
  refine lv_aload_n hx hb dX11_cheapest_4 rfl (lv_at hl 0 rfl) ?_
  refine lv_aload_n hx hb dX11_cheapest_5 rfl (lv_at hl 0 rfl) ?_
  refine lv_iload_n hx hb dX11_cheapest_6 rfl (lv_at hl 1 rfl) ?_
  obtain ⟨z7, hz7, hf⟩ := rf_bd hf
  refine rf_vi (q0 := 0) (ci := 11) hC (c_X11_isPerson l E a (rf_upL I [(0, z1.1), (10, z1.2)]) A m_hasFerry m_r v1 e_m_hasFerry e_m_r hz7) kV_X11_isPerson tw_1605 ⟨Nat.le_of_ble_eq_true rfl, Nat.le_of_ble_eq_true rfl⟩ rfl rfl rfl rfl rfl hP (rf_DM hD) hS rfl hl.1 (rest := [.ref (a 0)]) rfl (Nat.le_of_ble_eq_true rfl) dX11_cheapest_7 (fun H locs hP hS => ?_)
  refine lv_iload_n hx hb dX11_cheapest_10 rfl (lv_at hl 2 rfl) ?_
  obtain ⟨z11, hz11, hf⟩ := rf_bd hf
  refine rf_vi (q0 := 0) (ci := 11) hC (c_X11_why l E a (rf_upL I [(0, z1.1), (10, z1.2)]) A z7 v2 hz11) kV_X11_why tw_1617 ⟨Nat.le_of_ble_eq_true rfl, Nat.le_of_ble_eq_true rfl⟩ rfl rfl rfl rfl rfl hP (rf_DM hD) hS rfl hl.1 (rest := []) rfl (Nat.le_of_ble_eq_true rfl) dX11_cheapest_11 (fun H locs hP hS => ?_)
  refine lv_istore_n (lv' := [(3, .int z11), (0, .ref (a 0)), (1, .int v1), (2, .int v2)]) hx hb dX11_cheapest_14 rfl hl (by decide) rfl (fun ls hl => ?_)
  refine lv_iload_n hx hb dX11_cheapest_15 rfl (lv_at hl 0 rfl) ?_
  refine lv_if_eq (tgt := 25) hx hb dX11_cheapest_16 (by decide) (fun c_16 => ?_) (fun c_16 => ?_)
  · have hf := rf_it c_16 hf
    refine lv_aload_n hx hb dX11_cheapest_25 rfl (lv_at hl 1 rfl) ?_
    refine lv_aload_n hx hb dX11_cheapest_26 rfl (lv_at hl 1 rfl) ?_
    refine gM_m_st hC hP tw_1296 dX11_cheapest_27 ?_
    refine lv_iload_n hx hb dX11_cheapest_30 rfl (lv_at hl 2 rfl) ?_
    obtain ⟨hi_31, hf⟩ := rf_gu hf
    refine lM_m_st hC hP hi_31 (f := m_st) e_m_st dX11_cheapest_31 ?_
    obtain ⟨z32, hz32, hf⟩ := rf_bd hf
    refine rf_vi (q0 := 0) (ci := 11) hC (c_X11_onBank l E a (rf_upL I [(0, z1.1), (10, z1.2)]) A m_r m_st (m_st (Int32.toNatClampNeg v1)) e_m_r e_m_st hz32) kV_X11_onBank tw_1691 ⟨Nat.le_of_ble_eq_true rfl, Nat.le_of_ble_eq_true rfl⟩ rfl rfl rfl rfl rfl hP (rf_DM hD) hS rfl hl.1 (rest := []) rfl (Nat.le_of_ble_eq_true rfl) dX11_cheapest_32 (fun H locs hP hS => ?_)
    refine lv_istore (lv' := [(4, .int z32), (3, .int z11), (0, .ref (a 0)), (1, .int v1), (2, .int v2)]) hx hb dX11_cheapest_35 hl (by decide) rfl (fun ls hl => ?_)
    refine lv_aload_n hx hb dX11_cheapest_37 rfl (lv_at hl 2 rfl) ?_
    refine lv_iload_n hx hb dX11_cheapest_38 rfl (lv_at hl 3 rfl) ?_
    refine lv_aload_n hx hb dX11_cheapest_39 rfl (lv_at hl 2 rfl) ?_
    refine gM_m_st hC hP tw_1296 dX11_cheapest_40 ?_
    refine lv_bipush (v := 8) hx hb dX11_cheapest_43 (by decide) ?_
    refine lv_iload_n hx hb dX11_cheapest_45 rfl (lv_at hl 3 rfl) ?_
    refine lv_iadd hx hb dX11_cheapest_46 ?_
    obtain ⟨hi_47, hf⟩ := rf_gu hf
    refine lM_m_st hC hP hi_47 (f := m_st) e_m_st dX11_cheapest_47 ?_
    refine lv_aload_n hx hb dX11_cheapest_48 rfl (lv_at hl 2 rfl) ?_
    refine lv_iload_n hx hb dX11_cheapest_49 rfl (lv_at hl 4 rfl) ?_
    obtain ⟨z50, hz50, hf⟩ := rf_bd hf
    refine rf_vi (q0 := 0) (ci := 11) hC (c_X11_earAt l E a (rf_upL I [(0, z1.1), (10, z1.2)]) A m_r v2 e_m_r hz50) kV_X11_earAt tw_1624 ⟨Nat.le_of_ble_eq_true rfl, Nat.le_of_ble_eq_true rfl⟩ rfl rfl rfl rfl rfl hP (rf_DM hD) hS rfl hl.1 (rest := [.int (m_st (Int32.toNatClampNeg ((8 : Int32) + v1))), .int v1, .ref (a 0)]) rfl (Nat.le_of_ble_eq_true rfl) dX11_cheapest_50 (fun H locs hP hS => ?_)
    obtain ⟨z53, hz53, hf⟩ := rf_bd hf
    refine rf_vi (q0 := 0) (ci := 11) hC (c_X11_withBy l E a (rf_upL I [(0, z1.1), (10, z1.2)]) A m_r m_st v1 (m_st (Int32.toNatClampNeg ((8 : Int32) + v1))) z50 e_m_r e_m_st hz53) kV_X11_withBy tw_1648 ⟨Nat.le_of_ble_eq_true rfl, Nat.le_of_ble_eq_true rfl⟩ rfl rfl rfl rfl rfl hP (rf_DM hD) hS rfl hl.1 (rest := []) rfl (Nat.le_of_ble_eq_true rfl) dX11_cheapest_53 (fun H locs hP hS => ?_)
    refine lv_iload hx hb dX11_cheapest_56 (lv_at hl 0 rfl) ?_
    refine lv_iand hx hb dX11_cheapest_58 ?_
    refine lv_istore (lv' := [(5, .int (z53 &&& z32)), (4, .int z32), (3, .int z11), (0, .ref (a 0)), (1, .int v1), (2, .int v2)]) hx hb dX11_cheapest_59 hl (by decide) rfl (fun ls hl => ?_)
    refine lv_bipush (v := (-2)) hx hb dX11_cheapest_61 (by decide) ?_
    refine lv_istore (lv' := [(6, .int (-2)), (5, .int (z53 &&& z32)), (4, .int z32), (3, .int z11), (0, .ref (a 0)), (1, .int v1), (2, .int v2)]) hx hb dX11_cheapest_63 hl (by decide) rfl (fun ls hl => ?_)
    refine lv_iconst (v := 0) hx hb dX11_cheapest_65 (by decide) ?_
    refine lv_istore (lv' := [(7, .int 0), (6, .int (-2)), (5, .int (z53 &&& z32)), (4, .int z32), (3, .int z11), (0, .ref (a 0)), (1, .int v1), (2, .int v2)]) hx hb dX11_cheapest_66 hl (by decide) rfl (fun ls hl => ?_)
    exact w_X11_cheapest_68 hC hD e_m_hasFerry e_m_r e_m_st rf_fu v1 v2 z32 (z53 &&& z32) (-2) 0 z1.1 z1.2 hf _ _ _ hP hS (lv_sub hl [5, 6, 7, 3, 2, 1, 0] rfl)
  have hf := rf_ie c_16 hf
  refine lv_aload_n hx hb dX11_cheapest_19 rfl (lv_at hl 1 rfl) ?_
  refine lv_iload_n hx hb dX11_cheapest_20 rfl (lv_at hl 0 rfl) ?_
  obtain ⟨z21, hz21, hf⟩ := rf_bd hf
  refine rf_vi (q0 := 0) (ci := 11) hC (c_X11_no l E a (rf_upL I [(0, z1.1), (10, z1.2)]) A z1.2 z11 rfl hz21) kV_X11_no tw_1410 ⟨Nat.le_of_ble_eq_true rfl, Nat.le_of_ble_eq_true rfl⟩ rfl rfl rfl rfl rfl hP (rf_DM hD) hS rfl hl.1 (rest := []) rfl (Nat.le_of_ble_eq_true rfl) dX11_cheapest_21 (fun H locs hP hS => ?_)
  rw [rf_cat (f := I) (l := [(0, z1.1), (10, z1.2)]) (lc := [(10, z21.2)]) (l' := [(0, z1.1), (10, z21.2)]) rfl] at hP
  obtain rfl := Option.some.inj hf
  exact rf_reti hC hP hS rfl rfl dX11_cheapest_24
set_option maxHeartbeats 4000000 in
set_option maxRecDepth 100000 in
theorem w_X11_bankWhy_22 {l : Launch} {p : Program} {e : Env} {s : State} {m : MethodId} {args : Array Value} {below : List Frame} {meth : Method} {c : Code} {A0 : Nat → Prop} {E : rf_E} {a : Nat → Nat} {I : Nat → Int32} {A : Nat → Nat → Int32} {m_hasFerry : Int32} {z : Int32} (hC : rf_C p E s m args meth c cX11_bankWhy 3 RX11 (some .int) A0) (hD : va_D A0 (cM E a I A)) (e_m_hasFerry : I 12 = m_hasFerry) :
    ∀ (v2 : Int32) (s1 : Int32), f_X11_bankWhy_22 m_hasFerry v2 s1 = some z → ∀ (H : Heap) (locs : List Loc) (ls : Array Slot), va_P (rf_D E) vwCl (cM E a I A) H → va_S A0 s.heap H locs → lv_has ls 3 [(2, .int v2)] → W p l e ({ frames := 3, cells := 0, slots := 0, locals := 64 }) s m args below meth c H locs 0 0 (rf_QI below args s E A0 z (cM E a I A)) (F0 m 22 ls [.int s1, .ref (a 0)]) := by
  have hx := hC.1
  have hb := hC.2.1
  intro v2 s1 hf H locs ls hP hS hl
  unfold f_X11_bankWhy_22 at hf
  refine lv_iload_n hx hb dX11_bankWhy_22 rfl (lv_at hl 0 rfl) ?_
  obtain ⟨z23, hz23, hf⟩ := rf_bd hf
  refine rf_vi (q0 := 0) (ci := 11) hC (c_X11_why l E a I A s1 v2 hz23) kV_X11_why tw_1617 ⟨Nat.le_of_ble_eq_true rfl, Nat.le_of_ble_eq_true rfl⟩ rfl rfl rfl rfl rfl hP (rf_DM hD) hS rfl hl.1 (rest := []) rfl (Nat.le_of_ble_eq_true rfl) dX11_bankWhy_23 (fun H locs hP hS => ?_)
  obtain rfl := Option.some.inj hf
  exact rf_reti hC hP hS rfl rfl dX11_bankWhy_26
set_option maxHeartbeats 4000000 in
set_option maxRecDepth 100000 in
theorem w_X11_bankWhy_21 {l : Launch} {p : Program} {e : Env} {s : State} {m : MethodId} {args : Array Value} {below : List Frame} {meth : Method} {c : Code} {A0 : Nat → Prop} {E : rf_E} {a : Nat → Nat} {I : Nat → Int32} {A : Nat → Nat → Int32} {m_hasFerry : Int32} {z : Int32} (hC : rf_C p E s m args meth c cX11_bankWhy 3 RX11 (some .int) A0) (hD : va_D A0 (cM E a I A)) (e_m_hasFerry : I 12 = m_hasFerry) :
    ∀ (v2 : Int32), f_X11_bankWhy_21 m_hasFerry v2 = some z → ∀ (H : Heap) (locs : List Loc) (ls : Array Slot), va_P (rf_D E) vwCl (cM E a I A) H → va_S A0 s.heap H locs → lv_has ls 3 [(2, .int v2)] → W p l e ({ frames := 3, cells := 0, slots := 0, locals := 64 }) s m args below meth c H locs 0 0 (rf_QI below args s E A0 z (cM E a I A)) (F0 m 21 ls [.ref (a 0)]) := by
  have hx := hC.1
  have hb := hC.2.1
  intro v2 hf H locs ls hP hS hl
  unfold f_X11_bankWhy_21 at hf
  refine lv_iconst (v := 0) hx hb dX11_bankWhy_21 (by decide) ?_
  exact w_X11_bankWhy_22 hC hD e_m_hasFerry v2 0 hf _ _ _ hP hS (lv_sub hl [0] rfl)
set_option maxHeartbeats 4000000 in
set_option maxRecDepth 100000 in
theorem c_X11_bankWhy (l : Launch) (E : rf_E) (a : Nat → Nat) (I : Nat → Int32) (A : Nat → Nat → Int32) (m_hasFerry : Int32) (v1 : Int32) (v2 : Int32) {z : Int32} (e_m_hasFerry : I 12 = m_hasFerry) (hf : f_X11_bankWhy m_hasFerry v1 v2 = some z) : rf_MI l yX11_bankWhy cX11_bankWhy 3 (some .int) ({ frames := 3, cells := 0, slots := 0, locals := 64 }) E [.ref (a 0), .int v1, .int v2] (cM E a I A) z (cM E a I A) := by
  unfold f_X11_bankWhy at hf
  refine rf_ofI (by decide) (Nat.le_of_ble_eq_true rfl) ?_
  intro p e s m below meth c A0 ls hC hD hP hS hl
  have hC : rf_C p E s m _ meth c cX11_bankWhy 3 RX11 (some .int) A0 := hC
  have hx := hC.1
  have hb := hC.2.1
  have hl : lv_has ls 3 [(0, .ref (a 0)), (1, .int v1), (2, .int v2)] := hl
  refine lv_aload_n hx hb dX11_bankWhy_0 rfl (lv_at hl 0 rfl) ?_
  refine lv_aload_n hx hb dX11_bankWhy_1 rfl (lv_at hl 0 rfl) ?_
  refine gM_m_hasFerry hC hP tw_1293 (v := m_hasFerry) e_m_hasFerry dX11_bankWhy_2 ?_
  refine lv_if_eq (tgt := 21) hx hb dX11_bankWhy_5 (by decide) (fun c_5 => ?_) (fun c_5 => ?_)
  · have hf := rf_it c_5 hf
    exact w_X11_bankWhy_21 hC hD e_m_hasFerry v2 hf _ _ _ hP hS (lv_sub hl [2] rfl)
  have hf := rf_ie c_5 hf
  refine lv_iload_n hx hb dX11_bankWhy_8 rfl (lv_at hl 1 rfl) ?_
  refine lv_iconst (v := 0) hx hb dX11_bankWhy_9 (by decide) ?_
  refine lv_iconst (v := 1) hx hb dX11_bankWhy_10 (by decide) ?_
  obtain ⟨z11, hz11, hf⟩ := rf_bd hf
  refine rf_si0 hC (c_X11_in l E v1 0 1 hz11) kS_X11_in tw_1407 ⟨Nat.le_of_ble_eq_true rfl, Nat.le_of_ble_eq_true rfl⟩ rfl rfl hP hS rfl hl.1 (rest := [.ref (a 0)]) rfl (Nat.le_of_ble_eq_true rfl) dX11_bankWhy_11 (fun H locs hP hS => ?_)
  refine lv_if_eq (tgt := 21) hx hb dX11_bankWhy_14 (by decide) (fun c_14 => ?_) (fun c_14 => ?_)
  · have hf := rf_it c_14 hf
    exact w_X11_bankWhy_21 hC hD e_m_hasFerry v2 hf _ _ _ hP hS (lv_sub hl [2] rfl)
  have hf := rf_ie c_14 hf
  refine lv_iconst (v := 1) hx hb dX11_bankWhy_17 (by decide) ?_
  refine lv_goto (tgt := 22) hx hb dX11_bankWhy_18 (by decide) ?_
  exact w_X11_bankWhy_22 hC hD e_m_hasFerry v2 1 hf _ _ _ hP hS (lv_sub hl [2] rfl)
set_option maxHeartbeats 4000000 in
set_option maxRecDepth 100000 in
theorem w_X11_layCan_42 {l : Launch} {p : Program} {e : Env} {s : State} {m : MethodId} {args : Array Value} {below : List Frame} {meth : Method} {c : Code} {A0 : Nat → Prop} {E : rf_E} {a : Nat → Nat} {I : Nat → Int32} {A : Nat → Nat → Int32} {m_r : Nat → Int32} {m_st : Nat → Int32} {z : (Nat → Int32)} (hC : rf_C p E s m args meth c cX11_layCan 4 RX11 (none) A0) (hD : va_D A0 (cM E a I A)) (e_m_r : A 2 = m_r) (e_m_st : A 4 = m_st) {k2 : Int32 → Int32 → Int32 → (Nat → Int32) → Option ((Nat → Int32))} (hk2 : ∀ (v1 : Int32) (v2 : Int32) (v3 : Int32) (m_can : Nat → Int32), k2 v1 v2 v3 m_can = some z → ∀ (H : Heap) (locs : List Loc) (ls : Array Slot), va_P (rf_D E) vwCl (cM E a I (rf_upL A [(7, m_can)])) H → va_S A0 s.heap H locs → lv_has ls 4 [(0, .ref (a 0)), (1, .int v1), (2, .int v2), (3, .int v3)] → W p l e ({ frames := 4, cells := 0, slots := 0, locals := 102 }) s m args below meth c H locs 0 0 (rf_QV below args s E A0 (cM E a I (rf_upL A [(7, z)]))) (F0 m 2 ls [])) :
    ∀ (v1 : Int32) (v2 : Int32) (v3 : Int32) (s1 : Int32) (s2 : Int32) (m_can : Nat → Int32), f_X11_layCan_42 k2 m_r m_st v1 v2 v3 s1 s2 m_can = some z → ∀ (H : Heap) (locs : List Loc) (ls : Array Slot), va_P (rf_D E) vwCl (cM E a I (rf_upL A [(7, m_can)])) H → va_S A0 s.heap H locs → lv_has ls 4 [(0, .ref (a 0)), (1, .int v1), (2, .int v2), (3, .int v3)] → W p l e ({ frames := 4, cells := 0, slots := 0, locals := 102 }) s m args below meth c H locs 0 0 (rf_QV below args s E A0 (cM E a I (rf_upL A [(7, z)]))) (F0 m 42 ls [.int s2, .int s1, .ref (a 8)]) := by
  have hx := hC.1
  have hb := hC.2.1
  intro v1 v2 v3 s1 s2 m_can hf H locs ls hP hS hl
  unfold f_X11_layCan_42 at hf
  obtain ⟨hi_42, hf⟩ := rf_gu hf
  refine sM_m_can hC hD hP hS hi_42 (f := m_can) rfl dX11_layCan_42 (rf_upL A [(7, upd m_can (Int32.toNatClampNeg s1) s2)]) (rf_put rfl) (fun H locs hP hS => ?_)
  refine lv_iinc (v := v3 + 1) (lv' := [(3, .int (v3 + 1)), (0, .ref (a 0)), (1, .int v1), (2, .int v2)]) hx hb dX11_layCan_43 hl (k := 3) rfl rfl (by decide) rfl (fun ls hl => ?_)
  refine lv_goto (tgt := 2) hx hb dX11_layCan_46 (by decide) ?_
  exact hk2 v1 v2 (v3 + 1) (upd m_can (Int32.toNatClampNeg s1) s2) hf _ _ _ hP hS (lv_sub hl [1, 2, 3, 0] rfl)
set_option maxHeartbeats 4000000 in
set_option maxRecDepth 100000 in
theorem w_X11_layCan_2 {l : Launch} {p : Program} {e : Env} {s : State} {m : MethodId} {args : Array Value} {below : List Frame} {meth : Method} {c : Code} {A0 : Nat → Prop} {E : rf_E} {a : Nat → Nat} {I : Nat → Int32} {A : Nat → Nat → Int32} {m_r : Nat → Int32} {m_st : Nat → Int32} {z : (Nat → Int32)} (hC : rf_C p E s m args meth c cX11_layCan 4 RX11 (none) A0) (hD : va_D A0 (cM E a I A)) (e_m_r : A 2 = m_r) (e_m_st : A 4 = m_st) :
    ∀ (n : Nat), ∀ (v1 : Int32) (v2 : Int32) (v3 : Int32) (m_can : Nat → Int32), f_X11_layCan_2 m_r m_st n v1 v2 v3 m_can = some z → ∀ (H : Heap) (locs : List Loc) (ls : Array Slot), va_P (rf_D E) vwCl (cM E a I (rf_upL A [(7, m_can)])) H → va_S A0 s.heap H locs → lv_has ls 4 [(0, .ref (a 0)), (1, .int v1), (2, .int v2), (3, .int v3)] → W p l e ({ frames := 4, cells := 0, slots := 0, locals := 102 }) s m args below meth c H locs 0 0 (rf_QV below args s E A0 (cM E a I (rf_upL A [(7, z)]))) (F0 m 2 ls []) := by
  have hx := hC.1
  have hb := hC.2.1
  intro n
  induction n with
  | zero =>
    intro v1 v2 v3 m_can hf
    have hf : (none : Option ((Nat → Int32))) = some z := hf
    cases hf
  | succ n ih =>
    intro v1 v2 v3 m_can hf H locs ls hP hS hl
    rw [f_X11_layCan_2] at hf
    refine lv_iload_n hx hb dX11_layCan_2 rfl (lv_at hl 3 rfl) ?_
    refine lv_bipush (v := 8) hx hb dX11_layCan_3 (by decide) ?_
    refine lv_icmp_ge (tgt := 49) hx hb dX11_layCan_5 (by decide) (fun c_5 => ?_) (fun c_5 => ?_)
    · have hf := rf_it c_5 hf
      obtain rfl := Option.some.inj hf
      exact rf_retv hC hP hS rfl dX11_layCan_49
    have hf := rf_ie c_5 hf
    refine lv_aload_n hx hb dX11_layCan_8 rfl (lv_at hl 0 rfl) ?_
    refine gM_m_can hC hP tw_1301 dX11_layCan_9 ?_
    refine lv_iload_n hx hb dX11_layCan_12 rfl (lv_at hl 3 rfl) ?_
    refine lv_iload_n hx hb dX11_layCan_13 rfl (lv_at hl 1 rfl) ?_
    refine lv_iload_n hx hb dX11_layCan_14 rfl (lv_at hl 3 rfl) ?_
    obtain ⟨z15, hz15, hf⟩ := rf_bd hf
    refine rf_si0 hC (c_X11_hasBit l E v1 v3 hz15) kS_X11_hasBit tw_1539 ⟨Nat.le_of_ble_eq_true rfl, Nat.le_of_ble_eq_true rfl⟩ rfl rfl hP hS rfl hl.1 (rest := [.int v3, .ref (a 8)]) rfl (Nat.le_of_ble_eq_true rfl) dX11_layCan_15 (fun H locs hP hS => ?_)
    refine lv_if_eq (tgt := 41) hx hb dX11_layCan_18 (by decide) (fun c_18 => ?_) (fun c_18 => ?_)
    · have hf := rf_it c_18 hf
      refine lv_iconst (v := 0) hx hb dX11_layCan_41 (by decide) ?_
      exact w_X11_layCan_42 hC hD e_m_r e_m_st ih v1 v2 v3 v3 0 m_can hf _ _ _ hP hS (lv_sub hl [0, 1, 2, 3] rfl)
    have hf := rf_ie c_18 hf
    refine lv_aload_n hx hb dX11_layCan_21 rfl (lv_at hl 0 rfl) ?_
    refine lv_iload_n hx hb dX11_layCan_22 rfl (lv_at hl 3 rfl) ?_
    refine lv_aload_n hx hb dX11_layCan_23 rfl (lv_at hl 0 rfl) ?_
    refine gM_m_st hC hP tw_1296 dX11_layCan_24 ?_
    refine lv_bipush (v := 8) hx hb dX11_layCan_27 (by decide) ?_
    refine lv_iload_n hx hb dX11_layCan_29 rfl (lv_at hl 3 rfl) ?_
    refine lv_iadd hx hb dX11_layCan_30 ?_
    obtain ⟨hi_31, hf⟩ := rf_gu hf
    refine lM_m_st hC hP hi_31 (f := m_st) e_m_st dX11_layCan_31 ?_
    refine lv_iload_n hx hb dX11_layCan_32 rfl (lv_at hl 2 rfl) ?_
    obtain ⟨z33, hz33, hf⟩ := rf_bd hf
    refine rf_vi (q0 := 0) (ci := 11) hC (c_X11_withBy l E a I (rf_upL A [(7, m_can)]) m_r m_st v3 (m_st (Int32.toNatClampNeg ((8 : Int32) + v3))) v2 e_m_r e_m_st hz33) kV_X11_withBy tw_1648 ⟨Nat.le_of_ble_eq_true rfl, Nat.le_of_ble_eq_true rfl⟩ rfl rfl rfl rfl rfl hP (rf_DM hD) hS rfl hl.1 (rest := [.int v3, .ref (a 8)]) rfl (Nat.le_of_ble_eq_true rfl) dX11_layCan_33 (fun H locs hP hS => ?_)
    refine lv_iload_n hx hb dX11_layCan_36 rfl (lv_at hl 1 rfl) ?_
    refine lv_iand hx hb dX11_layCan_37 ?_
    refine lv_goto (tgt := 42) hx hb dX11_layCan_38 (by decide) ?_
    exact w_X11_layCan_42 hC hD e_m_r e_m_st ih v1 v2 v3 v3 (z33 &&& v1) m_can hf _ _ _ hP hS (lv_sub hl [0, 1, 2, 3] rfl)
set_option maxHeartbeats 4000000 in
set_option maxRecDepth 100000 in
theorem c_X11_layCan (l : Launch) (E : rf_E) (a : Nat → Nat) (I : Nat → Int32) (A : Nat → Nat → Int32) (m_r : Nat → Int32) (m_st : Nat → Int32) (m_can : Nat → Int32) (v1 : Int32) (v2 : Int32) {z : (Nat → Int32)} (e_m_r : A 2 = m_r) (e_m_st : A 4 = m_st) (e_m_can : A 7 = m_can) (hf : f_X11_layCan m_r m_st m_can v1 v2 = some z) : rf_MV l yX11_layCan cX11_layCan 4 ({ frames := 4, cells := 0, slots := 0, locals := 102 }) E [.ref (a 0), .int v1, .int v2] (cM E a I A) (cM E a I (rf_upL A [(7, z)])) := by
  unfold f_X11_layCan at hf
  refine rf_ofV (by decide) (Nat.le_of_ble_eq_true rfl) ?_
  intro p e s m below meth c A0 ls hC hD hP hS hl
  have hC : rf_C p E s m _ meth c cX11_layCan 4 RX11 (none) A0 := hC
  have hx := hC.1
  have hb := hC.2.1
  have hl : lv_has ls 4 [(0, .ref (a 0)), (1, .int v1), (2, .int v2)] := hl
  have hP : va_P (rf_D E) vwCl (cM E a I (rf_upL A [(7, m_can)])) s.heap := by
    rw [rf_self (f := A) [(7, m_can)] (rf_fa1 e_m_can rf_fa0)]
    exact hP
  refine lv_iconst (v := 0) hx hb dX11_layCan_0 (by decide) ?_
  refine lv_istore_n (lv' := [(3, .int 0), (0, .ref (a 0)), (1, .int v1), (2, .int v2)]) hx hb dX11_layCan_1 rfl hl (by decide) rfl (fun ls hl => ?_)
  exact w_X11_layCan_2 hC hD e_m_r e_m_st rf_fu v1 v2 0 m_can hf _ _ _ hP hS (lv_sub hl [1, 2, 3, 0] rfl)
set_option maxHeartbeats 4000000 in
set_option maxRecDepth 100000 in
theorem w_X11_tryPairs_148 {l : Launch} {p : Program} {e : Env} {s : State} {m : MethodId} {args : Array Value} {below : List Frame} {meth : Method} {c : Code} {A0 : Nat → Prop} {E : rf_E} {a : Nat → Nat} {I : Nat → Int32} {A : Nat → Nat → Int32} {m_r : Nat → Int32} {m_can : Nat → Int32} {d : Nat} {z : Int32 × (Nat → Int32) × (Nat → Int32)} (hC : rf_C p E s m args meth c cX11_tryPairs 5 RX11 (none) A0) (hD : va_D A0 (cM E a I A)) (e_m_r : A 2 = m_r) (e_m_can : A 7 = m_can) {slf : Int32 → (Nat → Int32) → (Nat → Int32) → Int32 → Int32 → Int32 → Option (Int32 × (Nat → Int32) × (Nat → Int32))} (hslf : ∀ (a : Nat → Nat) (I : Nat → Int32) (A : Nat → Nat → Int32) (m_bestMany : Int32) (m_now : Nat → Int32) (m_best : Nat → Int32) (v1 : Int32) (v2 : Int32) (v3 : Int32) {z1 : Int32 × (Nat → Int32) × (Nat → Int32)} (e_m_r : A 2 = m_r) (e_m_can : A 7 = m_can) (e_m_bestMany : I 15 = m_bestMany) (e_m_now : A 8 = m_now) (e_m_best : A 9 = m_best), slf m_bestMany m_now m_best v1 v2 v3 = some z1 → rf_MV l yX11_tryPairs cX11_tryPairs 5 ({ frames := 6 + d, cells := 0, slots := 0, locals := 200 + d * 24 }) E [.ref (a 0), .int v1, .int v2, .int v3] (cM E a I A) (cM E a (rf_upL I [(15, z1.1)]) (rf_upL A [(8, z1.2.1), (9, z1.2.2)]))) {k63 : Int32 → Int32 → Int32 → Int32 → Int32 → (Nat → Int32) → (Nat → Int32) → Option (Int32 × (Nat → Int32) × (Nat → Int32))} (hk63 : ∀ (v1 : Int32) (v2 : Int32) (v3 : Int32) (v4 : Int32) (m_bestMany : Int32) (m_now : Nat → Int32) (m_best : Nat → Int32), k63 v1 v2 v3 v4 m_bestMany m_now m_best = some z → ∀ (H : Heap) (locs : List Loc) (ls : Array Slot), va_P (rf_D E) vwCl (cM E a (rf_upL I [(15, m_bestMany)]) (rf_upL A [(8, m_now), (9, m_best)])) H → va_S A0 s.heap H locs → lv_has ls 5 [(0, .ref (a 0)), (1, .int v1), (2, .int v2), (3, .int v3), (4, .int v4)] → W p l e ({ frames := 6 + (d + 1), cells := 0, slots := 0, locals := 200 + (d + 1) * 24 }) s m args below meth c H locs 0 0 (rf_QV below args s E A0 (cM E a (rf_upL I [(15, z.1)]) (rf_upL A [(8, z.2.1), (9, z.2.2)]))) (F0 m 63 ls [])) :
    ∀ (v1 : Int32) (v2 : Int32) (v3 : Int32) (v4 : Int32) (m_bestMany : Int32) (m_now : Nat → Int32) (m_best : Nat → Int32), f_X11_tryPairs_148 k63 slf m_r m_can v1 v2 v3 v4 m_bestMany m_now m_best = some z → ∀ (H : Heap) (locs : List Loc) (ls : Array Slot), va_P (rf_D E) vwCl (cM E a (rf_upL I [(15, m_bestMany)]) (rf_upL A [(8, m_now), (9, m_best)])) H → va_S A0 s.heap H locs → lv_has ls 5 [(0, .ref (a 0)), (1, .int v1), (2, .int v2), (3, .int v3), (4, .int v4)] → W p l e ({ frames := 6 + (d + 1), cells := 0, slots := 0, locals := 200 + (d + 1) * 24 }) s m args below meth c H locs 0 0 (rf_QV below args s E A0 (cM E a (rf_upL I [(15, z.1)]) (rf_upL A [(8, z.2.1), (9, z.2.2)]))) (F0 m 148 ls []) := by
  have hx := hC.1
  have hb := hC.2.1
  intro v1 v2 v3 v4 m_bestMany m_now m_best hf H locs ls hP hS hl
  unfold f_X11_tryPairs_148 at hf
  refine lv_iinc (v := v4 + 1) (lv' := [(4, .int (v4 + 1)), (0, .ref (a 0)), (1, .int v1), (2, .int v2), (3, .int v3)]) hx hb dX11_tryPairs_148 hl (k := 4) rfl rfl (by decide) rfl (fun ls hl => ?_)
  refine lv_goto (tgt := 63) hx hb dX11_tryPairs_151 (by decide) ?_
  exact hk63 v1 v2 v3 (v4 + 1) m_bestMany m_now m_best hf _ _ _ hP hS (lv_sub hl [1, 2, 3, 4, 0] rfl)
set_option maxHeartbeats 4000000 in
set_option maxRecDepth 100000 in
theorem w_X11_tryPairs_63 {l : Launch} {p : Program} {e : Env} {s : State} {m : MethodId} {args : Array Value} {below : List Frame} {meth : Method} {c : Code} {A0 : Nat → Prop} {E : rf_E} {a : Nat → Nat} {I : Nat → Int32} {A : Nat → Nat → Int32} {m_r : Nat → Int32} {m_can : Nat → Int32} {d : Nat} {z : Int32 × (Nat → Int32) × (Nat → Int32)} (hC : rf_C p E s m args meth c cX11_tryPairs 5 RX11 (none) A0) (hD : va_D A0 (cM E a I A)) (e_m_r : A 2 = m_r) (e_m_can : A 7 = m_can) {slf : Int32 → (Nat → Int32) → (Nat → Int32) → Int32 → Int32 → Int32 → Option (Int32 × (Nat → Int32) × (Nat → Int32))} (hslf : ∀ (a : Nat → Nat) (I : Nat → Int32) (A : Nat → Nat → Int32) (m_bestMany : Int32) (m_now : Nat → Int32) (m_best : Nat → Int32) (v1 : Int32) (v2 : Int32) (v3 : Int32) {z1 : Int32 × (Nat → Int32) × (Nat → Int32)} (e_m_r : A 2 = m_r) (e_m_can : A 7 = m_can) (e_m_bestMany : I 15 = m_bestMany) (e_m_now : A 8 = m_now) (e_m_best : A 9 = m_best), slf m_bestMany m_now m_best v1 v2 v3 = some z1 → rf_MV l yX11_tryPairs cX11_tryPairs 5 ({ frames := 6 + d, cells := 0, slots := 0, locals := 200 + d * 24 }) E [.ref (a 0), .int v1, .int v2, .int v3] (cM E a I A) (cM E a (rf_upL I [(15, z1.1)]) (rf_upL A [(8, z1.2.1), (9, z1.2.2)]))) :
    ∀ (n : Nat), ∀ (v1 : Int32) (v2 : Int32) (v3 : Int32) (v4 : Int32) (m_bestMany : Int32) (m_now : Nat → Int32) (m_best : Nat → Int32), f_X11_tryPairs_63 slf m_r m_can n v1 v2 v3 v4 m_bestMany m_now m_best = some z → ∀ (H : Heap) (locs : List Loc) (ls : Array Slot), va_P (rf_D E) vwCl (cM E a (rf_upL I [(15, m_bestMany)]) (rf_upL A [(8, m_now), (9, m_best)])) H → va_S A0 s.heap H locs → lv_has ls 5 [(0, .ref (a 0)), (1, .int v1), (2, .int v2), (3, .int v3), (4, .int v4)] → W p l e ({ frames := 6 + (d + 1), cells := 0, slots := 0, locals := 200 + (d + 1) * 24 }) s m args below meth c H locs 0 0 (rf_QV below args s E A0 (cM E a (rf_upL I [(15, z.1)]) (rf_upL A [(8, z.2.1), (9, z.2.2)]))) (F0 m 63 ls []) := by
  have hx := hC.1
  have hb := hC.2.1
  intro n
  induction n with
  | zero =>
    intro v1 v2 v3 v4 m_bestMany m_now m_best hf
    have hf : (none : Option (Int32 × (Nat → Int32) × (Nat → Int32))) = some z := hf
    cases hf
  | succ n ih =>
    intro v1 v2 v3 v4 m_bestMany m_now m_best hf H locs ls hP hS hl
    rw [f_X11_tryPairs_63] at hf
    refine lv_iload hx hb dX11_tryPairs_63 (lv_at hl 4 rfl) ?_
    refine lv_aload_n hx hb dX11_tryPairs_65 rfl (lv_at hl 0 rfl) ?_
    refine gM_m_r hC hP tw_1294 dX11_tryPairs_66 ?_
    refine lv_iconst (v := 3) hx hb dX11_tryPairs_69 (by decide) ?_
    refine lM_m_r hC hP (by decide) (f := m_r) e_m_r dX11_tryPairs_70 ?_
    refine lv_icmp_ge (tgt := 154) hx hb dX11_tryPairs_71 (by decide) (fun c_71 => ?_) (fun c_71 => ?_)
    · have hf := rf_it c_71 hf
      refine lv_aload_n hx hb dX11_tryPairs_154 rfl (lv_at hl 0 rfl) ?_
      refine lv_iload_n hx hb dX11_tryPairs_155 rfl (lv_at hl 1 rfl) ?_
      refine lv_iconst (v := 1) hx hb dX11_tryPairs_156 (by decide) ?_
      refine lv_iadd hx hb dX11_tryPairs_157 ?_
      refine lv_iload_n hx hb dX11_tryPairs_158 rfl (lv_at hl 2 rfl) ?_
      refine lv_iload_n hx hb dX11_tryPairs_159 rfl (lv_at hl 3 rfl) ?_
      obtain ⟨z160, hz160, hf⟩ := rf_bd hf
      refine rf_vv (q0 := 0) (ci := 11) hC (hslf a (rf_upL I [(15, m_bestMany)]) (rf_upL A [(8, m_now), (9, m_best)]) m_bestMany m_now m_best (v1 + 1) v2 v3 e_m_r e_m_can rfl rfl rfl hz160) kV_X11_tryPairs tw_1715 ⟨by show _ ≤ 6 + (d + 1); (try simp only []); omega, by show _ ≤ 200 + (d + 1) * 24; (try simp only []); omega⟩ rfl rfl rfl rfl rfl hP (rf_DM hD) hS rfl hl.1 (rest := []) rfl (Nat.le_of_ble_eq_true rfl) dX11_tryPairs_160 (fun H locs hP hS => ?_)
      rw [rf_cat (f := I) (l := [(15, m_bestMany)]) (lc := [(15, z160.1)]) (l' := [(15, z160.1)]) rfl] at hP
      rw [rf_cat (f := A) (l := [(8, m_now), (9, m_best)]) (lc := [(8, z160.2.1), (9, z160.2.2)]) (l' := [(8, z160.2.1), (9, z160.2.2)]) rfl] at hP
      obtain rfl := Option.some.inj hf
      exact rf_retv hC hP hS rfl dX11_tryPairs_163
    have hf := rf_ie c_71 hf
    refine lv_iload_n hx hb dX11_tryPairs_74 rfl (lv_at hl 2 rfl) ?_
    refine lv_aload_n hx hb dX11_tryPairs_75 rfl (lv_at hl 0 rfl) ?_
    refine gM_m_can hC hP tw_1301 dX11_tryPairs_76 ?_
    refine lv_iload_n hx hb dX11_tryPairs_79 rfl (lv_at hl 1 rfl) ?_
    obtain ⟨hi_80, hf⟩ := rf_gu hf
    refine lM_m_can hC hP hi_80 (f := m_can) e_m_can dX11_tryPairs_80 ?_
    refine lv_iand hx hb dX11_tryPairs_81 ?_
    refine lv_iload hx hb dX11_tryPairs_82 (lv_at hl 4 rfl) ?_
    obtain ⟨z84, hz84, hf⟩ := rf_bd hf
    refine rf_si0 hC (c_X11_hasBit l E (v2 &&& (m_can (Int32.toNatClampNeg v1))) v4 hz84) kS_X11_hasBit tw_1539 ⟨by show _ ≤ 6 + (d + 1); (try simp only []); omega, by show _ ≤ 200 + (d + 1) * 24; (try simp only []); omega⟩ rfl rfl hP hS rfl hl.1 (rest := []) rfl (Nat.le_of_ble_eq_true rfl) dX11_tryPairs_84 (fun H locs hP hS => ?_)
    refine lv_if_ne (tgt := 93) hx hb dX11_tryPairs_87 (by decide) (fun c_87 => ?_) (fun c_87 => ?_)
    · have hf := rf_ie c_87 hf
      refine lv_aload_n hx hb dX11_tryPairs_93 rfl (lv_at hl 0 rfl) ?_
      refine gM_m_now hC hP tw_1302 dX11_tryPairs_94 ?_
      refine lv_iload_n hx hb dX11_tryPairs_97 rfl (lv_at hl 1 rfl) ?_
      refine lv_iload hx hb dX11_tryPairs_98 (lv_at hl 4 rfl) ?_
      obtain ⟨hi_100, hf⟩ := rf_gu hf
      refine sM_m_now hC hD hP hS hi_100 (f := m_now) rfl dX11_tryPairs_100 (rf_upL A [(8, upd m_now (Int32.toNatClampNeg v1) v4), (9, m_best)]) (rf_put rfl) (fun H locs hP hS => ?_)
      refine lv_aload_n hx hb dX11_tryPairs_101 rfl (lv_at hl 0 rfl) ?_
      refine gM_m_now hC hP tw_1302 dX11_tryPairs_102 ?_
      refine lv_iload hx hb dX11_tryPairs_105 (lv_at hl 4 rfl) ?_
      refine lv_iload_n hx hb dX11_tryPairs_107 rfl (lv_at hl 1 rfl) ?_
      obtain ⟨hi_108, hf⟩ := rf_gu hf
      refine sM_m_now hC hD hP hS hi_108 (f := upd m_now (Int32.toNatClampNeg v1) v4) rfl dX11_tryPairs_108 (rf_upL A [(8, upd (upd m_now (Int32.toNatClampNeg v1) v4) (Int32.toNatClampNeg v4) v1), (9, m_best)]) (rf_put rfl) (fun H locs hP hS => ?_)
      refine lv_aload_n hx hb dX11_tryPairs_109 rfl (lv_at hl 0 rfl) ?_
      refine lv_iload_n hx hb dX11_tryPairs_110 rfl (lv_at hl 1 rfl) ?_
      refine lv_iconst (v := 1) hx hb dX11_tryPairs_111 (by decide) ?_
      refine lv_iadd hx hb dX11_tryPairs_112 ?_
      refine lv_iload_n hx hb dX11_tryPairs_113 rfl (lv_at hl 2 rfl) ?_
      refine lv_iconst (v := 1) hx hb dX11_tryPairs_114 (by decide) ?_
      refine lv_iload_n hx hb dX11_tryPairs_115 rfl (lv_at hl 1 rfl) ?_
      refine lv_ishl hx hb dX11_tryPairs_116 ?_
      refine lv_iconst (v := 1) hx hb dX11_tryPairs_117 (by decide) ?_
      refine lv_iload hx hb dX11_tryPairs_118 (lv_at hl 4 rfl) ?_
      refine lv_ishl hx hb dX11_tryPairs_120 ?_
      refine lv_ior hx hb dX11_tryPairs_121 ?_
      refine lv_iconst (v := (-1)) hx hb dX11_tryPairs_122 (by decide) ?_
      refine lv_ixor hx hb dX11_tryPairs_123 ?_
      refine lv_iand hx hb dX11_tryPairs_124 ?_
      refine lv_iload_n hx hb dX11_tryPairs_125 rfl (lv_at hl 3 rfl) ?_
      refine lv_iconst (v := 1) hx hb dX11_tryPairs_126 (by decide) ?_
      refine lv_iadd hx hb dX11_tryPairs_127 ?_
      obtain ⟨z128, hz128, hf⟩ := rf_bd hf
      refine rf_vv (q0 := 0) (ci := 11) hC (hslf a (rf_upL I [(15, m_bestMany)]) (rf_upL A [(8, upd (upd m_now (Int32.toNatClampNeg v1) v4) (Int32.toNatClampNeg v4) v1), (9, m_best)]) m_bestMany (upd (upd m_now (Int32.toNatClampNeg v1) v4) (Int32.toNatClampNeg v4) v1) m_best (v1 + 1) (v2 &&& ((((1 : Int32) <<< (v1 &&& 31)) ||| ((1 : Int32) <<< (v4 &&& 31))) ^^^ (-1))) (v3 + 1) e_m_r e_m_can rfl rfl rfl hz128) kV_X11_tryPairs tw_1715 ⟨by show _ ≤ 6 + (d + 1); (try simp only []); omega, by show _ ≤ 200 + (d + 1) * 24; (try simp only []); omega⟩ rfl rfl rfl rfl rfl hP (rf_DM hD) hS rfl hl.1 (rest := []) rfl (Nat.le_of_ble_eq_true rfl) dX11_tryPairs_128 (fun H locs hP hS => ?_)
      rw [rf_cat (f := I) (l := [(15, m_bestMany)]) (lc := [(15, z128.1)]) (l' := [(15, z128.1)]) rfl] at hP
      rw [rf_cat (f := A) (l := [(8, upd (upd m_now (Int32.toNatClampNeg v1) v4) (Int32.toNatClampNeg v4) v1), (9, m_best)]) (lc := [(8, z128.2.1), (9, z128.2.2)]) (l' := [(8, z128.2.1), (9, z128.2.2)]) rfl] at hP
      refine lv_aload_n hx hb dX11_tryPairs_131 rfl (lv_at hl 0 rfl) ?_
      refine gM_m_now hC hP tw_1302 dX11_tryPairs_132 ?_
      refine lv_iload_n hx hb dX11_tryPairs_135 rfl (lv_at hl 1 rfl) ?_
      refine lv_bipush (v := (-2)) hx hb dX11_tryPairs_136 (by decide) ?_
      obtain ⟨hi_138, hf⟩ := rf_gu hf
      refine sM_m_now hC hD hP hS hi_138 (f := z128.2.1) rfl dX11_tryPairs_138 (rf_upL A [(8, upd z128.2.1 (Int32.toNatClampNeg v1) (-2)), (9, z128.2.2)]) (rf_put rfl) (fun H locs hP hS => ?_)
      refine lv_aload_n hx hb dX11_tryPairs_139 rfl (lv_at hl 0 rfl) ?_
      refine gM_m_now hC hP tw_1302 dX11_tryPairs_140 ?_
      refine lv_iload hx hb dX11_tryPairs_143 (lv_at hl 4 rfl) ?_
      refine lv_bipush (v := (-2)) hx hb dX11_tryPairs_145 (by decide) ?_
      obtain ⟨hi_147, hf⟩ := rf_gu hf
      refine sM_m_now hC hD hP hS hi_147 (f := upd z128.2.1 (Int32.toNatClampNeg v1) (-2)) rfl dX11_tryPairs_147 (rf_upL A [(8, upd (upd z128.2.1 (Int32.toNatClampNeg v1) (-2)) (Int32.toNatClampNeg v4) (-2)), (9, z128.2.2)]) (rf_put rfl) (fun H locs hP hS => ?_)
      exact w_X11_tryPairs_148 hC hD e_m_r e_m_can hslf ih v1 v2 v3 v4 z128.1 (upd (upd z128.2.1 (Int32.toNatClampNeg v1) (-2)) (Int32.toNatClampNeg v4) (-2)) z128.2.2 hf _ _ _ hP hS (lv_sub hl [0, 1, 2, 3, 4] rfl)
    have hf := rf_it c_87 hf
    refine lv_goto (tgt := 148) hx hb dX11_tryPairs_90 (by decide) ?_
    exact w_X11_tryPairs_148 hC hD e_m_r e_m_can hslf ih v1 v2 v3 v4 m_bestMany m_now m_best hf _ _ _ hP hS (lv_sub hl [0, 1, 2, 3, 4] rfl)
set_option maxHeartbeats 4000000 in
set_option maxRecDepth 100000 in
theorem c_X11_tryPairs (l : Launch) (E : rf_E) : ∀ (d : Nat) (a : Nat → Nat) (I : Nat → Int32) (A : Nat → Nat → Int32) (m_r : Nat → Int32) (m_can : Nat → Int32) (m_bestMany : Int32) (m_now : Nat → Int32) (m_best : Nat → Int32) (v1 : Int32) (v2 : Int32) (v3 : Int32) {z : Int32 × (Nat → Int32) × (Nat → Int32)} (e_m_r : A 2 = m_r) (e_m_can : A 7 = m_can) (e_m_bestMany : I 15 = m_bestMany) (e_m_now : A 8 = m_now) (e_m_best : A 9 = m_best) (hf : f_X11_tryPairs m_r m_can d m_bestMany m_now m_best v1 v2 v3 = some z), rf_MV l yX11_tryPairs cX11_tryPairs 5 ({ frames := 6 + d, cells := 0, slots := 0, locals := 200 + d * 24 }) E [.ref (a 0), .int v1, .int v2, .int v3] (cM E a I A) (cM E a (rf_upL I [(15, z.1)]) (rf_upL A [(8, z.2.1), (9, z.2.2)])) := by
  intro d
  induction d with
  | zero =>
    intro a I A m_r m_can m_bestMany m_now m_best v1 v2 v3 z e_m_r e_m_can e_m_bestMany e_m_now e_m_best hf
    have hf : (none : Option (Int32 × (Nat → Int32) × (Nat → Int32))) = some z := hf
    cases hf
  | succ d ih =>
    intro a I A m_r m_can m_bestMany m_now m_best v1 v2 v3 z e_m_r e_m_can e_m_bestMany e_m_now e_m_best hf
    rw [f_X11_tryPairs] at hf
    have hslf : ∀ (a : Nat → Nat) (I : Nat → Int32) (A : Nat → Nat → Int32) (m_bestMany : Int32) (m_now : Nat → Int32) (m_best : Nat → Int32) (v1 : Int32) (v2 : Int32) (v3 : Int32) {z1 : Int32 × (Nat → Int32) × (Nat → Int32)} (e_m_r : A 2 = m_r) (e_m_can : A 7 = m_can) (e_m_bestMany : I 15 = m_bestMany) (e_m_now : A 8 = m_now) (e_m_best : A 9 = m_best), (f_X11_tryPairs m_r m_can d) m_bestMany m_now m_best v1 v2 v3 = some z1 → rf_MV l yX11_tryPairs cX11_tryPairs 5 ({ frames := 6 + d, cells := 0, slots := 0, locals := 200 + d * 24 }) E [.ref (a 0), .int v1, .int v2, .int v3] (cM E a I A) (cM E a (rf_upL I [(15, z1.1)]) (rf_upL A [(8, z1.2.1), (9, z1.2.2)])) := fun a I A m_bestMany m_now m_best v1 v2 v3 _ e_m_r e_m_can e_m_bestMany e_m_now e_m_best h => ih a I A m_r m_can m_bestMany m_now m_best v1 v2 v3 e_m_r e_m_can e_m_bestMany e_m_now e_m_best h
    refine rf_ofV (by decide) (Nat.le_of_ble_eq_true rfl) ?_
    intro p e s m below meth c A0 ls hC hD hP hS hl
    have hC : rf_C p E s m _ meth c cX11_tryPairs 5 RX11 (none) A0 := hC
    have hx := hC.1
    have hb := hC.2.1
    have hl : lv_has ls 5 [(0, .ref (a 0)), (1, .int v1), (2, .int v2), (3, .int v3)] := hl
    have hP : va_P (rf_D E) vwCl (cM E a (rf_upL I [(15, m_bestMany)]) (rf_upL A [(8, m_now), (9, m_best)])) s.heap := by
      rw [rf_self (f := I) [(15, m_bestMany)] (rf_fa1 e_m_bestMany rf_fa0)]
      rw [rf_self (f := A) [(8, m_now), (9, m_best)] (rf_fa1 e_m_now (rf_fa1 e_m_best rf_fa0))]
      exact hP
    refine lv_iload_n hx hb dX11_tryPairs_0 rfl (lv_at hl 1 rfl) ?_
    refine lv_aload_n hx hb dX11_tryPairs_1 rfl (lv_at hl 0 rfl) ?_
    refine gM_m_r hC hP tw_1294 dX11_tryPairs_2 ?_
    refine lv_iconst (v := 3) hx hb dX11_tryPairs_5 (by decide) ?_
    refine lM_m_r hC hP (by decide) (f := m_r) e_m_r dX11_tryPairs_6 ?_
    refine lv_icmp_ne (tgt := 40) hx hb dX11_tryPairs_7 (by decide) (fun c_7 => ?_) (fun c_7 => ?_)
    · have hf := rf_ie c_7 hf
      refine lv_iload_n hx hb dX11_tryPairs_40 rfl (lv_at hl 2 rfl) ?_
      refine lv_iload_n hx hb dX11_tryPairs_41 rfl (lv_at hl 1 rfl) ?_
      obtain ⟨z42, hz42, hf⟩ := rf_bd hf
      refine rf_si0 hC (c_X11_hasBit l E v2 v1 hz42) kS_X11_hasBit tw_1539 ⟨by show _ ≤ 6 + (d + 1); (try simp only []); omega, by show _ ≤ 200 + (d + 1) * 24; (try simp only []); omega⟩ rfl rfl hP hS rfl hl.1 (rest := []) rfl (Nat.le_of_ble_eq_true rfl) dX11_tryPairs_42 (fun H locs hP hS => ?_)
      refine lv_if_ne (tgt := 58) hx hb dX11_tryPairs_45 (by decide) (fun c_45 => ?_) (fun c_45 => ?_)
      · have hf := rf_ie c_45 hf
        refine lv_iload_n hx hb dX11_tryPairs_58 rfl (lv_at hl 1 rfl) ?_
        refine lv_iconst (v := 1) hx hb dX11_tryPairs_59 (by decide) ?_
        refine lv_iadd hx hb dX11_tryPairs_60 ?_
        refine lv_istore (lv' := [(4, .int (v1 + 1)), (0, .ref (a 0)), (1, .int v1), (2, .int v2), (3, .int v3)]) hx hb dX11_tryPairs_61 hl (by decide) rfl (fun ls hl => ?_)
        exact w_X11_tryPairs_63 hC hD e_m_r e_m_can hslf rf_fu v1 v2 v3 (v1 + 1) m_bestMany m_now m_best hf _ _ _ hP hS (lv_sub hl [1, 2, 3, 4, 0] rfl)
      have hf := rf_it c_45 hf
      refine lv_aload_n hx hb dX11_tryPairs_48 rfl (lv_at hl 0 rfl) ?_
      refine lv_iload_n hx hb dX11_tryPairs_49 rfl (lv_at hl 1 rfl) ?_
      refine lv_iconst (v := 1) hx hb dX11_tryPairs_50 (by decide) ?_
      refine lv_iadd hx hb dX11_tryPairs_51 ?_
      refine lv_iload_n hx hb dX11_tryPairs_52 rfl (lv_at hl 2 rfl) ?_
      refine lv_iload_n hx hb dX11_tryPairs_53 rfl (lv_at hl 3 rfl) ?_
      obtain ⟨z54, hz54, hf⟩ := rf_bd hf
      refine rf_vv (q0 := 0) (ci := 11) hC (hslf a (rf_upL I [(15, m_bestMany)]) (rf_upL A [(8, m_now), (9, m_best)]) m_bestMany m_now m_best (v1 + 1) v2 v3 e_m_r e_m_can rfl rfl rfl hz54) kV_X11_tryPairs tw_1715 ⟨by show _ ≤ 6 + (d + 1); (try simp only []); omega, by show _ ≤ 200 + (d + 1) * 24; (try simp only []); omega⟩ rfl rfl rfl rfl rfl hP (rf_DM hD) hS rfl hl.1 (rest := []) rfl (Nat.le_of_ble_eq_true rfl) dX11_tryPairs_54 (fun H locs hP hS => ?_)
      rw [rf_cat (f := I) (l := [(15, m_bestMany)]) (lc := [(15, z54.1)]) (l' := [(15, z54.1)]) rfl] at hP
      rw [rf_cat (f := A) (l := [(8, m_now), (9, m_best)]) (lc := [(8, z54.2.1), (9, z54.2.2)]) (l' := [(8, z54.2.1), (9, z54.2.2)]) rfl] at hP
      obtain rfl := Option.some.inj hf
      exact rf_retv hC hP hS rfl dX11_tryPairs_57
    have hf := rf_it c_7 hf
    refine lv_iload_n hx hb dX11_tryPairs_10 rfl (lv_at hl 3 rfl) ?_
    refine lv_aload_n hx hb dX11_tryPairs_11 rfl (lv_at hl 0 rfl) ?_
    refine gM_m_bestMany hC hP tw_1304 (v := m_bestMany) rfl dX11_tryPairs_12 ?_
    refine lv_icmp_gt (tgt := 19) hx hb dX11_tryPairs_15 (by decide) (fun c_15 => ?_) (fun c_15 => ?_)
    · have hf := rf_it c_15 hf
      refine lv_aload_n hx hb dX11_tryPairs_19 rfl (lv_at hl 0 rfl) ?_
      refine lv_iload_n hx hb dX11_tryPairs_20 rfl (lv_at hl 3 rfl) ?_
      refine pM_m_bestMany hC hD hP hS tw_1304 dX11_tryPairs_21 (rf_upL I [(15, v3)]) (rf_put rfl) (fun H locs hP hS => ?_)
      refine lv_aload_n hx hb dX11_tryPairs_24 rfl (lv_at hl 0 rfl) ?_
      refine gM_m_now hC hP tw_1302 dX11_tryPairs_25 ?_
      refine lv_iconst (v := 0) hx hb dX11_tryPairs_28 (by decide) ?_
      refine lv_aload_n hx hb dX11_tryPairs_29 rfl (lv_at hl 0 rfl) ?_
      refine gM_m_best hC hP tw_1303 dX11_tryPairs_30 ?_
      refine lv_iconst (v := 0) hx hb dX11_tryPairs_33 (by decide) ?_
      refine lv_bipush (v := 8) hx hb dX11_tryPairs_34 (by decide) ?_
      obtain ⟨hi_36, hf⟩ := rf_gu hf
      refine zM_m_now_m_best hC hD hP hS hi_36 (f := m_now) rfl (g := m_best) rfl tw_1566 hl.1 (Nat.le_of_ble_eq_true rfl) ⟨by show _ ≤ 6 + (d + 1); (try simp only []); omega, by show _ ≤ 200 + (d + 1) * 24; (try simp only []); omega⟩ dX11_tryPairs_36 (rf_upL A [(8, m_now), (9, va_cpy m_now m_best (Int32.toNatClampNeg 0) (Int32.toNatClampNeg 0) (Int32.toNatClampNeg 8))]) (rf_put rfl) (fun H locs hP hS => ?_)
      obtain rfl := Option.some.inj hf
      exact rf_retv hC hP hS rfl dX11_tryPairs_39
    have hf := rf_ie c_15 hf
    obtain rfl := Option.some.inj hf
    exact rf_retv hC hP hS rfl dX11_tryPairs_18
set_option maxHeartbeats 4000000 in
set_option maxRecDepth 100000 in
theorem w_X11_seekPairs_8 {l : Launch} {p : Program} {e : Env} {s : State} {m : MethodId} {args : Array Value} {below : List Frame} {meth : Method} {c : Code} {A0 : Nat → Prop} {E : rf_E} {a : Nat → Nat} {I : Nat → Int32} {A : Nat → Nat → Int32} {m_r : Nat → Int32} {m_st : Nat → Int32} {z : Int32 × Int32 × (Nat → Int32) × (Nat → Int32) × (Nat → Int32)} (hC : rf_C p E s m args meth c cX11_seekPairs 4 RX11 (some .int) A0) (hD : va_D A0 (cM E a I A)) (e_m_r : A 2 = m_r) (e_m_st : A 4 = m_st) :
    ∀ (n : Nat), ∀ (v1 : Int32) (v3 : Int32) (m_bestMany : Int32) (m_can : Nat → Int32) (m_now : Nat → Int32) (m_best : Nat → Int32), f_X11_seekPairs_8 m_r m_st n v1 v3 m_bestMany m_can m_now m_best = some z → ∀ (H : Heap) (locs : List Loc) (ls : Array Slot), va_P (rf_D E) vwCl (cM E a (rf_upL I [(15, m_bestMany)]) (rf_upL A [(7, m_can), (8, m_now), (9, m_best)])) H → va_S A0 s.heap H locs → lv_has ls 4 [(0, .ref (a 0)), (1, .int v1), (3, .int v3)] → W p l e ({ frames := 19, cells := 0, slots := 0, locals := 512 }) s m args below meth c H locs 0 0 (rf_QI below args s E A0 z.1 (cM E a (rf_upL I [(15, z.2.1)]) (rf_upL A [(7, z.2.2.1), (8, z.2.2.2.1), (9, z.2.2.2.2)]))) (F0 m 8 ls []) := by
  have hx := hC.1
  have hb := hC.2.1
  intro n
  induction n with
  | zero =>
    intro v1 v3 m_bestMany m_can m_now m_best hf
    have hf : (none : Option (Int32 × Int32 × (Nat → Int32) × (Nat → Int32) × (Nat → Int32))) = some z := hf
    cases hf
  | succ n ih =>
    intro v1 v3 m_bestMany m_can m_now m_best hf H locs ls hP hS hl
    rw [f_X11_seekPairs_8] at hf
    refine lv_iload_n hx hb dX11_seekPairs_8 rfl (lv_at hl 2 rfl) ?_
    refine lv_bipush (v := 8) hx hb dX11_seekPairs_9 (by decide) ?_
    refine lv_icmp_ge (tgt := 28) hx hb dX11_seekPairs_11 (by decide) (fun c_11 => ?_) (fun c_11 => ?_)
    · have hf := rf_it c_11 hf
      refine lv_aload_n hx hb dX11_seekPairs_28 rfl (lv_at hl 0 rfl) ?_
      refine lv_iconst (v := (-1)) hx hb dX11_seekPairs_29 (by decide) ?_
      refine pM_m_bestMany hC hD hP hS tw_1304 dX11_seekPairs_30 (rf_upL I [(15, (-1))]) (rf_put rfl) (fun H locs hP hS => ?_)
      refine lv_aload_n hx hb dX11_seekPairs_33 rfl (lv_at hl 0 rfl) ?_
      refine lv_iconst (v := 0) hx hb dX11_seekPairs_34 (by decide) ?_
      refine lv_iload_n hx hb dX11_seekPairs_35 rfl (lv_at hl 1 rfl) ?_
      refine lv_iconst (v := 0) hx hb dX11_seekPairs_36 (by decide) ?_
      obtain ⟨z37, hz37, hf⟩ := rf_bd hf
      refine rf_vv (q0 := 0) (ci := 11) hC (c_X11_tryPairs l E 12 a (rf_upL I [(15, (-1))]) (rf_upL A [(7, m_can), (8, m_now), (9, m_best)]) m_r m_can (-1) m_now m_best 0 v1 0 e_m_r rfl rfl rfl rfl hz37) kV_X11_tryPairs tw_1715 ⟨Nat.le_of_ble_eq_true rfl, Nat.le_of_ble_eq_true rfl⟩ rfl rfl rfl rfl rfl hP (rf_DM hD) hS rfl hl.1 (rest := []) rfl (Nat.le_of_ble_eq_true rfl) dX11_seekPairs_37 (fun H locs hP hS => ?_)
      rw [rf_cat (f := I) (l := [(15, (-1))]) (lc := [(15, z37.1)]) (l' := [(15, z37.1)]) rfl] at hP
      rw [rf_cat (f := A) (l := [(7, m_can), (8, m_now), (9, m_best)]) (lc := [(8, z37.2.1), (9, z37.2.2)]) (l' := [(7, m_can), (8, z37.2.1), (9, z37.2.2)]) rfl] at hP
      refine lv_aload_n hx hb dX11_seekPairs_40 rfl (lv_at hl 0 rfl) ?_
      refine gM_m_bestMany hC hP tw_1304 (v := z37.1) rfl dX11_seekPairs_41 ?_
      obtain rfl := Option.some.inj hf
      exact rf_reti hC hP hS rfl rfl dX11_seekPairs_44
    have hf := rf_ie c_11 hf
    refine lv_aload_n hx hb dX11_seekPairs_14 rfl (lv_at hl 0 rfl) ?_
    refine gM_m_now hC hP tw_1302 dX11_seekPairs_15 ?_
    refine lv_iload_n hx hb dX11_seekPairs_18 rfl (lv_at hl 2 rfl) ?_
    refine lv_bipush (v := (-2)) hx hb dX11_seekPairs_19 (by decide) ?_
    obtain ⟨hi_21, hf⟩ := rf_gu hf
    refine sM_m_now hC hD hP hS hi_21 (f := m_now) rfl dX11_seekPairs_21 (rf_upL A [(7, m_can), (8, upd m_now (Int32.toNatClampNeg v3) (-2)), (9, m_best)]) (rf_put rfl) (fun H locs hP hS => ?_)
    refine lv_iinc (v := v3 + 1) (lv' := [(3, .int (v3 + 1)), (0, .ref (a 0)), (1, .int v1)]) hx hb dX11_seekPairs_22 hl (k := 2) rfl rfl (by decide) rfl (fun ls hl => ?_)
    refine lv_goto (tgt := 8) hx hb dX11_seekPairs_25 (by decide) ?_
    exact ih v1 (v3 + 1) m_bestMany m_can (upd m_now (Int32.toNatClampNeg v3) (-2)) m_best hf _ _ _ hP hS (lv_sub hl [1, 2, 0] rfl)
set_option maxHeartbeats 4000000 in
set_option maxRecDepth 100000 in
theorem c_X11_seekPairs (l : Launch) (E : rf_E) (a : Nat → Nat) (I : Nat → Int32) (A : Nat → Nat → Int32) (m_r : Nat → Int32) (m_st : Nat → Int32) (m_bestMany : Int32) (m_can : Nat → Int32) (m_now : Nat → Int32) (m_best : Nat → Int32) (v1 : Int32) (v2 : Int32) {z : Int32 × Int32 × (Nat → Int32) × (Nat → Int32) × (Nat → Int32)} (e_m_r : A 2 = m_r) (e_m_st : A 4 = m_st) (e_m_bestMany : I 15 = m_bestMany) (e_m_can : A 7 = m_can) (e_m_now : A 8 = m_now) (e_m_best : A 9 = m_best) (hf : f_X11_seekPairs m_r m_st m_bestMany m_can m_now m_best v1 v2 = some z) : rf_MI l yX11_seekPairs cX11_seekPairs 4 (some .int) ({ frames := 19, cells := 0, slots := 0, locals := 512 }) E [.ref (a 0), .int v1, .int v2] (cM E a I A) z.1 (cM E a (rf_upL I [(15, z.2.1)]) (rf_upL A [(7, z.2.2.1), (8, z.2.2.2.1), (9, z.2.2.2.2)])) := by
  unfold f_X11_seekPairs at hf
  refine rf_ofI (by decide) (Nat.le_of_ble_eq_true rfl) ?_
  intro p e s m below meth c A0 ls hC hD hP hS hl
  have hC : rf_C p E s m _ meth c cX11_seekPairs 4 RX11 (some .int) A0 := hC
  have hx := hC.1
  have hb := hC.2.1
  have hl : lv_has ls 4 [(0, .ref (a 0)), (1, .int v1), (2, .int v2)] := hl
  have hP : va_P (rf_D E) vwCl (cM E a (rf_upL I [(15, m_bestMany)]) (rf_upL A [(7, m_can), (8, m_now), (9, m_best)])) s.heap := by
    rw [rf_self (f := I) [(15, m_bestMany)] (rf_fa1 e_m_bestMany rf_fa0)]
    rw [rf_self (f := A) [(7, m_can), (8, m_now), (9, m_best)] (rf_fa1 e_m_can (rf_fa1 e_m_now (rf_fa1 e_m_best rf_fa0)))]
    exact hP
  refine lv_aload_n hx hb dX11_seekPairs_0 rfl (lv_at hl 0 rfl) ?_
  refine lv_iload_n hx hb dX11_seekPairs_1 rfl (lv_at hl 1 rfl) ?_
  refine lv_iload_n hx hb dX11_seekPairs_2 rfl (lv_at hl 2 rfl) ?_
  obtain ⟨z3, hz3, hf⟩ := rf_bd hf
  refine rf_vv (q0 := 0) (ci := 11) hC (c_X11_layCan l E a (rf_upL I [(15, m_bestMany)]) (rf_upL A [(7, m_can), (8, m_now), (9, m_best)]) m_r m_st m_can v1 v2 e_m_r e_m_st rfl hz3) kV_X11_layCan tw_1711 ⟨Nat.le_of_ble_eq_true rfl, Nat.le_of_ble_eq_true rfl⟩ rfl rfl rfl rfl rfl hP (rf_DM hD) hS rfl hl.1 (rest := []) rfl (Nat.le_of_ble_eq_true rfl) dX11_seekPairs_3 (fun H locs hP hS => ?_)
  rw [rf_cat (f := A) (l := [(7, m_can), (8, m_now), (9, m_best)]) (lc := [(7, z3)]) (l' := [(7, z3), (8, m_now), (9, m_best)]) rfl] at hP
  refine lv_iconst (v := 0) hx hb dX11_seekPairs_6 (by decide) ?_
  refine lv_istore_n (lv' := [(3, .int 0), (0, .ref (a 0)), (1, .int v1), (2, .int v2)]) hx hb dX11_seekPairs_7 rfl hl (by decide) rfl (fun ls hl => ?_)
  exact w_X11_seekPairs_8 hC hD e_m_r e_m_st rf_fu v1 0 m_bestMany z3 m_now m_best hf _ _ _ hP hS (lv_sub hl [1, 2, 0] rfl)
set_option maxHeartbeats 4000000 in
set_option maxRecDepth 100000 in
theorem c_X11_pairs (l : Launch) (E : rf_E) (a : Nat → Nat) (I : Nat → Int32) (A : Nat → Nat → Int32) (m_hasFerry : Int32) (m_r : Nat → Int32) (m_st : Nat → Int32) (m_thrown : Int32) (m_trouble : Int32) (m_bestMany : Int32) (m_can : Nat → Int32) (m_now : Nat → Int32) (m_best : Nat → Int32) (v1 : Int32) (v2 : Int32) {z : Int32 × Int32 × Int32 × Int32 × (Nat → Int32) × (Nat → Int32) × (Nat → Int32)} (e_m_hasFerry : I 12 = m_hasFerry) (e_m_r : A 2 = m_r) (e_m_st : A 4 = m_st) (e_m_thrown : I 0 = m_thrown) (e_m_trouble : I 10 = m_trouble) (e_m_bestMany : I 15 = m_bestMany) (e_m_can : A 7 = m_can) (e_m_now : A 8 = m_now) (e_m_best : A 9 = m_best) (hf : f_X11_pairs m_hasFerry m_r m_st m_thrown m_trouble m_bestMany m_can m_now m_best v1 v2 = some z) : rf_MI l yX11_pairs cX11_pairs 4 (some .int) ({ frames := 20, cells := 0, slots := 0, locals := 535 }) E [.ref (a 0), .int v1, .int v2] (cM E a I A) z.1 (cM E a (rf_upL I [(0, z.2.1), (10, z.2.2.1), (15, z.2.2.2.1)]) (rf_upL A [(7, z.2.2.2.2.1), (8, z.2.2.2.2.2.1), (9, z.2.2.2.2.2.2)])) := by
  unfold f_X11_pairs at hf
  refine rf_ofI (by decide) (Nat.le_of_ble_eq_true rfl) ?_
  intro p e s m below meth c A0 ls hC hD hP hS hl
  have hC : rf_C p E s m _ meth c cX11_pairs 4 RX11 (some .int) A0 := hC
  have hx := hC.1
  have hb := hC.2.1
  have hl : lv_has ls 4 [(0, .ref (a 0)), (1, .int v1), (2, .int v2)] := hl
  have hP : va_P (rf_D E) vwCl (cM E a (rf_upL I [(0, m_thrown), (10, m_trouble), (15, m_bestMany)]) (rf_upL A [(7, m_can), (8, m_now), (9, m_best)])) s.heap := by
    rw [rf_self (f := I) [(0, m_thrown), (10, m_trouble), (15, m_bestMany)] (rf_fa1 e_m_thrown (rf_fa1 e_m_trouble (rf_fa1 e_m_bestMany rf_fa0)))]
    rw [rf_self (f := A) [(7, m_can), (8, m_now), (9, m_best)] (rf_fa1 e_m_can (rf_fa1 e_m_now (rf_fa1 e_m_best rf_fa0)))]
    exact hP
  refine lv_aload_n hx hb dX11_pairs_0 rfl (lv_at hl 0 rfl) ?_
  obtain ⟨z1, hz1, hf⟩ := rf_bd hf
  refine rf_vv (q0 := 0) (ci := 11) hC (c_X11_good l E a (rf_upL I [(0, m_thrown), (10, m_trouble), (15, m_bestMany)]) (rf_upL A [(7, m_can), (8, m_now), (9, m_best)]) m_thrown m_trouble rfl rfl hz1) kV_X11_good tw_1403 ⟨Nat.le_of_ble_eq_true rfl, Nat.le_of_ble_eq_true rfl⟩ rfl rfl rfl rfl rfl hP (rf_DM hD) hS rfl hl.1 (rest := []) rfl (Nat.le_of_ble_eq_true rfl) dX11_pairs_1 (fun H locs hP hS => ?_)
  rw [rf_cat (f := I) (l := [(0, m_thrown), (10, m_trouble), (15, m_bestMany)]) (lc := [(0, z1.1), (10, z1.2)]) (l' := [(0, z1.1), (10, z1.2), (15, m_bestMany)]) rfl] at hP
  refine lv_aload_n hx hb dX11_pairs_4 rfl (lv_at hl 0 rfl) ?_
  refine lv_iload_n hx hb dX11_pairs_5 rfl (lv_at hl 1 rfl) ?_
  refine lv_iload_n hx hb dX11_pairs_6 rfl (lv_at hl 2 rfl) ?_
  obtain ⟨z7, hz7, hf⟩ := rf_bd hf
  refine rf_vi (q0 := 0) (ci := 11) hC (c_X11_bankWhy l E a (rf_upL I [(0, z1.1), (10, z1.2), (15, m_bestMany)]) (rf_upL A [(7, m_can), (8, m_now), (9, m_best)]) m_hasFerry v1 v2 e_m_hasFerry hz7) kV_X11_bankWhy tw_1703 ⟨Nat.le_of_ble_eq_true rfl, Nat.le_of_ble_eq_true rfl⟩ rfl rfl rfl rfl rfl hP (rf_DM hD) hS rfl hl.1 (rest := []) rfl (Nat.le_of_ble_eq_true rfl) dX11_pairs_7 (fun H locs hP hS => ?_)
  refine lv_istore_n (lv' := [(3, .int z7), (0, .ref (a 0)), (1, .int v1), (2, .int v2)]) hx hb dX11_pairs_10 rfl hl (by decide) rfl (fun ls hl => ?_)
  refine lv_iload_n hx hb dX11_pairs_11 rfl (lv_at hl 0 rfl) ?_
  refine lv_if_eq (tgt := 23) hx hb dX11_pairs_12 (by decide) (fun c_12 => ?_) (fun c_12 => ?_)
  · have hf := rf_it c_12 hf
    refine lv_aload_n hx hb dX11_pairs_23 rfl (lv_at hl 1 rfl) ?_
    refine lv_aload_n hx hb dX11_pairs_24 rfl (lv_at hl 1 rfl) ?_
    refine lv_iload_n hx hb dX11_pairs_25 rfl (lv_at hl 2 rfl) ?_
    obtain ⟨z26, hz26, hf⟩ := rf_bd hf
    refine rf_vi (q0 := 0) (ci := 11) hC (c_X11_onBank l E a (rf_upL I [(0, z1.1), (10, z1.2), (15, m_bestMany)]) (rf_upL A [(7, m_can), (8, m_now), (9, m_best)]) m_r m_st v1 e_m_r e_m_st hz26) kV_X11_onBank tw_1691 ⟨Nat.le_of_ble_eq_true rfl, Nat.le_of_ble_eq_true rfl⟩ rfl rfl rfl rfl rfl hP (rf_DM hD) hS rfl hl.1 (rest := [.ref (a 0)]) rfl (Nat.le_of_ble_eq_true rfl) dX11_pairs_26 (fun H locs hP hS => ?_)
    refine lv_aload_n hx hb dX11_pairs_29 rfl (lv_at hl 1 rfl) ?_
    refine lv_iload_n hx hb dX11_pairs_30 rfl (lv_at hl 3 rfl) ?_
    obtain ⟨z31, hz31, hf⟩ := rf_bd hf
    refine rf_vi (q0 := 0) (ci := 11) hC (c_X11_earAt l E a (rf_upL I [(0, z1.1), (10, z1.2), (15, m_bestMany)]) (rf_upL A [(7, m_can), (8, m_now), (9, m_best)]) m_r v2 e_m_r hz31) kV_X11_earAt tw_1624 ⟨Nat.le_of_ble_eq_true rfl, Nat.le_of_ble_eq_true rfl⟩ rfl rfl rfl rfl rfl hP (rf_DM hD) hS rfl hl.1 (rest := [.int z26, .ref (a 0)]) rfl (Nat.le_of_ble_eq_true rfl) dX11_pairs_31 (fun H locs hP hS => ?_)
    obtain ⟨z34, hz34, hf⟩ := rf_bd hf
    refine rf_vi (q0 := 0) (ci := 11) hC (c_X11_seekPairs l E a (rf_upL I [(0, z1.1), (10, z1.2), (15, m_bestMany)]) (rf_upL A [(7, m_can), (8, m_now), (9, m_best)]) m_r m_st m_bestMany m_can m_now m_best z26 z31 e_m_r e_m_st rfl rfl rfl rfl hz34) kV_X11_seekPairs tw_1707 ⟨Nat.le_of_ble_eq_true rfl, Nat.le_of_ble_eq_true rfl⟩ rfl rfl rfl rfl rfl hP (rf_DM hD) hS rfl hl.1 (rest := []) rfl (Nat.le_of_ble_eq_true rfl) dX11_pairs_34 (fun H locs hP hS => ?_)
    rw [rf_cat (f := I) (l := [(0, z1.1), (10, z1.2), (15, m_bestMany)]) (lc := [(15, z34.2.1)]) (l' := [(0, z1.1), (10, z1.2), (15, z34.2.1)]) rfl] at hP
    rw [rf_cat (f := A) (l := [(7, m_can), (8, m_now), (9, m_best)]) (lc := [(7, z34.2.2.1), (8, z34.2.2.2.1), (9, z34.2.2.2.2)]) (l' := [(7, z34.2.2.1), (8, z34.2.2.2.1), (9, z34.2.2.2.2)]) rfl] at hP
    obtain rfl := Option.some.inj hf
    exact rf_reti hC hP hS rfl rfl dX11_pairs_37
  have hf := rf_ie c_12 hf
  refine lv_aload_n hx hb dX11_pairs_15 rfl (lv_at hl 1 rfl) ?_
  refine lv_iload_n hx hb dX11_pairs_16 rfl (lv_at hl 0 rfl) ?_
  obtain ⟨z17, hz17, hf⟩ := rf_bd hf
  refine rf_vi (q0 := 0) (ci := 11) hC (c_X11_no l E a (rf_upL I [(0, z1.1), (10, z1.2), (15, m_bestMany)]) (rf_upL A [(7, m_can), (8, m_now), (9, m_best)]) z1.2 z7 rfl hz17) kV_X11_no tw_1410 ⟨Nat.le_of_ble_eq_true rfl, Nat.le_of_ble_eq_true rfl⟩ rfl rfl rfl rfl rfl hP (rf_DM hD) hS rfl hl.1 (rest := []) rfl (Nat.le_of_ble_eq_true rfl) dX11_pairs_17 (fun H locs hP hS => ?_)
  rw [rf_cat (f := I) (l := [(0, z1.1), (10, z1.2), (15, m_bestMany)]) (lc := [(10, z17.2)]) (l' := [(0, z1.1), (10, z17.2), (15, m_bestMany)]) rfl] at hP
  refine lv_goto (tgt := 37) hx hb dX11_pairs_20 (by decide) ?_
  obtain rfl := Option.some.inj hf
  exact rf_reti hC hP hS rfl rfl dX11_pairs_37
set_option maxHeartbeats 4000000 in
set_option maxRecDepth 100000 in
theorem c_X11_partner (l : Launch) (E : rf_E) (a : Nat → Nat) (I : Nat → Int32) (A : Nat → Nat → Int32) (m_hasFerry : Int32) (m_r : Nat → Int32) (m_st : Nat → Int32) (m_thrown : Int32) (m_trouble : Int32) (m_bestMany : Int32) (m_can : Nat → Int32) (m_now : Nat → Int32) (m_best : Nat → Int32) (v1 : Int32) (v2 : Int32) (v3 : Int32) {z : Int32 × Int32 × Int32 × Int32 × (Nat → Int32) × (Nat → Int32) × (Nat → Int32)} (e_m_hasFerry : I 12 = m_hasFerry) (e_m_r : A 2 = m_r) (e_m_st : A 4 = m_st) (e_m_thrown : I 0 = m_thrown) (e_m_trouble : I 10 = m_trouble) (e_m_bestMany : I 15 = m_bestMany) (e_m_can : A 7 = m_can) (e_m_now : A 8 = m_now) (e_m_best : A 9 = m_best) (hf : f_X11_partner m_hasFerry m_r m_st m_thrown m_trouble m_bestMany m_can m_now m_best v1 v2 v3 = some z) : rf_MI l yX11_partner cX11_partner 5 (some .int) ({ frames := 20, cells := 0, slots := 0, locals := 535 }) E [.ref (a 0), .int v1, .int v2, .int v3] (cM E a I A) z.1 (cM E a (rf_upL I [(0, z.2.1), (10, z.2.2.1), (15, z.2.2.2.1)]) (rf_upL A [(7, z.2.2.2.2.1), (8, z.2.2.2.2.2.1), (9, z.2.2.2.2.2.2)])) := by
  unfold f_X11_partner at hf
  refine rf_ofI (by decide) (Nat.le_of_ble_eq_true rfl) ?_
  intro p e s m below meth c A0 ls hC hD hP hS hl
  have hC : rf_C p E s m _ meth c cX11_partner 5 RX11 (some .int) A0 := hC
  have hx := hC.1
  have hb := hC.2.1
  have hl : lv_has ls 5 [(0, .ref (a 0)), (1, .int v1), (2, .int v2), (3, .int v3)] := hl
  have hP : va_P (rf_D E) vwCl (cM E a (rf_upL I [(0, m_thrown), (10, m_trouble), (15, m_bestMany)]) (rf_upL A [(7, m_can), (8, m_now), (9, m_best)])) s.heap := by
    rw [rf_self (f := I) [(0, m_thrown), (10, m_trouble), (15, m_bestMany)] (rf_fa1 e_m_thrown (rf_fa1 e_m_trouble (rf_fa1 e_m_bestMany rf_fa0)))]
    rw [rf_self (f := A) [(7, m_can), (8, m_now), (9, m_best)] (rf_fa1 e_m_can (rf_fa1 e_m_now (rf_fa1 e_m_best rf_fa0)))]
    exact hP
  refine lv_aload_n hx hb dX11_partner_0 rfl (lv_at hl 0 rfl) ?_
  obtain ⟨z1, hz1, hf⟩ := rf_bd hf
  refine rf_vv (q0 := 0) (ci := 11) hC (c_X11_good l E a (rf_upL I [(0, m_thrown), (10, m_trouble), (15, m_bestMany)]) (rf_upL A [(7, m_can), (8, m_now), (9, m_best)]) m_thrown m_trouble rfl rfl hz1) kV_X11_good tw_1403 ⟨Nat.le_of_ble_eq_true rfl, Nat.le_of_ble_eq_true rfl⟩ rfl rfl rfl rfl rfl hP (rf_DM hD) hS rfl hl.1 (rest := []) rfl (Nat.le_of_ble_eq_true rfl) dX11_partner_1 (fun H locs hP hS => ?_)
  rw [rf_cat (f := I) (l := [(0, m_thrown), (10, m_trouble), (15, m_bestMany)]) (lc := [(0, z1.1), (10, z1.2)]) (l' := [(0, z1.1), (10, z1.2), (15, m_bestMany)]) rfl] at hP
  refine lv_aload_n hx hb dX11_partner_4 rfl (lv_at hl 0 rfl) ?_
  refine lv_iload_n hx hb dX11_partner_5 rfl (lv_at hl 1 rfl) ?_
  obtain ⟨z6, hz6, hf⟩ := rf_bd hf
  refine rf_vi (q0 := 0) (ci := 11) hC (c_X11_isPerson l E a (rf_upL I [(0, z1.1), (10, z1.2), (15, m_bestMany)]) (rf_upL A [(7, m_can), (8, m_now), (9, m_best)]) m_hasFerry m_r v1 e_m_hasFerry e_m_r hz6) kV_X11_isPerson tw_1605 ⟨Nat.le_of_ble_eq_true rfl, Nat.le_of_ble_eq_true rfl⟩ rfl rfl rfl rfl rfl hP (rf_DM hD) hS rfl hl.1 (rest := []) rfl (Nat.le_of_ble_eq_true rfl) dX11_partner_6 (fun H locs hP hS => ?_)
  refine lv_if_ne (tgt := 18) hx hb dX11_partner_9 (by decide) (fun c_9 => ?_) (fun c_9 => ?_)
  · have hf := rf_ie c_9 hf
    refine lv_aload_n hx hb dX11_partner_18 rfl (lv_at hl 0 rfl) ?_
    refine lv_iload_n hx hb dX11_partner_19 rfl (lv_at hl 2 rfl) ?_
    refine lv_iload_n hx hb dX11_partner_20 rfl (lv_at hl 3 rfl) ?_
    obtain ⟨z21, hz21, hf⟩ := rf_bd hf
    refine rf_vi (q0 := 0) (ci := 11) hC (c_X11_bankWhy l E a (rf_upL I [(0, z1.1), (10, z1.2), (15, m_bestMany)]) (rf_upL A [(7, m_can), (8, m_now), (9, m_best)]) m_hasFerry v2 v3 e_m_hasFerry hz21) kV_X11_bankWhy tw_1703 ⟨Nat.le_of_ble_eq_true rfl, Nat.le_of_ble_eq_true rfl⟩ rfl rfl rfl rfl rfl hP (rf_DM hD) hS rfl hl.1 (rest := []) rfl (Nat.le_of_ble_eq_true rfl) dX11_partner_21 (fun H locs hP hS => ?_)
    refine lv_istore (lv' := [(4, .int z21), (0, .ref (a 0)), (1, .int v1), (2, .int v2), (3, .int v3)]) hx hb dX11_partner_24 hl (by decide) rfl (fun ls hl => ?_)
    refine lv_iload hx hb dX11_partner_26 (lv_at hl 0 rfl) ?_
    refine lv_if_eq (tgt := 38) hx hb dX11_partner_28 (by decide) (fun c_28 => ?_) (fun c_28 => ?_)
    · have hf := rf_it c_28 hf
      refine lv_aload_n hx hb dX11_partner_38 rfl (lv_at hl 1 rfl) ?_
      refine lv_aload_n hx hb dX11_partner_39 rfl (lv_at hl 1 rfl) ?_
      refine lv_iload_n hx hb dX11_partner_40 rfl (lv_at hl 3 rfl) ?_
      obtain ⟨z41, hz41, hf⟩ := rf_bd hf
      refine rf_vi (q0 := 0) (ci := 11) hC (c_X11_onBank l E a (rf_upL I [(0, z1.1), (10, z1.2), (15, m_bestMany)]) (rf_upL A [(7, m_can), (8, m_now), (9, m_best)]) m_r m_st v2 e_m_r e_m_st hz41) kV_X11_onBank tw_1691 ⟨Nat.le_of_ble_eq_true rfl, Nat.le_of_ble_eq_true rfl⟩ rfl rfl rfl rfl rfl hP (rf_DM hD) hS rfl hl.1 (rest := [.ref (a 0)]) rfl (Nat.le_of_ble_eq_true rfl) dX11_partner_41 (fun H locs hP hS => ?_)
      refine lv_aload_n hx hb dX11_partner_44 rfl (lv_at hl 1 rfl) ?_
      refine lv_iload_n hx hb dX11_partner_45 rfl (lv_at hl 4 rfl) ?_
      obtain ⟨z46, hz46, hf⟩ := rf_bd hf
      refine rf_vi (q0 := 0) (ci := 11) hC (c_X11_earAt l E a (rf_upL I [(0, z1.1), (10, z1.2), (15, m_bestMany)]) (rf_upL A [(7, m_can), (8, m_now), (9, m_best)]) m_r v3 e_m_r hz46) kV_X11_earAt tw_1624 ⟨Nat.le_of_ble_eq_true rfl, Nat.le_of_ble_eq_true rfl⟩ rfl rfl rfl rfl rfl hP (rf_DM hD) hS rfl hl.1 (rest := [.int z41, .ref (a 0)]) rfl (Nat.le_of_ble_eq_true rfl) dX11_partner_46 (fun H locs hP hS => ?_)
      obtain ⟨z49, hz49, hf⟩ := rf_bd hf
      refine rf_vi (q0 := 0) (ci := 11) hC (c_X11_seekPairs l E a (rf_upL I [(0, z1.1), (10, z1.2), (15, m_bestMany)]) (rf_upL A [(7, m_can), (8, m_now), (9, m_best)]) m_r m_st m_bestMany m_can m_now m_best z41 z46 e_m_r e_m_st rfl rfl rfl rfl hz49) kV_X11_seekPairs tw_1707 ⟨Nat.le_of_ble_eq_true rfl, Nat.le_of_ble_eq_true rfl⟩ rfl rfl rfl rfl rfl hP (rf_DM hD) hS rfl hl.1 (rest := []) rfl (Nat.le_of_ble_eq_true rfl) dX11_partner_49 (fun H locs hP hS => ?_)
      rw [rf_cat (f := I) (l := [(0, z1.1), (10, z1.2), (15, m_bestMany)]) (lc := [(15, z49.2.1)]) (l' := [(0, z1.1), (10, z1.2), (15, z49.2.1)]) rfl] at hP
      rw [rf_cat (f := A) (l := [(7, m_can), (8, m_now), (9, m_best)]) (lc := [(7, z49.2.2.1), (8, z49.2.2.2.1), (9, z49.2.2.2.2)]) (l' := [(7, z49.2.2.1), (8, z49.2.2.2.1), (9, z49.2.2.2.2)]) rfl] at hP
      refine lv_pop hx hb dX11_partner_52 rfl ?_
      refine lv_aload_n hx hb dX11_partner_53 rfl (lv_at hl 1 rfl) ?_
      refine gM_m_best hC hP tw_1303 dX11_partner_54 ?_
      refine lv_iload_n hx hb dX11_partner_57 rfl (lv_at hl 2 rfl) ?_
      obtain ⟨hi_58, hf⟩ := rf_gu hf
      refine lM_m_best hC hP hi_58 (f := z49.2.2.2.2) rfl dX11_partner_58 ?_
      obtain rfl := Option.some.inj hf
      exact rf_reti hC hP hS rfl rfl dX11_partner_59
    have hf := rf_ie c_28 hf
    refine lv_aload_n hx hb dX11_partner_31 rfl (lv_at hl 1 rfl) ?_
    refine lv_iload hx hb dX11_partner_32 (lv_at hl 0 rfl) ?_
    obtain ⟨z34, hz34, hf⟩ := rf_bd hf
    refine rf_vi (q0 := 0) (ci := 11) hC (c_X11_no l E a (rf_upL I [(0, z1.1), (10, z1.2), (15, m_bestMany)]) (rf_upL A [(7, m_can), (8, m_now), (9, m_best)]) z1.2 z21 rfl hz34) kV_X11_no tw_1410 ⟨Nat.le_of_ble_eq_true rfl, Nat.le_of_ble_eq_true rfl⟩ rfl rfl rfl rfl rfl hP (rf_DM hD) hS rfl hl.1 (rest := []) rfl (Nat.le_of_ble_eq_true rfl) dX11_partner_34 (fun H locs hP hS => ?_)
    rw [rf_cat (f := I) (l := [(0, z1.1), (10, z1.2), (15, m_bestMany)]) (lc := [(10, z34.2)]) (l' := [(0, z1.1), (10, z34.2), (15, m_bestMany)]) rfl] at hP
    obtain rfl := Option.some.inj hf
    exact rf_reti hC hP hS rfl rfl dX11_partner_37
  have hf := rf_it c_9 hf
  refine lv_aload_n hx hb dX11_partner_12 rfl (lv_at hl 0 rfl) ?_
  refine lv_iconst (v := 1) hx hb dX11_partner_13 (by decide) ?_
  obtain ⟨z14, hz14, hf⟩ := rf_bd hf
  refine rf_vi (q0 := 0) (ci := 11) hC (c_X11_no l E a (rf_upL I [(0, z1.1), (10, z1.2), (15, m_bestMany)]) (rf_upL A [(7, m_can), (8, m_now), (9, m_best)]) z1.2 1 rfl hz14) kV_X11_no tw_1410 ⟨Nat.le_of_ble_eq_true rfl, Nat.le_of_ble_eq_true rfl⟩ rfl rfl rfl rfl rfl hP (rf_DM hD) hS rfl hl.1 (rest := []) rfl (Nat.le_of_ble_eq_true rfl) dX11_partner_14 (fun H locs hP hS => ?_)
  rw [rf_cat (f := I) (l := [(0, z1.1), (10, z1.2), (15, m_bestMany)]) (lc := [(10, z14.2)]) (l' := [(0, z1.1), (10, z14.2), (15, m_bestMany)]) rfl] at hP
  obtain rfl := Option.some.inj hf
  exact rf_reti hC hP hS rfl rfl dX11_partner_17
