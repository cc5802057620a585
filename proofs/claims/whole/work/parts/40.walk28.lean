set_option maxHeartbeats 4000000 in
set_option maxRecDepth 100000 in
theorem c_X11_day (l : Launch) (E : rf_E) (a : Nat → Nat) (I : Nat → Int32) (A : Nat → Nat → Int32) (m_hasFerry : Int32) (m_r : Nat → Int32) (m_st : Nat → Int32) (m_thrown : Int32) (m_trouble : Int32) (m_bestMany : Int32) (m_can : Nat → Int32) (m_now : Nat → Int32) (m_best : Nat → Int32) (m_hourOf : Nat → Int32) (v1 : Int32) (v2 : Int32) {z : Int32 × Int32 × Int32 × Int32 × (Nat → Int32) × (Nat → Int32) × (Nat → Int32) × (Nat → Int32)} (e_m_hasFerry : I 12 = m_hasFerry) (e_m_r : A 2 = m_r) (e_m_st : A 4 = m_st) (e_m_thrown : I 0 = m_thrown) (e_m_trouble : I 10 = m_trouble) (e_m_bestMany : I 15 = m_bestMany) (e_m_can : A 7 = m_can) (e_m_now : A 8 = m_now) (e_m_best : A 9 = m_best) (e_m_hourOf : A 13 = m_hourOf) (hf : f_X11_day m_hasFerry m_r m_st m_thrown m_trouble m_bestMany m_can m_now m_best m_hourOf v1 v2 = some z) : rf_MI l yX11_day cX11_day 4 (some .int) ({ frames := 21, cells := 0, slots := 0, locals := 564 }) E [.ref (a 0), .int v1, .int v2] (cM E a I A) z.1 (cM E a (rf_upL I [(0, z.2.1), (10, z.2.2.1), (15, z.2.2.2.1)]) (rf_upL A [(7, z.2.2.2.2.1), (8, z.2.2.2.2.2.1), (9, z.2.2.2.2.2.2.1), (13, z.2.2.2.2.2.2.2)])) := by
  unfold f_X11_day at hf
  refine rf_ofI (by decide) (Nat.le_of_ble_eq_true rfl) ?_
  intro p e s m below meth c A0 ls hC hD hP hS hl
  have hC : rf_C p E s m _ meth c cX11_day 4 RX11 (some .int) A0 := hC
  have hx := hC.1
  have hb := hC.2.1
  have hl : lv_has ls 4 [(0, .ref (a 0)), (1, .int v1), (2, .int v2)] := hl
  have hP : va_P (rf_D E) vwCl (cM E a (rf_upL I [(0, m_thrown), (10, m_trouble), (15, m_bestMany)]) (rf_upL A [(7, m_can), (8, m_now), (9, m_best), (13, m_hourOf)])) s.heap := by
    rw [rf_self (f := I) [(0, m_thrown), (10, m_trouble), (15, m_bestMany)] (rf_fa1 e_m_thrown (rf_fa1 e_m_trouble (rf_fa1 e_m_bestMany rf_fa0)))]
    rw [rf_self (f := A) [(7, m_can), (8, m_now), (9, m_best), (13, m_hourOf)] (rf_fa1 e_m_can (rf_fa1 e_m_now (rf_fa1 e_m_best (rf_fa1 e_m_hourOf rf_fa0))))]
    exact hP
  refine lv_aload_n hx hb dX11_day_0 rfl (lv_at hl 0 rfl) ?_
  obtain ⟨z1, hz1, hf⟩ := rf_bd hf
  refine rf_vv (q0 := 0) (ci := 11) hC (c_X11_good l E a (rf_upL I [(0, m_thrown), (10, m_trouble), (15, m_bestMany)]) (rf_upL A [(7, m_can), (8, m_now), (9, m_best), (13, m_hourOf)]) m_thrown m_trouble rfl rfl hz1) kV_X11_good tw_1403 ⟨Nat.le_of_ble_eq_true rfl, Nat.le_of_ble_eq_true rfl⟩ rfl rfl rfl rfl rfl hP (rf_DM hD) hS rfl hl.1 (rest := []) rfl (Nat.le_of_ble_eq_true rfl) dX11_day_1 (fun H locs hP hS => ?_)
  rw [rf_cat (f := I) (l := [(0, m_thrown), (10, m_trouble), (15, m_bestMany)]) (lc := [(0, z1.1), (10, z1.2)]) (l' := [(0, z1.1), (10, z1.2), (15, m_bestMany)]) rfl] at hP
  refine lv_aload_n hx hb dX11_day_4 rfl (lv_at hl 0 rfl) ?_
  refine lv_aload_n hx hb dX11_day_5 rfl (lv_at hl 0 rfl) ?_
  refine gM_m_hasFerry hC hP tw_1293 (v := m_hasFerry) e_m_hasFerry dX11_day_6 ?_
  refine lv_iload_n hx hb dX11_day_9 rfl (lv_at hl 1 rfl) ?_
  refine lv_iload_n hx hb dX11_day_10 rfl (lv_at hl 2 rfl) ?_
  obtain ⟨z11, hz11, hf⟩ := rf_bd hf
  refine rf_vi (q0 := 0) (ci := 11) hC (c_X11_dayWhy l E a (rf_upL I [(0, z1.1), (10, z1.2), (15, m_bestMany)]) (rf_upL A [(7, m_can), (8, m_now), (9, m_best), (13, m_hourOf)]) m_hasFerry v1 v2 hz11) kV_X11_dayWhy tw_1844 ⟨Nat.le_of_ble_eq_true rfl, Nat.le_of_ble_eq_true rfl⟩ rfl rfl rfl rfl rfl hP (rf_DM hD) hS rfl hl.1 (rest := []) rfl (Nat.le_of_ble_eq_true rfl) dX11_day_11 (fun H locs hP hS => ?_)
  refine lv_istore_n (lv' := [(3, .int z11), (0, .ref (a 0)), (1, .int v1), (2, .int v2)]) hx hb dX11_day_14 rfl hl (by decide) rfl (fun ls hl => ?_)
  refine lv_iload_n hx hb dX11_day_15 rfl (lv_at hl 0 rfl) ?_
  refine lv_if_eq (tgt := 27) hx hb dX11_day_16 (by decide) (fun c_16 => ?_) (fun c_16 => ?_)
  · have hf := rf_it c_16 hf
    refine lv_aload_n hx hb dX11_day_27 rfl (lv_at hl 1 rfl) ?_
    refine lv_iload_n hx hb dX11_day_28 rfl (lv_at hl 2 rfl) ?_
    refine lv_iload_n hx hb dX11_day_29 rfl (lv_at hl 3 rfl) ?_
    obtain ⟨z30, hz30, hf⟩ := rf_bd hf
    refine rf_vi (q0 := 0) (ci := 11) hC (c_X11_goThrough l E a (rf_upL I [(0, z1.1), (10, z1.2), (15, m_bestMany)]) (rf_upL A [(7, m_can), (8, m_now), (9, m_best), (13, m_hourOf)]) m_r m_st m_bestMany m_can m_now m_best m_hourOf v1 v2 e_m_r e_m_st rfl rfl rfl rfl rfl hz30) kV_X11_goThrough tw_1849 ⟨Nat.le_of_ble_eq_true rfl, Nat.le_of_ble_eq_true rfl⟩ rfl rfl rfl rfl rfl hP (rf_DM hD) hS rfl hl.1 (rest := []) rfl (Nat.le_of_ble_eq_true rfl) dX11_day_30 (fun H locs hP hS => ?_)
    rw [rf_cat (f := I) (l := [(0, z1.1), (10, z1.2), (15, m_bestMany)]) (lc := [(15, z30.2.1)]) (l' := [(0, z1.1), (10, z1.2), (15, z30.2.1)]) rfl] at hP
    rw [rf_cat (f := A) (l := [(7, m_can), (8, m_now), (9, m_best), (13, m_hourOf)]) (lc := [(7, z30.2.2.1), (8, z30.2.2.2.1), (9, z30.2.2.2.2.1), (13, z30.2.2.2.2.2)]) (l' := [(7, z30.2.2.1), (8, z30.2.2.2.1), (9, z30.2.2.2.2.1), (13, z30.2.2.2.2.2)]) rfl] at hP
    obtain rfl := Option.some.inj hf
    exact rf_reti hC hP hS rfl rfl dX11_day_33
  have hf := rf_ie c_16 hf
  refine lv_aload_n hx hb dX11_day_19 rfl (lv_at hl 1 rfl) ?_
  refine lv_iload_n hx hb dX11_day_20 rfl (lv_at hl 0 rfl) ?_
  obtain ⟨z21, hz21, hf⟩ := rf_bd hf
  refine rf_vi (q0 := 0) (ci := 11) hC (c_X11_no l E a (rf_upL I [(0, z1.1), (10, z1.2), (15, m_bestMany)]) (rf_upL A [(7, m_can), (8, m_now), (9, m_best), (13, m_hourOf)]) z1.2 z11 rfl hz21) kV_X11_no tw_1410 ⟨Nat.le_of_ble_eq_true rfl, Nat.le_of_ble_eq_true rfl⟩ rfl rfl rfl rfl rfl hP (rf_DM hD) hS rfl hl.1 (rest := []) rfl (Nat.le_of_ble_eq_true rfl) dX11_day_21 (fun H locs hP hS => ?_)
  rw [rf_cat (f := I) (l := [(0, z1.1), (10, z1.2), (15, m_bestMany)]) (lc := [(10, z21.2)]) (l' := [(0, z1.1), (10, z21.2), (15, m_bestMany)]) rfl] at hP
  refine lv_goto (tgt := 33) hx hb dX11_day_24 (by decide) ?_
  obtain rfl := Option.some.inj hf
  exact rf_reti hC hP hS rfl rfl dX11_day_33
set_option maxHeartbeats 4000000 in
set_option maxRecDepth 100000 in
theorem c_X11_crossedIn (l : Launch) (E : rf_E) (a : Nat → Nat) (I : Nat → Int32) (A : Nat → Nat → Int32) (m_hasFerry : Int32) (m_r : Nat → Int32) (m_st : Nat → Int32) (m_thrown : Int32) (m_trouble : Int32) (m_bestMany : Int32) (m_can : Nat → Int32) (m_now : Nat → Int32) (m_best : Nat → Int32) (m_hourOf : Nat → Int32) (v1 : Int32) (v2 : Int32) (v3 : Int32) {z : Int32 × Int32 × Int32 × Int32 × (Nat → Int32) × (Nat → Int32) × (Nat → Int32) × (Nat → Int32)} (e_m_hasFerry : I 12 = m_hasFerry) (e_m_r : A 2 = m_r) (e_m_st : A 4 = m_st) (e_m_thrown : I 0 = m_thrown) (e_m_trouble : I 10 = m_trouble) (e_m_bestMany : I 15 = m_bestMany) (e_m_can : A 7 = m_can) (e_m_now : A 8 = m_now) (e_m_best : A 9 = m_best) (e_m_hourOf : A 13 = m_hourOf) (hf : f_X11_crossedIn m_hasFerry m_r m_st m_thrown m_trouble m_bestMany m_can m_now m_best m_hourOf v1 v2 v3 = some z) : rf_MI l yX11_crossedIn cX11_crossedIn 5 (some .int) ({ frames := 21, cells := 0, slots := 0, locals := 564 }) E [.ref (a 0), .int v1, .int v2, .int v3] (cM E a I A) z.1 (cM E a (rf_upL I [(0, z.2.1), (10, z.2.2.1), (15, z.2.2.2.1)]) (rf_upL A [(7, z.2.2.2.2.1), (8, z.2.2.2.2.2.1), (9, z.2.2.2.2.2.2.1), (13, z.2.2.2.2.2.2.2)])) := by
  unfold f_X11_crossedIn at hf
  refine rf_ofI (by decide) (Nat.le_of_ble_eq_true rfl) ?_
  intro p e s m below meth c A0 ls hC hD hP hS hl
  have hC : rf_C p E s m _ meth c cX11_crossedIn 5 RX11 (some .int) A0 := hC
  have hx := hC.1
  have hb := hC.2.1
  have hl : lv_has ls 5 [(0, .ref (a 0)), (1, .int v1), (2, .int v2), (3, .int v3)] := hl
  have hP : va_P (rf_D E) vwCl (cM E a (rf_upL I [(0, m_thrown), (10, m_trouble), (15, m_bestMany)]) (rf_upL A [(7, m_can), (8, m_now), (9, m_best), (13, m_hourOf)])) s.heap := by
    rw [rf_self (f := I) [(0, m_thrown), (10, m_trouble), (15, m_bestMany)] (rf_fa1 e_m_thrown (rf_fa1 e_m_trouble (rf_fa1 e_m_bestMany rf_fa0)))]
    rw [rf_self (f := A) [(7, m_can), (8, m_now), (9, m_best), (13, m_hourOf)] (rf_fa1 e_m_can (rf_fa1 e_m_now (rf_fa1 e_m_best (rf_fa1 e_m_hourOf rf_fa0))))]
    exact hP
  refine lv_aload_n hx hb dX11_crossedIn_0 rfl (lv_at hl 0 rfl) ?_
  obtain ⟨z1, hz1, hf⟩ := rf_bd hf
  refine rf_vv (q0 := 0) (ci := 11) hC (c_X11_good l E a (rf_upL I [(0, m_thrown), (10, m_trouble), (15, m_bestMany)]) (rf_upL A [(7, m_can), (8, m_now), (9, m_best), (13, m_hourOf)]) m_thrown m_trouble rfl rfl hz1) kV_X11_good tw_1403 ⟨Nat.le_of_ble_eq_true rfl, Nat.le_of_ble_eq_true rfl⟩ rfl rfl rfl rfl rfl hP (rf_DM hD) hS rfl hl.1 (rest := []) rfl (Nat.le_of_ble_eq_true rfl) dX11_crossedIn_1 (fun H locs hP hS => ?_)
  rw [rf_cat (f := I) (l := [(0, m_thrown), (10, m_trouble), (15, m_bestMany)]) (lc := [(0, z1.1), (10, z1.2)]) (l' := [(0, z1.1), (10, z1.2), (15, m_bestMany)]) rfl] at hP
  refine lv_aload_n hx hb dX11_crossedIn_4 rfl (lv_at hl 0 rfl) ?_
  refine lv_aload_n hx hb dX11_crossedIn_5 rfl (lv_at hl 0 rfl) ?_
  refine lv_iload_n hx hb dX11_crossedIn_6 rfl (lv_at hl 1 rfl) ?_
  obtain ⟨z7, hz7, hf⟩ := rf_bd hf
  refine rf_vi (q0 := 0) (ci := 11) hC (c_X11_isPerson l E a (rf_upL I [(0, z1.1), (10, z1.2), (15, m_bestMany)]) (rf_upL A [(7, m_can), (8, m_now), (9, m_best), (13, m_hourOf)]) m_hasFerry m_r v1 e_m_hasFerry e_m_r hz7) kV_X11_isPerson tw_1605 ⟨Nat.le_of_ble_eq_true rfl, Nat.le_of_ble_eq_true rfl⟩ rfl rfl rfl rfl rfl hP (rf_DM hD) hS rfl hl.1 (rest := [.ref (a 0)]) rfl (Nat.le_of_ble_eq_true rfl) dX11_crossedIn_7 (fun H locs hP hS => ?_)
  refine lv_iload_n hx hb dX11_crossedIn_10 rfl (lv_at hl 2 rfl) ?_
  refine lv_iload_n hx hb dX11_crossedIn_11 rfl (lv_at hl 3 rfl) ?_
  obtain ⟨z12, hz12, hf⟩ := rf_bd hf
  refine rf_vi (q0 := 0) (ci := 11) hC (c_X11_dayWhy l E a (rf_upL I [(0, z1.1), (10, z1.2), (15, m_bestMany)]) (rf_upL A [(7, m_can), (8, m_now), (9, m_best), (13, m_hourOf)]) z7 v2 v3 hz12) kV_X11_dayWhy tw_1844 ⟨Nat.le_of_ble_eq_true rfl, Nat.le_of_ble_eq_true rfl⟩ rfl rfl rfl rfl rfl hP (rf_DM hD) hS rfl hl.1 (rest := []) rfl (Nat.le_of_ble_eq_true rfl) dX11_crossedIn_12 (fun H locs hP hS => ?_)
  refine lv_istore (lv' := [(4, .int z12), (0, .ref (a 0)), (1, .int v1), (2, .int v2), (3, .int v3)]) hx hb dX11_crossedIn_15 hl (by decide) rfl (fun ls hl => ?_)
  refine lv_iload hx hb dX11_crossedIn_17 (lv_at hl 0 rfl) ?_
  refine lv_if_eq (tgt := 29) hx hb dX11_crossedIn_19 (by decide) (fun c_19 => ?_) (fun c_19 => ?_)
  · have hf := rf_it c_19 hf
    refine lv_aload_n hx hb dX11_crossedIn_29 rfl (lv_at hl 1 rfl) ?_
    refine lv_iload_n hx hb dX11_crossedIn_30 rfl (lv_at hl 3 rfl) ?_
    refine lv_iload_n hx hb dX11_crossedIn_31 rfl (lv_at hl 4 rfl) ?_
    obtain ⟨z32, hz32, hf⟩ := rf_bd hf
    refine rf_vi (q0 := 0) (ci := 11) hC (c_X11_goThrough l E a (rf_upL I [(0, z1.1), (10, z1.2), (15, m_bestMany)]) (rf_upL A [(7, m_can), (8, m_now), (9, m_best), (13, m_hourOf)]) m_r m_st m_bestMany m_can m_now m_best m_hourOf v2 v3 e_m_r e_m_st rfl rfl rfl rfl rfl hz32) kV_X11_goThrough tw_1849 ⟨Nat.le_of_ble_eq_true rfl, Nat.le_of_ble_eq_true rfl⟩ rfl rfl rfl rfl rfl hP (rf_DM hD) hS rfl hl.1 (rest := []) rfl (Nat.le_of_ble_eq_true rfl) dX11_crossedIn_32 (fun H locs hP hS => ?_)
    rw [rf_cat (f := I) (l := [(0, z1.1), (10, z1.2), (15, m_bestMany)]) (lc := [(15, z32.2.1)]) (l' := [(0, z1.1), (10, z1.2), (15, z32.2.1)]) rfl] at hP
    rw [rf_cat (f := A) (l := [(7, m_can), (8, m_now), (9, m_best), (13, m_hourOf)]) (lc := [(7, z32.2.2.1), (8, z32.2.2.2.1), (9, z32.2.2.2.2.1), (13, z32.2.2.2.2.2)]) (l' := [(7, z32.2.2.1), (8, z32.2.2.2.1), (9, z32.2.2.2.2.1), (13, z32.2.2.2.2.2)]) rfl] at hP
    refine lv_pop hx hb dX11_crossedIn_35 rfl ?_
    refine lv_aload_n hx hb dX11_crossedIn_36 rfl (lv_at hl 1 rfl) ?_
    refine gM_m_hourOf hC hP tw_1315 dX11_crossedIn_37 ?_
    refine lv_iload_n hx hb dX11_crossedIn_40 rfl (lv_at hl 2 rfl) ?_
    obtain ⟨hi_41, hf⟩ := rf_gu hf
    refine lM_m_hourOf hC hP hi_41 (f := z32.2.2.2.2.2) rfl dX11_crossedIn_41 ?_
    obtain rfl := Option.some.inj hf
    exact rf_reti hC hP hS rfl rfl dX11_crossedIn_42
  have hf := rf_ie c_19 hf
  refine lv_aload_n hx hb dX11_crossedIn_22 rfl (lv_at hl 1 rfl) ?_
  refine lv_iload hx hb dX11_crossedIn_23 (lv_at hl 0 rfl) ?_
  obtain ⟨z25, hz25, hf⟩ := rf_bd hf
  refine rf_vi (q0 := 0) (ci := 11) hC (c_X11_no l E a (rf_upL I [(0, z1.1), (10, z1.2), (15, m_bestMany)]) (rf_upL A [(7, m_can), (8, m_now), (9, m_best), (13, m_hourOf)]) z1.2 z12 rfl hz25) kV_X11_no tw_1410 ⟨Nat.le_of_ble_eq_true rfl, Nat.le_of_ble_eq_true rfl⟩ rfl rfl rfl rfl rfl hP (rf_DM hD) hS rfl hl.1 (rest := []) rfl (Nat.le_of_ble_eq_true rfl) dX11_crossedIn_25 (fun H locs hP hS => ?_)
  rw [rf_cat (f := I) (l := [(0, z1.1), (10, z1.2), (15, m_bestMany)]) (lc := [(10, z25.2)]) (l' := [(0, z1.1), (10, z25.2), (15, m_bestMany)]) rfl] at hP
  obtain rfl := Option.some.inj hf
  exact rf_reti hC hP hS rfl rfl dX11_crossedIn_28
set_option maxHeartbeats 4000000 in
set_option maxRecDepth 100000 in
theorem w_X11_note_49 {l : Launch} {p : Program} {e : Env} {s : State} {m : MethodId} {args : Array Value} {below : List Frame} {meth : Method} {c : Code} {A0 : Nat → Prop} {E : rf_E} {a : Nat → Nat} {I : Nat → Int32} {A : Nat → Nat → Int32} {m_st : Nat → Int32} {z : Int32 × (Nat → Int32)} (hC : rf_C p E s m args meth c cX11_note 2 RX11 (none) A0) (hD : va_D A0 (cM E a I A)) (e_m_st : A 4 = m_st) :
    ∀ (m_undos : Int32) (m_undone : Nat → Int32), f_X11_note_49 m_st m_undos m_undone = some z → ∀ (H : Heap) (locs : List Loc) (ls : Array Slot), va_P (rf_D E) vwCl (cM E a (rf_upL I [(13, m_undos)]) (rf_upL A [(5, m_undone)])) H → va_S A0 s.heap H locs → lv_has ls 2 [(0, .ref (a 0))] → W p l e ({ frames := 6, cells := 0, slots := 0, locals := 200 }) s m args below meth c H locs 0 0 (rf_QV below args s E A0 (cM E a (rf_upL I [(13, z.1)]) (rf_upL A [(5, z.2)]))) (F0 m 49 ls []) := by
  have hx := hC.1
  have hb := hC.2.1
  intro m_undos m_undone hf H locs ls hP hS hl
  unfold f_X11_note_49 at hf
  refine lv_aload_n hx hb dX11_note_49 rfl (lv_at hl 0 rfl) ?_
  refine gM_m_st hC hP tw_1296 dX11_note_50 ?_
  refine lv_iconst (v := 0) hx hb dX11_note_53 (by decide) ?_
  refine lv_aload_n hx hb dX11_note_54 rfl (lv_at hl 0 rfl) ?_
  refine gM_m_undone hC hP tw_1297 dX11_note_55 ?_
  refine lv_bipush (v := 26) hx hb dX11_note_58 (by decide) ?_
  refine lv_aload_n hx hb dX11_note_60 rfl (lv_at hl 0 rfl) ?_
  refine gM_m_undos hC hP tw_1299 (v := m_undos) rfl dX11_note_61 ?_
  refine lv_imul hx hb dX11_note_64 ?_
  refine lv_bipush (v := 26) hx hb dX11_note_65 (by decide) ?_
  obtain ⟨hi_67, hf⟩ := rf_gu hf
  refine zM_m_st_m_undone hC hD hP hS hi_67 (f := m_st) e_m_st (g := m_undone) rfl tw_1566 hl.1 (Nat.le_of_ble_eq_true rfl) ⟨Nat.le_of_ble_eq_true rfl, Nat.le_of_ble_eq_true rfl⟩ dX11_note_67 (rf_upL A [(5, va_cpy m_st m_undone (Int32.toNatClampNeg 0) (Int32.toNatClampNeg ((26 : Int32) * m_undos)) (Int32.toNatClampNeg 26))]) (rf_put rfl) (fun H locs hP hS => ?_)
  refine lv_aload_n hx hb dX11_note_70 rfl (lv_at hl 0 rfl) ?_
  refine lv_dup hx hb dX11_note_71 rfl ?_
  refine gM_m_undos hC hP tw_1299 (v := m_undos) rfl dX11_note_72 ?_
  refine lv_iconst (v := 1) hx hb dX11_note_75 (by decide) ?_
  refine lv_iadd hx hb dX11_note_76 ?_
  refine pM_m_undos hC hD hP hS tw_1299 dX11_note_77 (rf_upL I [(13, m_undos + 1)]) (rf_put rfl) (fun H locs hP hS => ?_)
  obtain rfl := Option.some.inj hf
  exact rf_retv hC hP hS rfl dX11_note_80
set_option maxHeartbeats 4000000 in
set_option maxRecDepth 100000 in
theorem w_X11_note_11 {l : Launch} {p : Program} {e : Env} {s : State} {m : MethodId} {args : Array Value} {below : List Frame} {meth : Method} {c : Code} {A0 : Nat → Prop} {E : rf_E} {a : Nat → Nat} {I : Nat → Int32} {A : Nat → Nat → Int32} {m_st : Nat → Int32} {z : Int32 × (Nat → Int32)} (hC : rf_C p E s m args meth c cX11_note 2 RX11 (none) A0) (hD : va_D A0 (cM E a I A)) (e_m_st : A 4 = m_st) :
    ∀ (n : Nat), ∀ (v1 : Int32) (m_undos : Int32) (m_undone : Nat → Int32), f_X11_note_11 m_st n v1 m_undos m_undone = some z → ∀ (H : Heap) (locs : List Loc) (ls : Array Slot), va_P (rf_D E) vwCl (cM E a (rf_upL I [(13, m_undos)]) (rf_upL A [(5, m_undone)])) H → va_S A0 s.heap H locs → lv_has ls 2 [(0, .ref (a 0)), (1, .int v1)] → W p l e ({ frames := 6, cells := 0, slots := 0, locals := 200 }) s m args below meth c H locs 0 0 (rf_QV below args s E A0 (cM E a (rf_upL I [(13, z.1)]) (rf_upL A [(5, z.2)]))) (F0 m 11 ls []) := by
  have hx := hC.1
  have hb := hC.2.1
  intro n
  induction n with
  | zero =>
    intro v1 m_undos m_undone hf
    have hf : (none : Option (Int32 × (Nat → Int32))) = some z := hf
    cases hf
  | succ n ih =>
    intro v1 m_undos m_undone hf H locs ls hP hS hl
    rw [f_X11_note_11] at hf
    refine lv_iload_n hx hb dX11_note_11 rfl (lv_at hl 1 rfl) ?_
    refine lv_sipush (v := 390) hx hb dX11_note_12 (by decide) ?_
    refine lv_icmp_ge (tgt := 39) hx hb dX11_note_15 (by decide) (fun c_15 => ?_) (fun c_15 => ?_)
    · have hf := rf_it c_15 hf
      refine lv_aload_n hx hb dX11_note_39 rfl (lv_at hl 0 rfl) ?_
      refine lv_dup hx hb dX11_note_40 rfl ?_
      refine gM_m_undos hC hP tw_1299 (v := m_undos) rfl dX11_note_41 ?_
      refine lv_iconst (v := 1) hx hb dX11_note_44 (by decide) ?_
      refine lv_isub hx hb dX11_note_45 ?_
      refine pM_m_undos hC hD hP hS tw_1299 dX11_note_46 (rf_upL I [(13, m_undos - 1)]) (rf_put rfl) (fun H locs hP hS => ?_)
      exact w_X11_note_49 hC hD e_m_st (m_undos - 1) m_undone hf _ _ _ hP hS (lv_sub hl [0] rfl)
    have hf := rf_ie c_15 hf
    refine lv_aload_n hx hb dX11_note_18 rfl (lv_at hl 0 rfl) ?_
    refine gM_m_undone hC hP tw_1297 dX11_note_19 ?_
    refine lv_iload_n hx hb dX11_note_22 rfl (lv_at hl 1 rfl) ?_
    refine lv_aload_n hx hb dX11_note_23 rfl (lv_at hl 0 rfl) ?_
    refine gM_m_undone hC hP tw_1297 dX11_note_24 ?_
    refine lv_iload_n hx hb dX11_note_27 rfl (lv_at hl 1 rfl) ?_
    refine lv_bipush (v := 26) hx hb dX11_note_28 (by decide) ?_
    refine lv_iadd hx hb dX11_note_30 ?_
    obtain ⟨hi_31, hf⟩ := rf_gu hf
    refine lM_m_undone hC hP hi_31 (f := m_undone) rfl dX11_note_31 ?_
    obtain ⟨hi_32, hf⟩ := rf_gu hf
    refine sM_m_undone hC hD hP hS hi_32 (f := m_undone) rfl dX11_note_32 (rf_upL A [(5, upd m_undone (Int32.toNatClampNeg v1) (m_undone (Int32.toNatClampNeg (v1 + 26))))]) (rf_put rfl) (fun H locs hP hS => ?_)
    refine lv_iinc (v := v1 + 1) (lv' := [(1, .int (v1 + 1)), (0, .ref (a 0))]) hx hb dX11_note_33 hl (k := 1) rfl rfl (by decide) rfl (fun ls hl => ?_)
    refine lv_goto (tgt := 11) hx hb dX11_note_36 (by decide) ?_
    exact ih (v1 + 1) m_undos (upd m_undone (Int32.toNatClampNeg v1) (m_undone (Int32.toNatClampNeg (v1 + 26)))) hf _ _ _ hP hS (lv_sub hl [1, 0] rfl)
set_option maxHeartbeats 4000000 in
set_option maxRecDepth 100000 in
theorem c_X11_note (l : Launch) (E : rf_E) (a : Nat → Nat) (I : Nat → Int32) (A : Nat → Nat → Int32) (m_st : Nat → Int32) (m_undos : Int32) (m_undone : Nat → Int32) {z : Int32 × (Nat → Int32)} (e_m_st : A 4 = m_st) (e_m_undos : I 13 = m_undos) (e_m_undone : A 5 = m_undone) (hf : f_X11_note m_st m_undos m_undone = some z) : rf_MV l yX11_note cX11_note 2 ({ frames := 6, cells := 0, slots := 0, locals := 200 }) E [.ref (a 0)] (cM E a I A) (cM E a (rf_upL I [(13, z.1)]) (rf_upL A [(5, z.2)])) := by
  unfold f_X11_note at hf
  refine rf_ofV (by decide) (Nat.le_of_ble_eq_true rfl) ?_
  intro p e s m below meth c A0 ls hC hD hP hS hl
  have hC : rf_C p E s m _ meth c cX11_note 2 RX11 (none) A0 := hC
  have hx := hC.1
  have hb := hC.2.1
  have hl : lv_has ls 2 [(0, .ref (a 0))] := hl
  have hP : va_P (rf_D E) vwCl (cM E a (rf_upL I [(13, m_undos)]) (rf_upL A [(5, m_undone)])) s.heap := by
    rw [rf_self (f := I) [(13, m_undos)] (rf_fa1 e_m_undos rf_fa0)]
    rw [rf_self (f := A) [(5, m_undone)] (rf_fa1 e_m_undone rf_fa0)]
    exact hP
  refine lv_aload_n hx hb dX11_note_0 rfl (lv_at hl 0 rfl) ?_
  refine gM_m_undos hC hP tw_1299 (v := m_undos) rfl dX11_note_1 ?_
  refine lv_bipush (v := 16) hx hb dX11_note_4 (by decide) ?_
  refine lv_icmp_ne (tgt := 49) hx hb dX11_note_6 (by decide) (fun c_6 => ?_) (fun c_6 => ?_)
  · have hf := rf_ie c_6 hf
    exact w_X11_note_49 hC hD e_m_st m_undos m_undone hf _ _ _ hP hS (lv_sub hl [0] rfl)
  have hf := rf_it c_6 hf
  refine lv_iconst (v := 0) hx hb dX11_note_9 (by decide) ?_
  refine lv_istore_n (lv' := [(1, .int 0), (0, .ref (a 0))]) hx hb dX11_note_10 rfl hl (by decide) rfl (fun ls hl => ?_)
  exact w_X11_note_11 hC hD e_m_st rf_fu 0 m_undos m_undone hf _ _ _ hP hS (lv_sub hl [1, 0] rfl)
set_option maxHeartbeats 4000000 in
set_option maxRecDepth 100000 in
theorem w_X11_cross_56 {l : Launch} {p : Program} {e : Env} {s : State} {m : MethodId} {args : Array Value} {below : List Frame} {meth : Method} {c : Code} {A0 : Nat → Prop} {E : rf_E} {a : Nat → Nat} {I : Nat → Int32} {A : Nat → Nat → Int32} {m_hasFerry : Int32} {m_r : Nat → Int32} {z : Int32 × Int32 × Int32 × Int32 × (Nat → Int32) × (Nat → Int32)} (hC : rf_C p E s m args meth c cX11_cross 4 RX11 (some .int) A0) (hD : va_D A0 (cM E a I A)) (e_m_hasFerry : I 12 = m_hasFerry) (e_m_r : A 2 = m_r) :
    ∀ (m_thrown : Int32) (m_trouble : Int32) (m_undos : Int32) (m_st : Nat → Int32) (m_undone : Nat → Int32), f_X11_cross_56 m_hasFerry m_r m_thrown m_trouble m_undos m_st m_undone = some z → ∀ (H : Heap) (locs : List Loc) (ls : Array Slot), va_P (rf_D E) vwCl (cM E a (rf_upL I [(0, m_thrown), (10, m_trouble), (13, m_undos)]) (rf_upL A [(4, m_st), (5, m_undone)])) H → va_S A0 s.heap H locs → lv_has ls 4 [(0, .ref (a 0))] → W p l e ({ frames := 7, cells := 0, slots := 0, locals := 221 }) s m args below meth c H locs 0 0 (rf_QI below args s E A0 z.1 (cM E a (rf_upL I [(0, z.2.1), (10, z.2.2.1), (13, z.2.2.2.1)]) (rf_upL A [(4, z.2.2.2.2.1), (5, z.2.2.2.2.2)]))) (F0 m 56 ls []) := by
  have hx := hC.1
  have hb := hC.2.1
  intro m_thrown m_trouble m_undos m_st m_undone hf H locs ls hP hS hl
  unfold f_X11_cross_56 at hf
  refine lv_aload_n hx hb dX11_cross_56 rfl (lv_at hl 0 rfl) ?_
  refine lv_iconst (v := 5) hx hb dX11_cross_57 (by decide) ?_
  obtain ⟨z58, hz58, hf⟩ := rf_bd hf
  refine rf_vi (q0 := 0) (ci := 11) hC (c_X11_no l E a (rf_upL I [(0, m_thrown), (10, m_trouble), (13, m_undos)]) (rf_upL A [(4, m_st), (5, m_undone)]) m_trouble 5 rfl hz58) kV_X11_no tw_1410 ⟨Nat.le_of_ble_eq_true rfl, Nat.le_of_ble_eq_true rfl⟩ rfl rfl rfl rfl rfl hP (rf_DM hD) hS rfl hl.1 (rest := []) rfl (Nat.le_of_ble_eq_true rfl) dX11_cross_58 (fun H locs hP hS => ?_)
  rw [rf_cat (f := I) (l := [(0, m_thrown), (10, m_trouble), (13, m_undos)]) (lc := [(10, z58.2)]) (l' := [(0, m_thrown), (10, z58.2), (13, m_undos)]) rfl] at hP
  obtain rfl := Option.some.inj hf
  exact rf_reti hC hP hS rfl rfl dX11_cross_61
set_option maxHeartbeats 4000000 in
set_option maxRecDepth 100000 in
theorem w_X11_cross_125 {l : Launch} {p : Program} {e : Env} {s : State} {m : MethodId} {args : Array Value} {below : List Frame} {meth : Method} {c : Code} {A0 : Nat → Prop} {E : rf_E} {a : Nat → Nat} {I : Nat → Int32} {A : Nat → Nat → Int32} {m_hasFerry : Int32} {m_r : Nat → Int32} {z : Int32 × Int32 × Int32 × Int32 × (Nat → Int32) × (Nat → Int32)} (hC : rf_C p E s m args meth c cX11_cross 4 RX11 (some .int) A0) (hD : va_D A0 (cM E a I A)) (e_m_hasFerry : I 12 = m_hasFerry) (e_m_r : A 2 = m_r) :
    ∀ (v3 : Int32) (m_thrown : Int32) (m_trouble : Int32) (m_undos : Int32) (m_st : Nat → Int32) (m_undone : Nat → Int32), f_X11_cross_125 m_hasFerry m_r v3 m_thrown m_trouble m_undos m_st m_undone = some z → ∀ (H : Heap) (locs : List Loc) (ls : Array Slot), va_P (rf_D E) vwCl (cM E a (rf_upL I [(0, m_thrown), (10, m_trouble), (13, m_undos)]) (rf_upL A [(4, m_st), (5, m_undone)])) H → va_S A0 s.heap H locs → lv_has ls 4 [(3, .int v3)] → W p l e ({ frames := 7, cells := 0, slots := 0, locals := 221 }) s m args below meth c H locs 0 0 (rf_QI below args s E A0 z.1 (cM E a (rf_upL I [(0, z.2.1), (10, z.2.2.1), (13, z.2.2.2.1)]) (rf_upL A [(4, z.2.2.2.2.1), (5, z.2.2.2.2.2)]))) (F0 m 125 ls []) := by
  have hx := hC.1
  have hb := hC.2.1
  intro v3 m_thrown m_trouble m_undos m_st m_undone hf H locs ls hP hS hl
  unfold f_X11_cross_125 at hf
  refine lv_iload_n hx hb dX11_cross_125 rfl (lv_at hl 0 rfl) ?_
  obtain rfl := Option.some.inj hf
  exact rf_reti hC hP hS rfl rfl dX11_cross_126
set_option maxHeartbeats 4000000 in
set_option maxRecDepth 100000 in
theorem c_X11_cross (l : Launch) (E : rf_E) (a : Nat → Nat) (I : Nat → Int32) (A : Nat → Nat → Int32) (m_hasFerry : Int32) (m_r : Nat → Int32) (m_thrown : Int32) (m_trouble : Int32) (m_undos : Int32) (m_st : Nat → Int32) (m_undone : Nat → Int32) (v1 : Int32) (v2 : Int32) {z : Int32 × Int32 × Int32 × Int32 × (Nat → Int32) × (Nat → Int32)} (e_m_hasFerry : I 12 = m_hasFerry) (e_m_r : A 2 = m_r) (e_m_thrown : I 0 = m_thrown) (e_m_trouble : I 10 = m_trouble) (e_m_undos : I 13 = m_undos) (e_m_st : A 4 = m_st) (e_m_undone : A 5 = m_undone) (hf : f_X11_cross m_hasFerry m_r m_thrown m_trouble m_undos m_st m_undone v1 v2 = some z) : rf_MI l yX11_cross cX11_cross 4 (some .int) ({ frames := 7, cells := 0, slots := 0, locals := 221 }) E [.ref (a 0), .int v1, .int v2] (cM E a I A) z.1 (cM E a (rf_upL I [(0, z.2.1), (10, z.2.2.1), (13, z.2.2.2.1)]) (rf_upL A [(4, z.2.2.2.2.1), (5, z.2.2.2.2.2)])) := by
  unfold f_X11_cross at hf
  refine rf_ofI (by decide) (Nat.le_of_ble_eq_true rfl) ?_
  intro p e s m below meth c A0 ls hC hD hP hS hl
  have hC : rf_C p E s m _ meth c cX11_cross 4 RX11 (some .int) A0 := hC
  have hx := hC.1
  have hb := hC.2.1
  have hl : lv_has ls 4 [(0, .ref (a 0)), (1, .int v1), (2, .int v2)] := hl
  have hP : va_P (rf_D E) vwCl (cM E a (rf_upL I [(0, m_thrown), (10, m_trouble), (13, m_undos)]) (rf_upL A [(4, m_st), (5, m_undone)])) s.heap := by
    rw [rf_self (f := I) [(0, m_thrown), (10, m_trouble), (13, m_undos)] (rf_fa1 e_m_thrown (rf_fa1 e_m_trouble (rf_fa1 e_m_undos rf_fa0)))]
    rw [rf_self (f := A) [(4, m_st), (5, m_undone)] (rf_fa1 e_m_st (rf_fa1 e_m_undone rf_fa0))]
    exact hP
  refine lv_aload_n hx hb dX11_cross_0 rfl (lv_at hl 0 rfl) ?_
  obtain ⟨z1, hz1, hf⟩ := rf_bd hf
  refine rf_vv (q0 := 0) (ci := 11) hC (c_X11_good l E a (rf_upL I [(0, m_thrown), (10, m_trouble), (13, m_undos)]) (rf_upL A [(4, m_st), (5, m_undone)]) m_thrown m_trouble rfl rfl hz1) kV_X11_good tw_1403 ⟨Nat.le_of_ble_eq_true rfl, Nat.le_of_ble_eq_true rfl⟩ rfl rfl rfl rfl rfl hP (rf_DM hD) hS rfl hl.1 (rest := []) rfl (Nat.le_of_ble_eq_true rfl) dX11_cross_1 (fun H locs hP hS => ?_)
  rw [rf_cat (f := I) (l := [(0, m_thrown), (10, m_trouble), (13, m_undos)]) (lc := [(0, z1.1), (10, z1.2)]) (l' := [(0, z1.1), (10, z1.2), (13, m_undos)]) rfl] at hP
  refine lv_aload_n hx hb dX11_cross_4 rfl (lv_at hl 0 rfl) ?_
  refine lv_iload_n hx hb dX11_cross_5 rfl (lv_at hl 1 rfl) ?_
  refine lv_iload_n hx hb dX11_cross_6 rfl (lv_at hl 2 rfl) ?_
  obtain ⟨z7, hz7, hf⟩ := rf_bd hf
  refine rf_vi (q0 := 0) (ci := 11) hC (c_X11_areTwo l E a (rf_upL I [(0, z1.1), (10, z1.2), (13, m_undos)]) (rf_upL A [(4, m_st), (5, m_undone)]) m_hasFerry m_r v1 v2 e_m_hasFerry e_m_r hz7) kV_X11_areTwo tw_1632 ⟨Nat.le_of_ble_eq_true rfl, Nat.le_of_ble_eq_true rfl⟩ rfl rfl rfl rfl rfl hP (rf_DM hD) hS rfl hl.1 (rest := []) rfl (Nat.le_of_ble_eq_true rfl) dX11_cross_7 (fun H locs hP hS => ?_)
  refine lv_if_ne (tgt := 19) hx hb dX11_cross_10 (by decide) (fun c_10 => ?_) (fun c_10 => ?_)
  · have hf := rf_ie c_10 hf
    refine lv_aload_n hx hb dX11_cross_19 rfl (lv_at hl 0 rfl) ?_
    refine lv_iload_n hx hb dX11_cross_20 rfl (lv_at hl 1 rfl) ?_
    refine lv_iload_n hx hb dX11_cross_21 rfl (lv_at hl 2 rfl) ?_
    refine lv_aload_n hx hb dX11_cross_22 rfl (lv_at hl 0 rfl) ?_
    refine lv_aload_n hx hb dX11_cross_23 rfl (lv_at hl 0 rfl) ?_
    refine gM_m_st hC hP tw_1296 dX11_cross_24 ?_
    refine lv_bipush (v := 24) hx hb dX11_cross_27 (by decide) ?_
    refine lM_m_st hC hP (by decide) (f := m_st) rfl dX11_cross_29 ?_
    obtain ⟨z30, hz30, hf⟩ := rf_bd hf
    refine rf_vi (q0 := 0) (ci := 11) hC (c_X11_earAt l E a (rf_upL I [(0, z1.1), (10, z1.2), (13, m_undos)]) (rf_upL A [(4, m_st), (5, m_undone)]) m_r (m_st (Int32.toNatClampNeg 24)) e_m_r hz30) kV_X11_earAt tw_1624 ⟨Nat.le_of_ble_eq_true rfl, Nat.le_of_ble_eq_true rfl⟩ rfl rfl rfl rfl rfl hP (rf_DM hD) hS rfl hl.1 (rest := [.int v2, .int v1, .ref (a 0)]) rfl (Nat.le_of_ble_eq_true rfl) dX11_cross_30 (fun H locs hP hS => ?_)
    obtain ⟨z33, hz33, hf⟩ := rf_bd hf
    refine rf_vi (q0 := 0) (ci := 11) hC (c_X11_rhymeNow l E a (rf_upL I [(0, z1.1), (10, z1.2), (13, m_undos)]) (rf_upL A [(4, m_st), (5, m_undone)]) m_r m_st v1 v2 z30 e_m_r rfl hz33) kV_X11_rhymeNow tw_1636 ⟨Nat.le_of_ble_eq_true rfl, Nat.le_of_ble_eq_true rfl⟩ rfl rfl rfl rfl rfl hP (rf_DM hD) hS rfl hl.1 (rest := []) rfl (Nat.le_of_ble_eq_true rfl) dX11_cross_33 (fun H locs hP hS => ?_)
    refine lv_istore_n (lv' := [(3, .int z33), (0, .ref (a 0)), (1, .int v1), (2, .int v2)]) hx hb dX11_cross_36 rfl hl (by decide) rfl (fun ls hl => ?_)
    refine lv_aload_n hx hb dX11_cross_37 rfl (lv_at hl 1 rfl) ?_
    refine gM_m_st hC hP tw_1296 dX11_cross_38 ?_
    refine lv_iload_n hx hb dX11_cross_41 rfl (lv_at hl 2 rfl) ?_
    obtain ⟨hi_42, hf⟩ := rf_gu hf
    refine lM_m_st hC hP hi_42 (f := m_st) rfl dX11_cross_42 ?_
    refine lv_aload_n hx hb dX11_cross_43 rfl (lv_at hl 1 rfl) ?_
    refine gM_m_st hC hP tw_1296 dX11_cross_44 ?_
    refine lv_iload_n hx hb dX11_cross_47 rfl (lv_at hl 3 rfl) ?_
    obtain ⟨hi_48, hf⟩ := rf_gu hf
    refine lM_m_st hC hP hi_48 (f := m_st) rfl dX11_cross_48 ?_
    refine lv_icmp_ne (tgt := 56) hx hb dX11_cross_49 (by decide) (fun c_49 => ?_) (fun c_49 => ?_)
    · have hf := rf_ie c_49 hf
      exact w_X11_cross_56 hC hD e_m_hasFerry e_m_r z1.1 z1.2 m_undos m_st m_undone hf _ _ _ hP hS (lv_sub hl [1] rfl)
    have hf := rf_it c_49 hf
    refine lv_iload_n hx hb dX11_cross_52 rfl (lv_at hl 0 rfl) ?_
    refine lv_if_ne (tgt := 62) hx hb dX11_cross_53 (by decide) (fun c_53 => ?_) (fun c_53 => ?_)
    · have hf := rf_ie c_53 hf
      refine lv_aload_n hx hb dX11_cross_62 rfl (lv_at hl 1 rfl) ?_
      obtain ⟨z63, hz63, hf⟩ := rf_bd hf
      refine rf_vv (q0 := 0) (ci := 11) hC (c_X11_note l E a (rf_upL I [(0, z1.1), (10, z1.2), (13, m_undos)]) (rf_upL A [(4, m_st), (5, m_undone)]) m_st m_undos m_undone rfl rfl rfl hz63) kV_X11_note tw_1862 ⟨Nat.le_of_ble_eq_true rfl, Nat.le_of_ble_eq_true rfl⟩ rfl rfl rfl rfl rfl hP (rf_DM hD) hS rfl hl.1 (rest := []) rfl (Nat.le_of_ble_eq_true rfl) dX11_cross_63 (fun H locs hP hS => ?_)
      rw [rf_cat (f := I) (l := [(0, z1.1), (10, z1.2), (13, m_undos)]) (lc := [(13, z63.1)]) (l' := [(0, z1.1), (10, z1.2), (13, z63.1)]) rfl] at hP
      rw [rf_cat (f := A) (l := [(4, m_st), (5, m_undone)]) (lc := [(5, z63.2)]) (l' := [(4, m_st), (5, z63.2)]) rfl] at hP
      refine lv_aload_n hx hb dX11_cross_66 rfl (lv_at hl 1 rfl) ?_
      refine gM_m_st hC hP tw_1296 dX11_cross_67 ?_
      refine lv_iload_n hx hb dX11_cross_70 rfl (lv_at hl 2 rfl) ?_
      refine lv_iconst (v := 1) hx hb dX11_cross_71 (by decide) ?_
      refine lv_aload_n hx hb dX11_cross_72 rfl (lv_at hl 1 rfl) ?_
      refine gM_m_st hC hP tw_1296 dX11_cross_73 ?_
      refine lv_iload_n hx hb dX11_cross_76 rfl (lv_at hl 2 rfl) ?_
      obtain ⟨hi_77, hf⟩ := rf_gu hf
      refine lM_m_st hC hP hi_77 (f := m_st) rfl dX11_cross_77 ?_
      refine lv_isub hx hb dX11_cross_78 ?_
      obtain ⟨hi_79, hf⟩ := rf_gu hf
      refine sM_m_st hC hD hP hS hi_79 (f := m_st) rfl dX11_cross_79 (rf_upL A [(4, upd m_st (Int32.toNatClampNeg v1) ((1 : Int32) - (m_st (Int32.toNatClampNeg v1)))), (5, z63.2)]) (rf_put rfl) (fun H locs hP hS => ?_)
      refine lv_aload_n hx hb dX11_cross_80 rfl (lv_at hl 1 rfl) ?_
      refine gM_m_st hC hP tw_1296 dX11_cross_81 ?_
      refine lv_iload_n hx hb dX11_cross_84 rfl (lv_at hl 3 rfl) ?_
      refine lv_iconst (v := 1) hx hb dX11_cross_85 (by decide) ?_
      refine lv_aload_n hx hb dX11_cross_86 rfl (lv_at hl 1 rfl) ?_
      refine gM_m_st hC hP tw_1296 dX11_cross_87 ?_
      refine lv_iload_n hx hb dX11_cross_90 rfl (lv_at hl 3 rfl) ?_
      obtain ⟨hi_91, hf⟩ := rf_gu hf
      refine lM_m_st hC hP hi_91 (f := upd m_st (Int32.toNatClampNeg v1) ((1 : Int32) - (m_st (Int32.toNatClampNeg v1)))) rfl dX11_cross_91 ?_
      refine lv_isub hx hb dX11_cross_92 ?_
      obtain ⟨hi_93, hf⟩ := rf_gu hf
      refine sM_m_st hC hD hP hS hi_93 (f := upd m_st (Int32.toNatClampNeg v1) ((1 : Int32) - (m_st (Int32.toNatClampNeg v1)))) rfl dX11_cross_93 (rf_upL A [(4, upd (upd m_st (Int32.toNatClampNeg v1) ((1 : Int32) - (m_st (Int32.toNatClampNeg v1)))) (Int32.toNatClampNeg v2) ((1 : Int32) - ((upd m_st (Int32.toNatClampNeg v1) ((1 : Int32) - (m_st (Int32.toNatClampNeg v1)))) (Int32.toNatClampNeg v2)))), (5, z63.2)]) (rf_put rfl) (fun H locs hP hS => ?_)
      refine lv_iload_n hx hb dX11_cross_94 rfl (lv_at hl 0 rfl) ?_
      refine lv_iconst (v := 1) hx hb dX11_cross_95 (by decide) ?_
      refine lv_icmp_ne (tgt := 125) hx hb dX11_cross_96 (by decide) (fun c_96 => ?_) (fun c_96 => ?_)
      · have hf := rf_ie c_96 hf
        exact w_X11_cross_125 hC hD e_m_hasFerry e_m_r z33 z1.1 z1.2 z63.1 (upd (upd m_st (Int32.toNatClampNeg v1) ((1 : Int32) - (m_st (Int32.toNatClampNeg v1)))) (Int32.toNatClampNeg v2) ((1 : Int32) - ((upd m_st (Int32.toNatClampNeg v1) ((1 : Int32) - (m_st (Int32.toNatClampNeg v1)))) (Int32.toNatClampNeg v2)))) z63.2 hf _ _ _ hP hS (lv_sub hl [0] rfl)
      have hf := rf_it c_96 hf
      refine lv_aload_n hx hb dX11_cross_99 rfl (lv_at hl 1 rfl) ?_
      refine gM_m_st hC hP tw_1296 dX11_cross_100 ?_
      refine lv_bipush (v := 16) hx hb dX11_cross_103 (by decide) ?_
      refine lv_iload_n hx hb dX11_cross_105 rfl (lv_at hl 2 rfl) ?_
      refine lv_iadd hx hb dX11_cross_106 ?_
      refine lv_dup2_11 hx hb dX11_cross_107 rfl rfl ?_
      obtain ⟨hi_108, hf⟩ := rf_gu hf
      refine lM_m_st hC hP hi_108 (f := upd (upd m_st (Int32.toNatClampNeg v1) ((1 : Int32) - (m_st (Int32.toNatClampNeg v1)))) (Int32.toNatClampNeg v2) ((1 : Int32) - ((upd m_st (Int32.toNatClampNeg v1) ((1 : Int32) - (m_st (Int32.toNatClampNeg v1)))) (Int32.toNatClampNeg v2)))) rfl dX11_cross_108 ?_
      refine lv_iconst (v := 1) hx hb dX11_cross_109 (by decide) ?_
      refine lv_iadd hx hb dX11_cross_110 ?_
      obtain ⟨hi_111, hf⟩ := rf_gu hf
      refine sM_m_st hC hD hP hS hi_111 (f := upd (upd m_st (Int32.toNatClampNeg v1) ((1 : Int32) - (m_st (Int32.toNatClampNeg v1)))) (Int32.toNatClampNeg v2) ((1 : Int32) - ((upd m_st (Int32.toNatClampNeg v1) ((1 : Int32) - (m_st (Int32.toNatClampNeg v1)))) (Int32.toNatClampNeg v2)))) rfl dX11_cross_111 (rf_upL A [(4, upd (upd (upd m_st (Int32.toNatClampNeg v1) ((1 : Int32) - (m_st (Int32.toNatClampNeg v1)))) (Int32.toNatClampNeg v2) ((1 : Int32) - ((upd m_st (Int32.toNatClampNeg v1) ((1 : Int32) - (m_st (Int32.toNatClampNeg v1)))) (Int32.toNatClampNeg v2)))) (Int32.toNatClampNeg ((16 : Int32) + v1)) (((upd (upd m_st (Int32.toNatClampNeg v1) ((1 : Int32) - (m_st (Int32.toNatClampNeg v1)))) (Int32.toNatClampNeg v2) ((1 : Int32) - ((upd m_st (Int32.toNatClampNeg v1) ((1 : Int32) - (m_st (Int32.toNatClampNeg v1)))) (Int32.toNatClampNeg v2)))) (Int32.toNatClampNeg ((16 : Int32) + v1))) + 1)), (5, z63.2)]) (rf_put rfl) (fun H locs hP hS => ?_)
      refine lv_aload_n hx hb dX11_cross_112 rfl (lv_at hl 1 rfl) ?_
      refine gM_m_st hC hP tw_1296 dX11_cross_113 ?_
      refine lv_bipush (v := 16) hx hb dX11_cross_116 (by decide) ?_
      refine lv_iload_n hx hb dX11_cross_118 rfl (lv_at hl 3 rfl) ?_
      refine lv_iadd hx hb dX11_cross_119 ?_
      refine lv_dup2_11 hx hb dX11_cross_120 rfl rfl ?_
      obtain ⟨hi_121, hf⟩ := rf_gu hf
      refine lM_m_st hC hP hi_121 (f := upd (upd (upd m_st (Int32.toNatClampNeg v1) ((1 : Int32) - (m_st (Int32.toNatClampNeg v1)))) (Int32.toNatClampNeg v2) ((1 : Int32) - ((upd m_st (Int32.toNatClampNeg v1) ((1 : Int32) - (m_st (Int32.toNatClampNeg v1)))) (Int32.toNatClampNeg v2)))) (Int32.toNatClampNeg ((16 : Int32) + v1)) (((upd (upd m_st (Int32.toNatClampNeg v1) ((1 : Int32) - (m_st (Int32.toNatClampNeg v1)))) (Int32.toNatClampNeg v2) ((1 : Int32) - ((upd m_st (Int32.toNatClampNeg v1) ((1 : Int32) - (m_st (Int32.toNatClampNeg v1)))) (Int32.toNatClampNeg v2)))) (Int32.toNatClampNeg ((16 : Int32) + v1))) + 1)) rfl dX11_cross_121 ?_
      refine lv_iconst (v := 1) hx hb dX11_cross_122 (by decide) ?_
      refine lv_iadd hx hb dX11_cross_123 ?_
      obtain ⟨hi_124, hf⟩ := rf_gu hf
      refine sM_m_st hC hD hP hS hi_124 (f := upd (upd (upd m_st (Int32.toNatClampNeg v1) ((1 : Int32) - (m_st (Int32.toNatClampNeg v1)))) (Int32.toNatClampNeg v2) ((1 : Int32) - ((upd m_st (Int32.toNatClampNeg v1) ((1 : Int32) - (m_st (Int32.toNatClampNeg v1)))) (Int32.toNatClampNeg v2)))) (Int32.toNatClampNeg ((16 : Int32) + v1)) (((upd (upd m_st (Int32.toNatClampNeg v1) ((1 : Int32) - (m_st (Int32.toNatClampNeg v1)))) (Int32.toNatClampNeg v2) ((1 : Int32) - ((upd m_st (Int32.toNatClampNeg v1) ((1 : Int32) - (m_st (Int32.toNatClampNeg v1)))) (Int32.toNatClampNeg v2)))) (Int32.toNatClampNeg ((16 : Int32) + v1))) + 1)) rfl dX11_cross_124 (rf_upL A [(4, upd (upd (upd (upd m_st (Int32.toNatClampNeg v1) ((1 : Int32) - (m_st (Int32.toNatClampNeg v1)))) (Int32.toNatClampNeg v2) ((1 : Int32) - ((upd m_st (Int32.toNatClampNeg v1) ((1 : Int32) - (m_st (Int32.toNatClampNeg v1)))) (Int32.toNatClampNeg v2)))) (Int32.toNatClampNeg ((16 : Int32) + v1)) (((upd (upd m_st (Int32.toNatClampNeg v1) ((1 : Int32) - (m_st (Int32.toNatClampNeg v1)))) (Int32.toNatClampNeg v2) ((1 : Int32) - ((upd m_st (Int32.toNatClampNeg v1) ((1 : Int32) - (m_st (Int32.toNatClampNeg v1)))) (Int32.toNatClampNeg v2)))) (Int32.toNatClampNeg ((16 : Int32) + v1))) + 1)) (Int32.toNatClampNeg ((16 : Int32) + v2)) (((upd (upd (upd m_st (Int32.toNatClampNeg v1) ((1 : Int32) - (m_st (Int32.toNatClampNeg v1)))) (Int32.toNatClampNeg v2) ((1 : Int32) - ((upd m_st (Int32.toNatClampNeg v1) ((1 : Int32) - (m_st (Int32.toNatClampNeg v1)))) (Int32.toNatClampNeg v2)))) (Int32.toNatClampNeg ((16 : Int32) + v1)) (((upd (upd m_st (Int32.toNatClampNeg v1) ((1 : Int32) - (m_st (Int32.toNatClampNeg v1)))) (Int32.toNatClampNeg v2) ((1 : Int32) - ((upd m_st (Int32.toNatClampNeg v1) ((1 : Int32) - (m_st (Int32.toNatClampNeg v1)))) (Int32.toNatClampNeg v2)))) (Int32.toNatClampNeg ((16 : Int32) + v1))) + 1)) (Int32.toNatClampNeg ((16 : Int32) + v2))) + 1)), (5, z63.2)]) (rf_put rfl) (fun H locs hP hS => ?_)
      exact w_X11_cross_125 hC hD e_m_hasFerry e_m_r z33 z1.1 z1.2 z63.1 (upd (upd (upd (upd m_st (Int32.toNatClampNeg v1) ((1 : Int32) - (m_st (Int32.toNatClampNeg v1)))) (Int32.toNatClampNeg v2) ((1 : Int32) - ((upd m_st (Int32.toNatClampNeg v1) ((1 : Int32) - (m_st (Int32.toNatClampNeg v1)))) (Int32.toNatClampNeg v2)))) (Int32.toNatClampNeg ((16 : Int32) + v1)) (((upd (upd m_st (Int32.toNatClampNeg v1) ((1 : Int32) - (m_st (Int32.toNatClampNeg v1)))) (Int32.toNatClampNeg v2) ((1 : Int32) - ((upd m_st (Int32.toNatClampNeg v1) ((1 : Int32) - (m_st (Int32.toNatClampNeg v1)))) (Int32.toNatClampNeg v2)))) (Int32.toNatClampNeg ((16 : Int32) + v1))) + 1)) (Int32.toNatClampNeg ((16 : Int32) + v2)) (((upd (upd (upd m_st (Int32.toNatClampNeg v1) ((1 : Int32) - (m_st (Int32.toNatClampNeg v1)))) (Int32.toNatClampNeg v2) ((1 : Int32) - ((upd m_st (Int32.toNatClampNeg v1) ((1 : Int32) - (m_st (Int32.toNatClampNeg v1)))) (Int32.toNatClampNeg v2)))) (Int32.toNatClampNeg ((16 : Int32) + v1)) (((upd (upd m_st (Int32.toNatClampNeg v1) ((1 : Int32) - (m_st (Int32.toNatClampNeg v1)))) (Int32.toNatClampNeg v2) ((1 : Int32) - ((upd m_st (Int32.toNatClampNeg v1) ((1 : Int32) - (m_st (Int32.toNatClampNeg v1)))) (Int32.toNatClampNeg v2)))) (Int32.toNatClampNeg ((16 : Int32) + v1))) + 1)) (Int32.toNatClampNeg ((16 : Int32) + v2))) + 1)) z63.2 hf _ _ _ hP hS (lv_sub hl [0] rfl)
    have hf := rf_it c_53 hf
    exact w_X11_cross_56 hC hD e_m_hasFerry e_m_r z1.1 z1.2 m_undos m_st m_undone hf _ _ _ hP hS (lv_sub hl [1] rfl)
  have hf := rf_it c_10 hf
  refine lv_aload_n hx hb dX11_cross_13 rfl (lv_at hl 0 rfl) ?_
  refine lv_iconst (v := 1) hx hb dX11_cross_14 (by decide) ?_
  obtain ⟨z15, hz15, hf⟩ := rf_bd hf
  refine rf_vi (q0 := 0) (ci := 11) hC (c_X11_no l E a (rf_upL I [(0, z1.1), (10, z1.2), (13, m_undos)]) (rf_upL A [(4, m_st), (5, m_undone)]) z1.2 1 rfl hz15) kV_X11_no tw_1410 ⟨Nat.le_of_ble_eq_true rfl, Nat.le_of_ble_eq_true rfl⟩ rfl rfl rfl rfl rfl hP (rf_DM hD) hS rfl hl.1 (rest := []) rfl (Nat.le_of_ble_eq_true rfl) dX11_cross_15 (fun H locs hP hS => ?_)
  rw [rf_cat (f := I) (l := [(0, z1.1), (10, z1.2), (13, m_undos)]) (lc := [(10, z15.2)]) (l' := [(0, z1.1), (10, z15.2), (13, m_undos)]) rfl] at hP
  obtain rfl := Option.some.inj hf
  exact rf_reti hC hP hS rfl rfl dX11_cross_18
set_option maxHeartbeats 4000000 in
set_option maxRecDepth 100000 in
theorem w_X11_buy_20 {l : Launch} {p : Program} {e : Env} {s : State} {m : MethodId} {args : Array Value} {below : List Frame} {meth : Method} {c : Code} {A0 : Nat → Prop} {E : rf_E} {a : Nat → Nat} {I : Nat → Int32} {A : Nat → Nat → Int32} {m_hasFerry : Int32} {m_r : Nat → Int32} {z : Int32 × Int32 × Int32 × Int32 × (Nat → Int32) × (Nat → Int32)} (hC : rf_C p E s m args meth c cX11_buy 3 RX11 (some .int) A0) (hD : va_D A0 (cM E a I A)) (e_m_hasFerry : I 12 = m_hasFerry) (e_m_r : A 2 = m_r) :
    ∀ (m_thrown : Int32) (m_trouble : Int32) (m_undos : Int32) (m_st : Nat → Int32) (m_undone : Nat → Int32), f_X11_buy_20 m_hasFerry m_r m_thrown m_trouble m_undos m_st m_undone = some z → ∀ (H : Heap) (locs : List Loc) (ls : Array Slot), va_P (rf_D E) vwCl (cM E a (rf_upL I [(0, m_thrown), (10, m_trouble), (13, m_undos)]) (rf_upL A [(4, m_st), (5, m_undone)])) H → va_S A0 s.heap H locs → lv_has ls 3 [(0, .ref (a 0))] → W p l e ({ frames := 7, cells := 0, slots := 0, locals := 221 }) s m args below meth c H locs 0 0 (rf_QI below args s E A0 z.1 (cM E a (rf_upL I [(0, z.2.1), (10, z.2.2.1), (13, z.2.2.2.1)]) (rf_upL A [(4, z.2.2.2.2.1), (5, z.2.2.2.2.2)]))) (F0 m 20 ls []) := by
  have hx := hC.1
  have hb := hC.2.1
  intro m_thrown m_trouble m_undos m_st m_undone hf H locs ls hP hS hl
  unfold f_X11_buy_20 at hf
  refine lv_aload_n hx hb dX11_buy_20 rfl (lv_at hl 0 rfl) ?_
  refine lv_iconst (v := 1) hx hb dX11_buy_21 (by decide) ?_
  obtain ⟨z22, hz22, hf⟩ := rf_bd hf
  refine rf_vi (q0 := 0) (ci := 11) hC (c_X11_no l E a (rf_upL I [(0, m_thrown), (10, m_trouble), (13, m_undos)]) (rf_upL A [(4, m_st), (5, m_undone)]) m_trouble 1 rfl hz22) kV_X11_no tw_1410 ⟨Nat.le_of_ble_eq_true rfl, Nat.le_of_ble_eq_true rfl⟩ rfl rfl rfl rfl rfl hP (rf_DM hD) hS rfl hl.1 (rest := []) rfl (Nat.le_of_ble_eq_true rfl) dX11_buy_22 (fun H locs hP hS => ?_)
  rw [rf_cat (f := I) (l := [(0, m_thrown), (10, m_trouble), (13, m_undos)]) (lc := [(10, z22.2)]) (l' := [(0, m_thrown), (10, z22.2), (13, m_undos)]) rfl] at hP
  obtain rfl := Option.some.inj hf
  exact rf_reti hC hP hS rfl rfl dX11_buy_25
set_option maxHeartbeats 4000000 in
set_option maxRecDepth 100000 in
theorem c_X11_buy (l : Launch) (E : rf_E) (a : Nat → Nat) (I : Nat → Int32) (A : Nat → Nat → Int32) (m_hasFerry : Int32) (m_r : Nat → Int32) (m_thrown : Int32) (m_trouble : Int32) (m_undos : Int32) (m_st : Nat → Int32) (m_undone : Nat → Int32) (v1 : Int32) (v2 : Int32) {z : Int32 × Int32 × Int32 × Int32 × (Nat → Int32) × (Nat → Int32)} (e_m_hasFerry : I 12 = m_hasFerry) (e_m_r : A 2 = m_r) (e_m_thrown : I 0 = m_thrown) (e_m_trouble : I 10 = m_trouble) (e_m_undos : I 13 = m_undos) (e_m_st : A 4 = m_st) (e_m_undone : A 5 = m_undone) (hf : f_X11_buy m_hasFerry m_r m_thrown m_trouble m_undos m_st m_undone v1 v2 = some z) : rf_MI l yX11_buy cX11_buy 3 (some .int) ({ frames := 7, cells := 0, slots := 0, locals := 221 }) E [.ref (a 0), .int v1, .int v2] (cM E a I A) z.1 (cM E a (rf_upL I [(0, z.2.1), (10, z.2.2.1), (13, z.2.2.2.1)]) (rf_upL A [(4, z.2.2.2.2.1), (5, z.2.2.2.2.2)])) := by
  unfold f_X11_buy at hf
  refine rf_ofI (by decide) (Nat.le_of_ble_eq_true rfl) ?_
  intro p e s m below meth c A0 ls hC hD hP hS hl
  have hC : rf_C p E s m _ meth c cX11_buy 3 RX11 (some .int) A0 := hC
  have hx := hC.1
  have hb := hC.2.1
  have hl : lv_has ls 3 [(0, .ref (a 0)), (1, .int v1), (2, .int v2)] := hl
  have hP : va_P (rf_D E) vwCl (cM E a (rf_upL I [(0, m_thrown), (10, m_trouble), (13, m_undos)]) (rf_upL A [(4, m_st), (5, m_undone)])) s.heap := by
    rw [rf_self (f := I) [(0, m_thrown), (10, m_trouble), (13, m_undos)] (rf_fa1 e_m_thrown (rf_fa1 e_m_trouble (rf_fa1 e_m_undos rf_fa0)))]
    rw [rf_self (f := A) [(4, m_st), (5, m_undone)] (rf_fa1 e_m_st (rf_fa1 e_m_undone rf_fa0))]
    exact hP
  refine lv_aload_n hx hb dX11_buy_0 rfl (lv_at hl 0 rfl) ?_
  obtain ⟨z1, hz1, hf⟩ := rf_bd hf
  refine rf_vv (q0 := 0) (ci := 11) hC (c_X11_good l E a (rf_upL I [(0, m_thrown), (10, m_trouble), (13, m_undos)]) (rf_upL A [(4, m_st), (5, m_undone)]) m_thrown m_trouble rfl rfl hz1) kV_X11_good tw_1403 ⟨Nat.le_of_ble_eq_true rfl, Nat.le_of_ble_eq_true rfl⟩ rfl rfl rfl rfl rfl hP (rf_DM hD) hS rfl hl.1 (rest := []) rfl (Nat.le_of_ble_eq_true rfl) dX11_buy_1 (fun H locs hP hS => ?_)
  rw [rf_cat (f := I) (l := [(0, m_thrown), (10, m_trouble), (13, m_undos)]) (lc := [(0, z1.1), (10, z1.2)]) (l' := [(0, z1.1), (10, z1.2), (13, m_undos)]) rfl] at hP
  refine lv_aload_n hx hb dX11_buy_4 rfl (lv_at hl 0 rfl) ?_
  refine lv_iload_n hx hb dX11_buy_5 rfl (lv_at hl 1 rfl) ?_
  obtain ⟨z6, hz6, hf⟩ := rf_bd hf
  refine rf_vi (q0 := 0) (ci := 11) hC (c_X11_isPerson l E a (rf_upL I [(0, z1.1), (10, z1.2), (13, m_undos)]) (rf_upL A [(4, m_st), (5, m_undone)]) m_hasFerry m_r v1 e_m_hasFerry e_m_r hz6) kV_X11_isPerson tw_1605 ⟨Nat.le_of_ble_eq_true rfl, Nat.le_of_ble_eq_true rfl⟩ rfl rfl rfl rfl rfl hP (rf_DM hD) hS rfl hl.1 (rest := []) rfl (Nat.le_of_ble_eq_true rfl) dX11_buy_6 (fun H locs hP hS => ?_)
  refine lv_if_eq (tgt := 20) hx hb dX11_buy_9 (by decide) (fun c_9 => ?_) (fun c_9 => ?_)
  · have hf := rf_it c_9 hf
    exact w_X11_buy_20 hC hD e_m_hasFerry e_m_r z1.1 z1.2 m_undos m_st m_undone hf _ _ _ hP hS (lv_sub hl [0] rfl)
  have hf := rf_ie c_9 hf
  refine lv_aload_n hx hb dX11_buy_12 rfl (lv_at hl 0 rfl) ?_
  refine lv_iload_n hx hb dX11_buy_13 rfl (lv_at hl 2 rfl) ?_
  obtain ⟨z14, hz14, hf⟩ := rf_bd hf
  refine rf_vi (q0 := 0) (ci := 11) hC (c_X11_isWordThere l E a (rf_upL I [(0, z1.1), (10, z1.2), (13, m_undos)]) (rf_upL A [(4, m_st), (5, m_undone)]) m_hasFerry m_r v2 e_m_hasFerry e_m_r hz14) kV_X11_isWordThere tw_1581 ⟨Nat.le_of_ble_eq_true rfl, Nat.le_of_ble_eq_true rfl⟩ rfl rfl rfl rfl rfl hP (rf_DM hD) hS rfl hl.1 (rest := []) rfl (Nat.le_of_ble_eq_true rfl) dX11_buy_14 (fun H locs hP hS => ?_)
  refine lv_if_ne (tgt := 26) hx hb dX11_buy_17 (by decide) (fun c_17 => ?_) (fun c_17 => ?_)
  · have hf := rf_ie c_17 hf
    refine lv_aload_n hx hb dX11_buy_26 rfl (lv_at hl 0 rfl) ?_
    refine gM_m_st hC hP tw_1296 dX11_buy_27 ?_
    refine lv_bipush (v := 8) hx hb dX11_buy_30 (by decide) ?_
    refine lv_iload_n hx hb dX11_buy_32 rfl (lv_at hl 1 rfl) ?_
    refine lv_iadd hx hb dX11_buy_33 ?_
    obtain ⟨hi_34, hf⟩ := rf_gu hf
    refine lM_m_st hC hP hi_34 (f := m_st) rfl dX11_buy_34 ?_
    refine lv_iload_n hx hb dX11_buy_35 rfl (lv_at hl 2 rfl) ?_
    obtain ⟨z36, hz36, hf⟩ := rf_bd hf
    refine rf_si0 hC (c_X11_hasBit l E (m_st (Int32.toNatClampNeg ((8 : Int32) + v1))) v2 hz36) kS_X11_hasBit tw_1539 ⟨Nat.le_of_ble_eq_true rfl, Nat.le_of_ble_eq_true rfl⟩ rfl rfl hP hS rfl hl.1 (rest := []) rfl (Nat.le_of_ble_eq_true rfl) dX11_buy_36 (fun H locs hP hS => ?_)
    refine lv_if_eq (tgt := 48) hx hb dX11_buy_39 (by decide) (fun c_39 => ?_) (fun c_39 => ?_)
    · have hf := rf_it c_39 hf
      refine lv_aload_n hx hb dX11_buy_48 rfl (lv_at hl 0 rfl) ?_
      obtain ⟨z49, hz49, hf⟩ := rf_bd hf
      refine rf_vv (q0 := 0) (ci := 11) hC (c_X11_note l E a (rf_upL I [(0, z1.1), (10, z1.2), (13, m_undos)]) (rf_upL A [(4, m_st), (5, m_undone)]) m_st m_undos m_undone rfl rfl rfl hz49) kV_X11_note tw_1862 ⟨Nat.le_of_ble_eq_true rfl, Nat.le_of_ble_eq_true rfl⟩ rfl rfl rfl rfl rfl hP (rf_DM hD) hS rfl hl.1 (rest := []) rfl (Nat.le_of_ble_eq_true rfl) dX11_buy_49 (fun H locs hP hS => ?_)
      rw [rf_cat (f := I) (l := [(0, z1.1), (10, z1.2), (13, m_undos)]) (lc := [(13, z49.1)]) (l' := [(0, z1.1), (10, z1.2), (13, z49.1)]) rfl] at hP
      rw [rf_cat (f := A) (l := [(4, m_st), (5, m_undone)]) (lc := [(5, z49.2)]) (l' := [(4, m_st), (5, z49.2)]) rfl] at hP
      refine lv_aload_n hx hb dX11_buy_52 rfl (lv_at hl 0 rfl) ?_
      refine gM_m_st hC hP tw_1296 dX11_buy_53 ?_
      refine lv_bipush (v := 8) hx hb dX11_buy_56 (by decide) ?_
      refine lv_iload_n hx hb dX11_buy_58 rfl (lv_at hl 1 rfl) ?_
      refine lv_iadd hx hb dX11_buy_59 ?_
      refine lv_dup2_11 hx hb dX11_buy_60 rfl rfl ?_
      obtain ⟨hi_61, hf⟩ := rf_gu hf
      refine lM_m_st hC hP hi_61 (f := m_st) rfl dX11_buy_61 ?_
      refine lv_iconst (v := 1) hx hb dX11_buy_62 (by decide) ?_
      refine lv_iload_n hx hb dX11_buy_63 rfl (lv_at hl 2 rfl) ?_
      refine lv_ishl hx hb dX11_buy_64 ?_
      refine lv_ior hx hb dX11_buy_65 ?_
      obtain ⟨hi_66, hf⟩ := rf_gu hf
      refine sM_m_st hC hD hP hS hi_66 (f := m_st) rfl dX11_buy_66 (rf_upL A [(4, upd m_st (Int32.toNatClampNeg ((8 : Int32) + v1)) ((m_st (Int32.toNatClampNeg ((8 : Int32) + v1))) ||| ((1 : Int32) <<< (v2 &&& 31)))), (5, z49.2)]) (rf_put rfl) (fun H locs hP hS => ?_)
      refine lv_aload_n hx hb dX11_buy_67 rfl (lv_at hl 0 rfl) ?_
      refine gM_m_st hC hP tw_1296 dX11_buy_68 ?_
      refine lv_bipush (v := 25) hx hb dX11_buy_71 (by decide) ?_
      refine lv_dup2_11 hx hb dX11_buy_73 rfl rfl ?_
      refine lM_m_st hC hP (by decide) (f := upd m_st (Int32.toNatClampNeg ((8 : Int32) + v1)) ((m_st (Int32.toNatClampNeg ((8 : Int32) + v1))) ||| ((1 : Int32) <<< (v2 &&& 31)))) rfl dX11_buy_74 ?_
      refine lv_aload_n hx hb dX11_buy_75 rfl (lv_at hl 0 rfl) ?_
      refine lv_iload_n hx hb dX11_buy_76 rfl (lv_at hl 2 rfl) ?_
      obtain ⟨z77, hz77, hf⟩ := rf_bd hf
      refine rf_vi (q0 := 0) (ci := 11) hC (c_X11_priceOf l E a (rf_upL I [(0, z1.1), (10, z1.2), (13, z49.1)]) (rf_upL A [(4, upd m_st (Int32.toNatClampNeg ((8 : Int32) + v1)) ((m_st (Int32.toNatClampNeg ((8 : Int32) + v1))) ||| ((1 : Int32) <<< (v2 &&& 31)))), (5, z49.2)]) m_r v2 e_m_r hz77) kV_X11_priceOf tw_1695 ⟨Nat.le_of_ble_eq_true rfl, Nat.le_of_ble_eq_true rfl⟩ rfl rfl rfl rfl rfl hP (rf_DM hD) hS rfl hl.1 (rest := [.int ((upd m_st (Int32.toNatClampNeg ((8 : Int32) + v1)) ((m_st (Int32.toNatClampNeg ((8 : Int32) + v1))) ||| ((1 : Int32) <<< (v2 &&& 31)))) (Int32.toNatClampNeg 25)), .int 25, .ref (a 5)]) rfl (Nat.le_of_ble_eq_true rfl) dX11_buy_77 (fun H locs hP hS => ?_)
      refine lv_iadd hx hb dX11_buy_80 ?_
      refine sM_m_st hC hD hP hS (by decide) (f := upd m_st (Int32.toNatClampNeg ((8 : Int32) + v1)) ((m_st (Int32.toNatClampNeg ((8 : Int32) + v1))) ||| ((1 : Int32) <<< (v2 &&& 31)))) rfl dX11_buy_81 (rf_upL A [(4, upd (upd m_st (Int32.toNatClampNeg ((8 : Int32) + v1)) ((m_st (Int32.toNatClampNeg ((8 : Int32) + v1))) ||| ((1 : Int32) <<< (v2 &&& 31)))) (Int32.toNatClampNeg 25) (((upd m_st (Int32.toNatClampNeg ((8 : Int32) + v1)) ((m_st (Int32.toNatClampNeg ((8 : Int32) + v1))) ||| ((1 : Int32) <<< (v2 &&& 31)))) (Int32.toNatClampNeg 25)) + z77)), (5, z49.2)]) (rf_put rfl) (fun H locs hP hS => ?_)
      refine lv_aload_n hx hb dX11_buy_82 rfl (lv_at hl 0 rfl) ?_
      refine gM_m_st hC hP tw_1296 dX11_buy_83 ?_
      refine lv_bipush (v := 25) hx hb dX11_buy_86 (by decide) ?_
      refine lM_m_st hC hP (by decide) (f := upd (upd m_st (Int32.toNatClampNeg ((8 : Int32) + v1)) ((m_st (Int32.toNatClampNeg ((8 : Int32) + v1))) ||| ((1 : Int32) <<< (v2 &&& 31)))) (Int32.toNatClampNeg 25) (((upd m_st (Int32.toNatClampNeg ((8 : Int32) + v1)) ((m_st (Int32.toNatClampNeg ((8 : Int32) + v1))) ||| ((1 : Int32) <<< (v2 &&& 31)))) (Int32.toNatClampNeg 25)) + z77)) rfl dX11_buy_88 ?_
      obtain rfl := Option.some.inj hf
      exact rf_reti hC hP hS rfl rfl dX11_buy_89
    have hf := rf_ie c_39 hf
    refine lv_aload_n hx hb dX11_buy_42 rfl (lv_at hl 0 rfl) ?_
    refine lv_iconst (v := 5) hx hb dX11_buy_43 (by decide) ?_
    obtain ⟨z44, hz44, hf⟩ := rf_bd hf
    refine rf_vi (q0 := 0) (ci := 11) hC (c_X11_no l E a (rf_upL I [(0, z1.1), (10, z1.2), (13, m_undos)]) (rf_upL A [(4, m_st), (5, m_undone)]) z1.2 5 rfl hz44) kV_X11_no tw_1410 ⟨Nat.le_of_ble_eq_true rfl, Nat.le_of_ble_eq_true rfl⟩ rfl rfl rfl rfl rfl hP (rf_DM hD) hS rfl hl.1 (rest := []) rfl (Nat.le_of_ble_eq_true rfl) dX11_buy_44 (fun H locs hP hS => ?_)
    rw [rf_cat (f := I) (l := [(0, z1.1), (10, z1.2), (13, m_undos)]) (lc := [(10, z44.2)]) (l' := [(0, z1.1), (10, z44.2), (13, m_undos)]) rfl] at hP
    obtain rfl := Option.some.inj hf
    exact rf_reti hC hP hS rfl rfl dX11_buy_47
  have hf := rf_it c_17 hf
  exact w_X11_buy_20 hC hD e_m_hasFerry e_m_r z1.1 z1.2 m_undos m_st m_undone hf _ _ _ hP hS (lv_sub hl [0] rfl)
set_option maxHeartbeats 4000000 in
set_option maxRecDepth 100000 in
theorem c_X11_hours (l : Launch) (E : rf_E) (a : Nat → Nat) (I : Nat → Int32) (A : Nat → Nat → Int32) (m_hasFerry : Int32) (m_thrown : Int32) (m_trouble : Int32) (m_undos : Int32) (m_st : Nat → Int32) (m_undone : Nat → Int32) (v1 : Int32) {z : Int32 × Int32 × Int32 × Int32 × (Nat → Int32) × (Nat → Int32)} (e_m_hasFerry : I 12 = m_hasFerry) (e_m_thrown : I 0 = m_thrown) (e_m_trouble : I 10 = m_trouble) (e_m_undos : I 13 = m_undos) (e_m_st : A 4 = m_st) (e_m_undone : A 5 = m_undone) (hf : f_X11_hours m_hasFerry m_thrown m_trouble m_undos m_st m_undone v1 = some z) : rf_MI l yX11_hours cX11_hours 2 (some .int) ({ frames := 7, cells := 0, slots := 0, locals := 221 }) E [.ref (a 0), .int v1] (cM E a I A) z.1 (cM E a (rf_upL I [(0, z.2.1), (10, z.2.2.1), (13, z.2.2.2.1)]) (rf_upL A [(4, z.2.2.2.2.1), (5, z.2.2.2.2.2)])) := by
  unfold f_X11_hours at hf
  refine rf_ofI (by decide) (Nat.le_of_ble_eq_true rfl) ?_
  intro p e s m below meth c A0 ls hC hD hP hS hl
  have hC : rf_C p E s m _ meth c cX11_hours 2 RX11 (some .int) A0 := hC
  have hx := hC.1
  have hb := hC.2.1
  have hl : lv_has ls 2 [(0, .ref (a 0)), (1, .int v1)] := hl
  have hP : va_P (rf_D E) vwCl (cM E a (rf_upL I [(0, m_thrown), (10, m_trouble), (13, m_undos)]) (rf_upL A [(4, m_st), (5, m_undone)])) s.heap := by
    rw [rf_self (f := I) [(0, m_thrown), (10, m_trouble), (13, m_undos)] (rf_fa1 e_m_thrown (rf_fa1 e_m_trouble (rf_fa1 e_m_undos rf_fa0)))]
    rw [rf_self (f := A) [(4, m_st), (5, m_undone)] (rf_fa1 e_m_st (rf_fa1 e_m_undone rf_fa0))]
    exact hP
  refine lv_aload_n hx hb dX11_hours_0 rfl (lv_at hl 0 rfl) ?_
  obtain ⟨z1, hz1, hf⟩ := rf_bd hf
  refine rf_vv (q0 := 0) (ci := 11) hC (c_X11_good l E a (rf_upL I [(0, m_thrown), (10, m_trouble), (13, m_undos)]) (rf_upL A [(4, m_st), (5, m_undone)]) m_thrown m_trouble rfl rfl hz1) kV_X11_good tw_1403 ⟨Nat.le_of_ble_eq_true rfl, Nat.le_of_ble_eq_true rfl⟩ rfl rfl rfl rfl rfl hP (rf_DM hD) hS rfl hl.1 (rest := []) rfl (Nat.le_of_ble_eq_true rfl) dX11_hours_1 (fun H locs hP hS => ?_)
  rw [rf_cat (f := I) (l := [(0, m_thrown), (10, m_trouble), (13, m_undos)]) (lc := [(0, z1.1), (10, z1.2)]) (l' := [(0, z1.1), (10, z1.2), (13, m_undos)]) rfl] at hP
  refine lv_aload_n hx hb dX11_hours_4 rfl (lv_at hl 0 rfl) ?_
  refine gM_m_hasFerry hC hP tw_1293 (v := m_hasFerry) e_m_hasFerry dX11_hours_5 ?_
  refine lv_if_ne (tgt := 17) hx hb dX11_hours_8 (by decide) (fun c_8 => ?_) (fun c_8 => ?_)
  · have hf := rf_ie c_8 hf
    refine lv_iload_n hx hb dX11_hours_17 rfl (lv_at hl 1 rfl) ?_
    refine lv_iconst (v := 1) hx hb dX11_hours_18 (by decide) ?_
    refine lv_bipush (v := 23) hx hb dX11_hours_19 (by decide) ?_
    obtain ⟨z21, hz21, hf⟩ := rf_bd hf
    refine rf_si0 hC (c_X11_in l E v1 1 23 hz21) kS_X11_in tw_1407 ⟨Nat.le_of_ble_eq_true rfl, Nat.le_of_ble_eq_true rfl⟩ rfl rfl hP hS rfl hl.1 (rest := []) rfl (Nat.le_of_ble_eq_true rfl) dX11_hours_21 (fun H locs hP hS => ?_)
    refine lv_if_ne (tgt := 33) hx hb dX11_hours_24 (by decide) (fun c_24 => ?_) (fun c_24 => ?_)
    · have hf := rf_ie c_24 hf
      refine lv_aload_n hx hb dX11_hours_33 rfl (lv_at hl 0 rfl) ?_
      obtain ⟨z34, hz34, hf⟩ := rf_bd hf
      refine rf_vv (q0 := 0) (ci := 11) hC (c_X11_note l E a (rf_upL I [(0, z1.1), (10, z1.2), (13, m_undos)]) (rf_upL A [(4, m_st), (5, m_undone)]) m_st m_undos m_undone rfl rfl rfl hz34) kV_X11_note tw_1862 ⟨Nat.le_of_ble_eq_true rfl, Nat.le_of_ble_eq_true rfl⟩ rfl rfl rfl rfl rfl hP (rf_DM hD) hS rfl hl.1 (rest := []) rfl (Nat.le_of_ble_eq_true rfl) dX11_hours_34 (fun H locs hP hS => ?_)
      rw [rf_cat (f := I) (l := [(0, z1.1), (10, z1.2), (13, m_undos)]) (lc := [(13, z34.1)]) (l' := [(0, z1.1), (10, z1.2), (13, z34.1)]) rfl] at hP
      rw [rf_cat (f := A) (l := [(4, m_st), (5, m_undone)]) (lc := [(5, z34.2)]) (l' := [(4, m_st), (5, z34.2)]) rfl] at hP
      refine lv_aload_n hx hb dX11_hours_37 rfl (lv_at hl 0 rfl) ?_
      refine gM_m_st hC hP tw_1296 dX11_hours_38 ?_
      refine lv_bipush (v := 24) hx hb dX11_hours_41 (by decide) ?_
      refine lv_aload_n hx hb dX11_hours_43 rfl (lv_at hl 0 rfl) ?_
      refine gM_m_st hC hP tw_1296 dX11_hours_44 ?_
      refine lv_bipush (v := 24) hx hb dX11_hours_47 (by decide) ?_
      refine lM_m_st hC hP (by decide) (f := m_st) rfl dX11_hours_49 ?_
      refine lv_iload_n hx hb dX11_hours_50 rfl (lv_at hl 1 rfl) ?_
      refine lv_iadd hx hb dX11_hours_51 ?_
      refine lv_bipush (v := 24) hx hb dX11_hours_52 (by decide) ?_
      refine lv_irem hx hb dX11_hours_54 (by decide) ?_
      refine sM_m_st hC hD hP hS (by decide) (f := m_st) rfl dX11_hours_55 (rf_upL A [(4, upd m_st (Int32.toNatClampNeg 24) (((m_st (Int32.toNatClampNeg 24)) + v1) - ((m_st (Int32.toNatClampNeg 24)) + v1) / 24 * 24)), (5, z34.2)]) (rf_put rfl) (fun H locs hP hS => ?_)
      refine lv_aload_n hx hb dX11_hours_56 rfl (lv_at hl 0 rfl) ?_
      refine gM_m_st hC hP tw_1296 dX11_hours_57 ?_
      refine lv_bipush (v := 24) hx hb dX11_hours_60 (by decide) ?_
      refine lM_m_st hC hP (by decide) (f := upd m_st (Int32.toNatClampNeg 24) (((m_st (Int32.toNatClampNeg 24)) + v1) - ((m_st (Int32.toNatClampNeg 24)) + v1) / 24 * 24)) rfl dX11_hours_62 ?_
      obtain rfl := Option.some.inj hf
      exact rf_reti hC hP hS rfl rfl dX11_hours_63
    have hf := rf_it c_24 hf
    refine lv_aload_n hx hb dX11_hours_27 rfl (lv_at hl 0 rfl) ?_
    refine lv_iconst (v := 2) hx hb dX11_hours_28 (by decide) ?_
    obtain ⟨z29, hz29, hf⟩ := rf_bd hf
    refine rf_vi (q0 := 0) (ci := 11) hC (c_X11_no l E a (rf_upL I [(0, z1.1), (10, z1.2), (13, m_undos)]) (rf_upL A [(4, m_st), (5, m_undone)]) z1.2 2 rfl hz29) kV_X11_no tw_1410 ⟨Nat.le_of_ble_eq_true rfl, Nat.le_of_ble_eq_true rfl⟩ rfl rfl rfl rfl rfl hP (rf_DM hD) hS rfl hl.1 (rest := []) rfl (Nat.le_of_ble_eq_true rfl) dX11_hours_29 (fun H locs hP hS => ?_)
    rw [rf_cat (f := I) (l := [(0, z1.1), (10, z1.2), (13, m_undos)]) (lc := [(10, z29.2)]) (l' := [(0, z1.1), (10, z29.2), (13, m_undos)]) rfl] at hP
    obtain rfl := Option.some.inj hf
    exact rf_reti hC hP hS rfl rfl dX11_hours_32
  have hf := rf_it c_8 hf
  refine lv_aload_n hx hb dX11_hours_11 rfl (lv_at hl 0 rfl) ?_
  refine lv_iconst (v := 1) hx hb dX11_hours_12 (by decide) ?_
  obtain ⟨z13, hz13, hf⟩ := rf_bd hf
  refine rf_vi (q0 := 0) (ci := 11) hC (c_X11_no l E a (rf_upL I [(0, z1.1), (10, z1.2), (13, m_undos)]) (rf_upL A [(4, m_st), (5, m_undone)]) z1.2 1 rfl hz13) kV_X11_no tw_1410 ⟨Nat.le_of_ble_eq_true rfl, Nat.le_of_ble_eq_true rfl⟩ rfl rfl rfl rfl rfl hP (rf_DM hD) hS rfl hl.1 (rest := []) rfl (Nat.le_of_ble_eq_true rfl) dX11_hours_13 (fun H locs hP hS => ?_)
  rw [rf_cat (f := I) (l := [(0, z1.1), (10, z1.2), (13, m_undos)]) (lc := [(10, z13.2)]) (l' := [(0, z1.1), (10, z13.2), (13, m_undos)]) rfl] at hP
  obtain rfl := Option.some.inj hf
  exact rf_reti hC hP hS rfl rfl dX11_hours_16
set_option maxHeartbeats 4000000 in
set_option maxRecDepth 100000 in
theorem c_X11_isNot (l : Launch) (E : rf_E) (a : Nat → Nat) (I : Nat → Int32) (A : Nat → Nat → Int32) (m_trouble : Int32) (v1 : Int32) {z : Int32 × Int32} (e_m_trouble : I 10 = m_trouble) (hf : f_X11_isNot m_trouble v1 = some z) : rf_MI l yX11_isNot cX11_isNot 2 (some .boolean) ({ frames := 0, cells := 0, slots := 0, locals := 0 }) E [.ref (a 0), .int v1] (cM E a I A) z.1 (cM E a (rf_upL I [(10, z.2)]) A) := by
  unfold f_X11_isNot at hf
  refine rf_ofI (by decide) (Nat.le_of_ble_eq_true rfl) ?_
  intro p e s m below meth c A0 ls hC hD hP hS hl
  have hC : rf_C p E s m _ meth c cX11_isNot 2 RX11 (some .boolean) A0 := hC
  have hx := hC.1
  have hb := hC.2.1
  have hl : lv_has ls 2 [(0, .ref (a 0)), (1, .int v1)] := hl
  have hP : va_P (rf_D E) vwCl (cM E a (rf_upL I [(10, m_trouble)]) A) s.heap := by
    rw [rf_self (f := I) [(10, m_trouble)] (rf_fa1 e_m_trouble rf_fa0)]
    exact hP
  refine lv_aload_n hx hb dX11_isNot_0 rfl (lv_at hl 0 rfl) ?_
  refine lv_iload_n hx hb dX11_isNot_1 rfl (lv_at hl 1 rfl) ?_
  refine pM_m_trouble hC hD hP hS tw_1290 dX11_isNot_2 (rf_upL I [(10, v1)]) (rf_put rfl) (fun H locs hP hS => ?_)
  refine lv_iconst (v := 0) hx hb dX11_isNot_5 (by decide) ?_
  obtain rfl := Option.some.inj hf
  exact rf_retz hC hP hS (by decide) rfl rfl dX11_isNot_6
set_option maxHeartbeats 4000000 in
set_option maxRecDepth 100000 in
theorem c_X11_undo (l : Launch) (E : rf_E) (a : Nat → Nat) (I : Nat → Int32) (A : Nat → Nat → Int32) (m_undone : Nat → Int32) (m_thrown : Int32) (m_trouble : Int32) (m_undos : Int32) (m_st : Nat → Int32) {z : Int32 × Int32 × Int32 × Int32 × (Nat → Int32)} (e_m_undone : A 5 = m_undone) (e_m_thrown : I 0 = m_thrown) (e_m_trouble : I 10 = m_trouble) (e_m_undos : I 13 = m_undos) (e_m_st : A 4 = m_st) (hf : f_X11_undo m_undone m_thrown m_trouble m_undos m_st = some z) : rf_MI l yX11_undo cX11_undo 1 (some .boolean) ({ frames := 6, cells := 0, slots := 0, locals := 200 }) E [.ref (a 0)] (cM E a I A) z.1 (cM E a (rf_upL I [(0, z.2.1), (10, z.2.2.1), (13, z.2.2.2.1)]) (rf_upL A [(4, z.2.2.2.2)])) := by
  unfold f_X11_undo at hf
  refine rf_ofI (by decide) (Nat.le_of_ble_eq_true rfl) ?_
  intro p e s m below meth c A0 ls hC hD hP hS hl
  have hC : rf_C p E s m _ meth c cX11_undo 1 RX11 (some .boolean) A0 := hC
  have hx := hC.1
  have hb := hC.2.1
  have hl : lv_has ls 1 [(0, .ref (a 0))] := hl
  have hP : va_P (rf_D E) vwCl (cM E a (rf_upL I [(0, m_thrown), (10, m_trouble), (13, m_undos)]) (rf_upL A [(4, m_st)])) s.heap := by
    rw [rf_self (f := I) [(0, m_thrown), (10, m_trouble), (13, m_undos)] (rf_fa1 e_m_thrown (rf_fa1 e_m_trouble (rf_fa1 e_m_undos rf_fa0)))]
    rw [rf_self (f := A) [(4, m_st)] (rf_fa1 e_m_st rf_fa0)]
    exact hP
  refine lv_aload_n hx hb dX11_undo_0 rfl (lv_at hl 0 rfl) ?_
  obtain ⟨z1, hz1, hf⟩ := rf_bd hf
  refine rf_vv (q0 := 0) (ci := 11) hC (c_X11_good l E a (rf_upL I [(0, m_thrown), (10, m_trouble), (13, m_undos)]) (rf_upL A [(4, m_st)]) m_thrown m_trouble rfl rfl hz1) kV_X11_good tw_1403 ⟨Nat.le_of_ble_eq_true rfl, Nat.le_of_ble_eq_true rfl⟩ rfl rfl rfl rfl rfl hP (rf_DM hD) hS rfl hl.1 (rest := []) rfl (Nat.le_of_ble_eq_true rfl) dX11_undo_1 (fun H locs hP hS => ?_)
  rw [rf_cat (f := I) (l := [(0, m_thrown), (10, m_trouble), (13, m_undos)]) (lc := [(0, z1.1), (10, z1.2)]) (l' := [(0, z1.1), (10, z1.2), (13, m_undos)]) rfl] at hP
  refine lv_aload_n hx hb dX11_undo_4 rfl (lv_at hl 0 rfl) ?_
  refine gM_m_undos hC hP tw_1299 (v := m_undos) rfl dX11_undo_5 ?_
  refine lv_if_ne (tgt := 18) hx hb dX11_undo_8 (by decide) (fun c_8 => ?_) (fun c_8 => ?_)
  · have hf := rf_ie c_8 hf
    refine lv_aload_n hx hb dX11_undo_18 rfl (lv_at hl 0 rfl) ?_
    refine lv_dup hx hb dX11_undo_19 rfl ?_
    refine gM_m_undos hC hP tw_1299 (v := m_undos) rfl dX11_undo_20 ?_
    refine lv_iconst (v := 1) hx hb dX11_undo_23 (by decide) ?_
    refine lv_isub hx hb dX11_undo_24 ?_
    refine pM_m_undos hC hD hP hS tw_1299 dX11_undo_25 (rf_upL I [(0, z1.1), (10, z1.2), (13, m_undos - 1)]) (rf_put rfl) (fun H locs hP hS => ?_)
    refine lv_aload_n hx hb dX11_undo_28 rfl (lv_at hl 0 rfl) ?_
    refine gM_m_undone hC hP tw_1297 dX11_undo_29 ?_
    refine lv_bipush (v := 26) hx hb dX11_undo_32 (by decide) ?_
    refine lv_aload_n hx hb dX11_undo_34 rfl (lv_at hl 0 rfl) ?_
    refine gM_m_undos hC hP tw_1299 (v := m_undos - 1) rfl dX11_undo_35 ?_
    refine lv_imul hx hb dX11_undo_38 ?_
    refine lv_aload_n hx hb dX11_undo_39 rfl (lv_at hl 0 rfl) ?_
    refine gM_m_st hC hP tw_1296 dX11_undo_40 ?_
    refine lv_iconst (v := 0) hx hb dX11_undo_43 (by decide) ?_
    refine lv_bipush (v := 26) hx hb dX11_undo_44 (by decide) ?_
    obtain ⟨hi_46, hf⟩ := rf_gu hf
    refine zM_m_undone_m_st hC hD hP hS hi_46 (f := m_undone) e_m_undone (g := m_st) rfl tw_1566 hl.1 (Nat.le_of_ble_eq_true rfl) ⟨Nat.le_of_ble_eq_true rfl, Nat.le_of_ble_eq_true rfl⟩ dX11_undo_46 (rf_upL A [(4, va_cpy m_undone m_st (Int32.toNatClampNeg ((26 : Int32) * (m_undos - 1))) (Int32.toNatClampNeg 0) (Int32.toNatClampNeg 26))]) (rf_put rfl) (fun H locs hP hS => ?_)
    refine lv_iconst (v := 1) hx hb dX11_undo_49 (by decide) ?_
    obtain rfl := Option.some.inj hf
    exact rf_retz hC hP hS (by decide) rfl rfl dX11_undo_50
  have hf := rf_it c_8 hf
  refine lv_aload_n hx hb dX11_undo_11 rfl (lv_at hl 0 rfl) ?_
  refine lv_bipush (v := 6) hx hb dX11_undo_12 (by decide) ?_
  obtain ⟨z14, hz14, hf⟩ := rf_bd hf
  refine rf_vi (q0 := 0) (ci := 11) hC (c_X11_isNot l E a (rf_upL I [(0, z1.1), (10, z1.2), (13, m_undos)]) (rf_upL A [(4, m_st)]) z1.2 6 rfl hz14) kV_X11_isNot tw_1878 ⟨Nat.le_of_ble_eq_true rfl, Nat.le_of_ble_eq_true rfl⟩ rfl rfl rfl rfl rfl hP (rf_DM hD) hS rfl hl.1 (rest := []) rfl (Nat.le_of_ble_eq_true rfl) dX11_undo_14 (fun H locs hP hS => ?_)
  rw [rf_cat (f := I) (l := [(0, z1.1), (10, z1.2), (13, m_undos)]) (lc := [(10, z14.2)]) (l' := [(0, z1.1), (10, z14.2), (13, m_undos)]) rfl] at hP
  obtain ⟨hz_17, hf⟩ := rf_gu hf
  obtain rfl := Option.some.inj hf
  exact rf_retz hC hP hS hz_17 rfl rfl dX11_undo_17
set_option maxHeartbeats 4000000 in
set_option maxRecDepth 100000 in
theorem c_X11_image (l : Launch) (E : rf_E) (a : Nat → Nat) (I : Nat → Int32) (A : Nat → Nat → Int32) (m_hasFerry : Int32) (m_st : Nat → Int32) (m_thrown : Int32) (m_trouble : Int32) (m_images : Int32) (m_kept : Nat → Int32) {z : Int32 × Int32 × Int32 × Int32 × (Nat → Int32)} (e_m_hasFerry : I 12 = m_hasFerry) (e_m_st : A 4 = m_st) (e_m_thrown : I 0 = m_thrown) (e_m_trouble : I 10 = m_trouble) (e_m_images : I 14 = m_images) (e_m_kept : A 6 = m_kept) (hf : f_X11_image m_hasFerry m_st m_thrown m_trouble m_images m_kept = some z) : rf_MI l yX11_image cX11_image 1 (some .int) ({ frames := 6, cells := 0, slots := 0, locals := 200 }) E [.ref (a 0)] (cM E a I A) z.1 (cM E a (rf_upL I [(0, z.2.1), (10, z.2.2.1), (14, z.2.2.2.1)]) (rf_upL A [(6, z.2.2.2.2)])) := by
  unfold f_X11_image at hf
  refine rf_ofI (by decide) (Nat.le_of_ble_eq_true rfl) ?_
  intro p e s m below meth c A0 ls hC hD hP hS hl
  have hC : rf_C p E s m _ meth c cX11_image 1 RX11 (some .int) A0 := hC
  have hx := hC.1
  have hb := hC.2.1
  have hl : lv_has ls 1 [(0, .ref (a 0))] := hl
  have hP : va_P (rf_D E) vwCl (cM E a (rf_upL I [(0, m_thrown), (10, m_trouble), (14, m_images)]) (rf_upL A [(6, m_kept)])) s.heap := by
    rw [rf_self (f := I) [(0, m_thrown), (10, m_trouble), (14, m_images)] (rf_fa1 e_m_thrown (rf_fa1 e_m_trouble (rf_fa1 e_m_images rf_fa0)))]
    rw [rf_self (f := A) [(6, m_kept)] (rf_fa1 e_m_kept rf_fa0)]
    exact hP
  refine lv_aload_n hx hb dX11_image_0 rfl (lv_at hl 0 rfl) ?_
  obtain ⟨z1, hz1, hf⟩ := rf_bd hf
  refine rf_vv (q0 := 0) (ci := 11) hC (c_X11_good l E a (rf_upL I [(0, m_thrown), (10, m_trouble), (14, m_images)]) (rf_upL A [(6, m_kept)]) m_thrown m_trouble rfl rfl hz1) kV_X11_good tw_1403 ⟨Nat.le_of_ble_eq_true rfl, Nat.le_of_ble_eq_true rfl⟩ rfl rfl rfl rfl rfl hP (rf_DM hD) hS rfl hl.1 (rest := []) rfl (Nat.le_of_ble_eq_true rfl) dX11_image_1 (fun H locs hP hS => ?_)
  rw [rf_cat (f := I) (l := [(0, m_thrown), (10, m_trouble), (14, m_images)]) (lc := [(0, z1.1), (10, z1.2)]) (l' := [(0, z1.1), (10, z1.2), (14, m_images)]) rfl] at hP
  refine lv_aload_n hx hb dX11_image_4 rfl (lv_at hl 0 rfl) ?_
  refine gM_m_hasFerry hC hP tw_1293 (v := m_hasFerry) e_m_hasFerry dX11_image_5 ?_
  refine lv_if_ne (tgt := 17) hx hb dX11_image_8 (by decide) (fun c_8 => ?_) (fun c_8 => ?_)
  · have hf := rf_ie c_8 hf
    refine lv_aload_n hx hb dX11_image_17 rfl (lv_at hl 0 rfl) ?_
    refine gM_m_images hC hP tw_1300 (v := m_images) rfl dX11_image_18 ?_
    refine lv_iconst (v := 3) hx hb dX11_image_21 (by decide) ?_
    refine lv_icmp_ne (tgt := 31) hx hb dX11_image_22 (by decide) (fun c_22 => ?_) (fun c_22 => ?_)
    · have hf := rf_ie c_22 hf
      refine lv_aload_n hx hb dX11_image_31 rfl (lv_at hl 0 rfl) ?_
      refine gM_m_st hC hP tw_1296 dX11_image_32 ?_
      refine lv_iconst (v := 0) hx hb dX11_image_35 (by decide) ?_
      refine lv_aload_n hx hb dX11_image_36 rfl (lv_at hl 0 rfl) ?_
      refine gM_m_kept hC hP tw_1298 dX11_image_37 ?_
      refine lv_bipush (v := 26) hx hb dX11_image_40 (by decide) ?_
      refine lv_aload_n hx hb dX11_image_42 rfl (lv_at hl 0 rfl) ?_
      refine gM_m_images hC hP tw_1300 (v := m_images) rfl dX11_image_43 ?_
      refine lv_imul hx hb dX11_image_46 ?_
      refine lv_bipush (v := 26) hx hb dX11_image_47 (by decide) ?_
      obtain ⟨hi_49, hf⟩ := rf_gu hf
      refine zM_m_st_m_kept hC hD hP hS hi_49 (f := m_st) e_m_st (g := m_kept) rfl tw_1566 hl.1 (Nat.le_of_ble_eq_true rfl) ⟨Nat.le_of_ble_eq_true rfl, Nat.le_of_ble_eq_true rfl⟩ dX11_image_49 (rf_upL A [(6, va_cpy m_st m_kept (Int32.toNatClampNeg 0) (Int32.toNatClampNeg ((26 : Int32) * m_images)) (Int32.toNatClampNeg 26))]) (rf_put rfl) (fun H locs hP hS => ?_)
      refine lv_aload_n hx hb dX11_image_52 rfl (lv_at hl 0 rfl) ?_
      refine lv_dup hx hb dX11_image_53 rfl ?_
      refine gM_m_images hC hP tw_1300 (v := m_images) rfl dX11_image_54 ?_
      refine lv_iconst (v := 1) hx hb dX11_image_57 (by decide) ?_
      refine lv_iadd hx hb dX11_image_58 ?_
      refine pM_m_images hC hD hP hS tw_1300 dX11_image_59 (rf_upL I [(0, z1.1), (10, z1.2), (14, m_images + 1)]) (rf_put rfl) (fun H locs hP hS => ?_)
      refine lv_aload_n hx hb dX11_image_62 rfl (lv_at hl 0 rfl) ?_
      refine gM_m_images hC hP tw_1300 (v := m_images + 1) rfl dX11_image_63 ?_
      refine lv_iconst (v := 1) hx hb dX11_image_66 (by decide) ?_
      refine lv_isub hx hb dX11_image_67 ?_
      obtain rfl := Option.some.inj hf
      exact rf_reti hC hP hS rfl rfl dX11_image_68
    have hf := rf_it c_22 hf
    refine lv_aload_n hx hb dX11_image_25 rfl (lv_at hl 0 rfl) ?_
    refine lv_iconst (v := 3) hx hb dX11_image_26 (by decide) ?_
    obtain ⟨z27, hz27, hf⟩ := rf_bd hf
    refine rf_vi (q0 := 0) (ci := 11) hC (c_X11_no l E a (rf_upL I [(0, z1.1), (10, z1.2), (14, m_images)]) (rf_upL A [(6, m_kept)]) z1.2 3 rfl hz27) kV_X11_no tw_1410 ⟨Nat.le_of_ble_eq_true rfl, Nat.le_of_ble_eq_true rfl⟩ rfl rfl rfl rfl rfl hP (rf_DM hD) hS rfl hl.1 (rest := []) rfl (Nat.le_of_ble_eq_true rfl) dX11_image_27 (fun H locs hP hS => ?_)
    rw [rf_cat (f := I) (l := [(0, z1.1), (10, z1.2), (14, m_images)]) (lc := [(10, z27.2)]) (l' := [(0, z1.1), (10, z27.2), (14, m_images)]) rfl] at hP
    obtain rfl := Option.some.inj hf
    exact rf_reti hC hP hS rfl rfl dX11_image_30
  have hf := rf_it c_8 hf
  refine lv_aload_n hx hb dX11_image_11 rfl (lv_at hl 0 rfl) ?_
  refine lv_iconst (v := 1) hx hb dX11_image_12 (by decide) ?_
  obtain ⟨z13, hz13, hf⟩ := rf_bd hf
  refine rf_vi (q0 := 0) (ci := 11) hC (c_X11_no l E a (rf_upL I [(0, z1.1), (10, z1.2), (14, m_images)]) (rf_upL A [(6, m_kept)]) z1.2 1 rfl hz13) kV_X11_no tw_1410 ⟨Nat.le_of_ble_eq_true rfl, Nat.le_of_ble_eq_true rfl⟩ rfl rfl rfl rfl rfl hP (rf_DM hD) hS rfl hl.1 (rest := []) rfl (Nat.le_of_ble_eq_true rfl) dX11_image_13 (fun H locs hP hS => ?_)
  rw [rf_cat (f := I) (l := [(0, z1.1), (10, z1.2), (14, m_images)]) (lc := [(10, z13.2)]) (l' := [(0, z1.1), (10, z13.2), (14, m_images)]) rfl] at hP
  obtain rfl := Option.some.inj hf
  exact rf_reti hC hP hS rfl rfl dX11_image_16
set_option maxHeartbeats 4000000 in
set_option maxRecDepth 100000 in
theorem c_X11_back (l : Launch) (E : rf_E) (a : Nat → Nat) (I : Nat → Int32) (A : Nat → Nat → Int32) (m_images : Int32) (m_kept : Nat → Int32) (m_thrown : Int32) (m_trouble : Int32) (m_undos : Int32) (m_st : Nat → Int32) (v1 : Int32) {z : Int32 × Int32 × Int32 × Int32 × (Nat → Int32)} (e_m_images : I 14 = m_images) (e_m_kept : A 6 = m_kept) (e_m_thrown : I 0 = m_thrown) (e_m_trouble : I 10 = m_trouble) (e_m_undos : I 13 = m_undos) (e_m_st : A 4 = m_st) (hf : f_X11_back m_images m_kept m_thrown m_trouble m_undos m_st v1 = some z) : rf_MI l yX11_back cX11_back 2 (some .boolean) ({ frames := 6, cells := 0, slots := 0, locals := 200 }) E [.ref (a 0), .int v1] (cM E a I A) z.1 (cM E a (rf_upL I [(0, z.2.1), (10, z.2.2.1), (13, z.2.2.2.1)]) (rf_upL A [(4, z.2.2.2.2)])) := by
  unfold f_X11_back at hf
  refine rf_ofI (by decide) (Nat.le_of_ble_eq_true rfl) ?_
  intro p e s m below meth c A0 ls hC hD hP hS hl
  have hC : rf_C p E s m _ meth c cX11_back 2 RX11 (some .boolean) A0 := hC
  have hx := hC.1
  have hb := hC.2.1
  have hl : lv_has ls 2 [(0, .ref (a 0)), (1, .int v1)] := hl
  have hP : va_P (rf_D E) vwCl (cM E a (rf_upL I [(0, m_thrown), (10, m_trouble), (13, m_undos)]) (rf_upL A [(4, m_st)])) s.heap := by
    rw [rf_self (f := I) [(0, m_thrown), (10, m_trouble), (13, m_undos)] (rf_fa1 e_m_thrown (rf_fa1 e_m_trouble (rf_fa1 e_m_undos rf_fa0)))]
    rw [rf_self (f := A) [(4, m_st)] (rf_fa1 e_m_st rf_fa0)]
    exact hP
  refine lv_aload_n hx hb dX11_back_0 rfl (lv_at hl 0 rfl) ?_
  obtain ⟨z1, hz1, hf⟩ := rf_bd hf
  refine rf_vv (q0 := 0) (ci := 11) hC (c_X11_good l E a (rf_upL I [(0, m_thrown), (10, m_trouble), (13, m_undos)]) (rf_upL A [(4, m_st)]) m_thrown m_trouble rfl rfl hz1) kV_X11_good tw_1403 ⟨Nat.le_of_ble_eq_true rfl, Nat.le_of_ble_eq_true rfl⟩ rfl rfl rfl rfl rfl hP (rf_DM hD) hS rfl hl.1 (rest := []) rfl (Nat.le_of_ble_eq_true rfl) dX11_back_1 (fun H locs hP hS => ?_)
  rw [rf_cat (f := I) (l := [(0, m_thrown), (10, m_trouble), (13, m_undos)]) (lc := [(0, z1.1), (10, z1.2)]) (l' := [(0, z1.1), (10, z1.2), (13, m_undos)]) rfl] at hP
  refine lv_iload_n hx hb dX11_back_4 rfl (lv_at hl 1 rfl) ?_
  refine lv_iconst (v := 0) hx hb dX11_back_5 (by decide) ?_
  refine lv_aload_n hx hb dX11_back_6 rfl (lv_at hl 0 rfl) ?_
  refine gM_m_images hC hP tw_1300 (v := m_images) e_m_images dX11_back_7 ?_
  refine lv_iconst (v := 1) hx hb dX11_back_10 (by decide) ?_
  refine lv_isub hx hb dX11_back_11 ?_
  obtain ⟨z12, hz12, hf⟩ := rf_bd hf
  refine rf_si0 hC (c_X11_in l E v1 0 (m_images - 1) hz12) kS_X11_in tw_1407 ⟨Nat.le_of_ble_eq_true rfl, Nat.le_of_ble_eq_true rfl⟩ rfl rfl hP hS rfl hl.1 (rest := []) rfl (Nat.le_of_ble_eq_true rfl) dX11_back_12 (fun H locs hP hS => ?_)
  refine lv_if_ne (tgt := 24) hx hb dX11_back_15 (by decide) (fun c_15 => ?_) (fun c_15 => ?_)
  · have hf := rf_ie c_15 hf
    refine lv_aload_n hx hb dX11_back_24 rfl (lv_at hl 0 rfl) ?_
    refine gM_m_kept hC hP tw_1298 dX11_back_25 ?_
    refine lv_bipush (v := 26) hx hb dX11_back_28 (by decide) ?_
    refine lv_iload_n hx hb dX11_back_30 rfl (lv_at hl 1 rfl) ?_
    refine lv_imul hx hb dX11_back_31 ?_
    refine lv_aload_n hx hb dX11_back_32 rfl (lv_at hl 0 rfl) ?_
    refine gM_m_st hC hP tw_1296 dX11_back_33 ?_
    refine lv_iconst (v := 0) hx hb dX11_back_36 (by decide) ?_
    refine lv_bipush (v := 26) hx hb dX11_back_37 (by decide) ?_
    obtain ⟨hi_39, hf⟩ := rf_gu hf
    refine zM_m_kept_m_st hC hD hP hS hi_39 (f := m_kept) e_m_kept (g := m_st) rfl tw_1566 hl.1 (Nat.le_of_ble_eq_true rfl) ⟨Nat.le_of_ble_eq_true rfl, Nat.le_of_ble_eq_true rfl⟩ dX11_back_39 (rf_upL A [(4, va_cpy m_kept m_st (Int32.toNatClampNeg ((26 : Int32) * v1)) (Int32.toNatClampNeg 0) (Int32.toNatClampNeg 26))]) (rf_put rfl) (fun H locs hP hS => ?_)
    refine lv_aload_n hx hb dX11_back_42 rfl (lv_at hl 0 rfl) ?_
    refine lv_iconst (v := 0) hx hb dX11_back_43 (by decide) ?_
    refine pM_m_undos hC hD hP hS tw_1299 dX11_back_44 (rf_upL I [(0, z1.1), (10, z1.2), (13, 0)]) (rf_put rfl) (fun H locs hP hS => ?_)
    refine lv_iconst (v := 1) hx hb dX11_back_47 (by decide) ?_
    obtain rfl := Option.some.inj hf
    exact rf_retz hC hP hS (by decide) rfl rfl dX11_back_48
  have hf := rf_it c_15 hf
  refine lv_aload_n hx hb dX11_back_18 rfl (lv_at hl 0 rfl) ?_
  refine lv_iconst (v := 1) hx hb dX11_back_19 (by decide) ?_
  obtain ⟨z20, hz20, hf⟩ := rf_bd hf
  refine rf_vi (q0 := 0) (ci := 11) hC (c_X11_isNot l E a (rf_upL I [(0, z1.1), (10, z1.2), (13, m_undos)]) (rf_upL A [(4, m_st)]) z1.2 1 rfl hz20) kV_X11_isNot tw_1878 ⟨Nat.le_of_ble_eq_true rfl, Nat.le_of_ble_eq_true rfl⟩ rfl rfl rfl rfl rfl hP (rf_DM hD) hS rfl hl.1 (rest := []) rfl (Nat.le_of_ble_eq_true rfl) dX11_back_20 (fun H locs hP hS => ?_)
  rw [rf_cat (f := I) (l := [(0, z1.1), (10, z1.2), (13, m_undos)]) (lc := [(10, z20.2)]) (l' := [(0, z1.1), (10, z20.2), (13, m_undos)]) rfl] at hP
  obtain ⟨hz_23, hf⟩ := rf_gu hf
  obtain rfl := Option.some.inj hf
  exact rf_retz hC hP hS hz_23 rfl rfl dX11_back_23
set_option maxHeartbeats 4000000 in
set_option maxRecDepth 100000 in
theorem w_X11_led_57 {l : Launch} {p : Program} {e : Env} {s : State} {m : MethodId} {args : Array Value} {below : List Frame} {meth : Method} {c : Code} {A0 : Nat → Prop} {E : rf_E} {a : Nat → Nat} {I : Nat → Int32} {A : Nat → Nat → Int32} {m_hasFerry : Int32} {m_r : Nat → Int32} {m_st : Nat → Int32} {z : Int32 × Int32} (hC : rf_C p E s m args meth c cX11_led 4 RX11 (some .int) A0) (hD : va_D A0 (cM E a I A)) (e_m_hasFerry : I 12 = m_hasFerry) (e_m_r : A 2 = m_r) (e_m_st : A 4 = m_st) :
    ∀ (m_thrown : Int32), f_X11_led_57 m_hasFerry m_r m_st m_thrown = some z → ∀ (H : Heap) (locs : List Loc) (ls : Array Slot), va_P (rf_D E) vwCl (cM E a (rf_upL I [(0, m_thrown)]) A) H → va_S A0 s.heap H locs → lv_has ls 4 [(0, .ref (a 0))] → W p l e ({ frames := 0, cells := 0, slots := 0, locals := 0 }) s m args below meth c H locs 0 0 (rf_QI below args s E A0 z.1 (cM E a (rf_upL I [(0, z.2)]) A)) (F0 m 57 ls []) := by
  have hx := hC.1
  have hb := hC.2.1
  intro m_thrown hf H locs ls hP hS hl
  unfold f_X11_led_57 at hf
  refine lv_aload_n hx hb dX11_led_57 rfl (lv_at hl 0 rfl) ?_
  refine lv_iconst (v := 1) hx hb dX11_led_58 (by decide) ?_
  refine pM_m_thrown hC hD hP hS tw_1279 dX11_led_59 (rf_upL I [(0, 1)]) (rf_put rfl) (fun H locs hP hS => ?_)
  refine lv_iconst (v := 0) hx hb dX11_led_62 (by decide) ?_
  obtain rfl := Option.some.inj hf
  exact rf_reti hC hP hS rfl rfl dX11_led_63
set_option maxHeartbeats 4000000 in
set_option maxRecDepth 100000 in
theorem w_X11_led_51 {l : Launch} {p : Program} {e : Env} {s : State} {m : MethodId} {args : Array Value} {below : List Frame} {meth : Method} {c : Code} {A0 : Nat → Prop} {E : rf_E} {a : Nat → Nat} {I : Nat → Int32} {A : Nat → Nat → Int32} {m_hasFerry : Int32} {m_r : Nat → Int32} {m_st : Nat → Int32} {z : Int32 × Int32} (hC : rf_C p E s m args meth c cX11_led 4 RX11 (some .int) A0) (hD : va_D A0 (cM E a I A)) (e_m_hasFerry : I 12 = m_hasFerry) (e_m_r : A 2 = m_r) (e_m_st : A 4 = m_st) {k4 : Int32 → Int32 → Int32 → Int32 → Option (Int32 × Int32)} (hk4 : ∀ (v1 : Int32) (v2 : Int32) (v3 : Int32) (m_thrown : Int32), k4 v1 v2 v3 m_thrown = some z → ∀ (H : Heap) (locs : List Loc) (ls : Array Slot), va_P (rf_D E) vwCl (cM E a (rf_upL I [(0, m_thrown)]) A) H → va_S A0 s.heap H locs → lv_has ls 4 [(0, .ref (a 0)), (1, .int v1), (2, .int v2), (3, .int v3)] → W p l e ({ frames := 0, cells := 0, slots := 0, locals := 0 }) s m args below meth c H locs 0 0 (rf_QI below args s E A0 z.1 (cM E a (rf_upL I [(0, z.2)]) A)) (F0 m 4 ls [])) :
    ∀ (v1 : Int32) (v2 : Int32) (v3 : Int32) (m_thrown : Int32), f_X11_led_51 k4 m_hasFerry m_r m_st v1 v2 v3 m_thrown = some z → ∀ (H : Heap) (locs : List Loc) (ls : Array Slot), va_P (rf_D E) vwCl (cM E a (rf_upL I [(0, m_thrown)]) A) H → va_S A0 s.heap H locs → lv_has ls 4 [(0, .ref (a 0)), (1, .int v1), (2, .int v2), (3, .int v3)] → W p l e ({ frames := 0, cells := 0, slots := 0, locals := 0 }) s m args below meth c H locs 0 0 (rf_QI below args s E A0 z.1 (cM E a (rf_upL I [(0, z.2)]) A)) (F0 m 51 ls []) := by
  have hx := hC.1
  have hb := hC.2.1
  intro v1 v2 v3 m_thrown hf H locs ls hP hS hl
  unfold f_X11_led_51 at hf
  refine lv_iinc (v := v3 + 1) (lv' := [(3, .int (v3 + 1)), (0, .ref (a 0)), (1, .int v1), (2, .int v2)]) hx hb dX11_led_51 hl (k := 3) rfl rfl (by decide) rfl (fun ls hl => ?_)
  refine lv_goto (tgt := 4) hx hb dX11_led_54 (by decide) ?_
  exact hk4 v1 v2 (v3 + 1) m_thrown hf _ _ _ hP hS (lv_sub hl [1, 2, 3, 0] rfl)
set_option maxHeartbeats 4000000 in
set_option maxRecDepth 100000 in
theorem w_X11_led_4 {l : Launch} {p : Program} {e : Env} {s : State} {m : MethodId} {args : Array Value} {below : List Frame} {meth : Method} {c : Code} {A0 : Nat → Prop} {E : rf_E} {a : Nat → Nat} {I : Nat → Int32} {A : Nat → Nat → Int32} {m_hasFerry : Int32} {m_r : Nat → Int32} {m_st : Nat → Int32} {z : Int32 × Int32} (hC : rf_C p E s m args meth c cX11_led 4 RX11 (some .int) A0) (hD : va_D A0 (cM E a I A)) (e_m_hasFerry : I 12 = m_hasFerry) (e_m_r : A 2 = m_r) (e_m_st : A 4 = m_st) :
    ∀ (n : Nat), ∀ (v1 : Int32) (v2 : Int32) (v3 : Int32) (m_thrown : Int32), f_X11_led_4 m_hasFerry m_r m_st n v1 v2 v3 m_thrown = some z → ∀ (H : Heap) (locs : List Loc) (ls : Array Slot), va_P (rf_D E) vwCl (cM E a (rf_upL I [(0, m_thrown)]) A) H → va_S A0 s.heap H locs → lv_has ls 4 [(0, .ref (a 0)), (1, .int v1), (2, .int v2), (3, .int v3)] → W p l e ({ frames := 0, cells := 0, slots := 0, locals := 0 }) s m args below meth c H locs 0 0 (rf_QI below args s E A0 z.1 (cM E a (rf_upL I [(0, z.2)]) A)) (F0 m 4 ls []) := by
  have hx := hC.1
  have hb := hC.2.1
  intro n
  induction n with
  | zero =>
    intro v1 v2 v3 m_thrown hf
    have hf : (none : Option (Int32 × Int32)) = some z := hf
    cases hf
  | succ n ih =>
    intro v1 v2 v3 m_thrown hf H locs ls hP hS hl
    rw [f_X11_led_4] at hf
    refine lv_aload_n hx hb dX11_led_4 rfl (lv_at hl 0 rfl) ?_
    refine gM_m_hasFerry hC hP tw_1293 (v := m_hasFerry) e_m_hasFerry dX11_led_5 ?_
    refine lv_if_eq (tgt := 57) hx hb dX11_led_8 (by decide) (fun c_8 => ?_) (fun c_8 => ?_)
    · have hf := rf_it c_8 hf
      exact w_X11_led_57 hC hD e_m_hasFerry e_m_r e_m_st m_thrown hf _ _ _ hP hS (lv_sub hl [0] rfl)
    have hf := rf_ie c_8 hf
    refine lv_iload_n hx hb dX11_led_11 rfl (lv_at hl 3 rfl) ?_
    refine lv_aload_n hx hb dX11_led_12 rfl (lv_at hl 0 rfl) ?_
    refine gM_m_r hC hP tw_1294 dX11_led_13 ?_
    refine lv_iconst (v := 3) hx hb dX11_led_16 (by decide) ?_
    refine lM_m_r hC hP (by decide) (f := m_r) e_m_r dX11_led_17 ?_
    refine lv_icmp_ge (tgt := 57) hx hb dX11_led_18 (by decide) (fun c_18 => ?_) (fun c_18 => ?_)
    · have hf := rf_it c_18 hf
      exact w_X11_led_57 hC hD e_m_hasFerry e_m_r e_m_st m_thrown hf _ _ _ hP hS (lv_sub hl [0] rfl)
    have hf := rf_ie c_18 hf
    refine lv_aload_n hx hb dX11_led_21 rfl (lv_at hl 0 rfl) ?_
    refine gM_m_st hC hP tw_1296 dX11_led_22 ?_
    refine lv_bipush (v := 16) hx hb dX11_led_25 (by decide) ?_
    refine lv_iload_n hx hb dX11_led_27 rfl (lv_at hl 3 rfl) ?_
    refine lv_iadd hx hb dX11_led_28 ?_
    obtain ⟨hi_29, hf⟩ := rf_gu hf
    refine lM_m_st hC hP hi_29 (f := m_st) e_m_st dX11_led_29 ?_
    refine lv_if_ne (tgt := 36) hx hb dX11_led_30 (by decide) (fun c_30 => ?_) (fun c_30 => ?_)
    · have hf := rf_ie c_30 hf
      refine lv_iload_n hx hb dX11_led_36 rfl (lv_at hl 2 rfl) ?_
      refine lv_iload_n hx hb dX11_led_37 rfl (lv_at hl 1 rfl) ?_
      refine lv_icmp_ne (tgt := 48) hx hb dX11_led_38 (by decide) (fun c_38 => ?_) (fun c_38 => ?_)
      · have hf := rf_ie c_38 hf
        refine lv_iinc (v := v2 + 1) (lv' := [(2, .int (v2 + 1)), (0, .ref (a 0)), (1, .int v1), (3, .int v3)]) hx hb dX11_led_48 hl (k := 2) rfl rfl (by decide) rfl (fun ls hl => ?_)
        exact w_X11_led_51 hC hD e_m_hasFerry e_m_r e_m_st ih v1 (v2 + 1) v3 m_thrown hf _ _ _ hP hS (lv_sub hl [1, 2, 0, 3] rfl)
      have hf := rf_it c_38 hf
      refine lv_aload_n hx hb dX11_led_41 rfl (lv_at hl 0 rfl) ?_
      refine lv_iconst (v := 0) hx hb dX11_led_42 (by decide) ?_
      refine pM_m_thrown hC hD hP hS tw_1279 dX11_led_43 (rf_upL I [(0, 0)]) (rf_put rfl) (fun H locs hP hS => ?_)
      refine lv_iload_n hx hb dX11_led_46 rfl (lv_at hl 3 rfl) ?_
      obtain rfl := Option.some.inj hf
      exact rf_reti hC hP hS rfl rfl dX11_led_47
    have hf := rf_it c_30 hf
    refine lv_goto (tgt := 51) hx hb dX11_led_33 (by decide) ?_
    exact w_X11_led_51 hC hD e_m_hasFerry e_m_r e_m_st ih v1 v2 v3 m_thrown hf _ _ _ hP hS (lv_sub hl [0, 1, 2, 3] rfl)
set_option maxHeartbeats 4000000 in
set_option maxRecDepth 100000 in
theorem c_X11_led (l : Launch) (E : rf_E) (a : Nat → Nat) (I : Nat → Int32) (A : Nat → Nat → Int32) (m_hasFerry : Int32) (m_r : Nat → Int32) (m_st : Nat → Int32) (m_thrown : Int32) (v1 : Int32) {z : Int32 × Int32} (e_m_hasFerry : I 12 = m_hasFerry) (e_m_r : A 2 = m_r) (e_m_st : A 4 = m_st) (e_m_thrown : I 0 = m_thrown) (hf : f_X11_led m_hasFerry m_r m_st m_thrown v1 = some z) : rf_MI l yX11_led cX11_led 4 (some .int) ({ frames := 0, cells := 0, slots := 0, locals := 0 }) E [.ref (a 0), .int v1] (cM E a I A) z.1 (cM E a (rf_upL I [(0, z.2)]) A) := by
  unfold f_X11_led at hf
  refine rf_ofI (by decide) (Nat.le_of_ble_eq_true rfl) ?_
  intro p e s m below meth c A0 ls hC hD hP hS hl
  have hC : rf_C p E s m _ meth c cX11_led 4 RX11 (some .int) A0 := hC
  have hx := hC.1
  have hb := hC.2.1
  have hl : lv_has ls 4 [(0, .ref (a 0)), (1, .int v1)] := hl
  have hP : va_P (rf_D E) vwCl (cM E a (rf_upL I [(0, m_thrown)]) A) s.heap := by
    rw [rf_self (f := I) [(0, m_thrown)] (rf_fa1 e_m_thrown rf_fa0)]
    exact hP
  refine lv_iconst (v := 0) hx hb dX11_led_0 (by decide) ?_
  refine lv_istore_n (lv' := [(2, .int 0), (0, .ref (a 0)), (1, .int v1)]) hx hb dX11_led_1 rfl hl (by decide) rfl (fun ls hl => ?_)
  refine lv_iconst (v := 0) hx hb dX11_led_2 (by decide) ?_
  refine lv_istore_n (lv' := [(3, .int 0), (2, .int 0), (0, .ref (a 0)), (1, .int v1)]) hx hb dX11_led_3 rfl hl (by decide) rfl (fun ls hl => ?_)
  exact w_X11_led_4 hC hD e_m_hasFerry e_m_r e_m_st rf_fu v1 0 0 m_thrown hf _ _ _ hP hS (lv_sub hl [2, 3, 1, 0] rfl)
set_option maxHeartbeats 4000000 in
set_option maxRecDepth 100000 in
theorem c_X11_size (l : Launch) (E : rf_E) (a : Nat → Nat) (I : Nat → Int32) (A : Nat → Nat → Int32) (m_taped : Int32) (m_hasFerry : Int32) (m_undos : Int32) (m_images : Int32) (m_r : Nat → Int32) (m_st : Nat → Int32) (m_thrown : Int32) (v1 : Int32) {z : Int32 × Int32} (e_m_taped : I 1 = m_taped) (e_m_hasFerry : I 12 = m_hasFerry) (e_m_undos : I 13 = m_undos) (e_m_images : I 14 = m_images) (e_m_r : A 2 = m_r) (e_m_st : A 4 = m_st) (e_m_thrown : I 0 = m_thrown) (hf : f_X11_size m_taped m_hasFerry m_undos m_images m_r m_st m_thrown v1 = some z) : rf_MI l yX11_size cX11_size 2 (some .int) ({ frames := 1, cells := 0, slots := 0, locals := 22 }) E [.ref (a 0), .int v1] (cM E a I A) z.1 (cM E a (rf_upL I [(0, z.2)]) A) := by
  unfold f_X11_size at hf
  refine rf_ofI (by decide) (Nat.le_of_ble_eq_true rfl) ?_
  intro p e s m below meth c A0 ls hC hD hP hS hl
  have hC : rf_C p E s m _ meth c cX11_size 2 RX11 (some .int) A0 := hC
  have hx := hC.1
  have hb := hC.2.1
  have hl : lv_has ls 2 [(0, .ref (a 0)), (1, .int v1)] := hl
  have hP : va_P (rf_D E) vwCl (cM E a (rf_upL I [(0, m_thrown)]) A) s.heap := by
    rw [rf_self (f := I) [(0, m_thrown)] (rf_fa1 e_m_thrown rf_fa0)]
    exact hP
  refine lv_aload_n hx hb dX11_size_0 rfl (lv_at hl 0 rfl) ?_
  refine lv_iconst (v := 0) hx hb dX11_size_1 (by decide) ?_
  refine pM_m_thrown hC hD hP hS tw_1279 dX11_size_2 (rf_upL I [(0, 0)]) (rf_put rfl) (fun H locs hP hS => ?_)
  refine lv_iload_n hx hb dX11_size_5 rfl (lv_at hl 1 rfl) ?_
  refine lv_bipush (v := 12) hx hb dX11_size_6 (by decide) ?_
  refine lv_icmp_ne (tgt := 16) hx hb dX11_size_8 (by decide) (fun c_8 => ?_) (fun c_8 => ?_)
  · have hf := rf_ie c_8 hf
    refine lv_aload_n hx hb dX11_size_16 rfl (lv_at hl 0 rfl) ?_
    refine gM_m_hasFerry hC hP tw_1293 (v := m_hasFerry) e_m_hasFerry dX11_size_17 ?_
    refine lv_if_ne (tgt := 39) hx hb dX11_size_20 (by decide) (fun c_20 => ?_) (fun c_20 => ?_)
    · have hf := rf_ie c_20 hf
      refine lv_iload_n hx hb dX11_size_39 rfl (lv_at hl 1 rfl) ?_
      refine lv_iconst (v := 0) hx hb dX11_size_40 (by decide) ?_
      refine lv_bipush (v := 7) hx hb dX11_size_41 (by decide) ?_
      obtain ⟨z43, hz43, hf⟩ := rf_bd hf
      refine rf_si0 hC (c_X11_in l E v1 0 7 hz43) kS_X11_in tw_1407 ⟨Nat.le_of_ble_eq_true rfl, Nat.le_of_ble_eq_true rfl⟩ rfl rfl hP hS rfl hl.1 (rest := []) rfl (Nat.le_of_ble_eq_true rfl) dX11_size_43 (fun H locs hP hS => ?_)
      refine lv_if_eq (tgt := 56) hx hb dX11_size_46 (by decide) (fun c_46 => ?_) (fun c_46 => ?_)
      · have hf := rf_it c_46 hf
        refine lv_iload_n hx hb dX11_size_56 rfl (lv_at hl 1 rfl) ?_
        refine lv_bipush (v := 8) hx hb dX11_size_57 (by decide) ?_
        refine lv_icmp_ne (tgt := 72) hx hb dX11_size_59 (by decide) (fun c_59 => ?_) (fun c_59 => ?_)
        · have hf := rf_ie c_59 hf
          refine lv_iload_n hx hb dX11_size_72 rfl (lv_at hl 1 rfl) ?_
          refine lv_bipush (v := 9) hx hb dX11_size_73 (by decide) ?_
          refine lv_icmp_ne (tgt := 88) hx hb dX11_size_75 (by decide) (fun c_75 => ?_) (fun c_75 => ?_)
          · have hf := rf_ie c_75 hf
            refine lv_iload_n hx hb dX11_size_88 rfl (lv_at hl 1 rfl) ?_
            refine lv_bipush (v := 10) hx hb dX11_size_89 (by decide) ?_
            refine lv_icmp_ne (tgt := 101) hx hb dX11_size_91 (by decide) (fun c_91 => ?_) (fun c_91 => ?_)
            · have hf := rf_ie c_91 hf
              refine lv_iload_n hx hb dX11_size_101 rfl (lv_at hl 1 rfl) ?_
              refine lv_bipush (v := 11) hx hb dX11_size_102 (by decide) ?_
              refine lv_icmp_ne (tgt := 114) hx hb dX11_size_104 (by decide) (fun c_104 => ?_) (fun c_104 => ?_)
              · have hf := rf_ie c_104 hf
                refine lv_iconst (v := (-1)) hx hb dX11_size_114 (by decide) ?_
                obtain rfl := Option.some.inj hf
                exact rf_reti hC hP hS rfl rfl dX11_size_115
              have hf := rf_it c_104 hf
              refine lv_aload_n hx hb dX11_size_107 rfl (lv_at hl 0 rfl) ?_
              refine gM_m_images hC hP tw_1300 (v := m_images) e_m_images dX11_size_108 ?_
              refine lv_goto (tgt := 115) hx hb dX11_size_111 (by decide) ?_
              obtain rfl := Option.some.inj hf
              exact rf_reti hC hP hS rfl rfl dX11_size_115
            have hf := rf_it c_91 hf
            refine lv_aload_n hx hb dX11_size_94 rfl (lv_at hl 0 rfl) ?_
            refine gM_m_undos hC hP tw_1299 (v := m_undos) e_m_undos dX11_size_95 ?_
            refine lv_goto (tgt := 115) hx hb dX11_size_98 (by decide) ?_
            obtain rfl := Option.some.inj hf
            exact rf_reti hC hP hS rfl rfl dX11_size_115
          have hf := rf_it c_75 hf
          refine lv_aload_n hx hb dX11_size_78 rfl (lv_at hl 0 rfl) ?_
          refine gM_m_st hC hP tw_1296 dX11_size_79 ?_
          refine lv_bipush (v := 25) hx hb dX11_size_82 (by decide) ?_
          refine lM_m_st hC hP (by decide) (f := m_st) e_m_st dX11_size_84 ?_
          refine lv_goto (tgt := 115) hx hb dX11_size_85 (by decide) ?_
          obtain rfl := Option.some.inj hf
          exact rf_reti hC hP hS rfl rfl dX11_size_115
        have hf := rf_it c_59 hf
        refine lv_aload_n hx hb dX11_size_62 rfl (lv_at hl 0 rfl) ?_
        refine gM_m_st hC hP tw_1296 dX11_size_63 ?_
        refine lv_bipush (v := 24) hx hb dX11_size_66 (by decide) ?_
        refine lM_m_st hC hP (by decide) (f := m_st) e_m_st dX11_size_68 ?_
        refine lv_goto (tgt := 115) hx hb dX11_size_69 (by decide) ?_
        obtain rfl := Option.some.inj hf
        exact rf_reti hC hP hS rfl rfl dX11_size_115
      have hf := rf_ie c_46 hf
      refine lv_aload_n hx hb dX11_size_49 rfl (lv_at hl 0 rfl) ?_
      refine gM_m_r hC hP tw_1294 dX11_size_50 ?_
      refine lv_iload_n hx hb dX11_size_53 rfl (lv_at hl 1 rfl) ?_
      obtain ⟨hi_54, hf⟩ := rf_gu hf
      refine lM_m_r hC hP hi_54 (f := m_r) e_m_r dX11_size_54 ?_
      obtain rfl := Option.some.inj hf
      exact rf_reti hC hP hS rfl rfl dX11_size_55
    have hf := rf_it c_20 hf
    refine lv_iload_n hx hb dX11_size_23 rfl (lv_at hl 1 rfl) ?_
    refine lv_iconst (v := 0) hx hb dX11_size_24 (by decide) ?_
    refine lv_bipush (v := 11) hx hb dX11_size_25 (by decide) ?_
    obtain ⟨z27, hz27, hf⟩ := rf_bd hf
    refine rf_si0 hC (c_X11_in l E v1 0 11 hz27) kS_X11_in tw_1407 ⟨Nat.le_of_ble_eq_true rfl, Nat.le_of_ble_eq_true rfl⟩ rfl rfl hP hS rfl hl.1 (rest := []) rfl (Nat.le_of_ble_eq_true rfl) dX11_size_27 (fun H locs hP hS => ?_)
    refine lv_if_eq (tgt := 37) hx hb dX11_size_30 (by decide) (fun c_30 => ?_) (fun c_30 => ?_)
    · have hf := rf_it c_30 hf
      refine lv_iconst (v := (-1)) hx hb dX11_size_37 (by decide) ?_
      obtain rfl := Option.some.inj hf
      exact rf_reti hC hP hS rfl rfl dX11_size_38
    have hf := rf_ie c_30 hf
    refine lv_iconst (v := 0) hx hb dX11_size_33 (by decide) ?_
    refine lv_goto (tgt := 38) hx hb dX11_size_34 (by decide) ?_
    obtain rfl := Option.some.inj hf
    exact rf_reti hC hP hS rfl rfl dX11_size_38
  have hf := rf_it c_8 hf
  refine lv_aload_n hx hb dX11_size_11 rfl (lv_at hl 0 rfl) ?_
  refine gM_m_taped hC hP tw_1281 (v := m_taped) e_m_taped dX11_size_12 ?_
  obtain rfl := Option.some.inj hf
  exact rf_reti hC hP hS rfl rfl dX11_size_15
