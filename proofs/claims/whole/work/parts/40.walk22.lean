set_option maxHeartbeats 4000000 in
set_option maxRecDepth 100000 in
theorem c_X11_rhymeNow (l : Launch) (E : rf_E) (a : Nat → Nat) (I : Nat → Int32) (A : Nat → Nat → Int32) (m_r : Nat → Int32) (m_st : Nat → Int32) (v1 : Int32) (v2 : Int32) (v3 : Int32) {z : Int32} (e_m_r : A 2 = m_r) (e_m_st : A 4 = m_st) (hf : f_X11_rhymeNow m_r m_st v1 v2 v3 = some z) : rf_MI l yX11_rhymeNow cX11_rhymeNow 4 (some .int) ({ frames := 3, cells := 0, slots := 0, locals := 77 }) E [.ref (a 0), .int v1, .int v2, .int v3] (cM E a I A) z (cM E a I A) := by
  unfold f_X11_rhymeNow at hf
  refine rf_ofI (by decide) (Nat.le_of_ble_eq_true rfl) ?_
  intro p e s m below meth c A0 ls hC hD hP hS hl
  have hC : rf_C p E s m _ meth c cX11_rhymeNow 4 RX11 (some .int) A0 := hC
  have hx := hC.1
  have hb := hC.2.1
  have hl : lv_has ls 4 [(0, .ref (a 0)), (1, .int v1), (2, .int v2), (3, .int v3)] := hl
  refine lv_aload_n hx hb dX11_rhymeNow_0 rfl (lv_at hl 0 rfl) ?_
  refine lv_aload_n hx hb dX11_rhymeNow_1 rfl (lv_at hl 0 rfl) ?_
  refine lv_iload_n hx hb dX11_rhymeNow_2 rfl (lv_at hl 1 rfl) ?_
  obtain ⟨z3, hz3, hf⟩ := rf_bd hf
  refine rf_vi (q0 := 0) (ci := 11) hC (c_X11_kindOf l E a I A m_r v1 e_m_r hz3) kV_X11_kindOf tw_1609 ⟨Nat.le_of_ble_eq_true rfl, Nat.le_of_ble_eq_true rfl⟩ rfl rfl rfl rfl rfl hP (rf_DM hD) hS rfl hl.1 (rest := [.ref (a 0)]) rfl (Nat.le_of_ble_eq_true rfl) dX11_rhymeNow_3 (fun H locs hP hS => ?_)
  refine lv_aload_n hx hb dX11_rhymeNow_6 rfl (lv_at hl 0 rfl) ?_
  refine gM_m_st hC hP tw_1296 dX11_rhymeNow_7 ?_
  refine lv_bipush (v := 8) hx hb dX11_rhymeNow_10 (by decide) ?_
  refine lv_iload_n hx hb dX11_rhymeNow_12 rfl (lv_at hl 1 rfl) ?_
  refine lv_iadd hx hb dX11_rhymeNow_13 ?_
  obtain ⟨hi_14, hf⟩ := rf_gu hf
  refine lM_m_st hC hP hi_14 (f := m_st) e_m_st dX11_rhymeNow_14 ?_
  refine lv_aload_n hx hb dX11_rhymeNow_15 rfl (lv_at hl 0 rfl) ?_
  refine lv_iload_n hx hb dX11_rhymeNow_16 rfl (lv_at hl 2 rfl) ?_
  obtain ⟨z17, hz17, hf⟩ := rf_bd hf
  refine rf_vi (q0 := 0) (ci := 11) hC (c_X11_kindOf l E a I A m_r v2 e_m_r hz17) kV_X11_kindOf tw_1609 ⟨Nat.le_of_ble_eq_true rfl, Nat.le_of_ble_eq_true rfl⟩ rfl rfl rfl rfl rfl hP (rf_DM hD) hS rfl hl.1 (rest := [.int (m_st (Int32.toNatClampNeg ((8 : Int32) + v1))), .int z3, .ref (a 0)]) rfl (Nat.le_of_ble_eq_true rfl) dX11_rhymeNow_17 (fun H locs hP hS => ?_)
  refine lv_aload_n hx hb dX11_rhymeNow_20 rfl (lv_at hl 0 rfl) ?_
  refine gM_m_st hC hP tw_1296 dX11_rhymeNow_21 ?_
  refine lv_bipush (v := 8) hx hb dX11_rhymeNow_24 (by decide) ?_
  refine lv_iload_n hx hb dX11_rhymeNow_26 rfl (lv_at hl 2 rfl) ?_
  refine lv_iadd hx hb dX11_rhymeNow_27 ?_
  obtain ⟨hi_28, hf⟩ := rf_gu hf
  refine lM_m_st hC hP hi_28 (f := m_st) e_m_st dX11_rhymeNow_28 ?_
  refine lv_iload_n hx hb dX11_rhymeNow_29 rfl (lv_at hl 3 rfl) ?_
  obtain ⟨z30, hz30, hf⟩ := rf_bd hf
  refine rf_vi (q0 := 0) (ci := 11) hC (c_X11_rhymeOf l E a I A m_r z3 (m_st (Int32.toNatClampNeg ((8 : Int32) + v1))) z17 (m_st (Int32.toNatClampNeg ((8 : Int32) + v2))) v3 e_m_r hz30) kV_X11_rhymeOf tw_1640 ⟨Nat.le_of_ble_eq_true rfl, Nat.le_of_ble_eq_true rfl⟩ rfl rfl rfl rfl rfl hP (rf_DM hD) hS rfl hl.1 (rest := []) rfl (Nat.le_of_ble_eq_true rfl) dX11_rhymeNow_30 (fun H locs hP hS => ?_)
  obtain rfl := Option.some.inj hf
  exact rf_reti hC hP hS rfl rfl dX11_rhymeNow_33
set_option maxHeartbeats 4000000 in
set_option maxRecDepth 100000 in
theorem c_X11_rhyme (l : Launch) (E : rf_E) (a : Nat → Nat) (I : Nat → Int32) (A : Nat → Nat → Int32) (m_hasFerry : Int32) (m_r : Nat → Int32) (m_st : Nat → Int32) (m_thrown : Int32) (m_trouble : Int32) (v1 : Int32) (v2 : Int32) (v3 : Int32) {z : Int32 × Int32 × Int32} (e_m_hasFerry : I 12 = m_hasFerry) (e_m_r : A 2 = m_r) (e_m_st : A 4 = m_st) (e_m_thrown : I 0 = m_thrown) (e_m_trouble : I 10 = m_trouble) (hf : f_X11_rhyme m_hasFerry m_r m_st m_thrown m_trouble v1 v2 v3 = some z) : rf_MI l yX11_rhyme cX11_rhyme 5 (some .int) ({ frames := 4, cells := 0, slots := 0, locals := 100 }) E [.ref (a 0), .int v1, .int v2, .int v3] (cM E a I A) z.1 (cM E a (rf_upL I [(0, z.2.1), (10, z.2.2)]) A) := by
  unfold f_X11_rhyme at hf
  refine rf_ofI (by decide) (Nat.le_of_ble_eq_true rfl) ?_
  intro p e s m below meth c A0 ls hC hD hP hS hl
  have hC : rf_C p E s m _ meth c cX11_rhyme 5 RX11 (some .int) A0 := hC
  have hx := hC.1
  have hb := hC.2.1
  have hl : lv_has ls 5 [(0, .ref (a 0)), (1, .int v1), (2, .int v2), (3, .int v3)] := hl
  have hP : va_P (rf_D E) vwCl (cM E a (rf_upL I [(0, m_thrown), (10, m_trouble)]) A) s.heap := by
    rw [rf_self (f := I) [(0, m_thrown), (10, m_trouble)] (rf_fa1 e_m_thrown (rf_fa1 e_m_trouble rf_fa0))]
    exact hP
  refine lv_aload_n hx hb dX11_rhyme_0 rfl (lv_at hl 0 rfl) ?_
  obtain ⟨z1, hz1, hf⟩ := rf_bd hf
  refine rf_vv (q0 := 0) (ci := 11) hC (c_X11_good l E a (rf_upL I [(0, m_thrown), (10, m_trouble)]) A m_thrown m_trouble rfl rfl hz1) kV_X11_good tw_1403 ⟨Nat.le_of_ble_eq_true rfl, Nat.le_of_ble_eq_true rfl⟩ rfl rfl rfl rfl rfl hP (rf_DM hD) hS rfl hl.1 (rest := []) rfl (Nat.le_of_ble_eq_true rfl) dX11_rhyme_1 (fun H locs hP hS => ?_)
  rw [rf_cat (f := I) (l := [(0, m_thrown), (10, m_trouble)]) (lc := [(0, z1.1), (10, z1.2)]) (l' := [(0, z1.1), (10, z1.2)]) rfl] at hP
  refine lv_aload_n hx hb dX11_rhyme_4 rfl (lv_at hl 0 rfl) ?_
  refine lv_aload_n hx hb dX11_rhyme_5 rfl (lv_at hl 0 rfl) ?_
  refine lv_iload_n hx hb dX11_rhyme_6 rfl (lv_at hl 1 rfl) ?_
  refine lv_iload_n hx hb dX11_rhyme_7 rfl (lv_at hl 2 rfl) ?_
  obtain ⟨z8, hz8, hf⟩ := rf_bd hf
  refine rf_vi (q0 := 0) (ci := 11) hC (c_X11_areTwo l E a (rf_upL I [(0, z1.1), (10, z1.2)]) A m_hasFerry m_r v1 v2 e_m_hasFerry e_m_r hz8) kV_X11_areTwo tw_1632 ⟨Nat.le_of_ble_eq_true rfl, Nat.le_of_ble_eq_true rfl⟩ rfl rfl rfl rfl rfl hP (rf_DM hD) hS rfl hl.1 (rest := [.ref (a 0)]) rfl (Nat.le_of_ble_eq_true rfl) dX11_rhyme_8 (fun H locs hP hS => ?_)
  refine lv_iload_n hx hb dX11_rhyme_11 rfl (lv_at hl 3 rfl) ?_
  obtain ⟨z12, hz12, hf⟩ := rf_bd hf
  refine rf_vi (q0 := 0) (ci := 11) hC (c_X11_why l E a (rf_upL I [(0, z1.1), (10, z1.2)]) A z8 v3 hz12) kV_X11_why tw_1617 ⟨Nat.le_of_ble_eq_true rfl, Nat.le_of_ble_eq_true rfl⟩ rfl rfl rfl rfl rfl hP (rf_DM hD) hS rfl hl.1 (rest := []) rfl (Nat.le_of_ble_eq_true rfl) dX11_rhyme_12 (fun H locs hP hS => ?_)
  refine lv_istore (lv' := [(4, .int z12), (0, .ref (a 0)), (1, .int v1), (2, .int v2), (3, .int v3)]) hx hb dX11_rhyme_15 hl (by decide) rfl (fun ls hl => ?_)
  refine lv_iload hx hb dX11_rhyme_17 (lv_at hl 0 rfl) ?_
  refine lv_if_eq (tgt := 31) hx hb dX11_rhyme_19 (by decide) (fun c_19 => ?_) (fun c_19 => ?_)
  · have hf := rf_it c_19 hf
    refine lv_aload_n hx hb dX11_rhyme_31 rfl (lv_at hl 1 rfl) ?_
    refine lv_iload_n hx hb dX11_rhyme_32 rfl (lv_at hl 2 rfl) ?_
    refine lv_iload_n hx hb dX11_rhyme_33 rfl (lv_at hl 3 rfl) ?_
    refine lv_aload_n hx hb dX11_rhyme_34 rfl (lv_at hl 1 rfl) ?_
    refine lv_iload_n hx hb dX11_rhyme_35 rfl (lv_at hl 4 rfl) ?_
    obtain ⟨z36, hz36, hf⟩ := rf_bd hf
    refine rf_vi (q0 := 0) (ci := 11) hC (c_X11_earAt l E a (rf_upL I [(0, z1.1), (10, z1.2)]) A m_r v3 e_m_r hz36) kV_X11_earAt tw_1624 ⟨Nat.le_of_ble_eq_true rfl, Nat.le_of_ble_eq_true rfl⟩ rfl rfl rfl rfl rfl hP (rf_DM hD) hS rfl hl.1 (rest := [.int v2, .int v1, .ref (a 0)]) rfl (Nat.le_of_ble_eq_true rfl) dX11_rhyme_36 (fun H locs hP hS => ?_)
    obtain ⟨z39, hz39, hf⟩ := rf_bd hf
    refine rf_vi (q0 := 0) (ci := 11) hC (c_X11_rhymeNow l E a (rf_upL I [(0, z1.1), (10, z1.2)]) A m_r m_st v1 v2 z36 e_m_r e_m_st hz39) kV_X11_rhymeNow tw_1636 ⟨Nat.le_of_ble_eq_true rfl, Nat.le_of_ble_eq_true rfl⟩ rfl rfl rfl rfl rfl hP (rf_DM hD) hS rfl hl.1 (rest := []) rfl (Nat.le_of_ble_eq_true rfl) dX11_rhyme_39 (fun H locs hP hS => ?_)
    obtain rfl := Option.some.inj hf
    exact rf_reti hC hP hS rfl rfl dX11_rhyme_42
  have hf := rf_ie c_19 hf
  refine lv_aload_n hx hb dX11_rhyme_22 rfl (lv_at hl 1 rfl) ?_
  refine lv_iload hx hb dX11_rhyme_23 (lv_at hl 0 rfl) ?_
  obtain ⟨z25, hz25, hf⟩ := rf_bd hf
  refine rf_vi (q0 := 0) (ci := 11) hC (c_X11_no l E a (rf_upL I [(0, z1.1), (10, z1.2)]) A z1.2 z12 rfl hz25) kV_X11_no tw_1410 ⟨Nat.le_of_ble_eq_true rfl, Nat.le_of_ble_eq_true rfl⟩ rfl rfl rfl rfl rfl hP (rf_DM hD) hS rfl hl.1 (rest := []) rfl (Nat.le_of_ble_eq_true rfl) dX11_rhyme_25 (fun H locs hP hS => ?_)
  rw [rf_cat (f := I) (l := [(0, z1.1), (10, z1.2)]) (lc := [(10, z25.2)]) (l' := [(0, z1.1), (10, z25.2)]) rfl] at hP
  refine lv_goto (tgt := 42) hx hb dX11_rhyme_28 (by decide) ?_
  obtain rfl := Option.some.inj hf
  exact rf_reti hC hP hS rfl rfl dX11_rhyme_42
set_option maxHeartbeats 4000000 in
set_option maxRecDepth 100000 in
theorem w_X11_withBy_64 {l : Launch} {p : Program} {e : Env} {s : State} {m : MethodId} {args : Array Value} {below : List Frame} {meth : Method} {c : Code} {A0 : Nat → Prop} {E : rf_E} {a : Nat → Nat} {I : Nat → Int32} {A : Nat → Nat → Int32} {m_r : Nat → Int32} {m_st : Nat → Int32} {z : Int32} (hC : rf_C p E s m args meth c cX11_withBy 6 RX11 (some .int) A0) (hD : va_D A0 (cM E a I A)) (e_m_r : A 2 = m_r) (e_m_st : A 4 = m_st) {k6 : Int32 → Int32 → Int32 → Int32 → Int32 → Option (Int32)} (hk6 : ∀ (v1 : Int32) (v2 : Int32) (v3 : Int32) (v4 : Int32) (v5 : Int32), k6 v1 v2 v3 v4 v5 = some z → ∀ (H : Heap) (locs : List Loc) (ls : Array Slot), va_P (rf_D E) vwCl (cM E a I A) H → va_S A0 s.heap H locs → lv_has ls 6 [(0, .ref (a 0)), (1, .int v1), (2, .int v2), (3, .int v3), (4, .int v4), (5, .int v5)] → W p l e ({ frames := 3, cells := 0, slots := 0, locals := 77 }) s m args below meth c H locs 0 0 (rf_QI below args s E A0 z (cM E a I A)) (F0 m 6 ls [])) :
    ∀ (v1 : Int32) (v2 : Int32) (v3 : Int32) (v5 : Int32) (s0 : Int32) (s1 : Int32), f_X11_withBy_64 k6 m_r m_st v1 v2 v3 v5 s0 s1 = some z → ∀ (H : Heap) (locs : List Loc) (ls : Array Slot), va_P (rf_D E) vwCl (cM E a I A) H → va_S A0 s.heap H locs → lv_has ls 6 [(0, .ref (a 0)), (1, .int v1), (2, .int v2), (3, .int v3), (5, .int v5)] → W p l e ({ frames := 3, cells := 0, slots := 0, locals := 77 }) s m args below meth c H locs 0 0 (rf_QI below args s E A0 z (cM E a I A)) (F0 m 64 ls [.int s1, .int s0]) := by
  have hx := hC.1
  have hb := hC.2.1
  intro v1 v2 v3 v5 s0 s1 hf H locs ls hP hS hl
  unfold f_X11_withBy_64 at hf
  refine lv_ior hx hb dX11_withBy_64 ?_
  refine lv_istore (lv' := [(4, .int (s0 ||| s1)), (0, .ref (a 0)), (1, .int v1), (2, .int v2), (3, .int v3), (5, .int v5)]) hx hb dX11_withBy_65 hl (by decide) rfl (fun ls hl => ?_)
  refine lv_iinc (v := v5 + 1) (lv' := [(5, .int (v5 + 1)), (4, .int (s0 ||| s1)), (0, .ref (a 0)), (1, .int v1), (2, .int v2), (3, .int v3)]) hx hb dX11_withBy_67 hl (k := 5) rfl rfl (by decide) rfl (fun ls hl => ?_)
  refine lv_goto (tgt := 6) hx hb dX11_withBy_70 (by decide) ?_
  exact hk6 v1 v2 v3 (s0 ||| s1) (v5 + 1) hf _ _ _ hP hS (lv_sub hl [2, 3, 4, 5, 1, 0] rfl)
set_option maxHeartbeats 4000000 in
set_option maxRecDepth 100000 in
theorem w_X11_withBy_63 {l : Launch} {p : Program} {e : Env} {s : State} {m : MethodId} {args : Array Value} {below : List Frame} {meth : Method} {c : Code} {A0 : Nat → Prop} {E : rf_E} {a : Nat → Nat} {I : Nat → Int32} {A : Nat → Nat → Int32} {m_r : Nat → Int32} {m_st : Nat → Int32} {z : Int32} (hC : rf_C p E s m args meth c cX11_withBy 6 RX11 (some .int) A0) (hD : va_D A0 (cM E a I A)) (e_m_r : A 2 = m_r) (e_m_st : A 4 = m_st) {k6 : Int32 → Int32 → Int32 → Int32 → Int32 → Option (Int32)} (hk6 : ∀ (v1 : Int32) (v2 : Int32) (v3 : Int32) (v4 : Int32) (v5 : Int32), k6 v1 v2 v3 v4 v5 = some z → ∀ (H : Heap) (locs : List Loc) (ls : Array Slot), va_P (rf_D E) vwCl (cM E a I A) H → va_S A0 s.heap H locs → lv_has ls 6 [(0, .ref (a 0)), (1, .int v1), (2, .int v2), (3, .int v3), (4, .int v4), (5, .int v5)] → W p l e ({ frames := 3, cells := 0, slots := 0, locals := 77 }) s m args below meth c H locs 0 0 (rf_QI below args s E A0 z (cM E a I A)) (F0 m 6 ls [])) :
    ∀ (v1 : Int32) (v2 : Int32) (v3 : Int32) (v5 : Int32) (s0 : Int32), f_X11_withBy_63 k6 m_r m_st v1 v2 v3 v5 s0 = some z → ∀ (H : Heap) (locs : List Loc) (ls : Array Slot), va_P (rf_D E) vwCl (cM E a I A) H → va_S A0 s.heap H locs → lv_has ls 6 [(0, .ref (a 0)), (1, .int v1), (2, .int v2), (3, .int v3), (5, .int v5)] → W p l e ({ frames := 3, cells := 0, slots := 0, locals := 77 }) s m args below meth c H locs 0 0 (rf_QI below args s E A0 z (cM E a I A)) (F0 m 63 ls [.int s0]) := by
  have hx := hC.1
  have hb := hC.2.1
  intro v1 v2 v3 v5 s0 hf H locs ls hP hS hl
  unfold f_X11_withBy_63 at hf
  refine lv_iconst (v := 0) hx hb dX11_withBy_63 (by decide) ?_
  exact w_X11_withBy_64 hC hD e_m_r e_m_st hk6 v1 v2 v3 v5 s0 0 hf _ _ _ hP hS (lv_sub hl [0, 1, 2, 3, 4] rfl)
set_option maxHeartbeats 4000000 in
set_option maxRecDepth 100000 in
theorem w_X11_withBy_6 {l : Launch} {p : Program} {e : Env} {s : State} {m : MethodId} {args : Array Value} {below : List Frame} {meth : Method} {c : Code} {A0 : Nat → Prop} {E : rf_E} {a : Nat → Nat} {I : Nat → Int32} {A : Nat → Nat → Int32} {m_r : Nat → Int32} {m_st : Nat → Int32} {z : Int32} (hC : rf_C p E s m args meth c cX11_withBy 6 RX11 (some .int) A0) (hD : va_D A0 (cM E a I A)) (e_m_r : A 2 = m_r) (e_m_st : A 4 = m_st) :
    ∀ (n : Nat), ∀ (v1 : Int32) (v2 : Int32) (v3 : Int32) (v4 : Int32) (v5 : Int32), f_X11_withBy_6 m_r m_st n v1 v2 v3 v4 v5 = some z → ∀ (H : Heap) (locs : List Loc) (ls : Array Slot), va_P (rf_D E) vwCl (cM E a I A) H → va_S A0 s.heap H locs → lv_has ls 6 [(0, .ref (a 0)), (1, .int v1), (2, .int v2), (3, .int v3), (4, .int v4), (5, .int v5)] → W p l e ({ frames := 3, cells := 0, slots := 0, locals := 77 }) s m args below meth c H locs 0 0 (rf_QI below args s E A0 z (cM E a I A)) (F0 m 6 ls []) := by
  have hx := hC.1
  have hb := hC.2.1
  intro n
  induction n with
  | zero =>
    intro v1 v2 v3 v4 v5 hf
    have hf : (none : Option (Int32)) = some z := hf
    cases hf
  | succ n ih =>
    intro v1 v2 v3 v4 v5 hf H locs ls hP hS hl
    rw [f_X11_withBy_6] at hf
    refine lv_iload hx hb dX11_withBy_6 (lv_at hl 5 rfl) ?_
    refine lv_aload_n hx hb dX11_withBy_8 rfl (lv_at hl 0 rfl) ?_
    refine gM_m_r hC hP tw_1294 dX11_withBy_9 ?_
    refine lv_iconst (v := 3) hx hb dX11_withBy_12 (by decide) ?_
    refine lM_m_r hC hP (by decide) (f := m_r) e_m_r dX11_withBy_13 ?_
    refine lv_icmp_ge (tgt := 73) hx hb dX11_withBy_14 (by decide) (fun c_14 => ?_) (fun c_14 => ?_)
    · have hf := rf_it c_14 hf
      refine lv_iload hx hb dX11_withBy_73 (lv_at hl 4 rfl) ?_
      obtain rfl := Option.some.inj hf
      exact rf_reti hC hP hS rfl rfl dX11_withBy_75
    have hf := rf_ie c_14 hf
    refine lv_iload hx hb dX11_withBy_17 (lv_at hl 4 rfl) ?_
    refine lv_iload hx hb dX11_withBy_19 (lv_at hl 5 rfl) ?_
    refine lv_iload_n hx hb dX11_withBy_21 rfl (lv_at hl 1 rfl) ?_
    refine lv_icmp_eq (tgt := 63) hx hb dX11_withBy_22 (by decide) (fun c_22 => ?_) (fun c_22 => ?_)
    · have hf := rf_it c_22 hf
      exact w_X11_withBy_63 hC hD e_m_r e_m_st ih v1 v2 v3 v5 v4 hf _ _ _ hP hS (lv_sub hl [0, 1, 2, 3, 5] rfl)
    have hf := rf_ie c_22 hf
    refine lv_aload_n hx hb dX11_withBy_25 rfl (lv_at hl 0 rfl) ?_
    refine lv_aload_n hx hb dX11_withBy_26 rfl (lv_at hl 0 rfl) ?_
    refine lv_iload_n hx hb dX11_withBy_27 rfl (lv_at hl 1 rfl) ?_
    obtain ⟨z28, hz28, hf⟩ := rf_bd hf
    refine rf_vi (q0 := 0) (ci := 11) hC (c_X11_kindOf l E a I A m_r v1 e_m_r hz28) kV_X11_kindOf tw_1609 ⟨Nat.le_of_ble_eq_true rfl, Nat.le_of_ble_eq_true rfl⟩ rfl rfl rfl rfl rfl hP (rf_DM hD) hS rfl hl.1 (rest := [.ref (a 0), .int v4]) rfl (Nat.le_of_ble_eq_true rfl) dX11_withBy_28 (fun H locs hP hS => ?_)
    refine lv_iload_n hx hb dX11_withBy_31 rfl (lv_at hl 2 rfl) ?_
    refine lv_aload_n hx hb dX11_withBy_32 rfl (lv_at hl 0 rfl) ?_
    refine lv_iload hx hb dX11_withBy_33 (lv_at hl 5 rfl) ?_
    obtain ⟨z35, hz35, hf⟩ := rf_bd hf
    refine rf_vi (q0 := 0) (ci := 11) hC (c_X11_kindOf l E a I A m_r v5 e_m_r hz35) kV_X11_kindOf tw_1609 ⟨Nat.le_of_ble_eq_true rfl, Nat.le_of_ble_eq_true rfl⟩ rfl rfl rfl rfl rfl hP (rf_DM hD) hS rfl hl.1 (rest := [.int v2, .int z28, .ref (a 0), .int v4]) rfl (Nat.le_of_ble_eq_true rfl) dX11_withBy_35 (fun H locs hP hS => ?_)
    refine lv_aload_n hx hb dX11_withBy_38 rfl (lv_at hl 0 rfl) ?_
    refine gM_m_st hC hP tw_1296 dX11_withBy_39 ?_
    refine lv_bipush (v := 8) hx hb dX11_withBy_42 (by decide) ?_
    refine lv_iload hx hb dX11_withBy_44 (lv_at hl 5 rfl) ?_
    refine lv_iadd hx hb dX11_withBy_46 ?_
    obtain ⟨hi_47, hf⟩ := rf_gu hf
    refine lM_m_st hC hP hi_47 (f := m_st) e_m_st dX11_withBy_47 ?_
    refine lv_iload_n hx hb dX11_withBy_48 rfl (lv_at hl 3 rfl) ?_
    obtain ⟨z49, hz49, hf⟩ := rf_bd hf
    refine rf_vi (q0 := 0) (ci := 11) hC (c_X11_rhymeOf l E a I A m_r z28 v2 z35 (m_st (Int32.toNatClampNeg ((8 : Int32) + v5))) v3 e_m_r hz49) kV_X11_rhymeOf tw_1640 ⟨Nat.le_of_ble_eq_true rfl, Nat.le_of_ble_eq_true rfl⟩ rfl rfl rfl rfl rfl hP (rf_DM hD) hS rfl hl.1 (rest := [.int v4]) rfl (Nat.le_of_ble_eq_true rfl) dX11_withBy_49 (fun H locs hP hS => ?_)
    refine lv_iconst (v := 2) hx hb dX11_withBy_52 (by decide) ?_
    refine lv_icmp_ne (tgt := 63) hx hb dX11_withBy_53 (by decide) (fun c_53 => ?_) (fun c_53 => ?_)
    · have hf := rf_ie c_53 hf
      exact w_X11_withBy_63 hC hD e_m_r e_m_st ih v1 v2 v3 v5 v4 hf _ _ _ hP hS (lv_sub hl [0, 1, 2, 3, 5] rfl)
    have hf := rf_it c_53 hf
    refine lv_iconst (v := 1) hx hb dX11_withBy_56 (by decide) ?_
    refine lv_iload hx hb dX11_withBy_57 (lv_at hl 5 rfl) ?_
    refine lv_ishl hx hb dX11_withBy_59 ?_
    refine lv_goto (tgt := 64) hx hb dX11_withBy_60 (by decide) ?_
    exact w_X11_withBy_64 hC hD e_m_r e_m_st ih v1 v2 v3 v5 v4 ((1 : Int32) <<< (v5 &&& 31)) hf _ _ _ hP hS (lv_sub hl [0, 1, 2, 3, 5] rfl)
set_option maxHeartbeats 4000000 in
set_option maxRecDepth 100000 in
theorem c_X11_withBy (l : Launch) (E : rf_E) (a : Nat → Nat) (I : Nat → Int32) (A : Nat → Nat → Int32) (m_r : Nat → Int32) (m_st : Nat → Int32) (v1 : Int32) (v2 : Int32) (v3 : Int32) {z : Int32} (e_m_r : A 2 = m_r) (e_m_st : A 4 = m_st) (hf : f_X11_withBy m_r m_st v1 v2 v3 = some z) : rf_MI l yX11_withBy cX11_withBy 6 (some .int) ({ frames := 3, cells := 0, slots := 0, locals := 77 }) E [.ref (a 0), .int v1, .int v2, .int v3] (cM E a I A) z (cM E a I A) := by
  unfold f_X11_withBy at hf
  refine rf_ofI (by decide) (Nat.le_of_ble_eq_true rfl) ?_
  intro p e s m below meth c A0 ls hC hD hP hS hl
  have hC : rf_C p E s m _ meth c cX11_withBy 6 RX11 (some .int) A0 := hC
  have hx := hC.1
  have hb := hC.2.1
  have hl : lv_has ls 6 [(0, .ref (a 0)), (1, .int v1), (2, .int v2), (3, .int v3)] := hl
  refine lv_iconst (v := 0) hx hb dX11_withBy_0 (by decide) ?_
  refine lv_istore (lv' := [(4, .int 0), (0, .ref (a 0)), (1, .int v1), (2, .int v2), (3, .int v3)]) hx hb dX11_withBy_1 hl (by decide) rfl (fun ls hl => ?_)
  refine lv_iconst (v := 0) hx hb dX11_withBy_3 (by decide) ?_
  refine lv_istore (lv' := [(5, .int 0), (4, .int 0), (0, .ref (a 0)), (1, .int v1), (2, .int v2), (3, .int v3)]) hx hb dX11_withBy_4 hl (by decide) rfl (fun ls hl => ?_)
  exact w_X11_withBy_6 hC hD e_m_r e_m_st rf_fu v1 v2 v3 0 0 hf _ _ _ hP hS (lv_sub hl [2, 3, 4, 5, 1, 0] rfl)
set_option maxHeartbeats 4000000 in
set_option maxRecDepth 100000 in
theorem c_X11_with (l : Launch) (E : rf_E) (a : Nat → Nat) (I : Nat → Int32) (A : Nat → Nat → Int32) (m_hasFerry : Int32) (m_r : Nat → Int32) (m_st : Nat → Int32) (m_thrown : Int32) (m_trouble : Int32) (v1 : Int32) (v2 : Int32) {z : Int32 × Int32 × Int32} (e_m_hasFerry : I 12 = m_hasFerry) (e_m_r : A 2 = m_r) (e_m_st : A 4 = m_st) (e_m_thrown : I 0 = m_thrown) (e_m_trouble : I 10 = m_trouble) (hf : f_X11_with m_hasFerry m_r m_st m_thrown m_trouble v1 v2 = some z) : rf_MI l yX11_with cX11_with 4 (some .int) ({ frames := 4, cells := 0, slots := 0, locals := 102 }) E [.ref (a 0), .int v1, .int v2] (cM E a I A) z.1 (cM E a (rf_upL I [(0, z.2.1), (10, z.2.2)]) A) := by
  unfold f_X11_with at hf
  refine rf_ofI (by decide) (Nat.le_of_ble_eq_true rfl) ?_
  intro p e s m below meth c A0 ls hC hD hP hS hl
  have hC : rf_C p E s m _ meth c cX11_with 4 RX11 (some .int) A0 := hC
  have hx := hC.1
  have hb := hC.2.1
  have hl : lv_has ls 4 [(0, .ref (a 0)), (1, .int v1), (2, .int v2)] := hl
  have hP : va_P (rf_D E) vwCl (cM E a (rf_upL I [(0, m_thrown), (10, m_trouble)]) A) s.heap := by
    rw [rf_self (f := I) [(0, m_thrown), (10, m_trouble)] (rf_fa1 e_m_thrown (rf_fa1 e_m_trouble rf_fa0))]
    exact hP
  refine lv_aload_n hx hb dX11_with_0 rfl (lv_at hl 0 rfl) ?_
  obtain ⟨z1, hz1, hf⟩ := rf_bd hf
  refine rf_vv (q0 := 0) (ci := 11) hC (c_X11_good l E a (rf_upL I [(0, m_thrown), (10, m_trouble)]) A m_thrown m_trouble rfl rfl hz1) kV_X11_good tw_1403 ⟨Nat.le_of_ble_eq_true rfl, Nat.le_of_ble_eq_true rfl⟩ rfl rfl rfl rfl rfl hP (rf_DM hD) hS rfl hl.1 (rest := []) rfl (Nat.le_of_ble_eq_true rfl) dX11_with_1 (fun H locs hP hS => ?_)
  rw [rf_cat (f := I) (l := [(0, m_thrown), (10, m_trouble)]) (lc := [(0, z1.1), (10, z1.2)]) (l' := [(0, z1.1), (10, z1.2)]) rfl] at hP
  refine lv_aload_n hx hb dX11_with_4 rfl (lv_at hl 0 rfl) ?_
  refine lv_aload_n hx hb dX11_with_5 rfl (lv_at hl 0 rfl) ?_
  refine lv_iload_n hx hb dX11_with_6 rfl (lv_at hl 1 rfl) ?_
  obtain ⟨z7, hz7, hf⟩ := rf_bd hf
  refine rf_vi (q0 := 0) (ci := 11) hC (c_X11_isPerson l E a (rf_upL I [(0, z1.1), (10, z1.2)]) A m_hasFerry m_r v1 e_m_hasFerry e_m_r hz7) kV_X11_isPerson tw_1605 ⟨Nat.le_of_ble_eq_true rfl, Nat.le_of_ble_eq_true rfl⟩ rfl rfl rfl rfl rfl hP (rf_DM hD) hS rfl hl.1 (rest := [.ref (a 0)]) rfl (Nat.le_of_ble_eq_true rfl) dX11_with_7 (fun H locs hP hS => ?_)
  refine lv_iload_n hx hb dX11_with_10 rfl (lv_at hl 2 rfl) ?_
  obtain ⟨z11, hz11, hf⟩ := rf_bd hf
  refine rf_vi (q0 := 0) (ci := 11) hC (c_X11_why l E a (rf_upL I [(0, z1.1), (10, z1.2)]) A z7 v2 hz11) kV_X11_why tw_1617 ⟨Nat.le_of_ble_eq_true rfl, Nat.le_of_ble_eq_true rfl⟩ rfl rfl rfl rfl rfl hP (rf_DM hD) hS rfl hl.1 (rest := []) rfl (Nat.le_of_ble_eq_true rfl) dX11_with_11 (fun H locs hP hS => ?_)
  refine lv_istore_n (lv' := [(3, .int z11), (0, .ref (a 0)), (1, .int v1), (2, .int v2)]) hx hb dX11_with_14 rfl hl (by decide) rfl (fun ls hl => ?_)
  refine lv_iload_n hx hb dX11_with_15 rfl (lv_at hl 0 rfl) ?_
  refine lv_if_eq (tgt := 27) hx hb dX11_with_16 (by decide) (fun c_16 => ?_) (fun c_16 => ?_)
  · have hf := rf_it c_16 hf
    refine lv_aload_n hx hb dX11_with_27 rfl (lv_at hl 1 rfl) ?_
    refine lv_iload_n hx hb dX11_with_28 rfl (lv_at hl 2 rfl) ?_
    refine lv_aload_n hx hb dX11_with_29 rfl (lv_at hl 1 rfl) ?_
    refine gM_m_st hC hP tw_1296 dX11_with_30 ?_
    refine lv_bipush (v := 8) hx hb dX11_with_33 (by decide) ?_
    refine lv_iload_n hx hb dX11_with_35 rfl (lv_at hl 2 rfl) ?_
    refine lv_iadd hx hb dX11_with_36 ?_
    obtain ⟨hi_37, hf⟩ := rf_gu hf
    refine lM_m_st hC hP hi_37 (f := m_st) e_m_st dX11_with_37 ?_
    refine lv_aload_n hx hb dX11_with_38 rfl (lv_at hl 1 rfl) ?_
    refine lv_iload_n hx hb dX11_with_39 rfl (lv_at hl 3 rfl) ?_
    obtain ⟨z40, hz40, hf⟩ := rf_bd hf
    refine rf_vi (q0 := 0) (ci := 11) hC (c_X11_earAt l E a (rf_upL I [(0, z1.1), (10, z1.2)]) A m_r v2 e_m_r hz40) kV_X11_earAt tw_1624 ⟨Nat.le_of_ble_eq_true rfl, Nat.le_of_ble_eq_true rfl⟩ rfl rfl rfl rfl rfl hP (rf_DM hD) hS rfl hl.1 (rest := [.int (m_st (Int32.toNatClampNeg ((8 : Int32) + v1))), .int v1, .ref (a 0)]) rfl (Nat.le_of_ble_eq_true rfl) dX11_with_40 (fun H locs hP hS => ?_)
    obtain ⟨z43, hz43, hf⟩ := rf_bd hf
    refine rf_vi (q0 := 0) (ci := 11) hC (c_X11_withBy l E a (rf_upL I [(0, z1.1), (10, z1.2)]) A m_r m_st v1 (m_st (Int32.toNatClampNeg ((8 : Int32) + v1))) z40 e_m_r e_m_st hz43) kV_X11_withBy tw_1648 ⟨Nat.le_of_ble_eq_true rfl, Nat.le_of_ble_eq_true rfl⟩ rfl rfl rfl rfl rfl hP (rf_DM hD) hS rfl hl.1 (rest := []) rfl (Nat.le_of_ble_eq_true rfl) dX11_with_43 (fun H locs hP hS => ?_)
    obtain rfl := Option.some.inj hf
    exact rf_reti hC hP hS rfl rfl dX11_with_46
  have hf := rf_ie c_16 hf
  refine lv_aload_n hx hb dX11_with_19 rfl (lv_at hl 1 rfl) ?_
  refine lv_iload_n hx hb dX11_with_20 rfl (lv_at hl 0 rfl) ?_
  obtain ⟨z21, hz21, hf⟩ := rf_bd hf
  refine rf_vi (q0 := 0) (ci := 11) hC (c_X11_no l E a (rf_upL I [(0, z1.1), (10, z1.2)]) A z1.2 z11 rfl hz21) kV_X11_no tw_1410 ⟨Nat.le_of_ble_eq_true rfl, Nat.le_of_ble_eq_true rfl⟩ rfl rfl rfl rfl rfl hP (rf_DM hD) hS rfl hl.1 (rest := []) rfl (Nat.le_of_ble_eq_true rfl) dX11_with_21 (fun H locs hP hS => ?_)
  rw [rf_cat (f := I) (l := [(0, z1.1), (10, z1.2)]) (lc := [(10, z21.2)]) (l' := [(0, z1.1), (10, z21.2)]) rfl] at hP
  refine lv_goto (tgt := 46) hx hb dX11_with_24 (by decide) ?_
  obtain rfl := Option.some.inj hf
  exact rf_reti hC hP hS rfl rfl dX11_with_46
set_option maxHeartbeats 4000000 in
set_option maxRecDepth 100000 in
theorem w_X11_renamed_26 {l : Launch} {p : Program} {e : Env} {s : State} {m : MethodId} {args : Array Value} {below : List Frame} {meth : Method} {c : Code} {A0 : Nat → Prop} {E : rf_E} {a : Nat → Nat} {I : Nat → Int32} {A : Nat → Nat → Int32} {m_hasFerry : Int32} {m_r : Nat → Int32} {m_st : Nat → Int32} {z : Int32 × Int32 × Int32} (hC : rf_C p E s m args meth c cX11_renamed 5 RX11 (some .int) A0) (hD : va_D A0 (cM E a I A)) (e_m_hasFerry : I 12 = m_hasFerry) (e_m_r : A 2 = m_r) (e_m_st : A 4 = m_st) :
    ∀ (v1 : Int32) (v2 : Int32) (v3 : Int32) (s1 : Int32) (m_thrown : Int32) (m_trouble : Int32), f_X11_renamed_26 m_hasFerry m_r m_st v1 v2 v3 s1 m_thrown m_trouble = some z → ∀ (H : Heap) (locs : List Loc) (ls : Array Slot), va_P (rf_D E) vwCl (cM E a (rf_upL I [(0, m_thrown), (10, m_trouble)]) A) H → va_S A0 s.heap H locs → lv_has ls 5 [(0, .ref (a 0)), (1, .int v1), (2, .int v2), (3, .int v3)] → W p l e ({ frames := 4, cells := 0, slots := 0, locals := 102 }) s m args below meth c H locs 0 0 (rf_QI below args s E A0 z.1 (cM E a (rf_upL I [(0, z.2.1), (10, z.2.2)]) A)) (F0 m 26 ls [.int s1, .ref (a 0)]) := by
  have hx := hC.1
  have hb := hC.2.1
  intro v1 v2 v3 s1 m_thrown m_trouble hf H locs ls hP hS hl
  unfold f_X11_renamed_26 at hf
  refine lv_iload_n hx hb dX11_renamed_26 rfl (lv_at hl 3 rfl) ?_
  obtain ⟨z27, hz27, hf⟩ := rf_bd hf
  refine rf_vi (q0 := 0) (ci := 11) hC (c_X11_why l E a (rf_upL I [(0, m_thrown), (10, m_trouble)]) A s1 v3 hz27) kV_X11_why tw_1617 ⟨Nat.le_of_ble_eq_true rfl, Nat.le_of_ble_eq_true rfl⟩ rfl rfl rfl rfl rfl hP (rf_DM hD) hS rfl hl.1 (rest := []) rfl (Nat.le_of_ble_eq_true rfl) dX11_renamed_27 (fun H locs hP hS => ?_)
  refine lv_istore (lv' := [(4, .int z27), (0, .ref (a 0)), (1, .int v1), (2, .int v2), (3, .int v3)]) hx hb dX11_renamed_30 hl (by decide) rfl (fun ls hl => ?_)
  refine lv_iload hx hb dX11_renamed_32 (lv_at hl 0 rfl) ?_
  refine lv_if_eq (tgt := 46) hx hb dX11_renamed_34 (by decide) (fun c_34 => ?_) (fun c_34 => ?_)
  · have hf := rf_it c_34 hf
    refine lv_aload_n hx hb dX11_renamed_46 rfl (lv_at hl 1 rfl) ?_
    refine lv_iload_n hx hb dX11_renamed_47 rfl (lv_at hl 2 rfl) ?_
    refine lv_iconst (v := 1) hx hb dX11_renamed_48 (by decide) ?_
    refine lv_iload_n hx hb dX11_renamed_49 rfl (lv_at hl 3 rfl) ?_
    refine lv_ishl hx hb dX11_renamed_50 ?_
    refine lv_aload_n hx hb dX11_renamed_51 rfl (lv_at hl 1 rfl) ?_
    refine lv_iload_n hx hb dX11_renamed_52 rfl (lv_at hl 4 rfl) ?_
    obtain ⟨z53, hz53, hf⟩ := rf_bd hf
    refine rf_vi (q0 := 0) (ci := 11) hC (c_X11_earAt l E a (rf_upL I [(0, m_thrown), (10, m_trouble)]) A m_r v3 e_m_r hz53) kV_X11_earAt tw_1624 ⟨Nat.le_of_ble_eq_true rfl, Nat.le_of_ble_eq_true rfl⟩ rfl rfl rfl rfl rfl hP (rf_DM hD) hS rfl hl.1 (rest := [.int ((1 : Int32) <<< (v2 &&& 31)), .int v1, .ref (a 0)]) rfl (Nat.le_of_ble_eq_true rfl) dX11_renamed_53 (fun H locs hP hS => ?_)
    obtain ⟨z56, hz56, hf⟩ := rf_bd hf
    refine rf_vi (q0 := 0) (ci := 11) hC (c_X11_withBy l E a (rf_upL I [(0, m_thrown), (10, m_trouble)]) A m_r m_st v1 ((1 : Int32) <<< (v2 &&& 31)) z53 e_m_r e_m_st hz56) kV_X11_withBy tw_1648 ⟨Nat.le_of_ble_eq_true rfl, Nat.le_of_ble_eq_true rfl⟩ rfl rfl rfl rfl rfl hP (rf_DM hD) hS rfl hl.1 (rest := []) rfl (Nat.le_of_ble_eq_true rfl) dX11_renamed_56 (fun H locs hP hS => ?_)
    obtain rfl := Option.some.inj hf
    exact rf_reti hC hP hS rfl rfl dX11_renamed_59
  have hf := rf_ie c_34 hf
  refine lv_aload_n hx hb dX11_renamed_37 rfl (lv_at hl 1 rfl) ?_
  refine lv_iload hx hb dX11_renamed_38 (lv_at hl 0 rfl) ?_
  obtain ⟨z40, hz40, hf⟩ := rf_bd hf
  refine rf_vi (q0 := 0) (ci := 11) hC (c_X11_no l E a (rf_upL I [(0, m_thrown), (10, m_trouble)]) A m_trouble z27 rfl hz40) kV_X11_no tw_1410 ⟨Nat.le_of_ble_eq_true rfl, Nat.le_of_ble_eq_true rfl⟩ rfl rfl rfl rfl rfl hP (rf_DM hD) hS rfl hl.1 (rest := []) rfl (Nat.le_of_ble_eq_true rfl) dX11_renamed_40 (fun H locs hP hS => ?_)
  rw [rf_cat (f := I) (l := [(0, m_thrown), (10, m_trouble)]) (lc := [(10, z40.2)]) (l' := [(0, m_thrown), (10, z40.2)]) rfl] at hP
  refine lv_goto (tgt := 59) hx hb dX11_renamed_43 (by decide) ?_
  obtain rfl := Option.some.inj hf
  exact rf_reti hC hP hS rfl rfl dX11_renamed_59
set_option maxHeartbeats 4000000 in
set_option maxRecDepth 100000 in
theorem w_X11_renamed_25 {l : Launch} {p : Program} {e : Env} {s : State} {m : MethodId} {args : Array Value} {below : List Frame} {meth : Method} {c : Code} {A0 : Nat → Prop} {E : rf_E} {a : Nat → Nat} {I : Nat → Int32} {A : Nat → Nat → Int32} {m_hasFerry : Int32} {m_r : Nat → Int32} {m_st : Nat → Int32} {z : Int32 × Int32 × Int32} (hC : rf_C p E s m args meth c cX11_renamed 5 RX11 (some .int) A0) (hD : va_D A0 (cM E a I A)) (e_m_hasFerry : I 12 = m_hasFerry) (e_m_r : A 2 = m_r) (e_m_st : A 4 = m_st) :
    ∀ (v1 : Int32) (v2 : Int32) (v3 : Int32) (m_thrown : Int32) (m_trouble : Int32), f_X11_renamed_25 m_hasFerry m_r m_st v1 v2 v3 m_thrown m_trouble = some z → ∀ (H : Heap) (locs : List Loc) (ls : Array Slot), va_P (rf_D E) vwCl (cM E a (rf_upL I [(0, m_thrown), (10, m_trouble)]) A) H → va_S A0 s.heap H locs → lv_has ls 5 [(0, .ref (a 0)), (1, .int v1), (2, .int v2), (3, .int v3)] → W p l e ({ frames := 4, cells := 0, slots := 0, locals := 102 }) s m args below meth c H locs 0 0 (rf_QI below args s E A0 z.1 (cM E a (rf_upL I [(0, z.2.1), (10, z.2.2)]) A)) (F0 m 25 ls [.ref (a 0)]) := by
  have hx := hC.1
  have hb := hC.2.1
  intro v1 v2 v3 m_thrown m_trouble hf H locs ls hP hS hl
  unfold f_X11_renamed_25 at hf
  refine lv_iconst (v := 0) hx hb dX11_renamed_25 (by decide) ?_
  exact w_X11_renamed_26 hC hD e_m_hasFerry e_m_r e_m_st v1 v2 v3 0 m_thrown m_trouble hf _ _ _ hP hS (lv_sub hl [0, 1, 2, 3] rfl)
set_option maxHeartbeats 4000000 in
set_option maxRecDepth 100000 in
theorem c_X11_renamed (l : Launch) (E : rf_E) (a : Nat → Nat) (I : Nat → Int32) (A : Nat → Nat → Int32) (m_hasFerry : Int32) (m_r : Nat → Int32) (m_st : Nat → Int32) (m_thrown : Int32) (m_trouble : Int32) (v1 : Int32) (v2 : Int32) (v3 : Int32) {z : Int32 × Int32 × Int32} (e_m_hasFerry : I 12 = m_hasFerry) (e_m_r : A 2 = m_r) (e_m_st : A 4 = m_st) (e_m_thrown : I 0 = m_thrown) (e_m_trouble : I 10 = m_trouble) (hf : f_X11_renamed m_hasFerry m_r m_st m_thrown m_trouble v1 v2 v3 = some z) : rf_MI l yX11_renamed cX11_renamed 5 (some .int) ({ frames := 4, cells := 0, slots := 0, locals := 102 }) E [.ref (a 0), .int v1, .int v2, .int v3] (cM E a I A) z.1 (cM E a (rf_upL I [(0, z.2.1), (10, z.2.2)]) A) := by
  unfold f_X11_renamed at hf
  refine rf_ofI (by decide) (Nat.le_of_ble_eq_true rfl) ?_
  intro p e s m below meth c A0 ls hC hD hP hS hl
  have hC : rf_C p E s m _ meth c cX11_renamed 5 RX11 (some .int) A0 := hC
  have hx := hC.1
  have hb := hC.2.1
  have hl : lv_has ls 5 [(0, .ref (a 0)), (1, .int v1), (2, .int v2), (3, .int v3)] := hl
  have hP : va_P (rf_D E) vwCl (cM E a (rf_upL I [(0, m_thrown), (10, m_trouble)]) A) s.heap := by
    rw [rf_self (f := I) [(0, m_thrown), (10, m_trouble)] (rf_fa1 e_m_thrown (rf_fa1 e_m_trouble rf_fa0))]
    exact hP
  refine lv_aload_n hx hb dX11_renamed_0 rfl (lv_at hl 0 rfl) ?_
  obtain ⟨z1, hz1, hf⟩ := rf_bd hf
  refine rf_vv (q0 := 0) (ci := 11) hC (c_X11_good l E a (rf_upL I [(0, m_thrown), (10, m_trouble)]) A m_thrown m_trouble rfl rfl hz1) kV_X11_good tw_1403 ⟨Nat.le_of_ble_eq_true rfl, Nat.le_of_ble_eq_true rfl⟩ rfl rfl rfl rfl rfl hP (rf_DM hD) hS rfl hl.1 (rest := []) rfl (Nat.le_of_ble_eq_true rfl) dX11_renamed_1 (fun H locs hP hS => ?_)
  rw [rf_cat (f := I) (l := [(0, m_thrown), (10, m_trouble)]) (lc := [(0, z1.1), (10, z1.2)]) (l' := [(0, z1.1), (10, z1.2)]) rfl] at hP
  refine lv_aload_n hx hb dX11_renamed_4 rfl (lv_at hl 0 rfl) ?_
  refine lv_aload_n hx hb dX11_renamed_5 rfl (lv_at hl 0 rfl) ?_
  refine lv_iload_n hx hb dX11_renamed_6 rfl (lv_at hl 1 rfl) ?_
  obtain ⟨z7, hz7, hf⟩ := rf_bd hf
  refine rf_vi (q0 := 0) (ci := 11) hC (c_X11_isPerson l E a (rf_upL I [(0, z1.1), (10, z1.2)]) A m_hasFerry m_r v1 e_m_hasFerry e_m_r hz7) kV_X11_isPerson tw_1605 ⟨Nat.le_of_ble_eq_true rfl, Nat.le_of_ble_eq_true rfl⟩ rfl rfl rfl rfl rfl hP (rf_DM hD) hS rfl hl.1 (rest := [.ref (a 0)]) rfl (Nat.le_of_ble_eq_true rfl) dX11_renamed_7 (fun H locs hP hS => ?_)
  refine lv_if_eq (tgt := 25) hx hb dX11_renamed_10 (by decide) (fun c_10 => ?_) (fun c_10 => ?_)
  · have hf := rf_it c_10 hf
    exact w_X11_renamed_25 hC hD e_m_hasFerry e_m_r e_m_st v1 v2 v3 z1.1 z1.2 hf _ _ _ hP hS (lv_sub hl [0, 1, 2, 3] rfl)
  have hf := rf_ie c_10 hf
  refine lv_aload_n hx hb dX11_renamed_13 rfl (lv_at hl 0 rfl) ?_
  refine lv_iload_n hx hb dX11_renamed_14 rfl (lv_at hl 2 rfl) ?_
  obtain ⟨z15, hz15, hf⟩ := rf_bd hf
  refine rf_vi (q0 := 0) (ci := 11) hC (c_X11_isWordThere l E a (rf_upL I [(0, z1.1), (10, z1.2)]) A m_hasFerry m_r v2 e_m_hasFerry e_m_r hz15) kV_X11_isWordThere tw_1581 ⟨Nat.le_of_ble_eq_true rfl, Nat.le_of_ble_eq_true rfl⟩ rfl rfl rfl rfl rfl hP (rf_DM hD) hS rfl hl.1 (rest := [.ref (a 0)]) rfl (Nat.le_of_ble_eq_true rfl) dX11_renamed_15 (fun H locs hP hS => ?_)
  refine lv_if_eq (tgt := 25) hx hb dX11_renamed_18 (by decide) (fun c_18 => ?_) (fun c_18 => ?_)
  · have hf := rf_it c_18 hf
    exact w_X11_renamed_25 hC hD e_m_hasFerry e_m_r e_m_st v1 v2 v3 z1.1 z1.2 hf _ _ _ hP hS (lv_sub hl [0, 1, 2, 3] rfl)
  have hf := rf_ie c_18 hf
  refine lv_iconst (v := 1) hx hb dX11_renamed_21 (by decide) ?_
  refine lv_goto (tgt := 26) hx hb dX11_renamed_22 (by decide) ?_
  exact w_X11_renamed_26 hC hD e_m_hasFerry e_m_r e_m_st v1 v2 v3 1 z1.1 z1.2 hf _ _ _ hP hS (lv_sub hl [0, 1, 2, 3] rfl)
set_option maxHeartbeats 4000000 in
set_option maxRecDepth 100000 in
theorem w_X11_ones_4 {l : Launch} {p : Program} {e : Env} {s : State} {m : MethodId} {args : Array Value} {below : List Frame} {meth : Method} {c : Code} {A0 : Nat → Prop} {E : rf_E} {z : Int32} (hC : rf_C p E s m args meth c cX11_ones 3 RX11 (some .int) A0) :
    ∀ (n : Nat), ∀ (v0 : Int32) (v1 : Int32) (v2 : Int32), f_X11_ones_4 n v0 v1 v2 = some z → ∀ (H : Heap) (locs : List Loc) (ls : Array Slot), va_P (rf_D E) vwCl ([]) H → va_S A0 s.heap H locs → lv_has ls 3 [(0, .int v0), (1, .int v1), (2, .int v2)] → W p l e ({ frames := 0, cells := 0, slots := 0, locals := 0 }) s m args below meth c H locs 0 0 (rf_QI below args s E A0 z ([])) (F0 m 4 ls []) := by
  have hx := hC.1
  have hb := hC.2.1
  intro n
  induction n with
  | zero =>
    intro v0 v1 v2 hf
    have hf : (none : Option (Int32)) = some z := hf
    cases hf
  | succ n ih =>
    intro v0 v1 v2 hf H locs ls hP hS hl
    rw [f_X11_ones_4] at hf
    refine lv_iload_n hx hb dX11_ones_4 rfl (lv_at hl 2 rfl) ?_
    refine lv_bipush (v := 10) hx hb dX11_ones_5 (by decide) ?_
    refine lv_icmp_ge (tgt := 24) hx hb dX11_ones_7 (by decide) (fun c_7 => ?_) (fun c_7 => ?_)
    · have hf := rf_it c_7 hf
      refine lv_iload_n hx hb dX11_ones_24 rfl (lv_at hl 1 rfl) ?_
      obtain rfl := Option.some.inj hf
      exact rf_reti hC hP hS rfl rfl dX11_ones_25
    have hf := rf_ie c_7 hf
    refine lv_iload_n hx hb dX11_ones_10 rfl (lv_at hl 1 rfl) ?_
    refine lv_iload_n hx hb dX11_ones_11 rfl (lv_at hl 0 rfl) ?_
    refine lv_iload_n hx hb dX11_ones_12 rfl (lv_at hl 2 rfl) ?_
    refine lv_ishr hx hb dX11_ones_13 ?_
    refine lv_iconst (v := 1) hx hb dX11_ones_14 (by decide) ?_
    refine lv_iand hx hb dX11_ones_15 ?_
    refine lv_iadd hx hb dX11_ones_16 ?_
    refine lv_istore_n (lv' := [(1, .int (v1 + ((v0 >>> (v2 &&& 31)) &&& 1))), (0, .int v0), (2, .int v2)]) hx hb dX11_ones_17 rfl hl (by decide) rfl (fun ls hl => ?_)
    refine lv_iinc (v := v2 + 1) (lv' := [(2, .int (v2 + 1)), (1, .int (v1 + ((v0 >>> (v2 &&& 31)) &&& 1))), (0, .int v0)]) hx hb dX11_ones_18 hl (k := 2) rfl rfl (by decide) rfl (fun ls hl => ?_)
    refine lv_goto (tgt := 4) hx hb dX11_ones_21 (by decide) ?_
    exact ih v0 (v1 + ((v0 >>> (v2 &&& 31)) &&& 1)) (v2 + 1) hf _ _ _ hP hS (lv_sub hl [2, 1, 0] rfl)
set_option maxHeartbeats 4000000 in
set_option maxRecDepth 100000 in
theorem c_X11_ones (l : Launch) (E : rf_E) (v0 : Int32) {z : Int32} (hf : f_X11_ones v0 = some z) : rf_MI l yX11_ones cX11_ones 3 (some .int) ({ frames := 0, cells := 0, slots := 0, locals := 0 }) E [.int v0] ([]) z ([]) := by
  unfold f_X11_ones at hf
  refine rf_ofI (by decide) (Nat.le_of_ble_eq_true rfl) ?_
  intro p e s m below meth c A0 ls hC hD hP hS hl
  have hC : rf_C p E s m _ meth c cX11_ones 3 RX11 (some .int) A0 := hC
  have hx := hC.1
  have hb := hC.2.1
  have hl : lv_has ls 3 [(0, .int v0)] := hl
  refine lv_iconst (v := 0) hx hb dX11_ones_0 (by decide) ?_
  refine lv_istore_n (lv' := [(1, .int 0), (0, .int v0)]) hx hb dX11_ones_1 rfl hl (by decide) rfl (fun ls hl => ?_)
  refine lv_iconst (v := 0) hx hb dX11_ones_2 (by decide) ?_
  refine lv_istore_n (lv' := [(2, .int 0), (1, .int 0), (0, .int v0)]) hx hb dX11_ones_3 rfl hl (by decide) rfl (fun ls hl => ?_)
  exact w_X11_ones_4 hC rf_fu v0 0 0 hf _ _ _ hP hS (lv_sub hl [2, 1, 0] rfl)
set_option maxHeartbeats 4000000 in
set_option maxRecDepth 100000 in
theorem w_X11_bestHour_80 {l : Launch} {p : Program} {e : Env} {s : State} {m : MethodId} {args : Array Value} {below : List Frame} {meth : Method} {c : Code} {A0 : Nat → Prop} {E : rf_E} {a : Nat → Nat} {I : Nat → Int32} {A : Nat → Nat → Int32} {m_hasFerry : Int32} {m_r : Nat → Int32} {m_st : Nat → Int32} {z : Int32 × Int32 × Int32} (hC : rf_C p E s m args meth c cX11_bestHour 4 RX11 (some .int) A0) (hD : va_D A0 (cM E a I A)) (e_m_hasFerry : I 12 = m_hasFerry) (e_m_r : A 2 = m_r) (e_m_st : A 4 = m_st) {k22 : Int32 → Int32 → Int32 → Int32 → Int32 → Option (Int32 × Int32 × Int32)} (hk22 : ∀ (v1 : Int32) (v2 : Int32) (v3 : Int32) (m_thrown : Int32) (m_trouble : Int32), k22 v1 v2 v3 m_thrown m_trouble = some z → ∀ (H : Heap) (locs : List Loc) (ls : Array Slot), va_P (rf_D E) vwCl (cM E a (rf_upL I [(0, m_thrown), (10, m_trouble)]) A) H → va_S A0 s.heap H locs → lv_has ls 4 [(0, .ref (a 0)), (1, .int v1), (2, .int v2), (3, .int v3)] → W p l e ({ frames := 4, cells := 0, slots := 0, locals := 102 }) s m args below meth c H locs 0 0 (rf_QI below args s E A0 z.1 (cM E a (rf_upL I [(0, z.2.1), (10, z.2.2)]) A)) (F0 m 22 ls [])) :
    ∀ (v1 : Int32) (v3 : Int32) (s0 : Int32) (m_thrown : Int32) (m_trouble : Int32), f_X11_bestHour_80 k22 m_hasFerry m_r m_st v1 v3 s0 m_thrown m_trouble = some z → ∀ (H : Heap) (locs : List Loc) (ls : Array Slot), va_P (rf_D E) vwCl (cM E a (rf_upL I [(0, m_thrown), (10, m_trouble)]) A) H → va_S A0 s.heap H locs → lv_has ls 4 [(0, .ref (a 0)), (1, .int v1), (3, .int v3)] → W p l e ({ frames := 4, cells := 0, slots := 0, locals := 102 }) s m args below meth c H locs 0 0 (rf_QI below args s E A0 z.1 (cM E a (rf_upL I [(0, z.2.1), (10, z.2.2)]) A)) (F0 m 80 ls [.int s0]) := by
  have hx := hC.1
  have hb := hC.2.1
  intro v1 v3 s0 m_thrown m_trouble hf H locs ls hP hS hl
  unfold f_X11_bestHour_80 at hf
  refine lv_istore_n (lv' := [(2, .int s0), (0, .ref (a 0)), (1, .int v1), (3, .int v3)]) hx hb dX11_bestHour_80 rfl hl (by decide) rfl (fun ls hl => ?_)
  refine lv_iinc (v := v3 + 1) (lv' := [(3, .int (v3 + 1)), (2, .int s0), (0, .ref (a 0)), (1, .int v1)]) hx hb dX11_bestHour_81 hl (k := 3) rfl rfl (by decide) rfl (fun ls hl => ?_)
  refine lv_goto (tgt := 22) hx hb dX11_bestHour_84 (by decide) ?_
  exact hk22 v1 s0 (v3 + 1) m_thrown m_trouble hf _ _ _ hP hS (lv_sub hl [2, 3, 1, 0] rfl)
set_option maxHeartbeats 4000000 in
set_option maxRecDepth 100000 in
theorem w_X11_bestHour_22 {l : Launch} {p : Program} {e : Env} {s : State} {m : MethodId} {args : Array Value} {below : List Frame} {meth : Method} {c : Code} {A0 : Nat → Prop} {E : rf_E} {a : Nat → Nat} {I : Nat → Int32} {A : Nat → Nat → Int32} {m_hasFerry : Int32} {m_r : Nat → Int32} {m_st : Nat → Int32} {z : Int32 × Int32 × Int32} (hC : rf_C p E s m args meth c cX11_bestHour 4 RX11 (some .int) A0) (hD : va_D A0 (cM E a I A)) (e_m_hasFerry : I 12 = m_hasFerry) (e_m_r : A 2 = m_r) (e_m_st : A 4 = m_st) :
    ∀ (n : Nat), ∀ (v1 : Int32) (v2 : Int32) (v3 : Int32) (m_thrown : Int32) (m_trouble : Int32), f_X11_bestHour_22 m_hasFerry m_r m_st n v1 v2 v3 m_thrown m_trouble = some z → ∀ (H : Heap) (locs : List Loc) (ls : Array Slot), va_P (rf_D E) vwCl (cM E a (rf_upL I [(0, m_thrown), (10, m_trouble)]) A) H → va_S A0 s.heap H locs → lv_has ls 4 [(0, .ref (a 0)), (1, .int v1), (2, .int v2), (3, .int v3)] → W p l e ({ frames := 4, cells := 0, slots := 0, locals := 102 }) s m args below meth c H locs 0 0 (rf_QI below args s E A0 z.1 (cM E a (rf_upL I [(0, z.2.1), (10, z.2.2)]) A)) (F0 m 22 ls []) := by
  have hx := hC.1
  have hb := hC.2.1
  intro n
  induction n with
  | zero =>
    intro v1 v2 v3 m_thrown m_trouble hf
    have hf : (none : Option (Int32 × Int32 × Int32)) = some z := hf
    cases hf
  | succ n ih =>
    intro v1 v2 v3 m_thrown m_trouble hf H locs ls hP hS hl
    rw [f_X11_bestHour_22] at hf
    refine lv_iload_n hx hb dX11_bestHour_22 rfl (lv_at hl 3 rfl) ?_
    refine lv_bipush (v := 24) hx hb dX11_bestHour_23 (by decide) ?_
    refine lv_icmp_ge (tgt := 87) hx hb dX11_bestHour_25 (by decide) (fun c_25 => ?_) (fun c_25 => ?_)
    · have hf := rf_it c_25 hf
      refine lv_iload_n hx hb dX11_bestHour_87 rfl (lv_at hl 2 rfl) ?_
      obtain rfl := Option.some.inj hf
      exact rf_reti hC hP hS rfl rfl dX11_bestHour_88
    have hf := rf_ie c_25 hf
    refine lv_aload_n hx hb dX11_bestHour_28 rfl (lv_at hl 0 rfl) ?_
    refine lv_iload_n hx hb dX11_bestHour_29 rfl (lv_at hl 1 rfl) ?_
    refine lv_aload_n hx hb dX11_bestHour_30 rfl (lv_at hl 0 rfl) ?_
    refine gM_m_st hC hP tw_1296 dX11_bestHour_31 ?_
    refine lv_bipush (v := 8) hx hb dX11_bestHour_34 (by decide) ?_
    refine lv_iload_n hx hb dX11_bestHour_36 rfl (lv_at hl 1 rfl) ?_
    refine lv_iadd hx hb dX11_bestHour_37 ?_
    obtain ⟨hi_38, hf⟩ := rf_gu hf
    refine lM_m_st hC hP hi_38 (f := m_st) e_m_st dX11_bestHour_38 ?_
    refine lv_aload_n hx hb dX11_bestHour_39 rfl (lv_at hl 0 rfl) ?_
    refine lv_iload_n hx hb dX11_bestHour_40 rfl (lv_at hl 3 rfl) ?_
    obtain ⟨z41, hz41, hf⟩ := rf_bd hf
    refine rf_vi (q0 := 0) (ci := 11) hC (c_X11_earAt l E a (rf_upL I [(0, m_thrown), (10, m_trouble)]) A m_r v3 e_m_r hz41) kV_X11_earAt tw_1624 ⟨Nat.le_of_ble_eq_true rfl, Nat.le_of_ble_eq_true rfl⟩ rfl rfl rfl rfl rfl hP (rf_DM hD) hS rfl hl.1 (rest := [.int (m_st (Int32.toNatClampNeg ((8 : Int32) + v1))), .int v1, .ref (a 0)]) rfl (Nat.le_of_ble_eq_true rfl) dX11_bestHour_41 (fun H locs hP hS => ?_)
    obtain ⟨z44, hz44, hf⟩ := rf_bd hf
    refine rf_vi (q0 := 0) (ci := 11) hC (c_X11_withBy l E a (rf_upL I [(0, m_thrown), (10, m_trouble)]) A m_r m_st v1 (m_st (Int32.toNatClampNeg ((8 : Int32) + v1))) z41 e_m_r e_m_st hz44) kV_X11_withBy tw_1648 ⟨Nat.le_of_ble_eq_true rfl, Nat.le_of_ble_eq_true rfl⟩ rfl rfl rfl rfl rfl hP (rf_DM hD) hS rfl hl.1 (rest := []) rfl (Nat.le_of_ble_eq_true rfl) dX11_bestHour_44 (fun H locs hP hS => ?_)
    obtain ⟨z47, hz47, hf⟩ := rf_bd hf
    refine rf_si0 hC (c_X11_ones l E z44 hz47) kS_X11_ones tw_1660 ⟨Nat.le_of_ble_eq_true rfl, Nat.le_of_ble_eq_true rfl⟩ rfl rfl hP hS rfl hl.1 (rest := []) rfl (Nat.le_of_ble_eq_true rfl) dX11_bestHour_47 (fun H locs hP hS => ?_)
    refine lv_aload_n hx hb dX11_bestHour_50 rfl (lv_at hl 0 rfl) ?_
    refine lv_iload_n hx hb dX11_bestHour_51 rfl (lv_at hl 1 rfl) ?_
    refine lv_aload_n hx hb dX11_bestHour_52 rfl (lv_at hl 0 rfl) ?_
    refine gM_m_st hC hP tw_1296 dX11_bestHour_53 ?_
    refine lv_bipush (v := 8) hx hb dX11_bestHour_56 (by decide) ?_
    refine lv_iload_n hx hb dX11_bestHour_58 rfl (lv_at hl 1 rfl) ?_
    refine lv_iadd hx hb dX11_bestHour_59 ?_
    obtain ⟨hi_60, hf⟩ := rf_gu hf
    refine lM_m_st hC hP hi_60 (f := m_st) e_m_st dX11_bestHour_60 ?_
    refine lv_aload_n hx hb dX11_bestHour_61 rfl (lv_at hl 0 rfl) ?_
    refine lv_iload_n hx hb dX11_bestHour_62 rfl (lv_at hl 2 rfl) ?_
    obtain ⟨z63, hz63, hf⟩ := rf_bd hf
    refine rf_vi (q0 := 0) (ci := 11) hC (c_X11_earAt l E a (rf_upL I [(0, m_thrown), (10, m_trouble)]) A m_r v2 e_m_r hz63) kV_X11_earAt tw_1624 ⟨Nat.le_of_ble_eq_true rfl, Nat.le_of_ble_eq_true rfl⟩ rfl rfl rfl rfl rfl hP (rf_DM hD) hS rfl hl.1 (rest := [.int (m_st (Int32.toNatClampNeg ((8 : Int32) + v1))), .int v1, .ref (a 0), .int z47]) rfl (Nat.le_of_ble_eq_true rfl) dX11_bestHour_63 (fun H locs hP hS => ?_)
    obtain ⟨z66, hz66, hf⟩ := rf_bd hf
    refine rf_vi (q0 := 0) (ci := 11) hC (c_X11_withBy l E a (rf_upL I [(0, m_thrown), (10, m_trouble)]) A m_r m_st v1 (m_st (Int32.toNatClampNeg ((8 : Int32) + v1))) z63 e_m_r e_m_st hz66) kV_X11_withBy tw_1648 ⟨Nat.le_of_ble_eq_true rfl, Nat.le_of_ble_eq_true rfl⟩ rfl rfl rfl rfl rfl hP (rf_DM hD) hS rfl hl.1 (rest := [.int z47]) rfl (Nat.le_of_ble_eq_true rfl) dX11_bestHour_66 (fun H locs hP hS => ?_)
    obtain ⟨z69, hz69, hf⟩ := rf_bd hf
    refine rf_si0 hC (c_X11_ones l E z66 hz69) kS_X11_ones tw_1660 ⟨Nat.le_of_ble_eq_true rfl, Nat.le_of_ble_eq_true rfl⟩ rfl rfl hP hS rfl hl.1 (rest := [.int z47]) rfl (Nat.le_of_ble_eq_true rfl) dX11_bestHour_69 (fun H locs hP hS => ?_)
    refine lv_icmp_le (tgt := 79) hx hb dX11_bestHour_72 (by decide) (fun c_72 => ?_) (fun c_72 => ?_)
    · have hf := rf_it c_72 hf
      refine lv_iload_n hx hb dX11_bestHour_79 rfl (lv_at hl 2 rfl) ?_
      exact w_X11_bestHour_80 hC hD e_m_hasFerry e_m_r e_m_st ih v1 v3 v2 m_thrown m_trouble hf _ _ _ hP hS (lv_sub hl [0, 1, 3] rfl)
    have hf := rf_ie c_72 hf
    refine lv_iload_n hx hb dX11_bestHour_75 rfl (lv_at hl 3 rfl) ?_
    refine lv_goto (tgt := 80) hx hb dX11_bestHour_76 (by decide) ?_
    exact w_X11_bestHour_80 hC hD e_m_hasFerry e_m_r e_m_st ih v1 v3 v3 m_thrown m_trouble hf _ _ _ hP hS (lv_sub hl [0, 1, 3] rfl)
set_option maxHeartbeats 4000000 in
set_option maxRecDepth 100000 in
theorem c_X11_bestHour (l : Launch) (E : rf_E) (a : Nat → Nat) (I : Nat → Int32) (A : Nat → Nat → Int32) (m_hasFerry : Int32) (m_r : Nat → Int32) (m_st : Nat → Int32) (m_thrown : Int32) (m_trouble : Int32) (v1 : Int32) {z : Int32 × Int32 × Int32} (e_m_hasFerry : I 12 = m_hasFerry) (e_m_r : A 2 = m_r) (e_m_st : A 4 = m_st) (e_m_thrown : I 0 = m_thrown) (e_m_trouble : I 10 = m_trouble) (hf : f_X11_bestHour m_hasFerry m_r m_st m_thrown m_trouble v1 = some z) : rf_MI l yX11_bestHour cX11_bestHour 4 (some .int) ({ frames := 4, cells := 0, slots := 0, locals := 102 }) E [.ref (a 0), .int v1] (cM E a I A) z.1 (cM E a (rf_upL I [(0, z.2.1), (10, z.2.2)]) A) := by
  unfold f_X11_bestHour at hf
  refine rf_ofI (by decide) (Nat.le_of_ble_eq_true rfl) ?_
  intro p e s m below meth c A0 ls hC hD hP hS hl
  have hC : rf_C p E s m _ meth c cX11_bestHour 4 RX11 (some .int) A0 := hC
  have hx := hC.1
  have hb := hC.2.1
  have hl : lv_has ls 4 [(0, .ref (a 0)), (1, .int v1)] := hl
  have hP : va_P (rf_D E) vwCl (cM E a (rf_upL I [(0, m_thrown), (10, m_trouble)]) A) s.heap := by
    rw [rf_self (f := I) [(0, m_thrown), (10, m_trouble)] (rf_fa1 e_m_thrown (rf_fa1 e_m_trouble rf_fa0))]
    exact hP
  refine lv_aload_n hx hb dX11_bestHour_0 rfl (lv_at hl 0 rfl) ?_
  obtain ⟨z1, hz1, hf⟩ := rf_bd hf
  refine rf_vv (q0 := 0) (ci := 11) hC (c_X11_good l E a (rf_upL I [(0, m_thrown), (10, m_trouble)]) A m_thrown m_trouble rfl rfl hz1) kV_X11_good tw_1403 ⟨Nat.le_of_ble_eq_true rfl, Nat.le_of_ble_eq_true rfl⟩ rfl rfl rfl rfl rfl hP (rf_DM hD) hS rfl hl.1 (rest := []) rfl (Nat.le_of_ble_eq_true rfl) dX11_bestHour_1 (fun H locs hP hS => ?_)
  rw [rf_cat (f := I) (l := [(0, m_thrown), (10, m_trouble)]) (lc := [(0, z1.1), (10, z1.2)]) (l' := [(0, z1.1), (10, z1.2)]) rfl] at hP
  refine lv_aload_n hx hb dX11_bestHour_4 rfl (lv_at hl 0 rfl) ?_
  refine lv_iload_n hx hb dX11_bestHour_5 rfl (lv_at hl 1 rfl) ?_
  obtain ⟨z6, hz6, hf⟩ := rf_bd hf
  refine rf_vi (q0 := 0) (ci := 11) hC (c_X11_isPerson l E a (rf_upL I [(0, z1.1), (10, z1.2)]) A m_hasFerry m_r v1 e_m_hasFerry e_m_r hz6) kV_X11_isPerson tw_1605 ⟨Nat.le_of_ble_eq_true rfl, Nat.le_of_ble_eq_true rfl⟩ rfl rfl rfl rfl rfl hP (rf_DM hD) hS rfl hl.1 (rest := []) rfl (Nat.le_of_ble_eq_true rfl) dX11_bestHour_6 (fun H locs hP hS => ?_)
  refine lv_if_ne (tgt := 18) hx hb dX11_bestHour_9 (by decide) (fun c_9 => ?_) (fun c_9 => ?_)
  · have hf := rf_ie c_9 hf
    refine lv_iconst (v := 0) hx hb dX11_bestHour_18 (by decide) ?_
    refine lv_istore_n (lv' := [(2, .int 0), (0, .ref (a 0)), (1, .int v1)]) hx hb dX11_bestHour_19 rfl hl (by decide) rfl (fun ls hl => ?_)
    refine lv_iconst (v := 1) hx hb dX11_bestHour_20 (by decide) ?_
    refine lv_istore_n (lv' := [(3, .int 1), (2, .int 0), (0, .ref (a 0)), (1, .int v1)]) hx hb dX11_bestHour_21 rfl hl (by decide) rfl (fun ls hl => ?_)
    exact w_X11_bestHour_22 hC hD e_m_hasFerry e_m_r e_m_st rf_fu v1 0 1 z1.1 z1.2 hf _ _ _ hP hS (lv_sub hl [2, 3, 1, 0] rfl)
  have hf := rf_it c_9 hf
  refine lv_aload_n hx hb dX11_bestHour_12 rfl (lv_at hl 0 rfl) ?_
  refine lv_iconst (v := 1) hx hb dX11_bestHour_13 (by decide) ?_
  obtain ⟨z14, hz14, hf⟩ := rf_bd hf
  refine rf_vi (q0 := 0) (ci := 11) hC (c_X11_no l E a (rf_upL I [(0, z1.1), (10, z1.2)]) A z1.2 1 rfl hz14) kV_X11_no tw_1410 ⟨Nat.le_of_ble_eq_true rfl, Nat.le_of_ble_eq_true rfl⟩ rfl rfl rfl rfl rfl hP (rf_DM hD) hS rfl hl.1 (rest := []) rfl (Nat.le_of_ble_eq_true rfl) dX11_bestHour_14 (fun H locs hP hS => ?_)
  rw [rf_cat (f := I) (l := [(0, z1.1), (10, z1.2)]) (lc := [(10, z14.2)]) (l' := [(0, z1.1), (10, z14.2)]) rfl] at hP
  obtain rfl := Option.some.inj hf
  exact rf_reti hC hP hS rfl rfl dX11_bestHour_17
set_option maxHeartbeats 4000000 in
set_option maxRecDepth 100000 in
theorem w_X11_meets_21 {l : Launch} {p : Program} {e : Env} {s : State} {m : MethodId} {args : Array Value} {below : List Frame} {meth : Method} {c : Code} {A0 : Nat → Prop} {E : rf_E} {a : Nat → Nat} {I : Nat → Int32} {A : Nat → Nat → Int32} {m_hasFerry : Int32} {m_r : Nat → Int32} {m_st : Nat → Int32} {z : Int32 × Int32 × Int32} (hC : rf_C p E s m args meth c cX11_meets 4 RX11 (some .int) A0) (hD : va_D A0 (cM E a I A)) (e_m_hasFerry : I 12 = m_hasFerry) (e_m_r : A 2 = m_r) (e_m_st : A 4 = m_st) :
    ∀ (n : Nat), ∀ (v1 : Int32) (v2 : Int32) (v3 : Int32) (m_thrown : Int32) (m_trouble : Int32), f_X11_meets_21 m_hasFerry m_r m_st n v1 v2 v3 m_thrown m_trouble = some z → ∀ (H : Heap) (locs : List Loc) (ls : Array Slot), va_P (rf_D E) vwCl (cM E a (rf_upL I [(0, m_thrown), (10, m_trouble)]) A) H → va_S A0 s.heap H locs → lv_has ls 4 [(0, .ref (a 0)), (1, .int v1), (2, .int v2), (3, .int v3)] → W p l e ({ frames := 4, cells := 0, slots := 0, locals := 100 }) s m args below meth c H locs 0 0 (rf_QI below args s E A0 z.1 (cM E a (rf_upL I [(0, z.2.1), (10, z.2.2)]) A)) (F0 m 21 ls []) := by
  have hx := hC.1
  have hb := hC.2.1
  intro n
  induction n with
  | zero =>
    intro v1 v2 v3 m_thrown m_trouble hf
    have hf : (none : Option (Int32 × Int32 × Int32)) = some z := hf
    cases hf
  | succ n ih =>
    intro v1 v2 v3 m_thrown m_trouble hf H locs ls hP hS hl
    rw [f_X11_meets_21] at hf
    refine lv_iload_n hx hb dX11_meets_21 rfl (lv_at hl 3 rfl) ?_
    refine lv_bipush (v := 24) hx hb dX11_meets_22 (by decide) ?_
    refine lv_icmp_ge (tgt := 50) hx hb dX11_meets_24 (by decide) (fun c_24 => ?_) (fun c_24 => ?_)
    · have hf := rf_it c_24 hf
      refine lv_bipush (v := (-2)) hx hb dX11_meets_50 (by decide) ?_
      obtain rfl := Option.some.inj hf
      exact rf_reti hC hP hS rfl rfl dX11_meets_52
    have hf := rf_ie c_24 hf
    refine lv_aload_n hx hb dX11_meets_27 rfl (lv_at hl 0 rfl) ?_
    refine lv_iload_n hx hb dX11_meets_28 rfl (lv_at hl 1 rfl) ?_
    refine lv_iload_n hx hb dX11_meets_29 rfl (lv_at hl 2 rfl) ?_
    refine lv_aload_n hx hb dX11_meets_30 rfl (lv_at hl 0 rfl) ?_
    refine lv_iload_n hx hb dX11_meets_31 rfl (lv_at hl 3 rfl) ?_
    obtain ⟨z32, hz32, hf⟩ := rf_bd hf
    refine rf_vi (q0 := 0) (ci := 11) hC (c_X11_earAt l E a (rf_upL I [(0, m_thrown), (10, m_trouble)]) A m_r v3 e_m_r hz32) kV_X11_earAt tw_1624 ⟨Nat.le_of_ble_eq_true rfl, Nat.le_of_ble_eq_true rfl⟩ rfl rfl rfl rfl rfl hP (rf_DM hD) hS rfl hl.1 (rest := [.int v2, .int v1, .ref (a 0)]) rfl (Nat.le_of_ble_eq_true rfl) dX11_meets_32 (fun H locs hP hS => ?_)
    obtain ⟨z35, hz35, hf⟩ := rf_bd hf
    refine rf_vi (q0 := 0) (ci := 11) hC (c_X11_rhymeNow l E a (rf_upL I [(0, m_thrown), (10, m_trouble)]) A m_r m_st v1 v2 z32 e_m_r e_m_st hz35) kV_X11_rhymeNow tw_1636 ⟨Nat.le_of_ble_eq_true rfl, Nat.le_of_ble_eq_true rfl⟩ rfl rfl rfl rfl rfl hP (rf_DM hD) hS rfl hl.1 (rest := []) rfl (Nat.le_of_ble_eq_true rfl) dX11_meets_35 (fun H locs hP hS => ?_)
    refine lv_iconst (v := 2) hx hb dX11_meets_38 (by decide) ?_
    refine lv_icmp_ne (tgt := 44) hx hb dX11_meets_39 (by decide) (fun c_39 => ?_) (fun c_39 => ?_)
    · have hf := rf_ie c_39 hf
      refine lv_iinc (v := v3 + 1) (lv' := [(3, .int (v3 + 1)), (0, .ref (a 0)), (1, .int v1), (2, .int v2)]) hx hb dX11_meets_44 hl (k := 3) rfl rfl (by decide) rfl (fun ls hl => ?_)
      refine lv_goto (tgt := 21) hx hb dX11_meets_47 (by decide) ?_
      exact ih v1 v2 (v3 + 1) m_thrown m_trouble hf _ _ _ hP hS (lv_sub hl [1, 2, 3, 0] rfl)
    have hf := rf_it c_39 hf
    refine lv_iload_n hx hb dX11_meets_42 rfl (lv_at hl 3 rfl) ?_
    obtain rfl := Option.some.inj hf
    exact rf_reti hC hP hS rfl rfl dX11_meets_43
set_option maxHeartbeats 4000000 in
set_option maxRecDepth 100000 in
theorem c_X11_meets (l : Launch) (E : rf_E) (a : Nat → Nat) (I : Nat → Int32) (A : Nat → Nat → Int32) (m_hasFerry : Int32) (m_r : Nat → Int32) (m_st : Nat → Int32) (m_thrown : Int32) (m_trouble : Int32) (v1 : Int32) (v2 : Int32) {z : Int32 × Int32 × Int32} (e_m_hasFerry : I 12 = m_hasFerry) (e_m_r : A 2 = m_r) (e_m_st : A 4 = m_st) (e_m_thrown : I 0 = m_thrown) (e_m_trouble : I 10 = m_trouble) (hf : f_X11_meets m_hasFerry m_r m_st m_thrown m_trouble v1 v2 = some z) : rf_MI l yX11_meets cX11_meets 4 (some .int) ({ frames := 4, cells := 0, slots := 0, locals := 100 }) E [.ref (a 0), .int v1, .int v2] (cM E a I A) z.1 (cM E a (rf_upL I [(0, z.2.1), (10, z.2.2)]) A) := by
  unfold f_X11_meets at hf
  refine rf_ofI (by decide) (Nat.le_of_ble_eq_true rfl) ?_
  intro p e s m below meth c A0 ls hC hD hP hS hl
  have hC : rf_C p E s m _ meth c cX11_meets 4 RX11 (some .int) A0 := hC
  have hx := hC.1
  have hb := hC.2.1
  have hl : lv_has ls 4 [(0, .ref (a 0)), (1, .int v1), (2, .int v2)] := hl
  have hP : va_P (rf_D E) vwCl (cM E a (rf_upL I [(0, m_thrown), (10, m_trouble)]) A) s.heap := by
    rw [rf_self (f := I) [(0, m_thrown), (10, m_trouble)] (rf_fa1 e_m_thrown (rf_fa1 e_m_trouble rf_fa0))]
    exact hP
  refine lv_aload_n hx hb dX11_meets_0 rfl (lv_at hl 0 rfl) ?_
  obtain ⟨z1, hz1, hf⟩ := rf_bd hf
  refine rf_vv (q0 := 0) (ci := 11) hC (c_X11_good l E a (rf_upL I [(0, m_thrown), (10, m_trouble)]) A m_thrown m_trouble rfl rfl hz1) kV_X11_good tw_1403 ⟨Nat.le_of_ble_eq_true rfl, Nat.le_of_ble_eq_true rfl⟩ rfl rfl rfl rfl rfl hP (rf_DM hD) hS rfl hl.1 (rest := []) rfl (Nat.le_of_ble_eq_true rfl) dX11_meets_1 (fun H locs hP hS => ?_)
  rw [rf_cat (f := I) (l := [(0, m_thrown), (10, m_trouble)]) (lc := [(0, z1.1), (10, z1.2)]) (l' := [(0, z1.1), (10, z1.2)]) rfl] at hP
  refine lv_aload_n hx hb dX11_meets_4 rfl (lv_at hl 0 rfl) ?_
  refine lv_iload_n hx hb dX11_meets_5 rfl (lv_at hl 1 rfl) ?_
  refine lv_iload_n hx hb dX11_meets_6 rfl (lv_at hl 2 rfl) ?_
  obtain ⟨z7, hz7, hf⟩ := rf_bd hf
  refine rf_vi (q0 := 0) (ci := 11) hC (c_X11_areTwo l E a (rf_upL I [(0, z1.1), (10, z1.2)]) A m_hasFerry m_r v1 v2 e_m_hasFerry e_m_r hz7) kV_X11_areTwo tw_1632 ⟨Nat.le_of_ble_eq_true rfl, Nat.le_of_ble_eq_true rfl⟩ rfl rfl rfl rfl rfl hP (rf_DM hD) hS rfl hl.1 (rest := []) rfl (Nat.le_of_ble_eq_true rfl) dX11_meets_7 (fun H locs hP hS => ?_)
  refine lv_if_ne (tgt := 19) hx hb dX11_meets_10 (by decide) (fun c_10 => ?_) (fun c_10 => ?_)
  · have hf := rf_ie c_10 hf
    refine lv_iconst (v := 0) hx hb dX11_meets_19 (by decide) ?_
    refine lv_istore_n (lv' := [(3, .int 0), (0, .ref (a 0)), (1, .int v1), (2, .int v2)]) hx hb dX11_meets_20 rfl hl (by decide) rfl (fun ls hl => ?_)
    exact w_X11_meets_21 hC hD e_m_hasFerry e_m_r e_m_st rf_fu v1 v2 0 z1.1 z1.2 hf _ _ _ hP hS (lv_sub hl [1, 2, 3, 0] rfl)
  have hf := rf_it c_10 hf
  refine lv_aload_n hx hb dX11_meets_13 rfl (lv_at hl 0 rfl) ?_
  refine lv_iconst (v := 1) hx hb dX11_meets_14 (by decide) ?_
  obtain ⟨z15, hz15, hf⟩ := rf_bd hf
  refine rf_vi (q0 := 0) (ci := 11) hC (c_X11_no l E a (rf_upL I [(0, z1.1), (10, z1.2)]) A z1.2 1 rfl hz15) kV_X11_no tw_1410 ⟨Nat.le_of_ble_eq_true rfl, Nat.le_of_ble_eq_true rfl⟩ rfl rfl rfl rfl rfl hP (rf_DM hD) hS rfl hl.1 (rest := []) rfl (Nat.le_of_ble_eq_true rfl) dX11_meets_15 (fun H locs hP hS => ?_)
  rw [rf_cat (f := I) (l := [(0, z1.1), (10, z1.2)]) (lc := [(10, z15.2)]) (l' := [(0, z1.1), (10, z15.2)]) rfl] at hP
  obtain rfl := Option.some.inj hf
  exact rf_reti hC hP hS rfl rfl dX11_meets_18
set_option maxHeartbeats 4000000 in
set_option maxRecDepth 100000 in
theorem w_X11_often_53 {l : Launch} {p : Program} {e : Env} {s : State} {m : MethodId} {args : Array Value} {below : List Frame} {meth : Method} {c : Code} {A0 : Nat → Prop} {E : rf_E} {a : Nat → Nat} {I : Nat → Int32} {A : Nat → Nat → Int32} {m_hasFerry : Int32} {m_r : Nat → Int32} {m_st : Nat → Int32} {z : Int32 × Int32 × Int32} (hC : rf_C p E s m args meth c cX11_often 5 RX11 (some .int) A0) (hD : va_D A0 (cM E a I A)) (e_m_hasFerry : I 12 = m_hasFerry) (e_m_r : A 2 = m_r) (e_m_st : A 4 = m_st) {k24 : Int32 → Int32 → Int32 → Int32 → Int32 → Int32 → Option (Int32 × Int32 × Int32)} (hk24 : ∀ (v1 : Int32) (v2 : Int32) (v3 : Int32) (v4 : Int32) (m_thrown : Int32) (m_trouble : Int32), k24 v1 v2 v3 v4 m_thrown m_trouble = some z → ∀ (H : Heap) (locs : List Loc) (ls : Array Slot), va_P (rf_D E) vwCl (cM E a (rf_upL I [(0, m_thrown), (10, m_trouble)]) A) H → va_S A0 s.heap H locs → lv_has ls 5 [(0, .ref (a 0)), (1, .int v1), (2, .int v2), (3, .int v3), (4, .int v4)] → W p l e ({ frames := 4, cells := 0, slots := 0, locals := 100 }) s m args below meth c H locs 0 0 (rf_QI below args s E A0 z.1 (cM E a (rf_upL I [(0, z.2.1), (10, z.2.2)]) A)) (F0 m 24 ls [])) :
    ∀ (v1 : Int32) (v2 : Int32) (v4 : Int32) (s0 : Int32) (s1 : Int32) (m_thrown : Int32) (m_trouble : Int32), f_X11_often_53 k24 m_hasFerry m_r m_st v1 v2 v4 s0 s1 m_thrown m_trouble = some z → ∀ (H : Heap) (locs : List Loc) (ls : Array Slot), va_P (rf_D E) vwCl (cM E a (rf_upL I [(0, m_thrown), (10, m_trouble)]) A) H → va_S A0 s.heap H locs → lv_has ls 5 [(0, .ref (a 0)), (1, .int v1), (2, .int v2), (4, .int v4)] → W p l e ({ frames := 4, cells := 0, slots := 0, locals := 100 }) s m args below meth c H locs 0 0 (rf_QI below args s E A0 z.1 (cM E a (rf_upL I [(0, z.2.1), (10, z.2.2)]) A)) (F0 m 53 ls [.int s1, .int s0]) := by
  have hx := hC.1
  have hb := hC.2.1
  intro v1 v2 v4 s0 s1 m_thrown m_trouble hf H locs ls hP hS hl
  unfold f_X11_often_53 at hf
  refine lv_iadd hx hb dX11_often_53 ?_
  refine lv_istore_n (lv' := [(3, .int (s0 + s1)), (0, .ref (a 0)), (1, .int v1), (2, .int v2), (4, .int v4)]) hx hb dX11_often_54 rfl hl (by decide) rfl (fun ls hl => ?_)
  refine lv_iinc (v := v4 + 1) (lv' := [(4, .int (v4 + 1)), (3, .int (s0 + s1)), (0, .ref (a 0)), (1, .int v1), (2, .int v2)]) hx hb dX11_often_55 hl (k := 4) rfl rfl (by decide) rfl (fun ls hl => ?_)
  refine lv_goto (tgt := 24) hx hb dX11_often_58 (by decide) ?_
  exact hk24 v1 v2 (s0 + s1) (v4 + 1) m_thrown m_trouble hf _ _ _ hP hS (lv_sub hl [2, 3, 4, 1, 0] rfl)
set_option maxHeartbeats 4000000 in
set_option maxRecDepth 100000 in
theorem w_X11_often_24 {l : Launch} {p : Program} {e : Env} {s : State} {m : MethodId} {args : Array Value} {below : List Frame} {meth : Method} {c : Code} {A0 : Nat → Prop} {E : rf_E} {a : Nat → Nat} {I : Nat → Int32} {A : Nat → Nat → Int32} {m_hasFerry : Int32} {m_r : Nat → Int32} {m_st : Nat → Int32} {z : Int32 × Int32 × Int32} (hC : rf_C p E s m args meth c cX11_often 5 RX11 (some .int) A0) (hD : va_D A0 (cM E a I A)) (e_m_hasFerry : I 12 = m_hasFerry) (e_m_r : A 2 = m_r) (e_m_st : A 4 = m_st) :
    ∀ (n : Nat), ∀ (v1 : Int32) (v2 : Int32) (v3 : Int32) (v4 : Int32) (m_thrown : Int32) (m_trouble : Int32), f_X11_often_24 m_hasFerry m_r m_st n v1 v2 v3 v4 m_thrown m_trouble = some z → ∀ (H : Heap) (locs : List Loc) (ls : Array Slot), va_P (rf_D E) vwCl (cM E a (rf_upL I [(0, m_thrown), (10, m_trouble)]) A) H → va_S A0 s.heap H locs → lv_has ls 5 [(0, .ref (a 0)), (1, .int v1), (2, .int v2), (3, .int v3), (4, .int v4)] → W p l e ({ frames := 4, cells := 0, slots := 0, locals := 100 }) s m args below meth c H locs 0 0 (rf_QI below args s E A0 z.1 (cM E a (rf_upL I [(0, z.2.1), (10, z.2.2)]) A)) (F0 m 24 ls []) := by
  have hx := hC.1
  have hb := hC.2.1
  intro n
  induction n with
  | zero =>
    intro v1 v2 v3 v4 m_thrown m_trouble hf
    have hf : (none : Option (Int32 × Int32 × Int32)) = some z := hf
    cases hf
  | succ n ih =>
    intro v1 v2 v3 v4 m_thrown m_trouble hf H locs ls hP hS hl
    rw [f_X11_often_24] at hf
    refine lv_iload hx hb dX11_often_24 (lv_at hl 4 rfl) ?_
    refine lv_bipush (v := 24) hx hb dX11_often_26 (by decide) ?_
    refine lv_icmp_ge (tgt := 61) hx hb dX11_often_28 (by decide) (fun c_28 => ?_) (fun c_28 => ?_)
    · have hf := rf_it c_28 hf
      refine lv_iload_n hx hb dX11_often_61 rfl (lv_at hl 3 rfl) ?_
      obtain rfl := Option.some.inj hf
      exact rf_reti hC hP hS rfl rfl dX11_often_62
    have hf := rf_ie c_28 hf
    refine lv_iload_n hx hb dX11_often_31 rfl (lv_at hl 3 rfl) ?_
    refine lv_aload_n hx hb dX11_often_32 rfl (lv_at hl 0 rfl) ?_
    refine lv_iload_n hx hb dX11_often_33 rfl (lv_at hl 1 rfl) ?_
    refine lv_iload_n hx hb dX11_often_34 rfl (lv_at hl 2 rfl) ?_
    refine lv_aload_n hx hb dX11_often_35 rfl (lv_at hl 0 rfl) ?_
    refine lv_iload hx hb dX11_often_36 (lv_at hl 4 rfl) ?_
    obtain ⟨z38, hz38, hf⟩ := rf_bd hf
    refine rf_vi (q0 := 0) (ci := 11) hC (c_X11_earAt l E a (rf_upL I [(0, m_thrown), (10, m_trouble)]) A m_r v4 e_m_r hz38) kV_X11_earAt tw_1624 ⟨Nat.le_of_ble_eq_true rfl, Nat.le_of_ble_eq_true rfl⟩ rfl rfl rfl rfl rfl hP (rf_DM hD) hS rfl hl.1 (rest := [.int v2, .int v1, .ref (a 0), .int v3]) rfl (Nat.le_of_ble_eq_true rfl) dX11_often_38 (fun H locs hP hS => ?_)
    obtain ⟨z41, hz41, hf⟩ := rf_bd hf
    refine rf_vi (q0 := 0) (ci := 11) hC (c_X11_rhymeNow l E a (rf_upL I [(0, m_thrown), (10, m_trouble)]) A m_r m_st v1 v2 z38 e_m_r e_m_st hz41) kV_X11_rhymeNow tw_1636 ⟨Nat.le_of_ble_eq_true rfl, Nat.le_of_ble_eq_true rfl⟩ rfl rfl rfl rfl rfl hP (rf_DM hD) hS rfl hl.1 (rest := [.int v3]) rfl (Nat.le_of_ble_eq_true rfl) dX11_often_41 (fun H locs hP hS => ?_)
    refine lv_iconst (v := 2) hx hb dX11_often_44 (by decide) ?_
    refine lv_icmp_ne (tgt := 52) hx hb dX11_often_45 (by decide) (fun c_45 => ?_) (fun c_45 => ?_)
    · have hf := rf_ie c_45 hf
      refine lv_iconst (v := 0) hx hb dX11_often_52 (by decide) ?_
      exact w_X11_often_53 hC hD e_m_hasFerry e_m_r e_m_st ih v1 v2 v4 v3 0 m_thrown m_trouble hf _ _ _ hP hS (lv_sub hl [0, 1, 2, 4] rfl)
    have hf := rf_it c_45 hf
    refine lv_iconst (v := 1) hx hb dX11_often_48 (by decide) ?_
    refine lv_goto (tgt := 53) hx hb dX11_often_49 (by decide) ?_
    exact w_X11_often_53 hC hD e_m_hasFerry e_m_r e_m_st ih v1 v2 v4 v3 1 m_thrown m_trouble hf _ _ _ hP hS (lv_sub hl [0, 1, 2, 4] rfl)
set_option maxHeartbeats 4000000 in
set_option maxRecDepth 100000 in
theorem c_X11_often (l : Launch) (E : rf_E) (a : Nat → Nat) (I : Nat → Int32) (A : Nat → Nat → Int32) (m_hasFerry : Int32) (m_r : Nat → Int32) (m_st : Nat → Int32) (m_thrown : Int32) (m_trouble : Int32) (v1 : Int32) (v2 : Int32) {z : Int32 × Int32 × Int32} (e_m_hasFerry : I 12 = m_hasFerry) (e_m_r : A 2 = m_r) (e_m_st : A 4 = m_st) (e_m_thrown : I 0 = m_thrown) (e_m_trouble : I 10 = m_trouble) (hf : f_X11_often m_hasFerry m_r m_st m_thrown m_trouble v1 v2 = some z) : rf_MI l yX11_often cX11_often 5 (some .int) ({ frames := 4, cells := 0, slots := 0, locals := 100 }) E [.ref (a 0), .int v1, .int v2] (cM E a I A) z.1 (cM E a (rf_upL I [(0, z.2.1), (10, z.2.2)]) A) := by
  unfold f_X11_often at hf
  refine rf_ofI (by decide) (Nat.le_of_ble_eq_true rfl) ?_
  intro p e s m below meth c A0 ls hC hD hP hS hl
  have hC : rf_C p E s m _ meth c cX11_often 5 RX11 (some .int) A0 := hC
  have hx := hC.1
  have hb := hC.2.1
  have hl : lv_has ls 5 [(0, .ref (a 0)), (1, .int v1), (2, .int v2)] := hl
  have hP : va_P (rf_D E) vwCl (cM E a (rf_upL I [(0, m_thrown), (10, m_trouble)]) A) s.heap := by
    rw [rf_self (f := I) [(0, m_thrown), (10, m_trouble)] (rf_fa1 e_m_thrown (rf_fa1 e_m_trouble rf_fa0))]
    exact hP
  refine lv_aload_n hx hb dX11_often_0 rfl (lv_at hl 0 rfl) ?_
  obtain ⟨z1, hz1, hf⟩ := rf_bd hf
  refine rf_vv (q0 := 0) (ci := 11) hC (c_X11_good l E a (rf_upL I [(0, m_thrown), (10, m_trouble)]) A m_thrown m_trouble rfl rfl hz1) kV_X11_good tw_1403 ⟨Nat.le_of_ble_eq_true rfl, Nat.le_of_ble_eq_true rfl⟩ rfl rfl rfl rfl rfl hP (rf_DM hD) hS rfl hl.1 (rest := []) rfl (Nat.le_of_ble_eq_true rfl) dX11_often_1 (fun H locs hP hS => ?_)
  rw [rf_cat (f := I) (l := [(0, m_thrown), (10, m_trouble)]) (lc := [(0, z1.1), (10, z1.2)]) (l' := [(0, z1.1), (10, z1.2)]) rfl] at hP
  refine lv_aload_n hx hb dX11_often_4 rfl (lv_at hl 0 rfl) ?_
  refine lv_iload_n hx hb dX11_often_5 rfl (lv_at hl 1 rfl) ?_
  refine lv_iload_n hx hb dX11_often_6 rfl (lv_at hl 2 rfl) ?_
  obtain ⟨z7, hz7, hf⟩ := rf_bd hf
  refine rf_vi (q0 := 0) (ci := 11) hC (c_X11_areTwo l E a (rf_upL I [(0, z1.1), (10, z1.2)]) A m_hasFerry m_r v1 v2 e_m_hasFerry e_m_r hz7) kV_X11_areTwo tw_1632 ⟨Nat.le_of_ble_eq_true rfl, Nat.le_of_ble_eq_true rfl⟩ rfl rfl rfl rfl rfl hP (rf_DM hD) hS rfl hl.1 (rest := []) rfl (Nat.le_of_ble_eq_true rfl) dX11_often_7 (fun H locs hP hS => ?_)
  refine lv_if_ne (tgt := 19) hx hb dX11_often_10 (by decide) (fun c_10 => ?_) (fun c_10 => ?_)
  · have hf := rf_ie c_10 hf
    refine lv_iconst (v := 0) hx hb dX11_often_19 (by decide) ?_
    refine lv_istore_n (lv' := [(3, .int 0), (0, .ref (a 0)), (1, .int v1), (2, .int v2)]) hx hb dX11_often_20 rfl hl (by decide) rfl (fun ls hl => ?_)
    refine lv_iconst (v := 0) hx hb dX11_often_21 (by decide) ?_
    refine lv_istore (lv' := [(4, .int 0), (3, .int 0), (0, .ref (a 0)), (1, .int v1), (2, .int v2)]) hx hb dX11_often_22 hl (by decide) rfl (fun ls hl => ?_)
    exact w_X11_often_24 hC hD e_m_hasFerry e_m_r e_m_st rf_fu v1 v2 0 0 z1.1 z1.2 hf _ _ _ hP hS (lv_sub hl [2, 3, 4, 1, 0] rfl)
  have hf := rf_it c_10 hf
  refine lv_aload_n hx hb dX11_often_13 rfl (lv_at hl 0 rfl) ?_
  refine lv_iconst (v := 1) hx hb dX11_often_14 (by decide) ?_
  obtain ⟨z15, hz15, hf⟩ := rf_bd hf
  refine rf_vi (q0 := 0) (ci := 11) hC (c_X11_no l E a (rf_upL I [(0, z1.1), (10, z1.2)]) A z1.2 1 rfl hz15) kV_X11_no tw_1410 ⟨Nat.le_of_ble_eq_true rfl, Nat.le_of_ble_eq_true rfl⟩ rfl rfl rfl rfl rfl hP (rf_DM hD) hS rfl hl.1 (rest := []) rfl (Nat.le_of_ble_eq_true rfl) dX11_often_15 (fun H locs hP hS => ?_)
  rw [rf_cat (f := I) (l := [(0, z1.1), (10, z1.2)]) (lc := [(10, z15.2)]) (l' := [(0, z1.1), (10, z15.2)]) rfl] at hP
  obtain rfl := Option.some.inj hf
  exact rf_reti hC hP hS rfl rfl dX11_often_18
set_option maxHeartbeats 4000000 in
set_option maxRecDepth 100000 in
theorem w_X11_classBy_62 {l : Launch} {p : Program} {e : Env} {s : State} {m : MethodId} {args : Array Value} {below : List Frame} {meth : Method} {c : Code} {A0 : Nat → Prop} {E : rf_E} {a : Nat → Nat} {I : Nat → Int32} {A : Nat → Nat → Int32} {m_r : Nat → Int32} {m_st : Nat → Int32} {z : Int32} (hC : rf_C p E s m args meth c cX11_classBy 6 RX11 (some .int) A0) (hD : va_D A0 (cM E a I A)) (e_m_r : A 2 = m_r) (e_m_st : A 4 = m_st) {k7 : Int32 → Int32 → Int32 → Option (Int32)} (hk7 : ∀ (v2 : Int32) (v3 : Int32) (v4 : Int32), k7 v2 v3 v4 = some z → ∀ (H : Heap) (locs : List Loc) (ls : Array Slot), va_P (rf_D E) vwCl (cM E a I A) H → va_S A0 s.heap H locs → lv_has ls 6 [(0, .ref (a 0)), (2, .int v2), (3, .int v3), (4, .int v4)] → W p l e ({ frames := 4, cells := 0, slots := 0, locals := 102 }) s m args below meth c H locs 0 0 (rf_QI below args s E A0 z (cM E a I A)) (F0 m 7 ls [])) {k19 : Int32 → Int32 → Int32 → Int32 → Option (Int32)} (hk19 : ∀ (v2 : Int32) (v3 : Int32) (v4 : Int32) (v5 : Int32), k19 v2 v3 v4 v5 = some z → ∀ (H : Heap) (locs : List Loc) (ls : Array Slot), va_P (rf_D E) vwCl (cM E a I A) H → va_S A0 s.heap H locs → lv_has ls 6 [(0, .ref (a 0)), (2, .int v2), (3, .int v3), (4, .int v4), (5, .int v5)] → W p l e ({ frames := 4, cells := 0, slots := 0, locals := 102 }) s m args below meth c H locs 0 0 (rf_QI below args s E A0 z (cM E a I A)) (F0 m 19 ls [])) :
    ∀ (v2 : Int32) (v4 : Int32) (v5 : Int32) (s0 : Int32) (s1 : Int32), f_X11_classBy_62 k7 k19 m_r m_st v2 v4 v5 s0 s1 = some z → ∀ (H : Heap) (locs : List Loc) (ls : Array Slot), va_P (rf_D E) vwCl (cM E a I A) H → va_S A0 s.heap H locs → lv_has ls 6 [(0, .ref (a 0)), (2, .int v2), (4, .int v4), (5, .int v5)] → W p l e ({ frames := 4, cells := 0, slots := 0, locals := 102 }) s m args below meth c H locs 0 0 (rf_QI below args s E A0 z (cM E a I A)) (F0 m 62 ls [.int s1, .int s0]) := by
  have hx := hC.1
  have hb := hC.2.1
  intro v2 v4 v5 s0 s1 hf H locs ls hP hS hl
  unfold f_X11_classBy_62 at hf
  refine lv_ior hx hb dX11_classBy_62 ?_
  refine lv_istore_n (lv' := [(3, .int (s0 ||| s1)), (0, .ref (a 0)), (2, .int v2), (4, .int v4), (5, .int v5)]) hx hb dX11_classBy_63 rfl hl (by decide) rfl (fun ls hl => ?_)
  refine lv_iinc (v := v5 + 1) (lv' := [(5, .int (v5 + 1)), (3, .int (s0 ||| s1)), (0, .ref (a 0)), (2, .int v2), (4, .int v4)]) hx hb dX11_classBy_64 hl (k := 4) rfl rfl (by decide) rfl (fun ls hl => ?_)
  refine lv_goto (tgt := 19) hx hb dX11_classBy_67 (by decide) ?_
  exact hk19 v2 (s0 ||| s1) v4 (v5 + 1) hf _ _ _ hP hS (lv_sub hl [2, 3, 1, 4, 0] rfl)
set_option maxHeartbeats 4000000 in
set_option maxRecDepth 100000 in
theorem w_X11_classBy_19 {l : Launch} {p : Program} {e : Env} {s : State} {m : MethodId} {args : Array Value} {below : List Frame} {meth : Method} {c : Code} {A0 : Nat → Prop} {E : rf_E} {a : Nat → Nat} {I : Nat → Int32} {A : Nat → Nat → Int32} {m_r : Nat → Int32} {m_st : Nat → Int32} {z : Int32} (hC : rf_C p E s m args meth c cX11_classBy 6 RX11 (some .int) A0) (hD : va_D A0 (cM E a I A)) (e_m_r : A 2 = m_r) (e_m_st : A 4 = m_st) {k7 : Int32 → Int32 → Int32 → Option (Int32)} (hk7 : ∀ (v2 : Int32) (v3 : Int32) (v4 : Int32), k7 v2 v3 v4 = some z → ∀ (H : Heap) (locs : List Loc) (ls : Array Slot), va_P (rf_D E) vwCl (cM E a I A) H → va_S A0 s.heap H locs → lv_has ls 6 [(0, .ref (a 0)), (2, .int v2), (3, .int v3), (4, .int v4)] → W p l e ({ frames := 4, cells := 0, slots := 0, locals := 102 }) s m args below meth c H locs 0 0 (rf_QI below args s E A0 z (cM E a I A)) (F0 m 7 ls [])) :
    ∀ (n : Nat), ∀ (v2 : Int32) (v3 : Int32) (v4 : Int32) (v5 : Int32), f_X11_classBy_19 k7 m_r m_st n v2 v3 v4 v5 = some z → ∀ (H : Heap) (locs : List Loc) (ls : Array Slot), va_P (rf_D E) vwCl (cM E a I A) H → va_S A0 s.heap H locs → lv_has ls 6 [(0, .ref (a 0)), (2, .int v2), (3, .int v3), (4, .int v4), (5, .int v5)] → W p l e ({ frames := 4, cells := 0, slots := 0, locals := 102 }) s m args below meth c H locs 0 0 (rf_QI below args s E A0 z (cM E a I A)) (F0 m 19 ls []) := by
  have hx := hC.1
  have hb := hC.2.1
  intro n
  induction n with
  | zero =>
    intro v2 v3 v4 v5 hf
    have hf : (none : Option (Int32)) = some z := hf
    cases hf
  | succ n ih =>
    intro v2 v3 v4 v5 hf H locs ls hP hS hl
    rw [f_X11_classBy_19] at hf
    refine lv_iload hx hb dX11_classBy_19 (lv_at hl 4 rfl) ?_
    refine lv_aload_n hx hb dX11_classBy_21 rfl (lv_at hl 0 rfl) ?_
    refine gM_m_r hC hP tw_1294 dX11_classBy_22 ?_
    refine lv_iconst (v := 3) hx hb dX11_classBy_25 (by decide) ?_
    refine lM_m_r hC hP (by decide) (f := m_r) e_m_r dX11_classBy_26 ?_
    refine lv_icmp_ge (tgt := 70) hx hb dX11_classBy_27 (by decide) (fun c_27 => ?_) (fun c_27 => ?_)
    · have hf := rf_it c_27 hf
      refine lv_goto (tgt := 7) hx hb dX11_classBy_70 (by decide) ?_
      exact hk7 v2 v3 v4 hf _ _ _ hP hS (lv_sub hl [0, 1, 2, 3] rfl)
    have hf := rf_ie c_27 hf
    refine lv_iload_n hx hb dX11_classBy_30 rfl (lv_at hl 2 rfl) ?_
    refine lv_iload hx hb dX11_classBy_31 (lv_at hl 3 rfl) ?_
    refine lv_iload hx hb dX11_classBy_33 (lv_at hl 4 rfl) ?_
    obtain ⟨z35, hz35, hf⟩ := rf_bd hf
    refine rf_si0 hC (c_X11_hasBit l E v4 v5 hz35) kS_X11_hasBit tw_1539 ⟨Nat.le_of_ble_eq_true rfl, Nat.le_of_ble_eq_true rfl⟩ rfl rfl hP hS rfl hl.1 (rest := [.int v3]) rfl (Nat.le_of_ble_eq_true rfl) dX11_classBy_35 (fun H locs hP hS => ?_)
    refine lv_if_eq (tgt := 61) hx hb dX11_classBy_38 (by decide) (fun c_38 => ?_) (fun c_38 => ?_)
    · have hf := rf_it c_38 hf
      refine lv_iconst (v := 0) hx hb dX11_classBy_61 (by decide) ?_
      exact w_X11_classBy_62 hC hD e_m_r e_m_st hk7 ih v2 v4 v5 v3 0 hf _ _ _ hP hS (lv_sub hl [0, 1, 3, 4] rfl)
    have hf := rf_ie c_38 hf
    refine lv_aload_n hx hb dX11_classBy_41 rfl (lv_at hl 0 rfl) ?_
    refine lv_iload hx hb dX11_classBy_42 (lv_at hl 4 rfl) ?_
    refine lv_aload_n hx hb dX11_classBy_44 rfl (lv_at hl 0 rfl) ?_
    refine gM_m_st hC hP tw_1296 dX11_classBy_45 ?_
    refine lv_bipush (v := 8) hx hb dX11_classBy_48 (by decide) ?_
    refine lv_iload hx hb dX11_classBy_50 (lv_at hl 4 rfl) ?_
    refine lv_iadd hx hb dX11_classBy_52 ?_
    obtain ⟨hi_53, hf⟩ := rf_gu hf
    refine lM_m_st hC hP hi_53 (f := m_st) e_m_st dX11_classBy_53 ?_
    refine lv_iload_n hx hb dX11_classBy_54 rfl (lv_at hl 1 rfl) ?_
    obtain ⟨z55, hz55, hf⟩ := rf_bd hf
    refine rf_vi (q0 := 0) (ci := 11) hC (c_X11_withBy l E a I A m_r m_st v5 (m_st (Int32.toNatClampNeg ((8 : Int32) + v5))) v2 e_m_r e_m_st hz55) kV_X11_withBy tw_1648 ⟨Nat.le_of_ble_eq_true rfl, Nat.le_of_ble_eq_true rfl⟩ rfl rfl rfl rfl rfl hP (rf_DM hD) hS rfl hl.1 (rest := [.int v3]) rfl (Nat.le_of_ble_eq_true rfl) dX11_classBy_55 (fun H locs hP hS => ?_)
    refine lv_goto (tgt := 62) hx hb dX11_classBy_58 (by decide) ?_
    exact w_X11_classBy_62 hC hD e_m_r e_m_st hk7 ih v2 v4 v5 v3 z55 hf _ _ _ hP hS (lv_sub hl [0, 1, 3, 4] rfl)
set_option maxHeartbeats 4000000 in
set_option maxRecDepth 100000 in
theorem w_X11_classBy_7 {l : Launch} {p : Program} {e : Env} {s : State} {m : MethodId} {args : Array Value} {below : List Frame} {meth : Method} {c : Code} {A0 : Nat → Prop} {E : rf_E} {a : Nat → Nat} {I : Nat → Int32} {A : Nat → Nat → Int32} {m_r : Nat → Int32} {m_st : Nat → Int32} {z : Int32} (hC : rf_C p E s m args meth c cX11_classBy 6 RX11 (some .int) A0) (hD : va_D A0 (cM E a I A)) (e_m_r : A 2 = m_r) (e_m_st : A 4 = m_st) :
    ∀ (n : Nat), ∀ (v2 : Int32) (v3 : Int32) (v4 : Int32), f_X11_classBy_7 m_r m_st n v2 v3 v4 = some z → ∀ (H : Heap) (locs : List Loc) (ls : Array Slot), va_P (rf_D E) vwCl (cM E a I A) H → va_S A0 s.heap H locs → lv_has ls 6 [(0, .ref (a 0)), (2, .int v2), (3, .int v3), (4, .int v4)] → W p l e ({ frames := 4, cells := 0, slots := 0, locals := 102 }) s m args below meth c H locs 0 0 (rf_QI below args s E A0 z (cM E a I A)) (F0 m 7 ls []) := by
  have hx := hC.1
  have hb := hC.2.1
  intro n
  induction n with
  | zero =>
    intro v2 v3 v4 hf
    have hf : (none : Option (Int32)) = some z := hf
    cases hf
  | succ n ih =>
    intro v2 v3 v4 hf H locs ls hP hS hl
    rw [f_X11_classBy_7] at hf
    refine lv_iload hx hb dX11_classBy_7 (lv_at hl 3 rfl) ?_
    refine lv_iload_n hx hb dX11_classBy_9 rfl (lv_at hl 2 rfl) ?_
    refine lv_icmp_eq (tgt := 73) hx hb dX11_classBy_10 (by decide) (fun c_10 => ?_) (fun c_10 => ?_)
    · have hf := rf_it c_10 hf
      refine lv_iload_n hx hb dX11_classBy_73 rfl (lv_at hl 2 rfl) ?_
      obtain rfl := Option.some.inj hf
      exact rf_reti hC hP hS rfl rfl dX11_classBy_74
    have hf := rf_ie c_10 hf
    refine lv_iload_n hx hb dX11_classBy_13 rfl (lv_at hl 2 rfl) ?_
    refine lv_istore (lv' := [(4, .int v3), (0, .ref (a 0)), (2, .int v2), (3, .int v3)]) hx hb dX11_classBy_14 hl (by decide) rfl (fun ls hl => ?_)
    refine lv_iconst (v := 0) hx hb dX11_classBy_16 (by decide) ?_
    refine lv_istore (lv' := [(5, .int 0), (4, .int v3), (0, .ref (a 0)), (2, .int v2), (3, .int v3)]) hx hb dX11_classBy_17 hl (by decide) rfl (fun ls hl => ?_)
    exact w_X11_classBy_19 hC hD e_m_r e_m_st ih rf_fu v2 v3 v3 0 hf _ _ _ hP hS (lv_sub hl [2, 3, 4, 1, 0] rfl)
set_option maxHeartbeats 4000000 in
set_option maxRecDepth 100000 in
theorem c_X11_classBy (l : Launch) (E : rf_E) (a : Nat → Nat) (I : Nat → Int32) (A : Nat → Nat → Int32) (m_r : Nat → Int32) (m_st : Nat → Int32) (v1 : Int32) (v2 : Int32) {z : Int32} (e_m_r : A 2 = m_r) (e_m_st : A 4 = m_st) (hf : f_X11_classBy m_r m_st v1 v2 = some z) : rf_MI l yX11_classBy cX11_classBy 6 (some .int) ({ frames := 4, cells := 0, slots := 0, locals := 102 }) E [.ref (a 0), .int v1, .int v2] (cM E a I A) z (cM E a I A) := by
  unfold f_X11_classBy at hf
  refine rf_ofI (by decide) (Nat.le_of_ble_eq_true rfl) ?_
  intro p e s m below meth c A0 ls hC hD hP hS hl
  have hC : rf_C p E s m _ meth c cX11_classBy 6 RX11 (some .int) A0 := hC
  have hx := hC.1
  have hb := hC.2.1
  have hl : lv_has ls 6 [(0, .ref (a 0)), (1, .int v1), (2, .int v2)] := hl
  refine lv_iconst (v := 1) hx hb dX11_classBy_0 (by decide) ?_
  refine lv_iload_n hx hb dX11_classBy_1 rfl (lv_at hl 1 rfl) ?_
  refine lv_ishl hx hb dX11_classBy_2 ?_
  refine lv_istore_n (lv' := [(3, .int ((1 : Int32) <<< (v1 &&& 31))), (0, .ref (a 0)), (1, .int v1), (2, .int v2)]) hx hb dX11_classBy_3 rfl hl (by decide) rfl (fun ls hl => ?_)
  refine lv_iconst (v := 0) hx hb dX11_classBy_4 (by decide) ?_
  refine lv_istore (lv' := [(4, .int 0), (3, .int ((1 : Int32) <<< (v1 &&& 31))), (0, .ref (a 0)), (1, .int v1), (2, .int v2)]) hx hb dX11_classBy_5 hl (by decide) rfl (fun ls hl => ?_)
  exact w_X11_classBy_7 hC hD e_m_r e_m_st rf_fu v2 ((1 : Int32) <<< (v1 &&& 31)) 0 hf _ _ _ hP hS (lv_sub hl [2, 4, 1, 0] rfl)
set_option maxHeartbeats 4000000 in
set_option maxRecDepth 100000 in
theorem c_X11_classOf (l : Launch) (E : rf_E) (a : Nat → Nat) (I : Nat → Int32) (A : Nat → Nat → Int32) (m_hasFerry : Int32) (m_r : Nat → Int32) (m_st : Nat → Int32) (m_thrown : Int32) (m_trouble : Int32) (v1 : Int32) (v2 : Int32) {z : Int32 × Int32 × Int32} (e_m_hasFerry : I 12 = m_hasFerry) (e_m_r : A 2 = m_r) (e_m_st : A 4 = m_st) (e_m_thrown : I 0 = m_thrown) (e_m_trouble : I 10 = m_trouble) (hf : f_X11_classOf m_hasFerry m_r m_st m_thrown m_trouble v1 v2 = some z) : rf_MI l yX11_classOf cX11_classOf 4 (some .int) ({ frames := 5, cells := 0, slots := 0, locals := 127 }) E [.ref (a 0), .int v1, .int v2] (cM E a I A) z.1 (cM E a (rf_upL I [(0, z.2.1), (10, z.2.2)]) A) := by
  unfold f_X11_classOf at hf
  refine rf_ofI (by decide) (Nat.le_of_ble_eq_true rfl) ?_
  intro p e s m below meth c A0 ls hC hD hP hS hl
  have hC : rf_C p E s m _ meth c cX11_classOf 4 RX11 (some .int) A0 := hC
  have hx := hC.1
  have hb := hC.2.1
  have hl : lv_has ls 4 [(0, .ref (a 0)), (1, .int v1), (2, .int v2)] := hl
  have hP : va_P (rf_D E) vwCl (cM E a (rf_upL I [(0, m_thrown), (10, m_trouble)]) A) s.heap := by
    rw [rf_self (f := I) [(0, m_thrown), (10, m_trouble)] (rf_fa1 e_m_thrown (rf_fa1 e_m_trouble rf_fa0))]
    exact hP
  refine lv_aload_n hx hb dX11_classOf_0 rfl (lv_at hl 0 rfl) ?_
  obtain ⟨z1, hz1, hf⟩ := rf_bd hf
  refine rf_vv (q0 := 0) (ci := 11) hC (c_X11_good l E a (rf_upL I [(0, m_thrown), (10, m_trouble)]) A m_thrown m_trouble rfl rfl hz1) kV_X11_good tw_1403 ⟨Nat.le_of_ble_eq_true rfl, Nat.le_of_ble_eq_true rfl⟩ rfl rfl rfl rfl rfl hP (rf_DM hD) hS rfl hl.1 (rest := []) rfl (Nat.le_of_ble_eq_true rfl) dX11_classOf_1 (fun H locs hP hS => ?_)
  rw [rf_cat (f := I) (l := [(0, m_thrown), (10, m_trouble)]) (lc := [(0, z1.1), (10, z1.2)]) (l' := [(0, z1.1), (10, z1.2)]) rfl] at hP
  refine lv_aload_n hx hb dX11_classOf_4 rfl (lv_at hl 0 rfl) ?_
  refine lv_aload_n hx hb dX11_classOf_5 rfl (lv_at hl 0 rfl) ?_
  refine lv_iload_n hx hb dX11_classOf_6 rfl (lv_at hl 1 rfl) ?_
  obtain ⟨z7, hz7, hf⟩ := rf_bd hf
  refine rf_vi (q0 := 0) (ci := 11) hC (c_X11_isPerson l E a (rf_upL I [(0, z1.1), (10, z1.2)]) A m_hasFerry m_r v1 e_m_hasFerry e_m_r hz7) kV_X11_isPerson tw_1605 ⟨Nat.le_of_ble_eq_true rfl, Nat.le_of_ble_eq_true rfl⟩ rfl rfl rfl rfl rfl hP (rf_DM hD) hS rfl hl.1 (rest := [.ref (a 0)]) rfl (Nat.le_of_ble_eq_true rfl) dX11_classOf_7 (fun H locs hP hS => ?_)
  refine lv_iload_n hx hb dX11_classOf_10 rfl (lv_at hl 2 rfl) ?_
  obtain ⟨z11, hz11, hf⟩ := rf_bd hf
  refine rf_vi (q0 := 0) (ci := 11) hC (c_X11_why l E a (rf_upL I [(0, z1.1), (10, z1.2)]) A z7 v2 hz11) kV_X11_why tw_1617 ⟨Nat.le_of_ble_eq_true rfl, Nat.le_of_ble_eq_true rfl⟩ rfl rfl rfl rfl rfl hP (rf_DM hD) hS rfl hl.1 (rest := []) rfl (Nat.le_of_ble_eq_true rfl) dX11_classOf_11 (fun H locs hP hS => ?_)
  refine lv_istore_n (lv' := [(3, .int z11), (0, .ref (a 0)), (1, .int v1), (2, .int v2)]) hx hb dX11_classOf_14 rfl hl (by decide) rfl (fun ls hl => ?_)
  refine lv_iload_n hx hb dX11_classOf_15 rfl (lv_at hl 0 rfl) ?_
  refine lv_if_eq (tgt := 27) hx hb dX11_classOf_16 (by decide) (fun c_16 => ?_) (fun c_16 => ?_)
  · have hf := rf_it c_16 hf
    refine lv_aload_n hx hb dX11_classOf_27 rfl (lv_at hl 1 rfl) ?_
    refine lv_iload_n hx hb dX11_classOf_28 rfl (lv_at hl 2 rfl) ?_
    refine lv_aload_n hx hb dX11_classOf_29 rfl (lv_at hl 1 rfl) ?_
    refine lv_iload_n hx hb dX11_classOf_30 rfl (lv_at hl 3 rfl) ?_
    obtain ⟨z31, hz31, hf⟩ := rf_bd hf
    refine rf_vi (q0 := 0) (ci := 11) hC (c_X11_earAt l E a (rf_upL I [(0, z1.1), (10, z1.2)]) A m_r v2 e_m_r hz31) kV_X11_earAt tw_1624 ⟨Nat.le_of_ble_eq_true rfl, Nat.le_of_ble_eq_true rfl⟩ rfl rfl rfl rfl rfl hP (rf_DM hD) hS rfl hl.1 (rest := [.int v1, .ref (a 0)]) rfl (Nat.le_of_ble_eq_true rfl) dX11_classOf_31 (fun H locs hP hS => ?_)
    obtain ⟨z34, hz34, hf⟩ := rf_bd hf
    refine rf_vi (q0 := 0) (ci := 11) hC (c_X11_classBy l E a (rf_upL I [(0, z1.1), (10, z1.2)]) A m_r m_st v1 z31 e_m_r e_m_st hz34) kV_X11_classBy tw_1675 ⟨Nat.le_of_ble_eq_true rfl, Nat.le_of_ble_eq_true rfl⟩ rfl rfl rfl rfl rfl hP (rf_DM hD) hS rfl hl.1 (rest := []) rfl (Nat.le_of_ble_eq_true rfl) dX11_classOf_34 (fun H locs hP hS => ?_)
    obtain rfl := Option.some.inj hf
    exact rf_reti hC hP hS rfl rfl dX11_classOf_37
  have hf := rf_ie c_16 hf
  refine lv_aload_n hx hb dX11_classOf_19 rfl (lv_at hl 1 rfl) ?_
  refine lv_iload_n hx hb dX11_classOf_20 rfl (lv_at hl 0 rfl) ?_
  obtain ⟨z21, hz21, hf⟩ := rf_bd hf
  refine rf_vi (q0 := 0) (ci := 11) hC (c_X11_no l E a (rf_upL I [(0, z1.1), (10, z1.2)]) A z1.2 z11 rfl hz21) kV_X11_no tw_1410 ⟨Nat.le_of_ble_eq_true rfl, Nat.le_of_ble_eq_true rfl⟩ rfl rfl rfl rfl rfl hP (rf_DM hD) hS rfl hl.1 (rest := []) rfl (Nat.le_of_ble_eq_true rfl) dX11_classOf_21 (fun H locs hP hS => ?_)
  rw [rf_cat (f := I) (l := [(0, z1.1), (10, z1.2)]) (lc := [(10, z21.2)]) (l' := [(0, z1.1), (10, z21.2)]) rfl] at hP
  refine lv_goto (tgt := 37) hx hb dX11_classOf_24 (by decide) ?_
  obtain rfl := Option.some.inj hf
  exact rf_reti hC hP hS rfl rfl dX11_classOf_37
set_option maxHeartbeats 4000000 in
set_option maxRecDepth 100000 in
theorem w_X11_classes_67 {l : Launch} {p : Program} {e : Env} {s : State} {m : MethodId} {args : Array Value} {below : List Frame} {meth : Method} {c : Code} {A0 : Nat → Prop} {E : rf_E} {a : Nat → Nat} {I : Nat → Int32} {A : Nat → Nat → Int32} {m_hasFerry : Int32} {m_r : Nat → Int32} {m_st : Nat → Int32} {z : Int32 × Int32 × Int32} (hC : rf_C p E s m args meth c cX11_classes 5 RX11 (some .int) A0) (hD : va_D A0 (cM E a I A)) (e_m_hasFerry : I 12 = m_hasFerry) (e_m_r : A 2 = m_r) (e_m_st : A 4 = m_st) {k29 : Int32 → Int32 → Int32 → Int32 → Int32 → Option (Int32 × Int32 × Int32)} (hk29 : ∀ (v1 : Int32) (v3 : Int32) (v4 : Int32) (m_thrown : Int32) (m_trouble : Int32), k29 v1 v3 v4 m_thrown m_trouble = some z → ∀ (H : Heap) (locs : List Loc) (ls : Array Slot), va_P (rf_D E) vwCl (cM E a (rf_upL I [(0, m_thrown), (10, m_trouble)]) A) H → va_S A0 s.heap H locs → lv_has ls 5 [(0, .ref (a 0)), (1, .int v1), (3, .int v3), (4, .int v4)] → W p l e ({ frames := 5, cells := 0, slots := 0, locals := 127 }) s m args below meth c H locs 0 0 (rf_QI below args s E A0 z.1 (cM E a (rf_upL I [(0, z.2.1), (10, z.2.2)]) A)) (F0 m 29 ls [])) :
    ∀ (v1 : Int32) (v4 : Int32) (s0 : Int32) (s1 : Int32) (m_thrown : Int32) (m_trouble : Int32), f_X11_classes_67 k29 m_hasFerry m_r m_st v1 v4 s0 s1 m_thrown m_trouble = some z → ∀ (H : Heap) (locs : List Loc) (ls : Array Slot), va_P (rf_D E) vwCl (cM E a (rf_upL I [(0, m_thrown), (10, m_trouble)]) A) H → va_S A0 s.heap H locs → lv_has ls 5 [(0, .ref (a 0)), (1, .int v1), (4, .int v4)] → W p l e ({ frames := 5, cells := 0, slots := 0, locals := 127 }) s m args below meth c H locs 0 0 (rf_QI below args s E A0 z.1 (cM E a (rf_upL I [(0, z.2.1), (10, z.2.2)]) A)) (F0 m 67 ls [.int s1, .int s0]) := by
  have hx := hC.1
  have hb := hC.2.1
  intro v1 v4 s0 s1 m_thrown m_trouble hf H locs ls hP hS hl
  unfold f_X11_classes_67 at hf
  refine lv_iadd hx hb dX11_classes_67 ?_
  refine lv_istore_n (lv' := [(3, .int (s0 + s1)), (0, .ref (a 0)), (1, .int v1), (4, .int v4)]) hx hb dX11_classes_68 rfl hl (by decide) rfl (fun ls hl => ?_)
  refine lv_iinc (v := v4 + 1) (lv' := [(4, .int (v4 + 1)), (3, .int (s0 + s1)), (0, .ref (a 0)), (1, .int v1)]) hx hb dX11_classes_69 hl (k := 3) rfl rfl (by decide) rfl (fun ls hl => ?_)
  refine lv_goto (tgt := 29) hx hb dX11_classes_72 (by decide) ?_
  exact hk29 v1 (s0 + s1) (v4 + 1) m_thrown m_trouble hf _ _ _ hP hS (lv_sub hl [2, 3, 1, 0] rfl)
set_option maxHeartbeats 4000000 in
set_option maxRecDepth 100000 in
theorem w_X11_classes_29 {l : Launch} {p : Program} {e : Env} {s : State} {m : MethodId} {args : Array Value} {below : List Frame} {meth : Method} {c : Code} {A0 : Nat → Prop} {E : rf_E} {a : Nat → Nat} {I : Nat → Int32} {A : Nat → Nat → Int32} {m_hasFerry : Int32} {m_r : Nat → Int32} {m_st : Nat → Int32} {z : Int32 × Int32 × Int32} (hC : rf_C p E s m args meth c cX11_classes 5 RX11 (some .int) A0) (hD : va_D A0 (cM E a I A)) (e_m_hasFerry : I 12 = m_hasFerry) (e_m_r : A 2 = m_r) (e_m_st : A 4 = m_st) :
    ∀ (n : Nat), ∀ (v1 : Int32) (v3 : Int32) (v4 : Int32) (m_thrown : Int32) (m_trouble : Int32), f_X11_classes_29 m_hasFerry m_r m_st n v1 v3 v4 m_thrown m_trouble = some z → ∀ (H : Heap) (locs : List Loc) (ls : Array Slot), va_P (rf_D E) vwCl (cM E a (rf_upL I [(0, m_thrown), (10, m_trouble)]) A) H → va_S A0 s.heap H locs → lv_has ls 5 [(0, .ref (a 0)), (1, .int v1), (3, .int v3), (4, .int v4)] → W p l e ({ frames := 5, cells := 0, slots := 0, locals := 127 }) s m args below meth c H locs 0 0 (rf_QI below args s E A0 z.1 (cM E a (rf_upL I [(0, z.2.1), (10, z.2.2)]) A)) (F0 m 29 ls []) := by
  have hx := hC.1
  have hb := hC.2.1
  intro n
  induction n with
  | zero =>
    intro v1 v3 v4 m_thrown m_trouble hf
    have hf : (none : Option (Int32 × Int32 × Int32)) = some z := hf
    cases hf
  | succ n ih =>
    intro v1 v3 v4 m_thrown m_trouble hf H locs ls hP hS hl
    rw [f_X11_classes_29] at hf
    refine lv_iload hx hb dX11_classes_29 (lv_at hl 3 rfl) ?_
    refine lv_aload_n hx hb dX11_classes_31 rfl (lv_at hl 0 rfl) ?_
    refine gM_m_r hC hP tw_1294 dX11_classes_32 ?_
    refine lv_iconst (v := 3) hx hb dX11_classes_35 (by decide) ?_
    refine lM_m_r hC hP (by decide) (f := m_r) e_m_r dX11_classes_36 ?_
    refine lv_icmp_ge (tgt := 75) hx hb dX11_classes_37 (by decide) (fun c_37 => ?_) (fun c_37 => ?_)
    · have hf := rf_it c_37 hf
      refine lv_iload_n hx hb dX11_classes_75 rfl (lv_at hl 2 rfl) ?_
      obtain rfl := Option.some.inj hf
      exact rf_reti hC hP hS rfl rfl dX11_classes_76
    have hf := rf_ie c_37 hf
    refine lv_iload_n hx hb dX11_classes_40 rfl (lv_at hl 2 rfl) ?_
    refine lv_aload_n hx hb dX11_classes_41 rfl (lv_at hl 0 rfl) ?_
    refine lv_iload hx hb dX11_classes_42 (lv_at hl 3 rfl) ?_
    refine lv_aload_n hx hb dX11_classes_44 rfl (lv_at hl 0 rfl) ?_
    refine lv_iload_n hx hb dX11_classes_45 rfl (lv_at hl 1 rfl) ?_
    obtain ⟨z46, hz46, hf⟩ := rf_bd hf
    refine rf_vi (q0 := 0) (ci := 11) hC (c_X11_earAt l E a (rf_upL I [(0, m_thrown), (10, m_trouble)]) A m_r v1 e_m_r hz46) kV_X11_earAt tw_1624 ⟨Nat.le_of_ble_eq_true rfl, Nat.le_of_ble_eq_true rfl⟩ rfl rfl rfl rfl rfl hP (rf_DM hD) hS rfl hl.1 (rest := [.int v4, .ref (a 0), .int v3]) rfl (Nat.le_of_ble_eq_true rfl) dX11_classes_46 (fun H locs hP hS => ?_)
    obtain ⟨z49, hz49, hf⟩ := rf_bd hf
    refine rf_vi (q0 := 0) (ci := 11) hC (c_X11_classBy l E a (rf_upL I [(0, m_thrown), (10, m_trouble)]) A m_r m_st v4 z46 e_m_r e_m_st hz49) kV_X11_classBy tw_1675 ⟨Nat.le_of_ble_eq_true rfl, Nat.le_of_ble_eq_true rfl⟩ rfl rfl rfl rfl rfl hP (rf_DM hD) hS rfl hl.1 (rest := [.int v3]) rfl (Nat.le_of_ble_eq_true rfl) dX11_classes_49 (fun H locs hP hS => ?_)
    refine lv_iconst (v := 1) hx hb dX11_classes_52 (by decide) ?_
    refine lv_iload hx hb dX11_classes_53 (lv_at hl 3 rfl) ?_
    refine lv_ishl hx hb dX11_classes_55 ?_
    refine lv_iconst (v := 1) hx hb dX11_classes_56 (by decide) ?_
    refine lv_isub hx hb dX11_classes_57 ?_
    refine lv_iand hx hb dX11_classes_58 ?_
    refine lv_if_ne (tgt := 66) hx hb dX11_classes_59 (by decide) (fun c_59 => ?_) (fun c_59 => ?_)
    · have hf := rf_ie c_59 hf
      refine lv_iconst (v := 0) hx hb dX11_classes_66 (by decide) ?_
      exact w_X11_classes_67 hC hD e_m_hasFerry e_m_r e_m_st ih v1 v4 v3 0 m_thrown m_trouble hf _ _ _ hP hS (lv_sub hl [0, 1, 3] rfl)
    have hf := rf_it c_59 hf
    refine lv_iconst (v := 1) hx hb dX11_classes_62 (by decide) ?_
    refine lv_goto (tgt := 67) hx hb dX11_classes_63 (by decide) ?_
    exact w_X11_classes_67 hC hD e_m_hasFerry e_m_r e_m_st ih v1 v4 v3 1 m_thrown m_trouble hf _ _ _ hP hS (lv_sub hl [0, 1, 3] rfl)
set_option maxHeartbeats 4000000 in
set_option maxRecDepth 100000 in
theorem c_X11_classes (l : Launch) (E : rf_E) (a : Nat → Nat) (I : Nat → Int32) (A : Nat → Nat → Int32) (m_hasFerry : Int32) (m_r : Nat → Int32) (m_st : Nat → Int32) (m_thrown : Int32) (m_trouble : Int32) (v1 : Int32) {z : Int32 × Int32 × Int32} (e_m_hasFerry : I 12 = m_hasFerry) (e_m_r : A 2 = m_r) (e_m_st : A 4 = m_st) (e_m_thrown : I 0 = m_thrown) (e_m_trouble : I 10 = m_trouble) (hf : f_X11_classes m_hasFerry m_r m_st m_thrown m_trouble v1 = some z) : rf_MI l yX11_classes cX11_classes 5 (some .int) ({ frames := 5, cells := 0, slots := 0, locals := 127 }) E [.ref (a 0), .int v1] (cM E a I A) z.1 (cM E a (rf_upL I [(0, z.2.1), (10, z.2.2)]) A) := by
  unfold f_X11_classes at hf
  refine rf_ofI (by decide) (Nat.le_of_ble_eq_true rfl) ?_
  intro p e s m below meth c A0 ls hC hD hP hS hl
  have hC : rf_C p E s m _ meth c cX11_classes 5 RX11 (some .int) A0 := hC
  have hx := hC.1
  have hb := hC.2.1
  have hl : lv_has ls 5 [(0, .ref (a 0)), (1, .int v1)] := hl
  have hP : va_P (rf_D E) vwCl (cM E a (rf_upL I [(0, m_thrown), (10, m_trouble)]) A) s.heap := by
    rw [rf_self (f := I) [(0, m_thrown), (10, m_trouble)] (rf_fa1 e_m_thrown (rf_fa1 e_m_trouble rf_fa0))]
    exact hP
  refine lv_aload_n hx hb dX11_classes_0 rfl (lv_at hl 0 rfl) ?_
  obtain ⟨z1, hz1, hf⟩ := rf_bd hf
  refine rf_vv (q0 := 0) (ci := 11) hC (c_X11_good l E a (rf_upL I [(0, m_thrown), (10, m_trouble)]) A m_thrown m_trouble rfl rfl hz1) kV_X11_good tw_1403 ⟨Nat.le_of_ble_eq_true rfl, Nat.le_of_ble_eq_true rfl⟩ rfl rfl rfl rfl rfl hP (rf_DM hD) hS rfl hl.1 (rest := []) rfl (Nat.le_of_ble_eq_true rfl) dX11_classes_1 (fun H locs hP hS => ?_)
  rw [rf_cat (f := I) (l := [(0, m_thrown), (10, m_trouble)]) (lc := [(0, z1.1), (10, z1.2)]) (l' := [(0, z1.1), (10, z1.2)]) rfl] at hP
  refine lv_aload_n hx hb dX11_classes_4 rfl (lv_at hl 0 rfl) ?_
  refine lv_aload_n hx hb dX11_classes_5 rfl (lv_at hl 0 rfl) ?_
  refine gM_m_hasFerry hC hP tw_1293 (v := m_hasFerry) e_m_hasFerry dX11_classes_6 ?_
  refine lv_iload_n hx hb dX11_classes_9 rfl (lv_at hl 1 rfl) ?_
  obtain ⟨z10, hz10, hf⟩ := rf_bd hf
  refine rf_vi (q0 := 0) (ci := 11) hC (c_X11_why l E a (rf_upL I [(0, z1.1), (10, z1.2)]) A m_hasFerry v1 hz10) kV_X11_why tw_1617 ⟨Nat.le_of_ble_eq_true rfl, Nat.le_of_ble_eq_true rfl⟩ rfl rfl rfl rfl rfl hP (rf_DM hD) hS rfl hl.1 (rest := []) rfl (Nat.le_of_ble_eq_true rfl) dX11_classes_10 (fun H locs hP hS => ?_)
  refine lv_istore_n (lv' := [(2, .int z10), (0, .ref (a 0)), (1, .int v1)]) hx hb dX11_classes_13 rfl hl (by decide) rfl (fun ls hl => ?_)
  refine lv_iload_n hx hb dX11_classes_14 rfl (lv_at hl 0 rfl) ?_
  refine lv_if_eq (tgt := 24) hx hb dX11_classes_15 (by decide) (fun c_15 => ?_) (fun c_15 => ?_)
  · have hf := rf_it c_15 hf
    refine lv_iconst (v := 0) hx hb dX11_classes_24 (by decide) ?_
    refine lv_istore_n (lv' := [(3, .int 0), (2, .int z10), (0, .ref (a 0)), (1, .int v1)]) hx hb dX11_classes_25 rfl hl (by decide) rfl (fun ls hl => ?_)
    refine lv_iconst (v := 0) hx hb dX11_classes_26 (by decide) ?_
    refine lv_istore (lv' := [(4, .int 0), (3, .int 0), (2, .int z10), (0, .ref (a 0)), (1, .int v1)]) hx hb dX11_classes_27 hl (by decide) rfl (fun ls hl => ?_)
    exact w_X11_classes_29 hC hD e_m_hasFerry e_m_r e_m_st rf_fu v1 0 0 z1.1 z1.2 hf _ _ _ hP hS (lv_sub hl [3, 4, 1, 0] rfl)
  have hf := rf_ie c_15 hf
  refine lv_aload_n hx hb dX11_classes_18 rfl (lv_at hl 1 rfl) ?_
  refine lv_iload_n hx hb dX11_classes_19 rfl (lv_at hl 0 rfl) ?_
  obtain ⟨z20, hz20, hf⟩ := rf_bd hf
  refine rf_vi (q0 := 0) (ci := 11) hC (c_X11_no l E a (rf_upL I [(0, z1.1), (10, z1.2)]) A z1.2 z10 rfl hz20) kV_X11_no tw_1410 ⟨Nat.le_of_ble_eq_true rfl, Nat.le_of_ble_eq_true rfl⟩ rfl rfl rfl rfl rfl hP (rf_DM hD) hS rfl hl.1 (rest := []) rfl (Nat.le_of_ble_eq_true rfl) dX11_classes_20 (fun H locs hP hS => ?_)
  rw [rf_cat (f := I) (l := [(0, z1.1), (10, z1.2)]) (lc := [(10, z20.2)]) (l' := [(0, z1.1), (10, z20.2)]) rfl] at hP
  obtain rfl := Option.some.inj hf
  exact rf_reti hC hP hS rfl rfl dX11_classes_23
