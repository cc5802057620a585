set_option maxHeartbeats 4000000 in
set_option maxRecDepth 100000 in
theorem w_X11_sellersWhy_27 {l : Launch} {p : Program} {e : Env} {s : State} {m : MethodId} {args : Array Value} {below : List Frame} {meth : Method} {c : Code} {A0 : Nat → Prop} {E : rf_E} {a : Nat → Nat} {I : Nat → Int32} {A : Nat → Nat → Int32} {m_hasFerry : Int32} {m_r : Nat → Int32} {z : Int32} (hC : rf_C p E s m args meth c cX11_sellersWhy 4 RX11 (some .int) A0) (hD : va_D A0 (cM E a I A)) (e_m_hasFerry : I 12 = m_hasFerry) (e_m_r : A 2 = m_r) :
    ∀ (v3 : Int32) (s1 : Int32), f_X11_sellersWhy_27 m_hasFerry m_r v3 s1 = some z → ∀ (H : Heap) (locs : List Loc) (ls : Array Slot), va_P (rf_D E) vwCl (cM E a I A) H → va_S A0 s.heap H locs → lv_has ls 4 [(3, .int v3)] → W p l e ({ frames := 3, cells := 0, slots := 0, locals := 64 }) s m args below meth c H locs 0 0 (rf_QI below args s E A0 z (cM E a I A)) (F0 m 27 ls [.int s1, .ref (a 0)]) := by
  have hx := hC.1
  have hb := hC.2.1
  intro v3 s1 hf H locs ls hP hS hl
  unfold f_X11_sellersWhy_27 at hf
  refine lv_iload_n hx hb dX11_sellersWhy_27 rfl (lv_at hl 0 rfl) ?_
  obtain ⟨z28, hz28, hf⟩ := rf_bd hf
  refine rf_vi (q0 := 0) (ci := 11) hC (c_X11_why l E a I A s1 v3 hz28) kV_X11_why tw_1617 ⟨Nat.le_of_ble_eq_true rfl, Nat.le_of_ble_eq_true rfl⟩ rfl rfl rfl rfl rfl hP (rf_DM hD) hS rfl hl.1 (rest := []) rfl (Nat.le_of_ble_eq_true rfl) dX11_sellersWhy_28 (fun H locs hP hS => ?_)
  obtain rfl := Option.some.inj hf
  exact rf_reti hC hP hS rfl rfl dX11_sellersWhy_31
set_option maxHeartbeats 4000000 in
set_option maxRecDepth 100000 in
theorem w_X11_sellersWhy_26 {l : Launch} {p : Program} {e : Env} {s : State} {m : MethodId} {args : Array Value} {below : List Frame} {meth : Method} {c : Code} {A0 : Nat → Prop} {E : rf_E} {a : Nat → Nat} {I : Nat → Int32} {A : Nat → Nat → Int32} {m_hasFerry : Int32} {m_r : Nat → Int32} {z : Int32} (hC : rf_C p E s m args meth c cX11_sellersWhy 4 RX11 (some .int) A0) (hD : va_D A0 (cM E a I A)) (e_m_hasFerry : I 12 = m_hasFerry) (e_m_r : A 2 = m_r) :
    ∀ (v3 : Int32), f_X11_sellersWhy_26 m_hasFerry m_r v3 = some z → ∀ (H : Heap) (locs : List Loc) (ls : Array Slot), va_P (rf_D E) vwCl (cM E a I A) H → va_S A0 s.heap H locs → lv_has ls 4 [(3, .int v3)] → W p l e ({ frames := 3, cells := 0, slots := 0, locals := 64 }) s m args below meth c H locs 0 0 (rf_QI below args s E A0 z (cM E a I A)) (F0 m 26 ls [.ref (a 0)]) := by
  have hx := hC.1
  have hb := hC.2.1
  intro v3 hf H locs ls hP hS hl
  unfold f_X11_sellersWhy_26 at hf
  refine lv_iconst (v := 0) hx hb dX11_sellersWhy_26 (by decide) ?_
  exact w_X11_sellersWhy_27 hC hD e_m_hasFerry e_m_r v3 0 hf _ _ _ hP hS (lv_sub hl [0] rfl)
set_option maxHeartbeats 4000000 in
set_option maxRecDepth 100000 in
theorem c_X11_sellersWhy (l : Launch) (E : rf_E) (a : Nat → Nat) (I : Nat → Int32) (A : Nat → Nat → Int32) (m_hasFerry : Int32) (m_r : Nat → Int32) (v1 : Int32) (v2 : Int32) (v3 : Int32) {z : Int32} (e_m_hasFerry : I 12 = m_hasFerry) (e_m_r : A 2 = m_r) (hf : f_X11_sellersWhy m_hasFerry m_r v1 v2 v3 = some z) : rf_MI l yX11_sellersWhy cX11_sellersWhy 4 (some .int) ({ frames := 3, cells := 0, slots := 0, locals := 64 }) E [.ref (a 0), .int v1, .int v2, .int v3] (cM E a I A) z (cM E a I A) := by
  unfold f_X11_sellersWhy at hf
  refine rf_ofI (by decide) (Nat.le_of_ble_eq_true rfl) ?_
  intro p e s m below meth c A0 ls hC hD hP hS hl
  have hC : rf_C p E s m _ meth c cX11_sellersWhy 4 RX11 (some .int) A0 := hC
  have hx := hC.1
  have hb := hC.2.1
  have hl : lv_has ls 4 [(0, .ref (a 0)), (1, .int v1), (2, .int v2), (3, .int v3)] := hl
  refine lv_aload_n hx hb dX11_sellersWhy_0 rfl (lv_at hl 0 rfl) ?_
  refine lv_aload_n hx hb dX11_sellersWhy_1 rfl (lv_at hl 0 rfl) ?_
  refine lv_iload_n hx hb dX11_sellersWhy_2 rfl (lv_at hl 1 rfl) ?_
  obtain ⟨z3, hz3, hf⟩ := rf_bd hf
  refine rf_vi (q0 := 0) (ci := 11) hC (c_X11_isWordThere l E a I A m_hasFerry m_r v1 e_m_hasFerry e_m_r hz3) kV_X11_isWordThere tw_1581 ⟨Nat.le_of_ble_eq_true rfl, Nat.le_of_ble_eq_true rfl⟩ rfl rfl rfl rfl rfl hP (rf_DM hD) hS rfl hl.1 (rest := [.ref (a 0)]) rfl (Nat.le_of_ble_eq_true rfl) dX11_sellersWhy_3 (fun H locs hP hS => ?_)
  refine lv_if_eq (tgt := 26) hx hb dX11_sellersWhy_6 (by decide) (fun c_6 => ?_) (fun c_6 => ?_)
  · have hf := rf_it c_6 hf
    exact w_X11_sellersWhy_26 hC hD e_m_hasFerry e_m_r v3 hf _ _ _ hP hS (lv_sub hl [3] rfl)
  have hf := rf_ie c_6 hf
  refine lv_aload_n hx hb dX11_sellersWhy_9 rfl (lv_at hl 0 rfl) ?_
  refine lv_iload_n hx hb dX11_sellersWhy_10 rfl (lv_at hl 2 rfl) ?_
  obtain ⟨z11, hz11, hf⟩ := rf_bd hf
  refine rf_vi (q0 := 0) (ci := 11) hC (c_X11_isWordThere l E a I A m_hasFerry m_r v2 e_m_hasFerry e_m_r hz11) kV_X11_isWordThere tw_1581 ⟨Nat.le_of_ble_eq_true rfl, Nat.le_of_ble_eq_true rfl⟩ rfl rfl rfl rfl rfl hP (rf_DM hD) hS rfl hl.1 (rest := [.ref (a 0)]) rfl (Nat.le_of_ble_eq_true rfl) dX11_sellersWhy_11 (fun H locs hP hS => ?_)
  refine lv_if_eq (tgt := 26) hx hb dX11_sellersWhy_14 (by decide) (fun c_14 => ?_) (fun c_14 => ?_)
  · have hf := rf_it c_14 hf
    exact w_X11_sellersWhy_26 hC hD e_m_hasFerry e_m_r v3 hf _ _ _ hP hS (lv_sub hl [3] rfl)
  have hf := rf_ie c_14 hf
  refine lv_iload_n hx hb dX11_sellersWhy_17 rfl (lv_at hl 1 rfl) ?_
  refine lv_iload_n hx hb dX11_sellersWhy_18 rfl (lv_at hl 2 rfl) ?_
  refine lv_icmp_eq (tgt := 26) hx hb dX11_sellersWhy_19 (by decide) (fun c_19 => ?_) (fun c_19 => ?_)
  · have hf := rf_it c_19 hf
    exact w_X11_sellersWhy_26 hC hD e_m_hasFerry e_m_r v3 hf _ _ _ hP hS (lv_sub hl [3] rfl)
  have hf := rf_ie c_19 hf
  refine lv_iconst (v := 1) hx hb dX11_sellersWhy_22 (by decide) ?_
  refine lv_goto (tgt := 27) hx hb dX11_sellersWhy_23 (by decide) ?_
  exact w_X11_sellersWhy_27 hC hD e_m_hasFerry e_m_r v3 1 hf _ _ _ hP hS (lv_sub hl [3] rfl)
set_option maxHeartbeats 4000000 in
set_option maxRecDepth 100000 in
theorem w_X11_sellsOf_45 {l : Launch} {p : Program} {e : Env} {s : State} {m : MethodId} {args : Array Value} {below : List Frame} {meth : Method} {c : Code} {A0 : Nat → Prop} {E : rf_E} {a : Nat → Nat} {I : Nat → Int32} {A : Nat → Nat → Int32} {m_onlyOne : Int32} {m_onlyOther : Int32} {m_either : Int32} {z : Int32} (hC : rf_C p E s m args meth c cX11_sellsOf 4 RX11 (some .int) A0) (hD : va_D A0 (cM E a I A)) (e_m_onlyOne : I 19 = m_onlyOne) (e_m_onlyOther : I 20 = m_onlyOther) (e_m_either : I 21 = m_either) :
    ∀ (s0 : Int32) (s1 : Int32) (s2 : Int32), f_X11_sellsOf_45 m_onlyOne m_onlyOther m_either s0 s1 s2 = some z → ∀ (H : Heap) (locs : List Loc) (ls : Array Slot), va_P (rf_D E) vwCl (cM E a I A) H → va_S A0 s.heap H locs → lv_has ls 4 [] → W p l e ({ frames := 0, cells := 0, slots := 0, locals := 0 }) s m args below meth c H locs 0 0 (rf_QI below args s E A0 z (cM E a I A)) (F0 m 45 ls [.int s2, .int s1, .int s0]) := by
  have hx := hC.1
  have hb := hC.2.1
  intro s0 s1 s2 hf H locs ls hP hS hl
  unfold f_X11_sellsOf_45 at hf
  refine lv_iadd hx hb dX11_sellsOf_45 ?_
  refine lv_imul hx hb dX11_sellsOf_46 ?_
  obtain rfl := Option.some.inj hf
  exact rf_reti hC hP hS rfl rfl dX11_sellsOf_47
set_option maxHeartbeats 4000000 in
set_option maxRecDepth 100000 in
theorem w_X11_sellsOf_22 {l : Launch} {p : Program} {e : Env} {s : State} {m : MethodId} {args : Array Value} {below : List Frame} {meth : Method} {c : Code} {A0 : Nat → Prop} {E : rf_E} {a : Nat → Nat} {I : Nat → Int32} {A : Nat → Nat → Int32} {m_onlyOne : Int32} {m_onlyOther : Int32} {m_either : Int32} {z : Int32} (hC : rf_C p E s m args meth c cX11_sellsOf 4 RX11 (some .int) A0) (hD : va_D A0 (cM E a I A)) (e_m_onlyOne : I 19 = m_onlyOne) (e_m_onlyOther : I 20 = m_onlyOther) (e_m_either : I 21 = m_either) :
    ∀ (s0 : Int32) (s1 : Int32) (s2 : Int32), f_X11_sellsOf_22 m_onlyOne m_onlyOther m_either s0 s1 s2 = some z → ∀ (H : Heap) (locs : List Loc) (ls : Array Slot), va_P (rf_D E) vwCl (cM E a I A) H → va_S A0 s.heap H locs → lv_has ls 4 [] → W p l e ({ frames := 0, cells := 0, slots := 0, locals := 0 }) s m args below meth c H locs 0 0 (rf_QI below args s E A0 z (cM E a I A)) (F0 m 22 ls [.int s2, .int s1, .int s0]) := by
  have hx := hC.1
  have hb := hC.2.1
  intro s0 s1 s2 hf H locs ls hP hS hl
  unfold f_X11_sellsOf_22 at hf
  refine lv_iadd hx hb dX11_sellsOf_22 ?_
  refine lv_imul hx hb dX11_sellsOf_23 ?_
  refine lv_goto (tgt := 47) hx hb dX11_sellsOf_24 (by decide) ?_
  obtain rfl := Option.some.inj hf
  exact rf_reti hC hP hS rfl rfl dX11_sellsOf_47
set_option maxHeartbeats 4000000 in
set_option maxRecDepth 100000 in
theorem c_X11_sellsOf (l : Launch) (E : rf_E) (a : Nat → Nat) (I : Nat → Int32) (A : Nat → Nat → Int32) (m_onlyOne : Int32) (m_onlyOther : Int32) (m_either : Int32) (v1 : Int32) (v2 : Int32) (v3 : Int32) {z : Int32} (e_m_onlyOne : I 19 = m_onlyOne) (e_m_onlyOther : I 20 = m_onlyOther) (e_m_either : I 21 = m_either) (hf : f_X11_sellsOf m_onlyOne m_onlyOther m_either v1 v2 v3 = some z) : rf_MI l yX11_sellsOf cX11_sellsOf 4 (some .int) ({ frames := 0, cells := 0, slots := 0, locals := 0 }) E [.ref (a 0), .int v1, .int v2, .int v3] (cM E a I A) z (cM E a I A) := by
  unfold f_X11_sellsOf at hf
  refine rf_ofI (by decide) (Nat.le_of_ble_eq_true rfl) ?_
  intro p e s m below meth c A0 ls hC hD hP hS hl
  have hC : rf_C p E s m _ meth c cX11_sellsOf 4 RX11 (some .int) A0 := hC
  have hx := hC.1
  have hb := hC.2.1
  have hl : lv_has ls 4 [(0, .ref (a 0)), (1, .int v1), (2, .int v2), (3, .int v3)] := hl
  refine lv_iload_n hx hb dX11_sellsOf_0 rfl (lv_at hl 3 rfl) ?_
  refine lv_if_eq (tgt := 27) hx hb dX11_sellsOf_1 (by decide) (fun c_1 => ?_) (fun c_1 => ?_)
  · have hf := rf_it c_1 hf
    refine lv_iload_n hx hb dX11_sellsOf_27 rfl (lv_at hl 1 rfl) ?_
    refine lv_aload_n hx hb dX11_sellsOf_28 rfl (lv_at hl 0 rfl) ?_
    refine gM_m_onlyOne hC hP tw_1311 (v := m_onlyOne) e_m_onlyOne dX11_sellsOf_29 ?_
    refine lv_iload_n hx hb dX11_sellsOf_32 rfl (lv_at hl 1 rfl) ?_
    refine lv_iload_n hx hb dX11_sellsOf_33 rfl (lv_at hl 2 rfl) ?_
    refine lv_icmp_gt (tgt := 44) hx hb dX11_sellsOf_34 (by decide) (fun c_34 => ?_) (fun c_34 => ?_)
    · have hf := rf_it c_34 hf
      refine lv_iconst (v := 0) hx hb dX11_sellsOf_44 (by decide) ?_
      exact w_X11_sellsOf_45 hC hD e_m_onlyOne e_m_onlyOther e_m_either v1 m_onlyOne 0 hf _ _ _ hP hS (lv_sub hl [] rfl)
    have hf := rf_ie c_34 hf
    refine lv_aload_n hx hb dX11_sellsOf_37 rfl (lv_at hl 0 rfl) ?_
    refine gM_m_either hC hP tw_1313 (v := m_either) e_m_either dX11_sellsOf_38 ?_
    refine lv_goto (tgt := 45) hx hb dX11_sellsOf_41 (by decide) ?_
    exact w_X11_sellsOf_45 hC hD e_m_onlyOne e_m_onlyOther e_m_either v1 m_onlyOne m_either hf _ _ _ hP hS (lv_sub hl [] rfl)
  have hf := rf_ie c_1 hf
  refine lv_iload_n hx hb dX11_sellsOf_4 rfl (lv_at hl 2 rfl) ?_
  refine lv_aload_n hx hb dX11_sellsOf_5 rfl (lv_at hl 0 rfl) ?_
  refine gM_m_onlyOther hC hP tw_1312 (v := m_onlyOther) e_m_onlyOther dX11_sellsOf_6 ?_
  refine lv_iload_n hx hb dX11_sellsOf_9 rfl (lv_at hl 2 rfl) ?_
  refine lv_iload_n hx hb dX11_sellsOf_10 rfl (lv_at hl 1 rfl) ?_
  refine lv_icmp_ge (tgt := 21) hx hb dX11_sellsOf_11 (by decide) (fun c_11 => ?_) (fun c_11 => ?_)
  · have hf := rf_it c_11 hf
    refine lv_iconst (v := 0) hx hb dX11_sellsOf_21 (by decide) ?_
    exact w_X11_sellsOf_22 hC hD e_m_onlyOne e_m_onlyOther e_m_either v2 m_onlyOther 0 hf _ _ _ hP hS (lv_sub hl [] rfl)
  have hf := rf_ie c_11 hf
  refine lv_aload_n hx hb dX11_sellsOf_14 rfl (lv_at hl 0 rfl) ?_
  refine gM_m_either hC hP tw_1313 (v := m_either) e_m_either dX11_sellsOf_15 ?_
  refine lv_goto (tgt := 22) hx hb dX11_sellsOf_18 (by decide) ?_
  exact w_X11_sellsOf_22 hC hD e_m_onlyOne e_m_onlyOther e_m_either v2 m_onlyOther m_either hf _ _ _ hP hS (lv_sub hl [] rfl)
set_option maxHeartbeats 4000000 in
set_option maxRecDepth 100000 in
theorem w_X11_sells_43 {l : Launch} {p : Program} {e : Env} {s : State} {m : MethodId} {args : Array Value} {below : List Frame} {meth : Method} {c : Code} {A0 : Nat → Prop} {E : rf_E} {a : Nat → Nat} {I : Nat → Int32} {A : Nat → Nat → Int32} {m_hasFerry : Int32} {m_r : Nat → Int32} {m_st : Nat → Int32} {z : Int32 × Int32 × Int32 × Int32 × Int32 × Int32 × (Nat → Int32)} (hC : rf_C p E s m args meth c cX11_sells 8 RX11 (some .int) A0) (hD : va_D A0 (cM E a I A)) (e_m_hasFerry : I 12 = m_hasFerry) (e_m_r : A 2 = m_r) (e_m_st : A 4 = m_st) :
    ∀ (v1 : Int32) (v2 : Int32) (v3 : Int32) (v4 : Int32) (v5 : Int32) (v6 : Int32) (v7 : Int32) (m_thrown : Int32) (m_trouble : Int32) (m_onlyOne : Int32) (m_onlyOther : Int32) (m_either : Int32) (m_can : Nat → Int32), f_X11_sells_43 m_hasFerry m_r m_st v1 v2 v3 v4 v5 v6 v7 m_thrown m_trouble m_onlyOne m_onlyOther m_either m_can = some z → ∀ (H : Heap) (locs : List Loc) (ls : Array Slot), va_P (rf_D E) vwCl (cM E a (rf_upL I [(0, m_thrown), (10, m_trouble), (19, m_onlyOne), (20, m_onlyOther), (21, m_either)]) (rf_upL A [(7, m_can)])) H → va_S A0 s.heap H locs → lv_has ls 8 [(0, .ref (a 0)), (1, .int v1), (2, .int v2), (3, .int v3), (4, .int v4), (5, .int v5), (6, .int v6), (7, .int v7)] → W p l e ({ frames := 7, cells := 0, slots := 0, locals := 177 }) s m args below meth c H locs 0 0 (rf_QI below args s E A0 z.1 (cM E a (rf_upL I [(0, z.2.1), (10, z.2.2.1), (19, z.2.2.2.1), (20, z.2.2.2.2.1), (21, z.2.2.2.2.2.1)]) (rf_upL A [(7, z.2.2.2.2.2.2)]))) (F0 m 43 ls []) := by
  have hx := hC.1
  have hb := hC.2.1
  intro v1 v2 v3 v4 v5 v6 v7 m_thrown m_trouble m_onlyOne m_onlyOther m_either m_can hf H locs ls hP hS hl
  unfold f_X11_sells_43 at hf
  refine lv_iload hx hb dX11_sells_43 (lv_at hl 7 rfl) ?_
  refine lv_if_eq (tgt := 55) hx hb dX11_sells_45 (by decide) (fun c_45 => ?_) (fun c_45 => ?_)
  · have hf := rf_it c_45 hf
    refine lv_aload_n hx hb dX11_sells_55 rfl (lv_at hl 0 rfl) ?_
    refine lv_iload_n hx hb dX11_sells_56 rfl (lv_at hl 1 rfl) ?_
    refine lv_iload_n hx hb dX11_sells_57 rfl (lv_at hl 3 rfl) ?_
    refine lv_aload_n hx hb dX11_sells_58 rfl (lv_at hl 0 rfl) ?_
    refine lv_iload hx hb dX11_sells_59 (lv_at hl 5 rfl) ?_
    obtain ⟨z61, hz61, hf⟩ := rf_bd hf
    refine rf_vi (q0 := 0) (ci := 11) hC (c_X11_earAt l E a (rf_upL I [(0, m_thrown), (10, m_trouble), (19, m_onlyOne), (20, m_onlyOther), (21, m_either)]) (rf_upL A [(7, m_can)]) m_r v5 e_m_r hz61) kV_X11_earAt tw_1624 ⟨Nat.le_of_ble_eq_true rfl, Nat.le_of_ble_eq_true rfl⟩ rfl rfl rfl rfl rfl hP (rf_DM hD) hS rfl hl.1 (rest := [.int v3, .int v1, .ref (a 0)]) rfl (Nat.le_of_ble_eq_true rfl) dX11_sells_61 (fun H locs hP hS => ?_)
    obtain ⟨z64, hz64, hf⟩ := rf_bd hf
    refine rf_vv (q0 := 0) (ci := 11) hC (c_X11_layBuyers l E a (rf_upL I [(0, m_thrown), (10, m_trouble), (19, m_onlyOne), (20, m_onlyOther), (21, m_either)]) (rf_upL A [(7, m_can)]) m_r m_st m_onlyOne m_onlyOther m_either m_can v1 v3 z61 e_m_r e_m_st rfl rfl rfl rfl hz64) kV_X11_layBuyers tw_1816 ⟨Nat.le_of_ble_eq_true rfl, Nat.le_of_ble_eq_true rfl⟩ rfl rfl rfl rfl rfl hP (rf_DM hD) hS rfl hl.1 (rest := []) rfl (Nat.le_of_ble_eq_true rfl) dX11_sells_64 (fun H locs hP hS => ?_)
    rw [rf_cat (f := I) (l := [(0, m_thrown), (10, m_trouble), (19, m_onlyOne), (20, m_onlyOther), (21, m_either)]) (lc := [(19, z64.1), (20, z64.2.1), (21, z64.2.2.1)]) (l' := [(0, m_thrown), (10, m_trouble), (19, z64.1), (20, z64.2.1), (21, z64.2.2.1)]) rfl] at hP
    rw [rf_cat (f := A) (l := [(7, m_can)]) (lc := [(7, z64.2.2.2)]) (l' := [(7, z64.2.2.2)]) rfl] at hP
    refine lv_aload_n hx hb dX11_sells_67 rfl (lv_at hl 0 rfl) ?_
    refine lv_iload_n hx hb dX11_sells_68 rfl (lv_at hl 2 rfl) ?_
    refine lv_iload hx hb dX11_sells_69 (lv_at hl 4 rfl) ?_
    refine lv_iload hx hb dX11_sells_71 (lv_at hl 6 rfl) ?_
    obtain ⟨z73, hz73, hf⟩ := rf_bd hf
    refine rf_vi (q0 := 0) (ci := 11) hC (c_X11_sellsOf l E a (rf_upL I [(0, m_thrown), (10, m_trouble), (19, z64.1), (20, z64.2.1), (21, z64.2.2.1)]) (rf_upL A [(7, z64.2.2.2)]) z64.1 z64.2.1 z64.2.2.1 v2 v4 v6 rfl rfl rfl hz73) kV_X11_sellsOf tw_1820 ⟨Nat.le_of_ble_eq_true rfl, Nat.le_of_ble_eq_true rfl⟩ rfl rfl rfl rfl rfl hP (rf_DM hD) hS rfl hl.1 (rest := []) rfl (Nat.le_of_ble_eq_true rfl) dX11_sells_73 (fun H locs hP hS => ?_)
    obtain rfl := Option.some.inj hf
    exact rf_reti hC hP hS rfl rfl dX11_sells_76
  have hf := rf_ie c_45 hf
  refine lv_aload_n hx hb dX11_sells_48 rfl (lv_at hl 0 rfl) ?_
  refine lv_iload hx hb dX11_sells_49 (lv_at hl 7 rfl) ?_
  obtain ⟨z51, hz51, hf⟩ := rf_bd hf
  refine rf_vi (q0 := 0) (ci := 11) hC (c_X11_no l E a (rf_upL I [(0, m_thrown), (10, m_trouble), (19, m_onlyOne), (20, m_onlyOther), (21, m_either)]) (rf_upL A [(7, m_can)]) m_trouble v7 rfl hz51) kV_X11_no tw_1410 ⟨Nat.le_of_ble_eq_true rfl, Nat.le_of_ble_eq_true rfl⟩ rfl rfl rfl rfl rfl hP (rf_DM hD) hS rfl hl.1 (rest := []) rfl (Nat.le_of_ble_eq_true rfl) dX11_sells_51 (fun H locs hP hS => ?_)
  rw [rf_cat (f := I) (l := [(0, m_thrown), (10, m_trouble), (19, m_onlyOne), (20, m_onlyOther), (21, m_either)]) (lc := [(10, z51.2)]) (l' := [(0, m_thrown), (10, z51.2), (19, m_onlyOne), (20, m_onlyOther), (21, m_either)]) rfl] at hP
  obtain rfl := Option.some.inj hf
  exact rf_reti hC hP hS rfl rfl dX11_sells_54
set_option maxHeartbeats 4000000 in
set_option maxRecDepth 100000 in
theorem w_X11_sells_40 {l : Launch} {p : Program} {e : Env} {s : State} {m : MethodId} {args : Array Value} {below : List Frame} {meth : Method} {c : Code} {A0 : Nat → Prop} {E : rf_E} {a : Nat → Nat} {I : Nat → Int32} {A : Nat → Nat → Int32} {m_hasFerry : Int32} {m_r : Nat → Int32} {m_st : Nat → Int32} {z : Int32 × Int32 × Int32 × Int32 × Int32 × Int32 × (Nat → Int32)} (hC : rf_C p E s m args meth c cX11_sells 8 RX11 (some .int) A0) (hD : va_D A0 (cM E a I A)) (e_m_hasFerry : I 12 = m_hasFerry) (e_m_r : A 2 = m_r) (e_m_st : A 4 = m_st) :
    ∀ (v1 : Int32) (v2 : Int32) (v3 : Int32) (v4 : Int32) (v5 : Int32) (v6 : Int32) (m_thrown : Int32) (m_trouble : Int32) (m_onlyOne : Int32) (m_onlyOther : Int32) (m_either : Int32) (m_can : Nat → Int32), f_X11_sells_40 m_hasFerry m_r m_st v1 v2 v3 v4 v5 v6 m_thrown m_trouble m_onlyOne m_onlyOther m_either m_can = some z → ∀ (H : Heap) (locs : List Loc) (ls : Array Slot), va_P (rf_D E) vwCl (cM E a (rf_upL I [(0, m_thrown), (10, m_trouble), (19, m_onlyOne), (20, m_onlyOther), (21, m_either)]) (rf_upL A [(7, m_can)])) H → va_S A0 s.heap H locs → lv_has ls 8 [(0, .ref (a 0)), (1, .int v1), (2, .int v2), (3, .int v3), (4, .int v4), (5, .int v5), (6, .int v6)] → W p l e ({ frames := 7, cells := 0, slots := 0, locals := 177 }) s m args below meth c H locs 0 0 (rf_QI below args s E A0 z.1 (cM E a (rf_upL I [(0, z.2.1), (10, z.2.2.1), (19, z.2.2.2.1), (20, z.2.2.2.2.1), (21, z.2.2.2.2.2.1)]) (rf_upL A [(7, z.2.2.2.2.2.2)]))) (F0 m 40 ls []) := by
  have hx := hC.1
  have hb := hC.2.1
  intro v1 v2 v3 v4 v5 v6 m_thrown m_trouble m_onlyOne m_onlyOther m_either m_can hf H locs ls hP hS hl
  unfold f_X11_sells_40 at hf
  refine lv_iconst (v := 2) hx hb dX11_sells_40 (by decide) ?_
  refine lv_istore (lv' := [(7, .int 2), (0, .ref (a 0)), (1, .int v1), (2, .int v2), (3, .int v3), (4, .int v4), (5, .int v5), (6, .int v6)]) hx hb dX11_sells_41 hl (by decide) rfl (fun ls hl => ?_)
  exact w_X11_sells_43 hC hD e_m_hasFerry e_m_r e_m_st v1 v2 v3 v4 v5 v6 2 m_thrown m_trouble m_onlyOne m_onlyOther m_either m_can hf _ _ _ hP hS (lv_sub hl [1, 2, 3, 4, 5, 6, 7, 0] rfl)
set_option maxHeartbeats 4000000 in
set_option maxRecDepth 100000 in
theorem c_X11_sells (l : Launch) (E : rf_E) (a : Nat → Nat) (I : Nat → Int32) (A : Nat → Nat → Int32) (m_hasFerry : Int32) (m_r : Nat → Int32) (m_st : Nat → Int32) (m_thrown : Int32) (m_trouble : Int32) (m_onlyOne : Int32) (m_onlyOther : Int32) (m_either : Int32) (m_can : Nat → Int32) (v1 : Int32) (v2 : Int32) (v3 : Int32) (v4 : Int32) (v5 : Int32) (v6 : Int32) {z : Int32 × Int32 × Int32 × Int32 × Int32 × Int32 × (Nat → Int32)} (e_m_hasFerry : I 12 = m_hasFerry) (e_m_r : A 2 = m_r) (e_m_st : A 4 = m_st) (e_m_thrown : I 0 = m_thrown) (e_m_trouble : I 10 = m_trouble) (e_m_onlyOne : I 19 = m_onlyOne) (e_m_onlyOther : I 20 = m_onlyOther) (e_m_either : I 21 = m_either) (e_m_can : A 7 = m_can) (hf : f_X11_sells m_hasFerry m_r m_st m_thrown m_trouble m_onlyOne m_onlyOther m_either m_can v1 v2 v3 v4 v5 v6 = some z) : rf_MI l yX11_sells cX11_sells 8 (some .int) ({ frames := 7, cells := 0, slots := 0, locals := 177 }) E [.ref (a 0), .int v1, .int v2, .int v3, .int v4, .int v5, .int v6] (cM E a I A) z.1 (cM E a (rf_upL I [(0, z.2.1), (10, z.2.2.1), (19, z.2.2.2.1), (20, z.2.2.2.2.1), (21, z.2.2.2.2.2.1)]) (rf_upL A [(7, z.2.2.2.2.2.2)])) := by
  unfold f_X11_sells at hf
  refine rf_ofI (by decide) (Nat.le_of_ble_eq_true rfl) ?_
  intro p e s m below meth c A0 ls hC hD hP hS hl
  have hC : rf_C p E s m _ meth c cX11_sells 8 RX11 (some .int) A0 := hC
  have hx := hC.1
  have hb := hC.2.1
  have hl : lv_has ls 8 [(0, .ref (a 0)), (1, .int v1), (2, .int v2), (3, .int v3), (4, .int v4), (5, .int v5), (6, .int v6)] := hl
  have hP : va_P (rf_D E) vwCl (cM E a (rf_upL I [(0, m_thrown), (10, m_trouble), (19, m_onlyOne), (20, m_onlyOther), (21, m_either)]) (rf_upL A [(7, m_can)])) s.heap := by
    rw [rf_self (f := I) [(0, m_thrown), (10, m_trouble), (19, m_onlyOne), (20, m_onlyOther), (21, m_either)] (rf_fa1 e_m_thrown (rf_fa1 e_m_trouble (rf_fa1 e_m_onlyOne (rf_fa1 e_m_onlyOther (rf_fa1 e_m_either rf_fa0)))))]
    rw [rf_self (f := A) [(7, m_can)] (rf_fa1 e_m_can rf_fa0)]
    exact hP
  refine lv_aload_n hx hb dX11_sells_0 rfl (lv_at hl 0 rfl) ?_
  obtain ⟨z1, hz1, hf⟩ := rf_bd hf
  refine rf_vv (q0 := 0) (ci := 11) hC (c_X11_good l E a (rf_upL I [(0, m_thrown), (10, m_trouble), (19, m_onlyOne), (20, m_onlyOther), (21, m_either)]) (rf_upL A [(7, m_can)]) m_thrown m_trouble rfl rfl hz1) kV_X11_good tw_1403 ⟨Nat.le_of_ble_eq_true rfl, Nat.le_of_ble_eq_true rfl⟩ rfl rfl rfl rfl rfl hP (rf_DM hD) hS rfl hl.1 (rest := []) rfl (Nat.le_of_ble_eq_true rfl) dX11_sells_1 (fun H locs hP hS => ?_)
  rw [rf_cat (f := I) (l := [(0, m_thrown), (10, m_trouble), (19, m_onlyOne), (20, m_onlyOther), (21, m_either)]) (lc := [(0, z1.1), (10, z1.2)]) (l' := [(0, z1.1), (10, z1.2), (19, m_onlyOne), (20, m_onlyOther), (21, m_either)]) rfl] at hP
  refine lv_aload_n hx hb dX11_sells_4 rfl (lv_at hl 0 rfl) ?_
  refine lv_iload_n hx hb dX11_sells_5 rfl (lv_at hl 1 rfl) ?_
  refine lv_iload_n hx hb dX11_sells_6 rfl (lv_at hl 3 rfl) ?_
  refine lv_iload hx hb dX11_sells_7 (lv_at hl 5 rfl) ?_
  obtain ⟨z9, hz9, hf⟩ := rf_bd hf
  refine rf_vi (q0 := 0) (ci := 11) hC (c_X11_sellersWhy l E a (rf_upL I [(0, z1.1), (10, z1.2), (19, m_onlyOne), (20, m_onlyOther), (21, m_either)]) (rf_upL A [(7, m_can)]) m_hasFerry m_r v1 v3 v5 e_m_hasFerry e_m_r hz9) kV_X11_sellersWhy tw_1812 ⟨Nat.le_of_ble_eq_true rfl, Nat.le_of_ble_eq_true rfl⟩ rfl rfl rfl rfl rfl hP (rf_DM hD) hS rfl hl.1 (rest := []) rfl (Nat.le_of_ble_eq_true rfl) dX11_sells_9 (fun H locs hP hS => ?_)
  refine lv_istore (lv' := [(7, .int z9), (0, .ref (a 0)), (1, .int v1), (2, .int v2), (3, .int v3), (4, .int v4), (5, .int v5), (6, .int v6)]) hx hb dX11_sells_12 hl (by decide) rfl (fun ls hl => ?_)
  refine lv_iload hx hb dX11_sells_14 (lv_at hl 0 rfl) ?_
  refine lv_if_ne (tgt := 43) hx hb dX11_sells_16 (by decide) (fun c_16 => ?_) (fun c_16 => ?_)
  · have hf := rf_ie c_16 hf
    exact w_X11_sells_43 hC hD e_m_hasFerry e_m_r e_m_st v1 v2 v3 v4 v5 v6 z9 z1.1 z1.2 m_onlyOne m_onlyOther m_either m_can hf _ _ _ hP hS (lv_sub hl [1, 2, 3, 4, 5, 6, 7, 0] rfl)
  have hf := rf_it c_16 hf
  refine lv_iload_n hx hb dX11_sells_19 rfl (lv_at hl 3 rfl) ?_
  refine lv_iconst (v := 0) hx hb dX11_sells_20 (by decide) ?_
  refine lv_bipush (v := 9) hx hb dX11_sells_21 (by decide) ?_
  obtain ⟨z23, hz23, hf⟩ := rf_bd hf
  refine rf_si0 hC (c_X11_in l E v2 0 9 hz23) kS_X11_in tw_1407 ⟨Nat.le_of_ble_eq_true rfl, Nat.le_of_ble_eq_true rfl⟩ rfl rfl hP hS rfl hl.1 (rest := []) rfl (Nat.le_of_ble_eq_true rfl) dX11_sells_23 (fun H locs hP hS => ?_)
  refine lv_if_eq (tgt := 40) hx hb dX11_sells_26 (by decide) (fun c_26 => ?_) (fun c_26 => ?_)
  · have hf := rf_it c_26 hf
    exact w_X11_sells_40 hC hD e_m_hasFerry e_m_r e_m_st v1 v2 v3 v4 v5 v6 z1.1 z1.2 m_onlyOne m_onlyOther m_either m_can hf _ _ _ hP hS (lv_sub hl [1, 2, 3, 4, 5, 6, 7] rfl)
  have hf := rf_ie c_26 hf
  refine lv_iload hx hb dX11_sells_29 (lv_at hl 5 rfl) ?_
  refine lv_iconst (v := 0) hx hb dX11_sells_31 (by decide) ?_
  refine lv_bipush (v := 9) hx hb dX11_sells_32 (by decide) ?_
  obtain ⟨z34, hz34, hf⟩ := rf_bd hf
  refine rf_si0 hC (c_X11_in l E v4 0 9 hz34) kS_X11_in tw_1407 ⟨Nat.le_of_ble_eq_true rfl, Nat.le_of_ble_eq_true rfl⟩ rfl rfl hP hS rfl hl.1 (rest := []) rfl (Nat.le_of_ble_eq_true rfl) dX11_sells_34 (fun H locs hP hS => ?_)
  refine lv_if_ne (tgt := 43) hx hb dX11_sells_37 (by decide) (fun c_37 => ?_) (fun c_37 => ?_)
  · have hf := rf_ie c_37 hf
    exact w_X11_sells_43 hC hD e_m_hasFerry e_m_r e_m_st v1 v2 v3 v4 v5 v6 z9 z1.1 z1.2 m_onlyOne m_onlyOther m_either m_can hf _ _ _ hP hS (lv_sub hl [1, 2, 3, 4, 5, 6, 7, 0] rfl)
  have hf := rf_it c_37 hf
  exact w_X11_sells_40 hC hD e_m_hasFerry e_m_r e_m_st v1 v2 v3 v4 v5 v6 z1.1 z1.2 m_onlyOne m_onlyOther m_either m_can hf _ _ _ hP hS (lv_sub hl [1, 2, 3, 4, 5, 6, 7] rfl)
set_option maxHeartbeats 4000000 in
set_option maxRecDepth 100000 in
theorem w_X11_isRest_57 {l : Launch} {p : Program} {e : Env} {s : State} {m : MethodId} {args : Array Value} {below : List Frame} {meth : Method} {c : Code} {A0 : Nat → Prop} {E : rf_E} {a : Nat → Nat} {I : Nat → Int32} {A : Nat → Nat → Int32} {m_onlyOne : Int32} {m_onlyOther : Int32} {m_either : Int32} {z : Int32} (hC : rf_C p E s m args meth c cX11_isRest 5 RX11 (some .boolean) A0) (hD : va_D A0 (cM E a I A)) (e_m_onlyOne : I 19 = m_onlyOne) (e_m_onlyOther : I 20 = m_onlyOther) (e_m_either : I 21 = m_either) {k5 : Int32 → Int32 → Int32 → Int32 → Option (Int32)} (hk5 : ∀ (v1 : Int32) (v2 : Int32) (v3 : Int32) (v4 : Int32), k5 v1 v2 v3 v4 = some z → ∀ (H : Heap) (locs : List Loc) (ls : Array Slot), va_P (rf_D E) vwCl (cM E a I A) H → va_S A0 s.heap H locs → lv_has ls 5 [(0, .ref (a 0)), (1, .int v1), (2, .int v2), (3, .int v3), (4, .int v4)] → W p l e ({ frames := 1, cells := 0, slots := 0, locals := 23 }) s m args below meth c H locs 0 0 (rf_QI below args s E A0 z (cM E a I A)) (F0 m 5 ls [])) :
    ∀ (v1 : Int32) (v2 : Int32) (v4 : Int32) (s0 : Int32), f_X11_isRest_57 k5 m_onlyOne m_onlyOther m_either v1 v2 v4 s0 = some z → ∀ (H : Heap) (locs : List Loc) (ls : Array Slot), va_P (rf_D E) vwCl (cM E a I A) H → va_S A0 s.heap H locs → lv_has ls 5 [(0, .ref (a 0)), (1, .int v1), (2, .int v2), (4, .int v4)] → W p l e ({ frames := 1, cells := 0, slots := 0, locals := 23 }) s m args below meth c H locs 0 0 (rf_QI below args s E A0 z (cM E a I A)) (F0 m 57 ls [.int s0]) := by
  have hx := hC.1
  have hb := hC.2.1
  intro v1 v2 v4 s0 hf H locs ls hP hS hl
  unfold f_X11_isRest_57 at hf
  refine lv_istore_n (lv' := [(3, .int s0), (0, .ref (a 0)), (1, .int v1), (2, .int v2), (4, .int v4)]) hx hb dX11_isRest_57 rfl hl (by decide) rfl (fun ls hl => ?_)
  refine lv_iinc (v := v4 + 1) (lv' := [(4, .int (v4 + 1)), (3, .int s0), (0, .ref (a 0)), (1, .int v1), (2, .int v2)]) hx hb dX11_isRest_58 hl (k := 4) rfl rfl (by decide) rfl (fun ls hl => ?_)
  refine lv_goto (tgt := 5) hx hb dX11_isRest_61 (by decide) ?_
  exact hk5 v1 v2 s0 (v4 + 1) hf _ _ _ hP hS (lv_sub hl [2, 3, 4, 1, 0] rfl)
set_option maxHeartbeats 4000000 in
set_option maxRecDepth 100000 in
theorem w_X11_isRest_56 {l : Launch} {p : Program} {e : Env} {s : State} {m : MethodId} {args : Array Value} {below : List Frame} {meth : Method} {c : Code} {A0 : Nat → Prop} {E : rf_E} {a : Nat → Nat} {I : Nat → Int32} {A : Nat → Nat → Int32} {m_onlyOne : Int32} {m_onlyOther : Int32} {m_either : Int32} {z : Int32} (hC : rf_C p E s m args meth c cX11_isRest 5 RX11 (some .boolean) A0) (hD : va_D A0 (cM E a I A)) (e_m_onlyOne : I 19 = m_onlyOne) (e_m_onlyOther : I 20 = m_onlyOther) (e_m_either : I 21 = m_either) {k5 : Int32 → Int32 → Int32 → Int32 → Option (Int32)} (hk5 : ∀ (v1 : Int32) (v2 : Int32) (v3 : Int32) (v4 : Int32), k5 v1 v2 v3 v4 = some z → ∀ (H : Heap) (locs : List Loc) (ls : Array Slot), va_P (rf_D E) vwCl (cM E a I A) H → va_S A0 s.heap H locs → lv_has ls 5 [(0, .ref (a 0)), (1, .int v1), (2, .int v2), (3, .int v3), (4, .int v4)] → W p l e ({ frames := 1, cells := 0, slots := 0, locals := 23 }) s m args below meth c H locs 0 0 (rf_QI below args s E A0 z (cM E a I A)) (F0 m 5 ls [])) :
    ∀ (v1 : Int32) (v2 : Int32) (v4 : Int32), f_X11_isRest_56 k5 m_onlyOne m_onlyOther m_either v1 v2 v4 = some z → ∀ (H : Heap) (locs : List Loc) (ls : Array Slot), va_P (rf_D E) vwCl (cM E a I A) H → va_S A0 s.heap H locs → lv_has ls 5 [(0, .ref (a 0)), (1, .int v1), (2, .int v2), (4, .int v4)] → W p l e ({ frames := 1, cells := 0, slots := 0, locals := 23 }) s m args below meth c H locs 0 0 (rf_QI below args s E A0 z (cM E a I A)) (F0 m 56 ls []) := by
  have hx := hC.1
  have hb := hC.2.1
  intro v1 v2 v4 hf H locs ls hP hS hl
  unfold f_X11_isRest_56 at hf
  refine lv_iconst (v := 0) hx hb dX11_isRest_56 (by decide) ?_
  exact w_X11_isRest_57 hC hD e_m_onlyOne e_m_onlyOther e_m_either hk5 v1 v2 v4 0 hf _ _ _ hP hS (lv_sub hl [0, 1, 2, 3] rfl)
set_option maxHeartbeats 4000000 in
set_option maxRecDepth 100000 in
theorem w_X11_isRest_5 {l : Launch} {p : Program} {e : Env} {s : State} {m : MethodId} {args : Array Value} {below : List Frame} {meth : Method} {c : Code} {A0 : Nat → Prop} {E : rf_E} {a : Nat → Nat} {I : Nat → Int32} {A : Nat → Nat → Int32} {m_onlyOne : Int32} {m_onlyOther : Int32} {m_either : Int32} {z : Int32} (hC : rf_C p E s m args meth c cX11_isRest 5 RX11 (some .boolean) A0) (hD : va_D A0 (cM E a I A)) (e_m_onlyOne : I 19 = m_onlyOne) (e_m_onlyOther : I 20 = m_onlyOther) (e_m_either : I 21 = m_either) :
    ∀ (n : Nat), ∀ (v1 : Int32) (v2 : Int32) (v3 : Int32) (v4 : Int32), f_X11_isRest_5 m_onlyOne m_onlyOther m_either n v1 v2 v3 v4 = some z → ∀ (H : Heap) (locs : List Loc) (ls : Array Slot), va_P (rf_D E) vwCl (cM E a I A) H → va_S A0 s.heap H locs → lv_has ls 5 [(0, .ref (a 0)), (1, .int v1), (2, .int v2), (3, .int v3), (4, .int v4)] → W p l e ({ frames := 1, cells := 0, slots := 0, locals := 23 }) s m args below meth c H locs 0 0 (rf_QI below args s E A0 z (cM E a I A)) (F0 m 5 ls []) := by
  have hx := hC.1
  have hb := hC.2.1
  intro n
  induction n with
  | zero =>
    intro v1 v2 v3 v4 hf
    have hf : (none : Option (Int32)) = some z := hf
    cases hf
  | succ n ih =>
    intro v1 v2 v3 v4 hf H locs ls hP hS hl
    rw [f_X11_isRest_5] at hf
    refine lv_iload hx hb dX11_isRest_5 (lv_at hl 4 rfl) ?_
    refine lv_bipush (v := 9) hx hb dX11_isRest_7 (by decide) ?_
    refine lv_icmp_gt (tgt := 64) hx hb dX11_isRest_9 (by decide) (fun c_9 => ?_) (fun c_9 => ?_)
    · have hf := rf_it c_9 hf
      refine lv_iload_n hx hb dX11_isRest_64 rfl (lv_at hl 3 rfl) ?_
      obtain ⟨hz_65, hf⟩ := rf_gu hf
      obtain rfl := Option.some.inj hf
      exact rf_retz hC hP hS hz_65 rfl rfl dX11_isRest_65
    have hf := rf_ie c_9 hf
    refine lv_iload_n hx hb dX11_isRest_12 rfl (lv_at hl 3 rfl) ?_
    refine lv_if_eq (tgt := 56) hx hb dX11_isRest_13 (by decide) (fun c_13 => ?_) (fun c_13 => ?_)
    · have hf := rf_it c_13 hf
      exact w_X11_isRest_56 hC hD e_m_onlyOne e_m_onlyOther e_m_either ih v1 v2 v4 hf _ _ _ hP hS (lv_sub hl [0, 1, 2, 4] rfl)
    have hf := rf_ie c_13 hf
    refine lv_aload_n hx hb dX11_isRest_16 rfl (lv_at hl 0 rfl) ?_
    refine lv_iload hx hb dX11_isRest_17 (lv_at hl 4 rfl) ?_
    refine lv_iload_n hx hb dX11_isRest_19 rfl (lv_at hl 2 rfl) ?_
    refine lv_iconst (v := 0) hx hb dX11_isRest_20 (by decide) ?_
    obtain ⟨z21, hz21, hf⟩ := rf_bd hf
    refine rf_vi (q0 := 0) (ci := 11) hC (c_X11_sellsOf l E a I A m_onlyOne m_onlyOther m_either v4 v2 0 e_m_onlyOne e_m_onlyOther e_m_either hz21) kV_X11_sellsOf tw_1820 ⟨Nat.le_of_ble_eq_true rfl, Nat.le_of_ble_eq_true rfl⟩ rfl rfl rfl rfl rfl hP (rf_DM hD) hS rfl hl.1 (rest := []) rfl (Nat.le_of_ble_eq_true rfl) dX11_isRest_21 (fun H locs hP hS => ?_)
    refine lv_aload_n hx hb dX11_isRest_24 rfl (lv_at hl 0 rfl) ?_
    refine lv_iload_n hx hb dX11_isRest_25 rfl (lv_at hl 1 rfl) ?_
    refine lv_iload_n hx hb dX11_isRest_26 rfl (lv_at hl 2 rfl) ?_
    refine lv_iconst (v := 0) hx hb dX11_isRest_27 (by decide) ?_
    obtain ⟨z28, hz28, hf⟩ := rf_bd hf
    refine rf_vi (q0 := 0) (ci := 11) hC (c_X11_sellsOf l E a I A m_onlyOne m_onlyOther m_either v1 v2 0 e_m_onlyOne e_m_onlyOther e_m_either hz28) kV_X11_sellsOf tw_1820 ⟨Nat.le_of_ble_eq_true rfl, Nat.le_of_ble_eq_true rfl⟩ rfl rfl rfl rfl rfl hP (rf_DM hD) hS rfl hl.1 (rest := [.int z21]) rfl (Nat.le_of_ble_eq_true rfl) dX11_isRest_28 (fun H locs hP hS => ?_)
    refine lv_icmp_gt (tgt := 56) hx hb dX11_isRest_31 (by decide) (fun c_31 => ?_) (fun c_31 => ?_)
    · have hf := rf_it c_31 hf
      exact w_X11_isRest_56 hC hD e_m_onlyOne e_m_onlyOther e_m_either ih v1 v2 v4 hf _ _ _ hP hS (lv_sub hl [0, 1, 2, 4] rfl)
    have hf := rf_ie c_31 hf
    refine lv_aload_n hx hb dX11_isRest_34 rfl (lv_at hl 0 rfl) ?_
    refine lv_iload_n hx hb dX11_isRest_35 rfl (lv_at hl 1 rfl) ?_
    refine lv_iload hx hb dX11_isRest_36 (lv_at hl 4 rfl) ?_
    refine lv_iconst (v := 1) hx hb dX11_isRest_38 (by decide) ?_
    obtain ⟨z39, hz39, hf⟩ := rf_bd hf
    refine rf_vi (q0 := 0) (ci := 11) hC (c_X11_sellsOf l E a I A m_onlyOne m_onlyOther m_either v1 v4 1 e_m_onlyOne e_m_onlyOther e_m_either hz39) kV_X11_sellsOf tw_1820 ⟨Nat.le_of_ble_eq_true rfl, Nat.le_of_ble_eq_true rfl⟩ rfl rfl rfl rfl rfl hP (rf_DM hD) hS rfl hl.1 (rest := []) rfl (Nat.le_of_ble_eq_true rfl) dX11_isRest_39 (fun H locs hP hS => ?_)
    refine lv_aload_n hx hb dX11_isRest_42 rfl (lv_at hl 0 rfl) ?_
    refine lv_iload_n hx hb dX11_isRest_43 rfl (lv_at hl 1 rfl) ?_
    refine lv_iload_n hx hb dX11_isRest_44 rfl (lv_at hl 2 rfl) ?_
    refine lv_iconst (v := 1) hx hb dX11_isRest_45 (by decide) ?_
    obtain ⟨z46, hz46, hf⟩ := rf_bd hf
    refine rf_vi (q0 := 0) (ci := 11) hC (c_X11_sellsOf l E a I A m_onlyOne m_onlyOther m_either v1 v2 1 e_m_onlyOne e_m_onlyOther e_m_either hz46) kV_X11_sellsOf tw_1820 ⟨Nat.le_of_ble_eq_true rfl, Nat.le_of_ble_eq_true rfl⟩ rfl rfl rfl rfl rfl hP (rf_DM hD) hS rfl hl.1 (rest := [.int z39]) rfl (Nat.le_of_ble_eq_true rfl) dX11_isRest_46 (fun H locs hP hS => ?_)
    refine lv_icmp_gt (tgt := 56) hx hb dX11_isRest_49 (by decide) (fun c_49 => ?_) (fun c_49 => ?_)
    · have hf := rf_it c_49 hf
      exact w_X11_isRest_56 hC hD e_m_onlyOne e_m_onlyOther e_m_either ih v1 v2 v4 hf _ _ _ hP hS (lv_sub hl [0, 1, 2, 4] rfl)
    have hf := rf_ie c_49 hf
    refine lv_iconst (v := 1) hx hb dX11_isRest_52 (by decide) ?_
    refine lv_goto (tgt := 57) hx hb dX11_isRest_53 (by decide) ?_
    exact w_X11_isRest_57 hC hD e_m_onlyOne e_m_onlyOther e_m_either ih v1 v2 v4 1 hf _ _ _ hP hS (lv_sub hl [0, 1, 2, 4] rfl)
set_option maxHeartbeats 4000000 in
set_option maxRecDepth 100000 in
theorem c_X11_isRest (l : Launch) (E : rf_E) (a : Nat → Nat) (I : Nat → Int32) (A : Nat → Nat → Int32) (m_onlyOne : Int32) (m_onlyOther : Int32) (m_either : Int32) (v1 : Int32) (v2 : Int32) {z : Int32} (e_m_onlyOne : I 19 = m_onlyOne) (e_m_onlyOther : I 20 = m_onlyOther) (e_m_either : I 21 = m_either) (hf : f_X11_isRest m_onlyOne m_onlyOther m_either v1 v2 = some z) : rf_MI l yX11_isRest cX11_isRest 5 (some .boolean) ({ frames := 1, cells := 0, slots := 0, locals := 23 }) E [.ref (a 0), .int v1, .int v2] (cM E a I A) z (cM E a I A) := by
  unfold f_X11_isRest at hf
  refine rf_ofI (by decide) (Nat.le_of_ble_eq_true rfl) ?_
  intro p e s m below meth c A0 ls hC hD hP hS hl
  have hC : rf_C p E s m _ meth c cX11_isRest 5 RX11 (some .boolean) A0 := hC
  have hx := hC.1
  have hb := hC.2.1
  have hl : lv_has ls 5 [(0, .ref (a 0)), (1, .int v1), (2, .int v2)] := hl
  refine lv_iconst (v := 1) hx hb dX11_isRest_0 (by decide) ?_
  refine lv_istore_n (lv' := [(3, .int 1), (0, .ref (a 0)), (1, .int v1), (2, .int v2)]) hx hb dX11_isRest_1 rfl hl (by decide) rfl (fun ls hl => ?_)
  refine lv_iconst (v := 0) hx hb dX11_isRest_2 (by decide) ?_
  refine lv_istore (lv' := [(4, .int 0), (3, .int 1), (0, .ref (a 0)), (1, .int v1), (2, .int v2)]) hx hb dX11_isRest_3 hl (by decide) rfl (fun ls hl => ?_)
  exact w_X11_isRest_5 hC hD e_m_onlyOne e_m_onlyOther e_m_either rf_fu v1 v2 1 0 hf _ _ _ hP hS (lv_sub hl [2, 3, 4, 1, 0] rfl)
set_option maxHeartbeats 4000000 in
set_option maxRecDepth 100000 in
theorem w_X11_seekRests_70 {l : Launch} {p : Program} {e : Env} {s : State} {m : MethodId} {args : Array Value} {below : List Frame} {meth : Method} {c : Code} {A0 : Nat → Prop} {E : rf_E} {a : Nat → Nat} {I : Nat → Int32} {A : Nat → Nat → Int32} {m_r : Nat → Int32} {m_st : Nat → Int32} {z : Int32 × Int32 × Int32 × Int32 × Int32 × (Nat → Int32)} (hC : rf_C p E s m args meth c cX11_seekRests 7 RX11 (some .int) A0) (hD : va_D A0 (cM E a I A)) (e_m_r : A 2 = m_r) (e_m_st : A 4 = m_st) {k19 : Int32 → Int32 → Int32 → Int32 → Int32 → Int32 → (Nat → Int32) → Option (Int32 × Int32 × Int32 × Int32 × Int32 × (Nat → Int32))} (hk19 : ∀ (v4 : Int32) (v5 : Int32) (m_onlyOne : Int32) (m_onlyOther : Int32) (m_either : Int32) (m_firstRest : Int32) (m_can : Nat → Int32), k19 v4 v5 m_onlyOne m_onlyOther m_either m_firstRest m_can = some z → ∀ (H : Heap) (locs : List Loc) (ls : Array Slot), va_P (rf_D E) vwCl (cM E a (rf_upL I [(19, m_onlyOne), (20, m_onlyOther), (21, m_either), (22, m_firstRest)]) (rf_upL A [(7, m_can)])) H → va_S A0 s.heap H locs → lv_has ls 7 [(0, .ref (a 0)), (4, .int v4), (5, .int v5)] → W p l e ({ frames := 7, cells := 0, slots := 0, locals := 177 }) s m args below meth c H locs 0 0 (rf_QI below args s E A0 z.1 (cM E a (rf_upL I [(19, z.2.1), (20, z.2.2.1), (21, z.2.2.2.1), (22, z.2.2.2.2.1)]) (rf_upL A [(7, z.2.2.2.2.2)]))) (F0 m 19 ls [])) {k29 : Int32 → Int32 → Int32 → Int32 → Int32 → Int32 → Int32 → (Nat → Int32) → Option (Int32 × Int32 × Int32 × Int32 × Int32 × (Nat → Int32))} (hk29 : ∀ (v4 : Int32) (v5 : Int32) (v6 : Int32) (m_onlyOne : Int32) (m_onlyOther : Int32) (m_either : Int32) (m_firstRest : Int32) (m_can : Nat → Int32), k29 v4 v5 v6 m_onlyOne m_onlyOther m_either m_firstRest m_can = some z → ∀ (H : Heap) (locs : List Loc) (ls : Array Slot), va_P (rf_D E) vwCl (cM E a (rf_upL I [(19, m_onlyOne), (20, m_onlyOther), (21, m_either), (22, m_firstRest)]) (rf_upL A [(7, m_can)])) H → va_S A0 s.heap H locs → lv_has ls 7 [(0, .ref (a 0)), (4, .int v4), (5, .int v5), (6, .int v6)] → W p l e ({ frames := 7, cells := 0, slots := 0, locals := 177 }) s m args below meth c H locs 0 0 (rf_QI below args s E A0 z.1 (cM E a (rf_upL I [(19, z.2.1), (20, z.2.2.1), (21, z.2.2.2.1), (22, z.2.2.2.2.1)]) (rf_upL A [(7, z.2.2.2.2.2)]))) (F0 m 29 ls [])) :
    ∀ (v4 : Int32) (v5 : Int32) (v6 : Int32) (m_onlyOne : Int32) (m_onlyOther : Int32) (m_either : Int32) (m_firstRest : Int32) (m_can : Nat → Int32), f_X11_seekRests_70 k19 k29 m_r m_st v4 v5 v6 m_onlyOne m_onlyOther m_either m_firstRest m_can = some z → ∀ (H : Heap) (locs : List Loc) (ls : Array Slot), va_P (rf_D E) vwCl (cM E a (rf_upL I [(19, m_onlyOne), (20, m_onlyOther), (21, m_either), (22, m_firstRest)]) (rf_upL A [(7, m_can)])) H → va_S A0 s.heap H locs → lv_has ls 7 [(0, .ref (a 0)), (4, .int v4), (5, .int v5), (6, .int v6)] → W p l e ({ frames := 7, cells := 0, slots := 0, locals := 177 }) s m args below meth c H locs 0 0 (rf_QI below args s E A0 z.1 (cM E a (rf_upL I [(19, z.2.1), (20, z.2.2.1), (21, z.2.2.2.1), (22, z.2.2.2.2.1)]) (rf_upL A [(7, z.2.2.2.2.2)]))) (F0 m 70 ls []) := by
  have hx := hC.1
  have hb := hC.2.1
  intro v4 v5 v6 m_onlyOne m_onlyOther m_either m_firstRest m_can hf H locs ls hP hS hl
  unfold f_X11_seekRests_70 at hf
  refine lv_iinc (v := v6 + 1) (lv' := [(6, .int (v6 + 1)), (0, .ref (a 0)), (4, .int v4), (5, .int v5)]) hx hb dX11_seekRests_70 hl (k := 3) rfl rfl (by decide) rfl (fun ls hl => ?_)
  refine lv_goto (tgt := 29) hx hb dX11_seekRests_73 (by decide) ?_
  exact hk29 v4 v5 (v6 + 1) m_onlyOne m_onlyOther m_either m_firstRest m_can hf _ _ _ hP hS (lv_sub hl [1, 2, 3, 0] rfl)
set_option maxHeartbeats 4000000 in
set_option maxRecDepth 100000 in
theorem w_X11_seekRests_67 {l : Launch} {p : Program} {e : Env} {s : State} {m : MethodId} {args : Array Value} {below : List Frame} {meth : Method} {c : Code} {A0 : Nat → Prop} {E : rf_E} {a : Nat → Nat} {I : Nat → Int32} {A : Nat → Nat → Int32} {m_r : Nat → Int32} {m_st : Nat → Int32} {z : Int32 × Int32 × Int32 × Int32 × Int32 × (Nat → Int32)} (hC : rf_C p E s m args meth c cX11_seekRests 7 RX11 (some .int) A0) (hD : va_D A0 (cM E a I A)) (e_m_r : A 2 = m_r) (e_m_st : A 4 = m_st) {k19 : Int32 → Int32 → Int32 → Int32 → Int32 → Int32 → (Nat → Int32) → Option (Int32 × Int32 × Int32 × Int32 × Int32 × (Nat → Int32))} (hk19 : ∀ (v4 : Int32) (v5 : Int32) (m_onlyOne : Int32) (m_onlyOther : Int32) (m_either : Int32) (m_firstRest : Int32) (m_can : Nat → Int32), k19 v4 v5 m_onlyOne m_onlyOther m_either m_firstRest m_can = some z → ∀ (H : Heap) (locs : List Loc) (ls : Array Slot), va_P (rf_D E) vwCl (cM E a (rf_upL I [(19, m_onlyOne), (20, m_onlyOther), (21, m_either), (22, m_firstRest)]) (rf_upL A [(7, m_can)])) H → va_S A0 s.heap H locs → lv_has ls 7 [(0, .ref (a 0)), (4, .int v4), (5, .int v5)] → W p l e ({ frames := 7, cells := 0, slots := 0, locals := 177 }) s m args below meth c H locs 0 0 (rf_QI below args s E A0 z.1 (cM E a (rf_upL I [(19, z.2.1), (20, z.2.2.1), (21, z.2.2.2.1), (22, z.2.2.2.2.1)]) (rf_upL A [(7, z.2.2.2.2.2)]))) (F0 m 19 ls [])) {k29 : Int32 → Int32 → Int32 → Int32 → Int32 → Int32 → Int32 → (Nat → Int32) → Option (Int32 × Int32 × Int32 × Int32 × Int32 × (Nat → Int32))} (hk29 : ∀ (v4 : Int32) (v5 : Int32) (v6 : Int32) (m_onlyOne : Int32) (m_onlyOther : Int32) (m_either : Int32) (m_firstRest : Int32) (m_can : Nat → Int32), k29 v4 v5 v6 m_onlyOne m_onlyOther m_either m_firstRest m_can = some z → ∀ (H : Heap) (locs : List Loc) (ls : Array Slot), va_P (rf_D E) vwCl (cM E a (rf_upL I [(19, m_onlyOne), (20, m_onlyOther), (21, m_either), (22, m_firstRest)]) (rf_upL A [(7, m_can)])) H → va_S A0 s.heap H locs → lv_has ls 7 [(0, .ref (a 0)), (4, .int v4), (5, .int v5), (6, .int v6)] → W p l e ({ frames := 7, cells := 0, slots := 0, locals := 177 }) s m args below meth c H locs 0 0 (rf_QI below args s E A0 z.1 (cM E a (rf_upL I [(19, z.2.1), (20, z.2.2.1), (21, z.2.2.2.1), (22, z.2.2.2.2.1)]) (rf_upL A [(7, z.2.2.2.2.2)]))) (F0 m 29 ls [])) :
    ∀ (v4 : Int32) (v5 : Int32) (v6 : Int32) (m_onlyOne : Int32) (m_onlyOther : Int32) (m_either : Int32) (m_firstRest : Int32) (m_can : Nat → Int32), f_X11_seekRests_67 k19 k29 m_r m_st v4 v5 v6 m_onlyOne m_onlyOther m_either m_firstRest m_can = some z → ∀ (H : Heap) (locs : List Loc) (ls : Array Slot), va_P (rf_D E) vwCl (cM E a (rf_upL I [(19, m_onlyOne), (20, m_onlyOther), (21, m_either), (22, m_firstRest)]) (rf_upL A [(7, m_can)])) H → va_S A0 s.heap H locs → lv_has ls 7 [(0, .ref (a 0)), (4, .int v4), (5, .int v5), (6, .int v6)] → W p l e ({ frames := 7, cells := 0, slots := 0, locals := 177 }) s m args below meth c H locs 0 0 (rf_QI below args s E A0 z.1 (cM E a (rf_upL I [(19, z.2.1), (20, z.2.2.1), (21, z.2.2.2.1), (22, z.2.2.2.2.1)]) (rf_upL A [(7, z.2.2.2.2.2)]))) (F0 m 67 ls []) := by
  have hx := hC.1
  have hb := hC.2.1
  intro v4 v5 v6 m_onlyOne m_onlyOther m_either m_firstRest m_can hf H locs ls hP hS hl
  unfold f_X11_seekRests_67 at hf
  refine lv_iinc (v := v4 + 1) (lv' := [(4, .int (v4 + 1)), (0, .ref (a 0)), (5, .int v5), (6, .int v6)]) hx hb dX11_seekRests_67 hl (k := 1) rfl rfl (by decide) rfl (fun ls hl => ?_)
  exact w_X11_seekRests_70 hC hD e_m_r e_m_st hk19 hk29 (v4 + 1) v5 v6 m_onlyOne m_onlyOther m_either m_firstRest m_can hf _ _ _ hP hS (lv_sub hl [1, 0, 2, 3] rfl)
set_option maxHeartbeats 4000000 in
set_option maxRecDepth 100000 in
theorem w_X11_seekRests_29 {l : Launch} {p : Program} {e : Env} {s : State} {m : MethodId} {args : Array Value} {below : List Frame} {meth : Method} {c : Code} {A0 : Nat → Prop} {E : rf_E} {a : Nat → Nat} {I : Nat → Int32} {A : Nat → Nat → Int32} {m_r : Nat → Int32} {m_st : Nat → Int32} {z : Int32 × Int32 × Int32 × Int32 × Int32 × (Nat → Int32)} (hC : rf_C p E s m args meth c cX11_seekRests 7 RX11 (some .int) A0) (hD : va_D A0 (cM E a I A)) (e_m_r : A 2 = m_r) (e_m_st : A 4 = m_st) {k19 : Int32 → Int32 → Int32 → Int32 → Int32 → Int32 → (Nat → Int32) → Option (Int32 × Int32 × Int32 × Int32 × Int32 × (Nat → Int32))} (hk19 : ∀ (v4 : Int32) (v5 : Int32) (m_onlyOne : Int32) (m_onlyOther : Int32) (m_either : Int32) (m_firstRest : Int32) (m_can : Nat → Int32), k19 v4 v5 m_onlyOne m_onlyOther m_either m_firstRest m_can = some z → ∀ (H : Heap) (locs : List Loc) (ls : Array Slot), va_P (rf_D E) vwCl (cM E a (rf_upL I [(19, m_onlyOne), (20, m_onlyOther), (21, m_either), (22, m_firstRest)]) (rf_upL A [(7, m_can)])) H → va_S A0 s.heap H locs → lv_has ls 7 [(0, .ref (a 0)), (4, .int v4), (5, .int v5)] → W p l e ({ frames := 7, cells := 0, slots := 0, locals := 177 }) s m args below meth c H locs 0 0 (rf_QI below args s E A0 z.1 (cM E a (rf_upL I [(19, z.2.1), (20, z.2.2.1), (21, z.2.2.2.1), (22, z.2.2.2.2.1)]) (rf_upL A [(7, z.2.2.2.2.2)]))) (F0 m 19 ls [])) :
    ∀ (n : Nat), ∀ (v4 : Int32) (v5 : Int32) (v6 : Int32) (m_onlyOne : Int32) (m_onlyOther : Int32) (m_either : Int32) (m_firstRest : Int32) (m_can : Nat → Int32), f_X11_seekRests_29 k19 m_r m_st n v4 v5 v6 m_onlyOne m_onlyOther m_either m_firstRest m_can = some z → ∀ (H : Heap) (locs : List Loc) (ls : Array Slot), va_P (rf_D E) vwCl (cM E a (rf_upL I [(19, m_onlyOne), (20, m_onlyOther), (21, m_either), (22, m_firstRest)]) (rf_upL A [(7, m_can)])) H → va_S A0 s.heap H locs → lv_has ls 7 [(0, .ref (a 0)), (4, .int v4), (5, .int v5), (6, .int v6)] → W p l e ({ frames := 7, cells := 0, slots := 0, locals := 177 }) s m args below meth c H locs 0 0 (rf_QI below args s E A0 z.1 (cM E a (rf_upL I [(19, z.2.1), (20, z.2.2.1), (21, z.2.2.2.1), (22, z.2.2.2.2.1)]) (rf_upL A [(7, z.2.2.2.2.2)]))) (F0 m 29 ls []) := by
  have hx := hC.1
  have hb := hC.2.1
  intro n
  induction n with
  | zero =>
    intro v4 v5 v6 m_onlyOne m_onlyOther m_either m_firstRest m_can hf
    have hf : (none : Option (Int32 × Int32 × Int32 × Int32 × Int32 × (Nat → Int32))) = some z := hf
    cases hf
  | succ n ih =>
    intro v4 v5 v6 m_onlyOne m_onlyOther m_either m_firstRest m_can hf H locs ls hP hS hl
    rw [f_X11_seekRests_29] at hf
    refine lv_iload hx hb dX11_seekRests_29 (lv_at hl 3 rfl) ?_
    refine lv_bipush (v := 9) hx hb dX11_seekRests_31 (by decide) ?_
    refine lv_icmp_gt (tgt := 76) hx hb dX11_seekRests_33 (by decide) (fun c_33 => ?_) (fun c_33 => ?_)
    · have hf := rf_it c_33 hf
      refine lv_iinc (v := v5 + 1) (lv' := [(5, .int (v5 + 1)), (0, .ref (a 0)), (4, .int v4), (6, .int v6)]) hx hb dX11_seekRests_76 hl (k := 2) rfl rfl (by decide) rfl (fun ls hl => ?_)
      refine lv_goto (tgt := 19) hx hb dX11_seekRests_79 (by decide) ?_
      exact hk19 v4 (v5 + 1) m_onlyOne m_onlyOther m_either m_firstRest m_can hf _ _ _ hP hS (lv_sub hl [1, 2, 0] rfl)
    have hf := rf_ie c_33 hf
    refine lv_aload_n hx hb dX11_seekRests_36 rfl (lv_at hl 0 rfl) ?_
    refine lv_iload hx hb dX11_seekRests_37 (lv_at hl 2 rfl) ?_
    refine lv_iload hx hb dX11_seekRests_39 (lv_at hl 3 rfl) ?_
    obtain ⟨z41, hz41, hf⟩ := rf_bd hf
    refine rf_vi (q0 := 0) (ci := 11) hC (c_X11_isRest l E a (rf_upL I [(19, m_onlyOne), (20, m_onlyOther), (21, m_either), (22, m_firstRest)]) (rf_upL A [(7, m_can)]) m_onlyOne m_onlyOther m_either v5 v6 rfl rfl rfl hz41) kV_X11_isRest tw_1832 ⟨Nat.le_of_ble_eq_true rfl, Nat.le_of_ble_eq_true rfl⟩ rfl rfl rfl rfl rfl hP (rf_DM hD) hS rfl hl.1 (rest := []) rfl (Nat.le_of_ble_eq_true rfl) dX11_seekRests_41 (fun H locs hP hS => ?_)
    refine lv_if_ne (tgt := 50) hx hb dX11_seekRests_44 (by decide) (fun c_44 => ?_) (fun c_44 => ?_)
    · have hf := rf_ie c_44 hf
      refine lv_iload hx hb dX11_seekRests_50 (lv_at hl 1 rfl) ?_
      refine lv_if_ne (tgt := 67) hx hb dX11_seekRests_52 (by decide) (fun c_52 => ?_) (fun c_52 => ?_)
      · have hf := rf_ie c_52 hf
        exact w_X11_seekRests_67 hC hD e_m_r e_m_st hk19 ih v4 v5 v6 m_onlyOne m_onlyOther m_either m_firstRest m_can hf _ _ _ hP hS (lv_sub hl [0, 1, 2, 3] rfl)
      have hf := rf_it c_52 hf
      refine lv_aload_n hx hb dX11_seekRests_55 rfl (lv_at hl 0 rfl) ?_
      refine lv_bipush (v := 10) hx hb dX11_seekRests_56 (by decide) ?_
      refine lv_iload hx hb dX11_seekRests_58 (lv_at hl 2 rfl) ?_
      refine lv_imul hx hb dX11_seekRests_60 ?_
      refine lv_iload hx hb dX11_seekRests_61 (lv_at hl 3 rfl) ?_
      refine lv_iadd hx hb dX11_seekRests_63 ?_
      refine pM_m_firstRest hC hD hP hS tw_1314 dX11_seekRests_64 (rf_upL I [(19, m_onlyOne), (20, m_onlyOther), (21, m_either), (22, ((10 : Int32) * v5) + v6)]) (rf_put rfl) (fun H locs hP hS => ?_)
      exact w_X11_seekRests_67 hC hD e_m_r e_m_st hk19 ih v4 v5 v6 m_onlyOne m_onlyOther m_either (((10 : Int32) * v5) + v6) m_can hf _ _ _ hP hS (lv_sub hl [0, 1, 2, 3] rfl)
    have hf := rf_it c_44 hf
    refine lv_goto (tgt := 70) hx hb dX11_seekRests_47 (by decide) ?_
    exact w_X11_seekRests_70 hC hD e_m_r e_m_st hk19 ih v4 v5 v6 m_onlyOne m_onlyOther m_either m_firstRest m_can hf _ _ _ hP hS (lv_sub hl [0, 1, 2, 3] rfl)
set_option maxHeartbeats 4000000 in
set_option maxRecDepth 100000 in
theorem w_X11_seekRests_19 {l : Launch} {p : Program} {e : Env} {s : State} {m : MethodId} {args : Array Value} {below : List Frame} {meth : Method} {c : Code} {A0 : Nat → Prop} {E : rf_E} {a : Nat → Nat} {I : Nat → Int32} {A : Nat → Nat → Int32} {m_r : Nat → Int32} {m_st : Nat → Int32} {z : Int32 × Int32 × Int32 × Int32 × Int32 × (Nat → Int32)} (hC : rf_C p E s m args meth c cX11_seekRests 7 RX11 (some .int) A0) (hD : va_D A0 (cM E a I A)) (e_m_r : A 2 = m_r) (e_m_st : A 4 = m_st) :
    ∀ (n : Nat), ∀ (v4 : Int32) (v5 : Int32) (m_onlyOne : Int32) (m_onlyOther : Int32) (m_either : Int32) (m_firstRest : Int32) (m_can : Nat → Int32), f_X11_seekRests_19 m_r m_st n v4 v5 m_onlyOne m_onlyOther m_either m_firstRest m_can = some z → ∀ (H : Heap) (locs : List Loc) (ls : Array Slot), va_P (rf_D E) vwCl (cM E a (rf_upL I [(19, m_onlyOne), (20, m_onlyOther), (21, m_either), (22, m_firstRest)]) (rf_upL A [(7, m_can)])) H → va_S A0 s.heap H locs → lv_has ls 7 [(0, .ref (a 0)), (4, .int v4), (5, .int v5)] → W p l e ({ frames := 7, cells := 0, slots := 0, locals := 177 }) s m args below meth c H locs 0 0 (rf_QI below args s E A0 z.1 (cM E a (rf_upL I [(19, z.2.1), (20, z.2.2.1), (21, z.2.2.2.1), (22, z.2.2.2.2.1)]) (rf_upL A [(7, z.2.2.2.2.2)]))) (F0 m 19 ls []) := by
  have hx := hC.1
  have hb := hC.2.1
  intro n
  induction n with
  | zero =>
    intro v4 v5 m_onlyOne m_onlyOther m_either m_firstRest m_can hf
    have hf : (none : Option (Int32 × Int32 × Int32 × Int32 × Int32 × (Nat → Int32))) = some z := hf
    cases hf
  | succ n ih =>
    intro v4 v5 m_onlyOne m_onlyOther m_either m_firstRest m_can hf H locs ls hP hS hl
    rw [f_X11_seekRests_19] at hf
    refine lv_iload hx hb dX11_seekRests_19 (lv_at hl 2 rfl) ?_
    refine lv_bipush (v := 9) hx hb dX11_seekRests_21 (by decide) ?_
    refine lv_icmp_gt (tgt := 82) hx hb dX11_seekRests_23 (by decide) (fun c_23 => ?_) (fun c_23 => ?_)
    · have hf := rf_it c_23 hf
      refine lv_iload hx hb dX11_seekRests_82 (lv_at hl 1 rfl) ?_
      obtain rfl := Option.some.inj hf
      exact rf_reti hC hP hS rfl rfl dX11_seekRests_84
    have hf := rf_ie c_23 hf
    refine lv_iconst (v := 0) hx hb dX11_seekRests_26 (by decide) ?_
    refine lv_istore (lv' := [(6, .int 0), (0, .ref (a 0)), (4, .int v4), (5, .int v5)]) hx hb dX11_seekRests_27 hl (by decide) rfl (fun ls hl => ?_)
    exact w_X11_seekRests_29 hC hD e_m_r e_m_st ih rf_fu v4 v5 0 m_onlyOne m_onlyOther m_either m_firstRest m_can hf _ _ _ hP hS (lv_sub hl [1, 2, 3, 0] rfl)
set_option maxHeartbeats 4000000 in
set_option maxRecDepth 100000 in
theorem c_X11_seekRests (l : Launch) (E : rf_E) (a : Nat → Nat) (I : Nat → Int32) (A : Nat → Nat → Int32) (m_r : Nat → Int32) (m_st : Nat → Int32) (m_onlyOne : Int32) (m_onlyOther : Int32) (m_either : Int32) (m_firstRest : Int32) (m_can : Nat → Int32) (v1 : Int32) (v2 : Int32) (v3 : Int32) {z : Int32 × Int32 × Int32 × Int32 × Int32 × (Nat → Int32)} (e_m_r : A 2 = m_r) (e_m_st : A 4 = m_st) (e_m_onlyOne : I 19 = m_onlyOne) (e_m_onlyOther : I 20 = m_onlyOther) (e_m_either : I 21 = m_either) (e_m_firstRest : I 22 = m_firstRest) (e_m_can : A 7 = m_can) (hf : f_X11_seekRests m_r m_st m_onlyOne m_onlyOther m_either m_firstRest m_can v1 v2 v3 = some z) : rf_MI l yX11_seekRests cX11_seekRests 7 (some .int) ({ frames := 7, cells := 0, slots := 0, locals := 177 }) E [.ref (a 0), .int v1, .int v2, .int v3] (cM E a I A) z.1 (cM E a (rf_upL I [(19, z.2.1), (20, z.2.2.1), (21, z.2.2.2.1), (22, z.2.2.2.2.1)]) (rf_upL A [(7, z.2.2.2.2.2)])) := by
  unfold f_X11_seekRests at hf
  refine rf_ofI (by decide) (Nat.le_of_ble_eq_true rfl) ?_
  intro p e s m below meth c A0 ls hC hD hP hS hl
  have hC : rf_C p E s m _ meth c cX11_seekRests 7 RX11 (some .int) A0 := hC
  have hx := hC.1
  have hb := hC.2.1
  have hl : lv_has ls 7 [(0, .ref (a 0)), (1, .int v1), (2, .int v2), (3, .int v3)] := hl
  have hP : va_P (rf_D E) vwCl (cM E a (rf_upL I [(19, m_onlyOne), (20, m_onlyOther), (21, m_either), (22, m_firstRest)]) (rf_upL A [(7, m_can)])) s.heap := by
    rw [rf_self (f := I) [(19, m_onlyOne), (20, m_onlyOther), (21, m_either), (22, m_firstRest)] (rf_fa1 e_m_onlyOne (rf_fa1 e_m_onlyOther (rf_fa1 e_m_either (rf_fa1 e_m_firstRest rf_fa0))))]
    rw [rf_self (f := A) [(7, m_can)] (rf_fa1 e_m_can rf_fa0)]
    exact hP
  refine lv_aload_n hx hb dX11_seekRests_0 rfl (lv_at hl 0 rfl) ?_
  refine lv_iload_n hx hb dX11_seekRests_1 rfl (lv_at hl 1 rfl) ?_
  refine lv_iload_n hx hb dX11_seekRests_2 rfl (lv_at hl 2 rfl) ?_
  refine lv_iload_n hx hb dX11_seekRests_3 rfl (lv_at hl 3 rfl) ?_
  obtain ⟨z4, hz4, hf⟩ := rf_bd hf
  refine rf_vv (q0 := 0) (ci := 11) hC (c_X11_layBuyers l E a (rf_upL I [(19, m_onlyOne), (20, m_onlyOther), (21, m_either), (22, m_firstRest)]) (rf_upL A [(7, m_can)]) m_r m_st m_onlyOne m_onlyOther m_either m_can v1 v2 v3 e_m_r e_m_st rfl rfl rfl rfl hz4) kV_X11_layBuyers tw_1816 ⟨Nat.le_of_ble_eq_true rfl, Nat.le_of_ble_eq_true rfl⟩ rfl rfl rfl rfl rfl hP (rf_DM hD) hS rfl hl.1 (rest := []) rfl (Nat.le_of_ble_eq_true rfl) dX11_seekRests_4 (fun H locs hP hS => ?_)
  rw [rf_cat (f := I) (l := [(19, m_onlyOne), (20, m_onlyOther), (21, m_either), (22, m_firstRest)]) (lc := [(19, z4.1), (20, z4.2.1), (21, z4.2.2.1)]) (l' := [(19, z4.1), (20, z4.2.1), (21, z4.2.2.1), (22, m_firstRest)]) rfl] at hP
  rw [rf_cat (f := A) (l := [(7, m_can)]) (lc := [(7, z4.2.2.2)]) (l' := [(7, z4.2.2.2)]) rfl] at hP
  refine lv_iconst (v := 0) hx hb dX11_seekRests_7 (by decide) ?_
  refine lv_istore (lv' := [(4, .int 0), (0, .ref (a 0)), (1, .int v1), (2, .int v2), (3, .int v3)]) hx hb dX11_seekRests_8 hl (by decide) rfl (fun ls hl => ?_)
  refine lv_aload_n hx hb dX11_seekRests_10 rfl (lv_at hl 1 rfl) ?_
  refine lv_bipush (v := (-2)) hx hb dX11_seekRests_11 (by decide) ?_
  refine pM_m_firstRest hC hD hP hS tw_1314 dX11_seekRests_13 (rf_upL I [(19, z4.1), (20, z4.2.1), (21, z4.2.2.1), (22, (-2))]) (rf_put rfl) (fun H locs hP hS => ?_)
  refine lv_iconst (v := 0) hx hb dX11_seekRests_16 (by decide) ?_
  refine lv_istore (lv' := [(5, .int 0), (4, .int 0), (0, .ref (a 0)), (1, .int v1), (2, .int v2), (3, .int v3)]) hx hb dX11_seekRests_17 hl (by decide) rfl (fun ls hl => ?_)
  exact w_X11_seekRests_19 hC hD e_m_r e_m_st rf_fu 0 0 z4.1 z4.2.1 z4.2.2.1 (-2) z4.2.2.2 hf _ _ _ hP hS (lv_sub hl [2, 1, 0] rfl)
set_option maxHeartbeats 4000000 in
set_option maxRecDepth 100000 in
theorem c_X11_rests (l : Launch) (E : rf_E) (a : Nat → Nat) (I : Nat → Int32) (A : Nat → Nat → Int32) (m_hasFerry : Int32) (m_r : Nat → Int32) (m_st : Nat → Int32) (m_thrown : Int32) (m_trouble : Int32) (m_onlyOne : Int32) (m_onlyOther : Int32) (m_either : Int32) (m_firstRest : Int32) (m_can : Nat → Int32) (v1 : Int32) (v2 : Int32) (v3 : Int32) {z : Int32 × Int32 × Int32 × Int32 × Int32 × Int32 × Int32 × (Nat → Int32)} (e_m_hasFerry : I 12 = m_hasFerry) (e_m_r : A 2 = m_r) (e_m_st : A 4 = m_st) (e_m_thrown : I 0 = m_thrown) (e_m_trouble : I 10 = m_trouble) (e_m_onlyOne : I 19 = m_onlyOne) (e_m_onlyOther : I 20 = m_onlyOther) (e_m_either : I 21 = m_either) (e_m_firstRest : I 22 = m_firstRest) (e_m_can : A 7 = m_can) (hf : f_X11_rests m_hasFerry m_r m_st m_thrown m_trouble m_onlyOne m_onlyOther m_either m_firstRest m_can v1 v2 v3 = some z) : rf_MI l yX11_rests cX11_rests 5 (some .int) ({ frames := 8, cells := 0, slots := 0, locals := 203 }) E [.ref (a 0), .int v1, .int v2, .int v3] (cM E a I A) z.1 (cM E a (rf_upL I [(0, z.2.1), (10, z.2.2.1), (19, z.2.2.2.1), (20, z.2.2.2.2.1), (21, z.2.2.2.2.2.1), (22, z.2.2.2.2.2.2.1)]) (rf_upL A [(7, z.2.2.2.2.2.2.2)])) := by
  unfold f_X11_rests at hf
  refine rf_ofI (by decide) (Nat.le_of_ble_eq_true rfl) ?_
  intro p e s m below meth c A0 ls hC hD hP hS hl
  have hC : rf_C p E s m _ meth c cX11_rests 5 RX11 (some .int) A0 := hC
  have hx := hC.1
  have hb := hC.2.1
  have hl : lv_has ls 5 [(0, .ref (a 0)), (1, .int v1), (2, .int v2), (3, .int v3)] := hl
  have hP : va_P (rf_D E) vwCl (cM E a (rf_upL I [(0, m_thrown), (10, m_trouble), (19, m_onlyOne), (20, m_onlyOther), (21, m_either), (22, m_firstRest)]) (rf_upL A [(7, m_can)])) s.heap := by
    rw [rf_self (f := I) [(0, m_thrown), (10, m_trouble), (19, m_onlyOne), (20, m_onlyOther), (21, m_either), (22, m_firstRest)] (rf_fa1 e_m_thrown (rf_fa1 e_m_trouble (rf_fa1 e_m_onlyOne (rf_fa1 e_m_onlyOther (rf_fa1 e_m_either (rf_fa1 e_m_firstRest rf_fa0))))))]
    rw [rf_self (f := A) [(7, m_can)] (rf_fa1 e_m_can rf_fa0)]
    exact hP
  refine lv_aload_n hx hb dX11_rests_0 rfl (lv_at hl 0 rfl) ?_
  obtain ⟨z1, hz1, hf⟩ := rf_bd hf
  refine rf_vv (q0 := 0) (ci := 11) hC (c_X11_good l E a (rf_upL I [(0, m_thrown), (10, m_trouble), (19, m_onlyOne), (20, m_onlyOther), (21, m_either), (22, m_firstRest)]) (rf_upL A [(7, m_can)]) m_thrown m_trouble rfl rfl hz1) kV_X11_good tw_1403 ⟨Nat.le_of_ble_eq_true rfl, Nat.le_of_ble_eq_true rfl⟩ rfl rfl rfl rfl rfl hP (rf_DM hD) hS rfl hl.1 (rest := []) rfl (Nat.le_of_ble_eq_true rfl) dX11_rests_1 (fun H locs hP hS => ?_)
  rw [rf_cat (f := I) (l := [(0, m_thrown), (10, m_trouble), (19, m_onlyOne), (20, m_onlyOther), (21, m_either), (22, m_firstRest)]) (lc := [(0, z1.1), (10, z1.2)]) (l' := [(0, z1.1), (10, z1.2), (19, m_onlyOne), (20, m_onlyOther), (21, m_either), (22, m_firstRest)]) rfl] at hP
  refine lv_aload_n hx hb dX11_rests_4 rfl (lv_at hl 0 rfl) ?_
  refine lv_iload_n hx hb dX11_rests_5 rfl (lv_at hl 1 rfl) ?_
  refine lv_iload_n hx hb dX11_rests_6 rfl (lv_at hl 2 rfl) ?_
  refine lv_iload_n hx hb dX11_rests_7 rfl (lv_at hl 3 rfl) ?_
  obtain ⟨z8, hz8, hf⟩ := rf_bd hf
  refine rf_vi (q0 := 0) (ci := 11) hC (c_X11_sellersWhy l E a (rf_upL I [(0, z1.1), (10, z1.2), (19, m_onlyOne), (20, m_onlyOther), (21, m_either), (22, m_firstRest)]) (rf_upL A [(7, m_can)]) m_hasFerry m_r v1 v2 v3 e_m_hasFerry e_m_r hz8) kV_X11_sellersWhy tw_1812 ⟨Nat.le_of_ble_eq_true rfl, Nat.le_of_ble_eq_true rfl⟩ rfl rfl rfl rfl rfl hP (rf_DM hD) hS rfl hl.1 (rest := []) rfl (Nat.le_of_ble_eq_true rfl) dX11_rests_8 (fun H locs hP hS => ?_)
  refine lv_istore (lv' := [(4, .int z8), (0, .ref (a 0)), (1, .int v1), (2, .int v2), (3, .int v3)]) hx hb dX11_rests_11 hl (by decide) rfl (fun ls hl => ?_)
  refine lv_iload hx hb dX11_rests_13 (lv_at hl 0 rfl) ?_
  refine lv_if_eq (tgt := 27) hx hb dX11_rests_15 (by decide) (fun c_15 => ?_) (fun c_15 => ?_)
  · have hf := rf_it c_15 hf
    refine lv_aload_n hx hb dX11_rests_27 rfl (lv_at hl 1 rfl) ?_
    refine lv_iload_n hx hb dX11_rests_28 rfl (lv_at hl 2 rfl) ?_
    refine lv_iload_n hx hb dX11_rests_29 rfl (lv_at hl 3 rfl) ?_
    refine lv_aload_n hx hb dX11_rests_30 rfl (lv_at hl 1 rfl) ?_
    refine lv_iload_n hx hb dX11_rests_31 rfl (lv_at hl 4 rfl) ?_
    obtain ⟨z32, hz32, hf⟩ := rf_bd hf
    refine rf_vi (q0 := 0) (ci := 11) hC (c_X11_earAt l E a (rf_upL I [(0, z1.1), (10, z1.2), (19, m_onlyOne), (20, m_onlyOther), (21, m_either), (22, m_firstRest)]) (rf_upL A [(7, m_can)]) m_r v3 e_m_r hz32) kV_X11_earAt tw_1624 ⟨Nat.le_of_ble_eq_true rfl, Nat.le_of_ble_eq_true rfl⟩ rfl rfl rfl rfl rfl hP (rf_DM hD) hS rfl hl.1 (rest := [.int v2, .int v1, .ref (a 0)]) rfl (Nat.le_of_ble_eq_true rfl) dX11_rests_32 (fun H locs hP hS => ?_)
    obtain ⟨z35, hz35, hf⟩ := rf_bd hf
    refine rf_vi (q0 := 0) (ci := 11) hC (c_X11_seekRests l E a (rf_upL I [(0, z1.1), (10, z1.2), (19, m_onlyOne), (20, m_onlyOther), (21, m_either), (22, m_firstRest)]) (rf_upL A [(7, m_can)]) m_r m_st m_onlyOne m_onlyOther m_either m_firstRest m_can v1 v2 z32 e_m_r e_m_st rfl rfl rfl rfl rfl hz35) kV_X11_seekRests tw_1828 ⟨Nat.le_of_ble_eq_true rfl, Nat.le_of_ble_eq_true rfl⟩ rfl rfl rfl rfl rfl hP (rf_DM hD) hS rfl hl.1 (rest := []) rfl (Nat.le_of_ble_eq_true rfl) dX11_rests_35 (fun H locs hP hS => ?_)
    rw [rf_cat (f := I) (l := [(0, z1.1), (10, z1.2), (19, m_onlyOne), (20, m_onlyOther), (21, m_either), (22, m_firstRest)]) (lc := [(19, z35.2.1), (20, z35.2.2.1), (21, z35.2.2.2.1), (22, z35.2.2.2.2.1)]) (l' := [(0, z1.1), (10, z1.2), (19, z35.2.1), (20, z35.2.2.1), (21, z35.2.2.2.1), (22, z35.2.2.2.2.1)]) rfl] at hP
    rw [rf_cat (f := A) (l := [(7, m_can)]) (lc := [(7, z35.2.2.2.2.2)]) (l' := [(7, z35.2.2.2.2.2)]) rfl] at hP
    obtain rfl := Option.some.inj hf
    exact rf_reti hC hP hS rfl rfl dX11_rests_38
  have hf := rf_ie c_15 hf
  refine lv_aload_n hx hb dX11_rests_18 rfl (lv_at hl 1 rfl) ?_
  refine lv_iload hx hb dX11_rests_19 (lv_at hl 0 rfl) ?_
  obtain ⟨z21, hz21, hf⟩ := rf_bd hf
  refine rf_vi (q0 := 0) (ci := 11) hC (c_X11_no l E a (rf_upL I [(0, z1.1), (10, z1.2), (19, m_onlyOne), (20, m_onlyOther), (21, m_either), (22, m_firstRest)]) (rf_upL A [(7, m_can)]) z1.2 z8 rfl hz21) kV_X11_no tw_1410 ⟨Nat.le_of_ble_eq_true rfl, Nat.le_of_ble_eq_true rfl⟩ rfl rfl rfl rfl rfl hP (rf_DM hD) hS rfl hl.1 (rest := []) rfl (Nat.le_of_ble_eq_true rfl) dX11_rests_21 (fun H locs hP hS => ?_)
  rw [rf_cat (f := I) (l := [(0, z1.1), (10, z1.2), (19, m_onlyOne), (20, m_onlyOther), (21, m_either), (22, m_firstRest)]) (lc := [(10, z21.2)]) (l' := [(0, z1.1), (10, z21.2), (19, m_onlyOne), (20, m_onlyOther), (21, m_either), (22, m_firstRest)]) rfl] at hP
  refine lv_goto (tgt := 38) hx hb dX11_rests_24 (by decide) ?_
  obtain rfl := Option.some.inj hf
  exact rf_reti hC hP hS rfl rfl dX11_rests_38
set_option maxHeartbeats 4000000 in
set_option maxRecDepth 100000 in
theorem c_X11_rest (l : Launch) (E : rf_E) (a : Nat → Nat) (I : Nat → Int32) (A : Nat → Nat → Int32) (m_hasFerry : Int32) (m_r : Nat → Int32) (m_st : Nat → Int32) (m_thrown : Int32) (m_trouble : Int32) (m_onlyOne : Int32) (m_onlyOther : Int32) (m_either : Int32) (m_firstRest : Int32) (m_can : Nat → Int32) (v1 : Int32) (v2 : Int32) (v3 : Int32) {z : Int32 × Int32 × Int32 × Int32 × Int32 × Int32 × Int32 × (Nat → Int32)} (e_m_hasFerry : I 12 = m_hasFerry) (e_m_r : A 2 = m_r) (e_m_st : A 4 = m_st) (e_m_thrown : I 0 = m_thrown) (e_m_trouble : I 10 = m_trouble) (e_m_onlyOne : I 19 = m_onlyOne) (e_m_onlyOther : I 20 = m_onlyOther) (e_m_either : I 21 = m_either) (e_m_firstRest : I 22 = m_firstRest) (e_m_can : A 7 = m_can) (hf : f_X11_rest m_hasFerry m_r m_st m_thrown m_trouble m_onlyOne m_onlyOther m_either m_firstRest m_can v1 v2 v3 = some z) : rf_MI l yX11_rest cX11_rest 5 (some .int) ({ frames := 8, cells := 0, slots := 0, locals := 203 }) E [.ref (a 0), .int v1, .int v2, .int v3] (cM E a I A) z.1 (cM E a (rf_upL I [(0, z.2.1), (10, z.2.2.1), (19, z.2.2.2.1), (20, z.2.2.2.2.1), (21, z.2.2.2.2.2.1), (22, z.2.2.2.2.2.2.1)]) (rf_upL A [(7, z.2.2.2.2.2.2.2)])) := by
  unfold f_X11_rest at hf
  refine rf_ofI (by decide) (Nat.le_of_ble_eq_true rfl) ?_
  intro p e s m below meth c A0 ls hC hD hP hS hl
  have hC : rf_C p E s m _ meth c cX11_rest 5 RX11 (some .int) A0 := hC
  have hx := hC.1
  have hb := hC.2.1
  have hl : lv_has ls 5 [(0, .ref (a 0)), (1, .int v1), (2, .int v2), (3, .int v3)] := hl
  have hP : va_P (rf_D E) vwCl (cM E a (rf_upL I [(0, m_thrown), (10, m_trouble), (19, m_onlyOne), (20, m_onlyOther), (21, m_either), (22, m_firstRest)]) (rf_upL A [(7, m_can)])) s.heap := by
    rw [rf_self (f := I) [(0, m_thrown), (10, m_trouble), (19, m_onlyOne), (20, m_onlyOther), (21, m_either), (22, m_firstRest)] (rf_fa1 e_m_thrown (rf_fa1 e_m_trouble (rf_fa1 e_m_onlyOne (rf_fa1 e_m_onlyOther (rf_fa1 e_m_either (rf_fa1 e_m_firstRest rf_fa0))))))]
    rw [rf_self (f := A) [(7, m_can)] (rf_fa1 e_m_can rf_fa0)]
    exact hP
  refine lv_aload_n hx hb dX11_rest_0 rfl (lv_at hl 0 rfl) ?_
  obtain ⟨z1, hz1, hf⟩ := rf_bd hf
  refine rf_vv (q0 := 0) (ci := 11) hC (c_X11_good l E a (rf_upL I [(0, m_thrown), (10, m_trouble), (19, m_onlyOne), (20, m_onlyOther), (21, m_either), (22, m_firstRest)]) (rf_upL A [(7, m_can)]) m_thrown m_trouble rfl rfl hz1) kV_X11_good tw_1403 ⟨Nat.le_of_ble_eq_true rfl, Nat.le_of_ble_eq_true rfl⟩ rfl rfl rfl rfl rfl hP (rf_DM hD) hS rfl hl.1 (rest := []) rfl (Nat.le_of_ble_eq_true rfl) dX11_rest_1 (fun H locs hP hS => ?_)
  rw [rf_cat (f := I) (l := [(0, m_thrown), (10, m_trouble), (19, m_onlyOne), (20, m_onlyOther), (21, m_either), (22, m_firstRest)]) (lc := [(0, z1.1), (10, z1.2)]) (l' := [(0, z1.1), (10, z1.2), (19, m_onlyOne), (20, m_onlyOther), (21, m_either), (22, m_firstRest)]) rfl] at hP
  refine lv_aload_n hx hb dX11_rest_4 rfl (lv_at hl 0 rfl) ?_
  refine lv_iload_n hx hb dX11_rest_5 rfl (lv_at hl 1 rfl) ?_
  refine lv_iload_n hx hb dX11_rest_6 rfl (lv_at hl 2 rfl) ?_
  refine lv_iload_n hx hb dX11_rest_7 rfl (lv_at hl 3 rfl) ?_
  obtain ⟨z8, hz8, hf⟩ := rf_bd hf
  refine rf_vi (q0 := 0) (ci := 11) hC (c_X11_sellersWhy l E a (rf_upL I [(0, z1.1), (10, z1.2), (19, m_onlyOne), (20, m_onlyOther), (21, m_either), (22, m_firstRest)]) (rf_upL A [(7, m_can)]) m_hasFerry m_r v1 v2 v3 e_m_hasFerry e_m_r hz8) kV_X11_sellersWhy tw_1812 ⟨Nat.le_of_ble_eq_true rfl, Nat.le_of_ble_eq_true rfl⟩ rfl rfl rfl rfl rfl hP (rf_DM hD) hS rfl hl.1 (rest := []) rfl (Nat.le_of_ble_eq_true rfl) dX11_rest_8 (fun H locs hP hS => ?_)
  refine lv_istore (lv' := [(4, .int z8), (0, .ref (a 0)), (1, .int v1), (2, .int v2), (3, .int v3)]) hx hb dX11_rest_11 hl (by decide) rfl (fun ls hl => ?_)
  refine lv_iload hx hb dX11_rest_13 (lv_at hl 0 rfl) ?_
  refine lv_if_eq (tgt := 25) hx hb dX11_rest_15 (by decide) (fun c_15 => ?_) (fun c_15 => ?_)
  · have hf := rf_it c_15 hf
    refine lv_aload_n hx hb dX11_rest_25 rfl (lv_at hl 1 rfl) ?_
    refine lv_iload_n hx hb dX11_rest_26 rfl (lv_at hl 2 rfl) ?_
    refine lv_iload_n hx hb dX11_rest_27 rfl (lv_at hl 3 rfl) ?_
    refine lv_aload_n hx hb dX11_rest_28 rfl (lv_at hl 1 rfl) ?_
    refine lv_iload_n hx hb dX11_rest_29 rfl (lv_at hl 4 rfl) ?_
    obtain ⟨z30, hz30, hf⟩ := rf_bd hf
    refine rf_vi (q0 := 0) (ci := 11) hC (c_X11_earAt l E a (rf_upL I [(0, z1.1), (10, z1.2), (19, m_onlyOne), (20, m_onlyOther), (21, m_either), (22, m_firstRest)]) (rf_upL A [(7, m_can)]) m_r v3 e_m_r hz30) kV_X11_earAt tw_1624 ⟨Nat.le_of_ble_eq_true rfl, Nat.le_of_ble_eq_true rfl⟩ rfl rfl rfl rfl rfl hP (rf_DM hD) hS rfl hl.1 (rest := [.int v2, .int v1, .ref (a 0)]) rfl (Nat.le_of_ble_eq_true rfl) dX11_rest_30 (fun H locs hP hS => ?_)
    obtain ⟨z33, hz33, hf⟩ := rf_bd hf
    refine rf_vi (q0 := 0) (ci := 11) hC (c_X11_seekRests l E a (rf_upL I [(0, z1.1), (10, z1.2), (19, m_onlyOne), (20, m_onlyOther), (21, m_either), (22, m_firstRest)]) (rf_upL A [(7, m_can)]) m_r m_st m_onlyOne m_onlyOther m_either m_firstRest m_can v1 v2 z30 e_m_r e_m_st rfl rfl rfl rfl rfl hz33) kV_X11_seekRests tw_1828 ⟨Nat.le_of_ble_eq_true rfl, Nat.le_of_ble_eq_true rfl⟩ rfl rfl rfl rfl rfl hP (rf_DM hD) hS rfl hl.1 (rest := []) rfl (Nat.le_of_ble_eq_true rfl) dX11_rest_33 (fun H locs hP hS => ?_)
    rw [rf_cat (f := I) (l := [(0, z1.1), (10, z1.2), (19, m_onlyOne), (20, m_onlyOther), (21, m_either), (22, m_firstRest)]) (lc := [(19, z33.2.1), (20, z33.2.2.1), (21, z33.2.2.2.1), (22, z33.2.2.2.2.1)]) (l' := [(0, z1.1), (10, z1.2), (19, z33.2.1), (20, z33.2.2.1), (21, z33.2.2.2.1), (22, z33.2.2.2.2.1)]) rfl] at hP
    rw [rf_cat (f := A) (l := [(7, m_can)]) (lc := [(7, z33.2.2.2.2.2)]) (l' := [(7, z33.2.2.2.2.2)]) rfl] at hP
    refine lv_pop hx hb dX11_rest_36 rfl ?_
    refine lv_aload_n hx hb dX11_rest_37 rfl (lv_at hl 1 rfl) ?_
    refine gM_m_firstRest hC hP tw_1314 (v := z33.2.2.2.2.1) rfl dX11_rest_38 ?_
    obtain rfl := Option.some.inj hf
    exact rf_reti hC hP hS rfl rfl dX11_rest_41
  have hf := rf_ie c_15 hf
  refine lv_aload_n hx hb dX11_rest_18 rfl (lv_at hl 1 rfl) ?_
  refine lv_iload hx hb dX11_rest_19 (lv_at hl 0 rfl) ?_
  obtain ⟨z21, hz21, hf⟩ := rf_bd hf
  refine rf_vi (q0 := 0) (ci := 11) hC (c_X11_no l E a (rf_upL I [(0, z1.1), (10, z1.2), (19, m_onlyOne), (20, m_onlyOther), (21, m_either), (22, m_firstRest)]) (rf_upL A [(7, m_can)]) z1.2 z8 rfl hz21) kV_X11_no tw_1410 ⟨Nat.le_of_ble_eq_true rfl, Nat.le_of_ble_eq_true rfl⟩ rfl rfl rfl rfl rfl hP (rf_DM hD) hS rfl hl.1 (rest := []) rfl (Nat.le_of_ble_eq_true rfl) dX11_rest_21 (fun H locs hP hS => ?_)
  rw [rf_cat (f := I) (l := [(0, z1.1), (10, z1.2), (19, m_onlyOne), (20, m_onlyOther), (21, m_either), (22, m_firstRest)]) (lc := [(10, z21.2)]) (l' := [(0, z1.1), (10, z21.2), (19, m_onlyOne), (20, m_onlyOther), (21, m_either), (22, m_firstRest)]) rfl] at hP
  obtain rfl := Option.some.inj hf
  exact rf_reti hC hP hS rfl rfl dX11_rest_24
set_option maxHeartbeats 4000000 in
set_option maxRecDepth 100000 in
theorem w_X11_dayWhy_33 {l : Launch} {p : Program} {e : Env} {s : State} {m : MethodId} {args : Array Value} {below : List Frame} {meth : Method} {c : Code} {A0 : Nat → Prop} {E : rf_E} {a : Nat → Nat} {I : Nat → Int32} {A : Nat → Nat → Int32} {z : Int32} (hC : rf_C p E s m args meth c cX11_dayWhy 4 RX11 (some .int) A0) (hD : va_D A0 (cM E a I A)) :
    ∀ (_ : Unit), f_X11_dayWhy_33 = some z → ∀ (H : Heap) (locs : List Loc) (ls : Array Slot), va_P (rf_D E) vwCl (cM E a I A) H → va_S A0 s.heap H locs → lv_has ls 4 [] → W p l e ({ frames := 1, cells := 0, slots := 0, locals := 22 }) s m args below meth c H locs 0 0 (rf_QI below args s E A0 z (cM E a I A)) (F0 m 33 ls []) := by
  have hx := hC.1
  have hb := hC.2.1
  intro _ hf H locs ls hP hS hl
  unfold f_X11_dayWhy_33 at hf
  refine lv_iconst (v := 2) hx hb dX11_dayWhy_33 (by decide) ?_
  obtain rfl := Option.some.inj hf
  exact rf_reti hC hP hS rfl rfl dX11_dayWhy_34
set_option maxHeartbeats 4000000 in
set_option maxRecDepth 100000 in
theorem c_X11_dayWhy (l : Launch) (E : rf_E) (a : Nat → Nat) (I : Nat → Int32) (A : Nat → Nat → Int32) (v1 : Int32) (v2 : Int32) (v3 : Int32) {z : Int32} (hf : f_X11_dayWhy v1 v2 v3 = some z) : rf_MI l yX11_dayWhy cX11_dayWhy 4 (some .int) ({ frames := 1, cells := 0, slots := 0, locals := 22 }) E [.ref (a 0), .int v1, .int v2, .int v3] (cM E a I A) z (cM E a I A) := by
  unfold f_X11_dayWhy at hf
  refine rf_ofI (by decide) (Nat.le_of_ble_eq_true rfl) ?_
  intro p e s m below meth c A0 ls hC hD hP hS hl
  have hC : rf_C p E s m _ meth c cX11_dayWhy 4 RX11 (some .int) A0 := hC
  have hx := hC.1
  have hb := hC.2.1
  have hl : lv_has ls 4 [(0, .ref (a 0)), (1, .int v1), (2, .int v2), (3, .int v3)] := hl
  refine lv_iload_n hx hb dX11_dayWhy_0 rfl (lv_at hl 1 rfl) ?_
  refine lv_if_ne (tgt := 8) hx hb dX11_dayWhy_1 (by decide) (fun c_1 => ?_) (fun c_1 => ?_)
  · have hf := rf_ie c_1 hf
    refine lv_iload_n hx hb dX11_dayWhy_8 rfl (lv_at hl 2 rfl) ?_
    refine lv_iconst (v := 0) hx hb dX11_dayWhy_9 (by decide) ?_
    refine lv_ldcw hx hb hC.2.2.2.1 (hC.2.2.2.2.1 _ tw_1848) dX11_dayWhy_10 ?_
    obtain ⟨z13, hz13, hf⟩ := rf_bd hf
    refine rf_si0 hC (c_X11_in l E v2 0 65536 hz13) kS_X11_in tw_1407 ⟨Nat.le_of_ble_eq_true rfl, Nat.le_of_ble_eq_true rfl⟩ rfl rfl hP hS rfl hl.1 (rest := []) rfl (Nat.le_of_ble_eq_true rfl) dX11_dayWhy_13 (fun H locs hP hS => ?_)
    refine lv_if_eq (tgt := 33) hx hb dX11_dayWhy_16 (by decide) (fun c_16 => ?_) (fun c_16 => ?_)
    · have hf := rf_it c_16 hf
      exact w_X11_dayWhy_33 hC hD () hf _ _ _ hP hS (lv_sub hl [] rfl)
    have hf := rf_ie c_16 hf
    refine lv_iload_n hx hb dX11_dayWhy_19 rfl (lv_at hl 3 rfl) ?_
    refine lv_iconst (v := 0) hx hb dX11_dayWhy_20 (by decide) ?_
    refine lv_bipush (v := 24) hx hb dX11_dayWhy_21 (by decide) ?_
    obtain ⟨z23, hz23, hf⟩ := rf_bd hf
    refine rf_si0 hC (c_X11_in l E v3 0 24 hz23) kS_X11_in tw_1407 ⟨Nat.le_of_ble_eq_true rfl, Nat.le_of_ble_eq_true rfl⟩ rfl rfl hP hS rfl hl.1 (rest := []) rfl (Nat.le_of_ble_eq_true rfl) dX11_dayWhy_23 (fun H locs hP hS => ?_)
    refine lv_if_eq (tgt := 33) hx hb dX11_dayWhy_26 (by decide) (fun c_26 => ?_) (fun c_26 => ?_)
    · have hf := rf_it c_26 hf
      exact w_X11_dayWhy_33 hC hD () hf _ _ _ hP hS (lv_sub hl [] rfl)
    have hf := rf_ie c_26 hf
    refine lv_iconst (v := 0) hx hb dX11_dayWhy_29 (by decide) ?_
    refine lv_goto (tgt := 34) hx hb dX11_dayWhy_30 (by decide) ?_
    obtain rfl := Option.some.inj hf
    exact rf_reti hC hP hS rfl rfl dX11_dayWhy_34
  have hf := rf_it c_1 hf
  refine lv_iconst (v := 1) hx hb dX11_dayWhy_4 (by decide) ?_
  refine lv_goto (tgt := 34) hx hb dX11_dayWhy_5 (by decide) ?_
  obtain rfl := Option.some.inj hf
  exact rf_reti hC hP hS rfl rfl dX11_dayWhy_34
set_option maxHeartbeats 4000000 in
set_option maxRecDepth 100000 in
theorem w_X11_goThrough_202 {l : Launch} {p : Program} {e : Env} {s : State} {m : MethodId} {args : Array Value} {below : List Frame} {meth : Method} {c : Code} {A0 : Nat → Prop} {E : rf_E} {a : Nat → Nat} {I : Nat → Int32} {A : Nat → Nat → Int32} {m_r : Nat → Int32} {m_st : Nat → Int32} {z : Int32 × Int32 × (Nat → Int32) × (Nat → Int32) × (Nat → Int32) × (Nat → Int32)} (hC : rf_C p E s m args meth c cX11_goThrough 10 RX11 (some .int) A0) (hD : va_D A0 (cM E a I A)) (e_m_r : A 2 = m_r) (e_m_st : A 4 = m_st) {k40 : Int32 → Int32 → Int32 → Int32 → Int32 → Int32 → (Nat → Int32) → (Nat → Int32) → (Nat → Int32) → (Nat → Int32) → Option (Int32 × Int32 × (Nat → Int32) × (Nat → Int32) × (Nat → Int32) × (Nat → Int32))} (hk40 : ∀ (v2 : Int32) (v3 : Int32) (v4 : Int32) (v5 : Int32) (v6 : Int32) (m_bestMany : Int32) (m_can : Nat → Int32) (m_now : Nat → Int32) (m_best : Nat → Int32) (m_hourOf : Nat → Int32), k40 v2 v3 v4 v5 v6 m_bestMany m_can m_now m_best m_hourOf = some z → ∀ (H : Heap) (locs : List Loc) (ls : Array Slot), va_P (rf_D E) vwCl (cM E a (rf_upL I [(15, m_bestMany)]) (rf_upL A [(7, m_can), (8, m_now), (9, m_best), (13, m_hourOf)])) H → va_S A0 s.heap H locs → lv_has ls 10 [(0, .ref (a 0)), (2, .int v2), (3, .int v3), (4, .int v4), (5, .int v5), (6, .int v6)] → W p l e ({ frames := 20, cells := 0, slots := 0, locals := 535 }) s m args below meth c H locs 0 0 (rf_QI below args s E A0 z.1 (cM E a (rf_upL I [(15, z.2.1)]) (rf_upL A [(7, z.2.2.1), (8, z.2.2.2.1), (9, z.2.2.2.2.1), (13, z.2.2.2.2.2)]))) (F0 m 40 ls [])) :
    ∀ (v2 : Int32) (v3 : Int32) (v4 : Int32) (v5 : Int32) (v6 : Int32) (v8 : Int32) (m_bestMany : Int32) (m_can : Nat → Int32) (m_now : Nat → Int32) (m_best : Nat → Int32) (m_hourOf : Nat → Int32), f_X11_goThrough_202 k40 m_r m_st v2 v3 v4 v5 v6 v8 m_bestMany m_can m_now m_best m_hourOf = some z → ∀ (H : Heap) (locs : List Loc) (ls : Array Slot), va_P (rf_D E) vwCl (cM E a (rf_upL I [(15, m_bestMany)]) (rf_upL A [(7, m_can), (8, m_now), (9, m_best), (13, m_hourOf)])) H → va_S A0 s.heap H locs → lv_has ls 10 [(0, .ref (a 0)), (2, .int v2), (3, .int v3), (4, .int v4), (5, .int v5), (6, .int v6), (8, .int v8)] → W p l e ({ frames := 20, cells := 0, slots := 0, locals := 535 }) s m args below meth c H locs 0 0 (rf_QI below args s E A0 z.1 (cM E a (rf_upL I [(15, z.2.1)]) (rf_upL A [(7, z.2.2.1), (8, z.2.2.2.1), (9, z.2.2.2.2.1), (13, z.2.2.2.2.2)]))) (F0 m 202 ls []) := by
  have hx := hC.1
  have hb := hC.2.1
  intro v2 v3 v4 v5 v6 v8 m_bestMany m_can m_now m_best m_hourOf hf H locs ls hP hS hl
  unfold f_X11_goThrough_202 at hf
  refine lv_iload hx hb dX11_goThrough_202 (lv_at hl 4 rfl) ?_
  refine lv_iconst (v := 2) hx hb dX11_goThrough_204 (by decide) ?_
  refine lv_iload hx hb dX11_goThrough_205 (lv_at hl 6 rfl) ?_
  refine lv_imul hx hb dX11_goThrough_207 ?_
  refine lv_iadd hx hb dX11_goThrough_208 ?_
  refine lv_istore (lv' := [(5, .int (v5 + ((2 : Int32) * v8))), (0, .ref (a 0)), (2, .int v2), (3, .int v3), (4, .int v4), (6, .int v6), (8, .int v8)]) hx hb dX11_goThrough_209 hl (by decide) rfl (fun ls hl => ?_)
  refine lv_iinc (v := v6 + 1) (lv' := [(6, .int (v6 + 1)), (5, .int (v5 + ((2 : Int32) * v8))), (0, .ref (a 0)), (2, .int v2), (3, .int v3), (4, .int v4), (8, .int v8)]) hx hb dX11_goThrough_211 hl (k := 5) rfl rfl (by decide) rfl (fun ls hl => ?_)
  refine lv_goto (tgt := 40) hx hb dX11_goThrough_214 (by decide) ?_
  exact hk40 v2 v3 v4 (v5 + ((2 : Int32) * v8)) (v6 + 1) m_bestMany m_can m_now m_best m_hourOf hf _ _ _ hP hS (lv_sub hl [2, 3, 4, 5, 1, 0] rfl)
set_option maxHeartbeats 4000000 in
set_option maxRecDepth 100000 in
theorem w_X11_goThrough_196 {l : Launch} {p : Program} {e : Env} {s : State} {m : MethodId} {args : Array Value} {below : List Frame} {meth : Method} {c : Code} {A0 : Nat → Prop} {E : rf_E} {a : Nat → Nat} {I : Nat → Int32} {A : Nat → Nat → Int32} {m_r : Nat → Int32} {m_st : Nat → Int32} {z : Int32 × Int32 × (Nat → Int32) × (Nat → Int32) × (Nat → Int32) × (Nat → Int32)} (hC : rf_C p E s m args meth c cX11_goThrough 10 RX11 (some .int) A0) (hD : va_D A0 (cM E a I A)) (e_m_r : A 2 = m_r) (e_m_st : A 4 = m_st) {k40 : Int32 → Int32 → Int32 → Int32 → Int32 → Int32 → (Nat → Int32) → (Nat → Int32) → (Nat → Int32) → (Nat → Int32) → Option (Int32 × Int32 × (Nat → Int32) × (Nat → Int32) × (Nat → Int32) × (Nat → Int32))} (hk40 : ∀ (v2 : Int32) (v3 : Int32) (v4 : Int32) (v5 : Int32) (v6 : Int32) (m_bestMany : Int32) (m_can : Nat → Int32) (m_now : Nat → Int32) (m_best : Nat → Int32) (m_hourOf : Nat → Int32), k40 v2 v3 v4 v5 v6 m_bestMany m_can m_now m_best m_hourOf = some z → ∀ (H : Heap) (locs : List Loc) (ls : Array Slot), va_P (rf_D E) vwCl (cM E a (rf_upL I [(15, m_bestMany)]) (rf_upL A [(7, m_can), (8, m_now), (9, m_best), (13, m_hourOf)])) H → va_S A0 s.heap H locs → lv_has ls 10 [(0, .ref (a 0)), (2, .int v2), (3, .int v3), (4, .int v4), (5, .int v5), (6, .int v6)] → W p l e ({ frames := 20, cells := 0, slots := 0, locals := 535 }) s m args below meth c H locs 0 0 (rf_QI below args s E A0 z.1 (cM E a (rf_upL I [(15, z.2.1)]) (rf_upL A [(7, z.2.2.1), (8, z.2.2.2.1), (9, z.2.2.2.2.1), (13, z.2.2.2.2.2)]))) (F0 m 40 ls [])) {k108 : Int32 → Int32 → Int32 → Int32 → Int32 → Int32 → Int32 → Int32 → (Nat → Int32) → (Nat → Int32) → (Nat → Int32) → (Nat → Int32) → Option (Int32 × Int32 × (Nat → Int32) × (Nat → Int32) × (Nat → Int32) × (Nat → Int32))} (hk108 : ∀ (v2 : Int32) (v3 : Int32) (v4 : Int32) (v5 : Int32) (v6 : Int32) (v8 : Int32) (v9 : Int32) (m_bestMany : Int32) (m_can : Nat → Int32) (m_now : Nat → Int32) (m_best : Nat → Int32) (m_hourOf : Nat → Int32), k108 v2 v3 v4 v5 v6 v8 v9 m_bestMany m_can m_now m_best m_hourOf = some z → ∀ (H : Heap) (locs : List Loc) (ls : Array Slot), va_P (rf_D E) vwCl (cM E a (rf_upL I [(15, m_bestMany)]) (rf_upL A [(7, m_can), (8, m_now), (9, m_best), (13, m_hourOf)])) H → va_S A0 s.heap H locs → lv_has ls 10 [(0, .ref (a 0)), (2, .int v2), (3, .int v3), (4, .int v4), (5, .int v5), (6, .int v6), (8, .int v8), (9, .int v9)] → W p l e ({ frames := 20, cells := 0, slots := 0, locals := 535 }) s m args below meth c H locs 0 0 (rf_QI below args s E A0 z.1 (cM E a (rf_upL I [(15, z.2.1)]) (rf_upL A [(7, z.2.2.1), (8, z.2.2.2.1), (9, z.2.2.2.2.1), (13, z.2.2.2.2.2)]))) (F0 m 108 ls [])) :
    ∀ (v2 : Int32) (v3 : Int32) (v4 : Int32) (v5 : Int32) (v6 : Int32) (v8 : Int32) (v9 : Int32) (m_bestMany : Int32) (m_can : Nat → Int32) (m_now : Nat → Int32) (m_best : Nat → Int32) (m_hourOf : Nat → Int32), f_X11_goThrough_196 k40 k108 m_r m_st v2 v3 v4 v5 v6 v8 v9 m_bestMany m_can m_now m_best m_hourOf = some z → ∀ (H : Heap) (locs : List Loc) (ls : Array Slot), va_P (rf_D E) vwCl (cM E a (rf_upL I [(15, m_bestMany)]) (rf_upL A [(7, m_can), (8, m_now), (9, m_best), (13, m_hourOf)])) H → va_S A0 s.heap H locs → lv_has ls 10 [(0, .ref (a 0)), (2, .int v2), (3, .int v3), (4, .int v4), (5, .int v5), (6, .int v6), (8, .int v8), (9, .int v9)] → W p l e ({ frames := 20, cells := 0, slots := 0, locals := 535 }) s m args below meth c H locs 0 0 (rf_QI below args s E A0 z.1 (cM E a (rf_upL I [(15, z.2.1)]) (rf_upL A [(7, z.2.2.1), (8, z.2.2.2.1), (9, z.2.2.2.2.1), (13, z.2.2.2.2.2)]))) (F0 m 196 ls []) := by
  have hx := hC.1
  have hb := hC.2.1
  intro v2 v3 v4 v5 v6 v8 v9 m_bestMany m_can m_now m_best m_hourOf hf H locs ls hP hS hl
  unfold f_X11_goThrough_196 at hf
  refine lv_iinc (v := v9 + 1) (lv' := [(9, .int (v9 + 1)), (0, .ref (a 0)), (2, .int v2), (3, .int v3), (4, .int v4), (5, .int v5), (6, .int v6), (8, .int v8)]) hx hb dX11_goThrough_196 hl (k := 7) rfl rfl (by decide) rfl (fun ls hl => ?_)
  refine lv_goto (tgt := 108) hx hb dX11_goThrough_199 (by decide) ?_
  exact hk108 v2 v3 v4 v5 v6 v8 (v9 + 1) m_bestMany m_can m_now m_best m_hourOf hf _ _ _ hP hS (lv_sub hl [1, 2, 3, 4, 5, 6, 7, 0] rfl)
set_option maxHeartbeats 4000000 in
set_option maxRecDepth 100000 in
theorem w_X11_goThrough_108 {l : Launch} {p : Program} {e : Env} {s : State} {m : MethodId} {args : Array Value} {below : List Frame} {meth : Method} {c : Code} {A0 : Nat → Prop} {E : rf_E} {a : Nat → Nat} {I : Nat → Int32} {A : Nat → Nat → Int32} {m_r : Nat → Int32} {m_st : Nat → Int32} {z : Int32 × Int32 × (Nat → Int32) × (Nat → Int32) × (Nat → Int32) × (Nat → Int32)} (hC : rf_C p E s m args meth c cX11_goThrough 10 RX11 (some .int) A0) (hD : va_D A0 (cM E a I A)) (e_m_r : A 2 = m_r) (e_m_st : A 4 = m_st) {k40 : Int32 → Int32 → Int32 → Int32 → Int32 → Int32 → (Nat → Int32) → (Nat → Int32) → (Nat → Int32) → (Nat → Int32) → Option (Int32 × Int32 × (Nat → Int32) × (Nat → Int32) × (Nat → Int32) × (Nat → Int32))} (hk40 : ∀ (v2 : Int32) (v3 : Int32) (v4 : Int32) (v5 : Int32) (v6 : Int32) (m_bestMany : Int32) (m_can : Nat → Int32) (m_now : Nat → Int32) (m_best : Nat → Int32) (m_hourOf : Nat → Int32), k40 v2 v3 v4 v5 v6 m_bestMany m_can m_now m_best m_hourOf = some z → ∀ (H : Heap) (locs : List Loc) (ls : Array Slot), va_P (rf_D E) vwCl (cM E a (rf_upL I [(15, m_bestMany)]) (rf_upL A [(7, m_can), (8, m_now), (9, m_best), (13, m_hourOf)])) H → va_S A0 s.heap H locs → lv_has ls 10 [(0, .ref (a 0)), (2, .int v2), (3, .int v3), (4, .int v4), (5, .int v5), (6, .int v6)] → W p l e ({ frames := 20, cells := 0, slots := 0, locals := 535 }) s m args below meth c H locs 0 0 (rf_QI below args s E A0 z.1 (cM E a (rf_upL I [(15, z.2.1)]) (rf_upL A [(7, z.2.2.1), (8, z.2.2.2.1), (9, z.2.2.2.2.1), (13, z.2.2.2.2.2)]))) (F0 m 40 ls [])) :
    ∀ (n : Nat), ∀ (v2 : Int32) (v3 : Int32) (v4 : Int32) (v5 : Int32) (v6 : Int32) (v8 : Int32) (v9 : Int32) (m_bestMany : Int32) (m_can : Nat → Int32) (m_now : Nat → Int32) (m_best : Nat → Int32) (m_hourOf : Nat → Int32), f_X11_goThrough_108 k40 m_r m_st n v2 v3 v4 v5 v6 v8 v9 m_bestMany m_can m_now m_best m_hourOf = some z → ∀ (H : Heap) (locs : List Loc) (ls : Array Slot), va_P (rf_D E) vwCl (cM E a (rf_upL I [(15, m_bestMany)]) (rf_upL A [(7, m_can), (8, m_now), (9, m_best), (13, m_hourOf)])) H → va_S A0 s.heap H locs → lv_has ls 10 [(0, .ref (a 0)), (2, .int v2), (3, .int v3), (4, .int v4), (5, .int v5), (6, .int v6), (8, .int v8), (9, .int v9)] → W p l e ({ frames := 20, cells := 0, slots := 0, locals := 535 }) s m args below meth c H locs 0 0 (rf_QI below args s E A0 z.1 (cM E a (rf_upL I [(15, z.2.1)]) (rf_upL A [(7, z.2.2.1), (8, z.2.2.2.1), (9, z.2.2.2.2.1), (13, z.2.2.2.2.2)]))) (F0 m 108 ls []) := by
  have hx := hC.1
  have hb := hC.2.1
  intro n
  induction n with
  | zero =>
    intro v2 v3 v4 v5 v6 v8 v9 m_bestMany m_can m_now m_best m_hourOf hf
    have hf : (none : Option (Int32 × Int32 × (Nat → Int32) × (Nat → Int32) × (Nat → Int32) × (Nat → Int32))) = some z := hf
    cases hf
  | succ n ih =>
    intro v2 v3 v4 v5 v6 v8 v9 m_bestMany m_can m_now m_best m_hourOf hf H locs ls hP hS hl
    rw [f_X11_goThrough_108] at hf
    refine lv_iload hx hb dX11_goThrough_108 (lv_at hl 7 rfl) ?_
    refine lv_aload_n hx hb dX11_goThrough_110 rfl (lv_at hl 0 rfl) ?_
    refine gM_m_r hC hP tw_1294 dX11_goThrough_111 ?_
    refine lv_iconst (v := 3) hx hb dX11_goThrough_114 (by decide) ?_
    refine lM_m_r hC hP (by decide) (f := m_r) e_m_r dX11_goThrough_115 ?_
    refine lv_icmp_ge (tgt := 202) hx hb dX11_goThrough_116 (by decide) (fun c_116 => ?_) (fun c_116 => ?_)
    · have hf := rf_it c_116 hf
      exact w_X11_goThrough_202 hC hD e_m_r e_m_st hk40 v2 v3 v4 v5 v6 v8 m_bestMany m_can m_now m_best m_hourOf hf _ _ _ hP hS (lv_sub hl [0, 1, 2, 3, 4, 5, 6] rfl)
    have hf := rf_ie c_116 hf
    refine lv_iload hx hb dX11_goThrough_119 (lv_at hl 6 rfl) ?_
    refine lv_aload_n hx hb dX11_goThrough_121 rfl (lv_at hl 0 rfl) ?_
    refine gM_m_r hC hP tw_1294 dX11_goThrough_122 ?_
    refine lv_iconst (v := 1) hx hb dX11_goThrough_125 (by decide) ?_
    refine lM_m_r hC hP (by decide) (f := m_r) e_m_r dX11_goThrough_126 ?_
    refine lv_icmp_ge (tgt := 202) hx hb dX11_goThrough_127 (by decide) (fun c_127 => ?_) (fun c_127 => ?_)
    · have hf := rf_it c_127 hf
      exact w_X11_goThrough_202 hC hD e_m_r e_m_st hk40 v2 v3 v4 v5 v6 v8 m_bestMany m_can m_now m_best m_hourOf hf _ _ _ hP hS (lv_sub hl [0, 1, 2, 3, 4, 5, 6] rfl)
    have hf := rf_ie c_127 hf
    refine lv_aload_n hx hb dX11_goThrough_130 rfl (lv_at hl 0 rfl) ?_
    refine gM_m_best hC hP tw_1303 dX11_goThrough_131 ?_
    refine lv_iload hx hb dX11_goThrough_134 (lv_at hl 7 rfl) ?_
    obtain ⟨hi_136, hf⟩ := rf_gu hf
    refine lM_m_best hC hP hi_136 (f := m_best) rfl dX11_goThrough_136 ?_
    refine lv_iload hx hb dX11_goThrough_137 (lv_at hl 7 rfl) ?_
    refine lv_icmp_ge (tgt := 145) hx hb dX11_goThrough_139 (by decide) (fun c_139 => ?_) (fun c_139 => ?_)
    · have hf := rf_it c_139 hf
      refine lv_iinc (v := v8 + 1) (lv' := [(8, .int (v8 + 1)), (0, .ref (a 0)), (2, .int v2), (3, .int v3), (4, .int v4), (5, .int v5), (6, .int v6), (9, .int v9)]) hx hb dX11_goThrough_145 hl (k := 6) rfl rfl (by decide) rfl (fun ls hl => ?_)
      refine lv_aload_n hx hb dX11_goThrough_148 rfl (lv_at hl 1 rfl) ?_
      refine gM_m_hourOf hC hP tw_1315 dX11_goThrough_149 ?_
      refine lv_iload hx hb dX11_goThrough_152 (lv_at hl 7 rfl) ?_
      refine lv_iload hx hb dX11_goThrough_154 (lv_at hl 6 rfl) ?_
      refine lv_iconst (v := 1) hx hb dX11_goThrough_156 (by decide) ?_
      refine lv_iadd hx hb dX11_goThrough_157 ?_
      obtain ⟨hi_158, hf⟩ := rf_gu hf
      refine sM_m_hourOf hC hD hP hS hi_158 (f := m_hourOf) rfl dX11_goThrough_158 (rf_upL A [(7, m_can), (8, m_now), (9, m_best), (13, upd m_hourOf (Int32.toNatClampNeg v9) (v6 + 1))]) (rf_put rfl) (fun H locs hP hS => ?_)
      refine lv_aload_n hx hb dX11_goThrough_159 rfl (lv_at hl 1 rfl) ?_
      refine gM_m_hourOf hC hP tw_1315 dX11_goThrough_160 ?_
      refine lv_aload_n hx hb dX11_goThrough_163 rfl (lv_at hl 1 rfl) ?_
      refine gM_m_best hC hP tw_1303 dX11_goThrough_164 ?_
      refine lv_iload hx hb dX11_goThrough_167 (lv_at hl 7 rfl) ?_
      obtain ⟨hi_169, hf⟩ := rf_gu hf
      refine lM_m_best hC hP hi_169 (f := m_best) rfl dX11_goThrough_169 ?_
      refine lv_iload hx hb dX11_goThrough_170 (lv_at hl 6 rfl) ?_
      refine lv_iconst (v := 1) hx hb dX11_goThrough_172 (by decide) ?_
      refine lv_iadd hx hb dX11_goThrough_173 ?_
      obtain ⟨hi_174, hf⟩ := rf_gu hf
      refine sM_m_hourOf hC hD hP hS hi_174 (f := upd m_hourOf (Int32.toNatClampNeg v9) (v6 + 1)) rfl dX11_goThrough_174 (rf_upL A [(7, m_can), (8, m_now), (9, m_best), (13, upd (upd m_hourOf (Int32.toNatClampNeg v9) (v6 + 1)) (Int32.toNatClampNeg (m_best (Int32.toNatClampNeg v9))) (v6 + 1))]) (rf_put rfl) (fun H locs hP hS => ?_)
      refine lv_iload hx hb dX11_goThrough_175 (lv_at hl 4 rfl) ?_
      refine lv_iconst (v := 1) hx hb dX11_goThrough_177 (by decide) ?_
      refine lv_iload hx hb dX11_goThrough_178 (lv_at hl 7 rfl) ?_
      refine lv_ishl hx hb dX11_goThrough_180 ?_
      refine lv_iconst (v := 1) hx hb dX11_goThrough_181 (by decide) ?_
      refine lv_aload_n hx hb dX11_goThrough_182 rfl (lv_at hl 1 rfl) ?_
      refine gM_m_best hC hP tw_1303 dX11_goThrough_183 ?_
      refine lv_iload hx hb dX11_goThrough_186 (lv_at hl 7 rfl) ?_
      obtain ⟨hi_188, hf⟩ := rf_gu hf
      refine lM_m_best hC hP hi_188 (f := m_best) rfl dX11_goThrough_188 ?_
      refine lv_ishl hx hb dX11_goThrough_189 ?_
      refine lv_ior hx hb dX11_goThrough_190 ?_
      refine lv_iconst (v := (-1)) hx hb dX11_goThrough_191 (by decide) ?_
      refine lv_ixor hx hb dX11_goThrough_192 ?_
      refine lv_iand hx hb dX11_goThrough_193 ?_
      refine lv_istore (lv' := [(4, .int (v4 &&& ((((1 : Int32) <<< (v9 &&& 31)) ||| ((1 : Int32) <<< ((m_best (Int32.toNatClampNeg v9)) &&& 31))) ^^^ (-1)))), (8, .int (v8 + 1)), (0, .ref (a 0)), (2, .int v2), (3, .int v3), (5, .int v5), (6, .int v6), (9, .int v9)]) hx hb dX11_goThrough_194 hl (by decide) rfl (fun ls hl => ?_)
      exact w_X11_goThrough_196 hC hD e_m_r e_m_st hk40 ih v2 v3 (v4 &&& ((((1 : Int32) <<< (v9 &&& 31)) ||| ((1 : Int32) <<< ((m_best (Int32.toNatClampNeg v9)) &&& 31))) ^^^ (-1))) v5 v6 (v8 + 1) v9 m_bestMany m_can m_now m_best (upd (upd m_hourOf (Int32.toNatClampNeg v9) (v6 + 1)) (Int32.toNatClampNeg (m_best (Int32.toNatClampNeg v9))) (v6 + 1)) hf _ _ _ hP hS (lv_sub hl [2, 3, 4, 0, 5, 6, 1, 7] rfl)
    have hf := rf_ie c_139 hf
    refine lv_goto (tgt := 196) hx hb dX11_goThrough_142 (by decide) ?_
    exact w_X11_goThrough_196 hC hD e_m_r e_m_st hk40 ih v2 v3 v4 v5 v6 v8 v9 m_bestMany m_can m_now m_best m_hourOf hf _ _ _ hP hS (lv_sub hl [0, 1, 2, 3, 4, 5, 6, 7] rfl)
set_option maxHeartbeats 4000000 in
set_option maxRecDepth 100000 in
theorem w_X11_goThrough_98 {l : Launch} {p : Program} {e : Env} {s : State} {m : MethodId} {args : Array Value} {below : List Frame} {meth : Method} {c : Code} {A0 : Nat → Prop} {E : rf_E} {a : Nat → Nat} {I : Nat → Int32} {A : Nat → Nat → Int32} {m_r : Nat → Int32} {m_st : Nat → Int32} {z : Int32 × Int32 × (Nat → Int32) × (Nat → Int32) × (Nat → Int32) × (Nat → Int32)} (hC : rf_C p E s m args meth c cX11_goThrough 10 RX11 (some .int) A0) (hD : va_D A0 (cM E a I A)) (e_m_r : A 2 = m_r) (e_m_st : A 4 = m_st) {k40 : Int32 → Int32 → Int32 → Int32 → Int32 → Int32 → (Nat → Int32) → (Nat → Int32) → (Nat → Int32) → (Nat → Int32) → Option (Int32 × Int32 × (Nat → Int32) × (Nat → Int32) × (Nat → Int32) × (Nat → Int32))} (hk40 : ∀ (v2 : Int32) (v3 : Int32) (v4 : Int32) (v5 : Int32) (v6 : Int32) (m_bestMany : Int32) (m_can : Nat → Int32) (m_now : Nat → Int32) (m_best : Nat → Int32) (m_hourOf : Nat → Int32), k40 v2 v3 v4 v5 v6 m_bestMany m_can m_now m_best m_hourOf = some z → ∀ (H : Heap) (locs : List Loc) (ls : Array Slot), va_P (rf_D E) vwCl (cM E a (rf_upL I [(15, m_bestMany)]) (rf_upL A [(7, m_can), (8, m_now), (9, m_best), (13, m_hourOf)])) H → va_S A0 s.heap H locs → lv_has ls 10 [(0, .ref (a 0)), (2, .int v2), (3, .int v3), (4, .int v4), (5, .int v5), (6, .int v6)] → W p l e ({ frames := 20, cells := 0, slots := 0, locals := 535 }) s m args below meth c H locs 0 0 (rf_QI below args s E A0 z.1 (cM E a (rf_upL I [(15, z.2.1)]) (rf_upL A [(7, z.2.2.1), (8, z.2.2.2.1), (9, z.2.2.2.2.1), (13, z.2.2.2.2.2)]))) (F0 m 40 ls [])) :
    ∀ (v2 : Int32) (v3 : Int32) (v4 : Int32) (v5 : Int32) (v6 : Int32) (s1 : Int32) (s2 : Int32) (m_bestMany : Int32) (m_can : Nat → Int32) (m_now : Nat → Int32) (m_best : Nat → Int32) (m_hourOf : Nat → Int32), f_X11_goThrough_98 k40 m_r m_st v2 v3 v4 v5 v6 s1 s2 m_bestMany m_can m_now m_best m_hourOf = some z → ∀ (H : Heap) (locs : List Loc) (ls : Array Slot), va_P (rf_D E) vwCl (cM E a (rf_upL I [(15, m_bestMany)]) (rf_upL A [(7, m_can), (8, m_now), (9, m_best), (13, m_hourOf)])) H → va_S A0 s.heap H locs → lv_has ls 10 [(0, .ref (a 0)), (2, .int v2), (3, .int v3), (4, .int v4), (5, .int v5), (6, .int v6)] → W p l e ({ frames := 20, cells := 0, slots := 0, locals := 535 }) s m args below meth c H locs 0 0 (rf_QI below args s E A0 z.1 (cM E a (rf_upL I [(15, z.2.1)]) (rf_upL A [(7, z.2.2.1), (8, z.2.2.2.1), (9, z.2.2.2.2.1), (13, z.2.2.2.2.2)]))) (F0 m 98 ls [.int s2, .int s1, .ref (a 0)]) := by
  have hx := hC.1
  have hb := hC.2.1
  intro v2 v3 v4 v5 v6 s1 s2 m_bestMany m_can m_now m_best m_hourOf hf H locs ls hP hS hl
  unfold f_X11_goThrough_98 at hf
  obtain ⟨z98, hz98, hf⟩ := rf_bd hf
  refine rf_vi (q0 := 0) (ci := 11) hC (c_X11_seekPairs l E a (rf_upL I [(15, m_bestMany)]) (rf_upL A [(7, m_can), (8, m_now), (9, m_best), (13, m_hourOf)]) m_r m_st m_bestMany m_can m_now m_best s1 s2 e_m_r e_m_st rfl rfl rfl rfl hz98) kV_X11_seekPairs tw_1707 ⟨Nat.le_of_ble_eq_true rfl, Nat.le_of_ble_eq_true rfl⟩ rfl rfl rfl rfl rfl hP (rf_DM hD) hS rfl hl.1 (rest := []) rfl (Nat.le_of_ble_eq_true rfl) dX11_goThrough_98 (fun H locs hP hS => ?_)
  rw [rf_cat (f := I) (l := [(15, m_bestMany)]) (lc := [(15, z98.2.1)]) (l' := [(15, z98.2.1)]) rfl] at hP
  rw [rf_cat (f := A) (l := [(7, m_can), (8, m_now), (9, m_best), (13, m_hourOf)]) (lc := [(7, z98.2.2.1), (8, z98.2.2.2.1), (9, z98.2.2.2.2)]) (l' := [(7, z98.2.2.1), (8, z98.2.2.2.1), (9, z98.2.2.2.2), (13, m_hourOf)]) rfl] at hP
  refine lv_pop hx hb dX11_goThrough_101 rfl ?_
  refine lv_iconst (v := 0) hx hb dX11_goThrough_102 (by decide) ?_
  refine lv_istore (lv' := [(8, .int 0), (0, .ref (a 0)), (2, .int v2), (3, .int v3), (4, .int v4), (5, .int v5), (6, .int v6)]) hx hb dX11_goThrough_103 hl (by decide) rfl (fun ls hl => ?_)
  refine lv_iconst (v := 0) hx hb dX11_goThrough_105 (by decide) ?_
  refine lv_istore (lv' := [(9, .int 0), (8, .int 0), (0, .ref (a 0)), (2, .int v2), (3, .int v3), (4, .int v4), (5, .int v5), (6, .int v6)]) hx hb dX11_goThrough_106 hl (by decide) rfl (fun ls hl => ?_)
  exact w_X11_goThrough_108 hC hD e_m_r e_m_st hk40 rf_fu v2 v3 v4 v5 v6 0 0 z98.2.1 z98.2.2.1 z98.2.2.2.1 z98.2.2.2.2 m_hourOf hf _ _ _ hP hS (lv_sub hl [2, 3, 4, 5, 6, 7, 1, 0] rfl)
set_option maxHeartbeats 4000000 in
set_option maxRecDepth 100000 in
theorem w_X11_goThrough_40 {l : Launch} {p : Program} {e : Env} {s : State} {m : MethodId} {args : Array Value} {below : List Frame} {meth : Method} {c : Code} {A0 : Nat → Prop} {E : rf_E} {a : Nat → Nat} {I : Nat → Int32} {A : Nat → Nat → Int32} {m_r : Nat → Int32} {m_st : Nat → Int32} {z : Int32 × Int32 × (Nat → Int32) × (Nat → Int32) × (Nat → Int32) × (Nat → Int32)} (hC : rf_C p E s m args meth c cX11_goThrough 10 RX11 (some .int) A0) (hD : va_D A0 (cM E a I A)) (e_m_r : A 2 = m_r) (e_m_st : A 4 = m_st) :
    ∀ (n : Nat), ∀ (v2 : Int32) (v3 : Int32) (v4 : Int32) (v5 : Int32) (v6 : Int32) (m_bestMany : Int32) (m_can : Nat → Int32) (m_now : Nat → Int32) (m_best : Nat → Int32) (m_hourOf : Nat → Int32), f_X11_goThrough_40 m_r m_st n v2 v3 v4 v5 v6 m_bestMany m_can m_now m_best m_hourOf = some z → ∀ (H : Heap) (locs : List Loc) (ls : Array Slot), va_P (rf_D E) vwCl (cM E a (rf_upL I [(15, m_bestMany)]) (rf_upL A [(7, m_can), (8, m_now), (9, m_best), (13, m_hourOf)])) H → va_S A0 s.heap H locs → lv_has ls 10 [(0, .ref (a 0)), (2, .int v2), (3, .int v3), (4, .int v4), (5, .int v5), (6, .int v6)] → W p l e ({ frames := 20, cells := 0, slots := 0, locals := 535 }) s m args below meth c H locs 0 0 (rf_QI below args s E A0 z.1 (cM E a (rf_upL I [(15, z.2.1)]) (rf_upL A [(7, z.2.2.1), (8, z.2.2.2.1), (9, z.2.2.2.2.1), (13, z.2.2.2.2.2)]))) (F0 m 40 ls []) := by
  have hx := hC.1
  have hb := hC.2.1
  intro n
  induction n with
  | zero =>
    intro v2 v3 v4 v5 v6 m_bestMany m_can m_now m_best m_hourOf hf
    have hf : (none : Option (Int32 × Int32 × (Nat → Int32) × (Nat → Int32) × (Nat → Int32) × (Nat → Int32))) = some z := hf
    cases hf
  | succ n ih =>
    intro v2 v3 v4 v5 v6 m_bestMany m_can m_now m_best m_hourOf hf H locs ls hP hS hl
    rw [f_X11_goThrough_40] at hf
    refine lv_iload hx hb dX11_goThrough_40 (lv_at hl 5 rfl) ?_
    refine lv_iload_n hx hb dX11_goThrough_42 rfl (lv_at hl 1 rfl) ?_
    refine lv_icmp_ge (tgt := 217) hx hb dX11_goThrough_43 (by decide) (fun c_43 => ?_) (fun c_43 => ?_)
    · have hf := rf_it c_43 hf
      refine lv_iload hx hb dX11_goThrough_217 (lv_at hl 4 rfl) ?_
      obtain rfl := Option.some.inj hf
      exact rf_reti hC hP hS rfl rfl dX11_goThrough_219
    have hf := rf_ie c_43 hf
    refine lv_bipush (v := 75) hx hb dX11_goThrough_46 (by decide) ?_
    refine lv_iload_n hx hb dX11_goThrough_48 rfl (lv_at hl 2 rfl) ?_
    refine lv_imul hx hb dX11_goThrough_49 ?_
    refine lv_bipush (v := 74) hx hb dX11_goThrough_50 (by decide) ?_
    refine lv_iadd hx hb dX11_goThrough_52 ?_
    refine lv_ldcw hx hb hC.2.2.2.1 (hC.2.2.2.2.1 _ tw_1853) dX11_goThrough_53 ?_
    refine lv_irem hx hb dX11_goThrough_56 (by decide) ?_
    refine lv_istore_n (lv' := [(3, .int ((((75 : Int32) * v3) + 74) - (((75 : Int32) * v3) + 74) / 65537 * 65537)), (0, .ref (a 0)), (2, .int v2), (4, .int v4), (5, .int v5), (6, .int v6)]) hx hb dX11_goThrough_57 rfl hl (by decide) rfl (fun ls hl => ?_)
    refine lv_aload_n hx hb dX11_goThrough_58 rfl (lv_at hl 1 rfl) ?_
    refine lv_aload_n hx hb dX11_goThrough_59 rfl (lv_at hl 1 rfl) ?_
    refine gM_m_st hC hP tw_1296 dX11_goThrough_60 ?_
    refine lv_bipush (v := 24) hx hb dX11_goThrough_63 (by decide) ?_
    refine lM_m_st hC hP (by decide) (f := m_st) e_m_st dX11_goThrough_65 ?_
    refine lv_iload hx hb dX11_goThrough_66 (lv_at hl 5 rfl) ?_
    refine lv_iadd hx hb dX11_goThrough_68 ?_
    refine lv_bipush (v := 24) hx hb dX11_goThrough_69 (by decide) ?_
    refine lv_irem hx hb dX11_goThrough_71 (by decide) ?_
    obtain ⟨z72, hz72, hf⟩ := rf_bd hf
    refine rf_vi (q0 := 0) (ci := 11) hC (c_X11_earAt l E a (rf_upL I [(15, m_bestMany)]) (rf_upL A [(7, m_can), (8, m_now), (9, m_best), (13, m_hourOf)]) m_r (((m_st (Int32.toNatClampNeg 24)) + v6) - ((m_st (Int32.toNatClampNeg 24)) + v6) / 24 * 24) e_m_r hz72) kV_X11_earAt tw_1624 ⟨Nat.le_of_ble_eq_true rfl, Nat.le_of_ble_eq_true rfl⟩ rfl rfl rfl rfl rfl hP (rf_DM hD) hS rfl hl.1 (rest := []) rfl (Nat.le_of_ble_eq_true rfl) dX11_goThrough_72 (fun H locs hP hS => ?_)
    refine lv_iload_n hx hb dX11_goThrough_75 rfl (lv_at hl 0 rfl) ?_
    refine lv_iconst (v := 3) hx hb dX11_goThrough_76 (by decide) ?_
    refine lv_irem hx hb dX11_goThrough_77 (by decide) ?_
    refine lv_iadd hx hb dX11_goThrough_78 ?_
    refine lv_iconst (v := 1) hx hb dX11_goThrough_79 (by decide) ?_
    refine lv_isub hx hb dX11_goThrough_80 ?_
    refine lv_istore (lv' := [(7, .int ((z72 + (((((75 : Int32) * v3) + 74) - (((75 : Int32) * v3) + 74) / 65537 * 65537) - ((((75 : Int32) * v3) + 74) - (((75 : Int32) * v3) + 74) / 65537 * 65537) / 3 * 3)) - 1)), (3, .int ((((75 : Int32) * v3) + 74) - (((75 : Int32) * v3) + 74) / 65537 * 65537)), (0, .ref (a 0)), (2, .int v2), (4, .int v4), (5, .int v5), (6, .int v6)]) hx hb dX11_goThrough_81 hl (by decide) rfl (fun ls hl => ?_)
    refine lv_aload_n hx hb dX11_goThrough_83 rfl (lv_at hl 2 rfl) ?_
    refine lv_iload hx hb dX11_goThrough_84 (lv_at hl 4 rfl) ?_
    refine lv_iload hx hb dX11_goThrough_86 (lv_at hl 0 rfl) ?_
    refine lv_iconst (v := 1) hx hb dX11_goThrough_88 (by decide) ?_
    refine lv_icmp_ge (tgt := 96) hx hb dX11_goThrough_89 (by decide) (fun c_89 => ?_) (fun c_89 => ?_)
    · have hf := rf_it c_89 hf
      refine lv_iload hx hb dX11_goThrough_96 (lv_at hl 0 rfl) ?_
      exact w_X11_goThrough_98 hC hD e_m_r e_m_st ih v2 ((((75 : Int32) * v3) + 74) - (((75 : Int32) * v3) + 74) / 65537 * 65537) v4 v5 v6 v4 ((z72 + (((((75 : Int32) * v3) + 74) - (((75 : Int32) * v3) + 74) / 65537 * 65537) - ((((75 : Int32) * v3) + 74) - (((75 : Int32) * v3) + 74) / 65537 * 65537) / 3 * 3)) - 1) m_bestMany m_can m_now m_best m_hourOf hf _ _ _ hP hS (lv_sub hl [2, 3, 1, 4, 5, 6] rfl)
    have hf := rf_ie c_89 hf
    refine lv_iconst (v := 1) hx hb dX11_goThrough_92 (by decide) ?_
    refine lv_goto (tgt := 98) hx hb dX11_goThrough_93 (by decide) ?_
    exact w_X11_goThrough_98 hC hD e_m_r e_m_st ih v2 ((((75 : Int32) * v3) + 74) - (((75 : Int32) * v3) + 74) / 65537 * 65537) v4 v5 v6 v4 1 m_bestMany m_can m_now m_best m_hourOf hf _ _ _ hP hS (lv_sub hl [2, 3, 1, 4, 5, 6] rfl)
set_option maxHeartbeats 4000000 in
set_option maxRecDepth 100000 in
theorem w_X11_goThrough_15 {l : Launch} {p : Program} {e : Env} {s : State} {m : MethodId} {args : Array Value} {below : List Frame} {meth : Method} {c : Code} {A0 : Nat → Prop} {E : rf_E} {a : Nat → Nat} {I : Nat → Int32} {A : Nat → Nat → Int32} {m_r : Nat → Int32} {m_st : Nat → Int32} {z : Int32 × Int32 × (Nat → Int32) × (Nat → Int32) × (Nat → Int32) × (Nat → Int32)} (hC : rf_C p E s m args meth c cX11_goThrough 10 RX11 (some .int) A0) (hD : va_D A0 (cM E a I A)) (e_m_r : A 2 = m_r) (e_m_st : A 4 = m_st) :
    ∀ (n : Nat), ∀ (v2 : Int32) (v3 : Int32) (v4 : Int32) (v5 : Int32) (v6 : Int32) (m_bestMany : Int32) (m_can : Nat → Int32) (m_now : Nat → Int32) (m_best : Nat → Int32) (m_hourOf : Nat → Int32), f_X11_goThrough_15 m_r m_st n v2 v3 v4 v5 v6 m_bestMany m_can m_now m_best m_hourOf = some z → ∀ (H : Heap) (locs : List Loc) (ls : Array Slot), va_P (rf_D E) vwCl (cM E a (rf_upL I [(15, m_bestMany)]) (rf_upL A [(7, m_can), (8, m_now), (9, m_best), (13, m_hourOf)])) H → va_S A0 s.heap H locs → lv_has ls 10 [(0, .ref (a 0)), (2, .int v2), (3, .int v3), (4, .int v4), (5, .int v5), (6, .int v6)] → W p l e ({ frames := 20, cells := 0, slots := 0, locals := 535 }) s m args below meth c H locs 0 0 (rf_QI below args s E A0 z.1 (cM E a (rf_upL I [(15, z.2.1)]) (rf_upL A [(7, z.2.2.1), (8, z.2.2.2.1), (9, z.2.2.2.2.1), (13, z.2.2.2.2.2)]))) (F0 m 15 ls []) := by
  have hx := hC.1
  have hb := hC.2.1
  intro n
  induction n with
  | zero =>
    intro v2 v3 v4 v5 v6 m_bestMany m_can m_now m_best m_hourOf hf
    have hf : (none : Option (Int32 × Int32 × (Nat → Int32) × (Nat → Int32) × (Nat → Int32) × (Nat → Int32))) = some z := hf
    cases hf
  | succ n ih =>
    intro v2 v3 v4 v5 v6 m_bestMany m_can m_now m_best m_hourOf hf H locs ls hP hS hl
    rw [f_X11_goThrough_15] at hf
    refine lv_iload hx hb dX11_goThrough_15 (lv_at hl 5 rfl) ?_
    refine lv_bipush (v := 8) hx hb dX11_goThrough_17 (by decide) ?_
    refine lv_icmp_ge (tgt := 37) hx hb dX11_goThrough_19 (by decide) (fun c_19 => ?_) (fun c_19 => ?_)
    · have hf := rf_it c_19 hf
      refine lv_iconst (v := 0) hx hb dX11_goThrough_37 (by decide) ?_
      refine lv_istore (lv' := [(6, .int 0), (0, .ref (a 0)), (2, .int v2), (3, .int v3), (4, .int v4), (5, .int v5)]) hx hb dX11_goThrough_38 hl (by decide) rfl (fun ls hl => ?_)
      exact w_X11_goThrough_40 hC hD e_m_r e_m_st rf_fu v2 v3 v4 v5 0 m_bestMany m_can m_now m_best m_hourOf hf _ _ _ hP hS (lv_sub hl [1, 2, 3, 4, 5, 0] rfl)
    have hf := rf_ie c_19 hf
    refine lv_aload_n hx hb dX11_goThrough_22 rfl (lv_at hl 0 rfl) ?_
    refine gM_m_hourOf hC hP tw_1315 dX11_goThrough_23 ?_
    refine lv_iload hx hb dX11_goThrough_26 (lv_at hl 5 rfl) ?_
    refine lv_bipush (v := (-2)) hx hb dX11_goThrough_28 (by decide) ?_
    obtain ⟨hi_30, hf⟩ := rf_gu hf
    refine sM_m_hourOf hC hD hP hS hi_30 (f := m_hourOf) rfl dX11_goThrough_30 (rf_upL A [(7, m_can), (8, m_now), (9, m_best), (13, upd m_hourOf (Int32.toNatClampNeg v6) (-2))]) (rf_put rfl) (fun H locs hP hS => ?_)
    refine lv_iinc (v := v6 + 1) (lv' := [(6, .int (v6 + 1)), (0, .ref (a 0)), (2, .int v2), (3, .int v3), (4, .int v4), (5, .int v5)]) hx hb dX11_goThrough_31 hl (k := 5) rfl rfl (by decide) rfl (fun ls hl => ?_)
    refine lv_goto (tgt := 15) hx hb dX11_goThrough_34 (by decide) ?_
    exact ih v2 v3 v4 v5 (v6 + 1) m_bestMany m_can m_now m_best (upd m_hourOf (Int32.toNatClampNeg v6) (-2)) hf _ _ _ hP hS (lv_sub hl [1, 2, 3, 4, 5, 0] rfl)
set_option maxHeartbeats 4000000 in
set_option maxRecDepth 100000 in
theorem c_X11_goThrough (l : Launch) (E : rf_E) (a : Nat → Nat) (I : Nat → Int32) (A : Nat → Nat → Int32) (m_r : Nat → Int32) (m_st : Nat → Int32) (m_bestMany : Int32) (m_can : Nat → Int32) (m_now : Nat → Int32) (m_best : Nat → Int32) (m_hourOf : Nat → Int32) (v1 : Int32) (v2 : Int32) {z : Int32 × Int32 × (Nat → Int32) × (Nat → Int32) × (Nat → Int32) × (Nat → Int32)} (e_m_r : A 2 = m_r) (e_m_st : A 4 = m_st) (e_m_bestMany : I 15 = m_bestMany) (e_m_can : A 7 = m_can) (e_m_now : A 8 = m_now) (e_m_best : A 9 = m_best) (e_m_hourOf : A 13 = m_hourOf) (hf : f_X11_goThrough m_r m_st m_bestMany m_can m_now m_best m_hourOf v1 v2 = some z) : rf_MI l yX11_goThrough cX11_goThrough 10 (some .int) ({ frames := 20, cells := 0, slots := 0, locals := 535 }) E [.ref (a 0), .int v1, .int v2] (cM E a I A) z.1 (cM E a (rf_upL I [(15, z.2.1)]) (rf_upL A [(7, z.2.2.1), (8, z.2.2.2.1), (9, z.2.2.2.2.1), (13, z.2.2.2.2.2)])) := by
  unfold f_X11_goThrough at hf
  refine rf_ofI (by decide) (Nat.le_of_ble_eq_true rfl) ?_
  intro p e s m below meth c A0 ls hC hD hP hS hl
  have hC : rf_C p E s m _ meth c cX11_goThrough 10 RX11 (some .int) A0 := hC
  have hx := hC.1
  have hb := hC.2.1
  have hl : lv_has ls 10 [(0, .ref (a 0)), (1, .int v1), (2, .int v2)] := hl
  have hP : va_P (rf_D E) vwCl (cM E a (rf_upL I [(15, m_bestMany)]) (rf_upL A [(7, m_can), (8, m_now), (9, m_best), (13, m_hourOf)])) s.heap := by
    rw [rf_self (f := I) [(15, m_bestMany)] (rf_fa1 e_m_bestMany rf_fa0)]
    rw [rf_self (f := A) [(7, m_can), (8, m_now), (9, m_best), (13, m_hourOf)] (rf_fa1 e_m_can (rf_fa1 e_m_now (rf_fa1 e_m_best (rf_fa1 e_m_hourOf rf_fa0))))]
    exact hP
  refine lv_iload_n hx hb dX11_goThrough_0 rfl (lv_at hl 1 rfl) ?_
  refine lv_istore_n (lv' := [(3, .int v1), (0, .ref (a 0)), (1, .int v1), (2, .int v2)]) hx hb dX11_goThrough_1 rfl hl (by decide) rfl (fun ls hl => ?_)
  refine lv_aload_n hx hb dX11_goThrough_2 rfl (lv_at hl 1 rfl) ?_
  refine lv_iconst (v := 0) hx hb dX11_goThrough_3 (by decide) ?_
  obtain ⟨z4, hz4, hf⟩ := rf_bd hf
  refine rf_vi (q0 := 0) (ci := 11) hC (c_X11_onBank l E a (rf_upL I [(15, m_bestMany)]) (rf_upL A [(7, m_can), (8, m_now), (9, m_best), (13, m_hourOf)]) m_r m_st 0 e_m_r e_m_st hz4) kV_X11_onBank tw_1691 ⟨Nat.le_of_ble_eq_true rfl, Nat.le_of_ble_eq_true rfl⟩ rfl rfl rfl rfl rfl hP (rf_DM hD) hS rfl hl.1 (rest := []) rfl (Nat.le_of_ble_eq_true rfl) dX11_goThrough_4 (fun H locs hP hS => ?_)
  refine lv_istore (lv' := [(4, .int z4), (3, .int v1), (0, .ref (a 0)), (1, .int v1), (2, .int v2)]) hx hb dX11_goThrough_7 hl (by decide) rfl (fun ls hl => ?_)
  refine lv_iconst (v := 0) hx hb dX11_goThrough_9 (by decide) ?_
  refine lv_istore (lv' := [(5, .int 0), (4, .int z4), (3, .int v1), (0, .ref (a 0)), (1, .int v1), (2, .int v2)]) hx hb dX11_goThrough_10 hl (by decide) rfl (fun ls hl => ?_)
  refine lv_iconst (v := 0) hx hb dX11_goThrough_12 (by decide) ?_
  refine lv_istore (lv' := [(6, .int 0), (5, .int 0), (4, .int z4), (3, .int v1), (0, .ref (a 0)), (1, .int v1), (2, .int v2)]) hx hb dX11_goThrough_13 hl (by decide) rfl (fun ls hl => ?_)
  exact w_X11_goThrough_15 hC hD e_m_r e_m_st rf_fu v2 v1 z4 0 0 m_bestMany m_can m_now m_best m_hourOf hf _ _ _ hP hS (lv_sub hl [4, 6, 3, 2, 1, 0] rfl)
