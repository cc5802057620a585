set_option maxHeartbeats 4000000 in
set_option maxRecDepth 100000 in
theorem w_X7_firstHas_18 {l : Launch} {p : Program} {e : Env} {s : State} {m : MethodId} {args : Array Value} {below : List Frame} {meth : Method} {c : Code} {A0 : Nat → Prop} {E : rf_E} {a P : Nat → Nat} {I : Nat → Int32} {J : Nat → Int64} {A : Nat → Nat → Int32} {B : Nat → Nat → Int64} {sellers_firstsOwn : Int32} {sellers_shared : Int32} {z : Int32} (hC : rf_C p E s m args meth c cX7_firstHas 3 RX7 (some .int) A0) (hD : va_D A0 (cX E a P I J A B)) (e_sellers_firstsOwn : I 12 = sellers_firstsOwn) (e_sellers_shared : I 14 = sellers_shared) :
    ∀ (s0 : Int32) (s1 : Int32) (s2 : Int32), f_X7_firstHas_18 sellers_firstsOwn sellers_shared s0 s1 s2 = some z → ∀ (H : Heap) (locs : List Loc) (ls : Array Slot), va_P (rf_D E) vwCl (cX E a P I J A B) H → va_S A0 s.heap H locs → lv_has ls 3 [] → W p l e ({ frames := 0, cells := 0, slots := 0, locals := 0 }) s m args below meth c H locs 0 0 (rf_QI below args s E A0 z (cX E a P I J A B)) (F0 m 18 ls [.int s2, .int s1, .int s0]) := by
  have hx := hC.1
  have hb := hC.2.1
  intro s0 s1 s2 hf H locs ls hP hS hl
  unfold f_X7_firstHas_18 at hf
  refine lv_iadd hx hb dX7_firstHas_18 ?_
  refine lv_imul hx hb dX7_firstHas_19 ?_
  obtain rfl := Option.some.inj hf
  exact rf_reti hC hP hS rfl rfl dX7_firstHas_20
set_option maxHeartbeats 4000000 in
set_option maxRecDepth 100000 in
theorem c_X7_firstHas (l : Launch) (E : rf_E) (a P : Nat → Nat) (I : Nat → Int32) (J : Nat → Int64) (A : Nat → Nat → Int32) (B : Nat → Nat → Int64) (sellers_firstsOwn : Int32) (sellers_shared : Int32) (v1 : Int32) (v2 : Int32) {z : Int32} (e_sellers_firstsOwn : I 12 = sellers_firstsOwn) (e_sellers_shared : I 14 = sellers_shared) (hf : f_X7_firstHas sellers_firstsOwn sellers_shared v1 v2 = some z) : rf_MI l yX7_firstHas cX7_firstHas 3 (some .int) ({ frames := 0, cells := 0, slots := 0, locals := 0 }) E [.ref (a 6), .int v1, .int v2] (cX E a P I J A B) z (cX E a P I J A B) := by
  unfold f_X7_firstHas at hf
  refine rf_ofI (by decide) (Nat.le_of_ble_eq_true rfl) ?_
  intro p e s m below meth c A0 ls hC hD hP hS hl
  have hC : rf_C p E s m _ meth c cX7_firstHas 3 RX7 (some .int) A0 := hC
  have hx := hC.1
  have hb := hC.2.1
  have hl : lv_has ls 3 [(0, .ref (a 6)), (1, .int v1), (2, .int v2)] := hl
  refine lv_iload_n hx hb dX7_firstHas_0 rfl (lv_at hl 1 rfl) ?_
  refine lv_aload_n hx hb dX7_firstHas_1 rfl (lv_at hl 0 rfl) ?_
  refine gX_sellers_firstsOwn hC hP tw_277 (v := sellers_firstsOwn) e_sellers_firstsOwn dX7_firstHas_2 ?_
  refine lv_iload_n hx hb dX7_firstHas_5 rfl (lv_at hl 1 rfl) ?_
  refine lv_iload_n hx hb dX7_firstHas_6 rfl (lv_at hl 2 rfl) ?_
  refine lv_icmp_gt (tgt := 17) hx hb dX7_firstHas_7 (by decide) (fun c_7 => ?_) (fun c_7 => ?_)
  · have hf := rf_it c_7 hf
    refine lv_iconst (v := 0) hx hb dX7_firstHas_17 (by decide) ?_
    exact w_X7_firstHas_18 hC hD e_sellers_firstsOwn e_sellers_shared v1 sellers_firstsOwn 0 hf _ _ _ hP hS (lv_sub hl [] rfl)
  have hf := rf_ie c_7 hf
  refine lv_aload_n hx hb dX7_firstHas_10 rfl (lv_at hl 0 rfl) ?_
  refine gX_sellers_shared hC hP tw_279 (v := sellers_shared) e_sellers_shared dX7_firstHas_11 ?_
  refine lv_goto (tgt := 18) hx hb dX7_firstHas_14 (by decide) ?_
  exact w_X7_firstHas_18 hC hD e_sellers_firstsOwn e_sellers_shared v1 sellers_firstsOwn sellers_shared hf _ _ _ hP hS (lv_sub hl [] rfl)
set_option maxHeartbeats 4000000 in
set_option maxRecDepth 100000 in
theorem w_X7_secondHas_18 {l : Launch} {p : Program} {e : Env} {s : State} {m : MethodId} {args : Array Value} {below : List Frame} {meth : Method} {c : Code} {A0 : Nat → Prop} {E : rf_E} {a P : Nat → Nat} {I : Nat → Int32} {J : Nat → Int64} {A : Nat → Nat → Int32} {B : Nat → Nat → Int64} {sellers_secondsOwn : Int32} {sellers_shared : Int32} {z : Int32} (hC : rf_C p E s m args meth c cX7_secondHas 3 RX7 (some .int) A0) (hD : va_D A0 (cX E a P I J A B)) (e_sellers_secondsOwn : I 13 = sellers_secondsOwn) (e_sellers_shared : I 14 = sellers_shared) :
    ∀ (s0 : Int32) (s1 : Int32) (s2 : Int32), f_X7_secondHas_18 sellers_secondsOwn sellers_shared s0 s1 s2 = some z → ∀ (H : Heap) (locs : List Loc) (ls : Array Slot), va_P (rf_D E) vwCl (cX E a P I J A B) H → va_S A0 s.heap H locs → lv_has ls 3 [] → W p l e ({ frames := 0, cells := 0, slots := 0, locals := 0 }) s m args below meth c H locs 0 0 (rf_QI below args s E A0 z (cX E a P I J A B)) (F0 m 18 ls [.int s2, .int s1, .int s0]) := by
  have hx := hC.1
  have hb := hC.2.1
  intro s0 s1 s2 hf H locs ls hP hS hl
  unfold f_X7_secondHas_18 at hf
  refine lv_iadd hx hb dX7_secondHas_18 ?_
  refine lv_imul hx hb dX7_secondHas_19 ?_
  obtain rfl := Option.some.inj hf
  exact rf_reti hC hP hS rfl rfl dX7_secondHas_20
set_option maxHeartbeats 4000000 in
set_option maxRecDepth 100000 in
theorem c_X7_secondHas (l : Launch) (E : rf_E) (a P : Nat → Nat) (I : Nat → Int32) (J : Nat → Int64) (A : Nat → Nat → Int32) (B : Nat → Nat → Int64) (sellers_secondsOwn : Int32) (sellers_shared : Int32) (v1 : Int32) (v2 : Int32) {z : Int32} (e_sellers_secondsOwn : I 13 = sellers_secondsOwn) (e_sellers_shared : I 14 = sellers_shared) (hf : f_X7_secondHas sellers_secondsOwn sellers_shared v1 v2 = some z) : rf_MI l yX7_secondHas cX7_secondHas 3 (some .int) ({ frames := 0, cells := 0, slots := 0, locals := 0 }) E [.ref (a 6), .int v1, .int v2] (cX E a P I J A B) z (cX E a P I J A B) := by
  unfold f_X7_secondHas at hf
  refine rf_ofI (by decide) (Nat.le_of_ble_eq_true rfl) ?_
  intro p e s m below meth c A0 ls hC hD hP hS hl
  have hC : rf_C p E s m _ meth c cX7_secondHas 3 RX7 (some .int) A0 := hC
  have hx := hC.1
  have hb := hC.2.1
  have hl : lv_has ls 3 [(0, .ref (a 6)), (1, .int v1), (2, .int v2)] := hl
  refine lv_iload_n hx hb dX7_secondHas_0 rfl (lv_at hl 2 rfl) ?_
  refine lv_aload_n hx hb dX7_secondHas_1 rfl (lv_at hl 0 rfl) ?_
  refine gX_sellers_secondsOwn hC hP tw_278 (v := sellers_secondsOwn) e_sellers_secondsOwn dX7_secondHas_2 ?_
  refine lv_iload_n hx hb dX7_secondHas_5 rfl (lv_at hl 2 rfl) ?_
  refine lv_iload_n hx hb dX7_secondHas_6 rfl (lv_at hl 1 rfl) ?_
  refine lv_icmp_ge (tgt := 17) hx hb dX7_secondHas_7 (by decide) (fun c_7 => ?_) (fun c_7 => ?_)
  · have hf := rf_it c_7 hf
    refine lv_iconst (v := 0) hx hb dX7_secondHas_17 (by decide) ?_
    exact w_X7_secondHas_18 hC hD e_sellers_secondsOwn e_sellers_shared v2 sellers_secondsOwn 0 hf _ _ _ hP hS (lv_sub hl [] rfl)
  have hf := rf_ie c_7 hf
  refine lv_aload_n hx hb dX7_secondHas_10 rfl (lv_at hl 0 rfl) ?_
  refine gX_sellers_shared hC hP tw_279 (v := sellers_shared) e_sellers_shared dX7_secondHas_11 ?_
  refine lv_goto (tgt := 18) hx hb dX7_secondHas_14 (by decide) ?_
  exact w_X7_secondHas_18 hC hD e_sellers_secondsOwn e_sellers_shared v2 sellers_secondsOwn sellers_shared hf _ _ _ hP hS (lv_sub hl [] rfl)
set_option maxHeartbeats 4000000 in
set_option maxRecDepth 100000 in
theorem w_X10_sells_38 {l : Launch} {p : Program} {e : Env} {s : State} {m : MethodId} {args : Array Value} {below : List Frame} {meth : Method} {c : Code} {A0 : Nat → Prop} {E : rf_E} {a P : Nat → Nat} {I : Nat → Int32} {J : Nat → Int64} {A : Nat → Nat → Int32} {B : Nat → Nat → Int64} {now_everybody : Int32} {now_far : Int32} {tc_ear : Int32} {tc_wordCount : Int32} {tc_personCount : Int32} {now_words : Nat → Int32} {tc_kinds : Nat → Int32} {tc_hourEars : Nat → Int32} {tc_close : Nat → Int32} {z : Int32 × Int32 × Int32 × Int32 × Int32} (hC : rf_C p E s m args meth c cX10_sells 7 RX10 (some .int) A0) (hD : va_D A0 (cX E a P I J A B)) (hp0 : P 0 = a 10) (hp2 : P 2 = a 10) (e_now_everybody : I 6 = now_everybody) (e_now_far : I 7 = now_far) (e_tc_ear : I 21 = tc_ear) (e_tc_wordCount : I 23 = tc_wordCount) (e_tc_personCount : I 24 = tc_personCount) (e_now_words : A 1 = now_words) (e_tc_kinds : A 14 = tc_kinds) (e_tc_hourEars : A 18 = tc_hourEars) (e_tc_close : A 22 = tc_close) :
    ∀ (v1 : Int32) (v2 : Int32) (v3 : Int32) (v4 : Int32) (v5 : Int32) (v6 : Int32) (s1 : Int32) (s2 : Int32) (x_lastTrouble : Int32) (sellers_firstsOwn : Int32) (sellers_secondsOwn : Int32) (sellers_shared : Int32), f_X10_sells_38 now_everybody now_far tc_ear tc_wordCount tc_personCount now_words tc_kinds tc_hourEars tc_close v1 v2 v3 v4 v5 v6 s1 s2 x_lastTrouble sellers_firstsOwn sellers_secondsOwn sellers_shared = some z → ∀ (H : Heap) (locs : List Loc) (ls : Array Slot), va_P (rf_D E) vwCl (cX E a P (rf_upL I [(3, x_lastTrouble), (12, sellers_firstsOwn), (13, sellers_secondsOwn), (14, sellers_shared)]) J A B) H → va_S A0 s.heap H locs → lv_has ls 7 [(0, .ref (a 0)), (1, .int v1), (2, .int v2), (3, .int v3), (4, .int v4), (5, .int v5), (6, .int v6)] → W p l e ({ frames := 6, cells := 0, slots := 0, locals := 153 }) s m args below meth c H locs 0 0 (rf_QI below args s E A0 z.1 (cX E a P (rf_upL I [(3, z.2.1), (12, z.2.2.1), (13, z.2.2.2.1), (14, z.2.2.2.2)]) J A B)) (F0 m 38 ls [.int s2, .int s1, .ref (a 0)]) := by
  have hx := hC.1
  have hb := hC.2.1
  intro v1 v2 v3 v4 v5 v6 s1 s2 x_lastTrouble sellers_firstsOwn sellers_secondsOwn sellers_shared hf H locs ls hP hS hl
  unfold f_X10_sells_38 at hf
  obtain ⟨z38, hz38, hf⟩ := rf_bd hf
  refine rf_vi (q0 := 0) (ci := 10) hC (c_X10_refused l E a P (rf_upL I [(3, x_lastTrouble), (12, sellers_firstsOwn), (13, sellers_secondsOwn), (14, sellers_shared)]) J A B x_lastTrouble s1 s2 rfl hz38) kV_X10_refused tw_455 ⟨Nat.le_of_ble_eq_true rfl, Nat.le_of_ble_eq_true rfl⟩ rfl rfl rfl rfl rfl hP (rf_DX hD) hS rfl hl.1 (rest := []) rfl (Nat.le_of_ble_eq_true rfl) dX10_sells_38 (fun H locs hP hS => ?_)
  rw [rf_cat (f := I) (l := [(3, x_lastTrouble), (12, sellers_firstsOwn), (13, sellers_secondsOwn), (14, sellers_shared)]) (lc := [(3, z38.2)]) (l' := [(3, z38.2), (12, sellers_firstsOwn), (13, sellers_secondsOwn), (14, sellers_shared)]) rfl] at hP
  refine lv_if_eq (tgt := 46) hx hb dX10_sells_41 (by decide) (fun c_41 => ?_) (fun c_41 => ?_)
  · have hf := rf_it c_41 hf
    refine lv_aload_n hx hb dX10_sells_46 rfl (lv_at hl 0 rfl) ?_
    refine gX_x_sellers hC hP tw_397 dX10_sells_47 ?_
    refine lv_iload_n hx hb dX10_sells_50 rfl (lv_at hl 1 rfl) ?_
    refine lv_iload_n hx hb dX10_sells_51 rfl (lv_at hl 3 rfl) ?_
    refine lv_aload_n hx hb dX10_sells_52 rfl (lv_at hl 0 rfl) ?_
    refine gX_x_tale hC hP tw_401 (v := a 10) hp0 dX10_sells_53 ?_
    refine lv_iload hx hb dX10_sells_56 (lv_at hl 5 rfl) ?_
    obtain ⟨z58, hz58, hf⟩ := rf_bd hf
    refine rf_vi (q0 := 10) (ci := 9) hC (c_X9_earAt_tc l E a P (rf_upL I [(3, z38.2), (12, sellers_firstsOwn), (13, sellers_secondsOwn), (14, sellers_shared)]) J A B tc_ear tc_hourEars v5 e_tc_ear e_tc_hourEars hz58) kV_X9_earAt tw_770 ⟨Nat.le_of_ble_eq_true rfl, Nat.le_of_ble_eq_true rfl⟩ rfl rfl rfl rfl rfl hP (rf_DX hD) hS rfl hl.1 (rest := [.int v3, .int v1, .ref (a 6)]) rfl (Nat.le_of_ble_eq_true rfl) dX10_sells_58 (fun H locs hP hS => ?_)
    obtain ⟨z61, hz61, hf⟩ := rf_bd hf
    refine rf_vv (q0 := 6) (ci := 7) hC (c_X7_countBuyers l E a P (rf_upL I [(3, z38.2), (12, sellers_firstsOwn), (13, sellers_secondsOwn), (14, sellers_shared)]) J A B now_everybody now_far tc_wordCount tc_personCount now_words tc_kinds tc_close sellers_firstsOwn sellers_secondsOwn sellers_shared v1 v3 z58 hp2 e_now_everybody e_now_far e_tc_wordCount e_tc_personCount e_now_words e_tc_kinds e_tc_close rfl rfl rfl hz61) kV_X7_countBuyers tw_1077 ⟨Nat.le_of_ble_eq_true rfl, Nat.le_of_ble_eq_true rfl⟩ rfl rfl rfl rfl rfl hP (rf_DX hD) hS rfl hl.1 (rest := []) rfl (Nat.le_of_ble_eq_true rfl) dX10_sells_61 (fun H locs hP hS => ?_)
    rw [rf_cat (f := I) (l := [(3, z38.2), (12, sellers_firstsOwn), (13, sellers_secondsOwn), (14, sellers_shared)]) (lc := [(12, z61.1), (13, z61.2.1), (14, z61.2.2)]) (l' := [(3, z38.2), (12, z61.1), (13, z61.2.1), (14, z61.2.2)]) rfl] at hP
    refine lv_iload hx hb dX10_sells_64 (lv_at hl 6 rfl) ?_
    refine lv_if_eq (tgt := 82) hx hb dX10_sells_66 (by decide) (fun c_66 => ?_) (fun c_66 => ?_)
    · have hf := rf_it c_66 hf
      refine lv_aload_n hx hb dX10_sells_82 rfl (lv_at hl 0 rfl) ?_
      refine gX_x_sellers hC hP tw_397 dX10_sells_83 ?_
      refine lv_iload_n hx hb dX10_sells_86 rfl (lv_at hl 2 rfl) ?_
      refine lv_iload hx hb dX10_sells_87 (lv_at hl 4 rfl) ?_
      obtain ⟨z89, hz89, hf⟩ := rf_bd hf
      refine rf_vi (q0 := 6) (ci := 7) hC (c_X7_firstHas l E a P (rf_upL I [(3, z38.2), (12, z61.1), (13, z61.2.1), (14, z61.2.2)]) J A B z61.1 z61.2.2 v2 v4 rfl rfl hz89) kV_X7_firstHas tw_1089 ⟨Nat.le_of_ble_eq_true rfl, Nat.le_of_ble_eq_true rfl⟩ rfl rfl rfl rfl rfl hP (rf_DX hD) hS rfl hl.1 (rest := []) rfl (Nat.le_of_ble_eq_true rfl) dX10_sells_89 (fun H locs hP hS => ?_)
      obtain rfl := Option.some.inj hf
      exact rf_reti hC hP hS rfl rfl dX10_sells_92
    have hf := rf_ie c_66 hf
    refine lv_aload_n hx hb dX10_sells_69 rfl (lv_at hl 0 rfl) ?_
    refine gX_x_sellers hC hP tw_397 dX10_sells_70 ?_
    refine lv_iload_n hx hb dX10_sells_73 rfl (lv_at hl 2 rfl) ?_
    refine lv_iload hx hb dX10_sells_74 (lv_at hl 4 rfl) ?_
    obtain ⟨z76, hz76, hf⟩ := rf_bd hf
    refine rf_vi (q0 := 6) (ci := 7) hC (c_X7_secondHas l E a P (rf_upL I [(3, z38.2), (12, z61.1), (13, z61.2.1), (14, z61.2.2)]) J A B z61.2.1 z61.2.2 v2 v4 rfl rfl hz76) kV_X7_secondHas tw_1085 ⟨Nat.le_of_ble_eq_true rfl, Nat.le_of_ble_eq_true rfl⟩ rfl rfl rfl rfl rfl hP (rf_DX hD) hS rfl hl.1 (rest := []) rfl (Nat.le_of_ble_eq_true rfl) dX10_sells_76 (fun H locs hP hS => ?_)
    refine lv_goto (tgt := 92) hx hb dX10_sells_79 (by decide) ?_
    obtain rfl := Option.some.inj hf
    exact rf_reti hC hP hS rfl rfl dX10_sells_92
  have hf := rf_ie c_41 hf
  refine lv_iconst (v := (-1)) hx hb dX10_sells_44 (by decide) ?_
  obtain rfl := Option.some.inj hf
  exact rf_reti hC hP hS rfl rfl dX10_sells_45
set_option maxHeartbeats 4000000 in
set_option maxRecDepth 100000 in
theorem w_X10_sells_37 {l : Launch} {p : Program} {e : Env} {s : State} {m : MethodId} {args : Array Value} {below : List Frame} {meth : Method} {c : Code} {A0 : Nat → Prop} {E : rf_E} {a P : Nat → Nat} {I : Nat → Int32} {J : Nat → Int64} {A : Nat → Nat → Int32} {B : Nat → Nat → Int64} {now_everybody : Int32} {now_far : Int32} {tc_ear : Int32} {tc_wordCount : Int32} {tc_personCount : Int32} {now_words : Nat → Int32} {tc_kinds : Nat → Int32} {tc_hourEars : Nat → Int32} {tc_close : Nat → Int32} {z : Int32 × Int32 × Int32 × Int32 × Int32} (hC : rf_C p E s m args meth c cX10_sells 7 RX10 (some .int) A0) (hD : va_D A0 (cX E a P I J A B)) (hp0 : P 0 = a 10) (hp2 : P 2 = a 10) (e_now_everybody : I 6 = now_everybody) (e_now_far : I 7 = now_far) (e_tc_ear : I 21 = tc_ear) (e_tc_wordCount : I 23 = tc_wordCount) (e_tc_personCount : I 24 = tc_personCount) (e_now_words : A 1 = now_words) (e_tc_kinds : A 14 = tc_kinds) (e_tc_hourEars : A 18 = tc_hourEars) (e_tc_close : A 22 = tc_close) :
    ∀ (v1 : Int32) (v2 : Int32) (v3 : Int32) (v4 : Int32) (v5 : Int32) (v6 : Int32) (s1 : Int32) (x_lastTrouble : Int32) (sellers_firstsOwn : Int32) (sellers_secondsOwn : Int32) (sellers_shared : Int32), f_X10_sells_37 now_everybody now_far tc_ear tc_wordCount tc_personCount now_words tc_kinds tc_hourEars tc_close v1 v2 v3 v4 v5 v6 s1 x_lastTrouble sellers_firstsOwn sellers_secondsOwn sellers_shared = some z → ∀ (H : Heap) (locs : List Loc) (ls : Array Slot), va_P (rf_D E) vwCl (cX E a P (rf_upL I [(3, x_lastTrouble), (12, sellers_firstsOwn), (13, sellers_secondsOwn), (14, sellers_shared)]) J A B) H → va_S A0 s.heap H locs → lv_has ls 7 [(0, .ref (a 0)), (1, .int v1), (2, .int v2), (3, .int v3), (4, .int v4), (5, .int v5), (6, .int v6)] → W p l e ({ frames := 6, cells := 0, slots := 0, locals := 153 }) s m args below meth c H locs 0 0 (rf_QI below args s E A0 z.1 (cX E a P (rf_upL I [(3, z.2.1), (12, z.2.2.1), (13, z.2.2.2.1), (14, z.2.2.2.2)]) J A B)) (F0 m 37 ls [.int s1, .ref (a 0)]) := by
  have hx := hC.1
  have hb := hC.2.1
  intro v1 v2 v3 v4 v5 v6 s1 x_lastTrouble sellers_firstsOwn sellers_secondsOwn sellers_shared hf H locs ls hP hS hl
  unfold f_X10_sells_37 at hf
  refine lv_iconst (v := 0) hx hb dX10_sells_37 (by decide) ?_
  exact w_X10_sells_38 hC hD hp0 hp2 e_now_everybody e_now_far e_tc_ear e_tc_wordCount e_tc_personCount e_now_words e_tc_kinds e_tc_hourEars e_tc_close v1 v2 v3 v4 v5 v6 s1 0 x_lastTrouble sellers_firstsOwn sellers_secondsOwn sellers_shared hf _ _ _ hP hS (lv_sub hl [0, 1, 2, 3, 4, 5, 6] rfl)
set_option maxHeartbeats 4000000 in
set_option maxRecDepth 100000 in
theorem c_X10_sells (l : Launch) (E : rf_E) (a P : Nat → Nat) (I : Nat → Int32) (J : Nat → Int64) (A : Nat → Nat → Int32) (B : Nat → Nat → Int64) (now_everybody : Int32) (now_far : Int32) (tc_ear : Int32) (tc_wordCount : Int32) (tc_personCount : Int32) (now_words : Nat → Int32) (tc_kinds : Nat → Int32) (tc_hourEars : Nat → Int32) (tc_close : Nat → Int32) (x_lastTrouble : Int32) (sellers_firstsOwn : Int32) (sellers_secondsOwn : Int32) (sellers_shared : Int32) (v1 : Int32) (v2 : Int32) (v3 : Int32) (v4 : Int32) (v5 : Int32) (v6 : Int32) {z : Int32 × Int32 × Int32 × Int32 × Int32} (hp0 : P 0 = a 10) (hp2 : P 2 = a 10) (e_now_everybody : I 6 = now_everybody) (e_now_far : I 7 = now_far) (e_tc_ear : I 21 = tc_ear) (e_tc_wordCount : I 23 = tc_wordCount) (e_tc_personCount : I 24 = tc_personCount) (e_now_words : A 1 = now_words) (e_tc_kinds : A 14 = tc_kinds) (e_tc_hourEars : A 18 = tc_hourEars) (e_tc_close : A 22 = tc_close) (e_x_lastTrouble : I 3 = x_lastTrouble) (e_sellers_firstsOwn : I 12 = sellers_firstsOwn) (e_sellers_secondsOwn : I 13 = sellers_secondsOwn) (e_sellers_shared : I 14 = sellers_shared) (hf : f_X10_sells now_everybody now_far tc_ear tc_wordCount tc_personCount now_words tc_kinds tc_hourEars tc_close x_lastTrouble sellers_firstsOwn sellers_secondsOwn sellers_shared v1 v2 v3 v4 v5 v6 = some z) : rf_MI l yX10_sells cX10_sells 7 (some .int) ({ frames := 6, cells := 0, slots := 0, locals := 153 }) E [.ref (a 0), .int v1, .int v2, .int v3, .int v4, .int v5, .int v6] (cX E a P I J A B) z.1 (cX E a P (rf_upL I [(3, z.2.1), (12, z.2.2.1), (13, z.2.2.2.1), (14, z.2.2.2.2)]) J A B) := by
  unfold f_X10_sells at hf
  refine rf_ofI (by decide) (Nat.le_of_ble_eq_true rfl) ?_
  intro p e s m below meth c A0 ls hC hD hP hS hl
  have hC : rf_C p E s m _ meth c cX10_sells 7 RX10 (some .int) A0 := hC
  have hx := hC.1
  have hb := hC.2.1
  have hl : lv_has ls 7 [(0, .ref (a 0)), (1, .int v1), (2, .int v2), (3, .int v3), (4, .int v4), (5, .int v5), (6, .int v6)] := hl
  have hP : va_P (rf_D E) vwCl (cX E a P (rf_upL I [(3, x_lastTrouble), (12, sellers_firstsOwn), (13, sellers_secondsOwn), (14, sellers_shared)]) J A B) s.heap := by
    rw [rf_self (f := I) [(3, x_lastTrouble), (12, sellers_firstsOwn), (13, sellers_secondsOwn), (14, sellers_shared)] (rf_fa1 e_x_lastTrouble (rf_fa1 e_sellers_firstsOwn (rf_fa1 e_sellers_secondsOwn (rf_fa1 e_sellers_shared rf_fa0))))]
    exact hP
  refine lv_aload_n hx hb dX10_sells_0 rfl (lv_at hl 0 rfl) ?_
  refine lv_aload_n hx hb dX10_sells_1 rfl (lv_at hl 0 rfl) ?_
  refine lv_iload_n hx hb dX10_sells_2 rfl (lv_at hl 1 rfl) ?_
  refine lv_iload_n hx hb dX10_sells_3 rfl (lv_at hl 3 rfl) ?_
  obtain ⟨z4, hz4, hf⟩ := rf_bd hf
  refine rf_vi (q0 := 0) (ci := 10) hC (c_X10_isTwoWords l E a P (rf_upL I [(3, x_lastTrouble), (12, sellers_firstsOwn), (13, sellers_secondsOwn), (14, sellers_shared)]) J A B tc_wordCount v1 v3 hp0 e_tc_wordCount hz4) kV_X10_isTwoWords tw_1069 ⟨Nat.le_of_ble_eq_true rfl, Nat.le_of_ble_eq_true rfl⟩ rfl rfl rfl rfl rfl hP (rf_DX hD) hS rfl hl.1 (rest := [.ref (a 0)]) rfl (Nat.le_of_ble_eq_true rfl) dX10_sells_4 (fun H locs hP hS => ?_)
  refine lv_aload_n hx hb dX10_sells_7 rfl (lv_at hl 0 rfl) ?_
  refine lv_iload_n hx hb dX10_sells_8 rfl (lv_at hl 2 rfl) ?_
  obtain ⟨z9, hz9, hf⟩ := rf_bd hf
  refine rf_vi (q0 := 0) (ci := 10) hC (c_X10_isPrice l E a P (rf_upL I [(3, x_lastTrouble), (12, sellers_firstsOwn), (13, sellers_secondsOwn), (14, sellers_shared)]) J A B v2 hz9) kV_X10_isPrice tw_1073 ⟨Nat.le_of_ble_eq_true rfl, Nat.le_of_ble_eq_true rfl⟩ rfl rfl rfl rfl rfl hP (rf_DX hD) hS rfl hl.1 (rest := [.int z4, .ref (a 0)]) rfl (Nat.le_of_ble_eq_true rfl) dX10_sells_9 (fun H locs hP hS => ?_)
  refine lv_if_eq (tgt := 37) hx hb dX10_sells_12 (by decide) (fun c_12 => ?_) (fun c_12 => ?_)
  · have hf := rf_it c_12 hf
    exact w_X10_sells_37 hC hD hp0 hp2 e_now_everybody e_now_far e_tc_ear e_tc_wordCount e_tc_personCount e_now_words e_tc_kinds e_tc_hourEars e_tc_close v1 v2 v3 v4 v5 v6 z4 x_lastTrouble sellers_firstsOwn sellers_secondsOwn sellers_shared hf _ _ _ hP hS (lv_sub hl [0, 1, 2, 3, 4, 5, 6] rfl)
  have hf := rf_ie c_12 hf
  refine lv_aload_n hx hb dX10_sells_15 rfl (lv_at hl 0 rfl) ?_
  refine lv_iload hx hb dX10_sells_16 (lv_at hl 4 rfl) ?_
  obtain ⟨z18, hz18, hf⟩ := rf_bd hf
  refine rf_vi (q0 := 0) (ci := 10) hC (c_X10_isPrice l E a P (rf_upL I [(3, x_lastTrouble), (12, sellers_firstsOwn), (13, sellers_secondsOwn), (14, sellers_shared)]) J A B v4 hz18) kV_X10_isPrice tw_1073 ⟨Nat.le_of_ble_eq_true rfl, Nat.le_of_ble_eq_true rfl⟩ rfl rfl rfl rfl rfl hP (rf_DX hD) hS rfl hl.1 (rest := [.int z4, .ref (a 0)]) rfl (Nat.le_of_ble_eq_true rfl) dX10_sells_18 (fun H locs hP hS => ?_)
  refine lv_if_eq (tgt := 37) hx hb dX10_sells_21 (by decide) (fun c_21 => ?_) (fun c_21 => ?_)
  · have hf := rf_it c_21 hf
    exact w_X10_sells_37 hC hD hp0 hp2 e_now_everybody e_now_far e_tc_ear e_tc_wordCount e_tc_personCount e_now_words e_tc_kinds e_tc_hourEars e_tc_close v1 v2 v3 v4 v5 v6 z4 x_lastTrouble sellers_firstsOwn sellers_secondsOwn sellers_shared hf _ _ _ hP hS (lv_sub hl [0, 1, 2, 3, 4, 5, 6] rfl)
  have hf := rf_ie c_21 hf
  refine lv_aload_n hx hb dX10_sells_24 rfl (lv_at hl 0 rfl) ?_
  refine lv_iload hx hb dX10_sells_25 (lv_at hl 5 rfl) ?_
  obtain ⟨z27, hz27, hf⟩ := rf_bd hf
  refine rf_vi (q0 := 0) (ci := 10) hC (c_X10_isHour l E a P (rf_upL I [(3, x_lastTrouble), (12, sellers_firstsOwn), (13, sellers_secondsOwn), (14, sellers_shared)]) J A B v5 hz27) kV_X10_isHour tw_766 ⟨Nat.le_of_ble_eq_true rfl, Nat.le_of_ble_eq_true rfl⟩ rfl rfl rfl rfl rfl hP (rf_DX hD) hS rfl hl.1 (rest := [.int z4, .ref (a 0)]) rfl (Nat.le_of_ble_eq_true rfl) dX10_sells_27 (fun H locs hP hS => ?_)
  refine lv_if_eq (tgt := 37) hx hb dX10_sells_30 (by decide) (fun c_30 => ?_) (fun c_30 => ?_)
  · have hf := rf_it c_30 hf
    exact w_X10_sells_37 hC hD hp0 hp2 e_now_everybody e_now_far e_tc_ear e_tc_wordCount e_tc_personCount e_now_words e_tc_kinds e_tc_hourEars e_tc_close v1 v2 v3 v4 v5 v6 z4 x_lastTrouble sellers_firstsOwn sellers_secondsOwn sellers_shared hf _ _ _ hP hS (lv_sub hl [0, 1, 2, 3, 4, 5, 6] rfl)
  have hf := rf_ie c_30 hf
  refine lv_iconst (v := 1) hx hb dX10_sells_33 (by decide) ?_
  refine lv_goto (tgt := 38) hx hb dX10_sells_34 (by decide) ?_
  exact w_X10_sells_38 hC hD hp0 hp2 e_now_everybody e_now_far e_tc_ear e_tc_wordCount e_tc_personCount e_now_words e_tc_kinds e_tc_hourEars e_tc_close v1 v2 v3 v4 v5 v6 z4 1 x_lastTrouble sellers_firstsOwn sellers_secondsOwn sellers_shared hf _ _ _ hP hS (lv_sub hl [0, 1, 2, 3, 4, 5, 6] rfl)
set_option maxHeartbeats 4000000 in
set_option maxRecDepth 100000 in
theorem w_X7_isRest_38 {l : Launch} {p : Program} {e : Env} {s : State} {m : MethodId} {args : Array Value} {below : List Frame} {meth : Method} {c : Code} {A0 : Nat → Prop} {E : rf_E} {a P : Nat → Nat} {I : Nat → Int32} {J : Nat → Int64} {A : Nat → Nat → Int32} {B : Nat → Nat → Int64} {sellers_firstsOwn : Int32} {sellers_secondsOwn : Int32} {sellers_shared : Int32} {z : Int32} (hC : rf_C p E s m args meth c cX7_isRest 4 RX7 (some .boolean) A0) (hD : va_D A0 (cX E a P I J A B)) (e_sellers_firstsOwn : I 12 = sellers_firstsOwn) (e_sellers_secondsOwn : I 13 = sellers_secondsOwn) (e_sellers_shared : I 14 = sellers_shared) :
    ∀ (_ : Unit), f_X7_isRest_38 sellers_firstsOwn sellers_secondsOwn sellers_shared = some z → ∀ (H : Heap) (locs : List Loc) (ls : Array Slot), va_P (rf_D E) vwCl (cX E a P I J A B) H → va_S A0 s.heap H locs → lv_has ls 4 [] → W p l e ({ frames := 1, cells := 0, slots := 0, locals := 22 }) s m args below meth c H locs 0 0 (rf_QI below args s E A0 z (cX E a P I J A B)) (F0 m 38 ls []) := by
  have hx := hC.1
  have hb := hC.2.1
  intro _ hf H locs ls hP hS hl
  unfold f_X7_isRest_38 at hf
  refine lv_iconst (v := 0) hx hb dX7_isRest_38 (by decide) ?_
  obtain rfl := Option.some.inj hf
  exact rf_retz hC hP hS (by decide) rfl rfl dX7_isRest_39
set_option maxHeartbeats 4000000 in
set_option maxRecDepth 100000 in
theorem w_X7_isRest_2 {l : Launch} {p : Program} {e : Env} {s : State} {m : MethodId} {args : Array Value} {below : List Frame} {meth : Method} {c : Code} {A0 : Nat → Prop} {E : rf_E} {a P : Nat → Nat} {I : Nat → Int32} {J : Nat → Int64} {A : Nat → Nat → Int32} {B : Nat → Nat → Int64} {sellers_firstsOwn : Int32} {sellers_secondsOwn : Int32} {sellers_shared : Int32} {z : Int32} (hC : rf_C p E s m args meth c cX7_isRest 4 RX7 (some .boolean) A0) (hD : va_D A0 (cX E a P I J A B)) (e_sellers_firstsOwn : I 12 = sellers_firstsOwn) (e_sellers_secondsOwn : I 13 = sellers_secondsOwn) (e_sellers_shared : I 14 = sellers_shared) :
    ∀ (n : Nat), ∀ (v1 : Int32) (v2 : Int32) (v3 : Int32), f_X7_isRest_2 sellers_firstsOwn sellers_secondsOwn sellers_shared n v1 v2 v3 = some z → ∀ (H : Heap) (locs : List Loc) (ls : Array Slot), va_P (rf_D E) vwCl (cX E a P I J A B) H → va_S A0 s.heap H locs → lv_has ls 4 [(0, .ref (a 6)), (1, .int v1), (2, .int v2), (3, .int v3)] → W p l e ({ frames := 1, cells := 0, slots := 0, locals := 22 }) s m args below meth c H locs 0 0 (rf_QI below args s E A0 z (cX E a P I J A B)) (F0 m 2 ls []) := by
  have hx := hC.1
  have hb := hC.2.1
  intro n
  induction n with
  | zero =>
    intro v1 v2 v3 hf
    have hf : (none : Option (Int32)) = some z := hf
    cases hf
  | succ n ih =>
    intro v1 v2 v3 hf H locs ls hP hS hl
    rw [f_X7_isRest_2] at hf
    refine lv_iload_n hx hb dX7_isRest_2 rfl (lv_at hl 3 rfl) ?_
    refine lv_bipush (v := 10) hx hb dX7_isRest_3 (by decide) ?_
    refine lv_icmp_ge (tgt := 46) hx hb dX7_isRest_5 (by decide) (fun c_5 => ?_) (fun c_5 => ?_)
    · have hf := rf_it c_5 hf
      refine lv_iconst (v := 1) hx hb dX7_isRest_46 (by decide) ?_
      obtain rfl := Option.some.inj hf
      exact rf_retz hC hP hS (by decide) rfl rfl dX7_isRest_47
    have hf := rf_ie c_5 hf
    refine lv_aload_n hx hb dX7_isRest_8 rfl (lv_at hl 0 rfl) ?_
    refine lv_iload_n hx hb dX7_isRest_9 rfl (lv_at hl 3 rfl) ?_
    refine lv_iload_n hx hb dX7_isRest_10 rfl (lv_at hl 2 rfl) ?_
    obtain ⟨z11, hz11, hf⟩ := rf_bd hf
    refine rf_vi (q0 := 6) (ci := 7) hC (c_X7_firstHas l E a P I J A B sellers_firstsOwn sellers_shared v3 v2 e_sellers_firstsOwn e_sellers_shared hz11) kV_X7_firstHas tw_1105 ⟨Nat.le_of_ble_eq_true rfl, Nat.le_of_ble_eq_true rfl⟩ rfl rfl rfl rfl rfl hP (rf_DX hD) hS rfl hl.1 (rest := []) rfl (Nat.le_of_ble_eq_true rfl) dX7_isRest_11 (fun H locs hP hS => ?_)
    refine lv_aload_n hx hb dX7_isRest_14 rfl (lv_at hl 0 rfl) ?_
    refine lv_iload_n hx hb dX7_isRest_15 rfl (lv_at hl 1 rfl) ?_
    refine lv_iload_n hx hb dX7_isRest_16 rfl (lv_at hl 2 rfl) ?_
    obtain ⟨z17, hz17, hf⟩ := rf_bd hf
    refine rf_vi (q0 := 6) (ci := 7) hC (c_X7_firstHas l E a P I J A B sellers_firstsOwn sellers_shared v1 v2 e_sellers_firstsOwn e_sellers_shared hz17) kV_X7_firstHas tw_1105 ⟨Nat.le_of_ble_eq_true rfl, Nat.le_of_ble_eq_true rfl⟩ rfl rfl rfl rfl rfl hP (rf_DX hD) hS rfl hl.1 (rest := [.int z11]) rfl (Nat.le_of_ble_eq_true rfl) dX7_isRest_17 (fun H locs hP hS => ?_)
    refine lv_icmp_gt (tgt := 38) hx hb dX7_isRest_20 (by decide) (fun c_20 => ?_) (fun c_20 => ?_)
    · have hf := rf_it c_20 hf
      exact w_X7_isRest_38 hC hD e_sellers_firstsOwn e_sellers_secondsOwn e_sellers_shared () hf _ _ _ hP hS (lv_sub hl [] rfl)
    have hf := rf_ie c_20 hf
    refine lv_aload_n hx hb dX7_isRest_23 rfl (lv_at hl 0 rfl) ?_
    refine lv_iload_n hx hb dX7_isRest_24 rfl (lv_at hl 1 rfl) ?_
    refine lv_iload_n hx hb dX7_isRest_25 rfl (lv_at hl 3 rfl) ?_
    obtain ⟨z26, hz26, hf⟩ := rf_bd hf
    refine rf_vi (q0 := 6) (ci := 7) hC (c_X7_secondHas l E a P I J A B sellers_secondsOwn sellers_shared v1 v3 e_sellers_secondsOwn e_sellers_shared hz26) kV_X7_secondHas tw_1106 ⟨Nat.le_of_ble_eq_true rfl, Nat.le_of_ble_eq_true rfl⟩ rfl rfl rfl rfl rfl hP (rf_DX hD) hS rfl hl.1 (rest := []) rfl (Nat.le_of_ble_eq_true rfl) dX7_isRest_26 (fun H locs hP hS => ?_)
    refine lv_aload_n hx hb dX7_isRest_29 rfl (lv_at hl 0 rfl) ?_
    refine lv_iload_n hx hb dX7_isRest_30 rfl (lv_at hl 1 rfl) ?_
    refine lv_iload_n hx hb dX7_isRest_31 rfl (lv_at hl 2 rfl) ?_
    obtain ⟨z32, hz32, hf⟩ := rf_bd hf
    refine rf_vi (q0 := 6) (ci := 7) hC (c_X7_secondHas l E a P I J A B sellers_secondsOwn sellers_shared v1 v2 e_sellers_secondsOwn e_sellers_shared hz32) kV_X7_secondHas tw_1106 ⟨Nat.le_of_ble_eq_true rfl, Nat.le_of_ble_eq_true rfl⟩ rfl rfl rfl rfl rfl hP (rf_DX hD) hS rfl hl.1 (rest := [.int z26]) rfl (Nat.le_of_ble_eq_true rfl) dX7_isRest_32 (fun H locs hP hS => ?_)
    refine lv_icmp_le (tgt := 40) hx hb dX7_isRest_35 (by decide) (fun c_35 => ?_) (fun c_35 => ?_)
    · have hf := rf_it c_35 hf
      refine lv_iinc (v := v3 + 1) (lv' := [(3, .int (v3 + 1)), (0, .ref (a 6)), (1, .int v1), (2, .int v2)]) hx hb dX7_isRest_40 hl (k := 3) rfl rfl (by decide) rfl (fun ls hl => ?_)
      refine lv_goto (tgt := 2) hx hb dX7_isRest_43 (by decide) ?_
      exact ih v1 v2 (v3 + 1) hf _ _ _ hP hS (lv_sub hl [1, 2, 3, 0] rfl)
    have hf := rf_ie c_35 hf
    exact w_X7_isRest_38 hC hD e_sellers_firstsOwn e_sellers_secondsOwn e_sellers_shared () hf _ _ _ hP hS (lv_sub hl [] rfl)
set_option maxHeartbeats 4000000 in
set_option maxRecDepth 100000 in
theorem c_X7_isRest (l : Launch) (E : rf_E) (a P : Nat → Nat) (I : Nat → Int32) (J : Nat → Int64) (A : Nat → Nat → Int32) (B : Nat → Nat → Int64) (sellers_firstsOwn : Int32) (sellers_secondsOwn : Int32) (sellers_shared : Int32) (v1 : Int32) (v2 : Int32) {z : Int32} (e_sellers_firstsOwn : I 12 = sellers_firstsOwn) (e_sellers_secondsOwn : I 13 = sellers_secondsOwn) (e_sellers_shared : I 14 = sellers_shared) (hf : f_X7_isRest sellers_firstsOwn sellers_secondsOwn sellers_shared v1 v2 = some z) : rf_MI l yX7_isRest cX7_isRest 4 (some .boolean) ({ frames := 1, cells := 0, slots := 0, locals := 22 }) E [.ref (a 6), .int v1, .int v2] (cX E a P I J A B) z (cX E a P I J A B) := by
  unfold f_X7_isRest at hf
  refine rf_ofI (by decide) (Nat.le_of_ble_eq_true rfl) ?_
  intro p e s m below meth c A0 ls hC hD hP hS hl
  have hC : rf_C p E s m _ meth c cX7_isRest 4 RX7 (some .boolean) A0 := hC
  have hx := hC.1
  have hb := hC.2.1
  have hl : lv_has ls 4 [(0, .ref (a 6)), (1, .int v1), (2, .int v2)] := hl
  refine lv_iconst (v := 0) hx hb dX7_isRest_0 (by decide) ?_
  refine lv_istore_n (lv' := [(3, .int 0), (0, .ref (a 6)), (1, .int v1), (2, .int v2)]) hx hb dX7_isRest_1 rfl hl (by decide) rfl (fun ls hl => ?_)
  exact w_X7_isRest_2 hC hD e_sellers_firstsOwn e_sellers_secondsOwn e_sellers_shared rf_fu v1 v2 0 hf _ _ _ hP hS (lv_sub hl [1, 2, 3, 0] rfl)
set_option maxHeartbeats 4000000 in
set_option maxRecDepth 100000 in
theorem w_X7_restCount_31 {l : Launch} {p : Program} {e : Env} {s : State} {m : MethodId} {args : Array Value} {below : List Frame} {meth : Method} {c : Code} {A0 : Nat → Prop} {E : rf_E} {a P : Nat → Nat} {I : Nat → Int32} {J : Nat → Int64} {A : Nat → Nat → Int32} {B : Nat → Nat → Int64} {sellers_firstsOwn : Int32} {sellers_secondsOwn : Int32} {sellers_shared : Int32} {z : Int32} (hC : rf_C p E s m args meth c cX7_restCount 3 RX7 (some .int) A0) (hD : va_D A0 (cX E a P I J A B)) (e_sellers_firstsOwn : I 12 = sellers_firstsOwn) (e_sellers_secondsOwn : I 13 = sellers_secondsOwn) (e_sellers_shared : I 14 = sellers_shared) {k4 : Int32 → Int32 → Option (Int32)} (hk4 : ∀ (v1 : Int32) (v2 : Int32), k4 v1 v2 = some z → ∀ (H : Heap) (locs : List Loc) (ls : Array Slot), va_P (rf_D E) vwCl (cX E a P I J A B) H → va_S A0 s.heap H locs → lv_has ls 3 [(0, .ref (a 6)), (1, .int v1), (2, .int v2)] → W p l e ({ frames := 2, cells := 0, slots := 0, locals := 45 }) s m args below meth c H locs 0 0 (rf_QI below args s E A0 z (cX E a P I J A B)) (F0 m 4 ls [])) :
    ∀ (v2 : Int32) (s0 : Int32) (s1 : Int32), f_X7_restCount_31 k4 sellers_firstsOwn sellers_secondsOwn sellers_shared v2 s0 s1 = some z → ∀ (H : Heap) (locs : List Loc) (ls : Array Slot), va_P (rf_D E) vwCl (cX E a P I J A B) H → va_S A0 s.heap H locs → lv_has ls 3 [(0, .ref (a 6)), (2, .int v2)] → W p l e ({ frames := 2, cells := 0, slots := 0, locals := 45 }) s m args below meth c H locs 0 0 (rf_QI below args s E A0 z (cX E a P I J A B)) (F0 m 31 ls [.int s1, .int s0]) := by
  have hx := hC.1
  have hb := hC.2.1
  intro v2 s0 s1 hf H locs ls hP hS hl
  unfold f_X7_restCount_31 at hf
  refine lv_iadd hx hb dX7_restCount_31 ?_
  refine lv_istore_n (lv' := [(1, .int (s0 + s1)), (0, .ref (a 6)), (2, .int v2)]) hx hb dX7_restCount_32 rfl hl (by decide) rfl (fun ls hl => ?_)
  refine lv_iinc (v := v2 + 1) (lv' := [(2, .int (v2 + 1)), (1, .int (s0 + s1)), (0, .ref (a 6))]) hx hb dX7_restCount_33 hl (k := 2) rfl rfl (by decide) rfl (fun ls hl => ?_)
  refine lv_goto (tgt := 4) hx hb dX7_restCount_36 (by decide) ?_
  exact hk4 (s0 + s1) (v2 + 1) hf _ _ _ hP hS (lv_sub hl [2, 1, 0] rfl)
set_option maxHeartbeats 4000000 in
set_option maxRecDepth 100000 in
theorem w_X7_restCount_4 {l : Launch} {p : Program} {e : Env} {s : State} {m : MethodId} {args : Array Value} {below : List Frame} {meth : Method} {c : Code} {A0 : Nat → Prop} {E : rf_E} {a P : Nat → Nat} {I : Nat → Int32} {J : Nat → Int64} {A : Nat → Nat → Int32} {B : Nat → Nat → Int64} {sellers_firstsOwn : Int32} {sellers_secondsOwn : Int32} {sellers_shared : Int32} {z : Int32} (hC : rf_C p E s m args meth c cX7_restCount 3 RX7 (some .int) A0) (hD : va_D A0 (cX E a P I J A B)) (e_sellers_firstsOwn : I 12 = sellers_firstsOwn) (e_sellers_secondsOwn : I 13 = sellers_secondsOwn) (e_sellers_shared : I 14 = sellers_shared) :
    ∀ (n : Nat), ∀ (v1 : Int32) (v2 : Int32), f_X7_restCount_4 sellers_firstsOwn sellers_secondsOwn sellers_shared n v1 v2 = some z → ∀ (H : Heap) (locs : List Loc) (ls : Array Slot), va_P (rf_D E) vwCl (cX E a P I J A B) H → va_S A0 s.heap H locs → lv_has ls 3 [(0, .ref (a 6)), (1, .int v1), (2, .int v2)] → W p l e ({ frames := 2, cells := 0, slots := 0, locals := 45 }) s m args below meth c H locs 0 0 (rf_QI below args s E A0 z (cX E a P I J A B)) (F0 m 4 ls []) := by
  have hx := hC.1
  have hb := hC.2.1
  intro n
  induction n with
  | zero =>
    intro v1 v2 hf
    have hf : (none : Option (Int32)) = some z := hf
    cases hf
  | succ n ih =>
    intro v1 v2 hf H locs ls hP hS hl
    rw [f_X7_restCount_4] at hf
    refine lv_iload_n hx hb dX7_restCount_4 rfl (lv_at hl 2 rfl) ?_
    refine lv_bipush (v := 100) hx hb dX7_restCount_5 (by decide) ?_
    refine lv_icmp_ge (tgt := 39) hx hb dX7_restCount_7 (by decide) (fun c_7 => ?_) (fun c_7 => ?_)
    · have hf := rf_it c_7 hf
      refine lv_iload_n hx hb dX7_restCount_39 rfl (lv_at hl 1 rfl) ?_
      obtain rfl := Option.some.inj hf
      exact rf_reti hC hP hS rfl rfl dX7_restCount_40
    have hf := rf_ie c_7 hf
    refine lv_iload_n hx hb dX7_restCount_10 rfl (lv_at hl 1 rfl) ?_
    refine lv_aload_n hx hb dX7_restCount_11 rfl (lv_at hl 0 rfl) ?_
    refine lv_iload_n hx hb dX7_restCount_12 rfl (lv_at hl 2 rfl) ?_
    refine lv_bipush (v := 10) hx hb dX7_restCount_13 (by decide) ?_
    refine lv_idiv hx hb dX7_restCount_15 (by decide) ?_
    refine lv_iload_n hx hb dX7_restCount_16 rfl (lv_at hl 2 rfl) ?_
    refine lv_bipush (v := 10) hx hb dX7_restCount_17 (by decide) ?_
    refine lv_irem hx hb dX7_restCount_19 (by decide) ?_
    obtain ⟨z20, hz20, hf⟩ := rf_bd hf
    refine rf_vi (q0 := 6) (ci := 7) hC (c_X7_isRest l E a P I J A B sellers_firstsOwn sellers_secondsOwn sellers_shared (v2 / 10) (v2 - v2 / 10 * 10) e_sellers_firstsOwn e_sellers_secondsOwn e_sellers_shared hz20) kV_X7_isRest tw_1101 ⟨Nat.le_of_ble_eq_true rfl, Nat.le_of_ble_eq_true rfl⟩ rfl rfl rfl rfl rfl hP (rf_DX hD) hS rfl hl.1 (rest := [.int v1]) rfl (Nat.le_of_ble_eq_true rfl) dX7_restCount_20 (fun H locs hP hS => ?_)
    refine lv_if_eq (tgt := 30) hx hb dX7_restCount_23 (by decide) (fun c_23 => ?_) (fun c_23 => ?_)
    · have hf := rf_it c_23 hf
      refine lv_iconst (v := 0) hx hb dX7_restCount_30 (by decide) ?_
      exact w_X7_restCount_31 hC hD e_sellers_firstsOwn e_sellers_secondsOwn e_sellers_shared ih v2 v1 0 hf _ _ _ hP hS (lv_sub hl [0, 2] rfl)
    have hf := rf_ie c_23 hf
    refine lv_iconst (v := 1) hx hb dX7_restCount_26 (by decide) ?_
    refine lv_goto (tgt := 31) hx hb dX7_restCount_27 (by decide) ?_
    exact w_X7_restCount_31 hC hD e_sellers_firstsOwn e_sellers_secondsOwn e_sellers_shared ih v2 v1 1 hf _ _ _ hP hS (lv_sub hl [0, 2] rfl)
set_option maxHeartbeats 4000000 in
set_option maxRecDepth 100000 in
theorem c_X7_restCount (l : Launch) (E : rf_E) (a P : Nat → Nat) (I : Nat → Int32) (J : Nat → Int64) (A : Nat → Nat → Int32) (B : Nat → Nat → Int64) (sellers_firstsOwn : Int32) (sellers_secondsOwn : Int32) (sellers_shared : Int32) {z : Int32} (e_sellers_firstsOwn : I 12 = sellers_firstsOwn) (e_sellers_secondsOwn : I 13 = sellers_secondsOwn) (e_sellers_shared : I 14 = sellers_shared) (hf : f_X7_restCount sellers_firstsOwn sellers_secondsOwn sellers_shared = some z) : rf_MI l yX7_restCount cX7_restCount 3 (some .int) ({ frames := 2, cells := 0, slots := 0, locals := 45 }) E [.ref (a 6)] (cX E a P I J A B) z (cX E a P I J A B) := by
  unfold f_X7_restCount at hf
  refine rf_ofI (by decide) (Nat.le_of_ble_eq_true rfl) ?_
  intro p e s m below meth c A0 ls hC hD hP hS hl
  have hC : rf_C p E s m _ meth c cX7_restCount 3 RX7 (some .int) A0 := hC
  have hx := hC.1
  have hb := hC.2.1
  have hl : lv_has ls 3 [(0, .ref (a 6))] := hl
  refine lv_iconst (v := 0) hx hb dX7_restCount_0 (by decide) ?_
  refine lv_istore_n (lv' := [(1, .int 0), (0, .ref (a 6))]) hx hb dX7_restCount_1 rfl hl (by decide) rfl (fun ls hl => ?_)
  refine lv_iconst (v := 0) hx hb dX7_restCount_2 (by decide) ?_
  refine lv_istore_n (lv' := [(2, .int 0), (1, .int 0), (0, .ref (a 6))]) hx hb dX7_restCount_3 rfl hl (by decide) rfl (fun ls hl => ?_)
  exact w_X7_restCount_4 hC hD e_sellers_firstsOwn e_sellers_secondsOwn e_sellers_shared rf_fu 0 0 hf _ _ _ hP hS (lv_sub hl [2, 1, 0] rfl)
set_option maxHeartbeats 4000000 in
set_option maxRecDepth 100000 in
theorem c_X10_rests (l : Launch) (E : rf_E) (a P : Nat → Nat) (I : Nat → Int32) (J : Nat → Int64) (A : Nat → Nat → Int32) (B : Nat → Nat → Int64) (now_everybody : Int32) (now_far : Int32) (tc_ear : Int32) (tc_wordCount : Int32) (tc_personCount : Int32) (now_words : Nat → Int32) (tc_kinds : Nat → Int32) (tc_hourEars : Nat → Int32) (tc_close : Nat → Int32) (x_lastTrouble : Int32) (sellers_firstsOwn : Int32) (sellers_secondsOwn : Int32) (sellers_shared : Int32) (v1 : Int32) (v2 : Int32) (v3 : Int32) {z : Int32 × Int32 × Int32 × Int32 × Int32} (hp0 : P 0 = a 10) (hp2 : P 2 = a 10) (e_now_everybody : I 6 = now_everybody) (e_now_far : I 7 = now_far) (e_tc_ear : I 21 = tc_ear) (e_tc_wordCount : I 23 = tc_wordCount) (e_tc_personCount : I 24 = tc_personCount) (e_now_words : A 1 = now_words) (e_tc_kinds : A 14 = tc_kinds) (e_tc_hourEars : A 18 = tc_hourEars) (e_tc_close : A 22 = tc_close) (e_x_lastTrouble : I 3 = x_lastTrouble) (e_sellers_firstsOwn : I 12 = sellers_firstsOwn) (e_sellers_secondsOwn : I 13 = sellers_secondsOwn) (e_sellers_shared : I 14 = sellers_shared) (hf : f_X10_rests now_everybody now_far tc_ear tc_wordCount tc_personCount now_words tc_kinds tc_hourEars tc_close x_lastTrouble sellers_firstsOwn sellers_secondsOwn sellers_shared v1 v2 v3 = some z) : rf_MI l yX10_rests cX10_rests 4 (some .int) ({ frames := 6, cells := 0, slots := 0, locals := 153 }) E [.ref (a 0), .int v1, .int v2, .int v3] (cX E a P I J A B) z.1 (cX E a P (rf_upL I [(3, z.2.1), (12, z.2.2.1), (13, z.2.2.2.1), (14, z.2.2.2.2)]) J A B) := by
  unfold f_X10_rests at hf
  refine rf_ofI (by decide) (Nat.le_of_ble_eq_true rfl) ?_
  intro p e s m below meth c A0 ls hC hD hP hS hl
  have hC : rf_C p E s m _ meth c cX10_rests 4 RX10 (some .int) A0 := hC
  have hx := hC.1
  have hb := hC.2.1
  have hl : lv_has ls 4 [(0, .ref (a 0)), (1, .int v1), (2, .int v2), (3, .int v3)] := hl
  have hP : va_P (rf_D E) vwCl (cX E a P (rf_upL I [(3, x_lastTrouble), (12, sellers_firstsOwn), (13, sellers_secondsOwn), (14, sellers_shared)]) J A B) s.heap := by
    rw [rf_self (f := I) [(3, x_lastTrouble), (12, sellers_firstsOwn), (13, sellers_secondsOwn), (14, sellers_shared)] (rf_fa1 e_x_lastTrouble (rf_fa1 e_sellers_firstsOwn (rf_fa1 e_sellers_secondsOwn (rf_fa1 e_sellers_shared rf_fa0))))]
    exact hP
  refine lv_aload_n hx hb dX10_rests_0 rfl (lv_at hl 0 rfl) ?_
  refine lv_aload_n hx hb dX10_rests_1 rfl (lv_at hl 0 rfl) ?_
  refine lv_iload_n hx hb dX10_rests_2 rfl (lv_at hl 1 rfl) ?_
  refine lv_iload_n hx hb dX10_rests_3 rfl (lv_at hl 2 rfl) ?_
  obtain ⟨z4, hz4, hf⟩ := rf_bd hf
  refine rf_vi (q0 := 0) (ci := 10) hC (c_X10_isTwoWords l E a P (rf_upL I [(3, x_lastTrouble), (12, sellers_firstsOwn), (13, sellers_secondsOwn), (14, sellers_shared)]) J A B tc_wordCount v1 v2 hp0 e_tc_wordCount hz4) kV_X10_isTwoWords tw_1069 ⟨Nat.le_of_ble_eq_true rfl, Nat.le_of_ble_eq_true rfl⟩ rfl rfl rfl rfl rfl hP (rf_DX hD) hS rfl hl.1 (rest := [.ref (a 0)]) rfl (Nat.le_of_ble_eq_true rfl) dX10_rests_4 (fun H locs hP hS => ?_)
  refine lv_aload_n hx hb dX10_rests_7 rfl (lv_at hl 0 rfl) ?_
  refine lv_iload_n hx hb dX10_rests_8 rfl (lv_at hl 3 rfl) ?_
  obtain ⟨z9, hz9, hf⟩ := rf_bd hf
  refine rf_vi (q0 := 0) (ci := 10) hC (c_X10_isHour l E a P (rf_upL I [(3, x_lastTrouble), (12, sellers_firstsOwn), (13, sellers_secondsOwn), (14, sellers_shared)]) J A B v3 hz9) kV_X10_isHour tw_766 ⟨Nat.le_of_ble_eq_true rfl, Nat.le_of_ble_eq_true rfl⟩ rfl rfl rfl rfl rfl hP (rf_DX hD) hS rfl hl.1 (rest := [.int z4, .ref (a 0)]) rfl (Nat.le_of_ble_eq_true rfl) dX10_rests_9 (fun H locs hP hS => ?_)
  obtain ⟨z12, hz12, hf⟩ := rf_bd hf
  refine rf_vi (q0 := 0) (ci := 10) hC (c_X10_refused l E a P (rf_upL I [(3, x_lastTrouble), (12, sellers_firstsOwn), (13, sellers_secondsOwn), (14, sellers_shared)]) J A B x_lastTrouble z4 z9 rfl hz12) kV_X10_refused tw_455 ⟨Nat.le_of_ble_eq_true rfl, Nat.le_of_ble_eq_true rfl⟩ rfl rfl rfl rfl rfl hP (rf_DX hD) hS rfl hl.1 (rest := []) rfl (Nat.le_of_ble_eq_true rfl) dX10_rests_12 (fun H locs hP hS => ?_)
  rw [rf_cat (f := I) (l := [(3, x_lastTrouble), (12, sellers_firstsOwn), (13, sellers_secondsOwn), (14, sellers_shared)]) (lc := [(3, z12.2)]) (l' := [(3, z12.2), (12, sellers_firstsOwn), (13, sellers_secondsOwn), (14, sellers_shared)]) rfl] at hP
  refine lv_if_eq (tgt := 20) hx hb dX10_rests_15 (by decide) (fun c_15 => ?_) (fun c_15 => ?_)
  · have hf := rf_it c_15 hf
    refine lv_aload_n hx hb dX10_rests_20 rfl (lv_at hl 0 rfl) ?_
    refine gX_x_sellers hC hP tw_397 dX10_rests_21 ?_
    refine lv_iload_n hx hb dX10_rests_24 rfl (lv_at hl 1 rfl) ?_
    refine lv_iload_n hx hb dX10_rests_25 rfl (lv_at hl 2 rfl) ?_
    refine lv_aload_n hx hb dX10_rests_26 rfl (lv_at hl 0 rfl) ?_
    refine gX_x_tale hC hP tw_401 (v := a 10) hp0 dX10_rests_27 ?_
    refine lv_iload_n hx hb dX10_rests_30 rfl (lv_at hl 3 rfl) ?_
    obtain ⟨z31, hz31, hf⟩ := rf_bd hf
    refine rf_vi (q0 := 10) (ci := 9) hC (c_X9_earAt_tc l E a P (rf_upL I [(3, z12.2), (12, sellers_firstsOwn), (13, sellers_secondsOwn), (14, sellers_shared)]) J A B tc_ear tc_hourEars v3 e_tc_ear e_tc_hourEars hz31) kV_X9_earAt tw_770 ⟨Nat.le_of_ble_eq_true rfl, Nat.le_of_ble_eq_true rfl⟩ rfl rfl rfl rfl rfl hP (rf_DX hD) hS rfl hl.1 (rest := [.int v2, .int v1, .ref (a 6)]) rfl (Nat.le_of_ble_eq_true rfl) dX10_rests_31 (fun H locs hP hS => ?_)
    obtain ⟨z34, hz34, hf⟩ := rf_bd hf
    refine rf_vv (q0 := 6) (ci := 7) hC (c_X7_countBuyers l E a P (rf_upL I [(3, z12.2), (12, sellers_firstsOwn), (13, sellers_secondsOwn), (14, sellers_shared)]) J A B now_everybody now_far tc_wordCount tc_personCount now_words tc_kinds tc_close sellers_firstsOwn sellers_secondsOwn sellers_shared v1 v2 z31 hp2 e_now_everybody e_now_far e_tc_wordCount e_tc_personCount e_now_words e_tc_kinds e_tc_close rfl rfl rfl hz34) kV_X7_countBuyers tw_1077 ⟨Nat.le_of_ble_eq_true rfl, Nat.le_of_ble_eq_true rfl⟩ rfl rfl rfl rfl rfl hP (rf_DX hD) hS rfl hl.1 (rest := []) rfl (Nat.le_of_ble_eq_true rfl) dX10_rests_34 (fun H locs hP hS => ?_)
    rw [rf_cat (f := I) (l := [(3, z12.2), (12, sellers_firstsOwn), (13, sellers_secondsOwn), (14, sellers_shared)]) (lc := [(12, z34.1), (13, z34.2.1), (14, z34.2.2)]) (l' := [(3, z12.2), (12, z34.1), (13, z34.2.1), (14, z34.2.2)]) rfl] at hP
    refine lv_aload_n hx hb dX10_rests_37 rfl (lv_at hl 0 rfl) ?_
    refine gX_x_sellers hC hP tw_397 dX10_rests_38 ?_
    obtain ⟨z41, hz41, hf⟩ := rf_bd hf
    refine rf_vi (q0 := 6) (ci := 7) hC (c_X7_restCount l E a P (rf_upL I [(3, z12.2), (12, z34.1), (13, z34.2.1), (14, z34.2.2)]) J A B z34.1 z34.2.1 z34.2.2 rfl rfl rfl hz41) kV_X7_restCount tw_1097 ⟨Nat.le_of_ble_eq_true rfl, Nat.le_of_ble_eq_true rfl⟩ rfl rfl rfl rfl rfl hP (rf_DX hD) hS rfl hl.1 (rest := []) rfl (Nat.le_of_ble_eq_true rfl) dX10_rests_41 (fun H locs hP hS => ?_)
    obtain rfl := Option.some.inj hf
    exact rf_reti hC hP hS rfl rfl dX10_rests_44
  have hf := rf_ie c_15 hf
  refine lv_iconst (v := (-1)) hx hb dX10_rests_18 (by decide) ?_
  obtain rfl := Option.some.inj hf
  exact rf_reti hC hP hS rfl rfl dX10_rests_19
set_option maxHeartbeats 4000000 in
set_option maxRecDepth 100000 in
theorem w_X7_firstRest_2 {l : Launch} {p : Program} {e : Env} {s : State} {m : MethodId} {args : Array Value} {below : List Frame} {meth : Method} {c : Code} {A0 : Nat → Prop} {E : rf_E} {a P : Nat → Nat} {I : Nat → Int32} {J : Nat → Int64} {A : Nat → Nat → Int32} {B : Nat → Nat → Int64} {sellers_firstsOwn : Int32} {sellers_secondsOwn : Int32} {sellers_shared : Int32} {z : Int32} (hC : rf_C p E s m args meth c cX7_firstRest 2 RX7 (some .int) A0) (hD : va_D A0 (cX E a P I J A B)) (e_sellers_firstsOwn : I 12 = sellers_firstsOwn) (e_sellers_secondsOwn : I 13 = sellers_secondsOwn) (e_sellers_shared : I 14 = sellers_shared) :
    ∀ (n : Nat), ∀ (v1 : Int32), f_X7_firstRest_2 sellers_firstsOwn sellers_secondsOwn sellers_shared n v1 = some z → ∀ (H : Heap) (locs : List Loc) (ls : Array Slot), va_P (rf_D E) vwCl (cX E a P I J A B) H → va_S A0 s.heap H locs → lv_has ls 2 [(0, .ref (a 6)), (1, .int v1)] → W p l e ({ frames := 2, cells := 0, slots := 0, locals := 45 }) s m args below meth c H locs 0 0 (rf_QI below args s E A0 z (cX E a P I J A B)) (F0 m 2 ls []) := by
  have hx := hC.1
  have hb := hC.2.1
  intro n
  induction n with
  | zero =>
    intro v1 hf
    have hf : (none : Option (Int32)) = some z := hf
    cases hf
  | succ n ih =>
    intro v1 hf H locs ls hP hS hl
    rw [f_X7_firstRest_2] at hf
    refine lv_iload_n hx hb dX7_firstRest_2 rfl (lv_at hl 1 rfl) ?_
    refine lv_bipush (v := 100) hx hb dX7_firstRest_3 (by decide) ?_
    refine lv_icmp_ge (tgt := 31) hx hb dX7_firstRest_5 (by decide) (fun c_5 => ?_) (fun c_5 => ?_)
    · have hf := rf_it c_5 hf
      refine lv_bipush (v := (-2)) hx hb dX7_firstRest_31 (by decide) ?_
      obtain rfl := Option.some.inj hf
      exact rf_reti hC hP hS rfl rfl dX7_firstRest_33
    have hf := rf_ie c_5 hf
    refine lv_aload_n hx hb dX7_firstRest_8 rfl (lv_at hl 0 rfl) ?_
    refine lv_iload_n hx hb dX7_firstRest_9 rfl (lv_at hl 1 rfl) ?_
    refine lv_bipush (v := 10) hx hb dX7_firstRest_10 (by decide) ?_
    refine lv_idiv hx hb dX7_firstRest_12 (by decide) ?_
    refine lv_iload_n hx hb dX7_firstRest_13 rfl (lv_at hl 1 rfl) ?_
    refine lv_bipush (v := 10) hx hb dX7_firstRest_14 (by decide) ?_
    refine lv_irem hx hb dX7_firstRest_16 (by decide) ?_
    obtain ⟨z17, hz17, hf⟩ := rf_bd hf
    refine rf_vi (q0 := 6) (ci := 7) hC (c_X7_isRest l E a P I J A B sellers_firstsOwn sellers_secondsOwn sellers_shared (v1 / 10) (v1 - v1 / 10 * 10) e_sellers_firstsOwn e_sellers_secondsOwn e_sellers_shared hz17) kV_X7_isRest tw_1101 ⟨Nat.le_of_ble_eq_true rfl, Nat.le_of_ble_eq_true rfl⟩ rfl rfl rfl rfl rfl hP (rf_DX hD) hS rfl hl.1 (rest := []) rfl (Nat.le_of_ble_eq_true rfl) dX7_firstRest_17 (fun H locs hP hS => ?_)
    refine lv_if_eq (tgt := 25) hx hb dX7_firstRest_20 (by decide) (fun c_20 => ?_) (fun c_20 => ?_)
    · have hf := rf_it c_20 hf
      refine lv_iinc (v := v1 + 1) (lv' := [(1, .int (v1 + 1)), (0, .ref (a 6))]) hx hb dX7_firstRest_25 hl (k := 1) rfl rfl (by decide) rfl (fun ls hl => ?_)
      refine lv_goto (tgt := 2) hx hb dX7_firstRest_28 (by decide) ?_
      exact ih (v1 + 1) hf _ _ _ hP hS (lv_sub hl [1, 0] rfl)
    have hf := rf_ie c_20 hf
    refine lv_iload_n hx hb dX7_firstRest_23 rfl (lv_at hl 1 rfl) ?_
    obtain rfl := Option.some.inj hf
    exact rf_reti hC hP hS rfl rfl dX7_firstRest_24
set_option maxHeartbeats 4000000 in
set_option maxRecDepth 100000 in
theorem c_X7_firstRest (l : Launch) (E : rf_E) (a P : Nat → Nat) (I : Nat → Int32) (J : Nat → Int64) (A : Nat → Nat → Int32) (B : Nat → Nat → Int64) (sellers_firstsOwn : Int32) (sellers_secondsOwn : Int32) (sellers_shared : Int32) {z : Int32} (e_sellers_firstsOwn : I 12 = sellers_firstsOwn) (e_sellers_secondsOwn : I 13 = sellers_secondsOwn) (e_sellers_shared : I 14 = sellers_shared) (hf : f_X7_firstRest sellers_firstsOwn sellers_secondsOwn sellers_shared = some z) : rf_MI l yX7_firstRest cX7_firstRest 2 (some .int) ({ frames := 2, cells := 0, slots := 0, locals := 45 }) E [.ref (a 6)] (cX E a P I J A B) z (cX E a P I J A B) := by
  unfold f_X7_firstRest at hf
  refine rf_ofI (by decide) (Nat.le_of_ble_eq_true rfl) ?_
  intro p e s m below meth c A0 ls hC hD hP hS hl
  have hC : rf_C p E s m _ meth c cX7_firstRest 2 RX7 (some .int) A0 := hC
  have hx := hC.1
  have hb := hC.2.1
  have hl : lv_has ls 2 [(0, .ref (a 6))] := hl
  refine lv_iconst (v := 0) hx hb dX7_firstRest_0 (by decide) ?_
  refine lv_istore_n (lv' := [(1, .int 0), (0, .ref (a 6))]) hx hb dX7_firstRest_1 rfl hl (by decide) rfl (fun ls hl => ?_)
  exact w_X7_firstRest_2 hC hD e_sellers_firstsOwn e_sellers_secondsOwn e_sellers_shared rf_fu 0 hf _ _ _ hP hS (lv_sub hl [1, 0] rfl)
set_option maxHeartbeats 4000000 in
set_option maxRecDepth 100000 in
theorem c_X10_rest (l : Launch) (E : rf_E) (a P : Nat → Nat) (I : Nat → Int32) (J : Nat → Int64) (A : Nat → Nat → Int32) (B : Nat → Nat → Int64) (now_everybody : Int32) (now_far : Int32) (tc_ear : Int32) (tc_wordCount : Int32) (tc_personCount : Int32) (now_words : Nat → Int32) (tc_kinds : Nat → Int32) (tc_hourEars : Nat → Int32) (tc_close : Nat → Int32) (x_lastTrouble : Int32) (sellers_firstsOwn : Int32) (sellers_secondsOwn : Int32) (sellers_shared : Int32) (v1 : Int32) (v2 : Int32) (v3 : Int32) {z : Int32 × Int32 × Int32 × Int32 × Int32} (hp0 : P 0 = a 10) (hp2 : P 2 = a 10) (e_now_everybody : I 6 = now_everybody) (e_now_far : I 7 = now_far) (e_tc_ear : I 21 = tc_ear) (e_tc_wordCount : I 23 = tc_wordCount) (e_tc_personCount : I 24 = tc_personCount) (e_now_words : A 1 = now_words) (e_tc_kinds : A 14 = tc_kinds) (e_tc_hourEars : A 18 = tc_hourEars) (e_tc_close : A 22 = tc_close) (e_x_lastTrouble : I 3 = x_lastTrouble) (e_sellers_firstsOwn : I 12 = sellers_firstsOwn) (e_sellers_secondsOwn : I 13 = sellers_secondsOwn) (e_sellers_shared : I 14 = sellers_shared) (hf : f_X10_rest now_everybody now_far tc_ear tc_wordCount tc_personCount now_words tc_kinds tc_hourEars tc_close x_lastTrouble sellers_firstsOwn sellers_secondsOwn sellers_shared v1 v2 v3 = some z) : rf_MI l yX10_rest cX10_rest 4 (some .int) ({ frames := 6, cells := 0, slots := 0, locals := 153 }) E [.ref (a 0), .int v1, .int v2, .int v3] (cX E a P I J A B) z.1 (cX E a P (rf_upL I [(3, z.2.1), (12, z.2.2.1), (13, z.2.2.2.1), (14, z.2.2.2.2)]) J A B) := by
  unfold f_X10_rest at hf
  refine rf_ofI (by decide) (Nat.le_of_ble_eq_true rfl) ?_
  intro p e s m below meth c A0 ls hC hD hP hS hl
  have hC : rf_C p E s m _ meth c cX10_rest 4 RX10 (some .int) A0 := hC
  have hx := hC.1
  have hb := hC.2.1
  have hl : lv_has ls 4 [(0, .ref (a 0)), (1, .int v1), (2, .int v2), (3, .int v3)] := hl
  have hP : va_P (rf_D E) vwCl (cX E a P (rf_upL I [(3, x_lastTrouble), (12, sellers_firstsOwn), (13, sellers_secondsOwn), (14, sellers_shared)]) J A B) s.heap := by
    rw [rf_self (f := I) [(3, x_lastTrouble), (12, sellers_firstsOwn), (13, sellers_secondsOwn), (14, sellers_shared)] (rf_fa1 e_x_lastTrouble (rf_fa1 e_sellers_firstsOwn (rf_fa1 e_sellers_secondsOwn (rf_fa1 e_sellers_shared rf_fa0))))]
    exact hP
  refine lv_aload_n hx hb dX10_rest_0 rfl (lv_at hl 0 rfl) ?_
  refine lv_aload_n hx hb dX10_rest_1 rfl (lv_at hl 0 rfl) ?_
  refine lv_iload_n hx hb dX10_rest_2 rfl (lv_at hl 1 rfl) ?_
  refine lv_iload_n hx hb dX10_rest_3 rfl (lv_at hl 2 rfl) ?_
  obtain ⟨z4, hz4, hf⟩ := rf_bd hf
  refine rf_vi (q0 := 0) (ci := 10) hC (c_X10_isTwoWords l E a P (rf_upL I [(3, x_lastTrouble), (12, sellers_firstsOwn), (13, sellers_secondsOwn), (14, sellers_shared)]) J A B tc_wordCount v1 v2 hp0 e_tc_wordCount hz4) kV_X10_isTwoWords tw_1069 ⟨Nat.le_of_ble_eq_true rfl, Nat.le_of_ble_eq_true rfl⟩ rfl rfl rfl rfl rfl hP (rf_DX hD) hS rfl hl.1 (rest := [.ref (a 0)]) rfl (Nat.le_of_ble_eq_true rfl) dX10_rest_4 (fun H locs hP hS => ?_)
  refine lv_aload_n hx hb dX10_rest_7 rfl (lv_at hl 0 rfl) ?_
  refine lv_iload_n hx hb dX10_rest_8 rfl (lv_at hl 3 rfl) ?_
  obtain ⟨z9, hz9, hf⟩ := rf_bd hf
  refine rf_vi (q0 := 0) (ci := 10) hC (c_X10_isHour l E a P (rf_upL I [(3, x_lastTrouble), (12, sellers_firstsOwn), (13, sellers_secondsOwn), (14, sellers_shared)]) J A B v3 hz9) kV_X10_isHour tw_766 ⟨Nat.le_of_ble_eq_true rfl, Nat.le_of_ble_eq_true rfl⟩ rfl rfl rfl rfl rfl hP (rf_DX hD) hS rfl hl.1 (rest := [.int z4, .ref (a 0)]) rfl (Nat.le_of_ble_eq_true rfl) dX10_rest_9 (fun H locs hP hS => ?_)
  obtain ⟨z12, hz12, hf⟩ := rf_bd hf
  refine rf_vi (q0 := 0) (ci := 10) hC (c_X10_refused l E a P (rf_upL I [(3, x_lastTrouble), (12, sellers_firstsOwn), (13, sellers_secondsOwn), (14, sellers_shared)]) J A B x_lastTrouble z4 z9 rfl hz12) kV_X10_refused tw_455 ⟨Nat.le_of_ble_eq_true rfl, Nat.le_of_ble_eq_true rfl⟩ rfl rfl rfl rfl rfl hP (rf_DX hD) hS rfl hl.1 (rest := []) rfl (Nat.le_of_ble_eq_true rfl) dX10_rest_12 (fun H locs hP hS => ?_)
  rw [rf_cat (f := I) (l := [(3, x_lastTrouble), (12, sellers_firstsOwn), (13, sellers_secondsOwn), (14, sellers_shared)]) (lc := [(3, z12.2)]) (l' := [(3, z12.2), (12, sellers_firstsOwn), (13, sellers_secondsOwn), (14, sellers_shared)]) rfl] at hP
  refine lv_if_eq (tgt := 20) hx hb dX10_rest_15 (by decide) (fun c_15 => ?_) (fun c_15 => ?_)
  · have hf := rf_it c_15 hf
    refine lv_aload_n hx hb dX10_rest_20 rfl (lv_at hl 0 rfl) ?_
    refine gX_x_sellers hC hP tw_397 dX10_rest_21 ?_
    refine lv_iload_n hx hb dX10_rest_24 rfl (lv_at hl 1 rfl) ?_
    refine lv_iload_n hx hb dX10_rest_25 rfl (lv_at hl 2 rfl) ?_
    refine lv_aload_n hx hb dX10_rest_26 rfl (lv_at hl 0 rfl) ?_
    refine gX_x_tale hC hP tw_401 (v := a 10) hp0 dX10_rest_27 ?_
    refine lv_iload_n hx hb dX10_rest_30 rfl (lv_at hl 3 rfl) ?_
    obtain ⟨z31, hz31, hf⟩ := rf_bd hf
    refine rf_vi (q0 := 10) (ci := 9) hC (c_X9_earAt_tc l E a P (rf_upL I [(3, z12.2), (12, sellers_firstsOwn), (13, sellers_secondsOwn), (14, sellers_shared)]) J A B tc_ear tc_hourEars v3 e_tc_ear e_tc_hourEars hz31) kV_X9_earAt tw_770 ⟨Nat.le_of_ble_eq_true rfl, Nat.le_of_ble_eq_true rfl⟩ rfl rfl rfl rfl rfl hP (rf_DX hD) hS rfl hl.1 (rest := [.int v2, .int v1, .ref (a 6)]) rfl (Nat.le_of_ble_eq_true rfl) dX10_rest_31 (fun H locs hP hS => ?_)
    obtain ⟨z34, hz34, hf⟩ := rf_bd hf
    refine rf_vv (q0 := 6) (ci := 7) hC (c_X7_countBuyers l E a P (rf_upL I [(3, z12.2), (12, sellers_firstsOwn), (13, sellers_secondsOwn), (14, sellers_shared)]) J A B now_everybody now_far tc_wordCount tc_personCount now_words tc_kinds tc_close sellers_firstsOwn sellers_secondsOwn sellers_shared v1 v2 z31 hp2 e_now_everybody e_now_far e_tc_wordCount e_tc_personCount e_now_words e_tc_kinds e_tc_close rfl rfl rfl hz34) kV_X7_countBuyers tw_1077 ⟨Nat.le_of_ble_eq_true rfl, Nat.le_of_ble_eq_true rfl⟩ rfl rfl rfl rfl rfl hP (rf_DX hD) hS rfl hl.1 (rest := []) rfl (Nat.le_of_ble_eq_true rfl) dX10_rest_34 (fun H locs hP hS => ?_)
    rw [rf_cat (f := I) (l := [(3, z12.2), (12, sellers_firstsOwn), (13, sellers_secondsOwn), (14, sellers_shared)]) (lc := [(12, z34.1), (13, z34.2.1), (14, z34.2.2)]) (l' := [(3, z12.2), (12, z34.1), (13, z34.2.1), (14, z34.2.2)]) rfl] at hP
    refine lv_aload_n hx hb dX10_rest_37 rfl (lv_at hl 0 rfl) ?_
    refine gX_x_sellers hC hP tw_397 dX10_rest_38 ?_
    obtain ⟨z41, hz41, hf⟩ := rf_bd hf
    refine rf_vi (q0 := 6) (ci := 7) hC (c_X7_firstRest l E a P (rf_upL I [(3, z12.2), (12, z34.1), (13, z34.2.1), (14, z34.2.2)]) J A B z34.1 z34.2.1 z34.2.2 rfl rfl rfl hz41) kV_X7_firstRest tw_1111 ⟨Nat.le_of_ble_eq_true rfl, Nat.le_of_ble_eq_true rfl⟩ rfl rfl rfl rfl rfl hP (rf_DX hD) hS rfl hl.1 (rest := []) rfl (Nat.le_of_ble_eq_true rfl) dX10_rest_41 (fun H locs hP hS => ?_)
    obtain rfl := Option.some.inj hf
    exact rf_reti hC hP hS rfl rfl dX10_rest_44
  have hf := rf_ie c_15 hf
  refine lv_iconst (v := (-1)) hx hb dX10_rest_18 (by decide) ?_
  obtain rfl := Option.some.inj hf
  exact rf_reti hC hP hS rfl rfl dX10_rest_19
set_option maxHeartbeats 4000000 in
set_option maxRecDepth 100000 in
theorem w_X0_crossersAt_84 {l : Launch} {p : Program} {e : Env} {s : State} {m : MethodId} {args : Array Value} {below : List Frame} {meth : Method} {c : Code} {A0 : Nat → Prop} {E : rf_E} {a P : Nat → Nat} {I : Nat → Int32} {J : Nat → Int64} {A : Nat → Nat → Int32} {B : Nat → Nat → Int64} {tc_pairs : Int32} {pairing_partners : Nat → Int32} {z : Int32 × (Nat → Int32)} (hC : rf_C p E s m args meth c cX0_crossersAt 6 RX0 (some .int) A0) (hD : va_D A0 (cX E a P I J A B)) (hp2 : P 2 = a 10) (e_tc_pairs : I 22 = tc_pairs) (e_pairing_partners : A 4 = pairing_partners) :
    ∀ (v2 : Int32) (days_crossings : Nat → Int32), f_X0_crossersAt_84 tc_pairs pairing_partners v2 days_crossings = some z → ∀ (H : Heap) (locs : List Loc) (ls : Array Slot), va_P (rf_D E) vwCl (cX E a P I J (rf_upL A [(10, days_crossings)]) B) H → va_S A0 s.heap H locs → lv_has ls 6 [(2, .int v2)] → W p l e ({ frames := 0, cells := 0, slots := 0, locals := 0 }) s m args below meth c H locs 0 0 (rf_QI below args s E A0 z.1 (cX E a P I J (rf_upL A [(10, z.2)]) B)) (F0 m 84 ls []) := by
  have hx := hC.1
  have hb := hC.2.1
  intro v2 days_crossings hf H locs ls hP hS hl
  unfold f_X0_crossersAt_84 at hf
  refine lv_iload_n hx hb dX0_crossersAt_84 rfl (lv_at hl 0 rfl) ?_
  obtain rfl := Option.some.inj hf
  exact rf_reti hC hP hS rfl rfl dX0_crossersAt_85
set_option maxHeartbeats 4000000 in
set_option maxRecDepth 100000 in
theorem w_X0_crossersAt_78 {l : Launch} {p : Program} {e : Env} {s : State} {m : MethodId} {args : Array Value} {below : List Frame} {meth : Method} {c : Code} {A0 : Nat → Prop} {E : rf_E} {a P : Nat → Nat} {I : Nat → Int32} {J : Nat → Int64} {A : Nat → Nat → Int32} {B : Nat → Nat → Int64} {tc_pairs : Int32} {pairing_partners : Nat → Int32} {z : Int32 × (Nat → Int32)} (hC : rf_C p E s m args meth c cX0_crossersAt 6 RX0 (some .int) A0) (hD : va_D A0 (cX E a P I J A B)) (hp2 : P 2 = a 10) (e_tc_pairs : I 22 = tc_pairs) (e_pairing_partners : A 4 = pairing_partners) {k7 : Int32 → Int32 → Int32 → Int32 → (Nat → Int32) → Option (Int32 × (Nat → Int32))} (hk7 : ∀ (v1 : Int32) (v2 : Int32) (v3 : Int32) (v4 : Int32) (days_crossings : Nat → Int32), k7 v1 v2 v3 v4 days_crossings = some z → ∀ (H : Heap) (locs : List Loc) (ls : Array Slot), va_P (rf_D E) vwCl (cX E a P I J (rf_upL A [(10, days_crossings)]) B) H → va_S A0 s.heap H locs → lv_has ls 6 [(0, .ref (a 7)), (1, .int v1), (2, .int v2), (3, .int v3), (4, .int v4)] → W p l e ({ frames := 0, cells := 0, slots := 0, locals := 0 }) s m args below meth c H locs 0 0 (rf_QI below args s E A0 z.1 (cX E a P I J (rf_upL A [(10, z.2)]) B)) (F0 m 7 ls [])) :
    ∀ (v1 : Int32) (v2 : Int32) (v3 : Int32) (v4 : Int32) (days_crossings : Nat → Int32), f_X0_crossersAt_78 k7 tc_pairs pairing_partners v1 v2 v3 v4 days_crossings = some z → ∀ (H : Heap) (locs : List Loc) (ls : Array Slot), va_P (rf_D E) vwCl (cX E a P I J (rf_upL A [(10, days_crossings)]) B) H → va_S A0 s.heap H locs → lv_has ls 6 [(0, .ref (a 7)), (1, .int v1), (2, .int v2), (3, .int v3), (4, .int v4)] → W p l e ({ frames := 0, cells := 0, slots := 0, locals := 0 }) s m args below meth c H locs 0 0 (rf_QI below args s E A0 z.1 (cX E a P I J (rf_upL A [(10, z.2)]) B)) (F0 m 78 ls []) := by
  have hx := hC.1
  have hb := hC.2.1
  intro v1 v2 v3 v4 days_crossings hf H locs ls hP hS hl
  unfold f_X0_crossersAt_78 at hf
  refine lv_iinc (v := v4 + 1) (lv' := [(4, .int (v4 + 1)), (0, .ref (a 7)), (1, .int v1), (2, .int v2), (3, .int v3)]) hx hb dX0_crossersAt_78 hl (k := 4) rfl rfl (by decide) rfl (fun ls hl => ?_)
  refine lv_goto (tgt := 7) hx hb dX0_crossersAt_81 (by decide) ?_
  exact hk7 v1 v2 v3 (v4 + 1) days_crossings hf _ _ _ hP hS (lv_sub hl [1, 2, 3, 4, 0] rfl)
set_option maxHeartbeats 4000000 in
set_option maxRecDepth 100000 in
theorem w_X0_crossersAt_7 {l : Launch} {p : Program} {e : Env} {s : State} {m : MethodId} {args : Array Value} {below : List Frame} {meth : Method} {c : Code} {A0 : Nat → Prop} {E : rf_E} {a P : Nat → Nat} {I : Nat → Int32} {J : Nat → Int64} {A : Nat → Nat → Int32} {B : Nat → Nat → Int64} {tc_pairs : Int32} {pairing_partners : Nat → Int32} {z : Int32 × (Nat → Int32)} (hC : rf_C p E s m args meth c cX0_crossersAt 6 RX0 (some .int) A0) (hD : va_D A0 (cX E a P I J A B)) (hp2 : P 2 = a 10) (e_tc_pairs : I 22 = tc_pairs) (e_pairing_partners : A 4 = pairing_partners) :
    ∀ (n : Nat), ∀ (v1 : Int32) (v2 : Int32) (v3 : Int32) (v4 : Int32) (days_crossings : Nat → Int32), f_X0_crossersAt_7 tc_pairs pairing_partners n v1 v2 v3 v4 days_crossings = some z → ∀ (H : Heap) (locs : List Loc) (ls : Array Slot), va_P (rf_D E) vwCl (cX E a P I J (rf_upL A [(10, days_crossings)]) B) H → va_S A0 s.heap H locs → lv_has ls 6 [(0, .ref (a 7)), (1, .int v1), (2, .int v2), (3, .int v3), (4, .int v4)] → W p l e ({ frames := 0, cells := 0, slots := 0, locals := 0 }) s m args below meth c H locs 0 0 (rf_QI below args s E A0 z.1 (cX E a P I J (rf_upL A [(10, z.2)]) B)) (F0 m 7 ls []) := by
  have hx := hC.1
  have hb := hC.2.1
  intro n
  induction n with
  | zero =>
    intro v1 v2 v3 v4 days_crossings hf
    have hf : (none : Option (Int32 × (Nat → Int32))) = some z := hf
    cases hf
  | succ n ih =>
    intro v1 v2 v3 v4 days_crossings hf H locs ls hP hS hl
    rw [f_X0_crossersAt_7] at hf
    refine lv_iload hx hb dX0_crossersAt_7 (lv_at hl 4 rfl) ?_
    refine lv_bipush (v := 8) hx hb dX0_crossersAt_9 (by decide) ?_
    refine lv_icmp_ge (tgt := 84) hx hb dX0_crossersAt_11 (by decide) (fun c_11 => ?_) (fun c_11 => ?_)
    · have hf := rf_it c_11 hf
      exact w_X0_crossersAt_84 hC hD hp2 e_tc_pairs e_pairing_partners v2 days_crossings hf _ _ _ hP hS (lv_sub hl [2] rfl)
    have hf := rf_ie c_11 hf
    refine lv_iload_n hx hb dX0_crossersAt_14 rfl (lv_at hl 3 rfl) ?_
    refine lv_aload_n hx hb dX0_crossersAt_15 rfl (lv_at hl 0 rfl) ?_
    refine gX_days_rhymes hC hP tw_295 dX0_crossersAt_16 ?_
    refine gX_rhymes_tale hC hP tw_198 (v := a 10) hp2 dX0_crossersAt_19 ?_
    refine gX_tc_pairs hC hP tw_117 (v := tc_pairs) e_tc_pairs dX0_crossersAt_22 ?_
    refine lv_icmp_ge (tgt := 84) hx hb dX0_crossersAt_25 (by decide) (fun c_25 => ?_) (fun c_25 => ?_)
    · have hf := rf_it c_25 hf
      exact w_X0_crossersAt_84 hC hD hp2 e_tc_pairs e_pairing_partners v2 days_crossings hf _ _ _ hP hS (lv_sub hl [2] rfl)
    have hf := rf_ie c_25 hf
    refine lv_aload_n hx hb dX0_crossersAt_28 rfl (lv_at hl 0 rfl) ?_
    refine gX_days_pairing hC hP tw_296 dX0_crossersAt_29 ?_
    refine gX_pairing_partners hC hP tw_213 dX0_crossersAt_32 ?_
    refine lv_iload hx hb dX0_crossersAt_35 (lv_at hl 4 rfl) ?_
    obtain ⟨hi_37, hf⟩ := rf_gu hf
    refine lX_pairing_partners hC hP hi_37 (f := pairing_partners) e_pairing_partners dX0_crossersAt_37 ?_
    refine lv_istore (lv' := [(5, .int (pairing_partners (Int32.toNatClampNeg v4))), (0, .ref (a 7)), (1, .int v1), (2, .int v2), (3, .int v3), (4, .int v4)]) hx hb dX0_crossersAt_38 hl (by decide) rfl (fun ls hl => ?_)
    refine lv_iload hx hb dX0_crossersAt_40 (lv_at hl 0 rfl) ?_
    refine lv_iload hx hb dX0_crossersAt_42 (lv_at hl 5 rfl) ?_
    refine lv_icmp_le (tgt := 78) hx hb dX0_crossersAt_44 (by decide) (fun c_44 => ?_) (fun c_44 => ?_)
    · have hf := rf_it c_44 hf
      exact w_X0_crossersAt_78 hC hD hp2 e_tc_pairs e_pairing_partners ih v1 v2 v3 v4 days_crossings hf _ _ _ hP hS (lv_sub hl [1, 2, 3, 4, 5] rfl)
    have hf := rf_ie c_44 hf
    refine lv_iload_n hx hb dX0_crossersAt_47 rfl (lv_at hl 3 rfl) ?_
    refine lv_iconst (v := 1) hx hb dX0_crossersAt_48 (by decide) ?_
    refine lv_iload hx hb dX0_crossersAt_49 (lv_at hl 5 rfl) ?_
    refine lv_ishl hx hb dX0_crossersAt_51 ?_
    refine lv_iconst (v := 1) hx hb dX0_crossersAt_52 (by decide) ?_
    refine lv_iload hx hb dX0_crossersAt_53 (lv_at hl 0 rfl) ?_
    refine lv_ishl hx hb dX0_crossersAt_55 ?_
    refine lv_ior hx hb dX0_crossersAt_56 ?_
    refine lv_ior hx hb dX0_crossersAt_57 ?_
    refine lv_istore_n (lv' := [(2, .int (v2 ||| (((1 : Int32) <<< (v4 &&& 31)) ||| ((1 : Int32) <<< ((pairing_partners (Int32.toNatClampNeg v4)) &&& 31))))), (5, .int (pairing_partners (Int32.toNatClampNeg v4))), (0, .ref (a 7)), (1, .int v1), (3, .int v3), (4, .int v4)]) hx hb dX0_crossersAt_58 rfl hl (by decide) rfl (fun ls hl => ?_)
    refine lv_aload_n hx hb dX0_crossersAt_59 rfl (lv_at hl 2 rfl) ?_
    refine gX_days_crossings hC hP tw_297 dX0_crossersAt_60 ?_
    refine lv_iload hx hb dX0_crossersAt_63 (lv_at hl 5 rfl) ?_
    refine lv_iload_n hx hb dX0_crossersAt_65 rfl (lv_at hl 3 rfl) ?_
    obtain ⟨hi_66, hf⟩ := rf_gu hf
    refine sX_days_crossings hC hD hP hS hi_66 (f := days_crossings) rfl dX0_crossersAt_66 (rf_upL A [(10, upd days_crossings (Int32.toNatClampNeg v4) v1)]) (rf_put rfl) (fun H locs hP hS => ?_)
    refine lv_aload_n hx hb dX0_crossersAt_67 rfl (lv_at hl 2 rfl) ?_
    refine gX_days_crossings hC hP tw_297 dX0_crossersAt_68 ?_
    refine lv_iload hx hb dX0_crossersAt_71 (lv_at hl 1 rfl) ?_
    refine lv_iload_n hx hb dX0_crossersAt_73 rfl (lv_at hl 3 rfl) ?_
    obtain ⟨hi_74, hf⟩ := rf_gu hf
    refine sX_days_crossings hC hD hP hS hi_74 (f := upd days_crossings (Int32.toNatClampNeg v4) v1) rfl dX0_crossersAt_74 (rf_upL A [(10, upd (upd days_crossings (Int32.toNatClampNeg v4) v1) (Int32.toNatClampNeg (pairing_partners (Int32.toNatClampNeg v4))) v1)]) (rf_put rfl) (fun H locs hP hS => ?_)
    refine lv_iinc (v := v3 + 1) (lv' := [(3, .int (v3 + 1)), (2, .int (v2 ||| (((1 : Int32) <<< (v4 &&& 31)) ||| ((1 : Int32) <<< ((pairing_partners (Int32.toNatClampNeg v4)) &&& 31))))), (5, .int (pairing_partners (Int32.toNatClampNeg v4))), (0, .ref (a 7)), (1, .int v1), (4, .int v4)]) hx hb dX0_crossersAt_75 hl (k := 4) rfl rfl (by decide) rfl (fun ls hl => ?_)
    exact w_X0_crossersAt_78 hC hD hp2 e_tc_pairs e_pairing_partners ih v1 (v2 ||| (((1 : Int32) <<< (v4 &&& 31)) ||| ((1 : Int32) <<< ((pairing_partners (Int32.toNatClampNeg v4)) &&& 31)))) (v3 + 1) v4 (upd (upd days_crossings (Int32.toNatClampNeg v4) v1) (Int32.toNatClampNeg (pairing_partners (Int32.toNatClampNeg v4))) v1) hf _ _ _ hP hS (lv_sub hl [3, 4, 1, 0, 5] rfl)
set_option maxHeartbeats 4000000 in
set_option maxRecDepth 100000 in
theorem c_X0_crossersAt (l : Launch) (E : rf_E) (a P : Nat → Nat) (I : Nat → Int32) (J : Nat → Int64) (A : Nat → Nat → Int32) (B : Nat → Nat → Int64) (tc_pairs : Int32) (pairing_partners : Nat → Int32) (days_crossings : Nat → Int32) (v1 : Int32) {z : Int32 × (Nat → Int32)} (hp2 : P 2 = a 10) (e_tc_pairs : I 22 = tc_pairs) (e_pairing_partners : A 4 = pairing_partners) (e_days_crossings : A 10 = days_crossings) (hf : f_X0_crossersAt tc_pairs pairing_partners days_crossings v1 = some z) : rf_MI l yX0_crossersAt cX0_crossersAt 6 (some .int) ({ frames := 0, cells := 0, slots := 0, locals := 0 }) E [.ref (a 7), .int v1] (cX E a P I J A B) z.1 (cX E a P I J (rf_upL A [(10, z.2)]) B) := by
  unfold f_X0_crossersAt at hf
  refine rf_ofI (by decide) (Nat.le_of_ble_eq_true rfl) ?_
  intro p e s m below meth c A0 ls hC hD hP hS hl
  have hC : rf_C p E s m _ meth c cX0_crossersAt 6 RX0 (some .int) A0 := hC
  have hx := hC.1
  have hb := hC.2.1
  have hl : lv_has ls 6 [(0, .ref (a 7)), (1, .int v1)] := hl
  have hP : va_P (rf_D E) vwCl (cX E a P I J (rf_upL A [(10, days_crossings)]) B) s.heap := by
    rw [rf_self (f := A) [(10, days_crossings)] (rf_fa1 e_days_crossings rf_fa0)]
    exact hP
  refine lv_iconst (v := 0) hx hb dX0_crossersAt_0 (by decide) ?_
  refine lv_istore_n (lv' := [(2, .int 0), (0, .ref (a 7)), (1, .int v1)]) hx hb dX0_crossersAt_1 rfl hl (by decide) rfl (fun ls hl => ?_)
  refine lv_iconst (v := 0) hx hb dX0_crossersAt_2 (by decide) ?_
  refine lv_istore_n (lv' := [(3, .int 0), (2, .int 0), (0, .ref (a 7)), (1, .int v1)]) hx hb dX0_crossersAt_3 rfl hl (by decide) rfl (fun ls hl => ?_)
  refine lv_iconst (v := 0) hx hb dX0_crossersAt_4 (by decide) ?_
  refine lv_istore (lv' := [(4, .int 0), (3, .int 0), (2, .int 0), (0, .ref (a 7)), (1, .int v1)]) hx hb dX0_crossersAt_5 hl (by decide) rfl (fun ls hl => ?_)
  exact w_X0_crossersAt_7 hC hD hp2 e_tc_pairs e_pairing_partners rf_fu v1 0 0 0 days_crossings hf _ _ _ hP hS (lv_sub hl [3, 4, 2, 1, 0] rfl)
set_option maxHeartbeats 4000000 in
set_option maxRecDepth 100000 in
theorem w_X0_pass_143 {l : Launch} {p : Program} {e : Env} {s : State} {m : MethodId} {args : Array Value} {below : List Frame} {meth : Method} {c : Code} {A0 : Nat → Prop} {E : rf_E} {a P : Nat → Nat} {I : Nat → Int32} {J : Nat → Int64} {A : Nat → Nat → Int32} {B : Nat → Nat → Int64} {now_hour : Int32} {now_everybody : Int32} {now_far : Int32} {tc_ear : Int32} {tc_pairs : Int32} {tc_wordCount : Int32} {tc_personCount : Int32} {now_words : Nat → Int32} {tc_kinds : Nat → Int32} {tc_hourEars : Nat → Int32} {tc_close : Nat → Int32} {z : Int32 × (Nat → Int32) × (Nat → Int32) × (Nat → Int32) × (Nat → Int32)} (hC : rf_C p E s m args meth c cX0_pass 8 RX0 (some .int) A0) (hD : va_D A0 (cX E a P I J A B)) (hp2 : P 2 = a 10) (e_now_hour : I 4 = now_hour) (e_now_everybody : I 6 = now_everybody) (e_now_far : I 7 = now_far) (e_tc_ear : I 21 = tc_ear) (e_tc_pairs : I 22 = tc_pairs) (e_tc_wordCount : I 23 = tc_wordCount) (e_tc_personCount : I 24 = tc_personCount) (e_now_words : A 1 = now_words) (e_tc_kinds : A 14 = tc_kinds) (e_tc_hourEars : A 18 = tc_hourEars) (e_tc_close : A 22 = tc_close) :
    ∀ (v3 : Int32) (v4 : Int32) (rhymes_links : Nat → Int32) (pairing_partners : Nat → Int32) (pairing_best : Nat → Int32) (days_crossings : Nat → Int32), f_X0_pass_143 now_hour now_everybody now_far tc_ear tc_pairs tc_wordCount tc_personCount now_words tc_kinds tc_hourEars tc_close v3 v4 rhymes_links pairing_partners pairing_best days_crossings = some z → ∀ (H : Heap) (locs : List Loc) (ls : Array Slot), va_P (rf_D E) vwCl (cX E a P I J (rf_upL A [(3, rhymes_links), (4, pairing_partners), (5, pairing_best), (10, days_crossings)]) B) H → va_S A0 s.heap H locs → lv_has ls 8 [(3, .int v3), (4, .int v4)] → W p l e ({ frames := 7, cells := 0, slots := 0, locals := 225 }) s m args below meth c H locs 0 0 (rf_QI below args s E A0 z.1 (cX E a P I J (rf_upL A [(3, z.2.1), (4, z.2.2.1), (5, z.2.2.2.1), (10, z.2.2.2.2)]) B)) (F0 m 143 ls []) := by
  have hx := hC.1
  have hb := hC.2.1
  intro v3 v4 rhymes_links pairing_partners pairing_best days_crossings hf H locs ls hP hS hl
  unfold f_X0_pass_143 at hf
  refine lv_iload_n hx hb dX0_pass_143 rfl (lv_at hl 0 rfl) ?_
  refine lv_iload hx hb dX0_pass_144 (lv_at hl 1 rfl) ?_
  refine lv_iconst (v := (-1)) hx hb dX0_pass_146 (by decide) ?_
  refine lv_ixor hx hb dX0_pass_147 ?_
  refine lv_iand hx hb dX0_pass_148 ?_
  obtain ⟨z149, hz149, hf⟩ := rf_bd hf
  refine rf_si0 hC (c_J6_bitCount_0f7a4 l E (v3 &&& (v4 ^^^ (-1))) hz149) kS_J6_bitCount_0f7a4 tw_1130 ⟨Nat.le_of_ble_eq_true rfl, Nat.le_of_ble_eq_true rfl⟩ rfl rfl hP hS rfl hl.1 (rest := []) rfl (Nat.le_of_ble_eq_true rfl) dX0_pass_149 (fun H locs hP hS => ?_)
  obtain rfl := Option.some.inj hf
  exact rf_reti hC hP hS rfl rfl dX0_pass_152
set_option maxHeartbeats 4000000 in
set_option maxRecDepth 100000 in
theorem w_X0_pass_30 {l : Launch} {p : Program} {e : Env} {s : State} {m : MethodId} {args : Array Value} {below : List Frame} {meth : Method} {c : Code} {A0 : Nat → Prop} {E : rf_E} {a P : Nat → Nat} {I : Nat → Int32} {J : Nat → Int64} {A : Nat → Nat → Int32} {B : Nat → Nat → Int64} {now_hour : Int32} {now_everybody : Int32} {now_far : Int32} {tc_ear : Int32} {tc_pairs : Int32} {tc_wordCount : Int32} {tc_personCount : Int32} {now_words : Nat → Int32} {tc_kinds : Nat → Int32} {tc_hourEars : Nat → Int32} {tc_close : Nat → Int32} {z : Int32 × (Nat → Int32) × (Nat → Int32) × (Nat → Int32) × (Nat → Int32)} (hC : rf_C p E s m args meth c cX0_pass 8 RX0 (some .int) A0) (hD : va_D A0 (cX E a P I J A B)) (hp2 : P 2 = a 10) (e_now_hour : I 4 = now_hour) (e_now_everybody : I 6 = now_everybody) (e_now_far : I 7 = now_far) (e_tc_ear : I 21 = tc_ear) (e_tc_pairs : I 22 = tc_pairs) (e_tc_wordCount : I 23 = tc_wordCount) (e_tc_personCount : I 24 = tc_personCount) (e_now_words : A 1 = now_words) (e_tc_kinds : A 14 = tc_kinds) (e_tc_hourEars : A 18 = tc_hourEars) (e_tc_close : A 22 = tc_close) :
    ∀ (n : Nat), ∀ (v2 : Int32) (v3 : Int32) (v4 : Int32) (v5 : Int32) (v6 : Int32) (rhymes_links : Nat → Int32) (pairing_partners : Nat → Int32) (pairing_best : Nat → Int32) (days_crossings : Nat → Int32), f_X0_pass_30 now_hour now_everybody now_far tc_ear tc_pairs tc_wordCount tc_personCount now_words tc_kinds tc_hourEars tc_close n v2 v3 v4 v5 v6 rhymes_links pairing_partners pairing_best days_crossings = some z → ∀ (H : Heap) (locs : List Loc) (ls : Array Slot), va_P (rf_D E) vwCl (cX E a P I J (rf_upL A [(3, rhymes_links), (4, pairing_partners), (5, pairing_best), (10, days_crossings)]) B) H → va_S A0 s.heap H locs → lv_has ls 8 [(0, .ref (a 7)), (2, .int v2), (3, .int v3), (4, .int v4), (5, .int v5), (6, .int v6)] → W p l e ({ frames := 7, cells := 0, slots := 0, locals := 225 }) s m args below meth c H locs 0 0 (rf_QI below args s E A0 z.1 (cX E a P I J (rf_upL A [(3, z.2.1), (4, z.2.2.1), (5, z.2.2.2.1), (10, z.2.2.2.2)]) B)) (F0 m 30 ls []) := by
  have hx := hC.1
  have hb := hC.2.1
  intro n
  induction n with
  | zero =>
    intro v2 v3 v4 v5 v6 rhymes_links pairing_partners pairing_best days_crossings hf
    have hf : (none : Option (Int32 × (Nat → Int32) × (Nat → Int32) × (Nat → Int32) × (Nat → Int32))) = some z := hf
    cases hf
  | succ n ih =>
    intro v2 v3 v4 v5 v6 rhymes_links pairing_partners pairing_best days_crossings hf H locs ls hP hS hl
    rw [f_X0_pass_30] at hf
    refine lv_iload hx hb dX0_pass_30 (lv_at hl 5 rfl) ?_
    refine lv_iload_n hx hb dX0_pass_32 rfl (lv_at hl 1 rfl) ?_
    refine lv_icmp_ge (tgt := 143) hx hb dX0_pass_33 (by decide) (fun c_33 => ?_) (fun c_33 => ?_)
    · have hf := rf_it c_33 hf
      exact w_X0_pass_143 hC hD hp2 e_now_hour e_now_everybody e_now_far e_tc_ear e_tc_pairs e_tc_wordCount e_tc_personCount e_now_words e_tc_kinds e_tc_hourEars e_tc_close v3 v4 rhymes_links pairing_partners pairing_best days_crossings hf _ _ _ hP hS (lv_sub hl [2, 3] rfl)
    have hf := rf_ie c_33 hf
    refine lv_iload hx hb dX0_pass_36 (lv_at hl 3 rfl) ?_
    obtain ⟨z38, hz38, hf⟩ := rf_bd hf
    refine rf_si0 hC (c_J6_bitCount_0f7a4 l E v4 hz38) kS_J6_bitCount_0f7a4 tw_1130 ⟨Nat.le_of_ble_eq_true rfl, Nat.le_of_ble_eq_true rfl⟩ rfl rfl hP hS rfl hl.1 (rest := []) rfl (Nat.le_of_ble_eq_true rfl) dX0_pass_38 (fun H locs hP hS => ?_)
    refine lv_iconst (v := 1) hx hb dX0_pass_41 (by decide) ?_
    refine lv_icmp_le (tgt := 143) hx hb dX0_pass_42 (by decide) (fun c_42 => ?_) (fun c_42 => ?_)
    · have hf := rf_it c_42 hf
      exact w_X0_pass_143 hC hD hp2 e_now_hour e_now_everybody e_now_far e_tc_ear e_tc_pairs e_tc_wordCount e_tc_personCount e_now_words e_tc_kinds e_tc_hourEars e_tc_close v3 v4 rhymes_links pairing_partners pairing_best days_crossings hf _ _ _ hP hS (lv_sub hl [2, 3] rfl)
    have hf := rf_ie c_42 hf
    refine lv_bipush (v := 75) hx hb dX0_pass_45 (by decide) ?_
    refine lv_iload hx hb dX0_pass_47 (lv_at hl 4 rfl) ?_
    refine lv_imul hx hb dX0_pass_49 ?_
    refine lv_bipush (v := 74) hx hb dX0_pass_50 (by decide) ?_
    refine lv_iadd hx hb dX0_pass_52 ?_
    refine lv_ldc hx hb hC.2.2.2.1 (hC.2.2.2.2.1 _ tw_1131) dX0_pass_53 ?_
    refine lv_irem hx hb dX0_pass_55 (by decide) ?_
    refine lv_istore (lv' := [(5, .int ((((75 : Int32) * v5) + 74) - (((75 : Int32) * v5) + 74) / 65537 * 65537)), (0, .ref (a 7)), (2, .int v2), (3, .int v3), (4, .int v4), (6, .int v6)]) hx hb dX0_pass_56 hl (by decide) rfl (fun ls hl => ?_)
    refine lv_aload_n hx hb dX0_pass_58 rfl (lv_at hl 1 rfl) ?_
    refine gX_days_rhymes hC hP tw_295 dX0_pass_59 ?_
    refine gX_rhymes_tale hC hP tw_198 (v := a 10) hp2 dX0_pass_62 ?_
    refine lv_aload_n hx hb dX0_pass_65 rfl (lv_at hl 1 rfl) ?_
    refine gX_days_rhymes hC hP tw_295 dX0_pass_66 ?_
    refine gX_rhymes_now hC hP tw_186 dX0_pass_69 ?_
    refine gX_now_hour hC hP tw_40 (v := now_hour) e_now_hour dX0_pass_72 ?_
    refine lv_iload hx hb dX0_pass_75 (lv_at hl 5 rfl) ?_
    refine lv_iadd hx hb dX0_pass_77 ?_
    refine lv_bipush (v := 24) hx hb dX0_pass_78 (by decide) ?_
    refine lv_irem hx hb dX0_pass_80 (by decide) ?_
    obtain ⟨z81, hz81, hf⟩ := rf_bd hf
    refine rf_vi (q0 := 10) (ci := 9) hC (c_X9_earAt_tc l E a P I J (rf_upL A [(3, rhymes_links), (4, pairing_partners), (5, pairing_best), (10, days_crossings)]) B tc_ear tc_hourEars ((now_hour + v6) - (now_hour + v6) / 24 * 24) e_tc_ear e_tc_hourEars hz81) kV_X9_earAt tw_1132 ⟨Nat.le_of_ble_eq_true rfl, Nat.le_of_ble_eq_true rfl⟩ rfl rfl rfl rfl rfl hP (rf_DX hD) hS rfl hl.1 (rest := []) rfl (Nat.le_of_ble_eq_true rfl) dX0_pass_81 (fun H locs hP hS => ?_)
    refine lv_istore (lv' := [(7, .int z81), (5, .int ((((75 : Int32) * v5) + 74) - (((75 : Int32) * v5) + 74) / 65537 * 65537)), (0, .ref (a 7)), (2, .int v2), (3, .int v3), (4, .int v4), (6, .int v6)]) hx hb dX0_pass_84 hl (by decide) rfl (fun ls hl => ?_)
    refine lv_aload_n hx hb dX0_pass_86 rfl (lv_at hl 2 rfl) ?_
    refine gX_days_rhymes hC hP tw_295 dX0_pass_87 ?_
    refine lv_iconst (v := 1) hx hb dX0_pass_90 (by decide) ?_
    refine lv_iload hx hb dX0_pass_91 (lv_at hl 0 rfl) ?_
    refine lv_iload hx hb dX0_pass_93 (lv_at hl 1 rfl) ?_
    refine lv_iconst (v := 3) hx hb dX0_pass_95 (by decide) ?_
    refine lv_irem hx hb dX0_pass_96 (by decide) ?_
    refine lv_iadd hx hb dX0_pass_97 ?_
    refine lv_iconst (v := 1) hx hb dX0_pass_98 (by decide) ?_
    refine lv_isub hx hb dX0_pass_99 ?_
    refine va_mmax hx hb (by rw [hC.2.2.1]; exact hl.1.symm) hC.2.2.2.1 (hC.2.2.2.2.1 _ tw_1133) (hC.2.2.2.2.1 _ rf_max.1) (hC.2.2.2.2.1 _ rf_max.2.1) (hC.2.2.2.2.1 _ rf_max.2.2) (Nat.le_of_ble_eq_true rfl) (Nat.le_of_ble_eq_true rfl) (Nat.zero_le _) (Nat.zero_le _) dX0_pass_100 ?_
    obtain ⟨z103, hz103, hf⟩ := rf_bd hf
    refine rf_vv (q0 := 2) (ci := 6) hC (c_X6_link l E a P I J (rf_upL A [(3, rhymes_links), (4, pairing_partners), (5, pairing_best), (10, days_crossings)]) B tc_wordCount tc_personCount now_words tc_kinds tc_close rhymes_links (if 1 < ((z81 + (((((75 : Int32) * v5) + 74) - (((75 : Int32) * v5) + 74) / 65537 * 65537) - ((((75 : Int32) * v5) + 74) - (((75 : Int32) * v5) + 74) / 65537 * 65537) / 3 * 3)) - 1) then ((z81 + (((((75 : Int32) * v5) + 74) - (((75 : Int32) * v5) + 74) / 65537 * 65537) - ((((75 : Int32) * v5) + 74) - (((75 : Int32) * v5) + 74) / 65537 * 65537) / 3 * 3)) - 1) else 1) hp2 e_tc_wordCount e_tc_personCount e_now_words e_tc_kinds e_tc_close rfl hz103) kV_X6_link tw_1134 ⟨Nat.le_of_ble_eq_true rfl, Nat.le_of_ble_eq_true rfl⟩ rfl rfl rfl rfl rfl hP (rf_DX hD) hS rfl hl.1 (rest := []) rfl (Nat.le_of_ble_eq_true rfl) dX0_pass_103 (fun H locs hP hS => ?_)
    rw [rf_cat (f := A) (l := [(3, rhymes_links), (4, pairing_partners), (5, pairing_best), (10, days_crossings)]) (lc := [(3, z103)]) (l' := [(3, z103), (4, pairing_partners), (5, pairing_best), (10, days_crossings)]) rfl] at hP
    refine lv_aload_n hx hb dX0_pass_106 rfl (lv_at hl 2 rfl) ?_
    refine gX_days_pairing hC hP tw_296 dX0_pass_107 ?_
    refine lv_aload_n hx hb dX0_pass_110 rfl (lv_at hl 2 rfl) ?_
    refine gX_days_rhymes hC hP tw_295 dX0_pass_111 ?_
    refine gX_rhymes_links hC hP tw_190 dX0_pass_114 ?_
    refine lv_iload hx hb dX0_pass_117 (lv_at hl 5 rfl) ?_
    obtain ⟨z119, hz119, hf⟩ := rf_bd hf
    refine rf_vv (q0 := 3) (ci := 3) hC (c_X3_pairFirst l E a P I J (rf_upL A [(3, z103), (4, pairing_partners), (5, pairing_best), (10, days_crossings)]) B z103 pairing_partners pairing_best v4 rfl rfl rfl hz119) kV_X3_pairFirst tw_1135 ⟨Nat.le_of_ble_eq_true rfl, Nat.le_of_ble_eq_true rfl⟩ rfl rfl rfl rfl rfl hP (rf_DX hD) hS rfl hl.1 (rest := []) rfl (Nat.le_of_ble_eq_true rfl) dX0_pass_119 (fun H locs hP hS => ?_)
    rw [rf_cat (f := A) (l := [(3, z103), (4, pairing_partners), (5, pairing_best), (10, days_crossings)]) (lc := [(4, z119.1), (5, z119.2)]) (l' := [(3, z103), (4, z119.1), (5, z119.2), (10, days_crossings)]) rfl] at hP
    refine lv_iload hx hb dX0_pass_122 (lv_at hl 5 rfl) ?_
    refine lv_aload_n hx hb dX0_pass_124 rfl (lv_at hl 2 rfl) ?_
    refine lv_iload hx hb dX0_pass_125 (lv_at hl 6 rfl) ?_
    refine lv_iconst (v := 1) hx hb dX0_pass_127 (by decide) ?_
    refine lv_iadd hx hb dX0_pass_128 ?_
    obtain ⟨z129, hz129, hf⟩ := rf_bd hf
    refine rf_vi (q0 := 7) (ci := 0) hC (c_X0_crossersAt l E a P I J (rf_upL A [(3, z103), (4, z119.1), (5, z119.2), (10, days_crossings)]) B tc_pairs z119.1 days_crossings (v6 + 1) hp2 e_tc_pairs rfl rfl hz129) kV_X0_crossersAt tw_1136 ⟨Nat.le_of_ble_eq_true rfl, Nat.le_of_ble_eq_true rfl⟩ rfl rfl rfl rfl rfl hP (rf_DX hD) hS rfl hl.1 (rest := [.int v4]) rfl (Nat.le_of_ble_eq_true rfl) dX0_pass_129 (fun H locs hP hS => ?_)
    rw [rf_cat (f := A) (l := [(3, z103), (4, z119.1), (5, z119.2), (10, days_crossings)]) (lc := [(10, z129.2)]) (l' := [(3, z103), (4, z119.1), (5, z119.2), (10, z129.2)]) rfl] at hP
    refine lv_iconst (v := (-1)) hx hb dX0_pass_132 (by decide) ?_
    refine lv_ixor hx hb dX0_pass_133 ?_
    refine lv_iand hx hb dX0_pass_134 ?_
    refine lv_istore (lv' := [(4, .int (v4 &&& (z129.1 ^^^ (-1)))), (7, .int z81), (5, .int ((((75 : Int32) * v5) + 74) - (((75 : Int32) * v5) + 74) / 65537 * 65537)), (0, .ref (a 7)), (2, .int v2), (3, .int v3), (6, .int v6)]) hx hb dX0_pass_135 hl (by decide) rfl (fun ls hl => ?_)
    refine lv_iinc (v := v6 + 1) (lv' := [(6, .int (v6 + 1)), (4, .int (v4 &&& (z129.1 ^^^ (-1)))), (7, .int z81), (5, .int ((((75 : Int32) * v5) + 74) - (((75 : Int32) * v5) + 74) / 65537 * 65537)), (0, .ref (a 7)), (2, .int v2), (3, .int v3)]) hx hb dX0_pass_137 hl (k := 6) rfl rfl (by decide) rfl (fun ls hl => ?_)
    refine lv_goto (tgt := 30) hx hb dX0_pass_140 (by decide) ?_
    exact ih v2 v3 (v4 &&& (z129.1 ^^^ (-1))) ((((75 : Int32) * v5) + 74) - (((75 : Int32) * v5) + 74) / 65537 * 65537) (v6 + 1) z103 z119.1 z119.2 z129.2 hf _ _ _ hP hS (lv_sub hl [4, 5, 6, 1, 3, 0] rfl)
set_option maxHeartbeats 4000000 in
set_option maxRecDepth 100000 in
theorem c_X0_pass (l : Launch) (E : rf_E) (a P : Nat → Nat) (I : Nat → Int32) (J : Nat → Int64) (A : Nat → Nat → Int32) (B : Nat → Nat → Int64) (now_hour : Int32) (now_everybody : Int32) (now_far : Int32) (tc_ear : Int32) (tc_pairs : Int32) (tc_wordCount : Int32) (tc_personCount : Int32) (now_words : Nat → Int32) (tc_kinds : Nat → Int32) (tc_hourEars : Nat → Int32) (tc_close : Nat → Int32) (rhymes_links : Nat → Int32) (pairing_partners : Nat → Int32) (pairing_best : Nat → Int32) (days_crossings : Nat → Int32) (v1 : Int32) (v2 : Int32) {z : Int32 × (Nat → Int32) × (Nat → Int32) × (Nat → Int32) × (Nat → Int32)} (hp2 : P 2 = a 10) (e_now_hour : I 4 = now_hour) (e_now_everybody : I 6 = now_everybody) (e_now_far : I 7 = now_far) (e_tc_ear : I 21 = tc_ear) (e_tc_pairs : I 22 = tc_pairs) (e_tc_wordCount : I 23 = tc_wordCount) (e_tc_personCount : I 24 = tc_personCount) (e_now_words : A 1 = now_words) (e_tc_kinds : A 14 = tc_kinds) (e_tc_hourEars : A 18 = tc_hourEars) (e_tc_close : A 22 = tc_close) (e_rhymes_links : A 3 = rhymes_links) (e_pairing_partners : A 4 = pairing_partners) (e_pairing_best : A 5 = pairing_best) (e_days_crossings : A 10 = days_crossings) (hf : f_X0_pass now_hour now_everybody now_far tc_ear tc_pairs tc_wordCount tc_personCount now_words tc_kinds tc_hourEars tc_close rhymes_links pairing_partners pairing_best days_crossings v1 v2 = some z) : rf_MI l yX0_pass cX0_pass 8 (some .int) ({ frames := 7, cells := 0, slots := 0, locals := 225 }) E [.ref (a 7), .int v1, .int v2] (cX E a P I J A B) z.1 (cX E a P I J (rf_upL A [(3, z.2.1), (4, z.2.2.1), (5, z.2.2.2.1), (10, z.2.2.2.2)]) B) := by
  unfold f_X0_pass at hf
  refine rf_ofI (by decide) (Nat.le_of_ble_eq_true rfl) ?_
  intro p e s m below meth c A0 ls hC hD hP hS hl
  have hC : rf_C p E s m _ meth c cX0_pass 8 RX0 (some .int) A0 := hC
  have hx := hC.1
  have hb := hC.2.1
  have hl : lv_has ls 8 [(0, .ref (a 7)), (1, .int v1), (2, .int v2)] := hl
  have hP : va_P (rf_D E) vwCl (cX E a P I J (rf_upL A [(3, rhymes_links), (4, pairing_partners), (5, pairing_best), (10, days_crossings)]) B) s.heap := by
    rw [rf_self (f := A) [(3, rhymes_links), (4, pairing_partners), (5, pairing_best), (10, days_crossings)] (rf_fa1 e_rhymes_links (rf_fa1 e_pairing_partners (rf_fa1 e_pairing_best (rf_fa1 e_days_crossings rf_fa0))))]
    exact hP
  refine lv_aload_n hx hb dX0_pass_0 rfl (lv_at hl 0 rfl) ?_
  refine gX_days_crossings hC hP tw_297 dX0_pass_1 ?_
  refine lv_bipush (v := (-2)) hx hb dX0_pass_4 (by decide) ?_
  refine fX_days_crossings hC hD hP hS (f := days_crossings) rfl tw_1128  hl.1 (Nat.le_of_ble_eq_true rfl) ⟨Nat.le_of_ble_eq_true rfl, Nat.le_of_ble_eq_true rfl⟩ dX0_pass_6 (rf_upL A [(3, rhymes_links), (4, pairing_partners), (5, pairing_best), (10, rf_fill 8 (-2) days_crossings)]) (rf_put rfl) (fun H locs hP hS => ?_)
  refine lv_aload_n hx hb dX0_pass_9 rfl (lv_at hl 0 rfl) ?_
  refine gX_days_rhymes hC hP tw_295 dX0_pass_10 ?_
  refine gX_rhymes_now hC hP tw_186 dX0_pass_13 ?_
  refine lv_iconst (v := 0) hx hb dX0_pass_16 (by decide) ?_
  obtain ⟨z17, hz17, hf⟩ := rf_bd hf
  refine rf_vi (q0 := 1) (ci := 2) hC (c_X2_onBank l E a P I J (rf_upL A [(3, rhymes_links), (4, pairing_partners), (5, pairing_best), (10, rf_fill 8 (-2) days_crossings)]) B now_everybody now_far 0 e_now_everybody e_now_far hz17) kV_X2_onBank tw_1129 ⟨Nat.le_of_ble_eq_true rfl, Nat.le_of_ble_eq_true rfl⟩ rfl rfl rfl rfl rfl hP (rf_DX hD) hS rfl hl.1 (rest := []) rfl (Nat.le_of_ble_eq_true rfl) dX0_pass_17 (fun H locs hP hS => ?_)
  refine lv_istore_n (lv' := [(3, .int z17), (0, .ref (a 7)), (1, .int v1), (2, .int v2)]) hx hb dX0_pass_20 rfl hl (by decide) rfl (fun ls hl => ?_)
  refine lv_iload_n hx hb dX0_pass_21 rfl (lv_at hl 0 rfl) ?_
  refine lv_istore (lv' := [(4, .int z17), (3, .int z17), (0, .ref (a 7)), (1, .int v1), (2, .int v2)]) hx hb dX0_pass_22 hl (by decide) rfl (fun ls hl => ?_)
  refine lv_iload_n hx hb dX0_pass_24 rfl (lv_at hl 3 rfl) ?_
  refine lv_istore (lv' := [(5, .int v1), (4, .int z17), (3, .int z17), (0, .ref (a 7)), (1, .int v1), (2, .int v2)]) hx hb dX0_pass_25 hl (by decide) rfl (fun ls hl => ?_)
  refine lv_iconst (v := 0) hx hb dX0_pass_27 (by decide) ?_
  refine lv_istore (lv' := [(6, .int 0), (5, .int v1), (4, .int z17), (3, .int z17), (0, .ref (a 7)), (1, .int v1), (2, .int v2)]) hx hb dX0_pass_28 hl (by decide) rfl (fun ls hl => ?_)
  exact w_X0_pass_30 hC hD hp2 e_now_hour e_now_everybody e_now_far e_tc_ear e_tc_pairs e_tc_wordCount e_tc_personCount e_now_words e_tc_kinds e_tc_hourEars e_tc_close rf_fu v2 z17 z17 v1 0 rhymes_links pairing_partners pairing_best (rf_fill 8 (-2) days_crossings) hf _ _ _ hP hS (lv_sub hl [4, 6, 3, 2, 1, 0] rfl)
set_option maxHeartbeats 4000000 in
set_option maxRecDepth 100000 in
theorem w_X10_isDay_25 {l : Launch} {p : Program} {e : Env} {s : State} {m : MethodId} {args : Array Value} {below : List Frame} {meth : Method} {c : Code} {A0 : Nat → Prop} {E : rf_E} {a P : Nat → Nat} {I : Nat → Int32} {J : Nat → Int64} {A : Nat → Nat → Int32} {B : Nat → Nat → Int64} {z : Int32} (hC : rf_C p E s m args meth c cX10_isDay 3 RX10 (some .boolean) A0) (hD : va_D A0 (cX E a P I J A B)) :
    ∀ (_ : Unit), f_X10_isDay_25 = some z → ∀ (H : Heap) (locs : List Loc) (ls : Array Slot), va_P (rf_D E) vwCl (cX E a P I J A B) H → va_S A0 s.heap H locs → lv_has ls 3 [] → W p l e ({ frames := 0, cells := 0, slots := 0, locals := 0 }) s m args below meth c H locs 0 0 (rf_QI below args s E A0 z (cX E a P I J A B)) (F0 m 25 ls []) := by
  have hx := hC.1
  have hb := hC.2.1
  intro _ hf H locs ls hP hS hl
  unfold f_X10_isDay_25 at hf
  refine lv_iconst (v := 0) hx hb dX10_isDay_25 (by decide) ?_
  obtain rfl := Option.some.inj hf
  exact rf_retz hC hP hS (by decide) rfl rfl dX10_isDay_26
set_option maxHeartbeats 4000000 in
set_option maxRecDepth 100000 in
theorem c_X10_isDay (l : Launch) (E : rf_E) (a P : Nat → Nat) (I : Nat → Int32) (J : Nat → Int64) (A : Nat → Nat → Int32) (B : Nat → Nat → Int64) (v1 : Int32) (v2 : Int32) {z : Int32} (hf : f_X10_isDay v1 v2 = some z) : rf_MI l yX10_isDay cX10_isDay 3 (some .boolean) ({ frames := 0, cells := 0, slots := 0, locals := 0 }) E [.ref (a 0), .int v1, .int v2] (cX E a P I J A B) z (cX E a P I J A B) := by
  unfold f_X10_isDay at hf
  refine rf_ofI (by decide) (Nat.le_of_ble_eq_true rfl) ?_
  intro p e s m below meth c A0 ls hC hD hP hS hl
  have hC : rf_C p E s m _ meth c cX10_isDay 3 RX10 (some .boolean) A0 := hC
  have hx := hC.1
  have hb := hC.2.1
  have hl : lv_has ls 3 [(0, .ref (a 0)), (1, .int v1), (2, .int v2)] := hl
  refine lv_iload_n hx hb dX10_isDay_0 rfl (lv_at hl 1 rfl) ?_
  refine lv_if_lt (tgt := 25) hx hb dX10_isDay_1 (by decide) (fun c_1 => ?_) (fun c_1 => ?_)
  · have hf := rf_it c_1 hf
    exact w_X10_isDay_25 hC hD () hf _ _ _ hP hS (lv_sub hl [] rfl)
  have hf := rf_ie c_1 hf
  refine lv_iload_n hx hb dX10_isDay_4 rfl (lv_at hl 1 rfl) ?_
  refine lv_ldcw hx hb hC.2.2.2.1 (hC.2.2.2.2.1 _ tw_1123) dX10_isDay_5 ?_
  refine lv_icmp_ge (tgt := 25) hx hb dX10_isDay_8 (by decide) (fun c_8 => ?_) (fun c_8 => ?_)
  · have hf := rf_it c_8 hf
    exact w_X10_isDay_25 hC hD () hf _ _ _ hP hS (lv_sub hl [] rfl)
  have hf := rf_ie c_8 hf
  refine lv_iload_n hx hb dX10_isDay_11 rfl (lv_at hl 2 rfl) ?_
  refine lv_if_lt (tgt := 25) hx hb dX10_isDay_12 (by decide) (fun c_12 => ?_) (fun c_12 => ?_)
  · have hf := rf_it c_12 hf
    exact w_X10_isDay_25 hC hD () hf _ _ _ hP hS (lv_sub hl [] rfl)
  have hf := rf_ie c_12 hf
  refine lv_iload_n hx hb dX10_isDay_15 rfl (lv_at hl 2 rfl) ?_
  refine lv_bipush (v := 24) hx hb dX10_isDay_16 (by decide) ?_
  refine lv_icmp_gt (tgt := 25) hx hb dX10_isDay_18 (by decide) (fun c_18 => ?_) (fun c_18 => ?_)
  · have hf := rf_it c_18 hf
    exact w_X10_isDay_25 hC hD () hf _ _ _ hP hS (lv_sub hl [] rfl)
  have hf := rf_ie c_18 hf
  refine lv_iconst (v := 1) hx hb dX10_isDay_21 (by decide) ?_
  refine lv_goto (tgt := 26) hx hb dX10_isDay_22 (by decide) ?_
  obtain rfl := Option.some.inj hf
  exact rf_retz hC hP hS (by decide) rfl rfl dX10_isDay_26
