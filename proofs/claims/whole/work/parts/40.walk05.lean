set_option maxHeartbeats 4000000 in
set_option maxRecDepth 100000 in
theorem c_X9_forget_td (l : Launch) (E : rf_E) (a P : Nat → Nat) (I : Nat → Int32) (J : Nat → Int64) (A : Nat → Nat → Int32) (B : Nat → Nat → Int64) (t_ear : Int32) (t_pairs : Int32) (t_wordCount : Int32) (t_personCount : Int32) (t_firstFar : Int32) (t_alikeCount : Int32) (t_gotCount : Int32) (t_alikes : Nat → Int32) (t_hourEars : Nat → Int32) {z : Int32 × Int32 × Int32 × Int32 × Int32 × Int32 × Int32 × (Nat → Int32) × (Nat → Int32)} (e_t_ear : I 28 = t_ear) (e_t_pairs : I 29 = t_pairs) (e_t_wordCount : I 30 = t_wordCount) (e_t_personCount : I 31 = t_personCount) (e_t_firstFar : I 32 = t_firstFar) (e_t_alikeCount : I 33 = t_alikeCount) (e_t_gotCount : I 34 = t_gotCount) (e_t_alikes : A 27 = t_alikes) (e_t_hourEars : A 28 = t_hourEars) (hf : f_X9_forget t_ear t_pairs t_wordCount t_personCount t_firstFar t_alikeCount t_gotCount t_alikes t_hourEars = some z) : rf_MV l yX9_forget cX9_forget 1 ({ frames := 6, cells := 0, slots := 0, locals := 200 }) E [.ref (a 11)] (cX E a P I J A B) (cX E a P (rf_upL I [(28, z.1), (29, z.2.1), (30, z.2.2.1), (31, z.2.2.2.1), (32, z.2.2.2.2.1), (33, z.2.2.2.2.2.1), (34, z.2.2.2.2.2.2.1)]) J (rf_upL A [(27, z.2.2.2.2.2.2.2.1), (28, z.2.2.2.2.2.2.2.2)]) B) := by
  unfold f_X9_forget at hf
  refine rf_ofV (by decide) (Nat.le_of_ble_eq_true rfl) ?_
  intro p e s m below meth c A0 ls hC hD hP hS hl
  have hC : rf_C p E s m _ meth c cX9_forget 1 RX9 (none) A0 := hC
  have hx := hC.1
  have hb := hC.2.1
  have hl : lv_has ls 1 [(0, .ref (a 11))] := hl
  have hP : va_P (rf_D E) vwCl (cX E a P (rf_upL I [(28, t_ear), (29, t_pairs), (30, t_wordCount), (31, t_personCount), (32, t_firstFar), (33, t_alikeCount), (34, t_gotCount)]) J (rf_upL A [(27, t_alikes), (28, t_hourEars)]) B) s.heap := by
    rw [rf_self (f := I) [(28, t_ear), (29, t_pairs), (30, t_wordCount), (31, t_personCount), (32, t_firstFar), (33, t_alikeCount), (34, t_gotCount)] (rf_fa1 e_t_ear (rf_fa1 e_t_pairs (rf_fa1 e_t_wordCount (rf_fa1 e_t_personCount (rf_fa1 e_t_firstFar (rf_fa1 e_t_alikeCount (rf_fa1 e_t_gotCount rf_fa0)))))))]
    rw [rf_self (f := A) [(27, t_alikes), (28, t_hourEars)] (rf_fa1 e_t_alikes (rf_fa1 e_t_hourEars rf_fa0))]
    exact hP
  refine lv_aload_n hx hb dX9_forget_0 rfl (lv_at hl 0 rfl) ?_
  refine gX_td_alikes hC hP tw_103 dX9_forget_1 ?_
  refine lv_iconst (v := 0) hx hb dX9_forget_4 (by decide) ?_
  refine fX_td_alikes hC hD hP hS (f := t_alikes) rfl tw_467  hl.1 (Nat.le_of_ble_eq_true rfl) ⟨Nat.le_of_ble_eq_true rfl, Nat.le_of_ble_eq_true rfl⟩ dX9_forget_5 (rf_upL A [(27, rf_fill 32 0 t_alikes), (28, t_hourEars)]) (rf_put rfl) (fun H locs hP hS => ?_)
  refine lv_aload_n hx hb dX9_forget_8 rfl (lv_at hl 0 rfl) ?_
  refine gX_td_hourEars hC hP tw_104 dX9_forget_9 ?_
  refine lv_iconst (v := 0) hx hb dX9_forget_12 (by decide) ?_
  refine fX_td_hourEars hC hD hP hS (f := t_hourEars) rfl tw_467  hl.1 (Nat.le_of_ble_eq_true rfl) ⟨Nat.le_of_ble_eq_true rfl, Nat.le_of_ble_eq_true rfl⟩ dX9_forget_13 (rf_upL A [(27, rf_fill 32 0 t_alikes), (28, rf_fill 24 0 t_hourEars)]) (rf_put rfl) (fun H locs hP hS => ?_)
  refine lv_aload_n hx hb dX9_forget_16 rfl (lv_at hl 0 rfl) ?_
  refine lv_iconst (v := 0) hx hb dX9_forget_17 (by decide) ?_
  refine pX_td_ear hC hD hP hS tw_113 dX9_forget_18 (rf_upL I [(28, 0), (29, t_pairs), (30, t_wordCount), (31, t_personCount), (32, t_firstFar), (33, t_alikeCount), (34, t_gotCount)]) (rf_put rfl) (fun H locs hP hS => ?_)
  refine lv_aload_n hx hb dX9_forget_21 rfl (lv_at hl 0 rfl) ?_
  refine lv_iconst (v := 0) hx hb dX9_forget_22 (by decide) ?_
  refine pX_td_pairs hC hD hP hS tw_116 dX9_forget_23 (rf_upL I [(28, 0), (29, 0), (30, t_wordCount), (31, t_personCount), (32, t_firstFar), (33, t_alikeCount), (34, t_gotCount)]) (rf_put rfl) (fun H locs hP hS => ?_)
  refine lv_aload_n hx hb dX9_forget_26 rfl (lv_at hl 0 rfl) ?_
  refine lv_iconst (v := 0) hx hb dX9_forget_27 (by decide) ?_
  refine pX_td_wordCount hC hD hP hS tw_121 dX9_forget_28 (rf_upL I [(28, 0), (29, 0), (30, 0), (31, t_personCount), (32, t_firstFar), (33, t_alikeCount), (34, t_gotCount)]) (rf_put rfl) (fun H locs hP hS => ?_)
  refine lv_aload_n hx hb dX9_forget_31 rfl (lv_at hl 0 rfl) ?_
  refine lv_iconst (v := 0) hx hb dX9_forget_32 (by decide) ?_
  refine pX_td_personCount hC hD hP hS tw_126 dX9_forget_33 (rf_upL I [(28, 0), (29, 0), (30, 0), (31, 0), (32, t_firstFar), (33, t_alikeCount), (34, t_gotCount)]) (rf_put rfl) (fun H locs hP hS => ?_)
  refine lv_aload_n hx hb dX9_forget_36 rfl (lv_at hl 0 rfl) ?_
  refine lv_iconst (v := 0) hx hb dX9_forget_37 (by decide) ?_
  refine pX_td_firstFar hC hD hP hS tw_134 dX9_forget_38 (rf_upL I [(28, 0), (29, 0), (30, 0), (31, 0), (32, 0), (33, t_alikeCount), (34, t_gotCount)]) (rf_put rfl) (fun H locs hP hS => ?_)
  refine lv_aload_n hx hb dX9_forget_41 rfl (lv_at hl 0 rfl) ?_
  refine lv_iconst (v := 0) hx hb dX9_forget_42 (by decide) ?_
  refine pX_td_alikeCount hC hD hP hS tw_136 dX9_forget_43 (rf_upL I [(28, 0), (29, 0), (30, 0), (31, 0), (32, 0), (33, 0), (34, t_gotCount)]) (rf_put rfl) (fun H locs hP hS => ?_)
  refine lv_aload_n hx hb dX9_forget_46 rfl (lv_at hl 0 rfl) ?_
  refine lv_iconst (v := 0) hx hb dX9_forget_47 (by decide) ?_
  refine pX_td_gotCount hC hD hP hS tw_139 dX9_forget_48 (rf_upL I [(28, 0), (29, 0), (30, 0), (31, 0), (32, 0), (33, 0), (34, 0)]) (rf_put rfl) (fun H locs hP hS => ?_)
  obtain rfl := Option.some.inj hf
  exact rf_retv hC hP hS rfl dX9_forget_51
set_option maxHeartbeats 4000000 in
set_option maxRecDepth 100000 in
theorem w_X5_read_117 {l : Launch} {p : Program} {e : Env} {s : State} {m : MethodId} {args : Array Value} {below : List Frame} {meth : Method} {c : Code} {A0 : Nat → Prop} {E : rf_E} {a P : Nat → Nat} {I : Nat → Int32} {J : Nat → Int64} {A : Nat → Nat → Int32} {B : Nat → Nat → Int64} {x_tape : Nat → Int32} {z : Int32 × Int32 × Int32 × Int32 × Int32 × Int32 × Int32 × Nat × Int32 × Int32 × Int32 × Int32 × Int32 × Int32 × Int32 × Int64 × Int32 × Int64 × Int64 × Int32 × Int32 × Int32 × Int32 × (Nat → Int64) × (Nat → Int64) × (Nat → Int32) × (Nat → Int64) × (Nat → Int32) × (Nat → Int32) × (Nat → Int32) × (Nat → Int32) × (Nat → Int32) × (Nat → Int32) × (Nat → Int32) × (Nat → Int32)} (hC : rf_C p E s m args meth c cX5_read 5 RX5 (none) A0) (hD : va_D A0 (cX E a P I J A B)) (e_x_tape : A 0 = x_tape) :
    ∀ (v3 : Int32) (td_ear : Int32) (td_pairs : Int32) (td_wordCount : Int32) (td_personCount : Int32) (td_firstFar : Int32) (td_alikeCount : Int32) (td_gotCount : Int32) (reader_end : Int32) (reader_next : Int32) (reader_begun : Int32) (reader_knowings : Int32) (reader_sort : Int32) (reader_place : Int32) (reader_length : Int32) (reader_letters : Int64) (reader_whole : Int32) (reader_name : Int64) (reader_sounds : Int64) (reader_number : Int32) (reader_found : Int32) (reader_fault : Int32) (reader_faultPlace : Int32) (td_wordNames : Nat → Int64) (td_sounds : Nat → Int64) (td_prices : Nat → Int32) (td_personNames : Nat → Int64) (td_kinds : Nat → Int32) (td_firstWords : Nat → Int32) (td_errands : Nat → Int32) (td_alikes : Nat → Int32) (td_hourEars : Nat → Int32) (td_gotFirst : Nat → Int32) (td_gotSecond : Nat → Int32) (td_gotDegree : Nat → Int32), f_X5_read_117 x_tape v3 td_ear td_pairs td_wordCount td_personCount td_firstFar td_alikeCount td_gotCount reader_end reader_next reader_begun reader_knowings reader_sort reader_place reader_length reader_letters reader_whole reader_name reader_sounds reader_number reader_found reader_fault reader_faultPlace td_wordNames td_sounds td_prices td_personNames td_kinds td_firstWords td_errands td_alikes td_hourEars td_gotFirst td_gotSecond td_gotDegree = some z → ∀ (H : Heap) (locs : List Loc) (ls : Array Slot), va_P (rf_D E) vwCl (cX E a (rf_upL P [(3, a 11)]) (rf_upL I [(28, td_ear), (29, td_pairs), (30, td_wordCount), (31, td_personCount), (32, td_firstFar), (33, td_alikeCount), (34, td_gotCount), (35, reader_end), (36, reader_next), (37, reader_begun), (38, reader_knowings), (39, reader_sort), (40, reader_place), (41, reader_length), (42, reader_whole), (43, reader_number), (44, reader_found), (45, reader_fault), (46, reader_faultPlace)]) (rf_upL J [(0, reader_letters), (1, reader_name), (2, reader_sounds)]) (rf_upL A [(23, td_prices), (24, td_kinds), (25, td_firstWords), (26, td_errands), (27, td_alikes), (28, td_hourEars), (29, td_gotFirst), (30, td_gotSecond), (31, td_gotDegree)]) (rf_upL B [(3, td_wordNames), (4, td_sounds), (5, td_personNames)])) H → va_S A0 s.heap H locs → lv_has ls 5 [(0, .ref (a 12)), (3, .int v3)] → W p l e ({ frames := 11, cells := 0, slots := 0, locals := 307 }) s m args below meth c H locs 0 0 (rf_QV below args s E A0 (cX E a (rf_upL P [(3, a z.2.2.2.2.2.2.2.1)]) (rf_upL I [(28, z.1), (29, z.2.1), (30, z.2.2.1), (31, z.2.2.2.1), (32, z.2.2.2.2.1), (33, z.2.2.2.2.2.1), (34, z.2.2.2.2.2.2.1), (35, z.2.2.2.2.2.2.2.2.1), (36, z.2.2.2.2.2.2.2.2.2.1), (37, z.2.2.2.2.2.2.2.2.2.2.1), (38, z.2.2.2.2.2.2.2.2.2.2.2.1), (39, z.2.2.2.2.2.2.2.2.2.2.2.2.1), (40, z.2.2.2.2.2.2.2.2.2.2.2.2.2.1), (41, z.2.2.2.2.2.2.2.2.2.2.2.2.2.2.1), (42, z.2.2.2.2.2.2.2.2.2.2.2.2.2.2.2.2.1), (43, z.2.2.2.2.2.2.2.2.2.2.2.2.2.2.2.2.2.2.2.1), (44, z.2.2.2.2.2.2.2.2.2.2.2.2.2.2.2.2.2.2.2.2.1), (45, z.2.2.2.2.2.2.2.2.2.2.2.2.2.2.2.2.2.2.2.2.2.1), (46, z.2.2.2.2.2.2.2.2.2.2.2.2.2.2.2.2.2.2.2.2.2.2.1)]) (rf_upL J [(0, z.2.2.2.2.2.2.2.2.2.2.2.2.2.2.2.1), (1, z.2.2.2.2.2.2.2.2.2.2.2.2.2.2.2.2.2.1), (2, z.2.2.2.2.2.2.2.2.2.2.2.2.2.2.2.2.2.2.1)]) (rf_upL A [(23, z.2.2.2.2.2.2.2.2.2.2.2.2.2.2.2.2.2.2.2.2.2.2.2.2.2.1), (24, z.2.2.2.2.2.2.2.2.2.2.2.2.2.2.2.2.2.2.2.2.2.2.2.2.2.2.2.1), (25, z.2.2.2.2.2.2.2.2.2.2.2.2.2.2.2.2.2.2.2.2.2.2.2.2.2.2.2.2.1), (26, z.2.2.2.2.2.2.2.2.2.2.2.2.2.2.2.2.2.2.2.2.2.2.2.2.2.2.2.2.2.1), (27, z.2.2.2.2.2.2.2.2.2.2.2.2.2.2.2.2.2.2.2.2.2.2.2.2.2.2.2.2.2.2.1), (28, z.2.2.2.2.2.2.2.2.2.2.2.2.2.2.2.2.2.2.2.2.2.2.2.2.2.2.2.2.2.2.2.1), (29, z.2.2.2.2.2.2.2.2.2.2.2.2.2.2.2.2.2.2.2.2.2.2.2.2.2.2.2.2.2.2.2.2.1), (30, z.2.2.2.2.2.2.2.2.2.2.2.2.2.2.2.2.2.2.2.2.2.2.2.2.2.2.2.2.2.2.2.2.2.1), (31, z.2.2.2.2.2.2.2.2.2.2.2.2.2.2.2.2.2.2.2.2.2.2.2.2.2.2.2.2.2.2.2.2.2.2)]) (rf_upL B [(3, z.2.2.2.2.2.2.2.2.2.2.2.2.2.2.2.2.2.2.2.2.2.2.2.1), (4, z.2.2.2.2.2.2.2.2.2.2.2.2.2.2.2.2.2.2.2.2.2.2.2.2.1), (5, z.2.2.2.2.2.2.2.2.2.2.2.2.2.2.2.2.2.2.2.2.2.2.2.2.2.2.1)]))) (F0 m 117 ls []) := by
  have hx := hC.1
  have hb := hC.2.1
  intro v3 td_ear td_pairs td_wordCount td_personCount td_firstFar td_alikeCount td_gotCount reader_end reader_next reader_begun reader_knowings reader_sort reader_place reader_length reader_letters reader_whole reader_name reader_sounds reader_number reader_found reader_fault reader_faultPlace td_wordNames td_sounds td_prices td_personNames td_kinds td_firstWords td_errands td_alikes td_hourEars td_gotFirst td_gotSecond td_gotDegree hf H locs ls hP hS hl
  unfold f_X5_read_117 at hf
  refine lv_iload_n hx hb dX5_read_117 rfl (lv_at hl 1 rfl) ?_
  refine lv_if_eq (tgt := 138) hx hb dX5_read_118 (by decide) (fun c_118 => ?_) (fun c_118 => ?_)
  · have hf := rf_it c_118 hf
    obtain rfl := Option.some.inj hf
    exact rf_retv hC hP hS rfl dX5_read_138
  have hf := rf_ie c_118 hf
  refine lv_aload_n hx hb dX5_read_121 rfl (lv_at hl 0 rfl) ?_
  refine gX_reader_tale hC hP tw_338 (v := a 11) rfl dX5_read_122 ?_
  refine gX_td_personCount hC hP tw_130 (v := td_personCount) rfl dX5_read_125 ?_
  refine lv_if_ne (tgt := 138) hx hb dX5_read_128 (by decide) (fun c_128 => ?_) (fun c_128 => ?_)
  · have hf := rf_ie c_128 hf
    obtain rfl := Option.some.inj hf
    exact rf_retv hC hP hS rfl dX5_read_138
  have hf := rf_it c_128 hf
  refine lv_aload_n hx hb dX5_read_131 rfl (lv_at hl 0 rfl) ?_
  refine lv_bipush (v := 6) hx hb dX5_read_132 (by decide) ?_
  obtain ⟨z134, hz134, hf⟩ := rf_bd hf
  refine rf_vi (q0 := 12) (ci := 5) hC (c_X5_fail l E a (rf_upL P [(3, a 11)]) (rf_upL I [(28, td_ear), (29, td_pairs), (30, td_wordCount), (31, td_personCount), (32, td_firstFar), (33, td_alikeCount), (34, td_gotCount), (35, reader_end), (36, reader_next), (37, reader_begun), (38, reader_knowings), (39, reader_sort), (40, reader_place), (41, reader_length), (42, reader_whole), (43, reader_number), (44, reader_found), (45, reader_fault), (46, reader_faultPlace)]) (rf_upL J [(0, reader_letters), (1, reader_name), (2, reader_sounds)]) (rf_upL A [(23, td_prices), (24, td_kinds), (25, td_firstWords), (26, td_errands), (27, td_alikes), (28, td_hourEars), (29, td_gotFirst), (30, td_gotSecond), (31, td_gotDegree)]) (rf_upL B [(3, td_wordNames), (4, td_sounds), (5, td_personNames)]) reader_place reader_fault reader_faultPlace 6 rfl rfl rfl hz134) kV_X5_fail tw_553 ⟨Nat.le_of_ble_eq_true rfl, Nat.le_of_ble_eq_true rfl⟩ rfl rfl rfl rfl rfl hP (rf_DX hD) hS rfl hl.1 (rest := []) rfl (Nat.le_of_ble_eq_true rfl) dX5_read_134 (fun H locs hP hS => ?_)
  rw [rf_cat (f := I) (l := [(28, td_ear), (29, td_pairs), (30, td_wordCount), (31, td_personCount), (32, td_firstFar), (33, td_alikeCount), (34, td_gotCount), (35, reader_end), (36, reader_next), (37, reader_begun), (38, reader_knowings), (39, reader_sort), (40, reader_place), (41, reader_length), (42, reader_whole), (43, reader_number), (44, reader_found), (45, reader_fault), (46, reader_faultPlace)]) (lc := [(45, z134.2.1), (46, z134.2.2)]) (l' := [(28, td_ear), (29, td_pairs), (30, td_wordCount), (31, td_personCount), (32, td_firstFar), (33, td_alikeCount), (34, td_gotCount), (35, reader_end), (36, reader_next), (37, reader_begun), (38, reader_knowings), (39, reader_sort), (40, reader_place), (41, reader_length), (42, reader_whole), (43, reader_number), (44, reader_found), (45, z134.2.1), (46, z134.2.2)]) rfl] at hP
  refine lv_pop hx hb dX5_read_137 rfl ?_
  obtain rfl := Option.some.inj hf
  exact rf_retv hC hP hS rfl dX5_read_138
set_option maxHeartbeats 4000000 in
set_option maxRecDepth 100000 in
theorem w_X5_read_97 {l : Launch} {p : Program} {e : Env} {s : State} {m : MethodId} {args : Array Value} {below : List Frame} {meth : Method} {c : Code} {A0 : Nat → Prop} {E : rf_E} {a P : Nat → Nat} {I : Nat → Int32} {J : Nat → Int64} {A : Nat → Nat → Int32} {B : Nat → Nat → Int64} {x_tape : Nat → Int32} {z : Int32 × Int32 × Int32 × Int32 × Int32 × Int32 × Int32 × Nat × Int32 × Int32 × Int32 × Int32 × Int32 × Int32 × Int32 × Int64 × Int32 × Int64 × Int64 × Int32 × Int32 × Int32 × Int32 × (Nat → Int64) × (Nat → Int64) × (Nat → Int32) × (Nat → Int64) × (Nat → Int32) × (Nat → Int32) × (Nat → Int32) × (Nat → Int32) × (Nat → Int32) × (Nat → Int32) × (Nat → Int32) × (Nat → Int32)} (hC : rf_C p E s m args meth c cX5_read 5 RX5 (none) A0) (hD : va_D A0 (cX E a P I J A B)) (e_x_tape : A 0 = x_tape) :
    ∀ (v3 : Int32) (td_ear : Int32) (td_pairs : Int32) (td_wordCount : Int32) (td_personCount : Int32) (td_firstFar : Int32) (td_alikeCount : Int32) (td_gotCount : Int32) (reader_end : Int32) (reader_next : Int32) (reader_begun : Int32) (reader_knowings : Int32) (reader_sort : Int32) (reader_place : Int32) (reader_length : Int32) (reader_letters : Int64) (reader_whole : Int32) (reader_name : Int64) (reader_sounds : Int64) (reader_number : Int32) (reader_found : Int32) (reader_fault : Int32) (reader_faultPlace : Int32) (td_wordNames : Nat → Int64) (td_sounds : Nat → Int64) (td_prices : Nat → Int32) (td_personNames : Nat → Int64) (td_kinds : Nat → Int32) (td_firstWords : Nat → Int32) (td_errands : Nat → Int32) (td_alikes : Nat → Int32) (td_hourEars : Nat → Int32) (td_gotFirst : Nat → Int32) (td_gotSecond : Nat → Int32) (td_gotDegree : Nat → Int32), f_X5_read_97 x_tape v3 td_ear td_pairs td_wordCount td_personCount td_firstFar td_alikeCount td_gotCount reader_end reader_next reader_begun reader_knowings reader_sort reader_place reader_length reader_letters reader_whole reader_name reader_sounds reader_number reader_found reader_fault reader_faultPlace td_wordNames td_sounds td_prices td_personNames td_kinds td_firstWords td_errands td_alikes td_hourEars td_gotFirst td_gotSecond td_gotDegree = some z → ∀ (H : Heap) (locs : List Loc) (ls : Array Slot), va_P (rf_D E) vwCl (cX E a (rf_upL P [(3, a 11)]) (rf_upL I [(28, td_ear), (29, td_pairs), (30, td_wordCount), (31, td_personCount), (32, td_firstFar), (33, td_alikeCount), (34, td_gotCount), (35, reader_end), (36, reader_next), (37, reader_begun), (38, reader_knowings), (39, reader_sort), (40, reader_place), (41, reader_length), (42, reader_whole), (43, reader_number), (44, reader_found), (45, reader_fault), (46, reader_faultPlace)]) (rf_upL J [(0, reader_letters), (1, reader_name), (2, reader_sounds)]) (rf_upL A [(23, td_prices), (24, td_kinds), (25, td_firstWords), (26, td_errands), (27, td_alikes), (28, td_hourEars), (29, td_gotFirst), (30, td_gotSecond), (31, td_gotDegree)]) (rf_upL B [(3, td_wordNames), (4, td_sounds), (5, td_personNames)])) H → va_S A0 s.heap H locs → lv_has ls 5 [(0, .ref (a 12)), (3, .int v3)] → W p l e ({ frames := 11, cells := 0, slots := 0, locals := 307 }) s m args below meth c H locs 0 0 (rf_QV below args s E A0 (cX E a (rf_upL P [(3, a z.2.2.2.2.2.2.2.1)]) (rf_upL I [(28, z.1), (29, z.2.1), (30, z.2.2.1), (31, z.2.2.2.1), (32, z.2.2.2.2.1), (33, z.2.2.2.2.2.1), (34, z.2.2.2.2.2.2.1), (35, z.2.2.2.2.2.2.2.2.1), (36, z.2.2.2.2.2.2.2.2.2.1), (37, z.2.2.2.2.2.2.2.2.2.2.1), (38, z.2.2.2.2.2.2.2.2.2.2.2.1), (39, z.2.2.2.2.2.2.2.2.2.2.2.2.1), (40, z.2.2.2.2.2.2.2.2.2.2.2.2.2.1), (41, z.2.2.2.2.2.2.2.2.2.2.2.2.2.2.1), (42, z.2.2.2.2.2.2.2.2.2.2.2.2.2.2.2.2.1), (43, z.2.2.2.2.2.2.2.2.2.2.2.2.2.2.2.2.2.2.2.1), (44, z.2.2.2.2.2.2.2.2.2.2.2.2.2.2.2.2.2.2.2.2.1), (45, z.2.2.2.2.2.2.2.2.2.2.2.2.2.2.2.2.2.2.2.2.2.1), (46, z.2.2.2.2.2.2.2.2.2.2.2.2.2.2.2.2.2.2.2.2.2.2.1)]) (rf_upL J [(0, z.2.2.2.2.2.2.2.2.2.2.2.2.2.2.2.1), (1, z.2.2.2.2.2.2.2.2.2.2.2.2.2.2.2.2.2.1), (2, z.2.2.2.2.2.2.2.2.2.2.2.2.2.2.2.2.2.2.1)]) (rf_upL A [(23, z.2.2.2.2.2.2.2.2.2.2.2.2.2.2.2.2.2.2.2.2.2.2.2.2.2.1), (24, z.2.2.2.2.2.2.2.2.2.2.2.2.2.2.2.2.2.2.2.2.2.2.2.2.2.2.2.1), (25, z.2.2.2.2.2.2.2.2.2.2.2.2.2.2.2.2.2.2.2.2.2.2.2.2.2.2.2.2.1), (26, z.2.2.2.2.2.2.2.2.2.2.2.2.2.2.2.2.2.2.2.2.2.2.2.2.2.2.2.2.2.1), (27, z.2.2.2.2.2.2.2.2.2.2.2.2.2.2.2.2.2.2.2.2.2.2.2.2.2.2.2.2.2.2.1), (28, z.2.2.2.2.2.2.2.2.2.2.2.2.2.2.2.2.2.2.2.2.2.2.2.2.2.2.2.2.2.2.2.1), (29, z.2.2.2.2.2.2.2.2.2.2.2.2.2.2.2.2.2.2.2.2.2.2.2.2.2.2.2.2.2.2.2.2.1), (30, z.2.2.2.2.2.2.2.2.2.2.2.2.2.2.2.2.2.2.2.2.2.2.2.2.2.2.2.2.2.2.2.2.2.1), (31, z.2.2.2.2.2.2.2.2.2.2.2.2.2.2.2.2.2.2.2.2.2.2.2.2.2.2.2.2.2.2.2.2.2.2)]) (rf_upL B [(3, z.2.2.2.2.2.2.2.2.2.2.2.2.2.2.2.2.2.2.2.2.2.2.2.1), (4, z.2.2.2.2.2.2.2.2.2.2.2.2.2.2.2.2.2.2.2.2.2.2.2.2.1), (5, z.2.2.2.2.2.2.2.2.2.2.2.2.2.2.2.2.2.2.2.2.2.2.2.2.2.2.1)]))) (F0 m 97 ls []) := by
  have hx := hC.1
  have hb := hC.2.1
  intro v3 td_ear td_pairs td_wordCount td_personCount td_firstFar td_alikeCount td_gotCount reader_end reader_next reader_begun reader_knowings reader_sort reader_place reader_length reader_letters reader_whole reader_name reader_sounds reader_number reader_found reader_fault reader_faultPlace td_wordNames td_sounds td_prices td_personNames td_kinds td_firstWords td_errands td_alikes td_hourEars td_gotFirst td_gotSecond td_gotDegree hf H locs ls hP hS hl
  unfold f_X5_read_97 at hf
  refine lv_iload_n hx hb dX5_read_97 rfl (lv_at hl 1 rfl) ?_
  refine lv_if_eq (tgt := 117) hx hb dX5_read_98 (by decide) (fun c_98 => ?_) (fun c_98 => ?_)
  · have hf := rf_it c_98 hf
    exact w_X5_read_117 hC hD e_x_tape v3 td_ear td_pairs td_wordCount td_personCount td_firstFar td_alikeCount td_gotCount reader_end reader_next reader_begun reader_knowings reader_sort reader_place reader_length reader_letters reader_whole reader_name reader_sounds reader_number reader_found reader_fault reader_faultPlace td_wordNames td_sounds td_prices td_personNames td_kinds td_firstWords td_errands td_alikes td_hourEars td_gotFirst td_gotSecond td_gotDegree hf _ _ _ hP hS (lv_sub hl [0, 1] rfl)
  have hf := rf_ie c_98 hf
  refine lv_aload_n hx hb dX5_read_101 rfl (lv_at hl 0 rfl) ?_
  refine gX_reader_sort hC hP tw_343 (v := reader_sort) rfl dX5_read_102 ?_
  refine lv_if_eq (tgt := 117) hx hb dX5_read_105 (by decide) (fun c_105 => ?_) (fun c_105 => ?_)
  · have hf := rf_it c_105 hf
    exact w_X5_read_117 hC hD e_x_tape v3 td_ear td_pairs td_wordCount td_personCount td_firstFar td_alikeCount td_gotCount reader_end reader_next reader_begun reader_knowings reader_sort reader_place reader_length reader_letters reader_whole reader_name reader_sounds reader_number reader_found reader_fault reader_faultPlace td_wordNames td_sounds td_prices td_personNames td_kinds td_firstWords td_errands td_alikes td_hourEars td_gotFirst td_gotSecond td_gotDegree hf _ _ _ hP hS (lv_sub hl [0, 1] rfl)
  have hf := rf_ie c_105 hf
  refine lv_aload_n hx hb dX5_read_108 rfl (lv_at hl 0 rfl) ?_
  refine lv_iconst (v := 1) hx hb dX5_read_109 (by decide) ?_
  obtain ⟨z110, hz110, hf⟩ := rf_bd hf
  refine rf_vi (q0 := 12) (ci := 5) hC (c_X5_fail l E a (rf_upL P [(3, a 11)]) (rf_upL I [(28, td_ear), (29, td_pairs), (30, td_wordCount), (31, td_personCount), (32, td_firstFar), (33, td_alikeCount), (34, td_gotCount), (35, reader_end), (36, reader_next), (37, reader_begun), (38, reader_knowings), (39, reader_sort), (40, reader_place), (41, reader_length), (42, reader_whole), (43, reader_number), (44, reader_found), (45, reader_fault), (46, reader_faultPlace)]) (rf_upL J [(0, reader_letters), (1, reader_name), (2, reader_sounds)]) (rf_upL A [(23, td_prices), (24, td_kinds), (25, td_firstWords), (26, td_errands), (27, td_alikes), (28, td_hourEars), (29, td_gotFirst), (30, td_gotSecond), (31, td_gotDegree)]) (rf_upL B [(3, td_wordNames), (4, td_sounds), (5, td_personNames)]) reader_place reader_fault reader_faultPlace 1 rfl rfl rfl hz110) kV_X5_fail tw_553 ⟨Nat.le_of_ble_eq_true rfl, Nat.le_of_ble_eq_true rfl⟩ rfl rfl rfl rfl rfl hP (rf_DX hD) hS rfl hl.1 (rest := []) rfl (Nat.le_of_ble_eq_true rfl) dX5_read_110 (fun H locs hP hS => ?_)
  rw [rf_cat (f := I) (l := [(28, td_ear), (29, td_pairs), (30, td_wordCount), (31, td_personCount), (32, td_firstFar), (33, td_alikeCount), (34, td_gotCount), (35, reader_end), (36, reader_next), (37, reader_begun), (38, reader_knowings), (39, reader_sort), (40, reader_place), (41, reader_length), (42, reader_whole), (43, reader_number), (44, reader_found), (45, reader_fault), (46, reader_faultPlace)]) (lc := [(45, z110.2.1), (46, z110.2.2)]) (l' := [(28, td_ear), (29, td_pairs), (30, td_wordCount), (31, td_personCount), (32, td_firstFar), (33, td_alikeCount), (34, td_gotCount), (35, reader_end), (36, reader_next), (37, reader_begun), (38, reader_knowings), (39, reader_sort), (40, reader_place), (41, reader_length), (42, reader_whole), (43, reader_number), (44, reader_found), (45, z110.2.1), (46, z110.2.2)]) rfl] at hP
  refine lv_pop hx hb dX5_read_113 rfl ?_
  refine lv_goto (tgt := 138) hx hb dX5_read_114 (by decide) ?_
  obtain rfl := Option.some.inj hf
  exact rf_retv hC hP hS rfl dX5_read_138
set_option maxHeartbeats 4000000 in
set_option maxRecDepth 100000 in
theorem w_X5_read_62 {l : Launch} {p : Program} {e : Env} {s : State} {m : MethodId} {args : Array Value} {below : List Frame} {meth : Method} {c : Code} {A0 : Nat → Prop} {E : rf_E} {a P : Nat → Nat} {I : Nat → Int32} {J : Nat → Int64} {A : Nat → Nat → Int32} {B : Nat → Nat → Int64} {x_tape : Nat → Int32} {z : Int32 × Int32 × Int32 × Int32 × Int32 × Int32 × Int32 × Nat × Int32 × Int32 × Int32 × Int32 × Int32 × Int32 × Int32 × Int64 × Int32 × Int64 × Int64 × Int32 × Int32 × Int32 × Int32 × (Nat → Int64) × (Nat → Int64) × (Nat → Int32) × (Nat → Int64) × (Nat → Int32) × (Nat → Int32) × (Nat → Int32) × (Nat → Int32) × (Nat → Int32) × (Nat → Int32) × (Nat → Int32) × (Nat → Int32)} (hC : rf_C p E s m args meth c cX5_read 5 RX5 (none) A0) (hD : va_D A0 (cX E a P I J A B)) (e_x_tape : A 0 = x_tape) :
    ∀ (n : Nat), ∀ (v3 : Int32) (v4 : Int32) (td_ear : Int32) (td_pairs : Int32) (td_wordCount : Int32) (td_personCount : Int32) (td_firstFar : Int32) (td_alikeCount : Int32) (td_gotCount : Int32) (reader_end : Int32) (reader_next : Int32) (reader_begun : Int32) (reader_knowings : Int32) (reader_sort : Int32) (reader_place : Int32) (reader_length : Int32) (reader_letters : Int64) (reader_whole : Int32) (reader_name : Int64) (reader_sounds : Int64) (reader_number : Int32) (reader_found : Int32) (reader_fault : Int32) (reader_faultPlace : Int32) (td_wordNames : Nat → Int64) (td_sounds : Nat → Int64) (td_prices : Nat → Int32) (td_personNames : Nat → Int64) (td_kinds : Nat → Int32) (td_firstWords : Nat → Int32) (td_errands : Nat → Int32) (td_alikes : Nat → Int32) (td_hourEars : Nat → Int32) (td_gotFirst : Nat → Int32) (td_gotSecond : Nat → Int32) (td_gotDegree : Nat → Int32), f_X5_read_62 x_tape n v3 v4 td_ear td_pairs td_wordCount td_personCount td_firstFar td_alikeCount td_gotCount reader_end reader_next reader_begun reader_knowings reader_sort reader_place reader_length reader_letters reader_whole reader_name reader_sounds reader_number reader_found reader_fault reader_faultPlace td_wordNames td_sounds td_prices td_personNames td_kinds td_firstWords td_errands td_alikes td_hourEars td_gotFirst td_gotSecond td_gotDegree = some z → ∀ (H : Heap) (locs : List Loc) (ls : Array Slot), va_P (rf_D E) vwCl (cX E a (rf_upL P [(3, a 11)]) (rf_upL I [(28, td_ear), (29, td_pairs), (30, td_wordCount), (31, td_personCount), (32, td_firstFar), (33, td_alikeCount), (34, td_gotCount), (35, reader_end), (36, reader_next), (37, reader_begun), (38, reader_knowings), (39, reader_sort), (40, reader_place), (41, reader_length), (42, reader_whole), (43, reader_number), (44, reader_found), (45, reader_fault), (46, reader_faultPlace)]) (rf_upL J [(0, reader_letters), (1, reader_name), (2, reader_sounds)]) (rf_upL A [(23, td_prices), (24, td_kinds), (25, td_firstWords), (26, td_errands), (27, td_alikes), (28, td_hourEars), (29, td_gotFirst), (30, td_gotSecond), (31, td_gotDegree)]) (rf_upL B [(3, td_wordNames), (4, td_sounds), (5, td_personNames)])) H → va_S A0 s.heap H locs → lv_has ls 5 [(0, .ref (a 12)), (3, .int v3), (4, .int v4)] → W p l e ({ frames := 11, cells := 0, slots := 0, locals := 307 }) s m args below meth c H locs 0 0 (rf_QV below args s E A0 (cX E a (rf_upL P [(3, a z.2.2.2.2.2.2.2.1)]) (rf_upL I [(28, z.1), (29, z.2.1), (30, z.2.2.1), (31, z.2.2.2.1), (32, z.2.2.2.2.1), (33, z.2.2.2.2.2.1), (34, z.2.2.2.2.2.2.1), (35, z.2.2.2.2.2.2.2.2.1), (36, z.2.2.2.2.2.2.2.2.2.1), (37, z.2.2.2.2.2.2.2.2.2.2.1), (38, z.2.2.2.2.2.2.2.2.2.2.2.1), (39, z.2.2.2.2.2.2.2.2.2.2.2.2.1), (40, z.2.2.2.2.2.2.2.2.2.2.2.2.2.1), (41, z.2.2.2.2.2.2.2.2.2.2.2.2.2.2.1), (42, z.2.2.2.2.2.2.2.2.2.2.2.2.2.2.2.2.1), (43, z.2.2.2.2.2.2.2.2.2.2.2.2.2.2.2.2.2.2.2.1), (44, z.2.2.2.2.2.2.2.2.2.2.2.2.2.2.2.2.2.2.2.2.1), (45, z.2.2.2.2.2.2.2.2.2.2.2.2.2.2.2.2.2.2.2.2.2.1), (46, z.2.2.2.2.2.2.2.2.2.2.2.2.2.2.2.2.2.2.2.2.2.2.1)]) (rf_upL J [(0, z.2.2.2.2.2.2.2.2.2.2.2.2.2.2.2.1), (1, z.2.2.2.2.2.2.2.2.2.2.2.2.2.2.2.2.2.1), (2, z.2.2.2.2.2.2.2.2.2.2.2.2.2.2.2.2.2.2.1)]) (rf_upL A [(23, z.2.2.2.2.2.2.2.2.2.2.2.2.2.2.2.2.2.2.2.2.2.2.2.2.2.1), (24, z.2.2.2.2.2.2.2.2.2.2.2.2.2.2.2.2.2.2.2.2.2.2.2.2.2.2.2.1), (25, z.2.2.2.2.2.2.2.2.2.2.2.2.2.2.2.2.2.2.2.2.2.2.2.2.2.2.2.2.1), (26, z.2.2.2.2.2.2.2.2.2.2.2.2.2.2.2.2.2.2.2.2.2.2.2.2.2.2.2.2.2.1), (27, z.2.2.2.2.2.2.2.2.2.2.2.2.2.2.2.2.2.2.2.2.2.2.2.2.2.2.2.2.2.2.1), (28, z.2.2.2.2.2.2.2.2.2.2.2.2.2.2.2.2.2.2.2.2.2.2.2.2.2.2.2.2.2.2.2.1), (29, z.2.2.2.2.2.2.2.2.2.2.2.2.2.2.2.2.2.2.2.2.2.2.2.2.2.2.2.2.2.2.2.2.1), (30, z.2.2.2.2.2.2.2.2.2.2.2.2.2.2.2.2.2.2.2.2.2.2.2.2.2.2.2.2.2.2.2.2.2.1), (31, z.2.2.2.2.2.2.2.2.2.2.2.2.2.2.2.2.2.2.2.2.2.2.2.2.2.2.2.2.2.2.2.2.2.2)]) (rf_upL B [(3, z.2.2.2.2.2.2.2.2.2.2.2.2.2.2.2.2.2.2.2.2.2.2.2.1), (4, z.2.2.2.2.2.2.2.2.2.2.2.2.2.2.2.2.2.2.2.2.2.2.2.2.1), (5, z.2.2.2.2.2.2.2.2.2.2.2.2.2.2.2.2.2.2.2.2.2.2.2.2.2.2.1)]))) (F0 m 62 ls []) := by
  have hx := hC.1
  have hb := hC.2.1
  intro n
  induction n with
  | zero =>
    intro v3 v4 td_ear td_pairs td_wordCount td_personCount td_firstFar td_alikeCount td_gotCount reader_end reader_next reader_begun reader_knowings reader_sort reader_place reader_length reader_letters reader_whole reader_name reader_sounds reader_number reader_found reader_fault reader_faultPlace td_wordNames td_sounds td_prices td_personNames td_kinds td_firstWords td_errands td_alikes td_hourEars td_gotFirst td_gotSecond td_gotDegree hf
    have hf : (none : Option (Int32 × Int32 × Int32 × Int32 × Int32 × Int32 × Int32 × Nat × Int32 × Int32 × Int32 × Int32 × Int32 × Int32 × Int32 × Int64 × Int32 × Int64 × Int64 × Int32 × Int32 × Int32 × Int32 × (Nat → Int64) × (Nat → Int64) × (Nat → Int32) × (Nat → Int64) × (Nat → Int32) × (Nat → Int32) × (Nat → Int32) × (Nat → Int32) × (Nat → Int32) × (Nat → Int32) × (Nat → Int32) × (Nat → Int32))) = some z := hf
    cases hf
  | succ n ih =>
    intro v3 v4 td_ear td_pairs td_wordCount td_personCount td_firstFar td_alikeCount td_gotCount reader_end reader_next reader_begun reader_knowings reader_sort reader_place reader_length reader_letters reader_whole reader_name reader_sounds reader_number reader_found reader_fault reader_faultPlace td_wordNames td_sounds td_prices td_personNames td_kinds td_firstWords td_errands td_alikes td_hourEars td_gotFirst td_gotSecond td_gotDegree hf H locs ls hP hS hl
    rw [f_X5_read_62] at hf
    refine lv_iload hx hb dX5_read_62 (lv_at hl 2 rfl) ?_
    refine lv_sipush (v := 900) hx hb dX5_read_64 (by decide) ?_
    refine lv_icmp_ge (tgt := 97) hx hb dX5_read_67 (by decide) (fun c_67 => ?_) (fun c_67 => ?_)
    · have hf := rf_it c_67 hf
      exact w_X5_read_97 hC hD e_x_tape v3 td_ear td_pairs td_wordCount td_personCount td_firstFar td_alikeCount td_gotCount reader_end reader_next reader_begun reader_knowings reader_sort reader_place reader_length reader_letters reader_whole reader_name reader_sounds reader_number reader_found reader_fault reader_faultPlace td_wordNames td_sounds td_prices td_personNames td_kinds td_firstWords td_errands td_alikes td_hourEars td_gotFirst td_gotSecond td_gotDegree hf _ _ _ hP hS (lv_sub hl [0, 1] rfl)
    have hf := rf_ie c_67 hf
    refine lv_iload_n hx hb dX5_read_70 rfl (lv_at hl 1 rfl) ?_
    refine lv_if_eq (tgt := 97) hx hb dX5_read_71 (by decide) (fun c_71 => ?_) (fun c_71 => ?_)
    · have hf := rf_it c_71 hf
      exact w_X5_read_97 hC hD e_x_tape v3 td_ear td_pairs td_wordCount td_personCount td_firstFar td_alikeCount td_gotCount reader_end reader_next reader_begun reader_knowings reader_sort reader_place reader_length reader_letters reader_whole reader_name reader_sounds reader_number reader_found reader_fault reader_faultPlace td_wordNames td_sounds td_prices td_personNames td_kinds td_firstWords td_errands td_alikes td_hourEars td_gotFirst td_gotSecond td_gotDegree hf _ _ _ hP hS (lv_sub hl [0, 1] rfl)
    have hf := rf_ie c_71 hf
    refine lv_aload_n hx hb dX5_read_74 rfl (lv_at hl 0 rfl) ?_
    refine gX_reader_sort hC hP tw_343 (v := reader_sort) rfl dX5_read_75 ?_
    refine lv_iconst (v := 3) hx hb dX5_read_78 (by decide) ?_
    refine lv_icmp_ne (tgt := 97) hx hb dX5_read_79 (by decide) (fun c_79 => ?_) (fun c_79 => ?_)
    · have hf := rf_ie c_79 hf
      exact w_X5_read_97 hC hD e_x_tape v3 td_ear td_pairs td_wordCount td_personCount td_firstFar td_alikeCount td_gotCount reader_end reader_next reader_begun reader_knowings reader_sort reader_place reader_length reader_letters reader_whole reader_name reader_sounds reader_number reader_found reader_fault reader_faultPlace td_wordNames td_sounds td_prices td_personNames td_kinds td_firstWords td_errands td_alikes td_hourEars td_gotFirst td_gotSecond td_gotDegree hf _ _ _ hP hS (lv_sub hl [0, 1] rfl)
    have hf := rf_it c_79 hf
    refine lv_aload_n hx hb dX5_read_82 rfl (lv_at hl 0 rfl) ?_
    obtain ⟨z83, hz83, hf⟩ := rf_bd hf
    refine rf_vv (q0 := 12) (ci := 5) hC (c_X5_look l E a (rf_upL P [(3, a 11)]) (rf_upL I [(28, td_ear), (29, td_pairs), (30, td_wordCount), (31, td_personCount), (32, td_firstFar), (33, td_alikeCount), (34, td_gotCount), (35, reader_end), (36, reader_next), (37, reader_begun), (38, reader_knowings), (39, reader_sort), (40, reader_place), (41, reader_length), (42, reader_whole), (43, reader_number), (44, reader_found), (45, reader_fault), (46, reader_faultPlace)]) (rf_upL J [(0, reader_letters), (1, reader_name), (2, reader_sounds)]) (rf_upL A [(23, td_prices), (24, td_kinds), (25, td_firstWords), (26, td_errands), (27, td_alikes), (28, td_hourEars), (29, td_gotFirst), (30, td_gotSecond), (31, td_gotDegree)]) (rf_upL B [(3, td_wordNames), (4, td_sounds), (5, td_personNames)]) reader_end x_tape reader_next reader_sort reader_place reader_length reader_letters reader_whole rfl e_x_tape rfl rfl rfl rfl rfl rfl hz83) kV_X5_look tw_473 ⟨Nat.le_of_ble_eq_true rfl, Nat.le_of_ble_eq_true rfl⟩ rfl rfl rfl rfl rfl hP (rf_DX hD) hS rfl hl.1 (rest := []) rfl (Nat.le_of_ble_eq_true rfl) dX5_read_83 (fun H locs hP hS => ?_)
    rw [rf_cat (f := I) (l := [(28, td_ear), (29, td_pairs), (30, td_wordCount), (31, td_personCount), (32, td_firstFar), (33, td_alikeCount), (34, td_gotCount), (35, reader_end), (36, reader_next), (37, reader_begun), (38, reader_knowings), (39, reader_sort), (40, reader_place), (41, reader_length), (42, reader_whole), (43, reader_number), (44, reader_found), (45, reader_fault), (46, reader_faultPlace)]) (lc := [(36, z83.1), (39, z83.2.1), (40, z83.2.2.1), (41, z83.2.2.2.1), (42, z83.2.2.2.2.2)]) (l' := [(28, td_ear), (29, td_pairs), (30, td_wordCount), (31, td_personCount), (32, td_firstFar), (33, td_alikeCount), (34, td_gotCount), (35, reader_end), (36, z83.1), (37, reader_begun), (38, reader_knowings), (39, z83.2.1), (40, z83.2.2.1), (41, z83.2.2.2.1), (42, z83.2.2.2.2.2), (43, reader_number), (44, reader_found), (45, reader_fault), (46, reader_faultPlace)]) rfl] at hP
    rw [rf_cat (f := J) (l := [(0, reader_letters), (1, reader_name), (2, reader_sounds)]) (lc := [(0, z83.2.2.2.2.1)]) (l' := [(0, z83.2.2.2.2.1), (1, reader_name), (2, reader_sounds)]) rfl] at hP
    refine lv_aload_n hx hb dX5_read_86 rfl (lv_at hl 0 rfl) ?_
    obtain ⟨z87, hz87, hf⟩ := rf_bd hf
    refine rf_vi (q0 := 12) (ci := 5) hC (c_X5_readLine l E a (rf_upL P [(3, a 11)]) (rf_upL I [(28, td_ear), (29, td_pairs), (30, td_wordCount), (31, td_personCount), (32, td_firstFar), (33, td_alikeCount), (34, td_gotCount), (35, reader_end), (36, z83.1), (37, reader_begun), (38, reader_knowings), (39, z83.2.1), (40, z83.2.2.1), (41, z83.2.2.2.1), (42, z83.2.2.2.2.2), (43, reader_number), (44, reader_found), (45, reader_fault), (46, reader_faultPlace)]) (rf_upL J [(0, z83.2.2.2.2.1), (1, reader_name), (2, reader_sounds)]) (rf_upL A [(23, td_prices), (24, td_kinds), (25, td_firstWords), (26, td_errands), (27, td_alikes), (28, td_hourEars), (29, td_gotFirst), (30, td_gotSecond), (31, td_gotDegree)]) (rf_upL B [(3, td_wordNames), (4, td_sounds), (5, td_personNames)]) reader_end x_tape td_ear td_pairs td_wordCount td_personCount td_firstFar td_alikeCount td_gotCount z83.1 reader_begun reader_knowings z83.2.1 z83.2.2.1 z83.2.2.2.1 z83.2.2.2.2.1 z83.2.2.2.2.2 reader_name reader_sounds reader_number reader_found reader_fault reader_faultPlace td_wordNames td_sounds td_prices td_personNames td_kinds td_firstWords td_errands td_alikes td_hourEars td_gotFirst td_gotSecond td_gotDegree rfl rfl e_x_tape rfl rfl rfl rfl rfl rfl rfl rfl rfl rfl rfl rfl rfl rfl rfl rfl rfl rfl rfl rfl rfl rfl rfl rfl rfl rfl rfl rfl rfl rfl rfl rfl rfl hz87) kV_X5_readLine tw_485 ⟨Nat.le_of_ble_eq_true rfl, Nat.le_of_ble_eq_true rfl⟩ rfl rfl rfl rfl rfl hP (rf_DX hD) hS rfl hl.1 (rest := []) rfl (Nat.le_of_ble_eq_true rfl) dX5_read_87 (fun H locs hP hS => ?_)
    rw [rf_cat (f := I) (l := [(28, td_ear), (29, td_pairs), (30, td_wordCount), (31, td_personCount), (32, td_firstFar), (33, td_alikeCount), (34, td_gotCount), (35, reader_end), (36, z83.1), (37, reader_begun), (38, reader_knowings), (39, z83.2.1), (40, z83.2.2.1), (41, z83.2.2.2.1), (42, z83.2.2.2.2.2), (43, reader_number), (44, reader_found), (45, reader_fault), (46, reader_faultPlace)]) (lc := [(28, z87.2.1), (29, z87.2.2.1), (30, z87.2.2.2.1), (31, z87.2.2.2.2.1), (32, z87.2.2.2.2.2.1), (33, z87.2.2.2.2.2.2.1), (34, z87.2.2.2.2.2.2.2.1), (36, z87.2.2.2.2.2.2.2.2.1), (37, z87.2.2.2.2.2.2.2.2.2.1), (38, z87.2.2.2.2.2.2.2.2.2.2.1), (39, z87.2.2.2.2.2.2.2.2.2.2.2.1), (40, z87.2.2.2.2.2.2.2.2.2.2.2.2.1), (41, z87.2.2.2.2.2.2.2.2.2.2.2.2.2.1), (42, z87.2.2.2.2.2.2.2.2.2.2.2.2.2.2.2.1), (43, z87.2.2.2.2.2.2.2.2.2.2.2.2.2.2.2.2.2.2.1), (44, z87.2.2.2.2.2.2.2.2.2.2.2.2.2.2.2.2.2.2.2.1), (45, z87.2.2.2.2.2.2.2.2.2.2.2.2.2.2.2.2.2.2.2.2.1), (46, z87.2.2.2.2.2.2.2.2.2.2.2.2.2.2.2.2.2.2.2.2.2.1)]) (l' := [(28, z87.2.1), (29, z87.2.2.1), (30, z87.2.2.2.1), (31, z87.2.2.2.2.1), (32, z87.2.2.2.2.2.1), (33, z87.2.2.2.2.2.2.1), (34, z87.2.2.2.2.2.2.2.1), (35, reader_end), (36, z87.2.2.2.2.2.2.2.2.1), (37, z87.2.2.2.2.2.2.2.2.2.1), (38, z87.2.2.2.2.2.2.2.2.2.2.1), (39, z87.2.2.2.2.2.2.2.2.2.2.2.1), (40, z87.2.2.2.2.2.2.2.2.2.2.2.2.1), (41, z87.2.2.2.2.2.2.2.2.2.2.2.2.2.1), (42, z87.2.2.2.2.2.2.2.2.2.2.2.2.2.2.2.1), (43, z87.2.2.2.2.2.2.2.2.2.2.2.2.2.2.2.2.2.2.1), (44, z87.2.2.2.2.2.2.2.2.2.2.2.2.2.2.2.2.2.2.2.1), (45, z87.2.2.2.2.2.2.2.2.2.2.2.2.2.2.2.2.2.2.2.2.1), (46, z87.2.2.2.2.2.2.2.2.2.2.2.2.2.2.2.2.2.2.2.2.2.1)]) rfl] at hP
    rw [rf_cat (f := J) (l := [(0, z83.2.2.2.2.1), (1, reader_name), (2, reader_sounds)]) (lc := [(0, z87.2.2.2.2.2.2.2.2.2.2.2.2.2.2.1), (1, z87.2.2.2.2.2.2.2.2.2.2.2.2.2.2.2.2.1), (2, z87.2.2.2.2.2.2.2.2.2.2.2.2.2.2.2.2.2.1)]) (l' := [(0, z87.2.2.2.2.2.2.2.2.2.2.2.2.2.2.1), (1, z87.2.2.2.2.2.2.2.2.2.2.2.2.2.2.2.2.1), (2, z87.2.2.2.2.2.2.2.2.2.2.2.2.2.2.2.2.2.1)]) rfl] at hP
    rw [rf_cat (f := A) (l := [(23, td_prices), (24, td_kinds), (25, td_firstWords), (26, td_errands), (27, td_alikes), (28, td_hourEars), (29, td_gotFirst), (30, td_gotSecond), (31, td_gotDegree)]) (lc := [(23, z87.2.2.2.2.2.2.2.2.2.2.2.2.2.2.2.2.2.2.2.2.2.2.2.2.1), (24, z87.2.2.2.2.2.2.2.2.2.2.2.2.2.2.2.2.2.2.2.2.2.2.2.2.2.2.1), (25, z87.2.2.2.2.2.2.2.2.2.2.2.2.2.2.2.2.2.2.2.2.2.2.2.2.2.2.2.1), (26, z87.2.2.2.2.2.2.2.2.2.2.2.2.2.2.2.2.2.2.2.2.2.2.2.2.2.2.2.2.1), (27, z87.2.2.2.2.2.2.2.2.2.2.2.2.2.2.2.2.2.2.2.2.2.2.2.2.2.2.2.2.2.1), (28, z87.2.2.2.2.2.2.2.2.2.2.2.2.2.2.2.2.2.2.2.2.2.2.2.2.2.2.2.2.2.2.1), (29, z87.2.2.2.2.2.2.2.2.2.2.2.2.2.2.2.2.2.2.2.2.2.2.2.2.2.2.2.2.2.2.2.1), (30, z87.2.2.2.2.2.2.2.2.2.2.2.2.2.2.2.2.2.2.2.2.2.2.2.2.2.2.2.2.2.2.2.2.1), (31, z87.2.2.2.2.2.2.2.2.2.2.2.2.2.2.2.2.2.2.2.2.2.2.2.2.2.2.2.2.2.2.2.2.2)]) (l' := [(23, z87.2.2.2.2.2.2.2.2.2.2.2.2.2.2.2.2.2.2.2.2.2.2.2.2.1), (24, z87.2.2.2.2.2.2.2.2.2.2.2.2.2.2.2.2.2.2.2.2.2.2.2.2.2.2.1), (25, z87.2.2.2.2.2.2.2.2.2.2.2.2.2.2.2.2.2.2.2.2.2.2.2.2.2.2.2.1), (26, z87.2.2.2.2.2.2.2.2.2.2.2.2.2.2.2.2.2.2.2.2.2.2.2.2.2.2.2.2.1), (27, z87.2.2.2.2.2.2.2.2.2.2.2.2.2.2.2.2.2.2.2.2.2.2.2.2.2.2.2.2.2.1), (28, z87.2.2.2.2.2.2.2.2.2.2.2.2.2.2.2.2.2.2.2.2.2.2.2.2.2.2.2.2.2.2.1), (29, z87.2.2.2.2.2.2.2.2.2.2.2.2.2.2.2.2.2.2.2.2.2.2.2.2.2.2.2.2.2.2.2.1), (30, z87.2.2.2.2.2.2.2.2.2.2.2.2.2.2.2.2.2.2.2.2.2.2.2.2.2.2.2.2.2.2.2.2.1), (31, z87.2.2.2.2.2.2.2.2.2.2.2.2.2.2.2.2.2.2.2.2.2.2.2.2.2.2.2.2.2.2.2.2.2)]) rfl] at hP
    rw [rf_cat (f := B) (l := [(3, td_wordNames), (4, td_sounds), (5, td_personNames)]) (lc := [(3, z87.2.2.2.2.2.2.2.2.2.2.2.2.2.2.2.2.2.2.2.2.2.2.1), (4, z87.2.2.2.2.2.2.2.2.2.2.2.2.2.2.2.2.2.2.2.2.2.2.2.1), (5, z87.2.2.2.2.2.2.2.2.2.2.2.2.2.2.2.2.2.2.2.2.2.2.2.2.2.1)]) (l' := [(3, z87.2.2.2.2.2.2.2.2.2.2.2.2.2.2.2.2.2.2.2.2.2.2.1), (4, z87.2.2.2.2.2.2.2.2.2.2.2.2.2.2.2.2.2.2.2.2.2.2.2.1), (5, z87.2.2.2.2.2.2.2.2.2.2.2.2.2.2.2.2.2.2.2.2.2.2.2.2.2.1)]) rfl] at hP
    refine lv_istore_n (lv' := [(3, .int z87.1), (0, .ref (a 12)), (4, .int v4)]) hx hb dX5_read_90 rfl hl (by decide) rfl (fun ls hl => ?_)
    refine lv_iinc (v := v4 + 1) (lv' := [(4, .int (v4 + 1)), (3, .int z87.1), (0, .ref (a 12))]) hx hb dX5_read_91 hl (k := 2) rfl rfl (by decide) rfl (fun ls hl => ?_)
    refine lv_goto (tgt := 62) hx hb dX5_read_94 (by decide) ?_
    exact ih z87.1 (v4 + 1) z87.2.1 z87.2.2.1 z87.2.2.2.1 z87.2.2.2.2.1 z87.2.2.2.2.2.1 z87.2.2.2.2.2.2.1 z87.2.2.2.2.2.2.2.1 reader_end z87.2.2.2.2.2.2.2.2.1 z87.2.2.2.2.2.2.2.2.2.1 z87.2.2.2.2.2.2.2.2.2.2.1 z87.2.2.2.2.2.2.2.2.2.2.2.1 z87.2.2.2.2.2.2.2.2.2.2.2.2.1 z87.2.2.2.2.2.2.2.2.2.2.2.2.2.1 z87.2.2.2.2.2.2.2.2.2.2.2.2.2.2.1 z87.2.2.2.2.2.2.2.2.2.2.2.2.2.2.2.1 z87.2.2.2.2.2.2.2.2.2.2.2.2.2.2.2.2.1 z87.2.2.2.2.2.2.2.2.2.2.2.2.2.2.2.2.2.1 z87.2.2.2.2.2.2.2.2.2.2.2.2.2.2.2.2.2.2.1 z87.2.2.2.2.2.2.2.2.2.2.2.2.2.2.2.2.2.2.2.1 z87.2.2.2.2.2.2.2.2.2.2.2.2.2.2.2.2.2.2.2.2.1 z87.2.2.2.2.2.2.2.2.2.2.2.2.2.2.2.2.2.2.2.2.2.1 z87.2.2.2.2.2.2.2.2.2.2.2.2.2.2.2.2.2.2.2.2.2.2.1 z87.2.2.2.2.2.2.2.2.2.2.2.2.2.2.2.2.2.2.2.2.2.2.2.1 z87.2.2.2.2.2.2.2.2.2.2.2.2.2.2.2.2.2.2.2.2.2.2.2.2.1 z87.2.2.2.2.2.2.2.2.2.2.2.2.2.2.2.2.2.2.2.2.2.2.2.2.2.1 z87.2.2.2.2.2.2.2.2.2.2.2.2.2.2.2.2.2.2.2.2.2.2.2.2.2.2.1 z87.2.2.2.2.2.2.2.2.2.2.2.2.2.2.2.2.2.2.2.2.2.2.2.2.2.2.2.1 z87.2.2.2.2.2.2.2.2.2.2.2.2.2.2.2.2.2.2.2.2.2.2.2.2.2.2.2.2.1 z87.2.2.2.2.2.2.2.2.2.2.2.2.2.2.2.2.2.2.2.2.2.2.2.2.2.2.2.2.2.1 z87.2.2.2.2.2.2.2.2.2.2.2.2.2.2.2.2.2.2.2.2.2.2.2.2.2.2.2.2.2.2.1 z87.2.2.2.2.2.2.2.2.2.2.2.2.2.2.2.2.2.2.2.2.2.2.2.2.2.2.2.2.2.2.2.1 z87.2.2.2.2.2.2.2.2.2.2.2.2.2.2.2.2.2.2.2.2.2.2.2.2.2.2.2.2.2.2.2.2.1 z87.2.2.2.2.2.2.2.2.2.2.2.2.2.2.2.2.2.2.2.2.2.2.2.2.2.2.2.2.2.2.2.2.2 hf _ _ _ hP hS (lv_sub hl [2, 1, 0] rfl)
set_option maxHeartbeats 4000000 in
set_option maxRecDepth 100000 in
theorem c_X5_read (l : Launch) (E : rf_E) (a P : Nat → Nat) (I : Nat → Int32) (J : Nat → Int64) (A : Nat → Nat → Int32) (B : Nat → Nat → Int64) (x_tape : Nat → Int32) (td_ear : Int32) (td_pairs : Int32) (td_wordCount : Int32) (td_personCount : Int32) (td_firstFar : Int32) (td_alikeCount : Int32) (td_gotCount : Int32) (reader_tale : Nat) (reader_end : Int32) (reader_next : Int32) (reader_begun : Int32) (reader_knowings : Int32) (reader_sort : Int32) (reader_place : Int32) (reader_length : Int32) (reader_letters : Int64) (reader_whole : Int32) (reader_name : Int64) (reader_sounds : Int64) (reader_number : Int32) (reader_found : Int32) (reader_fault : Int32) (reader_faultPlace : Int32) (td_wordNames : Nat → Int64) (td_sounds : Nat → Int64) (td_prices : Nat → Int32) (td_personNames : Nat → Int64) (td_kinds : Nat → Int32) (td_firstWords : Nat → Int32) (td_errands : Nat → Int32) (td_alikes : Nat → Int32) (td_hourEars : Nat → Int32) (td_gotFirst : Nat → Int32) (td_gotSecond : Nat → Int32) (td_gotDegree : Nat → Int32) (v2 : Int32) {z : Int32 × Int32 × Int32 × Int32 × Int32 × Int32 × Int32 × Nat × Int32 × Int32 × Int32 × Int32 × Int32 × Int32 × Int32 × Int64 × Int32 × Int64 × Int64 × Int32 × Int32 × Int32 × Int32 × (Nat → Int64) × (Nat → Int64) × (Nat → Int32) × (Nat → Int64) × (Nat → Int32) × (Nat → Int32) × (Nat → Int32) × (Nat → Int32) × (Nat → Int32) × (Nat → Int32) × (Nat → Int32) × (Nat → Int32)} (e_x_tape : A 0 = x_tape) (e_td_ear : I 28 = td_ear) (e_td_pairs : I 29 = td_pairs) (e_td_wordCount : I 30 = td_wordCount) (e_td_personCount : I 31 = td_personCount) (e_td_firstFar : I 32 = td_firstFar) (e_td_alikeCount : I 33 = td_alikeCount) (e_td_gotCount : I 34 = td_gotCount) (e_reader_tale : P 3 = a reader_tale) (e_reader_end : I 35 = reader_end) (e_reader_next : I 36 = reader_next) (e_reader_begun : I 37 = reader_begun) (e_reader_knowings : I 38 = reader_knowings) (e_reader_sort : I 39 = reader_sort) (e_reader_place : I 40 = reader_place) (e_reader_length : I 41 = reader_length) (e_reader_letters : J 0 = reader_letters) (e_reader_whole : I 42 = reader_whole) (e_reader_name : J 1 = reader_name) (e_reader_sounds : J 2 = reader_sounds) (e_reader_number : I 43 = reader_number) (e_reader_found : I 44 = reader_found) (e_reader_fault : I 45 = reader_fault) (e_reader_faultPlace : I 46 = reader_faultPlace) (e_td_wordNames : B 3 = td_wordNames) (e_td_sounds : B 4 = td_sounds) (e_td_prices : A 23 = td_prices) (e_td_personNames : B 5 = td_personNames) (e_td_kinds : A 24 = td_kinds) (e_td_firstWords : A 25 = td_firstWords) (e_td_errands : A 26 = td_errands) (e_td_alikes : A 27 = td_alikes) (e_td_hourEars : A 28 = td_hourEars) (e_td_gotFirst : A 29 = td_gotFirst) (e_td_gotSecond : A 30 = td_gotSecond) (e_td_gotDegree : A 31 = td_gotDegree) (hf : f_X5_read x_tape td_ear td_pairs td_wordCount td_personCount td_firstFar td_alikeCount td_gotCount reader_tale reader_end reader_next reader_begun reader_knowings reader_sort reader_place reader_length reader_letters reader_whole reader_name reader_sounds reader_number reader_found reader_fault reader_faultPlace td_wordNames td_sounds td_prices td_personNames td_kinds td_firstWords td_errands td_alikes td_hourEars td_gotFirst td_gotSecond td_gotDegree v2 = some z) : rf_MV l yX5_read cX5_read 5 ({ frames := 11, cells := 0, slots := 0, locals := 307 }) E [.ref (a 12), .ref (a 11), .int v2] (cX E a P I J A B) (cX E a (rf_upL P [(3, a z.2.2.2.2.2.2.2.1)]) (rf_upL I [(28, z.1), (29, z.2.1), (30, z.2.2.1), (31, z.2.2.2.1), (32, z.2.2.2.2.1), (33, z.2.2.2.2.2.1), (34, z.2.2.2.2.2.2.1), (35, z.2.2.2.2.2.2.2.2.1), (36, z.2.2.2.2.2.2.2.2.2.1), (37, z.2.2.2.2.2.2.2.2.2.2.1), (38, z.2.2.2.2.2.2.2.2.2.2.2.1), (39, z.2.2.2.2.2.2.2.2.2.2.2.2.1), (40, z.2.2.2.2.2.2.2.2.2.2.2.2.2.1), (41, z.2.2.2.2.2.2.2.2.2.2.2.2.2.2.1), (42, z.2.2.2.2.2.2.2.2.2.2.2.2.2.2.2.2.1), (43, z.2.2.2.2.2.2.2.2.2.2.2.2.2.2.2.2.2.2.2.1), (44, z.2.2.2.2.2.2.2.2.2.2.2.2.2.2.2.2.2.2.2.2.1), (45, z.2.2.2.2.2.2.2.2.2.2.2.2.2.2.2.2.2.2.2.2.2.1), (46, z.2.2.2.2.2.2.2.2.2.2.2.2.2.2.2.2.2.2.2.2.2.2.1)]) (rf_upL J [(0, z.2.2.2.2.2.2.2.2.2.2.2.2.2.2.2.1), (1, z.2.2.2.2.2.2.2.2.2.2.2.2.2.2.2.2.2.1), (2, z.2.2.2.2.2.2.2.2.2.2.2.2.2.2.2.2.2.2.1)]) (rf_upL A [(23, z.2.2.2.2.2.2.2.2.2.2.2.2.2.2.2.2.2.2.2.2.2.2.2.2.2.1), (24, z.2.2.2.2.2.2.2.2.2.2.2.2.2.2.2.2.2.2.2.2.2.2.2.2.2.2.2.1), (25, z.2.2.2.2.2.2.2.2.2.2.2.2.2.2.2.2.2.2.2.2.2.2.2.2.2.2.2.2.1), (26, z.2.2.2.2.2.2.2.2.2.2.2.2.2.2.2.2.2.2.2.2.2.2.2.2.2.2.2.2.2.1), (27, z.2.2.2.2.2.2.2.2.2.2.2.2.2.2.2.2.2.2.2.2.2.2.2.2.2.2.2.2.2.2.1), (28, z.2.2.2.2.2.2.2.2.2.2.2.2.2.2.2.2.2.2.2.2.2.2.2.2.2.2.2.2.2.2.2.1), (29, z.2.2.2.2.2.2.2.2.2.2.2.2.2.2.2.2.2.2.2.2.2.2.2.2.2.2.2.2.2.2.2.2.1), (30, z.2.2.2.2.2.2.2.2.2.2.2.2.2.2.2.2.2.2.2.2.2.2.2.2.2.2.2.2.2.2.2.2.2.1), (31, z.2.2.2.2.2.2.2.2.2.2.2.2.2.2.2.2.2.2.2.2.2.2.2.2.2.2.2.2.2.2.2.2.2.2)]) (rf_upL B [(3, z.2.2.2.2.2.2.2.2.2.2.2.2.2.2.2.2.2.2.2.2.2.2.2.1), (4, z.2.2.2.2.2.2.2.2.2.2.2.2.2.2.2.2.2.2.2.2.2.2.2.2.1), (5, z.2.2.2.2.2.2.2.2.2.2.2.2.2.2.2.2.2.2.2.2.2.2.2.2.2.2.1)])) := by
  unfold f_X5_read at hf
  refine rf_ofV (by decide) (Nat.le_of_ble_eq_true rfl) ?_
  intro p e s m below meth c A0 ls hC hD hP hS hl
  have hC : rf_C p E s m _ meth c cX5_read 5 RX5 (none) A0 := hC
  have hx := hC.1
  have hb := hC.2.1
  have hl : lv_has ls 5 [(0, .ref (a 12)), (1, .ref (a 11)), (2, .int v2)] := hl
  have hP : va_P (rf_D E) vwCl (cX E a (rf_upL P [(3, a reader_tale)]) (rf_upL I [(28, td_ear), (29, td_pairs), (30, td_wordCount), (31, td_personCount), (32, td_firstFar), (33, td_alikeCount), (34, td_gotCount), (35, reader_end), (36, reader_next), (37, reader_begun), (38, reader_knowings), (39, reader_sort), (40, reader_place), (41, reader_length), (42, reader_whole), (43, reader_number), (44, reader_found), (45, reader_fault), (46, reader_faultPlace)]) (rf_upL J [(0, reader_letters), (1, reader_name), (2, reader_sounds)]) (rf_upL A [(23, td_prices), (24, td_kinds), (25, td_firstWords), (26, td_errands), (27, td_alikes), (28, td_hourEars), (29, td_gotFirst), (30, td_gotSecond), (31, td_gotDegree)]) (rf_upL B [(3, td_wordNames), (4, td_sounds), (5, td_personNames)])) s.heap := by
    rw [rf_self (f := P) [(3, a reader_tale)] (rf_fa1 e_reader_tale rf_fa0)]
    rw [rf_self (f := I) [(28, td_ear), (29, td_pairs), (30, td_wordCount), (31, td_personCount), (32, td_firstFar), (33, td_alikeCount), (34, td_gotCount), (35, reader_end), (36, reader_next), (37, reader_begun), (38, reader_knowings), (39, reader_sort), (40, reader_place), (41, reader_length), (42, reader_whole), (43, reader_number), (44, reader_found), (45, reader_fault), (46, reader_faultPlace)] (rf_fa1 e_td_ear (rf_fa1 e_td_pairs (rf_fa1 e_td_wordCount (rf_fa1 e_td_personCount (rf_fa1 e_td_firstFar (rf_fa1 e_td_alikeCount (rf_fa1 e_td_gotCount (rf_fa1 e_reader_end (rf_fa1 e_reader_next (rf_fa1 e_reader_begun (rf_fa1 e_reader_knowings (rf_fa1 e_reader_sort (rf_fa1 e_reader_place (rf_fa1 e_reader_length (rf_fa1 e_reader_whole (rf_fa1 e_reader_number (rf_fa1 e_reader_found (rf_fa1 e_reader_fault (rf_fa1 e_reader_faultPlace rf_fa0)))))))))))))))))))]
    rw [rf_self (f := J) [(0, reader_letters), (1, reader_name), (2, reader_sounds)] (rf_fa1 e_reader_letters (rf_fa1 e_reader_name (rf_fa1 e_reader_sounds rf_fa0)))]
    rw [rf_self (f := A) [(23, td_prices), (24, td_kinds), (25, td_firstWords), (26, td_errands), (27, td_alikes), (28, td_hourEars), (29, td_gotFirst), (30, td_gotSecond), (31, td_gotDegree)] (rf_fa1 e_td_prices (rf_fa1 e_td_kinds (rf_fa1 e_td_firstWords (rf_fa1 e_td_errands (rf_fa1 e_td_alikes (rf_fa1 e_td_hourEars (rf_fa1 e_td_gotFirst (rf_fa1 e_td_gotSecond (rf_fa1 e_td_gotDegree rf_fa0)))))))))]
    rw [rf_self (f := B) [(3, td_wordNames), (4, td_sounds), (5, td_personNames)] (rf_fa1 e_td_wordNames (rf_fa1 e_td_sounds (rf_fa1 e_td_personNames rf_fa0)))]
    exact hP
  refine lv_aload_n hx hb dX5_read_0 rfl (lv_at hl 0 rfl) ?_
  refine lv_aload_n hx hb dX5_read_1 rfl (lv_at hl 1 rfl) ?_
  refine pX_reader_tale hC hD hP hS tw_338 dX5_read_2 (rf_upL P [(3, a 11)]) (rf_put rfl) (fun H locs hP hS => ?_)
  refine lv_aload_n hx hb dX5_read_5 rfl (lv_at hl 0 rfl) ?_
  refine gX_reader_tale hC hP tw_338 (v := a 11) rfl dX5_read_6 ?_
  obtain ⟨z9, hz9, hf⟩ := rf_bd hf
  refine rf_vv (q0 := 11) (ci := 9) hC (c_X9_forget_td l E a (rf_upL P [(3, a 11)]) (rf_upL I [(28, td_ear), (29, td_pairs), (30, td_wordCount), (31, td_personCount), (32, td_firstFar), (33, td_alikeCount), (34, td_gotCount), (35, reader_end), (36, reader_next), (37, reader_begun), (38, reader_knowings), (39, reader_sort), (40, reader_place), (41, reader_length), (42, reader_whole), (43, reader_number), (44, reader_found), (45, reader_fault), (46, reader_faultPlace)]) (rf_upL J [(0, reader_letters), (1, reader_name), (2, reader_sounds)]) (rf_upL A [(23, td_prices), (24, td_kinds), (25, td_firstWords), (26, td_errands), (27, td_alikes), (28, td_hourEars), (29, td_gotFirst), (30, td_gotSecond), (31, td_gotDegree)]) (rf_upL B [(3, td_wordNames), (4, td_sounds), (5, td_personNames)]) td_ear td_pairs td_wordCount td_personCount td_firstFar td_alikeCount td_gotCount td_alikes td_hourEars rfl rfl rfl rfl rfl rfl rfl rfl rfl hz9) kV_X9_forget tw_463 ⟨Nat.le_of_ble_eq_true rfl, Nat.le_of_ble_eq_true rfl⟩ rfl rfl rfl rfl rfl hP (rf_DX hD) hS rfl hl.1 (rest := []) rfl (Nat.le_of_ble_eq_true rfl) dX5_read_9 (fun H locs hP hS => ?_)
  rw [rf_cat (f := I) (l := [(28, td_ear), (29, td_pairs), (30, td_wordCount), (31, td_personCount), (32, td_firstFar), (33, td_alikeCount), (34, td_gotCount), (35, reader_end), (36, reader_next), (37, reader_begun), (38, reader_knowings), (39, reader_sort), (40, reader_place), (41, reader_length), (42, reader_whole), (43, reader_number), (44, reader_found), (45, reader_fault), (46, reader_faultPlace)]) (lc := [(28, z9.1), (29, z9.2.1), (30, z9.2.2.1), (31, z9.2.2.2.1), (32, z9.2.2.2.2.1), (33, z9.2.2.2.2.2.1), (34, z9.2.2.2.2.2.2.1)]) (l' := [(28, z9.1), (29, z9.2.1), (30, z9.2.2.1), (31, z9.2.2.2.1), (32, z9.2.2.2.2.1), (33, z9.2.2.2.2.2.1), (34, z9.2.2.2.2.2.2.1), (35, reader_end), (36, reader_next), (37, reader_begun), (38, reader_knowings), (39, reader_sort), (40, reader_place), (41, reader_length), (42, reader_whole), (43, reader_number), (44, reader_found), (45, reader_fault), (46, reader_faultPlace)]) rfl] at hP
  rw [rf_cat (f := A) (l := [(23, td_prices), (24, td_kinds), (25, td_firstWords), (26, td_errands), (27, td_alikes), (28, td_hourEars), (29, td_gotFirst), (30, td_gotSecond), (31, td_gotDegree)]) (lc := [(27, z9.2.2.2.2.2.2.2.1), (28, z9.2.2.2.2.2.2.2.2)]) (l' := [(23, td_prices), (24, td_kinds), (25, td_firstWords), (26, td_errands), (27, z9.2.2.2.2.2.2.2.1), (28, z9.2.2.2.2.2.2.2.2), (29, td_gotFirst), (30, td_gotSecond), (31, td_gotDegree)]) rfl] at hP
  refine lv_aload_n hx hb dX5_read_12 rfl (lv_at hl 0 rfl) ?_
  refine lv_iload_n hx hb dX5_read_13 rfl (lv_at hl 2 rfl) ?_
  refine lv_aload_n hx hb dX5_read_14 rfl (lv_at hl 0 rfl) ?_
  refine gX_reader_bytes hC hP tw_337 dX5_read_15 ?_
  refine nX_x_tape hC hP dX5_read_18 ?_
  refine va_mmin hx hb (by rw [hC.2.2.1]; exact hl.1.symm) hC.2.2.2.1 (hC.2.2.2.2.1 _ tw_470) (hC.2.2.2.2.1 _ rf_min.1) (hC.2.2.2.2.1 _ rf_min.2.1) (hC.2.2.2.2.1 _ rf_min.2.2) (Nat.le_of_ble_eq_true rfl) (Nat.le_of_ble_eq_true rfl) (Nat.zero_le _) (Nat.zero_le _) dX5_read_19 ?_
  refine pX_reader_end hC hD hP hS tw_339 dX5_read_22 (rf_upL I [(28, z9.1), (29, z9.2.1), (30, z9.2.2.1), (31, z9.2.2.2.1), (32, z9.2.2.2.2.1), (33, z9.2.2.2.2.2.1), (34, z9.2.2.2.2.2.2.1), (35, (if 900 < v2 then 900 else v2)), (36, reader_next), (37, reader_begun), (38, reader_knowings), (39, reader_sort), (40, reader_place), (41, reader_length), (42, reader_whole), (43, reader_number), (44, reader_found), (45, reader_fault), (46, reader_faultPlace)]) (rf_put rfl) (fun H locs hP hS => ?_)
  refine lv_aload_n hx hb dX5_read_25 rfl (lv_at hl 0 rfl) ?_
  refine lv_iconst (v := 0) hx hb dX5_read_26 (by decide) ?_
  refine pX_reader_next hC hD hP hS tw_340 dX5_read_27 (rf_upL I [(28, z9.1), (29, z9.2.1), (30, z9.2.2.1), (31, z9.2.2.2.1), (32, z9.2.2.2.2.1), (33, z9.2.2.2.2.2.1), (34, z9.2.2.2.2.2.2.1), (35, (if 900 < v2 then 900 else v2)), (36, 0), (37, reader_begun), (38, reader_knowings), (39, reader_sort), (40, reader_place), (41, reader_length), (42, reader_whole), (43, reader_number), (44, reader_found), (45, reader_fault), (46, reader_faultPlace)]) (rf_put rfl) (fun H locs hP hS => ?_)
  refine lv_aload_n hx hb dX5_read_30 rfl (lv_at hl 0 rfl) ?_
  refine lv_iconst (v := 0) hx hb dX5_read_31 (by decide) ?_
  refine pX_reader_begun hC hD hP hS tw_341 (by decide) dX5_read_32 (rf_upL I [(28, z9.1), (29, z9.2.1), (30, z9.2.2.1), (31, z9.2.2.2.1), (32, z9.2.2.2.2.1), (33, z9.2.2.2.2.2.1), (34, z9.2.2.2.2.2.2.1), (35, (if 900 < v2 then 900 else v2)), (36, 0), (37, 0), (38, reader_knowings), (39, reader_sort), (40, reader_place), (41, reader_length), (42, reader_whole), (43, reader_number), (44, reader_found), (45, reader_fault), (46, reader_faultPlace)]) (rf_put rfl) (fun H locs hP hS => ?_)
  refine lv_aload_n hx hb dX5_read_35 rfl (lv_at hl 0 rfl) ?_
  refine lv_iconst (v := 0) hx hb dX5_read_36 (by decide) ?_
  refine pX_reader_knowings hC hD hP hS tw_342 dX5_read_37 (rf_upL I [(28, z9.1), (29, z9.2.1), (30, z9.2.2.1), (31, z9.2.2.2.1), (32, z9.2.2.2.2.1), (33, z9.2.2.2.2.2.1), (34, z9.2.2.2.2.2.2.1), (35, (if 900 < v2 then 900 else v2)), (36, 0), (37, 0), (38, 0), (39, reader_sort), (40, reader_place), (41, reader_length), (42, reader_whole), (43, reader_number), (44, reader_found), (45, reader_fault), (46, reader_faultPlace)]) (rf_put rfl) (fun H locs hP hS => ?_)
  refine lv_aload_n hx hb dX5_read_40 rfl (lv_at hl 0 rfl) ?_
  refine lv_iconst (v := 0) hx hb dX5_read_41 (by decide) ?_
  refine pX_reader_fault hC hD hP hS tw_352 dX5_read_42 (rf_upL I [(28, z9.1), (29, z9.2.1), (30, z9.2.2.1), (31, z9.2.2.2.1), (32, z9.2.2.2.2.1), (33, z9.2.2.2.2.2.1), (34, z9.2.2.2.2.2.2.1), (35, (if 900 < v2 then 900 else v2)), (36, 0), (37, 0), (38, 0), (39, reader_sort), (40, reader_place), (41, reader_length), (42, reader_whole), (43, reader_number), (44, reader_found), (45, 0), (46, reader_faultPlace)]) (rf_put rfl) (fun H locs hP hS => ?_)
  refine lv_aload_n hx hb dX5_read_45 rfl (lv_at hl 0 rfl) ?_
  refine lv_iconst (v := 0) hx hb dX5_read_46 (by decide) ?_
  refine pX_reader_faultPlace hC hD hP hS tw_354 dX5_read_47 (rf_upL I [(28, z9.1), (29, z9.2.1), (30, z9.2.2.1), (31, z9.2.2.2.1), (32, z9.2.2.2.2.1), (33, z9.2.2.2.2.2.1), (34, z9.2.2.2.2.2.2.1), (35, (if 900 < v2 then 900 else v2)), (36, 0), (37, 0), (38, 0), (39, reader_sort), (40, reader_place), (41, reader_length), (42, reader_whole), (43, reader_number), (44, reader_found), (45, 0), (46, 0)]) (rf_put rfl) (fun H locs hP hS => ?_)
  refine lv_aload_n hx hb dX5_read_50 rfl (lv_at hl 0 rfl) ?_
  obtain ⟨z51, hz51, hf⟩ := rf_bd hf
  refine rf_vv (q0 := 12) (ci := 5) hC (c_X5_look l E a (rf_upL P [(3, a 11)]) (rf_upL I [(28, z9.1), (29, z9.2.1), (30, z9.2.2.1), (31, z9.2.2.2.1), (32, z9.2.2.2.2.1), (33, z9.2.2.2.2.2.1), (34, z9.2.2.2.2.2.2.1), (35, (if 900 < v2 then 900 else v2)), (36, 0), (37, 0), (38, 0), (39, reader_sort), (40, reader_place), (41, reader_length), (42, reader_whole), (43, reader_number), (44, reader_found), (45, 0), (46, 0)]) (rf_upL J [(0, reader_letters), (1, reader_name), (2, reader_sounds)]) (rf_upL A [(23, td_prices), (24, td_kinds), (25, td_firstWords), (26, td_errands), (27, z9.2.2.2.2.2.2.2.1), (28, z9.2.2.2.2.2.2.2.2), (29, td_gotFirst), (30, td_gotSecond), (31, td_gotDegree)]) (rf_upL B [(3, td_wordNames), (4, td_sounds), (5, td_personNames)]) (if 900 < v2 then 900 else v2) x_tape 0 reader_sort reader_place reader_length reader_letters reader_whole rfl e_x_tape rfl rfl rfl rfl rfl rfl hz51) kV_X5_look tw_473 ⟨Nat.le_of_ble_eq_true rfl, Nat.le_of_ble_eq_true rfl⟩ rfl rfl rfl rfl rfl hP (rf_DX hD) hS rfl hl.1 (rest := []) rfl (Nat.le_of_ble_eq_true rfl) dX5_read_51 (fun H locs hP hS => ?_)
  rw [rf_cat (f := I) (l := [(28, z9.1), (29, z9.2.1), (30, z9.2.2.1), (31, z9.2.2.2.1), (32, z9.2.2.2.2.1), (33, z9.2.2.2.2.2.1), (34, z9.2.2.2.2.2.2.1), (35, (if 900 < v2 then 900 else v2)), (36, 0), (37, 0), (38, 0), (39, reader_sort), (40, reader_place), (41, reader_length), (42, reader_whole), (43, reader_number), (44, reader_found), (45, 0), (46, 0)]) (lc := [(36, z51.1), (39, z51.2.1), (40, z51.2.2.1), (41, z51.2.2.2.1), (42, z51.2.2.2.2.2)]) (l' := [(28, z9.1), (29, z9.2.1), (30, z9.2.2.1), (31, z9.2.2.2.1), (32, z9.2.2.2.2.1), (33, z9.2.2.2.2.2.1), (34, z9.2.2.2.2.2.2.1), (35, (if 900 < v2 then 900 else v2)), (36, z51.1), (37, 0), (38, 0), (39, z51.2.1), (40, z51.2.2.1), (41, z51.2.2.2.1), (42, z51.2.2.2.2.2), (43, reader_number), (44, reader_found), (45, 0), (46, 0)]) rfl] at hP
  rw [rf_cat (f := J) (l := [(0, reader_letters), (1, reader_name), (2, reader_sounds)]) (lc := [(0, z51.2.2.2.2.1)]) (l' := [(0, z51.2.2.2.2.1), (1, reader_name), (2, reader_sounds)]) rfl] at hP
  refine lv_aload_n hx hb dX5_read_54 rfl (lv_at hl 0 rfl) ?_
  obtain ⟨z55, hz55, hf⟩ := rf_bd hf
  refine rf_vi (q0 := 12) (ci := 5) hC (c_X5_readLine l E a (rf_upL P [(3, a 11)]) (rf_upL I [(28, z9.1), (29, z9.2.1), (30, z9.2.2.1), (31, z9.2.2.2.1), (32, z9.2.2.2.2.1), (33, z9.2.2.2.2.2.1), (34, z9.2.2.2.2.2.2.1), (35, (if 900 < v2 then 900 else v2)), (36, z51.1), (37, 0), (38, 0), (39, z51.2.1), (40, z51.2.2.1), (41, z51.2.2.2.1), (42, z51.2.2.2.2.2), (43, reader_number), (44, reader_found), (45, 0), (46, 0)]) (rf_upL J [(0, z51.2.2.2.2.1), (1, reader_name), (2, reader_sounds)]) (rf_upL A [(23, td_prices), (24, td_kinds), (25, td_firstWords), (26, td_errands), (27, z9.2.2.2.2.2.2.2.1), (28, z9.2.2.2.2.2.2.2.2), (29, td_gotFirst), (30, td_gotSecond), (31, td_gotDegree)]) (rf_upL B [(3, td_wordNames), (4, td_sounds), (5, td_personNames)]) (if 900 < v2 then 900 else v2) x_tape z9.1 z9.2.1 z9.2.2.1 z9.2.2.2.1 z9.2.2.2.2.1 z9.2.2.2.2.2.1 z9.2.2.2.2.2.2.1 z51.1 0 0 z51.2.1 z51.2.2.1 z51.2.2.2.1 z51.2.2.2.2.1 z51.2.2.2.2.2 reader_name reader_sounds reader_number reader_found 0 0 td_wordNames td_sounds td_prices td_personNames td_kinds td_firstWords td_errands z9.2.2.2.2.2.2.2.1 z9.2.2.2.2.2.2.2.2 td_gotFirst td_gotSecond td_gotDegree rfl rfl e_x_tape rfl rfl rfl rfl rfl rfl rfl rfl rfl rfl rfl rfl rfl rfl rfl rfl rfl rfl rfl rfl rfl rfl rfl rfl rfl rfl rfl rfl rfl rfl rfl rfl rfl hz55) kV_X5_readLine tw_485 ⟨Nat.le_of_ble_eq_true rfl, Nat.le_of_ble_eq_true rfl⟩ rfl rfl rfl rfl rfl hP (rf_DX hD) hS rfl hl.1 (rest := []) rfl (Nat.le_of_ble_eq_true rfl) dX5_read_55 (fun H locs hP hS => ?_)
  rw [rf_cat (f := I) (l := [(28, z9.1), (29, z9.2.1), (30, z9.2.2.1), (31, z9.2.2.2.1), (32, z9.2.2.2.2.1), (33, z9.2.2.2.2.2.1), (34, z9.2.2.2.2.2.2.1), (35, (if 900 < v2 then 900 else v2)), (36, z51.1), (37, 0), (38, 0), (39, z51.2.1), (40, z51.2.2.1), (41, z51.2.2.2.1), (42, z51.2.2.2.2.2), (43, reader_number), (44, reader_found), (45, 0), (46, 0)]) (lc := [(28, z55.2.1), (29, z55.2.2.1), (30, z55.2.2.2.1), (31, z55.2.2.2.2.1), (32, z55.2.2.2.2.2.1), (33, z55.2.2.2.2.2.2.1), (34, z55.2.2.2.2.2.2.2.1), (36, z55.2.2.2.2.2.2.2.2.1), (37, z55.2.2.2.2.2.2.2.2.2.1), (38, z55.2.2.2.2.2.2.2.2.2.2.1), (39, z55.2.2.2.2.2.2.2.2.2.2.2.1), (40, z55.2.2.2.2.2.2.2.2.2.2.2.2.1), (41, z55.2.2.2.2.2.2.2.2.2.2.2.2.2.1), (42, z55.2.2.2.2.2.2.2.2.2.2.2.2.2.2.2.1), (43, z55.2.2.2.2.2.2.2.2.2.2.2.2.2.2.2.2.2.2.1), (44, z55.2.2.2.2.2.2.2.2.2.2.2.2.2.2.2.2.2.2.2.1), (45, z55.2.2.2.2.2.2.2.2.2.2.2.2.2.2.2.2.2.2.2.2.1), (46, z55.2.2.2.2.2.2.2.2.2.2.2.2.2.2.2.2.2.2.2.2.2.1)]) (l' := [(28, z55.2.1), (29, z55.2.2.1), (30, z55.2.2.2.1), (31, z55.2.2.2.2.1), (32, z55.2.2.2.2.2.1), (33, z55.2.2.2.2.2.2.1), (34, z55.2.2.2.2.2.2.2.1), (35, (if 900 < v2 then 900 else v2)), (36, z55.2.2.2.2.2.2.2.2.1), (37, z55.2.2.2.2.2.2.2.2.2.1), (38, z55.2.2.2.2.2.2.2.2.2.2.1), (39, z55.2.2.2.2.2.2.2.2.2.2.2.1), (40, z55.2.2.2.2.2.2.2.2.2.2.2.2.1), (41, z55.2.2.2.2.2.2.2.2.2.2.2.2.2.1), (42, z55.2.2.2.2.2.2.2.2.2.2.2.2.2.2.2.1), (43, z55.2.2.2.2.2.2.2.2.2.2.2.2.2.2.2.2.2.2.1), (44, z55.2.2.2.2.2.2.2.2.2.2.2.2.2.2.2.2.2.2.2.1), (45, z55.2.2.2.2.2.2.2.2.2.2.2.2.2.2.2.2.2.2.2.2.1), (46, z55.2.2.2.2.2.2.2.2.2.2.2.2.2.2.2.2.2.2.2.2.2.1)]) rfl] at hP
  rw [rf_cat (f := J) (l := [(0, z51.2.2.2.2.1), (1, reader_name), (2, reader_sounds)]) (lc := [(0, z55.2.2.2.2.2.2.2.2.2.2.2.2.2.2.1), (1, z55.2.2.2.2.2.2.2.2.2.2.2.2.2.2.2.2.1), (2, z55.2.2.2.2.2.2.2.2.2.2.2.2.2.2.2.2.2.1)]) (l' := [(0, z55.2.2.2.2.2.2.2.2.2.2.2.2.2.2.1), (1, z55.2.2.2.2.2.2.2.2.2.2.2.2.2.2.2.2.1), (2, z55.2.2.2.2.2.2.2.2.2.2.2.2.2.2.2.2.2.1)]) rfl] at hP
  rw [rf_cat (f := A) (l := [(23, td_prices), (24, td_kinds), (25, td_firstWords), (26, td_errands), (27, z9.2.2.2.2.2.2.2.1), (28, z9.2.2.2.2.2.2.2.2), (29, td_gotFirst), (30, td_gotSecond), (31, td_gotDegree)]) (lc := [(23, z55.2.2.2.2.2.2.2.2.2.2.2.2.2.2.2.2.2.2.2.2.2.2.2.2.1), (24, z55.2.2.2.2.2.2.2.2.2.2.2.2.2.2.2.2.2.2.2.2.2.2.2.2.2.2.1), (25, z55.2.2.2.2.2.2.2.2.2.2.2.2.2.2.2.2.2.2.2.2.2.2.2.2.2.2.2.1), (26, z55.2.2.2.2.2.2.2.2.2.2.2.2.2.2.2.2.2.2.2.2.2.2.2.2.2.2.2.2.1), (27, z55.2.2.2.2.2.2.2.2.2.2.2.2.2.2.2.2.2.2.2.2.2.2.2.2.2.2.2.2.2.1), (28, z55.2.2.2.2.2.2.2.2.2.2.2.2.2.2.2.2.2.2.2.2.2.2.2.2.2.2.2.2.2.2.1), (29, z55.2.2.2.2.2.2.2.2.2.2.2.2.2.2.2.2.2.2.2.2.2.2.2.2.2.2.2.2.2.2.2.1), (30, z55.2.2.2.2.2.2.2.2.2.2.2.2.2.2.2.2.2.2.2.2.2.2.2.2.2.2.2.2.2.2.2.2.1), (31, z55.2.2.2.2.2.2.2.2.2.2.2.2.2.2.2.2.2.2.2.2.2.2.2.2.2.2.2.2.2.2.2.2.2)]) (l' := [(23, z55.2.2.2.2.2.2.2.2.2.2.2.2.2.2.2.2.2.2.2.2.2.2.2.2.1), (24, z55.2.2.2.2.2.2.2.2.2.2.2.2.2.2.2.2.2.2.2.2.2.2.2.2.2.2.1), (25, z55.2.2.2.2.2.2.2.2.2.2.2.2.2.2.2.2.2.2.2.2.2.2.2.2.2.2.2.1), (26, z55.2.2.2.2.2.2.2.2.2.2.2.2.2.2.2.2.2.2.2.2.2.2.2.2.2.2.2.2.1), (27, z55.2.2.2.2.2.2.2.2.2.2.2.2.2.2.2.2.2.2.2.2.2.2.2.2.2.2.2.2.2.1), (28, z55.2.2.2.2.2.2.2.2.2.2.2.2.2.2.2.2.2.2.2.2.2.2.2.2.2.2.2.2.2.2.1), (29, z55.2.2.2.2.2.2.2.2.2.2.2.2.2.2.2.2.2.2.2.2.2.2.2.2.2.2.2.2.2.2.2.1), (30, z55.2.2.2.2.2.2.2.2.2.2.2.2.2.2.2.2.2.2.2.2.2.2.2.2.2.2.2.2.2.2.2.2.1), (31, z55.2.2.2.2.2.2.2.2.2.2.2.2.2.2.2.2.2.2.2.2.2.2.2.2.2.2.2.2.2.2.2.2.2)]) rfl] at hP
  rw [rf_cat (f := B) (l := [(3, td_wordNames), (4, td_sounds), (5, td_personNames)]) (lc := [(3, z55.2.2.2.2.2.2.2.2.2.2.2.2.2.2.2.2.2.2.2.2.2.2.1), (4, z55.2.2.2.2.2.2.2.2.2.2.2.2.2.2.2.2.2.2.2.2.2.2.2.1), (5, z55.2.2.2.2.2.2.2.2.2.2.2.2.2.2.2.2.2.2.2.2.2.2.2.2.2.1)]) (l' := [(3, z55.2.2.2.2.2.2.2.2.2.2.2.2.2.2.2.2.2.2.2.2.2.2.1), (4, z55.2.2.2.2.2.2.2.2.2.2.2.2.2.2.2.2.2.2.2.2.2.2.2.1), (5, z55.2.2.2.2.2.2.2.2.2.2.2.2.2.2.2.2.2.2.2.2.2.2.2.2.2.1)]) rfl] at hP
  refine lv_istore_n (lv' := [(3, .int z55.1), (0, .ref (a 12)), (1, .ref (a 11)), (2, .int v2)]) hx hb dX5_read_58 rfl hl (by decide) rfl (fun ls hl => ?_)
  refine lv_iconst (v := 0) hx hb dX5_read_59 (by decide) ?_
  refine lv_istore (lv' := [(4, .int 0), (3, .int z55.1), (0, .ref (a 12)), (1, .ref (a 11)), (2, .int v2)]) hx hb dX5_read_60 hl (by decide) rfl (fun ls hl => ?_)
  exact w_X5_read_62 hC hD e_x_tape rf_fu z55.1 0 z55.2.1 z55.2.2.1 z55.2.2.2.1 z55.2.2.2.2.1 z55.2.2.2.2.2.1 z55.2.2.2.2.2.2.1 z55.2.2.2.2.2.2.2.1 (if 900 < v2 then 900 else v2) z55.2.2.2.2.2.2.2.2.1 z55.2.2.2.2.2.2.2.2.2.1 z55.2.2.2.2.2.2.2.2.2.2.1 z55.2.2.2.2.2.2.2.2.2.2.2.1 z55.2.2.2.2.2.2.2.2.2.2.2.2.1 z55.2.2.2.2.2.2.2.2.2.2.2.2.2.1 z55.2.2.2.2.2.2.2.2.2.2.2.2.2.2.1 z55.2.2.2.2.2.2.2.2.2.2.2.2.2.2.2.1 z55.2.2.2.2.2.2.2.2.2.2.2.2.2.2.2.2.1 z55.2.2.2.2.2.2.2.2.2.2.2.2.2.2.2.2.2.1 z55.2.2.2.2.2.2.2.2.2.2.2.2.2.2.2.2.2.2.1 z55.2.2.2.2.2.2.2.2.2.2.2.2.2.2.2.2.2.2.2.1 z55.2.2.2.2.2.2.2.2.2.2.2.2.2.2.2.2.2.2.2.2.1 z55.2.2.2.2.2.2.2.2.2.2.2.2.2.2.2.2.2.2.2.2.2.1 z55.2.2.2.2.2.2.2.2.2.2.2.2.2.2.2.2.2.2.2.2.2.2.1 z55.2.2.2.2.2.2.2.2.2.2.2.2.2.2.2.2.2.2.2.2.2.2.2.1 z55.2.2.2.2.2.2.2.2.2.2.2.2.2.2.2.2.2.2.2.2.2.2.2.2.1 z55.2.2.2.2.2.2.2.2.2.2.2.2.2.2.2.2.2.2.2.2.2.2.2.2.2.1 z55.2.2.2.2.2.2.2.2.2.2.2.2.2.2.2.2.2.2.2.2.2.2.2.2.2.2.1 z55.2.2.2.2.2.2.2.2.2.2.2.2.2.2.2.2.2.2.2.2.2.2.2.2.2.2.2.1 z55.2.2.2.2.2.2.2.2.2.2.2.2.2.2.2.2.2.2.2.2.2.2.2.2.2.2.2.2.1 z55.2.2.2.2.2.2.2.2.2.2.2.2.2.2.2.2.2.2.2.2.2.2.2.2.2.2.2.2.2.1 z55.2.2.2.2.2.2.2.2.2.2.2.2.2.2.2.2.2.2.2.2.2.2.2.2.2.2.2.2.2.2.1 z55.2.2.2.2.2.2.2.2.2.2.2.2.2.2.2.2.2.2.2.2.2.2.2.2.2.2.2.2.2.2.2.1 z55.2.2.2.2.2.2.2.2.2.2.2.2.2.2.2.2.2.2.2.2.2.2.2.2.2.2.2.2.2.2.2.2.1 z55.2.2.2.2.2.2.2.2.2.2.2.2.2.2.2.2.2.2.2.2.2.2.2.2.2.2.2.2.2.2.2.2.2 hf _ _ _ hP hS (lv_sub hl [2, 1, 0] rfl)
set_option maxHeartbeats 4000000 in
set_option maxRecDepth 100000 in
theorem c_X8_clear_acts (l : Launch) (E : rf_E) (a P : Nat → Nat) (I : Nat → Int32) (J : Nat → Int64) (A : Nat → Nat → Int32) (B : Nat → Nat → Int64) (h_first : Int32) (h_count : Int32) {z : Int32 × Int32} (e_h_first : I 16 = h_first) (e_h_count : I 17 = h_count) (hf : f_X8_clear_acts h_first h_count = some z) : rf_MV l yX8_clear cX8_clear 1 ({ frames := 0, cells := 0, slots := 0, locals := 0 }) E [.ref (a 8)] (cX E a P I J A B) (cX E a P (rf_upL I [(16, z.1), (17, z.2)]) J A B) := by
  unfold f_X8_clear_acts at hf
  refine rf_ofV (by decide) (Nat.le_of_ble_eq_true rfl) ?_
  intro p e s m below meth c A0 ls hC hD hP hS hl
  have hC : rf_C p E s m _ meth c cX8_clear 1 RX8 (none) A0 := hC
  have hx := hC.1
  have hb := hC.2.1
  have hl : lv_has ls 1 [(0, .ref (a 8))] := hl
  have hP : va_P (rf_D E) vwCl (cX E a P (rf_upL I [(16, h_first), (17, h_count)]) J A B) s.heap := by
    rw [rf_self (f := I) [(16, h_first), (17, h_count)] (rf_fa1 e_h_first (rf_fa1 e_h_count rf_fa0))]
    exact hP
  refine lv_aload_n hx hb dX8_clear_0 rfl (lv_at hl 0 rfl) ?_
  refine lv_iconst (v := 0) hx hb dX8_clear_1 (by decide) ?_
  refine pX_acts_first hC hD hP hS tw_317 dX8_clear_2 (rf_upL I [(16, 0), (17, h_count)]) (rf_put rfl) (fun H locs hP hS => ?_)
  refine lv_aload_n hx hb dX8_clear_5 rfl (lv_at hl 0 rfl) ?_
  refine lv_iconst (v := 0) hx hb dX8_clear_6 (by decide) ?_
  refine pX_acts_count hC hD hP hS tw_318 dX8_clear_7 (rf_upL I [(16, 0), (17, 0)]) (rf_put rfl) (fun H locs hP hS => ?_)
  obtain rfl := Option.some.inj hf
  exact rf_retv hC hP hS rfl dX8_clear_10
set_option maxHeartbeats 4000000 in
set_option maxRecDepth 100000 in
theorem c_X8_clear_images (l : Launch) (E : rf_E) (a P : Nat → Nat) (I : Nat → Int32) (J : Nat → Int64) (A : Nat → Nat → Int32) (B : Nat → Nat → Int64) (h_first : Int32) (h_count : Int32) {z : Int32 × Int32} (e_h_first : I 19 = h_first) (e_h_count : I 20 = h_count) (hf : f_X8_clear_images h_first h_count = some z) : rf_MV l yX8_clear cX8_clear 1 ({ frames := 0, cells := 0, slots := 0, locals := 0 }) E [.ref (a 9)] (cX E a P I J A B) (cX E a P (rf_upL I [(19, z.1), (20, z.2)]) J A B) := by
  unfold f_X8_clear_images at hf
  refine rf_ofV (by decide) (Nat.le_of_ble_eq_true rfl) ?_
  intro p e s m below meth c A0 ls hC hD hP hS hl
  have hC : rf_C p E s m _ meth c cX8_clear 1 RX8 (none) A0 := hC
  have hx := hC.1
  have hb := hC.2.1
  have hl : lv_has ls 1 [(0, .ref (a 9))] := hl
  have hP : va_P (rf_D E) vwCl (cX E a P (rf_upL I [(19, h_first), (20, h_count)]) J A B) s.heap := by
    rw [rf_self (f := I) [(19, h_first), (20, h_count)] (rf_fa1 e_h_first (rf_fa1 e_h_count rf_fa0))]
    exact hP
  refine lv_aload_n hx hb dX8_clear_0 rfl (lv_at hl 0 rfl) ?_
  refine lv_iconst (v := 0) hx hb dX8_clear_1 (by decide) ?_
  refine pX_images_first hC hD hP hS tw_317 dX8_clear_2 (rf_upL I [(19, 0), (20, h_count)]) (rf_put rfl) (fun H locs hP hS => ?_)
  refine lv_aload_n hx hb dX8_clear_5 rfl (lv_at hl 0 rfl) ?_
  refine lv_iconst (v := 0) hx hb dX8_clear_6 (by decide) ?_
  refine pX_images_count hC hD hP hS tw_318 dX8_clear_7 (rf_upL I [(19, 0), (20, 0)]) (rf_put rfl) (fun H locs hP hS => ?_)
  obtain rfl := Option.some.inj hf
  exact rf_retv hC hP hS rfl dX8_clear_10
set_option maxHeartbeats 4000000 in
set_option maxRecDepth 100000 in
theorem w_X9_common_td_128 {l : Launch} {p : Program} {e : Env} {s : State} {m : MethodId} {args : Array Value} {below : List Frame} {meth : Method} {c : Code} {A0 : Nat → Prop} {E : rf_E} {a P : Nat → Nat} {I : Nat → Int32} {J : Nat → Int64} {A : Nat → Nat → Int32} {B : Nat → Nat → Int64} {t_wordNames : Nat → Int64} {t_sounds : Nat → Int64} {t_alikes : Nat → Int32} {z : Int32} (hC : rf_C p E s m args meth c cX9_common 11 RX9 (some .int) A0) (hD : va_D A0 (cX E a P I J A B)) (e_t_wordNames : B 3 = t_wordNames) (e_t_sounds : B 4 = t_sounds) (e_t_alikes : A 27 = t_alikes) :
    ∀ (v8 : Int32), f_X9_common_128 t_wordNames t_sounds t_alikes v8 = some z → ∀ (H : Heap) (locs : List Loc) (ls : Array Slot), va_P (rf_D E) vwCl (cX E a P I J A B) H → va_S A0 s.heap H locs → lv_has ls 11 [(8, .int v8)] → W p l e ({ frames := 2, cells := 0, slots := 0, locals := 43 }) s m args below meth c H locs 0 0 (rf_QI below args s E A0 z (cX E a P I J A B)) (F0 m 128 ls []) := by
  have hx := hC.1
  have hb := hC.2.1
  intro v8 hf H locs ls hP hS hl
  unfold f_X9_common_128 at hf
  refine lv_iload hx hb dX9_common_128 (lv_at hl 0 rfl) ?_
  obtain rfl := Option.some.inj hf
  exact rf_reti hC hP hS rfl rfl dX9_common_130
set_option maxHeartbeats 4000000 in
set_option maxRecDepth 100000 in
theorem w_X9_common_td_110 {l : Launch} {p : Program} {e : Env} {s : State} {m : MethodId} {args : Array Value} {below : List Frame} {meth : Method} {c : Code} {A0 : Nat → Prop} {E : rf_E} {a P : Nat → Nat} {I : Nat → Int32} {J : Nat → Int64} {A : Nat → Nat → Int32} {B : Nat → Nat → Int64} {t_wordNames : Nat → Int64} {t_sounds : Nat → Int64} {t_alikes : Nat → Int32} {z : Int32} (hC : rf_C p E s m args meth c cX9_common 11 RX9 (some .int) A0) (hD : va_D A0 (cX E a P I J A B)) (e_t_wordNames : B 3 = t_wordNames) (e_t_sounds : B 4 = t_sounds) (e_t_alikes : A 27 = t_alikes) {k45 : Int32 → Int64 → Int64 → Int32 → Option (Int32)} (hk45 : ∀ (v1 : Int32) (v4 : Int64) (v6 : Int64) (v8 : Int32), k45 v1 v4 v6 v8 = some z → ∀ (H : Heap) (locs : List Loc) (ls : Array Slot), va_P (rf_D E) vwCl (cX E a P I J A B) H → va_S A0 s.heap H locs → lv_has ls 11 [(0, .ref (a 11)), (1, .int v1), (4, .long v4), (6, .long v6), (8, .int v8)] → W p l e ({ frames := 2, cells := 0, slots := 0, locals := 43 }) s m args below meth c H locs 0 0 (rf_QI below args s E A0 z (cX E a P I J A B)) (F0 m 45 ls [])) :
    ∀ (v1 : Int32) (v4 : Int64) (v6 : Int64) (v8 : Int32), f_X9_common_110 k45 t_wordNames t_sounds t_alikes v1 v4 v6 v8 = some z → ∀ (H : Heap) (locs : List Loc) (ls : Array Slot), va_P (rf_D E) vwCl (cX E a P I J A B) H → va_S A0 s.heap H locs → lv_has ls 11 [(0, .ref (a 11)), (1, .int v1), (4, .long v4), (6, .long v6), (8, .int v8)] → W p l e ({ frames := 2, cells := 0, slots := 0, locals := 43 }) s m args below meth c H locs 0 0 (rf_QI below args s E A0 z (cX E a P I J A B)) (F0 m 110 ls []) := by
  have hx := hC.1
  have hb := hC.2.1
  intro v1 v4 v6 v8 hf H locs ls hP hS hl
  unfold f_X9_common_110 at hf
  refine lv_lload hx hb dX9_common_110 (lv_at hl 2 rfl) ?_
  refine lv_iconst (v := 5) hx hb dX9_common_112 (by decide) ?_
  refine lv_lushr hx hb dX9_common_113 rfl ?_
  refine lv_lstore (lv' := [(4, .long ((Int64.toUInt64 v4 >>> ((Int32.toInt64 5).toUInt64 &&& Int64.toUInt64 63)).toInt64)), (0, .ref (a 11)), (1, .int v1), (6, .long v6), (8, .int v8)]) hx hb dX9_common_114 hl (by decide) rfl (fun ls hl => ?_)
  refine lv_lload hx hb dX9_common_116 (lv_at hl 3 rfl) ?_
  refine lv_iconst (v := 5) hx hb dX9_common_118 (by decide) ?_
  refine lv_lushr hx hb dX9_common_119 rfl ?_
  refine lv_lstore (lv' := [(6, .long ((Int64.toUInt64 v6 >>> ((Int32.toInt64 5).toUInt64 &&& Int64.toUInt64 63)).toInt64)), (4, .long ((Int64.toUInt64 v4 >>> ((Int32.toInt64 5).toUInt64 &&& Int64.toUInt64 63)).toInt64)), (0, .ref (a 11)), (1, .int v1), (8, .int v8)]) hx hb dX9_common_120 hl (by decide) rfl (fun ls hl => ?_)
  refine lv_iinc (v := v8 + 1) (lv' := [(8, .int (v8 + 1)), (6, .long ((Int64.toUInt64 v6 >>> ((Int32.toInt64 5).toUInt64 &&& Int64.toUInt64 63)).toInt64)), (4, .long ((Int64.toUInt64 v4 >>> ((Int32.toInt64 5).toUInt64 &&& Int64.toUInt64 63)).toInt64)), (0, .ref (a 11)), (1, .int v1)]) hx hb dX9_common_122 hl (k := 4) rfl rfl (by decide) rfl (fun ls hl => ?_)
  refine lv_goto (tgt := 45) hx hb dX9_common_125 (by decide) ?_
  exact hk45 v1 ((Int64.toUInt64 v4 >>> ((Int32.toInt64 5).toUInt64 &&& Int64.toUInt64 63)).toInt64) ((Int64.toUInt64 v6 >>> ((Int32.toInt64 5).toUInt64 &&& Int64.toUInt64 63)).toInt64) (v8 + 1) hf _ _ _ hP hS (lv_sub hl [3, 4, 2, 1, 0] rfl)
set_option maxHeartbeats 4000000 in
set_option maxRecDepth 100000 in
theorem w_X9_common_td_107 {l : Launch} {p : Program} {e : Env} {s : State} {m : MethodId} {args : Array Value} {below : List Frame} {meth : Method} {c : Code} {A0 : Nat → Prop} {E : rf_E} {a P : Nat → Nat} {I : Nat → Int32} {J : Nat → Int64} {A : Nat → Nat → Int32} {B : Nat → Nat → Int64} {t_wordNames : Nat → Int64} {t_sounds : Nat → Int64} {t_alikes : Nat → Int32} {z : Int32} (hC : rf_C p E s m args meth c cX9_common 11 RX9 (some .int) A0) (hD : va_D A0 (cX E a P I J A B)) (e_t_wordNames : B 3 = t_wordNames) (e_t_sounds : B 4 = t_sounds) (e_t_alikes : A 27 = t_alikes) :
    ∀ (v8 : Int32), f_X9_common_107 t_wordNames t_sounds t_alikes v8 = some z → ∀ (H : Heap) (locs : List Loc) (ls : Array Slot), va_P (rf_D E) vwCl (cX E a P I J A B) H → va_S A0 s.heap H locs → lv_has ls 11 [(8, .int v8)] → W p l e ({ frames := 2, cells := 0, slots := 0, locals := 43 }) s m args below meth c H locs 0 0 (rf_QI below args s E A0 z (cX E a P I J A B)) (F0 m 107 ls []) := by
  have hx := hC.1
  have hb := hC.2.1
  intro v8 hf H locs ls hP hS hl
  unfold f_X9_common_107 at hf
  refine lv_iload hx hb dX9_common_107 (lv_at hl 0 rfl) ?_
  obtain rfl := Option.some.inj hf
  exact rf_reti hC hP hS rfl rfl dX9_common_109
set_option maxHeartbeats 4000000 in
set_option maxRecDepth 100000 in
theorem w_X9_common_td_45 {l : Launch} {p : Program} {e : Env} {s : State} {m : MethodId} {args : Array Value} {below : List Frame} {meth : Method} {c : Code} {A0 : Nat → Prop} {E : rf_E} {a P : Nat → Nat} {I : Nat → Int32} {J : Nat → Int64} {A : Nat → Nat → Int32} {B : Nat → Nat → Int64} {t_wordNames : Nat → Int64} {t_sounds : Nat → Int64} {t_alikes : Nat → Int32} {z : Int32} (hC : rf_C p E s m args meth c cX9_common 11 RX9 (some .int) A0) (hD : va_D A0 (cX E a P I J A B)) (e_t_wordNames : B 3 = t_wordNames) (e_t_sounds : B 4 = t_sounds) (e_t_alikes : A 27 = t_alikes) :
    ∀ (n : Nat), ∀ (v1 : Int32) (v4 : Int64) (v6 : Int64) (v8 : Int32), f_X9_common_45 t_wordNames t_sounds t_alikes n v1 v4 v6 v8 = some z → ∀ (H : Heap) (locs : List Loc) (ls : Array Slot), va_P (rf_D E) vwCl (cX E a P I J A B) H → va_S A0 s.heap H locs → lv_has ls 11 [(0, .ref (a 11)), (1, .int v1), (4, .long v4), (6, .long v6), (8, .int v8)] → W p l e ({ frames := 2, cells := 0, slots := 0, locals := 43 }) s m args below meth c H locs 0 0 (rf_QI below args s E A0 z (cX E a P I J A B)) (F0 m 45 ls []) := by
  have hx := hC.1
  have hb := hC.2.1
  intro n
  induction n with
  | zero =>
    intro v1 v4 v6 v8 hf
    have hf : (none : Option (Int32)) = some z := hf
    cases hf
  | succ n ih =>
    intro v1 v4 v6 v8 hf H locs ls hP hS hl
    rw [f_X9_common_45] at hf
    refine lv_iload hx hb dX9_common_45 (lv_at hl 4 rfl) ?_
    refine lv_bipush (v := 8) hx hb dX9_common_47 (by decide) ?_
    refine lv_icmp_ge (tgt := 128) hx hb dX9_common_49 (by decide) (fun c_49 => ?_) (fun c_49 => ?_)
    · have hf := rf_it c_49 hf
      exact w_X9_common_td_128 hC hD e_t_wordNames e_t_sounds e_t_alikes v8 hf _ _ _ hP hS (lv_sub hl [4] rfl)
    have hf := rf_ie c_49 hf
    refine lv_lload hx hb dX9_common_52 (lv_at hl 2 rfl) ?_
    refine lv_lconst (v := 0) hx hb dX9_common_54 (by decide) ?_
    refine W.lcmp hx hb dX9_common_55 ?_
    refine lv_if_eq (tgt := 128) hx hb dX9_common_56 (by decide) (fun c_56 => ?_) (fun c_56 => ?_)
    · have hf := rf_it c_56 hf
      exact w_X9_common_td_128 hC hD e_t_wordNames e_t_sounds e_t_alikes v8 hf _ _ _ hP hS (lv_sub hl [4] rfl)
    have hf := rf_ie c_56 hf
    refine lv_lload hx hb dX9_common_59 (lv_at hl 3 rfl) ?_
    refine lv_lconst (v := 0) hx hb dX9_common_61 (by decide) ?_
    refine W.lcmp hx hb dX9_common_62 ?_
    refine lv_if_eq (tgt := 128) hx hb dX9_common_63 (by decide) (fun c_63 => ?_) (fun c_63 => ?_)
    · have hf := rf_it c_63 hf
      exact w_X9_common_td_128 hC hD e_t_wordNames e_t_sounds e_t_alikes v8 hf _ _ _ hP hS (lv_sub hl [4] rfl)
    have hf := rf_ie c_63 hf
    refine lv_lload hx hb dX9_common_66 (lv_at hl 2 rfl) ?_
    refine lv_ldc2 hx hb hC.2.2.2.1 (hC.2.2.2.2.1 _ tw_695) dX9_common_68 ?_
    refine lv_land hx hb dX9_common_71 ?_
    refine lv_l2i hx hb dX9_common_72 rfl ?_
    refine lv_istore (lv' := [(9, .int (Int64.toInt32 (v4 &&& 31))), (0, .ref (a 11)), (1, .int v1), (4, .long v4), (6, .long v6), (8, .int v8)]) hx hb dX9_common_73 hl (by decide) rfl (fun ls hl => ?_)
    refine lv_lload hx hb dX9_common_75 (lv_at hl 4 rfl) ?_
    refine lv_ldc2 hx hb hC.2.2.2.1 (hC.2.2.2.2.1 _ tw_695) dX9_common_77 ?_
    refine lv_land hx hb dX9_common_80 ?_
    refine lv_l2i hx hb dX9_common_81 rfl ?_
    refine lv_istore (lv' := [(10, .int (Int64.toInt32 (v6 &&& 31))), (9, .int (Int64.toInt32 (v4 &&& 31))), (0, .ref (a 11)), (1, .int v1), (4, .long v4), (6, .long v6), (8, .int v8)]) hx hb dX9_common_82 hl (by decide) rfl (fun ls hl => ?_)
    refine lv_iload hx hb dX9_common_84 (lv_at hl 1 rfl) ?_
    refine lv_iload hx hb dX9_common_86 (lv_at hl 0 rfl) ?_
    refine lv_icmp_eq (tgt := 110) hx hb dX9_common_88 (by decide) (fun c_88 => ?_) (fun c_88 => ?_)
    · have hf := rf_it c_88 hf
      exact w_X9_common_td_110 hC hD e_t_wordNames e_t_sounds e_t_alikes ih v1 v4 v6 v8 hf _ _ _ hP hS (lv_sub hl [2, 3, 4, 5, 6] rfl)
    have hf := rf_ie c_88 hf
    refine lv_iload_n hx hb dX9_common_91 rfl (lv_at hl 3 rfl) ?_
    refine lv_iconst (v := 1) hx hb dX9_common_92 (by decide) ?_
    refine lv_icmp_eq (tgt := 107) hx hb dX9_common_93 (by decide) (fun c_93 => ?_) (fun c_93 => ?_)
    · have hf := rf_it c_93 hf
      exact w_X9_common_td_107 hC hD e_t_wordNames e_t_sounds e_t_alikes v8 hf _ _ _ hP hS (lv_sub hl [6] rfl)
    have hf := rf_ie c_93 hf
    refine lv_aload_n hx hb dX9_common_96 rfl (lv_at hl 2 rfl) ?_
    refine lv_iload hx hb dX9_common_97 (lv_at hl 1 rfl) ?_
    refine lv_iload hx hb dX9_common_99 (lv_at hl 0 rfl) ?_
    obtain ⟨z101, hz101, hf⟩ := rf_bd hf
    refine rf_vi (q0 := 11) (ci := 9) hC (c_X9_isAlike_td l E a P I J A B t_alikes (Int64.toInt32 (v4 &&& 31)) (Int64.toInt32 (v6 &&& 31)) e_t_alikes hz101) kV_X9_isAlike tw_696 ⟨Nat.le_of_ble_eq_true rfl, Nat.le_of_ble_eq_true rfl⟩ rfl rfl rfl rfl rfl hP (rf_DX hD) hS rfl hl.1 (rest := []) rfl (Nat.le_of_ble_eq_true rfl) dX9_common_101 (fun H locs hP hS => ?_)
    refine lv_if_ne (tgt := 110) hx hb dX9_common_104 (by decide) (fun c_104 => ?_) (fun c_104 => ?_)
    · have hf := rf_ie c_104 hf
      exact w_X9_common_td_110 hC hD e_t_wordNames e_t_sounds e_t_alikes ih v1 v4 v6 v8 hf _ _ _ hP hS (lv_sub hl [2, 3, 4, 5, 6] rfl)
    have hf := rf_it c_104 hf
    exact w_X9_common_td_107 hC hD e_t_wordNames e_t_sounds e_t_alikes v8 hf _ _ _ hP hS (lv_sub hl [6] rfl)
set_option maxHeartbeats 4000000 in
set_option maxRecDepth 100000 in
theorem w_X9_common_td_40 {l : Launch} {p : Program} {e : Env} {s : State} {m : MethodId} {args : Array Value} {below : List Frame} {meth : Method} {c : Code} {A0 : Nat → Prop} {E : rf_E} {a P : Nat → Nat} {I : Nat → Int32} {J : Nat → Int64} {A : Nat → Nat → Int32} {B : Nat → Nat → Int64} {t_wordNames : Nat → Int64} {t_sounds : Nat → Int64} {t_alikes : Nat → Int32} {z : Int32} (hC : rf_C p E s m args meth c cX9_common 11 RX9 (some .int) A0) (hD : va_D A0 (cX E a P I J A B)) (e_t_wordNames : B 3 = t_wordNames) (e_t_sounds : B 4 = t_sounds) (e_t_alikes : A 27 = t_alikes) :
    ∀ (v1 : Int32) (v4 : Int64) (s0 : Int64), f_X9_common_40 t_wordNames t_sounds t_alikes v1 v4 s0 = some z → ∀ (H : Heap) (locs : List Loc) (ls : Array Slot), va_P (rf_D E) vwCl (cX E a P I J A B) H → va_S A0 s.heap H locs → lv_has ls 11 [(0, .ref (a 11)), (1, .int v1), (4, .long v4)] → W p l e ({ frames := 2, cells := 0, slots := 0, locals := 43 }) s m args below meth c H locs 0 0 (rf_QI below args s E A0 z (cX E a P I J A B)) (F0 m 40 ls [.long s0]) := by
  have hx := hC.1
  have hb := hC.2.1
  intro v1 v4 s0 hf H locs ls hP hS hl
  unfold f_X9_common_40 at hf
  refine lv_lstore (lv' := [(6, .long s0), (0, .ref (a 11)), (1, .int v1), (4, .long v4)]) hx hb dX9_common_40 hl (by decide) rfl (fun ls hl => ?_)
  refine lv_iconst (v := 0) hx hb dX9_common_42 (by decide) ?_
  refine lv_istore (lv' := [(8, .int 0), (6, .long s0), (0, .ref (a 11)), (1, .int v1), (4, .long v4)]) hx hb dX9_common_43 hl (by decide) rfl (fun ls hl => ?_)
  exact w_X9_common_td_45 hC hD e_t_wordNames e_t_sounds e_t_alikes rf_fu v1 v4 s0 0 hf _ _ _ hP hS (lv_sub hl [2, 3, 4, 1, 0] rfl)
set_option maxHeartbeats 4000000 in
set_option maxRecDepth 100000 in
theorem w_X9_common_td_19 {l : Launch} {p : Program} {e : Env} {s : State} {m : MethodId} {args : Array Value} {below : List Frame} {meth : Method} {c : Code} {A0 : Nat → Prop} {E : rf_E} {a P : Nat → Nat} {I : Nat → Int32} {J : Nat → Int64} {A : Nat → Nat → Int32} {B : Nat → Nat → Int64} {t_wordNames : Nat → Int64} {t_sounds : Nat → Int64} {t_alikes : Nat → Int32} {z : Int32} (hC : rf_C p E s m args meth c cX9_common 11 RX9 (some .int) A0) (hD : va_D A0 (cX E a P I J A B)) (e_t_wordNames : B 3 = t_wordNames) (e_t_sounds : B 4 = t_sounds) (e_t_alikes : A 27 = t_alikes) :
    ∀ (v1 : Int32) (v3 : Int32) (s0 : Int64), f_X9_common_19 t_wordNames t_sounds t_alikes v1 v3 s0 = some z → ∀ (H : Heap) (locs : List Loc) (ls : Array Slot), va_P (rf_D E) vwCl (cX E a P I J A B) H → va_S A0 s.heap H locs → lv_has ls 11 [(0, .ref (a 11)), (1, .int v1), (3, .int v3)] → W p l e ({ frames := 2, cells := 0, slots := 0, locals := 43 }) s m args below meth c H locs 0 0 (rf_QI below args s E A0 z (cX E a P I J A B)) (F0 m 19 ls [.long s0]) := by
  have hx := hC.1
  have hb := hC.2.1
  intro v1 v3 s0 hf H locs ls hP hS hl
  unfold f_X9_common_19 at hf
  refine lv_lstore (lv' := [(4, .long s0), (0, .ref (a 11)), (1, .int v1), (3, .int v3)]) hx hb dX9_common_19 hl (by decide) rfl (fun ls hl => ?_)
  refine lv_iload_n hx hb dX9_common_21 rfl (lv_at hl 2 rfl) ?_
  refine lv_if_ne (tgt := 34) hx hb dX9_common_22 (by decide) (fun c_22 => ?_) (fun c_22 => ?_)
  · have hf := rf_ie c_22 hf
    refine lv_aload_n hx hb dX9_common_34 rfl (lv_at hl 1 rfl) ?_
    refine gX_td_wordNames hC hP tw_84 dX9_common_35 ?_
    refine lv_iload_n hx hb dX9_common_38 rfl (lv_at hl 3 rfl) ?_
    obtain ⟨hi_39, hf⟩ := rf_gu hf
    refine lX_td_wordNames hC hP hi_39 (f := t_wordNames) e_t_wordNames dX9_common_39 ?_
    exact w_X9_common_td_40 hC hD e_t_wordNames e_t_sounds e_t_alikes v1 s0 (t_wordNames (Int32.toNatClampNeg v3)) hf _ _ _ hP hS (lv_sub hl [1, 2, 0] rfl)
  have hf := rf_it c_22 hf
  refine lv_aload_n hx hb dX9_common_25 rfl (lv_at hl 1 rfl) ?_
  refine gX_td_sounds hC hP tw_85 dX9_common_26 ?_
  refine lv_iload_n hx hb dX9_common_29 rfl (lv_at hl 3 rfl) ?_
  obtain ⟨hi_30, hf⟩ := rf_gu hf
  refine lX_td_sounds hC hP hi_30 (f := t_sounds) e_t_sounds dX9_common_30 ?_
  refine lv_goto (tgt := 40) hx hb dX9_common_31 (by decide) ?_
  exact w_X9_common_td_40 hC hD e_t_wordNames e_t_sounds e_t_alikes v1 s0 (t_sounds (Int32.toNatClampNeg v3)) hf _ _ _ hP hS (lv_sub hl [1, 2, 0] rfl)
set_option maxHeartbeats 4000000 in
set_option maxRecDepth 100000 in
theorem c_X9_common_td (l : Launch) (E : rf_E) (a P : Nat → Nat) (I : Nat → Int32) (J : Nat → Int64) (A : Nat → Nat → Int32) (B : Nat → Nat → Int64) (t_wordNames : Nat → Int64) (t_sounds : Nat → Int64) (t_alikes : Nat → Int32) (v1 : Int32) (v2 : Int32) (v3 : Int32) {z : Int32} (e_t_wordNames : B 3 = t_wordNames) (e_t_sounds : B 4 = t_sounds) (e_t_alikes : A 27 = t_alikes) (hf : f_X9_common t_wordNames t_sounds t_alikes v1 v2 v3 = some z) : rf_MI l yX9_common cX9_common 11 (some .int) ({ frames := 2, cells := 0, slots := 0, locals := 43 }) E [.ref (a 11), .int v1, .int v2, .int v3] (cX E a P I J A B) z (cX E a P I J A B) := by
  unfold f_X9_common at hf
  refine rf_ofI (by decide) (Nat.le_of_ble_eq_true rfl) ?_
  intro p e s m below meth c A0 ls hC hD hP hS hl
  have hC : rf_C p E s m _ meth c cX9_common 11 RX9 (some .int) A0 := hC
  have hx := hC.1
  have hb := hC.2.1
  have hl : lv_has ls 11 [(0, .ref (a 11)), (1, .int v1), (2, .int v2), (3, .int v3)] := hl
  refine lv_iload_n hx hb dX9_common_0 rfl (lv_at hl 1 rfl) ?_
  refine lv_if_ne (tgt := 13) hx hb dX9_common_1 (by decide) (fun c_1 => ?_) (fun c_1 => ?_)
  · have hf := rf_ie c_1 hf
    refine lv_aload_n hx hb dX9_common_13 rfl (lv_at hl 0 rfl) ?_
    refine gX_td_wordNames hC hP tw_84 dX9_common_14 ?_
    refine lv_iload_n hx hb dX9_common_17 rfl (lv_at hl 2 rfl) ?_
    obtain ⟨hi_18, hf⟩ := rf_gu hf
    refine lX_td_wordNames hC hP hi_18 (f := t_wordNames) e_t_wordNames dX9_common_18 ?_
    exact w_X9_common_td_19 hC hD e_t_wordNames e_t_sounds e_t_alikes v1 v3 (t_wordNames (Int32.toNatClampNeg v2)) hf _ _ _ hP hS (lv_sub hl [0, 1, 3] rfl)
  have hf := rf_it c_1 hf
  refine lv_aload_n hx hb dX9_common_4 rfl (lv_at hl 0 rfl) ?_
  refine gX_td_sounds hC hP tw_85 dX9_common_5 ?_
  refine lv_iload_n hx hb dX9_common_8 rfl (lv_at hl 2 rfl) ?_
  obtain ⟨hi_9, hf⟩ := rf_gu hf
  refine lX_td_sounds hC hP hi_9 (f := t_sounds) e_t_sounds dX9_common_9 ?_
  refine lv_goto (tgt := 19) hx hb dX9_common_10 (by decide) ?_
  exact w_X9_common_td_19 hC hD e_t_wordNames e_t_sounds e_t_alikes v1 v3 (t_sounds (Int32.toNatClampNeg v2)) hf _ _ _ hP hS (lv_sub hl [0, 1, 3] rfl)
set_option maxHeartbeats 4000000 in
set_option maxRecDepth 100000 in
theorem w_X9_noteCommon_td_12 {l : Launch} {p : Program} {e : Env} {s : State} {m : MethodId} {args : Array Value} {below : List Frame} {meth : Method} {c : Code} {A0 : Nat → Prop} {E : rf_E} {a P : Nat → Nat} {I : Nat → Int32} {J : Nat → Int64} {A : Nat → Nat → Int32} {B : Nat → Nat → Int64} {t_wordNames : Nat → Int64} {t_sounds : Nat → Int64} {t_alikes : Nat → Int32} {z : (Nat → Int32)} (hC : rf_C p E s m args meth c cX9_noteCommon 6 RX9 (none) A0) (hD : va_D A0 (cX E a P I J A B)) (e_t_wordNames : B 3 = t_wordNames) (e_t_sounds : B 4 = t_sounds) (e_t_alikes : A 27 = t_alikes) :
    ∀ (n : Nat), ∀ (v1 : Int32) (v2 : Int32) (v3 : Int32) (v4 : Int32) (v5 : Int32) (t_close : Nat → Int32), f_X9_noteCommon_12 t_wordNames t_sounds t_alikes n v1 v2 v3 v4 v5 t_close = some z → ∀ (H : Heap) (locs : List Loc) (ls : Array Slot), va_P (rf_D E) vwCl (cX E a P I J (rf_upL A [(32, t_close)]) B) H → va_S A0 s.heap H locs → lv_has ls 6 [(0, .ref (a 11)), (1, .int v1), (2, .int v2), (3, .int v3), (4, .int v4), (5, .int v5)] → W p l e ({ frames := 3, cells := 0, slots := 0, locals := 73 }) s m args below meth c H locs 0 0 (rf_QV below args s E A0 (cX E a P I J (rf_upL A [(32, z)]) B)) (F0 m 12 ls []) := by
  have hx := hC.1
  have hb := hC.2.1
  intro n
  induction n with
  | zero =>
    intro v1 v2 v3 v4 v5 t_close hf
    have hf : (none : Option ((Nat → Int32))) = some z := hf
    cases hf
  | succ n ih =>
    intro v1 v2 v3 v4 v5 t_close hf H locs ls hP hS hl
    rw [f_X9_noteCommon_12] at hf
    refine lv_iload hx hb dX9_noteCommon_12 (lv_at hl 5 rfl) ?_
    refine lv_iload hx hb dX9_noteCommon_14 (lv_at hl 4 rfl) ?_
    refine lv_icmp_gt (tgt := 55) hx hb dX9_noteCommon_16 (by decide) (fun c_16 => ?_) (fun c_16 => ?_)
    · have hf := rf_it c_16 hf
      obtain rfl := Option.some.inj hf
      exact rf_retv hC hP hS rfl dX9_noteCommon_55
    have hf := rf_ie c_16 hf
    refine lv_iload hx hb dX9_noteCommon_19 (lv_at hl 5 rfl) ?_
    refine lv_bipush (v := 7) hx hb dX9_noteCommon_21 (by decide) ?_
    refine lv_icmp_gt (tgt := 55) hx hb dX9_noteCommon_23 (by decide) (fun c_23 => ?_) (fun c_23 => ?_)
    · have hf := rf_it c_23 hf
      obtain rfl := Option.some.inj hf
      exact rf_retv hC hP hS rfl dX9_noteCommon_55
    have hf := rf_ie c_23 hf
    refine lv_aload_n hx hb dX9_noteCommon_26 rfl (lv_at hl 0 rfl) ?_
    refine gX_td_close hC hP tw_112 dX9_noteCommon_27 ?_
    refine lv_iload_n hx hb dX9_noteCommon_30 rfl (lv_at hl 1 rfl) ?_
    refine lv_bipush (v := 8) hx hb dX9_noteCommon_31 (by decide) ?_
    refine lv_imul hx hb dX9_noteCommon_33 ?_
    refine lv_iload hx hb dX9_noteCommon_34 (lv_at hl 5 rfl) ?_
    refine lv_iadd hx hb dX9_noteCommon_36 ?_
    refine lv_bipush (v := 10) hx hb dX9_noteCommon_37 (by decide) ?_
    refine lv_imul hx hb dX9_noteCommon_39 ?_
    refine lv_iload_n hx hb dX9_noteCommon_40 rfl (lv_at hl 2 rfl) ?_
    refine lv_iadd hx hb dX9_noteCommon_41 ?_
    refine lv_dup2_11 hx hb dX9_noteCommon_42 rfl rfl ?_
    obtain ⟨hi_43, hf⟩ := rf_gu hf
    refine lX_td_close hC hP hi_43 (f := t_close) rfl dX9_noteCommon_43 ?_
    refine lv_iconst (v := 1) hx hb dX9_noteCommon_44 (by decide) ?_
    refine lv_iload_n hx hb dX9_noteCommon_45 rfl (lv_at hl 3 rfl) ?_
    refine lv_ishl hx hb dX9_noteCommon_46 ?_
    refine lv_ior hx hb dX9_noteCommon_47 ?_
    obtain ⟨hi_48, hf⟩ := rf_gu hf
    refine sX_td_close hC hD hP hS hi_48 (f := t_close) rfl dX9_noteCommon_48 (rf_upL A [(32, upd t_close (Int32.toNatClampNeg ((((v1 * 8) + v5) * 10) + v2)) ((t_close (Int32.toNatClampNeg ((((v1 * 8) + v5) * 10) + v2))) ||| ((1 : Int32) <<< (v3 &&& 31))))]) (rf_put rfl) (fun H locs hP hS => ?_)
    refine lv_iinc (v := v5 + 1) (lv' := [(5, .int (v5 + 1)), (0, .ref (a 11)), (1, .int v1), (2, .int v2), (3, .int v3), (4, .int v4)]) hx hb dX9_noteCommon_49 hl (k := 5) rfl rfl (by decide) rfl (fun ls hl => ?_)
    refine lv_goto (tgt := 12) hx hb dX9_noteCommon_52 (by decide) ?_
    exact ih v1 v2 v3 v4 (v5 + 1) (upd t_close (Int32.toNatClampNeg ((((v1 * 8) + v5) * 10) + v2)) ((t_close (Int32.toNatClampNeg ((((v1 * 8) + v5) * 10) + v2))) ||| ((1 : Int32) <<< (v3 &&& 31)))) hf _ _ _ hP hS (lv_sub hl [1, 2, 3, 4, 5, 0] rfl)
set_option maxHeartbeats 4000000 in
set_option maxRecDepth 100000 in
theorem c_X9_noteCommon_td (l : Launch) (E : rf_E) (a P : Nat → Nat) (I : Nat → Int32) (J : Nat → Int64) (A : Nat → Nat → Int32) (B : Nat → Nat → Int64) (t_wordNames : Nat → Int64) (t_sounds : Nat → Int64) (t_alikes : Nat → Int32) (t_close : Nat → Int32) (v1 : Int32) (v2 : Int32) (v3 : Int32) {z : (Nat → Int32)} (e_t_wordNames : B 3 = t_wordNames) (e_t_sounds : B 4 = t_sounds) (e_t_alikes : A 27 = t_alikes) (e_t_close : A 32 = t_close) (hf : f_X9_noteCommon t_wordNames t_sounds t_alikes t_close v1 v2 v3 = some z) : rf_MV l yX9_noteCommon cX9_noteCommon 6 ({ frames := 3, cells := 0, slots := 0, locals := 73 }) E [.ref (a 11), .int v1, .int v2, .int v3] (cX E a P I J A B) (cX E a P I J (rf_upL A [(32, z)]) B) := by
  unfold f_X9_noteCommon at hf
  refine rf_ofV (by decide) (Nat.le_of_ble_eq_true rfl) ?_
  intro p e s m below meth c A0 ls hC hD hP hS hl
  have hC : rf_C p E s m _ meth c cX9_noteCommon 6 RX9 (none) A0 := hC
  have hx := hC.1
  have hb := hC.2.1
  have hl : lv_has ls 6 [(0, .ref (a 11)), (1, .int v1), (2, .int v2), (3, .int v3)] := hl
  have hP : va_P (rf_D E) vwCl (cX E a P I J (rf_upL A [(32, t_close)]) B) s.heap := by
    rw [rf_self (f := A) [(32, t_close)] (rf_fa1 e_t_close rf_fa0)]
    exact hP
  refine lv_aload_n hx hb dX9_noteCommon_0 rfl (lv_at hl 0 rfl) ?_
  refine lv_iload_n hx hb dX9_noteCommon_1 rfl (lv_at hl 1 rfl) ?_
  refine lv_iload_n hx hb dX9_noteCommon_2 rfl (lv_at hl 2 rfl) ?_
  refine lv_iload_n hx hb dX9_noteCommon_3 rfl (lv_at hl 3 rfl) ?_
  obtain ⟨z4, hz4, hf⟩ := rf_bd hf
  refine rf_vi (q0 := 11) (ci := 9) hC (c_X9_common_td l E a P I J (rf_upL A [(32, t_close)]) B t_wordNames t_sounds t_alikes v1 v2 v3 e_t_wordNames e_t_sounds e_t_alikes hz4) kV_X9_common tw_691 ⟨Nat.le_of_ble_eq_true rfl, Nat.le_of_ble_eq_true rfl⟩ rfl rfl rfl rfl rfl hP (rf_DX hD) hS rfl hl.1 (rest := []) rfl (Nat.le_of_ble_eq_true rfl) dX9_noteCommon_4 (fun H locs hP hS => ?_)
  refine lv_istore (lv' := [(4, .int z4), (0, .ref (a 11)), (1, .int v1), (2, .int v2), (3, .int v3)]) hx hb dX9_noteCommon_7 hl (by decide) rfl (fun ls hl => ?_)
  refine lv_iconst (v := 0) hx hb dX9_noteCommon_9 (by decide) ?_
  refine lv_istore (lv' := [(5, .int 0), (4, .int z4), (0, .ref (a 11)), (1, .int v1), (2, .int v2), (3, .int v3)]) hx hb dX9_noteCommon_10 hl (by decide) rfl (fun ls hl => ?_)
  exact w_X9_noteCommon_td_12 hC hD e_t_wordNames e_t_sounds e_t_alikes rf_fu v1 v2 v3 z4 0 t_close hf _ _ _ hP hS (lv_sub hl [2, 3, 4, 5, 1, 0] rfl)
