set_option maxHeartbeats 4000000 in
set_option maxRecDepth 100000 in
theorem c_X11_after (l : Launch) (E : rf_E) (a : Nat → Nat) (I : Nat → Int32) (A : Nat → Nat → Int32) (m_size : Int32) (m_tape : Nat → Int32) (m_at : Int32) (m_end : Int32) (m_token : Int32) (m_whole : Int32) (m_nameSize : Int32) (m_fault : Int32) (m_place : Int32) (m_failed : Int32) (m_letters : Nat → Int32) (v1 : Nat) (v2 : Int32) (v3 : Int32) {z : Int32 × Int32 × Int32 × Int32 × Int32 × Int32 × Int32 × Int32 × Int32 × (Nat → Int32)} (e_m_size : I 2 = m_size) (e_m_tape : A 0 = m_tape) (e_m_at : I 3 = m_at) (e_m_end : I 4 = m_end) (e_m_token : I 5 = m_token) (e_m_whole : I 6 = m_whole) (e_m_nameSize : I 7 = m_nameSize) (e_m_fault : I 8 = m_fault) (e_m_place : I 9 = m_place) (e_m_failed : I 11 = m_failed) (e_m_letters : A 1 = m_letters) (hk_v1 : v1 < 49) (hf : f_X11_after m_size m_tape m_at m_end m_token m_whole m_nameSize m_fault m_place m_failed m_letters v1 v2 v3 = some z) : rf_MI l yX11_after cX11_after 4 (some .int) ({ frames := 9, cells := 0, slots := 0, locals := 265 }) E [.ref (a 0), .ref (rf_aK E v1), .int v2, .int v3] (cM E a I A) z.1 (cM E a (rf_upL I [(3, z.2.1), (4, z.2.2.1), (5, z.2.2.2.1), (6, z.2.2.2.2.1), (7, z.2.2.2.2.2.1), (8, z.2.2.2.2.2.2.1), (9, z.2.2.2.2.2.2.2.1), (11, z.2.2.2.2.2.2.2.2.1)]) (rf_upL A [(1, z.2.2.2.2.2.2.2.2.2)])) := by
  unfold f_X11_after at hf
  refine rf_ofI (by decide) (Nat.le_of_ble_eq_true rfl) ?_
  intro p e s m below meth c A0 ls hC hD hP hS hl
  have hC : rf_C p E s m _ meth c cX11_after 4 RX11 (some .int) A0 := hC
  have hx := hC.1
  have hb := hC.2.1
  have hl : lv_has ls 4 [(0, .ref (a 0)), (1, .ref (rf_aK E v1)), (2, .int v2), (3, .int v3)] := hl
  have hP : va_P (rf_D E) vwCl (cM E a (rf_upL I [(3, m_at), (4, m_end), (5, m_token), (6, m_whole), (7, m_nameSize), (8, m_fault), (9, m_place), (11, m_failed)]) (rf_upL A [(1, m_letters)])) s.heap := by
    rw [rf_self (f := I) [(3, m_at), (4, m_end), (5, m_token), (6, m_whole), (7, m_nameSize), (8, m_fault), (9, m_place), (11, m_failed)] (rf_fa1 e_m_at (rf_fa1 e_m_end (rf_fa1 e_m_token (rf_fa1 e_m_whole (rf_fa1 e_m_nameSize (rf_fa1 e_m_fault (rf_fa1 e_m_place (rf_fa1 e_m_failed rf_fa0))))))))]
    rw [rf_self (f := A) [(1, m_letters)] (rf_fa1 e_m_letters rf_fa0)]
    exact hP
  refine lv_aload_n hx hb dX11_after_0 rfl (lv_at hl 0 rfl) ?_
  refine lv_aload_n hx hb dX11_after_1 rfl (lv_at hl 1 rfl) ?_
  obtain ⟨z2, hz2, hf⟩ := rf_bd hf
  refine rf_vv (q0 := 0) (ci := 11) hC (c_X11_must l E a (rf_upL I [(3, m_at), (4, m_end), (5, m_token), (6, m_whole), (7, m_nameSize), (8, m_fault), (9, m_place), (11, m_failed)]) (rf_upL A [(1, m_letters)]) m_size m_tape m_at m_end m_token m_whole m_nameSize m_fault m_place m_failed m_letters v1 e_m_size e_m_tape rfl rfl rfl rfl rfl rfl rfl rfl rfl hk_v1 hz2) kV_X11_must tw_1452 ⟨Nat.le_of_ble_eq_true rfl, Nat.le_of_ble_eq_true rfl⟩ rfl rfl rfl rfl rfl hP (rf_DM hD) hS rfl hl.1 (rest := []) rfl (Nat.le_of_ble_eq_true rfl) dX11_after_2 (fun H locs hP hS => ?_)
  rw [rf_cat (f := I) (l := [(3, m_at), (4, m_end), (5, m_token), (6, m_whole), (7, m_nameSize), (8, m_fault), (9, m_place), (11, m_failed)]) (lc := [(3, z2.1), (4, z2.2.1), (5, z2.2.2.1), (6, z2.2.2.2.1), (7, z2.2.2.2.2.1), (8, z2.2.2.2.2.2.1), (9, z2.2.2.2.2.2.2.1), (11, z2.2.2.2.2.2.2.2.1)]) (l' := [(3, z2.1), (4, z2.2.1), (5, z2.2.2.1), (6, z2.2.2.2.1), (7, z2.2.2.2.2.1), (8, z2.2.2.2.2.2.1), (9, z2.2.2.2.2.2.2.1), (11, z2.2.2.2.2.2.2.2.1)]) rfl] at hP
  rw [rf_cat (f := A) (l := [(1, m_letters)]) (lc := [(1, z2.2.2.2.2.2.2.2.2)]) (l' := [(1, z2.2.2.2.2.2.2.2.2)]) rfl] at hP
  refine lv_aload_n hx hb dX11_after_5 rfl (lv_at hl 0 rfl) ?_
  refine lv_iload_n hx hb dX11_after_6 rfl (lv_at hl 2 rfl) ?_
  refine lv_iload_n hx hb dX11_after_7 rfl (lv_at hl 3 rfl) ?_
  obtain ⟨z8, hz8, hf⟩ := rf_bd hf
  refine rf_vi (q0 := 0) (ci := 11) hC (c_X11_number l E a (rf_upL I [(3, z2.1), (4, z2.2.1), (5, z2.2.2.1), (6, z2.2.2.2.1), (7, z2.2.2.2.2.1), (8, z2.2.2.2.2.2.1), (9, z2.2.2.2.2.2.2.1), (11, z2.2.2.2.2.2.2.2.1)]) (rf_upL A [(1, z2.2.2.2.2.2.2.2.2)]) m_size m_tape z2.1 z2.2.1 z2.2.2.1 z2.2.2.2.1 z2.2.2.2.2.1 z2.2.2.2.2.2.1 z2.2.2.2.2.2.2.1 z2.2.2.2.2.2.2.2.1 z2.2.2.2.2.2.2.2.2 v2 v3 e_m_size e_m_tape rfl rfl rfl rfl rfl rfl rfl rfl rfl hz8) kV_X11_number tw_1460 ⟨Nat.le_of_ble_eq_true rfl, Nat.le_of_ble_eq_true rfl⟩ rfl rfl rfl rfl rfl hP (rf_DM hD) hS rfl hl.1 (rest := []) rfl (Nat.le_of_ble_eq_true rfl) dX11_after_8 (fun H locs hP hS => ?_)
  rw [rf_cat (f := I) (l := [(3, z2.1), (4, z2.2.1), (5, z2.2.2.1), (6, z2.2.2.2.1), (7, z2.2.2.2.2.1), (8, z2.2.2.2.2.2.1), (9, z2.2.2.2.2.2.2.1), (11, z2.2.2.2.2.2.2.2.1)]) (lc := [(3, z8.2.1), (4, z8.2.2.1), (5, z8.2.2.2.1), (6, z8.2.2.2.2.1), (7, z8.2.2.2.2.2.1), (8, z8.2.2.2.2.2.2.1), (9, z8.2.2.2.2.2.2.2.1), (11, z8.2.2.2.2.2.2.2.2.1)]) (l' := [(3, z8.2.1), (4, z8.2.2.1), (5, z8.2.2.2.1), (6, z8.2.2.2.2.1), (7, z8.2.2.2.2.2.1), (8, z8.2.2.2.2.2.2.1), (9, z8.2.2.2.2.2.2.2.1), (11, z8.2.2.2.2.2.2.2.2.1)]) rfl] at hP
  rw [rf_cat (f := A) (l := [(1, z2.2.2.2.2.2.2.2.2)]) (lc := [(1, z8.2.2.2.2.2.2.2.2.2)]) (l' := [(1, z8.2.2.2.2.2.2.2.2.2)]) rfl] at hP
  obtain rfl := Option.some.inj hf
  exact rf_reti hC hP hS rfl rfl dX11_after_11
set_option maxHeartbeats 4000000 in
set_option maxRecDepth 100000 in
theorem w_X11_find_94 {l : Launch} {p : Program} {e : Env} {s : State} {m : MethodId} {args : Array Value} {below : List Frame} {meth : Method} {c : Code} {A0 : Nat → Prop} {E : rf_E} {a : Nat → Nat} {I : Nat → Int32} {A : Nat → Nat → Int32} {m_nameSize : Int32} {m_letters : Nat → Int32} {m_fresh : Nat → Int32} {z : Int32} (hC : rf_C p E s m args meth c cX11_find 4 RX11 (some .int) A0) (hD : va_D A0 (cM E a I A)) (e_m_nameSize : I 7 = m_nameSize) (e_m_letters : A 1 = m_letters) (e_m_fresh : A 3 = m_fresh) {k2 : Int32 → Option (Int32)} (hk2 : ∀ (v1 : Int32), k2 v1 = some z → ∀ (H : Heap) (locs : List Loc) (ls : Array Slot), va_P (rf_D E) vwCl (cM E a I A) H → va_S A0 s.heap H locs → lv_has ls 4 [(0, .ref (a 0)), (1, .int v1)] → W p l e ({ frames := 0, cells := 0, slots := 0, locals := 0 }) s m args below meth c H locs 0 0 (rf_QI below args s E A0 z (cM E a I A)) (F0 m 2 ls [])) :
    ∀ (v1 : Int32) (v2 : Int32), f_X11_find_94 k2 m_nameSize m_letters m_fresh v1 v2 = some z → ∀ (H : Heap) (locs : List Loc) (ls : Array Slot), va_P (rf_D E) vwCl (cM E a I A) H → va_S A0 s.heap H locs → lv_has ls 4 [(0, .ref (a 0)), (1, .int v1), (2, .int v2)] → W p l e ({ frames := 0, cells := 0, slots := 0, locals := 0 }) s m args below meth c H locs 0 0 (rf_QI below args s E A0 z (cM E a I A)) (F0 m 94 ls []) := by
  have hx := hC.1
  have hb := hC.2.1
  intro v1 v2 hf H locs ls hP hS hl
  unfold f_X11_find_94 at hf
  refine lv_iload_n hx hb dX11_find_94 rfl (lv_at hl 2 rfl) ?_
  refine lv_if_eq (tgt := 100) hx hb dX11_find_95 (by decide) (fun c_95 => ?_) (fun c_95 => ?_)
  · have hf := rf_it c_95 hf
    refine lv_iinc (v := v1 + 1) (lv' := [(1, .int (v1 + 1)), (0, .ref (a 0)), (2, .int v2)]) hx hb dX11_find_100 hl (k := 1) rfl rfl (by decide) rfl (fun ls hl => ?_)
    refine lv_goto (tgt := 2) hx hb dX11_find_103 (by decide) ?_
    exact hk2 (v1 + 1) hf _ _ _ hP hS (lv_sub hl [1, 0] rfl)
  have hf := rf_ie c_95 hf
  refine lv_iload_n hx hb dX11_find_98 rfl (lv_at hl 1 rfl) ?_
  obtain rfl := Option.some.inj hf
  exact rf_reti hC hP hS rfl rfl dX11_find_99
set_option maxHeartbeats 4000000 in
set_option maxRecDepth 100000 in
theorem w_X11_find_87 {l : Launch} {p : Program} {e : Env} {s : State} {m : MethodId} {args : Array Value} {below : List Frame} {meth : Method} {c : Code} {A0 : Nat → Prop} {E : rf_E} {a : Nat → Nat} {I : Nat → Int32} {A : Nat → Nat → Int32} {m_nameSize : Int32} {m_letters : Nat → Int32} {m_fresh : Nat → Int32} {z : Int32} (hC : rf_C p E s m args meth c cX11_find 4 RX11 (some .int) A0) (hD : va_D A0 (cM E a I A)) (e_m_nameSize : I 7 = m_nameSize) (e_m_letters : A 1 = m_letters) (e_m_fresh : A 3 = m_fresh) {k2 : Int32 → Option (Int32)} (hk2 : ∀ (v1 : Int32), k2 v1 = some z → ∀ (H : Heap) (locs : List Loc) (ls : Array Slot), va_P (rf_D E) vwCl (cM E a I A) H → va_S A0 s.heap H locs → lv_has ls 4 [(0, .ref (a 0)), (1, .int v1)] → W p l e ({ frames := 0, cells := 0, slots := 0, locals := 0 }) s m args below meth c H locs 0 0 (rf_QI below args s E A0 z (cM E a I A)) (F0 m 2 ls [])) {k46 : Int32 → Int32 → Int32 → Option (Int32)} (hk46 : ∀ (v1 : Int32) (v2 : Int32) (v3 : Int32), k46 v1 v2 v3 = some z → ∀ (H : Heap) (locs : List Loc) (ls : Array Slot), va_P (rf_D E) vwCl (cM E a I A) H → va_S A0 s.heap H locs → lv_has ls 4 [(0, .ref (a 0)), (1, .int v1), (2, .int v2), (3, .int v3)] → W p l e ({ frames := 0, cells := 0, slots := 0, locals := 0 }) s m args below meth c H locs 0 0 (rf_QI below args s E A0 z (cM E a I A)) (F0 m 46 ls [])) :
    ∀ (v1 : Int32) (v3 : Int32) (s0 : Int32), f_X11_find_87 k2 k46 m_nameSize m_letters m_fresh v1 v3 s0 = some z → ∀ (H : Heap) (locs : List Loc) (ls : Array Slot), va_P (rf_D E) vwCl (cM E a I A) H → va_S A0 s.heap H locs → lv_has ls 4 [(0, .ref (a 0)), (1, .int v1), (3, .int v3)] → W p l e ({ frames := 0, cells := 0, slots := 0, locals := 0 }) s m args below meth c H locs 0 0 (rf_QI below args s E A0 z (cM E a I A)) (F0 m 87 ls [.int s0]) := by
  have hx := hC.1
  have hb := hC.2.1
  intro v1 v3 s0 hf H locs ls hP hS hl
  unfold f_X11_find_87 at hf
  refine lv_istore_n (lv' := [(2, .int s0), (0, .ref (a 0)), (1, .int v1), (3, .int v3)]) hx hb dX11_find_87 rfl hl (by decide) rfl (fun ls hl => ?_)
  refine lv_iinc (v := v3 + 1) (lv' := [(3, .int (v3 + 1)), (2, .int s0), (0, .ref (a 0)), (1, .int v1)]) hx hb dX11_find_88 hl (k := 3) rfl rfl (by decide) rfl (fun ls hl => ?_)
  refine lv_goto (tgt := 46) hx hb dX11_find_91 (by decide) ?_
  exact hk46 v1 s0 (v3 + 1) hf _ _ _ hP hS (lv_sub hl [2, 3, 1, 0] rfl)
set_option maxHeartbeats 4000000 in
set_option maxRecDepth 100000 in
theorem w_X11_find_46 {l : Launch} {p : Program} {e : Env} {s : State} {m : MethodId} {args : Array Value} {below : List Frame} {meth : Method} {c : Code} {A0 : Nat → Prop} {E : rf_E} {a : Nat → Nat} {I : Nat → Int32} {A : Nat → Nat → Int32} {m_nameSize : Int32} {m_letters : Nat → Int32} {m_fresh : Nat → Int32} {z : Int32} (hC : rf_C p E s m args meth c cX11_find 4 RX11 (some .int) A0) (hD : va_D A0 (cM E a I A)) (e_m_nameSize : I 7 = m_nameSize) (e_m_letters : A 1 = m_letters) (e_m_fresh : A 3 = m_fresh) {k2 : Int32 → Option (Int32)} (hk2 : ∀ (v1 : Int32), k2 v1 = some z → ∀ (H : Heap) (locs : List Loc) (ls : Array Slot), va_P (rf_D E) vwCl (cM E a I A) H → va_S A0 s.heap H locs → lv_has ls 4 [(0, .ref (a 0)), (1, .int v1)] → W p l e ({ frames := 0, cells := 0, slots := 0, locals := 0 }) s m args below meth c H locs 0 0 (rf_QI below args s E A0 z (cM E a I A)) (F0 m 2 ls [])) :
    ∀ (n : Nat), ∀ (v1 : Int32) (v2 : Int32) (v3 : Int32), f_X11_find_46 k2 m_nameSize m_letters m_fresh n v1 v2 v3 = some z → ∀ (H : Heap) (locs : List Loc) (ls : Array Slot), va_P (rf_D E) vwCl (cM E a I A) H → va_S A0 s.heap H locs → lv_has ls 4 [(0, .ref (a 0)), (1, .int v1), (2, .int v2), (3, .int v3)] → W p l e ({ frames := 0, cells := 0, slots := 0, locals := 0 }) s m args below meth c H locs 0 0 (rf_QI below args s E A0 z (cM E a I A)) (F0 m 46 ls []) := by
  have hx := hC.1
  have hb := hC.2.1
  intro n
  induction n with
  | zero =>
    intro v1 v2 v3 hf
    have hf : (none : Option (Int32)) = some z := hf
    cases hf
  | succ n ih =>
    intro v1 v2 v3 hf H locs ls hP hS hl
    rw [f_X11_find_46] at hf
    refine lv_iload_n hx hb dX11_find_46 rfl (lv_at hl 3 rfl) ?_
    refine lv_aload_n hx hb dX11_find_47 rfl (lv_at hl 0 rfl) ?_
    refine gM_m_nameSize hC hP tw_1287 (v := m_nameSize) e_m_nameSize dX11_find_48 ?_
    refine lv_icmp_ge (tgt := 94) hx hb dX11_find_51 (by decide) (fun c_51 => ?_) (fun c_51 => ?_)
    · have hf := rf_it c_51 hf
      exact w_X11_find_94 hC hD e_m_nameSize e_m_letters e_m_fresh hk2 v1 v2 hf _ _ _ hP hS (lv_sub hl [0, 1, 2] rfl)
    have hf := rf_ie c_51 hf
    refine lv_iload_n hx hb dX11_find_54 rfl (lv_at hl 2 rfl) ?_
    refine lv_if_eq (tgt := 94) hx hb dX11_find_55 (by decide) (fun c_55 => ?_) (fun c_55 => ?_)
    · have hf := rf_it c_55 hf
      exact w_X11_find_94 hC hD e_m_nameSize e_m_letters e_m_fresh hk2 v1 v2 hf _ _ _ hP hS (lv_sub hl [0, 1, 2] rfl)
    have hf := rf_ie c_55 hf
    refine lv_aload_n hx hb dX11_find_58 rfl (lv_at hl 0 rfl) ?_
    refine gM_m_fresh hC hP tw_1295 dX11_find_59 ?_
    refine lv_sipush (v := 189) hx hb dX11_find_62 (by decide) ?_
    refine lv_bipush (v := 8) hx hb dX11_find_65 (by decide) ?_
    refine lv_iload_n hx hb dX11_find_67 rfl (lv_at hl 1 rfl) ?_
    refine lv_imul hx hb dX11_find_68 ?_
    refine lv_iadd hx hb dX11_find_69 ?_
    refine lv_iload_n hx hb dX11_find_70 rfl (lv_at hl 3 rfl) ?_
    refine lv_iadd hx hb dX11_find_71 ?_
    obtain ⟨hi_72, hf⟩ := rf_gu hf
    refine lM_m_fresh hC hP hi_72 (f := m_fresh) e_m_fresh dX11_find_72 ?_
    refine lv_aload_n hx hb dX11_find_73 rfl (lv_at hl 0 rfl) ?_
    refine gM_m_letters hC hP tw_1291 dX11_find_74 ?_
    refine lv_iload_n hx hb dX11_find_77 rfl (lv_at hl 3 rfl) ?_
    obtain ⟨hi_78, hf⟩ := rf_gu hf
    refine lM_m_letters hC hP hi_78 (f := m_letters) e_m_letters dX11_find_78 ?_
    refine lv_icmp_ne (tgt := 86) hx hb dX11_find_79 (by decide) (fun c_79 => ?_) (fun c_79 => ?_)
    · have hf := rf_ie c_79 hf
      refine lv_iconst (v := 0) hx hb dX11_find_86 (by decide) ?_
      exact w_X11_find_87 hC hD e_m_nameSize e_m_letters e_m_fresh hk2 ih v1 v3 0 hf _ _ _ hP hS (lv_sub hl [0, 1, 3] rfl)
    have hf := rf_it c_79 hf
    refine lv_iconst (v := 1) hx hb dX11_find_82 (by decide) ?_
    refine lv_goto (tgt := 87) hx hb dX11_find_83 (by decide) ?_
    exact w_X11_find_87 hC hD e_m_nameSize e_m_letters e_m_fresh hk2 ih v1 v3 1 hf _ _ _ hP hS (lv_sub hl [0, 1, 3] rfl)
set_option maxHeartbeats 4000000 in
set_option maxRecDepth 100000 in
theorem w_X11_find_43 {l : Launch} {p : Program} {e : Env} {s : State} {m : MethodId} {args : Array Value} {below : List Frame} {meth : Method} {c : Code} {A0 : Nat → Prop} {E : rf_E} {a : Nat → Nat} {I : Nat → Int32} {A : Nat → Nat → Int32} {m_nameSize : Int32} {m_letters : Nat → Int32} {m_fresh : Nat → Int32} {z : Int32} (hC : rf_C p E s m args meth c cX11_find 4 RX11 (some .int) A0) (hD : va_D A0 (cM E a I A)) (e_m_nameSize : I 7 = m_nameSize) (e_m_letters : A 1 = m_letters) (e_m_fresh : A 3 = m_fresh) {k2 : Int32 → Option (Int32)} (hk2 : ∀ (v1 : Int32), k2 v1 = some z → ∀ (H : Heap) (locs : List Loc) (ls : Array Slot), va_P (rf_D E) vwCl (cM E a I A) H → va_S A0 s.heap H locs → lv_has ls 4 [(0, .ref (a 0)), (1, .int v1)] → W p l e ({ frames := 0, cells := 0, slots := 0, locals := 0 }) s m args below meth c H locs 0 0 (rf_QI below args s E A0 z (cM E a I A)) (F0 m 2 ls [])) :
    ∀ (v1 : Int32) (s0 : Int32), f_X11_find_43 k2 m_nameSize m_letters m_fresh v1 s0 = some z → ∀ (H : Heap) (locs : List Loc) (ls : Array Slot), va_P (rf_D E) vwCl (cM E a I A) H → va_S A0 s.heap H locs → lv_has ls 4 [(0, .ref (a 0)), (1, .int v1)] → W p l e ({ frames := 0, cells := 0, slots := 0, locals := 0 }) s m args below meth c H locs 0 0 (rf_QI below args s E A0 z (cM E a I A)) (F0 m 43 ls [.int s0]) := by
  have hx := hC.1
  have hb := hC.2.1
  intro v1 s0 hf H locs ls hP hS hl
  unfold f_X11_find_43 at hf
  refine lv_istore_n (lv' := [(2, .int s0), (0, .ref (a 0)), (1, .int v1)]) hx hb dX11_find_43 rfl hl (by decide) rfl (fun ls hl => ?_)
  refine lv_iconst (v := 0) hx hb dX11_find_44 (by decide) ?_
  refine lv_istore_n (lv' := [(3, .int 0), (2, .int s0), (0, .ref (a 0)), (1, .int v1)]) hx hb dX11_find_45 rfl hl (by decide) rfl (fun ls hl => ?_)
  exact w_X11_find_46 hC hD e_m_nameSize e_m_letters e_m_fresh hk2 rf_fu v1 s0 0 hf _ _ _ hP hS (lv_sub hl [2, 3, 1, 0] rfl)
set_option maxHeartbeats 4000000 in
set_option maxRecDepth 100000 in
theorem w_X11_find_42 {l : Launch} {p : Program} {e : Env} {s : State} {m : MethodId} {args : Array Value} {below : List Frame} {meth : Method} {c : Code} {A0 : Nat → Prop} {E : rf_E} {a : Nat → Nat} {I : Nat → Int32} {A : Nat → Nat → Int32} {m_nameSize : Int32} {m_letters : Nat → Int32} {m_fresh : Nat → Int32} {z : Int32} (hC : rf_C p E s m args meth c cX11_find 4 RX11 (some .int) A0) (hD : va_D A0 (cM E a I A)) (e_m_nameSize : I 7 = m_nameSize) (e_m_letters : A 1 = m_letters) (e_m_fresh : A 3 = m_fresh) {k2 : Int32 → Option (Int32)} (hk2 : ∀ (v1 : Int32), k2 v1 = some z → ∀ (H : Heap) (locs : List Loc) (ls : Array Slot), va_P (rf_D E) vwCl (cM E a I A) H → va_S A0 s.heap H locs → lv_has ls 4 [(0, .ref (a 0)), (1, .int v1)] → W p l e ({ frames := 0, cells := 0, slots := 0, locals := 0 }) s m args below meth c H locs 0 0 (rf_QI below args s E A0 z (cM E a I A)) (F0 m 2 ls [])) :
    ∀ (v1 : Int32), f_X11_find_42 k2 m_nameSize m_letters m_fresh v1 = some z → ∀ (H : Heap) (locs : List Loc) (ls : Array Slot), va_P (rf_D E) vwCl (cM E a I A) H → va_S A0 s.heap H locs → lv_has ls 4 [(0, .ref (a 0)), (1, .int v1)] → W p l e ({ frames := 0, cells := 0, slots := 0, locals := 0 }) s m args below meth c H locs 0 0 (rf_QI below args s E A0 z (cM E a I A)) (F0 m 42 ls []) := by
  have hx := hC.1
  have hb := hC.2.1
  intro v1 hf H locs ls hP hS hl
  unfold f_X11_find_42 at hf
  refine lv_iconst (v := 0) hx hb dX11_find_42 (by decide) ?_
  exact w_X11_find_43 hC hD e_m_nameSize e_m_letters e_m_fresh hk2 v1 0 hf _ _ _ hP hS (lv_sub hl [0, 1] rfl)
set_option maxHeartbeats 4000000 in
set_option maxRecDepth 100000 in
theorem w_X11_find_2 {l : Launch} {p : Program} {e : Env} {s : State} {m : MethodId} {args : Array Value} {below : List Frame} {meth : Method} {c : Code} {A0 : Nat → Prop} {E : rf_E} {a : Nat → Nat} {I : Nat → Int32} {A : Nat → Nat → Int32} {m_nameSize : Int32} {m_letters : Nat → Int32} {m_fresh : Nat → Int32} {z : Int32} (hC : rf_C p E s m args meth c cX11_find 4 RX11 (some .int) A0) (hD : va_D A0 (cM E a I A)) (e_m_nameSize : I 7 = m_nameSize) (e_m_letters : A 1 = m_letters) (e_m_fresh : A 3 = m_fresh) :
    ∀ (n : Nat), ∀ (v1 : Int32), f_X11_find_2 m_nameSize m_letters m_fresh n v1 = some z → ∀ (H : Heap) (locs : List Loc) (ls : Array Slot), va_P (rf_D E) vwCl (cM E a I A) H → va_S A0 s.heap H locs → lv_has ls 4 [(0, .ref (a 0)), (1, .int v1)] → W p l e ({ frames := 0, cells := 0, slots := 0, locals := 0 }) s m args below meth c H locs 0 0 (rf_QI below args s E A0 z (cM E a I A)) (F0 m 2 ls []) := by
  have hx := hC.1
  have hb := hC.2.1
  intro n
  induction n with
  | zero =>
    intro v1 hf
    have hf : (none : Option (Int32)) = some z := hf
    cases hf
  | succ n ih =>
    intro v1 hf H locs ls hP hS hl
    rw [f_X11_find_2] at hf
    refine lv_iload_n hx hb dX11_find_2 rfl (lv_at hl 1 rfl) ?_
    refine lv_bipush (v := 18) hx hb dX11_find_3 (by decide) ?_
    refine lv_icmp_ge (tgt := 106) hx hb dX11_find_5 (by decide) (fun c_5 => ?_) (fun c_5 => ?_)
    · have hf := rf_it c_5 hf
      refine lv_iconst (v := (-1)) hx hb dX11_find_106 (by decide) ?_
      obtain rfl := Option.some.inj hf
      exact rf_reti hC hP hS rfl rfl dX11_find_107
    have hf := rf_ie c_5 hf
    refine lv_aload_n hx hb dX11_find_8 rfl (lv_at hl 0 rfl) ?_
    refine gM_m_fresh hC hP tw_1295 dX11_find_9 ?_
    refine lv_sipush (v := 171) hx hb dX11_find_12 (by decide) ?_
    refine lv_iload_n hx hb dX11_find_15 rfl (lv_at hl 1 rfl) ?_
    refine lv_iadd hx hb dX11_find_16 ?_
    obtain ⟨hi_17, hf⟩ := rf_gu hf
    refine lM_m_fresh hC hP hi_17 (f := m_fresh) e_m_fresh dX11_find_17 ?_
    refine lv_if_le (tgt := 42) hx hb dX11_find_18 (by decide) (fun c_18 => ?_) (fun c_18 => ?_)
    · have hf := rf_it c_18 hf
      exact w_X11_find_42 hC hD e_m_nameSize e_m_letters e_m_fresh ih v1 hf _ _ _ hP hS (lv_sub hl [0, 1] rfl)
    have hf := rf_ie c_18 hf
    refine lv_aload_n hx hb dX11_find_21 rfl (lv_at hl 0 rfl) ?_
    refine gM_m_fresh hC hP tw_1295 dX11_find_22 ?_
    refine lv_sipush (v := 171) hx hb dX11_find_25 (by decide) ?_
    refine lv_iload_n hx hb dX11_find_28 rfl (lv_at hl 1 rfl) ?_
    refine lv_iadd hx hb dX11_find_29 ?_
    obtain ⟨hi_30, hf⟩ := rf_gu hf
    refine lM_m_fresh hC hP hi_30 (f := m_fresh) e_m_fresh dX11_find_30 ?_
    refine lv_aload_n hx hb dX11_find_31 rfl (lv_at hl 0 rfl) ?_
    refine gM_m_nameSize hC hP tw_1287 (v := m_nameSize) e_m_nameSize dX11_find_32 ?_
    refine lv_icmp_ne (tgt := 42) hx hb dX11_find_35 (by decide) (fun c_35 => ?_) (fun c_35 => ?_)
    · have hf := rf_ie c_35 hf
      exact w_X11_find_42 hC hD e_m_nameSize e_m_letters e_m_fresh ih v1 hf _ _ _ hP hS (lv_sub hl [0, 1] rfl)
    have hf := rf_it c_35 hf
    refine lv_iconst (v := 1) hx hb dX11_find_38 (by decide) ?_
    refine lv_goto (tgt := 43) hx hb dX11_find_39 (by decide) ?_
    exact w_X11_find_43 hC hD e_m_nameSize e_m_letters e_m_fresh ih v1 1 hf _ _ _ hP hS (lv_sub hl [0, 1] rfl)
set_option maxHeartbeats 4000000 in
set_option maxRecDepth 100000 in
theorem c_X11_find (l : Launch) (E : rf_E) (a : Nat → Nat) (I : Nat → Int32) (A : Nat → Nat → Int32) (m_nameSize : Int32) (m_letters : Nat → Int32) (m_fresh : Nat → Int32) {z : Int32} (e_m_nameSize : I 7 = m_nameSize) (e_m_letters : A 1 = m_letters) (e_m_fresh : A 3 = m_fresh) (hf : f_X11_find m_nameSize m_letters m_fresh = some z) : rf_MI l yX11_find cX11_find 4 (some .int) ({ frames := 0, cells := 0, slots := 0, locals := 0 }) E [.ref (a 0)] (cM E a I A) z (cM E a I A) := by
  unfold f_X11_find at hf
  refine rf_ofI (by decide) (Nat.le_of_ble_eq_true rfl) ?_
  intro p e s m below meth c A0 ls hC hD hP hS hl
  have hC : rf_C p E s m _ meth c cX11_find 4 RX11 (some .int) A0 := hC
  have hx := hC.1
  have hb := hC.2.1
  have hl : lv_has ls 4 [(0, .ref (a 0))] := hl
  refine lv_iconst (v := 0) hx hb dX11_find_0 (by decide) ?_
  refine lv_istore_n (lv' := [(1, .int 0), (0, .ref (a 0))]) hx hb dX11_find_1 rfl hl (by decide) rfl (fun ls hl => ?_)
  exact w_X11_find_2 hC hD e_m_nameSize e_m_letters e_m_fresh rf_fu 0 hf _ _ _ hP hS (lv_sub hl [1, 0] rfl)
set_option maxHeartbeats 4000000 in
set_option maxRecDepth 100000 in
theorem w_X11_mustName_80 {l : Launch} {p : Program} {e : Env} {s : State} {m : MethodId} {args : Array Value} {below : List Frame} {meth : Method} {c : Code} {A0 : Nat → Prop} {E : rf_E} {a : Nat → Nat} {I : Nat → Int32} {A : Nat → Nat → Int32} {m_at : Int32} {m_token : Int32} {m_nameSize : Int32} {m_letters : Nat → Int32} {z : Int32 × Int32 × Int32} (hC : rf_C p E s m args meth c cX11_mustName 1 RX11 (none) A0) (hD : va_D A0 (cM E a I A)) (e_m_at : I 3 = m_at) (e_m_token : I 5 = m_token) (e_m_nameSize : I 7 = m_nameSize) (e_m_letters : A 1 = m_letters) :
    ∀ (m_fault : Int32) (m_place : Int32) (m_failed : Int32), f_X11_mustName_80 m_at m_token m_nameSize m_letters m_fault m_place m_failed = some z → ∀ (H : Heap) (locs : List Loc) (ls : Array Slot), va_P (rf_D E) vwCl (cM E a (rf_upL I [(8, m_fault), (9, m_place), (11, m_failed)]) A) H → va_S A0 s.heap H locs → lv_has ls 1 [(0, .ref (a 0))] → W p l e ({ frames := 7, cells := 0, slots := 0, locals := 223 }) s m args below meth c H locs 0 0 (rf_QV below args s E A0 (cM E a (rf_upL I [(8, z.1), (9, z.2.1), (11, z.2.2)]) A)) (F0 m 80 ls []) := by
  have hx := hC.1
  have hb := hC.2.1
  intro m_fault m_place m_failed hf H locs ls hP hS hl
  unfold f_X11_mustName_80 at hf
  refine lv_aload_n hx hb dX11_mustName_80 rfl (lv_at hl 0 rfl) ?_
  refine lv_iconst (v := 1) hx hb dX11_mustName_81 (by decide) ?_
  refine lv_aload_n hx hb dX11_mustName_82 rfl (lv_at hl 0 rfl) ?_
  refine gM_m_at hC hP tw_1283 (v := m_at) e_m_at dX11_mustName_83 ?_
  obtain ⟨z86, hz86, hf⟩ := rf_bd hf
  refine rf_vv (q0 := 0) (ci := 11) hC (c_X11_wrong l E a (rf_upL I [(8, m_fault), (9, m_place), (11, m_failed)]) A m_fault m_place m_failed 1 m_at rfl rfl rfl hz86) kV_X11_wrong tw_1443 ⟨Nat.le_of_ble_eq_true rfl, Nat.le_of_ble_eq_true rfl⟩ rfl rfl rfl rfl rfl hP (rf_DM hD) hS rfl hl.1 (rest := []) rfl (Nat.le_of_ble_eq_true rfl) dX11_mustName_86 (fun H locs hP hS => ?_)
  rw [rf_cat (f := I) (l := [(8, m_fault), (9, m_place), (11, m_failed)]) (lc := [(8, z86.1), (9, z86.2.1), (11, z86.2.2)]) (l' := [(8, z86.1), (9, z86.2.1), (11, z86.2.2)]) rfl] at hP
  obtain rfl := Option.some.inj hf
  exact rf_retv hC hP hS rfl dX11_mustName_89
set_option maxHeartbeats 4000000 in
set_option maxRecDepth 100000 in
theorem c_X11_mustName (l : Launch) (E : rf_E) (a : Nat → Nat) (I : Nat → Int32) (A : Nat → Nat → Int32) (m_at : Int32) (m_token : Int32) (m_nameSize : Int32) (m_letters : Nat → Int32) (m_fault : Int32) (m_place : Int32) (m_failed : Int32) {z : Int32 × Int32 × Int32} (e_m_at : I 3 = m_at) (e_m_token : I 5 = m_token) (e_m_nameSize : I 7 = m_nameSize) (e_m_letters : A 1 = m_letters) (e_m_fault : I 8 = m_fault) (e_m_place : I 9 = m_place) (e_m_failed : I 11 = m_failed) (hf : f_X11_mustName m_at m_token m_nameSize m_letters m_fault m_place m_failed = some z) : rf_MV l yX11_mustName cX11_mustName 1 ({ frames := 7, cells := 0, slots := 0, locals := 223 }) E [.ref (a 0)] (cM E a I A) (cM E a (rf_upL I [(8, z.1), (9, z.2.1), (11, z.2.2)]) A) := by
  unfold f_X11_mustName at hf
  refine rf_ofV (by decide) (Nat.le_of_ble_eq_true rfl) ?_
  intro p e s m below meth c A0 ls hC hD hP hS hl
  have hC : rf_C p E s m _ meth c cX11_mustName 1 RX11 (none) A0 := hC
  have hx := hC.1
  have hb := hC.2.1
  have hl : lv_has ls 1 [(0, .ref (a 0))] := hl
  have hP : va_P (rf_D E) vwCl (cM E a (rf_upL I [(8, m_fault), (9, m_place), (11, m_failed)]) A) s.heap := by
    rw [rf_self (f := I) [(8, m_fault), (9, m_place), (11, m_failed)] (rf_fa1 e_m_fault (rf_fa1 e_m_place (rf_fa1 e_m_failed rf_fa0)))]
    exact hP
  refine lv_aload_n hx hb dX11_mustName_0 rfl (lv_at hl 0 rfl) ?_
  refine gM_m_token hC hP tw_1285 (v := m_token) e_m_token dX11_mustName_1 ?_
  refine lv_iconst (v := 2) hx hb dX11_mustName_4 (by decide) ?_
  refine lv_icmp_ne (tgt := 80) hx hb dX11_mustName_5 (by decide) (fun c_5 => ?_) (fun c_5 => ?_)
  · have hf := rf_ie c_5 hf
    exact w_X11_mustName_80 hC hD e_m_at e_m_token e_m_nameSize e_m_letters m_fault m_place m_failed hf _ _ _ hP hS (lv_sub hl [0] rfl)
  have hf := rf_it c_5 hf
  refine lv_aload_n hx hb dX11_mustName_8 rfl (lv_at hl 0 rfl) ?_
  refine va_ldcS hx hb hC.2.2.2.1 (lk_24 hC.2.2.2.2.2.2.2.1.2.2.2) dX11_mustName_9 ?_
  obtain ⟨z11, hz11, hf⟩ := rf_bd hf
  refine rf_vi (q0 := 0) (ci := 11) hC (c_X11_isWord l E a (rf_upL I [(8, m_fault), (9, m_place), (11, m_failed)]) A m_token m_nameSize m_failed m_letters 24 e_m_token e_m_nameSize rfl e_m_letters (by decide) hz11) kV_X11_isWord tw_1433 ⟨Nat.le_of_ble_eq_true rfl, Nat.le_of_ble_eq_true rfl⟩ rfl rfl rfl rfl rfl hP (rf_DM hD) hS rfl hl.1 (rest := []) rfl (Nat.le_of_ble_eq_true rfl) dX11_mustName_11 (fun H locs hP hS => ?_)
  refine lv_if_ne (tgt := 80) hx hb dX11_mustName_14 (by decide) (fun c_14 => ?_) (fun c_14 => ?_)
  · have hf := rf_ie c_14 hf
    exact w_X11_mustName_80 hC hD e_m_at e_m_token e_m_nameSize e_m_letters m_fault m_place m_failed hf _ _ _ hP hS (lv_sub hl [0] rfl)
  have hf := rf_it c_14 hf
  refine lv_aload_n hx hb dX11_mustName_17 rfl (lv_at hl 0 rfl) ?_
  refine va_ldcS hx hb hC.2.2.2.1 (lk_27 hC.2.2.2.2.2.2.2.1.2.2.2) dX11_mustName_18 ?_
  obtain ⟨z20, hz20, hf⟩ := rf_bd hf
  refine rf_vi (q0 := 0) (ci := 11) hC (c_X11_isWord l E a (rf_upL I [(8, m_fault), (9, m_place), (11, m_failed)]) A m_token m_nameSize m_failed m_letters 27 e_m_token e_m_nameSize rfl e_m_letters (by decide) hz20) kV_X11_isWord tw_1433 ⟨Nat.le_of_ble_eq_true rfl, Nat.le_of_ble_eq_true rfl⟩ rfl rfl rfl rfl rfl hP (rf_DM hD) hS rfl hl.1 (rest := []) rfl (Nat.le_of_ble_eq_true rfl) dX11_mustName_20 (fun H locs hP hS => ?_)
  refine lv_if_ne (tgt := 80) hx hb dX11_mustName_23 (by decide) (fun c_23 => ?_) (fun c_23 => ?_)
  · have hf := rf_ie c_23 hf
    exact w_X11_mustName_80 hC hD e_m_at e_m_token e_m_nameSize e_m_letters m_fault m_place m_failed hf _ _ _ hP hS (lv_sub hl [0] rfl)
  have hf := rf_it c_23 hf
  refine lv_aload_n hx hb dX11_mustName_26 rfl (lv_at hl 0 rfl) ?_
  refine va_ldcS hx hb hC.2.2.2.1 (lk_28 hC.2.2.2.2.2.2.2.1.2.2.2) dX11_mustName_27 ?_
  obtain ⟨z29, hz29, hf⟩ := rf_bd hf
  refine rf_vi (q0 := 0) (ci := 11) hC (c_X11_isWord l E a (rf_upL I [(8, m_fault), (9, m_place), (11, m_failed)]) A m_token m_nameSize m_failed m_letters 28 e_m_token e_m_nameSize rfl e_m_letters (by decide) hz29) kV_X11_isWord tw_1433 ⟨Nat.le_of_ble_eq_true rfl, Nat.le_of_ble_eq_true rfl⟩ rfl rfl rfl rfl rfl hP (rf_DM hD) hS rfl hl.1 (rest := []) rfl (Nat.le_of_ble_eq_true rfl) dX11_mustName_29 (fun H locs hP hS => ?_)
  refine lv_if_ne (tgt := 80) hx hb dX11_mustName_32 (by decide) (fun c_32 => ?_) (fun c_32 => ?_)
  · have hf := rf_ie c_32 hf
    exact w_X11_mustName_80 hC hD e_m_at e_m_token e_m_nameSize e_m_letters m_fault m_place m_failed hf _ _ _ hP hS (lv_sub hl [0] rfl)
  have hf := rf_it c_32 hf
  refine lv_aload_n hx hb dX11_mustName_35 rfl (lv_at hl 0 rfl) ?_
  refine va_ldcS hx hb hC.2.2.2.1 (lk_29 hC.2.2.2.2.2.2.2.1.2.2.2) dX11_mustName_36 ?_
  obtain ⟨z38, hz38, hf⟩ := rf_bd hf
  refine rf_vi (q0 := 0) (ci := 11) hC (c_X11_isWord l E a (rf_upL I [(8, m_fault), (9, m_place), (11, m_failed)]) A m_token m_nameSize m_failed m_letters 29 e_m_token e_m_nameSize rfl e_m_letters (by decide) hz38) kV_X11_isWord tw_1433 ⟨Nat.le_of_ble_eq_true rfl, Nat.le_of_ble_eq_true rfl⟩ rfl rfl rfl rfl rfl hP (rf_DM hD) hS rfl hl.1 (rest := []) rfl (Nat.le_of_ble_eq_true rfl) dX11_mustName_38 (fun H locs hP hS => ?_)
  refine lv_if_ne (tgt := 80) hx hb dX11_mustName_41 (by decide) (fun c_41 => ?_) (fun c_41 => ?_)
  · have hf := rf_ie c_41 hf
    exact w_X11_mustName_80 hC hD e_m_at e_m_token e_m_nameSize e_m_letters m_fault m_place m_failed hf _ _ _ hP hS (lv_sub hl [0] rfl)
  have hf := rf_it c_41 hf
  refine lv_aload_n hx hb dX11_mustName_44 rfl (lv_at hl 0 rfl) ?_
  refine va_ldcS hx hb hC.2.2.2.1 (lk_30 hC.2.2.2.2.2.2.2.1.2.2.2) dX11_mustName_45 ?_
  obtain ⟨z47, hz47, hf⟩ := rf_bd hf
  refine rf_vi (q0 := 0) (ci := 11) hC (c_X11_isWord l E a (rf_upL I [(8, m_fault), (9, m_place), (11, m_failed)]) A m_token m_nameSize m_failed m_letters 30 e_m_token e_m_nameSize rfl e_m_letters (by decide) hz47) kV_X11_isWord tw_1433 ⟨Nat.le_of_ble_eq_true rfl, Nat.le_of_ble_eq_true rfl⟩ rfl rfl rfl rfl rfl hP (rf_DM hD) hS rfl hl.1 (rest := []) rfl (Nat.le_of_ble_eq_true rfl) dX11_mustName_47 (fun H locs hP hS => ?_)
  refine lv_if_ne (tgt := 80) hx hb dX11_mustName_50 (by decide) (fun c_50 => ?_) (fun c_50 => ?_)
  · have hf := rf_ie c_50 hf
    exact w_X11_mustName_80 hC hD e_m_at e_m_token e_m_nameSize e_m_letters m_fault m_place m_failed hf _ _ _ hP hS (lv_sub hl [0] rfl)
  have hf := rf_it c_50 hf
  refine lv_aload_n hx hb dX11_mustName_53 rfl (lv_at hl 0 rfl) ?_
  refine va_ldcS hx hb hC.2.2.2.1 (lk_31 hC.2.2.2.2.2.2.2.1.2.2.2) dX11_mustName_54 ?_
  obtain ⟨z56, hz56, hf⟩ := rf_bd hf
  refine rf_vi (q0 := 0) (ci := 11) hC (c_X11_isWord l E a (rf_upL I [(8, m_fault), (9, m_place), (11, m_failed)]) A m_token m_nameSize m_failed m_letters 31 e_m_token e_m_nameSize rfl e_m_letters (by decide) hz56) kV_X11_isWord tw_1433 ⟨Nat.le_of_ble_eq_true rfl, Nat.le_of_ble_eq_true rfl⟩ rfl rfl rfl rfl rfl hP (rf_DM hD) hS rfl hl.1 (rest := []) rfl (Nat.le_of_ble_eq_true rfl) dX11_mustName_56 (fun H locs hP hS => ?_)
  refine lv_if_ne (tgt := 80) hx hb dX11_mustName_59 (by decide) (fun c_59 => ?_) (fun c_59 => ?_)
  · have hf := rf_ie c_59 hf
    exact w_X11_mustName_80 hC hD e_m_at e_m_token e_m_nameSize e_m_letters m_fault m_place m_failed hf _ _ _ hP hS (lv_sub hl [0] rfl)
  have hf := rf_it c_59 hf
  refine lv_aload_n hx hb dX11_mustName_62 rfl (lv_at hl 0 rfl) ?_
  refine va_ldcS hx hb hC.2.2.2.1 (lk_32 hC.2.2.2.2.2.2.2.1.2.2.2) dX11_mustName_63 ?_
  obtain ⟨z65, hz65, hf⟩ := rf_bd hf
  refine rf_vi (q0 := 0) (ci := 11) hC (c_X11_isWord l E a (rf_upL I [(8, m_fault), (9, m_place), (11, m_failed)]) A m_token m_nameSize m_failed m_letters 32 e_m_token e_m_nameSize rfl e_m_letters (by decide) hz65) kV_X11_isWord tw_1433 ⟨Nat.le_of_ble_eq_true rfl, Nat.le_of_ble_eq_true rfl⟩ rfl rfl rfl rfl rfl hP (rf_DM hD) hS rfl hl.1 (rest := []) rfl (Nat.le_of_ble_eq_true rfl) dX11_mustName_65 (fun H locs hP hS => ?_)
  refine lv_if_ne (tgt := 80) hx hb dX11_mustName_68 (by decide) (fun c_68 => ?_) (fun c_68 => ?_)
  · have hf := rf_ie c_68 hf
    exact w_X11_mustName_80 hC hD e_m_at e_m_token e_m_nameSize e_m_letters m_fault m_place m_failed hf _ _ _ hP hS (lv_sub hl [0] rfl)
  have hf := rf_it c_68 hf
  refine lv_aload_n hx hb dX11_mustName_71 rfl (lv_at hl 0 rfl) ?_
  refine va_ldcS hx hb hC.2.2.2.1 (lk_33 hC.2.2.2.2.2.2.2.1.2.2.2) dX11_mustName_72 ?_
  obtain ⟨z74, hz74, hf⟩ := rf_bd hf
  refine rf_vi (q0 := 0) (ci := 11) hC (c_X11_isWord l E a (rf_upL I [(8, m_fault), (9, m_place), (11, m_failed)]) A m_token m_nameSize m_failed m_letters 33 e_m_token e_m_nameSize rfl e_m_letters (by decide) hz74) kV_X11_isWord tw_1433 ⟨Nat.le_of_ble_eq_true rfl, Nat.le_of_ble_eq_true rfl⟩ rfl rfl rfl rfl rfl hP (rf_DM hD) hS rfl hl.1 (rest := []) rfl (Nat.le_of_ble_eq_true rfl) dX11_mustName_74 (fun H locs hP hS => ?_)
  refine lv_if_eq (tgt := 89) hx hb dX11_mustName_77 (by decide) (fun c_77 => ?_) (fun c_77 => ?_)
  · have hf := rf_it c_77 hf
    obtain rfl := Option.some.inj hf
    exact rf_retv hC hP hS rfl dX11_mustName_89
  have hf := rf_ie c_77 hf
  exact w_X11_mustName_80 hC hD e_m_at e_m_token e_m_nameSize e_m_letters m_fault m_place m_failed hf _ _ _ hP hS (lv_sub hl [0] rfl)
set_option maxHeartbeats 4000000 in
set_option maxRecDepth 100000 in
theorem w_X11_named_45 {l : Launch} {p : Program} {e : Env} {s : State} {m : MethodId} {args : Array Value} {below : List Frame} {meth : Method} {c : Code} {A0 : Nat → Prop} {E : rf_E} {a : Nat → Nat} {I : Nat → Int32} {A : Nat → Nat → Int32} {m_at : Int32} {m_token : Int32} {m_nameSize : Int32} {m_letters : Nat → Int32} {m_fresh : Nat → Int32} {z : Int32 × Int32 × Int32 × Int32} (hC : rf_C p E s m args meth c cX11_named 4 RX11 (some .int) A0) (hD : va_D A0 (cM E a I A)) (e_m_at : I 3 = m_at) (e_m_token : I 5 = m_token) (e_m_nameSize : I 7 = m_nameSize) (e_m_letters : A 1 = m_letters) (e_m_fresh : A 3 = m_fresh) :
    ∀ (v1 : Int32) (v3 : Int32) (m_fault : Int32) (m_place : Int32) (m_failed : Int32), f_X11_named_45 m_at m_token m_nameSize m_letters m_fresh v1 v3 m_fault m_place m_failed = some z → ∀ (H : Heap) (locs : List Loc) (ls : Array Slot), va_P (rf_D E) vwCl (cM E a (rf_upL I [(8, m_fault), (9, m_place), (11, m_failed)]) A) H → va_S A0 s.heap H locs → lv_has ls 4 [(0, .ref (a 0)), (1, .int v1), (3, .int v3)] → W p l e ({ frames := 8, cells := 0, slots := 0, locals := 243 }) s m args below meth c H locs 0 0 (rf_QI below args s E A0 z.1 (cM E a (rf_upL I [(8, z.2.1), (9, z.2.2.1), (11, z.2.2.2)]) A)) (F0 m 45 ls []) := by
  have hx := hC.1
  have hb := hC.2.1
  intro v1 v3 m_fault m_place m_failed hf H locs ls hP hS hl
  unfold f_X11_named_45 at hf
  refine lv_aload_n hx hb dX11_named_45 rfl (lv_at hl 0 rfl) ?_
  refine gM_m_failed hC hP tw_1292 (v := m_failed) rfl dX11_named_46 ?_
  refine lv_if_eq (tgt := 56) hx hb dX11_named_49 (by decide) (fun c_49 => ?_) (fun c_49 => ?_)
  · have hf := rf_it c_49 hf
    refine lv_iload_n hx hb dX11_named_56 rfl (lv_at hl 2 rfl) ?_
    refine lv_iload_n hx hb dX11_named_57 rfl (lv_at hl 1 rfl) ?_
    refine lv_isub hx hb dX11_named_58 ?_
    obtain rfl := Option.some.inj hf
    exact rf_reti hC hP hS rfl rfl dX11_named_59
  have hf := rf_ie c_49 hf
  refine lv_iconst (v := 0) hx hb dX11_named_52 (by decide) ?_
  refine lv_goto (tgt := 59) hx hb dX11_named_53 (by decide) ?_
  obtain rfl := Option.some.inj hf
  exact rf_reti hC hP hS rfl rfl dX11_named_59
set_option maxHeartbeats 4000000 in
set_option maxRecDepth 100000 in
theorem c_X11_named (l : Launch) (E : rf_E) (a : Nat → Nat) (I : Nat → Int32) (A : Nat → Nat → Int32) (m_at : Int32) (m_token : Int32) (m_nameSize : Int32) (m_letters : Nat → Int32) (m_fresh : Nat → Int32) (m_fault : Int32) (m_place : Int32) (m_failed : Int32) (v1 : Int32) (v2 : Int32) {z : Int32 × Int32 × Int32 × Int32} (e_m_at : I 3 = m_at) (e_m_token : I 5 = m_token) (e_m_nameSize : I 7 = m_nameSize) (e_m_letters : A 1 = m_letters) (e_m_fresh : A 3 = m_fresh) (e_m_fault : I 8 = m_fault) (e_m_place : I 9 = m_place) (e_m_failed : I 11 = m_failed) (hf : f_X11_named m_at m_token m_nameSize m_letters m_fresh m_fault m_place m_failed v1 v2 = some z) : rf_MI l yX11_named cX11_named 4 (some .int) ({ frames := 8, cells := 0, slots := 0, locals := 243 }) E [.ref (a 0), .int v1, .int v2] (cM E a I A) z.1 (cM E a (rf_upL I [(8, z.2.1), (9, z.2.2.1), (11, z.2.2.2)]) A) := by
  unfold f_X11_named at hf
  refine rf_ofI (by decide) (Nat.le_of_ble_eq_true rfl) ?_
  intro p e s m below meth c A0 ls hC hD hP hS hl
  have hC : rf_C p E s m _ meth c cX11_named 4 RX11 (some .int) A0 := hC
  have hx := hC.1
  have hb := hC.2.1
  have hl : lv_has ls 4 [(0, .ref (a 0)), (1, .int v1), (2, .int v2)] := hl
  have hP : va_P (rf_D E) vwCl (cM E a (rf_upL I [(8, m_fault), (9, m_place), (11, m_failed)]) A) s.heap := by
    rw [rf_self (f := I) [(8, m_fault), (9, m_place), (11, m_failed)] (rf_fa1 e_m_fault (rf_fa1 e_m_place (rf_fa1 e_m_failed rf_fa0)))]
    exact hP
  refine lv_aload_n hx hb dX11_named_0 rfl (lv_at hl 0 rfl) ?_
  refine gM_m_failed hC hP tw_1292 (v := m_failed) rfl dX11_named_1 ?_
  refine lv_if_eq (tgt := 9) hx hb dX11_named_4 (by decide) (fun c_4 => ?_) (fun c_4 => ?_)
  · have hf := rf_it c_4 hf
    refine lv_aload_n hx hb dX11_named_9 rfl (lv_at hl 0 rfl) ?_
    obtain ⟨z10, hz10, hf⟩ := rf_bd hf
    refine rf_vv (q0 := 0) (ci := 11) hC (c_X11_mustName l E a (rf_upL I [(8, m_fault), (9, m_place), (11, m_failed)]) A m_at m_token m_nameSize m_letters m_fault m_place m_failed e_m_at e_m_token e_m_nameSize e_m_letters rfl rfl rfl hz10) kV_X11_mustName tw_1482 ⟨Nat.le_of_ble_eq_true rfl, Nat.le_of_ble_eq_true rfl⟩ rfl rfl rfl rfl rfl hP (rf_DM hD) hS rfl hl.1 (rest := []) rfl (Nat.le_of_ble_eq_true rfl) dX11_named_10 (fun H locs hP hS => ?_)
    rw [rf_cat (f := I) (l := [(8, m_fault), (9, m_place), (11, m_failed)]) (lc := [(8, z10.1), (9, z10.2.1), (11, z10.2.2)]) (l' := [(8, z10.1), (9, z10.2.1), (11, z10.2.2)]) rfl] at hP
    refine lv_aload_n hx hb dX11_named_13 rfl (lv_at hl 0 rfl) ?_
    refine gM_m_failed hC hP tw_1292 (v := z10.2.2) rfl dX11_named_14 ?_
    refine lv_if_eq (tgt := 22) hx hb dX11_named_17 (by decide) (fun c_17 => ?_) (fun c_17 => ?_)
    · have hf := rf_it c_17 hf
      refine lv_aload_n hx hb dX11_named_22 rfl (lv_at hl 0 rfl) ?_
      obtain ⟨z23, hz23, hf⟩ := rf_bd hf
      refine rf_vi (q0 := 0) (ci := 11) hC (c_X11_find l E a (rf_upL I [(8, z10.1), (9, z10.2.1), (11, z10.2.2)]) A m_nameSize m_letters m_fresh e_m_nameSize e_m_letters e_m_fresh hz23) kV_X11_find tw_1492 ⟨Nat.le_of_ble_eq_true rfl, Nat.le_of_ble_eq_true rfl⟩ rfl rfl rfl rfl rfl hP (rf_DM hD) hS rfl hl.1 (rest := []) rfl (Nat.le_of_ble_eq_true rfl) dX11_named_23 (fun H locs hP hS => ?_)
      refine lv_istore_n (lv' := [(3, .int z23), (0, .ref (a 0)), (1, .int v1), (2, .int v2)]) hx hb dX11_named_26 rfl hl (by decide) rfl (fun ls hl => ?_)
      refine lv_iload_n hx hb dX11_named_27 rfl (lv_at hl 0 rfl) ?_
      refine lv_iload_n hx hb dX11_named_28 rfl (lv_at hl 2 rfl) ?_
      refine lv_iload_n hx hb dX11_named_29 rfl (lv_at hl 3 rfl) ?_
      obtain ⟨z30, hz30, hf⟩ := rf_bd hf
      refine rf_si0 hC (c_X11_in l E z23 v1 v2 hz30) kS_X11_in tw_1407 ⟨Nat.le_of_ble_eq_true rfl, Nat.le_of_ble_eq_true rfl⟩ rfl rfl hP hS rfl hl.1 (rest := []) rfl (Nat.le_of_ble_eq_true rfl) dX11_named_30 (fun H locs hP hS => ?_)
      refine lv_if_ne (tgt := 45) hx hb dX11_named_33 (by decide) (fun c_33 => ?_) (fun c_33 => ?_)
      · have hf := rf_ie c_33 hf
        exact w_X11_named_45 hC hD e_m_at e_m_token e_m_nameSize e_m_letters e_m_fresh v1 z23 z10.1 z10.2.1 z10.2.2 hf _ _ _ hP hS (lv_sub hl [1, 2, 0] rfl)
      have hf := rf_it c_33 hf
      refine lv_aload_n hx hb dX11_named_36 rfl (lv_at hl 1 rfl) ?_
      refine lv_iconst (v := 2) hx hb dX11_named_37 (by decide) ?_
      refine lv_aload_n hx hb dX11_named_38 rfl (lv_at hl 1 rfl) ?_
      refine gM_m_at hC hP tw_1283 (v := m_at) e_m_at dX11_named_39 ?_
      obtain ⟨z42, hz42, hf⟩ := rf_bd hf
      refine rf_vv (q0 := 0) (ci := 11) hC (c_X11_wrong l E a (rf_upL I [(8, z10.1), (9, z10.2.1), (11, z10.2.2)]) A z10.1 z10.2.1 z10.2.2 2 m_at rfl rfl rfl hz42) kV_X11_wrong tw_1443 ⟨Nat.le_of_ble_eq_true rfl, Nat.le_of_ble_eq_true rfl⟩ rfl rfl rfl rfl rfl hP (rf_DM hD) hS rfl hl.1 (rest := []) rfl (Nat.le_of_ble_eq_true rfl) dX11_named_42 (fun H locs hP hS => ?_)
      rw [rf_cat (f := I) (l := [(8, z10.1), (9, z10.2.1), (11, z10.2.2)]) (lc := [(8, z42.1), (9, z42.2.1), (11, z42.2.2)]) (l' := [(8, z42.1), (9, z42.2.1), (11, z42.2.2)]) rfl] at hP
      exact w_X11_named_45 hC hD e_m_at e_m_token e_m_nameSize e_m_letters e_m_fresh v1 z23 z42.1 z42.2.1 z42.2.2 hf _ _ _ hP hS (lv_sub hl [1, 2, 0] rfl)
    have hf := rf_ie c_17 hf
    refine lv_iconst (v := 0) hx hb dX11_named_20 (by decide) ?_
    obtain rfl := Option.some.inj hf
    exact rf_reti hC hP hS rfl rfl dX11_named_21
  have hf := rf_ie c_4 hf
  refine lv_iconst (v := 0) hx hb dX11_named_7 (by decide) ?_
  obtain rfl := Option.some.inj hf
  exact rf_reti hC hP hS rfl rfl dX11_named_8
set_option maxHeartbeats 4000000 in
set_option maxRecDepth 100000 in
theorem c_X11_personHere (l : Launch) (E : rf_E) (a : Nat → Nat) (I : Nat → Int32) (A : Nat → Nat → Int32) (m_at : Int32) (m_token : Int32) (m_nameSize : Int32) (m_letters : Nat → Int32) (m_fresh : Nat → Int32) (m_fault : Int32) (m_place : Int32) (m_failed : Int32) {z : Int32 × Int32 × Int32 × Int32} (e_m_at : I 3 = m_at) (e_m_token : I 5 = m_token) (e_m_nameSize : I 7 = m_nameSize) (e_m_letters : A 1 = m_letters) (e_m_fresh : A 3 = m_fresh) (e_m_fault : I 8 = m_fault) (e_m_place : I 9 = m_place) (e_m_failed : I 11 = m_failed) (hf : f_X11_personHere m_at m_token m_nameSize m_letters m_fresh m_fault m_place m_failed = some z) : rf_MI l yX11_personHere cX11_personHere 1 (some .int) ({ frames := 9, cells := 0, slots := 0, locals := 266 }) E [.ref (a 0)] (cM E a I A) z.1 (cM E a (rf_upL I [(8, z.2.1), (9, z.2.2.1), (11, z.2.2.2)]) A) := by
  unfold f_X11_personHere at hf
  refine rf_ofI (by decide) (Nat.le_of_ble_eq_true rfl) ?_
  intro p e s m below meth c A0 ls hC hD hP hS hl
  have hC : rf_C p E s m _ meth c cX11_personHere 1 RX11 (some .int) A0 := hC
  have hx := hC.1
  have hb := hC.2.1
  have hl : lv_has ls 1 [(0, .ref (a 0))] := hl
  have hP : va_P (rf_D E) vwCl (cM E a (rf_upL I [(8, m_fault), (9, m_place), (11, m_failed)]) A) s.heap := by
    rw [rf_self (f := I) [(8, m_fault), (9, m_place), (11, m_failed)] (rf_fa1 e_m_fault (rf_fa1 e_m_place (rf_fa1 e_m_failed rf_fa0)))]
    exact hP
  refine lv_aload_n hx hb dX11_personHere_0 rfl (lv_at hl 0 rfl) ?_
  refine lv_bipush (v := 10) hx hb dX11_personHere_1 (by decide) ?_
  refine lv_bipush (v := 17) hx hb dX11_personHere_3 (by decide) ?_
  obtain ⟨z5, hz5, hf⟩ := rf_bd hf
  refine rf_vi (q0 := 0) (ci := 11) hC (c_X11_named l E a (rf_upL I [(8, m_fault), (9, m_place), (11, m_failed)]) A m_at m_token m_nameSize m_letters m_fresh m_fault m_place m_failed 10 17 e_m_at e_m_token e_m_nameSize e_m_letters e_m_fresh rfl rfl rfl hz5) kV_X11_named tw_1523 ⟨Nat.le_of_ble_eq_true rfl, Nat.le_of_ble_eq_true rfl⟩ rfl rfl rfl rfl rfl hP (rf_DM hD) hS rfl hl.1 (rest := []) rfl (Nat.le_of_ble_eq_true rfl) dX11_personHere_5 (fun H locs hP hS => ?_)
  rw [rf_cat (f := I) (l := [(8, m_fault), (9, m_place), (11, m_failed)]) (lc := [(8, z5.2.1), (9, z5.2.2.1), (11, z5.2.2.2)]) (l' := [(8, z5.2.1), (9, z5.2.2.1), (11, z5.2.2.2)]) rfl] at hP
  obtain rfl := Option.some.inj hf
  exact rf_reti hC hP hS rfl rfl dX11_personHere_8
set_option maxHeartbeats 4000000 in
set_option maxRecDepth 100000 in
theorem w_X11_errandLine_45 {l : Launch} {p : Program} {e : Env} {s : State} {m : MethodId} {args : Array Value} {below : List Frame} {meth : Method} {c : Code} {A0 : Nat → Prop} {E : rf_E} {a : Nat → Nat} {I : Nat → Int32} {A : Nat → Nat → Int32} {m_size : Int32} {m_tape : Nat → Int32} {z : Int32 × Int32 × Int32 × Int32 × Int32 × Int32 × Int32 × Int32 × (Nat → Int32) × (Nat → Int32)} (hC : rf_C p E s m args meth c cX11_errandLine 3 RX11 (none) A0) (hD : va_D A0 (cM E a I A)) (e_m_size : I 2 = m_size) (e_m_tape : A 0 = m_tape) :
    ∀ (v1 : Int32) (m_at : Int32) (m_end : Int32) (m_token : Int32) (m_whole : Int32) (m_nameSize : Int32) (m_fault : Int32) (m_place : Int32) (m_failed : Int32) (m_letters : Nat → Int32) (m_fresh : Nat → Int32), f_X11_errandLine_45 m_size m_tape v1 m_at m_end m_token m_whole m_nameSize m_fault m_place m_failed m_letters m_fresh = some z → ∀ (H : Heap) (locs : List Loc) (ls : Array Slot), va_P (rf_D E) vwCl (cM E a (rf_upL I [(3, m_at), (4, m_end), (5, m_token), (6, m_whole), (7, m_nameSize), (8, m_fault), (9, m_place), (11, m_failed)]) (rf_upL A [(1, m_letters), (3, m_fresh)])) H → va_S A0 s.heap H locs → lv_has ls 3 [(0, .ref (a 0)), (1, .int v1)] → W p l e ({ frames := 10, cells := 0, slots := 0, locals := 288 }) s m args below meth c H locs 0 0 (rf_QV below args s E A0 (cM E a (rf_upL I [(3, z.1), (4, z.2.1), (5, z.2.2.1), (6, z.2.2.2.1), (7, z.2.2.2.2.1), (8, z.2.2.2.2.2.1), (9, z.2.2.2.2.2.2.1), (11, z.2.2.2.2.2.2.2.1)]) (rf_upL A [(1, z.2.2.2.2.2.2.2.2.1), (3, z.2.2.2.2.2.2.2.2.2)]))) (F0 m 45 ls []) := by
  have hx := hC.1
  have hb := hC.2.1
  intro v1 m_at m_end m_token m_whole m_nameSize m_fault m_place m_failed m_letters m_fresh hf H locs ls hP hS hl
  unfold f_X11_errandLine_45 at hf
  refine lv_aload_n hx hb dX11_errandLine_45 rfl (lv_at hl 0 rfl) ?_
  refine gM_m_failed hC hP tw_1292 (v := m_failed) rfl dX11_errandLine_46 ?_
  refine lv_if_eq (tgt := 53) hx hb dX11_errandLine_49 (by decide) (fun c_49 => ?_) (fun c_49 => ?_)
  · have hf := rf_it c_49 hf
    refine lv_aload_n hx hb dX11_errandLine_53 rfl (lv_at hl 0 rfl) ?_
    obtain ⟨z54, hz54, hf⟩ := rf_bd hf
    refine rf_vv (q0 := 0) (ci := 11) hC (c_X11_next l E a (rf_upL I [(3, m_at), (4, m_end), (5, m_token), (6, m_whole), (7, m_nameSize), (8, m_fault), (9, m_place), (11, m_failed)]) (rf_upL A [(1, m_letters), (3, m_fresh)]) m_size m_tape m_at m_end m_token m_whole m_nameSize m_letters e_m_size e_m_tape rfl rfl rfl rfl rfl rfl hz54) kV_X11_next tw_1414 ⟨Nat.le_of_ble_eq_true rfl, Nat.le_of_ble_eq_true rfl⟩ rfl rfl rfl rfl rfl hP (rf_DM hD) hS rfl hl.1 (rest := []) rfl (Nat.le_of_ble_eq_true rfl) dX11_errandLine_54 (fun H locs hP hS => ?_)
    rw [rf_cat (f := I) (l := [(3, m_at), (4, m_end), (5, m_token), (6, m_whole), (7, m_nameSize), (8, m_fault), (9, m_place), (11, m_failed)]) (lc := [(3, z54.1), (4, z54.2.1), (5, z54.2.2.1), (6, z54.2.2.2.1), (7, z54.2.2.2.2.1)]) (l' := [(3, z54.1), (4, z54.2.1), (5, z54.2.2.1), (6, z54.2.2.2.1), (7, z54.2.2.2.2.1), (8, m_fault), (9, m_place), (11, m_failed)]) rfl] at hP
    rw [rf_cat (f := A) (l := [(1, m_letters), (3, m_fresh)]) (lc := [(1, z54.2.2.2.2.2)]) (l' := [(1, z54.2.2.2.2.2), (3, m_fresh)]) rfl] at hP
    refine lv_aload_n hx hb dX11_errandLine_57 rfl (lv_at hl 0 rfl) ?_
    refine rf_ldcwS hx hb hC.2.2.2.1 (lk_45 hC.2.2.2.2.2.2.2.1.2.2.2) dX11_errandLine_58 ?_
    refine lv_iconst (v := 1) hx hb dX11_errandLine_61 (by decide) ?_
    refine lv_iconst (v := 4) hx hb dX11_errandLine_62 (by decide) ?_
    obtain ⟨z63, hz63, hf⟩ := rf_bd hf
    refine rf_vi (q0 := 0) (ci := 11) hC (c_X11_after l E a (rf_upL I [(3, z54.1), (4, z54.2.1), (5, z54.2.2.1), (6, z54.2.2.2.1), (7, z54.2.2.2.2.1), (8, m_fault), (9, m_place), (11, m_failed)]) (rf_upL A [(1, z54.2.2.2.2.2), (3, m_fresh)]) m_size m_tape z54.1 z54.2.1 z54.2.2.1 z54.2.2.2.1 z54.2.2.2.2.1 m_fault m_place m_failed z54.2.2.2.2.2 45 1 4 e_m_size e_m_tape rfl rfl rfl rfl rfl rfl rfl rfl rfl (by decide) hz63) kV_X11_after tw_1448 ⟨Nat.le_of_ble_eq_true rfl, Nat.le_of_ble_eq_true rfl⟩ rfl rfl rfl rfl rfl hP (rf_DM hD) hS rfl hl.1 (rest := []) rfl (Nat.le_of_ble_eq_true rfl) dX11_errandLine_63 (fun H locs hP hS => ?_)
    rw [rf_cat (f := I) (l := [(3, z54.1), (4, z54.2.1), (5, z54.2.2.1), (6, z54.2.2.2.1), (7, z54.2.2.2.2.1), (8, m_fault), (9, m_place), (11, m_failed)]) (lc := [(3, z63.2.1), (4, z63.2.2.1), (5, z63.2.2.2.1), (6, z63.2.2.2.2.1), (7, z63.2.2.2.2.2.1), (8, z63.2.2.2.2.2.2.1), (9, z63.2.2.2.2.2.2.2.1), (11, z63.2.2.2.2.2.2.2.2.1)]) (l' := [(3, z63.2.1), (4, z63.2.2.1), (5, z63.2.2.2.1), (6, z63.2.2.2.2.1), (7, z63.2.2.2.2.2.1), (8, z63.2.2.2.2.2.2.1), (9, z63.2.2.2.2.2.2.2.1), (11, z63.2.2.2.2.2.2.2.2.1)]) rfl] at hP
    rw [rf_cat (f := A) (l := [(1, z54.2.2.2.2.2), (3, m_fresh)]) (lc := [(1, z63.2.2.2.2.2.2.2.2.2)]) (l' := [(1, z63.2.2.2.2.2.2.2.2.2), (3, m_fresh)]) rfl] at hP
    refine lv_istore_n (lv' := [(2, .int z63.1), (0, .ref (a 0)), (1, .int v1)]) hx hb dX11_errandLine_66 rfl hl (by decide) rfl (fun ls hl => ?_)
    refine lv_aload_n hx hb dX11_errandLine_67 rfl (lv_at hl 1 rfl) ?_
    refine gM_m_failed hC hP tw_1292 (v := z63.2.2.2.2.2.2.2.2.1) rfl dX11_errandLine_68 ?_
    refine lv_if_eq (tgt := 75) hx hb dX11_errandLine_71 (by decide) (fun c_71 => ?_) (fun c_71 => ?_)
    · have hf := rf_it c_71 hf
      refine lv_aload_n hx hb dX11_errandLine_75 rfl (lv_at hl 1 rfl) ?_
      refine gM_m_fresh hC hP tw_1295 dX11_errandLine_76 ?_
      refine lv_bipush (v := 89) hx hb dX11_errandLine_79 (by decide) ?_
      refine lv_iconst (v := 4) hx hb dX11_errandLine_81 (by decide) ?_
      refine lv_iload_n hx hb dX11_errandLine_82 rfl (lv_at hl 2 rfl) ?_
      refine lv_imul hx hb dX11_errandLine_83 ?_
      refine lv_iadd hx hb dX11_errandLine_84 ?_
      refine lv_iconst (v := 3) hx hb dX11_errandLine_85 (by decide) ?_
      refine lv_iadd hx hb dX11_errandLine_86 ?_
      refine lv_iload_n hx hb dX11_errandLine_87 rfl (lv_at hl 0 rfl) ?_
      obtain ⟨hi_88, hf⟩ := rf_gu hf
      refine sM_m_fresh hC hD hP hS hi_88 (f := m_fresh) rfl dX11_errandLine_88 (rf_upL A [(1, z63.2.2.2.2.2.2.2.2.2), (3, upd m_fresh (Int32.toNatClampNeg (((89 : Int32) + ((4 : Int32) * v1)) + 3)) z63.1)]) (rf_put rfl) (fun H locs hP hS => ?_)
      refine lv_aload_n hx hb dX11_errandLine_89 rfl (lv_at hl 1 rfl) ?_
      refine gM_m_fresh hC hP tw_1295 dX11_errandLine_90 ?_
      refine lv_bipush (v := 6) hx hb dX11_errandLine_93 (by decide) ?_
      refine lv_dup2_11 hx hb dX11_errandLine_95 rfl rfl ?_
      refine lM_m_fresh hC hP (by decide) (f := upd m_fresh (Int32.toNatClampNeg (((89 : Int32) + ((4 : Int32) * v1)) + 3)) z63.1) rfl dX11_errandLine_96 ?_
      refine lv_iconst (v := 1) hx hb dX11_errandLine_97 (by decide) ?_
      refine lv_iadd hx hb dX11_errandLine_98 ?_
      refine sM_m_fresh hC hD hP hS (by decide) (f := upd m_fresh (Int32.toNatClampNeg (((89 : Int32) + ((4 : Int32) * v1)) + 3)) z63.1) rfl dX11_errandLine_99 (rf_upL A [(1, z63.2.2.2.2.2.2.2.2.2), (3, upd (upd m_fresh (Int32.toNatClampNeg (((89 : Int32) + ((4 : Int32) * v1)) + 3)) z63.1) (Int32.toNatClampNeg 6) (((upd m_fresh (Int32.toNatClampNeg (((89 : Int32) + ((4 : Int32) * v1)) + 3)) z63.1) (Int32.toNatClampNeg 6)) + 1))]) (rf_put rfl) (fun H locs hP hS => ?_)
      obtain rfl := Option.some.inj hf
      exact rf_retv hC hP hS rfl dX11_errandLine_100
    have hf := rf_ie c_71 hf
    obtain rfl := Option.some.inj hf
    exact rf_retv hC hP hS rfl dX11_errandLine_74
  have hf := rf_ie c_49 hf
  obtain rfl := Option.some.inj hf
  exact rf_retv hC hP hS rfl dX11_errandLine_52
set_option maxHeartbeats 4000000 in
set_option maxRecDepth 100000 in
theorem c_X11_errandLine (l : Launch) (E : rf_E) (a : Nat → Nat) (I : Nat → Int32) (A : Nat → Nat → Int32) (m_size : Int32) (m_tape : Nat → Int32) (m_at : Int32) (m_end : Int32) (m_token : Int32) (m_whole : Int32) (m_nameSize : Int32) (m_fault : Int32) (m_place : Int32) (m_failed : Int32) (m_letters : Nat → Int32) (m_fresh : Nat → Int32) {z : Int32 × Int32 × Int32 × Int32 × Int32 × Int32 × Int32 × Int32 × (Nat → Int32) × (Nat → Int32)} (e_m_size : I 2 = m_size) (e_m_tape : A 0 = m_tape) (e_m_at : I 3 = m_at) (e_m_end : I 4 = m_end) (e_m_token : I 5 = m_token) (e_m_whole : I 6 = m_whole) (e_m_nameSize : I 7 = m_nameSize) (e_m_fault : I 8 = m_fault) (e_m_place : I 9 = m_place) (e_m_failed : I 11 = m_failed) (e_m_letters : A 1 = m_letters) (e_m_fresh : A 3 = m_fresh) (hf : f_X11_errandLine m_size m_tape m_at m_end m_token m_whole m_nameSize m_fault m_place m_failed m_letters m_fresh = some z) : rf_MV l yX11_errandLine cX11_errandLine 3 ({ frames := 10, cells := 0, slots := 0, locals := 288 }) E [.ref (a 0)] (cM E a I A) (cM E a (rf_upL I [(3, z.1), (4, z.2.1), (5, z.2.2.1), (6, z.2.2.2.1), (7, z.2.2.2.2.1), (8, z.2.2.2.2.2.1), (9, z.2.2.2.2.2.2.1), (11, z.2.2.2.2.2.2.2.1)]) (rf_upL A [(1, z.2.2.2.2.2.2.2.2.1), (3, z.2.2.2.2.2.2.2.2.2)])) := by
  unfold f_X11_errandLine at hf
  refine rf_ofV (by decide) (Nat.le_of_ble_eq_true rfl) ?_
  intro p e s m below meth c A0 ls hC hD hP hS hl
  have hC : rf_C p E s m _ meth c cX11_errandLine 3 RX11 (none) A0 := hC
  have hx := hC.1
  have hb := hC.2.1
  have hl : lv_has ls 3 [(0, .ref (a 0))] := hl
  have hP : va_P (rf_D E) vwCl (cM E a (rf_upL I [(3, m_at), (4, m_end), (5, m_token), (6, m_whole), (7, m_nameSize), (8, m_fault), (9, m_place), (11, m_failed)]) (rf_upL A [(1, m_letters), (3, m_fresh)])) s.heap := by
    rw [rf_self (f := I) [(3, m_at), (4, m_end), (5, m_token), (6, m_whole), (7, m_nameSize), (8, m_fault), (9, m_place), (11, m_failed)] (rf_fa1 e_m_at (rf_fa1 e_m_end (rf_fa1 e_m_token (rf_fa1 e_m_whole (rf_fa1 e_m_nameSize (rf_fa1 e_m_fault (rf_fa1 e_m_place (rf_fa1 e_m_failed rf_fa0))))))))]
    rw [rf_self (f := A) [(1, m_letters), (3, m_fresh)] (rf_fa1 e_m_letters (rf_fa1 e_m_fresh rf_fa0))]
    exact hP
  refine lv_aload_n hx hb dX11_errandLine_0 rfl (lv_at hl 0 rfl) ?_
  refine gM_m_failed hC hP tw_1292 (v := m_failed) rfl dX11_errandLine_1 ?_
  refine lv_if_eq (tgt := 8) hx hb dX11_errandLine_4 (by decide) (fun c_4 => ?_) (fun c_4 => ?_)
  · have hf := rf_it c_4 hf
    refine lv_aload_n hx hb dX11_errandLine_8 rfl (lv_at hl 0 rfl) ?_
    obtain ⟨z9, hz9, hf⟩ := rf_bd hf
    refine rf_vi (q0 := 0) (ci := 11) hC (c_X11_personHere l E a (rf_upL I [(3, m_at), (4, m_end), (5, m_token), (6, m_whole), (7, m_nameSize), (8, m_fault), (9, m_place), (11, m_failed)]) (rf_upL A [(1, m_letters), (3, m_fresh)]) m_at m_token m_nameSize m_letters m_fresh m_fault m_place m_failed rfl rfl rfl rfl rfl rfl rfl rfl hz9) kV_X11_personHere tw_1535 ⟨Nat.le_of_ble_eq_true rfl, Nat.le_of_ble_eq_true rfl⟩ rfl rfl rfl rfl rfl hP (rf_DM hD) hS rfl hl.1 (rest := []) rfl (Nat.le_of_ble_eq_true rfl) dX11_errandLine_9 (fun H locs hP hS => ?_)
    rw [rf_cat (f := I) (l := [(3, m_at), (4, m_end), (5, m_token), (6, m_whole), (7, m_nameSize), (8, m_fault), (9, m_place), (11, m_failed)]) (lc := [(8, z9.2.1), (9, z9.2.2.1), (11, z9.2.2.2)]) (l' := [(3, m_at), (4, m_end), (5, m_token), (6, m_whole), (7, m_nameSize), (8, z9.2.1), (9, z9.2.2.1), (11, z9.2.2.2)]) rfl] at hP
    refine lv_istore_n (lv' := [(1, .int z9.1), (0, .ref (a 0))]) hx hb dX11_errandLine_12 rfl hl (by decide) rfl (fun ls hl => ?_)
    refine lv_aload_n hx hb dX11_errandLine_13 rfl (lv_at hl 1 rfl) ?_
    refine gM_m_failed hC hP tw_1292 (v := z9.2.2.2) rfl dX11_errandLine_14 ?_
    refine lv_if_ne (tgt := 45) hx hb dX11_errandLine_17 (by decide) (fun c_17 => ?_) (fun c_17 => ?_)
    · have hf := rf_ie c_17 hf
      exact w_X11_errandLine_45 hC hD e_m_size e_m_tape z9.1 m_at m_end m_token m_whole m_nameSize z9.2.1 z9.2.2.1 z9.2.2.2 m_letters m_fresh hf _ _ _ hP hS (lv_sub hl [1, 0] rfl)
    have hf := rf_it c_17 hf
    refine lv_aload_n hx hb dX11_errandLine_20 rfl (lv_at hl 1 rfl) ?_
    refine gM_m_fresh hC hP tw_1295 dX11_errandLine_21 ?_
    refine lv_bipush (v := 89) hx hb dX11_errandLine_24 (by decide) ?_
    refine lv_iconst (v := 4) hx hb dX11_errandLine_26 (by decide) ?_
    refine lv_iload_n hx hb dX11_errandLine_27 rfl (lv_at hl 0 rfl) ?_
    refine lv_imul hx hb dX11_errandLine_28 ?_
    refine lv_iadd hx hb dX11_errandLine_29 ?_
    refine lv_iconst (v := 3) hx hb dX11_errandLine_30 (by decide) ?_
    refine lv_iadd hx hb dX11_errandLine_31 ?_
    obtain ⟨hi_32, hf⟩ := rf_gu hf
    refine lM_m_fresh hC hP hi_32 (f := m_fresh) rfl dX11_errandLine_32 ?_
    refine lv_if_le (tgt := 45) hx hb dX11_errandLine_33 (by decide) (fun c_33 => ?_) (fun c_33 => ?_)
    · have hf := rf_it c_33 hf
      exact w_X11_errandLine_45 hC hD e_m_size e_m_tape z9.1 m_at m_end m_token m_whole m_nameSize z9.2.1 z9.2.2.1 z9.2.2.2 m_letters m_fresh hf _ _ _ hP hS (lv_sub hl [1, 0] rfl)
    have hf := rf_ie c_33 hf
    refine lv_aload_n hx hb dX11_errandLine_36 rfl (lv_at hl 1 rfl) ?_
    refine lv_iconst (v := 3) hx hb dX11_errandLine_37 (by decide) ?_
    refine lv_aload_n hx hb dX11_errandLine_38 rfl (lv_at hl 1 rfl) ?_
    refine gM_m_at hC hP tw_1283 (v := m_at) rfl dX11_errandLine_39 ?_
    obtain ⟨z42, hz42, hf⟩ := rf_bd hf
    refine rf_vv (q0 := 0) (ci := 11) hC (c_X11_wrong l E a (rf_upL I [(3, m_at), (4, m_end), (5, m_token), (6, m_whole), (7, m_nameSize), (8, z9.2.1), (9, z9.2.2.1), (11, z9.2.2.2)]) (rf_upL A [(1, m_letters), (3, m_fresh)]) z9.2.1 z9.2.2.1 z9.2.2.2 3 m_at rfl rfl rfl hz42) kV_X11_wrong tw_1443 ⟨Nat.le_of_ble_eq_true rfl, Nat.le_of_ble_eq_true rfl⟩ rfl rfl rfl rfl rfl hP (rf_DM hD) hS rfl hl.1 (rest := []) rfl (Nat.le_of_ble_eq_true rfl) dX11_errandLine_42 (fun H locs hP hS => ?_)
    rw [rf_cat (f := I) (l := [(3, m_at), (4, m_end), (5, m_token), (6, m_whole), (7, m_nameSize), (8, z9.2.1), (9, z9.2.2.1), (11, z9.2.2.2)]) (lc := [(8, z42.1), (9, z42.2.1), (11, z42.2.2)]) (l' := [(3, m_at), (4, m_end), (5, m_token), (6, m_whole), (7, m_nameSize), (8, z42.1), (9, z42.2.1), (11, z42.2.2)]) rfl] at hP
    exact w_X11_errandLine_45 hC hD e_m_size e_m_tape z9.1 m_at m_end m_token m_whole m_nameSize z42.1 z42.2.1 z42.2.2 m_letters m_fresh hf _ _ _ hP hS (lv_sub hl [1, 0] rfl)
  have hf := rf_ie c_4 hf
  obtain rfl := Option.some.inj hf
  exact rf_retv hC hP hS rfl dX11_errandLine_7
set_option maxHeartbeats 4000000 in
set_option maxRecDepth 100000 in
theorem w_X11_ferryLine_18 {l : Launch} {p : Program} {e : Env} {s : State} {m : MethodId} {args : Array Value} {below : List Frame} {meth : Method} {c : Code} {A0 : Nat → Prop} {E : rf_E} {a : Nat → Nat} {I : Nat → Int32} {A : Nat → Nat → Int32} {m_size : Int32} {m_tape : Nat → Int32} {z : Int32 × Int32 × Int32 × Int32 × Int32 × Int32 × Int32 × Int32 × (Nat → Int32) × (Nat → Int32)} (hC : rf_C p E s m args meth c cX11_ferryLine 2 RX11 (none) A0) (hD : va_D A0 (cM E a I A)) (e_m_size : I 2 = m_size) (e_m_tape : A 0 = m_tape) :
    ∀ (m_at : Int32) (m_end : Int32) (m_token : Int32) (m_whole : Int32) (m_nameSize : Int32) (m_fault : Int32) (m_place : Int32) (m_failed : Int32) (m_letters : Nat → Int32) (m_fresh : Nat → Int32), f_X11_ferryLine_18 m_size m_tape m_at m_end m_token m_whole m_nameSize m_fault m_place m_failed m_letters m_fresh = some z → ∀ (H : Heap) (locs : List Loc) (ls : Array Slot), va_P (rf_D E) vwCl (cM E a (rf_upL I [(3, m_at), (4, m_end), (5, m_token), (6, m_whole), (7, m_nameSize), (8, m_fault), (9, m_place), (11, m_failed)]) (rf_upL A [(1, m_letters), (3, m_fresh)])) H → va_S A0 s.heap H locs → lv_has ls 2 [(0, .ref (a 0))] → W p l e ({ frames := 10, cells := 0, slots := 0, locals := 288 }) s m args below meth c H locs 0 0 (rf_QV below args s E A0 (cM E a (rf_upL I [(3, z.1), (4, z.2.1), (5, z.2.2.1), (6, z.2.2.2.1), (7, z.2.2.2.2.1), (8, z.2.2.2.2.2.1), (9, z.2.2.2.2.2.2.1), (11, z.2.2.2.2.2.2.2.1)]) (rf_upL A [(1, z.2.2.2.2.2.2.2.2.1), (3, z.2.2.2.2.2.2.2.2.2)]))) (F0 m 18 ls []) := by
  have hx := hC.1
  have hb := hC.2.1
  intro m_at m_end m_token m_whole m_nameSize m_fault m_place m_failed m_letters m_fresh hf H locs ls hP hS hl
  unfold f_X11_ferryLine_18 at hf
  refine lv_aload_n hx hb dX11_ferryLine_18 rfl (lv_at hl 0 rfl) ?_
  refine gM_m_failed hC hP tw_1292 (v := m_failed) rfl dX11_ferryLine_19 ?_
  refine lv_if_eq (tgt := 26) hx hb dX11_ferryLine_22 (by decide) (fun c_22 => ?_) (fun c_22 => ?_)
  · have hf := rf_it c_22 hf
    refine lv_aload_n hx hb dX11_ferryLine_26 rfl (lv_at hl 0 rfl) ?_
    obtain ⟨z27, hz27, hf⟩ := rf_bd hf
    refine rf_vv (q0 := 0) (ci := 11) hC (c_X11_next l E a (rf_upL I [(3, m_at), (4, m_end), (5, m_token), (6, m_whole), (7, m_nameSize), (8, m_fault), (9, m_place), (11, m_failed)]) (rf_upL A [(1, m_letters), (3, m_fresh)]) m_size m_tape m_at m_end m_token m_whole m_nameSize m_letters e_m_size e_m_tape rfl rfl rfl rfl rfl rfl hz27) kV_X11_next tw_1414 ⟨Nat.le_of_ble_eq_true rfl, Nat.le_of_ble_eq_true rfl⟩ rfl rfl rfl rfl rfl hP (rf_DM hD) hS rfl hl.1 (rest := []) rfl (Nat.le_of_ble_eq_true rfl) dX11_ferryLine_27 (fun H locs hP hS => ?_)
    rw [rf_cat (f := I) (l := [(3, m_at), (4, m_end), (5, m_token), (6, m_whole), (7, m_nameSize), (8, m_fault), (9, m_place), (11, m_failed)]) (lc := [(3, z27.1), (4, z27.2.1), (5, z27.2.2.1), (6, z27.2.2.2.1), (7, z27.2.2.2.2.1)]) (l' := [(3, z27.1), (4, z27.2.1), (5, z27.2.2.1), (6, z27.2.2.2.1), (7, z27.2.2.2.2.1), (8, m_fault), (9, m_place), (11, m_failed)]) rfl] at hP
    rw [rf_cat (f := A) (l := [(1, m_letters), (3, m_fresh)]) (lc := [(1, z27.2.2.2.2.2)]) (l' := [(1, z27.2.2.2.2.2), (3, m_fresh)]) rfl] at hP
    refine lv_aload_n hx hb dX11_ferryLine_30 rfl (lv_at hl 0 rfl) ?_
    refine va_ldcS hx hb hC.2.2.2.1 (lk_25 hC.2.2.2.2.2.2.2.1.2.2.2) dX11_ferryLine_31 ?_
    refine lv_iconst (v := 2) hx hb dX11_ferryLine_33 (by decide) ?_
    refine lv_iconst (v := 5) hx hb dX11_ferryLine_34 (by decide) ?_
    obtain ⟨z35, hz35, hf⟩ := rf_bd hf
    refine rf_vi (q0 := 0) (ci := 11) hC (c_X11_after l E a (rf_upL I [(3, z27.1), (4, z27.2.1), (5, z27.2.2.1), (6, z27.2.2.2.1), (7, z27.2.2.2.2.1), (8, m_fault), (9, m_place), (11, m_failed)]) (rf_upL A [(1, z27.2.2.2.2.2), (3, m_fresh)]) m_size m_tape z27.1 z27.2.1 z27.2.2.1 z27.2.2.2.1 z27.2.2.2.2.1 m_fault m_place m_failed z27.2.2.2.2.2 25 2 5 e_m_size e_m_tape rfl rfl rfl rfl rfl rfl rfl rfl rfl (by decide) hz35) kV_X11_after tw_1448 ⟨Nat.le_of_ble_eq_true rfl, Nat.le_of_ble_eq_true rfl⟩ rfl rfl rfl rfl rfl hP (rf_DM hD) hS rfl hl.1 (rest := []) rfl (Nat.le_of_ble_eq_true rfl) dX11_ferryLine_35 (fun H locs hP hS => ?_)
    rw [rf_cat (f := I) (l := [(3, z27.1), (4, z27.2.1), (5, z27.2.2.1), (6, z27.2.2.2.1), (7, z27.2.2.2.2.1), (8, m_fault), (9, m_place), (11, m_failed)]) (lc := [(3, z35.2.1), (4, z35.2.2.1), (5, z35.2.2.2.1), (6, z35.2.2.2.2.1), (7, z35.2.2.2.2.2.1), (8, z35.2.2.2.2.2.2.1), (9, z35.2.2.2.2.2.2.2.1), (11, z35.2.2.2.2.2.2.2.2.1)]) (l' := [(3, z35.2.1), (4, z35.2.2.1), (5, z35.2.2.2.1), (6, z35.2.2.2.2.1), (7, z35.2.2.2.2.2.1), (8, z35.2.2.2.2.2.2.1), (9, z35.2.2.2.2.2.2.2.1), (11, z35.2.2.2.2.2.2.2.2.1)]) rfl] at hP
    rw [rf_cat (f := A) (l := [(1, z27.2.2.2.2.2), (3, m_fresh)]) (lc := [(1, z35.2.2.2.2.2.2.2.2.2)]) (l' := [(1, z35.2.2.2.2.2.2.2.2.2), (3, m_fresh)]) rfl] at hP
    refine lv_istore_n (lv' := [(1, .int z35.1), (0, .ref (a 0))]) hx hb dX11_ferryLine_38 rfl hl (by decide) rfl (fun ls hl => ?_)
    refine lv_aload_n hx hb dX11_ferryLine_39 rfl (lv_at hl 1 rfl) ?_
    refine gM_m_fresh hC hP tw_1295 dX11_ferryLine_40 ?_
    refine lv_iconst (v := 1) hx hb dX11_ferryLine_43 (by decide) ?_
    refine lv_aload_n hx hb dX11_ferryLine_44 rfl (lv_at hl 1 rfl) ?_
    refine va_ldcS hx hb hC.2.2.2.1 (lk_26 hC.2.2.2.2.2.2.2.1.2.2.2) dX11_ferryLine_45 ?_
    refine lv_iconst (v := 1) hx hb dX11_ferryLine_47 (by decide) ?_
    refine lv_iconst (v := 3) hx hb dX11_ferryLine_48 (by decide) ?_
    obtain ⟨z49, hz49, hf⟩ := rf_bd hf
    refine rf_vi (q0 := 0) (ci := 11) hC (c_X11_after l E a (rf_upL I [(3, z35.2.1), (4, z35.2.2.1), (5, z35.2.2.2.1), (6, z35.2.2.2.2.1), (7, z35.2.2.2.2.2.1), (8, z35.2.2.2.2.2.2.1), (9, z35.2.2.2.2.2.2.2.1), (11, z35.2.2.2.2.2.2.2.2.1)]) (rf_upL A [(1, z35.2.2.2.2.2.2.2.2.2), (3, m_fresh)]) m_size m_tape z35.2.1 z35.2.2.1 z35.2.2.2.1 z35.2.2.2.2.1 z35.2.2.2.2.2.1 z35.2.2.2.2.2.2.1 z35.2.2.2.2.2.2.2.1 z35.2.2.2.2.2.2.2.2.1 z35.2.2.2.2.2.2.2.2.2 26 1 3 e_m_size e_m_tape rfl rfl rfl rfl rfl rfl rfl rfl rfl (by decide) hz49) kV_X11_after tw_1448 ⟨Nat.le_of_ble_eq_true rfl, Nat.le_of_ble_eq_true rfl⟩ rfl rfl rfl rfl rfl hP (rf_DM hD) hS rfl hl.1 (rest := [.int 1, .ref (a 4)]) rfl (Nat.le_of_ble_eq_true rfl) dX11_ferryLine_49 (fun H locs hP hS => ?_)
    rw [rf_cat (f := I) (l := [(3, z35.2.1), (4, z35.2.2.1), (5, z35.2.2.2.1), (6, z35.2.2.2.2.1), (7, z35.2.2.2.2.2.1), (8, z35.2.2.2.2.2.2.1), (9, z35.2.2.2.2.2.2.2.1), (11, z35.2.2.2.2.2.2.2.2.1)]) (lc := [(3, z49.2.1), (4, z49.2.2.1), (5, z49.2.2.2.1), (6, z49.2.2.2.2.1), (7, z49.2.2.2.2.2.1), (8, z49.2.2.2.2.2.2.1), (9, z49.2.2.2.2.2.2.2.1), (11, z49.2.2.2.2.2.2.2.2.1)]) (l' := [(3, z49.2.1), (4, z49.2.2.1), (5, z49.2.2.2.1), (6, z49.2.2.2.2.1), (7, z49.2.2.2.2.2.1), (8, z49.2.2.2.2.2.2.1), (9, z49.2.2.2.2.2.2.2.1), (11, z49.2.2.2.2.2.2.2.2.1)]) rfl] at hP
    rw [rf_cat (f := A) (l := [(1, z35.2.2.2.2.2.2.2.2.2), (3, m_fresh)]) (lc := [(1, z49.2.2.2.2.2.2.2.2.2)]) (l' := [(1, z49.2.2.2.2.2.2.2.2.2), (3, m_fresh)]) rfl] at hP
    refine sM_m_fresh hC hD hP hS (by decide) (f := m_fresh) rfl dX11_ferryLine_52 (rf_upL A [(1, z49.2.2.2.2.2.2.2.2.2), (3, upd m_fresh (Int32.toNatClampNeg 1) z49.1)]) (rf_put rfl) (fun H locs hP hS => ?_)
    refine lv_aload_n hx hb dX11_ferryLine_53 rfl (lv_at hl 1 rfl) ?_
    refine gM_m_failed hC hP tw_1292 (v := z49.2.2.2.2.2.2.2.2.1) rfl dX11_ferryLine_54 ?_
    refine lv_if_ne (tgt := 67) hx hb dX11_ferryLine_57 (by decide) (fun c_57 => ?_) (fun c_57 => ?_)
    · have hf := rf_ie c_57 hf
      obtain rfl := Option.some.inj hf
      exact rf_retv hC hP hS rfl dX11_ferryLine_67
    have hf := rf_it c_57 hf
    refine lv_aload_n hx hb dX11_ferryLine_60 rfl (lv_at hl 1 rfl) ?_
    refine gM_m_fresh hC hP tw_1295 dX11_ferryLine_61 ?_
    refine lv_iconst (v := 0) hx hb dX11_ferryLine_64 (by decide) ?_
    refine lv_iload_n hx hb dX11_ferryLine_65 rfl (lv_at hl 0 rfl) ?_
    refine sM_m_fresh hC hD hP hS (by decide) (f := upd m_fresh (Int32.toNatClampNeg 1) z49.1) rfl dX11_ferryLine_66 (rf_upL A [(1, z49.2.2.2.2.2.2.2.2.2), (3, upd (upd m_fresh (Int32.toNatClampNeg 1) z49.1) (Int32.toNatClampNeg 0) z35.1)]) (rf_put rfl) (fun H locs hP hS => ?_)
    obtain rfl := Option.some.inj hf
    exact rf_retv hC hP hS rfl dX11_ferryLine_67
  have hf := rf_ie c_22 hf
  obtain rfl := Option.some.inj hf
  exact rf_retv hC hP hS rfl dX11_ferryLine_25
set_option maxHeartbeats 4000000 in
set_option maxRecDepth 100000 in
theorem c_X11_ferryLine (l : Launch) (E : rf_E) (a : Nat → Nat) (I : Nat → Int32) (A : Nat → Nat → Int32) (m_size : Int32) (m_tape : Nat → Int32) (m_at : Int32) (m_end : Int32) (m_token : Int32) (m_whole : Int32) (m_nameSize : Int32) (m_fault : Int32) (m_place : Int32) (m_failed : Int32) (m_letters : Nat → Int32) (m_fresh : Nat → Int32) {z : Int32 × Int32 × Int32 × Int32 × Int32 × Int32 × Int32 × Int32 × (Nat → Int32) × (Nat → Int32)} (e_m_size : I 2 = m_size) (e_m_tape : A 0 = m_tape) (e_m_at : I 3 = m_at) (e_m_end : I 4 = m_end) (e_m_token : I 5 = m_token) (e_m_whole : I 6 = m_whole) (e_m_nameSize : I 7 = m_nameSize) (e_m_fault : I 8 = m_fault) (e_m_place : I 9 = m_place) (e_m_failed : I 11 = m_failed) (e_m_letters : A 1 = m_letters) (e_m_fresh : A 3 = m_fresh) (hf : f_X11_ferryLine m_size m_tape m_at m_end m_token m_whole m_nameSize m_fault m_place m_failed m_letters m_fresh = some z) : rf_MV l yX11_ferryLine cX11_ferryLine 2 ({ frames := 10, cells := 0, slots := 0, locals := 288 }) E [.ref (a 0)] (cM E a I A) (cM E a (rf_upL I [(3, z.1), (4, z.2.1), (5, z.2.2.1), (6, z.2.2.2.1), (7, z.2.2.2.2.1), (8, z.2.2.2.2.2.1), (9, z.2.2.2.2.2.2.1), (11, z.2.2.2.2.2.2.2.1)]) (rf_upL A [(1, z.2.2.2.2.2.2.2.2.1), (3, z.2.2.2.2.2.2.2.2.2)])) := by
  unfold f_X11_ferryLine at hf
  refine rf_ofV (by decide) (Nat.le_of_ble_eq_true rfl) ?_
  intro p e s m below meth c A0 ls hC hD hP hS hl
  have hC : rf_C p E s m _ meth c cX11_ferryLine 2 RX11 (none) A0 := hC
  have hx := hC.1
  have hb := hC.2.1
  have hl : lv_has ls 2 [(0, .ref (a 0))] := hl
  have hP : va_P (rf_D E) vwCl (cM E a (rf_upL I [(3, m_at), (4, m_end), (5, m_token), (6, m_whole), (7, m_nameSize), (8, m_fault), (9, m_place), (11, m_failed)]) (rf_upL A [(1, m_letters), (3, m_fresh)])) s.heap := by
    rw [rf_self (f := I) [(3, m_at), (4, m_end), (5, m_token), (6, m_whole), (7, m_nameSize), (8, m_fault), (9, m_place), (11, m_failed)] (rf_fa1 e_m_at (rf_fa1 e_m_end (rf_fa1 e_m_token (rf_fa1 e_m_whole (rf_fa1 e_m_nameSize (rf_fa1 e_m_fault (rf_fa1 e_m_place (rf_fa1 e_m_failed rf_fa0))))))))]
    rw [rf_self (f := A) [(1, m_letters), (3, m_fresh)] (rf_fa1 e_m_letters (rf_fa1 e_m_fresh rf_fa0))]
    exact hP
  refine lv_aload_n hx hb dX11_ferryLine_0 rfl (lv_at hl 0 rfl) ?_
  refine gM_m_fresh hC hP tw_1295 dX11_ferryLine_1 ?_
  refine lv_iconst (v := 0) hx hb dX11_ferryLine_4 (by decide) ?_
  refine lM_m_fresh hC hP (by decide) (f := m_fresh) rfl dX11_ferryLine_5 ?_
  refine lv_if_le (tgt := 18) hx hb dX11_ferryLine_6 (by decide) (fun c_6 => ?_) (fun c_6 => ?_)
  · have hf := rf_it c_6 hf
    exact w_X11_ferryLine_18 hC hD e_m_size e_m_tape m_at m_end m_token m_whole m_nameSize m_fault m_place m_failed m_letters m_fresh hf _ _ _ hP hS (lv_sub hl [0] rfl)
  have hf := rf_ie c_6 hf
  refine lv_aload_n hx hb dX11_ferryLine_9 rfl (lv_at hl 0 rfl) ?_
  refine lv_iconst (v := 3) hx hb dX11_ferryLine_10 (by decide) ?_
  refine lv_aload_n hx hb dX11_ferryLine_11 rfl (lv_at hl 0 rfl) ?_
  refine gM_m_at hC hP tw_1283 (v := m_at) rfl dX11_ferryLine_12 ?_
  obtain ⟨z15, hz15, hf⟩ := rf_bd hf
  refine rf_vv (q0 := 0) (ci := 11) hC (c_X11_wrong l E a (rf_upL I [(3, m_at), (4, m_end), (5, m_token), (6, m_whole), (7, m_nameSize), (8, m_fault), (9, m_place), (11, m_failed)]) (rf_upL A [(1, m_letters), (3, m_fresh)]) m_fault m_place m_failed 3 m_at rfl rfl rfl hz15) kV_X11_wrong tw_1443 ⟨Nat.le_of_ble_eq_true rfl, Nat.le_of_ble_eq_true rfl⟩ rfl rfl rfl rfl rfl hP (rf_DM hD) hS rfl hl.1 (rest := []) rfl (Nat.le_of_ble_eq_true rfl) dX11_ferryLine_15 (fun H locs hP hS => ?_)
  rw [rf_cat (f := I) (l := [(3, m_at), (4, m_end), (5, m_token), (6, m_whole), (7, m_nameSize), (8, m_fault), (9, m_place), (11, m_failed)]) (lc := [(8, z15.1), (9, z15.2.1), (11, z15.2.2)]) (l' := [(3, m_at), (4, m_end), (5, m_token), (6, m_whole), (7, m_nameSize), (8, z15.1), (9, z15.2.1), (11, z15.2.2)]) rfl] at hP
  exact w_X11_ferryLine_18 hC hD e_m_size e_m_tape m_at m_end m_token m_whole m_nameSize z15.1 z15.2.1 z15.2.2 m_letters m_fresh hf _ _ _ hP hS (lv_sub hl [0] rfl)
set_option maxHeartbeats 4000000 in
set_option maxRecDepth 100000 in
theorem w_X11_oneOf_77 {l : Launch} {p : Program} {e : Env} {s : State} {m : MethodId} {args : Array Value} {below : List Frame} {meth : Method} {c : Code} {A0 : Nat → Prop} {E : rf_E} {a : Nat → Nat} {I : Nat → Int32} {A : Nat → Nat → Int32} {m_size : Int32} {m_tape : Nat → Int32} {z : Int32 × Int32 × Int32 × Int32 × Int32 × Int32 × Int32 × Int32 × Int32 × (Nat → Int32)} (hC : rf_C p E s m args meth c cX11_oneOf 6 RX11 (some .int) A0) (hD : va_D A0 (cM E a I A)) (e_m_size : I 2 = m_size) (e_m_tape : A 0 = m_tape) :
    ∀ (v5 : Int32) (m_at : Int32) (m_end : Int32) (m_token : Int32) (m_whole : Int32) (m_nameSize : Int32) (m_fault : Int32) (m_place : Int32) (m_failed : Int32) (m_letters : Nat → Int32), f_X11_oneOf_77 m_size m_tape v5 m_at m_end m_token m_whole m_nameSize m_fault m_place m_failed m_letters = some z → ∀ (H : Heap) (locs : List Loc) (ls : Array Slot), va_P (rf_D E) vwCl (cM E a (rf_upL I [(3, m_at), (4, m_end), (5, m_token), (6, m_whole), (7, m_nameSize), (8, m_fault), (9, m_place), (11, m_failed)]) (rf_upL A [(1, m_letters)])) H → va_S A0 s.heap H locs → lv_has ls 6 [(5, .int v5)] → W p l e ({ frames := 7, cells := 0, slots := 0, locals := 223 }) s m args below meth c H locs 0 0 (rf_QI below args s E A0 z.1 (cM E a (rf_upL I [(3, z.2.1), (4, z.2.2.1), (5, z.2.2.2.1), (6, z.2.2.2.2.1), (7, z.2.2.2.2.2.1), (8, z.2.2.2.2.2.2.1), (9, z.2.2.2.2.2.2.2.1), (11, z.2.2.2.2.2.2.2.2.1)]) (rf_upL A [(1, z.2.2.2.2.2.2.2.2.2)]))) (F0 m 77 ls []) := by
  have hx := hC.1
  have hb := hC.2.1
  intro v5 m_at m_end m_token m_whole m_nameSize m_fault m_place m_failed m_letters hf H locs ls hP hS hl
  unfold f_X11_oneOf_77 at hf
  refine lv_iload hx hb dX11_oneOf_77 (lv_at hl 0 rfl) ?_
  obtain rfl := Option.some.inj hf
  exact rf_reti hC hP hS rfl rfl dX11_oneOf_79
set_option maxHeartbeats 4000000 in
set_option maxRecDepth 100000 in
theorem w_X11_oneOf_66 {l : Launch} {p : Program} {e : Env} {s : State} {m : MethodId} {args : Array Value} {below : List Frame} {meth : Method} {c : Code} {A0 : Nat → Prop} {E : rf_E} {a : Nat → Nat} {I : Nat → Int32} {A : Nat → Nat → Int32} {m_size : Int32} {m_tape : Nat → Int32} {z : Int32 × Int32 × Int32 × Int32 × Int32 × Int32 × Int32 × Int32 × Int32 × (Nat → Int32)} (hC : rf_C p E s m args meth c cX11_oneOf 6 RX11 (some .int) A0) (hD : va_D A0 (cM E a I A)) (e_m_size : I 2 = m_size) (e_m_tape : A 0 = m_tape) :
    ∀ (v5 : Int32) (m_at : Int32) (m_end : Int32) (m_token : Int32) (m_whole : Int32) (m_nameSize : Int32) (m_fault : Int32) (m_place : Int32) (m_failed : Int32) (m_letters : Nat → Int32), f_X11_oneOf_66 m_size m_tape v5 m_at m_end m_token m_whole m_nameSize m_fault m_place m_failed m_letters = some z → ∀ (H : Heap) (locs : List Loc) (ls : Array Slot), va_P (rf_D E) vwCl (cM E a (rf_upL I [(3, m_at), (4, m_end), (5, m_token), (6, m_whole), (7, m_nameSize), (8, m_fault), (9, m_place), (11, m_failed)]) (rf_upL A [(1, m_letters)])) H → va_S A0 s.heap H locs → lv_has ls 6 [(0, .ref (a 0)), (5, .int v5)] → W p l e ({ frames := 7, cells := 0, slots := 0, locals := 223 }) s m args below meth c H locs 0 0 (rf_QI below args s E A0 z.1 (cM E a (rf_upL I [(3, z.2.1), (4, z.2.2.1), (5, z.2.2.2.1), (6, z.2.2.2.2.1), (7, z.2.2.2.2.2.1), (8, z.2.2.2.2.2.2.1), (9, z.2.2.2.2.2.2.2.1), (11, z.2.2.2.2.2.2.2.2.1)]) (rf_upL A [(1, z.2.2.2.2.2.2.2.2.2)]))) (F0 m 66 ls []) := by
  have hx := hC.1
  have hb := hC.2.1
  intro v5 m_at m_end m_token m_whole m_nameSize m_fault m_place m_failed m_letters hf H locs ls hP hS hl
  unfold f_X11_oneOf_66 at hf
  refine lv_aload_n hx hb dX11_oneOf_66 rfl (lv_at hl 0 rfl) ?_
  refine gM_m_failed hC hP tw_1292 (v := m_failed) rfl dX11_oneOf_67 ?_
  refine lv_if_ne (tgt := 77) hx hb dX11_oneOf_70 (by decide) (fun c_70 => ?_) (fun c_70 => ?_)
  · have hf := rf_ie c_70 hf
    exact w_X11_oneOf_77 hC hD e_m_size e_m_tape v5 m_at m_end m_token m_whole m_nameSize m_fault m_place m_failed m_letters hf _ _ _ hP hS (lv_sub hl [1] rfl)
  have hf := rf_it c_70 hf
  refine lv_aload_n hx hb dX11_oneOf_73 rfl (lv_at hl 0 rfl) ?_
  obtain ⟨z74, hz74, hf⟩ := rf_bd hf
  refine rf_vv (q0 := 0) (ci := 11) hC (c_X11_next l E a (rf_upL I [(3, m_at), (4, m_end), (5, m_token), (6, m_whole), (7, m_nameSize), (8, m_fault), (9, m_place), (11, m_failed)]) (rf_upL A [(1, m_letters)]) m_size m_tape m_at m_end m_token m_whole m_nameSize m_letters e_m_size e_m_tape rfl rfl rfl rfl rfl rfl hz74) kV_X11_next tw_1414 ⟨Nat.le_of_ble_eq_true rfl, Nat.le_of_ble_eq_true rfl⟩ rfl rfl rfl rfl rfl hP (rf_DM hD) hS rfl hl.1 (rest := []) rfl (Nat.le_of_ble_eq_true rfl) dX11_oneOf_74 (fun H locs hP hS => ?_)
  rw [rf_cat (f := I) (l := [(3, m_at), (4, m_end), (5, m_token), (6, m_whole), (7, m_nameSize), (8, m_fault), (9, m_place), (11, m_failed)]) (lc := [(3, z74.1), (4, z74.2.1), (5, z74.2.2.1), (6, z74.2.2.2.1), (7, z74.2.2.2.2.1)]) (l' := [(3, z74.1), (4, z74.2.1), (5, z74.2.2.1), (6, z74.2.2.2.1), (7, z74.2.2.2.2.1), (8, m_fault), (9, m_place), (11, m_failed)]) rfl] at hP
  rw [rf_cat (f := A) (l := [(1, m_letters)]) (lc := [(1, z74.2.2.2.2.2)]) (l' := [(1, z74.2.2.2.2.2)]) rfl] at hP
  exact w_X11_oneOf_77 hC hD e_m_size e_m_tape v5 z74.1 z74.2.1 z74.2.2.1 z74.2.2.2.1 z74.2.2.2.2.1 m_fault m_place m_failed z74.2.2.2.2.2 hf _ _ _ hP hS (lv_sub hl [1] rfl)
set_option maxHeartbeats 4000000 in
set_option maxRecDepth 100000 in
theorem w_X11_oneOf_50 {l : Launch} {p : Program} {e : Env} {s : State} {m : MethodId} {args : Array Value} {below : List Frame} {meth : Method} {c : Code} {A0 : Nat → Prop} {E : rf_E} {a : Nat → Nat} {I : Nat → Int32} {A : Nat → Nat → Int32} {m_size : Int32} {m_tape : Nat → Int32} {z : Int32 × Int32 × Int32 × Int32 × Int32 × Int32 × Int32 × Int32 × Int32 × (Nat → Int32)} (hC : rf_C p E s m args meth c cX11_oneOf 6 RX11 (some .int) A0) (hD : va_D A0 (cM E a I A)) (e_m_size : I 2 = m_size) (e_m_tape : A 0 = m_tape) :
    ∀ (s0 : Int32) (m_at : Int32) (m_end : Int32) (m_token : Int32) (m_whole : Int32) (m_nameSize : Int32) (m_fault : Int32) (m_place : Int32) (m_failed : Int32) (m_letters : Nat → Int32), f_X11_oneOf_50 m_size m_tape s0 m_at m_end m_token m_whole m_nameSize m_fault m_place m_failed m_letters = some z → ∀ (H : Heap) (locs : List Loc) (ls : Array Slot), va_P (rf_D E) vwCl (cM E a (rf_upL I [(3, m_at), (4, m_end), (5, m_token), (6, m_whole), (7, m_nameSize), (8, m_fault), (9, m_place), (11, m_failed)]) (rf_upL A [(1, m_letters)])) H → va_S A0 s.heap H locs → lv_has ls 6 [(0, .ref (a 0))] → W p l e ({ frames := 7, cells := 0, slots := 0, locals := 223 }) s m args below meth c H locs 0 0 (rf_QI below args s E A0 z.1 (cM E a (rf_upL I [(3, z.2.1), (4, z.2.2.1), (5, z.2.2.2.1), (6, z.2.2.2.2.1), (7, z.2.2.2.2.2.1), (8, z.2.2.2.2.2.2.1), (9, z.2.2.2.2.2.2.2.1), (11, z.2.2.2.2.2.2.2.2.1)]) (rf_upL A [(1, z.2.2.2.2.2.2.2.2.2)]))) (F0 m 50 ls [.int s0]) := by
  have hx := hC.1
  have hb := hC.2.1
  intro s0 m_at m_end m_token m_whole m_nameSize m_fault m_place m_failed m_letters hf H locs ls hP hS hl
  unfold f_X11_oneOf_50 at hf
  refine lv_istore (lv' := [(5, .int s0), (0, .ref (a 0))]) hx hb dX11_oneOf_50 hl (by decide) rfl (fun ls hl => ?_)
  refine lv_iload hx hb dX11_oneOf_52 (lv_at hl 0 rfl) ?_
  refine lv_if_ge (tgt := 66) hx hb dX11_oneOf_54 (by decide) (fun c_54 => ?_) (fun c_54 => ?_)
  · have hf := rf_it c_54 hf
    exact w_X11_oneOf_66 hC hD e_m_size e_m_tape s0 m_at m_end m_token m_whole m_nameSize m_fault m_place m_failed m_letters hf _ _ _ hP hS (lv_sub hl [1, 0] rfl)
  have hf := rf_ie c_54 hf
  refine lv_aload_n hx hb dX11_oneOf_57 rfl (lv_at hl 1 rfl) ?_
  refine lv_iconst (v := 1) hx hb dX11_oneOf_58 (by decide) ?_
  refine lv_aload_n hx hb dX11_oneOf_59 rfl (lv_at hl 1 rfl) ?_
  refine gM_m_at hC hP tw_1283 (v := m_at) rfl dX11_oneOf_60 ?_
  obtain ⟨z63, hz63, hf⟩ := rf_bd hf
  refine rf_vv (q0 := 0) (ci := 11) hC (c_X11_wrong l E a (rf_upL I [(3, m_at), (4, m_end), (5, m_token), (6, m_whole), (7, m_nameSize), (8, m_fault), (9, m_place), (11, m_failed)]) (rf_upL A [(1, m_letters)]) m_fault m_place m_failed 1 m_at rfl rfl rfl hz63) kV_X11_wrong tw_1443 ⟨Nat.le_of_ble_eq_true rfl, Nat.le_of_ble_eq_true rfl⟩ rfl rfl rfl rfl rfl hP (rf_DM hD) hS rfl hl.1 (rest := []) rfl (Nat.le_of_ble_eq_true rfl) dX11_oneOf_63 (fun H locs hP hS => ?_)
  rw [rf_cat (f := I) (l := [(3, m_at), (4, m_end), (5, m_token), (6, m_whole), (7, m_nameSize), (8, m_fault), (9, m_place), (11, m_failed)]) (lc := [(8, z63.1), (9, z63.2.1), (11, z63.2.2)]) (l' := [(3, m_at), (4, m_end), (5, m_token), (6, m_whole), (7, m_nameSize), (8, z63.1), (9, z63.2.1), (11, z63.2.2)]) rfl] at hP
  exact w_X11_oneOf_66 hC hD e_m_size e_m_tape s0 m_at m_end m_token m_whole m_nameSize z63.1 z63.2.1 z63.2.2 m_letters hf _ _ _ hP hS (lv_sub hl [1, 0] rfl)
set_option maxHeartbeats 4000000 in
set_option maxRecDepth 100000 in
theorem c_X11_oneOf (l : Launch) (E : rf_E) (a : Nat → Nat) (I : Nat → Int32) (A : Nat → Nat → Int32) (m_size : Int32) (m_tape : Nat → Int32) (m_at : Int32) (m_end : Int32) (m_token : Int32) (m_whole : Int32) (m_nameSize : Int32) (m_fault : Int32) (m_place : Int32) (m_failed : Int32) (m_letters : Nat → Int32) (v1 : Nat) (v2 : Nat) (v3 : Nat) (v4 : Nat) {z : Int32 × Int32 × Int32 × Int32 × Int32 × Int32 × Int32 × Int32 × Int32 × (Nat → Int32)} (e_m_size : I 2 = m_size) (e_m_tape : A 0 = m_tape) (e_m_at : I 3 = m_at) (e_m_end : I 4 = m_end) (e_m_token : I 5 = m_token) (e_m_whole : I 6 = m_whole) (e_m_nameSize : I 7 = m_nameSize) (e_m_fault : I 8 = m_fault) (e_m_place : I 9 = m_place) (e_m_failed : I 11 = m_failed) (e_m_letters : A 1 = m_letters) (hk_v1 : v1 < 49) (hk_v2 : v2 < 49) (hk_v3 : v3 < 49) (hk_v4 : v4 < 49) (hf : f_X11_oneOf m_size m_tape m_at m_end m_token m_whole m_nameSize m_fault m_place m_failed m_letters v1 v2 v3 v4 = some z) : rf_MI l yX11_oneOf cX11_oneOf 6 (some .int) ({ frames := 7, cells := 0, slots := 0, locals := 223 }) E [.ref (a 0), .ref (rf_aK E v1), .ref (rf_aK E v2), .ref (rf_aK E v3), .ref (rf_aK E v4)] (cM E a I A) z.1 (cM E a (rf_upL I [(3, z.2.1), (4, z.2.2.1), (5, z.2.2.2.1), (6, z.2.2.2.2.1), (7, z.2.2.2.2.2.1), (8, z.2.2.2.2.2.2.1), (9, z.2.2.2.2.2.2.2.1), (11, z.2.2.2.2.2.2.2.2.1)]) (rf_upL A [(1, z.2.2.2.2.2.2.2.2.2)])) := by
  unfold f_X11_oneOf at hf
  refine rf_ofI (by decide) (Nat.le_of_ble_eq_true rfl) ?_
  intro p e s m below meth c A0 ls hC hD hP hS hl
  have hC : rf_C p E s m _ meth c cX11_oneOf 6 RX11 (some .int) A0 := hC
  have hx := hC.1
  have hb := hC.2.1
  have hl : lv_has ls 6 [(0, .ref (a 0)), (1, .ref (rf_aK E v1)), (2, .ref (rf_aK E v2)), (3, .ref (rf_aK E v3)), (4, .ref (rf_aK E v4))] := hl
  have hP : va_P (rf_D E) vwCl (cM E a (rf_upL I [(3, m_at), (4, m_end), (5, m_token), (6, m_whole), (7, m_nameSize), (8, m_fault), (9, m_place), (11, m_failed)]) (rf_upL A [(1, m_letters)])) s.heap := by
    rw [rf_self (f := I) [(3, m_at), (4, m_end), (5, m_token), (6, m_whole), (7, m_nameSize), (8, m_fault), (9, m_place), (11, m_failed)] (rf_fa1 e_m_at (rf_fa1 e_m_end (rf_fa1 e_m_token (rf_fa1 e_m_whole (rf_fa1 e_m_nameSize (rf_fa1 e_m_fault (rf_fa1 e_m_place (rf_fa1 e_m_failed rf_fa0))))))))]
    rw [rf_self (f := A) [(1, m_letters)] (rf_fa1 e_m_letters rf_fa0)]
    exact hP
  refine lv_aload_n hx hb dX11_oneOf_0 rfl (lv_at hl 0 rfl) ?_
  refine lv_aload_n hx hb dX11_oneOf_1 rfl (lv_at hl 1 rfl) ?_
  obtain ⟨z2, hz2, hf⟩ := rf_bd hf
  refine rf_vi (q0 := 0) (ci := 11) hC (c_X11_isWord l E a (rf_upL I [(3, m_at), (4, m_end), (5, m_token), (6, m_whole), (7, m_nameSize), (8, m_fault), (9, m_place), (11, m_failed)]) (rf_upL A [(1, m_letters)]) m_token m_nameSize m_failed m_letters v1 rfl rfl rfl rfl hk_v1 hz2) kV_X11_isWord tw_1433 ⟨Nat.le_of_ble_eq_true rfl, Nat.le_of_ble_eq_true rfl⟩ rfl rfl rfl rfl rfl hP (rf_DM hD) hS rfl hl.1 (rest := []) rfl (Nat.le_of_ble_eq_true rfl) dX11_oneOf_2 (fun H locs hP hS => ?_)
  refine lv_if_eq (tgt := 12) hx hb dX11_oneOf_5 (by decide) (fun c_5 => ?_) (fun c_5 => ?_)
  · have hf := rf_it c_5 hf
    refine lv_aload_n hx hb dX11_oneOf_12 rfl (lv_at hl 0 rfl) ?_
    refine lv_aload_n hx hb dX11_oneOf_13 rfl (lv_at hl 2 rfl) ?_
    obtain ⟨z14, hz14, hf⟩ := rf_bd hf
    refine rf_vi (q0 := 0) (ci := 11) hC (c_X11_isWord l E a (rf_upL I [(3, m_at), (4, m_end), (5, m_token), (6, m_whole), (7, m_nameSize), (8, m_fault), (9, m_place), (11, m_failed)]) (rf_upL A [(1, m_letters)]) m_token m_nameSize m_failed m_letters v2 rfl rfl rfl rfl hk_v2 hz14) kV_X11_isWord tw_1433 ⟨Nat.le_of_ble_eq_true rfl, Nat.le_of_ble_eq_true rfl⟩ rfl rfl rfl rfl rfl hP (rf_DM hD) hS rfl hl.1 (rest := []) rfl (Nat.le_of_ble_eq_true rfl) dX11_oneOf_14 (fun H locs hP hS => ?_)
    refine lv_if_eq (tgt := 24) hx hb dX11_oneOf_17 (by decide) (fun c_17 => ?_) (fun c_17 => ?_)
    · have hf := rf_it c_17 hf
      refine lv_aload_n hx hb dX11_oneOf_24 rfl (lv_at hl 0 rfl) ?_
      refine lv_aload_n hx hb dX11_oneOf_25 rfl (lv_at hl 3 rfl) ?_
      obtain ⟨z26, hz26, hf⟩ := rf_bd hf
      refine rf_vi (q0 := 0) (ci := 11) hC (c_X11_isWord l E a (rf_upL I [(3, m_at), (4, m_end), (5, m_token), (6, m_whole), (7, m_nameSize), (8, m_fault), (9, m_place), (11, m_failed)]) (rf_upL A [(1, m_letters)]) m_token m_nameSize m_failed m_letters v3 rfl rfl rfl rfl hk_v3 hz26) kV_X11_isWord tw_1433 ⟨Nat.le_of_ble_eq_true rfl, Nat.le_of_ble_eq_true rfl⟩ rfl rfl rfl rfl rfl hP (rf_DM hD) hS rfl hl.1 (rest := []) rfl (Nat.le_of_ble_eq_true rfl) dX11_oneOf_26 (fun H locs hP hS => ?_)
      refine lv_if_eq (tgt := 36) hx hb dX11_oneOf_29 (by decide) (fun c_29 => ?_) (fun c_29 => ?_)
      · have hf := rf_it c_29 hf
        refine lv_aload_n hx hb dX11_oneOf_36 rfl (lv_at hl 0 rfl) ?_
        refine lv_aload hx hb dX11_oneOf_37 (lv_at hl 4 rfl) ?_
        obtain ⟨z39, hz39, hf⟩ := rf_bd hf
        refine rf_vi (q0 := 0) (ci := 11) hC (c_X11_isWord l E a (rf_upL I [(3, m_at), (4, m_end), (5, m_token), (6, m_whole), (7, m_nameSize), (8, m_fault), (9, m_place), (11, m_failed)]) (rf_upL A [(1, m_letters)]) m_token m_nameSize m_failed m_letters v4 rfl rfl rfl rfl hk_v4 hz39) kV_X11_isWord tw_1433 ⟨Nat.le_of_ble_eq_true rfl, Nat.le_of_ble_eq_true rfl⟩ rfl rfl rfl rfl rfl hP (rf_DM hD) hS rfl hl.1 (rest := []) rfl (Nat.le_of_ble_eq_true rfl) dX11_oneOf_39 (fun H locs hP hS => ?_)
        refine lv_if_eq (tgt := 49) hx hb dX11_oneOf_42 (by decide) (fun c_42 => ?_) (fun c_42 => ?_)
        · have hf := rf_it c_42 hf
          refine lv_iconst (v := (-1)) hx hb dX11_oneOf_49 (by decide) ?_
          exact w_X11_oneOf_50 hC hD e_m_size e_m_tape (-1) m_at m_end m_token m_whole m_nameSize m_fault m_place m_failed m_letters hf _ _ _ hP hS (lv_sub hl [0] rfl)
        have hf := rf_ie c_42 hf
        refine lv_iconst (v := 3) hx hb dX11_oneOf_45 (by decide) ?_
        refine lv_goto (tgt := 50) hx hb dX11_oneOf_46 (by decide) ?_
        exact w_X11_oneOf_50 hC hD e_m_size e_m_tape 3 m_at m_end m_token m_whole m_nameSize m_fault m_place m_failed m_letters hf _ _ _ hP hS (lv_sub hl [0] rfl)
      have hf := rf_ie c_29 hf
      refine lv_iconst (v := 2) hx hb dX11_oneOf_32 (by decide) ?_
      refine lv_goto (tgt := 50) hx hb dX11_oneOf_33 (by decide) ?_
      exact w_X11_oneOf_50 hC hD e_m_size e_m_tape 2 m_at m_end m_token m_whole m_nameSize m_fault m_place m_failed m_letters hf _ _ _ hP hS (lv_sub hl [0] rfl)
    have hf := rf_ie c_17 hf
    refine lv_iconst (v := 1) hx hb dX11_oneOf_20 (by decide) ?_
    refine lv_goto (tgt := 50) hx hb dX11_oneOf_21 (by decide) ?_
    exact w_X11_oneOf_50 hC hD e_m_size e_m_tape 1 m_at m_end m_token m_whole m_nameSize m_fault m_place m_failed m_letters hf _ _ _ hP hS (lv_sub hl [0] rfl)
  have hf := rf_ie c_5 hf
  refine lv_iconst (v := 0) hx hb dX11_oneOf_8 (by decide) ?_
  refine lv_goto (tgt := 50) hx hb dX11_oneOf_9 (by decide) ?_
  exact w_X11_oneOf_50 hC hD e_m_size e_m_tape 0 m_at m_end m_token m_whole m_nameSize m_fault m_place m_failed m_letters hf _ _ _ hP hS (lv_sub hl [0] rfl)
set_option maxHeartbeats 4000000 in
set_option maxRecDepth 100000 in
theorem w_X11_personPassed_16 {l : Launch} {p : Program} {e : Env} {s : State} {m : MethodId} {args : Array Value} {below : List Frame} {meth : Method} {c : Code} {A0 : Nat → Prop} {E : rf_E} {a : Nat → Nat} {I : Nat → Int32} {A : Nat → Nat → Int32} {m_size : Int32} {m_tape : Nat → Int32} {m_fresh : Nat → Int32} {z : Int32 × Int32 × Int32 × Int32 × Int32 × Int32 × Int32 × Int32 × Int32 × (Nat → Int32)} (hC : rf_C p E s m args meth c cX11_personPassed 2 RX11 (some .int) A0) (hD : va_D A0 (cM E a I A)) (e_m_size : I 2 = m_size) (e_m_tape : A 0 = m_tape) (e_m_fresh : A 3 = m_fresh) :
    ∀ (v1 : Int32) (m_at : Int32) (m_end : Int32) (m_token : Int32) (m_whole : Int32) (m_nameSize : Int32) (m_fault : Int32) (m_place : Int32) (m_failed : Int32) (m_letters : Nat → Int32), f_X11_personPassed_16 m_size m_tape m_fresh v1 m_at m_end m_token m_whole m_nameSize m_fault m_place m_failed m_letters = some z → ∀ (H : Heap) (locs : List Loc) (ls : Array Slot), va_P (rf_D E) vwCl (cM E a (rf_upL I [(3, m_at), (4, m_end), (5, m_token), (6, m_whole), (7, m_nameSize), (8, m_fault), (9, m_place), (11, m_failed)]) (rf_upL A [(1, m_letters)])) H → va_S A0 s.heap H locs → lv_has ls 2 [(1, .int v1)] → W p l e ({ frames := 10, cells := 0, slots := 0, locals := 286 }) s m args below meth c H locs 0 0 (rf_QI below args s E A0 z.1 (cM E a (rf_upL I [(3, z.2.1), (4, z.2.2.1), (5, z.2.2.2.1), (6, z.2.2.2.2.1), (7, z.2.2.2.2.2.1), (8, z.2.2.2.2.2.2.1), (9, z.2.2.2.2.2.2.2.1), (11, z.2.2.2.2.2.2.2.2.1)]) (rf_upL A [(1, z.2.2.2.2.2.2.2.2.2)]))) (F0 m 16 ls []) := by
  have hx := hC.1
  have hb := hC.2.1
  intro v1 m_at m_end m_token m_whole m_nameSize m_fault m_place m_failed m_letters hf H locs ls hP hS hl
  unfold f_X11_personPassed_16 at hf
  refine lv_iload_n hx hb dX11_personPassed_16 rfl (lv_at hl 0 rfl) ?_
  obtain rfl := Option.some.inj hf
  exact rf_reti hC hP hS rfl rfl dX11_personPassed_17
set_option maxHeartbeats 4000000 in
set_option maxRecDepth 100000 in
theorem c_X11_personPassed (l : Launch) (E : rf_E) (a : Nat → Nat) (I : Nat → Int32) (A : Nat → Nat → Int32) (m_size : Int32) (m_tape : Nat → Int32) (m_fresh : Nat → Int32) (m_at : Int32) (m_end : Int32) (m_token : Int32) (m_whole : Int32) (m_nameSize : Int32) (m_fault : Int32) (m_place : Int32) (m_failed : Int32) (m_letters : Nat → Int32) {z : Int32 × Int32 × Int32 × Int32 × Int32 × Int32 × Int32 × Int32 × Int32 × (Nat → Int32)} (e_m_size : I 2 = m_size) (e_m_tape : A 0 = m_tape) (e_m_fresh : A 3 = m_fresh) (e_m_at : I 3 = m_at) (e_m_end : I 4 = m_end) (e_m_token : I 5 = m_token) (e_m_whole : I 6 = m_whole) (e_m_nameSize : I 7 = m_nameSize) (e_m_fault : I 8 = m_fault) (e_m_place : I 9 = m_place) (e_m_failed : I 11 = m_failed) (e_m_letters : A 1 = m_letters) (hf : f_X11_personPassed m_size m_tape m_fresh m_at m_end m_token m_whole m_nameSize m_fault m_place m_failed m_letters = some z) : rf_MI l yX11_personPassed cX11_personPassed 2 (some .int) ({ frames := 10, cells := 0, slots := 0, locals := 286 }) E [.ref (a 0)] (cM E a I A) z.1 (cM E a (rf_upL I [(3, z.2.1), (4, z.2.2.1), (5, z.2.2.2.1), (6, z.2.2.2.2.1), (7, z.2.2.2.2.2.1), (8, z.2.2.2.2.2.2.1), (9, z.2.2.2.2.2.2.2.1), (11, z.2.2.2.2.2.2.2.2.1)]) (rf_upL A [(1, z.2.2.2.2.2.2.2.2.2)])) := by
  unfold f_X11_personPassed at hf
  refine rf_ofI (by decide) (Nat.le_of_ble_eq_true rfl) ?_
  intro p e s m below meth c A0 ls hC hD hP hS hl
  have hC : rf_C p E s m _ meth c cX11_personPassed 2 RX11 (some .int) A0 := hC
  have hx := hC.1
  have hb := hC.2.1
  have hl : lv_has ls 2 [(0, .ref (a 0))] := hl
  have hP : va_P (rf_D E) vwCl (cM E a (rf_upL I [(3, m_at), (4, m_end), (5, m_token), (6, m_whole), (7, m_nameSize), (8, m_fault), (9, m_place), (11, m_failed)]) (rf_upL A [(1, m_letters)])) s.heap := by
    rw [rf_self (f := I) [(3, m_at), (4, m_end), (5, m_token), (6, m_whole), (7, m_nameSize), (8, m_fault), (9, m_place), (11, m_failed)] (rf_fa1 e_m_at (rf_fa1 e_m_end (rf_fa1 e_m_token (rf_fa1 e_m_whole (rf_fa1 e_m_nameSize (rf_fa1 e_m_fault (rf_fa1 e_m_place (rf_fa1 e_m_failed rf_fa0))))))))]
    rw [rf_self (f := A) [(1, m_letters)] (rf_fa1 e_m_letters rf_fa0)]
    exact hP
  refine lv_aload_n hx hb dX11_personPassed_0 rfl (lv_at hl 0 rfl) ?_
  obtain ⟨z1, hz1, hf⟩ := rf_bd hf
  refine rf_vi (q0 := 0) (ci := 11) hC (c_X11_personHere l E a (rf_upL I [(3, m_at), (4, m_end), (5, m_token), (6, m_whole), (7, m_nameSize), (8, m_fault), (9, m_place), (11, m_failed)]) (rf_upL A [(1, m_letters)]) m_at m_token m_nameSize m_letters m_fresh m_fault m_place m_failed rfl rfl rfl rfl e_m_fresh rfl rfl rfl hz1) kV_X11_personHere tw_1535 ⟨Nat.le_of_ble_eq_true rfl, Nat.le_of_ble_eq_true rfl⟩ rfl rfl rfl rfl rfl hP (rf_DM hD) hS rfl hl.1 (rest := []) rfl (Nat.le_of_ble_eq_true rfl) dX11_personPassed_1 (fun H locs hP hS => ?_)
  rw [rf_cat (f := I) (l := [(3, m_at), (4, m_end), (5, m_token), (6, m_whole), (7, m_nameSize), (8, m_fault), (9, m_place), (11, m_failed)]) (lc := [(8, z1.2.1), (9, z1.2.2.1), (11, z1.2.2.2)]) (l' := [(3, m_at), (4, m_end), (5, m_token), (6, m_whole), (7, m_nameSize), (8, z1.2.1), (9, z1.2.2.1), (11, z1.2.2.2)]) rfl] at hP
  refine lv_istore_n (lv' := [(1, .int z1.1), (0, .ref (a 0))]) hx hb dX11_personPassed_4 rfl hl (by decide) rfl (fun ls hl => ?_)
  refine lv_aload_n hx hb dX11_personPassed_5 rfl (lv_at hl 1 rfl) ?_
  refine gM_m_failed hC hP tw_1292 (v := z1.2.2.2) rfl dX11_personPassed_6 ?_
  refine lv_if_ne (tgt := 16) hx hb dX11_personPassed_9 (by decide) (fun c_9 => ?_) (fun c_9 => ?_)
  · have hf := rf_ie c_9 hf
    exact w_X11_personPassed_16 hC hD e_m_size e_m_tape e_m_fresh z1.1 m_at m_end m_token m_whole m_nameSize z1.2.1 z1.2.2.1 z1.2.2.2 m_letters hf _ _ _ hP hS (lv_sub hl [0] rfl)
  have hf := rf_it c_9 hf
  refine lv_aload_n hx hb dX11_personPassed_12 rfl (lv_at hl 1 rfl) ?_
  obtain ⟨z13, hz13, hf⟩ := rf_bd hf
  refine rf_vv (q0 := 0) (ci := 11) hC (c_X11_next l E a (rf_upL I [(3, m_at), (4, m_end), (5, m_token), (6, m_whole), (7, m_nameSize), (8, z1.2.1), (9, z1.2.2.1), (11, z1.2.2.2)]) (rf_upL A [(1, m_letters)]) m_size m_tape m_at m_end m_token m_whole m_nameSize m_letters e_m_size e_m_tape rfl rfl rfl rfl rfl rfl hz13) kV_X11_next tw_1414 ⟨Nat.le_of_ble_eq_true rfl, Nat.le_of_ble_eq_true rfl⟩ rfl rfl rfl rfl rfl hP (rf_DM hD) hS rfl hl.1 (rest := []) rfl (Nat.le_of_ble_eq_true rfl) dX11_personPassed_13 (fun H locs hP hS => ?_)
  rw [rf_cat (f := I) (l := [(3, m_at), (4, m_end), (5, m_token), (6, m_whole), (7, m_nameSize), (8, z1.2.1), (9, z1.2.2.1), (11, z1.2.2.2)]) (lc := [(3, z13.1), (4, z13.2.1), (5, z13.2.2.1), (6, z13.2.2.2.1), (7, z13.2.2.2.2.1)]) (l' := [(3, z13.1), (4, z13.2.1), (5, z13.2.2.1), (6, z13.2.2.2.1), (7, z13.2.2.2.2.1), (8, z1.2.1), (9, z1.2.2.1), (11, z1.2.2.2)]) rfl] at hP
  rw [rf_cat (f := A) (l := [(1, m_letters)]) (lc := [(1, z13.2.2.2.2.2)]) (l' := [(1, z13.2.2.2.2.2)]) rfl] at hP
  exact w_X11_personPassed_16 hC hD e_m_size e_m_tape e_m_fresh z1.1 z13.1 z13.2.1 z13.2.2.1 z13.2.2.2.1 z13.2.2.2.2.1 z1.2.1 z1.2.2.1 z1.2.2.2 z13.2.2.2.2.2 hf _ _ _ hP hS (lv_sub hl [0] rfl)
