set_option maxHeartbeats 4000000 in
set_option maxRecDepth 100000 in
theorem w_X11_heardSet_28 {l : Launch} {p : Program} {e : Env} {s : State} {m : MethodId} {args : Array Value} {below : List Frame} {meth : Method} {c : Code} {A0 : Nat → Prop} {E : rf_E} {a : Nat → Nat} {I : Nat → Int32} {A : Nat → Nat → Int32} {m_r : Nat → Int32} {m_st : Nat → Int32} {z : Int32} (hC : rf_C p E s m args meth c cX11_heardSet 3 RX11 (some .int) A0) (hD : va_D A0 (cM E a I A)) (e_m_r : A 2 = m_r) (e_m_st : A 4 = m_st) {k4 : Int32 → Int32 → Option (Int32)} (hk4 : ∀ (v1 : Int32) (v2 : Int32), k4 v1 v2 = some z → ∀ (H : Heap) (locs : List Loc) (ls : Array Slot), va_P (rf_D E) vwCl (cM E a I A) H → va_S A0 s.heap H locs → lv_has ls 3 [(0, .ref (a 0)), (1, .int v1), (2, .int v2)] → W p l e ({ frames := 5, cells := 0, slots := 0, locals := 122 }) s m args below meth c H locs 0 0 (rf_QI below args s E A0 z (cM E a I A)) (F0 m 4 ls [])) :
    ∀ (v2 : Int32) (s0 : Int32) (s1 : Int32), f_X11_heardSet_28 k4 m_r m_st v2 s0 s1 = some z → ∀ (H : Heap) (locs : List Loc) (ls : Array Slot), va_P (rf_D E) vwCl (cM E a I A) H → va_S A0 s.heap H locs → lv_has ls 3 [(0, .ref (a 0)), (2, .int v2)] → W p l e ({ frames := 5, cells := 0, slots := 0, locals := 122 }) s m args below meth c H locs 0 0 (rf_QI below args s E A0 z (cM E a I A)) (F0 m 28 ls [.int s1, .int s0]) := by
  have hx := hC.1
  have hb := hC.2.1
  intro v2 s0 s1 hf H locs ls hP hS hl
  unfold f_X11_heardSet_28 at hf
  refine lv_ior hx hb dX11_heardSet_28 ?_
  refine lv_istore_n (lv' := [(1, .int (s0 ||| s1)), (0, .ref (a 0)), (2, .int v2)]) hx hb dX11_heardSet_29 rfl hl (by decide) rfl (fun ls hl => ?_)
  refine lv_iinc (v := v2 + 1) (lv' := [(2, .int (v2 + 1)), (1, .int (s0 ||| s1)), (0, .ref (a 0))]) hx hb dX11_heardSet_30 hl (k := 2) rfl rfl (by decide) rfl (fun ls hl => ?_)
  refine lv_goto (tgt := 4) hx hb dX11_heardSet_33 (by decide) ?_
  exact hk4 (s0 ||| s1) (v2 + 1) hf _ _ _ hP hS (lv_sub hl [2, 1, 0] rfl)
set_option maxHeartbeats 4000000 in
set_option maxRecDepth 100000 in
theorem w_X11_heardSet_4 {l : Launch} {p : Program} {e : Env} {s : State} {m : MethodId} {args : Array Value} {below : List Frame} {meth : Method} {c : Code} {A0 : Nat → Prop} {E : rf_E} {a : Nat → Nat} {I : Nat → Int32} {A : Nat → Nat → Int32} {m_r : Nat → Int32} {m_st : Nat → Int32} {z : Int32} (hC : rf_C p E s m args meth c cX11_heardSet 3 RX11 (some .int) A0) (hD : va_D A0 (cM E a I A)) (e_m_r : A 2 = m_r) (e_m_st : A 4 = m_st) :
    ∀ (n : Nat), ∀ (v1 : Int32) (v2 : Int32), f_X11_heardSet_4 m_r m_st n v1 v2 = some z → ∀ (H : Heap) (locs : List Loc) (ls : Array Slot), va_P (rf_D E) vwCl (cM E a I A) H → va_S A0 s.heap H locs → lv_has ls 3 [(0, .ref (a 0)), (1, .int v1), (2, .int v2)] → W p l e ({ frames := 5, cells := 0, slots := 0, locals := 122 }) s m args below meth c H locs 0 0 (rf_QI below args s E A0 z (cM E a I A)) (F0 m 4 ls []) := by
  have hx := hC.1
  have hb := hC.2.1
  intro n
  induction n with
  | zero =>
    intro v1 v2 hf
    have hf : (none : Option (Int32)) = some z := hf
    cases hf
  | succ n ih =>
    intro v1 v2 hf H locs ls hP hS hl
    rw [f_X11_heardSet_4] at hf
    refine lv_iload_n hx hb dX11_heardSet_4 rfl (lv_at hl 2 rfl) ?_
    refine lv_bipush (v := 6) hx hb dX11_heardSet_5 (by decide) ?_
    refine lv_icmp_gt (tgt := 36) hx hb dX11_heardSet_7 (by decide) (fun c_7 => ?_) (fun c_7 => ?_)
    · have hf := rf_it c_7 hf
      refine lv_iload_n hx hb dX11_heardSet_36 rfl (lv_at hl 1 rfl) ?_
      obtain rfl := Option.some.inj hf
      exact rf_reti hC hP hS rfl rfl dX11_heardSet_37
    have hf := rf_ie c_7 hf
    refine lv_iload_n hx hb dX11_heardSet_10 rfl (lv_at hl 1 rfl) ?_
    refine lv_aload_n hx hb dX11_heardSet_11 rfl (lv_at hl 0 rfl) ?_
    refine lv_iload_n hx hb dX11_heardSet_12 rfl (lv_at hl 2 rfl) ?_
    obtain ⟨z13, hz13, hf⟩ := rf_bd hf
    refine rf_vi (q0 := 0) (ci := 11) hC (c_X11_wrongGot l E a I A m_r m_st v2 e_m_r e_m_st hz13) kV_X11_wrongGot tw_1747 ⟨Nat.le_of_ble_eq_true rfl, Nat.le_of_ble_eq_true rfl⟩ rfl rfl rfl rfl rfl hP (rf_DM hD) hS rfl hl.1 (rest := [.int v1]) rfl (Nat.le_of_ble_eq_true rfl) dX11_heardSet_13 (fun H locs hP hS => ?_)
    refine lv_bipush (v := (-2)) hx hb dX11_heardSet_16 (by decide) ?_
    refine lv_icmp_ne (tgt := 27) hx hb dX11_heardSet_18 (by decide) (fun c_18 => ?_) (fun c_18 => ?_)
    · have hf := rf_ie c_18 hf
      refine lv_iconst (v := 0) hx hb dX11_heardSet_27 (by decide) ?_
      exact w_X11_heardSet_28 hC hD e_m_r e_m_st ih v2 v1 0 hf _ _ _ hP hS (lv_sub hl [0, 2] rfl)
    have hf := rf_it c_18 hf
    refine lv_iconst (v := 1) hx hb dX11_heardSet_21 (by decide) ?_
    refine lv_iload_n hx hb dX11_heardSet_22 rfl (lv_at hl 2 rfl) ?_
    refine lv_ishl hx hb dX11_heardSet_23 ?_
    refine lv_goto (tgt := 28) hx hb dX11_heardSet_24 (by decide) ?_
    exact w_X11_heardSet_28 hC hD e_m_r e_m_st ih v2 v1 ((1 : Int32) <<< (v2 &&& 31)) hf _ _ _ hP hS (lv_sub hl [0, 2] rfl)
set_option maxHeartbeats 4000000 in
set_option maxRecDepth 100000 in
theorem c_X11_heardSet (l : Launch) (E : rf_E) (a : Nat → Nat) (I : Nat → Int32) (A : Nat → Nat → Int32) (m_r : Nat → Int32) (m_st : Nat → Int32) {z : Int32} (e_m_r : A 2 = m_r) (e_m_st : A 4 = m_st) (hf : f_X11_heardSet m_r m_st = some z) : rf_MI l yX11_heardSet cX11_heardSet 3 (some .int) ({ frames := 5, cells := 0, slots := 0, locals := 122 }) E [.ref (a 0)] (cM E a I A) z (cM E a I A) := by
  unfold f_X11_heardSet at hf
  refine rf_ofI (by decide) (Nat.le_of_ble_eq_true rfl) ?_
  intro p e s m below meth c A0 ls hC hD hP hS hl
  have hC : rf_C p E s m _ meth c cX11_heardSet 3 RX11 (some .int) A0 := hC
  have hx := hC.1
  have hb := hC.2.1
  have hl : lv_has ls 3 [(0, .ref (a 0))] := hl
  refine lv_iconst (v := 0) hx hb dX11_heardSet_0 (by decide) ?_
  refine lv_istore_n (lv' := [(1, .int 0), (0, .ref (a 0))]) hx hb dX11_heardSet_1 rfl hl (by decide) rfl (fun ls hl => ?_)
  refine lv_iconst (v := 1) hx hb dX11_heardSet_2 (by decide) ?_
  refine lv_istore_n (lv' := [(2, .int 1), (1, .int 0), (0, .ref (a 0))]) hx hb dX11_heardSet_3 rfl hl (by decide) rfl (fun ls hl => ?_)
  exact w_X11_heardSet_4 hC hD e_m_r e_m_st rf_fu 0 1 hf _ _ _ hP hS (lv_sub hl [2, 1, 0] rfl)
set_option maxHeartbeats 4000000 in
set_option maxRecDepth 100000 in
theorem c_X11_heard (l : Launch) (E : rf_E) (a : Nat → Nat) (I : Nat → Int32) (A : Nat → Nat → Int32) (m_hasFerry : Int32) (m_r : Nat → Int32) (m_st : Nat → Int32) (m_thrown : Int32) (m_trouble : Int32) {z : Int32 × Int32 × Int32} (e_m_hasFerry : I 12 = m_hasFerry) (e_m_r : A 2 = m_r) (e_m_st : A 4 = m_st) (e_m_thrown : I 0 = m_thrown) (e_m_trouble : I 10 = m_trouble) (hf : f_X11_heard m_hasFerry m_r m_st m_thrown m_trouble = some z) : rf_MI l yX11_heard cX11_heard 1 (some .int) ({ frames := 6, cells := 0, slots := 0, locals := 144 }) E [.ref (a 0)] (cM E a I A) z.1 (cM E a (rf_upL I [(0, z.2.1), (10, z.2.2)]) A) := by
  unfold f_X11_heard at hf
  refine rf_ofI (by decide) (Nat.le_of_ble_eq_true rfl) ?_
  intro p e s m below meth c A0 ls hC hD hP hS hl
  have hC : rf_C p E s m _ meth c cX11_heard 1 RX11 (some .int) A0 := hC
  have hx := hC.1
  have hb := hC.2.1
  have hl : lv_has ls 1 [(0, .ref (a 0))] := hl
  have hP : va_P (rf_D E) vwCl (cM E a (rf_upL I [(0, m_thrown), (10, m_trouble)]) A) s.heap := by
    rw [rf_self (f := I) [(0, m_thrown), (10, m_trouble)] (rf_fa1 e_m_thrown (rf_fa1 e_m_trouble rf_fa0))]
    exact hP
  refine lv_aload_n hx hb dX11_heard_0 rfl (lv_at hl 0 rfl) ?_
  obtain ⟨z1, hz1, hf⟩ := rf_bd hf
  refine rf_vv (q0 := 0) (ci := 11) hC (c_X11_good l E a (rf_upL I [(0, m_thrown), (10, m_trouble)]) A m_thrown m_trouble rfl rfl hz1) kV_X11_good tw_1403 ⟨Nat.le_of_ble_eq_true rfl, Nat.le_of_ble_eq_true rfl⟩ rfl rfl rfl rfl rfl hP (rf_DM hD) hS rfl hl.1 (rest := []) rfl (Nat.le_of_ble_eq_true rfl) dX11_heard_1 (fun H locs hP hS => ?_)
  rw [rf_cat (f := I) (l := [(0, m_thrown), (10, m_trouble)]) (lc := [(0, z1.1), (10, z1.2)]) (l' := [(0, z1.1), (10, z1.2)]) rfl] at hP
  refine lv_aload_n hx hb dX11_heard_4 rfl (lv_at hl 0 rfl) ?_
  refine gM_m_hasFerry hC hP tw_1293 (v := m_hasFerry) e_m_hasFerry dX11_heard_5 ?_
  refine lv_if_eq (tgt := 21) hx hb dX11_heard_8 (by decide) (fun c_8 => ?_) (fun c_8 => ?_)
  · have hf := rf_it c_8 hf
    refine lv_aload_n hx hb dX11_heard_21 rfl (lv_at hl 0 rfl) ?_
    refine lv_iconst (v := 1) hx hb dX11_heard_22 (by decide) ?_
    obtain ⟨z23, hz23, hf⟩ := rf_bd hf
    refine rf_vi (q0 := 0) (ci := 11) hC (c_X11_no l E a (rf_upL I [(0, z1.1), (10, z1.2)]) A z1.2 1 rfl hz23) kV_X11_no tw_1410 ⟨Nat.le_of_ble_eq_true rfl, Nat.le_of_ble_eq_true rfl⟩ rfl rfl rfl rfl rfl hP (rf_DM hD) hS rfl hl.1 (rest := []) rfl (Nat.le_of_ble_eq_true rfl) dX11_heard_23 (fun H locs hP hS => ?_)
    rw [rf_cat (f := I) (l := [(0, z1.1), (10, z1.2)]) (lc := [(10, z23.2)]) (l' := [(0, z1.1), (10, z23.2)]) rfl] at hP
    obtain rfl := Option.some.inj hf
    exact rf_reti hC hP hS rfl rfl dX11_heard_26
  have hf := rf_ie c_8 hf
  refine lv_aload_n hx hb dX11_heard_11 rfl (lv_at hl 0 rfl) ?_
  obtain ⟨z12, hz12, hf⟩ := rf_bd hf
  refine rf_vi (q0 := 0) (ci := 11) hC (c_X11_heardSet l E a (rf_upL I [(0, z1.1), (10, z1.2)]) A m_r m_st e_m_r e_m_st hz12) kV_X11_heardSet tw_1784 ⟨Nat.le_of_ble_eq_true rfl, Nat.le_of_ble_eq_true rfl⟩ rfl rfl rfl rfl rfl hP (rf_DM hD) hS rfl hl.1 (rest := []) rfl (Nat.le_of_ble_eq_true rfl) dX11_heard_12 (fun H locs hP hS => ?_)
  obtain ⟨z15, hz15, hf⟩ := rf_bd hf
  refine rf_si0 hC (c_X11_ones l E z12 hz15) kS_X11_ones tw_1660 ⟨Nat.le_of_ble_eq_true rfl, Nat.le_of_ble_eq_true rfl⟩ rfl rfl hP hS rfl hl.1 (rest := []) rfl (Nat.le_of_ble_eq_true rfl) dX11_heard_15 (fun H locs hP hS => ?_)
  refine lv_goto (tgt := 26) hx hb dX11_heard_18 (by decide) ?_
  obtain rfl := Option.some.inj hf
  exact rf_reti hC hP hS rfl rfl dX11_heard_26
set_option maxHeartbeats 4000000 in
set_option maxRecDepth 100000 in
theorem w_X11_heardEar_49 {l : Launch} {p : Program} {e : Env} {s : State} {m : MethodId} {args : Array Value} {below : List Frame} {meth : Method} {c : Code} {A0 : Nat → Prop} {E : rf_E} {a : Nat → Nat} {I : Nat → Int32} {A : Nat → Nat → Int32} {m_hasFerry : Int32} {m_r : Nat → Int32} {m_st : Nat → Int32} {z : Int32 × Int32 × Int32} (hC : rf_C p E s m args meth c cX11_heardEar 4 RX11 (some .int) A0) (hD : va_D A0 (cM E a I A)) (e_m_hasFerry : I 12 = m_hasFerry) (e_m_r : A 2 = m_r) (e_m_st : A 4 = m_st) {k22 : Int32 → Int32 → Int32 → Int32 → Int32 → Option (Int32 × Int32 × Int32)} (hk22 : ∀ (v1 : Int32) (v2 : Int32) (v3 : Int32) (m_thrown : Int32) (m_trouble : Int32), k22 v1 v2 v3 m_thrown m_trouble = some z → ∀ (H : Heap) (locs : List Loc) (ls : Array Slot), va_P (rf_D E) vwCl (cM E a (rf_upL I [(0, m_thrown), (10, m_trouble)]) A) H → va_S A0 s.heap H locs → lv_has ls 4 [(0, .ref (a 0)), (1, .int v1), (2, .int v2), (3, .int v3)] → W p l e ({ frames := 6, cells := 0, slots := 0, locals := 144 }) s m args below meth c H locs 0 0 (rf_QI below args s E A0 z.1 (cM E a (rf_upL I [(0, z.2.1), (10, z.2.2)]) A)) (F0 m 22 ls [])) :
    ∀ (v1 : Int32) (v2 : Int32) (v3 : Int32) (m_thrown : Int32) (m_trouble : Int32), f_X11_heardEar_49 k22 m_hasFerry m_r m_st v1 v2 v3 m_thrown m_trouble = some z → ∀ (H : Heap) (locs : List Loc) (ls : Array Slot), va_P (rf_D E) vwCl (cM E a (rf_upL I [(0, m_thrown), (10, m_trouble)]) A) H → va_S A0 s.heap H locs → lv_has ls 4 [(0, .ref (a 0)), (1, .int v1), (2, .int v2), (3, .int v3)] → W p l e ({ frames := 6, cells := 0, slots := 0, locals := 144 }) s m args below meth c H locs 0 0 (rf_QI below args s E A0 z.1 (cM E a (rf_upL I [(0, z.2.1), (10, z.2.2)]) A)) (F0 m 49 ls []) := by
  have hx := hC.1
  have hb := hC.2.1
  intro v1 v2 v3 m_thrown m_trouble hf H locs ls hP hS hl
  unfold f_X11_heardEar_49 at hf
  refine lv_iinc (v := v3 + 1) (lv' := [(3, .int (v3 + 1)), (0, .ref (a 0)), (1, .int v1), (2, .int v2)]) hx hb dX11_heardEar_49 hl (k := 3) rfl rfl (by decide) rfl (fun ls hl => ?_)
  refine lv_goto (tgt := 22) hx hb dX11_heardEar_52 (by decide) ?_
  exact hk22 v1 v2 (v3 + 1) m_thrown m_trouble hf _ _ _ hP hS (lv_sub hl [1, 2, 3, 0] rfl)
set_option maxHeartbeats 4000000 in
set_option maxRecDepth 100000 in
theorem w_X11_heardEar_47 {l : Launch} {p : Program} {e : Env} {s : State} {m : MethodId} {args : Array Value} {below : List Frame} {meth : Method} {c : Code} {A0 : Nat → Prop} {E : rf_E} {a : Nat → Nat} {I : Nat → Int32} {A : Nat → Nat → Int32} {m_hasFerry : Int32} {m_r : Nat → Int32} {m_st : Nat → Int32} {z : Int32 × Int32 × Int32} (hC : rf_C p E s m args meth c cX11_heardEar 4 RX11 (some .int) A0) (hD : va_D A0 (cM E a I A)) (e_m_hasFerry : I 12 = m_hasFerry) (e_m_r : A 2 = m_r) (e_m_st : A 4 = m_st) {k22 : Int32 → Int32 → Int32 → Int32 → Int32 → Option (Int32 × Int32 × Int32)} (hk22 : ∀ (v1 : Int32) (v2 : Int32) (v3 : Int32) (m_thrown : Int32) (m_trouble : Int32), k22 v1 v2 v3 m_thrown m_trouble = some z → ∀ (H : Heap) (locs : List Loc) (ls : Array Slot), va_P (rf_D E) vwCl (cM E a (rf_upL I [(0, m_thrown), (10, m_trouble)]) A) H → va_S A0 s.heap H locs → lv_has ls 4 [(0, .ref (a 0)), (1, .int v1), (2, .int v2), (3, .int v3)] → W p l e ({ frames := 6, cells := 0, slots := 0, locals := 144 }) s m args below meth c H locs 0 0 (rf_QI below args s E A0 z.1 (cM E a (rf_upL I [(0, z.2.1), (10, z.2.2)]) A)) (F0 m 22 ls [])) :
    ∀ (v1 : Int32) (v3 : Int32) (m_thrown : Int32) (m_trouble : Int32), f_X11_heardEar_47 k22 m_hasFerry m_r m_st v1 v3 m_thrown m_trouble = some z → ∀ (H : Heap) (locs : List Loc) (ls : Array Slot), va_P (rf_D E) vwCl (cM E a (rf_upL I [(0, m_thrown), (10, m_trouble)]) A) H → va_S A0 s.heap H locs → lv_has ls 4 [(0, .ref (a 0)), (1, .int v1), (3, .int v3)] → W p l e ({ frames := 6, cells := 0, slots := 0, locals := 144 }) s m args below meth c H locs 0 0 (rf_QI below args s E A0 z.1 (cM E a (rf_upL I [(0, z.2.1), (10, z.2.2)]) A)) (F0 m 47 ls []) := by
  have hx := hC.1
  have hb := hC.2.1
  intro v1 v3 m_thrown m_trouble hf H locs ls hP hS hl
  unfold f_X11_heardEar_47 at hf
  refine lv_iload_n hx hb dX11_heardEar_47 rfl (lv_at hl 2 rfl) ?_
  refine lv_istore_n (lv' := [(2, .int v3), (0, .ref (a 0)), (1, .int v1), (3, .int v3)]) hx hb dX11_heardEar_48 rfl hl (by decide) rfl (fun ls hl => ?_)
  exact w_X11_heardEar_49 hC hD e_m_hasFerry e_m_r e_m_st hk22 v1 v3 v3 m_thrown m_trouble hf _ _ _ hP hS (lv_sub hl [1, 2, 0, 3] rfl)
set_option maxHeartbeats 4000000 in
set_option maxRecDepth 100000 in
theorem w_X11_heardEar_22 {l : Launch} {p : Program} {e : Env} {s : State} {m : MethodId} {args : Array Value} {below : List Frame} {meth : Method} {c : Code} {A0 : Nat → Prop} {E : rf_E} {a : Nat → Nat} {I : Nat → Int32} {A : Nat → Nat → Int32} {m_hasFerry : Int32} {m_r : Nat → Int32} {m_st : Nat → Int32} {z : Int32 × Int32 × Int32} (hC : rf_C p E s m args meth c cX11_heardEar 4 RX11 (some .int) A0) (hD : va_D A0 (cM E a I A)) (e_m_hasFerry : I 12 = m_hasFerry) (e_m_r : A 2 = m_r) (e_m_st : A 4 = m_st) :
    ∀ (n : Nat), ∀ (v1 : Int32) (v2 : Int32) (v3 : Int32) (m_thrown : Int32) (m_trouble : Int32), f_X11_heardEar_22 m_hasFerry m_r m_st n v1 v2 v3 m_thrown m_trouble = some z → ∀ (H : Heap) (locs : List Loc) (ls : Array Slot), va_P (rf_D E) vwCl (cM E a (rf_upL I [(0, m_thrown), (10, m_trouble)]) A) H → va_S A0 s.heap H locs → lv_has ls 4 [(0, .ref (a 0)), (1, .int v1), (2, .int v2), (3, .int v3)] → W p l e ({ frames := 6, cells := 0, slots := 0, locals := 144 }) s m args below meth c H locs 0 0 (rf_QI below args s E A0 z.1 (cM E a (rf_upL I [(0, z.2.1), (10, z.2.2)]) A)) (F0 m 22 ls []) := by
  have hx := hC.1
  have hb := hC.2.1
  intro n
  induction n with
  | zero =>
    intro v1 v2 v3 m_thrown m_trouble hf
    have hf : (none : Option (Int32 × Int32 × Int32)) = some z := hf
    cases hf
  | succ n ih =>
    intro v1 v2 v3 m_thrown m_trouble hf H locs ls hP hS hl
    rw [f_X11_heardEar_22] at hf
    refine lv_iload_n hx hb dX11_heardEar_22 rfl (lv_at hl 3 rfl) ?_
    refine lv_bipush (v := 6) hx hb dX11_heardEar_23 (by decide) ?_
    refine lv_icmp_gt (tgt := 55) hx hb dX11_heardEar_25 (by decide) (fun c_25 => ?_) (fun c_25 => ?_)
    · have hf := rf_it c_25 hf
      refine lv_iload_n hx hb dX11_heardEar_55 rfl (lv_at hl 2 rfl) ?_
      obtain rfl := Option.some.inj hf
      exact rf_reti hC hP hS rfl rfl dX11_heardEar_56
    have hf := rf_ie c_25 hf
    refine lv_aload_n hx hb dX11_heardEar_28 rfl (lv_at hl 0 rfl) ?_
    obtain ⟨z29, hz29, hf⟩ := rf_bd hf
    refine rf_vi (q0 := 0) (ci := 11) hC (c_X11_heardSet l E a (rf_upL I [(0, m_thrown), (10, m_trouble)]) A m_r m_st e_m_r e_m_st hz29) kV_X11_heardSet tw_1784 ⟨Nat.le_of_ble_eq_true rfl, Nat.le_of_ble_eq_true rfl⟩ rfl rfl rfl rfl rfl hP (rf_DM hD) hS rfl hl.1 (rest := []) rfl (Nat.le_of_ble_eq_true rfl) dX11_heardEar_29 (fun H locs hP hS => ?_)
    refine lv_iload_n hx hb dX11_heardEar_32 rfl (lv_at hl 3 rfl) ?_
    obtain ⟨z33, hz33, hf⟩ := rf_bd hf
    refine rf_si0 hC (c_X11_hasBit l E z29 v3 hz33) kS_X11_hasBit tw_1539 ⟨Nat.le_of_ble_eq_true rfl, Nat.le_of_ble_eq_true rfl⟩ rfl rfl hP hS rfl hl.1 (rest := []) rfl (Nat.le_of_ble_eq_true rfl) dX11_heardEar_33 (fun H locs hP hS => ?_)
    refine lv_if_eq (tgt := 49) hx hb dX11_heardEar_36 (by decide) (fun c_36 => ?_) (fun c_36 => ?_)
    · have hf := rf_it c_36 hf
      exact w_X11_heardEar_49 hC hD e_m_hasFerry e_m_r e_m_st ih v1 v2 v3 m_thrown m_trouble hf _ _ _ hP hS (lv_sub hl [0, 1, 2, 3] rfl)
    have hf := rf_ie c_36 hf
    refine lv_iload_n hx hb dX11_heardEar_39 rfl (lv_at hl 1 rfl) ?_
    refine lv_if_ne (tgt := 47) hx hb dX11_heardEar_40 (by decide) (fun c_40 => ?_) (fun c_40 => ?_)
    · have hf := rf_ie c_40 hf
      exact w_X11_heardEar_47 hC hD e_m_hasFerry e_m_r e_m_st ih v1 v3 m_thrown m_trouble hf _ _ _ hP hS (lv_sub hl [0, 1, 3] rfl)
    have hf := rf_it c_40 hf
    refine lv_iload_n hx hb dX11_heardEar_43 rfl (lv_at hl 2 rfl) ?_
    refine lv_if_ge (tgt := 49) hx hb dX11_heardEar_44 (by decide) (fun c_44 => ?_) (fun c_44 => ?_)
    · have hf := rf_it c_44 hf
      exact w_X11_heardEar_49 hC hD e_m_hasFerry e_m_r e_m_st ih v1 v2 v3 m_thrown m_trouble hf _ _ _ hP hS (lv_sub hl [0, 1, 2, 3] rfl)
    have hf := rf_ie c_44 hf
    exact w_X11_heardEar_47 hC hD e_m_hasFerry e_m_r e_m_st ih v1 v3 m_thrown m_trouble hf _ _ _ hP hS (lv_sub hl [0, 1, 3] rfl)
set_option maxHeartbeats 4000000 in
set_option maxRecDepth 100000 in
theorem c_X11_heardEar (l : Launch) (E : rf_E) (a : Nat → Nat) (I : Nat → Int32) (A : Nat → Nat → Int32) (m_hasFerry : Int32) (m_r : Nat → Int32) (m_st : Nat → Int32) (m_thrown : Int32) (m_trouble : Int32) (v1 : Int32) {z : Int32 × Int32 × Int32} (e_m_hasFerry : I 12 = m_hasFerry) (e_m_r : A 2 = m_r) (e_m_st : A 4 = m_st) (e_m_thrown : I 0 = m_thrown) (e_m_trouble : I 10 = m_trouble) (hf : f_X11_heardEar m_hasFerry m_r m_st m_thrown m_trouble v1 = some z) : rf_MI l yX11_heardEar cX11_heardEar 4 (some .int) ({ frames := 6, cells := 0, slots := 0, locals := 144 }) E [.ref (a 0), .int v1] (cM E a I A) z.1 (cM E a (rf_upL I [(0, z.2.1), (10, z.2.2)]) A) := by
  unfold f_X11_heardEar at hf
  refine rf_ofI (by decide) (Nat.le_of_ble_eq_true rfl) ?_
  intro p e s m below meth c A0 ls hC hD hP hS hl
  have hC : rf_C p E s m _ meth c cX11_heardEar 4 RX11 (some .int) A0 := hC
  have hx := hC.1
  have hb := hC.2.1
  have hl : lv_has ls 4 [(0, .ref (a 0)), (1, .int v1)] := hl
  have hP : va_P (rf_D E) vwCl (cM E a (rf_upL I [(0, m_thrown), (10, m_trouble)]) A) s.heap := by
    rw [rf_self (f := I) [(0, m_thrown), (10, m_trouble)] (rf_fa1 e_m_thrown (rf_fa1 e_m_trouble rf_fa0))]
    exact hP
  refine lv_aload_n hx hb dX11_heardEar_0 rfl (lv_at hl 0 rfl) ?_
  obtain ⟨z1, hz1, hf⟩ := rf_bd hf
  refine rf_vv (q0 := 0) (ci := 11) hC (c_X11_good l E a (rf_upL I [(0, m_thrown), (10, m_trouble)]) A m_thrown m_trouble rfl rfl hz1) kV_X11_good tw_1403 ⟨Nat.le_of_ble_eq_true rfl, Nat.le_of_ble_eq_true rfl⟩ rfl rfl rfl rfl rfl hP (rf_DM hD) hS rfl hl.1 (rest := []) rfl (Nat.le_of_ble_eq_true rfl) dX11_heardEar_1 (fun H locs hP hS => ?_)
  rw [rf_cat (f := I) (l := [(0, m_thrown), (10, m_trouble)]) (lc := [(0, z1.1), (10, z1.2)]) (l' := [(0, z1.1), (10, z1.2)]) rfl] at hP
  refine lv_aload_n hx hb dX11_heardEar_4 rfl (lv_at hl 0 rfl) ?_
  refine gM_m_hasFerry hC hP tw_1293 (v := m_hasFerry) e_m_hasFerry dX11_heardEar_5 ?_
  refine lv_if_ne (tgt := 17) hx hb dX11_heardEar_8 (by decide) (fun c_8 => ?_) (fun c_8 => ?_)
  · have hf := rf_ie c_8 hf
    refine lv_bipush (v := (-2)) hx hb dX11_heardEar_17 (by decide) ?_
    refine lv_istore_n (lv' := [(2, .int (-2)), (0, .ref (a 0)), (1, .int v1)]) hx hb dX11_heardEar_19 rfl hl (by decide) rfl (fun ls hl => ?_)
    refine lv_iconst (v := 1) hx hb dX11_heardEar_20 (by decide) ?_
    refine lv_istore_n (lv' := [(3, .int 1), (2, .int (-2)), (0, .ref (a 0)), (1, .int v1)]) hx hb dX11_heardEar_21 rfl hl (by decide) rfl (fun ls hl => ?_)
    exact w_X11_heardEar_22 hC hD e_m_hasFerry e_m_r e_m_st rf_fu v1 (-2) 1 z1.1 z1.2 hf _ _ _ hP hS (lv_sub hl [2, 3, 1, 0] rfl)
  have hf := rf_it c_8 hf
  refine lv_aload_n hx hb dX11_heardEar_11 rfl (lv_at hl 0 rfl) ?_
  refine lv_iconst (v := 1) hx hb dX11_heardEar_12 (by decide) ?_
  obtain ⟨z13, hz13, hf⟩ := rf_bd hf
  refine rf_vi (q0 := 0) (ci := 11) hC (c_X11_no l E a (rf_upL I [(0, z1.1), (10, z1.2)]) A z1.2 1 rfl hz13) kV_X11_no tw_1410 ⟨Nat.le_of_ble_eq_true rfl, Nat.le_of_ble_eq_true rfl⟩ rfl rfl rfl rfl rfl hP (rf_DM hD) hS rfl hl.1 (rest := []) rfl (Nat.le_of_ble_eq_true rfl) dX11_heardEar_13 (fun H locs hP hS => ?_)
  rw [rf_cat (f := I) (l := [(0, z1.1), (10, z1.2)]) (lc := [(10, z13.2)]) (l' := [(0, z1.1), (10, z13.2)]) rfl] at hP
  obtain rfl := Option.some.inj hf
  exact rf_reti hC hP hS rfl rfl dX11_heardEar_16
set_option maxHeartbeats 4000000 in
set_option maxRecDepth 100000 in
theorem w_X11_leavesBy_77 {l : Launch} {p : Program} {e : Env} {s : State} {m : MethodId} {args : Array Value} {below : List Frame} {meth : Method} {c : Code} {A0 : Nat → Prop} {E : rf_E} {a : Nat → Nat} {I : Nat → Int32} {A : Nat → Nat → Int32} {m_r : Nat → Int32} {m_st : Nat → Int32} {z : Int32} (hC : rf_C p E s m args meth c cX11_leavesBy 8 RX11 (some .int) A0) (hD : va_D A0 (cM E a I A)) (e_m_r : A 2 = m_r) (e_m_st : A 4 = m_st) {k6 : Int32 → Int32 → Int32 → Int32 → Int32 → Option (Int32)} (hk6 : ∀ (v1 : Int32) (v2 : Int32) (v3 : Int32) (v4 : Int32) (v5 : Int32), k6 v1 v2 v3 v4 v5 = some z → ∀ (H : Heap) (locs : List Loc) (ls : Array Slot), va_P (rf_D E) vwCl (cM E a I A) H → va_S A0 s.heap H locs → lv_has ls 8 [(0, .ref (a 0)), (1, .int v1), (2, .int v2), (3, .int v3), (4, .int v4), (5, .int v5)] → W p l e ({ frames := 4, cells := 0, slots := 0, locals := 100 }) s m args below meth c H locs 0 0 (rf_QI below args s E A0 z (cM E a I A)) (F0 m 6 ls [])) :
    ∀ (v1 : Int32) (v2 : Int32) (v3 : Int32) (v5 : Int32) (s0 : Int32), f_X11_leavesBy_77 k6 m_r m_st v1 v2 v3 v5 s0 = some z → ∀ (H : Heap) (locs : List Loc) (ls : Array Slot), va_P (rf_D E) vwCl (cM E a I A) H → va_S A0 s.heap H locs → lv_has ls 8 [(0, .ref (a 0)), (1, .int v1), (2, .int v2), (3, .int v3), (5, .int v5)] → W p l e ({ frames := 4, cells := 0, slots := 0, locals := 100 }) s m args below meth c H locs 0 0 (rf_QI below args s E A0 z (cM E a I A)) (F0 m 77 ls [.int s0]) := by
  have hx := hC.1
  have hb := hC.2.1
  intro v1 v2 v3 v5 s0 hf H locs ls hP hS hl
  unfold f_X11_leavesBy_77 at hf
  refine lv_istore (lv' := [(4, .int s0), (0, .ref (a 0)), (1, .int v1), (2, .int v2), (3, .int v3), (5, .int v5)]) hx hb dX11_leavesBy_77 hl (by decide) rfl (fun ls hl => ?_)
  refine lv_iinc (v := v5 + 1) (lv' := [(5, .int (v5 + 1)), (4, .int s0), (0, .ref (a 0)), (1, .int v1), (2, .int v2), (3, .int v3)]) hx hb dX11_leavesBy_79 hl (k := 5) rfl rfl (by decide) rfl (fun ls hl => ?_)
  refine lv_goto (tgt := 6) hx hb dX11_leavesBy_82 (by decide) ?_
  exact hk6 v1 v2 v3 s0 (v5 + 1) hf _ _ _ hP hS (lv_sub hl [2, 3, 4, 5, 1, 0] rfl)
set_option maxHeartbeats 4000000 in
set_option maxRecDepth 100000 in
theorem w_X11_leavesBy_54 {l : Launch} {p : Program} {e : Env} {s : State} {m : MethodId} {args : Array Value} {below : List Frame} {meth : Method} {c : Code} {A0 : Nat → Prop} {E : rf_E} {a : Nat → Nat} {I : Nat → Int32} {A : Nat → Nat → Int32} {m_r : Nat → Int32} {m_st : Nat → Int32} {z : Int32} (hC : rf_C p E s m args meth c cX11_leavesBy 8 RX11 (some .int) A0) (hD : va_D A0 (cM E a I A)) (e_m_r : A 2 = m_r) (e_m_st : A 4 = m_st) {k6 : Int32 → Int32 → Int32 → Int32 → Int32 → Option (Int32)} (hk6 : ∀ (v1 : Int32) (v2 : Int32) (v3 : Int32) (v4 : Int32) (v5 : Int32), k6 v1 v2 v3 v4 v5 = some z → ∀ (H : Heap) (locs : List Loc) (ls : Array Slot), va_P (rf_D E) vwCl (cM E a I A) H → va_S A0 s.heap H locs → lv_has ls 8 [(0, .ref (a 0)), (1, .int v1), (2, .int v2), (3, .int v3), (4, .int v4), (5, .int v5)] → W p l e ({ frames := 4, cells := 0, slots := 0, locals := 100 }) s m args below meth c H locs 0 0 (rf_QI below args s E A0 z (cM E a I A)) (F0 m 6 ls [])) {k18 : Int32 → Int32 → Int32 → Int32 → Int32 → Int32 → Int32 → Option (Int32)} (hk18 : ∀ (v1 : Int32) (v2 : Int32) (v3 : Int32) (v4 : Int32) (v5 : Int32) (v6 : Int32) (v7 : Int32), k18 v1 v2 v3 v4 v5 v6 v7 = some z → ∀ (H : Heap) (locs : List Loc) (ls : Array Slot), va_P (rf_D E) vwCl (cM E a I A) H → va_S A0 s.heap H locs → lv_has ls 8 [(0, .ref (a 0)), (1, .int v1), (2, .int v2), (3, .int v3), (4, .int v4), (5, .int v5), (6, .int v6), (7, .int v7)] → W p l e ({ frames := 4, cells := 0, slots := 0, locals := 100 }) s m args below meth c H locs 0 0 (rf_QI below args s E A0 z (cM E a I A)) (F0 m 18 ls [])) :
    ∀ (v1 : Int32) (v2 : Int32) (v3 : Int32) (v4 : Int32) (v5 : Int32) (v7 : Int32) (s0 : Int32) (s1 : Int32), f_X11_leavesBy_54 k6 k18 m_r m_st v1 v2 v3 v4 v5 v7 s0 s1 = some z → ∀ (H : Heap) (locs : List Loc) (ls : Array Slot), va_P (rf_D E) vwCl (cM E a I A) H → va_S A0 s.heap H locs → lv_has ls 8 [(0, .ref (a 0)), (1, .int v1), (2, .int v2), (3, .int v3), (4, .int v4), (5, .int v5), (7, .int v7)] → W p l e ({ frames := 4, cells := 0, slots := 0, locals := 100 }) s m args below meth c H locs 0 0 (rf_QI below args s E A0 z (cM E a I A)) (F0 m 54 ls [.int s1, .int s0]) := by
  have hx := hC.1
  have hb := hC.2.1
  intro v1 v2 v3 v4 v5 v7 s0 s1 hf H locs ls hP hS hl
  unfold f_X11_leavesBy_54 at hf
  refine lv_iadd hx hb dX11_leavesBy_54 ?_
  refine lv_istore (lv' := [(6, .int (s0 + s1)), (0, .ref (a 0)), (1, .int v1), (2, .int v2), (3, .int v3), (4, .int v4), (5, .int v5), (7, .int v7)]) hx hb dX11_leavesBy_55 hl (by decide) rfl (fun ls hl => ?_)
  refine lv_iinc (v := v7 + 1) (lv' := [(7, .int (v7 + 1)), (6, .int (s0 + s1)), (0, .ref (a 0)), (1, .int v1), (2, .int v2), (3, .int v3), (4, .int v4), (5, .int v5)]) hx hb dX11_leavesBy_57 hl (k := 7) rfl rfl (by decide) rfl (fun ls hl => ?_)
  refine lv_goto (tgt := 18) hx hb dX11_leavesBy_60 (by decide) ?_
  exact hk18 v1 v2 v3 v4 v5 (s0 + s1) (v7 + 1) hf _ _ _ hP hS (lv_sub hl [2, 3, 4, 5, 6, 7, 1, 0] rfl)
set_option maxHeartbeats 4000000 in
set_option maxRecDepth 100000 in
theorem w_X11_leavesBy_53 {l : Launch} {p : Program} {e : Env} {s : State} {m : MethodId} {args : Array Value} {below : List Frame} {meth : Method} {c : Code} {A0 : Nat → Prop} {E : rf_E} {a : Nat → Nat} {I : Nat → Int32} {A : Nat → Nat → Int32} {m_r : Nat → Int32} {m_st : Nat → Int32} {z : Int32} (hC : rf_C p E s m args meth c cX11_leavesBy 8 RX11 (some .int) A0) (hD : va_D A0 (cM E a I A)) (e_m_r : A 2 = m_r) (e_m_st : A 4 = m_st) {k6 : Int32 → Int32 → Int32 → Int32 → Int32 → Option (Int32)} (hk6 : ∀ (v1 : Int32) (v2 : Int32) (v3 : Int32) (v4 : Int32) (v5 : Int32), k6 v1 v2 v3 v4 v5 = some z → ∀ (H : Heap) (locs : List Loc) (ls : Array Slot), va_P (rf_D E) vwCl (cM E a I A) H → va_S A0 s.heap H locs → lv_has ls 8 [(0, .ref (a 0)), (1, .int v1), (2, .int v2), (3, .int v3), (4, .int v4), (5, .int v5)] → W p l e ({ frames := 4, cells := 0, slots := 0, locals := 100 }) s m args below meth c H locs 0 0 (rf_QI below args s E A0 z (cM E a I A)) (F0 m 6 ls [])) {k18 : Int32 → Int32 → Int32 → Int32 → Int32 → Int32 → Int32 → Option (Int32)} (hk18 : ∀ (v1 : Int32) (v2 : Int32) (v3 : Int32) (v4 : Int32) (v5 : Int32) (v6 : Int32) (v7 : Int32), k18 v1 v2 v3 v4 v5 v6 v7 = some z → ∀ (H : Heap) (locs : List Loc) (ls : Array Slot), va_P (rf_D E) vwCl (cM E a I A) H → va_S A0 s.heap H locs → lv_has ls 8 [(0, .ref (a 0)), (1, .int v1), (2, .int v2), (3, .int v3), (4, .int v4), (5, .int v5), (6, .int v6), (7, .int v7)] → W p l e ({ frames := 4, cells := 0, slots := 0, locals := 100 }) s m args below meth c H locs 0 0 (rf_QI below args s E A0 z (cM E a I A)) (F0 m 18 ls [])) :
    ∀ (v1 : Int32) (v2 : Int32) (v3 : Int32) (v4 : Int32) (v5 : Int32) (v7 : Int32) (s0 : Int32), f_X11_leavesBy_53 k6 k18 m_r m_st v1 v2 v3 v4 v5 v7 s0 = some z → ∀ (H : Heap) (locs : List Loc) (ls : Array Slot), va_P (rf_D E) vwCl (cM E a I A) H → va_S A0 s.heap H locs → lv_has ls 8 [(0, .ref (a 0)), (1, .int v1), (2, .int v2), (3, .int v3), (4, .int v4), (5, .int v5), (7, .int v7)] → W p l e ({ frames := 4, cells := 0, slots := 0, locals := 100 }) s m args below meth c H locs 0 0 (rf_QI below args s E A0 z (cM E a I A)) (F0 m 53 ls [.int s0]) := by
  have hx := hC.1
  have hb := hC.2.1
  intro v1 v2 v3 v4 v5 v7 s0 hf H locs ls hP hS hl
  unfold f_X11_leavesBy_53 at hf
  refine lv_iconst (v := 0) hx hb dX11_leavesBy_53 (by decide) ?_
  exact w_X11_leavesBy_54 hC hD e_m_r e_m_st hk6 hk18 v1 v2 v3 v4 v5 v7 s0 0 hf _ _ _ hP hS (lv_sub hl [0, 1, 2, 3, 4, 5, 6] rfl)
set_option maxHeartbeats 4000000 in
set_option maxRecDepth 100000 in
theorem w_X11_leavesBy_18 {l : Launch} {p : Program} {e : Env} {s : State} {m : MethodId} {args : Array Value} {below : List Frame} {meth : Method} {c : Code} {A0 : Nat → Prop} {E : rf_E} {a : Nat → Nat} {I : Nat → Int32} {A : Nat → Nat → Int32} {m_r : Nat → Int32} {m_st : Nat → Int32} {z : Int32} (hC : rf_C p E s m args meth c cX11_leavesBy 8 RX11 (some .int) A0) (hD : va_D A0 (cM E a I A)) (e_m_r : A 2 = m_r) (e_m_st : A 4 = m_st) {k6 : Int32 → Int32 → Int32 → Int32 → Int32 → Option (Int32)} (hk6 : ∀ (v1 : Int32) (v2 : Int32) (v3 : Int32) (v4 : Int32) (v5 : Int32), k6 v1 v2 v3 v4 v5 = some z → ∀ (H : Heap) (locs : List Loc) (ls : Array Slot), va_P (rf_D E) vwCl (cM E a I A) H → va_S A0 s.heap H locs → lv_has ls 8 [(0, .ref (a 0)), (1, .int v1), (2, .int v2), (3, .int v3), (4, .int v4), (5, .int v5)] → W p l e ({ frames := 4, cells := 0, slots := 0, locals := 100 }) s m args below meth c H locs 0 0 (rf_QI below args s E A0 z (cM E a I A)) (F0 m 6 ls [])) :
    ∀ (n : Nat), ∀ (v1 : Int32) (v2 : Int32) (v3 : Int32) (v4 : Int32) (v5 : Int32) (v6 : Int32) (v7 : Int32), f_X11_leavesBy_18 k6 m_r m_st n v1 v2 v3 v4 v5 v6 v7 = some z → ∀ (H : Heap) (locs : List Loc) (ls : Array Slot), va_P (rf_D E) vwCl (cM E a I A) H → va_S A0 s.heap H locs → lv_has ls 8 [(0, .ref (a 0)), (1, .int v1), (2, .int v2), (3, .int v3), (4, .int v4), (5, .int v5), (6, .int v6), (7, .int v7)] → W p l e ({ frames := 4, cells := 0, slots := 0, locals := 100 }) s m args below meth c H locs 0 0 (rf_QI below args s E A0 z (cM E a I A)) (F0 m 18 ls []) := by
  have hx := hC.1
  have hb := hC.2.1
  intro n
  induction n with
  | zero =>
    intro v1 v2 v3 v4 v5 v6 v7 hf
    have hf : (none : Option (Int32)) = some z := hf
    cases hf
  | succ n ih =>
    intro v1 v2 v3 v4 v5 v6 v7 hf H locs ls hP hS hl
    rw [f_X11_leavesBy_18] at hf
    refine lv_iload hx hb dX11_leavesBy_18 (lv_at hl 7 rfl) ?_
    refine lv_bipush (v := 6) hx hb dX11_leavesBy_20 (by decide) ?_
    refine lv_icmp_gt (tgt := 63) hx hb dX11_leavesBy_22 (by decide) (fun c_22 => ?_) (fun c_22 => ?_)
    · have hf := rf_it c_22 hf
      refine lv_iload hx hb dX11_leavesBy_63 (lv_at hl 6 rfl) ?_
      refine lv_iload hx hb dX11_leavesBy_65 (lv_at hl 4 rfl) ?_
      refine lv_icmp_le (tgt := 75) hx hb dX11_leavesBy_67 (by decide) (fun c_67 => ?_) (fun c_67 => ?_)
      · have hf := rf_it c_67 hf
        refine lv_iload hx hb dX11_leavesBy_75 (lv_at hl 4 rfl) ?_
        exact w_X11_leavesBy_77 hC hD e_m_r e_m_st hk6 v1 v2 v3 v5 v4 hf _ _ _ hP hS (lv_sub hl [0, 1, 2, 3, 5] rfl)
      have hf := rf_ie c_67 hf
      refine lv_iload hx hb dX11_leavesBy_70 (lv_at hl 6 rfl) ?_
      refine lv_goto (tgt := 77) hx hb dX11_leavesBy_72 (by decide) ?_
      exact w_X11_leavesBy_77 hC hD e_m_r e_m_st hk6 v1 v2 v3 v5 v6 hf _ _ _ hP hS (lv_sub hl [0, 1, 2, 3, 5] rfl)
    have hf := rf_ie c_22 hf
    refine lv_iload hx hb dX11_leavesBy_25 (lv_at hl 6 rfl) ?_
    refine lv_iload_n hx hb dX11_leavesBy_27 rfl (lv_at hl 3 rfl) ?_
    refine lv_iload hx hb dX11_leavesBy_28 (lv_at hl 7 rfl) ?_
    obtain ⟨z30, hz30, hf⟩ := rf_bd hf
    refine rf_si0 hC (c_X11_hasBit l E v3 v7 hz30) kS_X11_hasBit tw_1539 ⟨Nat.le_of_ble_eq_true rfl, Nat.le_of_ble_eq_true rfl⟩ rfl rfl hP hS rfl hl.1 (rest := [.int v6]) rfl (Nat.le_of_ble_eq_true rfl) dX11_leavesBy_30 (fun H locs hP hS => ?_)
    refine lv_if_eq (tgt := 53) hx hb dX11_leavesBy_33 (by decide) (fun c_33 => ?_) (fun c_33 => ?_)
    · have hf := rf_it c_33 hf
      exact w_X11_leavesBy_53 hC hD e_m_r e_m_st hk6 ih v1 v2 v3 v4 v5 v7 v6 hf _ _ _ hP hS (lv_sub hl [0, 1, 2, 3, 4, 5, 7] rfl)
    have hf := rf_ie c_33 hf
    refine lv_aload_n hx hb dX11_leavesBy_36 rfl (lv_at hl 0 rfl) ?_
    refine lv_iload_n hx hb dX11_leavesBy_37 rfl (lv_at hl 1 rfl) ?_
    refine lv_iload_n hx hb dX11_leavesBy_38 rfl (lv_at hl 2 rfl) ?_
    refine lv_iload hx hb dX11_leavesBy_39 (lv_at hl 7 rfl) ?_
    obtain ⟨z41, hz41, hf⟩ := rf_bd hf
    refine rf_vi (q0 := 0) (ci := 11) hC (c_X11_rhymeNow l E a I A m_r m_st v1 v2 v7 e_m_r e_m_st hz41) kV_X11_rhymeNow tw_1636 ⟨Nat.le_of_ble_eq_true rfl, Nat.le_of_ble_eq_true rfl⟩ rfl rfl rfl rfl rfl hP (rf_DM hD) hS rfl hl.1 (rest := [.int v6]) rfl (Nat.le_of_ble_eq_true rfl) dX11_leavesBy_41 (fun H locs hP hS => ?_)
    refine lv_iload hx hb dX11_leavesBy_44 (lv_at hl 5 rfl) ?_
    refine lv_icmp_ne (tgt := 53) hx hb dX11_leavesBy_46 (by decide) (fun c_46 => ?_) (fun c_46 => ?_)
    · have hf := rf_ie c_46 hf
      exact w_X11_leavesBy_53 hC hD e_m_r e_m_st hk6 ih v1 v2 v3 v4 v5 v7 v6 hf _ _ _ hP hS (lv_sub hl [0, 1, 2, 3, 4, 5, 7] rfl)
    have hf := rf_it c_46 hf
    refine lv_iconst (v := 1) hx hb dX11_leavesBy_49 (by decide) ?_
    refine lv_goto (tgt := 54) hx hb dX11_leavesBy_50 (by decide) ?_
    exact w_X11_leavesBy_54 hC hD e_m_r e_m_st hk6 ih v1 v2 v3 v4 v5 v7 v6 1 hf _ _ _ hP hS (lv_sub hl [0, 1, 2, 3, 4, 5, 7] rfl)
set_option maxHeartbeats 4000000 in
set_option maxRecDepth 100000 in
theorem w_X11_leavesBy_6 {l : Launch} {p : Program} {e : Env} {s : State} {m : MethodId} {args : Array Value} {below : List Frame} {meth : Method} {c : Code} {A0 : Nat → Prop} {E : rf_E} {a : Nat → Nat} {I : Nat → Int32} {A : Nat → Nat → Int32} {m_r : Nat → Int32} {m_st : Nat → Int32} {z : Int32} (hC : rf_C p E s m args meth c cX11_leavesBy 8 RX11 (some .int) A0) (hD : va_D A0 (cM E a I A)) (e_m_r : A 2 = m_r) (e_m_st : A 4 = m_st) :
    ∀ (n : Nat), ∀ (v1 : Int32) (v2 : Int32) (v3 : Int32) (v4 : Int32) (v5 : Int32), f_X11_leavesBy_6 m_r m_st n v1 v2 v3 v4 v5 = some z → ∀ (H : Heap) (locs : List Loc) (ls : Array Slot), va_P (rf_D E) vwCl (cM E a I A) H → va_S A0 s.heap H locs → lv_has ls 8 [(0, .ref (a 0)), (1, .int v1), (2, .int v2), (3, .int v3), (4, .int v4), (5, .int v5)] → W p l e ({ frames := 4, cells := 0, slots := 0, locals := 100 }) s m args below meth c H locs 0 0 (rf_QI below args s E A0 z (cM E a I A)) (F0 m 6 ls []) := by
  have hx := hC.1
  have hb := hC.2.1
  intro n
  induction n with
  | zero =>
    intro v1 v2 v3 v4 v5 hf
    have hf : (none : Option (Int32)) = some z := hf
    cases hf
  | succ n ih =>
    intro v1 v2 v3 v4 v5 hf H locs ls hP hS hl
    rw [f_X11_leavesBy_6] at hf
    refine lv_iload hx hb dX11_leavesBy_6 (lv_at hl 5 rfl) ?_
    refine lv_iconst (v := 2) hx hb dX11_leavesBy_8 (by decide) ?_
    refine lv_icmp_gt (tgt := 85) hx hb dX11_leavesBy_9 (by decide) (fun c_9 => ?_) (fun c_9 => ?_)
    · have hf := rf_it c_9 hf
      refine lv_iload hx hb dX11_leavesBy_85 (lv_at hl 4 rfl) ?_
      obtain rfl := Option.some.inj hf
      exact rf_reti hC hP hS rfl rfl dX11_leavesBy_87
    have hf := rf_ie c_9 hf
    refine lv_iconst (v := 0) hx hb dX11_leavesBy_12 (by decide) ?_
    refine lv_istore (lv' := [(6, .int 0), (0, .ref (a 0)), (1, .int v1), (2, .int v2), (3, .int v3), (4, .int v4), (5, .int v5)]) hx hb dX11_leavesBy_13 hl (by decide) rfl (fun ls hl => ?_)
    refine lv_iconst (v := 1) hx hb dX11_leavesBy_15 (by decide) ?_
    refine lv_istore (lv' := [(7, .int 1), (6, .int 0), (0, .ref (a 0)), (1, .int v1), (2, .int v2), (3, .int v3), (4, .int v4), (5, .int v5)]) hx hb dX11_leavesBy_16 hl (by decide) rfl (fun ls hl => ?_)
    exact w_X11_leavesBy_18 hC hD e_m_r e_m_st ih rf_fu v1 v2 v3 v4 v5 0 1 hf _ _ _ hP hS (lv_sub hl [2, 3, 4, 5, 6, 7, 1, 0] rfl)
set_option maxHeartbeats 4000000 in
set_option maxRecDepth 100000 in
theorem c_X11_leavesBy (l : Launch) (E : rf_E) (a : Nat → Nat) (I : Nat → Int32) (A : Nat → Nat → Int32) (m_r : Nat → Int32) (m_st : Nat → Int32) (v1 : Int32) (v2 : Int32) (v3 : Int32) {z : Int32} (e_m_r : A 2 = m_r) (e_m_st : A 4 = m_st) (hf : f_X11_leavesBy m_r m_st v1 v2 v3 = some z) : rf_MI l yX11_leavesBy cX11_leavesBy 8 (some .int) ({ frames := 4, cells := 0, slots := 0, locals := 100 }) E [.ref (a 0), .int v1, .int v2, .int v3] (cM E a I A) z (cM E a I A) := by
  unfold f_X11_leavesBy at hf
  refine rf_ofI (by decide) (Nat.le_of_ble_eq_true rfl) ?_
  intro p e s m below meth c A0 ls hC hD hP hS hl
  have hC : rf_C p E s m _ meth c cX11_leavesBy 8 RX11 (some .int) A0 := hC
  have hx := hC.1
  have hb := hC.2.1
  have hl : lv_has ls 8 [(0, .ref (a 0)), (1, .int v1), (2, .int v2), (3, .int v3)] := hl
  refine lv_iconst (v := 0) hx hb dX11_leavesBy_0 (by decide) ?_
  refine lv_istore (lv' := [(4, .int 0), (0, .ref (a 0)), (1, .int v1), (2, .int v2), (3, .int v3)]) hx hb dX11_leavesBy_1 hl (by decide) rfl (fun ls hl => ?_)
  refine lv_iconst (v := 0) hx hb dX11_leavesBy_3 (by decide) ?_
  refine lv_istore (lv' := [(5, .int 0), (4, .int 0), (0, .ref (a 0)), (1, .int v1), (2, .int v2), (3, .int v3)]) hx hb dX11_leavesBy_4 hl (by decide) rfl (fun ls hl => ?_)
  exact w_X11_leavesBy_6 hC hD e_m_r e_m_st rf_fu v1 v2 v3 0 0 hf _ _ _ hP hS (lv_sub hl [2, 3, 4, 5, 1, 0] rfl)
set_option maxHeartbeats 4000000 in
set_option maxRecDepth 100000 in
theorem w_X11_askOf_98 {l : Launch} {p : Program} {e : Env} {s : State} {m : MethodId} {args : Array Value} {below : List Frame} {meth : Method} {c : Code} {A0 : Nat → Prop} {E : rf_E} {a : Nat → Nat} {I : Nat → Int32} {A : Nat → Nat → Int32} {m_r : Nat → Int32} {m_st : Nat → Int32} {z : Int32 × Int32} (hC : rf_C p E s m args meth c cX11_askOf 6 RX11 (some .int) A0) (hD : va_D A0 (cM E a I A)) (e_m_r : A 2 = m_r) (e_m_st : A 4 = m_st) :
    ∀ (v2 : Int32) (m_leftThen : Int32), f_X11_askOf_98 m_r m_st v2 m_leftThen = some z → ∀ (H : Heap) (locs : List Loc) (ls : Array Slot), va_P (rf_D E) vwCl (cM E a (rf_upL I [(18, m_leftThen)]) A) H → va_S A0 s.heap H locs → lv_has ls 6 [(2, .int v2)] → W p l e ({ frames := 6, cells := 0, slots := 0, locals := 144 }) s m args below meth c H locs 0 0 (rf_QI below args s E A0 z.1 (cM E a (rf_upL I [(18, z.2)]) A)) (F0 m 98 ls []) := by
  have hx := hC.1
  have hb := hC.2.1
  intro v2 m_leftThen hf H locs ls hP hS hl
  unfold f_X11_askOf_98 at hf
  refine lv_iload_n hx hb dX11_askOf_98 rfl (lv_at hl 0 rfl) ?_
  obtain rfl := Option.some.inj hf
  exact rf_reti hC hP hS rfl rfl dX11_askOf_99
set_option maxHeartbeats 4000000 in
set_option maxRecDepth 100000 in
theorem w_X11_askOf_86 {l : Launch} {p : Program} {e : Env} {s : State} {m : MethodId} {args : Array Value} {below : List Frame} {meth : Method} {c : Code} {A0 : Nat → Prop} {E : rf_E} {a : Nat → Nat} {I : Nat → Int32} {A : Nat → Nat → Int32} {m_r : Nat → Int32} {m_st : Nat → Int32} {z : Int32 × Int32} (hC : rf_C p E s m args meth c cX11_askOf 6 RX11 (some .int) A0) (hD : va_D A0 (cM E a I A)) (e_m_r : A 2 = m_r) (e_m_st : A 4 = m_st) {k16 : Int32 → Int32 → Int32 → Int32 → Option (Int32 × Int32)} (hk16 : ∀ (v1 : Int32) (v2 : Int32) (v3 : Int32) (m_leftThen : Int32), k16 v1 v2 v3 m_leftThen = some z → ∀ (H : Heap) (locs : List Loc) (ls : Array Slot), va_P (rf_D E) vwCl (cM E a (rf_upL I [(18, m_leftThen)]) A) H → va_S A0 s.heap H locs → lv_has ls 6 [(0, .ref (a 0)), (1, .int v1), (2, .int v2), (3, .int v3)] → W p l e ({ frames := 6, cells := 0, slots := 0, locals := 144 }) s m args below meth c H locs 0 0 (rf_QI below args s E A0 z.1 (cM E a (rf_upL I [(18, z.2)]) A)) (F0 m 16 ls [])) {k35 : Int32 → Int32 → Int32 → Int32 → Int32 → Option (Int32 × Int32)} (hk35 : ∀ (v1 : Int32) (v2 : Int32) (v3 : Int32) (v4 : Int32) (m_leftThen : Int32), k35 v1 v2 v3 v4 m_leftThen = some z → ∀ (H : Heap) (locs : List Loc) (ls : Array Slot), va_P (rf_D E) vwCl (cM E a (rf_upL I [(18, m_leftThen)]) A) H → va_S A0 s.heap H locs → lv_has ls 6 [(0, .ref (a 0)), (1, .int v1), (2, .int v2), (3, .int v3), (4, .int v4)] → W p l e ({ frames := 6, cells := 0, slots := 0, locals := 144 }) s m args below meth c H locs 0 0 (rf_QI below args s E A0 z.1 (cM E a (rf_upL I [(18, z.2)]) A)) (F0 m 35 ls [])) :
    ∀ (v1 : Int32) (v2 : Int32) (v3 : Int32) (v4 : Int32) (m_leftThen : Int32), f_X11_askOf_86 k16 k35 m_r m_st v1 v2 v3 v4 m_leftThen = some z → ∀ (H : Heap) (locs : List Loc) (ls : Array Slot), va_P (rf_D E) vwCl (cM E a (rf_upL I [(18, m_leftThen)]) A) H → va_S A0 s.heap H locs → lv_has ls 6 [(0, .ref (a 0)), (1, .int v1), (2, .int v2), (3, .int v3), (4, .int v4)] → W p l e ({ frames := 6, cells := 0, slots := 0, locals := 144 }) s m args below meth c H locs 0 0 (rf_QI below args s E A0 z.1 (cM E a (rf_upL I [(18, z.2)]) A)) (F0 m 86 ls []) := by
  have hx := hC.1
  have hb := hC.2.1
  intro v1 v2 v3 v4 m_leftThen hf H locs ls hP hS hl
  unfold f_X11_askOf_86 at hf
  refine lv_iinc (v := v4 + 1) (lv' := [(4, .int (v4 + 1)), (0, .ref (a 0)), (1, .int v1), (2, .int v2), (3, .int v3)]) hx hb dX11_askOf_86 hl (k := 4) rfl rfl (by decide) rfl (fun ls hl => ?_)
  refine lv_goto (tgt := 35) hx hb dX11_askOf_89 (by decide) ?_
  exact hk35 v1 v2 v3 (v4 + 1) m_leftThen hf _ _ _ hP hS (lv_sub hl [1, 2, 3, 4, 0] rfl)
set_option maxHeartbeats 4000000 in
set_option maxRecDepth 100000 in
theorem w_X11_askOf_72 {l : Launch} {p : Program} {e : Env} {s : State} {m : MethodId} {args : Array Value} {below : List Frame} {meth : Method} {c : Code} {A0 : Nat → Prop} {E : rf_E} {a : Nat → Nat} {I : Nat → Int32} {A : Nat → Nat → Int32} {m_r : Nat → Int32} {m_st : Nat → Int32} {z : Int32 × Int32} (hC : rf_C p E s m args meth c cX11_askOf 6 RX11 (some .int) A0) (hD : va_D A0 (cM E a I A)) (e_m_r : A 2 = m_r) (e_m_st : A 4 = m_st) {k16 : Int32 → Int32 → Int32 → Int32 → Option (Int32 × Int32)} (hk16 : ∀ (v1 : Int32) (v2 : Int32) (v3 : Int32) (m_leftThen : Int32), k16 v1 v2 v3 m_leftThen = some z → ∀ (H : Heap) (locs : List Loc) (ls : Array Slot), va_P (rf_D E) vwCl (cM E a (rf_upL I [(18, m_leftThen)]) A) H → va_S A0 s.heap H locs → lv_has ls 6 [(0, .ref (a 0)), (1, .int v1), (2, .int v2), (3, .int v3)] → W p l e ({ frames := 6, cells := 0, slots := 0, locals := 144 }) s m args below meth c H locs 0 0 (rf_QI below args s E A0 z.1 (cM E a (rf_upL I [(18, z.2)]) A)) (F0 m 16 ls [])) {k35 : Int32 → Int32 → Int32 → Int32 → Int32 → Option (Int32 × Int32)} (hk35 : ∀ (v1 : Int32) (v2 : Int32) (v3 : Int32) (v4 : Int32) (m_leftThen : Int32), k35 v1 v2 v3 v4 m_leftThen = some z → ∀ (H : Heap) (locs : List Loc) (ls : Array Slot), va_P (rf_D E) vwCl (cM E a (rf_upL I [(18, m_leftThen)]) A) H → va_S A0 s.heap H locs → lv_has ls 6 [(0, .ref (a 0)), (1, .int v1), (2, .int v2), (3, .int v3), (4, .int v4)] → W p l e ({ frames := 6, cells := 0, slots := 0, locals := 144 }) s m args below meth c H locs 0 0 (rf_QI below args s E A0 z.1 (cM E a (rf_upL I [(18, z.2)]) A)) (F0 m 35 ls [])) :
    ∀ (v1 : Int32) (v3 : Int32) (v4 : Int32) (v5 : Int32) (m_leftThen : Int32), f_X11_askOf_72 k16 k35 m_r m_st v1 v3 v4 v5 m_leftThen = some z → ∀ (H : Heap) (locs : List Loc) (ls : Array Slot), va_P (rf_D E) vwCl (cM E a (rf_upL I [(18, m_leftThen)]) A) H → va_S A0 s.heap H locs → lv_has ls 6 [(0, .ref (a 0)), (1, .int v1), (3, .int v3), (4, .int v4), (5, .int v5)] → W p l e ({ frames := 6, cells := 0, slots := 0, locals := 144 }) s m args below meth c H locs 0 0 (rf_QI below args s E A0 z.1 (cM E a (rf_upL I [(18, z.2)]) A)) (F0 m 72 ls []) := by
  have hx := hC.1
  have hb := hC.2.1
  intro v1 v3 v4 v5 m_leftThen hf H locs ls hP hS hl
  unfold f_X11_askOf_72 at hf
  refine lv_bipush (v := 10) hx hb dX11_askOf_72 (by decide) ?_
  refine lv_iload_n hx hb dX11_askOf_74 rfl (lv_at hl 2 rfl) ?_
  refine lv_imul hx hb dX11_askOf_75 ?_
  refine lv_iload hx hb dX11_askOf_76 (lv_at hl 3 rfl) ?_
  refine lv_iadd hx hb dX11_askOf_78 ?_
  refine lv_istore_n (lv' := [(2, .int (((10 : Int32) * v3) + v4)), (0, .ref (a 0)), (1, .int v1), (3, .int v3), (4, .int v4), (5, .int v5)]) hx hb dX11_askOf_79 rfl hl (by decide) rfl (fun ls hl => ?_)
  refine lv_aload_n hx hb dX11_askOf_80 rfl (lv_at hl 1 rfl) ?_
  refine lv_iload hx hb dX11_askOf_81 (lv_at hl 5 rfl) ?_
  refine pM_m_leftThen hC hD hP hS tw_1310 dX11_askOf_83 (rf_upL I [(18, v5)]) (rf_put rfl) (fun H locs hP hS => ?_)
  exact w_X11_askOf_86 hC hD e_m_r e_m_st hk16 hk35 v1 (((10 : Int32) * v3) + v4) v3 v4 v5 hf _ _ _ hP hS (lv_sub hl [1, 2, 0, 3, 4] rfl)
set_option maxHeartbeats 4000000 in
set_option maxRecDepth 100000 in
theorem w_X11_askOf_35 {l : Launch} {p : Program} {e : Env} {s : State} {m : MethodId} {args : Array Value} {below : List Frame} {meth : Method} {c : Code} {A0 : Nat → Prop} {E : rf_E} {a : Nat → Nat} {I : Nat → Int32} {A : Nat → Nat → Int32} {m_r : Nat → Int32} {m_st : Nat → Int32} {z : Int32 × Int32} (hC : rf_C p E s m args meth c cX11_askOf 6 RX11 (some .int) A0) (hD : va_D A0 (cM E a I A)) (e_m_r : A 2 = m_r) (e_m_st : A 4 = m_st) {k16 : Int32 → Int32 → Int32 → Int32 → Option (Int32 × Int32)} (hk16 : ∀ (v1 : Int32) (v2 : Int32) (v3 : Int32) (m_leftThen : Int32), k16 v1 v2 v3 m_leftThen = some z → ∀ (H : Heap) (locs : List Loc) (ls : Array Slot), va_P (rf_D E) vwCl (cM E a (rf_upL I [(18, m_leftThen)]) A) H → va_S A0 s.heap H locs → lv_has ls 6 [(0, .ref (a 0)), (1, .int v1), (2, .int v2), (3, .int v3)] → W p l e ({ frames := 6, cells := 0, slots := 0, locals := 144 }) s m args below meth c H locs 0 0 (rf_QI below args s E A0 z.1 (cM E a (rf_upL I [(18, z.2)]) A)) (F0 m 16 ls [])) :
    ∀ (n : Nat), ∀ (v1 : Int32) (v2 : Int32) (v3 : Int32) (v4 : Int32) (m_leftThen : Int32), f_X11_askOf_35 k16 m_r m_st n v1 v2 v3 v4 m_leftThen = some z → ∀ (H : Heap) (locs : List Loc) (ls : Array Slot), va_P (rf_D E) vwCl (cM E a (rf_upL I [(18, m_leftThen)]) A) H → va_S A0 s.heap H locs → lv_has ls 6 [(0, .ref (a 0)), (1, .int v1), (2, .int v2), (3, .int v3), (4, .int v4)] → W p l e ({ frames := 6, cells := 0, slots := 0, locals := 144 }) s m args below meth c H locs 0 0 (rf_QI below args s E A0 z.1 (cM E a (rf_upL I [(18, z.2)]) A)) (F0 m 35 ls []) := by
  have hx := hC.1
  have hb := hC.2.1
  intro n
  induction n with
  | zero =>
    intro v1 v2 v3 v4 m_leftThen hf
    have hf : (none : Option (Int32 × Int32)) = some z := hf
    cases hf
  | succ n ih =>
    intro v1 v2 v3 v4 m_leftThen hf H locs ls hP hS hl
    rw [f_X11_askOf_35] at hf
    refine lv_iload hx hb dX11_askOf_35 (lv_at hl 4 rfl) ?_
    refine lv_aload_n hx hb dX11_askOf_37 rfl (lv_at hl 0 rfl) ?_
    refine gM_m_r hC hP tw_1294 dX11_askOf_38 ?_
    refine lv_iconst (v := 3) hx hb dX11_askOf_41 (by decide) ?_
    refine lM_m_r hC hP (by decide) (f := m_r) e_m_r dX11_askOf_42 ?_
    refine lv_icmp_ge (tgt := 92) hx hb dX11_askOf_43 (by decide) (fun c_43 => ?_) (fun c_43 => ?_)
    · have hf := rf_it c_43 hf
      refine lv_iinc (v := v3 + 1) (lv' := [(3, .int (v3 + 1)), (0, .ref (a 0)), (1, .int v1), (2, .int v2), (4, .int v4)]) hx hb dX11_askOf_92 hl (k := 3) rfl rfl (by decide) rfl (fun ls hl => ?_)
      refine lv_goto (tgt := 16) hx hb dX11_askOf_95 (by decide) ?_
      exact hk16 v1 v2 (v3 + 1) m_leftThen hf _ _ _ hP hS (lv_sub hl [1, 2, 3, 0] rfl)
    have hf := rf_ie c_43 hf
    refine lv_aload_n hx hb dX11_askOf_46 rfl (lv_at hl 0 rfl) ?_
    refine lv_iload_n hx hb dX11_askOf_47 rfl (lv_at hl 3 rfl) ?_
    refine lv_iload hx hb dX11_askOf_48 (lv_at hl 4 rfl) ?_
    refine lv_iload_n hx hb dX11_askOf_50 rfl (lv_at hl 1 rfl) ?_
    obtain ⟨z51, hz51, hf⟩ := rf_bd hf
    refine rf_vi (q0 := 0) (ci := 11) hC (c_X11_leavesBy l E a (rf_upL I [(18, m_leftThen)]) A m_r m_st v3 v4 v1 e_m_r e_m_st hz51) kV_X11_leavesBy tw_1800 ⟨Nat.le_of_ble_eq_true rfl, Nat.le_of_ble_eq_true rfl⟩ rfl rfl rfl rfl rfl hP (rf_DM hD) hS rfl hl.1 (rest := []) rfl (Nat.le_of_ble_eq_true rfl) dX11_askOf_51 (fun H locs hP hS => ?_)
    refine lv_istore (lv' := [(5, .int z51), (0, .ref (a 0)), (1, .int v1), (2, .int v2), (3, .int v3), (4, .int v4)]) hx hb dX11_askOf_54 hl (by decide) rfl (fun ls hl => ?_)
    refine lv_iload_n hx hb dX11_askOf_56 rfl (lv_at hl 3 rfl) ?_
    refine lv_if_lt (tgt := 72) hx hb dX11_askOf_57 (by decide) (fun c_57 => ?_) (fun c_57 => ?_)
    · have hf := rf_it c_57 hf
      exact w_X11_askOf_72 hC hD e_m_r e_m_st hk16 ih v1 v3 v4 z51 m_leftThen hf _ _ _ hP hS (lv_sub hl [1, 2, 4, 5, 0] rfl)
    have hf := rf_ie c_57 hf
    refine lv_iload hx hb dX11_askOf_60 (lv_at hl 0 rfl) ?_
    refine lv_aload_n hx hb dX11_askOf_62 rfl (lv_at hl 1 rfl) ?_
    refine gM_m_leftThen hC hP tw_1310 (v := m_leftThen) rfl dX11_askOf_63 ?_
    refine lv_icmp_lt (tgt := 72) hx hb dX11_askOf_66 (by decide) (fun c_66 => ?_) (fun c_66 => ?_)
    · have hf := rf_it c_66 hf
      exact w_X11_askOf_72 hC hD e_m_r e_m_st hk16 ih v1 v3 v4 z51 m_leftThen hf _ _ _ hP hS (lv_sub hl [1, 2, 4, 5, 0] rfl)
    have hf := rf_ie c_66 hf
    refine lv_goto (tgt := 86) hx hb dX11_askOf_69 (by decide) ?_
    exact w_X11_askOf_86 hC hD e_m_r e_m_st hk16 ih v1 v2 v3 v4 m_leftThen hf _ _ _ hP hS (lv_sub hl [1, 2, 3, 4, 5] rfl)
set_option maxHeartbeats 4000000 in
set_option maxRecDepth 100000 in
theorem w_X11_askOf_16 {l : Launch} {p : Program} {e : Env} {s : State} {m : MethodId} {args : Array Value} {below : List Frame} {meth : Method} {c : Code} {A0 : Nat → Prop} {E : rf_E} {a : Nat → Nat} {I : Nat → Int32} {A : Nat → Nat → Int32} {m_r : Nat → Int32} {m_st : Nat → Int32} {z : Int32 × Int32} (hC : rf_C p E s m args meth c cX11_askOf 6 RX11 (some .int) A0) (hD : va_D A0 (cM E a I A)) (e_m_r : A 2 = m_r) (e_m_st : A 4 = m_st) :
    ∀ (n : Nat), ∀ (v1 : Int32) (v2 : Int32) (v3 : Int32) (m_leftThen : Int32), f_X11_askOf_16 m_r m_st n v1 v2 v3 m_leftThen = some z → ∀ (H : Heap) (locs : List Loc) (ls : Array Slot), va_P (rf_D E) vwCl (cM E a (rf_upL I [(18, m_leftThen)]) A) H → va_S A0 s.heap H locs → lv_has ls 6 [(0, .ref (a 0)), (1, .int v1), (2, .int v2), (3, .int v3)] → W p l e ({ frames := 6, cells := 0, slots := 0, locals := 144 }) s m args below meth c H locs 0 0 (rf_QI below args s E A0 z.1 (cM E a (rf_upL I [(18, z.2)]) A)) (F0 m 16 ls []) := by
  have hx := hC.1
  have hb := hC.2.1
  intro n
  induction n with
  | zero =>
    intro v1 v2 v3 m_leftThen hf
    have hf : (none : Option (Int32 × Int32)) = some z := hf
    cases hf
  | succ n ih =>
    intro v1 v2 v3 m_leftThen hf H locs ls hP hS hl
    rw [f_X11_askOf_16] at hf
    refine lv_iload_n hx hb dX11_askOf_16 rfl (lv_at hl 3 rfl) ?_
    refine lv_aload_n hx hb dX11_askOf_17 rfl (lv_at hl 0 rfl) ?_
    refine gM_m_r hC hP tw_1294 dX11_askOf_18 ?_
    refine lv_iconst (v := 3) hx hb dX11_askOf_21 (by decide) ?_
    refine lM_m_r hC hP (by decide) (f := m_r) e_m_r dX11_askOf_22 ?_
    refine lv_icmp_ge (tgt := 98) hx hb dX11_askOf_23 (by decide) (fun c_23 => ?_) (fun c_23 => ?_)
    · have hf := rf_it c_23 hf
      exact w_X11_askOf_98 hC hD e_m_r e_m_st v2 m_leftThen hf _ _ _ hP hS (lv_sub hl [2] rfl)
    have hf := rf_ie c_23 hf
    refine lv_iload_n hx hb dX11_askOf_26 rfl (lv_at hl 1 rfl) ?_
    refine lv_if_eq (tgt := 98) hx hb dX11_askOf_27 (by decide) (fun c_27 => ?_) (fun c_27 => ?_)
    · have hf := rf_it c_27 hf
      exact w_X11_askOf_98 hC hD e_m_r e_m_st v2 m_leftThen hf _ _ _ hP hS (lv_sub hl [2] rfl)
    have hf := rf_ie c_27 hf
    refine lv_iload_n hx hb dX11_askOf_30 rfl (lv_at hl 3 rfl) ?_
    refine lv_iconst (v := 1) hx hb dX11_askOf_31 (by decide) ?_
    refine lv_iadd hx hb dX11_askOf_32 ?_
    refine lv_istore (lv' := [(4, .int (v3 + 1)), (0, .ref (a 0)), (1, .int v1), (2, .int v2), (3, .int v3)]) hx hb dX11_askOf_33 hl (by decide) rfl (fun ls hl => ?_)
    exact w_X11_askOf_35 hC hD e_m_r e_m_st ih rf_fu v1 v2 v3 (v3 + 1) m_leftThen hf _ _ _ hP hS (lv_sub hl [1, 2, 3, 4, 0] rfl)
set_option maxHeartbeats 4000000 in
set_option maxRecDepth 100000 in
theorem c_X11_askOf (l : Launch) (E : rf_E) (a : Nat → Nat) (I : Nat → Int32) (A : Nat → Nat → Int32) (m_r : Nat → Int32) (m_st : Nat → Int32) (m_leftThen : Int32) {z : Int32 × Int32} (e_m_r : A 2 = m_r) (e_m_st : A 4 = m_st) (e_m_leftThen : I 18 = m_leftThen) (hf : f_X11_askOf m_r m_st m_leftThen = some z) : rf_MI l yX11_askOf cX11_askOf 6 (some .int) ({ frames := 6, cells := 0, slots := 0, locals := 144 }) E [.ref (a 0)] (cM E a I A) z.1 (cM E a (rf_upL I [(18, z.2)]) A) := by
  unfold f_X11_askOf at hf
  refine rf_ofI (by decide) (Nat.le_of_ble_eq_true rfl) ?_
  intro p e s m below meth c A0 ls hC hD hP hS hl
  have hC : rf_C p E s m _ meth c cX11_askOf 6 RX11 (some .int) A0 := hC
  have hx := hC.1
  have hb := hC.2.1
  have hl : lv_has ls 6 [(0, .ref (a 0))] := hl
  have hP : va_P (rf_D E) vwCl (cM E a (rf_upL I [(18, m_leftThen)]) A) s.heap := by
    rw [rf_self (f := I) [(18, m_leftThen)] (rf_fa1 e_m_leftThen rf_fa0)]
    exact hP
  refine lv_aload_n hx hb dX11_askOf_0 rfl (lv_at hl 0 rfl) ?_
  obtain ⟨z1, hz1, hf⟩ := rf_bd hf
  refine rf_vi (q0 := 0) (ci := 11) hC (c_X11_heardSet l E a (rf_upL I [(18, m_leftThen)]) A m_r m_st e_m_r e_m_st hz1) kV_X11_heardSet tw_1784 ⟨Nat.le_of_ble_eq_true rfl, Nat.le_of_ble_eq_true rfl⟩ rfl rfl rfl rfl rfl hP (rf_DM hD) hS rfl hl.1 (rest := []) rfl (Nat.le_of_ble_eq_true rfl) dX11_askOf_1 (fun H locs hP hS => ?_)
  refine lv_istore_n (lv' := [(1, .int z1), (0, .ref (a 0))]) hx hb dX11_askOf_4 rfl hl (by decide) rfl (fun ls hl => ?_)
  refine lv_bipush (v := (-2)) hx hb dX11_askOf_5 (by decide) ?_
  refine lv_istore_n (lv' := [(2, .int (-2)), (1, .int z1), (0, .ref (a 0))]) hx hb dX11_askOf_7 rfl hl (by decide) rfl (fun ls hl => ?_)
  refine lv_aload_n hx hb dX11_askOf_8 rfl (lv_at hl 2 rfl) ?_
  refine lv_bipush (v := (-2)) hx hb dX11_askOf_9 (by decide) ?_
  refine pM_m_leftThen hC hD hP hS tw_1310 dX11_askOf_11 (rf_upL I [(18, (-2))]) (rf_put rfl) (fun H locs hP hS => ?_)
  refine lv_iconst (v := 0) hx hb dX11_askOf_14 (by decide) ?_
  refine lv_istore_n (lv' := [(3, .int 0), (2, .int (-2)), (1, .int z1), (0, .ref (a 0))]) hx hb dX11_askOf_15 rfl hl (by decide) rfl (fun ls hl => ?_)
  exact w_X11_askOf_16 hC hD e_m_r e_m_st rf_fu z1 (-2) 0 (-2) hf _ _ _ hP hS (lv_sub hl [3, 2, 1, 0] rfl)
set_option maxHeartbeats 4000000 in
set_option maxRecDepth 100000 in
theorem c_X11_ask (l : Launch) (E : rf_E) (a : Nat → Nat) (I : Nat → Int32) (A : Nat → Nat → Int32) (m_hasFerry : Int32) (m_r : Nat → Int32) (m_st : Nat → Int32) (m_thrown : Int32) (m_trouble : Int32) (m_leftThen : Int32) {z : Int32 × Int32 × Int32 × Int32} (e_m_hasFerry : I 12 = m_hasFerry) (e_m_r : A 2 = m_r) (e_m_st : A 4 = m_st) (e_m_thrown : I 0 = m_thrown) (e_m_trouble : I 10 = m_trouble) (e_m_leftThen : I 18 = m_leftThen) (hf : f_X11_ask m_hasFerry m_r m_st m_thrown m_trouble m_leftThen = some z) : rf_MI l yX11_ask cX11_ask 1 (some .int) ({ frames := 7, cells := 0, slots := 0, locals := 169 }) E [.ref (a 0)] (cM E a I A) z.1 (cM E a (rf_upL I [(0, z.2.1), (10, z.2.2.1), (18, z.2.2.2)]) A) := by
  unfold f_X11_ask at hf
  refine rf_ofI (by decide) (Nat.le_of_ble_eq_true rfl) ?_
  intro p e s m below meth c A0 ls hC hD hP hS hl
  have hC : rf_C p E s m _ meth c cX11_ask 1 RX11 (some .int) A0 := hC
  have hx := hC.1
  have hb := hC.2.1
  have hl : lv_has ls 1 [(0, .ref (a 0))] := hl
  have hP : va_P (rf_D E) vwCl (cM E a (rf_upL I [(0, m_thrown), (10, m_trouble), (18, m_leftThen)]) A) s.heap := by
    rw [rf_self (f := I) [(0, m_thrown), (10, m_trouble), (18, m_leftThen)] (rf_fa1 e_m_thrown (rf_fa1 e_m_trouble (rf_fa1 e_m_leftThen rf_fa0)))]
    exact hP
  refine lv_aload_n hx hb dX11_ask_0 rfl (lv_at hl 0 rfl) ?_
  obtain ⟨z1, hz1, hf⟩ := rf_bd hf
  refine rf_vv (q0 := 0) (ci := 11) hC (c_X11_good l E a (rf_upL I [(0, m_thrown), (10, m_trouble), (18, m_leftThen)]) A m_thrown m_trouble rfl rfl hz1) kV_X11_good tw_1403 ⟨Nat.le_of_ble_eq_true rfl, Nat.le_of_ble_eq_true rfl⟩ rfl rfl rfl rfl rfl hP (rf_DM hD) hS rfl hl.1 (rest := []) rfl (Nat.le_of_ble_eq_true rfl) dX11_ask_1 (fun H locs hP hS => ?_)
  rw [rf_cat (f := I) (l := [(0, m_thrown), (10, m_trouble), (18, m_leftThen)]) (lc := [(0, z1.1), (10, z1.2)]) (l' := [(0, z1.1), (10, z1.2), (18, m_leftThen)]) rfl] at hP
  refine lv_aload_n hx hb dX11_ask_4 rfl (lv_at hl 0 rfl) ?_
  refine gM_m_hasFerry hC hP tw_1293 (v := m_hasFerry) e_m_hasFerry dX11_ask_5 ?_
  refine lv_if_eq (tgt := 18) hx hb dX11_ask_8 (by decide) (fun c_8 => ?_) (fun c_8 => ?_)
  · have hf := rf_it c_8 hf
    refine lv_aload_n hx hb dX11_ask_18 rfl (lv_at hl 0 rfl) ?_
    refine lv_iconst (v := 1) hx hb dX11_ask_19 (by decide) ?_
    obtain ⟨z20, hz20, hf⟩ := rf_bd hf
    refine rf_vi (q0 := 0) (ci := 11) hC (c_X11_no l E a (rf_upL I [(0, z1.1), (10, z1.2), (18, m_leftThen)]) A z1.2 1 rfl hz20) kV_X11_no tw_1410 ⟨Nat.le_of_ble_eq_true rfl, Nat.le_of_ble_eq_true rfl⟩ rfl rfl rfl rfl rfl hP (rf_DM hD) hS rfl hl.1 (rest := []) rfl (Nat.le_of_ble_eq_true rfl) dX11_ask_20 (fun H locs hP hS => ?_)
    rw [rf_cat (f := I) (l := [(0, z1.1), (10, z1.2), (18, m_leftThen)]) (lc := [(10, z20.2)]) (l' := [(0, z1.1), (10, z20.2), (18, m_leftThen)]) rfl] at hP
    obtain rfl := Option.some.inj hf
    exact rf_reti hC hP hS rfl rfl dX11_ask_23
  have hf := rf_ie c_8 hf
  refine lv_aload_n hx hb dX11_ask_11 rfl (lv_at hl 0 rfl) ?_
  obtain ⟨z12, hz12, hf⟩ := rf_bd hf
  refine rf_vi (q0 := 0) (ci := 11) hC (c_X11_askOf l E a (rf_upL I [(0, z1.1), (10, z1.2), (18, m_leftThen)]) A m_r m_st m_leftThen e_m_r e_m_st rfl hz12) kV_X11_askOf tw_1796 ⟨Nat.le_of_ble_eq_true rfl, Nat.le_of_ble_eq_true rfl⟩ rfl rfl rfl rfl rfl hP (rf_DM hD) hS rfl hl.1 (rest := []) rfl (Nat.le_of_ble_eq_true rfl) dX11_ask_12 (fun H locs hP hS => ?_)
  rw [rf_cat (f := I) (l := [(0, z1.1), (10, z1.2), (18, m_leftThen)]) (lc := [(18, z12.2)]) (l' := [(0, z1.1), (10, z1.2), (18, z12.2)]) rfl] at hP
  refine lv_goto (tgt := 23) hx hb dX11_ask_15 (by decide) ?_
  obtain rfl := Option.some.inj hf
  exact rf_reti hC hP hS rfl rfl dX11_ask_23
set_option maxHeartbeats 4000000 in
set_option maxRecDepth 100000 in
theorem c_X11_askLeaves (l : Launch) (E : rf_E) (a : Nat → Nat) (I : Nat → Int32) (A : Nat → Nat → Int32) (m_hasFerry : Int32) (m_r : Nat → Int32) (m_st : Nat → Int32) (m_thrown : Int32) (m_trouble : Int32) (m_leftThen : Int32) {z : Int32 × Int32 × Int32 × Int32} (e_m_hasFerry : I 12 = m_hasFerry) (e_m_r : A 2 = m_r) (e_m_st : A 4 = m_st) (e_m_thrown : I 0 = m_thrown) (e_m_trouble : I 10 = m_trouble) (e_m_leftThen : I 18 = m_leftThen) (hf : f_X11_askLeaves m_hasFerry m_r m_st m_thrown m_trouble m_leftThen = some z) : rf_MI l yX11_askLeaves cX11_askLeaves 1 (some .int) ({ frames := 7, cells := 0, slots := 0, locals := 169 }) E [.ref (a 0)] (cM E a I A) z.1 (cM E a (rf_upL I [(0, z.2.1), (10, z.2.2.1), (18, z.2.2.2)]) A) := by
  unfold f_X11_askLeaves at hf
  refine rf_ofI (by decide) (Nat.le_of_ble_eq_true rfl) ?_
  intro p e s m below meth c A0 ls hC hD hP hS hl
  have hC : rf_C p E s m _ meth c cX11_askLeaves 1 RX11 (some .int) A0 := hC
  have hx := hC.1
  have hb := hC.2.1
  have hl : lv_has ls 1 [(0, .ref (a 0))] := hl
  have hP : va_P (rf_D E) vwCl (cM E a (rf_upL I [(0, m_thrown), (10, m_trouble), (18, m_leftThen)]) A) s.heap := by
    rw [rf_self (f := I) [(0, m_thrown), (10, m_trouble), (18, m_leftThen)] (rf_fa1 e_m_thrown (rf_fa1 e_m_trouble (rf_fa1 e_m_leftThen rf_fa0)))]
    exact hP
  refine lv_aload_n hx hb dX11_askLeaves_0 rfl (lv_at hl 0 rfl) ?_
  obtain ⟨z1, hz1, hf⟩ := rf_bd hf
  refine rf_vv (q0 := 0) (ci := 11) hC (c_X11_good l E a (rf_upL I [(0, m_thrown), (10, m_trouble), (18, m_leftThen)]) A m_thrown m_trouble rfl rfl hz1) kV_X11_good tw_1403 ⟨Nat.le_of_ble_eq_true rfl, Nat.le_of_ble_eq_true rfl⟩ rfl rfl rfl rfl rfl hP (rf_DM hD) hS rfl hl.1 (rest := []) rfl (Nat.le_of_ble_eq_true rfl) dX11_askLeaves_1 (fun H locs hP hS => ?_)
  rw [rf_cat (f := I) (l := [(0, m_thrown), (10, m_trouble), (18, m_leftThen)]) (lc := [(0, z1.1), (10, z1.2)]) (l' := [(0, z1.1), (10, z1.2), (18, m_leftThen)]) rfl] at hP
  refine lv_aload_n hx hb dX11_askLeaves_4 rfl (lv_at hl 0 rfl) ?_
  refine gM_m_hasFerry hC hP tw_1293 (v := m_hasFerry) e_m_hasFerry dX11_askLeaves_5 ?_
  refine lv_if_ne (tgt := 17) hx hb dX11_askLeaves_8 (by decide) (fun c_8 => ?_) (fun c_8 => ?_)
  · have hf := rf_ie c_8 hf
    refine lv_aload_n hx hb dX11_askLeaves_17 rfl (lv_at hl 0 rfl) ?_
    obtain ⟨z18, hz18, hf⟩ := rf_bd hf
    refine rf_vi (q0 := 0) (ci := 11) hC (c_X11_askOf l E a (rf_upL I [(0, z1.1), (10, z1.2), (18, m_leftThen)]) A m_r m_st m_leftThen e_m_r e_m_st rfl hz18) kV_X11_askOf tw_1796 ⟨Nat.le_of_ble_eq_true rfl, Nat.le_of_ble_eq_true rfl⟩ rfl rfl rfl rfl rfl hP (rf_DM hD) hS rfl hl.1 (rest := []) rfl (Nat.le_of_ble_eq_true rfl) dX11_askLeaves_18 (fun H locs hP hS => ?_)
    rw [rf_cat (f := I) (l := [(0, z1.1), (10, z1.2), (18, m_leftThen)]) (lc := [(18, z18.2)]) (l' := [(0, z1.1), (10, z1.2), (18, z18.2)]) rfl] at hP
    refine lv_pop hx hb dX11_askLeaves_21 rfl ?_
    refine lv_aload_n hx hb dX11_askLeaves_22 rfl (lv_at hl 0 rfl) ?_
    refine gM_m_leftThen hC hP tw_1310 (v := z18.2) rfl dX11_askLeaves_23 ?_
    obtain rfl := Option.some.inj hf
    exact rf_reti hC hP hS rfl rfl dX11_askLeaves_26
  have hf := rf_it c_8 hf
  refine lv_aload_n hx hb dX11_askLeaves_11 rfl (lv_at hl 0 rfl) ?_
  refine lv_iconst (v := 1) hx hb dX11_askLeaves_12 (by decide) ?_
  obtain ⟨z13, hz13, hf⟩ := rf_bd hf
  refine rf_vi (q0 := 0) (ci := 11) hC (c_X11_no l E a (rf_upL I [(0, z1.1), (10, z1.2), (18, m_leftThen)]) A z1.2 1 rfl hz13) kV_X11_no tw_1410 ⟨Nat.le_of_ble_eq_true rfl, Nat.le_of_ble_eq_true rfl⟩ rfl rfl rfl rfl rfl hP (rf_DM hD) hS rfl hl.1 (rest := []) rfl (Nat.le_of_ble_eq_true rfl) dX11_askLeaves_13 (fun H locs hP hS => ?_)
  rw [rf_cat (f := I) (l := [(0, z1.1), (10, z1.2), (18, m_leftThen)]) (lc := [(10, z13.2)]) (l' := [(0, z1.1), (10, z13.2), (18, m_leftThen)]) rfl] at hP
  obtain rfl := Option.some.inj hf
  exact rf_reti hC hP hS rfl rfl dX11_askLeaves_16
set_option maxHeartbeats 4000000 in
set_option maxRecDepth 100000 in
theorem w_X11_layBuyers_197 {l : Launch} {p : Program} {e : Env} {s : State} {m : MethodId} {args : Array Value} {below : List Frame} {meth : Method} {c : Code} {A0 : Nat → Prop} {E : rf_E} {a : Nat → Nat} {I : Nat → Int32} {A : Nat → Nat → Int32} {m_r : Nat → Int32} {m_st : Nat → Int32} {z : Int32 × Int32 × Int32 × (Nat → Int32)} (hC : rf_C p E s m args meth c cX11_layBuyers 9 RX11 (none) A0) (hD : va_D A0 (cM E a I A)) (e_m_r : A 2 = m_r) (e_m_st : A 4 = m_st) {k33 : Int32 → Int32 → Int32 → Int32 → Int32 → Int32 → Int32 → Int32 → Int32 → (Nat → Int32) → Option (Int32 × Int32 × Int32 × (Nat → Int32))} (hk33 : ∀ (v1 : Int32) (v2 : Int32) (v3 : Int32) (v4 : Int32) (v5 : Int32) (v6 : Int32) (m_onlyOne : Int32) (m_onlyOther : Int32) (m_either : Int32) (m_can : Nat → Int32), k33 v1 v2 v3 v4 v5 v6 m_onlyOne m_onlyOther m_either m_can = some z → ∀ (H : Heap) (locs : List Loc) (ls : Array Slot), va_P (rf_D E) vwCl (cM E a (rf_upL I [(19, m_onlyOne), (20, m_onlyOther), (21, m_either)]) (rf_upL A [(7, m_can)])) H → va_S A0 s.heap H locs → lv_has ls 9 [(0, .ref (a 0)), (1, .int v1), (2, .int v2), (3, .int v3), (4, .int v4), (5, .int v5), (6, .int v6)] → W p l e ({ frames := 6, cells := 0, slots := 0, locals := 149 }) s m args below meth c H locs 0 0 (rf_QV below args s E A0 (cM E a (rf_upL I [(19, z.1), (20, z.2.1), (21, z.2.2.1)]) (rf_upL A [(7, z.2.2.2)]))) (F0 m 33 ls [])) :
    ∀ (v1 : Int32) (v2 : Int32) (v3 : Int32) (v4 : Int32) (v5 : Int32) (v6 : Int32) (m_onlyOne : Int32) (m_onlyOther : Int32) (m_either : Int32) (m_can : Nat → Int32), f_X11_layBuyers_197 k33 m_r m_st v1 v2 v3 v4 v5 v6 m_onlyOne m_onlyOther m_either m_can = some z → ∀ (H : Heap) (locs : List Loc) (ls : Array Slot), va_P (rf_D E) vwCl (cM E a (rf_upL I [(19, m_onlyOne), (20, m_onlyOther), (21, m_either)]) (rf_upL A [(7, m_can)])) H → va_S A0 s.heap H locs → lv_has ls 9 [(0, .ref (a 0)), (1, .int v1), (2, .int v2), (3, .int v3), (4, .int v4), (5, .int v5), (6, .int v6)] → W p l e ({ frames := 6, cells := 0, slots := 0, locals := 149 }) s m args below meth c H locs 0 0 (rf_QV below args s E A0 (cM E a (rf_upL I [(19, z.1), (20, z.2.1), (21, z.2.2.1)]) (rf_upL A [(7, z.2.2.2)]))) (F0 m 197 ls []) := by
  have hx := hC.1
  have hb := hC.2.1
  intro v1 v2 v3 v4 v5 v6 m_onlyOne m_onlyOther m_either m_can hf H locs ls hP hS hl
  unfold f_X11_layBuyers_197 at hf
  refine lv_iinc (v := v6 + 1) (lv' := [(6, .int (v6 + 1)), (0, .ref (a 0)), (1, .int v1), (2, .int v2), (3, .int v3), (4, .int v4), (5, .int v5)]) hx hb dX11_layBuyers_197 hl (k := 6) rfl rfl (by decide) rfl (fun ls hl => ?_)
  refine lv_goto (tgt := 33) hx hb dX11_layBuyers_200 (by decide) ?_
  exact hk33 v1 v2 v3 v4 v5 (v6 + 1) m_onlyOne m_onlyOther m_either m_can hf _ _ _ hP hS (lv_sub hl [1, 2, 3, 4, 5, 6, 0] rfl)
set_option maxHeartbeats 4000000 in
set_option maxRecDepth 100000 in
theorem w_X11_layBuyers_193 {l : Launch} {p : Program} {e : Env} {s : State} {m : MethodId} {args : Array Value} {below : List Frame} {meth : Method} {c : Code} {A0 : Nat → Prop} {E : rf_E} {a : Nat → Nat} {I : Nat → Int32} {A : Nat → Nat → Int32} {m_r : Nat → Int32} {m_st : Nat → Int32} {z : Int32 × Int32 × Int32 × (Nat → Int32)} (hC : rf_C p E s m args meth c cX11_layBuyers 9 RX11 (none) A0) (hD : va_D A0 (cM E a I A)) (e_m_r : A 2 = m_r) (e_m_st : A 4 = m_st) {k33 : Int32 → Int32 → Int32 → Int32 → Int32 → Int32 → Int32 → Int32 → Int32 → (Nat → Int32) → Option (Int32 × Int32 × Int32 × (Nat → Int32))} (hk33 : ∀ (v1 : Int32) (v2 : Int32) (v3 : Int32) (v4 : Int32) (v5 : Int32) (v6 : Int32) (m_onlyOne : Int32) (m_onlyOther : Int32) (m_either : Int32) (m_can : Nat → Int32), k33 v1 v2 v3 v4 v5 v6 m_onlyOne m_onlyOther m_either m_can = some z → ∀ (H : Heap) (locs : List Loc) (ls : Array Slot), va_P (rf_D E) vwCl (cM E a (rf_upL I [(19, m_onlyOne), (20, m_onlyOther), (21, m_either)]) (rf_upL A [(7, m_can)])) H → va_S A0 s.heap H locs → lv_has ls 9 [(0, .ref (a 0)), (1, .int v1), (2, .int v2), (3, .int v3), (4, .int v4), (5, .int v5), (6, .int v6)] → W p l e ({ frames := 6, cells := 0, slots := 0, locals := 149 }) s m args below meth c H locs 0 0 (rf_QV below args s E A0 (cM E a (rf_upL I [(19, z.1), (20, z.2.1), (21, z.2.2.1)]) (rf_upL A [(7, z.2.2.2)]))) (F0 m 33 ls [])) :
    ∀ (v1 : Int32) (v2 : Int32) (v3 : Int32) (v4 : Int32) (v5 : Int32) (v6 : Int32) (s1 : Int32) (s2 : Int32) (m_onlyOne : Int32) (m_onlyOther : Int32) (m_either : Int32) (m_can : Nat → Int32), f_X11_layBuyers_193 k33 m_r m_st v1 v2 v3 v4 v5 v6 s1 s2 m_onlyOne m_onlyOther m_either m_can = some z → ∀ (H : Heap) (locs : List Loc) (ls : Array Slot), va_P (rf_D E) vwCl (cM E a (rf_upL I [(19, m_onlyOne), (20, m_onlyOther), (21, m_either)]) (rf_upL A [(7, m_can)])) H → va_S A0 s.heap H locs → lv_has ls 9 [(0, .ref (a 0)), (1, .int v1), (2, .int v2), (3, .int v3), (4, .int v4), (5, .int v5), (6, .int v6)] → W p l e ({ frames := 6, cells := 0, slots := 0, locals := 149 }) s m args below meth c H locs 0 0 (rf_QV below args s E A0 (cM E a (rf_upL I [(19, z.1), (20, z.2.1), (21, z.2.2.1)]) (rf_upL A [(7, z.2.2.2)]))) (F0 m 193 ls [.int s2, .int s1, .ref (a 0)]) := by
  have hx := hC.1
  have hb := hC.2.1
  intro v1 v2 v3 v4 v5 v6 s1 s2 m_onlyOne m_onlyOther m_either m_can hf H locs ls hP hS hl
  unfold f_X11_layBuyers_193 at hf
  refine lv_iadd hx hb dX11_layBuyers_193 ?_
  refine pM_m_onlyOther hC hD hP hS tw_1312 dX11_layBuyers_194 (rf_upL I [(19, m_onlyOne), (20, s1 + s2), (21, m_either)]) (rf_put rfl) (fun H locs hP hS => ?_)
  exact w_X11_layBuyers_197 hC hD e_m_r e_m_st hk33 v1 v2 v3 v4 v5 v6 m_onlyOne (s1 + s2) m_either m_can hf _ _ _ hP hS (lv_sub hl [0, 1, 2, 3, 4, 5, 6] rfl)
set_option maxHeartbeats 4000000 in
set_option maxRecDepth 100000 in
theorem w_X11_layBuyers_192 {l : Launch} {p : Program} {e : Env} {s : State} {m : MethodId} {args : Array Value} {below : List Frame} {meth : Method} {c : Code} {A0 : Nat → Prop} {E : rf_E} {a : Nat → Nat} {I : Nat → Int32} {A : Nat → Nat → Int32} {m_r : Nat → Int32} {m_st : Nat → Int32} {z : Int32 × Int32 × Int32 × (Nat → Int32)} (hC : rf_C p E s m args meth c cX11_layBuyers 9 RX11 (none) A0) (hD : va_D A0 (cM E a I A)) (e_m_r : A 2 = m_r) (e_m_st : A 4 = m_st) {k33 : Int32 → Int32 → Int32 → Int32 → Int32 → Int32 → Int32 → Int32 → Int32 → (Nat → Int32) → Option (Int32 × Int32 × Int32 × (Nat → Int32))} (hk33 : ∀ (v1 : Int32) (v2 : Int32) (v3 : Int32) (v4 : Int32) (v5 : Int32) (v6 : Int32) (m_onlyOne : Int32) (m_onlyOther : Int32) (m_either : Int32) (m_can : Nat → Int32), k33 v1 v2 v3 v4 v5 v6 m_onlyOne m_onlyOther m_either m_can = some z → ∀ (H : Heap) (locs : List Loc) (ls : Array Slot), va_P (rf_D E) vwCl (cM E a (rf_upL I [(19, m_onlyOne), (20, m_onlyOther), (21, m_either)]) (rf_upL A [(7, m_can)])) H → va_S A0 s.heap H locs → lv_has ls 9 [(0, .ref (a 0)), (1, .int v1), (2, .int v2), (3, .int v3), (4, .int v4), (5, .int v5), (6, .int v6)] → W p l e ({ frames := 6, cells := 0, slots := 0, locals := 149 }) s m args below meth c H locs 0 0 (rf_QV below args s E A0 (cM E a (rf_upL I [(19, z.1), (20, z.2.1), (21, z.2.2.1)]) (rf_upL A [(7, z.2.2.2)]))) (F0 m 33 ls [])) :
    ∀ (v1 : Int32) (v2 : Int32) (v3 : Int32) (v4 : Int32) (v5 : Int32) (v6 : Int32) (s1 : Int32) (m_onlyOne : Int32) (m_onlyOther : Int32) (m_either : Int32) (m_can : Nat → Int32), f_X11_layBuyers_192 k33 m_r m_st v1 v2 v3 v4 v5 v6 s1 m_onlyOne m_onlyOther m_either m_can = some z → ∀ (H : Heap) (locs : List Loc) (ls : Array Slot), va_P (rf_D E) vwCl (cM E a (rf_upL I [(19, m_onlyOne), (20, m_onlyOther), (21, m_either)]) (rf_upL A [(7, m_can)])) H → va_S A0 s.heap H locs → lv_has ls 9 [(0, .ref (a 0)), (1, .int v1), (2, .int v2), (3, .int v3), (4, .int v4), (5, .int v5), (6, .int v6)] → W p l e ({ frames := 6, cells := 0, slots := 0, locals := 149 }) s m args below meth c H locs 0 0 (rf_QV below args s E A0 (cM E a (rf_upL I [(19, z.1), (20, z.2.1), (21, z.2.2.1)]) (rf_upL A [(7, z.2.2.2)]))) (F0 m 192 ls [.int s1, .ref (a 0)]) := by
  have hx := hC.1
  have hb := hC.2.1
  intro v1 v2 v3 v4 v5 v6 s1 m_onlyOne m_onlyOther m_either m_can hf H locs ls hP hS hl
  unfold f_X11_layBuyers_192 at hf
  refine lv_iconst (v := 0) hx hb dX11_layBuyers_192 (by decide) ?_
  exact w_X11_layBuyers_193 hC hD e_m_r e_m_st hk33 v1 v2 v3 v4 v5 v6 s1 0 m_onlyOne m_onlyOther m_either m_can hf _ _ _ hP hS (lv_sub hl [0, 1, 2, 3, 4, 5, 6] rfl)
set_option maxHeartbeats 4000000 in
set_option maxRecDepth 100000 in
theorem w_X11_layBuyers_169 {l : Launch} {p : Program} {e : Env} {s : State} {m : MethodId} {args : Array Value} {below : List Frame} {meth : Method} {c : Code} {A0 : Nat → Prop} {E : rf_E} {a : Nat → Nat} {I : Nat → Int32} {A : Nat → Nat → Int32} {m_r : Nat → Int32} {m_st : Nat → Int32} {z : Int32 × Int32 × Int32 × (Nat → Int32)} (hC : rf_C p E s m args meth c cX11_layBuyers 9 RX11 (none) A0) (hD : va_D A0 (cM E a I A)) (e_m_r : A 2 = m_r) (e_m_st : A 4 = m_st) {k33 : Int32 → Int32 → Int32 → Int32 → Int32 → Int32 → Int32 → Int32 → Int32 → (Nat → Int32) → Option (Int32 × Int32 × Int32 × (Nat → Int32))} (hk33 : ∀ (v1 : Int32) (v2 : Int32) (v3 : Int32) (v4 : Int32) (v5 : Int32) (v6 : Int32) (m_onlyOne : Int32) (m_onlyOther : Int32) (m_either : Int32) (m_can : Nat → Int32), k33 v1 v2 v3 v4 v5 v6 m_onlyOne m_onlyOther m_either m_can = some z → ∀ (H : Heap) (locs : List Loc) (ls : Array Slot), va_P (rf_D E) vwCl (cM E a (rf_upL I [(19, m_onlyOne), (20, m_onlyOther), (21, m_either)]) (rf_upL A [(7, m_can)])) H → va_S A0 s.heap H locs → lv_has ls 9 [(0, .ref (a 0)), (1, .int v1), (2, .int v2), (3, .int v3), (4, .int v4), (5, .int v5), (6, .int v6)] → W p l e ({ frames := 6, cells := 0, slots := 0, locals := 149 }) s m args below meth c H locs 0 0 (rf_QV below args s E A0 (cM E a (rf_upL I [(19, z.1), (20, z.2.1), (21, z.2.2.1)]) (rf_upL A [(7, z.2.2.2)]))) (F0 m 33 ls [])) :
    ∀ (v1 : Int32) (v2 : Int32) (v3 : Int32) (v4 : Int32) (v5 : Int32) (v6 : Int32) (v7 : Int32) (v8 : Int32) (s1 : Int32) (s2 : Int32) (m_onlyOne : Int32) (m_onlyOther : Int32) (m_either : Int32) (m_can : Nat → Int32), f_X11_layBuyers_169 k33 m_r m_st v1 v2 v3 v4 v5 v6 v7 v8 s1 s2 m_onlyOne m_onlyOther m_either m_can = some z → ∀ (H : Heap) (locs : List Loc) (ls : Array Slot), va_P (rf_D E) vwCl (cM E a (rf_upL I [(19, m_onlyOne), (20, m_onlyOther), (21, m_either)]) (rf_upL A [(7, m_can)])) H → va_S A0 s.heap H locs → lv_has ls 9 [(0, .ref (a 0)), (1, .int v1), (2, .int v2), (3, .int v3), (4, .int v4), (5, .int v5), (6, .int v6), (7, .int v7), (8, .int v8)] → W p l e ({ frames := 6, cells := 0, slots := 0, locals := 149 }) s m args below meth c H locs 0 0 (rf_QV below args s E A0 (cM E a (rf_upL I [(19, z.1), (20, z.2.1), (21, z.2.2.1)]) (rf_upL A [(7, z.2.2.2)]))) (F0 m 169 ls [.int s2, .int s1, .ref (a 0)]) := by
  have hx := hC.1
  have hb := hC.2.1
  intro v1 v2 v3 v4 v5 v6 v7 v8 s1 s2 m_onlyOne m_onlyOther m_either m_can hf H locs ls hP hS hl
  unfold f_X11_layBuyers_169 at hf
  refine lv_iadd hx hb dX11_layBuyers_169 ?_
  refine pM_m_onlyOne hC hD hP hS tw_1311 dX11_layBuyers_170 (rf_upL I [(19, s1 + s2), (20, m_onlyOther), (21, m_either)]) (rf_put rfl) (fun H locs hP hS => ?_)
  refine lv_aload_n hx hb dX11_layBuyers_173 rfl (lv_at hl 0 rfl) ?_
  refine lv_dup hx hb dX11_layBuyers_174 rfl ?_
  refine gM_m_onlyOther hC hP tw_1312 (v := m_onlyOther) rfl dX11_layBuyers_175 ?_
  refine lv_iload hx hb dX11_layBuyers_178 (lv_at hl 8 rfl) ?_
  refine lv_if_eq (tgt := 192) hx hb dX11_layBuyers_180 (by decide) (fun c_180 => ?_) (fun c_180 => ?_)
  · have hf := rf_it c_180 hf
    exact w_X11_layBuyers_192 hC hD e_m_r e_m_st hk33 v1 v2 v3 v4 v5 v6 m_onlyOther (s1 + s2) m_onlyOther m_either m_can hf _ _ _ hP hS (lv_sub hl [0, 1, 2, 3, 4, 5, 6] rfl)
  have hf := rf_ie c_180 hf
  refine lv_iload hx hb dX11_layBuyers_183 (lv_at hl 7 rfl) ?_
  refine lv_if_ne (tgt := 192) hx hb dX11_layBuyers_185 (by decide) (fun c_185 => ?_) (fun c_185 => ?_)
  · have hf := rf_ie c_185 hf
    exact w_X11_layBuyers_192 hC hD e_m_r e_m_st hk33 v1 v2 v3 v4 v5 v6 m_onlyOther (s1 + s2) m_onlyOther m_either m_can hf _ _ _ hP hS (lv_sub hl [0, 1, 2, 3, 4, 5, 6] rfl)
  have hf := rf_it c_185 hf
  refine lv_iconst (v := 1) hx hb dX11_layBuyers_188 (by decide) ?_
  refine lv_goto (tgt := 193) hx hb dX11_layBuyers_189 (by decide) ?_
  exact w_X11_layBuyers_193 hC hD e_m_r e_m_st hk33 v1 v2 v3 v4 v5 v6 m_onlyOther 1 (s1 + s2) m_onlyOther m_either m_can hf _ _ _ hP hS (lv_sub hl [0, 1, 2, 3, 4, 5, 6] rfl)
set_option maxHeartbeats 4000000 in
set_option maxRecDepth 100000 in
theorem w_X11_layBuyers_168 {l : Launch} {p : Program} {e : Env} {s : State} {m : MethodId} {args : Array Value} {below : List Frame} {meth : Method} {c : Code} {A0 : Nat → Prop} {E : rf_E} {a : Nat → Nat} {I : Nat → Int32} {A : Nat → Nat → Int32} {m_r : Nat → Int32} {m_st : Nat → Int32} {z : Int32 × Int32 × Int32 × (Nat → Int32)} (hC : rf_C p E s m args meth c cX11_layBuyers 9 RX11 (none) A0) (hD : va_D A0 (cM E a I A)) (e_m_r : A 2 = m_r) (e_m_st : A 4 = m_st) {k33 : Int32 → Int32 → Int32 → Int32 → Int32 → Int32 → Int32 → Int32 → Int32 → (Nat → Int32) → Option (Int32 × Int32 × Int32 × (Nat → Int32))} (hk33 : ∀ (v1 : Int32) (v2 : Int32) (v3 : Int32) (v4 : Int32) (v5 : Int32) (v6 : Int32) (m_onlyOne : Int32) (m_onlyOther : Int32) (m_either : Int32) (m_can : Nat → Int32), k33 v1 v2 v3 v4 v5 v6 m_onlyOne m_onlyOther m_either m_can = some z → ∀ (H : Heap) (locs : List Loc) (ls : Array Slot), va_P (rf_D E) vwCl (cM E a (rf_upL I [(19, m_onlyOne), (20, m_onlyOther), (21, m_either)]) (rf_upL A [(7, m_can)])) H → va_S A0 s.heap H locs → lv_has ls 9 [(0, .ref (a 0)), (1, .int v1), (2, .int v2), (3, .int v3), (4, .int v4), (5, .int v5), (6, .int v6)] → W p l e ({ frames := 6, cells := 0, slots := 0, locals := 149 }) s m args below meth c H locs 0 0 (rf_QV below args s E A0 (cM E a (rf_upL I [(19, z.1), (20, z.2.1), (21, z.2.2.1)]) (rf_upL A [(7, z.2.2.2)]))) (F0 m 33 ls [])) :
    ∀ (v1 : Int32) (v2 : Int32) (v3 : Int32) (v4 : Int32) (v5 : Int32) (v6 : Int32) (v7 : Int32) (v8 : Int32) (s1 : Int32) (m_onlyOne : Int32) (m_onlyOther : Int32) (m_either : Int32) (m_can : Nat → Int32), f_X11_layBuyers_168 k33 m_r m_st v1 v2 v3 v4 v5 v6 v7 v8 s1 m_onlyOne m_onlyOther m_either m_can = some z → ∀ (H : Heap) (locs : List Loc) (ls : Array Slot), va_P (rf_D E) vwCl (cM E a (rf_upL I [(19, m_onlyOne), (20, m_onlyOther), (21, m_either)]) (rf_upL A [(7, m_can)])) H → va_S A0 s.heap H locs → lv_has ls 9 [(0, .ref (a 0)), (1, .int v1), (2, .int v2), (3, .int v3), (4, .int v4), (5, .int v5), (6, .int v6), (7, .int v7), (8, .int v8)] → W p l e ({ frames := 6, cells := 0, slots := 0, locals := 149 }) s m args below meth c H locs 0 0 (rf_QV below args s E A0 (cM E a (rf_upL I [(19, z.1), (20, z.2.1), (21, z.2.2.1)]) (rf_upL A [(7, z.2.2.2)]))) (F0 m 168 ls [.int s1, .ref (a 0)]) := by
  have hx := hC.1
  have hb := hC.2.1
  intro v1 v2 v3 v4 v5 v6 v7 v8 s1 m_onlyOne m_onlyOther m_either m_can hf H locs ls hP hS hl
  unfold f_X11_layBuyers_168 at hf
  refine lv_iconst (v := 0) hx hb dX11_layBuyers_168 (by decide) ?_
  exact w_X11_layBuyers_169 hC hD e_m_r e_m_st hk33 v1 v2 v3 v4 v5 v6 v7 v8 s1 0 m_onlyOne m_onlyOther m_either m_can hf _ _ _ hP hS (lv_sub hl [0, 1, 2, 3, 4, 5, 6, 7, 8] rfl)
set_option maxHeartbeats 4000000 in
set_option maxRecDepth 100000 in
theorem w_X11_layBuyers_145 {l : Launch} {p : Program} {e : Env} {s : State} {m : MethodId} {args : Array Value} {below : List Frame} {meth : Method} {c : Code} {A0 : Nat → Prop} {E : rf_E} {a : Nat → Nat} {I : Nat → Int32} {A : Nat → Nat → Int32} {m_r : Nat → Int32} {m_st : Nat → Int32} {z : Int32 × Int32 × Int32 × (Nat → Int32)} (hC : rf_C p E s m args meth c cX11_layBuyers 9 RX11 (none) A0) (hD : va_D A0 (cM E a I A)) (e_m_r : A 2 = m_r) (e_m_st : A 4 = m_st) {k33 : Int32 → Int32 → Int32 → Int32 → Int32 → Int32 → Int32 → Int32 → Int32 → (Nat → Int32) → Option (Int32 × Int32 × Int32 × (Nat → Int32))} (hk33 : ∀ (v1 : Int32) (v2 : Int32) (v3 : Int32) (v4 : Int32) (v5 : Int32) (v6 : Int32) (m_onlyOne : Int32) (m_onlyOther : Int32) (m_either : Int32) (m_can : Nat → Int32), k33 v1 v2 v3 v4 v5 v6 m_onlyOne m_onlyOther m_either m_can = some z → ∀ (H : Heap) (locs : List Loc) (ls : Array Slot), va_P (rf_D E) vwCl (cM E a (rf_upL I [(19, m_onlyOne), (20, m_onlyOther), (21, m_either)]) (rf_upL A [(7, m_can)])) H → va_S A0 s.heap H locs → lv_has ls 9 [(0, .ref (a 0)), (1, .int v1), (2, .int v2), (3, .int v3), (4, .int v4), (5, .int v5), (6, .int v6)] → W p l e ({ frames := 6, cells := 0, slots := 0, locals := 149 }) s m args below meth c H locs 0 0 (rf_QV below args s E A0 (cM E a (rf_upL I [(19, z.1), (20, z.2.1), (21, z.2.2.1)]) (rf_upL A [(7, z.2.2.2)]))) (F0 m 33 ls [])) :
    ∀ (v1 : Int32) (v2 : Int32) (v3 : Int32) (v4 : Int32) (v5 : Int32) (v6 : Int32) (v7 : Int32) (v8 : Int32) (s1 : Int32) (s2 : Int32) (m_onlyOne : Int32) (m_onlyOther : Int32) (m_either : Int32) (m_can : Nat → Int32), f_X11_layBuyers_145 k33 m_r m_st v1 v2 v3 v4 v5 v6 v7 v8 s1 s2 m_onlyOne m_onlyOther m_either m_can = some z → ∀ (H : Heap) (locs : List Loc) (ls : Array Slot), va_P (rf_D E) vwCl (cM E a (rf_upL I [(19, m_onlyOne), (20, m_onlyOther), (21, m_either)]) (rf_upL A [(7, m_can)])) H → va_S A0 s.heap H locs → lv_has ls 9 [(0, .ref (a 0)), (1, .int v1), (2, .int v2), (3, .int v3), (4, .int v4), (5, .int v5), (6, .int v6), (7, .int v7), (8, .int v8)] → W p l e ({ frames := 6, cells := 0, slots := 0, locals := 149 }) s m args below meth c H locs 0 0 (rf_QV below args s E A0 (cM E a (rf_upL I [(19, z.1), (20, z.2.1), (21, z.2.2.1)]) (rf_upL A [(7, z.2.2.2)]))) (F0 m 145 ls [.int s2, .int s1, .ref (a 0)]) := by
  have hx := hC.1
  have hb := hC.2.1
  intro v1 v2 v3 v4 v5 v6 v7 v8 s1 s2 m_onlyOne m_onlyOther m_either m_can hf H locs ls hP hS hl
  unfold f_X11_layBuyers_145 at hf
  refine lv_iadd hx hb dX11_layBuyers_145 ?_
  refine pM_m_either hC hD hP hS tw_1313 dX11_layBuyers_146 (rf_upL I [(19, m_onlyOne), (20, m_onlyOther), (21, s1 + s2)]) (rf_put rfl) (fun H locs hP hS => ?_)
  refine lv_aload_n hx hb dX11_layBuyers_149 rfl (lv_at hl 0 rfl) ?_
  refine lv_dup hx hb dX11_layBuyers_150 rfl ?_
  refine gM_m_onlyOne hC hP tw_1311 (v := m_onlyOne) rfl dX11_layBuyers_151 ?_
  refine lv_iload hx hb dX11_layBuyers_154 (lv_at hl 7 rfl) ?_
  refine lv_if_eq (tgt := 168) hx hb dX11_layBuyers_156 (by decide) (fun c_156 => ?_) (fun c_156 => ?_)
  · have hf := rf_it c_156 hf
    exact w_X11_layBuyers_168 hC hD e_m_r e_m_st hk33 v1 v2 v3 v4 v5 v6 v7 v8 m_onlyOne m_onlyOne m_onlyOther (s1 + s2) m_can hf _ _ _ hP hS (lv_sub hl [0, 1, 2, 3, 4, 5, 6, 7, 8] rfl)
  have hf := rf_ie c_156 hf
  refine lv_iload hx hb dX11_layBuyers_159 (lv_at hl 8 rfl) ?_
  refine lv_if_ne (tgt := 168) hx hb dX11_layBuyers_161 (by decide) (fun c_161 => ?_) (fun c_161 => ?_)
  · have hf := rf_ie c_161 hf
    exact w_X11_layBuyers_168 hC hD e_m_r e_m_st hk33 v1 v2 v3 v4 v5 v6 v7 v8 m_onlyOne m_onlyOne m_onlyOther (s1 + s2) m_can hf _ _ _ hP hS (lv_sub hl [0, 1, 2, 3, 4, 5, 6, 7, 8] rfl)
  have hf := rf_it c_161 hf
  refine lv_iconst (v := 1) hx hb dX11_layBuyers_164 (by decide) ?_
  refine lv_goto (tgt := 169) hx hb dX11_layBuyers_165 (by decide) ?_
  exact w_X11_layBuyers_169 hC hD e_m_r e_m_st hk33 v1 v2 v3 v4 v5 v6 v7 v8 m_onlyOne 1 m_onlyOne m_onlyOther (s1 + s2) m_can hf _ _ _ hP hS (lv_sub hl [0, 1, 2, 3, 4, 5, 6, 7, 8] rfl)
set_option maxHeartbeats 4000000 in
set_option maxRecDepth 100000 in
theorem w_X11_layBuyers_144 {l : Launch} {p : Program} {e : Env} {s : State} {m : MethodId} {args : Array Value} {below : List Frame} {meth : Method} {c : Code} {A0 : Nat → Prop} {E : rf_E} {a : Nat → Nat} {I : Nat → Int32} {A : Nat → Nat → Int32} {m_r : Nat → Int32} {m_st : Nat → Int32} {z : Int32 × Int32 × Int32 × (Nat → Int32)} (hC : rf_C p E s m args meth c cX11_layBuyers 9 RX11 (none) A0) (hD : va_D A0 (cM E a I A)) (e_m_r : A 2 = m_r) (e_m_st : A 4 = m_st) {k33 : Int32 → Int32 → Int32 → Int32 → Int32 → Int32 → Int32 → Int32 → Int32 → (Nat → Int32) → Option (Int32 × Int32 × Int32 × (Nat → Int32))} (hk33 : ∀ (v1 : Int32) (v2 : Int32) (v3 : Int32) (v4 : Int32) (v5 : Int32) (v6 : Int32) (m_onlyOne : Int32) (m_onlyOther : Int32) (m_either : Int32) (m_can : Nat → Int32), k33 v1 v2 v3 v4 v5 v6 m_onlyOne m_onlyOther m_either m_can = some z → ∀ (H : Heap) (locs : List Loc) (ls : Array Slot), va_P (rf_D E) vwCl (cM E a (rf_upL I [(19, m_onlyOne), (20, m_onlyOther), (21, m_either)]) (rf_upL A [(7, m_can)])) H → va_S A0 s.heap H locs → lv_has ls 9 [(0, .ref (a 0)), (1, .int v1), (2, .int v2), (3, .int v3), (4, .int v4), (5, .int v5), (6, .int v6)] → W p l e ({ frames := 6, cells := 0, slots := 0, locals := 149 }) s m args below meth c H locs 0 0 (rf_QV below args s E A0 (cM E a (rf_upL I [(19, z.1), (20, z.2.1), (21, z.2.2.1)]) (rf_upL A [(7, z.2.2.2)]))) (F0 m 33 ls [])) :
    ∀ (v1 : Int32) (v2 : Int32) (v3 : Int32) (v4 : Int32) (v5 : Int32) (v6 : Int32) (v7 : Int32) (v8 : Int32) (s1 : Int32) (m_onlyOne : Int32) (m_onlyOther : Int32) (m_either : Int32) (m_can : Nat → Int32), f_X11_layBuyers_144 k33 m_r m_st v1 v2 v3 v4 v5 v6 v7 v8 s1 m_onlyOne m_onlyOther m_either m_can = some z → ∀ (H : Heap) (locs : List Loc) (ls : Array Slot), va_P (rf_D E) vwCl (cM E a (rf_upL I [(19, m_onlyOne), (20, m_onlyOther), (21, m_either)]) (rf_upL A [(7, m_can)])) H → va_S A0 s.heap H locs → lv_has ls 9 [(0, .ref (a 0)), (1, .int v1), (2, .int v2), (3, .int v3), (4, .int v4), (5, .int v5), (6, .int v6), (7, .int v7), (8, .int v8)] → W p l e ({ frames := 6, cells := 0, slots := 0, locals := 149 }) s m args below meth c H locs 0 0 (rf_QV below args s E A0 (cM E a (rf_upL I [(19, z.1), (20, z.2.1), (21, z.2.2.1)]) (rf_upL A [(7, z.2.2.2)]))) (F0 m 144 ls [.int s1, .ref (a 0)]) := by
  have hx := hC.1
  have hb := hC.2.1
  intro v1 v2 v3 v4 v5 v6 v7 v8 s1 m_onlyOne m_onlyOther m_either m_can hf H locs ls hP hS hl
  unfold f_X11_layBuyers_144 at hf
  refine lv_iconst (v := 0) hx hb dX11_layBuyers_144 (by decide) ?_
  exact w_X11_layBuyers_145 hC hD e_m_r e_m_st hk33 v1 v2 v3 v4 v5 v6 v7 v8 s1 0 m_onlyOne m_onlyOther m_either m_can hf _ _ _ hP hS (lv_sub hl [0, 1, 2, 3, 4, 5, 6, 7, 8] rfl)
set_option maxHeartbeats 4000000 in
set_option maxRecDepth 100000 in
theorem w_X11_layBuyers_123 {l : Launch} {p : Program} {e : Env} {s : State} {m : MethodId} {args : Array Value} {below : List Frame} {meth : Method} {c : Code} {A0 : Nat → Prop} {E : rf_E} {a : Nat → Nat} {I : Nat → Int32} {A : Nat → Nat → Int32} {m_r : Nat → Int32} {m_st : Nat → Int32} {z : Int32 × Int32 × Int32 × (Nat → Int32)} (hC : rf_C p E s m args meth c cX11_layBuyers 9 RX11 (none) A0) (hD : va_D A0 (cM E a I A)) (e_m_r : A 2 = m_r) (e_m_st : A 4 = m_st) {k33 : Int32 → Int32 → Int32 → Int32 → Int32 → Int32 → Int32 → Int32 → Int32 → (Nat → Int32) → Option (Int32 × Int32 × Int32 × (Nat → Int32))} (hk33 : ∀ (v1 : Int32) (v2 : Int32) (v3 : Int32) (v4 : Int32) (v5 : Int32) (v6 : Int32) (m_onlyOne : Int32) (m_onlyOther : Int32) (m_either : Int32) (m_can : Nat → Int32), k33 v1 v2 v3 v4 v5 v6 m_onlyOne m_onlyOther m_either m_can = some z → ∀ (H : Heap) (locs : List Loc) (ls : Array Slot), va_P (rf_D E) vwCl (cM E a (rf_upL I [(19, m_onlyOne), (20, m_onlyOther), (21, m_either)]) (rf_upL A [(7, m_can)])) H → va_S A0 s.heap H locs → lv_has ls 9 [(0, .ref (a 0)), (1, .int v1), (2, .int v2), (3, .int v3), (4, .int v4), (5, .int v5), (6, .int v6)] → W p l e ({ frames := 6, cells := 0, slots := 0, locals := 149 }) s m args below meth c H locs 0 0 (rf_QV below args s E A0 (cM E a (rf_upL I [(19, z.1), (20, z.2.1), (21, z.2.2.1)]) (rf_upL A [(7, z.2.2.2)]))) (F0 m 33 ls [])) :
    ∀ (v1 : Int32) (v2 : Int32) (v3 : Int32) (v4 : Int32) (v5 : Int32) (v6 : Int32) (v7 : Int32) (s0 : Int32) (m_onlyOne : Int32) (m_onlyOther : Int32) (m_either : Int32) (m_can : Nat → Int32), f_X11_layBuyers_123 k33 m_r m_st v1 v2 v3 v4 v5 v6 v7 s0 m_onlyOne m_onlyOther m_either m_can = some z → ∀ (H : Heap) (locs : List Loc) (ls : Array Slot), va_P (rf_D E) vwCl (cM E a (rf_upL I [(19, m_onlyOne), (20, m_onlyOther), (21, m_either)]) (rf_upL A [(7, m_can)])) H → va_S A0 s.heap H locs → lv_has ls 9 [(0, .ref (a 0)), (1, .int v1), (2, .int v2), (3, .int v3), (4, .int v4), (5, .int v5), (6, .int v6), (7, .int v7)] → W p l e ({ frames := 6, cells := 0, slots := 0, locals := 149 }) s m args below meth c H locs 0 0 (rf_QV below args s E A0 (cM E a (rf_upL I [(19, z.1), (20, z.2.1), (21, z.2.2.1)]) (rf_upL A [(7, z.2.2.2)]))) (F0 m 123 ls [.int s0]) := by
  have hx := hC.1
  have hb := hC.2.1
  intro v1 v2 v3 v4 v5 v6 v7 s0 m_onlyOne m_onlyOther m_either m_can hf H locs ls hP hS hl
  unfold f_X11_layBuyers_123 at hf
  refine lv_istore (lv' := [(8, .int s0), (0, .ref (a 0)), (1, .int v1), (2, .int v2), (3, .int v3), (4, .int v4), (5, .int v5), (6, .int v6), (7, .int v7)]) hx hb dX11_layBuyers_123 hl (by decide) rfl (fun ls hl => ?_)
  refine lv_aload_n hx hb dX11_layBuyers_125 rfl (lv_at hl 1 rfl) ?_
  refine lv_dup hx hb dX11_layBuyers_126 rfl ?_
  refine gM_m_either hC hP tw_1313 (v := m_either) rfl dX11_layBuyers_127 ?_
  refine lv_iload hx hb dX11_layBuyers_130 (lv_at hl 8 rfl) ?_
  refine lv_if_eq (tgt := 144) hx hb dX11_layBuyers_132 (by decide) (fun c_132 => ?_) (fun c_132 => ?_)
  · have hf := rf_it c_132 hf
    exact w_X11_layBuyers_144 hC hD e_m_r e_m_st hk33 v1 v2 v3 v4 v5 v6 v7 s0 m_either m_onlyOne m_onlyOther m_either m_can hf _ _ _ hP hS (lv_sub hl [1, 2, 3, 4, 5, 6, 7, 8, 0] rfl)
  have hf := rf_ie c_132 hf
  refine lv_iload hx hb dX11_layBuyers_135 (lv_at hl 0 rfl) ?_
  refine lv_if_eq (tgt := 144) hx hb dX11_layBuyers_137 (by decide) (fun c_137 => ?_) (fun c_137 => ?_)
  · have hf := rf_it c_137 hf
    exact w_X11_layBuyers_144 hC hD e_m_r e_m_st hk33 v1 v2 v3 v4 v5 v6 v7 s0 m_either m_onlyOne m_onlyOther m_either m_can hf _ _ _ hP hS (lv_sub hl [1, 2, 3, 4, 5, 6, 7, 8, 0] rfl)
  have hf := rf_ie c_137 hf
  refine lv_iconst (v := 1) hx hb dX11_layBuyers_140 (by decide) ?_
  refine lv_goto (tgt := 145) hx hb dX11_layBuyers_141 (by decide) ?_
  exact w_X11_layBuyers_145 hC hD e_m_r e_m_st hk33 v1 v2 v3 v4 v5 v6 v7 s0 m_either 1 m_onlyOne m_onlyOther m_either m_can hf _ _ _ hP hS (lv_sub hl [1, 2, 3, 4, 5, 6, 7, 8, 0] rfl)
set_option maxHeartbeats 4000000 in
set_option maxRecDepth 100000 in
theorem w_X11_layBuyers_89 {l : Launch} {p : Program} {e : Env} {s : State} {m : MethodId} {args : Array Value} {below : List Frame} {meth : Method} {c : Code} {A0 : Nat → Prop} {E : rf_E} {a : Nat → Nat} {I : Nat → Int32} {A : Nat → Nat → Int32} {m_r : Nat → Int32} {m_st : Nat → Int32} {z : Int32 × Int32 × Int32 × (Nat → Int32)} (hC : rf_C p E s m args meth c cX11_layBuyers 9 RX11 (none) A0) (hD : va_D A0 (cM E a I A)) (e_m_r : A 2 = m_r) (e_m_st : A 4 = m_st) {k33 : Int32 → Int32 → Int32 → Int32 → Int32 → Int32 → Int32 → Int32 → Int32 → (Nat → Int32) → Option (Int32 × Int32 × Int32 × (Nat → Int32))} (hk33 : ∀ (v1 : Int32) (v2 : Int32) (v3 : Int32) (v4 : Int32) (v5 : Int32) (v6 : Int32) (m_onlyOne : Int32) (m_onlyOther : Int32) (m_either : Int32) (m_can : Nat → Int32), k33 v1 v2 v3 v4 v5 v6 m_onlyOne m_onlyOther m_either m_can = some z → ∀ (H : Heap) (locs : List Loc) (ls : Array Slot), va_P (rf_D E) vwCl (cM E a (rf_upL I [(19, m_onlyOne), (20, m_onlyOther), (21, m_either)]) (rf_upL A [(7, m_can)])) H → va_S A0 s.heap H locs → lv_has ls 9 [(0, .ref (a 0)), (1, .int v1), (2, .int v2), (3, .int v3), (4, .int v4), (5, .int v5), (6, .int v6)] → W p l e ({ frames := 6, cells := 0, slots := 0, locals := 149 }) s m args below meth c H locs 0 0 (rf_QV below args s E A0 (cM E a (rf_upL I [(19, z.1), (20, z.2.1), (21, z.2.2.1)]) (rf_upL A [(7, z.2.2.2)]))) (F0 m 33 ls [])) :
    ∀ (v1 : Int32) (v2 : Int32) (v3 : Int32) (v4 : Int32) (v5 : Int32) (v6 : Int32) (s0 : Int32) (m_onlyOne : Int32) (m_onlyOther : Int32) (m_either : Int32) (m_can : Nat → Int32), f_X11_layBuyers_89 k33 m_r m_st v1 v2 v3 v4 v5 v6 s0 m_onlyOne m_onlyOther m_either m_can = some z → ∀ (H : Heap) (locs : List Loc) (ls : Array Slot), va_P (rf_D E) vwCl (cM E a (rf_upL I [(19, m_onlyOne), (20, m_onlyOther), (21, m_either)]) (rf_upL A [(7, m_can)])) H → va_S A0 s.heap H locs → lv_has ls 9 [(0, .ref (a 0)), (1, .int v1), (2, .int v2), (3, .int v3), (4, .int v4), (5, .int v5), (6, .int v6)] → W p l e ({ frames := 6, cells := 0, slots := 0, locals := 149 }) s m args below meth c H locs 0 0 (rf_QV below args s E A0 (cM E a (rf_upL I [(19, z.1), (20, z.2.1), (21, z.2.2.1)]) (rf_upL A [(7, z.2.2.2)]))) (F0 m 89 ls [.int s0]) := by
  have hx := hC.1
  have hb := hC.2.1
  intro v1 v2 v3 v4 v5 v6 s0 m_onlyOne m_onlyOther m_either m_can hf H locs ls hP hS hl
  unfold f_X11_layBuyers_89 at hf
  refine lv_istore (lv' := [(7, .int s0), (0, .ref (a 0)), (1, .int v1), (2, .int v2), (3, .int v3), (4, .int v4), (5, .int v5), (6, .int v6)]) hx hb dX11_layBuyers_89 hl (by decide) rfl (fun ls hl => ?_)
  refine lv_aload_n hx hb dX11_layBuyers_91 rfl (lv_at hl 1 rfl) ?_
  refine lv_iload hx hb dX11_layBuyers_92 (lv_at hl 7 rfl) ?_
  refine lv_aload_n hx hb dX11_layBuyers_94 rfl (lv_at hl 1 rfl) ?_
  refine gM_m_st hC hP tw_1296 dX11_layBuyers_95 ?_
  refine lv_bipush (v := 8) hx hb dX11_layBuyers_98 (by decide) ?_
  refine lv_iload hx hb dX11_layBuyers_100 (lv_at hl 7 rfl) ?_
  refine lv_iadd hx hb dX11_layBuyers_102 ?_
  obtain ⟨hi_103, hf⟩ := rf_gu hf
  refine lM_m_st hC hP hi_103 (f := m_st) e_m_st dX11_layBuyers_103 ?_
  refine lv_iconst (v := 1) hx hb dX11_layBuyers_104 (by decide) ?_
  refine lv_iload_n hx hb dX11_layBuyers_105 rfl (lv_at hl 3 rfl) ?_
  refine lv_ishl hx hb dX11_layBuyers_106 ?_
  refine lv_ior hx hb dX11_layBuyers_107 ?_
  refine lv_iload_n hx hb dX11_layBuyers_108 rfl (lv_at hl 4 rfl) ?_
  obtain ⟨z109, hz109, hf⟩ := rf_bd hf
  refine rf_vi (q0 := 0) (ci := 11) hC (c_X11_withBy l E a (rf_upL I [(19, m_onlyOne), (20, m_onlyOther), (21, m_either)]) (rf_upL A [(7, m_can)]) m_r m_st v6 ((m_st (Int32.toNatClampNeg ((8 : Int32) + v6))) ||| ((1 : Int32) <<< (v2 &&& 31))) v3 e_m_r e_m_st hz109) kV_X11_withBy tw_1648 ⟨Nat.le_of_ble_eq_true rfl, Nat.le_of_ble_eq_true rfl⟩ rfl rfl rfl rfl rfl hP (rf_DM hD) hS rfl hl.1 (rest := []) rfl (Nat.le_of_ble_eq_true rfl) dX11_layBuyers_109 (fun H locs hP hS => ?_)
  refine lv_iload hx hb dX11_layBuyers_112 (lv_at hl 5 rfl) ?_
  refine lv_iand hx hb dX11_layBuyers_114 ?_
  refine lv_if_eq (tgt := 122) hx hb dX11_layBuyers_115 (by decide) (fun c_115 => ?_) (fun c_115 => ?_)
  · have hf := rf_it c_115 hf
    refine lv_iconst (v := 0) hx hb dX11_layBuyers_122 (by decide) ?_
    exact w_X11_layBuyers_123 hC hD e_m_r e_m_st hk33 v1 v2 v3 v4 v5 v6 s0 0 m_onlyOne m_onlyOther m_either m_can hf _ _ _ hP hS (lv_sub hl [1, 2, 3, 4, 5, 6, 7, 0] rfl)
  have hf := rf_ie c_115 hf
  refine lv_iconst (v := 1) hx hb dX11_layBuyers_118 (by decide) ?_
  refine lv_goto (tgt := 123) hx hb dX11_layBuyers_119 (by decide) ?_
  exact w_X11_layBuyers_123 hC hD e_m_r e_m_st hk33 v1 v2 v3 v4 v5 v6 s0 1 m_onlyOne m_onlyOther m_either m_can hf _ _ _ hP hS (lv_sub hl [1, 2, 3, 4, 5, 6, 7, 0] rfl)
set_option maxHeartbeats 4000000 in
set_option maxRecDepth 100000 in
theorem w_X11_layBuyers_33 {l : Launch} {p : Program} {e : Env} {s : State} {m : MethodId} {args : Array Value} {below : List Frame} {meth : Method} {c : Code} {A0 : Nat → Prop} {E : rf_E} {a : Nat → Nat} {I : Nat → Int32} {A : Nat → Nat → Int32} {m_r : Nat → Int32} {m_st : Nat → Int32} {z : Int32 × Int32 × Int32 × (Nat → Int32)} (hC : rf_C p E s m args meth c cX11_layBuyers 9 RX11 (none) A0) (hD : va_D A0 (cM E a I A)) (e_m_r : A 2 = m_r) (e_m_st : A 4 = m_st) :
    ∀ (n : Nat), ∀ (v1 : Int32) (v2 : Int32) (v3 : Int32) (v4 : Int32) (v5 : Int32) (v6 : Int32) (m_onlyOne : Int32) (m_onlyOther : Int32) (m_either : Int32) (m_can : Nat → Int32), f_X11_layBuyers_33 m_r m_st n v1 v2 v3 v4 v5 v6 m_onlyOne m_onlyOther m_either m_can = some z → ∀ (H : Heap) (locs : List Loc) (ls : Array Slot), va_P (rf_D E) vwCl (cM E a (rf_upL I [(19, m_onlyOne), (20, m_onlyOther), (21, m_either)]) (rf_upL A [(7, m_can)])) H → va_S A0 s.heap H locs → lv_has ls 9 [(0, .ref (a 0)), (1, .int v1), (2, .int v2), (3, .int v3), (4, .int v4), (5, .int v5), (6, .int v6)] → W p l e ({ frames := 6, cells := 0, slots := 0, locals := 149 }) s m args below meth c H locs 0 0 (rf_QV below args s E A0 (cM E a (rf_upL I [(19, z.1), (20, z.2.1), (21, z.2.2.1)]) (rf_upL A [(7, z.2.2.2)]))) (F0 m 33 ls []) := by
  have hx := hC.1
  have hb := hC.2.1
  intro n
  induction n with
  | zero =>
    intro v1 v2 v3 v4 v5 v6 m_onlyOne m_onlyOther m_either m_can hf
    have hf : (none : Option (Int32 × Int32 × Int32 × (Nat → Int32))) = some z := hf
    cases hf
  | succ n ih =>
    intro v1 v2 v3 v4 v5 v6 m_onlyOne m_onlyOther m_either m_can hf H locs ls hP hS hl
    rw [f_X11_layBuyers_33] at hf
    refine lv_iload hx hb dX11_layBuyers_33 (lv_at hl 6 rfl) ?_
    refine lv_aload_n hx hb dX11_layBuyers_35 rfl (lv_at hl 0 rfl) ?_
    refine gM_m_r hC hP tw_1294 dX11_layBuyers_36 ?_
    refine lv_iconst (v := 3) hx hb dX11_layBuyers_39 (by decide) ?_
    refine lM_m_r hC hP (by decide) (f := m_r) e_m_r dX11_layBuyers_40 ?_
    refine lv_icmp_ge (tgt := 203) hx hb dX11_layBuyers_41 (by decide) (fun c_41 => ?_) (fun c_41 => ?_)
    · have hf := rf_it c_41 hf
      obtain rfl := Option.some.inj hf
      exact rf_retv hC hP hS rfl dX11_layBuyers_203
    have hf := rf_ie c_41 hf
    refine lv_iload hx hb dX11_layBuyers_44 (lv_at hl 5 rfl) ?_
    refine lv_iload hx hb dX11_layBuyers_46 (lv_at hl 6 rfl) ?_
    obtain ⟨z48, hz48, hf⟩ := rf_bd hf
    refine rf_si0 hC (c_X11_hasBit l E v5 v6 hz48) kS_X11_hasBit tw_1539 ⟨Nat.le_of_ble_eq_true rfl, Nat.le_of_ble_eq_true rfl⟩ rfl rfl hP hS rfl hl.1 (rest := []) rfl (Nat.le_of_ble_eq_true rfl) dX11_layBuyers_48 (fun H locs hP hS => ?_)
    refine lv_if_ne (tgt := 57) hx hb dX11_layBuyers_51 (by decide) (fun c_51 => ?_) (fun c_51 => ?_)
    · have hf := rf_ie c_51 hf
      refine lv_aload_n hx hb dX11_layBuyers_57 rfl (lv_at hl 0 rfl) ?_
      refine lv_iload hx hb dX11_layBuyers_58 (lv_at hl 6 rfl) ?_
      refine lv_aload_n hx hb dX11_layBuyers_60 rfl (lv_at hl 0 rfl) ?_
      refine gM_m_st hC hP tw_1296 dX11_layBuyers_61 ?_
      refine lv_bipush (v := 8) hx hb dX11_layBuyers_64 (by decide) ?_
      refine lv_iload hx hb dX11_layBuyers_66 (lv_at hl 6 rfl) ?_
      refine lv_iadd hx hb dX11_layBuyers_68 ?_
      obtain ⟨hi_69, hf⟩ := rf_gu hf
      refine lM_m_st hC hP hi_69 (f := m_st) e_m_st dX11_layBuyers_69 ?_
      refine lv_iconst (v := 1) hx hb dX11_layBuyers_70 (by decide) ?_
      refine lv_iload_n hx hb dX11_layBuyers_71 rfl (lv_at hl 1 rfl) ?_
      refine lv_ishl hx hb dX11_layBuyers_72 ?_
      refine lv_ior hx hb dX11_layBuyers_73 ?_
      refine lv_iload_n hx hb dX11_layBuyers_74 rfl (lv_at hl 3 rfl) ?_
      obtain ⟨z75, hz75, hf⟩ := rf_bd hf
      refine rf_vi (q0 := 0) (ci := 11) hC (c_X11_withBy l E a (rf_upL I [(19, m_onlyOne), (20, m_onlyOther), (21, m_either)]) (rf_upL A [(7, m_can)]) m_r m_st v6 ((m_st (Int32.toNatClampNeg ((8 : Int32) + v6))) ||| ((1 : Int32) <<< (v1 &&& 31))) v3 e_m_r e_m_st hz75) kV_X11_withBy tw_1648 ⟨Nat.le_of_ble_eq_true rfl, Nat.le_of_ble_eq_true rfl⟩ rfl rfl rfl rfl rfl hP (rf_DM hD) hS rfl hl.1 (rest := []) rfl (Nat.le_of_ble_eq_true rfl) dX11_layBuyers_75 (fun H locs hP hS => ?_)
      refine lv_iload hx hb dX11_layBuyers_78 (lv_at hl 4 rfl) ?_
      refine lv_iand hx hb dX11_layBuyers_80 ?_
      refine lv_if_eq (tgt := 88) hx hb dX11_layBuyers_81 (by decide) (fun c_81 => ?_) (fun c_81 => ?_)
      · have hf := rf_it c_81 hf
        refine lv_iconst (v := 0) hx hb dX11_layBuyers_88 (by decide) ?_
        exact w_X11_layBuyers_89 hC hD e_m_r e_m_st ih v1 v2 v3 v4 v5 v6 0 m_onlyOne m_onlyOther m_either m_can hf _ _ _ hP hS (lv_sub hl [0, 1, 2, 3, 4, 5, 6] rfl)
      have hf := rf_ie c_81 hf
      refine lv_iconst (v := 1) hx hb dX11_layBuyers_84 (by decide) ?_
      refine lv_goto (tgt := 89) hx hb dX11_layBuyers_85 (by decide) ?_
      exact w_X11_layBuyers_89 hC hD e_m_r e_m_st ih v1 v2 v3 v4 v5 v6 1 m_onlyOne m_onlyOther m_either m_can hf _ _ _ hP hS (lv_sub hl [0, 1, 2, 3, 4, 5, 6] rfl)
    have hf := rf_it c_51 hf
    refine lv_goto (tgt := 197) hx hb dX11_layBuyers_54 (by decide) ?_
    exact w_X11_layBuyers_197 hC hD e_m_r e_m_st ih v1 v2 v3 v4 v5 v6 m_onlyOne m_onlyOther m_either m_can hf _ _ _ hP hS (lv_sub hl [0, 1, 2, 3, 4, 5, 6] rfl)
set_option maxHeartbeats 4000000 in
set_option maxRecDepth 100000 in
theorem c_X11_layBuyers (l : Launch) (E : rf_E) (a : Nat → Nat) (I : Nat → Int32) (A : Nat → Nat → Int32) (m_r : Nat → Int32) (m_st : Nat → Int32) (m_onlyOne : Int32) (m_onlyOther : Int32) (m_either : Int32) (m_can : Nat → Int32) (v1 : Int32) (v2 : Int32) (v3 : Int32) {z : Int32 × Int32 × Int32 × (Nat → Int32)} (e_m_r : A 2 = m_r) (e_m_st : A 4 = m_st) (e_m_onlyOne : I 19 = m_onlyOne) (e_m_onlyOther : I 20 = m_onlyOther) (e_m_either : I 21 = m_either) (e_m_can : A 7 = m_can) (hf : f_X11_layBuyers m_r m_st m_onlyOne m_onlyOther m_either m_can v1 v2 v3 = some z) : rf_MV l yX11_layBuyers cX11_layBuyers 9 ({ frames := 6, cells := 0, slots := 0, locals := 149 }) E [.ref (a 0), .int v1, .int v2, .int v3] (cM E a I A) (cM E a (rf_upL I [(19, z.1), (20, z.2.1), (21, z.2.2.1)]) (rf_upL A [(7, z.2.2.2)])) := by
  unfold f_X11_layBuyers at hf
  refine rf_ofV (by decide) (Nat.le_of_ble_eq_true rfl) ?_
  intro p e s m below meth c A0 ls hC hD hP hS hl
  have hC : rf_C p E s m _ meth c cX11_layBuyers 9 RX11 (none) A0 := hC
  have hx := hC.1
  have hb := hC.2.1
  have hl : lv_has ls 9 [(0, .ref (a 0)), (1, .int v1), (2, .int v2), (3, .int v3)] := hl
  have hP : va_P (rf_D E) vwCl (cM E a (rf_upL I [(19, m_onlyOne), (20, m_onlyOther), (21, m_either)]) (rf_upL A [(7, m_can)])) s.heap := by
    rw [rf_self (f := I) [(19, m_onlyOne), (20, m_onlyOther), (21, m_either)] (rf_fa1 e_m_onlyOne (rf_fa1 e_m_onlyOther (rf_fa1 e_m_either rf_fa0)))]
    rw [rf_self (f := A) [(7, m_can)] (rf_fa1 e_m_can rf_fa0)]
    exact hP
  refine lv_aload_n hx hb dX11_layBuyers_0 rfl (lv_at hl 0 rfl) ?_
  refine lv_iconst (v := 0) hx hb dX11_layBuyers_1 (by decide) ?_
  refine pM_m_onlyOne hC hD hP hS tw_1311 dX11_layBuyers_2 (rf_upL I [(19, 0), (20, m_onlyOther), (21, m_either)]) (rf_put rfl) (fun H locs hP hS => ?_)
  refine lv_aload_n hx hb dX11_layBuyers_5 rfl (lv_at hl 0 rfl) ?_
  refine lv_iconst (v := 0) hx hb dX11_layBuyers_6 (by decide) ?_
  refine pM_m_onlyOther hC hD hP hS tw_1312 dX11_layBuyers_7 (rf_upL I [(19, 0), (20, 0), (21, m_either)]) (rf_put rfl) (fun H locs hP hS => ?_)
  refine lv_aload_n hx hb dX11_layBuyers_10 rfl (lv_at hl 0 rfl) ?_
  refine lv_iconst (v := 0) hx hb dX11_layBuyers_11 (by decide) ?_
  refine pM_m_either hC hD hP hS tw_1313 dX11_layBuyers_12 (rf_upL I [(19, 0), (20, 0), (21, 0)]) (rf_put rfl) (fun H locs hP hS => ?_)
  refine lv_aload_n hx hb dX11_layBuyers_15 rfl (lv_at hl 0 rfl) ?_
  refine lv_iconst (v := 0) hx hb dX11_layBuyers_16 (by decide) ?_
  obtain ⟨z17, hz17, hf⟩ := rf_bd hf
  refine rf_vi (q0 := 0) (ci := 11) hC (c_X11_onBank l E a (rf_upL I [(19, 0), (20, 0), (21, 0)]) (rf_upL A [(7, m_can)]) m_r m_st 0 e_m_r e_m_st hz17) kV_X11_onBank tw_1691 ⟨Nat.le_of_ble_eq_true rfl, Nat.le_of_ble_eq_true rfl⟩ rfl rfl rfl rfl rfl hP (rf_DM hD) hS rfl hl.1 (rest := []) rfl (Nat.le_of_ble_eq_true rfl) dX11_layBuyers_17 (fun H locs hP hS => ?_)
  refine lv_istore (lv' := [(4, .int z17), (0, .ref (a 0)), (1, .int v1), (2, .int v2), (3, .int v3)]) hx hb dX11_layBuyers_20 hl (by decide) rfl (fun ls hl => ?_)
  refine lv_aload_n hx hb dX11_layBuyers_22 rfl (lv_at hl 1 rfl) ?_
  refine lv_iconst (v := 0) hx hb dX11_layBuyers_23 (by decide) ?_
  refine lv_iload_n hx hb dX11_layBuyers_24 rfl (lv_at hl 4 rfl) ?_
  obtain ⟨z25, hz25, hf⟩ := rf_bd hf
  refine rf_vi (q0 := 0) (ci := 11) hC (c_X11_aloneBy l E a (rf_upL I [(19, 0), (20, 0), (21, 0)]) (rf_upL A [(7, m_can)]) m_r m_st m_can 0 v3 e_m_r e_m_st rfl hz25) kV_X11_aloneBy tw_1727 ⟨Nat.le_of_ble_eq_true rfl, Nat.le_of_ble_eq_true rfl⟩ rfl rfl rfl rfl rfl hP (rf_DM hD) hS rfl hl.1 (rest := []) rfl (Nat.le_of_ble_eq_true rfl) dX11_layBuyers_25 (fun H locs hP hS => ?_)
  rw [rf_cat (f := A) (l := [(7, m_can)]) (lc := [(7, z25.2)]) (l' := [(7, z25.2)]) rfl] at hP
  refine lv_istore (lv' := [(5, .int z25.1), (4, .int z17), (0, .ref (a 0)), (1, .int v1), (2, .int v2), (3, .int v3)]) hx hb dX11_layBuyers_28 hl (by decide) rfl (fun ls hl => ?_)
  refine lv_iconst (v := 0) hx hb dX11_layBuyers_30 (by decide) ?_
  refine lv_istore (lv' := [(6, .int 0), (5, .int z25.1), (4, .int z17), (0, .ref (a 0)), (1, .int v1), (2, .int v2), (3, .int v3)]) hx hb dX11_layBuyers_31 hl (by decide) rfl (fun ls hl => ?_)
  exact w_X11_layBuyers_33 hC hD e_m_r e_m_st rf_fu v1 v2 v3 z17 z25.1 0 0 0 0 z25.2 hf _ _ _ hP hS (lv_sub hl [3, 4, 5, 6, 2, 1, 0] rfl)
