set_option maxHeartbeats 4000000 in
set_option maxRecDepth 100000 in
theorem w_X11_aloneBy_56 {l : Launch} {p : Program} {e : Env} {s : State} {m : MethodId} {args : Array Value} {below : List Frame} {meth : Method} {c : Code} {A0 : Nat → Prop} {E : rf_E} {a : Nat → Nat} {I : Nat → Int32} {A : Nat → Nat → Int32} {m_r : Nat → Int32} {m_st : Nat → Int32} {z : Int32 × (Nat → Int32)} (hC : rf_C p E s m args meth c cX11_aloneBy 5 RX11 (some .int) A0) (hD : va_D A0 (cM E a I A)) (e_m_r : A 2 = m_r) (e_m_st : A 4 = m_st) {k15 : Int32 → Int32 → Int32 → (Nat → Int32) → Option (Int32 × (Nat → Int32))} (hk15 : ∀ (v1 : Int32) (v3 : Int32) (v4 : Int32) (m_can : Nat → Int32), k15 v1 v3 v4 m_can = some z → ∀ (H : Heap) (locs : List Loc) (ls : Array Slot), va_P (rf_D E) vwCl (cM E a I (rf_upL A [(7, m_can)])) H → va_S A0 s.heap H locs → lv_has ls 5 [(0, .ref (a 0)), (1, .int v1), (3, .int v3), (4, .int v4)] → W p l e ({ frames := 5, cells := 0, slots := 0, locals := 125 }) s m args below meth c H locs 0 0 (rf_QI below args s E A0 z.1 (cM E a I (rf_upL A [(7, z.2)]))) (F0 m 15 ls [])) :
    ∀ (v1 : Int32) (v4 : Int32) (s0 : Int32) (s1 : Int32) (m_can : Nat → Int32), f_X11_aloneBy_56 k15 m_r m_st v1 v4 s0 s1 m_can = some z → ∀ (H : Heap) (locs : List Loc) (ls : Array Slot), va_P (rf_D E) vwCl (cM E a I (rf_upL A [(7, m_can)])) H → va_S A0 s.heap H locs → lv_has ls 5 [(0, .ref (a 0)), (1, .int v1), (4, .int v4)] → W p l e ({ frames := 5, cells := 0, slots := 0, locals := 125 }) s m args below meth c H locs 0 0 (rf_QI below args s E A0 z.1 (cM E a I (rf_upL A [(7, z.2)]))) (F0 m 56 ls [.int s1, .int s0]) := by
  have hx := hC.1
  have hb := hC.2.1
  intro v1 v4 s0 s1 m_can hf H locs ls hP hS hl
  unfold f_X11_aloneBy_56 at hf
  refine lv_ior hx hb dX11_aloneBy_56 ?_
  refine lv_istore_n (lv' := [(3, .int (s0 ||| s1)), (0, .ref (a 0)), (1, .int v1), (4, .int v4)]) hx hb dX11_aloneBy_57 rfl hl (by decide) rfl (fun ls hl => ?_)
  refine lv_iinc (v := v4 + 1) (lv' := [(4, .int (v4 + 1)), (3, .int (s0 ||| s1)), (0, .ref (a 0)), (1, .int v1)]) hx hb dX11_aloneBy_58 hl (k := 3) rfl rfl (by decide) rfl (fun ls hl => ?_)
  refine lv_goto (tgt := 15) hx hb dX11_aloneBy_61 (by decide) ?_
  exact hk15 v1 (s0 ||| s1) (v4 + 1) m_can hf _ _ _ hP hS (lv_sub hl [2, 3, 1, 0] rfl)
set_option maxHeartbeats 4000000 in
set_option maxRecDepth 100000 in
theorem w_X11_aloneBy_55 {l : Launch} {p : Program} {e : Env} {s : State} {m : MethodId} {args : Array Value} {below : List Frame} {meth : Method} {c : Code} {A0 : Nat → Prop} {E : rf_E} {a : Nat → Nat} {I : Nat → Int32} {A : Nat → Nat → Int32} {m_r : Nat → Int32} {m_st : Nat → Int32} {z : Int32 × (Nat → Int32)} (hC : rf_C p E s m args meth c cX11_aloneBy 5 RX11 (some .int) A0) (hD : va_D A0 (cM E a I A)) (e_m_r : A 2 = m_r) (e_m_st : A 4 = m_st) {k15 : Int32 → Int32 → Int32 → (Nat → Int32) → Option (Int32 × (Nat → Int32))} (hk15 : ∀ (v1 : Int32) (v3 : Int32) (v4 : Int32) (m_can : Nat → Int32), k15 v1 v3 v4 m_can = some z → ∀ (H : Heap) (locs : List Loc) (ls : Array Slot), va_P (rf_D E) vwCl (cM E a I (rf_upL A [(7, m_can)])) H → va_S A0 s.heap H locs → lv_has ls 5 [(0, .ref (a 0)), (1, .int v1), (3, .int v3), (4, .int v4)] → W p l e ({ frames := 5, cells := 0, slots := 0, locals := 125 }) s m args below meth c H locs 0 0 (rf_QI below args s E A0 z.1 (cM E a I (rf_upL A [(7, z.2)]))) (F0 m 15 ls [])) :
    ∀ (v1 : Int32) (v4 : Int32) (s0 : Int32) (m_can : Nat → Int32), f_X11_aloneBy_55 k15 m_r m_st v1 v4 s0 m_can = some z → ∀ (H : Heap) (locs : List Loc) (ls : Array Slot), va_P (rf_D E) vwCl (cM E a I (rf_upL A [(7, m_can)])) H → va_S A0 s.heap H locs → lv_has ls 5 [(0, .ref (a 0)), (1, .int v1), (4, .int v4)] → W p l e ({ frames := 5, cells := 0, slots := 0, locals := 125 }) s m args below meth c H locs 0 0 (rf_QI below args s E A0 z.1 (cM E a I (rf_upL A [(7, z.2)]))) (F0 m 55 ls [.int s0]) := by
  have hx := hC.1
  have hb := hC.2.1
  intro v1 v4 s0 m_can hf H locs ls hP hS hl
  unfold f_X11_aloneBy_55 at hf
  refine lv_iconst (v := 0) hx hb dX11_aloneBy_55 (by decide) ?_
  exact w_X11_aloneBy_56 hC hD e_m_r e_m_st hk15 v1 v4 s0 0 m_can hf _ _ _ hP hS (lv_sub hl [0, 1, 2] rfl)
set_option maxHeartbeats 4000000 in
set_option maxRecDepth 100000 in
theorem w_X11_aloneBy_15 {l : Launch} {p : Program} {e : Env} {s : State} {m : MethodId} {args : Array Value} {below : List Frame} {meth : Method} {c : Code} {A0 : Nat → Prop} {E : rf_E} {a : Nat → Nat} {I : Nat → Int32} {A : Nat → Nat → Int32} {m_r : Nat → Int32} {m_st : Nat → Int32} {z : Int32 × (Nat → Int32)} (hC : rf_C p E s m args meth c cX11_aloneBy 5 RX11 (some .int) A0) (hD : va_D A0 (cM E a I A)) (e_m_r : A 2 = m_r) (e_m_st : A 4 = m_st) :
    ∀ (n : Nat), ∀ (v1 : Int32) (v3 : Int32) (v4 : Int32) (m_can : Nat → Int32), f_X11_aloneBy_15 m_r m_st n v1 v3 v4 m_can = some z → ∀ (H : Heap) (locs : List Loc) (ls : Array Slot), va_P (rf_D E) vwCl (cM E a I (rf_upL A [(7, m_can)])) H → va_S A0 s.heap H locs → lv_has ls 5 [(0, .ref (a 0)), (1, .int v1), (3, .int v3), (4, .int v4)] → W p l e ({ frames := 5, cells := 0, slots := 0, locals := 125 }) s m args below meth c H locs 0 0 (rf_QI below args s E A0 z.1 (cM E a I (rf_upL A [(7, z.2)]))) (F0 m 15 ls []) := by
  have hx := hC.1
  have hb := hC.2.1
  intro n
  induction n with
  | zero =>
    intro v1 v3 v4 m_can hf
    have hf : (none : Option (Int32 × (Nat → Int32))) = some z := hf
    cases hf
  | succ n ih =>
    intro v1 v3 v4 m_can hf H locs ls hP hS hl
    rw [f_X11_aloneBy_15] at hf
    refine lv_iload hx hb dX11_aloneBy_15 (lv_at hl 3 rfl) ?_
    refine lv_aload_n hx hb dX11_aloneBy_17 rfl (lv_at hl 0 rfl) ?_
    refine gM_m_r hC hP tw_1294 dX11_aloneBy_18 ?_
    refine lv_iconst (v := 3) hx hb dX11_aloneBy_21 (by decide) ?_
    refine lM_m_r hC hP (by decide) (f := m_r) e_m_r dX11_aloneBy_22 ?_
    refine lv_icmp_ge (tgt := 64) hx hb dX11_aloneBy_23 (by decide) (fun c_23 => ?_) (fun c_23 => ?_)
    · have hf := rf_it c_23 hf
      refine lv_iload_n hx hb dX11_aloneBy_64 rfl (lv_at hl 2 rfl) ?_
      obtain rfl := Option.some.inj hf
      exact rf_reti hC hP hS rfl rfl dX11_aloneBy_65
    have hf := rf_ie c_23 hf
    refine lv_iload_n hx hb dX11_aloneBy_26 rfl (lv_at hl 2 rfl) ?_
    refine lv_aload_n hx hb dX11_aloneBy_27 rfl (lv_at hl 0 rfl) ?_
    refine gM_m_st hC hP tw_1296 dX11_aloneBy_28 ?_
    refine lv_iload hx hb dX11_aloneBy_31 (lv_at hl 3 rfl) ?_
    obtain ⟨hi_33, hf⟩ := rf_gu hf
    refine lM_m_st hC hP hi_33 (f := m_st) e_m_st dX11_aloneBy_33 ?_
    refine lv_iload_n hx hb dX11_aloneBy_34 rfl (lv_at hl 1 rfl) ?_
    refine lv_icmp_ne (tgt := 55) hx hb dX11_aloneBy_35 (by decide) (fun c_35 => ?_) (fun c_35 => ?_)
    · have hf := rf_ie c_35 hf
      exact w_X11_aloneBy_55 hC hD e_m_r e_m_st ih v1 v4 v3 m_can hf _ _ _ hP hS (lv_sub hl [0, 1, 3] rfl)
    have hf := rf_it c_35 hf
    refine lv_aload_n hx hb dX11_aloneBy_38 rfl (lv_at hl 0 rfl) ?_
    refine gM_m_can hC hP tw_1301 dX11_aloneBy_39 ?_
    refine lv_iload hx hb dX11_aloneBy_42 (lv_at hl 3 rfl) ?_
    obtain ⟨hi_44, hf⟩ := rf_gu hf
    refine lM_m_can hC hP hi_44 (f := m_can) rfl dX11_aloneBy_44 ?_
    refine lv_if_ne (tgt := 55) hx hb dX11_aloneBy_45 (by decide) (fun c_45 => ?_) (fun c_45 => ?_)
    · have hf := rf_ie c_45 hf
      exact w_X11_aloneBy_55 hC hD e_m_r e_m_st ih v1 v4 v3 m_can hf _ _ _ hP hS (lv_sub hl [0, 1, 3] rfl)
    have hf := rf_it c_45 hf
    refine lv_iconst (v := 1) hx hb dX11_aloneBy_48 (by decide) ?_
    refine lv_iload hx hb dX11_aloneBy_49 (lv_at hl 3 rfl) ?_
    refine lv_ishl hx hb dX11_aloneBy_51 ?_
    refine lv_goto (tgt := 56) hx hb dX11_aloneBy_52 (by decide) ?_
    exact w_X11_aloneBy_56 hC hD e_m_r e_m_st ih v1 v4 v3 ((1 : Int32) <<< (v4 &&& 31)) m_can hf _ _ _ hP hS (lv_sub hl [0, 1, 3] rfl)
set_option maxHeartbeats 4000000 in
set_option maxRecDepth 100000 in
theorem c_X11_aloneBy (l : Launch) (E : rf_E) (a : Nat → Nat) (I : Nat → Int32) (A : Nat → Nat → Int32) (m_r : Nat → Int32) (m_st : Nat → Int32) (m_can : Nat → Int32) (v1 : Int32) (v2 : Int32) {z : Int32 × (Nat → Int32)} (e_m_r : A 2 = m_r) (e_m_st : A 4 = m_st) (e_m_can : A 7 = m_can) (hf : f_X11_aloneBy m_r m_st m_can v1 v2 = some z) : rf_MI l yX11_aloneBy cX11_aloneBy 5 (some .int) ({ frames := 5, cells := 0, slots := 0, locals := 125 }) E [.ref (a 0), .int v1, .int v2] (cM E a I A) z.1 (cM E a I (rf_upL A [(7, z.2)])) := by
  unfold f_X11_aloneBy at hf
  refine rf_ofI (by decide) (Nat.le_of_ble_eq_true rfl) ?_
  intro p e s m below meth c A0 ls hC hD hP hS hl
  have hC : rf_C p E s m _ meth c cX11_aloneBy 5 RX11 (some .int) A0 := hC
  have hx := hC.1
  have hb := hC.2.1
  have hl : lv_has ls 5 [(0, .ref (a 0)), (1, .int v1), (2, .int v2)] := hl
  have hP : va_P (rf_D E) vwCl (cM E a I (rf_upL A [(7, m_can)])) s.heap := by
    rw [rf_self (f := A) [(7, m_can)] (rf_fa1 e_m_can rf_fa0)]
    exact hP
  refine lv_aload_n hx hb dX11_aloneBy_0 rfl (lv_at hl 0 rfl) ?_
  refine lv_aload_n hx hb dX11_aloneBy_1 rfl (lv_at hl 0 rfl) ?_
  refine lv_iload_n hx hb dX11_aloneBy_2 rfl (lv_at hl 1 rfl) ?_
  obtain ⟨z3, hz3, hf⟩ := rf_bd hf
  refine rf_vi (q0 := 0) (ci := 11) hC (c_X11_onBank l E a I (rf_upL A [(7, m_can)]) m_r m_st v1 e_m_r e_m_st hz3) kV_X11_onBank tw_1691 ⟨Nat.le_of_ble_eq_true rfl, Nat.le_of_ble_eq_true rfl⟩ rfl rfl rfl rfl rfl hP (rf_DM hD) hS rfl hl.1 (rest := [.ref (a 0)]) rfl (Nat.le_of_ble_eq_true rfl) dX11_aloneBy_3 (fun H locs hP hS => ?_)
  refine lv_iload_n hx hb dX11_aloneBy_6 rfl (lv_at hl 2 rfl) ?_
  obtain ⟨z7, hz7, hf⟩ := rf_bd hf
  refine rf_vv (q0 := 0) (ci := 11) hC (c_X11_layCan l E a I (rf_upL A [(7, m_can)]) m_r m_st m_can z3 v2 e_m_r e_m_st rfl hz7) kV_X11_layCan tw_1711 ⟨Nat.le_of_ble_eq_true rfl, Nat.le_of_ble_eq_true rfl⟩ rfl rfl rfl rfl rfl hP (rf_DM hD) hS rfl hl.1 (rest := []) rfl (Nat.le_of_ble_eq_true rfl) dX11_aloneBy_7 (fun H locs hP hS => ?_)
  rw [rf_cat (f := A) (l := [(7, m_can)]) (lc := [(7, z7)]) (l' := [(7, z7)]) rfl] at hP
  refine lv_iconst (v := 0) hx hb dX11_aloneBy_10 (by decide) ?_
  refine lv_istore_n (lv' := [(3, .int 0), (0, .ref (a 0)), (1, .int v1), (2, .int v2)]) hx hb dX11_aloneBy_11 rfl hl (by decide) rfl (fun ls hl => ?_)
  refine lv_iconst (v := 0) hx hb dX11_aloneBy_12 (by decide) ?_
  refine lv_istore (lv' := [(4, .int 0), (3, .int 0), (0, .ref (a 0)), (1, .int v1), (2, .int v2)]) hx hb dX11_aloneBy_13 hl (by decide) rfl (fun ls hl => ?_)
  exact w_X11_aloneBy_15 hC hD e_m_r e_m_st rf_fu v1 0 0 z7 hf _ _ _ hP hS (lv_sub hl [2, 3, 1, 0] rfl)
set_option maxHeartbeats 4000000 in
set_option maxRecDepth 100000 in
theorem c_X11_alone (l : Launch) (E : rf_E) (a : Nat → Nat) (I : Nat → Int32) (A : Nat → Nat → Int32) (m_hasFerry : Int32) (m_r : Nat → Int32) (m_st : Nat → Int32) (m_thrown : Int32) (m_trouble : Int32) (m_can : Nat → Int32) (v1 : Int32) (v2 : Int32) {z : Int32 × Int32 × Int32 × (Nat → Int32)} (e_m_hasFerry : I 12 = m_hasFerry) (e_m_r : A 2 = m_r) (e_m_st : A 4 = m_st) (e_m_thrown : I 0 = m_thrown) (e_m_trouble : I 10 = m_trouble) (e_m_can : A 7 = m_can) (hf : f_X11_alone m_hasFerry m_r m_st m_thrown m_trouble m_can v1 v2 = some z) : rf_MI l yX11_alone cX11_alone 4 (some .int) ({ frames := 6, cells := 0, slots := 0, locals := 149 }) E [.ref (a 0), .int v1, .int v2] (cM E a I A) z.1 (cM E a (rf_upL I [(0, z.2.1), (10, z.2.2.1)]) (rf_upL A [(7, z.2.2.2)])) := by
  unfold f_X11_alone at hf
  refine rf_ofI (by decide) (Nat.le_of_ble_eq_true rfl) ?_
  intro p e s m below meth c A0 ls hC hD hP hS hl
  have hC : rf_C p E s m _ meth c cX11_alone 4 RX11 (some .int) A0 := hC
  have hx := hC.1
  have hb := hC.2.1
  have hl : lv_has ls 4 [(0, .ref (a 0)), (1, .int v1), (2, .int v2)] := hl
  have hP : va_P (rf_D E) vwCl (cM E a (rf_upL I [(0, m_thrown), (10, m_trouble)]) (rf_upL A [(7, m_can)])) s.heap := by
    rw [rf_self (f := I) [(0, m_thrown), (10, m_trouble)] (rf_fa1 e_m_thrown (rf_fa1 e_m_trouble rf_fa0))]
    rw [rf_self (f := A) [(7, m_can)] (rf_fa1 e_m_can rf_fa0)]
    exact hP
  refine lv_aload_n hx hb dX11_alone_0 rfl (lv_at hl 0 rfl) ?_
  obtain ⟨z1, hz1, hf⟩ := rf_bd hf
  refine rf_vv (q0 := 0) (ci := 11) hC (c_X11_good l E a (rf_upL I [(0, m_thrown), (10, m_trouble)]) (rf_upL A [(7, m_can)]) m_thrown m_trouble rfl rfl hz1) kV_X11_good tw_1403 ⟨Nat.le_of_ble_eq_true rfl, Nat.le_of_ble_eq_true rfl⟩ rfl rfl rfl rfl rfl hP (rf_DM hD) hS rfl hl.1 (rest := []) rfl (Nat.le_of_ble_eq_true rfl) dX11_alone_1 (fun H locs hP hS => ?_)
  rw [rf_cat (f := I) (l := [(0, m_thrown), (10, m_trouble)]) (lc := [(0, z1.1), (10, z1.2)]) (l' := [(0, z1.1), (10, z1.2)]) rfl] at hP
  refine lv_aload_n hx hb dX11_alone_4 rfl (lv_at hl 0 rfl) ?_
  refine lv_iload_n hx hb dX11_alone_5 rfl (lv_at hl 1 rfl) ?_
  refine lv_iload_n hx hb dX11_alone_6 rfl (lv_at hl 2 rfl) ?_
  obtain ⟨z7, hz7, hf⟩ := rf_bd hf
  refine rf_vi (q0 := 0) (ci := 11) hC (c_X11_bankWhy l E a (rf_upL I [(0, z1.1), (10, z1.2)]) (rf_upL A [(7, m_can)]) m_hasFerry v1 v2 e_m_hasFerry hz7) kV_X11_bankWhy tw_1703 ⟨Nat.le_of_ble_eq_true rfl, Nat.le_of_ble_eq_true rfl⟩ rfl rfl rfl rfl rfl hP (rf_DM hD) hS rfl hl.1 (rest := []) rfl (Nat.le_of_ble_eq_true rfl) dX11_alone_7 (fun H locs hP hS => ?_)
  refine lv_istore_n (lv' := [(3, .int z7), (0, .ref (a 0)), (1, .int v1), (2, .int v2)]) hx hb dX11_alone_10 rfl hl (by decide) rfl (fun ls hl => ?_)
  refine lv_iload_n hx hb dX11_alone_11 rfl (lv_at hl 0 rfl) ?_
  refine lv_if_eq (tgt := 23) hx hb dX11_alone_12 (by decide) (fun c_12 => ?_) (fun c_12 => ?_)
  · have hf := rf_it c_12 hf
    refine lv_aload_n hx hb dX11_alone_23 rfl (lv_at hl 1 rfl) ?_
    refine lv_iload_n hx hb dX11_alone_24 rfl (lv_at hl 2 rfl) ?_
    refine lv_aload_n hx hb dX11_alone_25 rfl (lv_at hl 1 rfl) ?_
    refine lv_iload_n hx hb dX11_alone_26 rfl (lv_at hl 3 rfl) ?_
    obtain ⟨z27, hz27, hf⟩ := rf_bd hf
    refine rf_vi (q0 := 0) (ci := 11) hC (c_X11_earAt l E a (rf_upL I [(0, z1.1), (10, z1.2)]) (rf_upL A [(7, m_can)]) m_r v2 e_m_r hz27) kV_X11_earAt tw_1624 ⟨Nat.le_of_ble_eq_true rfl, Nat.le_of_ble_eq_true rfl⟩ rfl rfl rfl rfl rfl hP (rf_DM hD) hS rfl hl.1 (rest := [.int v1, .ref (a 0)]) rfl (Nat.le_of_ble_eq_true rfl) dX11_alone_27 (fun H locs hP hS => ?_)
    obtain ⟨z30, hz30, hf⟩ := rf_bd hf
    refine rf_vi (q0 := 0) (ci := 11) hC (c_X11_aloneBy l E a (rf_upL I [(0, z1.1), (10, z1.2)]) (rf_upL A [(7, m_can)]) m_r m_st m_can v1 z27 e_m_r e_m_st rfl hz30) kV_X11_aloneBy tw_1727 ⟨Nat.le_of_ble_eq_true rfl, Nat.le_of_ble_eq_true rfl⟩ rfl rfl rfl rfl rfl hP (rf_DM hD) hS rfl hl.1 (rest := []) rfl (Nat.le_of_ble_eq_true rfl) dX11_alone_30 (fun H locs hP hS => ?_)
    rw [rf_cat (f := A) (l := [(7, m_can)]) (lc := [(7, z30.2)]) (l' := [(7, z30.2)]) rfl] at hP
    obtain rfl := Option.some.inj hf
    exact rf_reti hC hP hS rfl rfl dX11_alone_33
  have hf := rf_ie c_12 hf
  refine lv_aload_n hx hb dX11_alone_15 rfl (lv_at hl 1 rfl) ?_
  refine lv_iload_n hx hb dX11_alone_16 rfl (lv_at hl 0 rfl) ?_
  obtain ⟨z17, hz17, hf⟩ := rf_bd hf
  refine rf_vi (q0 := 0) (ci := 11) hC (c_X11_no l E a (rf_upL I [(0, z1.1), (10, z1.2)]) (rf_upL A [(7, m_can)]) z1.2 z7 rfl hz17) kV_X11_no tw_1410 ⟨Nat.le_of_ble_eq_true rfl, Nat.le_of_ble_eq_true rfl⟩ rfl rfl rfl rfl rfl hP (rf_DM hD) hS rfl hl.1 (rest := []) rfl (Nat.le_of_ble_eq_true rfl) dX11_alone_17 (fun H locs hP hS => ?_)
  rw [rf_cat (f := I) (l := [(0, z1.1), (10, z1.2)]) (lc := [(10, z17.2)]) (l' := [(0, z1.1), (10, z17.2)]) rfl] at hP
  refine lv_goto (tgt := 33) hx hb dX11_alone_20 (by decide) ?_
  obtain rfl := Option.some.inj hf
  exact rf_reti hC hP hS rfl rfl dX11_alone_33
set_option maxHeartbeats 4000000 in
set_option maxRecDepth 100000 in
theorem c_X11_isKept (l : Launch) (E : rf_E) (a : Nat → Nat) (I : Nat → Int32) (A : Nat → Nat → Int32) (m_r : Nat → Int32) (v1 : Int32) (v2 : Int32) {z : Int32} (e_m_r : A 2 = m_r) (hf : f_X11_isKept m_r v1 v2 = some z) : rf_MI l yX11_isKept cX11_isKept 3 (some .int) ({ frames := 0, cells := 0, slots := 0, locals := 0 }) E [.ref (a 0), .int v1, .int v2] (cM E a I A) z (cM E a I A) := by
  unfold f_X11_isKept at hf
  refine rf_ofI (by decide) (Nat.le_of_ble_eq_true rfl) ?_
  intro p e s m below meth c A0 ls hC hD hP hS hl
  have hC : rf_C p E s m _ meth c cX11_isKept 3 RX11 (some .int) A0 := hC
  have hx := hC.1
  have hb := hC.2.1
  have hl : lv_has ls 3 [(0, .ref (a 0)), (1, .int v1), (2, .int v2)] := hl
  refine lv_aload_n hx hb dX11_isKept_0 rfl (lv_at hl 0 rfl) ?_
  refine gM_m_r hC hP tw_1294 dX11_isKept_1 ?_
  refine lv_bipush (v := 89) hx hb dX11_isKept_4 (by decide) ?_
  refine lv_iconst (v := 4) hx hb dX11_isKept_6 (by decide) ?_
  refine lv_iload_n hx hb dX11_isKept_7 rfl (lv_at hl 1 rfl) ?_
  refine lv_imul hx hb dX11_isKept_8 ?_
  refine lv_iadd hx hb dX11_isKept_9 ?_
  refine lv_iconst (v := 3) hx hb dX11_isKept_10 (by decide) ?_
  refine lv_iadd hx hb dX11_isKept_11 ?_
  obtain ⟨hi_12, hf⟩ := rf_gu hf
  refine lM_m_r hC hP hi_12 (f := m_r) e_m_r dX11_isKept_12 ?_
  refine lv_iload_n hx hb dX11_isKept_13 rfl (lv_at hl 2 rfl) ?_
  refine lv_icmp_lt (tgt := 21) hx hb dX11_isKept_14 (by decide) (fun c_14 => ?_) (fun c_14 => ?_)
  · have hf := rf_it c_14 hf
    refine lv_iconst (v := 0) hx hb dX11_isKept_21 (by decide) ?_
    obtain rfl := Option.some.inj hf
    exact rf_reti hC hP hS rfl rfl dX11_isKept_22
  have hf := rf_ie c_14 hf
  refine lv_iconst (v := 1) hx hb dX11_isKept_17 (by decide) ?_
  refine lv_goto (tgt := 22) hx hb dX11_isKept_18 (by decide) ?_
  obtain rfl := Option.some.inj hf
  exact rf_reti hC hP hS rfl rfl dX11_isKept_22
set_option maxHeartbeats 4000000 in
set_option maxRecDepth 100000 in
theorem w_X11_tryErrands_167 {l : Launch} {p : Program} {e : Env} {s : State} {m : MethodId} {args : Array Value} {below : List Frame} {meth : Method} {c : Code} {A0 : Nat → Prop} {E : rf_E} {a : Nat → Nat} {I : Nat → Int32} {A : Nat → Nat → Int32} {m_r : Nat → Int32} {m_can : Nat → Int32} {d : Nat} {z : Int32 × (Nat → Int32)} (hC : rf_C p E s m args meth c cX11_tryErrands 6 RX11 (none) A0) (hD : va_D A0 (cM E a I A)) (e_m_r : A 2 = m_r) (e_m_can : A 7 = m_can) {slf : Int32 → (Nat → Int32) → Int32 → Int32 → Int32 → Option (Int32 × (Nat → Int32))} (hslf : ∀ (a : Nat → Nat) (I : Nat → Int32) (A : Nat → Nat → Int32) (m_mostKept : Int32) (m_seats : Nat → Int32) (v1 : Int32) (v2 : Int32) (v3 : Int32) {z1 : Int32 × (Nat → Int32)} (e_m_r : A 2 = m_r) (e_m_can : A 7 = m_can) (e_m_mostKept : I 16 = m_mostKept) (e_m_seats : A 10 = m_seats), slf m_mostKept m_seats v1 v2 v3 = some z1 → rf_MV l yX11_tryErrands cX11_tryErrands 6 ({ frames := 1 + d, cells := 0, slots := 0, locals := 22 + d * 25 }) E [.ref (a 0), .int v1, .int v2, .int v3] (cM E a I A) (cM E a (rf_upL I [(16, z1.1)]) (rf_upL A [(10, z1.2)]))) :
    ∀ (v1 : Int32) (v2 : Int32) (v3 : Int32) (m_mostKept : Int32) (m_seats : Nat → Int32), f_X11_tryErrands_167 slf m_r m_can v1 v2 v3 m_mostKept m_seats = some z → ∀ (H : Heap) (locs : List Loc) (ls : Array Slot), va_P (rf_D E) vwCl (cM E a (rf_upL I [(16, m_mostKept)]) (rf_upL A [(10, m_seats)])) H → va_S A0 s.heap H locs → lv_has ls 6 [(0, .ref (a 0)), (1, .int v1), (2, .int v2), (3, .int v3)] → W p l e ({ frames := 1 + (d + 1), cells := 0, slots := 0, locals := 22 + (d + 1) * 25 }) s m args below meth c H locs 0 0 (rf_QV below args s E A0 (cM E a (rf_upL I [(16, z.1)]) (rf_upL A [(10, z.2)]))) (F0 m 167 ls []) := by
  have hx := hC.1
  have hb := hC.2.1
  intro v1 v2 v3 m_mostKept m_seats hf H locs ls hP hS hl
  unfold f_X11_tryErrands_167 at hf
  refine lv_aload_n hx hb dX11_tryErrands_167 rfl (lv_at hl 0 rfl) ?_
  refine lv_iload_n hx hb dX11_tryErrands_168 rfl (lv_at hl 1 rfl) ?_
  refine lv_iconst (v := 1) hx hb dX11_tryErrands_169 (by decide) ?_
  refine lv_iadd hx hb dX11_tryErrands_170 ?_
  refine lv_iload_n hx hb dX11_tryErrands_171 rfl (lv_at hl 2 rfl) ?_
  refine lv_iconst (v := 1) hx hb dX11_tryErrands_172 (by decide) ?_
  refine lv_iload_n hx hb dX11_tryErrands_173 rfl (lv_at hl 1 rfl) ?_
  refine lv_ishl hx hb dX11_tryErrands_174 ?_
  refine lv_iconst (v := (-1)) hx hb dX11_tryErrands_175 (by decide) ?_
  refine lv_ixor hx hb dX11_tryErrands_176 ?_
  refine lv_iand hx hb dX11_tryErrands_177 ?_
  refine lv_iload_n hx hb dX11_tryErrands_178 rfl (lv_at hl 3 rfl) ?_
  obtain ⟨z179, hz179, hf⟩ := rf_bd hf
  refine rf_vv (q0 := 0) (ci := 11) hC (hslf a (rf_upL I [(16, m_mostKept)]) (rf_upL A [(10, m_seats)]) m_mostKept m_seats (v1 + 1) (v2 &&& (((1 : Int32) <<< (v1 &&& 31)) ^^^ (-1))) v3 e_m_r e_m_can rfl rfl hz179) kV_X11_tryErrands tw_1735 ⟨by show _ ≤ 1 + (d + 1); (try simp only []); omega, by show _ ≤ 22 + (d + 1) * 25; (try simp only []); omega⟩ rfl rfl rfl rfl rfl hP (rf_DM hD) hS rfl hl.1 (rest := []) rfl (Nat.le_of_ble_eq_true rfl) dX11_tryErrands_179 (fun H locs hP hS => ?_)
  rw [rf_cat (f := I) (l := [(16, m_mostKept)]) (lc := [(16, z179.1)]) (l' := [(16, z179.1)]) rfl] at hP
  rw [rf_cat (f := A) (l := [(10, m_seats)]) (lc := [(10, z179.2)]) (l' := [(10, z179.2)]) rfl] at hP
  obtain rfl := Option.some.inj hf
  exact rf_retv hC hP hS rfl dX11_tryErrands_182
set_option maxHeartbeats 4000000 in
set_option maxRecDepth 100000 in
theorem w_X11_tryErrands_161 {l : Launch} {p : Program} {e : Env} {s : State} {m : MethodId} {args : Array Value} {below : List Frame} {meth : Method} {c : Code} {A0 : Nat → Prop} {E : rf_E} {a : Nat → Nat} {I : Nat → Int32} {A : Nat → Nat → Int32} {m_r : Nat → Int32} {m_can : Nat → Int32} {d : Nat} {z : Int32 × (Nat → Int32)} (hC : rf_C p E s m args meth c cX11_tryErrands 6 RX11 (none) A0) (hD : va_D A0 (cM E a I A)) (e_m_r : A 2 = m_r) (e_m_can : A 7 = m_can) {slf : Int32 → (Nat → Int32) → Int32 → Int32 → Int32 → Option (Int32 × (Nat → Int32))} (hslf : ∀ (a : Nat → Nat) (I : Nat → Int32) (A : Nat → Nat → Int32) (m_mostKept : Int32) (m_seats : Nat → Int32) (v1 : Int32) (v2 : Int32) (v3 : Int32) {z1 : Int32 × (Nat → Int32)} (e_m_r : A 2 = m_r) (e_m_can : A 7 = m_can) (e_m_mostKept : I 16 = m_mostKept) (e_m_seats : A 10 = m_seats), slf m_mostKept m_seats v1 v2 v3 = some z1 → rf_MV l yX11_tryErrands cX11_tryErrands 6 ({ frames := 1 + d, cells := 0, slots := 0, locals := 22 + d * 25 }) E [.ref (a 0), .int v1, .int v2, .int v3] (cM E a I A) (cM E a (rf_upL I [(16, z1.1)]) (rf_upL A [(10, z1.2)]))) {k36 : Int32 → Int32 → Int32 → Int32 → Int32 → (Nat → Int32) → Option (Int32 × (Nat → Int32))} (hk36 : ∀ (v1 : Int32) (v2 : Int32) (v3 : Int32) (v4 : Int32) (m_mostKept : Int32) (m_seats : Nat → Int32), k36 v1 v2 v3 v4 m_mostKept m_seats = some z → ∀ (H : Heap) (locs : List Loc) (ls : Array Slot), va_P (rf_D E) vwCl (cM E a (rf_upL I [(16, m_mostKept)]) (rf_upL A [(10, m_seats)])) H → va_S A0 s.heap H locs → lv_has ls 6 [(0, .ref (a 0)), (1, .int v1), (2, .int v2), (3, .int v3), (4, .int v4)] → W p l e ({ frames := 1 + (d + 1), cells := 0, slots := 0, locals := 22 + (d + 1) * 25 }) s m args below meth c H locs 0 0 (rf_QV below args s E A0 (cM E a (rf_upL I [(16, z.1)]) (rf_upL A [(10, z.2)]))) (F0 m 36 ls [])) :
    ∀ (v1 : Int32) (v2 : Int32) (v3 : Int32) (v4 : Int32) (m_mostKept : Int32) (m_seats : Nat → Int32), f_X11_tryErrands_161 k36 slf m_r m_can v1 v2 v3 v4 m_mostKept m_seats = some z → ∀ (H : Heap) (locs : List Loc) (ls : Array Slot), va_P (rf_D E) vwCl (cM E a (rf_upL I [(16, m_mostKept)]) (rf_upL A [(10, m_seats)])) H → va_S A0 s.heap H locs → lv_has ls 6 [(0, .ref (a 0)), (1, .int v1), (2, .int v2), (3, .int v3), (4, .int v4)] → W p l e ({ frames := 1 + (d + 1), cells := 0, slots := 0, locals := 22 + (d + 1) * 25 }) s m args below meth c H locs 0 0 (rf_QV below args s E A0 (cM E a (rf_upL I [(16, z.1)]) (rf_upL A [(10, z.2)]))) (F0 m 161 ls []) := by
  have hx := hC.1
  have hb := hC.2.1
  intro v1 v2 v3 v4 m_mostKept m_seats hf H locs ls hP hS hl
  unfold f_X11_tryErrands_161 at hf
  refine lv_iinc (v := v4 + 1) (lv' := [(4, .int (v4 + 1)), (0, .ref (a 0)), (1, .int v1), (2, .int v2), (3, .int v3)]) hx hb dX11_tryErrands_161 hl (k := 4) rfl rfl (by decide) rfl (fun ls hl => ?_)
  refine lv_goto (tgt := 36) hx hb dX11_tryErrands_164 (by decide) ?_
  exact hk36 v1 v2 v3 (v4 + 1) m_mostKept m_seats hf _ _ _ hP hS (lv_sub hl [1, 2, 3, 4, 0] rfl)
set_option maxHeartbeats 4000000 in
set_option maxRecDepth 100000 in
theorem w_X11_tryErrands_155 {l : Launch} {p : Program} {e : Env} {s : State} {m : MethodId} {args : Array Value} {below : List Frame} {meth : Method} {c : Code} {A0 : Nat → Prop} {E : rf_E} {a : Nat → Nat} {I : Nat → Int32} {A : Nat → Nat → Int32} {m_r : Nat → Int32} {m_can : Nat → Int32} {d : Nat} {z : Int32 × (Nat → Int32)} (hC : rf_C p E s m args meth c cX11_tryErrands 6 RX11 (none) A0) (hD : va_D A0 (cM E a I A)) (e_m_r : A 2 = m_r) (e_m_can : A 7 = m_can) {slf : Int32 → (Nat → Int32) → Int32 → Int32 → Int32 → Option (Int32 × (Nat → Int32))} (hslf : ∀ (a : Nat → Nat) (I : Nat → Int32) (A : Nat → Nat → Int32) (m_mostKept : Int32) (m_seats : Nat → Int32) (v1 : Int32) (v2 : Int32) (v3 : Int32) {z1 : Int32 × (Nat → Int32)} (e_m_r : A 2 = m_r) (e_m_can : A 7 = m_can) (e_m_mostKept : I 16 = m_mostKept) (e_m_seats : A 10 = m_seats), slf m_mostKept m_seats v1 v2 v3 = some z1 → rf_MV l yX11_tryErrands cX11_tryErrands 6 ({ frames := 1 + d, cells := 0, slots := 0, locals := 22 + d * 25 }) E [.ref (a 0), .int v1, .int v2, .int v3] (cM E a I A) (cM E a (rf_upL I [(16, z1.1)]) (rf_upL A [(10, z1.2)]))) {k36 : Int32 → Int32 → Int32 → Int32 → Int32 → (Nat → Int32) → Option (Int32 × (Nat → Int32))} (hk36 : ∀ (v1 : Int32) (v2 : Int32) (v3 : Int32) (v4 : Int32) (m_mostKept : Int32) (m_seats : Nat → Int32), k36 v1 v2 v3 v4 m_mostKept m_seats = some z → ∀ (H : Heap) (locs : List Loc) (ls : Array Slot), va_P (rf_D E) vwCl (cM E a (rf_upL I [(16, m_mostKept)]) (rf_upL A [(10, m_seats)])) H → va_S A0 s.heap H locs → lv_has ls 6 [(0, .ref (a 0)), (1, .int v1), (2, .int v2), (3, .int v3), (4, .int v4)] → W p l e ({ frames := 1 + (d + 1), cells := 0, slots := 0, locals := 22 + (d + 1) * 25 }) s m args below meth c H locs 0 0 (rf_QV below args s E A0 (cM E a (rf_upL I [(16, z.1)]) (rf_upL A [(10, z.2)]))) (F0 m 36 ls [])) {k77 : Int32 → Int32 → Int32 → Int32 → Int32 → Int32 → (Nat → Int32) → Option (Int32 × (Nat → Int32))} (hk77 : ∀ (v1 : Int32) (v2 : Int32) (v3 : Int32) (v4 : Int32) (v5 : Int32) (m_mostKept : Int32) (m_seats : Nat → Int32), k77 v1 v2 v3 v4 v5 m_mostKept m_seats = some z → ∀ (H : Heap) (locs : List Loc) (ls : Array Slot), va_P (rf_D E) vwCl (cM E a (rf_upL I [(16, m_mostKept)]) (rf_upL A [(10, m_seats)])) H → va_S A0 s.heap H locs → lv_has ls 6 [(0, .ref (a 0)), (1, .int v1), (2, .int v2), (3, .int v3), (4, .int v4), (5, .int v5)] → W p l e ({ frames := 1 + (d + 1), cells := 0, slots := 0, locals := 22 + (d + 1) * 25 }) s m args below meth c H locs 0 0 (rf_QV below args s E A0 (cM E a (rf_upL I [(16, z.1)]) (rf_upL A [(10, z.2)]))) (F0 m 77 ls [])) :
    ∀ (v1 : Int32) (v2 : Int32) (v3 : Int32) (v4 : Int32) (v5 : Int32) (m_mostKept : Int32) (m_seats : Nat → Int32), f_X11_tryErrands_155 k36 k77 slf m_r m_can v1 v2 v3 v4 v5 m_mostKept m_seats = some z → ∀ (H : Heap) (locs : List Loc) (ls : Array Slot), va_P (rf_D E) vwCl (cM E a (rf_upL I [(16, m_mostKept)]) (rf_upL A [(10, m_seats)])) H → va_S A0 s.heap H locs → lv_has ls 6 [(0, .ref (a 0)), (1, .int v1), (2, .int v2), (3, .int v3), (4, .int v4), (5, .int v5)] → W p l e ({ frames := 1 + (d + 1), cells := 0, slots := 0, locals := 22 + (d + 1) * 25 }) s m args below meth c H locs 0 0 (rf_QV below args s E A0 (cM E a (rf_upL I [(16, z.1)]) (rf_upL A [(10, z.2)]))) (F0 m 155 ls []) := by
  have hx := hC.1
  have hb := hC.2.1
  intro v1 v2 v3 v4 v5 m_mostKept m_seats hf H locs ls hP hS hl
  unfold f_X11_tryErrands_155 at hf
  refine lv_iinc (v := v5 + 1) (lv' := [(5, .int (v5 + 1)), (0, .ref (a 0)), (1, .int v1), (2, .int v2), (3, .int v3), (4, .int v4)]) hx hb dX11_tryErrands_155 hl (k := 5) rfl rfl (by decide) rfl (fun ls hl => ?_)
  refine lv_goto (tgt := 77) hx hb dX11_tryErrands_158 (by decide) ?_
  exact hk77 v1 v2 v3 v4 (v5 + 1) m_mostKept m_seats hf _ _ _ hP hS (lv_sub hl [1, 2, 3, 4, 5, 0] rfl)
set_option maxHeartbeats 4000000 in
set_option maxRecDepth 100000 in
theorem w_X11_tryErrands_77 {l : Launch} {p : Program} {e : Env} {s : State} {m : MethodId} {args : Array Value} {below : List Frame} {meth : Method} {c : Code} {A0 : Nat → Prop} {E : rf_E} {a : Nat → Nat} {I : Nat → Int32} {A : Nat → Nat → Int32} {m_r : Nat → Int32} {m_can : Nat → Int32} {d : Nat} {z : Int32 × (Nat → Int32)} (hC : rf_C p E s m args meth c cX11_tryErrands 6 RX11 (none) A0) (hD : va_D A0 (cM E a I A)) (e_m_r : A 2 = m_r) (e_m_can : A 7 = m_can) {slf : Int32 → (Nat → Int32) → Int32 → Int32 → Int32 → Option (Int32 × (Nat → Int32))} (hslf : ∀ (a : Nat → Nat) (I : Nat → Int32) (A : Nat → Nat → Int32) (m_mostKept : Int32) (m_seats : Nat → Int32) (v1 : Int32) (v2 : Int32) (v3 : Int32) {z1 : Int32 × (Nat → Int32)} (e_m_r : A 2 = m_r) (e_m_can : A 7 = m_can) (e_m_mostKept : I 16 = m_mostKept) (e_m_seats : A 10 = m_seats), slf m_mostKept m_seats v1 v2 v3 = some z1 → rf_MV l yX11_tryErrands cX11_tryErrands 6 ({ frames := 1 + d, cells := 0, slots := 0, locals := 22 + d * 25 }) E [.ref (a 0), .int v1, .int v2, .int v3] (cM E a I A) (cM E a (rf_upL I [(16, z1.1)]) (rf_upL A [(10, z1.2)]))) {k36 : Int32 → Int32 → Int32 → Int32 → Int32 → (Nat → Int32) → Option (Int32 × (Nat → Int32))} (hk36 : ∀ (v1 : Int32) (v2 : Int32) (v3 : Int32) (v4 : Int32) (m_mostKept : Int32) (m_seats : Nat → Int32), k36 v1 v2 v3 v4 m_mostKept m_seats = some z → ∀ (H : Heap) (locs : List Loc) (ls : Array Slot), va_P (rf_D E) vwCl (cM E a (rf_upL I [(16, m_mostKept)]) (rf_upL A [(10, m_seats)])) H → va_S A0 s.heap H locs → lv_has ls 6 [(0, .ref (a 0)), (1, .int v1), (2, .int v2), (3, .int v3), (4, .int v4)] → W p l e ({ frames := 1 + (d + 1), cells := 0, slots := 0, locals := 22 + (d + 1) * 25 }) s m args below meth c H locs 0 0 (rf_QV below args s E A0 (cM E a (rf_upL I [(16, z.1)]) (rf_upL A [(10, z.2)]))) (F0 m 36 ls [])) :
    ∀ (n : Nat), ∀ (v1 : Int32) (v2 : Int32) (v3 : Int32) (v4 : Int32) (v5 : Int32) (m_mostKept : Int32) (m_seats : Nat → Int32), f_X11_tryErrands_77 k36 slf m_r m_can n v1 v2 v3 v4 v5 m_mostKept m_seats = some z → ∀ (H : Heap) (locs : List Loc) (ls : Array Slot), va_P (rf_D E) vwCl (cM E a (rf_upL I [(16, m_mostKept)]) (rf_upL A [(10, m_seats)])) H → va_S A0 s.heap H locs → lv_has ls 6 [(0, .ref (a 0)), (1, .int v1), (2, .int v2), (3, .int v3), (4, .int v4), (5, .int v5)] → W p l e ({ frames := 1 + (d + 1), cells := 0, slots := 0, locals := 22 + (d + 1) * 25 }) s m args below meth c H locs 0 0 (rf_QV below args s E A0 (cM E a (rf_upL I [(16, z.1)]) (rf_upL A [(10, z.2)]))) (F0 m 77 ls []) := by
  have hx := hC.1
  have hb := hC.2.1
  intro n
  induction n with
  | zero =>
    intro v1 v2 v3 v4 v5 m_mostKept m_seats hf
    have hf : (none : Option (Int32 × (Nat → Int32))) = some z := hf
    cases hf
  | succ n ih =>
    intro v1 v2 v3 v4 v5 m_mostKept m_seats hf H locs ls hP hS hl
    rw [f_X11_tryErrands_77] at hf
    refine lv_iload hx hb dX11_tryErrands_77 (lv_at hl 5 rfl) ?_
    refine lv_iconst (v := 4) hx hb dX11_tryErrands_79 (by decide) ?_
    refine lv_icmp_gt (tgt := 161) hx hb dX11_tryErrands_80 (by decide) (fun c_80 => ?_) (fun c_80 => ?_)
    · have hf := rf_it c_80 hf
      exact w_X11_tryErrands_161 hC hD e_m_r e_m_can hslf hk36 v1 v2 v3 v4 m_mostKept m_seats hf _ _ _ hP hS (lv_sub hl [0, 1, 2, 3, 4] rfl)
    have hf := rf_ie c_80 hf
    refine lv_aload_n hx hb dX11_tryErrands_83 rfl (lv_at hl 0 rfl) ?_
    refine gM_m_seats hC hP tw_1305 dX11_tryErrands_84 ?_
    refine lv_iload hx hb dX11_tryErrands_87 (lv_at hl 5 rfl) ?_
    obtain ⟨hi_89, hf⟩ := rf_gu hf
    refine lM_m_seats hC hP hi_89 (f := m_seats) rfl dX11_tryErrands_89 ?_
    refine lv_if_ne (tgt := 96) hx hb dX11_tryErrands_90 (by decide) (fun c_90 => ?_) (fun c_90 => ?_)
    · have hf := rf_ie c_90 hf
      refine lv_aload_n hx hb dX11_tryErrands_96 rfl (lv_at hl 0 rfl) ?_
      refine gM_m_seats hC hP tw_1305 dX11_tryErrands_97 ?_
      refine lv_iload hx hb dX11_tryErrands_100 (lv_at hl 5 rfl) ?_
      refine lv_dup2_11 hx hb dX11_tryErrands_102 rfl rfl ?_
      obtain ⟨hi_103, hf⟩ := rf_gu hf
      refine lM_m_seats hC hP hi_103 (f := m_seats) rfl dX11_tryErrands_103 ?_
      refine lv_iconst (v := 1) hx hb dX11_tryErrands_104 (by decide) ?_
      refine lv_isub hx hb dX11_tryErrands_105 ?_
      obtain ⟨hi_106, hf⟩ := rf_gu hf
      refine sM_m_seats hC hD hP hS hi_106 (f := m_seats) rfl dX11_tryErrands_106 (rf_upL A [(10, upd m_seats (Int32.toNatClampNeg v5) ((m_seats (Int32.toNatClampNeg v5)) - 1))]) (rf_put rfl) (fun H locs hP hS => ?_)
      refine lv_aload_n hx hb dX11_tryErrands_107 rfl (lv_at hl 0 rfl) ?_
      refine lv_iload_n hx hb dX11_tryErrands_108 rfl (lv_at hl 1 rfl) ?_
      refine lv_iconst (v := 1) hx hb dX11_tryErrands_109 (by decide) ?_
      refine lv_iadd hx hb dX11_tryErrands_110 ?_
      refine lv_iload_n hx hb dX11_tryErrands_111 rfl (lv_at hl 2 rfl) ?_
      refine lv_iconst (v := 1) hx hb dX11_tryErrands_112 (by decide) ?_
      refine lv_iload_n hx hb dX11_tryErrands_113 rfl (lv_at hl 1 rfl) ?_
      refine lv_ishl hx hb dX11_tryErrands_114 ?_
      refine lv_iconst (v := 1) hx hb dX11_tryErrands_115 (by decide) ?_
      refine lv_iload hx hb dX11_tryErrands_116 (lv_at hl 4 rfl) ?_
      refine lv_ishl hx hb dX11_tryErrands_118 ?_
      refine lv_ior hx hb dX11_tryErrands_119 ?_
      refine lv_iconst (v := (-1)) hx hb dX11_tryErrands_120 (by decide) ?_
      refine lv_ixor hx hb dX11_tryErrands_121 ?_
      refine lv_iand hx hb dX11_tryErrands_122 ?_
      refine lv_iload_n hx hb dX11_tryErrands_123 rfl (lv_at hl 3 rfl) ?_
      refine lv_aload_n hx hb dX11_tryErrands_124 rfl (lv_at hl 0 rfl) ?_
      refine lv_iload_n hx hb dX11_tryErrands_125 rfl (lv_at hl 1 rfl) ?_
      refine lv_iload hx hb dX11_tryErrands_126 (lv_at hl 5 rfl) ?_
      obtain ⟨z128, hz128, hf⟩ := rf_bd hf
      refine rf_vi (q0 := 0) (ci := 11) hC (c_X11_isKept l E a (rf_upL I [(16, m_mostKept)]) (rf_upL A [(10, upd m_seats (Int32.toNatClampNeg v5) ((m_seats (Int32.toNatClampNeg v5)) - 1))]) m_r v1 v5 e_m_r hz128) kV_X11_isKept tw_1739 ⟨by show _ ≤ 1 + (d + 1); (try simp only []); omega, by show _ ≤ 22 + (d + 1) * 25; (try simp only []); omega⟩ rfl rfl rfl rfl rfl hP (rf_DM hD) hS rfl hl.1 (rest := [.int v3, .int (v2 &&& ((((1 : Int32) <<< (v1 &&& 31)) ||| ((1 : Int32) <<< (v4 &&& 31))) ^^^ (-1))), .int (v1 + 1), .ref (a 0)]) rfl (Nat.le_of_ble_eq_true rfl) dX11_tryErrands_128 (fun H locs hP hS => ?_)
      refine lv_iadd hx hb dX11_tryErrands_131 ?_
      refine lv_aload_n hx hb dX11_tryErrands_132 rfl (lv_at hl 0 rfl) ?_
      refine lv_iload hx hb dX11_tryErrands_133 (lv_at hl 4 rfl) ?_
      refine lv_iload hx hb dX11_tryErrands_135 (lv_at hl 5 rfl) ?_
      obtain ⟨z137, hz137, hf⟩ := rf_bd hf
      refine rf_vi (q0 := 0) (ci := 11) hC (c_X11_isKept l E a (rf_upL I [(16, m_mostKept)]) (rf_upL A [(10, upd m_seats (Int32.toNatClampNeg v5) ((m_seats (Int32.toNatClampNeg v5)) - 1))]) m_r v4 v5 e_m_r hz137) kV_X11_isKept tw_1739 ⟨by show _ ≤ 1 + (d + 1); (try simp only []); omega, by show _ ≤ 22 + (d + 1) * 25; (try simp only []); omega⟩ rfl rfl rfl rfl rfl hP (rf_DM hD) hS rfl hl.1 (rest := [.int (v3 + z128), .int (v2 &&& ((((1 : Int32) <<< (v1 &&& 31)) ||| ((1 : Int32) <<< (v4 &&& 31))) ^^^ (-1))), .int (v1 + 1), .ref (a 0)]) rfl (Nat.le_of_ble_eq_true rfl) dX11_tryErrands_137 (fun H locs hP hS => ?_)
      refine lv_iadd hx hb dX11_tryErrands_140 ?_
      obtain ⟨z141, hz141, hf⟩ := rf_bd hf
      refine rf_vv (q0 := 0) (ci := 11) hC (hslf a (rf_upL I [(16, m_mostKept)]) (rf_upL A [(10, upd m_seats (Int32.toNatClampNeg v5) ((m_seats (Int32.toNatClampNeg v5)) - 1))]) m_mostKept (upd m_seats (Int32.toNatClampNeg v5) ((m_seats (Int32.toNatClampNeg v5)) - 1)) (v1 + 1) (v2 &&& ((((1 : Int32) <<< (v1 &&& 31)) ||| ((1 : Int32) <<< (v4 &&& 31))) ^^^ (-1))) ((v3 + z128) + z137) e_m_r e_m_can rfl rfl hz141) kV_X11_tryErrands tw_1735 ⟨by show _ ≤ 1 + (d + 1); (try simp only []); omega, by show _ ≤ 22 + (d + 1) * 25; (try simp only []); omega⟩ rfl rfl rfl rfl rfl hP (rf_DM hD) hS rfl hl.1 (rest := []) rfl (Nat.le_of_ble_eq_true rfl) dX11_tryErrands_141 (fun H locs hP hS => ?_)
      rw [rf_cat (f := I) (l := [(16, m_mostKept)]) (lc := [(16, z141.1)]) (l' := [(16, z141.1)]) rfl] at hP
      rw [rf_cat (f := A) (l := [(10, upd m_seats (Int32.toNatClampNeg v5) ((m_seats (Int32.toNatClampNeg v5)) - 1))]) (lc := [(10, z141.2)]) (l' := [(10, z141.2)]) rfl] at hP
      refine lv_aload_n hx hb dX11_tryErrands_144 rfl (lv_at hl 0 rfl) ?_
      refine gM_m_seats hC hP tw_1305 dX11_tryErrands_145 ?_
      refine lv_iload hx hb dX11_tryErrands_148 (lv_at hl 5 rfl) ?_
      refine lv_dup2_11 hx hb dX11_tryErrands_150 rfl rfl ?_
      obtain ⟨hi_151, hf⟩ := rf_gu hf
      refine lM_m_seats hC hP hi_151 (f := z141.2) rfl dX11_tryErrands_151 ?_
      refine lv_iconst (v := 1) hx hb dX11_tryErrands_152 (by decide) ?_
      refine lv_iadd hx hb dX11_tryErrands_153 ?_
      obtain ⟨hi_154, hf⟩ := rf_gu hf
      refine sM_m_seats hC hD hP hS hi_154 (f := z141.2) rfl dX11_tryErrands_154 (rf_upL A [(10, upd z141.2 (Int32.toNatClampNeg v5) ((z141.2 (Int32.toNatClampNeg v5)) + 1))]) (rf_put rfl) (fun H locs hP hS => ?_)
      exact w_X11_tryErrands_155 hC hD e_m_r e_m_can hslf hk36 ih v1 v2 v3 v4 v5 z141.1 (upd z141.2 (Int32.toNatClampNeg v5) ((z141.2 (Int32.toNatClampNeg v5)) + 1)) hf _ _ _ hP hS (lv_sub hl [0, 1, 2, 3, 4, 5] rfl)
    have hf := rf_it c_90 hf
    refine lv_goto (tgt := 155) hx hb dX11_tryErrands_93 (by decide) ?_
    exact w_X11_tryErrands_155 hC hD e_m_r e_m_can hslf hk36 ih v1 v2 v3 v4 v5 m_mostKept m_seats hf _ _ _ hP hS (lv_sub hl [0, 1, 2, 3, 4, 5] rfl)
set_option maxHeartbeats 4000000 in
set_option maxRecDepth 100000 in
theorem w_X11_tryErrands_36 {l : Launch} {p : Program} {e : Env} {s : State} {m : MethodId} {args : Array Value} {below : List Frame} {meth : Method} {c : Code} {A0 : Nat → Prop} {E : rf_E} {a : Nat → Nat} {I : Nat → Int32} {A : Nat → Nat → Int32} {m_r : Nat → Int32} {m_can : Nat → Int32} {d : Nat} {z : Int32 × (Nat → Int32)} (hC : rf_C p E s m args meth c cX11_tryErrands 6 RX11 (none) A0) (hD : va_D A0 (cM E a I A)) (e_m_r : A 2 = m_r) (e_m_can : A 7 = m_can) {slf : Int32 → (Nat → Int32) → Int32 → Int32 → Int32 → Option (Int32 × (Nat → Int32))} (hslf : ∀ (a : Nat → Nat) (I : Nat → Int32) (A : Nat → Nat → Int32) (m_mostKept : Int32) (m_seats : Nat → Int32) (v1 : Int32) (v2 : Int32) (v3 : Int32) {z1 : Int32 × (Nat → Int32)} (e_m_r : A 2 = m_r) (e_m_can : A 7 = m_can) (e_m_mostKept : I 16 = m_mostKept) (e_m_seats : A 10 = m_seats), slf m_mostKept m_seats v1 v2 v3 = some z1 → rf_MV l yX11_tryErrands cX11_tryErrands 6 ({ frames := 1 + d, cells := 0, slots := 0, locals := 22 + d * 25 }) E [.ref (a 0), .int v1, .int v2, .int v3] (cM E a I A) (cM E a (rf_upL I [(16, z1.1)]) (rf_upL A [(10, z1.2)]))) :
    ∀ (n : Nat), ∀ (v1 : Int32) (v2 : Int32) (v3 : Int32) (v4 : Int32) (m_mostKept : Int32) (m_seats : Nat → Int32), f_X11_tryErrands_36 slf m_r m_can n v1 v2 v3 v4 m_mostKept m_seats = some z → ∀ (H : Heap) (locs : List Loc) (ls : Array Slot), va_P (rf_D E) vwCl (cM E a (rf_upL I [(16, m_mostKept)]) (rf_upL A [(10, m_seats)])) H → va_S A0 s.heap H locs → lv_has ls 6 [(0, .ref (a 0)), (1, .int v1), (2, .int v2), (3, .int v3), (4, .int v4)] → W p l e ({ frames := 1 + (d + 1), cells := 0, slots := 0, locals := 22 + (d + 1) * 25 }) s m args below meth c H locs 0 0 (rf_QV below args s E A0 (cM E a (rf_upL I [(16, z.1)]) (rf_upL A [(10, z.2)]))) (F0 m 36 ls []) := by
  have hx := hC.1
  have hb := hC.2.1
  intro n
  induction n with
  | zero =>
    intro v1 v2 v3 v4 m_mostKept m_seats hf
    have hf : (none : Option (Int32 × (Nat → Int32))) = some z := hf
    cases hf
  | succ n ih =>
    intro v1 v2 v3 v4 m_mostKept m_seats hf H locs ls hP hS hl
    rw [f_X11_tryErrands_36] at hf
    refine lv_iload hx hb dX11_tryErrands_36 (lv_at hl 4 rfl) ?_
    refine lv_aload_n hx hb dX11_tryErrands_38 rfl (lv_at hl 0 rfl) ?_
    refine gM_m_r hC hP tw_1294 dX11_tryErrands_39 ?_
    refine lv_iconst (v := 3) hx hb dX11_tryErrands_42 (by decide) ?_
    refine lM_m_r hC hP (by decide) (f := m_r) e_m_r dX11_tryErrands_43 ?_
    refine lv_icmp_ge (tgt := 167) hx hb dX11_tryErrands_44 (by decide) (fun c_44 => ?_) (fun c_44 => ?_)
    · have hf := rf_it c_44 hf
      exact w_X11_tryErrands_167 hC hD e_m_r e_m_can hslf v1 v2 v3 m_mostKept m_seats hf _ _ _ hP hS (lv_sub hl [0, 1, 2, 3] rfl)
    have hf := rf_ie c_44 hf
    refine lv_iload_n hx hb dX11_tryErrands_47 rfl (lv_at hl 2 rfl) ?_
    refine lv_iload_n hx hb dX11_tryErrands_48 rfl (lv_at hl 1 rfl) ?_
    obtain ⟨z49, hz49, hf⟩ := rf_bd hf
    refine rf_si0 hC (c_X11_hasBit l E v2 v1 hz49) kS_X11_hasBit tw_1539 ⟨by show _ ≤ 1 + (d + 1); (try simp only []); omega, by show _ ≤ 22 + (d + 1) * 25; (try simp only []); omega⟩ rfl rfl hP hS rfl hl.1 (rest := []) rfl (Nat.le_of_ble_eq_true rfl) dX11_tryErrands_49 (fun H locs hP hS => ?_)
    refine lv_if_eq (tgt := 167) hx hb dX11_tryErrands_52 (by decide) (fun c_52 => ?_) (fun c_52 => ?_)
    · have hf := rf_it c_52 hf
      exact w_X11_tryErrands_167 hC hD e_m_r e_m_can hslf v1 v2 v3 m_mostKept m_seats hf _ _ _ hP hS (lv_sub hl [0, 1, 2, 3] rfl)
    have hf := rf_ie c_52 hf
    refine lv_iload_n hx hb dX11_tryErrands_55 rfl (lv_at hl 2 rfl) ?_
    refine lv_aload_n hx hb dX11_tryErrands_56 rfl (lv_at hl 0 rfl) ?_
    refine gM_m_can hC hP tw_1301 dX11_tryErrands_57 ?_
    refine lv_iload_n hx hb dX11_tryErrands_60 rfl (lv_at hl 1 rfl) ?_
    obtain ⟨hi_61, hf⟩ := rf_gu hf
    refine lM_m_can hC hP hi_61 (f := m_can) e_m_can dX11_tryErrands_61 ?_
    refine lv_iand hx hb dX11_tryErrands_62 ?_
    refine lv_iload hx hb dX11_tryErrands_63 (lv_at hl 4 rfl) ?_
    obtain ⟨z65, hz65, hf⟩ := rf_bd hf
    refine rf_si0 hC (c_X11_hasBit l E (v2 &&& (m_can (Int32.toNatClampNeg v1))) v4 hz65) kS_X11_hasBit tw_1539 ⟨by show _ ≤ 1 + (d + 1); (try simp only []); omega, by show _ ≤ 22 + (d + 1) * 25; (try simp only []); omega⟩ rfl rfl hP hS rfl hl.1 (rest := []) rfl (Nat.le_of_ble_eq_true rfl) dX11_tryErrands_65 (fun H locs hP hS => ?_)
    refine lv_if_ne (tgt := 74) hx hb dX11_tryErrands_68 (by decide) (fun c_68 => ?_) (fun c_68 => ?_)
    · have hf := rf_ie c_68 hf
      refine lv_iconst (v := 1) hx hb dX11_tryErrands_74 (by decide) ?_
      refine lv_istore (lv' := [(5, .int 1), (0, .ref (a 0)), (1, .int v1), (2, .int v2), (3, .int v3), (4, .int v4)]) hx hb dX11_tryErrands_75 hl (by decide) rfl (fun ls hl => ?_)
      exact w_X11_tryErrands_77 hC hD e_m_r e_m_can hslf ih rf_fu v1 v2 v3 v4 1 m_mostKept m_seats hf _ _ _ hP hS (lv_sub hl [1, 2, 3, 4, 5, 0] rfl)
    have hf := rf_it c_68 hf
    refine lv_goto (tgt := 161) hx hb dX11_tryErrands_71 (by decide) ?_
    exact w_X11_tryErrands_161 hC hD e_m_r e_m_can hslf ih v1 v2 v3 v4 m_mostKept m_seats hf _ _ _ hP hS (lv_sub hl [0, 1, 2, 3, 4] rfl)
set_option maxHeartbeats 4000000 in
set_option maxRecDepth 100000 in
theorem w_X11_tryErrands_27 {l : Launch} {p : Program} {e : Env} {s : State} {m : MethodId} {args : Array Value} {below : List Frame} {meth : Method} {c : Code} {A0 : Nat → Prop} {E : rf_E} {a : Nat → Nat} {I : Nat → Int32} {A : Nat → Nat → Int32} {m_r : Nat → Int32} {m_can : Nat → Int32} {d : Nat} {z : Int32 × (Nat → Int32)} (hC : rf_C p E s m args meth c cX11_tryErrands 6 RX11 (none) A0) (hD : va_D A0 (cM E a I A)) (e_m_r : A 2 = m_r) (e_m_can : A 7 = m_can) {slf : Int32 → (Nat → Int32) → Int32 → Int32 → Int32 → Option (Int32 × (Nat → Int32))} (hslf : ∀ (a : Nat → Nat) (I : Nat → Int32) (A : Nat → Nat → Int32) (m_mostKept : Int32) (m_seats : Nat → Int32) (v1 : Int32) (v2 : Int32) (v3 : Int32) {z1 : Int32 × (Nat → Int32)} (e_m_r : A 2 = m_r) (e_m_can : A 7 = m_can) (e_m_mostKept : I 16 = m_mostKept) (e_m_seats : A 10 = m_seats), slf m_mostKept m_seats v1 v2 v3 = some z1 → rf_MV l yX11_tryErrands cX11_tryErrands 6 ({ frames := 1 + d, cells := 0, slots := 0, locals := 22 + d * 25 }) E [.ref (a 0), .int v1, .int v2, .int v3] (cM E a I A) (cM E a (rf_upL I [(16, z1.1)]) (rf_upL A [(10, z1.2)]))) :
    ∀ (s1 : Int32) (m_mostKept : Int32) (m_seats : Nat → Int32), f_X11_tryErrands_27 slf m_r m_can s1 m_mostKept m_seats = some z → ∀ (H : Heap) (locs : List Loc) (ls : Array Slot), va_P (rf_D E) vwCl (cM E a (rf_upL I [(16, m_mostKept)]) (rf_upL A [(10, m_seats)])) H → va_S A0 s.heap H locs → lv_has ls 6 [] → W p l e ({ frames := 1 + (d + 1), cells := 0, slots := 0, locals := 22 + (d + 1) * 25 }) s m args below meth c H locs 0 0 (rf_QV below args s E A0 (cM E a (rf_upL I [(16, z.1)]) (rf_upL A [(10, z.2)]))) (F0 m 27 ls [.int s1, .ref (a 0)]) := by
  have hx := hC.1
  have hb := hC.2.1
  intro s1 m_mostKept m_seats hf H locs ls hP hS hl
  unfold f_X11_tryErrands_27 at hf
  refine pM_m_mostKept hC hD hP hS tw_1306 dX11_tryErrands_27 (rf_upL I [(16, s1)]) (rf_put rfl) (fun H locs hP hS => ?_)
  obtain rfl := Option.some.inj hf
  exact rf_retv hC hP hS rfl dX11_tryErrands_30
set_option maxHeartbeats 4000000 in
set_option maxRecDepth 100000 in
theorem c_X11_tryErrands (l : Launch) (E : rf_E) : ∀ (d : Nat) (a : Nat → Nat) (I : Nat → Int32) (A : Nat → Nat → Int32) (m_r : Nat → Int32) (m_can : Nat → Int32) (m_mostKept : Int32) (m_seats : Nat → Int32) (v1 : Int32) (v2 : Int32) (v3 : Int32) {z : Int32 × (Nat → Int32)} (e_m_r : A 2 = m_r) (e_m_can : A 7 = m_can) (e_m_mostKept : I 16 = m_mostKept) (e_m_seats : A 10 = m_seats) (hf : f_X11_tryErrands m_r m_can d m_mostKept m_seats v1 v2 v3 = some z), rf_MV l yX11_tryErrands cX11_tryErrands 6 ({ frames := 1 + d, cells := 0, slots := 0, locals := 22 + d * 25 }) E [.ref (a 0), .int v1, .int v2, .int v3] (cM E a I A) (cM E a (rf_upL I [(16, z.1)]) (rf_upL A [(10, z.2)])) := by
  intro d
  induction d with
  | zero =>
    intro a I A m_r m_can m_mostKept m_seats v1 v2 v3 z e_m_r e_m_can e_m_mostKept e_m_seats hf
    have hf : (none : Option (Int32 × (Nat → Int32))) = some z := hf
    cases hf
  | succ d ih =>
    intro a I A m_r m_can m_mostKept m_seats v1 v2 v3 z e_m_r e_m_can e_m_mostKept e_m_seats hf
    rw [f_X11_tryErrands] at hf
    have hslf : ∀ (a : Nat → Nat) (I : Nat → Int32) (A : Nat → Nat → Int32) (m_mostKept : Int32) (m_seats : Nat → Int32) (v1 : Int32) (v2 : Int32) (v3 : Int32) {z1 : Int32 × (Nat → Int32)} (e_m_r : A 2 = m_r) (e_m_can : A 7 = m_can) (e_m_mostKept : I 16 = m_mostKept) (e_m_seats : A 10 = m_seats), (f_X11_tryErrands m_r m_can d) m_mostKept m_seats v1 v2 v3 = some z1 → rf_MV l yX11_tryErrands cX11_tryErrands 6 ({ frames := 1 + d, cells := 0, slots := 0, locals := 22 + d * 25 }) E [.ref (a 0), .int v1, .int v2, .int v3] (cM E a I A) (cM E a (rf_upL I [(16, z1.1)]) (rf_upL A [(10, z1.2)])) := fun a I A m_mostKept m_seats v1 v2 v3 _ e_m_r e_m_can e_m_mostKept e_m_seats h => ih a I A m_r m_can m_mostKept m_seats v1 v2 v3 e_m_r e_m_can e_m_mostKept e_m_seats h
    refine rf_ofV (by decide) (Nat.le_of_ble_eq_true rfl) ?_
    intro p e s m below meth c A0 ls hC hD hP hS hl
    have hC : rf_C p E s m _ meth c cX11_tryErrands 6 RX11 (none) A0 := hC
    have hx := hC.1
    have hb := hC.2.1
    have hl : lv_has ls 6 [(0, .ref (a 0)), (1, .int v1), (2, .int v2), (3, .int v3)] := hl
    have hP : va_P (rf_D E) vwCl (cM E a (rf_upL I [(16, m_mostKept)]) (rf_upL A [(10, m_seats)])) s.heap := by
      rw [rf_self (f := I) [(16, m_mostKept)] (rf_fa1 e_m_mostKept rf_fa0)]
      rw [rf_self (f := A) [(10, m_seats)] (rf_fa1 e_m_seats rf_fa0)]
      exact hP
    refine lv_iload_n hx hb dX11_tryErrands_0 rfl (lv_at hl 1 rfl) ?_
    refine lv_aload_n hx hb dX11_tryErrands_1 rfl (lv_at hl 0 rfl) ?_
    refine gM_m_r hC hP tw_1294 dX11_tryErrands_2 ?_
    refine lv_iconst (v := 3) hx hb dX11_tryErrands_5 (by decide) ?_
    refine lM_m_r hC hP (by decide) (f := m_r) e_m_r dX11_tryErrands_6 ?_
    refine lv_icmp_ne (tgt := 31) hx hb dX11_tryErrands_7 (by decide) (fun c_7 => ?_) (fun c_7 => ?_)
    · have hf := rf_ie c_7 hf
      refine lv_iload_n hx hb dX11_tryErrands_31 rfl (lv_at hl 1 rfl) ?_
      refine lv_iconst (v := 1) hx hb dX11_tryErrands_32 (by decide) ?_
      refine lv_iadd hx hb dX11_tryErrands_33 ?_
      refine lv_istore (lv' := [(4, .int (v1 + 1)), (0, .ref (a 0)), (1, .int v1), (2, .int v2), (3, .int v3)]) hx hb dX11_tryErrands_34 hl (by decide) rfl (fun ls hl => ?_)
      exact w_X11_tryErrands_36 hC hD e_m_r e_m_can hslf rf_fu v1 v2 v3 (v1 + 1) m_mostKept m_seats hf _ _ _ hP hS (lv_sub hl [1, 2, 3, 4, 0] rfl)
    have hf := rf_it c_7 hf
    refine lv_aload_n hx hb dX11_tryErrands_10 rfl (lv_at hl 0 rfl) ?_
    refine lv_iload_n hx hb dX11_tryErrands_11 rfl (lv_at hl 3 rfl) ?_
    refine lv_aload_n hx hb dX11_tryErrands_12 rfl (lv_at hl 0 rfl) ?_
    refine gM_m_mostKept hC hP tw_1306 (v := m_mostKept) rfl dX11_tryErrands_13 ?_
    refine lv_icmp_le (tgt := 23) hx hb dX11_tryErrands_16 (by decide) (fun c_16 => ?_) (fun c_16 => ?_)
    · have hf := rf_it c_16 hf
      refine lv_aload_n hx hb dX11_tryErrands_23 rfl (lv_at hl 0 rfl) ?_
      refine gM_m_mostKept hC hP tw_1306 (v := m_mostKept) rfl dX11_tryErrands_24 ?_
      exact w_X11_tryErrands_27 hC hD e_m_r e_m_can hslf m_mostKept m_mostKept m_seats hf _ _ _ hP hS (lv_sub hl [] rfl)
    have hf := rf_ie c_16 hf
    refine lv_iload_n hx hb dX11_tryErrands_19 rfl (lv_at hl 3 rfl) ?_
    refine lv_goto (tgt := 27) hx hb dX11_tryErrands_20 (by decide) ?_
    exact w_X11_tryErrands_27 hC hD e_m_r e_m_can hslf v3 m_mostKept m_seats hf _ _ _ hP hS (lv_sub hl [] rfl)
set_option maxHeartbeats 4000000 in
set_option maxRecDepth 100000 in
theorem w_X11_kept_43 {l : Launch} {p : Program} {e : Env} {s : State} {m : MethodId} {args : Array Value} {below : List Frame} {meth : Method} {c : Code} {A0 : Nat → Prop} {E : rf_E} {a : Nat → Nat} {I : Nat → Int32} {A : Nat → Nat → Int32} {m_hasFerry : Int32} {m_r : Nat → Int32} {m_st : Nat → Int32} {z : Int32 × Int32 × Int32 × Int32 × (Nat → Int32) × (Nat → Int32)} (hC : rf_C p E s m args meth c cX11_kept 5 RX11 (some .int) A0) (hD : va_D A0 (cM E a I A)) (e_m_hasFerry : I 12 = m_hasFerry) (e_m_r : A 2 = m_r) (e_m_st : A 4 = m_st) :
    ∀ (n : Nat), ∀ (v3 : Int32) (v4 : Int32) (m_thrown : Int32) (m_trouble : Int32) (m_mostKept : Int32) (m_can : Nat → Int32) (m_seats : Nat → Int32), f_X11_kept_43 m_hasFerry m_r m_st n v3 v4 m_thrown m_trouble m_mostKept m_can m_seats = some z → ∀ (H : Heap) (locs : List Loc) (ls : Array Slot), va_P (rf_D E) vwCl (cM E a (rf_upL I [(0, m_thrown), (10, m_trouble), (16, m_mostKept)]) (rf_upL A [(7, m_can), (10, m_seats)])) H → va_S A0 s.heap H locs → lv_has ls 5 [(0, .ref (a 0)), (3, .int v3), (4, .int v4)] → W p l e ({ frames := 14, cells := 0, slots := 0, locals := 347 }) s m args below meth c H locs 0 0 (rf_QI below args s E A0 z.1 (cM E a (rf_upL I [(0, z.2.1), (10, z.2.2.1), (16, z.2.2.2.1)]) (rf_upL A [(7, z.2.2.2.2.1), (10, z.2.2.2.2.2)]))) (F0 m 43 ls []) := by
  have hx := hC.1
  have hb := hC.2.1
  intro n
  induction n with
  | zero =>
    intro v3 v4 m_thrown m_trouble m_mostKept m_can m_seats hf
    have hf : (none : Option (Int32 × Int32 × Int32 × Int32 × (Nat → Int32) × (Nat → Int32))) = some z := hf
    cases hf
  | succ n ih =>
    intro v3 v4 m_thrown m_trouble m_mostKept m_can m_seats hf H locs ls hP hS hl
    rw [f_X11_kept_43] at hf
    refine lv_iload hx hb dX11_kept_43 (lv_at hl 2 rfl) ?_
    refine lv_iconst (v := 4) hx hb dX11_kept_45 (by decide) ?_
    refine lv_icmp_gt (tgt := 68) hx hb dX11_kept_46 (by decide) (fun c_46 => ?_) (fun c_46 => ?_)
    · have hf := rf_it c_46 hf
      refine lv_aload_n hx hb dX11_kept_68 rfl (lv_at hl 0 rfl) ?_
      refine lv_iconst (v := 0) hx hb dX11_kept_69 (by decide) ?_
      refine pM_m_mostKept hC hD hP hS tw_1306 dX11_kept_70 (rf_upL I [(0, m_thrown), (10, m_trouble), (16, 0)]) (rf_put rfl) (fun H locs hP hS => ?_)
      refine lv_aload_n hx hb dX11_kept_73 rfl (lv_at hl 0 rfl) ?_
      refine lv_iconst (v := 0) hx hb dX11_kept_74 (by decide) ?_
      refine lv_iload_n hx hb dX11_kept_75 rfl (lv_at hl 1 rfl) ?_
      refine lv_iconst (v := 0) hx hb dX11_kept_76 (by decide) ?_
      obtain ⟨z77, hz77, hf⟩ := rf_bd hf
      refine rf_vv (q0 := 0) (ci := 11) hC (c_X11_tryErrands l E 12 a (rf_upL I [(0, m_thrown), (10, m_trouble), (16, 0)]) (rf_upL A [(7, m_can), (10, m_seats)]) m_r m_can 0 m_seats 0 v3 0 e_m_r rfl rfl rfl hz77) kV_X11_tryErrands tw_1735 ⟨Nat.le_of_ble_eq_true rfl, Nat.le_of_ble_eq_true rfl⟩ rfl rfl rfl rfl rfl hP (rf_DM hD) hS rfl hl.1 (rest := []) rfl (Nat.le_of_ble_eq_true rfl) dX11_kept_77 (fun H locs hP hS => ?_)
      rw [rf_cat (f := I) (l := [(0, m_thrown), (10, m_trouble), (16, 0)]) (lc := [(16, z77.1)]) (l' := [(0, m_thrown), (10, m_trouble), (16, z77.1)]) rfl] at hP
      rw [rf_cat (f := A) (l := [(7, m_can), (10, m_seats)]) (lc := [(10, z77.2)]) (l' := [(7, m_can), (10, z77.2)]) rfl] at hP
      refine lv_aload_n hx hb dX11_kept_80 rfl (lv_at hl 0 rfl) ?_
      refine gM_m_mostKept hC hP tw_1306 (v := z77.1) rfl dX11_kept_81 ?_
      obtain rfl := Option.some.inj hf
      exact rf_reti hC hP hS rfl rfl dX11_kept_84
    have hf := rf_ie c_46 hf
    refine lv_aload_n hx hb dX11_kept_49 rfl (lv_at hl 0 rfl) ?_
    refine gM_m_seats hC hP tw_1305 dX11_kept_50 ?_
    refine lv_iload hx hb dX11_kept_53 (lv_at hl 2 rfl) ?_
    refine lv_aload_n hx hb dX11_kept_55 rfl (lv_at hl 0 rfl) ?_
    refine gM_m_r hC hP tw_1294 dX11_kept_56 ?_
    refine lv_iconst (v := 1) hx hb dX11_kept_59 (by decide) ?_
    refine lM_m_r hC hP (by decide) (f := m_r) e_m_r dX11_kept_60 ?_
    obtain ⟨hi_61, hf⟩ := rf_gu hf
    refine sM_m_seats hC hD hP hS hi_61 (f := m_seats) rfl dX11_kept_61 (rf_upL A [(7, m_can), (10, upd m_seats (Int32.toNatClampNeg v4) (m_r (Int32.toNatClampNeg 1)))]) (rf_put rfl) (fun H locs hP hS => ?_)
    refine lv_iinc (v := v4 + 1) (lv' := [(4, .int (v4 + 1)), (0, .ref (a 0)), (3, .int v3)]) hx hb dX11_kept_62 hl (k := 2) rfl rfl (by decide) rfl (fun ls hl => ?_)
    refine lv_goto (tgt := 43) hx hb dX11_kept_65 (by decide) ?_
    exact ih v3 (v4 + 1) m_thrown m_trouble m_mostKept m_can (upd m_seats (Int32.toNatClampNeg v4) (m_r (Int32.toNatClampNeg 1))) hf _ _ _ hP hS (lv_sub hl [1, 2, 0] rfl)
set_option maxHeartbeats 4000000 in
set_option maxRecDepth 100000 in
theorem c_X11_kept (l : Launch) (E : rf_E) (a : Nat → Nat) (I : Nat → Int32) (A : Nat → Nat → Int32) (m_hasFerry : Int32) (m_r : Nat → Int32) (m_st : Nat → Int32) (m_thrown : Int32) (m_trouble : Int32) (m_mostKept : Int32) (m_can : Nat → Int32) (m_seats : Nat → Int32) (v1 : Int32) {z : Int32 × Int32 × Int32 × Int32 × (Nat → Int32) × (Nat → Int32)} (e_m_hasFerry : I 12 = m_hasFerry) (e_m_r : A 2 = m_r) (e_m_st : A 4 = m_st) (e_m_thrown : I 0 = m_thrown) (e_m_trouble : I 10 = m_trouble) (e_m_mostKept : I 16 = m_mostKept) (e_m_can : A 7 = m_can) (e_m_seats : A 10 = m_seats) (hf : f_X11_kept m_hasFerry m_r m_st m_thrown m_trouble m_mostKept m_can m_seats v1 = some z) : rf_MI l yX11_kept cX11_kept 5 (some .int) ({ frames := 14, cells := 0, slots := 0, locals := 347 }) E [.ref (a 0), .int v1] (cM E a I A) z.1 (cM E a (rf_upL I [(0, z.2.1), (10, z.2.2.1), (16, z.2.2.2.1)]) (rf_upL A [(7, z.2.2.2.2.1), (10, z.2.2.2.2.2)])) := by
  unfold f_X11_kept at hf
  refine rf_ofI (by decide) (Nat.le_of_ble_eq_true rfl) ?_
  intro p e s m below meth c A0 ls hC hD hP hS hl
  have hC : rf_C p E s m _ meth c cX11_kept 5 RX11 (some .int) A0 := hC
  have hx := hC.1
  have hb := hC.2.1
  have hl : lv_has ls 5 [(0, .ref (a 0)), (1, .int v1)] := hl
  have hP : va_P (rf_D E) vwCl (cM E a (rf_upL I [(0, m_thrown), (10, m_trouble), (16, m_mostKept)]) (rf_upL A [(7, m_can), (10, m_seats)])) s.heap := by
    rw [rf_self (f := I) [(0, m_thrown), (10, m_trouble), (16, m_mostKept)] (rf_fa1 e_m_thrown (rf_fa1 e_m_trouble (rf_fa1 e_m_mostKept rf_fa0)))]
    rw [rf_self (f := A) [(7, m_can), (10, m_seats)] (rf_fa1 e_m_can (rf_fa1 e_m_seats rf_fa0))]
    exact hP
  refine lv_aload_n hx hb dX11_kept_0 rfl (lv_at hl 0 rfl) ?_
  obtain ⟨z1, hz1, hf⟩ := rf_bd hf
  refine rf_vv (q0 := 0) (ci := 11) hC (c_X11_good l E a (rf_upL I [(0, m_thrown), (10, m_trouble), (16, m_mostKept)]) (rf_upL A [(7, m_can), (10, m_seats)]) m_thrown m_trouble rfl rfl hz1) kV_X11_good tw_1403 ⟨Nat.le_of_ble_eq_true rfl, Nat.le_of_ble_eq_true rfl⟩ rfl rfl rfl rfl rfl hP (rf_DM hD) hS rfl hl.1 (rest := []) rfl (Nat.le_of_ble_eq_true rfl) dX11_kept_1 (fun H locs hP hS => ?_)
  rw [rf_cat (f := I) (l := [(0, m_thrown), (10, m_trouble), (16, m_mostKept)]) (lc := [(0, z1.1), (10, z1.2)]) (l' := [(0, z1.1), (10, z1.2), (16, m_mostKept)]) rfl] at hP
  refine lv_aload_n hx hb dX11_kept_4 rfl (lv_at hl 0 rfl) ?_
  refine lv_aload_n hx hb dX11_kept_5 rfl (lv_at hl 0 rfl) ?_
  refine gM_m_hasFerry hC hP tw_1293 (v := m_hasFerry) e_m_hasFerry dX11_kept_6 ?_
  refine lv_iload_n hx hb dX11_kept_9 rfl (lv_at hl 1 rfl) ?_
  obtain ⟨z10, hz10, hf⟩ := rf_bd hf
  refine rf_vi (q0 := 0) (ci := 11) hC (c_X11_why l E a (rf_upL I [(0, z1.1), (10, z1.2), (16, m_mostKept)]) (rf_upL A [(7, m_can), (10, m_seats)]) m_hasFerry v1 hz10) kV_X11_why tw_1617 ⟨Nat.le_of_ble_eq_true rfl, Nat.le_of_ble_eq_true rfl⟩ rfl rfl rfl rfl rfl hP (rf_DM hD) hS rfl hl.1 (rest := []) rfl (Nat.le_of_ble_eq_true rfl) dX11_kept_10 (fun H locs hP hS => ?_)
  refine lv_istore_n (lv' := [(2, .int z10), (0, .ref (a 0)), (1, .int v1)]) hx hb dX11_kept_13 rfl hl (by decide) rfl (fun ls hl => ?_)
  refine lv_iload_n hx hb dX11_kept_14 rfl (lv_at hl 0 rfl) ?_
  refine lv_if_eq (tgt := 24) hx hb dX11_kept_15 (by decide) (fun c_15 => ?_) (fun c_15 => ?_)
  · have hf := rf_it c_15 hf
    refine lv_aload_n hx hb dX11_kept_24 rfl (lv_at hl 1 rfl) ?_
    refine lv_iconst (v := 0) hx hb dX11_kept_25 (by decide) ?_
    obtain ⟨z26, hz26, hf⟩ := rf_bd hf
    refine rf_vi (q0 := 0) (ci := 11) hC (c_X11_onBank l E a (rf_upL I [(0, z1.1), (10, z1.2), (16, m_mostKept)]) (rf_upL A [(7, m_can), (10, m_seats)]) m_r m_st 0 e_m_r e_m_st hz26) kV_X11_onBank tw_1691 ⟨Nat.le_of_ble_eq_true rfl, Nat.le_of_ble_eq_true rfl⟩ rfl rfl rfl rfl rfl hP (rf_DM hD) hS rfl hl.1 (rest := []) rfl (Nat.le_of_ble_eq_true rfl) dX11_kept_26 (fun H locs hP hS => ?_)
    refine lv_istore_n (lv' := [(3, .int z26), (2, .int z10), (0, .ref (a 0)), (1, .int v1)]) hx hb dX11_kept_29 rfl hl (by decide) rfl (fun ls hl => ?_)
    refine lv_aload_n hx hb dX11_kept_30 rfl (lv_at hl 2 rfl) ?_
    refine lv_iload_n hx hb dX11_kept_31 rfl (lv_at hl 0 rfl) ?_
    refine lv_aload_n hx hb dX11_kept_32 rfl (lv_at hl 2 rfl) ?_
    refine lv_iload_n hx hb dX11_kept_33 rfl (lv_at hl 3 rfl) ?_
    obtain ⟨z34, hz34, hf⟩ := rf_bd hf
    refine rf_vi (q0 := 0) (ci := 11) hC (c_X11_earAt l E a (rf_upL I [(0, z1.1), (10, z1.2), (16, m_mostKept)]) (rf_upL A [(7, m_can), (10, m_seats)]) m_r v1 e_m_r hz34) kV_X11_earAt tw_1624 ⟨Nat.le_of_ble_eq_true rfl, Nat.le_of_ble_eq_true rfl⟩ rfl rfl rfl rfl rfl hP (rf_DM hD) hS rfl hl.1 (rest := [.int z26, .ref (a 0)]) rfl (Nat.le_of_ble_eq_true rfl) dX11_kept_34 (fun H locs hP hS => ?_)
    obtain ⟨z37, hz37, hf⟩ := rf_bd hf
    refine rf_vv (q0 := 0) (ci := 11) hC (c_X11_layCan l E a (rf_upL I [(0, z1.1), (10, z1.2), (16, m_mostKept)]) (rf_upL A [(7, m_can), (10, m_seats)]) m_r m_st m_can z26 z34 e_m_r e_m_st rfl hz37) kV_X11_layCan tw_1711 ⟨Nat.le_of_ble_eq_true rfl, Nat.le_of_ble_eq_true rfl⟩ rfl rfl rfl rfl rfl hP (rf_DM hD) hS rfl hl.1 (rest := []) rfl (Nat.le_of_ble_eq_true rfl) dX11_kept_37 (fun H locs hP hS => ?_)
    rw [rf_cat (f := A) (l := [(7, m_can), (10, m_seats)]) (lc := [(7, z37)]) (l' := [(7, z37), (10, m_seats)]) rfl] at hP
    refine lv_iconst (v := 1) hx hb dX11_kept_40 (by decide) ?_
    refine lv_istore (lv' := [(4, .int 1), (3, .int z26), (2, .int z10), (0, .ref (a 0)), (1, .int v1)]) hx hb dX11_kept_41 hl (by decide) rfl (fun ls hl => ?_)
    exact w_X11_kept_43 hC hD e_m_hasFerry e_m_r e_m_st rf_fu z26 1 z1.1 z1.2 m_mostKept z37 m_seats hf _ _ _ hP hS (lv_sub hl [3, 1, 0] rfl)
  have hf := rf_ie c_15 hf
  refine lv_aload_n hx hb dX11_kept_18 rfl (lv_at hl 1 rfl) ?_
  refine lv_iload_n hx hb dX11_kept_19 rfl (lv_at hl 0 rfl) ?_
  obtain ⟨z20, hz20, hf⟩ := rf_bd hf
  refine rf_vi (q0 := 0) (ci := 11) hC (c_X11_no l E a (rf_upL I [(0, z1.1), (10, z1.2), (16, m_mostKept)]) (rf_upL A [(7, m_can), (10, m_seats)]) z1.2 z10 rfl hz20) kV_X11_no tw_1410 ⟨Nat.le_of_ble_eq_true rfl, Nat.le_of_ble_eq_true rfl⟩ rfl rfl rfl rfl rfl hP (rf_DM hD) hS rfl hl.1 (rest := []) rfl (Nat.le_of_ble_eq_true rfl) dX11_kept_20 (fun H locs hP hS => ?_)
  rw [rf_cat (f := I) (l := [(0, z1.1), (10, z1.2), (16, m_mostKept)]) (lc := [(10, z20.2)]) (l' := [(0, z1.1), (10, z20.2), (16, m_mostKept)]) rfl] at hP
  obtain rfl := Option.some.inj hf
  exact rf_reti hC hP hS rfl rfl dX11_kept_23
set_option maxHeartbeats 4000000 in
set_option maxRecDepth 100000 in
theorem w_X11_wrongGot_2 {l : Launch} {p : Program} {e : Env} {s : State} {m : MethodId} {args : Array Value} {below : List Frame} {meth : Method} {c : Code} {A0 : Nat → Prop} {E : rf_E} {a : Nat → Nat} {I : Nat → Int32} {A : Nat → Nat → Int32} {m_r : Nat → Int32} {m_st : Nat → Int32} {z : Int32} (hC : rf_C p E s m args meth c cX11_wrongGot 3 RX11 (some .int) A0) (hD : va_D A0 (cM E a I A)) (e_m_r : A 2 = m_r) (e_m_st : A 4 = m_st) :
    ∀ (n : Nat), ∀ (v1 : Int32) (v2 : Int32), f_X11_wrongGot_2 m_r m_st n v1 v2 = some z → ∀ (H : Heap) (locs : List Loc) (ls : Array Slot), va_P (rf_D E) vwCl (cM E a I A) H → va_S A0 s.heap H locs → lv_has ls 3 [(0, .ref (a 0)), (1, .int v1), (2, .int v2)] → W p l e ({ frames := 4, cells := 0, slots := 0, locals := 100 }) s m args below meth c H locs 0 0 (rf_QI below args s E A0 z (cM E a I A)) (F0 m 2 ls []) := by
  have hx := hC.1
  have hb := hC.2.1
  intro n
  induction n with
  | zero =>
    intro v1 v2 hf
    have hf : (none : Option (Int32)) = some z := hf
    cases hf
  | succ n ih =>
    intro v1 v2 hf H locs ls hP hS hl
    rw [f_X11_wrongGot_2] at hf
    refine lv_iload_n hx hb dX11_wrongGot_2 rfl (lv_at hl 2 rfl) ?_
    refine lv_aload_n hx hb dX11_wrongGot_3 rfl (lv_at hl 0 rfl) ?_
    refine gM_m_r hC hP tw_1294 dX11_wrongGot_4 ?_
    refine lv_bipush (v := 7) hx hb dX11_wrongGot_7 (by decide) ?_
    refine lM_m_r hC hP (by decide) (f := m_r) e_m_r dX11_wrongGot_9 ?_
    refine lv_icmp_ge (tgt := 69) hx hb dX11_wrongGot_10 (by decide) (fun c_10 => ?_) (fun c_10 => ?_)
    · have hf := rf_it c_10 hf
      refine lv_bipush (v := (-2)) hx hb dX11_wrongGot_69 (by decide) ?_
      obtain rfl := Option.some.inj hf
      exact rf_reti hC hP hS rfl rfl dX11_wrongGot_71
    have hf := rf_ie c_10 hf
    refine lv_aload_n hx hb dX11_wrongGot_13 rfl (lv_at hl 0 rfl) ?_
    refine lv_aload_n hx hb dX11_wrongGot_14 rfl (lv_at hl 0 rfl) ?_
    refine gM_m_r hC hP tw_1294 dX11_wrongGot_15 ?_
    refine lv_sipush (v := 153) hx hb dX11_wrongGot_18 (by decide) ?_
    refine lv_iconst (v := 3) hx hb dX11_wrongGot_21 (by decide) ?_
    refine lv_iload_n hx hb dX11_wrongGot_22 rfl (lv_at hl 2 rfl) ?_
    refine lv_imul hx hb dX11_wrongGot_23 ?_
    refine lv_iadd hx hb dX11_wrongGot_24 ?_
    obtain ⟨hi_25, hf⟩ := rf_gu hf
    refine lM_m_r hC hP hi_25 (f := m_r) e_m_r dX11_wrongGot_25 ?_
    refine lv_aload_n hx hb dX11_wrongGot_26 rfl (lv_at hl 0 rfl) ?_
    refine gM_m_r hC hP tw_1294 dX11_wrongGot_27 ?_
    refine lv_sipush (v := 153) hx hb dX11_wrongGot_30 (by decide) ?_
    refine lv_iconst (v := 3) hx hb dX11_wrongGot_33 (by decide) ?_
    refine lv_iload_n hx hb dX11_wrongGot_34 rfl (lv_at hl 2 rfl) ?_
    refine lv_imul hx hb dX11_wrongGot_35 ?_
    refine lv_iadd hx hb dX11_wrongGot_36 ?_
    refine lv_iconst (v := 1) hx hb dX11_wrongGot_37 (by decide) ?_
    refine lv_iadd hx hb dX11_wrongGot_38 ?_
    obtain ⟨hi_39, hf⟩ := rf_gu hf
    refine lM_m_r hC hP hi_39 (f := m_r) e_m_r dX11_wrongGot_39 ?_
    refine lv_iload_n hx hb dX11_wrongGot_40 rfl (lv_at hl 1 rfl) ?_
    obtain ⟨z41, hz41, hf⟩ := rf_bd hf
    refine rf_vi (q0 := 0) (ci := 11) hC (c_X11_rhymeNow l E a I A m_r m_st (m_r (Int32.toNatClampNeg ((153 : Int32) + ((3 : Int32) * v2)))) (m_r (Int32.toNatClampNeg (((153 : Int32) + ((3 : Int32) * v2)) + 1))) v1 e_m_r e_m_st hz41) kV_X11_rhymeNow tw_1636 ⟨Nat.le_of_ble_eq_true rfl, Nat.le_of_ble_eq_true rfl⟩ rfl rfl rfl rfl rfl hP (rf_DM hD) hS rfl hl.1 (rest := []) rfl (Nat.le_of_ble_eq_true rfl) dX11_wrongGot_41 (fun H locs hP hS => ?_)
    refine lv_aload_n hx hb dX11_wrongGot_44 rfl (lv_at hl 0 rfl) ?_
    refine gM_m_r hC hP tw_1294 dX11_wrongGot_45 ?_
    refine lv_sipush (v := 153) hx hb dX11_wrongGot_48 (by decide) ?_
    refine lv_iconst (v := 3) hx hb dX11_wrongGot_51 (by decide) ?_
    refine lv_iload_n hx hb dX11_wrongGot_52 rfl (lv_at hl 2 rfl) ?_
    refine lv_imul hx hb dX11_wrongGot_53 ?_
    refine lv_iadd hx hb dX11_wrongGot_54 ?_
    refine lv_iconst (v := 2) hx hb dX11_wrongGot_55 (by decide) ?_
    refine lv_iadd hx hb dX11_wrongGot_56 ?_
    obtain ⟨hi_57, hf⟩ := rf_gu hf
    refine lM_m_r hC hP hi_57 (f := m_r) e_m_r dX11_wrongGot_57 ?_
    refine lv_icmp_eq (tgt := 63) hx hb dX11_wrongGot_58 (by decide) (fun c_58 => ?_) (fun c_58 => ?_)
    · have hf := rf_it c_58 hf
      refine lv_iinc (v := v2 + 1) (lv' := [(2, .int (v2 + 1)), (0, .ref (a 0)), (1, .int v1)]) hx hb dX11_wrongGot_63 hl (k := 2) rfl rfl (by decide) rfl (fun ls hl => ?_)
      refine lv_goto (tgt := 2) hx hb dX11_wrongGot_66 (by decide) ?_
      exact ih v1 (v2 + 1) hf _ _ _ hP hS (lv_sub hl [1, 2, 0] rfl)
    have hf := rf_ie c_58 hf
    refine lv_iload_n hx hb dX11_wrongGot_61 rfl (lv_at hl 2 rfl) ?_
    obtain rfl := Option.some.inj hf
    exact rf_reti hC hP hS rfl rfl dX11_wrongGot_62
set_option maxHeartbeats 4000000 in
set_option maxRecDepth 100000 in
theorem c_X11_wrongGot (l : Launch) (E : rf_E) (a : Nat → Nat) (I : Nat → Int32) (A : Nat → Nat → Int32) (m_r : Nat → Int32) (m_st : Nat → Int32) (v1 : Int32) {z : Int32} (e_m_r : A 2 = m_r) (e_m_st : A 4 = m_st) (hf : f_X11_wrongGot m_r m_st v1 = some z) : rf_MI l yX11_wrongGot cX11_wrongGot 3 (some .int) ({ frames := 4, cells := 0, slots := 0, locals := 100 }) E [.ref (a 0), .int v1] (cM E a I A) z (cM E a I A) := by
  unfold f_X11_wrongGot at hf
  refine rf_ofI (by decide) (Nat.le_of_ble_eq_true rfl) ?_
  intro p e s m below meth c A0 ls hC hD hP hS hl
  have hC : rf_C p E s m _ meth c cX11_wrongGot 3 RX11 (some .int) A0 := hC
  have hx := hC.1
  have hb := hC.2.1
  have hl : lv_has ls 3 [(0, .ref (a 0)), (1, .int v1)] := hl
  refine lv_iconst (v := 0) hx hb dX11_wrongGot_0 (by decide) ?_
  refine lv_istore_n (lv' := [(2, .int 0), (0, .ref (a 0)), (1, .int v1)]) hx hb dX11_wrongGot_1 rfl hl (by decide) rfl (fun ls hl => ?_)
  exact w_X11_wrongGot_2 hC hD e_m_r e_m_st rf_fu v1 0 hf _ _ _ hP hS (lv_sub hl [1, 2, 0] rfl)
set_option maxHeartbeats 4000000 in
set_option maxRecDepth 100000 in
theorem c_X11_judge (l : Launch) (E : rf_E) (a : Nat → Nat) (I : Nat → Int32) (A : Nat → Nat → Int32) (m_hasFerry : Int32) (m_r : Nat → Int32) (m_st : Nat → Int32) (m_thrown : Int32) (m_trouble : Int32) {z : Int32 × Int32 × Int32} (e_m_hasFerry : I 12 = m_hasFerry) (e_m_r : A 2 = m_r) (e_m_st : A 4 = m_st) (e_m_thrown : I 0 = m_thrown) (e_m_trouble : I 10 = m_trouble) (hf : f_X11_judge m_hasFerry m_r m_st m_thrown m_trouble = some z) : rf_MI l yX11_judge cX11_judge 1 (some .int) ({ frames := 5, cells := 0, slots := 0, locals := 122 }) E [.ref (a 0)] (cM E a I A) z.1 (cM E a (rf_upL I [(0, z.2.1), (10, z.2.2)]) A) := by
  unfold f_X11_judge at hf
  refine rf_ofI (by decide) (Nat.le_of_ble_eq_true rfl) ?_
  intro p e s m below meth c A0 ls hC hD hP hS hl
  have hC : rf_C p E s m _ meth c cX11_judge 1 RX11 (some .int) A0 := hC
  have hx := hC.1
  have hb := hC.2.1
  have hl : lv_has ls 1 [(0, .ref (a 0))] := hl
  have hP : va_P (rf_D E) vwCl (cM E a (rf_upL I [(0, m_thrown), (10, m_trouble)]) A) s.heap := by
    rw [rf_self (f := I) [(0, m_thrown), (10, m_trouble)] (rf_fa1 e_m_thrown (rf_fa1 e_m_trouble rf_fa0))]
    exact hP
  refine lv_aload_n hx hb dX11_judge_0 rfl (lv_at hl 0 rfl) ?_
  obtain ⟨z1, hz1, hf⟩ := rf_bd hf
  refine rf_vv (q0 := 0) (ci := 11) hC (c_X11_good l E a (rf_upL I [(0, m_thrown), (10, m_trouble)]) A m_thrown m_trouble rfl rfl hz1) kV_X11_good tw_1403 ⟨Nat.le_of_ble_eq_true rfl, Nat.le_of_ble_eq_true rfl⟩ rfl rfl rfl rfl rfl hP (rf_DM hD) hS rfl hl.1 (rest := []) rfl (Nat.le_of_ble_eq_true rfl) dX11_judge_1 (fun H locs hP hS => ?_)
  rw [rf_cat (f := I) (l := [(0, m_thrown), (10, m_trouble)]) (lc := [(0, z1.1), (10, z1.2)]) (l' := [(0, z1.1), (10, z1.2)]) rfl] at hP
  refine lv_aload_n hx hb dX11_judge_4 rfl (lv_at hl 0 rfl) ?_
  refine gM_m_hasFerry hC hP tw_1293 (v := m_hasFerry) e_m_hasFerry dX11_judge_5 ?_
  refine lv_if_eq (tgt := 24) hx hb dX11_judge_8 (by decide) (fun c_8 => ?_) (fun c_8 => ?_)
  · have hf := rf_it c_8 hf
    refine lv_aload_n hx hb dX11_judge_24 rfl (lv_at hl 0 rfl) ?_
    refine lv_iconst (v := 1) hx hb dX11_judge_25 (by decide) ?_
    obtain ⟨z26, hz26, hf⟩ := rf_bd hf
    refine rf_vi (q0 := 0) (ci := 11) hC (c_X11_no l E a (rf_upL I [(0, z1.1), (10, z1.2)]) A z1.2 1 rfl hz26) kV_X11_no tw_1410 ⟨Nat.le_of_ble_eq_true rfl, Nat.le_of_ble_eq_true rfl⟩ rfl rfl rfl rfl rfl hP (rf_DM hD) hS rfl hl.1 (rest := []) rfl (Nat.le_of_ble_eq_true rfl) dX11_judge_26 (fun H locs hP hS => ?_)
    rw [rf_cat (f := I) (l := [(0, z1.1), (10, z1.2)]) (lc := [(10, z26.2)]) (l' := [(0, z1.1), (10, z26.2)]) rfl] at hP
    obtain rfl := Option.some.inj hf
    exact rf_reti hC hP hS rfl rfl dX11_judge_29
  have hf := rf_ie c_8 hf
  refine lv_aload_n hx hb dX11_judge_11 rfl (lv_at hl 0 rfl) ?_
  refine lv_aload_n hx hb dX11_judge_12 rfl (lv_at hl 0 rfl) ?_
  refine gM_m_r hC hP tw_1294 dX11_judge_13 ?_
  refine lv_iconst (v := 0) hx hb dX11_judge_16 (by decide) ?_
  refine lM_m_r hC hP (by decide) (f := m_r) e_m_r dX11_judge_17 ?_
  obtain ⟨z18, hz18, hf⟩ := rf_bd hf
  refine rf_vi (q0 := 0) (ci := 11) hC (c_X11_wrongGot l E a (rf_upL I [(0, z1.1), (10, z1.2)]) A m_r m_st (m_r (Int32.toNatClampNeg 0)) e_m_r e_m_st hz18) kV_X11_wrongGot tw_1747 ⟨Nat.le_of_ble_eq_true rfl, Nat.le_of_ble_eq_true rfl⟩ rfl rfl rfl rfl rfl hP (rf_DM hD) hS rfl hl.1 (rest := []) rfl (Nat.le_of_ble_eq_true rfl) dX11_judge_18 (fun H locs hP hS => ?_)
  refine lv_goto (tgt := 29) hx hb dX11_judge_21 (by decide) ?_
  obtain rfl := Option.some.inj hf
  exact rf_reti hC hP hS rfl rfl dX11_judge_29
set_option maxHeartbeats 4000000 in
set_option maxRecDepth 100000 in
theorem w_X11_costOf_225 {l : Launch} {p : Program} {e : Env} {s : State} {m : MethodId} {args : Array Value} {below : List Frame} {meth : Method} {c : Code} {A0 : Nat → Prop} {E : rf_E} {a : Nat → Nat} {I : Nat → Int32} {A : Nat → Nat → Int32} {m_r : Nat → Int32} {m_st : Nat → Int32} {z : Int32} (hC : rf_C p E s m args meth c cX11_costOf 10 RX11 (some .int) A0) (hD : va_D A0 (cM E a I A)) (e_m_r : A 2 = m_r) (e_m_st : A 4 = m_st) {k23 : Int32 → Int32 → Int32 → Int32 → Int32 → Option (Int32)} (hk23 : ∀ (v1 : Int32) (v2 : Int32) (v3 : Int32) (v4 : Int32) (v5 : Int32), k23 v1 v2 v3 v4 v5 = some z → ∀ (H : Heap) (locs : List Loc) (ls : Array Slot), va_P (rf_D E) vwCl (cM E a I A) H → va_S A0 s.heap H locs → lv_has ls 10 [(0, .ref (a 0)), (1, .int v1), (2, .int v2), (3, .int v3), (4, .int v4), (5, .int v5)] → W p l e ({ frames := 4, cells := 0, slots := 0, locals := 100 }) s m args below meth c H locs 0 0 (rf_QI below args s E A0 z (cM E a I A)) (F0 m 23 ls [])) :
    ∀ (v1 : Int32) (v2 : Int32) (v3 : Int32) (v4 : Int32) (v5 : Int32), f_X11_costOf_225 k23 m_r m_st v1 v2 v3 v4 v5 = some z → ∀ (H : Heap) (locs : List Loc) (ls : Array Slot), va_P (rf_D E) vwCl (cM E a I A) H → va_S A0 s.heap H locs → lv_has ls 10 [(0, .ref (a 0)), (1, .int v1), (2, .int v2), (3, .int v3), (4, .int v4), (5, .int v5)] → W p l e ({ frames := 4, cells := 0, slots := 0, locals := 100 }) s m args below meth c H locs 0 0 (rf_QI below args s E A0 z (cM E a I A)) (F0 m 225 ls []) := by
  have hx := hC.1
  have hb := hC.2.1
  intro v1 v2 v3 v4 v5 hf H locs ls hP hS hl
  unfold f_X11_costOf_225 at hf
  refine lv_iinc (v := v5 + 1) (lv' := [(5, .int (v5 + 1)), (0, .ref (a 0)), (1, .int v1), (2, .int v2), (3, .int v3), (4, .int v4)]) hx hb dX11_costOf_225 hl (k := 5) rfl rfl (by decide) rfl (fun ls hl => ?_)
  refine lv_goto (tgt := 23) hx hb dX11_costOf_228 (by decide) ?_
  exact hk23 v1 v2 v3 v4 (v5 + 1) hf _ _ _ hP hS (lv_sub hl [1, 2, 3, 4, 5, 0] rfl)
set_option maxHeartbeats 4000000 in
set_option maxRecDepth 100000 in
theorem w_X11_costOf_219 {l : Launch} {p : Program} {e : Env} {s : State} {m : MethodId} {args : Array Value} {below : List Frame} {meth : Method} {c : Code} {A0 : Nat → Prop} {E : rf_E} {a : Nat → Nat} {I : Nat → Int32} {A : Nat → Nat → Int32} {m_r : Nat → Int32} {m_st : Nat → Int32} {z : Int32} (hC : rf_C p E s m args meth c cX11_costOf 10 RX11 (some .int) A0) (hD : va_D A0 (cM E a I A)) (e_m_r : A 2 = m_r) (e_m_st : A 4 = m_st) {k23 : Int32 → Int32 → Int32 → Int32 → Int32 → Option (Int32)} (hk23 : ∀ (v1 : Int32) (v2 : Int32) (v3 : Int32) (v4 : Int32) (v5 : Int32), k23 v1 v2 v3 v4 v5 = some z → ∀ (H : Heap) (locs : List Loc) (ls : Array Slot), va_P (rf_D E) vwCl (cM E a I A) H → va_S A0 s.heap H locs → lv_has ls 10 [(0, .ref (a 0)), (1, .int v1), (2, .int v2), (3, .int v3), (4, .int v4), (5, .int v5)] → W p l e ({ frames := 4, cells := 0, slots := 0, locals := 100 }) s m args below meth c H locs 0 0 (rf_QI below args s E A0 z (cM E a I A)) (F0 m 23 ls [])) {k37 : Int32 → Int32 → Int32 → Int32 → Int32 → Int32 → Option (Int32)} (hk37 : ∀ (v1 : Int32) (v2 : Int32) (v3 : Int32) (v4 : Int32) (v5 : Int32) (v6 : Int32), k37 v1 v2 v3 v4 v5 v6 = some z → ∀ (H : Heap) (locs : List Loc) (ls : Array Slot), va_P (rf_D E) vwCl (cM E a I A) H → va_S A0 s.heap H locs → lv_has ls 10 [(0, .ref (a 0)), (1, .int v1), (2, .int v2), (3, .int v3), (4, .int v4), (5, .int v5), (6, .int v6)] → W p l e ({ frames := 4, cells := 0, slots := 0, locals := 100 }) s m args below meth c H locs 0 0 (rf_QI below args s E A0 z (cM E a I A)) (F0 m 37 ls [])) :
    ∀ (v1 : Int32) (v2 : Int32) (v3 : Int32) (v4 : Int32) (v5 : Int32) (v6 : Int32), f_X11_costOf_219 k23 k37 m_r m_st v1 v2 v3 v4 v5 v6 = some z → ∀ (H : Heap) (locs : List Loc) (ls : Array Slot), va_P (rf_D E) vwCl (cM E a I A) H → va_S A0 s.heap H locs → lv_has ls 10 [(0, .ref (a 0)), (1, .int v1), (2, .int v2), (3, .int v3), (4, .int v4), (5, .int v5), (6, .int v6)] → W p l e ({ frames := 4, cells := 0, slots := 0, locals := 100 }) s m args below meth c H locs 0 0 (rf_QI below args s E A0 z (cM E a I A)) (F0 m 219 ls []) := by
  have hx := hC.1
  have hb := hC.2.1
  intro v1 v2 v3 v4 v5 v6 hf H locs ls hP hS hl
  unfold f_X11_costOf_219 at hf
  refine lv_iinc (v := v6 + 1) (lv' := [(6, .int (v6 + 1)), (0, .ref (a 0)), (1, .int v1), (2, .int v2), (3, .int v3), (4, .int v4), (5, .int v5)]) hx hb dX11_costOf_219 hl (k := 6) rfl rfl (by decide) rfl (fun ls hl => ?_)
  refine lv_goto (tgt := 37) hx hb dX11_costOf_222 (by decide) ?_
  exact hk37 v1 v2 v3 v4 v5 (v6 + 1) hf _ _ _ hP hS (lv_sub hl [1, 2, 3, 4, 5, 6, 0] rfl)
set_option maxHeartbeats 4000000 in
set_option maxRecDepth 100000 in
theorem w_X11_costOf_159 {l : Launch} {p : Program} {e : Env} {s : State} {m : MethodId} {args : Array Value} {below : List Frame} {meth : Method} {c : Code} {A0 : Nat → Prop} {E : rf_E} {a : Nat → Nat} {I : Nat → Int32} {A : Nat → Nat → Int32} {m_r : Nat → Int32} {m_st : Nat → Int32} {z : Int32} (hC : rf_C p E s m args meth c cX11_costOf 10 RX11 (some .int) A0) (hD : va_D A0 (cM E a I A)) (e_m_r : A 2 = m_r) (e_m_st : A 4 = m_st) {k23 : Int32 → Int32 → Int32 → Int32 → Int32 → Option (Int32)} (hk23 : ∀ (v1 : Int32) (v2 : Int32) (v3 : Int32) (v4 : Int32) (v5 : Int32), k23 v1 v2 v3 v4 v5 = some z → ∀ (H : Heap) (locs : List Loc) (ls : Array Slot), va_P (rf_D E) vwCl (cM E a I A) H → va_S A0 s.heap H locs → lv_has ls 10 [(0, .ref (a 0)), (1, .int v1), (2, .int v2), (3, .int v3), (4, .int v4), (5, .int v5)] → W p l e ({ frames := 4, cells := 0, slots := 0, locals := 100 }) s m args below meth c H locs 0 0 (rf_QI below args s E A0 z (cM E a I A)) (F0 m 23 ls [])) {k37 : Int32 → Int32 → Int32 → Int32 → Int32 → Int32 → Option (Int32)} (hk37 : ∀ (v1 : Int32) (v2 : Int32) (v3 : Int32) (v4 : Int32) (v5 : Int32) (v6 : Int32), k37 v1 v2 v3 v4 v5 v6 = some z → ∀ (H : Heap) (locs : List Loc) (ls : Array Slot), va_P (rf_D E) vwCl (cM E a I A) H → va_S A0 s.heap H locs → lv_has ls 10 [(0, .ref (a 0)), (1, .int v1), (2, .int v2), (3, .int v3), (4, .int v4), (5, .int v5), (6, .int v6)] → W p l e ({ frames := 4, cells := 0, slots := 0, locals := 100 }) s m args below meth c H locs 0 0 (rf_QI below args s E A0 z (cM E a I A)) (F0 m 37 ls [])) :
    ∀ (v1 : Int32) (v2 : Int32) (v3 : Int32) (v4 : Int32) (v5 : Int32) (v6 : Int32) (v7 : Int32) (v8 : Int32) (s0 : Int32) (s1 : Int32), f_X11_costOf_159 k23 k37 m_r m_st v1 v2 v3 v4 v5 v6 v7 v8 s0 s1 = some z → ∀ (H : Heap) (locs : List Loc) (ls : Array Slot), va_P (rf_D E) vwCl (cM E a I A) H → va_S A0 s.heap H locs → lv_has ls 10 [(0, .ref (a 0)), (1, .int v1), (2, .int v2), (3, .int v3), (4, .int v4), (5, .int v5), (6, .int v6), (7, .int v7), (8, .int v8)] → W p l e ({ frames := 4, cells := 0, slots := 0, locals := 100 }) s m args below meth c H locs 0 0 (rf_QI below args s E A0 z (cM E a I A)) (F0 m 159 ls [.int s1, .int s0]) := by
  have hx := hC.1
  have hb := hC.2.1
  intro v1 v2 v3 v4 v5 v6 v7 v8 s0 s1 hf H locs ls hP hS hl
  unfold f_X11_costOf_159 at hf
  refine lv_iadd hx hb dX11_costOf_159 ?_
  refine lv_istore (lv' := [(9, .int (s0 + s1)), (0, .ref (a 0)), (1, .int v1), (2, .int v2), (3, .int v3), (4, .int v4), (5, .int v5), (6, .int v6), (7, .int v7), (8, .int v8)]) hx hb dX11_costOf_160 hl (by decide) rfl (fun ls hl => ?_)
  refine lv_iload hx hb dX11_costOf_162 (lv_at hl 0 rfl) ?_
  refine lv_iload hx hb dX11_costOf_164 (lv_at hl 5 rfl) ?_
  refine lv_icmp_ge (tgt := 219) hx hb dX11_costOf_166 (by decide) (fun c_166 => ?_) (fun c_166 => ?_)
  · have hf := rf_it c_166 hf
    exact w_X11_costOf_219 hC hD e_m_r e_m_st hk23 hk37 v1 v2 v3 v4 v5 v6 hf _ _ _ hP hS (lv_sub hl [1, 2, 3, 4, 5, 6, 7] rfl)
  have hf := rf_ie c_166 hf
  refine lv_aload_n hx hb dX11_costOf_169 rfl (lv_at hl 1 rfl) ?_
  refine lv_aload_n hx hb dX11_costOf_170 rfl (lv_at hl 1 rfl) ?_
  refine lv_iload_n hx hb dX11_costOf_171 rfl (lv_at hl 2 rfl) ?_
  obtain ⟨z172, hz172, hf⟩ := rf_bd hf
  refine rf_vi (q0 := 0) (ci := 11) hC (c_X11_kindOf l E a I A m_r v1 e_m_r hz172) kV_X11_kindOf tw_1609 ⟨Nat.le_of_ble_eq_true rfl, Nat.le_of_ble_eq_true rfl⟩ rfl rfl rfl rfl rfl hP (rf_DM hD) hS rfl hl.1 (rest := [.ref (a 0)]) rfl (Nat.le_of_ble_eq_true rfl) dX11_costOf_172 (fun H locs hP hS => ?_)
  refine lv_aload_n hx hb dX11_costOf_175 rfl (lv_at hl 1 rfl) ?_
  refine gM_m_st hC hP tw_1296 dX11_costOf_176 ?_
  refine lv_bipush (v := 8) hx hb dX11_costOf_179 (by decide) ?_
  refine lv_iload_n hx hb dX11_costOf_181 rfl (lv_at hl 2 rfl) ?_
  refine lv_iadd hx hb dX11_costOf_182 ?_
  obtain ⟨hi_183, hf⟩ := rf_gu hf
  refine lM_m_st hC hP hi_183 (f := m_st) e_m_st dX11_costOf_183 ?_
  refine lv_iload hx hb dX11_costOf_184 (lv_at hl 8 rfl) ?_
  refine lv_ior hx hb dX11_costOf_186 ?_
  refine lv_aload_n hx hb dX11_costOf_187 rfl (lv_at hl 1 rfl) ?_
  refine lv_iload_n hx hb dX11_costOf_188 rfl (lv_at hl 3 rfl) ?_
  obtain ⟨z189, hz189, hf⟩ := rf_bd hf
  refine rf_vi (q0 := 0) (ci := 11) hC (c_X11_kindOf l E a I A m_r v2 e_m_r hz189) kV_X11_kindOf tw_1609 ⟨Nat.le_of_ble_eq_true rfl, Nat.le_of_ble_eq_true rfl⟩ rfl rfl rfl rfl rfl hP (rf_DM hD) hS rfl hl.1 (rest := [.int ((m_st (Int32.toNatClampNeg ((8 : Int32) + v1))) ||| v7), .int z172, .ref (a 0)]) rfl (Nat.le_of_ble_eq_true rfl) dX11_costOf_189 (fun H locs hP hS => ?_)
  refine lv_aload_n hx hb dX11_costOf_192 rfl (lv_at hl 1 rfl) ?_
  refine gM_m_st hC hP tw_1296 dX11_costOf_193 ?_
  refine lv_bipush (v := 8) hx hb dX11_costOf_196 (by decide) ?_
  refine lv_iload_n hx hb dX11_costOf_198 rfl (lv_at hl 3 rfl) ?_
  refine lv_iadd hx hb dX11_costOf_199 ?_
  obtain ⟨hi_200, hf⟩ := rf_gu hf
  refine lM_m_st hC hP hi_200 (f := m_st) e_m_st dX11_costOf_200 ?_
  refine lv_iload hx hb dX11_costOf_201 (lv_at hl 9 rfl) ?_
  refine lv_ior hx hb dX11_costOf_203 ?_
  refine lv_iload_n hx hb dX11_costOf_204 rfl (lv_at hl 4 rfl) ?_
  obtain ⟨z205, hz205, hf⟩ := rf_bd hf
  refine rf_vi (q0 := 0) (ci := 11) hC (c_X11_rhymeOf l E a I A m_r z172 ((m_st (Int32.toNatClampNeg ((8 : Int32) + v1))) ||| v7) z189 ((m_st (Int32.toNatClampNeg ((8 : Int32) + v2))) ||| v8) v3 e_m_r hz205) kV_X11_rhymeOf tw_1640 ⟨Nat.le_of_ble_eq_true rfl, Nat.le_of_ble_eq_true rfl⟩ rfl rfl rfl rfl rfl hP (rf_DM hD) hS rfl hl.1 (rest := []) rfl (Nat.le_of_ble_eq_true rfl) dX11_costOf_205 (fun H locs hP hS => ?_)
  refine lv_iconst (v := 2) hx hb dX11_costOf_208 (by decide) ?_
  refine lv_icmp_eq (tgt := 215) hx hb dX11_costOf_209 (by decide) (fun c_209 => ?_) (fun c_209 => ?_)
  · have hf := rf_it c_209 hf
    refine lv_iload hx hb dX11_costOf_215 (lv_at hl 0 rfl) ?_
    refine lv_istore (lv' := [(4, .int (s0 + s1)), (9, .int (s0 + s1)), (0, .ref (a 0)), (1, .int v1), (2, .int v2), (3, .int v3), (5, .int v5), (6, .int v6), (7, .int v7), (8, .int v8)]) hx hb dX11_costOf_217 hl (by decide) rfl (fun ls hl => ?_)
    exact w_X11_costOf_219 hC hD e_m_r e_m_st hk23 hk37 v1 v2 v3 (s0 + s1) v5 v6 hf _ _ _ hP hS (lv_sub hl [2, 3, 4, 5, 0, 6, 7] rfl)
  have hf := rf_ie c_209 hf
  refine lv_goto (tgt := 219) hx hb dX11_costOf_212 (by decide) ?_
  exact w_X11_costOf_219 hC hD e_m_r e_m_st hk23 hk37 v1 v2 v3 v4 v5 v6 hf _ _ _ hP hS (lv_sub hl [1, 2, 3, 4, 5, 6, 7] rfl)
set_option maxHeartbeats 4000000 in
set_option maxRecDepth 100000 in
theorem w_X11_costOf_144 {l : Launch} {p : Program} {e : Env} {s : State} {m : MethodId} {args : Array Value} {below : List Frame} {meth : Method} {c : Code} {A0 : Nat → Prop} {E : rf_E} {a : Nat → Nat} {I : Nat → Int32} {A : Nat → Nat → Int32} {m_r : Nat → Int32} {m_st : Nat → Int32} {z : Int32} (hC : rf_C p E s m args meth c cX11_costOf 10 RX11 (some .int) A0) (hD : va_D A0 (cM E a I A)) (e_m_r : A 2 = m_r) (e_m_st : A 4 = m_st) {k23 : Int32 → Int32 → Int32 → Int32 → Int32 → Option (Int32)} (hk23 : ∀ (v1 : Int32) (v2 : Int32) (v3 : Int32) (v4 : Int32) (v5 : Int32), k23 v1 v2 v3 v4 v5 = some z → ∀ (H : Heap) (locs : List Loc) (ls : Array Slot), va_P (rf_D E) vwCl (cM E a I A) H → va_S A0 s.heap H locs → lv_has ls 10 [(0, .ref (a 0)), (1, .int v1), (2, .int v2), (3, .int v3), (4, .int v4), (5, .int v5)] → W p l e ({ frames := 4, cells := 0, slots := 0, locals := 100 }) s m args below meth c H locs 0 0 (rf_QI below args s E A0 z (cM E a I A)) (F0 m 23 ls [])) {k37 : Int32 → Int32 → Int32 → Int32 → Int32 → Int32 → Option (Int32)} (hk37 : ∀ (v1 : Int32) (v2 : Int32) (v3 : Int32) (v4 : Int32) (v5 : Int32) (v6 : Int32), k37 v1 v2 v3 v4 v5 v6 = some z → ∀ (H : Heap) (locs : List Loc) (ls : Array Slot), va_P (rf_D E) vwCl (cM E a I A) H → va_S A0 s.heap H locs → lv_has ls 10 [(0, .ref (a 0)), (1, .int v1), (2, .int v2), (3, .int v3), (4, .int v4), (5, .int v5), (6, .int v6)] → W p l e ({ frames := 4, cells := 0, slots := 0, locals := 100 }) s m args below meth c H locs 0 0 (rf_QI below args s E A0 z (cM E a I A)) (F0 m 37 ls [])) :
    ∀ (v1 : Int32) (v2 : Int32) (v3 : Int32) (v4 : Int32) (v5 : Int32) (v6 : Int32) (v7 : Int32) (v8 : Int32) (s0 : Int32), f_X11_costOf_144 k23 k37 m_r m_st v1 v2 v3 v4 v5 v6 v7 v8 s0 = some z → ∀ (H : Heap) (locs : List Loc) (ls : Array Slot), va_P (rf_D E) vwCl (cM E a I A) H → va_S A0 s.heap H locs → lv_has ls 10 [(0, .ref (a 0)), (1, .int v1), (2, .int v2), (3, .int v3), (4, .int v4), (5, .int v5), (6, .int v6), (7, .int v7), (8, .int v8)] → W p l e ({ frames := 4, cells := 0, slots := 0, locals := 100 }) s m args below meth c H locs 0 0 (rf_QI below args s E A0 z (cM E a I A)) (F0 m 144 ls [.int s0]) := by
  have hx := hC.1
  have hb := hC.2.1
  intro v1 v2 v3 v4 v5 v6 v7 v8 s0 hf H locs ls hP hS hl
  unfold f_X11_costOf_144 at hf
  refine lv_iload hx hb dX11_costOf_144 (lv_at hl 8 rfl) ?_
  refine lv_if_ne (tgt := 153) hx hb dX11_costOf_146 (by decide) (fun c_146 => ?_) (fun c_146 => ?_)
  · have hf := rf_ie c_146 hf
    refine lv_aload_n hx hb dX11_costOf_153 rfl (lv_at hl 0 rfl) ?_
    refine lv_iload hx hb dX11_costOf_154 (lv_at hl 6 rfl) ?_
    obtain ⟨z156, hz156, hf⟩ := rf_bd hf
    refine rf_vi (q0 := 0) (ci := 11) hC (c_X11_priceOf l E a I A m_r v6 e_m_r hz156) kV_X11_priceOf tw_1695 ⟨Nat.le_of_ble_eq_true rfl, Nat.le_of_ble_eq_true rfl⟩ rfl rfl rfl rfl rfl hP (rf_DM hD) hS rfl hl.1 (rest := [.int s0]) rfl (Nat.le_of_ble_eq_true rfl) dX11_costOf_156 (fun H locs hP hS => ?_)
    exact w_X11_costOf_159 hC hD e_m_r e_m_st hk23 hk37 v1 v2 v3 v4 v5 v6 v7 v8 s0 z156 hf _ _ _ hP hS (lv_sub hl [0, 1, 2, 3, 4, 5, 6, 7, 8] rfl)
  have hf := rf_it c_146 hf
  refine lv_iconst (v := 0) hx hb dX11_costOf_149 (by decide) ?_
  refine lv_goto (tgt := 159) hx hb dX11_costOf_150 (by decide) ?_
  exact w_X11_costOf_159 hC hD e_m_r e_m_st hk23 hk37 v1 v2 v3 v4 v5 v6 v7 v8 s0 0 hf _ _ _ hP hS (lv_sub hl [0, 1, 2, 3, 4, 5, 6, 7, 8] rfl)
set_option maxHeartbeats 4000000 in
set_option maxRecDepth 100000 in
theorem w_X11_costOf_127 {l : Launch} {p : Program} {e : Env} {s : State} {m : MethodId} {args : Array Value} {below : List Frame} {meth : Method} {c : Code} {A0 : Nat → Prop} {E : rf_E} {a : Nat → Nat} {I : Nat → Int32} {A : Nat → Nat → Int32} {m_r : Nat → Int32} {m_st : Nat → Int32} {z : Int32} (hC : rf_C p E s m args meth c cX11_costOf 10 RX11 (some .int) A0) (hD : va_D A0 (cM E a I A)) (e_m_r : A 2 = m_r) (e_m_st : A 4 = m_st) {k23 : Int32 → Int32 → Int32 → Int32 → Int32 → Option (Int32)} (hk23 : ∀ (v1 : Int32) (v2 : Int32) (v3 : Int32) (v4 : Int32) (v5 : Int32), k23 v1 v2 v3 v4 v5 = some z → ∀ (H : Heap) (locs : List Loc) (ls : Array Slot), va_P (rf_D E) vwCl (cM E a I A) H → va_S A0 s.heap H locs → lv_has ls 10 [(0, .ref (a 0)), (1, .int v1), (2, .int v2), (3, .int v3), (4, .int v4), (5, .int v5)] → W p l e ({ frames := 4, cells := 0, slots := 0, locals := 100 }) s m args below meth c H locs 0 0 (rf_QI below args s E A0 z (cM E a I A)) (F0 m 23 ls [])) {k37 : Int32 → Int32 → Int32 → Int32 → Int32 → Int32 → Option (Int32)} (hk37 : ∀ (v1 : Int32) (v2 : Int32) (v3 : Int32) (v4 : Int32) (v5 : Int32) (v6 : Int32), k37 v1 v2 v3 v4 v5 v6 = some z → ∀ (H : Heap) (locs : List Loc) (ls : Array Slot), va_P (rf_D E) vwCl (cM E a I A) H → va_S A0 s.heap H locs → lv_has ls 10 [(0, .ref (a 0)), (1, .int v1), (2, .int v2), (3, .int v3), (4, .int v4), (5, .int v5), (6, .int v6)] → W p l e ({ frames := 4, cells := 0, slots := 0, locals := 100 }) s m args below meth c H locs 0 0 (rf_QI below args s E A0 z (cM E a I A)) (F0 m 37 ls [])) :
    ∀ (v1 : Int32) (v2 : Int32) (v3 : Int32) (v4 : Int32) (v5 : Int32) (v6 : Int32) (v7 : Int32) (s0 : Int32), f_X11_costOf_127 k23 k37 m_r m_st v1 v2 v3 v4 v5 v6 v7 s0 = some z → ∀ (H : Heap) (locs : List Loc) (ls : Array Slot), va_P (rf_D E) vwCl (cM E a I A) H → va_S A0 s.heap H locs → lv_has ls 10 [(0, .ref (a 0)), (1, .int v1), (2, .int v2), (3, .int v3), (4, .int v4), (5, .int v5), (6, .int v6), (7, .int v7)] → W p l e ({ frames := 4, cells := 0, slots := 0, locals := 100 }) s m args below meth c H locs 0 0 (rf_QI below args s E A0 z (cM E a I A)) (F0 m 127 ls [.int s0]) := by
  have hx := hC.1
  have hb := hC.2.1
  intro v1 v2 v3 v4 v5 v6 v7 s0 hf H locs ls hP hS hl
  unfold f_X11_costOf_127 at hf
  refine lv_istore (lv' := [(8, .int s0), (0, .ref (a 0)), (1, .int v1), (2, .int v2), (3, .int v3), (4, .int v4), (5, .int v5), (6, .int v6), (7, .int v7)]) hx hb dX11_costOf_127 hl (by decide) rfl (fun ls hl => ?_)
  refine lv_iload hx hb dX11_costOf_129 (lv_at hl 8 rfl) ?_
  refine lv_if_ne (tgt := 138) hx hb dX11_costOf_131 (by decide) (fun c_131 => ?_) (fun c_131 => ?_)
  · have hf := rf_ie c_131 hf
    refine lv_aload_n hx hb dX11_costOf_138 rfl (lv_at hl 1 rfl) ?_
    refine lv_iload hx hb dX11_costOf_139 (lv_at hl 6 rfl) ?_
    obtain ⟨z141, hz141, hf⟩ := rf_bd hf
    refine rf_vi (q0 := 0) (ci := 11) hC (c_X11_priceOf l E a I A m_r v5 e_m_r hz141) kV_X11_priceOf tw_1695 ⟨Nat.le_of_ble_eq_true rfl, Nat.le_of_ble_eq_true rfl⟩ rfl rfl rfl rfl rfl hP (rf_DM hD) hS rfl hl.1 (rest := []) rfl (Nat.le_of_ble_eq_true rfl) dX11_costOf_141 (fun H locs hP hS => ?_)
    exact w_X11_costOf_144 hC hD e_m_r e_m_st hk23 hk37 v1 v2 v3 v4 v5 v6 v7 s0 z141 hf _ _ _ hP hS (lv_sub hl [1, 2, 3, 4, 5, 6, 7, 8, 0] rfl)
  have hf := rf_it c_131 hf
  refine lv_iconst (v := 0) hx hb dX11_costOf_134 (by decide) ?_
  refine lv_goto (tgt := 144) hx hb dX11_costOf_135 (by decide) ?_
  exact w_X11_costOf_144 hC hD e_m_r e_m_st hk23 hk37 v1 v2 v3 v4 v5 v6 v7 s0 0 hf _ _ _ hP hS (lv_sub hl [1, 2, 3, 4, 5, 6, 7, 8, 0] rfl)
set_option maxHeartbeats 4000000 in
set_option maxRecDepth 100000 in
theorem w_X11_costOf_119 {l : Launch} {p : Program} {e : Env} {s : State} {m : MethodId} {args : Array Value} {below : List Frame} {meth : Method} {c : Code} {A0 : Nat → Prop} {E : rf_E} {a : Nat → Nat} {I : Nat → Int32} {A : Nat → Nat → Int32} {m_r : Nat → Int32} {m_st : Nat → Int32} {z : Int32} (hC : rf_C p E s m args meth c cX11_costOf 10 RX11 (some .int) A0) (hD : va_D A0 (cM E a I A)) (e_m_r : A 2 = m_r) (e_m_st : A 4 = m_st) {k23 : Int32 → Int32 → Int32 → Int32 → Int32 → Option (Int32)} (hk23 : ∀ (v1 : Int32) (v2 : Int32) (v3 : Int32) (v4 : Int32) (v5 : Int32), k23 v1 v2 v3 v4 v5 = some z → ∀ (H : Heap) (locs : List Loc) (ls : Array Slot), va_P (rf_D E) vwCl (cM E a I A) H → va_S A0 s.heap H locs → lv_has ls 10 [(0, .ref (a 0)), (1, .int v1), (2, .int v2), (3, .int v3), (4, .int v4), (5, .int v5)] → W p l e ({ frames := 4, cells := 0, slots := 0, locals := 100 }) s m args below meth c H locs 0 0 (rf_QI below args s E A0 z (cM E a I A)) (F0 m 23 ls [])) {k37 : Int32 → Int32 → Int32 → Int32 → Int32 → Int32 → Option (Int32)} (hk37 : ∀ (v1 : Int32) (v2 : Int32) (v3 : Int32) (v4 : Int32) (v5 : Int32) (v6 : Int32), k37 v1 v2 v3 v4 v5 v6 = some z → ∀ (H : Heap) (locs : List Loc) (ls : Array Slot), va_P (rf_D E) vwCl (cM E a I A) H → va_S A0 s.heap H locs → lv_has ls 10 [(0, .ref (a 0)), (1, .int v1), (2, .int v2), (3, .int v3), (4, .int v4), (5, .int v5), (6, .int v6)] → W p l e ({ frames := 4, cells := 0, slots := 0, locals := 100 }) s m args below meth c H locs 0 0 (rf_QI below args s E A0 z (cM E a I A)) (F0 m 37 ls [])) :
    ∀ (v1 : Int32) (v2 : Int32) (v3 : Int32) (v4 : Int32) (v5 : Int32) (v6 : Int32) (v7 : Int32), f_X11_costOf_119 k23 k37 m_r m_st v1 v2 v3 v4 v5 v6 v7 = some z → ∀ (H : Heap) (locs : List Loc) (ls : Array Slot), va_P (rf_D E) vwCl (cM E a I A) H → va_S A0 s.heap H locs → lv_has ls 10 [(0, .ref (a 0)), (1, .int v1), (2, .int v2), (3, .int v3), (4, .int v4), (5, .int v5), (6, .int v6), (7, .int v7)] → W p l e ({ frames := 4, cells := 0, slots := 0, locals := 100 }) s m args below meth c H locs 0 0 (rf_QI below args s E A0 z (cM E a I A)) (F0 m 119 ls []) := by
  have hx := hC.1
  have hb := hC.2.1
  intro v1 v2 v3 v4 v5 v6 v7 hf H locs ls hP hS hl
  unfold f_X11_costOf_119 at hf
  refine lv_iconst (v := 0) hx hb dX11_costOf_119 (by decide) ?_
  refine lv_goto (tgt := 127) hx hb dX11_costOf_120 (by decide) ?_
  exact w_X11_costOf_127 hC hD e_m_r e_m_st hk23 hk37 v1 v2 v3 v4 v5 v6 v7 0 hf _ _ _ hP hS (lv_sub hl [0, 1, 2, 3, 4, 5, 6, 7] rfl)
set_option maxHeartbeats 4000000 in
set_option maxRecDepth 100000 in
theorem w_X11_costOf_89 {l : Launch} {p : Program} {e : Env} {s : State} {m : MethodId} {args : Array Value} {below : List Frame} {meth : Method} {c : Code} {A0 : Nat → Prop} {E : rf_E} {a : Nat → Nat} {I : Nat → Int32} {A : Nat → Nat → Int32} {m_r : Nat → Int32} {m_st : Nat → Int32} {z : Int32} (hC : rf_C p E s m args meth c cX11_costOf 10 RX11 (some .int) A0) (hD : va_D A0 (cM E a I A)) (e_m_r : A 2 = m_r) (e_m_st : A 4 = m_st) {k23 : Int32 → Int32 → Int32 → Int32 → Int32 → Option (Int32)} (hk23 : ∀ (v1 : Int32) (v2 : Int32) (v3 : Int32) (v4 : Int32) (v5 : Int32), k23 v1 v2 v3 v4 v5 = some z → ∀ (H : Heap) (locs : List Loc) (ls : Array Slot), va_P (rf_D E) vwCl (cM E a I A) H → va_S A0 s.heap H locs → lv_has ls 10 [(0, .ref (a 0)), (1, .int v1), (2, .int v2), (3, .int v3), (4, .int v4), (5, .int v5)] → W p l e ({ frames := 4, cells := 0, slots := 0, locals := 100 }) s m args below meth c H locs 0 0 (rf_QI below args s E A0 z (cM E a I A)) (F0 m 23 ls [])) {k37 : Int32 → Int32 → Int32 → Int32 → Int32 → Int32 → Option (Int32)} (hk37 : ∀ (v1 : Int32) (v2 : Int32) (v3 : Int32) (v4 : Int32) (v5 : Int32) (v6 : Int32), k37 v1 v2 v3 v4 v5 v6 = some z → ∀ (H : Heap) (locs : List Loc) (ls : Array Slot), va_P (rf_D E) vwCl (cM E a I A) H → va_S A0 s.heap H locs → lv_has ls 10 [(0, .ref (a 0)), (1, .int v1), (2, .int v2), (3, .int v3), (4, .int v4), (5, .int v5), (6, .int v6)] → W p l e ({ frames := 4, cells := 0, slots := 0, locals := 100 }) s m args below meth c H locs 0 0 (rf_QI below args s E A0 z (cM E a I A)) (F0 m 37 ls [])) :
    ∀ (v1 : Int32) (v2 : Int32) (v3 : Int32) (v4 : Int32) (v5 : Int32) (v6 : Int32) (s0 : Int32), f_X11_costOf_89 k23 k37 m_r m_st v1 v2 v3 v4 v5 v6 s0 = some z → ∀ (H : Heap) (locs : List Loc) (ls : Array Slot), va_P (rf_D E) vwCl (cM E a I A) H → va_S A0 s.heap H locs → lv_has ls 10 [(0, .ref (a 0)), (1, .int v1), (2, .int v2), (3, .int v3), (4, .int v4), (5, .int v5), (6, .int v6)] → W p l e ({ frames := 4, cells := 0, slots := 0, locals := 100 }) s m args below meth c H locs 0 0 (rf_QI below args s E A0 z (cM E a I A)) (F0 m 89 ls [.int s0]) := by
  have hx := hC.1
  have hb := hC.2.1
  intro v1 v2 v3 v4 v5 v6 s0 hf H locs ls hP hS hl
  unfold f_X11_costOf_89 at hf
  refine lv_istore (lv' := [(7, .int s0), (0, .ref (a 0)), (1, .int v1), (2, .int v2), (3, .int v3), (4, .int v4), (5, .int v5), (6, .int v6)]) hx hb dX11_costOf_89 hl (by decide) rfl (fun ls hl => ?_)
  refine lv_iload hx hb dX11_costOf_91 (lv_at hl 7 rfl) ?_
  refine lv_aload_n hx hb dX11_costOf_93 rfl (lv_at hl 1 rfl) ?_
  refine gM_m_r hC hP tw_1294 dX11_costOf_94 ?_
  refine lv_iconst (v := 2) hx hb dX11_costOf_97 (by decide) ?_
  refine lM_m_r hC hP (by decide) (f := m_r) e_m_r dX11_costOf_98 ?_
  refine lv_icmp_eq (tgt := 119) hx hb dX11_costOf_99 (by decide) (fun c_99 => ?_) (fun c_99 => ?_)
  · have hf := rf_it c_99 hf
    exact w_X11_costOf_119 hC hD e_m_r e_m_st hk23 hk37 v1 v2 v3 v4 v5 v6 s0 hf _ _ _ hP hS (lv_sub hl [1, 2, 3, 4, 5, 6, 7, 0] rfl)
  have hf := rf_ie c_99 hf
  refine lv_aload_n hx hb dX11_costOf_102 rfl (lv_at hl 1 rfl) ?_
  refine gM_m_st hC hP tw_1296 dX11_costOf_103 ?_
  refine lv_bipush (v := 8) hx hb dX11_costOf_106 (by decide) ?_
  refine lv_iload_n hx hb dX11_costOf_108 rfl (lv_at hl 3 rfl) ?_
  refine lv_iadd hx hb dX11_costOf_109 ?_
  obtain ⟨hi_110, hf⟩ := rf_gu hf
  refine lM_m_st hC hP hi_110 (f := m_st) e_m_st dX11_costOf_110 ?_
  refine lv_iload hx hb dX11_costOf_111 (lv_at hl 7 rfl) ?_
  obtain ⟨z113, hz113, hf⟩ := rf_bd hf
  refine rf_si0 hC (c_X11_hasBit l E (m_st (Int32.toNatClampNeg ((8 : Int32) + v2))) v6 hz113) kS_X11_hasBit tw_1539 ⟨Nat.le_of_ble_eq_true rfl, Nat.le_of_ble_eq_true rfl⟩ rfl rfl hP hS rfl hl.1 (rest := []) rfl (Nat.le_of_ble_eq_true rfl) dX11_costOf_113 (fun H locs hP hS => ?_)
  refine lv_if_eq (tgt := 123) hx hb dX11_costOf_116 (by decide) (fun c_116 => ?_) (fun c_116 => ?_)
  · have hf := rf_it c_116 hf
    refine lv_iconst (v := 1) hx hb dX11_costOf_123 (by decide) ?_
    refine lv_iload hx hb dX11_costOf_124 (lv_at hl 7 rfl) ?_
    refine lv_ishl hx hb dX11_costOf_126 ?_
    exact w_X11_costOf_127 hC hD e_m_r e_m_st hk23 hk37 v1 v2 v3 v4 v5 v6 s0 ((1 : Int32) <<< (v6 &&& 31)) hf _ _ _ hP hS (lv_sub hl [1, 2, 3, 4, 5, 6, 7, 0] rfl)
  have hf := rf_ie c_116 hf
  exact w_X11_costOf_119 hC hD e_m_r e_m_st hk23 hk37 v1 v2 v3 v4 v5 v6 s0 hf _ _ _ hP hS (lv_sub hl [1, 2, 3, 4, 5, 6, 7, 0] rfl)
set_option maxHeartbeats 4000000 in
set_option maxRecDepth 100000 in
theorem w_X11_costOf_81 {l : Launch} {p : Program} {e : Env} {s : State} {m : MethodId} {args : Array Value} {below : List Frame} {meth : Method} {c : Code} {A0 : Nat → Prop} {E : rf_E} {a : Nat → Nat} {I : Nat → Int32} {A : Nat → Nat → Int32} {m_r : Nat → Int32} {m_st : Nat → Int32} {z : Int32} (hC : rf_C p E s m args meth c cX11_costOf 10 RX11 (some .int) A0) (hD : va_D A0 (cM E a I A)) (e_m_r : A 2 = m_r) (e_m_st : A 4 = m_st) {k23 : Int32 → Int32 → Int32 → Int32 → Int32 → Option (Int32)} (hk23 : ∀ (v1 : Int32) (v2 : Int32) (v3 : Int32) (v4 : Int32) (v5 : Int32), k23 v1 v2 v3 v4 v5 = some z → ∀ (H : Heap) (locs : List Loc) (ls : Array Slot), va_P (rf_D E) vwCl (cM E a I A) H → va_S A0 s.heap H locs → lv_has ls 10 [(0, .ref (a 0)), (1, .int v1), (2, .int v2), (3, .int v3), (4, .int v4), (5, .int v5)] → W p l e ({ frames := 4, cells := 0, slots := 0, locals := 100 }) s m args below meth c H locs 0 0 (rf_QI below args s E A0 z (cM E a I A)) (F0 m 23 ls [])) {k37 : Int32 → Int32 → Int32 → Int32 → Int32 → Int32 → Option (Int32)} (hk37 : ∀ (v1 : Int32) (v2 : Int32) (v3 : Int32) (v4 : Int32) (v5 : Int32) (v6 : Int32), k37 v1 v2 v3 v4 v5 v6 = some z → ∀ (H : Heap) (locs : List Loc) (ls : Array Slot), va_P (rf_D E) vwCl (cM E a I A) H → va_S A0 s.heap H locs → lv_has ls 10 [(0, .ref (a 0)), (1, .int v1), (2, .int v2), (3, .int v3), (4, .int v4), (5, .int v5), (6, .int v6)] → W p l e ({ frames := 4, cells := 0, slots := 0, locals := 100 }) s m args below meth c H locs 0 0 (rf_QI below args s E A0 z (cM E a I A)) (F0 m 37 ls [])) :
    ∀ (v1 : Int32) (v2 : Int32) (v3 : Int32) (v4 : Int32) (v5 : Int32) (v6 : Int32), f_X11_costOf_81 k23 k37 m_r m_st v1 v2 v3 v4 v5 v6 = some z → ∀ (H : Heap) (locs : List Loc) (ls : Array Slot), va_P (rf_D E) vwCl (cM E a I A) H → va_S A0 s.heap H locs → lv_has ls 10 [(0, .ref (a 0)), (1, .int v1), (2, .int v2), (3, .int v3), (4, .int v4), (5, .int v5), (6, .int v6)] → W p l e ({ frames := 4, cells := 0, slots := 0, locals := 100 }) s m args below meth c H locs 0 0 (rf_QI below args s E A0 z (cM E a I A)) (F0 m 81 ls []) := by
  have hx := hC.1
  have hb := hC.2.1
  intro v1 v2 v3 v4 v5 v6 hf H locs ls hP hS hl
  unfold f_X11_costOf_81 at hf
  refine lv_iconst (v := 0) hx hb dX11_costOf_81 (by decide) ?_
  refine lv_goto (tgt := 89) hx hb dX11_costOf_82 (by decide) ?_
  exact w_X11_costOf_89 hC hD e_m_r e_m_st hk23 hk37 v1 v2 v3 v4 v5 v6 0 hf _ _ _ hP hS (lv_sub hl [0, 1, 2, 3, 4, 5, 6] rfl)
set_option maxHeartbeats 4000000 in
set_option maxRecDepth 100000 in
theorem w_X11_costOf_37 {l : Launch} {p : Program} {e : Env} {s : State} {m : MethodId} {args : Array Value} {below : List Frame} {meth : Method} {c : Code} {A0 : Nat → Prop} {E : rf_E} {a : Nat → Nat} {I : Nat → Int32} {A : Nat → Nat → Int32} {m_r : Nat → Int32} {m_st : Nat → Int32} {z : Int32} (hC : rf_C p E s m args meth c cX11_costOf 10 RX11 (some .int) A0) (hD : va_D A0 (cM E a I A)) (e_m_r : A 2 = m_r) (e_m_st : A 4 = m_st) {k23 : Int32 → Int32 → Int32 → Int32 → Int32 → Option (Int32)} (hk23 : ∀ (v1 : Int32) (v2 : Int32) (v3 : Int32) (v4 : Int32) (v5 : Int32), k23 v1 v2 v3 v4 v5 = some z → ∀ (H : Heap) (locs : List Loc) (ls : Array Slot), va_P (rf_D E) vwCl (cM E a I A) H → va_S A0 s.heap H locs → lv_has ls 10 [(0, .ref (a 0)), (1, .int v1), (2, .int v2), (3, .int v3), (4, .int v4), (5, .int v5)] → W p l e ({ frames := 4, cells := 0, slots := 0, locals := 100 }) s m args below meth c H locs 0 0 (rf_QI below args s E A0 z (cM E a I A)) (F0 m 23 ls [])) :
    ∀ (n : Nat), ∀ (v1 : Int32) (v2 : Int32) (v3 : Int32) (v4 : Int32) (v5 : Int32) (v6 : Int32), f_X11_costOf_37 k23 m_r m_st n v1 v2 v3 v4 v5 v6 = some z → ∀ (H : Heap) (locs : List Loc) (ls : Array Slot), va_P (rf_D E) vwCl (cM E a I A) H → va_S A0 s.heap H locs → lv_has ls 10 [(0, .ref (a 0)), (1, .int v1), (2, .int v2), (3, .int v3), (4, .int v4), (5, .int v5), (6, .int v6)] → W p l e ({ frames := 4, cells := 0, slots := 0, locals := 100 }) s m args below meth c H locs 0 0 (rf_QI below args s E A0 z (cM E a I A)) (F0 m 37 ls []) := by
  have hx := hC.1
  have hb := hC.2.1
  intro n
  induction n with
  | zero =>
    intro v1 v2 v3 v4 v5 v6 hf
    have hf : (none : Option (Int32)) = some z := hf
    cases hf
  | succ n ih =>
    intro v1 v2 v3 v4 v5 v6 hf H locs ls hP hS hl
    rw [f_X11_costOf_37] at hf
    refine lv_iload hx hb dX11_costOf_37 (lv_at hl 6 rfl) ?_
    refine lv_aload_n hx hb dX11_costOf_39 rfl (lv_at hl 0 rfl) ?_
    refine gM_m_r hC hP tw_1294 dX11_costOf_40 ?_
    refine lv_iconst (v := 2) hx hb dX11_costOf_43 (by decide) ?_
    refine lM_m_r hC hP (by decide) (f := m_r) e_m_r dX11_costOf_44 ?_
    refine lv_icmp_gt (tgt := 225) hx hb dX11_costOf_45 (by decide) (fun c_45 => ?_) (fun c_45 => ?_)
    · have hf := rf_it c_45 hf
      exact w_X11_costOf_225 hC hD e_m_r e_m_st hk23 v1 v2 v3 v4 v5 hf _ _ _ hP hS (lv_sub hl [0, 1, 2, 3, 4, 5] rfl)
    have hf := rf_ie c_45 hf
    refine lv_iload hx hb dX11_costOf_48 (lv_at hl 4 rfl) ?_
    refine lv_if_le (tgt := 225) hx hb dX11_costOf_50 (by decide) (fun c_50 => ?_) (fun c_50 => ?_)
    · have hf := rf_it c_50 hf
      exact w_X11_costOf_225 hC hD e_m_r e_m_st hk23 v1 v2 v3 v4 v5 hf _ _ _ hP hS (lv_sub hl [0, 1, 2, 3, 4, 5] rfl)
    have hf := rf_ie c_50 hf
    refine lv_iload hx hb dX11_costOf_53 (lv_at hl 5 rfl) ?_
    refine lv_aload_n hx hb dX11_costOf_55 rfl (lv_at hl 0 rfl) ?_
    refine gM_m_r hC hP tw_1294 dX11_costOf_56 ?_
    refine lv_iconst (v := 2) hx hb dX11_costOf_59 (by decide) ?_
    refine lM_m_r hC hP (by decide) (f := m_r) e_m_r dX11_costOf_60 ?_
    refine lv_icmp_eq (tgt := 81) hx hb dX11_costOf_61 (by decide) (fun c_61 => ?_) (fun c_61 => ?_)
    · have hf := rf_it c_61 hf
      exact w_X11_costOf_81 hC hD e_m_r e_m_st hk23 ih v1 v2 v3 v4 v5 v6 hf _ _ _ hP hS (lv_sub hl [0, 1, 2, 3, 4, 5, 6] rfl)
    have hf := rf_ie c_61 hf
    refine lv_aload_n hx hb dX11_costOf_64 rfl (lv_at hl 0 rfl) ?_
    refine gM_m_st hC hP tw_1296 dX11_costOf_65 ?_
    refine lv_bipush (v := 8) hx hb dX11_costOf_68 (by decide) ?_
    refine lv_iload_n hx hb dX11_costOf_70 rfl (lv_at hl 1 rfl) ?_
    refine lv_iadd hx hb dX11_costOf_71 ?_
    obtain ⟨hi_72, hf⟩ := rf_gu hf
    refine lM_m_st hC hP hi_72 (f := m_st) e_m_st dX11_costOf_72 ?_
    refine lv_iload hx hb dX11_costOf_73 (lv_at hl 5 rfl) ?_
    obtain ⟨z75, hz75, hf⟩ := rf_bd hf
    refine rf_si0 hC (c_X11_hasBit l E (m_st (Int32.toNatClampNeg ((8 : Int32) + v1))) v5 hz75) kS_X11_hasBit tw_1539 ⟨Nat.le_of_ble_eq_true rfl, Nat.le_of_ble_eq_true rfl⟩ rfl rfl hP hS rfl hl.1 (rest := []) rfl (Nat.le_of_ble_eq_true rfl) dX11_costOf_75 (fun H locs hP hS => ?_)
    refine lv_if_eq (tgt := 85) hx hb dX11_costOf_78 (by decide) (fun c_78 => ?_) (fun c_78 => ?_)
    · have hf := rf_it c_78 hf
      refine lv_iconst (v := 1) hx hb dX11_costOf_85 (by decide) ?_
      refine lv_iload hx hb dX11_costOf_86 (lv_at hl 5 rfl) ?_
      refine lv_ishl hx hb dX11_costOf_88 ?_
      exact w_X11_costOf_89 hC hD e_m_r e_m_st hk23 ih v1 v2 v3 v4 v5 v6 ((1 : Int32) <<< (v5 &&& 31)) hf _ _ _ hP hS (lv_sub hl [0, 1, 2, 3, 4, 5, 6] rfl)
    have hf := rf_ie c_78 hf
    exact w_X11_costOf_81 hC hD e_m_r e_m_st hk23 ih v1 v2 v3 v4 v5 v6 hf _ _ _ hP hS (lv_sub hl [0, 1, 2, 3, 4, 5, 6] rfl)
set_option maxHeartbeats 4000000 in
set_option maxRecDepth 100000 in
theorem w_X11_costOf_23 {l : Launch} {p : Program} {e : Env} {s : State} {m : MethodId} {args : Array Value} {below : List Frame} {meth : Method} {c : Code} {A0 : Nat → Prop} {E : rf_E} {a : Nat → Nat} {I : Nat → Int32} {A : Nat → Nat → Int32} {m_r : Nat → Int32} {m_st : Nat → Int32} {z : Int32} (hC : rf_C p E s m args meth c cX11_costOf 10 RX11 (some .int) A0) (hD : va_D A0 (cM E a I A)) (e_m_r : A 2 = m_r) (e_m_st : A 4 = m_st) :
    ∀ (n : Nat), ∀ (v1 : Int32) (v2 : Int32) (v3 : Int32) (v4 : Int32) (v5 : Int32), f_X11_costOf_23 m_r m_st n v1 v2 v3 v4 v5 = some z → ∀ (H : Heap) (locs : List Loc) (ls : Array Slot), va_P (rf_D E) vwCl (cM E a I A) H → va_S A0 s.heap H locs → lv_has ls 10 [(0, .ref (a 0)), (1, .int v1), (2, .int v2), (3, .int v3), (4, .int v4), (5, .int v5)] → W p l e ({ frames := 4, cells := 0, slots := 0, locals := 100 }) s m args below meth c H locs 0 0 (rf_QI below args s E A0 z (cM E a I A)) (F0 m 23 ls []) := by
  have hx := hC.1
  have hb := hC.2.1
  intro n
  induction n with
  | zero =>
    intro v1 v2 v3 v4 v5 hf
    have hf : (none : Option (Int32)) = some z := hf
    cases hf
  | succ n ih =>
    intro v1 v2 v3 v4 v5 hf H locs ls hP hS hl
    rw [f_X11_costOf_23] at hf
    refine lv_iload hx hb dX11_costOf_23 (lv_at hl 5 rfl) ?_
    refine lv_aload_n hx hb dX11_costOf_25 rfl (lv_at hl 0 rfl) ?_
    refine gM_m_r hC hP tw_1294 dX11_costOf_26 ?_
    refine lv_iconst (v := 2) hx hb dX11_costOf_29 (by decide) ?_
    refine lM_m_r hC hP (by decide) (f := m_r) e_m_r dX11_costOf_30 ?_
    refine lv_icmp_gt (tgt := 231) hx hb dX11_costOf_31 (by decide) (fun c_31 => ?_) (fun c_31 => ?_)
    · have hf := rf_it c_31 hf
      refine lv_iload hx hb dX11_costOf_231 (lv_at hl 4 rfl) ?_
      obtain rfl := Option.some.inj hf
      exact rf_reti hC hP hS rfl rfl dX11_costOf_233
    have hf := rf_ie c_31 hf
    refine lv_iconst (v := 0) hx hb dX11_costOf_34 (by decide) ?_
    refine lv_istore (lv' := [(6, .int 0), (0, .ref (a 0)), (1, .int v1), (2, .int v2), (3, .int v3), (4, .int v4), (5, .int v5)]) hx hb dX11_costOf_35 hl (by decide) rfl (fun ls hl => ?_)
    exact w_X11_costOf_37 hC hD e_m_r e_m_st ih rf_fu v1 v2 v3 v4 v5 0 hf _ _ _ hP hS (lv_sub hl [1, 2, 3, 4, 5, 6, 0] rfl)
set_option maxHeartbeats 4000000 in
set_option maxRecDepth 100000 in
theorem w_X11_costOf_18 {l : Launch} {p : Program} {e : Env} {s : State} {m : MethodId} {args : Array Value} {below : List Frame} {meth : Method} {c : Code} {A0 : Nat → Prop} {E : rf_E} {a : Nat → Nat} {I : Nat → Int32} {A : Nat → Nat → Int32} {m_r : Nat → Int32} {m_st : Nat → Int32} {z : Int32} (hC : rf_C p E s m args meth c cX11_costOf 10 RX11 (some .int) A0) (hD : va_D A0 (cM E a I A)) (e_m_r : A 2 = m_r) (e_m_st : A 4 = m_st) :
    ∀ (v1 : Int32) (v2 : Int32) (v3 : Int32) (s0 : Int32), f_X11_costOf_18 m_r m_st v1 v2 v3 s0 = some z → ∀ (H : Heap) (locs : List Loc) (ls : Array Slot), va_P (rf_D E) vwCl (cM E a I A) H → va_S A0 s.heap H locs → lv_has ls 10 [(0, .ref (a 0)), (1, .int v1), (2, .int v2), (3, .int v3)] → W p l e ({ frames := 4, cells := 0, slots := 0, locals := 100 }) s m args below meth c H locs 0 0 (rf_QI below args s E A0 z (cM E a I A)) (F0 m 18 ls [.int s0]) := by
  have hx := hC.1
  have hb := hC.2.1
  intro v1 v2 v3 s0 hf H locs ls hP hS hl
  unfold f_X11_costOf_18 at hf
  refine lv_istore (lv' := [(4, .int s0), (0, .ref (a 0)), (1, .int v1), (2, .int v2), (3, .int v3)]) hx hb dX11_costOf_18 hl (by decide) rfl (fun ls hl => ?_)
  refine lv_iconst (v := 0) hx hb dX11_costOf_20 (by decide) ?_
  refine lv_istore (lv' := [(5, .int 0), (4, .int s0), (0, .ref (a 0)), (1, .int v1), (2, .int v2), (3, .int v3)]) hx hb dX11_costOf_21 hl (by decide) rfl (fun ls hl => ?_)
  exact w_X11_costOf_23 hC hD e_m_r e_m_st rf_fu v1 v2 v3 s0 0 hf _ _ _ hP hS (lv_sub hl [2, 3, 4, 5, 1, 0] rfl)
set_option maxHeartbeats 4000000 in
set_option maxRecDepth 100000 in
theorem c_X11_costOf (l : Launch) (E : rf_E) (a : Nat → Nat) (I : Nat → Int32) (A : Nat → Nat → Int32) (m_r : Nat → Int32) (m_st : Nat → Int32) (v1 : Int32) (v2 : Int32) (v3 : Int32) {z : Int32} (e_m_r : A 2 = m_r) (e_m_st : A 4 = m_st) (hf : f_X11_costOf m_r m_st v1 v2 v3 = some z) : rf_MI l yX11_costOf cX11_costOf 10 (some .int) ({ frames := 4, cells := 0, slots := 0, locals := 100 }) E [.ref (a 0), .int v1, .int v2, .int v3] (cM E a I A) z (cM E a I A) := by
  unfold f_X11_costOf at hf
  refine rf_ofI (by decide) (Nat.le_of_ble_eq_true rfl) ?_
  intro p e s m below meth c A0 ls hC hD hP hS hl
  have hC : rf_C p E s m _ meth c cX11_costOf 10 RX11 (some .int) A0 := hC
  have hx := hC.1
  have hb := hC.2.1
  have hl : lv_has ls 10 [(0, .ref (a 0)), (1, .int v1), (2, .int v2), (3, .int v3)] := hl
  refine lv_aload_n hx hb dX11_costOf_0 rfl (lv_at hl 0 rfl) ?_
  refine lv_iload_n hx hb dX11_costOf_1 rfl (lv_at hl 1 rfl) ?_
  refine lv_iload_n hx hb dX11_costOf_2 rfl (lv_at hl 2 rfl) ?_
  refine lv_iload_n hx hb dX11_costOf_3 rfl (lv_at hl 3 rfl) ?_
  obtain ⟨z4, hz4, hf⟩ := rf_bd hf
  refine rf_vi (q0 := 0) (ci := 11) hC (c_X11_rhymeNow l E a I A m_r m_st v1 v2 v3 e_m_r e_m_st hz4) kV_X11_rhymeNow tw_1636 ⟨Nat.le_of_ble_eq_true rfl, Nat.le_of_ble_eq_true rfl⟩ rfl rfl rfl rfl rfl hP (rf_DM hD) hS rfl hl.1 (rest := []) rfl (Nat.le_of_ble_eq_true rfl) dX11_costOf_4 (fun H locs hP hS => ?_)
  refine lv_iconst (v := 2) hx hb dX11_costOf_7 (by decide) ?_
  refine lv_icmp_ne (tgt := 15) hx hb dX11_costOf_8 (by decide) (fun c_8 => ?_) (fun c_8 => ?_)
  · have hf := rf_ie c_8 hf
    refine lv_ldcw hx hb hC.2.2.2.1 (hC.2.2.2.2.1 _ tw_1759) dX11_costOf_15 ?_
    exact w_X11_costOf_18 hC hD e_m_r e_m_st v1 v2 v3 1000000 hf _ _ _ hP hS (lv_sub hl [0, 1, 2, 3] rfl)
  have hf := rf_it c_8 hf
  refine lv_iconst (v := 0) hx hb dX11_costOf_11 (by decide) ?_
  refine lv_goto (tgt := 18) hx hb dX11_costOf_12 (by decide) ?_
  exact w_X11_costOf_18 hC hD e_m_r e_m_st v1 v2 v3 0 hf _ _ _ hP hS (lv_sub hl [0, 1, 2, 3] rfl)
