set_option maxHeartbeats 4000000 in
set_option maxRecDepth 100000 in
theorem c_X11_no (l : Launch) (E : rf_E) (a : Nat → Nat) (I : Nat → Int32) (A : Nat → Nat → Int32) (m_trouble : Int32) (v1 : Int32) {z : Int32 × Int32} (e_m_trouble : I 10 = m_trouble) (hf : f_X11_no m_trouble v1 = some z) : rf_MI l yX11_no cX11_no 2 (some .int) ({ frames := 0, cells := 0, slots := 0, locals := 0 }) E [.ref (a 0), .int v1] (cM E a I A) z.1 (cM E a (rf_upL I [(10, z.2)]) A) := by
  unfold f_X11_no at hf
  refine rf_ofI (by decide) (Nat.le_of_ble_eq_true rfl) ?_
  intro p e s m below meth c A0 ls hC hD hP hS hl
  have hC : rf_C p E s m _ meth c cX11_no 2 RX11 (some .int) A0 := hC
  have hx := hC.1
  have hb := hC.2.1
  have hl : lv_has ls 2 [(0, .ref (a 0)), (1, .int v1)] := hl
  have hP : va_P (rf_D E) vwCl (cM E a (rf_upL I [(10, m_trouble)]) A) s.heap := by
    rw [rf_self (f := I) [(10, m_trouble)] (rf_fa1 e_m_trouble rf_fa0)]
    exact hP
  refine lv_aload_n hx hb dX11_no_0 rfl (lv_at hl 0 rfl) ?_
  refine lv_iload_n hx hb dX11_no_1 rfl (lv_at hl 1 rfl) ?_
  refine pM_m_trouble hC hD hP hS tw_1290 dX11_no_2 (rf_upL I [(10, v1)]) (rf_put rfl) (fun H locs hP hS => ?_)
  refine lv_iconst (v := (-1)) hx hb dX11_no_5 (by decide) ?_
  obtain rfl := Option.some.inj hf
  exact rf_reti hC hP hS rfl rfl dX11_no_6
set_option maxHeartbeats 4000000 in
set_option maxRecDepth 100000 in
theorem c_X11_hasBit (l : Launch) (E : rf_E) (v0 : Int32) (v1 : Int32) {z : Int32} (hf : f_X11_hasBit v0 v1 = some z) : rf_MI l yX11_hasBit cX11_hasBit 2 (some .boolean) ({ frames := 0, cells := 0, slots := 0, locals := 0 }) E [.int v0, .int v1] ([]) z ([]) := by
  unfold f_X11_hasBit at hf
  refine rf_ofI (by decide) (Nat.le_of_ble_eq_true rfl) ?_
  intro p e s m below meth c A0 ls hC hD hP hS hl
  have hC : rf_C p E s m _ meth c cX11_hasBit 2 RX11 (some .boolean) A0 := hC
  have hx := hC.1
  have hb := hC.2.1
  have hl : lv_has ls 2 [(0, .int v0), (1, .int v1)] := hl
  refine lv_iload_n hx hb dX11_hasBit_0 rfl (lv_at hl 0 rfl) ?_
  refine lv_iload_n hx hb dX11_hasBit_1 rfl (lv_at hl 1 rfl) ?_
  refine lv_ishr hx hb dX11_hasBit_2 ?_
  refine lv_iconst (v := 1) hx hb dX11_hasBit_3 (by decide) ?_
  refine lv_iand hx hb dX11_hasBit_4 ?_
  refine lv_iconst (v := 1) hx hb dX11_hasBit_5 (by decide) ?_
  refine lv_icmp_ne (tgt := 13) hx hb dX11_hasBit_6 (by decide) (fun c_6 => ?_) (fun c_6 => ?_)
  · have hf := rf_ie c_6 hf
    refine lv_iconst (v := 0) hx hb dX11_hasBit_13 (by decide) ?_
    obtain rfl := Option.some.inj hf
    exact rf_retz hC hP hS (by decide) rfl rfl dX11_hasBit_14
  have hf := rf_it c_6 hf
  refine lv_iconst (v := 1) hx hb dX11_hasBit_9 (by decide) ?_
  refine lv_goto (tgt := 14) hx hb dX11_hasBit_10 (by decide) ?_
  obtain rfl := Option.some.inj hf
  exact rf_retz hC hP hS (by decide) rfl rfl dX11_hasBit_14
set_option maxHeartbeats 4000000 in
set_option maxRecDepth 100000 in
theorem w_X11_areLetters_37 {l : Launch} {p : Program} {e : Env} {s : State} {m : MethodId} {args : Array Value} {below : List Frame} {meth : Method} {c : Code} {A0 : Nat → Prop} {E : rf_E} {a : Nat → Nat} {I : Nat → Int32} {A : Nat → Nat → Int32} {m_nameSize : Int32} {m_letters : Nat → Int32} {z : Int32} (hC : rf_C p E s m args meth c cX11_areLetters 3 RX11 (some .boolean) A0) (hD : va_D A0 (cM E a I A)) (e_m_nameSize : I 7 = m_nameSize) (e_m_letters : A 1 = m_letters) {k4 : Int32 → Int32 → Option (Int32)} (hk4 : ∀ (v1 : Int32) (v2 : Int32), k4 v1 v2 = some z → ∀ (H : Heap) (locs : List Loc) (ls : Array Slot), va_P (rf_D E) vwCl (cM E a I A) H → va_S A0 s.heap H locs → lv_has ls 3 [(0, .ref (a 0)), (1, .int v1), (2, .int v2)] → W p l e ({ frames := 1, cells := 0, slots := 0, locals := 22 }) s m args below meth c H locs 0 0 (rf_QI below args s E A0 z (cM E a I A)) (F0 m 4 ls [])) :
    ∀ (v2 : Int32) (s0 : Int32), f_X11_areLetters_37 k4 m_nameSize m_letters v2 s0 = some z → ∀ (H : Heap) (locs : List Loc) (ls : Array Slot), va_P (rf_D E) vwCl (cM E a I A) H → va_S A0 s.heap H locs → lv_has ls 3 [(0, .ref (a 0)), (2, .int v2)] → W p l e ({ frames := 1, cells := 0, slots := 0, locals := 22 }) s m args below meth c H locs 0 0 (rf_QI below args s E A0 z (cM E a I A)) (F0 m 37 ls [.int s0]) := by
  have hx := hC.1
  have hb := hC.2.1
  intro v2 s0 hf H locs ls hP hS hl
  unfold f_X11_areLetters_37 at hf
  refine lv_istore_n (lv' := [(1, .int s0), (0, .ref (a 0)), (2, .int v2)]) hx hb dX11_areLetters_37 rfl hl (by decide) rfl (fun ls hl => ?_)
  refine lv_iinc (v := v2 + 1) (lv' := [(2, .int (v2 + 1)), (1, .int s0), (0, .ref (a 0))]) hx hb dX11_areLetters_38 hl (k := 2) rfl rfl (by decide) rfl (fun ls hl => ?_)
  refine lv_goto (tgt := 4) hx hb dX11_areLetters_41 (by decide) ?_
  exact hk4 s0 (v2 + 1) hf _ _ _ hP hS (lv_sub hl [2, 1, 0] rfl)
set_option maxHeartbeats 4000000 in
set_option maxRecDepth 100000 in
theorem w_X11_areLetters_36 {l : Launch} {p : Program} {e : Env} {s : State} {m : MethodId} {args : Array Value} {below : List Frame} {meth : Method} {c : Code} {A0 : Nat → Prop} {E : rf_E} {a : Nat → Nat} {I : Nat → Int32} {A : Nat → Nat → Int32} {m_nameSize : Int32} {m_letters : Nat → Int32} {z : Int32} (hC : rf_C p E s m args meth c cX11_areLetters 3 RX11 (some .boolean) A0) (hD : va_D A0 (cM E a I A)) (e_m_nameSize : I 7 = m_nameSize) (e_m_letters : A 1 = m_letters) {k4 : Int32 → Int32 → Option (Int32)} (hk4 : ∀ (v1 : Int32) (v2 : Int32), k4 v1 v2 = some z → ∀ (H : Heap) (locs : List Loc) (ls : Array Slot), va_P (rf_D E) vwCl (cM E a I A) H → va_S A0 s.heap H locs → lv_has ls 3 [(0, .ref (a 0)), (1, .int v1), (2, .int v2)] → W p l e ({ frames := 1, cells := 0, slots := 0, locals := 22 }) s m args below meth c H locs 0 0 (rf_QI below args s E A0 z (cM E a I A)) (F0 m 4 ls [])) :
    ∀ (v2 : Int32), f_X11_areLetters_36 k4 m_nameSize m_letters v2 = some z → ∀ (H : Heap) (locs : List Loc) (ls : Array Slot), va_P (rf_D E) vwCl (cM E a I A) H → va_S A0 s.heap H locs → lv_has ls 3 [(0, .ref (a 0)), (2, .int v2)] → W p l e ({ frames := 1, cells := 0, slots := 0, locals := 22 }) s m args below meth c H locs 0 0 (rf_QI below args s E A0 z (cM E a I A)) (F0 m 36 ls []) := by
  have hx := hC.1
  have hb := hC.2.1
  intro v2 hf H locs ls hP hS hl
  unfold f_X11_areLetters_36 at hf
  refine lv_iconst (v := 0) hx hb dX11_areLetters_36 (by decide) ?_
  exact w_X11_areLetters_37 hC hD e_m_nameSize e_m_letters hk4 v2 0 hf _ _ _ hP hS (lv_sub hl [0, 1] rfl)
set_option maxHeartbeats 4000000 in
set_option maxRecDepth 100000 in
theorem w_X11_areLetters_4 {l : Launch} {p : Program} {e : Env} {s : State} {m : MethodId} {args : Array Value} {below : List Frame} {meth : Method} {c : Code} {A0 : Nat → Prop} {E : rf_E} {a : Nat → Nat} {I : Nat → Int32} {A : Nat → Nat → Int32} {m_nameSize : Int32} {m_letters : Nat → Int32} {z : Int32} (hC : rf_C p E s m args meth c cX11_areLetters 3 RX11 (some .boolean) A0) (hD : va_D A0 (cM E a I A)) (e_m_nameSize : I 7 = m_nameSize) (e_m_letters : A 1 = m_letters) :
    ∀ (n : Nat), ∀ (v1 : Int32) (v2 : Int32), f_X11_areLetters_4 m_nameSize m_letters n v1 v2 = some z → ∀ (H : Heap) (locs : List Loc) (ls : Array Slot), va_P (rf_D E) vwCl (cM E a I A) H → va_S A0 s.heap H locs → lv_has ls 3 [(0, .ref (a 0)), (1, .int v1), (2, .int v2)] → W p l e ({ frames := 1, cells := 0, slots := 0, locals := 22 }) s m args below meth c H locs 0 0 (rf_QI below args s E A0 z (cM E a I A)) (F0 m 4 ls []) := by
  have hx := hC.1
  have hb := hC.2.1
  intro n
  induction n with
  | zero =>
    intro v1 v2 hf
    have hf : (none : Option (Int32)) = some z := hf
    cases hf
  | succ n ih =>
    intro v1 v2 hf H locs ls hP hS hl
    rw [f_X11_areLetters_4] at hf
    refine lv_iload_n hx hb dX11_areLetters_4 rfl (lv_at hl 2 rfl) ?_
    refine lv_aload_n hx hb dX11_areLetters_5 rfl (lv_at hl 0 rfl) ?_
    refine gM_m_nameSize hC hP tw_1287 (v := m_nameSize) e_m_nameSize dX11_areLetters_6 ?_
    refine lv_icmp_ge (tgt := 44) hx hb dX11_areLetters_9 (by decide) (fun c_9 => ?_) (fun c_9 => ?_)
    · have hf := rf_it c_9 hf
      refine lv_iload_n hx hb dX11_areLetters_44 rfl (lv_at hl 1 rfl) ?_
      obtain ⟨hz_45, hf⟩ := rf_gu hf
      obtain rfl := Option.some.inj hf
      exact rf_retz hC hP hS hz_45 rfl rfl dX11_areLetters_45
    have hf := rf_ie c_9 hf
    refine lv_iload_n hx hb dX11_areLetters_12 rfl (lv_at hl 1 rfl) ?_
    refine lv_if_eq (tgt := 36) hx hb dX11_areLetters_13 (by decide) (fun c_13 => ?_) (fun c_13 => ?_)
    · have hf := rf_it c_13 hf
      exact w_X11_areLetters_36 hC hD e_m_nameSize e_m_letters ih v2 hf _ _ _ hP hS (lv_sub hl [0, 2] rfl)
    have hf := rf_ie c_13 hf
    refine lv_aload_n hx hb dX11_areLetters_16 rfl (lv_at hl 0 rfl) ?_
    refine gM_m_letters hC hP tw_1291 dX11_areLetters_17 ?_
    refine lv_iload_n hx hb dX11_areLetters_20 rfl (lv_at hl 2 rfl) ?_
    obtain ⟨hi_21, hf⟩ := rf_gu hf
    refine lM_m_letters hC hP hi_21 (f := m_letters) e_m_letters dX11_areLetters_21 ?_
    refine lv_bipush (v := 97) hx hb dX11_areLetters_22 (by decide) ?_
    refine lv_bipush (v := 104) hx hb dX11_areLetters_24 (by decide) ?_
    obtain ⟨z26, hz26, hf⟩ := rf_bd hf
    refine rf_si0 hC (c_X11_in l E (m_letters (Int32.toNatClampNeg v2)) 97 104 hz26) kS_X11_in tw_1407 ⟨Nat.le_of_ble_eq_true rfl, Nat.le_of_ble_eq_true rfl⟩ rfl rfl hP hS rfl hl.1 (rest := []) rfl (Nat.le_of_ble_eq_true rfl) dX11_areLetters_26 (fun H locs hP hS => ?_)
    refine lv_if_eq (tgt := 36) hx hb dX11_areLetters_29 (by decide) (fun c_29 => ?_) (fun c_29 => ?_)
    · have hf := rf_it c_29 hf
      exact w_X11_areLetters_36 hC hD e_m_nameSize e_m_letters ih v2 hf _ _ _ hP hS (lv_sub hl [0, 2] rfl)
    have hf := rf_ie c_29 hf
    refine lv_iconst (v := 1) hx hb dX11_areLetters_32 (by decide) ?_
    refine lv_goto (tgt := 37) hx hb dX11_areLetters_33 (by decide) ?_
    exact w_X11_areLetters_37 hC hD e_m_nameSize e_m_letters ih v2 1 hf _ _ _ hP hS (lv_sub hl [0, 2] rfl)
set_option maxHeartbeats 4000000 in
set_option maxRecDepth 100000 in
theorem c_X11_areLetters (l : Launch) (E : rf_E) (a : Nat → Nat) (I : Nat → Int32) (A : Nat → Nat → Int32) (m_nameSize : Int32) (m_letters : Nat → Int32) {z : Int32} (e_m_nameSize : I 7 = m_nameSize) (e_m_letters : A 1 = m_letters) (hf : f_X11_areLetters m_nameSize m_letters = some z) : rf_MI l yX11_areLetters cX11_areLetters 3 (some .boolean) ({ frames := 1, cells := 0, slots := 0, locals := 22 }) E [.ref (a 0)] (cM E a I A) z (cM E a I A) := by
  unfold f_X11_areLetters at hf
  refine rf_ofI (by decide) (Nat.le_of_ble_eq_true rfl) ?_
  intro p e s m below meth c A0 ls hC hD hP hS hl
  have hC : rf_C p E s m _ meth c cX11_areLetters 3 RX11 (some .boolean) A0 := hC
  have hx := hC.1
  have hb := hC.2.1
  have hl : lv_has ls 3 [(0, .ref (a 0))] := hl
  refine lv_iconst (v := 1) hx hb dX11_areLetters_0 (by decide) ?_
  refine lv_istore_n (lv' := [(1, .int 1), (0, .ref (a 0))]) hx hb dX11_areLetters_1 rfl hl (by decide) rfl (fun ls hl => ?_)
  refine lv_iconst (v := 0) hx hb dX11_areLetters_2 (by decide) ?_
  refine lv_istore_n (lv' := [(2, .int 0), (1, .int 1), (0, .ref (a 0))]) hx hb dX11_areLetters_3 rfl hl (by decide) rfl (fun ls hl => ?_)
  exact w_X11_areLetters_4 hC hD e_m_nameSize e_m_letters rf_fu 1 0 hf _ _ _ hP hS (lv_sub hl [2, 1, 0] rfl)
set_option maxHeartbeats 4000000 in
set_option maxRecDepth 100000 in
theorem c_X11_wrong (l : Launch) (E : rf_E) (a : Nat → Nat) (I : Nat → Int32) (A : Nat → Nat → Int32) (m_fault : Int32) (m_place : Int32) (m_failed : Int32) (v1 : Int32) (v2 : Int32) {z : Int32 × Int32 × Int32} (e_m_fault : I 8 = m_fault) (e_m_place : I 9 = m_place) (e_m_failed : I 11 = m_failed) (hf : f_X11_wrong m_fault m_place m_failed v1 v2 = some z) : rf_MV l yX11_wrong cX11_wrong 3 ({ frames := 0, cells := 0, slots := 0, locals := 0 }) E [.ref (a 0), .int v1, .int v2] (cM E a I A) (cM E a (rf_upL I [(8, z.1), (9, z.2.1), (11, z.2.2)]) A) := by
  unfold f_X11_wrong at hf
  refine rf_ofV (by decide) (Nat.le_of_ble_eq_true rfl) ?_
  intro p e s m below meth c A0 ls hC hD hP hS hl
  have hC : rf_C p E s m _ meth c cX11_wrong 3 RX11 (none) A0 := hC
  have hx := hC.1
  have hb := hC.2.1
  have hl : lv_has ls 3 [(0, .ref (a 0)), (1, .int v1), (2, .int v2)] := hl
  have hP : va_P (rf_D E) vwCl (cM E a (rf_upL I [(8, m_fault), (9, m_place), (11, m_failed)]) A) s.heap := by
    rw [rf_self (f := I) [(8, m_fault), (9, m_place), (11, m_failed)] (rf_fa1 e_m_fault (rf_fa1 e_m_place (rf_fa1 e_m_failed rf_fa0)))]
    exact hP
  refine lv_aload_n hx hb dX11_wrong_0 rfl (lv_at hl 0 rfl) ?_
  refine gM_m_failed hC hP tw_1292 (v := m_failed) rfl dX11_wrong_1 ?_
  refine lv_if_eq (tgt := 8) hx hb dX11_wrong_4 (by decide) (fun c_4 => ?_) (fun c_4 => ?_)
  · have hf := rf_it c_4 hf
    refine lv_aload_n hx hb dX11_wrong_8 rfl (lv_at hl 0 rfl) ?_
    refine lv_iconst (v := 1) hx hb dX11_wrong_9 (by decide) ?_
    refine pM_m_failed hC hD hP hS tw_1292 (by decide) dX11_wrong_10 (rf_upL I [(8, m_fault), (9, m_place), (11, 1)]) (rf_put rfl) (fun H locs hP hS => ?_)
    refine lv_aload_n hx hb dX11_wrong_13 rfl (lv_at hl 0 rfl) ?_
    refine lv_iload_n hx hb dX11_wrong_14 rfl (lv_at hl 1 rfl) ?_
    refine pM_m_fault hC hD hP hS tw_1288 dX11_wrong_15 (rf_upL I [(8, v1), (9, m_place), (11, 1)]) (rf_put rfl) (fun H locs hP hS => ?_)
    refine lv_aload_n hx hb dX11_wrong_18 rfl (lv_at hl 0 rfl) ?_
    refine lv_iload_n hx hb dX11_wrong_19 rfl (lv_at hl 2 rfl) ?_
    refine pM_m_place hC hD hP hS tw_1289 dX11_wrong_20 (rf_upL I [(8, v1), (9, v2), (11, 1)]) (rf_put rfl) (fun H locs hP hS => ?_)
    obtain rfl := Option.some.inj hf
    exact rf_retv hC hP hS rfl dX11_wrong_23
  have hf := rf_ie c_4 hf
  obtain rfl := Option.some.inj hf
  exact rf_retv hC hP hS rfl dX11_wrong_7
set_option maxHeartbeats 4000000 in
set_option maxRecDepth 100000 in
theorem w_X11_letterHere_54 {l : Launch} {p : Program} {e : Env} {s : State} {m : MethodId} {args : Array Value} {below : List Frame} {meth : Method} {c : Code} {A0 : Nat → Prop} {E : rf_E} {a : Nat → Nat} {I : Nat → Int32} {A : Nat → Nat → Int32} {m_at : Int32} {m_token : Int32} {m_nameSize : Int32} {m_letters : Nat → Int32} {z : Int32 × Int32 × Int32 × Int32} (hC : rf_C p E s m args meth c cX11_letterHere 1 RX11 (some .int) A0) (hD : va_D A0 (cM E a I A)) (e_m_at : I 3 = m_at) (e_m_token : I 5 = m_token) (e_m_nameSize : I 7 = m_nameSize) (e_m_letters : A 1 = m_letters) :
    ∀ (m_fault : Int32) (m_place : Int32) (m_failed : Int32), f_X11_letterHere_54 m_at m_token m_nameSize m_letters m_fault m_place m_failed = some z → ∀ (H : Heap) (locs : List Loc) (ls : Array Slot), va_P (rf_D E) vwCl (cM E a (rf_upL I [(8, m_fault), (9, m_place), (11, m_failed)]) A) H → va_S A0 s.heap H locs → lv_has ls 1 [(0, .ref (a 0))] → W p l e ({ frames := 2, cells := 0, slots := 0, locals := 44 }) s m args below meth c H locs 0 0 (rf_QI below args s E A0 z.1 (cM E a (rf_upL I [(8, z.2.1), (9, z.2.2.1), (11, z.2.2.2)]) A)) (F0 m 54 ls []) := by
  have hx := hC.1
  have hb := hC.2.1
  intro m_fault m_place m_failed hf H locs ls hP hS hl
  unfold f_X11_letterHere_54 at hf
  refine lv_aload_n hx hb dX11_letterHere_54 rfl (lv_at hl 0 rfl) ?_
  refine gM_m_failed hC hP tw_1292 (v := m_failed) rfl dX11_letterHere_55 ?_
  refine lv_if_eq (tgt := 65) hx hb dX11_letterHere_58 (by decide) (fun c_58 => ?_) (fun c_58 => ?_)
  · have hf := rf_it c_58 hf
    refine lv_aload_n hx hb dX11_letterHere_65 rfl (lv_at hl 0 rfl) ?_
    refine gM_m_letters hC hP tw_1291 dX11_letterHere_66 ?_
    refine lv_iconst (v := 0) hx hb dX11_letterHere_69 (by decide) ?_
    refine lM_m_letters hC hP (by decide) (f := m_letters) e_m_letters dX11_letterHere_70 ?_
    refine lv_bipush (v := 97) hx hb dX11_letterHere_71 (by decide) ?_
    refine lv_isub hx hb dX11_letterHere_73 ?_
    obtain rfl := Option.some.inj hf
    exact rf_reti hC hP hS rfl rfl dX11_letterHere_74
  have hf := rf_ie c_58 hf
  refine lv_iconst (v := 0) hx hb dX11_letterHere_61 (by decide) ?_
  refine lv_goto (tgt := 74) hx hb dX11_letterHere_62 (by decide) ?_
  obtain rfl := Option.some.inj hf
  exact rf_reti hC hP hS rfl rfl dX11_letterHere_74
set_option maxHeartbeats 4000000 in
set_option maxRecDepth 100000 in
theorem w_X11_letterHere_44 {l : Launch} {p : Program} {e : Env} {s : State} {m : MethodId} {args : Array Value} {below : List Frame} {meth : Method} {c : Code} {A0 : Nat → Prop} {E : rf_E} {a : Nat → Nat} {I : Nat → Int32} {A : Nat → Nat → Int32} {m_at : Int32} {m_token : Int32} {m_nameSize : Int32} {m_letters : Nat → Int32} {z : Int32 × Int32 × Int32 × Int32} (hC : rf_C p E s m args meth c cX11_letterHere 1 RX11 (some .int) A0) (hD : va_D A0 (cM E a I A)) (e_m_at : I 3 = m_at) (e_m_token : I 5 = m_token) (e_m_nameSize : I 7 = m_nameSize) (e_m_letters : A 1 = m_letters) :
    ∀ (m_fault : Int32) (m_place : Int32) (m_failed : Int32), f_X11_letterHere_44 m_at m_token m_nameSize m_letters m_fault m_place m_failed = some z → ∀ (H : Heap) (locs : List Loc) (ls : Array Slot), va_P (rf_D E) vwCl (cM E a (rf_upL I [(8, m_fault), (9, m_place), (11, m_failed)]) A) H → va_S A0 s.heap H locs → lv_has ls 1 [(0, .ref (a 0))] → W p l e ({ frames := 2, cells := 0, slots := 0, locals := 44 }) s m args below meth c H locs 0 0 (rf_QI below args s E A0 z.1 (cM E a (rf_upL I [(8, z.2.1), (9, z.2.2.1), (11, z.2.2.2)]) A)) (F0 m 44 ls []) := by
  have hx := hC.1
  have hb := hC.2.1
  intro m_fault m_place m_failed hf H locs ls hP hS hl
  unfold f_X11_letterHere_44 at hf
  refine lv_aload_n hx hb dX11_letterHere_44 rfl (lv_at hl 0 rfl) ?_
  refine lv_bipush (v := 7) hx hb dX11_letterHere_45 (by decide) ?_
  refine lv_aload_n hx hb dX11_letterHere_47 rfl (lv_at hl 0 rfl) ?_
  refine gM_m_at hC hP tw_1283 (v := m_at) e_m_at dX11_letterHere_48 ?_
  obtain ⟨z51, hz51, hf⟩ := rf_bd hf
  refine rf_vv (q0 := 0) (ci := 11) hC (c_X11_wrong l E a (rf_upL I [(8, m_fault), (9, m_place), (11, m_failed)]) A m_fault m_place m_failed 7 m_at rfl rfl rfl hz51) kV_X11_wrong tw_1443 ⟨Nat.le_of_ble_eq_true rfl, Nat.le_of_ble_eq_true rfl⟩ rfl rfl rfl rfl rfl hP (rf_DM hD) hS rfl hl.1 (rest := []) rfl (Nat.le_of_ble_eq_true rfl) dX11_letterHere_51 (fun H locs hP hS => ?_)
  rw [rf_cat (f := I) (l := [(8, m_fault), (9, m_place), (11, m_failed)]) (lc := [(8, z51.1), (9, z51.2.1), (11, z51.2.2)]) (l' := [(8, z51.1), (9, z51.2.1), (11, z51.2.2)]) rfl] at hP
  exact w_X11_letterHere_54 hC hD e_m_at e_m_token e_m_nameSize e_m_letters z51.1 z51.2.1 z51.2.2 hf _ _ _ hP hS (lv_sub hl [0] rfl)
set_option maxHeartbeats 4000000 in
set_option maxRecDepth 100000 in
theorem c_X11_letterHere (l : Launch) (E : rf_E) (a : Nat → Nat) (I : Nat → Int32) (A : Nat → Nat → Int32) (m_at : Int32) (m_token : Int32) (m_nameSize : Int32) (m_letters : Nat → Int32) (m_fault : Int32) (m_place : Int32) (m_failed : Int32) {z : Int32 × Int32 × Int32 × Int32} (e_m_at : I 3 = m_at) (e_m_token : I 5 = m_token) (e_m_nameSize : I 7 = m_nameSize) (e_m_letters : A 1 = m_letters) (e_m_fault : I 8 = m_fault) (e_m_place : I 9 = m_place) (e_m_failed : I 11 = m_failed) (hf : f_X11_letterHere m_at m_token m_nameSize m_letters m_fault m_place m_failed = some z) : rf_MI l yX11_letterHere cX11_letterHere 1 (some .int) ({ frames := 2, cells := 0, slots := 0, locals := 44 }) E [.ref (a 0)] (cM E a I A) z.1 (cM E a (rf_upL I [(8, z.2.1), (9, z.2.2.1), (11, z.2.2.2)]) A) := by
  unfold f_X11_letterHere at hf
  refine rf_ofI (by decide) (Nat.le_of_ble_eq_true rfl) ?_
  intro p e s m below meth c A0 ls hC hD hP hS hl
  have hC : rf_C p E s m _ meth c cX11_letterHere 1 RX11 (some .int) A0 := hC
  have hx := hC.1
  have hb := hC.2.1
  have hl : lv_has ls 1 [(0, .ref (a 0))] := hl
  have hP : va_P (rf_D E) vwCl (cM E a (rf_upL I [(8, m_fault), (9, m_place), (11, m_failed)]) A) s.heap := by
    rw [rf_self (f := I) [(8, m_fault), (9, m_place), (11, m_failed)] (rf_fa1 e_m_fault (rf_fa1 e_m_place (rf_fa1 e_m_failed rf_fa0)))]
    exact hP
  refine lv_aload_n hx hb dX11_letterHere_0 rfl (lv_at hl 0 rfl) ?_
  refine gM_m_failed hC hP tw_1292 (v := m_failed) rfl dX11_letterHere_1 ?_
  refine lv_if_eq (tgt := 9) hx hb dX11_letterHere_4 (by decide) (fun c_4 => ?_) (fun c_4 => ?_)
  · have hf := rf_it c_4 hf
    refine lv_aload_n hx hb dX11_letterHere_9 rfl (lv_at hl 0 rfl) ?_
    refine gM_m_token hC hP tw_1285 (v := m_token) e_m_token dX11_letterHere_10 ?_
    refine lv_iconst (v := 2) hx hb dX11_letterHere_13 (by decide) ?_
    refine lv_icmp_eq (tgt := 29) hx hb dX11_letterHere_14 (by decide) (fun c_14 => ?_) (fun c_14 => ?_)
    · have hf := rf_it c_14 hf
      refine lv_aload_n hx hb dX11_letterHere_29 rfl (lv_at hl 0 rfl) ?_
      refine gM_m_nameSize hC hP tw_1287 (v := m_nameSize) e_m_nameSize dX11_letterHere_30 ?_
      refine lv_iconst (v := 1) hx hb dX11_letterHere_33 (by decide) ?_
      refine lv_icmp_ne (tgt := 44) hx hb dX11_letterHere_34 (by decide) (fun c_34 => ?_) (fun c_34 => ?_)
      · have hf := rf_ie c_34 hf
        exact w_X11_letterHere_44 hC hD e_m_at e_m_token e_m_nameSize e_m_letters m_fault m_place m_failed hf _ _ _ hP hS (lv_sub hl [0] rfl)
      have hf := rf_it c_34 hf
      refine lv_aload_n hx hb dX11_letterHere_37 rfl (lv_at hl 0 rfl) ?_
      obtain ⟨z38, hz38, hf⟩ := rf_bd hf
      refine rf_vi (q0 := 0) (ci := 11) hC (c_X11_areLetters l E a (rf_upL I [(8, m_fault), (9, m_place), (11, m_failed)]) A m_nameSize m_letters e_m_nameSize e_m_letters hz38) kV_X11_areLetters tw_1497 ⟨Nat.le_of_ble_eq_true rfl, Nat.le_of_ble_eq_true rfl⟩ rfl rfl rfl rfl rfl hP (rf_DM hD) hS rfl hl.1 (rest := []) rfl (Nat.le_of_ble_eq_true rfl) dX11_letterHere_38 (fun H locs hP hS => ?_)
      refine lv_if_ne (tgt := 54) hx hb dX11_letterHere_41 (by decide) (fun c_41 => ?_) (fun c_41 => ?_)
      · have hf := rf_ie c_41 hf
        exact w_X11_letterHere_54 hC hD e_m_at e_m_token e_m_nameSize e_m_letters m_fault m_place m_failed hf _ _ _ hP hS (lv_sub hl [0] rfl)
      have hf := rf_it c_41 hf
      exact w_X11_letterHere_44 hC hD e_m_at e_m_token e_m_nameSize e_m_letters m_fault m_place m_failed hf _ _ _ hP hS (lv_sub hl [0] rfl)
    have hf := rf_ie c_14 hf
    refine lv_aload_n hx hb dX11_letterHere_17 rfl (lv_at hl 0 rfl) ?_
    refine lv_iconst (v := 1) hx hb dX11_letterHere_18 (by decide) ?_
    refine lv_aload_n hx hb dX11_letterHere_19 rfl (lv_at hl 0 rfl) ?_
    refine gM_m_at hC hP tw_1283 (v := m_at) e_m_at dX11_letterHere_20 ?_
    obtain ⟨z23, hz23, hf⟩ := rf_bd hf
    refine rf_vv (q0 := 0) (ci := 11) hC (c_X11_wrong l E a (rf_upL I [(8, m_fault), (9, m_place), (11, m_failed)]) A m_fault m_place m_failed 1 m_at rfl rfl rfl hz23) kV_X11_wrong tw_1443 ⟨Nat.le_of_ble_eq_true rfl, Nat.le_of_ble_eq_true rfl⟩ rfl rfl rfl rfl rfl hP (rf_DM hD) hS rfl hl.1 (rest := []) rfl (Nat.le_of_ble_eq_true rfl) dX11_letterHere_23 (fun H locs hP hS => ?_)
    rw [rf_cat (f := I) (l := [(8, m_fault), (9, m_place), (11, m_failed)]) (lc := [(8, z23.1), (9, z23.2.1), (11, z23.2.2)]) (l' := [(8, z23.1), (9, z23.2.1), (11, z23.2.2)]) rfl] at hP
    refine lv_goto (tgt := 54) hx hb dX11_letterHere_26 (by decide) ?_
    exact w_X11_letterHere_54 hC hD e_m_at e_m_token e_m_nameSize e_m_letters z23.1 z23.2.1 z23.2.2 hf _ _ _ hP hS (lv_sub hl [0] rfl)
  have hf := rf_ie c_4 hf
  refine lv_iconst (v := 0) hx hb dX11_letterHere_7 (by decide) ?_
  obtain rfl := Option.some.inj hf
  exact rf_reti hC hP hS rfl rfl dX11_letterHere_8
set_option maxHeartbeats 4000000 in
set_option maxRecDepth 100000 in
theorem w_X11_alikeLine_66 {l : Launch} {p : Program} {e : Env} {s : State} {m : MethodId} {args : Array Value} {below : List Frame} {meth : Method} {c : Code} {A0 : Nat → Prop} {E : rf_E} {a : Nat → Nat} {I : Nat → Int32} {A : Nat → Nat → Int32} {m_size : Int32} {m_tape : Nat → Int32} {z : Int32 × Int32 × Int32 × Int32 × Int32 × Int32 × Int32 × Int32 × (Nat → Int32) × (Nat → Int32)} (hC : rf_C p E s m args meth c cX11_alikeLine 3 RX11 (none) A0) (hD : va_D A0 (cM E a I A)) (e_m_size : I 2 = m_size) (e_m_tape : A 0 = m_tape) :
    ∀ (v1 : Int32) (v2 : Int32) (m_at : Int32) (m_end : Int32) (m_token : Int32) (m_whole : Int32) (m_nameSize : Int32) (m_fault : Int32) (m_place : Int32) (m_failed : Int32) (m_letters : Nat → Int32) (m_fresh : Nat → Int32), f_X11_alikeLine_66 m_size m_tape v1 v2 m_at m_end m_token m_whole m_nameSize m_fault m_place m_failed m_letters m_fresh = some z → ∀ (H : Heap) (locs : List Loc) (ls : Array Slot), va_P (rf_D E) vwCl (cM E a (rf_upL I [(3, m_at), (4, m_end), (5, m_token), (6, m_whole), (7, m_nameSize), (8, m_fault), (9, m_place), (11, m_failed)]) (rf_upL A [(1, m_letters), (3, m_fresh)])) H → va_S A0 s.heap H locs → lv_has ls 3 [(0, .ref (a 0)), (1, .int v1), (2, .int v2)] → W p l e ({ frames := 3, cells := 0, slots := 0, locals := 64 }) s m args below meth c H locs 0 0 (rf_QV below args s E A0 (cM E a (rf_upL I [(3, z.1), (4, z.2.1), (5, z.2.2.1), (6, z.2.2.2.1), (7, z.2.2.2.2.1), (8, z.2.2.2.2.2.1), (9, z.2.2.2.2.2.2.1), (11, z.2.2.2.2.2.2.2.1)]) (rf_upL A [(1, z.2.2.2.2.2.2.2.2.1), (3, z.2.2.2.2.2.2.2.2.2)]))) (F0 m 66 ls []) := by
  have hx := hC.1
  have hb := hC.2.1
  intro v1 v2 m_at m_end m_token m_whole m_nameSize m_fault m_place m_failed m_letters m_fresh hf H locs ls hP hS hl
  unfold f_X11_alikeLine_66 at hf
  refine lv_aload_n hx hb dX11_alikeLine_66 rfl (lv_at hl 0 rfl) ?_
  refine gM_m_failed hC hP tw_1292 (v := m_failed) rfl dX11_alikeLine_67 ?_
  refine lv_if_eq (tgt := 74) hx hb dX11_alikeLine_70 (by decide) (fun c_70 => ?_) (fun c_70 => ?_)
  · have hf := rf_it c_70 hf
    refine lv_aload_n hx hb dX11_alikeLine_74 rfl (lv_at hl 0 rfl) ?_
    obtain ⟨z75, hz75, hf⟩ := rf_bd hf
    refine rf_vv (q0 := 0) (ci := 11) hC (c_X11_next l E a (rf_upL I [(3, m_at), (4, m_end), (5, m_token), (6, m_whole), (7, m_nameSize), (8, m_fault), (9, m_place), (11, m_failed)]) (rf_upL A [(1, m_letters), (3, m_fresh)]) m_size m_tape m_at m_end m_token m_whole m_nameSize m_letters e_m_size e_m_tape rfl rfl rfl rfl rfl rfl hz75) kV_X11_next tw_1414 ⟨Nat.le_of_ble_eq_true rfl, Nat.le_of_ble_eq_true rfl⟩ rfl rfl rfl rfl rfl hP (rf_DM hD) hS rfl hl.1 (rest := []) rfl (Nat.le_of_ble_eq_true rfl) dX11_alikeLine_75 (fun H locs hP hS => ?_)
    rw [rf_cat (f := I) (l := [(3, m_at), (4, m_end), (5, m_token), (6, m_whole), (7, m_nameSize), (8, m_fault), (9, m_place), (11, m_failed)]) (lc := [(3, z75.1), (4, z75.2.1), (5, z75.2.2.1), (6, z75.2.2.2.1), (7, z75.2.2.2.2.1)]) (l' := [(3, z75.1), (4, z75.2.1), (5, z75.2.2.1), (6, z75.2.2.2.1), (7, z75.2.2.2.2.1), (8, m_fault), (9, m_place), (11, m_failed)]) rfl] at hP
    rw [rf_cat (f := A) (l := [(1, m_letters), (3, m_fresh)]) (lc := [(1, z75.2.2.2.2.2)]) (l' := [(1, z75.2.2.2.2.2), (3, m_fresh)]) rfl] at hP
    refine lv_aload_n hx hb dX11_alikeLine_78 rfl (lv_at hl 0 rfl) ?_
    refine gM_m_fresh hC hP tw_1295 dX11_alikeLine_79 ?_
    refine lv_bipush (v := 121) hx hb dX11_alikeLine_82 (by decide) ?_
    refine lv_iload_n hx hb dX11_alikeLine_84 rfl (lv_at hl 1 rfl) ?_
    refine lv_iadd hx hb dX11_alikeLine_85 ?_
    refine lv_dup2_11 hx hb dX11_alikeLine_86 rfl rfl ?_
    obtain ⟨hi_87, hf⟩ := rf_gu hf
    refine lM_m_fresh hC hP hi_87 (f := m_fresh) rfl dX11_alikeLine_87 ?_
    refine lv_iconst (v := 1) hx hb dX11_alikeLine_88 (by decide) ?_
    refine lv_iload_n hx hb dX11_alikeLine_89 rfl (lv_at hl 2 rfl) ?_
    refine lv_ishl hx hb dX11_alikeLine_90 ?_
    refine lv_ior hx hb dX11_alikeLine_91 ?_
    obtain ⟨hi_92, hf⟩ := rf_gu hf
    refine sM_m_fresh hC hD hP hS hi_92 (f := m_fresh) rfl dX11_alikeLine_92 (rf_upL A [(1, z75.2.2.2.2.2), (3, upd m_fresh (Int32.toNatClampNeg ((121 : Int32) + v1)) ((m_fresh (Int32.toNatClampNeg ((121 : Int32) + v1))) ||| ((1 : Int32) <<< (v2 &&& 31))))]) (rf_put rfl) (fun H locs hP hS => ?_)
    refine lv_aload_n hx hb dX11_alikeLine_93 rfl (lv_at hl 0 rfl) ?_
    refine gM_m_fresh hC hP tw_1295 dX11_alikeLine_94 ?_
    refine lv_bipush (v := 121) hx hb dX11_alikeLine_97 (by decide) ?_
    refine lv_iload_n hx hb dX11_alikeLine_99 rfl (lv_at hl 2 rfl) ?_
    refine lv_iadd hx hb dX11_alikeLine_100 ?_
    refine lv_dup2_11 hx hb dX11_alikeLine_101 rfl rfl ?_
    obtain ⟨hi_102, hf⟩ := rf_gu hf
    refine lM_m_fresh hC hP hi_102 (f := upd m_fresh (Int32.toNatClampNeg ((121 : Int32) + v1)) ((m_fresh (Int32.toNatClampNeg ((121 : Int32) + v1))) ||| ((1 : Int32) <<< (v2 &&& 31)))) rfl dX11_alikeLine_102 ?_
    refine lv_iconst (v := 1) hx hb dX11_alikeLine_103 (by decide) ?_
    refine lv_iload_n hx hb dX11_alikeLine_104 rfl (lv_at hl 1 rfl) ?_
    refine lv_ishl hx hb dX11_alikeLine_105 ?_
    refine lv_ior hx hb dX11_alikeLine_106 ?_
    obtain ⟨hi_107, hf⟩ := rf_gu hf
    refine sM_m_fresh hC hD hP hS hi_107 (f := upd m_fresh (Int32.toNatClampNeg ((121 : Int32) + v1)) ((m_fresh (Int32.toNatClampNeg ((121 : Int32) + v1))) ||| ((1 : Int32) <<< (v2 &&& 31)))) rfl dX11_alikeLine_107 (rf_upL A [(1, z75.2.2.2.2.2), (3, upd (upd m_fresh (Int32.toNatClampNeg ((121 : Int32) + v1)) ((m_fresh (Int32.toNatClampNeg ((121 : Int32) + v1))) ||| ((1 : Int32) <<< (v2 &&& 31)))) (Int32.toNatClampNeg ((121 : Int32) + v2)) (((upd m_fresh (Int32.toNatClampNeg ((121 : Int32) + v1)) ((m_fresh (Int32.toNatClampNeg ((121 : Int32) + v1))) ||| ((1 : Int32) <<< (v2 &&& 31)))) (Int32.toNatClampNeg ((121 : Int32) + v2))) ||| ((1 : Int32) <<< (v1 &&& 31))))]) (rf_put rfl) (fun H locs hP hS => ?_)
    refine lv_aload_n hx hb dX11_alikeLine_108 rfl (lv_at hl 0 rfl) ?_
    refine gM_m_fresh hC hP tw_1295 dX11_alikeLine_109 ?_
    refine lv_iconst (v := 4) hx hb dX11_alikeLine_112 (by decide) ?_
    refine lv_dup2_11 hx hb dX11_alikeLine_113 rfl rfl ?_
    refine lM_m_fresh hC hP (by decide) (f := upd (upd m_fresh (Int32.toNatClampNeg ((121 : Int32) + v1)) ((m_fresh (Int32.toNatClampNeg ((121 : Int32) + v1))) ||| ((1 : Int32) <<< (v2 &&& 31)))) (Int32.toNatClampNeg ((121 : Int32) + v2)) (((upd m_fresh (Int32.toNatClampNeg ((121 : Int32) + v1)) ((m_fresh (Int32.toNatClampNeg ((121 : Int32) + v1))) ||| ((1 : Int32) <<< (v2 &&& 31)))) (Int32.toNatClampNeg ((121 : Int32) + v2))) ||| ((1 : Int32) <<< (v1 &&& 31)))) rfl dX11_alikeLine_114 ?_
    refine lv_iconst (v := 1) hx hb dX11_alikeLine_115 (by decide) ?_
    refine lv_iadd hx hb dX11_alikeLine_116 ?_
    refine sM_m_fresh hC hD hP hS (by decide) (f := upd (upd m_fresh (Int32.toNatClampNeg ((121 : Int32) + v1)) ((m_fresh (Int32.toNatClampNeg ((121 : Int32) + v1))) ||| ((1 : Int32) <<< (v2 &&& 31)))) (Int32.toNatClampNeg ((121 : Int32) + v2)) (((upd m_fresh (Int32.toNatClampNeg ((121 : Int32) + v1)) ((m_fresh (Int32.toNatClampNeg ((121 : Int32) + v1))) ||| ((1 : Int32) <<< (v2 &&& 31)))) (Int32.toNatClampNeg ((121 : Int32) + v2))) ||| ((1 : Int32) <<< (v1 &&& 31)))) rfl dX11_alikeLine_117 (rf_upL A [(1, z75.2.2.2.2.2), (3, upd (upd (upd m_fresh (Int32.toNatClampNeg ((121 : Int32) + v1)) ((m_fresh (Int32.toNatClampNeg ((121 : Int32) + v1))) ||| ((1 : Int32) <<< (v2 &&& 31)))) (Int32.toNatClampNeg ((121 : Int32) + v2)) (((upd m_fresh (Int32.toNatClampNeg ((121 : Int32) + v1)) ((m_fresh (Int32.toNatClampNeg ((121 : Int32) + v1))) ||| ((1 : Int32) <<< (v2 &&& 31)))) (Int32.toNatClampNeg ((121 : Int32) + v2))) ||| ((1 : Int32) <<< (v1 &&& 31)))) (Int32.toNatClampNeg 4) (((upd (upd m_fresh (Int32.toNatClampNeg ((121 : Int32) + v1)) ((m_fresh (Int32.toNatClampNeg ((121 : Int32) + v1))) ||| ((1 : Int32) <<< (v2 &&& 31)))) (Int32.toNatClampNeg ((121 : Int32) + v2)) (((upd m_fresh (Int32.toNatClampNeg ((121 : Int32) + v1)) ((m_fresh (Int32.toNatClampNeg ((121 : Int32) + v1))) ||| ((1 : Int32) <<< (v2 &&& 31)))) (Int32.toNatClampNeg ((121 : Int32) + v2))) ||| ((1 : Int32) <<< (v1 &&& 31)))) (Int32.toNatClampNeg 4)) + 1))]) (rf_put rfl) (fun H locs hP hS => ?_)
    obtain rfl := Option.some.inj hf
    exact rf_retv hC hP hS rfl dX11_alikeLine_118
  have hf := rf_ie c_70 hf
  obtain rfl := Option.some.inj hf
  exact rf_retv hC hP hS rfl dX11_alikeLine_73
set_option maxHeartbeats 4000000 in
set_option maxRecDepth 100000 in
theorem w_X11_alikeLine_57 {l : Launch} {p : Program} {e : Env} {s : State} {m : MethodId} {args : Array Value} {below : List Frame} {meth : Method} {c : Code} {A0 : Nat → Prop} {E : rf_E} {a : Nat → Nat} {I : Nat → Int32} {A : Nat → Nat → Int32} {m_size : Int32} {m_tape : Nat → Int32} {z : Int32 × Int32 × Int32 × Int32 × Int32 × Int32 × Int32 × Int32 × (Nat → Int32) × (Nat → Int32)} (hC : rf_C p E s m args meth c cX11_alikeLine 3 RX11 (none) A0) (hD : va_D A0 (cM E a I A)) (e_m_size : I 2 = m_size) (e_m_tape : A 0 = m_tape) :
    ∀ (v1 : Int32) (v2 : Int32) (m_at : Int32) (m_end : Int32) (m_token : Int32) (m_whole : Int32) (m_nameSize : Int32) (m_fault : Int32) (m_place : Int32) (m_failed : Int32) (m_letters : Nat → Int32) (m_fresh : Nat → Int32), f_X11_alikeLine_57 m_size m_tape v1 v2 m_at m_end m_token m_whole m_nameSize m_fault m_place m_failed m_letters m_fresh = some z → ∀ (H : Heap) (locs : List Loc) (ls : Array Slot), va_P (rf_D E) vwCl (cM E a (rf_upL I [(3, m_at), (4, m_end), (5, m_token), (6, m_whole), (7, m_nameSize), (8, m_fault), (9, m_place), (11, m_failed)]) (rf_upL A [(1, m_letters), (3, m_fresh)])) H → va_S A0 s.heap H locs → lv_has ls 3 [(0, .ref (a 0)), (1, .int v1), (2, .int v2)] → W p l e ({ frames := 3, cells := 0, slots := 0, locals := 64 }) s m args below meth c H locs 0 0 (rf_QV below args s E A0 (cM E a (rf_upL I [(3, z.1), (4, z.2.1), (5, z.2.2.1), (6, z.2.2.2.1), (7, z.2.2.2.2.1), (8, z.2.2.2.2.2.1), (9, z.2.2.2.2.2.2.1), (11, z.2.2.2.2.2.2.2.1)]) (rf_upL A [(1, z.2.2.2.2.2.2.2.2.1), (3, z.2.2.2.2.2.2.2.2.2)]))) (F0 m 57 ls []) := by
  have hx := hC.1
  have hb := hC.2.1
  intro v1 v2 m_at m_end m_token m_whole m_nameSize m_fault m_place m_failed m_letters m_fresh hf H locs ls hP hS hl
  unfold f_X11_alikeLine_57 at hf
  refine lv_aload_n hx hb dX11_alikeLine_57 rfl (lv_at hl 0 rfl) ?_
  refine lv_iconst (v := 3) hx hb dX11_alikeLine_58 (by decide) ?_
  refine lv_aload_n hx hb dX11_alikeLine_59 rfl (lv_at hl 0 rfl) ?_
  refine gM_m_at hC hP tw_1283 (v := m_at) rfl dX11_alikeLine_60 ?_
  obtain ⟨z63, hz63, hf⟩ := rf_bd hf
  refine rf_vv (q0 := 0) (ci := 11) hC (c_X11_wrong l E a (rf_upL I [(3, m_at), (4, m_end), (5, m_token), (6, m_whole), (7, m_nameSize), (8, m_fault), (9, m_place), (11, m_failed)]) (rf_upL A [(1, m_letters), (3, m_fresh)]) m_fault m_place m_failed 3 m_at rfl rfl rfl hz63) kV_X11_wrong tw_1443 ⟨Nat.le_of_ble_eq_true rfl, Nat.le_of_ble_eq_true rfl⟩ rfl rfl rfl rfl rfl hP (rf_DM hD) hS rfl hl.1 (rest := []) rfl (Nat.le_of_ble_eq_true rfl) dX11_alikeLine_63 (fun H locs hP hS => ?_)
  rw [rf_cat (f := I) (l := [(3, m_at), (4, m_end), (5, m_token), (6, m_whole), (7, m_nameSize), (8, m_fault), (9, m_place), (11, m_failed)]) (lc := [(8, z63.1), (9, z63.2.1), (11, z63.2.2)]) (l' := [(3, m_at), (4, m_end), (5, m_token), (6, m_whole), (7, m_nameSize), (8, z63.1), (9, z63.2.1), (11, z63.2.2)]) rfl] at hP
  exact w_X11_alikeLine_66 hC hD e_m_size e_m_tape v1 v2 m_at m_end m_token m_whole m_nameSize z63.1 z63.2.1 z63.2.2 m_letters m_fresh hf _ _ _ hP hS (lv_sub hl [0, 1, 2] rfl)
set_option maxHeartbeats 4000000 in
set_option maxRecDepth 100000 in
theorem w_X11_alikeLine_24 {l : Launch} {p : Program} {e : Env} {s : State} {m : MethodId} {args : Array Value} {below : List Frame} {meth : Method} {c : Code} {A0 : Nat → Prop} {E : rf_E} {a : Nat → Nat} {I : Nat → Int32} {A : Nat → Nat → Int32} {m_size : Int32} {m_tape : Nat → Int32} {z : Int32 × Int32 × Int32 × Int32 × Int32 × Int32 × Int32 × Int32 × (Nat → Int32) × (Nat → Int32)} (hC : rf_C p E s m args meth c cX11_alikeLine 3 RX11 (none) A0) (hD : va_D A0 (cM E a I A)) (e_m_size : I 2 = m_size) (e_m_tape : A 0 = m_tape) :
    ∀ (v1 : Int32) (m_at : Int32) (m_end : Int32) (m_token : Int32) (m_whole : Int32) (m_nameSize : Int32) (m_fault : Int32) (m_place : Int32) (m_failed : Int32) (m_letters : Nat → Int32) (m_fresh : Nat → Int32), f_X11_alikeLine_24 m_size m_tape v1 m_at m_end m_token m_whole m_nameSize m_fault m_place m_failed m_letters m_fresh = some z → ∀ (H : Heap) (locs : List Loc) (ls : Array Slot), va_P (rf_D E) vwCl (cM E a (rf_upL I [(3, m_at), (4, m_end), (5, m_token), (6, m_whole), (7, m_nameSize), (8, m_fault), (9, m_place), (11, m_failed)]) (rf_upL A [(1, m_letters), (3, m_fresh)])) H → va_S A0 s.heap H locs → lv_has ls 3 [(0, .ref (a 0)), (1, .int v1)] → W p l e ({ frames := 3, cells := 0, slots := 0, locals := 64 }) s m args below meth c H locs 0 0 (rf_QV below args s E A0 (cM E a (rf_upL I [(3, z.1), (4, z.2.1), (5, z.2.2.1), (6, z.2.2.2.1), (7, z.2.2.2.2.1), (8, z.2.2.2.2.2.1), (9, z.2.2.2.2.2.2.1), (11, z.2.2.2.2.2.2.2.1)]) (rf_upL A [(1, z.2.2.2.2.2.2.2.2.1), (3, z.2.2.2.2.2.2.2.2.2)]))) (F0 m 24 ls []) := by
  have hx := hC.1
  have hb := hC.2.1
  intro v1 m_at m_end m_token m_whole m_nameSize m_fault m_place m_failed m_letters m_fresh hf H locs ls hP hS hl
  unfold f_X11_alikeLine_24 at hf
  refine lv_aload_n hx hb dX11_alikeLine_24 rfl (lv_at hl 0 rfl) ?_
  obtain ⟨z25, hz25, hf⟩ := rf_bd hf
  refine rf_vi (q0 := 0) (ci := 11) hC (c_X11_letterHere l E a (rf_upL I [(3, m_at), (4, m_end), (5, m_token), (6, m_whole), (7, m_nameSize), (8, m_fault), (9, m_place), (11, m_failed)]) (rf_upL A [(1, m_letters), (3, m_fresh)]) m_at m_token m_nameSize m_letters m_fault m_place m_failed rfl rfl rfl rfl rfl rfl rfl hz25) kV_X11_letterHere tw_1546 ⟨Nat.le_of_ble_eq_true rfl, Nat.le_of_ble_eq_true rfl⟩ rfl rfl rfl rfl rfl hP (rf_DM hD) hS rfl hl.1 (rest := []) rfl (Nat.le_of_ble_eq_true rfl) dX11_alikeLine_25 (fun H locs hP hS => ?_)
  rw [rf_cat (f := I) (l := [(3, m_at), (4, m_end), (5, m_token), (6, m_whole), (7, m_nameSize), (8, m_fault), (9, m_place), (11, m_failed)]) (lc := [(8, z25.2.1), (9, z25.2.2.1), (11, z25.2.2.2)]) (l' := [(3, m_at), (4, m_end), (5, m_token), (6, m_whole), (7, m_nameSize), (8, z25.2.1), (9, z25.2.2.1), (11, z25.2.2.2)]) rfl] at hP
  refine lv_istore_n (lv' := [(2, .int z25.1), (0, .ref (a 0)), (1, .int v1)]) hx hb dX11_alikeLine_28 rfl hl (by decide) rfl (fun ls hl => ?_)
  refine lv_aload_n hx hb dX11_alikeLine_29 rfl (lv_at hl 1 rfl) ?_
  refine gM_m_failed hC hP tw_1292 (v := z25.2.2.2) rfl dX11_alikeLine_30 ?_
  refine lv_if_ne (tgt := 66) hx hb dX11_alikeLine_33 (by decide) (fun c_33 => ?_) (fun c_33 => ?_)
  · have hf := rf_ie c_33 hf
    exact w_X11_alikeLine_66 hC hD e_m_size e_m_tape v1 z25.1 m_at m_end m_token m_whole m_nameSize z25.2.1 z25.2.2.1 z25.2.2.2 m_letters m_fresh hf _ _ _ hP hS (lv_sub hl [1, 2, 0] rfl)
  have hf := rf_it c_33 hf
  refine lv_iload_n hx hb dX11_alikeLine_36 rfl (lv_at hl 2 rfl) ?_
  refine lv_iload_n hx hb dX11_alikeLine_37 rfl (lv_at hl 0 rfl) ?_
  refine lv_icmp_eq (tgt := 57) hx hb dX11_alikeLine_38 (by decide) (fun c_38 => ?_) (fun c_38 => ?_)
  · have hf := rf_it c_38 hf
    exact w_X11_alikeLine_57 hC hD e_m_size e_m_tape v1 z25.1 m_at m_end m_token m_whole m_nameSize z25.2.1 z25.2.2.1 z25.2.2.2 m_letters m_fresh hf _ _ _ hP hS (lv_sub hl [1, 2, 0] rfl)
  have hf := rf_ie c_38 hf
  refine lv_aload_n hx hb dX11_alikeLine_41 rfl (lv_at hl 1 rfl) ?_
  refine gM_m_fresh hC hP tw_1295 dX11_alikeLine_42 ?_
  refine lv_bipush (v := 121) hx hb dX11_alikeLine_45 (by decide) ?_
  refine lv_iload_n hx hb dX11_alikeLine_47 rfl (lv_at hl 2 rfl) ?_
  refine lv_iadd hx hb dX11_alikeLine_48 ?_
  obtain ⟨hi_49, hf⟩ := rf_gu hf
  refine lM_m_fresh hC hP hi_49 (f := m_fresh) rfl dX11_alikeLine_49 ?_
  refine lv_iload_n hx hb dX11_alikeLine_50 rfl (lv_at hl 0 rfl) ?_
  obtain ⟨z51, hz51, hf⟩ := rf_bd hf
  refine rf_si0 hC (c_X11_hasBit l E (m_fresh (Int32.toNatClampNeg ((121 : Int32) + v1))) z25.1 hz51) kS_X11_hasBit tw_1539 ⟨Nat.le_of_ble_eq_true rfl, Nat.le_of_ble_eq_true rfl⟩ rfl rfl hP hS rfl hl.1 (rest := []) rfl (Nat.le_of_ble_eq_true rfl) dX11_alikeLine_51 (fun H locs hP hS => ?_)
  refine lv_if_eq (tgt := 66) hx hb dX11_alikeLine_54 (by decide) (fun c_54 => ?_) (fun c_54 => ?_)
  · have hf := rf_it c_54 hf
    exact w_X11_alikeLine_66 hC hD e_m_size e_m_tape v1 z25.1 m_at m_end m_token m_whole m_nameSize z25.2.1 z25.2.2.1 z25.2.2.2 m_letters m_fresh hf _ _ _ hP hS (lv_sub hl [1, 2, 0] rfl)
  have hf := rf_ie c_54 hf
  exact w_X11_alikeLine_57 hC hD e_m_size e_m_tape v1 z25.1 m_at m_end m_token m_whole m_nameSize z25.2.1 z25.2.2.1 z25.2.2.2 m_letters m_fresh hf _ _ _ hP hS (lv_sub hl [1, 2, 0] rfl)
set_option maxHeartbeats 4000000 in
set_option maxRecDepth 100000 in
theorem c_X11_alikeLine (l : Launch) (E : rf_E) (a : Nat → Nat) (I : Nat → Int32) (A : Nat → Nat → Int32) (m_size : Int32) (m_tape : Nat → Int32) (m_at : Int32) (m_end : Int32) (m_token : Int32) (m_whole : Int32) (m_nameSize : Int32) (m_fault : Int32) (m_place : Int32) (m_failed : Int32) (m_letters : Nat → Int32) (m_fresh : Nat → Int32) {z : Int32 × Int32 × Int32 × Int32 × Int32 × Int32 × Int32 × Int32 × (Nat → Int32) × (Nat → Int32)} (e_m_size : I 2 = m_size) (e_m_tape : A 0 = m_tape) (e_m_at : I 3 = m_at) (e_m_end : I 4 = m_end) (e_m_token : I 5 = m_token) (e_m_whole : I 6 = m_whole) (e_m_nameSize : I 7 = m_nameSize) (e_m_fault : I 8 = m_fault) (e_m_place : I 9 = m_place) (e_m_failed : I 11 = m_failed) (e_m_letters : A 1 = m_letters) (e_m_fresh : A 3 = m_fresh) (hf : f_X11_alikeLine m_size m_tape m_at m_end m_token m_whole m_nameSize m_fault m_place m_failed m_letters m_fresh = some z) : rf_MV l yX11_alikeLine cX11_alikeLine 3 ({ frames := 3, cells := 0, slots := 0, locals := 64 }) E [.ref (a 0)] (cM E a I A) (cM E a (rf_upL I [(3, z.1), (4, z.2.1), (5, z.2.2.1), (6, z.2.2.2.1), (7, z.2.2.2.2.1), (8, z.2.2.2.2.2.1), (9, z.2.2.2.2.2.2.1), (11, z.2.2.2.2.2.2.2.1)]) (rf_upL A [(1, z.2.2.2.2.2.2.2.2.1), (3, z.2.2.2.2.2.2.2.2.2)])) := by
  unfold f_X11_alikeLine at hf
  refine rf_ofV (by decide) (Nat.le_of_ble_eq_true rfl) ?_
  intro p e s m below meth c A0 ls hC hD hP hS hl
  have hC : rf_C p E s m _ meth c cX11_alikeLine 3 RX11 (none) A0 := hC
  have hx := hC.1
  have hb := hC.2.1
  have hl : lv_has ls 3 [(0, .ref (a 0))] := hl
  have hP : va_P (rf_D E) vwCl (cM E a (rf_upL I [(3, m_at), (4, m_end), (5, m_token), (6, m_whole), (7, m_nameSize), (8, m_fault), (9, m_place), (11, m_failed)]) (rf_upL A [(1, m_letters), (3, m_fresh)])) s.heap := by
    rw [rf_self (f := I) [(3, m_at), (4, m_end), (5, m_token), (6, m_whole), (7, m_nameSize), (8, m_fault), (9, m_place), (11, m_failed)] (rf_fa1 e_m_at (rf_fa1 e_m_end (rf_fa1 e_m_token (rf_fa1 e_m_whole (rf_fa1 e_m_nameSize (rf_fa1 e_m_fault (rf_fa1 e_m_place (rf_fa1 e_m_failed rf_fa0))))))))]
    rw [rf_self (f := A) [(1, m_letters), (3, m_fresh)] (rf_fa1 e_m_letters (rf_fa1 e_m_fresh rf_fa0))]
    exact hP
  refine lv_aload_n hx hb dX11_alikeLine_0 rfl (lv_at hl 0 rfl) ?_
  refine gM_m_failed hC hP tw_1292 (v := m_failed) rfl dX11_alikeLine_1 ?_
  refine lv_if_eq (tgt := 8) hx hb dX11_alikeLine_4 (by decide) (fun c_4 => ?_) (fun c_4 => ?_)
  · have hf := rf_it c_4 hf
    refine lv_aload_n hx hb dX11_alikeLine_8 rfl (lv_at hl 0 rfl) ?_
    obtain ⟨z9, hz9, hf⟩ := rf_bd hf
    refine rf_vi (q0 := 0) (ci := 11) hC (c_X11_letterHere l E a (rf_upL I [(3, m_at), (4, m_end), (5, m_token), (6, m_whole), (7, m_nameSize), (8, m_fault), (9, m_place), (11, m_failed)]) (rf_upL A [(1, m_letters), (3, m_fresh)]) m_at m_token m_nameSize m_letters m_fault m_place m_failed rfl rfl rfl rfl rfl rfl rfl hz9) kV_X11_letterHere tw_1546 ⟨Nat.le_of_ble_eq_true rfl, Nat.le_of_ble_eq_true rfl⟩ rfl rfl rfl rfl rfl hP (rf_DM hD) hS rfl hl.1 (rest := []) rfl (Nat.le_of_ble_eq_true rfl) dX11_alikeLine_9 (fun H locs hP hS => ?_)
    rw [rf_cat (f := I) (l := [(3, m_at), (4, m_end), (5, m_token), (6, m_whole), (7, m_nameSize), (8, m_fault), (9, m_place), (11, m_failed)]) (lc := [(8, z9.2.1), (9, z9.2.2.1), (11, z9.2.2.2)]) (l' := [(3, m_at), (4, m_end), (5, m_token), (6, m_whole), (7, m_nameSize), (8, z9.2.1), (9, z9.2.2.1), (11, z9.2.2.2)]) rfl] at hP
    refine lv_istore_n (lv' := [(1, .int z9.1), (0, .ref (a 0))]) hx hb dX11_alikeLine_12 rfl hl (by decide) rfl (fun ls hl => ?_)
    refine lv_aload_n hx hb dX11_alikeLine_13 rfl (lv_at hl 1 rfl) ?_
    refine gM_m_failed hC hP tw_1292 (v := z9.2.2.2) rfl dX11_alikeLine_14 ?_
    refine lv_if_ne (tgt := 24) hx hb dX11_alikeLine_17 (by decide) (fun c_17 => ?_) (fun c_17 => ?_)
    · have hf := rf_ie c_17 hf
      exact w_X11_alikeLine_24 hC hD e_m_size e_m_tape z9.1 m_at m_end m_token m_whole m_nameSize z9.2.1 z9.2.2.1 z9.2.2.2 m_letters m_fresh hf _ _ _ hP hS (lv_sub hl [1, 0] rfl)
    have hf := rf_it c_17 hf
    refine lv_aload_n hx hb dX11_alikeLine_20 rfl (lv_at hl 1 rfl) ?_
    obtain ⟨z21, hz21, hf⟩ := rf_bd hf
    refine rf_vv (q0 := 0) (ci := 11) hC (c_X11_next l E a (rf_upL I [(3, m_at), (4, m_end), (5, m_token), (6, m_whole), (7, m_nameSize), (8, z9.2.1), (9, z9.2.2.1), (11, z9.2.2.2)]) (rf_upL A [(1, m_letters), (3, m_fresh)]) m_size m_tape m_at m_end m_token m_whole m_nameSize m_letters e_m_size e_m_tape rfl rfl rfl rfl rfl rfl hz21) kV_X11_next tw_1414 ⟨Nat.le_of_ble_eq_true rfl, Nat.le_of_ble_eq_true rfl⟩ rfl rfl rfl rfl rfl hP (rf_DM hD) hS rfl hl.1 (rest := []) rfl (Nat.le_of_ble_eq_true rfl) dX11_alikeLine_21 (fun H locs hP hS => ?_)
    rw [rf_cat (f := I) (l := [(3, m_at), (4, m_end), (5, m_token), (6, m_whole), (7, m_nameSize), (8, z9.2.1), (9, z9.2.2.1), (11, z9.2.2.2)]) (lc := [(3, z21.1), (4, z21.2.1), (5, z21.2.2.1), (6, z21.2.2.2.1), (7, z21.2.2.2.2.1)]) (l' := [(3, z21.1), (4, z21.2.1), (5, z21.2.2.1), (6, z21.2.2.2.1), (7, z21.2.2.2.2.1), (8, z9.2.1), (9, z9.2.2.1), (11, z9.2.2.2)]) rfl] at hP
    rw [rf_cat (f := A) (l := [(1, m_letters), (3, m_fresh)]) (lc := [(1, z21.2.2.2.2.2)]) (l' := [(1, z21.2.2.2.2.2), (3, m_fresh)]) rfl] at hP
    exact w_X11_alikeLine_24 hC hD e_m_size e_m_tape z9.1 z21.1 z21.2.1 z21.2.2.1 z21.2.2.2.1 z21.2.2.2.2.1 z9.2.1 z9.2.2.1 z9.2.2.2 z21.2.2.2.2.2 m_fresh hf _ _ _ hP hS (lv_sub hl [1, 0] rfl)
  have hf := rf_ie c_4 hf
  obtain rfl := Option.some.inj hf
  exact rf_retv hC hP hS rfl dX11_alikeLine_7
set_option maxHeartbeats 4000000 in
set_option maxRecDepth 100000 in
theorem w_X11_isWord_26 {l : Launch} {p : Program} {e : Env} {s : State} {m : MethodId} {args : Array Value} {below : List Frame} {meth : Method} {c : Code} {A0 : Nat → Prop} {E : rf_E} {a : Nat → Nat} {I : Nat → Int32} {A : Nat → Nat → Int32} {m_token : Int32} {m_nameSize : Int32} {m_failed : Int32} {m_letters : Nat → Int32} {z : Int32} (hC : rf_C p E s m args meth c cX11_isWord 4 RX11 (some .boolean) A0) (hD : va_D A0 (cM E a I A)) (e_m_token : I 5 = m_token) (e_m_nameSize : I 7 = m_nameSize) (e_m_failed : I 11 = m_failed) (e_m_letters : A 1 = m_letters) :
    ∀ (_ : Unit), f_X11_isWord_26 m_token m_nameSize m_failed m_letters = some z → ∀ (H : Heap) (locs : List Loc) (ls : Array Slot), va_P (rf_D E) vwCl (cM E a I A) H → va_S A0 s.heap H locs → lv_has ls 4 [] → W p l e ({ frames := 6, cells := 0, slots := 0, locals := 200 }) s m args below meth c H locs 0 0 (rf_QI below args s E A0 z (cM E a I A)) (F0 m 26 ls []) := by
  have hx := hC.1
  have hb := hC.2.1
  intro _ hf H locs ls hP hS hl
  unfold f_X11_isWord_26 at hf
  refine lv_iconst (v := 0) hx hb dX11_isWord_26 (by decide) ?_
  obtain rfl := Option.some.inj hf
  exact rf_retz hC hP hS (by decide) rfl rfl dX11_isWord_27
set_option maxHeartbeats 4000000 in
set_option maxRecDepth 100000 in
theorem w_X11_isWord_63 {l : Launch} {p : Program} {e : Env} {s : State} {m : MethodId} {args : Array Value} {below : List Frame} {meth : Method} {c : Code} {A0 : Nat → Prop} {E : rf_E} {a : Nat → Nat} {I : Nat → Int32} {A : Nat → Nat → Int32} {m_token : Int32} {m_nameSize : Int32} {m_failed : Int32} {m_letters : Nat → Int32} {z : Int32} (hC : rf_C p E s m args meth c cX11_isWord 4 RX11 (some .boolean) A0) (hD : va_D A0 (cM E a I A)) (e_m_token : I 5 = m_token) (e_m_nameSize : I 7 = m_nameSize) (e_m_failed : I 11 = m_failed) (e_m_letters : A 1 = m_letters) {k32 : Nat → Int32 → Int32 → Option (Int32)} (hk32 : ∀ (v1 : Nat) (v2 : Int32) (v3 : Int32), v1 < 49 → k32 v1 v2 v3 = some z → ∀ (H : Heap) (locs : List Loc) (ls : Array Slot), va_P (rf_D E) vwCl (cM E a I A) H → va_S A0 s.heap H locs → lv_has ls 4 [(0, .ref (a 0)), (1, .ref (rf_aK E v1)), (2, .int v2), (3, .int v3)] → W p l e ({ frames := 6, cells := 0, slots := 0, locals := 200 }) s m args below meth c H locs 0 0 (rf_QI below args s E A0 z (cM E a I A)) (F0 m 32 ls [])) :
    ∀ (v1 : Nat) (v3 : Int32) (s0 : Int32), v1 < 49 → f_X11_isWord_63 k32 m_token m_nameSize m_failed m_letters v1 v3 s0 = some z → ∀ (H : Heap) (locs : List Loc) (ls : Array Slot), va_P (rf_D E) vwCl (cM E a I A) H → va_S A0 s.heap H locs → lv_has ls 4 [(0, .ref (a 0)), (1, .ref (rf_aK E v1)), (3, .int v3)] → W p l e ({ frames := 6, cells := 0, slots := 0, locals := 200 }) s m args below meth c H locs 0 0 (rf_QI below args s E A0 z (cM E a I A)) (F0 m 63 ls [.int s0]) := by
  have hx := hC.1
  have hb := hC.2.1
  intro v1 v3 s0 hk_v1 hf H locs ls hP hS hl
  unfold f_X11_isWord_63 at hf
  refine lv_istore_n (lv' := [(2, .int s0), (0, .ref (a 0)), (1, .ref (rf_aK E v1)), (3, .int v3)]) hx hb dX11_isWord_63 rfl hl (by decide) rfl (fun ls hl => ?_)
  refine lv_iinc (v := v3 + 1) (lv' := [(3, .int (v3 + 1)), (2, .int s0), (0, .ref (a 0)), (1, .ref (rf_aK E v1))]) hx hb dX11_isWord_64 hl (k := 3) rfl rfl (by decide) rfl (fun ls hl => ?_)
  refine lv_goto (tgt := 32) hx hb dX11_isWord_67 (by decide) ?_
  exact hk32 v1 s0 (v3 + 1) hk_v1 hf _ _ _ hP hS (lv_sub hl [2, 3, 1, 0] rfl)
set_option maxHeartbeats 4000000 in
set_option maxRecDepth 100000 in
theorem w_X11_isWord_62 {l : Launch} {p : Program} {e : Env} {s : State} {m : MethodId} {args : Array Value} {below : List Frame} {meth : Method} {c : Code} {A0 : Nat → Prop} {E : rf_E} {a : Nat → Nat} {I : Nat → Int32} {A : Nat → Nat → Int32} {m_token : Int32} {m_nameSize : Int32} {m_failed : Int32} {m_letters : Nat → Int32} {z : Int32} (hC : rf_C p E s m args meth c cX11_isWord 4 RX11 (some .boolean) A0) (hD : va_D A0 (cM E a I A)) (e_m_token : I 5 = m_token) (e_m_nameSize : I 7 = m_nameSize) (e_m_failed : I 11 = m_failed) (e_m_letters : A 1 = m_letters) {k32 : Nat → Int32 → Int32 → Option (Int32)} (hk32 : ∀ (v1 : Nat) (v2 : Int32) (v3 : Int32), v1 < 49 → k32 v1 v2 v3 = some z → ∀ (H : Heap) (locs : List Loc) (ls : Array Slot), va_P (rf_D E) vwCl (cM E a I A) H → va_S A0 s.heap H locs → lv_has ls 4 [(0, .ref (a 0)), (1, .ref (rf_aK E v1)), (2, .int v2), (3, .int v3)] → W p l e ({ frames := 6, cells := 0, slots := 0, locals := 200 }) s m args below meth c H locs 0 0 (rf_QI below args s E A0 z (cM E a I A)) (F0 m 32 ls [])) :
    ∀ (v1 : Nat) (v3 : Int32), v1 < 49 → f_X11_isWord_62 k32 m_token m_nameSize m_failed m_letters v1 v3 = some z → ∀ (H : Heap) (locs : List Loc) (ls : Array Slot), va_P (rf_D E) vwCl (cM E a I A) H → va_S A0 s.heap H locs → lv_has ls 4 [(0, .ref (a 0)), (1, .ref (rf_aK E v1)), (3, .int v3)] → W p l e ({ frames := 6, cells := 0, slots := 0, locals := 200 }) s m args below meth c H locs 0 0 (rf_QI below args s E A0 z (cM E a I A)) (F0 m 62 ls []) := by
  have hx := hC.1
  have hb := hC.2.1
  intro v1 v3 hk_v1 hf H locs ls hP hS hl
  unfold f_X11_isWord_62 at hf
  refine lv_iconst (v := 0) hx hb dX11_isWord_62 (by decide) ?_
  exact w_X11_isWord_63 hC hD e_m_token e_m_nameSize e_m_failed e_m_letters hk32 v1 v3 0 hk_v1 hf _ _ _ hP hS (lv_sub hl [0, 1, 2] rfl)
set_option maxHeartbeats 4000000 in
set_option maxRecDepth 100000 in
theorem w_X11_isWord_32 {l : Launch} {p : Program} {e : Env} {s : State} {m : MethodId} {args : Array Value} {below : List Frame} {meth : Method} {c : Code} {A0 : Nat → Prop} {E : rf_E} {a : Nat → Nat} {I : Nat → Int32} {A : Nat → Nat → Int32} {m_token : Int32} {m_nameSize : Int32} {m_failed : Int32} {m_letters : Nat → Int32} {z : Int32} (hC : rf_C p E s m args meth c cX11_isWord 4 RX11 (some .boolean) A0) (hD : va_D A0 (cM E a I A)) (e_m_token : I 5 = m_token) (e_m_nameSize : I 7 = m_nameSize) (e_m_failed : I 11 = m_failed) (e_m_letters : A 1 = m_letters) :
    ∀ (n : Nat), ∀ (v1 : Nat) (v2 : Int32) (v3 : Int32), v1 < 49 → f_X11_isWord_32 m_token m_nameSize m_failed m_letters n v1 v2 v3 = some z → ∀ (H : Heap) (locs : List Loc) (ls : Array Slot), va_P (rf_D E) vwCl (cM E a I A) H → va_S A0 s.heap H locs → lv_has ls 4 [(0, .ref (a 0)), (1, .ref (rf_aK E v1)), (2, .int v2), (3, .int v3)] → W p l e ({ frames := 6, cells := 0, slots := 0, locals := 200 }) s m args below meth c H locs 0 0 (rf_QI below args s E A0 z (cM E a I A)) (F0 m 32 ls []) := by
  have hx := hC.1
  have hb := hC.2.1
  intro n
  induction n with
  | zero =>
    intro v1 v2 v3 hk_v1 hf
    have hf : (none : Option (Int32)) = some z := hf
    cases hf
  | succ n ih =>
    intro v1 v2 v3 hk_v1 hf H locs ls hP hS hl
    rw [f_X11_isWord_32] at hf
    refine lv_iload_n hx hb dX11_isWord_32 rfl (lv_at hl 3 rfl) ?_
    refine lv_aload_n hx hb dX11_isWord_33 rfl (lv_at hl 0 rfl) ?_
    refine gM_m_nameSize hC hP tw_1287 (v := m_nameSize) e_m_nameSize dX11_isWord_34 ?_
    refine lv_icmp_ge (tgt := 70) hx hb dX11_isWord_37 (by decide) (fun c_37 => ?_) (fun c_37 => ?_)
    · have hf := rf_it c_37 hf
      refine lv_iload_n hx hb dX11_isWord_70 rfl (lv_at hl 2 rfl) ?_
      obtain ⟨hz_71, hf⟩ := rf_gu hf
      obtain rfl := Option.some.inj hf
      exact rf_retz hC hP hS hz_71 rfl rfl dX11_isWord_71
    have hf := rf_ie c_37 hf
    refine lv_iload_n hx hb dX11_isWord_40 rfl (lv_at hl 2 rfl) ?_
    refine lv_if_eq (tgt := 62) hx hb dX11_isWord_41 (by decide) (fun c_41 => ?_) (fun c_41 => ?_)
    · have hf := rf_it c_41 hf
      exact w_X11_isWord_62 hC hD e_m_token e_m_nameSize e_m_failed e_m_letters ih v1 v3 hk_v1 hf _ _ _ hP hS (lv_sub hl [0, 1, 3] rfl)
    have hf := rf_ie c_41 hf
    refine lv_aload_n hx hb dX11_isWord_44 rfl (lv_at hl 0 rfl) ?_
    refine gM_m_letters hC hP tw_1291 dX11_isWord_45 ?_
    refine lv_iload_n hx hb dX11_isWord_48 rfl (lv_at hl 3 rfl) ?_
    obtain ⟨hi_49, hf⟩ := rf_gu hf
    refine lM_m_letters hC hP hi_49 (f := m_letters) e_m_letters dX11_isWord_49 ?_
    refine lv_aload_n hx hb dX11_isWord_50 rfl (lv_at hl 1 rfl) ?_
    refine lv_iload_n hx hb dX11_isWord_51 rfl (lv_at hl 3 rfl) ?_
    obtain ⟨hi_52, hf⟩ := rf_gu hf
    refine rf_scat hC hP hS (k := v1) hk_v1 hi_52 tw_1438 hl.1 (Nat.le_of_ble_eq_true rfl) ⟨Nat.le_of_ble_eq_true rfl, Nat.le_of_ble_eq_true rfl⟩ dX11_isWord_52 (fun H locs hP hS => ?_)
    refine lv_icmp_ne (tgt := 62) hx hb dX11_isWord_55 (by decide) (fun c_55 => ?_) (fun c_55 => ?_)
    · have hf := rf_ie c_55 hf
      exact w_X11_isWord_62 hC hD e_m_token e_m_nameSize e_m_failed e_m_letters ih v1 v3 hk_v1 hf _ _ _ hP hS (lv_sub hl [0, 1, 3] rfl)
    have hf := rf_it c_55 hf
    refine lv_iconst (v := 1) hx hb dX11_isWord_58 (by decide) ?_
    refine lv_goto (tgt := 63) hx hb dX11_isWord_59 (by decide) ?_
    exact w_X11_isWord_63 hC hD e_m_token e_m_nameSize e_m_failed e_m_letters ih v1 v3 1 hk_v1 hf _ _ _ hP hS (lv_sub hl [0, 1, 3] rfl)
set_option maxHeartbeats 4000000 in
set_option maxRecDepth 100000 in
theorem c_X11_isWord (l : Launch) (E : rf_E) (a : Nat → Nat) (I : Nat → Int32) (A : Nat → Nat → Int32) (m_token : Int32) (m_nameSize : Int32) (m_failed : Int32) (m_letters : Nat → Int32) (v1 : Nat) {z : Int32} (e_m_token : I 5 = m_token) (e_m_nameSize : I 7 = m_nameSize) (e_m_failed : I 11 = m_failed) (e_m_letters : A 1 = m_letters) (hk_v1 : v1 < 49) (hf : f_X11_isWord m_token m_nameSize m_failed m_letters v1 = some z) : rf_MI l yX11_isWord cX11_isWord 4 (some .boolean) ({ frames := 6, cells := 0, slots := 0, locals := 200 }) E [.ref (a 0), .ref (rf_aK E v1)] (cM E a I A) z (cM E a I A) := by
  unfold f_X11_isWord at hf
  refine rf_ofI (by decide) (Nat.le_of_ble_eq_true rfl) ?_
  intro p e s m below meth c A0 ls hC hD hP hS hl
  have hC : rf_C p E s m _ meth c cX11_isWord 4 RX11 (some .boolean) A0 := hC
  have hx := hC.1
  have hb := hC.2.1
  have hl : lv_has ls 4 [(0, .ref (a 0)), (1, .ref (rf_aK E v1))] := hl
  refine lv_aload_n hx hb dX11_isWord_0 rfl (lv_at hl 0 rfl) ?_
  refine gM_m_failed hC hP tw_1292 (v := m_failed) e_m_failed dX11_isWord_1 ?_
  refine lv_if_ne (tgt := 26) hx hb dX11_isWord_4 (by decide) (fun c_4 => ?_) (fun c_4 => ?_)
  · have hf := rf_ie c_4 hf
    exact w_X11_isWord_26 hC hD e_m_token e_m_nameSize e_m_failed e_m_letters () hf _ _ _ hP hS (lv_sub hl [] rfl)
  have hf := rf_it c_4 hf
  refine lv_aload_n hx hb dX11_isWord_7 rfl (lv_at hl 0 rfl) ?_
  refine gM_m_token hC hP tw_1285 (v := m_token) e_m_token dX11_isWord_8 ?_
  refine lv_iconst (v := 2) hx hb dX11_isWord_11 (by decide) ?_
  refine lv_icmp_ne (tgt := 26) hx hb dX11_isWord_12 (by decide) (fun c_12 => ?_) (fun c_12 => ?_)
  · have hf := rf_ie c_12 hf
    exact w_X11_isWord_26 hC hD e_m_token e_m_nameSize e_m_failed e_m_letters () hf _ _ _ hP hS (lv_sub hl [] rfl)
  have hf := rf_it c_12 hf
  refine lv_aload_n hx hb dX11_isWord_15 rfl (lv_at hl 0 rfl) ?_
  refine gM_m_nameSize hC hP tw_1287 (v := m_nameSize) e_m_nameSize dX11_isWord_16 ?_
  refine lv_aload_n hx hb dX11_isWord_19 rfl (lv_at hl 1 rfl) ?_
  refine rf_slen hC hP hS (k := v1) hk_v1 tw_1437  hl.1 (Nat.le_of_ble_eq_true rfl) ⟨Nat.le_of_ble_eq_true rfl, Nat.le_of_ble_eq_true rfl⟩ dX11_isWord_20 (fun H locs hP hS => ?_)
  refine lv_icmp_eq (tgt := 28) hx hb dX11_isWord_23 (by decide) (fun c_23 => ?_) (fun c_23 => ?_)
  · have hf := rf_it c_23 hf
    refine lv_iconst (v := 1) hx hb dX11_isWord_28 (by decide) ?_
    refine lv_istore_n (lv' := [(2, .int 1), (0, .ref (a 0)), (1, .ref (rf_aK E v1))]) hx hb dX11_isWord_29 rfl hl (by decide) rfl (fun ls hl => ?_)
    refine lv_iconst (v := 0) hx hb dX11_isWord_30 (by decide) ?_
    refine lv_istore_n (lv' := [(3, .int 0), (2, .int 1), (0, .ref (a 0)), (1, .ref (rf_aK E v1))]) hx hb dX11_isWord_31 rfl hl (by decide) rfl (fun ls hl => ?_)
    exact w_X11_isWord_32 hC hD e_m_token e_m_nameSize e_m_failed e_m_letters rf_fu v1 1 0 hk_v1 hf _ _ _ hP hS (lv_sub hl [2, 3, 1, 0] rfl)
  have hf := rf_ie c_23 hf
  exact w_X11_isWord_26 hC hD e_m_token e_m_nameSize e_m_failed e_m_letters () hf _ _ _ hP hS (lv_sub hl [] rfl)
set_option maxHeartbeats 4000000 in
set_option maxRecDepth 100000 in
theorem w_X11_begins_53 {l : Launch} {p : Program} {e : Env} {s : State} {m : MethodId} {args : Array Value} {below : List Frame} {meth : Method} {c : Code} {A0 : Nat → Prop} {E : rf_E} {a : Nat → Nat} {I : Nat → Int32} {A : Nat → Nat → Int32} {m_size : Int32} {m_tape : Nat → Int32} {m_fresh : Nat → Int32} {z : Int32 × Int32 × Int32 × Int32 × Int32 × Int32 × Int32 × Int32 × Int32 × (Nat → Int32)} (hC : rf_C p E s m args meth c cX11_begins 3 RX11 (some .boolean) A0) (hD : va_D A0 (cM E a I A)) (e_m_size : I 2 = m_size) (e_m_tape : A 0 = m_tape) (e_m_fresh : A 3 = m_fresh) :
    ∀ (m_at : Int32) (m_end : Int32) (m_token : Int32) (m_whole : Int32) (m_nameSize : Int32) (m_fault : Int32) (m_place : Int32) (m_failed : Int32) (m_letters : Nat → Int32), f_X11_begins_53 m_size m_tape m_fresh m_at m_end m_token m_whole m_nameSize m_fault m_place m_failed m_letters = some z → ∀ (H : Heap) (locs : List Loc) (ls : Array Slot), va_P (rf_D E) vwCl (cM E a (rf_upL I [(3, m_at), (4, m_end), (5, m_token), (6, m_whole), (7, m_nameSize), (8, m_fault), (9, m_place), (11, m_failed)]) (rf_upL A [(1, m_letters)])) H → va_S A0 s.heap H locs → lv_has ls 3 [] → W p l e ({ frames := 7, cells := 0, slots := 0, locals := 223 }) s m args below meth c H locs 0 0 (rf_QI below args s E A0 z.1 (cM E a (rf_upL I [(3, z.2.1), (4, z.2.2.1), (5, z.2.2.2.1), (6, z.2.2.2.2.1), (7, z.2.2.2.2.2.1), (8, z.2.2.2.2.2.2.1), (9, z.2.2.2.2.2.2.2.1), (11, z.2.2.2.2.2.2.2.2.1)]) (rf_upL A [(1, z.2.2.2.2.2.2.2.2.2)]))) (F0 m 53 ls []) := by
  have hx := hC.1
  have hb := hC.2.1
  intro m_at m_end m_token m_whole m_nameSize m_fault m_place m_failed m_letters hf H locs ls hP hS hl
  unfold f_X11_begins_53 at hf
  refine lv_iconst (v := 1) hx hb dX11_begins_53 (by decide) ?_
  obtain rfl := Option.some.inj hf
  exact rf_retz hC hP hS (by decide) rfl rfl dX11_begins_54
set_option maxHeartbeats 4000000 in
set_option maxRecDepth 100000 in
theorem w_X11_begins_42 {l : Launch} {p : Program} {e : Env} {s : State} {m : MethodId} {args : Array Value} {below : List Frame} {meth : Method} {c : Code} {A0 : Nat → Prop} {E : rf_E} {a : Nat → Nat} {I : Nat → Int32} {A : Nat → Nat → Int32} {m_size : Int32} {m_tape : Nat → Int32} {m_fresh : Nat → Int32} {z : Int32 × Int32 × Int32 × Int32 × Int32 × Int32 × Int32 × Int32 × Int32 × (Nat → Int32)} (hC : rf_C p E s m args meth c cX11_begins 3 RX11 (some .boolean) A0) (hD : va_D A0 (cM E a I A)) (e_m_size : I 2 = m_size) (e_m_tape : A 0 = m_tape) (e_m_fresh : A 3 = m_fresh) :
    ∀ (m_at : Int32) (m_end : Int32) (m_token : Int32) (m_whole : Int32) (m_nameSize : Int32) (m_fault : Int32) (m_place : Int32) (m_failed : Int32) (m_letters : Nat → Int32), f_X11_begins_42 m_size m_tape m_fresh m_at m_end m_token m_whole m_nameSize m_fault m_place m_failed m_letters = some z → ∀ (H : Heap) (locs : List Loc) (ls : Array Slot), va_P (rf_D E) vwCl (cM E a (rf_upL I [(3, m_at), (4, m_end), (5, m_token), (6, m_whole), (7, m_nameSize), (8, m_fault), (9, m_place), (11, m_failed)]) (rf_upL A [(1, m_letters)])) H → va_S A0 s.heap H locs → lv_has ls 3 [(0, .ref (a 0))] → W p l e ({ frames := 7, cells := 0, slots := 0, locals := 223 }) s m args below meth c H locs 0 0 (rf_QI below args s E A0 z.1 (cM E a (rf_upL I [(3, z.2.1), (4, z.2.2.1), (5, z.2.2.2.1), (6, z.2.2.2.2.1), (7, z.2.2.2.2.2.1), (8, z.2.2.2.2.2.2.1), (9, z.2.2.2.2.2.2.2.1), (11, z.2.2.2.2.2.2.2.2.1)]) (rf_upL A [(1, z.2.2.2.2.2.2.2.2.2)]))) (F0 m 42 ls []) := by
  have hx := hC.1
  have hb := hC.2.1
  intro m_at m_end m_token m_whole m_nameSize m_fault m_place m_failed m_letters hf H locs ls hP hS hl
  unfold f_X11_begins_42 at hf
  refine lv_aload_n hx hb dX11_begins_42 rfl (lv_at hl 0 rfl) ?_
  refine gM_m_failed hC hP tw_1292 (v := m_failed) rfl dX11_begins_43 ?_
  refine lv_if_ne (tgt := 53) hx hb dX11_begins_46 (by decide) (fun c_46 => ?_) (fun c_46 => ?_)
  · have hf := rf_ie c_46 hf
    exact w_X11_begins_53 hC hD e_m_size e_m_tape e_m_fresh m_at m_end m_token m_whole m_nameSize m_fault m_place m_failed m_letters hf _ _ _ hP hS (lv_sub hl [] rfl)
  have hf := rf_it c_46 hf
  refine lv_aload_n hx hb dX11_begins_49 rfl (lv_at hl 0 rfl) ?_
  obtain ⟨z50, hz50, hf⟩ := rf_bd hf
  refine rf_vv (q0 := 0) (ci := 11) hC (c_X11_next l E a (rf_upL I [(3, m_at), (4, m_end), (5, m_token), (6, m_whole), (7, m_nameSize), (8, m_fault), (9, m_place), (11, m_failed)]) (rf_upL A [(1, m_letters)]) m_size m_tape m_at m_end m_token m_whole m_nameSize m_letters e_m_size e_m_tape rfl rfl rfl rfl rfl rfl hz50) kV_X11_next tw_1414 ⟨Nat.le_of_ble_eq_true rfl, Nat.le_of_ble_eq_true rfl⟩ rfl rfl rfl rfl rfl hP (rf_DM hD) hS rfl hl.1 (rest := []) rfl (Nat.le_of_ble_eq_true rfl) dX11_begins_50 (fun H locs hP hS => ?_)
  rw [rf_cat (f := I) (l := [(3, m_at), (4, m_end), (5, m_token), (6, m_whole), (7, m_nameSize), (8, m_fault), (9, m_place), (11, m_failed)]) (lc := [(3, z50.1), (4, z50.2.1), (5, z50.2.2.1), (6, z50.2.2.2.1), (7, z50.2.2.2.2.1)]) (l' := [(3, z50.1), (4, z50.2.1), (5, z50.2.2.1), (6, z50.2.2.2.1), (7, z50.2.2.2.2.1), (8, m_fault), (9, m_place), (11, m_failed)]) rfl] at hP
  rw [rf_cat (f := A) (l := [(1, m_letters)]) (lc := [(1, z50.2.2.2.2.2)]) (l' := [(1, z50.2.2.2.2.2)]) rfl] at hP
  exact w_X11_begins_53 hC hD e_m_size e_m_tape e_m_fresh z50.1 z50.2.1 z50.2.2.1 z50.2.2.2.1 z50.2.2.2.2.1 m_fault m_place m_failed z50.2.2.2.2.2 hf _ _ _ hP hS (lv_sub hl [] rfl)
set_option maxHeartbeats 4000000 in
set_option maxRecDepth 100000 in
theorem w_X11_begins_23 {l : Launch} {p : Program} {e : Env} {s : State} {m : MethodId} {args : Array Value} {below : List Frame} {meth : Method} {c : Code} {A0 : Nat → Prop} {E : rf_E} {a : Nat → Nat} {I : Nat → Int32} {A : Nat → Nat → Int32} {m_size : Int32} {m_tape : Nat → Int32} {m_fresh : Nat → Int32} {z : Int32 × Int32 × Int32 × Int32 × Int32 × Int32 × Int32 × Int32 × Int32 × (Nat → Int32)} (hC : rf_C p E s m args meth c cX11_begins 3 RX11 (some .boolean) A0) (hD : va_D A0 (cM E a I A)) (e_m_size : I 2 = m_size) (e_m_tape : A 0 = m_tape) (e_m_fresh : A 3 = m_fresh) :
    ∀ (m_at : Int32) (m_end : Int32) (m_token : Int32) (m_whole : Int32) (m_nameSize : Int32) (m_fault : Int32) (m_place : Int32) (m_failed : Int32) (m_letters : Nat → Int32), f_X11_begins_23 m_size m_tape m_fresh m_at m_end m_token m_whole m_nameSize m_fault m_place m_failed m_letters = some z → ∀ (H : Heap) (locs : List Loc) (ls : Array Slot), va_P (rf_D E) vwCl (cM E a (rf_upL I [(3, m_at), (4, m_end), (5, m_token), (6, m_whole), (7, m_nameSize), (8, m_fault), (9, m_place), (11, m_failed)]) (rf_upL A [(1, m_letters)])) H → va_S A0 s.heap H locs → lv_has ls 3 [(0, .ref (a 0))] → W p l e ({ frames := 7, cells := 0, slots := 0, locals := 223 }) s m args below meth c H locs 0 0 (rf_QI below args s E A0 z.1 (cM E a (rf_upL I [(3, z.2.1), (4, z.2.2.1), (5, z.2.2.2.1), (6, z.2.2.2.2.1), (7, z.2.2.2.2.2.1), (8, z.2.2.2.2.2.2.1), (9, z.2.2.2.2.2.2.2.1), (11, z.2.2.2.2.2.2.2.2.1)]) (rf_upL A [(1, z.2.2.2.2.2.2.2.2.2)]))) (F0 m 23 ls []) := by
  have hx := hC.1
  have hb := hC.2.1
  intro m_at m_end m_token m_whole m_nameSize m_fault m_place m_failed m_letters hf H locs ls hP hS hl
  unfold f_X11_begins_23 at hf
  refine lv_aload_n hx hb dX11_begins_23 rfl (lv_at hl 0 rfl) ?_
  refine gM_m_fresh hC hP tw_1295 dX11_begins_24 ?_
  refine lv_iconst (v := 0) hx hb dX11_begins_27 (by decide) ?_
  refine lM_m_fresh hC hP (by decide) (f := m_fresh) e_m_fresh dX11_begins_28 ?_
  refine lv_if_ne (tgt := 42) hx hb dX11_begins_29 (by decide) (fun c_29 => ?_) (fun c_29 => ?_)
  · have hf := rf_ie c_29 hf
    exact w_X11_begins_42 hC hD e_m_size e_m_tape e_m_fresh m_at m_end m_token m_whole m_nameSize m_fault m_place m_failed m_letters hf _ _ _ hP hS (lv_sub hl [0] rfl)
  have hf := rf_it c_29 hf
  refine lv_aload_n hx hb dX11_begins_32 rfl (lv_at hl 0 rfl) ?_
  refine lv_bipush (v := 6) hx hb dX11_begins_33 (by decide) ?_
  refine lv_aload_n hx hb dX11_begins_35 rfl (lv_at hl 0 rfl) ?_
  refine gM_m_at hC hP tw_1283 (v := m_at) rfl dX11_begins_36 ?_
  obtain ⟨z39, hz39, hf⟩ := rf_bd hf
  refine rf_vv (q0 := 0) (ci := 11) hC (c_X11_wrong l E a (rf_upL I [(3, m_at), (4, m_end), (5, m_token), (6, m_whole), (7, m_nameSize), (8, m_fault), (9, m_place), (11, m_failed)]) (rf_upL A [(1, m_letters)]) m_fault m_place m_failed 6 m_at rfl rfl rfl hz39) kV_X11_wrong tw_1443 ⟨Nat.le_of_ble_eq_true rfl, Nat.le_of_ble_eq_true rfl⟩ rfl rfl rfl rfl rfl hP (rf_DM hD) hS rfl hl.1 (rest := []) rfl (Nat.le_of_ble_eq_true rfl) dX11_begins_39 (fun H locs hP hS => ?_)
  rw [rf_cat (f := I) (l := [(3, m_at), (4, m_end), (5, m_token), (6, m_whole), (7, m_nameSize), (8, m_fault), (9, m_place), (11, m_failed)]) (lc := [(8, z39.1), (9, z39.2.1), (11, z39.2.2)]) (l' := [(3, m_at), (4, m_end), (5, m_token), (6, m_whole), (7, m_nameSize), (8, z39.1), (9, z39.2.1), (11, z39.2.2)]) rfl] at hP
  exact w_X11_begins_42 hC hD e_m_size e_m_tape e_m_fresh m_at m_end m_token m_whole m_nameSize z39.1 z39.2.1 z39.2.2 m_letters hf _ _ _ hP hS (lv_sub hl [0] rfl)
set_option maxHeartbeats 4000000 in
set_option maxRecDepth 100000 in
theorem c_X11_begins (l : Launch) (E : rf_E) (a : Nat → Nat) (I : Nat → Int32) (A : Nat → Nat → Int32) (m_size : Int32) (m_tape : Nat → Int32) (m_fresh : Nat → Int32) (m_at : Int32) (m_end : Int32) (m_token : Int32) (m_whole : Int32) (m_nameSize : Int32) (m_fault : Int32) (m_place : Int32) (m_failed : Int32) (m_letters : Nat → Int32) (v1 : Nat) (v2 : Int32) {z : Int32 × Int32 × Int32 × Int32 × Int32 × Int32 × Int32 × Int32 × Int32 × (Nat → Int32)} (e_m_size : I 2 = m_size) (e_m_tape : A 0 = m_tape) (e_m_fresh : A 3 = m_fresh) (e_m_at : I 3 = m_at) (e_m_end : I 4 = m_end) (e_m_token : I 5 = m_token) (e_m_whole : I 6 = m_whole) (e_m_nameSize : I 7 = m_nameSize) (e_m_fault : I 8 = m_fault) (e_m_place : I 9 = m_place) (e_m_failed : I 11 = m_failed) (e_m_letters : A 1 = m_letters) (hk_v1 : v1 < 49) (hf : f_X11_begins m_size m_tape m_fresh m_at m_end m_token m_whole m_nameSize m_fault m_place m_failed m_letters v1 v2 = some z) : rf_MI l yX11_begins cX11_begins 3 (some .boolean) ({ frames := 7, cells := 0, slots := 0, locals := 223 }) E [.ref (a 0), .ref (rf_aK E v1), .int v2] (cM E a I A) z.1 (cM E a (rf_upL I [(3, z.2.1), (4, z.2.2.1), (5, z.2.2.2.1), (6, z.2.2.2.2.1), (7, z.2.2.2.2.2.1), (8, z.2.2.2.2.2.2.1), (9, z.2.2.2.2.2.2.2.1), (11, z.2.2.2.2.2.2.2.2.1)]) (rf_upL A [(1, z.2.2.2.2.2.2.2.2.2)])) := by
  unfold f_X11_begins at hf
  refine rf_ofI (by decide) (Nat.le_of_ble_eq_true rfl) ?_
  intro p e s m below meth c A0 ls hC hD hP hS hl
  have hC : rf_C p E s m _ meth c cX11_begins 3 RX11 (some .boolean) A0 := hC
  have hx := hC.1
  have hb := hC.2.1
  have hl : lv_has ls 3 [(0, .ref (a 0)), (1, .ref (rf_aK E v1)), (2, .int v2)] := hl
  have hP : va_P (rf_D E) vwCl (cM E a (rf_upL I [(3, m_at), (4, m_end), (5, m_token), (6, m_whole), (7, m_nameSize), (8, m_fault), (9, m_place), (11, m_failed)]) (rf_upL A [(1, m_letters)])) s.heap := by
    rw [rf_self (f := I) [(3, m_at), (4, m_end), (5, m_token), (6, m_whole), (7, m_nameSize), (8, m_fault), (9, m_place), (11, m_failed)] (rf_fa1 e_m_at (rf_fa1 e_m_end (rf_fa1 e_m_token (rf_fa1 e_m_whole (rf_fa1 e_m_nameSize (rf_fa1 e_m_fault (rf_fa1 e_m_place (rf_fa1 e_m_failed rf_fa0))))))))]
    rw [rf_self (f := A) [(1, m_letters)] (rf_fa1 e_m_letters rf_fa0)]
    exact hP
  refine lv_aload_n hx hb dX11_begins_0 rfl (lv_at hl 0 rfl) ?_
  refine lv_aload_n hx hb dX11_begins_1 rfl (lv_at hl 1 rfl) ?_
  obtain ⟨z2, hz2, hf⟩ := rf_bd hf
  refine rf_vi (q0 := 0) (ci := 11) hC (c_X11_isWord l E a (rf_upL I [(3, m_at), (4, m_end), (5, m_token), (6, m_whole), (7, m_nameSize), (8, m_fault), (9, m_place), (11, m_failed)]) (rf_upL A [(1, m_letters)]) m_token m_nameSize m_failed m_letters v1 rfl rfl rfl rfl hk_v1 hz2) kV_X11_isWord tw_1433 ⟨Nat.le_of_ble_eq_true rfl, Nat.le_of_ble_eq_true rfl⟩ rfl rfl rfl rfl rfl hP (rf_DM hD) hS rfl hl.1 (rest := []) rfl (Nat.le_of_ble_eq_true rfl) dX11_begins_2 (fun H locs hP hS => ?_)
  refine lv_if_ne (tgt := 10) hx hb dX11_begins_5 (by decide) (fun c_5 => ?_) (fun c_5 => ?_)
  · have hf := rf_ie c_5 hf
    refine lv_iload_n hx hb dX11_begins_10 rfl (lv_at hl 2 rfl) ?_
    refine lv_if_ne (tgt := 23) hx hb dX11_begins_11 (by decide) (fun c_11 => ?_) (fun c_11 => ?_)
    · have hf := rf_ie c_11 hf
      exact w_X11_begins_23 hC hD e_m_size e_m_tape e_m_fresh m_at m_end m_token m_whole m_nameSize m_fault m_place m_failed m_letters hf _ _ _ hP hS (lv_sub hl [0] rfl)
    have hf := rf_it c_11 hf
    refine lv_aload_n hx hb dX11_begins_14 rfl (lv_at hl 0 rfl) ?_
    refine lv_iconst (v := 5) hx hb dX11_begins_15 (by decide) ?_
    refine lv_aload_n hx hb dX11_begins_16 rfl (lv_at hl 0 rfl) ?_
    refine gM_m_at hC hP tw_1283 (v := m_at) rfl dX11_begins_17 ?_
    obtain ⟨z20, hz20, hf⟩ := rf_bd hf
    refine rf_vv (q0 := 0) (ci := 11) hC (c_X11_wrong l E a (rf_upL I [(3, m_at), (4, m_end), (5, m_token), (6, m_whole), (7, m_nameSize), (8, m_fault), (9, m_place), (11, m_failed)]) (rf_upL A [(1, m_letters)]) m_fault m_place m_failed 5 m_at rfl rfl rfl hz20) kV_X11_wrong tw_1443 ⟨Nat.le_of_ble_eq_true rfl, Nat.le_of_ble_eq_true rfl⟩ rfl rfl rfl rfl rfl hP (rf_DM hD) hS rfl hl.1 (rest := []) rfl (Nat.le_of_ble_eq_true rfl) dX11_begins_20 (fun H locs hP hS => ?_)
    rw [rf_cat (f := I) (l := [(3, m_at), (4, m_end), (5, m_token), (6, m_whole), (7, m_nameSize), (8, m_fault), (9, m_place), (11, m_failed)]) (lc := [(8, z20.1), (9, z20.2.1), (11, z20.2.2)]) (l' := [(3, m_at), (4, m_end), (5, m_token), (6, m_whole), (7, m_nameSize), (8, z20.1), (9, z20.2.1), (11, z20.2.2)]) rfl] at hP
    exact w_X11_begins_23 hC hD e_m_size e_m_tape e_m_fresh m_at m_end m_token m_whole m_nameSize z20.1 z20.2.1 z20.2.2 m_letters hf _ _ _ hP hS (lv_sub hl [0] rfl)
  have hf := rf_it c_5 hf
  refine lv_iconst (v := 0) hx hb dX11_begins_8 (by decide) ?_
  obtain rfl := Option.some.inj hf
  exact rf_retz hC hP hS (by decide) rfl rfl dX11_begins_9
set_option maxHeartbeats 4000000 in
set_option maxRecDepth 100000 in
theorem c_X11_takesWord (l : Launch) (E : rf_E) (a : Nat → Nat) (I : Nat → Int32) (A : Nat → Nat → Int32) (m_size : Int32) (m_failed : Int32) (m_tape : Nat → Int32) (m_at : Int32) (m_end : Int32) (m_token : Int32) (m_whole : Int32) (m_nameSize : Int32) (m_letters : Nat → Int32) (v1 : Nat) {z : Int32 × Int32 × Int32 × Int32 × Int32 × Int32 × (Nat → Int32)} (e_m_size : I 2 = m_size) (e_m_failed : I 11 = m_failed) (e_m_tape : A 0 = m_tape) (e_m_at : I 3 = m_at) (e_m_end : I 4 = m_end) (e_m_token : I 5 = m_token) (e_m_whole : I 6 = m_whole) (e_m_nameSize : I 7 = m_nameSize) (e_m_letters : A 1 = m_letters) (hk_v1 : v1 < 49) (hf : f_X11_takesWord m_size m_failed m_tape m_at m_end m_token m_whole m_nameSize m_letters v1 = some z) : rf_MI l yX11_takesWord cX11_takesWord 2 (some .boolean) ({ frames := 7, cells := 0, slots := 0, locals := 223 }) E [.ref (a 0), .ref (rf_aK E v1)] (cM E a I A) z.1 (cM E a (rf_upL I [(3, z.2.1), (4, z.2.2.1), (5, z.2.2.2.1), (6, z.2.2.2.2.1), (7, z.2.2.2.2.2.1)]) (rf_upL A [(1, z.2.2.2.2.2.2)])) := by
  unfold f_X11_takesWord at hf
  refine rf_ofI (by decide) (Nat.le_of_ble_eq_true rfl) ?_
  intro p e s m below meth c A0 ls hC hD hP hS hl
  have hC : rf_C p E s m _ meth c cX11_takesWord 2 RX11 (some .boolean) A0 := hC
  have hx := hC.1
  have hb := hC.2.1
  have hl : lv_has ls 2 [(0, .ref (a 0)), (1, .ref (rf_aK E v1))] := hl
  have hP : va_P (rf_D E) vwCl (cM E a (rf_upL I [(3, m_at), (4, m_end), (5, m_token), (6, m_whole), (7, m_nameSize)]) (rf_upL A [(1, m_letters)])) s.heap := by
    rw [rf_self (f := I) [(3, m_at), (4, m_end), (5, m_token), (6, m_whole), (7, m_nameSize)] (rf_fa1 e_m_at (rf_fa1 e_m_end (rf_fa1 e_m_token (rf_fa1 e_m_whole (rf_fa1 e_m_nameSize rf_fa0)))))]
    rw [rf_self (f := A) [(1, m_letters)] (rf_fa1 e_m_letters rf_fa0)]
    exact hP
  refine lv_aload_n hx hb dX11_takesWord_0 rfl (lv_at hl 0 rfl) ?_
  refine lv_aload_n hx hb dX11_takesWord_1 rfl (lv_at hl 1 rfl) ?_
  obtain ⟨z2, hz2, hf⟩ := rf_bd hf
  refine rf_vi (q0 := 0) (ci := 11) hC (c_X11_isWord l E a (rf_upL I [(3, m_at), (4, m_end), (5, m_token), (6, m_whole), (7, m_nameSize)]) (rf_upL A [(1, m_letters)]) m_token m_nameSize m_failed m_letters v1 rfl rfl e_m_failed rfl hk_v1 hz2) kV_X11_isWord tw_1433 ⟨Nat.le_of_ble_eq_true rfl, Nat.le_of_ble_eq_true rfl⟩ rfl rfl rfl rfl rfl hP (rf_DM hD) hS rfl hl.1 (rest := []) rfl (Nat.le_of_ble_eq_true rfl) dX11_takesWord_2 (fun H locs hP hS => ?_)
  refine lv_if_ne (tgt := 10) hx hb dX11_takesWord_5 (by decide) (fun c_5 => ?_) (fun c_5 => ?_)
  · have hf := rf_ie c_5 hf
    refine lv_aload_n hx hb dX11_takesWord_10 rfl (lv_at hl 0 rfl) ?_
    obtain ⟨z11, hz11, hf⟩ := rf_bd hf
    refine rf_vv (q0 := 0) (ci := 11) hC (c_X11_next l E a (rf_upL I [(3, m_at), (4, m_end), (5, m_token), (6, m_whole), (7, m_nameSize)]) (rf_upL A [(1, m_letters)]) m_size m_tape m_at m_end m_token m_whole m_nameSize m_letters e_m_size e_m_tape rfl rfl rfl rfl rfl rfl hz11) kV_X11_next tw_1414 ⟨Nat.le_of_ble_eq_true rfl, Nat.le_of_ble_eq_true rfl⟩ rfl rfl rfl rfl rfl hP (rf_DM hD) hS rfl hl.1 (rest := []) rfl (Nat.le_of_ble_eq_true rfl) dX11_takesWord_11 (fun H locs hP hS => ?_)
    rw [rf_cat (f := I) (l := [(3, m_at), (4, m_end), (5, m_token), (6, m_whole), (7, m_nameSize)]) (lc := [(3, z11.1), (4, z11.2.1), (5, z11.2.2.1), (6, z11.2.2.2.1), (7, z11.2.2.2.2.1)]) (l' := [(3, z11.1), (4, z11.2.1), (5, z11.2.2.1), (6, z11.2.2.2.1), (7, z11.2.2.2.2.1)]) rfl] at hP
    rw [rf_cat (f := A) (l := [(1, m_letters)]) (lc := [(1, z11.2.2.2.2.2)]) (l' := [(1, z11.2.2.2.2.2)]) rfl] at hP
    refine lv_iconst (v := 1) hx hb dX11_takesWord_14 (by decide) ?_
    obtain rfl := Option.some.inj hf
    exact rf_retz hC hP hS (by decide) rfl rfl dX11_takesWord_15
  have hf := rf_it c_5 hf
  refine lv_iconst (v := 0) hx hb dX11_takesWord_8 (by decide) ?_
  obtain rfl := Option.some.inj hf
  exact rf_retz hC hP hS (by decide) rfl rfl dX11_takesWord_9
set_option maxHeartbeats 4000000 in
set_option maxRecDepth 100000 in
theorem c_X11_must (l : Launch) (E : rf_E) (a : Nat → Nat) (I : Nat → Int32) (A : Nat → Nat → Int32) (m_size : Int32) (m_tape : Nat → Int32) (m_at : Int32) (m_end : Int32) (m_token : Int32) (m_whole : Int32) (m_nameSize : Int32) (m_fault : Int32) (m_place : Int32) (m_failed : Int32) (m_letters : Nat → Int32) (v1 : Nat) {z : Int32 × Int32 × Int32 × Int32 × Int32 × Int32 × Int32 × Int32 × (Nat → Int32)} (e_m_size : I 2 = m_size) (e_m_tape : A 0 = m_tape) (e_m_at : I 3 = m_at) (e_m_end : I 4 = m_end) (e_m_token : I 5 = m_token) (e_m_whole : I 6 = m_whole) (e_m_nameSize : I 7 = m_nameSize) (e_m_fault : I 8 = m_fault) (e_m_place : I 9 = m_place) (e_m_failed : I 11 = m_failed) (e_m_letters : A 1 = m_letters) (hk_v1 : v1 < 49) (hf : f_X11_must m_size m_tape m_at m_end m_token m_whole m_nameSize m_fault m_place m_failed m_letters v1 = some z) : rf_MV l yX11_must cX11_must 2 ({ frames := 8, cells := 0, slots := 0, locals := 244 }) E [.ref (a 0), .ref (rf_aK E v1)] (cM E a I A) (cM E a (rf_upL I [(3, z.1), (4, z.2.1), (5, z.2.2.1), (6, z.2.2.2.1), (7, z.2.2.2.2.1), (8, z.2.2.2.2.2.1), (9, z.2.2.2.2.2.2.1), (11, z.2.2.2.2.2.2.2.1)]) (rf_upL A [(1, z.2.2.2.2.2.2.2.2)])) := by
  unfold f_X11_must at hf
  refine rf_ofV (by decide) (Nat.le_of_ble_eq_true rfl) ?_
  intro p e s m below meth c A0 ls hC hD hP hS hl
  have hC : rf_C p E s m _ meth c cX11_must 2 RX11 (none) A0 := hC
  have hx := hC.1
  have hb := hC.2.1
  have hl : lv_has ls 2 [(0, .ref (a 0)), (1, .ref (rf_aK E v1))] := hl
  have hP : va_P (rf_D E) vwCl (cM E a (rf_upL I [(3, m_at), (4, m_end), (5, m_token), (6, m_whole), (7, m_nameSize), (8, m_fault), (9, m_place), (11, m_failed)]) (rf_upL A [(1, m_letters)])) s.heap := by
    rw [rf_self (f := I) [(3, m_at), (4, m_end), (5, m_token), (6, m_whole), (7, m_nameSize), (8, m_fault), (9, m_place), (11, m_failed)] (rf_fa1 e_m_at (rf_fa1 e_m_end (rf_fa1 e_m_token (rf_fa1 e_m_whole (rf_fa1 e_m_nameSize (rf_fa1 e_m_fault (rf_fa1 e_m_place (rf_fa1 e_m_failed rf_fa0))))))))]
    rw [rf_self (f := A) [(1, m_letters)] (rf_fa1 e_m_letters rf_fa0)]
    exact hP
  refine lv_aload_n hx hb dX11_must_0 rfl (lv_at hl 0 rfl) ?_
  refine gM_m_failed hC hP tw_1292 (v := m_failed) rfl dX11_must_1 ?_
  refine lv_if_ne (tgt := 24) hx hb dX11_must_4 (by decide) (fun c_4 => ?_) (fun c_4 => ?_)
  · have hf := rf_ie c_4 hf
    obtain rfl := Option.some.inj hf
    exact rf_retv hC hP hS rfl dX11_must_24
  have hf := rf_it c_4 hf
  refine lv_aload_n hx hb dX11_must_7 rfl (lv_at hl 0 rfl) ?_
  refine lv_aload_n hx hb dX11_must_8 rfl (lv_at hl 1 rfl) ?_
  obtain ⟨z9, hz9, hf⟩ := rf_bd hf
  refine rf_vi (q0 := 0) (ci := 11) hC (c_X11_takesWord l E a (rf_upL I [(3, m_at), (4, m_end), (5, m_token), (6, m_whole), (7, m_nameSize), (8, m_fault), (9, m_place), (11, m_failed)]) (rf_upL A [(1, m_letters)]) m_size m_failed m_tape m_at m_end m_token m_whole m_nameSize m_letters v1 e_m_size rfl e_m_tape rfl rfl rfl rfl rfl rfl hk_v1 hz9) kV_X11_takesWord tw_1456 ⟨Nat.le_of_ble_eq_true rfl, Nat.le_of_ble_eq_true rfl⟩ rfl rfl rfl rfl rfl hP (rf_DM hD) hS rfl hl.1 (rest := []) rfl (Nat.le_of_ble_eq_true rfl) dX11_must_9 (fun H locs hP hS => ?_)
  rw [rf_cat (f := I) (l := [(3, m_at), (4, m_end), (5, m_token), (6, m_whole), (7, m_nameSize), (8, m_fault), (9, m_place), (11, m_failed)]) (lc := [(3, z9.2.1), (4, z9.2.2.1), (5, z9.2.2.2.1), (6, z9.2.2.2.2.1), (7, z9.2.2.2.2.2.1)]) (l' := [(3, z9.2.1), (4, z9.2.2.1), (5, z9.2.2.2.1), (6, z9.2.2.2.2.1), (7, z9.2.2.2.2.2.1), (8, m_fault), (9, m_place), (11, m_failed)]) rfl] at hP
  rw [rf_cat (f := A) (l := [(1, m_letters)]) (lc := [(1, z9.2.2.2.2.2.2)]) (l' := [(1, z9.2.2.2.2.2.2)]) rfl] at hP
  refine lv_if_ne (tgt := 24) hx hb dX11_must_12 (by decide) (fun c_12 => ?_) (fun c_12 => ?_)
  · have hf := rf_ie c_12 hf
    obtain rfl := Option.some.inj hf
    exact rf_retv hC hP hS rfl dX11_must_24
  have hf := rf_it c_12 hf
  refine lv_aload_n hx hb dX11_must_15 rfl (lv_at hl 0 rfl) ?_
  refine lv_iconst (v := 1) hx hb dX11_must_16 (by decide) ?_
  refine lv_aload_n hx hb dX11_must_17 rfl (lv_at hl 0 rfl) ?_
  refine gM_m_at hC hP tw_1283 (v := z9.2.1) rfl dX11_must_18 ?_
  obtain ⟨z21, hz21, hf⟩ := rf_bd hf
  refine rf_vv (q0 := 0) (ci := 11) hC (c_X11_wrong l E a (rf_upL I [(3, z9.2.1), (4, z9.2.2.1), (5, z9.2.2.2.1), (6, z9.2.2.2.2.1), (7, z9.2.2.2.2.2.1), (8, m_fault), (9, m_place), (11, m_failed)]) (rf_upL A [(1, z9.2.2.2.2.2.2)]) m_fault m_place m_failed 1 z9.2.1 rfl rfl rfl hz21) kV_X11_wrong tw_1443 ⟨Nat.le_of_ble_eq_true rfl, Nat.le_of_ble_eq_true rfl⟩ rfl rfl rfl rfl rfl hP (rf_DM hD) hS rfl hl.1 (rest := []) rfl (Nat.le_of_ble_eq_true rfl) dX11_must_21 (fun H locs hP hS => ?_)
  rw [rf_cat (f := I) (l := [(3, z9.2.1), (4, z9.2.2.1), (5, z9.2.2.2.1), (6, z9.2.2.2.2.1), (7, z9.2.2.2.2.2.1), (8, m_fault), (9, m_place), (11, m_failed)]) (lc := [(8, z21.1), (9, z21.2.1), (11, z21.2.2)]) (l' := [(3, z9.2.1), (4, z9.2.2.1), (5, z9.2.2.2.1), (6, z9.2.2.2.2.1), (7, z9.2.2.2.2.2.1), (8, z21.1), (9, z21.2.1), (11, z21.2.2)]) rfl] at hP
  obtain rfl := Option.some.inj hf
  exact rf_retv hC hP hS rfl dX11_must_24
set_option maxHeartbeats 4000000 in
set_option maxRecDepth 100000 in
theorem w_X11_numberHere_50 {l : Launch} {p : Program} {e : Env} {s : State} {m : MethodId} {args : Array Value} {below : List Frame} {meth : Method} {c : Code} {A0 : Nat → Prop} {E : rf_E} {a : Nat → Nat} {I : Nat → Int32} {A : Nat → Nat → Int32} {m_at : Int32} {m_token : Int32} {m_whole : Int32} {z : Int32 × Int32 × Int32 × Int32} (hC : rf_C p E s m args meth c cX11_numberHere 3 RX11 (some .int) A0) (hD : va_D A0 (cM E a I A)) (e_m_at : I 3 = m_at) (e_m_token : I 5 = m_token) (e_m_whole : I 6 = m_whole) :
    ∀ (v1 : Int32) (m_fault : Int32) (m_place : Int32) (m_failed : Int32), f_X11_numberHere_50 m_at m_token m_whole v1 m_fault m_place m_failed = some z → ∀ (H : Heap) (locs : List Loc) (ls : Array Slot), va_P (rf_D E) vwCl (cM E a (rf_upL I [(8, m_fault), (9, m_place), (11, m_failed)]) A) H → va_S A0 s.heap H locs → lv_has ls 3 [(0, .ref (a 0)), (1, .int v1)] → W p l e ({ frames := 1, cells := 0, slots := 0, locals := 22 }) s m args below meth c H locs 0 0 (rf_QI below args s E A0 z.1 (cM E a (rf_upL I [(8, z.2.1), (9, z.2.2.1), (11, z.2.2.2)]) A)) (F0 m 50 ls []) := by
  have hx := hC.1
  have hb := hC.2.1
  intro v1 m_fault m_place m_failed hf H locs ls hP hS hl
  unfold f_X11_numberHere_50 at hf
  refine lv_aload_n hx hb dX11_numberHere_50 rfl (lv_at hl 0 rfl) ?_
  refine gM_m_failed hC hP tw_1292 (v := m_failed) rfl dX11_numberHere_51 ?_
  refine lv_if_eq (tgt := 61) hx hb dX11_numberHere_54 (by decide) (fun c_54 => ?_) (fun c_54 => ?_)
  · have hf := rf_it c_54 hf
    refine lv_aload_n hx hb dX11_numberHere_61 rfl (lv_at hl 0 rfl) ?_
    refine gM_m_whole hC hP tw_1286 (v := m_whole) e_m_whole dX11_numberHere_62 ?_
    obtain rfl := Option.some.inj hf
    exact rf_reti hC hP hS rfl rfl dX11_numberHere_65
  have hf := rf_ie c_54 hf
  refine lv_iload_n hx hb dX11_numberHere_57 rfl (lv_at hl 1 rfl) ?_
  refine lv_goto (tgt := 65) hx hb dX11_numberHere_58 (by decide) ?_
  obtain rfl := Option.some.inj hf
  exact rf_reti hC hP hS rfl rfl dX11_numberHere_65
set_option maxHeartbeats 4000000 in
set_option maxRecDepth 100000 in
theorem c_X11_numberHere (l : Launch) (E : rf_E) (a : Nat → Nat) (I : Nat → Int32) (A : Nat → Nat → Int32) (m_at : Int32) (m_token : Int32) (m_whole : Int32) (m_fault : Int32) (m_place : Int32) (m_failed : Int32) (v1 : Int32) (v2 : Int32) {z : Int32 × Int32 × Int32 × Int32} (e_m_at : I 3 = m_at) (e_m_token : I 5 = m_token) (e_m_whole : I 6 = m_whole) (e_m_fault : I 8 = m_fault) (e_m_place : I 9 = m_place) (e_m_failed : I 11 = m_failed) (hf : f_X11_numberHere m_at m_token m_whole m_fault m_place m_failed v1 v2 = some z) : rf_MI l yX11_numberHere cX11_numberHere 3 (some .int) ({ frames := 1, cells := 0, slots := 0, locals := 22 }) E [.ref (a 0), .int v1, .int v2] (cM E a I A) z.1 (cM E a (rf_upL I [(8, z.2.1), (9, z.2.2.1), (11, z.2.2.2)]) A) := by
  unfold f_X11_numberHere at hf
  refine rf_ofI (by decide) (Nat.le_of_ble_eq_true rfl) ?_
  intro p e s m below meth c A0 ls hC hD hP hS hl
  have hC : rf_C p E s m _ meth c cX11_numberHere 3 RX11 (some .int) A0 := hC
  have hx := hC.1
  have hb := hC.2.1
  have hl : lv_has ls 3 [(0, .ref (a 0)), (1, .int v1), (2, .int v2)] := hl
  have hP : va_P (rf_D E) vwCl (cM E a (rf_upL I [(8, m_fault), (9, m_place), (11, m_failed)]) A) s.heap := by
    rw [rf_self (f := I) [(8, m_fault), (9, m_place), (11, m_failed)] (rf_fa1 e_m_fault (rf_fa1 e_m_place (rf_fa1 e_m_failed rf_fa0)))]
    exact hP
  refine lv_aload_n hx hb dX11_numberHere_0 rfl (lv_at hl 0 rfl) ?_
  refine gM_m_failed hC hP tw_1292 (v := m_failed) rfl dX11_numberHere_1 ?_
  refine lv_if_eq (tgt := 9) hx hb dX11_numberHere_4 (by decide) (fun c_4 => ?_) (fun c_4 => ?_)
  · have hf := rf_it c_4 hf
    refine lv_aload_n hx hb dX11_numberHere_9 rfl (lv_at hl 0 rfl) ?_
    refine gM_m_token hC hP tw_1285 (v := m_token) e_m_token dX11_numberHere_10 ?_
    refine lv_iconst (v := 3) hx hb dX11_numberHere_13 (by decide) ?_
    refine lv_icmp_eq (tgt := 29) hx hb dX11_numberHere_14 (by decide) (fun c_14 => ?_) (fun c_14 => ?_)
    · have hf := rf_it c_14 hf
      refine lv_aload_n hx hb dX11_numberHere_29 rfl (lv_at hl 0 rfl) ?_
      refine gM_m_whole hC hP tw_1286 (v := m_whole) e_m_whole dX11_numberHere_30 ?_
      refine lv_iload_n hx hb dX11_numberHere_33 rfl (lv_at hl 1 rfl) ?_
      refine lv_iload_n hx hb dX11_numberHere_34 rfl (lv_at hl 2 rfl) ?_
      obtain ⟨z35, hz35, hf⟩ := rf_bd hf
      refine rf_si0 hC (c_X11_in l E m_whole v1 v2 hz35) kS_X11_in tw_1407 ⟨Nat.le_of_ble_eq_true rfl, Nat.le_of_ble_eq_true rfl⟩ rfl rfl hP hS rfl hl.1 (rest := []) rfl (Nat.le_of_ble_eq_true rfl) dX11_numberHere_35 (fun H locs hP hS => ?_)
      refine lv_if_ne (tgt := 50) hx hb dX11_numberHere_38 (by decide) (fun c_38 => ?_) (fun c_38 => ?_)
      · have hf := rf_ie c_38 hf
        exact w_X11_numberHere_50 hC hD e_m_at e_m_token e_m_whole v1 m_fault m_place m_failed hf _ _ _ hP hS (lv_sub hl [0, 1] rfl)
      have hf := rf_it c_38 hf
      refine lv_aload_n hx hb dX11_numberHere_41 rfl (lv_at hl 0 rfl) ?_
      refine lv_iconst (v := 4) hx hb dX11_numberHere_42 (by decide) ?_
      refine lv_aload_n hx hb dX11_numberHere_43 rfl (lv_at hl 0 rfl) ?_
      refine gM_m_at hC hP tw_1283 (v := m_at) e_m_at dX11_numberHere_44 ?_
      obtain ⟨z47, hz47, hf⟩ := rf_bd hf
      refine rf_vv (q0 := 0) (ci := 11) hC (c_X11_wrong l E a (rf_upL I [(8, m_fault), (9, m_place), (11, m_failed)]) A m_fault m_place m_failed 4 m_at rfl rfl rfl hz47) kV_X11_wrong tw_1443 ⟨Nat.le_of_ble_eq_true rfl, Nat.le_of_ble_eq_true rfl⟩ rfl rfl rfl rfl rfl hP (rf_DM hD) hS rfl hl.1 (rest := []) rfl (Nat.le_of_ble_eq_true rfl) dX11_numberHere_47 (fun H locs hP hS => ?_)
      rw [rf_cat (f := I) (l := [(8, m_fault), (9, m_place), (11, m_failed)]) (lc := [(8, z47.1), (9, z47.2.1), (11, z47.2.2)]) (l' := [(8, z47.1), (9, z47.2.1), (11, z47.2.2)]) rfl] at hP
      exact w_X11_numberHere_50 hC hD e_m_at e_m_token e_m_whole v1 z47.1 z47.2.1 z47.2.2 hf _ _ _ hP hS (lv_sub hl [0, 1] rfl)
    have hf := rf_ie c_14 hf
    refine lv_aload_n hx hb dX11_numberHere_17 rfl (lv_at hl 0 rfl) ?_
    refine lv_iconst (v := 1) hx hb dX11_numberHere_18 (by decide) ?_
    refine lv_aload_n hx hb dX11_numberHere_19 rfl (lv_at hl 0 rfl) ?_
    refine gM_m_at hC hP tw_1283 (v := m_at) e_m_at dX11_numberHere_20 ?_
    obtain ⟨z23, hz23, hf⟩ := rf_bd hf
    refine rf_vv (q0 := 0) (ci := 11) hC (c_X11_wrong l E a (rf_upL I [(8, m_fault), (9, m_place), (11, m_failed)]) A m_fault m_place m_failed 1 m_at rfl rfl rfl hz23) kV_X11_wrong tw_1443 ⟨Nat.le_of_ble_eq_true rfl, Nat.le_of_ble_eq_true rfl⟩ rfl rfl rfl rfl rfl hP (rf_DM hD) hS rfl hl.1 (rest := []) rfl (Nat.le_of_ble_eq_true rfl) dX11_numberHere_23 (fun H locs hP hS => ?_)
    rw [rf_cat (f := I) (l := [(8, m_fault), (9, m_place), (11, m_failed)]) (lc := [(8, z23.1), (9, z23.2.1), (11, z23.2.2)]) (l' := [(8, z23.1), (9, z23.2.1), (11, z23.2.2)]) rfl] at hP
    refine lv_goto (tgt := 50) hx hb dX11_numberHere_26 (by decide) ?_
    exact w_X11_numberHere_50 hC hD e_m_at e_m_token e_m_whole v1 z23.1 z23.2.1 z23.2.2 hf _ _ _ hP hS (lv_sub hl [0, 1] rfl)
  have hf := rf_ie c_4 hf
  refine lv_iload_n hx hb dX11_numberHere_7 rfl (lv_at hl 1 rfl) ?_
  obtain rfl := Option.some.inj hf
  exact rf_reti hC hP hS rfl rfl dX11_numberHere_8
set_option maxHeartbeats 4000000 in
set_option maxRecDepth 100000 in
theorem w_X11_number_18 {l : Launch} {p : Program} {e : Env} {s : State} {m : MethodId} {args : Array Value} {below : List Frame} {meth : Method} {c : Code} {A0 : Nat → Prop} {E : rf_E} {a : Nat → Nat} {I : Nat → Int32} {A : Nat → Nat → Int32} {m_size : Int32} {m_tape : Nat → Int32} {z : Int32 × Int32 × Int32 × Int32 × Int32 × Int32 × Int32 × Int32 × Int32 × (Nat → Int32)} (hC : rf_C p E s m args meth c cX11_number 4 RX11 (some .int) A0) (hD : va_D A0 (cM E a I A)) (e_m_size : I 2 = m_size) (e_m_tape : A 0 = m_tape) :
    ∀ (v3 : Int32) (m_at : Int32) (m_end : Int32) (m_token : Int32) (m_whole : Int32) (m_nameSize : Int32) (m_fault : Int32) (m_place : Int32) (m_failed : Int32) (m_letters : Nat → Int32), f_X11_number_18 m_size m_tape v3 m_at m_end m_token m_whole m_nameSize m_fault m_place m_failed m_letters = some z → ∀ (H : Heap) (locs : List Loc) (ls : Array Slot), va_P (rf_D E) vwCl (cM E a (rf_upL I [(3, m_at), (4, m_end), (5, m_token), (6, m_whole), (7, m_nameSize), (8, m_fault), (9, m_place), (11, m_failed)]) (rf_upL A [(1, m_letters)])) H → va_S A0 s.heap H locs → lv_has ls 4 [(3, .int v3)] → W p l e ({ frames := 2, cells := 0, slots := 0, locals := 44 }) s m args below meth c H locs 0 0 (rf_QI below args s E A0 z.1 (cM E a (rf_upL I [(3, z.2.1), (4, z.2.2.1), (5, z.2.2.2.1), (6, z.2.2.2.2.1), (7, z.2.2.2.2.2.1), (8, z.2.2.2.2.2.2.1), (9, z.2.2.2.2.2.2.2.1), (11, z.2.2.2.2.2.2.2.2.1)]) (rf_upL A [(1, z.2.2.2.2.2.2.2.2.2)]))) (F0 m 18 ls []) := by
  have hx := hC.1
  have hb := hC.2.1
  intro v3 m_at m_end m_token m_whole m_nameSize m_fault m_place m_failed m_letters hf H locs ls hP hS hl
  unfold f_X11_number_18 at hf
  refine lv_iload_n hx hb dX11_number_18 rfl (lv_at hl 0 rfl) ?_
  obtain rfl := Option.some.inj hf
  exact rf_reti hC hP hS rfl rfl dX11_number_19
set_option maxHeartbeats 4000000 in
set_option maxRecDepth 100000 in
theorem c_X11_number (l : Launch) (E : rf_E) (a : Nat → Nat) (I : Nat → Int32) (A : Nat → Nat → Int32) (m_size : Int32) (m_tape : Nat → Int32) (m_at : Int32) (m_end : Int32) (m_token : Int32) (m_whole : Int32) (m_nameSize : Int32) (m_fault : Int32) (m_place : Int32) (m_failed : Int32) (m_letters : Nat → Int32) (v1 : Int32) (v2 : Int32) {z : Int32 × Int32 × Int32 × Int32 × Int32 × Int32 × Int32 × Int32 × Int32 × (Nat → Int32)} (e_m_size : I 2 = m_size) (e_m_tape : A 0 = m_tape) (e_m_at : I 3 = m_at) (e_m_end : I 4 = m_end) (e_m_token : I 5 = m_token) (e_m_whole : I 6 = m_whole) (e_m_nameSize : I 7 = m_nameSize) (e_m_fault : I 8 = m_fault) (e_m_place : I 9 = m_place) (e_m_failed : I 11 = m_failed) (e_m_letters : A 1 = m_letters) (hf : f_X11_number m_size m_tape m_at m_end m_token m_whole m_nameSize m_fault m_place m_failed m_letters v1 v2 = some z) : rf_MI l yX11_number cX11_number 4 (some .int) ({ frames := 2, cells := 0, slots := 0, locals := 44 }) E [.ref (a 0), .int v1, .int v2] (cM E a I A) z.1 (cM E a (rf_upL I [(3, z.2.1), (4, z.2.2.1), (5, z.2.2.2.1), (6, z.2.2.2.2.1), (7, z.2.2.2.2.2.1), (8, z.2.2.2.2.2.2.1), (9, z.2.2.2.2.2.2.2.1), (11, z.2.2.2.2.2.2.2.2.1)]) (rf_upL A [(1, z.2.2.2.2.2.2.2.2.2)])) := by
  unfold f_X11_number at hf
  refine rf_ofI (by decide) (Nat.le_of_ble_eq_true rfl) ?_
  intro p e s m below meth c A0 ls hC hD hP hS hl
  have hC : rf_C p E s m _ meth c cX11_number 4 RX11 (some .int) A0 := hC
  have hx := hC.1
  have hb := hC.2.1
  have hl : lv_has ls 4 [(0, .ref (a 0)), (1, .int v1), (2, .int v2)] := hl
  have hP : va_P (rf_D E) vwCl (cM E a (rf_upL I [(3, m_at), (4, m_end), (5, m_token), (6, m_whole), (7, m_nameSize), (8, m_fault), (9, m_place), (11, m_failed)]) (rf_upL A [(1, m_letters)])) s.heap := by
    rw [rf_self (f := I) [(3, m_at), (4, m_end), (5, m_token), (6, m_whole), (7, m_nameSize), (8, m_fault), (9, m_place), (11, m_failed)] (rf_fa1 e_m_at (rf_fa1 e_m_end (rf_fa1 e_m_token (rf_fa1 e_m_whole (rf_fa1 e_m_nameSize (rf_fa1 e_m_fault (rf_fa1 e_m_place (rf_fa1 e_m_failed rf_fa0))))))))]
    rw [rf_self (f := A) [(1, m_letters)] (rf_fa1 e_m_letters rf_fa0)]
    exact hP
  refine lv_aload_n hx hb dX11_number_0 rfl (lv_at hl 0 rfl) ?_
  refine lv_iload_n hx hb dX11_number_1 rfl (lv_at hl 1 rfl) ?_
  refine lv_iload_n hx hb dX11_number_2 rfl (lv_at hl 2 rfl) ?_
  obtain ⟨z3, hz3, hf⟩ := rf_bd hf
  refine rf_vi (q0 := 0) (ci := 11) hC (c_X11_numberHere l E a (rf_upL I [(3, m_at), (4, m_end), (5, m_token), (6, m_whole), (7, m_nameSize), (8, m_fault), (9, m_place), (11, m_failed)]) (rf_upL A [(1, m_letters)]) m_at m_token m_whole m_fault m_place m_failed v1 v2 rfl rfl rfl rfl rfl rfl hz3) kV_X11_numberHere tw_1464 ⟨Nat.le_of_ble_eq_true rfl, Nat.le_of_ble_eq_true rfl⟩ rfl rfl rfl rfl rfl hP (rf_DM hD) hS rfl hl.1 (rest := []) rfl (Nat.le_of_ble_eq_true rfl) dX11_number_3 (fun H locs hP hS => ?_)
  rw [rf_cat (f := I) (l := [(3, m_at), (4, m_end), (5, m_token), (6, m_whole), (7, m_nameSize), (8, m_fault), (9, m_place), (11, m_failed)]) (lc := [(8, z3.2.1), (9, z3.2.2.1), (11, z3.2.2.2)]) (l' := [(3, m_at), (4, m_end), (5, m_token), (6, m_whole), (7, m_nameSize), (8, z3.2.1), (9, z3.2.2.1), (11, z3.2.2.2)]) rfl] at hP
  refine lv_istore_n (lv' := [(3, .int z3.1), (0, .ref (a 0)), (1, .int v1), (2, .int v2)]) hx hb dX11_number_6 rfl hl (by decide) rfl (fun ls hl => ?_)
  refine lv_aload_n hx hb dX11_number_7 rfl (lv_at hl 1 rfl) ?_
  refine gM_m_failed hC hP tw_1292 (v := z3.2.2.2) rfl dX11_number_8 ?_
  refine lv_if_ne (tgt := 18) hx hb dX11_number_11 (by decide) (fun c_11 => ?_) (fun c_11 => ?_)
  · have hf := rf_ie c_11 hf
    exact w_X11_number_18 hC hD e_m_size e_m_tape z3.1 m_at m_end m_token m_whole m_nameSize z3.2.1 z3.2.2.1 z3.2.2.2 m_letters hf _ _ _ hP hS (lv_sub hl [0] rfl)
  have hf := rf_it c_11 hf
  refine lv_aload_n hx hb dX11_number_14 rfl (lv_at hl 1 rfl) ?_
  obtain ⟨z15, hz15, hf⟩ := rf_bd hf
  refine rf_vv (q0 := 0) (ci := 11) hC (c_X11_next l E a (rf_upL I [(3, m_at), (4, m_end), (5, m_token), (6, m_whole), (7, m_nameSize), (8, z3.2.1), (9, z3.2.2.1), (11, z3.2.2.2)]) (rf_upL A [(1, m_letters)]) m_size m_tape m_at m_end m_token m_whole m_nameSize m_letters e_m_size e_m_tape rfl rfl rfl rfl rfl rfl hz15) kV_X11_next tw_1414 ⟨Nat.le_of_ble_eq_true rfl, Nat.le_of_ble_eq_true rfl⟩ rfl rfl rfl rfl rfl hP (rf_DM hD) hS rfl hl.1 (rest := []) rfl (Nat.le_of_ble_eq_true rfl) dX11_number_15 (fun H locs hP hS => ?_)
  rw [rf_cat (f := I) (l := [(3, m_at), (4, m_end), (5, m_token), (6, m_whole), (7, m_nameSize), (8, z3.2.1), (9, z3.2.2.1), (11, z3.2.2.2)]) (lc := [(3, z15.1), (4, z15.2.1), (5, z15.2.2.1), (6, z15.2.2.2.1), (7, z15.2.2.2.2.1)]) (l' := [(3, z15.1), (4, z15.2.1), (5, z15.2.2.1), (6, z15.2.2.2.1), (7, z15.2.2.2.2.1), (8, z3.2.1), (9, z3.2.2.1), (11, z3.2.2.2)]) rfl] at hP
  rw [rf_cat (f := A) (l := [(1, m_letters)]) (lc := [(1, z15.2.2.2.2.2)]) (l' := [(1, z15.2.2.2.2.2)]) rfl] at hP
  exact w_X11_number_18 hC hD e_m_size e_m_tape z3.1 z15.1 z15.2.1 z15.2.2.1 z15.2.2.2.1 z15.2.2.2.2.1 z3.2.1 z3.2.2.1 z3.2.2.2 z15.2.2.2.2.2 hf _ _ _ hP hS (lv_sub hl [0] rfl)
