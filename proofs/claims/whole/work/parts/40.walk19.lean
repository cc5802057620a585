set_option maxHeartbeats 4000000 in
set_option maxRecDepth 100000 in
theorem w_X11_gotLine_77 {l : Launch} {p : Program} {e : Env} {s : State} {m : MethodId} {args : Array Value} {below : List Frame} {meth : Method} {c : Code} {A0 : Nat → Prop} {E : rf_E} {a : Nat → Nat} {I : Nat → Int32} {A : Nat → Nat → Int32} {m_size : Int32} {m_tape : Nat → Int32} {z : Int32 × Int32 × Int32 × Int32 × Int32 × Int32 × Int32 × Int32 × (Nat → Int32) × (Nat → Int32)} (hC : rf_C p E s m args meth c cX11_gotLine 3 RX11 (none) A0) (hD : va_D A0 (cM E a I A)) (e_m_size : I 2 = m_size) (e_m_tape : A 0 = m_tape) :
    ∀ (v1 : Int32) (m_at : Int32) (m_end : Int32) (m_token : Int32) (m_whole : Int32) (m_nameSize : Int32) (m_fault : Int32) (m_place : Int32) (m_failed : Int32) (m_letters : Nat → Int32) (m_fresh : Nat → Int32), f_X11_gotLine_77 m_size m_tape v1 m_at m_end m_token m_whole m_nameSize m_fault m_place m_failed m_letters m_fresh = some z → ∀ (H : Heap) (locs : List Loc) (ls : Array Slot), va_P (rf_D E) vwCl (cM E a (rf_upL I [(3, m_at), (4, m_end), (5, m_token), (6, m_whole), (7, m_nameSize), (8, m_fault), (9, m_place), (11, m_failed)]) (rf_upL A [(1, m_letters), (3, m_fresh)])) H → va_S A0 s.heap H locs → lv_has ls 3 [(0, .ref (a 0)), (1, .int v1)] → W p l e ({ frames := 11, cells := 0, slots := 0, locals := 307 }) s m args below meth c H locs 0 0 (rf_QV below args s E A0 (cM E a (rf_upL I [(3, z.1), (4, z.2.1), (5, z.2.2.1), (6, z.2.2.2.1), (7, z.2.2.2.2.1), (8, z.2.2.2.2.2.1), (9, z.2.2.2.2.2.2.1), (11, z.2.2.2.2.2.2.2.1)]) (rf_upL A [(1, z.2.2.2.2.2.2.2.2.1), (3, z.2.2.2.2.2.2.2.2.2)]))) (F0 m 77 ls []) := by
  have hx := hC.1
  have hb := hC.2.1
  intro v1 m_at m_end m_token m_whole m_nameSize m_fault m_place m_failed m_letters m_fresh hf H locs ls hP hS hl
  unfold f_X11_gotLine_77 at hf
  refine lv_aload_n hx hb dX11_gotLine_77 rfl (lv_at hl 0 rfl) ?_
  refine gM_m_failed hC hP tw_1292 (v := m_failed) rfl dX11_gotLine_78 ?_
  refine lv_if_eq (tgt := 85) hx hb dX11_gotLine_81 (by decide) (fun c_81 => ?_) (fun c_81 => ?_)
  · have hf := rf_it c_81 hf
    refine lv_aload_n hx hb dX11_gotLine_85 rfl (lv_at hl 0 rfl) ?_
    obtain ⟨z86, hz86, hf⟩ := rf_bd hf
    refine rf_vv (q0 := 0) (ci := 11) hC (c_X11_next l E a (rf_upL I [(3, m_at), (4, m_end), (5, m_token), (6, m_whole), (7, m_nameSize), (8, m_fault), (9, m_place), (11, m_failed)]) (rf_upL A [(1, m_letters), (3, m_fresh)]) m_size m_tape m_at m_end m_token m_whole m_nameSize m_letters e_m_size e_m_tape rfl rfl rfl rfl rfl rfl hz86) kV_X11_next tw_1414 ⟨Nat.le_of_ble_eq_true rfl, Nat.le_of_ble_eq_true rfl⟩ rfl rfl rfl rfl rfl hP (rf_DM hD) hS rfl hl.1 (rest := []) rfl (Nat.le_of_ble_eq_true rfl) dX11_gotLine_86 (fun H locs hP hS => ?_)
    rw [rf_cat (f := I) (l := [(3, m_at), (4, m_end), (5, m_token), (6, m_whole), (7, m_nameSize), (8, m_fault), (9, m_place), (11, m_failed)]) (lc := [(3, z86.1), (4, z86.2.1), (5, z86.2.2.1), (6, z86.2.2.2.1), (7, z86.2.2.2.2.1)]) (l' := [(3, z86.1), (4, z86.2.1), (5, z86.2.2.1), (6, z86.2.2.2.1), (7, z86.2.2.2.2.1), (8, m_fault), (9, m_place), (11, m_failed)]) rfl] at hP
    rw [rf_cat (f := A) (l := [(1, m_letters), (3, m_fresh)]) (lc := [(1, z86.2.2.2.2.2)]) (l' := [(1, z86.2.2.2.2.2), (3, m_fresh)]) rfl] at hP
    refine lv_aload_n hx hb dX11_gotLine_89 rfl (lv_at hl 0 rfl) ?_
    refine rf_ldcwS hx hb hC.2.2.2.1 (lk_46 hC.2.2.2.2.2.2.2.1.2.2.2) dX11_gotLine_90 ?_
    refine rf_ldcwS hx hb hC.2.2.2.1 (lk_47 hC.2.2.2.2.2.2.2.1.2.2.2) dX11_gotLine_93 ?_
    refine rf_ldcwS hx hb hC.2.2.2.1 (lk_48 hC.2.2.2.2.2.2.2.1.2.2.2) dX11_gotLine_96 ?_
    refine rf_ldcwS hx hb hC.2.2.2.1 (lk_43 hC.2.2.2.2.2.2.2.1.2.2.2) dX11_gotLine_99 ?_
    obtain ⟨z102, hz102, hf⟩ := rf_bd hf
    refine rf_vi (q0 := 0) (ci := 11) hC (c_X11_oneOf l E a (rf_upL I [(3, z86.1), (4, z86.2.1), (5, z86.2.2.1), (6, z86.2.2.2.1), (7, z86.2.2.2.2.1), (8, m_fault), (9, m_place), (11, m_failed)]) (rf_upL A [(1, z86.2.2.2.2.2), (3, m_fresh)]) m_size m_tape z86.1 z86.2.1 z86.2.2.1 z86.2.2.2.1 z86.2.2.2.2.1 m_fault m_place m_failed z86.2.2.2.2.2 46 47 48 43 e_m_size e_m_tape rfl rfl rfl rfl rfl rfl rfl rfl rfl (by decide) (by decide) (by decide) (by decide) hz102) kV_X11_oneOf tw_1510 ⟨Nat.le_of_ble_eq_true rfl, Nat.le_of_ble_eq_true rfl⟩ rfl rfl rfl rfl rfl hP (rf_DM hD) hS rfl hl.1 (rest := []) rfl (Nat.le_of_ble_eq_true rfl) dX11_gotLine_102 (fun H locs hP hS => ?_)
    rw [rf_cat (f := I) (l := [(3, z86.1), (4, z86.2.1), (5, z86.2.2.1), (6, z86.2.2.2.1), (7, z86.2.2.2.2.1), (8, m_fault), (9, m_place), (11, m_failed)]) (lc := [(3, z102.2.1), (4, z102.2.2.1), (5, z102.2.2.2.1), (6, z102.2.2.2.2.1), (7, z102.2.2.2.2.2.1), (8, z102.2.2.2.2.2.2.1), (9, z102.2.2.2.2.2.2.2.1), (11, z102.2.2.2.2.2.2.2.2.1)]) (l' := [(3, z102.2.1), (4, z102.2.2.1), (5, z102.2.2.2.1), (6, z102.2.2.2.2.1), (7, z102.2.2.2.2.2.1), (8, z102.2.2.2.2.2.2.1), (9, z102.2.2.2.2.2.2.2.1), (11, z102.2.2.2.2.2.2.2.2.1)]) rfl] at hP
    rw [rf_cat (f := A) (l := [(1, z86.2.2.2.2.2), (3, m_fresh)]) (lc := [(1, z102.2.2.2.2.2.2.2.2.2)]) (l' := [(1, z102.2.2.2.2.2.2.2.2.2), (3, m_fresh)]) rfl] at hP
    refine lv_istore_n (lv' := [(2, .int z102.1), (0, .ref (a 0)), (1, .int v1)]) hx hb dX11_gotLine_105 rfl hl (by decide) rfl (fun ls hl => ?_)
    refine lv_aload_n hx hb dX11_gotLine_106 rfl (lv_at hl 1 rfl) ?_
    refine gM_m_failed hC hP tw_1292 (v := z102.2.2.2.2.2.2.2.2.1) rfl dX11_gotLine_107 ?_
    refine lv_if_eq (tgt := 114) hx hb dX11_gotLine_110 (by decide) (fun c_110 => ?_) (fun c_110 => ?_)
    · have hf := rf_it c_110 hf
      refine lv_aload_n hx hb dX11_gotLine_114 rfl (lv_at hl 1 rfl) ?_
      refine gM_m_fresh hC hP tw_1295 dX11_gotLine_115 ?_
      refine lv_iload_n hx hb dX11_gotLine_118 rfl (lv_at hl 2 rfl) ?_
      refine lv_iconst (v := 2) hx hb dX11_gotLine_119 (by decide) ?_
      refine lv_iadd hx hb dX11_gotLine_120 ?_
      refine lv_iload_n hx hb dX11_gotLine_121 rfl (lv_at hl 0 rfl) ?_
      obtain ⟨hi_122, hf⟩ := rf_gu hf
      refine sM_m_fresh hC hD hP hS hi_122 (f := m_fresh) rfl dX11_gotLine_122 (rf_upL A [(1, z102.2.2.2.2.2.2.2.2.2), (3, upd m_fresh (Int32.toNatClampNeg (v1 + 2)) z102.1)]) (rf_put rfl) (fun H locs hP hS => ?_)
      refine lv_aload_n hx hb dX11_gotLine_123 rfl (lv_at hl 1 rfl) ?_
      refine gM_m_fresh hC hP tw_1295 dX11_gotLine_124 ?_
      refine lv_bipush (v := 7) hx hb dX11_gotLine_127 (by decide) ?_
      refine lv_dup2_11 hx hb dX11_gotLine_129 rfl rfl ?_
      refine lM_m_fresh hC hP (by decide) (f := upd m_fresh (Int32.toNatClampNeg (v1 + 2)) z102.1) rfl dX11_gotLine_130 ?_
      refine lv_iconst (v := 1) hx hb dX11_gotLine_131 (by decide) ?_
      refine lv_iadd hx hb dX11_gotLine_132 ?_
      refine sM_m_fresh hC hD hP hS (by decide) (f := upd m_fresh (Int32.toNatClampNeg (v1 + 2)) z102.1) rfl dX11_gotLine_133 (rf_upL A [(1, z102.2.2.2.2.2.2.2.2.2), (3, upd (upd m_fresh (Int32.toNatClampNeg (v1 + 2)) z102.1) (Int32.toNatClampNeg 7) (((upd m_fresh (Int32.toNatClampNeg (v1 + 2)) z102.1) (Int32.toNatClampNeg 7)) + 1))]) (rf_put rfl) (fun H locs hP hS => ?_)
      obtain rfl := Option.some.inj hf
      exact rf_retv hC hP hS rfl dX11_gotLine_134
    have hf := rf_ie c_110 hf
    obtain rfl := Option.some.inj hf
    exact rf_retv hC hP hS rfl dX11_gotLine_113
  have hf := rf_ie c_81 hf
  obtain rfl := Option.some.inj hf
  exact rf_retv hC hP hS rfl dX11_gotLine_84
set_option maxHeartbeats 4000000 in
set_option maxRecDepth 100000 in
theorem c_X11_gotLine (l : Launch) (E : rf_E) (a : Nat → Nat) (I : Nat → Int32) (A : Nat → Nat → Int32) (m_size : Int32) (m_tape : Nat → Int32) (m_at : Int32) (m_end : Int32) (m_token : Int32) (m_whole : Int32) (m_nameSize : Int32) (m_fault : Int32) (m_place : Int32) (m_failed : Int32) (m_letters : Nat → Int32) (m_fresh : Nat → Int32) {z : Int32 × Int32 × Int32 × Int32 × Int32 × Int32 × Int32 × Int32 × (Nat → Int32) × (Nat → Int32)} (e_m_size : I 2 = m_size) (e_m_tape : A 0 = m_tape) (e_m_at : I 3 = m_at) (e_m_end : I 4 = m_end) (e_m_token : I 5 = m_token) (e_m_whole : I 6 = m_whole) (e_m_nameSize : I 7 = m_nameSize) (e_m_fault : I 8 = m_fault) (e_m_place : I 9 = m_place) (e_m_failed : I 11 = m_failed) (e_m_letters : A 1 = m_letters) (e_m_fresh : A 3 = m_fresh) (hf : f_X11_gotLine m_size m_tape m_at m_end m_token m_whole m_nameSize m_fault m_place m_failed m_letters m_fresh = some z) : rf_MV l yX11_gotLine cX11_gotLine 3 ({ frames := 11, cells := 0, slots := 0, locals := 307 }) E [.ref (a 0)] (cM E a I A) (cM E a (rf_upL I [(3, z.1), (4, z.2.1), (5, z.2.2.1), (6, z.2.2.2.1), (7, z.2.2.2.2.1), (8, z.2.2.2.2.2.1), (9, z.2.2.2.2.2.2.1), (11, z.2.2.2.2.2.2.2.1)]) (rf_upL A [(1, z.2.2.2.2.2.2.2.2.1), (3, z.2.2.2.2.2.2.2.2.2)])) := by
  unfold f_X11_gotLine at hf
  refine rf_ofV (by decide) (Nat.le_of_ble_eq_true rfl) ?_
  intro p e s m below meth c A0 ls hC hD hP hS hl
  have hC : rf_C p E s m _ meth c cX11_gotLine 3 RX11 (none) A0 := hC
  have hx := hC.1
  have hb := hC.2.1
  have hl : lv_has ls 3 [(0, .ref (a 0))] := hl
  have hP : va_P (rf_D E) vwCl (cM E a (rf_upL I [(3, m_at), (4, m_end), (5, m_token), (6, m_whole), (7, m_nameSize), (8, m_fault), (9, m_place), (11, m_failed)]) (rf_upL A [(1, m_letters), (3, m_fresh)])) s.heap := by
    rw [rf_self (f := I) [(3, m_at), (4, m_end), (5, m_token), (6, m_whole), (7, m_nameSize), (8, m_fault), (9, m_place), (11, m_failed)] (rf_fa1 e_m_at (rf_fa1 e_m_end (rf_fa1 e_m_token (rf_fa1 e_m_whole (rf_fa1 e_m_nameSize (rf_fa1 e_m_fault (rf_fa1 e_m_place (rf_fa1 e_m_failed rf_fa0))))))))]
    rw [rf_self (f := A) [(1, m_letters), (3, m_fresh)] (rf_fa1 e_m_letters (rf_fa1 e_m_fresh rf_fa0))]
    exact hP
  refine lv_aload_n hx hb dX11_gotLine_0 rfl (lv_at hl 0 rfl) ?_
  refine gM_m_failed hC hP tw_1292 (v := m_failed) rfl dX11_gotLine_1 ?_
  refine lv_if_eq (tgt := 8) hx hb dX11_gotLine_4 (by decide) (fun c_4 => ?_) (fun c_4 => ?_)
  · have hf := rf_it c_4 hf
    refine lv_sipush (v := 153) hx hb dX11_gotLine_8 (by decide) ?_
    refine lv_iconst (v := 3) hx hb dX11_gotLine_11 (by decide) ?_
    refine lv_aload_n hx hb dX11_gotLine_12 rfl (lv_at hl 0 rfl) ?_
    refine gM_m_fresh hC hP tw_1295 dX11_gotLine_13 ?_
    refine lv_bipush (v := 7) hx hb dX11_gotLine_16 (by decide) ?_
    refine lM_m_fresh hC hP (by decide) (f := m_fresh) rfl dX11_gotLine_18 ?_
    refine lv_imul hx hb dX11_gotLine_19 ?_
    refine lv_iadd hx hb dX11_gotLine_20 ?_
    refine lv_istore_n (lv' := [(1, .int ((153 : Int32) + ((3 : Int32) * (m_fresh (Int32.toNatClampNeg 7))))), (0, .ref (a 0))]) hx hb dX11_gotLine_21 rfl hl (by decide) rfl (fun ls hl => ?_)
    refine lv_aload_n hx hb dX11_gotLine_22 rfl (lv_at hl 1 rfl) ?_
    refine gM_m_fresh hC hP tw_1295 dX11_gotLine_23 ?_
    refine lv_iload_n hx hb dX11_gotLine_26 rfl (lv_at hl 0 rfl) ?_
    refine lv_aload_n hx hb dX11_gotLine_27 rfl (lv_at hl 1 rfl) ?_
    obtain ⟨z28, hz28, hf⟩ := rf_bd hf
    refine rf_vi (q0 := 0) (ci := 11) hC (c_X11_personPassed l E a (rf_upL I [(3, m_at), (4, m_end), (5, m_token), (6, m_whole), (7, m_nameSize), (8, m_fault), (9, m_place), (11, m_failed)]) (rf_upL A [(1, m_letters), (3, m_fresh)]) m_size m_tape m_fresh m_at m_end m_token m_whole m_nameSize m_fault m_place m_failed m_letters e_m_size e_m_tape rfl rfl rfl rfl rfl rfl rfl rfl rfl rfl hz28) kV_X11_personPassed tw_1531 ⟨Nat.le_of_ble_eq_true rfl, Nat.le_of_ble_eq_true rfl⟩ rfl rfl rfl rfl rfl hP (rf_DM hD) hS rfl hl.1 (rest := [.int ((153 : Int32) + ((3 : Int32) * (m_fresh (Int32.toNatClampNeg 7)))), .ref (a 4)]) rfl (Nat.le_of_ble_eq_true rfl) dX11_gotLine_28 (fun H locs hP hS => ?_)
    rw [rf_cat (f := I) (l := [(3, m_at), (4, m_end), (5, m_token), (6, m_whole), (7, m_nameSize), (8, m_fault), (9, m_place), (11, m_failed)]) (lc := [(3, z28.2.1), (4, z28.2.2.1), (5, z28.2.2.2.1), (6, z28.2.2.2.2.1), (7, z28.2.2.2.2.2.1), (8, z28.2.2.2.2.2.2.1), (9, z28.2.2.2.2.2.2.2.1), (11, z28.2.2.2.2.2.2.2.2.1)]) (l' := [(3, z28.2.1), (4, z28.2.2.1), (5, z28.2.2.2.1), (6, z28.2.2.2.2.1), (7, z28.2.2.2.2.2.1), (8, z28.2.2.2.2.2.2.1), (9, z28.2.2.2.2.2.2.2.1), (11, z28.2.2.2.2.2.2.2.2.1)]) rfl] at hP
    rw [rf_cat (f := A) (l := [(1, m_letters), (3, m_fresh)]) (lc := [(1, z28.2.2.2.2.2.2.2.2.2)]) (l' := [(1, z28.2.2.2.2.2.2.2.2.2), (3, m_fresh)]) rfl] at hP
    obtain ⟨hi_31, hf⟩ := rf_gu hf
    refine sM_m_fresh hC hD hP hS hi_31 (f := m_fresh) rfl dX11_gotLine_31 (rf_upL A [(1, z28.2.2.2.2.2.2.2.2.2), (3, upd m_fresh (Int32.toNatClampNeg ((153 : Int32) + ((3 : Int32) * (m_fresh (Int32.toNatClampNeg 7))))) z28.1)]) (rf_put rfl) (fun H locs hP hS => ?_)
    refine lv_aload_n hx hb dX11_gotLine_32 rfl (lv_at hl 1 rfl) ?_
    refine gM_m_fresh hC hP tw_1295 dX11_gotLine_33 ?_
    refine lv_iload_n hx hb dX11_gotLine_36 rfl (lv_at hl 0 rfl) ?_
    refine lv_iconst (v := 1) hx hb dX11_gotLine_37 (by decide) ?_
    refine lv_iadd hx hb dX11_gotLine_38 ?_
    refine lv_aload_n hx hb dX11_gotLine_39 rfl (lv_at hl 1 rfl) ?_
    obtain ⟨z40, hz40, hf⟩ := rf_bd hf
    refine rf_vi (q0 := 0) (ci := 11) hC (c_X11_personHere l E a (rf_upL I [(3, z28.2.1), (4, z28.2.2.1), (5, z28.2.2.2.1), (6, z28.2.2.2.2.1), (7, z28.2.2.2.2.2.1), (8, z28.2.2.2.2.2.2.1), (9, z28.2.2.2.2.2.2.2.1), (11, z28.2.2.2.2.2.2.2.2.1)]) (rf_upL A [(1, z28.2.2.2.2.2.2.2.2.2), (3, upd m_fresh (Int32.toNatClampNeg ((153 : Int32) + ((3 : Int32) * (m_fresh (Int32.toNatClampNeg 7))))) z28.1)]) z28.2.1 z28.2.2.2.1 z28.2.2.2.2.2.1 z28.2.2.2.2.2.2.2.2.2 (upd m_fresh (Int32.toNatClampNeg ((153 : Int32) + ((3 : Int32) * (m_fresh (Int32.toNatClampNeg 7))))) z28.1) z28.2.2.2.2.2.2.1 z28.2.2.2.2.2.2.2.1 z28.2.2.2.2.2.2.2.2.1 rfl rfl rfl rfl rfl rfl rfl rfl hz40) kV_X11_personHere tw_1535 ⟨Nat.le_of_ble_eq_true rfl, Nat.le_of_ble_eq_true rfl⟩ rfl rfl rfl rfl rfl hP (rf_DM hD) hS rfl hl.1 (rest := [.int (((153 : Int32) + ((3 : Int32) * (m_fresh (Int32.toNatClampNeg 7)))) + 1), .ref (a 4)]) rfl (Nat.le_of_ble_eq_true rfl) dX11_gotLine_40 (fun H locs hP hS => ?_)
    rw [rf_cat (f := I) (l := [(3, z28.2.1), (4, z28.2.2.1), (5, z28.2.2.2.1), (6, z28.2.2.2.2.1), (7, z28.2.2.2.2.2.1), (8, z28.2.2.2.2.2.2.1), (9, z28.2.2.2.2.2.2.2.1), (11, z28.2.2.2.2.2.2.2.2.1)]) (lc := [(8, z40.2.1), (9, z40.2.2.1), (11, z40.2.2.2)]) (l' := [(3, z28.2.1), (4, z28.2.2.1), (5, z28.2.2.2.1), (6, z28.2.2.2.2.1), (7, z28.2.2.2.2.2.1), (8, z40.2.1), (9, z40.2.2.1), (11, z40.2.2.2)]) rfl] at hP
    obtain ⟨hi_43, hf⟩ := rf_gu hf
    refine sM_m_fresh hC hD hP hS hi_43 (f := upd m_fresh (Int32.toNatClampNeg ((153 : Int32) + ((3 : Int32) * (m_fresh (Int32.toNatClampNeg 7))))) z28.1) rfl dX11_gotLine_43 (rf_upL A [(1, z28.2.2.2.2.2.2.2.2.2), (3, upd (upd m_fresh (Int32.toNatClampNeg ((153 : Int32) + ((3 : Int32) * (m_fresh (Int32.toNatClampNeg 7))))) z28.1) (Int32.toNatClampNeg (((153 : Int32) + ((3 : Int32) * (m_fresh (Int32.toNatClampNeg 7)))) + 1)) z40.1)]) (rf_put rfl) (fun H locs hP hS => ?_)
    refine lv_aload_n hx hb dX11_gotLine_44 rfl (lv_at hl 1 rfl) ?_
    refine gM_m_failed hC hP tw_1292 (v := z40.2.2.2) rfl dX11_gotLine_45 ?_
    refine lv_if_ne (tgt := 77) hx hb dX11_gotLine_48 (by decide) (fun c_48 => ?_) (fun c_48 => ?_)
    · have hf := rf_ie c_48 hf
      exact w_X11_gotLine_77 hC hD e_m_size e_m_tape ((153 : Int32) + ((3 : Int32) * (m_fresh (Int32.toNatClampNeg 7)))) z28.2.1 z28.2.2.1 z28.2.2.2.1 z28.2.2.2.2.1 z28.2.2.2.2.2.1 z40.2.1 z40.2.2.1 z40.2.2.2 z28.2.2.2.2.2.2.2.2.2 (upd (upd m_fresh (Int32.toNatClampNeg ((153 : Int32) + ((3 : Int32) * (m_fresh (Int32.toNatClampNeg 7))))) z28.1) (Int32.toNatClampNeg (((153 : Int32) + ((3 : Int32) * (m_fresh (Int32.toNatClampNeg 7)))) + 1)) z40.1) hf _ _ _ hP hS (lv_sub hl [1, 0] rfl)
    have hf := rf_it c_48 hf
    refine lv_aload_n hx hb dX11_gotLine_51 rfl (lv_at hl 1 rfl) ?_
    refine gM_m_fresh hC hP tw_1295 dX11_gotLine_52 ?_
    refine lv_iload_n hx hb dX11_gotLine_55 rfl (lv_at hl 0 rfl) ?_
    obtain ⟨hi_56, hf⟩ := rf_gu hf
    refine lM_m_fresh hC hP hi_56 (f := upd (upd m_fresh (Int32.toNatClampNeg ((153 : Int32) + ((3 : Int32) * (m_fresh (Int32.toNatClampNeg 7))))) z28.1) (Int32.toNatClampNeg (((153 : Int32) + ((3 : Int32) * (m_fresh (Int32.toNatClampNeg 7)))) + 1)) z40.1) rfl dX11_gotLine_56 ?_
    refine lv_aload_n hx hb dX11_gotLine_57 rfl (lv_at hl 1 rfl) ?_
    refine gM_m_fresh hC hP tw_1295 dX11_gotLine_58 ?_
    refine lv_iload_n hx hb dX11_gotLine_61 rfl (lv_at hl 0 rfl) ?_
    refine lv_iconst (v := 1) hx hb dX11_gotLine_62 (by decide) ?_
    refine lv_iadd hx hb dX11_gotLine_63 ?_
    obtain ⟨hi_64, hf⟩ := rf_gu hf
    refine lM_m_fresh hC hP hi_64 (f := upd (upd m_fresh (Int32.toNatClampNeg ((153 : Int32) + ((3 : Int32) * (m_fresh (Int32.toNatClampNeg 7))))) z28.1) (Int32.toNatClampNeg (((153 : Int32) + ((3 : Int32) * (m_fresh (Int32.toNatClampNeg 7)))) + 1)) z40.1) rfl dX11_gotLine_64 ?_
    refine lv_icmp_ne (tgt := 77) hx hb dX11_gotLine_65 (by decide) (fun c_65 => ?_) (fun c_65 => ?_)
    · have hf := rf_ie c_65 hf
      exact w_X11_gotLine_77 hC hD e_m_size e_m_tape ((153 : Int32) + ((3 : Int32) * (m_fresh (Int32.toNatClampNeg 7)))) z28.2.1 z28.2.2.1 z28.2.2.2.1 z28.2.2.2.2.1 z28.2.2.2.2.2.1 z40.2.1 z40.2.2.1 z40.2.2.2 z28.2.2.2.2.2.2.2.2.2 (upd (upd m_fresh (Int32.toNatClampNeg ((153 : Int32) + ((3 : Int32) * (m_fresh (Int32.toNatClampNeg 7))))) z28.1) (Int32.toNatClampNeg (((153 : Int32) + ((3 : Int32) * (m_fresh (Int32.toNatClampNeg 7)))) + 1)) z40.1) hf _ _ _ hP hS (lv_sub hl [1, 0] rfl)
    have hf := rf_it c_65 hf
    refine lv_aload_n hx hb dX11_gotLine_68 rfl (lv_at hl 1 rfl) ?_
    refine lv_iconst (v := 3) hx hb dX11_gotLine_69 (by decide) ?_
    refine lv_aload_n hx hb dX11_gotLine_70 rfl (lv_at hl 1 rfl) ?_
    refine gM_m_at hC hP tw_1283 (v := z28.2.1) rfl dX11_gotLine_71 ?_
    obtain ⟨z74, hz74, hf⟩ := rf_bd hf
    refine rf_vv (q0 := 0) (ci := 11) hC (c_X11_wrong l E a (rf_upL I [(3, z28.2.1), (4, z28.2.2.1), (5, z28.2.2.2.1), (6, z28.2.2.2.2.1), (7, z28.2.2.2.2.2.1), (8, z40.2.1), (9, z40.2.2.1), (11, z40.2.2.2)]) (rf_upL A [(1, z28.2.2.2.2.2.2.2.2.2), (3, upd (upd m_fresh (Int32.toNatClampNeg ((153 : Int32) + ((3 : Int32) * (m_fresh (Int32.toNatClampNeg 7))))) z28.1) (Int32.toNatClampNeg (((153 : Int32) + ((3 : Int32) * (m_fresh (Int32.toNatClampNeg 7)))) + 1)) z40.1)]) z40.2.1 z40.2.2.1 z40.2.2.2 3 z28.2.1 rfl rfl rfl hz74) kV_X11_wrong tw_1443 ⟨Nat.le_of_ble_eq_true rfl, Nat.le_of_ble_eq_true rfl⟩ rfl rfl rfl rfl rfl hP (rf_DM hD) hS rfl hl.1 (rest := []) rfl (Nat.le_of_ble_eq_true rfl) dX11_gotLine_74 (fun H locs hP hS => ?_)
    rw [rf_cat (f := I) (l := [(3, z28.2.1), (4, z28.2.2.1), (5, z28.2.2.2.1), (6, z28.2.2.2.2.1), (7, z28.2.2.2.2.2.1), (8, z40.2.1), (9, z40.2.2.1), (11, z40.2.2.2)]) (lc := [(8, z74.1), (9, z74.2.1), (11, z74.2.2)]) (l' := [(3, z28.2.1), (4, z28.2.2.1), (5, z28.2.2.2.1), (6, z28.2.2.2.2.1), (7, z28.2.2.2.2.2.1), (8, z74.1), (9, z74.2.1), (11, z74.2.2)]) rfl] at hP
    exact w_X11_gotLine_77 hC hD e_m_size e_m_tape ((153 : Int32) + ((3 : Int32) * (m_fresh (Int32.toNatClampNeg 7)))) z28.2.1 z28.2.2.1 z28.2.2.2.1 z28.2.2.2.2.1 z28.2.2.2.2.2.1 z74.1 z74.2.1 z74.2.2 z28.2.2.2.2.2.2.2.2.2 (upd (upd m_fresh (Int32.toNatClampNeg ((153 : Int32) + ((3 : Int32) * (m_fresh (Int32.toNatClampNeg 7))))) z28.1) (Int32.toNatClampNeg (((153 : Int32) + ((3 : Int32) * (m_fresh (Int32.toNatClampNeg 7)))) + 1)) z40.1) hf _ _ _ hP hS (lv_sub hl [1, 0] rfl)
  have hf := rf_ie c_4 hf
  obtain rfl := Option.some.inj hf
  exact rf_retv hC hP hS rfl dX11_gotLine_7
set_option maxHeartbeats 4000000 in
set_option maxRecDepth 100000 in
theorem w_X11_hourLine_45 {l : Launch} {p : Program} {e : Env} {s : State} {m : MethodId} {args : Array Value} {below : List Frame} {meth : Method} {c : Code} {A0 : Nat → Prop} {E : rf_E} {a : Nat → Nat} {I : Nat → Int32} {A : Nat → Nat → Int32} {m_size : Int32} {m_tape : Nat → Int32} {z : Int32 × Int32 × Int32 × Int32 × Int32 × Int32 × Int32 × Int32 × (Nat → Int32) × (Nat → Int32)} (hC : rf_C p E s m args meth c cX11_hourLine 3 RX11 (none) A0) (hD : va_D A0 (cM E a I A)) (e_m_size : I 2 = m_size) (e_m_tape : A 0 = m_tape) :
    ∀ (v1 : Int32) (m_at : Int32) (m_end : Int32) (m_token : Int32) (m_whole : Int32) (m_nameSize : Int32) (m_fault : Int32) (m_place : Int32) (m_failed : Int32) (m_letters : Nat → Int32) (m_fresh : Nat → Int32), f_X11_hourLine_45 m_size m_tape v1 m_at m_end m_token m_whole m_nameSize m_fault m_place m_failed m_letters m_fresh = some z → ∀ (H : Heap) (locs : List Loc) (ls : Array Slot), va_P (rf_D E) vwCl (cM E a (rf_upL I [(3, m_at), (4, m_end), (5, m_token), (6, m_whole), (7, m_nameSize), (8, m_fault), (9, m_place), (11, m_failed)]) (rf_upL A [(1, m_letters), (3, m_fresh)])) H → va_S A0 s.heap H locs → lv_has ls 3 [(0, .ref (a 0)), (1, .int v1)] → W p l e ({ frames := 10, cells := 0, slots := 0, locals := 288 }) s m args below meth c H locs 0 0 (rf_QV below args s E A0 (cM E a (rf_upL I [(3, z.1), (4, z.2.1), (5, z.2.2.1), (6, z.2.2.2.1), (7, z.2.2.2.2.1), (8, z.2.2.2.2.2.1), (9, z.2.2.2.2.2.2.1), (11, z.2.2.2.2.2.2.2.1)]) (rf_upL A [(1, z.2.2.2.2.2.2.2.2.1), (3, z.2.2.2.2.2.2.2.2.2)]))) (F0 m 45 ls []) := by
  have hx := hC.1
  have hb := hC.2.1
  intro v1 m_at m_end m_token m_whole m_nameSize m_fault m_place m_failed m_letters m_fresh hf H locs ls hP hS hl
  unfold f_X11_hourLine_45 at hf
  refine lv_aload_n hx hb dX11_hourLine_45 rfl (lv_at hl 0 rfl) ?_
  refine gM_m_failed hC hP tw_1292 (v := m_failed) rfl dX11_hourLine_46 ?_
  refine lv_if_eq (tgt := 53) hx hb dX11_hourLine_49 (by decide) (fun c_49 => ?_) (fun c_49 => ?_)
  · have hf := rf_it c_49 hf
    refine lv_aload_n hx hb dX11_hourLine_53 rfl (lv_at hl 0 rfl) ?_
    obtain ⟨z54, hz54, hf⟩ := rf_bd hf
    refine rf_vv (q0 := 0) (ci := 11) hC (c_X11_next l E a (rf_upL I [(3, m_at), (4, m_end), (5, m_token), (6, m_whole), (7, m_nameSize), (8, m_fault), (9, m_place), (11, m_failed)]) (rf_upL A [(1, m_letters), (3, m_fresh)]) m_size m_tape m_at m_end m_token m_whole m_nameSize m_letters e_m_size e_m_tape rfl rfl rfl rfl rfl rfl hz54) kV_X11_next tw_1414 ⟨Nat.le_of_ble_eq_true rfl, Nat.le_of_ble_eq_true rfl⟩ rfl rfl rfl rfl rfl hP (rf_DM hD) hS rfl hl.1 (rest := []) rfl (Nat.le_of_ble_eq_true rfl) dX11_hourLine_54 (fun H locs hP hS => ?_)
    rw [rf_cat (f := I) (l := [(3, m_at), (4, m_end), (5, m_token), (6, m_whole), (7, m_nameSize), (8, m_fault), (9, m_place), (11, m_failed)]) (lc := [(3, z54.1), (4, z54.2.1), (5, z54.2.2.1), (6, z54.2.2.2.1), (7, z54.2.2.2.2.1)]) (l' := [(3, z54.1), (4, z54.2.1), (5, z54.2.2.1), (6, z54.2.2.2.1), (7, z54.2.2.2.2.1), (8, m_fault), (9, m_place), (11, m_failed)]) rfl] at hP
    rw [rf_cat (f := A) (l := [(1, m_letters), (3, m_fresh)]) (lc := [(1, z54.2.2.2.2.2)]) (l' := [(1, z54.2.2.2.2.2), (3, m_fresh)]) rfl] at hP
    refine lv_aload_n hx hb dX11_hourLine_57 rfl (lv_at hl 0 rfl) ?_
    refine va_ldcS hx hb hC.2.2.2.1 (lk_25 hC.2.2.2.2.2.2.2.1.2.2.2) dX11_hourLine_58 ?_
    refine lv_iconst (v := 1) hx hb dX11_hourLine_60 (by decide) ?_
    refine lv_bipush (v := 6) hx hb dX11_hourLine_61 (by decide) ?_
    obtain ⟨z63, hz63, hf⟩ := rf_bd hf
    refine rf_vi (q0 := 0) (ci := 11) hC (c_X11_after l E a (rf_upL I [(3, z54.1), (4, z54.2.1), (5, z54.2.2.1), (6, z54.2.2.2.1), (7, z54.2.2.2.2.1), (8, m_fault), (9, m_place), (11, m_failed)]) (rf_upL A [(1, z54.2.2.2.2.2), (3, m_fresh)]) m_size m_tape z54.1 z54.2.1 z54.2.2.1 z54.2.2.2.1 z54.2.2.2.2.1 m_fault m_place m_failed z54.2.2.2.2.2 25 1 6 e_m_size e_m_tape rfl rfl rfl rfl rfl rfl rfl rfl rfl (by decide) hz63) kV_X11_after tw_1448 ⟨Nat.le_of_ble_eq_true rfl, Nat.le_of_ble_eq_true rfl⟩ rfl rfl rfl rfl rfl hP (rf_DM hD) hS rfl hl.1 (rest := []) rfl (Nat.le_of_ble_eq_true rfl) dX11_hourLine_63 (fun H locs hP hS => ?_)
    rw [rf_cat (f := I) (l := [(3, z54.1), (4, z54.2.1), (5, z54.2.2.1), (6, z54.2.2.2.1), (7, z54.2.2.2.2.1), (8, m_fault), (9, m_place), (11, m_failed)]) (lc := [(3, z63.2.1), (4, z63.2.2.1), (5, z63.2.2.2.1), (6, z63.2.2.2.2.1), (7, z63.2.2.2.2.2.1), (8, z63.2.2.2.2.2.2.1), (9, z63.2.2.2.2.2.2.2.1), (11, z63.2.2.2.2.2.2.2.2.1)]) (l' := [(3, z63.2.1), (4, z63.2.2.1), (5, z63.2.2.2.1), (6, z63.2.2.2.2.1), (7, z63.2.2.2.2.2.1), (8, z63.2.2.2.2.2.2.1), (9, z63.2.2.2.2.2.2.2.1), (11, z63.2.2.2.2.2.2.2.2.1)]) rfl] at hP
    rw [rf_cat (f := A) (l := [(1, z54.2.2.2.2.2), (3, m_fresh)]) (lc := [(1, z63.2.2.2.2.2.2.2.2.2)]) (l' := [(1, z63.2.2.2.2.2.2.2.2.2), (3, m_fresh)]) rfl] at hP
    refine lv_istore_n (lv' := [(2, .int z63.1), (0, .ref (a 0)), (1, .int v1)]) hx hb dX11_hourLine_66 rfl hl (by decide) rfl (fun ls hl => ?_)
    refine lv_aload_n hx hb dX11_hourLine_67 rfl (lv_at hl 1 rfl) ?_
    refine gM_m_failed hC hP tw_1292 (v := z63.2.2.2.2.2.2.2.2.1) rfl dX11_hourLine_68 ?_
    refine lv_if_eq (tgt := 75) hx hb dX11_hourLine_71 (by decide) (fun c_71 => ?_) (fun c_71 => ?_)
    · have hf := rf_it c_71 hf
      refine lv_aload_n hx hb dX11_hourLine_75 rfl (lv_at hl 1 rfl) ?_
      refine gM_m_fresh hC hP tw_1295 dX11_hourLine_76 ?_
      refine lv_sipush (v := 129) hx hb dX11_hourLine_79 (by decide) ?_
      refine lv_iload_n hx hb dX11_hourLine_82 rfl (lv_at hl 2 rfl) ?_
      refine lv_iadd hx hb dX11_hourLine_83 ?_
      refine lv_iload_n hx hb dX11_hourLine_84 rfl (lv_at hl 0 rfl) ?_
      obtain ⟨hi_85, hf⟩ := rf_gu hf
      refine sM_m_fresh hC hD hP hS hi_85 (f := m_fresh) rfl dX11_hourLine_85 (rf_upL A [(1, z63.2.2.2.2.2.2.2.2.2), (3, upd m_fresh (Int32.toNatClampNeg ((129 : Int32) + v1)) z63.1)]) (rf_put rfl) (fun H locs hP hS => ?_)
      refine lv_aload_n hx hb dX11_hourLine_86 rfl (lv_at hl 1 rfl) ?_
      refine gM_m_fresh hC hP tw_1295 dX11_hourLine_87 ?_
      refine lv_iconst (v := 5) hx hb dX11_hourLine_90 (by decide) ?_
      refine lv_dup2_11 hx hb dX11_hourLine_91 rfl rfl ?_
      refine lM_m_fresh hC hP (by decide) (f := upd m_fresh (Int32.toNatClampNeg ((129 : Int32) + v1)) z63.1) rfl dX11_hourLine_92 ?_
      refine lv_iconst (v := 1) hx hb dX11_hourLine_93 (by decide) ?_
      refine lv_iadd hx hb dX11_hourLine_94 ?_
      refine sM_m_fresh hC hD hP hS (by decide) (f := upd m_fresh (Int32.toNatClampNeg ((129 : Int32) + v1)) z63.1) rfl dX11_hourLine_95 (rf_upL A [(1, z63.2.2.2.2.2.2.2.2.2), (3, upd (upd m_fresh (Int32.toNatClampNeg ((129 : Int32) + v1)) z63.1) (Int32.toNatClampNeg 5) (((upd m_fresh (Int32.toNatClampNeg ((129 : Int32) + v1)) z63.1) (Int32.toNatClampNeg 5)) + 1))]) (rf_put rfl) (fun H locs hP hS => ?_)
      obtain rfl := Option.some.inj hf
      exact rf_retv hC hP hS rfl dX11_hourLine_96
    have hf := rf_ie c_71 hf
    obtain rfl := Option.some.inj hf
    exact rf_retv hC hP hS rfl dX11_hourLine_74
  have hf := rf_ie c_49 hf
  obtain rfl := Option.some.inj hf
  exact rf_retv hC hP hS rfl dX11_hourLine_52
set_option maxHeartbeats 4000000 in
set_option maxRecDepth 100000 in
theorem c_X11_hourLine (l : Launch) (E : rf_E) (a : Nat → Nat) (I : Nat → Int32) (A : Nat → Nat → Int32) (m_size : Int32) (m_tape : Nat → Int32) (m_at : Int32) (m_end : Int32) (m_token : Int32) (m_whole : Int32) (m_nameSize : Int32) (m_fault : Int32) (m_place : Int32) (m_failed : Int32) (m_letters : Nat → Int32) (m_fresh : Nat → Int32) {z : Int32 × Int32 × Int32 × Int32 × Int32 × Int32 × Int32 × Int32 × (Nat → Int32) × (Nat → Int32)} (e_m_size : I 2 = m_size) (e_m_tape : A 0 = m_tape) (e_m_at : I 3 = m_at) (e_m_end : I 4 = m_end) (e_m_token : I 5 = m_token) (e_m_whole : I 6 = m_whole) (e_m_nameSize : I 7 = m_nameSize) (e_m_fault : I 8 = m_fault) (e_m_place : I 9 = m_place) (e_m_failed : I 11 = m_failed) (e_m_letters : A 1 = m_letters) (e_m_fresh : A 3 = m_fresh) (hf : f_X11_hourLine m_size m_tape m_at m_end m_token m_whole m_nameSize m_fault m_place m_failed m_letters m_fresh = some z) : rf_MV l yX11_hourLine cX11_hourLine 3 ({ frames := 10, cells := 0, slots := 0, locals := 288 }) E [.ref (a 0)] (cM E a I A) (cM E a (rf_upL I [(3, z.1), (4, z.2.1), (5, z.2.2.1), (6, z.2.2.2.1), (7, z.2.2.2.2.1), (8, z.2.2.2.2.2.1), (9, z.2.2.2.2.2.2.1), (11, z.2.2.2.2.2.2.2.1)]) (rf_upL A [(1, z.2.2.2.2.2.2.2.2.1), (3, z.2.2.2.2.2.2.2.2.2)])) := by
  unfold f_X11_hourLine at hf
  refine rf_ofV (by decide) (Nat.le_of_ble_eq_true rfl) ?_
  intro p e s m below meth c A0 ls hC hD hP hS hl
  have hC : rf_C p E s m _ meth c cX11_hourLine 3 RX11 (none) A0 := hC
  have hx := hC.1
  have hb := hC.2.1
  have hl : lv_has ls 3 [(0, .ref (a 0))] := hl
  have hP : va_P (rf_D E) vwCl (cM E a (rf_upL I [(3, m_at), (4, m_end), (5, m_token), (6, m_whole), (7, m_nameSize), (8, m_fault), (9, m_place), (11, m_failed)]) (rf_upL A [(1, m_letters), (3, m_fresh)])) s.heap := by
    rw [rf_self (f := I) [(3, m_at), (4, m_end), (5, m_token), (6, m_whole), (7, m_nameSize), (8, m_fault), (9, m_place), (11, m_failed)] (rf_fa1 e_m_at (rf_fa1 e_m_end (rf_fa1 e_m_token (rf_fa1 e_m_whole (rf_fa1 e_m_nameSize (rf_fa1 e_m_fault (rf_fa1 e_m_place (rf_fa1 e_m_failed rf_fa0))))))))]
    rw [rf_self (f := A) [(1, m_letters), (3, m_fresh)] (rf_fa1 e_m_letters (rf_fa1 e_m_fresh rf_fa0))]
    exact hP
  refine lv_aload_n hx hb dX11_hourLine_0 rfl (lv_at hl 0 rfl) ?_
  refine gM_m_failed hC hP tw_1292 (v := m_failed) rfl dX11_hourLine_1 ?_
  refine lv_if_eq (tgt := 8) hx hb dX11_hourLine_4 (by decide) (fun c_4 => ?_) (fun c_4 => ?_)
  · have hf := rf_it c_4 hf
    refine lv_aload_n hx hb dX11_hourLine_8 rfl (lv_at hl 0 rfl) ?_
    refine lv_iconst (v := 0) hx hb dX11_hourLine_9 (by decide) ?_
    refine lv_bipush (v := 23) hx hb dX11_hourLine_10 (by decide) ?_
    obtain ⟨z12, hz12, hf⟩ := rf_bd hf
    refine rf_vi (q0 := 0) (ci := 11) hC (c_X11_numberHere l E a (rf_upL I [(3, m_at), (4, m_end), (5, m_token), (6, m_whole), (7, m_nameSize), (8, m_fault), (9, m_place), (11, m_failed)]) (rf_upL A [(1, m_letters), (3, m_fresh)]) m_at m_token m_whole m_fault m_place m_failed 0 23 rfl rfl rfl rfl rfl rfl hz12) kV_X11_numberHere tw_1464 ⟨Nat.le_of_ble_eq_true rfl, Nat.le_of_ble_eq_true rfl⟩ rfl rfl rfl rfl rfl hP (rf_DM hD) hS rfl hl.1 (rest := []) rfl (Nat.le_of_ble_eq_true rfl) dX11_hourLine_12 (fun H locs hP hS => ?_)
    rw [rf_cat (f := I) (l := [(3, m_at), (4, m_end), (5, m_token), (6, m_whole), (7, m_nameSize), (8, m_fault), (9, m_place), (11, m_failed)]) (lc := [(8, z12.2.1), (9, z12.2.2.1), (11, z12.2.2.2)]) (l' := [(3, m_at), (4, m_end), (5, m_token), (6, m_whole), (7, m_nameSize), (8, z12.2.1), (9, z12.2.2.1), (11, z12.2.2.2)]) rfl] at hP
    refine lv_istore_n (lv' := [(1, .int z12.1), (0, .ref (a 0))]) hx hb dX11_hourLine_15 rfl hl (by decide) rfl (fun ls hl => ?_)
    refine lv_aload_n hx hb dX11_hourLine_16 rfl (lv_at hl 1 rfl) ?_
    refine gM_m_failed hC hP tw_1292 (v := z12.2.2.2) rfl dX11_hourLine_17 ?_
    refine lv_if_ne (tgt := 45) hx hb dX11_hourLine_20 (by decide) (fun c_20 => ?_) (fun c_20 => ?_)
    · have hf := rf_ie c_20 hf
      exact w_X11_hourLine_45 hC hD e_m_size e_m_tape z12.1 m_at m_end m_token m_whole m_nameSize z12.2.1 z12.2.2.1 z12.2.2.2 m_letters m_fresh hf _ _ _ hP hS (lv_sub hl [1, 0] rfl)
    have hf := rf_it c_20 hf
    refine lv_aload_n hx hb dX11_hourLine_23 rfl (lv_at hl 1 rfl) ?_
    refine gM_m_fresh hC hP tw_1295 dX11_hourLine_24 ?_
    refine lv_sipush (v := 129) hx hb dX11_hourLine_27 (by decide) ?_
    refine lv_iload_n hx hb dX11_hourLine_30 rfl (lv_at hl 0 rfl) ?_
    refine lv_iadd hx hb dX11_hourLine_31 ?_
    obtain ⟨hi_32, hf⟩ := rf_gu hf
    refine lM_m_fresh hC hP hi_32 (f := m_fresh) rfl dX11_hourLine_32 ?_
    refine lv_if_le (tgt := 45) hx hb dX11_hourLine_33 (by decide) (fun c_33 => ?_) (fun c_33 => ?_)
    · have hf := rf_it c_33 hf
      exact w_X11_hourLine_45 hC hD e_m_size e_m_tape z12.1 m_at m_end m_token m_whole m_nameSize z12.2.1 z12.2.2.1 z12.2.2.2 m_letters m_fresh hf _ _ _ hP hS (lv_sub hl [1, 0] rfl)
    have hf := rf_ie c_33 hf
    refine lv_aload_n hx hb dX11_hourLine_36 rfl (lv_at hl 1 rfl) ?_
    refine lv_iconst (v := 3) hx hb dX11_hourLine_37 (by decide) ?_
    refine lv_aload_n hx hb dX11_hourLine_38 rfl (lv_at hl 1 rfl) ?_
    refine gM_m_at hC hP tw_1283 (v := m_at) rfl dX11_hourLine_39 ?_
    obtain ⟨z42, hz42, hf⟩ := rf_bd hf
    refine rf_vv (q0 := 0) (ci := 11) hC (c_X11_wrong l E a (rf_upL I [(3, m_at), (4, m_end), (5, m_token), (6, m_whole), (7, m_nameSize), (8, z12.2.1), (9, z12.2.2.1), (11, z12.2.2.2)]) (rf_upL A [(1, m_letters), (3, m_fresh)]) z12.2.1 z12.2.2.1 z12.2.2.2 3 m_at rfl rfl rfl hz42) kV_X11_wrong tw_1443 ⟨Nat.le_of_ble_eq_true rfl, Nat.le_of_ble_eq_true rfl⟩ rfl rfl rfl rfl rfl hP (rf_DM hD) hS rfl hl.1 (rest := []) rfl (Nat.le_of_ble_eq_true rfl) dX11_hourLine_42 (fun H locs hP hS => ?_)
    rw [rf_cat (f := I) (l := [(3, m_at), (4, m_end), (5, m_token), (6, m_whole), (7, m_nameSize), (8, z12.2.1), (9, z12.2.2.1), (11, z12.2.2.2)]) (lc := [(8, z42.1), (9, z42.2.1), (11, z42.2.2)]) (l' := [(3, m_at), (4, m_end), (5, m_token), (6, m_whole), (7, m_nameSize), (8, z42.1), (9, z42.2.1), (11, z42.2.2)]) rfl] at hP
    exact w_X11_hourLine_45 hC hD e_m_size e_m_tape z12.1 m_at m_end m_token m_whole m_nameSize z42.1 z42.2.1 z42.2.2 m_letters m_fresh hf _ _ _ hP hS (lv_sub hl [1, 0] rfl)
  have hf := rf_ie c_4 hf
  obtain rfl := Option.some.inj hf
  exact rf_retv hC hP hS rfl dX11_hourLine_7
set_option maxHeartbeats 4000000 in
set_option maxRecDepth 100000 in
theorem c_X11_wordHere (l : Launch) (E : rf_E) (a : Nat → Nat) (I : Nat → Int32) (A : Nat → Nat → Int32) (m_at : Int32) (m_token : Int32) (m_nameSize : Int32) (m_letters : Nat → Int32) (m_fresh : Nat → Int32) (m_fault : Int32) (m_place : Int32) (m_failed : Int32) {z : Int32 × Int32 × Int32 × Int32} (e_m_at : I 3 = m_at) (e_m_token : I 5 = m_token) (e_m_nameSize : I 7 = m_nameSize) (e_m_letters : A 1 = m_letters) (e_m_fresh : A 3 = m_fresh) (e_m_fault : I 8 = m_fault) (e_m_place : I 9 = m_place) (e_m_failed : I 11 = m_failed) (hf : f_X11_wordHere m_at m_token m_nameSize m_letters m_fresh m_fault m_place m_failed = some z) : rf_MI l yX11_wordHere cX11_wordHere 1 (some .int) ({ frames := 9, cells := 0, slots := 0, locals := 266 }) E [.ref (a 0)] (cM E a I A) z.1 (cM E a (rf_upL I [(8, z.2.1), (9, z.2.2.1), (11, z.2.2.2)]) A) := by
  unfold f_X11_wordHere at hf
  refine rf_ofI (by decide) (Nat.le_of_ble_eq_true rfl) ?_
  intro p e s m below meth c A0 ls hC hD hP hS hl
  have hC : rf_C p E s m _ meth c cX11_wordHere 1 RX11 (some .int) A0 := hC
  have hx := hC.1
  have hb := hC.2.1
  have hl : lv_has ls 1 [(0, .ref (a 0))] := hl
  have hP : va_P (rf_D E) vwCl (cM E a (rf_upL I [(8, m_fault), (9, m_place), (11, m_failed)]) A) s.heap := by
    rw [rf_self (f := I) [(8, m_fault), (9, m_place), (11, m_failed)] (rf_fa1 e_m_fault (rf_fa1 e_m_place (rf_fa1 e_m_failed rf_fa0)))]
    exact hP
  refine lv_aload_n hx hb dX11_wordHere_0 rfl (lv_at hl 0 rfl) ?_
  refine lv_iconst (v := 0) hx hb dX11_wordHere_1 (by decide) ?_
  refine lv_bipush (v := 9) hx hb dX11_wordHere_2 (by decide) ?_
  obtain ⟨z4, hz4, hf⟩ := rf_bd hf
  refine rf_vi (q0 := 0) (ci := 11) hC (c_X11_named l E a (rf_upL I [(8, m_fault), (9, m_place), (11, m_failed)]) A m_at m_token m_nameSize m_letters m_fresh m_fault m_place m_failed 0 9 e_m_at e_m_token e_m_nameSize e_m_letters e_m_fresh rfl rfl rfl hz4) kV_X11_named tw_1523 ⟨Nat.le_of_ble_eq_true rfl, Nat.le_of_ble_eq_true rfl⟩ rfl rfl rfl rfl rfl hP (rf_DM hD) hS rfl hl.1 (rest := []) rfl (Nat.le_of_ble_eq_true rfl) dX11_wordHere_4 (fun H locs hP hS => ?_)
  rw [rf_cat (f := I) (l := [(8, m_fault), (9, m_place), (11, m_failed)]) (lc := [(8, z4.2.1), (9, z4.2.2.1), (11, z4.2.2.2)]) (l' := [(8, z4.2.1), (9, z4.2.2.1), (11, z4.2.2.2)]) rfl] at hP
  obtain rfl := Option.some.inj hf
  exact rf_reti hC hP hS rfl rfl dX11_wordHere_7
set_option maxHeartbeats 4000000 in
set_option maxRecDepth 100000 in
theorem w_X11_knowsLine_54 {l : Launch} {p : Program} {e : Env} {s : State} {m : MethodId} {args : Array Value} {below : List Frame} {meth : Method} {c : Code} {A0 : Nat → Prop} {E : rf_E} {a : Nat → Nat} {I : Nat → Int32} {A : Nat → Nat → Int32} {m_size : Int32} {m_tape : Nat → Int32} {z : Int32 × Int32 × Int32 × Int32 × Int32 × Int32 × Int32 × Int32 × (Nat → Int32) × (Nat → Int32)} (hC : rf_C p E s m args meth c cX11_knowsLine 3 RX11 (none) A0) (hD : va_D A0 (cM E a I A)) (e_m_size : I 2 = m_size) (e_m_tape : A 0 = m_tape) :
    ∀ (v1 : Int32) (v2 : Int32) (m_at : Int32) (m_end : Int32) (m_token : Int32) (m_whole : Int32) (m_nameSize : Int32) (m_fault : Int32) (m_place : Int32) (m_failed : Int32) (m_letters : Nat → Int32) (m_fresh : Nat → Int32), f_X11_knowsLine_54 m_size m_tape v1 v2 m_at m_end m_token m_whole m_nameSize m_fault m_place m_failed m_letters m_fresh = some z → ∀ (H : Heap) (locs : List Loc) (ls : Array Slot), va_P (rf_D E) vwCl (cM E a (rf_upL I [(3, m_at), (4, m_end), (5, m_token), (6, m_whole), (7, m_nameSize), (8, m_fault), (9, m_place), (11, m_failed)]) (rf_upL A [(1, m_letters), (3, m_fresh)])) H → va_S A0 s.heap H locs → lv_has ls 3 [(0, .ref (a 0)), (1, .int v1), (2, .int v2)] → W p l e ({ frames := 11, cells := 0, slots := 0, locals := 307 }) s m args below meth c H locs 0 0 (rf_QV below args s E A0 (cM E a (rf_upL I [(3, z.1), (4, z.2.1), (5, z.2.2.1), (6, z.2.2.2.1), (7, z.2.2.2.2.1), (8, z.2.2.2.2.2.1), (9, z.2.2.2.2.2.2.1), (11, z.2.2.2.2.2.2.2.1)]) (rf_upL A [(1, z.2.2.2.2.2.2.2.2.1), (3, z.2.2.2.2.2.2.2.2.2)]))) (F0 m 54 ls []) := by
  have hx := hC.1
  have hb := hC.2.1
  intro v1 v2 m_at m_end m_token m_whole m_nameSize m_fault m_place m_failed m_letters m_fresh hf H locs ls hP hS hl
  unfold f_X11_knowsLine_54 at hf
  refine lv_aload_n hx hb dX11_knowsLine_54 rfl (lv_at hl 0 rfl) ?_
  refine gM_m_failed hC hP tw_1292 (v := m_failed) rfl dX11_knowsLine_55 ?_
  refine lv_if_eq (tgt := 62) hx hb dX11_knowsLine_58 (by decide) (fun c_58 => ?_) (fun c_58 => ?_)
  · have hf := rf_it c_58 hf
    refine lv_aload_n hx hb dX11_knowsLine_62 rfl (lv_at hl 0 rfl) ?_
    obtain ⟨z63, hz63, hf⟩ := rf_bd hf
    refine rf_vv (q0 := 0) (ci := 11) hC (c_X11_next l E a (rf_upL I [(3, m_at), (4, m_end), (5, m_token), (6, m_whole), (7, m_nameSize), (8, m_fault), (9, m_place), (11, m_failed)]) (rf_upL A [(1, m_letters), (3, m_fresh)]) m_size m_tape m_at m_end m_token m_whole m_nameSize m_letters e_m_size e_m_tape rfl rfl rfl rfl rfl rfl hz63) kV_X11_next tw_1414 ⟨Nat.le_of_ble_eq_true rfl, Nat.le_of_ble_eq_true rfl⟩ rfl rfl rfl rfl rfl hP (rf_DM hD) hS rfl hl.1 (rest := []) rfl (Nat.le_of_ble_eq_true rfl) dX11_knowsLine_63 (fun H locs hP hS => ?_)
    rw [rf_cat (f := I) (l := [(3, m_at), (4, m_end), (5, m_token), (6, m_whole), (7, m_nameSize), (8, m_fault), (9, m_place), (11, m_failed)]) (lc := [(3, z63.1), (4, z63.2.1), (5, z63.2.2.1), (6, z63.2.2.2.1), (7, z63.2.2.2.2.1)]) (l' := [(3, z63.1), (4, z63.2.1), (5, z63.2.2.1), (6, z63.2.2.2.1), (7, z63.2.2.2.2.1), (8, m_fault), (9, m_place), (11, m_failed)]) rfl] at hP
    rw [rf_cat (f := A) (l := [(1, m_letters), (3, m_fresh)]) (lc := [(1, z63.2.2.2.2.2)]) (l' := [(1, z63.2.2.2.2.2), (3, m_fresh)]) rfl] at hP
    refine lv_aload_n hx hb dX11_knowsLine_66 rfl (lv_at hl 0 rfl) ?_
    refine gM_m_fresh hC hP tw_1295 dX11_knowsLine_67 ?_
    refine lv_bipush (v := 89) hx hb dX11_knowsLine_70 (by decide) ?_
    refine lv_iconst (v := 4) hx hb dX11_knowsLine_72 (by decide) ?_
    refine lv_iload_n hx hb dX11_knowsLine_73 rfl (lv_at hl 1 rfl) ?_
    refine lv_imul hx hb dX11_knowsLine_74 ?_
    refine lv_iadd hx hb dX11_knowsLine_75 ?_
    refine lv_iconst (v := 2) hx hb dX11_knowsLine_76 (by decide) ?_
    refine lv_iadd hx hb dX11_knowsLine_77 ?_
    refine lv_dup2_11 hx hb dX11_knowsLine_78 rfl rfl ?_
    obtain ⟨hi_79, hf⟩ := rf_gu hf
    refine lM_m_fresh hC hP hi_79 (f := m_fresh) rfl dX11_knowsLine_79 ?_
    refine lv_iconst (v := 1) hx hb dX11_knowsLine_80 (by decide) ?_
    refine lv_iload_n hx hb dX11_knowsLine_81 rfl (lv_at hl 2 rfl) ?_
    refine lv_ishl hx hb dX11_knowsLine_82 ?_
    refine lv_ior hx hb dX11_knowsLine_83 ?_
    obtain ⟨hi_84, hf⟩ := rf_gu hf
    refine sM_m_fresh hC hD hP hS hi_84 (f := m_fresh) rfl dX11_knowsLine_84 (rf_upL A [(1, z63.2.2.2.2.2), (3, upd m_fresh (Int32.toNatClampNeg (((89 : Int32) + ((4 : Int32) * v1)) + 2)) ((m_fresh (Int32.toNatClampNeg (((89 : Int32) + ((4 : Int32) * v1)) + 2))) ||| ((1 : Int32) <<< (v2 &&& 31))))]) (rf_put rfl) (fun H locs hP hS => ?_)
    refine lv_aload_n hx hb dX11_knowsLine_85 rfl (lv_at hl 0 rfl) ?_
    refine gM_m_fresh hC hP tw_1295 dX11_knowsLine_86 ?_
    refine lv_bipush (v := 8) hx hb dX11_knowsLine_89 (by decide) ?_
    refine lv_dup2_11 hx hb dX11_knowsLine_91 rfl rfl ?_
    refine lM_m_fresh hC hP (by decide) (f := upd m_fresh (Int32.toNatClampNeg (((89 : Int32) + ((4 : Int32) * v1)) + 2)) ((m_fresh (Int32.toNatClampNeg (((89 : Int32) + ((4 : Int32) * v1)) + 2))) ||| ((1 : Int32) <<< (v2 &&& 31)))) rfl dX11_knowsLine_92 ?_
    refine lv_iconst (v := 1) hx hb dX11_knowsLine_93 (by decide) ?_
    refine lv_iadd hx hb dX11_knowsLine_94 ?_
    refine sM_m_fresh hC hD hP hS (by decide) (f := upd m_fresh (Int32.toNatClampNeg (((89 : Int32) + ((4 : Int32) * v1)) + 2)) ((m_fresh (Int32.toNatClampNeg (((89 : Int32) + ((4 : Int32) * v1)) + 2))) ||| ((1 : Int32) <<< (v2 &&& 31)))) rfl dX11_knowsLine_95 (rf_upL A [(1, z63.2.2.2.2.2), (3, upd (upd m_fresh (Int32.toNatClampNeg (((89 : Int32) + ((4 : Int32) * v1)) + 2)) ((m_fresh (Int32.toNatClampNeg (((89 : Int32) + ((4 : Int32) * v1)) + 2))) ||| ((1 : Int32) <<< (v2 &&& 31)))) (Int32.toNatClampNeg 8) (((upd m_fresh (Int32.toNatClampNeg (((89 : Int32) + ((4 : Int32) * v1)) + 2)) ((m_fresh (Int32.toNatClampNeg (((89 : Int32) + ((4 : Int32) * v1)) + 2))) ||| ((1 : Int32) <<< (v2 &&& 31)))) (Int32.toNatClampNeg 8)) + 1))]) (rf_put rfl) (fun H locs hP hS => ?_)
    obtain rfl := Option.some.inj hf
    exact rf_retv hC hP hS rfl dX11_knowsLine_96
  have hf := rf_ie c_58 hf
  obtain rfl := Option.some.inj hf
  exact rf_retv hC hP hS rfl dX11_knowsLine_61
set_option maxHeartbeats 4000000 in
set_option maxRecDepth 100000 in
theorem c_X11_knowsLine (l : Launch) (E : rf_E) (a : Nat → Nat) (I : Nat → Int32) (A : Nat → Nat → Int32) (m_size : Int32) (m_tape : Nat → Int32) (m_at : Int32) (m_end : Int32) (m_token : Int32) (m_whole : Int32) (m_nameSize : Int32) (m_fault : Int32) (m_place : Int32) (m_failed : Int32) (m_letters : Nat → Int32) (m_fresh : Nat → Int32) {z : Int32 × Int32 × Int32 × Int32 × Int32 × Int32 × Int32 × Int32 × (Nat → Int32) × (Nat → Int32)} (e_m_size : I 2 = m_size) (e_m_tape : A 0 = m_tape) (e_m_at : I 3 = m_at) (e_m_end : I 4 = m_end) (e_m_token : I 5 = m_token) (e_m_whole : I 6 = m_whole) (e_m_nameSize : I 7 = m_nameSize) (e_m_fault : I 8 = m_fault) (e_m_place : I 9 = m_place) (e_m_failed : I 11 = m_failed) (e_m_letters : A 1 = m_letters) (e_m_fresh : A 3 = m_fresh) (hf : f_X11_knowsLine m_size m_tape m_at m_end m_token m_whole m_nameSize m_fault m_place m_failed m_letters m_fresh = some z) : rf_MV l yX11_knowsLine cX11_knowsLine 3 ({ frames := 11, cells := 0, slots := 0, locals := 307 }) E [.ref (a 0)] (cM E a I A) (cM E a (rf_upL I [(3, z.1), (4, z.2.1), (5, z.2.2.1), (6, z.2.2.2.1), (7, z.2.2.2.2.1), (8, z.2.2.2.2.2.1), (9, z.2.2.2.2.2.2.1), (11, z.2.2.2.2.2.2.2.1)]) (rf_upL A [(1, z.2.2.2.2.2.2.2.2.1), (3, z.2.2.2.2.2.2.2.2.2)])) := by
  unfold f_X11_knowsLine at hf
  refine rf_ofV (by decide) (Nat.le_of_ble_eq_true rfl) ?_
  intro p e s m below meth c A0 ls hC hD hP hS hl
  have hC : rf_C p E s m _ meth c cX11_knowsLine 3 RX11 (none) A0 := hC
  have hx := hC.1
  have hb := hC.2.1
  have hl : lv_has ls 3 [(0, .ref (a 0))] := hl
  have hP : va_P (rf_D E) vwCl (cM E a (rf_upL I [(3, m_at), (4, m_end), (5, m_token), (6, m_whole), (7, m_nameSize), (8, m_fault), (9, m_place), (11, m_failed)]) (rf_upL A [(1, m_letters), (3, m_fresh)])) s.heap := by
    rw [rf_self (f := I) [(3, m_at), (4, m_end), (5, m_token), (6, m_whole), (7, m_nameSize), (8, m_fault), (9, m_place), (11, m_failed)] (rf_fa1 e_m_at (rf_fa1 e_m_end (rf_fa1 e_m_token (rf_fa1 e_m_whole (rf_fa1 e_m_nameSize (rf_fa1 e_m_fault (rf_fa1 e_m_place (rf_fa1 e_m_failed rf_fa0))))))))]
    rw [rf_self (f := A) [(1, m_letters), (3, m_fresh)] (rf_fa1 e_m_letters (rf_fa1 e_m_fresh rf_fa0))]
    exact hP
  refine lv_aload_n hx hb dX11_knowsLine_0 rfl (lv_at hl 0 rfl) ?_
  refine gM_m_failed hC hP tw_1292 (v := m_failed) rfl dX11_knowsLine_1 ?_
  refine lv_if_eq (tgt := 8) hx hb dX11_knowsLine_4 (by decide) (fun c_4 => ?_) (fun c_4 => ?_)
  · have hf := rf_it c_4 hf
    refine lv_aload_n hx hb dX11_knowsLine_8 rfl (lv_at hl 0 rfl) ?_
    obtain ⟨z9, hz9, hf⟩ := rf_bd hf
    refine rf_vi (q0 := 0) (ci := 11) hC (c_X11_personPassed l E a (rf_upL I [(3, m_at), (4, m_end), (5, m_token), (6, m_whole), (7, m_nameSize), (8, m_fault), (9, m_place), (11, m_failed)]) (rf_upL A [(1, m_letters), (3, m_fresh)]) m_size m_tape m_fresh m_at m_end m_token m_whole m_nameSize m_fault m_place m_failed m_letters e_m_size e_m_tape rfl rfl rfl rfl rfl rfl rfl rfl rfl rfl hz9) kV_X11_personPassed tw_1531 ⟨Nat.le_of_ble_eq_true rfl, Nat.le_of_ble_eq_true rfl⟩ rfl rfl rfl rfl rfl hP (rf_DM hD) hS rfl hl.1 (rest := []) rfl (Nat.le_of_ble_eq_true rfl) dX11_knowsLine_9 (fun H locs hP hS => ?_)
    rw [rf_cat (f := I) (l := [(3, m_at), (4, m_end), (5, m_token), (6, m_whole), (7, m_nameSize), (8, m_fault), (9, m_place), (11, m_failed)]) (lc := [(3, z9.2.1), (4, z9.2.2.1), (5, z9.2.2.2.1), (6, z9.2.2.2.2.1), (7, z9.2.2.2.2.2.1), (8, z9.2.2.2.2.2.2.1), (9, z9.2.2.2.2.2.2.2.1), (11, z9.2.2.2.2.2.2.2.2.1)]) (l' := [(3, z9.2.1), (4, z9.2.2.1), (5, z9.2.2.2.1), (6, z9.2.2.2.2.1), (7, z9.2.2.2.2.2.1), (8, z9.2.2.2.2.2.2.1), (9, z9.2.2.2.2.2.2.2.1), (11, z9.2.2.2.2.2.2.2.2.1)]) rfl] at hP
    rw [rf_cat (f := A) (l := [(1, m_letters), (3, m_fresh)]) (lc := [(1, z9.2.2.2.2.2.2.2.2.2)]) (l' := [(1, z9.2.2.2.2.2.2.2.2.2), (3, m_fresh)]) rfl] at hP
    refine lv_istore_n (lv' := [(1, .int z9.1), (0, .ref (a 0))]) hx hb dX11_knowsLine_12 rfl hl (by decide) rfl (fun ls hl => ?_)
    refine lv_aload_n hx hb dX11_knowsLine_13 rfl (lv_at hl 1 rfl) ?_
    obtain ⟨z14, hz14, hf⟩ := rf_bd hf
    refine rf_vi (q0 := 0) (ci := 11) hC (c_X11_wordHere l E a (rf_upL I [(3, z9.2.1), (4, z9.2.2.1), (5, z9.2.2.2.1), (6, z9.2.2.2.2.1), (7, z9.2.2.2.2.2.1), (8, z9.2.2.2.2.2.2.1), (9, z9.2.2.2.2.2.2.2.1), (11, z9.2.2.2.2.2.2.2.2.1)]) (rf_upL A [(1, z9.2.2.2.2.2.2.2.2.2), (3, m_fresh)]) z9.2.1 z9.2.2.2.1 z9.2.2.2.2.2.1 z9.2.2.2.2.2.2.2.2.2 m_fresh z9.2.2.2.2.2.2.1 z9.2.2.2.2.2.2.2.1 z9.2.2.2.2.2.2.2.2.1 rfl rfl rfl rfl rfl rfl rfl rfl hz14) kV_X11_wordHere tw_1519 ⟨Nat.le_of_ble_eq_true rfl, Nat.le_of_ble_eq_true rfl⟩ rfl rfl rfl rfl rfl hP (rf_DM hD) hS rfl hl.1 (rest := []) rfl (Nat.le_of_ble_eq_true rfl) dX11_knowsLine_14 (fun H locs hP hS => ?_)
    rw [rf_cat (f := I) (l := [(3, z9.2.1), (4, z9.2.2.1), (5, z9.2.2.2.1), (6, z9.2.2.2.2.1), (7, z9.2.2.2.2.2.1), (8, z9.2.2.2.2.2.2.1), (9, z9.2.2.2.2.2.2.2.1), (11, z9.2.2.2.2.2.2.2.2.1)]) (lc := [(8, z14.2.1), (9, z14.2.2.1), (11, z14.2.2.2)]) (l' := [(3, z9.2.1), (4, z9.2.2.1), (5, z9.2.2.2.1), (6, z9.2.2.2.2.1), (7, z9.2.2.2.2.2.1), (8, z14.2.1), (9, z14.2.2.1), (11, z14.2.2.2)]) rfl] at hP
    refine lv_istore_n (lv' := [(2, .int z14.1), (1, .int z9.1), (0, .ref (a 0))]) hx hb dX11_knowsLine_17 rfl hl (by decide) rfl (fun ls hl => ?_)
    refine lv_aload_n hx hb dX11_knowsLine_18 rfl (lv_at hl 2 rfl) ?_
    refine gM_m_failed hC hP tw_1292 (v := z14.2.2.2) rfl dX11_knowsLine_19 ?_
    refine lv_if_ne (tgt := 54) hx hb dX11_knowsLine_22 (by decide) (fun c_22 => ?_) (fun c_22 => ?_)
    · have hf := rf_ie c_22 hf
      exact w_X11_knowsLine_54 hC hD e_m_size e_m_tape z9.1 z14.1 z9.2.1 z9.2.2.1 z9.2.2.2.1 z9.2.2.2.2.1 z9.2.2.2.2.2.1 z14.2.1 z14.2.2.1 z14.2.2.2 z9.2.2.2.2.2.2.2.2.2 m_fresh hf _ _ _ hP hS (lv_sub hl [2, 1, 0] rfl)
    have hf := rf_it c_22 hf
    refine lv_aload_n hx hb dX11_knowsLine_25 rfl (lv_at hl 2 rfl) ?_
    refine gM_m_fresh hC hP tw_1295 dX11_knowsLine_26 ?_
    refine lv_bipush (v := 89) hx hb dX11_knowsLine_29 (by decide) ?_
    refine lv_iconst (v := 4) hx hb dX11_knowsLine_31 (by decide) ?_
    refine lv_iload_n hx hb dX11_knowsLine_32 rfl (lv_at hl 1 rfl) ?_
    refine lv_imul hx hb dX11_knowsLine_33 ?_
    refine lv_iadd hx hb dX11_knowsLine_34 ?_
    refine lv_iconst (v := 2) hx hb dX11_knowsLine_35 (by decide) ?_
    refine lv_iadd hx hb dX11_knowsLine_36 ?_
    obtain ⟨hi_37, hf⟩ := rf_gu hf
    refine lM_m_fresh hC hP hi_37 (f := m_fresh) rfl dX11_knowsLine_37 ?_
    refine lv_iload_n hx hb dX11_knowsLine_38 rfl (lv_at hl 0 rfl) ?_
    obtain ⟨z39, hz39, hf⟩ := rf_bd hf
    refine rf_si0 hC (c_X11_hasBit l E (m_fresh (Int32.toNatClampNeg (((89 : Int32) + ((4 : Int32) * z9.1)) + 2))) z14.1 hz39) kS_X11_hasBit tw_1539 ⟨Nat.le_of_ble_eq_true rfl, Nat.le_of_ble_eq_true rfl⟩ rfl rfl hP hS rfl hl.1 (rest := []) rfl (Nat.le_of_ble_eq_true rfl) dX11_knowsLine_39 (fun H locs hP hS => ?_)
    refine lv_if_eq (tgt := 54) hx hb dX11_knowsLine_42 (by decide) (fun c_42 => ?_) (fun c_42 => ?_)
    · have hf := rf_it c_42 hf
      exact w_X11_knowsLine_54 hC hD e_m_size e_m_tape z9.1 z14.1 z9.2.1 z9.2.2.1 z9.2.2.2.1 z9.2.2.2.2.1 z9.2.2.2.2.2.1 z14.2.1 z14.2.2.1 z14.2.2.2 z9.2.2.2.2.2.2.2.2.2 m_fresh hf _ _ _ hP hS (lv_sub hl [2, 1, 0] rfl)
    have hf := rf_ie c_42 hf
    refine lv_aload_n hx hb dX11_knowsLine_45 rfl (lv_at hl 2 rfl) ?_
    refine lv_iconst (v := 3) hx hb dX11_knowsLine_46 (by decide) ?_
    refine lv_aload_n hx hb dX11_knowsLine_47 rfl (lv_at hl 2 rfl) ?_
    refine gM_m_at hC hP tw_1283 (v := z9.2.1) rfl dX11_knowsLine_48 ?_
    obtain ⟨z51, hz51, hf⟩ := rf_bd hf
    refine rf_vv (q0 := 0) (ci := 11) hC (c_X11_wrong l E a (rf_upL I [(3, z9.2.1), (4, z9.2.2.1), (5, z9.2.2.2.1), (6, z9.2.2.2.2.1), (7, z9.2.2.2.2.2.1), (8, z14.2.1), (9, z14.2.2.1), (11, z14.2.2.2)]) (rf_upL A [(1, z9.2.2.2.2.2.2.2.2.2), (3, m_fresh)]) z14.2.1 z14.2.2.1 z14.2.2.2 3 z9.2.1 rfl rfl rfl hz51) kV_X11_wrong tw_1443 ⟨Nat.le_of_ble_eq_true rfl, Nat.le_of_ble_eq_true rfl⟩ rfl rfl rfl rfl rfl hP (rf_DM hD) hS rfl hl.1 (rest := []) rfl (Nat.le_of_ble_eq_true rfl) dX11_knowsLine_51 (fun H locs hP hS => ?_)
    rw [rf_cat (f := I) (l := [(3, z9.2.1), (4, z9.2.2.1), (5, z9.2.2.2.1), (6, z9.2.2.2.2.1), (7, z9.2.2.2.2.2.1), (8, z14.2.1), (9, z14.2.2.1), (11, z14.2.2.2)]) (lc := [(8, z51.1), (9, z51.2.1), (11, z51.2.2)]) (l' := [(3, z9.2.1), (4, z9.2.2.1), (5, z9.2.2.2.1), (6, z9.2.2.2.2.1), (7, z9.2.2.2.2.2.1), (8, z51.1), (9, z51.2.1), (11, z51.2.2)]) rfl] at hP
    exact w_X11_knowsLine_54 hC hD e_m_size e_m_tape z9.1 z14.1 z9.2.1 z9.2.2.1 z9.2.2.2.1 z9.2.2.2.2.1 z9.2.2.2.2.2.1 z51.1 z51.2.1 z51.2.2 z9.2.2.2.2.2.2.2.2.2 m_fresh hf _ _ _ hP hS (lv_sub hl [2, 1, 0] rfl)
  have hf := rf_ie c_4 hf
  obtain rfl := Option.some.inj hf
  exact rf_retv hC hP hS rfl dX11_knowsLine_7
set_option maxHeartbeats 4000000 in
set_option maxRecDepth 100000 in
theorem w_X11_newName_45 {l : Launch} {p : Program} {e : Env} {s : State} {m : MethodId} {args : Array Value} {below : List Frame} {meth : Method} {c : Code} {A0 : Nat → Prop} {E : rf_E} {a : Nat → Nat} {I : Nat → Int32} {A : Nat → Nat → Int32} {m_size : Int32} {m_tape : Nat → Int32} {z : Int32 × Int32 × Int32 × Int32 × Int32 × Int32 × Int32 × Int32 × (Nat → Int32) × (Nat → Int32)} (hC : rf_C p E s m args meth c cX11_newName 3 RX11 (none) A0) (hD : va_D A0 (cM E a I A)) (e_m_size : I 2 = m_size) (e_m_tape : A 0 = m_tape) :
    ∀ (n : Nat), ∀ (v1 : Int32) (v2 : Int32) (m_at : Int32) (m_end : Int32) (m_token : Int32) (m_whole : Int32) (m_nameSize : Int32) (m_fault : Int32) (m_place : Int32) (m_failed : Int32) (m_letters : Nat → Int32) (m_fresh : Nat → Int32), f_X11_newName_45 m_size m_tape n v1 v2 m_at m_end m_token m_whole m_nameSize m_fault m_place m_failed m_letters m_fresh = some z → ∀ (H : Heap) (locs : List Loc) (ls : Array Slot), va_P (rf_D E) vwCl (cM E a (rf_upL I [(3, m_at), (4, m_end), (5, m_token), (6, m_whole), (7, m_nameSize), (8, m_fault), (9, m_place), (11, m_failed)]) (rf_upL A [(1, m_letters), (3, m_fresh)])) H → va_S A0 s.heap H locs → lv_has ls 3 [(0, .ref (a 0)), (1, .int v1), (2, .int v2)] → W p l e ({ frames := 8, cells := 0, slots := 0, locals := 243 }) s m args below meth c H locs 0 0 (rf_QV below args s E A0 (cM E a (rf_upL I [(3, z.1), (4, z.2.1), (5, z.2.2.1), (6, z.2.2.2.1), (7, z.2.2.2.2.1), (8, z.2.2.2.2.2.1), (9, z.2.2.2.2.2.2.1), (11, z.2.2.2.2.2.2.2.1)]) (rf_upL A [(1, z.2.2.2.2.2.2.2.2.1), (3, z.2.2.2.2.2.2.2.2.2)]))) (F0 m 45 ls []) := by
  have hx := hC.1
  have hb := hC.2.1
  intro n
  induction n with
  | zero =>
    intro v1 v2 m_at m_end m_token m_whole m_nameSize m_fault m_place m_failed m_letters m_fresh hf
    have hf : (none : Option (Int32 × Int32 × Int32 × Int32 × Int32 × Int32 × Int32 × Int32 × (Nat → Int32) × (Nat → Int32))) = some z := hf
    cases hf
  | succ n ih =>
    intro v1 v2 m_at m_end m_token m_whole m_nameSize m_fault m_place m_failed m_letters m_fresh hf H locs ls hP hS hl
    rw [f_X11_newName_45] at hf
    refine lv_iload_n hx hb dX11_newName_45 rfl (lv_at hl 2 rfl) ?_
    refine lv_aload_n hx hb dX11_newName_46 rfl (lv_at hl 0 rfl) ?_
    refine gM_m_nameSize hC hP tw_1287 (v := m_nameSize) rfl dX11_newName_47 ?_
    refine lv_icmp_ge (tgt := 80) hx hb dX11_newName_50 (by decide) (fun c_50 => ?_) (fun c_50 => ?_)
    · have hf := rf_it c_50 hf
      refine lv_aload_n hx hb dX11_newName_80 rfl (lv_at hl 0 rfl) ?_
      refine gM_m_fresh hC hP tw_1295 dX11_newName_81 ?_
      refine lv_sipush (v := 171) hx hb dX11_newName_84 (by decide) ?_
      refine lv_iload_n hx hb dX11_newName_87 rfl (lv_at hl 1 rfl) ?_
      refine lv_iadd hx hb dX11_newName_88 ?_
      refine lv_aload_n hx hb dX11_newName_89 rfl (lv_at hl 0 rfl) ?_
      refine gM_m_nameSize hC hP tw_1287 (v := m_nameSize) rfl dX11_newName_90 ?_
      obtain ⟨hi_93, hf⟩ := rf_gu hf
      refine sM_m_fresh hC hD hP hS hi_93 (f := m_fresh) rfl dX11_newName_93 (rf_upL A [(1, m_letters), (3, upd m_fresh (Int32.toNatClampNeg ((171 : Int32) + v1)) m_nameSize)]) (rf_put rfl) (fun H locs hP hS => ?_)
      refine lv_aload_n hx hb dX11_newName_94 rfl (lv_at hl 0 rfl) ?_
      obtain ⟨z95, hz95, hf⟩ := rf_bd hf
      refine rf_vv (q0 := 0) (ci := 11) hC (c_X11_next l E a (rf_upL I [(3, m_at), (4, m_end), (5, m_token), (6, m_whole), (7, m_nameSize), (8, m_fault), (9, m_place), (11, m_failed)]) (rf_upL A [(1, m_letters), (3, upd m_fresh (Int32.toNatClampNeg ((171 : Int32) + v1)) m_nameSize)]) m_size m_tape m_at m_end m_token m_whole m_nameSize m_letters e_m_size e_m_tape rfl rfl rfl rfl rfl rfl hz95) kV_X11_next tw_1414 ⟨Nat.le_of_ble_eq_true rfl, Nat.le_of_ble_eq_true rfl⟩ rfl rfl rfl rfl rfl hP (rf_DM hD) hS rfl hl.1 (rest := []) rfl (Nat.le_of_ble_eq_true rfl) dX11_newName_95 (fun H locs hP hS => ?_)
      rw [rf_cat (f := I) (l := [(3, m_at), (4, m_end), (5, m_token), (6, m_whole), (7, m_nameSize), (8, m_fault), (9, m_place), (11, m_failed)]) (lc := [(3, z95.1), (4, z95.2.1), (5, z95.2.2.1), (6, z95.2.2.2.1), (7, z95.2.2.2.2.1)]) (l' := [(3, z95.1), (4, z95.2.1), (5, z95.2.2.1), (6, z95.2.2.2.1), (7, z95.2.2.2.2.1), (8, m_fault), (9, m_place), (11, m_failed)]) rfl] at hP
      rw [rf_cat (f := A) (l := [(1, m_letters), (3, upd m_fresh (Int32.toNatClampNeg ((171 : Int32) + v1)) m_nameSize)]) (lc := [(1, z95.2.2.2.2.2)]) (l' := [(1, z95.2.2.2.2.2), (3, upd m_fresh (Int32.toNatClampNeg ((171 : Int32) + v1)) m_nameSize)]) rfl] at hP
      obtain rfl := Option.some.inj hf
      exact rf_retv hC hP hS rfl dX11_newName_98
    have hf := rf_ie c_50 hf
    refine lv_aload_n hx hb dX11_newName_53 rfl (lv_at hl 0 rfl) ?_
    refine gM_m_fresh hC hP tw_1295 dX11_newName_54 ?_
    refine lv_sipush (v := 189) hx hb dX11_newName_57 (by decide) ?_
    refine lv_bipush (v := 8) hx hb dX11_newName_60 (by decide) ?_
    refine lv_iload_n hx hb dX11_newName_62 rfl (lv_at hl 1 rfl) ?_
    refine lv_imul hx hb dX11_newName_63 ?_
    refine lv_iadd hx hb dX11_newName_64 ?_
    refine lv_iload_n hx hb dX11_newName_65 rfl (lv_at hl 2 rfl) ?_
    refine lv_iadd hx hb dX11_newName_66 ?_
    refine lv_aload_n hx hb dX11_newName_67 rfl (lv_at hl 0 rfl) ?_
    refine gM_m_letters hC hP tw_1291 dX11_newName_68 ?_
    refine lv_iload_n hx hb dX11_newName_71 rfl (lv_at hl 2 rfl) ?_
    obtain ⟨hi_72, hf⟩ := rf_gu hf
    refine lM_m_letters hC hP hi_72 (f := m_letters) rfl dX11_newName_72 ?_
    obtain ⟨hi_73, hf⟩ := rf_gu hf
    refine sM_m_fresh hC hD hP hS hi_73 (f := m_fresh) rfl dX11_newName_73 (rf_upL A [(1, m_letters), (3, upd m_fresh (Int32.toNatClampNeg (((189 : Int32) + ((8 : Int32) * v1)) + v2)) (m_letters (Int32.toNatClampNeg v2)))]) (rf_put rfl) (fun H locs hP hS => ?_)
    refine lv_iinc (v := v2 + 1) (lv' := [(2, .int (v2 + 1)), (0, .ref (a 0)), (1, .int v1)]) hx hb dX11_newName_74 hl (k := 2) rfl rfl (by decide) rfl (fun ls hl => ?_)
    refine lv_goto (tgt := 45) hx hb dX11_newName_77 (by decide) ?_
    exact ih v1 (v2 + 1) m_at m_end m_token m_whole m_nameSize m_fault m_place m_failed m_letters (upd m_fresh (Int32.toNatClampNeg (((189 : Int32) + ((8 : Int32) * v1)) + v2)) (m_letters (Int32.toNatClampNeg v2))) hf _ _ _ hP hS (lv_sub hl [1, 2, 0] rfl)
set_option maxHeartbeats 4000000 in
set_option maxRecDepth 100000 in
theorem w_X11_newName_35 {l : Launch} {p : Program} {e : Env} {s : State} {m : MethodId} {args : Array Value} {below : List Frame} {meth : Method} {c : Code} {A0 : Nat → Prop} {E : rf_E} {a : Nat → Nat} {I : Nat → Int32} {A : Nat → Nat → Int32} {m_size : Int32} {m_tape : Nat → Int32} {z : Int32 × Int32 × Int32 × Int32 × Int32 × Int32 × Int32 × Int32 × (Nat → Int32) × (Nat → Int32)} (hC : rf_C p E s m args meth c cX11_newName 3 RX11 (none) A0) (hD : va_D A0 (cM E a I A)) (e_m_size : I 2 = m_size) (e_m_tape : A 0 = m_tape) :
    ∀ (v1 : Int32) (m_at : Int32) (m_end : Int32) (m_token : Int32) (m_whole : Int32) (m_nameSize : Int32) (m_fault : Int32) (m_place : Int32) (m_failed : Int32) (m_letters : Nat → Int32) (m_fresh : Nat → Int32), f_X11_newName_35 m_size m_tape v1 m_at m_end m_token m_whole m_nameSize m_fault m_place m_failed m_letters m_fresh = some z → ∀ (H : Heap) (locs : List Loc) (ls : Array Slot), va_P (rf_D E) vwCl (cM E a (rf_upL I [(3, m_at), (4, m_end), (5, m_token), (6, m_whole), (7, m_nameSize), (8, m_fault), (9, m_place), (11, m_failed)]) (rf_upL A [(1, m_letters), (3, m_fresh)])) H → va_S A0 s.heap H locs → lv_has ls 3 [(0, .ref (a 0)), (1, .int v1)] → W p l e ({ frames := 8, cells := 0, slots := 0, locals := 243 }) s m args below meth c H locs 0 0 (rf_QV below args s E A0 (cM E a (rf_upL I [(3, z.1), (4, z.2.1), (5, z.2.2.1), (6, z.2.2.2.1), (7, z.2.2.2.2.1), (8, z.2.2.2.2.2.1), (9, z.2.2.2.2.2.2.1), (11, z.2.2.2.2.2.2.2.1)]) (rf_upL A [(1, z.2.2.2.2.2.2.2.2.1), (3, z.2.2.2.2.2.2.2.2.2)]))) (F0 m 35 ls []) := by
  have hx := hC.1
  have hb := hC.2.1
  intro v1 m_at m_end m_token m_whole m_nameSize m_fault m_place m_failed m_letters m_fresh hf H locs ls hP hS hl
  unfold f_X11_newName_35 at hf
  refine lv_aload_n hx hb dX11_newName_35 rfl (lv_at hl 0 rfl) ?_
  refine gM_m_failed hC hP tw_1292 (v := m_failed) rfl dX11_newName_36 ?_
  refine lv_if_eq (tgt := 43) hx hb dX11_newName_39 (by decide) (fun c_39 => ?_) (fun c_39 => ?_)
  · have hf := rf_it c_39 hf
    refine lv_iconst (v := 0) hx hb dX11_newName_43 (by decide) ?_
    refine lv_istore_n (lv' := [(2, .int 0), (0, .ref (a 0)), (1, .int v1)]) hx hb dX11_newName_44 rfl hl (by decide) rfl (fun ls hl => ?_)
    exact w_X11_newName_45 hC hD e_m_size e_m_tape rf_fu v1 0 m_at m_end m_token m_whole m_nameSize m_fault m_place m_failed m_letters m_fresh hf _ _ _ hP hS (lv_sub hl [1, 2, 0] rfl)
  have hf := rf_ie c_39 hf
  obtain rfl := Option.some.inj hf
  exact rf_retv hC hP hS rfl dX11_newName_42
set_option maxHeartbeats 4000000 in
set_option maxRecDepth 100000 in
theorem c_X11_newName (l : Launch) (E : rf_E) (a : Nat → Nat) (I : Nat → Int32) (A : Nat → Nat → Int32) (m_size : Int32) (m_tape : Nat → Int32) (m_at : Int32) (m_end : Int32) (m_token : Int32) (m_whole : Int32) (m_nameSize : Int32) (m_fault : Int32) (m_place : Int32) (m_failed : Int32) (m_letters : Nat → Int32) (m_fresh : Nat → Int32) (v1 : Int32) {z : Int32 × Int32 × Int32 × Int32 × Int32 × Int32 × Int32 × Int32 × (Nat → Int32) × (Nat → Int32)} (e_m_size : I 2 = m_size) (e_m_tape : A 0 = m_tape) (e_m_at : I 3 = m_at) (e_m_end : I 4 = m_end) (e_m_token : I 5 = m_token) (e_m_whole : I 6 = m_whole) (e_m_nameSize : I 7 = m_nameSize) (e_m_fault : I 8 = m_fault) (e_m_place : I 9 = m_place) (e_m_failed : I 11 = m_failed) (e_m_letters : A 1 = m_letters) (e_m_fresh : A 3 = m_fresh) (hf : f_X11_newName m_size m_tape m_at m_end m_token m_whole m_nameSize m_fault m_place m_failed m_letters m_fresh v1 = some z) : rf_MV l yX11_newName cX11_newName 3 ({ frames := 8, cells := 0, slots := 0, locals := 243 }) E [.ref (a 0), .int v1] (cM E a I A) (cM E a (rf_upL I [(3, z.1), (4, z.2.1), (5, z.2.2.1), (6, z.2.2.2.1), (7, z.2.2.2.2.1), (8, z.2.2.2.2.2.1), (9, z.2.2.2.2.2.2.1), (11, z.2.2.2.2.2.2.2.1)]) (rf_upL A [(1, z.2.2.2.2.2.2.2.2.1), (3, z.2.2.2.2.2.2.2.2.2)])) := by
  unfold f_X11_newName at hf
  refine rf_ofV (by decide) (Nat.le_of_ble_eq_true rfl) ?_
  intro p e s m below meth c A0 ls hC hD hP hS hl
  have hC : rf_C p E s m _ meth c cX11_newName 3 RX11 (none) A0 := hC
  have hx := hC.1
  have hb := hC.2.1
  have hl : lv_has ls 3 [(0, .ref (a 0)), (1, .int v1)] := hl
  have hP : va_P (rf_D E) vwCl (cM E a (rf_upL I [(3, m_at), (4, m_end), (5, m_token), (6, m_whole), (7, m_nameSize), (8, m_fault), (9, m_place), (11, m_failed)]) (rf_upL A [(1, m_letters), (3, m_fresh)])) s.heap := by
    rw [rf_self (f := I) [(3, m_at), (4, m_end), (5, m_token), (6, m_whole), (7, m_nameSize), (8, m_fault), (9, m_place), (11, m_failed)] (rf_fa1 e_m_at (rf_fa1 e_m_end (rf_fa1 e_m_token (rf_fa1 e_m_whole (rf_fa1 e_m_nameSize (rf_fa1 e_m_fault (rf_fa1 e_m_place (rf_fa1 e_m_failed rf_fa0))))))))]
    rw [rf_self (f := A) [(1, m_letters), (3, m_fresh)] (rf_fa1 e_m_letters (rf_fa1 e_m_fresh rf_fa0))]
    exact hP
  refine lv_aload_n hx hb dX11_newName_0 rfl (lv_at hl 0 rfl) ?_
  refine gM_m_failed hC hP tw_1292 (v := m_failed) rfl dX11_newName_1 ?_
  refine lv_if_eq (tgt := 8) hx hb dX11_newName_4 (by decide) (fun c_4 => ?_) (fun c_4 => ?_)
  · have hf := rf_it c_4 hf
    refine lv_aload_n hx hb dX11_newName_8 rfl (lv_at hl 0 rfl) ?_
    obtain ⟨z9, hz9, hf⟩ := rf_bd hf
    refine rf_vv (q0 := 0) (ci := 11) hC (c_X11_mustName l E a (rf_upL I [(3, m_at), (4, m_end), (5, m_token), (6, m_whole), (7, m_nameSize), (8, m_fault), (9, m_place), (11, m_failed)]) (rf_upL A [(1, m_letters), (3, m_fresh)]) m_at m_token m_nameSize m_letters m_fault m_place m_failed rfl rfl rfl rfl rfl rfl rfl hz9) kV_X11_mustName tw_1482 ⟨Nat.le_of_ble_eq_true rfl, Nat.le_of_ble_eq_true rfl⟩ rfl rfl rfl rfl rfl hP (rf_DM hD) hS rfl hl.1 (rest := []) rfl (Nat.le_of_ble_eq_true rfl) dX11_newName_9 (fun H locs hP hS => ?_)
    rw [rf_cat (f := I) (l := [(3, m_at), (4, m_end), (5, m_token), (6, m_whole), (7, m_nameSize), (8, m_fault), (9, m_place), (11, m_failed)]) (lc := [(8, z9.1), (9, z9.2.1), (11, z9.2.2)]) (l' := [(3, m_at), (4, m_end), (5, m_token), (6, m_whole), (7, m_nameSize), (8, z9.1), (9, z9.2.1), (11, z9.2.2)]) rfl] at hP
    refine lv_aload_n hx hb dX11_newName_12 rfl (lv_at hl 0 rfl) ?_
    refine gM_m_failed hC hP tw_1292 (v := z9.2.2) rfl dX11_newName_13 ?_
    refine lv_if_ne (tgt := 35) hx hb dX11_newName_16 (by decide) (fun c_16 => ?_) (fun c_16 => ?_)
    · have hf := rf_ie c_16 hf
      exact w_X11_newName_35 hC hD e_m_size e_m_tape v1 m_at m_end m_token m_whole m_nameSize z9.1 z9.2.1 z9.2.2 m_letters m_fresh hf _ _ _ hP hS (lv_sub hl [0, 1] rfl)
    have hf := rf_it c_16 hf
    refine lv_aload_n hx hb dX11_newName_19 rfl (lv_at hl 0 rfl) ?_
    obtain ⟨z20, hz20, hf⟩ := rf_bd hf
    refine rf_vi (q0 := 0) (ci := 11) hC (c_X11_find l E a (rf_upL I [(3, m_at), (4, m_end), (5, m_token), (6, m_whole), (7, m_nameSize), (8, z9.1), (9, z9.2.1), (11, z9.2.2)]) (rf_upL A [(1, m_letters), (3, m_fresh)]) m_nameSize m_letters m_fresh rfl rfl rfl hz20) kV_X11_find tw_1492 ⟨Nat.le_of_ble_eq_true rfl, Nat.le_of_ble_eq_true rfl⟩ rfl rfl rfl rfl rfl hP (rf_DM hD) hS rfl hl.1 (rest := []) rfl (Nat.le_of_ble_eq_true rfl) dX11_newName_20 (fun H locs hP hS => ?_)
    refine lv_if_lt (tgt := 35) hx hb dX11_newName_23 (by decide) (fun c_23 => ?_) (fun c_23 => ?_)
    · have hf := rf_it c_23 hf
      exact w_X11_newName_35 hC hD e_m_size e_m_tape v1 m_at m_end m_token m_whole m_nameSize z9.1 z9.2.1 z9.2.2 m_letters m_fresh hf _ _ _ hP hS (lv_sub hl [0, 1] rfl)
    have hf := rf_ie c_23 hf
    refine lv_aload_n hx hb dX11_newName_26 rfl (lv_at hl 0 rfl) ?_
    refine lv_iconst (v := 3) hx hb dX11_newName_27 (by decide) ?_
    refine lv_aload_n hx hb dX11_newName_28 rfl (lv_at hl 0 rfl) ?_
    refine gM_m_at hC hP tw_1283 (v := m_at) rfl dX11_newName_29 ?_
    obtain ⟨z32, hz32, hf⟩ := rf_bd hf
    refine rf_vv (q0 := 0) (ci := 11) hC (c_X11_wrong l E a (rf_upL I [(3, m_at), (4, m_end), (5, m_token), (6, m_whole), (7, m_nameSize), (8, z9.1), (9, z9.2.1), (11, z9.2.2)]) (rf_upL A [(1, m_letters), (3, m_fresh)]) z9.1 z9.2.1 z9.2.2 3 m_at rfl rfl rfl hz32) kV_X11_wrong tw_1443 ⟨Nat.le_of_ble_eq_true rfl, Nat.le_of_ble_eq_true rfl⟩ rfl rfl rfl rfl rfl hP (rf_DM hD) hS rfl hl.1 (rest := []) rfl (Nat.le_of_ble_eq_true rfl) dX11_newName_32 (fun H locs hP hS => ?_)
    rw [rf_cat (f := I) (l := [(3, m_at), (4, m_end), (5, m_token), (6, m_whole), (7, m_nameSize), (8, z9.1), (9, z9.2.1), (11, z9.2.2)]) (lc := [(8, z32.1), (9, z32.2.1), (11, z32.2.2)]) (l' := [(3, m_at), (4, m_end), (5, m_token), (6, m_whole), (7, m_nameSize), (8, z32.1), (9, z32.2.1), (11, z32.2.2)]) rfl] at hP
    exact w_X11_newName_35 hC hD e_m_size e_m_tape v1 m_at m_end m_token m_whole m_nameSize z32.1 z32.2.1 z32.2.2 m_letters m_fresh hf _ _ _ hP hS (lv_sub hl [0, 1] rfl)
  have hf := rf_ie c_4 hf
  obtain rfl := Option.some.inj hf
  exact rf_retv hC hP hS rfl dX11_newName_7
set_option maxHeartbeats 4000000 in
set_option maxRecDepth 100000 in
theorem w_X11_personLine_93 {l : Launch} {p : Program} {e : Env} {s : State} {m : MethodId} {args : Array Value} {below : List Frame} {meth : Method} {c : Code} {A0 : Nat → Prop} {E : rf_E} {a : Nat → Nat} {I : Nat → Int32} {A : Nat → Nat → Int32} {m_size : Int32} {m_tape : Nat → Int32} {z : Int32 × Int32 × Int32 × Int32 × Int32 × Int32 × Int32 × Int32 × (Nat → Int32) × (Nat → Int32)} (hC : rf_C p E s m args meth c cX11_personLine 3 RX11 (none) A0) (hD : va_D A0 (cM E a I A)) (e_m_size : I 2 = m_size) (e_m_tape : A 0 = m_tape) :
    ∀ (v1 : Int32) (m_at : Int32) (m_end : Int32) (m_token : Int32) (m_whole : Int32) (m_nameSize : Int32) (m_fault : Int32) (m_place : Int32) (m_failed : Int32) (m_letters : Nat → Int32) (m_fresh : Nat → Int32), f_X11_personLine_93 m_size m_tape v1 m_at m_end m_token m_whole m_nameSize m_fault m_place m_failed m_letters m_fresh = some z → ∀ (H : Heap) (locs : List Loc) (ls : Array Slot), va_P (rf_D E) vwCl (cM E a (rf_upL I [(3, m_at), (4, m_end), (5, m_token), (6, m_whole), (7, m_nameSize), (8, m_fault), (9, m_place), (11, m_failed)]) (rf_upL A [(1, m_letters), (3, m_fresh)])) H → va_S A0 s.heap H locs → lv_has ls 3 [(0, .ref (a 0)), (1, .int v1)] → W p l e ({ frames := 10, cells := 0, slots := 0, locals := 286 }) s m args below meth c H locs 0 0 (rf_QV below args s E A0 (cM E a (rf_upL I [(3, z.1), (4, z.2.1), (5, z.2.2.1), (6, z.2.2.2.1), (7, z.2.2.2.2.1), (8, z.2.2.2.2.2.1), (9, z.2.2.2.2.2.2.1), (11, z.2.2.2.2.2.2.2.1)]) (rf_upL A [(1, z.2.2.2.2.2.2.2.2.1), (3, z.2.2.2.2.2.2.2.2.2)]))) (F0 m 93 ls []) := by
  have hx := hC.1
  have hb := hC.2.1
  intro v1 m_at m_end m_token m_whole m_nameSize m_fault m_place m_failed m_letters m_fresh hf H locs ls hP hS hl
  unfold f_X11_personLine_93 at hf
  refine lv_aload_n hx hb dX11_personLine_93 rfl (lv_at hl 0 rfl) ?_
  refine rf_ldcwS hx hb hC.2.2.2.1 (lk_44 hC.2.2.2.2.2.2.2.1.2.2.2) dX11_personLine_94 ?_
  obtain ⟨z97, hz97, hf⟩ := rf_bd hf
  refine rf_vv (q0 := 0) (ci := 11) hC (c_X11_must l E a (rf_upL I [(3, m_at), (4, m_end), (5, m_token), (6, m_whole), (7, m_nameSize), (8, m_fault), (9, m_place), (11, m_failed)]) (rf_upL A [(1, m_letters), (3, m_fresh)]) m_size m_tape m_at m_end m_token m_whole m_nameSize m_fault m_place m_failed m_letters 44 e_m_size e_m_tape rfl rfl rfl rfl rfl rfl rfl rfl rfl (by decide) hz97) kV_X11_must tw_1452 ⟨Nat.le_of_ble_eq_true rfl, Nat.le_of_ble_eq_true rfl⟩ rfl rfl rfl rfl rfl hP (rf_DM hD) hS rfl hl.1 (rest := []) rfl (Nat.le_of_ble_eq_true rfl) dX11_personLine_97 (fun H locs hP hS => ?_)
  rw [rf_cat (f := I) (l := [(3, m_at), (4, m_end), (5, m_token), (6, m_whole), (7, m_nameSize), (8, m_fault), (9, m_place), (11, m_failed)]) (lc := [(3, z97.1), (4, z97.2.1), (5, z97.2.2.1), (6, z97.2.2.2.1), (7, z97.2.2.2.2.1), (8, z97.2.2.2.2.2.1), (9, z97.2.2.2.2.2.2.1), (11, z97.2.2.2.2.2.2.2.1)]) (l' := [(3, z97.1), (4, z97.2.1), (5, z97.2.2.1), (6, z97.2.2.2.1), (7, z97.2.2.2.2.1), (8, z97.2.2.2.2.2.1), (9, z97.2.2.2.2.2.2.1), (11, z97.2.2.2.2.2.2.2.1)]) rfl] at hP
  rw [rf_cat (f := A) (l := [(1, m_letters), (3, m_fresh)]) (lc := [(1, z97.2.2.2.2.2.2.2.2)]) (l' := [(1, z97.2.2.2.2.2.2.2.2), (3, m_fresh)]) rfl] at hP
  refine lv_aload_n hx hb dX11_personLine_100 rfl (lv_at hl 0 rfl) ?_
  obtain ⟨z101, hz101, hf⟩ := rf_bd hf
  refine rf_vi (q0 := 0) (ci := 11) hC (c_X11_wordHere l E a (rf_upL I [(3, z97.1), (4, z97.2.1), (5, z97.2.2.1), (6, z97.2.2.2.1), (7, z97.2.2.2.2.1), (8, z97.2.2.2.2.2.1), (9, z97.2.2.2.2.2.2.1), (11, z97.2.2.2.2.2.2.2.1)]) (rf_upL A [(1, z97.2.2.2.2.2.2.2.2), (3, m_fresh)]) z97.1 z97.2.2.1 z97.2.2.2.2.1 z97.2.2.2.2.2.2.2.2 m_fresh z97.2.2.2.2.2.1 z97.2.2.2.2.2.2.1 z97.2.2.2.2.2.2.2.1 rfl rfl rfl rfl rfl rfl rfl rfl hz101) kV_X11_wordHere tw_1519 ⟨Nat.le_of_ble_eq_true rfl, Nat.le_of_ble_eq_true rfl⟩ rfl rfl rfl rfl rfl hP (rf_DM hD) hS rfl hl.1 (rest := []) rfl (Nat.le_of_ble_eq_true rfl) dX11_personLine_101 (fun H locs hP hS => ?_)
  rw [rf_cat (f := I) (l := [(3, z97.1), (4, z97.2.1), (5, z97.2.2.1), (6, z97.2.2.2.1), (7, z97.2.2.2.2.1), (8, z97.2.2.2.2.2.1), (9, z97.2.2.2.2.2.2.1), (11, z97.2.2.2.2.2.2.2.1)]) (lc := [(8, z101.2.1), (9, z101.2.2.1), (11, z101.2.2.2)]) (l' := [(3, z97.1), (4, z97.2.1), (5, z97.2.2.1), (6, z97.2.2.2.1), (7, z97.2.2.2.2.1), (8, z101.2.1), (9, z101.2.2.1), (11, z101.2.2.2)]) rfl] at hP
  refine lv_istore_n (lv' := [(2, .int z101.1), (0, .ref (a 0)), (1, .int v1)]) hx hb dX11_personLine_104 rfl hl (by decide) rfl (fun ls hl => ?_)
  refine lv_aload_n hx hb dX11_personLine_105 rfl (lv_at hl 1 rfl) ?_
  refine gM_m_failed hC hP tw_1292 (v := z101.2.2.2) rfl dX11_personLine_106 ?_
  refine lv_if_eq (tgt := 113) hx hb dX11_personLine_109 (by decide) (fun c_109 => ?_) (fun c_109 => ?_)
  · have hf := rf_it c_109 hf
    refine lv_aload_n hx hb dX11_personLine_113 rfl (lv_at hl 1 rfl) ?_
    obtain ⟨z114, hz114, hf⟩ := rf_bd hf
    refine rf_vv (q0 := 0) (ci := 11) hC (c_X11_next l E a (rf_upL I [(3, z97.1), (4, z97.2.1), (5, z97.2.2.1), (6, z97.2.2.2.1), (7, z97.2.2.2.2.1), (8, z101.2.1), (9, z101.2.2.1), (11, z101.2.2.2)]) (rf_upL A [(1, z97.2.2.2.2.2.2.2.2), (3, m_fresh)]) m_size m_tape z97.1 z97.2.1 z97.2.2.1 z97.2.2.2.1 z97.2.2.2.2.1 z97.2.2.2.2.2.2.2.2 e_m_size e_m_tape rfl rfl rfl rfl rfl rfl hz114) kV_X11_next tw_1414 ⟨Nat.le_of_ble_eq_true rfl, Nat.le_of_ble_eq_true rfl⟩ rfl rfl rfl rfl rfl hP (rf_DM hD) hS rfl hl.1 (rest := []) rfl (Nat.le_of_ble_eq_true rfl) dX11_personLine_114 (fun H locs hP hS => ?_)
    rw [rf_cat (f := I) (l := [(3, z97.1), (4, z97.2.1), (5, z97.2.2.1), (6, z97.2.2.2.1), (7, z97.2.2.2.2.1), (8, z101.2.1), (9, z101.2.2.1), (11, z101.2.2.2)]) (lc := [(3, z114.1), (4, z114.2.1), (5, z114.2.2.1), (6, z114.2.2.2.1), (7, z114.2.2.2.2.1)]) (l' := [(3, z114.1), (4, z114.2.1), (5, z114.2.2.1), (6, z114.2.2.2.1), (7, z114.2.2.2.2.1), (8, z101.2.1), (9, z101.2.2.1), (11, z101.2.2.2)]) rfl] at hP
    rw [rf_cat (f := A) (l := [(1, z97.2.2.2.2.2.2.2.2), (3, m_fresh)]) (lc := [(1, z114.2.2.2.2.2)]) (l' := [(1, z114.2.2.2.2.2), (3, m_fresh)]) rfl] at hP
    refine lv_aload_n hx hb dX11_personLine_117 rfl (lv_at hl 1 rfl) ?_
    refine gM_m_fresh hC hP tw_1295 dX11_personLine_118 ?_
    refine lv_iload_n hx hb dX11_personLine_121 rfl (lv_at hl 2 rfl) ?_
    refine lv_iconst (v := 2) hx hb dX11_personLine_122 (by decide) ?_
    refine lv_iadd hx hb dX11_personLine_123 ?_
    refine lv_iconst (v := 1) hx hb dX11_personLine_124 (by decide) ?_
    refine lv_iload_n hx hb dX11_personLine_125 rfl (lv_at hl 0 rfl) ?_
    refine lv_ishl hx hb dX11_personLine_126 ?_
    obtain ⟨hi_127, hf⟩ := rf_gu hf
    refine sM_m_fresh hC hD hP hS hi_127 (f := m_fresh) rfl dX11_personLine_127 (rf_upL A [(1, z114.2.2.2.2.2), (3, upd m_fresh (Int32.toNatClampNeg (v1 + 2)) ((1 : Int32) <<< (z101.1 &&& 31)))]) (rf_put rfl) (fun H locs hP hS => ?_)
    refine lv_aload_n hx hb dX11_personLine_128 rfl (lv_at hl 1 rfl) ?_
    refine gM_m_fresh hC hP tw_1295 dX11_personLine_129 ?_
    refine lv_iload_n hx hb dX11_personLine_132 rfl (lv_at hl 2 rfl) ?_
    refine lv_iconst (v := 3) hx hb dX11_personLine_133 (by decide) ?_
    refine lv_iadd hx hb dX11_personLine_134 ?_
    refine lv_iconst (v := 0) hx hb dX11_personLine_135 (by decide) ?_
    obtain ⟨hi_136, hf⟩ := rf_gu hf
    refine sM_m_fresh hC hD hP hS hi_136 (f := upd m_fresh (Int32.toNatClampNeg (v1 + 2)) ((1 : Int32) <<< (z101.1 &&& 31))) rfl dX11_personLine_136 (rf_upL A [(1, z114.2.2.2.2.2), (3, upd (upd m_fresh (Int32.toNatClampNeg (v1 + 2)) ((1 : Int32) <<< (z101.1 &&& 31))) (Int32.toNatClampNeg (v1 + 3)) 0)]) (rf_put rfl) (fun H locs hP hS => ?_)
    refine lv_aload_n hx hb dX11_personLine_137 rfl (lv_at hl 1 rfl) ?_
    refine gM_m_fresh hC hP tw_1295 dX11_personLine_138 ?_
    refine lv_iconst (v := 3) hx hb dX11_personLine_141 (by decide) ?_
    refine lv_dup2_11 hx hb dX11_personLine_142 rfl rfl ?_
    refine lM_m_fresh hC hP (by decide) (f := upd (upd m_fresh (Int32.toNatClampNeg (v1 + 2)) ((1 : Int32) <<< (z101.1 &&& 31))) (Int32.toNatClampNeg (v1 + 3)) 0) rfl dX11_personLine_143 ?_
    refine lv_iconst (v := 1) hx hb dX11_personLine_144 (by decide) ?_
    refine lv_iadd hx hb dX11_personLine_145 ?_
    refine sM_m_fresh hC hD hP hS (by decide) (f := upd (upd m_fresh (Int32.toNatClampNeg (v1 + 2)) ((1 : Int32) <<< (z101.1 &&& 31))) (Int32.toNatClampNeg (v1 + 3)) 0) rfl dX11_personLine_146 (rf_upL A [(1, z114.2.2.2.2.2), (3, upd (upd (upd m_fresh (Int32.toNatClampNeg (v1 + 2)) ((1 : Int32) <<< (z101.1 &&& 31))) (Int32.toNatClampNeg (v1 + 3)) 0) (Int32.toNatClampNeg 3) (((upd (upd m_fresh (Int32.toNatClampNeg (v1 + 2)) ((1 : Int32) <<< (z101.1 &&& 31))) (Int32.toNatClampNeg (v1 + 3)) 0) (Int32.toNatClampNeg 3)) + 1))]) (rf_put rfl) (fun H locs hP hS => ?_)
    obtain rfl := Option.some.inj hf
    exact rf_retv hC hP hS rfl dX11_personLine_147
  have hf := rf_ie c_109 hf
  obtain rfl := Option.some.inj hf
  exact rf_retv hC hP hS rfl dX11_personLine_112
set_option maxHeartbeats 4000000 in
set_option maxRecDepth 100000 in
theorem w_X11_personLine_58 {l : Launch} {p : Program} {e : Env} {s : State} {m : MethodId} {args : Array Value} {below : List Frame} {meth : Method} {c : Code} {A0 : Nat → Prop} {E : rf_E} {a : Nat → Nat} {I : Nat → Int32} {A : Nat → Nat → Int32} {m_size : Int32} {m_tape : Nat → Int32} {z : Int32 × Int32 × Int32 × Int32 × Int32 × Int32 × Int32 × Int32 × (Nat → Int32) × (Nat → Int32)} (hC : rf_C p E s m args meth c cX11_personLine 3 RX11 (none) A0) (hD : va_D A0 (cM E a I A)) (e_m_size : I 2 = m_size) (e_m_tape : A 0 = m_tape) :
    ∀ (v1 : Int32) (m_at : Int32) (m_end : Int32) (m_token : Int32) (m_whole : Int32) (m_nameSize : Int32) (m_fault : Int32) (m_place : Int32) (m_failed : Int32) (m_letters : Nat → Int32) (m_fresh : Nat → Int32), f_X11_personLine_58 m_size m_tape v1 m_at m_end m_token m_whole m_nameSize m_fault m_place m_failed m_letters m_fresh = some z → ∀ (H : Heap) (locs : List Loc) (ls : Array Slot), va_P (rf_D E) vwCl (cM E a (rf_upL I [(3, m_at), (4, m_end), (5, m_token), (6, m_whole), (7, m_nameSize), (8, m_fault), (9, m_place), (11, m_failed)]) (rf_upL A [(1, m_letters), (3, m_fresh)])) H → va_S A0 s.heap H locs → lv_has ls 3 [(0, .ref (a 0)), (1, .int v1)] → W p l e ({ frames := 10, cells := 0, slots := 0, locals := 286 }) s m args below meth c H locs 0 0 (rf_QV below args s E A0 (cM E a (rf_upL I [(3, z.1), (4, z.2.1), (5, z.2.2.1), (6, z.2.2.2.1), (7, z.2.2.2.2.1), (8, z.2.2.2.2.2.1), (9, z.2.2.2.2.2.2.1), (11, z.2.2.2.2.2.2.2.1)]) (rf_upL A [(1, z.2.2.2.2.2.2.2.2.1), (3, z.2.2.2.2.2.2.2.2.2)]))) (F0 m 58 ls []) := by
  have hx := hC.1
  have hb := hC.2.1
  intro v1 m_at m_end m_token m_whole m_nameSize m_fault m_place m_failed m_letters m_fresh hf H locs ls hP hS hl
  unfold f_X11_personLine_58 at hf
  refine lv_aload_n hx hb dX11_personLine_58 rfl (lv_at hl 0 rfl) ?_
  refine va_ldcS hx hb hC.2.2.2.1 (lk_40 hC.2.2.2.2.2.2.2.1.2.2.2) dX11_personLine_59 ?_
  obtain ⟨z61, hz61, hf⟩ := rf_bd hf
  refine rf_vv (q0 := 0) (ci := 11) hC (c_X11_must l E a (rf_upL I [(3, m_at), (4, m_end), (5, m_token), (6, m_whole), (7, m_nameSize), (8, m_fault), (9, m_place), (11, m_failed)]) (rf_upL A [(1, m_letters), (3, m_fresh)]) m_size m_tape m_at m_end m_token m_whole m_nameSize m_fault m_place m_failed m_letters 40 e_m_size e_m_tape rfl rfl rfl rfl rfl rfl rfl rfl rfl (by decide) hz61) kV_X11_must tw_1452 ⟨Nat.le_of_ble_eq_true rfl, Nat.le_of_ble_eq_true rfl⟩ rfl rfl rfl rfl rfl hP (rf_DM hD) hS rfl hl.1 (rest := []) rfl (Nat.le_of_ble_eq_true rfl) dX11_personLine_61 (fun H locs hP hS => ?_)
  rw [rf_cat (f := I) (l := [(3, m_at), (4, m_end), (5, m_token), (6, m_whole), (7, m_nameSize), (8, m_fault), (9, m_place), (11, m_failed)]) (lc := [(3, z61.1), (4, z61.2.1), (5, z61.2.2.1), (6, z61.2.2.2.1), (7, z61.2.2.2.2.1), (8, z61.2.2.2.2.2.1), (9, z61.2.2.2.2.2.2.1), (11, z61.2.2.2.2.2.2.2.1)]) (l' := [(3, z61.1), (4, z61.2.1), (5, z61.2.2.1), (6, z61.2.2.2.1), (7, z61.2.2.2.2.1), (8, z61.2.2.2.2.2.1), (9, z61.2.2.2.2.2.2.1), (11, z61.2.2.2.2.2.2.2.1)]) rfl] at hP
  rw [rf_cat (f := A) (l := [(1, m_letters), (3, m_fresh)]) (lc := [(1, z61.2.2.2.2.2.2.2.2)]) (l' := [(1, z61.2.2.2.2.2.2.2.2), (3, m_fresh)]) rfl] at hP
  refine lv_aload_n hx hb dX11_personLine_64 rfl (lv_at hl 0 rfl) ?_
  refine gM_m_failed hC hP tw_1292 (v := z61.2.2.2.2.2.2.2.1) rfl dX11_personLine_65 ?_
  refine lv_if_ne (tgt := 93) hx hb dX11_personLine_68 (by decide) (fun c_68 => ?_) (fun c_68 => ?_)
  · have hf := rf_ie c_68 hf
    exact w_X11_personLine_93 hC hD e_m_size e_m_tape v1 z61.1 z61.2.1 z61.2.2.1 z61.2.2.2.1 z61.2.2.2.2.1 z61.2.2.2.2.2.1 z61.2.2.2.2.2.2.1 z61.2.2.2.2.2.2.2.1 z61.2.2.2.2.2.2.2.2 m_fresh hf _ _ _ hP hS (lv_sub hl [0, 1] rfl)
  have hf := rf_it c_68 hf
  refine lv_aload_n hx hb dX11_personLine_71 rfl (lv_at hl 0 rfl) ?_
  refine gM_m_fresh hC hP tw_1295 dX11_personLine_72 ?_
  refine lv_iload_n hx hb dX11_personLine_75 rfl (lv_at hl 1 rfl) ?_
  refine lv_iconst (v := 1) hx hb dX11_personLine_76 (by decide) ?_
  refine lv_iadd hx hb dX11_personLine_77 ?_
  refine lv_aload_n hx hb dX11_personLine_78 rfl (lv_at hl 0 rfl) ?_
  refine va_ldcS hx hb hC.2.2.2.1 (lk_41 hC.2.2.2.2.2.2.2.1.2.2.2) dX11_personLine_79 ?_
  refine va_ldcS hx hb hC.2.2.2.1 (lk_42 hC.2.2.2.2.2.2.2.1.2.2.2) dX11_personLine_81 ?_
  refine rf_ldcwS hx hb hC.2.2.2.1 (lk_43 hC.2.2.2.2.2.2.2.1.2.2.2) dX11_personLine_83 ?_
  refine rf_ldcwS hx hb hC.2.2.2.1 (lk_43 hC.2.2.2.2.2.2.2.1.2.2.2) dX11_personLine_86 ?_
  obtain ⟨z89, hz89, hf⟩ := rf_bd hf
  refine rf_vi (q0 := 0) (ci := 11) hC (c_X11_oneOf l E a (rf_upL I [(3, z61.1), (4, z61.2.1), (5, z61.2.2.1), (6, z61.2.2.2.1), (7, z61.2.2.2.2.1), (8, z61.2.2.2.2.2.1), (9, z61.2.2.2.2.2.2.1), (11, z61.2.2.2.2.2.2.2.1)]) (rf_upL A [(1, z61.2.2.2.2.2.2.2.2), (3, m_fresh)]) m_size m_tape z61.1 z61.2.1 z61.2.2.1 z61.2.2.2.1 z61.2.2.2.2.1 z61.2.2.2.2.2.1 z61.2.2.2.2.2.2.1 z61.2.2.2.2.2.2.2.1 z61.2.2.2.2.2.2.2.2 41 42 43 43 e_m_size e_m_tape rfl rfl rfl rfl rfl rfl rfl rfl rfl (by decide) (by decide) (by decide) (by decide) hz89) kV_X11_oneOf tw_1510 ⟨Nat.le_of_ble_eq_true rfl, Nat.le_of_ble_eq_true rfl⟩ rfl rfl rfl rfl rfl hP (rf_DM hD) hS rfl hl.1 (rest := [.int (v1 + 1), .ref (a 4)]) rfl (Nat.le_of_ble_eq_true rfl) dX11_personLine_89 (fun H locs hP hS => ?_)
  rw [rf_cat (f := I) (l := [(3, z61.1), (4, z61.2.1), (5, z61.2.2.1), (6, z61.2.2.2.1), (7, z61.2.2.2.2.1), (8, z61.2.2.2.2.2.1), (9, z61.2.2.2.2.2.2.1), (11, z61.2.2.2.2.2.2.2.1)]) (lc := [(3, z89.2.1), (4, z89.2.2.1), (5, z89.2.2.2.1), (6, z89.2.2.2.2.1), (7, z89.2.2.2.2.2.1), (8, z89.2.2.2.2.2.2.1), (9, z89.2.2.2.2.2.2.2.1), (11, z89.2.2.2.2.2.2.2.2.1)]) (l' := [(3, z89.2.1), (4, z89.2.2.1), (5, z89.2.2.2.1), (6, z89.2.2.2.2.1), (7, z89.2.2.2.2.2.1), (8, z89.2.2.2.2.2.2.1), (9, z89.2.2.2.2.2.2.2.1), (11, z89.2.2.2.2.2.2.2.2.1)]) rfl] at hP
  rw [rf_cat (f := A) (l := [(1, z61.2.2.2.2.2.2.2.2), (3, m_fresh)]) (lc := [(1, z89.2.2.2.2.2.2.2.2.2)]) (l' := [(1, z89.2.2.2.2.2.2.2.2.2), (3, m_fresh)]) rfl] at hP
  obtain ⟨hi_92, hf⟩ := rf_gu hf
  refine sM_m_fresh hC hD hP hS hi_92 (f := m_fresh) rfl dX11_personLine_92 (rf_upL A [(1, z89.2.2.2.2.2.2.2.2.2), (3, upd m_fresh (Int32.toNatClampNeg (v1 + 1)) z89.1)]) (rf_put rfl) (fun H locs hP hS => ?_)
  exact w_X11_personLine_93 hC hD e_m_size e_m_tape v1 z89.2.1 z89.2.2.1 z89.2.2.2.1 z89.2.2.2.2.1 z89.2.2.2.2.2.1 z89.2.2.2.2.2.2.1 z89.2.2.2.2.2.2.2.1 z89.2.2.2.2.2.2.2.2.1 z89.2.2.2.2.2.2.2.2.2 (upd m_fresh (Int32.toNatClampNeg (v1 + 1)) z89.1) hf _ _ _ hP hS (lv_sub hl [0, 1] rfl)
set_option maxHeartbeats 4000000 in
set_option maxRecDepth 100000 in
theorem c_X11_personLine (l : Launch) (E : rf_E) (a : Nat → Nat) (I : Nat → Int32) (A : Nat → Nat → Int32) (m_size : Int32) (m_tape : Nat → Int32) (m_at : Int32) (m_end : Int32) (m_token : Int32) (m_whole : Int32) (m_nameSize : Int32) (m_fault : Int32) (m_place : Int32) (m_failed : Int32) (m_letters : Nat → Int32) (m_fresh : Nat → Int32) {z : Int32 × Int32 × Int32 × Int32 × Int32 × Int32 × Int32 × Int32 × (Nat → Int32) × (Nat → Int32)} (e_m_size : I 2 = m_size) (e_m_tape : A 0 = m_tape) (e_m_at : I 3 = m_at) (e_m_end : I 4 = m_end) (e_m_token : I 5 = m_token) (e_m_whole : I 6 = m_whole) (e_m_nameSize : I 7 = m_nameSize) (e_m_fault : I 8 = m_fault) (e_m_place : I 9 = m_place) (e_m_failed : I 11 = m_failed) (e_m_letters : A 1 = m_letters) (e_m_fresh : A 3 = m_fresh) (hf : f_X11_personLine m_size m_tape m_at m_end m_token m_whole m_nameSize m_fault m_place m_failed m_letters m_fresh = some z) : rf_MV l yX11_personLine cX11_personLine 3 ({ frames := 10, cells := 0, slots := 0, locals := 286 }) E [.ref (a 0)] (cM E a I A) (cM E a (rf_upL I [(3, z.1), (4, z.2.1), (5, z.2.2.1), (6, z.2.2.2.1), (7, z.2.2.2.2.1), (8, z.2.2.2.2.2.1), (9, z.2.2.2.2.2.2.1), (11, z.2.2.2.2.2.2.2.1)]) (rf_upL A [(1, z.2.2.2.2.2.2.2.2.1), (3, z.2.2.2.2.2.2.2.2.2)])) := by
  unfold f_X11_personLine at hf
  refine rf_ofV (by decide) (Nat.le_of_ble_eq_true rfl) ?_
  intro p e s m below meth c A0 ls hC hD hP hS hl
  have hC : rf_C p E s m _ meth c cX11_personLine 3 RX11 (none) A0 := hC
  have hx := hC.1
  have hb := hC.2.1
  have hl : lv_has ls 3 [(0, .ref (a 0))] := hl
  have hP : va_P (rf_D E) vwCl (cM E a (rf_upL I [(3, m_at), (4, m_end), (5, m_token), (6, m_whole), (7, m_nameSize), (8, m_fault), (9, m_place), (11, m_failed)]) (rf_upL A [(1, m_letters), (3, m_fresh)])) s.heap := by
    rw [rf_self (f := I) [(3, m_at), (4, m_end), (5, m_token), (6, m_whole), (7, m_nameSize), (8, m_fault), (9, m_place), (11, m_failed)] (rf_fa1 e_m_at (rf_fa1 e_m_end (rf_fa1 e_m_token (rf_fa1 e_m_whole (rf_fa1 e_m_nameSize (rf_fa1 e_m_fault (rf_fa1 e_m_place (rf_fa1 e_m_failed rf_fa0))))))))]
    rw [rf_self (f := A) [(1, m_letters), (3, m_fresh)] (rf_fa1 e_m_letters (rf_fa1 e_m_fresh rf_fa0))]
    exact hP
  refine lv_aload_n hx hb dX11_personLine_0 rfl (lv_at hl 0 rfl) ?_
  refine gM_m_failed hC hP tw_1292 (v := m_failed) rfl dX11_personLine_1 ?_
  refine lv_if_eq (tgt := 8) hx hb dX11_personLine_4 (by decide) (fun c_4 => ?_) (fun c_4 => ?_)
  · have hf := rf_it c_4 hf
    refine lv_bipush (v := 89) hx hb dX11_personLine_8 (by decide) ?_
    refine lv_iconst (v := 4) hx hb dX11_personLine_10 (by decide) ?_
    refine lv_aload_n hx hb dX11_personLine_11 rfl (lv_at hl 0 rfl) ?_
    refine gM_m_fresh hC hP tw_1295 dX11_personLine_12 ?_
    refine lv_iconst (v := 3) hx hb dX11_personLine_15 (by decide) ?_
    refine lM_m_fresh hC hP (by decide) (f := m_fresh) rfl dX11_personLine_16 ?_
    refine lv_imul hx hb dX11_personLine_17 ?_
    refine lv_iadd hx hb dX11_personLine_18 ?_
    refine lv_istore_n (lv' := [(1, .int ((89 : Int32) + ((4 : Int32) * (m_fresh (Int32.toNatClampNeg 3))))), (0, .ref (a 0))]) hx hb dX11_personLine_19 rfl hl (by decide) rfl (fun ls hl => ?_)
    refine lv_aload_n hx hb dX11_personLine_20 rfl (lv_at hl 1 rfl) ?_
    refine lv_bipush (v := 10) hx hb dX11_personLine_21 (by decide) ?_
    refine lv_aload_n hx hb dX11_personLine_23 rfl (lv_at hl 1 rfl) ?_
    refine gM_m_fresh hC hP tw_1295 dX11_personLine_24 ?_
    refine lv_iconst (v := 3) hx hb dX11_personLine_27 (by decide) ?_
    refine lM_m_fresh hC hP (by decide) (f := m_fresh) rfl dX11_personLine_28 ?_
    refine lv_iadd hx hb dX11_personLine_29 ?_
    obtain ⟨z30, hz30, hf⟩ := rf_bd hf
    refine rf_vv (q0 := 0) (ci := 11) hC (c_X11_newName l E a (rf_upL I [(3, m_at), (4, m_end), (5, m_token), (6, m_whole), (7, m_nameSize), (8, m_fault), (9, m_place), (11, m_failed)]) (rf_upL A [(1, m_letters), (3, m_fresh)]) m_size m_tape m_at m_end m_token m_whole m_nameSize m_fault m_place m_failed m_letters m_fresh ((10 : Int32) + (m_fresh (Int32.toNatClampNeg 3))) e_m_size e_m_tape rfl rfl rfl rfl rfl rfl rfl rfl rfl rfl hz30) kV_X11_newName tw_1478 ⟨Nat.le_of_ble_eq_true rfl, Nat.le_of_ble_eq_true rfl⟩ rfl rfl rfl rfl rfl hP (rf_DM hD) hS rfl hl.1 (rest := []) rfl (Nat.le_of_ble_eq_true rfl) dX11_personLine_30 (fun H locs hP hS => ?_)
    rw [rf_cat (f := I) (l := [(3, m_at), (4, m_end), (5, m_token), (6, m_whole), (7, m_nameSize), (8, m_fault), (9, m_place), (11, m_failed)]) (lc := [(3, z30.1), (4, z30.2.1), (5, z30.2.2.1), (6, z30.2.2.2.1), (7, z30.2.2.2.2.1), (8, z30.2.2.2.2.2.1), (9, z30.2.2.2.2.2.2.1), (11, z30.2.2.2.2.2.2.2.1)]) (l' := [(3, z30.1), (4, z30.2.1), (5, z30.2.2.1), (6, z30.2.2.2.1), (7, z30.2.2.2.2.1), (8, z30.2.2.2.2.2.1), (9, z30.2.2.2.2.2.2.1), (11, z30.2.2.2.2.2.2.2.1)]) rfl] at hP
    rw [rf_cat (f := A) (l := [(1, m_letters), (3, m_fresh)]) (lc := [(1, z30.2.2.2.2.2.2.2.2.1), (3, z30.2.2.2.2.2.2.2.2.2)]) (l' := [(1, z30.2.2.2.2.2.2.2.2.1), (3, z30.2.2.2.2.2.2.2.2.2)]) rfl] at hP
    refine lv_aload_n hx hb dX11_personLine_33 rfl (lv_at hl 1 rfl) ?_
    refine gM_m_failed hC hP tw_1292 (v := z30.2.2.2.2.2.2.2.1) rfl dX11_personLine_34 ?_
    refine lv_if_ne (tgt := 58) hx hb dX11_personLine_37 (by decide) (fun c_37 => ?_) (fun c_37 => ?_)
    · have hf := rf_ie c_37 hf
      exact w_X11_personLine_58 hC hD e_m_size e_m_tape ((89 : Int32) + ((4 : Int32) * (m_fresh (Int32.toNatClampNeg 3)))) z30.1 z30.2.1 z30.2.2.1 z30.2.2.2.1 z30.2.2.2.2.1 z30.2.2.2.2.2.1 z30.2.2.2.2.2.2.1 z30.2.2.2.2.2.2.2.1 z30.2.2.2.2.2.2.2.2.1 z30.2.2.2.2.2.2.2.2.2 hf _ _ _ hP hS (lv_sub hl [1, 0] rfl)
    have hf := rf_it c_37 hf
    refine lv_aload_n hx hb dX11_personLine_40 rfl (lv_at hl 1 rfl) ?_
    refine gM_m_fresh hC hP tw_1295 dX11_personLine_41 ?_
    refine lv_iload_n hx hb dX11_personLine_44 rfl (lv_at hl 0 rfl) ?_
    refine lv_aload_n hx hb dX11_personLine_45 rfl (lv_at hl 1 rfl) ?_
    refine va_ldcS hx hb hC.2.2.2.1 (lk_36 hC.2.2.2.2.2.2.2.1.2.2.2) dX11_personLine_46 ?_
    refine va_ldcS hx hb hC.2.2.2.1 (lk_37 hC.2.2.2.2.2.2.2.1.2.2.2) dX11_personLine_48 ?_
    refine va_ldcS hx hb hC.2.2.2.1 (lk_38 hC.2.2.2.2.2.2.2.1.2.2.2) dX11_personLine_50 ?_
    refine va_ldcS hx hb hC.2.2.2.1 (lk_39 hC.2.2.2.2.2.2.2.1.2.2.2) dX11_personLine_52 ?_
    obtain ⟨z54, hz54, hf⟩ := rf_bd hf
    refine rf_vi (q0 := 0) (ci := 11) hC (c_X11_oneOf l E a (rf_upL I [(3, z30.1), (4, z30.2.1), (5, z30.2.2.1), (6, z30.2.2.2.1), (7, z30.2.2.2.2.1), (8, z30.2.2.2.2.2.1), (9, z30.2.2.2.2.2.2.1), (11, z30.2.2.2.2.2.2.2.1)]) (rf_upL A [(1, z30.2.2.2.2.2.2.2.2.1), (3, z30.2.2.2.2.2.2.2.2.2)]) m_size m_tape z30.1 z30.2.1 z30.2.2.1 z30.2.2.2.1 z30.2.2.2.2.1 z30.2.2.2.2.2.1 z30.2.2.2.2.2.2.1 z30.2.2.2.2.2.2.2.1 z30.2.2.2.2.2.2.2.2.1 36 37 38 39 e_m_size e_m_tape rfl rfl rfl rfl rfl rfl rfl rfl rfl (by decide) (by decide) (by decide) (by decide) hz54) kV_X11_oneOf tw_1510 ⟨Nat.le_of_ble_eq_true rfl, Nat.le_of_ble_eq_true rfl⟩ rfl rfl rfl rfl rfl hP (rf_DM hD) hS rfl hl.1 (rest := [.int ((89 : Int32) + ((4 : Int32) * (m_fresh (Int32.toNatClampNeg 3)))), .ref (a 4)]) rfl (Nat.le_of_ble_eq_true rfl) dX11_personLine_54 (fun H locs hP hS => ?_)
    rw [rf_cat (f := I) (l := [(3, z30.1), (4, z30.2.1), (5, z30.2.2.1), (6, z30.2.2.2.1), (7, z30.2.2.2.2.1), (8, z30.2.2.2.2.2.1), (9, z30.2.2.2.2.2.2.1), (11, z30.2.2.2.2.2.2.2.1)]) (lc := [(3, z54.2.1), (4, z54.2.2.1), (5, z54.2.2.2.1), (6, z54.2.2.2.2.1), (7, z54.2.2.2.2.2.1), (8, z54.2.2.2.2.2.2.1), (9, z54.2.2.2.2.2.2.2.1), (11, z54.2.2.2.2.2.2.2.2.1)]) (l' := [(3, z54.2.1), (4, z54.2.2.1), (5, z54.2.2.2.1), (6, z54.2.2.2.2.1), (7, z54.2.2.2.2.2.1), (8, z54.2.2.2.2.2.2.1), (9, z54.2.2.2.2.2.2.2.1), (11, z54.2.2.2.2.2.2.2.2.1)]) rfl] at hP
    rw [rf_cat (f := A) (l := [(1, z30.2.2.2.2.2.2.2.2.1), (3, z30.2.2.2.2.2.2.2.2.2)]) (lc := [(1, z54.2.2.2.2.2.2.2.2.2)]) (l' := [(1, z54.2.2.2.2.2.2.2.2.2), (3, z30.2.2.2.2.2.2.2.2.2)]) rfl] at hP
    obtain ⟨hi_57, hf⟩ := rf_gu hf
    refine sM_m_fresh hC hD hP hS hi_57 (f := z30.2.2.2.2.2.2.2.2.2) rfl dX11_personLine_57 (rf_upL A [(1, z54.2.2.2.2.2.2.2.2.2), (3, upd z30.2.2.2.2.2.2.2.2.2 (Int32.toNatClampNeg ((89 : Int32) + ((4 : Int32) * (m_fresh (Int32.toNatClampNeg 3))))) z54.1)]) (rf_put rfl) (fun H locs hP hS => ?_)
    exact w_X11_personLine_58 hC hD e_m_size e_m_tape ((89 : Int32) + ((4 : Int32) * (m_fresh (Int32.toNatClampNeg 3)))) z54.2.1 z54.2.2.1 z54.2.2.2.1 z54.2.2.2.2.1 z54.2.2.2.2.2.1 z54.2.2.2.2.2.2.1 z54.2.2.2.2.2.2.2.1 z54.2.2.2.2.2.2.2.2.1 z54.2.2.2.2.2.2.2.2.2 (upd z30.2.2.2.2.2.2.2.2.2 (Int32.toNatClampNeg ((89 : Int32) + ((4 : Int32) * (m_fresh (Int32.toNatClampNeg 3))))) z54.1) hf _ _ _ hP hS (lv_sub hl [1, 0] rfl)
  have hf := rf_ie c_4 hf
  obtain rfl := Option.some.inj hf
  exact rf_retv hC hP hS rfl dX11_personLine_7
