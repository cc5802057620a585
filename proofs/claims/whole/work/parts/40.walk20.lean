set_option maxHeartbeats 4000000 in
set_option maxRecDepth 100000 in
theorem w_X11_wordLine_120 {l : Launch} {p : Program} {e : Env} {s : State} {m : MethodId} {args : Array Value} {below : List Frame} {meth : Method} {c : Code} {A0 : Nat → Prop} {E : rf_E} {a : Nat → Nat} {I : Nat → Int32} {A : Nat → Nat → Int32} {m_size : Int32} {m_tape : Nat → Int32} {z : Int32 × Int32 × Int32 × Int32 × Int32 × Int32 × Int32 × Int32 × (Nat → Int32) × (Nat → Int32)} (hC : rf_C p E s m args meth c cX11_wordLine 3 RX11 (none) A0) (hD : va_D A0 (cM E a I A)) (e_m_size : I 2 = m_size) (e_m_tape : A 0 = m_tape) :
    ∀ (n : Nat), ∀ (v1 : Int32) (v2 : Int32) (m_at : Int32) (m_end : Int32) (m_token : Int32) (m_whole : Int32) (m_nameSize : Int32) (m_fault : Int32) (m_place : Int32) (m_failed : Int32) (m_letters : Nat → Int32) (m_fresh : Nat → Int32), f_X11_wordLine_120 m_size m_tape n v1 v2 m_at m_end m_token m_whole m_nameSize m_fault m_place m_failed m_letters m_fresh = some z → ∀ (H : Heap) (locs : List Loc) (ls : Array Slot), va_P (rf_D E) vwCl (cM E a (rf_upL I [(3, m_at), (4, m_end), (5, m_token), (6, m_whole), (7, m_nameSize), (8, m_fault), (9, m_place), (11, m_failed)]) (rf_upL A [(1, m_letters), (3, m_fresh)])) H → va_S A0 s.heap H locs → lv_has ls 3 [(0, .ref (a 0)), (1, .int v1), (2, .int v2)] → W p l e ({ frames := 10, cells := 0, slots := 0, locals := 288 }) s m args below meth c H locs 0 0 (rf_QV below args s E A0 (cM E a (rf_upL I [(3, z.1), (4, z.2.1), (5, z.2.2.1), (6, z.2.2.2.1), (7, z.2.2.2.2.1), (8, z.2.2.2.2.2.1), (9, z.2.2.2.2.2.2.1), (11, z.2.2.2.2.2.2.2.1)]) (rf_upL A [(1, z.2.2.2.2.2.2.2.2.1), (3, z.2.2.2.2.2.2.2.2.2)]))) (F0 m 120 ls []) := by
  have hx := hC.1
  have hb := hC.2.1
  intro n
  induction n with
  | zero =>
    intro v1 v2 m_at m_end m_token m_whole m_nameSize m_fault m_place m_failed m_letters m_fresh hf
    have hf : (none : Option (Int32 × Int32 × Int32 × Int32 × Int32 × Int32 × Int32 × Int32 × (Nat → Int32) × (Nat → Int32))) = some z := hf
    cases hf
  | succ n ih =>
    intro v1 v2 m_at m_end m_token m_whole m_nameSize m_fault m_place m_failed m_letters m_fresh hf H locs ls hP hS hl
    rw [f_X11_wordLine_120] at hf
    refine lv_iload_n hx hb dX11_wordLine_120 rfl (lv_at hl 2 rfl) ?_
    refine lv_aload_n hx hb dX11_wordLine_121 rfl (lv_at hl 0 rfl) ?_
    refine gM_m_nameSize hC hP tw_1287 (v := m_nameSize) rfl dX11_wordLine_122 ?_
    refine lv_icmp_ge (tgt := 153) hx hb dX11_wordLine_125 (by decide) (fun c_125 => ?_) (fun c_125 => ?_)
    · have hf := rf_it c_125 hf
      refine lv_aload_n hx hb dX11_wordLine_153 rfl (lv_at hl 0 rfl) ?_
      obtain ⟨z154, hz154, hf⟩ := rf_bd hf
      refine rf_vv (q0 := 0) (ci := 11) hC (c_X11_next l E a (rf_upL I [(3, m_at), (4, m_end), (5, m_token), (6, m_whole), (7, m_nameSize), (8, m_fault), (9, m_place), (11, m_failed)]) (rf_upL A [(1, m_letters), (3, m_fresh)]) m_size m_tape m_at m_end m_token m_whole m_nameSize m_letters e_m_size e_m_tape rfl rfl rfl rfl rfl rfl hz154) kV_X11_next tw_1414 ⟨Nat.le_of_ble_eq_true rfl, Nat.le_of_ble_eq_true rfl⟩ rfl rfl rfl rfl rfl hP (rf_DM hD) hS rfl hl.1 (rest := []) rfl (Nat.le_of_ble_eq_true rfl) dX11_wordLine_154 (fun H locs hP hS => ?_)
      rw [rf_cat (f := I) (l := [(3, m_at), (4, m_end), (5, m_token), (6, m_whole), (7, m_nameSize), (8, m_fault), (9, m_place), (11, m_failed)]) (lc := [(3, z154.1), (4, z154.2.1), (5, z154.2.2.1), (6, z154.2.2.2.1), (7, z154.2.2.2.2.1)]) (l' := [(3, z154.1), (4, z154.2.1), (5, z154.2.2.1), (6, z154.2.2.2.1), (7, z154.2.2.2.2.1), (8, m_fault), (9, m_place), (11, m_failed)]) rfl] at hP
      rw [rf_cat (f := A) (l := [(1, m_letters), (3, m_fresh)]) (lc := [(1, z154.2.2.2.2.2)]) (l' := [(1, z154.2.2.2.2.2), (3, m_fresh)]) rfl] at hP
      refine lv_aload_n hx hb dX11_wordLine_157 rfl (lv_at hl 0 rfl) ?_
      refine gM_m_fresh hC hP tw_1295 dX11_wordLine_158 ?_
      refine lv_iload_n hx hb dX11_wordLine_161 rfl (lv_at hl 1 rfl) ?_
      refine lv_aload_n hx hb dX11_wordLine_162 rfl (lv_at hl 0 rfl) ?_
      refine va_ldcS hx hb hC.2.2.2.1 (lk_35 hC.2.2.2.2.2.2.2.1.2.2.2) dX11_wordLine_163 ?_
      refine lv_iconst (v := 0) hx hb dX11_wordLine_165 (by decide) ?_
      refine lv_bipush (v := 99) hx hb dX11_wordLine_166 (by decide) ?_
      obtain ⟨z168, hz168, hf⟩ := rf_bd hf
      refine rf_vi (q0 := 0) (ci := 11) hC (c_X11_after l E a (rf_upL I [(3, z154.1), (4, z154.2.1), (5, z154.2.2.1), (6, z154.2.2.2.1), (7, z154.2.2.2.2.1), (8, m_fault), (9, m_place), (11, m_failed)]) (rf_upL A [(1, z154.2.2.2.2.2), (3, m_fresh)]) m_size m_tape z154.1 z154.2.1 z154.2.2.1 z154.2.2.2.1 z154.2.2.2.2.1 m_fault m_place m_failed z154.2.2.2.2.2 35 0 99 e_m_size e_m_tape rfl rfl rfl rfl rfl rfl rfl rfl rfl (by decide) hz168) kV_X11_after tw_1448 ⟨Nat.le_of_ble_eq_true rfl, Nat.le_of_ble_eq_true rfl⟩ rfl rfl rfl rfl rfl hP (rf_DM hD) hS rfl hl.1 (rest := [.int v1, .ref (a 4)]) rfl (Nat.le_of_ble_eq_true rfl) dX11_wordLine_168 (fun H locs hP hS => ?_)
      rw [rf_cat (f := I) (l := [(3, z154.1), (4, z154.2.1), (5, z154.2.2.1), (6, z154.2.2.2.1), (7, z154.2.2.2.2.1), (8, m_fault), (9, m_place), (11, m_failed)]) (lc := [(3, z168.2.1), (4, z168.2.2.1), (5, z168.2.2.2.1), (6, z168.2.2.2.2.1), (7, z168.2.2.2.2.2.1), (8, z168.2.2.2.2.2.2.1), (9, z168.2.2.2.2.2.2.2.1), (11, z168.2.2.2.2.2.2.2.2.1)]) (l' := [(3, z168.2.1), (4, z168.2.2.1), (5, z168.2.2.2.1), (6, z168.2.2.2.2.1), (7, z168.2.2.2.2.2.1), (8, z168.2.2.2.2.2.2.1), (9, z168.2.2.2.2.2.2.2.1), (11, z168.2.2.2.2.2.2.2.2.1)]) rfl] at hP
      rw [rf_cat (f := A) (l := [(1, z154.2.2.2.2.2), (3, m_fresh)]) (lc := [(1, z168.2.2.2.2.2.2.2.2.2)]) (l' := [(1, z168.2.2.2.2.2.2.2.2.2), (3, m_fresh)]) rfl] at hP
      obtain ⟨hi_171, hf⟩ := rf_gu hf
      refine sM_m_fresh hC hD hP hS hi_171 (f := m_fresh) rfl dX11_wordLine_171 (rf_upL A [(1, z168.2.2.2.2.2.2.2.2.2), (3, upd m_fresh (Int32.toNatClampNeg v1) z168.1)]) (rf_put rfl) (fun H locs hP hS => ?_)
      refine lv_aload_n hx hb dX11_wordLine_172 rfl (lv_at hl 0 rfl) ?_
      refine gM_m_failed hC hP tw_1292 (v := z168.2.2.2.2.2.2.2.2.1) rfl dX11_wordLine_173 ?_
      refine lv_if_ne (tgt := 189) hx hb dX11_wordLine_176 (by decide) (fun c_176 => ?_) (fun c_176 => ?_)
      · have hf := rf_ie c_176 hf
        obtain rfl := Option.some.inj hf
        exact rf_retv hC hP hS rfl dX11_wordLine_189
      have hf := rf_it c_176 hf
      refine lv_aload_n hx hb dX11_wordLine_179 rfl (lv_at hl 0 rfl) ?_
      refine gM_m_fresh hC hP tw_1295 dX11_wordLine_180 ?_
      refine lv_iconst (v := 2) hx hb dX11_wordLine_183 (by decide) ?_
      refine lv_dup2_11 hx hb dX11_wordLine_184 rfl rfl ?_
      refine lM_m_fresh hC hP (by decide) (f := upd m_fresh (Int32.toNatClampNeg v1) z168.1) rfl dX11_wordLine_185 ?_
      refine lv_iconst (v := 1) hx hb dX11_wordLine_186 (by decide) ?_
      refine lv_iadd hx hb dX11_wordLine_187 ?_
      refine sM_m_fresh hC hD hP hS (by decide) (f := upd m_fresh (Int32.toNatClampNeg v1) z168.1) rfl dX11_wordLine_188 (rf_upL A [(1, z168.2.2.2.2.2.2.2.2.2), (3, upd (upd m_fresh (Int32.toNatClampNeg v1) z168.1) (Int32.toNatClampNeg 2) (((upd m_fresh (Int32.toNatClampNeg v1) z168.1) (Int32.toNatClampNeg 2)) + 1))]) (rf_put rfl) (fun H locs hP hS => ?_)
      obtain rfl := Option.some.inj hf
      exact rf_retv hC hP hS rfl dX11_wordLine_189
    have hf := rf_ie c_125 hf
    refine lv_aload_n hx hb dX11_wordLine_128 rfl (lv_at hl 0 rfl) ?_
    refine gM_m_fresh hC hP tw_1295 dX11_wordLine_129 ?_
    refine lv_iload_n hx hb dX11_wordLine_132 rfl (lv_at hl 1 rfl) ?_
    refine lv_iconst (v := 2) hx hb dX11_wordLine_133 (by decide) ?_
    refine lv_iadd hx hb dX11_wordLine_134 ?_
    refine lv_iload_n hx hb dX11_wordLine_135 rfl (lv_at hl 2 rfl) ?_
    refine lv_iadd hx hb dX11_wordLine_136 ?_
    refine lv_aload_n hx hb dX11_wordLine_137 rfl (lv_at hl 0 rfl) ?_
    refine gM_m_letters hC hP tw_1291 dX11_wordLine_138 ?_
    refine lv_iload_n hx hb dX11_wordLine_141 rfl (lv_at hl 2 rfl) ?_
    obtain ⟨hi_142, hf⟩ := rf_gu hf
    refine lM_m_letters hC hP hi_142 (f := m_letters) rfl dX11_wordLine_142 ?_
    refine lv_bipush (v := 97) hx hb dX11_wordLine_143 (by decide) ?_
    refine lv_isub hx hb dX11_wordLine_145 ?_
    obtain ⟨hi_146, hf⟩ := rf_gu hf
    refine sM_m_fresh hC hD hP hS hi_146 (f := m_fresh) rfl dX11_wordLine_146 (rf_upL A [(1, m_letters), (3, upd m_fresh (Int32.toNatClampNeg ((v1 + 2) + v2)) ((m_letters (Int32.toNatClampNeg v2)) - 97))]) (rf_put rfl) (fun H locs hP hS => ?_)
    refine lv_iinc (v := v2 + 1) (lv' := [(2, .int (v2 + 1)), (0, .ref (a 0)), (1, .int v1)]) hx hb dX11_wordLine_147 hl (k := 2) rfl rfl (by decide) rfl (fun ls hl => ?_)
    refine lv_goto (tgt := 120) hx hb dX11_wordLine_150 (by decide) ?_
    exact ih v1 (v2 + 1) m_at m_end m_token m_whole m_nameSize m_fault m_place m_failed m_letters (upd m_fresh (Int32.toNatClampNeg ((v1 + 2) + v2)) ((m_letters (Int32.toNatClampNeg v2)) - 97)) hf _ _ _ hP hS (lv_sub hl [1, 2, 0] rfl)
set_option maxHeartbeats 4000000 in
set_option maxRecDepth 100000 in
theorem w_X11_wordLine_98 {l : Launch} {p : Program} {e : Env} {s : State} {m : MethodId} {args : Array Value} {below : List Frame} {meth : Method} {c : Code} {A0 : Nat → Prop} {E : rf_E} {a : Nat → Nat} {I : Nat → Int32} {A : Nat → Nat → Int32} {m_size : Int32} {m_tape : Nat → Int32} {z : Int32 × Int32 × Int32 × Int32 × Int32 × Int32 × Int32 × Int32 × (Nat → Int32) × (Nat → Int32)} (hC : rf_C p E s m args meth c cX11_wordLine 3 RX11 (none) A0) (hD : va_D A0 (cM E a I A)) (e_m_size : I 2 = m_size) (e_m_tape : A 0 = m_tape) :
    ∀ (v1 : Int32) (m_at : Int32) (m_end : Int32) (m_token : Int32) (m_whole : Int32) (m_nameSize : Int32) (m_fault : Int32) (m_place : Int32) (m_failed : Int32) (m_letters : Nat → Int32) (m_fresh : Nat → Int32), f_X11_wordLine_98 m_size m_tape v1 m_at m_end m_token m_whole m_nameSize m_fault m_place m_failed m_letters m_fresh = some z → ∀ (H : Heap) (locs : List Loc) (ls : Array Slot), va_P (rf_D E) vwCl (cM E a (rf_upL I [(3, m_at), (4, m_end), (5, m_token), (6, m_whole), (7, m_nameSize), (8, m_fault), (9, m_place), (11, m_failed)]) (rf_upL A [(1, m_letters), (3, m_fresh)])) H → va_S A0 s.heap H locs → lv_has ls 3 [(0, .ref (a 0)), (1, .int v1)] → W p l e ({ frames := 10, cells := 0, slots := 0, locals := 288 }) s m args below meth c H locs 0 0 (rf_QV below args s E A0 (cM E a (rf_upL I [(3, z.1), (4, z.2.1), (5, z.2.2.1), (6, z.2.2.2.1), (7, z.2.2.2.2.1), (8, z.2.2.2.2.2.1), (9, z.2.2.2.2.2.2.1), (11, z.2.2.2.2.2.2.2.1)]) (rf_upL A [(1, z.2.2.2.2.2.2.2.2.1), (3, z.2.2.2.2.2.2.2.2.2)]))) (F0 m 98 ls []) := by
  have hx := hC.1
  have hb := hC.2.1
  intro v1 m_at m_end m_token m_whole m_nameSize m_fault m_place m_failed m_letters m_fresh hf H locs ls hP hS hl
  unfold f_X11_wordLine_98 at hf
  refine lv_aload_n hx hb dX11_wordLine_98 rfl (lv_at hl 0 rfl) ?_
  refine gM_m_failed hC hP tw_1292 (v := m_failed) rfl dX11_wordLine_99 ?_
  refine lv_if_eq (tgt := 106) hx hb dX11_wordLine_102 (by decide) (fun c_102 => ?_) (fun c_102 => ?_)
  · have hf := rf_it c_102 hf
    refine lv_aload_n hx hb dX11_wordLine_106 rfl (lv_at hl 0 rfl) ?_
    refine gM_m_fresh hC hP tw_1295 dX11_wordLine_107 ?_
    refine lv_iload_n hx hb dX11_wordLine_110 rfl (lv_at hl 1 rfl) ?_
    refine lv_iconst (v := 1) hx hb dX11_wordLine_111 (by decide) ?_
    refine lv_iadd hx hb dX11_wordLine_112 ?_
    refine lv_aload_n hx hb dX11_wordLine_113 rfl (lv_at hl 0 rfl) ?_
    refine gM_m_nameSize hC hP tw_1287 (v := m_nameSize) rfl dX11_wordLine_114 ?_
    obtain ⟨hi_117, hf⟩ := rf_gu hf
    refine sM_m_fresh hC hD hP hS hi_117 (f := m_fresh) rfl dX11_wordLine_117 (rf_upL A [(1, m_letters), (3, upd m_fresh (Int32.toNatClampNeg (v1 + 1)) m_nameSize)]) (rf_put rfl) (fun H locs hP hS => ?_)
    refine lv_iconst (v := 0) hx hb dX11_wordLine_118 (by decide) ?_
    refine lv_istore_n (lv' := [(2, .int 0), (0, .ref (a 0)), (1, .int v1)]) hx hb dX11_wordLine_119 rfl hl (by decide) rfl (fun ls hl => ?_)
    exact w_X11_wordLine_120 hC hD e_m_size e_m_tape rf_fu v1 0 m_at m_end m_token m_whole m_nameSize m_fault m_place m_failed m_letters (upd m_fresh (Int32.toNatClampNeg (v1 + 1)) m_nameSize) hf _ _ _ hP hS (lv_sub hl [1, 2, 0] rfl)
  have hf := rf_ie c_102 hf
  obtain rfl := Option.some.inj hf
  exact rf_retv hC hP hS rfl dX11_wordLine_105
set_option maxHeartbeats 4000000 in
set_option maxRecDepth 100000 in
theorem w_X11_wordLine_88 {l : Launch} {p : Program} {e : Env} {s : State} {m : MethodId} {args : Array Value} {below : List Frame} {meth : Method} {c : Code} {A0 : Nat → Prop} {E : rf_E} {a : Nat → Nat} {I : Nat → Int32} {A : Nat → Nat → Int32} {m_size : Int32} {m_tape : Nat → Int32} {z : Int32 × Int32 × Int32 × Int32 × Int32 × Int32 × Int32 × Int32 × (Nat → Int32) × (Nat → Int32)} (hC : rf_C p E s m args meth c cX11_wordLine 3 RX11 (none) A0) (hD : va_D A0 (cM E a I A)) (e_m_size : I 2 = m_size) (e_m_tape : A 0 = m_tape) :
    ∀ (v1 : Int32) (m_at : Int32) (m_end : Int32) (m_token : Int32) (m_whole : Int32) (m_nameSize : Int32) (m_fault : Int32) (m_place : Int32) (m_failed : Int32) (m_letters : Nat → Int32) (m_fresh : Nat → Int32), f_X11_wordLine_88 m_size m_tape v1 m_at m_end m_token m_whole m_nameSize m_fault m_place m_failed m_letters m_fresh = some z → ∀ (H : Heap) (locs : List Loc) (ls : Array Slot), va_P (rf_D E) vwCl (cM E a (rf_upL I [(3, m_at), (4, m_end), (5, m_token), (6, m_whole), (7, m_nameSize), (8, m_fault), (9, m_place), (11, m_failed)]) (rf_upL A [(1, m_letters), (3, m_fresh)])) H → va_S A0 s.heap H locs → lv_has ls 3 [(0, .ref (a 0)), (1, .int v1)] → W p l e ({ frames := 10, cells := 0, slots := 0, locals := 288 }) s m args below meth c H locs 0 0 (rf_QV below args s E A0 (cM E a (rf_upL I [(3, z.1), (4, z.2.1), (5, z.2.2.1), (6, z.2.2.2.1), (7, z.2.2.2.2.1), (8, z.2.2.2.2.2.1), (9, z.2.2.2.2.2.2.1), (11, z.2.2.2.2.2.2.2.1)]) (rf_upL A [(1, z.2.2.2.2.2.2.2.2.1), (3, z.2.2.2.2.2.2.2.2.2)]))) (F0 m 88 ls []) := by
  have hx := hC.1
  have hb := hC.2.1
  intro v1 m_at m_end m_token m_whole m_nameSize m_fault m_place m_failed m_letters m_fresh hf H locs ls hP hS hl
  unfold f_X11_wordLine_88 at hf
  refine lv_aload_n hx hb dX11_wordLine_88 rfl (lv_at hl 0 rfl) ?_
  refine lv_bipush (v := 7) hx hb dX11_wordLine_89 (by decide) ?_
  refine lv_aload_n hx hb dX11_wordLine_91 rfl (lv_at hl 0 rfl) ?_
  refine gM_m_at hC hP tw_1283 (v := m_at) rfl dX11_wordLine_92 ?_
  obtain ⟨z95, hz95, hf⟩ := rf_bd hf
  refine rf_vv (q0 := 0) (ci := 11) hC (c_X11_wrong l E a (rf_upL I [(3, m_at), (4, m_end), (5, m_token), (6, m_whole), (7, m_nameSize), (8, m_fault), (9, m_place), (11, m_failed)]) (rf_upL A [(1, m_letters), (3, m_fresh)]) m_fault m_place m_failed 7 m_at rfl rfl rfl hz95) kV_X11_wrong tw_1443 ⟨Nat.le_of_ble_eq_true rfl, Nat.le_of_ble_eq_true rfl⟩ rfl rfl rfl rfl rfl hP (rf_DM hD) hS rfl hl.1 (rest := []) rfl (Nat.le_of_ble_eq_true rfl) dX11_wordLine_95 (fun H locs hP hS => ?_)
  rw [rf_cat (f := I) (l := [(3, m_at), (4, m_end), (5, m_token), (6, m_whole), (7, m_nameSize), (8, m_fault), (9, m_place), (11, m_failed)]) (lc := [(8, z95.1), (9, z95.2.1), (11, z95.2.2)]) (l' := [(3, m_at), (4, m_end), (5, m_token), (6, m_whole), (7, m_nameSize), (8, z95.1), (9, z95.2.1), (11, z95.2.2)]) rfl] at hP
  exact w_X11_wordLine_98 hC hD e_m_size e_m_tape v1 m_at m_end m_token m_whole m_nameSize z95.1 z95.2.1 z95.2.2 m_letters m_fresh hf _ _ _ hP hS (lv_sub hl [0, 1] rfl)
set_option maxHeartbeats 4000000 in
set_option maxRecDepth 100000 in
theorem w_X11_wordLine_61 {l : Launch} {p : Program} {e : Env} {s : State} {m : MethodId} {args : Array Value} {below : List Frame} {meth : Method} {c : Code} {A0 : Nat → Prop} {E : rf_E} {a : Nat → Nat} {I : Nat → Int32} {A : Nat → Nat → Int32} {m_size : Int32} {m_tape : Nat → Int32} {z : Int32 × Int32 × Int32 × Int32 × Int32 × Int32 × Int32 × Int32 × (Nat → Int32) × (Nat → Int32)} (hC : rf_C p E s m args meth c cX11_wordLine 3 RX11 (none) A0) (hD : va_D A0 (cM E a I A)) (e_m_size : I 2 = m_size) (e_m_tape : A 0 = m_tape) :
    ∀ (v1 : Int32) (m_at : Int32) (m_end : Int32) (m_token : Int32) (m_whole : Int32) (m_nameSize : Int32) (m_fault : Int32) (m_place : Int32) (m_failed : Int32) (m_letters : Nat → Int32) (m_fresh : Nat → Int32), f_X11_wordLine_61 m_size m_tape v1 m_at m_end m_token m_whole m_nameSize m_fault m_place m_failed m_letters m_fresh = some z → ∀ (H : Heap) (locs : List Loc) (ls : Array Slot), va_P (rf_D E) vwCl (cM E a (rf_upL I [(3, m_at), (4, m_end), (5, m_token), (6, m_whole), (7, m_nameSize), (8, m_fault), (9, m_place), (11, m_failed)]) (rf_upL A [(1, m_letters), (3, m_fresh)])) H → va_S A0 s.heap H locs → lv_has ls 3 [(0, .ref (a 0)), (1, .int v1)] → W p l e ({ frames := 10, cells := 0, slots := 0, locals := 288 }) s m args below meth c H locs 0 0 (rf_QV below args s E A0 (cM E a (rf_upL I [(3, z.1), (4, z.2.1), (5, z.2.2.1), (6, z.2.2.2.1), (7, z.2.2.2.2.1), (8, z.2.2.2.2.2.1), (9, z.2.2.2.2.2.2.1), (11, z.2.2.2.2.2.2.2.1)]) (rf_upL A [(1, z.2.2.2.2.2.2.2.2.1), (3, z.2.2.2.2.2.2.2.2.2)]))) (F0 m 61 ls []) := by
  have hx := hC.1
  have hb := hC.2.1
  intro v1 m_at m_end m_token m_whole m_nameSize m_fault m_place m_failed m_letters m_fresh hf H locs ls hP hS hl
  unfold f_X11_wordLine_61 at hf
  refine lv_aload_n hx hb dX11_wordLine_61 rfl (lv_at hl 0 rfl) ?_
  refine gM_m_failed hC hP tw_1292 (v := m_failed) rfl dX11_wordLine_62 ?_
  refine lv_if_ne (tgt := 98) hx hb dX11_wordLine_65 (by decide) (fun c_65 => ?_) (fun c_65 => ?_)
  · have hf := rf_ie c_65 hf
    exact w_X11_wordLine_98 hC hD e_m_size e_m_tape v1 m_at m_end m_token m_whole m_nameSize m_fault m_place m_failed m_letters m_fresh hf _ _ _ hP hS (lv_sub hl [0, 1] rfl)
  have hf := rf_it c_65 hf
  refine lv_aload_n hx hb dX11_wordLine_68 rfl (lv_at hl 0 rfl) ?_
  refine gM_m_nameSize hC hP tw_1287 (v := m_nameSize) rfl dX11_wordLine_69 ?_
  refine lv_iconst (v := 2) hx hb dX11_wordLine_72 (by decide) ?_
  refine lv_bipush (v := 6) hx hb dX11_wordLine_73 (by decide) ?_
  obtain ⟨z75, hz75, hf⟩ := rf_bd hf
  refine rf_si0 hC (c_X11_in l E m_nameSize 2 6 hz75) kS_X11_in tw_1407 ⟨Nat.le_of_ble_eq_true rfl, Nat.le_of_ble_eq_true rfl⟩ rfl rfl hP hS rfl hl.1 (rest := []) rfl (Nat.le_of_ble_eq_true rfl) dX11_wordLine_75 (fun H locs hP hS => ?_)
  refine lv_if_eq (tgt := 88) hx hb dX11_wordLine_78 (by decide) (fun c_78 => ?_) (fun c_78 => ?_)
  · have hf := rf_it c_78 hf
    exact w_X11_wordLine_88 hC hD e_m_size e_m_tape v1 m_at m_end m_token m_whole m_nameSize m_fault m_place m_failed m_letters m_fresh hf _ _ _ hP hS (lv_sub hl [0, 1] rfl)
  have hf := rf_ie c_78 hf
  refine lv_aload_n hx hb dX11_wordLine_81 rfl (lv_at hl 0 rfl) ?_
  obtain ⟨z82, hz82, hf⟩ := rf_bd hf
  refine rf_vi (q0 := 0) (ci := 11) hC (c_X11_areLetters l E a (rf_upL I [(3, m_at), (4, m_end), (5, m_token), (6, m_whole), (7, m_nameSize), (8, m_fault), (9, m_place), (11, m_failed)]) (rf_upL A [(1, m_letters), (3, m_fresh)]) m_nameSize m_letters rfl rfl hz82) kV_X11_areLetters tw_1497 ⟨Nat.le_of_ble_eq_true rfl, Nat.le_of_ble_eq_true rfl⟩ rfl rfl rfl rfl rfl hP (rf_DM hD) hS rfl hl.1 (rest := []) rfl (Nat.le_of_ble_eq_true rfl) dX11_wordLine_82 (fun H locs hP hS => ?_)
  refine lv_if_ne (tgt := 98) hx hb dX11_wordLine_85 (by decide) (fun c_85 => ?_) (fun c_85 => ?_)
  · have hf := rf_ie c_85 hf
    exact w_X11_wordLine_98 hC hD e_m_size e_m_tape v1 m_at m_end m_token m_whole m_nameSize m_fault m_place m_failed m_letters m_fresh hf _ _ _ hP hS (lv_sub hl [0, 1] rfl)
  have hf := rf_it c_85 hf
  exact w_X11_wordLine_88 hC hD e_m_size e_m_tape v1 m_at m_end m_token m_whole m_nameSize m_fault m_place m_failed m_letters m_fresh hf _ _ _ hP hS (lv_sub hl [0, 1] rfl)
set_option maxHeartbeats 4000000 in
set_option maxRecDepth 100000 in
theorem c_X11_wordLine (l : Launch) (E : rf_E) (a : Nat → Nat) (I : Nat → Int32) (A : Nat → Nat → Int32) (m_size : Int32) (m_tape : Nat → Int32) (m_at : Int32) (m_end : Int32) (m_token : Int32) (m_whole : Int32) (m_nameSize : Int32) (m_fault : Int32) (m_place : Int32) (m_failed : Int32) (m_letters : Nat → Int32) (m_fresh : Nat → Int32) {z : Int32 × Int32 × Int32 × Int32 × Int32 × Int32 × Int32 × Int32 × (Nat → Int32) × (Nat → Int32)} (e_m_size : I 2 = m_size) (e_m_tape : A 0 = m_tape) (e_m_at : I 3 = m_at) (e_m_end : I 4 = m_end) (e_m_token : I 5 = m_token) (e_m_whole : I 6 = m_whole) (e_m_nameSize : I 7 = m_nameSize) (e_m_fault : I 8 = m_fault) (e_m_place : I 9 = m_place) (e_m_failed : I 11 = m_failed) (e_m_letters : A 1 = m_letters) (e_m_fresh : A 3 = m_fresh) (hf : f_X11_wordLine m_size m_tape m_at m_end m_token m_whole m_nameSize m_fault m_place m_failed m_letters m_fresh = some z) : rf_MV l yX11_wordLine cX11_wordLine 3 ({ frames := 10, cells := 0, slots := 0, locals := 288 }) E [.ref (a 0)] (cM E a I A) (cM E a (rf_upL I [(3, z.1), (4, z.2.1), (5, z.2.2.1), (6, z.2.2.2.1), (7, z.2.2.2.2.1), (8, z.2.2.2.2.2.1), (9, z.2.2.2.2.2.2.1), (11, z.2.2.2.2.2.2.2.1)]) (rf_upL A [(1, z.2.2.2.2.2.2.2.2.1), (3, z.2.2.2.2.2.2.2.2.2)])) := by
  unfold f_X11_wordLine at hf
  refine rf_ofV (by decide) (Nat.le_of_ble_eq_true rfl) ?_
  intro p e s m below meth c A0 ls hC hD hP hS hl
  have hC : rf_C p E s m _ meth c cX11_wordLine 3 RX11 (none) A0 := hC
  have hx := hC.1
  have hb := hC.2.1
  have hl : lv_has ls 3 [(0, .ref (a 0))] := hl
  have hP : va_P (rf_D E) vwCl (cM E a (rf_upL I [(3, m_at), (4, m_end), (5, m_token), (6, m_whole), (7, m_nameSize), (8, m_fault), (9, m_place), (11, m_failed)]) (rf_upL A [(1, m_letters), (3, m_fresh)])) s.heap := by
    rw [rf_self (f := I) [(3, m_at), (4, m_end), (5, m_token), (6, m_whole), (7, m_nameSize), (8, m_fault), (9, m_place), (11, m_failed)] (rf_fa1 e_m_at (rf_fa1 e_m_end (rf_fa1 e_m_token (rf_fa1 e_m_whole (rf_fa1 e_m_nameSize (rf_fa1 e_m_fault (rf_fa1 e_m_place (rf_fa1 e_m_failed rf_fa0))))))))]
    rw [rf_self (f := A) [(1, m_letters), (3, m_fresh)] (rf_fa1 e_m_letters (rf_fa1 e_m_fresh rf_fa0))]
    exact hP
  refine lv_aload_n hx hb dX11_wordLine_0 rfl (lv_at hl 0 rfl) ?_
  refine gM_m_failed hC hP tw_1292 (v := m_failed) rfl dX11_wordLine_1 ?_
  refine lv_if_eq (tgt := 8) hx hb dX11_wordLine_4 (by decide) (fun c_4 => ?_) (fun c_4 => ?_)
  · have hf := rf_it c_4 hf
    refine lv_bipush (v := 9) hx hb dX11_wordLine_8 (by decide) ?_
    refine lv_bipush (v := 8) hx hb dX11_wordLine_10 (by decide) ?_
    refine lv_aload_n hx hb dX11_wordLine_12 rfl (lv_at hl 0 rfl) ?_
    refine gM_m_fresh hC hP tw_1295 dX11_wordLine_13 ?_
    refine lv_iconst (v := 2) hx hb dX11_wordLine_16 (by decide) ?_
    refine lM_m_fresh hC hP (by decide) (f := m_fresh) rfl dX11_wordLine_17 ?_
    refine lv_imul hx hb dX11_wordLine_18 ?_
    refine lv_iadd hx hb dX11_wordLine_19 ?_
    refine lv_istore_n (lv' := [(1, .int ((9 : Int32) + ((8 : Int32) * (m_fresh (Int32.toNatClampNeg 2))))), (0, .ref (a 0))]) hx hb dX11_wordLine_20 rfl hl (by decide) rfl (fun ls hl => ?_)
    refine lv_aload_n hx hb dX11_wordLine_21 rfl (lv_at hl 1 rfl) ?_
    refine lv_aload_n hx hb dX11_wordLine_22 rfl (lv_at hl 1 rfl) ?_
    refine gM_m_fresh hC hP tw_1295 dX11_wordLine_23 ?_
    refine lv_iconst (v := 2) hx hb dX11_wordLine_26 (by decide) ?_
    refine lM_m_fresh hC hP (by decide) (f := m_fresh) rfl dX11_wordLine_27 ?_
    obtain ⟨z28, hz28, hf⟩ := rf_bd hf
    refine rf_vv (q0 := 0) (ci := 11) hC (c_X11_newName l E a (rf_upL I [(3, m_at), (4, m_end), (5, m_token), (6, m_whole), (7, m_nameSize), (8, m_fault), (9, m_place), (11, m_failed)]) (rf_upL A [(1, m_letters), (3, m_fresh)]) m_size m_tape m_at m_end m_token m_whole m_nameSize m_fault m_place m_failed m_letters m_fresh (m_fresh (Int32.toNatClampNeg 2)) e_m_size e_m_tape rfl rfl rfl rfl rfl rfl rfl rfl rfl rfl hz28) kV_X11_newName tw_1478 ⟨Nat.le_of_ble_eq_true rfl, Nat.le_of_ble_eq_true rfl⟩ rfl rfl rfl rfl rfl hP (rf_DM hD) hS rfl hl.1 (rest := []) rfl (Nat.le_of_ble_eq_true rfl) dX11_wordLine_28 (fun H locs hP hS => ?_)
    rw [rf_cat (f := I) (l := [(3, m_at), (4, m_end), (5, m_token), (6, m_whole), (7, m_nameSize), (8, m_fault), (9, m_place), (11, m_failed)]) (lc := [(3, z28.1), (4, z28.2.1), (5, z28.2.2.1), (6, z28.2.2.2.1), (7, z28.2.2.2.2.1), (8, z28.2.2.2.2.2.1), (9, z28.2.2.2.2.2.2.1), (11, z28.2.2.2.2.2.2.2.1)]) (l' := [(3, z28.1), (4, z28.2.1), (5, z28.2.2.1), (6, z28.2.2.2.1), (7, z28.2.2.2.2.1), (8, z28.2.2.2.2.2.1), (9, z28.2.2.2.2.2.2.1), (11, z28.2.2.2.2.2.2.2.1)]) rfl] at hP
    rw [rf_cat (f := A) (l := [(1, m_letters), (3, m_fresh)]) (lc := [(1, z28.2.2.2.2.2.2.2.2.1), (3, z28.2.2.2.2.2.2.2.2.2)]) (l' := [(1, z28.2.2.2.2.2.2.2.2.1), (3, z28.2.2.2.2.2.2.2.2.2)]) rfl] at hP
    refine lv_aload_n hx hb dX11_wordLine_31 rfl (lv_at hl 1 rfl) ?_
    refine va_ldcS hx hb hC.2.2.2.1 (lk_34 hC.2.2.2.2.2.2.2.1.2.2.2) dX11_wordLine_32 ?_
    obtain ⟨z34, hz34, hf⟩ := rf_bd hf
    refine rf_vv (q0 := 0) (ci := 11) hC (c_X11_must l E a (rf_upL I [(3, z28.1), (4, z28.2.1), (5, z28.2.2.1), (6, z28.2.2.2.1), (7, z28.2.2.2.2.1), (8, z28.2.2.2.2.2.1), (9, z28.2.2.2.2.2.2.1), (11, z28.2.2.2.2.2.2.2.1)]) (rf_upL A [(1, z28.2.2.2.2.2.2.2.2.1), (3, z28.2.2.2.2.2.2.2.2.2)]) m_size m_tape z28.1 z28.2.1 z28.2.2.1 z28.2.2.2.1 z28.2.2.2.2.1 z28.2.2.2.2.2.1 z28.2.2.2.2.2.2.1 z28.2.2.2.2.2.2.2.1 z28.2.2.2.2.2.2.2.2.1 34 e_m_size e_m_tape rfl rfl rfl rfl rfl rfl rfl rfl rfl (by decide) hz34) kV_X11_must tw_1452 ⟨Nat.le_of_ble_eq_true rfl, Nat.le_of_ble_eq_true rfl⟩ rfl rfl rfl rfl rfl hP (rf_DM hD) hS rfl hl.1 (rest := []) rfl (Nat.le_of_ble_eq_true rfl) dX11_wordLine_34 (fun H locs hP hS => ?_)
    rw [rf_cat (f := I) (l := [(3, z28.1), (4, z28.2.1), (5, z28.2.2.1), (6, z28.2.2.2.1), (7, z28.2.2.2.2.1), (8, z28.2.2.2.2.2.1), (9, z28.2.2.2.2.2.2.1), (11, z28.2.2.2.2.2.2.2.1)]) (lc := [(3, z34.1), (4, z34.2.1), (5, z34.2.2.1), (6, z34.2.2.2.1), (7, z34.2.2.2.2.1), (8, z34.2.2.2.2.2.1), (9, z34.2.2.2.2.2.2.1), (11, z34.2.2.2.2.2.2.2.1)]) (l' := [(3, z34.1), (4, z34.2.1), (5, z34.2.2.1), (6, z34.2.2.2.1), (7, z34.2.2.2.2.1), (8, z34.2.2.2.2.2.1), (9, z34.2.2.2.2.2.2.1), (11, z34.2.2.2.2.2.2.2.1)]) rfl] at hP
    rw [rf_cat (f := A) (l := [(1, z28.2.2.2.2.2.2.2.2.1), (3, z28.2.2.2.2.2.2.2.2.2)]) (lc := [(1, z34.2.2.2.2.2.2.2.2)]) (l' := [(1, z34.2.2.2.2.2.2.2.2), (3, z28.2.2.2.2.2.2.2.2.2)]) rfl] at hP
    refine lv_aload_n hx hb dX11_wordLine_37 rfl (lv_at hl 1 rfl) ?_
    refine gM_m_failed hC hP tw_1292 (v := z34.2.2.2.2.2.2.2.1) rfl dX11_wordLine_38 ?_
    refine lv_if_ne (tgt := 61) hx hb dX11_wordLine_41 (by decide) (fun c_41 => ?_) (fun c_41 => ?_)
    · have hf := rf_ie c_41 hf
      exact w_X11_wordLine_61 hC hD e_m_size e_m_tape ((9 : Int32) + ((8 : Int32) * (m_fresh (Int32.toNatClampNeg 2)))) z34.1 z34.2.1 z34.2.2.1 z34.2.2.2.1 z34.2.2.2.2.1 z34.2.2.2.2.2.1 z34.2.2.2.2.2.2.1 z34.2.2.2.2.2.2.2.1 z34.2.2.2.2.2.2.2.2 z28.2.2.2.2.2.2.2.2.2 hf _ _ _ hP hS (lv_sub hl [1, 0] rfl)
    have hf := rf_it c_41 hf
    refine lv_aload_n hx hb dX11_wordLine_44 rfl (lv_at hl 1 rfl) ?_
    refine gM_m_token hC hP tw_1285 (v := z34.2.2.1) rfl dX11_wordLine_45 ?_
    refine lv_iconst (v := 2) hx hb dX11_wordLine_48 (by decide) ?_
    refine lv_icmp_eq (tgt := 61) hx hb dX11_wordLine_49 (by decide) (fun c_49 => ?_) (fun c_49 => ?_)
    · have hf := rf_it c_49 hf
      exact w_X11_wordLine_61 hC hD e_m_size e_m_tape ((9 : Int32) + ((8 : Int32) * (m_fresh (Int32.toNatClampNeg 2)))) z34.1 z34.2.1 z34.2.2.1 z34.2.2.2.1 z34.2.2.2.2.1 z34.2.2.2.2.2.1 z34.2.2.2.2.2.2.1 z34.2.2.2.2.2.2.2.1 z34.2.2.2.2.2.2.2.2 z28.2.2.2.2.2.2.2.2.2 hf _ _ _ hP hS (lv_sub hl [1, 0] rfl)
    have hf := rf_ie c_49 hf
    refine lv_aload_n hx hb dX11_wordLine_52 rfl (lv_at hl 1 rfl) ?_
    refine lv_iconst (v := 1) hx hb dX11_wordLine_53 (by decide) ?_
    refine lv_aload_n hx hb dX11_wordLine_54 rfl (lv_at hl 1 rfl) ?_
    refine gM_m_at hC hP tw_1283 (v := z34.1) rfl dX11_wordLine_55 ?_
    obtain ⟨z58, hz58, hf⟩ := rf_bd hf
    refine rf_vv (q0 := 0) (ci := 11) hC (c_X11_wrong l E a (rf_upL I [(3, z34.1), (4, z34.2.1), (5, z34.2.2.1), (6, z34.2.2.2.1), (7, z34.2.2.2.2.1), (8, z34.2.2.2.2.2.1), (9, z34.2.2.2.2.2.2.1), (11, z34.2.2.2.2.2.2.2.1)]) (rf_upL A [(1, z34.2.2.2.2.2.2.2.2), (3, z28.2.2.2.2.2.2.2.2.2)]) z34.2.2.2.2.2.1 z34.2.2.2.2.2.2.1 z34.2.2.2.2.2.2.2.1 1 z34.1 rfl rfl rfl hz58) kV_X11_wrong tw_1443 ⟨Nat.le_of_ble_eq_true rfl, Nat.le_of_ble_eq_true rfl⟩ rfl rfl rfl rfl rfl hP (rf_DM hD) hS rfl hl.1 (rest := []) rfl (Nat.le_of_ble_eq_true rfl) dX11_wordLine_58 (fun H locs hP hS => ?_)
    rw [rf_cat (f := I) (l := [(3, z34.1), (4, z34.2.1), (5, z34.2.2.1), (6, z34.2.2.2.1), (7, z34.2.2.2.2.1), (8, z34.2.2.2.2.2.1), (9, z34.2.2.2.2.2.2.1), (11, z34.2.2.2.2.2.2.2.1)]) (lc := [(8, z58.1), (9, z58.2.1), (11, z58.2.2)]) (l' := [(3, z34.1), (4, z34.2.1), (5, z34.2.2.1), (6, z34.2.2.2.1), (7, z34.2.2.2.2.1), (8, z58.1), (9, z58.2.1), (11, z58.2.2)]) rfl] at hP
    exact w_X11_wordLine_61 hC hD e_m_size e_m_tape ((9 : Int32) + ((8 : Int32) * (m_fresh (Int32.toNatClampNeg 2)))) z34.1 z34.2.1 z34.2.2.1 z34.2.2.2.1 z34.2.2.2.2.1 z58.1 z58.2.1 z58.2.2 z34.2.2.2.2.2.2.2.2 z28.2.2.2.2.2.2.2.2.2 hf _ _ _ hP hS (lv_sub hl [1, 0] rfl)
  have hf := rf_ie c_4 hf
  obtain rfl := Option.some.inj hf
  exact rf_retv hC hP hS rfl dX11_wordLine_7
set_option maxHeartbeats 4000000 in
set_option maxRecDepth 100000 in
theorem w_X11_readLine_213 {l : Launch} {p : Program} {e : Env} {s : State} {m : MethodId} {args : Array Value} {below : List Frame} {meth : Method} {c : Code} {A0 : Nat → Prop} {E : rf_E} {a : Nat → Nat} {I : Nat → Int32} {A : Nat → Nat → Int32} {m_size : Int32} {m_tape : Nat → Int32} {z : Int32 × Int32 × Int32 × Int32 × Int32 × Int32 × Int32 × Int32 × (Nat → Int32) × (Nat → Int32)} (hC : rf_C p E s m args meth c cX11_readLine 1 RX11 (none) A0) (hD : va_D A0 (cM E a I A)) (e_m_size : I 2 = m_size) (e_m_tape : A 0 = m_tape) :
    ∀ (s2 : Int32) (m_at : Int32) (m_end : Int32) (m_token : Int32) (m_whole : Int32) (m_nameSize : Int32) (m_fault : Int32) (m_place : Int32) (m_failed : Int32) (m_letters : Nat → Int32) (m_fresh : Nat → Int32), f_X11_readLine_213 m_size m_tape s2 m_at m_end m_token m_whole m_nameSize m_fault m_place m_failed m_letters m_fresh = some z → ∀ (H : Heap) (locs : List Loc) (ls : Array Slot), va_P (rf_D E) vwCl (cM E a (rf_upL I [(3, m_at), (4, m_end), (5, m_token), (6, m_whole), (7, m_nameSize), (8, m_fault), (9, m_place), (11, m_failed)]) (rf_upL A [(1, m_letters), (3, m_fresh)])) H → va_S A0 s.heap H locs → lv_has ls 1 [(0, .ref (a 0))] → W p l e ({ frames := 12, cells := 0, slots := 0, locals := 329 }) s m args below meth c H locs 0 0 (rf_QV below args s E A0 (cM E a (rf_upL I [(3, z.1), (4, z.2.1), (5, z.2.2.1), (6, z.2.2.2.1), (7, z.2.2.2.2.1), (8, z.2.2.2.2.2.1), (9, z.2.2.2.2.2.2.1), (11, z.2.2.2.2.2.2.2.1)]) (rf_upL A [(1, z.2.2.2.2.2.2.2.2.1), (3, z.2.2.2.2.2.2.2.2.2)]))) (F0 m 213 ls [.int s2, .ref (rf_aK E 33), .ref (a 0)]) := by
  have hx := hC.1
  have hb := hC.2.1
  intro s2 m_at m_end m_token m_whole m_nameSize m_fault m_place m_failed m_letters m_fresh hf H locs ls hP hS hl
  unfold f_X11_readLine_213 at hf
  obtain ⟨z213, hz213, hf⟩ := rf_bd hf
  refine rf_vi (q0 := 0) (ci := 11) hC (c_X11_begins l E a (rf_upL I [(3, m_at), (4, m_end), (5, m_token), (6, m_whole), (7, m_nameSize), (8, m_fault), (9, m_place), (11, m_failed)]) (rf_upL A [(1, m_letters), (3, m_fresh)]) m_size m_tape m_fresh m_at m_end m_token m_whole m_nameSize m_fault m_place m_failed m_letters 33 s2 e_m_size e_m_tape rfl rfl rfl rfl rfl rfl rfl rfl rfl rfl (by decide) hz213) kV_X11_begins tw_1470 ⟨Nat.le_of_ble_eq_true rfl, Nat.le_of_ble_eq_true rfl⟩ rfl rfl rfl rfl rfl hP (rf_DM hD) hS rfl hl.1 (rest := []) rfl (Nat.le_of_ble_eq_true rfl) dX11_readLine_213 (fun H locs hP hS => ?_)
  rw [rf_cat (f := I) (l := [(3, m_at), (4, m_end), (5, m_token), (6, m_whole), (7, m_nameSize), (8, m_fault), (9, m_place), (11, m_failed)]) (lc := [(3, z213.2.1), (4, z213.2.2.1), (5, z213.2.2.2.1), (6, z213.2.2.2.2.1), (7, z213.2.2.2.2.2.1), (8, z213.2.2.2.2.2.2.1), (9, z213.2.2.2.2.2.2.2.1), (11, z213.2.2.2.2.2.2.2.2.1)]) (l' := [(3, z213.2.1), (4, z213.2.2.1), (5, z213.2.2.2.1), (6, z213.2.2.2.2.1), (7, z213.2.2.2.2.2.1), (8, z213.2.2.2.2.2.2.1), (9, z213.2.2.2.2.2.2.2.1), (11, z213.2.2.2.2.2.2.2.2.1)]) rfl] at hP
  rw [rf_cat (f := A) (l := [(1, m_letters), (3, m_fresh)]) (lc := [(1, z213.2.2.2.2.2.2.2.2.2)]) (l' := [(1, z213.2.2.2.2.2.2.2.2.2), (3, m_fresh)]) rfl] at hP
  refine lv_if_eq (tgt := 226) hx hb dX11_readLine_216 (by decide) (fun c_216 => ?_) (fun c_216 => ?_)
  · have hf := rf_it c_216 hf
    refine lv_aload_n hx hb dX11_readLine_226 rfl (lv_at hl 0 rfl) ?_
    refine lv_iconst (v := 1) hx hb dX11_readLine_227 (by decide) ?_
    refine lv_aload_n hx hb dX11_readLine_228 rfl (lv_at hl 0 rfl) ?_
    refine gM_m_at hC hP tw_1283 (v := z213.2.1) rfl dX11_readLine_229 ?_
    obtain ⟨z232, hz232, hf⟩ := rf_bd hf
    refine rf_vv (q0 := 0) (ci := 11) hC (c_X11_wrong l E a (rf_upL I [(3, z213.2.1), (4, z213.2.2.1), (5, z213.2.2.2.1), (6, z213.2.2.2.2.1), (7, z213.2.2.2.2.2.1), (8, z213.2.2.2.2.2.2.1), (9, z213.2.2.2.2.2.2.2.1), (11, z213.2.2.2.2.2.2.2.2.1)]) (rf_upL A [(1, z213.2.2.2.2.2.2.2.2.2), (3, m_fresh)]) z213.2.2.2.2.2.2.1 z213.2.2.2.2.2.2.2.1 z213.2.2.2.2.2.2.2.2.1 1 z213.2.1 rfl rfl rfl hz232) kV_X11_wrong tw_1443 ⟨Nat.le_of_ble_eq_true rfl, Nat.le_of_ble_eq_true rfl⟩ rfl rfl rfl rfl rfl hP (rf_DM hD) hS rfl hl.1 (rest := []) rfl (Nat.le_of_ble_eq_true rfl) dX11_readLine_232 (fun H locs hP hS => ?_)
    rw [rf_cat (f := I) (l := [(3, z213.2.1), (4, z213.2.2.1), (5, z213.2.2.2.1), (6, z213.2.2.2.2.1), (7, z213.2.2.2.2.2.1), (8, z213.2.2.2.2.2.2.1), (9, z213.2.2.2.2.2.2.2.1), (11, z213.2.2.2.2.2.2.2.2.1)]) (lc := [(8, z232.1), (9, z232.2.1), (11, z232.2.2)]) (l' := [(3, z213.2.1), (4, z213.2.2.1), (5, z213.2.2.2.1), (6, z213.2.2.2.2.1), (7, z213.2.2.2.2.2.1), (8, z232.1), (9, z232.2.1), (11, z232.2.2)]) rfl] at hP
    obtain rfl := Option.some.inj hf
    exact rf_retv hC hP hS rfl dX11_readLine_235
  have hf := rf_ie c_216 hf
  refine lv_aload_n hx hb dX11_readLine_219 rfl (lv_at hl 0 rfl) ?_
  obtain ⟨z220, hz220, hf⟩ := rf_bd hf
  refine rf_vv (q0 := 0) (ci := 11) hC (c_X11_gotLine l E a (rf_upL I [(3, z213.2.1), (4, z213.2.2.1), (5, z213.2.2.2.1), (6, z213.2.2.2.2.1), (7, z213.2.2.2.2.2.1), (8, z213.2.2.2.2.2.2.1), (9, z213.2.2.2.2.2.2.2.1), (11, z213.2.2.2.2.2.2.2.2.1)]) (rf_upL A [(1, z213.2.2.2.2.2.2.2.2.2), (3, m_fresh)]) m_size m_tape z213.2.1 z213.2.2.1 z213.2.2.2.1 z213.2.2.2.2.1 z213.2.2.2.2.2.1 z213.2.2.2.2.2.2.1 z213.2.2.2.2.2.2.2.1 z213.2.2.2.2.2.2.2.2.1 z213.2.2.2.2.2.2.2.2.2 m_fresh e_m_size e_m_tape rfl rfl rfl rfl rfl rfl rfl rfl rfl rfl hz220) kV_X11_gotLine tw_1559 ⟨Nat.le_of_ble_eq_true rfl, Nat.le_of_ble_eq_true rfl⟩ rfl rfl rfl rfl rfl hP (rf_DM hD) hS rfl hl.1 (rest := []) rfl (Nat.le_of_ble_eq_true rfl) dX11_readLine_220 (fun H locs hP hS => ?_)
  rw [rf_cat (f := I) (l := [(3, z213.2.1), (4, z213.2.2.1), (5, z213.2.2.2.1), (6, z213.2.2.2.2.1), (7, z213.2.2.2.2.2.1), (8, z213.2.2.2.2.2.2.1), (9, z213.2.2.2.2.2.2.2.1), (11, z213.2.2.2.2.2.2.2.2.1)]) (lc := [(3, z220.1), (4, z220.2.1), (5, z220.2.2.1), (6, z220.2.2.2.1), (7, z220.2.2.2.2.1), (8, z220.2.2.2.2.2.1), (9, z220.2.2.2.2.2.2.1), (11, z220.2.2.2.2.2.2.2.1)]) (l' := [(3, z220.1), (4, z220.2.1), (5, z220.2.2.1), (6, z220.2.2.2.1), (7, z220.2.2.2.2.1), (8, z220.2.2.2.2.2.1), (9, z220.2.2.2.2.2.2.1), (11, z220.2.2.2.2.2.2.2.1)]) rfl] at hP
  rw [rf_cat (f := A) (l := [(1, z213.2.2.2.2.2.2.2.2.2), (3, m_fresh)]) (lc := [(1, z220.2.2.2.2.2.2.2.2.1), (3, z220.2.2.2.2.2.2.2.2.2)]) (l' := [(1, z220.2.2.2.2.2.2.2.2.1), (3, z220.2.2.2.2.2.2.2.2.2)]) rfl] at hP
  refine lv_goto (tgt := 235) hx hb dX11_readLine_223 (by decide) ?_
  obtain rfl := Option.some.inj hf
  exact rf_retv hC hP hS rfl dX11_readLine_235
set_option maxHeartbeats 4000000 in
set_option maxRecDepth 100000 in
theorem w_X11_readLine_163 {l : Launch} {p : Program} {e : Env} {s : State} {m : MethodId} {args : Array Value} {below : List Frame} {meth : Method} {c : Code} {A0 : Nat → Prop} {E : rf_E} {a : Nat → Nat} {I : Nat → Int32} {A : Nat → Nat → Int32} {m_size : Int32} {m_tape : Nat → Int32} {z : Int32 × Int32 × Int32 × Int32 × Int32 × Int32 × Int32 × Int32 × (Nat → Int32) × (Nat → Int32)} (hC : rf_C p E s m args meth c cX11_readLine 1 RX11 (none) A0) (hD : va_D A0 (cM E a I A)) (e_m_size : I 2 = m_size) (e_m_tape : A 0 = m_tape) :
    ∀ (s2 : Int32) (m_at : Int32) (m_end : Int32) (m_token : Int32) (m_whole : Int32) (m_nameSize : Int32) (m_fault : Int32) (m_place : Int32) (m_failed : Int32) (m_letters : Nat → Int32) (m_fresh : Nat → Int32), f_X11_readLine_163 m_size m_tape s2 m_at m_end m_token m_whole m_nameSize m_fault m_place m_failed m_letters m_fresh = some z → ∀ (H : Heap) (locs : List Loc) (ls : Array Slot), va_P (rf_D E) vwCl (cM E a (rf_upL I [(3, m_at), (4, m_end), (5, m_token), (6, m_whole), (7, m_nameSize), (8, m_fault), (9, m_place), (11, m_failed)]) (rf_upL A [(1, m_letters), (3, m_fresh)])) H → va_S A0 s.heap H locs → lv_has ls 1 [(0, .ref (a 0))] → W p l e ({ frames := 12, cells := 0, slots := 0, locals := 329 }) s m args below meth c H locs 0 0 (rf_QV below args s E A0 (cM E a (rf_upL I [(3, z.1), (4, z.2.1), (5, z.2.2.1), (6, z.2.2.2.1), (7, z.2.2.2.2.1), (8, z.2.2.2.2.2.1), (9, z.2.2.2.2.2.2.1), (11, z.2.2.2.2.2.2.2.1)]) (rf_upL A [(1, z.2.2.2.2.2.2.2.2.1), (3, z.2.2.2.2.2.2.2.2.2)]))) (F0 m 163 ls [.int s2, .ref (rf_aK E 31), .ref (a 0)]) := by
  have hx := hC.1
  have hb := hC.2.1
  intro s2 m_at m_end m_token m_whole m_nameSize m_fault m_place m_failed m_letters m_fresh hf H locs ls hP hS hl
  unfold f_X11_readLine_163 at hf
  obtain ⟨z163, hz163, hf⟩ := rf_bd hf
  refine rf_vi (q0 := 0) (ci := 11) hC (c_X11_begins l E a (rf_upL I [(3, m_at), (4, m_end), (5, m_token), (6, m_whole), (7, m_nameSize), (8, m_fault), (9, m_place), (11, m_failed)]) (rf_upL A [(1, m_letters), (3, m_fresh)]) m_size m_tape m_fresh m_at m_end m_token m_whole m_nameSize m_fault m_place m_failed m_letters 31 s2 e_m_size e_m_tape rfl rfl rfl rfl rfl rfl rfl rfl rfl rfl (by decide) hz163) kV_X11_begins tw_1470 ⟨Nat.le_of_ble_eq_true rfl, Nat.le_of_ble_eq_true rfl⟩ rfl rfl rfl rfl rfl hP (rf_DM hD) hS rfl hl.1 (rest := []) rfl (Nat.le_of_ble_eq_true rfl) dX11_readLine_163 (fun H locs hP hS => ?_)
  rw [rf_cat (f := I) (l := [(3, m_at), (4, m_end), (5, m_token), (6, m_whole), (7, m_nameSize), (8, m_fault), (9, m_place), (11, m_failed)]) (lc := [(3, z163.2.1), (4, z163.2.2.1), (5, z163.2.2.2.1), (6, z163.2.2.2.2.1), (7, z163.2.2.2.2.2.1), (8, z163.2.2.2.2.2.2.1), (9, z163.2.2.2.2.2.2.2.1), (11, z163.2.2.2.2.2.2.2.2.1)]) (l' := [(3, z163.2.1), (4, z163.2.2.1), (5, z163.2.2.2.1), (6, z163.2.2.2.2.1), (7, z163.2.2.2.2.2.1), (8, z163.2.2.2.2.2.2.1), (9, z163.2.2.2.2.2.2.2.1), (11, z163.2.2.2.2.2.2.2.2.1)]) rfl] at hP
  rw [rf_cat (f := A) (l := [(1, m_letters), (3, m_fresh)]) (lc := [(1, z163.2.2.2.2.2.2.2.2.2)]) (l' := [(1, z163.2.2.2.2.2.2.2.2.2), (3, m_fresh)]) rfl] at hP
  refine lv_if_eq (tgt := 176) hx hb dX11_readLine_166 (by decide) (fun c_166 => ?_) (fun c_166 => ?_)
  · have hf := rf_it c_166 hf
    refine lv_aload_n hx hb dX11_readLine_176 rfl (lv_at hl 0 rfl) ?_
    refine va_ldcS hx hb hC.2.2.2.1 (lk_32 hC.2.2.2.2.2.2.2.1.2.2.2) dX11_readLine_177 ?_
    refine lv_iconst (v := 1) hx hb dX11_readLine_179 (by decide) ?_
    obtain ⟨z180, hz180, hf⟩ := rf_bd hf
    refine rf_vi (q0 := 0) (ci := 11) hC (c_X11_begins l E a (rf_upL I [(3, z163.2.1), (4, z163.2.2.1), (5, z163.2.2.2.1), (6, z163.2.2.2.2.1), (7, z163.2.2.2.2.2.1), (8, z163.2.2.2.2.2.2.1), (9, z163.2.2.2.2.2.2.2.1), (11, z163.2.2.2.2.2.2.2.2.1)]) (rf_upL A [(1, z163.2.2.2.2.2.2.2.2.2), (3, m_fresh)]) m_size m_tape m_fresh z163.2.1 z163.2.2.1 z163.2.2.2.1 z163.2.2.2.2.1 z163.2.2.2.2.2.1 z163.2.2.2.2.2.2.1 z163.2.2.2.2.2.2.2.1 z163.2.2.2.2.2.2.2.2.1 z163.2.2.2.2.2.2.2.2.2 32 1 e_m_size e_m_tape rfl rfl rfl rfl rfl rfl rfl rfl rfl rfl (by decide) hz180) kV_X11_begins tw_1470 ⟨Nat.le_of_ble_eq_true rfl, Nat.le_of_ble_eq_true rfl⟩ rfl rfl rfl rfl rfl hP (rf_DM hD) hS rfl hl.1 (rest := []) rfl (Nat.le_of_ble_eq_true rfl) dX11_readLine_180 (fun H locs hP hS => ?_)
    rw [rf_cat (f := I) (l := [(3, z163.2.1), (4, z163.2.2.1), (5, z163.2.2.2.1), (6, z163.2.2.2.2.1), (7, z163.2.2.2.2.2.1), (8, z163.2.2.2.2.2.2.1), (9, z163.2.2.2.2.2.2.2.1), (11, z163.2.2.2.2.2.2.2.2.1)]) (lc := [(3, z180.2.1), (4, z180.2.2.1), (5, z180.2.2.2.1), (6, z180.2.2.2.2.1), (7, z180.2.2.2.2.2.1), (8, z180.2.2.2.2.2.2.1), (9, z180.2.2.2.2.2.2.2.1), (11, z180.2.2.2.2.2.2.2.2.1)]) (l' := [(3, z180.2.1), (4, z180.2.2.1), (5, z180.2.2.2.1), (6, z180.2.2.2.2.1), (7, z180.2.2.2.2.2.1), (8, z180.2.2.2.2.2.2.1), (9, z180.2.2.2.2.2.2.2.1), (11, z180.2.2.2.2.2.2.2.2.1)]) rfl] at hP
    rw [rf_cat (f := A) (l := [(1, z163.2.2.2.2.2.2.2.2.2), (3, m_fresh)]) (lc := [(1, z180.2.2.2.2.2.2.2.2.2)]) (l' := [(1, z180.2.2.2.2.2.2.2.2.2), (3, m_fresh)]) rfl] at hP
    refine lv_if_eq (tgt := 193) hx hb dX11_readLine_183 (by decide) (fun c_183 => ?_) (fun c_183 => ?_)
    · have hf := rf_it c_183 hf
      refine lv_aload_n hx hb dX11_readLine_193 rfl (lv_at hl 0 rfl) ?_
      refine va_ldcS hx hb hC.2.2.2.1 (lk_33 hC.2.2.2.2.2.2.2.1.2.2.2) dX11_readLine_194 ?_
      refine lv_aload_n hx hb dX11_readLine_196 rfl (lv_at hl 0 rfl) ?_
      refine gM_m_fresh hC hP tw_1295 dX11_readLine_197 ?_
      refine lv_bipush (v := 7) hx hb dX11_readLine_200 (by decide) ?_
      refine lM_m_fresh hC hP (by decide) (f := m_fresh) rfl dX11_readLine_202 ?_
      refine lv_bipush (v := 6) hx hb dX11_readLine_203 (by decide) ?_
      refine lv_icmp_ge (tgt := 212) hx hb dX11_readLine_205 (by decide) (fun c_205 => ?_) (fun c_205 => ?_)
      · have hf := rf_it c_205 hf
        refine lv_iconst (v := 0) hx hb dX11_readLine_212 (by decide) ?_
        exact w_X11_readLine_213 hC hD e_m_size e_m_tape 0 z180.2.1 z180.2.2.1 z180.2.2.2.1 z180.2.2.2.2.1 z180.2.2.2.2.2.1 z180.2.2.2.2.2.2.1 z180.2.2.2.2.2.2.2.1 z180.2.2.2.2.2.2.2.2.1 z180.2.2.2.2.2.2.2.2.2 m_fresh hf _ _ _ hP hS (lv_sub hl [0] rfl)
      have hf := rf_ie c_205 hf
      refine lv_iconst (v := 1) hx hb dX11_readLine_208 (by decide) ?_
      refine lv_goto (tgt := 213) hx hb dX11_readLine_209 (by decide) ?_
      exact w_X11_readLine_213 hC hD e_m_size e_m_tape 1 z180.2.1 z180.2.2.1 z180.2.2.2.1 z180.2.2.2.2.1 z180.2.2.2.2.2.1 z180.2.2.2.2.2.2.1 z180.2.2.2.2.2.2.2.1 z180.2.2.2.2.2.2.2.2.1 z180.2.2.2.2.2.2.2.2.2 m_fresh hf _ _ _ hP hS (lv_sub hl [0] rfl)
    have hf := rf_ie c_183 hf
    refine lv_aload_n hx hb dX11_readLine_186 rfl (lv_at hl 0 rfl) ?_
    obtain ⟨z187, hz187, hf⟩ := rf_bd hf
    refine rf_vv (q0 := 0) (ci := 11) hC (c_X11_errandLine l E a (rf_upL I [(3, z180.2.1), (4, z180.2.2.1), (5, z180.2.2.2.1), (6, z180.2.2.2.2.1), (7, z180.2.2.2.2.2.1), (8, z180.2.2.2.2.2.2.1), (9, z180.2.2.2.2.2.2.2.1), (11, z180.2.2.2.2.2.2.2.2.1)]) (rf_upL A [(1, z180.2.2.2.2.2.2.2.2.2), (3, m_fresh)]) m_size m_tape z180.2.1 z180.2.2.1 z180.2.2.2.1 z180.2.2.2.2.1 z180.2.2.2.2.2.1 z180.2.2.2.2.2.2.1 z180.2.2.2.2.2.2.2.1 z180.2.2.2.2.2.2.2.2.1 z180.2.2.2.2.2.2.2.2.2 m_fresh e_m_size e_m_tape rfl rfl rfl rfl rfl rfl rfl rfl rfl rfl hz187) kV_X11_errandLine tw_1554 ⟨Nat.le_of_ble_eq_true rfl, Nat.le_of_ble_eq_true rfl⟩ rfl rfl rfl rfl rfl hP (rf_DM hD) hS rfl hl.1 (rest := []) rfl (Nat.le_of_ble_eq_true rfl) dX11_readLine_187 (fun H locs hP hS => ?_)
    rw [rf_cat (f := I) (l := [(3, z180.2.1), (4, z180.2.2.1), (5, z180.2.2.2.1), (6, z180.2.2.2.2.1), (7, z180.2.2.2.2.2.1), (8, z180.2.2.2.2.2.2.1), (9, z180.2.2.2.2.2.2.2.1), (11, z180.2.2.2.2.2.2.2.2.1)]) (lc := [(3, z187.1), (4, z187.2.1), (5, z187.2.2.1), (6, z187.2.2.2.1), (7, z187.2.2.2.2.1), (8, z187.2.2.2.2.2.1), (9, z187.2.2.2.2.2.2.1), (11, z187.2.2.2.2.2.2.2.1)]) (l' := [(3, z187.1), (4, z187.2.1), (5, z187.2.2.1), (6, z187.2.2.2.1), (7, z187.2.2.2.2.1), (8, z187.2.2.2.2.2.1), (9, z187.2.2.2.2.2.2.1), (11, z187.2.2.2.2.2.2.2.1)]) rfl] at hP
    rw [rf_cat (f := A) (l := [(1, z180.2.2.2.2.2.2.2.2.2), (3, m_fresh)]) (lc := [(1, z187.2.2.2.2.2.2.2.2.1), (3, z187.2.2.2.2.2.2.2.2.2)]) (l' := [(1, z187.2.2.2.2.2.2.2.2.1), (3, z187.2.2.2.2.2.2.2.2.2)]) rfl] at hP
    refine lv_goto (tgt := 235) hx hb dX11_readLine_190 (by decide) ?_
    obtain rfl := Option.some.inj hf
    exact rf_retv hC hP hS rfl dX11_readLine_235
  have hf := rf_ie c_166 hf
  refine lv_aload_n hx hb dX11_readLine_169 rfl (lv_at hl 0 rfl) ?_
  obtain ⟨z170, hz170, hf⟩ := rf_bd hf
  refine rf_vv (q0 := 0) (ci := 11) hC (c_X11_hourLine l E a (rf_upL I [(3, z163.2.1), (4, z163.2.2.1), (5, z163.2.2.2.1), (6, z163.2.2.2.2.1), (7, z163.2.2.2.2.2.1), (8, z163.2.2.2.2.2.2.1), (9, z163.2.2.2.2.2.2.2.1), (11, z163.2.2.2.2.2.2.2.2.1)]) (rf_upL A [(1, z163.2.2.2.2.2.2.2.2.2), (3, m_fresh)]) m_size m_tape z163.2.1 z163.2.2.1 z163.2.2.2.1 z163.2.2.2.2.1 z163.2.2.2.2.2.1 z163.2.2.2.2.2.2.1 z163.2.2.2.2.2.2.2.1 z163.2.2.2.2.2.2.2.2.1 z163.2.2.2.2.2.2.2.2.2 m_fresh e_m_size e_m_tape rfl rfl rfl rfl rfl rfl rfl rfl rfl rfl hz170) kV_X11_hourLine tw_1550 ⟨Nat.le_of_ble_eq_true rfl, Nat.le_of_ble_eq_true rfl⟩ rfl rfl rfl rfl rfl hP (rf_DM hD) hS rfl hl.1 (rest := []) rfl (Nat.le_of_ble_eq_true rfl) dX11_readLine_170 (fun H locs hP hS => ?_)
  rw [rf_cat (f := I) (l := [(3, z163.2.1), (4, z163.2.2.1), (5, z163.2.2.2.1), (6, z163.2.2.2.2.1), (7, z163.2.2.2.2.2.1), (8, z163.2.2.2.2.2.2.1), (9, z163.2.2.2.2.2.2.2.1), (11, z163.2.2.2.2.2.2.2.2.1)]) (lc := [(3, z170.1), (4, z170.2.1), (5, z170.2.2.1), (6, z170.2.2.2.1), (7, z170.2.2.2.2.1), (8, z170.2.2.2.2.2.1), (9, z170.2.2.2.2.2.2.1), (11, z170.2.2.2.2.2.2.2.1)]) (l' := [(3, z170.1), (4, z170.2.1), (5, z170.2.2.1), (6, z170.2.2.2.1), (7, z170.2.2.2.2.1), (8, z170.2.2.2.2.2.1), (9, z170.2.2.2.2.2.2.1), (11, z170.2.2.2.2.2.2.2.1)]) rfl] at hP
  rw [rf_cat (f := A) (l := [(1, z163.2.2.2.2.2.2.2.2.2), (3, m_fresh)]) (lc := [(1, z170.2.2.2.2.2.2.2.2.1), (3, z170.2.2.2.2.2.2.2.2.2)]) (l' := [(1, z170.2.2.2.2.2.2.2.2.1), (3, z170.2.2.2.2.2.2.2.2.2)]) rfl] at hP
  refine lv_goto (tgt := 235) hx hb dX11_readLine_173 (by decide) ?_
  obtain rfl := Option.some.inj hf
  exact rf_retv hC hP hS rfl dX11_readLine_235
set_option maxHeartbeats 4000000 in
set_option maxRecDepth 100000 in
theorem w_X11_readLine_131 {l : Launch} {p : Program} {e : Env} {s : State} {m : MethodId} {args : Array Value} {below : List Frame} {meth : Method} {c : Code} {A0 : Nat → Prop} {E : rf_E} {a : Nat → Nat} {I : Nat → Int32} {A : Nat → Nat → Int32} {m_size : Int32} {m_tape : Nat → Int32} {z : Int32 × Int32 × Int32 × Int32 × Int32 × Int32 × Int32 × Int32 × (Nat → Int32) × (Nat → Int32)} (hC : rf_C p E s m args meth c cX11_readLine 1 RX11 (none) A0) (hD : va_D A0 (cM E a I A)) (e_m_size : I 2 = m_size) (e_m_tape : A 0 = m_tape) :
    ∀ (s2 : Int32) (m_at : Int32) (m_end : Int32) (m_token : Int32) (m_whole : Int32) (m_nameSize : Int32) (m_fault : Int32) (m_place : Int32) (m_failed : Int32) (m_letters : Nat → Int32) (m_fresh : Nat → Int32), f_X11_readLine_131 m_size m_tape s2 m_at m_end m_token m_whole m_nameSize m_fault m_place m_failed m_letters m_fresh = some z → ∀ (H : Heap) (locs : List Loc) (ls : Array Slot), va_P (rf_D E) vwCl (cM E a (rf_upL I [(3, m_at), (4, m_end), (5, m_token), (6, m_whole), (7, m_nameSize), (8, m_fault), (9, m_place), (11, m_failed)]) (rf_upL A [(1, m_letters), (3, m_fresh)])) H → va_S A0 s.heap H locs → lv_has ls 1 [(0, .ref (a 0))] → W p l e ({ frames := 12, cells := 0, slots := 0, locals := 329 }) s m args below meth c H locs 0 0 (rf_QV below args s E A0 (cM E a (rf_upL I [(3, z.1), (4, z.2.1), (5, z.2.2.1), (6, z.2.2.2.1), (7, z.2.2.2.2.1), (8, z.2.2.2.2.2.1), (9, z.2.2.2.2.2.2.1), (11, z.2.2.2.2.2.2.2.1)]) (rf_upL A [(1, z.2.2.2.2.2.2.2.2.1), (3, z.2.2.2.2.2.2.2.2.2)]))) (F0 m 131 ls [.int s2, .ref (rf_aK E 30), .ref (a 0)]) := by
  have hx := hC.1
  have hb := hC.2.1
  intro s2 m_at m_end m_token m_whole m_nameSize m_fault m_place m_failed m_letters m_fresh hf H locs ls hP hS hl
  unfold f_X11_readLine_131 at hf
  obtain ⟨z131, hz131, hf⟩ := rf_bd hf
  refine rf_vi (q0 := 0) (ci := 11) hC (c_X11_begins l E a (rf_upL I [(3, m_at), (4, m_end), (5, m_token), (6, m_whole), (7, m_nameSize), (8, m_fault), (9, m_place), (11, m_failed)]) (rf_upL A [(1, m_letters), (3, m_fresh)]) m_size m_tape m_fresh m_at m_end m_token m_whole m_nameSize m_fault m_place m_failed m_letters 30 s2 e_m_size e_m_tape rfl rfl rfl rfl rfl rfl rfl rfl rfl rfl (by decide) hz131) kV_X11_begins tw_1470 ⟨Nat.le_of_ble_eq_true rfl, Nat.le_of_ble_eq_true rfl⟩ rfl rfl rfl rfl rfl hP (rf_DM hD) hS rfl hl.1 (rest := []) rfl (Nat.le_of_ble_eq_true rfl) dX11_readLine_131 (fun H locs hP hS => ?_)
  rw [rf_cat (f := I) (l := [(3, m_at), (4, m_end), (5, m_token), (6, m_whole), (7, m_nameSize), (8, m_fault), (9, m_place), (11, m_failed)]) (lc := [(3, z131.2.1), (4, z131.2.2.1), (5, z131.2.2.2.1), (6, z131.2.2.2.2.1), (7, z131.2.2.2.2.2.1), (8, z131.2.2.2.2.2.2.1), (9, z131.2.2.2.2.2.2.2.1), (11, z131.2.2.2.2.2.2.2.2.1)]) (l' := [(3, z131.2.1), (4, z131.2.2.1), (5, z131.2.2.2.1), (6, z131.2.2.2.2.1), (7, z131.2.2.2.2.2.1), (8, z131.2.2.2.2.2.2.1), (9, z131.2.2.2.2.2.2.2.1), (11, z131.2.2.2.2.2.2.2.2.1)]) rfl] at hP
  rw [rf_cat (f := A) (l := [(1, m_letters), (3, m_fresh)]) (lc := [(1, z131.2.2.2.2.2.2.2.2.2)]) (l' := [(1, z131.2.2.2.2.2.2.2.2.2), (3, m_fresh)]) rfl] at hP
  refine lv_if_eq (tgt := 144) hx hb dX11_readLine_134 (by decide) (fun c_134 => ?_) (fun c_134 => ?_)
  · have hf := rf_it c_134 hf
    refine lv_aload_n hx hb dX11_readLine_144 rfl (lv_at hl 0 rfl) ?_
    refine va_ldcS hx hb hC.2.2.2.1 (lk_31 hC.2.2.2.2.2.2.2.1.2.2.2) dX11_readLine_145 ?_
    refine lv_aload_n hx hb dX11_readLine_147 rfl (lv_at hl 0 rfl) ?_
    refine gM_m_fresh hC hP tw_1295 dX11_readLine_148 ?_
    refine lv_iconst (v := 5) hx hb dX11_readLine_151 (by decide) ?_
    refine lM_m_fresh hC hP (by decide) (f := m_fresh) rfl dX11_readLine_152 ?_
    refine lv_bipush (v := 8) hx hb dX11_readLine_153 (by decide) ?_
    refine lv_icmp_ge (tgt := 162) hx hb dX11_readLine_155 (by decide) (fun c_155 => ?_) (fun c_155 => ?_)
    · have hf := rf_it c_155 hf
      refine lv_iconst (v := 0) hx hb dX11_readLine_162 (by decide) ?_
      exact w_X11_readLine_163 hC hD e_m_size e_m_tape 0 z131.2.1 z131.2.2.1 z131.2.2.2.1 z131.2.2.2.2.1 z131.2.2.2.2.2.1 z131.2.2.2.2.2.2.1 z131.2.2.2.2.2.2.2.1 z131.2.2.2.2.2.2.2.2.1 z131.2.2.2.2.2.2.2.2.2 m_fresh hf _ _ _ hP hS (lv_sub hl [0] rfl)
    have hf := rf_ie c_155 hf
    refine lv_iconst (v := 1) hx hb dX11_readLine_158 (by decide) ?_
    refine lv_goto (tgt := 163) hx hb dX11_readLine_159 (by decide) ?_
    exact w_X11_readLine_163 hC hD e_m_size e_m_tape 1 z131.2.1 z131.2.2.1 z131.2.2.2.1 z131.2.2.2.2.1 z131.2.2.2.2.2.1 z131.2.2.2.2.2.2.1 z131.2.2.2.2.2.2.2.1 z131.2.2.2.2.2.2.2.2.1 z131.2.2.2.2.2.2.2.2.2 m_fresh hf _ _ _ hP hS (lv_sub hl [0] rfl)
  have hf := rf_ie c_134 hf
  refine lv_aload_n hx hb dX11_readLine_137 rfl (lv_at hl 0 rfl) ?_
  obtain ⟨z138, hz138, hf⟩ := rf_bd hf
  refine rf_vv (q0 := 0) (ci := 11) hC (c_X11_alikeLine l E a (rf_upL I [(3, z131.2.1), (4, z131.2.2.1), (5, z131.2.2.2.1), (6, z131.2.2.2.2.1), (7, z131.2.2.2.2.2.1), (8, z131.2.2.2.2.2.2.1), (9, z131.2.2.2.2.2.2.2.1), (11, z131.2.2.2.2.2.2.2.2.1)]) (rf_upL A [(1, z131.2.2.2.2.2.2.2.2.2), (3, m_fresh)]) m_size m_tape z131.2.1 z131.2.2.1 z131.2.2.2.1 z131.2.2.2.2.1 z131.2.2.2.2.2.1 z131.2.2.2.2.2.2.1 z131.2.2.2.2.2.2.2.1 z131.2.2.2.2.2.2.2.2.1 z131.2.2.2.2.2.2.2.2.2 m_fresh e_m_size e_m_tape rfl rfl rfl rfl rfl rfl rfl rfl rfl rfl hz138) kV_X11_alikeLine tw_1542 ⟨Nat.le_of_ble_eq_true rfl, Nat.le_of_ble_eq_true rfl⟩ rfl rfl rfl rfl rfl hP (rf_DM hD) hS rfl hl.1 (rest := []) rfl (Nat.le_of_ble_eq_true rfl) dX11_readLine_138 (fun H locs hP hS => ?_)
  rw [rf_cat (f := I) (l := [(3, z131.2.1), (4, z131.2.2.1), (5, z131.2.2.2.1), (6, z131.2.2.2.2.1), (7, z131.2.2.2.2.2.1), (8, z131.2.2.2.2.2.2.1), (9, z131.2.2.2.2.2.2.2.1), (11, z131.2.2.2.2.2.2.2.2.1)]) (lc := [(3, z138.1), (4, z138.2.1), (5, z138.2.2.1), (6, z138.2.2.2.1), (7, z138.2.2.2.2.1), (8, z138.2.2.2.2.2.1), (9, z138.2.2.2.2.2.2.1), (11, z138.2.2.2.2.2.2.2.1)]) (l' := [(3, z138.1), (4, z138.2.1), (5, z138.2.2.1), (6, z138.2.2.2.1), (7, z138.2.2.2.2.1), (8, z138.2.2.2.2.2.1), (9, z138.2.2.2.2.2.2.1), (11, z138.2.2.2.2.2.2.2.1)]) rfl] at hP
  rw [rf_cat (f := A) (l := [(1, z131.2.2.2.2.2.2.2.2.2), (3, m_fresh)]) (lc := [(1, z138.2.2.2.2.2.2.2.2.1), (3, z138.2.2.2.2.2.2.2.2.2)]) (l' := [(1, z138.2.2.2.2.2.2.2.2.1), (3, z138.2.2.2.2.2.2.2.2.2)]) rfl] at hP
  refine lv_goto (tgt := 235) hx hb dX11_readLine_141 (by decide) ?_
  obtain rfl := Option.some.inj hf
  exact rf_retv hC hP hS rfl dX11_readLine_235
set_option maxHeartbeats 4000000 in
set_option maxRecDepth 100000 in
theorem w_X11_readLine_100 {l : Launch} {p : Program} {e : Env} {s : State} {m : MethodId} {args : Array Value} {below : List Frame} {meth : Method} {c : Code} {A0 : Nat → Prop} {E : rf_E} {a : Nat → Nat} {I : Nat → Int32} {A : Nat → Nat → Int32} {m_size : Int32} {m_tape : Nat → Int32} {z : Int32 × Int32 × Int32 × Int32 × Int32 × Int32 × Int32 × Int32 × (Nat → Int32) × (Nat → Int32)} (hC : rf_C p E s m args meth c cX11_readLine 1 RX11 (none) A0) (hD : va_D A0 (cM E a I A)) (e_m_size : I 2 = m_size) (e_m_tape : A 0 = m_tape) :
    ∀ (s2 : Int32) (m_at : Int32) (m_end : Int32) (m_token : Int32) (m_whole : Int32) (m_nameSize : Int32) (m_fault : Int32) (m_place : Int32) (m_failed : Int32) (m_letters : Nat → Int32) (m_fresh : Nat → Int32), f_X11_readLine_100 m_size m_tape s2 m_at m_end m_token m_whole m_nameSize m_fault m_place m_failed m_letters m_fresh = some z → ∀ (H : Heap) (locs : List Loc) (ls : Array Slot), va_P (rf_D E) vwCl (cM E a (rf_upL I [(3, m_at), (4, m_end), (5, m_token), (6, m_whole), (7, m_nameSize), (8, m_fault), (9, m_place), (11, m_failed)]) (rf_upL A [(1, m_letters), (3, m_fresh)])) H → va_S A0 s.heap H locs → lv_has ls 1 [(0, .ref (a 0))] → W p l e ({ frames := 12, cells := 0, slots := 0, locals := 329 }) s m args below meth c H locs 0 0 (rf_QV below args s E A0 (cM E a (rf_upL I [(3, z.1), (4, z.2.1), (5, z.2.2.1), (6, z.2.2.2.1), (7, z.2.2.2.2.1), (8, z.2.2.2.2.2.1), (9, z.2.2.2.2.2.2.1), (11, z.2.2.2.2.2.2.2.1)]) (rf_upL A [(1, z.2.2.2.2.2.2.2.2.1), (3, z.2.2.2.2.2.2.2.2.2)]))) (F0 m 100 ls [.int s2, .ref (rf_aK E 29), .ref (a 0)]) := by
  have hx := hC.1
  have hb := hC.2.1
  intro s2 m_at m_end m_token m_whole m_nameSize m_fault m_place m_failed m_letters m_fresh hf H locs ls hP hS hl
  unfold f_X11_readLine_100 at hf
  obtain ⟨z100, hz100, hf⟩ := rf_bd hf
  refine rf_vi (q0 := 0) (ci := 11) hC (c_X11_begins l E a (rf_upL I [(3, m_at), (4, m_end), (5, m_token), (6, m_whole), (7, m_nameSize), (8, m_fault), (9, m_place), (11, m_failed)]) (rf_upL A [(1, m_letters), (3, m_fresh)]) m_size m_tape m_fresh m_at m_end m_token m_whole m_nameSize m_fault m_place m_failed m_letters 29 s2 e_m_size e_m_tape rfl rfl rfl rfl rfl rfl rfl rfl rfl rfl (by decide) hz100) kV_X11_begins tw_1470 ⟨Nat.le_of_ble_eq_true rfl, Nat.le_of_ble_eq_true rfl⟩ rfl rfl rfl rfl rfl hP (rf_DM hD) hS rfl hl.1 (rest := []) rfl (Nat.le_of_ble_eq_true rfl) dX11_readLine_100 (fun H locs hP hS => ?_)
  rw [rf_cat (f := I) (l := [(3, m_at), (4, m_end), (5, m_token), (6, m_whole), (7, m_nameSize), (8, m_fault), (9, m_place), (11, m_failed)]) (lc := [(3, z100.2.1), (4, z100.2.2.1), (5, z100.2.2.2.1), (6, z100.2.2.2.2.1), (7, z100.2.2.2.2.2.1), (8, z100.2.2.2.2.2.2.1), (9, z100.2.2.2.2.2.2.2.1), (11, z100.2.2.2.2.2.2.2.2.1)]) (l' := [(3, z100.2.1), (4, z100.2.2.1), (5, z100.2.2.2.1), (6, z100.2.2.2.2.1), (7, z100.2.2.2.2.2.1), (8, z100.2.2.2.2.2.2.1), (9, z100.2.2.2.2.2.2.2.1), (11, z100.2.2.2.2.2.2.2.2.1)]) rfl] at hP
  rw [rf_cat (f := A) (l := [(1, m_letters), (3, m_fresh)]) (lc := [(1, z100.2.2.2.2.2.2.2.2.2)]) (l' := [(1, z100.2.2.2.2.2.2.2.2.2), (3, m_fresh)]) rfl] at hP
  refine lv_if_eq (tgt := 113) hx hb dX11_readLine_103 (by decide) (fun c_103 => ?_) (fun c_103 => ?_)
  · have hf := rf_it c_103 hf
    refine lv_aload_n hx hb dX11_readLine_113 rfl (lv_at hl 0 rfl) ?_
    refine va_ldcS hx hb hC.2.2.2.1 (lk_30 hC.2.2.2.2.2.2.2.1.2.2.2) dX11_readLine_114 ?_
    refine lv_aload_n hx hb dX11_readLine_116 rfl (lv_at hl 0 rfl) ?_
    refine gM_m_fresh hC hP tw_1295 dX11_readLine_117 ?_
    refine lv_iconst (v := 4) hx hb dX11_readLine_120 (by decide) ?_
    refine lM_m_fresh hC hP (by decide) (f := m_fresh) rfl dX11_readLine_121 ?_
    refine lv_iconst (v := 4) hx hb dX11_readLine_122 (by decide) ?_
    refine lv_icmp_ge (tgt := 130) hx hb dX11_readLine_123 (by decide) (fun c_123 => ?_) (fun c_123 => ?_)
    · have hf := rf_it c_123 hf
      refine lv_iconst (v := 0) hx hb dX11_readLine_130 (by decide) ?_
      exact w_X11_readLine_131 hC hD e_m_size e_m_tape 0 z100.2.1 z100.2.2.1 z100.2.2.2.1 z100.2.2.2.2.1 z100.2.2.2.2.2.1 z100.2.2.2.2.2.2.1 z100.2.2.2.2.2.2.2.1 z100.2.2.2.2.2.2.2.2.1 z100.2.2.2.2.2.2.2.2.2 m_fresh hf _ _ _ hP hS (lv_sub hl [0] rfl)
    have hf := rf_ie c_123 hf
    refine lv_iconst (v := 1) hx hb dX11_readLine_126 (by decide) ?_
    refine lv_goto (tgt := 131) hx hb dX11_readLine_127 (by decide) ?_
    exact w_X11_readLine_131 hC hD e_m_size e_m_tape 1 z100.2.1 z100.2.2.1 z100.2.2.2.1 z100.2.2.2.2.1 z100.2.2.2.2.2.1 z100.2.2.2.2.2.2.1 z100.2.2.2.2.2.2.2.1 z100.2.2.2.2.2.2.2.2.1 z100.2.2.2.2.2.2.2.2.2 m_fresh hf _ _ _ hP hS (lv_sub hl [0] rfl)
  have hf := rf_ie c_103 hf
  refine lv_aload_n hx hb dX11_readLine_106 rfl (lv_at hl 0 rfl) ?_
  obtain ⟨z107, hz107, hf⟩ := rf_bd hf
  refine rf_vv (q0 := 0) (ci := 11) hC (c_X11_knowsLine l E a (rf_upL I [(3, z100.2.1), (4, z100.2.2.1), (5, z100.2.2.2.1), (6, z100.2.2.2.2.1), (7, z100.2.2.2.2.2.1), (8, z100.2.2.2.2.2.2.1), (9, z100.2.2.2.2.2.2.2.1), (11, z100.2.2.2.2.2.2.2.2.1)]) (rf_upL A [(1, z100.2.2.2.2.2.2.2.2.2), (3, m_fresh)]) m_size m_tape z100.2.1 z100.2.2.1 z100.2.2.2.1 z100.2.2.2.2.1 z100.2.2.2.2.2.1 z100.2.2.2.2.2.2.1 z100.2.2.2.2.2.2.2.1 z100.2.2.2.2.2.2.2.2.1 z100.2.2.2.2.2.2.2.2.2 m_fresh e_m_size e_m_tape rfl rfl rfl rfl rfl rfl rfl rfl rfl rfl hz107) kV_X11_knowsLine tw_1527 ⟨Nat.le_of_ble_eq_true rfl, Nat.le_of_ble_eq_true rfl⟩ rfl rfl rfl rfl rfl hP (rf_DM hD) hS rfl hl.1 (rest := []) rfl (Nat.le_of_ble_eq_true rfl) dX11_readLine_107 (fun H locs hP hS => ?_)
  rw [rf_cat (f := I) (l := [(3, z100.2.1), (4, z100.2.2.1), (5, z100.2.2.2.1), (6, z100.2.2.2.2.1), (7, z100.2.2.2.2.2.1), (8, z100.2.2.2.2.2.2.1), (9, z100.2.2.2.2.2.2.2.1), (11, z100.2.2.2.2.2.2.2.2.1)]) (lc := [(3, z107.1), (4, z107.2.1), (5, z107.2.2.1), (6, z107.2.2.2.1), (7, z107.2.2.2.2.1), (8, z107.2.2.2.2.2.1), (9, z107.2.2.2.2.2.2.1), (11, z107.2.2.2.2.2.2.2.1)]) (l' := [(3, z107.1), (4, z107.2.1), (5, z107.2.2.1), (6, z107.2.2.2.1), (7, z107.2.2.2.2.1), (8, z107.2.2.2.2.2.1), (9, z107.2.2.2.2.2.2.1), (11, z107.2.2.2.2.2.2.2.1)]) rfl] at hP
  rw [rf_cat (f := A) (l := [(1, z100.2.2.2.2.2.2.2.2.2), (3, m_fresh)]) (lc := [(1, z107.2.2.2.2.2.2.2.2.1), (3, z107.2.2.2.2.2.2.2.2.2)]) (l' := [(1, z107.2.2.2.2.2.2.2.2.1), (3, z107.2.2.2.2.2.2.2.2.2)]) rfl] at hP
  refine lv_goto (tgt := 235) hx hb dX11_readLine_110 (by decide) ?_
  obtain rfl := Option.some.inj hf
  exact rf_retv hC hP hS rfl dX11_readLine_235
set_option maxHeartbeats 4000000 in
set_option maxRecDepth 100000 in
theorem w_X11_readLine_67 {l : Launch} {p : Program} {e : Env} {s : State} {m : MethodId} {args : Array Value} {below : List Frame} {meth : Method} {c : Code} {A0 : Nat → Prop} {E : rf_E} {a : Nat → Nat} {I : Nat → Int32} {A : Nat → Nat → Int32} {m_size : Int32} {m_tape : Nat → Int32} {z : Int32 × Int32 × Int32 × Int32 × Int32 × Int32 × Int32 × Int32 × (Nat → Int32) × (Nat → Int32)} (hC : rf_C p E s m args meth c cX11_readLine 1 RX11 (none) A0) (hD : va_D A0 (cM E a I A)) (e_m_size : I 2 = m_size) (e_m_tape : A 0 = m_tape) :
    ∀ (s2 : Int32) (m_at : Int32) (m_end : Int32) (m_token : Int32) (m_whole : Int32) (m_nameSize : Int32) (m_fault : Int32) (m_place : Int32) (m_failed : Int32) (m_letters : Nat → Int32) (m_fresh : Nat → Int32), f_X11_readLine_67 m_size m_tape s2 m_at m_end m_token m_whole m_nameSize m_fault m_place m_failed m_letters m_fresh = some z → ∀ (H : Heap) (locs : List Loc) (ls : Array Slot), va_P (rf_D E) vwCl (cM E a (rf_upL I [(3, m_at), (4, m_end), (5, m_token), (6, m_whole), (7, m_nameSize), (8, m_fault), (9, m_place), (11, m_failed)]) (rf_upL A [(1, m_letters), (3, m_fresh)])) H → va_S A0 s.heap H locs → lv_has ls 1 [(0, .ref (a 0))] → W p l e ({ frames := 12, cells := 0, slots := 0, locals := 329 }) s m args below meth c H locs 0 0 (rf_QV below args s E A0 (cM E a (rf_upL I [(3, z.1), (4, z.2.1), (5, z.2.2.1), (6, z.2.2.2.1), (7, z.2.2.2.2.1), (8, z.2.2.2.2.2.1), (9, z.2.2.2.2.2.2.1), (11, z.2.2.2.2.2.2.2.1)]) (rf_upL A [(1, z.2.2.2.2.2.2.2.2.1), (3, z.2.2.2.2.2.2.2.2.2)]))) (F0 m 67 ls [.int s2, .ref (rf_aK E 28), .ref (a 0)]) := by
  have hx := hC.1
  have hb := hC.2.1
  intro s2 m_at m_end m_token m_whole m_nameSize m_fault m_place m_failed m_letters m_fresh hf H locs ls hP hS hl
  unfold f_X11_readLine_67 at hf
  obtain ⟨z67, hz67, hf⟩ := rf_bd hf
  refine rf_vi (q0 := 0) (ci := 11) hC (c_X11_begins l E a (rf_upL I [(3, m_at), (4, m_end), (5, m_token), (6, m_whole), (7, m_nameSize), (8, m_fault), (9, m_place), (11, m_failed)]) (rf_upL A [(1, m_letters), (3, m_fresh)]) m_size m_tape m_fresh m_at m_end m_token m_whole m_nameSize m_fault m_place m_failed m_letters 28 s2 e_m_size e_m_tape rfl rfl rfl rfl rfl rfl rfl rfl rfl rfl (by decide) hz67) kV_X11_begins tw_1470 ⟨Nat.le_of_ble_eq_true rfl, Nat.le_of_ble_eq_true rfl⟩ rfl rfl rfl rfl rfl hP (rf_DM hD) hS rfl hl.1 (rest := []) rfl (Nat.le_of_ble_eq_true rfl) dX11_readLine_67 (fun H locs hP hS => ?_)
  rw [rf_cat (f := I) (l := [(3, m_at), (4, m_end), (5, m_token), (6, m_whole), (7, m_nameSize), (8, m_fault), (9, m_place), (11, m_failed)]) (lc := [(3, z67.2.1), (4, z67.2.2.1), (5, z67.2.2.2.1), (6, z67.2.2.2.2.1), (7, z67.2.2.2.2.2.1), (8, z67.2.2.2.2.2.2.1), (9, z67.2.2.2.2.2.2.2.1), (11, z67.2.2.2.2.2.2.2.2.1)]) (l' := [(3, z67.2.1), (4, z67.2.2.1), (5, z67.2.2.2.1), (6, z67.2.2.2.2.1), (7, z67.2.2.2.2.2.1), (8, z67.2.2.2.2.2.2.1), (9, z67.2.2.2.2.2.2.2.1), (11, z67.2.2.2.2.2.2.2.2.1)]) rfl] at hP
  rw [rf_cat (f := A) (l := [(1, m_letters), (3, m_fresh)]) (lc := [(1, z67.2.2.2.2.2.2.2.2.2)]) (l' := [(1, z67.2.2.2.2.2.2.2.2.2), (3, m_fresh)]) rfl] at hP
  refine lv_if_eq (tgt := 80) hx hb dX11_readLine_70 (by decide) (fun c_70 => ?_) (fun c_70 => ?_)
  · have hf := rf_it c_70 hf
    refine lv_aload_n hx hb dX11_readLine_80 rfl (lv_at hl 0 rfl) ?_
    refine va_ldcS hx hb hC.2.2.2.1 (lk_29 hC.2.2.2.2.2.2.2.1.2.2.2) dX11_readLine_81 ?_
    refine lv_aload_n hx hb dX11_readLine_83 rfl (lv_at hl 0 rfl) ?_
    refine gM_m_fresh hC hP tw_1295 dX11_readLine_84 ?_
    refine lv_bipush (v := 8) hx hb dX11_readLine_87 (by decide) ?_
    refine lM_m_fresh hC hP (by decide) (f := m_fresh) rfl dX11_readLine_89 ?_
    refine lv_bipush (v := 8) hx hb dX11_readLine_90 (by decide) ?_
    refine lv_icmp_ge (tgt := 99) hx hb dX11_readLine_92 (by decide) (fun c_92 => ?_) (fun c_92 => ?_)
    · have hf := rf_it c_92 hf
      refine lv_iconst (v := 0) hx hb dX11_readLine_99 (by decide) ?_
      exact w_X11_readLine_100 hC hD e_m_size e_m_tape 0 z67.2.1 z67.2.2.1 z67.2.2.2.1 z67.2.2.2.2.1 z67.2.2.2.2.2.1 z67.2.2.2.2.2.2.1 z67.2.2.2.2.2.2.2.1 z67.2.2.2.2.2.2.2.2.1 z67.2.2.2.2.2.2.2.2.2 m_fresh hf _ _ _ hP hS (lv_sub hl [0] rfl)
    have hf := rf_ie c_92 hf
    refine lv_iconst (v := 1) hx hb dX11_readLine_95 (by decide) ?_
    refine lv_goto (tgt := 100) hx hb dX11_readLine_96 (by decide) ?_
    exact w_X11_readLine_100 hC hD e_m_size e_m_tape 1 z67.2.1 z67.2.2.1 z67.2.2.2.1 z67.2.2.2.2.1 z67.2.2.2.2.2.1 z67.2.2.2.2.2.2.1 z67.2.2.2.2.2.2.2.1 z67.2.2.2.2.2.2.2.2.1 z67.2.2.2.2.2.2.2.2.2 m_fresh hf _ _ _ hP hS (lv_sub hl [0] rfl)
  have hf := rf_ie c_70 hf
  refine lv_aload_n hx hb dX11_readLine_73 rfl (lv_at hl 0 rfl) ?_
  obtain ⟨z74, hz74, hf⟩ := rf_bd hf
  refine rf_vv (q0 := 0) (ci := 11) hC (c_X11_personLine l E a (rf_upL I [(3, z67.2.1), (4, z67.2.2.1), (5, z67.2.2.2.1), (6, z67.2.2.2.2.1), (7, z67.2.2.2.2.2.1), (8, z67.2.2.2.2.2.2.1), (9, z67.2.2.2.2.2.2.2.1), (11, z67.2.2.2.2.2.2.2.2.1)]) (rf_upL A [(1, z67.2.2.2.2.2.2.2.2.2), (3, m_fresh)]) m_size m_tape z67.2.1 z67.2.2.1 z67.2.2.2.1 z67.2.2.2.2.1 z67.2.2.2.2.2.1 z67.2.2.2.2.2.2.1 z67.2.2.2.2.2.2.2.1 z67.2.2.2.2.2.2.2.2.1 z67.2.2.2.2.2.2.2.2.2 m_fresh e_m_size e_m_tape rfl rfl rfl rfl rfl rfl rfl rfl rfl rfl hz74) kV_X11_personLine tw_1502 ⟨Nat.le_of_ble_eq_true rfl, Nat.le_of_ble_eq_true rfl⟩ rfl rfl rfl rfl rfl hP (rf_DM hD) hS rfl hl.1 (rest := []) rfl (Nat.le_of_ble_eq_true rfl) dX11_readLine_74 (fun H locs hP hS => ?_)
  rw [rf_cat (f := I) (l := [(3, z67.2.1), (4, z67.2.2.1), (5, z67.2.2.2.1), (6, z67.2.2.2.2.1), (7, z67.2.2.2.2.2.1), (8, z67.2.2.2.2.2.2.1), (9, z67.2.2.2.2.2.2.2.1), (11, z67.2.2.2.2.2.2.2.2.1)]) (lc := [(3, z74.1), (4, z74.2.1), (5, z74.2.2.1), (6, z74.2.2.2.1), (7, z74.2.2.2.2.1), (8, z74.2.2.2.2.2.1), (9, z74.2.2.2.2.2.2.1), (11, z74.2.2.2.2.2.2.2.1)]) (l' := [(3, z74.1), (4, z74.2.1), (5, z74.2.2.1), (6, z74.2.2.2.1), (7, z74.2.2.2.2.1), (8, z74.2.2.2.2.2.1), (9, z74.2.2.2.2.2.2.1), (11, z74.2.2.2.2.2.2.2.1)]) rfl] at hP
  rw [rf_cat (f := A) (l := [(1, z67.2.2.2.2.2.2.2.2.2), (3, m_fresh)]) (lc := [(1, z74.2.2.2.2.2.2.2.2.1), (3, z74.2.2.2.2.2.2.2.2.2)]) (l' := [(1, z74.2.2.2.2.2.2.2.2.1), (3, z74.2.2.2.2.2.2.2.2.2)]) rfl] at hP
  refine lv_goto (tgt := 235) hx hb dX11_readLine_77 (by decide) ?_
  obtain rfl := Option.some.inj hf
  exact rf_retv hC hP hS rfl dX11_readLine_235
set_option maxHeartbeats 4000000 in
set_option maxRecDepth 100000 in
theorem w_X11_readLine_35 {l : Launch} {p : Program} {e : Env} {s : State} {m : MethodId} {args : Array Value} {below : List Frame} {meth : Method} {c : Code} {A0 : Nat → Prop} {E : rf_E} {a : Nat → Nat} {I : Nat → Int32} {A : Nat → Nat → Int32} {m_size : Int32} {m_tape : Nat → Int32} {z : Int32 × Int32 × Int32 × Int32 × Int32 × Int32 × Int32 × Int32 × (Nat → Int32) × (Nat → Int32)} (hC : rf_C p E s m args meth c cX11_readLine 1 RX11 (none) A0) (hD : va_D A0 (cM E a I A)) (e_m_size : I 2 = m_size) (e_m_tape : A 0 = m_tape) :
    ∀ (s2 : Int32) (m_at : Int32) (m_end : Int32) (m_token : Int32) (m_whole : Int32) (m_nameSize : Int32) (m_fault : Int32) (m_place : Int32) (m_failed : Int32) (m_letters : Nat → Int32) (m_fresh : Nat → Int32), f_X11_readLine_35 m_size m_tape s2 m_at m_end m_token m_whole m_nameSize m_fault m_place m_failed m_letters m_fresh = some z → ∀ (H : Heap) (locs : List Loc) (ls : Array Slot), va_P (rf_D E) vwCl (cM E a (rf_upL I [(3, m_at), (4, m_end), (5, m_token), (6, m_whole), (7, m_nameSize), (8, m_fault), (9, m_place), (11, m_failed)]) (rf_upL A [(1, m_letters), (3, m_fresh)])) H → va_S A0 s.heap H locs → lv_has ls 1 [(0, .ref (a 0))] → W p l e ({ frames := 12, cells := 0, slots := 0, locals := 329 }) s m args below meth c H locs 0 0 (rf_QV below args s E A0 (cM E a (rf_upL I [(3, z.1), (4, z.2.1), (5, z.2.2.1), (6, z.2.2.2.1), (7, z.2.2.2.2.1), (8, z.2.2.2.2.2.1), (9, z.2.2.2.2.2.2.1), (11, z.2.2.2.2.2.2.2.1)]) (rf_upL A [(1, z.2.2.2.2.2.2.2.2.1), (3, z.2.2.2.2.2.2.2.2.2)]))) (F0 m 35 ls [.int s2, .ref (rf_aK E 27), .ref (a 0)]) := by
  have hx := hC.1
  have hb := hC.2.1
  intro s2 m_at m_end m_token m_whole m_nameSize m_fault m_place m_failed m_letters m_fresh hf H locs ls hP hS hl
  unfold f_X11_readLine_35 at hf
  obtain ⟨z35, hz35, hf⟩ := rf_bd hf
  refine rf_vi (q0 := 0) (ci := 11) hC (c_X11_begins l E a (rf_upL I [(3, m_at), (4, m_end), (5, m_token), (6, m_whole), (7, m_nameSize), (8, m_fault), (9, m_place), (11, m_failed)]) (rf_upL A [(1, m_letters), (3, m_fresh)]) m_size m_tape m_fresh m_at m_end m_token m_whole m_nameSize m_fault m_place m_failed m_letters 27 s2 e_m_size e_m_tape rfl rfl rfl rfl rfl rfl rfl rfl rfl rfl (by decide) hz35) kV_X11_begins tw_1470 ⟨Nat.le_of_ble_eq_true rfl, Nat.le_of_ble_eq_true rfl⟩ rfl rfl rfl rfl rfl hP (rf_DM hD) hS rfl hl.1 (rest := []) rfl (Nat.le_of_ble_eq_true rfl) dX11_readLine_35 (fun H locs hP hS => ?_)
  rw [rf_cat (f := I) (l := [(3, m_at), (4, m_end), (5, m_token), (6, m_whole), (7, m_nameSize), (8, m_fault), (9, m_place), (11, m_failed)]) (lc := [(3, z35.2.1), (4, z35.2.2.1), (5, z35.2.2.2.1), (6, z35.2.2.2.2.1), (7, z35.2.2.2.2.2.1), (8, z35.2.2.2.2.2.2.1), (9, z35.2.2.2.2.2.2.2.1), (11, z35.2.2.2.2.2.2.2.2.1)]) (l' := [(3, z35.2.1), (4, z35.2.2.1), (5, z35.2.2.2.1), (6, z35.2.2.2.2.1), (7, z35.2.2.2.2.2.1), (8, z35.2.2.2.2.2.2.1), (9, z35.2.2.2.2.2.2.2.1), (11, z35.2.2.2.2.2.2.2.2.1)]) rfl] at hP
  rw [rf_cat (f := A) (l := [(1, m_letters), (3, m_fresh)]) (lc := [(1, z35.2.2.2.2.2.2.2.2.2)]) (l' := [(1, z35.2.2.2.2.2.2.2.2.2), (3, m_fresh)]) rfl] at hP
  refine lv_if_eq (tgt := 48) hx hb dX11_readLine_38 (by decide) (fun c_38 => ?_) (fun c_38 => ?_)
  · have hf := rf_it c_38 hf
    refine lv_aload_n hx hb dX11_readLine_48 rfl (lv_at hl 0 rfl) ?_
    refine va_ldcS hx hb hC.2.2.2.1 (lk_28 hC.2.2.2.2.2.2.2.1.2.2.2) dX11_readLine_49 ?_
    refine lv_aload_n hx hb dX11_readLine_51 rfl (lv_at hl 0 rfl) ?_
    refine gM_m_fresh hC hP tw_1295 dX11_readLine_52 ?_
    refine lv_iconst (v := 3) hx hb dX11_readLine_55 (by decide) ?_
    refine lM_m_fresh hC hP (by decide) (f := m_fresh) rfl dX11_readLine_56 ?_
    refine lv_bipush (v := 8) hx hb dX11_readLine_57 (by decide) ?_
    refine lv_icmp_ge (tgt := 66) hx hb dX11_readLine_59 (by decide) (fun c_59 => ?_) (fun c_59 => ?_)
    · have hf := rf_it c_59 hf
      refine lv_iconst (v := 0) hx hb dX11_readLine_66 (by decide) ?_
      exact w_X11_readLine_67 hC hD e_m_size e_m_tape 0 z35.2.1 z35.2.2.1 z35.2.2.2.1 z35.2.2.2.2.1 z35.2.2.2.2.2.1 z35.2.2.2.2.2.2.1 z35.2.2.2.2.2.2.2.1 z35.2.2.2.2.2.2.2.2.1 z35.2.2.2.2.2.2.2.2.2 m_fresh hf _ _ _ hP hS (lv_sub hl [0] rfl)
    have hf := rf_ie c_59 hf
    refine lv_iconst (v := 1) hx hb dX11_readLine_62 (by decide) ?_
    refine lv_goto (tgt := 67) hx hb dX11_readLine_63 (by decide) ?_
    exact w_X11_readLine_67 hC hD e_m_size e_m_tape 1 z35.2.1 z35.2.2.1 z35.2.2.2.1 z35.2.2.2.2.1 z35.2.2.2.2.2.1 z35.2.2.2.2.2.2.1 z35.2.2.2.2.2.2.2.1 z35.2.2.2.2.2.2.2.2.1 z35.2.2.2.2.2.2.2.2.2 m_fresh hf _ _ _ hP hS (lv_sub hl [0] rfl)
  have hf := rf_ie c_38 hf
  refine lv_aload_n hx hb dX11_readLine_41 rfl (lv_at hl 0 rfl) ?_
  obtain ⟨z42, hz42, hf⟩ := rf_bd hf
  refine rf_vv (q0 := 0) (ci := 11) hC (c_X11_wordLine l E a (rf_upL I [(3, z35.2.1), (4, z35.2.2.1), (5, z35.2.2.2.1), (6, z35.2.2.2.2.1), (7, z35.2.2.2.2.2.1), (8, z35.2.2.2.2.2.2.1), (9, z35.2.2.2.2.2.2.2.1), (11, z35.2.2.2.2.2.2.2.2.1)]) (rf_upL A [(1, z35.2.2.2.2.2.2.2.2.2), (3, m_fresh)]) m_size m_tape z35.2.1 z35.2.2.1 z35.2.2.2.1 z35.2.2.2.2.1 z35.2.2.2.2.2.1 z35.2.2.2.2.2.2.1 z35.2.2.2.2.2.2.2.1 z35.2.2.2.2.2.2.2.2.1 z35.2.2.2.2.2.2.2.2.2 m_fresh e_m_size e_m_tape rfl rfl rfl rfl rfl rfl rfl rfl rfl rfl hz42) kV_X11_wordLine tw_1474 ⟨Nat.le_of_ble_eq_true rfl, Nat.le_of_ble_eq_true rfl⟩ rfl rfl rfl rfl rfl hP (rf_DM hD) hS rfl hl.1 (rest := []) rfl (Nat.le_of_ble_eq_true rfl) dX11_readLine_42 (fun H locs hP hS => ?_)
  rw [rf_cat (f := I) (l := [(3, z35.2.1), (4, z35.2.2.1), (5, z35.2.2.2.1), (6, z35.2.2.2.2.1), (7, z35.2.2.2.2.2.1), (8, z35.2.2.2.2.2.2.1), (9, z35.2.2.2.2.2.2.2.1), (11, z35.2.2.2.2.2.2.2.2.1)]) (lc := [(3, z42.1), (4, z42.2.1), (5, z42.2.2.1), (6, z42.2.2.2.1), (7, z42.2.2.2.2.1), (8, z42.2.2.2.2.2.1), (9, z42.2.2.2.2.2.2.1), (11, z42.2.2.2.2.2.2.2.1)]) (l' := [(3, z42.1), (4, z42.2.1), (5, z42.2.2.1), (6, z42.2.2.2.1), (7, z42.2.2.2.2.1), (8, z42.2.2.2.2.2.1), (9, z42.2.2.2.2.2.2.1), (11, z42.2.2.2.2.2.2.2.1)]) rfl] at hP
  rw [rf_cat (f := A) (l := [(1, z35.2.2.2.2.2.2.2.2.2), (3, m_fresh)]) (lc := [(1, z42.2.2.2.2.2.2.2.2.1), (3, z42.2.2.2.2.2.2.2.2.2)]) (l' := [(1, z42.2.2.2.2.2.2.2.2.1), (3, z42.2.2.2.2.2.2.2.2.2)]) rfl] at hP
  refine lv_goto (tgt := 235) hx hb dX11_readLine_45 (by decide) ?_
  obtain rfl := Option.some.inj hf
  exact rf_retv hC hP hS rfl dX11_readLine_235
set_option maxHeartbeats 4000000 in
set_option maxRecDepth 100000 in
theorem c_X11_readLine (l : Launch) (E : rf_E) (a : Nat → Nat) (I : Nat → Int32) (A : Nat → Nat → Int32) (m_size : Int32) (m_tape : Nat → Int32) (m_at : Int32) (m_end : Int32) (m_token : Int32) (m_whole : Int32) (m_nameSize : Int32) (m_fault : Int32) (m_place : Int32) (m_failed : Int32) (m_letters : Nat → Int32) (m_fresh : Nat → Int32) {z : Int32 × Int32 × Int32 × Int32 × Int32 × Int32 × Int32 × Int32 × (Nat → Int32) × (Nat → Int32)} (e_m_size : I 2 = m_size) (e_m_tape : A 0 = m_tape) (e_m_at : I 3 = m_at) (e_m_end : I 4 = m_end) (e_m_token : I 5 = m_token) (e_m_whole : I 6 = m_whole) (e_m_nameSize : I 7 = m_nameSize) (e_m_fault : I 8 = m_fault) (e_m_place : I 9 = m_place) (e_m_failed : I 11 = m_failed) (e_m_letters : A 1 = m_letters) (e_m_fresh : A 3 = m_fresh) (hf : f_X11_readLine m_size m_tape m_at m_end m_token m_whole m_nameSize m_fault m_place m_failed m_letters m_fresh = some z) : rf_MV l yX11_readLine cX11_readLine 1 ({ frames := 12, cells := 0, slots := 0, locals := 329 }) E [.ref (a 0)] (cM E a I A) (cM E a (rf_upL I [(3, z.1), (4, z.2.1), (5, z.2.2.1), (6, z.2.2.2.1), (7, z.2.2.2.2.1), (8, z.2.2.2.2.2.1), (9, z.2.2.2.2.2.2.1), (11, z.2.2.2.2.2.2.2.1)]) (rf_upL A [(1, z.2.2.2.2.2.2.2.2.1), (3, z.2.2.2.2.2.2.2.2.2)])) := by
  unfold f_X11_readLine at hf
  refine rf_ofV (by decide) (Nat.le_of_ble_eq_true rfl) ?_
  intro p e s m below meth c A0 ls hC hD hP hS hl
  have hC : rf_C p E s m _ meth c cX11_readLine 1 RX11 (none) A0 := hC
  have hx := hC.1
  have hb := hC.2.1
  have hl : lv_has ls 1 [(0, .ref (a 0))] := hl
  have hP : va_P (rf_D E) vwCl (cM E a (rf_upL I [(3, m_at), (4, m_end), (5, m_token), (6, m_whole), (7, m_nameSize), (8, m_fault), (9, m_place), (11, m_failed)]) (rf_upL A [(1, m_letters), (3, m_fresh)])) s.heap := by
    rw [rf_self (f := I) [(3, m_at), (4, m_end), (5, m_token), (6, m_whole), (7, m_nameSize), (8, m_fault), (9, m_place), (11, m_failed)] (rf_fa1 e_m_at (rf_fa1 e_m_end (rf_fa1 e_m_token (rf_fa1 e_m_whole (rf_fa1 e_m_nameSize (rf_fa1 e_m_fault (rf_fa1 e_m_place (rf_fa1 e_m_failed rf_fa0))))))))]
    rw [rf_self (f := A) [(1, m_letters), (3, m_fresh)] (rf_fa1 e_m_letters (rf_fa1 e_m_fresh rf_fa0))]
    exact hP
  refine lv_aload_n hx hb dX11_readLine_0 rfl (lv_at hl 0 rfl) ?_
  refine va_ldcS hx hb hC.2.2.2.1 (lk_24 hC.2.2.2.2.2.2.2.1.2.2.2) dX11_readLine_1 ?_
  obtain ⟨z3, hz3, hf⟩ := rf_bd hf
  refine rf_vi (q0 := 0) (ci := 11) hC (c_X11_isWord l E a (rf_upL I [(3, m_at), (4, m_end), (5, m_token), (6, m_whole), (7, m_nameSize), (8, m_fault), (9, m_place), (11, m_failed)]) (rf_upL A [(1, m_letters), (3, m_fresh)]) m_token m_nameSize m_failed m_letters 24 rfl rfl rfl rfl (by decide) hz3) kV_X11_isWord tw_1433 ⟨Nat.le_of_ble_eq_true rfl, Nat.le_of_ble_eq_true rfl⟩ rfl rfl rfl rfl rfl hP (rf_DM hD) hS rfl hl.1 (rest := []) rfl (Nat.le_of_ble_eq_true rfl) dX11_readLine_3 (fun H locs hP hS => ?_)
  refine lv_if_eq (tgt := 16) hx hb dX11_readLine_6 (by decide) (fun c_6 => ?_) (fun c_6 => ?_)
  · have hf := rf_it c_6 hf
    refine lv_aload_n hx hb dX11_readLine_16 rfl (lv_at hl 0 rfl) ?_
    refine va_ldcS hx hb hC.2.2.2.1 (lk_27 hC.2.2.2.2.2.2.2.1.2.2.2) dX11_readLine_17 ?_
    refine lv_aload_n hx hb dX11_readLine_19 rfl (lv_at hl 0 rfl) ?_
    refine gM_m_fresh hC hP tw_1295 dX11_readLine_20 ?_
    refine lv_iconst (v := 2) hx hb dX11_readLine_23 (by decide) ?_
    refine lM_m_fresh hC hP (by decide) (f := m_fresh) rfl dX11_readLine_24 ?_
    refine lv_bipush (v := 10) hx hb dX11_readLine_25 (by decide) ?_
    refine lv_icmp_ge (tgt := 34) hx hb dX11_readLine_27 (by decide) (fun c_27 => ?_) (fun c_27 => ?_)
    · have hf := rf_it c_27 hf
      refine lv_iconst (v := 0) hx hb dX11_readLine_34 (by decide) ?_
      exact w_X11_readLine_35 hC hD e_m_size e_m_tape 0 m_at m_end m_token m_whole m_nameSize m_fault m_place m_failed m_letters m_fresh hf _ _ _ hP hS (lv_sub hl [0] rfl)
    have hf := rf_ie c_27 hf
    refine lv_iconst (v := 1) hx hb dX11_readLine_30 (by decide) ?_
    refine lv_goto (tgt := 35) hx hb dX11_readLine_31 (by decide) ?_
    exact w_X11_readLine_35 hC hD e_m_size e_m_tape 1 m_at m_end m_token m_whole m_nameSize m_fault m_place m_failed m_letters m_fresh hf _ _ _ hP hS (lv_sub hl [0] rfl)
  have hf := rf_ie c_6 hf
  refine lv_aload_n hx hb dX11_readLine_9 rfl (lv_at hl 0 rfl) ?_
  obtain ⟨z10, hz10, hf⟩ := rf_bd hf
  refine rf_vv (q0 := 0) (ci := 11) hC (c_X11_ferryLine l E a (rf_upL I [(3, m_at), (4, m_end), (5, m_token), (6, m_whole), (7, m_nameSize), (8, m_fault), (9, m_place), (11, m_failed)]) (rf_upL A [(1, m_letters), (3, m_fresh)]) m_size m_tape m_at m_end m_token m_whole m_nameSize m_fault m_place m_failed m_letters m_fresh e_m_size e_m_tape rfl rfl rfl rfl rfl rfl rfl rfl rfl rfl hz10) kV_X11_ferryLine tw_1439 ⟨Nat.le_of_ble_eq_true rfl, Nat.le_of_ble_eq_true rfl⟩ rfl rfl rfl rfl rfl hP (rf_DM hD) hS rfl hl.1 (rest := []) rfl (Nat.le_of_ble_eq_true rfl) dX11_readLine_10 (fun H locs hP hS => ?_)
  rw [rf_cat (f := I) (l := [(3, m_at), (4, m_end), (5, m_token), (6, m_whole), (7, m_nameSize), (8, m_fault), (9, m_place), (11, m_failed)]) (lc := [(3, z10.1), (4, z10.2.1), (5, z10.2.2.1), (6, z10.2.2.2.1), (7, z10.2.2.2.2.1), (8, z10.2.2.2.2.2.1), (9, z10.2.2.2.2.2.2.1), (11, z10.2.2.2.2.2.2.2.1)]) (l' := [(3, z10.1), (4, z10.2.1), (5, z10.2.2.1), (6, z10.2.2.2.1), (7, z10.2.2.2.2.1), (8, z10.2.2.2.2.2.1), (9, z10.2.2.2.2.2.2.1), (11, z10.2.2.2.2.2.2.2.1)]) rfl] at hP
  rw [rf_cat (f := A) (l := [(1, m_letters), (3, m_fresh)]) (lc := [(1, z10.2.2.2.2.2.2.2.2.1), (3, z10.2.2.2.2.2.2.2.2.2)]) (l' := [(1, z10.2.2.2.2.2.2.2.2.1), (3, z10.2.2.2.2.2.2.2.2.2)]) rfl] at hP
  refine lv_goto (tgt := 235) hx hb dX11_readLine_13 (by decide) ?_
  obtain rfl := Option.some.inj hf
  exact rf_retv hC hP hS rfl dX11_readLine_235
set_option maxHeartbeats 4000000 in
set_option maxRecDepth 100000 in
theorem w_X11_ferry_223 {l : Launch} {p : Program} {e : Env} {s : State} {m : MethodId} {args : Array Value} {below : List Frame} {meth : Method} {c : Code} {A0 : Nat → Prop} {E : rf_E} {a : Nat → Nat} {I : Nat → Int32} {A : Nat → Nat → Int32} {m_tape : Nat → Int32} {z : Int32 × Int32 × Int32 × Int32 × Int32 × Int32 × Int32 × Int32 × Int32 × Int32 × Int32 × Int32 × Int32 × Int32 × Int32 × Int32 × (Nat → Int32) × (Nat → Int32) × (Nat → Int32) × (Nat → Int32)} (hC : rf_C p E s m args meth c cX11_ferry 3 RX11 (some .int) A0) (hD : va_D A0 (cM E a I A)) (e_m_tape : A 0 = m_tape) :
    ∀ (n : Nat), ∀ (v2 : Int32) (m_thrown : Int32) (m_taped : Int32) (m_size : Int32) (m_at : Int32) (m_end : Int32) (m_token : Int32) (m_whole : Int32) (m_nameSize : Int32) (m_fault : Int32) (m_place : Int32) (m_trouble : Int32) (m_failed : Int32) (m_hasFerry : Int32) (m_undos : Int32) (m_images : Int32) (m_letters : Nat → Int32) (m_r : Nat → Int32) (m_fresh : Nat → Int32) (m_st : Nat → Int32), f_X11_ferry_223 m_tape n v2 m_thrown m_taped m_size m_at m_end m_token m_whole m_nameSize m_fault m_place m_trouble m_failed m_hasFerry m_undos m_images m_letters m_r m_fresh m_st = some z → ∀ (H : Heap) (locs : List Loc) (ls : Array Slot), va_P (rf_D E) vwCl (cM E a (rf_upL I [(0, m_thrown), (1, m_taped), (2, m_size), (3, m_at), (4, m_end), (5, m_token), (6, m_whole), (7, m_nameSize), (8, m_fault), (9, m_place), (10, m_trouble), (11, m_failed), (12, m_hasFerry), (13, m_undos), (14, m_images)]) (rf_upL A [(1, m_letters), (2, m_r), (3, m_fresh), (4, m_st)])) H → va_S A0 s.heap H locs → lv_has ls 3 [(0, .ref (a 0)), (2, .int v2)] → W p l e ({ frames := 13, cells := 0, slots := 0, locals := 349 }) s m args below meth c H locs 0 0 (rf_QI below args s E A0 z.1 (cM E a (rf_upL I [(0, z.2.1), (1, z.2.2.1), (2, z.2.2.2.1), (3, z.2.2.2.2.1), (4, z.2.2.2.2.2.1), (5, z.2.2.2.2.2.2.1), (6, z.2.2.2.2.2.2.2.1), (7, z.2.2.2.2.2.2.2.2.1), (8, z.2.2.2.2.2.2.2.2.2.1), (9, z.2.2.2.2.2.2.2.2.2.2.1), (10, z.2.2.2.2.2.2.2.2.2.2.2.1), (11, z.2.2.2.2.2.2.2.2.2.2.2.2.1), (12, z.2.2.2.2.2.2.2.2.2.2.2.2.2.1), (13, z.2.2.2.2.2.2.2.2.2.2.2.2.2.2.1), (14, z.2.2.2.2.2.2.2.2.2.2.2.2.2.2.2.1)]) (rf_upL A [(1, z.2.2.2.2.2.2.2.2.2.2.2.2.2.2.2.2.1), (2, z.2.2.2.2.2.2.2.2.2.2.2.2.2.2.2.2.2.1), (3, z.2.2.2.2.2.2.2.2.2.2.2.2.2.2.2.2.2.2.1), (4, z.2.2.2.2.2.2.2.2.2.2.2.2.2.2.2.2.2.2.2)]))) (F0 m 223 ls []) := by
  have hx := hC.1
  have hb := hC.2.1
  intro n
  induction n with
  | zero =>
    intro v2 m_thrown m_taped m_size m_at m_end m_token m_whole m_nameSize m_fault m_place m_trouble m_failed m_hasFerry m_undos m_images m_letters m_r m_fresh m_st hf
    have hf : (none : Option (Int32 × Int32 × Int32 × Int32 × Int32 × Int32 × Int32 × Int32 × Int32 × Int32 × Int32 × Int32 × Int32 × Int32 × Int32 × Int32 × (Nat → Int32) × (Nat → Int32) × (Nat → Int32) × (Nat → Int32))) = some z := hf
    cases hf
  | succ n ih =>
    intro v2 m_thrown m_taped m_size m_at m_end m_token m_whole m_nameSize m_fault m_place m_trouble m_failed m_hasFerry m_undos m_images m_letters m_r m_fresh m_st hf H locs ls hP hS hl
    rw [f_X11_ferry_223] at hf
    refine lv_iload_n hx hb dX11_ferry_223 rfl (lv_at hl 1 rfl) ?_
    refine lv_aload_n hx hb dX11_ferry_224 rfl (lv_at hl 0 rfl) ?_
    refine gM_m_r hC hP tw_1294 dX11_ferry_225 ?_
    refine lv_iconst (v := 3) hx hb dX11_ferry_228 (by decide) ?_
    refine lM_m_r hC hP (by decide) (f := m_r) rfl dX11_ferry_229 ?_
    refine lv_icmp_ge (tgt := 280) hx hb dX11_ferry_230 (by decide) (fun c_230 => ?_) (fun c_230 => ?_)
    · have hf := rf_it c_230 hf
      refine lv_aload_n hx hb dX11_ferry_280 rfl (lv_at hl 0 rfl) ?_
      refine lv_iconst (v := 1) hx hb dX11_ferry_281 (by decide) ?_
      refine pM_m_hasFerry hC hD hP hS tw_1293 (by decide) dX11_ferry_282 (rf_upL I [(0, m_thrown), (1, m_taped), (2, m_size), (3, m_at), (4, m_end), (5, m_token), (6, m_whole), (7, m_nameSize), (8, m_fault), (9, m_place), (10, m_trouble), (11, m_failed), (12, 1), (13, m_undos), (14, m_images)]) (rf_put rfl) (fun H locs hP hS => ?_)
      refine lv_aload_n hx hb dX11_ferry_285 rfl (lv_at hl 0 rfl) ?_
      refine lv_iconst (v := 0) hx hb dX11_ferry_286 (by decide) ?_
      refine pM_m_undos hC hD hP hS tw_1299 dX11_ferry_287 (rf_upL I [(0, m_thrown), (1, m_taped), (2, m_size), (3, m_at), (4, m_end), (5, m_token), (6, m_whole), (7, m_nameSize), (8, m_fault), (9, m_place), (10, m_trouble), (11, m_failed), (12, 1), (13, 0), (14, m_images)]) (rf_put rfl) (fun H locs hP hS => ?_)
      refine lv_aload_n hx hb dX11_ferry_290 rfl (lv_at hl 0 rfl) ?_
      refine lv_iconst (v := 0) hx hb dX11_ferry_291 (by decide) ?_
      refine pM_m_images hC hD hP hS tw_1300 dX11_ferry_292 (rf_upL I [(0, m_thrown), (1, m_taped), (2, m_size), (3, m_at), (4, m_end), (5, m_token), (6, m_whole), (7, m_nameSize), (8, m_fault), (9, m_place), (10, m_trouble), (11, m_failed), (12, 1), (13, 0), (14, 0)]) (rf_put rfl) (fun H locs hP hS => ?_)
      refine lv_aload_n hx hb dX11_ferry_295 rfl (lv_at hl 0 rfl) ?_
      refine gM_m_r hC hP tw_1294 dX11_ferry_296 ?_
      refine lv_iconst (v := 3) hx hb dX11_ferry_299 (by decide) ?_
      refine lM_m_r hC hP (by decide) (f := m_r) rfl dX11_ferry_300 ?_
      obtain rfl := Option.some.inj hf
      exact rf_reti hC hP hS rfl rfl dX11_ferry_301
    have hf := rf_ie c_230 hf
    refine lv_aload_n hx hb dX11_ferry_233 rfl (lv_at hl 0 rfl) ?_
    refine gM_m_st hC hP tw_1296 dX11_ferry_234 ?_
    refine lv_iload_n hx hb dX11_ferry_237 rfl (lv_at hl 1 rfl) ?_
    refine lv_aload_n hx hb dX11_ferry_238 rfl (lv_at hl 0 rfl) ?_
    refine gM_m_r hC hP tw_1294 dX11_ferry_239 ?_
    refine lv_bipush (v := 89) hx hb dX11_ferry_242 (by decide) ?_
    refine lv_iconst (v := 4) hx hb dX11_ferry_244 (by decide) ?_
    refine lv_iload_n hx hb dX11_ferry_245 rfl (lv_at hl 1 rfl) ?_
    refine lv_imul hx hb dX11_ferry_246 ?_
    refine lv_iadd hx hb dX11_ferry_247 ?_
    refine lv_iconst (v := 1) hx hb dX11_ferry_248 (by decide) ?_
    refine lv_iadd hx hb dX11_ferry_249 ?_
    obtain ⟨hi_250, hf⟩ := rf_gu hf
    refine lM_m_r hC hP hi_250 (f := m_r) rfl dX11_ferry_250 ?_
    obtain ⟨hi_251, hf⟩ := rf_gu hf
    refine sM_m_st hC hD hP hS hi_251 (f := m_st) rfl dX11_ferry_251 (rf_upL A [(1, m_letters), (2, m_r), (3, m_fresh), (4, upd m_st (Int32.toNatClampNeg v2) (m_r (Int32.toNatClampNeg (((89 : Int32) + ((4 : Int32) * v2)) + 1))))]) (rf_put rfl) (fun H locs hP hS => ?_)
    refine lv_aload_n hx hb dX11_ferry_252 rfl (lv_at hl 0 rfl) ?_
    refine gM_m_st hC hP tw_1296 dX11_ferry_253 ?_
    refine lv_bipush (v := 8) hx hb dX11_ferry_256 (by decide) ?_
    refine lv_iload_n hx hb dX11_ferry_258 rfl (lv_at hl 1 rfl) ?_
    refine lv_iadd hx hb dX11_ferry_259 ?_
    refine lv_aload_n hx hb dX11_ferry_260 rfl (lv_at hl 0 rfl) ?_
    refine gM_m_r hC hP tw_1294 dX11_ferry_261 ?_
    refine lv_bipush (v := 89) hx hb dX11_ferry_264 (by decide) ?_
    refine lv_iconst (v := 4) hx hb dX11_ferry_266 (by decide) ?_
    refine lv_iload_n hx hb dX11_ferry_267 rfl (lv_at hl 1 rfl) ?_
    refine lv_imul hx hb dX11_ferry_268 ?_
    refine lv_iadd hx hb dX11_ferry_269 ?_
    refine lv_iconst (v := 2) hx hb dX11_ferry_270 (by decide) ?_
    refine lv_iadd hx hb dX11_ferry_271 ?_
    obtain ⟨hi_272, hf⟩ := rf_gu hf
    refine lM_m_r hC hP hi_272 (f := m_r) rfl dX11_ferry_272 ?_
    obtain ⟨hi_273, hf⟩ := rf_gu hf
    refine sM_m_st hC hD hP hS hi_273 (f := upd m_st (Int32.toNatClampNeg v2) (m_r (Int32.toNatClampNeg (((89 : Int32) + ((4 : Int32) * v2)) + 1)))) rfl dX11_ferry_273 (rf_upL A [(1, m_letters), (2, m_r), (3, m_fresh), (4, upd (upd m_st (Int32.toNatClampNeg v2) (m_r (Int32.toNatClampNeg (((89 : Int32) + ((4 : Int32) * v2)) + 1)))) (Int32.toNatClampNeg ((8 : Int32) + v2)) (m_r (Int32.toNatClampNeg (((89 : Int32) + ((4 : Int32) * v2)) + 2))))]) (rf_put rfl) (fun H locs hP hS => ?_)
    refine lv_iinc (v := v2 + 1) (lv' := [(2, .int (v2 + 1)), (0, .ref (a 0))]) hx hb dX11_ferry_274 hl (k := 1) rfl rfl (by decide) rfl (fun ls hl => ?_)
    refine lv_goto (tgt := 223) hx hb dX11_ferry_277 (by decide) ?_
    exact ih (v2 + 1) m_thrown m_taped m_size m_at m_end m_token m_whole m_nameSize m_fault m_place m_trouble m_failed m_hasFerry m_undos m_images m_letters m_r m_fresh (upd (upd m_st (Int32.toNatClampNeg v2) (m_r (Int32.toNatClampNeg (((89 : Int32) + ((4 : Int32) * v2)) + 1)))) (Int32.toNatClampNeg ((8 : Int32) + v2)) (m_r (Int32.toNatClampNeg (((89 : Int32) + ((4 : Int32) * v2)) + 2)))) hf _ _ _ hP hS (lv_sub hl [1, 0] rfl)
set_option maxHeartbeats 4000000 in
set_option maxRecDepth 100000 in
theorem w_X11_ferry_202 {l : Launch} {p : Program} {e : Env} {s : State} {m : MethodId} {args : Array Value} {below : List Frame} {meth : Method} {c : Code} {A0 : Nat → Prop} {E : rf_E} {a : Nat → Nat} {I : Nat → Int32} {A : Nat → Nat → Int32} {m_tape : Nat → Int32} {z : Int32 × Int32 × Int32 × Int32 × Int32 × Int32 × Int32 × Int32 × Int32 × Int32 × Int32 × Int32 × Int32 × Int32 × Int32 × Int32 × (Nat → Int32) × (Nat → Int32) × (Nat → Int32) × (Nat → Int32)} (hC : rf_C p E s m args meth c cX11_ferry 3 RX11 (some .int) A0) (hD : va_D A0 (cM E a I A)) (e_m_tape : A 0 = m_tape) :
    ∀ (n : Nat), ∀ (v2 : Int32) (m_thrown : Int32) (m_taped : Int32) (m_size : Int32) (m_at : Int32) (m_end : Int32) (m_token : Int32) (m_whole : Int32) (m_nameSize : Int32) (m_fault : Int32) (m_place : Int32) (m_trouble : Int32) (m_failed : Int32) (m_hasFerry : Int32) (m_undos : Int32) (m_images : Int32) (m_letters : Nat → Int32) (m_r : Nat → Int32) (m_fresh : Nat → Int32) (m_st : Nat → Int32), f_X11_ferry_202 m_tape n v2 m_thrown m_taped m_size m_at m_end m_token m_whole m_nameSize m_fault m_place m_trouble m_failed m_hasFerry m_undos m_images m_letters m_r m_fresh m_st = some z → ∀ (H : Heap) (locs : List Loc) (ls : Array Slot), va_P (rf_D E) vwCl (cM E a (rf_upL I [(0, m_thrown), (1, m_taped), (2, m_size), (3, m_at), (4, m_end), (5, m_token), (6, m_whole), (7, m_nameSize), (8, m_fault), (9, m_place), (10, m_trouble), (11, m_failed), (12, m_hasFerry), (13, m_undos), (14, m_images)]) (rf_upL A [(1, m_letters), (2, m_r), (3, m_fresh), (4, m_st)])) H → va_S A0 s.heap H locs → lv_has ls 3 [(0, .ref (a 0)), (2, .int v2)] → W p l e ({ frames := 13, cells := 0, slots := 0, locals := 349 }) s m args below meth c H locs 0 0 (rf_QI below args s E A0 z.1 (cM E a (rf_upL I [(0, z.2.1), (1, z.2.2.1), (2, z.2.2.2.1), (3, z.2.2.2.2.1), (4, z.2.2.2.2.2.1), (5, z.2.2.2.2.2.2.1), (6, z.2.2.2.2.2.2.2.1), (7, z.2.2.2.2.2.2.2.2.1), (8, z.2.2.2.2.2.2.2.2.2.1), (9, z.2.2.2.2.2.2.2.2.2.2.1), (10, z.2.2.2.2.2.2.2.2.2.2.2.1), (11, z.2.2.2.2.2.2.2.2.2.2.2.2.1), (12, z.2.2.2.2.2.2.2.2.2.2.2.2.2.1), (13, z.2.2.2.2.2.2.2.2.2.2.2.2.2.2.1), (14, z.2.2.2.2.2.2.2.2.2.2.2.2.2.2.2.1)]) (rf_upL A [(1, z.2.2.2.2.2.2.2.2.2.2.2.2.2.2.2.2.1), (2, z.2.2.2.2.2.2.2.2.2.2.2.2.2.2.2.2.2.1), (3, z.2.2.2.2.2.2.2.2.2.2.2.2.2.2.2.2.2.2.1), (4, z.2.2.2.2.2.2.2.2.2.2.2.2.2.2.2.2.2.2.2)]))) (F0 m 202 ls []) := by
  have hx := hC.1
  have hb := hC.2.1
  intro n
  induction n with
  | zero =>
    intro v2 m_thrown m_taped m_size m_at m_end m_token m_whole m_nameSize m_fault m_place m_trouble m_failed m_hasFerry m_undos m_images m_letters m_r m_fresh m_st hf
    have hf : (none : Option (Int32 × Int32 × Int32 × Int32 × Int32 × Int32 × Int32 × Int32 × Int32 × Int32 × Int32 × Int32 × Int32 × Int32 × Int32 × Int32 × (Nat → Int32) × (Nat → Int32) × (Nat → Int32) × (Nat → Int32))) = some z := hf
    cases hf
  | succ n ih =>
    intro v2 m_thrown m_taped m_size m_at m_end m_token m_whole m_nameSize m_fault m_place m_trouble m_failed m_hasFerry m_undos m_images m_letters m_r m_fresh m_st hf H locs ls hP hS hl
    rw [f_X11_ferry_202] at hf
    refine lv_iload_n hx hb dX11_ferry_202 rfl (lv_at hl 1 rfl) ?_
    refine lv_bipush (v := 26) hx hb dX11_ferry_203 (by decide) ?_
    refine lv_icmp_ge (tgt := 221) hx hb dX11_ferry_205 (by decide) (fun c_205 => ?_) (fun c_205 => ?_)
    · have hf := rf_it c_205 hf
      refine lv_iconst (v := 0) hx hb dX11_ferry_221 (by decide) ?_
      refine lv_istore_n (lv' := [(2, .int 0), (0, .ref (a 0))]) hx hb dX11_ferry_222 rfl hl (by decide) rfl (fun ls hl => ?_)
      exact w_X11_ferry_223 hC hD e_m_tape rf_fu 0 m_thrown m_taped m_size m_at m_end m_token m_whole m_nameSize m_fault m_place m_trouble m_failed m_hasFerry m_undos m_images m_letters m_r m_fresh m_st hf _ _ _ hP hS (lv_sub hl [1, 0] rfl)
    have hf := rf_ie c_205 hf
    refine lv_aload_n hx hb dX11_ferry_208 rfl (lv_at hl 0 rfl) ?_
    refine gM_m_st hC hP tw_1296 dX11_ferry_209 ?_
    refine lv_iload_n hx hb dX11_ferry_212 rfl (lv_at hl 1 rfl) ?_
    refine lv_iconst (v := 0) hx hb dX11_ferry_213 (by decide) ?_
    obtain ⟨hi_214, hf⟩ := rf_gu hf
    refine sM_m_st hC hD hP hS hi_214 (f := m_st) rfl dX11_ferry_214 (rf_upL A [(1, m_letters), (2, m_r), (3, m_fresh), (4, upd m_st (Int32.toNatClampNeg v2) 0)]) (rf_put rfl) (fun H locs hP hS => ?_)
    refine lv_iinc (v := v2 + 1) (lv' := [(2, .int (v2 + 1)), (0, .ref (a 0))]) hx hb dX11_ferry_215 hl (k := 1) rfl rfl (by decide) rfl (fun ls hl => ?_)
    refine lv_goto (tgt := 202) hx hb dX11_ferry_218 (by decide) ?_
    exact ih (v2 + 1) m_thrown m_taped m_size m_at m_end m_token m_whole m_nameSize m_fault m_place m_trouble m_failed m_hasFerry m_undos m_images m_letters m_r m_fresh (upd m_st (Int32.toNatClampNeg v2) 0) hf _ _ _ hP hS (lv_sub hl [1, 0] rfl)
set_option maxHeartbeats 4000000 in
set_option maxRecDepth 100000 in
theorem w_X11_ferry_171 {l : Launch} {p : Program} {e : Env} {s : State} {m : MethodId} {args : Array Value} {below : List Frame} {meth : Method} {c : Code} {A0 : Nat → Prop} {E : rf_E} {a : Nat → Nat} {I : Nat → Int32} {A : Nat → Nat → Int32} {m_tape : Nat → Int32} {z : Int32 × Int32 × Int32 × Int32 × Int32 × Int32 × Int32 × Int32 × Int32 × Int32 × Int32 × Int32 × Int32 × Int32 × Int32 × Int32 × (Nat → Int32) × (Nat → Int32) × (Nat → Int32) × (Nat → Int32)} (hC : rf_C p E s m args meth c cX11_ferry 3 RX11 (some .int) A0) (hD : va_D A0 (cM E a I A)) (e_m_tape : A 0 = m_tape) :
    ∀ (m_thrown : Int32) (m_taped : Int32) (m_size : Int32) (m_at : Int32) (m_end : Int32) (m_token : Int32) (m_whole : Int32) (m_nameSize : Int32) (m_fault : Int32) (m_place : Int32) (m_trouble : Int32) (m_failed : Int32) (m_hasFerry : Int32) (m_undos : Int32) (m_images : Int32) (m_letters : Nat → Int32) (m_r : Nat → Int32) (m_fresh : Nat → Int32) (m_st : Nat → Int32), f_X11_ferry_171 m_tape m_thrown m_taped m_size m_at m_end m_token m_whole m_nameSize m_fault m_place m_trouble m_failed m_hasFerry m_undos m_images m_letters m_r m_fresh m_st = some z → ∀ (H : Heap) (locs : List Loc) (ls : Array Slot), va_P (rf_D E) vwCl (cM E a (rf_upL I [(0, m_thrown), (1, m_taped), (2, m_size), (3, m_at), (4, m_end), (5, m_token), (6, m_whole), (7, m_nameSize), (8, m_fault), (9, m_place), (10, m_trouble), (11, m_failed), (12, m_hasFerry), (13, m_undos), (14, m_images)]) (rf_upL A [(1, m_letters), (2, m_r), (3, m_fresh), (4, m_st)])) H → va_S A0 s.heap H locs → lv_has ls 3 [(0, .ref (a 0))] → W p l e ({ frames := 13, cells := 0, slots := 0, locals := 349 }) s m args below meth c H locs 0 0 (rf_QI below args s E A0 z.1 (cM E a (rf_upL I [(0, z.2.1), (1, z.2.2.1), (2, z.2.2.2.1), (3, z.2.2.2.2.1), (4, z.2.2.2.2.2.1), (5, z.2.2.2.2.2.2.1), (6, z.2.2.2.2.2.2.2.1), (7, z.2.2.2.2.2.2.2.2.1), (8, z.2.2.2.2.2.2.2.2.2.1), (9, z.2.2.2.2.2.2.2.2.2.2.1), (10, z.2.2.2.2.2.2.2.2.2.2.2.1), (11, z.2.2.2.2.2.2.2.2.2.2.2.2.1), (12, z.2.2.2.2.2.2.2.2.2.2.2.2.2.1), (13, z.2.2.2.2.2.2.2.2.2.2.2.2.2.2.1), (14, z.2.2.2.2.2.2.2.2.2.2.2.2.2.2.2.1)]) (rf_upL A [(1, z.2.2.2.2.2.2.2.2.2.2.2.2.2.2.2.2.1), (2, z.2.2.2.2.2.2.2.2.2.2.2.2.2.2.2.2.2.1), (3, z.2.2.2.2.2.2.2.2.2.2.2.2.2.2.2.2.2.2.1), (4, z.2.2.2.2.2.2.2.2.2.2.2.2.2.2.2.2.2.2.2)]))) (F0 m 171 ls []) := by
  have hx := hC.1
  have hb := hC.2.1
  intro m_thrown m_taped m_size m_at m_end m_token m_whole m_nameSize m_fault m_place m_trouble m_failed m_hasFerry m_undos m_images m_letters m_r m_fresh m_st hf H locs ls hP hS hl
  unfold f_X11_ferry_171 at hf
  refine lv_aload_n hx hb dX11_ferry_171 rfl (lv_at hl 0 rfl) ?_
  refine gM_m_failed hC hP tw_1292 (v := m_failed) rfl dX11_ferry_172 ?_
  refine lv_if_eq (tgt := 184) hx hb dX11_ferry_175 (by decide) (fun c_175 => ?_) (fun c_175 => ?_)
  · have hf := rf_it c_175 hf
    refine lv_aload_n hx hb dX11_ferry_184 rfl (lv_at hl 0 rfl) ?_
    refine gM_m_fresh hC hP tw_1295 dX11_ferry_185 ?_
    refine lv_iconst (v := 0) hx hb dX11_ferry_188 (by decide) ?_
    refine lv_aload_n hx hb dX11_ferry_189 rfl (lv_at hl 0 rfl) ?_
    refine gM_m_r hC hP tw_1294 dX11_ferry_190 ?_
    refine lv_iconst (v := 0) hx hb dX11_ferry_193 (by decide) ?_
    refine lv_sipush (v := 333) hx hb dX11_ferry_194 (by decide) ?_
    obtain ⟨hi_197, hf⟩ := rf_gu hf
    refine zM_m_fresh_m_r hC hD hP hS hi_197 (f := m_fresh) rfl (g := m_r) rfl tw_1566 hl.1 (Nat.le_of_ble_eq_true rfl) ⟨Nat.le_of_ble_eq_true rfl, Nat.le_of_ble_eq_true rfl⟩ dX11_ferry_197 (rf_upL A [(1, m_letters), (2, va_cpy m_fresh m_r (Int32.toNatClampNeg 0) (Int32.toNatClampNeg 0) (Int32.toNatClampNeg 333)), (3, m_fresh), (4, m_st)]) (rf_put rfl) (fun H locs hP hS => ?_)
    refine lv_iconst (v := 0) hx hb dX11_ferry_200 (by decide) ?_
    refine lv_istore_n (lv' := [(2, .int 0), (0, .ref (a 0))]) hx hb dX11_ferry_201 rfl hl (by decide) rfl (fun ls hl => ?_)
    exact w_X11_ferry_202 hC hD e_m_tape rf_fu 0 m_thrown m_taped m_size m_at m_end m_token m_whole m_nameSize m_fault m_place m_trouble m_failed m_hasFerry m_undos m_images m_letters (va_cpy m_fresh m_r (Int32.toNatClampNeg 0) (Int32.toNatClampNeg 0) (Int32.toNatClampNeg 333)) m_fresh m_st hf _ _ _ hP hS (lv_sub hl [1, 0] rfl)
  have hf := rf_ie c_175 hf
  refine lv_aload_n hx hb dX11_ferry_178 rfl (lv_at hl 0 rfl) ?_
  refine lv_iconst (v := 4) hx hb dX11_ferry_179 (by decide) ?_
  obtain ⟨z180, hz180, hf⟩ := rf_bd hf
  refine rf_vi (q0 := 0) (ci := 11) hC (c_X11_no l E a (rf_upL I [(0, m_thrown), (1, m_taped), (2, m_size), (3, m_at), (4, m_end), (5, m_token), (6, m_whole), (7, m_nameSize), (8, m_fault), (9, m_place), (10, m_trouble), (11, m_failed), (12, m_hasFerry), (13, m_undos), (14, m_images)]) (rf_upL A [(1, m_letters), (2, m_r), (3, m_fresh), (4, m_st)]) m_trouble 4 rfl hz180) kV_X11_no tw_1410 ⟨Nat.le_of_ble_eq_true rfl, Nat.le_of_ble_eq_true rfl⟩ rfl rfl rfl rfl rfl hP (rf_DM hD) hS rfl hl.1 (rest := []) rfl (Nat.le_of_ble_eq_true rfl) dX11_ferry_180 (fun H locs hP hS => ?_)
  rw [rf_cat (f := I) (l := [(0, m_thrown), (1, m_taped), (2, m_size), (3, m_at), (4, m_end), (5, m_token), (6, m_whole), (7, m_nameSize), (8, m_fault), (9, m_place), (10, m_trouble), (11, m_failed), (12, m_hasFerry), (13, m_undos), (14, m_images)]) (lc := [(10, z180.2)]) (l' := [(0, m_thrown), (1, m_taped), (2, m_size), (3, m_at), (4, m_end), (5, m_token), (6, m_whole), (7, m_nameSize), (8, m_fault), (9, m_place), (10, z180.2), (11, m_failed), (12, m_hasFerry), (13, m_undos), (14, m_images)]) rfl] at hP
  obtain rfl := Option.some.inj hf
  exact rf_reti hC hP hS rfl rfl dX11_ferry_183
set_option maxHeartbeats 4000000 in
set_option maxRecDepth 100000 in
theorem w_X11_ferry_161 {l : Launch} {p : Program} {e : Env} {s : State} {m : MethodId} {args : Array Value} {below : List Frame} {meth : Method} {c : Code} {A0 : Nat → Prop} {E : rf_E} {a : Nat → Nat} {I : Nat → Int32} {A : Nat → Nat → Int32} {m_tape : Nat → Int32} {z : Int32 × Int32 × Int32 × Int32 × Int32 × Int32 × Int32 × Int32 × Int32 × Int32 × Int32 × Int32 × Int32 × Int32 × Int32 × Int32 × (Nat → Int32) × (Nat → Int32) × (Nat → Int32) × (Nat → Int32)} (hC : rf_C p E s m args meth c cX11_ferry 3 RX11 (some .int) A0) (hD : va_D A0 (cM E a I A)) (e_m_tape : A 0 = m_tape) :
    ∀ (m_thrown : Int32) (m_taped : Int32) (m_size : Int32) (m_at : Int32) (m_end : Int32) (m_token : Int32) (m_whole : Int32) (m_nameSize : Int32) (m_fault : Int32) (m_place : Int32) (m_trouble : Int32) (m_failed : Int32) (m_hasFerry : Int32) (m_undos : Int32) (m_images : Int32) (m_letters : Nat → Int32) (m_r : Nat → Int32) (m_fresh : Nat → Int32) (m_st : Nat → Int32), f_X11_ferry_161 m_tape m_thrown m_taped m_size m_at m_end m_token m_whole m_nameSize m_fault m_place m_trouble m_failed m_hasFerry m_undos m_images m_letters m_r m_fresh m_st = some z → ∀ (H : Heap) (locs : List Loc) (ls : Array Slot), va_P (rf_D E) vwCl (cM E a (rf_upL I [(0, m_thrown), (1, m_taped), (2, m_size), (3, m_at), (4, m_end), (5, m_token), (6, m_whole), (7, m_nameSize), (8, m_fault), (9, m_place), (10, m_trouble), (11, m_failed), (12, m_hasFerry), (13, m_undos), (14, m_images)]) (rf_upL A [(1, m_letters), (2, m_r), (3, m_fresh), (4, m_st)])) H → va_S A0 s.heap H locs → lv_has ls 3 [(0, .ref (a 0))] → W p l e ({ frames := 13, cells := 0, slots := 0, locals := 349 }) s m args below meth c H locs 0 0 (rf_QI below args s E A0 z.1 (cM E a (rf_upL I [(0, z.2.1), (1, z.2.2.1), (2, z.2.2.2.1), (3, z.2.2.2.2.1), (4, z.2.2.2.2.2.1), (5, z.2.2.2.2.2.2.1), (6, z.2.2.2.2.2.2.2.1), (7, z.2.2.2.2.2.2.2.2.1), (8, z.2.2.2.2.2.2.2.2.2.1), (9, z.2.2.2.2.2.2.2.2.2.2.1), (10, z.2.2.2.2.2.2.2.2.2.2.2.1), (11, z.2.2.2.2.2.2.2.2.2.2.2.2.1), (12, z.2.2.2.2.2.2.2.2.2.2.2.2.2.1), (13, z.2.2.2.2.2.2.2.2.2.2.2.2.2.2.1), (14, z.2.2.2.2.2.2.2.2.2.2.2.2.2.2.2.1)]) (rf_upL A [(1, z.2.2.2.2.2.2.2.2.2.2.2.2.2.2.2.2.1), (2, z.2.2.2.2.2.2.2.2.2.2.2.2.2.2.2.2.2.1), (3, z.2.2.2.2.2.2.2.2.2.2.2.2.2.2.2.2.2.2.1), (4, z.2.2.2.2.2.2.2.2.2.2.2.2.2.2.2.2.2.2.2)]))) (F0 m 161 ls []) := by
  have hx := hC.1
  have hb := hC.2.1
  intro m_thrown m_taped m_size m_at m_end m_token m_whole m_nameSize m_fault m_place m_trouble m_failed m_hasFerry m_undos m_images m_letters m_r m_fresh m_st hf H locs ls hP hS hl
  unfold f_X11_ferry_161 at hf
  refine lv_aload_n hx hb dX11_ferry_161 rfl (lv_at hl 0 rfl) ?_
  refine lv_bipush (v := 6) hx hb dX11_ferry_162 (by decide) ?_
  refine lv_aload_n hx hb dX11_ferry_164 rfl (lv_at hl 0 rfl) ?_
  refine gM_m_at hC hP tw_1283 (v := m_at) rfl dX11_ferry_165 ?_
  obtain ⟨z168, hz168, hf⟩ := rf_bd hf
  refine rf_vv (q0 := 0) (ci := 11) hC (c_X11_wrong l E a (rf_upL I [(0, m_thrown), (1, m_taped), (2, m_size), (3, m_at), (4, m_end), (5, m_token), (6, m_whole), (7, m_nameSize), (8, m_fault), (9, m_place), (10, m_trouble), (11, m_failed), (12, m_hasFerry), (13, m_undos), (14, m_images)]) (rf_upL A [(1, m_letters), (2, m_r), (3, m_fresh), (4, m_st)]) m_fault m_place m_failed 6 m_at rfl rfl rfl hz168) kV_X11_wrong tw_1443 ⟨Nat.le_of_ble_eq_true rfl, Nat.le_of_ble_eq_true rfl⟩ rfl rfl rfl rfl rfl hP (rf_DM hD) hS rfl hl.1 (rest := []) rfl (Nat.le_of_ble_eq_true rfl) dX11_ferry_168 (fun H locs hP hS => ?_)
  rw [rf_cat (f := I) (l := [(0, m_thrown), (1, m_taped), (2, m_size), (3, m_at), (4, m_end), (5, m_token), (6, m_whole), (7, m_nameSize), (8, m_fault), (9, m_place), (10, m_trouble), (11, m_failed), (12, m_hasFerry), (13, m_undos), (14, m_images)]) (lc := [(8, z168.1), (9, z168.2.1), (11, z168.2.2)]) (l' := [(0, m_thrown), (1, m_taped), (2, m_size), (3, m_at), (4, m_end), (5, m_token), (6, m_whole), (7, m_nameSize), (8, z168.1), (9, z168.2.1), (10, m_trouble), (11, z168.2.2), (12, m_hasFerry), (13, m_undos), (14, m_images)]) rfl] at hP
  exact w_X11_ferry_171 hC hD e_m_tape m_thrown m_taped m_size m_at m_end m_token m_whole m_nameSize z168.1 z168.2.1 m_trouble z168.2.2 m_hasFerry m_undos m_images m_letters m_r m_fresh m_st hf _ _ _ hP hS (lv_sub hl [0] rfl)
set_option maxHeartbeats 4000000 in
set_option maxRecDepth 100000 in
theorem w_X11_ferry_127 {l : Launch} {p : Program} {e : Env} {s : State} {m : MethodId} {args : Array Value} {below : List Frame} {meth : Method} {c : Code} {A0 : Nat → Prop} {E : rf_E} {a : Nat → Nat} {I : Nat → Int32} {A : Nat → Nat → Int32} {m_tape : Nat → Int32} {z : Int32 × Int32 × Int32 × Int32 × Int32 × Int32 × Int32 × Int32 × Int32 × Int32 × Int32 × Int32 × Int32 × Int32 × Int32 × Int32 × (Nat → Int32) × (Nat → Int32) × (Nat → Int32) × (Nat → Int32)} (hC : rf_C p E s m args meth c cX11_ferry 3 RX11 (some .int) A0) (hD : va_D A0 (cM E a I A)) (e_m_tape : A 0 = m_tape) :
    ∀ (m_thrown : Int32) (m_taped : Int32) (m_size : Int32) (m_at : Int32) (m_end : Int32) (m_token : Int32) (m_whole : Int32) (m_nameSize : Int32) (m_fault : Int32) (m_place : Int32) (m_trouble : Int32) (m_failed : Int32) (m_hasFerry : Int32) (m_undos : Int32) (m_images : Int32) (m_letters : Nat → Int32) (m_r : Nat → Int32) (m_fresh : Nat → Int32) (m_st : Nat → Int32), f_X11_ferry_127 m_tape m_thrown m_taped m_size m_at m_end m_token m_whole m_nameSize m_fault m_place m_trouble m_failed m_hasFerry m_undos m_images m_letters m_r m_fresh m_st = some z → ∀ (H : Heap) (locs : List Loc) (ls : Array Slot), va_P (rf_D E) vwCl (cM E a (rf_upL I [(0, m_thrown), (1, m_taped), (2, m_size), (3, m_at), (4, m_end), (5, m_token), (6, m_whole), (7, m_nameSize), (8, m_fault), (9, m_place), (10, m_trouble), (11, m_failed), (12, m_hasFerry), (13, m_undos), (14, m_images)]) (rf_upL A [(1, m_letters), (2, m_r), (3, m_fresh), (4, m_st)])) H → va_S A0 s.heap H locs → lv_has ls 3 [(0, .ref (a 0))] → W p l e ({ frames := 13, cells := 0, slots := 0, locals := 349 }) s m args below meth c H locs 0 0 (rf_QI below args s E A0 z.1 (cM E a (rf_upL I [(0, z.2.1), (1, z.2.2.1), (2, z.2.2.2.1), (3, z.2.2.2.2.1), (4, z.2.2.2.2.2.1), (5, z.2.2.2.2.2.2.1), (6, z.2.2.2.2.2.2.2.1), (7, z.2.2.2.2.2.2.2.2.1), (8, z.2.2.2.2.2.2.2.2.2.1), (9, z.2.2.2.2.2.2.2.2.2.2.1), (10, z.2.2.2.2.2.2.2.2.2.2.2.1), (11, z.2.2.2.2.2.2.2.2.2.2.2.2.1), (12, z.2.2.2.2.2.2.2.2.2.2.2.2.2.1), (13, z.2.2.2.2.2.2.2.2.2.2.2.2.2.2.1), (14, z.2.2.2.2.2.2.2.2.2.2.2.2.2.2.2.1)]) (rf_upL A [(1, z.2.2.2.2.2.2.2.2.2.2.2.2.2.2.2.2.1), (2, z.2.2.2.2.2.2.2.2.2.2.2.2.2.2.2.2.2.1), (3, z.2.2.2.2.2.2.2.2.2.2.2.2.2.2.2.2.2.2.1), (4, z.2.2.2.2.2.2.2.2.2.2.2.2.2.2.2.2.2.2.2)]))) (F0 m 127 ls []) := by
  have hx := hC.1
  have hb := hC.2.1
  intro m_thrown m_taped m_size m_at m_end m_token m_whole m_nameSize m_fault m_place m_trouble m_failed m_hasFerry m_undos m_images m_letters m_r m_fresh m_st hf H locs ls hP hS hl
  unfold f_X11_ferry_127 at hf
  refine lv_aload_n hx hb dX11_ferry_127 rfl (lv_at hl 0 rfl) ?_
  refine gM_m_failed hC hP tw_1292 (v := m_failed) rfl dX11_ferry_128 ?_
  refine lv_if_ne (tgt := 171) hx hb dX11_ferry_131 (by decide) (fun c_131 => ?_) (fun c_131 => ?_)
  · have hf := rf_ie c_131 hf
    exact w_X11_ferry_171 hC hD e_m_tape m_thrown m_taped m_size m_at m_end m_token m_whole m_nameSize m_fault m_place m_trouble m_failed m_hasFerry m_undos m_images m_letters m_r m_fresh m_st hf _ _ _ hP hS (lv_sub hl [0] rfl)
  have hf := rf_it c_131 hf
  refine lv_aload_n hx hb dX11_ferry_134 rfl (lv_at hl 0 rfl) ?_
  refine gM_m_fresh hC hP tw_1295 dX11_ferry_135 ?_
  refine lv_iconst (v := 0) hx hb dX11_ferry_138 (by decide) ?_
  refine lM_m_fresh hC hP (by decide) (f := m_fresh) rfl dX11_ferry_139 ?_
  refine lv_if_eq (tgt := 161) hx hb dX11_ferry_140 (by decide) (fun c_140 => ?_) (fun c_140 => ?_)
  · have hf := rf_it c_140 hf
    exact w_X11_ferry_161 hC hD e_m_tape m_thrown m_taped m_size m_at m_end m_token m_whole m_nameSize m_fault m_place m_trouble m_failed m_hasFerry m_undos m_images m_letters m_r m_fresh m_st hf _ _ _ hP hS (lv_sub hl [0] rfl)
  have hf := rf_ie c_140 hf
  refine lv_aload_n hx hb dX11_ferry_143 rfl (lv_at hl 0 rfl) ?_
  refine gM_m_fresh hC hP tw_1295 dX11_ferry_144 ?_
  refine lv_iconst (v := 2) hx hb dX11_ferry_147 (by decide) ?_
  refine lM_m_fresh hC hP (by decide) (f := m_fresh) rfl dX11_ferry_148 ?_
  refine lv_if_eq (tgt := 161) hx hb dX11_ferry_149 (by decide) (fun c_149 => ?_) (fun c_149 => ?_)
  · have hf := rf_it c_149 hf
    exact w_X11_ferry_161 hC hD e_m_tape m_thrown m_taped m_size m_at m_end m_token m_whole m_nameSize m_fault m_place m_trouble m_failed m_hasFerry m_undos m_images m_letters m_r m_fresh m_st hf _ _ _ hP hS (lv_sub hl [0] rfl)
  have hf := rf_ie c_149 hf
  refine lv_aload_n hx hb dX11_ferry_152 rfl (lv_at hl 0 rfl) ?_
  refine gM_m_fresh hC hP tw_1295 dX11_ferry_153 ?_
  refine lv_iconst (v := 3) hx hb dX11_ferry_156 (by decide) ?_
  refine lM_m_fresh hC hP (by decide) (f := m_fresh) rfl dX11_ferry_157 ?_
  refine lv_if_ne (tgt := 171) hx hb dX11_ferry_158 (by decide) (fun c_158 => ?_) (fun c_158 => ?_)
  · have hf := rf_ie c_158 hf
    exact w_X11_ferry_171 hC hD e_m_tape m_thrown m_taped m_size m_at m_end m_token m_whole m_nameSize m_fault m_place m_trouble m_failed m_hasFerry m_undos m_images m_letters m_r m_fresh m_st hf _ _ _ hP hS (lv_sub hl [0] rfl)
  have hf := rf_it c_158 hf
  exact w_X11_ferry_161 hC hD e_m_tape m_thrown m_taped m_size m_at m_end m_token m_whole m_nameSize m_fault m_place m_trouble m_failed m_hasFerry m_undos m_images m_letters m_r m_fresh m_st hf _ _ _ hP hS (lv_sub hl [0] rfl)
set_option maxHeartbeats 4000000 in
set_option maxRecDepth 100000 in
theorem w_X11_ferry_104 {l : Launch} {p : Program} {e : Env} {s : State} {m : MethodId} {args : Array Value} {below : List Frame} {meth : Method} {c : Code} {A0 : Nat → Prop} {E : rf_E} {a : Nat → Nat} {I : Nat → Int32} {A : Nat → Nat → Int32} {m_tape : Nat → Int32} {z : Int32 × Int32 × Int32 × Int32 × Int32 × Int32 × Int32 × Int32 × Int32 × Int32 × Int32 × Int32 × Int32 × Int32 × Int32 × Int32 × (Nat → Int32) × (Nat → Int32) × (Nat → Int32) × (Nat → Int32)} (hC : rf_C p E s m args meth c cX11_ferry 3 RX11 (some .int) A0) (hD : va_D A0 (cM E a I A)) (e_m_tape : A 0 = m_tape) :
    ∀ (m_thrown : Int32) (m_taped : Int32) (m_size : Int32) (m_at : Int32) (m_end : Int32) (m_token : Int32) (m_whole : Int32) (m_nameSize : Int32) (m_fault : Int32) (m_place : Int32) (m_trouble : Int32) (m_failed : Int32) (m_hasFerry : Int32) (m_undos : Int32) (m_images : Int32) (m_letters : Nat → Int32) (m_r : Nat → Int32) (m_fresh : Nat → Int32) (m_st : Nat → Int32), f_X11_ferry_104 m_tape m_thrown m_taped m_size m_at m_end m_token m_whole m_nameSize m_fault m_place m_trouble m_failed m_hasFerry m_undos m_images m_letters m_r m_fresh m_st = some z → ∀ (H : Heap) (locs : List Loc) (ls : Array Slot), va_P (rf_D E) vwCl (cM E a (rf_upL I [(0, m_thrown), (1, m_taped), (2, m_size), (3, m_at), (4, m_end), (5, m_token), (6, m_whole), (7, m_nameSize), (8, m_fault), (9, m_place), (10, m_trouble), (11, m_failed), (12, m_hasFerry), (13, m_undos), (14, m_images)]) (rf_upL A [(1, m_letters), (2, m_r), (3, m_fresh), (4, m_st)])) H → va_S A0 s.heap H locs → lv_has ls 3 [(0, .ref (a 0))] → W p l e ({ frames := 13, cells := 0, slots := 0, locals := 349 }) s m args below meth c H locs 0 0 (rf_QI below args s E A0 z.1 (cM E a (rf_upL I [(0, z.2.1), (1, z.2.2.1), (2, z.2.2.2.1), (3, z.2.2.2.2.1), (4, z.2.2.2.2.2.1), (5, z.2.2.2.2.2.2.1), (6, z.2.2.2.2.2.2.2.1), (7, z.2.2.2.2.2.2.2.2.1), (8, z.2.2.2.2.2.2.2.2.2.1), (9, z.2.2.2.2.2.2.2.2.2.2.1), (10, z.2.2.2.2.2.2.2.2.2.2.2.1), (11, z.2.2.2.2.2.2.2.2.2.2.2.2.1), (12, z.2.2.2.2.2.2.2.2.2.2.2.2.2.1), (13, z.2.2.2.2.2.2.2.2.2.2.2.2.2.2.1), (14, z.2.2.2.2.2.2.2.2.2.2.2.2.2.2.2.1)]) (rf_upL A [(1, z.2.2.2.2.2.2.2.2.2.2.2.2.2.2.2.2.1), (2, z.2.2.2.2.2.2.2.2.2.2.2.2.2.2.2.2.2.1), (3, z.2.2.2.2.2.2.2.2.2.2.2.2.2.2.2.2.2.2.1), (4, z.2.2.2.2.2.2.2.2.2.2.2.2.2.2.2.2.2.2.2)]))) (F0 m 104 ls []) := by
  have hx := hC.1
  have hb := hC.2.1
  intro m_thrown m_taped m_size m_at m_end m_token m_whole m_nameSize m_fault m_place m_trouble m_failed m_hasFerry m_undos m_images m_letters m_r m_fresh m_st hf H locs ls hP hS hl
  unfold f_X11_ferry_104 at hf
  refine lv_aload_n hx hb dX11_ferry_104 rfl (lv_at hl 0 rfl) ?_
  refine gM_m_failed hC hP tw_1292 (v := m_failed) rfl dX11_ferry_105 ?_
  refine lv_if_ne (tgt := 127) hx hb dX11_ferry_108 (by decide) (fun c_108 => ?_) (fun c_108 => ?_)
  · have hf := rf_ie c_108 hf
    exact w_X11_ferry_127 hC hD e_m_tape m_thrown m_taped m_size m_at m_end m_token m_whole m_nameSize m_fault m_place m_trouble m_failed m_hasFerry m_undos m_images m_letters m_r m_fresh m_st hf _ _ _ hP hS (lv_sub hl [0] rfl)
  have hf := rf_it c_108 hf
  refine lv_aload_n hx hb dX11_ferry_111 rfl (lv_at hl 0 rfl) ?_
  refine gM_m_token hC hP tw_1285 (v := m_token) rfl dX11_ferry_112 ?_
  refine lv_if_eq (tgt := 127) hx hb dX11_ferry_115 (by decide) (fun c_115 => ?_) (fun c_115 => ?_)
  · have hf := rf_it c_115 hf
    exact w_X11_ferry_127 hC hD e_m_tape m_thrown m_taped m_size m_at m_end m_token m_whole m_nameSize m_fault m_place m_trouble m_failed m_hasFerry m_undos m_images m_letters m_r m_fresh m_st hf _ _ _ hP hS (lv_sub hl [0] rfl)
  have hf := rf_ie c_115 hf
  refine lv_aload_n hx hb dX11_ferry_118 rfl (lv_at hl 0 rfl) ?_
  refine lv_iconst (v := 1) hx hb dX11_ferry_119 (by decide) ?_
  refine lv_aload_n hx hb dX11_ferry_120 rfl (lv_at hl 0 rfl) ?_
  refine gM_m_at hC hP tw_1283 (v := m_at) rfl dX11_ferry_121 ?_
  obtain ⟨z124, hz124, hf⟩ := rf_bd hf
  refine rf_vv (q0 := 0) (ci := 11) hC (c_X11_wrong l E a (rf_upL I [(0, m_thrown), (1, m_taped), (2, m_size), (3, m_at), (4, m_end), (5, m_token), (6, m_whole), (7, m_nameSize), (8, m_fault), (9, m_place), (10, m_trouble), (11, m_failed), (12, m_hasFerry), (13, m_undos), (14, m_images)]) (rf_upL A [(1, m_letters), (2, m_r), (3, m_fresh), (4, m_st)]) m_fault m_place m_failed 1 m_at rfl rfl rfl hz124) kV_X11_wrong tw_1443 ⟨Nat.le_of_ble_eq_true rfl, Nat.le_of_ble_eq_true rfl⟩ rfl rfl rfl rfl rfl hP (rf_DM hD) hS rfl hl.1 (rest := []) rfl (Nat.le_of_ble_eq_true rfl) dX11_ferry_124 (fun H locs hP hS => ?_)
  rw [rf_cat (f := I) (l := [(0, m_thrown), (1, m_taped), (2, m_size), (3, m_at), (4, m_end), (5, m_token), (6, m_whole), (7, m_nameSize), (8, m_fault), (9, m_place), (10, m_trouble), (11, m_failed), (12, m_hasFerry), (13, m_undos), (14, m_images)]) (lc := [(8, z124.1), (9, z124.2.1), (11, z124.2.2)]) (l' := [(0, m_thrown), (1, m_taped), (2, m_size), (3, m_at), (4, m_end), (5, m_token), (6, m_whole), (7, m_nameSize), (8, z124.1), (9, z124.2.1), (10, m_trouble), (11, z124.2.2), (12, m_hasFerry), (13, m_undos), (14, m_images)]) rfl] at hP
  exact w_X11_ferry_127 hC hD e_m_tape m_thrown m_taped m_size m_at m_end m_token m_whole m_nameSize z124.1 z124.2.1 m_trouble z124.2.2 m_hasFerry m_undos m_images m_letters m_r m_fresh m_st hf _ _ _ hP hS (lv_sub hl [0] rfl)
set_option maxHeartbeats 4000000 in
set_option maxRecDepth 100000 in
theorem w_X11_ferry_77 {l : Launch} {p : Program} {e : Env} {s : State} {m : MethodId} {args : Array Value} {below : List Frame} {meth : Method} {c : Code} {A0 : Nat → Prop} {E : rf_E} {a : Nat → Nat} {I : Nat → Int32} {A : Nat → Nat → Int32} {m_tape : Nat → Int32} {z : Int32 × Int32 × Int32 × Int32 × Int32 × Int32 × Int32 × Int32 × Int32 × Int32 × Int32 × Int32 × Int32 × Int32 × Int32 × Int32 × (Nat → Int32) × (Nat → Int32) × (Nat → Int32) × (Nat → Int32)} (hC : rf_C p E s m args meth c cX11_ferry 3 RX11 (some .int) A0) (hD : va_D A0 (cM E a I A)) (e_m_tape : A 0 = m_tape) :
    ∀ (n : Nat), ∀ (m_thrown : Int32) (m_taped : Int32) (m_size : Int32) (m_at : Int32) (m_end : Int32) (m_token : Int32) (m_whole : Int32) (m_nameSize : Int32) (m_fault : Int32) (m_place : Int32) (m_trouble : Int32) (m_failed : Int32) (m_hasFerry : Int32) (m_undos : Int32) (m_images : Int32) (m_letters : Nat → Int32) (m_r : Nat → Int32) (m_fresh : Nat → Int32) (m_st : Nat → Int32), f_X11_ferry_77 m_tape n m_thrown m_taped m_size m_at m_end m_token m_whole m_nameSize m_fault m_place m_trouble m_failed m_hasFerry m_undos m_images m_letters m_r m_fresh m_st = some z → ∀ (H : Heap) (locs : List Loc) (ls : Array Slot), va_P (rf_D E) vwCl (cM E a (rf_upL I [(0, m_thrown), (1, m_taped), (2, m_size), (3, m_at), (4, m_end), (5, m_token), (6, m_whole), (7, m_nameSize), (8, m_fault), (9, m_place), (10, m_trouble), (11, m_failed), (12, m_hasFerry), (13, m_undos), (14, m_images)]) (rf_upL A [(1, m_letters), (2, m_r), (3, m_fresh), (4, m_st)])) H → va_S A0 s.heap H locs → lv_has ls 3 [(0, .ref (a 0))] → W p l e ({ frames := 13, cells := 0, slots := 0, locals := 349 }) s m args below meth c H locs 0 0 (rf_QI below args s E A0 z.1 (cM E a (rf_upL I [(0, z.2.1), (1, z.2.2.1), (2, z.2.2.2.1), (3, z.2.2.2.2.1), (4, z.2.2.2.2.2.1), (5, z.2.2.2.2.2.2.1), (6, z.2.2.2.2.2.2.2.1), (7, z.2.2.2.2.2.2.2.2.1), (8, z.2.2.2.2.2.2.2.2.2.1), (9, z.2.2.2.2.2.2.2.2.2.2.1), (10, z.2.2.2.2.2.2.2.2.2.2.2.1), (11, z.2.2.2.2.2.2.2.2.2.2.2.2.1), (12, z.2.2.2.2.2.2.2.2.2.2.2.2.2.1), (13, z.2.2.2.2.2.2.2.2.2.2.2.2.2.2.1), (14, z.2.2.2.2.2.2.2.2.2.2.2.2.2.2.2.1)]) (rf_upL A [(1, z.2.2.2.2.2.2.2.2.2.2.2.2.2.2.2.2.1), (2, z.2.2.2.2.2.2.2.2.2.2.2.2.2.2.2.2.2.1), (3, z.2.2.2.2.2.2.2.2.2.2.2.2.2.2.2.2.2.2.1), (4, z.2.2.2.2.2.2.2.2.2.2.2.2.2.2.2.2.2.2.2)]))) (F0 m 77 ls []) := by
  have hx := hC.1
  have hb := hC.2.1
  intro n
  induction n with
  | zero =>
    intro m_thrown m_taped m_size m_at m_end m_token m_whole m_nameSize m_fault m_place m_trouble m_failed m_hasFerry m_undos m_images m_letters m_r m_fresh m_st hf
    have hf : (none : Option (Int32 × Int32 × Int32 × Int32 × Int32 × Int32 × Int32 × Int32 × Int32 × Int32 × Int32 × Int32 × Int32 × Int32 × Int32 × Int32 × (Nat → Int32) × (Nat → Int32) × (Nat → Int32) × (Nat → Int32))) = some z := hf
    cases hf
  | succ n ih =>
    intro m_thrown m_taped m_size m_at m_end m_token m_whole m_nameSize m_fault m_place m_trouble m_failed m_hasFerry m_undos m_images m_letters m_r m_fresh m_st hf H locs ls hP hS hl
    rw [f_X11_ferry_77] at hf
    refine lv_aload_n hx hb dX11_ferry_77 rfl (lv_at hl 0 rfl) ?_
    refine gM_m_failed hC hP tw_1292 (v := m_failed) rfl dX11_ferry_78 ?_
    refine lv_if_ne (tgt := 104) hx hb dX11_ferry_81 (by decide) (fun c_81 => ?_) (fun c_81 => ?_)
    · have hf := rf_ie c_81 hf
      exact w_X11_ferry_104 hC hD e_m_tape m_thrown m_taped m_size m_at m_end m_token m_whole m_nameSize m_fault m_place m_trouble m_failed m_hasFerry m_undos m_images m_letters m_r m_fresh m_st hf _ _ _ hP hS (lv_sub hl [0] rfl)
    have hf := rf_it c_81 hf
    refine lv_aload_n hx hb dX11_ferry_84 rfl (lv_at hl 0 rfl) ?_
    refine gM_m_token hC hP tw_1285 (v := m_token) rfl dX11_ferry_85 ?_
    refine lv_bipush (v := 59) hx hb dX11_ferry_88 (by decide) ?_
    refine lv_icmp_ne (tgt := 104) hx hb dX11_ferry_90 (by decide) (fun c_90 => ?_) (fun c_90 => ?_)
    · have hf := rf_ie c_90 hf
      exact w_X11_ferry_104 hC hD e_m_tape m_thrown m_taped m_size m_at m_end m_token m_whole m_nameSize m_fault m_place m_trouble m_failed m_hasFerry m_undos m_images m_letters m_r m_fresh m_st hf _ _ _ hP hS (lv_sub hl [0] rfl)
    have hf := rf_it c_90 hf
    refine lv_aload_n hx hb dX11_ferry_93 rfl (lv_at hl 0 rfl) ?_
    obtain ⟨z94, hz94, hf⟩ := rf_bd hf
    refine rf_vv (q0 := 0) (ci := 11) hC (c_X11_next l E a (rf_upL I [(0, m_thrown), (1, m_taped), (2, m_size), (3, m_at), (4, m_end), (5, m_token), (6, m_whole), (7, m_nameSize), (8, m_fault), (9, m_place), (10, m_trouble), (11, m_failed), (12, m_hasFerry), (13, m_undos), (14, m_images)]) (rf_upL A [(1, m_letters), (2, m_r), (3, m_fresh), (4, m_st)]) m_size m_tape m_at m_end m_token m_whole m_nameSize m_letters rfl e_m_tape rfl rfl rfl rfl rfl rfl hz94) kV_X11_next tw_1414 ⟨Nat.le_of_ble_eq_true rfl, Nat.le_of_ble_eq_true rfl⟩ rfl rfl rfl rfl rfl hP (rf_DM hD) hS rfl hl.1 (rest := []) rfl (Nat.le_of_ble_eq_true rfl) dX11_ferry_94 (fun H locs hP hS => ?_)
    rw [rf_cat (f := I) (l := [(0, m_thrown), (1, m_taped), (2, m_size), (3, m_at), (4, m_end), (5, m_token), (6, m_whole), (7, m_nameSize), (8, m_fault), (9, m_place), (10, m_trouble), (11, m_failed), (12, m_hasFerry), (13, m_undos), (14, m_images)]) (lc := [(3, z94.1), (4, z94.2.1), (5, z94.2.2.1), (6, z94.2.2.2.1), (7, z94.2.2.2.2.1)]) (l' := [(0, m_thrown), (1, m_taped), (2, m_size), (3, z94.1), (4, z94.2.1), (5, z94.2.2.1), (6, z94.2.2.2.1), (7, z94.2.2.2.2.1), (8, m_fault), (9, m_place), (10, m_trouble), (11, m_failed), (12, m_hasFerry), (13, m_undos), (14, m_images)]) rfl] at hP
    rw [rf_cat (f := A) (l := [(1, m_letters), (2, m_r), (3, m_fresh), (4, m_st)]) (lc := [(1, z94.2.2.2.2.2)]) (l' := [(1, z94.2.2.2.2.2), (2, m_r), (3, m_fresh), (4, m_st)]) rfl] at hP
    refine lv_aload_n hx hb dX11_ferry_97 rfl (lv_at hl 0 rfl) ?_
    obtain ⟨z98, hz98, hf⟩ := rf_bd hf
    refine rf_vv (q0 := 0) (ci := 11) hC (c_X11_readLine l E a (rf_upL I [(0, m_thrown), (1, m_taped), (2, m_size), (3, z94.1), (4, z94.2.1), (5, z94.2.2.1), (6, z94.2.2.2.1), (7, z94.2.2.2.2.1), (8, m_fault), (9, m_place), (10, m_trouble), (11, m_failed), (12, m_hasFerry), (13, m_undos), (14, m_images)]) (rf_upL A [(1, z94.2.2.2.2.2), (2, m_r), (3, m_fresh), (4, m_st)]) m_size m_tape z94.1 z94.2.1 z94.2.2.1 z94.2.2.2.1 z94.2.2.2.2.1 m_fault m_place m_failed z94.2.2.2.2.2 m_fresh rfl e_m_tape rfl rfl rfl rfl rfl rfl rfl rfl rfl rfl hz98) kV_X11_readLine tw_1428 ⟨Nat.le_of_ble_eq_true rfl, Nat.le_of_ble_eq_true rfl⟩ rfl rfl rfl rfl rfl hP (rf_DM hD) hS rfl hl.1 (rest := []) rfl (Nat.le_of_ble_eq_true rfl) dX11_ferry_98 (fun H locs hP hS => ?_)
    rw [rf_cat (f := I) (l := [(0, m_thrown), (1, m_taped), (2, m_size), (3, z94.1), (4, z94.2.1), (5, z94.2.2.1), (6, z94.2.2.2.1), (7, z94.2.2.2.2.1), (8, m_fault), (9, m_place), (10, m_trouble), (11, m_failed), (12, m_hasFerry), (13, m_undos), (14, m_images)]) (lc := [(3, z98.1), (4, z98.2.1), (5, z98.2.2.1), (6, z98.2.2.2.1), (7, z98.2.2.2.2.1), (8, z98.2.2.2.2.2.1), (9, z98.2.2.2.2.2.2.1), (11, z98.2.2.2.2.2.2.2.1)]) (l' := [(0, m_thrown), (1, m_taped), (2, m_size), (3, z98.1), (4, z98.2.1), (5, z98.2.2.1), (6, z98.2.2.2.1), (7, z98.2.2.2.2.1), (8, z98.2.2.2.2.2.1), (9, z98.2.2.2.2.2.2.1), (10, m_trouble), (11, z98.2.2.2.2.2.2.2.1), (12, m_hasFerry), (13, m_undos), (14, m_images)]) rfl] at hP
    rw [rf_cat (f := A) (l := [(1, z94.2.2.2.2.2), (2, m_r), (3, m_fresh), (4, m_st)]) (lc := [(1, z98.2.2.2.2.2.2.2.2.1), (3, z98.2.2.2.2.2.2.2.2.2)]) (l' := [(1, z98.2.2.2.2.2.2.2.2.1), (2, m_r), (3, z98.2.2.2.2.2.2.2.2.2), (4, m_st)]) rfl] at hP
    refine lv_goto (tgt := 77) hx hb dX11_ferry_101 (by decide) ?_
    exact ih m_thrown m_taped m_size z98.1 z98.2.1 z98.2.2.1 z98.2.2.2.1 z98.2.2.2.2.1 z98.2.2.2.2.2.1 z98.2.2.2.2.2.2.1 m_trouble z98.2.2.2.2.2.2.2.1 m_hasFerry m_undos m_images z98.2.2.2.2.2.2.2.2.1 m_r z98.2.2.2.2.2.2.2.2.2 m_st hf _ _ _ hP hS (lv_sub hl [0] rfl)
set_option maxHeartbeats 4000000 in
set_option maxRecDepth 100000 in
theorem w_X11_ferry_39 {l : Launch} {p : Program} {e : Env} {s : State} {m : MethodId} {args : Array Value} {below : List Frame} {meth : Method} {c : Code} {A0 : Nat → Prop} {E : rf_E} {a : Nat → Nat} {I : Nat → Int32} {A : Nat → Nat → Int32} {m_tape : Nat → Int32} {z : Int32 × Int32 × Int32 × Int32 × Int32 × Int32 × Int32 × Int32 × Int32 × Int32 × Int32 × Int32 × Int32 × Int32 × Int32 × Int32 × (Nat → Int32) × (Nat → Int32) × (Nat → Int32) × (Nat → Int32)} (hC : rf_C p E s m args meth c cX11_ferry 3 RX11 (some .int) A0) (hD : va_D A0 (cM E a I A)) (e_m_tape : A 0 = m_tape) :
    ∀ (n : Nat), ∀ (v1 : Int32) (v2 : Int32) (m_thrown : Int32) (m_taped : Int32) (m_size : Int32) (m_at : Int32) (m_end : Int32) (m_token : Int32) (m_whole : Int32) (m_nameSize : Int32) (m_fault : Int32) (m_place : Int32) (m_trouble : Int32) (m_failed : Int32) (m_hasFerry : Int32) (m_undos : Int32) (m_images : Int32) (m_letters : Nat → Int32) (m_r : Nat → Int32) (m_fresh : Nat → Int32) (m_st : Nat → Int32), f_X11_ferry_39 m_tape n v1 v2 m_thrown m_taped m_size m_at m_end m_token m_whole m_nameSize m_fault m_place m_trouble m_failed m_hasFerry m_undos m_images m_letters m_r m_fresh m_st = some z → ∀ (H : Heap) (locs : List Loc) (ls : Array Slot), va_P (rf_D E) vwCl (cM E a (rf_upL I [(0, m_thrown), (1, m_taped), (2, m_size), (3, m_at), (4, m_end), (5, m_token), (6, m_whole), (7, m_nameSize), (8, m_fault), (9, m_place), (10, m_trouble), (11, m_failed), (12, m_hasFerry), (13, m_undos), (14, m_images)]) (rf_upL A [(1, m_letters), (2, m_r), (3, m_fresh), (4, m_st)])) H → va_S A0 s.heap H locs → lv_has ls 3 [(0, .ref (a 0)), (1, .int v1), (2, .int v2)] → W p l e ({ frames := 13, cells := 0, slots := 0, locals := 349 }) s m args below meth c H locs 0 0 (rf_QI below args s E A0 z.1 (cM E a (rf_upL I [(0, z.2.1), (1, z.2.2.1), (2, z.2.2.2.1), (3, z.2.2.2.2.1), (4, z.2.2.2.2.2.1), (5, z.2.2.2.2.2.2.1), (6, z.2.2.2.2.2.2.2.1), (7, z.2.2.2.2.2.2.2.2.1), (8, z.2.2.2.2.2.2.2.2.2.1), (9, z.2.2.2.2.2.2.2.2.2.2.1), (10, z.2.2.2.2.2.2.2.2.2.2.2.1), (11, z.2.2.2.2.2.2.2.2.2.2.2.2.1), (12, z.2.2.2.2.2.2.2.2.2.2.2.2.2.1), (13, z.2.2.2.2.2.2.2.2.2.2.2.2.2.2.1), (14, z.2.2.2.2.2.2.2.2.2.2.2.2.2.2.2.1)]) (rf_upL A [(1, z.2.2.2.2.2.2.2.2.2.2.2.2.2.2.2.2.1), (2, z.2.2.2.2.2.2.2.2.2.2.2.2.2.2.2.2.2.1), (3, z.2.2.2.2.2.2.2.2.2.2.2.2.2.2.2.2.2.2.1), (4, z.2.2.2.2.2.2.2.2.2.2.2.2.2.2.2.2.2.2.2)]))) (F0 m 39 ls []) := by
  have hx := hC.1
  have hb := hC.2.1
  intro n
  induction n with
  | zero =>
    intro v1 v2 m_thrown m_taped m_size m_at m_end m_token m_whole m_nameSize m_fault m_place m_trouble m_failed m_hasFerry m_undos m_images m_letters m_r m_fresh m_st hf
    have hf : (none : Option (Int32 × Int32 × Int32 × Int32 × Int32 × Int32 × Int32 × Int32 × Int32 × Int32 × Int32 × Int32 × Int32 × Int32 × Int32 × Int32 × (Nat → Int32) × (Nat → Int32) × (Nat → Int32) × (Nat → Int32))) = some z := hf
    cases hf
  | succ n ih =>
    intro v1 v2 m_thrown m_taped m_size m_at m_end m_token m_whole m_nameSize m_fault m_place m_trouble m_failed m_hasFerry m_undos m_images m_letters m_r m_fresh m_st hf H locs ls hP hS hl
    rw [f_X11_ferry_39] at hf
    refine lv_iload_n hx hb dX11_ferry_39 rfl (lv_at hl 2 rfl) ?_
    refine lv_sipush (v := 333) hx hb dX11_ferry_40 (by decide) ?_
    refine lv_icmp_ge (tgt := 59) hx hb dX11_ferry_43 (by decide) (fun c_43 => ?_) (fun c_43 => ?_)
    · have hf := rf_it c_43 hf
      refine lv_aload_n hx hb dX11_ferry_59 rfl (lv_at hl 0 rfl) ?_
      refine lv_iload_n hx hb dX11_ferry_60 rfl (lv_at hl 1 rfl) ?_
      refine pM_m_size hC hD hP hS tw_1282 dX11_ferry_61 (rf_upL I [(0, m_thrown), (1, m_taped), (2, v1), (3, m_at), (4, m_end), (5, m_token), (6, m_whole), (7, m_nameSize), (8, m_fault), (9, m_place), (10, m_trouble), (11, m_failed), (12, m_hasFerry), (13, m_undos), (14, m_images)]) (rf_put rfl) (fun H locs hP hS => ?_)
      refine lv_aload_n hx hb dX11_ferry_64 rfl (lv_at hl 0 rfl) ?_
      refine lv_iconst (v := 0) hx hb dX11_ferry_65 (by decide) ?_
      refine pM_m_end hC hD hP hS tw_1284 dX11_ferry_66 (rf_upL I [(0, m_thrown), (1, m_taped), (2, v1), (3, m_at), (4, 0), (5, m_token), (6, m_whole), (7, m_nameSize), (8, m_fault), (9, m_place), (10, m_trouble), (11, m_failed), (12, m_hasFerry), (13, m_undos), (14, m_images)]) (rf_put rfl) (fun H locs hP hS => ?_)
      refine lv_aload_n hx hb dX11_ferry_69 rfl (lv_at hl 0 rfl) ?_
      obtain ⟨z70, hz70, hf⟩ := rf_bd hf
      refine rf_vv (q0 := 0) (ci := 11) hC (c_X11_next l E a (rf_upL I [(0, m_thrown), (1, m_taped), (2, v1), (3, m_at), (4, 0), (5, m_token), (6, m_whole), (7, m_nameSize), (8, m_fault), (9, m_place), (10, m_trouble), (11, m_failed), (12, m_hasFerry), (13, m_undos), (14, m_images)]) (rf_upL A [(1, m_letters), (2, m_r), (3, m_fresh), (4, m_st)]) v1 m_tape m_at 0 m_token m_whole m_nameSize m_letters rfl e_m_tape rfl rfl rfl rfl rfl rfl hz70) kV_X11_next tw_1414 ⟨Nat.le_of_ble_eq_true rfl, Nat.le_of_ble_eq_true rfl⟩ rfl rfl rfl rfl rfl hP (rf_DM hD) hS rfl hl.1 (rest := []) rfl (Nat.le_of_ble_eq_true rfl) dX11_ferry_70 (fun H locs hP hS => ?_)
      rw [rf_cat (f := I) (l := [(0, m_thrown), (1, m_taped), (2, v1), (3, m_at), (4, 0), (5, m_token), (6, m_whole), (7, m_nameSize), (8, m_fault), (9, m_place), (10, m_trouble), (11, m_failed), (12, m_hasFerry), (13, m_undos), (14, m_images)]) (lc := [(3, z70.1), (4, z70.2.1), (5, z70.2.2.1), (6, z70.2.2.2.1), (7, z70.2.2.2.2.1)]) (l' := [(0, m_thrown), (1, m_taped), (2, v1), (3, z70.1), (4, z70.2.1), (5, z70.2.2.1), (6, z70.2.2.2.1), (7, z70.2.2.2.2.1), (8, m_fault), (9, m_place), (10, m_trouble), (11, m_failed), (12, m_hasFerry), (13, m_undos), (14, m_images)]) rfl] at hP
      rw [rf_cat (f := A) (l := [(1, m_letters), (2, m_r), (3, m_fresh), (4, m_st)]) (lc := [(1, z70.2.2.2.2.2)]) (l' := [(1, z70.2.2.2.2.2), (2, m_r), (3, m_fresh), (4, m_st)]) rfl] at hP
      refine lv_aload_n hx hb dX11_ferry_73 rfl (lv_at hl 0 rfl) ?_
      obtain ⟨z74, hz74, hf⟩ := rf_bd hf
      refine rf_vv (q0 := 0) (ci := 11) hC (c_X11_readLine l E a (rf_upL I [(0, m_thrown), (1, m_taped), (2, v1), (3, z70.1), (4, z70.2.1), (5, z70.2.2.1), (6, z70.2.2.2.1), (7, z70.2.2.2.2.1), (8, m_fault), (9, m_place), (10, m_trouble), (11, m_failed), (12, m_hasFerry), (13, m_undos), (14, m_images)]) (rf_upL A [(1, z70.2.2.2.2.2), (2, m_r), (3, m_fresh), (4, m_st)]) v1 m_tape z70.1 z70.2.1 z70.2.2.1 z70.2.2.2.1 z70.2.2.2.2.1 m_fault m_place m_failed z70.2.2.2.2.2 m_fresh rfl e_m_tape rfl rfl rfl rfl rfl rfl rfl rfl rfl rfl hz74) kV_X11_readLine tw_1428 ⟨Nat.le_of_ble_eq_true rfl, Nat.le_of_ble_eq_true rfl⟩ rfl rfl rfl rfl rfl hP (rf_DM hD) hS rfl hl.1 (rest := []) rfl (Nat.le_of_ble_eq_true rfl) dX11_ferry_74 (fun H locs hP hS => ?_)
      rw [rf_cat (f := I) (l := [(0, m_thrown), (1, m_taped), (2, v1), (3, z70.1), (4, z70.2.1), (5, z70.2.2.1), (6, z70.2.2.2.1), (7, z70.2.2.2.2.1), (8, m_fault), (9, m_place), (10, m_trouble), (11, m_failed), (12, m_hasFerry), (13, m_undos), (14, m_images)]) (lc := [(3, z74.1), (4, z74.2.1), (5, z74.2.2.1), (6, z74.2.2.2.1), (7, z74.2.2.2.2.1), (8, z74.2.2.2.2.2.1), (9, z74.2.2.2.2.2.2.1), (11, z74.2.2.2.2.2.2.2.1)]) (l' := [(0, m_thrown), (1, m_taped), (2, v1), (3, z74.1), (4, z74.2.1), (5, z74.2.2.1), (6, z74.2.2.2.1), (7, z74.2.2.2.2.1), (8, z74.2.2.2.2.2.1), (9, z74.2.2.2.2.2.2.1), (10, m_trouble), (11, z74.2.2.2.2.2.2.2.1), (12, m_hasFerry), (13, m_undos), (14, m_images)]) rfl] at hP
      rw [rf_cat (f := A) (l := [(1, z70.2.2.2.2.2), (2, m_r), (3, m_fresh), (4, m_st)]) (lc := [(1, z74.2.2.2.2.2.2.2.2.1), (3, z74.2.2.2.2.2.2.2.2.2)]) (l' := [(1, z74.2.2.2.2.2.2.2.2.1), (2, m_r), (3, z74.2.2.2.2.2.2.2.2.2), (4, m_st)]) rfl] at hP
      exact w_X11_ferry_77 hC hD e_m_tape rf_fu m_thrown m_taped v1 z74.1 z74.2.1 z74.2.2.1 z74.2.2.2.1 z74.2.2.2.2.1 z74.2.2.2.2.2.1 z74.2.2.2.2.2.2.1 m_trouble z74.2.2.2.2.2.2.2.1 m_hasFerry m_undos m_images z74.2.2.2.2.2.2.2.2.1 m_r z74.2.2.2.2.2.2.2.2.2 m_st hf _ _ _ hP hS (lv_sub hl [0] rfl)
    have hf := rf_ie c_43 hf
    refine lv_aload_n hx hb dX11_ferry_46 rfl (lv_at hl 0 rfl) ?_
    refine gM_m_fresh hC hP tw_1295 dX11_ferry_47 ?_
    refine lv_iload_n hx hb dX11_ferry_50 rfl (lv_at hl 2 rfl) ?_
    refine lv_iconst (v := 0) hx hb dX11_ferry_51 (by decide) ?_
    obtain ⟨hi_52, hf⟩ := rf_gu hf
    refine sM_m_fresh hC hD hP hS hi_52 (f := m_fresh) rfl dX11_ferry_52 (rf_upL A [(1, m_letters), (2, m_r), (3, upd m_fresh (Int32.toNatClampNeg v2) 0), (4, m_st)]) (rf_put rfl) (fun H locs hP hS => ?_)
    refine lv_iinc (v := v2 + 1) (lv' := [(2, .int (v2 + 1)), (0, .ref (a 0)), (1, .int v1)]) hx hb dX11_ferry_53 hl (k := 2) rfl rfl (by decide) rfl (fun ls hl => ?_)
    refine lv_goto (tgt := 39) hx hb dX11_ferry_56 (by decide) ?_
    exact ih v1 (v2 + 1) m_thrown m_taped m_size m_at m_end m_token m_whole m_nameSize m_fault m_place m_trouble m_failed m_hasFerry m_undos m_images m_letters m_r (upd m_fresh (Int32.toNatClampNeg v2) 0) m_st hf _ _ _ hP hS (lv_sub hl [1, 2, 0] rfl)
set_option maxHeartbeats 4000000 in
set_option maxRecDepth 100000 in
theorem c_X11_ferry (l : Launch) (E : rf_E) (a : Nat → Nat) (I : Nat → Int32) (A : Nat → Nat → Int32) (m_tape : Nat → Int32) (m_thrown : Int32) (m_taped : Int32) (m_size : Int32) (m_at : Int32) (m_end : Int32) (m_token : Int32) (m_whole : Int32) (m_nameSize : Int32) (m_fault : Int32) (m_place : Int32) (m_trouble : Int32) (m_failed : Int32) (m_hasFerry : Int32) (m_undos : Int32) (m_images : Int32) (m_letters : Nat → Int32) (m_r : Nat → Int32) (m_fresh : Nat → Int32) (m_st : Nat → Int32) (v1 : Int32) {z : Int32 × Int32 × Int32 × Int32 × Int32 × Int32 × Int32 × Int32 × Int32 × Int32 × Int32 × Int32 × Int32 × Int32 × Int32 × Int32 × (Nat → Int32) × (Nat → Int32) × (Nat → Int32) × (Nat → Int32)} (e_m_tape : A 0 = m_tape) (e_m_thrown : I 0 = m_thrown) (e_m_taped : I 1 = m_taped) (e_m_size : I 2 = m_size) (e_m_at : I 3 = m_at) (e_m_end : I 4 = m_end) (e_m_token : I 5 = m_token) (e_m_whole : I 6 = m_whole) (e_m_nameSize : I 7 = m_nameSize) (e_m_fault : I 8 = m_fault) (e_m_place : I 9 = m_place) (e_m_trouble : I 10 = m_trouble) (e_m_failed : I 11 = m_failed) (e_m_hasFerry : I 12 = m_hasFerry) (e_m_undos : I 13 = m_undos) (e_m_images : I 14 = m_images) (e_m_letters : A 1 = m_letters) (e_m_r : A 2 = m_r) (e_m_fresh : A 3 = m_fresh) (e_m_st : A 4 = m_st) (hf : f_X11_ferry m_tape m_thrown m_taped m_size m_at m_end m_token m_whole m_nameSize m_fault m_place m_trouble m_failed m_hasFerry m_undos m_images m_letters m_r m_fresh m_st v1 = some z) : rf_MI l yX11_ferry cX11_ferry 3 (some .int) ({ frames := 13, cells := 0, slots := 0, locals := 349 }) E [.ref (a 0), .int v1] (cM E a I A) z.1 (cM E a (rf_upL I [(0, z.2.1), (1, z.2.2.1), (2, z.2.2.2.1), (3, z.2.2.2.2.1), (4, z.2.2.2.2.2.1), (5, z.2.2.2.2.2.2.1), (6, z.2.2.2.2.2.2.2.1), (7, z.2.2.2.2.2.2.2.2.1), (8, z.2.2.2.2.2.2.2.2.2.1), (9, z.2.2.2.2.2.2.2.2.2.2.1), (10, z.2.2.2.2.2.2.2.2.2.2.2.1), (11, z.2.2.2.2.2.2.2.2.2.2.2.2.1), (12, z.2.2.2.2.2.2.2.2.2.2.2.2.2.1), (13, z.2.2.2.2.2.2.2.2.2.2.2.2.2.2.1), (14, z.2.2.2.2.2.2.2.2.2.2.2.2.2.2.2.1)]) (rf_upL A [(1, z.2.2.2.2.2.2.2.2.2.2.2.2.2.2.2.2.1), (2, z.2.2.2.2.2.2.2.2.2.2.2.2.2.2.2.2.2.1), (3, z.2.2.2.2.2.2.2.2.2.2.2.2.2.2.2.2.2.2.1), (4, z.2.2.2.2.2.2.2.2.2.2.2.2.2.2.2.2.2.2.2)])) := by
  unfold f_X11_ferry at hf
  refine rf_ofI (by decide) (Nat.le_of_ble_eq_true rfl) ?_
  intro p e s m below meth c A0 ls hC hD hP hS hl
  have hC : rf_C p E s m _ meth c cX11_ferry 3 RX11 (some .int) A0 := hC
  have hx := hC.1
  have hb := hC.2.1
  have hl : lv_has ls 3 [(0, .ref (a 0)), (1, .int v1)] := hl
  have hP : va_P (rf_D E) vwCl (cM E a (rf_upL I [(0, m_thrown), (1, m_taped), (2, m_size), (3, m_at), (4, m_end), (5, m_token), (6, m_whole), (7, m_nameSize), (8, m_fault), (9, m_place), (10, m_trouble), (11, m_failed), (12, m_hasFerry), (13, m_undos), (14, m_images)]) (rf_upL A [(1, m_letters), (2, m_r), (3, m_fresh), (4, m_st)])) s.heap := by
    rw [rf_self (f := I) [(0, m_thrown), (1, m_taped), (2, m_size), (3, m_at), (4, m_end), (5, m_token), (6, m_whole), (7, m_nameSize), (8, m_fault), (9, m_place), (10, m_trouble), (11, m_failed), (12, m_hasFerry), (13, m_undos), (14, m_images)] (rf_fa1 e_m_thrown (rf_fa1 e_m_taped (rf_fa1 e_m_size (rf_fa1 e_m_at (rf_fa1 e_m_end (rf_fa1 e_m_token (rf_fa1 e_m_whole (rf_fa1 e_m_nameSize (rf_fa1 e_m_fault (rf_fa1 e_m_place (rf_fa1 e_m_trouble (rf_fa1 e_m_failed (rf_fa1 e_m_hasFerry (rf_fa1 e_m_undos (rf_fa1 e_m_images rf_fa0)))))))))))))))]
    rw [rf_self (f := A) [(1, m_letters), (2, m_r), (3, m_fresh), (4, m_st)] (rf_fa1 e_m_letters (rf_fa1 e_m_r (rf_fa1 e_m_fresh (rf_fa1 e_m_st rf_fa0))))]
    exact hP
  refine lv_aload_n hx hb dX11_ferry_0 rfl (lv_at hl 0 rfl) ?_
  obtain ⟨z1, hz1, hf⟩ := rf_bd hf
  refine rf_vv (q0 := 0) (ci := 11) hC (c_X11_good l E a (rf_upL I [(0, m_thrown), (1, m_taped), (2, m_size), (3, m_at), (4, m_end), (5, m_token), (6, m_whole), (7, m_nameSize), (8, m_fault), (9, m_place), (10, m_trouble), (11, m_failed), (12, m_hasFerry), (13, m_undos), (14, m_images)]) (rf_upL A [(1, m_letters), (2, m_r), (3, m_fresh), (4, m_st)]) m_thrown m_trouble rfl rfl hz1) kV_X11_good tw_1403 ⟨Nat.le_of_ble_eq_true rfl, Nat.le_of_ble_eq_true rfl⟩ rfl rfl rfl rfl rfl hP (rf_DM hD) hS rfl hl.1 (rest := []) rfl (Nat.le_of_ble_eq_true rfl) dX11_ferry_1 (fun H locs hP hS => ?_)
  rw [rf_cat (f := I) (l := [(0, m_thrown), (1, m_taped), (2, m_size), (3, m_at), (4, m_end), (5, m_token), (6, m_whole), (7, m_nameSize), (8, m_fault), (9, m_place), (10, m_trouble), (11, m_failed), (12, m_hasFerry), (13, m_undos), (14, m_images)]) (lc := [(0, z1.1), (10, z1.2)]) (l' := [(0, z1.1), (1, m_taped), (2, m_size), (3, m_at), (4, m_end), (5, m_token), (6, m_whole), (7, m_nameSize), (8, m_fault), (9, m_place), (10, z1.2), (11, m_failed), (12, m_hasFerry), (13, m_undos), (14, m_images)]) rfl] at hP
  refine lv_iload_n hx hb dX11_ferry_4 rfl (lv_at hl 1 rfl) ?_
  refine lv_iconst (v := 0) hx hb dX11_ferry_5 (by decide) ?_
  refine lv_aload_n hx hb dX11_ferry_6 rfl (lv_at hl 0 rfl) ?_
  refine gM_m_taped hC hP tw_1281 (v := m_taped) rfl dX11_ferry_7 ?_
  obtain ⟨z10, hz10, hf⟩ := rf_bd hf
  refine rf_si0 hC (c_X11_in l E v1 0 m_taped hz10) kS_X11_in tw_1407 ⟨Nat.le_of_ble_eq_true rfl, Nat.le_of_ble_eq_true rfl⟩ rfl rfl hP hS rfl hl.1 (rest := []) rfl (Nat.le_of_ble_eq_true rfl) dX11_ferry_10 (fun H locs hP hS => ?_)
  refine lv_if_ne (tgt := 22) hx hb dX11_ferry_13 (by decide) (fun c_13 => ?_) (fun c_13 => ?_)
  · have hf := rf_ie c_13 hf
    refine lv_aload_n hx hb dX11_ferry_22 rfl (lv_at hl 0 rfl) ?_
    refine lv_iconst (v := 0) hx hb dX11_ferry_23 (by decide) ?_
    refine pM_m_taped hC hD hP hS tw_1281 dX11_ferry_24 (rf_upL I [(0, z1.1), (1, 0), (2, m_size), (3, m_at), (4, m_end), (5, m_token), (6, m_whole), (7, m_nameSize), (8, m_fault), (9, m_place), (10, z1.2), (11, m_failed), (12, m_hasFerry), (13, m_undos), (14, m_images)]) (rf_put rfl) (fun H locs hP hS => ?_)
    refine lv_aload_n hx hb dX11_ferry_27 rfl (lv_at hl 0 rfl) ?_
    refine lv_iconst (v := 0) hx hb dX11_ferry_28 (by decide) ?_
    refine pM_m_fault hC hD hP hS tw_1288 dX11_ferry_29 (rf_upL I [(0, z1.1), (1, 0), (2, m_size), (3, m_at), (4, m_end), (5, m_token), (6, m_whole), (7, m_nameSize), (8, 0), (9, m_place), (10, z1.2), (11, m_failed), (12, m_hasFerry), (13, m_undos), (14, m_images)]) (rf_put rfl) (fun H locs hP hS => ?_)
    refine lv_aload_n hx hb dX11_ferry_32 rfl (lv_at hl 0 rfl) ?_
    refine lv_iconst (v := 0) hx hb dX11_ferry_33 (by decide) ?_
    refine pM_m_failed hC hD hP hS tw_1292 (by decide) dX11_ferry_34 (rf_upL I [(0, z1.1), (1, 0), (2, m_size), (3, m_at), (4, m_end), (5, m_token), (6, m_whole), (7, m_nameSize), (8, 0), (9, m_place), (10, z1.2), (11, 0), (12, m_hasFerry), (13, m_undos), (14, m_images)]) (rf_put rfl) (fun H locs hP hS => ?_)
    refine lv_iconst (v := 0) hx hb dX11_ferry_37 (by decide) ?_
    refine lv_istore_n (lv' := [(2, .int 0), (0, .ref (a 0)), (1, .int v1)]) hx hb dX11_ferry_38 rfl hl (by decide) rfl (fun ls hl => ?_)
    exact w_X11_ferry_39 hC hD e_m_tape rf_fu v1 0 z1.1 0 m_size m_at m_end m_token m_whole m_nameSize 0 m_place z1.2 0 m_hasFerry m_undos m_images m_letters m_r m_fresh m_st hf _ _ _ hP hS (lv_sub hl [1, 2, 0] rfl)
  have hf := rf_it c_13 hf
  refine lv_aload_n hx hb dX11_ferry_16 rfl (lv_at hl 0 rfl) ?_
  refine lv_iconst (v := 2) hx hb dX11_ferry_17 (by decide) ?_
  obtain ⟨z18, hz18, hf⟩ := rf_bd hf
  refine rf_vi (q0 := 0) (ci := 11) hC (c_X11_no l E a (rf_upL I [(0, z1.1), (1, m_taped), (2, m_size), (3, m_at), (4, m_end), (5, m_token), (6, m_whole), (7, m_nameSize), (8, m_fault), (9, m_place), (10, z1.2), (11, m_failed), (12, m_hasFerry), (13, m_undos), (14, m_images)]) (rf_upL A [(1, m_letters), (2, m_r), (3, m_fresh), (4, m_st)]) z1.2 2 rfl hz18) kV_X11_no tw_1410 ⟨Nat.le_of_ble_eq_true rfl, Nat.le_of_ble_eq_true rfl⟩ rfl rfl rfl rfl rfl hP (rf_DM hD) hS rfl hl.1 (rest := []) rfl (Nat.le_of_ble_eq_true rfl) dX11_ferry_18 (fun H locs hP hS => ?_)
  rw [rf_cat (f := I) (l := [(0, z1.1), (1, m_taped), (2, m_size), (3, m_at), (4, m_end), (5, m_token), (6, m_whole), (7, m_nameSize), (8, m_fault), (9, m_place), (10, z1.2), (11, m_failed), (12, m_hasFerry), (13, m_undos), (14, m_images)]) (lc := [(10, z18.2)]) (l' := [(0, z1.1), (1, m_taped), (2, m_size), (3, m_at), (4, m_end), (5, m_token), (6, m_whole), (7, m_nameSize), (8, m_fault), (9, m_place), (10, z18.2), (11, m_failed), (12, m_hasFerry), (13, m_undos), (14, m_images)]) rfl] at hP
  obtain rfl := Option.some.inj hf
  exact rf_reti hC hP hS rfl rfl dX11_ferry_21
