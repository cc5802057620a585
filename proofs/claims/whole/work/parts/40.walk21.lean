set_option maxHeartbeats 4000000 in
set_option maxRecDepth 100000 in
theorem c_X11_fault (l : Launch) (E : rf_E) (a : Nat → Nat) (I : Nat → Int32) (A : Nat → Nat → Int32) (m_fault : Int32) (m_thrown : Int32) {z : Int32 × Int32} (e_m_fault : I 8 = m_fault) (e_m_thrown : I 0 = m_thrown) (hf : f_X11_fault m_fault m_thrown = some z) : rf_MI l yX11_fault cX11_fault 1 (some .int) ({ frames := 0, cells := 0, slots := 0, locals := 0 }) E [.ref (a 0)] (cM E a I A) z.1 (cM E a (rf_upL I [(0, z.2)]) A) := by
  unfold f_X11_fault at hf
  refine rf_ofI (by decide) (Nat.le_of_ble_eq_true rfl) ?_
  intro p e s m below meth c A0 ls hC hD hP hS hl
  have hC : rf_C p E s m _ meth c cX11_fault 1 RX11 (some .int) A0 := hC
  have hx := hC.1
  have hb := hC.2.1
  have hl : lv_has ls 1 [(0, .ref (a 0))] := hl
  have hP : va_P (rf_D E) vwCl (cM E a (rf_upL I [(0, m_thrown)]) A) s.heap := by
    rw [rf_self (f := I) [(0, m_thrown)] (rf_fa1 e_m_thrown rf_fa0)]
    exact hP
  refine lv_aload_n hx hb dX11_fault_0 rfl (lv_at hl 0 rfl) ?_
  refine lv_iconst (v := 0) hx hb dX11_fault_1 (by decide) ?_
  refine pM_m_thrown hC hD hP hS tw_1279 dX11_fault_2 (rf_upL I [(0, 0)]) (rf_put rfl) (fun H locs hP hS => ?_)
  refine lv_aload_n hx hb dX11_fault_5 rfl (lv_at hl 0 rfl) ?_
  refine gM_m_fault hC hP tw_1288 (v := m_fault) e_m_fault dX11_fault_6 ?_
  obtain rfl := Option.some.inj hf
  exact rf_reti hC hP hS rfl rfl dX11_fault_9
set_option maxHeartbeats 4000000 in
set_option maxRecDepth 100000 in
theorem c_X11_where (l : Launch) (E : rf_E) (a : Nat → Nat) (I : Nat → Int32) (A : Nat → Nat → Int32) (m_place : Int32) (m_trouble : Int32) (m_thrown : Int32) {z : Int32 × Int32} (e_m_place : I 9 = m_place) (e_m_trouble : I 10 = m_trouble) (e_m_thrown : I 0 = m_thrown) (hf : f_X11_where m_place m_trouble m_thrown = some z) : rf_MI l yX11_where cX11_where 1 (some .int) ({ frames := 0, cells := 0, slots := 0, locals := 0 }) E [.ref (a 0)] (cM E a I A) z.1 (cM E a (rf_upL I [(0, z.2)]) A) := by
  unfold f_X11_where at hf
  refine rf_ofI (by decide) (Nat.le_of_ble_eq_true rfl) ?_
  intro p e s m below meth c A0 ls hC hD hP hS hl
  have hC : rf_C p E s m _ meth c cX11_where 1 RX11 (some .int) A0 := hC
  have hx := hC.1
  have hb := hC.2.1
  have hl : lv_has ls 1 [(0, .ref (a 0))] := hl
  have hP : va_P (rf_D E) vwCl (cM E a (rf_upL I [(0, m_thrown)]) A) s.heap := by
    rw [rf_self (f := I) [(0, m_thrown)] (rf_fa1 e_m_thrown rf_fa0)]
    exact hP
  refine lv_aload_n hx hb dX11_where_0 rfl (lv_at hl 0 rfl) ?_
  refine lv_iconst (v := 0) hx hb dX11_where_1 (by decide) ?_
  refine pM_m_thrown hC hD hP hS tw_1279 dX11_where_2 (rf_upL I [(0, 0)]) (rf_put rfl) (fun H locs hP hS => ?_)
  refine lv_aload_n hx hb dX11_where_5 rfl (lv_at hl 0 rfl) ?_
  refine gM_m_trouble hC hP tw_1290 (v := m_trouble) e_m_trouble dX11_where_6 ?_
  refine lv_iconst (v := 4) hx hb dX11_where_9 (by decide) ?_
  refine lv_icmp_ne (tgt := 20) hx hb dX11_where_10 (by decide) (fun c_10 => ?_) (fun c_10 => ?_)
  · have hf := rf_ie c_10 hf
    refine lv_iconst (v := (-1)) hx hb dX11_where_20 (by decide) ?_
    obtain rfl := Option.some.inj hf
    exact rf_reti hC hP hS rfl rfl dX11_where_21
  have hf := rf_it c_10 hf
  refine lv_aload_n hx hb dX11_where_13 rfl (lv_at hl 0 rfl) ?_
  refine gM_m_place hC hP tw_1289 (v := m_place) e_m_place dX11_where_14 ?_
  refine lv_goto (tgt := 21) hx hb dX11_where_17 (by decide) ?_
  obtain rfl := Option.some.inj hf
  exact rf_reti hC hP hS rfl rfl dX11_where_21
set_option maxHeartbeats 4000000 in
set_option maxRecDepth 100000 in
theorem w_X11_isWordThere_27 {l : Launch} {p : Program} {e : Env} {s : State} {m : MethodId} {args : Array Value} {below : List Frame} {meth : Method} {c : Code} {A0 : Nat → Prop} {E : rf_E} {a : Nat → Nat} {I : Nat → Int32} {A : Nat → Nat → Int32} {m_hasFerry : Int32} {m_r : Nat → Int32} {z : Int32} (hC : rf_C p E s m args meth c cX11_isWordThere 2 RX11 (some .boolean) A0) (hD : va_D A0 (cM E a I A)) (e_m_hasFerry : I 12 = m_hasFerry) (e_m_r : A 2 = m_r) :
    ∀ (_ : Unit), f_X11_isWordThere_27 m_hasFerry m_r = some z → ∀ (H : Heap) (locs : List Loc) (ls : Array Slot), va_P (rf_D E) vwCl (cM E a I A) H → va_S A0 s.heap H locs → lv_has ls 2 [] → W p l e ({ frames := 1, cells := 0, slots := 0, locals := 22 }) s m args below meth c H locs 0 0 (rf_QI below args s E A0 z (cM E a I A)) (F0 m 27 ls []) := by
  have hx := hC.1
  have hb := hC.2.1
  intro _ hf H locs ls hP hS hl
  unfold f_X11_isWordThere_27 at hf
  refine lv_iconst (v := 0) hx hb dX11_isWordThere_27 (by decide) ?_
  obtain rfl := Option.some.inj hf
  exact rf_retz hC hP hS (by decide) rfl rfl dX11_isWordThere_28
set_option maxHeartbeats 4000000 in
set_option maxRecDepth 100000 in
theorem c_X11_isWordThere (l : Launch) (E : rf_E) (a : Nat → Nat) (I : Nat → Int32) (A : Nat → Nat → Int32) (m_hasFerry : Int32) (m_r : Nat → Int32) (v1 : Int32) {z : Int32} (e_m_hasFerry : I 12 = m_hasFerry) (e_m_r : A 2 = m_r) (hf : f_X11_isWordThere m_hasFerry m_r v1 = some z) : rf_MI l yX11_isWordThere cX11_isWordThere 2 (some .boolean) ({ frames := 1, cells := 0, slots := 0, locals := 22 }) E [.ref (a 0), .int v1] (cM E a I A) z (cM E a I A) := by
  unfold f_X11_isWordThere at hf
  refine rf_ofI (by decide) (Nat.le_of_ble_eq_true rfl) ?_
  intro p e s m below meth c A0 ls hC hD hP hS hl
  have hC : rf_C p E s m _ meth c cX11_isWordThere 2 RX11 (some .boolean) A0 := hC
  have hx := hC.1
  have hb := hC.2.1
  have hl : lv_has ls 2 [(0, .ref (a 0)), (1, .int v1)] := hl
  refine lv_aload_n hx hb dX11_isWordThere_0 rfl (lv_at hl 0 rfl) ?_
  refine gM_m_hasFerry hC hP tw_1293 (v := m_hasFerry) e_m_hasFerry dX11_isWordThere_1 ?_
  refine lv_if_eq (tgt := 27) hx hb dX11_isWordThere_4 (by decide) (fun c_4 => ?_) (fun c_4 => ?_)
  · have hf := rf_it c_4 hf
    exact w_X11_isWordThere_27 hC hD e_m_hasFerry e_m_r () hf _ _ _ hP hS (lv_sub hl [] rfl)
  have hf := rf_ie c_4 hf
  refine lv_iload_n hx hb dX11_isWordThere_7 rfl (lv_at hl 1 rfl) ?_
  refine lv_iconst (v := 0) hx hb dX11_isWordThere_8 (by decide) ?_
  refine lv_aload_n hx hb dX11_isWordThere_9 rfl (lv_at hl 0 rfl) ?_
  refine gM_m_r hC hP tw_1294 dX11_isWordThere_10 ?_
  refine lv_iconst (v := 2) hx hb dX11_isWordThere_13 (by decide) ?_
  refine lM_m_r hC hP (by decide) (f := m_r) e_m_r dX11_isWordThere_14 ?_
  refine lv_iconst (v := 1) hx hb dX11_isWordThere_15 (by decide) ?_
  refine lv_isub hx hb dX11_isWordThere_16 ?_
  obtain ⟨z17, hz17, hf⟩ := rf_bd hf
  refine rf_si0 hC (c_X11_in l E v1 0 ((m_r (Int32.toNatClampNeg 2)) - 1) hz17) kS_X11_in tw_1407 ⟨Nat.le_of_ble_eq_true rfl, Nat.le_of_ble_eq_true rfl⟩ rfl rfl hP hS rfl hl.1 (rest := []) rfl (Nat.le_of_ble_eq_true rfl) dX11_isWordThere_17 (fun H locs hP hS => ?_)
  refine lv_if_eq (tgt := 27) hx hb dX11_isWordThere_20 (by decide) (fun c_20 => ?_) (fun c_20 => ?_)
  · have hf := rf_it c_20 hf
    exact w_X11_isWordThere_27 hC hD e_m_hasFerry e_m_r () hf _ _ _ hP hS (lv_sub hl [] rfl)
  have hf := rf_ie c_20 hf
  refine lv_iconst (v := 1) hx hb dX11_isWordThere_23 (by decide) ?_
  refine lv_goto (tgt := 28) hx hb dX11_isWordThere_24 (by decide) ?_
  obtain rfl := Option.some.inj hf
  exact rf_retz hC hP hS (by decide) rfl rfl dX11_isWordThere_28
set_option maxHeartbeats 4000000 in
set_option maxRecDepth 100000 in
theorem w_X11_word_21 {l : Launch} {p : Program} {e : Env} {s : State} {m : MethodId} {args : Array Value} {below : List Frame} {meth : Method} {c : Code} {A0 : Nat → Prop} {E : rf_E} {a : Nat → Nat} {I : Nat → Int32} {A : Nat → Nat → Int32} {m_hasFerry : Int32} {m_r : Nat → Int32} {m_st : Nat → Int32} {z : Int32 × Int32 × Int32} (hC : rf_C p E s m args meth c cX11_word 5 RX11 (some .int) A0) (hD : va_D A0 (cM E a I A)) (e_m_hasFerry : I 12 = m_hasFerry) (e_m_r : A 2 = m_r) (e_m_st : A 4 = m_st) :
    ∀ (m_thrown : Int32) (m_trouble : Int32), f_X11_word_21 m_hasFerry m_r m_st m_thrown m_trouble = some z → ∀ (H : Heap) (locs : List Loc) (ls : Array Slot), va_P (rf_D E) vwCl (cM E a (rf_upL I [(0, m_thrown), (10, m_trouble)]) A) H → va_S A0 s.heap H locs → lv_has ls 5 [(0, .ref (a 0))] → W p l e ({ frames := 2, cells := 0, slots := 0, locals := 43 }) s m args below meth c H locs 0 0 (rf_QI below args s E A0 z.1 (cM E a (rf_upL I [(0, z.2.1), (10, z.2.2)]) A)) (F0 m 21 ls []) := by
  have hx := hC.1
  have hb := hC.2.1
  intro m_thrown m_trouble hf H locs ls hP hS hl
  unfold f_X11_word_21 at hf
  refine lv_aload_n hx hb dX11_word_21 rfl (lv_at hl 0 rfl) ?_
  refine lv_iconst (v := 1) hx hb dX11_word_22 (by decide) ?_
  obtain ⟨z23, hz23, hf⟩ := rf_bd hf
  refine rf_vi (q0 := 0) (ci := 11) hC (c_X11_no l E a (rf_upL I [(0, m_thrown), (10, m_trouble)]) A m_trouble 1 rfl hz23) kV_X11_no tw_1410 ⟨Nat.le_of_ble_eq_true rfl, Nat.le_of_ble_eq_true rfl⟩ rfl rfl rfl rfl rfl hP (rf_DM hD) hS rfl hl.1 (rest := []) rfl (Nat.le_of_ble_eq_true rfl) dX11_word_23 (fun H locs hP hS => ?_)
  rw [rf_cat (f := I) (l := [(0, m_thrown), (10, m_trouble)]) (lc := [(10, z23.2)]) (l' := [(0, m_thrown), (10, z23.2)]) rfl] at hP
  obtain rfl := Option.some.inj hf
  exact rf_reti hC hP hS rfl rfl dX11_word_26
set_option maxHeartbeats 4000000 in
set_option maxRecDepth 100000 in
theorem w_X11_word_89 {l : Launch} {p : Program} {e : Env} {s : State} {m : MethodId} {args : Array Value} {below : List Frame} {meth : Method} {c : Code} {A0 : Nat → Prop} {E : rf_E} {a : Nat → Nat} {I : Nat → Int32} {A : Nat → Nat → Int32} {m_hasFerry : Int32} {m_r : Nat → Int32} {m_st : Nat → Int32} {z : Int32 × Int32 × Int32} (hC : rf_C p E s m args meth c cX11_word 5 RX11 (some .int) A0) (hD : va_D A0 (cM E a I A)) (e_m_hasFerry : I 12 = m_hasFerry) (e_m_r : A 2 = m_r) (e_m_st : A 4 = m_st) {k52 : Int32 → Int32 → Int32 → Int32 → Int32 → Option (Int32 × Int32 × Int32)} (hk52 : ∀ (v1 : Int32) (v3 : Int32) (v4 : Int32) (m_thrown : Int32) (m_trouble : Int32), k52 v1 v3 v4 m_thrown m_trouble = some z → ∀ (H : Heap) (locs : List Loc) (ls : Array Slot), va_P (rf_D E) vwCl (cM E a (rf_upL I [(0, m_thrown), (10, m_trouble)]) A) H → va_S A0 s.heap H locs → lv_has ls 5 [(0, .ref (a 0)), (1, .int v1), (3, .int v3), (4, .int v4)] → W p l e ({ frames := 2, cells := 0, slots := 0, locals := 43 }) s m args below meth c H locs 0 0 (rf_QI below args s E A0 z.1 (cM E a (rf_upL I [(0, z.2.1), (10, z.2.2)]) A)) (F0 m 52 ls [])) :
    ∀ (v1 : Int32) (v4 : Int32) (s0 : Int32) (s1 : Int32) (m_thrown : Int32) (m_trouble : Int32), f_X11_word_89 k52 m_hasFerry m_r m_st v1 v4 s0 s1 m_thrown m_trouble = some z → ∀ (H : Heap) (locs : List Loc) (ls : Array Slot), va_P (rf_D E) vwCl (cM E a (rf_upL I [(0, m_thrown), (10, m_trouble)]) A) H → va_S A0 s.heap H locs → lv_has ls 5 [(0, .ref (a 0)), (1, .int v1), (4, .int v4)] → W p l e ({ frames := 2, cells := 0, slots := 0, locals := 43 }) s m args below meth c H locs 0 0 (rf_QI below args s E A0 z.1 (cM E a (rf_upL I [(0, z.2.1), (10, z.2.2)]) A)) (F0 m 89 ls [.int s1, .int s0]) := by
  have hx := hC.1
  have hb := hC.2.1
  intro v1 v4 s0 s1 m_thrown m_trouble hf H locs ls hP hS hl
  unfold f_X11_word_89 at hf
  refine lv_ior hx hb dX11_word_89 ?_
  refine lv_istore_n (lv' := [(3, .int (s0 ||| s1)), (0, .ref (a 0)), (1, .int v1), (4, .int v4)]) hx hb dX11_word_90 rfl hl (by decide) rfl (fun ls hl => ?_)
  refine lv_iinc (v := v4 + 1) (lv' := [(4, .int (v4 + 1)), (3, .int (s0 ||| s1)), (0, .ref (a 0)), (1, .int v1)]) hx hb dX11_word_91 hl (k := 3) rfl rfl (by decide) rfl (fun ls hl => ?_)
  refine lv_goto (tgt := 52) hx hb dX11_word_94 (by decide) ?_
  exact hk52 v1 (s0 ||| s1) (v4 + 1) m_thrown m_trouble hf _ _ _ hP hS (lv_sub hl [2, 3, 1, 0] rfl)
set_option maxHeartbeats 4000000 in
set_option maxRecDepth 100000 in
theorem w_X11_word_52 {l : Launch} {p : Program} {e : Env} {s : State} {m : MethodId} {args : Array Value} {below : List Frame} {meth : Method} {c : Code} {A0 : Nat → Prop} {E : rf_E} {a : Nat → Nat} {I : Nat → Int32} {A : Nat → Nat → Int32} {m_hasFerry : Int32} {m_r : Nat → Int32} {m_st : Nat → Int32} {z : Int32 × Int32 × Int32} (hC : rf_C p E s m args meth c cX11_word 5 RX11 (some .int) A0) (hD : va_D A0 (cM E a I A)) (e_m_hasFerry : I 12 = m_hasFerry) (e_m_r : A 2 = m_r) (e_m_st : A 4 = m_st) :
    ∀ (n : Nat), ∀ (v1 : Int32) (v3 : Int32) (v4 : Int32) (m_thrown : Int32) (m_trouble : Int32), f_X11_word_52 m_hasFerry m_r m_st n v1 v3 v4 m_thrown m_trouble = some z → ∀ (H : Heap) (locs : List Loc) (ls : Array Slot), va_P (rf_D E) vwCl (cM E a (rf_upL I [(0, m_thrown), (10, m_trouble)]) A) H → va_S A0 s.heap H locs → lv_has ls 5 [(0, .ref (a 0)), (1, .int v1), (3, .int v3), (4, .int v4)] → W p l e ({ frames := 2, cells := 0, slots := 0, locals := 43 }) s m args below meth c H locs 0 0 (rf_QI below args s E A0 z.1 (cM E a (rf_upL I [(0, z.2.1), (10, z.2.2)]) A)) (F0 m 52 ls []) := by
  have hx := hC.1
  have hb := hC.2.1
  intro n
  induction n with
  | zero =>
    intro v1 v3 v4 m_thrown m_trouble hf
    have hf : (none : Option (Int32 × Int32 × Int32)) = some z := hf
    cases hf
  | succ n ih =>
    intro v1 v3 v4 m_thrown m_trouble hf H locs ls hP hS hl
    rw [f_X11_word_52] at hf
    refine lv_iload hx hb dX11_word_52 (lv_at hl 3 rfl) ?_
    refine lv_aload_n hx hb dX11_word_54 rfl (lv_at hl 0 rfl) ?_
    refine gM_m_r hC hP tw_1294 dX11_word_55 ?_
    refine lv_iconst (v := 3) hx hb dX11_word_58 (by decide) ?_
    refine lM_m_r hC hP (by decide) (f := m_r) e_m_r dX11_word_59 ?_
    refine lv_icmp_ge (tgt := 97) hx hb dX11_word_60 (by decide) (fun c_60 => ?_) (fun c_60 => ?_)
    · have hf := rf_it c_60 hf
      refine lv_iload_n hx hb dX11_word_97 rfl (lv_at hl 2 rfl) ?_
      obtain rfl := Option.some.inj hf
      exact rf_reti hC hP hS rfl rfl dX11_word_98
    have hf := rf_ie c_60 hf
    refine lv_iload_n hx hb dX11_word_63 rfl (lv_at hl 2 rfl) ?_
    refine lv_aload_n hx hb dX11_word_64 rfl (lv_at hl 0 rfl) ?_
    refine gM_m_st hC hP tw_1296 dX11_word_65 ?_
    refine lv_bipush (v := 8) hx hb dX11_word_68 (by decide) ?_
    refine lv_iload hx hb dX11_word_70 (lv_at hl 3 rfl) ?_
    refine lv_iadd hx hb dX11_word_72 ?_
    obtain ⟨hi_73, hf⟩ := rf_gu hf
    refine lM_m_st hC hP hi_73 (f := m_st) e_m_st dX11_word_73 ?_
    refine lv_iload_n hx hb dX11_word_74 rfl (lv_at hl 1 rfl) ?_
    obtain ⟨z75, hz75, hf⟩ := rf_bd hf
    refine rf_si0 hC (c_X11_hasBit l E (m_st (Int32.toNatClampNeg ((8 : Int32) + v4))) v1 hz75) kS_X11_hasBit tw_1539 ⟨Nat.le_of_ble_eq_true rfl, Nat.le_of_ble_eq_true rfl⟩ rfl rfl hP hS rfl hl.1 (rest := [.int v3]) rfl (Nat.le_of_ble_eq_true rfl) dX11_word_75 (fun H locs hP hS => ?_)
    refine lv_if_eq (tgt := 88) hx hb dX11_word_78 (by decide) (fun c_78 => ?_) (fun c_78 => ?_)
    · have hf := rf_it c_78 hf
      refine lv_iconst (v := 0) hx hb dX11_word_88 (by decide) ?_
      exact w_X11_word_89 hC hD e_m_hasFerry e_m_r e_m_st ih v1 v4 v3 0 m_thrown m_trouble hf _ _ _ hP hS (lv_sub hl [0, 1, 3] rfl)
    have hf := rf_ie c_78 hf
    refine lv_iconst (v := 1) hx hb dX11_word_81 (by decide) ?_
    refine lv_iload hx hb dX11_word_82 (lv_at hl 3 rfl) ?_
    refine lv_ishl hx hb dX11_word_84 ?_
    refine lv_goto (tgt := 89) hx hb dX11_word_85 (by decide) ?_
    exact w_X11_word_89 hC hD e_m_hasFerry e_m_r e_m_st ih v1 v4 v3 ((1 : Int32) <<< (v4 &&& 31)) m_thrown m_trouble hf _ _ _ hP hS (lv_sub hl [0, 1, 3] rfl)
set_option maxHeartbeats 4000000 in
set_option maxRecDepth 100000 in
theorem c_X11_word (l : Launch) (E : rf_E) (a : Nat → Nat) (I : Nat → Int32) (A : Nat → Nat → Int32) (m_hasFerry : Int32) (m_r : Nat → Int32) (m_st : Nat → Int32) (m_thrown : Int32) (m_trouble : Int32) (v1 : Int32) (v2 : Int32) {z : Int32 × Int32 × Int32} (e_m_hasFerry : I 12 = m_hasFerry) (e_m_r : A 2 = m_r) (e_m_st : A 4 = m_st) (e_m_thrown : I 0 = m_thrown) (e_m_trouble : I 10 = m_trouble) (hf : f_X11_word m_hasFerry m_r m_st m_thrown m_trouble v1 v2 = some z) : rf_MI l yX11_word cX11_word 5 (some .int) ({ frames := 2, cells := 0, slots := 0, locals := 43 }) E [.ref (a 0), .int v1, .int v2] (cM E a I A) z.1 (cM E a (rf_upL I [(0, z.2.1), (10, z.2.2)]) A) := by
  unfold f_X11_word at hf
  refine rf_ofI (by decide) (Nat.le_of_ble_eq_true rfl) ?_
  intro p e s m below meth c A0 ls hC hD hP hS hl
  have hC : rf_C p E s m _ meth c cX11_word 5 RX11 (some .int) A0 := hC
  have hx := hC.1
  have hb := hC.2.1
  have hl : lv_has ls 5 [(0, .ref (a 0)), (1, .int v1), (2, .int v2)] := hl
  have hP : va_P (rf_D E) vwCl (cM E a (rf_upL I [(0, m_thrown), (10, m_trouble)]) A) s.heap := by
    rw [rf_self (f := I) [(0, m_thrown), (10, m_trouble)] (rf_fa1 e_m_thrown (rf_fa1 e_m_trouble rf_fa0))]
    exact hP
  refine lv_aload_n hx hb dX11_word_0 rfl (lv_at hl 0 rfl) ?_
  obtain ⟨z1, hz1, hf⟩ := rf_bd hf
  refine rf_vv (q0 := 0) (ci := 11) hC (c_X11_good l E a (rf_upL I [(0, m_thrown), (10, m_trouble)]) A m_thrown m_trouble rfl rfl hz1) kV_X11_good tw_1403 ⟨Nat.le_of_ble_eq_true rfl, Nat.le_of_ble_eq_true rfl⟩ rfl rfl rfl rfl rfl hP (rf_DM hD) hS rfl hl.1 (rest := []) rfl (Nat.le_of_ble_eq_true rfl) dX11_word_1 (fun H locs hP hS => ?_)
  rw [rf_cat (f := I) (l := [(0, m_thrown), (10, m_trouble)]) (lc := [(0, z1.1), (10, z1.2)]) (l' := [(0, z1.1), (10, z1.2)]) rfl] at hP
  refine lv_aload_n hx hb dX11_word_4 rfl (lv_at hl 0 rfl) ?_
  refine lv_iload_n hx hb dX11_word_5 rfl (lv_at hl 1 rfl) ?_
  obtain ⟨z6, hz6, hf⟩ := rf_bd hf
  refine rf_vi (q0 := 0) (ci := 11) hC (c_X11_isWordThere l E a (rf_upL I [(0, z1.1), (10, z1.2)]) A m_hasFerry m_r v1 e_m_hasFerry e_m_r hz6) kV_X11_isWordThere tw_1581 ⟨Nat.le_of_ble_eq_true rfl, Nat.le_of_ble_eq_true rfl⟩ rfl rfl rfl rfl rfl hP (rf_DM hD) hS rfl hl.1 (rest := []) rfl (Nat.le_of_ble_eq_true rfl) dX11_word_6 (fun H locs hP hS => ?_)
  refine lv_if_eq (tgt := 21) hx hb dX11_word_9 (by decide) (fun c_9 => ?_) (fun c_9 => ?_)
  · have hf := rf_it c_9 hf
    exact w_X11_word_21 hC hD e_m_hasFerry e_m_r e_m_st z1.1 z1.2 hf _ _ _ hP hS (lv_sub hl [0] rfl)
  have hf := rf_ie c_9 hf
  refine lv_iload_n hx hb dX11_word_12 rfl (lv_at hl 2 rfl) ?_
  refine lv_iconst (v := 0) hx hb dX11_word_13 (by decide) ?_
  refine lv_iconst (v := 2) hx hb dX11_word_14 (by decide) ?_
  obtain ⟨z15, hz15, hf⟩ := rf_bd hf
  refine rf_si0 hC (c_X11_in l E v2 0 2 hz15) kS_X11_in tw_1407 ⟨Nat.le_of_ble_eq_true rfl, Nat.le_of_ble_eq_true rfl⟩ rfl rfl hP hS rfl hl.1 (rest := []) rfl (Nat.le_of_ble_eq_true rfl) dX11_word_15 (fun H locs hP hS => ?_)
  refine lv_if_ne (tgt := 27) hx hb dX11_word_18 (by decide) (fun c_18 => ?_) (fun c_18 => ?_)
  · have hf := rf_ie c_18 hf
    refine lv_iload_n hx hb dX11_word_27 rfl (lv_at hl 2 rfl) ?_
    refine lv_iconst (v := 2) hx hb dX11_word_28 (by decide) ?_
    refine lv_icmp_ge (tgt := 47) hx hb dX11_word_29 (by decide) (fun c_29 => ?_) (fun c_29 => ?_)
    · have hf := rf_it c_29 hf
      refine lv_iconst (v := 0) hx hb dX11_word_47 (by decide) ?_
      refine lv_istore_n (lv' := [(3, .int 0), (0, .ref (a 0)), (1, .int v1), (2, .int v2)]) hx hb dX11_word_48 rfl hl (by decide) rfl (fun ls hl => ?_)
      refine lv_iconst (v := 0) hx hb dX11_word_49 (by decide) ?_
      refine lv_istore (lv' := [(4, .int 0), (3, .int 0), (0, .ref (a 0)), (1, .int v1), (2, .int v2)]) hx hb dX11_word_50 hl (by decide) rfl (fun ls hl => ?_)
      exact w_X11_word_52 hC hD e_m_hasFerry e_m_r e_m_st rf_fu v1 0 0 z1.1 z1.2 hf _ _ _ hP hS (lv_sub hl [2, 3, 1, 0] rfl)
    have hf := rf_ie c_29 hf
    refine lv_aload_n hx hb dX11_word_32 rfl (lv_at hl 0 rfl) ?_
    refine gM_m_r hC hP tw_1294 dX11_word_33 ?_
    refine lv_bipush (v := 9) hx hb dX11_word_36 (by decide) ?_
    refine lv_bipush (v := 8) hx hb dX11_word_38 (by decide) ?_
    refine lv_iload_n hx hb dX11_word_40 rfl (lv_at hl 1 rfl) ?_
    refine lv_imul hx hb dX11_word_41 ?_
    refine lv_iadd hx hb dX11_word_42 ?_
    refine lv_iload_n hx hb dX11_word_43 rfl (lv_at hl 2 rfl) ?_
    refine lv_iadd hx hb dX11_word_44 ?_
    obtain ⟨hi_45, hf⟩ := rf_gu hf
    refine lM_m_r hC hP hi_45 (f := m_r) e_m_r dX11_word_45 ?_
    obtain rfl := Option.some.inj hf
    exact rf_reti hC hP hS rfl rfl dX11_word_46
  have hf := rf_it c_18 hf
  exact w_X11_word_21 hC hD e_m_hasFerry e_m_r e_m_st z1.1 z1.2 hf _ _ _ hP hS (lv_sub hl [0] rfl)
set_option maxHeartbeats 4000000 in
set_option maxRecDepth 100000 in
theorem w_X11_likeOf_127 {l : Launch} {p : Program} {e : Env} {s : State} {m : MethodId} {args : Array Value} {below : List Frame} {meth : Method} {c : Code} {A0 : Nat → Prop} {E : rf_E} {a : Nat → Nat} {I : Nat → Int32} {A : Nat → Nat → Int32} {m_r : Nat → Int32} {z : Int32} (hC : rf_C p E s m args meth c cX11_likeOf 8 RX11 (some .int) A0) (hD : va_D A0 (cM E a I A)) (e_m_r : A 2 = m_r) :
    ∀ (v5 : Int32), f_X11_likeOf_127 m_r v5 = some z → ∀ (H : Heap) (locs : List Loc) (ls : Array Slot), va_P (rf_D E) vwCl (cM E a I A) H → va_S A0 s.heap H locs → lv_has ls 8 [(5, .int v5)] → W p l e ({ frames := 1, cells := 0, slots := 0, locals := 21 }) s m args below meth c H locs 0 0 (rf_QI below args s E A0 z (cM E a I A)) (F0 m 127 ls []) := by
  have hx := hC.1
  have hb := hC.2.1
  intro v5 hf H locs ls hP hS hl
  unfold f_X11_likeOf_127 at hf
  refine lv_iload hx hb dX11_likeOf_127 (lv_at hl 0 rfl) ?_
  obtain rfl := Option.some.inj hf
  exact rf_reti hC hP hS rfl rfl dX11_likeOf_129
set_option maxHeartbeats 4000000 in
set_option maxRecDepth 100000 in
theorem w_X11_likeOf_121 {l : Launch} {p : Program} {e : Env} {s : State} {m : MethodId} {args : Array Value} {below : List Frame} {meth : Method} {c : Code} {A0 : Nat → Prop} {E : rf_E} {a : Nat → Nat} {I : Nat → Int32} {A : Nat → Nat → Int32} {m_r : Nat → Int32} {z : Int32} (hC : rf_C p E s m args meth c cX11_likeOf 8 RX11 (some .int) A0) (hD : va_D A0 (cM E a I A)) (e_m_r : A 2 = m_r) {k20 : Int32 → Int32 → Int32 → Option (Int32)} (hk20 : ∀ (v3 : Int32) (v4 : Int32) (v5 : Int32), k20 v3 v4 v5 = some z → ∀ (H : Heap) (locs : List Loc) (ls : Array Slot), va_P (rf_D E) vwCl (cM E a I A) H → va_S A0 s.heap H locs → lv_has ls 8 [(0, .ref (a 0)), (3, .int v3), (4, .int v4), (5, .int v5)] → W p l e ({ frames := 1, cells := 0, slots := 0, locals := 21 }) s m args below meth c H locs 0 0 (rf_QI below args s E A0 z (cM E a I A)) (F0 m 20 ls [])) :
    ∀ (v3 : Int32) (v4 : Int32) (v5 : Int32), f_X11_likeOf_121 k20 m_r v3 v4 v5 = some z → ∀ (H : Heap) (locs : List Loc) (ls : Array Slot), va_P (rf_D E) vwCl (cM E a I A) H → va_S A0 s.heap H locs → lv_has ls 8 [(0, .ref (a 0)), (3, .int v3), (4, .int v4), (5, .int v5)] → W p l e ({ frames := 1, cells := 0, slots := 0, locals := 21 }) s m args below meth c H locs 0 0 (rf_QI below args s E A0 z (cM E a I A)) (F0 m 121 ls []) := by
  have hx := hC.1
  have hb := hC.2.1
  intro v3 v4 v5 hf H locs ls hP hS hl
  unfold f_X11_likeOf_121 at hf
  refine lv_iinc (v := v5 + 1) (lv' := [(5, .int (v5 + 1)), (0, .ref (a 0)), (3, .int v3), (4, .int v4)]) hx hb dX11_likeOf_121 hl (k := 3) rfl rfl (by decide) rfl (fun ls hl => ?_)
  refine lv_goto (tgt := 20) hx hb dX11_likeOf_124 (by decide) ?_
  exact hk20 v3 v4 (v5 + 1) hf _ _ _ hP hS (lv_sub hl [1, 2, 3, 0] rfl)
set_option maxHeartbeats 4000000 in
set_option maxRecDepth 100000 in
theorem w_X11_likeOf_20 {l : Launch} {p : Program} {e : Env} {s : State} {m : MethodId} {args : Array Value} {below : List Frame} {meth : Method} {c : Code} {A0 : Nat → Prop} {E : rf_E} {a : Nat → Nat} {I : Nat → Int32} {A : Nat → Nat → Int32} {m_r : Nat → Int32} {z : Int32} (hC : rf_C p E s m args meth c cX11_likeOf 8 RX11 (some .int) A0) (hD : va_D A0 (cM E a I A)) (e_m_r : A 2 = m_r) :
    ∀ (n : Nat), ∀ (v3 : Int32) (v4 : Int32) (v5 : Int32), f_X11_likeOf_20 m_r n v3 v4 v5 = some z → ∀ (H : Heap) (locs : List Loc) (ls : Array Slot), va_P (rf_D E) vwCl (cM E a I A) H → va_S A0 s.heap H locs → lv_has ls 8 [(0, .ref (a 0)), (3, .int v3), (4, .int v4), (5, .int v5)] → W p l e ({ frames := 1, cells := 0, slots := 0, locals := 21 }) s m args below meth c H locs 0 0 (rf_QI below args s E A0 z (cM E a I A)) (F0 m 20 ls []) := by
  have hx := hC.1
  have hb := hC.2.1
  intro n
  induction n with
  | zero =>
    intro v3 v4 v5 hf
    have hf : (none : Option (Int32)) = some z := hf
    cases hf
  | succ n ih =>
    intro v3 v4 v5 hf H locs ls hP hS hl
    rw [f_X11_likeOf_20] at hf
    refine lv_iload hx hb dX11_likeOf_20 (lv_at hl 3 rfl) ?_
    refine lv_aload_n hx hb dX11_likeOf_22 rfl (lv_at hl 0 rfl) ?_
    refine gM_m_r hC hP tw_1294 dX11_likeOf_23 ?_
    refine lv_iload_n hx hb dX11_likeOf_26 rfl (lv_at hl 1 rfl) ?_
    refine lv_iconst (v := 1) hx hb dX11_likeOf_27 (by decide) ?_
    refine lv_iadd hx hb dX11_likeOf_28 ?_
    obtain ⟨hi_29, hf⟩ := rf_gu hf
    refine lM_m_r hC hP hi_29 (f := m_r) e_m_r dX11_likeOf_29 ?_
    refine lv_icmp_ge (tgt := 127) hx hb dX11_likeOf_30 (by decide) (fun c_30 => ?_) (fun c_30 => ?_)
    · have hf := rf_it c_30 hf
      exact w_X11_likeOf_127 hC hD e_m_r v5 hf _ _ _ hP hS (lv_sub hl [3] rfl)
    have hf := rf_ie c_30 hf
    refine lv_iload hx hb dX11_likeOf_33 (lv_at hl 3 rfl) ?_
    refine lv_aload_n hx hb dX11_likeOf_35 rfl (lv_at hl 0 rfl) ?_
    refine gM_m_r hC hP tw_1294 dX11_likeOf_36 ?_
    refine lv_iload hx hb dX11_likeOf_39 (lv_at hl 2 rfl) ?_
    refine lv_iconst (v := 1) hx hb dX11_likeOf_41 (by decide) ?_
    refine lv_iadd hx hb dX11_likeOf_42 ?_
    obtain ⟨hi_43, hf⟩ := rf_gu hf
    refine lM_m_r hC hP hi_43 (f := m_r) e_m_r dX11_likeOf_43 ?_
    refine lv_icmp_ge (tgt := 127) hx hb dX11_likeOf_44 (by decide) (fun c_44 => ?_) (fun c_44 => ?_)
    · have hf := rf_it c_44 hf
      exact w_X11_likeOf_127 hC hD e_m_r v5 hf _ _ _ hP hS (lv_sub hl [3] rfl)
    have hf := rf_ie c_44 hf
    refine lv_aload_n hx hb dX11_likeOf_47 rfl (lv_at hl 0 rfl) ?_
    refine gM_m_r hC hP tw_1294 dX11_likeOf_48 ?_
    refine lv_iload_n hx hb dX11_likeOf_51 rfl (lv_at hl 1 rfl) ?_
    refine lv_iconst (v := 1) hx hb dX11_likeOf_52 (by decide) ?_
    refine lv_iadd hx hb dX11_likeOf_53 ?_
    refine lv_aload_n hx hb dX11_likeOf_54 rfl (lv_at hl 0 rfl) ?_
    refine gM_m_r hC hP tw_1294 dX11_likeOf_55 ?_
    refine lv_iload_n hx hb dX11_likeOf_58 rfl (lv_at hl 1 rfl) ?_
    refine lv_iconst (v := 1) hx hb dX11_likeOf_59 (by decide) ?_
    refine lv_iadd hx hb dX11_likeOf_60 ?_
    obtain ⟨hi_61, hf⟩ := rf_gu hf
    refine lM_m_r hC hP hi_61 (f := m_r) e_m_r dX11_likeOf_61 ?_
    refine lv_iadd hx hb dX11_likeOf_62 ?_
    refine lv_iload hx hb dX11_likeOf_63 (lv_at hl 3 rfl) ?_
    refine lv_isub hx hb dX11_likeOf_65 ?_
    obtain ⟨hi_66, hf⟩ := rf_gu hf
    refine lM_m_r hC hP hi_66 (f := m_r) e_m_r dX11_likeOf_66 ?_
    refine lv_istore (lv' := [(6, .int (m_r (Int32.toNatClampNeg (((v3 + 1) + (m_r (Int32.toNatClampNeg (v3 + 1)))) - v5)))), (0, .ref (a 0)), (3, .int v3), (4, .int v4), (5, .int v5)]) hx hb dX11_likeOf_67 hl (by decide) rfl (fun ls hl => ?_)
    refine lv_aload_n hx hb dX11_likeOf_69 rfl (lv_at hl 1 rfl) ?_
    refine gM_m_r hC hP tw_1294 dX11_likeOf_70 ?_
    refine lv_iload hx hb dX11_likeOf_73 (lv_at hl 3 rfl) ?_
    refine lv_iconst (v := 1) hx hb dX11_likeOf_75 (by decide) ?_
    refine lv_iadd hx hb dX11_likeOf_76 ?_
    refine lv_aload_n hx hb dX11_likeOf_77 rfl (lv_at hl 1 rfl) ?_
    refine gM_m_r hC hP tw_1294 dX11_likeOf_78 ?_
    refine lv_iload hx hb dX11_likeOf_81 (lv_at hl 3 rfl) ?_
    refine lv_iconst (v := 1) hx hb dX11_likeOf_83 (by decide) ?_
    refine lv_iadd hx hb dX11_likeOf_84 ?_
    obtain ⟨hi_85, hf⟩ := rf_gu hf
    refine lM_m_r hC hP hi_85 (f := m_r) e_m_r dX11_likeOf_85 ?_
    refine lv_iadd hx hb dX11_likeOf_86 ?_
    refine lv_iload hx hb dX11_likeOf_87 (lv_at hl 4 rfl) ?_
    refine lv_isub hx hb dX11_likeOf_89 ?_
    obtain ⟨hi_90, hf⟩ := rf_gu hf
    refine lM_m_r hC hP hi_90 (f := m_r) e_m_r dX11_likeOf_90 ?_
    refine lv_istore (lv' := [(7, .int (m_r (Int32.toNatClampNeg (((v4 + 1) + (m_r (Int32.toNatClampNeg (v4 + 1)))) - v5)))), (6, .int (m_r (Int32.toNatClampNeg (((v3 + 1) + (m_r (Int32.toNatClampNeg (v3 + 1)))) - v5)))), (0, .ref (a 0)), (3, .int v3), (4, .int v4), (5, .int v5)]) hx hb dX11_likeOf_91 hl (by decide) rfl (fun ls hl => ?_)
    refine lv_iload hx hb dX11_likeOf_93 (lv_at hl 1 rfl) ?_
    refine lv_iload hx hb dX11_likeOf_95 (lv_at hl 0 rfl) ?_
    refine lv_icmp_eq (tgt := 121) hx hb dX11_likeOf_97 (by decide) (fun c_97 => ?_) (fun c_97 => ?_)
    · have hf := rf_it c_97 hf
      exact w_X11_likeOf_121 hC hD e_m_r ih v3 v4 v5 hf _ _ _ hP hS (lv_sub hl [2, 3, 4, 5] rfl)
    have hf := rf_ie c_97 hf
    refine lv_aload_n hx hb dX11_likeOf_100 rfl (lv_at hl 2 rfl) ?_
    refine gM_m_r hC hP tw_1294 dX11_likeOf_101 ?_
    refine lv_bipush (v := 121) hx hb dX11_likeOf_104 (by decide) ?_
    refine lv_iload hx hb dX11_likeOf_106 (lv_at hl 1 rfl) ?_
    refine lv_iadd hx hb dX11_likeOf_108 ?_
    obtain ⟨hi_109, hf⟩ := rf_gu hf
    refine lM_m_r hC hP hi_109 (f := m_r) e_m_r dX11_likeOf_109 ?_
    refine lv_iload hx hb dX11_likeOf_110 (lv_at hl 0 rfl) ?_
    obtain ⟨z112, hz112, hf⟩ := rf_bd hf
    refine rf_si0 hC (c_X11_hasBit l E (m_r (Int32.toNatClampNeg ((121 : Int32) + (m_r (Int32.toNatClampNeg (((v3 + 1) + (m_r (Int32.toNatClampNeg (v3 + 1)))) - v5)))))) (m_r (Int32.toNatClampNeg (((v4 + 1) + (m_r (Int32.toNatClampNeg (v4 + 1)))) - v5))) hz112) kS_X11_hasBit tw_1539 ⟨Nat.le_of_ble_eq_true rfl, Nat.le_of_ble_eq_true rfl⟩ rfl rfl hP hS rfl hl.1 (rest := []) rfl (Nat.le_of_ble_eq_true rfl) dX11_likeOf_112 (fun H locs hP hS => ?_)
    refine lv_if_ne (tgt := 121) hx hb dX11_likeOf_115 (by decide) (fun c_115 => ?_) (fun c_115 => ?_)
    · have hf := rf_ie c_115 hf
      exact w_X11_likeOf_121 hC hD e_m_r ih v3 v4 v5 hf _ _ _ hP hS (lv_sub hl [2, 3, 4, 5] rfl)
    have hf := rf_it c_115 hf
    refine lv_iload hx hb dX11_likeOf_118 (lv_at hl 5 rfl) ?_
    obtain rfl := Option.some.inj hf
    exact rf_reti hC hP hS rfl rfl dX11_likeOf_120
set_option maxHeartbeats 4000000 in
set_option maxRecDepth 100000 in
theorem c_X11_likeOf (l : Launch) (E : rf_E) (a : Nat → Nat) (I : Nat → Int32) (A : Nat → Nat → Int32) (m_r : Nat → Int32) (v1 : Int32) (v2 : Int32) {z : Int32} (e_m_r : A 2 = m_r) (hf : f_X11_likeOf m_r v1 v2 = some z) : rf_MI l yX11_likeOf cX11_likeOf 8 (some .int) ({ frames := 1, cells := 0, slots := 0, locals := 21 }) E [.ref (a 0), .int v1, .int v2] (cM E a I A) z (cM E a I A) := by
  unfold f_X11_likeOf at hf
  refine rf_ofI (by decide) (Nat.le_of_ble_eq_true rfl) ?_
  intro p e s m below meth c A0 ls hC hD hP hS hl
  have hC : rf_C p E s m _ meth c cX11_likeOf 8 RX11 (some .int) A0 := hC
  have hx := hC.1
  have hb := hC.2.1
  have hl : lv_has ls 8 [(0, .ref (a 0)), (1, .int v1), (2, .int v2)] := hl
  refine lv_bipush (v := 9) hx hb dX11_likeOf_0 (by decide) ?_
  refine lv_bipush (v := 8) hx hb dX11_likeOf_2 (by decide) ?_
  refine lv_iload_n hx hb dX11_likeOf_4 rfl (lv_at hl 1 rfl) ?_
  refine lv_imul hx hb dX11_likeOf_5 ?_
  refine lv_iadd hx hb dX11_likeOf_6 ?_
  refine lv_istore_n (lv' := [(3, .int ((9 : Int32) + ((8 : Int32) * v1))), (0, .ref (a 0)), (1, .int v1), (2, .int v2)]) hx hb dX11_likeOf_7 rfl hl (by decide) rfl (fun ls hl => ?_)
  refine lv_bipush (v := 9) hx hb dX11_likeOf_8 (by decide) ?_
  refine lv_bipush (v := 8) hx hb dX11_likeOf_10 (by decide) ?_
  refine lv_iload_n hx hb dX11_likeOf_12 rfl (lv_at hl 3 rfl) ?_
  refine lv_imul hx hb dX11_likeOf_13 ?_
  refine lv_iadd hx hb dX11_likeOf_14 ?_
  refine lv_istore (lv' := [(4, .int ((9 : Int32) + ((8 : Int32) * v2))), (3, .int ((9 : Int32) + ((8 : Int32) * v1))), (0, .ref (a 0)), (1, .int v1), (2, .int v2)]) hx hb dX11_likeOf_15 hl (by decide) rfl (fun ls hl => ?_)
  refine lv_iconst (v := 0) hx hb dX11_likeOf_17 (by decide) ?_
  refine lv_istore (lv' := [(5, .int 0), (4, .int ((9 : Int32) + ((8 : Int32) * v2))), (3, .int ((9 : Int32) + ((8 : Int32) * v1))), (0, .ref (a 0)), (1, .int v1), (2, .int v2)]) hx hb dX11_likeOf_18 hl (by decide) rfl (fun ls hl => ?_)
  exact w_X11_likeOf_20 hC hD e_m_r rf_fu ((9 : Int32) + ((8 : Int32) * v1)) ((9 : Int32) + ((8 : Int32) * v2)) 0 hf _ _ _ hP hS (lv_sub hl [3, 2, 1, 0] rfl)
set_option maxHeartbeats 4000000 in
set_option maxRecDepth 100000 in
theorem w_X11_like_29 {l : Launch} {p : Program} {e : Env} {s : State} {m : MethodId} {args : Array Value} {below : List Frame} {meth : Method} {c : Code} {A0 : Nat → Prop} {E : rf_E} {a : Nat → Nat} {I : Nat → Int32} {A : Nat → Nat → Int32} {m_hasFerry : Int32} {m_r : Nat → Int32} {z : Int32 × Int32 × Int32} (hC : rf_C p E s m args meth c cX11_like 3 RX11 (some .int) A0) (hD : va_D A0 (cM E a I A)) (e_m_hasFerry : I 12 = m_hasFerry) (e_m_r : A 2 = m_r) :
    ∀ (m_thrown : Int32) (m_trouble : Int32), f_X11_like_29 m_hasFerry m_r m_thrown m_trouble = some z → ∀ (H : Heap) (locs : List Loc) (ls : Array Slot), va_P (rf_D E) vwCl (cM E a (rf_upL I [(0, m_thrown), (10, m_trouble)]) A) H → va_S A0 s.heap H locs → lv_has ls 3 [(0, .ref (a 0))] → W p l e ({ frames := 2, cells := 0, slots := 0, locals := 48 }) s m args below meth c H locs 0 0 (rf_QI below args s E A0 z.1 (cM E a (rf_upL I [(0, z.2.1), (10, z.2.2)]) A)) (F0 m 29 ls []) := by
  have hx := hC.1
  have hb := hC.2.1
  intro m_thrown m_trouble hf H locs ls hP hS hl
  unfold f_X11_like_29 at hf
  refine lv_aload_n hx hb dX11_like_29 rfl (lv_at hl 0 rfl) ?_
  refine lv_iconst (v := 1) hx hb dX11_like_30 (by decide) ?_
  obtain ⟨z31, hz31, hf⟩ := rf_bd hf
  refine rf_vi (q0 := 0) (ci := 11) hC (c_X11_no l E a (rf_upL I [(0, m_thrown), (10, m_trouble)]) A m_trouble 1 rfl hz31) kV_X11_no tw_1410 ⟨Nat.le_of_ble_eq_true rfl, Nat.le_of_ble_eq_true rfl⟩ rfl rfl rfl rfl rfl hP (rf_DM hD) hS rfl hl.1 (rest := []) rfl (Nat.le_of_ble_eq_true rfl) dX11_like_31 (fun H locs hP hS => ?_)
  rw [rf_cat (f := I) (l := [(0, m_thrown), (10, m_trouble)]) (lc := [(10, z31.2)]) (l' := [(0, m_thrown), (10, z31.2)]) rfl] at hP
  obtain rfl := Option.some.inj hf
  exact rf_reti hC hP hS rfl rfl dX11_like_34
set_option maxHeartbeats 4000000 in
set_option maxRecDepth 100000 in
theorem c_X11_like (l : Launch) (E : rf_E) (a : Nat → Nat) (I : Nat → Int32) (A : Nat → Nat → Int32) (m_hasFerry : Int32) (m_r : Nat → Int32) (m_thrown : Int32) (m_trouble : Int32) (v1 : Int32) (v2 : Int32) {z : Int32 × Int32 × Int32} (e_m_hasFerry : I 12 = m_hasFerry) (e_m_r : A 2 = m_r) (e_m_thrown : I 0 = m_thrown) (e_m_trouble : I 10 = m_trouble) (hf : f_X11_like m_hasFerry m_r m_thrown m_trouble v1 v2 = some z) : rf_MI l yX11_like cX11_like 3 (some .int) ({ frames := 2, cells := 0, slots := 0, locals := 48 }) E [.ref (a 0), .int v1, .int v2] (cM E a I A) z.1 (cM E a (rf_upL I [(0, z.2.1), (10, z.2.2)]) A) := by
  unfold f_X11_like at hf
  refine rf_ofI (by decide) (Nat.le_of_ble_eq_true rfl) ?_
  intro p e s m below meth c A0 ls hC hD hP hS hl
  have hC : rf_C p E s m _ meth c cX11_like 3 RX11 (some .int) A0 := hC
  have hx := hC.1
  have hb := hC.2.1
  have hl : lv_has ls 3 [(0, .ref (a 0)), (1, .int v1), (2, .int v2)] := hl
  have hP : va_P (rf_D E) vwCl (cM E a (rf_upL I [(0, m_thrown), (10, m_trouble)]) A) s.heap := by
    rw [rf_self (f := I) [(0, m_thrown), (10, m_trouble)] (rf_fa1 e_m_thrown (rf_fa1 e_m_trouble rf_fa0))]
    exact hP
  refine lv_aload_n hx hb dX11_like_0 rfl (lv_at hl 0 rfl) ?_
  obtain ⟨z1, hz1, hf⟩ := rf_bd hf
  refine rf_vv (q0 := 0) (ci := 11) hC (c_X11_good l E a (rf_upL I [(0, m_thrown), (10, m_trouble)]) A m_thrown m_trouble rfl rfl hz1) kV_X11_good tw_1403 ⟨Nat.le_of_ble_eq_true rfl, Nat.le_of_ble_eq_true rfl⟩ rfl rfl rfl rfl rfl hP (rf_DM hD) hS rfl hl.1 (rest := []) rfl (Nat.le_of_ble_eq_true rfl) dX11_like_1 (fun H locs hP hS => ?_)
  rw [rf_cat (f := I) (l := [(0, m_thrown), (10, m_trouble)]) (lc := [(0, z1.1), (10, z1.2)]) (l' := [(0, z1.1), (10, z1.2)]) rfl] at hP
  refine lv_aload_n hx hb dX11_like_4 rfl (lv_at hl 0 rfl) ?_
  refine lv_iload_n hx hb dX11_like_5 rfl (lv_at hl 1 rfl) ?_
  obtain ⟨z6, hz6, hf⟩ := rf_bd hf
  refine rf_vi (q0 := 0) (ci := 11) hC (c_X11_isWordThere l E a (rf_upL I [(0, z1.1), (10, z1.2)]) A m_hasFerry m_r v1 e_m_hasFerry e_m_r hz6) kV_X11_isWordThere tw_1581 ⟨Nat.le_of_ble_eq_true rfl, Nat.le_of_ble_eq_true rfl⟩ rfl rfl rfl rfl rfl hP (rf_DM hD) hS rfl hl.1 (rest := []) rfl (Nat.le_of_ble_eq_true rfl) dX11_like_6 (fun H locs hP hS => ?_)
  refine lv_if_eq (tgt := 29) hx hb dX11_like_9 (by decide) (fun c_9 => ?_) (fun c_9 => ?_)
  · have hf := rf_it c_9 hf
    exact w_X11_like_29 hC hD e_m_hasFerry e_m_r z1.1 z1.2 hf _ _ _ hP hS (lv_sub hl [0] rfl)
  have hf := rf_ie c_9 hf
  refine lv_aload_n hx hb dX11_like_12 rfl (lv_at hl 0 rfl) ?_
  refine lv_iload_n hx hb dX11_like_13 rfl (lv_at hl 2 rfl) ?_
  obtain ⟨z14, hz14, hf⟩ := rf_bd hf
  refine rf_vi (q0 := 0) (ci := 11) hC (c_X11_isWordThere l E a (rf_upL I [(0, z1.1), (10, z1.2)]) A m_hasFerry m_r v2 e_m_hasFerry e_m_r hz14) kV_X11_isWordThere tw_1581 ⟨Nat.le_of_ble_eq_true rfl, Nat.le_of_ble_eq_true rfl⟩ rfl rfl rfl rfl rfl hP (rf_DM hD) hS rfl hl.1 (rest := []) rfl (Nat.le_of_ble_eq_true rfl) dX11_like_14 (fun H locs hP hS => ?_)
  refine lv_if_eq (tgt := 29) hx hb dX11_like_17 (by decide) (fun c_17 => ?_) (fun c_17 => ?_)
  · have hf := rf_it c_17 hf
    exact w_X11_like_29 hC hD e_m_hasFerry e_m_r z1.1 z1.2 hf _ _ _ hP hS (lv_sub hl [0] rfl)
  have hf := rf_ie c_17 hf
  refine lv_aload_n hx hb dX11_like_20 rfl (lv_at hl 0 rfl) ?_
  refine lv_iload_n hx hb dX11_like_21 rfl (lv_at hl 1 rfl) ?_
  refine lv_iload_n hx hb dX11_like_22 rfl (lv_at hl 2 rfl) ?_
  obtain ⟨z23, hz23, hf⟩ := rf_bd hf
  refine rf_vi (q0 := 0) (ci := 11) hC (c_X11_likeOf l E a (rf_upL I [(0, z1.1), (10, z1.2)]) A m_r v1 v2 e_m_r hz23) kV_X11_likeOf tw_1589 ⟨Nat.le_of_ble_eq_true rfl, Nat.le_of_ble_eq_true rfl⟩ rfl rfl rfl rfl rfl hP (rf_DM hD) hS rfl hl.1 (rest := []) rfl (Nat.le_of_ble_eq_true rfl) dX11_like_23 (fun H locs hP hS => ?_)
  refine lv_goto (tgt := 34) hx hb dX11_like_26 (by decide) ?_
  obtain rfl := Option.some.inj hf
  exact rf_reti hC hP hS rfl rfl dX11_like_34
set_option maxHeartbeats 4000000 in
set_option maxRecDepth 100000 in
theorem w_X11_eyeOf_95 {l : Launch} {p : Program} {e : Env} {s : State} {m : MethodId} {args : Array Value} {below : List Frame} {meth : Method} {c : Code} {A0 : Nat → Prop} {E : rf_E} {a : Nat → Nat} {I : Nat → Int32} {A : Nat → Nat → Int32} {m_r : Nat → Int32} {z : Int32} (hC : rf_C p E s m args meth c cX11_eyeOf 4 RX11 (some .int) A0) (hD : va_D A0 (cM E a I A)) (e_m_r : A 2 = m_r) :
    ∀ (v3 : Int32), f_X11_eyeOf_95 m_r v3 = some z → ∀ (H : Heap) (locs : List Loc) (ls : Array Slot), va_P (rf_D E) vwCl (cM E a I A) H → va_S A0 s.heap H locs → lv_has ls 4 [(3, .int v3)] → W p l e ({ frames := 0, cells := 0, slots := 0, locals := 0 }) s m args below meth c H locs 0 0 (rf_QI below args s E A0 z (cM E a I A)) (F0 m 95 ls []) := by
  have hx := hC.1
  have hb := hC.2.1
  intro v3 hf H locs ls hP hS hl
  unfold f_X11_eyeOf_95 at hf
  refine lv_iload_n hx hb dX11_eyeOf_95 rfl (lv_at hl 0 rfl) ?_
  obtain rfl := Option.some.inj hf
  exact rf_reti hC hP hS rfl rfl dX11_eyeOf_96
set_option maxHeartbeats 4000000 in
set_option maxRecDepth 100000 in
theorem w_X11_eyeOf_2 {l : Launch} {p : Program} {e : Env} {s : State} {m : MethodId} {args : Array Value} {below : List Frame} {meth : Method} {c : Code} {A0 : Nat → Prop} {E : rf_E} {a : Nat → Nat} {I : Nat → Int32} {A : Nat → Nat → Int32} {m_r : Nat → Int32} {z : Int32} (hC : rf_C p E s m args meth c cX11_eyeOf 4 RX11 (some .int) A0) (hD : va_D A0 (cM E a I A)) (e_m_r : A 2 = m_r) :
    ∀ (n : Nat), ∀ (v1 : Int32) (v2 : Int32) (v3 : Int32), f_X11_eyeOf_2 m_r n v1 v2 v3 = some z → ∀ (H : Heap) (locs : List Loc) (ls : Array Slot), va_P (rf_D E) vwCl (cM E a I A) H → va_S A0 s.heap H locs → lv_has ls 4 [(0, .ref (a 0)), (1, .int v1), (2, .int v2), (3, .int v3)] → W p l e ({ frames := 0, cells := 0, slots := 0, locals := 0 }) s m args below meth c H locs 0 0 (rf_QI below args s E A0 z (cM E a I A)) (F0 m 2 ls []) := by
  have hx := hC.1
  have hb := hC.2.1
  intro n
  induction n with
  | zero =>
    intro v1 v2 v3 hf
    have hf : (none : Option (Int32)) = some z := hf
    cases hf
  | succ n ih =>
    intro v1 v2 v3 hf H locs ls hP hS hl
    rw [f_X11_eyeOf_2] at hf
    refine lv_iload_n hx hb dX11_eyeOf_2 rfl (lv_at hl 3 rfl) ?_
    refine lv_aload_n hx hb dX11_eyeOf_3 rfl (lv_at hl 0 rfl) ?_
    refine gM_m_r hC hP tw_1294 dX11_eyeOf_4 ?_
    refine lv_sipush (v := 171) hx hb dX11_eyeOf_7 (by decide) ?_
    refine lv_iload_n hx hb dX11_eyeOf_10 rfl (lv_at hl 1 rfl) ?_
    refine lv_iadd hx hb dX11_eyeOf_11 ?_
    obtain ⟨hi_12, hf⟩ := rf_gu hf
    refine lM_m_r hC hP hi_12 (f := m_r) e_m_r dX11_eyeOf_12 ?_
    refine lv_icmp_ge (tgt := 95) hx hb dX11_eyeOf_13 (by decide) (fun c_13 => ?_) (fun c_13 => ?_)
    · have hf := rf_it c_13 hf
      exact w_X11_eyeOf_95 hC hD e_m_r v3 hf _ _ _ hP hS (lv_sub hl [3] rfl)
    have hf := rf_ie c_13 hf
    refine lv_iload_n hx hb dX11_eyeOf_16 rfl (lv_at hl 3 rfl) ?_
    refine lv_aload_n hx hb dX11_eyeOf_17 rfl (lv_at hl 0 rfl) ?_
    refine gM_m_r hC hP tw_1294 dX11_eyeOf_18 ?_
    refine lv_sipush (v := 171) hx hb dX11_eyeOf_21 (by decide) ?_
    refine lv_iload_n hx hb dX11_eyeOf_24 rfl (lv_at hl 2 rfl) ?_
    refine lv_iadd hx hb dX11_eyeOf_25 ?_
    obtain ⟨hi_26, hf⟩ := rf_gu hf
    refine lM_m_r hC hP hi_26 (f := m_r) e_m_r dX11_eyeOf_26 ?_
    refine lv_icmp_ge (tgt := 95) hx hb dX11_eyeOf_27 (by decide) (fun c_27 => ?_) (fun c_27 => ?_)
    · have hf := rf_it c_27 hf
      exact w_X11_eyeOf_95 hC hD e_m_r v3 hf _ _ _ hP hS (lv_sub hl [3] rfl)
    have hf := rf_ie c_27 hf
    refine lv_aload_n hx hb dX11_eyeOf_30 rfl (lv_at hl 0 rfl) ?_
    refine gM_m_r hC hP tw_1294 dX11_eyeOf_31 ?_
    refine lv_sipush (v := 189) hx hb dX11_eyeOf_34 (by decide) ?_
    refine lv_bipush (v := 8) hx hb dX11_eyeOf_37 (by decide) ?_
    refine lv_iload_n hx hb dX11_eyeOf_39 rfl (lv_at hl 1 rfl) ?_
    refine lv_imul hx hb dX11_eyeOf_40 ?_
    refine lv_iadd hx hb dX11_eyeOf_41 ?_
    refine lv_aload_n hx hb dX11_eyeOf_42 rfl (lv_at hl 0 rfl) ?_
    refine gM_m_r hC hP tw_1294 dX11_eyeOf_43 ?_
    refine lv_sipush (v := 171) hx hb dX11_eyeOf_46 (by decide) ?_
    refine lv_iload_n hx hb dX11_eyeOf_49 rfl (lv_at hl 1 rfl) ?_
    refine lv_iadd hx hb dX11_eyeOf_50 ?_
    obtain ⟨hi_51, hf⟩ := rf_gu hf
    refine lM_m_r hC hP hi_51 (f := m_r) e_m_r dX11_eyeOf_51 ?_
    refine lv_iadd hx hb dX11_eyeOf_52 ?_
    refine lv_iconst (v := 1) hx hb dX11_eyeOf_53 (by decide) ?_
    refine lv_isub hx hb dX11_eyeOf_54 ?_
    refine lv_iload_n hx hb dX11_eyeOf_55 rfl (lv_at hl 3 rfl) ?_
    refine lv_isub hx hb dX11_eyeOf_56 ?_
    obtain ⟨hi_57, hf⟩ := rf_gu hf
    refine lM_m_r hC hP hi_57 (f := m_r) e_m_r dX11_eyeOf_57 ?_
    refine lv_aload_n hx hb dX11_eyeOf_58 rfl (lv_at hl 0 rfl) ?_
    refine gM_m_r hC hP tw_1294 dX11_eyeOf_59 ?_
    refine lv_sipush (v := 189) hx hb dX11_eyeOf_62 (by decide) ?_
    refine lv_bipush (v := 8) hx hb dX11_eyeOf_65 (by decide) ?_
    refine lv_iload_n hx hb dX11_eyeOf_67 rfl (lv_at hl 2 rfl) ?_
    refine lv_imul hx hb dX11_eyeOf_68 ?_
    refine lv_iadd hx hb dX11_eyeOf_69 ?_
    refine lv_aload_n hx hb dX11_eyeOf_70 rfl (lv_at hl 0 rfl) ?_
    refine gM_m_r hC hP tw_1294 dX11_eyeOf_71 ?_
    refine lv_sipush (v := 171) hx hb dX11_eyeOf_74 (by decide) ?_
    refine lv_iload_n hx hb dX11_eyeOf_77 rfl (lv_at hl 2 rfl) ?_
    refine lv_iadd hx hb dX11_eyeOf_78 ?_
    obtain ⟨hi_79, hf⟩ := rf_gu hf
    refine lM_m_r hC hP hi_79 (f := m_r) e_m_r dX11_eyeOf_79 ?_
    refine lv_iadd hx hb dX11_eyeOf_80 ?_
    refine lv_iconst (v := 1) hx hb dX11_eyeOf_81 (by decide) ?_
    refine lv_isub hx hb dX11_eyeOf_82 ?_
    refine lv_iload_n hx hb dX11_eyeOf_83 rfl (lv_at hl 3 rfl) ?_
    refine lv_isub hx hb dX11_eyeOf_84 ?_
    obtain ⟨hi_85, hf⟩ := rf_gu hf
    refine lM_m_r hC hP hi_85 (f := m_r) e_m_r dX11_eyeOf_85 ?_
    refine lv_icmp_ne (tgt := 95) hx hb dX11_eyeOf_86 (by decide) (fun c_86 => ?_) (fun c_86 => ?_)
    · have hf := rf_ie c_86 hf
      exact w_X11_eyeOf_95 hC hD e_m_r v3 hf _ _ _ hP hS (lv_sub hl [3] rfl)
    have hf := rf_it c_86 hf
    refine lv_iinc (v := v3 + 1) (lv' := [(3, .int (v3 + 1)), (0, .ref (a 0)), (1, .int v1), (2, .int v2)]) hx hb dX11_eyeOf_89 hl (k := 3) rfl rfl (by decide) rfl (fun ls hl => ?_)
    refine lv_goto (tgt := 2) hx hb dX11_eyeOf_92 (by decide) ?_
    exact ih v1 v2 (v3 + 1) hf _ _ _ hP hS (lv_sub hl [1, 2, 3, 0] rfl)
set_option maxHeartbeats 4000000 in
set_option maxRecDepth 100000 in
theorem c_X11_eyeOf (l : Launch) (E : rf_E) (a : Nat → Nat) (I : Nat → Int32) (A : Nat → Nat → Int32) (m_r : Nat → Int32) (v1 : Int32) (v2 : Int32) {z : Int32} (e_m_r : A 2 = m_r) (hf : f_X11_eyeOf m_r v1 v2 = some z) : rf_MI l yX11_eyeOf cX11_eyeOf 4 (some .int) ({ frames := 0, cells := 0, slots := 0, locals := 0 }) E [.ref (a 0), .int v1, .int v2] (cM E a I A) z (cM E a I A) := by
  unfold f_X11_eyeOf at hf
  refine rf_ofI (by decide) (Nat.le_of_ble_eq_true rfl) ?_
  intro p e s m below meth c A0 ls hC hD hP hS hl
  have hC : rf_C p E s m _ meth c cX11_eyeOf 4 RX11 (some .int) A0 := hC
  have hx := hC.1
  have hb := hC.2.1
  have hl : lv_has ls 4 [(0, .ref (a 0)), (1, .int v1), (2, .int v2)] := hl
  refine lv_iconst (v := 0) hx hb dX11_eyeOf_0 (by decide) ?_
  refine lv_istore_n (lv' := [(3, .int 0), (0, .ref (a 0)), (1, .int v1), (2, .int v2)]) hx hb dX11_eyeOf_1 rfl hl (by decide) rfl (fun ls hl => ?_)
  exact w_X11_eyeOf_2 hC hD e_m_r rf_fu v1 v2 0 hf _ _ _ hP hS (lv_sub hl [1, 2, 3, 0] rfl)
set_option maxHeartbeats 4000000 in
set_option maxRecDepth 100000 in
theorem w_X11_eye_29 {l : Launch} {p : Program} {e : Env} {s : State} {m : MethodId} {args : Array Value} {below : List Frame} {meth : Method} {c : Code} {A0 : Nat → Prop} {E : rf_E} {a : Nat → Nat} {I : Nat → Int32} {A : Nat → Nat → Int32} {m_hasFerry : Int32} {m_r : Nat → Int32} {z : Int32 × Int32 × Int32} (hC : rf_C p E s m args meth c cX11_eye 3 RX11 (some .int) A0) (hD : va_D A0 (cM E a I A)) (e_m_hasFerry : I 12 = m_hasFerry) (e_m_r : A 2 = m_r) :
    ∀ (m_thrown : Int32) (m_trouble : Int32), f_X11_eye_29 m_hasFerry m_r m_thrown m_trouble = some z → ∀ (H : Heap) (locs : List Loc) (ls : Array Slot), va_P (rf_D E) vwCl (cM E a (rf_upL I [(0, m_thrown), (10, m_trouble)]) A) H → va_S A0 s.heap H locs → lv_has ls 3 [(0, .ref (a 0))] → W p l e ({ frames := 2, cells := 0, slots := 0, locals := 43 }) s m args below meth c H locs 0 0 (rf_QI below args s E A0 z.1 (cM E a (rf_upL I [(0, z.2.1), (10, z.2.2)]) A)) (F0 m 29 ls []) := by
  have hx := hC.1
  have hb := hC.2.1
  intro m_thrown m_trouble hf H locs ls hP hS hl
  unfold f_X11_eye_29 at hf
  refine lv_aload_n hx hb dX11_eye_29 rfl (lv_at hl 0 rfl) ?_
  refine lv_iconst (v := 1) hx hb dX11_eye_30 (by decide) ?_
  obtain ⟨z31, hz31, hf⟩ := rf_bd hf
  refine rf_vi (q0 := 0) (ci := 11) hC (c_X11_no l E a (rf_upL I [(0, m_thrown), (10, m_trouble)]) A m_trouble 1 rfl hz31) kV_X11_no tw_1410 ⟨Nat.le_of_ble_eq_true rfl, Nat.le_of_ble_eq_true rfl⟩ rfl rfl rfl rfl rfl hP (rf_DM hD) hS rfl hl.1 (rest := []) rfl (Nat.le_of_ble_eq_true rfl) dX11_eye_31 (fun H locs hP hS => ?_)
  rw [rf_cat (f := I) (l := [(0, m_thrown), (10, m_trouble)]) (lc := [(10, z31.2)]) (l' := [(0, m_thrown), (10, z31.2)]) rfl] at hP
  obtain rfl := Option.some.inj hf
  exact rf_reti hC hP hS rfl rfl dX11_eye_34
set_option maxHeartbeats 4000000 in
set_option maxRecDepth 100000 in
theorem c_X11_eye (l : Launch) (E : rf_E) (a : Nat → Nat) (I : Nat → Int32) (A : Nat → Nat → Int32) (m_hasFerry : Int32) (m_r : Nat → Int32) (m_thrown : Int32) (m_trouble : Int32) (v1 : Int32) (v2 : Int32) {z : Int32 × Int32 × Int32} (e_m_hasFerry : I 12 = m_hasFerry) (e_m_r : A 2 = m_r) (e_m_thrown : I 0 = m_thrown) (e_m_trouble : I 10 = m_trouble) (hf : f_X11_eye m_hasFerry m_r m_thrown m_trouble v1 v2 = some z) : rf_MI l yX11_eye cX11_eye 3 (some .int) ({ frames := 2, cells := 0, slots := 0, locals := 43 }) E [.ref (a 0), .int v1, .int v2] (cM E a I A) z.1 (cM E a (rf_upL I [(0, z.2.1), (10, z.2.2)]) A) := by
  unfold f_X11_eye at hf
  refine rf_ofI (by decide) (Nat.le_of_ble_eq_true rfl) ?_
  intro p e s m below meth c A0 ls hC hD hP hS hl
  have hC : rf_C p E s m _ meth c cX11_eye 3 RX11 (some .int) A0 := hC
  have hx := hC.1
  have hb := hC.2.1
  have hl : lv_has ls 3 [(0, .ref (a 0)), (1, .int v1), (2, .int v2)] := hl
  have hP : va_P (rf_D E) vwCl (cM E a (rf_upL I [(0, m_thrown), (10, m_trouble)]) A) s.heap := by
    rw [rf_self (f := I) [(0, m_thrown), (10, m_trouble)] (rf_fa1 e_m_thrown (rf_fa1 e_m_trouble rf_fa0))]
    exact hP
  refine lv_aload_n hx hb dX11_eye_0 rfl (lv_at hl 0 rfl) ?_
  obtain ⟨z1, hz1, hf⟩ := rf_bd hf
  refine rf_vv (q0 := 0) (ci := 11) hC (c_X11_good l E a (rf_upL I [(0, m_thrown), (10, m_trouble)]) A m_thrown m_trouble rfl rfl hz1) kV_X11_good tw_1403 ⟨Nat.le_of_ble_eq_true rfl, Nat.le_of_ble_eq_true rfl⟩ rfl rfl rfl rfl rfl hP (rf_DM hD) hS rfl hl.1 (rest := []) rfl (Nat.le_of_ble_eq_true rfl) dX11_eye_1 (fun H locs hP hS => ?_)
  rw [rf_cat (f := I) (l := [(0, m_thrown), (10, m_trouble)]) (lc := [(0, z1.1), (10, z1.2)]) (l' := [(0, z1.1), (10, z1.2)]) rfl] at hP
  refine lv_aload_n hx hb dX11_eye_4 rfl (lv_at hl 0 rfl) ?_
  refine lv_iload_n hx hb dX11_eye_5 rfl (lv_at hl 1 rfl) ?_
  obtain ⟨z6, hz6, hf⟩ := rf_bd hf
  refine rf_vi (q0 := 0) (ci := 11) hC (c_X11_isWordThere l E a (rf_upL I [(0, z1.1), (10, z1.2)]) A m_hasFerry m_r v1 e_m_hasFerry e_m_r hz6) kV_X11_isWordThere tw_1581 ⟨Nat.le_of_ble_eq_true rfl, Nat.le_of_ble_eq_true rfl⟩ rfl rfl rfl rfl rfl hP (rf_DM hD) hS rfl hl.1 (rest := []) rfl (Nat.le_of_ble_eq_true rfl) dX11_eye_6 (fun H locs hP hS => ?_)
  refine lv_if_eq (tgt := 29) hx hb dX11_eye_9 (by decide) (fun c_9 => ?_) (fun c_9 => ?_)
  · have hf := rf_it c_9 hf
    exact w_X11_eye_29 hC hD e_m_hasFerry e_m_r z1.1 z1.2 hf _ _ _ hP hS (lv_sub hl [0] rfl)
  have hf := rf_ie c_9 hf
  refine lv_aload_n hx hb dX11_eye_12 rfl (lv_at hl 0 rfl) ?_
  refine lv_iload_n hx hb dX11_eye_13 rfl (lv_at hl 2 rfl) ?_
  obtain ⟨z14, hz14, hf⟩ := rf_bd hf
  refine rf_vi (q0 := 0) (ci := 11) hC (c_X11_isWordThere l E a (rf_upL I [(0, z1.1), (10, z1.2)]) A m_hasFerry m_r v2 e_m_hasFerry e_m_r hz14) kV_X11_isWordThere tw_1581 ⟨Nat.le_of_ble_eq_true rfl, Nat.le_of_ble_eq_true rfl⟩ rfl rfl rfl rfl rfl hP (rf_DM hD) hS rfl hl.1 (rest := []) rfl (Nat.le_of_ble_eq_true rfl) dX11_eye_14 (fun H locs hP hS => ?_)
  refine lv_if_eq (tgt := 29) hx hb dX11_eye_17 (by decide) (fun c_17 => ?_) (fun c_17 => ?_)
  · have hf := rf_it c_17 hf
    exact w_X11_eye_29 hC hD e_m_hasFerry e_m_r z1.1 z1.2 hf _ _ _ hP hS (lv_sub hl [0] rfl)
  have hf := rf_ie c_17 hf
  refine lv_aload_n hx hb dX11_eye_20 rfl (lv_at hl 0 rfl) ?_
  refine lv_iload_n hx hb dX11_eye_21 rfl (lv_at hl 1 rfl) ?_
  refine lv_iload_n hx hb dX11_eye_22 rfl (lv_at hl 2 rfl) ?_
  obtain ⟨z23, hz23, hf⟩ := rf_bd hf
  refine rf_vi (q0 := 0) (ci := 11) hC (c_X11_eyeOf l E a (rf_upL I [(0, z1.1), (10, z1.2)]) A m_r v1 v2 e_m_r hz23) kV_X11_eyeOf tw_1597 ⟨Nat.le_of_ble_eq_true rfl, Nat.le_of_ble_eq_true rfl⟩ rfl rfl rfl rfl rfl hP (rf_DM hD) hS rfl hl.1 (rest := []) rfl (Nat.le_of_ble_eq_true rfl) dX11_eye_23 (fun H locs hP hS => ?_)
  refine lv_goto (tgt := 34) hx hb dX11_eye_26 (by decide) ?_
  obtain rfl := Option.some.inj hf
  exact rf_reti hC hP hS rfl rfl dX11_eye_34
set_option maxHeartbeats 4000000 in
set_option maxRecDepth 100000 in
theorem w_X11_isPerson_27 {l : Launch} {p : Program} {e : Env} {s : State} {m : MethodId} {args : Array Value} {below : List Frame} {meth : Method} {c : Code} {A0 : Nat → Prop} {E : rf_E} {a : Nat → Nat} {I : Nat → Int32} {A : Nat → Nat → Int32} {m_hasFerry : Int32} {m_r : Nat → Int32} {z : Int32} (hC : rf_C p E s m args meth c cX11_isPerson 2 RX11 (some .boolean) A0) (hD : va_D A0 (cM E a I A)) (e_m_hasFerry : I 12 = m_hasFerry) (e_m_r : A 2 = m_r) :
    ∀ (_ : Unit), f_X11_isPerson_27 m_hasFerry m_r = some z → ∀ (H : Heap) (locs : List Loc) (ls : Array Slot), va_P (rf_D E) vwCl (cM E a I A) H → va_S A0 s.heap H locs → lv_has ls 2 [] → W p l e ({ frames := 1, cells := 0, slots := 0, locals := 22 }) s m args below meth c H locs 0 0 (rf_QI below args s E A0 z (cM E a I A)) (F0 m 27 ls []) := by
  have hx := hC.1
  have hb := hC.2.1
  intro _ hf H locs ls hP hS hl
  unfold f_X11_isPerson_27 at hf
  refine lv_iconst (v := 0) hx hb dX11_isPerson_27 (by decide) ?_
  obtain rfl := Option.some.inj hf
  exact rf_retz hC hP hS (by decide) rfl rfl dX11_isPerson_28
set_option maxHeartbeats 4000000 in
set_option maxRecDepth 100000 in
theorem c_X11_isPerson (l : Launch) (E : rf_E) (a : Nat → Nat) (I : Nat → Int32) (A : Nat → Nat → Int32) (m_hasFerry : Int32) (m_r : Nat → Int32) (v1 : Int32) {z : Int32} (e_m_hasFerry : I 12 = m_hasFerry) (e_m_r : A 2 = m_r) (hf : f_X11_isPerson m_hasFerry m_r v1 = some z) : rf_MI l yX11_isPerson cX11_isPerson 2 (some .boolean) ({ frames := 1, cells := 0, slots := 0, locals := 22 }) E [.ref (a 0), .int v1] (cM E a I A) z (cM E a I A) := by
  unfold f_X11_isPerson at hf
  refine rf_ofI (by decide) (Nat.le_of_ble_eq_true rfl) ?_
  intro p e s m below meth c A0 ls hC hD hP hS hl
  have hC : rf_C p E s m _ meth c cX11_isPerson 2 RX11 (some .boolean) A0 := hC
  have hx := hC.1
  have hb := hC.2.1
  have hl : lv_has ls 2 [(0, .ref (a 0)), (1, .int v1)] := hl
  refine lv_aload_n hx hb dX11_isPerson_0 rfl (lv_at hl 0 rfl) ?_
  refine gM_m_hasFerry hC hP tw_1293 (v := m_hasFerry) e_m_hasFerry dX11_isPerson_1 ?_
  refine lv_if_eq (tgt := 27) hx hb dX11_isPerson_4 (by decide) (fun c_4 => ?_) (fun c_4 => ?_)
  · have hf := rf_it c_4 hf
    exact w_X11_isPerson_27 hC hD e_m_hasFerry e_m_r () hf _ _ _ hP hS (lv_sub hl [] rfl)
  have hf := rf_ie c_4 hf
  refine lv_iload_n hx hb dX11_isPerson_7 rfl (lv_at hl 1 rfl) ?_
  refine lv_iconst (v := 0) hx hb dX11_isPerson_8 (by decide) ?_
  refine lv_aload_n hx hb dX11_isPerson_9 rfl (lv_at hl 0 rfl) ?_
  refine gM_m_r hC hP tw_1294 dX11_isPerson_10 ?_
  refine lv_iconst (v := 3) hx hb dX11_isPerson_13 (by decide) ?_
  refine lM_m_r hC hP (by decide) (f := m_r) e_m_r dX11_isPerson_14 ?_
  refine lv_iconst (v := 1) hx hb dX11_isPerson_15 (by decide) ?_
  refine lv_isub hx hb dX11_isPerson_16 ?_
  obtain ⟨z17, hz17, hf⟩ := rf_bd hf
  refine rf_si0 hC (c_X11_in l E v1 0 ((m_r (Int32.toNatClampNeg 3)) - 1) hz17) kS_X11_in tw_1407 ⟨Nat.le_of_ble_eq_true rfl, Nat.le_of_ble_eq_true rfl⟩ rfl rfl hP hS rfl hl.1 (rest := []) rfl (Nat.le_of_ble_eq_true rfl) dX11_isPerson_17 (fun H locs hP hS => ?_)
  refine lv_if_eq (tgt := 27) hx hb dX11_isPerson_20 (by decide) (fun c_20 => ?_) (fun c_20 => ?_)
  · have hf := rf_it c_20 hf
    exact w_X11_isPerson_27 hC hD e_m_hasFerry e_m_r () hf _ _ _ hP hS (lv_sub hl [] rfl)
  have hf := rf_ie c_20 hf
  refine lv_iconst (v := 1) hx hb dX11_isPerson_23 (by decide) ?_
  refine lv_goto (tgt := 28) hx hb dX11_isPerson_24 (by decide) ?_
  obtain rfl := Option.some.inj hf
  exact rf_retz hC hP hS (by decide) rfl rfl dX11_isPerson_28
set_option maxHeartbeats 4000000 in
set_option maxRecDepth 100000 in
theorem c_X11_kindOf (l : Launch) (E : rf_E) (a : Nat → Nat) (I : Nat → Int32) (A : Nat → Nat → Int32) (m_r : Nat → Int32) (v1 : Int32) {z : Int32} (e_m_r : A 2 = m_r) (hf : f_X11_kindOf m_r v1 = some z) : rf_MI l yX11_kindOf cX11_kindOf 2 (some .int) ({ frames := 0, cells := 0, slots := 0, locals := 0 }) E [.ref (a 0), .int v1] (cM E a I A) z (cM E a I A) := by
  unfold f_X11_kindOf at hf
  refine rf_ofI (by decide) (Nat.le_of_ble_eq_true rfl) ?_
  intro p e s m below meth c A0 ls hC hD hP hS hl
  have hC : rf_C p E s m _ meth c cX11_kindOf 2 RX11 (some .int) A0 := hC
  have hx := hC.1
  have hb := hC.2.1
  have hl : lv_has ls 2 [(0, .ref (a 0)), (1, .int v1)] := hl
  refine lv_aload_n hx hb dX11_kindOf_0 rfl (lv_at hl 0 rfl) ?_
  refine gM_m_r hC hP tw_1294 dX11_kindOf_1 ?_
  refine lv_bipush (v := 89) hx hb dX11_kindOf_4 (by decide) ?_
  refine lv_iconst (v := 4) hx hb dX11_kindOf_6 (by decide) ?_
  refine lv_iload_n hx hb dX11_kindOf_7 rfl (lv_at hl 1 rfl) ?_
  refine lv_imul hx hb dX11_kindOf_8 ?_
  refine lv_iadd hx hb dX11_kindOf_9 ?_
  obtain ⟨hi_10, hf⟩ := rf_gu hf
  refine lM_m_r hC hP hi_10 (f := m_r) e_m_r dX11_kindOf_10 ?_
  obtain rfl := Option.some.inj hf
  exact rf_reti hC hP hS rfl rfl dX11_kindOf_11
set_option maxHeartbeats 4000000 in
set_option maxRecDepth 100000 in
theorem w_X11_person_21 {l : Launch} {p : Program} {e : Env} {s : State} {m : MethodId} {args : Array Value} {below : List Frame} {meth : Method} {c : Code} {A0 : Nat → Prop} {E : rf_E} {a : Nat → Nat} {I : Nat → Int32} {A : Nat → Nat → Int32} {m_hasFerry : Int32} {m_r : Nat → Int32} {m_st : Nat → Int32} {z : Int32 × Int32 × Int32} (hC : rf_C p E s m args meth c cX11_person 3 RX11 (some .int) A0) (hD : va_D A0 (cM E a I A)) (e_m_hasFerry : I 12 = m_hasFerry) (e_m_r : A 2 = m_r) (e_m_st : A 4 = m_st) :
    ∀ (m_thrown : Int32) (m_trouble : Int32), f_X11_person_21 m_hasFerry m_r m_st m_thrown m_trouble = some z → ∀ (H : Heap) (locs : List Loc) (ls : Array Slot), va_P (rf_D E) vwCl (cM E a (rf_upL I [(0, m_thrown), (10, m_trouble)]) A) H → va_S A0 s.heap H locs → lv_has ls 3 [(0, .ref (a 0))] → W p l e ({ frames := 2, cells := 0, slots := 0, locals := 43 }) s m args below meth c H locs 0 0 (rf_QI below args s E A0 z.1 (cM E a (rf_upL I [(0, z.2.1), (10, z.2.2)]) A)) (F0 m 21 ls []) := by
  have hx := hC.1
  have hb := hC.2.1
  intro m_thrown m_trouble hf H locs ls hP hS hl
  unfold f_X11_person_21 at hf
  refine lv_aload_n hx hb dX11_person_21 rfl (lv_at hl 0 rfl) ?_
  refine lv_iconst (v := 1) hx hb dX11_person_22 (by decide) ?_
  obtain ⟨z23, hz23, hf⟩ := rf_bd hf
  refine rf_vi (q0 := 0) (ci := 11) hC (c_X11_no l E a (rf_upL I [(0, m_thrown), (10, m_trouble)]) A m_trouble 1 rfl hz23) kV_X11_no tw_1410 ⟨Nat.le_of_ble_eq_true rfl, Nat.le_of_ble_eq_true rfl⟩ rfl rfl rfl rfl rfl hP (rf_DM hD) hS rfl hl.1 (rest := []) rfl (Nat.le_of_ble_eq_true rfl) dX11_person_23 (fun H locs hP hS => ?_)
  rw [rf_cat (f := I) (l := [(0, m_thrown), (10, m_trouble)]) (lc := [(10, z23.2)]) (l' := [(0, m_thrown), (10, z23.2)]) rfl] at hP
  obtain rfl := Option.some.inj hf
  exact rf_reti hC hP hS rfl rfl dX11_person_26
set_option maxHeartbeats 4000000 in
set_option maxRecDepth 100000 in
theorem c_X11_person (l : Launch) (E : rf_E) (a : Nat → Nat) (I : Nat → Int32) (A : Nat → Nat → Int32) (m_hasFerry : Int32) (m_r : Nat → Int32) (m_st : Nat → Int32) (m_thrown : Int32) (m_trouble : Int32) (v1 : Int32) (v2 : Int32) {z : Int32 × Int32 × Int32} (e_m_hasFerry : I 12 = m_hasFerry) (e_m_r : A 2 = m_r) (e_m_st : A 4 = m_st) (e_m_thrown : I 0 = m_thrown) (e_m_trouble : I 10 = m_trouble) (hf : f_X11_person m_hasFerry m_r m_st m_thrown m_trouble v1 v2 = some z) : rf_MI l yX11_person cX11_person 3 (some .int) ({ frames := 2, cells := 0, slots := 0, locals := 43 }) E [.ref (a 0), .int v1, .int v2] (cM E a I A) z.1 (cM E a (rf_upL I [(0, z.2.1), (10, z.2.2)]) A) := by
  unfold f_X11_person at hf
  refine rf_ofI (by decide) (Nat.le_of_ble_eq_true rfl) ?_
  intro p e s m below meth c A0 ls hC hD hP hS hl
  have hC : rf_C p E s m _ meth c cX11_person 3 RX11 (some .int) A0 := hC
  have hx := hC.1
  have hb := hC.2.1
  have hl : lv_has ls 3 [(0, .ref (a 0)), (1, .int v1), (2, .int v2)] := hl
  have hP : va_P (rf_D E) vwCl (cM E a (rf_upL I [(0, m_thrown), (10, m_trouble)]) A) s.heap := by
    rw [rf_self (f := I) [(0, m_thrown), (10, m_trouble)] (rf_fa1 e_m_thrown (rf_fa1 e_m_trouble rf_fa0))]
    exact hP
  refine lv_aload_n hx hb dX11_person_0 rfl (lv_at hl 0 rfl) ?_
  obtain ⟨z1, hz1, hf⟩ := rf_bd hf
  refine rf_vv (q0 := 0) (ci := 11) hC (c_X11_good l E a (rf_upL I [(0, m_thrown), (10, m_trouble)]) A m_thrown m_trouble rfl rfl hz1) kV_X11_good tw_1403 ⟨Nat.le_of_ble_eq_true rfl, Nat.le_of_ble_eq_true rfl⟩ rfl rfl rfl rfl rfl hP (rf_DM hD) hS rfl hl.1 (rest := []) rfl (Nat.le_of_ble_eq_true rfl) dX11_person_1 (fun H locs hP hS => ?_)
  rw [rf_cat (f := I) (l := [(0, m_thrown), (10, m_trouble)]) (lc := [(0, z1.1), (10, z1.2)]) (l' := [(0, z1.1), (10, z1.2)]) rfl] at hP
  refine lv_aload_n hx hb dX11_person_4 rfl (lv_at hl 0 rfl) ?_
  refine lv_iload_n hx hb dX11_person_5 rfl (lv_at hl 1 rfl) ?_
  obtain ⟨z6, hz6, hf⟩ := rf_bd hf
  refine rf_vi (q0 := 0) (ci := 11) hC (c_X11_isPerson l E a (rf_upL I [(0, z1.1), (10, z1.2)]) A m_hasFerry m_r v1 e_m_hasFerry e_m_r hz6) kV_X11_isPerson tw_1605 ⟨Nat.le_of_ble_eq_true rfl, Nat.le_of_ble_eq_true rfl⟩ rfl rfl rfl rfl rfl hP (rf_DM hD) hS rfl hl.1 (rest := []) rfl (Nat.le_of_ble_eq_true rfl) dX11_person_6 (fun H locs hP hS => ?_)
  refine lv_if_eq (tgt := 21) hx hb dX11_person_9 (by decide) (fun c_9 => ?_) (fun c_9 => ?_)
  · have hf := rf_it c_9 hf
    exact w_X11_person_21 hC hD e_m_hasFerry e_m_r e_m_st z1.1 z1.2 hf _ _ _ hP hS (lv_sub hl [0] rfl)
  have hf := rf_ie c_9 hf
  refine lv_iload_n hx hb dX11_person_12 rfl (lv_at hl 2 rfl) ?_
  refine lv_iconst (v := 0) hx hb dX11_person_13 (by decide) ?_
  refine lv_iconst (v := 4) hx hb dX11_person_14 (by decide) ?_
  obtain ⟨z15, hz15, hf⟩ := rf_bd hf
  refine rf_si0 hC (c_X11_in l E v2 0 4 hz15) kS_X11_in tw_1407 ⟨Nat.le_of_ble_eq_true rfl, Nat.le_of_ble_eq_true rfl⟩ rfl rfl hP hS rfl hl.1 (rest := []) rfl (Nat.le_of_ble_eq_true rfl) dX11_person_15 (fun H locs hP hS => ?_)
  refine lv_if_ne (tgt := 27) hx hb dX11_person_18 (by decide) (fun c_18 => ?_) (fun c_18 => ?_)
  · have hf := rf_ie c_18 hf
    refine lv_iload_n hx hb dX11_person_27 rfl (lv_at hl 2 rfl) ?_
    by_cases c_28_0 : v2 = 0
    · have hf := rf_it c_28_0 hf
      refine lv_tableIn (off := 32) (tgt := 60) hx hb dX11_person_28 (by rw [c_28_0]; decide) (by rw [c_28_0]; decide) (by rw [c_28_0]; decide) (by decide) ?_
      refine lv_aload_n hx hb dX11_person_60 rfl (lv_at hl 0 rfl) ?_
      refine lv_iload_n hx hb dX11_person_61 rfl (lv_at hl 1 rfl) ?_
      obtain ⟨z62, hz62, hf⟩ := rf_bd hf
      refine rf_vi (q0 := 0) (ci := 11) hC (c_X11_kindOf l E a (rf_upL I [(0, z1.1), (10, z1.2)]) A m_r v1 e_m_r hz62) kV_X11_kindOf tw_1609 ⟨Nat.le_of_ble_eq_true rfl, Nat.le_of_ble_eq_true rfl⟩ rfl rfl rfl rfl rfl hP (rf_DM hD) hS rfl hl.1 (rest := []) rfl (Nat.le_of_ble_eq_true rfl) dX11_person_62 (fun H locs hP hS => ?_)
      obtain rfl := Option.some.inj hf
      exact rf_reti hC hP hS rfl rfl dX11_person_65
    have hf := rf_ie c_28_0 hf
    by_cases c_28_1 : v2 = 1
    · have hf := rf_it c_28_1 hf
      refine lv_tableIn (off := 38) (tgt := 66) hx hb dX11_person_28 (by rw [c_28_1]; decide) (by rw [c_28_1]; decide) (by rw [c_28_1]; decide) (by decide) ?_
      refine lv_aload_n hx hb dX11_person_66 rfl (lv_at hl 0 rfl) ?_
      refine gM_m_st hC hP tw_1296 dX11_person_67 ?_
      refine lv_iload_n hx hb dX11_person_70 rfl (lv_at hl 1 rfl) ?_
      obtain ⟨hi_71, hf⟩ := rf_gu hf
      refine lM_m_st hC hP hi_71 (f := m_st) e_m_st dX11_person_71 ?_
      obtain rfl := Option.some.inj hf
      exact rf_reti hC hP hS rfl rfl dX11_person_72
    have hf := rf_ie c_28_1 hf
    by_cases c_28_2 : v2 = 2
    · have hf := rf_it c_28_2 hf
      refine lv_tableIn (off := 45) (tgt := 73) hx hb dX11_person_28 (by rw [c_28_2]; decide) (by rw [c_28_2]; decide) (by rw [c_28_2]; decide) (by decide) ?_
      refine lv_aload_n hx hb dX11_person_73 rfl (lv_at hl 0 rfl) ?_
      refine gM_m_st hC hP tw_1296 dX11_person_74 ?_
      refine lv_bipush (v := 8) hx hb dX11_person_77 (by decide) ?_
      refine lv_iload_n hx hb dX11_person_79 rfl (lv_at hl 1 rfl) ?_
      refine lv_iadd hx hb dX11_person_80 ?_
      obtain ⟨hi_81, hf⟩ := rf_gu hf
      refine lM_m_st hC hP hi_81 (f := m_st) e_m_st dX11_person_81 ?_
      obtain rfl := Option.some.inj hf
      exact rf_reti hC hP hS rfl rfl dX11_person_82
    have hf := rf_ie c_28_2 hf
    by_cases c_28_3 : v2 = 3
    · have hf := rf_it c_28_3 hf
      refine lv_tableIn (off := 55) (tgt := 83) hx hb dX11_person_28 (by rw [c_28_3]; decide) (by rw [c_28_3]; decide) (by rw [c_28_3]; decide) (by decide) ?_
      refine lv_aload_n hx hb dX11_person_83 rfl (lv_at hl 0 rfl) ?_
      refine gM_m_st hC hP tw_1296 dX11_person_84 ?_
      refine lv_bipush (v := 16) hx hb dX11_person_87 (by decide) ?_
      refine lv_iload_n hx hb dX11_person_89 rfl (lv_at hl 1 rfl) ?_
      refine lv_iadd hx hb dX11_person_90 ?_
      obtain ⟨hi_91, hf⟩ := rf_gu hf
      refine lM_m_st hC hP hi_91 (f := m_st) e_m_st dX11_person_91 ?_
      obtain rfl := Option.some.inj hf
      exact rf_reti hC hP hS rfl rfl dX11_person_92
    have hf := rf_ie c_28_3 hf
    refine lv_tableOut (tgt := 93) hx hb dX11_person_28 (rf_tout_0_4 c_28_0 c_28_1 c_28_2 c_28_3) (by decide) ?_
    refine lv_aload_n hx hb dX11_person_93 rfl (lv_at hl 0 rfl) ?_
    refine gM_m_r hC hP tw_1294 dX11_person_94 ?_
    refine lv_bipush (v := 89) hx hb dX11_person_97 (by decide) ?_
    refine lv_iconst (v := 4) hx hb dX11_person_99 (by decide) ?_
    refine lv_iload_n hx hb dX11_person_100 rfl (lv_at hl 1 rfl) ?_
    refine lv_imul hx hb dX11_person_101 ?_
    refine lv_iadd hx hb dX11_person_102 ?_
    refine lv_iconst (v := 3) hx hb dX11_person_103 (by decide) ?_
    refine lv_iadd hx hb dX11_person_104 ?_
    obtain ⟨hi_105, hf⟩ := rf_gu hf
    refine lM_m_r hC hP hi_105 (f := m_r) e_m_r dX11_person_105 ?_
    obtain rfl := Option.some.inj hf
    exact rf_reti hC hP hS rfl rfl dX11_person_106
  have hf := rf_it c_18 hf
  exact w_X11_person_21 hC hD e_m_hasFerry e_m_r e_m_st z1.1 z1.2 hf _ _ _ hP hS (lv_sub hl [0] rfl)
set_option maxHeartbeats 4000000 in
set_option maxRecDepth 100000 in
theorem c_X11_earAt (l : Launch) (E : rf_E) (a : Nat → Nat) (I : Nat → Int32) (A : Nat → Nat → Int32) (m_r : Nat → Int32) (v1 : Int32) {z : Int32} (e_m_r : A 2 = m_r) (hf : f_X11_earAt m_r v1 = some z) : rf_MI l yX11_earAt cX11_earAt 2 (some .int) ({ frames := 0, cells := 0, slots := 0, locals := 0 }) E [.ref (a 0), .int v1] (cM E a I A) z (cM E a I A) := by
  unfold f_X11_earAt at hf
  refine rf_ofI (by decide) (Nat.le_of_ble_eq_true rfl) ?_
  intro p e s m below meth c A0 ls hC hD hP hS hl
  have hC : rf_C p E s m _ meth c cX11_earAt 2 RX11 (some .int) A0 := hC
  have hx := hC.1
  have hb := hC.2.1
  have hl : lv_has ls 2 [(0, .ref (a 0)), (1, .int v1)] := hl
  refine lv_aload_n hx hb dX11_earAt_0 rfl (lv_at hl 0 rfl) ?_
  refine gM_m_r hC hP tw_1294 dX11_earAt_1 ?_
  refine lv_sipush (v := 129) hx hb dX11_earAt_4 (by decide) ?_
  refine lv_iload_n hx hb dX11_earAt_7 rfl (lv_at hl 1 rfl) ?_
  refine lv_iadd hx hb dX11_earAt_8 ?_
  obtain ⟨hi_9, hf⟩ := rf_gu hf
  refine lM_m_r hC hP hi_9 (f := m_r) e_m_r dX11_earAt_9 ?_
  refine lv_if_le (tgt := 26) hx hb dX11_earAt_10 (by decide) (fun c_10 => ?_) (fun c_10 => ?_)
  · have hf := rf_it c_10 hf
    refine lv_aload_n hx hb dX11_earAt_26 rfl (lv_at hl 0 rfl) ?_
    refine gM_m_r hC hP tw_1294 dX11_earAt_27 ?_
    refine lv_iconst (v := 0) hx hb dX11_earAt_30 (by decide) ?_
    refine lM_m_r hC hP (by decide) (f := m_r) e_m_r dX11_earAt_31 ?_
    obtain rfl := Option.some.inj hf
    exact rf_reti hC hP hS rfl rfl dX11_earAt_32
  have hf := rf_ie c_10 hf
  refine lv_aload_n hx hb dX11_earAt_13 rfl (lv_at hl 0 rfl) ?_
  refine gM_m_r hC hP tw_1294 dX11_earAt_14 ?_
  refine lv_sipush (v := 129) hx hb dX11_earAt_17 (by decide) ?_
  refine lv_iload_n hx hb dX11_earAt_20 rfl (lv_at hl 1 rfl) ?_
  refine lv_iadd hx hb dX11_earAt_21 ?_
  obtain ⟨hi_22, hf⟩ := rf_gu hf
  refine lM_m_r hC hP hi_22 (f := m_r) e_m_r dX11_earAt_22 ?_
  refine lv_goto (tgt := 32) hx hb dX11_earAt_23 (by decide) ?_
  obtain rfl := Option.some.inj hf
  exact rf_reti hC hP hS rfl rfl dX11_earAt_32
set_option maxHeartbeats 4000000 in
set_option maxRecDepth 100000 in
theorem c_X11_isHour (l : Launch) (E : rf_E) (v0 : Int32) {z : Int32} (hf : f_X11_isHour v0 = some z) : rf_MI l yX11_isHour cX11_isHour 1 (some .boolean) ({ frames := 1, cells := 0, slots := 0, locals := 22 }) E [.int v0] ([]) z ([]) := by
  unfold f_X11_isHour at hf
  refine rf_ofI (by decide) (Nat.le_of_ble_eq_true rfl) ?_
  intro p e s m below meth c A0 ls hC hD hP hS hl
  have hC : rf_C p E s m _ meth c cX11_isHour 1 RX11 (some .boolean) A0 := hC
  have hx := hC.1
  have hb := hC.2.1
  have hl : lv_has ls 1 [(0, .int v0)] := hl
  refine lv_iload_n hx hb dX11_isHour_0 rfl (lv_at hl 0 rfl) ?_
  refine lv_iconst (v := 0) hx hb dX11_isHour_1 (by decide) ?_
  refine lv_bipush (v := 23) hx hb dX11_isHour_2 (by decide) ?_
  obtain ⟨z4, hz4, hf⟩ := rf_bd hf
  refine rf_si0 hC (c_X11_in l E v0 0 23 hz4) kS_X11_in tw_1407 ⟨Nat.le_of_ble_eq_true rfl, Nat.le_of_ble_eq_true rfl⟩ rfl rfl hP hS rfl hl.1 (rest := []) rfl (Nat.le_of_ble_eq_true rfl) dX11_isHour_4 (fun H locs hP hS => ?_)
  obtain ⟨hz_7, hf⟩ := rf_gu hf
  obtain rfl := Option.some.inj hf
  exact rf_retz hC hP hS hz_7 rfl rfl dX11_isHour_7
set_option maxHeartbeats 4000000 in
set_option maxRecDepth 100000 in
theorem c_X11_why (l : Launch) (E : rf_E) (a : Nat → Nat) (I : Nat → Int32) (A : Nat → Nat → Int32) (v1 : Int32) (v2 : Int32) {z : Int32} (hf : f_X11_why v1 v2 = some z) : rf_MI l yX11_why cX11_why 3 (some .int) ({ frames := 2, cells := 0, slots := 0, locals := 42 }) E [.ref (a 0), .int v1, .int v2] (cM E a I A) z (cM E a I A) := by
  unfold f_X11_why at hf
  refine rf_ofI (by decide) (Nat.le_of_ble_eq_true rfl) ?_
  intro p e s m below meth c A0 ls hC hD hP hS hl
  have hC : rf_C p E s m _ meth c cX11_why 3 RX11 (some .int) A0 := hC
  have hx := hC.1
  have hb := hC.2.1
  have hl : lv_has ls 3 [(0, .ref (a 0)), (1, .int v1), (2, .int v2)] := hl
  refine lv_iload_n hx hb dX11_why_0 rfl (lv_at hl 1 rfl) ?_
  refine lv_if_ne (tgt := 8) hx hb dX11_why_1 (by decide) (fun c_1 => ?_) (fun c_1 => ?_)
  · have hf := rf_ie c_1 hf
    refine lv_iload_n hx hb dX11_why_8 rfl (lv_at hl 2 rfl) ?_
    obtain ⟨z9, hz9, hf⟩ := rf_bd hf
    refine rf_si0 hC (c_X11_isHour l E v2 hz9) kS_X11_isHour tw_1621 ⟨Nat.le_of_ble_eq_true rfl, Nat.le_of_ble_eq_true rfl⟩ rfl rfl hP hS rfl hl.1 (rest := []) rfl (Nat.le_of_ble_eq_true rfl) dX11_why_9 (fun H locs hP hS => ?_)
    refine lv_if_eq (tgt := 19) hx hb dX11_why_12 (by decide) (fun c_12 => ?_) (fun c_12 => ?_)
    · have hf := rf_it c_12 hf
      refine lv_iconst (v := 2) hx hb dX11_why_19 (by decide) ?_
      obtain rfl := Option.some.inj hf
      exact rf_reti hC hP hS rfl rfl dX11_why_20
    have hf := rf_ie c_12 hf
    refine lv_iconst (v := 0) hx hb dX11_why_15 (by decide) ?_
    refine lv_goto (tgt := 20) hx hb dX11_why_16 (by decide) ?_
    obtain rfl := Option.some.inj hf
    exact rf_reti hC hP hS rfl rfl dX11_why_20
  have hf := rf_it c_1 hf
  refine lv_iconst (v := 1) hx hb dX11_why_4 (by decide) ?_
  refine lv_goto (tgt := 20) hx hb dX11_why_5 (by decide) ?_
  obtain rfl := Option.some.inj hf
  exact rf_reti hC hP hS rfl rfl dX11_why_20
set_option maxHeartbeats 4000000 in
set_option maxRecDepth 100000 in
theorem c_X11_ear (l : Launch) (E : rf_E) (a : Nat → Nat) (I : Nat → Int32) (A : Nat → Nat → Int32) (m_hasFerry : Int32) (m_r : Nat → Int32) (m_thrown : Int32) (m_trouble : Int32) (v1 : Int32) {z : Int32 × Int32 × Int32} (e_m_hasFerry : I 12 = m_hasFerry) (e_m_r : A 2 = m_r) (e_m_thrown : I 0 = m_thrown) (e_m_trouble : I 10 = m_trouble) (hf : f_X11_ear m_hasFerry m_r m_thrown m_trouble v1 = some z) : rf_MI l yX11_ear cX11_ear 3 (some .int) ({ frames := 3, cells := 0, slots := 0, locals := 64 }) E [.ref (a 0), .int v1] (cM E a I A) z.1 (cM E a (rf_upL I [(0, z.2.1), (10, z.2.2)]) A) := by
  unfold f_X11_ear at hf
  refine rf_ofI (by decide) (Nat.le_of_ble_eq_true rfl) ?_
  intro p e s m below meth c A0 ls hC hD hP hS hl
  have hC : rf_C p E s m _ meth c cX11_ear 3 RX11 (some .int) A0 := hC
  have hx := hC.1
  have hb := hC.2.1
  have hl : lv_has ls 3 [(0, .ref (a 0)), (1, .int v1)] := hl
  have hP : va_P (rf_D E) vwCl (cM E a (rf_upL I [(0, m_thrown), (10, m_trouble)]) A) s.heap := by
    rw [rf_self (f := I) [(0, m_thrown), (10, m_trouble)] (rf_fa1 e_m_thrown (rf_fa1 e_m_trouble rf_fa0))]
    exact hP
  refine lv_aload_n hx hb dX11_ear_0 rfl (lv_at hl 0 rfl) ?_
  obtain ⟨z1, hz1, hf⟩ := rf_bd hf
  refine rf_vv (q0 := 0) (ci := 11) hC (c_X11_good l E a (rf_upL I [(0, m_thrown), (10, m_trouble)]) A m_thrown m_trouble rfl rfl hz1) kV_X11_good tw_1403 ⟨Nat.le_of_ble_eq_true rfl, Nat.le_of_ble_eq_true rfl⟩ rfl rfl rfl rfl rfl hP (rf_DM hD) hS rfl hl.1 (rest := []) rfl (Nat.le_of_ble_eq_true rfl) dX11_ear_1 (fun H locs hP hS => ?_)
  rw [rf_cat (f := I) (l := [(0, m_thrown), (10, m_trouble)]) (lc := [(0, z1.1), (10, z1.2)]) (l' := [(0, z1.1), (10, z1.2)]) rfl] at hP
  refine lv_aload_n hx hb dX11_ear_4 rfl (lv_at hl 0 rfl) ?_
  refine lv_aload_n hx hb dX11_ear_5 rfl (lv_at hl 0 rfl) ?_
  refine gM_m_hasFerry hC hP tw_1293 (v := m_hasFerry) e_m_hasFerry dX11_ear_6 ?_
  refine lv_iload_n hx hb dX11_ear_9 rfl (lv_at hl 1 rfl) ?_
  obtain ⟨z10, hz10, hf⟩ := rf_bd hf
  refine rf_vi (q0 := 0) (ci := 11) hC (c_X11_why l E a (rf_upL I [(0, z1.1), (10, z1.2)]) A m_hasFerry v1 hz10) kV_X11_why tw_1617 ⟨Nat.le_of_ble_eq_true rfl, Nat.le_of_ble_eq_true rfl⟩ rfl rfl rfl rfl rfl hP (rf_DM hD) hS rfl hl.1 (rest := []) rfl (Nat.le_of_ble_eq_true rfl) dX11_ear_10 (fun H locs hP hS => ?_)
  refine lv_istore_n (lv' := [(2, .int z10), (0, .ref (a 0)), (1, .int v1)]) hx hb dX11_ear_13 rfl hl (by decide) rfl (fun ls hl => ?_)
  refine lv_iload_n hx hb dX11_ear_14 rfl (lv_at hl 0 rfl) ?_
  refine lv_if_eq (tgt := 26) hx hb dX11_ear_15 (by decide) (fun c_15 => ?_) (fun c_15 => ?_)
  · have hf := rf_it c_15 hf
    refine lv_aload_n hx hb dX11_ear_26 rfl (lv_at hl 1 rfl) ?_
    refine lv_iload_n hx hb dX11_ear_27 rfl (lv_at hl 2 rfl) ?_
    obtain ⟨z28, hz28, hf⟩ := rf_bd hf
    refine rf_vi (q0 := 0) (ci := 11) hC (c_X11_earAt l E a (rf_upL I [(0, z1.1), (10, z1.2)]) A m_r v1 e_m_r hz28) kV_X11_earAt tw_1624 ⟨Nat.le_of_ble_eq_true rfl, Nat.le_of_ble_eq_true rfl⟩ rfl rfl rfl rfl rfl hP (rf_DM hD) hS rfl hl.1 (rest := []) rfl (Nat.le_of_ble_eq_true rfl) dX11_ear_28 (fun H locs hP hS => ?_)
    obtain rfl := Option.some.inj hf
    exact rf_reti hC hP hS rfl rfl dX11_ear_31
  have hf := rf_ie c_15 hf
  refine lv_aload_n hx hb dX11_ear_18 rfl (lv_at hl 1 rfl) ?_
  refine lv_iload_n hx hb dX11_ear_19 rfl (lv_at hl 0 rfl) ?_
  obtain ⟨z20, hz20, hf⟩ := rf_bd hf
  refine rf_vi (q0 := 0) (ci := 11) hC (c_X11_no l E a (rf_upL I [(0, z1.1), (10, z1.2)]) A z1.2 z10 rfl hz20) kV_X11_no tw_1410 ⟨Nat.le_of_ble_eq_true rfl, Nat.le_of_ble_eq_true rfl⟩ rfl rfl rfl rfl rfl hP (rf_DM hD) hS rfl hl.1 (rest := []) rfl (Nat.le_of_ble_eq_true rfl) dX11_ear_20 (fun H locs hP hS => ?_)
  rw [rf_cat (f := I) (l := [(0, z1.1), (10, z1.2)]) (lc := [(10, z20.2)]) (l' := [(0, z1.1), (10, z20.2)]) rfl] at hP
  refine lv_goto (tgt := 31) hx hb dX11_ear_23 (by decide) ?_
  obtain rfl := Option.some.inj hf
  exact rf_reti hC hP hS rfl rfl dX11_ear_31
set_option maxHeartbeats 4000000 in
set_option maxRecDepth 100000 in
theorem w_X11_areTwo_25 {l : Launch} {p : Program} {e : Env} {s : State} {m : MethodId} {args : Array Value} {below : List Frame} {meth : Method} {c : Code} {A0 : Nat → Prop} {E : rf_E} {a : Nat → Nat} {I : Nat → Int32} {A : Nat → Nat → Int32} {m_hasFerry : Int32} {m_r : Nat → Int32} {z : Int32} (hC : rf_C p E s m args meth c cX11_areTwo 3 RX11 (some .boolean) A0) (hD : va_D A0 (cM E a I A)) (e_m_hasFerry : I 12 = m_hasFerry) (e_m_r : A 2 = m_r) :
    ∀ (_ : Unit), f_X11_areTwo_25 m_hasFerry m_r = some z → ∀ (H : Heap) (locs : List Loc) (ls : Array Slot), va_P (rf_D E) vwCl (cM E a I A) H → va_S A0 s.heap H locs → lv_has ls 3 [] → W p l e ({ frames := 2, cells := 0, slots := 0, locals := 43 }) s m args below meth c H locs 0 0 (rf_QI below args s E A0 z (cM E a I A)) (F0 m 25 ls []) := by
  have hx := hC.1
  have hb := hC.2.1
  intro _ hf H locs ls hP hS hl
  unfold f_X11_areTwo_25 at hf
  refine lv_iconst (v := 0) hx hb dX11_areTwo_25 (by decide) ?_
  obtain rfl := Option.some.inj hf
  exact rf_retz hC hP hS (by decide) rfl rfl dX11_areTwo_26
set_option maxHeartbeats 4000000 in
set_option maxRecDepth 100000 in
theorem c_X11_areTwo (l : Launch) (E : rf_E) (a : Nat → Nat) (I : Nat → Int32) (A : Nat → Nat → Int32) (m_hasFerry : Int32) (m_r : Nat → Int32) (v1 : Int32) (v2 : Int32) {z : Int32} (e_m_hasFerry : I 12 = m_hasFerry) (e_m_r : A 2 = m_r) (hf : f_X11_areTwo m_hasFerry m_r v1 v2 = some z) : rf_MI l yX11_areTwo cX11_areTwo 3 (some .boolean) ({ frames := 2, cells := 0, slots := 0, locals := 43 }) E [.ref (a 0), .int v1, .int v2] (cM E a I A) z (cM E a I A) := by
  unfold f_X11_areTwo at hf
  refine rf_ofI (by decide) (Nat.le_of_ble_eq_true rfl) ?_
  intro p e s m below meth c A0 ls hC hD hP hS hl
  have hC : rf_C p E s m _ meth c cX11_areTwo 3 RX11 (some .boolean) A0 := hC
  have hx := hC.1
  have hb := hC.2.1
  have hl : lv_has ls 3 [(0, .ref (a 0)), (1, .int v1), (2, .int v2)] := hl
  refine lv_aload_n hx hb dX11_areTwo_0 rfl (lv_at hl 0 rfl) ?_
  refine lv_iload_n hx hb dX11_areTwo_1 rfl (lv_at hl 1 rfl) ?_
  obtain ⟨z2, hz2, hf⟩ := rf_bd hf
  refine rf_vi (q0 := 0) (ci := 11) hC (c_X11_isPerson l E a I A m_hasFerry m_r v1 e_m_hasFerry e_m_r hz2) kV_X11_isPerson tw_1605 ⟨Nat.le_of_ble_eq_true rfl, Nat.le_of_ble_eq_true rfl⟩ rfl rfl rfl rfl rfl hP (rf_DM hD) hS rfl hl.1 (rest := []) rfl (Nat.le_of_ble_eq_true rfl) dX11_areTwo_2 (fun H locs hP hS => ?_)
  refine lv_if_eq (tgt := 25) hx hb dX11_areTwo_5 (by decide) (fun c_5 => ?_) (fun c_5 => ?_)
  · have hf := rf_it c_5 hf
    exact w_X11_areTwo_25 hC hD e_m_hasFerry e_m_r () hf _ _ _ hP hS (lv_sub hl [] rfl)
  have hf := rf_ie c_5 hf
  refine lv_aload_n hx hb dX11_areTwo_8 rfl (lv_at hl 0 rfl) ?_
  refine lv_iload_n hx hb dX11_areTwo_9 rfl (lv_at hl 2 rfl) ?_
  obtain ⟨z10, hz10, hf⟩ := rf_bd hf
  refine rf_vi (q0 := 0) (ci := 11) hC (c_X11_isPerson l E a I A m_hasFerry m_r v2 e_m_hasFerry e_m_r hz10) kV_X11_isPerson tw_1605 ⟨Nat.le_of_ble_eq_true rfl, Nat.le_of_ble_eq_true rfl⟩ rfl rfl rfl rfl rfl hP (rf_DM hD) hS rfl hl.1 (rest := []) rfl (Nat.le_of_ble_eq_true rfl) dX11_areTwo_10 (fun H locs hP hS => ?_)
  refine lv_if_eq (tgt := 25) hx hb dX11_areTwo_13 (by decide) (fun c_13 => ?_) (fun c_13 => ?_)
  · have hf := rf_it c_13 hf
    exact w_X11_areTwo_25 hC hD e_m_hasFerry e_m_r () hf _ _ _ hP hS (lv_sub hl [] rfl)
  have hf := rf_ie c_13 hf
  refine lv_iload_n hx hb dX11_areTwo_16 rfl (lv_at hl 1 rfl) ?_
  refine lv_iload_n hx hb dX11_areTwo_17 rfl (lv_at hl 2 rfl) ?_
  refine lv_icmp_eq (tgt := 25) hx hb dX11_areTwo_18 (by decide) (fun c_18 => ?_) (fun c_18 => ?_)
  · have hf := rf_it c_18 hf
    exact w_X11_areTwo_25 hC hD e_m_hasFerry e_m_r () hf _ _ _ hP hS (lv_sub hl [] rfl)
  have hf := rf_ie c_18 hf
  refine lv_iconst (v := 1) hx hb dX11_areTwo_21 (by decide) ?_
  refine lv_goto (tgt := 26) hx hb dX11_areTwo_22 (by decide) ?_
  obtain rfl := Option.some.inj hf
  exact rf_retz hC hP hS (by decide) rfl rfl dX11_areTwo_26
set_option maxHeartbeats 4000000 in
set_option maxRecDepth 100000 in
theorem w_X11_rhymeOf_10 {l : Launch} {p : Program} {e : Env} {s : State} {m : MethodId} {args : Array Value} {below : List Frame} {meth : Method} {c : Code} {A0 : Nat → Prop} {E : rf_E} {a : Nat → Nat} {I : Nat → Int32} {A : Nat → Nat → Int32} {m_r : Nat → Int32} {z : Int32} (hC : rf_C p E s m args meth c cX11_rhymeOf 10 RX11 (some .int) A0) (hD : va_D A0 (cM E a I A)) (e_m_r : A 2 = m_r) :
    ∀ (_ : Unit), f_X11_rhymeOf_10 m_r = some z → ∀ (H : Heap) (locs : List Loc) (ls : Array Slot), va_P (rf_D E) vwCl (cM E a I A) H → va_S A0 s.heap H locs → lv_has ls 10 [] → W p l e ({ frames := 2, cells := 0, slots := 0, locals := 48 }) s m args below meth c H locs 0 0 (rf_QI below args s E A0 z (cM E a I A)) (F0 m 10 ls []) := by
  have hx := hC.1
  have hb := hC.2.1
  intro _ hf H locs ls hP hS hl
  unfold f_X11_rhymeOf_10 at hf
  refine lv_iconst (v := 2) hx hb dX11_rhymeOf_10 (by decide) ?_
  obtain rfl := Option.some.inj hf
  exact rf_reti hC hP hS rfl rfl dX11_rhymeOf_11
set_option maxHeartbeats 4000000 in
set_option maxRecDepth 100000 in
theorem w_X11_rhymeOf_156 {l : Launch} {p : Program} {e : Env} {s : State} {m : MethodId} {args : Array Value} {below : List Frame} {meth : Method} {c : Code} {A0 : Nat → Prop} {E : rf_E} {a : Nat → Nat} {I : Nat → Int32} {A : Nat → Nat → Int32} {m_r : Nat → Int32} {z : Int32} (hC : rf_C p E s m args meth c cX11_rhymeOf 10 RX11 (some .int) A0) (hD : va_D A0 (cM E a I A)) (e_m_r : A 2 = m_r) :
    ∀ (_ : Unit), f_X11_rhymeOf_156 m_r = some z → ∀ (H : Heap) (locs : List Loc) (ls : Array Slot), va_P (rf_D E) vwCl (cM E a I A) H → va_S A0 s.heap H locs → lv_has ls 10 [] → W p l e ({ frames := 2, cells := 0, slots := 0, locals := 48 }) s m args below meth c H locs 0 0 (rf_QI below args s E A0 z (cM E a I A)) (F0 m 156 ls []) := by
  have hx := hC.1
  have hb := hC.2.1
  intro _ hf H locs ls hP hS hl
  unfold f_X11_rhymeOf_156 at hf
  refine lv_iconst (v := 2) hx hb dX11_rhymeOf_156 (by decide) ?_
  refine lv_goto (tgt := 161) hx hb dX11_rhymeOf_157 (by decide) ?_
  obtain rfl := Option.some.inj hf
  exact rf_reti hC hP hS rfl rfl dX11_rhymeOf_161
set_option maxHeartbeats 4000000 in
set_option maxRecDepth 100000 in
theorem w_X11_rhymeOf_112 {l : Launch} {p : Program} {e : Env} {s : State} {m : MethodId} {args : Array Value} {below : List Frame} {meth : Method} {c : Code} {A0 : Nat → Prop} {E : rf_E} {a : Nat → Nat} {I : Nat → Int32} {A : Nat → Nat → Int32} {m_r : Nat → Int32} {z : Int32} (hC : rf_C p E s m args meth c cX11_rhymeOf 10 RX11 (some .int) A0) (hD : va_D A0 (cM E a I A)) (e_m_r : A 2 = m_r) {k18 : Int32 → Int32 → Int32 → Int32 → Int32 → Int32 → Int32 → Option (Int32)} (hk18 : ∀ (v1 : Int32) (v2 : Int32) (v3 : Int32) (v4 : Int32) (v5 : Int32) (v6 : Int32) (v7 : Int32), k18 v1 v2 v3 v4 v5 v6 v7 = some z → ∀ (H : Heap) (locs : List Loc) (ls : Array Slot), va_P (rf_D E) vwCl (cM E a I A) H → va_S A0 s.heap H locs → lv_has ls 10 [(0, .ref (a 0)), (1, .int v1), (2, .int v2), (3, .int v3), (4, .int v4), (5, .int v5), (6, .int v6), (7, .int v7)] → W p l e ({ frames := 2, cells := 0, slots := 0, locals := 48 }) s m args below meth c H locs 0 0 (rf_QI below args s E A0 z (cM E a I A)) (F0 m 18 ls [])) {k32 : Int32 → Int32 → Int32 → Int32 → Int32 → Int32 → Int32 → Int32 → Option (Int32)} (hk32 : ∀ (v1 : Int32) (v2 : Int32) (v3 : Int32) (v4 : Int32) (v5 : Int32) (v6 : Int32) (v7 : Int32) (v8 : Int32), k32 v1 v2 v3 v4 v5 v6 v7 v8 = some z → ∀ (H : Heap) (locs : List Loc) (ls : Array Slot), va_P (rf_D E) vwCl (cM E a I A) H → va_S A0 s.heap H locs → lv_has ls 10 [(0, .ref (a 0)), (1, .int v1), (2, .int v2), (3, .int v3), (4, .int v4), (5, .int v5), (6, .int v6), (7, .int v7), (8, .int v8)] → W p l e ({ frames := 2, cells := 0, slots := 0, locals := 48 }) s m args below meth c H locs 0 0 (rf_QI below args s E A0 z (cM E a I A)) (F0 m 32 ls [])) :
    ∀ (v1 : Int32) (v2 : Int32) (v3 : Int32) (v4 : Int32) (v5 : Int32) (v6 : Int32) (v7 : Int32) (v8 : Int32), f_X11_rhymeOf_112 k18 k32 m_r v1 v2 v3 v4 v5 v6 v7 v8 = some z → ∀ (H : Heap) (locs : List Loc) (ls : Array Slot), va_P (rf_D E) vwCl (cM E a I A) H → va_S A0 s.heap H locs → lv_has ls 10 [(0, .ref (a 0)), (1, .int v1), (2, .int v2), (3, .int v3), (4, .int v4), (5, .int v5), (6, .int v6), (7, .int v7), (8, .int v8)] → W p l e ({ frames := 2, cells := 0, slots := 0, locals := 48 }) s m args below meth c H locs 0 0 (rf_QI below args s E A0 z (cM E a I A)) (F0 m 112 ls []) := by
  have hx := hC.1
  have hb := hC.2.1
  intro v1 v2 v3 v4 v5 v6 v7 v8 hf H locs ls hP hS hl
  unfold f_X11_rhymeOf_112 at hf
  refine lv_iinc (v := v8 + 1) (lv' := [(8, .int (v8 + 1)), (0, .ref (a 0)), (1, .int v1), (2, .int v2), (3, .int v3), (4, .int v4), (5, .int v5), (6, .int v6), (7, .int v7)]) hx hb dX11_rhymeOf_112 hl (k := 8) rfl rfl (by decide) rfl (fun ls hl => ?_)
  refine lv_goto (tgt := 32) hx hb dX11_rhymeOf_115 (by decide) ?_
  exact hk32 v1 v2 v3 v4 v5 v6 v7 (v8 + 1) hf _ _ _ hP hS (lv_sub hl [1, 2, 3, 4, 5, 6, 7, 8, 0] rfl)
set_option maxHeartbeats 4000000 in
set_option maxRecDepth 100000 in
theorem w_X11_rhymeOf_110 {l : Launch} {p : Program} {e : Env} {s : State} {m : MethodId} {args : Array Value} {below : List Frame} {meth : Method} {c : Code} {A0 : Nat → Prop} {E : rf_E} {a : Nat → Nat} {I : Nat → Int32} {A : Nat → Nat → Int32} {m_r : Nat → Int32} {z : Int32} (hC : rf_C p E s m args meth c cX11_rhymeOf 10 RX11 (some .int) A0) (hD : va_D A0 (cM E a I A)) (e_m_r : A 2 = m_r) {k18 : Int32 → Int32 → Int32 → Int32 → Int32 → Int32 → Int32 → Option (Int32)} (hk18 : ∀ (v1 : Int32) (v2 : Int32) (v3 : Int32) (v4 : Int32) (v5 : Int32) (v6 : Int32) (v7 : Int32), k18 v1 v2 v3 v4 v5 v6 v7 = some z → ∀ (H : Heap) (locs : List Loc) (ls : Array Slot), va_P (rf_D E) vwCl (cM E a I A) H → va_S A0 s.heap H locs → lv_has ls 10 [(0, .ref (a 0)), (1, .int v1), (2, .int v2), (3, .int v3), (4, .int v4), (5, .int v5), (6, .int v6), (7, .int v7)] → W p l e ({ frames := 2, cells := 0, slots := 0, locals := 48 }) s m args below meth c H locs 0 0 (rf_QI below args s E A0 z (cM E a I A)) (F0 m 18 ls [])) {k32 : Int32 → Int32 → Int32 → Int32 → Int32 → Int32 → Int32 → Int32 → Option (Int32)} (hk32 : ∀ (v1 : Int32) (v2 : Int32) (v3 : Int32) (v4 : Int32) (v5 : Int32) (v6 : Int32) (v7 : Int32) (v8 : Int32), k32 v1 v2 v3 v4 v5 v6 v7 v8 = some z → ∀ (H : Heap) (locs : List Loc) (ls : Array Slot), va_P (rf_D E) vwCl (cM E a I A) H → va_S A0 s.heap H locs → lv_has ls 10 [(0, .ref (a 0)), (1, .int v1), (2, .int v2), (3, .int v3), (4, .int v4), (5, .int v5), (6, .int v6), (7, .int v7), (8, .int v8)] → W p l e ({ frames := 2, cells := 0, slots := 0, locals := 48 }) s m args below meth c H locs 0 0 (rf_QI below args s E A0 z (cM E a I A)) (F0 m 32 ls [])) :
    ∀ (v1 : Int32) (v2 : Int32) (v3 : Int32) (v4 : Int32) (v5 : Int32) (v7 : Int32) (v8 : Int32) (s0 : Int32), f_X11_rhymeOf_110 k18 k32 m_r v1 v2 v3 v4 v5 v7 v8 s0 = some z → ∀ (H : Heap) (locs : List Loc) (ls : Array Slot), va_P (rf_D E) vwCl (cM E a I A) H → va_S A0 s.heap H locs → lv_has ls 10 [(0, .ref (a 0)), (1, .int v1), (2, .int v2), (3, .int v3), (4, .int v4), (5, .int v5), (7, .int v7), (8, .int v8)] → W p l e ({ frames := 2, cells := 0, slots := 0, locals := 48 }) s m args below meth c H locs 0 0 (rf_QI below args s E A0 z (cM E a I A)) (F0 m 110 ls [.int s0]) := by
  have hx := hC.1
  have hb := hC.2.1
  intro v1 v2 v3 v4 v5 v7 v8 s0 hf H locs ls hP hS hl
  unfold f_X11_rhymeOf_110 at hf
  refine lv_istore (lv' := [(6, .int s0), (0, .ref (a 0)), (1, .int v1), (2, .int v2), (3, .int v3), (4, .int v4), (5, .int v5), (7, .int v7), (8, .int v8)]) hx hb dX11_rhymeOf_110 hl (by decide) rfl (fun ls hl => ?_)
  exact w_X11_rhymeOf_112 hC hD e_m_r hk18 hk32 v1 v2 v3 v4 v5 s0 v7 v8 hf _ _ _ hP hS (lv_sub hl [1, 2, 3, 4, 5, 6, 0, 7, 8] rfl)
set_option maxHeartbeats 4000000 in
set_option maxRecDepth 100000 in
theorem w_X11_rhymeOf_94 {l : Launch} {p : Program} {e : Env} {s : State} {m : MethodId} {args : Array Value} {below : List Frame} {meth : Method} {c : Code} {A0 : Nat → Prop} {E : rf_E} {a : Nat → Nat} {I : Nat → Int32} {A : Nat → Nat → Int32} {m_r : Nat → Int32} {z : Int32} (hC : rf_C p E s m args meth c cX11_rhymeOf 10 RX11 (some .int) A0) (hD : va_D A0 (cM E a I A)) (e_m_r : A 2 = m_r) {k18 : Int32 → Int32 → Int32 → Int32 → Int32 → Int32 → Int32 → Option (Int32)} (hk18 : ∀ (v1 : Int32) (v2 : Int32) (v3 : Int32) (v4 : Int32) (v5 : Int32) (v6 : Int32) (v7 : Int32), k18 v1 v2 v3 v4 v5 v6 v7 = some z → ∀ (H : Heap) (locs : List Loc) (ls : Array Slot), va_P (rf_D E) vwCl (cM E a I A) H → va_S A0 s.heap H locs → lv_has ls 10 [(0, .ref (a 0)), (1, .int v1), (2, .int v2), (3, .int v3), (4, .int v4), (5, .int v5), (6, .int v6), (7, .int v7)] → W p l e ({ frames := 2, cells := 0, slots := 0, locals := 48 }) s m args below meth c H locs 0 0 (rf_QI below args s E A0 z (cM E a I A)) (F0 m 18 ls [])) {k32 : Int32 → Int32 → Int32 → Int32 → Int32 → Int32 → Int32 → Int32 → Option (Int32)} (hk32 : ∀ (v1 : Int32) (v2 : Int32) (v3 : Int32) (v4 : Int32) (v5 : Int32) (v6 : Int32) (v7 : Int32) (v8 : Int32), k32 v1 v2 v3 v4 v5 v6 v7 v8 = some z → ∀ (H : Heap) (locs : List Loc) (ls : Array Slot), va_P (rf_D E) vwCl (cM E a I A) H → va_S A0 s.heap H locs → lv_has ls 10 [(0, .ref (a 0)), (1, .int v1), (2, .int v2), (3, .int v3), (4, .int v4), (5, .int v5), (6, .int v6), (7, .int v7), (8, .int v8)] → W p l e ({ frames := 2, cells := 0, slots := 0, locals := 48 }) s m args below meth c H locs 0 0 (rf_QI below args s E A0 z (cM E a I A)) (F0 m 32 ls [])) :
    ∀ (v1 : Int32) (v2 : Int32) (v3 : Int32) (v4 : Int32) (v5 : Int32) (v6 : Int32) (v7 : Int32) (v8 : Int32) (s0 : Int32), f_X11_rhymeOf_94 k18 k32 m_r v1 v2 v3 v4 v5 v6 v7 v8 s0 = some z → ∀ (H : Heap) (locs : List Loc) (ls : Array Slot), va_P (rf_D E) vwCl (cM E a I A) H → va_S A0 s.heap H locs → lv_has ls 10 [(0, .ref (a 0)), (1, .int v1), (2, .int v2), (3, .int v3), (4, .int v4), (5, .int v5), (6, .int v6), (7, .int v7), (8, .int v8)] → W p l e ({ frames := 2, cells := 0, slots := 0, locals := 48 }) s m args below meth c H locs 0 0 (rf_QI below args s E A0 z (cM E a I A)) (F0 m 94 ls [.int s0]) := by
  have hx := hC.1
  have hb := hC.2.1
  intro v1 v2 v3 v4 v5 v6 v7 v8 s0 hf H locs ls hP hS hl
  unfold f_X11_rhymeOf_94 at hf
  refine lv_istore (lv' := [(9, .int s0), (0, .ref (a 0)), (1, .int v1), (2, .int v2), (3, .int v3), (4, .int v4), (5, .int v5), (6, .int v6), (7, .int v7), (8, .int v8)]) hx hb dX11_rhymeOf_94 hl (by decide) rfl (fun ls hl => ?_)
  refine lv_iload hx hb dX11_rhymeOf_96 (lv_at hl 0 rfl) ?_
  refine lv_iload hx hb dX11_rhymeOf_98 (lv_at hl 7 rfl) ?_
  refine lv_icmp_le (tgt := 108) hx hb dX11_rhymeOf_100 (by decide) (fun c_100 => ?_) (fun c_100 => ?_)
  · have hf := rf_it c_100 hf
    refine lv_iload hx hb dX11_rhymeOf_108 (lv_at hl 7 rfl) ?_
    exact w_X11_rhymeOf_110 hC hD e_m_r hk18 hk32 v1 v2 v3 v4 v5 v7 v8 v6 hf _ _ _ hP hS (lv_sub hl [1, 2, 3, 4, 5, 6, 8, 9] rfl)
  have hf := rf_ie c_100 hf
  refine lv_iload hx hb dX11_rhymeOf_103 (lv_at hl 0 rfl) ?_
  refine lv_goto (tgt := 110) hx hb dX11_rhymeOf_105 (by decide) ?_
  exact w_X11_rhymeOf_110 hC hD e_m_r hk18 hk32 v1 v2 v3 v4 v5 v7 v8 s0 hf _ _ _ hP hS (lv_sub hl [1, 2, 3, 4, 5, 6, 8, 9] rfl)
set_option maxHeartbeats 4000000 in
set_option maxRecDepth 100000 in
theorem w_X11_rhymeOf_75 {l : Launch} {p : Program} {e : Env} {s : State} {m : MethodId} {args : Array Value} {below : List Frame} {meth : Method} {c : Code} {A0 : Nat → Prop} {E : rf_E} {a : Nat → Nat} {I : Nat → Int32} {A : Nat → Nat → Int32} {m_r : Nat → Int32} {z : Int32} (hC : rf_C p E s m args meth c cX11_rhymeOf 10 RX11 (some .int) A0) (hD : va_D A0 (cM E a I A)) (e_m_r : A 2 = m_r) {k18 : Int32 → Int32 → Int32 → Int32 → Int32 → Int32 → Int32 → Option (Int32)} (hk18 : ∀ (v1 : Int32) (v2 : Int32) (v3 : Int32) (v4 : Int32) (v5 : Int32) (v6 : Int32) (v7 : Int32), k18 v1 v2 v3 v4 v5 v6 v7 = some z → ∀ (H : Heap) (locs : List Loc) (ls : Array Slot), va_P (rf_D E) vwCl (cM E a I A) H → va_S A0 s.heap H locs → lv_has ls 10 [(0, .ref (a 0)), (1, .int v1), (2, .int v2), (3, .int v3), (4, .int v4), (5, .int v5), (6, .int v6), (7, .int v7)] → W p l e ({ frames := 2, cells := 0, slots := 0, locals := 48 }) s m args below meth c H locs 0 0 (rf_QI below args s E A0 z (cM E a I A)) (F0 m 18 ls [])) {k32 : Int32 → Int32 → Int32 → Int32 → Int32 → Int32 → Int32 → Int32 → Option (Int32)} (hk32 : ∀ (v1 : Int32) (v2 : Int32) (v3 : Int32) (v4 : Int32) (v5 : Int32) (v6 : Int32) (v7 : Int32) (v8 : Int32), k32 v1 v2 v3 v4 v5 v6 v7 v8 = some z → ∀ (H : Heap) (locs : List Loc) (ls : Array Slot), va_P (rf_D E) vwCl (cM E a I A) H → va_S A0 s.heap H locs → lv_has ls 10 [(0, .ref (a 0)), (1, .int v1), (2, .int v2), (3, .int v3), (4, .int v4), (5, .int v5), (6, .int v6), (7, .int v7), (8, .int v8)] → W p l e ({ frames := 2, cells := 0, slots := 0, locals := 48 }) s m args below meth c H locs 0 0 (rf_QI below args s E A0 z (cM E a I A)) (F0 m 32 ls [])) :
    ∀ (v1 : Int32) (v2 : Int32) (v3 : Int32) (v4 : Int32) (v5 : Int32) (v6 : Int32) (v7 : Int32) (v8 : Int32), f_X11_rhymeOf_75 k18 k32 m_r v1 v2 v3 v4 v5 v6 v7 v8 = some z → ∀ (H : Heap) (locs : List Loc) (ls : Array Slot), va_P (rf_D E) vwCl (cM E a I A) H → va_S A0 s.heap H locs → lv_has ls 10 [(0, .ref (a 0)), (1, .int v1), (2, .int v2), (3, .int v3), (4, .int v4), (5, .int v5), (6, .int v6), (7, .int v7), (8, .int v8)] → W p l e ({ frames := 2, cells := 0, slots := 0, locals := 48 }) s m args below meth c H locs 0 0 (rf_QI below args s E A0 z (cM E a I A)) (F0 m 75 ls []) := by
  have hx := hC.1
  have hb := hC.2.1
  intro v1 v2 v3 v4 v5 v6 v7 v8 hf H locs ls hP hS hl
  unfold f_X11_rhymeOf_75 at hf
  refine lv_aload_n hx hb dX11_rhymeOf_75 rfl (lv_at hl 0 rfl) ?_
  refine lv_iload hx hb dX11_rhymeOf_76 (lv_at hl 7 rfl) ?_
  refine lv_iload hx hb dX11_rhymeOf_78 (lv_at hl 8 rfl) ?_
  obtain ⟨z80, hz80, hf⟩ := rf_bd hf
  refine rf_vi (q0 := 0) (ci := 11) hC (c_X11_eyeOf l E a I A m_r v7 v8 e_m_r hz80) kV_X11_eyeOf tw_1597 ⟨Nat.le_of_ble_eq_true rfl, Nat.le_of_ble_eq_true rfl⟩ rfl rfl rfl rfl rfl hP (rf_DM hD) hS rfl hl.1 (rest := []) rfl (Nat.le_of_ble_eq_true rfl) dX11_rhymeOf_80 (fun H locs hP hS => ?_)
  refine lv_goto (tgt := 94) hx hb dX11_rhymeOf_83 (by decide) ?_
  exact w_X11_rhymeOf_94 hC hD e_m_r hk18 hk32 v1 v2 v3 v4 v5 v6 v7 v8 z80 hf _ _ _ hP hS (lv_sub hl [0, 1, 2, 3, 4, 5, 6, 7, 8] rfl)
set_option maxHeartbeats 4000000 in
set_option maxRecDepth 100000 in
theorem w_X11_rhymeOf_32 {l : Launch} {p : Program} {e : Env} {s : State} {m : MethodId} {args : Array Value} {below : List Frame} {meth : Method} {c : Code} {A0 : Nat → Prop} {E : rf_E} {a : Nat → Nat} {I : Nat → Int32} {A : Nat → Nat → Int32} {m_r : Nat → Int32} {z : Int32} (hC : rf_C p E s m args meth c cX11_rhymeOf 10 RX11 (some .int) A0) (hD : va_D A0 (cM E a I A)) (e_m_r : A 2 = m_r) {k18 : Int32 → Int32 → Int32 → Int32 → Int32 → Int32 → Int32 → Option (Int32)} (hk18 : ∀ (v1 : Int32) (v2 : Int32) (v3 : Int32) (v4 : Int32) (v5 : Int32) (v6 : Int32) (v7 : Int32), k18 v1 v2 v3 v4 v5 v6 v7 = some z → ∀ (H : Heap) (locs : List Loc) (ls : Array Slot), va_P (rf_D E) vwCl (cM E a I A) H → va_S A0 s.heap H locs → lv_has ls 10 [(0, .ref (a 0)), (1, .int v1), (2, .int v2), (3, .int v3), (4, .int v4), (5, .int v5), (6, .int v6), (7, .int v7)] → W p l e ({ frames := 2, cells := 0, slots := 0, locals := 48 }) s m args below meth c H locs 0 0 (rf_QI below args s E A0 z (cM E a I A)) (F0 m 18 ls [])) :
    ∀ (n : Nat), ∀ (v1 : Int32) (v2 : Int32) (v3 : Int32) (v4 : Int32) (v5 : Int32) (v6 : Int32) (v7 : Int32) (v8 : Int32), f_X11_rhymeOf_32 k18 m_r n v1 v2 v3 v4 v5 v6 v7 v8 = some z → ∀ (H : Heap) (locs : List Loc) (ls : Array Slot), va_P (rf_D E) vwCl (cM E a I A) H → va_S A0 s.heap H locs → lv_has ls 10 [(0, .ref (a 0)), (1, .int v1), (2, .int v2), (3, .int v3), (4, .int v4), (5, .int v5), (6, .int v6), (7, .int v7), (8, .int v8)] → W p l e ({ frames := 2, cells := 0, slots := 0, locals := 48 }) s m args below meth c H locs 0 0 (rf_QI below args s E A0 z (cM E a I A)) (F0 m 32 ls []) := by
  have hx := hC.1
  have hb := hC.2.1
  intro n
  induction n with
  | zero =>
    intro v1 v2 v3 v4 v5 v6 v7 v8 hf
    have hf : (none : Option (Int32)) = some z := hf
    cases hf
  | succ n ih =>
    intro v1 v2 v3 v4 v5 v6 v7 v8 hf H locs ls hP hS hl
    rw [f_X11_rhymeOf_32] at hf
    refine lv_iload hx hb dX11_rhymeOf_32 (lv_at hl 8 rfl) ?_
    refine lv_aload_n hx hb dX11_rhymeOf_34 rfl (lv_at hl 0 rfl) ?_
    refine gM_m_r hC hP tw_1294 dX11_rhymeOf_35 ?_
    refine lv_iconst (v := 2) hx hb dX11_rhymeOf_38 (by decide) ?_
    refine lM_m_r hC hP (by decide) (f := m_r) e_m_r dX11_rhymeOf_39 ?_
    refine lv_icmp_ge (tgt := 118) hx hb dX11_rhymeOf_40 (by decide) (fun c_40 => ?_) (fun c_40 => ?_)
    · have hf := rf_it c_40 hf
      refine lv_iinc (v := v7 + 1) (lv' := [(7, .int (v7 + 1)), (0, .ref (a 0)), (1, .int v1), (2, .int v2), (3, .int v3), (4, .int v4), (5, .int v5), (6, .int v6), (8, .int v8)]) hx hb dX11_rhymeOf_118 hl (k := 7) rfl rfl (by decide) rfl (fun ls hl => ?_)
      refine lv_goto (tgt := 18) hx hb dX11_rhymeOf_121 (by decide) ?_
      exact hk18 v1 v2 v3 v4 v5 v6 (v7 + 1) hf _ _ _ hP hS (lv_sub hl [1, 2, 3, 4, 5, 6, 7, 0] rfl)
    have hf := rf_ie c_40 hf
    refine lv_iload_n hx hb dX11_rhymeOf_43 rfl (lv_at hl 2 rfl) ?_
    refine lv_iload hx hb dX11_rhymeOf_44 (lv_at hl 7 rfl) ?_
    obtain ⟨z46, hz46, hf⟩ := rf_bd hf
    refine rf_si0 hC (c_X11_hasBit l E v2 v7 hz46) kS_X11_hasBit tw_1539 ⟨Nat.le_of_ble_eq_true rfl, Nat.le_of_ble_eq_true rfl⟩ rfl rfl hP hS rfl hl.1 (rest := []) rfl (Nat.le_of_ble_eq_true rfl) dX11_rhymeOf_46 (fun H locs hP hS => ?_)
    refine lv_if_eq (tgt := 112) hx hb dX11_rhymeOf_49 (by decide) (fun c_49 => ?_) (fun c_49 => ?_)
    · have hf := rf_it c_49 hf
      exact w_X11_rhymeOf_112 hC hD e_m_r hk18 ih v1 v2 v3 v4 v5 v6 v7 v8 hf _ _ _ hP hS (lv_sub hl [0, 1, 2, 3, 4, 5, 6, 7, 8] rfl)
    have hf := rf_ie c_49 hf
    refine lv_iload hx hb dX11_rhymeOf_52 (lv_at hl 4 rfl) ?_
    refine lv_iload hx hb dX11_rhymeOf_54 (lv_at hl 8 rfl) ?_
    obtain ⟨z56, hz56, hf⟩ := rf_bd hf
    refine rf_si0 hC (c_X11_hasBit l E v4 v8 hz56) kS_X11_hasBit tw_1539 ⟨Nat.le_of_ble_eq_true rfl, Nat.le_of_ble_eq_true rfl⟩ rfl rfl hP hS rfl hl.1 (rest := []) rfl (Nat.le_of_ble_eq_true rfl) dX11_rhymeOf_56 (fun H locs hP hS => ?_)
    refine lv_if_ne (tgt := 65) hx hb dX11_rhymeOf_59 (by decide) (fun c_59 => ?_) (fun c_59 => ?_)
    · have hf := rf_ie c_59 hf
      refine lv_iload_n hx hb dX11_rhymeOf_65 rfl (lv_at hl 1 rfl) ?_
      refine lv_iconst (v := 1) hx hb dX11_rhymeOf_66 (by decide) ?_
      refine lv_icmp_eq (tgt := 75) hx hb dX11_rhymeOf_67 (by decide) (fun c_67 => ?_) (fun c_67 => ?_)
      · have hf := rf_it c_67 hf
        exact w_X11_rhymeOf_75 hC hD e_m_r hk18 ih v1 v2 v3 v4 v5 v6 v7 v8 hf _ _ _ hP hS (lv_sub hl [0, 1, 2, 3, 4, 5, 6, 7, 8] rfl)
      have hf := rf_ie c_67 hf
      refine lv_iload_n hx hb dX11_rhymeOf_70 rfl (lv_at hl 3 rfl) ?_
      refine lv_iconst (v := 1) hx hb dX11_rhymeOf_71 (by decide) ?_
      refine lv_icmp_ne (tgt := 86) hx hb dX11_rhymeOf_72 (by decide) (fun c_72 => ?_) (fun c_72 => ?_)
      · have hf := rf_ie c_72 hf
        refine lv_aload_n hx hb dX11_rhymeOf_86 rfl (lv_at hl 0 rfl) ?_
        refine lv_iload hx hb dX11_rhymeOf_87 (lv_at hl 7 rfl) ?_
        refine lv_iload hx hb dX11_rhymeOf_89 (lv_at hl 8 rfl) ?_
        obtain ⟨z91, hz91, hf⟩ := rf_bd hf
        refine rf_vi (q0 := 0) (ci := 11) hC (c_X11_likeOf l E a I A m_r v7 v8 e_m_r hz91) kV_X11_likeOf tw_1589 ⟨Nat.le_of_ble_eq_true rfl, Nat.le_of_ble_eq_true rfl⟩ rfl rfl rfl rfl rfl hP (rf_DM hD) hS rfl hl.1 (rest := []) rfl (Nat.le_of_ble_eq_true rfl) dX11_rhymeOf_91 (fun H locs hP hS => ?_)
        exact w_X11_rhymeOf_94 hC hD e_m_r hk18 ih v1 v2 v3 v4 v5 v6 v7 v8 z91 hf _ _ _ hP hS (lv_sub hl [0, 1, 2, 3, 4, 5, 6, 7, 8] rfl)
      have hf := rf_it c_72 hf
      exact w_X11_rhymeOf_75 hC hD e_m_r hk18 ih v1 v2 v3 v4 v5 v6 v7 v8 hf _ _ _ hP hS (lv_sub hl [0, 1, 2, 3, 4, 5, 6, 7, 8] rfl)
    have hf := rf_it c_59 hf
    refine lv_goto (tgt := 112) hx hb dX11_rhymeOf_62 (by decide) ?_
    exact w_X11_rhymeOf_112 hC hD e_m_r hk18 ih v1 v2 v3 v4 v5 v6 v7 v8 hf _ _ _ hP hS (lv_sub hl [0, 1, 2, 3, 4, 5, 6, 7, 8] rfl)
set_option maxHeartbeats 4000000 in
set_option maxRecDepth 100000 in
theorem w_X11_rhymeOf_18 {l : Launch} {p : Program} {e : Env} {s : State} {m : MethodId} {args : Array Value} {below : List Frame} {meth : Method} {c : Code} {A0 : Nat → Prop} {E : rf_E} {a : Nat → Nat} {I : Nat → Int32} {A : Nat → Nat → Int32} {m_r : Nat → Int32} {z : Int32} (hC : rf_C p E s m args meth c cX11_rhymeOf 10 RX11 (some .int) A0) (hD : va_D A0 (cM E a I A)) (e_m_r : A 2 = m_r) :
    ∀ (n : Nat), ∀ (v1 : Int32) (v2 : Int32) (v3 : Int32) (v4 : Int32) (v5 : Int32) (v6 : Int32) (v7 : Int32), f_X11_rhymeOf_18 m_r n v1 v2 v3 v4 v5 v6 v7 = some z → ∀ (H : Heap) (locs : List Loc) (ls : Array Slot), va_P (rf_D E) vwCl (cM E a I A) H → va_S A0 s.heap H locs → lv_has ls 10 [(0, .ref (a 0)), (1, .int v1), (2, .int v2), (3, .int v3), (4, .int v4), (5, .int v5), (6, .int v6), (7, .int v7)] → W p l e ({ frames := 2, cells := 0, slots := 0, locals := 48 }) s m args below meth c H locs 0 0 (rf_QI below args s E A0 z (cM E a I A)) (F0 m 18 ls []) := by
  have hx := hC.1
  have hb := hC.2.1
  intro n
  induction n with
  | zero =>
    intro v1 v2 v3 v4 v5 v6 v7 hf
    have hf : (none : Option (Int32)) = some z := hf
    cases hf
  | succ n ih =>
    intro v1 v2 v3 v4 v5 v6 v7 hf H locs ls hP hS hl
    rw [f_X11_rhymeOf_18] at hf
    refine lv_iload hx hb dX11_rhymeOf_18 (lv_at hl 7 rfl) ?_
    refine lv_aload_n hx hb dX11_rhymeOf_20 rfl (lv_at hl 0 rfl) ?_
    refine gM_m_r hC hP tw_1294 dX11_rhymeOf_21 ?_
    refine lv_iconst (v := 2) hx hb dX11_rhymeOf_24 (by decide) ?_
    refine lM_m_r hC hP (by decide) (f := m_r) e_m_r dX11_rhymeOf_25 ?_
    refine lv_icmp_ge (tgt := 124) hx hb dX11_rhymeOf_26 (by decide) (fun c_26 => ?_) (fun c_26 => ?_)
    · have hf := rf_it c_26 hf
      refine lv_iload hx hb dX11_rhymeOf_124 (lv_at hl 6 rfl) ?_
      refine lv_iload hx hb dX11_rhymeOf_126 (lv_at hl 5 rfl) ?_
      refine lv_icmp_lt (tgt := 133) hx hb dX11_rhymeOf_128 (by decide) (fun c_128 => ?_) (fun c_128 => ?_)
      · have hf := rf_it c_128 hf
        refine lv_iload hx hb dX11_rhymeOf_133 (lv_at hl 6 rfl) ?_
        refine lv_iload hx hb dX11_rhymeOf_135 (lv_at hl 5 rfl) ?_
        refine lv_iconst (v := 1) hx hb dX11_rhymeOf_137 (by decide) ?_
        refine lv_isub hx hb dX11_rhymeOf_138 ?_
        refine lv_icmp_ge (tgt := 146) hx hb dX11_rhymeOf_139 (by decide) (fun c_139 => ?_) (fun c_139 => ?_)
        · have hf := rf_it c_139 hf
          refine lv_iload_n hx hb dX11_rhymeOf_146 rfl (lv_at hl 1 rfl) ?_
          refine lv_iconst (v := 3) hx hb dX11_rhymeOf_147 (by decide) ?_
          refine lv_icmp_eq (tgt := 156) hx hb dX11_rhymeOf_148 (by decide) (fun c_148 => ?_) (fun c_148 => ?_)
          · have hf := rf_it c_148 hf
            exact w_X11_rhymeOf_156 hC hD e_m_r () hf _ _ _ hP hS (lv_sub hl [] rfl)
          have hf := rf_ie c_148 hf
          refine lv_iload_n hx hb dX11_rhymeOf_151 rfl (lv_at hl 3 rfl) ?_
          refine lv_iconst (v := 3) hx hb dX11_rhymeOf_152 (by decide) ?_
          refine lv_icmp_ne (tgt := 160) hx hb dX11_rhymeOf_153 (by decide) (fun c_153 => ?_) (fun c_153 => ?_)
          · have hf := rf_ie c_153 hf
            refine lv_iconst (v := 1) hx hb dX11_rhymeOf_160 (by decide) ?_
            obtain rfl := Option.some.inj hf
            exact rf_reti hC hP hS rfl rfl dX11_rhymeOf_161
          have hf := rf_it c_153 hf
          exact w_X11_rhymeOf_156 hC hD e_m_r () hf _ _ _ hP hS (lv_sub hl [] rfl)
        have hf := rf_ie c_139 hf
        refine lv_iconst (v := 0) hx hb dX11_rhymeOf_142 (by decide) ?_
        refine lv_goto (tgt := 161) hx hb dX11_rhymeOf_143 (by decide) ?_
        obtain rfl := Option.some.inj hf
        exact rf_reti hC hP hS rfl rfl dX11_rhymeOf_161
      have hf := rf_ie c_128 hf
      refine lv_iconst (v := 2) hx hb dX11_rhymeOf_131 (by decide) ?_
      obtain rfl := Option.some.inj hf
      exact rf_reti hC hP hS rfl rfl dX11_rhymeOf_132
    have hf := rf_ie c_26 hf
    refine lv_iconst (v := 0) hx hb dX11_rhymeOf_29 (by decide) ?_
    refine lv_istore (lv' := [(8, .int 0), (0, .ref (a 0)), (1, .int v1), (2, .int v2), (3, .int v3), (4, .int v4), (5, .int v5), (6, .int v6), (7, .int v7)]) hx hb dX11_rhymeOf_30 hl (by decide) rfl (fun ls hl => ?_)
    exact w_X11_rhymeOf_32 hC hD e_m_r ih rf_fu v1 v2 v3 v4 v5 v6 v7 0 hf _ _ _ hP hS (lv_sub hl [1, 2, 3, 4, 5, 6, 7, 8, 0] rfl)
set_option maxHeartbeats 4000000 in
set_option maxRecDepth 100000 in
theorem c_X11_rhymeOf (l : Launch) (E : rf_E) (a : Nat → Nat) (I : Nat → Int32) (A : Nat → Nat → Int32) (m_r : Nat → Int32) (v1 : Int32) (v2 : Int32) (v3 : Int32) (v4 : Int32) (v5 : Int32) {z : Int32} (e_m_r : A 2 = m_r) (hf : f_X11_rhymeOf m_r v1 v2 v3 v4 v5 = some z) : rf_MI l yX11_rhymeOf cX11_rhymeOf 10 (some .int) ({ frames := 2, cells := 0, slots := 0, locals := 48 }) E [.ref (a 0), .int v1, .int v2, .int v3, .int v4, .int v5] (cM E a I A) z (cM E a I A) := by
  unfold f_X11_rhymeOf at hf
  refine rf_ofI (by decide) (Nat.le_of_ble_eq_true rfl) ?_
  intro p e s m below meth c A0 ls hC hD hP hS hl
  have hC : rf_C p E s m _ meth c cX11_rhymeOf 10 RX11 (some .int) A0 := hC
  have hx := hC.1
  have hb := hC.2.1
  have hl : lv_has ls 10 [(0, .ref (a 0)), (1, .int v1), (2, .int v2), (3, .int v3), (4, .int v4), (5, .int v5)] := hl
  refine lv_iload_n hx hb dX11_rhymeOf_0 rfl (lv_at hl 1 rfl) ?_
  refine lv_iconst (v := 2) hx hb dX11_rhymeOf_1 (by decide) ?_
  refine lv_icmp_eq (tgt := 10) hx hb dX11_rhymeOf_2 (by decide) (fun c_2 => ?_) (fun c_2 => ?_)
  · have hf := rf_it c_2 hf
    exact w_X11_rhymeOf_10 hC hD e_m_r () hf _ _ _ hP hS (lv_sub hl [] rfl)
  have hf := rf_ie c_2 hf
  refine lv_iload_n hx hb dX11_rhymeOf_5 rfl (lv_at hl 3 rfl) ?_
  refine lv_iconst (v := 2) hx hb dX11_rhymeOf_6 (by decide) ?_
  refine lv_icmp_ne (tgt := 12) hx hb dX11_rhymeOf_7 (by decide) (fun c_7 => ?_) (fun c_7 => ?_)
  · have hf := rf_ie c_7 hf
    refine lv_iconst (v := 0) hx hb dX11_rhymeOf_12 (by decide) ?_
    refine lv_istore (lv' := [(6, .int 0), (0, .ref (a 0)), (1, .int v1), (2, .int v2), (3, .int v3), (4, .int v4), (5, .int v5)]) hx hb dX11_rhymeOf_13 hl (by decide) rfl (fun ls hl => ?_)
    refine lv_iconst (v := 0) hx hb dX11_rhymeOf_15 (by decide) ?_
    refine lv_istore (lv' := [(7, .int 0), (6, .int 0), (0, .ref (a 0)), (1, .int v1), (2, .int v2), (3, .int v3), (4, .int v4), (5, .int v5)]) hx hb dX11_rhymeOf_16 hl (by decide) rfl (fun ls hl => ?_)
    exact w_X11_rhymeOf_18 hC hD e_m_r rf_fu v1 v2 v3 v4 v5 0 0 hf _ _ _ hP hS (lv_sub hl [2, 3, 4, 5, 6, 7, 1, 0] rfl)
  have hf := rf_it c_7 hf
  exact w_X11_rhymeOf_10 hC hD e_m_r () hf _ _ _ hP hS (lv_sub hl [] rfl)
