set_option maxHeartbeats 4000000 in
set_option maxRecDepth 100000 in
theorem w_X9_isFullRhyme_tc_39 {l : Launch} {p : Program} {e : Env} {s : State} {m : MethodId} {args : Array Value} {below : List Frame} {meth : Method} {c : Code} {A0 : Nat → Prop} {E : rf_E} {a P : Nat → Nat} {I : Nat → Int32} {J : Nat → Int64} {A : Nat → Nat → Int32} {B : Nat → Nat → Int64} {t_wordCount : Int32} {t_close : Nat → Int32} {z : Int32} (hC : rf_C p E s m args meth c cX9_isFullRhyme 7 RX9 (some .boolean) A0) (hD : va_D A0 (cX E a P I J A B)) (e_t_wordCount : I 23 = t_wordCount) (e_t_close : A 22 = t_close) {k3 : Int32 → Int32 → Int32 → Int32 → Int32 → Int32 → Option (Int32)} (hk3 : ∀ (v1 : Int32) (v2 : Int32) (v3 : Int32) (v4 : Int32) (v5 : Int32) (v6 : Int32), k3 v1 v2 v3 v4 v5 v6 = some z → ∀ (H : Heap) (locs : List Loc) (ls : Array Slot), va_P (rf_D E) vwCl (cX E a P I J A B) H → va_S A0 s.heap H locs → lv_has ls 7 [(0, .ref (a 10)), (1, .int v1), (2, .int v2), (3, .int v3), (4, .int v4), (5, .int v5), (6, .int v6)] → W p l e ({ frames := 1, cells := 0, slots := 0, locals := 26 }) s m args below meth c H locs 0 0 (rf_QI below args s E A0 z (cX E a P I J A B)) (F0 m 3 ls [])) :
    ∀ (v1 : Int32) (v2 : Int32) (v3 : Int32) (v4 : Int32) (v5 : Int32) (v6 : Int32), f_X9_isFullRhyme_39 k3 t_wordCount t_close v1 v2 v3 v4 v5 v6 = some z → ∀ (H : Heap) (locs : List Loc) (ls : Array Slot), va_P (rf_D E) vwCl (cX E a P I J A B) H → va_S A0 s.heap H locs → lv_has ls 7 [(0, .ref (a 10)), (1, .int v1), (2, .int v2), (3, .int v3), (4, .int v4), (5, .int v5), (6, .int v6)] → W p l e ({ frames := 1, cells := 0, slots := 0, locals := 26 }) s m args below meth c H locs 0 0 (rf_QI below args s E A0 z (cX E a P I J A B)) (F0 m 39 ls []) := by
  have hx := hC.1
  have hb := hC.2.1
  intro v1 v2 v3 v4 v5 v6 hf H locs ls hP hS hl
  unfold f_X9_isFullRhyme_39 at hf
  refine lv_iinc (v := v6 + 1) (lv' := [(6, .int (v6 + 1)), (0, .ref (a 10)), (1, .int v1), (2, .int v2), (3, .int v3), (4, .int v4), (5, .int v5)]) hx hb dX9_isFullRhyme_39 hl (k := 6) rfl rfl (by decide) rfl (fun ls hl => ?_)
  refine lv_goto (tgt := 3) hx hb dX9_isFullRhyme_42 (by decide) ?_
  exact hk3 v1 v2 v3 v4 v5 (v6 + 1) hf _ _ _ hP hS (lv_sub hl [1, 2, 3, 4, 5, 6, 0] rfl)
set_option maxHeartbeats 4000000 in
set_option maxRecDepth 100000 in
theorem w_X9_isFullRhyme_tc_3 {l : Launch} {p : Program} {e : Env} {s : State} {m : MethodId} {args : Array Value} {below : List Frame} {meth : Method} {c : Code} {A0 : Nat → Prop} {E : rf_E} {a P : Nat → Nat} {I : Nat → Int32} {J : Nat → Int64} {A : Nat → Nat → Int32} {B : Nat → Nat → Int64} {t_wordCount : Int32} {t_close : Nat → Int32} {z : Int32} (hC : rf_C p E s m args meth c cX9_isFullRhyme 7 RX9 (some .boolean) A0) (hD : va_D A0 (cX E a P I J A B)) (e_t_wordCount : I 23 = t_wordCount) (e_t_close : A 22 = t_close) :
    ∀ (n : Nat), ∀ (v1 : Int32) (v2 : Int32) (v3 : Int32) (v4 : Int32) (v5 : Int32) (v6 : Int32), f_X9_isFullRhyme_3 t_wordCount t_close n v1 v2 v3 v4 v5 v6 = some z → ∀ (H : Heap) (locs : List Loc) (ls : Array Slot), va_P (rf_D E) vwCl (cX E a P I J A B) H → va_S A0 s.heap H locs → lv_has ls 7 [(0, .ref (a 10)), (1, .int v1), (2, .int v2), (3, .int v3), (4, .int v4), (5, .int v5), (6, .int v6)] → W p l e ({ frames := 1, cells := 0, slots := 0, locals := 26 }) s m args below meth c H locs 0 0 (rf_QI below args s E A0 z (cX E a P I J A B)) (F0 m 3 ls []) := by
  have hx := hC.1
  have hb := hC.2.1
  intro n
  induction n with
  | zero =>
    intro v1 v2 v3 v4 v5 v6 hf
    have hf : (none : Option (Int32)) = some z := hf
    cases hf
  | succ n ih =>
    intro v1 v2 v3 v4 v5 v6 hf H locs ls hP hS hl
    rw [f_X9_isFullRhyme_3] at hf
    refine lv_iload hx hb dX9_isFullRhyme_3 (lv_at hl 6 rfl) ?_
    refine lv_aload_n hx hb dX9_isFullRhyme_5 rfl (lv_at hl 0 rfl) ?_
    refine gX_tc_wordCount hC hP tw_121 (v := t_wordCount) e_t_wordCount dX9_isFullRhyme_6 ?_
    refine lv_icmp_ge (tgt := 45) hx hb dX9_isFullRhyme_9 (by decide) (fun c_9 => ?_) (fun c_9 => ?_)
    · have hf := rf_it c_9 hf
      refine lv_iconst (v := 0) hx hb dX9_isFullRhyme_45 (by decide) ?_
      obtain rfl := Option.some.inj hf
      exact rf_retz hC hP hS (by decide) rfl rfl dX9_isFullRhyme_46
    have hf := rf_ie c_9 hf
    refine lv_iload_n hx hb dX9_isFullRhyme_12 rfl (lv_at hl 2 rfl) ?_
    refine lv_iload hx hb dX9_isFullRhyme_13 (lv_at hl 6 rfl) ?_
    obtain ⟨z15, hz15, hf⟩ := rf_bd hf
    refine rf_sn0 hC (c_X10_holds l E v2 v6 hz15) kS_X10_holds nw_654 ⟨Nat.le_of_ble_eq_true rfl, Nat.le_of_ble_eq_true rfl⟩ rfl rfl hP hS rfl hl.1 (rest := []) rfl (Nat.le_of_ble_eq_true rfl) dX9_isFullRhyme_15 (fun H locs hP hS => ?_)
    refine lv_if_eq (tgt := 39) hx hb dX9_isFullRhyme_18 (by decide) (fun c_18 => ?_) (fun c_18 => ?_)
    · have hf := rf_it c_18 hf
      exact w_X9_isFullRhyme_tc_39 hC hD e_t_wordCount e_t_close ih v1 v2 v3 v4 v5 v6 hf _ _ _ hP hS (lv_sub hl [0, 1, 2, 3, 4, 5, 6] rfl)
    have hf := rf_ie c_18 hf
    refine lv_aload_n hx hb dX9_isFullRhyme_21 rfl (lv_at hl 0 rfl) ?_
    refine lv_iload hx hb dX9_isFullRhyme_22 (lv_at hl 6 rfl) ?_
    refine lv_iload_n hx hb dX9_isFullRhyme_24 rfl (lv_at hl 1 rfl) ?_
    refine lv_iload_n hx hb dX9_isFullRhyme_25 rfl (lv_at hl 3 rfl) ?_
    refine lv_iload hx hb dX9_isFullRhyme_26 (lv_at hl 5 rfl) ?_
    obtain ⟨z28, hz28, hf⟩ := rf_bd hf
    refine rf_vi (q0 := 10) (ci := 9) hC (c_X9_rhymingWords_tc l E a P I J A B t_wordCount t_close v6 v1 v3 v5 e_t_wordCount e_t_close hz28) kV_X9_rhymingWords tw_794 ⟨Nat.le_of_ble_eq_true rfl, Nat.le_of_ble_eq_true rfl⟩ rfl rfl rfl rfl rfl hP (rf_DX hD) hS rfl hl.1 (rest := []) rfl (Nat.le_of_ble_eq_true rfl) dX9_isFullRhyme_28 (fun H locs hP hS => ?_)
    refine lv_iload hx hb dX9_isFullRhyme_31 (lv_at hl 4 rfl) ?_
    refine lv_iand hx hb dX9_isFullRhyme_33 ?_
    refine lv_if_eq (tgt := 39) hx hb dX9_isFullRhyme_34 (by decide) (fun c_34 => ?_) (fun c_34 => ?_)
    · have hf := rf_it c_34 hf
      exact w_X9_isFullRhyme_tc_39 hC hD e_t_wordCount e_t_close ih v1 v2 v3 v4 v5 v6 hf _ _ _ hP hS (lv_sub hl [0, 1, 2, 3, 4, 5, 6] rfl)
    have hf := rf_ie c_34 hf
    refine lv_iconst (v := 1) hx hb dX9_isFullRhyme_37 (by decide) ?_
    obtain rfl := Option.some.inj hf
    exact rf_retz hC hP hS (by decide) rfl rfl dX9_isFullRhyme_38
set_option maxHeartbeats 4000000 in
set_option maxRecDepth 100000 in
theorem c_X9_isFullRhyme_tc (l : Launch) (E : rf_E) (a P : Nat → Nat) (I : Nat → Int32) (J : Nat → Int64) (A : Nat → Nat → Int32) (B : Nat → Nat → Int64) (t_wordCount : Int32) (t_close : Nat → Int32) (v1 : Int32) (v2 : Int32) (v3 : Int32) (v4 : Int32) (v5 : Int32) {z : Int32} (e_t_wordCount : I 23 = t_wordCount) (e_t_close : A 22 = t_close) (hf : f_X9_isFullRhyme t_wordCount t_close v1 v2 v3 v4 v5 = some z) : rf_MI l yX9_isFullRhyme cX9_isFullRhyme 7 (some .boolean) ({ frames := 1, cells := 0, slots := 0, locals := 26 }) E [.ref (a 10), .int v1, .int v2, .int v3, .int v4, .int v5] (cX E a P I J A B) z (cX E a P I J A B) := by
  unfold f_X9_isFullRhyme at hf
  refine rf_ofI (by decide) (Nat.le_of_ble_eq_true rfl) ?_
  intro p e s m below meth c A0 ls hC hD hP hS hl
  have hC : rf_C p E s m _ meth c cX9_isFullRhyme 7 RX9 (some .boolean) A0 := hC
  have hx := hC.1
  have hb := hC.2.1
  have hl : lv_has ls 7 [(0, .ref (a 10)), (1, .int v1), (2, .int v2), (3, .int v3), (4, .int v4), (5, .int v5)] := hl
  refine lv_iconst (v := 0) hx hb dX9_isFullRhyme_0 (by decide) ?_
  refine lv_istore (lv' := [(6, .int 0), (0, .ref (a 10)), (1, .int v1), (2, .int v2), (3, .int v3), (4, .int v4), (5, .int v5)]) hx hb dX9_isFullRhyme_1 hl (by decide) rfl (fun ls hl => ?_)
  exact w_X9_isFullRhyme_tc_3 hC hD e_t_wordCount e_t_close rf_fu v1 v2 v3 v4 v5 0 hf _ _ _ hP hS (lv_sub hl [1, 2, 3, 4, 5, 6, 0] rfl)
set_option maxHeartbeats 4000000 in
set_option maxRecDepth 100000 in
theorem w_X9_degree_tc_26 {l : Launch} {p : Program} {e : Env} {s : State} {m : MethodId} {args : Array Value} {below : List Frame} {meth : Method} {c : Code} {A0 : Nat → Prop} {E : rf_E} {a P : Nat → Nat} {I : Nat → Int32} {J : Nat → Int64} {A : Nat → Nat → Int32} {B : Nat → Nat → Int64} {t_wordCount : Int32} {t_close : Nat → Int32} {z : Int32} (hC : rf_C p E s m args meth c cX9_degree 6 RX9 (some .int) A0) (hD : va_D A0 (cX E a P I J A B)) (e_t_wordCount : I 23 = t_wordCount) (e_t_close : A 22 = t_close) :
    ∀ (_ : Unit), f_X9_degree_26 t_wordCount t_close = some z → ∀ (H : Heap) (locs : List Loc) (ls : Array Slot), va_P (rf_D E) vwCl (cX E a P I J A B) H → va_S A0 s.heap H locs → lv_has ls 6 [] → W p l e ({ frames := 2, cells := 0, slots := 0, locals := 52 }) s m args below meth c H locs 0 0 (rf_QI below args s E A0 z (cX E a P I J A B)) (F0 m 26 ls []) := by
  have hx := hC.1
  have hb := hC.2.1
  intro _ hf H locs ls hP hS hl
  unfold f_X9_degree_26 at hf
  refine lv_iconst (v := 0) hx hb dX9_degree_26 (by decide) ?_
  obtain rfl := Option.some.inj hf
  exact rf_reti hC hP hS rfl rfl dX9_degree_27
set_option maxHeartbeats 4000000 in
set_option maxRecDepth 100000 in
theorem c_X9_degree_tc (l : Launch) (E : rf_E) (a P : Nat → Nat) (I : Nat → Int32) (J : Nat → Int64) (A : Nat → Nat → Int32) (B : Nat → Nat → Int64) (t_wordCount : Int32) (t_close : Nat → Int32) (v1 : Int32) (v2 : Int32) (v3 : Int32) (v4 : Int32) (v5 : Int32) {z : Int32} (e_t_wordCount : I 23 = t_wordCount) (e_t_close : A 22 = t_close) (hf : f_X9_degree t_wordCount t_close v1 v2 v3 v4 v5 = some z) : rf_MI l yX9_degree cX9_degree 6 (some .int) ({ frames := 2, cells := 0, slots := 0, locals := 52 }) E [.ref (a 10), .int v1, .int v2, .int v3, .int v4, .int v5] (cX E a P I J A B) z (cX E a P I J A B) := by
  unfold f_X9_degree at hf
  refine rf_ofI (by decide) (Nat.le_of_ble_eq_true rfl) ?_
  intro p e s m below meth c A0 ls hC hD hP hS hl
  have hC : rf_C p E s m _ meth c cX9_degree 6 RX9 (some .int) A0 := hC
  have hx := hC.1
  have hb := hC.2.1
  have hl : lv_has ls 6 [(0, .ref (a 10)), (1, .int v1), (2, .int v2), (3, .int v3), (4, .int v4), (5, .int v5)] := hl
  refine lv_aload_n hx hb dX9_degree_0 rfl (lv_at hl 0 rfl) ?_
  refine lv_iload_n hx hb dX9_degree_1 rfl (lv_at hl 1 rfl) ?_
  refine lv_iload_n hx hb dX9_degree_2 rfl (lv_at hl 2 rfl) ?_
  refine lv_iload_n hx hb dX9_degree_3 rfl (lv_at hl 3 rfl) ?_
  refine lv_iload hx hb dX9_degree_4 (lv_at hl 4 rfl) ?_
  refine lv_iload hx hb dX9_degree_6 (lv_at hl 5 rfl) ?_
  obtain ⟨z8, hz8, hf⟩ := rf_bd hf
  refine rf_vi (q0 := 10) (ci := 9) hC (c_X9_isFullRhyme_tc l E a P I J A B t_wordCount t_close v1 v2 v3 v4 v5 e_t_wordCount e_t_close hz8) kV_X9_isFullRhyme tw_790 ⟨Nat.le_of_ble_eq_true rfl, Nat.le_of_ble_eq_true rfl⟩ rfl rfl rfl rfl rfl hP (rf_DX hD) hS rfl hl.1 (rest := []) rfl (Nat.le_of_ble_eq_true rfl) dX9_degree_8 (fun H locs hP hS => ?_)
  refine lv_if_eq (tgt := 16) hx hb dX9_degree_11 (by decide) (fun c_11 => ?_) (fun c_11 => ?_)
  · have hf := rf_it c_11 hf
    refine lv_iload_n hx hb dX9_degree_16 rfl (lv_at hl 1 rfl) ?_
    refine lv_iconst (v := 3) hx hb dX9_degree_17 (by decide) ?_
    refine lv_icmp_eq (tgt := 26) hx hb dX9_degree_18 (by decide) (fun c_18 => ?_) (fun c_18 => ?_)
    · have hf := rf_it c_18 hf
      exact w_X9_degree_tc_26 hC hD e_t_wordCount e_t_close () hf _ _ _ hP hS (lv_sub hl [] rfl)
    have hf := rf_ie c_18 hf
    refine lv_iload_n hx hb dX9_degree_21 rfl (lv_at hl 3 rfl) ?_
    refine lv_iconst (v := 3) hx hb dX9_degree_22 (by decide) ?_
    refine lv_icmp_ne (tgt := 28) hx hb dX9_degree_23 (by decide) (fun c_23 => ?_) (fun c_23 => ?_)
    · have hf := rf_ie c_23 hf
      refine lv_aload_n hx hb dX9_degree_28 rfl (lv_at hl 0 rfl) ?_
      refine lv_iload_n hx hb dX9_degree_29 rfl (lv_at hl 1 rfl) ?_
      refine lv_iload_n hx hb dX9_degree_30 rfl (lv_at hl 2 rfl) ?_
      refine lv_iload_n hx hb dX9_degree_31 rfl (lv_at hl 3 rfl) ?_
      refine lv_iload hx hb dX9_degree_32 (lv_at hl 4 rfl) ?_
      refine lv_iload hx hb dX9_degree_34 (lv_at hl 5 rfl) ?_
      refine lv_iconst (v := 1) hx hb dX9_degree_36 (by decide) ?_
      refine lv_isub hx hb dX9_degree_37 ?_
      obtain ⟨z38, hz38, hf⟩ := rf_bd hf
      refine rf_vi (q0 := 10) (ci := 9) hC (c_X9_isFullRhyme_tc l E a P I J A B t_wordCount t_close v1 v2 v3 v4 (v5 - 1) e_t_wordCount e_t_close hz38) kV_X9_isFullRhyme tw_790 ⟨Nat.le_of_ble_eq_true rfl, Nat.le_of_ble_eq_true rfl⟩ rfl rfl rfl rfl rfl hP (rf_DX hD) hS rfl hl.1 (rest := []) rfl (Nat.le_of_ble_eq_true rfl) dX9_degree_38 (fun H locs hP hS => ?_)
      refine lv_if_eq (tgt := 48) hx hb dX9_degree_41 (by decide) (fun c_41 => ?_) (fun c_41 => ?_)
      · have hf := rf_it c_41 hf
        refine lv_iconst (v := 0) hx hb dX9_degree_48 (by decide) ?_
        obtain rfl := Option.some.inj hf
        exact rf_reti hC hP hS rfl rfl dX9_degree_49
      have hf := rf_ie c_41 hf
      refine lv_iconst (v := 1) hx hb dX9_degree_44 (by decide) ?_
      refine lv_goto (tgt := 49) hx hb dX9_degree_45 (by decide) ?_
      obtain rfl := Option.some.inj hf
      exact rf_reti hC hP hS rfl rfl dX9_degree_49
    have hf := rf_it c_23 hf
    exact w_X9_degree_tc_26 hC hD e_t_wordCount e_t_close () hf _ _ _ hP hS (lv_sub hl [] rfl)
  have hf := rf_ie c_11 hf
  refine lv_iconst (v := 2) hx hb dX9_degree_14 (by decide) ?_
  obtain rfl := Option.some.inj hf
  exact rf_reti hC hP hS rfl rfl dX9_degree_15
set_option maxHeartbeats 4000000 in
set_option maxRecDepth 100000 in
theorem c_X6_degree (l : Launch) (E : rf_E) (a P : Nat → Nat) (I : Nat → Int32) (J : Nat → Int64) (A : Nat → Nat → Int32) (B : Nat → Nat → Int64) (tc_wordCount : Int32) (now_words : Nat → Int32) (tc_kinds : Nat → Int32) (tc_close : Nat → Int32) (v1 : Int32) (v2 : Int32) (v3 : Int32) {z : Int32} (hp2 : P 2 = a 10) (e_tc_wordCount : I 23 = tc_wordCount) (e_now_words : A 1 = now_words) (e_tc_kinds : A 14 = tc_kinds) (e_tc_close : A 22 = tc_close) (hf : f_X6_degree tc_wordCount now_words tc_kinds tc_close v1 v2 v3 = some z) : rf_MI l yX6_degree cX6_degree 4 (some .int) ({ frames := 3, cells := 0, slots := 0, locals := 77 }) E [.ref (a 2), .int v1, .int v2, .int v3] (cX E a P I J A B) z (cX E a P I J A B) := by
  unfold f_X6_degree at hf
  refine rf_ofI (by decide) (Nat.le_of_ble_eq_true rfl) ?_
  intro p e s m below meth c A0 ls hC hD hP hS hl
  have hC : rf_C p E s m _ meth c cX6_degree 4 RX6 (some .int) A0 := hC
  have hx := hC.1
  have hb := hC.2.1
  have hl : lv_has ls 4 [(0, .ref (a 2)), (1, .int v1), (2, .int v2), (3, .int v3)] := hl
  refine lv_aload_n hx hb dX6_degree_0 rfl (lv_at hl 0 rfl) ?_
  refine gX_rhymes_tale hC hP tw_193 (v := a 10) hp2 dX6_degree_1 ?_
  refine lv_aload_n hx hb dX6_degree_4 rfl (lv_at hl 0 rfl) ?_
  refine gX_rhymes_tale hC hP tw_193 (v := a 10) hp2 dX6_degree_5 ?_
  refine gX_tc_kinds hC hP tw_93 dX6_degree_8 ?_
  refine lv_iload_n hx hb dX6_degree_11 rfl (lv_at hl 1 rfl) ?_
  obtain ⟨hi_12, hf⟩ := rf_gu hf
  refine lX_tc_kinds hC hP hi_12 (f := tc_kinds) e_tc_kinds dX6_degree_12 ?_
  refine lv_aload_n hx hb dX6_degree_13 rfl (lv_at hl 0 rfl) ?_
  refine gX_rhymes_now hC hP tw_185 dX6_degree_14 ?_
  refine gX_now_words hC hP tw_50 dX6_degree_17 ?_
  refine lv_iload_n hx hb dX6_degree_20 rfl (lv_at hl 1 rfl) ?_
  obtain ⟨hi_21, hf⟩ := rf_gu hf
  refine lX_now_words hC hP hi_21 (f := now_words) e_now_words dX6_degree_21 ?_
  refine lv_aload_n hx hb dX6_degree_22 rfl (lv_at hl 0 rfl) ?_
  refine gX_rhymes_tale hC hP tw_193 (v := a 10) hp2 dX6_degree_23 ?_
  refine gX_tc_kinds hC hP tw_93 dX6_degree_26 ?_
  refine lv_iload_n hx hb dX6_degree_29 rfl (lv_at hl 2 rfl) ?_
  obtain ⟨hi_30, hf⟩ := rf_gu hf
  refine lX_tc_kinds hC hP hi_30 (f := tc_kinds) e_tc_kinds dX6_degree_30 ?_
  refine lv_aload_n hx hb dX6_degree_31 rfl (lv_at hl 0 rfl) ?_
  refine gX_rhymes_now hC hP tw_185 dX6_degree_32 ?_
  refine gX_now_words hC hP tw_50 dX6_degree_35 ?_
  refine lv_iload_n hx hb dX6_degree_38 rfl (lv_at hl 2 rfl) ?_
  obtain ⟨hi_39, hf⟩ := rf_gu hf
  refine lX_now_words hC hP hi_39 (f := now_words) e_now_words dX6_degree_39 ?_
  refine lv_iload_n hx hb dX6_degree_40 rfl (lv_at hl 3 rfl) ?_
  obtain ⟨z41, hz41, hf⟩ := rf_bd hf
  refine rf_vi (q0 := 10) (ci := 9) hC (c_X9_degree_tc l E a P I J A B tc_wordCount tc_close (tc_kinds (Int32.toNatClampNeg v1)) (now_words (Int32.toNatClampNeg v1)) (tc_kinds (Int32.toNatClampNeg v2)) (now_words (Int32.toNatClampNeg v2)) v3 e_tc_wordCount e_tc_close hz41) kV_X9_degree tw_786 ⟨Nat.le_of_ble_eq_true rfl, Nat.le_of_ble_eq_true rfl⟩ rfl rfl rfl rfl rfl hP (rf_DX hD) hS rfl hl.1 (rest := []) rfl (Nat.le_of_ble_eq_true rfl) dX6_degree_41 (fun H locs hP hS => ?_)
  obtain rfl := Option.some.inj hf
  exact rf_reti hC hP hS rfl rfl dX6_degree_44
set_option maxHeartbeats 4000000 in
set_option maxRecDepth 100000 in
theorem c_X10_rhyme (l : Launch) (E : rf_E) (a P : Nat → Nat) (I : Nat → Int32) (J : Nat → Int64) (A : Nat → Nat → Int32) (B : Nat → Nat → Int64) (tc_ear : Int32) (tc_wordCount : Int32) (tc_personCount : Int32) (now_words : Nat → Int32) (tc_kinds : Nat → Int32) (tc_hourEars : Nat → Int32) (tc_close : Nat → Int32) (x_lastTrouble : Int32) (v1 : Int32) (v2 : Int32) (v3 : Int32) {z : Int32 × Int32} (hp0 : P 0 = a 10) (hp2 : P 2 = a 10) (e_tc_ear : I 21 = tc_ear) (e_tc_wordCount : I 23 = tc_wordCount) (e_tc_personCount : I 24 = tc_personCount) (e_now_words : A 1 = now_words) (e_tc_kinds : A 14 = tc_kinds) (e_tc_hourEars : A 18 = tc_hourEars) (e_tc_close : A 22 = tc_close) (e_x_lastTrouble : I 3 = x_lastTrouble) (hf : f_X10_rhyme tc_ear tc_wordCount tc_personCount now_words tc_kinds tc_hourEars tc_close x_lastTrouble v1 v2 v3 = some z) : rf_MI l yX10_rhyme cX10_rhyme 4 (some .int) ({ frames := 4, cells := 0, slots := 0, locals := 100 }) E [.ref (a 0), .int v1, .int v2, .int v3] (cX E a P I J A B) z.1 (cX E a P (rf_upL I [(3, z.2)]) J A B) := by
  unfold f_X10_rhyme at hf
  refine rf_ofI (by decide) (Nat.le_of_ble_eq_true rfl) ?_
  intro p e s m below meth c A0 ls hC hD hP hS hl
  have hC : rf_C p E s m _ meth c cX10_rhyme 4 RX10 (some .int) A0 := hC
  have hx := hC.1
  have hb := hC.2.1
  have hl : lv_has ls 4 [(0, .ref (a 0)), (1, .int v1), (2, .int v2), (3, .int v3)] := hl
  have hP : va_P (rf_D E) vwCl (cX E a P (rf_upL I [(3, x_lastTrouble)]) J A B) s.heap := by
    rw [rf_self (f := I) [(3, x_lastTrouble)] (rf_fa1 e_x_lastTrouble rf_fa0)]
    exact hP
  refine lv_aload_n hx hb dX10_rhyme_0 rfl (lv_at hl 0 rfl) ?_
  refine lv_aload_n hx hb dX10_rhyme_1 rfl (lv_at hl 0 rfl) ?_
  refine lv_iload_n hx hb dX10_rhyme_2 rfl (lv_at hl 1 rfl) ?_
  refine lv_iload_n hx hb dX10_rhyme_3 rfl (lv_at hl 2 rfl) ?_
  obtain ⟨z4, hz4, hf⟩ := rf_bd hf
  refine rf_vi (q0 := 0) (ci := 10) hC (c_X10_isPair l E a P (rf_upL I [(3, x_lastTrouble)]) J A B tc_personCount v1 v2 hp0 e_tc_personCount hz4) kV_X10_isPair tw_778 ⟨Nat.le_of_ble_eq_true rfl, Nat.le_of_ble_eq_true rfl⟩ rfl rfl rfl rfl rfl hP (rf_DX hD) hS rfl hl.1 (rest := [.ref (a 0)]) rfl (Nat.le_of_ble_eq_true rfl) dX10_rhyme_4 (fun H locs hP hS => ?_)
  refine lv_aload_n hx hb dX10_rhyme_7 rfl (lv_at hl 0 rfl) ?_
  refine lv_iload_n hx hb dX10_rhyme_8 rfl (lv_at hl 3 rfl) ?_
  obtain ⟨z9, hz9, hf⟩ := rf_bd hf
  refine rf_vi (q0 := 0) (ci := 10) hC (c_X10_isHour l E a P (rf_upL I [(3, x_lastTrouble)]) J A B v3 hz9) kV_X10_isHour tw_766 ⟨Nat.le_of_ble_eq_true rfl, Nat.le_of_ble_eq_true rfl⟩ rfl rfl rfl rfl rfl hP (rf_DX hD) hS rfl hl.1 (rest := [.int z4, .ref (a 0)]) rfl (Nat.le_of_ble_eq_true rfl) dX10_rhyme_9 (fun H locs hP hS => ?_)
  obtain ⟨z12, hz12, hf⟩ := rf_bd hf
  refine rf_vi (q0 := 0) (ci := 10) hC (c_X10_refused l E a P (rf_upL I [(3, x_lastTrouble)]) J A B x_lastTrouble z4 z9 rfl hz12) kV_X10_refused tw_455 ⟨Nat.le_of_ble_eq_true rfl, Nat.le_of_ble_eq_true rfl⟩ rfl rfl rfl rfl rfl hP (rf_DX hD) hS rfl hl.1 (rest := []) rfl (Nat.le_of_ble_eq_true rfl) dX10_rhyme_12 (fun H locs hP hS => ?_)
  rw [rf_cat (f := I) (l := [(3, x_lastTrouble)]) (lc := [(3, z12.2)]) (l' := [(3, z12.2)]) rfl] at hP
  refine lv_if_eq (tgt := 20) hx hb dX10_rhyme_15 (by decide) (fun c_15 => ?_) (fun c_15 => ?_)
  · have hf := rf_it c_15 hf
    refine lv_aload_n hx hb dX10_rhyme_20 rfl (lv_at hl 0 rfl) ?_
    refine gX_x_rhymes hC hP tw_393 dX10_rhyme_21 ?_
    refine lv_iload_n hx hb dX10_rhyme_24 rfl (lv_at hl 1 rfl) ?_
    refine lv_iload_n hx hb dX10_rhyme_25 rfl (lv_at hl 2 rfl) ?_
    refine lv_aload_n hx hb dX10_rhyme_26 rfl (lv_at hl 0 rfl) ?_
    refine gX_x_tale hC hP tw_401 (v := a 10) hp0 dX10_rhyme_27 ?_
    refine lv_iload_n hx hb dX10_rhyme_30 rfl (lv_at hl 3 rfl) ?_
    obtain ⟨z31, hz31, hf⟩ := rf_bd hf
    refine rf_vi (q0 := 10) (ci := 9) hC (c_X9_earAt_tc l E a P (rf_upL I [(3, z12.2)]) J A B tc_ear tc_hourEars v3 e_tc_ear e_tc_hourEars hz31) kV_X9_earAt tw_770 ⟨Nat.le_of_ble_eq_true rfl, Nat.le_of_ble_eq_true rfl⟩ rfl rfl rfl rfl rfl hP (rf_DX hD) hS rfl hl.1 (rest := [.int v2, .int v1, .ref (a 2)]) rfl (Nat.le_of_ble_eq_true rfl) dX10_rhyme_31 (fun H locs hP hS => ?_)
    obtain ⟨z34, hz34, hf⟩ := rf_bd hf
    refine rf_vi (q0 := 2) (ci := 6) hC (c_X6_degree l E a P (rf_upL I [(3, z12.2)]) J A B tc_wordCount now_words tc_kinds tc_close v1 v2 z31 hp2 e_tc_wordCount e_now_words e_tc_kinds e_tc_close hz34) kV_X6_degree tw_782 ⟨Nat.le_of_ble_eq_true rfl, Nat.le_of_ble_eq_true rfl⟩ rfl rfl rfl rfl rfl hP (rf_DX hD) hS rfl hl.1 (rest := []) rfl (Nat.le_of_ble_eq_true rfl) dX10_rhyme_34 (fun H locs hP hS => ?_)
    obtain rfl := Option.some.inj hf
    exact rf_reti hC hP hS rfl rfl dX10_rhyme_37
  have hf := rf_ie c_15 hf
  refine lv_iconst (v := (-1)) hx hb dX10_rhyme_18 (by decide) ?_
  obtain rfl := Option.some.inj hf
  exact rf_reti hC hP hS rfl rfl dX10_rhyme_19
set_option maxHeartbeats 4000000 in
set_option maxRecDepth 100000 in
theorem w_X6_metBy_81 {l : Launch} {p : Program} {e : Env} {s : State} {m : MethodId} {args : Array Value} {below : List Frame} {meth : Method} {c : Code} {A0 : Nat → Prop} {E : rf_E} {a P : Nat → Nat} {I : Nat → Int32} {J : Nat → Int64} {A : Nat → Nat → Int32} {B : Nat → Nat → Int64} {tc_wordCount : Int32} {tc_personCount : Int32} {now_words : Nat → Int32} {tc_kinds : Nat → Int32} {tc_close : Nat → Int32} {z : Int32} (hC : rf_C p E s m args meth c cX6_metBy 8 RX6 (some .int) A0) (hD : va_D A0 (cX E a P I J A B)) (hp2 : P 2 = a 10) (e_tc_wordCount : I 23 = tc_wordCount) (e_tc_personCount : I 24 = tc_personCount) (e_now_words : A 1 = now_words) (e_tc_kinds : A 14 = tc_kinds) (e_tc_close : A 22 = tc_close) {k6 : Int32 → Int32 → Int32 → Int32 → Int32 → Int32 → Option (Int32)} (hk6 : ∀ (v1 : Int32) (v2 : Int32) (v3 : Int32) (v4 : Int32) (v5 : Int32) (v6 : Int32), k6 v1 v2 v3 v4 v5 v6 = some z → ∀ (H : Heap) (locs : List Loc) (ls : Array Slot), va_P (rf_D E) vwCl (cX E a P I J A B) H → va_S A0 s.heap H locs → lv_has ls 8 [(0, .ref (a 2)), (1, .int v1), (2, .int v2), (3, .int v3), (4, .int v4), (5, .int v5), (6, .int v6)] → W p l e ({ frames := 2, cells := 0, slots := 0, locals := 52 }) s m args below meth c H locs 0 0 (rf_QI below args s E A0 z (cX E a P I J A B)) (F0 m 6 ls [])) :
    ∀ (v1 : Int32) (v2 : Int32) (v3 : Int32) (v4 : Int32) (v5 : Int32) (v6 : Int32), f_X6_metBy_81 k6 tc_wordCount tc_personCount now_words tc_kinds tc_close v1 v2 v3 v4 v5 v6 = some z → ∀ (H : Heap) (locs : List Loc) (ls : Array Slot), va_P (rf_D E) vwCl (cX E a P I J A B) H → va_S A0 s.heap H locs → lv_has ls 8 [(0, .ref (a 2)), (1, .int v1), (2, .int v2), (3, .int v3), (4, .int v4), (5, .int v5), (6, .int v6)] → W p l e ({ frames := 2, cells := 0, slots := 0, locals := 52 }) s m args below meth c H locs 0 0 (rf_QI below args s E A0 z (cX E a P I J A B)) (F0 m 81 ls []) := by
  have hx := hC.1
  have hb := hC.2.1
  intro v1 v2 v3 v4 v5 v6 hf H locs ls hP hS hl
  unfold f_X6_metBy_81 at hf
  refine lv_iinc (v := v6 + 1) (lv' := [(6, .int (v6 + 1)), (0, .ref (a 2)), (1, .int v1), (2, .int v2), (3, .int v3), (4, .int v4), (5, .int v5)]) hx hb dX6_metBy_81 hl (k := 6) rfl rfl (by decide) rfl (fun ls hl => ?_)
  refine lv_goto (tgt := 6) hx hb dX6_metBy_84 (by decide) ?_
  exact hk6 v1 v2 v3 v4 v5 (v6 + 1) hf _ _ _ hP hS (lv_sub hl [1, 2, 3, 4, 5, 6, 0] rfl)
set_option maxHeartbeats 4000000 in
set_option maxRecDepth 100000 in
theorem w_X6_metBy_6 {l : Launch} {p : Program} {e : Env} {s : State} {m : MethodId} {args : Array Value} {below : List Frame} {meth : Method} {c : Code} {A0 : Nat → Prop} {E : rf_E} {a P : Nat → Nat} {I : Nat → Int32} {J : Nat → Int64} {A : Nat → Nat → Int32} {B : Nat → Nat → Int64} {tc_wordCount : Int32} {tc_personCount : Int32} {now_words : Nat → Int32} {tc_kinds : Nat → Int32} {tc_close : Nat → Int32} {z : Int32} (hC : rf_C p E s m args meth c cX6_metBy 8 RX6 (some .int) A0) (hD : va_D A0 (cX E a P I J A B)) (hp2 : P 2 = a 10) (e_tc_wordCount : I 23 = tc_wordCount) (e_tc_personCount : I 24 = tc_personCount) (e_now_words : A 1 = now_words) (e_tc_kinds : A 14 = tc_kinds) (e_tc_close : A 22 = tc_close) :
    ∀ (n : Nat), ∀ (v1 : Int32) (v2 : Int32) (v3 : Int32) (v4 : Int32) (v5 : Int32) (v6 : Int32), f_X6_metBy_6 tc_wordCount tc_personCount now_words tc_kinds tc_close n v1 v2 v3 v4 v5 v6 = some z → ∀ (H : Heap) (locs : List Loc) (ls : Array Slot), va_P (rf_D E) vwCl (cX E a P I J A B) H → va_S A0 s.heap H locs → lv_has ls 8 [(0, .ref (a 2)), (1, .int v1), (2, .int v2), (3, .int v3), (4, .int v4), (5, .int v5), (6, .int v6)] → W p l e ({ frames := 2, cells := 0, slots := 0, locals := 52 }) s m args below meth c H locs 0 0 (rf_QI below args s E A0 z (cX E a P I J A B)) (F0 m 6 ls []) := by
  have hx := hC.1
  have hb := hC.2.1
  intro n
  induction n with
  | zero =>
    intro v1 v2 v3 v4 v5 v6 hf
    have hf : (none : Option (Int32)) = some z := hf
    cases hf
  | succ n ih =>
    intro v1 v2 v3 v4 v5 v6 hf H locs ls hP hS hl
    rw [f_X6_metBy_6] at hf
    refine lv_iload hx hb dX6_metBy_6 (lv_at hl 6 rfl) ?_
    refine lv_aload_n hx hb dX6_metBy_8 rfl (lv_at hl 0 rfl) ?_
    refine gX_rhymes_tale hC hP tw_193 (v := a 10) hp2 dX6_metBy_9 ?_
    refine gX_tc_personCount hC hP tw_131 (v := tc_personCount) e_tc_personCount dX6_metBy_12 ?_
    refine lv_icmp_ge (tgt := 87) hx hb dX6_metBy_15 (by decide) (fun c_15 => ?_) (fun c_15 => ?_)
    · have hf := rf_it c_15 hf
      refine lv_iload hx hb dX6_metBy_87 (lv_at hl 5 rfl) ?_
      obtain rfl := Option.some.inj hf
      exact rf_reti hC hP hS rfl rfl dX6_metBy_89
    have hf := rf_ie c_15 hf
    refine lv_aload_n hx hb dX6_metBy_18 rfl (lv_at hl 0 rfl) ?_
    refine gX_rhymes_now hC hP tw_185 dX6_metBy_19 ?_
    refine gX_now_words hC hP tw_50 dX6_metBy_22 ?_
    refine lv_iload hx hb dX6_metBy_25 (lv_at hl 6 rfl) ?_
    obtain ⟨hi_27, hf⟩ := rf_gu hf
    refine lX_now_words hC hP hi_27 (f := now_words) e_now_words dX6_metBy_27 ?_
    refine lv_iload_n hx hb dX6_metBy_28 rfl (lv_at hl 3 rfl) ?_
    refine lv_ior hx hb dX6_metBy_29 ?_
    refine lv_istore (lv' := [(7, .int ((now_words (Int32.toNatClampNeg v6)) ||| v3)), (0, .ref (a 2)), (1, .int v1), (2, .int v2), (3, .int v3), (4, .int v4), (5, .int v5), (6, .int v6)]) hx hb dX6_metBy_30 hl (by decide) rfl (fun ls hl => ?_)
    refine lv_iload hx hb dX6_metBy_32 (lv_at hl 7 rfl) ?_
    refine lv_iload_n hx hb dX6_metBy_34 rfl (lv_at hl 2 rfl) ?_
    refine lv_icmp_eq (tgt := 81) hx hb dX6_metBy_35 (by decide) (fun c_35 => ?_) (fun c_35 => ?_)
    · have hf := rf_it c_35 hf
      exact w_X6_metBy_81 hC hD hp2 e_tc_wordCount e_tc_personCount e_now_words e_tc_kinds e_tc_close ih v1 v2 v3 v4 v5 v6 hf _ _ _ hP hS (lv_sub hl [1, 2, 3, 4, 5, 6, 7] rfl)
    have hf := rf_ie c_35 hf
    refine lv_aload_n hx hb dX6_metBy_38 rfl (lv_at hl 1 rfl) ?_
    refine gX_rhymes_tale hC hP tw_193 (v := a 10) hp2 dX6_metBy_39 ?_
    refine lv_aload_n hx hb dX6_metBy_42 rfl (lv_at hl 1 rfl) ?_
    refine gX_rhymes_tale hC hP tw_193 (v := a 10) hp2 dX6_metBy_43 ?_
    refine gX_tc_kinds hC hP tw_93 dX6_metBy_46 ?_
    refine lv_iload_n hx hb dX6_metBy_49 rfl (lv_at hl 2 rfl) ?_
    obtain ⟨hi_50, hf⟩ := rf_gu hf
    refine lX_tc_kinds hC hP hi_50 (f := tc_kinds) e_tc_kinds dX6_metBy_50 ?_
    refine lv_iload_n hx hb dX6_metBy_51 rfl (lv_at hl 3 rfl) ?_
    refine lv_aload_n hx hb dX6_metBy_52 rfl (lv_at hl 1 rfl) ?_
    refine gX_rhymes_tale hC hP tw_193 (v := a 10) hp2 dX6_metBy_53 ?_
    refine gX_tc_kinds hC hP tw_93 dX6_metBy_56 ?_
    refine lv_iload hx hb dX6_metBy_59 (lv_at hl 7 rfl) ?_
    obtain ⟨hi_61, hf⟩ := rf_gu hf
    refine lX_tc_kinds hC hP hi_61 (f := tc_kinds) e_tc_kinds dX6_metBy_61 ?_
    refine lv_iload hx hb dX6_metBy_62 (lv_at hl 0 rfl) ?_
    refine lv_iload hx hb dX6_metBy_64 (lv_at hl 5 rfl) ?_
    obtain ⟨z66, hz66, hf⟩ := rf_bd hf
    refine rf_vi (q0 := 10) (ci := 9) hC (c_X9_isFullRhyme_tc l E a P I J A B tc_wordCount tc_close (tc_kinds (Int32.toNatClampNeg v1)) v2 (tc_kinds (Int32.toNatClampNeg v6)) ((now_words (Int32.toNatClampNeg v6)) ||| v3) v4 e_tc_wordCount e_tc_close hz66) kV_X9_isFullRhyme tw_810 ⟨Nat.le_of_ble_eq_true rfl, Nat.le_of_ble_eq_true rfl⟩ rfl rfl rfl rfl rfl hP (rf_DX hD) hS rfl hl.1 (rest := []) rfl (Nat.le_of_ble_eq_true rfl) dX6_metBy_66 (fun H locs hP hS => ?_)
    refine lv_if_eq (tgt := 81) hx hb dX6_metBy_69 (by decide) (fun c_69 => ?_) (fun c_69 => ?_)
    · have hf := rf_it c_69 hf
      exact w_X6_metBy_81 hC hD hp2 e_tc_wordCount e_tc_personCount e_now_words e_tc_kinds e_tc_close ih v1 v2 v3 v4 v5 v6 hf _ _ _ hP hS (lv_sub hl [1, 2, 3, 4, 5, 6, 7] rfl)
    have hf := rf_ie c_69 hf
    refine lv_iload hx hb dX6_metBy_72 (lv_at hl 6 rfl) ?_
    refine lv_iconst (v := 1) hx hb dX6_metBy_74 (by decide) ?_
    refine lv_iload hx hb dX6_metBy_75 (lv_at hl 7 rfl) ?_
    refine lv_ishl hx hb dX6_metBy_77 ?_
    refine lv_ior hx hb dX6_metBy_78 ?_
    refine lv_istore (lv' := [(5, .int (v5 ||| ((1 : Int32) <<< (v6 &&& 31)))), (7, .int ((now_words (Int32.toNatClampNeg v6)) ||| v3)), (0, .ref (a 2)), (1, .int v1), (2, .int v2), (3, .int v3), (4, .int v4), (6, .int v6)]) hx hb dX6_metBy_79 hl (by decide) rfl (fun ls hl => ?_)
    exact w_X6_metBy_81 hC hD hp2 e_tc_wordCount e_tc_personCount e_now_words e_tc_kinds e_tc_close ih v1 v2 v3 v4 (v5 ||| ((1 : Int32) <<< (v6 &&& 31))) v6 hf _ _ _ hP hS (lv_sub hl [2, 3, 4, 5, 6, 0, 7] rfl)
set_option maxHeartbeats 4000000 in
set_option maxRecDepth 100000 in
theorem c_X6_metBy (l : Launch) (E : rf_E) (a P : Nat → Nat) (I : Nat → Int32) (J : Nat → Int64) (A : Nat → Nat → Int32) (B : Nat → Nat → Int64) (tc_wordCount : Int32) (tc_personCount : Int32) (now_words : Nat → Int32) (tc_kinds : Nat → Int32) (tc_close : Nat → Int32) (v1 : Int32) (v2 : Int32) (v3 : Int32) (v4 : Int32) {z : Int32} (hp2 : P 2 = a 10) (e_tc_wordCount : I 23 = tc_wordCount) (e_tc_personCount : I 24 = tc_personCount) (e_now_words : A 1 = now_words) (e_tc_kinds : A 14 = tc_kinds) (e_tc_close : A 22 = tc_close) (hf : f_X6_metBy tc_wordCount tc_personCount now_words tc_kinds tc_close v1 v2 v3 v4 = some z) : rf_MI l yX6_metBy cX6_metBy 8 (some .int) ({ frames := 2, cells := 0, slots := 0, locals := 52 }) E [.ref (a 2), .int v1, .int v2, .int v3, .int v4] (cX E a P I J A B) z (cX E a P I J A B) := by
  unfold f_X6_metBy at hf
  refine rf_ofI (by decide) (Nat.le_of_ble_eq_true rfl) ?_
  intro p e s m below meth c A0 ls hC hD hP hS hl
  have hC : rf_C p E s m _ meth c cX6_metBy 8 RX6 (some .int) A0 := hC
  have hx := hC.1
  have hb := hC.2.1
  have hl : lv_has ls 8 [(0, .ref (a 2)), (1, .int v1), (2, .int v2), (3, .int v3), (4, .int v4)] := hl
  refine lv_iconst (v := 0) hx hb dX6_metBy_0 (by decide) ?_
  refine lv_istore (lv' := [(5, .int 0), (0, .ref (a 2)), (1, .int v1), (2, .int v2), (3, .int v3), (4, .int v4)]) hx hb dX6_metBy_1 hl (by decide) rfl (fun ls hl => ?_)
  refine lv_iconst (v := 0) hx hb dX6_metBy_3 (by decide) ?_
  refine lv_istore (lv' := [(6, .int 0), (5, .int 0), (0, .ref (a 2)), (1, .int v1), (2, .int v2), (3, .int v3), (4, .int v4)]) hx hb dX6_metBy_4 hl (by decide) rfl (fun ls hl => ?_)
  exact w_X6_metBy_6 hC hD hp2 e_tc_wordCount e_tc_personCount e_now_words e_tc_kinds e_tc_close rf_fu v1 v2 v3 v4 0 0 hf _ _ _ hP hS (lv_sub hl [2, 3, 4, 5, 6, 1, 0] rfl)
set_option maxHeartbeats 4000000 in
set_option maxRecDepth 100000 in
theorem c_X6_metNow (l : Launch) (E : rf_E) (a P : Nat → Nat) (I : Nat → Int32) (J : Nat → Int64) (A : Nat → Nat → Int32) (B : Nat → Nat → Int64) (tc_wordCount : Int32) (tc_personCount : Int32) (now_words : Nat → Int32) (tc_kinds : Nat → Int32) (tc_close : Nat → Int32) (v1 : Int32) (v2 : Int32) {z : Int32} (hp2 : P 2 = a 10) (e_tc_wordCount : I 23 = tc_wordCount) (e_tc_personCount : I 24 = tc_personCount) (e_now_words : A 1 = now_words) (e_tc_kinds : A 14 = tc_kinds) (e_tc_close : A 22 = tc_close) (hf : f_X6_metNow tc_wordCount tc_personCount now_words tc_kinds tc_close v1 v2 = some z) : rf_MI l yX6_metNow cX6_metNow 3 (some .int) ({ frames := 3, cells := 0, slots := 0, locals := 79 }) E [.ref (a 2), .int v1, .int v2] (cX E a P I J A B) z (cX E a P I J A B) := by
  unfold f_X6_metNow at hf
  refine rf_ofI (by decide) (Nat.le_of_ble_eq_true rfl) ?_
  intro p e s m below meth c A0 ls hC hD hP hS hl
  have hC : rf_C p E s m _ meth c cX6_metNow 3 RX6 (some .int) A0 := hC
  have hx := hC.1
  have hb := hC.2.1
  have hl : lv_has ls 3 [(0, .ref (a 2)), (1, .int v1), (2, .int v2)] := hl
  refine lv_aload_n hx hb dX6_metNow_0 rfl (lv_at hl 0 rfl) ?_
  refine lv_iload_n hx hb dX6_metNow_1 rfl (lv_at hl 1 rfl) ?_
  refine lv_aload_n hx hb dX6_metNow_2 rfl (lv_at hl 0 rfl) ?_
  refine gX_rhymes_now hC hP tw_185 dX6_metNow_3 ?_
  refine gX_now_words hC hP tw_50 dX6_metNow_6 ?_
  refine lv_iload_n hx hb dX6_metNow_9 rfl (lv_at hl 1 rfl) ?_
  obtain ⟨hi_10, hf⟩ := rf_gu hf
  refine lX_now_words hC hP hi_10 (f := now_words) e_now_words dX6_metNow_10 ?_
  refine lv_iconst (v := 0) hx hb dX6_metNow_11 (by decide) ?_
  refine lv_iload_n hx hb dX6_metNow_12 rfl (lv_at hl 2 rfl) ?_
  obtain ⟨z13, hz13, hf⟩ := rf_bd hf
  refine rf_vi (q0 := 2) (ci := 6) hC (c_X6_metBy l E a P I J A B tc_wordCount tc_personCount now_words tc_kinds tc_close v1 (now_words (Int32.toNatClampNeg v1)) 0 v2 hp2 e_tc_wordCount e_tc_personCount e_now_words e_tc_kinds e_tc_close hz13) kV_X6_metBy tw_806 ⟨Nat.le_of_ble_eq_true rfl, Nat.le_of_ble_eq_true rfl⟩ rfl rfl rfl rfl rfl hP (rf_DX hD) hS rfl hl.1 (rest := []) rfl (Nat.le_of_ble_eq_true rfl) dX6_metNow_13 (fun H locs hP hS => ?_)
  obtain rfl := Option.some.inj hf
  exact rf_reti hC hP hS rfl rfl dX6_metNow_16
set_option maxHeartbeats 4000000 in
set_option maxRecDepth 100000 in
theorem c_X10_with (l : Launch) (E : rf_E) (a P : Nat → Nat) (I : Nat → Int32) (J : Nat → Int64) (A : Nat → Nat → Int32) (B : Nat → Nat → Int64) (tc_ear : Int32) (tc_wordCount : Int32) (tc_personCount : Int32) (now_words : Nat → Int32) (tc_kinds : Nat → Int32) (tc_hourEars : Nat → Int32) (tc_close : Nat → Int32) (x_lastTrouble : Int32) (v1 : Int32) (v2 : Int32) {z : Int32 × Int32} (hp0 : P 0 = a 10) (hp2 : P 2 = a 10) (e_tc_ear : I 21 = tc_ear) (e_tc_wordCount : I 23 = tc_wordCount) (e_tc_personCount : I 24 = tc_personCount) (e_now_words : A 1 = now_words) (e_tc_kinds : A 14 = tc_kinds) (e_tc_hourEars : A 18 = tc_hourEars) (e_tc_close : A 22 = tc_close) (e_x_lastTrouble : I 3 = x_lastTrouble) (hf : f_X10_with tc_ear tc_wordCount tc_personCount now_words tc_kinds tc_hourEars tc_close x_lastTrouble v1 v2 = some z) : rf_MI l yX10_with cX10_with 3 (some .int) ({ frames := 4, cells := 0, slots := 0, locals := 101 }) E [.ref (a 0), .int v1, .int v2] (cX E a P I J A B) z.1 (cX E a P (rf_upL I [(3, z.2)]) J A B) := by
  unfold f_X10_with at hf
  refine rf_ofI (by decide) (Nat.le_of_ble_eq_true rfl) ?_
  intro p e s m below meth c A0 ls hC hD hP hS hl
  have hC : rf_C p E s m _ meth c cX10_with 3 RX10 (some .int) A0 := hC
  have hx := hC.1
  have hb := hC.2.1
  have hl : lv_has ls 3 [(0, .ref (a 0)), (1, .int v1), (2, .int v2)] := hl
  have hP : va_P (rf_D E) vwCl (cX E a P (rf_upL I [(3, x_lastTrouble)]) J A B) s.heap := by
    rw [rf_self (f := I) [(3, x_lastTrouble)] (rf_fa1 e_x_lastTrouble rf_fa0)]
    exact hP
  refine lv_aload_n hx hb dX10_with_0 rfl (lv_at hl 0 rfl) ?_
  refine lv_aload_n hx hb dX10_with_1 rfl (lv_at hl 0 rfl) ?_
  refine lv_iload_n hx hb dX10_with_2 rfl (lv_at hl 1 rfl) ?_
  obtain ⟨z3, hz3, hf⟩ := rf_bd hf
  refine rf_vi (q0 := 0) (ci := 10) hC (c_X10_isPerson l E a P (rf_upL I [(3, x_lastTrouble)]) J A B tc_personCount v1 hp0 e_tc_personCount hz3) kV_X10_isPerson tw_750 ⟨Nat.le_of_ble_eq_true rfl, Nat.le_of_ble_eq_true rfl⟩ rfl rfl rfl rfl rfl hP (rf_DX hD) hS rfl hl.1 (rest := [.ref (a 0)]) rfl (Nat.le_of_ble_eq_true rfl) dX10_with_3 (fun H locs hP hS => ?_)
  refine lv_aload_n hx hb dX10_with_6 rfl (lv_at hl 0 rfl) ?_
  refine lv_iload_n hx hb dX10_with_7 rfl (lv_at hl 2 rfl) ?_
  obtain ⟨z8, hz8, hf⟩ := rf_bd hf
  refine rf_vi (q0 := 0) (ci := 10) hC (c_X10_isHour l E a P (rf_upL I [(3, x_lastTrouble)]) J A B v2 hz8) kV_X10_isHour tw_766 ⟨Nat.le_of_ble_eq_true rfl, Nat.le_of_ble_eq_true rfl⟩ rfl rfl rfl rfl rfl hP (rf_DX hD) hS rfl hl.1 (rest := [.int z3, .ref (a 0)]) rfl (Nat.le_of_ble_eq_true rfl) dX10_with_8 (fun H locs hP hS => ?_)
  obtain ⟨z11, hz11, hf⟩ := rf_bd hf
  refine rf_vi (q0 := 0) (ci := 10) hC (c_X10_refused l E a P (rf_upL I [(3, x_lastTrouble)]) J A B x_lastTrouble z3 z8 rfl hz11) kV_X10_refused tw_455 ⟨Nat.le_of_ble_eq_true rfl, Nat.le_of_ble_eq_true rfl⟩ rfl rfl rfl rfl rfl hP (rf_DX hD) hS rfl hl.1 (rest := []) rfl (Nat.le_of_ble_eq_true rfl) dX10_with_11 (fun H locs hP hS => ?_)
  rw [rf_cat (f := I) (l := [(3, x_lastTrouble)]) (lc := [(3, z11.2)]) (l' := [(3, z11.2)]) rfl] at hP
  refine lv_if_eq (tgt := 19) hx hb dX10_with_14 (by decide) (fun c_14 => ?_) (fun c_14 => ?_)
  · have hf := rf_it c_14 hf
    refine lv_aload_n hx hb dX10_with_19 rfl (lv_at hl 0 rfl) ?_
    refine gX_x_rhymes hC hP tw_393 dX10_with_20 ?_
    refine lv_iload_n hx hb dX10_with_23 rfl (lv_at hl 1 rfl) ?_
    refine lv_aload_n hx hb dX10_with_24 rfl (lv_at hl 0 rfl) ?_
    refine gX_x_tale hC hP tw_401 (v := a 10) hp0 dX10_with_25 ?_
    refine lv_iload_n hx hb dX10_with_28 rfl (lv_at hl 2 rfl) ?_
    obtain ⟨z29, hz29, hf⟩ := rf_bd hf
    refine rf_vi (q0 := 10) (ci := 9) hC (c_X9_earAt_tc l E a P (rf_upL I [(3, z11.2)]) J A B tc_ear tc_hourEars v2 e_tc_ear e_tc_hourEars hz29) kV_X9_earAt tw_770 ⟨Nat.le_of_ble_eq_true rfl, Nat.le_of_ble_eq_true rfl⟩ rfl rfl rfl rfl rfl hP (rf_DX hD) hS rfl hl.1 (rest := [.int v1, .ref (a 2)]) rfl (Nat.le_of_ble_eq_true rfl) dX10_with_29 (fun H locs hP hS => ?_)
    obtain ⟨z32, hz32, hf⟩ := rf_bd hf
    refine rf_vi (q0 := 2) (ci := 6) hC (c_X6_metNow l E a P (rf_upL I [(3, z11.2)]) J A B tc_wordCount tc_personCount now_words tc_kinds tc_close v1 z29 hp2 e_tc_wordCount e_tc_personCount e_now_words e_tc_kinds e_tc_close hz32) kV_X6_metNow tw_802 ⟨Nat.le_of_ble_eq_true rfl, Nat.le_of_ble_eq_true rfl⟩ rfl rfl rfl rfl rfl hP (rf_DX hD) hS rfl hl.1 (rest := []) rfl (Nat.le_of_ble_eq_true rfl) dX10_with_32 (fun H locs hP hS => ?_)
    obtain rfl := Option.some.inj hf
    exact rf_reti hC hP hS rfl rfl dX10_with_35
  have hf := rf_ie c_14 hf
  refine lv_iconst (v := (-1)) hx hb dX10_with_17 (by decide) ?_
  obtain rfl := Option.some.inj hf
  exact rf_reti hC hP hS rfl rfl dX10_with_18
set_option maxHeartbeats 4000000 in
set_option maxRecDepth 100000 in
theorem w_X6_hourOfMost_45 {l : Launch} {p : Program} {e : Env} {s : State} {m : MethodId} {args : Array Value} {below : List Frame} {meth : Method} {c : Code} {A0 : Nat → Prop} {E : rf_E} {a P : Nat → Nat} {I : Nat → Int32} {J : Nat → Int64} {A : Nat → Nat → Int32} {B : Nat → Nat → Int64} {tc_ear : Int32} {tc_wordCount : Int32} {tc_personCount : Int32} {now_words : Nat → Int32} {tc_kinds : Nat → Int32} {tc_hourEars : Nat → Int32} {tc_close : Nat → Int32} {z : Int32} (hC : rf_C p E s m args meth c cX6_hourOfMost 6 RX6 (some .int) A0) (hD : va_D A0 (cX E a P I J A B)) (hp2 : P 2 = a 10) (e_tc_ear : I 21 = tc_ear) (e_tc_wordCount : I 23 = tc_wordCount) (e_tc_personCount : I 24 = tc_personCount) (e_now_words : A 1 = now_words) (e_tc_kinds : A 14 = tc_kinds) (e_tc_hourEars : A 18 = tc_hourEars) (e_tc_close : A 22 = tc_close) {k7 : Int32 → Int32 → Int32 → Int32 → Option (Int32)} (hk7 : ∀ (v1 : Int32) (v2 : Int32) (v3 : Int32) (v4 : Int32), k7 v1 v2 v3 v4 = some z → ∀ (H : Heap) (locs : List Loc) (ls : Array Slot), va_P (rf_D E) vwCl (cX E a P I J A B) H → va_S A0 s.heap H locs → lv_has ls 6 [(0, .ref (a 2)), (1, .int v1), (2, .int v2), (3, .int v3), (4, .int v4)] → W p l e ({ frames := 4, cells := 0, slots := 0, locals := 101 }) s m args below meth c H locs 0 0 (rf_QI below args s E A0 z (cX E a P I J A B)) (F0 m 7 ls [])) :
    ∀ (v1 : Int32) (v2 : Int32) (v3 : Int32) (v4 : Int32), f_X6_hourOfMost_45 k7 tc_ear tc_wordCount tc_personCount now_words tc_kinds tc_hourEars tc_close v1 v2 v3 v4 = some z → ∀ (H : Heap) (locs : List Loc) (ls : Array Slot), va_P (rf_D E) vwCl (cX E a P I J A B) H → va_S A0 s.heap H locs → lv_has ls 6 [(0, .ref (a 2)), (1, .int v1), (2, .int v2), (3, .int v3), (4, .int v4)] → W p l e ({ frames := 4, cells := 0, slots := 0, locals := 101 }) s m args below meth c H locs 0 0 (rf_QI below args s E A0 z (cX E a P I J A B)) (F0 m 45 ls []) := by
  have hx := hC.1
  have hb := hC.2.1
  intro v1 v2 v3 v4 hf H locs ls hP hS hl
  unfold f_X6_hourOfMost_45 at hf
  refine lv_iinc (v := v4 + 1) (lv' := [(4, .int (v4 + 1)), (0, .ref (a 2)), (1, .int v1), (2, .int v2), (3, .int v3)]) hx hb dX6_hourOfMost_45 hl (k := 4) rfl rfl (by decide) rfl (fun ls hl => ?_)
  refine lv_goto (tgt := 7) hx hb dX6_hourOfMost_48 (by decide) ?_
  exact hk7 v1 v2 v3 (v4 + 1) hf _ _ _ hP hS (lv_sub hl [1, 2, 3, 4, 0] rfl)
set_option maxHeartbeats 4000000 in
set_option maxRecDepth 100000 in
theorem w_X6_hourOfMost_7 {l : Launch} {p : Program} {e : Env} {s : State} {m : MethodId} {args : Array Value} {below : List Frame} {meth : Method} {c : Code} {A0 : Nat → Prop} {E : rf_E} {a P : Nat → Nat} {I : Nat → Int32} {J : Nat → Int64} {A : Nat → Nat → Int32} {B : Nat → Nat → Int64} {tc_ear : Int32} {tc_wordCount : Int32} {tc_personCount : Int32} {now_words : Nat → Int32} {tc_kinds : Nat → Int32} {tc_hourEars : Nat → Int32} {tc_close : Nat → Int32} {z : Int32} (hC : rf_C p E s m args meth c cX6_hourOfMost 6 RX6 (some .int) A0) (hD : va_D A0 (cX E a P I J A B)) (hp2 : P 2 = a 10) (e_tc_ear : I 21 = tc_ear) (e_tc_wordCount : I 23 = tc_wordCount) (e_tc_personCount : I 24 = tc_personCount) (e_now_words : A 1 = now_words) (e_tc_kinds : A 14 = tc_kinds) (e_tc_hourEars : A 18 = tc_hourEars) (e_tc_close : A 22 = tc_close) :
    ∀ (n : Nat), ∀ (v1 : Int32) (v2 : Int32) (v3 : Int32) (v4 : Int32), f_X6_hourOfMost_7 tc_ear tc_wordCount tc_personCount now_words tc_kinds tc_hourEars tc_close n v1 v2 v3 v4 = some z → ∀ (H : Heap) (locs : List Loc) (ls : Array Slot), va_P (rf_D E) vwCl (cX E a P I J A B) H → va_S A0 s.heap H locs → lv_has ls 6 [(0, .ref (a 2)), (1, .int v1), (2, .int v2), (3, .int v3), (4, .int v4)] → W p l e ({ frames := 4, cells := 0, slots := 0, locals := 101 }) s m args below meth c H locs 0 0 (rf_QI below args s E A0 z (cX E a P I J A B)) (F0 m 7 ls []) := by
  have hx := hC.1
  have hb := hC.2.1
  intro n
  induction n with
  | zero =>
    intro v1 v2 v3 v4 hf
    have hf : (none : Option (Int32)) = some z := hf
    cases hf
  | succ n ih =>
    intro v1 v2 v3 v4 hf H locs ls hP hS hl
    rw [f_X6_hourOfMost_7] at hf
    refine lv_iload hx hb dX6_hourOfMost_7 (lv_at hl 4 rfl) ?_
    refine lv_bipush (v := 24) hx hb dX6_hourOfMost_9 (by decide) ?_
    refine lv_icmp_ge (tgt := 51) hx hb dX6_hourOfMost_11 (by decide) (fun c_11 => ?_) (fun c_11 => ?_)
    · have hf := rf_it c_11 hf
      refine lv_iload_n hx hb dX6_hourOfMost_51 rfl (lv_at hl 2 rfl) ?_
      obtain rfl := Option.some.inj hf
      exact rf_reti hC hP hS rfl rfl dX6_hourOfMost_52
    have hf := rf_ie c_11 hf
    refine lv_aload_n hx hb dX6_hourOfMost_14 rfl (lv_at hl 0 rfl) ?_
    refine lv_iload_n hx hb dX6_hourOfMost_15 rfl (lv_at hl 1 rfl) ?_
    refine lv_aload_n hx hb dX6_hourOfMost_16 rfl (lv_at hl 0 rfl) ?_
    refine gX_rhymes_tale hC hP tw_193 (v := a 10) hp2 dX6_hourOfMost_17 ?_
    refine lv_iload hx hb dX6_hourOfMost_20 (lv_at hl 4 rfl) ?_
    obtain ⟨z22, hz22, hf⟩ := rf_bd hf
    refine rf_vi (q0 := 10) (ci := 9) hC (c_X9_earAt_tc l E a P I J A B tc_ear tc_hourEars v4 e_tc_ear e_tc_hourEars hz22) kV_X9_earAt tw_819 ⟨Nat.le_of_ble_eq_true rfl, Nat.le_of_ble_eq_true rfl⟩ rfl rfl rfl rfl rfl hP (rf_DX hD) hS rfl hl.1 (rest := [.int v1, .ref (a 2)]) rfl (Nat.le_of_ble_eq_true rfl) dX6_hourOfMost_22 (fun H locs hP hS => ?_)
    obtain ⟨z25, hz25, hf⟩ := rf_bd hf
    refine rf_vi (q0 := 2) (ci := 6) hC (c_X6_metNow l E a P I J A B tc_wordCount tc_personCount now_words tc_kinds tc_close v1 z22 hp2 e_tc_wordCount e_tc_personCount e_now_words e_tc_kinds e_tc_close hz25) kV_X6_metNow tw_820 ⟨Nat.le_of_ble_eq_true rfl, Nat.le_of_ble_eq_true rfl⟩ rfl rfl rfl rfl rfl hP (rf_DX hD) hS rfl hl.1 (rest := []) rfl (Nat.le_of_ble_eq_true rfl) dX6_hourOfMost_25 (fun H locs hP hS => ?_)
    obtain ⟨z28, hz28, hf⟩ := rf_bd hf
    refine rf_si0 hC (c_J6_bitCount_0f7a4 l E z25 hz28) kS_J6_bitCount_0f7a4 tw_821 ⟨Nat.le_of_ble_eq_true rfl, Nat.le_of_ble_eq_true rfl⟩ rfl rfl hP hS rfl hl.1 (rest := []) rfl (Nat.le_of_ble_eq_true rfl) dX6_hourOfMost_28 (fun H locs hP hS => ?_)
    refine lv_istore (lv' := [(5, .int z28), (0, .ref (a 2)), (1, .int v1), (2, .int v2), (3, .int v3), (4, .int v4)]) hx hb dX6_hourOfMost_31 hl (by decide) rfl (fun ls hl => ?_)
    refine lv_iload hx hb dX6_hourOfMost_33 (lv_at hl 0 rfl) ?_
    refine lv_iload_n hx hb dX6_hourOfMost_35 rfl (lv_at hl 4 rfl) ?_
    refine lv_icmp_le (tgt := 45) hx hb dX6_hourOfMost_36 (by decide) (fun c_36 => ?_) (fun c_36 => ?_)
    · have hf := rf_it c_36 hf
      exact w_X6_hourOfMost_45 hC hD hp2 e_tc_ear e_tc_wordCount e_tc_personCount e_now_words e_tc_kinds e_tc_hourEars e_tc_close ih v1 v2 v3 v4 hf _ _ _ hP hS (lv_sub hl [1, 2, 3, 4, 5] rfl)
    have hf := rf_ie c_36 hf
    refine lv_iload hx hb dX6_hourOfMost_39 (lv_at hl 0 rfl) ?_
    refine lv_istore_n (lv' := [(3, .int z28), (5, .int z28), (0, .ref (a 2)), (1, .int v1), (2, .int v2), (4, .int v4)]) hx hb dX6_hourOfMost_41 rfl hl (by decide) rfl (fun ls hl => ?_)
    refine lv_iload hx hb dX6_hourOfMost_42 (lv_at hl 5 rfl) ?_
    refine lv_istore_n (lv' := [(2, .int v4), (3, .int z28), (5, .int z28), (0, .ref (a 2)), (1, .int v1), (4, .int v4)]) hx hb dX6_hourOfMost_44 rfl hl (by decide) rfl (fun ls hl => ?_)
    exact w_X6_hourOfMost_45 hC hD hp2 e_tc_ear e_tc_wordCount e_tc_personCount e_now_words e_tc_kinds e_tc_hourEars e_tc_close ih v1 v4 z28 v4 hf _ _ _ hP hS (lv_sub hl [3, 4, 0, 1, 5] rfl)
set_option maxHeartbeats 4000000 in
set_option maxRecDepth 100000 in
theorem c_X6_hourOfMost (l : Launch) (E : rf_E) (a P : Nat → Nat) (I : Nat → Int32) (J : Nat → Int64) (A : Nat → Nat → Int32) (B : Nat → Nat → Int64) (tc_ear : Int32) (tc_wordCount : Int32) (tc_personCount : Int32) (now_words : Nat → Int32) (tc_kinds : Nat → Int32) (tc_hourEars : Nat → Int32) (tc_close : Nat → Int32) (v1 : Int32) {z : Int32} (hp2 : P 2 = a 10) (e_tc_ear : I 21 = tc_ear) (e_tc_wordCount : I 23 = tc_wordCount) (e_tc_personCount : I 24 = tc_personCount) (e_now_words : A 1 = now_words) (e_tc_kinds : A 14 = tc_kinds) (e_tc_hourEars : A 18 = tc_hourEars) (e_tc_close : A 22 = tc_close) (hf : f_X6_hourOfMost tc_ear tc_wordCount tc_personCount now_words tc_kinds tc_hourEars tc_close v1 = some z) : rf_MI l yX6_hourOfMost cX6_hourOfMost 6 (some .int) ({ frames := 4, cells := 0, slots := 0, locals := 101 }) E [.ref (a 2), .int v1] (cX E a P I J A B) z (cX E a P I J A B) := by
  unfold f_X6_hourOfMost at hf
  refine rf_ofI (by decide) (Nat.le_of_ble_eq_true rfl) ?_
  intro p e s m below meth c A0 ls hC hD hP hS hl
  have hC : rf_C p E s m _ meth c cX6_hourOfMost 6 RX6 (some .int) A0 := hC
  have hx := hC.1
  have hb := hC.2.1
  have hl : lv_has ls 6 [(0, .ref (a 2)), (1, .int v1)] := hl
  refine lv_iconst (v := 0) hx hb dX6_hourOfMost_0 (by decide) ?_
  refine lv_istore_n (lv' := [(2, .int 0), (0, .ref (a 2)), (1, .int v1)]) hx hb dX6_hourOfMost_1 rfl hl (by decide) rfl (fun ls hl => ?_)
  refine lv_iconst (v := (-1)) hx hb dX6_hourOfMost_2 (by decide) ?_
  refine lv_istore_n (lv' := [(3, .int (-1)), (2, .int 0), (0, .ref (a 2)), (1, .int v1)]) hx hb dX6_hourOfMost_3 rfl hl (by decide) rfl (fun ls hl => ?_)
  refine lv_iconst (v := 0) hx hb dX6_hourOfMost_4 (by decide) ?_
  refine lv_istore (lv' := [(4, .int 0), (3, .int (-1)), (2, .int 0), (0, .ref (a 2)), (1, .int v1)]) hx hb dX6_hourOfMost_5 hl (by decide) rfl (fun ls hl => ?_)
  exact w_X6_hourOfMost_7 hC hD hp2 e_tc_ear e_tc_wordCount e_tc_personCount e_now_words e_tc_kinds e_tc_hourEars e_tc_close rf_fu v1 0 (-1) 0 hf _ _ _ hP hS (lv_sub hl [3, 4, 2, 1, 0] rfl)
set_option maxHeartbeats 4000000 in
set_option maxRecDepth 100000 in
theorem c_X10_bestHour (l : Launch) (E : rf_E) (a P : Nat → Nat) (I : Nat → Int32) (J : Nat → Int64) (A : Nat → Nat → Int32) (B : Nat → Nat → Int64) (tc_ear : Int32) (tc_wordCount : Int32) (tc_personCount : Int32) (now_words : Nat → Int32) (tc_kinds : Nat → Int32) (tc_hourEars : Nat → Int32) (tc_close : Nat → Int32) (x_lastTrouble : Int32) (v1 : Int32) {z : Int32 × Int32} (hp0 : P 0 = a 10) (hp2 : P 2 = a 10) (e_tc_ear : I 21 = tc_ear) (e_tc_wordCount : I 23 = tc_wordCount) (e_tc_personCount : I 24 = tc_personCount) (e_now_words : A 1 = now_words) (e_tc_kinds : A 14 = tc_kinds) (e_tc_hourEars : A 18 = tc_hourEars) (e_tc_close : A 22 = tc_close) (e_x_lastTrouble : I 3 = x_lastTrouble) (hf : f_X10_bestHour tc_ear tc_wordCount tc_personCount now_words tc_kinds tc_hourEars tc_close x_lastTrouble v1 = some z) : rf_MI l yX10_bestHour cX10_bestHour 2 (some .int) ({ frames := 5, cells := 0, slots := 0, locals := 126 }) E [.ref (a 0), .int v1] (cX E a P I J A B) z.1 (cX E a P (rf_upL I [(3, z.2)]) J A B) := by
  unfold f_X10_bestHour at hf
  refine rf_ofI (by decide) (Nat.le_of_ble_eq_true rfl) ?_
  intro p e s m below meth c A0 ls hC hD hP hS hl
  have hC : rf_C p E s m _ meth c cX10_bestHour 2 RX10 (some .int) A0 := hC
  have hx := hC.1
  have hb := hC.2.1
  have hl : lv_has ls 2 [(0, .ref (a 0)), (1, .int v1)] := hl
  have hP : va_P (rf_D E) vwCl (cX E a P (rf_upL I [(3, x_lastTrouble)]) J A B) s.heap := by
    rw [rf_self (f := I) [(3, x_lastTrouble)] (rf_fa1 e_x_lastTrouble rf_fa0)]
    exact hP
  refine lv_aload_n hx hb dX10_bestHour_0 rfl (lv_at hl 0 rfl) ?_
  refine lv_aload_n hx hb dX10_bestHour_1 rfl (lv_at hl 0 rfl) ?_
  refine lv_iload_n hx hb dX10_bestHour_2 rfl (lv_at hl 1 rfl) ?_
  obtain ⟨z3, hz3, hf⟩ := rf_bd hf
  refine rf_vi (q0 := 0) (ci := 10) hC (c_X10_isPerson l E a P (rf_upL I [(3, x_lastTrouble)]) J A B tc_personCount v1 hp0 e_tc_personCount hz3) kV_X10_isPerson tw_750 ⟨Nat.le_of_ble_eq_true rfl, Nat.le_of_ble_eq_true rfl⟩ rfl rfl rfl rfl rfl hP (rf_DX hD) hS rfl hl.1 (rest := [.ref (a 0)]) rfl (Nat.le_of_ble_eq_true rfl) dX10_bestHour_3 (fun H locs hP hS => ?_)
  refine lv_iconst (v := 1) hx hb dX10_bestHour_6 (by decide) ?_
  obtain ⟨z7, hz7, hf⟩ := rf_bd hf
  refine rf_vi (q0 := 0) (ci := 10) hC (c_X10_refused l E a P (rf_upL I [(3, x_lastTrouble)]) J A B x_lastTrouble z3 1 rfl hz7) kV_X10_refused tw_455 ⟨Nat.le_of_ble_eq_true rfl, Nat.le_of_ble_eq_true rfl⟩ rfl rfl rfl rfl rfl hP (rf_DX hD) hS rfl hl.1 (rest := []) rfl (Nat.le_of_ble_eq_true rfl) dX10_bestHour_7 (fun H locs hP hS => ?_)
  rw [rf_cat (f := I) (l := [(3, x_lastTrouble)]) (lc := [(3, z7.2)]) (l' := [(3, z7.2)]) rfl] at hP
  refine lv_if_eq (tgt := 15) hx hb dX10_bestHour_10 (by decide) (fun c_10 => ?_) (fun c_10 => ?_)
  · have hf := rf_it c_10 hf
    refine lv_aload_n hx hb dX10_bestHour_15 rfl (lv_at hl 0 rfl) ?_
    refine gX_x_rhymes hC hP tw_393 dX10_bestHour_16 ?_
    refine lv_iload_n hx hb dX10_bestHour_19 rfl (lv_at hl 1 rfl) ?_
    obtain ⟨z20, hz20, hf⟩ := rf_bd hf
    refine rf_vi (q0 := 2) (ci := 6) hC (c_X6_hourOfMost l E a P (rf_upL I [(3, z7.2)]) J A B tc_ear tc_wordCount tc_personCount now_words tc_kinds tc_hourEars tc_close v1 hp2 e_tc_ear e_tc_wordCount e_tc_personCount e_now_words e_tc_kinds e_tc_hourEars e_tc_close hz20) kV_X6_hourOfMost tw_815 ⟨Nat.le_of_ble_eq_true rfl, Nat.le_of_ble_eq_true rfl⟩ rfl rfl rfl rfl rfl hP (rf_DX hD) hS rfl hl.1 (rest := []) rfl (Nat.le_of_ble_eq_true rfl) dX10_bestHour_20 (fun H locs hP hS => ?_)
    obtain rfl := Option.some.inj hf
    exact rf_reti hC hP hS rfl rfl dX10_bestHour_23
  have hf := rf_ie c_10 hf
  refine lv_iconst (v := (-1)) hx hb dX10_bestHour_13 (by decide) ?_
  obtain rfl := Option.some.inj hf
  exact rf_reti hC hP hS rfl rfl dX10_bestHour_14
set_option maxHeartbeats 4000000 in
set_option maxRecDepth 100000 in
theorem w_X6_groupOf_53 {l : Launch} {p : Program} {e : Env} {s : State} {m : MethodId} {args : Array Value} {below : List Frame} {meth : Method} {c : Code} {A0 : Nat → Prop} {E : rf_E} {a P : Nat → Nat} {I : Nat → Int32} {J : Nat → Int64} {A : Nat → Nat → Int32} {B : Nat → Nat → Int64} {tc_personCount : Int32} {rhymes_links : Nat → Int32} {z : Int32} (hC : rf_C p E s m args meth c cX6_groupOf 5 RX6 (some .int) A0) (hD : va_D A0 (cX E a P I J A B)) (hp2 : P 2 = a 10) (e_tc_personCount : I 24 = tc_personCount) (e_rhymes_links : A 3 = rhymes_links) {k6 : Int32 → Int32 → Option (Int32)} (hk6 : ∀ (v2 : Int32) (v3 : Int32), k6 v2 v3 = some z → ∀ (H : Heap) (locs : List Loc) (ls : Array Slot), va_P (rf_D E) vwCl (cX E a P I J A B) H → va_S A0 s.heap H locs → lv_has ls 5 [(0, .ref (a 2)), (2, .int v2), (3, .int v3)] → W p l e ({ frames := 1, cells := 0, slots := 0, locals := 21 }) s m args below meth c H locs 0 0 (rf_QI below args s E A0 z (cX E a P I J A B)) (F0 m 6 ls [])) {k20 : Int32 → Int32 → Int32 → Option (Int32)} (hk20 : ∀ (v2 : Int32) (v3 : Int32) (v4 : Int32), k20 v2 v3 v4 = some z → ∀ (H : Heap) (locs : List Loc) (ls : Array Slot), va_P (rf_D E) vwCl (cX E a P I J A B) H → va_S A0 s.heap H locs → lv_has ls 5 [(0, .ref (a 2)), (2, .int v2), (3, .int v3), (4, .int v4)] → W p l e ({ frames := 1, cells := 0, slots := 0, locals := 21 }) s m args below meth c H locs 0 0 (rf_QI below args s E A0 z (cX E a P I J A B)) (F0 m 20 ls [])) :
    ∀ (v3 : Int32) (v4 : Int32) (s0 : Int32) (s1 : Int32), f_X6_groupOf_53 k6 k20 tc_personCount rhymes_links v3 v4 s0 s1 = some z → ∀ (H : Heap) (locs : List Loc) (ls : Array Slot), va_P (rf_D E) vwCl (cX E a P I J A B) H → va_S A0 s.heap H locs → lv_has ls 5 [(0, .ref (a 2)), (3, .int v3), (4, .int v4)] → W p l e ({ frames := 1, cells := 0, slots := 0, locals := 21 }) s m args below meth c H locs 0 0 (rf_QI below args s E A0 z (cX E a P I J A B)) (F0 m 53 ls [.int s1, .int s0]) := by
  have hx := hC.1
  have hb := hC.2.1
  intro v3 v4 s0 s1 hf H locs ls hP hS hl
  unfold f_X6_groupOf_53 at hf
  refine lv_ior hx hb dX6_groupOf_53 ?_
  refine lv_istore_n (lv' := [(2, .int (s0 ||| s1)), (0, .ref (a 2)), (3, .int v3), (4, .int v4)]) hx hb dX6_groupOf_54 rfl hl (by decide) rfl (fun ls hl => ?_)
  refine lv_iinc (v := v4 + 1) (lv' := [(4, .int (v4 + 1)), (2, .int (s0 ||| s1)), (0, .ref (a 2)), (3, .int v3)]) hx hb dX6_groupOf_55 hl (k := 3) rfl rfl (by decide) rfl (fun ls hl => ?_)
  refine lv_goto (tgt := 20) hx hb dX6_groupOf_58 (by decide) ?_
  exact hk20 (s0 ||| s1) v3 (v4 + 1) hf _ _ _ hP hS (lv_sub hl [2, 1, 3, 0] rfl)
set_option maxHeartbeats 4000000 in
set_option maxRecDepth 100000 in
theorem w_X6_groupOf_20 {l : Launch} {p : Program} {e : Env} {s : State} {m : MethodId} {args : Array Value} {below : List Frame} {meth : Method} {c : Code} {A0 : Nat → Prop} {E : rf_E} {a P : Nat → Nat} {I : Nat → Int32} {J : Nat → Int64} {A : Nat → Nat → Int32} {B : Nat → Nat → Int64} {tc_personCount : Int32} {rhymes_links : Nat → Int32} {z : Int32} (hC : rf_C p E s m args meth c cX6_groupOf 5 RX6 (some .int) A0) (hD : va_D A0 (cX E a P I J A B)) (hp2 : P 2 = a 10) (e_tc_personCount : I 24 = tc_personCount) (e_rhymes_links : A 3 = rhymes_links) {k6 : Int32 → Int32 → Option (Int32)} (hk6 : ∀ (v2 : Int32) (v3 : Int32), k6 v2 v3 = some z → ∀ (H : Heap) (locs : List Loc) (ls : Array Slot), va_P (rf_D E) vwCl (cX E a P I J A B) H → va_S A0 s.heap H locs → lv_has ls 5 [(0, .ref (a 2)), (2, .int v2), (3, .int v3)] → W p l e ({ frames := 1, cells := 0, slots := 0, locals := 21 }) s m args below meth c H locs 0 0 (rf_QI below args s E A0 z (cX E a P I J A B)) (F0 m 6 ls [])) :
    ∀ (n : Nat), ∀ (v2 : Int32) (v3 : Int32) (v4 : Int32), f_X6_groupOf_20 k6 tc_personCount rhymes_links n v2 v3 v4 = some z → ∀ (H : Heap) (locs : List Loc) (ls : Array Slot), va_P (rf_D E) vwCl (cX E a P I J A B) H → va_S A0 s.heap H locs → lv_has ls 5 [(0, .ref (a 2)), (2, .int v2), (3, .int v3), (4, .int v4)] → W p l e ({ frames := 1, cells := 0, slots := 0, locals := 21 }) s m args below meth c H locs 0 0 (rf_QI below args s E A0 z (cX E a P I J A B)) (F0 m 20 ls []) := by
  have hx := hC.1
  have hb := hC.2.1
  intro n
  induction n with
  | zero =>
    intro v2 v3 v4 hf
    have hf : (none : Option (Int32)) = some z := hf
    cases hf
  | succ n ih =>
    intro v2 v3 v4 hf H locs ls hP hS hl
    rw [f_X6_groupOf_20] at hf
    refine lv_iload hx hb dX6_groupOf_20 (lv_at hl 3 rfl) ?_
    refine lv_aload_n hx hb dX6_groupOf_22 rfl (lv_at hl 0 rfl) ?_
    refine gX_rhymes_tale hC hP tw_193 (v := a 10) hp2 dX6_groupOf_23 ?_
    refine gX_tc_personCount hC hP tw_131 (v := tc_personCount) e_tc_personCount dX6_groupOf_26 ?_
    refine lv_icmp_ge (tgt := 61) hx hb dX6_groupOf_29 (by decide) (fun c_29 => ?_) (fun c_29 => ?_)
    · have hf := rf_it c_29 hf
      refine lv_iinc (v := v3 + 1) (lv' := [(3, .int (v3 + 1)), (0, .ref (a 2)), (2, .int v2), (4, .int v4)]) hx hb dX6_groupOf_61 hl (k := 2) rfl rfl (by decide) rfl (fun ls hl => ?_)
      refine lv_goto (tgt := 6) hx hb dX6_groupOf_64 (by decide) ?_
      exact hk6 v2 (v3 + 1) hf _ _ _ hP hS (lv_sub hl [1, 2, 0] rfl)
    have hf := rf_ie c_29 hf
    refine lv_iload_n hx hb dX6_groupOf_32 rfl (lv_at hl 1 rfl) ?_
    refine lv_iload_n hx hb dX6_groupOf_33 rfl (lv_at hl 1 rfl) ?_
    refine lv_iload hx hb dX6_groupOf_34 (lv_at hl 3 rfl) ?_
    obtain ⟨z36, hz36, hf⟩ := rf_bd hf
    refine rf_sn0 hC (c_X10_holds l E v2 v4 hz36) kS_X10_holds nw_839 ⟨Nat.le_of_ble_eq_true rfl, Nat.le_of_ble_eq_true rfl⟩ rfl rfl hP hS rfl hl.1 (rest := [.int v2]) rfl (Nat.le_of_ble_eq_true rfl) dX6_groupOf_36 (fun H locs hP hS => ?_)
    refine lv_if_eq (tgt := 52) hx hb dX6_groupOf_39 (by decide) (fun c_39 => ?_) (fun c_39 => ?_)
    · have hf := rf_it c_39 hf
      refine lv_iconst (v := 0) hx hb dX6_groupOf_52 (by decide) ?_
      exact w_X6_groupOf_53 hC hD hp2 e_tc_personCount e_rhymes_links hk6 ih v3 v4 v2 0 hf _ _ _ hP hS (lv_sub hl [0, 2, 3] rfl)
    have hf := rf_ie c_39 hf
    refine lv_aload_n hx hb dX6_groupOf_42 rfl (lv_at hl 0 rfl) ?_
    refine gX_rhymes_links hC hP tw_189 dX6_groupOf_43 ?_
    refine lv_iload hx hb dX6_groupOf_46 (lv_at hl 3 rfl) ?_
    obtain ⟨hi_48, hf⟩ := rf_gu hf
    refine lX_rhymes_links hC hP hi_48 (f := rhymes_links) e_rhymes_links dX6_groupOf_48 ?_
    refine lv_goto (tgt := 53) hx hb dX6_groupOf_49 (by decide) ?_
    exact w_X6_groupOf_53 hC hD hp2 e_tc_personCount e_rhymes_links hk6 ih v3 v4 v2 (rhymes_links (Int32.toNatClampNeg v4)) hf _ _ _ hP hS (lv_sub hl [0, 2, 3] rfl)
set_option maxHeartbeats 4000000 in
set_option maxRecDepth 100000 in
theorem w_X6_groupOf_6 {l : Launch} {p : Program} {e : Env} {s : State} {m : MethodId} {args : Array Value} {below : List Frame} {meth : Method} {c : Code} {A0 : Nat → Prop} {E : rf_E} {a P : Nat → Nat} {I : Nat → Int32} {J : Nat → Int64} {A : Nat → Nat → Int32} {B : Nat → Nat → Int64} {tc_personCount : Int32} {rhymes_links : Nat → Int32} {z : Int32} (hC : rf_C p E s m args meth c cX6_groupOf 5 RX6 (some .int) A0) (hD : va_D A0 (cX E a P I J A B)) (hp2 : P 2 = a 10) (e_tc_personCount : I 24 = tc_personCount) (e_rhymes_links : A 3 = rhymes_links) :
    ∀ (n : Nat), ∀ (v2 : Int32) (v3 : Int32), f_X6_groupOf_6 tc_personCount rhymes_links n v2 v3 = some z → ∀ (H : Heap) (locs : List Loc) (ls : Array Slot), va_P (rf_D E) vwCl (cX E a P I J A B) H → va_S A0 s.heap H locs → lv_has ls 5 [(0, .ref (a 2)), (2, .int v2), (3, .int v3)] → W p l e ({ frames := 1, cells := 0, slots := 0, locals := 21 }) s m args below meth c H locs 0 0 (rf_QI below args s E A0 z (cX E a P I J A B)) (F0 m 6 ls []) := by
  have hx := hC.1
  have hb := hC.2.1
  intro n
  induction n with
  | zero =>
    intro v2 v3 hf
    have hf : (none : Option (Int32)) = some z := hf
    cases hf
  | succ n ih =>
    intro v2 v3 hf H locs ls hP hS hl
    rw [f_X6_groupOf_6] at hf
    refine lv_iload_n hx hb dX6_groupOf_6 rfl (lv_at hl 2 rfl) ?_
    refine lv_aload_n hx hb dX6_groupOf_7 rfl (lv_at hl 0 rfl) ?_
    refine gX_rhymes_tale hC hP tw_193 (v := a 10) hp2 dX6_groupOf_8 ?_
    refine gX_tc_personCount hC hP tw_131 (v := tc_personCount) e_tc_personCount dX6_groupOf_11 ?_
    refine lv_icmp_ge (tgt := 67) hx hb dX6_groupOf_14 (by decide) (fun c_14 => ?_) (fun c_14 => ?_)
    · have hf := rf_it c_14 hf
      refine lv_iload_n hx hb dX6_groupOf_67 rfl (lv_at hl 1 rfl) ?_
      obtain rfl := Option.some.inj hf
      exact rf_reti hC hP hS rfl rfl dX6_groupOf_68
    have hf := rf_ie c_14 hf
    refine lv_iconst (v := 0) hx hb dX6_groupOf_17 (by decide) ?_
    refine lv_istore (lv' := [(4, .int 0), (0, .ref (a 2)), (2, .int v2), (3, .int v3)]) hx hb dX6_groupOf_18 hl (by decide) rfl (fun ls hl => ?_)
    exact w_X6_groupOf_20 hC hD hp2 e_tc_personCount e_rhymes_links ih rf_fu v2 v3 0 hf _ _ _ hP hS (lv_sub hl [1, 2, 3, 0] rfl)
set_option maxHeartbeats 4000000 in
set_option maxRecDepth 100000 in
theorem c_X6_groupOf (l : Launch) (E : rf_E) (a P : Nat → Nat) (I : Nat → Int32) (J : Nat → Int64) (A : Nat → Nat → Int32) (B : Nat → Nat → Int64) (tc_personCount : Int32) (rhymes_links : Nat → Int32) (v1 : Int32) {z : Int32} (hp2 : P 2 = a 10) (e_tc_personCount : I 24 = tc_personCount) (e_rhymes_links : A 3 = rhymes_links) (hf : f_X6_groupOf tc_personCount rhymes_links v1 = some z) : rf_MI l yX6_groupOf cX6_groupOf 5 (some .int) ({ frames := 1, cells := 0, slots := 0, locals := 21 }) E [.ref (a 2), .int v1] (cX E a P I J A B) z (cX E a P I J A B) := by
  unfold f_X6_groupOf at hf
  refine rf_ofI (by decide) (Nat.le_of_ble_eq_true rfl) ?_
  intro p e s m below meth c A0 ls hC hD hP hS hl
  have hC : rf_C p E s m _ meth c cX6_groupOf 5 RX6 (some .int) A0 := hC
  have hx := hC.1
  have hb := hC.2.1
  have hl : lv_has ls 5 [(0, .ref (a 2)), (1, .int v1)] := hl
  refine lv_iconst (v := 1) hx hb dX6_groupOf_0 (by decide) ?_
  refine lv_iload_n hx hb dX6_groupOf_1 rfl (lv_at hl 1 rfl) ?_
  refine lv_ishl hx hb dX6_groupOf_2 ?_
  refine lv_istore_n (lv' := [(2, .int ((1 : Int32) <<< (v1 &&& 31))), (0, .ref (a 2)), (1, .int v1)]) hx hb dX6_groupOf_3 rfl hl (by decide) rfl (fun ls hl => ?_)
  refine lv_iconst (v := 0) hx hb dX6_groupOf_4 (by decide) ?_
  refine lv_istore_n (lv' := [(3, .int 0), (2, .int ((1 : Int32) <<< (v1 &&& 31))), (0, .ref (a 2)), (1, .int v1)]) hx hb dX6_groupOf_5 rfl hl (by decide) rfl (fun ls hl => ?_)
  exact w_X6_groupOf_6 hC hD hp2 e_tc_personCount e_rhymes_links rf_fu ((1 : Int32) <<< (v1 &&& 31)) 0 hf _ _ _ hP hS (lv_sub hl [2, 1, 0] rfl)
set_option maxHeartbeats 4000000 in
set_option maxRecDepth 100000 in
theorem w_X6_link_2 {l : Launch} {p : Program} {e : Env} {s : State} {m : MethodId} {args : Array Value} {below : List Frame} {meth : Method} {c : Code} {A0 : Nat → Prop} {E : rf_E} {a P : Nat → Nat} {I : Nat → Int32} {J : Nat → Int64} {A : Nat → Nat → Int32} {B : Nat → Nat → Int64} {tc_wordCount : Int32} {tc_personCount : Int32} {now_words : Nat → Int32} {tc_kinds : Nat → Int32} {tc_close : Nat → Int32} {z : (Nat → Int32)} (hC : rf_C p E s m args meth c cX6_link 3 RX6 (none) A0) (hD : va_D A0 (cX E a P I J A B)) (hp2 : P 2 = a 10) (e_tc_wordCount : I 23 = tc_wordCount) (e_tc_personCount : I 24 = tc_personCount) (e_now_words : A 1 = now_words) (e_tc_kinds : A 14 = tc_kinds) (e_tc_close : A 22 = tc_close) :
    ∀ (n : Nat), ∀ (v1 : Int32) (v2 : Int32) (rhymes_links : Nat → Int32), f_X6_link_2 tc_wordCount tc_personCount now_words tc_kinds tc_close n v1 v2 rhymes_links = some z → ∀ (H : Heap) (locs : List Loc) (ls : Array Slot), va_P (rf_D E) vwCl (cX E a P I J (rf_upL A [(3, rhymes_links)]) B) H → va_S A0 s.heap H locs → lv_has ls 3 [(0, .ref (a 2)), (1, .int v1), (2, .int v2)] → W p l e ({ frames := 4, cells := 0, slots := 0, locals := 101 }) s m args below meth c H locs 0 0 (rf_QV below args s E A0 (cX E a P I J (rf_upL A [(3, z)]) B)) (F0 m 2 ls []) := by
  have hx := hC.1
  have hb := hC.2.1
  intro n
  induction n with
  | zero =>
    intro v1 v2 rhymes_links hf
    have hf : (none : Option ((Nat → Int32))) = some z := hf
    cases hf
  | succ n ih =>
    intro v1 v2 rhymes_links hf H locs ls hP hS hl
    rw [f_X6_link_2] at hf
    refine lv_iload_n hx hb dX6_link_2 rfl (lv_at hl 2 rfl) ?_
    refine lv_aload_n hx hb dX6_link_3 rfl (lv_at hl 0 rfl) ?_
    refine gX_rhymes_tale hC hP tw_193 (v := a 10) hp2 dX6_link_4 ?_
    refine gX_tc_personCount hC hP tw_131 (v := tc_personCount) e_tc_personCount dX6_link_7 ?_
    refine lv_icmp_ge (tgt := 31) hx hb dX6_link_10 (by decide) (fun c_10 => ?_) (fun c_10 => ?_)
    · have hf := rf_it c_10 hf
      obtain rfl := Option.some.inj hf
      exact rf_retv hC hP hS rfl dX6_link_31
    have hf := rf_ie c_10 hf
    refine lv_aload_n hx hb dX6_link_13 rfl (lv_at hl 0 rfl) ?_
    refine gX_rhymes_links hC hP tw_189 dX6_link_14 ?_
    refine lv_iload_n hx hb dX6_link_17 rfl (lv_at hl 2 rfl) ?_
    refine lv_aload_n hx hb dX6_link_18 rfl (lv_at hl 0 rfl) ?_
    refine lv_iload_n hx hb dX6_link_19 rfl (lv_at hl 2 rfl) ?_
    refine lv_iload_n hx hb dX6_link_20 rfl (lv_at hl 1 rfl) ?_
    obtain ⟨z21, hz21, hf⟩ := rf_bd hf
    refine rf_vi (q0 := 2) (ci := 6) hC (c_X6_metNow l E a P I J (rf_upL A [(3, rhymes_links)]) B tc_wordCount tc_personCount now_words tc_kinds tc_close v2 v1 hp2 e_tc_wordCount e_tc_personCount e_now_words e_tc_kinds e_tc_close hz21) kV_X6_metNow tw_820 ⟨Nat.le_of_ble_eq_true rfl, Nat.le_of_ble_eq_true rfl⟩ rfl rfl rfl rfl rfl hP (rf_DX hD) hS rfl hl.1 (rest := [.int v2, .ref (a 16)]) rfl (Nat.le_of_ble_eq_true rfl) dX6_link_21 (fun H locs hP hS => ?_)
    obtain ⟨hi_24, hf⟩ := rf_gu hf
    refine sX_rhymes_links hC hD hP hS hi_24 (f := rhymes_links) rfl dX6_link_24 (rf_upL A [(3, upd rhymes_links (Int32.toNatClampNeg v2) z21)]) (rf_put rfl) (fun H locs hP hS => ?_)
    refine lv_iinc (v := v2 + 1) (lv' := [(2, .int (v2 + 1)), (0, .ref (a 2)), (1, .int v1)]) hx hb dX6_link_25 hl (k := 2) rfl rfl (by decide) rfl (fun ls hl => ?_)
    refine lv_goto (tgt := 2) hx hb dX6_link_28 (by decide) ?_
    exact ih v1 (v2 + 1) (upd rhymes_links (Int32.toNatClampNeg v2) z21) hf _ _ _ hP hS (lv_sub hl [1, 2, 0] rfl)
set_option maxHeartbeats 4000000 in
set_option maxRecDepth 100000 in
theorem c_X6_link (l : Launch) (E : rf_E) (a P : Nat → Nat) (I : Nat → Int32) (J : Nat → Int64) (A : Nat → Nat → Int32) (B : Nat → Nat → Int64) (tc_wordCount : Int32) (tc_personCount : Int32) (now_words : Nat → Int32) (tc_kinds : Nat → Int32) (tc_close : Nat → Int32) (rhymes_links : Nat → Int32) (v1 : Int32) {z : (Nat → Int32)} (hp2 : P 2 = a 10) (e_tc_wordCount : I 23 = tc_wordCount) (e_tc_personCount : I 24 = tc_personCount) (e_now_words : A 1 = now_words) (e_tc_kinds : A 14 = tc_kinds) (e_tc_close : A 22 = tc_close) (e_rhymes_links : A 3 = rhymes_links) (hf : f_X6_link tc_wordCount tc_personCount now_words tc_kinds tc_close rhymes_links v1 = some z) : rf_MV l yX6_link cX6_link 3 ({ frames := 4, cells := 0, slots := 0, locals := 101 }) E [.ref (a 2), .int v1] (cX E a P I J A B) (cX E a P I J (rf_upL A [(3, z)]) B) := by
  unfold f_X6_link at hf
  refine rf_ofV (by decide) (Nat.le_of_ble_eq_true rfl) ?_
  intro p e s m below meth c A0 ls hC hD hP hS hl
  have hC : rf_C p E s m _ meth c cX6_link 3 RX6 (none) A0 := hC
  have hx := hC.1
  have hb := hC.2.1
  have hl : lv_has ls 3 [(0, .ref (a 2)), (1, .int v1)] := hl
  have hP : va_P (rf_D E) vwCl (cX E a P I J (rf_upL A [(3, rhymes_links)]) B) s.heap := by
    rw [rf_self (f := A) [(3, rhymes_links)] (rf_fa1 e_rhymes_links rf_fa0)]
    exact hP
  refine lv_iconst (v := 0) hx hb dX6_link_0 (by decide) ?_
  refine lv_istore_n (lv' := [(2, .int 0), (0, .ref (a 2)), (1, .int v1)]) hx hb dX6_link_1 rfl hl (by decide) rfl (fun ls hl => ?_)
  exact w_X6_link_2 hC hD hp2 e_tc_wordCount e_tc_personCount e_now_words e_tc_kinds e_tc_close rf_fu v1 0 rhymes_links hf _ _ _ hP hS (lv_sub hl [1, 2, 0] rfl)
set_option maxHeartbeats 4000000 in
set_option maxRecDepth 100000 in
theorem c_X10_classOf (l : Launch) (E : rf_E) (a P : Nat → Nat) (I : Nat → Int32) (J : Nat → Int64) (A : Nat → Nat → Int32) (B : Nat → Nat → Int64) (tc_ear : Int32) (tc_wordCount : Int32) (tc_personCount : Int32) (now_words : Nat → Int32) (tc_kinds : Nat → Int32) (tc_hourEars : Nat → Int32) (tc_close : Nat → Int32) (x_lastTrouble : Int32) (rhymes_links : Nat → Int32) (v1 : Int32) (v2 : Int32) {z : Int32 × Int32 × (Nat → Int32)} (hp0 : P 0 = a 10) (hp2 : P 2 = a 10) (e_tc_ear : I 21 = tc_ear) (e_tc_wordCount : I 23 = tc_wordCount) (e_tc_personCount : I 24 = tc_personCount) (e_now_words : A 1 = now_words) (e_tc_kinds : A 14 = tc_kinds) (e_tc_hourEars : A 18 = tc_hourEars) (e_tc_close : A 22 = tc_close) (e_x_lastTrouble : I 3 = x_lastTrouble) (e_rhymes_links : A 3 = rhymes_links) (hf : f_X10_classOf tc_ear tc_wordCount tc_personCount now_words tc_kinds tc_hourEars tc_close x_lastTrouble rhymes_links v1 v2 = some z) : rf_MI l yX10_classOf cX10_classOf 3 (some .int) ({ frames := 5, cells := 0, slots := 0, locals := 123 }) E [.ref (a 0), .int v1, .int v2] (cX E a P I J A B) z.1 (cX E a P (rf_upL I [(3, z.2.1)]) J (rf_upL A [(3, z.2.2)]) B) := by
  unfold f_X10_classOf at hf
  refine rf_ofI (by decide) (Nat.le_of_ble_eq_true rfl) ?_
  intro p e s m below meth c A0 ls hC hD hP hS hl
  have hC : rf_C p E s m _ meth c cX10_classOf 3 RX10 (some .int) A0 := hC
  have hx := hC.1
  have hb := hC.2.1
  have hl : lv_has ls 3 [(0, .ref (a 0)), (1, .int v1), (2, .int v2)] := hl
  have hP : va_P (rf_D E) vwCl (cX E a P (rf_upL I [(3, x_lastTrouble)]) J (rf_upL A [(3, rhymes_links)]) B) s.heap := by
    rw [rf_self (f := I) [(3, x_lastTrouble)] (rf_fa1 e_x_lastTrouble rf_fa0)]
    rw [rf_self (f := A) [(3, rhymes_links)] (rf_fa1 e_rhymes_links rf_fa0)]
    exact hP
  refine lv_aload_n hx hb dX10_classOf_0 rfl (lv_at hl 0 rfl) ?_
  refine lv_aload_n hx hb dX10_classOf_1 rfl (lv_at hl 0 rfl) ?_
  refine lv_iload_n hx hb dX10_classOf_2 rfl (lv_at hl 1 rfl) ?_
  obtain ⟨z3, hz3, hf⟩ := rf_bd hf
  refine rf_vi (q0 := 0) (ci := 10) hC (c_X10_isPerson l E a P (rf_upL I [(3, x_lastTrouble)]) J (rf_upL A [(3, rhymes_links)]) B tc_personCount v1 hp0 e_tc_personCount hz3) kV_X10_isPerson tw_750 ⟨Nat.le_of_ble_eq_true rfl, Nat.le_of_ble_eq_true rfl⟩ rfl rfl rfl rfl rfl hP (rf_DX hD) hS rfl hl.1 (rest := [.ref (a 0)]) rfl (Nat.le_of_ble_eq_true rfl) dX10_classOf_3 (fun H locs hP hS => ?_)
  refine lv_aload_n hx hb dX10_classOf_6 rfl (lv_at hl 0 rfl) ?_
  refine lv_iload_n hx hb dX10_classOf_7 rfl (lv_at hl 2 rfl) ?_
  obtain ⟨z8, hz8, hf⟩ := rf_bd hf
  refine rf_vi (q0 := 0) (ci := 10) hC (c_X10_isHour l E a P (rf_upL I [(3, x_lastTrouble)]) J (rf_upL A [(3, rhymes_links)]) B v2 hz8) kV_X10_isHour tw_766 ⟨Nat.le_of_ble_eq_true rfl, Nat.le_of_ble_eq_true rfl⟩ rfl rfl rfl rfl rfl hP (rf_DX hD) hS rfl hl.1 (rest := [.int z3, .ref (a 0)]) rfl (Nat.le_of_ble_eq_true rfl) dX10_classOf_8 (fun H locs hP hS => ?_)
  obtain ⟨z11, hz11, hf⟩ := rf_bd hf
  refine rf_vi (q0 := 0) (ci := 10) hC (c_X10_refused l E a P (rf_upL I [(3, x_lastTrouble)]) J (rf_upL A [(3, rhymes_links)]) B x_lastTrouble z3 z8 rfl hz11) kV_X10_refused tw_455 ⟨Nat.le_of_ble_eq_true rfl, Nat.le_of_ble_eq_true rfl⟩ rfl rfl rfl rfl rfl hP (rf_DX hD) hS rfl hl.1 (rest := []) rfl (Nat.le_of_ble_eq_true rfl) dX10_classOf_11 (fun H locs hP hS => ?_)
  rw [rf_cat (f := I) (l := [(3, x_lastTrouble)]) (lc := [(3, z11.2)]) (l' := [(3, z11.2)]) rfl] at hP
  refine lv_if_eq (tgt := 19) hx hb dX10_classOf_14 (by decide) (fun c_14 => ?_) (fun c_14 => ?_)
  · have hf := rf_it c_14 hf
    refine lv_aload_n hx hb dX10_classOf_19 rfl (lv_at hl 0 rfl) ?_
    refine gX_x_rhymes hC hP tw_393 dX10_classOf_20 ?_
    refine lv_aload_n hx hb dX10_classOf_23 rfl (lv_at hl 0 rfl) ?_
    refine gX_x_tale hC hP tw_401 (v := a 10) hp0 dX10_classOf_24 ?_
    refine lv_iload_n hx hb dX10_classOf_27 rfl (lv_at hl 2 rfl) ?_
    obtain ⟨z28, hz28, hf⟩ := rf_bd hf
    refine rf_vi (q0 := 10) (ci := 9) hC (c_X9_earAt_tc l E a P (rf_upL I [(3, z11.2)]) J (rf_upL A [(3, rhymes_links)]) B tc_ear tc_hourEars v2 e_tc_ear e_tc_hourEars hz28) kV_X9_earAt tw_770 ⟨Nat.le_of_ble_eq_true rfl, Nat.le_of_ble_eq_true rfl⟩ rfl rfl rfl rfl rfl hP (rf_DX hD) hS rfl hl.1 (rest := [.ref (a 2)]) rfl (Nat.le_of_ble_eq_true rfl) dX10_classOf_28 (fun H locs hP hS => ?_)
    obtain ⟨z31, hz31, hf⟩ := rf_bd hf
    refine rf_vv (q0 := 2) (ci := 6) hC (c_X6_link l E a P (rf_upL I [(3, z11.2)]) J (rf_upL A [(3, rhymes_links)]) B tc_wordCount tc_personCount now_words tc_kinds tc_close rhymes_links z28 hp2 e_tc_wordCount e_tc_personCount e_now_words e_tc_kinds e_tc_close rfl hz31) kV_X6_link tw_831 ⟨Nat.le_of_ble_eq_true rfl, Nat.le_of_ble_eq_true rfl⟩ rfl rfl rfl rfl rfl hP (rf_DX hD) hS rfl hl.1 (rest := []) rfl (Nat.le_of_ble_eq_true rfl) dX10_classOf_31 (fun H locs hP hS => ?_)
    rw [rf_cat (f := A) (l := [(3, rhymes_links)]) (lc := [(3, z31)]) (l' := [(3, z31)]) rfl] at hP
    refine lv_aload_n hx hb dX10_classOf_34 rfl (lv_at hl 0 rfl) ?_
    refine gX_x_rhymes hC hP tw_393 dX10_classOf_35 ?_
    refine lv_iload_n hx hb dX10_classOf_38 rfl (lv_at hl 1 rfl) ?_
    obtain ⟨z39, hz39, hf⟩ := rf_bd hf
    refine rf_vi (q0 := 2) (ci := 6) hC (c_X6_groupOf l E a P (rf_upL I [(3, z11.2)]) J (rf_upL A [(3, z31)]) B tc_personCount z31 v1 hp2 e_tc_personCount rfl hz39) kV_X6_groupOf tw_835 ⟨Nat.le_of_ble_eq_true rfl, Nat.le_of_ble_eq_true rfl⟩ rfl rfl rfl rfl rfl hP (rf_DX hD) hS rfl hl.1 (rest := []) rfl (Nat.le_of_ble_eq_true rfl) dX10_classOf_39 (fun H locs hP hS => ?_)
    obtain rfl := Option.some.inj hf
    exact rf_reti hC hP hS rfl rfl dX10_classOf_42
  have hf := rf_ie c_14 hf
  refine lv_iconst (v := (-1)) hx hb dX10_classOf_17 (by decide) ?_
  obtain rfl := Option.some.inj hf
  exact rf_reti hC hP hS rfl rfl dX10_classOf_18
set_option maxHeartbeats 4000000 in
set_option maxRecDepth 100000 in
theorem w_X6_groupCount_36 {l : Launch} {p : Program} {e : Env} {s : State} {m : MethodId} {args : Array Value} {below : List Frame} {meth : Method} {c : Code} {A0 : Nat → Prop} {E : rf_E} {a P : Nat → Nat} {I : Nat → Int32} {J : Nat → Int64} {A : Nat → Nat → Int32} {B : Nat → Nat → Int64} {tc_personCount : Int32} {rhymes_links : Nat → Int32} {z : Int32} (hC : rf_C p E s m args meth c cX6_groupCount 4 RX6 (some .int) A0) (hD : va_D A0 (cX E a P I J A B)) (hp2 : P 2 = a 10) (e_tc_personCount : I 24 = tc_personCount) (e_rhymes_links : A 3 = rhymes_links) {k6 : Int32 → Int32 → Int32 → Option (Int32)} (hk6 : ∀ (v1 : Int32) (v2 : Int32) (v3 : Int32), k6 v1 v2 v3 = some z → ∀ (H : Heap) (locs : List Loc) (ls : Array Slot), va_P (rf_D E) vwCl (cX E a P I J A B) H → va_S A0 s.heap H locs → lv_has ls 4 [(0, .ref (a 2)), (1, .int v1), (2, .int v2), (3, .int v3)] → W p l e ({ frames := 2, cells := 0, slots := 0, locals := 45 }) s m args below meth c H locs 0 0 (rf_QI below args s E A0 z (cX E a P I J A B)) (F0 m 6 ls [])) :
    ∀ (v1 : Int32) (v2 : Int32) (v3 : Int32), f_X6_groupCount_36 k6 tc_personCount rhymes_links v1 v2 v3 = some z → ∀ (H : Heap) (locs : List Loc) (ls : Array Slot), va_P (rf_D E) vwCl (cX E a P I J A B) H → va_S A0 s.heap H locs → lv_has ls 4 [(0, .ref (a 2)), (1, .int v1), (2, .int v2), (3, .int v3)] → W p l e ({ frames := 2, cells := 0, slots := 0, locals := 45 }) s m args below meth c H locs 0 0 (rf_QI below args s E A0 z (cX E a P I J A B)) (F0 m 36 ls []) := by
  have hx := hC.1
  have hb := hC.2.1
  intro v1 v2 v3 hf H locs ls hP hS hl
  unfold f_X6_groupCount_36 at hf
  refine lv_iinc (v := v3 + 1) (lv' := [(3, .int (v3 + 1)), (0, .ref (a 2)), (1, .int v1), (2, .int v2)]) hx hb dX6_groupCount_36 hl (k := 3) rfl rfl (by decide) rfl (fun ls hl => ?_)
  refine lv_goto (tgt := 6) hx hb dX6_groupCount_39 (by decide) ?_
  exact hk6 v1 v2 (v3 + 1) hf _ _ _ hP hS (lv_sub hl [1, 2, 3, 0] rfl)
set_option maxHeartbeats 4000000 in
set_option maxRecDepth 100000 in
theorem w_X6_groupCount_6 {l : Launch} {p : Program} {e : Env} {s : State} {m : MethodId} {args : Array Value} {below : List Frame} {meth : Method} {c : Code} {A0 : Nat → Prop} {E : rf_E} {a P : Nat → Nat} {I : Nat → Int32} {J : Nat → Int64} {A : Nat → Nat → Int32} {B : Nat → Nat → Int64} {tc_personCount : Int32} {rhymes_links : Nat → Int32} {z : Int32} (hC : rf_C p E s m args meth c cX6_groupCount 4 RX6 (some .int) A0) (hD : va_D A0 (cX E a P I J A B)) (hp2 : P 2 = a 10) (e_tc_personCount : I 24 = tc_personCount) (e_rhymes_links : A 3 = rhymes_links) :
    ∀ (n : Nat), ∀ (v1 : Int32) (v2 : Int32) (v3 : Int32), f_X6_groupCount_6 tc_personCount rhymes_links n v1 v2 v3 = some z → ∀ (H : Heap) (locs : List Loc) (ls : Array Slot), va_P (rf_D E) vwCl (cX E a P I J A B) H → va_S A0 s.heap H locs → lv_has ls 4 [(0, .ref (a 2)), (1, .int v1), (2, .int v2), (3, .int v3)] → W p l e ({ frames := 2, cells := 0, slots := 0, locals := 45 }) s m args below meth c H locs 0 0 (rf_QI below args s E A0 z (cX E a P I J A B)) (F0 m 6 ls []) := by
  have hx := hC.1
  have hb := hC.2.1
  intro n
  induction n with
  | zero =>
    intro v1 v2 v3 hf
    have hf : (none : Option (Int32)) = some z := hf
    cases hf
  | succ n ih =>
    intro v1 v2 v3 hf H locs ls hP hS hl
    rw [f_X6_groupCount_6] at hf
    refine lv_iload_n hx hb dX6_groupCount_6 rfl (lv_at hl 3 rfl) ?_
    refine lv_aload_n hx hb dX6_groupCount_7 rfl (lv_at hl 0 rfl) ?_
    refine gX_rhymes_tale hC hP tw_193 (v := a 10) hp2 dX6_groupCount_8 ?_
    refine gX_tc_personCount hC hP tw_131 (v := tc_personCount) e_tc_personCount dX6_groupCount_11 ?_
    refine lv_icmp_ge (tgt := 42) hx hb dX6_groupCount_14 (by decide) (fun c_14 => ?_) (fun c_14 => ?_)
    · have hf := rf_it c_14 hf
      refine lv_iload_n hx hb dX6_groupCount_42 rfl (lv_at hl 1 rfl) ?_
      obtain rfl := Option.some.inj hf
      exact rf_reti hC hP hS rfl rfl dX6_groupCount_43
    have hf := rf_ie c_14 hf
    refine lv_iload_n hx hb dX6_groupCount_17 rfl (lv_at hl 2 rfl) ?_
    refine lv_iload_n hx hb dX6_groupCount_18 rfl (lv_at hl 3 rfl) ?_
    obtain ⟨z19, hz19, hf⟩ := rf_bd hf
    refine rf_sn0 hC (c_X10_holds l E v2 v3 hz19) kS_X10_holds nw_839 ⟨Nat.le_of_ble_eq_true rfl, Nat.le_of_ble_eq_true rfl⟩ rfl rfl hP hS rfl hl.1 (rest := []) rfl (Nat.le_of_ble_eq_true rfl) dX6_groupCount_19 (fun H locs hP hS => ?_)
    refine lv_if_ne (tgt := 36) hx hb dX6_groupCount_22 (by decide) (fun c_22 => ?_) (fun c_22 => ?_)
    · have hf := rf_ie c_22 hf
      exact w_X6_groupCount_36 hC hD hp2 e_tc_personCount e_rhymes_links ih v1 v2 v3 hf _ _ _ hP hS (lv_sub hl [0, 1, 2, 3] rfl)
    have hf := rf_it c_22 hf
    refine lv_iload_n hx hb dX6_groupCount_25 rfl (lv_at hl 2 rfl) ?_
    refine lv_aload_n hx hb dX6_groupCount_26 rfl (lv_at hl 0 rfl) ?_
    refine lv_iload_n hx hb dX6_groupCount_27 rfl (lv_at hl 3 rfl) ?_
    obtain ⟨z28, hz28, hf⟩ := rf_bd hf
    refine rf_vi (q0 := 2) (ci := 6) hC (c_X6_groupOf l E a P I J A B tc_personCount rhymes_links v3 hp2 e_tc_personCount e_rhymes_links hz28) kV_X6_groupOf tw_848 ⟨Nat.le_of_ble_eq_true rfl, Nat.le_of_ble_eq_true rfl⟩ rfl rfl rfl rfl rfl hP (rf_DX hD) hS rfl hl.1 (rest := [.int v2]) rfl (Nat.le_of_ble_eq_true rfl) dX6_groupCount_28 (fun H locs hP hS => ?_)
    refine lv_ior hx hb dX6_groupCount_31 ?_
    refine lv_istore_n (lv' := [(2, .int (v2 ||| z28)), (0, .ref (a 2)), (1, .int v1), (3, .int v3)]) hx hb dX6_groupCount_32 rfl hl (by decide) rfl (fun ls hl => ?_)
    refine lv_iinc (v := v1 + 1) (lv' := [(1, .int (v1 + 1)), (2, .int (v2 ||| z28)), (0, .ref (a 2)), (3, .int v3)]) hx hb dX6_groupCount_33 hl (k := 2) rfl rfl (by decide) rfl (fun ls hl => ?_)
    exact w_X6_groupCount_36 hC hD hp2 e_tc_personCount e_rhymes_links ih (v1 + 1) (v2 ||| z28) v3 hf _ _ _ hP hS (lv_sub hl [2, 0, 1, 3] rfl)
set_option maxHeartbeats 4000000 in
set_option maxRecDepth 100000 in
theorem c_X6_groupCount (l : Launch) (E : rf_E) (a P : Nat → Nat) (I : Nat → Int32) (J : Nat → Int64) (A : Nat → Nat → Int32) (B : Nat → Nat → Int64) (tc_personCount : Int32) (rhymes_links : Nat → Int32) {z : Int32} (hp2 : P 2 = a 10) (e_tc_personCount : I 24 = tc_personCount) (e_rhymes_links : A 3 = rhymes_links) (hf : f_X6_groupCount tc_personCount rhymes_links = some z) : rf_MI l yX6_groupCount cX6_groupCount 4 (some .int) ({ frames := 2, cells := 0, slots := 0, locals := 45 }) E [.ref (a 2)] (cX E a P I J A B) z (cX E a P I J A B) := by
  unfold f_X6_groupCount at hf
  refine rf_ofI (by decide) (Nat.le_of_ble_eq_true rfl) ?_
  intro p e s m below meth c A0 ls hC hD hP hS hl
  have hC : rf_C p E s m _ meth c cX6_groupCount 4 RX6 (some .int) A0 := hC
  have hx := hC.1
  have hb := hC.2.1
  have hl : lv_has ls 4 [(0, .ref (a 2))] := hl
  refine lv_iconst (v := 0) hx hb dX6_groupCount_0 (by decide) ?_
  refine lv_istore_n (lv' := [(1, .int 0), (0, .ref (a 2))]) hx hb dX6_groupCount_1 rfl hl (by decide) rfl (fun ls hl => ?_)
  refine lv_iconst (v := 0) hx hb dX6_groupCount_2 (by decide) ?_
  refine lv_istore_n (lv' := [(2, .int 0), (1, .int 0), (0, .ref (a 2))]) hx hb dX6_groupCount_3 rfl hl (by decide) rfl (fun ls hl => ?_)
  refine lv_iconst (v := 0) hx hb dX6_groupCount_4 (by decide) ?_
  refine lv_istore_n (lv' := [(3, .int 0), (2, .int 0), (1, .int 0), (0, .ref (a 2))]) hx hb dX6_groupCount_5 rfl hl (by decide) rfl (fun ls hl => ?_)
  exact w_X6_groupCount_6 hC hD hp2 e_tc_personCount e_rhymes_links rf_fu 0 0 0 hf _ _ _ hP hS (lv_sub hl [3, 2, 1, 0] rfl)
set_option maxHeartbeats 4000000 in
set_option maxRecDepth 100000 in
theorem c_X10_classes (l : Launch) (E : rf_E) (a P : Nat → Nat) (I : Nat → Int32) (J : Nat → Int64) (A : Nat → Nat → Int32) (B : Nat → Nat → Int64) (tc_ear : Int32) (tc_wordCount : Int32) (tc_personCount : Int32) (now_words : Nat → Int32) (tc_kinds : Nat → Int32) (tc_hourEars : Nat → Int32) (tc_close : Nat → Int32) (x_lastTrouble : Int32) (rhymes_links : Nat → Int32) (v1 : Int32) {z : Int32 × Int32 × (Nat → Int32)} (hp0 : P 0 = a 10) (hp2 : P 2 = a 10) (e_tc_ear : I 21 = tc_ear) (e_tc_wordCount : I 23 = tc_wordCount) (e_tc_personCount : I 24 = tc_personCount) (e_now_words : A 1 = now_words) (e_tc_kinds : A 14 = tc_kinds) (e_tc_hourEars : A 18 = tc_hourEars) (e_tc_close : A 22 = tc_close) (e_x_lastTrouble : I 3 = x_lastTrouble) (e_rhymes_links : A 3 = rhymes_links) (hf : f_X10_classes tc_ear tc_wordCount tc_personCount now_words tc_kinds tc_hourEars tc_close x_lastTrouble rhymes_links v1 = some z) : rf_MI l yX10_classes cX10_classes 2 (some .int) ({ frames := 5, cells := 0, slots := 0, locals := 123 }) E [.ref (a 0), .int v1] (cX E a P I J A B) z.1 (cX E a P (rf_upL I [(3, z.2.1)]) J (rf_upL A [(3, z.2.2)]) B) := by
  unfold f_X10_classes at hf
  refine rf_ofI (by decide) (Nat.le_of_ble_eq_true rfl) ?_
  intro p e s m below meth c A0 ls hC hD hP hS hl
  have hC : rf_C p E s m _ meth c cX10_classes 2 RX10 (some .int) A0 := hC
  have hx := hC.1
  have hb := hC.2.1
  have hl : lv_has ls 2 [(0, .ref (a 0)), (1, .int v1)] := hl
  have hP : va_P (rf_D E) vwCl (cX E a P (rf_upL I [(3, x_lastTrouble)]) J (rf_upL A [(3, rhymes_links)]) B) s.heap := by
    rw [rf_self (f := I) [(3, x_lastTrouble)] (rf_fa1 e_x_lastTrouble rf_fa0)]
    rw [rf_self (f := A) [(3, rhymes_links)] (rf_fa1 e_rhymes_links rf_fa0)]
    exact hP
  refine lv_aload_n hx hb dX10_classes_0 rfl (lv_at hl 0 rfl) ?_
  refine lv_aload_n hx hb dX10_classes_1 rfl (lv_at hl 0 rfl) ?_
  obtain ⟨z2, hz2, hf⟩ := rf_bd hf
  refine rf_vi (q0 := 0) (ci := 10) hC (c_X10_hasFerry l E a P (rf_upL I [(3, x_lastTrouble)]) J (rf_upL A [(3, rhymes_links)]) B tc_personCount hp0 e_tc_personCount hz2) kV_X10_hasFerry tw_762 ⟨Nat.le_of_ble_eq_true rfl, Nat.le_of_ble_eq_true rfl⟩ rfl rfl rfl rfl rfl hP (rf_DX hD) hS rfl hl.1 (rest := [.ref (a 0)]) rfl (Nat.le_of_ble_eq_true rfl) dX10_classes_2 (fun H locs hP hS => ?_)
  refine lv_aload_n hx hb dX10_classes_5 rfl (lv_at hl 0 rfl) ?_
  refine lv_iload_n hx hb dX10_classes_6 rfl (lv_at hl 1 rfl) ?_
  obtain ⟨z7, hz7, hf⟩ := rf_bd hf
  refine rf_vi (q0 := 0) (ci := 10) hC (c_X10_isHour l E a P (rf_upL I [(3, x_lastTrouble)]) J (rf_upL A [(3, rhymes_links)]) B v1 hz7) kV_X10_isHour tw_766 ⟨Nat.le_of_ble_eq_true rfl, Nat.le_of_ble_eq_true rfl⟩ rfl rfl rfl rfl rfl hP (rf_DX hD) hS rfl hl.1 (rest := [.int z2, .ref (a 0)]) rfl (Nat.le_of_ble_eq_true rfl) dX10_classes_7 (fun H locs hP hS => ?_)
  obtain ⟨z10, hz10, hf⟩ := rf_bd hf
  refine rf_vi (q0 := 0) (ci := 10) hC (c_X10_refused l E a P (rf_upL I [(3, x_lastTrouble)]) J (rf_upL A [(3, rhymes_links)]) B x_lastTrouble z2 z7 rfl hz10) kV_X10_refused tw_455 ⟨Nat.le_of_ble_eq_true rfl, Nat.le_of_ble_eq_true rfl⟩ rfl rfl rfl rfl rfl hP (rf_DX hD) hS rfl hl.1 (rest := []) rfl (Nat.le_of_ble_eq_true rfl) dX10_classes_10 (fun H locs hP hS => ?_)
  rw [rf_cat (f := I) (l := [(3, x_lastTrouble)]) (lc := [(3, z10.2)]) (l' := [(3, z10.2)]) rfl] at hP
  refine lv_if_eq (tgt := 18) hx hb dX10_classes_13 (by decide) (fun c_13 => ?_) (fun c_13 => ?_)
  · have hf := rf_it c_13 hf
    refine lv_aload_n hx hb dX10_classes_18 rfl (lv_at hl 0 rfl) ?_
    refine gX_x_rhymes hC hP tw_393 dX10_classes_19 ?_
    refine lv_aload_n hx hb dX10_classes_22 rfl (lv_at hl 0 rfl) ?_
    refine gX_x_tale hC hP tw_401 (v := a 10) hp0 dX10_classes_23 ?_
    refine lv_iload_n hx hb dX10_classes_26 rfl (lv_at hl 1 rfl) ?_
    obtain ⟨z27, hz27, hf⟩ := rf_bd hf
    refine rf_vi (q0 := 10) (ci := 9) hC (c_X9_earAt_tc l E a P (rf_upL I [(3, z10.2)]) J (rf_upL A [(3, rhymes_links)]) B tc_ear tc_hourEars v1 e_tc_ear e_tc_hourEars hz27) kV_X9_earAt tw_770 ⟨Nat.le_of_ble_eq_true rfl, Nat.le_of_ble_eq_true rfl⟩ rfl rfl rfl rfl rfl hP (rf_DX hD) hS rfl hl.1 (rest := [.ref (a 2)]) rfl (Nat.le_of_ble_eq_true rfl) dX10_classes_27 (fun H locs hP hS => ?_)
    obtain ⟨z30, hz30, hf⟩ := rf_bd hf
    refine rf_vv (q0 := 2) (ci := 6) hC (c_X6_link l E a P (rf_upL I [(3, z10.2)]) J (rf_upL A [(3, rhymes_links)]) B tc_wordCount tc_personCount now_words tc_kinds tc_close rhymes_links z27 hp2 e_tc_wordCount e_tc_personCount e_now_words e_tc_kinds e_tc_close rfl hz30) kV_X6_link tw_831 ⟨Nat.le_of_ble_eq_true rfl, Nat.le_of_ble_eq_true rfl⟩ rfl rfl rfl rfl rfl hP (rf_DX hD) hS rfl hl.1 (rest := []) rfl (Nat.le_of_ble_eq_true rfl) dX10_classes_30 (fun H locs hP hS => ?_)
    rw [rf_cat (f := A) (l := [(3, rhymes_links)]) (lc := [(3, z30)]) (l' := [(3, z30)]) rfl] at hP
    refine lv_aload_n hx hb dX10_classes_33 rfl (lv_at hl 0 rfl) ?_
    refine gX_x_rhymes hC hP tw_393 dX10_classes_34 ?_
    obtain ⟨z37, hz37, hf⟩ := rf_bd hf
    refine rf_vi (q0 := 2) (ci := 6) hC (c_X6_groupCount l E a P (rf_upL I [(3, z10.2)]) J (rf_upL A [(3, z30)]) B tc_personCount z30 hp2 e_tc_personCount rfl hz37) kV_X6_groupCount tw_844 ⟨Nat.le_of_ble_eq_true rfl, Nat.le_of_ble_eq_true rfl⟩ rfl rfl rfl rfl rfl hP (rf_DX hD) hS rfl hl.1 (rest := []) rfl (Nat.le_of_ble_eq_true rfl) dX10_classes_37 (fun H locs hP hS => ?_)
    obtain rfl := Option.some.inj hf
    exact rf_reti hC hP hS rfl rfl dX10_classes_40
  have hf := rf_ie c_13 hf
  refine lv_iconst (v := (-1)) hx hb dX10_classes_16 (by decide) ?_
  obtain rfl := Option.some.inj hf
  exact rf_reti hC hP hS rfl rfl dX10_classes_17
set_option maxHeartbeats 4000000 in
set_option maxRecDepth 100000 in
theorem w_X6_wordOfMost_50 {l : Launch} {p : Program} {e : Env} {s : State} {m : MethodId} {args : Array Value} {below : List Frame} {meth : Method} {c : Code} {A0 : Nat → Prop} {E : rf_E} {a P : Nat → Nat} {I : Nat → Int32} {J : Nat → Int64} {A : Nat → Nat → Int32} {B : Nat → Nat → Int64} {tc_wordCount : Int32} {tc_personCount : Int32} {now_words : Nat → Int32} {tc_kinds : Nat → Int32} {tc_close : Nat → Int32} {z : Int32} (hC : rf_C p E s m args meth c cX6_wordOfMost 7 RX6 (some .int) A0) (hD : va_D A0 (cX E a P I J A B)) (hp2 : P 2 = a 10) (e_tc_wordCount : I 23 = tc_wordCount) (e_tc_personCount : I 24 = tc_personCount) (e_now_words : A 1 = now_words) (e_tc_kinds : A 14 = tc_kinds) (e_tc_close : A 22 = tc_close) {k8 : Int32 → Int32 → Int32 → Int32 → Int32 → Option (Int32)} (hk8 : ∀ (v1 : Int32) (v2 : Int32) (v3 : Int32) (v4 : Int32) (v5 : Int32), k8 v1 v2 v3 v4 v5 = some z → ∀ (H : Heap) (locs : List Loc) (ls : Array Slot), va_P (rf_D E) vwCl (cX E a P I J A B) H → va_S A0 s.heap H locs → lv_has ls 7 [(0, .ref (a 2)), (1, .int v1), (2, .int v2), (3, .int v3), (4, .int v4), (5, .int v5)] → W p l e ({ frames := 3, cells := 0, slots := 0, locals := 79 }) s m args below meth c H locs 0 0 (rf_QI below args s E A0 z (cX E a P I J A B)) (F0 m 8 ls [])) :
    ∀ (v1 : Int32) (v2 : Int32) (v3 : Int32) (v4 : Int32) (v5 : Int32), f_X6_wordOfMost_50 k8 tc_wordCount tc_personCount now_words tc_kinds tc_close v1 v2 v3 v4 v5 = some z → ∀ (H : Heap) (locs : List Loc) (ls : Array Slot), va_P (rf_D E) vwCl (cX E a P I J A B) H → va_S A0 s.heap H locs → lv_has ls 7 [(0, .ref (a 2)), (1, .int v1), (2, .int v2), (3, .int v3), (4, .int v4), (5, .int v5)] → W p l e ({ frames := 3, cells := 0, slots := 0, locals := 79 }) s m args below meth c H locs 0 0 (rf_QI below args s E A0 z (cX E a P I J A B)) (F0 m 50 ls []) := by
  have hx := hC.1
  have hb := hC.2.1
  intro v1 v2 v3 v4 v5 hf H locs ls hP hS hl
  unfold f_X6_wordOfMost_50 at hf
  refine lv_iinc (v := v5 + 1) (lv' := [(5, .int (v5 + 1)), (0, .ref (a 2)), (1, .int v1), (2, .int v2), (3, .int v3), (4, .int v4)]) hx hb dX6_wordOfMost_50 hl (k := 5) rfl rfl (by decide) rfl (fun ls hl => ?_)
  refine lv_goto (tgt := 8) hx hb dX6_wordOfMost_53 (by decide) ?_
  exact hk8 v1 v2 v3 v4 (v5 + 1) hf _ _ _ hP hS (lv_sub hl [1, 2, 3, 4, 5, 0] rfl)
set_option maxHeartbeats 4000000 in
set_option maxRecDepth 100000 in
theorem w_X6_wordOfMost_8 {l : Launch} {p : Program} {e : Env} {s : State} {m : MethodId} {args : Array Value} {below : List Frame} {meth : Method} {c : Code} {A0 : Nat → Prop} {E : rf_E} {a P : Nat → Nat} {I : Nat → Int32} {J : Nat → Int64} {A : Nat → Nat → Int32} {B : Nat → Nat → Int64} {tc_wordCount : Int32} {tc_personCount : Int32} {now_words : Nat → Int32} {tc_kinds : Nat → Int32} {tc_close : Nat → Int32} {z : Int32} (hC : rf_C p E s m args meth c cX6_wordOfMost 7 RX6 (some .int) A0) (hD : va_D A0 (cX E a P I J A B)) (hp2 : P 2 = a 10) (e_tc_wordCount : I 23 = tc_wordCount) (e_tc_personCount : I 24 = tc_personCount) (e_now_words : A 1 = now_words) (e_tc_kinds : A 14 = tc_kinds) (e_tc_close : A 22 = tc_close) :
    ∀ (n : Nat), ∀ (v1 : Int32) (v2 : Int32) (v3 : Int32) (v4 : Int32) (v5 : Int32), f_X6_wordOfMost_8 tc_wordCount tc_personCount now_words tc_kinds tc_close n v1 v2 v3 v4 v5 = some z → ∀ (H : Heap) (locs : List Loc) (ls : Array Slot), va_P (rf_D E) vwCl (cX E a P I J A B) H → va_S A0 s.heap H locs → lv_has ls 7 [(0, .ref (a 2)), (1, .int v1), (2, .int v2), (3, .int v3), (4, .int v4), (5, .int v5)] → W p l e ({ frames := 3, cells := 0, slots := 0, locals := 79 }) s m args below meth c H locs 0 0 (rf_QI below args s E A0 z (cX E a P I J A B)) (F0 m 8 ls []) := by
  have hx := hC.1
  have hb := hC.2.1
  intro n
  induction n with
  | zero =>
    intro v1 v2 v3 v4 v5 hf
    have hf : (none : Option (Int32)) = some z := hf
    cases hf
  | succ n ih =>
    intro v1 v2 v3 v4 v5 hf H locs ls hP hS hl
    rw [f_X6_wordOfMost_8] at hf
    refine lv_iload hx hb dX6_wordOfMost_8 (lv_at hl 5 rfl) ?_
    refine lv_aload_n hx hb dX6_wordOfMost_10 rfl (lv_at hl 0 rfl) ?_
    refine gX_rhymes_tale hC hP tw_193 (v := a 10) hp2 dX6_wordOfMost_11 ?_
    refine gX_tc_wordCount hC hP tw_124 (v := tc_wordCount) e_tc_wordCount dX6_wordOfMost_14 ?_
    refine lv_icmp_ge (tgt := 56) hx hb dX6_wordOfMost_17 (by decide) (fun c_17 => ?_) (fun c_17 => ?_)
    · have hf := rf_it c_17 hf
      refine lv_iload_n hx hb dX6_wordOfMost_56 rfl (lv_at hl 3 rfl) ?_
      obtain rfl := Option.some.inj hf
      exact rf_reti hC hP hS rfl rfl dX6_wordOfMost_57
    have hf := rf_ie c_17 hf
    refine lv_aload_n hx hb dX6_wordOfMost_20 rfl (lv_at hl 0 rfl) ?_
    refine lv_iload_n hx hb dX6_wordOfMost_21 rfl (lv_at hl 1 rfl) ?_
    refine lv_iconst (v := 1) hx hb dX6_wordOfMost_22 (by decide) ?_
    refine lv_iload hx hb dX6_wordOfMost_23 (lv_at hl 5 rfl) ?_
    refine lv_ishl hx hb dX6_wordOfMost_25 ?_
    refine lv_iconst (v := 0) hx hb dX6_wordOfMost_26 (by decide) ?_
    refine lv_iload_n hx hb dX6_wordOfMost_27 rfl (lv_at hl 2 rfl) ?_
    obtain ⟨z28, hz28, hf⟩ := rf_bd hf
    refine rf_vi (q0 := 2) (ci := 6) hC (c_X6_metBy l E a P I J A B tc_wordCount tc_personCount now_words tc_kinds tc_close v1 ((1 : Int32) <<< (v5 &&& 31)) 0 v2 hp2 e_tc_wordCount e_tc_personCount e_now_words e_tc_kinds e_tc_close hz28) kV_X6_metBy tw_806 ⟨Nat.le_of_ble_eq_true rfl, Nat.le_of_ble_eq_true rfl⟩ rfl rfl rfl rfl rfl hP (rf_DX hD) hS rfl hl.1 (rest := []) rfl (Nat.le_of_ble_eq_true rfl) dX6_wordOfMost_28 (fun H locs hP hS => ?_)
    obtain ⟨z31, hz31, hf⟩ := rf_bd hf
    refine rf_si0 hC (c_J6_bitCount_0f7a4 l E z28 hz31) kS_J6_bitCount_0f7a4 tw_821 ⟨Nat.le_of_ble_eq_true rfl, Nat.le_of_ble_eq_true rfl⟩ rfl rfl hP hS rfl hl.1 (rest := []) rfl (Nat.le_of_ble_eq_true rfl) dX6_wordOfMost_31 (fun H locs hP hS => ?_)
    refine lv_istore (lv' := [(6, .int z31), (0, .ref (a 2)), (1, .int v1), (2, .int v2), (3, .int v3), (4, .int v4), (5, .int v5)]) hx hb dX6_wordOfMost_34 hl (by decide) rfl (fun ls hl => ?_)
    refine lv_iload hx hb dX6_wordOfMost_36 (lv_at hl 0 rfl) ?_
    refine lv_iload hx hb dX6_wordOfMost_38 (lv_at hl 5 rfl) ?_
    refine lv_icmp_le (tgt := 50) hx hb dX6_wordOfMost_40 (by decide) (fun c_40 => ?_) (fun c_40 => ?_)
    · have hf := rf_it c_40 hf
      exact w_X6_wordOfMost_50 hC hD hp2 e_tc_wordCount e_tc_personCount e_now_words e_tc_kinds e_tc_close ih v1 v2 v3 v4 v5 hf _ _ _ hP hS (lv_sub hl [1, 2, 3, 4, 5, 6] rfl)
    have hf := rf_ie c_40 hf
    refine lv_iload hx hb dX6_wordOfMost_43 (lv_at hl 0 rfl) ?_
    refine lv_istore (lv' := [(4, .int z31), (6, .int z31), (0, .ref (a 2)), (1, .int v1), (2, .int v2), (3, .int v3), (5, .int v5)]) hx hb dX6_wordOfMost_45 hl (by decide) rfl (fun ls hl => ?_)
    refine lv_iload hx hb dX6_wordOfMost_47 (lv_at hl 6 rfl) ?_
    refine lv_istore_n (lv' := [(3, .int v5), (4, .int z31), (6, .int z31), (0, .ref (a 2)), (1, .int v1), (2, .int v2), (5, .int v5)]) hx hb dX6_wordOfMost_49 rfl hl (by decide) rfl (fun ls hl => ?_)
    exact w_X6_wordOfMost_50 hC hD hp2 e_tc_wordCount e_tc_personCount e_now_words e_tc_kinds e_tc_close ih v1 v2 v5 z31 v5 hf _ _ _ hP hS (lv_sub hl [3, 4, 5, 0, 1, 6] rfl)
set_option maxHeartbeats 4000000 in
set_option maxRecDepth 100000 in
theorem c_X6_wordOfMost (l : Launch) (E : rf_E) (a P : Nat → Nat) (I : Nat → Int32) (J : Nat → Int64) (A : Nat → Nat → Int32) (B : Nat → Nat → Int64) (tc_wordCount : Int32) (tc_personCount : Int32) (now_words : Nat → Int32) (tc_kinds : Nat → Int32) (tc_close : Nat → Int32) (v1 : Int32) (v2 : Int32) {z : Int32} (hp2 : P 2 = a 10) (e_tc_wordCount : I 23 = tc_wordCount) (e_tc_personCount : I 24 = tc_personCount) (e_now_words : A 1 = now_words) (e_tc_kinds : A 14 = tc_kinds) (e_tc_close : A 22 = tc_close) (hf : f_X6_wordOfMost tc_wordCount tc_personCount now_words tc_kinds tc_close v1 v2 = some z) : rf_MI l yX6_wordOfMost cX6_wordOfMost 7 (some .int) ({ frames := 3, cells := 0, slots := 0, locals := 79 }) E [.ref (a 2), .int v1, .int v2] (cX E a P I J A B) z (cX E a P I J A B) := by
  unfold f_X6_wordOfMost at hf
  refine rf_ofI (by decide) (Nat.le_of_ble_eq_true rfl) ?_
  intro p e s m below meth c A0 ls hC hD hP hS hl
  have hC : rf_C p E s m _ meth c cX6_wordOfMost 7 RX6 (some .int) A0 := hC
  have hx := hC.1
  have hb := hC.2.1
  have hl : lv_has ls 7 [(0, .ref (a 2)), (1, .int v1), (2, .int v2)] := hl
  refine lv_iconst (v := 0) hx hb dX6_wordOfMost_0 (by decide) ?_
  refine lv_istore_n (lv' := [(3, .int 0), (0, .ref (a 2)), (1, .int v1), (2, .int v2)]) hx hb dX6_wordOfMost_1 rfl hl (by decide) rfl (fun ls hl => ?_)
  refine lv_iconst (v := (-1)) hx hb dX6_wordOfMost_2 (by decide) ?_
  refine lv_istore (lv' := [(4, .int (-1)), (3, .int 0), (0, .ref (a 2)), (1, .int v1), (2, .int v2)]) hx hb dX6_wordOfMost_3 hl (by decide) rfl (fun ls hl => ?_)
  refine lv_iconst (v := 0) hx hb dX6_wordOfMost_5 (by decide) ?_
  refine lv_istore (lv' := [(5, .int 0), (4, .int (-1)), (3, .int 0), (0, .ref (a 2)), (1, .int v1), (2, .int v2)]) hx hb dX6_wordOfMost_6 hl (by decide) rfl (fun ls hl => ?_)
  exact w_X6_wordOfMost_8 hC hD hp2 e_tc_wordCount e_tc_personCount e_now_words e_tc_kinds e_tc_close rf_fu v1 v2 0 (-1) 0 hf _ _ _ hP hS (lv_sub hl [3, 4, 5, 2, 1, 0] rfl)
