set_option maxHeartbeats 4000000 in
set_option maxRecDepth 100000 in
theorem c_X10_pairs (l : Launch) (E : rf_E) (a P : Nat → Nat) (I : Nat → Int32) (J : Nat → Int64) (A : Nat → Nat → Int32) (B : Nat → Nat → Int64) (now_everybody : Int32) (now_far : Int32) (tc_ear : Int32) (tc_wordCount : Int32) (tc_personCount : Int32) (now_words : Nat → Int32) (tc_kinds : Nat → Int32) (tc_hourEars : Nat → Int32) (tc_close : Nat → Int32) (x_lastTrouble : Int32) (rhymes_links : Nat → Int32) (pairing_best : Nat → Int32) (v1 : Int32) (v2 : Int32) {z : Int32 × Int32 × (Nat → Int32) × (Nat → Int32)} (hp0 : P 0 = a 10) (hp2 : P 2 = a 10) (e_now_everybody : I 6 = now_everybody) (e_now_far : I 7 = now_far) (e_tc_ear : I 21 = tc_ear) (e_tc_wordCount : I 23 = tc_wordCount) (e_tc_personCount : I 24 = tc_personCount) (e_now_words : A 1 = now_words) (e_tc_kinds : A 14 = tc_kinds) (e_tc_hourEars : A 18 = tc_hourEars) (e_tc_close : A 22 = tc_close) (e_x_lastTrouble : I 3 = x_lastTrouble) (e_rhymes_links : A 3 = rhymes_links) (e_pairing_best : A 5 = pairing_best) (hf : f_X10_pairs now_everybody now_far tc_ear tc_wordCount tc_personCount now_words tc_kinds tc_hourEars tc_close x_lastTrouble rhymes_links pairing_best v1 v2 = some z) : rf_MI l yX10_pairs cX10_pairs 3 (some .int) ({ frames := 5, cells := 0, slots := 0, locals := 123 }) E [.ref (a 0), .int v1, .int v2] (cX E a P I J A B) z.1 (cX E a P (rf_upL I [(3, z.2.1)]) J (rf_upL A [(3, z.2.2.1), (5, z.2.2.2)]) B) := by
  unfold f_X10_pairs at hf
  refine rf_ofI (by decide) (Nat.le_of_ble_eq_true rfl) ?_
  intro p e s m below meth c A0 ls hC hD hP hS hl
  have hC : rf_C p E s m _ meth c cX10_pairs 3 RX10 (some .int) A0 := hC
  have hx := hC.1
  have hb := hC.2.1
  have hl : lv_has ls 3 [(0, .ref (a 0)), (1, .int v1), (2, .int v2)] := hl
  have hP : va_P (rf_D E) vwCl (cX E a P (rf_upL I [(3, x_lastTrouble)]) J (rf_upL A [(3, rhymes_links), (5, pairing_best)]) B) s.heap := by
    rw [rf_self (f := I) [(3, x_lastTrouble)] (rf_fa1 e_x_lastTrouble rf_fa0)]
    rw [rf_self (f := A) [(3, rhymes_links), (5, pairing_best)] (rf_fa1 e_rhymes_links (rf_fa1 e_pairing_best rf_fa0))]
    exact hP
  refine lv_aload_n hx hb dX10_pairs_0 rfl (lv_at hl 0 rfl) ?_
  refine lv_aload_n hx hb dX10_pairs_1 rfl (lv_at hl 0 rfl) ?_
  refine lv_iload_n hx hb dX10_pairs_2 rfl (lv_at hl 1 rfl) ?_
  obtain ⟨z3, hz3, hf⟩ := rf_bd hf
  refine rf_vi (q0 := 0) (ci := 10) hC (c_X10_isBank l E a P (rf_upL I [(3, x_lastTrouble)]) J (rf_upL A [(3, rhymes_links), (5, pairing_best)]) B tc_personCount v1 hp0 e_tc_personCount hz3) kV_X10_isBank tw_901 ⟨Nat.le_of_ble_eq_true rfl, Nat.le_of_ble_eq_true rfl⟩ rfl rfl rfl rfl rfl hP (rf_DX hD) hS rfl hl.1 (rest := [.ref (a 0)]) rfl (Nat.le_of_ble_eq_true rfl) dX10_pairs_3 (fun H locs hP hS => ?_)
  refine lv_aload_n hx hb dX10_pairs_6 rfl (lv_at hl 0 rfl) ?_
  refine lv_iload_n hx hb dX10_pairs_7 rfl (lv_at hl 2 rfl) ?_
  obtain ⟨z8, hz8, hf⟩ := rf_bd hf
  refine rf_vi (q0 := 0) (ci := 10) hC (c_X10_isHour l E a P (rf_upL I [(3, x_lastTrouble)]) J (rf_upL A [(3, rhymes_links), (5, pairing_best)]) B v2 hz8) kV_X10_isHour tw_766 ⟨Nat.le_of_ble_eq_true rfl, Nat.le_of_ble_eq_true rfl⟩ rfl rfl rfl rfl rfl hP (rf_DX hD) hS rfl hl.1 (rest := [.int z3, .ref (a 0)]) rfl (Nat.le_of_ble_eq_true rfl) dX10_pairs_8 (fun H locs hP hS => ?_)
  obtain ⟨z11, hz11, hf⟩ := rf_bd hf
  refine rf_vi (q0 := 0) (ci := 10) hC (c_X10_refused l E a P (rf_upL I [(3, x_lastTrouble)]) J (rf_upL A [(3, rhymes_links), (5, pairing_best)]) B x_lastTrouble z3 z8 rfl hz11) kV_X10_refused tw_455 ⟨Nat.le_of_ble_eq_true rfl, Nat.le_of_ble_eq_true rfl⟩ rfl rfl rfl rfl rfl hP (rf_DX hD) hS rfl hl.1 (rest := []) rfl (Nat.le_of_ble_eq_true rfl) dX10_pairs_11 (fun H locs hP hS => ?_)
  rw [rf_cat (f := I) (l := [(3, x_lastTrouble)]) (lc := [(3, z11.2)]) (l' := [(3, z11.2)]) rfl] at hP
  refine lv_if_eq (tgt := 19) hx hb dX10_pairs_14 (by decide) (fun c_14 => ?_) (fun c_14 => ?_)
  · have hf := rf_it c_14 hf
    refine lv_aload_n hx hb dX10_pairs_19 rfl (lv_at hl 0 rfl) ?_
    refine gX_x_rhymes hC hP tw_393 dX10_pairs_20 ?_
    refine lv_aload_n hx hb dX10_pairs_23 rfl (lv_at hl 0 rfl) ?_
    refine gX_x_tale hC hP tw_401 (v := a 10) hp0 dX10_pairs_24 ?_
    refine lv_iload_n hx hb dX10_pairs_27 rfl (lv_at hl 2 rfl) ?_
    obtain ⟨z28, hz28, hf⟩ := rf_bd hf
    refine rf_vi (q0 := 10) (ci := 9) hC (c_X9_earAt_tc l E a P (rf_upL I [(3, z11.2)]) J (rf_upL A [(3, rhymes_links), (5, pairing_best)]) B tc_ear tc_hourEars v2 e_tc_ear e_tc_hourEars hz28) kV_X9_earAt tw_770 ⟨Nat.le_of_ble_eq_true rfl, Nat.le_of_ble_eq_true rfl⟩ rfl rfl rfl rfl rfl hP (rf_DX hD) hS rfl hl.1 (rest := [.ref (a 2)]) rfl (Nat.le_of_ble_eq_true rfl) dX10_pairs_28 (fun H locs hP hS => ?_)
    obtain ⟨z31, hz31, hf⟩ := rf_bd hf
    refine rf_vv (q0 := 2) (ci := 6) hC (c_X6_link l E a P (rf_upL I [(3, z11.2)]) J (rf_upL A [(3, rhymes_links), (5, pairing_best)]) B tc_wordCount tc_personCount now_words tc_kinds tc_close rhymes_links z28 hp2 e_tc_wordCount e_tc_personCount e_now_words e_tc_kinds e_tc_close rfl hz31) kV_X6_link tw_831 ⟨Nat.le_of_ble_eq_true rfl, Nat.le_of_ble_eq_true rfl⟩ rfl rfl rfl rfl rfl hP (rf_DX hD) hS rfl hl.1 (rest := []) rfl (Nat.le_of_ble_eq_true rfl) dX10_pairs_31 (fun H locs hP hS => ?_)
    rw [rf_cat (f := A) (l := [(3, rhymes_links), (5, pairing_best)]) (lc := [(3, z31)]) (l' := [(3, z31), (5, pairing_best)]) rfl] at hP
    refine lv_aload_n hx hb dX10_pairs_34 rfl (lv_at hl 0 rfl) ?_
    refine gX_x_pairing hC hP tw_394 dX10_pairs_35 ?_
    refine lv_aload_n hx hb dX10_pairs_38 rfl (lv_at hl 0 rfl) ?_
    refine gX_x_rhymes hC hP tw_393 dX10_pairs_39 ?_
    refine gX_rhymes_links hC hP tw_192 dX10_pairs_42 ?_
    refine lv_aload_n hx hb dX10_pairs_45 rfl (lv_at hl 0 rfl) ?_
    refine gX_x_now hC hP tw_392 dX10_pairs_46 ?_
    refine lv_iload_n hx hb dX10_pairs_49 rfl (lv_at hl 1 rfl) ?_
    obtain ⟨z50, hz50, hf⟩ := rf_bd hf
    refine rf_vi (q0 := 1) (ci := 2) hC (c_X2_onBank l E a P (rf_upL I [(3, z11.2)]) J (rf_upL A [(3, z31), (5, pairing_best)]) B now_everybody now_far v1 e_now_everybody e_now_far hz50) kV_X2_onBank tw_905 ⟨Nat.le_of_ble_eq_true rfl, Nat.le_of_ble_eq_true rfl⟩ rfl rfl rfl rfl rfl hP (rf_DX hD) hS rfl hl.1 (rest := [.ref (a 16), .ref (a 3)]) rfl (Nat.le_of_ble_eq_true rfl) dX10_pairs_50 (fun H locs hP hS => ?_)
    obtain ⟨z53, hz53, hf⟩ := rf_bd hf
    refine rf_vi (q0 := 3) (ci := 3) hC (c_X3_most l E a P (rf_upL I [(3, z11.2)]) J (rf_upL A [(3, z31), (5, pairing_best)]) B z31 pairing_best z50 rfl rfl hz53) kV_X3_most tw_906 ⟨Nat.le_of_ble_eq_true rfl, Nat.le_of_ble_eq_true rfl⟩ rfl rfl rfl rfl rfl hP (rf_DX hD) hS rfl hl.1 (rest := []) rfl (Nat.le_of_ble_eq_true rfl) dX10_pairs_53 (fun H locs hP hS => ?_)
    rw [rf_cat (f := A) (l := [(3, z31), (5, pairing_best)]) (lc := [(5, z53.2)]) (l' := [(3, z31), (5, z53.2)]) rfl] at hP
    obtain rfl := Option.some.inj hf
    exact rf_reti hC hP hS rfl rfl dX10_pairs_56
  have hf := rf_ie c_14 hf
  refine lv_iconst (v := (-1)) hx hb dX10_pairs_17 (by decide) ?_
  obtain rfl := Option.some.inj hf
  exact rf_reti hC hP hS rfl rfl dX10_pairs_18
set_option maxHeartbeats 4000000 in
set_option maxRecDepth 100000 in
theorem w_X3_firstPartner_63 {l : Launch} {p : Program} {e : Env} {s : State} {m : MethodId} {args : Array Value} {below : List Frame} {meth : Method} {c : Code} {A0 : Nat → Prop} {E : rf_E} {a P : Nat → Nat} {I : Nat → Int32} {J : Nat → Int64} {A : Nat → Nat → Int32} {B : Nat → Nat → Int64} {rhymes_links : Nat → Int32} {pairing_best : Nat → Int32} {z : Int32} (hC : rf_C p E s m args meth c cX3_firstPartner 6 RX3 (some .int) A0) (hD : va_D A0 (cX E a P I J A B)) (e_rhymes_links : A 3 = rhymes_links) (e_pairing_best : A 5 = pairing_best) {k14 : Int32 → Int32 → Int32 → Int32 → Option (Int32)} (hk14 : ∀ (v2 : Int32) (v3 : Int32) (v4 : Int32) (v5 : Int32), k14 v2 v3 v4 v5 = some z → ∀ (H : Heap) (locs : List Loc) (ls : Array Slot), va_P (rf_D E) vwCl (cX E a P I J A B) H → va_S A0 s.heap H locs → lv_has ls 6 [(0, .ref (a 3)), (1, .ref (a 16)), (2, .int v2), (3, .int v3), (4, .int v4), (5, .int v5)] → W p l e ({ frames := 1, cells := 0, slots := 0, locals := 21 }) s m args below meth c H locs 0 0 (rf_QI below args s E A0 z (cX E a P I J A B)) (F0 m 14 ls [])) :
    ∀ (v2 : Int32) (v3 : Int32) (v4 : Int32) (v5 : Int32), f_X3_firstPartner_63 k14 rhymes_links pairing_best v2 v3 v4 v5 = some z → ∀ (H : Heap) (locs : List Loc) (ls : Array Slot), va_P (rf_D E) vwCl (cX E a P I J A B) H → va_S A0 s.heap H locs → lv_has ls 6 [(0, .ref (a 3)), (1, .ref (a 16)), (2, .int v2), (3, .int v3), (4, .int v4), (5, .int v5)] → W p l e ({ frames := 1, cells := 0, slots := 0, locals := 21 }) s m args below meth c H locs 0 0 (rf_QI below args s E A0 z (cX E a P I J A B)) (F0 m 63 ls []) := by
  have hx := hC.1
  have hb := hC.2.1
  intro v2 v3 v4 v5 hf H locs ls hP hS hl
  unfold f_X3_firstPartner_63 at hf
  refine lv_iinc (v := v5 + 1) (lv' := [(5, .int (v5 + 1)), (0, .ref (a 3)), (1, .ref (a 16)), (2, .int v2), (3, .int v3), (4, .int v4)]) hx hb dX3_firstPartner_63 hl (k := 5) rfl rfl (by decide) rfl (fun ls hl => ?_)
  refine lv_goto (tgt := 14) hx hb dX3_firstPartner_66 (by decide) ?_
  exact hk14 v2 v3 v4 (v5 + 1) hf _ _ _ hP hS (lv_sub hl [1, 2, 3, 4, 5, 0] rfl)
set_option maxHeartbeats 4000000 in
set_option maxRecDepth 100000 in
theorem w_X3_firstPartner_14 {l : Launch} {p : Program} {e : Env} {s : State} {m : MethodId} {args : Array Value} {below : List Frame} {meth : Method} {c : Code} {A0 : Nat → Prop} {E : rf_E} {a P : Nat → Nat} {I : Nat → Int32} {J : Nat → Int64} {A : Nat → Nat → Int32} {B : Nat → Nat → Int64} {rhymes_links : Nat → Int32} {pairing_best : Nat → Int32} {z : Int32} (hC : rf_C p E s m args meth c cX3_firstPartner 6 RX3 (some .int) A0) (hD : va_D A0 (cX E a P I J A B)) (e_rhymes_links : A 3 = rhymes_links) (e_pairing_best : A 5 = pairing_best) :
    ∀ (n : Nat), ∀ (v2 : Int32) (v3 : Int32) (v4 : Int32) (v5 : Int32), f_X3_firstPartner_14 rhymes_links pairing_best n v2 v3 v4 v5 = some z → ∀ (H : Heap) (locs : List Loc) (ls : Array Slot), va_P (rf_D E) vwCl (cX E a P I J A B) H → va_S A0 s.heap H locs → lv_has ls 6 [(0, .ref (a 3)), (1, .ref (a 16)), (2, .int v2), (3, .int v3), (4, .int v4), (5, .int v5)] → W p l e ({ frames := 1, cells := 0, slots := 0, locals := 21 }) s m args below meth c H locs 0 0 (rf_QI below args s E A0 z (cX E a P I J A B)) (F0 m 14 ls []) := by
  have hx := hC.1
  have hb := hC.2.1
  intro n
  induction n with
  | zero =>
    intro v2 v3 v4 v5 hf
    have hf : (none : Option (Int32)) = some z := hf
    cases hf
  | succ n ih =>
    intro v2 v3 v4 v5 hf H locs ls hP hS hl
    rw [f_X3_firstPartner_14] at hf
    refine lv_iload hx hb dX3_firstPartner_14 (lv_at hl 5 rfl) ?_
    refine lv_bipush (v := 8) hx hb dX3_firstPartner_16 (by decide) ?_
    refine lv_icmp_ge (tgt := 69) hx hb dX3_firstPartner_18 (by decide) (fun c_18 => ?_) (fun c_18 => ?_)
    · have hf := rf_it c_18 hf
      refine lv_bipush (v := (-2)) hx hb dX3_firstPartner_69 (by decide) ?_
      obtain rfl := Option.some.inj hf
      exact rf_reti hC hP hS rfl rfl dX3_firstPartner_71
    have hf := rf_ie c_18 hf
    refine lv_iload hx hb dX3_firstPartner_21 (lv_at hl 4 rfl) ?_
    refine lv_aload_n hx hb dX3_firstPartner_23 rfl (lv_at hl 1 rfl) ?_
    refine lv_iload_n hx hb dX3_firstPartner_24 rfl (lv_at hl 2 rfl) ?_
    obtain ⟨hi_25, hf⟩ := rf_gu hf
    refine lX_rhymes_links hC hP hi_25 (f := rhymes_links) e_rhymes_links dX3_firstPartner_25 ?_
    refine lv_iand hx hb dX3_firstPartner_26 ?_
    refine lv_iload hx hb dX3_firstPartner_27 (lv_at hl 5 rfl) ?_
    obtain ⟨z29, hz29, hf⟩ := rf_bd hf
    refine rf_sn0 hC (c_X10_holds l E (v4 &&& (rhymes_links (Int32.toNatClampNeg v2))) v5 hz29) kS_X10_holds nw_917 ⟨Nat.le_of_ble_eq_true rfl, Nat.le_of_ble_eq_true rfl⟩ rfl rfl hP hS rfl hl.1 (rest := []) rfl (Nat.le_of_ble_eq_true rfl) dX3_firstPartner_29 (fun H locs hP hS => ?_)
    refine lv_if_eq (tgt := 63) hx hb dX3_firstPartner_32 (by decide) (fun c_32 => ?_) (fun c_32 => ?_)
    · have hf := rf_it c_32 hf
      exact w_X3_firstPartner_63 hC hD e_rhymes_links e_pairing_best ih v2 v3 v4 v5 hf _ _ _ hP hS (lv_sub hl [0, 1, 2, 3, 4, 5] rfl)
    have hf := rf_ie c_32 hf
    refine lv_iconst (v := 1) hx hb dX3_firstPartner_35 (by decide) ?_
    refine lv_aload_n hx hb dX3_firstPartner_36 rfl (lv_at hl 0 rfl) ?_
    refine gX_pairing_best hC hP tw_215 dX3_firstPartner_37 ?_
    refine lv_iload hx hb dX3_firstPartner_40 (lv_at hl 4 rfl) ?_
    refine lv_iconst (v := 1) hx hb dX3_firstPartner_42 (by decide) ?_
    refine lv_iload hx hb dX3_firstPartner_43 (lv_at hl 5 rfl) ?_
    refine lv_ishl hx hb dX3_firstPartner_45 ?_
    refine lv_iconst (v := (-1)) hx hb dX3_firstPartner_46 (by decide) ?_
    refine lv_ixor hx hb dX3_firstPartner_47 ?_
    refine lv_iand hx hb dX3_firstPartner_48 ?_
    obtain ⟨hi_49, hf⟩ := rf_gu hf
    refine lX_pairing_best hC hP hi_49 (f := pairing_best) e_pairing_best dX3_firstPartner_49 ?_
    refine lv_iadd hx hb dX3_firstPartner_50 ?_
    refine lv_aload_n hx hb dX3_firstPartner_51 rfl (lv_at hl 0 rfl) ?_
    refine gX_pairing_best hC hP tw_215 dX3_firstPartner_52 ?_
    refine lv_iload_n hx hb dX3_firstPartner_55 rfl (lv_at hl 3 rfl) ?_
    obtain ⟨hi_56, hf⟩ := rf_gu hf
    refine lX_pairing_best hC hP hi_56 (f := pairing_best) e_pairing_best dX3_firstPartner_56 ?_
    refine lv_icmp_ne (tgt := 63) hx hb dX3_firstPartner_57 (by decide) (fun c_57 => ?_) (fun c_57 => ?_)
    · have hf := rf_ie c_57 hf
      exact w_X3_firstPartner_63 hC hD e_rhymes_links e_pairing_best ih v2 v3 v4 v5 hf _ _ _ hP hS (lv_sub hl [0, 1, 2, 3, 4, 5] rfl)
    have hf := rf_it c_57 hf
    refine lv_iload hx hb dX3_firstPartner_60 (lv_at hl 5 rfl) ?_
    obtain rfl := Option.some.inj hf
    exact rf_reti hC hP hS rfl rfl dX3_firstPartner_62
set_option maxHeartbeats 4000000 in
set_option maxRecDepth 100000 in
theorem c_X3_firstPartner (l : Launch) (E : rf_E) (a P : Nat → Nat) (I : Nat → Int32) (J : Nat → Int64) (A : Nat → Nat → Int32) (B : Nat → Nat → Int64) (rhymes_links : Nat → Int32) (pairing_best : Nat → Int32) (v2 : Int32) (v3 : Int32) {z : Int32} (e_rhymes_links : A 3 = rhymes_links) (e_pairing_best : A 5 = pairing_best) (hf : f_X3_firstPartner rhymes_links pairing_best v2 v3 = some z) : rf_MI l yX3_firstPartner cX3_firstPartner 6 (some .int) ({ frames := 1, cells := 0, slots := 0, locals := 21 }) E [.ref (a 3), .ref (a 16), .int v2, .int v3] (cX E a P I J A B) z (cX E a P I J A B) := by
  unfold f_X3_firstPartner at hf
  refine rf_ofI (by decide) (Nat.le_of_ble_eq_true rfl) ?_
  intro p e s m below meth c A0 ls hC hD hP hS hl
  have hC : rf_C p E s m _ meth c cX3_firstPartner 6 RX3 (some .int) A0 := hC
  have hx := hC.1
  have hb := hC.2.1
  have hl : lv_has ls 6 [(0, .ref (a 3)), (1, .ref (a 16)), (2, .int v2), (3, .int v3)] := hl
  refine lv_iload_n hx hb dX3_firstPartner_0 rfl (lv_at hl 3 rfl) ?_
  refine lv_iconst (v := 1) hx hb dX3_firstPartner_1 (by decide) ?_
  refine lv_iload_n hx hb dX3_firstPartner_2 rfl (lv_at hl 2 rfl) ?_
  refine lv_ishl hx hb dX3_firstPartner_3 ?_
  refine lv_iconst (v := (-1)) hx hb dX3_firstPartner_4 (by decide) ?_
  refine lv_ixor hx hb dX3_firstPartner_5 ?_
  refine lv_iand hx hb dX3_firstPartner_6 ?_
  refine lv_istore (lv' := [(4, .int (v3 &&& (((1 : Int32) <<< (v2 &&& 31)) ^^^ (-1)))), (0, .ref (a 3)), (1, .ref (a 16)), (2, .int v2), (3, .int v3)]) hx hb dX3_firstPartner_7 hl (by decide) rfl (fun ls hl => ?_)
  refine lv_iload_n hx hb dX3_firstPartner_9 rfl (lv_at hl 3 rfl) ?_
  refine lv_iconst (v := 1) hx hb dX3_firstPartner_10 (by decide) ?_
  refine lv_iadd hx hb dX3_firstPartner_11 ?_
  refine lv_istore (lv' := [(5, .int (v2 + 1)), (4, .int (v3 &&& (((1 : Int32) <<< (v2 &&& 31)) ^^^ (-1)))), (0, .ref (a 3)), (1, .ref (a 16)), (2, .int v2), (3, .int v3)]) hx hb dX3_firstPartner_12 hl (by decide) rfl (fun ls hl => ?_)
  exact w_X3_firstPartner_14 hC hD e_rhymes_links e_pairing_best rf_fu v2 v3 (v3 &&& (((1 : Int32) <<< (v2 &&& 31)) ^^^ (-1))) (v2 + 1) hf _ _ _ hP hS (lv_sub hl [2, 3, 4, 5, 1, 0] rfl)
set_option maxHeartbeats 4000000 in
set_option maxRecDepth 100000 in
theorem w_X3_pairFirst_94 {l : Launch} {p : Program} {e : Env} {s : State} {m : MethodId} {args : Array Value} {below : List Frame} {meth : Method} {c : Code} {A0 : Nat → Prop} {E : rf_E} {a P : Nat → Nat} {I : Nat → Int32} {J : Nat → Int64} {A : Nat → Nat → Int32} {B : Nat → Nat → Int64} {rhymes_links : Nat → Int32} {z : (Nat → Int32) × (Nat → Int32)} (hC : rf_C p E s m args meth c cX3_pairFirst 6 RX3 (none) A0) (hD : va_D A0 (cX E a P I J A B)) (e_rhymes_links : A 3 = rhymes_links) {k25 : Int32 → Int32 → (Nat → Int32) → (Nat → Int32) → Option ((Nat → Int32) × (Nat → Int32))} (hk25 : ∀ (v3 : Int32) (v4 : Int32) (pairing_partners : Nat → Int32) (pairing_best : Nat → Int32), k25 v3 v4 pairing_partners pairing_best = some z → ∀ (H : Heap) (locs : List Loc) (ls : Array Slot), va_P (rf_D E) vwCl (cX E a P I J (rf_upL A [(4, pairing_partners), (5, pairing_best)]) B) H → va_S A0 s.heap H locs → lv_has ls 6 [(0, .ref (a 3)), (1, .ref (a 16)), (3, .int v3), (4, .int v4)] → W p l e ({ frames := 6, cells := 0, slots := 0, locals := 200 }) s m args below meth c H locs 0 0 (rf_QV below args s E A0 (cX E a P I J (rf_upL A [(4, z.1), (5, z.2)]) B)) (F0 m 25 ls [])) :
    ∀ (v3 : Int32) (v4 : Int32) (pairing_partners : Nat → Int32) (pairing_best : Nat → Int32), f_X3_pairFirst_94 k25 rhymes_links v3 v4 pairing_partners pairing_best = some z → ∀ (H : Heap) (locs : List Loc) (ls : Array Slot), va_P (rf_D E) vwCl (cX E a P I J (rf_upL A [(4, pairing_partners), (5, pairing_best)]) B) H → va_S A0 s.heap H locs → lv_has ls 6 [(0, .ref (a 3)), (1, .ref (a 16)), (3, .int v3), (4, .int v4)] → W p l e ({ frames := 6, cells := 0, slots := 0, locals := 200 }) s m args below meth c H locs 0 0 (rf_QV below args s E A0 (cX E a P I J (rf_upL A [(4, z.1), (5, z.2)]) B)) (F0 m 94 ls []) := by
  have hx := hC.1
  have hb := hC.2.1
  intro v3 v4 pairing_partners pairing_best hf H locs ls hP hS hl
  unfold f_X3_pairFirst_94 at hf
  refine lv_iinc (v := v4 + 1) (lv' := [(4, .int (v4 + 1)), (0, .ref (a 3)), (1, .ref (a 16)), (3, .int v3)]) hx hb dX3_pairFirst_94 hl (k := 3) rfl rfl (by decide) rfl (fun ls hl => ?_)
  refine lv_goto (tgt := 25) hx hb dX3_pairFirst_97 (by decide) ?_
  exact hk25 v3 (v4 + 1) pairing_partners pairing_best hf _ _ _ hP hS (lv_sub hl [1, 2, 3, 0] rfl)
set_option maxHeartbeats 4000000 in
set_option maxRecDepth 100000 in
theorem w_X3_pairFirst_25 {l : Launch} {p : Program} {e : Env} {s : State} {m : MethodId} {args : Array Value} {below : List Frame} {meth : Method} {c : Code} {A0 : Nat → Prop} {E : rf_E} {a P : Nat → Nat} {I : Nat → Int32} {J : Nat → Int64} {A : Nat → Nat → Int32} {B : Nat → Nat → Int64} {rhymes_links : Nat → Int32} {z : (Nat → Int32) × (Nat → Int32)} (hC : rf_C p E s m args meth c cX3_pairFirst 6 RX3 (none) A0) (hD : va_D A0 (cX E a P I J A B)) (e_rhymes_links : A 3 = rhymes_links) :
    ∀ (n : Nat), ∀ (v3 : Int32) (v4 : Int32) (pairing_partners : Nat → Int32) (pairing_best : Nat → Int32), f_X3_pairFirst_25 rhymes_links n v3 v4 pairing_partners pairing_best = some z → ∀ (H : Heap) (locs : List Loc) (ls : Array Slot), va_P (rf_D E) vwCl (cX E a P I J (rf_upL A [(4, pairing_partners), (5, pairing_best)]) B) H → va_S A0 s.heap H locs → lv_has ls 6 [(0, .ref (a 3)), (1, .ref (a 16)), (3, .int v3), (4, .int v4)] → W p l e ({ frames := 6, cells := 0, slots := 0, locals := 200 }) s m args below meth c H locs 0 0 (rf_QV below args s E A0 (cX E a P I J (rf_upL A [(4, z.1), (5, z.2)]) B)) (F0 m 25 ls []) := by
  have hx := hC.1
  have hb := hC.2.1
  intro n
  induction n with
  | zero =>
    intro v3 v4 pairing_partners pairing_best hf
    have hf : (none : Option ((Nat → Int32) × (Nat → Int32))) = some z := hf
    cases hf
  | succ n ih =>
    intro v3 v4 pairing_partners pairing_best hf H locs ls hP hS hl
    rw [f_X3_pairFirst_25] at hf
    refine lv_iload hx hb dX3_pairFirst_25 (lv_at hl 3 rfl) ?_
    refine lv_bipush (v := 8) hx hb dX3_pairFirst_27 (by decide) ?_
    refine lv_icmp_ge (tgt := 100) hx hb dX3_pairFirst_29 (by decide) (fun c_29 => ?_) (fun c_29 => ?_)
    · have hf := rf_it c_29 hf
      obtain rfl := Option.some.inj hf
      exact rf_retv hC hP hS rfl dX3_pairFirst_100
    have hf := rf_ie c_29 hf
    refine lv_iload_n hx hb dX3_pairFirst_32 rfl (lv_at hl 2 rfl) ?_
    refine lv_iload hx hb dX3_pairFirst_33 (lv_at hl 3 rfl) ?_
    obtain ⟨z35, hz35, hf⟩ := rf_bd hf
    refine rf_sn0 hC (c_X10_holds l E v3 v4 hz35) kS_X10_holds nw_917 ⟨Nat.le_of_ble_eq_true rfl, Nat.le_of_ble_eq_true rfl⟩ rfl rfl hP hS rfl hl.1 (rest := []) rfl (Nat.le_of_ble_eq_true rfl) dX3_pairFirst_35 (fun H locs hP hS => ?_)
    refine lv_if_eq (tgt := 94) hx hb dX3_pairFirst_38 (by decide) (fun c_38 => ?_) (fun c_38 => ?_)
    · have hf := rf_it c_38 hf
      exact w_X3_pairFirst_94 hC hD e_rhymes_links ih v3 v4 pairing_partners pairing_best hf _ _ _ hP hS (lv_sub hl [0, 1, 2, 3] rfl)
    have hf := rf_ie c_38 hf
    refine lv_aload_n hx hb dX3_pairFirst_41 rfl (lv_at hl 0 rfl) ?_
    refine lv_aload_n hx hb dX3_pairFirst_42 rfl (lv_at hl 1 rfl) ?_
    refine lv_iload hx hb dX3_pairFirst_43 (lv_at hl 3 rfl) ?_
    refine lv_iload_n hx hb dX3_pairFirst_45 rfl (lv_at hl 2 rfl) ?_
    obtain ⟨z46, hz46, hf⟩ := rf_bd hf
    refine rf_vi (q0 := 3) (ci := 3) hC (c_X3_firstPartner l E a P I J (rf_upL A [(4, pairing_partners), (5, pairing_best)]) B rhymes_links pairing_best v4 v3 e_rhymes_links rfl hz46) kV_X3_firstPartner tw_929 ⟨Nat.le_of_ble_eq_true rfl, Nat.le_of_ble_eq_true rfl⟩ rfl rfl rfl rfl rfl hP (rf_DX hD) hS rfl hl.1 (rest := []) rfl (Nat.le_of_ble_eq_true rfl) dX3_pairFirst_46 (fun H locs hP hS => ?_)
    refine lv_istore (lv' := [(5, .int z46), (0, .ref (a 3)), (1, .ref (a 16)), (3, .int v3), (4, .int v4)]) hx hb dX3_pairFirst_49 hl (by decide) rfl (fun ls hl => ?_)
    refine lv_iload_n hx hb dX3_pairFirst_51 rfl (lv_at hl 3 rfl) ?_
    refine lv_iconst (v := 1) hx hb dX3_pairFirst_52 (by decide) ?_
    refine lv_iload hx hb dX3_pairFirst_53 (lv_at hl 4 rfl) ?_
    refine lv_ishl hx hb dX3_pairFirst_55 ?_
    refine lv_iconst (v := (-1)) hx hb dX3_pairFirst_56 (by decide) ?_
    refine lv_ixor hx hb dX3_pairFirst_57 ?_
    refine lv_iand hx hb dX3_pairFirst_58 ?_
    refine lv_istore_n (lv' := [(3, .int (v3 &&& (((1 : Int32) <<< (v4 &&& 31)) ^^^ (-1)))), (5, .int z46), (0, .ref (a 3)), (1, .ref (a 16)), (4, .int v4)]) hx hb dX3_pairFirst_59 rfl hl (by decide) rfl (fun ls hl => ?_)
    refine lv_iload hx hb dX3_pairFirst_60 (lv_at hl 1 rfl) ?_
    refine lv_bipush (v := (-2)) hx hb dX3_pairFirst_62 (by decide) ?_
    refine lv_icmp_eq (tgt := 94) hx hb dX3_pairFirst_64 (by decide) (fun c_64 => ?_) (fun c_64 => ?_)
    · have hf := rf_it c_64 hf
      exact w_X3_pairFirst_94 hC hD e_rhymes_links ih (v3 &&& (((1 : Int32) <<< (v4 &&& 31)) ^^^ (-1))) v4 pairing_partners pairing_best hf _ _ _ hP hS (lv_sub hl [2, 3, 0, 4] rfl)
    have hf := rf_ie c_64 hf
    refine lv_iload_n hx hb dX3_pairFirst_67 rfl (lv_at hl 0 rfl) ?_
    refine lv_iconst (v := 1) hx hb dX3_pairFirst_68 (by decide) ?_
    refine lv_iload hx hb dX3_pairFirst_69 (lv_at hl 1 rfl) ?_
    refine lv_ishl hx hb dX3_pairFirst_71 ?_
    refine lv_iconst (v := (-1)) hx hb dX3_pairFirst_72 (by decide) ?_
    refine lv_ixor hx hb dX3_pairFirst_73 ?_
    refine lv_iand hx hb dX3_pairFirst_74 ?_
    refine lv_istore_n (lv' := [(3, .int ((v3 &&& (((1 : Int32) <<< (v4 &&& 31)) ^^^ (-1))) &&& (((1 : Int32) <<< (z46 &&& 31)) ^^^ (-1)))), (5, .int z46), (0, .ref (a 3)), (1, .ref (a 16)), (4, .int v4)]) hx hb dX3_pairFirst_75 rfl hl (by decide) rfl (fun ls hl => ?_)
    refine lv_aload_n hx hb dX3_pairFirst_76 rfl (lv_at hl 2 rfl) ?_
    refine gX_pairing_partners hC hP tw_212 dX3_pairFirst_77 ?_
    refine lv_iload hx hb dX3_pairFirst_80 (lv_at hl 4 rfl) ?_
    refine lv_iload hx hb dX3_pairFirst_82 (lv_at hl 1 rfl) ?_
    obtain ⟨hi_84, hf⟩ := rf_gu hf
    refine sX_pairing_partners hC hD hP hS hi_84 (f := pairing_partners) rfl dX3_pairFirst_84 (rf_upL A [(4, upd pairing_partners (Int32.toNatClampNeg v4) z46), (5, pairing_best)]) (rf_put rfl) (fun H locs hP hS => ?_)
    refine lv_aload_n hx hb dX3_pairFirst_85 rfl (lv_at hl 2 rfl) ?_
    refine gX_pairing_partners hC hP tw_212 dX3_pairFirst_86 ?_
    refine lv_iload hx hb dX3_pairFirst_89 (lv_at hl 1 rfl) ?_
    refine lv_iload hx hb dX3_pairFirst_91 (lv_at hl 4 rfl) ?_
    obtain ⟨hi_93, hf⟩ := rf_gu hf
    refine sX_pairing_partners hC hD hP hS hi_93 (f := upd pairing_partners (Int32.toNatClampNeg v4) z46) rfl dX3_pairFirst_93 (rf_upL A [(4, upd (upd pairing_partners (Int32.toNatClampNeg v4) z46) (Int32.toNatClampNeg z46) v4), (5, pairing_best)]) (rf_put rfl) (fun H locs hP hS => ?_)
    exact w_X3_pairFirst_94 hC hD e_rhymes_links ih ((v3 &&& (((1 : Int32) <<< (v4 &&& 31)) ^^^ (-1))) &&& (((1 : Int32) <<< (z46 &&& 31)) ^^^ (-1))) v4 (upd (upd pairing_partners (Int32.toNatClampNeg v4) z46) (Int32.toNatClampNeg z46) v4) pairing_best hf _ _ _ hP hS (lv_sub hl [2, 3, 0, 4] rfl)
set_option maxHeartbeats 4000000 in
set_option maxRecDepth 100000 in
theorem c_X3_pairFirst (l : Launch) (E : rf_E) (a P : Nat → Nat) (I : Nat → Int32) (J : Nat → Int64) (A : Nat → Nat → Int32) (B : Nat → Nat → Int64) (rhymes_links : Nat → Int32) (pairing_partners : Nat → Int32) (pairing_best : Nat → Int32) (v2 : Int32) {z : (Nat → Int32) × (Nat → Int32)} (e_rhymes_links : A 3 = rhymes_links) (e_pairing_partners : A 4 = pairing_partners) (e_pairing_best : A 5 = pairing_best) (hf : f_X3_pairFirst rhymes_links pairing_partners pairing_best v2 = some z) : rf_MV l yX3_pairFirst cX3_pairFirst 6 ({ frames := 6, cells := 0, slots := 0, locals := 200 }) E [.ref (a 3), .ref (a 16), .int v2] (cX E a P I J A B) (cX E a P I J (rf_upL A [(4, z.1), (5, z.2)]) B) := by
  unfold f_X3_pairFirst at hf
  refine rf_ofV (by decide) (Nat.le_of_ble_eq_true rfl) ?_
  intro p e s m below meth c A0 ls hC hD hP hS hl
  have hC : rf_C p E s m _ meth c cX3_pairFirst 6 RX3 (none) A0 := hC
  have hx := hC.1
  have hb := hC.2.1
  have hl : lv_has ls 6 [(0, .ref (a 3)), (1, .ref (a 16)), (2, .int v2)] := hl
  have hP : va_P (rf_D E) vwCl (cX E a P I J (rf_upL A [(4, pairing_partners), (5, pairing_best)]) B) s.heap := by
    rw [rf_self (f := A) [(4, pairing_partners), (5, pairing_best)] (rf_fa1 e_pairing_partners (rf_fa1 e_pairing_best rf_fa0))]
    exact hP
  refine lv_aload_n hx hb dX3_pairFirst_0 rfl (lv_at hl 0 rfl) ?_
  refine lv_aload_n hx hb dX3_pairFirst_1 rfl (lv_at hl 1 rfl) ?_
  refine lv_iload_n hx hb dX3_pairFirst_2 rfl (lv_at hl 2 rfl) ?_
  obtain ⟨z3, hz3, hf⟩ := rf_bd hf
  refine rf_vi (q0 := 3) (ci := 3) hC (c_X3_most l E a P I J (rf_upL A [(4, pairing_partners), (5, pairing_best)]) B rhymes_links pairing_best v2 e_rhymes_links rfl hz3) kV_X3_most tw_927 ⟨Nat.le_of_ble_eq_true rfl, Nat.le_of_ble_eq_true rfl⟩ rfl rfl rfl rfl rfl hP (rf_DX hD) hS rfl hl.1 (rest := []) rfl (Nat.le_of_ble_eq_true rfl) dX3_pairFirst_3 (fun H locs hP hS => ?_)
  rw [rf_cat (f := A) (l := [(4, pairing_partners), (5, pairing_best)]) (lc := [(5, z3.2)]) (l' := [(4, pairing_partners), (5, z3.2)]) rfl] at hP
  refine lv_pop hx hb dX3_pairFirst_6 rfl ?_
  refine lv_aload_n hx hb dX3_pairFirst_7 rfl (lv_at hl 0 rfl) ?_
  refine gX_pairing_partners hC hP tw_212 dX3_pairFirst_8 ?_
  refine lv_bipush (v := (-2)) hx hb dX3_pairFirst_11 (by decide) ?_
  refine fX_pairing_partners hC hD hP hS (f := pairing_partners) rfl tw_928  hl.1 (Nat.le_of_ble_eq_true rfl) ⟨Nat.le_of_ble_eq_true rfl, Nat.le_of_ble_eq_true rfl⟩ dX3_pairFirst_13 (rf_upL A [(4, rf_fill 8 (-2) pairing_partners), (5, z3.2)]) (rf_put rfl) (fun H locs hP hS => ?_)
  refine lv_iload_n hx hb dX3_pairFirst_16 rfl (lv_at hl 2 rfl) ?_
  refine lv_sipush (v := 255) hx hb dX3_pairFirst_17 (by decide) ?_
  refine lv_iand hx hb dX3_pairFirst_20 ?_
  refine lv_istore_n (lv' := [(3, .int (v2 &&& 255)), (0, .ref (a 3)), (1, .ref (a 16)), (2, .int v2)]) hx hb dX3_pairFirst_21 rfl hl (by decide) rfl (fun ls hl => ?_)
  refine lv_iconst (v := 0) hx hb dX3_pairFirst_22 (by decide) ?_
  refine lv_istore (lv' := [(4, .int 0), (3, .int (v2 &&& 255)), (0, .ref (a 3)), (1, .ref (a 16)), (2, .int v2)]) hx hb dX3_pairFirst_23 hl (by decide) rfl (fun ls hl => ?_)
  exact w_X3_pairFirst_25 hC hD e_rhymes_links rf_fu (v2 &&& 255) 0 (rf_fill 8 (-2) pairing_partners) z3.2 hf _ _ _ hP hS (lv_sub hl [2, 3, 1, 0] rfl)
set_option maxHeartbeats 4000000 in
set_option maxRecDepth 100000 in
theorem w_X10_partner_22 {l : Launch} {p : Program} {e : Env} {s : State} {m : MethodId} {args : Array Value} {below : List Frame} {meth : Method} {c : Code} {A0 : Nat → Prop} {E : rf_E} {a P : Nat → Nat} {I : Nat → Int32} {J : Nat → Int64} {A : Nat → Nat → Int32} {B : Nat → Nat → Int64} {now_everybody : Int32} {now_far : Int32} {tc_ear : Int32} {tc_wordCount : Int32} {tc_personCount : Int32} {now_words : Nat → Int32} {tc_kinds : Nat → Int32} {tc_hourEars : Nat → Int32} {tc_close : Nat → Int32} {z : Int32 × Int32 × (Nat → Int32) × (Nat → Int32) × (Nat → Int32)} (hC : rf_C p E s m args meth c cX10_partner 4 RX10 (some .int) A0) (hD : va_D A0 (cX E a P I J A B)) (hp0 : P 0 = a 10) (hp2 : P 2 = a 10) (e_now_everybody : I 6 = now_everybody) (e_now_far : I 7 = now_far) (e_tc_ear : I 21 = tc_ear) (e_tc_wordCount : I 23 = tc_wordCount) (e_tc_personCount : I 24 = tc_personCount) (e_now_words : A 1 = now_words) (e_tc_kinds : A 14 = tc_kinds) (e_tc_hourEars : A 18 = tc_hourEars) (e_tc_close : A 22 = tc_close) :
    ∀ (v1 : Int32) (v2 : Int32) (v3 : Int32) (s1 : Int32) (x_lastTrouble : Int32) (rhymes_links : Nat → Int32) (pairing_partners : Nat → Int32) (pairing_best : Nat → Int32), f_X10_partner_22 now_everybody now_far tc_ear tc_wordCount tc_personCount now_words tc_kinds tc_hourEars tc_close v1 v2 v3 s1 x_lastTrouble rhymes_links pairing_partners pairing_best = some z → ∀ (H : Heap) (locs : List Loc) (ls : Array Slot), va_P (rf_D E) vwCl (cX E a P (rf_upL I [(3, x_lastTrouble)]) J (rf_upL A [(3, rhymes_links), (4, pairing_partners), (5, pairing_best)]) B) H → va_S A0 s.heap H locs → lv_has ls 4 [(0, .ref (a 0)), (1, .int v1), (2, .int v2), (3, .int v3)] → W p l e ({ frames := 7, cells := 0, slots := 0, locals := 225 }) s m args below meth c H locs 0 0 (rf_QI below args s E A0 z.1 (cX E a P (rf_upL I [(3, z.2.1)]) J (rf_upL A [(3, z.2.2.1), (4, z.2.2.2.1), (5, z.2.2.2.2)]) B)) (F0 m 22 ls [.int s1, .ref (a 0)]) := by
  have hx := hC.1
  have hb := hC.2.1
  intro v1 v2 v3 s1 x_lastTrouble rhymes_links pairing_partners pairing_best hf H locs ls hP hS hl
  unfold f_X10_partner_22 at hf
  refine lv_aload_n hx hb dX10_partner_22 rfl (lv_at hl 0 rfl) ?_
  refine lv_iload_n hx hb dX10_partner_23 rfl (lv_at hl 3 rfl) ?_
  obtain ⟨z24, hz24, hf⟩ := rf_bd hf
  refine rf_vi (q0 := 0) (ci := 10) hC (c_X10_isHour l E a P (rf_upL I [(3, x_lastTrouble)]) J (rf_upL A [(3, rhymes_links), (4, pairing_partners), (5, pairing_best)]) B v3 hz24) kV_X10_isHour tw_766 ⟨Nat.le_of_ble_eq_true rfl, Nat.le_of_ble_eq_true rfl⟩ rfl rfl rfl rfl rfl hP (rf_DX hD) hS rfl hl.1 (rest := [.int s1, .ref (a 0)]) rfl (Nat.le_of_ble_eq_true rfl) dX10_partner_24 (fun H locs hP hS => ?_)
  obtain ⟨z27, hz27, hf⟩ := rf_bd hf
  refine rf_vi (q0 := 0) (ci := 10) hC (c_X10_refused l E a P (rf_upL I [(3, x_lastTrouble)]) J (rf_upL A [(3, rhymes_links), (4, pairing_partners), (5, pairing_best)]) B x_lastTrouble s1 z24 rfl hz27) kV_X10_refused tw_455 ⟨Nat.le_of_ble_eq_true rfl, Nat.le_of_ble_eq_true rfl⟩ rfl rfl rfl rfl rfl hP (rf_DX hD) hS rfl hl.1 (rest := []) rfl (Nat.le_of_ble_eq_true rfl) dX10_partner_27 (fun H locs hP hS => ?_)
  rw [rf_cat (f := I) (l := [(3, x_lastTrouble)]) (lc := [(3, z27.2)]) (l' := [(3, z27.2)]) rfl] at hP
  refine lv_if_eq (tgt := 35) hx hb dX10_partner_30 (by decide) (fun c_30 => ?_) (fun c_30 => ?_)
  · have hf := rf_it c_30 hf
    refine lv_aload_n hx hb dX10_partner_35 rfl (lv_at hl 0 rfl) ?_
    refine gX_x_rhymes hC hP tw_393 dX10_partner_36 ?_
    refine lv_aload_n hx hb dX10_partner_39 rfl (lv_at hl 0 rfl) ?_
    refine gX_x_tale hC hP tw_401 (v := a 10) hp0 dX10_partner_40 ?_
    refine lv_iload_n hx hb dX10_partner_43 rfl (lv_at hl 3 rfl) ?_
    obtain ⟨z44, hz44, hf⟩ := rf_bd hf
    refine rf_vi (q0 := 10) (ci := 9) hC (c_X9_earAt_tc l E a P (rf_upL I [(3, z27.2)]) J (rf_upL A [(3, rhymes_links), (4, pairing_partners), (5, pairing_best)]) B tc_ear tc_hourEars v3 e_tc_ear e_tc_hourEars hz44) kV_X9_earAt tw_770 ⟨Nat.le_of_ble_eq_true rfl, Nat.le_of_ble_eq_true rfl⟩ rfl rfl rfl rfl rfl hP (rf_DX hD) hS rfl hl.1 (rest := [.ref (a 2)]) rfl (Nat.le_of_ble_eq_true rfl) dX10_partner_44 (fun H locs hP hS => ?_)
    obtain ⟨z47, hz47, hf⟩ := rf_bd hf
    refine rf_vv (q0 := 2) (ci := 6) hC (c_X6_link l E a P (rf_upL I [(3, z27.2)]) J (rf_upL A [(3, rhymes_links), (4, pairing_partners), (5, pairing_best)]) B tc_wordCount tc_personCount now_words tc_kinds tc_close rhymes_links z44 hp2 e_tc_wordCount e_tc_personCount e_now_words e_tc_kinds e_tc_close rfl hz47) kV_X6_link tw_831 ⟨Nat.le_of_ble_eq_true rfl, Nat.le_of_ble_eq_true rfl⟩ rfl rfl rfl rfl rfl hP (rf_DX hD) hS rfl hl.1 (rest := []) rfl (Nat.le_of_ble_eq_true rfl) dX10_partner_47 (fun H locs hP hS => ?_)
    rw [rf_cat (f := A) (l := [(3, rhymes_links), (4, pairing_partners), (5, pairing_best)]) (lc := [(3, z47)]) (l' := [(3, z47), (4, pairing_partners), (5, pairing_best)]) rfl] at hP
    refine lv_aload_n hx hb dX10_partner_50 rfl (lv_at hl 0 rfl) ?_
    refine gX_x_pairing hC hP tw_394 dX10_partner_51 ?_
    refine lv_aload_n hx hb dX10_partner_54 rfl (lv_at hl 0 rfl) ?_
    refine gX_x_rhymes hC hP tw_393 dX10_partner_55 ?_
    refine gX_rhymes_links hC hP tw_192 dX10_partner_58 ?_
    refine lv_aload_n hx hb dX10_partner_61 rfl (lv_at hl 0 rfl) ?_
    refine gX_x_now hC hP tw_392 dX10_partner_62 ?_
    refine lv_iload_n hx hb dX10_partner_65 rfl (lv_at hl 2 rfl) ?_
    obtain ⟨z66, hz66, hf⟩ := rf_bd hf
    refine rf_vi (q0 := 1) (ci := 2) hC (c_X2_onBank l E a P (rf_upL I [(3, z27.2)]) J (rf_upL A [(3, z47), (4, pairing_partners), (5, pairing_best)]) B now_everybody now_far v2 e_now_everybody e_now_far hz66) kV_X2_onBank tw_905 ⟨Nat.le_of_ble_eq_true rfl, Nat.le_of_ble_eq_true rfl⟩ rfl rfl rfl rfl rfl hP (rf_DX hD) hS rfl hl.1 (rest := [.ref (a 16), .ref (a 3)]) rfl (Nat.le_of_ble_eq_true rfl) dX10_partner_66 (fun H locs hP hS => ?_)
    obtain ⟨z69, hz69, hf⟩ := rf_bd hf
    refine rf_vv (q0 := 3) (ci := 3) hC (c_X3_pairFirst l E a P (rf_upL I [(3, z27.2)]) J (rf_upL A [(3, z47), (4, pairing_partners), (5, pairing_best)]) B z47 pairing_partners pairing_best z66 rfl rfl rfl hz69) kV_X3_pairFirst tw_923 ⟨Nat.le_of_ble_eq_true rfl, Nat.le_of_ble_eq_true rfl⟩ rfl rfl rfl rfl rfl hP (rf_DX hD) hS rfl hl.1 (rest := []) rfl (Nat.le_of_ble_eq_true rfl) dX10_partner_69 (fun H locs hP hS => ?_)
    rw [rf_cat (f := A) (l := [(3, z47), (4, pairing_partners), (5, pairing_best)]) (lc := [(4, z69.1), (5, z69.2)]) (l' := [(3, z47), (4, z69.1), (5, z69.2)]) rfl] at hP
    refine lv_aload_n hx hb dX10_partner_72 rfl (lv_at hl 0 rfl) ?_
    refine gX_x_pairing hC hP tw_394 dX10_partner_73 ?_
    refine gX_pairing_partners hC hP tw_214 dX10_partner_76 ?_
    refine lv_iload_n hx hb dX10_partner_79 rfl (lv_at hl 1 rfl) ?_
    obtain ⟨hi_80, hf⟩ := rf_gu hf
    refine lX_pairing_partners hC hP hi_80 (f := z69.1) rfl dX10_partner_80 ?_
    obtain rfl := Option.some.inj hf
    exact rf_reti hC hP hS rfl rfl dX10_partner_81
  have hf := rf_ie c_30 hf
  refine lv_iconst (v := (-1)) hx hb dX10_partner_33 (by decide) ?_
  obtain rfl := Option.some.inj hf
  exact rf_reti hC hP hS rfl rfl dX10_partner_34
set_option maxHeartbeats 4000000 in
set_option maxRecDepth 100000 in
theorem w_X10_partner_21 {l : Launch} {p : Program} {e : Env} {s : State} {m : MethodId} {args : Array Value} {below : List Frame} {meth : Method} {c : Code} {A0 : Nat → Prop} {E : rf_E} {a P : Nat → Nat} {I : Nat → Int32} {J : Nat → Int64} {A : Nat → Nat → Int32} {B : Nat → Nat → Int64} {now_everybody : Int32} {now_far : Int32} {tc_ear : Int32} {tc_wordCount : Int32} {tc_personCount : Int32} {now_words : Nat → Int32} {tc_kinds : Nat → Int32} {tc_hourEars : Nat → Int32} {tc_close : Nat → Int32} {z : Int32 × Int32 × (Nat → Int32) × (Nat → Int32) × (Nat → Int32)} (hC : rf_C p E s m args meth c cX10_partner 4 RX10 (some .int) A0) (hD : va_D A0 (cX E a P I J A B)) (hp0 : P 0 = a 10) (hp2 : P 2 = a 10) (e_now_everybody : I 6 = now_everybody) (e_now_far : I 7 = now_far) (e_tc_ear : I 21 = tc_ear) (e_tc_wordCount : I 23 = tc_wordCount) (e_tc_personCount : I 24 = tc_personCount) (e_now_words : A 1 = now_words) (e_tc_kinds : A 14 = tc_kinds) (e_tc_hourEars : A 18 = tc_hourEars) (e_tc_close : A 22 = tc_close) :
    ∀ (v1 : Int32) (v2 : Int32) (v3 : Int32) (x_lastTrouble : Int32) (rhymes_links : Nat → Int32) (pairing_partners : Nat → Int32) (pairing_best : Nat → Int32), f_X10_partner_21 now_everybody now_far tc_ear tc_wordCount tc_personCount now_words tc_kinds tc_hourEars tc_close v1 v2 v3 x_lastTrouble rhymes_links pairing_partners pairing_best = some z → ∀ (H : Heap) (locs : List Loc) (ls : Array Slot), va_P (rf_D E) vwCl (cX E a P (rf_upL I [(3, x_lastTrouble)]) J (rf_upL A [(3, rhymes_links), (4, pairing_partners), (5, pairing_best)]) B) H → va_S A0 s.heap H locs → lv_has ls 4 [(0, .ref (a 0)), (1, .int v1), (2, .int v2), (3, .int v3)] → W p l e ({ frames := 7, cells := 0, slots := 0, locals := 225 }) s m args below meth c H locs 0 0 (rf_QI below args s E A0 z.1 (cX E a P (rf_upL I [(3, z.2.1)]) J (rf_upL A [(3, z.2.2.1), (4, z.2.2.2.1), (5, z.2.2.2.2)]) B)) (F0 m 21 ls [.ref (a 0)]) := by
  have hx := hC.1
  have hb := hC.2.1
  intro v1 v2 v3 x_lastTrouble rhymes_links pairing_partners pairing_best hf H locs ls hP hS hl
  unfold f_X10_partner_21 at hf
  refine lv_iconst (v := 0) hx hb dX10_partner_21 (by decide) ?_
  exact w_X10_partner_22 hC hD hp0 hp2 e_now_everybody e_now_far e_tc_ear e_tc_wordCount e_tc_personCount e_now_words e_tc_kinds e_tc_hourEars e_tc_close v1 v2 v3 0 x_lastTrouble rhymes_links pairing_partners pairing_best hf _ _ _ hP hS (lv_sub hl [0, 1, 2, 3] rfl)
set_option maxHeartbeats 4000000 in
set_option maxRecDepth 100000 in
theorem c_X10_partner (l : Launch) (E : rf_E) (a P : Nat → Nat) (I : Nat → Int32) (J : Nat → Int64) (A : Nat → Nat → Int32) (B : Nat → Nat → Int64) (now_everybody : Int32) (now_far : Int32) (tc_ear : Int32) (tc_wordCount : Int32) (tc_personCount : Int32) (now_words : Nat → Int32) (tc_kinds : Nat → Int32) (tc_hourEars : Nat → Int32) (tc_close : Nat → Int32) (x_lastTrouble : Int32) (rhymes_links : Nat → Int32) (pairing_partners : Nat → Int32) (pairing_best : Nat → Int32) (v1 : Int32) (v2 : Int32) (v3 : Int32) {z : Int32 × Int32 × (Nat → Int32) × (Nat → Int32) × (Nat → Int32)} (hp0 : P 0 = a 10) (hp2 : P 2 = a 10) (e_now_everybody : I 6 = now_everybody) (e_now_far : I 7 = now_far) (e_tc_ear : I 21 = tc_ear) (e_tc_wordCount : I 23 = tc_wordCount) (e_tc_personCount : I 24 = tc_personCount) (e_now_words : A 1 = now_words) (e_tc_kinds : A 14 = tc_kinds) (e_tc_hourEars : A 18 = tc_hourEars) (e_tc_close : A 22 = tc_close) (e_x_lastTrouble : I 3 = x_lastTrouble) (e_rhymes_links : A 3 = rhymes_links) (e_pairing_partners : A 4 = pairing_partners) (e_pairing_best : A 5 = pairing_best) (hf : f_X10_partner now_everybody now_far tc_ear tc_wordCount tc_personCount now_words tc_kinds tc_hourEars tc_close x_lastTrouble rhymes_links pairing_partners pairing_best v1 v2 v3 = some z) : rf_MI l yX10_partner cX10_partner 4 (some .int) ({ frames := 7, cells := 0, slots := 0, locals := 225 }) E [.ref (a 0), .int v1, .int v2, .int v3] (cX E a P I J A B) z.1 (cX E a P (rf_upL I [(3, z.2.1)]) J (rf_upL A [(3, z.2.2.1), (4, z.2.2.2.1), (5, z.2.2.2.2)]) B) := by
  unfold f_X10_partner at hf
  refine rf_ofI (by decide) (Nat.le_of_ble_eq_true rfl) ?_
  intro p e s m below meth c A0 ls hC hD hP hS hl
  have hC : rf_C p E s m _ meth c cX10_partner 4 RX10 (some .int) A0 := hC
  have hx := hC.1
  have hb := hC.2.1
  have hl : lv_has ls 4 [(0, .ref (a 0)), (1, .int v1), (2, .int v2), (3, .int v3)] := hl
  have hP : va_P (rf_D E) vwCl (cX E a P (rf_upL I [(3, x_lastTrouble)]) J (rf_upL A [(3, rhymes_links), (4, pairing_partners), (5, pairing_best)]) B) s.heap := by
    rw [rf_self (f := I) [(3, x_lastTrouble)] (rf_fa1 e_x_lastTrouble rf_fa0)]
    rw [rf_self (f := A) [(3, rhymes_links), (4, pairing_partners), (5, pairing_best)] (rf_fa1 e_rhymes_links (rf_fa1 e_pairing_partners (rf_fa1 e_pairing_best rf_fa0)))]
    exact hP
  refine lv_aload_n hx hb dX10_partner_0 rfl (lv_at hl 0 rfl) ?_
  refine lv_aload_n hx hb dX10_partner_1 rfl (lv_at hl 0 rfl) ?_
  refine lv_iload_n hx hb dX10_partner_2 rfl (lv_at hl 1 rfl) ?_
  obtain ⟨z3, hz3, hf⟩ := rf_bd hf
  refine rf_vi (q0 := 0) (ci := 10) hC (c_X10_isPerson l E a P (rf_upL I [(3, x_lastTrouble)]) J (rf_upL A [(3, rhymes_links), (4, pairing_partners), (5, pairing_best)]) B tc_personCount v1 hp0 e_tc_personCount hz3) kV_X10_isPerson tw_750 ⟨Nat.le_of_ble_eq_true rfl, Nat.le_of_ble_eq_true rfl⟩ rfl rfl rfl rfl rfl hP (rf_DX hD) hS rfl hl.1 (rest := [.ref (a 0)]) rfl (Nat.le_of_ble_eq_true rfl) dX10_partner_3 (fun H locs hP hS => ?_)
  refine lv_if_eq (tgt := 21) hx hb dX10_partner_6 (by decide) (fun c_6 => ?_) (fun c_6 => ?_)
  · have hf := rf_it c_6 hf
    exact w_X10_partner_21 hC hD hp0 hp2 e_now_everybody e_now_far e_tc_ear e_tc_wordCount e_tc_personCount e_now_words e_tc_kinds e_tc_hourEars e_tc_close v1 v2 v3 x_lastTrouble rhymes_links pairing_partners pairing_best hf _ _ _ hP hS (lv_sub hl [0, 1, 2, 3] rfl)
  have hf := rf_ie c_6 hf
  refine lv_aload_n hx hb dX10_partner_9 rfl (lv_at hl 0 rfl) ?_
  refine lv_iload_n hx hb dX10_partner_10 rfl (lv_at hl 2 rfl) ?_
  obtain ⟨z11, hz11, hf⟩ := rf_bd hf
  refine rf_vi (q0 := 0) (ci := 10) hC (c_X10_isBank l E a P (rf_upL I [(3, x_lastTrouble)]) J (rf_upL A [(3, rhymes_links), (4, pairing_partners), (5, pairing_best)]) B tc_personCount v2 hp0 e_tc_personCount hz11) kV_X10_isBank tw_901 ⟨Nat.le_of_ble_eq_true rfl, Nat.le_of_ble_eq_true rfl⟩ rfl rfl rfl rfl rfl hP (rf_DX hD) hS rfl hl.1 (rest := [.ref (a 0)]) rfl (Nat.le_of_ble_eq_true rfl) dX10_partner_11 (fun H locs hP hS => ?_)
  refine lv_if_eq (tgt := 21) hx hb dX10_partner_14 (by decide) (fun c_14 => ?_) (fun c_14 => ?_)
  · have hf := rf_it c_14 hf
    exact w_X10_partner_21 hC hD hp0 hp2 e_now_everybody e_now_far e_tc_ear e_tc_wordCount e_tc_personCount e_now_words e_tc_kinds e_tc_hourEars e_tc_close v1 v2 v3 x_lastTrouble rhymes_links pairing_partners pairing_best hf _ _ _ hP hS (lv_sub hl [0, 1, 2, 3] rfl)
  have hf := rf_ie c_14 hf
  refine lv_iconst (v := 1) hx hb dX10_partner_17 (by decide) ?_
  refine lv_goto (tgt := 22) hx hb dX10_partner_18 (by decide) ?_
  exact w_X10_partner_22 hC hD hp0 hp2 e_now_everybody e_now_far e_tc_ear e_tc_wordCount e_tc_personCount e_now_words e_tc_kinds e_tc_hourEars e_tc_close v1 v2 v3 1 x_lastTrouble rhymes_links pairing_partners pairing_best hf _ _ _ hP hS (lv_sub hl [0, 1, 2, 3] rfl)
set_option maxHeartbeats 4000000 in
set_option maxRecDepth 100000 in
theorem w_X6_lonely_45 {l : Launch} {p : Program} {e : Env} {s : State} {m : MethodId} {args : Array Value} {below : List Frame} {meth : Method} {c : Code} {A0 : Nat → Prop} {E : rf_E} {a P : Nat → Nat} {I : Nat → Int32} {J : Nat → Int64} {A : Nat → Nat → Int32} {B : Nat → Nat → Int64} {tc_wordCount : Int32} {tc_personCount : Int32} {now_words : Nat → Int32} {tc_kinds : Nat → Int32} {tc_close : Nat → Int32} {z : Int32} (hC : rf_C p E s m args meth c cX6_lonely 5 RX6 (some .int) A0) (hD : va_D A0 (cX E a P I J A B)) (hp2 : P 2 = a 10) (e_tc_wordCount : I 23 = tc_wordCount) (e_tc_personCount : I 24 = tc_personCount) (e_now_words : A 1 = now_words) (e_tc_kinds : A 14 = tc_kinds) (e_tc_close : A 22 = tc_close) {k5 : Int32 → Int32 → Int32 → Int32 → Option (Int32)} (hk5 : ∀ (v1 : Int32) (v2 : Int32) (v3 : Int32) (v4 : Int32), k5 v1 v2 v3 v4 = some z → ∀ (H : Heap) (locs : List Loc) (ls : Array Slot), va_P (rf_D E) vwCl (cX E a P I J A B) H → va_S A0 s.heap H locs → lv_has ls 5 [(0, .ref (a 2)), (1, .int v1), (2, .int v2), (3, .int v3), (4, .int v4)] → W p l e ({ frames := 4, cells := 0, slots := 0, locals := 101 }) s m args below meth c H locs 0 0 (rf_QI below args s E A0 z (cX E a P I J A B)) (F0 m 5 ls [])) :
    ∀ (v1 : Int32) (v2 : Int32) (v3 : Int32) (v4 : Int32), f_X6_lonely_45 k5 tc_wordCount tc_personCount now_words tc_kinds tc_close v1 v2 v3 v4 = some z → ∀ (H : Heap) (locs : List Loc) (ls : Array Slot), va_P (rf_D E) vwCl (cX E a P I J A B) H → va_S A0 s.heap H locs → lv_has ls 5 [(0, .ref (a 2)), (1, .int v1), (2, .int v2), (3, .int v3), (4, .int v4)] → W p l e ({ frames := 4, cells := 0, slots := 0, locals := 101 }) s m args below meth c H locs 0 0 (rf_QI below args s E A0 z (cX E a P I J A B)) (F0 m 45 ls []) := by
  have hx := hC.1
  have hb := hC.2.1
  intro v1 v2 v3 v4 hf H locs ls hP hS hl
  unfold f_X6_lonely_45 at hf
  refine lv_iinc (v := v4 + 1) (lv' := [(4, .int (v4 + 1)), (0, .ref (a 2)), (1, .int v1), (2, .int v2), (3, .int v3)]) hx hb dX6_lonely_45 hl (k := 4) rfl rfl (by decide) rfl (fun ls hl => ?_)
  refine lv_goto (tgt := 5) hx hb dX6_lonely_48 (by decide) ?_
  exact hk5 v1 v2 v3 (v4 + 1) hf _ _ _ hP hS (lv_sub hl [1, 2, 3, 4, 0] rfl)
set_option maxHeartbeats 4000000 in
set_option maxRecDepth 100000 in
theorem w_X6_lonely_5 {l : Launch} {p : Program} {e : Env} {s : State} {m : MethodId} {args : Array Value} {below : List Frame} {meth : Method} {c : Code} {A0 : Nat → Prop} {E : rf_E} {a P : Nat → Nat} {I : Nat → Int32} {J : Nat → Int64} {A : Nat → Nat → Int32} {B : Nat → Nat → Int64} {tc_wordCount : Int32} {tc_personCount : Int32} {now_words : Nat → Int32} {tc_kinds : Nat → Int32} {tc_close : Nat → Int32} {z : Int32} (hC : rf_C p E s m args meth c cX6_lonely 5 RX6 (some .int) A0) (hD : va_D A0 (cX E a P I J A B)) (hp2 : P 2 = a 10) (e_tc_wordCount : I 23 = tc_wordCount) (e_tc_personCount : I 24 = tc_personCount) (e_now_words : A 1 = now_words) (e_tc_kinds : A 14 = tc_kinds) (e_tc_close : A 22 = tc_close) :
    ∀ (n : Nat), ∀ (v1 : Int32) (v2 : Int32) (v3 : Int32) (v4 : Int32), f_X6_lonely_5 tc_wordCount tc_personCount now_words tc_kinds tc_close n v1 v2 v3 v4 = some z → ∀ (H : Heap) (locs : List Loc) (ls : Array Slot), va_P (rf_D E) vwCl (cX E a P I J A B) H → va_S A0 s.heap H locs → lv_has ls 5 [(0, .ref (a 2)), (1, .int v1), (2, .int v2), (3, .int v3), (4, .int v4)] → W p l e ({ frames := 4, cells := 0, slots := 0, locals := 101 }) s m args below meth c H locs 0 0 (rf_QI below args s E A0 z (cX E a P I J A B)) (F0 m 5 ls []) := by
  have hx := hC.1
  have hb := hC.2.1
  intro n
  induction n with
  | zero =>
    intro v1 v2 v3 v4 hf
    have hf : (none : Option (Int32)) = some z := hf
    cases hf
  | succ n ih =>
    intro v1 v2 v3 v4 hf H locs ls hP hS hl
    rw [f_X6_lonely_5] at hf
    refine lv_iload hx hb dX6_lonely_5 (lv_at hl 4 rfl) ?_
    refine lv_aload_n hx hb dX6_lonely_7 rfl (lv_at hl 0 rfl) ?_
    refine gX_rhymes_tale hC hP tw_193 (v := a 10) hp2 dX6_lonely_8 ?_
    refine gX_tc_personCount hC hP tw_131 (v := tc_personCount) e_tc_personCount dX6_lonely_11 ?_
    refine lv_icmp_ge (tgt := 51) hx hb dX6_lonely_14 (by decide) (fun c_14 => ?_) (fun c_14 => ?_)
    · have hf := rf_it c_14 hf
      refine lv_iload_n hx hb dX6_lonely_51 rfl (lv_at hl 3 rfl) ?_
      obtain rfl := Option.some.inj hf
      exact rf_reti hC hP hS rfl rfl dX6_lonely_52
    have hf := rf_ie c_14 hf
    refine lv_iload_n hx hb dX6_lonely_17 rfl (lv_at hl 1 rfl) ?_
    refine lv_iload hx hb dX6_lonely_18 (lv_at hl 4 rfl) ?_
    obtain ⟨z20, hz20, hf⟩ := rf_bd hf
    refine rf_sn0 hC (c_X10_holds l E v1 v4 hz20) kS_X10_holds nw_839 ⟨Nat.le_of_ble_eq_true rfl, Nat.le_of_ble_eq_true rfl⟩ rfl rfl hP hS rfl hl.1 (rest := []) rfl (Nat.le_of_ble_eq_true rfl) dX6_lonely_20 (fun H locs hP hS => ?_)
    refine lv_if_eq (tgt := 45) hx hb dX6_lonely_23 (by decide) (fun c_23 => ?_) (fun c_23 => ?_)
    · have hf := rf_it c_23 hf
      exact w_X6_lonely_45 hC hD hp2 e_tc_wordCount e_tc_personCount e_now_words e_tc_kinds e_tc_close ih v1 v2 v3 v4 hf _ _ _ hP hS (lv_sub hl [0, 1, 2, 3, 4] rfl)
    have hf := rf_ie c_23 hf
    refine lv_aload_n hx hb dX6_lonely_26 rfl (lv_at hl 0 rfl) ?_
    refine lv_iload hx hb dX6_lonely_27 (lv_at hl 4 rfl) ?_
    refine lv_iload_n hx hb dX6_lonely_29 rfl (lv_at hl 2 rfl) ?_
    obtain ⟨z30, hz30, hf⟩ := rf_bd hf
    refine rf_vi (q0 := 2) (ci := 6) hC (c_X6_metNow l E a P I J A B tc_wordCount tc_personCount now_words tc_kinds tc_close v4 v2 hp2 e_tc_wordCount e_tc_personCount e_now_words e_tc_kinds e_tc_close hz30) kV_X6_metNow tw_820 ⟨Nat.le_of_ble_eq_true rfl, Nat.le_of_ble_eq_true rfl⟩ rfl rfl rfl rfl rfl hP (rf_DX hD) hS rfl hl.1 (rest := []) rfl (Nat.le_of_ble_eq_true rfl) dX6_lonely_30 (fun H locs hP hS => ?_)
    refine lv_iload_n hx hb dX6_lonely_33 rfl (lv_at hl 1 rfl) ?_
    refine lv_iand hx hb dX6_lonely_34 ?_
    refine lv_if_ne (tgt := 45) hx hb dX6_lonely_35 (by decide) (fun c_35 => ?_) (fun c_35 => ?_)
    · have hf := rf_ie c_35 hf
      exact w_X6_lonely_45 hC hD hp2 e_tc_wordCount e_tc_personCount e_now_words e_tc_kinds e_tc_close ih v1 v2 v3 v4 hf _ _ _ hP hS (lv_sub hl [0, 1, 2, 3, 4] rfl)
    have hf := rf_it c_35 hf
    refine lv_iload_n hx hb dX6_lonely_38 rfl (lv_at hl 3 rfl) ?_
    refine lv_iconst (v := 1) hx hb dX6_lonely_39 (by decide) ?_
    refine lv_iload hx hb dX6_lonely_40 (lv_at hl 4 rfl) ?_
    refine lv_ishl hx hb dX6_lonely_42 ?_
    refine lv_ior hx hb dX6_lonely_43 ?_
    refine lv_istore_n (lv' := [(3, .int (v3 ||| ((1 : Int32) <<< (v4 &&& 31)))), (0, .ref (a 2)), (1, .int v1), (2, .int v2), (4, .int v4)]) hx hb dX6_lonely_44 rfl hl (by decide) rfl (fun ls hl => ?_)
    exact w_X6_lonely_45 hC hD hp2 e_tc_wordCount e_tc_personCount e_now_words e_tc_kinds e_tc_close ih v1 v2 (v3 ||| ((1 : Int32) <<< (v4 &&& 31))) v4 hf _ _ _ hP hS (lv_sub hl [1, 2, 3, 0, 4] rfl)
set_option maxHeartbeats 4000000 in
set_option maxRecDepth 100000 in
theorem c_X6_lonely (l : Launch) (E : rf_E) (a P : Nat → Nat) (I : Nat → Int32) (J : Nat → Int64) (A : Nat → Nat → Int32) (B : Nat → Nat → Int64) (tc_wordCount : Int32) (tc_personCount : Int32) (now_words : Nat → Int32) (tc_kinds : Nat → Int32) (tc_close : Nat → Int32) (v1 : Int32) (v2 : Int32) {z : Int32} (hp2 : P 2 = a 10) (e_tc_wordCount : I 23 = tc_wordCount) (e_tc_personCount : I 24 = tc_personCount) (e_now_words : A 1 = now_words) (e_tc_kinds : A 14 = tc_kinds) (e_tc_close : A 22 = tc_close) (hf : f_X6_lonely tc_wordCount tc_personCount now_words tc_kinds tc_close v1 v2 = some z) : rf_MI l yX6_lonely cX6_lonely 5 (some .int) ({ frames := 4, cells := 0, slots := 0, locals := 101 }) E [.ref (a 2), .int v1, .int v2] (cX E a P I J A B) z (cX E a P I J A B) := by
  unfold f_X6_lonely at hf
  refine rf_ofI (by decide) (Nat.le_of_ble_eq_true rfl) ?_
  intro p e s m below meth c A0 ls hC hD hP hS hl
  have hC : rf_C p E s m _ meth c cX6_lonely 5 RX6 (some .int) A0 := hC
  have hx := hC.1
  have hb := hC.2.1
  have hl : lv_has ls 5 [(0, .ref (a 2)), (1, .int v1), (2, .int v2)] := hl
  refine lv_iconst (v := 0) hx hb dX6_lonely_0 (by decide) ?_
  refine lv_istore_n (lv' := [(3, .int 0), (0, .ref (a 2)), (1, .int v1), (2, .int v2)]) hx hb dX6_lonely_1 rfl hl (by decide) rfl (fun ls hl => ?_)
  refine lv_iconst (v := 0) hx hb dX6_lonely_2 (by decide) ?_
  refine lv_istore (lv' := [(4, .int 0), (3, .int 0), (0, .ref (a 2)), (1, .int v1), (2, .int v2)]) hx hb dX6_lonely_3 hl (by decide) rfl (fun ls hl => ?_)
  exact w_X6_lonely_5 hC hD hp2 e_tc_wordCount e_tc_personCount e_now_words e_tc_kinds e_tc_close rf_fu v1 v2 0 0 hf _ _ _ hP hS (lv_sub hl [2, 3, 4, 1, 0] rfl)
set_option maxHeartbeats 4000000 in
set_option maxRecDepth 100000 in
theorem c_X10_alone (l : Launch) (E : rf_E) (a P : Nat → Nat) (I : Nat → Int32) (J : Nat → Int64) (A : Nat → Nat → Int32) (B : Nat → Nat → Int64) (now_everybody : Int32) (now_far : Int32) (tc_ear : Int32) (tc_wordCount : Int32) (tc_personCount : Int32) (now_words : Nat → Int32) (tc_kinds : Nat → Int32) (tc_hourEars : Nat → Int32) (tc_close : Nat → Int32) (x_lastTrouble : Int32) (v1 : Int32) (v2 : Int32) {z : Int32 × Int32} (hp0 : P 0 = a 10) (hp2 : P 2 = a 10) (e_now_everybody : I 6 = now_everybody) (e_now_far : I 7 = now_far) (e_tc_ear : I 21 = tc_ear) (e_tc_wordCount : I 23 = tc_wordCount) (e_tc_personCount : I 24 = tc_personCount) (e_now_words : A 1 = now_words) (e_tc_kinds : A 14 = tc_kinds) (e_tc_hourEars : A 18 = tc_hourEars) (e_tc_close : A 22 = tc_close) (e_x_lastTrouble : I 3 = x_lastTrouble) (hf : f_X10_alone now_everybody now_far tc_ear tc_wordCount tc_personCount now_words tc_kinds tc_hourEars tc_close x_lastTrouble v1 v2 = some z) : rf_MI l yX10_alone cX10_alone 3 (some .int) ({ frames := 5, cells := 0, slots := 0, locals := 125 }) E [.ref (a 0), .int v1, .int v2] (cX E a P I J A B) z.1 (cX E a P (rf_upL I [(3, z.2)]) J A B) := by
  unfold f_X10_alone at hf
  refine rf_ofI (by decide) (Nat.le_of_ble_eq_true rfl) ?_
  intro p e s m below meth c A0 ls hC hD hP hS hl
  have hC : rf_C p E s m _ meth c cX10_alone 3 RX10 (some .int) A0 := hC
  have hx := hC.1
  have hb := hC.2.1
  have hl : lv_has ls 3 [(0, .ref (a 0)), (1, .int v1), (2, .int v2)] := hl
  have hP : va_P (rf_D E) vwCl (cX E a P (rf_upL I [(3, x_lastTrouble)]) J A B) s.heap := by
    rw [rf_self (f := I) [(3, x_lastTrouble)] (rf_fa1 e_x_lastTrouble rf_fa0)]
    exact hP
  refine lv_aload_n hx hb dX10_alone_0 rfl (lv_at hl 0 rfl) ?_
  refine lv_aload_n hx hb dX10_alone_1 rfl (lv_at hl 0 rfl) ?_
  refine lv_iload_n hx hb dX10_alone_2 rfl (lv_at hl 1 rfl) ?_
  obtain ⟨z3, hz3, hf⟩ := rf_bd hf
  refine rf_vi (q0 := 0) (ci := 10) hC (c_X10_isBank l E a P (rf_upL I [(3, x_lastTrouble)]) J A B tc_personCount v1 hp0 e_tc_personCount hz3) kV_X10_isBank tw_901 ⟨Nat.le_of_ble_eq_true rfl, Nat.le_of_ble_eq_true rfl⟩ rfl rfl rfl rfl rfl hP (rf_DX hD) hS rfl hl.1 (rest := [.ref (a 0)]) rfl (Nat.le_of_ble_eq_true rfl) dX10_alone_3 (fun H locs hP hS => ?_)
  refine lv_aload_n hx hb dX10_alone_6 rfl (lv_at hl 0 rfl) ?_
  refine lv_iload_n hx hb dX10_alone_7 rfl (lv_at hl 2 rfl) ?_
  obtain ⟨z8, hz8, hf⟩ := rf_bd hf
  refine rf_vi (q0 := 0) (ci := 10) hC (c_X10_isHour l E a P (rf_upL I [(3, x_lastTrouble)]) J A B v2 hz8) kV_X10_isHour tw_766 ⟨Nat.le_of_ble_eq_true rfl, Nat.le_of_ble_eq_true rfl⟩ rfl rfl rfl rfl rfl hP (rf_DX hD) hS rfl hl.1 (rest := [.int z3, .ref (a 0)]) rfl (Nat.le_of_ble_eq_true rfl) dX10_alone_8 (fun H locs hP hS => ?_)
  obtain ⟨z11, hz11, hf⟩ := rf_bd hf
  refine rf_vi (q0 := 0) (ci := 10) hC (c_X10_refused l E a P (rf_upL I [(3, x_lastTrouble)]) J A B x_lastTrouble z3 z8 rfl hz11) kV_X10_refused tw_455 ⟨Nat.le_of_ble_eq_true rfl, Nat.le_of_ble_eq_true rfl⟩ rfl rfl rfl rfl rfl hP (rf_DX hD) hS rfl hl.1 (rest := []) rfl (Nat.le_of_ble_eq_true rfl) dX10_alone_11 (fun H locs hP hS => ?_)
  rw [rf_cat (f := I) (l := [(3, x_lastTrouble)]) (lc := [(3, z11.2)]) (l' := [(3, z11.2)]) rfl] at hP
  refine lv_if_eq (tgt := 19) hx hb dX10_alone_14 (by decide) (fun c_14 => ?_) (fun c_14 => ?_)
  · have hf := rf_it c_14 hf
    refine lv_aload_n hx hb dX10_alone_19 rfl (lv_at hl 0 rfl) ?_
    refine gX_x_rhymes hC hP tw_393 dX10_alone_20 ?_
    refine lv_aload_n hx hb dX10_alone_23 rfl (lv_at hl 0 rfl) ?_
    refine gX_x_now hC hP tw_392 dX10_alone_24 ?_
    refine lv_iload_n hx hb dX10_alone_27 rfl (lv_at hl 1 rfl) ?_
    obtain ⟨z28, hz28, hf⟩ := rf_bd hf
    refine rf_vi (q0 := 1) (ci := 2) hC (c_X2_onBank l E a P (rf_upL I [(3, z11.2)]) J A B now_everybody now_far v1 e_now_everybody e_now_far hz28) kV_X2_onBank tw_905 ⟨Nat.le_of_ble_eq_true rfl, Nat.le_of_ble_eq_true rfl⟩ rfl rfl rfl rfl rfl hP (rf_DX hD) hS rfl hl.1 (rest := [.ref (a 2)]) rfl (Nat.le_of_ble_eq_true rfl) dX10_alone_28 (fun H locs hP hS => ?_)
    refine lv_aload_n hx hb dX10_alone_31 rfl (lv_at hl 0 rfl) ?_
    refine gX_x_tale hC hP tw_401 (v := a 10) hp0 dX10_alone_32 ?_
    refine lv_iload_n hx hb dX10_alone_35 rfl (lv_at hl 2 rfl) ?_
    obtain ⟨z36, hz36, hf⟩ := rf_bd hf
    refine rf_vi (q0 := 10) (ci := 9) hC (c_X9_earAt_tc l E a P (rf_upL I [(3, z11.2)]) J A B tc_ear tc_hourEars v2 e_tc_ear e_tc_hourEars hz36) kV_X9_earAt tw_770 ⟨Nat.le_of_ble_eq_true rfl, Nat.le_of_ble_eq_true rfl⟩ rfl rfl rfl rfl rfl hP (rf_DX hD) hS rfl hl.1 (rest := [.int z28, .ref (a 2)]) rfl (Nat.le_of_ble_eq_true rfl) dX10_alone_36 (fun H locs hP hS => ?_)
    obtain ⟨z39, hz39, hf⟩ := rf_bd hf
    refine rf_vi (q0 := 2) (ci := 6) hC (c_X6_lonely l E a P (rf_upL I [(3, z11.2)]) J A B tc_wordCount tc_personCount now_words tc_kinds tc_close z28 z36 hp2 e_tc_wordCount e_tc_personCount e_now_words e_tc_kinds e_tc_close hz39) kV_X6_lonely tw_937 ⟨Nat.le_of_ble_eq_true rfl, Nat.le_of_ble_eq_true rfl⟩ rfl rfl rfl rfl rfl hP (rf_DX hD) hS rfl hl.1 (rest := []) rfl (Nat.le_of_ble_eq_true rfl) dX10_alone_39 (fun H locs hP hS => ?_)
    obtain rfl := Option.some.inj hf
    exact rf_reti hC hP hS rfl rfl dX10_alone_42
  have hf := rf_ie c_14 hf
  refine lv_iconst (v := (-1)) hx hb dX10_alone_17 (by decide) ?_
  obtain rfl := Option.some.inj hf
  exact rf_reti hC hP hS rfl rfl dX10_alone_18
set_option maxHeartbeats 4000000 in
set_option maxRecDepth 100000 in
theorem w_X3_mostKeptIn_116 {l : Launch} {p : Program} {e : Env} {s : State} {m : MethodId} {args : Array Value} {below : List Frame} {meth : Method} {c : Code} {A0 : Nat → Prop} {E : rf_E} {a P : Nat → Nat} {I : Nat → Int32} {J : Nat → Int64} {A : Nat → Nat → Int32} {B : Nat → Nat → Int64} {rhymes_links : Nat → Int32} {pairing_best : Nat → Int32} {tc_errands : Nat → Int32} {z : Int32} (hC : rf_C p E s m args meth c cX3_mostKeptIn 9 RX3 (some .int) A0) (hD : va_D A0 (cX E a P I J A B)) (e_rhymes_links : A 3 = rhymes_links) (e_pairing_best : A 5 = pairing_best) (e_tc_errands : A 16 = tc_errands) {k6 : Int32 → Int32 → Int32 → Int32 → Option (Int32)} (hk6 : ∀ (v2 : Int32) (v4 : Int32) (v5 : Int32) (v6 : Int32), k6 v2 v4 v5 v6 = some z → ∀ (H : Heap) (locs : List Loc) (ls : Array Slot), va_P (rf_D E) vwCl (cX E a P I J A B) H → va_S A0 s.heap H locs → lv_has ls 9 [(0, .ref (a 3)), (1, .ref (a 16)), (2, .int v2), (3, .ref (a 10)), (4, .int v4), (5, .int v5), (6, .int v6)] → W p l e ({ frames := 1, cells := 0, slots := 0, locals := 40 }) s m args below meth c H locs 0 0 (rf_QI below args s E A0 z (cX E a P I J A B)) (F0 m 6 ls [])) {k19 : Int32 → Int32 → Int32 → Int32 → Int32 → Option (Int32)} (hk19 : ∀ (v2 : Int32) (v4 : Int32) (v5 : Int32) (v6 : Int32) (v7 : Int32), k19 v2 v4 v5 v6 v7 = some z → ∀ (H : Heap) (locs : List Loc) (ls : Array Slot), va_P (rf_D E) vwCl (cX E a P I J A B) H → va_S A0 s.heap H locs → lv_has ls 9 [(0, .ref (a 3)), (1, .ref (a 16)), (2, .int v2), (3, .ref (a 10)), (4, .int v4), (5, .int v5), (6, .int v6), (7, .int v7)] → W p l e ({ frames := 1, cells := 0, slots := 0, locals := 40 }) s m args below meth c H locs 0 0 (rf_QI below args s E A0 z (cX E a P I J A B)) (F0 m 19 ls [])) :
    ∀ (v2 : Int32) (v4 : Int32) (v5 : Int32) (v6 : Int32) (v7 : Int32), f_X3_mostKeptIn_116 k6 k19 rhymes_links pairing_best tc_errands v2 v4 v5 v6 v7 = some z → ∀ (H : Heap) (locs : List Loc) (ls : Array Slot), va_P (rf_D E) vwCl (cX E a P I J A B) H → va_S A0 s.heap H locs → lv_has ls 9 [(0, .ref (a 3)), (1, .ref (a 16)), (2, .int v2), (3, .ref (a 10)), (4, .int v4), (5, .int v5), (6, .int v6), (7, .int v7)] → W p l e ({ frames := 1, cells := 0, slots := 0, locals := 40 }) s m args below meth c H locs 0 0 (rf_QI below args s E A0 z (cX E a P I J A B)) (F0 m 116 ls []) := by
  have hx := hC.1
  have hb := hC.2.1
  intro v2 v4 v5 v6 v7 hf H locs ls hP hS hl
  unfold f_X3_mostKeptIn_116 at hf
  refine lv_iinc (v := v7 + 1) (lv' := [(7, .int (v7 + 1)), (0, .ref (a 3)), (1, .ref (a 16)), (2, .int v2), (3, .ref (a 10)), (4, .int v4), (5, .int v5), (6, .int v6)]) hx hb dX3_mostKeptIn_116 hl (k := 7) rfl rfl (by decide) rfl (fun ls hl => ?_)
  refine lv_goto (tgt := 19) hx hb dX3_mostKeptIn_119 (by decide) ?_
  exact hk19 v2 v4 v5 v6 (v7 + 1) hf _ _ _ hP hS (lv_sub hl [1, 2, 3, 4, 5, 6, 7, 0] rfl)
set_option maxHeartbeats 4000000 in
set_option maxRecDepth 100000 in
theorem w_X3_mostKeptIn_83 {l : Launch} {p : Program} {e : Env} {s : State} {m : MethodId} {args : Array Value} {below : List Frame} {meth : Method} {c : Code} {A0 : Nat → Prop} {E : rf_E} {a P : Nat → Nat} {I : Nat → Int32} {J : Nat → Int64} {A : Nat → Nat → Int32} {B : Nat → Nat → Int64} {rhymes_links : Nat → Int32} {pairing_best : Nat → Int32} {tc_errands : Nat → Int32} {z : Int32} (hC : rf_C p E s m args meth c cX3_mostKeptIn 9 RX3 (some .int) A0) (hD : va_D A0 (cX E a P I J A B)) (e_rhymes_links : A 3 = rhymes_links) (e_pairing_best : A 5 = pairing_best) (e_tc_errands : A 16 = tc_errands) {k6 : Int32 → Int32 → Int32 → Int32 → Option (Int32)} (hk6 : ∀ (v2 : Int32) (v4 : Int32) (v5 : Int32) (v6 : Int32), k6 v2 v4 v5 v6 = some z → ∀ (H : Heap) (locs : List Loc) (ls : Array Slot), va_P (rf_D E) vwCl (cX E a P I J A B) H → va_S A0 s.heap H locs → lv_has ls 9 [(0, .ref (a 3)), (1, .ref (a 16)), (2, .int v2), (3, .ref (a 10)), (4, .int v4), (5, .int v5), (6, .int v6)] → W p l e ({ frames := 1, cells := 0, slots := 0, locals := 40 }) s m args below meth c H locs 0 0 (rf_QI below args s E A0 z (cX E a P I J A B)) (F0 m 6 ls [])) {k19 : Int32 → Int32 → Int32 → Int32 → Int32 → Option (Int32)} (hk19 : ∀ (v2 : Int32) (v4 : Int32) (v5 : Int32) (v6 : Int32) (v7 : Int32), k19 v2 v4 v5 v6 v7 = some z → ∀ (H : Heap) (locs : List Loc) (ls : Array Slot), va_P (rf_D E) vwCl (cX E a P I J A B) H → va_S A0 s.heap H locs → lv_has ls 9 [(0, .ref (a 3)), (1, .ref (a 16)), (2, .int v2), (3, .ref (a 10)), (4, .int v4), (5, .int v5), (6, .int v6), (7, .int v7)] → W p l e ({ frames := 1, cells := 0, slots := 0, locals := 40 }) s m args below meth c H locs 0 0 (rf_QI below args s E A0 z (cX E a P I J A B)) (F0 m 19 ls [])) :
    ∀ (v2 : Int32) (v4 : Int32) (v5 : Int32) (v6 : Int32) (v7 : Int32) (s0 : Int32) (s1 : Int32), f_X3_mostKeptIn_83 k6 k19 rhymes_links pairing_best tc_errands v2 v4 v5 v6 v7 s0 s1 = some z → ∀ (H : Heap) (locs : List Loc) (ls : Array Slot), va_P (rf_D E) vwCl (cX E a P I J A B) H → va_S A0 s.heap H locs → lv_has ls 9 [(0, .ref (a 3)), (1, .ref (a 16)), (2, .int v2), (3, .ref (a 10)), (4, .int v4), (5, .int v5), (6, .int v6), (7, .int v7)] → W p l e ({ frames := 1, cells := 0, slots := 0, locals := 40 }) s m args below meth c H locs 0 0 (rf_QI below args s E A0 z (cX E a P I J A B)) (F0 m 83 ls [.int s1, .int s0]) := by
  have hx := hC.1
  have hb := hC.2.1
  intro v2 v4 v5 v6 v7 s0 s1 hf H locs ls hP hS hl
  unfold f_X3_mostKeptIn_83 at hf
  refine lv_iadd hx hb dX3_mostKeptIn_83 ?_
  refine lv_istore (lv' := [(8, .int (s0 + s1)), (0, .ref (a 3)), (1, .ref (a 16)), (2, .int v2), (3, .ref (a 10)), (4, .int v4), (5, .int v5), (6, .int v6), (7, .int v7)]) hx hb dX3_mostKeptIn_84 hl (by decide) rfl (fun ls hl => ?_)
  refine lv_iload hx hb dX3_mostKeptIn_86 (lv_at hl 6 rfl) ?_
  refine lv_iload hx hb dX3_mostKeptIn_88 (lv_at hl 0 rfl) ?_
  refine lv_aload_n hx hb dX3_mostKeptIn_90 rfl (lv_at hl 1 rfl) ?_
  refine gX_pairing_best hC hP tw_215 dX3_mostKeptIn_91 ?_
  refine lv_iload_n hx hb dX3_mostKeptIn_94 rfl (lv_at hl 3 rfl) ?_
  refine lv_iconst (v := 1) hx hb dX3_mostKeptIn_95 (by decide) ?_
  refine lv_iload hx hb dX3_mostKeptIn_96 (lv_at hl 7 rfl) ?_
  refine lv_ishl hx hb dX3_mostKeptIn_98 ?_
  refine lv_iconst (v := (-1)) hx hb dX3_mostKeptIn_99 (by decide) ?_
  refine lv_ixor hx hb dX3_mostKeptIn_100 ?_
  refine lv_iand hx hb dX3_mostKeptIn_101 ?_
  refine lv_iconst (v := 1) hx hb dX3_mostKeptIn_102 (by decide) ?_
  refine lv_iload hx hb dX3_mostKeptIn_103 (lv_at hl 8 rfl) ?_
  refine lv_ishl hx hb dX3_mostKeptIn_105 ?_
  refine lv_iconst (v := (-1)) hx hb dX3_mostKeptIn_106 (by decide) ?_
  refine lv_ixor hx hb dX3_mostKeptIn_107 ?_
  refine lv_iand hx hb dX3_mostKeptIn_108 ?_
  obtain ⟨hi_109, hf⟩ := rf_gu hf
  refine lX_pairing_best hC hP hi_109 (f := pairing_best) e_pairing_best dX3_mostKeptIn_109 ?_
  refine lv_iadd hx hb dX3_mostKeptIn_110 ?_
  refine va_mmax hx hb (by rw [hC.2.2.1]; exact hl.1.symm) hC.2.2.2.1 (hC.2.2.2.2.1 _ tw_918) (hC.2.2.2.2.1 _ rf_max.1) (hC.2.2.2.2.1 _ rf_max.2.1) (hC.2.2.2.2.1 _ rf_max.2.2) (Nat.le_of_ble_eq_true rfl) (Nat.le_of_ble_eq_true rfl) (Nat.zero_le _) (Nat.zero_le _) dX3_mostKeptIn_111 ?_
  refine lv_istore (lv' := [(5, .int (if v5 < ((s0 + s1) + (pairing_best (Int32.toNatClampNeg ((v2 &&& (((1 : Int32) <<< (v6 &&& 31)) ^^^ (-1))) &&& (((1 : Int32) <<< (v7 &&& 31)) ^^^ (-1)))))) then ((s0 + s1) + (pairing_best (Int32.toNatClampNeg ((v2 &&& (((1 : Int32) <<< (v6 &&& 31)) ^^^ (-1))) &&& (((1 : Int32) <<< (v7 &&& 31)) ^^^ (-1)))))) else v5)), (8, .int (s0 + s1)), (0, .ref (a 3)), (1, .ref (a 16)), (2, .int v2), (3, .ref (a 10)), (4, .int v4), (6, .int v6), (7, .int v7)]) hx hb dX3_mostKeptIn_114 hl (by decide) rfl (fun ls hl => ?_)
  exact w_X3_mostKeptIn_116 hC hD e_rhymes_links e_pairing_best e_tc_errands hk6 hk19 v2 v4 (if v5 < ((s0 + s1) + (pairing_best (Int32.toNatClampNeg ((v2 &&& (((1 : Int32) <<< (v6 &&& 31)) ^^^ (-1))) &&& (((1 : Int32) <<< (v7 &&& 31)) ^^^ (-1)))))) then ((s0 + s1) + (pairing_best (Int32.toNatClampNeg ((v2 &&& (((1 : Int32) <<< (v6 &&& 31)) ^^^ (-1))) &&& (((1 : Int32) <<< (v7 &&& 31)) ^^^ (-1)))))) else v5) v6 v7 hf _ _ _ hP hS (lv_sub hl [2, 3, 4, 5, 6, 0, 7, 8] rfl)
set_option maxHeartbeats 4000000 in
set_option maxRecDepth 100000 in
theorem w_X3_mostKeptIn_66 {l : Launch} {p : Program} {e : Env} {s : State} {m : MethodId} {args : Array Value} {below : List Frame} {meth : Method} {c : Code} {A0 : Nat → Prop} {E : rf_E} {a P : Nat → Nat} {I : Nat → Int32} {J : Nat → Int64} {A : Nat → Nat → Int32} {B : Nat → Nat → Int64} {rhymes_links : Nat → Int32} {pairing_best : Nat → Int32} {tc_errands : Nat → Int32} {z : Int32} (hC : rf_C p E s m args meth c cX3_mostKeptIn 9 RX3 (some .int) A0) (hD : va_D A0 (cX E a P I J A B)) (e_rhymes_links : A 3 = rhymes_links) (e_pairing_best : A 5 = pairing_best) (e_tc_errands : A 16 = tc_errands) {k6 : Int32 → Int32 → Int32 → Int32 → Option (Int32)} (hk6 : ∀ (v2 : Int32) (v4 : Int32) (v5 : Int32) (v6 : Int32), k6 v2 v4 v5 v6 = some z → ∀ (H : Heap) (locs : List Loc) (ls : Array Slot), va_P (rf_D E) vwCl (cX E a P I J A B) H → va_S A0 s.heap H locs → lv_has ls 9 [(0, .ref (a 3)), (1, .ref (a 16)), (2, .int v2), (3, .ref (a 10)), (4, .int v4), (5, .int v5), (6, .int v6)] → W p l e ({ frames := 1, cells := 0, slots := 0, locals := 40 }) s m args below meth c H locs 0 0 (rf_QI below args s E A0 z (cX E a P I J A B)) (F0 m 6 ls [])) {k19 : Int32 → Int32 → Int32 → Int32 → Int32 → Option (Int32)} (hk19 : ∀ (v2 : Int32) (v4 : Int32) (v5 : Int32) (v6 : Int32) (v7 : Int32), k19 v2 v4 v5 v6 v7 = some z → ∀ (H : Heap) (locs : List Loc) (ls : Array Slot), va_P (rf_D E) vwCl (cX E a P I J A B) H → va_S A0 s.heap H locs → lv_has ls 9 [(0, .ref (a 3)), (1, .ref (a 16)), (2, .int v2), (3, .ref (a 10)), (4, .int v4), (5, .int v5), (6, .int v6), (7, .int v7)] → W p l e ({ frames := 1, cells := 0, slots := 0, locals := 40 }) s m args below meth c H locs 0 0 (rf_QI below args s E A0 z (cX E a P I J A B)) (F0 m 19 ls [])) :
    ∀ (v2 : Int32) (v4 : Int32) (v5 : Int32) (v6 : Int32) (v7 : Int32) (s0 : Int32), f_X3_mostKeptIn_66 k6 k19 rhymes_links pairing_best tc_errands v2 v4 v5 v6 v7 s0 = some z → ∀ (H : Heap) (locs : List Loc) (ls : Array Slot), va_P (rf_D E) vwCl (cX E a P I J A B) H → va_S A0 s.heap H locs → lv_has ls 9 [(0, .ref (a 3)), (1, .ref (a 16)), (2, .int v2), (3, .ref (a 10)), (4, .int v4), (5, .int v5), (6, .int v6), (7, .int v7)] → W p l e ({ frames := 1, cells := 0, slots := 0, locals := 40 }) s m args below meth c H locs 0 0 (rf_QI below args s E A0 z (cX E a P I J A B)) (F0 m 66 ls [.int s0]) := by
  have hx := hC.1
  have hb := hC.2.1
  intro v2 v4 v5 v6 v7 s0 hf H locs ls hP hS hl
  unfold f_X3_mostKeptIn_66 at hf
  refine lv_iload hx hb dX3_mostKeptIn_66 (lv_at hl 4 rfl) ?_
  refine lv_aload_n hx hb dX3_mostKeptIn_68 rfl (lv_at hl 3 rfl) ?_
  refine gX_tc_errands hC hP tw_100 dX3_mostKeptIn_69 ?_
  refine lv_iload hx hb dX3_mostKeptIn_72 (lv_at hl 7 rfl) ?_
  obtain ⟨hi_74, hf⟩ := rf_gu hf
  refine lX_tc_errands hC hP hi_74 (f := tc_errands) e_tc_errands dX3_mostKeptIn_74 ?_
  refine lv_icmp_gt (tgt := 82) hx hb dX3_mostKeptIn_75 (by decide) (fun c_75 => ?_) (fun c_75 => ?_)
  · have hf := rf_it c_75 hf
    refine lv_iconst (v := 0) hx hb dX3_mostKeptIn_82 (by decide) ?_
    exact w_X3_mostKeptIn_83 hC hD e_rhymes_links e_pairing_best e_tc_errands hk6 hk19 v2 v4 v5 v6 v7 s0 0 hf _ _ _ hP hS (lv_sub hl [0, 1, 2, 3, 4, 5, 6, 7] rfl)
  have hf := rf_ie c_75 hf
  refine lv_iconst (v := 1) hx hb dX3_mostKeptIn_78 (by decide) ?_
  refine lv_goto (tgt := 83) hx hb dX3_mostKeptIn_79 (by decide) ?_
  exact w_X3_mostKeptIn_83 hC hD e_rhymes_links e_pairing_best e_tc_errands hk6 hk19 v2 v4 v5 v6 v7 s0 1 hf _ _ _ hP hS (lv_sub hl [0, 1, 2, 3, 4, 5, 6, 7] rfl)
set_option maxHeartbeats 4000000 in
set_option maxRecDepth 100000 in
theorem w_X3_mostKeptIn_19 {l : Launch} {p : Program} {e : Env} {s : State} {m : MethodId} {args : Array Value} {below : List Frame} {meth : Method} {c : Code} {A0 : Nat → Prop} {E : rf_E} {a P : Nat → Nat} {I : Nat → Int32} {J : Nat → Int64} {A : Nat → Nat → Int32} {B : Nat → Nat → Int64} {rhymes_links : Nat → Int32} {pairing_best : Nat → Int32} {tc_errands : Nat → Int32} {z : Int32} (hC : rf_C p E s m args meth c cX3_mostKeptIn 9 RX3 (some .int) A0) (hD : va_D A0 (cX E a P I J A B)) (e_rhymes_links : A 3 = rhymes_links) (e_pairing_best : A 5 = pairing_best) (e_tc_errands : A 16 = tc_errands) {k6 : Int32 → Int32 → Int32 → Int32 → Option (Int32)} (hk6 : ∀ (v2 : Int32) (v4 : Int32) (v5 : Int32) (v6 : Int32), k6 v2 v4 v5 v6 = some z → ∀ (H : Heap) (locs : List Loc) (ls : Array Slot), va_P (rf_D E) vwCl (cX E a P I J A B) H → va_S A0 s.heap H locs → lv_has ls 9 [(0, .ref (a 3)), (1, .ref (a 16)), (2, .int v2), (3, .ref (a 10)), (4, .int v4), (5, .int v5), (6, .int v6)] → W p l e ({ frames := 1, cells := 0, slots := 0, locals := 40 }) s m args below meth c H locs 0 0 (rf_QI below args s E A0 z (cX E a P I J A B)) (F0 m 6 ls [])) :
    ∀ (n : Nat), ∀ (v2 : Int32) (v4 : Int32) (v5 : Int32) (v6 : Int32) (v7 : Int32), f_X3_mostKeptIn_19 k6 rhymes_links pairing_best tc_errands n v2 v4 v5 v6 v7 = some z → ∀ (H : Heap) (locs : List Loc) (ls : Array Slot), va_P (rf_D E) vwCl (cX E a P I J A B) H → va_S A0 s.heap H locs → lv_has ls 9 [(0, .ref (a 3)), (1, .ref (a 16)), (2, .int v2), (3, .ref (a 10)), (4, .int v4), (5, .int v5), (6, .int v6), (7, .int v7)] → W p l e ({ frames := 1, cells := 0, slots := 0, locals := 40 }) s m args below meth c H locs 0 0 (rf_QI below args s E A0 z (cX E a P I J A B)) (F0 m 19 ls []) := by
  have hx := hC.1
  have hb := hC.2.1
  intro n
  induction n with
  | zero =>
    intro v2 v4 v5 v6 v7 hf
    have hf : (none : Option (Int32)) = some z := hf
    cases hf
  | succ n ih =>
    intro v2 v4 v5 v6 v7 hf H locs ls hP hS hl
    rw [f_X3_mostKeptIn_19] at hf
    refine lv_iload hx hb dX3_mostKeptIn_19 (lv_at hl 7 rfl) ?_
    refine lv_bipush (v := 8) hx hb dX3_mostKeptIn_21 (by decide) ?_
    refine lv_icmp_ge (tgt := 122) hx hb dX3_mostKeptIn_23 (by decide) (fun c_23 => ?_) (fun c_23 => ?_)
    · have hf := rf_it c_23 hf
      refine lv_iinc (v := v6 + 1) (lv' := [(6, .int (v6 + 1)), (0, .ref (a 3)), (1, .ref (a 16)), (2, .int v2), (3, .ref (a 10)), (4, .int v4), (5, .int v5), (7, .int v7)]) hx hb dX3_mostKeptIn_122 hl (k := 6) rfl rfl (by decide) rfl (fun ls hl => ?_)
      refine lv_goto (tgt := 6) hx hb dX3_mostKeptIn_125 (by decide) ?_
      exact hk6 v2 v4 v5 (v6 + 1) hf _ _ _ hP hS (lv_sub hl [1, 2, 3, 4, 5, 6, 0] rfl)
    have hf := rf_ie c_23 hf
    refine lv_iload_n hx hb dX3_mostKeptIn_26 rfl (lv_at hl 2 rfl) ?_
    refine lv_iload hx hb dX3_mostKeptIn_27 (lv_at hl 6 rfl) ?_
    obtain ⟨z29, hz29, hf⟩ := rf_bd hf
    refine rf_sn0 hC (c_X10_holds l E v2 v6 hz29) kS_X10_holds nw_917 ⟨Nat.le_of_ble_eq_true rfl, Nat.le_of_ble_eq_true rfl⟩ rfl rfl hP hS rfl hl.1 (rest := []) rfl (Nat.le_of_ble_eq_true rfl) dX3_mostKeptIn_29 (fun H locs hP hS => ?_)
    refine lv_if_eq (tgt := 116) hx hb dX3_mostKeptIn_32 (by decide) (fun c_32 => ?_) (fun c_32 => ?_)
    · have hf := rf_it c_32 hf
      exact w_X3_mostKeptIn_116 hC hD e_rhymes_links e_pairing_best e_tc_errands hk6 ih v2 v4 v5 v6 v7 hf _ _ _ hP hS (lv_sub hl [0, 1, 2, 3, 4, 5, 6, 7] rfl)
    have hf := rf_ie c_32 hf
    refine lv_iload_n hx hb dX3_mostKeptIn_35 rfl (lv_at hl 2 rfl) ?_
    refine lv_aload_n hx hb dX3_mostKeptIn_36 rfl (lv_at hl 1 rfl) ?_
    refine lv_iload hx hb dX3_mostKeptIn_37 (lv_at hl 6 rfl) ?_
    obtain ⟨hi_39, hf⟩ := rf_gu hf
    refine lX_rhymes_links hC hP hi_39 (f := rhymes_links) e_rhymes_links dX3_mostKeptIn_39 ?_
    refine lv_iand hx hb dX3_mostKeptIn_40 ?_
    refine lv_iload hx hb dX3_mostKeptIn_41 (lv_at hl 7 rfl) ?_
    obtain ⟨z43, hz43, hf⟩ := rf_bd hf
    refine rf_sn0 hC (c_X10_holds l E (v2 &&& (rhymes_links (Int32.toNatClampNeg v6))) v7 hz43) kS_X10_holds nw_917 ⟨Nat.le_of_ble_eq_true rfl, Nat.le_of_ble_eq_true rfl⟩ rfl rfl hP hS rfl hl.1 (rest := []) rfl (Nat.le_of_ble_eq_true rfl) dX3_mostKeptIn_43 (fun H locs hP hS => ?_)
    refine lv_if_eq (tgt := 116) hx hb dX3_mostKeptIn_46 (by decide) (fun c_46 => ?_) (fun c_46 => ?_)
    · have hf := rf_it c_46 hf
      exact w_X3_mostKeptIn_116 hC hD e_rhymes_links e_pairing_best e_tc_errands hk6 ih v2 v4 v5 v6 v7 hf _ _ _ hP hS (lv_sub hl [0, 1, 2, 3, 4, 5, 6, 7] rfl)
    have hf := rf_ie c_46 hf
    refine lv_iload hx hb dX3_mostKeptIn_49 (lv_at hl 4 rfl) ?_
    refine lv_aload_n hx hb dX3_mostKeptIn_51 rfl (lv_at hl 3 rfl) ?_
    refine gX_tc_errands hC hP tw_100 dX3_mostKeptIn_52 ?_
    refine lv_iload hx hb dX3_mostKeptIn_55 (lv_at hl 6 rfl) ?_
    obtain ⟨hi_57, hf⟩ := rf_gu hf
    refine lX_tc_errands hC hP hi_57 (f := tc_errands) e_tc_errands dX3_mostKeptIn_57 ?_
    refine lv_icmp_gt (tgt := 65) hx hb dX3_mostKeptIn_58 (by decide) (fun c_58 => ?_) (fun c_58 => ?_)
    · have hf := rf_it c_58 hf
      refine lv_iconst (v := 0) hx hb dX3_mostKeptIn_65 (by decide) ?_
      exact w_X3_mostKeptIn_66 hC hD e_rhymes_links e_pairing_best e_tc_errands hk6 ih v2 v4 v5 v6 v7 0 hf _ _ _ hP hS (lv_sub hl [0, 1, 2, 3, 4, 5, 6, 7] rfl)
    have hf := rf_ie c_58 hf
    refine lv_iconst (v := 1) hx hb dX3_mostKeptIn_61 (by decide) ?_
    refine lv_goto (tgt := 66) hx hb dX3_mostKeptIn_62 (by decide) ?_
    exact w_X3_mostKeptIn_66 hC hD e_rhymes_links e_pairing_best e_tc_errands hk6 ih v2 v4 v5 v6 v7 1 hf _ _ _ hP hS (lv_sub hl [0, 1, 2, 3, 4, 5, 6, 7] rfl)
set_option maxHeartbeats 4000000 in
set_option maxRecDepth 100000 in
theorem w_X3_mostKeptIn_6 {l : Launch} {p : Program} {e : Env} {s : State} {m : MethodId} {args : Array Value} {below : List Frame} {meth : Method} {c : Code} {A0 : Nat → Prop} {E : rf_E} {a P : Nat → Nat} {I : Nat → Int32} {J : Nat → Int64} {A : Nat → Nat → Int32} {B : Nat → Nat → Int64} {rhymes_links : Nat → Int32} {pairing_best : Nat → Int32} {tc_errands : Nat → Int32} {z : Int32} (hC : rf_C p E s m args meth c cX3_mostKeptIn 9 RX3 (some .int) A0) (hD : va_D A0 (cX E a P I J A B)) (e_rhymes_links : A 3 = rhymes_links) (e_pairing_best : A 5 = pairing_best) (e_tc_errands : A 16 = tc_errands) :
    ∀ (n : Nat), ∀ (v2 : Int32) (v4 : Int32) (v5 : Int32) (v6 : Int32), f_X3_mostKeptIn_6 rhymes_links pairing_best tc_errands n v2 v4 v5 v6 = some z → ∀ (H : Heap) (locs : List Loc) (ls : Array Slot), va_P (rf_D E) vwCl (cX E a P I J A B) H → va_S A0 s.heap H locs → lv_has ls 9 [(0, .ref (a 3)), (1, .ref (a 16)), (2, .int v2), (3, .ref (a 10)), (4, .int v4), (5, .int v5), (6, .int v6)] → W p l e ({ frames := 1, cells := 0, slots := 0, locals := 40 }) s m args below meth c H locs 0 0 (rf_QI below args s E A0 z (cX E a P I J A B)) (F0 m 6 ls []) := by
  have hx := hC.1
  have hb := hC.2.1
  intro n
  induction n with
  | zero =>
    intro v2 v4 v5 v6 hf
    have hf : (none : Option (Int32)) = some z := hf
    cases hf
  | succ n ih =>
    intro v2 v4 v5 v6 hf H locs ls hP hS hl
    rw [f_X3_mostKeptIn_6] at hf
    refine lv_iload hx hb dX3_mostKeptIn_6 (lv_at hl 6 rfl) ?_
    refine lv_bipush (v := 8) hx hb dX3_mostKeptIn_8 (by decide) ?_
    refine lv_icmp_ge (tgt := 128) hx hb dX3_mostKeptIn_10 (by decide) (fun c_10 => ?_) (fun c_10 => ?_)
    · have hf := rf_it c_10 hf
      refine lv_iload hx hb dX3_mostKeptIn_128 (lv_at hl 5 rfl) ?_
      obtain rfl := Option.some.inj hf
      exact rf_reti hC hP hS rfl rfl dX3_mostKeptIn_130
    have hf := rf_ie c_10 hf
    refine lv_iload hx hb dX3_mostKeptIn_13 (lv_at hl 6 rfl) ?_
    refine lv_iconst (v := 1) hx hb dX3_mostKeptIn_15 (by decide) ?_
    refine lv_iadd hx hb dX3_mostKeptIn_16 ?_
    refine lv_istore (lv' := [(7, .int (v6 + 1)), (0, .ref (a 3)), (1, .ref (a 16)), (2, .int v2), (3, .ref (a 10)), (4, .int v4), (5, .int v5), (6, .int v6)]) hx hb dX3_mostKeptIn_17 hl (by decide) rfl (fun ls hl => ?_)
    exact w_X3_mostKeptIn_19 hC hD e_rhymes_links e_pairing_best e_tc_errands ih rf_fu v2 v4 v5 v6 (v6 + 1) hf _ _ _ hP hS (lv_sub hl [1, 2, 3, 4, 5, 6, 7, 0] rfl)
set_option maxHeartbeats 4000000 in
set_option maxRecDepth 100000 in
theorem c_X3_mostKeptIn (l : Launch) (E : rf_E) (a P : Nat → Nat) (I : Nat → Int32) (J : Nat → Int64) (A : Nat → Nat → Int32) (B : Nat → Nat → Int64) (rhymes_links : Nat → Int32) (pairing_best : Nat → Int32) (tc_errands : Nat → Int32) (v2 : Int32) (v4 : Int32) {z : Int32} (e_rhymes_links : A 3 = rhymes_links) (e_pairing_best : A 5 = pairing_best) (e_tc_errands : A 16 = tc_errands) (hf : f_X3_mostKeptIn rhymes_links pairing_best tc_errands v2 v4 = some z) : rf_MI l yX3_mostKeptIn cX3_mostKeptIn 9 (some .int) ({ frames := 1, cells := 0, slots := 0, locals := 40 }) E [.ref (a 3), .ref (a 16), .int v2, .ref (a 10), .int v4] (cX E a P I J A B) z (cX E a P I J A B) := by
  unfold f_X3_mostKeptIn at hf
  refine rf_ofI (by decide) (Nat.le_of_ble_eq_true rfl) ?_
  intro p e s m below meth c A0 ls hC hD hP hS hl
  have hC : rf_C p E s m _ meth c cX3_mostKeptIn 9 RX3 (some .int) A0 := hC
  have hx := hC.1
  have hb := hC.2.1
  have hl : lv_has ls 9 [(0, .ref (a 3)), (1, .ref (a 16)), (2, .int v2), (3, .ref (a 10)), (4, .int v4)] := hl
  refine lv_iconst (v := 0) hx hb dX3_mostKeptIn_0 (by decide) ?_
  refine lv_istore (lv' := [(5, .int 0), (0, .ref (a 3)), (1, .ref (a 16)), (2, .int v2), (3, .ref (a 10)), (4, .int v4)]) hx hb dX3_mostKeptIn_1 hl (by decide) rfl (fun ls hl => ?_)
  refine lv_iconst (v := 0) hx hb dX3_mostKeptIn_3 (by decide) ?_
  refine lv_istore (lv' := [(6, .int 0), (5, .int 0), (0, .ref (a 3)), (1, .ref (a 16)), (2, .int v2), (3, .ref (a 10)), (4, .int v4)]) hx hb dX3_mostKeptIn_4 hl (by decide) rfl (fun ls hl => ?_)
  exact w_X3_mostKeptIn_6 hC hD e_rhymes_links e_pairing_best e_tc_errands rf_fu v2 v4 0 0 hf _ _ _ hP hS (lv_sub hl [2, 3, 4, 5, 6, 1, 0] rfl)
set_option maxHeartbeats 4000000 in
set_option maxRecDepth 100000 in
theorem w_X3_mostKept_89 {l : Launch} {p : Program} {e : Env} {s : State} {m : MethodId} {args : Array Value} {below : List Frame} {meth : Method} {c : Code} {A0 : Nat → Prop} {E : rf_E} {a P : Nat → Nat} {I : Nat → Int32} {J : Nat → Int64} {A : Nat → Nat → Int32} {B : Nat → Nat → Int64} {tc_pairs : Int32} {rhymes_links : Nat → Int32} {tc_errands : Nat → Int32} {z : Int32 × (Nat → Int32)} (hC : rf_C p E s m args meth c cX3_mostKept 8 RX3 (some .int) A0) (hD : va_D A0 (cX E a P I J A B)) (e_tc_pairs : I 22 = tc_pairs) (e_rhymes_links : A 3 = rhymes_links) (e_tc_errands : A 16 = tc_errands) :
    ∀ (v2 : Int32) (pairing_best : Nat → Int32), f_X3_mostKept_89 tc_pairs rhymes_links tc_errands v2 pairing_best = some z → ∀ (H : Heap) (locs : List Loc) (ls : Array Slot), va_P (rf_D E) vwCl (cX E a P I J (rf_upL A [(5, pairing_best)]) B) H → va_S A0 s.heap H locs → lv_has ls 8 [(0, .ref (a 3)), (2, .int v2)] → W p l e ({ frames := 2, cells := 0, slots := 0, locals := 68 }) s m args below meth c H locs 0 0 (rf_QI below args s E A0 z.1 (cX E a P I J (rf_upL A [(5, z.2)]) B)) (F0 m 89 ls []) := by
  have hx := hC.1
  have hb := hC.2.1
  intro v2 pairing_best hf H locs ls hP hS hl
  unfold f_X3_mostKept_89 at hf
  refine lv_aload_n hx hb dX3_mostKept_89 rfl (lv_at hl 0 rfl) ?_
  refine gX_pairing_best hC hP tw_215 dX3_mostKept_90 ?_
  refine lv_iload_n hx hb dX3_mostKept_93 rfl (lv_at hl 1 rfl) ?_
  refine lv_sipush (v := 255) hx hb dX3_mostKept_94 (by decide) ?_
  refine lv_iand hx hb dX3_mostKept_97 ?_
  obtain ⟨hi_98, hf⟩ := rf_gu hf
  refine lX_pairing_best hC hP hi_98 (f := pairing_best) rfl dX3_mostKept_98 ?_
  obtain rfl := Option.some.inj hf
  exact rf_reti hC hP hS rfl rfl dX3_mostKept_99
set_option maxHeartbeats 4000000 in
set_option maxRecDepth 100000 in
theorem w_X3_mostKept_83 {l : Launch} {p : Program} {e : Env} {s : State} {m : MethodId} {args : Array Value} {below : List Frame} {meth : Method} {c : Code} {A0 : Nat → Prop} {E : rf_E} {a P : Nat → Nat} {I : Nat → Int32} {J : Nat → Int64} {A : Nat → Nat → Int32} {B : Nat → Nat → Int64} {tc_pairs : Int32} {rhymes_links : Nat → Int32} {tc_errands : Nat → Int32} {z : Int32 × (Nat → Int32)} (hC : rf_C p E s m args meth c cX3_mostKept 8 RX3 (some .int) A0) (hD : va_D A0 (cX E a P I J A B)) (e_tc_pairs : I 22 = tc_pairs) (e_rhymes_links : A 3 = rhymes_links) (e_tc_errands : A 16 = tc_errands) {k9 : Int32 → Int32 → Int32 → (Nat → Int32) → Option (Int32 × (Nat → Int32))} (hk9 : ∀ (v2 : Int32) (v4 : Int32) (v5 : Int32) (pairing_best : Nat → Int32), k9 v2 v4 v5 pairing_best = some z → ∀ (H : Heap) (locs : List Loc) (ls : Array Slot), va_P (rf_D E) vwCl (cX E a P I J (rf_upL A [(5, pairing_best)]) B) H → va_S A0 s.heap H locs → lv_has ls 8 [(0, .ref (a 3)), (1, .ref (a 16)), (2, .int v2), (3, .ref (a 10)), (4, .int v4), (5, .int v5)] → W p l e ({ frames := 2, cells := 0, slots := 0, locals := 68 }) s m args below meth c H locs 0 0 (rf_QI below args s E A0 z.1 (cX E a P I J (rf_upL A [(5, z.2)]) B)) (F0 m 9 ls [])) :
    ∀ (v2 : Int32) (v4 : Int32) (v5 : Int32) (pairing_best : Nat → Int32), f_X3_mostKept_83 k9 tc_pairs rhymes_links tc_errands v2 v4 v5 pairing_best = some z → ∀ (H : Heap) (locs : List Loc) (ls : Array Slot), va_P (rf_D E) vwCl (cX E a P I J (rf_upL A [(5, pairing_best)]) B) H → va_S A0 s.heap H locs → lv_has ls 8 [(0, .ref (a 3)), (1, .ref (a 16)), (2, .int v2), (3, .ref (a 10)), (4, .int v4), (5, .int v5)] → W p l e ({ frames := 2, cells := 0, slots := 0, locals := 68 }) s m args below meth c H locs 0 0 (rf_QI below args s E A0 z.1 (cX E a P I J (rf_upL A [(5, z.2)]) B)) (F0 m 83 ls []) := by
  have hx := hC.1
  have hb := hC.2.1
  intro v2 v4 v5 pairing_best hf H locs ls hP hS hl
  unfold f_X3_mostKept_83 at hf
  refine lv_iinc (v := v5 + 1) (lv' := [(5, .int (v5 + 1)), (0, .ref (a 3)), (1, .ref (a 16)), (2, .int v2), (3, .ref (a 10)), (4, .int v4)]) hx hb dX3_mostKept_83 hl (k := 5) rfl rfl (by decide) rfl (fun ls hl => ?_)
  refine lv_goto (tgt := 9) hx hb dX3_mostKept_86 (by decide) ?_
  exact hk9 v2 v4 (v5 + 1) pairing_best hf _ _ _ hP hS (lv_sub hl [1, 2, 3, 4, 5, 0] rfl)
set_option maxHeartbeats 4000000 in
set_option maxRecDepth 100000 in
theorem w_X3_mostKept_9 {l : Launch} {p : Program} {e : Env} {s : State} {m : MethodId} {args : Array Value} {below : List Frame} {meth : Method} {c : Code} {A0 : Nat → Prop} {E : rf_E} {a P : Nat → Nat} {I : Nat → Int32} {J : Nat → Int64} {A : Nat → Nat → Int32} {B : Nat → Nat → Int64} {tc_pairs : Int32} {rhymes_links : Nat → Int32} {tc_errands : Nat → Int32} {z : Int32 × (Nat → Int32)} (hC : rf_C p E s m args meth c cX3_mostKept 8 RX3 (some .int) A0) (hD : va_D A0 (cX E a P I J A B)) (e_tc_pairs : I 22 = tc_pairs) (e_rhymes_links : A 3 = rhymes_links) (e_tc_errands : A 16 = tc_errands) :
    ∀ (n : Nat), ∀ (v2 : Int32) (v4 : Int32) (v5 : Int32) (pairing_best : Nat → Int32), f_X3_mostKept_9 tc_pairs rhymes_links tc_errands n v2 v4 v5 pairing_best = some z → ∀ (H : Heap) (locs : List Loc) (ls : Array Slot), va_P (rf_D E) vwCl (cX E a P I J (rf_upL A [(5, pairing_best)]) B) H → va_S A0 s.heap H locs → lv_has ls 8 [(0, .ref (a 3)), (1, .ref (a 16)), (2, .int v2), (3, .ref (a 10)), (4, .int v4), (5, .int v5)] → W p l e ({ frames := 2, cells := 0, slots := 0, locals := 68 }) s m args below meth c H locs 0 0 (rf_QI below args s E A0 z.1 (cX E a P I J (rf_upL A [(5, z.2)]) B)) (F0 m 9 ls []) := by
  have hx := hC.1
  have hb := hC.2.1
  intro n
  induction n with
  | zero =>
    intro v2 v4 v5 pairing_best hf
    have hf : (none : Option (Int32 × (Nat → Int32))) = some z := hf
    cases hf
  | succ n ih =>
    intro v2 v4 v5 pairing_best hf H locs ls hP hS hl
    rw [f_X3_mostKept_9] at hf
    refine lv_iload hx hb dX3_mostKept_9 (lv_at hl 5 rfl) ?_
    refine lv_iload_n hx hb dX3_mostKept_11 rfl (lv_at hl 2 rfl) ?_
    refine lv_icmp_gt (tgt := 89) hx hb dX3_mostKept_12 (by decide) (fun c_12 => ?_) (fun c_12 => ?_)
    · have hf := rf_it c_12 hf
      exact w_X3_mostKept_89 hC hD e_tc_pairs e_rhymes_links e_tc_errands v2 pairing_best hf _ _ _ hP hS (lv_sub hl [0, 2] rfl)
    have hf := rf_ie c_12 hf
    refine lv_iload hx hb dX3_mostKept_15 (lv_at hl 5 rfl) ?_
    refine lv_sipush (v := 256) hx hb dX3_mostKept_17 (by decide) ?_
    refine lv_icmp_ge (tgt := 89) hx hb dX3_mostKept_20 (by decide) (fun c_20 => ?_) (fun c_20 => ?_)
    · have hf := rf_it c_20 hf
      exact w_X3_mostKept_89 hC hD e_tc_pairs e_rhymes_links e_tc_errands v2 pairing_best hf _ _ _ hP hS (lv_sub hl [0, 2] rfl)
    have hf := rf_ie c_20 hf
    refine lv_iload hx hb dX3_mostKept_23 (lv_at hl 4 rfl) ?_
    refine lv_iload hx hb dX3_mostKept_25 (lv_at hl 5 rfl) ?_
    obtain ⟨z27, hz27, hf⟩ := rf_bd hf
    refine rf_si0 hC (c_J6_bitCount_0f7a4 l E v5 hz27) kS_J6_bitCount_0f7a4 tw_949 ⟨Nat.le_of_ble_eq_true rfl, Nat.le_of_ble_eq_true rfl⟩ rfl rfl hP hS rfl hl.1 (rest := [.int v4]) rfl (Nat.le_of_ble_eq_true rfl) dX3_mostKept_27 (fun H locs hP hS => ?_)
    refine lv_isub hx hb dX3_mostKept_30 ?_
    refine lv_istore (lv' := [(6, .int (v4 - z27)), (0, .ref (a 3)), (1, .ref (a 16)), (2, .int v2), (3, .ref (a 10)), (4, .int v4), (5, .int v5)]) hx hb dX3_mostKept_31 hl (by decide) rfl (fun ls hl => ?_)
    refine lv_iload hx hb dX3_mostKept_33 (lv_at hl 6 rfl) ?_
    refine lv_iload_n hx hb dX3_mostKept_35 rfl (lv_at hl 3 rfl) ?_
    refine lv_iconst (v := (-1)) hx hb dX3_mostKept_36 (by decide) ?_
    refine lv_ixor hx hb dX3_mostKept_37 ?_
    refine lv_iand hx hb dX3_mostKept_38 ?_
    refine lv_if_ne (tgt := 83) hx hb dX3_mostKept_39 (by decide) (fun c_39 => ?_) (fun c_39 => ?_)
    · have hf := rf_ie c_39 hf
      exact w_X3_mostKept_83 hC hD e_tc_pairs e_rhymes_links e_tc_errands ih v2 v4 v5 pairing_best hf _ _ _ hP hS (lv_sub hl [1, 2, 3, 4, 5, 6] rfl)
    have hf := rf_it c_39 hf
    refine lv_iload hx hb dX3_mostKept_42 (lv_at hl 0 rfl) ?_
    refine lv_iconst (v := 2) hx hb dX3_mostKept_44 (by decide) ?_
    refine lv_irem hx hb dX3_mostKept_45 (by decide) ?_
    refine lv_if_ne (tgt := 83) hx hb dX3_mostKept_46 (by decide) (fun c_46 => ?_) (fun c_46 => ?_)
    · have hf := rf_ie c_46 hf
      exact w_X3_mostKept_83 hC hD e_tc_pairs e_rhymes_links e_tc_errands ih v2 v4 v5 pairing_best hf _ _ _ hP hS (lv_sub hl [1, 2, 3, 4, 5, 6] rfl)
    have hf := rf_it c_46 hf
    refine lv_iload hx hb dX3_mostKept_49 (lv_at hl 0 rfl) ?_
    refine lv_iconst (v := 2) hx hb dX3_mostKept_51 (by decide) ?_
    refine lv_idiv hx hb dX3_mostKept_52 (by decide) ?_
    refine lv_iconst (v := 1) hx hb dX3_mostKept_53 (by decide) ?_
    refine lv_aload_n hx hb dX3_mostKept_54 rfl (lv_at hl 4 rfl) ?_
    refine gX_tc_pairs hC hP tw_118 (v := tc_pairs) e_tc_pairs dX3_mostKept_55 ?_
    refine va_mmax hx hb (by rw [hC.2.2.1]; exact hl.1.symm) hC.2.2.2.1 (hC.2.2.2.2.1 _ tw_918) (hC.2.2.2.2.1 _ rf_max.1) (hC.2.2.2.2.1 _ rf_max.2.1) (hC.2.2.2.2.1 _ rf_max.2.2) (Nat.le_of_ble_eq_true rfl) (Nat.le_of_ble_eq_true rfl) (Nat.zero_le _) (Nat.zero_le _) dX3_mostKept_58 ?_
    obtain ⟨hn_61, hf⟩ := rf_gn hf
    refine lv_idiv hx hb dX3_mostKept_61 hn_61 ?_
    refine lv_iconst (v := 1) hx hb dX3_mostKept_62 (by decide) ?_
    refine lv_iadd hx hb dX3_mostKept_63 ?_
    refine lv_istore (lv' := [(7, .int ((((v4 - z27) / 2) / (if 1 < tc_pairs then tc_pairs else 1)) + 1)), (6, .int (v4 - z27)), (0, .ref (a 3)), (1, .ref (a 16)), (2, .int v2), (3, .ref (a 10)), (4, .int v4), (5, .int v5)]) hx hb dX3_mostKept_64 hl (by decide) rfl (fun ls hl => ?_)
    refine lv_aload_n hx hb dX3_mostKept_66 rfl (lv_at hl 2 rfl) ?_
    refine gX_pairing_best hC hP tw_215 dX3_mostKept_67 ?_
    refine lv_iload hx hb dX3_mostKept_70 (lv_at hl 7 rfl) ?_
    refine lv_aload_n hx hb dX3_mostKept_72 rfl (lv_at hl 2 rfl) ?_
    refine lv_aload_n hx hb dX3_mostKept_73 rfl (lv_at hl 3 rfl) ?_
    refine lv_iload hx hb dX3_mostKept_74 (lv_at hl 7 rfl) ?_
    refine lv_aload_n hx hb dX3_mostKept_76 rfl (lv_at hl 5 rfl) ?_
    refine lv_iload hx hb dX3_mostKept_77 (lv_at hl 0 rfl) ?_
    obtain ⟨z79, hz79, hf⟩ := rf_bd hf
    refine rf_vi (q0 := 3) (ci := 3) hC (c_X3_mostKeptIn l E a P I J (rf_upL A [(5, pairing_best)]) B rhymes_links pairing_best tc_errands v5 ((((v4 - z27) / 2) / (if 1 < tc_pairs then tc_pairs else 1)) + 1) e_rhymes_links rfl e_tc_errands hz79) kV_X3_mostKeptIn tw_950 ⟨Nat.le_of_ble_eq_true rfl, Nat.le_of_ble_eq_true rfl⟩ rfl rfl rfl rfl rfl hP (rf_DX hD) hS rfl hl.1 (rest := [.int v5, .ref (a 18)]) rfl (Nat.le_of_ble_eq_true rfl) dX3_mostKept_79 (fun H locs hP hS => ?_)
    obtain ⟨hi_82, hf⟩ := rf_gu hf
    refine sX_pairing_best hC hD hP hS hi_82 (f := pairing_best) rfl dX3_mostKept_82 (rf_upL A [(5, upd pairing_best (Int32.toNatClampNeg v5) z79)]) (rf_put rfl) (fun H locs hP hS => ?_)
    exact w_X3_mostKept_83 hC hD e_tc_pairs e_rhymes_links e_tc_errands ih v2 v4 v5 (upd pairing_best (Int32.toNatClampNeg v5) z79) hf _ _ _ hP hS (lv_sub hl [2, 3, 4, 5, 6, 7] rfl)
set_option maxHeartbeats 4000000 in
set_option maxRecDepth 100000 in
theorem c_X3_mostKept (l : Launch) (E : rf_E) (a P : Nat → Nat) (I : Nat → Int32) (J : Nat → Int64) (A : Nat → Nat → Int32) (B : Nat → Nat → Int64) (tc_pairs : Int32) (rhymes_links : Nat → Int32) (tc_errands : Nat → Int32) (pairing_best : Nat → Int32) (v2 : Int32) {z : Int32 × (Nat → Int32)} (e_tc_pairs : I 22 = tc_pairs) (e_rhymes_links : A 3 = rhymes_links) (e_tc_errands : A 16 = tc_errands) (e_pairing_best : A 5 = pairing_best) (hf : f_X3_mostKept tc_pairs rhymes_links tc_errands pairing_best v2 = some z) : rf_MI l yX3_mostKept cX3_mostKept 8 (some .int) ({ frames := 2, cells := 0, slots := 0, locals := 68 }) E [.ref (a 3), .ref (a 16), .int v2, .ref (a 10)] (cX E a P I J A B) z.1 (cX E a P I J (rf_upL A [(5, z.2)]) B) := by
  unfold f_X3_mostKept at hf
  refine rf_ofI (by decide) (Nat.le_of_ble_eq_true rfl) ?_
  intro p e s m below meth c A0 ls hC hD hP hS hl
  have hC : rf_C p E s m _ meth c cX3_mostKept 8 RX3 (some .int) A0 := hC
  have hx := hC.1
  have hb := hC.2.1
  have hl : lv_has ls 8 [(0, .ref (a 3)), (1, .ref (a 16)), (2, .int v2), (3, .ref (a 10))] := hl
  have hP : va_P (rf_D E) vwCl (cX E a P I J (rf_upL A [(5, pairing_best)]) B) s.heap := by
    rw [rf_self (f := A) [(5, pairing_best)] (rf_fa1 e_pairing_best rf_fa0)]
    exact hP
  refine lv_iload_n hx hb dX3_mostKept_0 rfl (lv_at hl 2 rfl) ?_
  obtain ⟨z1, hz1, hf⟩ := rf_bd hf
  refine rf_si0 hC (c_J6_bitCount_0f7a4 l E v2 hz1) kS_J6_bitCount_0f7a4 tw_949 ⟨Nat.le_of_ble_eq_true rfl, Nat.le_of_ble_eq_true rfl⟩ rfl rfl hP hS rfl hl.1 (rest := []) rfl (Nat.le_of_ble_eq_true rfl) dX3_mostKept_1 (fun H locs hP hS => ?_)
  refine lv_istore (lv' := [(4, .int z1), (0, .ref (a 3)), (1, .ref (a 16)), (2, .int v2), (3, .ref (a 10))]) hx hb dX3_mostKept_4 hl (by decide) rfl (fun ls hl => ?_)
  refine lv_iconst (v := 0) hx hb dX3_mostKept_6 (by decide) ?_
  refine lv_istore (lv' := [(5, .int 0), (4, .int z1), (0, .ref (a 3)), (1, .ref (a 16)), (2, .int v2), (3, .ref (a 10))]) hx hb dX3_mostKept_7 hl (by decide) rfl (fun ls hl => ?_)
  exact w_X3_mostKept_9 hC hD e_tc_pairs e_rhymes_links e_tc_errands rf_fu v2 z1 0 pairing_best hf _ _ _ hP hS (lv_sub hl [2, 3, 4, 5, 1, 0] rfl)
