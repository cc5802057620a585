set_option maxHeartbeats 4000000 in
set_option maxRecDepth 100000 in
theorem c_X10_coins (l : Launch) (E : rf_E) (a P : Nat → Nat) (I : Nat → Int32) (J : Nat → Int64) (A : Nat → Nat → Int32) (B : Nat → Nat → Int64) (now_everybody : Int32) (now_far : Int32) (tc_ear : Int32) (tc_wordCount : Int32) (tc_personCount : Int32) (now_words : Nat → Int32) (tc_prices : Nat → Int32) (tc_kinds : Nat → Int32) (tc_hourEars : Nat → Int32) (tc_close : Nat → Int32) (x_lastTrouble : Int32) (pairing_best : Nat → Int32) (purse_coins : Nat → Int32) (v1 : Int32) (v2 : Int32) {z : Int32 × Int32 × (Nat → Int32) × (Nat → Int32)} (hp0 : P 0 = a 10) (hp2 : P 2 = a 10) (e_now_everybody : I 6 = now_everybody) (e_now_far : I 7 = now_far) (e_tc_ear : I 21 = tc_ear) (e_tc_wordCount : I 23 = tc_wordCount) (e_tc_personCount : I 24 = tc_personCount) (e_now_words : A 1 = now_words) (e_tc_prices : A 13 = tc_prices) (e_tc_kinds : A 14 = tc_kinds) (e_tc_hourEars : A 18 = tc_hourEars) (e_tc_close : A 22 = tc_close) (e_x_lastTrouble : I 3 = x_lastTrouble) (e_pairing_best : A 5 = pairing_best) (e_purse_coins : A 6 = purse_coins) (hf : f_X10_coins now_everybody now_far tc_ear tc_wordCount tc_personCount now_words tc_prices tc_kinds tc_hourEars tc_close x_lastTrouble pairing_best purse_coins v1 v2 = some z) : rf_MI l yX10_coins cX10_coins 3 (some .int) ({ frames := 5, cells := 0, slots := 0, locals := 117 }) E [.ref (a 0), .int v1, .int v2] (cX E a P I J A B) z.1 (cX E a P (rf_upL I [(3, z.2.1)]) J (rf_upL A [(5, z.2.2.1), (6, z.2.2.2)]) B) := by
  unfold f_X10_coins at hf
  refine rf_ofI (by decide) (Nat.le_of_ble_eq_true rfl) ?_
  intro p e s m below meth c A0 ls hC hD hP hS hl
  have hC : rf_C p E s m _ meth c cX10_coins 3 RX10 (some .int) A0 := hC
  have hx := hC.1
  have hb := hC.2.1
  have hl : lv_has ls 3 [(0, .ref (a 0)), (1, .int v1), (2, .int v2)] := hl
  have hP : va_P (rf_D E) vwCl (cX E a P (rf_upL I [(3, x_lastTrouble)]) J (rf_upL A [(5, pairing_best), (6, purse_coins)]) B) s.heap := by
    rw [rf_self (f := I) [(3, x_lastTrouble)] (rf_fa1 e_x_lastTrouble rf_fa0)]
    rw [rf_self (f := A) [(5, pairing_best), (6, purse_coins)] (rf_fa1 e_pairing_best (rf_fa1 e_purse_coins rf_fa0))]
    exact hP
  refine lv_aload_n hx hb dX10_coins_0 rfl (lv_at hl 0 rfl) ?_
  refine lv_aload_n hx hb dX10_coins_1 rfl (lv_at hl 0 rfl) ?_
  refine lv_iload_n hx hb dX10_coins_2 rfl (lv_at hl 1 rfl) ?_
  obtain ⟨z3, hz3, hf⟩ := rf_bd hf
  refine rf_vi (q0 := 0) (ci := 10) hC (c_X10_isBank l E a P (rf_upL I [(3, x_lastTrouble)]) J (rf_upL A [(5, pairing_best), (6, purse_coins)]) B tc_personCount v1 hp0 e_tc_personCount hz3) kV_X10_isBank tw_901 ⟨Nat.le_of_ble_eq_true rfl, Nat.le_of_ble_eq_true rfl⟩ rfl rfl rfl rfl rfl hP (rf_DX hD) hS rfl hl.1 (rest := [.ref (a 0)]) rfl (Nat.le_of_ble_eq_true rfl) dX10_coins_3 (fun H locs hP hS => ?_)
  refine lv_aload_n hx hb dX10_coins_6 rfl (lv_at hl 0 rfl) ?_
  refine lv_iload_n hx hb dX10_coins_7 rfl (lv_at hl 2 rfl) ?_
  obtain ⟨z8, hz8, hf⟩ := rf_bd hf
  refine rf_vi (q0 := 0) (ci := 10) hC (c_X10_isHour l E a P (rf_upL I [(3, x_lastTrouble)]) J (rf_upL A [(5, pairing_best), (6, purse_coins)]) B v2 hz8) kV_X10_isHour tw_766 ⟨Nat.le_of_ble_eq_true rfl, Nat.le_of_ble_eq_true rfl⟩ rfl rfl rfl rfl rfl hP (rf_DX hD) hS rfl hl.1 (rest := [.int z3, .ref (a 0)]) rfl (Nat.le_of_ble_eq_true rfl) dX10_coins_8 (fun H locs hP hS => ?_)
  obtain ⟨z11, hz11, hf⟩ := rf_bd hf
  refine rf_vi (q0 := 0) (ci := 10) hC (c_X10_refused l E a P (rf_upL I [(3, x_lastTrouble)]) J (rf_upL A [(5, pairing_best), (6, purse_coins)]) B x_lastTrouble z3 z8 rfl hz11) kV_X10_refused tw_455 ⟨Nat.le_of_ble_eq_true rfl, Nat.le_of_ble_eq_true rfl⟩ rfl rfl rfl rfl rfl hP (rf_DX hD) hS rfl hl.1 (rest := []) rfl (Nat.le_of_ble_eq_true rfl) dX10_coins_11 (fun H locs hP hS => ?_)
  rw [rf_cat (f := I) (l := [(3, x_lastTrouble)]) (lc := [(3, z11.2)]) (l' := [(3, z11.2)]) rfl] at hP
  refine lv_if_eq (tgt := 19) hx hb dX10_coins_14 (by decide) (fun c_14 => ?_) (fun c_14 => ?_)
  · have hf := rf_it c_14 hf
    refine lv_aload_n hx hb dX10_coins_19 rfl (lv_at hl 0 rfl) ?_
    refine gX_x_purse hC hP tw_395 dX10_coins_20 ?_
    refine lv_aload_n hx hb dX10_coins_23 rfl (lv_at hl 0 rfl) ?_
    refine gX_x_now hC hP tw_392 dX10_coins_24 ?_
    refine lv_iload_n hx hb dX10_coins_27 rfl (lv_at hl 1 rfl) ?_
    obtain ⟨z28, hz28, hf⟩ := rf_bd hf
    refine rf_vi (q0 := 1) (ci := 2) hC (c_X2_onBank l E a P (rf_upL I [(3, z11.2)]) J (rf_upL A [(5, pairing_best), (6, purse_coins)]) B now_everybody now_far v1 e_now_everybody e_now_far hz28) kV_X2_onBank tw_905 ⟨Nat.le_of_ble_eq_true rfl, Nat.le_of_ble_eq_true rfl⟩ rfl rfl rfl rfl rfl hP (rf_DX hD) hS rfl hl.1 (rest := [.ref (a 4)]) rfl (Nat.le_of_ble_eq_true rfl) dX10_coins_28 (fun H locs hP hS => ?_)
    refine lv_aload_n hx hb dX10_coins_31 rfl (lv_at hl 0 rfl) ?_
    refine gX_x_tale hC hP tw_401 (v := a 10) hp0 dX10_coins_32 ?_
    refine lv_iload_n hx hb dX10_coins_35 rfl (lv_at hl 2 rfl) ?_
    obtain ⟨z36, hz36, hf⟩ := rf_bd hf
    refine rf_vi (q0 := 10) (ci := 9) hC (c_X9_earAt_tc l E a P (rf_upL I [(3, z11.2)]) J (rf_upL A [(5, pairing_best), (6, purse_coins)]) B tc_ear tc_hourEars v2 e_tc_ear e_tc_hourEars hz36) kV_X9_earAt tw_770 ⟨Nat.le_of_ble_eq_true rfl, Nat.le_of_ble_eq_true rfl⟩ rfl rfl rfl rfl rfl hP (rf_DX hD) hS rfl hl.1 (rest := [.int z28, .ref (a 4)]) rfl (Nat.le_of_ble_eq_true rfl) dX10_coins_36 (fun H locs hP hS => ?_)
    obtain ⟨z39, hz39, hf⟩ := rf_bd hf
    refine rf_vi (q0 := 4) (ci := 4) hC (c_X4_leastCoins l E a P (rf_upL I [(3, z11.2)]) J (rf_upL A [(5, pairing_best), (6, purse_coins)]) B tc_wordCount tc_personCount now_words tc_prices tc_kinds tc_close pairing_best purse_coins z28 z36 hp2 e_tc_wordCount e_tc_personCount e_now_words e_tc_prices e_tc_kinds e_tc_close rfl rfl hz39) kV_X4_leastCoins tw_967 ⟨Nat.le_of_ble_eq_true rfl, Nat.le_of_ble_eq_true rfl⟩ rfl rfl rfl rfl rfl hP (rf_DX hD) hS rfl hl.1 (rest := []) rfl (Nat.le_of_ble_eq_true rfl) dX10_coins_39 (fun H locs hP hS => ?_)
    rw [rf_cat (f := A) (l := [(5, pairing_best), (6, purse_coins)]) (lc := [(5, z39.2.1), (6, z39.2.2)]) (l' := [(5, z39.2.1), (6, z39.2.2)]) rfl] at hP
    obtain rfl := Option.some.inj hf
    exact rf_reti hC hP hS rfl rfl dX10_coins_42
  have hf := rf_ie c_14 hf
  refine lv_iconst (v := (-1)) hx hb dX10_coins_17 (by decide) ?_
  obtain rfl := Option.some.inj hf
  exact rf_reti hC hP hS rfl rfl dX10_coins_18
set_option maxHeartbeats 4000000 in
set_option maxRecDepth 100000 in
theorem w_X3_canAll_62 {l : Launch} {p : Program} {e : Env} {s : State} {m : MethodId} {args : Array Value} {below : List Frame} {meth : Method} {c : Code} {A0 : Nat → Prop} {E : rf_E} {a P : Nat → Nat} {I : Nat → Int32} {J : Nat → Int64} {A : Nat → Nat → Int32} {B : Nat → Nat → Int64} {purse_links : Nat → Int32} {d : Nat} {z : Int32} (hC : rf_C p E s m args meth c cX3_canAll 5 RX3 (some .boolean) A0) (hD : va_D A0 (cX E a P I J A B)) (e_purse_links : A 7 = purse_links) {slf : Int32 → Option (Int32)} (hslf : ∀ (a P : Nat → Nat) (I : Nat → Int32) (J : Nat → Int64) (A : Nat → Nat → Int32) (B : Nat → Nat → Int64) (v1 : Int32) {z1 : Int32} (e_purse_links : A 7 = purse_links), slf v1 = some z1 → rf_MI l yX3_canAll cX3_canAll 5 (some .boolean) ({ frames := 2 + d, cells := 0, slots := 0, locals := 42 + d * 24 }) E [.ref (a 20), .int v1] (cX E a P I J A B) z1 (cX E a P I J A B)) {k25 : Int32 → Int32 → Int32 → Option (Int32)} (hk25 : ∀ (v2 : Int32) (v3 : Int32) (v4 : Int32), k25 v2 v3 v4 = some z → ∀ (H : Heap) (locs : List Loc) (ls : Array Slot), va_P (rf_D E) vwCl (cX E a P I J A B) H → va_S A0 s.heap H locs → lv_has ls 5 [(0, .ref (a 20)), (2, .int v2), (3, .int v3), (4, .int v4)] → W p l e ({ frames := 2 + (d + 1), cells := 0, slots := 0, locals := 42 + (d + 1) * 24 }) s m args below meth c H locs 0 0 (rf_QI below args s E A0 z (cX E a P I J A B)) (F0 m 25 ls [])) :
    ∀ (v2 : Int32) (v3 : Int32) (v4 : Int32), f_X3_canAll_62 k25 slf purse_links v2 v3 v4 = some z → ∀ (H : Heap) (locs : List Loc) (ls : Array Slot), va_P (rf_D E) vwCl (cX E a P I J A B) H → va_S A0 s.heap H locs → lv_has ls 5 [(0, .ref (a 20)), (2, .int v2), (3, .int v3), (4, .int v4)] → W p l e ({ frames := 2 + (d + 1), cells := 0, slots := 0, locals := 42 + (d + 1) * 24 }) s m args below meth c H locs 0 0 (rf_QI below args s E A0 z (cX E a P I J A B)) (F0 m 62 ls []) := by
  have hx := hC.1
  have hb := hC.2.1
  intro v2 v3 v4 hf H locs ls hP hS hl
  unfold f_X3_canAll_62 at hf
  refine lv_iinc (v := v4 + 1) (lv' := [(4, .int (v4 + 1)), (0, .ref (a 20)), (2, .int v2), (3, .int v3)]) hx hb dX3_canAll_62 hl (k := 3) rfl rfl (by decide) rfl (fun ls hl => ?_)
  refine lv_goto (tgt := 25) hx hb dX3_canAll_65 (by decide) ?_
  exact hk25 v2 v3 (v4 + 1) hf _ _ _ hP hS (lv_sub hl [1, 2, 3, 0] rfl)
set_option maxHeartbeats 4000000 in
set_option maxRecDepth 100000 in
theorem w_X3_canAll_25 {l : Launch} {p : Program} {e : Env} {s : State} {m : MethodId} {args : Array Value} {below : List Frame} {meth : Method} {c : Code} {A0 : Nat → Prop} {E : rf_E} {a P : Nat → Nat} {I : Nat → Int32} {J : Nat → Int64} {A : Nat → Nat → Int32} {B : Nat → Nat → Int64} {purse_links : Nat → Int32} {d : Nat} {z : Int32} (hC : rf_C p E s m args meth c cX3_canAll 5 RX3 (some .boolean) A0) (hD : va_D A0 (cX E a P I J A B)) (e_purse_links : A 7 = purse_links) {slf : Int32 → Option (Int32)} (hslf : ∀ (a P : Nat → Nat) (I : Nat → Int32) (J : Nat → Int64) (A : Nat → Nat → Int32) (B : Nat → Nat → Int64) (v1 : Int32) {z1 : Int32} (e_purse_links : A 7 = purse_links), slf v1 = some z1 → rf_MI l yX3_canAll cX3_canAll 5 (some .boolean) ({ frames := 2 + d, cells := 0, slots := 0, locals := 42 + d * 24 }) E [.ref (a 20), .int v1] (cX E a P I J A B) z1 (cX E a P I J A B)) :
    ∀ (n : Nat), ∀ (v2 : Int32) (v3 : Int32) (v4 : Int32), f_X3_canAll_25 slf purse_links n v2 v3 v4 = some z → ∀ (H : Heap) (locs : List Loc) (ls : Array Slot), va_P (rf_D E) vwCl (cX E a P I J A B) H → va_S A0 s.heap H locs → lv_has ls 5 [(0, .ref (a 20)), (2, .int v2), (3, .int v3), (4, .int v4)] → W p l e ({ frames := 2 + (d + 1), cells := 0, slots := 0, locals := 42 + (d + 1) * 24 }) s m args below meth c H locs 0 0 (rf_QI below args s E A0 z (cX E a P I J A B)) (F0 m 25 ls []) := by
  have hx := hC.1
  have hb := hC.2.1
  intro n
  induction n with
  | zero =>
    intro v2 v3 v4 hf
    have hf : (none : Option (Int32)) = some z := hf
    cases hf
  | succ n ih =>
    intro v2 v3 v4 hf H locs ls hP hS hl
    rw [f_X3_canAll_25] at hf
    refine lv_iload hx hb dX3_canAll_25 (lv_at hl 3 rfl) ?_
    refine lv_bipush (v := 8) hx hb dX3_canAll_27 (by decide) ?_
    refine lv_icmp_ge (tgt := 68) hx hb dX3_canAll_29 (by decide) (fun c_29 => ?_) (fun c_29 => ?_)
    · have hf := rf_it c_29 hf
      refine lv_iconst (v := 0) hx hb dX3_canAll_68 (by decide) ?_
      obtain rfl := Option.some.inj hf
      exact rf_retz hC hP hS (by decide) rfl rfl dX3_canAll_69
    have hf := rf_ie c_29 hf
    refine lv_iload_n hx hb dX3_canAll_32 rfl (lv_at hl 2 rfl) ?_
    refine lv_aload_n hx hb dX3_canAll_33 rfl (lv_at hl 0 rfl) ?_
    refine lv_iload_n hx hb dX3_canAll_34 rfl (lv_at hl 1 rfl) ?_
    obtain ⟨hi_35, hf⟩ := rf_gu hf
    refine lX_purse_links hC hP hi_35 (f := purse_links) e_purse_links dX3_canAll_35 ?_
    refine lv_iand hx hb dX3_canAll_36 ?_
    refine lv_iload hx hb dX3_canAll_37 (lv_at hl 3 rfl) ?_
    obtain ⟨z39, hz39, hf⟩ := rf_bd hf
    refine rf_sn0 hC (c_X10_holds l E (v3 &&& (purse_links (Int32.toNatClampNeg v2))) v4 hz39) kS_X10_holds nw_917 ⟨by show _ ≤ 2 + (d + 1); (try simp only []); omega, by show _ ≤ 42 + (d + 1) * 24; (try simp only []); omega⟩ rfl rfl hP hS rfl hl.1 (rest := []) rfl (Nat.le_of_ble_eq_true rfl) dX3_canAll_39 (fun H locs hP hS => ?_)
    refine lv_if_eq (tgt := 62) hx hb dX3_canAll_42 (by decide) (fun c_42 => ?_) (fun c_42 => ?_)
    · have hf := rf_it c_42 hf
      exact w_X3_canAll_62 hC hD e_purse_links hslf ih v2 v3 v4 hf _ _ _ hP hS (lv_sub hl [0, 1, 2, 3] rfl)
    have hf := rf_ie c_42 hf
    refine lv_aload_n hx hb dX3_canAll_45 rfl (lv_at hl 0 rfl) ?_
    refine lv_iload_n hx hb dX3_canAll_46 rfl (lv_at hl 2 rfl) ?_
    refine lv_iconst (v := 1) hx hb dX3_canAll_47 (by decide) ?_
    refine lv_iload hx hb dX3_canAll_48 (lv_at hl 3 rfl) ?_
    refine lv_ishl hx hb dX3_canAll_50 ?_
    refine lv_iconst (v := (-1)) hx hb dX3_canAll_51 (by decide) ?_
    refine lv_ixor hx hb dX3_canAll_52 ?_
    refine lv_iand hx hb dX3_canAll_53 ?_
    obtain ⟨z54, hz54, hf⟩ := rf_bd hf
    refine rf_si hC (hslf a P I J A B (v3 &&& (((1 : Int32) <<< (v4 &&& 31)) ^^^ (-1))) e_purse_links hz54) kS_X3_canAll tw_1017 ⟨by show _ ≤ 2 + (d + 1); (try simp only []); omega, by show _ ≤ 42 + (d + 1) * 24; (try simp only []); omega⟩ rfl rfl hP (rf_DX hD) hS rfl hl.1 (rest := []) rfl (Nat.le_of_ble_eq_true rfl) dX3_canAll_54 (fun H locs hP hS => ?_)
    refine lv_if_eq (tgt := 62) hx hb dX3_canAll_57 (by decide) (fun c_57 => ?_) (fun c_57 => ?_)
    · have hf := rf_it c_57 hf
      exact w_X3_canAll_62 hC hD e_purse_links hslf ih v2 v3 v4 hf _ _ _ hP hS (lv_sub hl [0, 1, 2, 3] rfl)
    have hf := rf_ie c_57 hf
    refine lv_iconst (v := 1) hx hb dX3_canAll_60 (by decide) ?_
    obtain rfl := Option.some.inj hf
    exact rf_retz hC hP hS (by decide) rfl rfl dX3_canAll_61
set_option maxHeartbeats 4000000 in
set_option maxRecDepth 100000 in
theorem c_X3_canAll (l : Launch) (E : rf_E) : ∀ (d : Nat) (a P : Nat → Nat) (I : Nat → Int32) (J : Nat → Int64) (A : Nat → Nat → Int32) (B : Nat → Nat → Int64) (purse_links : Nat → Int32) (v1 : Int32) {z : Int32} (e_purse_links : A 7 = purse_links) (hf : f_X3_canAll purse_links d v1 = some z), rf_MI l yX3_canAll cX3_canAll 5 (some .boolean) ({ frames := 2 + d, cells := 0, slots := 0, locals := 42 + d * 24 }) E [.ref (a 20), .int v1] (cX E a P I J A B) z (cX E a P I J A B) := by
  intro d
  induction d with
  | zero =>
    intro a P I J A B purse_links v1 z e_purse_links hf
    have hf : (none : Option (Int32)) = some z := hf
    cases hf
  | succ d ih =>
    intro a P I J A B purse_links v1 z e_purse_links hf
    rw [f_X3_canAll] at hf
    have hslf : ∀ (a P : Nat → Nat) (I : Nat → Int32) (J : Nat → Int64) (A : Nat → Nat → Int32) (B : Nat → Nat → Int64) (v1 : Int32) {z1 : Int32} (e_purse_links : A 7 = purse_links), (f_X3_canAll purse_links d) v1 = some z1 → rf_MI l yX3_canAll cX3_canAll 5 (some .boolean) ({ frames := 2 + d, cells := 0, slots := 0, locals := 42 + d * 24 }) E [.ref (a 20), .int v1] (cX E a P I J A B) z1 (cX E a P I J A B) := fun a P I J A B v1 _ e_purse_links h => ih a P I J A B purse_links v1 e_purse_links h
    refine rf_ofI (by decide) (Nat.le_of_ble_eq_true rfl) ?_
    intro p e s m below meth c A0 ls hC hD hP hS hl
    have hC : rf_C p E s m _ meth c cX3_canAll 5 RX3 (some .boolean) A0 := hC
    have hx := hC.1
    have hb := hC.2.1
    have hl : lv_has ls 5 [(0, .ref (a 20)), (1, .int v1)] := hl
    refine lv_iload_n hx hb dX3_canAll_0 rfl (lv_at hl 1 rfl) ?_
    obtain ⟨z1, hz1, hf⟩ := rf_bd hf
    refine rf_si0 hC (c_X3_leastOf l E v1 hz1) kS_X3_leastOf tw_914 ⟨by show _ ≤ 2 + (d + 1); (try simp only []); omega, by show _ ≤ 42 + (d + 1) * 24; (try simp only []); omega⟩ rfl rfl hP hS rfl hl.1 (rest := []) rfl (Nat.le_of_ble_eq_true rfl) dX3_canAll_1 (fun H locs hP hS => ?_)
    refine lv_istore_n (lv' := [(2, .int z1), (0, .ref (a 20)), (1, .int v1)]) hx hb dX3_canAll_4 rfl hl (by decide) rfl (fun ls hl => ?_)
    refine lv_iload_n hx hb dX3_canAll_5 rfl (lv_at hl 0 rfl) ?_
    refine lv_iconst (v := (-1)) hx hb dX3_canAll_6 (by decide) ?_
    refine lv_icmp_ne (tgt := 12) hx hb dX3_canAll_7 (by decide) (fun c_7 => ?_) (fun c_7 => ?_)
    · have hf := rf_ie c_7 hf
      refine lv_iload_n hx hb dX3_canAll_12 rfl (lv_at hl 2 rfl) ?_
      refine lv_iconst (v := 1) hx hb dX3_canAll_13 (by decide) ?_
      refine lv_iload_n hx hb dX3_canAll_14 rfl (lv_at hl 0 rfl) ?_
      refine lv_ishl hx hb dX3_canAll_15 ?_
      refine lv_iconst (v := (-1)) hx hb dX3_canAll_16 (by decide) ?_
      refine lv_ixor hx hb dX3_canAll_17 ?_
      refine lv_iand hx hb dX3_canAll_18 ?_
      refine lv_istore_n (lv' := [(3, .int (v1 &&& (((1 : Int32) <<< (z1 &&& 31)) ^^^ (-1)))), (2, .int z1), (0, .ref (a 20)), (1, .int v1)]) hx hb dX3_canAll_19 rfl hl (by decide) rfl (fun ls hl => ?_)
      refine lv_iload_n hx hb dX3_canAll_20 rfl (lv_at hl 1 rfl) ?_
      refine lv_iconst (v := 1) hx hb dX3_canAll_21 (by decide) ?_
      refine lv_iadd hx hb dX3_canAll_22 ?_
      refine lv_istore (lv' := [(4, .int (z1 + 1)), (3, .int (v1 &&& (((1 : Int32) <<< (z1 &&& 31)) ^^^ (-1)))), (2, .int z1), (0, .ref (a 20)), (1, .int v1)]) hx hb dX3_canAll_23 hl (by decide) rfl (fun ls hl => ?_)
      exact w_X3_canAll_25 hC hD e_purse_links hslf rf_fu z1 (v1 &&& (((1 : Int32) <<< (z1 &&& 31)) ^^^ (-1))) (z1 + 1) hf _ _ _ hP hS (lv_sub hl [3, 2, 1, 0] rfl)
    have hf := rf_it c_7 hf
    refine lv_iconst (v := 1) hx hb dX3_canAll_10 (by decide) ?_
    obtain rfl := Option.some.inj hf
    exact rf_retz hC hP hS (by decide) rfl rfl dX3_canAll_11
set_option maxHeartbeats 4000000 in
set_option maxRecDepth 100000 in
theorem w_X4_allPair_77 {l : Launch} {p : Program} {e : Env} {s : State} {m : MethodId} {args : Array Value} {below : List Frame} {meth : Method} {c : Code} {A0 : Nat → Prop} {E : rf_E} {a P : Nat → Nat} {I : Nat → Int32} {J : Nat → Int64} {A : Nat → Nat → Int32} {B : Nat → Nat → Int64} {purse_people : Int32} {tc_wordCount : Int32} {tc_personCount : Int32} {rhymes_links : Nat → Int32} {purse_linksBy : Nat → Int32} {z : Int32 × (Nat → Int32)} (hC : rf_C p E s m args meth c cX4_allPair 4 RX4 (some .boolean) A0) (hD : va_D A0 (cX E a P I J A B)) (hp2 : P 2 = a 10) (e_purse_people : I 8 = purse_people) (e_tc_wordCount : I 23 = tc_wordCount) (e_tc_personCount : I 24 = tc_personCount) (e_rhymes_links : A 3 = rhymes_links) (e_purse_linksBy : A 33 = purse_linksBy) {k2 : Int32 → Int32 → (Nat → Int32) → Option (Int32 × (Nat → Int32))} (hk2 : ∀ (v1 : Int32) (v2 : Int32) (purse_links : Nat → Int32), k2 v1 v2 purse_links = some z → ∀ (H : Heap) (locs : List Loc) (ls : Array Slot), va_P (rf_D E) vwCl (cX E a P I J (rf_upL A [(7, purse_links)]) B) H → va_S A0 s.heap H locs → lv_has ls 4 [(0, .ref (a 4)), (1, .int v1), (2, .int v2)] → W p l e ({ frames := 15, cells := 0, slots := 0, locals := 354 }) s m args below meth c H locs 0 0 (rf_QI below args s E A0 z.1 (cX E a P I J (rf_upL A [(7, z.2)]) B)) (F0 m 2 ls [])) {k33 : Int32 → Int32 → Int32 → (Nat → Int32) → Option (Int32 × (Nat → Int32))} (hk33 : ∀ (v1 : Int32) (v2 : Int32) (v3 : Int32) (purse_links : Nat → Int32), k33 v1 v2 v3 purse_links = some z → ∀ (H : Heap) (locs : List Loc) (ls : Array Slot), va_P (rf_D E) vwCl (cX E a P I J (rf_upL A [(7, purse_links)]) B) H → va_S A0 s.heap H locs → lv_has ls 4 [(0, .ref (a 4)), (1, .int v1), (2, .int v2), (3, .int v3)] → W p l e ({ frames := 15, cells := 0, slots := 0, locals := 354 }) s m args below meth c H locs 0 0 (rf_QI below args s E A0 z.1 (cX E a P I J (rf_upL A [(7, z.2)]) B)) (F0 m 33 ls [])) :
    ∀ (v1 : Int32) (v2 : Int32) (v3 : Int32) (s1 : Int32) (s2 : Int32) (s3 : Int32) (purse_links : Nat → Int32), f_X4_allPair_77 k2 k33 purse_people tc_wordCount tc_personCount rhymes_links purse_linksBy v1 v2 v3 s1 s2 s3 purse_links = some z → ∀ (H : Heap) (locs : List Loc) (ls : Array Slot), va_P (rf_D E) vwCl (cX E a P I J (rf_upL A [(7, purse_links)]) B) H → va_S A0 s.heap H locs → lv_has ls 4 [(0, .ref (a 4)), (1, .int v1), (2, .int v2), (3, .int v3)] → W p l e ({ frames := 15, cells := 0, slots := 0, locals := 354 }) s m args below meth c H locs 0 0 (rf_QI below args s E A0 z.1 (cX E a P I J (rf_upL A [(7, z.2)]) B)) (F0 m 77 ls [.int s3, .int s2, .int s1, .ref (a 20)]) := by
  have hx := hC.1
  have hb := hC.2.1
  intro v1 v2 v3 s1 s2 s3 purse_links hf H locs ls hP hS hl
  unfold f_X4_allPair_77 at hf
  refine lv_ior hx hb dX4_allPair_77 ?_
  obtain ⟨hi_78, hf⟩ := rf_gu hf
  refine sX_purse_links hC hD hP hS hi_78 (f := purse_links) rfl dX4_allPair_78 (rf_upL A [(7, upd purse_links (Int32.toNatClampNeg s1) (s2 ||| s3))]) (rf_put rfl) (fun H locs hP hS => ?_)
  refine lv_iinc (v := v3 + 1) (lv' := [(3, .int (v3 + 1)), (0, .ref (a 4)), (1, .int v1), (2, .int v2)]) hx hb dX4_allPair_79 hl (k := 3) rfl rfl (by decide) rfl (fun ls hl => ?_)
  refine lv_goto (tgt := 33) hx hb dX4_allPair_82 (by decide) ?_
  exact hk33 v1 v2 (v3 + 1) (upd purse_links (Int32.toNatClampNeg s1) (s2 ||| s3)) hf _ _ _ hP hS (lv_sub hl [1, 2, 3, 0] rfl)
set_option maxHeartbeats 4000000 in
set_option maxRecDepth 100000 in
theorem w_X4_allPair_33 {l : Launch} {p : Program} {e : Env} {s : State} {m : MethodId} {args : Array Value} {below : List Frame} {meth : Method} {c : Code} {A0 : Nat → Prop} {E : rf_E} {a P : Nat → Nat} {I : Nat → Int32} {J : Nat → Int64} {A : Nat → Nat → Int32} {B : Nat → Nat → Int64} {purse_people : Int32} {tc_wordCount : Int32} {tc_personCount : Int32} {rhymes_links : Nat → Int32} {purse_linksBy : Nat → Int32} {z : Int32 × (Nat → Int32)} (hC : rf_C p E s m args meth c cX4_allPair 4 RX4 (some .boolean) A0) (hD : va_D A0 (cX E a P I J A B)) (hp2 : P 2 = a 10) (e_purse_people : I 8 = purse_people) (e_tc_wordCount : I 23 = tc_wordCount) (e_tc_personCount : I 24 = tc_personCount) (e_rhymes_links : A 3 = rhymes_links) (e_purse_linksBy : A 33 = purse_linksBy) {k2 : Int32 → Int32 → (Nat → Int32) → Option (Int32 × (Nat → Int32))} (hk2 : ∀ (v1 : Int32) (v2 : Int32) (purse_links : Nat → Int32), k2 v1 v2 purse_links = some z → ∀ (H : Heap) (locs : List Loc) (ls : Array Slot), va_P (rf_D E) vwCl (cX E a P I J (rf_upL A [(7, purse_links)]) B) H → va_S A0 s.heap H locs → lv_has ls 4 [(0, .ref (a 4)), (1, .int v1), (2, .int v2)] → W p l e ({ frames := 15, cells := 0, slots := 0, locals := 354 }) s m args below meth c H locs 0 0 (rf_QI below args s E A0 z.1 (cX E a P I J (rf_upL A [(7, z.2)]) B)) (F0 m 2 ls [])) :
    ∀ (n : Nat), ∀ (v1 : Int32) (v2 : Int32) (v3 : Int32) (purse_links : Nat → Int32), f_X4_allPair_33 k2 purse_people tc_wordCount tc_personCount rhymes_links purse_linksBy n v1 v2 v3 purse_links = some z → ∀ (H : Heap) (locs : List Loc) (ls : Array Slot), va_P (rf_D E) vwCl (cX E a P I J (rf_upL A [(7, purse_links)]) B) H → va_S A0 s.heap H locs → lv_has ls 4 [(0, .ref (a 4)), (1, .int v1), (2, .int v2), (3, .int v3)] → W p l e ({ frames := 15, cells := 0, slots := 0, locals := 354 }) s m args below meth c H locs 0 0 (rf_QI below args s E A0 z.1 (cX E a P I J (rf_upL A [(7, z.2)]) B)) (F0 m 33 ls []) := by
  have hx := hC.1
  have hb := hC.2.1
  intro n
  induction n with
  | zero =>
    intro v1 v2 v3 purse_links hf
    have hf : (none : Option (Int32 × (Nat → Int32))) = some z := hf
    cases hf
  | succ n ih =>
    intro v1 v2 v3 purse_links hf H locs ls hP hS hl
    rw [f_X4_allPair_33] at hf
    refine lv_iload_n hx hb dX4_allPair_33 rfl (lv_at hl 3 rfl) ?_
    refine lv_aload_n hx hb dX4_allPair_34 rfl (lv_at hl 0 rfl) ?_
    refine gX_purse_rhymes hC hP tw_227 dX4_allPair_35 ?_
    refine gX_rhymes_tale hC hP tw_196 (v := a 10) hp2 dX4_allPair_38 ?_
    refine gX_tc_wordCount hC hP tw_122 (v := tc_wordCount) e_tc_wordCount dX4_allPair_41 ?_
    refine lv_icmp_ge (tgt := 85) hx hb dX4_allPair_44 (by decide) (fun c_44 => ?_) (fun c_44 => ?_)
    · have hf := rf_it c_44 hf
      refine lv_iinc (v := v2 + 1) (lv' := [(2, .int (v2 + 1)), (0, .ref (a 4)), (1, .int v1), (3, .int v3)]) hx hb dX4_allPair_85 hl (k := 2) rfl rfl (by decide) rfl (fun ls hl => ?_)
      refine lv_goto (tgt := 2) hx hb dX4_allPair_88 (by decide) ?_
      exact hk2 v1 (v2 + 1) purse_links hf _ _ _ hP hS (lv_sub hl [1, 2, 0] rfl)
    have hf := rf_ie c_44 hf
    refine lv_aload_n hx hb dX4_allPair_47 rfl (lv_at hl 0 rfl) ?_
    refine gX_purse_links hC hP tw_230 dX4_allPair_48 ?_
    refine lv_iload_n hx hb dX4_allPair_51 rfl (lv_at hl 2 rfl) ?_
    refine lv_dup2_11 hx hb dX4_allPair_52 rfl rfl ?_
    obtain ⟨hi_53, hf⟩ := rf_gu hf
    refine lX_purse_links hC hP hi_53 (f := purse_links) rfl dX4_allPair_53 ?_
    refine lv_iload_n hx hb dX4_allPair_54 rfl (lv_at hl 1 rfl) ?_
    refine lv_iload_n hx hb dX4_allPair_55 rfl (lv_at hl 3 rfl) ?_
    obtain ⟨z56, hz56, hf⟩ := rf_bd hf
    refine rf_sn0 hC (c_X10_holds l E v1 v3 hz56) kS_X10_holds nw_971 ⟨Nat.le_of_ble_eq_true rfl, Nat.le_of_ble_eq_true rfl⟩ rfl rfl hP hS rfl hl.1 (rest := [.int (purse_links (Int32.toNatClampNeg v2)), .int v2, .ref (a 20)]) rfl (Nat.le_of_ble_eq_true rfl) dX4_allPair_56 (fun H locs hP hS => ?_)
    refine lv_if_eq (tgt := 76) hx hb dX4_allPair_59 (by decide) (fun c_59 => ?_) (fun c_59 => ?_)
    · have hf := rf_it c_59 hf
      refine lv_iconst (v := 0) hx hb dX4_allPair_76 (by decide) ?_
      exact w_X4_allPair_77 hC hD hp2 e_purse_people e_tc_wordCount e_tc_personCount e_rhymes_links e_purse_linksBy hk2 ih v1 v2 v3 v2 (purse_links (Int32.toNatClampNeg v2)) 0 purse_links hf _ _ _ hP hS (lv_sub hl [0, 1, 2, 3] rfl)
    have hf := rf_ie c_59 hf
    refine lv_aload_n hx hb dX4_allPair_62 rfl (lv_at hl 0 rfl) ?_
    refine gX_purse_linksBy hC hP tw_231 dX4_allPair_63 ?_
    refine lv_iload_n hx hb dX4_allPair_66 rfl (lv_at hl 3 rfl) ?_
    refine lv_bipush (v := 8) hx hb dX4_allPair_67 (by decide) ?_
    refine lv_imul hx hb dX4_allPair_69 ?_
    refine lv_iload_n hx hb dX4_allPair_70 rfl (lv_at hl 2 rfl) ?_
    refine lv_iadd hx hb dX4_allPair_71 ?_
    obtain ⟨hi_72, hf⟩ := rf_gu hf
    refine lX_purse_linksBy hC hP hi_72 (f := purse_linksBy) e_purse_linksBy dX4_allPair_72 ?_
    refine lv_goto (tgt := 77) hx hb dX4_allPair_73 (by decide) ?_
    exact w_X4_allPair_77 hC hD hp2 e_purse_people e_tc_wordCount e_tc_personCount e_rhymes_links e_purse_linksBy hk2 ih v1 v2 v3 v2 (purse_links (Int32.toNatClampNeg v2)) (purse_linksBy (Int32.toNatClampNeg ((v3 * 8) + v2))) purse_links hf _ _ _ hP hS (lv_sub hl [0, 1, 2, 3] rfl)
set_option maxHeartbeats 4000000 in
set_option maxRecDepth 100000 in
theorem w_X4_allPair_2 {l : Launch} {p : Program} {e : Env} {s : State} {m : MethodId} {args : Array Value} {below : List Frame} {meth : Method} {c : Code} {A0 : Nat → Prop} {E : rf_E} {a P : Nat → Nat} {I : Nat → Int32} {J : Nat → Int64} {A : Nat → Nat → Int32} {B : Nat → Nat → Int64} {purse_people : Int32} {tc_wordCount : Int32} {tc_personCount : Int32} {rhymes_links : Nat → Int32} {purse_linksBy : Nat → Int32} {z : Int32 × (Nat → Int32)} (hC : rf_C p E s m args meth c cX4_allPair 4 RX4 (some .boolean) A0) (hD : va_D A0 (cX E a P I J A B)) (hp2 : P 2 = a 10) (e_purse_people : I 8 = purse_people) (e_tc_wordCount : I 23 = tc_wordCount) (e_tc_personCount : I 24 = tc_personCount) (e_rhymes_links : A 3 = rhymes_links) (e_purse_linksBy : A 33 = purse_linksBy) :
    ∀ (n : Nat), ∀ (v1 : Int32) (v2 : Int32) (purse_links : Nat → Int32), f_X4_allPair_2 purse_people tc_wordCount tc_personCount rhymes_links purse_linksBy n v1 v2 purse_links = some z → ∀ (H : Heap) (locs : List Loc) (ls : Array Slot), va_P (rf_D E) vwCl (cX E a P I J (rf_upL A [(7, purse_links)]) B) H → va_S A0 s.heap H locs → lv_has ls 4 [(0, .ref (a 4)), (1, .int v1), (2, .int v2)] → W p l e ({ frames := 15, cells := 0, slots := 0, locals := 354 }) s m args below meth c H locs 0 0 (rf_QI below args s E A0 z.1 (cX E a P I J (rf_upL A [(7, z.2)]) B)) (F0 m 2 ls []) := by
  have hx := hC.1
  have hb := hC.2.1
  intro n
  induction n with
  | zero =>
    intro v1 v2 purse_links hf
    have hf : (none : Option (Int32 × (Nat → Int32))) = some z := hf
    cases hf
  | succ n ih =>
    intro v1 v2 purse_links hf H locs ls hP hS hl
    rw [f_X4_allPair_2] at hf
    refine lv_iload_n hx hb dX4_allPair_2 rfl (lv_at hl 2 rfl) ?_
    refine lv_aload_n hx hb dX4_allPair_3 rfl (lv_at hl 0 rfl) ?_
    refine gX_purse_rhymes hC hP tw_227 dX4_allPair_4 ?_
    refine gX_rhymes_tale hC hP tw_196 (v := a 10) hp2 dX4_allPair_7 ?_
    refine gX_tc_personCount hC hP tw_127 (v := tc_personCount) e_tc_personCount dX4_allPair_10 ?_
    refine lv_icmp_ge (tgt := 91) hx hb dX4_allPair_13 (by decide) (fun c_13 => ?_) (fun c_13 => ?_)
    · have hf := rf_it c_13 hf
      refine lv_aload_n hx hb dX4_allPair_91 rfl (lv_at hl 0 rfl) ?_
      refine gX_purse_links hC hP tw_230 dX4_allPair_92 ?_
      refine lv_aload_n hx hb dX4_allPair_95 rfl (lv_at hl 0 rfl) ?_
      refine gX_purse_people hC hP tw_233 (v := purse_people) e_purse_people dX4_allPair_96 ?_
      obtain ⟨z99, hz99, hf⟩ := rf_bd hf
      refine rf_sn1 hC (c_X3_canAll l E 12 a P I J (rf_upL A [(7, purse_links)]) B purse_links purse_people rfl hz99) kS_X3_canAll nw_1014 ⟨Nat.le_of_ble_eq_true rfl, Nat.le_of_ble_eq_true rfl⟩ rfl rfl hP (rf_DX hD) hS rfl hl.1 (rest := []) rfl (Nat.le_of_ble_eq_true rfl) dX4_allPair_99 (fun H locs hP hS => ?_)
      obtain ⟨hz_102, hf⟩ := rf_gu hf
      obtain rfl := Option.some.inj hf
      exact rf_retz hC hP hS hz_102 rfl rfl dX4_allPair_102
    have hf := rf_ie c_13 hf
    refine lv_aload_n hx hb dX4_allPair_16 rfl (lv_at hl 0 rfl) ?_
    refine gX_purse_links hC hP tw_230 dX4_allPair_17 ?_
    refine lv_iload_n hx hb dX4_allPair_20 rfl (lv_at hl 2 rfl) ?_
    refine lv_aload_n hx hb dX4_allPair_21 rfl (lv_at hl 0 rfl) ?_
    refine gX_purse_rhymes hC hP tw_227 dX4_allPair_22 ?_
    refine gX_rhymes_links hC hP tw_191 dX4_allPair_25 ?_
    refine lv_iload_n hx hb dX4_allPair_28 rfl (lv_at hl 2 rfl) ?_
    obtain ⟨hi_29, hf⟩ := rf_gu hf
    refine lX_rhymes_links hC hP hi_29 (f := rhymes_links) e_rhymes_links dX4_allPair_29 ?_
    obtain ⟨hi_30, hf⟩ := rf_gu hf
    refine sX_purse_links hC hD hP hS hi_30 (f := purse_links) rfl dX4_allPair_30 (rf_upL A [(7, upd purse_links (Int32.toNatClampNeg v2) (rhymes_links (Int32.toNatClampNeg v2)))]) (rf_put rfl) (fun H locs hP hS => ?_)
    refine lv_iconst (v := 0) hx hb dX4_allPair_31 (by decide) ?_
    refine lv_istore_n (lv' := [(3, .int 0), (0, .ref (a 4)), (1, .int v1), (2, .int v2)]) hx hb dX4_allPair_32 rfl hl (by decide) rfl (fun ls hl => ?_)
    exact w_X4_allPair_33 hC hD hp2 e_purse_people e_tc_wordCount e_tc_personCount e_rhymes_links e_purse_linksBy ih rf_fu v1 v2 0 (upd purse_links (Int32.toNatClampNeg v2) (rhymes_links (Int32.toNatClampNeg v2))) hf _ _ _ hP hS (lv_sub hl [1, 2, 3, 0] rfl)
set_option maxHeartbeats 4000000 in
set_option maxRecDepth 100000 in
theorem c_X4_allPair (l : Launch) (E : rf_E) (a P : Nat → Nat) (I : Nat → Int32) (J : Nat → Int64) (A : Nat → Nat → Int32) (B : Nat → Nat → Int64) (purse_people : Int32) (tc_wordCount : Int32) (tc_personCount : Int32) (rhymes_links : Nat → Int32) (purse_linksBy : Nat → Int32) (purse_links : Nat → Int32) (v1 : Int32) {z : Int32 × (Nat → Int32)} (hp2 : P 2 = a 10) (e_purse_people : I 8 = purse_people) (e_tc_wordCount : I 23 = tc_wordCount) (e_tc_personCount : I 24 = tc_personCount) (e_rhymes_links : A 3 = rhymes_links) (e_purse_linksBy : A 33 = purse_linksBy) (e_purse_links : A 7 = purse_links) (hf : f_X4_allPair purse_people tc_wordCount tc_personCount rhymes_links purse_linksBy purse_links v1 = some z) : rf_MI l yX4_allPair cX4_allPair 4 (some .boolean) ({ frames := 15, cells := 0, slots := 0, locals := 354 }) E [.ref (a 4), .int v1] (cX E a P I J A B) z.1 (cX E a P I J (rf_upL A [(7, z.2)]) B) := by
  unfold f_X4_allPair at hf
  refine rf_ofI (by decide) (Nat.le_of_ble_eq_true rfl) ?_
  intro p e s m below meth c A0 ls hC hD hP hS hl
  have hC : rf_C p E s m _ meth c cX4_allPair 4 RX4 (some .boolean) A0 := hC
  have hx := hC.1
  have hb := hC.2.1
  have hl : lv_has ls 4 [(0, .ref (a 4)), (1, .int v1)] := hl
  have hP : va_P (rf_D E) vwCl (cX E a P I J (rf_upL A [(7, purse_links)]) B) s.heap := by
    rw [rf_self (f := A) [(7, purse_links)] (rf_fa1 e_purse_links rf_fa0)]
    exact hP
  refine lv_iconst (v := 0) hx hb dX4_allPair_0 (by decide) ?_
  refine lv_istore_n (lv' := [(2, .int 0), (0, .ref (a 4)), (1, .int v1)]) hx hb dX4_allPair_1 rfl hl (by decide) rfl (fun ls hl => ?_)
  exact w_X4_allPair_2 hC hD hp2 e_purse_people e_tc_wordCount e_tc_personCount e_rhymes_links e_purse_linksBy rf_fu v1 0 purse_links hf _ _ _ hP hS (lv_sub hl [1, 2, 0] rfl)
set_option maxHeartbeats 4000000 in
set_option maxRecDepth 100000 in
theorem w_X4_allSing_37 {l : Launch} {p : Program} {e : Env} {s : State} {m : MethodId} {args : Array Value} {below : List Frame} {meth : Method} {c : Code} {A0 : Nat → Prop} {E : rf_E} {a P : Nat → Nat} {I : Nat → Int32} {J : Nat → Int64} {A : Nat → Nat → Int32} {B : Nat → Nat → Int64} {purse_people : Int32} {tc_wordCount : Int32} {purse_singers : Nat → Int32} {z : Int32} (hC : rf_C p E s m args meth c cX4_allSing 4 RX4 (some .boolean) A0) (hD : va_D A0 (cX E a P I J A B)) (hp2 : P 2 = a 10) (e_purse_people : I 8 = purse_people) (e_tc_wordCount : I 23 = tc_wordCount) (e_purse_singers : A 8 = purse_singers) {k4 : Int32 → Int32 → Int32 → Option (Int32)} (hk4 : ∀ (v1 : Int32) (v2 : Int32) (v3 : Int32), k4 v1 v2 v3 = some z → ∀ (H : Heap) (locs : List Loc) (ls : Array Slot), va_P (rf_D E) vwCl (cX E a P I J A B) H → va_S A0 s.heap H locs → lv_has ls 4 [(0, .ref (a 4)), (1, .int v1), (2, .int v2), (3, .int v3)] → W p l e ({ frames := 1, cells := 0, slots := 0, locals := 21 }) s m args below meth c H locs 0 0 (rf_QI below args s E A0 z (cX E a P I J A B)) (F0 m 4 ls [])) :
    ∀ (v1 : Int32) (v3 : Int32) (s0 : Int32) (s1 : Int32), f_X4_allSing_37 k4 purse_people tc_wordCount purse_singers v1 v3 s0 s1 = some z → ∀ (H : Heap) (locs : List Loc) (ls : Array Slot), va_P (rf_D E) vwCl (cX E a P I J A B) H → va_S A0 s.heap H locs → lv_has ls 4 [(0, .ref (a 4)), (1, .int v1), (3, .int v3)] → W p l e ({ frames := 1, cells := 0, slots := 0, locals := 21 }) s m args below meth c H locs 0 0 (rf_QI below args s E A0 z (cX E a P I J A B)) (F0 m 37 ls [.int s1, .int s0]) := by
  have hx := hC.1
  have hb := hC.2.1
  intro v1 v3 s0 s1 hf H locs ls hP hS hl
  unfold f_X4_allSing_37 at hf
  refine lv_ior hx hb dX4_allSing_37 ?_
  refine lv_istore_n (lv' := [(2, .int (s0 ||| s1)), (0, .ref (a 4)), (1, .int v1), (3, .int v3)]) hx hb dX4_allSing_38 rfl hl (by decide) rfl (fun ls hl => ?_)
  refine lv_iinc (v := v3 + 1) (lv' := [(3, .int (v3 + 1)), (2, .int (s0 ||| s1)), (0, .ref (a 4)), (1, .int v1)]) hx hb dX4_allSing_39 hl (k := 3) rfl rfl (by decide) rfl (fun ls hl => ?_)
  refine lv_goto (tgt := 4) hx hb dX4_allSing_42 (by decide) ?_
  exact hk4 v1 (s0 ||| s1) (v3 + 1) hf _ _ _ hP hS (lv_sub hl [2, 3, 1, 0] rfl)
set_option maxHeartbeats 4000000 in
set_option maxRecDepth 100000 in
theorem w_X4_allSing_4 {l : Launch} {p : Program} {e : Env} {s : State} {m : MethodId} {args : Array Value} {below : List Frame} {meth : Method} {c : Code} {A0 : Nat → Prop} {E : rf_E} {a P : Nat → Nat} {I : Nat → Int32} {J : Nat → Int64} {A : Nat → Nat → Int32} {B : Nat → Nat → Int64} {purse_people : Int32} {tc_wordCount : Int32} {purse_singers : Nat → Int32} {z : Int32} (hC : rf_C p E s m args meth c cX4_allSing 4 RX4 (some .boolean) A0) (hD : va_D A0 (cX E a P I J A B)) (hp2 : P 2 = a 10) (e_purse_people : I 8 = purse_people) (e_tc_wordCount : I 23 = tc_wordCount) (e_purse_singers : A 8 = purse_singers) :
    ∀ (n : Nat), ∀ (v1 : Int32) (v2 : Int32) (v3 : Int32), f_X4_allSing_4 purse_people tc_wordCount purse_singers n v1 v2 v3 = some z → ∀ (H : Heap) (locs : List Loc) (ls : Array Slot), va_P (rf_D E) vwCl (cX E a P I J A B) H → va_S A0 s.heap H locs → lv_has ls 4 [(0, .ref (a 4)), (1, .int v1), (2, .int v2), (3, .int v3)] → W p l e ({ frames := 1, cells := 0, slots := 0, locals := 21 }) s m args below meth c H locs 0 0 (rf_QI below args s E A0 z (cX E a P I J A B)) (F0 m 4 ls []) := by
  have hx := hC.1
  have hb := hC.2.1
  intro n
  induction n with
  | zero =>
    intro v1 v2 v3 hf
    have hf : (none : Option (Int32)) = some z := hf
    cases hf
  | succ n ih =>
    intro v1 v2 v3 hf H locs ls hP hS hl
    rw [f_X4_allSing_4] at hf
    refine lv_iload_n hx hb dX4_allSing_4 rfl (lv_at hl 3 rfl) ?_
    refine lv_aload_n hx hb dX4_allSing_5 rfl (lv_at hl 0 rfl) ?_
    refine gX_purse_rhymes hC hP tw_227 dX4_allSing_6 ?_
    refine gX_rhymes_tale hC hP tw_196 (v := a 10) hp2 dX4_allSing_9 ?_
    refine gX_tc_wordCount hC hP tw_122 (v := tc_wordCount) e_tc_wordCount dX4_allSing_12 ?_
    refine lv_icmp_ge (tgt := 45) hx hb dX4_allSing_15 (by decide) (fun c_15 => ?_) (fun c_15 => ?_)
    · have hf := rf_it c_15 hf
      refine lv_aload_n hx hb dX4_allSing_45 rfl (lv_at hl 0 rfl) ?_
      refine gX_purse_people hC hP tw_233 (v := purse_people) e_purse_people dX4_allSing_46 ?_
      refine lv_iload_n hx hb dX4_allSing_49 rfl (lv_at hl 2 rfl) ?_
      refine lv_iconst (v := (-1)) hx hb dX4_allSing_50 (by decide) ?_
      refine lv_ixor hx hb dX4_allSing_51 ?_
      refine lv_iand hx hb dX4_allSing_52 ?_
      refine lv_if_ne (tgt := 60) hx hb dX4_allSing_53 (by decide) (fun c_53 => ?_) (fun c_53 => ?_)
      · have hf := rf_ie c_53 hf
        refine lv_iconst (v := 0) hx hb dX4_allSing_60 (by decide) ?_
        obtain rfl := Option.some.inj hf
        exact rf_retz hC hP hS (by decide) rfl rfl dX4_allSing_61
      have hf := rf_it c_53 hf
      refine lv_iconst (v := 1) hx hb dX4_allSing_56 (by decide) ?_
      refine lv_goto (tgt := 61) hx hb dX4_allSing_57 (by decide) ?_
      obtain rfl := Option.some.inj hf
      exact rf_retz hC hP hS (by decide) rfl rfl dX4_allSing_61
    have hf := rf_ie c_15 hf
    refine lv_iload_n hx hb dX4_allSing_18 rfl (lv_at hl 2 rfl) ?_
    refine lv_iload_n hx hb dX4_allSing_19 rfl (lv_at hl 1 rfl) ?_
    refine lv_iload_n hx hb dX4_allSing_20 rfl (lv_at hl 3 rfl) ?_
    obtain ⟨z21, hz21, hf⟩ := rf_bd hf
    refine rf_sn0 hC (c_X10_holds l E v1 v3 hz21) kS_X10_holds nw_971 ⟨Nat.le_of_ble_eq_true rfl, Nat.le_of_ble_eq_true rfl⟩ rfl rfl hP hS rfl hl.1 (rest := [.int v2]) rfl (Nat.le_of_ble_eq_true rfl) dX4_allSing_21 (fun H locs hP hS => ?_)
    refine lv_if_eq (tgt := 36) hx hb dX4_allSing_24 (by decide) (fun c_24 => ?_) (fun c_24 => ?_)
    · have hf := rf_it c_24 hf
      refine lv_iconst (v := 0) hx hb dX4_allSing_36 (by decide) ?_
      exact w_X4_allSing_37 hC hD hp2 e_purse_people e_tc_wordCount e_purse_singers ih v1 v3 v2 0 hf _ _ _ hP hS (lv_sub hl [0, 1, 3] rfl)
    have hf := rf_ie c_24 hf
    refine lv_aload_n hx hb dX4_allSing_27 rfl (lv_at hl 0 rfl) ?_
    refine gX_purse_singers hC hP tw_232 dX4_allSing_28 ?_
    refine lv_iload_n hx hb dX4_allSing_31 rfl (lv_at hl 3 rfl) ?_
    obtain ⟨hi_32, hf⟩ := rf_gu hf
    refine lX_purse_singers hC hP hi_32 (f := purse_singers) e_purse_singers dX4_allSing_32 ?_
    refine lv_goto (tgt := 37) hx hb dX4_allSing_33 (by decide) ?_
    exact w_X4_allSing_37 hC hD hp2 e_purse_people e_tc_wordCount e_purse_singers ih v1 v3 v2 (purse_singers (Int32.toNatClampNeg v3)) hf _ _ _ hP hS (lv_sub hl [0, 1, 3] rfl)
set_option maxHeartbeats 4000000 in
set_option maxRecDepth 100000 in
theorem c_X4_allSing (l : Launch) (E : rf_E) (a P : Nat → Nat) (I : Nat → Int32) (J : Nat → Int64) (A : Nat → Nat → Int32) (B : Nat → Nat → Int64) (purse_people : Int32) (tc_wordCount : Int32) (purse_singers : Nat → Int32) (v1 : Int32) {z : Int32} (hp2 : P 2 = a 10) (e_purse_people : I 8 = purse_people) (e_tc_wordCount : I 23 = tc_wordCount) (e_purse_singers : A 8 = purse_singers) (hf : f_X4_allSing purse_people tc_wordCount purse_singers v1 = some z) : rf_MI l yX4_allSing cX4_allSing 4 (some .boolean) ({ frames := 1, cells := 0, slots := 0, locals := 21 }) E [.ref (a 4), .int v1] (cX E a P I J A B) z (cX E a P I J A B) := by
  unfold f_X4_allSing at hf
  refine rf_ofI (by decide) (Nat.le_of_ble_eq_true rfl) ?_
  intro p e s m below meth c A0 ls hC hD hP hS hl
  have hC : rf_C p E s m _ meth c cX4_allSing 4 RX4 (some .boolean) A0 := hC
  have hx := hC.1
  have hb := hC.2.1
  have hl : lv_has ls 4 [(0, .ref (a 4)), (1, .int v1)] := hl
  refine lv_iconst (v := 0) hx hb dX4_allSing_0 (by decide) ?_
  refine lv_istore_n (lv' := [(2, .int 0), (0, .ref (a 4)), (1, .int v1)]) hx hb dX4_allSing_1 rfl hl (by decide) rfl (fun ls hl => ?_)
  refine lv_iconst (v := 0) hx hb dX4_allSing_2 (by decide) ?_
  refine lv_istore_n (lv' := [(3, .int 0), (2, .int 0), (0, .ref (a 4)), (1, .int v1)]) hx hb dX4_allSing_3 rfl hl (by decide) rfl (fun ls hl => ?_)
  exact w_X4_allSing_4 hC hD hp2 e_purse_people e_tc_wordCount e_purse_singers rf_fu v1 0 0 hf _ _ _ hP hS (lv_sub hl [2, 3, 1, 0] rfl)
set_option maxHeartbeats 4000000 in
set_option maxRecDepth 100000 in
theorem c_X4_isEnough (l : Launch) (E : rf_E) (a P : Nat → Nat) (I : Nat → Int32) (J : Nat → Int64) (A : Nat → Nat → Int32) (B : Nat → Nat → Int64) (purse_people : Int32) (tc_wordCount : Int32) (tc_personCount : Int32) (rhymes_links : Nat → Int32) (purse_singers : Nat → Int32) (purse_linksBy : Nat → Int32) (purse_links : Nat → Int32) (v1 : Int32) (v2 : Int32) {z : Int32 × (Nat → Int32)} (hp2 : P 2 = a 10) (e_purse_people : I 8 = purse_people) (e_tc_wordCount : I 23 = tc_wordCount) (e_tc_personCount : I 24 = tc_personCount) (e_rhymes_links : A 3 = rhymes_links) (e_purse_singers : A 8 = purse_singers) (e_purse_linksBy : A 33 = purse_linksBy) (e_purse_links : A 7 = purse_links) (hf : f_X4_isEnough purse_people tc_wordCount tc_personCount rhymes_links purse_singers purse_linksBy purse_links v1 v2 = some z) : rf_MI l yX4_isEnough cX4_isEnough 3 (some .boolean) ({ frames := 16, cells := 0, slots := 0, locals := 377 }) E [.ref (a 4), .int v1, .int v2] (cX E a P I J A B) z.1 (cX E a P I J (rf_upL A [(7, z.2)]) B) := by
  unfold f_X4_isEnough at hf
  refine rf_ofI (by decide) (Nat.le_of_ble_eq_true rfl) ?_
  intro p e s m below meth c A0 ls hC hD hP hS hl
  have hC : rf_C p E s m _ meth c cX4_isEnough 3 RX4 (some .boolean) A0 := hC
  have hx := hC.1
  have hb := hC.2.1
  have hl : lv_has ls 3 [(0, .ref (a 4)), (1, .int v1), (2, .int v2)] := hl
  have hP : va_P (rf_D E) vwCl (cX E a P I J (rf_upL A [(7, purse_links)]) B) s.heap := by
    rw [rf_self (f := A) [(7, purse_links)] (rf_fa1 e_purse_links rf_fa0)]
    exact hP
  refine lv_iload_n hx hb dX4_isEnough_0 rfl (lv_at hl 2 rfl) ?_
  refine lv_if_eq (tgt := 12) hx hb dX4_isEnough_1 (by decide) (fun c_1 => ?_) (fun c_1 => ?_)
  · have hf := rf_it c_1 hf
    refine lv_aload_n hx hb dX4_isEnough_12 rfl (lv_at hl 0 rfl) ?_
    refine lv_iload_n hx hb dX4_isEnough_13 rfl (lv_at hl 1 rfl) ?_
    obtain ⟨z14, hz14, hf⟩ := rf_bd hf
    refine rf_vi (q0 := 4) (ci := 4) hC (c_X4_allPair l E a P I J (rf_upL A [(7, purse_links)]) B purse_people tc_wordCount tc_personCount rhymes_links purse_linksBy purse_links v1 hp2 e_purse_people e_tc_wordCount e_tc_personCount e_rhymes_links e_purse_linksBy rfl hz14) kV_X4_allPair tw_1010 ⟨Nat.le_of_ble_eq_true rfl, Nat.le_of_ble_eq_true rfl⟩ rfl rfl rfl rfl rfl hP (rf_DX hD) hS rfl hl.1 (rest := []) rfl (Nat.le_of_ble_eq_true rfl) dX4_isEnough_14 (fun H locs hP hS => ?_)
    rw [rf_cat (f := A) (l := [(7, purse_links)]) (lc := [(7, z14.2)]) (l' := [(7, z14.2)]) rfl] at hP
    obtain ⟨hz_17, hf⟩ := rf_gu hf
    obtain rfl := Option.some.inj hf
    exact rf_retz hC hP hS hz_17 rfl rfl dX4_isEnough_17
  have hf := rf_ie c_1 hf
  refine lv_aload_n hx hb dX4_isEnough_4 rfl (lv_at hl 0 rfl) ?_
  refine lv_iload_n hx hb dX4_isEnough_5 rfl (lv_at hl 1 rfl) ?_
  obtain ⟨z6, hz6, hf⟩ := rf_bd hf
  refine rf_vi (q0 := 4) (ci := 4) hC (c_X4_allSing l E a P I J (rf_upL A [(7, purse_links)]) B purse_people tc_wordCount purse_singers v1 hp2 e_purse_people e_tc_wordCount e_purse_singers hz6) kV_X4_allSing tw_1006 ⟨Nat.le_of_ble_eq_true rfl, Nat.le_of_ble_eq_true rfl⟩ rfl rfl rfl rfl rfl hP (rf_DX hD) hS rfl hl.1 (rest := []) rfl (Nat.le_of_ble_eq_true rfl) dX4_isEnough_6 (fun H locs hP hS => ?_)
  refine lv_goto (tgt := 17) hx hb dX4_isEnough_9 (by decide) ?_
  obtain ⟨hz_17, hf⟩ := rf_gu hf
  obtain rfl := Option.some.inj hf
  exact rf_retz hC hP hS hz_17 rfl rfl dX4_isEnough_17
set_option maxHeartbeats 4000000 in
set_option maxRecDepth 100000 in
theorem w_X4_fewest_70 {l : Launch} {p : Program} {e : Env} {s : State} {m : MethodId} {args : Array Value} {below : List Frame} {meth : Method} {c : Code} {A0 : Nat → Prop} {E : rf_E} {a P : Nat → Nat} {I : Nat → Int32} {J : Nat → Int64} {A : Nat → Nat → Int32} {B : Nat → Nat → Int64} {purse_people : Int32} {tc_wordCount : Int32} {tc_personCount : Int32} {rhymes_links : Nat → Int32} {purse_singers : Nat → Int32} {purse_linksBy : Nat → Int32} {z : Int32 × (Nat → Int32)} (hC : rf_C p E s m args meth c cX4_fewest 6 RX4 (some .int) A0) (hD : va_D A0 (cX E a P I J A B)) (hp2 : P 2 = a 10) (e_purse_people : I 8 = purse_people) (e_tc_wordCount : I 23 = tc_wordCount) (e_tc_personCount : I 24 = tc_personCount) (e_rhymes_links : A 3 = rhymes_links) (e_purse_singers : A 8 = purse_singers) (e_purse_linksBy : A 33 = purse_linksBy) {k32 : Int32 → Int32 → Int32 → Int32 → (Nat → Int32) → Option (Int32 × (Nat → Int32))} (hk32 : ∀ (v1 : Int32) (v2 : Int32) (v3 : Int32) (v4 : Int32) (purse_links : Nat → Int32), k32 v1 v2 v3 v4 purse_links = some z → ∀ (H : Heap) (locs : List Loc) (ls : Array Slot), va_P (rf_D E) vwCl (cX E a P I J (rf_upL A [(7, purse_links)]) B) H → va_S A0 s.heap H locs → lv_has ls 6 [(0, .ref (a 4)), (1, .int v1), (2, .int v2), (3, .int v3), (4, .int v4)] → W p l e ({ frames := 17, cells := 0, slots := 0, locals := 399 }) s m args below meth c H locs 0 0 (rf_QI below args s E A0 z.1 (cX E a P I J (rf_upL A [(7, z.2)]) B)) (F0 m 32 ls [])) {k41 : Int32 → Int32 → Int32 → Int32 → Int32 → (Nat → Int32) → Option (Int32 × (Nat → Int32))} (hk41 : ∀ (v1 : Int32) (v2 : Int32) (v3 : Int32) (v4 : Int32) (v5 : Int32) (purse_links : Nat → Int32), k41 v1 v2 v3 v4 v5 purse_links = some z → ∀ (H : Heap) (locs : List Loc) (ls : Array Slot), va_P (rf_D E) vwCl (cX E a P I J (rf_upL A [(7, purse_links)]) B) H → va_S A0 s.heap H locs → lv_has ls 6 [(0, .ref (a 4)), (1, .int v1), (2, .int v2), (3, .int v3), (4, .int v4), (5, .int v5)] → W p l e ({ frames := 17, cells := 0, slots := 0, locals := 399 }) s m args below meth c H locs 0 0 (rf_QI below args s E A0 z.1 (cX E a P I J (rf_upL A [(7, z.2)]) B)) (F0 m 41 ls [])) :
    ∀ (v1 : Int32) (v2 : Int32) (v3 : Int32) (v4 : Int32) (v5 : Int32) (purse_links : Nat → Int32), f_X4_fewest_70 k32 k41 purse_people tc_wordCount tc_personCount rhymes_links purse_singers purse_linksBy v1 v2 v3 v4 v5 purse_links = some z → ∀ (H : Heap) (locs : List Loc) (ls : Array Slot), va_P (rf_D E) vwCl (cX E a P I J (rf_upL A [(7, purse_links)]) B) H → va_S A0 s.heap H locs → lv_has ls 6 [(0, .ref (a 4)), (1, .int v1), (2, .int v2), (3, .int v3), (4, .int v4), (5, .int v5)] → W p l e ({ frames := 17, cells := 0, slots := 0, locals := 399 }) s m args below meth c H locs 0 0 (rf_QI below args s E A0 z.1 (cX E a P I J (rf_upL A [(7, z.2)]) B)) (F0 m 70 ls []) := by
  have hx := hC.1
  have hb := hC.2.1
  intro v1 v2 v3 v4 v5 purse_links hf H locs ls hP hS hl
  unfold f_X4_fewest_70 at hf
  refine lv_iinc (v := v5 + 1) (lv' := [(5, .int (v5 + 1)), (0, .ref (a 4)), (1, .int v1), (2, .int v2), (3, .int v3), (4, .int v4)]) hx hb dX4_fewest_70 hl (k := 5) rfl rfl (by decide) rfl (fun ls hl => ?_)
  refine lv_goto (tgt := 41) hx hb dX4_fewest_73 (by decide) ?_
  exact hk41 v1 v2 v3 v4 (v5 + 1) purse_links hf _ _ _ hP hS (lv_sub hl [1, 2, 3, 4, 5, 0] rfl)
set_option maxHeartbeats 4000000 in
set_option maxRecDepth 100000 in
theorem w_X4_fewest_41 {l : Launch} {p : Program} {e : Env} {s : State} {m : MethodId} {args : Array Value} {below : List Frame} {meth : Method} {c : Code} {A0 : Nat → Prop} {E : rf_E} {a P : Nat → Nat} {I : Nat → Int32} {J : Nat → Int64} {A : Nat → Nat → Int32} {B : Nat → Nat → Int64} {purse_people : Int32} {tc_wordCount : Int32} {tc_personCount : Int32} {rhymes_links : Nat → Int32} {purse_singers : Nat → Int32} {purse_linksBy : Nat → Int32} {z : Int32 × (Nat → Int32)} (hC : rf_C p E s m args meth c cX4_fewest 6 RX4 (some .int) A0) (hD : va_D A0 (cX E a P I J A B)) (hp2 : P 2 = a 10) (e_purse_people : I 8 = purse_people) (e_tc_wordCount : I 23 = tc_wordCount) (e_tc_personCount : I 24 = tc_personCount) (e_rhymes_links : A 3 = rhymes_links) (e_purse_singers : A 8 = purse_singers) (e_purse_linksBy : A 33 = purse_linksBy) {k32 : Int32 → Int32 → Int32 → Int32 → (Nat → Int32) → Option (Int32 × (Nat → Int32))} (hk32 : ∀ (v1 : Int32) (v2 : Int32) (v3 : Int32) (v4 : Int32) (purse_links : Nat → Int32), k32 v1 v2 v3 v4 purse_links = some z → ∀ (H : Heap) (locs : List Loc) (ls : Array Slot), va_P (rf_D E) vwCl (cX E a P I J (rf_upL A [(7, purse_links)]) B) H → va_S A0 s.heap H locs → lv_has ls 6 [(0, .ref (a 4)), (1, .int v1), (2, .int v2), (3, .int v3), (4, .int v4)] → W p l e ({ frames := 17, cells := 0, slots := 0, locals := 399 }) s m args below meth c H locs 0 0 (rf_QI below args s E A0 z.1 (cX E a P I J (rf_upL A [(7, z.2)]) B)) (F0 m 32 ls [])) :
    ∀ (n : Nat), ∀ (v1 : Int32) (v2 : Int32) (v3 : Int32) (v4 : Int32) (v5 : Int32) (purse_links : Nat → Int32), f_X4_fewest_41 k32 purse_people tc_wordCount tc_personCount rhymes_links purse_singers purse_linksBy n v1 v2 v3 v4 v5 purse_links = some z → ∀ (H : Heap) (locs : List Loc) (ls : Array Slot), va_P (rf_D E) vwCl (cX E a P I J (rf_upL A [(7, purse_links)]) B) H → va_S A0 s.heap H locs → lv_has ls 6 [(0, .ref (a 4)), (1, .int v1), (2, .int v2), (3, .int v3), (4, .int v4), (5, .int v5)] → W p l e ({ frames := 17, cells := 0, slots := 0, locals := 399 }) s m args below meth c H locs 0 0 (rf_QI below args s E A0 z.1 (cX E a P I J (rf_upL A [(7, z.2)]) B)) (F0 m 41 ls []) := by
  have hx := hC.1
  have hb := hC.2.1
  intro n
  induction n with
  | zero =>
    intro v1 v2 v3 v4 v5 purse_links hf
    have hf : (none : Option (Int32 × (Nat → Int32))) = some z := hf
    cases hf
  | succ n ih =>
    intro v1 v2 v3 v4 v5 purse_links hf H locs ls hP hS hl
    rw [f_X4_fewest_41] at hf
    refine lv_iload hx hb dX4_fewest_41 (lv_at hl 5 rfl) ?_
    refine lv_iload_n hx hb dX4_fewest_43 rfl (lv_at hl 3 rfl) ?_
    refine lv_icmp_ge (tgt := 76) hx hb dX4_fewest_44 (by decide) (fun c_44 => ?_) (fun c_44 => ?_)
    · have hf := rf_it c_44 hf
      refine lv_iinc (v := v4 + 1) (lv' := [(4, .int (v4 + 1)), (0, .ref (a 4)), (1, .int v1), (2, .int v2), (3, .int v3), (5, .int v5)]) hx hb dX4_fewest_76 hl (k := 4) rfl rfl (by decide) rfl (fun ls hl => ?_)
      refine lv_goto (tgt := 32) hx hb dX4_fewest_79 (by decide) ?_
      exact hk32 v1 v2 v3 (v4 + 1) purse_links hf _ _ _ hP hS (lv_sub hl [1, 2, 3, 4, 0] rfl)
    have hf := rf_ie c_44 hf
    refine lv_iload hx hb dX4_fewest_47 (lv_at hl 5 rfl) ?_
    obtain ⟨z49, hz49, hf⟩ := rf_bd hf
    refine rf_si0 hC (c_J6_bitCount_0f7a4 l E v5 hz49) kS_J6_bitCount_0f7a4 tw_1018 ⟨Nat.le_of_ble_eq_true rfl, Nat.le_of_ble_eq_true rfl⟩ rfl rfl hP hS rfl hl.1 (rest := []) rfl (Nat.le_of_ble_eq_true rfl) dX4_fewest_49 (fun H locs hP hS => ?_)
    refine lv_iload hx hb dX4_fewest_52 (lv_at hl 4 rfl) ?_
    refine lv_icmp_ne (tgt := 70) hx hb dX4_fewest_54 (by decide) (fun c_54 => ?_) (fun c_54 => ?_)
    · have hf := rf_ie c_54 hf
      exact w_X4_fewest_70 hC hD hp2 e_purse_people e_tc_wordCount e_tc_personCount e_rhymes_links e_purse_singers e_purse_linksBy hk32 ih v1 v2 v3 v4 v5 purse_links hf _ _ _ hP hS (lv_sub hl [0, 1, 2, 3, 4, 5] rfl)
    have hf := rf_it c_54 hf
    refine lv_aload_n hx hb dX4_fewest_57 rfl (lv_at hl 0 rfl) ?_
    refine lv_iload hx hb dX4_fewest_58 (lv_at hl 5 rfl) ?_
    refine lv_iload_n hx hb dX4_fewest_60 rfl (lv_at hl 1 rfl) ?_
    obtain ⟨z61, hz61, hf⟩ := rf_bd hf
    refine rf_vi (q0 := 4) (ci := 4) hC (c_X4_isEnough l E a P I J (rf_upL A [(7, purse_links)]) B purse_people tc_wordCount tc_personCount rhymes_links purse_singers purse_linksBy purse_links v5 v1 hp2 e_purse_people e_tc_wordCount e_tc_personCount e_rhymes_links e_purse_singers e_purse_linksBy rfl hz61) kV_X4_isEnough tw_1002 ⟨Nat.le_of_ble_eq_true rfl, Nat.le_of_ble_eq_true rfl⟩ rfl rfl rfl rfl rfl hP (rf_DX hD) hS rfl hl.1 (rest := []) rfl (Nat.le_of_ble_eq_true rfl) dX4_fewest_61 (fun H locs hP hS => ?_)
    rw [rf_cat (f := A) (l := [(7, purse_links)]) (lc := [(7, z61.2)]) (l' := [(7, z61.2)]) rfl] at hP
    refine lv_if_eq (tgt := 70) hx hb dX4_fewest_64 (by decide) (fun c_64 => ?_) (fun c_64 => ?_)
    · have hf := rf_it c_64 hf
      exact w_X4_fewest_70 hC hD hp2 e_purse_people e_tc_wordCount e_tc_personCount e_rhymes_links e_purse_singers e_purse_linksBy hk32 ih v1 v2 v3 v4 v5 z61.2 hf _ _ _ hP hS (lv_sub hl [0, 1, 2, 3, 4, 5] rfl)
    have hf := rf_ie c_64 hf
    refine lv_iload hx hb dX4_fewest_67 (lv_at hl 5 rfl) ?_
    obtain rfl := Option.some.inj hf
    exact rf_reti hC hP hS rfl rfl dX4_fewest_69
set_option maxHeartbeats 4000000 in
set_option maxRecDepth 100000 in
theorem w_X4_fewest_32 {l : Launch} {p : Program} {e : Env} {s : State} {m : MethodId} {args : Array Value} {below : List Frame} {meth : Method} {c : Code} {A0 : Nat → Prop} {E : rf_E} {a P : Nat → Nat} {I : Nat → Int32} {J : Nat → Int64} {A : Nat → Nat → Int32} {B : Nat → Nat → Int64} {purse_people : Int32} {tc_wordCount : Int32} {tc_personCount : Int32} {rhymes_links : Nat → Int32} {purse_singers : Nat → Int32} {purse_linksBy : Nat → Int32} {z : Int32 × (Nat → Int32)} (hC : rf_C p E s m args meth c cX4_fewest 6 RX4 (some .int) A0) (hD : va_D A0 (cX E a P I J A B)) (hp2 : P 2 = a 10) (e_purse_people : I 8 = purse_people) (e_tc_wordCount : I 23 = tc_wordCount) (e_tc_personCount : I 24 = tc_personCount) (e_rhymes_links : A 3 = rhymes_links) (e_purse_singers : A 8 = purse_singers) (e_purse_linksBy : A 33 = purse_linksBy) :
    ∀ (n : Nat), ∀ (v1 : Int32) (v2 : Int32) (v3 : Int32) (v4 : Int32) (purse_links : Nat → Int32), f_X4_fewest_32 purse_people tc_wordCount tc_personCount rhymes_links purse_singers purse_linksBy n v1 v2 v3 v4 purse_links = some z → ∀ (H : Heap) (locs : List Loc) (ls : Array Slot), va_P (rf_D E) vwCl (cX E a P I J (rf_upL A [(7, purse_links)]) B) H → va_S A0 s.heap H locs → lv_has ls 6 [(0, .ref (a 4)), (1, .int v1), (2, .int v2), (3, .int v3), (4, .int v4)] → W p l e ({ frames := 17, cells := 0, slots := 0, locals := 399 }) s m args below meth c H locs 0 0 (rf_QI below args s E A0 z.1 (cX E a P I J (rf_upL A [(7, z.2)]) B)) (F0 m 32 ls []) := by
  have hx := hC.1
  have hb := hC.2.1
  intro n
  induction n with
  | zero =>
    intro v1 v2 v3 v4 purse_links hf
    have hf : (none : Option (Int32 × (Nat → Int32))) = some z := hf
    cases hf
  | succ n ih =>
    intro v1 v2 v3 v4 purse_links hf H locs ls hP hS hl
    rw [f_X4_fewest_32] at hf
    refine lv_iload hx hb dX4_fewest_32 (lv_at hl 4 rfl) ?_
    refine lv_iload_n hx hb dX4_fewest_34 rfl (lv_at hl 2 rfl) ?_
    refine lv_icmp_ge (tgt := 82) hx hb dX4_fewest_35 (by decide) (fun c_35 => ?_) (fun c_35 => ?_)
    · have hf := rf_it c_35 hf
      refine lv_iload_n hx hb dX4_fewest_82 rfl (lv_at hl 3 rfl) ?_
      obtain rfl := Option.some.inj hf
      exact rf_reti hC hP hS rfl rfl dX4_fewest_83
    have hf := rf_ie c_35 hf
    refine lv_iconst (v := 0) hx hb dX4_fewest_38 (by decide) ?_
    refine lv_istore (lv' := [(5, .int 0), (0, .ref (a 4)), (1, .int v1), (2, .int v2), (3, .int v3), (4, .int v4)]) hx hb dX4_fewest_39 hl (by decide) rfl (fun ls hl => ?_)
    exact w_X4_fewest_41 hC hD hp2 e_purse_people e_tc_wordCount e_tc_personCount e_rhymes_links e_purse_singers e_purse_linksBy ih rf_fu v1 v2 v3 v4 0 purse_links hf _ _ _ hP hS (lv_sub hl [1, 2, 3, 4, 5, 0] rfl)
set_option maxHeartbeats 4000000 in
set_option maxRecDepth 100000 in
theorem c_X4_fewest (l : Launch) (E : rf_E) (a P : Nat → Nat) (I : Nat → Int32) (J : Nat → Int64) (A : Nat → Nat → Int32) (B : Nat → Nat → Int64) (purse_people : Int32) (tc_wordCount : Int32) (tc_personCount : Int32) (rhymes_links : Nat → Int32) (purse_singers : Nat → Int32) (purse_linksBy : Nat → Int32) (purse_links : Nat → Int32) (v1 : Int32) {z : Int32 × (Nat → Int32)} (hp2 : P 2 = a 10) (e_purse_people : I 8 = purse_people) (e_tc_wordCount : I 23 = tc_wordCount) (e_tc_personCount : I 24 = tc_personCount) (e_rhymes_links : A 3 = rhymes_links) (e_purse_singers : A 8 = purse_singers) (e_purse_linksBy : A 33 = purse_linksBy) (e_purse_links : A 7 = purse_links) (hf : f_X4_fewest purse_people tc_wordCount tc_personCount rhymes_links purse_singers purse_linksBy purse_links v1 = some z) : rf_MI l yX4_fewest cX4_fewest 6 (some .int) ({ frames := 17, cells := 0, slots := 0, locals := 399 }) E [.ref (a 4), .int v1] (cX E a P I J A B) z.1 (cX E a P I J (rf_upL A [(7, z.2)]) B) := by
  unfold f_X4_fewest at hf
  refine rf_ofI (by decide) (Nat.le_of_ble_eq_true rfl) ?_
  intro p e s m below meth c A0 ls hC hD hP hS hl
  have hC : rf_C p E s m _ meth c cX4_fewest 6 RX4 (some .int) A0 := hC
  have hx := hC.1
  have hb := hC.2.1
  have hl : lv_has ls 6 [(0, .ref (a 4)), (1, .int v1)] := hl
  have hP : va_P (rf_D E) vwCl (cX E a P I J (rf_upL A [(7, purse_links)]) B) s.heap := by
    rw [rf_self (f := A) [(7, purse_links)] (rf_fa1 e_purse_links rf_fa0)]
    exact hP
  refine lv_aload_n hx hb dX4_fewest_0 rfl (lv_at hl 0 rfl) ?_
  refine gX_purse_rhymes hC hP tw_227 dX4_fewest_1 ?_
  refine gX_rhymes_tale hC hP tw_196 (v := a 10) hp2 dX4_fewest_4 ?_
  refine gX_tc_wordCount hC hP tw_122 (v := tc_wordCount) e_tc_wordCount dX4_fewest_7 ?_
  refine lv_istore_n (lv' := [(2, .int tc_wordCount), (0, .ref (a 4)), (1, .int v1)]) hx hb dX4_fewest_10 rfl hl (by decide) rfl (fun ls hl => ?_)
  refine lv_iconst (v := 1) hx hb dX4_fewest_11 (by decide) ?_
  refine lv_iload_n hx hb dX4_fewest_12 rfl (lv_at hl 0 rfl) ?_
  refine lv_ishl hx hb dX4_fewest_13 ?_
  refine lv_iconst (v := 1) hx hb dX4_fewest_14 (by decide) ?_
  refine lv_isub hx hb dX4_fewest_15 ?_
  refine lv_istore_n (lv' := [(3, .int (((1 : Int32) <<< (tc_wordCount &&& 31)) - 1)), (2, .int tc_wordCount), (0, .ref (a 4)), (1, .int v1)]) hx hb dX4_fewest_16 rfl hl (by decide) rfl (fun ls hl => ?_)
  refine lv_aload_n hx hb dX4_fewest_17 rfl (lv_at hl 2 rfl) ?_
  refine lv_iload_n hx hb dX4_fewest_18 rfl (lv_at hl 0 rfl) ?_
  refine lv_iload_n hx hb dX4_fewest_19 rfl (lv_at hl 3 rfl) ?_
  obtain ⟨z20, hz20, hf⟩ := rf_bd hf
  refine rf_vi (q0 := 4) (ci := 4) hC (c_X4_isEnough l E a P I J (rf_upL A [(7, purse_links)]) B purse_people tc_wordCount tc_personCount rhymes_links purse_singers purse_linksBy purse_links (((1 : Int32) <<< (tc_wordCount &&& 31)) - 1) v1 hp2 e_purse_people e_tc_wordCount e_tc_personCount e_rhymes_links e_purse_singers e_purse_linksBy rfl hz20) kV_X4_isEnough tw_1002 ⟨Nat.le_of_ble_eq_true rfl, Nat.le_of_ble_eq_true rfl⟩ rfl rfl rfl rfl rfl hP (rf_DX hD) hS rfl hl.1 (rest := []) rfl (Nat.le_of_ble_eq_true rfl) dX4_fewest_20 (fun H locs hP hS => ?_)
  rw [rf_cat (f := A) (l := [(7, purse_links)]) (lc := [(7, z20.2)]) (l' := [(7, z20.2)]) rfl] at hP
  refine lv_if_ne (tgt := 29) hx hb dX4_fewest_23 (by decide) (fun c_23 => ?_) (fun c_23 => ?_)
  · have hf := rf_ie c_23 hf
    refine lv_iconst (v := 0) hx hb dX4_fewest_29 (by decide) ?_
    refine lv_istore (lv' := [(4, .int 0), (3, .int (((1 : Int32) <<< (tc_wordCount &&& 31)) - 1)), (2, .int tc_wordCount), (0, .ref (a 4)), (1, .int v1)]) hx hb dX4_fewest_30 hl (by decide) rfl (fun ls hl => ?_)
    exact w_X4_fewest_32 hC hD hp2 e_purse_people e_tc_wordCount e_tc_personCount e_rhymes_links e_purse_singers e_purse_linksBy rf_fu v1 tc_wordCount (((1 : Int32) <<< (tc_wordCount &&& 31)) - 1) 0 z20.2 hf _ _ _ hP hS (lv_sub hl [3, 4, 2, 1, 0] rfl)
  have hf := rf_it c_23 hf
  refine lv_bipush (v := (-2)) hx hb dX4_fewest_26 (by decide) ?_
  obtain rfl := Option.some.inj hf
  exact rf_reti hC hP hS rfl rfl dX4_fewest_28
set_option maxHeartbeats 4000000 in
set_option maxRecDepth 100000 in
theorem w_X4_planPairs_32 {l : Launch} {p : Program} {e : Env} {s : State} {m : MethodId} {args : Array Value} {below : List Frame} {meth : Method} {c : Code} {A0 : Nat → Prop} {E : rf_E} {a P : Nat → Nat} {I : Nat → Int32} {J : Nat → Int64} {A : Nat → Nat → Int32} {B : Nat → Nat → Int64} {tc_wordCount : Int32} {tc_personCount : Int32} {now_words : Nat → Int32} {tc_kinds : Nat → Int32} {tc_close : Nat → Int32} {z : Int32 × (Nat → Int32) × (Nat → Int32)} (hC : rf_C p E s m args meth c cX4_planPairs 6 RX4 (none) A0) (hD : va_D A0 (cX E a P I J A B)) (hp2 : P 2 = a 10) (e_tc_wordCount : I 23 = tc_wordCount) (e_tc_personCount : I 24 = tc_personCount) (e_now_words : A 1 = now_words) (e_tc_kinds : A 14 = tc_kinds) (e_tc_close : A 22 = tc_close) {k15 : Int32 → Int32 → Int32 → (Nat → Int32) → (Nat → Int32) → Option (Int32 × (Nat → Int32) × (Nat → Int32))} (hk15 : ∀ (v2 : Int32) (v3 : Int32) (purse_people : Int32) (rhymes_links : Nat → Int32) (purse_linksBy : Nat → Int32), k15 v2 v3 purse_people rhymes_links purse_linksBy = some z → ∀ (H : Heap) (locs : List Loc) (ls : Array Slot), va_P (rf_D E) vwCl (cX E a P (rf_upL I [(8, purse_people)]) J (rf_upL A [(3, rhymes_links), (33, purse_linksBy)]) B) H → va_S A0 s.heap H locs → lv_has ls 6 [(0, .ref (a 4)), (2, .int v2), (3, .int v3)] → W p l e ({ frames := 5, cells := 0, slots := 0, locals := 123 }) s m args below meth c H locs 0 0 (rf_QV below args s E A0 (cX E a P (rf_upL I [(8, z.1)]) J (rf_upL A [(3, z.2.1), (33, z.2.2)]) B)) (F0 m 15 ls [])) :
    ∀ (n : Nat), ∀ (v2 : Int32) (v3 : Int32) (v4 : Int32) (purse_people : Int32) (rhymes_links : Nat → Int32) (purse_linksBy : Nat → Int32), f_X4_planPairs_32 k15 tc_wordCount tc_personCount now_words tc_kinds tc_close n v2 v3 v4 purse_people rhymes_links purse_linksBy = some z → ∀ (H : Heap) (locs : List Loc) (ls : Array Slot), va_P (rf_D E) vwCl (cX E a P (rf_upL I [(8, purse_people)]) J (rf_upL A [(3, rhymes_links), (33, purse_linksBy)]) B) H → va_S A0 s.heap H locs → lv_has ls 6 [(0, .ref (a 4)), (2, .int v2), (3, .int v3), (4, .int v4)] → W p l e ({ frames := 5, cells := 0, slots := 0, locals := 123 }) s m args below meth c H locs 0 0 (rf_QV below args s E A0 (cX E a P (rf_upL I [(8, z.1)]) J (rf_upL A [(3, z.2.1), (33, z.2.2)]) B)) (F0 m 32 ls []) := by
  have hx := hC.1
  have hb := hC.2.1
  intro n
  induction n with
  | zero =>
    intro v2 v3 v4 purse_people rhymes_links purse_linksBy hf
    have hf : (none : Option (Int32 × (Nat → Int32) × (Nat → Int32))) = some z := hf
    cases hf
  | succ n ih =>
    intro v2 v3 v4 purse_people rhymes_links purse_linksBy hf H locs ls hP hS hl
    rw [f_X4_planPairs_32] at hf
    refine lv_iload hx hb dX4_planPairs_32 (lv_at hl 3 rfl) ?_
    refine lv_aload_n hx hb dX4_planPairs_34 rfl (lv_at hl 0 rfl) ?_
    refine gX_purse_rhymes hC hP tw_227 dX4_planPairs_35 ?_
    refine gX_rhymes_tale hC hP tw_196 (v := a 10) hp2 dX4_planPairs_38 ?_
    refine gX_tc_personCount hC hP tw_127 (v := tc_personCount) e_tc_personCount dX4_planPairs_41 ?_
    refine lv_icmp_ge (tgt := 99) hx hb dX4_planPairs_44 (by decide) (fun c_44 => ?_) (fun c_44 => ?_)
    · have hf := rf_it c_44 hf
      refine lv_iinc (v := v3 + 1) (lv' := [(3, .int (v3 + 1)), (0, .ref (a 4)), (2, .int v2), (4, .int v4)]) hx hb dX4_planPairs_99 hl (k := 2) rfl rfl (by decide) rfl (fun ls hl => ?_)
      refine lv_goto (tgt := 15) hx hb dX4_planPairs_102 (by decide) ?_
      exact hk15 v2 (v3 + 1) purse_people rhymes_links purse_linksBy hf _ _ _ hP hS (lv_sub hl [1, 2, 0] rfl)
    have hf := rf_ie c_44 hf
    refine lv_aload_n hx hb dX4_planPairs_47 rfl (lv_at hl 0 rfl) ?_
    refine gX_purse_rhymes hC hP tw_227 dX4_planPairs_48 ?_
    refine gX_rhymes_now hC hP tw_188 dX4_planPairs_51 ?_
    refine gX_now_words hC hP tw_52 dX4_planPairs_54 ?_
    refine lv_iload hx hb dX4_planPairs_57 (lv_at hl 3 rfl) ?_
    obtain ⟨hi_59, hf⟩ := rf_gu hf
    refine lX_now_words hC hP hi_59 (f := now_words) e_now_words dX4_planPairs_59 ?_
    refine lv_iconst (v := 1) hx hb dX4_planPairs_60 (by decide) ?_
    refine lv_iload_n hx hb dX4_planPairs_61 rfl (lv_at hl 2 rfl) ?_
    refine lv_ishl hx hb dX4_planPairs_62 ?_
    refine lv_ior hx hb dX4_planPairs_63 ?_
    refine lv_istore (lv' := [(5, .int ((now_words (Int32.toNatClampNeg v4)) ||| ((1 : Int32) <<< (v3 &&& 31)))), (0, .ref (a 4)), (2, .int v2), (3, .int v3), (4, .int v4)]) hx hb dX4_planPairs_64 hl (by decide) rfl (fun ls hl => ?_)
    refine lv_aload_n hx hb dX4_planPairs_66 rfl (lv_at hl 1 rfl) ?_
    refine gX_purse_linksBy hC hP tw_231 dX4_planPairs_67 ?_
    refine lv_iload_n hx hb dX4_planPairs_70 rfl (lv_at hl 3 rfl) ?_
    refine lv_bipush (v := 8) hx hb dX4_planPairs_71 (by decide) ?_
    refine lv_imul hx hb dX4_planPairs_73 ?_
    refine lv_iload hx hb dX4_planPairs_74 (lv_at hl 4 rfl) ?_
    refine lv_iadd hx hb dX4_planPairs_76 ?_
    refine lv_aload_n hx hb dX4_planPairs_77 rfl (lv_at hl 1 rfl) ?_
    refine gX_purse_rhymes hC hP tw_227 dX4_planPairs_78 ?_
    refine lv_iload hx hb dX4_planPairs_81 (lv_at hl 4 rfl) ?_
    refine lv_iload hx hb dX4_planPairs_83 (lv_at hl 0 rfl) ?_
    refine lv_iconst (v := 1) hx hb dX4_planPairs_85 (by decide) ?_
    refine lv_iload_n hx hb dX4_planPairs_86 rfl (lv_at hl 3 rfl) ?_
    refine lv_ishl hx hb dX4_planPairs_87 ?_
    refine lv_iload_n hx hb dX4_planPairs_88 rfl (lv_at hl 2 rfl) ?_
    obtain ⟨z89, hz89, hf⟩ := rf_bd hf
    refine rf_vi (q0 := 2) (ci := 6) hC (c_X6_metBy l E a P (rf_upL I [(8, purse_people)]) J (rf_upL A [(3, rhymes_links), (33, purse_linksBy)]) B tc_wordCount tc_personCount now_words tc_kinds tc_close v4 ((now_words (Int32.toNatClampNeg v4)) ||| ((1 : Int32) <<< (v3 &&& 31))) ((1 : Int32) <<< (v3 &&& 31)) v2 hp2 e_tc_wordCount e_tc_personCount e_now_words e_tc_kinds e_tc_close hz89) kV_X6_metBy tw_997 ⟨Nat.le_of_ble_eq_true rfl, Nat.le_of_ble_eq_true rfl⟩ rfl rfl rfl rfl rfl hP (rf_DX hD) hS rfl hl.1 (rest := [.int ((v3 * 8) + v4), .ref (a 52)]) rfl (Nat.le_of_ble_eq_true rfl) dX4_planPairs_89 (fun H locs hP hS => ?_)
    obtain ⟨hi_92, hf⟩ := rf_gu hf
    refine sX_purse_linksBy hC hD hP hS hi_92 (f := purse_linksBy) rfl dX4_planPairs_92 (rf_upL A [(3, rhymes_links), (33, upd purse_linksBy (Int32.toNatClampNeg ((v3 * 8) + v4)) z89)]) (rf_put rfl) (fun H locs hP hS => ?_)
    refine lv_iinc (v := v4 + 1) (lv' := [(4, .int (v4 + 1)), (5, .int ((now_words (Int32.toNatClampNeg v4)) ||| ((1 : Int32) <<< (v3 &&& 31)))), (0, .ref (a 4)), (2, .int v2), (3, .int v3)]) hx hb dX4_planPairs_93 hl (k := 4) rfl rfl (by decide) rfl (fun ls hl => ?_)
    refine lv_goto (tgt := 32) hx hb dX4_planPairs_96 (by decide) ?_
    exact ih v2 v3 (v4 + 1) purse_people rhymes_links (upd purse_linksBy (Int32.toNatClampNeg ((v3 * 8) + v4)) z89) hf _ _ _ hP hS (lv_sub hl [2, 3, 4, 0] rfl)
set_option maxHeartbeats 4000000 in
set_option maxRecDepth 100000 in
theorem w_X4_planPairs_15 {l : Launch} {p : Program} {e : Env} {s : State} {m : MethodId} {args : Array Value} {below : List Frame} {meth : Method} {c : Code} {A0 : Nat → Prop} {E : rf_E} {a P : Nat → Nat} {I : Nat → Int32} {J : Nat → Int64} {A : Nat → Nat → Int32} {B : Nat → Nat → Int64} {tc_wordCount : Int32} {tc_personCount : Int32} {now_words : Nat → Int32} {tc_kinds : Nat → Int32} {tc_close : Nat → Int32} {z : Int32 × (Nat → Int32) × (Nat → Int32)} (hC : rf_C p E s m args meth c cX4_planPairs 6 RX4 (none) A0) (hD : va_D A0 (cX E a P I J A B)) (hp2 : P 2 = a 10) (e_tc_wordCount : I 23 = tc_wordCount) (e_tc_personCount : I 24 = tc_personCount) (e_now_words : A 1 = now_words) (e_tc_kinds : A 14 = tc_kinds) (e_tc_close : A 22 = tc_close) :
    ∀ (n : Nat), ∀ (v2 : Int32) (v3 : Int32) (purse_people : Int32) (rhymes_links : Nat → Int32) (purse_linksBy : Nat → Int32), f_X4_planPairs_15 tc_wordCount tc_personCount now_words tc_kinds tc_close n v2 v3 purse_people rhymes_links purse_linksBy = some z → ∀ (H : Heap) (locs : List Loc) (ls : Array Slot), va_P (rf_D E) vwCl (cX E a P (rf_upL I [(8, purse_people)]) J (rf_upL A [(3, rhymes_links), (33, purse_linksBy)]) B) H → va_S A0 s.heap H locs → lv_has ls 6 [(0, .ref (a 4)), (2, .int v2), (3, .int v3)] → W p l e ({ frames := 5, cells := 0, slots := 0, locals := 123 }) s m args below meth c H locs 0 0 (rf_QV below args s E A0 (cX E a P (rf_upL I [(8, z.1)]) J (rf_upL A [(3, z.2.1), (33, z.2.2)]) B)) (F0 m 15 ls []) := by
  have hx := hC.1
  have hb := hC.2.1
  intro n
  induction n with
  | zero =>
    intro v2 v3 purse_people rhymes_links purse_linksBy hf
    have hf : (none : Option (Int32 × (Nat → Int32) × (Nat → Int32))) = some z := hf
    cases hf
  | succ n ih =>
    intro v2 v3 purse_people rhymes_links purse_linksBy hf H locs ls hP hS hl
    rw [f_X4_planPairs_15] at hf
    refine lv_iload_n hx hb dX4_planPairs_15 rfl (lv_at hl 2 rfl) ?_
    refine lv_aload_n hx hb dX4_planPairs_16 rfl (lv_at hl 0 rfl) ?_
    refine gX_purse_rhymes hC hP tw_227 dX4_planPairs_17 ?_
    refine gX_rhymes_tale hC hP tw_196 (v := a 10) hp2 dX4_planPairs_20 ?_
    refine gX_tc_wordCount hC hP tw_122 (v := tc_wordCount) e_tc_wordCount dX4_planPairs_23 ?_
    refine lv_icmp_ge (tgt := 105) hx hb dX4_planPairs_26 (by decide) (fun c_26 => ?_) (fun c_26 => ?_)
    · have hf := rf_it c_26 hf
      obtain rfl := Option.some.inj hf
      exact rf_retv hC hP hS rfl dX4_planPairs_105
    have hf := rf_ie c_26 hf
    refine lv_iconst (v := 0) hx hb dX4_planPairs_29 (by decide) ?_
    refine lv_istore (lv' := [(4, .int 0), (0, .ref (a 4)), (2, .int v2), (3, .int v3)]) hx hb dX4_planPairs_30 hl (by decide) rfl (fun ls hl => ?_)
    exact w_X4_planPairs_32 hC hD hp2 e_tc_wordCount e_tc_personCount e_now_words e_tc_kinds e_tc_close ih rf_fu v2 v3 0 purse_people rhymes_links purse_linksBy hf _ _ _ hP hS (lv_sub hl [1, 2, 3, 0] rfl)
set_option maxHeartbeats 4000000 in
set_option maxRecDepth 100000 in
theorem c_X4_planPairs (l : Launch) (E : rf_E) (a P : Nat → Nat) (I : Nat → Int32) (J : Nat → Int64) (A : Nat → Nat → Int32) (B : Nat → Nat → Int64) (tc_wordCount : Int32) (tc_personCount : Int32) (now_words : Nat → Int32) (tc_kinds : Nat → Int32) (tc_close : Nat → Int32) (purse_people : Int32) (rhymes_links : Nat → Int32) (purse_linksBy : Nat → Int32) (v1 : Int32) (v2 : Int32) {z : Int32 × (Nat → Int32) × (Nat → Int32)} (hp2 : P 2 = a 10) (e_tc_wordCount : I 23 = tc_wordCount) (e_tc_personCount : I 24 = tc_personCount) (e_now_words : A 1 = now_words) (e_tc_kinds : A 14 = tc_kinds) (e_tc_close : A 22 = tc_close) (e_purse_people : I 8 = purse_people) (e_rhymes_links : A 3 = rhymes_links) (e_purse_linksBy : A 33 = purse_linksBy) (hf : f_X4_planPairs tc_wordCount tc_personCount now_words tc_kinds tc_close purse_people rhymes_links purse_linksBy v1 v2 = some z) : rf_MV l yX4_planPairs cX4_planPairs 6 ({ frames := 5, cells := 0, slots := 0, locals := 123 }) E [.ref (a 4), .int v1, .int v2] (cX E a P I J A B) (cX E a P (rf_upL I [(8, z.1)]) J (rf_upL A [(3, z.2.1), (33, z.2.2)]) B) := by
  unfold f_X4_planPairs at hf
  refine rf_ofV (by decide) (Nat.le_of_ble_eq_true rfl) ?_
  intro p e s m below meth c A0 ls hC hD hP hS hl
  have hC : rf_C p E s m _ meth c cX4_planPairs 6 RX4 (none) A0 := hC
  have hx := hC.1
  have hb := hC.2.1
  have hl : lv_has ls 6 [(0, .ref (a 4)), (1, .int v1), (2, .int v2)] := hl
  have hP : va_P (rf_D E) vwCl (cX E a P (rf_upL I [(8, purse_people)]) J (rf_upL A [(3, rhymes_links), (33, purse_linksBy)]) B) s.heap := by
    rw [rf_self (f := I) [(8, purse_people)] (rf_fa1 e_purse_people rf_fa0)]
    rw [rf_self (f := A) [(3, rhymes_links), (33, purse_linksBy)] (rf_fa1 e_rhymes_links (rf_fa1 e_purse_linksBy rf_fa0))]
    exact hP
  refine lv_aload_n hx hb dX4_planPairs_0 rfl (lv_at hl 0 rfl) ?_
  refine lv_iload_n hx hb dX4_planPairs_1 rfl (lv_at hl 1 rfl) ?_
  refine pX_purse_people hC hD hP hS tw_233 dX4_planPairs_2 (rf_upL I [(8, v1)]) (rf_put rfl) (fun H locs hP hS => ?_)
  refine lv_aload_n hx hb dX4_planPairs_5 rfl (lv_at hl 0 rfl) ?_
  refine gX_purse_rhymes hC hP tw_227 dX4_planPairs_6 ?_
  refine lv_iload_n hx hb dX4_planPairs_9 rfl (lv_at hl 2 rfl) ?_
  obtain ⟨z10, hz10, hf⟩ := rf_bd hf
  refine rf_vv (q0 := 2) (ci := 6) hC (c_X6_link l E a P (rf_upL I [(8, v1)]) J (rf_upL A [(3, rhymes_links), (33, purse_linksBy)]) B tc_wordCount tc_personCount now_words tc_kinds tc_close rhymes_links v2 hp2 e_tc_wordCount e_tc_personCount e_now_words e_tc_kinds e_tc_close rfl hz10) kV_X6_link tw_996 ⟨Nat.le_of_ble_eq_true rfl, Nat.le_of_ble_eq_true rfl⟩ rfl rfl rfl rfl rfl hP (rf_DX hD) hS rfl hl.1 (rest := []) rfl (Nat.le_of_ble_eq_true rfl) dX4_planPairs_10 (fun H locs hP hS => ?_)
  rw [rf_cat (f := A) (l := [(3, rhymes_links), (33, purse_linksBy)]) (lc := [(3, z10)]) (l' := [(3, z10), (33, purse_linksBy)]) rfl] at hP
  refine lv_iconst (v := 0) hx hb dX4_planPairs_13 (by decide) ?_
  refine lv_istore_n (lv' := [(3, .int 0), (0, .ref (a 4)), (1, .int v1), (2, .int v2)]) hx hb dX4_planPairs_14 rfl hl (by decide) rfl (fun ls hl => ?_)
  exact w_X4_planPairs_15 hC hD hp2 e_tc_wordCount e_tc_personCount e_now_words e_tc_kinds e_tc_close rf_fu v2 0 v1 z10 purse_linksBy hf _ _ _ hP hS (lv_sub hl [1, 3, 0] rfl)
set_option maxHeartbeats 4000000 in
set_option maxRecDepth 100000 in
theorem c_X10_keep (l : Launch) (E : rf_E) (a P : Nat → Nat) (I : Nat → Int32) (J : Nat → Int64) (A : Nat → Nat → Int32) (B : Nat → Nat → Int64) (now_everybody : Int32) (now_far : Int32) (tc_ear : Int32) (tc_wordCount : Int32) (tc_personCount : Int32) (now_words : Nat → Int32) (purse_singers : Nat → Int32) (tc_kinds : Nat → Int32) (tc_hourEars : Nat → Int32) (tc_close : Nat → Int32) (x_lastTrouble : Int32) (purse_people : Int32) (rhymes_links : Nat → Int32) (purse_links : Nat → Int32) (purse_linksBy : Nat → Int32) (v1 : Int32) (v2 : Int32) {z : Int32 × Int32 × Int32 × (Nat → Int32) × (Nat → Int32) × (Nat → Int32)} (hp0 : P 0 = a 10) (hp2 : P 2 = a 10) (e_now_everybody : I 6 = now_everybody) (e_now_far : I 7 = now_far) (e_tc_ear : I 21 = tc_ear) (e_tc_wordCount : I 23 = tc_wordCount) (e_tc_personCount : I 24 = tc_personCount) (e_now_words : A 1 = now_words) (e_purse_singers : A 8 = purse_singers) (e_tc_kinds : A 14 = tc_kinds) (e_tc_hourEars : A 18 = tc_hourEars) (e_tc_close : A 22 = tc_close) (e_x_lastTrouble : I 3 = x_lastTrouble) (e_purse_people : I 8 = purse_people) (e_rhymes_links : A 3 = rhymes_links) (e_purse_links : A 7 = purse_links) (e_purse_linksBy : A 33 = purse_linksBy) (hf : f_X10_keep now_everybody now_far tc_ear tc_wordCount tc_personCount now_words purse_singers tc_kinds tc_hourEars tc_close x_lastTrouble purse_people rhymes_links purse_links purse_linksBy v1 v2 = some z) : rf_MI l yX10_keep cX10_keep 3 (some .int) ({ frames := 18, cells := 0, slots := 0, locals := 424 }) E [.ref (a 0), .int v1, .int v2] (cX E a P I J A B) z.1 (cX E a P (rf_upL I [(3, z.2.1), (8, z.2.2.1)]) J (rf_upL A [(3, z.2.2.2.1), (7, z.2.2.2.2.1), (33, z.2.2.2.2.2)]) B) := by
  unfold f_X10_keep at hf
  refine rf_ofI (by decide) (Nat.le_of_ble_eq_true rfl) ?_
  intro p e s m below meth c A0 ls hC hD hP hS hl
  have hC : rf_C p E s m _ meth c cX10_keep 3 RX10 (some .int) A0 := hC
  have hx := hC.1
  have hb := hC.2.1
  have hl : lv_has ls 3 [(0, .ref (a 0)), (1, .int v1), (2, .int v2)] := hl
  have hP : va_P (rf_D E) vwCl (cX E a P (rf_upL I [(3, x_lastTrouble), (8, purse_people)]) J (rf_upL A [(3, rhymes_links), (7, purse_links), (33, purse_linksBy)]) B) s.heap := by
    rw [rf_self (f := I) [(3, x_lastTrouble), (8, purse_people)] (rf_fa1 e_x_lastTrouble (rf_fa1 e_purse_people rf_fa0))]
    rw [rf_self (f := A) [(3, rhymes_links), (7, purse_links), (33, purse_linksBy)] (rf_fa1 e_rhymes_links (rf_fa1 e_purse_links (rf_fa1 e_purse_linksBy rf_fa0)))]
    exact hP
  refine lv_aload_n hx hb dX10_keep_0 rfl (lv_at hl 0 rfl) ?_
  refine lv_aload_n hx hb dX10_keep_1 rfl (lv_at hl 0 rfl) ?_
  refine lv_iload_n hx hb dX10_keep_2 rfl (lv_at hl 1 rfl) ?_
  obtain ⟨z3, hz3, hf⟩ := rf_bd hf
  refine rf_vi (q0 := 0) (ci := 10) hC (c_X10_isBank l E a P (rf_upL I [(3, x_lastTrouble), (8, purse_people)]) J (rf_upL A [(3, rhymes_links), (7, purse_links), (33, purse_linksBy)]) B tc_personCount v1 hp0 e_tc_personCount hz3) kV_X10_isBank tw_901 ⟨Nat.le_of_ble_eq_true rfl, Nat.le_of_ble_eq_true rfl⟩ rfl rfl rfl rfl rfl hP (rf_DX hD) hS rfl hl.1 (rest := [.ref (a 0)]) rfl (Nat.le_of_ble_eq_true rfl) dX10_keep_3 (fun H locs hP hS => ?_)
  refine lv_aload_n hx hb dX10_keep_6 rfl (lv_at hl 0 rfl) ?_
  refine lv_iload_n hx hb dX10_keep_7 rfl (lv_at hl 2 rfl) ?_
  obtain ⟨z8, hz8, hf⟩ := rf_bd hf
  refine rf_vi (q0 := 0) (ci := 10) hC (c_X10_isHour l E a P (rf_upL I [(3, x_lastTrouble), (8, purse_people)]) J (rf_upL A [(3, rhymes_links), (7, purse_links), (33, purse_linksBy)]) B v2 hz8) kV_X10_isHour tw_766 ⟨Nat.le_of_ble_eq_true rfl, Nat.le_of_ble_eq_true rfl⟩ rfl rfl rfl rfl rfl hP (rf_DX hD) hS rfl hl.1 (rest := [.int z3, .ref (a 0)]) rfl (Nat.le_of_ble_eq_true rfl) dX10_keep_8 (fun H locs hP hS => ?_)
  obtain ⟨z11, hz11, hf⟩ := rf_bd hf
  refine rf_vi (q0 := 0) (ci := 10) hC (c_X10_refused l E a P (rf_upL I [(3, x_lastTrouble), (8, purse_people)]) J (rf_upL A [(3, rhymes_links), (7, purse_links), (33, purse_linksBy)]) B x_lastTrouble z3 z8 rfl hz11) kV_X10_refused tw_455 ⟨Nat.le_of_ble_eq_true rfl, Nat.le_of_ble_eq_true rfl⟩ rfl rfl rfl rfl rfl hP (rf_DX hD) hS rfl hl.1 (rest := []) rfl (Nat.le_of_ble_eq_true rfl) dX10_keep_11 (fun H locs hP hS => ?_)
  rw [rf_cat (f := I) (l := [(3, x_lastTrouble), (8, purse_people)]) (lc := [(3, z11.2)]) (l' := [(3, z11.2), (8, purse_people)]) rfl] at hP
  refine lv_if_eq (tgt := 19) hx hb dX10_keep_14 (by decide) (fun c_14 => ?_) (fun c_14 => ?_)
  · have hf := rf_it c_14 hf
    refine lv_aload_n hx hb dX10_keep_19 rfl (lv_at hl 0 rfl) ?_
    refine gX_x_purse hC hP tw_395 dX10_keep_20 ?_
    refine lv_aload_n hx hb dX10_keep_23 rfl (lv_at hl 0 rfl) ?_
    refine gX_x_now hC hP tw_392 dX10_keep_24 ?_
    refine lv_iload_n hx hb dX10_keep_27 rfl (lv_at hl 1 rfl) ?_
    obtain ⟨z28, hz28, hf⟩ := rf_bd hf
    refine rf_vi (q0 := 1) (ci := 2) hC (c_X2_onBank l E a P (rf_upL I [(3, z11.2), (8, purse_people)]) J (rf_upL A [(3, rhymes_links), (7, purse_links), (33, purse_linksBy)]) B now_everybody now_far v1 e_now_everybody e_now_far hz28) kV_X2_onBank tw_905 ⟨Nat.le_of_ble_eq_true rfl, Nat.le_of_ble_eq_true rfl⟩ rfl rfl rfl rfl rfl hP (rf_DX hD) hS rfl hl.1 (rest := [.ref (a 4)]) rfl (Nat.le_of_ble_eq_true rfl) dX10_keep_28 (fun H locs hP hS => ?_)
    refine lv_aload_n hx hb dX10_keep_31 rfl (lv_at hl 0 rfl) ?_
    refine gX_x_tale hC hP tw_401 (v := a 10) hp0 dX10_keep_32 ?_
    refine lv_iload_n hx hb dX10_keep_35 rfl (lv_at hl 2 rfl) ?_
    obtain ⟨z36, hz36, hf⟩ := rf_bd hf
    refine rf_vi (q0 := 10) (ci := 9) hC (c_X9_earAt_tc l E a P (rf_upL I [(3, z11.2), (8, purse_people)]) J (rf_upL A [(3, rhymes_links), (7, purse_links), (33, purse_linksBy)]) B tc_ear tc_hourEars v2 e_tc_ear e_tc_hourEars hz36) kV_X9_earAt tw_770 ⟨Nat.le_of_ble_eq_true rfl, Nat.le_of_ble_eq_true rfl⟩ rfl rfl rfl rfl rfl hP (rf_DX hD) hS rfl hl.1 (rest := [.int z28, .ref (a 4)]) rfl (Nat.le_of_ble_eq_true rfl) dX10_keep_36 (fun H locs hP hS => ?_)
    obtain ⟨z39, hz39, hf⟩ := rf_bd hf
    refine rf_vv (q0 := 4) (ci := 4) hC (c_X4_planPairs l E a P (rf_upL I [(3, z11.2), (8, purse_people)]) J (rf_upL A [(3, rhymes_links), (7, purse_links), (33, purse_linksBy)]) B tc_wordCount tc_personCount now_words tc_kinds tc_close purse_people rhymes_links purse_linksBy z28 z36 hp2 e_tc_wordCount e_tc_personCount e_now_words e_tc_kinds e_tc_close rfl rfl rfl hz39) kV_X4_planPairs tw_992 ⟨Nat.le_of_ble_eq_true rfl, Nat.le_of_ble_eq_true rfl⟩ rfl rfl rfl rfl rfl hP (rf_DX hD) hS rfl hl.1 (rest := []) rfl (Nat.le_of_ble_eq_true rfl) dX10_keep_39 (fun H locs hP hS => ?_)
    rw [rf_cat (f := I) (l := [(3, z11.2), (8, purse_people)]) (lc := [(8, z39.1)]) (l' := [(3, z11.2), (8, z39.1)]) rfl] at hP
    rw [rf_cat (f := A) (l := [(3, rhymes_links), (7, purse_links), (33, purse_linksBy)]) (lc := [(3, z39.2.1), (33, z39.2.2)]) (l' := [(3, z39.2.1), (7, purse_links), (33, z39.2.2)]) rfl] at hP
    refine lv_aload_n hx hb dX10_keep_42 rfl (lv_at hl 0 rfl) ?_
    refine gX_x_purse hC hP tw_395 dX10_keep_43 ?_
    refine lv_iconst (v := 0) hx hb dX10_keep_46 (by decide) ?_
    obtain ⟨z47, hz47, hf⟩ := rf_bd hf
    refine rf_vi (q0 := 4) (ci := 4) hC (c_X4_fewest l E a P (rf_upL I [(3, z11.2), (8, z39.1)]) J (rf_upL A [(3, z39.2.1), (7, purse_links), (33, z39.2.2)]) B z39.1 tc_wordCount tc_personCount z39.2.1 purse_singers z39.2.2 purse_links 0 hp2 rfl e_tc_wordCount e_tc_personCount rfl e_purse_singers rfl rfl hz47) kV_X4_fewest tw_998 ⟨Nat.le_of_ble_eq_true rfl, Nat.le_of_ble_eq_true rfl⟩ rfl rfl rfl rfl rfl hP (rf_DX hD) hS rfl hl.1 (rest := []) rfl (Nat.le_of_ble_eq_true rfl) dX10_keep_47 (fun H locs hP hS => ?_)
    rw [rf_cat (f := A) (l := [(3, z39.2.1), (7, purse_links), (33, z39.2.2)]) (lc := [(7, z47.2)]) (l' := [(3, z39.2.1), (7, z47.2), (33, z39.2.2)]) rfl] at hP
    obtain rfl := Option.some.inj hf
    exact rf_reti hC hP hS rfl rfl dX10_keep_50
  have hf := rf_ie c_14 hf
  refine lv_iconst (v := (-1)) hx hb dX10_keep_17 (by decide) ?_
  obtain rfl := Option.some.inj hf
  exact rf_reti hC hP hS rfl rfl dX10_keep_18
set_option maxHeartbeats 4000000 in
set_option maxRecDepth 100000 in
theorem w_X4_planSinging_96 {l : Launch} {p : Program} {e : Env} {s : State} {m : MethodId} {args : Array Value} {below : List Frame} {meth : Method} {c : Code} {A0 : Nat → Prop} {E : rf_E} {a P : Nat → Nat} {I : Nat → Int32} {J : Nat → Int64} {A : Nat → Nat → Int32} {B : Nat → Nat → Int64} {tc_wordCount : Int32} {tc_personCount : Int32} {now_words : Nat → Int32} {tc_kinds : Nat → Int32} {tc_close : Nat → Int32} {z : Int32 × (Nat → Int32)} (hC : rf_C p E s m args meth c cX4_planSinging 7 RX4 (none) A0) (hD : va_D A0 (cX E a P I J A B)) (hp2 : P 2 = a 10) (e_tc_wordCount : I 23 = tc_wordCount) (e_tc_personCount : I 24 = tc_personCount) (e_now_words : A 1 = now_words) (e_tc_kinds : A 14 = tc_kinds) (e_tc_close : A 22 = tc_close) {k16 : Int32 → Int32 → Int32 → (Nat → Int32) → Option (Int32 × (Nat → Int32))} (hk16 : ∀ (v2 : Int32) (v4 : Int32) (purse_people : Int32) (purse_singers : Nat → Int32), k16 v2 v4 purse_people purse_singers = some z → ∀ (H : Heap) (locs : List Loc) (ls : Array Slot), va_P (rf_D E) vwCl (cX E a P (rf_upL I [(8, purse_people)]) J (rf_upL A [(8, purse_singers)]) B) H → va_S A0 s.heap H locs → lv_has ls 7 [(0, .ref (a 4)), (2, .int v2), (3, .ref (a 10)), (4, .int v4)] → W p l e ({ frames := 2, cells := 0, slots := 0, locals := 52 }) s m args below meth c H locs 0 0 (rf_QV below args s E A0 (cX E a P (rf_upL I [(8, z.1)]) J (rf_upL A [(8, z.2)]) B)) (F0 m 16 ls [])) {k36 : Int32 → Int32 → Int32 → Int32 → (Nat → Int32) → Option (Int32 × (Nat → Int32))} (hk36 : ∀ (v2 : Int32) (v4 : Int32) (v5 : Int32) (purse_people : Int32) (purse_singers : Nat → Int32), k36 v2 v4 v5 purse_people purse_singers = some z → ∀ (H : Heap) (locs : List Loc) (ls : Array Slot), va_P (rf_D E) vwCl (cX E a P (rf_upL I [(8, purse_people)]) J (rf_upL A [(8, purse_singers)]) B) H → va_S A0 s.heap H locs → lv_has ls 7 [(0, .ref (a 4)), (2, .int v2), (3, .ref (a 10)), (4, .int v4), (5, .int v5)] → W p l e ({ frames := 2, cells := 0, slots := 0, locals := 52 }) s m args below meth c H locs 0 0 (rf_QV below args s E A0 (cX E a P (rf_upL I [(8, z.1)]) J (rf_upL A [(8, z.2)]) B)) (F0 m 36 ls [])) :
    ∀ (v2 : Int32) (v4 : Int32) (v5 : Int32) (purse_people : Int32) (purse_singers : Nat → Int32), f_X4_planSinging_96 k16 k36 tc_wordCount tc_personCount now_words tc_kinds tc_close v2 v4 v5 purse_people purse_singers = some z → ∀ (H : Heap) (locs : List Loc) (ls : Array Slot), va_P (rf_D E) vwCl (cX E a P (rf_upL I [(8, purse_people)]) J (rf_upL A [(8, purse_singers)]) B) H → va_S A0 s.heap H locs → lv_has ls 7 [(0, .ref (a 4)), (2, .int v2), (3, .ref (a 10)), (4, .int v4), (5, .int v5)] → W p l e ({ frames := 2, cells := 0, slots := 0, locals := 52 }) s m args below meth c H locs 0 0 (rf_QV below args s E A0 (cX E a P (rf_upL I [(8, z.1)]) J (rf_upL A [(8, z.2)]) B)) (F0 m 96 ls []) := by
  have hx := hC.1
  have hb := hC.2.1
  intro v2 v4 v5 purse_people purse_singers hf H locs ls hP hS hl
  unfold f_X4_planSinging_96 at hf
  refine lv_iinc (v := v5 + 1) (lv' := [(5, .int (v5 + 1)), (0, .ref (a 4)), (2, .int v2), (3, .ref (a 10)), (4, .int v4)]) hx hb dX4_planSinging_96 hl (k := 4) rfl rfl (by decide) rfl (fun ls hl => ?_)
  refine lv_goto (tgt := 36) hx hb dX4_planSinging_99 (by decide) ?_
  exact hk36 v2 v4 (v5 + 1) purse_people purse_singers hf _ _ _ hP hS (lv_sub hl [1, 2, 3, 4, 0] rfl)
set_option maxHeartbeats 4000000 in
set_option maxRecDepth 100000 in
theorem w_X4_planSinging_36 {l : Launch} {p : Program} {e : Env} {s : State} {m : MethodId} {args : Array Value} {below : List Frame} {meth : Method} {c : Code} {A0 : Nat → Prop} {E : rf_E} {a P : Nat → Nat} {I : Nat → Int32} {J : Nat → Int64} {A : Nat → Nat → Int32} {B : Nat → Nat → Int64} {tc_wordCount : Int32} {tc_personCount : Int32} {now_words : Nat → Int32} {tc_kinds : Nat → Int32} {tc_close : Nat → Int32} {z : Int32 × (Nat → Int32)} (hC : rf_C p E s m args meth c cX4_planSinging 7 RX4 (none) A0) (hD : va_D A0 (cX E a P I J A B)) (hp2 : P 2 = a 10) (e_tc_wordCount : I 23 = tc_wordCount) (e_tc_personCount : I 24 = tc_personCount) (e_now_words : A 1 = now_words) (e_tc_kinds : A 14 = tc_kinds) (e_tc_close : A 22 = tc_close) {k16 : Int32 → Int32 → Int32 → (Nat → Int32) → Option (Int32 × (Nat → Int32))} (hk16 : ∀ (v2 : Int32) (v4 : Int32) (purse_people : Int32) (purse_singers : Nat → Int32), k16 v2 v4 purse_people purse_singers = some z → ∀ (H : Heap) (locs : List Loc) (ls : Array Slot), va_P (rf_D E) vwCl (cX E a P (rf_upL I [(8, purse_people)]) J (rf_upL A [(8, purse_singers)]) B) H → va_S A0 s.heap H locs → lv_has ls 7 [(0, .ref (a 4)), (2, .int v2), (3, .ref (a 10)), (4, .int v4)] → W p l e ({ frames := 2, cells := 0, slots := 0, locals := 52 }) s m args below meth c H locs 0 0 (rf_QV below args s E A0 (cX E a P (rf_upL I [(8, z.1)]) J (rf_upL A [(8, z.2)]) B)) (F0 m 16 ls [])) :
    ∀ (n : Nat), ∀ (v2 : Int32) (v4 : Int32) (v5 : Int32) (purse_people : Int32) (purse_singers : Nat → Int32), f_X4_planSinging_36 k16 tc_wordCount tc_personCount now_words tc_kinds tc_close n v2 v4 v5 purse_people purse_singers = some z → ∀ (H : Heap) (locs : List Loc) (ls : Array Slot), va_P (rf_D E) vwCl (cX E a P (rf_upL I [(8, purse_people)]) J (rf_upL A [(8, purse_singers)]) B) H → va_S A0 s.heap H locs → lv_has ls 7 [(0, .ref (a 4)), (2, .int v2), (3, .ref (a 10)), (4, .int v4), (5, .int v5)] → W p l e ({ frames := 2, cells := 0, slots := 0, locals := 52 }) s m args below meth c H locs 0 0 (rf_QV below args s E A0 (cX E a P (rf_upL I [(8, z.1)]) J (rf_upL A [(8, z.2)]) B)) (F0 m 36 ls []) := by
  have hx := hC.1
  have hb := hC.2.1
  intro n
  induction n with
  | zero =>
    intro v2 v4 v5 purse_people purse_singers hf
    have hf : (none : Option (Int32 × (Nat → Int32))) = some z := hf
    cases hf
  | succ n ih =>
    intro v2 v4 v5 purse_people purse_singers hf H locs ls hP hS hl
    rw [f_X4_planSinging_36] at hf
    refine lv_iload hx hb dX4_planSinging_36 (lv_at hl 4 rfl) ?_
    refine lv_aload_n hx hb dX4_planSinging_38 rfl (lv_at hl 2 rfl) ?_
    refine gX_tc_personCount hC hP tw_127 (v := tc_personCount) e_tc_personCount dX4_planSinging_39 ?_
    refine lv_icmp_ge (tgt := 102) hx hb dX4_planSinging_42 (by decide) (fun c_42 => ?_) (fun c_42 => ?_)
    · have hf := rf_it c_42 hf
      refine lv_iinc (v := v4 + 1) (lv' := [(4, .int (v4 + 1)), (0, .ref (a 4)), (2, .int v2), (3, .ref (a 10)), (5, .int v5)]) hx hb dX4_planSinging_102 hl (k := 3) rfl rfl (by decide) rfl (fun ls hl => ?_)
      refine lv_goto (tgt := 16) hx hb dX4_planSinging_105 (by decide) ?_
      exact hk16 v2 (v4 + 1) purse_people purse_singers hf _ _ _ hP hS (lv_sub hl [1, 2, 3, 0] rfl)
    have hf := rf_ie c_42 hf
    refine lv_aload_n hx hb dX4_planSinging_45 rfl (lv_at hl 0 rfl) ?_
    refine gX_purse_rhymes hC hP tw_227 dX4_planSinging_46 ?_
    refine gX_rhymes_now hC hP tw_188 dX4_planSinging_49 ?_
    refine gX_now_words hC hP tw_52 dX4_planSinging_52 ?_
    refine lv_iload hx hb dX4_planSinging_55 (lv_at hl 4 rfl) ?_
    obtain ⟨hi_57, hf⟩ := rf_gu hf
    refine lX_now_words hC hP hi_57 (f := now_words) e_now_words dX4_planSinging_57 ?_
    refine lv_istore (lv' := [(6, .int (now_words (Int32.toNatClampNeg v5))), (0, .ref (a 4)), (2, .int v2), (3, .ref (a 10)), (4, .int v4), (5, .int v5)]) hx hb dX4_planSinging_58 hl (by decide) rfl (fun ls hl => ?_)
    refine lv_aload_n hx hb dX4_planSinging_60 rfl (lv_at hl 3 rfl) ?_
    refine lv_aload_n hx hb dX4_planSinging_61 rfl (lv_at hl 3 rfl) ?_
    refine gX_tc_kinds hC hP tw_94 dX4_planSinging_62 ?_
    refine lv_iload hx hb dX4_planSinging_65 (lv_at hl 5 rfl) ?_
    obtain ⟨hi_67, hf⟩ := rf_gu hf
    refine lX_tc_kinds hC hP hi_67 (f := tc_kinds) e_tc_kinds dX4_planSinging_67 ?_
    refine lv_iload hx hb dX4_planSinging_68 (lv_at hl 0 rfl) ?_
    refine lv_iconst (v := 0) hx hb dX4_planSinging_70 (by decide) ?_
    refine lv_iconst (v := 1) hx hb dX4_planSinging_71 (by decide) ?_
    refine lv_iload hx hb dX4_planSinging_72 (lv_at hl 4 rfl) ?_
    refine lv_ishl hx hb dX4_planSinging_74 ?_
    refine lv_iload_n hx hb dX4_planSinging_75 rfl (lv_at hl 2 rfl) ?_
    obtain ⟨z76, hz76, hf⟩ := rf_bd hf
    refine rf_vi (q0 := 10) (ci := 9) hC (c_X9_isFullRhyme_tc l E a P (rf_upL I [(8, purse_people)]) J (rf_upL A [(8, purse_singers)]) B tc_wordCount tc_close (tc_kinds (Int32.toNatClampNeg v5)) (now_words (Int32.toNatClampNeg v5)) 0 ((1 : Int32) <<< (v4 &&& 31)) v2 e_tc_wordCount e_tc_close hz76) kV_X9_isFullRhyme tw_1027 ⟨Nat.le_of_ble_eq_true rfl, Nat.le_of_ble_eq_true rfl⟩ rfl rfl rfl rfl rfl hP (rf_DX hD) hS rfl hl.1 (rest := []) rfl (Nat.le_of_ble_eq_true rfl) dX4_planSinging_76 (fun H locs hP hS => ?_)
    refine lv_if_eq (tgt := 96) hx hb dX4_planSinging_79 (by decide) (fun c_79 => ?_) (fun c_79 => ?_)
    · have hf := rf_it c_79 hf
      exact w_X4_planSinging_96 hC hD hp2 e_tc_wordCount e_tc_personCount e_now_words e_tc_kinds e_tc_close hk16 ih v2 v4 v5 purse_people purse_singers hf _ _ _ hP hS (lv_sub hl [1, 2, 3, 4, 5] rfl)
    have hf := rf_ie c_79 hf
    refine lv_aload_n hx hb dX4_planSinging_82 rfl (lv_at hl 1 rfl) ?_
    refine gX_purse_singers hC hP tw_232 dX4_planSinging_83 ?_
    refine lv_iload hx hb dX4_planSinging_86 (lv_at hl 4 rfl) ?_
    refine lv_dup2_11 hx hb dX4_planSinging_88 rfl rfl ?_
    obtain ⟨hi_89, hf⟩ := rf_gu hf
    refine lX_purse_singers hC hP hi_89 (f := purse_singers) rfl dX4_planSinging_89 ?_
    refine lv_iconst (v := 1) hx hb dX4_planSinging_90 (by decide) ?_
    refine lv_iload hx hb dX4_planSinging_91 (lv_at hl 5 rfl) ?_
    refine lv_ishl hx hb dX4_planSinging_93 ?_
    refine lv_ior hx hb dX4_planSinging_94 ?_
    obtain ⟨hi_95, hf⟩ := rf_gu hf
    refine sX_purse_singers hC hD hP hS hi_95 (f := purse_singers) rfl dX4_planSinging_95 (rf_upL A [(8, upd purse_singers (Int32.toNatClampNeg v4) ((purse_singers (Int32.toNatClampNeg v4)) ||| ((1 : Int32) <<< (v5 &&& 31))))]) (rf_put rfl) (fun H locs hP hS => ?_)
    exact w_X4_planSinging_96 hC hD hp2 e_tc_wordCount e_tc_personCount e_now_words e_tc_kinds e_tc_close hk16 ih v2 v4 v5 purse_people (upd purse_singers (Int32.toNatClampNeg v4) ((purse_singers (Int32.toNatClampNeg v4)) ||| ((1 : Int32) <<< (v5 &&& 31)))) hf _ _ _ hP hS (lv_sub hl [1, 2, 3, 4, 5] rfl)
set_option maxHeartbeats 4000000 in
set_option maxRecDepth 100000 in
theorem w_X4_planSinging_16 {l : Launch} {p : Program} {e : Env} {s : State} {m : MethodId} {args : Array Value} {below : List Frame} {meth : Method} {c : Code} {A0 : Nat → Prop} {E : rf_E} {a P : Nat → Nat} {I : Nat → Int32} {J : Nat → Int64} {A : Nat → Nat → Int32} {B : Nat → Nat → Int64} {tc_wordCount : Int32} {tc_personCount : Int32} {now_words : Nat → Int32} {tc_kinds : Nat → Int32} {tc_close : Nat → Int32} {z : Int32 × (Nat → Int32)} (hC : rf_C p E s m args meth c cX4_planSinging 7 RX4 (none) A0) (hD : va_D A0 (cX E a P I J A B)) (hp2 : P 2 = a 10) (e_tc_wordCount : I 23 = tc_wordCount) (e_tc_personCount : I 24 = tc_personCount) (e_now_words : A 1 = now_words) (e_tc_kinds : A 14 = tc_kinds) (e_tc_close : A 22 = tc_close) :
    ∀ (n : Nat), ∀ (v2 : Int32) (v4 : Int32) (purse_people : Int32) (purse_singers : Nat → Int32), f_X4_planSinging_16 tc_wordCount tc_personCount now_words tc_kinds tc_close n v2 v4 purse_people purse_singers = some z → ∀ (H : Heap) (locs : List Loc) (ls : Array Slot), va_P (rf_D E) vwCl (cX E a P (rf_upL I [(8, purse_people)]) J (rf_upL A [(8, purse_singers)]) B) H → va_S A0 s.heap H locs → lv_has ls 7 [(0, .ref (a 4)), (2, .int v2), (3, .ref (a 10)), (4, .int v4)] → W p l e ({ frames := 2, cells := 0, slots := 0, locals := 52 }) s m args below meth c H locs 0 0 (rf_QV below args s E A0 (cX E a P (rf_upL I [(8, z.1)]) J (rf_upL A [(8, z.2)]) B)) (F0 m 16 ls []) := by
  have hx := hC.1
  have hb := hC.2.1
  intro n
  induction n with
  | zero =>
    intro v2 v4 purse_people purse_singers hf
    have hf : (none : Option (Int32 × (Nat → Int32))) = some z := hf
    cases hf
  | succ n ih =>
    intro v2 v4 purse_people purse_singers hf H locs ls hP hS hl
    rw [f_X4_planSinging_16] at hf
    refine lv_iload hx hb dX4_planSinging_16 (lv_at hl 3 rfl) ?_
    refine lv_aload_n hx hb dX4_planSinging_18 rfl (lv_at hl 2 rfl) ?_
    refine gX_tc_wordCount hC hP tw_122 (v := tc_wordCount) e_tc_wordCount dX4_planSinging_19 ?_
    refine lv_icmp_ge (tgt := 108) hx hb dX4_planSinging_22 (by decide) (fun c_22 => ?_) (fun c_22 => ?_)
    · have hf := rf_it c_22 hf
      obtain rfl := Option.some.inj hf
      exact rf_retv hC hP hS rfl dX4_planSinging_108
    have hf := rf_ie c_22 hf
    refine lv_aload_n hx hb dX4_planSinging_25 rfl (lv_at hl 0 rfl) ?_
    refine gX_purse_singers hC hP tw_232 dX4_planSinging_26 ?_
    refine lv_iload hx hb dX4_planSinging_29 (lv_at hl 3 rfl) ?_
    refine lv_iconst (v := 0) hx hb dX4_planSinging_31 (by decide) ?_
    obtain ⟨hi_32, hf⟩ := rf_gu hf
    refine sX_purse_singers hC hD hP hS hi_32 (f := purse_singers) rfl dX4_planSinging_32 (rf_upL A [(8, upd purse_singers (Int32.toNatClampNeg v4) 0)]) (rf_put rfl) (fun H locs hP hS => ?_)
    refine lv_iconst (v := 0) hx hb dX4_planSinging_33 (by decide) ?_
    refine lv_istore (lv' := [(5, .int 0), (0, .ref (a 4)), (2, .int v2), (3, .ref (a 10)), (4, .int v4)]) hx hb dX4_planSinging_34 hl (by decide) rfl (fun ls hl => ?_)
    exact w_X4_planSinging_36 hC hD hp2 e_tc_wordCount e_tc_personCount e_now_words e_tc_kinds e_tc_close ih rf_fu v2 v4 0 purse_people (upd purse_singers (Int32.toNatClampNeg v4) 0) hf _ _ _ hP hS (lv_sub hl [1, 2, 3, 4, 0] rfl)
set_option maxHeartbeats 4000000 in
set_option maxRecDepth 100000 in
theorem c_X4_planSinging (l : Launch) (E : rf_E) (a P : Nat → Nat) (I : Nat → Int32) (J : Nat → Int64) (A : Nat → Nat → Int32) (B : Nat → Nat → Int64) (tc_wordCount : Int32) (tc_personCount : Int32) (now_words : Nat → Int32) (tc_kinds : Nat → Int32) (tc_close : Nat → Int32) (purse_people : Int32) (purse_singers : Nat → Int32) (v1 : Int32) (v2 : Int32) {z : Int32 × (Nat → Int32)} (hp2 : P 2 = a 10) (e_tc_wordCount : I 23 = tc_wordCount) (e_tc_personCount : I 24 = tc_personCount) (e_now_words : A 1 = now_words) (e_tc_kinds : A 14 = tc_kinds) (e_tc_close : A 22 = tc_close) (e_purse_people : I 8 = purse_people) (e_purse_singers : A 8 = purse_singers) (hf : f_X4_planSinging tc_wordCount tc_personCount now_words tc_kinds tc_close purse_people purse_singers v1 v2 = some z) : rf_MV l yX4_planSinging cX4_planSinging 7 ({ frames := 2, cells := 0, slots := 0, locals := 52 }) E [.ref (a 4), .int v1, .int v2] (cX E a P I J A B) (cX E a P (rf_upL I [(8, z.1)]) J (rf_upL A [(8, z.2)]) B) := by
  unfold f_X4_planSinging at hf
  refine rf_ofV (by decide) (Nat.le_of_ble_eq_true rfl) ?_
  intro p e s m below meth c A0 ls hC hD hP hS hl
  have hC : rf_C p E s m _ meth c cX4_planSinging 7 RX4 (none) A0 := hC
  have hx := hC.1
  have hb := hC.2.1
  have hl : lv_has ls 7 [(0, .ref (a 4)), (1, .int v1), (2, .int v2)] := hl
  have hP : va_P (rf_D E) vwCl (cX E a P (rf_upL I [(8, purse_people)]) J (rf_upL A [(8, purse_singers)]) B) s.heap := by
    rw [rf_self (f := I) [(8, purse_people)] (rf_fa1 e_purse_people rf_fa0)]
    rw [rf_self (f := A) [(8, purse_singers)] (rf_fa1 e_purse_singers rf_fa0)]
    exact hP
  refine lv_aload_n hx hb dX4_planSinging_0 rfl (lv_at hl 0 rfl) ?_
  refine lv_iload_n hx hb dX4_planSinging_1 rfl (lv_at hl 1 rfl) ?_
  refine pX_purse_people hC hD hP hS tw_233 dX4_planSinging_2 (rf_upL I [(8, v1)]) (rf_put rfl) (fun H locs hP hS => ?_)
  refine lv_aload_n hx hb dX4_planSinging_5 rfl (lv_at hl 0 rfl) ?_
  refine gX_purse_rhymes hC hP tw_227 dX4_planSinging_6 ?_
  refine gX_rhymes_tale hC hP tw_196 (v := a 10) hp2 dX4_planSinging_9 ?_
  refine lv_astore_n (lv' := [(3, .ref (a 10)), (0, .ref (a 4)), (1, .int v1), (2, .int v2)]) hx hb dX4_planSinging_12 rfl hl (by decide) rfl (fun ls hl => ?_)
  refine lv_iconst (v := 0) hx hb dX4_planSinging_13 (by decide) ?_
  refine lv_istore (lv' := [(4, .int 0), (3, .ref (a 10)), (0, .ref (a 4)), (1, .int v1), (2, .int v2)]) hx hb dX4_planSinging_14 hl (by decide) rfl (fun ls hl => ?_)
  exact w_X4_planSinging_16 hC hD hp2 e_tc_wordCount e_tc_personCount e_now_words e_tc_kinds e_tc_close rf_fu v2 0 v1 purse_singers hf _ _ _ hP hS (lv_sub hl [2, 4, 1, 0] rfl)
