theorem kV_J0_length_8abf5 : rf_kV RJ0 yJ0_length_8abf5 cJ0_length_8abf5 1 (some .int) 0 := ⟨rf_gm 499 (by decide +kernel) rfl, rf_gm 500 (by decide +kernel) rfl, rf_gm 15 (by decide +kernel) rfl, rf_gm 501 (by decide +kernel) rfl, by decide +kernel⟩
theorem kV_J0_charAt_5068e : rf_kV RJ0 yJ0_charAt_5068e cJ0_charAt_5068e 2 (some .char) 1 := ⟨rf_gm 509 (by decide +kernel) rfl, rf_gm 510 (by decide +kernel) rfl, rf_gm 15 (by decide +kernel) rfl, rf_gm 511 (by decide +kernel) rfl, by decide +kernel⟩
theorem kV_J0_coder_7d493 : rf_kV RJ0 yJ0_coder_7d493 cJ0_coder_7d493 1 (some .byte) 0 := ⟨rf_gm 503 (by decide +kernel) rfl, rf_gm 504 (by decide +kernel) rfl, rf_gm 15 (by decide +kernel) rfl, rf_gm 505 (by decide +kernel) rfl, by decide +kernel⟩
theorem kV_J0_isLatin1_aae02 : rf_kV RJ0 yJ0_isLatin1_aae02 cJ0_isLatin1_aae02 1 (some .boolean) 0 := ⟨rf_gm 513 (by decide +kernel) rfl, rf_gm 514 (by decide +kernel) rfl, rf_gm 15 (by decide +kernel) rfl, rf_gm 515 (by decide +kernel) rfl, by decide +kernel⟩
theorem kS_J0_checkIndex_df160 : rf_kS yJ0_checkIndex_df160 cJ0_checkIndex_df160 2 (none) 2 := ⟨rf_gm 520 (by decide +kernel) rfl, rf_gm 15 (by decide +kernel) rfl, rf_gm 521 (by decide +kernel) rfl, by decide +kernel⟩
theorem kS_J1_charAt_3b067 : rf_kS yJ1_charAt_3b067 cJ1_charAt_3b067 2 (some .char) 2 := ⟨rf_gm 517 (by decide +kernel) rfl, rf_gm 16 (by decide +kernel) rfl, rf_gm 518 (by decide +kernel) rfl, by decide +kernel⟩
theorem kS_J3_checkIndex_8e157 : rf_kS yJ3_checkIndex_8e157 cJ3_checkIndex_8e157 3 (some .int) 3 := ⟨rf_gm 525 (by decide +kernel) rfl, rf_gm 17 (by decide +kernel) rfl, rf_gm 526 (by decide +kernel) rfl, by decide +kernel⟩

section RFS
variable {p : Program} {l : Launch} {e : Env} {R : Room} {s : State} {m : MethodId} {args : Array Value} {below : List Frame} {meth : Method} {c : Code} {H : Heap} {locs : List Loc} {Q : State → Prop}
variable {cc : ByteArray} {nL pc : Nat} {ls : Array Slot} {rest st0 : List Value} {own : String} {ret : Option FieldType} {E : rf_E} {A0 : Nat → Prop} {ws ws' : va_W}
theorem rf_vs0 {k index n : Nat} {y : MethodName} {bytes : ByteArray} {maxL : Nat} {rt : Option FieldType} {rm : Room} {As : List Value} {r : Int32} (hk49 : k < 49) (hC : rf_C p E s m args meth c cc nL own ret A0) (hM : rf_MI l y bytes maxL rt rm E (.ref (rf_aK E k) :: As) [] r []) (hk : rf_kV "java/lang/String" y bytes maxL rt n) (hl : Cond.methodLink own index y ∈ rf_gt) (hR : rm.frames + 1 ≤ R.frames ∧ 8 + (maxL + 11) + rm.locals ≤ R.locals) (h0 : rm.cells = 0) (h1 : rm.slots = 0)
    (hP : va_P (rf_D E) vwCl ws H) (hS : va_S A0 s.heap H locs) (hn : As.length = n) (hls : ls.size = nL) (hst : st0 = As.reverse ++ .ref (rf_aK E k) :: rest) (hr : (rest.map fun v => v.category).sum ≤ 8) (hdg : decode cc pc = .ok (.invokevirtual index, 3))
    (kk : ∀ (H1 : Heap) (locs1 : List Loc), va_P (rf_D E) vwCl ws H1 → va_S A0 s.heap H1 locs1 → W p l e R s m args below meth c H1 locs1 0 0 Q (F0 m (pc + 3) ls (.int r :: rest))) : W p l e R s m args below meth c H locs 0 0 Q (F0 m pc ls st0) := by
  subst hst
  have hp := rf_pre (As := .ref (rf_aK E k) :: As) (ws := []) hC rf_P0 rf_D0 hS
  obtain ⟨cell, g1, g2, g3, -⟩ := (hC.2.2.2.2.2.2.2.1.2.2.1.1 k hk49).1.kept hS.2.1
  refine va_calli (va_runV (Ts := rf_gt) ⟨hC.1, hC.2.1, hC.2.2.1, hC.2.2.2.1, hC.2.2.2.2.1⟩ (hM H.size) (rf_cwV hC hk hl h0 h1 hR) ⟨hp.1, ⟨cell, g1, g2, g3⟩, hp.2⟩ rfl hn hls rfl (lv_room hr) hdg ⟨Nat.zero_le _, Nat.zero_le _⟩) hS (fun q _ h => rf_sub hC rf_D0 hS q h) (rf_sub hC rf_D0 hS) ?_
  intro r1 u t H1 locs1 ht hvm hp1 hB hz hk1 hS1
  subst hp1
  exact kk H1 locs1 (rf_keep0 hP hk1) hS1
theorem rf_sv0 {index n : Nat} {y : MethodName} {bytes : ByteArray} {maxL : Nat} {rm : Room} {As : List Value} (hC : rf_C p E s m args meth c cc nL own ret A0) (hM : rf_MV l y bytes maxL rm E As [] []) (hk : rf_kS y bytes maxL none n) (hl : Cond.methodLink own index y ∈ rf_gt) (hR : rm.frames + 1 ≤ R.frames ∧ 8 + (maxL + 11) + rm.locals ≤ R.locals) (h0 : rm.cells = 0) (h1 : rm.slots = 0)
    (hP : va_P (rf_D E) vwCl ws H) (hS : va_S A0 s.heap H locs) (hn : As.length = n) (hls : ls.size = nL) (hst : st0 = As.reverse ++ rest) (hr : (rest.map fun v => v.category).sum ≤ 8) (hdg : decode cc pc = .ok (.invokestatic index, 3))
    (kk : ∀ (H1 : Heap) (locs1 : List Loc), va_P (rf_D E) vwCl ws H1 → va_S A0 s.heap H1 locs1 → W p l e R s m args below meth c H1 locs1 0 0 Q (F0 m (pc + 3) ls rest)) : W p l e R s m args below meth c H locs 0 0 Q (F0 m pc ls st0) := by
  subst hst
  have hp := rf_pre (As := As) (ws := []) hC rf_P0 rf_D0 hS
  refine va_callv (va_runS (Ts := rf_gt) ⟨hC.1, hC.2.1, hC.2.2.1, hC.2.2.2.1, hC.2.2.2.2.1⟩ (hM H.size) (rf_cwS hC hk hl h0 h1 hR) hp rfl hn hls rfl (lv_room hr) hdg ⟨Nat.zero_le _, Nat.zero_le _⟩) hS (fun q _ h => rf_sub hC rf_D0 hS q h) (rf_sub hC rf_D0 hS) ?_
  intro u t H1 locs1 ht hvm hp1 hB hz hk1 hS1
  exact kk H1 locs1 (rf_keep0 hP hk1) hS1
end RFS

set_option maxHeartbeats 4000000 in
set_option maxRecDepth 100000 in
theorem c_coder (l : Launch) (E : rf_E) {k : Nat} (hk : k < 49) : rf_MI l yJ0_coder_7d493 cJ0_coder_7d493 1 (some .byte) ({ frames := 0, cells := 0, slots := 0, locals := 0 }) E [.ref (rf_aK E k)] [] 0 [] := by
  refine rf_ofI (by decide) (Nat.le_of_ble_eq_true rfl) ?_
  intro p e s m below meth c A0 ls hC hD hP hS hl
  have hx := hC.1
  have hb := hC.2.1
  have hl : lv_has ls 1 [(0, .ref (rf_aK E k))] := hl
  refine va_gets hx hb hC.2.2.2.2.2.2.2.1.2.2.1.2.1 hS hC.2.2.2.1 (hC.2.2.2.2.1 _ (rf_gm 506 (by decide +kernel) rfl)) (fun _ h => h) dJ0_coder_7d493_0 ?_
  refine lv_if_eq (tgt := 13) hx hb dJ0_coder_7d493_3 (by decide) (fun c1 => absurd c1 (by decide)) (fun _ => ?_)
  refine lv_aload_n hx hb dJ0_coder_7d493_6 rfl (lv_at hl 0 rfl) ?_
  refine vk_getf hx hb (hC.2.2.2.2.2.2.2.1.2.2.1.1 k hk).2.1 hS hC.2.2.2.1 (hC.2.2.2.2.1 _ (rf_gm 1919 (by decide +kernel) rfl)) (fun _ h => h) dJ0_coder_7d493_7 ?_
  refine lv_goto (tgt := 14) hx hb dJ0_coder_7d493_10 (by decide) ?_
  exact rf_rett hC hP hS (by decide +kernel) rfl rfl dJ0_coder_7d493_14
set_option maxHeartbeats 4000000 in
set_option maxRecDepth 100000 in
theorem c_isLatin1 (l : Launch) (E : rf_E) {k : Nat} (hk : k < 49) : rf_MI l yJ0_isLatin1_aae02 cJ0_isLatin1_aae02 1 (some .boolean) ({ frames := 0, cells := 0, slots := 0, locals := 0 }) E [.ref (rf_aK E k)] [] 1 [] := by
  refine rf_ofI (by decide) (Nat.le_of_ble_eq_true rfl) ?_
  intro p e s m below meth c A0 ls hC hD hP hS hl
  have hx := hC.1
  have hb := hC.2.1
  have hl : lv_has ls 1 [(0, .ref (rf_aK E k))] := hl
  refine va_gets hx hb hC.2.2.2.2.2.2.2.1.2.2.1.2.1 hS hC.2.2.2.1 (hC.2.2.2.2.1 _ (rf_gm 506 (by decide +kernel) rfl)) (fun _ h => h) dJ0_isLatin1_aae02_0 ?_
  refine lv_if_eq (tgt := 17) hx hb dJ0_isLatin1_aae02_3 (by decide) (fun c1 => absurd c1 (by decide)) (fun _ => ?_)
  refine lv_aload_n hx hb dJ0_isLatin1_aae02_6 rfl (lv_at hl 0 rfl) ?_
  refine vk_getf hx hb (hC.2.2.2.2.2.2.2.1.2.2.1.1 k hk).2.1 hS hC.2.2.2.1 (hC.2.2.2.2.1 _ (rf_gm 1919 (by decide +kernel) rfl)) (fun _ h => h) dJ0_isLatin1_aae02_7 ?_
  refine lv_if_ne (tgt := 17) hx hb dJ0_isLatin1_aae02_10 (by decide) (fun c1 => absurd rfl c1) (fun _ => ?_)
  refine lv_iconst (v := 1) hx hb dJ0_isLatin1_aae02_13 (by decide) ?_
  refine lv_goto (tgt := 18) hx hb dJ0_isLatin1_aae02_14 (by decide) ?_
  exact rf_rett hC hP hS (by decide +kernel) rfl rfl dJ0_isLatin1_aae02_18
set_option maxHeartbeats 4000000 in
set_option maxRecDepth 100000 in
theorem c_length (l : Launch) (E : rf_E) {k : Nat} (hk : k < 49) : rf_MI l yJ0_length_8abf5 cJ0_length_8abf5 1 (some .int) ({ frames := 1, cells := 0, slots := 0, locals := 20 }) E [.ref (rf_aK E k)] [] (nI (rf_len k)) [] := by
  refine rf_ofI (by decide) (Nat.le_of_ble_eq_true rfl) ?_
  intro p e s m below meth c A0 ls hC hD hP hS hl
  have hx := hC.1
  have hb := hC.2.1
  have hl : lv_has ls 1 [(0, .ref (rf_aK E k))] := hl
  refine lv_aload_n hx hb dJ0_length_8abf5_0 rfl (lv_at hl 0 rfl) ?_
  refine vk_getf hx hb (hC.2.2.2.2.2.2.2.1.2.2.1.1 k hk).2.2.1 hS hC.2.2.2.1 (hC.2.2.2.2.1 _ (rf_gm 1918 (by decide +kernel) rfl)) (fun _ h => h) dJ0_length_8abf5_1 ?_
  refine va_tlen hx hb (hC.2.2.2.2.2.2.2.1.2.2.1.1 k hk).2.2.2 hS (v := nI (rf_len k)) rfl dJ0_length_8abf5_4 ?_
  refine lv_aload_n hx hb dJ0_length_8abf5_5 rfl (lv_at hl 0 rfl) ?_
  refine rf_vs0 hk hC (c_coder l E hk) kV_J0_coder_7d493 (rf_gm 502 (by decide +kernel) rfl) ⟨Nat.le_of_ble_eq_true rfl, Nat.le_of_ble_eq_true rfl⟩ rfl rfl hP hS rfl hl.1 (rest := [.int (nI (rf_len k))]) rfl (Nat.le_of_ble_eq_true rfl) dJ0_length_8abf5_6 (fun H locs hP hS => ?_)
  refine lv_ishr hx hb dJ0_length_8abf5_9 ?_
  exact rf_reti hC hP hS (sb_shr0 _) rfl dJ0_length_8abf5_10
set_option maxHeartbeats 4000000 in
set_option maxRecDepth 100000 in
theorem c_chk3n (l : Launch) (E : rf_E) (i : Int32) (n : Nat) (hn : n < 2 ^ 31) (hi : rf_ib i n = true) : rf_MI l yJ3_checkIndex_8e157 cJ3_checkIndex_8e157 3 (some .int) ({ frames := 0, cells := 0, slots := 0, locals := 0 }) E [.int i, .int (nI n), .null] [] i [] := by
  refine rf_ofI (by decide) (Nat.le_of_ble_eq_true rfl) ?_
  intro p e s m below meth c A0 ls hC hD hP hS hl
  have hx := hC.1
  have hb := hC.2.1
  have hl : lv_has ls 3 [(0, .int i), (1, .int (nI n)), (2, .null)] := hl
  have hb1 : 0 ≤ i.toInt ∧ i.toInt < n := of_decide_eq_true hi
  refine lv_iload_n hx hb dJ3_checkIndex_8e157_0 rfl (lv_at hl 0 rfl) ?_
  refine lv_if_lt (tgt := 9) hx hb dJ3_checkIndex_8e157_1 (by decide) (fun c1 => absurd c1 (rf_nonneg hb1.1)) (fun _ => ?_)
  refine lv_iload_n hx hb dJ3_checkIndex_8e157_4 rfl (lv_at hl 0 rfl) ?_
  refine lv_iload_n hx hb dJ3_checkIndex_8e157_5 rfl (lv_at hl 1 rfl) ?_
  refine lv_icmp_lt (tgt := 16) hx hb dJ3_checkIndex_8e157_6 (by decide) (fun _ => ?_) (fun c1 => absurd (Int32.lt_iff_toInt_lt.mpr (by rw [nI_toInt hn]; exact hb1.2)) c1)
  refine lv_iload_n hx hb dJ3_checkIndex_8e157_16 rfl (lv_at hl 0 rfl) ?_
  exact rf_reti hC hP hS rfl rfl dJ3_checkIndex_8e157_17
set_option maxHeartbeats 4000000 in
set_option maxRecDepth 100000 in
theorem c_chk3r (l : Launch) (E : rf_E) (t : Nat) (i : Int32) (n : Nat) (hn : n < 2 ^ 31) (hi : rf_ib i n = true) : rf_MI l yJ3_checkIndex_8e157 cJ3_checkIndex_8e157 3 (some .int) ({ frames := 0, cells := 0, slots := 0, locals := 0 }) E [.int i, .int (nI n), .ref t] [] i [] := by
  refine rf_ofI (by decide) (Nat.le_of_ble_eq_true rfl) ?_
  intro p e s m below meth c A0 ls hC hD hP hS hl
  have hx := hC.1
  have hb := hC.2.1
  have hl : lv_has ls 3 [(0, .int i), (1, .int (nI n)), (2, .ref t)] := hl
  have hb1 : 0 ≤ i.toInt ∧ i.toInt < n := of_decide_eq_true hi
  refine lv_iload_n hx hb dJ3_checkIndex_8e157_0 rfl (lv_at hl 0 rfl) ?_
  refine lv_if_lt (tgt := 9) hx hb dJ3_checkIndex_8e157_1 (by decide) (fun c1 => absurd c1 (rf_nonneg hb1.1)) (fun _ => ?_)
  refine lv_iload_n hx hb dJ3_checkIndex_8e157_4 rfl (lv_at hl 0 rfl) ?_
  refine lv_iload_n hx hb dJ3_checkIndex_8e157_5 rfl (lv_at hl 1 rfl) ?_
  refine lv_icmp_lt (tgt := 16) hx hb dJ3_checkIndex_8e157_6 (by decide) (fun _ => ?_) (fun c1 => absurd (Int32.lt_iff_toInt_lt.mpr (by rw [nI_toInt hn]; exact hb1.2)) c1)
  refine lv_iload_n hx hb dJ3_checkIndex_8e157_16 rfl (lv_at hl 0 rfl) ?_
  exact rf_reti hC hP hS rfl rfl dJ3_checkIndex_8e157_17
set_option maxHeartbeats 4000000 in
set_option maxRecDepth 100000 in
theorem c_chk0 (l : Launch) (E : rf_E) (i : Int32) (n : Nat) (hn : n < 2 ^ 31) (hi : rf_ib i n = true) : rf_MV l yJ0_checkIndex_df160 cJ0_checkIndex_df160 2 ({ frames := 1, cells := 0, slots := 0, locals := 22 }) E [.int i, .int (nI n)] [] [] := by
  refine rf_ofV (by decide) (Nat.le_of_ble_eq_true rfl) ?_
  intro p e s m below meth c A0 ls hC hD hP hS hl
  have hx := hC.1
  have hb := hC.2.1
  have hl : lv_has ls 2 [(0, .int i), (1, .int (nI n))] := hl
  refine lv_iload_n hx hb dJ0_checkIndex_df160_0 rfl (lv_at hl 0 rfl) ?_
  refine lv_iload_n hx hb dJ0_checkIndex_df160_1 rfl (lv_at hl 1 rfl) ?_
  rcases hC.2.2.2.2.2.2.2.1.2.2.1.2.2 with hz | ⟨t, hz⟩
  · refine va_gets hx hb hz hS hC.2.2.2.1 (hC.2.2.2.2.1 _ (rf_gm 522 (by decide +kernel) rfl)) (fun _ h => h) dJ0_checkIndex_df160_2 ?_
    refine rf_si0 hC (c_chk3n l E i n hn hi) kS_J3_checkIndex_8e157 (rf_gm 524 (by decide +kernel) rfl) ⟨Nat.le_of_ble_eq_true rfl, Nat.le_of_ble_eq_true rfl⟩ rfl rfl hP hS rfl hl.1 (rest := []) rfl (Nat.le_of_ble_eq_true rfl) dJ0_checkIndex_df160_5 (fun H locs hP hS => ?_)
    refine lv_pop hx hb dJ0_checkIndex_df160_8 rfl ?_
    exact rf_retv hC hP hS rfl dJ0_checkIndex_df160_9
  · refine va_gets hx hb hz hS hC.2.2.2.1 (hC.2.2.2.2.1 _ (rf_gm 522 (by decide +kernel) rfl)) (fun _ h => h) dJ0_checkIndex_df160_2 ?_
    refine rf_si0 hC (c_chk3r l E t i n hn hi) kS_J3_checkIndex_8e157 (rf_gm 524 (by decide +kernel) rfl) ⟨Nat.le_of_ble_eq_true rfl, Nat.le_of_ble_eq_true rfl⟩ rfl rfl hP hS rfl hl.1 (rest := []) rfl (Nat.le_of_ble_eq_true rfl) dJ0_checkIndex_df160_5 (fun H locs hP hS => ?_)
    refine lv_pop hx hb dJ0_checkIndex_df160_8 rfl ?_
    exact rf_retv hC hP hS rfl dJ0_checkIndex_df160_9
theorem rf_byt_all : ∀ x ∈ rf_sb.flatten, x &&& 255 = x := by decide +kernel
theorem rf_len_all : ∀ x ∈ rf_sn, x < 100 := by decide +kernel
theorem rf_len_lt (k : Nat) : rf_len k < 2 ^ 31 := by
  unfold rf_len
  rw [List.getD_eq_getElem?_getD]
  cases h : rf_sn[k]? with
  | none => simp
  | some x =>
    have := rf_len_all x (List.mem_of_getElem? h)
    simp only [Option.getD_some]
    omega
theorem rf_byt_ok (k j : Nat) : rf_byt k j &&& 255 = rf_byt k j := by
  unfold rf_byt
  rw [List.getD_eq_getElem?_getD, List.getD_eq_getElem?_getD]
  cases h : rf_sb[k]? with
  | none => simp
  | some r =>
    simp only [Option.getD_some]
    cases h2 : r[j]? with
    | none => simp
    | some x => exact rf_byt_all x (List.mem_flatten.mpr ⟨r, List.mem_of_getElem? h, List.mem_of_getElem? h2⟩)
set_option maxHeartbeats 4000000 in
set_option maxRecDepth 100000 in
theorem c_chat1 (l : Launch) (E : rf_E) {k : Nat} (hk : k < 49) (i : Int32) (hi : rf_ib i (rf_len k) = true) : rf_MI l yJ1_charAt_3b067 cJ1_charAt_3b067 2 (some .char) ({ frames := 2, cells := 0, slots := 0, locals := 43 }) E [.ref (rf_aV E k), .int i] [] (rf_byt k i.toNatClampNeg) [] := by
  refine rf_ofI (by decide) (Nat.le_of_ble_eq_true rfl) ?_
  intro p e s m below meth c A0 ls hC hD hP hS hl
  have hx := hC.1
  have hb := hC.2.1
  have hl : lv_has ls 2 [(0, .ref (rf_aV E k)), (1, .int i)] := hl
  refine lv_iload_n hx hb dJ1_charAt_3b067_0 rfl (lv_at hl 1 rfl) ?_
  refine lv_aload_n hx hb dJ1_charAt_3b067_1 rfl (lv_at hl 0 rfl) ?_
  refine va_tlen hx hb (hC.2.2.2.2.2.2.2.1.2.2.1.1 k hk).2.2.2 hS (v := nI (rf_len k)) rfl dJ1_charAt_3b067_2 ?_
  refine rf_sv0 hC (c_chk0 l E i (rf_len k) (rf_len_lt k) hi) kS_J0_checkIndex_df160 (rf_gm 519 (by decide +kernel) rfl) ⟨Nat.le_of_ble_eq_true rfl, Nat.le_of_ble_eq_true rfl⟩ rfl rfl hP hS rfl hl.1 (rest := []) rfl (Nat.le_of_ble_eq_true rfl) dJ1_charAt_3b067_3 (fun H locs hP hS => ?_)
  refine lv_aload_n hx hb dJ1_charAt_3b067_6 rfl (lv_at hl 0 rfl) ?_
  refine lv_iload_n hx hb dJ1_charAt_3b067_7 rfl (lv_at hl 1 rfl) ?_
  refine va_tb hx hb (hC.2.2.2.2.2.2.2.1.2.2.1.1 k hk).2.2.2 hS (rf_ib_in hi) rfl dJ1_charAt_3b067_8 ?_
  refine lv_sipush (v := 255) hx hb dJ1_charAt_3b067_9 (by decide) ?_
  refine lv_iand hx hb dJ1_charAt_3b067_12 ?_
  refine lv_i2c hx hb dJ1_charAt_3b067_13 (sc_c2 _) ?_
  exact rf_rett hC hP hS (sc_nar _) (rf_byt_ok _ _) rfl dJ1_charAt_3b067_14
set_option maxHeartbeats 4000000 in
set_option maxRecDepth 100000 in
theorem c_charAt (l : Launch) (E : rf_E) {k : Nat} (hk : k < 49) (i : Int32) (hi : rf_ib i (rf_len k) = true) : rf_MI l yJ0_charAt_5068e cJ0_charAt_5068e 2 (some .char) ({ frames := 3, cells := 0, slots := 0, locals := 64 }) E [.ref (rf_aK E k), .int i] [] (rf_byt k i.toNatClampNeg) [] := by
  refine rf_ofI (by decide) (Nat.le_of_ble_eq_true rfl) ?_
  intro p e s m below meth c A0 ls hC hD hP hS hl
  have hx := hC.1
  have hb := hC.2.1
  have hl : lv_has ls 2 [(0, .ref (rf_aK E k)), (1, .int i)] := hl
  refine lv_aload_n hx hb dJ0_charAt_5068e_0 rfl (lv_at hl 0 rfl) ?_
  refine rf_vs0 hk hC (c_isLatin1 l E hk) kV_J0_isLatin1_aae02 (rf_gm 512 (by decide +kernel) rfl) ⟨Nat.le_of_ble_eq_true rfl, Nat.le_of_ble_eq_true rfl⟩ rfl rfl hP hS rfl hl.1 (rest := []) rfl (Nat.le_of_ble_eq_true rfl) dJ0_charAt_5068e_1 (fun H locs hP hS => ?_)
  refine lv_if_eq (tgt := 16) hx hb dJ0_charAt_5068e_4 (by decide) (fun c1 => absurd c1 (by decide)) (fun _ => ?_)
  refine lv_aload_n hx hb dJ0_charAt_5068e_7 rfl (lv_at hl 0 rfl) ?_
  refine vk_getf hx hb (hC.2.2.2.2.2.2.2.1.2.2.1.1 k hk).2.2.1 hS hC.2.2.2.1 (hC.2.2.2.2.1 _ (rf_gm 1918 (by decide +kernel) rfl)) (fun _ h => h) dJ0_charAt_5068e_8 ?_
  refine lv_iload_n hx hb dJ0_charAt_5068e_11 rfl (lv_at hl 1 rfl) ?_
  refine rf_si0 hC (c_chat1 l E hk i hi) kS_J1_charAt_3b067 (rf_gm 516 (by decide +kernel) rfl) ⟨Nat.le_of_ble_eq_true rfl, Nat.le_of_ble_eq_true rfl⟩ rfl rfl hP hS rfl hl.1 (rest := []) rfl (Nat.le_of_ble_eq_true rfl) dJ0_charAt_5068e_12 (fun H locs hP hS => ?_)
  exact rf_rett hC hP hS (by rw [← rf_byt_ok]; exact sc_nar _) rfl rfl dJ0_charAt_5068e_15
section RFT
variable {p : Program} {l : Launch} {e : Env} {R : Room} {s : State} {m : MethodId} {args : Array Value} {below : List Frame} {meth : Method} {c : Code} {H : Heap} {locs : List Loc} {Q : State → Prop}
variable {cc : ByteArray} {nL pc index : Nat} {ls : Array Slot} {rest : List Value} {own : String} {ret : Option FieldType} {E : rf_E} {A0 : Nat → Prop} {ws : va_W}
theorem rf_slen (hC : rf_C p E s m args meth c cc nL own ret A0) (hP : va_P (rf_D E) vwCl ws H) (hS : va_S A0 s.heap H locs) {k : Nat} (hk : k < 49) (hl : Cond.methodLink own index yJ0_length_8abf5 ∈ rf_gt) (hls : ls.size = nL) (hr : (rest.map fun v => v.category).sum ≤ 8) (hR : 1 + 1 ≤ R.frames ∧ 8 + (1 + 11) + 20 ≤ R.locals) (hdg : decode cc pc = .ok (.invokevirtual index, 3))
    (kk : ∀ (H1 : Heap) (locs1 : List Loc), va_P (rf_D E) vwCl ws H1 → va_S A0 s.heap H1 locs1 → W p l e R s m args below meth c H1 locs1 0 0 Q (F0 m (pc + 3) ls (.int (nI (rf_len k)) :: rest))) : W p l e R s m args below meth c H locs 0 0 Q (F0 m pc ls (.ref (rf_aK E k) :: rest)) :=
  rf_vs0 hk hC (c_length l E hk) kV_J0_length_8abf5 hl hR rfl rfl hP hS rfl hls rfl hr hdg kk
theorem rf_scat (hC : rf_C p E s m args meth c cc nL own ret A0) (hP : va_P (rf_D E) vwCl ws H) (hS : va_S A0 s.heap H locs) {k : Nat} (hk : k < 49) {i : Int32} (hi : rf_ib i (rf_len k) = true) (hl : Cond.methodLink own index yJ0_charAt_5068e ∈ rf_gt) (hls : ls.size = nL) (hr : (rest.map fun v => v.category).sum ≤ 8) (hR : 3 + 1 ≤ R.frames ∧ 8 + (2 + 11) + 64 ≤ R.locals) (hdg : decode cc pc = .ok (.invokevirtual index, 3))
    (kk : ∀ (H1 : Heap) (locs1 : List Loc), va_P (rf_D E) vwCl ws H1 → va_S A0 s.heap H1 locs1 → W p l e R s m args below meth c H1 locs1 0 0 Q (F0 m (pc + 3) ls (.int (rf_byt k i.toNatClampNeg) :: rest))) : W p l e R s m args below meth c H locs 0 0 Q (F0 m pc ls (.int i :: .ref (rf_aK E k) :: rest)) :=
  rf_vs0 hk hC (c_charAt l E hk i hi) kV_J0_charAt_5068e hl hR rfl rfl hP hS rfl hls rfl hr hdg kk
theorem rf_ldcwS {tx : String} {q : Nat} (hexec : p.tables.exec = Jvm.exec) (hb : c.code = cc) (hown : s.vm.findClass own = some m.cls) (hZ : vk_R own index tx q s) (hdg : decode cc pc = .ok (.ldc_w index, 3))
    (k : W p l e R s m args below meth c H locs 0 0 Q (F0 m (pc + 3) ls (.ref q :: rest))) : W p l e R s m args below meth c H locs 0 0 Q (F0 m pc ls rest) := by
  intro T hT X
  obtain ⟨t, a1, b1⟩ := k T hT X
  refine ⟨t, ?_, b1⟩
  obtain ⟨k0, cf, i, a', hk, hcf, hcp, -, hr, hev'⟩ := Cond.stringRef_spec (args := #[]) hown hZ.1
  cases hZ.2.symm.trans hev'
  obtain ⟨k2, hk2, he⟩ := X.warmed.alike.2.2 _ _ hk
  have hr' : k2.resolved[index]? = some (some (.string q)) := by
    rcases X.warmed.entry hk hk2 index with h | ⟨h, -⟩
    · rw [h]; exact hr
    · rw [hr] at h; cases h
  have hdg' : decode c.code pc = .ok (.ldc_w index, 3) := by rw [hb]; exact hdg
  jvm_step X.here [X.here.top, hexec, hdg', ldc_w.wp_string (e := e) (s := T) (f := F0 m pc ls rest) X.here.top hk2 (by rw [he]; exact hcf) hcp hr']
  exact a1
end RFT
