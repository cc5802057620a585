set_option maxHeartbeats 4000000 in
set_option maxRecDepth 100000 in
theorem w_X11_tryCoins_90 {l : Launch} {p : Program} {e : Env} {s : State} {m : MethodId} {args : Array Value} {below : List Frame} {meth : Method} {c : Code} {A0 : Nat → Prop} {E : rf_E} {a : Nat → Nat} {I : Nat → Int32} {A : Nat → Nat → Int32} {m_r : Nat → Int32} {m_costs : Nat → Int32} {d : Nat} {z : Int32} (hC : rf_C p E s m args meth c cX11_tryCoins 5 RX11 (none) A0) (hD : va_D A0 (cM E a I A)) (e_m_r : A 2 = m_r) (e_m_costs : A 11 = m_costs) {slf : Int32 → Int32 → Int32 → Option (Int32)} (hslf : ∀ (a : Nat → Nat) (I : Nat → Int32) (A : Nat → Nat → Int32) (m_leastCoins : Int32) (v1 : Int32) (v2 : Int32) {z1 : Int32} (e_m_r : A 2 = m_r) (e_m_costs : A 11 = m_costs) (e_m_leastCoins : I 17 = m_leastCoins), slf m_leastCoins v1 v2 = some z1 → rf_MV l yX11_tryCoins cX11_tryCoins 5 ({ frames := 1 + d, cells := 0, slots := 0, locals := 21 + d * 24 }) E [.ref (a 0), .int v1, .int v2] (cM E a I A) (cM E a (rf_upL I [(17, z1)]) A)) {k40 : Int32 → Int32 → Int32 → Int32 → Int32 → Option (Int32)} (hk40 : ∀ (v1 : Int32) (v2 : Int32) (v3 : Int32) (v4 : Int32) (m_leastCoins : Int32), k40 v1 v2 v3 v4 m_leastCoins = some z → ∀ (H : Heap) (locs : List Loc) (ls : Array Slot), va_P (rf_D E) vwCl (cM E a (rf_upL I [(17, m_leastCoins)]) A) H → va_S A0 s.heap H locs → lv_has ls 5 [(0, .ref (a 0)), (1, .int v1), (2, .int v2), (3, .int v3), (4, .int v4)] → W p l e ({ frames := 1 + (d + 1), cells := 0, slots := 0, locals := 21 + (d + 1) * 24 }) s m args below meth c H locs 0 0 (rf_QV below args s E A0 (cM E a (rf_upL I [(17, z)]) A)) (F0 m 40 ls [])) :
    ∀ (v1 : Int32) (v2 : Int32) (v3 : Int32) (v4 : Int32) (m_leastCoins : Int32), f_X11_tryCoins_90 k40 slf m_r m_costs v1 v2 v3 v4 m_leastCoins = some z → ∀ (H : Heap) (locs : List Loc) (ls : Array Slot), va_P (rf_D E) vwCl (cM E a (rf_upL I [(17, m_leastCoins)]) A) H → va_S A0 s.heap H locs → lv_has ls 5 [(0, .ref (a 0)), (1, .int v1), (2, .int v2), (3, .int v3), (4, .int v4)] → W p l e ({ frames := 1 + (d + 1), cells := 0, slots := 0, locals := 21 + (d + 1) * 24 }) s m args below meth c H locs 0 0 (rf_QV below args s E A0 (cM E a (rf_upL I [(17, z)]) A)) (F0 m 90 ls []) := by
  have hx := hC.1
  have hb := hC.2.1
  intro v1 v2 v3 v4 m_leastCoins hf H locs ls hP hS hl
  unfold f_X11_tryCoins_90 at hf
  refine lv_iinc (v := v4 + 1) (lv' := [(4, .int (v4 + 1)), (0, .ref (a 0)), (1, .int v1), (2, .int v2), (3, .int v3)]) hx hb dX11_tryCoins_90 hl (k := 4) rfl rfl (by decide) rfl (fun ls hl => ?_)
  refine lv_goto (tgt := 40) hx hb dX11_tryCoins_93 (by decide) ?_
  exact hk40 v1 v2 v3 (v4 + 1) m_leastCoins hf _ _ _ hP hS (lv_sub hl [1, 2, 3, 4, 0] rfl)
set_option maxHeartbeats 4000000 in
set_option maxRecDepth 100000 in
theorem w_X11_tryCoins_40 {l : Launch} {p : Program} {e : Env} {s : State} {m : MethodId} {args : Array Value} {below : List Frame} {meth : Method} {c : Code} {A0 : Nat → Prop} {E : rf_E} {a : Nat → Nat} {I : Nat → Int32} {A : Nat → Nat → Int32} {m_r : Nat → Int32} {m_costs : Nat → Int32} {d : Nat} {z : Int32} (hC : rf_C p E s m args meth c cX11_tryCoins 5 RX11 (none) A0) (hD : va_D A0 (cM E a I A)) (e_m_r : A 2 = m_r) (e_m_costs : A 11 = m_costs) {slf : Int32 → Int32 → Int32 → Option (Int32)} (hslf : ∀ (a : Nat → Nat) (I : Nat → Int32) (A : Nat → Nat → Int32) (m_leastCoins : Int32) (v1 : Int32) (v2 : Int32) {z1 : Int32} (e_m_r : A 2 = m_r) (e_m_costs : A 11 = m_costs) (e_m_leastCoins : I 17 = m_leastCoins), slf m_leastCoins v1 v2 = some z1 → rf_MV l yX11_tryCoins cX11_tryCoins 5 ({ frames := 1 + d, cells := 0, slots := 0, locals := 21 + d * 24 }) E [.ref (a 0), .int v1, .int v2] (cM E a I A) (cM E a (rf_upL I [(17, z1)]) A)) :
    ∀ (n : Nat), ∀ (v1 : Int32) (v2 : Int32) (v3 : Int32) (v4 : Int32) (m_leastCoins : Int32), f_X11_tryCoins_40 slf m_r m_costs n v1 v2 v3 v4 m_leastCoins = some z → ∀ (H : Heap) (locs : List Loc) (ls : Array Slot), va_P (rf_D E) vwCl (cM E a (rf_upL I [(17, m_leastCoins)]) A) H → va_S A0 s.heap H locs → lv_has ls 5 [(0, .ref (a 0)), (1, .int v1), (2, .int v2), (3, .int v3), (4, .int v4)] → W p l e ({ frames := 1 + (d + 1), cells := 0, slots := 0, locals := 21 + (d + 1) * 24 }) s m args below meth c H locs 0 0 (rf_QV below args s E A0 (cM E a (rf_upL I [(17, z)]) A)) (F0 m 40 ls []) := by
  have hx := hC.1
  have hb := hC.2.1
  intro n
  induction n with
  | zero =>
    intro v1 v2 v3 v4 m_leastCoins hf
    have hf : (none : Option (Int32)) = some z := hf
    cases hf
  | succ n ih =>
    intro v1 v2 v3 v4 m_leastCoins hf H locs ls hP hS hl
    rw [f_X11_tryCoins_40] at hf
    refine lv_iload hx hb dX11_tryCoins_40 (lv_at hl 4 rfl) ?_
    refine lv_aload_n hx hb dX11_tryCoins_42 rfl (lv_at hl 0 rfl) ?_
    refine gM_m_r hC hP tw_1294 dX11_tryCoins_43 ?_
    refine lv_iconst (v := 3) hx hb dX11_tryCoins_46 (by decide) ?_
    refine lM_m_r hC hP (by decide) (f := m_r) e_m_r dX11_tryCoins_47 ?_
    refine lv_icmp_ge (tgt := 96) hx hb dX11_tryCoins_48 (by decide) (fun c_48 => ?_) (fun c_48 => ?_)
    · have hf := rf_it c_48 hf
      obtain rfl := Option.some.inj hf
      exact rf_retv hC hP hS rfl dX11_tryCoins_96
    have hf := rf_ie c_48 hf
    refine lv_iload_n hx hb dX11_tryCoins_51 rfl (lv_at hl 1 rfl) ?_
    refine lv_iload hx hb dX11_tryCoins_52 (lv_at hl 4 rfl) ?_
    obtain ⟨z54, hz54, hf⟩ := rf_bd hf
    refine rf_si0 hC (c_X11_hasBit l E v1 v4 hz54) kS_X11_hasBit tw_1539 ⟨by show _ ≤ 1 + (d + 1); (try simp only []); omega, by show _ ≤ 21 + (d + 1) * 24; (try simp only []); omega⟩ rfl rfl hP hS rfl hl.1 (rest := []) rfl (Nat.le_of_ble_eq_true rfl) dX11_tryCoins_54 (fun H locs hP hS => ?_)
    refine lv_if_eq (tgt := 90) hx hb dX11_tryCoins_57 (by decide) (fun c_57 => ?_) (fun c_57 => ?_)
    · have hf := rf_it c_57 hf
      exact w_X11_tryCoins_90 hC hD e_m_r e_m_costs hslf ih v1 v2 v3 v4 m_leastCoins hf _ _ _ hP hS (lv_sub hl [0, 1, 2, 3, 4] rfl)
    have hf := rf_ie c_57 hf
    refine lv_aload_n hx hb dX11_tryCoins_60 rfl (lv_at hl 0 rfl) ?_
    refine lv_iload_n hx hb dX11_tryCoins_61 rfl (lv_at hl 1 rfl) ?_
    refine lv_iconst (v := 1) hx hb dX11_tryCoins_62 (by decide) ?_
    refine lv_iload_n hx hb dX11_tryCoins_63 rfl (lv_at hl 3 rfl) ?_
    refine lv_ishl hx hb dX11_tryCoins_64 ?_
    refine lv_iconst (v := 1) hx hb dX11_tryCoins_65 (by decide) ?_
    refine lv_iload hx hb dX11_tryCoins_66 (lv_at hl 4 rfl) ?_
    refine lv_ishl hx hb dX11_tryCoins_68 ?_
    refine lv_ior hx hb dX11_tryCoins_69 ?_
    refine lv_iconst (v := (-1)) hx hb dX11_tryCoins_70 (by decide) ?_
    refine lv_ixor hx hb dX11_tryCoins_71 ?_
    refine lv_iand hx hb dX11_tryCoins_72 ?_
    refine lv_iload_n hx hb dX11_tryCoins_73 rfl (lv_at hl 2 rfl) ?_
    refine lv_aload_n hx hb dX11_tryCoins_74 rfl (lv_at hl 0 rfl) ?_
    refine gM_m_costs hC hP tw_1307 dX11_tryCoins_75 ?_
    refine lv_bipush (v := 8) hx hb dX11_tryCoins_78 (by decide) ?_
    refine lv_iload_n hx hb dX11_tryCoins_80 rfl (lv_at hl 3 rfl) ?_
    refine lv_imul hx hb dX11_tryCoins_81 ?_
    refine lv_iload hx hb dX11_tryCoins_82 (lv_at hl 4 rfl) ?_
    refine lv_iadd hx hb dX11_tryCoins_84 ?_
    obtain ⟨hi_85, hf⟩ := rf_gu hf
    refine lM_m_costs hC hP hi_85 (f := m_costs) e_m_costs dX11_tryCoins_85 ?_
    refine lv_iadd hx hb dX11_tryCoins_86 ?_
    obtain ⟨z87, hz87, hf⟩ := rf_bd hf
    refine rf_vv (q0 := 0) (ci := 11) hC (hslf a (rf_upL I [(17, m_leastCoins)]) A m_leastCoins (v1 &&& ((((1 : Int32) <<< (v3 &&& 31)) ||| ((1 : Int32) <<< (v4 &&& 31))) ^^^ (-1))) (v2 + (m_costs (Int32.toNatClampNeg (((8 : Int32) * v3) + v4)))) e_m_r e_m_costs rfl hz87) kV_X11_tryCoins tw_1760 ⟨by show _ ≤ 1 + (d + 1); (try simp only []); omega, by show _ ≤ 21 + (d + 1) * 24; (try simp only []); omega⟩ rfl rfl rfl rfl rfl hP (rf_DM hD) hS rfl hl.1 (rest := []) rfl (Nat.le_of_ble_eq_true rfl) dX11_tryCoins_87 (fun H locs hP hS => ?_)
    rw [rf_cat (f := I) (l := [(17, m_leastCoins)]) (lc := [(17, z87)]) (l' := [(17, z87)]) rfl] at hP
    exact w_X11_tryCoins_90 hC hD e_m_r e_m_costs hslf ih v1 v2 v3 v4 z87 hf _ _ _ hP hS (lv_sub hl [0, 1, 2, 3, 4] rfl)
set_option maxHeartbeats 4000000 in
set_option maxRecDepth 100000 in
theorem w_X11_tryCoins_21 {l : Launch} {p : Program} {e : Env} {s : State} {m : MethodId} {args : Array Value} {below : List Frame} {meth : Method} {c : Code} {A0 : Nat → Prop} {E : rf_E} {a : Nat → Nat} {I : Nat → Int32} {A : Nat → Nat → Int32} {m_r : Nat → Int32} {m_costs : Nat → Int32} {d : Nat} {z : Int32} (hC : rf_C p E s m args meth c cX11_tryCoins 5 RX11 (none) A0) (hD : va_D A0 (cM E a I A)) (e_m_r : A 2 = m_r) (e_m_costs : A 11 = m_costs) {slf : Int32 → Int32 → Int32 → Option (Int32)} (hslf : ∀ (a : Nat → Nat) (I : Nat → Int32) (A : Nat → Nat → Int32) (m_leastCoins : Int32) (v1 : Int32) (v2 : Int32) {z1 : Int32} (e_m_r : A 2 = m_r) (e_m_costs : A 11 = m_costs) (e_m_leastCoins : I 17 = m_leastCoins), slf m_leastCoins v1 v2 = some z1 → rf_MV l yX11_tryCoins cX11_tryCoins 5 ({ frames := 1 + d, cells := 0, slots := 0, locals := 21 + d * 24 }) E [.ref (a 0), .int v1, .int v2] (cM E a I A) (cM E a (rf_upL I [(17, z1)]) A)) :
    ∀ (n : Nat), ∀ (v1 : Int32) (v2 : Int32) (v3 : Int32) (m_leastCoins : Int32), f_X11_tryCoins_21 slf m_r m_costs n v1 v2 v3 m_leastCoins = some z → ∀ (H : Heap) (locs : List Loc) (ls : Array Slot), va_P (rf_D E) vwCl (cM E a (rf_upL I [(17, m_leastCoins)]) A) H → va_S A0 s.heap H locs → lv_has ls 5 [(0, .ref (a 0)), (1, .int v1), (2, .int v2), (3, .int v3)] → W p l e ({ frames := 1 + (d + 1), cells := 0, slots := 0, locals := 21 + (d + 1) * 24 }) s m args below meth c H locs 0 0 (rf_QV below args s E A0 (cM E a (rf_upL I [(17, z)]) A)) (F0 m 21 ls []) := by
  have hx := hC.1
  have hb := hC.2.1
  intro n
  induction n with
  | zero =>
    intro v1 v2 v3 m_leastCoins hf
    have hf : (none : Option (Int32)) = some z := hf
    cases hf
  | succ n ih =>
    intro v1 v2 v3 m_leastCoins hf H locs ls hP hS hl
    rw [f_X11_tryCoins_21] at hf
    refine lv_iload_n hx hb dX11_tryCoins_21 rfl (lv_at hl 1 rfl) ?_
    refine lv_iload_n hx hb dX11_tryCoins_22 rfl (lv_at hl 3 rfl) ?_
    obtain ⟨z23, hz23, hf⟩ := rf_bd hf
    refine rf_si0 hC (c_X11_hasBit l E v1 v3 hz23) kS_X11_hasBit tw_1539 ⟨by show _ ≤ 1 + (d + 1); (try simp only []); omega, by show _ ≤ 21 + (d + 1) * 24; (try simp only []); omega⟩ rfl rfl hP hS rfl hl.1 (rest := []) rfl (Nat.le_of_ble_eq_true rfl) dX11_tryCoins_23 (fun H locs hP hS => ?_)
    refine lv_if_ne (tgt := 35) hx hb dX11_tryCoins_26 (by decide) (fun c_26 => ?_) (fun c_26 => ?_)
    · have hf := rf_ie c_26 hf
      refine lv_iload_n hx hb dX11_tryCoins_35 rfl (lv_at hl 3 rfl) ?_
      refine lv_iconst (v := 1) hx hb dX11_tryCoins_36 (by decide) ?_
      refine lv_iadd hx hb dX11_tryCoins_37 ?_
      refine lv_istore (lv' := [(4, .int (v3 + 1)), (0, .ref (a 0)), (1, .int v1), (2, .int v2), (3, .int v3)]) hx hb dX11_tryCoins_38 hl (by decide) rfl (fun ls hl => ?_)
      exact w_X11_tryCoins_40 hC hD e_m_r e_m_costs hslf rf_fu v1 v2 v3 (v3 + 1) m_leastCoins hf _ _ _ hP hS (lv_sub hl [1, 2, 3, 4, 0] rfl)
    have hf := rf_it c_26 hf
    refine lv_iinc (v := v3 + 1) (lv' := [(3, .int (v3 + 1)), (0, .ref (a 0)), (1, .int v1), (2, .int v2)]) hx hb dX11_tryCoins_29 hl (k := 3) rfl rfl (by decide) rfl (fun ls hl => ?_)
    refine lv_goto (tgt := 21) hx hb dX11_tryCoins_32 (by decide) ?_
    exact ih v1 v2 (v3 + 1) m_leastCoins hf _ _ _ hP hS (lv_sub hl [1, 2, 3, 0] rfl)
set_option maxHeartbeats 4000000 in
set_option maxRecDepth 100000 in
theorem c_X11_tryCoins (l : Launch) (E : rf_E) : ∀ (d : Nat) (a : Nat → Nat) (I : Nat → Int32) (A : Nat → Nat → Int32) (m_r : Nat → Int32) (m_costs : Nat → Int32) (m_leastCoins : Int32) (v1 : Int32) (v2 : Int32) {z : Int32} (e_m_r : A 2 = m_r) (e_m_costs : A 11 = m_costs) (e_m_leastCoins : I 17 = m_leastCoins) (hf : f_X11_tryCoins m_r m_costs d m_leastCoins v1 v2 = some z), rf_MV l yX11_tryCoins cX11_tryCoins 5 ({ frames := 1 + d, cells := 0, slots := 0, locals := 21 + d * 24 }) E [.ref (a 0), .int v1, .int v2] (cM E a I A) (cM E a (rf_upL I [(17, z)]) A) := by
  intro d
  induction d with
  | zero =>
    intro a I A m_r m_costs m_leastCoins v1 v2 z e_m_r e_m_costs e_m_leastCoins hf
    have hf : (none : Option (Int32)) = some z := hf
    cases hf
  | succ d ih =>
    intro a I A m_r m_costs m_leastCoins v1 v2 z e_m_r e_m_costs e_m_leastCoins hf
    rw [f_X11_tryCoins] at hf
    have hslf : ∀ (a : Nat → Nat) (I : Nat → Int32) (A : Nat → Nat → Int32) (m_leastCoins : Int32) (v1 : Int32) (v2 : Int32) {z1 : Int32} (e_m_r : A 2 = m_r) (e_m_costs : A 11 = m_costs) (e_m_leastCoins : I 17 = m_leastCoins), (f_X11_tryCoins m_r m_costs d) m_leastCoins v1 v2 = some z1 → rf_MV l yX11_tryCoins cX11_tryCoins 5 ({ frames := 1 + d, cells := 0, slots := 0, locals := 21 + d * 24 }) E [.ref (a 0), .int v1, .int v2] (cM E a I A) (cM E a (rf_upL I [(17, z1)]) A) := fun a I A m_leastCoins v1 v2 _ e_m_r e_m_costs e_m_leastCoins h => ih a I A m_r m_costs m_leastCoins v1 v2 e_m_r e_m_costs e_m_leastCoins h
    refine rf_ofV (by decide) (Nat.le_of_ble_eq_true rfl) ?_
    intro p e s m below meth c A0 ls hC hD hP hS hl
    have hC : rf_C p E s m _ meth c cX11_tryCoins 5 RX11 (none) A0 := hC
    have hx := hC.1
    have hb := hC.2.1
    have hl : lv_has ls 5 [(0, .ref (a 0)), (1, .int v1), (2, .int v2)] := hl
    have hP : va_P (rf_D E) vwCl (cM E a (rf_upL I [(17, m_leastCoins)]) A) s.heap := by
      rw [rf_self (f := I) [(17, m_leastCoins)] (rf_fa1 e_m_leastCoins rf_fa0)]
      exact hP
    refine lv_iload_n hx hb dX11_tryCoins_0 rfl (lv_at hl 2 rfl) ?_
    refine lv_aload_n hx hb dX11_tryCoins_1 rfl (lv_at hl 0 rfl) ?_
    refine gM_m_leastCoins hC hP tw_1308 (v := m_leastCoins) rfl dX11_tryCoins_2 ?_
    refine lv_icmp_lt (tgt := 9) hx hb dX11_tryCoins_5 (by decide) (fun c_5 => ?_) (fun c_5 => ?_)
    · have hf := rf_it c_5 hf
      refine lv_iload_n hx hb dX11_tryCoins_9 rfl (lv_at hl 1 rfl) ?_
      refine lv_if_ne (tgt := 19) hx hb dX11_tryCoins_10 (by decide) (fun c_10 => ?_) (fun c_10 => ?_)
      · have hf := rf_ie c_10 hf
        refine lv_iconst (v := 0) hx hb dX11_tryCoins_19 (by decide) ?_
        refine lv_istore_n (lv' := [(3, .int 0), (0, .ref (a 0)), (1, .int v1), (2, .int v2)]) hx hb dX11_tryCoins_20 rfl hl (by decide) rfl (fun ls hl => ?_)
        exact w_X11_tryCoins_21 hC hD e_m_r e_m_costs hslf rf_fu v1 v2 0 m_leastCoins hf _ _ _ hP hS (lv_sub hl [1, 2, 3, 0] rfl)
      have hf := rf_it c_10 hf
      refine lv_aload_n hx hb dX11_tryCoins_13 rfl (lv_at hl 0 rfl) ?_
      refine lv_iload_n hx hb dX11_tryCoins_14 rfl (lv_at hl 2 rfl) ?_
      refine pM_m_leastCoins hC hD hP hS tw_1308 dX11_tryCoins_15 (rf_upL I [(17, v2)]) (rf_put rfl) (fun H locs hP hS => ?_)
      obtain rfl := Option.some.inj hf
      exact rf_retv hC hP hS rfl dX11_tryCoins_18
    have hf := rf_ie c_5 hf
    obtain rfl := Option.some.inj hf
    exact rf_retv hC hP hS rfl dX11_tryCoins_8
set_option maxHeartbeats 4000000 in
set_option maxRecDepth 100000 in
theorem w_X11_coins_110 {l : Launch} {p : Program} {e : Env} {s : State} {m : MethodId} {args : Array Value} {below : List Frame} {meth : Method} {c : Code} {A0 : Nat → Prop} {E : rf_E} {a : Nat → Nat} {I : Nat → Int32} {A : Nat → Nat → Int32} {m_hasFerry : Int32} {m_r : Nat → Int32} {m_st : Nat → Int32} {z : Int32 × Int32 × Int32 × Int32 × (Nat → Int32)} (hC : rf_C p E s m args meth c cX11_coins 7 RX11 (some .int) A0) (hD : va_D A0 (cM E a I A)) (e_m_hasFerry : I 12 = m_hasFerry) (e_m_r : A 2 = m_r) (e_m_st : A 4 = m_st) {k31 : Int32 → Int32 → Int32 → Int32 → Int32 → Int32 → (Nat → Int32) → Option (Int32 × Int32 × Int32 × Int32 × (Nat → Int32))} (hk31 : ∀ (v2 : Int32) (v4 : Int32) (v5 : Int32) (m_thrown : Int32) (m_trouble : Int32) (m_leastCoins : Int32) (m_costs : Nat → Int32), k31 v2 v4 v5 m_thrown m_trouble m_leastCoins m_costs = some z → ∀ (H : Heap) (locs : List Loc) (ls : Array Slot), va_P (rf_D E) vwCl (cM E a (rf_upL I [(0, m_thrown), (10, m_trouble), (17, m_leastCoins)]) (rf_upL A [(11, m_costs)])) H → va_S A0 s.heap H locs → lv_has ls 7 [(0, .ref (a 0)), (2, .int v2), (4, .int v4), (5, .int v5)] → W p l e ({ frames := 14, cells := 0, slots := 0, locals := 333 }) s m args below meth c H locs 0 0 (rf_QI below args s E A0 z.1 (cM E a (rf_upL I [(0, z.2.1), (10, z.2.2.1), (17, z.2.2.2.1)]) (rf_upL A [(11, z.2.2.2.2)]))) (F0 m 31 ls [])) {k48 : Int32 → Int32 → Int32 → Int32 → Int32 → Int32 → Int32 → (Nat → Int32) → Option (Int32 × Int32 × Int32 × Int32 × (Nat → Int32))} (hk48 : ∀ (v2 : Int32) (v4 : Int32) (v5 : Int32) (v6 : Int32) (m_thrown : Int32) (m_trouble : Int32) (m_leastCoins : Int32) (m_costs : Nat → Int32), k48 v2 v4 v5 v6 m_thrown m_trouble m_leastCoins m_costs = some z → ∀ (H : Heap) (locs : List Loc) (ls : Array Slot), va_P (rf_D E) vwCl (cM E a (rf_upL I [(0, m_thrown), (10, m_trouble), (17, m_leastCoins)]) (rf_upL A [(11, m_costs)])) H → va_S A0 s.heap H locs → lv_has ls 7 [(0, .ref (a 0)), (2, .int v2), (4, .int v4), (5, .int v5), (6, .int v6)] → W p l e ({ frames := 14, cells := 0, slots := 0, locals := 333 }) s m args below meth c H locs 0 0 (rf_QI below args s E A0 z.1 (cM E a (rf_upL I [(0, z.2.1), (10, z.2.2.1), (17, z.2.2.2.1)]) (rf_upL A [(11, z.2.2.2.2)]))) (F0 m 48 ls [])) :
    ∀ (v2 : Int32) (v4 : Int32) (v5 : Int32) (v6 : Int32) (s1 : Int32) (s2 : Int32) (m_thrown : Int32) (m_trouble : Int32) (m_leastCoins : Int32) (m_costs : Nat → Int32), f_X11_coins_110 k31 k48 m_hasFerry m_r m_st v2 v4 v5 v6 s1 s2 m_thrown m_trouble m_leastCoins m_costs = some z → ∀ (H : Heap) (locs : List Loc) (ls : Array Slot), va_P (rf_D E) vwCl (cM E a (rf_upL I [(0, m_thrown), (10, m_trouble), (17, m_leastCoins)]) (rf_upL A [(11, m_costs)])) H → va_S A0 s.heap H locs → lv_has ls 7 [(0, .ref (a 0)), (2, .int v2), (4, .int v4), (5, .int v5), (6, .int v6)] → W p l e ({ frames := 14, cells := 0, slots := 0, locals := 333 }) s m args below meth c H locs 0 0 (rf_QI below args s E A0 z.1 (cM E a (rf_upL I [(0, z.2.1), (10, z.2.2.1), (17, z.2.2.2.1)]) (rf_upL A [(11, z.2.2.2.2)]))) (F0 m 110 ls [.int s2, .int s1, .ref (a 12)]) := by
  have hx := hC.1
  have hb := hC.2.1
  intro v2 v4 v5 v6 s1 s2 m_thrown m_trouble m_leastCoins m_costs hf H locs ls hP hS hl
  unfold f_X11_coins_110 at hf
  obtain ⟨hi_110, hf⟩ := rf_gu hf
  refine sM_m_costs hC hD hP hS hi_110 (f := m_costs) rfl dX11_coins_110 (rf_upL A [(11, upd m_costs (Int32.toNatClampNeg s1) s2)]) (rf_put rfl) (fun H locs hP hS => ?_)
  refine lv_iinc (v := v6 + 1) (lv' := [(6, .int (v6 + 1)), (0, .ref (a 0)), (2, .int v2), (4, .int v4), (5, .int v5)]) hx hb dX11_coins_111 hl (k := 4) rfl rfl (by decide) rfl (fun ls hl => ?_)
  refine lv_goto (tgt := 48) hx hb dX11_coins_114 (by decide) ?_
  exact hk48 v2 v4 v5 (v6 + 1) m_thrown m_trouble m_leastCoins (upd m_costs (Int32.toNatClampNeg s1) s2) hf _ _ _ hP hS (lv_sub hl [1, 2, 3, 4, 0] rfl)
set_option maxHeartbeats 4000000 in
set_option maxRecDepth 100000 in
theorem w_X11_coins_107 {l : Launch} {p : Program} {e : Env} {s : State} {m : MethodId} {args : Array Value} {below : List Frame} {meth : Method} {c : Code} {A0 : Nat → Prop} {E : rf_E} {a : Nat → Nat} {I : Nat → Int32} {A : Nat → Nat → Int32} {m_hasFerry : Int32} {m_r : Nat → Int32} {m_st : Nat → Int32} {z : Int32 × Int32 × Int32 × Int32 × (Nat → Int32)} (hC : rf_C p E s m args meth c cX11_coins 7 RX11 (some .int) A0) (hD : va_D A0 (cM E a I A)) (e_m_hasFerry : I 12 = m_hasFerry) (e_m_r : A 2 = m_r) (e_m_st : A 4 = m_st) {k31 : Int32 → Int32 → Int32 → Int32 → Int32 → Int32 → (Nat → Int32) → Option (Int32 × Int32 × Int32 × Int32 × (Nat → Int32))} (hk31 : ∀ (v2 : Int32) (v4 : Int32) (v5 : Int32) (m_thrown : Int32) (m_trouble : Int32) (m_leastCoins : Int32) (m_costs : Nat → Int32), k31 v2 v4 v5 m_thrown m_trouble m_leastCoins m_costs = some z → ∀ (H : Heap) (locs : List Loc) (ls : Array Slot), va_P (rf_D E) vwCl (cM E a (rf_upL I [(0, m_thrown), (10, m_trouble), (17, m_leastCoins)]) (rf_upL A [(11, m_costs)])) H → va_S A0 s.heap H locs → lv_has ls 7 [(0, .ref (a 0)), (2, .int v2), (4, .int v4), (5, .int v5)] → W p l e ({ frames := 14, cells := 0, slots := 0, locals := 333 }) s m args below meth c H locs 0 0 (rf_QI below args s E A0 z.1 (cM E a (rf_upL I [(0, z.2.1), (10, z.2.2.1), (17, z.2.2.2.1)]) (rf_upL A [(11, z.2.2.2.2)]))) (F0 m 31 ls [])) {k48 : Int32 → Int32 → Int32 → Int32 → Int32 → Int32 → Int32 → (Nat → Int32) → Option (Int32 × Int32 × Int32 × Int32 × (Nat → Int32))} (hk48 : ∀ (v2 : Int32) (v4 : Int32) (v5 : Int32) (v6 : Int32) (m_thrown : Int32) (m_trouble : Int32) (m_leastCoins : Int32) (m_costs : Nat → Int32), k48 v2 v4 v5 v6 m_thrown m_trouble m_leastCoins m_costs = some z → ∀ (H : Heap) (locs : List Loc) (ls : Array Slot), va_P (rf_D E) vwCl (cM E a (rf_upL I [(0, m_thrown), (10, m_trouble), (17, m_leastCoins)]) (rf_upL A [(11, m_costs)])) H → va_S A0 s.heap H locs → lv_has ls 7 [(0, .ref (a 0)), (2, .int v2), (4, .int v4), (5, .int v5), (6, .int v6)] → W p l e ({ frames := 14, cells := 0, slots := 0, locals := 333 }) s m args below meth c H locs 0 0 (rf_QI below args s E A0 z.1 (cM E a (rf_upL I [(0, z.2.1), (10, z.2.2.1), (17, z.2.2.2.1)]) (rf_upL A [(11, z.2.2.2.2)]))) (F0 m 48 ls [])) :
    ∀ (v2 : Int32) (v4 : Int32) (v5 : Int32) (v6 : Int32) (s1 : Int32) (m_thrown : Int32) (m_trouble : Int32) (m_leastCoins : Int32) (m_costs : Nat → Int32), f_X11_coins_107 k31 k48 m_hasFerry m_r m_st v2 v4 v5 v6 s1 m_thrown m_trouble m_leastCoins m_costs = some z → ∀ (H : Heap) (locs : List Loc) (ls : Array Slot), va_P (rf_D E) vwCl (cM E a (rf_upL I [(0, m_thrown), (10, m_trouble), (17, m_leastCoins)]) (rf_upL A [(11, m_costs)])) H → va_S A0 s.heap H locs → lv_has ls 7 [(0, .ref (a 0)), (2, .int v2), (4, .int v4), (5, .int v5), (6, .int v6)] → W p l e ({ frames := 14, cells := 0, slots := 0, locals := 333 }) s m args below meth c H locs 0 0 (rf_QI below args s E A0 z.1 (cM E a (rf_upL I [(0, z.2.1), (10, z.2.2.1), (17, z.2.2.2.1)]) (rf_upL A [(11, z.2.2.2.2)]))) (F0 m 107 ls [.int s1, .ref (a 12)]) := by
  have hx := hC.1
  have hb := hC.2.1
  intro v2 v4 v5 v6 s1 m_thrown m_trouble m_leastCoins m_costs hf H locs ls hP hS hl
  unfold f_X11_coins_107 at hf
  refine lv_ldcw hx hb hC.2.2.2.1 (hC.2.2.2.2.1 _ tw_1759) dX11_coins_107 ?_
  exact w_X11_coins_110 hC hD e_m_hasFerry e_m_r e_m_st hk31 hk48 v2 v4 v5 v6 s1 1000000 m_thrown m_trouble m_leastCoins m_costs hf _ _ _ hP hS (lv_sub hl [0, 1, 2, 3, 4] rfl)
set_option maxHeartbeats 4000000 in
set_option maxRecDepth 100000 in
theorem w_X11_coins_48 {l : Launch} {p : Program} {e : Env} {s : State} {m : MethodId} {args : Array Value} {below : List Frame} {meth : Method} {c : Code} {A0 : Nat → Prop} {E : rf_E} {a : Nat → Nat} {I : Nat → Int32} {A : Nat → Nat → Int32} {m_hasFerry : Int32} {m_r : Nat → Int32} {m_st : Nat → Int32} {z : Int32 × Int32 × Int32 × Int32 × (Nat → Int32)} (hC : rf_C p E s m args meth c cX11_coins 7 RX11 (some .int) A0) (hD : va_D A0 (cM E a I A)) (e_m_hasFerry : I 12 = m_hasFerry) (e_m_r : A 2 = m_r) (e_m_st : A 4 = m_st) {k31 : Int32 → Int32 → Int32 → Int32 → Int32 → Int32 → (Nat → Int32) → Option (Int32 × Int32 × Int32 × Int32 × (Nat → Int32))} (hk31 : ∀ (v2 : Int32) (v4 : Int32) (v5 : Int32) (m_thrown : Int32) (m_trouble : Int32) (m_leastCoins : Int32) (m_costs : Nat → Int32), k31 v2 v4 v5 m_thrown m_trouble m_leastCoins m_costs = some z → ∀ (H : Heap) (locs : List Loc) (ls : Array Slot), va_P (rf_D E) vwCl (cM E a (rf_upL I [(0, m_thrown), (10, m_trouble), (17, m_leastCoins)]) (rf_upL A [(11, m_costs)])) H → va_S A0 s.heap H locs → lv_has ls 7 [(0, .ref (a 0)), (2, .int v2), (4, .int v4), (5, .int v5)] → W p l e ({ frames := 14, cells := 0, slots := 0, locals := 333 }) s m args below meth c H locs 0 0 (rf_QI below args s E A0 z.1 (cM E a (rf_upL I [(0, z.2.1), (10, z.2.2.1), (17, z.2.2.2.1)]) (rf_upL A [(11, z.2.2.2.2)]))) (F0 m 31 ls [])) :
    ∀ (n : Nat), ∀ (v2 : Int32) (v4 : Int32) (v5 : Int32) (v6 : Int32) (m_thrown : Int32) (m_trouble : Int32) (m_leastCoins : Int32) (m_costs : Nat → Int32), f_X11_coins_48 k31 m_hasFerry m_r m_st n v2 v4 v5 v6 m_thrown m_trouble m_leastCoins m_costs = some z → ∀ (H : Heap) (locs : List Loc) (ls : Array Slot), va_P (rf_D E) vwCl (cM E a (rf_upL I [(0, m_thrown), (10, m_trouble), (17, m_leastCoins)]) (rf_upL A [(11, m_costs)])) H → va_S A0 s.heap H locs → lv_has ls 7 [(0, .ref (a 0)), (2, .int v2), (4, .int v4), (5, .int v5), (6, .int v6)] → W p l e ({ frames := 14, cells := 0, slots := 0, locals := 333 }) s m args below meth c H locs 0 0 (rf_QI below args s E A0 z.1 (cM E a (rf_upL I [(0, z.2.1), (10, z.2.2.1), (17, z.2.2.2.1)]) (rf_upL A [(11, z.2.2.2.2)]))) (F0 m 48 ls []) := by
  have hx := hC.1
  have hb := hC.2.1
  intro n
  induction n with
  | zero =>
    intro v2 v4 v5 v6 m_thrown m_trouble m_leastCoins m_costs hf
    have hf : (none : Option (Int32 × Int32 × Int32 × Int32 × (Nat → Int32))) = some z := hf
    cases hf
  | succ n ih =>
    intro v2 v4 v5 v6 m_thrown m_trouble m_leastCoins m_costs hf H locs ls hP hS hl
    rw [f_X11_coins_48] at hf
    refine lv_iload hx hb dX11_coins_48 (lv_at hl 4 rfl) ?_
    refine lv_aload_n hx hb dX11_coins_50 rfl (lv_at hl 0 rfl) ?_
    refine gM_m_r hC hP tw_1294 dX11_coins_51 ?_
    refine lv_iconst (v := 3) hx hb dX11_coins_54 (by decide) ?_
    refine lM_m_r hC hP (by decide) (f := m_r) e_m_r dX11_coins_55 ?_
    refine lv_icmp_ge (tgt := 117) hx hb dX11_coins_56 (by decide) (fun c_56 => ?_) (fun c_56 => ?_)
    · have hf := rf_it c_56 hf
      refine lv_iinc (v := v5 + 1) (lv' := [(5, .int (v5 + 1)), (0, .ref (a 0)), (2, .int v2), (4, .int v4), (6, .int v6)]) hx hb dX11_coins_117 hl (k := 3) rfl rfl (by decide) rfl (fun ls hl => ?_)
      refine lv_goto (tgt := 31) hx hb dX11_coins_120 (by decide) ?_
      exact hk31 v2 v4 (v5 + 1) m_thrown m_trouble m_leastCoins m_costs hf _ _ _ hP hS (lv_sub hl [1, 2, 3, 0] rfl)
    have hf := rf_ie c_56 hf
    refine lv_aload_n hx hb dX11_coins_59 rfl (lv_at hl 0 rfl) ?_
    refine gM_m_costs hC hP tw_1307 dX11_coins_60 ?_
    refine lv_bipush (v := 8) hx hb dX11_coins_63 (by decide) ?_
    refine lv_iload hx hb dX11_coins_65 (lv_at hl 3 rfl) ?_
    refine lv_imul hx hb dX11_coins_67 ?_
    refine lv_iload hx hb dX11_coins_68 (lv_at hl 4 rfl) ?_
    refine lv_iadd hx hb dX11_coins_70 ?_
    refine lv_iload hx hb dX11_coins_71 (lv_at hl 2 rfl) ?_
    refine lv_iload hx hb dX11_coins_73 (lv_at hl 3 rfl) ?_
    obtain ⟨z75, hz75, hf⟩ := rf_bd hf
    refine rf_si0 hC (c_X11_hasBit l E v4 v5 hz75) kS_X11_hasBit tw_1539 ⟨Nat.le_of_ble_eq_true rfl, Nat.le_of_ble_eq_true rfl⟩ rfl rfl hP hS rfl hl.1 (rest := [.int (((8 : Int32) * v5) + v6), .ref (a 12)]) rfl (Nat.le_of_ble_eq_true rfl) dX11_coins_75 (fun H locs hP hS => ?_)
    refine lv_if_eq (tgt := 107) hx hb dX11_coins_78 (by decide) (fun c_78 => ?_) (fun c_78 => ?_)
    · have hf := rf_it c_78 hf
      exact w_X11_coins_107 hC hD e_m_hasFerry e_m_r e_m_st hk31 ih v2 v4 v5 v6 (((8 : Int32) * v5) + v6) m_thrown m_trouble m_leastCoins m_costs hf _ _ _ hP hS (lv_sub hl [0, 1, 2, 3, 4] rfl)
    have hf := rf_ie c_78 hf
    refine lv_iload hx hb dX11_coins_81 (lv_at hl 2 rfl) ?_
    refine lv_iload hx hb dX11_coins_83 (lv_at hl 4 rfl) ?_
    obtain ⟨z85, hz85, hf⟩ := rf_bd hf
    refine rf_si0 hC (c_X11_hasBit l E v4 v6 hz85) kS_X11_hasBit tw_1539 ⟨Nat.le_of_ble_eq_true rfl, Nat.le_of_ble_eq_true rfl⟩ rfl rfl hP hS rfl hl.1 (rest := [.int (((8 : Int32) * v5) + v6), .ref (a 12)]) rfl (Nat.le_of_ble_eq_true rfl) dX11_coins_85 (fun H locs hP hS => ?_)
    refine lv_if_eq (tgt := 107) hx hb dX11_coins_88 (by decide) (fun c_88 => ?_) (fun c_88 => ?_)
    · have hf := rf_it c_88 hf
      exact w_X11_coins_107 hC hD e_m_hasFerry e_m_r e_m_st hk31 ih v2 v4 v5 v6 (((8 : Int32) * v5) + v6) m_thrown m_trouble m_leastCoins m_costs hf _ _ _ hP hS (lv_sub hl [0, 1, 2, 3, 4] rfl)
    have hf := rf_ie c_88 hf
    refine lv_aload_n hx hb dX11_coins_91 rfl (lv_at hl 0 rfl) ?_
    refine lv_iload hx hb dX11_coins_92 (lv_at hl 3 rfl) ?_
    refine lv_iload hx hb dX11_coins_94 (lv_at hl 4 rfl) ?_
    refine lv_aload_n hx hb dX11_coins_96 rfl (lv_at hl 0 rfl) ?_
    refine lv_iload_n hx hb dX11_coins_97 rfl (lv_at hl 1 rfl) ?_
    obtain ⟨z98, hz98, hf⟩ := rf_bd hf
    refine rf_vi (q0 := 0) (ci := 11) hC (c_X11_earAt l E a (rf_upL I [(0, m_thrown), (10, m_trouble), (17, m_leastCoins)]) (rf_upL A [(11, m_costs)]) m_r v2 e_m_r hz98) kV_X11_earAt tw_1624 ⟨Nat.le_of_ble_eq_true rfl, Nat.le_of_ble_eq_true rfl⟩ rfl rfl rfl rfl rfl hP (rf_DM hD) hS rfl hl.1 (rest := [.int v6, .int v5, .ref (a 0), .int (((8 : Int32) * v5) + v6), .ref (a 12)]) rfl (Nat.le_of_ble_eq_true rfl) dX11_coins_98 (fun H locs hP hS => ?_)
    obtain ⟨z101, hz101, hf⟩ := rf_bd hf
    refine rf_vi (q0 := 0) (ci := 11) hC (c_X11_costOf l E a (rf_upL I [(0, m_thrown), (10, m_trouble), (17, m_leastCoins)]) (rf_upL A [(11, m_costs)]) m_r m_st v5 v6 z98 e_m_r e_m_st hz101) kV_X11_costOf tw_1755 ⟨Nat.le_of_ble_eq_true rfl, Nat.le_of_ble_eq_true rfl⟩ rfl rfl rfl rfl rfl hP (rf_DM hD) hS rfl hl.1 (rest := [.int (((8 : Int32) * v5) + v6), .ref (a 12)]) rfl (Nat.le_of_ble_eq_true rfl) dX11_coins_101 (fun H locs hP hS => ?_)
    refine lv_goto (tgt := 110) hx hb dX11_coins_104 (by decide) ?_
    exact w_X11_coins_110 hC hD e_m_hasFerry e_m_r e_m_st hk31 ih v2 v4 v5 v6 (((8 : Int32) * v5) + v6) z101 m_thrown m_trouble m_leastCoins m_costs hf _ _ _ hP hS (lv_sub hl [0, 1, 2, 3, 4] rfl)
set_option maxHeartbeats 4000000 in
set_option maxRecDepth 100000 in
theorem w_X11_coins_31 {l : Launch} {p : Program} {e : Env} {s : State} {m : MethodId} {args : Array Value} {below : List Frame} {meth : Method} {c : Code} {A0 : Nat → Prop} {E : rf_E} {a : Nat → Nat} {I : Nat → Int32} {A : Nat → Nat → Int32} {m_hasFerry : Int32} {m_r : Nat → Int32} {m_st : Nat → Int32} {z : Int32 × Int32 × Int32 × Int32 × (Nat → Int32)} (hC : rf_C p E s m args meth c cX11_coins 7 RX11 (some .int) A0) (hD : va_D A0 (cM E a I A)) (e_m_hasFerry : I 12 = m_hasFerry) (e_m_r : A 2 = m_r) (e_m_st : A 4 = m_st) :
    ∀ (n : Nat), ∀ (v2 : Int32) (v4 : Int32) (v5 : Int32) (m_thrown : Int32) (m_trouble : Int32) (m_leastCoins : Int32) (m_costs : Nat → Int32), f_X11_coins_31 m_hasFerry m_r m_st n v2 v4 v5 m_thrown m_trouble m_leastCoins m_costs = some z → ∀ (H : Heap) (locs : List Loc) (ls : Array Slot), va_P (rf_D E) vwCl (cM E a (rf_upL I [(0, m_thrown), (10, m_trouble), (17, m_leastCoins)]) (rf_upL A [(11, m_costs)])) H → va_S A0 s.heap H locs → lv_has ls 7 [(0, .ref (a 0)), (2, .int v2), (4, .int v4), (5, .int v5)] → W p l e ({ frames := 14, cells := 0, slots := 0, locals := 333 }) s m args below meth c H locs 0 0 (rf_QI below args s E A0 z.1 (cM E a (rf_upL I [(0, z.2.1), (10, z.2.2.1), (17, z.2.2.2.1)]) (rf_upL A [(11, z.2.2.2.2)]))) (F0 m 31 ls []) := by
  have hx := hC.1
  have hb := hC.2.1
  intro n
  induction n with
  | zero =>
    intro v2 v4 v5 m_thrown m_trouble m_leastCoins m_costs hf
    have hf : (none : Option (Int32 × Int32 × Int32 × Int32 × (Nat → Int32))) = some z := hf
    cases hf
  | succ n ih =>
    intro v2 v4 v5 m_thrown m_trouble m_leastCoins m_costs hf H locs ls hP hS hl
    rw [f_X11_coins_31] at hf
    refine lv_iload hx hb dX11_coins_31 (lv_at hl 3 rfl) ?_
    refine lv_aload_n hx hb dX11_coins_33 rfl (lv_at hl 0 rfl) ?_
    refine gM_m_r hC hP tw_1294 dX11_coins_34 ?_
    refine lv_iconst (v := 3) hx hb dX11_coins_37 (by decide) ?_
    refine lM_m_r hC hP (by decide) (f := m_r) e_m_r dX11_coins_38 ?_
    refine lv_icmp_ge (tgt := 123) hx hb dX11_coins_39 (by decide) (fun c_39 => ?_) (fun c_39 => ?_)
    · have hf := rf_it c_39 hf
      refine lv_aload_n hx hb dX11_coins_123 rfl (lv_at hl 0 rfl) ?_
      refine lv_ldcw hx hb hC.2.2.2.1 (hC.2.2.2.2.1 _ tw_1759) dX11_coins_124 ?_
      refine pM_m_leastCoins hC hD hP hS tw_1308 dX11_coins_127 (rf_upL I [(0, m_thrown), (10, m_trouble), (17, 1000000)]) (rf_put rfl) (fun H locs hP hS => ?_)
      refine lv_aload_n hx hb dX11_coins_130 rfl (lv_at hl 0 rfl) ?_
      refine lv_iload hx hb dX11_coins_131 (lv_at hl 2 rfl) ?_
      refine lv_iconst (v := 0) hx hb dX11_coins_133 (by decide) ?_
      obtain ⟨z134, hz134, hf⟩ := rf_bd hf
      refine rf_vv (q0 := 0) (ci := 11) hC (c_X11_tryCoins l E 12 a (rf_upL I [(0, m_thrown), (10, m_trouble), (17, 1000000)]) (rf_upL A [(11, m_costs)]) m_r m_costs 1000000 v4 0 e_m_r rfl rfl hz134) kV_X11_tryCoins tw_1760 ⟨Nat.le_of_ble_eq_true rfl, Nat.le_of_ble_eq_true rfl⟩ rfl rfl rfl rfl rfl hP (rf_DM hD) hS rfl hl.1 (rest := []) rfl (Nat.le_of_ble_eq_true rfl) dX11_coins_134 (fun H locs hP hS => ?_)
      rw [rf_cat (f := I) (l := [(0, m_thrown), (10, m_trouble), (17, 1000000)]) (lc := [(17, z134)]) (l' := [(0, m_thrown), (10, m_trouble), (17, z134)]) rfl] at hP
      refine lv_aload_n hx hb dX11_coins_137 rfl (lv_at hl 0 rfl) ?_
      refine gM_m_leastCoins hC hP tw_1308 (v := z134) rfl dX11_coins_138 ?_
      refine lv_ldcw hx hb hC.2.2.2.1 (hC.2.2.2.2.1 _ tw_1759) dX11_coins_141 ?_
      refine lv_icmp_ne (tgt := 152) hx hb dX11_coins_144 (by decide) (fun c_144 => ?_) (fun c_144 => ?_)
      · have hf := rf_ie c_144 hf
        refine lv_aload_n hx hb dX11_coins_152 rfl (lv_at hl 0 rfl) ?_
        refine gM_m_leastCoins hC hP tw_1308 (v := z134) rfl dX11_coins_153 ?_
        obtain rfl := Option.some.inj hf
        exact rf_reti hC hP hS rfl rfl dX11_coins_156
      have hf := rf_it c_144 hf
      refine lv_bipush (v := (-2)) hx hb dX11_coins_147 (by decide) ?_
      refine lv_goto (tgt := 156) hx hb dX11_coins_149 (by decide) ?_
      obtain rfl := Option.some.inj hf
      exact rf_reti hC hP hS rfl rfl dX11_coins_156
    have hf := rf_ie c_39 hf
    refine lv_iload hx hb dX11_coins_42 (lv_at hl 3 rfl) ?_
    refine lv_iconst (v := 1) hx hb dX11_coins_44 (by decide) ?_
    refine lv_iadd hx hb dX11_coins_45 ?_
    refine lv_istore (lv' := [(6, .int (v5 + 1)), (0, .ref (a 0)), (2, .int v2), (4, .int v4), (5, .int v5)]) hx hb dX11_coins_46 hl (by decide) rfl (fun ls hl => ?_)
    exact w_X11_coins_48 hC hD e_m_hasFerry e_m_r e_m_st ih rf_fu v2 v4 v5 (v5 + 1) m_thrown m_trouble m_leastCoins m_costs hf _ _ _ hP hS (lv_sub hl [1, 2, 3, 4, 0] rfl)
set_option maxHeartbeats 4000000 in
set_option maxRecDepth 100000 in
theorem c_X11_coins (l : Launch) (E : rf_E) (a : Nat → Nat) (I : Nat → Int32) (A : Nat → Nat → Int32) (m_hasFerry : Int32) (m_r : Nat → Int32) (m_st : Nat → Int32) (m_thrown : Int32) (m_trouble : Int32) (m_leastCoins : Int32) (m_costs : Nat → Int32) (v1 : Int32) (v2 : Int32) {z : Int32 × Int32 × Int32 × Int32 × (Nat → Int32)} (e_m_hasFerry : I 12 = m_hasFerry) (e_m_r : A 2 = m_r) (e_m_st : A 4 = m_st) (e_m_thrown : I 0 = m_thrown) (e_m_trouble : I 10 = m_trouble) (e_m_leastCoins : I 17 = m_leastCoins) (e_m_costs : A 11 = m_costs) (hf : f_X11_coins m_hasFerry m_r m_st m_thrown m_trouble m_leastCoins m_costs v1 v2 = some z) : rf_MI l yX11_coins cX11_coins 7 (some .int) ({ frames := 14, cells := 0, slots := 0, locals := 333 }) E [.ref (a 0), .int v1, .int v2] (cM E a I A) z.1 (cM E a (rf_upL I [(0, z.2.1), (10, z.2.2.1), (17, z.2.2.2.1)]) (rf_upL A [(11, z.2.2.2.2)])) := by
  unfold f_X11_coins at hf
  refine rf_ofI (by decide) (Nat.le_of_ble_eq_true rfl) ?_
  intro p e s m below meth c A0 ls hC hD hP hS hl
  have hC : rf_C p E s m _ meth c cX11_coins 7 RX11 (some .int) A0 := hC
  have hx := hC.1
  have hb := hC.2.1
  have hl : lv_has ls 7 [(0, .ref (a 0)), (1, .int v1), (2, .int v2)] := hl
  have hP : va_P (rf_D E) vwCl (cM E a (rf_upL I [(0, m_thrown), (10, m_trouble), (17, m_leastCoins)]) (rf_upL A [(11, m_costs)])) s.heap := by
    rw [rf_self (f := I) [(0, m_thrown), (10, m_trouble), (17, m_leastCoins)] (rf_fa1 e_m_thrown (rf_fa1 e_m_trouble (rf_fa1 e_m_leastCoins rf_fa0)))]
    rw [rf_self (f := A) [(11, m_costs)] (rf_fa1 e_m_costs rf_fa0)]
    exact hP
  refine lv_aload_n hx hb dX11_coins_0 rfl (lv_at hl 0 rfl) ?_
  obtain ⟨z1, hz1, hf⟩ := rf_bd hf
  refine rf_vv (q0 := 0) (ci := 11) hC (c_X11_good l E a (rf_upL I [(0, m_thrown), (10, m_trouble), (17, m_leastCoins)]) (rf_upL A [(11, m_costs)]) m_thrown m_trouble rfl rfl hz1) kV_X11_good tw_1403 ⟨Nat.le_of_ble_eq_true rfl, Nat.le_of_ble_eq_true rfl⟩ rfl rfl rfl rfl rfl hP (rf_DM hD) hS rfl hl.1 (rest := []) rfl (Nat.le_of_ble_eq_true rfl) dX11_coins_1 (fun H locs hP hS => ?_)
  rw [rf_cat (f := I) (l := [(0, m_thrown), (10, m_trouble), (17, m_leastCoins)]) (lc := [(0, z1.1), (10, z1.2)]) (l' := [(0, z1.1), (10, z1.2), (17, m_leastCoins)]) rfl] at hP
  refine lv_aload_n hx hb dX11_coins_4 rfl (lv_at hl 0 rfl) ?_
  refine lv_iload_n hx hb dX11_coins_5 rfl (lv_at hl 1 rfl) ?_
  refine lv_iload_n hx hb dX11_coins_6 rfl (lv_at hl 2 rfl) ?_
  obtain ⟨z7, hz7, hf⟩ := rf_bd hf
  refine rf_vi (q0 := 0) (ci := 11) hC (c_X11_bankWhy l E a (rf_upL I [(0, z1.1), (10, z1.2), (17, m_leastCoins)]) (rf_upL A [(11, m_costs)]) m_hasFerry v1 v2 e_m_hasFerry hz7) kV_X11_bankWhy tw_1703 ⟨Nat.le_of_ble_eq_true rfl, Nat.le_of_ble_eq_true rfl⟩ rfl rfl rfl rfl rfl hP (rf_DM hD) hS rfl hl.1 (rest := []) rfl (Nat.le_of_ble_eq_true rfl) dX11_coins_7 (fun H locs hP hS => ?_)
  refine lv_istore_n (lv' := [(3, .int z7), (0, .ref (a 0)), (1, .int v1), (2, .int v2)]) hx hb dX11_coins_10 rfl hl (by decide) rfl (fun ls hl => ?_)
  refine lv_iload_n hx hb dX11_coins_11 rfl (lv_at hl 0 rfl) ?_
  refine lv_if_eq (tgt := 21) hx hb dX11_coins_12 (by decide) (fun c_12 => ?_) (fun c_12 => ?_)
  · have hf := rf_it c_12 hf
    refine lv_aload_n hx hb dX11_coins_21 rfl (lv_at hl 1 rfl) ?_
    refine lv_iload_n hx hb dX11_coins_22 rfl (lv_at hl 2 rfl) ?_
    obtain ⟨z23, hz23, hf⟩ := rf_bd hf
    refine rf_vi (q0 := 0) (ci := 11) hC (c_X11_onBank l E a (rf_upL I [(0, z1.1), (10, z1.2), (17, m_leastCoins)]) (rf_upL A [(11, m_costs)]) m_r m_st v1 e_m_r e_m_st hz23) kV_X11_onBank tw_1691 ⟨Nat.le_of_ble_eq_true rfl, Nat.le_of_ble_eq_true rfl⟩ rfl rfl rfl rfl rfl hP (rf_DM hD) hS rfl hl.1 (rest := []) rfl (Nat.le_of_ble_eq_true rfl) dX11_coins_23 (fun H locs hP hS => ?_)
    refine lv_istore (lv' := [(4, .int z23), (3, .int z7), (0, .ref (a 0)), (1, .int v1), (2, .int v2)]) hx hb dX11_coins_26 hl (by decide) rfl (fun ls hl => ?_)
    refine lv_iconst (v := 0) hx hb dX11_coins_28 (by decide) ?_
    refine lv_istore (lv' := [(5, .int 0), (4, .int z23), (3, .int z7), (0, .ref (a 0)), (1, .int v1), (2, .int v2)]) hx hb dX11_coins_29 hl (by decide) rfl (fun ls hl => ?_)
    exact w_X11_coins_31 hC hD e_m_hasFerry e_m_r e_m_st rf_fu v2 z23 0 z1.1 z1.2 m_leastCoins m_costs hf _ _ _ hP hS (lv_sub hl [3, 5, 1, 0] rfl)
  have hf := rf_ie c_12 hf
  refine lv_aload_n hx hb dX11_coins_15 rfl (lv_at hl 1 rfl) ?_
  refine lv_iload_n hx hb dX11_coins_16 rfl (lv_at hl 0 rfl) ?_
  obtain ⟨z17, hz17, hf⟩ := rf_bd hf
  refine rf_vi (q0 := 0) (ci := 11) hC (c_X11_no l E a (rf_upL I [(0, z1.1), (10, z1.2), (17, m_leastCoins)]) (rf_upL A [(11, m_costs)]) z1.2 z7 rfl hz17) kV_X11_no tw_1410 ⟨Nat.le_of_ble_eq_true rfl, Nat.le_of_ble_eq_true rfl⟩ rfl rfl rfl rfl rfl hP (rf_DM hD) hS rfl hl.1 (rest := []) rfl (Nat.le_of_ble_eq_true rfl) dX11_coins_17 (fun H locs hP hS => ?_)
  rw [rf_cat (f := I) (l := [(0, z1.1), (10, z1.2), (17, m_leastCoins)]) (lc := [(10, z17.2)]) (l' := [(0, z1.1), (10, z17.2), (17, m_leastCoins)]) rfl] at hP
  obtain rfl := Option.some.inj hf
  exact rf_reti hC hP hS rfl rfl dX11_coins_20
set_option maxHeartbeats 4000000 in
set_option maxRecDepth 100000 in
theorem w_X11_isPaired_71 {l : Launch} {p : Program} {e : Env} {s : State} {m : MethodId} {args : Array Value} {below : List Frame} {meth : Method} {c : Code} {A0 : Nat → Prop} {E : rf_E} {a : Nat → Nat} {I : Nat → Int32} {A : Nat → Nat → Int32} {m_r : Nat → Int32} {m_can : Nat → Int32} {d : Nat} {z : Int32} (hC : rf_C p E s m args meth c cX11_isPaired 4 RX11 (some .boolean) A0) (hD : va_D A0 (cM E a I A)) (e_m_r : A 2 = m_r) (e_m_can : A 7 = m_can) {slf : Int32 → Option (Int32)} (hslf : ∀ (a : Nat → Nat) (I : Nat → Int32) (A : Nat → Nat → Int32) (v1 : Int32) {z1 : Int32} (e_m_r : A 2 = m_r) (e_m_can : A 7 = m_can), slf v1 = some z1 → rf_MI l yX11_isPaired cX11_isPaired 4 (some .boolean) ({ frames := 1 + d, cells := 0, slots := 0, locals := 21 + d * 23 }) E [.ref (a 0), .int v1] (cM E a I A) z1 (cM E a I A)) {k26 : Int32 → Int32 → Int32 → Option (Int32)} (hk26 : ∀ (v1 : Int32) (v2 : Int32) (v3 : Int32), k26 v1 v2 v3 = some z → ∀ (H : Heap) (locs : List Loc) (ls : Array Slot), va_P (rf_D E) vwCl (cM E a I A) H → va_S A0 s.heap H locs → lv_has ls 4 [(0, .ref (a 0)), (1, .int v1), (2, .int v2), (3, .int v3)] → W p l e ({ frames := 1 + (d + 1), cells := 0, slots := 0, locals := 21 + (d + 1) * 23 }) s m args below meth c H locs 0 0 (rf_QI below args s E A0 z (cM E a I A)) (F0 m 26 ls [])) :
    ∀ (v1 : Int32) (v2 : Int32) (v3 : Int32), f_X11_isPaired_71 k26 slf m_r m_can v1 v2 v3 = some z → ∀ (H : Heap) (locs : List Loc) (ls : Array Slot), va_P (rf_D E) vwCl (cM E a I A) H → va_S A0 s.heap H locs → lv_has ls 4 [(0, .ref (a 0)), (1, .int v1), (2, .int v2), (3, .int v3)] → W p l e ({ frames := 1 + (d + 1), cells := 0, slots := 0, locals := 21 + (d + 1) * 23 }) s m args below meth c H locs 0 0 (rf_QI below args s E A0 z (cM E a I A)) (F0 m 71 ls []) := by
  have hx := hC.1
  have hb := hC.2.1
  intro v1 v2 v3 hf H locs ls hP hS hl
  unfold f_X11_isPaired_71 at hf
  refine lv_iinc (v := v3 + 1) (lv' := [(3, .int (v3 + 1)), (0, .ref (a 0)), (1, .int v1), (2, .int v2)]) hx hb dX11_isPaired_71 hl (k := 3) rfl rfl (by decide) rfl (fun ls hl => ?_)
  refine lv_goto (tgt := 26) hx hb dX11_isPaired_74 (by decide) ?_
  exact hk26 v1 v2 (v3 + 1) hf _ _ _ hP hS (lv_sub hl [1, 2, 3, 0] rfl)
set_option maxHeartbeats 4000000 in
set_option maxRecDepth 100000 in
theorem w_X11_isPaired_26 {l : Launch} {p : Program} {e : Env} {s : State} {m : MethodId} {args : Array Value} {below : List Frame} {meth : Method} {c : Code} {A0 : Nat → Prop} {E : rf_E} {a : Nat → Nat} {I : Nat → Int32} {A : Nat → Nat → Int32} {m_r : Nat → Int32} {m_can : Nat → Int32} {d : Nat} {z : Int32} (hC : rf_C p E s m args meth c cX11_isPaired 4 RX11 (some .boolean) A0) (hD : va_D A0 (cM E a I A)) (e_m_r : A 2 = m_r) (e_m_can : A 7 = m_can) {slf : Int32 → Option (Int32)} (hslf : ∀ (a : Nat → Nat) (I : Nat → Int32) (A : Nat → Nat → Int32) (v1 : Int32) {z1 : Int32} (e_m_r : A 2 = m_r) (e_m_can : A 7 = m_can), slf v1 = some z1 → rf_MI l yX11_isPaired cX11_isPaired 4 (some .boolean) ({ frames := 1 + d, cells := 0, slots := 0, locals := 21 + d * 23 }) E [.ref (a 0), .int v1] (cM E a I A) z1 (cM E a I A)) :
    ∀ (n : Nat), ∀ (v1 : Int32) (v2 : Int32) (v3 : Int32), f_X11_isPaired_26 slf m_r m_can n v1 v2 v3 = some z → ∀ (H : Heap) (locs : List Loc) (ls : Array Slot), va_P (rf_D E) vwCl (cM E a I A) H → va_S A0 s.heap H locs → lv_has ls 4 [(0, .ref (a 0)), (1, .int v1), (2, .int v2), (3, .int v3)] → W p l e ({ frames := 1 + (d + 1), cells := 0, slots := 0, locals := 21 + (d + 1) * 23 }) s m args below meth c H locs 0 0 (rf_QI below args s E A0 z (cM E a I A)) (F0 m 26 ls []) := by
  have hx := hC.1
  have hb := hC.2.1
  intro n
  induction n with
  | zero =>
    intro v1 v2 v3 hf
    have hf : (none : Option (Int32)) = some z := hf
    cases hf
  | succ n ih =>
    intro v1 v2 v3 hf H locs ls hP hS hl
    rw [f_X11_isPaired_26] at hf
    refine lv_iload_n hx hb dX11_isPaired_26 rfl (lv_at hl 3 rfl) ?_
    refine lv_aload_n hx hb dX11_isPaired_27 rfl (lv_at hl 0 rfl) ?_
    refine gM_m_r hC hP tw_1294 dX11_isPaired_28 ?_
    refine lv_iconst (v := 3) hx hb dX11_isPaired_31 (by decide) ?_
    refine lM_m_r hC hP (by decide) (f := m_r) e_m_r dX11_isPaired_32 ?_
    refine lv_icmp_ge (tgt := 77) hx hb dX11_isPaired_33 (by decide) (fun c_33 => ?_) (fun c_33 => ?_)
    · have hf := rf_it c_33 hf
      refine lv_iconst (v := 0) hx hb dX11_isPaired_77 (by decide) ?_
      obtain rfl := Option.some.inj hf
      exact rf_retz hC hP hS (by decide) rfl rfl dX11_isPaired_78
    have hf := rf_ie c_33 hf
    refine lv_iload_n hx hb dX11_isPaired_36 rfl (lv_at hl 1 rfl) ?_
    refine lv_aload_n hx hb dX11_isPaired_37 rfl (lv_at hl 0 rfl) ?_
    refine gM_m_can hC hP tw_1301 dX11_isPaired_38 ?_
    refine lv_iload_n hx hb dX11_isPaired_41 rfl (lv_at hl 2 rfl) ?_
    obtain ⟨hi_42, hf⟩ := rf_gu hf
    refine lM_m_can hC hP hi_42 (f := m_can) e_m_can dX11_isPaired_42 ?_
    refine lv_iand hx hb dX11_isPaired_43 ?_
    refine lv_iload_n hx hb dX11_isPaired_44 rfl (lv_at hl 3 rfl) ?_
    obtain ⟨z45, hz45, hf⟩ := rf_bd hf
    refine rf_si0 hC (c_X11_hasBit l E (v1 &&& (m_can (Int32.toNatClampNeg v2))) v3 hz45) kS_X11_hasBit tw_1539 ⟨by show _ ≤ 1 + (d + 1); (try simp only []); omega, by show _ ≤ 21 + (d + 1) * 23; (try simp only []); omega⟩ rfl rfl hP hS rfl hl.1 (rest := []) rfl (Nat.le_of_ble_eq_true rfl) dX11_isPaired_45 (fun H locs hP hS => ?_)
    refine lv_if_eq (tgt := 71) hx hb dX11_isPaired_48 (by decide) (fun c_48 => ?_) (fun c_48 => ?_)
    · have hf := rf_it c_48 hf
      exact w_X11_isPaired_71 hC hD e_m_r e_m_can hslf ih v1 v2 v3 hf _ _ _ hP hS (lv_sub hl [0, 1, 2, 3] rfl)
    have hf := rf_ie c_48 hf
    refine lv_aload_n hx hb dX11_isPaired_51 rfl (lv_at hl 0 rfl) ?_
    refine lv_iload_n hx hb dX11_isPaired_52 rfl (lv_at hl 1 rfl) ?_
    refine lv_iconst (v := 1) hx hb dX11_isPaired_53 (by decide) ?_
    refine lv_iload_n hx hb dX11_isPaired_54 rfl (lv_at hl 2 rfl) ?_
    refine lv_ishl hx hb dX11_isPaired_55 ?_
    refine lv_iconst (v := 1) hx hb dX11_isPaired_56 (by decide) ?_
    refine lv_iload_n hx hb dX11_isPaired_57 rfl (lv_at hl 3 rfl) ?_
    refine lv_ishl hx hb dX11_isPaired_58 ?_
    refine lv_ior hx hb dX11_isPaired_59 ?_
    refine lv_iconst (v := (-1)) hx hb dX11_isPaired_60 (by decide) ?_
    refine lv_ixor hx hb dX11_isPaired_61 ?_
    refine lv_iand hx hb dX11_isPaired_62 ?_
    obtain ⟨z63, hz63, hf⟩ := rf_bd hf
    refine rf_vi (q0 := 0) (ci := 11) hC (hslf a I A (v1 &&& ((((1 : Int32) <<< (v2 &&& 31)) ||| ((1 : Int32) <<< (v3 &&& 31))) ^^^ (-1))) e_m_r e_m_can hz63) kV_X11_isPaired tw_1772 ⟨by show _ ≤ 1 + (d + 1); (try simp only []); omega, by show _ ≤ 21 + (d + 1) * 23; (try simp only []); omega⟩ rfl rfl rfl rfl rfl hP (rf_DM hD) hS rfl hl.1 (rest := []) rfl (Nat.le_of_ble_eq_true rfl) dX11_isPaired_63 (fun H locs hP hS => ?_)
    refine lv_if_eq (tgt := 71) hx hb dX11_isPaired_66 (by decide) (fun c_66 => ?_) (fun c_66 => ?_)
    · have hf := rf_it c_66 hf
      exact w_X11_isPaired_71 hC hD e_m_r e_m_can hslf ih v1 v2 v3 hf _ _ _ hP hS (lv_sub hl [0, 1, 2, 3] rfl)
    have hf := rf_ie c_66 hf
    refine lv_iconst (v := 1) hx hb dX11_isPaired_69 (by decide) ?_
    obtain rfl := Option.some.inj hf
    exact rf_retz hC hP hS (by decide) rfl rfl dX11_isPaired_70
set_option maxHeartbeats 4000000 in
set_option maxRecDepth 100000 in
theorem w_X11_isPaired_8 {l : Launch} {p : Program} {e : Env} {s : State} {m : MethodId} {args : Array Value} {below : List Frame} {meth : Method} {c : Code} {A0 : Nat → Prop} {E : rf_E} {a : Nat → Nat} {I : Nat → Int32} {A : Nat → Nat → Int32} {m_r : Nat → Int32} {m_can : Nat → Int32} {d : Nat} {z : Int32} (hC : rf_C p E s m args meth c cX11_isPaired 4 RX11 (some .boolean) A0) (hD : va_D A0 (cM E a I A)) (e_m_r : A 2 = m_r) (e_m_can : A 7 = m_can) {slf : Int32 → Option (Int32)} (hslf : ∀ (a : Nat → Nat) (I : Nat → Int32) (A : Nat → Nat → Int32) (v1 : Int32) {z1 : Int32} (e_m_r : A 2 = m_r) (e_m_can : A 7 = m_can), slf v1 = some z1 → rf_MI l yX11_isPaired cX11_isPaired 4 (some .boolean) ({ frames := 1 + d, cells := 0, slots := 0, locals := 21 + d * 23 }) E [.ref (a 0), .int v1] (cM E a I A) z1 (cM E a I A)) :
    ∀ (n : Nat), ∀ (v1 : Int32) (v2 : Int32), f_X11_isPaired_8 slf m_r m_can n v1 v2 = some z → ∀ (H : Heap) (locs : List Loc) (ls : Array Slot), va_P (rf_D E) vwCl (cM E a I A) H → va_S A0 s.heap H locs → lv_has ls 4 [(0, .ref (a 0)), (1, .int v1), (2, .int v2)] → W p l e ({ frames := 1 + (d + 1), cells := 0, slots := 0, locals := 21 + (d + 1) * 23 }) s m args below meth c H locs 0 0 (rf_QI below args s E A0 z (cM E a I A)) (F0 m 8 ls []) := by
  have hx := hC.1
  have hb := hC.2.1
  intro n
  induction n with
  | zero =>
    intro v1 v2 hf
    have hf : (none : Option (Int32)) = some z := hf
    cases hf
  | succ n ih =>
    intro v1 v2 hf H locs ls hP hS hl
    rw [f_X11_isPaired_8] at hf
    refine lv_iload_n hx hb dX11_isPaired_8 rfl (lv_at hl 1 rfl) ?_
    refine lv_iload_n hx hb dX11_isPaired_9 rfl (lv_at hl 2 rfl) ?_
    obtain ⟨z10, hz10, hf⟩ := rf_bd hf
    refine rf_si0 hC (c_X11_hasBit l E v1 v2 hz10) kS_X11_hasBit tw_1539 ⟨by show _ ≤ 1 + (d + 1); (try simp only []); omega, by show _ ≤ 21 + (d + 1) * 23; (try simp only []); omega⟩ rfl rfl hP hS rfl hl.1 (rest := []) rfl (Nat.le_of_ble_eq_true rfl) dX11_isPaired_10 (fun H locs hP hS => ?_)
    refine lv_if_ne (tgt := 22) hx hb dX11_isPaired_13 (by decide) (fun c_13 => ?_) (fun c_13 => ?_)
    · have hf := rf_ie c_13 hf
      refine lv_iload_n hx hb dX11_isPaired_22 rfl (lv_at hl 2 rfl) ?_
      refine lv_iconst (v := 1) hx hb dX11_isPaired_23 (by decide) ?_
      refine lv_iadd hx hb dX11_isPaired_24 ?_
      refine lv_istore_n (lv' := [(3, .int (v2 + 1)), (0, .ref (a 0)), (1, .int v1), (2, .int v2)]) hx hb dX11_isPaired_25 rfl hl (by decide) rfl (fun ls hl => ?_)
      exact w_X11_isPaired_26 hC hD e_m_r e_m_can hslf rf_fu v1 v2 (v2 + 1) hf _ _ _ hP hS (lv_sub hl [1, 2, 3, 0] rfl)
    have hf := rf_it c_13 hf
    refine lv_iinc (v := v2 + 1) (lv' := [(2, .int (v2 + 1)), (0, .ref (a 0)), (1, .int v1)]) hx hb dX11_isPaired_16 hl (k := 2) rfl rfl (by decide) rfl (fun ls hl => ?_)
    refine lv_goto (tgt := 8) hx hb dX11_isPaired_19 (by decide) ?_
    exact ih v1 (v2 + 1) hf _ _ _ hP hS (lv_sub hl [1, 2, 0] rfl)
set_option maxHeartbeats 4000000 in
set_option maxRecDepth 100000 in
theorem c_X11_isPaired (l : Launch) (E : rf_E) : ∀ (d : Nat) (a : Nat → Nat) (I : Nat → Int32) (A : Nat → Nat → Int32) (m_r : Nat → Int32) (m_can : Nat → Int32) (v1 : Int32) {z : Int32} (e_m_r : A 2 = m_r) (e_m_can : A 7 = m_can) (hf : f_X11_isPaired m_r m_can d v1 = some z), rf_MI l yX11_isPaired cX11_isPaired 4 (some .boolean) ({ frames := 1 + d, cells := 0, slots := 0, locals := 21 + d * 23 }) E [.ref (a 0), .int v1] (cM E a I A) z (cM E a I A) := by
  intro d
  induction d with
  | zero =>
    intro a I A m_r m_can v1 z e_m_r e_m_can hf
    have hf : (none : Option (Int32)) = some z := hf
    cases hf
  | succ d ih =>
    intro a I A m_r m_can v1 z e_m_r e_m_can hf
    rw [f_X11_isPaired] at hf
    have hslf : ∀ (a : Nat → Nat) (I : Nat → Int32) (A : Nat → Nat → Int32) (v1 : Int32) {z1 : Int32} (e_m_r : A 2 = m_r) (e_m_can : A 7 = m_can), (f_X11_isPaired m_r m_can d) v1 = some z1 → rf_MI l yX11_isPaired cX11_isPaired 4 (some .boolean) ({ frames := 1 + d, cells := 0, slots := 0, locals := 21 + d * 23 }) E [.ref (a 0), .int v1] (cM E a I A) z1 (cM E a I A) := fun a I A v1 _ e_m_r e_m_can h => ih a I A m_r m_can v1 e_m_r e_m_can h
    refine rf_ofI (by decide) (Nat.le_of_ble_eq_true rfl) ?_
    intro p e s m below meth c A0 ls hC hD hP hS hl
    have hC : rf_C p E s m _ meth c cX11_isPaired 4 RX11 (some .boolean) A0 := hC
    have hx := hC.1
    have hb := hC.2.1
    have hl : lv_has ls 4 [(0, .ref (a 0)), (1, .int v1)] := hl
    refine lv_iload_n hx hb dX11_isPaired_0 rfl (lv_at hl 1 rfl) ?_
    refine lv_if_ne (tgt := 6) hx hb dX11_isPaired_1 (by decide) (fun c_1 => ?_) (fun c_1 => ?_)
    · have hf := rf_ie c_1 hf
      refine lv_iconst (v := 0) hx hb dX11_isPaired_6 (by decide) ?_
      refine lv_istore_n (lv' := [(2, .int 0), (0, .ref (a 0)), (1, .int v1)]) hx hb dX11_isPaired_7 rfl hl (by decide) rfl (fun ls hl => ?_)
      exact w_X11_isPaired_8 hC hD e_m_r e_m_can hslf rf_fu v1 0 hf _ _ _ hP hS (lv_sub hl [1, 2, 0] rfl)
    have hf := rf_it c_1 hf
    refine lv_iconst (v := 1) hx hb dX11_isPaired_4 (by decide) ?_
    obtain rfl := Option.some.inj hf
    exact rf_retz hC hP hS (by decide) rfl rfl dX11_isPaired_5
set_option maxHeartbeats 4000000 in
set_option maxRecDepth 100000 in
theorem w_X11_areAllPaired_123 {l : Launch} {p : Program} {e : Env} {s : State} {m : MethodId} {args : Array Value} {below : List Frame} {meth : Method} {c : Code} {A0 : Nat → Prop} {E : rf_E} {a : Nat → Nat} {I : Nat → Int32} {A : Nat → Nat → Int32} {m_r : Nat → Int32} {m_st : Nat → Int32} {z : Int32 × (Nat → Int32)} (hC : rf_C p E s m args meth c cX11_areAllPaired 6 RX11 (some .boolean) A0) (hD : va_D A0 (cM E a I A)) (e_m_r : A 2 = m_r) (e_m_st : A 4 = m_st) {k3 : Int32 → Int32 → Int32 → Int32 → (Nat → Int32) → Option (Int32 × (Nat → Int32))} (hk3 : ∀ (v1 : Int32) (v2 : Int32) (v3 : Int32) (v4 : Int32) (m_can : Nat → Int32), k3 v1 v2 v3 v4 m_can = some z → ∀ (H : Heap) (locs : List Loc) (ls : Array Slot), va_P (rf_D E) vwCl (cM E a I (rf_upL A [(7, m_can)])) H → va_S A0 s.heap H locs → lv_has ls 6 [(0, .ref (a 0)), (1, .int v1), (2, .int v2), (3, .int v3), (4, .int v4)] → W p l e ({ frames := 14, cells := 0, slots := 0, locals := 320 }) s m args below meth c H locs 0 0 (rf_QI below args s E A0 z.1 (cM E a I (rf_upL A [(7, z.2)]))) (F0 m 3 ls [])) {k28 : Int32 → Int32 → Int32 → Int32 → Int32 → (Nat → Int32) → Option (Int32 × (Nat → Int32))} (hk28 : ∀ (v1 : Int32) (v2 : Int32) (v3 : Int32) (v4 : Int32) (v5 : Int32) (m_can : Nat → Int32), k28 v1 v2 v3 v4 v5 m_can = some z → ∀ (H : Heap) (locs : List Loc) (ls : Array Slot), va_P (rf_D E) vwCl (cM E a I (rf_upL A [(7, m_can)])) H → va_S A0 s.heap H locs → lv_has ls 6 [(0, .ref (a 0)), (1, .int v1), (2, .int v2), (3, .int v3), (4, .int v4), (5, .int v5)] → W p l e ({ frames := 14, cells := 0, slots := 0, locals := 320 }) s m args below meth c H locs 0 0 (rf_QI below args s E A0 z.1 (cM E a I (rf_upL A [(7, z.2)]))) (F0 m 28 ls [])) :
    ∀ (v1 : Int32) (v2 : Int32) (v3 : Int32) (v4 : Int32) (v5 : Int32) (m_can : Nat → Int32), f_X11_areAllPaired_123 k3 k28 m_r m_st v1 v2 v3 v4 v5 m_can = some z → ∀ (H : Heap) (locs : List Loc) (ls : Array Slot), va_P (rf_D E) vwCl (cM E a I (rf_upL A [(7, m_can)])) H → va_S A0 s.heap H locs → lv_has ls 6 [(0, .ref (a 0)), (1, .int v1), (2, .int v2), (3, .int v3), (4, .int v4), (5, .int v5)] → W p l e ({ frames := 14, cells := 0, slots := 0, locals := 320 }) s m args below meth c H locs 0 0 (rf_QI below args s E A0 z.1 (cM E a I (rf_upL A [(7, z.2)]))) (F0 m 123 ls []) := by
  have hx := hC.1
  have hb := hC.2.1
  intro v1 v2 v3 v4 v5 m_can hf H locs ls hP hS hl
  unfold f_X11_areAllPaired_123 at hf
  refine lv_iinc (v := v5 + 1) (lv' := [(5, .int (v5 + 1)), (0, .ref (a 0)), (1, .int v1), (2, .int v2), (3, .int v3), (4, .int v4)]) hx hb dX11_areAllPaired_123 hl (k := 5) rfl rfl (by decide) rfl (fun ls hl => ?_)
  refine lv_goto (tgt := 28) hx hb dX11_areAllPaired_126 (by decide) ?_
  exact hk28 v1 v2 v3 v4 (v5 + 1) m_can hf _ _ _ hP hS (lv_sub hl [1, 2, 3, 4, 5, 0] rfl)
set_option maxHeartbeats 4000000 in
set_option maxRecDepth 100000 in
theorem w_X11_areAllPaired_121 {l : Launch} {p : Program} {e : Env} {s : State} {m : MethodId} {args : Array Value} {below : List Frame} {meth : Method} {c : Code} {A0 : Nat → Prop} {E : rf_E} {a : Nat → Nat} {I : Nat → Int32} {A : Nat → Nat → Int32} {m_r : Nat → Int32} {m_st : Nat → Int32} {z : Int32 × (Nat → Int32)} (hC : rf_C p E s m args meth c cX11_areAllPaired 6 RX11 (some .boolean) A0) (hD : va_D A0 (cM E a I A)) (e_m_r : A 2 = m_r) (e_m_st : A 4 = m_st) {k3 : Int32 → Int32 → Int32 → Int32 → (Nat → Int32) → Option (Int32 × (Nat → Int32))} (hk3 : ∀ (v1 : Int32) (v2 : Int32) (v3 : Int32) (v4 : Int32) (m_can : Nat → Int32), k3 v1 v2 v3 v4 m_can = some z → ∀ (H : Heap) (locs : List Loc) (ls : Array Slot), va_P (rf_D E) vwCl (cM E a I (rf_upL A [(7, m_can)])) H → va_S A0 s.heap H locs → lv_has ls 6 [(0, .ref (a 0)), (1, .int v1), (2, .int v2), (3, .int v3), (4, .int v4)] → W p l e ({ frames := 14, cells := 0, slots := 0, locals := 320 }) s m args below meth c H locs 0 0 (rf_QI below args s E A0 z.1 (cM E a I (rf_upL A [(7, z.2)]))) (F0 m 3 ls [])) {k28 : Int32 → Int32 → Int32 → Int32 → Int32 → (Nat → Int32) → Option (Int32 × (Nat → Int32))} (hk28 : ∀ (v1 : Int32) (v2 : Int32) (v3 : Int32) (v4 : Int32) (v5 : Int32) (m_can : Nat → Int32), k28 v1 v2 v3 v4 v5 m_can = some z → ∀ (H : Heap) (locs : List Loc) (ls : Array Slot), va_P (rf_D E) vwCl (cM E a I (rf_upL A [(7, m_can)])) H → va_S A0 s.heap H locs → lv_has ls 6 [(0, .ref (a 0)), (1, .int v1), (2, .int v2), (3, .int v3), (4, .int v4), (5, .int v5)] → W p l e ({ frames := 14, cells := 0, slots := 0, locals := 320 }) s m args below meth c H locs 0 0 (rf_QI below args s E A0 z.1 (cM E a I (rf_upL A [(7, z.2)]))) (F0 m 28 ls [])) :
    ∀ (v1 : Int32) (v2 : Int32) (v3 : Int32) (v4 : Int32) (v5 : Int32) (s1 : Int32) (s2 : Int32) (s3 : Int32) (m_can : Nat → Int32), f_X11_areAllPaired_121 k3 k28 m_r m_st v1 v2 v3 v4 v5 s1 s2 s3 m_can = some z → ∀ (H : Heap) (locs : List Loc) (ls : Array Slot), va_P (rf_D E) vwCl (cM E a I (rf_upL A [(7, m_can)])) H → va_S A0 s.heap H locs → lv_has ls 6 [(0, .ref (a 0)), (1, .int v1), (2, .int v2), (3, .int v3), (4, .int v4), (5, .int v5)] → W p l e ({ frames := 14, cells := 0, slots := 0, locals := 320 }) s m args below meth c H locs 0 0 (rf_QI below args s E A0 z.1 (cM E a I (rf_upL A [(7, z.2)]))) (F0 m 121 ls [.int s3, .int s2, .int s1, .ref (a 8)]) := by
  have hx := hC.1
  have hb := hC.2.1
  intro v1 v2 v3 v4 v5 s1 s2 s3 m_can hf H locs ls hP hS hl
  unfold f_X11_areAllPaired_121 at hf
  refine lv_ior hx hb dX11_areAllPaired_121 ?_
  obtain ⟨hi_122, hf⟩ := rf_gu hf
  refine sM_m_can hC hD hP hS hi_122 (f := m_can) rfl dX11_areAllPaired_122 (rf_upL A [(7, upd m_can (Int32.toNatClampNeg s1) (s2 ||| s3))]) (rf_put rfl) (fun H locs hP hS => ?_)
  exact w_X11_areAllPaired_123 hC hD e_m_r e_m_st hk3 hk28 v1 v2 v3 v4 v5 (upd m_can (Int32.toNatClampNeg s1) (s2 ||| s3)) hf _ _ _ hP hS (lv_sub hl [0, 1, 2, 3, 4, 5] rfl)
set_option maxHeartbeats 4000000 in
set_option maxRecDepth 100000 in
theorem w_X11_areAllPaired_28 {l : Launch} {p : Program} {e : Env} {s : State} {m : MethodId} {args : Array Value} {below : List Frame} {meth : Method} {c : Code} {A0 : Nat → Prop} {E : rf_E} {a : Nat → Nat} {I : Nat → Int32} {A : Nat → Nat → Int32} {m_r : Nat → Int32} {m_st : Nat → Int32} {z : Int32 × (Nat → Int32)} (hC : rf_C p E s m args meth c cX11_areAllPaired 6 RX11 (some .boolean) A0) (hD : va_D A0 (cM E a I A)) (e_m_r : A 2 = m_r) (e_m_st : A 4 = m_st) {k3 : Int32 → Int32 → Int32 → Int32 → (Nat → Int32) → Option (Int32 × (Nat → Int32))} (hk3 : ∀ (v1 : Int32) (v2 : Int32) (v3 : Int32) (v4 : Int32) (m_can : Nat → Int32), k3 v1 v2 v3 v4 m_can = some z → ∀ (H : Heap) (locs : List Loc) (ls : Array Slot), va_P (rf_D E) vwCl (cM E a I (rf_upL A [(7, m_can)])) H → va_S A0 s.heap H locs → lv_has ls 6 [(0, .ref (a 0)), (1, .int v1), (2, .int v2), (3, .int v3), (4, .int v4)] → W p l e ({ frames := 14, cells := 0, slots := 0, locals := 320 }) s m args below meth c H locs 0 0 (rf_QI below args s E A0 z.1 (cM E a I (rf_upL A [(7, z.2)]))) (F0 m 3 ls [])) :
    ∀ (n : Nat), ∀ (v1 : Int32) (v2 : Int32) (v3 : Int32) (v4 : Int32) (v5 : Int32) (m_can : Nat → Int32), f_X11_areAllPaired_28 k3 m_r m_st n v1 v2 v3 v4 v5 m_can = some z → ∀ (H : Heap) (locs : List Loc) (ls : Array Slot), va_P (rf_D E) vwCl (cM E a I (rf_upL A [(7, m_can)])) H → va_S A0 s.heap H locs → lv_has ls 6 [(0, .ref (a 0)), (1, .int v1), (2, .int v2), (3, .int v3), (4, .int v4), (5, .int v5)] → W p l e ({ frames := 14, cells := 0, slots := 0, locals := 320 }) s m args below meth c H locs 0 0 (rf_QI below args s E A0 z.1 (cM E a I (rf_upL A [(7, z.2)]))) (F0 m 28 ls []) := by
  have hx := hC.1
  have hb := hC.2.1
  intro n
  induction n with
  | zero =>
    intro v1 v2 v3 v4 v5 m_can hf
    have hf : (none : Option (Int32 × (Nat → Int32))) = some z := hf
    cases hf
  | succ n ih =>
    intro v1 v2 v3 v4 v5 m_can hf H locs ls hP hS hl
    rw [f_X11_areAllPaired_28] at hf
    refine lv_iload hx hb dX11_areAllPaired_28 (lv_at hl 5 rfl) ?_
    refine lv_aload_n hx hb dX11_areAllPaired_30 rfl (lv_at hl 0 rfl) ?_
    refine gM_m_r hC hP tw_1294 dX11_areAllPaired_31 ?_
    refine lv_iconst (v := 3) hx hb dX11_areAllPaired_34 (by decide) ?_
    refine lM_m_r hC hP (by decide) (f := m_r) e_m_r dX11_areAllPaired_35 ?_
    refine lv_icmp_ge (tgt := 129) hx hb dX11_areAllPaired_36 (by decide) (fun c_36 => ?_) (fun c_36 => ?_)
    · have hf := rf_it c_36 hf
      refine lv_iinc (v := v4 + 1) (lv' := [(4, .int (v4 + 1)), (0, .ref (a 0)), (1, .int v1), (2, .int v2), (3, .int v3), (5, .int v5)]) hx hb dX11_areAllPaired_129 hl (k := 4) rfl rfl (by decide) rfl (fun ls hl => ?_)
      refine lv_goto (tgt := 3) hx hb dX11_areAllPaired_132 (by decide) ?_
      exact hk3 v1 v2 v3 (v4 + 1) m_can hf _ _ _ hP hS (lv_sub hl [1, 2, 3, 4, 0] rfl)
    have hf := rf_ie c_36 hf
    refine lv_iload_n hx hb dX11_areAllPaired_39 rfl (lv_at hl 1 rfl) ?_
    refine lv_iload hx hb dX11_areAllPaired_40 (lv_at hl 4 rfl) ?_
    obtain ⟨z42, hz42, hf⟩ := rf_bd hf
    refine rf_si0 hC (c_X11_hasBit l E v1 v4 hz42) kS_X11_hasBit tw_1539 ⟨Nat.le_of_ble_eq_true rfl, Nat.le_of_ble_eq_true rfl⟩ rfl rfl hP hS rfl hl.1 (rest := []) rfl (Nat.le_of_ble_eq_true rfl) dX11_areAllPaired_42 (fun H locs hP hS => ?_)
    refine lv_if_eq (tgt := 123) hx hb dX11_areAllPaired_45 (by decide) (fun c_45 => ?_) (fun c_45 => ?_)
    · have hf := rf_it c_45 hf
      exact w_X11_areAllPaired_123 hC hD e_m_r e_m_st hk3 ih v1 v2 v3 v4 v5 m_can hf _ _ _ hP hS (lv_sub hl [0, 1, 2, 3, 4, 5] rfl)
    have hf := rf_ie c_45 hf
    refine lv_iload_n hx hb dX11_areAllPaired_48 rfl (lv_at hl 1 rfl) ?_
    refine lv_iload hx hb dX11_areAllPaired_49 (lv_at hl 5 rfl) ?_
    obtain ⟨z51, hz51, hf⟩ := rf_bd hf
    refine rf_si0 hC (c_X11_hasBit l E v1 v5 hz51) kS_X11_hasBit tw_1539 ⟨Nat.le_of_ble_eq_true rfl, Nat.le_of_ble_eq_true rfl⟩ rfl rfl hP hS rfl hl.1 (rest := []) rfl (Nat.le_of_ble_eq_true rfl) dX11_areAllPaired_51 (fun H locs hP hS => ?_)
    refine lv_if_ne (tgt := 60) hx hb dX11_areAllPaired_54 (by decide) (fun c_54 => ?_) (fun c_54 => ?_)
    · have hf := rf_ie c_54 hf
      refine lv_aload_n hx hb dX11_areAllPaired_60 rfl (lv_at hl 0 rfl) ?_
      refine gM_m_can hC hP tw_1301 dX11_areAllPaired_61 ?_
      refine lv_iload hx hb dX11_areAllPaired_64 (lv_at hl 4 rfl) ?_
      refine lv_dup2_11 hx hb dX11_areAllPaired_66 rfl rfl ?_
      obtain ⟨hi_67, hf⟩ := rf_gu hf
      refine lM_m_can hC hP hi_67 (f := m_can) rfl dX11_areAllPaired_67 ?_
      refine lv_aload_n hx hb dX11_areAllPaired_68 rfl (lv_at hl 0 rfl) ?_
      refine lv_aload_n hx hb dX11_areAllPaired_69 rfl (lv_at hl 0 rfl) ?_
      refine lv_iload hx hb dX11_areAllPaired_70 (lv_at hl 4 rfl) ?_
      obtain ⟨z72, hz72, hf⟩ := rf_bd hf
      refine rf_vi (q0 := 0) (ci := 11) hC (c_X11_kindOf l E a I (rf_upL A [(7, m_can)]) m_r v4 e_m_r hz72) kV_X11_kindOf tw_1609 ⟨Nat.le_of_ble_eq_true rfl, Nat.le_of_ble_eq_true rfl⟩ rfl rfl rfl rfl rfl hP (rf_DM hD) hS rfl hl.1 (rest := [.ref (a 0), .int (m_can (Int32.toNatClampNeg v4)), .int v4, .ref (a 8)]) rfl (Nat.le_of_ble_eq_true rfl) dX11_areAllPaired_72 (fun H locs hP hS => ?_)
      refine lv_aload_n hx hb dX11_areAllPaired_75 rfl (lv_at hl 0 rfl) ?_
      refine gM_m_st hC hP tw_1296 dX11_areAllPaired_76 ?_
      refine lv_bipush (v := 8) hx hb dX11_areAllPaired_79 (by decide) ?_
      refine lv_iload hx hb dX11_areAllPaired_81 (lv_at hl 4 rfl) ?_
      refine lv_iadd hx hb dX11_areAllPaired_83 ?_
      obtain ⟨hi_84, hf⟩ := rf_gu hf
      refine lM_m_st hC hP hi_84 (f := m_st) e_m_st dX11_areAllPaired_84 ?_
      refine lv_iload_n hx hb dX11_areAllPaired_85 rfl (lv_at hl 2 rfl) ?_
      refine lv_ior hx hb dX11_areAllPaired_86 ?_
      refine lv_aload_n hx hb dX11_areAllPaired_87 rfl (lv_at hl 0 rfl) ?_
      refine lv_iload hx hb dX11_areAllPaired_88 (lv_at hl 5 rfl) ?_
      obtain ⟨z90, hz90, hf⟩ := rf_bd hf
      refine rf_vi (q0 := 0) (ci := 11) hC (c_X11_kindOf l E a I (rf_upL A [(7, m_can)]) m_r v5 e_m_r hz90) kV_X11_kindOf tw_1609 ⟨Nat.le_of_ble_eq_true rfl, Nat.le_of_ble_eq_true rfl⟩ rfl rfl rfl rfl rfl hP (rf_DM hD) hS rfl hl.1 (rest := [.int ((m_st (Int32.toNatClampNeg ((8 : Int32) + v4))) ||| v2), .int z72, .ref (a 0), .int (m_can (Int32.toNatClampNeg v4)), .int v4, .ref (a 8)]) rfl (Nat.le_of_ble_eq_true rfl) dX11_areAllPaired_90 (fun H locs hP hS => ?_)
      refine lv_aload_n hx hb dX11_areAllPaired_93 rfl (lv_at hl 0 rfl) ?_
      refine gM_m_st hC hP tw_1296 dX11_areAllPaired_94 ?_
      refine lv_bipush (v := 8) hx hb dX11_areAllPaired_97 (by decide) ?_
      refine lv_iload hx hb dX11_areAllPaired_99 (lv_at hl 5 rfl) ?_
      refine lv_iadd hx hb dX11_areAllPaired_101 ?_
      obtain ⟨hi_102, hf⟩ := rf_gu hf
      refine lM_m_st hC hP hi_102 (f := m_st) e_m_st dX11_areAllPaired_102 ?_
      refine lv_iload_n hx hb dX11_areAllPaired_103 rfl (lv_at hl 2 rfl) ?_
      refine lv_ior hx hb dX11_areAllPaired_104 ?_
      refine lv_iload_n hx hb dX11_areAllPaired_105 rfl (lv_at hl 3 rfl) ?_
      obtain ⟨z106, hz106, hf⟩ := rf_bd hf
      refine rf_vi (q0 := 0) (ci := 11) hC (c_X11_rhymeOf l E a I (rf_upL A [(7, m_can)]) m_r z72 ((m_st (Int32.toNatClampNeg ((8 : Int32) + v4))) ||| v2) z90 ((m_st (Int32.toNatClampNeg ((8 : Int32) + v5))) ||| v2) v3 e_m_r hz106) kV_X11_rhymeOf tw_1640 ⟨Nat.le_of_ble_eq_true rfl, Nat.le_of_ble_eq_true rfl⟩ rfl rfl rfl rfl rfl hP (rf_DM hD) hS rfl hl.1 (rest := [.int (m_can (Int32.toNatClampNeg v4)), .int v4, .ref (a 8)]) rfl (Nat.le_of_ble_eq_true rfl) dX11_areAllPaired_106 (fun H locs hP hS => ?_)
      refine lv_iconst (v := 2) hx hb dX11_areAllPaired_109 (by decide) ?_
      refine lv_icmp_ne (tgt := 120) hx hb dX11_areAllPaired_110 (by decide) (fun c_110 => ?_) (fun c_110 => ?_)
      · have hf := rf_ie c_110 hf
        refine lv_iconst (v := 0) hx hb dX11_areAllPaired_120 (by decide) ?_
        exact w_X11_areAllPaired_121 hC hD e_m_r e_m_st hk3 ih v1 v2 v3 v4 v5 v4 (m_can (Int32.toNatClampNeg v4)) 0 m_can hf _ _ _ hP hS (lv_sub hl [0, 1, 2, 3, 4, 5] rfl)
      have hf := rf_it c_110 hf
      refine lv_iconst (v := 1) hx hb dX11_areAllPaired_113 (by decide) ?_
      refine lv_iload hx hb dX11_areAllPaired_114 (lv_at hl 5 rfl) ?_
      refine lv_ishl hx hb dX11_areAllPaired_116 ?_
      refine lv_goto (tgt := 121) hx hb dX11_areAllPaired_117 (by decide) ?_
      exact w_X11_areAllPaired_121 hC hD e_m_r e_m_st hk3 ih v1 v2 v3 v4 v5 v4 (m_can (Int32.toNatClampNeg v4)) ((1 : Int32) <<< (v5 &&& 31)) m_can hf _ _ _ hP hS (lv_sub hl [0, 1, 2, 3, 4, 5] rfl)
    have hf := rf_it c_54 hf
    refine lv_goto (tgt := 123) hx hb dX11_areAllPaired_57 (by decide) ?_
    exact w_X11_areAllPaired_123 hC hD e_m_r e_m_st hk3 ih v1 v2 v3 v4 v5 m_can hf _ _ _ hP hS (lv_sub hl [0, 1, 2, 3, 4, 5] rfl)
set_option maxHeartbeats 4000000 in
set_option maxRecDepth 100000 in
theorem w_X11_areAllPaired_3 {l : Launch} {p : Program} {e : Env} {s : State} {m : MethodId} {args : Array Value} {below : List Frame} {meth : Method} {c : Code} {A0 : Nat → Prop} {E : rf_E} {a : Nat → Nat} {I : Nat → Int32} {A : Nat → Nat → Int32} {m_r : Nat → Int32} {m_st : Nat → Int32} {z : Int32 × (Nat → Int32)} (hC : rf_C p E s m args meth c cX11_areAllPaired 6 RX11 (some .boolean) A0) (hD : va_D A0 (cM E a I A)) (e_m_r : A 2 = m_r) (e_m_st : A 4 = m_st) :
    ∀ (n : Nat), ∀ (v1 : Int32) (v2 : Int32) (v3 : Int32) (v4 : Int32) (m_can : Nat → Int32), f_X11_areAllPaired_3 m_r m_st n v1 v2 v3 v4 m_can = some z → ∀ (H : Heap) (locs : List Loc) (ls : Array Slot), va_P (rf_D E) vwCl (cM E a I (rf_upL A [(7, m_can)])) H → va_S A0 s.heap H locs → lv_has ls 6 [(0, .ref (a 0)), (1, .int v1), (2, .int v2), (3, .int v3), (4, .int v4)] → W p l e ({ frames := 14, cells := 0, slots := 0, locals := 320 }) s m args below meth c H locs 0 0 (rf_QI below args s E A0 z.1 (cM E a I (rf_upL A [(7, z.2)]))) (F0 m 3 ls []) := by
  have hx := hC.1
  have hb := hC.2.1
  intro n
  induction n with
  | zero =>
    intro v1 v2 v3 v4 m_can hf
    have hf : (none : Option (Int32 × (Nat → Int32))) = some z := hf
    cases hf
  | succ n ih =>
    intro v1 v2 v3 v4 m_can hf H locs ls hP hS hl
    rw [f_X11_areAllPaired_3] at hf
    refine lv_iload hx hb dX11_areAllPaired_3 (lv_at hl 4 rfl) ?_
    refine lv_aload_n hx hb dX11_areAllPaired_5 rfl (lv_at hl 0 rfl) ?_
    refine gM_m_r hC hP tw_1294 dX11_areAllPaired_6 ?_
    refine lv_iconst (v := 3) hx hb dX11_areAllPaired_9 (by decide) ?_
    refine lM_m_r hC hP (by decide) (f := m_r) e_m_r dX11_areAllPaired_10 ?_
    refine lv_icmp_ge (tgt := 135) hx hb dX11_areAllPaired_11 (by decide) (fun c_11 => ?_) (fun c_11 => ?_)
    · have hf := rf_it c_11 hf
      refine lv_aload_n hx hb dX11_areAllPaired_135 rfl (lv_at hl 0 rfl) ?_
      refine lv_iload_n hx hb dX11_areAllPaired_136 rfl (lv_at hl 1 rfl) ?_
      obtain ⟨z137, hz137, hf⟩ := rf_bd hf
      refine rf_vi (q0 := 0) (ci := 11) hC (c_X11_isPaired l E 12 a I (rf_upL A [(7, m_can)]) m_r m_can v1 e_m_r rfl hz137) kV_X11_isPaired tw_1772 ⟨Nat.le_of_ble_eq_true rfl, Nat.le_of_ble_eq_true rfl⟩ rfl rfl rfl rfl rfl hP (rf_DM hD) hS rfl hl.1 (rest := []) rfl (Nat.le_of_ble_eq_true rfl) dX11_areAllPaired_137 (fun H locs hP hS => ?_)
      obtain ⟨hz_140, hf⟩ := rf_gu hf
      obtain rfl := Option.some.inj hf
      exact rf_retz hC hP hS hz_140 rfl rfl dX11_areAllPaired_140
    have hf := rf_ie c_11 hf
    refine lv_aload_n hx hb dX11_areAllPaired_14 rfl (lv_at hl 0 rfl) ?_
    refine gM_m_can hC hP tw_1301 dX11_areAllPaired_15 ?_
    refine lv_iload hx hb dX11_areAllPaired_18 (lv_at hl 4 rfl) ?_
    refine lv_iconst (v := 0) hx hb dX11_areAllPaired_20 (by decide) ?_
    obtain ⟨hi_21, hf⟩ := rf_gu hf
    refine sM_m_can hC hD hP hS hi_21 (f := m_can) rfl dX11_areAllPaired_21 (rf_upL A [(7, upd m_can (Int32.toNatClampNeg v4) 0)]) (rf_put rfl) (fun H locs hP hS => ?_)
    refine lv_iload hx hb dX11_areAllPaired_22 (lv_at hl 4 rfl) ?_
    refine lv_iconst (v := 1) hx hb dX11_areAllPaired_24 (by decide) ?_
    refine lv_iadd hx hb dX11_areAllPaired_25 ?_
    refine lv_istore (lv' := [(5, .int (v4 + 1)), (0, .ref (a 0)), (1, .int v1), (2, .int v2), (3, .int v3), (4, .int v4)]) hx hb dX11_areAllPaired_26 hl (by decide) rfl (fun ls hl => ?_)
    exact w_X11_areAllPaired_28 hC hD e_m_r e_m_st ih rf_fu v1 v2 v3 v4 (v4 + 1) (upd m_can (Int32.toNatClampNeg v4) 0) hf _ _ _ hP hS (lv_sub hl [1, 2, 3, 4, 5, 0] rfl)
set_option maxHeartbeats 4000000 in
set_option maxRecDepth 100000 in
theorem c_X11_areAllPaired (l : Launch) (E : rf_E) (a : Nat → Nat) (I : Nat → Int32) (A : Nat → Nat → Int32) (m_r : Nat → Int32) (m_st : Nat → Int32) (m_can : Nat → Int32) (v1 : Int32) (v2 : Int32) (v3 : Int32) {z : Int32 × (Nat → Int32)} (e_m_r : A 2 = m_r) (e_m_st : A 4 = m_st) (e_m_can : A 7 = m_can) (hf : f_X11_areAllPaired m_r m_st m_can v1 v2 v3 = some z) : rf_MI l yX11_areAllPaired cX11_areAllPaired 6 (some .boolean) ({ frames := 14, cells := 0, slots := 0, locals := 320 }) E [.ref (a 0), .int v1, .int v2, .int v3] (cM E a I A) z.1 (cM E a I (rf_upL A [(7, z.2)])) := by
  unfold f_X11_areAllPaired at hf
  refine rf_ofI (by decide) (Nat.le_of_ble_eq_true rfl) ?_
  intro p e s m below meth c A0 ls hC hD hP hS hl
  have hC : rf_C p E s m _ meth c cX11_areAllPaired 6 RX11 (some .boolean) A0 := hC
  have hx := hC.1
  have hb := hC.2.1
  have hl : lv_has ls 6 [(0, .ref (a 0)), (1, .int v1), (2, .int v2), (3, .int v3)] := hl
  have hP : va_P (rf_D E) vwCl (cM E a I (rf_upL A [(7, m_can)])) s.heap := by
    rw [rf_self (f := A) [(7, m_can)] (rf_fa1 e_m_can rf_fa0)]
    exact hP
  refine lv_iconst (v := 0) hx hb dX11_areAllPaired_0 (by decide) ?_
  refine lv_istore (lv' := [(4, .int 0), (0, .ref (a 0)), (1, .int v1), (2, .int v2), (3, .int v3)]) hx hb dX11_areAllPaired_1 hl (by decide) rfl (fun ls hl => ?_)
  exact w_X11_areAllPaired_3 hC hD e_m_r e_m_st rf_fu v1 v2 v3 0 m_can hf _ _ _ hP hS (lv_sub hl [1, 2, 3, 4, 0] rfl)
set_option maxHeartbeats 4000000 in
set_option maxRecDepth 100000 in
theorem w_X11_keep_66 {l : Launch} {p : Program} {e : Env} {s : State} {m : MethodId} {args : Array Value} {below : List Frame} {meth : Method} {c : Code} {A0 : Nat → Prop} {E : rf_E} {a : Nat → Nat} {I : Nat → Int32} {A : Nat → Nat → Int32} {m_hasFerry : Int32} {m_r : Nat → Int32} {m_st : Nat → Int32} {z : Int32 × Int32 × Int32 × (Nat → Int32)} (hC : rf_C p E s m args meth c cX11_keep 7 RX11 (some .int) A0) (hD : va_D A0 (cM E a I A)) (e_m_hasFerry : I 12 = m_hasFerry) (e_m_r : A 2 = m_r) (e_m_st : A 4 = m_st) :
    ∀ (m_thrown : Int32) (m_trouble : Int32) (m_can : Nat → Int32), f_X11_keep_66 m_hasFerry m_r m_st m_thrown m_trouble m_can = some z → ∀ (H : Heap) (locs : List Loc) (ls : Array Slot), va_P (rf_D E) vwCl (cM E a (rf_upL I [(0, m_thrown), (10, m_trouble)]) (rf_upL A [(7, m_can)])) H → va_S A0 s.heap H locs → lv_has ls 7 [] → W p l e ({ frames := 15, cells := 0, slots := 0, locals := 345 }) s m args below meth c H locs 0 0 (rf_QI below args s E A0 z.1 (cM E a (rf_upL I [(0, z.2.1), (10, z.2.2.1)]) (rf_upL A [(7, z.2.2.2)]))) (F0 m 66 ls []) := by
  have hx := hC.1
  have hb := hC.2.1
  intro m_thrown m_trouble m_can hf H locs ls hP hS hl
  unfold f_X11_keep_66 at hf
  refine lv_bipush (v := (-2)) hx hb dX11_keep_66 (by decide) ?_
  obtain rfl := Option.some.inj hf
  exact rf_reti hC hP hS rfl rfl dX11_keep_68
set_option maxHeartbeats 4000000 in
set_option maxRecDepth 100000 in
theorem w_X11_keep_118 {l : Launch} {p : Program} {e : Env} {s : State} {m : MethodId} {args : Array Value} {below : List Frame} {meth : Method} {c : Code} {A0 : Nat → Prop} {E : rf_E} {a : Nat → Nat} {I : Nat → Int32} {A : Nat → Nat → Int32} {m_hasFerry : Int32} {m_r : Nat → Int32} {m_st : Nat → Int32} {z : Int32 × Int32 × Int32 × (Nat → Int32)} (hC : rf_C p E s m args meth c cX11_keep 7 RX11 (some .int) A0) (hD : va_D A0 (cM E a I A)) (e_m_hasFerry : I 12 = m_hasFerry) (e_m_r : A 2 = m_r) (e_m_st : A 4 = m_st) {k72 : Int32 → Int32 → Int32 → Int32 → Int32 → Int32 → (Nat → Int32) → Option (Int32 × Int32 × Int32 × (Nat → Int32))} (hk72 : ∀ (v2 : Int32) (v4 : Int32) (v5 : Int32) (v6 : Int32) (m_thrown : Int32) (m_trouble : Int32) (m_can : Nat → Int32), k72 v2 v4 v5 v6 m_thrown m_trouble m_can = some z → ∀ (H : Heap) (locs : List Loc) (ls : Array Slot), va_P (rf_D E) vwCl (cM E a (rf_upL I [(0, m_thrown), (10, m_trouble)]) (rf_upL A [(7, m_can)])) H → va_S A0 s.heap H locs → lv_has ls 7 [(0, .ref (a 0)), (2, .int v2), (4, .int v4), (5, .int v5), (6, .int v6)] → W p l e ({ frames := 15, cells := 0, slots := 0, locals := 345 }) s m args below meth c H locs 0 0 (rf_QI below args s E A0 z.1 (cM E a (rf_upL I [(0, z.2.1), (10, z.2.2.1)]) (rf_upL A [(7, z.2.2.2)]))) (F0 m 72 ls [])) :
    ∀ (v2 : Int32) (v4 : Int32) (v5 : Int32) (v6 : Int32) (m_thrown : Int32) (m_trouble : Int32) (m_can : Nat → Int32), f_X11_keep_118 k72 m_hasFerry m_r m_st v2 v4 v5 v6 m_thrown m_trouble m_can = some z → ∀ (H : Heap) (locs : List Loc) (ls : Array Slot), va_P (rf_D E) vwCl (cM E a (rf_upL I [(0, m_thrown), (10, m_trouble)]) (rf_upL A [(7, m_can)])) H → va_S A0 s.heap H locs → lv_has ls 7 [(0, .ref (a 0)), (2, .int v2), (4, .int v4), (5, .int v5), (6, .int v6)] → W p l e ({ frames := 15, cells := 0, slots := 0, locals := 345 }) s m args below meth c H locs 0 0 (rf_QI below args s E A0 z.1 (cM E a (rf_upL I [(0, z.2.1), (10, z.2.2.1)]) (rf_upL A [(7, z.2.2.2)]))) (F0 m 118 ls []) := by
  have hx := hC.1
  have hb := hC.2.1
  intro v2 v4 v5 v6 m_thrown m_trouble m_can hf H locs ls hP hS hl
  unfold f_X11_keep_118 at hf
  refine lv_iinc (v := v6 + 1) (lv' := [(6, .int (v6 + 1)), (0, .ref (a 0)), (2, .int v2), (4, .int v4), (5, .int v5)]) hx hb dX11_keep_118 hl (k := 4) rfl rfl (by decide) rfl (fun ls hl => ?_)
  refine lv_goto (tgt := 72) hx hb dX11_keep_121 (by decide) ?_
  exact hk72 v2 v4 v5 (v6 + 1) m_thrown m_trouble m_can hf _ _ _ hP hS (lv_sub hl [1, 2, 3, 4, 0] rfl)
set_option maxHeartbeats 4000000 in
set_option maxRecDepth 100000 in
theorem w_X11_keep_72 {l : Launch} {p : Program} {e : Env} {s : State} {m : MethodId} {args : Array Value} {below : List Frame} {meth : Method} {c : Code} {A0 : Nat → Prop} {E : rf_E} {a : Nat → Nat} {I : Nat → Int32} {A : Nat → Nat → Int32} {m_hasFerry : Int32} {m_r : Nat → Int32} {m_st : Nat → Int32} {z : Int32 × Int32 × Int32 × (Nat → Int32)} (hC : rf_C p E s m args meth c cX11_keep 7 RX11 (some .int) A0) (hD : va_D A0 (cM E a I A)) (e_m_hasFerry : I 12 = m_hasFerry) (e_m_r : A 2 = m_r) (e_m_st : A 4 = m_st) :
    ∀ (n : Nat), ∀ (v2 : Int32) (v4 : Int32) (v5 : Int32) (v6 : Int32) (m_thrown : Int32) (m_trouble : Int32) (m_can : Nat → Int32), f_X11_keep_72 m_hasFerry m_r m_st n v2 v4 v5 v6 m_thrown m_trouble m_can = some z → ∀ (H : Heap) (locs : List Loc) (ls : Array Slot), va_P (rf_D E) vwCl (cM E a (rf_upL I [(0, m_thrown), (10, m_trouble)]) (rf_upL A [(7, m_can)])) H → va_S A0 s.heap H locs → lv_has ls 7 [(0, .ref (a 0)), (2, .int v2), (4, .int v4), (5, .int v5), (6, .int v6)] → W p l e ({ frames := 15, cells := 0, slots := 0, locals := 345 }) s m args below meth c H locs 0 0 (rf_QI below args s E A0 z.1 (cM E a (rf_upL I [(0, z.2.1), (10, z.2.2.1)]) (rf_upL A [(7, z.2.2.2)]))) (F0 m 72 ls []) := by
  have hx := hC.1
  have hb := hC.2.1
  intro n
  induction n with
  | zero =>
    intro v2 v4 v5 v6 m_thrown m_trouble m_can hf
    have hf : (none : Option (Int32 × Int32 × Int32 × (Nat → Int32))) = some z := hf
    cases hf
  | succ n ih =>
    intro v2 v4 v5 v6 m_thrown m_trouble m_can hf H locs ls hP hS hl
    rw [f_X11_keep_72] at hf
    refine lv_iload hx hb dX11_keep_72 (lv_at hl 4 rfl) ?_
    refine lv_iconst (v := 1) hx hb dX11_keep_74 (by decide) ?_
    refine lv_aload_n hx hb dX11_keep_75 rfl (lv_at hl 0 rfl) ?_
    refine gM_m_r hC hP tw_1294 dX11_keep_76 ?_
    refine lv_iconst (v := 2) hx hb dX11_keep_79 (by decide) ?_
    refine lM_m_r hC hP (by decide) (f := m_r) e_m_r dX11_keep_80 ?_
    refine lv_ishl hx hb dX11_keep_81 ?_
    refine lv_icmp_ge (tgt := 124) hx hb dX11_keep_82 (by decide) (fun c_82 => ?_) (fun c_82 => ?_)
    · have hf := rf_it c_82 hf
      refine lv_iload hx hb dX11_keep_124 (lv_at hl 3 rfl) ?_
      obtain rfl := Option.some.inj hf
      exact rf_reti hC hP hS rfl rfl dX11_keep_126
    have hf := rf_ie c_82 hf
    refine lv_iload hx hb dX11_keep_85 (lv_at hl 4 rfl) ?_
    obtain ⟨z87, hz87, hf⟩ := rf_bd hf
    refine rf_si0 hC (c_X11_ones l E v6 hz87) kS_X11_ones tw_1660 ⟨Nat.le_of_ble_eq_true rfl, Nat.le_of_ble_eq_true rfl⟩ rfl rfl hP hS rfl hl.1 (rest := []) rfl (Nat.le_of_ble_eq_true rfl) dX11_keep_87 (fun H locs hP hS => ?_)
    refine lv_iload hx hb dX11_keep_90 (lv_at hl 3 rfl) ?_
    obtain ⟨z92, hz92, hf⟩ := rf_bd hf
    refine rf_si0 hC (c_X11_ones l E v5 hz92) kS_X11_ones tw_1660 ⟨Nat.le_of_ble_eq_true rfl, Nat.le_of_ble_eq_true rfl⟩ rfl rfl hP hS rfl hl.1 (rest := [.int z87]) rfl (Nat.le_of_ble_eq_true rfl) dX11_keep_92 (fun H locs hP hS => ?_)
    refine lv_icmp_ge (tgt := 118) hx hb dX11_keep_95 (by decide) (fun c_95 => ?_) (fun c_95 => ?_)
    · have hf := rf_it c_95 hf
      exact w_X11_keep_118 hC hD e_m_hasFerry e_m_r e_m_st ih v2 v4 v5 v6 m_thrown m_trouble m_can hf _ _ _ hP hS (lv_sub hl [0, 1, 2, 3, 4] rfl)
    have hf := rf_ie c_95 hf
    refine lv_aload_n hx hb dX11_keep_98 rfl (lv_at hl 0 rfl) ?_
    refine lv_iload hx hb dX11_keep_99 (lv_at hl 2 rfl) ?_
    refine lv_iload hx hb dX11_keep_101 (lv_at hl 4 rfl) ?_
    refine lv_aload_n hx hb dX11_keep_103 rfl (lv_at hl 0 rfl) ?_
    refine lv_iload_n hx hb dX11_keep_104 rfl (lv_at hl 1 rfl) ?_
    obtain ⟨z105, hz105, hf⟩ := rf_bd hf
    refine rf_vi (q0 := 0) (ci := 11) hC (c_X11_earAt l E a (rf_upL I [(0, m_thrown), (10, m_trouble)]) (rf_upL A [(7, m_can)]) m_r v2 e_m_r hz105) kV_X11_earAt tw_1624 ⟨Nat.le_of_ble_eq_true rfl, Nat.le_of_ble_eq_true rfl⟩ rfl rfl rfl rfl rfl hP (rf_DM hD) hS rfl hl.1 (rest := [.int v6, .int v4, .ref (a 0)]) rfl (Nat.le_of_ble_eq_true rfl) dX11_keep_105 (fun H locs hP hS => ?_)
    obtain ⟨z108, hz108, hf⟩ := rf_bd hf
    refine rf_vi (q0 := 0) (ci := 11) hC (c_X11_areAllPaired l E a (rf_upL I [(0, m_thrown), (10, m_trouble)]) (rf_upL A [(7, m_can)]) m_r m_st m_can v4 v6 z105 e_m_r e_m_st rfl hz108) kV_X11_areAllPaired tw_1768 ⟨Nat.le_of_ble_eq_true rfl, Nat.le_of_ble_eq_true rfl⟩ rfl rfl rfl rfl rfl hP (rf_DM hD) hS rfl hl.1 (rest := []) rfl (Nat.le_of_ble_eq_true rfl) dX11_keep_108 (fun H locs hP hS => ?_)
    rw [rf_cat (f := A) (l := [(7, m_can)]) (lc := [(7, z108.2)]) (l' := [(7, z108.2)]) rfl] at hP
    refine lv_if_eq (tgt := 118) hx hb dX11_keep_111 (by decide) (fun c_111 => ?_) (fun c_111 => ?_)
    · have hf := rf_it c_111 hf
      exact w_X11_keep_118 hC hD e_m_hasFerry e_m_r e_m_st ih v2 v4 v5 v6 m_thrown m_trouble z108.2 hf _ _ _ hP hS (lv_sub hl [0, 1, 2, 3, 4] rfl)
    have hf := rf_ie c_111 hf
    refine lv_iload hx hb dX11_keep_114 (lv_at hl 4 rfl) ?_
    refine lv_istore (lv' := [(5, .int v6), (0, .ref (a 0)), (2, .int v2), (4, .int v4), (6, .int v6)]) hx hb dX11_keep_116 hl (by decide) rfl (fun ls hl => ?_)
    exact w_X11_keep_118 hC hD e_m_hasFerry e_m_r e_m_st ih v2 v4 v6 v6 m_thrown m_trouble z108.2 hf _ _ _ hP hS (lv_sub hl [1, 2, 3, 0, 4] rfl)
set_option maxHeartbeats 4000000 in
set_option maxRecDepth 100000 in
theorem c_X11_keep (l : Launch) (E : rf_E) (a : Nat → Nat) (I : Nat → Int32) (A : Nat → Nat → Int32) (m_hasFerry : Int32) (m_r : Nat → Int32) (m_st : Nat → Int32) (m_thrown : Int32) (m_trouble : Int32) (m_can : Nat → Int32) (v1 : Int32) (v2 : Int32) {z : Int32 × Int32 × Int32 × (Nat → Int32)} (e_m_hasFerry : I 12 = m_hasFerry) (e_m_r : A 2 = m_r) (e_m_st : A 4 = m_st) (e_m_thrown : I 0 = m_thrown) (e_m_trouble : I 10 = m_trouble) (e_m_can : A 7 = m_can) (hf : f_X11_keep m_hasFerry m_r m_st m_thrown m_trouble m_can v1 v2 = some z) : rf_MI l yX11_keep cX11_keep 7 (some .int) ({ frames := 15, cells := 0, slots := 0, locals := 345 }) E [.ref (a 0), .int v1, .int v2] (cM E a I A) z.1 (cM E a (rf_upL I [(0, z.2.1), (10, z.2.2.1)]) (rf_upL A [(7, z.2.2.2)])) := by
  unfold f_X11_keep at hf
  refine rf_ofI (by decide) (Nat.le_of_ble_eq_true rfl) ?_
  intro p e s m below meth c A0 ls hC hD hP hS hl
  have hC : rf_C p E s m _ meth c cX11_keep 7 RX11 (some .int) A0 := hC
  have hx := hC.1
  have hb := hC.2.1
  have hl : lv_has ls 7 [(0, .ref (a 0)), (1, .int v1), (2, .int v2)] := hl
  have hP : va_P (rf_D E) vwCl (cM E a (rf_upL I [(0, m_thrown), (10, m_trouble)]) (rf_upL A [(7, m_can)])) s.heap := by
    rw [rf_self (f := I) [(0, m_thrown), (10, m_trouble)] (rf_fa1 e_m_thrown (rf_fa1 e_m_trouble rf_fa0))]
    rw [rf_self (f := A) [(7, m_can)] (rf_fa1 e_m_can rf_fa0)]
    exact hP
  refine lv_aload_n hx hb dX11_keep_0 rfl (lv_at hl 0 rfl) ?_
  obtain ⟨z1, hz1, hf⟩ := rf_bd hf
  refine rf_vv (q0 := 0) (ci := 11) hC (c_X11_good l E a (rf_upL I [(0, m_thrown), (10, m_trouble)]) (rf_upL A [(7, m_can)]) m_thrown m_trouble rfl rfl hz1) kV_X11_good tw_1403 ⟨Nat.le_of_ble_eq_true rfl, Nat.le_of_ble_eq_true rfl⟩ rfl rfl rfl rfl rfl hP (rf_DM hD) hS rfl hl.1 (rest := []) rfl (Nat.le_of_ble_eq_true rfl) dX11_keep_1 (fun H locs hP hS => ?_)
  rw [rf_cat (f := I) (l := [(0, m_thrown), (10, m_trouble)]) (lc := [(0, z1.1), (10, z1.2)]) (l' := [(0, z1.1), (10, z1.2)]) rfl] at hP
  refine lv_aload_n hx hb dX11_keep_4 rfl (lv_at hl 0 rfl) ?_
  refine lv_iload_n hx hb dX11_keep_5 rfl (lv_at hl 1 rfl) ?_
  refine lv_iload_n hx hb dX11_keep_6 rfl (lv_at hl 2 rfl) ?_
  obtain ⟨z7, hz7, hf⟩ := rf_bd hf
  refine rf_vi (q0 := 0) (ci := 11) hC (c_X11_bankWhy l E a (rf_upL I [(0, z1.1), (10, z1.2)]) (rf_upL A [(7, m_can)]) m_hasFerry v1 v2 e_m_hasFerry hz7) kV_X11_bankWhy tw_1703 ⟨Nat.le_of_ble_eq_true rfl, Nat.le_of_ble_eq_true rfl⟩ rfl rfl rfl rfl rfl hP (rf_DM hD) hS rfl hl.1 (rest := []) rfl (Nat.le_of_ble_eq_true rfl) dX11_keep_7 (fun H locs hP hS => ?_)
  refine lv_istore_n (lv' := [(3, .int z7), (0, .ref (a 0)), (1, .int v1), (2, .int v2)]) hx hb dX11_keep_10 rfl hl (by decide) rfl (fun ls hl => ?_)
  refine lv_iload_n hx hb dX11_keep_11 rfl (lv_at hl 0 rfl) ?_
  refine lv_if_eq (tgt := 21) hx hb dX11_keep_12 (by decide) (fun c_12 => ?_) (fun c_12 => ?_)
  · have hf := rf_it c_12 hf
    refine lv_aload_n hx hb dX11_keep_21 rfl (lv_at hl 1 rfl) ?_
    refine lv_iload_n hx hb dX11_keep_22 rfl (lv_at hl 2 rfl) ?_
    obtain ⟨z23, hz23, hf⟩ := rf_bd hf
    refine rf_vi (q0 := 0) (ci := 11) hC (c_X11_onBank l E a (rf_upL I [(0, z1.1), (10, z1.2)]) (rf_upL A [(7, m_can)]) m_r m_st v1 e_m_r e_m_st hz23) kV_X11_onBank tw_1691 ⟨Nat.le_of_ble_eq_true rfl, Nat.le_of_ble_eq_true rfl⟩ rfl rfl rfl rfl rfl hP (rf_DM hD) hS rfl hl.1 (rest := []) rfl (Nat.le_of_ble_eq_true rfl) dX11_keep_23 (fun H locs hP hS => ?_)
    refine lv_istore (lv' := [(4, .int z23), (3, .int z7), (0, .ref (a 0)), (1, .int v1), (2, .int v2)]) hx hb dX11_keep_26 hl (by decide) rfl (fun ls hl => ?_)
    refine lv_iconst (v := 1) hx hb dX11_keep_28 (by decide) ?_
    refine lv_aload_n hx hb dX11_keep_29 rfl (lv_at hl 2 rfl) ?_
    refine gM_m_r hC hP tw_1294 dX11_keep_30 ?_
    refine lv_iconst (v := 2) hx hb dX11_keep_33 (by decide) ?_
    refine lM_m_r hC hP (by decide) (f := m_r) e_m_r dX11_keep_34 ?_
    refine lv_ishl hx hb dX11_keep_35 ?_
    refine lv_iconst (v := 1) hx hb dX11_keep_36 (by decide) ?_
    refine lv_isub hx hb dX11_keep_37 ?_
    refine lv_istore (lv' := [(5, .int (((1 : Int32) <<< ((m_r (Int32.toNatClampNeg 2)) &&& 31)) - 1)), (4, .int z23), (3, .int z7), (0, .ref (a 0)), (1, .int v1), (2, .int v2)]) hx hb dX11_keep_38 hl (by decide) rfl (fun ls hl => ?_)
    refine lv_iload hx hb dX11_keep_40 (lv_at hl 1 rfl) ?_
    obtain ⟨z42, hz42, hf⟩ := rf_bd hf
    refine rf_si0 hC (c_X11_ones l E z23 hz42) kS_X11_ones tw_1660 ⟨Nat.le_of_ble_eq_true rfl, Nat.le_of_ble_eq_true rfl⟩ rfl rfl hP hS rfl hl.1 (rest := []) rfl (Nat.le_of_ble_eq_true rfl) dX11_keep_42 (fun H locs hP hS => ?_)
    refine lv_iconst (v := 2) hx hb dX11_keep_45 (by decide) ?_
    refine lv_irem hx hb dX11_keep_46 (by decide) ?_
    refine lv_if_ne (tgt := 66) hx hb dX11_keep_47 (by decide) (fun c_47 => ?_) (fun c_47 => ?_)
    · have hf := rf_ie c_47 hf
      exact w_X11_keep_66 hC hD e_m_hasFerry e_m_r e_m_st z1.1 z1.2 m_can hf _ _ _ hP hS (lv_sub hl [] rfl)
    have hf := rf_it c_47 hf
    refine lv_aload_n hx hb dX11_keep_50 rfl (lv_at hl 3 rfl) ?_
    refine lv_iload hx hb dX11_keep_51 (lv_at hl 1 rfl) ?_
    refine lv_iload hx hb dX11_keep_53 (lv_at hl 0 rfl) ?_
    refine lv_aload_n hx hb dX11_keep_55 rfl (lv_at hl 3 rfl) ?_
    refine lv_iload_n hx hb dX11_keep_56 rfl (lv_at hl 5 rfl) ?_
    obtain ⟨z57, hz57, hf⟩ := rf_bd hf
    refine rf_vi (q0 := 0) (ci := 11) hC (c_X11_earAt l E a (rf_upL I [(0, z1.1), (10, z1.2)]) (rf_upL A [(7, m_can)]) m_r v2 e_m_r hz57) kV_X11_earAt tw_1624 ⟨Nat.le_of_ble_eq_true rfl, Nat.le_of_ble_eq_true rfl⟩ rfl rfl rfl rfl rfl hP (rf_DM hD) hS rfl hl.1 (rest := [.int (((1 : Int32) <<< ((m_r (Int32.toNatClampNeg 2)) &&& 31)) - 1), .int z23, .ref (a 0)]) rfl (Nat.le_of_ble_eq_true rfl) dX11_keep_57 (fun H locs hP hS => ?_)
    obtain ⟨z60, hz60, hf⟩ := rf_bd hf
    refine rf_vi (q0 := 0) (ci := 11) hC (c_X11_areAllPaired l E a (rf_upL I [(0, z1.1), (10, z1.2)]) (rf_upL A [(7, m_can)]) m_r m_st m_can z23 (((1 : Int32) <<< ((m_r (Int32.toNatClampNeg 2)) &&& 31)) - 1) z57 e_m_r e_m_st rfl hz60) kV_X11_areAllPaired tw_1768 ⟨Nat.le_of_ble_eq_true rfl, Nat.le_of_ble_eq_true rfl⟩ rfl rfl rfl rfl rfl hP (rf_DM hD) hS rfl hl.1 (rest := []) rfl (Nat.le_of_ble_eq_true rfl) dX11_keep_60 (fun H locs hP hS => ?_)
    rw [rf_cat (f := A) (l := [(7, m_can)]) (lc := [(7, z60.2)]) (l' := [(7, z60.2)]) rfl] at hP
    refine lv_if_ne (tgt := 69) hx hb dX11_keep_63 (by decide) (fun c_63 => ?_) (fun c_63 => ?_)
    · have hf := rf_ie c_63 hf
      refine lv_iconst (v := 0) hx hb dX11_keep_69 (by decide) ?_
      refine lv_istore (lv' := [(6, .int 0), (5, .int (((1 : Int32) <<< ((m_r (Int32.toNatClampNeg 2)) &&& 31)) - 1)), (4, .int z23), (3, .int z7), (0, .ref (a 0)), (1, .int v1), (2, .int v2)]) hx hb dX11_keep_70 hl (by decide) rfl (fun ls hl => ?_)
      exact w_X11_keep_72 hC hD e_m_hasFerry e_m_r e_m_st rf_fu v2 z23 (((1 : Int32) <<< ((m_r (Int32.toNatClampNeg 2)) &&& 31)) - 1) 0 z1.1 z1.2 z60.2 hf _ _ _ hP hS (lv_sub hl [4, 6, 2, 1, 0] rfl)
    have hf := rf_it c_63 hf
    exact w_X11_keep_66 hC hD e_m_hasFerry e_m_r e_m_st z1.1 z1.2 z60.2 hf _ _ _ hP hS (lv_sub hl [] rfl)
  have hf := rf_ie c_12 hf
  refine lv_aload_n hx hb dX11_keep_15 rfl (lv_at hl 1 rfl) ?_
  refine lv_iload_n hx hb dX11_keep_16 rfl (lv_at hl 0 rfl) ?_
  obtain ⟨z17, hz17, hf⟩ := rf_bd hf
  refine rf_vi (q0 := 0) (ci := 11) hC (c_X11_no l E a (rf_upL I [(0, z1.1), (10, z1.2)]) (rf_upL A [(7, m_can)]) z1.2 z7 rfl hz17) kV_X11_no tw_1410 ⟨Nat.le_of_ble_eq_true rfl, Nat.le_of_ble_eq_true rfl⟩ rfl rfl rfl rfl rfl hP (rf_DM hD) hS rfl hl.1 (rest := []) rfl (Nat.le_of_ble_eq_true rfl) dX11_keep_17 (fun H locs hP hS => ?_)
  rw [rf_cat (f := I) (l := [(0, z1.1), (10, z1.2)]) (lc := [(10, z17.2)]) (l' := [(0, z1.1), (10, z17.2)]) rfl] at hP
  obtain rfl := Option.some.inj hf
  exact rf_reti hC hP hS rfl rfl dX11_keep_20
set_option maxHeartbeats 4000000 in
set_option maxRecDepth 100000 in
theorem w_X11_refrain_239 {l : Launch} {p : Program} {e : Env} {s : State} {m : MethodId} {args : Array Value} {below : List Frame} {meth : Method} {c : Code} {A0 : Nat → Prop} {E : rf_E} {a : Nat → Nat} {I : Nat → Int32} {A : Nat → Nat → Int32} {m_hasFerry : Int32} {m_r : Nat → Int32} {m_st : Nat → Int32} {z : Int32 × Int32 × Int32 × (Nat → Int32)} (hC : rf_C p E s m args meth c cX11_refrain 9 RX11 (some .int) A0) (hD : va_D A0 (cM E a I A)) (e_m_hasFerry : I 12 = m_hasFerry) (e_m_r : A 2 = m_r) (e_m_st : A 4 = m_st) {k145 : Int32 → Int32 → Int32 → Int32 → Int32 → (Nat → Int32) → Option (Int32 × Int32 × Int32 × (Nat → Int32))} (hk145 : ∀ (v4 : Int32) (v5 : Int32) (v6 : Int32) (m_thrown : Int32) (m_trouble : Int32) (m_covers : Nat → Int32), k145 v4 v5 v6 m_thrown m_trouble m_covers = some z → ∀ (H : Heap) (locs : List Loc) (ls : Array Slot), va_P (rf_D E) vwCl (cM E a (rf_upL I [(0, m_thrown), (10, m_trouble)]) (rf_upL A [(12, m_covers)])) H → va_S A0 s.heap H locs → lv_has ls 9 [(0, .ref (a 0)), (4, .int v4), (5, .int v5), (6, .int v6)] → W p l e ({ frames := 4, cells := 0, slots := 0, locals := 86 }) s m args below meth c H locs 0 0 (rf_QI below args s E A0 z.1 (cM E a (rf_upL I [(0, z.2.1), (10, z.2.2.1)]) (rf_upL A [(12, z.2.2.2)]))) (F0 m 145 ls [])) :
    ∀ (v4 : Int32) (v5 : Int32) (v6 : Int32) (m_thrown : Int32) (m_trouble : Int32) (m_covers : Nat → Int32), f_X11_refrain_239 k145 m_hasFerry m_r m_st v4 v5 v6 m_thrown m_trouble m_covers = some z → ∀ (H : Heap) (locs : List Loc) (ls : Array Slot), va_P (rf_D E) vwCl (cM E a (rf_upL I [(0, m_thrown), (10, m_trouble)]) (rf_upL A [(12, m_covers)])) H → va_S A0 s.heap H locs → lv_has ls 9 [(0, .ref (a 0)), (4, .int v4), (5, .int v5), (6, .int v6)] → W p l e ({ frames := 4, cells := 0, slots := 0, locals := 86 }) s m args below meth c H locs 0 0 (rf_QI below args s E A0 z.1 (cM E a (rf_upL I [(0, z.2.1), (10, z.2.2.1)]) (rf_upL A [(12, z.2.2.2)]))) (F0 m 239 ls []) := by
  have hx := hC.1
  have hb := hC.2.1
  intro v4 v5 v6 m_thrown m_trouble m_covers hf H locs ls hP hS hl
  unfold f_X11_refrain_239 at hf
  refine lv_iinc (v := v6 + 1) (lv' := [(6, .int (v6 + 1)), (0, .ref (a 0)), (4, .int v4), (5, .int v5)]) hx hb dX11_refrain_239 hl (k := 3) rfl rfl (by decide) rfl (fun ls hl => ?_)
  refine lv_goto (tgt := 145) hx hb dX11_refrain_242 (by decide) ?_
  exact hk145 v4 v5 (v6 + 1) m_thrown m_trouble m_covers hf _ _ _ hP hS (lv_sub hl [1, 2, 3, 0] rfl)
set_option maxHeartbeats 4000000 in
set_option maxRecDepth 100000 in
theorem w_X11_refrain_219 {l : Launch} {p : Program} {e : Env} {s : State} {m : MethodId} {args : Array Value} {below : List Frame} {meth : Method} {c : Code} {A0 : Nat → Prop} {E : rf_E} {a : Nat → Nat} {I : Nat → Int32} {A : Nat → Nat → Int32} {m_hasFerry : Int32} {m_r : Nat → Int32} {m_st : Nat → Int32} {z : Int32 × Int32 × Int32 × (Nat → Int32)} (hC : rf_C p E s m args meth c cX11_refrain 9 RX11 (some .int) A0) (hD : va_D A0 (cM E a I A)) (e_m_hasFerry : I 12 = m_hasFerry) (e_m_r : A 2 = m_r) (e_m_st : A 4 = m_st) {k145 : Int32 → Int32 → Int32 → Int32 → Int32 → (Nat → Int32) → Option (Int32 × Int32 × Int32 × (Nat → Int32))} (hk145 : ∀ (v4 : Int32) (v5 : Int32) (v6 : Int32) (m_thrown : Int32) (m_trouble : Int32) (m_covers : Nat → Int32), k145 v4 v5 v6 m_thrown m_trouble m_covers = some z → ∀ (H : Heap) (locs : List Loc) (ls : Array Slot), va_P (rf_D E) vwCl (cM E a (rf_upL I [(0, m_thrown), (10, m_trouble)]) (rf_upL A [(12, m_covers)])) H → va_S A0 s.heap H locs → lv_has ls 9 [(0, .ref (a 0)), (4, .int v4), (5, .int v5), (6, .int v6)] → W p l e ({ frames := 4, cells := 0, slots := 0, locals := 86 }) s m args below meth c H locs 0 0 (rf_QI below args s E A0 z.1 (cM E a (rf_upL I [(0, z.2.1), (10, z.2.2.1)]) (rf_upL A [(12, z.2.2.2)]))) (F0 m 145 ls [])) {k185 : Int32 → Int32 → Int32 → Int32 → Int32 → Int32 → Int32 → (Nat → Int32) → Option (Int32 × Int32 × Int32 × (Nat → Int32))} (hk185 : ∀ (v4 : Int32) (v5 : Int32) (v6 : Int32) (v7 : Int32) (v8 : Int32) (m_thrown : Int32) (m_trouble : Int32) (m_covers : Nat → Int32), k185 v4 v5 v6 v7 v8 m_thrown m_trouble m_covers = some z → ∀ (H : Heap) (locs : List Loc) (ls : Array Slot), va_P (rf_D E) vwCl (cM E a (rf_upL I [(0, m_thrown), (10, m_trouble)]) (rf_upL A [(12, m_covers)])) H → va_S A0 s.heap H locs → lv_has ls 9 [(0, .ref (a 0)), (4, .int v4), (5, .int v5), (6, .int v6), (7, .int v7), (8, .int v8)] → W p l e ({ frames := 4, cells := 0, slots := 0, locals := 86 }) s m args below meth c H locs 0 0 (rf_QI below args s E A0 z.1 (cM E a (rf_upL I [(0, z.2.1), (10, z.2.2.1)]) (rf_upL A [(12, z.2.2.2)]))) (F0 m 185 ls [])) :
    ∀ (v4 : Int32) (v5 : Int32) (v6 : Int32) (v8 : Int32) (s0 : Int32) (s1 : Int32) (m_thrown : Int32) (m_trouble : Int32) (m_covers : Nat → Int32), f_X11_refrain_219 k145 k185 m_hasFerry m_r m_st v4 v5 v6 v8 s0 s1 m_thrown m_trouble m_covers = some z → ∀ (H : Heap) (locs : List Loc) (ls : Array Slot), va_P (rf_D E) vwCl (cM E a (rf_upL I [(0, m_thrown), (10, m_trouble)]) (rf_upL A [(12, m_covers)])) H → va_S A0 s.heap H locs → lv_has ls 9 [(0, .ref (a 0)), (4, .int v4), (5, .int v5), (6, .int v6), (8, .int v8)] → W p l e ({ frames := 4, cells := 0, slots := 0, locals := 86 }) s m args below meth c H locs 0 0 (rf_QI below args s E A0 z.1 (cM E a (rf_upL I [(0, z.2.1), (10, z.2.2.1)]) (rf_upL A [(12, z.2.2.2)]))) (F0 m 219 ls [.int s1, .int s0]) := by
  have hx := hC.1
  have hb := hC.2.1
  intro v4 v5 v6 v8 s0 s1 m_thrown m_trouble m_covers hf H locs ls hP hS hl
  unfold f_X11_refrain_219 at hf
  refine lv_ior hx hb dX11_refrain_219 ?_
  refine lv_istore (lv' := [(7, .int (s0 ||| s1)), (0, .ref (a 0)), (4, .int v4), (5, .int v5), (6, .int v6), (8, .int v8)]) hx hb dX11_refrain_220 hl (by decide) rfl (fun ls hl => ?_)
  refine lv_iinc (v := v8 + 1) (lv' := [(8, .int (v8 + 1)), (7, .int (s0 ||| s1)), (0, .ref (a 0)), (4, .int v4), (5, .int v5), (6, .int v6)]) hx hb dX11_refrain_222 hl (k := 5) rfl rfl (by decide) rfl (fun ls hl => ?_)
  refine lv_goto (tgt := 185) hx hb dX11_refrain_225 (by decide) ?_
  exact hk185 v4 v5 v6 (s0 ||| s1) (v8 + 1) m_thrown m_trouble m_covers hf _ _ _ hP hS (lv_sub hl [2, 3, 4, 5, 1, 0] rfl)
set_option maxHeartbeats 4000000 in
set_option maxRecDepth 100000 in
theorem w_X11_refrain_185 {l : Launch} {p : Program} {e : Env} {s : State} {m : MethodId} {args : Array Value} {below : List Frame} {meth : Method} {c : Code} {A0 : Nat → Prop} {E : rf_E} {a : Nat → Nat} {I : Nat → Int32} {A : Nat → Nat → Int32} {m_hasFerry : Int32} {m_r : Nat → Int32} {m_st : Nat → Int32} {z : Int32 × Int32 × Int32 × (Nat → Int32)} (hC : rf_C p E s m args meth c cX11_refrain 9 RX11 (some .int) A0) (hD : va_D A0 (cM E a I A)) (e_m_hasFerry : I 12 = m_hasFerry) (e_m_r : A 2 = m_r) (e_m_st : A 4 = m_st) {k145 : Int32 → Int32 → Int32 → Int32 → Int32 → (Nat → Int32) → Option (Int32 × Int32 × Int32 × (Nat → Int32))} (hk145 : ∀ (v4 : Int32) (v5 : Int32) (v6 : Int32) (m_thrown : Int32) (m_trouble : Int32) (m_covers : Nat → Int32), k145 v4 v5 v6 m_thrown m_trouble m_covers = some z → ∀ (H : Heap) (locs : List Loc) (ls : Array Slot), va_P (rf_D E) vwCl (cM E a (rf_upL I [(0, m_thrown), (10, m_trouble)]) (rf_upL A [(12, m_covers)])) H → va_S A0 s.heap H locs → lv_has ls 9 [(0, .ref (a 0)), (4, .int v4), (5, .int v5), (6, .int v6)] → W p l e ({ frames := 4, cells := 0, slots := 0, locals := 86 }) s m args below meth c H locs 0 0 (rf_QI below args s E A0 z.1 (cM E a (rf_upL I [(0, z.2.1), (10, z.2.2.1)]) (rf_upL A [(12, z.2.2.2)]))) (F0 m 145 ls [])) :
    ∀ (n : Nat), ∀ (v4 : Int32) (v5 : Int32) (v6 : Int32) (v7 : Int32) (v8 : Int32) (m_thrown : Int32) (m_trouble : Int32) (m_covers : Nat → Int32), f_X11_refrain_185 k145 m_hasFerry m_r m_st n v4 v5 v6 v7 v8 m_thrown m_trouble m_covers = some z → ∀ (H : Heap) (locs : List Loc) (ls : Array Slot), va_P (rf_D E) vwCl (cM E a (rf_upL I [(0, m_thrown), (10, m_trouble)]) (rf_upL A [(12, m_covers)])) H → va_S A0 s.heap H locs → lv_has ls 9 [(0, .ref (a 0)), (4, .int v4), (5, .int v5), (6, .int v6), (7, .int v7), (8, .int v8)] → W p l e ({ frames := 4, cells := 0, slots := 0, locals := 86 }) s m args below meth c H locs 0 0 (rf_QI below args s E A0 z.1 (cM E a (rf_upL I [(0, z.2.1), (10, z.2.2.1)]) (rf_upL A [(12, z.2.2.2)]))) (F0 m 185 ls []) := by
  have hx := hC.1
  have hb := hC.2.1
  intro n
  induction n with
  | zero =>
    intro v4 v5 v6 v7 v8 m_thrown m_trouble m_covers hf
    have hf : (none : Option (Int32 × Int32 × Int32 × (Nat → Int32))) = some z := hf
    cases hf
  | succ n ih =>
    intro v4 v5 v6 v7 v8 m_thrown m_trouble m_covers hf H locs ls hP hS hl
    rw [f_X11_refrain_185] at hf
    refine lv_iload hx hb dX11_refrain_185 (lv_at hl 5 rfl) ?_
    refine lv_aload_n hx hb dX11_refrain_187 rfl (lv_at hl 0 rfl) ?_
    refine gM_m_r hC hP tw_1294 dX11_refrain_188 ?_
    refine lv_iconst (v := 2) hx hb dX11_refrain_191 (by decide) ?_
    refine lM_m_r hC hP (by decide) (f := m_r) e_m_r dX11_refrain_192 ?_
    refine lv_icmp_ge (tgt := 228) hx hb dX11_refrain_193 (by decide) (fun c_193 => ?_) (fun c_193 => ?_)
    · have hf := rf_it c_193 hf
      refine lv_iload hx hb dX11_refrain_228 (lv_at hl 4 rfl) ?_
      refine lv_iload hx hb dX11_refrain_230 (lv_at hl 1 rfl) ?_
      refine lv_icmp_ne (tgt := 239) hx hb dX11_refrain_232 (by decide) (fun c_232 => ?_) (fun c_232 => ?_)
      · have hf := rf_ie c_232 hf
        exact w_X11_refrain_239 hC hD e_m_hasFerry e_m_r e_m_st hk145 v4 v5 v6 m_thrown m_trouble m_covers hf _ _ _ hP hS (lv_sub hl [0, 1, 2, 3] rfl)
      have hf := rf_it c_232 hf
      refine lv_iload hx hb dX11_refrain_235 (lv_at hl 3 rfl) ?_
      refine lv_istore (lv' := [(5, .int v6), (0, .ref (a 0)), (4, .int v4), (6, .int v6), (7, .int v7), (8, .int v8)]) hx hb dX11_refrain_237 hl (by decide) rfl (fun ls hl => ?_)
      exact w_X11_refrain_239 hC hD e_m_hasFerry e_m_r e_m_st hk145 v4 v6 v6 m_thrown m_trouble m_covers hf _ _ _ hP hS (lv_sub hl [1, 2, 0, 3] rfl)
    have hf := rf_ie c_193 hf
    refine lv_iload hx hb dX11_refrain_196 (lv_at hl 4 rfl) ?_
    refine lv_iload hx hb dX11_refrain_198 (lv_at hl 3 rfl) ?_
    refine lv_iload hx hb dX11_refrain_200 (lv_at hl 5 rfl) ?_
    obtain ⟨z202, hz202, hf⟩ := rf_bd hf
    refine rf_si0 hC (c_X11_hasBit l E v6 v8 hz202) kS_X11_hasBit tw_1539 ⟨Nat.le_of_ble_eq_true rfl, Nat.le_of_ble_eq_true rfl⟩ rfl rfl hP hS rfl hl.1 (rest := [.int v7]) rfl (Nat.le_of_ble_eq_true rfl) dX11_refrain_202 (fun H locs hP hS => ?_)
    refine lv_if_eq (tgt := 218) hx hb dX11_refrain_205 (by decide) (fun c_205 => ?_) (fun c_205 => ?_)
    · have hf := rf_it c_205 hf
      refine lv_iconst (v := 0) hx hb dX11_refrain_218 (by decide) ?_
      exact w_X11_refrain_219 hC hD e_m_hasFerry e_m_r e_m_st hk145 ih v4 v5 v6 v8 v7 0 m_thrown m_trouble m_covers hf _ _ _ hP hS (lv_sub hl [0, 1, 2, 3, 5] rfl)
    have hf := rf_ie c_205 hf
    refine lv_aload_n hx hb dX11_refrain_208 rfl (lv_at hl 0 rfl) ?_
    refine gM_m_covers hC hP tw_1309 dX11_refrain_209 ?_
    refine lv_iload hx hb dX11_refrain_212 (lv_at hl 5 rfl) ?_
    obtain ⟨hi_214, hf⟩ := rf_gu hf
    refine lM_m_covers hC hP hi_214 (f := m_covers) rfl dX11_refrain_214 ?_
    refine lv_goto (tgt := 219) hx hb dX11_refrain_215 (by decide) ?_
    exact w_X11_refrain_219 hC hD e_m_hasFerry e_m_r e_m_st hk145 ih v4 v5 v6 v8 v7 (m_covers (Int32.toNatClampNeg v8)) m_thrown m_trouble m_covers hf _ _ _ hP hS (lv_sub hl [0, 1, 2, 3, 5] rfl)
set_option maxHeartbeats 4000000 in
set_option maxRecDepth 100000 in
theorem w_X11_refrain_179 {l : Launch} {p : Program} {e : Env} {s : State} {m : MethodId} {args : Array Value} {below : List Frame} {meth : Method} {c : Code} {A0 : Nat → Prop} {E : rf_E} {a : Nat → Nat} {I : Nat → Int32} {A : Nat → Nat → Int32} {m_hasFerry : Int32} {m_r : Nat → Int32} {m_st : Nat → Int32} {z : Int32 × Int32 × Int32 × (Nat → Int32)} (hC : rf_C p E s m args meth c cX11_refrain 9 RX11 (some .int) A0) (hD : va_D A0 (cM E a I A)) (e_m_hasFerry : I 12 = m_hasFerry) (e_m_r : A 2 = m_r) (e_m_st : A 4 = m_st) {k145 : Int32 → Int32 → Int32 → Int32 → Int32 → (Nat → Int32) → Option (Int32 × Int32 × Int32 × (Nat → Int32))} (hk145 : ∀ (v4 : Int32) (v5 : Int32) (v6 : Int32) (m_thrown : Int32) (m_trouble : Int32) (m_covers : Nat → Int32), k145 v4 v5 v6 m_thrown m_trouble m_covers = some z → ∀ (H : Heap) (locs : List Loc) (ls : Array Slot), va_P (rf_D E) vwCl (cM E a (rf_upL I [(0, m_thrown), (10, m_trouble)]) (rf_upL A [(12, m_covers)])) H → va_S A0 s.heap H locs → lv_has ls 9 [(0, .ref (a 0)), (4, .int v4), (5, .int v5), (6, .int v6)] → W p l e ({ frames := 4, cells := 0, slots := 0, locals := 86 }) s m args below meth c H locs 0 0 (rf_QI below args s E A0 z.1 (cM E a (rf_upL I [(0, z.2.1), (10, z.2.2.1)]) (rf_upL A [(12, z.2.2.2)]))) (F0 m 145 ls [])) :
    ∀ (v4 : Int32) (v5 : Int32) (v6 : Int32) (m_thrown : Int32) (m_trouble : Int32) (m_covers : Nat → Int32), f_X11_refrain_179 k145 m_hasFerry m_r m_st v4 v5 v6 m_thrown m_trouble m_covers = some z → ∀ (H : Heap) (locs : List Loc) (ls : Array Slot), va_P (rf_D E) vwCl (cM E a (rf_upL I [(0, m_thrown), (10, m_trouble)]) (rf_upL A [(12, m_covers)])) H → va_S A0 s.heap H locs → lv_has ls 9 [(0, .ref (a 0)), (4, .int v4), (5, .int v5), (6, .int v6)] → W p l e ({ frames := 4, cells := 0, slots := 0, locals := 86 }) s m args below meth c H locs 0 0 (rf_QI below args s E A0 z.1 (cM E a (rf_upL I [(0, z.2.1), (10, z.2.2.1)]) (rf_upL A [(12, z.2.2.2)]))) (F0 m 179 ls []) := by
  have hx := hC.1
  have hb := hC.2.1
  intro v4 v5 v6 m_thrown m_trouble m_covers hf H locs ls hP hS hl
  unfold f_X11_refrain_179 at hf
  refine lv_iconst (v := 0) hx hb dX11_refrain_179 (by decide) ?_
  refine lv_istore (lv' := [(7, .int 0), (0, .ref (a 0)), (4, .int v4), (5, .int v5), (6, .int v6)]) hx hb dX11_refrain_180 hl (by decide) rfl (fun ls hl => ?_)
  refine lv_iconst (v := 0) hx hb dX11_refrain_182 (by decide) ?_
  refine lv_istore (lv' := [(8, .int 0), (7, .int 0), (0, .ref (a 0)), (4, .int v4), (5, .int v5), (6, .int v6)]) hx hb dX11_refrain_183 hl (by decide) rfl (fun ls hl => ?_)
  exact w_X11_refrain_185 hC hD e_m_hasFerry e_m_r e_m_st hk145 rf_fu v4 v5 v6 0 0 m_thrown m_trouble m_covers hf _ _ _ hP hS (lv_sub hl [2, 3, 4, 5, 1, 0] rfl)
set_option maxHeartbeats 4000000 in
set_option maxRecDepth 100000 in
theorem w_X11_refrain_145 {l : Launch} {p : Program} {e : Env} {s : State} {m : MethodId} {args : Array Value} {below : List Frame} {meth : Method} {c : Code} {A0 : Nat → Prop} {E : rf_E} {a : Nat → Nat} {I : Nat → Int32} {A : Nat → Nat → Int32} {m_hasFerry : Int32} {m_r : Nat → Int32} {m_st : Nat → Int32} {z : Int32 × Int32 × Int32 × (Nat → Int32)} (hC : rf_C p E s m args meth c cX11_refrain 9 RX11 (some .int) A0) (hD : va_D A0 (cM E a I A)) (e_m_hasFerry : I 12 = m_hasFerry) (e_m_r : A 2 = m_r) (e_m_st : A 4 = m_st) :
    ∀ (n : Nat), ∀ (v4 : Int32) (v5 : Int32) (v6 : Int32) (m_thrown : Int32) (m_trouble : Int32) (m_covers : Nat → Int32), f_X11_refrain_145 m_hasFerry m_r m_st n v4 v5 v6 m_thrown m_trouble m_covers = some z → ∀ (H : Heap) (locs : List Loc) (ls : Array Slot), va_P (rf_D E) vwCl (cM E a (rf_upL I [(0, m_thrown), (10, m_trouble)]) (rf_upL A [(12, m_covers)])) H → va_S A0 s.heap H locs → lv_has ls 9 [(0, .ref (a 0)), (4, .int v4), (5, .int v5), (6, .int v6)] → W p l e ({ frames := 4, cells := 0, slots := 0, locals := 86 }) s m args below meth c H locs 0 0 (rf_QI below args s E A0 z.1 (cM E a (rf_upL I [(0, z.2.1), (10, z.2.2.1)]) (rf_upL A [(12, z.2.2.2)]))) (F0 m 145 ls []) := by
  have hx := hC.1
  have hb := hC.2.1
  intro n
  induction n with
  | zero =>
    intro v4 v5 v6 m_thrown m_trouble m_covers hf
    have hf : (none : Option (Int32 × Int32 × Int32 × (Nat → Int32))) = some z := hf
    cases hf
  | succ n ih =>
    intro v4 v5 v6 m_thrown m_trouble m_covers hf H locs ls hP hS hl
    rw [f_X11_refrain_145] at hf
    refine lv_iload hx hb dX11_refrain_145 (lv_at hl 3 rfl) ?_
    refine lv_iconst (v := 1) hx hb dX11_refrain_147 (by decide) ?_
    refine lv_aload_n hx hb dX11_refrain_148 rfl (lv_at hl 0 rfl) ?_
    refine gM_m_r hC hP tw_1294 dX11_refrain_149 ?_
    refine lv_iconst (v := 2) hx hb dX11_refrain_152 (by decide) ?_
    refine lM_m_r hC hP (by decide) (f := m_r) e_m_r dX11_refrain_153 ?_
    refine lv_ishl hx hb dX11_refrain_154 ?_
    refine lv_icmp_ge (tgt := 245) hx hb dX11_refrain_155 (by decide) (fun c_155 => ?_) (fun c_155 => ?_)
    · have hf := rf_it c_155 hf
      refine lv_iload hx hb dX11_refrain_245 (lv_at hl 2 rfl) ?_
      obtain rfl := Option.some.inj hf
      exact rf_reti hC hP hS rfl rfl dX11_refrain_247
    have hf := rf_ie c_155 hf
    refine lv_iload hx hb dX11_refrain_158 (lv_at hl 2 rfl) ?_
    refine lv_if_lt (tgt := 179) hx hb dX11_refrain_160 (by decide) (fun c_160 => ?_) (fun c_160 => ?_)
    · have hf := rf_it c_160 hf
      exact w_X11_refrain_179 hC hD e_m_hasFerry e_m_r e_m_st ih v4 v5 v6 m_thrown m_trouble m_covers hf _ _ _ hP hS (lv_sub hl [0, 1, 2, 3] rfl)
    have hf := rf_ie c_160 hf
    refine lv_iload hx hb dX11_refrain_163 (lv_at hl 3 rfl) ?_
    obtain ⟨z165, hz165, hf⟩ := rf_bd hf
    refine rf_si0 hC (c_X11_ones l E v6 hz165) kS_X11_ones tw_1660 ⟨Nat.le_of_ble_eq_true rfl, Nat.le_of_ble_eq_true rfl⟩ rfl rfl hP hS rfl hl.1 (rest := []) rfl (Nat.le_of_ble_eq_true rfl) dX11_refrain_165 (fun H locs hP hS => ?_)
    refine lv_iload hx hb dX11_refrain_168 (lv_at hl 2 rfl) ?_
    obtain ⟨z170, hz170, hf⟩ := rf_bd hf
    refine rf_si0 hC (c_X11_ones l E v5 hz170) kS_X11_ones tw_1660 ⟨Nat.le_of_ble_eq_true rfl, Nat.le_of_ble_eq_true rfl⟩ rfl rfl hP hS rfl hl.1 (rest := [.int z165]) rfl (Nat.le_of_ble_eq_true rfl) dX11_refrain_170 (fun H locs hP hS => ?_)
    refine lv_icmp_lt (tgt := 179) hx hb dX11_refrain_173 (by decide) (fun c_173 => ?_) (fun c_173 => ?_)
    · have hf := rf_it c_173 hf
      exact w_X11_refrain_179 hC hD e_m_hasFerry e_m_r e_m_st ih v4 v5 v6 m_thrown m_trouble m_covers hf _ _ _ hP hS (lv_sub hl [0, 1, 2, 3] rfl)
    have hf := rf_ie c_173 hf
    refine lv_goto (tgt := 239) hx hb dX11_refrain_176 (by decide) ?_
    exact w_X11_refrain_239 hC hD e_m_hasFerry e_m_r e_m_st ih v4 v5 v6 m_thrown m_trouble m_covers hf _ _ _ hP hS (lv_sub hl [0, 1, 2, 3] rfl)
set_option maxHeartbeats 4000000 in
set_option maxRecDepth 100000 in
theorem w_X11_refrain_124 {l : Launch} {p : Program} {e : Env} {s : State} {m : MethodId} {args : Array Value} {below : List Frame} {meth : Method} {c : Code} {A0 : Nat → Prop} {E : rf_E} {a : Nat → Nat} {I : Nat → Int32} {A : Nat → Nat → Int32} {m_hasFerry : Int32} {m_r : Nat → Int32} {m_st : Nat → Int32} {z : Int32 × Int32 × Int32 × (Nat → Int32)} (hC : rf_C p E s m args meth c cX11_refrain 9 RX11 (some .int) A0) (hD : va_D A0 (cM E a I A)) (e_m_hasFerry : I 12 = m_hasFerry) (e_m_r : A 2 = m_r) (e_m_st : A 4 = m_st) {k31 : Int32 → Int32 → Int32 → Int32 → Int32 → (Nat → Int32) → Option (Int32 × Int32 × Int32 × (Nat → Int32))} (hk31 : ∀ (v2 : Int32) (v4 : Int32) (v5 : Int32) (m_thrown : Int32) (m_trouble : Int32) (m_covers : Nat → Int32), k31 v2 v4 v5 m_thrown m_trouble m_covers = some z → ∀ (H : Heap) (locs : List Loc) (ls : Array Slot), va_P (rf_D E) vwCl (cM E a (rf_upL I [(0, m_thrown), (10, m_trouble)]) (rf_upL A [(12, m_covers)])) H → va_S A0 s.heap H locs → lv_has ls 9 [(0, .ref (a 0)), (2, .int v2), (4, .int v4), (5, .int v5)] → W p l e ({ frames := 4, cells := 0, slots := 0, locals := 86 }) s m args below meth c H locs 0 0 (rf_QI below args s E A0 z.1 (cM E a (rf_upL I [(0, z.2.1), (10, z.2.2.1)]) (rf_upL A [(12, z.2.2.2)]))) (F0 m 31 ls [])) {k53 : Int32 → Int32 → Int32 → Int32 → Int32 → Int32 → (Nat → Int32) → Option (Int32 × Int32 × Int32 × (Nat → Int32))} (hk53 : ∀ (v2 : Int32) (v4 : Int32) (v5 : Int32) (v6 : Int32) (m_thrown : Int32) (m_trouble : Int32) (m_covers : Nat → Int32), k53 v2 v4 v5 v6 m_thrown m_trouble m_covers = some z → ∀ (H : Heap) (locs : List Loc) (ls : Array Slot), va_P (rf_D E) vwCl (cM E a (rf_upL I [(0, m_thrown), (10, m_trouble)]) (rf_upL A [(12, m_covers)])) H → va_S A0 s.heap H locs → lv_has ls 9 [(0, .ref (a 0)), (2, .int v2), (4, .int v4), (5, .int v5), (6, .int v6)] → W p l e ({ frames := 4, cells := 0, slots := 0, locals := 86 }) s m args below meth c H locs 0 0 (rf_QI below args s E A0 z.1 (cM E a (rf_upL I [(0, z.2.1), (10, z.2.2.1)]) (rf_upL A [(12, z.2.2.2)]))) (F0 m 53 ls [])) :
    ∀ (v2 : Int32) (v4 : Int32) (v5 : Int32) (v6 : Int32) (s1 : Int32) (s2 : Int32) (s3 : Int32) (m_thrown : Int32) (m_trouble : Int32) (m_covers : Nat → Int32), f_X11_refrain_124 k31 k53 m_hasFerry m_r m_st v2 v4 v5 v6 s1 s2 s3 m_thrown m_trouble m_covers = some z → ∀ (H : Heap) (locs : List Loc) (ls : Array Slot), va_P (rf_D E) vwCl (cM E a (rf_upL I [(0, m_thrown), (10, m_trouble)]) (rf_upL A [(12, m_covers)])) H → va_S A0 s.heap H locs → lv_has ls 9 [(0, .ref (a 0)), (2, .int v2), (4, .int v4), (5, .int v5), (6, .int v6)] → W p l e ({ frames := 4, cells := 0, slots := 0, locals := 86 }) s m args below meth c H locs 0 0 (rf_QI below args s E A0 z.1 (cM E a (rf_upL I [(0, z.2.1), (10, z.2.2.1)]) (rf_upL A [(12, z.2.2.2)]))) (F0 m 124 ls [.int s3, .int s2, .int s1, .ref (a 13)]) := by
  have hx := hC.1
  have hb := hC.2.1
  intro v2 v4 v5 v6 s1 s2 s3 m_thrown m_trouble m_covers hf H locs ls hP hS hl
  unfold f_X11_refrain_124 at hf
  refine lv_ior hx hb dX11_refrain_124 ?_
  obtain ⟨hi_125, hf⟩ := rf_gu hf
  refine sM_m_covers hC hD hP hS hi_125 (f := m_covers) rfl dX11_refrain_125 (rf_upL A [(12, upd m_covers (Int32.toNatClampNeg s1) (s2 ||| s3))]) (rf_put rfl) (fun H locs hP hS => ?_)
  refine lv_iinc (v := v6 + 1) (lv' := [(6, .int (v6 + 1)), (0, .ref (a 0)), (2, .int v2), (4, .int v4), (5, .int v5)]) hx hb dX11_refrain_126 hl (k := 4) rfl rfl (by decide) rfl (fun ls hl => ?_)
  refine lv_goto (tgt := 53) hx hb dX11_refrain_129 (by decide) ?_
  exact hk53 v2 v4 v5 (v6 + 1) m_thrown m_trouble (upd m_covers (Int32.toNatClampNeg s1) (s2 ||| s3)) hf _ _ _ hP hS (lv_sub hl [1, 2, 3, 4, 0] rfl)
set_option maxHeartbeats 4000000 in
set_option maxRecDepth 100000 in
theorem w_X11_refrain_123 {l : Launch} {p : Program} {e : Env} {s : State} {m : MethodId} {args : Array Value} {below : List Frame} {meth : Method} {c : Code} {A0 : Nat → Prop} {E : rf_E} {a : Nat → Nat} {I : Nat → Int32} {A : Nat → Nat → Int32} {m_hasFerry : Int32} {m_r : Nat → Int32} {m_st : Nat → Int32} {z : Int32 × Int32 × Int32 × (Nat → Int32)} (hC : rf_C p E s m args meth c cX11_refrain 9 RX11 (some .int) A0) (hD : va_D A0 (cM E a I A)) (e_m_hasFerry : I 12 = m_hasFerry) (e_m_r : A 2 = m_r) (e_m_st : A 4 = m_st) {k31 : Int32 → Int32 → Int32 → Int32 → Int32 → (Nat → Int32) → Option (Int32 × Int32 × Int32 × (Nat → Int32))} (hk31 : ∀ (v2 : Int32) (v4 : Int32) (v5 : Int32) (m_thrown : Int32) (m_trouble : Int32) (m_covers : Nat → Int32), k31 v2 v4 v5 m_thrown m_trouble m_covers = some z → ∀ (H : Heap) (locs : List Loc) (ls : Array Slot), va_P (rf_D E) vwCl (cM E a (rf_upL I [(0, m_thrown), (10, m_trouble)]) (rf_upL A [(12, m_covers)])) H → va_S A0 s.heap H locs → lv_has ls 9 [(0, .ref (a 0)), (2, .int v2), (4, .int v4), (5, .int v5)] → W p l e ({ frames := 4, cells := 0, slots := 0, locals := 86 }) s m args below meth c H locs 0 0 (rf_QI below args s E A0 z.1 (cM E a (rf_upL I [(0, z.2.1), (10, z.2.2.1)]) (rf_upL A [(12, z.2.2.2)]))) (F0 m 31 ls [])) {k53 : Int32 → Int32 → Int32 → Int32 → Int32 → Int32 → (Nat → Int32) → Option (Int32 × Int32 × Int32 × (Nat → Int32))} (hk53 : ∀ (v2 : Int32) (v4 : Int32) (v5 : Int32) (v6 : Int32) (m_thrown : Int32) (m_trouble : Int32) (m_covers : Nat → Int32), k53 v2 v4 v5 v6 m_thrown m_trouble m_covers = some z → ∀ (H : Heap) (locs : List Loc) (ls : Array Slot), va_P (rf_D E) vwCl (cM E a (rf_upL I [(0, m_thrown), (10, m_trouble)]) (rf_upL A [(12, m_covers)])) H → va_S A0 s.heap H locs → lv_has ls 9 [(0, .ref (a 0)), (2, .int v2), (4, .int v4), (5, .int v5), (6, .int v6)] → W p l e ({ frames := 4, cells := 0, slots := 0, locals := 86 }) s m args below meth c H locs 0 0 (rf_QI below args s E A0 z.1 (cM E a (rf_upL I [(0, z.2.1), (10, z.2.2.1)]) (rf_upL A [(12, z.2.2.2)]))) (F0 m 53 ls [])) :
    ∀ (v2 : Int32) (v4 : Int32) (v5 : Int32) (v6 : Int32) (s1 : Int32) (s2 : Int32) (m_thrown : Int32) (m_trouble : Int32) (m_covers : Nat → Int32), f_X11_refrain_123 k31 k53 m_hasFerry m_r m_st v2 v4 v5 v6 s1 s2 m_thrown m_trouble m_covers = some z → ∀ (H : Heap) (locs : List Loc) (ls : Array Slot), va_P (rf_D E) vwCl (cM E a (rf_upL I [(0, m_thrown), (10, m_trouble)]) (rf_upL A [(12, m_covers)])) H → va_S A0 s.heap H locs → lv_has ls 9 [(0, .ref (a 0)), (2, .int v2), (4, .int v4), (5, .int v5), (6, .int v6)] → W p l e ({ frames := 4, cells := 0, slots := 0, locals := 86 }) s m args below meth c H locs 0 0 (rf_QI below args s E A0 z.1 (cM E a (rf_upL I [(0, z.2.1), (10, z.2.2.1)]) (rf_upL A [(12, z.2.2.2)]))) (F0 m 123 ls [.int s2, .int s1, .ref (a 13)]) := by
  have hx := hC.1
  have hb := hC.2.1
  intro v2 v4 v5 v6 s1 s2 m_thrown m_trouble m_covers hf H locs ls hP hS hl
  unfold f_X11_refrain_123 at hf
  refine lv_iconst (v := 0) hx hb dX11_refrain_123 (by decide) ?_
  exact w_X11_refrain_124 hC hD e_m_hasFerry e_m_r e_m_st hk31 hk53 v2 v4 v5 v6 s1 s2 0 m_thrown m_trouble m_covers hf _ _ _ hP hS (lv_sub hl [0, 1, 2, 3, 4] rfl)
set_option maxHeartbeats 4000000 in
set_option maxRecDepth 100000 in
theorem w_X11_refrain_53 {l : Launch} {p : Program} {e : Env} {s : State} {m : MethodId} {args : Array Value} {below : List Frame} {meth : Method} {c : Code} {A0 : Nat → Prop} {E : rf_E} {a : Nat → Nat} {I : Nat → Int32} {A : Nat → Nat → Int32} {m_hasFerry : Int32} {m_r : Nat → Int32} {m_st : Nat → Int32} {z : Int32 × Int32 × Int32 × (Nat → Int32)} (hC : rf_C p E s m args meth c cX11_refrain 9 RX11 (some .int) A0) (hD : va_D A0 (cM E a I A)) (e_m_hasFerry : I 12 = m_hasFerry) (e_m_r : A 2 = m_r) (e_m_st : A 4 = m_st) {k31 : Int32 → Int32 → Int32 → Int32 → Int32 → (Nat → Int32) → Option (Int32 × Int32 × Int32 × (Nat → Int32))} (hk31 : ∀ (v2 : Int32) (v4 : Int32) (v5 : Int32) (m_thrown : Int32) (m_trouble : Int32) (m_covers : Nat → Int32), k31 v2 v4 v5 m_thrown m_trouble m_covers = some z → ∀ (H : Heap) (locs : List Loc) (ls : Array Slot), va_P (rf_D E) vwCl (cM E a (rf_upL I [(0, m_thrown), (10, m_trouble)]) (rf_upL A [(12, m_covers)])) H → va_S A0 s.heap H locs → lv_has ls 9 [(0, .ref (a 0)), (2, .int v2), (4, .int v4), (5, .int v5)] → W p l e ({ frames := 4, cells := 0, slots := 0, locals := 86 }) s m args below meth c H locs 0 0 (rf_QI below args s E A0 z.1 (cM E a (rf_upL I [(0, z.2.1), (10, z.2.2.1)]) (rf_upL A [(12, z.2.2.2)]))) (F0 m 31 ls [])) :
    ∀ (n : Nat), ∀ (v2 : Int32) (v4 : Int32) (v5 : Int32) (v6 : Int32) (m_thrown : Int32) (m_trouble : Int32) (m_covers : Nat → Int32), f_X11_refrain_53 k31 m_hasFerry m_r m_st n v2 v4 v5 v6 m_thrown m_trouble m_covers = some z → ∀ (H : Heap) (locs : List Loc) (ls : Array Slot), va_P (rf_D E) vwCl (cM E a (rf_upL I [(0, m_thrown), (10, m_trouble)]) (rf_upL A [(12, m_covers)])) H → va_S A0 s.heap H locs → lv_has ls 9 [(0, .ref (a 0)), (2, .int v2), (4, .int v4), (5, .int v5), (6, .int v6)] → W p l e ({ frames := 4, cells := 0, slots := 0, locals := 86 }) s m args below meth c H locs 0 0 (rf_QI below args s E A0 z.1 (cM E a (rf_upL I [(0, z.2.1), (10, z.2.2.1)]) (rf_upL A [(12, z.2.2.2)]))) (F0 m 53 ls []) := by
  have hx := hC.1
  have hb := hC.2.1
  intro n
  induction n with
  | zero =>
    intro v2 v4 v5 v6 m_thrown m_trouble m_covers hf
    have hf : (none : Option (Int32 × Int32 × Int32 × (Nat → Int32))) = some z := hf
    cases hf
  | succ n ih =>
    intro v2 v4 v5 v6 m_thrown m_trouble m_covers hf H locs ls hP hS hl
    rw [f_X11_refrain_53] at hf
    refine lv_iload hx hb dX11_refrain_53 (lv_at hl 4 rfl) ?_
    refine lv_aload_n hx hb dX11_refrain_55 rfl (lv_at hl 0 rfl) ?_
    refine gM_m_r hC hP tw_1294 dX11_refrain_56 ?_
    refine lv_iconst (v := 3) hx hb dX11_refrain_59 (by decide) ?_
    refine lM_m_r hC hP (by decide) (f := m_r) e_m_r dX11_refrain_60 ?_
    refine lv_icmp_ge (tgt := 132) hx hb dX11_refrain_61 (by decide) (fun c_61 => ?_) (fun c_61 => ?_)
    · have hf := rf_it c_61 hf
      refine lv_iinc (v := v5 + 1) (lv' := [(5, .int (v5 + 1)), (0, .ref (a 0)), (2, .int v2), (4, .int v4), (6, .int v6)]) hx hb dX11_refrain_132 hl (k := 3) rfl rfl (by decide) rfl (fun ls hl => ?_)
      refine lv_goto (tgt := 31) hx hb dX11_refrain_135 (by decide) ?_
      exact hk31 v2 v4 (v5 + 1) m_thrown m_trouble m_covers hf _ _ _ hP hS (lv_sub hl [1, 2, 3, 0] rfl)
    have hf := rf_ie c_61 hf
    refine lv_aload_n hx hb dX11_refrain_64 rfl (lv_at hl 0 rfl) ?_
    refine gM_m_covers hC hP tw_1309 dX11_refrain_65 ?_
    refine lv_iload hx hb dX11_refrain_68 (lv_at hl 3 rfl) ?_
    refine lv_dup2_11 hx hb dX11_refrain_70 rfl rfl ?_
    obtain ⟨hi_71, hf⟩ := rf_gu hf
    refine lM_m_covers hC hP hi_71 (f := m_covers) rfl dX11_refrain_71 ?_
    refine lv_iload hx hb dX11_refrain_72 (lv_at hl 2 rfl) ?_
    refine lv_iload hx hb dX11_refrain_74 (lv_at hl 4 rfl) ?_
    obtain ⟨z76, hz76, hf⟩ := rf_bd hf
    refine rf_si0 hC (c_X11_hasBit l E v4 v6 hz76) kS_X11_hasBit tw_1539 ⟨Nat.le_of_ble_eq_true rfl, Nat.le_of_ble_eq_true rfl⟩ rfl rfl hP hS rfl hl.1 (rest := [.int (m_covers (Int32.toNatClampNeg v5)), .int v5, .ref (a 13)]) rfl (Nat.le_of_ble_eq_true rfl) dX11_refrain_76 (fun H locs hP hS => ?_)
    refine lv_if_eq (tgt := 123) hx hb dX11_refrain_79 (by decide) (fun c_79 => ?_) (fun c_79 => ?_)
    · have hf := rf_it c_79 hf
      exact w_X11_refrain_123 hC hD e_m_hasFerry e_m_r e_m_st hk31 ih v2 v4 v5 v6 v5 (m_covers (Int32.toNatClampNeg v5)) m_thrown m_trouble m_covers hf _ _ _ hP hS (lv_sub hl [0, 1, 2, 3, 4] rfl)
    have hf := rf_ie c_79 hf
    refine lv_aload_n hx hb dX11_refrain_82 rfl (lv_at hl 0 rfl) ?_
    refine lv_iconst (v := 0) hx hb dX11_refrain_83 (by decide) ?_
    refine lv_iconst (v := 1) hx hb dX11_refrain_84 (by decide) ?_
    refine lv_iload hx hb dX11_refrain_85 (lv_at hl 3 rfl) ?_
    refine lv_ishl hx hb dX11_refrain_87 ?_
    refine lv_aload_n hx hb dX11_refrain_88 rfl (lv_at hl 0 rfl) ?_
    refine lv_iload hx hb dX11_refrain_89 (lv_at hl 4 rfl) ?_
    obtain ⟨z91, hz91, hf⟩ := rf_bd hf
    refine rf_vi (q0 := 0) (ci := 11) hC (c_X11_kindOf l E a (rf_upL I [(0, m_thrown), (10, m_trouble)]) (rf_upL A [(12, m_covers)]) m_r v6 e_m_r hz91) kV_X11_kindOf tw_1609 ⟨Nat.le_of_ble_eq_true rfl, Nat.le_of_ble_eq_true rfl⟩ rfl rfl rfl rfl rfl hP (rf_DM hD) hS rfl hl.1 (rest := [.int ((1 : Int32) <<< (v5 &&& 31)), .int 0, .ref (a 0), .int (m_covers (Int32.toNatClampNeg v5)), .int v5, .ref (a 13)]) rfl (Nat.le_of_ble_eq_true rfl) dX11_refrain_91 (fun H locs hP hS => ?_)
    refine lv_aload_n hx hb dX11_refrain_94 rfl (lv_at hl 0 rfl) ?_
    refine gM_m_st hC hP tw_1296 dX11_refrain_95 ?_
    refine lv_bipush (v := 8) hx hb dX11_refrain_98 (by decide) ?_
    refine lv_iload hx hb dX11_refrain_100 (lv_at hl 4 rfl) ?_
    refine lv_iadd hx hb dX11_refrain_102 ?_
    obtain ⟨hi_103, hf⟩ := rf_gu hf
    refine lM_m_st hC hP hi_103 (f := m_st) e_m_st dX11_refrain_103 ?_
    refine lv_aload_n hx hb dX11_refrain_104 rfl (lv_at hl 0 rfl) ?_
    refine lv_iload_n hx hb dX11_refrain_105 rfl (lv_at hl 1 rfl) ?_
    obtain ⟨z106, hz106, hf⟩ := rf_bd hf
    refine rf_vi (q0 := 0) (ci := 11) hC (c_X11_earAt l E a (rf_upL I [(0, m_thrown), (10, m_trouble)]) (rf_upL A [(12, m_covers)]) m_r v2 e_m_r hz106) kV_X11_earAt tw_1624 ⟨Nat.le_of_ble_eq_true rfl, Nat.le_of_ble_eq_true rfl⟩ rfl rfl rfl rfl rfl hP (rf_DM hD) hS rfl hl.1 (rest := [.int (m_st (Int32.toNatClampNeg ((8 : Int32) + v6))), .int z91, .int ((1 : Int32) <<< (v5 &&& 31)), .int 0, .ref (a 0), .int (m_covers (Int32.toNatClampNeg v5)), .int v5, .ref (a 13)]) rfl (Nat.le_of_ble_eq_true rfl) dX11_refrain_106 (fun H locs hP hS => ?_)
    obtain ⟨z109, hz109, hf⟩ := rf_bd hf
    refine rf_vi (q0 := 0) (ci := 11) hC (c_X11_rhymeOf l E a (rf_upL I [(0, m_thrown), (10, m_trouble)]) (rf_upL A [(12, m_covers)]) m_r 0 ((1 : Int32) <<< (v5 &&& 31)) z91 (m_st (Int32.toNatClampNeg ((8 : Int32) + v6))) z106 e_m_r hz109) kV_X11_rhymeOf tw_1640 ⟨Nat.le_of_ble_eq_true rfl, Nat.le_of_ble_eq_true rfl⟩ rfl rfl rfl rfl rfl hP (rf_DM hD) hS rfl hl.1 (rest := [.int (m_covers (Int32.toNatClampNeg v5)), .int v5, .ref (a 13)]) rfl (Nat.le_of_ble_eq_true rfl) dX11_refrain_109 (fun H locs hP hS => ?_)
    refine lv_iconst (v := 2) hx hb dX11_refrain_112 (by decide) ?_
    refine lv_icmp_ne (tgt := 123) hx hb dX11_refrain_113 (by decide) (fun c_113 => ?_) (fun c_113 => ?_)
    · have hf := rf_ie c_113 hf
      exact w_X11_refrain_123 hC hD e_m_hasFerry e_m_r e_m_st hk31 ih v2 v4 v5 v6 v5 (m_covers (Int32.toNatClampNeg v5)) m_thrown m_trouble m_covers hf _ _ _ hP hS (lv_sub hl [0, 1, 2, 3, 4] rfl)
    have hf := rf_it c_113 hf
    refine lv_iconst (v := 1) hx hb dX11_refrain_116 (by decide) ?_
    refine lv_iload hx hb dX11_refrain_117 (lv_at hl 4 rfl) ?_
    refine lv_ishl hx hb dX11_refrain_119 ?_
    refine lv_goto (tgt := 124) hx hb dX11_refrain_120 (by decide) ?_
    exact w_X11_refrain_124 hC hD e_m_hasFerry e_m_r e_m_st hk31 ih v2 v4 v5 v6 v5 (m_covers (Int32.toNatClampNeg v5)) ((1 : Int32) <<< (v6 &&& 31)) m_thrown m_trouble m_covers hf _ _ _ hP hS (lv_sub hl [0, 1, 2, 3, 4] rfl)
set_option maxHeartbeats 4000000 in
set_option maxRecDepth 100000 in
theorem w_X11_refrain_31 {l : Launch} {p : Program} {e : Env} {s : State} {m : MethodId} {args : Array Value} {below : List Frame} {meth : Method} {c : Code} {A0 : Nat → Prop} {E : rf_E} {a : Nat → Nat} {I : Nat → Int32} {A : Nat → Nat → Int32} {m_hasFerry : Int32} {m_r : Nat → Int32} {m_st : Nat → Int32} {z : Int32 × Int32 × Int32 × (Nat → Int32)} (hC : rf_C p E s m args meth c cX11_refrain 9 RX11 (some .int) A0) (hD : va_D A0 (cM E a I A)) (e_m_hasFerry : I 12 = m_hasFerry) (e_m_r : A 2 = m_r) (e_m_st : A 4 = m_st) :
    ∀ (n : Nat), ∀ (v2 : Int32) (v4 : Int32) (v5 : Int32) (m_thrown : Int32) (m_trouble : Int32) (m_covers : Nat → Int32), f_X11_refrain_31 m_hasFerry m_r m_st n v2 v4 v5 m_thrown m_trouble m_covers = some z → ∀ (H : Heap) (locs : List Loc) (ls : Array Slot), va_P (rf_D E) vwCl (cM E a (rf_upL I [(0, m_thrown), (10, m_trouble)]) (rf_upL A [(12, m_covers)])) H → va_S A0 s.heap H locs → lv_has ls 9 [(0, .ref (a 0)), (2, .int v2), (4, .int v4), (5, .int v5)] → W p l e ({ frames := 4, cells := 0, slots := 0, locals := 86 }) s m args below meth c H locs 0 0 (rf_QI below args s E A0 z.1 (cM E a (rf_upL I [(0, z.2.1), (10, z.2.2.1)]) (rf_upL A [(12, z.2.2.2)]))) (F0 m 31 ls []) := by
  have hx := hC.1
  have hb := hC.2.1
  intro n
  induction n with
  | zero =>
    intro v2 v4 v5 m_thrown m_trouble m_covers hf
    have hf : (none : Option (Int32 × Int32 × Int32 × (Nat → Int32))) = some z := hf
    cases hf
  | succ n ih =>
    intro v2 v4 v5 m_thrown m_trouble m_covers hf H locs ls hP hS hl
    rw [f_X11_refrain_31] at hf
    refine lv_iload hx hb dX11_refrain_31 (lv_at hl 3 rfl) ?_
    refine lv_aload_n hx hb dX11_refrain_33 rfl (lv_at hl 0 rfl) ?_
    refine gM_m_r hC hP tw_1294 dX11_refrain_34 ?_
    refine lv_iconst (v := 2) hx hb dX11_refrain_37 (by decide) ?_
    refine lM_m_r hC hP (by decide) (f := m_r) e_m_r dX11_refrain_38 ?_
    refine lv_icmp_ge (tgt := 138) hx hb dX11_refrain_39 (by decide) (fun c_39 => ?_) (fun c_39 => ?_)
    · have hf := rf_it c_39 hf
      refine lv_bipush (v := (-2)) hx hb dX11_refrain_138 (by decide) ?_
      refine lv_istore (lv' := [(5, .int (-2)), (0, .ref (a 0)), (2, .int v2), (4, .int v4)]) hx hb dX11_refrain_140 hl (by decide) rfl (fun ls hl => ?_)
      refine lv_iconst (v := 0) hx hb dX11_refrain_142 (by decide) ?_
      refine lv_istore (lv' := [(6, .int 0), (5, .int (-2)), (0, .ref (a 0)), (2, .int v2), (4, .int v4)]) hx hb dX11_refrain_143 hl (by decide) rfl (fun ls hl => ?_)
      exact w_X11_refrain_145 hC hD e_m_hasFerry e_m_r e_m_st rf_fu v4 (-2) 0 m_thrown m_trouble m_covers hf _ _ _ hP hS (lv_sub hl [2, 4, 1, 0] rfl)
    have hf := rf_ie c_39 hf
    refine lv_aload_n hx hb dX11_refrain_42 rfl (lv_at hl 0 rfl) ?_
    refine gM_m_covers hC hP tw_1309 dX11_refrain_43 ?_
    refine lv_iload hx hb dX11_refrain_46 (lv_at hl 3 rfl) ?_
    refine lv_iconst (v := 0) hx hb dX11_refrain_48 (by decide) ?_
    obtain ⟨hi_49, hf⟩ := rf_gu hf
    refine sM_m_covers hC hD hP hS hi_49 (f := m_covers) rfl dX11_refrain_49 (rf_upL A [(12, upd m_covers (Int32.toNatClampNeg v5) 0)]) (rf_put rfl) (fun H locs hP hS => ?_)
    refine lv_iconst (v := 0) hx hb dX11_refrain_50 (by decide) ?_
    refine lv_istore (lv' := [(6, .int 0), (0, .ref (a 0)), (2, .int v2), (4, .int v4), (5, .int v5)]) hx hb dX11_refrain_51 hl (by decide) rfl (fun ls hl => ?_)
    exact w_X11_refrain_53 hC hD e_m_hasFerry e_m_r e_m_st ih rf_fu v2 v4 v5 0 m_thrown m_trouble (upd m_covers (Int32.toNatClampNeg v5) 0) hf _ _ _ hP hS (lv_sub hl [1, 2, 3, 4, 0] rfl)
set_option maxHeartbeats 4000000 in
set_option maxRecDepth 100000 in
theorem c_X11_refrain (l : Launch) (E : rf_E) (a : Nat → Nat) (I : Nat → Int32) (A : Nat → Nat → Int32) (m_hasFerry : Int32) (m_r : Nat → Int32) (m_st : Nat → Int32) (m_thrown : Int32) (m_trouble : Int32) (m_covers : Nat → Int32) (v1 : Int32) (v2 : Int32) {z : Int32 × Int32 × Int32 × (Nat → Int32)} (e_m_hasFerry : I 12 = m_hasFerry) (e_m_r : A 2 = m_r) (e_m_st : A 4 = m_st) (e_m_thrown : I 0 = m_thrown) (e_m_trouble : I 10 = m_trouble) (e_m_covers : A 12 = m_covers) (hf : f_X11_refrain m_hasFerry m_r m_st m_thrown m_trouble m_covers v1 v2 = some z) : rf_MI l yX11_refrain cX11_refrain 9 (some .int) ({ frames := 4, cells := 0, slots := 0, locals := 86 }) E [.ref (a 0), .int v1, .int v2] (cM E a I A) z.1 (cM E a (rf_upL I [(0, z.2.1), (10, z.2.2.1)]) (rf_upL A [(12, z.2.2.2)])) := by
  unfold f_X11_refrain at hf
  refine rf_ofI (by decide) (Nat.le_of_ble_eq_true rfl) ?_
  intro p e s m below meth c A0 ls hC hD hP hS hl
  have hC : rf_C p E s m _ meth c cX11_refrain 9 RX11 (some .int) A0 := hC
  have hx := hC.1
  have hb := hC.2.1
  have hl : lv_has ls 9 [(0, .ref (a 0)), (1, .int v1), (2, .int v2)] := hl
  have hP : va_P (rf_D E) vwCl (cM E a (rf_upL I [(0, m_thrown), (10, m_trouble)]) (rf_upL A [(12, m_covers)])) s.heap := by
    rw [rf_self (f := I) [(0, m_thrown), (10, m_trouble)] (rf_fa1 e_m_thrown (rf_fa1 e_m_trouble rf_fa0))]
    rw [rf_self (f := A) [(12, m_covers)] (rf_fa1 e_m_covers rf_fa0)]
    exact hP
  refine lv_aload_n hx hb dX11_refrain_0 rfl (lv_at hl 0 rfl) ?_
  obtain ⟨z1, hz1, hf⟩ := rf_bd hf
  refine rf_vv (q0 := 0) (ci := 11) hC (c_X11_good l E a (rf_upL I [(0, m_thrown), (10, m_trouble)]) (rf_upL A [(12, m_covers)]) m_thrown m_trouble rfl rfl hz1) kV_X11_good tw_1403 ⟨Nat.le_of_ble_eq_true rfl, Nat.le_of_ble_eq_true rfl⟩ rfl rfl rfl rfl rfl hP (rf_DM hD) hS rfl hl.1 (rest := []) rfl (Nat.le_of_ble_eq_true rfl) dX11_refrain_1 (fun H locs hP hS => ?_)
  rw [rf_cat (f := I) (l := [(0, m_thrown), (10, m_trouble)]) (lc := [(0, z1.1), (10, z1.2)]) (l' := [(0, z1.1), (10, z1.2)]) rfl] at hP
  refine lv_aload_n hx hb dX11_refrain_4 rfl (lv_at hl 0 rfl) ?_
  refine lv_iload_n hx hb dX11_refrain_5 rfl (lv_at hl 1 rfl) ?_
  refine lv_iload_n hx hb dX11_refrain_6 rfl (lv_at hl 2 rfl) ?_
  obtain ⟨z7, hz7, hf⟩ := rf_bd hf
  refine rf_vi (q0 := 0) (ci := 11) hC (c_X11_bankWhy l E a (rf_upL I [(0, z1.1), (10, z1.2)]) (rf_upL A [(12, m_covers)]) m_hasFerry v1 v2 e_m_hasFerry hz7) kV_X11_bankWhy tw_1703 ⟨Nat.le_of_ble_eq_true rfl, Nat.le_of_ble_eq_true rfl⟩ rfl rfl rfl rfl rfl hP (rf_DM hD) hS rfl hl.1 (rest := []) rfl (Nat.le_of_ble_eq_true rfl) dX11_refrain_7 (fun H locs hP hS => ?_)
  refine lv_istore_n (lv' := [(3, .int z7), (0, .ref (a 0)), (1, .int v1), (2, .int v2)]) hx hb dX11_refrain_10 rfl hl (by decide) rfl (fun ls hl => ?_)
  refine lv_iload_n hx hb dX11_refrain_11 rfl (lv_at hl 0 rfl) ?_
  refine lv_if_eq (tgt := 21) hx hb dX11_refrain_12 (by decide) (fun c_12 => ?_) (fun c_12 => ?_)
  · have hf := rf_it c_12 hf
    refine lv_aload_n hx hb dX11_refrain_21 rfl (lv_at hl 1 rfl) ?_
    refine lv_iload_n hx hb dX11_refrain_22 rfl (lv_at hl 2 rfl) ?_
    obtain ⟨z23, hz23, hf⟩ := rf_bd hf
    refine rf_vi (q0 := 0) (ci := 11) hC (c_X11_onBank l E a (rf_upL I [(0, z1.1), (10, z1.2)]) (rf_upL A [(12, m_covers)]) m_r m_st v1 e_m_r e_m_st hz23) kV_X11_onBank tw_1691 ⟨Nat.le_of_ble_eq_true rfl, Nat.le_of_ble_eq_true rfl⟩ rfl rfl rfl rfl rfl hP (rf_DM hD) hS rfl hl.1 (rest := []) rfl (Nat.le_of_ble_eq_true rfl) dX11_refrain_23 (fun H locs hP hS => ?_)
    refine lv_istore (lv' := [(4, .int z23), (3, .int z7), (0, .ref (a 0)), (1, .int v1), (2, .int v2)]) hx hb dX11_refrain_26 hl (by decide) rfl (fun ls hl => ?_)
    refine lv_iconst (v := 0) hx hb dX11_refrain_28 (by decide) ?_
    refine lv_istore (lv' := [(5, .int 0), (4, .int z23), (3, .int z7), (0, .ref (a 0)), (1, .int v1), (2, .int v2)]) hx hb dX11_refrain_29 hl (by decide) rfl (fun ls hl => ?_)
    exact w_X11_refrain_31 hC hD e_m_hasFerry e_m_r e_m_st rf_fu v2 z23 0 z1.1 z1.2 m_covers hf _ _ _ hP hS (lv_sub hl [3, 5, 1, 0] rfl)
  have hf := rf_ie c_12 hf
  refine lv_aload_n hx hb dX11_refrain_15 rfl (lv_at hl 1 rfl) ?_
  refine lv_iload_n hx hb dX11_refrain_16 rfl (lv_at hl 0 rfl) ?_
  obtain ⟨z17, hz17, hf⟩ := rf_bd hf
  refine rf_vi (q0 := 0) (ci := 11) hC (c_X11_no l E a (rf_upL I [(0, z1.1), (10, z1.2)]) (rf_upL A [(12, m_covers)]) z1.2 z7 rfl hz17) kV_X11_no tw_1410 ⟨Nat.le_of_ble_eq_true rfl, Nat.le_of_ble_eq_true rfl⟩ rfl rfl rfl rfl rfl hP (rf_DM hD) hS rfl hl.1 (rest := []) rfl (Nat.le_of_ble_eq_true rfl) dX11_refrain_17 (fun H locs hP hS => ?_)
  rw [rf_cat (f := I) (l := [(0, z1.1), (10, z1.2)]) (lc := [(10, z17.2)]) (l' := [(0, z1.1), (10, z17.2)]) rfl] at hP
  obtain rfl := Option.some.inj hf
  exact rf_reti hC hP hS rfl rfl dX11_refrain_20
