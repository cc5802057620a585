set_option maxHeartbeats 4000000 in
set_option maxRecDepth 100000 in
theorem c_X11_trouble (l : Launch) (E : rf_E) (a : Nat → Nat) (I : Nat → Int32) (A : Nat → Nat → Int32) (m_trouble : Int32) (m_thrown : Int32) {z : Int32 × Int32} (e_m_trouble : I 10 = m_trouble) (e_m_thrown : I 0 = m_thrown) (hf : f_X11_trouble m_trouble m_thrown = some z) : rf_MI l yX11_trouble cX11_trouble 1 (some .int) ({ frames := 0, cells := 0, slots := 0, locals := 0 }) E [.ref (a 0)] (cM E a I A) z.1 (cM E a (rf_upL I [(0, z.2)]) A) := by
  unfold f_X11_trouble at hf
  refine rf_ofI (by decide) (Nat.le_of_ble_eq_true rfl) ?_
  intro p e s m below meth c A0 ls hC hD hP hS hl
  have hC : rf_C p E s m _ meth c cX11_trouble 1 RX11 (some .int) A0 := hC
  have hx := hC.1
  have hb := hC.2.1
  have hl : lv_has ls 1 [(0, .ref (a 0))] := hl
  have hP : va_P (rf_D E) vwCl (cM E a (rf_upL I [(0, m_thrown)]) A) s.heap := by
    rw [rf_self (f := I) [(0, m_thrown)] (rf_fa1 e_m_thrown rf_fa0)]
    exact hP
  refine lv_aload_n hx hb dX11_trouble_0 rfl (lv_at hl 0 rfl) ?_
  refine lv_iconst (v := 0) hx hb dX11_trouble_1 (by decide) ?_
  refine pM_m_thrown hC hD hP hS tw_1279 dX11_trouble_2 (rf_upL I [(0, 0)]) (rf_put rfl) (fun H locs hP hS => ?_)
  refine lv_aload_n hx hb dX11_trouble_5 rfl (lv_at hl 0 rfl) ?_
  refine gM_m_trouble hC hP tw_1290 (v := m_trouble) e_m_trouble dX11_trouble_6 ?_
  obtain rfl := Option.some.inj hf
  exact rf_reti hC hP hS rfl rfl dX11_trouble_9
