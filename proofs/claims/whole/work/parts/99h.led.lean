/-! led: it may throw -/
abbrev rf_NS : String := "java/util/NoSuchElementException"
abbrev rf_nmL : List String := ["java/lang/RuntimeException", "java/lang/Exception"]
def rf_xw : List Cond := [.declares ⟨"java/lang/RuntimeException", "<init>", "()V"⟩, .declares ⟨"java/lang/Exception", "<init>", "()V"⟩, .declares ⟨"java/lang/Throwable", "<init>", "()V"⟩, .castable rf_NS rf_NS]
theorem rf_xwt : ∀ w ∈ rf_xw, w.onTables = true := by decide +kernel
def rf_XT (A : Nat → Prop) (U : State) : Prop := (∀ w ∈ rf_xw, va_Nw w U) ∧ vx_Zq Bundle.tN "UNASSIGNED_STACK" Bundle.steD A U U.heap ∧ vx_Zq Bundle.tN "SUPPRESSED_SENTINEL" Bundle.listD A U U.heap
theorem rf_XT.calling {A : Nat → Prop} {U : State} (g : JFrame) (mk : MethodId) (a : Array Value) (h : rf_XT A U) : rf_XT A (U.calling g mk a) :=
  ⟨fun w hw => va_Nw.same (rf_xwt w hw) (u := U) rfl (h.1 w hw), vx_Zq.moved (u := U) (U := U.calling g mk a) (Vm.Alike.refl U.vm) h.2.1, vx_Zq.moved (u := U) (U := U.calling g mk a) (Vm.Alike.refl U.vm) h.2.2⟩
theorem rf_XT.call {A0 A1 : Nat → Prop} {s U : State} {H : Heap} {locs : List Loc} (h : rf_XT A0 s) (hS : va_S A0 s.heap H locs) (hU : U.heap = H) (hW : s.WarmedH U.vm) (hA : ∀ q, A1 q → A0 q) : rf_XT A1 U := by
  refine ⟨fun w hw => ?_, by rw [hU]; exact ((h.2.1.moved hW.alike).kept hS.2.1).narrow hA, by rw [hU]; exact ((h.2.2.moved hW.alike).kept hS.2.1).narrow hA⟩
  have h0 := h.1 w hw
  unfold rf_xw at hw
  simp only [List.mem_cons, List.not_mem_nil, or_false] at hw
  rcases hw with rfl | rfl | rfl | rfl
  · exact va_Nw.warmD hW h0
  · exact va_Nw.warmD hW h0
  · exact va_Nw.warmD hW h0
  · exact va_Nw.warmC hW h0
abbrev rf_atL : List Cond := vx_at0 RX10 362 rf_NS rf_nmL
theorem rf_xg0 : rf_atL.filter goodWord = [21, 1234, 1243, 1245, 1248, 1250, 1235, 1236, 31, 32, 1237, 1242, 1246, 1262, 1224, 1263, 1226, 1264, 1228, 1238, 1240, 1230, 1252, 1253, 1254, 1255, 1255, 1256, 1257, 1258, 1258, 1259, 1260, 1235, 1251, 1213, 1221, 1222, 1223, 1225, 1227, 1229, 1233, 1232, 1231].filterMap (fun i => tables_1[i]?) := by decide +kernel
theorem rf_xg1 : ∀ w ∈ rf_atL.filter goodWord, w ∈ rf_gt := by
  intro w hw
  have hg : goodWord w = true := (List.mem_filter.mp hw).2
  rw [rf_xg0] at hw
  obtain ⟨i, -, hi⟩ := List.mem_filterMap.mp hw
  exact rf_gm i hi hg
theorem rf_xg2 : ∀ w ∈ rf_atL.filter (fun w => !goodWord w), w ∈ rf_xw := by decide +kernel
theorem rf_xg3 : ∀ w ∈ Cond.classLink RX10 360 rf_NS :: Cond.initialized rf_NS :: rf_atL, vx_ot w = true := by decide +kernel
def rf_rmL : Room := { frames := 6, cells := 1, slots := 6, locals := 200 }
def rf_QcL (E : rf_E) (A0 : Nat → Prop) (z : Int32 × Int32) (ws : va_W) : Array Value → State → Outcome → State → Prop := va_Qi (fun (r1 : Int32) (_ : Unit) => z.1 = 0 ∧ r1 = z.2) (fun _ t => va_P (rf_D E) vwCl ws t.heap) A0
def rf_XcL (E : rf_E) (A0 : Nat → Prop) (z : Int32 × Int32) (ws : va_W) : String → State → State → Prop := vx_X (fun (_ : Unit) => z.1 = 1) (fun E9 _ t => E9 = rf_NS ∧ va_P (rf_D E) vwCl ws t.heap) A0
def rf_QL (below : List Frame) (args : Array Value) (s : State) (E : rf_E) (A0 : Nat → Prop) (z : Int32 × Int32) (ws : va_W) : State → Prop := vx_MQ below (rf_QcL E A0 z ws) (rf_XcL E A0 z ws) args s 1 6 A0
section RFX
variable {p : Program} {l : Launch} {e : Env} {R : Room} {s : State} {m : MethodId} {args : Array Value} {below : List Frame} {meth : Method} {c : Code} {H : Heap} {locs : List Loc} {ls : Array Slot} {E : rf_E} {A0 : Nat → Prop} {ws : va_W} {cc : ByteArray} {nL pc : Nat} {own : String}
theorem rf_retL (hC : rf_C p E s m args meth c cc nL own (some .int) A0) (hP : va_P (rf_D E) vwCl ws H) (hS : va_S A0 s.heap H locs) {v : Int32} (hdg : decode cc pc = .ok (.ireturn, 1)) : W p l e R s m args below meth c H locs 0 0 (rf_QL below args s E A0 (0, v) ws) (F0 m pc ls [.int v]) := by
  refine W.widen (k := 1) (n := 6) (Nat.zero_le _) (Nat.zero_le _) ?_
  refine vx_ret (W.iret hC.1 hC.2.1 hC.2.2.2.2.2.1 (fun t ht hW => ⟨⟨v, (), rfl, ⟨rfl, rfl⟩, by subst ht; exact hP⟩, hS.F ht⟩) hS.2.2 hdg hC.2.2.2.2.2.2.1)
theorem rf_hatL (hC : rf_C p E s m args meth c cc nL own (some .int) A0) (hXT : rf_XT A0 s) : ∀ w ∈ rf_atL, w.before args s = true :=
  vx_hat (B := rf_xw) (fun w hw => hC.2.2.2.2.1 _ (rf_xg1 w hw)) rf_xg2 (fun w hw => va_Nw.use (rf_xwt w hw) (hXT.1 w hw))
theorem rf_thrL (hC : rf_C p E s m args meth c cX10_led 4 RX10 (some .int) A0) (hlt : l.stackTraces = false) (hxt : ∀ x ∈ c.exceptionTable.toList, False) (hXT : rf_XT A0 s) (hP : va_P (rf_D E) vwCl ws H) (hS : va_S A0 s.heap H locs) (hls : ls.size = 4) : W p l e rf_rmL s m args below meth c H locs 0 0 (rf_QL below args s E A0 (1, 0) ws) (F0 m 43 ls []) := by
  refine vx_throw0 (A := A0) (own := RX10) (cls := rf_NS) (names := rf_nmL) (ik := 360) (ic := 362) hC.1 hC.2.1 hlt hC.2.2.2.1 (by decide +kernel) (by decide +kernel) (hC.2.2.2.2.1 _ (rf_gm 1212 (by decide +kernel) rfl)) (hC.2.2.2.2.1 _ (rf_gm 24 (by decide +kernel) rfl)) (rf_hatL hC hXT) rf_xg3 hXT.2.1 hXT.2.2 hS (by rw [hC.2.2.1]; exact hls) dX10_led_43 dX10_led_46 dX10_led_47 dX10_led_50 (fun x hx => (hxt x hx).elim) (by decide) (by decide) (by decide) (by decide) hC.2.2.2.2.2.2.1 ?_ hS.2.2 (by decide) (by decide)
  intro t ha hsz hk
  exact ⟨(), rfl, ⟨rfl, hP.kept (fun k q hq => hk q.1 ((hP k q hq).lt))⟩, Nat.le_trans hS.1 hsz, fun q h1 h2 => (hk q (Nat.lt_of_lt_of_le h1 hS.1)).trans (hS.2.1 q h1 h2)⟩
end RFX
set_option maxHeartbeats 4000000 in
set_option maxRecDepth 100000 in
theorem w_X10_led_37 {l : Launch} {p : Program} {e : Env} {s : State} {m : MethodId} {args : Array Value} {below : List Frame} {meth : Method} {c : Code} {A0 : Nat → Prop} {E : rf_E} {a P : Nat → Nat} {I : Nat → Int32} {J : Nat → Int64} {A : Nat → Nat → Int32} {B : Nat → Nat → Int64} {tc_personCount : Int32} {now_wet : Nat → Int32} {z : Int32 × Int32} (hC : rf_C p E s m args meth c cX10_led 4 RX10 (some .int) A0) (hlt : l.stackTraces = false) (hxt : ∀ x ∈ c.exceptionTable.toList, False) (hXT : rf_XT A0 s) (hD : va_D A0 (cX E a P I J A B)) (hp0 : P 0 = a 10) (e_tc_personCount : I 24 = tc_personCount) (e_now_wet : A 2 = now_wet) {k4 : Int32 → Int32 → Int32 → Option (Int32 × Int32)} (hk4 : ∀ (v1 : Int32) (v2 : Int32) (v3 : Int32), k4 v1 v2 v3 = some z → ∀ (H : Heap) (locs : List Loc) (ls : Array Slot), va_P (rf_D E) vwCl (cX E a P I J A B) H → va_S A0 s.heap H locs → lv_has ls 4 [(0, .ref (a 0)), (1, .int v1), (2, .int v2), (3, .int v3)] → W p l e rf_rmL s m args below meth c H locs 0 0 (rf_QL below args s E A0 z (cX E a P I J A B)) (F0 m 4 ls [])) :
    ∀ (v1 : Int32) (v2 : Int32) (v3 : Int32), f_X10_led_37 k4 tc_personCount now_wet v1 v2 v3 = some z → ∀ (H : Heap) (locs : List Loc) (ls : Array Slot), va_P (rf_D E) vwCl (cX E a P I J A B) H → va_S A0 s.heap H locs → lv_has ls 4 [(0, .ref (a 0)), (1, .int v1), (2, .int v2), (3, .int v3)] → W p l e rf_rmL s m args below meth c H locs 0 0 (rf_QL below args s E A0 z (cX E a P I J A B)) (F0 m 37 ls []) := by
  have hx := hC.1
  have hb := hC.2.1
  intro v1 v2 v3 hf H locs ls hP hS hl
  unfold f_X10_led_37 at hf
  refine lv_iinc (v := v3 + 1) (lv' := [(3, .int (v3 + 1)), (0, .ref (a 0)), (1, .int v1), (2, .int v2)]) hx hb dX10_led_37 hl (k := 3) rfl rfl (by decide) rfl (fun ls hl => ?_)
  refine lv_goto (tgt := 4) hx hb dX10_led_40 (by decide) ?_
  exact hk4 v1 v2 (v3 + 1) hf _ _ _ hP hS (lv_sub hl [1, 2, 3, 0] rfl)
set_option maxHeartbeats 4000000 in
set_option maxRecDepth 100000 in
theorem w_X10_led_4 {l : Launch} {p : Program} {e : Env} {s : State} {m : MethodId} {args : Array Value} {below : List Frame} {meth : Method} {c : Code} {A0 : Nat → Prop} {E : rf_E} {a P : Nat → Nat} {I : Nat → Int32} {J : Nat → Int64} {A : Nat → Nat → Int32} {B : Nat → Nat → Int64} {tc_personCount : Int32} {now_wet : Nat → Int32} {z : Int32 × Int32} (hC : rf_C p E s m args meth c cX10_led 4 RX10 (some .int) A0) (hlt : l.stackTraces = false) (hxt : ∀ x ∈ c.exceptionTable.toList, False) (hXT : rf_XT A0 s) (hD : va_D A0 (cX E a P I J A B)) (hp0 : P 0 = a 10) (e_tc_personCount : I 24 = tc_personCount) (e_now_wet : A 2 = now_wet) :
    ∀ (n : Nat), ∀ (v1 : Int32) (v2 : Int32) (v3 : Int32), f_X10_led_4 tc_personCount now_wet n v1 v2 v3 = some z → ∀ (H : Heap) (locs : List Loc) (ls : Array Slot), va_P (rf_D E) vwCl (cX E a P I J A B) H → va_S A0 s.heap H locs → lv_has ls 4 [(0, .ref (a 0)), (1, .int v1), (2, .int v2), (3, .int v3)] → W p l e rf_rmL s m args below meth c H locs 0 0 (rf_QL below args s E A0 z (cX E a P I J A B)) (F0 m 4 ls []) := by
  have hx := hC.1
  have hb := hC.2.1
  intro n
  induction n with
  | zero =>
    intro v1 v2 v3 hf
    have hf : (none : Option (Int32 × Int32)) = some z := hf
    cases hf
  | succ n ih =>
    intro v1 v2 v3 hf H locs ls hP hS hl
    rw [f_X10_led_4] at hf
    refine lv_iload_n hx hb dX10_led_4 rfl (lv_at hl 3 rfl) ?_
    refine lv_aload_n hx hb dX10_led_5 rfl (lv_at hl 0 rfl) ?_
    refine gX_x_tale hC hP tw_401 (v := a 10) hp0 dX10_led_6 ?_
    refine gX_tc_personCount hC hP tw_132 (v := tc_personCount) e_tc_personCount dX10_led_9 ?_
    refine lv_icmp_ge (tgt := 43) hx hb dX10_led_12 (by decide) (fun c_12 => ?_) (fun c_12 => ?_)
    · have hf := rf_it c_12 hf
      obtain rfl := Option.some.inj hf
      exact rf_thrL hC hlt hxt hXT hP hS hl.1
    have hf := rf_ie c_12 hf
    refine lv_aload_n hx hb dX10_led_15 rfl (lv_at hl 0 rfl) ?_
    refine gX_x_now hC hP tw_392 dX10_led_16 ?_
    refine gX_now_wet hC hP tw_56 dX10_led_19 ?_
    refine lv_iload_n hx hb dX10_led_22 rfl (lv_at hl 3 rfl) ?_
    obtain ⟨hi_23, hf⟩ := rf_gu hf
    refine lX_now_wet hC hP hi_23 (f := now_wet) e_now_wet dX10_led_23 ?_
    refine lv_if_le (tgt := 37) hx hb dX10_led_24 (by decide) (fun c_24 => ?_) (fun c_24 => ?_)
    · have hf := rf_it c_24 hf
      exact w_X10_led_37 hC hlt hxt hXT hD hp0 e_tc_personCount e_now_wet ih v1 v2 v3 hf _ _ _ hP hS (lv_sub hl [0, 1, 2, 3] rfl)
    have hf := rf_ie c_24 hf
    refine lv_iload_n hx hb dX10_led_27 rfl (lv_at hl 2 rfl) ?_
    refine lv_iload_n hx hb dX10_led_28 rfl (lv_at hl 1 rfl) ?_
    refine lv_icmp_ne (tgt := 34) hx hb dX10_led_29 (by decide) (fun c_29 => ?_) (fun c_29 => ?_)
    · have hf := rf_ie c_29 hf
      refine lv_iinc (v := v2 + 1) (lv' := [(2, .int (v2 + 1)), (0, .ref (a 0)), (1, .int v1), (3, .int v3)]) hx hb dX10_led_34 hl (k := 2) rfl rfl (by decide) rfl (fun ls hl => ?_)
      exact w_X10_led_37 hC hlt hxt hXT hD hp0 e_tc_personCount e_now_wet ih v1 (v2 + 1) v3 hf _ _ _ hP hS (lv_sub hl [1, 2, 0, 3] rfl)
    have hf := rf_it c_29 hf
    refine lv_iload_n hx hb dX10_led_32 rfl (lv_at hl 3 rfl) ?_
    obtain rfl := Option.some.inj hf
    exact rf_retL hC hP hS dX10_led_33

def rf_PL (E : rf_E) (ws : va_W) (sz : Nat) (U : State) : Prop := rf_PW E ws sz U ∧ rf_XT (va_A ws sz) U
theorem rf_blindL {E : rf_E} {av : List Value} {ws : va_W} {sz : Nat} : FrameBlind (va_Pc av (rf_PL E ws sz)) := fun a U g mk q => ⟨q.1, ⟨q.2.1.1, q.2.1.2.1, q.2.1.2.2.1.calling g mk a, q.2.1.2.2.2⟩, q.2.2.calling g mk a⟩
set_option maxHeartbeats 4000000 in
set_option maxRecDepth 100000 in
theorem c_X10_led (l : Launch) (hlt : l.stackTraces = false) (E : rf_E) (a P : Nat → Nat) (I : Nat → Int32) (J : Nat → Int64) (A : Nat → Nat → Int32) (B : Nat → Nat → Int64) (tc_personCount : Int32) (now_wet : Nat → Int32) (v1 : Int32) {z : Int32 × Int32} (hp0 : P 0 = a 10) (e_tc_personCount : I 24 = tc_personCount) (e_now_wet : A 2 = now_wet) (hf : f_X10_led tc_personCount now_wet v1 = some z) (sz : Nat) :
    vx_Met l yX10_led (Cond.code yX10_led cX10_led 4 (some .int) :: rf_gt) rf_rmL (va_Pc [.ref (a 0), .int v1] (rf_PL E (cX E a P I J A B) sz)) (rf_QcL E (va_A (cX E a P I J A B) sz) z (cX E a P I J A B)) (rf_XcL E (va_A (cX E a P I J A B) sz) z (cX E a P I J A B)) 1 6 (va_A (cX E a P I J A B) sz) := by
  unfold f_X10_led at hf
  refine vx_ofW (cc := cX10_led) (maxL := 4) (ret := some .int) (by decide) rfl ?_
  intro p e s m args below meth c s₁ Bd hml hxt hv
  obtain ⟨rfl, ⟨hsz, hP, hK, hD0⟩, hXT⟩ := hv
  subst hsz
  have hts := atoms_spec (ws := Cond.code yX10_led cX10_led 4 (some .int) :: rf_gt) Bd.pre
  rw [lg_entry_eq]
  have hC : rf_C p E s m #[.ref (a 0), .int v1] meth c cX10_led 4 RX10 (some .int) (va_A (cX E a P I J A B) s.heap.size) := ⟨Bd.exec, Bd.bytes, hml, findClass_of_methodNamed Bd.named, fun w hw => hts w (List.mem_cons_of_mem _ hw), Bd.returns, Bd.notSynchronized, hK, fun q h => Or.inr h⟩
  have hD : va_D (va_A (cX E a P I J A B) s.heap.size) (cX E a P I J A B) := hD0.self
  have hS : va_S (va_A (cX E a P I J A B) s.heap.size) s.heap s.heap [] := va_S.rf
  have hx := hC.1
  have hb := hC.2.1
  have hl := lv_entry [.ref (a 0), .int v1] (n := 4) (Nat.le_of_ble_eq_true rfl)
  have hl : lv_has _ 4 [(0, .ref (a 0)), (1, .int v1)] := hl
  refine lv_iconst (v := 0) hx hb dX10_led_0 (by decide) ?_
  refine lv_istore_n (lv' := [(2, .int 0), (0, .ref (a 0)), (1, .int v1)]) hx hb dX10_led_1 rfl hl (by decide) rfl (fun ls hl => ?_)
  refine lv_iconst (v := 0) hx hb dX10_led_2 (by decide) ?_
  refine lv_istore_n (lv' := [(3, .int 0), (2, .int 0), (0, .ref (a 0)), (1, .int v1)]) hx hb dX10_led_3 rfl hl (by decide) rfl (fun ls hl => ?_)
  exact w_X10_led_4 hC hlt hxt hXT hD hp0 e_tc_personCount e_now_wet rf_fu v1 0 0 hf _ _ _ hP hS (lv_sub hl [2, 3, 1, 0] rfl)
theorem rf_cwVL {p : Program} {l : Launch} {e : Env} {R : Room} {s : State} {m : MethodId} {args : Array Value} {meth : Method} {c : Code} {cc : ByteArray} {nL : Nat} {own : String} {ret : Option FieldType} {E : rf_E} {A0 : Nat → Prop} {C : String} {index : Nat} {y : MethodName} {bytes : ByteArray} {maxL n mc ms : Nat} {rt : Option FieldType} {rm : Room} (hC : rf_C p E s m args meth c cc nL own ret A0) (hk : rf_kV C y bytes maxL rt n) (hl : Cond.methodLink own index y ∈ rf_gt) (h0 : rm.cells = mc) (h1 : rm.slots = ms) (hR : rm.frames + 1 ≤ R.frames ∧ 8 + (maxL + 11) + rm.locals ≤ R.locals) : CallW R s args own C index y bytes maxL rt (Cond.code y bytes maxL rt :: rf_gt) rm mc ms n := by
  refine cwV n hC.2.2.2.2.1 ?_ rfl h0 h1 hk.2.2.2.2 hR
  intro w hw
  unfold wsV at hw
  rcases List.mem_append.mp hw with hw | hw
  · have hg : w ∈ rf_gt := by
      simp only [List.mem_cons, List.not_mem_nil, or_false] at hw
      rcases hw with h | h | h | h <;> rw [h]
      · exact hl
      · exact hk.1
      · exact hk.2.1
      · exact hk.2.2.1
    exact ⟨hg, rf_gg hg⟩
  · exact rf_goodc hk.2.2.2.1 w hw
theorem kV_X10_led : rf_kV RX10 yX10_led cX10_led 4 (some .int) 1 := ⟨rf_gm 1209 (by decide +kernel) rfl, rf_gm 1210 (by decide +kernel) rfl, rf_gm 1 (by decide +kernel) rfl, rf_gm 1211 (by decide +kernel) rfl, by decide, by decide, by decide +kernel⟩
def rf_hhL : List (Nat × Nat × Nat × Nat) := [(0, 9, 12, 13)]
def rf_rmM : Room := { frames := 7, cells := 1, slots := 6, locals := 240 }
def rf_foL (z : Int32 × Int32) (fo : Nat → Int64) : Nat → Int64 := if z.1 = 0 then vp_updL fo 0 z.2.toInt64 else fo
def rf_WL (E : rf_E) (a P : Nat → Nat) (I : Nat → Int32) (J : Nat → Int64) (A : Nat → Nat → Int32) (B : Nat → Nat → Int64) (o : Nat) (fo : Nat → Int64) : va_W := cX E a P I J A B ++ [(o, .inl (rf_cJ E, 1, .inr (.inl fo)))]
set_option maxHeartbeats 4000000 in
set_option maxRecDepth 100000 in
theorem c_L_led (l : Launch) (hlt : l.stackTraces = false) (E : rf_E) (a P : Nat → Nat) (I : Nat → Int32) (J : Nat → Int64) (A : Nat → Nat → Int32) (B : Nat → Nat → Int64) (o : Nat) (fo : Nat → Int64) (v1 : Int32) {z : Int32 × Int32} (hp0 : P 0 = a 10) (hf : f_X10_led (I 24) (A 2) v1 = some z) (hz : z.1 = 0 ∨ z.1 = 1) (sz : Nat) :
    Met l yL_led (Cond.codeWith yL_led cL_led 4 (some .int) rf_hhL :: rf_gt) rf_rmM (va_Pc [.ref (a 0), .int v1, .ref o] (rf_PL E (rf_WL E a P I J A B o fo) sz)) (va_Qi (fun (r1 : Int32) (_ : Unit) => r1 = z.1) (fun _ t => va_P (rf_D E) vwCl (rf_WL E a P I J A B o (rf_foL z fo)) t.heap) (va_A (rf_WL E a P I J A B o fo) sz)) 1 6 (va_A (rf_WL E a P I J A B o fo) sz) := by
  refine va_MetW (cc := cL_led) (maxL := 4) (ret := some .int) (hh := rf_hhL) (by decide) rfl ?_
  intro p e s m args below meth c s₁ Bd hml hv
  obtain ⟨rfl, ⟨hsz, hP, hK, hD0⟩, hXT⟩ := hv
  subst hsz
  have hts := atoms_spec (ws := Cond.codeWith yL_led cL_led 4 (some .int) rf_hhL :: rf_gt) Bd.pre
  have htab := vx_table (x := yL_led) Bd (hts _ List.mem_cons_self)
  rw [lg_entry_eq]
  have hC : rf_C p E s m #[.ref (a 0), .int v1, .ref o] meth c cL_led 4 RL (some .int) (va_A (rf_WL E a P I J A B o fo) s.heap.size) := ⟨Bd.exec, Bd.bytes, hml, findClass_of_methodNamed Bd.named, fun w hw => hts w (List.mem_cons_of_mem _ hw), Bd.returns, Bd.notSynchronized, hK, fun q h => Or.inr h⟩
  have hD : va_D (va_A (rf_WL E a P I J A B o fo) s.heap.size) (rf_WL E a P I J A B o fo) := hD0.self
  have hS : va_S (va_A (rf_WL E a P I J A B o fo) s.heap.size) s.heap s.heap [] := va_S.rf
  have hx := hC.1
  have hb := hC.2.1
  have hl := lv_entry [.ref (a 0), .int v1, .ref o] (n := 4) (Nat.le_of_ble_eq_true rfl)
  have hl : lv_has _ 4 [(0, .ref (a 0)), (1, .int v1), (2, .ref o)] := hl
  refine lv_aload_n hx hb dL_led_0 rfl (lv_at hl 2 rfl) ?_
  refine lv_iconst (v := 0) hx hb dL_led_1 (by decide) ?_
  refine lv_aload_n hx hb dL_led_2 rfl (lv_at hl 0 rfl) ?_
  refine lv_iload_n hx hb dL_led_3 rfl (lv_at hl 1 rfl) ?_
  have hPm : va_P (rf_D E) vwCl ([] ++ (cX E a P I J A B ++ [(o, .inl (rf_cJ E, 1, .inr (.inl fo)))])) s.heap := hP
  have hDm : va_D (va_A (rf_WL E a P I J A B o fo) s.heap.size) ([] ++ (cX E a P I J A B ++ [(o, .inl (rf_cJ E, 1, .inr (.inl fo)))])) := hD
  have hPc := rf_midP hPm
  have hDc := rf_midD hDm
  have hp := rf_pre (As := [.ref (a 0), .int v1]) hC hPc hDc hS
  have hXc : ∀ U : State, U.heap = s.heap → s.WarmedH U.vm → rf_XT (va_A (cX E a P I J A B) s.heap.size) U := fun U hU hW => hXT.call hS hU hW (rf_sub hC hDc hS)
  refine vx_calli (A0 := va_A (rf_WL E a P I J A B o fo) s.heap.size) (H0 := s.heap) (vx_runV (Ts := rf_gt) (rest := [.int 0, .ref o]) (As := [.int v1]) (b := a 0) ⟨hC.1, hC.2.1, hC.2.2.1, hC.2.2.2.1, hC.2.2.2.2.1⟩ (c_X10_led l hlt E a P I J A B (I 24) (A 2) v1 hp0 rfl rfl hf s.heap.size) (rf_cwVL (l := l) (e := e) hC kV_X10_led (rf_gm 1208 (by decide +kernel) rfl) rfl rfl ⟨by decide, by decide⟩) ⟨rf_blindL, va_recv hC.2.2.2.2.2.2.2.1.1 hPc (ci := 10) (q0 := 0) rfl rfl, fun U hU hW => ⟨rfl, (hp.2 U hU hW).2, hXc U hU hW⟩⟩ rfl rfl hl.1 rfl (lv_room (Nat.le_of_ble_eq_true rfl)) dL_led_4 ⟨by decide, by decide⟩) hS (fun q _ h => rf_sub hC hDc hS q h) (rf_sub hC hDc hS) (fun q _ h => rf_sub hC hDc hS q h) ?_ ?_
  · intro E9 ce q9 u t H1 locs1 ht hvm hpx hBX hsz1 hk1 hS1 hce hcv hcl
    obtain ⟨rfl, hB⟩ := hBX
    have hP1 : va_P (rf_D E) vwCl (rf_WL E a P I J A B o fo) H1 := rf_midB hPm hDm rfl (by rw [← ht]; exact hB) hk1
    refine vx_catch (own := RL) (name := rf_NS) hC.2.2.2.1 [] ⟨0, 9, 12, 13⟩ [] htab (fun z h => nomatch h) (by decide) (by decide) (hC.2.2.2.2.1 _ (rf_gm 1207 (by decide +kernel) rfl)) (va_Nw.use (w := Cond.castable rf_NS rf_NS) rfl (hXT.1 _ (by decide +kernel))) hce hcv hcl ?_
    refine lv_astore_n (lv' := [(3, .ref q9), (0, .ref (a 0)), (1, .int v1), (2, .ref o)]) hx hb dL_led_12 rfl hl (by decide) rfl (fun ls hl => ?_)
    refine lv_iconst (v := 1) hx hb dL_led_13 (by decide) ?_
    refine W.iret hC.1 hC.2.1 hC.2.2.2.2.2.1 (fun t ht hW => ⟨⟨1, (), rfl, hpx.symm, ?_⟩, hS1.F ht⟩) hS1.2.2 dL_led_14 hC.2.2.2.2.2.2.1
    subst ht
    rw [show rf_foL z fo = fo by unfold rf_foL; rw [if_neg (by rw [hpx]; decide)]]
    exact hP1
  · intro r u t H1 locs1 ht hvm hpr hB hsz1 hk1 hS1
    obtain ⟨hz0, rfl⟩ := hpr
    have hP1 : va_P (rf_D E) vwCl (rf_WL E a P I J A B o fo) H1 := rf_midB hPm hDm rfl (by rw [← ht]; exact hB) hk1
    refine lv_i2l hx hb dL_led_7 rfl ?_
    refine va_last (ws := rf_WL E a P I J A B o fo) (f := fo) hx hb hC.2.2.2.2.2.2.2.1.1 hP1 hD hS1 53 2 rfl rfl (vp_in_nI (n := 0) (by decide) (by decide)) dL_led_8 (fun H2 locs2 hP2 hD2 hS2 => ?_)
    refine lv_goto (tgt := 15) hx hb dL_led_9 (by decide) ?_
    refine lv_iconst (v := 0) hx hb dL_led_15 (by decide) ?_
    refine W.iret hC.1 hC.2.1 hC.2.2.2.2.2.1 (fun t ht hW => ⟨⟨0, (), rfl, hz0.symm, ?_⟩, hS2.F ht⟩) hS2.2.2 dL_led_16 hC.2.2.2.2.2.2.1
    subst ht
    rw [show rf_foL z fo = vp_updL fo 0 z.2.toInt64 by unfold rf_foL; rw [if_pos hz0]]
    exact hP2
/-! the law's case 42 -/
theorem rf_gL : GoodIn rf_gt (va_wsS RL 195 yL_led (Cond.codeWith yL_led cL_led 4 (some .int) rf_hhL :: rf_gt)) := by
  intro w hw
  unfold va_wsS at hw
  rcases List.mem_append.mp hw with hw | hw
  · have hg : w ∈ rf_gt := by
      simp only [List.mem_cons, List.not_mem_nil, or_false] at hw
      rcases hw with h | h | h <;> rw [h]
      · exact tl_1204
      · exact rf_gm 1205 (by decide +kernel) rfl
      · exact rf_gm 0 (by decide +kernel) rfl
    exact ⟨hg, rf_gg hg⟩
  · exact rf_goodc (rf_gm 1206 (by decide +kernel) rfl) w hw
set_option maxHeartbeats 4000000 in
set_option maxRecDepth 100000 in
theorem law_led {INV INV2 : rf_INV} (hs : rf_step_42 INV INV2) {p : Program} {l : Launch} (hlt : l.stackTraces = false) {e : Env} {s : State} {m : MethodId} {below : List Frame} {meth : Method} {c : Code} {E : rf_E} {b L : Nat} {xs : Nat → Int32} {b2 : Nat → Nat} {o : Nat}
    (hC : rf_C p E s m #[Value.ref b] meth c code 7 RL (some .boolean) (rf_A s)) (hXT : rf_XT (rf_A s) s) (hX : va_X b L xs s s.heap) (hbl : b < s.heap.size) (hL : L ≤ 3584) : rf_led INV INV2 p l e s m below meth c E b L xs b2 o := by
  intro i cs ss a P I J A B I' A' fo rt hi hcs hss hI h0 h1 h2 h3 hk H locs ls hP hD hS hl
  have hx := hC.1
  have hb := hC.2.1
  have hbA : ¬ rf_A s b := Nat.not_le.mpr hbl
  refine lv_aload_n hx hb dL_law_1692 rfl (lv_at hl 1 rfl) ?_
  refine lv_aload_n hx hb dL_law_1693 rfl (lv_at hl 0 rfl) ?_
  refine lv_iload hx hb dL_law_1694 (lv_at hl 4 rfl) ?_
  refine lv_iconst (v := 1) hx hb dL_law_1696 (by decide) ?_
  refine lv_iadd hx hb dL_law_1697 ?_
  refine va_sld hx hb hX hbl hbA hS (rf_sin hi hL (j := 1) rfl (by decide)) dL_law_1698 ?_
  refine lv_aload_n hx hb dL_law_1699 rfl (lv_at hl 3 rfl) ?_
  obtain ⟨zX, zM, hX1, hM1, hz, hr1, hr2, hI2⟩ := hs I J A B I' A' (xs (Int32.toNatClampNeg (nI i + 1))) hI
  obtain ⟨v1, hv1⟩ : ∃ v : Int32, xs (Int32.toNatClampNeg (nI i + 1)) = v := ⟨_, rfl⟩
  rw [hv1] at hX1 hM1 ⊢
  have hPm : va_P (rf_D E) vwCl (cM E b2 I' A' ++ (rf_WL E a P I J A B o fo ++ [])) H := hP.sub [53, 54, 55, 56, 57, 58, 59, 60, 61, 62, 63, 64, 65, 66, 67, 0, 1, 2, 3, 4, 5, 6, 7, 8, 9, 10, 11, 12, 13, 14, 15, 16, 17, 18, 19, 20, 21, 22, 23, 24, 25, 26, 27, 28, 29, 30, 31, 32, 33, 34, 35, 36, 37, 38, 39, 40, 41, 42, 43, 44, 45, 46, 47, 48, 49, 50, 51, 52, 68] rfl
  have hDm : va_D (rf_A s) (cM E b2 I' A' ++ (rf_WL E a P I J A B o fo ++ [])) := hD.sub [53, 54, 55, 56, 57, 58, 59, 60, 61, 62, 63, 64, 65, 66, 67, 0, 1, 2, 3, 4, 5, 6, 7, 8, 9, 10, 11, 12, 13, 14, 15, 16, 17, 18, 19, 20, 21, 22, 23, 24, 25, 26, 27, 28, 29, 30, 31, 32, 33, 34, 35, 36, 37, 38, 39, 40, 41, 42, 43, 44, 45, 46, 47, 48, 49, 50, 51, 52, 68] (by decide) rfl
  have hPc := rf_midP hPm
  have hDc := rf_midD hDm
  have hp := rf_pre (As := [.ref (a 0), .int v1, .ref o]) hC hPc hDc hS
  refine va_calli (A0 := rf_A s) (H0 := s.heap) (vx_runSW (Ts := rf_gt) (rest := []) (As := [.ref (a 0), .int v1, .ref o]) ⟨hC.1, hC.2.1, hC.2.2.1, hC.2.2.2.1, hC.2.2.2.2.1⟩ (c_L_led l hlt E a P I J A B o fo v1 h0 hX1 hz H.size) (vx_cwSW 3 hC.2.2.2.2.1 rf_gL rfl rfl rfl ⟨by decide, by decide, by decide +kernel⟩ ⟨Nat.le_of_ble_eq_true rfl, Nat.le_of_ble_eq_true rfl⟩) ⟨rf_blindL, fun U hU hW => ⟨rfl, (hp.2 U hU hW).2, hXT.call hS hU hW (rf_sub hC hDc hS)⟩⟩ rfl rfl hl.1 rfl (lv_room (Nat.le_of_ble_eq_true rfl)) dL_law_1700 ⟨hcs, hss⟩) hS (fun q _ h => rf_sub hC hDc hS q h) (rf_sub hC hDc hS) ?_
  intro r1 u t H1 locs1 ht hvm hp1 hB hz1 hk1 hS1
  subst hp1
  have hP1 : va_P (rf_D E) vwCl (cM E b2 I' A' ++ (rf_WL E a P I J A B o (rf_foL zX fo) ++ [])) H1 := rf_midB hPm hDm rfl (by rw [← ht]; exact hB) hk1
  have hP2 : va_P (rf_D E) vwCl (rf_LW E a b2 o P I J A B I' A' (rf_foL zX fo)) H1 := hP1.sub [15, 16, 17, 18, 19, 20, 21, 22, 23, 24, 25, 26, 27, 28, 29, 30, 31, 32, 33, 34, 35, 36, 37, 38, 39, 40, 41, 42, 43, 44, 45, 46, 47, 48, 49, 50, 51, 52, 53, 54, 55, 56, 57, 58, 59, 60, 61, 62, 63, 64, 65, 66, 67, 0, 1, 2, 3, 4, 5, 6, 7, 8, 9, 10, 11, 12, 13, 14, 68] rfl
  have hD2 : va_D (rf_A s) (rf_LW E a b2 o P I J A B I' A' (rf_foL zX fo)) := rf_Dc (ws := rf_LW E a b2 o P I J A B I' A' fo) rfl hD
  refine lv_istore (lv' := [(5, .int zX.1), (0, .ref b), (1, .ref (a 0)), (2, .ref (b2 0)), (3, .ref o), (4, .int (nI i))]) hx hb dL_law_1703 hl (by decide) rfl (fun ls hl => ?_)
  refine lv_aload_n hx hb dL_law_1705 rfl (lv_at hl 3 rfl) ?_
  refine lv_aload_n hx hb dL_law_1706 rfl (lv_at hl 1 rfl) ?_
  refine lv_iload hx hb dL_law_1707 (lv_at hl 5 rfl) ?_
  refine lv_iconst (v := 1) hx hb dL_law_1709 (by decide) ?_
  refine lv_iadd hx hb dL_law_1710 ?_
  refine va_sld hx hb hX hbl hbA hS1 (rf_sin hi hL (j := 1) rfl (by decide)) dL_law_1711 ?_
  rw [hv1]
  refine rf_vip (cX E a P I J A B) (cM E b2 I' A') (cM E b2 (rf_upL I' [(0, zM.2)]) A') [(o, .inl (rf_cJ E, 1, .inr (.inl (rf_foL zX fo))))] (q0 := 0) (ci := 11) hC (c_X11_led l E b2 I' A' (I' 12) (A' 2) (A' 4) (I' 0) v1 rfl rfl rfl rfl hM1) rfl kV_X11_led tl_1890 ⟨Nat.le_of_ble_eq_true rfl, Nat.le_of_ble_eq_true rfl⟩ rfl rfl rfl rfl rfl hP2 hD2 hS1 rfl hl.1 (rest := []) rfl (Nat.le_of_ble_eq_true rfl) dL_law_1712 ⟨hcs, hss⟩ (fun H locs hP hS => ?_)
  have hD : va_D (rf_A s) (cX E a P I J A B ++ (cM E b2 (rf_upL I' [(0, zM.2)]) A' ++ [(o, .inl (rf_cJ E, 1, .inr (.inl (rf_foL zX fo))))])) := rf_Dc (ws := rf_LW E a b2 o P I J A B I' A' (rf_foL zX fo)) rfl hD2
  refine lv_istore (lv' := [(6, .int zM.1), (5, .int zX.1), (0, .ref b), (1, .ref (a 0)), (2, .ref (b2 0)), (3, .ref o), (4, .int (nI i))]) hx hb dL_law_1715 hl (by decide) rfl (fun ls hl => ?_)
  refine lv_aload_n hx hb dL_law_1717 rfl (lv_at hl 4 rfl) ?_
  refine rf_vip (cX E a P I J A B) (cM E b2 (rf_upL I' [(0, zM.2)]) A') (cM E b2 (rf_upL I' [(0, zM.2)]) A') [(o, .inl (rf_cJ E, 1, .inr (.inl (rf_foL zX fo))))] (q0 := 0) (ci := 11) hC (c_X11_thrown l E b2 (rf_upL I' [(0, zM.2)]) A' (z := zM.2) zM.2 rfl rfl) rfl kV_X11_thrown tl_1391 ⟨Nat.le_of_ble_eq_true rfl, Nat.le_of_ble_eq_true rfl⟩ rfl rfl rfl rfl rfl hP hD hS rfl hl.1 (rest := []) rfl (Nat.le_of_ble_eq_true rfl) dL_law_1718 ⟨hcs, hss⟩ (fun H locs hP hS => ?_)
  refine lv_iload hx hb dL_law_1721 (lv_at hl 1 rfl) ?_
  refine lv_icmp_eq (tgt := 1728) hx hb dL_law_1723 (by decide) (fun _ => ?_) (fun c1 => absurd hr1 c1)
  refine lv_iload hx hb dL_law_1728 (lv_at hl 1 rfl) ?_
  have hend : W p l e room_1 s m #[Value.ref b] below meth c H locs (cs + 1) (ss + 6) (lw_Z below #[Value.ref b] s) (F0 m 1745 ls []) := by
    refine lv_goto (tgt := 1786) hx hb dL_law_1745 (by decide) ?_
    exact hk a P I J A B (rf_upL I' [(0, zM.2)]) A' (rf_foL zX fo) rt hI2 h0 h1 h2 h3 _ _ _ hP hD hS (lv_sub hl [2, 3, 4, 5, 6] rfl)
  refine lv_if_ne (tgt := 1745) hx hb dL_law_1730 (by decide) (fun _ => hend) (fun c1 => ?_)
  refine lv_aload_n hx hb dL_law_1733 rfl (lv_at hl 5 rfl) ?_
  refine lv_iconst (v := 0) hx hb dL_law_1734 (by decide) ?_
  refine va_lald (ws := rf_LW E a b2 o P I J A B (rf_upL I' [(0, zM.2)]) A' (rf_foL zX fo)) (f := rf_foL zX fo) hx hb hC.2.2.2.2.2.2.2.1.1 hP 68 2 rfl rfl (vp_in_nI (n := 0) (by decide) (by decide)) dL_law_1735 ?_
  refine lv_iload hx hb dL_law_1736 (lv_at hl 0 rfl) ?_
  refine lv_i2l hx hb dL_law_1738 rfl ?_
  refine W.lcmp hx hb dL_law_1739 ?_
  refine lv_if_eq (tgt := 1745) hx hb dL_law_1740 (by decide) (fun _ => hend) (fun c2 => absurd ?_ c2)
  have e1 : rf_foL zX fo (Int32.toNatClampNeg 0) = zM.1.toInt64 := by
    unfold rf_foL
    rw [if_pos c1, hr2 c1]
    rfl
  rw [e1]
  unfold lg_cmp
  simp
def rf_Sys42 (INV : Nat → rf_INV) : Prop := ∀ j : Nat, j ≤ 512 → rf_step_42 (INV j) (INV (j + 1))
theorem rf_xt : ∀ w ∈ rf_xw, w ∈ tables_1 := by decide +kernel
theorem rf_XT0 {s : State} {args : Array Value} (hts : ∀ w ∈ lw_tbl, w.before args s = true) (hgv : ∀ w ∈ rf_nar, w.before args s = true) : rf_XT (rf_A s) s := by
  have htb : ∀ w ∈ tables_1, w.before args s = true := fun w hw => hts w (List.mem_append_right _ hw)
  have hA : ∀ a : Nat, a < s.heap.size → ¬ rf_A s a := fun a h => Nat.not_le.mpr h
  exact ⟨fun w hw => va_Nw.of (rf_xwt w hw) (htb w (rf_xt w hw)), vx_Zqof (htb _ (List.mem_of_getElem? (i := 1239) (by decide +kernel))) (htb _ (List.mem_of_getElem? (i := 21) (by decide +kernel))) (hgv _ (List.mem_of_getElem? (i := 9) (by decide +kernel))) hA, vx_Zqof (htb _ (List.mem_of_getElem? (i := 1241) (by decide +kernel))) (htb _ (List.mem_of_getElem? (i := 21) (by decide +kernel))) (hgv _ (List.mem_of_getElem? (i := 10) (by decide +kernel))) hA⟩
