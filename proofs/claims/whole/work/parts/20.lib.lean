/-! the environment of all walks: class numbers, slots, array classes, String constants -/
abbrev rf_E : Type := (Nat → ClassId) × (Nat → Nat → Nat) × ClassId × ClassId × ClassId × (Nat → Nat) × (Nat → Nat)
abbrev rf_D (E : rf_E) : va_G := (E.1, E.2.1)
abbrev rf_cB (E : rf_E) : ClassId := E.2.2.1
abbrev rf_cI (E : rf_E) : ClassId := E.2.2.2.1
abbrev rf_cJ (E : rf_E) : ClassId := E.2.2.2.2.1
abbrev rf_aK (E : rf_E) : Nat → Nat := E.2.2.2.2.2.1
abbrev rf_aV (E : rf_E) : Nat → Nat := E.2.2.2.2.2.2
abbrev rf_tys (E : rf_E) : List (ClassId × FieldType) := [(rf_cB E, .byte), (rf_cI E, .int), (rf_cJ E, .long)]
def rf_str (E : rf_E) (A : Nat → Prop) (U : State) (H : Heap) : Prop := (∀ i : Nat, i < 49 → va_O "java/lang/String" (rf_aK E i) A U H ∧ va_OF "java/lang/String" "coder" "B" (.int 0) (rf_aK E i) A U H ∧ va_OF "java/lang/String" "value" "[B" (.ref (rf_aV E i)) (rf_aK E i) A U H ∧ va_T .byte (rf_aV E i) (rf_len i) (fun j => .int (rf_byt i j)) A U H) ∧ va_Z "java/lang/String" "COMPACT_STRINGS" "Z" (.int 1) A U H ∧ va_Zq "jdk/internal/util/Preconditions" "SIOOBE_FORMATTER" "Ljava/util/function/BiFunction;" A U H
theorem rf_str.moved {E : rf_E} {A : Nat → Prop} {u U : State} {H : Heap} (hvm : u.vm.Alike U.vm) (h : rf_str E A u H) : rf_str E A U H :=
  ⟨fun i hi => ⟨va_O.moved hvm (h.1 i hi).1, va_OF.moved hvm (h.1 i hi).2.1, va_OF.moved hvm (h.1 i hi).2.2.1, va_T.moved hvm (h.1 i hi).2.2.2⟩, va_Z.moved hvm h.2.1, va_Zq.moved hvm h.2.2⟩
theorem rf_str.kept {E : rf_E} {A : Nat → Prop} {U : State} {H H1 : Heap} (h : rf_str E A U H) (hq : ∀ a : Nat, a < H.size → ¬ A a → H1[a]? = H[a]?) : rf_str E A U H1 :=
  ⟨fun i hi => ⟨(h.1 i hi).1.kept hq, (h.1 i hi).2.1.kept hq, (h.1 i hi).2.2.1.kept hq, (h.1 i hi).2.2.2.kept hq⟩, h.2.1.kept hq, h.2.2.kept hq⟩
theorem rf_str.narrow {E : rf_E} {A B : Nat → Prop} {U : State} {H : Heap} (h : rf_str E A U H) (hAB : ∀ q, B q → A q) : rf_str E B U H :=
  ⟨fun i hi => ⟨(h.1 i hi).1.narrow hAB, (h.1 i hi).2.1.narrow hAB, (h.1 i hi).2.2.1.narrow hAB, (h.1 i hi).2.2.2.narrow hAB⟩, h.2.1.narrow hAB, h.2.2.narrow hAB⟩
def rf_ldc (E : rf_E) (U : State) : Prop := ∀ (i : Nat) (q : String × Nat × String), rf_sl[i]? = some q → vk_R q.1 q.2.1 q.2.2 (rf_aK E i) U
def rf_KS (E : rf_E) (A : Nat → Prop) (U : State) : Prop := va_K (rf_D E) vwCl (rf_tys E) U ∧ (∀ w ∈ rf_nw, va_Nw w U) ∧ rf_str E A U U.heap ∧ rf_ldc E U
theorem rf_KS.calling {E : rf_E} {A : Nat → Prop} {U : State} (g : JFrame) (mk : MethodId) (a : Array Value) (h : rf_KS E A U) : rf_KS E A (U.calling g mk a) :=
  ⟨va_K.moved (u := U) (U := U.calling g mk a) (Vm.Alike.refl U.vm) h.1, fun w hw => by
    obtain ⟨a1, i1, x1, b1, rfl⟩ := rf_nwf hw
    exact va_Nw.same rfl (u := U) rfl (h.2.1 _ hw), rf_str.moved (u := U) (U := U.calling g mk a) (Vm.Alike.refl U.vm) h.2.2.1, fun i q hq => vk_R.same (u := U) rfl (h.2.2.2 i q hq)⟩
theorem rf_KS.call {E : rf_E} {A0 A1 : Nat → Prop} {s U : State} {H : Heap} {locs : List Loc} (h : rf_KS E A0 s) (hS : va_S A0 s.heap H locs) (hU : U.heap = H) (hW : s.WarmedH U.vm) (hA : ∀ q, A1 q → A0 q) : rf_KS E A1 U :=
  ⟨va_K.moved hW.alike h.1, fun w hw => by
    obtain ⟨a1, i1, x1, b1, rfl⟩ := rf_nwf hw
    exact va_Nw.warmM hW (h.2.1 _ hw), by rw [hU]; exact ((h.2.2.1.moved hW.alike).kept hS.2.1).narrow hA, fun i q hq => vk_R.warm hW (h.2.2.2 i q hq)⟩
/-! what a walk stands on -/
def rf_C (p : Program) (E : rf_E) (s : State) (m : MethodId) (args : Array Value) (meth : Method) (c : Code) (cc : ByteArray) (nL : Nat) (own : String) (ret : Option FieldType) (A0 : Nat → Prop) : Prop :=
  p.tables.exec = Jvm.exec ∧ c.code = cc ∧ c.maxLocals = nL ∧ s.vm.findClass own = some m.cls ∧ (∀ w ∈ rf_gt, w.before args s = true) ∧ meth.sig.returnType = ret ∧ meth.locks = false ∧ rf_KS E A0 s ∧ ∀ q, s.heap.size ≤ q → A0 q
def rf_PW (E : rf_E) (ws : va_W) (sz : Nat) (U : State) : Prop := U.heap.size = sz ∧ va_P (rf_D E) vwCl ws U.heap ∧ rf_KS E (va_A ws sz) U ∧ va_D (fun _ => True) ws
def rf_QI (below : List Frame) (args : Array Value) (s : State) (E : rf_E) (A0 : Nat → Prop) (r : Int32) (ws' : va_W) : State → Prop := MQ below (va_Qi (fun (r1 : Int32) (_ : Unit) => r1 = r) (fun _ t => va_P (rf_D E) vwCl ws' t.heap) A0) args s 0 0 A0
def rf_QV (below : List Frame) (args : Array Value) (s : State) (E : rf_E) (A0 : Nat → Prop) (ws' : va_W) : State → Prop := MQ below (va_Qv (fun (_ : Unit) => True) (fun _ t => va_P (rf_D E) vwCl ws' t.heap) A0) args s 0 0 A0
/-- a contract: answers r, the world ws becomes ws' -/
def rf_MI (l : Launch) (y : MethodName) (cc : ByteArray) (maxL : Nat) (ret : Option FieldType) (rm : Room) (E : rf_E) (av : List Value) (ws : va_W) (r : Int32) (ws' : va_W) : Prop :=
  ∀ sz : Nat, Met l y (Cond.code y cc maxL ret :: rf_gt) rm (va_Pc av (rf_PW E ws sz)) (va_Qi (fun (r1 : Int32) (_ : Unit) => r1 = r) (fun _ t => va_P (rf_D E) vwCl ws' t.heap) (va_A ws sz)) 0 0 (va_A ws sz)
def rf_MV (l : Launch) (y : MethodName) (cc : ByteArray) (maxL : Nat) (rm : Room) (E : rf_E) (av : List Value) (ws : va_W) (ws' : va_W) : Prop :=
  ∀ sz : Nat, Met l y (Cond.code y cc maxL none :: rf_gt) rm (va_Pc av (rf_PW E ws sz)) (va_Qv (fun (_ : Unit) => True) (fun _ t => va_P (rf_D E) vwCl ws' t.heap) (va_A ws sz)) 0 0 (va_A ws sz)
theorem rf_blind {E : rf_E} {av : List Value} {ws : va_W} {sz : Nat} : FrameBlind (va_Pc av (rf_PW E ws sz)) := fun a U g mk q => ⟨q.1, q.2.1, q.2.2.1, q.2.2.2.1.calling g mk a, q.2.2.2.2⟩
theorem rf_ofI {l : Launch} {y : MethodName} {cc : ByteArray} {maxL : Nat} {ret : Option FieldType} {rm : Room} {E : rf_E} {av : List Value} {ws : va_W} {r : Int32} {ws' : va_W} (hy : plainName y.cls = true) (hlen : (lg_sl av).length ≤ maxL)
    (body : ∀ (p : Program) (e : Env) (s : State) (m : MethodId) (below : List Frame) (meth : Method) (c : Code) (A0 : Nat → Prop) (ls : Array Slot), rf_C p E s m av.toArray meth c cc maxL y.cls ret A0 → va_D A0 ws → va_P (rf_D E) vwCl ws s.heap → va_S A0 s.heap s.heap [] → lv_has ls maxL (lv_args 0 av) →
      W p l e rm s m av.toArray below meth c s.heap [] 0 0 (rf_QI below av.toArray s E A0 r ws') (F0 m 0 ls [])) : rf_MI l y cc maxL ret rm E av ws r ws' := by
  intro sz
  refine Met.ofW (cc := cc) (maxL := maxL) (ret := ret) hy rfl ?_
  intro p e s m args below meth c s₁ B hml hv
  obtain ⟨rfl, hsz, hP, hK, hD0⟩ := hv
  subst hsz
  have hts := atoms_spec (ws := Cond.code y cc maxL ret :: rf_gt) B.pre
  rw [lg_entry_eq]
  exact body p e s m below meth c _ _ ⟨B.exec, B.bytes, hml, findClass_of_methodNamed B.named, fun w hw => hts w (List.mem_cons_of_mem _ hw), B.returns, B.notSynchronized, hK, fun q h => Or.inr h⟩ hD0.self hP va_S.rf (lv_entry av hlen)
theorem rf_ofV {l : Launch} {y : MethodName} {cc : ByteArray} {maxL : Nat} {rm : Room} {E : rf_E} {av : List Value} {ws : va_W} {ws' : va_W} (hy : plainName y.cls = true) (hlen : (lg_sl av).length ≤ maxL)
    (body : ∀ (p : Program) (e : Env) (s : State) (m : MethodId) (below : List Frame) (meth : Method) (c : Code) (A0 : Nat → Prop) (ls : Array Slot), rf_C p E s m av.toArray meth c cc maxL y.cls none A0 → va_D A0 ws → va_P (rf_D E) vwCl ws s.heap → va_S A0 s.heap s.heap [] → lv_has ls maxL (lv_args 0 av) →
      W p l e rm s m av.toArray below meth c s.heap [] 0 0 (rf_QV below av.toArray s E A0 ws') (F0 m 0 ls [])) : rf_MV l y cc maxL rm E av ws ws' := by
  intro sz
  refine Met.ofW (cc := cc) (maxL := maxL) (ret := none) hy rfl ?_
  intro p e s m args below meth c s₁ B hml hv
  obtain ⟨rfl, hsz, hP, hK, hD0⟩ := hv
  subst hsz
  have hts := atoms_spec (ws := Cond.code y cc maxL none :: rf_gt) B.pre
  rw [lg_entry_eq]
  exact body p e s m below meth c _ _ ⟨B.exec, B.bytes, hml, findClass_of_methodNamed B.named, fun w hw => hts w (List.mem_cons_of_mem _ hw), B.returns, B.notSynchronized, hK, fun q h => Or.inr h⟩ hD0.self hP va_S.rf (lv_entry av hlen)
section RFW
variable {p : Program} {l : Launch} {e : Env} {R : Room} {s : State} {m : MethodId} {args : Array Value} {below : List Frame} {meth : Method} {c : Code} {H : Heap} {locs : List Loc} {Q : State → Prop}
variable {cc : ByteArray} {nL pc : Nat} {ls : Array Slot} {rest st0 : List Value} {own : String} {ret : Option FieldType} {E : rf_E} {A0 : Nat → Prop} {ws ws' : va_W}
/-! ends -/
theorem rf_reti (hC : rf_C p E s m args meth c cc nL own (some .int) A0) (hP : va_P (rf_D E) vwCl ws H) (hS : va_S A0 s.heap H locs) {v r : Int32} (hv : v = r) (hw : ws = ws') (hdg : decode cc pc = .ok (.ireturn, 1)) : W p l e R s m args below meth c H locs 0 0 (rf_QI below args s E A0 r ws') (F0 m pc ls [.int v]) := by
  subst hv; subst hw
  exact W.iret hC.1 hC.2.1 hC.2.2.2.2.2.1 (fun t ht hW => ⟨⟨v, (), rfl, rfl, by subst ht; exact hP⟩, hS.F ht⟩) hS.2.2 hdg hC.2.2.2.2.2.2.1
theorem rf_retz (hC : rf_C p E s m args meth c cc nL own (some .boolean) A0) (hP : va_P (rf_D E) vwCl ws H) (hS : va_S A0 s.heap H locs) {v r : Int32} (hz : rf_zb v = true) (hv : v = r) (hw : ws = ws') (hdg : decode cc pc = .ok (.ireturn, 1)) : W p l e R s m args below meth c H locs 0 0 (rf_QI below args s E A0 r ws') (F0 m pc ls [.int v]) := by
  subst hv; subst hw
  have hn : narrow .boolean (.int v) = .int v := by
    rcases (of_decide_eq_true hz : v = 0 ∨ v = 1) with h | h <;> (subst h; decide +kernel)
  exact W.zret hC.1 hC.2.1 hC.2.2.2.2.2.1 hn (fun t ht hW => ⟨⟨v, (), rfl, rfl, by subst ht; exact hP⟩, hS.F ht⟩) hS.2.2 hdg hC.2.2.2.2.2.2.1
theorem rf_retv (hC : rf_C p E s m args meth c cc nL own none A0) (hP : va_P (rf_D E) vwCl ws H) (hS : va_S A0 s.heap H locs) (hw : ws = ws') (hdg : decode cc pc = .ok (.return_, 1)) : W p l e R s m args below meth c H locs 0 0 (rf_QV below args s E A0 ws') (F0 m pc ls []) := by
  subst hw
  exact W.vret hC.1 hC.2.1 hC.2.2.2.2.2.1 (fun t ht hW => ⟨⟨(), rfl, trivial, by subst ht; exact hP⟩, hS.F ht⟩) hS.2.2 hdg hC.2.2.2.2.2.2.1
/-! calls -/
abbrev rf_kV (C : String) (y : MethodName) (bytes : ByteArray) (maxL : Nat) (ret : Option FieldType) (n : Nat) : Prop := Cond.instanceMethod y ∈ rf_gt ∧ Cond.selects C y y ∈ rf_gt ∧ Cond.initialized C ∈ rf_gt ∧ Cond.code y bytes maxL ret ∈ rf_gt ∧ (y.cls = C ∧ y.cls ≠ "java/lang/invoke/MethodHandle" ∧ y.cls ≠ "java/lang/invoke/VarHandle" ∧ (parseMethodDescriptor y.desc).map (fun d => d.parameters.length) = some n)
abbrev rf_kS (y : MethodName) (bytes : ByteArray) (maxL : Nat) (ret : Option FieldType) (n : Nat) : Prop := Cond.static y ∈ rf_gt ∧ Cond.initialized y.cls ∈ rf_gt ∧ Cond.code y bytes maxL ret ∈ rf_gt ∧ (y.cls ≠ "java/lang/invoke/MethodHandle" ∧ y.cls ≠ "java/lang/invoke/VarHandle" ∧ (parseMethodDescriptor y.desc).map (fun d => d.parameters.length) = some n)
theorem rf_goodc {w : Cond} (h : w ∈ rf_gt) : GoodIn rf_gt (w :: rf_gt) := fun v hv => (List.mem_cons.mp hv).elim (fun e => by rw [e]; exact ⟨h, rf_gg h⟩) (fun h => ⟨h, rf_gg h⟩)
theorem rf_cwV {C : String} {index : Nat} {y : MethodName} {bytes : ByteArray} {maxL n : Nat} {rt : Option FieldType} {rm : Room} (hC : rf_C p E s m args meth c cc nL own ret A0) (hk : rf_kV C y bytes maxL rt n) (hl : Cond.methodLink own index y ∈ rf_gt) (h0 : rm.cells = 0) (h1 : rm.slots = 0) (hR : rm.frames + 1 ≤ R.frames ∧ 8 + (maxL + 11) + rm.locals ≤ R.locals) : CallW R s args own C index y bytes maxL rt (Cond.code y bytes maxL rt :: rf_gt) rm 0 0 n := by
  refine cwV n hC.2.2.2.2.1 ?_ rfl h0 h1 hk.2.2.2.2 hR
  intro w hw
  unfold wsV at hw
  rcases List.mem_append.mp hw with hw | hw
  · have hg : w ∈ rf_gt := by
      simp only [List.mem_cons, List.not_mem_nil, or_false] at hw
      rcases hw with h | h | h | h <;> rw [h]
      · exact hl
      · exact hk.1
      · exact hk.2.1
      · exact hk.2.2.1
    exact ⟨hg, rf_gg hg⟩
  · exact rf_goodc hk.2.2.2.1 w hw
theorem rf_cwS {index : Nat} {y : MethodName} {bytes : ByteArray} {maxL n : Nat} {rt : Option FieldType} {rm : Room} (hC : rf_C p E s m args meth c cc nL own ret A0) (hk : rf_kS y bytes maxL rt n) (hl : Cond.methodLink own index y ∈ rf_gt) (h0 : rm.cells = 0) (h1 : rm.slots = 0) (hR : rm.frames + 1 ≤ R.frames ∧ 8 + (maxL + 11) + rm.locals ≤ R.locals) : CallB R s args own index y bytes maxL rt (Cond.code y bytes maxL rt :: rf_gt) rm 0 0 n ∧ (Cond.static y).before args s = true := by
  refine va_cwS n hC.2.2.2.2.1 ?_ rfl h0 h1 hk.2.2.2 hR
  intro w hw
  unfold va_wsS at hw
  rcases List.mem_append.mp hw with hw | hw
  · have hg : w ∈ rf_gt := by
      simp only [List.mem_cons, List.not_mem_nil, or_false] at hw
      rcases hw with h | h | h <;> rw [h]
      · exact hl
      · exact hk.1
      · exact hk.2.1
    exact ⟨hg, rf_gg hg⟩
  · exact rf_goodc hk.2.2.1 w hw
theorem rf_cwSN {host : String} {index : Nat} {y : MethodName} {bytes : ByteArray} {maxL n : Nat} {rt : Option FieldType} {rm : Room} (hC : rf_C p E s m args meth c cc nL own ret A0) (hk : rf_kS y bytes maxL rt n) (hl : Cond.methodLinkNest own index y host ∈ rf_nw) (h0 : rm.cells = 0) (h1 : rm.slots = 0) (hR : rm.frames + 1 ≤ R.frames ∧ 8 + (maxL + 11) + rm.locals ≤ R.locals) : va_CN R s args own index y host bytes maxL rt (Cond.code y bytes maxL rt :: rf_gt) rm 0 0 n ∧ (Cond.static y).before args s = true ∧ True :=
  ⟨va_cnB n hC.2.2.2.2.1 (rf_goodc hk.2.2.1) rfl h0 h1 (hC.2.2.2.2.2.2.2.1.2.1 _ hl) (hC.2.2.2.2.1 _ hk.2.1) hk.2.2.2 hR, hC.2.2.2.2.1 _ hk.1, trivial⟩
theorem rf_pre {As : List Value} (hC : rf_C p E s m args meth c cc nL own ret A0) (hP : va_P (rf_D E) vwCl ws H) (hD : va_D A0 ws) (hS : va_S A0 s.heap H locs) : PreS s H (va_Pc As (rf_PW E ws H.size)) As :=
  ⟨rf_blind, fun U hU hW => ⟨rfl, by rw [hU], by rw [hU]; exact hP, hC.2.2.2.2.2.2.2.1.call hS hU hW (fun q hq => hq.elim (fun ⟨k, e, h⟩ => hD.2 k _ h) (fun h => hC.2.2.2.2.2.2.2.2 q (Nat.le_trans hS.1 h))), hD.weaken (fun _ _ _ _ => trivial)⟩⟩
theorem rf_sub (hC : rf_C p E s m args meth c cc nL own ret A0) (hD : va_D A0 ws) (hS : va_S A0 s.heap H locs) : ∀ q, va_A ws H.size q → A0 q := fun q hq => hq.elim (fun ⟨k, e, h⟩ => hD.2 k _ h) (fun h => hC.2.2.2.2.2.2.2.2 q (Nat.le_trans hS.1 h))
/-- a virtual call over the whole world, answering an int -/
theorem rf_vi {C : String} {index q0 ci b n : Nat} {y : MethodName} {bytes : ByteArray} {maxL : Nat} {rt : Option FieldType} {rm : Room} {As : List Value} {r : Int32} {fs : List Value} {qc : vw_C} (hC : rf_C p E s m args meth c cc nL own ret A0) (hM : rf_MI l y bytes maxL rt rm E (.ref b :: As) ws r ws') (hk : rf_kV C y bytes maxL rt n) (hl : Cond.methodLink own index y ∈ rf_gt) (hR : rm.frames + 1 ≤ R.frames ∧ 8 + (maxL + 11) + rm.locals ≤ R.locals) (h0 : rm.cells = 0) (h1 : rm.slots = 0) (hq : ws[q0]? = some (b, .inr (ci, fs))) (hc : vwCl[ci]? = some qc) (hqc : qc.1 = C)
    (hP : va_P (rf_D E) vwCl ws H) (hD : va_D A0 ws) (hS : va_S A0 s.heap H locs) (hn : As.length = n) (hls : ls.size = nL) (hst : st0 = As.reverse ++ .ref b :: rest) (hr : (rest.map fun v => v.category).sum ≤ 8) (hdg : decode cc pc = .ok (.invokevirtual index, 3))
    (kk : ∀ (H1 : Heap) (locs1 : List Loc), va_P (rf_D E) vwCl ws' H1 → va_S A0 s.heap H1 locs1 → W p l e R s m args below meth c H1 locs1 0 0 Q (F0 m (pc + 3) ls (.int r :: rest))) : W p l e R s m args below meth c H locs 0 0 Q (F0 m pc ls st0) := by
  subst hst; subst hqc
  have hp := rf_pre (As := .ref b :: As) hC hP hD hS
  refine va_calli (va_runV (Ts := rf_gt) ⟨hC.1, hC.2.1, hC.2.2.1, hC.2.2.2.1, hC.2.2.2.2.1⟩ (hM H.size) (rf_cwV hC hk hl h0 h1 hR) ⟨hp.1, va_recv hC.2.2.2.2.2.2.2.1.1 hP hc hq, hp.2⟩ rfl hn hls rfl (lv_room hr) hdg ⟨Nat.zero_le _, Nat.zero_le _⟩) hS (fun q _ h => rf_sub hC hD hS q h) (rf_sub hC hD hS) ?_
  intro r1 u t H1 locs1 ht hvm hp1 hB hz hk1 hS1
  subst hp1
  exact kk H1 locs1 (by rw [← ht]; exact hB) hS1
theorem rf_vv {C : String} {index q0 ci b n : Nat} {y : MethodName} {bytes : ByteArray} {maxL : Nat} {rm : Room} {As : List Value} {fs : List Value} {qc : vw_C} (hC : rf_C p E s m args meth c cc nL own ret A0) (hM : rf_MV l y bytes maxL rm E (.ref b :: As) ws ws') (hk : rf_kV C y bytes maxL none n) (hl : Cond.methodLink own index y ∈ rf_gt) (hR : rm.frames + 1 ≤ R.frames ∧ 8 + (maxL + 11) + rm.locals ≤ R.locals) (h0 : rm.cells = 0) (h1 : rm.slots = 0) (hq : ws[q0]? = some (b, .inr (ci, fs))) (hc : vwCl[ci]? = some qc) (hqc : qc.1 = C)
    (hP : va_P (rf_D E) vwCl ws H) (hD : va_D A0 ws) (hS : va_S A0 s.heap H locs) (hn : As.length = n) (hls : ls.size = nL) (hst : st0 = As.reverse ++ .ref b :: rest) (hr : (rest.map fun v => v.category).sum ≤ 8) (hdg : decode cc pc = .ok (.invokevirtual index, 3))
    (kk : ∀ (H1 : Heap) (locs1 : List Loc), va_P (rf_D E) vwCl ws' H1 → va_S A0 s.heap H1 locs1 → W p l e R s m args below meth c H1 locs1 0 0 Q (F0 m (pc + 3) ls rest)) : W p l e R s m args below meth c H locs 0 0 Q (F0 m pc ls st0) := by
  subst hst; subst hqc
  have hp := rf_pre (As := .ref b :: As) hC hP hD hS
  refine va_callv (va_runV (Ts := rf_gt) ⟨hC.1, hC.2.1, hC.2.2.1, hC.2.2.2.1, hC.2.2.2.2.1⟩ (hM H.size) (rf_cwV hC hk hl h0 h1 hR) ⟨hp.1, va_recv hC.2.2.2.2.2.2.2.1.1 hP hc hq, hp.2⟩ rfl hn hls rfl (lv_room hr) hdg ⟨Nat.zero_le _, Nat.zero_le _⟩) hS (fun q _ h => rf_sub hC hD hS q h) (rf_sub hC hD hS) ?_
  intro u t H1 locs1 ht hvm hp1 hB hz hk1 hS1
  exact kk H1 locs1 (by rw [← ht]; exact hB) hS1
/-- a static call over the whole world -/
theorem rf_si {index n : Nat} {y : MethodName} {bytes : ByteArray} {maxL : Nat} {rt : Option FieldType} {rm : Room} {As : List Value} {r : Int32} (hC : rf_C p E s m args meth c cc nL own ret A0) (hM : rf_MI l y bytes maxL rt rm E As ws r ws') (hk : rf_kS y bytes maxL rt n) (hl : Cond.methodLink own index y ∈ rf_gt) (hR : rm.frames + 1 ≤ R.frames ∧ 8 + (maxL + 11) + rm.locals ≤ R.locals) (h0 : rm.cells = 0) (h1 : rm.slots = 0)
    (hP : va_P (rf_D E) vwCl ws H) (hD : va_D A0 ws) (hS : va_S A0 s.heap H locs) (hn : As.length = n) (hls : ls.size = nL) (hst : st0 = As.reverse ++ rest) (hr : (rest.map fun v => v.category).sum ≤ 8) (hdg : decode cc pc = .ok (.invokestatic index, 3))
    (kk : ∀ (H1 : Heap) (locs1 : List Loc), va_P (rf_D E) vwCl ws' H1 → va_S A0 s.heap H1 locs1 → W p l e R s m args below meth c H1 locs1 0 0 Q (F0 m (pc + 3) ls (.int r :: rest))) : W p l e R s m args below meth c H locs 0 0 Q (F0 m pc ls st0) := by
  subst hst
  have hp := rf_pre (As := As) hC hP hD hS
  refine va_calli (va_runS (Ts := rf_gt) ⟨hC.1, hC.2.1, hC.2.2.1, hC.2.2.2.1, hC.2.2.2.2.1⟩ (hM H.size) (rf_cwS hC hk hl h0 h1 hR) hp rfl hn hls rfl (lv_room hr) hdg ⟨Nat.zero_le _, Nat.zero_le _⟩) hS (fun q _ h => rf_sub hC hD hS q h) (rf_sub hC hD hS) ?_
  intro r1 u t H1 locs1 ht hvm hp1 hB hz hk1 hS1
  subst hp1
  exact kk H1 locs1 (by rw [← ht]; exact hB) hS1
theorem rf_sn1 {host : String} {index n : Nat} {y : MethodName} {bytes : ByteArray} {maxL : Nat} {rt : Option FieldType} {rm : Room} {As : List Value} {r : Int32} (hC : rf_C p E s m args meth c cc nL own ret A0) (hM : rf_MI l y bytes maxL rt rm E As ws r ws') (hk : rf_kS y bytes maxL rt n) (hl : Cond.methodLinkNest own index y host ∈ rf_nw) (hR : rm.frames + 1 ≤ R.frames ∧ 8 + (maxL + 11) + rm.locals ≤ R.locals) (h0 : rm.cells = 0) (h1 : rm.slots = 0)
    (hP : va_P (rf_D E) vwCl ws H) (hD : va_D A0 ws) (hS : va_S A0 s.heap H locs) (hn : As.length = n) (hls : ls.size = nL) (hst : st0 = As.reverse ++ rest) (hr : (rest.map fun v => v.category).sum ≤ 8) (hdg : decode cc pc = .ok (.invokestatic index, 3))
    (kk : ∀ (H1 : Heap) (locs1 : List Loc), va_P (rf_D E) vwCl ws' H1 → va_S A0 s.heap H1 locs1 → W p l e R s m args below meth c H1 locs1 0 0 Q (F0 m (pc + 3) ls (.int r :: rest))) : W p l e R s m args below meth c H locs 0 0 Q (F0 m pc ls st0) := by
  subst hst
  have hp := rf_pre (As := As) hC hP hD hS
  refine va_calli (va_runSN (Ts := rf_gt) ⟨hC.1, hC.2.1, hC.2.2.1, hC.2.2.2.1, hC.2.2.2.2.1⟩ (hM H.size) (rf_cwSN hC hk hl h0 h1 hR) hp rfl hn hls rfl (lv_room hr) hdg ⟨Nat.zero_le _, Nat.zero_le _⟩) hS (fun q _ h => rf_sub hC hD hS q h) (rf_sub hC hD hS) ?_
  intro r1 u t H1 locs1 ht hvm hp1 hB hz hk1 hS1
  subst hp1
  exact kk H1 locs1 (by rw [← ht]; exact hB) hS1
/-- calls of methods that look at no cell: the contract is over the empty world -/
theorem rf_D0 : va_D A0 [] := ⟨fun i j p q h => by simp at h, fun k q h => by simp at h⟩
theorem rf_P0 : va_P (rf_D E) vwCl [] H := fun k q h => by simp at h
theorem rf_keep0 {H1 : Heap} (hP : va_P (rf_D E) vwCl ws H) (h : ∀ q : Nat, q < H.size → ¬ va_A [] H.size q → H1[q]? = H[q]?) : va_P (rf_D E) vwCl ws H1 :=
  hP.kept (fun k q hq => h q.1 (hP k q hq).lt (fun hx => hx.elim (fun ⟨k, e, hk⟩ => by simp at hk) (fun h2 => absurd (hP k q hq).lt (Nat.not_lt.mpr h2))))
theorem rf_si0 {index n : Nat} {y : MethodName} {bytes : ByteArray} {maxL : Nat} {rt : Option FieldType} {rm : Room} {As : List Value} {r : Int32} (hC : rf_C p E s m args meth c cc nL own ret A0) (hM : rf_MI l y bytes maxL rt rm E As [] r []) (hk : rf_kS y bytes maxL rt n) (hl : Cond.methodLink own index y ∈ rf_gt) (hR : rm.frames + 1 ≤ R.frames ∧ 8 + (maxL + 11) + rm.locals ≤ R.locals) (h0 : rm.cells = 0) (h1 : rm.slots = 0)
    (hP : va_P (rf_D E) vwCl ws H) (hS : va_S A0 s.heap H locs) (hn : As.length = n) (hls : ls.size = nL) (hst : st0 = As.reverse ++ rest) (hr : (rest.map fun v => v.category).sum ≤ 8) (hdg : decode cc pc = .ok (.invokestatic index, 3))
    (kk : ∀ (H1 : Heap) (locs1 : List Loc), va_P (rf_D E) vwCl ws H1 → va_S A0 s.heap H1 locs1 → W p l e R s m args below meth c H1 locs1 0 0 Q (F0 m (pc + 3) ls (.int r :: rest))) : W p l e R s m args below meth c H locs 0 0 Q (F0 m pc ls st0) := by
  subst hst
  have hp := rf_pre (As := As) (ws := []) hC rf_P0 rf_D0 hS
  refine va_calli (va_runS (Ts := rf_gt) ⟨hC.1, hC.2.1, hC.2.2.1, hC.2.2.2.1, hC.2.2.2.2.1⟩ (hM H.size) (rf_cwS hC hk hl h0 h1 hR) hp rfl hn hls rfl (lv_room hr) hdg ⟨Nat.zero_le _, Nat.zero_le _⟩) hS (fun q _ h => rf_sub hC rf_D0 hS q h) (rf_sub hC rf_D0 hS) ?_
  intro r1 u t H1 locs1 ht hvm hp1 hB hz hk1 hS1
  subst hp1
  exact kk H1 locs1 (rf_keep0 hP hk1) hS1
theorem rf_sn0 {host : String} {index n : Nat} {y : MethodName} {bytes : ByteArray} {maxL : Nat} {rt : Option FieldType} {rm : Room} {As : List Value} {r : Int32} (hC : rf_C p E s m args meth c cc nL own ret A0) (hM : rf_MI l y bytes maxL rt rm E As [] r []) (hk : rf_kS y bytes maxL rt n) (hl : Cond.methodLinkNest own index y host ∈ rf_nw) (hR : rm.frames + 1 ≤ R.frames ∧ 8 + (maxL + 11) + rm.locals ≤ R.locals) (h0 : rm.cells = 0) (h1 : rm.slots = 0)
    (hP : va_P (rf_D E) vwCl ws H) (hS : va_S A0 s.heap H locs) (hn : As.length = n) (hls : ls.size = nL) (hst : st0 = As.reverse ++ rest) (hr : (rest.map fun v => v.category).sum ≤ 8) (hdg : decode cc pc = .ok (.invokestatic index, 3))
    (kk : ∀ (H1 : Heap) (locs1 : List Loc), va_P (rf_D E) vwCl ws H1 → va_S A0 s.heap H1 locs1 → W p l e R s m args below meth c H1 locs1 0 0 Q (F0 m (pc + 3) ls (.int r :: rest))) : W p l e R s m args below meth c H locs 0 0 Q (F0 m pc ls st0) := by
  subst hst
  have hp := rf_pre (As := As) (ws := []) hC rf_P0 rf_D0 hS
  refine va_calli (va_runSN (Ts := rf_gt) ⟨hC.1, hC.2.1, hC.2.2.1, hC.2.2.2.1, hC.2.2.2.2.1⟩ (hM H.size) (rf_cwSN hC hk hl h0 h1 hR) hp rfl hn hls rfl (lv_room hr) hdg ⟨Nat.zero_le _, Nat.zero_le _⟩) hS (fun q _ h => rf_sub hC rf_D0 hS q h) (rf_sub hC rf_D0 hS) ?_
  intro r1 u t H1 locs1 ht hvm hp1 hB hz hk1 hS1
  subst hp1
  exact kk H1 locs1 (rf_keep0 hP hk1) hS1
end RFW
