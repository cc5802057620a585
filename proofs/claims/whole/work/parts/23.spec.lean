/-! switches: outside of the table -/
theorem rf_tout_2_7 {x : Int32} (h0 : ¬ x = 2) (h1 : ¬ x = 3) (h2 : ¬ x = 4) (h3 : ¬ x = 5) (h4 : ¬ x = 6) (h5 : ¬ x = 7) (h6 : ¬ x = 8) : x.toInt < 2 ∨ 8 < x.toInt := by
  have g0 := lv_neT (a := 2) h0 (by decide)
  have g1 := lv_neT (a := 3) h1 (by decide)
  have g2 := lv_neT (a := 4) h2 (by decide)
  have g3 := lv_neT (a := 5) h3 (by decide)
  have g4 := lv_neT (a := 6) h4 (by decide)
  have g5 := lv_neT (a := 7) h5 (by decide)
  have g6 := lv_neT (a := 8) h6 (by decide)
  omega
theorem rf_tout_1_7 {x : Int32} (h0 : ¬ x = 1) (h1 : ¬ x = 2) (h2 : ¬ x = 3) (h3 : ¬ x = 4) (h4 : ¬ x = 5) (h5 : ¬ x = 6) (h6 : ¬ x = 7) : x.toInt < 1 ∨ 7 < x.toInt := by
  have g0 := lv_neT (a := 1) h0 (by decide)
  have g1 := lv_neT (a := 2) h1 (by decide)
  have g2 := lv_neT (a := 3) h2 (by decide)
  have g3 := lv_neT (a := 4) h3 (by decide)
  have g4 := lv_neT (a := 5) h4 (by decide)
  have g5 := lv_neT (a := 6) h5 (by decide)
  have g6 := lv_neT (a := 7) h6 (by decide)
  omega
theorem rf_tout_0_4 {x : Int32} (h0 : ¬ x = 0) (h1 : ¬ x = 1) (h2 : ¬ x = 2) (h3 : ¬ x = 3) : x.toInt < 0 ∨ 3 < x.toInt := by
  have g0 := lv_neT (a := 0) h0 (by decide)
  have g1 := lv_neT (a := 1) h1 (by decide)
  have g2 := lv_neT (a := 2) h2 (by decide)
  have g3 := lv_neT (a := 3) h3 (by decide)
  omega
theorem rf_tout_0_13 {x : Int32} (h0 : ¬ x = 0) (h1 : ¬ x = 1) (h2 : ¬ x = 2) (h3 : ¬ x = 3) (h4 : ¬ x = 4) (h5 : ¬ x = 5) (h6 : ¬ x = 6) (h7 : ¬ x = 7) (h8 : ¬ x = 8) (h9 : ¬ x = 9) (h10 : ¬ x = 10) (h11 : ¬ x = 11) (h12 : ¬ x = 12) : x.toInt < 0 ∨ 12 < x.toInt := by
  have g0 := lv_neT (a := 0) h0 (by decide)
  have g1 := lv_neT (a := 1) h1 (by decide)
  have g2 := lv_neT (a := 2) h2 (by decide)
  have g3 := lv_neT (a := 3) h3 (by decide)
  have g4 := lv_neT (a := 4) h4 (by decide)
  have g5 := lv_neT (a := 5) h5 (by decide)
  have g6 := lv_neT (a := 6) h6 (by decide)
  have g7 := lv_neT (a := 7) h7 (by decide)
  have g8 := lv_neT (a := 8) h8 (by decide)
  have g9 := lv_neT (a := 9) h9 (by decide)
  have g10 := lv_neT (a := 10) h10 (by decide)
  have g11 := lv_neT (a := 11) h11 (by decide)
  have g12 := lv_neT (a := 12) h12 (by decide)
  omega
theorem rf_max : Cond.static Lib.Math.max.name ∈ rf_gt ∧ Cond.initialized "java/lang/Math" ∈ rf_gt ∧ Cond.code Lib.Math.max.name Lib.Math.max.code 2 (some .int) ∈ rf_gt := ⟨rf_gm 313 (by decide +kernel) rfl, rf_gm 11 (by decide +kernel) rfl, rf_gm 314 (by decide +kernel) rfl⟩
theorem rf_min : Cond.static Lib.Math.min.name ∈ rf_gt ∧ Cond.initialized "java/lang/Math" ∈ rf_gt ∧ Cond.code Lib.Math.min.name Lib.Math.min.code 2 (some .int) ∈ rf_gt := ⟨rf_gm 471 (by decide +kernel) rfl, rf_gm 11 (by decide +kernel) rfl, rf_gm 472 (by decide +kernel) rfl⟩

/-! calls over a part of the world -/
theorem rf_back {D : va_G} {cl : List vw_C} {ws wc wc' ws' : va_W} {H H1 : Heap} (hP : va_P D cl ws H) (hP1 : va_P D cl wc' H1) (hk : ∀ x : Nat, x < H.size → ¬ va_A wc H.size x → H1[x]? = H[x]?) (hc : ∀ (j : Nat) (q : Nat × va_E), ws'[j]? = some q → (∃ i : Nat, wc'[i]? = some q) ∨ (ws[j]? = some q ∧ ∀ (i : Nat) (r : Nat × va_E), wc[i]? = some r → r.1 ≠ q.1)) : va_P D cl ws' H1 := by
  intro j q hq
  rcases hc j q hq with ⟨i, hi⟩ | ⟨h1, h2⟩
  · exact hP1 i q hi
  · have hl := (hP j q h1).lt
    refine (hP j q h1).kept (hk q.1 hl ?_)
    rintro (⟨k, e, h⟩ | h)
    · exact h2 k _ h rfl
    · exact absurd hl (Nat.not_lt.mpr h)
section RFP
variable {p : Program} {l : Launch} {e : Env} {R : Room} {s : State} {m : MethodId} {args : Array Value} {below : List Frame} {meth : Method} {c : Code} {H : Heap} {locs : List Loc} {Q : State → Prop}
variable {cc : ByteArray} {nL pc : Nat} {ls : Array Slot} {rest st0 : List Value} {own : String} {ret : Option FieldType} {E : rf_E} {A0 : Nat → Prop} {ws ws' : va_W}
theorem rf_rett {ty : FieldType} (hC : rf_C p E s m args meth c cc nL own (some ty) A0) (hP : va_P (rf_D E) vwCl ws H) (hS : va_S A0 s.heap H locs) {v r : Int32} (hn : narrow ty (.int v) = .int v) (hv : v = r) (hw : ws = ws') (hdg : decode cc pc = .ok (.ireturn, 1)) : W p l e R s m args below meth c H locs 0 0 (rf_QI below args s E A0 r ws') (F0 m pc ls [.int v]) := by
  subst hv; subst hw
  exact W.zret hC.1 hC.2.1 hC.2.2.2.2.2.1 hn (fun t ht hW => ⟨⟨v, (), rfl, rfl, by subst ht; exact hP⟩, hS.F ht⟩) hS.2.2 hdg hC.2.2.2.2.2.2.1
theorem rf_set1 {q b : Nat} {e0 : va_E} (hD : va_D A0 ws) (hq : ws[q]? = some (b, e0)) (e1 : va_E) (j : Nat) (r : Nat × va_E) (hj : (ws.set q (b, e1))[j]? = some r) : (j = q ∧ r = (b, e1)) ∨ (j ≠ q ∧ ws[j]? = some r ∧ b ≠ r.1) := by
  by_cases h : j = q
  · subst h
    have hl : j < ws.length := (List.getElem?_eq_some_iff.mp hq).1
    rw [List.getElem?_set_self hl] at hj
    exact Or.inl ⟨rfl, (Option.some.inj hj).symm⟩
  · rw [List.getElem?_set_ne (Ne.symm h)] at hj
    exact Or.inr ⟨h, hj, fun e => h (hD.1 j q r (b, e0) hj hq e.symm)⟩
theorem rf_sv1 {index n q b : Nat} {y : MethodName} {bytes : ByteArray} {maxL : Nat} {rm : Room} {As : List Value} {e0 e1 : va_E} (hC : rf_C p E s m args meth c cc nL own ret A0) (hM : rf_MV l y bytes maxL rm E As [(b, e0)] [(b, e1)]) (hk : rf_kS y bytes maxL none n) (hl : Cond.methodLink own index y ∈ rf_gt) (hR : rm.frames + 1 ≤ R.frames ∧ 8 + (maxL + 11) + rm.locals ≤ R.locals) (h0 : rm.cells = 0) (h1 : rm.slots = 0) (hq : ws[q]? = some (b, e0))
    (hP : va_P (rf_D E) vwCl ws H) (hD : va_D A0 ws) (hS : va_S A0 s.heap H locs) (hn : As.length = n) (hls : ls.size = nL) (hst : st0 = As.reverse ++ rest) (hr : (rest.map fun v => v.category).sum ≤ 8) (hdg : decode cc pc = .ok (.invokestatic index, 3))
    (kk : ∀ (H1 : Heap) (locs1 : List Loc), va_P (rf_D E) vwCl (ws.set q (b, e1)) H1 → va_S A0 s.heap H1 locs1 → W p l e R s m args below meth c H1 locs1 0 0 Q (F0 m (pc + 3) ls rest)) : W p l e R s m args below meth c H locs 0 0 Q (F0 m pc ls st0) := by
  subst hst
  have hPc : va_P (rf_D E) vwCl [(b, e0)] H := hP.sub [q] (by simp [hq])
  have hDc : va_D A0 [(b, e0)] := hD.sub [q] rfl (by simp [hq])
  have hp := rf_pre (As := As) hC hPc hDc hS
  refine va_callv (va_runS (Ts := rf_gt) ⟨hC.1, hC.2.1, hC.2.2.1, hC.2.2.2.1, hC.2.2.2.2.1⟩ (hM H.size) (rf_cwS hC hk hl h0 h1 hR) hp rfl hn hls rfl (lv_room hr) hdg ⟨Nat.zero_le _, Nat.zero_le _⟩) hS (fun q _ h => rf_sub hC hDc hS q h) (rf_sub hC hDc hS) ?_
  intro u t H1 locs1 ht hvm hp1 hB hz hk1 hS1
  refine kk H1 locs1 (rf_back hP (by rw [← ht]; exact hB) hk1 ?_) hS1
  intro j r hj
  rcases rf_set1 hD hq e1 j r hj with ⟨-, rfl⟩ | ⟨-, g1, g2⟩
  · exact Or.inl ⟨0, rfl⟩
  · refine Or.inr ⟨g1, fun i x hx => ?_⟩
    cases i with
    | zero => cases hx; exact g2
    | succ i => simp at hx
theorem rf_sv2 {index n q1 q b1 b : Nat} {y : MethodName} {bytes : ByteArray} {maxL : Nat} {rm : Room} {As : List Value} {es e0 e1 : va_E} (hC : rf_C p E s m args meth c cc nL own ret A0) (hM : rf_MV l y bytes maxL rm E As [(b1, es), (b, e0)] [(b1, es), (b, e1)]) (hk : rf_kS y bytes maxL none n) (hl : Cond.methodLink own index y ∈ rf_gt) (hR : rm.frames + 1 ≤ R.frames ∧ 8 + (maxL + 11) + rm.locals ≤ R.locals) (h0 : rm.cells = 0) (h1 : rm.slots = 0) (hq1 : ws[q1]? = some (b1, es)) (hq : ws[q]? = some (b, e0)) (hne : q1 ≠ q)
    (hP : va_P (rf_D E) vwCl ws H) (hD : va_D A0 ws) (hS : va_S A0 s.heap H locs) (hn : As.length = n) (hls : ls.size = nL) (hst : st0 = As.reverse ++ rest) (hr : (rest.map fun v => v.category).sum ≤ 8) (hdg : decode cc pc = .ok (.invokestatic index, 3))
    (kk : ∀ (H1 : Heap) (locs1 : List Loc), va_P (rf_D E) vwCl (ws.set q (b, e1)) H1 → va_S A0 s.heap H1 locs1 → W p l e R s m args below meth c H1 locs1 0 0 Q (F0 m (pc + 3) ls rest)) : W p l e R s m args below meth c H locs 0 0 Q (F0 m pc ls st0) := by
  subst hst
  have hPc : va_P (rf_D E) vwCl [(b1, es), (b, e0)] H := hP.sub [q1, q] (by simp [hq, hq1])
  have hDc : va_D A0 [(b1, es), (b, e0)] := hD.sub [q1, q] (by simp [va_nd, hne]) (by simp [hq, hq1])
  have hp := rf_pre (As := As) hC hPc hDc hS
  refine va_callv (va_runS (Ts := rf_gt) ⟨hC.1, hC.2.1, hC.2.2.1, hC.2.2.2.1, hC.2.2.2.2.1⟩ (hM H.size) (rf_cwS hC hk hl h0 h1 hR) hp rfl hn hls rfl (lv_room hr) hdg ⟨Nat.zero_le _, Nat.zero_le _⟩) hS (fun q _ h => rf_sub hC hDc hS q h) (rf_sub hC hDc hS) ?_
  intro u t H1 locs1 ht hvm hp1 hB hz hk1 hS1
  refine kk H1 locs1 (rf_back hP (by rw [← ht]; exact hB) hk1 ?_) hS1
  intro j r hj
  rcases rf_set1 hD hq e1 j r hj with ⟨-, rfl⟩ | ⟨-, g1, g2⟩
  · exact Or.inl ⟨1, rfl⟩
  · by_cases hj1 : b1 = r.1
    · have : j = q1 := hD.1 j q1 r (b1, es) g1 hq1 hj1.symm
      subst this
      have : r = (b1, es) := Option.some.inj (g1.symm.trans hq1)
      subst this
      exact Or.inl ⟨0, rfl⟩
    · refine Or.inr ⟨g1, fun i x hx => ?_⟩
      cases i with
      | zero => cases hx; exact hj1
      | succ i =>
        cases i with
        | zero => cases hx; exact g2
        | succ i => simp at hx
end RFP

theorem kS_J7_fill_53178 : rf_kS yJ7_fill_53178 cJ7_fill_53178 4 (none) 2 := ⟨rf_gm 468 (by decide +kernel) rfl, rf_gm 14 (by decide +kernel) rfl, rf_gm 469 (by decide +kernel) rfl, by decide +kernel⟩
theorem kS_X11_copy : rf_kS yX11_copy cX11_copy 6 (none) 5 := ⟨rf_gm 1567 (by decide +kernel) rfl, rf_gm 13 (by decide +kernel) rfl, rf_gm 1568 (by decide +kernel) rfl, by decide +kernel⟩

theorem rf_fill_s (i : Nat) (v : Int32) (f : Nat → Int32) : upd (rf_fill i v f) i v = rf_fill (i + 1) v f := by
  funext k
  simp only [upd, rf_fill]
  by_cases h : k = i
  · subst h; simp
  · by_cases h2 : k < i
    · have : k < i + 1 := by omega
      simp [h, h2, this]
    · have : ¬ k < i + 1 := by omega
      simp [h, h2, this]
set_option maxHeartbeats 4000000 in
set_option maxRecDepth 100000 in
theorem w_fill {l : Launch} {p : Program} {e : Env} {R : Room} {s : State} {m : MethodId} {args : Array Value} {below : List Frame} {meth : Method} {c : Code} {A0 : Nat → Prop} {E : rf_E} {h n : Nat} {v : Int32} {f : Nat → Int32} (hC : rf_C p E s m args meth c cJ7_fill_53178 4 RJ7 none A0) (hn : n < 2 ^ 31) (hD : va_D A0 [(h, .inl (rf_cI E, n, .inl f))]) :
    ∀ (k i : Nat), i + k = n → ∀ (H : Heap) (locs : List Loc) (ls : Array Slot), va_P (rf_D E) vwCl [(h, .inl (rf_cI E, n, .inl (rf_fill i v f)))] H → va_S A0 s.heap H locs → lv_has ls 4 [(3, .int (nI n)), (2, .int (nI i)), (0, .ref h), (1, .int v)] →
      W p l e R s m args below meth c H locs 0 0 (rf_QV below args s E A0 [(h, .inl (rf_cI E, n, .inl (rf_fill n v f)))]) (F0 m 5 ls []) := by
  have hx := hC.1
  have hb := hC.2.1
  intro k
  induction k with
  | zero =>
    intro i hi H locs ls hP hS hl
    have hi : i = n := by omega
    subst hi
    refine lv_iload_n hx hb dJ7_fill_53178_5 rfl (lv_at hl 1 rfl) ?_
    refine lv_iload_n hx hb dJ7_fill_53178_6 rfl (lv_at hl 0 rfl) ?_
    refine lv_icmp_ge (tgt := 20) hx hb dJ7_fill_53178_7 (by decide) (fun _ => ?_) (fun c1 => absurd (nI_le (Nat.le_refl _) hn) c1)
    exact rf_retv hC hP hS rfl dJ7_fill_53178_20
  | succ k ih =>
    intro i hi H locs ls hP hS hl
    have hlt : i < n := by omega
    refine lv_iload_n hx hb dJ7_fill_53178_5 rfl (lv_at hl 1 rfl) ?_
    refine lv_iload_n hx hb dJ7_fill_53178_6 rfl (lv_at hl 0 rfl) ?_
    refine lv_icmp_ge (tgt := 20) hx hb dJ7_fill_53178_7 (by decide) (fun c1 => absurd c1 (nI_ge hlt hn)) (fun _ => ?_)
    refine lv_aload_n hx hb dJ7_fill_53178_10 rfl (lv_at hl 2 rfl) ?_
    refine lv_iload_n hx hb dJ7_fill_53178_11 rfl (lv_at hl 1 rfl) ?_
    refine lv_iload_n hx hb dJ7_fill_53178_12 rfl (lv_at hl 3 rfl) ?_
    refine va_iast hx hb hC.2.2.2.2.2.2.2.1.1 hP (rf_Dc (ws := [(h, .inl (rf_cI E, n, .inl f))]) rfl hD) hS 0 1 rfl rfl (vp_in_nI hlt hn) dJ7_fill_53178_13 (fun H locs hP _ hS => ?_)
    have hP : va_P (rf_D E) vwCl [(h, .inl (rf_cI E, n, .inl (rf_fill (i + 1) v f)))] H := by
      rw [← rf_fill_s]
      rw [nI_clamp (by omega)] at hP
      exact hP
    refine lv_iinc (v := nI (i + 1)) (lv' := [(2, .int (nI (i + 1))), (3, .int (nI n)), (0, .ref h), (1, .int v)]) hx hb dJ7_fill_53178_14 hl (k := 1) rfl (nI_1 i) (by decide) rfl (fun ls hl => ?_)
    refine lv_goto (tgt := 5) hx hb dJ7_fill_53178_17 (by decide) ?_
    exact ih (i + 1) (by omega) _ _ _ hP hS (lv_sub hl [1, 0, 2, 3] rfl)
set_option maxHeartbeats 4000000 in
set_option maxRecDepth 100000 in
theorem c_J7_fill (l : Launch) (E : rf_E) (h n : Nat) (v : Int32) (f : Nat → Int32) (hn : n < 2 ^ 31) : rf_MV l yJ7_fill_53178 cJ7_fill_53178 4 ({ frames := 0, cells := 0, slots := 0, locals := 0 }) E [.ref h, .int v] [(h, .inl (rf_cI E, n, .inl f))] [(h, .inl (rf_cI E, n, .inl (rf_fill n v f)))] := by
  refine rf_ofV (by decide) (Nat.le_of_ble_eq_true rfl) ?_
  intro p e s m below meth c A0 ls hC hD hP hS hl
  have hx := hC.1
  have hb := hC.2.1
  have hl : lv_has ls 4 [(0, .ref h), (1, .int v)] := hl
  refine lv_iconst (v := 0) hx hb dJ7_fill_53178_0 (by decide) ?_
  refine lv_istore_n (lv' := [(2, .int 0), (0, .ref h), (1, .int v)]) hx hb dJ7_fill_53178_1 rfl hl (by decide) rfl (fun ls hl => ?_)
  refine lv_aload_n hx hb dJ7_fill_53178_2 rfl (lv_at hl 1 rfl) ?_
  refine va_alen hx hb hC.2.2.2.2.2.2.2.1.1 hP 0 1 rfl rfl (v := nI n) rfl dJ7_fill_53178_3 ?_
  refine lv_istore_n (lv' := [(3, .int (nI n)), (2, .int 0), (0, .ref h), (1, .int v)]) hx hb dJ7_fill_53178_4 rfl hl (by decide) rfl (fun ls hl => ?_)
  have e0 : rf_fill 0 v f = f := by funext k; simp [rf_fill]
  exact w_fill hC hn hD n 0 (by omega) _ _ _ (by rw [e0]; exact hP) hS hl
theorem rf_cokT {sp dp n : Int32} {n0 n1 : Nat} (h : rf_cok sp dp n n0 n1 = true) : 0 ≤ sp.toInt ∧ 0 ≤ dp.toInt ∧ 0 ≤ n.toInt ∧ sp.toInt + n.toInt ≤ n0 ∧ dp.toInt + n.toInt ≤ n1 := of_decide_eq_true h
theorem rf_nonneg {x : Int32} (h : 0 ≤ x.toInt) : ¬ x < 0 := fun h2 => by
  have := Int32.lt_iff_toInt_lt.mp h2
  simp at this
  omega
theorem rf_toNat {x : Int32} (h : 0 ≤ x.toInt) : ((x.toNatClampNeg : Nat) : Int) = x.toInt := by
  show ((x.toInt.toNat : Nat) : Int) = x.toInt
  omega
theorem rf_nIof {x : Int32} (h : 0 ≤ x.toInt) : x = nI x.toNatClampNeg := by
  have hr := Int32.toInt_lt x
  have e := rf_toNat h
  apply Int32.toInt_inj.mp
  rw [nI_toInt (by omega)]
  exact e.symm
theorem rf_cpy_s (f g : Nat → Int32) (a b i : Nat) : upd (va_cpy f g a b i) (b + i) (f (a + i)) = va_cpy f g a b (i + 1) := by
  funext k
  simp only [upd, va_cpy]
  by_cases h : k = b + i
  · subst h
    simp
  · by_cases h2 : b ≤ k ∧ k < b + i
    · have : b ≤ k ∧ k < b + (i + 1) := by omega
      simp [h, h2, this]
    · have : ¬ (b ≤ k ∧ k < b + (i + 1)) := by omega
      simp only [if_neg h, if_neg h2, if_neg this]
theorem rf_cpy_0 (f g : Nat → Int32) (a b : Nat) : va_cpy f g a b 0 = g := by
  funext k
  have : ¬ (b ≤ k ∧ k < b + 0) := by omega
  simp only [va_cpy, if_neg this]
set_option maxHeartbeats 4000000 in
set_option maxRecDepth 100000 in
theorem w_copy {l : Launch} {p : Program} {e : Env} {R : Room} {s : State} {m : MethodId} {args : Array Value} {below : List Frame} {meth : Method} {c : Code} {A0 : Nat → Prop} {E : rf_E} {h1 h2 n1 n2 a b n : Nat} {f g : Nat → Int32} (hC : rf_C p E s m args meth c cX11_copy 6 RX11 none A0) (q1 : n1 < 2 ^ 30) (q2 : n2 < 2 ^ 30) (q3 : a + n ≤ n1) (q4 : b + n ≤ n2) (hD : va_D A0 [(h1, .inl (rf_cI E, n1, .inl f)), (h2, .inl (rf_cI E, n2, .inl g))]) :
    ∀ (k i : Nat), i + k = n → ∀ (H : Heap) (locs : List Loc) (ls : Array Slot), va_P (rf_D E) vwCl [(h1, .inl (rf_cI E, n1, .inl f)), (h2, .inl (rf_cI E, n2, .inl (va_cpy f g a b i)))] H → va_S A0 s.heap H locs → lv_has ls 6 [(5, .int (nI i)), (0, .ref h1), (1, .int (nI a)), (2, .ref h2), (3, .int (nI b)), (4, .int (nI n))] →
      W p l e R s m args below meth c H locs 0 0 (rf_QV below args s E A0 [(h1, .inl (rf_cI E, n1, .inl f)), (h2, .inl (rf_cI E, n2, .inl (va_cpy f g a b n)))]) (F0 m 3 ls []) := by
  have hx := hC.1
  have hb := hC.2.1
  intro k
  induction k with
  | zero =>
    intro i hi H locs ls hP hS hl
    have hi : i = n := by omega
    subst hi
    refine lv_iload hx hb dX11_copy_3 (lv_at hl 0 rfl) ?_
    refine lv_iload hx hb dX11_copy_5 (lv_at hl 5 rfl) ?_
    refine lv_icmp_ge (tgt := 28) hx hb dX11_copy_7 (by decide) (fun _ => ?_) (fun c1 => absurd (nI_le (Nat.le_refl _) (by omega)) c1)
    exact rf_retv hC hP hS rfl dX11_copy_28
  | succ k ih =>
    intro i hi H locs ls hP hS hl
    have hlt : i < n := by omega
    refine lv_iload hx hb dX11_copy_3 (lv_at hl 0 rfl) ?_
    refine lv_iload hx hb dX11_copy_5 (lv_at hl 5 rfl) ?_
    refine lv_icmp_ge (tgt := 28) hx hb dX11_copy_7 (by decide) (fun c1 => absurd c1 (nI_ge hlt (by omega))) (fun _ => ?_)
    refine lv_aload_n hx hb dX11_copy_10 rfl (lv_at hl 3 rfl) ?_
    refine lv_iload_n hx hb dX11_copy_11 rfl (lv_at hl 4 rfl) ?_
    refine lv_iload hx hb dX11_copy_12 (lv_at hl 0 rfl) ?_
    refine lv_iadd hx hb dX11_copy_14 ?_
    refine lv_aload_n hx hb dX11_copy_15 rfl (lv_at hl 1 rfl) ?_
    refine lv_iload_n hx hb dX11_copy_16 rfl (lv_at hl 2 rfl) ?_
    refine lv_iload hx hb dX11_copy_17 (lv_at hl 0 rfl) ?_
    refine lv_iadd hx hb dX11_copy_19 ?_
    refine va_iald hx hb hC.2.2.2.2.2.2.2.1.1 hP 0 1 rfl rfl (by rw [nI_add]; exact vp_in_nI (by omega) (by omega)) dX11_copy_20 ?_
    refine va_iast hx hb hC.2.2.2.2.2.2.2.1.1 hP (rf_Dc (ws := [(h1, .inl (rf_cI E, n1, .inl f)), (h2, .inl (rf_cI E, n2, .inl g))]) rfl hD) hS 1 1 rfl rfl (by rw [nI_add]; exact vp_in_nI (by omega) (by omega)) dX11_copy_21 (fun H locs hP _ hS => ?_)
    have hP : va_P (rf_D E) vwCl [(h1, .inl (rf_cI E, n1, .inl f)), (h2, .inl (rf_cI E, n2, .inl (va_cpy f g a b (i + 1))))] H := by
      rw [← rf_cpy_s]
      rw [nI_add, nI_add, nI_clamp (by omega), nI_clamp (by omega)] at hP
      exact hP
    refine lv_iinc (v := nI (i + 1)) (lv' := [(5, .int (nI (i + 1))), (0, .ref h1), (1, .int (nI a)), (2, .ref h2), (3, .int (nI b)), (4, .int (nI n))]) hx hb dX11_copy_22 hl (k := 0) rfl (nI_1 i) (by decide) rfl (fun ls hl => ?_)
    refine lv_goto (tgt := 3) hx hb dX11_copy_25 (by decide) ?_
    exact ih (i + 1) (by omega) _ _ _ hP hS hl
set_option maxHeartbeats 4000000 in
set_option maxRecDepth 100000 in
theorem c_X11_copy (l : Launch) (E : rf_E) (h1 h2 n1 n2 : Nat) (v1 v3 v4 : Int32) (f g : Nat → Int32) (q1 : n1 < 2 ^ 30) (q2 : n2 < 2 ^ 30) (hk : rf_cok v1 v3 v4 n1 n2 = true) : rf_MV l yX11_copy cX11_copy 6 ({ frames := 0, cells := 0, slots := 0, locals := 0 }) E [.ref h1, .int v1, .ref h2, .int v3, .int v4] [(h1, .inl (rf_cI E, n1, .inl f)), (h2, .inl (rf_cI E, n2, .inl g))] [(h1, .inl (rf_cI E, n1, .inl f)), (h2, .inl (rf_cI E, n2, .inl (va_cpy f g v1.toNatClampNeg v3.toNatClampNeg v4.toNatClampNeg)))] := by
  obtain ⟨k1, k2, k3, k4, k5⟩ := rf_cokT hk
  refine rf_ofV (by decide) (Nat.le_of_ble_eq_true rfl) ?_
  intro p e s m below meth c A0 ls hC hD hP hS hl
  have hx := hC.1
  have hb := hC.2.1
  have hl : lv_has ls 6 [(0, .ref h1), (1, .int v1), (2, .ref h2), (3, .int v3), (4, .int v4)] := hl
  have r1 := rf_toNat k1
  have r2 := rf_toNat k2
  have r3 := rf_toNat k3
  rw [rf_nIof k1, rf_nIof k2, rf_nIof k3] at hl
  refine lv_iconst (v := 0) hx hb dX11_copy_0 (by decide) ?_
  refine lv_istore (lv' := [(5, .int (nI 0)), (0, .ref h1), (1, .int (nI v1.toNatClampNeg)), (2, .ref h2), (3, .int (nI v3.toNatClampNeg)), (4, .int (nI v4.toNatClampNeg))]) hx hb dX11_copy_1 hl (by decide) rfl (fun ls hl => ?_)
  refine w_copy hC q1 q2 (a := v1.toNatClampNeg) (b := v3.toNatClampNeg) (n := v4.toNatClampNeg) (by omega) (by omega) hD v4.toNatClampNeg 0 (by omega) _ _ _ (by rw [rf_cpy_0]; exact hP) hS hl
set_option maxHeartbeats 4000000 in
set_option maxRecDepth 100000 in
theorem c_J6_bitCount_0f7a4 (l : Launch) (E : rf_E) (v0 : Int32) {z : Int32} (hf : f_J6_bitCount_0f7a4 v0 = some z) : rf_MI l yJ6_bitCount_0f7a4 cJ6_bitCount_0f7a4 1 (some .int) ({ frames := 0, cells := 0, slots := 0, locals := 0 }) E [.int v0] [] z [] := by
  obtain rfl := Option.some.inj hf
  refine rf_ofI (by decide) (Nat.le_of_ble_eq_true rfl) ?_
  intro p e s m below meth c A0 ls hC hD hP hS hl
  have hx := hC.1
  have hb := hC.2.1
  have hl : lv_has ls 1 [(0, .int v0)] := hl
  show W p l e _ s m _ below meth c s.heap [] 0 0 (rf_QI below _ s E A0 (rf_bc5 (rf_bc4 (rf_bc3 (rf_bc2 (rf_bc1 v0))))) []) _

  refine lv_iload_n hx hb dJ6_bitCount_0f7a4_0 rfl (lv_at hl 0 rfl) ?_
  refine lv_iload_n hx hb dJ6_bitCount_0f7a4_1 rfl (lv_at hl 0 rfl) ?_
  refine lv_iconst (v := 1) hx hb dJ6_bitCount_0f7a4_2 (by decide) ?_
  refine lv_iushr hx hb dJ6_bitCount_0f7a4_3 rfl ?_
  refine lv_ldcw hx hb hC.2.2.2.1 (v := 1431655765) (hC.2.2.2.2.1 _ (rf_gm 824 (by decide +kernel) rfl)) dJ6_bitCount_0f7a4_4 ?_
  refine lv_iand hx hb dJ6_bitCount_0f7a4_7 ?_
  refine lv_isub hx hb dJ6_bitCount_0f7a4_8 ?_
  show W p l e _ s m _ below meth c _ _ 0 0 _ (F0 m 9 ls [.int (rf_bc1 v0)])
  generalize e1 : rf_bc1 v0 = x1
  refine lv_istore_n (lv' := [(0, .int x1)]) hx hb dJ6_bitCount_0f7a4_9 rfl hl (by decide) rfl (fun ls hl => ?_)
  refine lv_iload_n hx hb dJ6_bitCount_0f7a4_10 rfl (lv_at hl 0 rfl) ?_
  refine lv_ldcw hx hb hC.2.2.2.1 (v := 858993459) (hC.2.2.2.2.1 _ (rf_gm 825 (by decide +kernel) rfl)) dJ6_bitCount_0f7a4_11 ?_
  refine lv_iand hx hb dJ6_bitCount_0f7a4_14 ?_
  refine lv_iload_n hx hb dJ6_bitCount_0f7a4_15 rfl (lv_at hl 0 rfl) ?_
  refine lv_iconst (v := 2) hx hb dJ6_bitCount_0f7a4_16 (by decide) ?_
  refine lv_iushr hx hb dJ6_bitCount_0f7a4_17 rfl ?_
  refine lv_ldcw hx hb hC.2.2.2.1 (v := 858993459) (hC.2.2.2.2.1 _ (rf_gm 825 (by decide +kernel) rfl)) dJ6_bitCount_0f7a4_18 ?_
  refine lv_iand hx hb dJ6_bitCount_0f7a4_21 ?_
  refine lv_iadd hx hb dJ6_bitCount_0f7a4_22 ?_
  show W p l e _ s m _ below meth c _ _ 0 0 _ (F0 m 23 ls [.int (rf_bc2 x1)])
  generalize e2 : rf_bc2 x1 = x2
  refine lv_istore_n (lv' := [(0, .int x2)]) hx hb dJ6_bitCount_0f7a4_23 rfl hl (by decide) rfl (fun ls hl => ?_)
  refine lv_iload_n hx hb dJ6_bitCount_0f7a4_24 rfl (lv_at hl 0 rfl) ?_
  refine lv_iload_n hx hb dJ6_bitCount_0f7a4_25 rfl (lv_at hl 0 rfl) ?_
  refine lv_iconst (v := 4) hx hb dJ6_bitCount_0f7a4_26 (by decide) ?_
  refine lv_iushr hx hb dJ6_bitCount_0f7a4_27 rfl ?_
  refine lv_iadd hx hb dJ6_bitCount_0f7a4_28 ?_
  refine lv_ldcw hx hb hC.2.2.2.1 (v := 252645135) (hC.2.2.2.2.1 _ (rf_gm 826 (by decide +kernel) rfl)) dJ6_bitCount_0f7a4_29 ?_
  refine lv_iand hx hb dJ6_bitCount_0f7a4_32 ?_
  show W p l e _ s m _ below meth c _ _ 0 0 _ (F0 m 33 ls [.int (rf_bc3 x2)])
  generalize e3 : rf_bc3 x2 = x3
  refine lv_istore_n (lv' := [(0, .int x3)]) hx hb dJ6_bitCount_0f7a4_33 rfl hl (by decide) rfl (fun ls hl => ?_)
  refine lv_iload_n hx hb dJ6_bitCount_0f7a4_34 rfl (lv_at hl 0 rfl) ?_
  refine lv_iload_n hx hb dJ6_bitCount_0f7a4_35 rfl (lv_at hl 0 rfl) ?_
  refine lv_bipush (v := 8) hx hb dJ6_bitCount_0f7a4_36 (by decide) ?_
  refine lv_iushr hx hb dJ6_bitCount_0f7a4_38 rfl ?_
  refine lv_iadd hx hb dJ6_bitCount_0f7a4_39 ?_
  show W p l e _ s m _ below meth c _ _ 0 0 _ (F0 m 40 ls [.int (rf_bc4 x3)])
  generalize e4 : rf_bc4 x3 = x4
  refine lv_istore_n (lv' := [(0, .int x4)]) hx hb dJ6_bitCount_0f7a4_40 rfl hl (by decide) rfl (fun ls hl => ?_)
  refine lv_iload_n hx hb dJ6_bitCount_0f7a4_41 rfl (lv_at hl 0 rfl) ?_
  refine lv_iload_n hx hb dJ6_bitCount_0f7a4_42 rfl (lv_at hl 0 rfl) ?_
  refine lv_bipush (v := 16) hx hb dJ6_bitCount_0f7a4_43 (by decide) ?_
  refine lv_iushr hx hb dJ6_bitCount_0f7a4_45 rfl ?_
  refine lv_iadd hx hb dJ6_bitCount_0f7a4_46 ?_
  show W p l e _ s m _ below meth c _ _ 0 0 _ (F0 m 47 ls [.int (x4 + (x4.toUInt32 >>> (Int32.toUInt32 16 &&& Int32.toUInt32 31)).toInt32)])
  refine lv_istore_n (lv' := [(0, .int (x4 + (x4.toUInt32 >>> (Int32.toUInt32 16 &&& Int32.toUInt32 31)).toInt32))]) hx hb dJ6_bitCount_0f7a4_47 rfl hl (by decide) rfl (fun ls hl => ?_)
  refine lv_iload_n hx hb dJ6_bitCount_0f7a4_48 rfl (lv_at hl 0 rfl) ?_
  refine lv_bipush (v := 63) hx hb dJ6_bitCount_0f7a4_49 (by decide) ?_
  refine lv_iand hx hb dJ6_bitCount_0f7a4_51 ?_
  exact rf_reti hC hP hS rfl rfl dJ6_bitCount_0f7a4_52
theorem rf_acp : Cond.native arraycopyName ∈ rf_gt ∧ Cond.static arraycopyName ∈ rf_gt ∧ Cond.initialized "java/lang/System" ∈ rf_gt := ⟨rf_gm 703 (by decide +kernel) rfl, rf_gm 702 (by decide +kernel) rfl, rf_gm 19 (by decide +kernel) rfl⟩
/-! fills and copies of the pictures' rows -/
section FCX
variable {p : Program} {l : Launch} {e : Env} {R : Room} {s : State} {m : MethodId} {args : Array Value} {below : List Frame} {meth : Method} {c : Code} {H : Heap} {locs : List Loc} {Q : State → Prop}
variable {cc : ByteArray} {nL pc index : Nat} {ls : Array Slot} {rest : List Value} {own : String} {ret : Option FieldType} {A0 : Nat → Prop} {E : rf_E} {a : Nat → Nat} {P P0 : Nat → Nat} {I I0 : Nat → Int32} {J J0 : Nat → Int64} {A B9 : Nat → Nat → Int32} {B B0 : Nat → Nat → Int64}
theorem fX_tc_alikes (hC : rf_C p E s m args meth c cc nL own ret A0) (hD : va_D A0 (cX E a P0 I0 J0 B9 B0)) (hP : va_P (rf_D E) vwCl (cX E a P I J A B) H) (hS : va_S A0 s.heap H locs) {v : Int32} {f : Nat → Int32} (hv : A 17 = f) (hl : Cond.methodLink own index yJ7_fill_53178 ∈ rf_gt) (hls : ls.size = nL) (hr : (rest.map fun v => v.category).sum ≤ 8) (hR : 0 + 1 ≤ R.frames ∧ 8 + (4 + 11) + 0 ≤ R.locals) (hdg : decode cc pc = .ok (.invokestatic index, 3)) (A9 : Nat → Nat → Int32) (h9 : rf_up1 A 17 (rf_fill 32 v f) = A9) (kk : ∀ (H1 : Heap) (locs1 : List Loc), va_P (rf_D E) vwCl (cX E a P I J A9 B) H1 → va_S A0 s.heap H1 locs1 → W p l e R s m args below meth c H1 locs1 0 0 Q (F0 m (pc + 3) ls rest)) : W p l e R s m args below meth c H locs 0 0 Q (F0 m pc ls (.int v :: .ref (a 33) :: rest)) := by
  subst hv; subst h9; exact rf_sv1 (q := 33) hC (c_J7_fill l E (a 33) 32 v (A 17) (by decide)) kS_J7_fill_53178 hl hR rfl rfl rfl hP (rf_DX hD) hS rfl hls rfl hr hdg (fun H1 locs1 h1 h2 => kk H1 locs1 h1 h2)
theorem fX_tc_hourEars (hC : rf_C p E s m args meth c cc nL own ret A0) (hD : va_D A0 (cX E a P0 I0 J0 B9 B0)) (hP : va_P (rf_D E) vwCl (cX E a P I J A B) H) (hS : va_S A0 s.heap H locs) {v : Int32} {f : Nat → Int32} (hv : A 18 = f) (hl : Cond.methodLink own index yJ7_fill_53178 ∈ rf_gt) (hls : ls.size = nL) (hr : (rest.map fun v => v.category).sum ≤ 8) (hR : 0 + 1 ≤ R.frames ∧ 8 + (4 + 11) + 0 ≤ R.locals) (hdg : decode cc pc = .ok (.invokestatic index, 3)) (A9 : Nat → Nat → Int32) (h9 : rf_up1 A 18 (rf_fill 24 v f) = A9) (kk : ∀ (H1 : Heap) (locs1 : List Loc), va_P (rf_D E) vwCl (cX E a P I J A9 B) H1 → va_S A0 s.heap H1 locs1 → W p l e R s m args below meth c H1 locs1 0 0 Q (F0 m (pc + 3) ls rest)) : W p l e R s m args below meth c H locs 0 0 Q (F0 m pc ls (.int v :: .ref (a 34) :: rest)) := by
  subst hv; subst h9; exact rf_sv1 (q := 34) hC (c_J7_fill l E (a 34) 24 v (A 18) (by decide)) kS_J7_fill_53178 hl hR rfl rfl rfl hP (rf_DX hD) hS rfl hls rfl hr hdg (fun H1 locs1 h1 h2 => kk H1 locs1 h1 h2)
theorem fX_td_alikes (hC : rf_C p E s m args meth c cc nL own ret A0) (hD : va_D A0 (cX E a P0 I0 J0 B9 B0)) (hP : va_P (rf_D E) vwCl (cX E a P I J A B) H) (hS : va_S A0 s.heap H locs) {v : Int32} {f : Nat → Int32} (hv : A 27 = f) (hl : Cond.methodLink own index yJ7_fill_53178 ∈ rf_gt) (hls : ls.size = nL) (hr : (rest.map fun v => v.category).sum ≤ 8) (hR : 0 + 1 ≤ R.frames ∧ 8 + (4 + 11) + 0 ≤ R.locals) (hdg : decode cc pc = .ok (.invokestatic index, 3)) (A9 : Nat → Nat → Int32) (h9 : rf_up1 A 27 (rf_fill 32 v f) = A9) (kk : ∀ (H1 : Heap) (locs1 : List Loc), va_P (rf_D E) vwCl (cX E a P I J A9 B) H1 → va_S A0 s.heap H1 locs1 → W p l e R s m args below meth c H1 locs1 0 0 Q (F0 m (pc + 3) ls rest)) : W p l e R s m args below meth c H locs 0 0 Q (F0 m pc ls (.int v :: .ref (a 46) :: rest)) := by
  subst hv; subst h9; exact rf_sv1 (q := 46) hC (c_J7_fill l E (a 46) 32 v (A 27) (by decide)) kS_J7_fill_53178 hl hR rfl rfl rfl hP (rf_DX hD) hS rfl hls rfl hr hdg (fun H1 locs1 h1 h2 => kk H1 locs1 h1 h2)
theorem fX_td_hourEars (hC : rf_C p E s m args meth c cc nL own ret A0) (hD : va_D A0 (cX E a P0 I0 J0 B9 B0)) (hP : va_P (rf_D E) vwCl (cX E a P I J A B) H) (hS : va_S A0 s.heap H locs) {v : Int32} {f : Nat → Int32} (hv : A 28 = f) (hl : Cond.methodLink own index yJ7_fill_53178 ∈ rf_gt) (hls : ls.size = nL) (hr : (rest.map fun v => v.category).sum ≤ 8) (hR : 0 + 1 ≤ R.frames ∧ 8 + (4 + 11) + 0 ≤ R.locals) (hdg : decode cc pc = .ok (.invokestatic index, 3)) (A9 : Nat → Nat → Int32) (h9 : rf_up1 A 28 (rf_fill 24 v f) = A9) (kk : ∀ (H1 : Heap) (locs1 : List Loc), va_P (rf_D E) vwCl (cX E a P I J A9 B) H1 → va_S A0 s.heap H1 locs1 → W p l e R s m args below meth c H1 locs1 0 0 Q (F0 m (pc + 3) ls rest)) : W p l e R s m args below meth c H locs 0 0 Q (F0 m pc ls (.int v :: .ref (a 47) :: rest)) := by
  subst hv; subst h9; exact rf_sv1 (q := 47) hC (c_J7_fill l E (a 47) 24 v (A 28) (by decide)) kS_J7_fill_53178 hl hR rfl rfl rfl hP (rf_DX hD) hS rfl hls rfl hr hdg (fun H1 locs1 h1 h2 => kk H1 locs1 h1 h2)
theorem fX_td_close (hC : rf_C p E s m args meth c cc nL own ret A0) (hD : va_D A0 (cX E a P0 I0 J0 B9 B0)) (hP : va_P (rf_D E) vwCl (cX E a P I J A B) H) (hS : va_S A0 s.heap H locs) {v : Int32} {f : Nat → Int32} (hv : A 32 = f) (hl : Cond.methodLink own index yJ7_fill_53178 ∈ rf_gt) (hls : ls.size = nL) (hr : (rest.map fun v => v.category).sum ≤ 8) (hR : 0 + 1 ≤ R.frames ∧ 8 + (4 + 11) + 0 ≤ R.locals) (hdg : decode cc pc = .ok (.invokestatic index, 3)) (A9 : Nat → Nat → Int32) (h9 : rf_up1 A 32 (rf_fill 160 v f) = A9) (kk : ∀ (H1 : Heap) (locs1 : List Loc), va_P (rf_D E) vwCl (cX E a P I J A9 B) H1 → va_S A0 s.heap H1 locs1 → W p l e R s m args below meth c H1 locs1 0 0 Q (F0 m (pc + 3) ls rest)) : W p l e R s m args below meth c H locs 0 0 Q (F0 m pc ls (.int v :: .ref (a 51) :: rest)) := by
  subst hv; subst h9; exact rf_sv1 (q := 51) hC (c_J7_fill l E (a 51) 160 v (A 32) (by decide)) kS_J7_fill_53178 hl hR rfl rfl rfl hP (rf_DX hD) hS rfl hls rfl hr hdg (fun H1 locs1 h1 h2 => kk H1 locs1 h1 h2)
theorem fX_now_wet (hC : rf_C p E s m args meth c cc nL own ret A0) (hD : va_D A0 (cX E a P0 I0 J0 B9 B0)) (hP : va_P (rf_D E) vwCl (cX E a P I J A B) H) (hS : va_S A0 s.heap H locs) {v : Int32} {f : Nat → Int32} (hv : A 2 = f) (hl : Cond.methodLink own index yJ7_fill_53178 ∈ rf_gt) (hls : ls.size = nL) (hr : (rest.map fun v => v.category).sum ≤ 8) (hR : 0 + 1 ≤ R.frames ∧ 8 + (4 + 11) + 0 ≤ R.locals) (hdg : decode cc pc = .ok (.invokestatic index, 3)) (A9 : Nat → Nat → Int32) (h9 : rf_up1 A 2 (rf_fill 8 v f) = A9) (kk : ∀ (H1 : Heap) (locs1 : List Loc), va_P (rf_D E) vwCl (cX E a P I J A9 B) H1 → va_S A0 s.heap H1 locs1 → W p l e R s m args below meth c H1 locs1 0 0 Q (F0 m (pc + 3) ls rest)) : W p l e R s m args below meth c H locs 0 0 Q (F0 m pc ls (.int v :: .ref (a 15) :: rest)) := by
  subst hv; subst h9; exact rf_sv1 (q := 15) hC (c_J7_fill l E (a 15) 8 v (A 2) (by decide)) kS_J7_fill_53178 hl hR rfl rfl rfl hP (rf_DX hD) hS rfl hls rfl hr hdg (fun H1 locs1 h1 h2 => kk H1 locs1 h1 h2)
theorem fX_pairing_partners (hC : rf_C p E s m args meth c cc nL own ret A0) (hD : va_D A0 (cX E a P0 I0 J0 B9 B0)) (hP : va_P (rf_D E) vwCl (cX E a P I J A B) H) (hS : va_S A0 s.heap H locs) {v : Int32} {f : Nat → Int32} (hv : A 4 = f) (hl : Cond.methodLink own index yJ7_fill_53178 ∈ rf_gt) (hls : ls.size = nL) (hr : (rest.map fun v => v.category).sum ≤ 8) (hR : 0 + 1 ≤ R.frames ∧ 8 + (4 + 11) + 0 ≤ R.locals) (hdg : decode cc pc = .ok (.invokestatic index, 3)) (A9 : Nat → Nat → Int32) (h9 : rf_up1 A 4 (rf_fill 8 v f) = A9) (kk : ∀ (H1 : Heap) (locs1 : List Loc), va_P (rf_D E) vwCl (cX E a P I J A9 B) H1 → va_S A0 s.heap H1 locs1 → W p l e R s m args below meth c H1 locs1 0 0 Q (F0 m (pc + 3) ls rest)) : W p l e R s m args below meth c H locs 0 0 Q (F0 m pc ls (.int v :: .ref (a 17) :: rest)) := by
  subst hv; subst h9; exact rf_sv1 (q := 17) hC (c_J7_fill l E (a 17) 8 v (A 4) (by decide)) kS_J7_fill_53178 hl hR rfl rfl rfl hP (rf_DX hD) hS rfl hls rfl hr hdg (fun H1 locs1 h1 h2 => kk H1 locs1 h1 h2)
theorem fX_hearing_left (hC : rf_C p E s m args meth c cc nL own ret A0) (hD : va_D A0 (cX E a P0 I0 J0 B9 B0)) (hP : va_P (rf_D E) vwCl (cX E a P I J A B) H) (hS : va_S A0 s.heap H locs) {v : Int32} {f : Nat → Int32} (hv : A 9 = f) (hl : Cond.methodLink own index yJ7_fill_53178 ∈ rf_gt) (hls : ls.size = nL) (hr : (rest.map fun v => v.category).sum ≤ 8) (hR : 0 + 1 ≤ R.frames ∧ 8 + (4 + 11) + 0 ≤ R.locals) (hdg : decode cc pc = .ok (.invokestatic index, 3)) (A9 : Nat → Nat → Int32) (h9 : rf_up1 A 9 (rf_fill 3 v f) = A9) (kk : ∀ (H1 : Heap) (locs1 : List Loc), va_P (rf_D E) vwCl (cX E a P I J A9 B) H1 → va_S A0 s.heap H1 locs1 → W p l e R s m args below meth c H1 locs1 0 0 Q (F0 m (pc + 3) ls rest)) : W p l e R s m args below meth c H locs 0 0 Q (F0 m pc ls (.int v :: .ref (a 22) :: rest)) := by
  subst hv; subst h9; exact rf_sv1 (q := 22) hC (c_J7_fill l E (a 22) 3 v (A 9) (by decide)) kS_J7_fill_53178 hl hR rfl rfl rfl hP (rf_DX hD) hS rfl hls rfl hr hdg (fun H1 locs1 h1 h2 => kk H1 locs1 h1 h2)
theorem fX_days_crossings (hC : rf_C p E s m args meth c cc nL own ret A0) (hD : va_D A0 (cX E a P0 I0 J0 B9 B0)) (hP : va_P (rf_D E) vwCl (cX E a P I J A B) H) (hS : va_S A0 s.heap H locs) {v : Int32} {f : Nat → Int32} (hv : A 10 = f) (hl : Cond.methodLink own index yJ7_fill_53178 ∈ rf_gt) (hls : ls.size = nL) (hr : (rest.map fun v => v.category).sum ≤ 8) (hR : 0 + 1 ≤ R.frames ∧ 8 + (4 + 11) + 0 ≤ R.locals) (hdg : decode cc pc = .ok (.invokestatic index, 3)) (A9 : Nat → Nat → Int32) (h9 : rf_up1 A 10 (rf_fill 8 v f) = A9) (kk : ∀ (H1 : Heap) (locs1 : List Loc), va_P (rf_D E) vwCl (cX E a P I J A9 B) H1 → va_S A0 s.heap H1 locs1 → W p l e R s m args below meth c H1 locs1 0 0 Q (F0 m (pc + 3) ls rest)) : W p l e R s m args below meth c H locs 0 0 Q (F0 m pc ls (.int v :: .ref (a 23) :: rest)) := by
  subst hv; subst h9; exact rf_sv1 (q := 23) hC (c_J7_fill l E (a 23) 8 v (A 10) (by decide)) kS_J7_fill_53178 hl hR rfl rfl rfl hP (rf_DX hD) hS rfl hls rfl hr hdg (fun H1 locs1 h1 h2 => kk H1 locs1 h1 h2)
theorem fX_tc_close (hC : rf_C p E s m args meth c cc nL own ret A0) (hD : va_D A0 (cX E a P0 I0 J0 B9 B0)) (hP : va_P (rf_D E) vwCl (cX E a P I J A B) H) (hS : va_S A0 s.heap H locs) {v : Int32} {f : Nat → Int32} (hv : A 22 = f) (hl : Cond.methodLink own index yJ7_fill_53178 ∈ rf_gt) (hls : ls.size = nL) (hr : (rest.map fun v => v.category).sum ≤ 8) (hR : 0 + 1 ≤ R.frames ∧ 8 + (4 + 11) + 0 ≤ R.locals) (hdg : decode cc pc = .ok (.invokestatic index, 3)) (A9 : Nat → Nat → Int32) (h9 : rf_up1 A 22 (rf_fill 160 v f) = A9) (kk : ∀ (H1 : Heap) (locs1 : List Loc), va_P (rf_D E) vwCl (cX E a P I J A9 B) H1 → va_S A0 s.heap H1 locs1 → W p l e R s m args below meth c H1 locs1 0 0 Q (F0 m (pc + 3) ls rest)) : W p l e R s m args below meth c H locs 0 0 Q (F0 m pc ls (.int v :: .ref (a 38) :: rest)) := by
  subst hv; subst h9; exact rf_sv1 (q := 38) hC (c_J7_fill l E (a 38) 160 v (A 22) (by decide)) kS_J7_fill_53178 hl hR rfl rfl rfl hP (rf_DX hD) hS rfl hls rfl hr hdg (fun H1 locs1 h1 h2 => kk H1 locs1 h1 h2)
theorem yX_td_firstWords_now_words (hC : rf_C p E s m args meth c cc nL own ret A0) (hD : va_D A0 (cX E a P0 I0 J0 B9 B0)) (hP : va_P (rf_D E) vwCl (cX E a P I J A B) H) (hS : va_S A0 s.heap H locs) {sp dp n : Int32} (hk : rf_cok sp dp n 8 8 = true) {f g : Nat → Int32} (hv : A 25 = f) (hg : A 1 = g) (hl : Cond.methodLink own index arraycopyName ∈ rf_gt) (hls : ls.size = nL) (hr : (rest.map fun v => v.category).sum ≤ 8) (hR : 1 ≤ R.frames ∧ 8 + (nativeFrameWords "java/lang/System" "arraycopy" 5 + 11) ≤ R.locals) (hdg : decode cc pc = .ok (.invokestatic index, 3)) (A9 : Nat → Nat → Int32) (h9 : rf_up1 A 1 (va_cpy f g sp.toNatClampNeg dp.toNatClampNeg n.toNatClampNeg) = A9) (kk : ∀ (H1 : Heap) (locs1 : List Loc), va_P (rf_D E) vwCl (cX E a P I J A9 B) H1 → va_S A0 s.heap H1 locs1 → W p l e R s m args below meth c H1 locs1 0 0 Q (F0 m (pc + 3) ls rest)) : W p l e R s m args below meth c H locs 0 0 Q (F0 m pc ls (.int n :: .int dp :: .ref (a 14) :: .int sp :: .ref (a 44) :: rest)) := by
  subst hv; subst hg; subst h9
  obtain ⟨k1, k2, k3, k4, k5⟩ := rf_cokT hk
  have r1 := rf_toNat k1
  have r2 := rf_toNat k2
  have r3 := rf_toNat k3
  exact va_copyi hC.1 hC.2.1 (by rw [hC.2.2.1]; exact hls.symm) hC.2.2.2.1 (hC.2.2.2.2.1 _ hl) (hC.2.2.2.2.1 _ rf_acp.1) (hC.2.2.2.2.1 _ rf_acp.2.1) (hC.2.2.2.2.1 _ rf_acp.2.2) hC.2.2.2.2.2.2.2.1.1 hP (rf_DX hD) hS 44 14 1 1 rfl rfl rfl rfl rfl (rf_nonneg k1) (rf_nonneg k2) (rf_nonneg k3) (by omega) (by omega) (fun _ _ => rfl) hR.1 (by have h := hR.2; omega) hdg (fun H1 locs1 h1 _ h3 => kk H1 locs1 h1 h3)
theorem yX_now_words_acts_cells (hC : rf_C p E s m args meth c cc nL own ret A0) (hD : va_D A0 (cX E a P0 I0 J0 B9 B0)) (hP : va_P (rf_D E) vwCl (cX E a P I J A B) H) (hS : va_S A0 s.heap H locs) {sp dp n : Int32} (hk : rf_cok sp dp n 8 304 = true) {f g : Nat → Int32} (hv : A 1 = f) (hg : A 11 = g) (hl : Cond.methodLink own index arraycopyName ∈ rf_gt) (hls : ls.size = nL) (hr : (rest.map fun v => v.category).sum ≤ 8) (hR : 1 ≤ R.frames ∧ 8 + (nativeFrameWords "java/lang/System" "arraycopy" 5 + 11) ≤ R.locals) (hdg : decode cc pc = .ok (.invokestatic index, 3)) (A9 : Nat → Nat → Int32) (h9 : rf_up1 A 11 (va_cpy f g sp.toNatClampNeg dp.toNatClampNeg n.toNatClampNeg) = A9) (kk : ∀ (H1 : Heap) (locs1 : List Loc), va_P (rf_D E) vwCl (cX E a P I J A9 B) H1 → va_S A0 s.heap H1 locs1 → W p l e R s m args below meth c H1 locs1 0 0 Q (F0 m (pc + 3) ls rest)) : W p l e R s m args below meth c H locs 0 0 Q (F0 m pc ls (.int n :: .int dp :: .ref (a 24) :: .int sp :: .ref (a 14) :: rest)) := by
  subst hv; subst hg; subst h9
  obtain ⟨k1, k2, k3, k4, k5⟩ := rf_cokT hk
  have r1 := rf_toNat k1
  have r2 := rf_toNat k2
  have r3 := rf_toNat k3
  exact va_copyi hC.1 hC.2.1 (by rw [hC.2.2.1]; exact hls.symm) hC.2.2.2.1 (hC.2.2.2.2.1 _ hl) (hC.2.2.2.2.1 _ rf_acp.1) (hC.2.2.2.2.1 _ rf_acp.2.1) (hC.2.2.2.2.1 _ rf_acp.2.2) hC.2.2.2.2.2.2.2.1.1 hP (rf_DX hD) hS 14 24 1 1 rfl rfl rfl rfl rfl (rf_nonneg k1) (rf_nonneg k2) (rf_nonneg k3) (by omega) (by omega) (fun _ _ => rfl) hR.1 (by have h := hR.2; omega) hdg (fun H1 locs1 h1 _ h3 => kk H1 locs1 h1 h3)
theorem yX_now_wet_acts_cells (hC : rf_C p E s m args meth c cc nL own ret A0) (hD : va_D A0 (cX E a P0 I0 J0 B9 B0)) (hP : va_P (rf_D E) vwCl (cX E a P I J A B) H) (hS : va_S A0 s.heap H locs) {sp dp n : Int32} (hk : rf_cok sp dp n 8 304 = true) {f g : Nat → Int32} (hv : A 2 = f) (hg : A 11 = g) (hl : Cond.methodLink own index arraycopyName ∈ rf_gt) (hls : ls.size = nL) (hr : (rest.map fun v => v.category).sum ≤ 8) (hR : 1 ≤ R.frames ∧ 8 + (nativeFrameWords "java/lang/System" "arraycopy" 5 + 11) ≤ R.locals) (hdg : decode cc pc = .ok (.invokestatic index, 3)) (A9 : Nat → Nat → Int32) (h9 : rf_up1 A 11 (va_cpy f g sp.toNatClampNeg dp.toNatClampNeg n.toNatClampNeg) = A9) (kk : ∀ (H1 : Heap) (locs1 : List Loc), va_P (rf_D E) vwCl (cX E a P I J A9 B) H1 → va_S A0 s.heap H1 locs1 → W p l e R s m args below meth c H1 locs1 0 0 Q (F0 m (pc + 3) ls rest)) : W p l e R s m args below meth c H locs 0 0 Q (F0 m pc ls (.int n :: .int dp :: .ref (a 24) :: .int sp :: .ref (a 15) :: rest)) := by
  subst hv; subst hg; subst h9
  obtain ⟨k1, k2, k3, k4, k5⟩ := rf_cokT hk
  have r1 := rf_toNat k1
  have r2 := rf_toNat k2
  have r3 := rf_toNat k3
  exact va_copyi hC.1 hC.2.1 (by rw [hC.2.2.1]; exact hls.symm) hC.2.2.2.1 (hC.2.2.2.2.1 _ hl) (hC.2.2.2.2.1 _ rf_acp.1) (hC.2.2.2.2.1 _ rf_acp.2.1) (hC.2.2.2.2.1 _ rf_acp.2.2) hC.2.2.2.2.2.2.2.1.1 hP (rf_DX hD) hS 15 24 1 1 rfl rfl rfl rfl rfl (rf_nonneg k1) (rf_nonneg k2) (rf_nonneg k3) (by omega) (by omega) (fun _ _ => rfl) hR.1 (by have h := hR.2; omega) hdg (fun H1 locs1 h1 _ h3 => kk H1 locs1 h1 h3)
theorem yX_now_words_images_cells (hC : rf_C p E s m args meth c cc nL own ret A0) (hD : va_D A0 (cX E a P0 I0 J0 B9 B0)) (hP : va_P (rf_D E) vwCl (cX E a P I J A B) H) (hS : va_S A0 s.heap H locs) {sp dp n : Int32} (hk : rf_cok sp dp n 8 57 = true) {f g : Nat → Int32} (hv : A 1 = f) (hg : A 12 = g) (hl : Cond.methodLink own index arraycopyName ∈ rf_gt) (hls : ls.size = nL) (hr : (rest.map fun v => v.category).sum ≤ 8) (hR : 1 ≤ R.frames ∧ 8 + (nativeFrameWords "java/lang/System" "arraycopy" 5 + 11) ≤ R.locals) (hdg : decode cc pc = .ok (.invokestatic index, 3)) (A9 : Nat → Nat → Int32) (h9 : rf_up1 A 12 (va_cpy f g sp.toNatClampNeg dp.toNatClampNeg n.toNatClampNeg) = A9) (kk : ∀ (H1 : Heap) (locs1 : List Loc), va_P (rf_D E) vwCl (cX E a P I J A9 B) H1 → va_S A0 s.heap H1 locs1 → W p l e R s m args below meth c H1 locs1 0 0 Q (F0 m (pc + 3) ls rest)) : W p l e R s m args below meth c H locs 0 0 Q (F0 m pc ls (.int n :: .int dp :: .ref (a 25) :: .int sp :: .ref (a 14) :: rest)) := by
  subst hv; subst hg; subst h9
  obtain ⟨k1, k2, k3, k4, k5⟩ := rf_cokT hk
  have r1 := rf_toNat k1
  have r2 := rf_toNat k2
  have r3 := rf_toNat k3
  exact va_copyi hC.1 hC.2.1 (by rw [hC.2.2.1]; exact hls.symm) hC.2.2.2.1 (hC.2.2.2.2.1 _ hl) (hC.2.2.2.2.1 _ rf_acp.1) (hC.2.2.2.2.1 _ rf_acp.2.1) (hC.2.2.2.2.1 _ rf_acp.2.2) hC.2.2.2.2.2.2.2.1.1 hP (rf_DX hD) hS 14 25 1 1 rfl rfl rfl rfl rfl (rf_nonneg k1) (rf_nonneg k2) (rf_nonneg k3) (by omega) (by omega) (fun _ _ => rfl) hR.1 (by have h := hR.2; omega) hdg (fun H1 locs1 h1 _ h3 => kk H1 locs1 h1 h3)
theorem yX_now_wet_images_cells (hC : rf_C p E s m args meth c cc nL own ret A0) (hD : va_D A0 (cX E a P0 I0 J0 B9 B0)) (hP : va_P (rf_D E) vwCl (cX E a P I J A B) H) (hS : va_S A0 s.heap H locs) {sp dp n : Int32} (hk : rf_cok sp dp n 8 57 = true) {f g : Nat → Int32} (hv : A 2 = f) (hg : A 12 = g) (hl : Cond.methodLink own index arraycopyName ∈ rf_gt) (hls : ls.size = nL) (hr : (rest.map fun v => v.category).sum ≤ 8) (hR : 1 ≤ R.frames ∧ 8 + (nativeFrameWords "java/lang/System" "arraycopy" 5 + 11) ≤ R.locals) (hdg : decode cc pc = .ok (.invokestatic index, 3)) (A9 : Nat → Nat → Int32) (h9 : rf_up1 A 12 (va_cpy f g sp.toNatClampNeg dp.toNatClampNeg n.toNatClampNeg) = A9) (kk : ∀ (H1 : Heap) (locs1 : List Loc), va_P (rf_D E) vwCl (cX E a P I J A9 B) H1 → va_S A0 s.heap H1 locs1 → W p l e R s m args below meth c H1 locs1 0 0 Q (F0 m (pc + 3) ls rest)) : W p l e R s m args below meth c H locs 0 0 Q (F0 m pc ls (.int n :: .int dp :: .ref (a 25) :: .int sp :: .ref (a 15) :: rest)) := by
  subst hv; subst hg; subst h9
  obtain ⟨k1, k2, k3, k4, k5⟩ := rf_cokT hk
  have r1 := rf_toNat k1
  have r2 := rf_toNat k2
  have r3 := rf_toNat k3
  exact va_copyi hC.1 hC.2.1 (by rw [hC.2.2.1]; exact hls.symm) hC.2.2.2.1 (hC.2.2.2.2.1 _ hl) (hC.2.2.2.2.1 _ rf_acp.1) (hC.2.2.2.2.1 _ rf_acp.2.1) (hC.2.2.2.2.1 _ rf_acp.2.2) hC.2.2.2.2.2.2.2.1.1 hP (rf_DX hD) hS 15 25 1 1 rfl rfl rfl rfl rfl (rf_nonneg k1) (rf_nonneg k2) (rf_nonneg k3) (by omega) (by omega) (fun _ _ => rfl) hR.1 (by have h := hR.2; omega) hdg (fun H1 locs1 h1 _ h3 => kk H1 locs1 h1 h3)
theorem yX_acts_cells_now_words (hC : rf_C p E s m args meth c cc nL own ret A0) (hD : va_D A0 (cX E a P0 I0 J0 B9 B0)) (hP : va_P (rf_D E) vwCl (cX E a P I J A B) H) (hS : va_S A0 s.heap H locs) {sp dp n : Int32} (hk : rf_cok sp dp n 304 8 = true) {f g : Nat → Int32} (hv : A 11 = f) (hg : A 1 = g) (hl : Cond.methodLink own index arraycopyName ∈ rf_gt) (hls : ls.size = nL) (hr : (rest.map fun v => v.category).sum ≤ 8) (hR : 1 ≤ R.frames ∧ 8 + (nativeFrameWords "java/lang/System" "arraycopy" 5 + 11) ≤ R.locals) (hdg : decode cc pc = .ok (.invokestatic index, 3)) (A9 : Nat → Nat → Int32) (h9 : rf_up1 A 1 (va_cpy f g sp.toNatClampNeg dp.toNatClampNeg n.toNatClampNeg) = A9) (kk : ∀ (H1 : Heap) (locs1 : List Loc), va_P (rf_D E) vwCl (cX E a P I J A9 B) H1 → va_S A0 s.heap H1 locs1 → W p l e R s m args below meth c H1 locs1 0 0 Q (F0 m (pc + 3) ls rest)) : W p l e R s m args below meth c H locs 0 0 Q (F0 m pc ls (.int n :: .int dp :: .ref (a 14) :: .int sp :: .ref (a 24) :: rest)) := by
  subst hv; subst hg; subst h9
  obtain ⟨k1, k2, k3, k4, k5⟩ := rf_cokT hk
  have r1 := rf_toNat k1
  have r2 := rf_toNat k2
  have r3 := rf_toNat k3
  exact va_copyi hC.1 hC.2.1 (by rw [hC.2.2.1]; exact hls.symm) hC.2.2.2.1 (hC.2.2.2.2.1 _ hl) (hC.2.2.2.2.1 _ rf_acp.1) (hC.2.2.2.2.1 _ rf_acp.2.1) (hC.2.2.2.2.1 _ rf_acp.2.2) hC.2.2.2.2.2.2.2.1.1 hP (rf_DX hD) hS 24 14 1 1 rfl rfl rfl rfl rfl (rf_nonneg k1) (rf_nonneg k2) (rf_nonneg k3) (by omega) (by omega) (fun _ _ => rfl) hR.1 (by have h := hR.2; omega) hdg (fun H1 locs1 h1 _ h3 => kk H1 locs1 h1 h3)
theorem yX_acts_cells_now_wet (hC : rf_C p E s m args meth c cc nL own ret A0) (hD : va_D A0 (cX E a P0 I0 J0 B9 B0)) (hP : va_P (rf_D E) vwCl (cX E a P I J A B) H) (hS : va_S A0 s.heap H locs) {sp dp n : Int32} (hk : rf_cok sp dp n 304 8 = true) {f g : Nat → Int32} (hv : A 11 = f) (hg : A 2 = g) (hl : Cond.methodLink own index arraycopyName ∈ rf_gt) (hls : ls.size = nL) (hr : (rest.map fun v => v.category).sum ≤ 8) (hR : 1 ≤ R.frames ∧ 8 + (nativeFrameWords "java/lang/System" "arraycopy" 5 + 11) ≤ R.locals) (hdg : decode cc pc = .ok (.invokestatic index, 3)) (A9 : Nat → Nat → Int32) (h9 : rf_up1 A 2 (va_cpy f g sp.toNatClampNeg dp.toNatClampNeg n.toNatClampNeg) = A9) (kk : ∀ (H1 : Heap) (locs1 : List Loc), va_P (rf_D E) vwCl (cX E a P I J A9 B) H1 → va_S A0 s.heap H1 locs1 → W p l e R s m args below meth c H1 locs1 0 0 Q (F0 m (pc + 3) ls rest)) : W p l e R s m args below meth c H locs 0 0 Q (F0 m pc ls (.int n :: .int dp :: .ref (a 15) :: .int sp :: .ref (a 24) :: rest)) := by
  subst hv; subst hg; subst h9
  obtain ⟨k1, k2, k3, k4, k5⟩ := rf_cokT hk
  have r1 := rf_toNat k1
  have r2 := rf_toNat k2
  have r3 := rf_toNat k3
  exact va_copyi hC.1 hC.2.1 (by rw [hC.2.2.1]; exact hls.symm) hC.2.2.2.1 (hC.2.2.2.2.1 _ hl) (hC.2.2.2.2.1 _ rf_acp.1) (hC.2.2.2.2.1 _ rf_acp.2.1) (hC.2.2.2.2.1 _ rf_acp.2.2) hC.2.2.2.2.2.2.2.1.1 hP (rf_DX hD) hS 24 15 1 1 rfl rfl rfl rfl rfl (rf_nonneg k1) (rf_nonneg k2) (rf_nonneg k3) (by omega) (by omega) (fun _ _ => rfl) hR.1 (by have h := hR.2; omega) hdg (fun H1 locs1 h1 _ h3 => kk H1 locs1 h1 h3)
theorem yX_images_cells_now_words (hC : rf_C p E s m args meth c cc nL own ret A0) (hD : va_D A0 (cX E a P0 I0 J0 B9 B0)) (hP : va_P (rf_D E) vwCl (cX E a P I J A B) H) (hS : va_S A0 s.heap H locs) {sp dp n : Int32} (hk : rf_cok sp dp n 57 8 = true) {f g : Nat → Int32} (hv : A 12 = f) (hg : A 1 = g) (hl : Cond.methodLink own index arraycopyName ∈ rf_gt) (hls : ls.size = nL) (hr : (rest.map fun v => v.category).sum ≤ 8) (hR : 1 ≤ R.frames ∧ 8 + (nativeFrameWords "java/lang/System" "arraycopy" 5 + 11) ≤ R.locals) (hdg : decode cc pc = .ok (.invokestatic index, 3)) (A9 : Nat → Nat → Int32) (h9 : rf_up1 A 1 (va_cpy f g sp.toNatClampNeg dp.toNatClampNeg n.toNatClampNeg) = A9) (kk : ∀ (H1 : Heap) (locs1 : List Loc), va_P (rf_D E) vwCl (cX E a P I J A9 B) H1 → va_S A0 s.heap H1 locs1 → W p l e R s m args below meth c H1 locs1 0 0 Q (F0 m (pc + 3) ls rest)) : W p l e R s m args below meth c H locs 0 0 Q (F0 m pc ls (.int n :: .int dp :: .ref (a 14) :: .int sp :: .ref (a 25) :: rest)) := by
  subst hv; subst hg; subst h9
  obtain ⟨k1, k2, k3, k4, k5⟩ := rf_cokT hk
  have r1 := rf_toNat k1
  have r2 := rf_toNat k2
  have r3 := rf_toNat k3
  exact va_copyi hC.1 hC.2.1 (by rw [hC.2.2.1]; exact hls.symm) hC.2.2.2.1 (hC.2.2.2.2.1 _ hl) (hC.2.2.2.2.1 _ rf_acp.1) (hC.2.2.2.2.1 _ rf_acp.2.1) (hC.2.2.2.2.1 _ rf_acp.2.2) hC.2.2.2.2.2.2.2.1.1 hP (rf_DX hD) hS 25 14 1 1 rfl rfl rfl rfl rfl (rf_nonneg k1) (rf_nonneg k2) (rf_nonneg k3) (by omega) (by omega) (fun _ _ => rfl) hR.1 (by have h := hR.2; omega) hdg (fun H1 locs1 h1 _ h3 => kk H1 locs1 h1 h3)
theorem yX_images_cells_now_wet (hC : rf_C p E s m args meth c cc nL own ret A0) (hD : va_D A0 (cX E a P0 I0 J0 B9 B0)) (hP : va_P (rf_D E) vwCl (cX E a P I J A B) H) (hS : va_S A0 s.heap H locs) {sp dp n : Int32} (hk : rf_cok sp dp n 57 8 = true) {f g : Nat → Int32} (hv : A 12 = f) (hg : A 2 = g) (hl : Cond.methodLink own index arraycopyName ∈ rf_gt) (hls : ls.size = nL) (hr : (rest.map fun v => v.category).sum ≤ 8) (hR : 1 ≤ R.frames ∧ 8 + (nativeFrameWords "java/lang/System" "arraycopy" 5 + 11) ≤ R.locals) (hdg : decode cc pc = .ok (.invokestatic index, 3)) (A9 : Nat → Nat → Int32) (h9 : rf_up1 A 2 (va_cpy f g sp.toNatClampNeg dp.toNatClampNeg n.toNatClampNeg) = A9) (kk : ∀ (H1 : Heap) (locs1 : List Loc), va_P (rf_D E) vwCl (cX E a P I J A9 B) H1 → va_S A0 s.heap H1 locs1 → W p l e R s m args below meth c H1 locs1 0 0 Q (F0 m (pc + 3) ls rest)) : W p l e R s m args below meth c H locs 0 0 Q (F0 m pc ls (.int n :: .int dp :: .ref (a 15) :: .int sp :: .ref (a 25) :: rest)) := by
  subst hv; subst hg; subst h9
  obtain ⟨k1, k2, k3, k4, k5⟩ := rf_cokT hk
  have r1 := rf_toNat k1
  have r2 := rf_toNat k2
  have r3 := rf_toNat k3
  exact va_copyi hC.1 hC.2.1 (by rw [hC.2.2.1]; exact hls.symm) hC.2.2.2.1 (hC.2.2.2.2.1 _ hl) (hC.2.2.2.2.1 _ rf_acp.1) (hC.2.2.2.2.1 _ rf_acp.2.1) (hC.2.2.2.2.1 _ rf_acp.2.2) hC.2.2.2.2.2.2.2.1.1 hP (rf_DX hD) hS 25 15 1 1 rfl rfl rfl rfl rfl (rf_nonneg k1) (rf_nonneg k2) (rf_nonneg k3) (by omega) (by omega) (fun _ _ => rfl) hR.1 (by have h := hR.2; omega) hdg (fun H1 locs1 h1 _ h3 => kk H1 locs1 h1 h3)
end FCX
section FCM
variable {p : Program} {l : Launch} {e : Env} {R : Room} {s : State} {m : MethodId} {args : Array Value} {below : List Frame} {meth : Method} {c : Code} {H : Heap} {locs : List Loc} {Q : State → Prop}
variable {cc : ByteArray} {nL pc index : Nat} {ls : Array Slot} {rest : List Value} {own : String} {ret : Option FieldType} {A0 : Nat → Prop} {E : rf_E} {a : Nat → Nat} {I I0 : Nat → Int32} {A B9 : Nat → Nat → Int32}
theorem zM_m_fresh_m_r (hC : rf_C p E s m args meth c cc nL own ret A0) (hD : va_D A0 (cM E a I0 B9)) (hP : va_P (rf_D E) vwCl (cM E a I A) H) (hS : va_S A0 s.heap H locs) {sp dp n : Int32} (hk : rf_cok sp dp n 333 333 = true) {f g : Nat → Int32} (hv : A 3 = f) (hg : A 2 = g) (hl : Cond.methodLink own index yX11_copy ∈ rf_gt) (hls : ls.size = nL) (hr : (rest.map fun v => v.category).sum ≤ 8) (hR : 0 + 1 ≤ R.frames ∧ 8 + (6 + 11) + 0 ≤ R.locals) (hdg : decode cc pc = .ok (.invokestatic index, 3)) (A9 : Nat → Nat → Int32) (h9 : rf_up1 A 2 (va_cpy f g sp.toNatClampNeg dp.toNatClampNeg n.toNatClampNeg) = A9) (kk : ∀ (H1 : Heap) (locs1 : List Loc), va_P (rf_D E) vwCl (cM E a I A9) H1 → va_S A0 s.heap H1 locs1 → W p l e R s m args below meth c H1 locs1 0 0 Q (F0 m (pc + 3) ls rest)) : W p l e R s m args below meth c H locs 0 0 Q (F0 m pc ls (.int n :: .int dp :: .ref (a 3) :: .int sp :: .ref (a 4) :: rest)) := by
  subst hv; subst hg; subst h9; exact rf_sv2 (q1 := 4) (q := 3) hC (c_X11_copy l E (a 4) (a 3) 333 333 sp dp n (A 3) (A 2) (by decide) (by decide) hk) kS_X11_copy hl hR rfl rfl rfl rfl (by decide) hP (rf_DM hD) hS rfl hls rfl hr hdg (fun H1 locs1 h1 h2 => kk H1 locs1 h1 h2)
theorem zM_m_now_m_best (hC : rf_C p E s m args meth c cc nL own ret A0) (hD : va_D A0 (cM E a I0 B9)) (hP : va_P (rf_D E) vwCl (cM E a I A) H) (hS : va_S A0 s.heap H locs) {sp dp n : Int32} (hk : rf_cok sp dp n 8 8 = true) {f g : Nat → Int32} (hv : A 8 = f) (hg : A 9 = g) (hl : Cond.methodLink own index yX11_copy ∈ rf_gt) (hls : ls.size = nL) (hr : (rest.map fun v => v.category).sum ≤ 8) (hR : 0 + 1 ≤ R.frames ∧ 8 + (6 + 11) + 0 ≤ R.locals) (hdg : decode cc pc = .ok (.invokestatic index, 3)) (A9 : Nat → Nat → Int32) (h9 : rf_up1 A 9 (va_cpy f g sp.toNatClampNeg dp.toNatClampNeg n.toNatClampNeg) = A9) (kk : ∀ (H1 : Heap) (locs1 : List Loc), va_P (rf_D E) vwCl (cM E a I A9) H1 → va_S A0 s.heap H1 locs1 → W p l e R s m args below meth c H1 locs1 0 0 Q (F0 m (pc + 3) ls rest)) : W p l e R s m args below meth c H locs 0 0 Q (F0 m pc ls (.int n :: .int dp :: .ref (a 10) :: .int sp :: .ref (a 9) :: rest)) := by
  subst hv; subst hg; subst h9; exact rf_sv2 (q1 := 9) (q := 10) hC (c_X11_copy l E (a 9) (a 10) 8 8 sp dp n (A 8) (A 9) (by decide) (by decide) hk) kS_X11_copy hl hR rfl rfl rfl rfl (by decide) hP (rf_DM hD) hS rfl hls rfl hr hdg (fun H1 locs1 h1 h2 => kk H1 locs1 h1 h2)
theorem zM_m_st_m_undone (hC : rf_C p E s m args meth c cc nL own ret A0) (hD : va_D A0 (cM E a I0 B9)) (hP : va_P (rf_D E) vwCl (cM E a I A) H) (hS : va_S A0 s.heap H locs) {sp dp n : Int32} (hk : rf_cok sp dp n 26 416 = true) {f g : Nat → Int32} (hv : A 4 = f) (hg : A 5 = g) (hl : Cond.methodLink own index yX11_copy ∈ rf_gt) (hls : ls.size = nL) (hr : (rest.map fun v => v.category).sum ≤ 8) (hR : 0 + 1 ≤ R.frames ∧ 8 + (6 + 11) + 0 ≤ R.locals) (hdg : decode cc pc = .ok (.invokestatic index, 3)) (A9 : Nat → Nat → Int32) (h9 : rf_up1 A 5 (va_cpy f g sp.toNatClampNeg dp.toNatClampNeg n.toNatClampNeg) = A9) (kk : ∀ (H1 : Heap) (locs1 : List Loc), va_P (rf_D E) vwCl (cM E a I A9) H1 → va_S A0 s.heap H1 locs1 → W p l e R s m args below meth c H1 locs1 0 0 Q (F0 m (pc + 3) ls rest)) : W p l e R s m args below meth c H locs 0 0 Q (F0 m pc ls (.int n :: .int dp :: .ref (a 6) :: .int sp :: .ref (a 5) :: rest)) := by
  subst hv; subst hg; subst h9; exact rf_sv2 (q1 := 5) (q := 6) hC (c_X11_copy l E (a 5) (a 6) 26 416 sp dp n (A 4) (A 5) (by decide) (by decide) hk) kS_X11_copy hl hR rfl rfl rfl rfl (by decide) hP (rf_DM hD) hS rfl hls rfl hr hdg (fun H1 locs1 h1 h2 => kk H1 locs1 h1 h2)
theorem zM_m_undone_m_st (hC : rf_C p E s m args meth c cc nL own ret A0) (hD : va_D A0 (cM E a I0 B9)) (hP : va_P (rf_D E) vwCl (cM E a I A) H) (hS : va_S A0 s.heap H locs) {sp dp n : Int32} (hk : rf_cok sp dp n 416 26 = true) {f g : Nat → Int32} (hv : A 5 = f) (hg : A 4 = g) (hl : Cond.methodLink own index yX11_copy ∈ rf_gt) (hls : ls.size = nL) (hr : (rest.map fun v => v.category).sum ≤ 8) (hR : 0 + 1 ≤ R.frames ∧ 8 + (6 + 11) + 0 ≤ R.locals) (hdg : decode cc pc = .ok (.invokestatic index, 3)) (A9 : Nat → Nat → Int32) (h9 : rf_up1 A 4 (va_cpy f g sp.toNatClampNeg dp.toNatClampNeg n.toNatClampNeg) = A9) (kk : ∀ (H1 : Heap) (locs1 : List Loc), va_P (rf_D E) vwCl (cM E a I A9) H1 → va_S A0 s.heap H1 locs1 → W p l e R s m args below meth c H1 locs1 0 0 Q (F0 m (pc + 3) ls rest)) : W p l e R s m args below meth c H locs 0 0 Q (F0 m pc ls (.int n :: .int dp :: .ref (a 5) :: .int sp :: .ref (a 6) :: rest)) := by
  subst hv; subst hg; subst h9; exact rf_sv2 (q1 := 6) (q := 5) hC (c_X11_copy l E (a 6) (a 5) 416 26 sp dp n (A 5) (A 4) (by decide) (by decide) hk) kS_X11_copy hl hR rfl rfl rfl rfl (by decide) hP (rf_DM hD) hS rfl hls rfl hr hdg (fun H1 locs1 h1 h2 => kk H1 locs1 h1 h2)
theorem zM_m_st_m_kept (hC : rf_C p E s m args meth c cc nL own ret A0) (hD : va_D A0 (cM E a I0 B9)) (hP : va_P (rf_D E) vwCl (cM E a I A) H) (hS : va_S A0 s.heap H locs) {sp dp n : Int32} (hk : rf_cok sp dp n 26 78 = true) {f g : Nat → Int32} (hv : A 4 = f) (hg : A 6 = g) (hl : Cond.methodLink own index yX11_copy ∈ rf_gt) (hls : ls.size = nL) (hr : (rest.map fun v => v.category).sum ≤ 8) (hR : 0 + 1 ≤ R.frames ∧ 8 + (6 + 11) + 0 ≤ R.locals) (hdg : decode cc pc = .ok (.invokestatic index, 3)) (A9 : Nat → Nat → Int32) (h9 : rf_up1 A 6 (va_cpy f g sp.toNatClampNeg dp.toNatClampNeg n.toNatClampNeg) = A9) (kk : ∀ (H1 : Heap) (locs1 : List Loc), va_P (rf_D E) vwCl (cM E a I A9) H1 → va_S A0 s.heap H1 locs1 → W p l e R s m args below meth c H1 locs1 0 0 Q (F0 m (pc + 3) ls rest)) : W p l e R s m args below meth c H locs 0 0 Q (F0 m pc ls (.int n :: .int dp :: .ref (a 7) :: .int sp :: .ref (a 5) :: rest)) := by
  subst hv; subst hg; subst h9; exact rf_sv2 (q1 := 5) (q := 7) hC (c_X11_copy l E (a 5) (a 7) 26 78 sp dp n (A 4) (A 6) (by decide) (by decide) hk) kS_X11_copy hl hR rfl rfl rfl rfl (by decide) hP (rf_DM hD) hS rfl hls rfl hr hdg (fun H1 locs1 h1 h2 => kk H1 locs1 h1 h2)
theorem zM_m_kept_m_st (hC : rf_C p E s m args meth c cc nL own ret A0) (hD : va_D A0 (cM E a I0 B9)) (hP : va_P (rf_D E) vwCl (cM E a I A) H) (hS : va_S A0 s.heap H locs) {sp dp n : Int32} (hk : rf_cok sp dp n 78 26 = true) {f g : Nat → Int32} (hv : A 6 = f) (hg : A 4 = g) (hl : Cond.methodLink own index yX11_copy ∈ rf_gt) (hls : ls.size = nL) (hr : (rest.map fun v => v.category).sum ≤ 8) (hR : 0 + 1 ≤ R.frames ∧ 8 + (6 + 11) + 0 ≤ R.locals) (hdg : decode cc pc = .ok (.invokestatic index, 3)) (A9 : Nat → Nat → Int32) (h9 : rf_up1 A 4 (va_cpy f g sp.toNatClampNeg dp.toNatClampNeg n.toNatClampNeg) = A9) (kk : ∀ (H1 : Heap) (locs1 : List Loc), va_P (rf_D E) vwCl (cM E a I A9) H1 → va_S A0 s.heap H1 locs1 → W p l e R s m args below meth c H1 locs1 0 0 Q (F0 m (pc + 3) ls rest)) : W p l e R s m args below meth c H locs 0 0 Q (F0 m pc ls (.int n :: .int dp :: .ref (a 5) :: .int sp :: .ref (a 7) :: rest)) := by
  subst hv; subst hg; subst h9; exact rf_sv2 (q1 := 7) (q := 5) hC (c_X11_copy l E (a 7) (a 5) 78 26 sp dp n (A 6) (A 4) (by decide) (by decide) hk) kS_X11_copy hl hR rfl rfl rfl rfl (by decide) hP (rf_DM hD) hS rfl hls rfl hr hdg (fun H1 locs1 h1 h2 => kk H1 locs1 h1 h2)
end FCM
