/-! the law: calls over a part of its world -/
theorem rf_mid {w1 wc w2 : va_W} {k : Nat} {q : Nat × va_E} (h : wc[k]? = some q) : (w1 ++ (wc ++ w2))[w1.length + k]? = some q := by
  rw [List.getElem?_append_right (by omega)]
  have hk : k < wc.length := (List.getElem?_eq_some_iff.mp h).1
  rw [show w1.length + k - w1.length = k by omega, List.getElem?_append_left hk]
  exact h
theorem rf_midP {D : va_G} {cl : List vw_C} {w1 wc w2 : va_W} {H : Heap} (hP : va_P D cl (w1 ++ (wc ++ w2)) H) : va_P D cl wc H := fun k q h => hP _ q (rf_mid h)
theorem rf_midD {A : Nat → Prop} {w1 wc w2 : va_W} (hD : va_D A (w1 ++ (wc ++ w2))) : va_D A wc := ⟨fun i j p q hi hj e => by
  have := hD.1 _ _ p q (rf_mid hi) (rf_mid hj) e
  omega, fun k q h => hD.2 _ q (rf_mid h)⟩
theorem rf_fst {wc wc' : va_W} (h : wc'.map Prod.fst = wc.map Prod.fst) {k : Nat} {q : Nat × va_E} (hq : wc'[k]? = some q) : ∃ e, wc[k]? = some (q.1, e) := by
  have h1 : (wc'.map Prod.fst)[k]? = some q.1 := by rw [List.getElem?_map, hq]; rfl
  rw [h, List.getElem?_map] at h1
  cases hw : wc[k]? with
  | none => rw [hw] at h1; cases h1
  | some r =>
    rw [hw] at h1
    have h2 : r.1 = q.1 := Option.some.inj h1
    exact ⟨r.2, by rw [← h2]⟩
theorem rf_midB {D : va_G} {cl : List vw_C} {A : Nat → Prop} {w1 wc wc' w2 : va_W} {H H1 : Heap} (hP : va_P D cl (w1 ++ (wc ++ w2)) H) (hD : va_D A (w1 ++ (wc ++ w2))) (ha : wc'.map Prod.fst = wc.map Prod.fst) (hP1 : va_P D cl wc' H1) (hk : ∀ x : Nat, x < H.size → ¬ va_A wc H.size x → H1[x]? = H[x]?) : va_P D cl (w1 ++ (wc' ++ w2)) H1 := by
  have hlen : wc'.length = wc.length := by
    have := congrArg List.length ha
    simpa using this
  refine rf_back hP hP1 hk ?_
  intro j q hq
  by_cases h1 : j < w1.length
  · rw [List.getElem?_append_left h1] at hq
    have h2 : (w1 ++ (wc ++ w2))[j]? = some q := by rw [List.getElem?_append_left h1]; exact hq
    refine Or.inr ⟨h2, fun i r hr e => ?_⟩
    have := hD.1 _ _ r q (rf_mid hr) h2 e
    omega
  · rw [List.getElem?_append_right (by omega)] at hq
    by_cases h3 : j - w1.length < wc'.length
    · rw [List.getElem?_append_left h3] at hq
      exact Or.inl ⟨_, hq⟩
    · rw [List.getElem?_append_right (by omega)] at hq
      have h2 : (w1 ++ (wc ++ w2))[j]? = some q := by
        rw [List.getElem?_append_right (by omega), List.getElem?_append_right (by omega), ← hlen]
        exact hq
      refine Or.inr ⟨h2, fun i r hr e => ?_⟩
      have := hD.1 _ _ r q (rf_mid hr) h2 e
      have hi : i < wc.length := (List.getElem?_eq_some_iff.mp hr).1
      omega
section RFL
variable {p : Program} {l : Launch} {e : Env} {R : Room} {s : State} {m : MethodId} {args : Array Value} {below : List Frame} {meth : Method} {c : Code} {H : Heap} {locs : List Loc} {cells slots : Nat} {Q : State → Prop}
variable {cc : ByteArray} {nL pc : Nat} {ls : Array Slot} {rest st0 : List Value} {own : String} {ret : Option FieldType} {E : rf_E} {A0 : Nat → Prop}
theorem rf_vip (w1 wc wc' w2 : va_W) {C : String} {index q0 ci b n : Nat} {y : MethodName} {bytes : ByteArray} {maxL : Nat} {rt : Option FieldType} {rm : Room} {As : List Value} {r : Int32} {fs : List Value} {qc : vw_C} (hC : rf_C p E s m args meth c cc nL own ret A0) (hM : rf_MI l y bytes maxL rt rm E (.ref b :: As) wc r wc') (ha : wc'.map Prod.fst = wc.map Prod.fst) (hk : rf_kV C y bytes maxL rt n) (hl : Cond.methodLink own index y ∈ rf_gt) (hR : rm.frames + 1 ≤ R.frames ∧ 8 + (maxL + 11) + rm.locals ≤ R.locals) (h0 : rm.cells = 0) (h1 : rm.slots = 0) (hq : wc[q0]? = some (b, .inr (ci, fs))) (hc : vwCl[ci]? = some qc) (hqc : qc.1 = C)
    (hP : va_P (rf_D E) vwCl (w1 ++ (wc ++ w2)) H) (hD : va_D A0 (w1 ++ (wc ++ w2))) (hS : va_S A0 s.heap H locs) (hn : As.length = n) (hls : ls.size = nL) (hst : st0 = As.reverse ++ .ref b :: rest) (hr : (rest.map fun v => v.category).sum ≤ 8) (hdg : decode cc pc = .ok (.invokevirtual index, 3)) (hf : cells ≤ R.cells ∧ slots ≤ R.slots)
    (kk : ∀ (H1 : Heap) (locs1 : List Loc), va_P (rf_D E) vwCl (w1 ++ (wc' ++ w2)) H1 → va_S A0 s.heap H1 locs1 → W p l e R s m args below meth c H1 locs1 cells slots Q (F0 m (pc + 3) ls (.int r :: rest))) : W p l e R s m args below meth c H locs cells slots Q (F0 m pc ls st0) := by
  subst hst; subst hqc
  have hPc := rf_midP hP
  have hDc := rf_midD hD
  have hp := rf_pre (As := .ref b :: As) hC hPc hDc hS
  refine va_calli (va_runV (Ts := rf_gt) ⟨hC.1, hC.2.1, hC.2.2.1, hC.2.2.2.1, hC.2.2.2.2.1⟩ (hM H.size) (rf_cwV hC hk hl h0 h1 hR) ⟨hp.1, va_recv hC.2.2.2.2.2.2.2.1.1 hPc hc hq, hp.2⟩ rfl hn hls rfl (lv_room hr) hdg hf) hS (fun q _ h => rf_sub hC hDc hS q h) (rf_sub hC hDc hS) ?_
  intro r1 u t H1 locs1 ht hvm hp1 hB hz hk1 hS1
  subst hp1
  exact kk H1 locs1 (rf_midB hP hD ha (by rw [← ht]; exact hB) hk1) hS1
end RFL
