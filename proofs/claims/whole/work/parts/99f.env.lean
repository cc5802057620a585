/-! the environment, out of the start -/
def rf_tm (i : Nat) : Term := .string (rf_sl.getD i ("", 0, "")).1 (rf_sl.getD i ("", 0, "")).2.1
abbrev rf_nar : List Cond := flatC (Jvm.Cond.and given_1 narrow_1)
theorem rf_x1 : ∀ i : Nat, i < 49 → Cond.exactly (rf_tm i) "java/lang/String" ∈ rf_nar := by decide +kernel
theorem rf_x2 : ∀ i : Nat, i < 49 → Cond.eq (.field (rf_tm i) "java/lang/String" "coder" "B") (.int 0) ∈ rf_nar := by decide +kernel
theorem rf_x3 : ∀ i : Nat, i < 49 → Cond.arrayOf (.field (rf_tm i) "java/lang/String" "value" "[B") .byte ∈ rf_nar := by decide +kernel
theorem rf_x4 : ∀ i : Nat, i < 49 → Cond.eq (.length (.field (rf_tm i) "java/lang/String" "value" "[B")) (.int (Int32.ofNat (rf_len i))) ∈ rf_nar := by decide +kernel
def rf_e5 : List Cond := (List.range 49).flatMap fun i => (List.range (rf_len i)).map fun j => Cond.eq (.elem (.field (rf_tm i) "java/lang/String" "value" "[B") (.int (Int32.ofNat j))) (.int (rf_byt i j))
theorem rf_e5s : rf_e5.isSublist rf_nar = true := by decide +kernel
theorem rf_x5 : ∀ i : Nat, i < 49 → ∀ j : Nat, j < rf_len i → Cond.eq (.elem (.field (rf_tm i) "java/lang/String" "value" "[B") (.int (Int32.ofNat j))) (.int (rf_byt i j)) ∈ rf_nar := by
  intro i hi j hj
  refine (List.isSublist_iff_sublist.mp rf_e5s).subset ?_
  exact List.mem_flatMap.mpr ⟨i, List.mem_range.mpr hi, List.mem_map.mpr ⟨j, List.mem_range.mpr hj, rfl⟩⟩
theorem rf_x6 : ∀ i : Nat, i < 49 → ∀ q : String × Nat × String, rf_sl[i]? = some q → Cond.stringRef q.1 q.2.1 q.2.2 ∈ tables_1 := by
  have h : ∀ i : Nat, i < 49 → Cond.stringRef (rf_sl.getD i ("", 0, "")).1 (rf_sl.getD i ("", 0, "")).2.1 (rf_sl.getD i ("", 0, "")).2.2 ∈ tables_1 := by decide +kernel
  intro i hi q hq
  have := h i hi
  rw [List.getD_eq_getElem?_getD, hq] at this
  exact this
theorem rf_str1 {s : State} {args : Array Value} (hgv : ∀ w ∈ rf_nar, w.before args s = true) (i : Nat) (hi : i < 49) : ∃ q : Nat × Nat, (rf_tm i).eval args s none [] s = some (.ref q.1) ∧ va_O "java/lang/String" q.1 (rf_A s) s s.heap ∧ va_OF "java/lang/String" "coder" "B" (.int 0) q.1 (rf_A s) s s.heap ∧ va_OF "java/lang/String" "value" "[B" (.ref q.2) q.1 (rf_A s) s s.heap ∧ va_T .byte q.2 (rf_len i) (fun j => .int (rf_byt i j)) (rf_A s) s s.heap := by
  have z : ∀ {k : Nat}, k < 1 → k = 0 := fun h => by omega
  obtain ⟨adK, adV, h1, h2⟩ := vk_Sof (args := args) (s := s) (N := 1) (tm := fun _ => rf_tm i) (len := [rf_len i]) (byt := [rf_sb.getD i []]) (A := rf_A s)
    (fun k hk => by rw [z hk]; exact rf_len_lt i) (fun k _ => hgv _ (rf_x1 i hi)) (fun k _ => hgv _ (rf_x2 i hi)) (fun k _ => hgv _ (rf_x3 i hi)) (fun k hk => by rw [z hk]; exact hgv _ (rf_x4 i hi)) (fun k hk j hj => by rw [z hk] at hj ⊢; exact hgv _ (rf_x5 i hi j hj)) (fun i j hi hj hne => absurd ((z hi).trans (z hj).symm) hne) (fun a h => Nat.not_le.mpr h)
  obtain ⟨g1, g2, g3, g4⟩ := h1.1 0 (by decide)
  exact ⟨(adK 0, adV 0), h2 0 (by decide), g1, g2, g3, g4⟩
theorem rf_nwt : ∀ w ∈ rf_nw, w ∈ tables_1 := by decide +kernel
theorem rf_y1 : Cond.eq (.static "java/lang/String" "COMPACT_STRINGS" "Z") (.int 1) ∈ rf_nar := by decide +kernel
theorem rf_y2 : Cond.isRef (.static "jdk/internal/util/Preconditions" "SIOOBE_FORMATTER" "Ljava/util/function/BiFunction;") ∈ rf_nar := by decide +kernel
theorem rf_y3 : Cond.laysStatic "java/lang/String" "COMPACT_STRINGS" "Z" ∈ tables_1 := by decide +kernel
theorem rf_y4 : Cond.laysStatic "jdk/internal/util/Preconditions" "SIOOBE_FORMATTER" "Ljava/util/function/BiFunction;" ∈ tables_1 := by decide +kernel
theorem rf_y5 : Cond.initialized "java/lang/String" ∈ tables_1 := by decide +kernel
theorem rf_y6 : Cond.initialized "jdk/internal/util/Preconditions" ∈ tables_1 := by decide +kernel
theorem rf_arr {s : State} {args : Array Value} {ty : FieldType} (h : (Cond.arrayClass ty).before args s = true) : ∃ cA : ClassId, ArrOfT s cA ty ∧ s.vm.findClass ("[" ++ ty.toString) = some cA := by
  obtain ⟨cA, kA, comp, h1, h2, h3⟩ := Cond.arrayClass_spec h
  exact ⟨cA, fun n z => ⟨fun k h => (by cases h), kA, h2, comp, h3⟩, h1⟩
set_option maxHeartbeats 4000000 in
set_option maxRecDepth 100000 in
theorem rf_env {s : State} {args : Array Value} (hts : ∀ w ∈ lw_tbl, w.before args s = true) (hgv : ∀ w ∈ rf_nar, w.before args s = true) : ∃ E : rf_E, rf_KS E (rf_A s) s := by
  have hgt : ∀ w ∈ rf_gt, w.before args s = true := fun w hw => hts w (List.mem_filter.mp hw).1
  have htb : ∀ w ∈ tables_1, w.before args s = true := fun w hw => hts w (List.mem_append_right _ hw)
  have hA : ∀ a : Nat, a < s.heap.size → ¬ rf_A s a := fun a h => Nat.not_le.mpr h
  obtain ⟨c0, i0, k0⟩ := u_known (C := RX0) (T := TX0) (N := 3) hgt inX0 (hgt _ (rf_gm (w := Cond.instantiable RX0 3) 290 (by decide +kernel) rfl))
  obtain ⟨c1, i1, k1⟩ := u_known (C := RX1) (T := TX1) (N := 4) hgt inX1 (hgt _ (rf_gm (w := Cond.instantiable RX1 4) 250 (by decide +kernel) rfl))
  obtain ⟨c2, i2, k2⟩ := u_known (C := RX2) (T := TX2) (N := 6) hgt inX2 (hgt _ (rf_gm (w := Cond.instantiable RX2 6) 34 (by decide +kernel) rfl))
  obtain ⟨c3, i3, k3⟩ := u_known (C := RX3) (T := TX3) (N := 2) hgt inX3 (hgt _ (rf_gm (w := Cond.instantiable RX3 2) 207 (by decide +kernel) rfl))
  obtain ⟨c4, i4, k4⟩ := u_known (C := RX4) (T := TX4) (N := 7) hgt inX4 (hgt _ (rf_gm (w := Cond.instantiable RX4 7) 222 (by decide +kernel) rfl))
  obtain ⟨c5, i5, k5⟩ := u_known (C := RX5) (T := TX5) (N := 17) hgt inX5 (hgt _ (rf_gm (w := Cond.instantiable RX5 17) 332 (by decide +kernel) rfl))
  obtain ⟨c6, i6, k6⟩ := u_known (C := RX6) (T := TX6) (N := 3) hgt inX6 (hgt _ (rf_gm (w := Cond.instantiable RX6 3) 73 (by decide +kernel) rfl))
  obtain ⟨c7, i7, k7⟩ := u_known (C := RX7) (T := TX7) (N := 4) hgt inX7 (hgt _ (rf_gm (w := Cond.instantiable RX7 4) 271 (by decide +kernel) rfl))
  obtain ⟨c8, i8, k8⟩ := u_known (C := RX8) (T := TX8) (N := 4) hgt inX8 (hgt _ (rf_gm (w := Cond.instantiable RX8 4) 307 (by decide +kernel) rfl))
  obtain ⟨c9, i9, k9⟩ := u_known (C := RX9) (T := TX9) (N := 20) hgt inX9 (hgt _ (rf_gm (w := Cond.instantiable RX9 20) 79 (by decide +kernel) rfl))
  obtain ⟨c10, i10, k10⟩ := u_known (C := RX10) (T := TX10) (N := 17) hgt inX10 (hgt _ (rf_gm (w := Cond.instantiable RX10 17) 26 (by decide +kernel) rfl))
  obtain ⟨c11, i11, k11⟩ := u_known (C := RX11) (T := TX11) (N := 37) hgt inX11 (hgt _ (rf_gm (w := Cond.instantiable RX11 37) 1274 (by decide +kernel) rfl))
  obtain ⟨cB, hB⟩ := rf_arr (hgt _ rf_ac_byte)
  obtain ⟨cI, hI⟩ := rf_arr (hgt _ rf_ac_int)
  obtain ⟨cJ, hJ⟩ := rf_arr (hgt _ rf_ac_long)
  have h0 : ∀ i : Nat, ∃ q : Nat × Nat, i < 49 → (rf_tm i).eval args s none [] s = some (.ref q.1) ∧ va_O "java/lang/String" q.1 (rf_A s) s s.heap ∧ va_OF "java/lang/String" "coder" "B" (.int 0) q.1 (rf_A s) s s.heap ∧ va_OF "java/lang/String" "value" "[B" (.ref q.2) q.1 (rf_A s) s s.heap ∧ va_T .byte q.2 (rf_len i) (fun j => .int (rf_byt i j)) (rf_A s) s s.heap := by
    intro i
    by_cases hi : i < 49
    · obtain ⟨q, hq⟩ := rf_str1 hgv i hi
      exact ⟨q, fun _ => hq⟩
    · exact ⟨(0, 0), fun h => absurd h hi⟩
  obtain ⟨ad, had⟩ := Classical.axiomOfChoice h0
  refine ⟨(fun k => [c0, c1, c2, c3, c4, c5, c6, c7, c8, c9, c10, c11].getD k c0, fun k => [i0, i1, i2, i3, i4, i5, i6, i7, i8, i9, i10, i11].getD k i0, cB, cI, cJ, fun i => (ad i).1, fun i => (ad i).2), ⟨?_, ?_⟩, ?_, ⟨fun i hi => (had i hi).2, va_Zof (htb _ rf_y3) (htb _ rf_y5) (va_eqi (hgv _ rf_y1)) hA, va_Zqof (htb _ rf_y4) (htb _ rf_y6) (hgv _ rf_y2) hA⟩, ?_⟩
  · intro k q hq
    have hk : k < 12 := (List.getElem?_eq_some_iff.mp hq).1
    rcases (show k = 0 ∨ k = 1 ∨ k = 2 ∨ k = 3 ∨ k = 4 ∨ k = 5 ∨ k = 6 ∨ k = 7 ∨ k = 8 ∨ k = 9 ∨ k = 10 ∨ k = 11 by omega) with rfl | rfl | rfl | rfl | rfl | rfl | rfl | rfl | rfl | rfl | rfl | rfl
    · cases hq; exact k0
    · cases hq; exact k1
    · cases hq; exact k2
    · cases hq; exact k3
    · cases hq; exact k4
    · cases hq; exact k5
    · cases hq; exact k6
    · cases hq; exact k7
    · cases hq; exact k8
    · cases hq; exact k9
    · cases hq; exact k10
    · cases hq; exact k11
  · intro k q hq
    have hk : k < 3 := (List.getElem?_eq_some_iff.mp hq).1
    rcases (show k = 0 ∨ k = 1 ∨ k = 2 by omega) with rfl | rfl | rfl
    · cases hq; exact hB
    · cases hq; exact hI
    · cases hq; exact hJ
  · intro w hw
    obtain ⟨a1, i1, x1, b1, rfl⟩ := rf_nwf hw
    exact va_Nw.of rfl (htb _ (rf_nwt _ hw))
  · intro i q hq
    have hi : i < 49 := (List.getElem?_eq_some_iff.mp hq).1
    have h1 := htb _ (rf_x6 i hi q hq)
    have h2 := (had i hi).1
    unfold rf_tm at h2
    rw [List.getD_eq_getElem?_getD, hq] at h2
    have g1 : (Cond.stringRef q.1 q.2.1 q.2.2).before #[] s = true := by
      first
        | exact va_tabs rfl rfl h1
        | (simp only [Cond.before, Cond.holds, Cond.value, State.names, State.poolOf?, State.resolvedAt?] at h1 ⊢; exact h1)
    refine ⟨g1, ?_⟩
    have e1 : (Term.string q.1 q.2.1).eval #[] s none [] s = some (.ref (ad i).1) := by
      rw [Term.string_eval_of_vm (args := args) (U := s) (V := s) rfl]
      exact h2
    exact e1
