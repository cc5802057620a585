/-! ear, person, led -/
theorem earAtX_s {ear : Int32} {he : Nat → Int32} {k : Nat} (hk : k < 24) : f_X9_earAt ear he (nI k) = some (if nI 0 < he k then he k else ear) := by
  unfold f_X9_earAt
  simp (disch := omega) only [pb_lits, pb_ltT, pb_ltF, pb_leT, pb_leF, pb_eqT, pb_eqF, pb_lt, pb_le, pb_eq, pb_add, pb_mul, pb_sub, pb_cl, pb_ibt, pb_eqm, pb_meq, pb_ltm, pb_mlt, pb_lem, pb_mle, ite_true, ite_false, reduceIte, not_true_eq_false, not_false_eq_true, pb_bind, Nat.zero_add, Nat.add_zero, pb_le0]
  by_cases h : nI 0 < he k
  · simp only [h, not_true_eq_false, if_true, if_false]
  · simp only [h, not_false_eq_true, if_true, if_false]
theorem earAtM_s {r : Nat → Int32} {k : Nat} (hk : k < 24) : f_X11_earAt r (nI k) = some (if nI 0 < r (129 + k) then r (129 + k) else r 0) := by
  unfold f_X11_earAt
  simp (disch := omega) only [pb_lits, pb_ltT, pb_ltF, pb_leT, pb_leF, pb_eqT, pb_eqF, pb_lt, pb_le, pb_eq, pb_add, pb_mul, pb_sub, pb_cl, pb_ibt, pb_eqm, pb_meq, pb_ltm, pb_mlt, pb_lem, pb_mle, ite_true, ite_false, reduceIte, not_true_eq_false, not_false_eq_true, pb_bind, Nat.zero_add, Nat.add_zero, pb_le0]
  by_cases h : nI 0 < r (129 + k)
  · simp only [h, not_true_eq_false, if_true, if_false]
  · simp only [h, not_false_eq_true, if_true, if_false]
theorem rf_st8 {j : Nat} : rf_step_8 (rf_Inv j) (rf_Inv (j + 1)) := by
  rintro I J A B I' A' v1 ⟨W, P, G, na, ni, h⟩
  have ht := h.tale
  have hP := ht.P8
  unfold f_X10_ear f_X11_ear
  rw [ht.hpc, hasFerryX_s (by omega), isHourX_s, h.hasb]
  simp only [Option.bind_some, refused_s, f_X11_good, whyM_s, f_X11_no]
  by_cases hv : gd 24 v1 = true
  · obtain ⟨k, hk, rfl⟩ := gd_of (by decide) hv
    rw [earAtX_s hk, earAtM_s hk, ← ht.he k hk, ← ht.hear, hv]
    cases decide (0 < P)
    · exact h.q false true 0 rfl rfl
    · exact h.q true true _ rfl rfl
  · rw [Bool.not_eq_true] at hv
    rw [hv]
    cases decide (0 < P)
    · exact h.q false false 0 rfl rfl
    · exact h.q true false 0 rfl rfl
theorem holdsX_s (s : Int32) {k : Nat} (h : k < 32) : f_X10_holds s (nI k) = some (bI (bt s k)) := by
  unfold f_X10_holds
  simp (disch := omega) only [pb_lits, pb_ltT, pb_ltF, pb_leT, pb_leF, pb_eqT, pb_eqF, pb_lt, pb_le, pb_eq, pb_add, pb_mul, pb_sub, pb_cl, pb_ibt, pb_eqm, pb_meq, pb_ltm, pb_mlt, pb_lem, pb_mle, ite_true, ite_false, reduceIte, not_true_eq_false, not_false_eq_true, pb_bind, Nat.zero_add, Nat.add_zero, pb_hold]
  cases bt s k <;> rfl
theorem hasBitM_s (s : Int32) {k : Nat} (h : k < 32) : f_X11_hasBit s (nI k) = some (bI (bt s k)) := by
  unfold f_X11_hasBit
  simp (disch := omega) only [pb_lits, pb_ltT, pb_ltF, pb_leT, pb_leF, pb_eqT, pb_eqF, pb_lt, pb_le, pb_eq, pb_add, pb_mul, pb_sub, pb_cl, pb_ibt, pb_eqm, pb_meq, pb_ltm, pb_mlt, pb_lem, pb_mle, ite_true, ite_false, reduceIte, not_true_eq_false, not_false_eq_true, pb_bind, Nat.zero_add, Nat.add_zero, pb_hold]
  cases bt s k <;> rfl
theorem bankOf_s (far : Int32) {k : Nat} (h : k < 32) : f_X2_bankOf far (nI k) = some (bI (bt far k)) := by
  unfold f_X2_bankOf
  rw [holdsX_s far h]
  cases bt far k <;> rfl
theorem kindOf_s (r : Nat → Int32) {k : Nat} (h : k < 8) : f_X11_kindOf r (nI k) = some (r (89 + 4 * k)) := by
  unfold f_X11_kindOf
  simp (disch := omega) only [pb_lits, pb_ltT, pb_ltF, pb_leT, pb_leF, pb_eqT, pb_eqF, pb_lt, pb_le, pb_eq, pb_add, pb_mul, pb_sub, pb_cl, pb_ibt, pb_eqm, pb_meq, pb_ltm, pb_mlt, pb_lem, pb_mle, ite_true, ite_false, reduceIte, not_true_eq_false, not_false_eq_true, pb_bind, Nat.zero_add, Nat.add_zero]
theorem priceOf_s (r : Nat → Int32) {k : Nat} (h : k < 10) : f_X11_priceOf r (nI k) = some (r (9 + 8 * k)) := by
  unfold f_X11_priceOf
  simp (disch := omega) only [pb_lits, pb_ltT, pb_ltF, pb_leT, pb_leF, pb_eqT, pb_eqF, pb_lt, pb_le, pb_eq, pb_add, pb_mul, pb_sub, pb_cl, pb_ibt, pb_eqm, pb_meq, pb_ltm, pb_mlt, pb_lem, pb_mle, ite_true, ite_false, reduceIte, not_true_eq_false, not_false_eq_true, pb_bind, Nat.zero_add, Nat.add_zero]
theorem rf_st7 {j : Nat} : rf_step_7 (rf_Inv j) (rf_Inv (j + 1)) := by
  rintro I J A B I' A' v1 v2 ⟨W, P, G, na, ni, h⟩
  have ht := h.tale
  have hP := ht.P8
  unfold f_X10_person f_X11_person f_X10_person_22 f_X10_person_23 f_X11_person_21
  rw [ht.hpc, isPersonX_s, isPersonM_s h.hasb ht.hpc' (by omega), show (4 : Int32) = nI 4 from rfl, gd_inn 4 (by decide)]
  simp only [Option.bind_some, f_X11_good, f_X11_no]
  have r0 : f_X10_refused (I 3) 0 1 = some (1, 1) := refused_s (I 3) false true
  have r1 : f_X10_refused (I 3) 1 1 = some (0, 0) := refused_s (I 3) true true
  simp only [r0, r1, Option.bind_some, bI_0]
  by_cases hv : gd P v1 = true
  · obtain ⟨k, hk, rfl⟩ := gd_of (by omega) hv
    rw [hv]
    by_cases hw : gd 5 v2 = true
    · obtain ⟨n, hn, rfl⟩ := gd_of (by decide) hw
      rw [bankOf_s _ (by omega), kindOf_s _ (by omega), hw]
      have e2 := ht.pers k hk
      obtain rfl | rfl | rfl | rfl | rfl : n = 0 ∨ n = 1 ∨ n = 2 ∨ n = 3 ∨ n = 4 := by omega
      all_goals simp (disch := omega) only [pb_lits, pb_ltT, pb_ltF, pb_leT, pb_leF, pb_eqT, pb_eqF, pb_lt, pb_le, pb_eq, pb_add, pb_mul, pb_sub, pb_cl, pb_ibt, pb_eqm, pb_meq, pb_ltm, pb_mlt, pb_lem, pb_mle, ite_true, ite_false, reduceIte, not_true_eq_false, not_false_eq_true, pb_bind, Nat.zero_add, Nat.add_zero]
      · exact h.q true true (A 14 k) rfl (by rw [e2.hkind]; rfl)
      · refine h.q true true (bI (bt (I 7) k)) rfl ?_
        rw [h.now.hbank k hk]
        cases bt (I 7) k <;> rfl
      · exact h.q true true (A 1 k) rfl (by rw [h.now.hwords k hk]; rfl)
      · exact h.q true true (A 2 k) rfl (by rw [h.now.hwet k hk]; rfl)
      · exact h.q true true (A 16 k) rfl (by rw [e2.herr]; rw [show 89 + 4 * k + 3 = 92 + 4 * k by omega]; rfl)
    · rw [Bool.not_eq_true] at hw
      rw [hw]
      have : (if v2 < 0 then some ((-1 : Int32), (1 : Int32)) else if nI 4 < v2 then some (-1, 1) else none) = some (-1, 1) := by
        by_cases h1 : v2 < 0
        · rw [if_pos h1]
        · rw [if_neg h1]
          by_cases h2 : nI 4 < v2
          · rw [if_pos h2]
          · exfalso
            obtain ⟨c, hc, rfl⟩ := pb_ofle (n := 4) (by decide) (Int32.not_lt.mp h1) (Int32.not_lt.mp h2)
            rw [gd_nI (by decide) (by omega)] at hw
            cases hw
      refine h.q false true 0 ?_ rfl
      by_cases h1 : v2 < 0
      · simp only [h1, if_true]; rfl
      · by_cases h2 : nI 4 < v2
        · simp only [h1, h2, if_true, if_false]; rfl
        · rw [if_neg h1, if_neg h2] at this; cases this
  · rw [Bool.not_eq_true] at hv
    rw [hv]
    exact h.q false true 0 rfl rfl
theorem led_l {P : Nat} (hP : P ≤ 8) {has : Int32} (hh : has = bI (decide (0 < P))) {r st wet : Nat → Int32} (hr : r 3 = nI P) {j : Nat} (hj : j < 2 ^ 31) (hw : ∀ p, p < P → wet p = st (16 + p)) (hw0 : ∀ p, p < P → ∃ c, c ≤ j ∧ wet p = nI c) (v th : Int32) :
    ∀ d n n' i : Nat, ∀ b : Int32, i + d = P → d < n → d < n' → ∃ z : Int32 × Int32, f_X10_led_4 (nI P) wet n v b (nI i) = some z ∧ f_X11_led_4 has r st n' v b (nI i) th = some (z.2, z.1) ∧ (z.1 = 0 ∨ z.1 = 1) := by
  intro d
  induction d with
  | zero =>
    intro n n' i b hi hn hn'
    obtain ⟨m, rfl, hm⟩ := fuel_succ hn
    obtain ⟨m', rfl, hm'⟩ := fuel_succ hn'
    obtain rfl : i = P := by omega
    refine ⟨(1, 0), ?_, ?_, Or.inr rfl⟩
    · rw [f_X10_led_4]; simp (disch := omega) only [pb_lits, pb_ltT, pb_ltF, pb_leT, pb_leF, pb_eqT, pb_eqF, pb_lt, pb_le, pb_eq, pb_add, pb_mul, pb_sub, pb_cl, pb_ibt, pb_eqm, pb_meq, pb_ltm, pb_mlt, pb_lem, pb_mle, ite_true, ite_false, reduceIte, not_true_eq_false, not_false_eq_true, pb_bind, Nat.zero_add, Nat.add_zero]
    · rw [f_X11_led_4, f_X11_led_57]
      show (if has = 0 then _ else if r 3 ≤ nI i then _ else _) = _
      rw [hr]
      simp (disch := omega) only [pb_lits, pb_ltT, pb_ltF, pb_leT, pb_leF, pb_eqT, pb_eqF, pb_lt, pb_le, pb_eq, pb_add, pb_mul, pb_sub, pb_cl, pb_ibt, pb_eqm, pb_meq, pb_ltm, pb_mlt, pb_lem, pb_mle, ite_true, ite_false, reduceIte, not_true_eq_false, not_false_eq_true, pb_bind, Nat.zero_add, Nat.add_zero]
      rw [ite_self]
  | succ d ih =>
    intro n n' i b hi hn hn'
    obtain ⟨m, rfl, hm⟩ := fuel_succ hn
    obtain ⟨m', rfl, hm'⟩ := fuel_succ hn'
    obtain ⟨c, hc, ec⟩ := hw0 i (by omega)
    have ew := hw i (by omega)
    have e12 : ¬ has = 0 := by rw [hh, decide_eq_true (by omega : 0 < P)]; decide
    rw [f_X10_led_4, f_X11_led_4, f_X10_led_37, f_X11_led_51, f_X10_led_37, f_X11_led_51, if_neg e12, show Int32.toNatClampNeg 3 = 3 from rfl, hr]
    simp (disch := omega) only [pb_lits, pb_ltT, pb_ltF, pb_leT, pb_leF, pb_eqT, pb_eqF, pb_lt, pb_le, pb_eq, pb_add, pb_mul, pb_sub, pb_cl, pb_ibt, pb_eqm, pb_meq, pb_ltm, pb_mlt, pb_lem, pb_mle, ite_true, ite_false, reduceIte, not_true_eq_false, not_false_eq_true, pb_bind, Nat.zero_add, Nat.add_zero]
    rw [← ew, ec]
    by_cases h0 : c = 0
    · subst h0
      simp (disch := omega) only [pb_lits, pb_ltT, pb_ltF, pb_leT, pb_leF, pb_eqT, pb_eqF, pb_lt, pb_le, pb_eq, pb_add, pb_mul, pb_sub, pb_cl, pb_ibt, pb_eqm, pb_meq, pb_ltm, pb_mlt, pb_lem, pb_mle, ite_true, ite_false, reduceIte, not_true_eq_false, not_false_eq_true, pb_bind, Nat.zero_add, Nat.add_zero]
      exact ih m m' (i + 1) b (by omega) (by omega) (by omega)
    · simp (disch := omega) only [pb_lits, pb_ltT, pb_ltF, pb_leT, pb_leF, pb_eqT, pb_eqF, pb_lt, pb_le, pb_eq, pb_add, pb_mul, pb_sub, pb_cl, pb_ibt, pb_eqm, pb_meq, pb_ltm, pb_mlt, pb_lem, pb_mle, ite_true, ite_false, reduceIte, not_true_eq_false, not_false_eq_true, pb_bind, Nat.zero_add, Nat.add_zero]
      by_cases hb : b = v
      · rw [if_pos hb, if_pos hb]
        exact ⟨(0, nI i), rfl, rfl, Or.inl rfl⟩
      · rw [if_neg hb, if_neg hb]
        exact ih m m' (i + 1) _ (by omega) (by omega) (by omega)
theorem rf_st42 {j : Nat} (hj : j < 2 ^ 31) : rf_step_42 (rf_Inv j) (rf_Inv (j + 1)) := by
  rintro I J A B I' A' v1 ⟨W, P, G, na, ni, h⟩
  have ht := h.tale
  have hP := ht.P8
  obtain ⟨z, h1, h2, h3⟩ := led_l (P := P) hP h.hasb ht.hpc' hj h.now.hwet h.now.hwet0 v1 (I' 0) P rf_fu rf_fu 0 0 (by omega) (by show P < 4096; omega) (by show P < 4096; omega)
  refine ⟨z, (z.2, z.1), ?_, h2, h3, rfl, fun _ => rfl, h.quiet h.fault rfl rfl rfl rfl⟩
  rw [ht.hpc]
  exact h1
