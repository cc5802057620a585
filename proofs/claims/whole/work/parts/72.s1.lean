/-! calls that tell little: fault, where, trouble, size, led, ear -/
theorem rf_st2 {j : Nat} : rf_step_2 (rf_Inv j) (rf_Inv (j + 1)) := by
  rintro I J A B I' A' ⟨W, P, G, na, ni, h⟩
  exact ⟨_, _, rfl, rfl, h.fault.1, h.quiet h.fault rfl rfl rfl rfl⟩
theorem rf_st44 {j : Nat} : rf_step_44 (rf_Inv j) (rf_Inv (j + 1)) := by
  rintro I J A B I' A' ⟨W, P, G, na, ni, h⟩
  exact ⟨_, _, rfl, rfl, h.fault.2.1, h.quiet h.fault rfl rfl rfl rfl⟩
theorem rf_st3 {j : Nat} : rf_step_3 (rf_Inv j) (rf_Inv (j + 1)) := by
  rintro I J A B I' A' ⟨W, P, G, na, ni, h⟩
  obtain ⟨f1, f2, f3⟩ := h.fault
  by_cases e : I 3 = 4
  · refine ⟨I 2, (I' 9, 0), ?_, ?_, f3 e, h.quiet h.fault rfl rfl rfl rfl⟩
    · unfold f_X10_where; rw [if_pos e]
    · unfold f_X11_where; rw [← f2, if_pos e]
  · refine ⟨-1, (-1, 0), ?_, ?_, rfl, h.quiet h.fault rfl rfl rfl rfl⟩
    · unfold f_X10_where; rw [if_neg e]
    · unfold f_X11_where; rw [← f2, if_neg e]
theorem hoursTold_l (he : Nat → Int32) : ∀ d n i : Nat, i + d = 24 → d < n → f_X9_hoursTold_4 he n (nI (cntP he i)) (nI i) = some (nI (cntP he 24)) := by
  intro d
  induction d with
  | zero =>
    intro n i hi hn
    obtain ⟨m, rfl, hm⟩ := fuel_succ hn
    obtain rfl : i = 24 := by omega
    rw [f_X9_hoursTold_4]
    simp (disch := omega) only [pb_lits, pb_ltT, pb_ltF, pb_leT, pb_leF, pb_eqT, pb_eqF, pb_lt, pb_le, pb_eq, pb_add, pb_mul, pb_sub, pb_cl, pb_ibt, pb_eqm, pb_meq, pb_ltm, pb_mlt, pb_lem, pb_mle, ite_true, ite_false, reduceIte, not_true_eq_false, not_false_eq_true, pb_bind, Nat.zero_add, Nat.add_zero]
  | succ d ih =>
    intro n i hi hn
    obtain ⟨m, rfl, hm⟩ := fuel_succ hn
    have := ih m (i + 1) (by omega) (by omega)
    rw [cntP] at this
    rw [f_X9_hoursTold_4]
    simp (disch := omega) only [pb_lits, pb_ltT, pb_ltF, pb_leT, pb_leF, pb_eqT, pb_eqF, pb_lt, pb_le, pb_eq, pb_add, pb_mul, pb_sub, pb_cl, pb_ibt, pb_eqm, pb_meq, pb_ltm, pb_mlt, pb_lem, pb_mle, ite_true, ite_false, reduceIte, not_true_eq_false, not_false_eq_true, pb_bind, Nat.zero_add, Nat.add_zero, f_X9_hoursTold_25, pb_le0]
    by_cases h : nI 0 < he i
    · simp only [h, not_true_eq_false, if_true, if_false] at this ⊢
      exact this
    · simp only [h, not_false_eq_true, if_true, if_false] at this ⊢
      exact this
theorem hoursTold_s (he : Nat → Int32) : f_X9_hoursTold he = some (nI (cntP he 24)) := hoursTold_l he 24 rf_fu 0 rfl (by decide)
theorem errandsTold_l (er : Nat → Int32) {P : Nat} (hP : P ≤ 8) : ∀ d n i : Nat, i + d = P → d < n → f_X9_errandsTold_4 (nI P) er n (nI (cntP er i)) (nI i) = some (nI (cntP er P)) := by
  intro d
  induction d with
  | zero =>
    intro n i hi hn
    obtain ⟨m, rfl, hm⟩ := fuel_succ hn
    obtain rfl : i = P := by omega
    rw [f_X9_errandsTold_4]
    simp (disch := omega) only [pb_lits, pb_ltT, pb_ltF, pb_leT, pb_leF, pb_eqT, pb_eqF, pb_lt, pb_le, pb_eq, pb_add, pb_mul, pb_sub, pb_cl, pb_ibt, pb_eqm, pb_meq, pb_ltm, pb_mlt, pb_lem, pb_mle, ite_true, ite_false, reduceIte, not_true_eq_false, not_false_eq_true, pb_bind, Nat.zero_add, Nat.add_zero]
  | succ d ih =>
    intro n i hi hn
    obtain ⟨m, rfl, hm⟩ := fuel_succ hn
    have := ih m (i + 1) (by omega) (by omega)
    rw [cntP] at this
    rw [f_X9_errandsTold_4]
    simp (disch := omega) only [pb_lits, pb_ltT, pb_ltF, pb_leT, pb_leF, pb_eqT, pb_eqF, pb_lt, pb_le, pb_eq, pb_add, pb_mul, pb_sub, pb_cl, pb_ibt, pb_eqm, pb_meq, pb_ltm, pb_mlt, pb_lem, pb_mle, ite_true, ite_false, reduceIte, not_true_eq_false, not_false_eq_true, pb_bind, Nat.zero_add, Nat.add_zero, f_X9_errandsTold_27, pb_le0]
    by_cases h : nI 0 < er i
    · simp only [h, not_true_eq_false, if_true, if_false] at this ⊢
      exact this
    · simp only [h, not_false_eq_true, if_true, if_false] at this ⊢
      exact this
theorem errandsTold_s (er : Nat → Int32) {P : Nat} (hP : P ≤ 8) : f_X9_errandsTold (nI P) er = some (nI (cntP er P)) := errandsTold_l er hP P rf_fu 0 (by omega) (by show P < 4096; omega)
theorem in_s (v a b : Int32) : f_X11_in v a b = some (if a ≤ v ∧ v ≤ b then 1 else 0) := by
  unfold f_X11_in f_X11_in_14
  by_cases h1 : v < a
  · rw [if_pos h1, if_neg (fun h => absurd h.1 (Int32.not_le.mpr h1))]
  · rw [if_neg h1]
    by_cases h2 : b < v
    · rw [if_pos h2, if_neg (fun h => absurd h.2 (Int32.not_le.mpr h2))]
    · rw [if_neg h2, if_pos ⟨Int32.not_lt.mp h1, Int32.not_lt.mp h2⟩]
theorem sizeX_no {a b c d e f g h i k : Int32} {er he : Nat → Int32} {t v : Int32} (hv : ∀ n : Nat, n ≤ 12 → v ≠ nI n) : f_X10_size t a b c d e f g h i k er he v = some (-1) := by
  unfold f_X10_size
  rw [if_neg (show ¬ _ = (0 : Int32) from hv 0 (by decide)), if_neg (show ¬ _ = (1 : Int32) from hv 1 (by decide)), if_neg (show ¬ _ = (2 : Int32) from hv 2 (by decide)), if_neg (show ¬ _ = (3 : Int32) from hv 3 (by decide)), if_neg (show ¬ _ = (4 : Int32) from hv 4 (by decide)), if_neg (show ¬ _ = (5 : Int32) from hv 5 (by decide)), if_neg (show ¬ _ = (6 : Int32) from hv 6 (by decide)), if_neg (show ¬ _ = (7 : Int32) from hv 7 (by decide)), if_neg (show ¬ _ = (8 : Int32) from hv 8 (by decide)), if_neg (show ¬ _ = (9 : Int32) from hv 9 (by decide)), if_neg (show ¬ _ = (10 : Int32) from hv 10 (by decide)), if_neg (show ¬ _ = (11 : Int32) from hv 11 (by decide)), if_neg (show ¬ _ = (12 : Int32) from hv 12 (by decide))]
theorem rf_st43 {j : Nat} : rf_step_43 (rf_Inv j) (rf_Inv (j + 1)) := by
  rintro I J A B I' A' v1 ⟨W, P, G, na, ni, h⟩
  have ht := h.tale
  have hq : ∀ x, rf_Inv (j + 1) I J A B (rf_upL I' [(0, x)]) A' := fun x => h.quiet h.fault rfl rfl rfl rfl
  have key : ∀ y : Int32, f_X10_size (I 0) (I 4) (I 5) (I 17) (I 20) (I 21) (I 22) (I 23) (I 24) (I 26) (I 27) (A 16) (A 18) v1 = some y → f_X11_size (I' 1) (I' 12) (I' 13) (I' 14) (A' 2) (A' 4) (I' 0) v1 = some (y, 0) → ∃ (zX : Int32) (zM : Int32 × Int32), f_X10_size (I 0) (I 4) (I 5) (I 17) (I 20) (I 21) (I 22) (I 23) (I 24) (I 26) (I 27) (A 16) (A 18) v1 = some zX ∧ f_X11_size (I' 1) (I' 12) (I' 13) (I' 14) (A' 2) (A' 4) (I' 0) v1 = some zM ∧ zX = zM.1 ∧ rf_Inv (j + 1) I J A B (rf_upL I' [(0, zM.2)]) A' :=
    fun y h1 h2 => ⟨y, (y, 0), h1, h2, rfl, hq 0⟩
  have a1 := hoursTold_s (A 18)
  have a2 := errandsTold_s (A 16) ht.P8
  rw [← ht.hpc] at a2
  by_cases v12 : v1 = 12
  · refine key (I 0) ?_ ?_
    · rw [v12]; unfold f_X10_size; simp (disch := omega) only [pb_lits, pb_ltT, pb_ltF, pb_leT, pb_leF, pb_eqT, pb_eqF, pb_lt, pb_le, pb_eq, pb_add, pb_mul, pb_sub, pb_cl, pb_ibt, pb_eqm, pb_meq, pb_ltm, pb_mlt, pb_lem, pb_mle, ite_true, ite_false, reduceIte, not_true_eq_false, not_false_eq_true, pb_bind, Nat.zero_add, Nat.add_zero]
    · unfold f_X11_size; rw [if_pos v12, h.tape.1]
  by_cases vr : 0 ≤ v1 ∧ v1 ≤ 11
  · obtain ⟨k, hk, rfl⟩ := pb_ofle (n := 11) (by decide) vr.1 vr.2
    by_cases h0 : P = 0
    · have hh : I' 12 = 0 := by rw [h.has, if_neg (by omega)]
      have hM : f_X11_size (I' 1) (I' 12) (I' 13) (I' 14) (A' 2) (A' 4) (I' 0) (nI k) = some (0, 0) := by
        unfold f_X11_size
        rw [if_neg v12, if_pos hh, in_s, if_pos vr]
        rfl
      obtain ⟨e1, e2, e3, e4, e5, e6, e7, e8, e9, e10⟩ := h.none h0
      have hz : cntP (A 18) 24 = 0 := by
        have : ∀ n, n ≤ 24 → cntP (A 18) n = 0 := by
          intro n
          induction n with
          | zero => intro _; rfl
          | succ n ih => intro hn; rw [cntP, ih (by omega), e10 n (by omega)]; rfl
        exact this 24 (by omega)
      have hz2 : cntP (A 16) P = 0 := by rw [h0]; rfl
      refine key 0 ?_ hM
      have q0 : I 23 = 0 := by rw [ht.hwc, e1]; rfl
      have q1 : I 24 = 0 := by rw [ht.hpc, h0]; rfl
      have q2 : I 27 = 0 := by rw [ht.hgc, e2]; rfl
      have q3 : I 17 = 0 := by rw [h.acts.2.1, e3]; rfl
      have q4 : I 20 = 0 := by rw [h.imgs.2.1, e4]; rfl
      unfold f_X10_size
      rw [a1, a2, hz, hz2, e5, e6, q0, q1, e7, q2, e8, e9, q3, q4]
      obtain rfl | rfl | rfl | rfl | rfl | rfl | rfl | rfl | rfl | rfl | rfl | rfl : k = 0 ∨ k = 1 ∨ k = 2 ∨ k = 3 ∨ k = 4 ∨ k = 5 ∨ k = 6 ∨ k = 7 ∨ k = 8 ∨ k = 9 ∨ k = 10 ∨ k = 11 := by omega
      all_goals simp (disch := omega) only [pb_lits, pb_ltT, pb_ltF, pb_leT, pb_leF, pb_eqT, pb_eqF, pb_lt, pb_le, pb_eq, pb_add, pb_mul, pb_sub, pb_cl, pb_ibt, pb_eqm, pb_meq, pb_ltm, pb_mlt, pb_lem, pb_mle, ite_true, ite_false, reduceIte, not_true_eq_false, not_false_eq_true, pb_bind, Nat.zero_add, Nat.add_zero]
    · have hh : ¬ I' 12 = 0 := by rw [h.has, if_pos (by omega)]; decide
      obtain rfl | rfl | rfl | rfl | rfl | rfl | rfl | rfl | rfl | rfl | rfl | rfl : k = 0 ∨ k = 1 ∨ k = 2 ∨ k = 3 ∨ k = 4 ∨ k = 5 ∨ k = 6 ∨ k = 7 ∨ k = 8 ∨ k = 9 ∨ k = 10 ∨ k = 11 := by omega
      · exact key (I 21) (by unfold f_X10_size; simp (disch := omega) only [pb_lits, pb_ltT, pb_ltF, pb_leT, pb_leF, pb_eqT, pb_eqF, pb_lt, pb_le, pb_eq, pb_add, pb_mul, pb_sub, pb_cl, pb_ibt, pb_eqm, pb_meq, pb_ltm, pb_mlt, pb_lem, pb_mle, ite_true, ite_false, reduceIte, not_true_eq_false, not_false_eq_true, pb_bind, Nat.zero_add, Nat.add_zero]) (by unfold f_X11_size; rw [if_neg v12, if_neg hh, in_s, ht.hear]; rfl)
      · exact key (I 22) (by unfold f_X10_size; simp (disch := omega) only [pb_lits, pb_ltT, pb_ltF, pb_leT, pb_leF, pb_eqT, pb_eqF, pb_lt, pb_le, pb_eq, pb_add, pb_mul, pb_sub, pb_cl, pb_ibt, pb_eqm, pb_meq, pb_ltm, pb_mlt, pb_lem, pb_mle, ite_true, ite_false, reduceIte, not_true_eq_false, not_false_eq_true, pb_bind, Nat.zero_add, Nat.add_zero]) (by unfold f_X11_size; rw [if_neg v12, if_neg hh, in_s, ht.hpairs]; rfl)
      · exact key (I 23) (by unfold f_X10_size; simp (disch := omega) only [pb_lits, pb_ltT, pb_ltF, pb_leT, pb_leF, pb_eqT, pb_eqF, pb_lt, pb_le, pb_eq, pb_add, pb_mul, pb_sub, pb_cl, pb_ibt, pb_eqm, pb_meq, pb_ltm, pb_mlt, pb_lem, pb_mle, ite_true, ite_false, reduceIte, not_true_eq_false, not_false_eq_true, pb_bind, Nat.zero_add, Nat.add_zero]) (by unfold f_X11_size; rw [if_neg v12, if_neg hh, in_s, ht.hwc, ← ht.hwc']; rfl)
      · exact key (I 24) (by unfold f_X10_size; simp (disch := omega) only [pb_lits, pb_ltT, pb_ltF, pb_leT, pb_leF, pb_eqT, pb_eqF, pb_lt, pb_le, pb_eq, pb_add, pb_mul, pb_sub, pb_cl, pb_ibt, pb_eqm, pb_meq, pb_ltm, pb_mlt, pb_lem, pb_mle, ite_true, ite_false, reduceIte, not_true_eq_false, not_false_eq_true, pb_bind, Nat.zero_add, Nat.add_zero]) (by unfold f_X11_size; rw [if_neg v12, if_neg hh, in_s, ht.hpc, ← ht.hpc']; rfl)
      · exact key (I 26) (by unfold f_X10_size; simp (disch := omega) only [pb_lits, pb_ltT, pb_ltF, pb_leT, pb_leF, pb_eqT, pb_eqF, pb_lt, pb_le, pb_eq, pb_add, pb_mul, pb_sub, pb_cl, pb_ibt, pb_eqm, pb_meq, pb_ltm, pb_mlt, pb_lem, pb_mle, ite_true, ite_false, reduceIte, not_true_eq_false, not_false_eq_true, pb_bind, Nat.zero_add, Nat.add_zero]) (by unfold f_X11_size; rw [if_neg v12, if_neg hh, in_s, ht.hac]; rfl)
      · exact key (nI (cntP (A 18) 24)) (by unfold f_X10_size; rw [a1]; simp (disch := omega) only [pb_lits, pb_ltT, pb_ltF, pb_leT, pb_leF, pb_eqT, pb_eqF, pb_lt, pb_le, pb_eq, pb_add, pb_mul, pb_sub, pb_cl, pb_ibt, pb_eqm, pb_meq, pb_ltm, pb_mlt, pb_lem, pb_mle, ite_true, ite_false, reduceIte, not_true_eq_false, not_false_eq_true, pb_bind, Nat.zero_add, Nat.add_zero]) (by unfold f_X11_size; rw [if_neg v12, if_neg hh, in_s, ← ht.hc]; rfl)
      · exact key (nI (cntP (A 16) P)) (by unfold f_X10_size; rw [a2]; simp (disch := omega) only [pb_lits, pb_ltT, pb_ltF, pb_leT, pb_leF, pb_eqT, pb_eqF, pb_lt, pb_le, pb_eq, pb_add, pb_mul, pb_sub, pb_cl, pb_ibt, pb_eqm, pb_meq, pb_ltm, pb_mlt, pb_lem, pb_mle, ite_true, ite_false, reduceIte, not_true_eq_false, not_false_eq_true, pb_bind, Nat.zero_add, Nat.add_zero]) (by unfold f_X11_size; rw [if_neg v12, if_neg hh, in_s, ← ht.ec]; rfl)
      · exact key (I 27) (by unfold f_X10_size; simp (disch := omega) only [pb_lits, pb_ltT, pb_ltF, pb_leT, pb_leF, pb_eqT, pb_eqF, pb_lt, pb_le, pb_eq, pb_add, pb_mul, pb_sub, pb_cl, pb_ibt, pb_eqm, pb_meq, pb_ltm, pb_mlt, pb_lem, pb_mle, ite_true, ite_false, reduceIte, not_true_eq_false, not_false_eq_true, pb_bind, Nat.zero_add, Nat.add_zero]) (by unfold f_X11_size; rw [if_neg v12, if_neg hh, in_s, ht.hgc, ← ht.hgc']; rfl)
      · exact key (I 4) (by unfold f_X10_size; simp (disch := omega) only [pb_lits, pb_ltT, pb_ltF, pb_leT, pb_leF, pb_eqT, pb_eqF, pb_lt, pb_le, pb_eq, pb_add, pb_mul, pb_sub, pb_cl, pb_ibt, pb_eqm, pb_meq, pb_ltm, pb_mlt, pb_lem, pb_mle, ite_true, ite_false, reduceIte, not_true_eq_false, not_false_eq_true, pb_bind, Nat.zero_add, Nat.add_zero]) (by unfold f_X11_size; rw [if_neg v12, if_neg hh, in_s, h.now.hhour]; rfl)
      · exact key (I 5) (by unfold f_X10_size; simp (disch := omega) only [pb_lits, pb_ltT, pb_ltF, pb_leT, pb_leF, pb_eqT, pb_eqF, pb_lt, pb_le, pb_eq, pb_add, pb_mul, pb_sub, pb_cl, pb_ibt, pb_eqm, pb_meq, pb_ltm, pb_mlt, pb_lem, pb_mle, ite_true, ite_false, reduceIte, not_true_eq_false, not_false_eq_true, pb_bind, Nat.zero_add, Nat.add_zero]) (by unfold f_X11_size; rw [if_neg v12, if_neg hh, in_s, h.now.hpaid]; rfl)
      · exact key (I 17) (by unfold f_X10_size; simp (disch := omega) only [pb_lits, pb_ltT, pb_ltF, pb_leT, pb_leF, pb_eqT, pb_eqF, pb_lt, pb_le, pb_eq, pb_add, pb_mul, pb_sub, pb_cl, pb_ibt, pb_eqm, pb_meq, pb_ltm, pb_mlt, pb_lem, pb_mle, ite_true, ite_false, reduceIte, not_true_eq_false, not_false_eq_true, pb_bind, Nat.zero_add, Nat.add_zero]) (by unfold f_X11_size; rw [if_neg v12, if_neg hh, in_s, h.acts.2.1, h.acts.2.2.1]; rfl)
      · exact key (I 20) (by unfold f_X10_size; simp (disch := omega) only [pb_lits, pb_ltT, pb_ltF, pb_leT, pb_leF, pb_eqT, pb_eqF, pb_lt, pb_le, pb_eq, pb_add, pb_mul, pb_sub, pb_cl, pb_ibt, pb_eqm, pb_meq, pb_ltm, pb_mlt, pb_lem, pb_mle, ite_true, ite_false, reduceIte, not_true_eq_false, not_false_eq_true, pb_bind, Nat.zero_add, Nat.add_zero]) (by unfold f_X11_size; rw [if_neg v12, if_neg hh, in_s, h.imgs.2.1, h.imgs.2.2.1]; rfl)
  · have hv : ∀ n : Nat, n ≤ 12 → v1 ≠ nI n := by
      intro n hn e
      by_cases h12 : n = 12
      · subst h12; exact v12 e
      · exact vr (e ▸ ⟨nI_pos' (by omega), nI_le (b := 11) (by omega) (by decide)⟩)
    refine key (-1) (sizeX_no hv) ?_
    unfold f_X11_size
    rw [if_neg v12]
    by_cases hh : I' 12 = 0
    · rw [if_pos hh, in_s, if_neg vr]
      rfl
    · rw [if_neg hh, in_s, if_neg (fun h => vr ⟨h.1, Int32.le_trans h.2 (by decide)⟩)]
      simp only [Option.bind_some]
      rw [if_pos trivial, if_neg (show ¬ _ = (8 : Int32) from hv 8 (by decide)), if_neg (show ¬ _ = (9 : Int32) from hv 9 (by decide)), if_neg (show ¬ _ = (10 : Int32) from hv 10 (by decide)), if_neg (show ¬ _ = (11 : Int32) from hv 11 (by decide))]
