/-! what sellers have, rests -/
theorem first_eq (a b c x y : Int32) : f_X11_sellsOf a b c x y 0 = f_X7_firstHas a c x y := by
  unfold f_X11_sellsOf f_X7_firstHas
  rw [if_pos rfl]
  rfl
theorem second_eq (a b c x y : Int32) : f_X11_sellsOf a b c x y 1 = f_X7_secondHas b c x y := by
  unfold f_X11_sellsOf f_X7_secondHas
  rw [if_neg (by decide)]
  rfl
theorem firstHas_some (a c x y : Int32) : ∃ v, f_X7_firstHas a c x y = some v := by
  unfold f_X7_firstHas
  split <;> exact ⟨_, rfl⟩
theorem secondHas_some (a c x y : Int32) : ∃ v, f_X7_secondHas a c x y = some v := by
  unfold f_X7_secondHas
  split <;> exact ⟨_, rfl⟩
theorem isRest_0 (a b c x y : Int32) : ∀ d n i : Nat, i + d = 10 → d < n → f_X11_isRest_5 a b c n x y 0 (nI i) = some 0 := by
  intro d
  induction d with
  | zero =>
    intro n i hi hn
    obtain ⟨m, rfl, hm⟩ := fuel_succ hn
    obtain rfl : i = 10 := by omega
    rw [f_X11_isRest_5, if_pos (by simp (disch := omega) only [pb_lits, pb_ltT, pb_ltF, pb_leT, pb_leF, pb_eqT, pb_eqF, pb_lt, pb_le, pb_eq, pb_add, pb_mul, pb_sub, pb_cl, pb_ibt, pb_eqm, pb_meq, pb_ltm, pb_mlt, pb_lem, pb_mle, ite_true, ite_false, reduceIte, not_true_eq_false, not_false_eq_true, pb_bind, Nat.zero_add, Nat.add_zero]), if_pos (by decide)]
  | succ d ih =>
    intro n i hi hn
    obtain ⟨m, rfl, hm⟩ := fuel_succ hn
    rw [f_X11_isRest_5, if_neg (by simp (disch := omega) only [pb_lits, pb_ltT, pb_ltF, pb_leT, pb_leF, pb_eqT, pb_eqF, pb_lt, pb_le, pb_eq, pb_add, pb_mul, pb_sub, pb_cl, pb_ibt, pb_eqm, pb_meq, pb_ltm, pb_mlt, pb_lem, pb_mle, ite_true, ite_false, reduceIte, not_true_eq_false, not_false_eq_true, pb_bind, Nat.zero_add, Nat.add_zero]), if_pos rfl, f_X11_isRest_56, f_X11_isRest_57, nI_1]
    exact ih m (i + 1) (by omega) (by omega)
theorem isRest_l (a b c x y : Int32) : ∀ d n n' i : Nat, i + d = 10 → d < n → d < n' → ∃ v : Bool, f_X7_isRest_2 a b c n x y (nI i) = some (bI v) ∧ f_X11_isRest_5 a b c n' x y 1 (nI i) = some (bI v) := by
  intro d
  induction d with
  | zero =>
    intro n n' i hi hn hn'
    obtain ⟨m, rfl, hm⟩ := fuel_succ hn
    obtain ⟨m', rfl, hm'⟩ := fuel_succ hn'
    obtain rfl : i = 10 := by omega
    refine ⟨true, ?_, ?_⟩
    · rw [f_X7_isRest_2, if_pos (by simp (disch := omega) only [pb_lits, pb_ltT, pb_ltF, pb_leT, pb_leF, pb_eqT, pb_eqF, pb_lt, pb_le, pb_eq, pb_add, pb_mul, pb_sub, pb_cl, pb_ibt, pb_eqm, pb_meq, pb_ltm, pb_mlt, pb_lem, pb_mle, ite_true, ite_false, reduceIte, not_true_eq_false, not_false_eq_true, pb_bind, Nat.zero_add, Nat.add_zero])]; rfl
    · rw [f_X11_isRest_5, if_pos (by simp (disch := omega) only [pb_lits, pb_ltT, pb_ltF, pb_leT, pb_leF, pb_eqT, pb_eqF, pb_lt, pb_le, pb_eq, pb_add, pb_mul, pb_sub, pb_cl, pb_ibt, pb_eqm, pb_meq, pb_ltm, pb_mlt, pb_lem, pb_mle, ite_true, ite_false, reduceIte, not_true_eq_false, not_false_eq_true, pb_bind, Nat.zero_add, Nat.add_zero]), if_pos (by decide)]; rfl
  | succ d ih =>
    intro n n' i hi hn hn'
    obtain ⟨m, rfl, hm⟩ := fuel_succ hn
    obtain ⟨m', rfl, hm'⟩ := fuel_succ hn'
    obtain ⟨v1, e1⟩ := firstHas_some a c (nI i) y
    obtain ⟨v2, e2⟩ := firstHas_some a c x y
    obtain ⟨v3, e3⟩ := secondHas_some b c x (nI i)
    obtain ⟨v4, e4⟩ := secondHas_some b c x y
    have z0 := isRest_0 a b c x y d m' (i + 1) (by omega) (by omega)
    rw [f_X7_isRest_2, f_X11_isRest_5, if_neg (show ¬ (10 : Int32) ≤ nI i by simp (disch := omega) only [pb_lits, pb_ltT, pb_ltF, pb_leT, pb_leF, pb_eqT, pb_eqF, pb_lt, pb_le, pb_eq, pb_add, pb_mul, pb_sub, pb_cl, pb_ibt, pb_eqm, pb_meq, pb_ltm, pb_mlt, pb_lem, pb_mle, ite_true, ite_false, reduceIte, not_true_eq_false, not_false_eq_true, pb_bind, Nat.zero_add, Nat.add_zero]), if_neg (show ¬ (9 : Int32) < nI i by simp (disch := omega) only [pb_lits, pb_ltT, pb_ltF, pb_leT, pb_leF, pb_eqT, pb_eqF, pb_lt, pb_le, pb_eq, pb_add, pb_mul, pb_sub, pb_cl, pb_ibt, pb_eqm, pb_meq, pb_ltm, pb_mlt, pb_lem, pb_mle, ite_true, ite_false, reduceIte, not_true_eq_false, not_false_eq_true, pb_bind, Nat.zero_add, Nat.add_zero]), if_neg (show ¬ (1 : Int32) = 0 by decide)]
    rw [first_eq, first_eq, second_eq, second_eq, e1, e2, e3, e4]
    simp only [pb_bind, f_X11_isRest_56, f_X11_isRest_57, f_X7_isRest_38]
    rw [nI_1]
    by_cases h1 : v2 < v1
    · rw [if_pos h1, if_pos h1]
      exact ⟨false, rfl, z0⟩
    · rw [if_neg h1, if_neg h1]
      by_cases h2 : v4 < v3
      · rw [if_pos h2, if_neg (Int32.not_le.mpr h2)]
        exact ⟨false, rfl, z0⟩
      · rw [if_neg h2, if_pos (Int32.not_lt.mp h2)]
        exact ih m m' (i + 1) (by omega) (by omega) (by omega)
theorem isRest_s (a b c x y : Int32) : ∃ v : Bool, f_X7_isRest a b c x y = some (bI v) ∧ f_X11_isRest a b c x y = some (bI v) := by
  obtain ⟨v, h1, h2⟩ := isRest_l a b c x y 10 rf_fu rf_fu 0 (by omega) (by decide) (by decide)
  exact ⟨v, h1, h2⟩
def rsR (a b c : Int32) (k : Nat) : Bool := decide (f_X7_isRest a b c (nI (k / 10)) (nI (k % 10)) = some 1)
theorem rsR_s (a b c : Int32) (k : Nat) : f_X7_isRest a b c (nI (k / 10)) (nI (k % 10)) = some (bI (rsR a b c k)) ∧ f_X11_isRest a b c (nI (k / 10)) (nI (k % 10)) = some (bI (rsR a b c k)) := by
  obtain ⟨v, h1, h2⟩ := isRest_s a b c (nI (k / 10)) (nI (k % 10))
  have : rsR a b c k = v := by
    unfold rsR
    rw [h1]
    cases v
    · decide
    · decide
  rw [this]
  exact ⟨h1, h2⟩
def fsR (R : Nat → Bool) : Nat → Int32
  | 0 => -2
  | k + 1 => if R k = true then (if cD R k = 0 then nI k else fsR R k) else fsR R k
theorem cD_mono (R : Nat → Bool) : ∀ d k, cD R k ≤ cD R (k + d) := by
  intro d
  induction d with
  | zero => intro k; exact Nat.le_refl _
  | succ d ih => intro k; rw [← Nat.add_assoc, cD]; exact Nat.le_trans (ih k) (Nat.le_add_right _ _)
theorem fsR_stay (R : Nat → Bool) {k : Nat} (h : 0 < cD R k) : ∀ d, fsR R (k + d) = fsR R k := by
  intro d
  induction d with
  | zero => rfl
  | succ d ih =>
    have := cD_mono R d k
    rw [← Nat.add_assoc, fsR, if_neg (show ¬ cD R (k + d) = 0 by omega), ite_self, ih]
theorem restCount_l (a b c : Int32) : ∀ d n i : Nat, i + d = 100 → d < n → f_X7_restCount_4 a b c n (nI (cD (rsR a b c) i)) (nI i) = some (nI (cD (rsR a b c) 100)) := by
  intro d
  induction d with
  | zero =>
    intro n i hi hn
    obtain ⟨m, rfl, hm⟩ := fuel_succ hn
    obtain rfl : i = 100 := by omega
    rw [f_X7_restCount_4, if_pos (by decide)]
  | succ d ih =>
    intro n i hi hn
    obtain ⟨m, rfl, hm⟩ := fuel_succ hn
    have ih' := ih m (i + 1) (by omega) (by omega)
    rw [cD] at ih'
    rw [f_X7_restCount_4, if_neg (by simp (disch := omega) only [pb_lits, pb_ltT, pb_ltF, pb_leT, pb_leF, pb_eqT, pb_eqF, pb_lt, pb_le, pb_eq, pb_add, pb_mul, pb_sub, pb_cl, pb_ibt, pb_eqm, pb_meq, pb_ltm, pb_mlt, pb_lem, pb_mle, ite_true, ite_false, reduceIte, not_true_eq_false, not_false_eq_true, pb_bind, Nat.zero_add, Nat.add_zero]), show (10 : Int32) = nI 10 from rfl, pb_rem (by omega) (by decide) (by decide), pb_div (by omega) (by decide) (by decide), (rsR_s a b c i).1, pb_bind]
    simp only [f_X7_restCount_31]
    rw [nI_1]
    cases hR : rsR a b c i
    · rw [hR, if_neg (by decide)] at ih'
      rw [if_pos (by rfl), Int32.add_zero]
      exact ih'
    · rw [hR, if_pos rfl] at ih'
      rw [if_neg (by decide), nI_1]
      exact ih'
theorem firstRest_l (a b c : Int32) : ∀ d n i : Nat, i + d = 100 → d < n → cD (rsR a b c) i = 0 → fsR (rsR a b c) i = -2 → f_X7_firstRest_2 a b c n (nI i) = some (fsR (rsR a b c) 100) := by
  intro d
  induction d with
  | zero =>
    intro n i hi hn h0 h1
    obtain ⟨m, rfl, hm⟩ := fuel_succ hn
    obtain rfl : i = 100 := by omega
    rw [f_X7_firstRest_2, if_pos (by decide), h1]
  | succ d ih =>
    intro n i hi hn h0 h1
    obtain ⟨m, rfl, hm⟩ := fuel_succ hn
    rw [f_X7_firstRest_2, if_neg (by simp (disch := omega) only [pb_lits, pb_ltT, pb_ltF, pb_leT, pb_leF, pb_eqT, pb_eqF, pb_lt, pb_le, pb_eq, pb_add, pb_mul, pb_sub, pb_cl, pb_ibt, pb_eqm, pb_meq, pb_ltm, pb_mlt, pb_lem, pb_mle, ite_true, ite_false, reduceIte, not_true_eq_false, not_false_eq_true, pb_bind, Nat.zero_add, Nat.add_zero]), show (10 : Int32) = nI 10 from rfl, pb_rem (by omega) (by decide) (by decide), pb_div (by omega) (by decide) (by decide), (rsR_s a b c i).1, pb_bind, nI_1]
    cases hR : rsR a b c i
    · rw [show bI false = 0 from rfl, if_pos rfl]
      refine ih m (i + 1) (by omega) (by omega) ?_ ?_
      · rw [cD, h0, hR]; rfl
      · rw [fsR, hR]; exact h1
    · rw [show bI true = 1 from rfl, if_neg (by decide)]
      have e1 : cD (rsR a b c) (i + 1) = 1 := by rw [cD, h0, hR]; rfl
      have e2 : fsR (rsR a b c) (i + 1) = nI i := by rw [fsR, hR, if_pos rfl, if_pos h0]
      have e3 := fsR_stay (rsR a b c) (k := i + 1) (by omega) d
      rw [show i + 1 + d = 100 by omega, e2] at e3
      rw [e3]
theorem seek29 (r st : Nat → Int32) (a b c : Int32) {x : Nat} (hx : x < 10) (can : Nat → Int32) (K : Int32 → Int32 → Int32 → Int32 → Int32 → Int32 → (Nat → Int32) → Option (Int32 × Int32 × Int32 × Int32 × Int32 × (Nat → Int32))) : ∀ d n i : Nat, i + d = 10 → d < n →
    f_X11_seekRests_29 K r st n (nI (cD (rsR a b c) (10 * x + i))) (nI x) (nI i) a b c (fsR (rsR a b c) (10 * x + i)) can = K (nI (cD (rsR a b c) (10 * x + 10))) (nI (x + 1)) a b c (fsR (rsR a b c) (10 * x + 10)) can := by
  intro d
  induction d with
  | zero =>
    intro n i hi hn
    obtain ⟨m, rfl, hm⟩ := fuel_succ hn
    obtain rfl : i = 10 := by omega
    rw [f_X11_seekRests_29, if_pos (by decide), nI_1]
  | succ d ih =>
    intro n i hi hn
    obtain ⟨m, rfl, hm⟩ := fuel_succ hn
    have ih' := ih m (i + 1) (by omega) (by omega)
    have q := (rsR_s a b c (10 * x + i)).2
    rw [show (10 * x + i) / 10 = x by omega, show (10 * x + i) % 10 = i by omega] at q
    rw [← Nat.add_assoc, cD, fsR] at ih'
    have hc := cD_le (rsR a b c) (10 * x + i)
    rw [f_X11_seekRests_29, if_neg (show ¬ (9 : Int32) < nI i by simp (disch := omega) only [pb_lits, pb_ltT, pb_ltF, pb_leT, pb_leF, pb_eqT, pb_eqF, pb_lt, pb_le, pb_eq, pb_add, pb_mul, pb_sub, pb_cl, pb_ibt, pb_eqm, pb_meq, pb_ltm, pb_mlt, pb_lem, pb_mle, ite_true, ite_false, reduceIte, not_true_eq_false, not_false_eq_true, pb_bind, Nat.zero_add, Nat.add_zero]), q, pb_bind]
    simp only [f_X11_seekRests_67, f_X11_seekRests_70]
    rw [nI_1, show (10 : Int32) * nI x + nI i = nI (10 * x + i) by simp (disch := omega) only [pb_lits, pb_ltT, pb_ltF, pb_leT, pb_leF, pb_eqT, pb_eqF, pb_lt, pb_le, pb_eq, pb_add, pb_mul, pb_sub, pb_cl, pb_ibt, pb_eqm, pb_meq, pb_ltm, pb_mlt, pb_lem, pb_mle, ite_true, ite_false, reduceIte, not_true_eq_false, not_false_eq_true, pb_bind, Nat.zero_add, Nat.add_zero]]
    clear q
    cases hR : rsR a b c (10 * x + i)
    · rw [hR, if_neg (by decide), if_neg (by decide)] at ih'
      rw [if_pos (by rfl)]
      exact ih'
    · rw [hR, if_pos rfl, if_pos rfl] at ih'
      rw [if_neg (by decide), nI_1]
      by_cases h0 : cD (rsR a b c) (10 * x + i) = 0
      · rw [if_pos h0] at ih'
        rw [if_pos (by rw [h0]; rfl)]
        exact ih'
      · rw [if_neg h0] at ih'
        rw [if_neg (by
          generalize cD (rsR a b c) (10 * x + i) = y at *
          simp (disch := omega) only [pb_lits, pb_ltT, pb_ltF, pb_leT, pb_leF, pb_eqT, pb_eqF, pb_lt, pb_le, pb_eq, pb_add, pb_mul, pb_sub, pb_cl, pb_ibt, pb_eqm, pb_meq, pb_ltm, pb_mlt, pb_lem, pb_mle, ite_true, ite_false, reduceIte, not_true_eq_false, not_false_eq_true, pb_bind, Nat.zero_add, Nat.add_zero])]
        exact ih'
theorem seek19 (r st : Nat → Int32) (a b c : Int32) (can : Nat → Int32) : ∀ d n x : Nat, x + d = 10 → d < n →
    f_X11_seekRests_19 r st n (nI (cD (rsR a b c) (10 * x))) (nI x) a b c (fsR (rsR a b c) (10 * x)) can = some (nI (cD (rsR a b c) 100), a, b, c, fsR (rsR a b c) 100, can) := by
  intro d
  induction d with
  | zero =>
    intro n x hi hn
    obtain ⟨m, rfl, hm⟩ := fuel_succ hn
    obtain rfl : x = 10 := by omega
    rw [f_X11_seekRests_19, if_pos (by decide)]
  | succ d ih =>
    intro n x hi hn
    obtain ⟨m, rfl, hm⟩ := fuel_succ hn
    rw [f_X11_seekRests_19, if_neg (show ¬ (9 : Int32) < nI x by simp (disch := omega) only [pb_lits, pb_ltT, pb_ltF, pb_leT, pb_leF, pb_eqT, pb_eqF, pb_lt, pb_le, pb_eq, pb_add, pb_mul, pb_sub, pb_cl, pb_ibt, pb_eqm, pb_meq, pb_ltm, pb_mlt, pb_lem, pb_mle, ite_true, ite_false, reduceIte, not_true_eq_false, not_false_eq_true, pb_bind, Nat.zero_add, Nat.add_zero])]
    have := seek29 r st a b c (x := x) (by omega) can (f_X11_seekRests_19 r st m) 10 rf_fu 0 (by omega) (by decide)
    rw [Nat.add_zero] at this
    rw [show (0 : Int32) = nI 0 from rfl, this]
    exact ih m (x + 1) (by omega) (by omega)
