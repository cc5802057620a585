/-! judge, heard, heardEar -/
abbrev pGs (W P G : Nat) (r st close words kinds g1 g2 g3 : Nat → Int32) : Prop :=
  (pCx W P r st close words kinds) ∧
  (G ≤ 6) ∧
  (r 7 = nI G) ∧
  (∀ g, g < G → pGot r P g (g1 g) (g2 g) (g3 g))
theorem pGs.cx {W P G : Nat} {r st close words kinds g1 g2 g3 : Nat → Int32} (h : pGs W P G r st close words kinds g1 g2 g3) : pCx W P r st close words kinds := h.1
theorem pGs.G6 {W P G : Nat} {r st close words kinds g1 g2 g3 : Nat → Int32} (h : pGs W P G r st close words kinds g1 g2 g3) : G ≤ 6 := h.2.1
theorem pGs.rG {W P G : Nat} {r st close words kinds g1 g2 g3 : Nat → Int32} (h : pGs W P G r st close words kinds g1 g2 g3) : r 7 = nI G := h.2.2.1
theorem pGs.gs {W P G : Nat} {r st close words kinds g1 g2 g3 : Nat → Int32} (h : pGs W P G r st close words kinds g1 g2 g3) : ∀ g, g < G → pGot r P g (g1 g) (g2 g) (g3 g) := h.2.2.2
theorem rf_Iv.gs {W P G na ni j : Nat} {I : Nat → Int32} {J : Nat → Int64} {A : Nat → Nat → Int32} {B : Nat → Nat → Int64} {I' : Nat → Int32} {A' : Nat → Nat → Int32}
    (h : rf_Iv W P G na ni j I J A B I' A') : pGs W P G (A' 2) (A' 4) (A 22) (A 1) (A 14) (A 19) (A 20) (A 21) :=
  ⟨h.cx, h.tale.G6, h.tale.hgc', h.tale.gots⟩
theorem untrue_l {W P G : Nat} {r st close words kinds g1 g2 g3 : Nat → Int32} (h : pGs W P G r st close words kinds g1 g2 g3) {e : Nat} (he1 : 1 ≤ e) (he : e ≤ 7) : ∀ d n n' i : Nat, i + d = G → d < n → d < n' →
    ∃ v, f_X1_firstUntrue_10 (nI W) (nI G) words kinds g1 g2 g3 close n (nI e) (nI i) = some v ∧ f_X11_wrongGot_2 r st n' (nI e) (nI i) = some v := by
  have hG := h.G6
  intro d
  induction d with
  | zero =>
    intro n n' i hi hn hn'
    obtain ⟨m, rfl, hm⟩ := fuel_succ hn
    obtain ⟨m', rfl, hm'⟩ := fuel_succ hn'
    rw [f_X1_firstUntrue_10, f_X11_wrongGot_2, show Int32.toNatClampNeg 7 = 7 from rfl, h.rG]
    refine ⟨-2, ?_, ?_⟩
    · simp (disch := omega) only [pb_lits, pb_ltT, pb_ltF, pb_leT, pb_leF, pb_eqT, pb_eqF, pb_lt, pb_le, pb_eq, pb_add, pb_mul, pb_sub, pb_cl, pb_ibt, pb_eqm, pb_meq, pb_ltm, pb_mlt, pb_lem, pb_mle, ite_true, ite_false, reduceIte, not_true_eq_false, not_false_eq_true, pb_bind, Nat.zero_add, Nat.add_zero]
    · simp (disch := omega) only [pb_lits, pb_ltT, pb_ltF, pb_leT, pb_leF, pb_eqT, pb_eqF, pb_lt, pb_le, pb_eq, pb_add, pb_mul, pb_sub, pb_cl, pb_ibt, pb_eqm, pb_meq, pb_ltm, pb_mlt, pb_lem, pb_mle, ite_true, ite_false, reduceIte, not_true_eq_false, not_false_eq_true, pb_bind, Nat.zero_add, Nat.add_zero]
  | succ d ih =>
    intro n n' i hi hn hn'
    obtain ⟨m, rfl, hm⟩ := fuel_succ hn
    obtain ⟨m', rfl, hm'⟩ := fuel_succ hn'
    have g := h.gs i (by omega)
    obtain ⟨a, ha, ea⟩ := g.ha0
    obtain ⟨b, hb, eb⟩ := g.hb0
    have x1 := degreeP_s h.cx ha hb he1 he
    have x2 := rhymeNowP_s h.cx ha hb he1 he
    have y1 := g.ha
    have y2 := g.hb
    have y3 := g.hd
    rw [← ea, ← eb] at x1
    rw [← ea, ← eb, y1, y2] at x2
    rw [f_X1_firstUntrue_10, f_X11_wrongGot_2, show Int32.toNatClampNeg 7 = 7 from rfl, h.rG]
    have z1 : 153 + 3 * i + 1 = 154 + 3 * i := by omega
    have z2 : 153 + 3 * i + 2 = 155 + 3 * i := by omega
    have ih' := ih m m' (i + 1) (by omega) (by omega) (by omega)
    simp (disch := omega) only [pb_lits, pb_ltT, pb_ltF, pb_leT, pb_leF, pb_eqT, pb_eqF, pb_lt, pb_le, pb_eq, pb_add, pb_mul, pb_sub, pb_cl, pb_ibt, pb_eqm, pb_meq, pb_ltm, pb_mlt, pb_lem, pb_mle, ite_true, ite_false, reduceIte, not_true_eq_false, not_false_eq_true, pb_bind, Nat.zero_add, Nat.add_zero, z1, z2, x1, x2, y3]
    by_cases hd : nI (degN W r (kinds a) (words a) (kinds b) (words b) e) = r (155 + 3 * i)
    · simp only [hd, if_true]
      exact ih'
    · simp only [hd, if_false]
      exact ⟨_, rfl, rfl⟩
theorem untrue_s {W P G : Nat} {r st close words kinds g1 g2 g3 : Nat → Int32} (h : pGs W P G r st close words kinds g1 g2 g3) {e : Nat} (he1 : 1 ≤ e) (he : e ≤ 7) :
    ∃ v, f_X1_firstUntrue (nI W) (nI G) words kinds g1 g2 g3 close (nI e) = some v ∧ f_X11_wrongGot r st (nI e) = some v :=
  untrue_l h he1 he G rf_fu rf_fu 0 (by omega) (by have := h.G6; show G < 4096; omega) (by have := h.G6; show G < 4096; omega)
theorem rf_st23 {j : Nat} : rf_step_23 (rf_Inv j) (rf_Inv (j + 1)) := by
  rintro I J A B I' A' ⟨W, P, G, na, ni, h⟩
  have ht := h.tale
  have hP := ht.P8
  unfold f_X10_judge f_X11_judge
  rw [ht.hpc, ht.hwc, ht.hgc, hasFerryX_s (by omega), h.hasb]
  simp only [pb_bind, refused1_s, f_X11_good, f_X11_no]
  refine h.g1 _ _ _ rfl rfl (fun ha => ?_)
  obtain ⟨e, e1, e2, e3⟩ := ht.hear0 (of_decide_eq_true ha)
  obtain ⟨v, q1, q2⟩ := untrue_s h.gs e1 (by omega : e ≤ 7)
  refine ⟨v, ?_, ?_⟩
  · rw [e3, q1]; rfl
  · rw [show Int32.toNatClampNeg 0 = 0 from rfl, ← ht.hear, e3, q2]; rfl
theorem ears_l {W P G : Nat} {r st close words kinds g1 g2 g3 : Nat → Int32} (h : pGs W P G r st close words kinds g1 g2 g3) : ∀ d n n' i : Nat, ∀ s : Int32, i + d = 7 → 1 ≤ i → (∀ k, i ≤ k → bt s k = false) → d < n → d < n' →
    ∃ s', f_X1_ears_4 (nI W) (nI G) words kinds g1 g2 g3 close n s (nI i) = some s' ∧ f_X11_heardSet_4 r st n' s (nI i) = some s' ∧ ∀ k, 7 ≤ k → bt s' k = false := by
  intro d
  induction d with
  | zero =>
    intro n n' i s hi h1 hs hn hn'
    obtain ⟨m, rfl, hm⟩ := fuel_succ hn
    obtain ⟨m', rfl, hm'⟩ := fuel_succ hn'
    obtain rfl : i = 7 := by omega
    rw [f_X1_ears_4, f_X11_heardSet_4]
    refine ⟨s, ?_, ?_, hs⟩
    · simp (disch := omega) only [pb_lits, pb_ltT, pb_ltF, pb_leT, pb_leF, pb_eqT, pb_eqF, pb_lt, pb_le, pb_eq, pb_add, pb_mul, pb_sub, pb_cl, pb_ibt, pb_eqm, pb_meq, pb_ltm, pb_mlt, pb_lem, pb_mle, ite_true, ite_false, reduceIte, not_true_eq_false, not_false_eq_true, pb_bind, Nat.zero_add, Nat.add_zero]
    · simp (disch := omega) only [pb_lits, pb_ltT, pb_ltF, pb_leT, pb_leF, pb_eqT, pb_eqF, pb_lt, pb_le, pb_eq, pb_add, pb_mul, pb_sub, pb_cl, pb_ibt, pb_eqm, pb_meq, pb_ltm, pb_mlt, pb_lem, pb_mle, ite_true, ite_false, reduceIte, not_true_eq_false, not_false_eq_true, pb_bind, Nat.zero_add, Nat.add_zero]
  | succ d ih =>
    intro n n' i s hi h1 hs hn hn'
    obtain ⟨m, rfl, hm⟩ := fuel_succ hn
    obtain ⟨m', rfl, hm'⟩ := fuel_succ hn'
    obtain ⟨v, q1, q2⟩ := untrue_s h h1 (by omega : i ≤ 7)
    rw [f_X1_ears_4, f_X11_heardSet_4]
    have x1 := ih m m' (i + 1) (s ||| (nI 1 <<< (nI i &&& nI 31))) (by omega) (by omega) (fun k hk => by rw [bt_or, hs k (by omega), bt_1s (by omega), decide_eq_false (by omega)]; rfl) (by omega) (by omega)
    have x2 := ih m m' (i + 1) s (by omega) (by omega) (fun k hk => hs k (by omega)) (by omega) (by omega)
    simp (disch := omega) only [pb_lits, pb_ltT, pb_ltF, pb_leT, pb_leF, pb_eqT, pb_eqF, pb_lt, pb_le, pb_eq, pb_add, pb_mul, pb_sub, pb_cl, pb_ibt, pb_eqm, pb_meq, pb_ltm, pb_mlt, pb_lem, pb_mle, ite_true, ite_false, reduceIte, not_true_eq_false, not_false_eq_true, pb_bind, Nat.zero_add, Nat.add_zero, q1, q2, f_X1_ears_28, f_X11_heardSet_28]
    by_cases hv : v = - nI 2
    · simp only [hv, if_true]
      exact x1
    · simp only [hv, if_false, or_nI0]
      exact x2
theorem ears_s {W P G : Nat} {r st close words kinds g1 g2 g3 : Nat → Int32} (h : pGs W P G r st close words kinds g1 g2 g3) :
    ∃ s, f_X1_ears (nI W) (nI G) words kinds g1 g2 g3 close = some s ∧ f_X11_heardSet r st = some s ∧ ∀ k, 7 ≤ k → bt s k = false :=
  ears_l h 6 rf_fu rf_fu 1 0 (by omega) (by omega) (fun k _ => bt_0 k) (by decide) (by decide)
theorem set_num {s : Int32} {n : Nat} (hn : n ≤ 10) (h : ∀ k, n ≤ k → bt s k = false) : ∃ m, m < 1024 ∧ s = nI m := by
  refine ⟨numF (bt s) n, numF_1024 _ hn, ?_⟩
  rw [← setF_num (bt s) (by omega)]
  refine (setF_eq (by omega) (fun k => ?_)).symm
  by_cases hk : k < n
  · rw [decide_eq_true hk, Bool.true_and]
  · rw [decide_eq_false hk, Bool.false_and, h k (by omega)]
theorem rf_st27 {j : Nat} : rf_step_27 (rf_Inv j) (rf_Inv (j + 1)) := by
  rintro I J A B I' A' ⟨W, P, G, na, ni, h⟩
  have ht := h.tale
  have hP := ht.P8
  unfold f_X10_heard f_X11_heard
  rw [ht.hpc, ht.hwc, ht.hgc, hasFerryX_s (by omega), h.hasb]
  simp only [pb_bind, refused1_s, f_X11_good, f_X11_no]
  refine h.g1 _ _ _ rfl rfl (fun ha => ?_)
  obtain ⟨s, q1, q2, q3⟩ := ears_s h.gs
  obtain ⟨m, hm, rfl⟩ := set_num (by decide) q3
  refine ⟨nI (pop m), ?_, ?_⟩
  · rw [q1]
    simp only [pb_bind]
    unfold f_J6_bitCount_0f7a4
    rw [bc_s hm]; rfl
  · rw [q2]
    simp only [pb_bind]
    rw [ones_s hm]; rfl
theorem endOf_l {r st : Nat → Int32} {s : Int32} (hs : f_X11_heardSet r st = some s) (has v1 : Int32) : ∀ d n n' i : Nat, ∀ b : Int32, i + d = 7 → (b = -2 ∨ ∃ k, k < 7 ∧ b = nI k) → d < n → d < n' →
    ∃ v, f_X1_endOf_6 n s v1 b (nI i) = some v ∧ f_X11_heardEar_22 has r st n' v1 b (nI i) 0 0 = some (v, 0, 0) := by
  intro d
  induction d with
  | zero =>
    intro n n' i b hi hb hn hn'
    obtain ⟨m, rfl, hm⟩ := fuel_succ hn
    obtain ⟨m', rfl, hm'⟩ := fuel_succ hn'
    obtain rfl : i = 7 := by omega
    rw [f_X1_endOf_6, f_X11_heardEar_22]
    refine ⟨b, ?_, ?_⟩
    · simp (disch := omega) only [pb_lits, pb_ltT, pb_ltF, pb_leT, pb_leF, pb_eqT, pb_eqF, pb_lt, pb_le, pb_eq, pb_add, pb_mul, pb_sub, pb_cl, pb_ibt, pb_eqm, pb_meq, pb_ltm, pb_mlt, pb_lem, pb_mle, ite_true, ite_false, reduceIte, not_true_eq_false, not_false_eq_true, pb_bind, Nat.zero_add, Nat.add_zero]
    · simp (disch := omega) only [pb_lits, pb_ltT, pb_ltF, pb_leT, pb_leF, pb_eqT, pb_eqF, pb_lt, pb_le, pb_eq, pb_add, pb_mul, pb_sub, pb_cl, pb_ibt, pb_eqm, pb_meq, pb_ltm, pb_mlt, pb_lem, pb_mle, ite_true, ite_false, reduceIte, not_true_eq_false, not_false_eq_true, pb_bind, Nat.zero_add, Nat.add_zero]
  | succ d ih =>
    intro n n' i b hi hb hn hn'
    obtain ⟨m, rfl, hm⟩ := fuel_succ hn
    obtain ⟨m', rfl, hm'⟩ := fuel_succ hn'
    have keep := ih m m' (i + 1) b (by omega) hb (by omega) (by omega)
    have take := ih m m' (i + 1) (nI i) (by omega) (Or.inr ⟨i, by omega, rfl⟩) (by omega) (by omega)
    rw [f_X1_endOf_6, f_X11_heardEar_22, hs]
    simp (disch := omega) only [pb_lits, pb_ltT, pb_ltF, pb_leT, pb_leF, pb_eqT, pb_eqF, pb_lt, pb_le, pb_eq, pb_add, pb_mul, pb_sub, pb_cl, pb_ibt, pb_eqm, pb_meq, pb_ltm, pb_mlt, pb_lem, pb_mle, ite_true, ite_false, reduceIte, not_true_eq_false, not_false_eq_true, pb_bind, Nat.zero_add, Nat.add_zero, holdsX_s, hasBitM_s, f_X1_endOf_35, f_X1_endOf_32, f_X11_heardEar_49, f_X11_heardEar_47, bI_n0]
    cases hbt : bt s i
    · simp only [if_true]
      exact keep
    · simp only [Bool.true_eq_false, if_false]
      by_cases hv : v1 = nI 0
      · simp only [hv, if_true] at keep take ⊢
        rcases hb with hb | ⟨k, hk, hb⟩
        · rw [if_pos (show b = - nI 2 from hb), if_neg (show ¬ nI 0 ≤ b by rw [hb]; decide)]
          exact take
        · subst hb
          simp (disch := omega) only [pb_lits, pb_ltT, pb_ltF, pb_leT, pb_leF, pb_eqT, pb_eqF, pb_lt, pb_le, pb_eq, pb_add, pb_mul, pb_sub, pb_cl, pb_ibt, pb_eqm, pb_meq, pb_ltm, pb_mlt, pb_lem, pb_mle, ite_true, ite_false, reduceIte, not_true_eq_false, not_false_eq_true, pb_bind, Nat.zero_add, Nat.add_zero]
          exact keep
      · simp only [hv, if_false]
        exact take
theorem rf_st28 {j : Nat} : rf_step_28 (rf_Inv j) (rf_Inv (j + 1)) := by
  rintro I J A B I' A' v1 ⟨W, P, G, na, ni, h⟩ hv1
  have ht := h.tale
  have hP := ht.P8
  unfold f_X10_heardEar f_X11_heardEar
  rw [ht.hpc, ht.hwc, ht.hgc, hasFerryX_s (by omega), h.hasb]
  simp only [pb_bind, refused1_s, f_X11_good, f_X11_no]
  refine h.g1 _ _ _ rfl rfl (fun ha => ?_)
  obtain ⟨s, q1, q2, q3⟩ := ears_s h.gs
  obtain ⟨v, x1, x2⟩ := endOf_l q2 (bI (decide (0 < P))) v1 6 rf_fu rf_fu 1 (-2) (by omega) (Or.inl rfl) (by decide) (by decide)
  refine ⟨v, ?_, by rw [show (1 : Int32) = nI 1 from rfl]; exact x2⟩
  rw [q1]
  simp only [pb_bind]
  unfold f_X1_endOf
  rw [show (1 : Int32) = nI 1 from rfl, x1]
  rfl
