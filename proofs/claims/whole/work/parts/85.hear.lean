/-! cheapest, judge, heard, heardEar -/
theorem cheap_l {W P : Nat} {r st close words kinds prices : Nat → Int32} (h : pCx W P r st close words kinds) (hpr : ∀ w, w < W → prices w = r (9 + 8 * w)) {e : Nat} (he1 : 1 ≤ e) (he : e ≤ 7) {k : Nat} (hM : f_X11_earAt r (nI k) = some (nI e)) {p : Nat} (hp : p < P) (has ev far H M : Int32) : ∀ d n n' i : Nat, ∀ best : Int32, i + d = W → (best = -2 ∨ ∃ b, b < W ∧ best = nI b) → d < n → d < n' →
    ∃ v, f_X6_cheapestGain_32 ev far (nI W) (nI P) words prices kinds close n (nI p) (nI e) (H &&& (M ^^^ (-1))) best (nI i) = some v ∧ f_X11_cheapest_68 has r st n' (nI p) (nI k) H (M &&& H) best (nI i) 0 0 = some (v, 0, 0) := by
  have hP := h.P8
  have hW := h.W10
  intro d
  induction d with
  | zero =>
    intro n n' i best hi hb hn hn'
    obtain ⟨m, rfl, hm⟩ := fuel_succ hn
    obtain ⟨m', rfl, hm'⟩ := fuel_succ hn'
    rw [f_X6_cheapestGain_32, f_X11_cheapest_68, show Int32.toNatClampNeg 2 = 2 from rfl, h.ws.2.1]
    refine ⟨best, ?_, ?_⟩
    · simp (disch := omega) only [pb_lits, pb_ltT, pb_ltF, pb_leT, pb_leF, pb_eqT, pb_eqF, pb_lt, pb_le, pb_eq, pb_add, pb_mul, pb_sub, pb_cl, pb_ibt, pb_eqm, pb_meq, pb_ltm, pb_mlt, pb_lem, pb_mle, ite_true, ite_false, reduceIte, not_true_eq_false, not_false_eq_true, pb_bind, Nat.zero_add, Nat.add_zero]
    · simp (disch := omega) only [pb_lits, pb_ltT, pb_ltF, pb_leT, pb_leF, pb_eqT, pb_eqF, pb_lt, pb_le, pb_eq, pb_add, pb_mul, pb_sub, pb_cl, pb_ibt, pb_eqm, pb_meq, pb_ltm, pb_mlt, pb_lem, pb_mle, ite_true, ite_false, reduceIte, not_true_eq_false, not_false_eq_true, pb_bind, Nat.zero_add, Nat.add_zero]
  | succ d ih =>
    intro n n' i best hi hb hn hn'
    obtain ⟨m, rfl, hm⟩ := fuel_succ hn
    obtain ⟨m', rfl, hm'⟩ := fuel_succ hn'
    have keep := ih m m' (i + 1) best (by omega) hb (by omega) (by omega)
    have take := ih m m' (i + 1) (nI i) (by omega) (Or.inr ⟨i, by omega, rfl⟩) (by omega) (by omega)
    have q1 := metBy_s h hp he1 he (words p ||| (nI 1 <<< (nI i &&& nI 31))) (nI 0)
    have q2 := withBy_s h hp he1 he (hasW_or (nI 1 <<< (nI i &&& nI 31)) (h.hw p hp))
    generalize setF (metb W r words kinds p (words p ||| (nI 1 <<< (nI i &&& nI 31))) (nI 0) e) P = S at q1 q2
    have q3 : f_X2_has words (nI p) (nI i) = some (bI (bt (words p) i)) := by
      unfold f_X2_has
      simp (disch := omega) only [pb_lits, pb_ltT, pb_ltF, pb_leT, pb_leF, pb_eqT, pb_eqF, pb_lt, pb_le, pb_eq, pb_add, pb_mul, pb_sub, pb_cl, pb_ibt, pb_eqm, pb_meq, pb_ltm, pb_mlt, pb_lem, pb_mle, ite_true, ite_false, reduceIte, not_true_eq_false, not_false_eq_true, pb_bind, Nat.zero_add, Nat.add_zero, holdsX_s]
      cases bt (words p) i <;> rfl
    have q4 := hasBitM_s (words p) (k := i) (by omega)
    have q5 := priceOf_s r (k := i) (by omega)
    have hz : (S &&& (H &&& (M ^^^ (-1))) = nI 0) ↔ ((S &&& H) &&& ((M &&& H) ^^^ (-1)) = nI 0) := by
      show (_ = (0 : Int32)) ↔ (_ = (0 : Int32))
      rw [pb_eq0, pb_eq0]
      constructor
      · intro a c hc
        have := a c hc
        rw [bt_and, bt_and, bt_com _ hc] at this
        rw [bt_and, bt_and, bt_com _ hc, bt_and]
        revert this
        cases bt S c <;> cases bt H c <;> cases bt M c <;> decide
      · intro a c hc
        have := a c hc
        rw [bt_and, bt_and, bt_com _ hc, bt_and] at this
        rw [bt_and, bt_and, bt_com _ hc]
        revert this
        cases bt S c <;> cases bt H c <;> cases bt M c <;> decide
    have q6 : f_X6_metHaving (nI W) (nI P) words kinds close (nI p) (nI i) (nI e) = some S := by
      unfold f_X6_metHaving
      simp (disch := omega) only [pb_lits, pb_ltT, pb_ltF, pb_leT, pb_leF, pb_eqT, pb_eqF, pb_lt, pb_le, pb_eq, pb_add, pb_mul, pb_sub, pb_cl, pb_ibt, pb_eqm, pb_meq, pb_ltm, pb_mlt, pb_lem, pb_mle, ite_true, ite_false, reduceIte, not_true_eq_false, not_false_eq_true, pb_bind, Nat.zero_add, Nat.add_zero, q1]
    rw [f_X6_cheapestGain_32, f_X11_cheapest_68, show Int32.toNatClampNeg 2 = 2 from rfl, h.ws.2.1]
    simp only [f_X6_cheapestGain_74, f_X6_cheapestGain_79, f_X6_cheapestGain_116, f_X11_cheapest_158, f_X11_cheapest_154]
    rw [show Int32.toNatClampNeg (8 + nI p) = 8 + p by simp (disch := omega) only [pb_lits, pb_ltT, pb_ltF, pb_leT, pb_leF, pb_eqT, pb_eqF, pb_lt, pb_le, pb_eq, pb_add, pb_mul, pb_sub, pb_cl, pb_ibt, pb_eqm, pb_meq, pb_ltm, pb_mlt, pb_lem, pb_mle, ite_true, ite_false, reduceIte, not_true_eq_false, not_false_eq_true, pb_bind, Nat.zero_add, Nat.add_zero], ← h.wd p hp, q4, q3, q6, hM]
    have w1 : ¬ nI W ≤ nI i := by simp (disch := omega) only [pb_lits, pb_ltT, pb_ltF, pb_leT, pb_leF, pb_eqT, pb_eqF, pb_lt, pb_le, pb_eq, pb_add, pb_mul, pb_sub, pb_cl, pb_ibt, pb_eqm, pb_meq, pb_ltm, pb_mlt, pb_lem, pb_mle, ite_true, ite_false, reduceIte, not_true_eq_false, not_false_eq_true, pb_bind, Nat.zero_add, Nat.add_zero]
    have w2 : rf_ib (8 + nI p) 26 = true := by simp (disch := omega) only [pb_lits, pb_ltT, pb_ltF, pb_leT, pb_leF, pb_eqT, pb_eqF, pb_lt, pb_le, pb_eq, pb_add, pb_mul, pb_sub, pb_cl, pb_ibt, pb_eqm, pb_meq, pb_ltm, pb_mlt, pb_lem, pb_mle, ite_true, ite_false, reduceIte, not_true_eq_false, not_false_eq_true, pb_bind, Nat.zero_add, Nat.add_zero]
    rw [if_neg w1, if_neg w1, if_pos w2, nI_1]
    simp only [pb_lits] at keep take hz ⊢
    simp (disch := omega) only [pb_lits, pb_ltT, pb_ltF, pb_leT, pb_leF, pb_eqT, pb_eqF, pb_lt, pb_le, pb_eq, pb_add, pb_mul, pb_sub, pb_cl, pb_ibt, pb_eqm, pb_meq, pb_ltm, pb_mlt, pb_lem, pb_mle, ite_true, ite_false, reduceIte, not_true_eq_false, not_false_eq_true, pb_bind, Nat.zero_add, Nat.add_zero, q2]
    by_cases hbt : bt (words p) i = true
    · rw [hbt, show bI true = nI 1 from rfl]
      simp (disch := omega) only [pb_lits, pb_ltT, pb_ltF, pb_leT, pb_leF, pb_eqT, pb_eqF, pb_lt, pb_le, pb_eq, pb_add, pb_mul, pb_sub, pb_cl, pb_ibt, pb_eqm, pb_meq, pb_ltm, pb_mlt, pb_lem, pb_mle, ite_true, ite_false, reduceIte, not_true_eq_false, not_false_eq_true, pb_bind, Nat.zero_add, Nat.add_zero]
      rw [ite_self]
      rcases hb with hb | ⟨b, hb1, hb2⟩
      · rw [if_pos (show best = - nI 2 from hb)]
        exact keep
      · rw [hb2] at keep ⊢
        simp (disch := omega) only [pb_lits, pb_ltT, pb_ltF, pb_leT, pb_leF, pb_eqT, pb_eqF, pb_lt, pb_le, pb_eq, pb_add, pb_mul, pb_sub, pb_cl, pb_ibt, pb_eqm, pb_meq, pb_ltm, pb_mlt, pb_lem, pb_mle, ite_true, ite_false, reduceIte, not_true_eq_false, not_false_eq_true, pb_bind, Nat.zero_add, Nat.add_zero]
        exact keep
    · rw [(Bool.not_eq_true _).mp hbt, show bI false = nI 0 from rfl]
      simp (disch := omega) only [pb_lits, pb_ltT, pb_ltF, pb_leT, pb_leF, pb_eqT, pb_eqF, pb_lt, pb_le, pb_eq, pb_add, pb_mul, pb_sub, pb_cl, pb_ibt, pb_eqm, pb_meq, pb_ltm, pb_mlt, pb_lem, pb_mle, ite_true, ite_false, reduceIte, not_true_eq_false, not_false_eq_true, pb_bind, Nat.zero_add, Nat.add_zero, hz]
      by_cases hz' : (S &&& H) &&& ((M &&& H) ^^^ (- nI 1)) = nI 0
      · rw [if_pos hz', if_pos hz', ite_self]
        rcases hb with hb | ⟨b, hb1, hb2⟩
        · rw [if_pos (show best = - nI 2 from hb)]
          exact keep
        · rw [hb2] at keep ⊢
          simp (disch := omega) only [pb_lits, pb_ltT, pb_ltF, pb_leT, pb_leF, pb_eqT, pb_eqF, pb_lt, pb_le, pb_eq, pb_add, pb_mul, pb_sub, pb_cl, pb_ibt, pb_eqm, pb_meq, pb_ltm, pb_mlt, pb_lem, pb_mle, ite_true, ite_false, reduceIte, not_true_eq_false, not_false_eq_true, pb_bind, Nat.zero_add, Nat.add_zero]
          exact keep
      · rw [if_neg hz', if_neg hz']
        rcases hb with hb | ⟨b, hb1, hb2⟩
        · rw [if_pos (show best = - nI 2 from hb), if_pos (show best < nI 0 by rw [hb]; decide)]
          exact take
        · rw [hb2] at keep ⊢
          have q7 := priceOf_s r (k := b) (by omega)
          simp (disch := omega) only [pb_lits, pb_ltT, pb_ltF, pb_leT, pb_leF, pb_eqT, pb_eqF, pb_lt, pb_le, pb_eq, pb_add, pb_mul, pb_sub, pb_cl, pb_ibt, pb_eqm, pb_meq, pb_ltm, pb_mlt, pb_lem, pb_mle, ite_true, ite_false, reduceIte, not_true_eq_false, not_false_eq_true, pb_bind, Nat.zero_add, Nat.add_zero, q5, q7, hpr]
          by_cases hle : r (9 + 8 * b) ≤ r (9 + 8 * i)
          · rw [if_pos hle, if_pos hle]
            exact keep
          · rw [if_neg hle, if_neg hle]
            exact take
theorem rf_st18 {j : Nat} : rf_step_18 (rf_Inv j) (rf_Inv (j + 1)) := by
  rintro I J A B I' A' v1 v2 ⟨W, P, G, na, ni, h⟩
  have ht := h.tale
  have hP := ht.P8
  have hW := ht.W10
  unfold f_X10_cheapest f_X11_cheapest
  rw [ht.hpc, ht.hwc, isPersonX_s, isHourX_s, isPersonM_s h.hasb ht.hpc' (by omega)]
  simp only [pb_bind, refused_s, f_X11_good, whyM_s, f_X11_no]
  refine h.g _ _ _ _ rfl rfl (fun ha hb => ?_)
  obtain ⟨p, hp, rfl⟩ := gd_of (by omega) ha
  obtain ⟨k, hk, rfl⟩ := gd_of (by decide) hb
  have hE := h.ears (by omega)
  have e1 := hE.lo k hk
  have e2 := hE.hi k hk
  have hbk : ∃ b, b < 2 ∧ A' 4 p = nI b ∧ f_X2_bankOf (I 7) (nI p) = some (nI b) := by
    rw [bankOf_s _ (by omega), h.now.hbank p hp]
    cases bt (I 7) p
    · exact ⟨0, by decide, rfl, rfl⟩
    · exact ⟨1, by decide, rfl, rfl⟩
  obtain ⟨b, hb1, hb2, hb3⟩ := hbk
  obtain ⟨v, q1, q2⟩ := cheap_l h.cx (prices := A 13) (fun w hw => (ht.words w hw).hprice) e1 (by omega) (hE.M k hk) hp (I' 12) (I 6) (I 7) (setF (onB (I 7) b) P) (setF (metb W (A' 2) (A 1) (A 14) p (A 1 p) (nI 0) (earE (I 21) (A 18) k)) P) W rf_fu rf_fu 0 (-2) (by omega) (Or.inl rfl) (by show W < 4096; omega) (by show W < 4096; omega)
  refine ⟨v, ?_, ?_⟩
  · rw [hE.X k hk]
    unfold f_X6_cheapestGain
    simp only [pb_bind]
    rw [hb3]
    simp only [pb_bind]
    rw [onBankX_s hP h.every h.now.hfar0 hb1, metNow_s h.cx hp e1 (by omega)]
    simp only [pb_bind]
    rw [show (0 : Int32) = nI 0 from rfl, q1]
    rfl
  · rw [show Int32.toNatClampNeg (nI p) = p by simp (disch := omega) only [pb_lits, pb_ltT, pb_ltF, pb_leT, pb_leF, pb_eqT, pb_eqF, pb_lt, pb_le, pb_eq, pb_add, pb_mul, pb_sub, pb_cl, pb_ibt, pb_eqm, pb_meq, pb_ltm, pb_mlt, pb_lem, pb_mle, ite_true, ite_false, reduceIte, not_true_eq_false, not_false_eq_true, pb_bind, Nat.zero_add, Nat.add_zero], hb2, show Int32.toNatClampNeg (8 + nI p) = 8 + p by simp (disch := omega) only [pb_lits, pb_ltT, pb_ltF, pb_leT, pb_leF, pb_eqT, pb_eqF, pb_lt, pb_le, pb_eq, pb_add, pb_mul, pb_sub, pb_cl, pb_ibt, pb_eqm, pb_meq, pb_ltm, pb_mlt, pb_lem, pb_mle, ite_true, ite_false, reduceIte, not_true_eq_false, not_false_eq_true, pb_bind, Nat.zero_add, Nat.add_zero], ← h.cx.wd p hp, hE.M k hk, onBankM_s hP h.cx.rP h.now.hbank hb1]
    rw [if_pos (show rf_ib (nI p) 26 = true by simp (disch := omega) only [pb_lits, pb_ltT, pb_ltF, pb_leT, pb_leF, pb_eqT, pb_eqF, pb_lt, pb_le, pb_eq, pb_add, pb_mul, pb_sub, pb_cl, pb_ibt, pb_eqm, pb_meq, pb_ltm, pb_mlt, pb_lem, pb_mle, ite_true, ite_false, reduceIte, not_true_eq_false, not_false_eq_true, pb_bind, Nat.zero_add, Nat.add_zero])]
    simp only [pb_bind]
    rw [if_pos (show rf_ib (8 + nI p) 26 = true by simp (disch := omega) only [pb_lits, pb_ltT, pb_ltF, pb_leT, pb_leF, pb_eqT, pb_eqF, pb_lt, pb_le, pb_eq, pb_add, pb_mul, pb_sub, pb_cl, pb_ibt, pb_eqm, pb_meq, pb_ltm, pb_mlt, pb_lem, pb_mle, ite_true, ite_false, reduceIte, not_true_eq_false, not_false_eq_true, pb_bind, Nat.zero_add, Nat.add_zero]), withBy_s h.cx hp e1 (by omega) (h.cx.hw p hp)]
    simp only [pb_bind]
    exact q2
