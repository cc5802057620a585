theorem rf_st36 {j : Nat} (hj : j < 2 ^ 30) : rf_step_36 (rf_Inv j) (rf_Inv (j + 1)) := by
  rintro I J A B I' A' v1 v2 ⟨W, P, G, na, ni, h⟩
  have ht := h.tale
  have hP := ht.P8
  unfold f_X10_cross f_X11_cross
  rw [h.aroom, ht.hpc, ht.hwc, isPairX_s, areTwoM_s h.hasb ht.hpc' (by omega)]
  simp only [pb_bind, refused1_s, f_X11_good, f_X11_no]
  by_cases hab : (gd P v1 && gd P v2 && !decide (v1 = v2)) = true
  · rw [hab]
    obtain ⟨h1, h2, h3⟩ := and2 hab
    obtain ⟨p, hp, rfl⟩ := gd_of (by omega) h1
    obtain ⟨q, hq, rfl⟩ := gd_of (by omega) h2
    have hpq : p ≠ q := by
      intro e
      subst e
      rw [decide_eq_true rfl] at h3
      cases h3
    obtain ⟨c, hc, ec⟩ := h.now.hhour0
    have hE := h.ears (by omega)
    have e1 := hE.lo c hc
    have e2 := hE.hi c hc
    have hn := h.now
    have hbk : (bI (bt (I 7) p) = bI (bt (I 7) q)) ↔ A' 4 p = A' 4 q := by
      rw [hn.hbank p hp, hn.hbank q hq]
      cases bt (I 7) p <;> cases bt (I 7) q <;> decide
    have hdeg := degN_le (W := W) (r := A' 2) (k := A 14 p) (ws := A 1 p) (o := A 14 q) (os := A 1 q) (e := earE (I 21) (A 18) c)
    have d1 := degreeP_s h.cx hp hq e1 (by omega)
    have d2 := rhymeNowP_s h.cx hp hq e1 (by omega)
    generalize degN W (A' 2) (A 14 p) (A 1 p) (A 14 q) (A 1 q) (earE (I 21) (A 18) c) = D at d1 d2 hdeg
    obtain ⟨m, first2, count2, cells2, row2, x1, x2, x3⟩ := push_acts hP h.acts hn
    have ib1 : ∀ k, k < 8 → rf_ib (nI k) 8 = true := fun k hk => pb_ibt (by omega) hk
    have ib2 : ∀ k, k < 8 → rf_ib (nI k) 26 = true := fun k hk => pb_ibt (by omega) (by omega)
    have ib3 : ∀ k, k < 8 → rf_ib (16 + nI k) 26 = true := fun k hk => by simp (disch := omega) only [pb_lits, pb_ltT, pb_ltF, pb_leT, pb_leF, pb_eqT, pb_eqF, pb_lt, pb_le, pb_eq, pb_add, pb_mul, pb_sub, pb_cl, pb_ibt, pb_eqm, pb_meq, pb_ltm, pb_mlt, pb_lem, pb_mle, ite_true, ite_false, reduceIte, not_true_eq_false, not_false_eq_true, pb_bind, Nat.zero_add, Nat.add_zero]
    have cl1 : ∀ k, k < 8 → (nI k).toNatClampNeg = k := fun k hk => nI_clamp (by omega)
    have cl2 : ∀ k, k < 8 → (16 + nI k).toNatClampNeg = 16 + k := fun k hk => by simp (disch := omega) only [pb_lits, pb_ltT, pb_ltF, pb_leT, pb_leF, pb_eqT, pb_eqF, pb_lt, pb_le, pb_eq, pb_add, pb_mul, pb_sub, pb_cl, pb_ibt, pb_eqm, pb_meq, pb_ltm, pb_mlt, pb_lem, pb_mle, ite_true, ite_false, reduceIte, not_true_eq_false, not_false_eq_true, pb_bind, Nat.zero_add, Nat.add_zero]
    have bq1 := bankOf_s (I 7) (k := p) (by omega)
    have bq2 := bankOf_s (I 7) (k := q) (by omega)
    have pp : p < 8 := by omega
    have qq : q < 8 := by omega
    rw [show Int32.toNatClampNeg 24 = 24 from rfl, ← hn.hhour, ec, hE.X c hc, hE.M c hc]
    simp only [pb_bind]
    rw [d1, d2, bq1, bq2]
    simp only [pb_bind, f_X10_cross_63, f_X10_refuse, f_X11_cross_56, f_X11_no, f_X2_carryOver, f_X10_cross_127, f_X11_cross_125]
    rw [← ec, x1, x2]
    simp only [pb_bind, ib1 p pp, ib1 q qq, ib2 p pp, ib2 q qq, ib3 p pp, ib3 q qq, cl1 p pp, cl1 q qq, cl2 p pp, cl2 q qq, if_true]
    rw [if_pos (show bI (!true) = 0 from rfl), if_neg (show ¬ bI true = 0 by decide)]
    have hfar : ∀ k, bt (I 7 ^^^ (1 : Int32) <<< (nI p &&& 31) ^^^ (1 : Int32) <<< (nI q &&& 31)) k = (bt (I 7) k ^^ decide (k = p) ^^ decide (k = q)) := by
      intro k
      rw [bt_xor, bt_xor]
      rw [show bt ((1 : Int32) <<< (nI p &&& 31)) k = decide (k = p) from bt_1s (by omega) k, show bt ((1 : Int32) <<< (nI q &&& 31)) k = decide (k = q) from bt_1s (by omega) k]
    by_cases hb : A' 4 p = A' 4 q
    · rw [if_pos (hbk.mpr hb), if_pos hb]
      obtain rfl | rfl | rfl : D = 0 ∨ D = 1 ∨ D = 2 := by omega
      · rw [if_pos (show nI 0 = 0 from rfl), if_pos (show nI 0 = 0 from rfl)]
        exact ⟨_, _, rfl, rfl, rfl, h.quiet (h.fault.tell (u := 5) (by decide)) rfl rfl rfl rfl⟩
      · rw [if_neg (show ¬ nI 1 = 0 by decide), if_neg (show ¬ nI 1 = 0 by decide), if_pos (show nI 1 = 1 from rfl), if_pos (show nI 1 = 1 from rfl)]
        refine ⟨_, _, rfl, rfl, rfl, h.act (by omega) m ni (h.fault.tell (u := 0) (by decide)) ?_ x3.mono h.imgs.mono h.ifirst rfl rfl rfl rfl⟩
        refine cross_now hP hj hn hp hq hpq _ _ _ hfar ?_ ?_ ?_ (Or.inr ⟨?_, ?_, ?_, ?_, ?_⟩)
        · intro k a1 a2 a3 a4
          show upd _ _ _ k = _
          rw [upd_ne _ _ a4, upd_ne _ _ a3, upd_ne _ _ a2, upd_ne _ _ a1]
        · show upd _ _ _ p = _
          rw [upd_ne _ _ (by omega), upd_ne _ _ (by omega), upd_ne _ _ hpq, upd_same]
        · show upd _ _ _ q = _
          rw [upd_ne _ _ (by omega), upd_ne _ _ (by omega), upd_same, upd_ne _ _ (Ne.symm hpq)]
        · intro k a1 a2
          show upd _ _ _ k = _
          rw [upd_ne _ _ a2, upd_ne _ _ a1]
        · show upd _ _ _ p = _
          rw [upd_ne _ _ hpq, upd_same]
        · show upd _ _ _ q = _
          rw [upd_same, upd_ne _ _ (Ne.symm hpq)]
        · show upd _ _ _ (16 + p) = _
          rw [upd_ne _ _ (by omega), upd_same, upd_ne _ _ (by omega), upd_ne _ _ (by omega)]
        · show upd _ _ _ (16 + q) = _
          rw [upd_same, upd_ne _ _ (by omega), upd_ne _ _ (by omega), upd_ne _ _ (by omega)]
      · rw [if_neg (show ¬ nI 2 = 0 by decide), if_neg (show ¬ nI 2 = 0 by decide), if_neg (show ¬ nI 2 = 1 by decide), if_neg (show ¬ nI 2 = 1 by decide)]
        refine ⟨_, _, rfl, rfl, rfl, h.act (by omega) m ni (h.fault.tell (u := 0) (by decide)) ?_ x3.mono h.imgs.mono h.ifirst rfl rfl rfl rfl⟩
        refine cross_now hP hj hn hp hq hpq _ _ _ hfar ?_ ?_ ?_ (Or.inl ⟨rfl, ?_, ?_⟩)
        · intro k a1 a2 a3 a4
          show upd _ _ _ k = _
          rw [upd_ne _ _ a2, upd_ne _ _ a1]
        · show upd _ _ _ p = _
          rw [upd_ne _ _ hpq, upd_same]
        · show upd _ _ _ q = _
          rw [upd_same, upd_ne _ _ (Ne.symm hpq)]
        · show upd _ _ _ (16 + p) = _
          rw [upd_ne _ _ (by omega), upd_ne _ _ (by omega)]
        · show upd _ _ _ (16 + q) = _
          rw [upd_ne _ _ (by omega), upd_ne _ _ (by omega)]
    · rw [if_neg (fun e => hb (hbk.mp e)), if_neg hb]
      exact ⟨_, _, rfl, rfl, rfl, h.quiet (h.fault.tell (u := 5) (by decide)) rfl rfl rfl rfl⟩
  · rw [(Bool.not_eq_true _).mp hab]
    exact ⟨_, _, rfl, rfl, rfl, h.quiet (h.fault.tell (u := 1) (by decide)) rfl rfl rfl rfl⟩
