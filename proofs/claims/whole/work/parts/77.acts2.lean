/-! hours, buy, feed -/
theorem rf_st38 {j : Nat} : rf_step_38 (rf_Inv j) (rf_Inv (j + 1)) := by
  rintro I J A B I' A' v1 ⟨W, P, G, na, ni, h⟩
  have ht := h.tale
  have hP := ht.P8
  unfold f_X10_hours f_X10_hours_20 f_X10_hours_21 f_X11_hours
  rw [h.aroom, ht.hpc, hasFerryX_s (by omega), h.hasb]
  simp only [f_X11_good, f_X11_no, Option.bind_some]
  by_cases hPP : 0 < P
  · rw [decide_eq_true hPP, show f_X10_refused (I 3) (bI true) 1 = some (0, 0) from refused_s (I 3) true true, show f_X10_refused (I 3) (bI true) 0 = some (1, 2) from refused_s (I 3) true false, in_s]
    by_cases hv : 1 ≤ v1 ∧ v1 ≤ 23
    · obtain ⟨k, hk, rfl⟩ := pb_ofle (n := 23) (by decide) (Int32.le_trans (by decide) hv.1) hv.2
      have hk1 : 1 ≤ k := (nI_leI (a := 1) (by decide) (by omega)).mp hv.1
      obtain ⟨m, first2, count2, cells2, row2, e1, e2, e3⟩ := push_acts hP h.acts h.now
      obtain ⟨c, hc, ec⟩ := h.now.hhour0
      have ec' := h.now.hhour
      rw [ec] at ec'
      simp only [pb_lits] at e1
      refine ⟨(nI ((c + k) % 24), 0, nI ((c + k) % 24), first2, count2, cells2), (nI ((c + k) % 24), 0, 0, count2, upd (A' 4) 24 (nI ((c + k) % 24)), row2), ?_, ?_, rfl, ?_⟩
      · simp (disch := omega) only [pb_lits, pb_ltT, pb_ltF, pb_leT, pb_leF, pb_eqT, pb_eqF, pb_lt, pb_le, pb_eq, pb_add, pb_mul, pb_sub, pb_cl, pb_ibt, pb_eqm, pb_meq, pb_ltm, pb_mlt, pb_lem, pb_mle, ite_true, ite_false, reduceIte, not_true_eq_false, not_false_eq_true, pb_bind, Nat.zero_add, Nat.add_zero, e1]
        rw [ec]
        simp (disch := omega) only [pb_lits, pb_ltT, pb_ltF, pb_leT, pb_leF, pb_eqT, pb_eqF, pb_lt, pb_le, pb_eq, pb_add, pb_mul, pb_sub, pb_cl, pb_ibt, pb_eqm, pb_meq, pb_ltm, pb_mlt, pb_lem, pb_mle, ite_true, ite_false, reduceIte, not_true_eq_false, not_false_eq_true, pb_bind, Nat.zero_add, Nat.add_zero, pb_rem]
      · rw [if_pos hv, show bI true = 1 from rfl]
        simp (disch := omega) only [pb_lits, pb_ltT, pb_ltF, pb_leT, pb_leF, pb_eqT, pb_eqF, pb_lt, pb_le, pb_eq, pb_add, pb_mul, pb_sub, pb_cl, pb_ibt, pb_eqm, pb_meq, pb_ltm, pb_mlt, pb_lem, pb_mle, ite_true, ite_false, reduceIte, not_true_eq_false, not_false_eq_true, pb_bind, Nat.zero_add, Nat.add_zero, e2]
        rw [← ec']
        simp (disch := omega) only [pb_lits, pb_ltT, pb_ltF, pb_leT, pb_leF, pb_eqT, pb_eqF, pb_lt, pb_le, pb_eq, pb_add, pb_mul, pb_sub, pb_cl, pb_ibt, pb_eqm, pb_meq, pb_ltm, pb_mlt, pb_lem, pb_mle, ite_true, ite_false, reduceIte, not_true_eq_false, not_false_eq_true, pb_bind, Nat.zero_add, Nat.add_zero, pb_rem]
        unfold upd
        rw [if_pos rfl]
      · refine h.act hPP m ni (h.fault.tell (u := 0) (by decide)) ?_ e3.mono h.imgs.mono h.ifirst rfl rfl rfl rfl
        have hn := h.now
        refine pNow.mono ⟨?_, ⟨(c + k) % 24, Nat.mod_lt _ (by decide), rfl⟩, ?_, ?_, hn.hfar0, ?_, hn.hwords0, hn.hwords1, ?_, hn.hwet0⟩
        · show nI ((c + k) % 24) = upd (A' 4) 24 (nI ((c + k) % 24)) 24
          unfold upd; rw [if_pos rfl]
        · show I 5 = upd (A' 4) 24 (nI ((c + k) % 24)) 25
          unfold upd; rw [if_neg (by decide)]; exact hn.hpaid
        · intro p hp
          show upd (A' 4) 24 (nI ((c + k) % 24)) p = _
          unfold upd; rw [if_neg (by omega)]; exact hn.hbank p hp
        · intro p hp
          show _ = upd (A' 4) 24 (nI ((c + k) % 24)) (8 + p)
          unfold upd; rw [if_neg (by omega)]; exact hn.hwords p hp
        · intro p hp
          show _ = upd (A' 4) 24 (nI ((c + k) % 24)) (16 + p)
          unfold upd; rw [if_neg (by omega)]; exact hn.hwet p hp
    · rw [if_neg hv]
      have gx : ∀ F H : Option (Int32 × Int32 × Int32 × Int32 × Int32 × (Nat → Int32)), (if v1 < 1 then F else if 24 ≤ v1 then F else H) = F := by
        intro F H
        by_cases h1 : v1 < 1
        · rw [if_pos h1]
        · rw [if_neg h1]
          by_cases h2 : 24 ≤ v1
          · rw [if_pos h2]
          · exfalso
            have h1' := Int32.not_lt.mp h1
            obtain ⟨k, hk, rfl⟩ := pb_of (n := 24) (by decide) (Int32.le_trans (by decide) h1') (Int32.not_le.mp h2)
            exact hv ⟨h1', nI_le (b := 23) (by omega) (by decide)⟩
      rw [gx]
      exact ⟨_, _, rfl, rfl, rfl, h.quiet (h.fault.tell (u := 2) (by decide)) rfl rfl rfl rfl⟩
  · rw [decide_eq_false hPP, show f_X10_refused (I 3) (bI false) 1 = some (1, 1) from refused_s (I 3) false true, show f_X10_refused (I 3) (bI false) 0 = some (1, 1) from refused_s (I 3) false false]
    refine ⟨(-1, 1, I 4, I 16, I 17, A 11), (-1, 0, 1, I' 13, A' 4, A' 5), ?_, rfl, rfl, h.quiet (h.fault.tell (u := 1) (by decide)) rfl rfl rfl rfl⟩
    simp only [Option.bind_some]
    rw [if_neg (show ¬ (1 : Int32) = 0 by decide)]
    split
    · rfl
    · split <;> rfl
theorem rf_st37 {j : Nat} : rf_step_37 (rf_Inv j) (rf_Inv (j + 1)) := by
  rintro I J A B I' A' v1 v2 ⟨W, P, G, na, ni, h⟩
  have ht := h.tale
  have hP := ht.P8
  have hW := ht.W10
  unfold f_X10_buy f_X10_buy_21 f_X10_buy_22 f_X11_buy f_X11_buy_20 f_X2_has
  rw [h.aroom, ht.hpc, ht.hwc, isPersonX_s, isWordX_s, isPersonM_s h.hasb ht.hpc' (by omega), isWordM_s h.hasb (fun e => (h.none e).1) ht.hwc' (by omega)]
  rw [show f_X10_refused (I 3) 0 1 = some (1, 1) from refused_s (I 3) false true, show f_X10_refused (I 3) 1 1 = some (0, 0) from refused_s (I 3) true true]
  simp only [f_X11_good, f_X11_no, f_X10_refuse, Option.bind_some]
  by_cases hv : gd P v1 = true
  · by_cases hw : gd W v2 = true
    · obtain ⟨p, hp, rfl⟩ := gd_of (by omega) hv
      obtain ⟨w, hw2, rfl⟩ := gd_of (by omega) hw
      have hPP : 0 < P := by omega
      have hn := h.now
      rw [hv, hw]
      have q1 : f_X10_holds (A 1 p) (nI w) = some (bI (bt (A 1 p) w)) := holdsX_s _ (by omega)
      have q2 : f_X11_hasBit (A' 4 (8 + p)) (nI w) = some (bI (bt (A 1 p) w)) := by rw [hn.hwords p hp]; exact hasBitM_s _ (by omega)
      have q3 := priceOf_s (A' 2) (k := w) (by omega)
      have q4 := (ht.words w hw2).hprice
      obtain ⟨m, first2, count2, cells2, row2, e1, e2, e3⟩ := push_acts hP h.acts hn
      simp only [pb_lits] at e1
      rw [show bI true = 1 from rfl]
      cases hb : bt (A 1 p) w
      · rw [hb, show bI false = 0 from rfl] at q1 q2
        simp only [pb_lits] at q1 q2
        refine ⟨(I 5 + A 13 w, 0, I 5 + A 13 w, first2, count2, upd (A 1) p (A 1 p ||| (1 <<< (nI w &&& 31))), cells2), (I 5 + A 13 w, 0, 0, count2, upd (upd (A' 4) (8 + p) (A 1 p ||| (1 <<< (nI w &&& 31)))) 25 (I 5 + A 13 w), row2), ?_, ?_, rfl, ?_⟩
        · simp (disch := omega) only [pb_lits, pb_ltT, pb_ltF, pb_leT, pb_leF, pb_eqT, pb_eqF, pb_lt, pb_le, pb_eq, pb_add, pb_mul, pb_sub, pb_cl, pb_ibt, pb_eqm, pb_meq, pb_ltm, pb_mlt, pb_lem, pb_mle, ite_true, ite_false, reduceIte, not_true_eq_false, not_false_eq_true, pb_bind, Nat.zero_add, Nat.add_zero, q1, e1, show rf_zb (nI 0) = true from rfl]
        · rw [q4, hn.hpaid, hn.hwords p hp]
          simp (disch := omega) only [pb_lits, pb_ltT, pb_ltF, pb_leT, pb_leF, pb_eqT, pb_eqF, pb_lt, pb_le, pb_eq, pb_add, pb_mul, pb_sub, pb_cl, pb_ibt, pb_eqm, pb_meq, pb_ltm, pb_mlt, pb_lem, pb_mle, ite_true, ite_false, reduceIte, not_true_eq_false, not_false_eq_true, pb_bind, Nat.zero_add, Nat.add_zero, q2, e2, q3]
          have u1 : upd (A' 4) (8 + p) (A' 4 (8 + p) ||| nI 1 <<< (nI w &&& nI 31)) 25 = A' 4 25 := by unfold upd; rw [if_neg (by omega)]
          have u2 : ∀ f : Nat → Int32, ∀ x, upd f 25 x 25 = x := fun f x => by unfold upd; rw [if_pos rfl]
          rw [u1, u2]
        · refine h.act hPP m ni (h.fault.tell (u := 0) (by decide)) ?_ e3.mono h.imgs.mono h.ifirst rfl rfl rfl rfl
          have hb1 : ∀ k, bt (A 1 p ||| (1 : Int32) <<< (nI w &&& 31)) k = (bt (A 1 p) k || decide (k = w)) := fun k => by
            rw [bt_or]
            exact congrArg _ (bt_1s (by omega) k)
          refine pNow.mono ⟨?_, hn.hhour0, ?_, ?_, hn.hfar0, ?_, ?_, ?_, ?_, hn.hwet0⟩
          · show I 4 = upd (upd (A' 4) (8 + p) (A 1 p ||| (1 <<< (nI w &&& 31)))) 25 (I 5 + A 13 w) 24
            unfold upd; rw [if_neg (by decide), if_neg (by omega)]; exact hn.hhour
          · show I 5 + A 13 w = upd (upd (A' 4) (8 + p) (A 1 p ||| (1 <<< (nI w &&& 31)))) 25 (I 5 + A 13 w) 25
            unfold upd; rw [if_pos rfl]
          · intro q hq
            show upd (upd (A' 4) (8 + p) (A 1 p ||| (1 <<< (nI w &&& 31)))) 25 (I 5 + A 13 w) q = _
            unfold upd; rw [if_neg (by omega), if_neg (by omega)]; exact hn.hbank q hq
          · intro q hq
            show upd (A 1) p (A 1 p ||| (1 <<< (nI w &&& 31))) q = upd (upd (A' 4) (8 + p) (A 1 p ||| (1 <<< (nI w &&& 31)))) 25 (I 5 + A 13 w) (8 + q)
            unfold upd
            rw [if_neg (c := 8 + q = 25) (by omega)]
            by_cases e : q = p
            · subst e; rw [if_pos rfl, if_pos rfl]
            · rw [if_neg e, if_neg (by omega)]; exact hn.hwords q hq
          · intro q hq w' hw'
            show bt (upd (A 1) p (A 1 p ||| (1 <<< (nI w &&& 31))) q) w' = false
            unfold upd
            by_cases e : q = p
            · subst e; rw [if_pos rfl, hb1, hn.hwords0 q hq w' hw', decide_eq_false (by omega)]; rfl
            · rw [if_neg e]; exact hn.hwords0 q hq w' hw'
          · intro q hq
            show ∃ w', w' < W ∧ bt (upd (A 1) p (A 1 p ||| (1 <<< (nI w &&& 31))) q) w' = true
            unfold upd
            by_cases e : q = p
            · subst e; rw [if_pos rfl]; exact ⟨w, hw2, by rw [hb1, decide_eq_true rfl, Bool.or_true]⟩
            · rw [if_neg e]; exact hn.hwords1 q hq
          · intro q hq
            show _ = upd (upd (A' 4) (8 + p) (A 1 p ||| (1 <<< (nI w &&& 31)))) 25 (I 5 + A 13 w) (16 + q)
            unfold upd; rw [if_neg (by omega), if_neg (by omega)]; exact hn.hwet q hq
      · rw [hb, show bI true = 1 from rfl] at q1 q2
        simp only [pb_lits] at q1 q2
        refine ⟨(-1, 5, I 5, I 16, I 17, A 1, A 11), (-1, 0, 5, I' 13, A' 4, A' 5), ?_, ?_, rfl, h.quiet (h.fault.tell (u := 5) (by decide)) rfl rfl rfl rfl⟩
        · simp (disch := omega) only [pb_lits, pb_ltT, pb_ltF, pb_leT, pb_leF, pb_eqT, pb_eqF, pb_lt, pb_le, pb_eq, pb_add, pb_mul, pb_sub, pb_cl, pb_ibt, pb_eqm, pb_meq, pb_ltm, pb_mlt, pb_lem, pb_mle, ite_true, ite_false, reduceIte, not_true_eq_false, not_false_eq_true, pb_bind, Nat.zero_add, Nat.add_zero, q1, show rf_zb (nI 1) = true from rfl]
        · simp (disch := omega) only [pb_lits, pb_ltT, pb_ltF, pb_leT, pb_leF, pb_eqT, pb_eqF, pb_lt, pb_le, pb_eq, pb_add, pb_mul, pb_sub, pb_cl, pb_ibt, pb_eqm, pb_meq, pb_ltm, pb_mlt, pb_lem, pb_mle, ite_true, ite_false, reduceIte, not_true_eq_false, not_false_eq_true, pb_bind, Nat.zero_add, Nat.add_zero, q2]
    · rw [Bool.not_eq_true] at hw
      rw [hv, hw]
      exact ⟨_, _, rfl, rfl, rfl, h.quiet (h.fault.tell (u := 1) (by decide)) rfl rfl rfl rfl⟩
  · rw [Bool.not_eq_true] at hv
    rw [hv]
    exact ⟨_, _, rfl, rfl, rfl, h.quiet (h.fault.tell (u := 1) (by decide)) rfl rfl rfl rfl⟩
