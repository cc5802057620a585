/-! sells, rests, rest, cross -/
theorem rf_st32 {j : Nat} : rf_step_32 (rf_Inv j) (rf_Inv (j + 1)) := by
  rintro I J A B I' A' v1 v2 v3 ⟨W, P, G, na, ni, h⟩
  have ht := h.tale
  have hP := ht.P8
  have hW := ht.W10
  unfold f_X10_rests f_X11_rests
  rw [ht.hpc, ht.hwc, isTwoWordsX_s, isHourX_s, sellersWhyM_s h.hasb (fun e => (h.none e).1) ht.hwc' (by omega)]
  simp only [pb_bind, refused_s, f_X11_good, f_X11_no]
  by_cases hab : (gd W v1 && gd W v2 && !decide (v1 = v2)) = true ∧ gd 24 v3 = true
  · rw [hab.1, hab.2]
    obtain ⟨h1, h2, h3⟩ := and2 hab.1
    obtain ⟨w, hw, rfl⟩ := gd_of (by omega) h1
    obtain ⟨u, hu, rfl⟩ := gd_of (by omega) h2
    obtain ⟨k, hk, rfl⟩ := gd_of (by decide) hab.2
    have hPP : 0 < P := Nat.pos_of_ne_zero (fun e0 => by have := (h.none e0).1; omega)
    have hE := h.ears hPP
    have e1 := hE.lo k hk
    have e2 := hE.hi k hk
    obtain ⟨z, can', q1, q2⟩ := buyers_s h.cx h.every h.now.hfar0 h.now.hbank e1 (by omega) hw hu (I 12) (I 13) (I 14) (I' 19) (I' 20) (I' 21) (A' 7)
    have q3 : f_X7_restCount z.1 z.2.1 z.2.2 = some (nI (cD (rsR z.1 z.2.1 z.2.2) 100)) := restCount_l z.1 z.2.1 z.2.2 100 rf_fu 0 (by omega) (by decide)
    have q4 := seek19 (A' 2) (A' 4) z.1 z.2.1 z.2.2 can' 10 rf_fu 0 (by omega) (by decide)
    have q5 : f_X11_seekRests (A' 2) (A' 4) (I' 19) (I' 20) (I' 21) (I' 22) (A' 7) (nI w) (nI u) (nI (earE (I 21) (A 18) k)) = some (nI (cD (rsR z.1 z.2.1 z.2.2) 100), z.1, z.2.1, z.2.2, fsR (rsR z.1 z.2.1 z.2.2) 100, can') := by
      unfold f_X11_seekRests
      rw [q2, pb_bind]
      exact q4
    rw [hE.X k hk, hE.M k hk, pb_bind, pb_bind, q1, pb_bind, q3, q5]
    exact ⟨_, _, rfl, rfl, rfl, h.quiet (h.fault.tell (u := 0) (by decide)) rfl rfl rfl rfl⟩
  · obtain ⟨c1, c2, c3⟩ := whyN_no hab
    rw [if_neg c1, if_neg c2]
    exact ⟨_, _, rfl, rfl, rfl, h.quiet (h.fault.tell c3) rfl rfl rfl rfl⟩
theorem rf_st33 {j : Nat} : rf_step_33 (rf_Inv j) (rf_Inv (j + 1)) := by
  rintro I J A B I' A' v1 v2 v3 ⟨W, P, G, na, ni, h⟩
  have ht := h.tale
  have hP := ht.P8
  have hW := ht.W10
  unfold f_X10_rest f_X11_rest
  rw [ht.hpc, ht.hwc, isTwoWordsX_s, isHourX_s, sellersWhyM_s h.hasb (fun e => (h.none e).1) ht.hwc' (by omega)]
  simp only [pb_bind, refused_s, f_X11_good, f_X11_no]
  by_cases hab : (gd W v1 && gd W v2 && !decide (v1 = v2)) = true ∧ gd 24 v3 = true
  · rw [hab.1, hab.2]
    obtain ⟨h1, h2, h3⟩ := and2 hab.1
    obtain ⟨w, hw, rfl⟩ := gd_of (by omega) h1
    obtain ⟨u, hu, rfl⟩ := gd_of (by omega) h2
    obtain ⟨k, hk, rfl⟩ := gd_of (by decide) hab.2
    have hPP : 0 < P := Nat.pos_of_ne_zero (fun e0 => by have := (h.none e0).1; omega)
    have hE := h.ears hPP
    have e1 := hE.lo k hk
    have e2 := hE.hi k hk
    obtain ⟨z, can', q1, q2⟩ := buyers_s h.cx h.every h.now.hfar0 h.now.hbank e1 (by omega) hw hu (I 12) (I 13) (I 14) (I' 19) (I' 20) (I' 21) (A' 7)
    have q3 : f_X7_firstRest z.1 z.2.1 z.2.2 = some (fsR (rsR z.1 z.2.1 z.2.2) 100) := firstRest_l z.1 z.2.1 z.2.2 100 rf_fu 0 (by omega) (by decide) rfl rfl
    have q4 := seek19 (A' 2) (A' 4) z.1 z.2.1 z.2.2 can' 10 rf_fu 0 (by omega) (by decide)
    have q5 : f_X11_seekRests (A' 2) (A' 4) (I' 19) (I' 20) (I' 21) (I' 22) (A' 7) (nI w) (nI u) (nI (earE (I 21) (A 18) k)) = some (nI (cD (rsR z.1 z.2.1 z.2.2) 100), z.1, z.2.1, z.2.2, fsR (rsR z.1 z.2.1 z.2.2) 100, can') := by
      unfold f_X11_seekRests
      rw [q2, pb_bind]
      exact q4
    rw [hE.X k hk, hE.M k hk, pb_bind, pb_bind, q1, pb_bind, q3, q5]
    exact ⟨_, _, rfl, rfl, rfl, h.quiet (h.fault.tell (u := 0) (by decide)) rfl rfl rfl rfl⟩
  · obtain ⟨c1, c2, c3⟩ := whyN_no hab
    rw [if_neg c1, if_neg c2]
    exact ⟨_, _, rfl, rfl, rfl, h.quiet (h.fault.tell c3) rfl rfl rfl rfl⟩
theorem rf_st31 {j : Nat} : rf_step_31 (rf_Inv j) (rf_Inv (j + 1)) := by
  rintro I J A B I' A' v1 v2 v3 v4 v5 v6 ⟨W, P, G, na, ni, h⟩ hv6
  have ht := h.tale
  have hP := ht.P8
  have hW := ht.W10
  have hX : f_X10_sells (I 6) (I 7) (I 21) (I 23) (I 24) (A 1) (A 14) (A 18) (A 22) (I 3) (I 12) (I 13) (I 14) v1 v2 v3 v4 v5 v6 = f_X10_sells_38 (I 6) (I 7) (I 21) (nI W) (nI P) (A 1) (A 14) (A 18) (A 22) v1 v2 v3 v4 v5 v6 (bI (gd W v1 && gd W v3 && !decide (v1 = v3))) (bI (gd 10 v2 && gd 10 v4 && gd 24 v5)) (I 3) (I 12) (I 13) (I 14) := by
    unfold f_X10_sells f_X10_sells_37
    rw [ht.hpc, ht.hwc, isTwoWordsX_s, isPriceX_s, isPriceX_s, isHourX_s]
    cases gd 10 v2 <;> cases gd 10 v4 <;> cases gd 24 v5 <;> rfl
  have hM : f_X11_sells (I' 12) (A' 2) (A' 4) (I' 0) (I' 10) (I' 19) (I' 20) (I' 21) (A' 7) v1 v2 v3 v4 v5 v6 = f_X11_sells_43 (I' 12) (A' 2) (A' 4) v1 v2 v3 v4 v5 v6 (whyN (gd W v1 && gd W v3 && !decide (v1 = v3)) (gd 10 v2 && gd 10 v4 && gd 24 v5)) 0 0 (I' 19) (I' 20) (I' 21) (A' 7) := by
    unfold f_X11_sells f_X11_sells_40
    rw [sellersWhyM_s h.hasb (fun e => (h.none e).1) ht.hwc' (by omega), show (9 : Int32) = nI 9 from rfl, gd_inn 9 (by decide), gd_inn 9 (by decide)]
    cases (gd W v1 && gd W v3 && !decide (v1 = v3)) <;> cases gd 10 v2 <;> cases gd 10 v4 <;> cases gd 24 v5 <;> rfl
  rw [hX, hM]
  unfold f_X10_sells_38 f_X11_sells_43
  simp only [pb_bind, refused_s, f_X11_no]
  by_cases hab : (gd W v1 && gd W v3 && !decide (v1 = v3)) = true ∧ (gd 10 v2 && gd 10 v4 && gd 24 v5) = true
  · rw [hab.1, hab.2]
    obtain ⟨h1, h2, h3⟩ := and2 hab.1
    have hh := hab.2
    rw [Bool.and_eq_true] at hh
    obtain ⟨w, hw, rfl⟩ := gd_of (by omega) h1
    obtain ⟨u, hu, rfl⟩ := gd_of (by omega) h2
    obtain ⟨k, hk, rfl⟩ := gd_of (by decide) hh.2
    have hPP : 0 < P := Nat.pos_of_ne_zero (fun e0 => by have := (h.none e0).1; omega)
    have hE := h.ears hPP
    have e1 := hE.lo k hk
    have e2 := hE.hi k hk
    obtain ⟨z, can', q1, q2⟩ := buyers_s h.cx h.every h.now.hfar0 h.now.hbank e1 (by omega) hw hu (I 12) (I 13) (I 14) (I' 19) (I' 20) (I' 21) (A' 7)
    rw [hE.X k hk, hE.M k hk, pb_bind, pb_bind, q1, pb_bind, q2, pb_bind]
    rcases hv6 with rfl | rfl
    · obtain ⟨v, hv⟩ := firstHas_some z.1 z.2.2 v2 v4
      rw [first_eq, hv]
      exact ⟨_, _, rfl, rfl, rfl, h.quiet (h.fault.tell (u := 0) (by decide)) rfl rfl rfl rfl⟩
    · obtain ⟨v, hv⟩ := secondHas_some z.2.1 z.2.2 v2 v4
      rw [second_eq, hv]
      exact ⟨_, _, rfl, rfl, rfl, h.quiet (h.fault.tell (u := 0) (by decide)) rfl rfl rfl rfl⟩
  · obtain ⟨c1, c2, c3⟩ := whyN_no hab
    rw [if_neg c1, if_neg c2]
    exact ⟨_, _, rfl, rfl, rfl, h.quiet (h.fault.tell c3) rfl rfl rfl rfl⟩
theorem upd_same (f : Nat → Int32) (k : Nat) (x : Int32) : upd f k x k = x := by unfold upd; rw [if_pos rfl]
theorem upd_ne (f : Nat → Int32) {k m : Nat} (x : Int32) (h : m ≠ k) : upd f k x m = f m := by unfold upd; rw [if_neg h]
/-- two have crossed -/
theorem cross_now {W P j p q : Nat} {ho pa far : Int32} {w1 w2 s : Nat → Int32} (hP : P ≤ 8) (hj : j < 2 ^ 30) (h : pNow W P j ho pa far w1 w2 s) (hp : p < P) (hq : q < P) (hpq : p ≠ q) (wet2 s2 : Nat → Int32) (far2 : Int32)
    (hf : ∀ k, bt far2 k = (bt far k ^^ decide (k = p) ^^ decide (k = q)))
    (hs1 : ∀ k, k ≠ p → k ≠ q → k ≠ 16 + p → k ≠ 16 + q → s2 k = s k) (hsp : s2 p = 1 - s p) (hsq : s2 q = 1 - s q)
    (hw : (wet2 = w2 ∧ s2 (16 + p) = s (16 + p) ∧ s2 (16 + q) = s (16 + q)) ∨ ((∀ k, k ≠ p → k ≠ q → wet2 k = w2 k) ∧ wet2 p = w2 p + 1 ∧ wet2 q = w2 q + 1 ∧ s2 (16 + p) = s (16 + p) + 1 ∧ s2 (16 + q) = s (16 + q) + 1)) :
    pNow W P (j + 1) ho pa far2 w1 wet2 s2 := by
  have hflip : ∀ k, k < P → bt far2 k = !bt far k → (1 : Int32) - s k = if bt far2 k = true then 1 else 0 := by
    intro k hk e
    rw [e, h.hbank k hk]
    cases bt far k <;> decide
  refine ⟨?_, h.hhour0, ?_, ?_, ?_, ?_, h.hwords0, h.hwords1, ?_, ?_⟩
  · rw [hs1 24 (by omega) (by omega) (by omega) (by omega)]; exact h.hhour
  · rw [hs1 25 (by omega) (by omega) (by omega) (by omega)]; exact h.hpaid
  · intro k hk
    by_cases e1 : k = p
    · subst e1
      rw [hsp]
      exact hflip k hk (by rw [hf, decide_eq_true rfl, decide_eq_false hpq]; simp)
    · by_cases e2 : k = q
      · subst e2
        rw [hsq]
        exact hflip k hk (by rw [hf, decide_eq_true rfl, decide_eq_false e1]; simp)
      · rw [hs1 k e1 e2 (by omega) (by omega), hf, decide_eq_false e1, decide_eq_false e2]
        simp only [Bool.bne_false]
        exact h.hbank k hk
  · intro k hk
    rw [hf, h.hfar0 k hk, decide_eq_false (by omega), decide_eq_false (by omega)]; rfl
  · intro k hk
    rw [hs1 (8 + k) (by omega) (by omega) (by omega) (by omega)]; exact h.hwords k hk
  · intro k hk
    rcases hw with ⟨a, b, c⟩ | ⟨a, b, c, d, e⟩
    · rw [a]
      by_cases e1 : k = p
      · subst e1; rw [b]; exact h.hwet k hk
      · by_cases e2 : k = q
        · subst e2; rw [c]; exact h.hwet k hk
        · rw [hs1 (16 + k) (by omega) (by omega) (by omega) (by omega)]; exact h.hwet k hk
    · by_cases e1 : k = p
      · subst e1; rw [b, d, h.hwet k hk]
      · by_cases e2 : k = q
        · subst e2; rw [c, e, h.hwet k hk]
        · rw [a k e1 e2, hs1 (16 + k) (by omega) (by omega) (by omega) (by omega)]; exact h.hwet k hk
  · intro k hk
    obtain ⟨c0, h0, e0⟩ := h.hwet0 k hk
    rcases hw with ⟨a, b, c⟩ | ⟨a, b, c, d, e⟩
    · rw [a]; exact ⟨c0, by omega, e0⟩
    · by_cases e1 : k = p
      · subst e1; rw [b, e0]; exact ⟨c0 + 1, by omega, nI_1 c0⟩
      · by_cases e2 : k = q
        · subst e2; rw [c, e0]; exact ⟨c0 + 1, by omega, nI_1 c0⟩
        · rw [a k e1 e2]; exact ⟨c0, by omega, e0⟩
