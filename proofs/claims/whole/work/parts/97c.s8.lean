theorem through15 {r st : Nat → Int32} (v2 v3 v4 v5 bm : Int32) (can now best : Nat → Int32) : ∀ d n i : Nat, ∀ hM : Nat → Int32, i + d = 8 → d < n → (∀ k, k < i → hM k = -2) → ∃ hM', (∀ k, k < 8 → hM' k = -2) ∧ f_X11_goThrough_15 r st n v2 v3 v4 v5 (nI i) bm can now best hM = f_X11_goThrough_40 r st rf_fu v2 v3 v4 v5 0 bm can now best hM' := by
  intro d
  induction d with
  | zero =>
    intro n i hM hi hn h
    obtain ⟨n', rfl, hn'⟩ := fuel_succ hn
    obtain rfl : i = 8 := by omega
    refine ⟨hM, h, ?_⟩
    rw [f_X11_goThrough_15, if_pos (by decide)]
  | succ d ih =>
    intro n i hM hi hn h
    obtain ⟨n', rfl, hn'⟩ := fuel_succ hn
    rw [f_X11_goThrough_15, if_neg (by simp (disch := omega) only [pb_lits, pb_ltT, pb_ltF, pb_leT, pb_leF, pb_eqT, pb_eqF, pb_lt, pb_le, pb_eq, pb_add, pb_mul, pb_sub, pb_cl, pb_ibt, pb_eqm, pb_meq, pb_ltm, pb_mlt, pb_lem, pb_mle, ite_true, ite_false, reduceIte, not_true_eq_false, not_false_eq_true, pb_bind, Nat.zero_add, Nat.add_zero]), if_pos (pb_ibt (by omega) (by omega)), nI_1, nI_clamp (by omega)]
    exact ih n' (i + 1) (upd hM i (-2)) (by omega) (by omega) (fun k hk => by
      unfold upd
      by_cases e : k = i
      · rw [if_pos e]
      · rw [if_neg e]; exact h k (by omega))
theorem day_s {W P G na ni j : Nat} {I : Nat → Int32} {J : Nat → Int64} {A : Nat → Nat → Int32} {B : Nat → Nat → Int64} {I' : Nat → Int32} {A' : Nat → Nat → Int32}
    (h : rf_Iv W P G na ni j I J A B I' A') (hPP : 0 < P) {s N : Nat} (hs : s < 65537) (hN : N < 25) :
    ∃ v L' pa' bx' hX' bm' can' now' best' hM', f_X0_pass (I 4) (I 6) (I 7) (I 21) (I 22) (nI W) (nI P) (A 1) (A 14) (A 18) (A 22) (A 3) (A 4) (A 5) (A 10) (nI s) (nI N) = some (v, L', pa', bx', hX') ∧ f_X11_goThrough (A' 2) (A' 4) (I' 15) (A' 7) (A' 8) (A' 9) (A' 13) (nI s) (nI N) = some (v, bm', can', now', best', hM') ∧ ∀ k, k < 8 → hX' k = hM' k := by
  have ht := h.tale
  have hP := ht.P8
  obtain ⟨c, hc, ec⟩ := h.now.hhour0
  obtain ⟨m, m1, m2, em⟩ := ht.hpairs0 hPP
  have hdy : pDy W P (A' 2) (A' 4) (A 22) (A 1) (A 14) (I 21) (A 18) c m := ⟨h.cx, h.ears hPP, hc, by rw [← h.now.hhour, ec], by omega, by rw [← ht.hpairs, em]⟩
  obtain ⟨hM0, y1, y2⟩ := through15 (r := A' 2) (st := A' 4) (nI N) (nI s) (setF (onB (I 7) 0) P) (nI 0) (I' 15) (A' 7) (A' 8) (A' 9) 8 rf_fu 0 (A' 13) (by omega) (by decide) (fun k hk => by omega)
  obtain ⟨v, L', pa', bx', hX', bm', can', now', best', hM', z1, z2, z3⟩ := pass_l hdy (N := N) (by omega) (setF_sub (onB (I 7) 0) hP) (I 6) (I 7) N rf_fu rf_fu 0 s 0 (setF (onB (I 7) 0) P) (I' 15) (A' 7) (A' 8) (A' 9) hM0 (A 3) (A 4) (A 5) (rf_fill 8 (-2) (A 10)) (by omega) (by show N < 4096; omega) (by show N < 4096; omega) hs (fun _ hk => hk) (by
    rw [cD_congr 8 (t := fun _ => false) (fun k _ => by cases bt (setF (onB (I 7) 0) P) k <;> rfl)]; decide) (fun k hk => by unfold rf_fill; rw [if_pos hk, y1 k hk])
  refine ⟨v, L', pa', bx', hX', bm', can', now', best', hM', ?_, ?_, z3⟩
  · unfold f_X0_pass
    rw [show f_X2_onBank (I 6) (I 7) 0 = _ from onBankX_s hP h.every h.now.hfar0 (b := 0) (by decide), pb_bind, ec, em]
    exact z1
  · unfold f_X11_goThrough
    rw [show f_X11_onBank (A' 2) (A' 4) 0 = _ from onBankM_s hP h.cx.rP h.now.hbank (b := 0) (by decide), pb_bind]
    exact y2.trans z2
theorem rf_st34 {j : Nat} : rf_step_34 (rf_Inv j) (rf_Inv (j + 1)) := by
  rintro I J A B I' A' v1 v2 ⟨W, P, G, na, ni, h⟩
  have ht := h.tale
  have hP := ht.P8
  unfold f_X10_day f_X11_day
  rw [ht.hpc, ht.hwc, hasFerryX_s (by omega), isDayX_s, h.hasb, dayWhyM_s]
  simp only [pb_bind, refused_s, f_X11_good, f_X11_no]
  by_cases hab : decide (0 < P) = true ∧ (gd 65537 v1 && gd 25 v2) = true
  · rw [hab.1, hab.2]
    have hh := hab.2
    rw [Bool.and_eq_true] at hh
    obtain ⟨s, hs, rfl⟩ := gd_of (by decide) hh.1
    obtain ⟨N, hN, rfl⟩ := gd_of (by decide) hh.2
    obtain ⟨v, L', pa', bx', hX', bm', can', now', best', hM', z1, z2, z3⟩ := day_s h (of_decide_eq_true hab.1) hs hN
    rw [z1, z2]
    exact ⟨_, _, rfl, rfl, rfl, h.quiet (h.fault.tell (u := 0) (by decide)) rfl rfl rfl rfl⟩
  · obtain ⟨c1, c2, c3⟩ := whyN_no hab
    rw [if_neg c1, if_neg c2]
    exact ⟨_, _, rfl, rfl, rfl, h.quiet (h.fault.tell c3) rfl rfl rfl rfl⟩
theorem rf_st35 {j : Nat} : rf_step_35 (rf_Inv j) (rf_Inv (j + 1)) := by
  rintro I J A B I' A' v1 v2 v3 ⟨W, P, G, na, ni, h⟩
  have ht := h.tale
  have hP := ht.P8
  unfold f_X10_crossedIn f_X11_crossedIn
  rw [ht.hpc, ht.hwc, isPersonX_s, isDayX_s, isPersonM_s h.hasb ht.hpc' (by omega)]
  simp only [pb_bind, refused_s, f_X11_good, f_X11_no, dayWhyM_s]
  by_cases hab : gd P v1 = true ∧ (gd 65537 v2 && gd 25 v3) = true
  · rw [hab.1, hab.2]
    have hh := hab.2
    rw [Bool.and_eq_true] at hh
    obtain ⟨p, hp, rfl⟩ := gd_of (by omega) hab.1
    obtain ⟨s, hs, rfl⟩ := gd_of (by decide) hh.1
    obtain ⟨N, hN, rfl⟩ := gd_of (by decide) hh.2
    obtain ⟨v, L', pa', bx', hX', bm', can', now', best', hM', z1, z2, z3⟩ := day_s h (by omega) hs hN
    rw [z1, z2]
    simp only [pb_bind]
    rw [if_pos (pb_ibt (n := 8) (by omega) (by omega : p < 8)), if_pos (pb_ibt (n := 8) (by omega) (by omega : p < 8)), nI_clamp (by omega)]
    exact ⟨_, _, rfl, rfl, z3 p (by omega), h.quiet (h.fault.tell (u := 0) (by decide)) rfl rfl rfl rfl⟩
  · obtain ⟨c1, c2, c3⟩ := whyN_no hab
    rw [if_neg c1, if_neg c2]
    exact ⟨_, _, rfl, rfl, rfl, h.quiet (h.fault.tell c3) rfl rfl rfl rfl⟩
