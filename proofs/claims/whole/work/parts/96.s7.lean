/-! pairs, partner -/
theorem sub8 {P : Nat} (hP : P ≤ 8) {s : Int32} (h : ∀ k, bt s k = true → k < P) : ∀ k, bt s k = true → k < 8 := fun k hk => Nat.lt_of_lt_of_le (h k hk) hP
theorem btF {P : Nat} {s : Int32} (h : ∀ k, bt s k = true → k < P) : ∀ k, P ≤ k → bt s k = false := fun k hk => by
  cases hb : bt s k
  · rfl
  · have := h k hb; omega
theorem rf_st19 {j : Nat} : rf_step_19 (rf_Inv j) (rf_Inv (j + 1)) := by
  rintro I J A B I' A' v1 v2 ⟨W, P, G, na, ni, h⟩
  have ht := h.tale
  have hP := ht.P8
  unfold f_X10_pairs f_X11_pairs
  rw [ht.hpc, ht.hwc, isBankX_s (by omega), isHourX_s, bankWhyM_s h.hasb]
  simp only [pb_bind, refused_s, f_X11_good, f_X11_no]
  by_cases hab : (decide (0 < P) && gd 2 v1) = true ∧ gd 24 v2 = true
  · rw [hab.1, hab.2]
    have h1 := hab.1
    rw [Bool.and_eq_true] at h1
    have hPP : 0 < P := of_decide_eq_true h1.1
    obtain ⟨b, hb, rfl⟩ := gd_of (by decide) h1.2
    obtain ⟨k, hk, rfl⟩ := gd_of (by decide) hab.2
    have hE := h.ears hPP
    have e1 := hE.lo k hk
    have e2 := hE.hi k hk
    have hsub := setF_sub (onB (I 7) b) hP
    obtain ⟨L', l1, l2⟩ := link_s h.cx e1 (by omega) (A 3)
    obtain ⟨can', now', best', now0, m1, -, -⟩ := seekPairs_s h.cx e1 (by omega) hsub (I' 15) (A' 7) (A' 8) (A' 9)
    obtain ⟨bx, x1, -⟩ := most_s (lk := lkE W P (A' 2) (A 1) (A 14) (earE (I 21) (A 18) k)) (links := L') (T := bt (setF (onB (I 7) b) P)) (fun p _ hp q => l2 p (hsub p hp) q) (A 5)
    rw [← set8 (sub8 hP hsub)] at x1
    rw [onBankX_s hP h.every h.now.hfar0 hb, onBankM_s hP h.cx.rP h.now.hbank hb, hE.X k hk, hE.M k hk]
    simp only [pb_bind]
    rw [l1, m1]
    simp only [pb_bind]
    rw [x1]
    simp only [pb_bind]
    have hpad := mmx_pad (lk := lkE W P (A' 2) (A 1) (A 14) (earE (I 21) (A 18) k)) (e := 8 - P) P 0 (bt (setF (onB (I 7) b) P)) (fun k hk => btF hsub k (by omega))
    rw [show P + (8 - P) = 8 by omega] at hpad
    rw [hpad]
    exact ⟨_, _, rfl, rfl, rfl, h.quiet (h.fault.tell (u := 0) (by decide)) rfl rfl rfl rfl⟩
  · obtain ⟨c1, c2, c3⟩ := whyN_no hab
    rw [if_neg c1, if_neg c2]
    exact ⟨_, _, rfl, rfl, rfl, h.quiet (h.fault.tell c3) rfl rfl rfl rfl⟩
theorem rf_st20 {j : Nat} : rf_step_20 (rf_Inv j) (rf_Inv (j + 1)) := by
  rintro I J A B I' A' v1 v2 v3 ⟨W, P, G, na, ni, h⟩
  have ht := h.tale
  have hP := ht.P8
  have hX : f_X10_partner (I 6) (I 7) (I 21) (I 23) (I 24) (A 1) (A 14) (A 18) (A 22) (I 3) (A 3) (A 4) (A 5) v1 v2 v3 = f_X10_partner_22 (I 6) (I 7) (I 21) (nI W) (nI P) (A 1) (A 14) (A 18) (A 22) v1 v2 v3 (bI (gd P v1 && (decide (0 < P) && gd 2 v2))) (I 3) (A 3) (A 4) (A 5) := by
    unfold f_X10_partner f_X10_partner_21
    rw [ht.hpc, ht.hwc, isPersonX_s, isBankX_s (by omega)]
    cases gd P v1 <;> cases (decide (0 < P) && gd 2 v2) <;> rfl
  rw [hX]
  unfold f_X10_partner_22 f_X11_partner
  rw [isPersonM_s h.hasb ht.hpc' (by omega), isHourX_s, bankWhyM_s h.hasb]
  simp only [pb_bind, refused_s, f_X11_good, f_X11_no]
  by_cases hv1 : gd P v1 = true
  · rw [hv1, Bool.true_and, if_neg (show ¬ bI true = 0 by decide)]
    by_cases hab : (decide (0 < P) && gd 2 v2) = true ∧ gd 24 v3 = true
    · rw [hab.1, hab.2]
      have h1 := hab.1
      rw [Bool.and_eq_true] at h1
      have hPP : 0 < P := of_decide_eq_true h1.1
      obtain ⟨p, hp, rfl⟩ := gd_of (by omega) hv1
      obtain ⟨b, hb, rfl⟩ := gd_of (by decide) h1.2
      obtain ⟨k, hk, rfl⟩ := gd_of (by decide) hab.2
      have hE := h.ears hPP
      have e1 := hE.lo k hk
      have e2 := hE.hi k hk
      have hsub := setF_sub (onB (I 7) b) hP
      obtain ⟨L', l1, l2⟩ := link_s h.cx e1 (by omega) (A 3)
      obtain ⟨can', now', best', now0, m1, m2, m3⟩ := seekPairs_s h.cx e1 (by omega) hsub (I' 15) (A' 7) (A' 8) (A' 9)
      obtain ⟨pa', bx, x1, x2⟩ := pairFirst_s (lk := lkE W P (A' 2) (A 1) (A 14) (earE (I 21) (A 18) k)) (links := L') (T := bt (setF (onB (I 7) b) P)) (fun p _ hp q => l2 p (hsub p hp) q) (A 4) (A 5)
      rw [← set8 (sub8 hP hsub)] at x1
      rw [onBankX_s hP h.every h.now.hfar0 hb, onBankM_s hP h.cx.rP h.now.hbank hb, hE.X k hk, hE.M k hk]
      simp only [pb_bind]
      rw [l1, m1]
      simp only [pb_bind]
      rw [x1]
      simp only [pb_bind]
      have hpad := fbA_pad (lk := lkE W P (A' 2) (A 1) (A 14) (earE (I 21) (A 18) k)) (e := 8 - P) P 0 (bt (setF (onB (I 7) b) P)) now0 (fun k hk => btF hsub k (by omega)) p (by omega)
      rw [show P + (8 - P) = 8 by omega] at hpad
      have heq : pa' p = best' p := by
        rw [x2 p (by omega), m3 p (by omega), ← hpad]
        exact fbA_congr 8 0 _ _ _ _ (fun _ _ _ => rfl) (fun k hk => by unfold rf_fill; rw [if_pos hk, m2 k hk]) p (by omega)
      rw [if_pos (pb_ibt (by omega) (by omega)), if_pos (pb_ibt (by omega) (by omega)), nI_clamp (by omega)]
      refine ⟨_, _, rfl, rfl, heq, h.quiet (h.fault.tell (u := 0) (by decide)) rfl rfl rfl rfl⟩
    · obtain ⟨c1, c2, c3⟩ := whyN_no hab
      rw [if_neg c1, if_neg c2]
      exact ⟨_, _, rfl, rfl, rfl, h.quiet (h.fault.tell c3) rfl rfl rfl rfl⟩
  · rw [(Bool.not_eq_true _).mp hv1, Bool.false_and]
    cases gd 24 v3
    · exact ⟨_, _, rfl, rfl, rfl, h.quiet (h.fault.tell (u := 1) (by decide)) rfl rfl rfl rfl⟩
    · exact ⟨_, _, rfl, rfl, rfl, h.quiet (h.fault.tell (u := 1) (by decide)) rfl rfl rfl rfl⟩
