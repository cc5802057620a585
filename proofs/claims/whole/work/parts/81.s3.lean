/-! rhyme, with, renamed, meets, often .. -/
theorem rf_Iv.g {W P G na ni j : Nat} {I : Nat → Int32} {J : Nat → Int64} {A : Nat → Nat → Int32} {B : Nat → Nat → Int64} {I' : Nat → Int32} {A' : Nat → Nat → Int32}
    (h : rf_Iv W P G na ni j I J A B I' A') {fX : Option (Int32 × Int32)} {fM : Option (Int32 × Int32 × Int32)} (a b : Bool) (X : Option (Int32 × Int32)) (M : Option (Int32 × Int32 × Int32))
    (hX : fX = if bI (!(a && b)) = 0 then X else some (-1, whyN a b)) (hM : fM = if whyN a b = 0 then M else some (-1, 0, whyN a b)) (hv : a = true → b = true → ∃ v, X = some (v, whyN a b) ∧ M = some (v, 0, 0)) :
    ∃ (zX : Int32 × Int32) (zM : Int32 × Int32 × Int32), fX = some zX ∧ fM = some zM ∧ zX.1 = zM.1 ∧ rf_Inv (j + 1) (rf_upL I [(3, zX.2)]) J A B (rf_upL I' [(0, zM.2.1), (10, zM.2.2)]) A' := by
  cases a
  · cases b
    · exact h.q false false 0 hX hM
    · exact h.q false true 0 hX hM
  · cases b
    · exact h.q true false 0 hX hM
    · obtain ⟨v, h1, h2⟩ := hv rfl rfl
      exact h.q true true v (hX.trans h1) (hM.trans h2)
theorem and2 {a b c : Bool} (h : (a && b && !c) = true) : a = true ∧ b = true ∧ c = false := by
  cases a <;> cases b <;> cases c <;> simp_all
theorem nI_dec {a b : Nat} (ha : a < 2 ^ 31) (hb : b < 2 ^ 31) : decide (nI a = nI b) = decide (a = b) := decide_eq_decide.mpr (nI_eq ha hb)
theorem rf_st9 {j : Nat} : rf_step_9 (rf_Inv j) (rf_Inv (j + 1)) := by
  rintro I J A B I' A' v1 v2 v3 ⟨W, P, G, na, ni, h⟩
  have ht := h.tale
  have hP := ht.P8
  unfold f_X10_rhyme f_X11_rhyme
  rw [ht.hpc, ht.hwc, isPairX_s, isHourX_s, areTwoM_s h.hasb ht.hpc' (by omega)]
  simp only [Option.bind_some, refused_s, f_X11_good, whyM_s, f_X11_no]
  refine h.g _ _ _ _ rfl rfl (fun ha hb => ?_)
  obtain ⟨h1, h2, h3⟩ := and2 ha
  obtain ⟨p, hp, rfl⟩ := gd_of (by omega) h1
  obtain ⟨q, hq, rfl⟩ := gd_of (by omega) h2
  obtain ⟨k, hk, rfl⟩ := gd_of (by decide) hb
  have he := h.ears (by omega)
  have e1 := he.lo k hk
  have e2 := he.hi k hk
  rw [he.X k hk, he.M k hk]
  simp only [Option.bind_some]
  rw [degreeP_s h.cx hp hq e1 (by omega), rhymeNowP_s h.cx hp hq e1 (by omega)]
  exact ⟨_, rfl, rfl⟩
theorem rf_st10 {j : Nat} : rf_step_10 (rf_Inv j) (rf_Inv (j + 1)) := by
  rintro I J A B I' A' v1 v2 ⟨W, P, G, na, ni, h⟩
  have ht := h.tale
  have hP := ht.P8
  unfold f_X10_with f_X11_with
  rw [ht.hpc, ht.hwc, isPersonX_s, isHourX_s, isPersonM_s h.hasb ht.hpc' (by omega)]
  simp only [Option.bind_some, refused_s, f_X11_good, whyM_s, f_X11_no]
  refine h.g _ _ _ _ rfl rfl (fun ha hb => ?_)
  obtain ⟨p, hp, rfl⟩ := gd_of (by omega) ha
  obtain ⟨k, hk, rfl⟩ := gd_of (by decide) hb
  have he := h.ears (by omega)
  have e1 := he.lo k hk
  have e2 := he.hi k hk
  rw [he.X k hk, he.M k hk]
  simp only [Option.bind_some]
  rw [metNow_s h.cx hp e1 (by omega)]
  refine ⟨_, rfl, ?_⟩
  simp (disch := omega) only [pb_lits, pb_ltT, pb_ltF, pb_leT, pb_leF, pb_eqT, pb_eqF, pb_lt, pb_le, pb_eq, pb_add, pb_mul, pb_sub, pb_cl, pb_ibt, pb_eqm, pb_meq, pb_ltm, pb_mlt, pb_lem, pb_mle, ite_true, ite_false, reduceIte, not_true_eq_false, not_false_eq_true, pb_bind, Nat.zero_add, Nat.add_zero]
  rw [← h.cx.wd p hp, withBy_s h.cx hp e1 (by omega) (h.cx.hw p hp)]
  rfl
theorem rf_st15 {j : Nat} : rf_step_15 (rf_Inv j) (rf_Inv (j + 1)) := by
  rintro I J A B I' A' v1 v2 v3 ⟨W, P, G, na, ni, h⟩
  have ht := h.tale
  have hP := ht.P8
  have hW := ht.W10
  have hX : f_X10_renamed (I 21) (I 23) (I 24) (A 1) (A 14) (A 18) (A 22) (I 3) v1 v2 v3 = f_X10_renamed_22 (I 21) (nI W) (nI P) (A 1) (A 14) (A 18) (A 22) v1 v2 v3 (bI (gd P v1 && gd W v2)) (I 3) := by
    unfold f_X10_renamed f_X10_renamed_21
    rw [ht.hpc, ht.hwc, isPersonX_s, isWordX_s]
    cases gd P v1 <;> cases gd W v2 <;> rfl
  have hM : f_X11_renamed (I' 12) (A' 2) (A' 4) (I' 0) (I' 10) v1 v2 v3 = f_X11_renamed_26 (I' 12) (A' 2) (A' 4) v1 v2 v3 (bI (gd P v1 && gd W v2)) 0 0 := by
    unfold f_X11_renamed f_X11_renamed_25
    rw [isPersonM_s h.hasb ht.hpc' (by omega), isWordM_s h.hasb (fun e => (h.none e).1) ht.hwc' (by omega)]
    cases gd P v1 <;> cases gd W v2 <;> rfl
  rw [hX, hM]
  unfold f_X10_renamed_22 f_X11_renamed_26
  rw [isHourX_s]
  simp only [Option.bind_some, refused_s, whyM_s, f_X11_no]
  refine h.g _ _ _ _ rfl rfl (fun ha hb => ?_)
  rw [Bool.and_eq_true] at ha
  obtain ⟨p, hp, rfl⟩ := gd_of (by omega) ha.1
  obtain ⟨w, hw, rfl⟩ := gd_of (by omega) ha.2
  obtain ⟨k, hk, rfl⟩ := gd_of (by decide) hb
  have he := h.ears (by omega)
  have e1 := he.lo k hk
  have e2 := he.hi k hk
  rw [he.X k hk, he.M k hk]
  simp only [Option.bind_some]
  simp only [pb_lits]
  rw [metBy_s h.cx hp e1 (by omega), withBy_s h.cx hp e1 (by omega) (hasW_1 hw (by omega))]
  exact ⟨_, rfl, rfl⟩
