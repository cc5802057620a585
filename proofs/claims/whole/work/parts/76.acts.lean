/-! hours, undo, image, back, buy -/
theorem rf_Iv.act {W P G na ni j : Nat} {I : Nat → Int32} {J : Nat → Int64} {A : Nat → Nat → Int32} {B : Nat → Nat → Int64} {I' : Nat → Int32} {A' : Nat → Nat → Int32}
    (h : rf_Iv W P G na ni j I J A B I' A') (hP : 0 < P) {I2 : Nat → Int32} {J2 : Nat → Int64} {A2 : Nat → Nat → Int32} {I2' : Nat → Int32} {A2' : Nat → Nat → Int32} (na2 ni2 : Nat)
    (hf : pFault (I2 1) (I2 2) (I2 3) (I2' 8) (I2' 9) (I2' 10))
    (hnow : pNow W P (j + 1) (I2 4) (I2 5) (I2 7) (A2 1) (A2 2) (A2' 4))
    (hacts : pShelf W P (j + 1) na2 16 (I2 16) (I2 17) (A2 11) (I2' 13) (A2' 5))
    (himgs : pShelf W P (j + 1) ni2 3 (I2 19) (I2 20) (A2 12) (I2' 14) (A2' 6))
    (hif : I2 19 = 0)
    (e1 : (I2 0, I2 6, I2 15, I2 18, I2 21, I2 22, I2 23, I2 24, I2 26, I2 27) = (I 0, I 6, I 15, I 18, I 21, I 22, I 23, I 24, I 26, I 27))
    (e2 : (A2 0, A2 13, A2 14, A2 16, A2 17, A2 18, A2 19, A2 20, A2 21, A2 22) = (A 0, A 13, A 14, A 16, A 17, A 18, A 19, A 20, A 21, A 22))
    (e3 : (I2' 1, I2' 12) = (I' 1, I' 12))
    (e4 : (A2' 0, A2' 2) = (A' 0, A' 2)) : rf_Inv (j + 1) I2 J2 A2 B I2' A2' := by
  simp only [Prod.mk.injEq] at e1 e2 e3 e4
  obtain ⟨a0, a6, a15, a18, a21, a22, a23, a24, a26, a27⟩ := e1
  obtain ⟨b0, b13, b14, b16, b17, b18, b19, b20, b21, b22⟩ := e2
  obtain ⟨c1, c12⟩ := e3
  obtain ⟨d0, d2⟩ := e4
  refine ⟨W, P, G, na2, ni2, ⟨?_, hf, ?_, ?_, ?_, ?_, ?_, hnow, ?_, hacts, ?_, himgs, hif⟩⟩
  · rw [a0, b0, c1, d0]; exact h.tape
  · rw [d2, a21, a22, a23, a24, a26, a27, b13, b14, b16, b17, b18, b19, b20, b21]; exact h.tale
  · rw [d2, b22]; exact h.close
  · rw [c12]; exact h.has
  · intro e; omega
  · rw [a6]; exact h.every
  · rw [a15]; exact h.aroom
  · rw [a18]; exact h.iroom
theorem copyA_s {f i : Nat} (hf : f < 16) (hi : i < 16) {cells w1 w2 : Nat → Int32} {h a g : Int32} : f_X8_copyTo_acts 16 (nI f) cells h a g w1 w2 (nI i) = some (cells ((f + i) % 16 * 19), cells ((f + i) % 16 * 19 + 1), cells ((f + i) % 16 * 19 + 2), va_cpy cells w1 ((f + i) % 16 * 19 + 3) 0 8, va_cpy cells w2 ((f + i) % 16 * 19 + 3 + 8) 0 8) := by
  unfold f_X8_copyTo_acts
  rw [placeA_s hf (by omega)]
  have : (f + i) % 16 < 16 := Nat.mod_lt _ (by decide)
  generalize (f + i) % 16 = b at this
  simp (disch := omega) only [pb_lits, pb_ltT, pb_ltF, pb_leT, pb_leF, pb_eqT, pb_eqF, pb_lt, pb_le, pb_eq, pb_add, pb_mul, pb_sub, pb_cl, pb_ibt, pb_eqm, pb_meq, pb_ltm, pb_mlt, pb_lem, pb_mle, ite_true, ite_false, reduceIte, not_true_eq_false, not_false_eq_true, pb_bind, Nat.zero_add, Nat.add_zero, cok_t]
theorem copyI_s {f i : Nat} (hf : f < 3) (hi : i < 3) {cells w1 w2 : Nat → Int32} {h a g : Int32} : f_X8_copyTo_images 3 (nI f) cells h a g w1 w2 (nI i) = some (cells ((f + i) % 3 * 19), cells ((f + i) % 3 * 19 + 1), cells ((f + i) % 3 * 19 + 2), va_cpy cells w1 ((f + i) % 3 * 19 + 3) 0 8, va_cpy cells w2 ((f + i) % 3 * 19 + 3 + 8) 0 8) := by
  unfold f_X8_copyTo_images
  rw [placeI_s hf (by omega)]
  have : (f + i) % 3 < 3 := Nat.mod_lt _ (by decide)
  generalize (f + i) % 3 = b at this
  simp (disch := omega) only [pb_lits, pb_ltT, pb_ltF, pb_leT, pb_leF, pb_eqT, pb_eqF, pb_lt, pb_le, pb_eq, pb_add, pb_mul, pb_sub, pb_cl, pb_ibt, pb_eqm, pb_meq, pb_ltm, pb_mlt, pb_lem, pb_mle, ite_true, ite_false, reduceIte, not_true_eq_false, not_false_eq_true, pb_bind, Nat.zero_add, Nat.add_zero, cok_t]
/-- a copy comes back -/
theorem shelf_get {W P j i b : Nat} (hP : P ≤ 8) {cells row w1 w2 st : Nat → Int32} (h : pNow W P j (cells b) (cells (b + 1)) (cells (b + 2)) (fun p => cells (b + 3 + p)) (fun p => cells (b + 11 + p)) (fun k => row (26 * i + k))) :
    pNow W P j (cells b) (cells (b + 1)) (cells (b + 2)) (va_cpy cells w1 (b + 3) 0 8) (va_cpy cells w2 (b + 3 + 8) 0 8) (va_cpy row st (26 * i) 0 26) := by
  refine h.congr hP rfl rfl rfl (fun p hp => ?_) (fun p hp => ?_) (fun k hk => ?_)
  · unfold va_cpy; rw [if_pos (by omega)]; rfl
  · unfold va_cpy; rw [if_pos (by omega)]; show cells _ = cells _; congr 1
  · unfold va_cpy; rw [if_pos (by omega)]; rfl
theorem rf_st39 {j : Nat} : rf_step_39 (rf_Inv j) (rf_Inv (j + 1)) := by
  rintro I J A B I' A' ⟨W, P, G, na, ni, h⟩
  have ht := h.tale
  have hP := ht.P8
  obtain ⟨h1, c1, c2, f, hf, c3, h2⟩ := h.acts
  rw [h.aroom, c1, c2, c3]
  unfold f_X10_undo f_X10_undo_17 f_X8_pop_acts f_X11_undo
  simp only [f_X11_good, f_X11_isNot, Option.bind_some]
  by_cases e : na = 0
  · subst e
    refine ⟨(0, 6, I 4, I 5, I 7, nI 0, A 1, A 2), (0, 0, 6, nI 0, A' 4), by simp (disch := omega) only [pb_lits, pb_ltT, pb_ltF, pb_leT, pb_leF, pb_eqT, pb_eqF, pb_lt, pb_le, pb_eq, pb_add, pb_mul, pb_sub, pb_cl, pb_ibt, pb_eqm, pb_meq, pb_ltm, pb_mlt, pb_lem, pb_mle, ite_true, ite_false, reduceIte, not_true_eq_false, not_false_eq_true, pb_bind, Nat.zero_add, Nat.add_zero], rfl, rfl, ?_⟩
    exact h.quiet (h.fault.tell (u := 6) (by decide)) (by rw [← c1]; rfl) rfl (by rw [← c2]; rfl) rfl
  · have hPP : 0 < P := Nat.pos_of_ne_zero (fun e0 => e (h.none e0).2.2.1)
    obtain ⟨m, rfl⟩ : ∃ m, na = m + 1 := ⟨na - 1, by omega⟩
    have e1 : nI (m + 1) - nI 1 = nI m := pb_sub (by omega)
    have hM : (if nI (m + 1) = 0 then if rf_zb 0 = true then some ((0 : Int32), (0 : Int32), (6 : Int32), nI (m + 1), A' 4) else none else if rf_cok (26 * (nI (m + 1) - 1)) 0 26 416 26 = true then some (1, 0, 0, nI (m + 1) - 1, va_cpy (A' 5) (A' 4) (Int32.toNatClampNeg (26 * (nI (m + 1) - 1))) (Int32.toNatClampNeg 0) (Int32.toNatClampNeg 26)) else none) = some (1, 0, 0, nI m, va_cpy (A' 5) (A' 4) (26 * m) 0 26) := by
      simp (disch := omega) only [pb_lits, pb_ltT, pb_ltF, pb_leT, pb_leF, pb_eqT, pb_eqF, pb_lt, pb_le, pb_eq, pb_add, pb_mul, pb_sub, pb_cl, pb_ibt, pb_eqm, pb_meq, pb_ltm, pb_mlt, pb_lem, pb_mle, ite_true, ite_false, reduceIte, not_true_eq_false, not_false_eq_true, pb_bind, Nat.zero_add, Nat.add_zero, e1, cok_t]
    refine ⟨(1, 0, A 11 ((f + m) % 16 * 19), A 11 ((f + m) % 16 * 19 + 1), A 11 ((f + m) % 16 * 19 + 2), nI m, va_cpy (A 11) (A 1) ((f + m) % 16 * 19 + 3) 0 8, va_cpy (A 11) (A 2) ((f + m) % 16 * 19 + 3 + 8) 0 8), _, ?_, hM, ?_, ?_⟩
    · have := copyA_s (f := f) (i := m) hf (by omega) (cells := A 11) (w1 := A 1) (w2 := A 2) (h := I 4) (a := I 5) (g := I 7)
      simp only [pb_lits] at this
      simp (disch := omega) only [pb_lits, pb_ltT, pb_ltF, pb_leT, pb_leF, pb_eqT, pb_eqF, pb_lt, pb_le, pb_eq, pb_add, pb_mul, pb_sub, pb_cl, pb_ibt, pb_eqm, pb_meq, pb_ltm, pb_mlt, pb_lem, pb_mle, ite_true, ite_false, reduceIte, not_true_eq_false, not_false_eq_true, pb_bind, Nat.zero_add, Nat.add_zero, e1, this]
    · rfl
    · refine h.act hPP m ni (h.fault.tell (u := 0) (by decide)) (shelf_get hP (h2 m (by omega))).mono ?_ h.imgs.mono h.ifirst rfl rfl rfl rfl
      exact (show pShelf W P j m 16 (I 16) (nI m) (A 11) (nI m) (A' 5) from ⟨by omega, rfl, rfl, f, hf, c3, fun i hi => h2 i (by omega)⟩).mono
theorem rf_st41 {j : Nat} : rf_step_41 (rf_Inv j) (rf_Inv (j + 1)) := by
  rintro I J A B I' A' v1 ⟨W, P, G, na, ni, h⟩
  have ht := h.tale
  have hP := ht.P8
  obtain ⟨h1, c1, c2, f, hf, c3, h2⟩ := h.imgs
  rw [h.iroom, c1, c2, c3]
  unfold f_X10_back f_X10_back_20 f_X10_back_21 f_X11_back f_X8_clear_acts
  have r0 : f_X10_refused (I 3) 0 1 = some (1, 1) := refused_s (I 3) false true
  have r1 : f_X10_refused (I 3) 1 1 = some (0, 0) := refused_s (I 3) true true
  simp only [f_X11_good, f_X11_isNot, Option.bind_some, r0, r1]
  by_cases hv : gd ni v1 = true
  · obtain ⟨k, hk, rfl⟩ := gd_of (by omega) hv
    have hPP : 0 < P := Nat.pos_of_ne_zero (fun e0 => by have := (h.none e0).2.2.2.1; omega)
    have g1 := gd_in ni (by omega) (by omega) (nI k)
    rw [hv] at g1
    rw [g1]
    refine ⟨(1, 0, A 12 ((f + k) % 3 * 19), A 12 ((f + k) % 3 * 19 + 1), A 12 ((f + k) % 3 * 19 + 2), 0, 0, va_cpy (A 12) (A 1) ((f + k) % 3 * 19 + 3) 0 8, va_cpy (A 12) (A 2) ((f + k) % 3 * 19 + 3 + 8) 0 8), (1, 0, 0, 0, va_cpy (A' 6) (A' 4) (26 * k) 0 26), ?_, ?_, rfl, ?_⟩
    · have := copyI_s (f := f) (i := k) hf (by omega) (cells := A 12) (w1 := A 1) (w2 := A 2) (h := I 4) (a := I 5) (g := I 7)
      simp only [pb_lits] at this
      simp (disch := omega) only [pb_lits, pb_ltT, pb_ltF, pb_leT, pb_leF, pb_eqT, pb_eqF, pb_lt, pb_le, pb_eq, pb_add, pb_mul, pb_sub, pb_cl, pb_ibt, pb_eqm, pb_meq, pb_ltm, pb_mlt, pb_lem, pb_mle, ite_true, ite_false, reduceIte, not_true_eq_false, not_false_eq_true, pb_bind, Nat.zero_add, Nat.add_zero, this]
    · rw [show bI true = 1 from rfl]
      simp (disch := omega) only [pb_lits, pb_ltT, pb_ltF, pb_leT, pb_leF, pb_eqT, pb_eqF, pb_lt, pb_le, pb_eq, pb_add, pb_mul, pb_sub, pb_cl, pb_ibt, pb_eqm, pb_meq, pb_ltm, pb_mlt, pb_lem, pb_mle, ite_true, ite_false, reduceIte, not_true_eq_false, not_false_eq_true, pb_bind, Nat.zero_add, Nat.add_zero, cok_t]
    · refine h.act hPP 0 ni (h.fault.tell (u := 0) (by decide)) (shelf_get hP (h2 k (by omega))).mono ?_ h.imgs.mono h.ifirst rfl rfl rfl rfl
      exact ⟨by omega, rfl, rfl, 0, by omega, rfl, fun i hi => by omega⟩
  · rw [Bool.not_eq_true] at hv
    have g1 : f_X11_in v1 0 (nI ni - 1) = some 0 := by
      by_cases e0 : ni = 0
      · subst e0
        rw [in_s, if_neg (fun e => absurd (Int32.le_trans e.1 e.2) (by decide))]
      · rw [gd_in ni (by omega) (by omega), hv]; rfl
    rw [g1]
    have gx : ∀ F G : Option (Int32 × Int32 × Int32 × Int32 × Int32 × Int32 × Int32 × (Nat → Int32) × (Nat → Int32)), (if v1 < 0 then F else if nI ni ≤ v1 then F else G) = F := by
      intro F G
      by_cases h1 : v1 < 0
      · rw [if_pos h1]
      · rw [if_neg h1]
        by_cases h2 : nI ni ≤ v1
        · rw [if_pos h2]
        · exfalso
          have : gd ni v1 = true := decide_eq_true ⟨Int32.not_lt.mp h1, Int32.not_le.mp h2⟩
          rw [this] at hv
          cases hv
    rw [gx]
    exact ⟨_, _, rfl, rfl, rfl, h.quiet (h.fault.tell (u := 1) (by decide)) rfl rfl rfl rfl⟩
theorem rf_st40 {j : Nat} : rf_step_40 (rf_Inv j) (rf_Inv (j + 1)) := by
  rintro I J A B I' A' ⟨W, P, G, na, ni, h⟩
  have ht := h.tale
  have hP := ht.P8
  obtain ⟨h1, c1, c2, f, hf, c3, h2⟩ := h.imgs
  have hf0 : f = 0 := by
    have := h.ifirst
    rw [c3] at this
    exact (nI_eq (b := 0) (by omega) (by decide)).mp this
  subst hf0
  unfold f_X10_image f_X11_image
  rw [h.iroom, c1, c2, c3, ht.hpc, hasFerryX_s (by omega), h.hasb]
  simp only [f_X11_good, f_X11_no, f_X10_refuse, Option.bind_some]
  by_cases hPP : 0 < P
  · rw [decide_eq_true hPP, show f_X10_refused (I 3) (bI true) 1 = some (0, 0) from refused_s (I 3) true true]
    by_cases e : ni = 3
    · subst e
      refine ⟨(-1, 3, nI 0, nI 3, A 12), (-1, 0, 3, nI 3, A' 6), rfl, rfl, rfl, ?_⟩
      exact h.quiet (h.fault.tell (u := 3) (by decide)) (by rw [← c3, ← c1]; rfl) rfl (by rw [← c2]; rfl) rfl
    · refine ⟨(nI ni, 0, nI 0, nI (ni + 1), cput (A 12) ((0 + ni) % 3 * 19) (I 4) (I 5) (I 7) (A 1) (A 2)), (nI ni, 0, 0, nI (ni + 1), va_cpy (A' 4) (A' 6) 0 (26 * ni) 26), ?_, ?_, rfl, ?_⟩
      · unfold f_X8_push_images
        have this := push36I_s (f := 0) (n := ni) (by decide) (by omega) (h := I 4) (a := I 5) (g := I 7) (w1 := A 1) (w2 := A 2) (cells := A 12)
        simp only [pb_lits] at this
        simp (disch := omega) only [pb_lits, pb_ltT, pb_ltF, pb_leT, pb_leF, pb_eqT, pb_eqF, pb_lt, pb_le, pb_eq, pb_add, pb_mul, pb_sub, pb_cl, pb_ibt, pb_eqm, pb_meq, pb_ltm, pb_mlt, pb_lem, pb_mle, ite_true, ite_false, reduceIte, not_true_eq_false, not_false_eq_true, pb_bind, Nat.zero_add, Nat.add_zero, this]
        rw [show ni + 1 - 1 = ni by omega]
      · rw [show bI true = 1 from rfl]
        simp (disch := omega) only [pb_lits, pb_ltT, pb_ltF, pb_leT, pb_leF, pb_eqT, pb_eqF, pb_lt, pb_le, pb_eq, pb_add, pb_mul, pb_sub, pb_cl, pb_ibt, pb_eqm, pb_meq, pb_ltm, pb_mlt, pb_lem, pb_mle, ite_true, ite_false, reduceIte, not_true_eq_false, not_false_eq_true, pb_bind, Nat.zero_add, Nat.add_zero, cok_t]
        rw [show ni + 1 - 1 = ni by omega]
      · refine h.act hPP na (ni + 1) (h.fault.tell (u := 0) (by decide)) h.now.mono h.acts.mono ?_ rfl rfl rfl rfl rfl
        exact (shelf_put hP (by decide) (by omega) (by decide) h2 h.now).mono
  · rw [decide_eq_false hPP, show f_X10_refused (I 3) (bI false) 1 = some (1, 1) from refused_s (I 3) false true]
    refine ⟨(-1, 1, nI 0, nI ni, A 12), (-1, 0, 1, nI ni, A' 6), rfl, rfl, rfl, ?_⟩
    exact h.quiet (h.fault.tell (u := 1) (by decide)) (by rw [← c3, ← c1]; rfl) rfl (by rw [← c2]; rfl) rfl
