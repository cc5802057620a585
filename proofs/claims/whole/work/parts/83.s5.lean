/-! bestHour, bestName -/
theorem bcF_s (b : Nat → Bool) {n : Nat} (hn : n ≤ 10) : rf_bc (setF b n) = nI (pop (numF b n)) := by
  rw [setF_num b (by omega), bc_s (numF_1024 b hn)]
theorem onesF_s (b : Nat → Bool) {n : Nat} (hn : n ≤ 10) : f_X11_ones (setF b n) = some (nI (pop (numF b n))) := by
  rw [setF_num b (by omega), ones_s (numF_1024 b hn)]
theorem popF_le (b : Nat → Bool) {n : Nat} (hn : n ≤ 10) : pop (numF b n) ≤ 10 := pop_le (numF_1024 b hn)
/-- how many rhyme with p at an hour -/
def metC (W P : Nat) (r words kinds : Nat → Int32) (p : Nat) (ws : Int32) (e : Nat) : Nat := pop (numF (metb W r words kinds p ws (nI 0) e) P)
theorem bestHour_l {W P : Nat} {r st close words kinds : Nat → Int32} (h : pCx W P r st close words kinds) {ear : Int32} {he : Nat → Int32} (hE : pEar r ear he) {p : Nat} (hp : p < P) (has : Int32) : ∀ d n n' i b : Nat, i + d = 24 → b < 24 → d < n → d < n' →
    ∃ v, f_X6_hourOfMost_7 ear (nI W) (nI P) words kinds he close n (nI p) (nI b) (nI (metC W P r words kinds p (words p) (earE ear he b))) (nI i) = some v ∧ f_X11_bestHour_22 has r st n' (nI p) (nI b) (nI i) 0 0 = some (v, 0, 0) := by
  have hP := h.P8
  intro d
  induction d with
  | zero =>
    intro n n' i b hi hb hn hn'
    obtain ⟨m, rfl, hm⟩ := fuel_succ hn
    obtain ⟨m', rfl, hm'⟩ := fuel_succ hn'
    rw [f_X6_hourOfMost_7, f_X11_bestHour_22]
    refine ⟨nI b, ?_, ?_⟩
    · simp (disch := omega) only [pb_lits, pb_ltT, pb_ltF, pb_leT, pb_leF, pb_eqT, pb_eqF, pb_lt, pb_le, pb_eq, pb_add, pb_mul, pb_sub, pb_cl, pb_ibt, pb_eqm, pb_meq, pb_ltm, pb_mlt, pb_lem, pb_mle, ite_true, ite_false, reduceIte, not_true_eq_false, not_false_eq_true, pb_bind, Nat.zero_add, Nat.add_zero]
    · simp (disch := omega) only [pb_lits, pb_ltT, pb_ltF, pb_leT, pb_leF, pb_eqT, pb_eqF, pb_lt, pb_le, pb_eq, pb_add, pb_mul, pb_sub, pb_cl, pb_ibt, pb_eqm, pb_meq, pb_ltm, pb_mlt, pb_lem, pb_mle, ite_true, ite_false, reduceIte, not_true_eq_false, not_false_eq_true, pb_bind, Nat.zero_add, Nat.add_zero]
  | succ d ih =>
    intro n n' i b hi hb hn hn'
    obtain ⟨m, rfl, hm⟩ := fuel_succ hn
    obtain ⟨m', rfl, hm'⟩ := fuel_succ hn'
    have e1 := hE.lo i (by omega)
    have e2 := hE.hi i (by omega)
    have f1 := hE.lo b hb
    have f2 := hE.hi b hb
    have q1 := metNow_s h hp e1 (by omega)
    have q2 := withBy_s h hp e1 (by omega) (h.hw p hp)
    have q3 := withBy_s h hp f1 (by omega) (h.hw p hp)
    rw [h.wd p hp] at q2 q3
    rw [f_X6_hourOfMost_7, f_X11_bestHour_22]
    simp only [f_X6_hourOfMost_45, f_X11_bestHour_80, f_J6_bitCount_0f7a4]
    have x1 := ih m m' (i + 1) b (by omega) hb (by omega) (by omega)
    have x2 := ih m m' (i + 1) i (by omega) (by omega) (by omega) (by omega)
    simp only [← h.wd p hp] at q2 q3
    have b1 := bcF_s (metb W r words kinds p (words p) (nI 0) (earE ear he i)) (n := P) (by omega)
    have b2 := onesF_s (metb W r words kinds p (words p) (nI 0) (earE ear he i)) (n := P) (by omega)
    have b3 := onesF_s (metb W r words kinds p (words p) (nI 0) (earE ear he b)) (n := P) (by omega)
    have c1 := popF_le (metb W r words kinds p (words p) (nI 0) (earE ear he i)) (n := P) (by omega)
    have c2 := popF_le (metb W r words kinds p (words p) (nI 0) (earE ear he b)) (n := P) (by omega)
    unfold metC at x1 x2 ⊢
    obtain ⟨x, hx⟩ : ∃ x, pop (numF (metb W r words kinds p (words p) (nI 0) (earE ear he i)) P) = x := ⟨_, rfl⟩
    obtain ⟨y, hy⟩ : ∃ y, pop (numF (metb W r words kinds p (words p) (nI 0) (earE ear he b)) P) = y := ⟨_, rfl⟩
    rw [hx] at b1 b2 c1 x2
    rw [hy] at b3 c2 x1 ⊢
    clear hx hy
    have m1 := hE.M i (by omega)
    have m2 := hE.M b hb
    generalize f_X11_earAt = F3 at m1 m2 ⊢
    generalize f_X11_ones = F at b2 b3 ⊢
    generalize f_X11_withBy = F2 at q2 q3 ⊢
    by_cases hle : x ≤ y
    · simp (disch := omega) only [pb_lits, pb_ltT, pb_ltF, pb_leT, pb_leF, pb_eqT, pb_eqF, pb_lt, pb_le, pb_eq, pb_add, pb_mul, pb_sub, pb_cl, pb_ibt, pb_eqm, pb_meq, pb_ltm, pb_mlt, pb_lem, pb_mle, ite_true, ite_false, reduceIte, not_true_eq_false, not_false_eq_true, pb_bind, Nat.zero_add, Nat.add_zero, hE.X, m1, m2, q1, ← h.wd p hp, q2, q3, b1, b2, b3]
      exact x1
    · simp (disch := omega) only [pb_lits, pb_ltT, pb_ltF, pb_leT, pb_leF, pb_eqT, pb_eqF, pb_lt, pb_le, pb_eq, pb_add, pb_mul, pb_sub, pb_cl, pb_ibt, pb_eqm, pb_meq, pb_ltm, pb_mlt, pb_lem, pb_mle, ite_true, ite_false, reduceIte, not_true_eq_false, not_false_eq_true, pb_bind, Nat.zero_add, Nat.add_zero, hE.X, m1, m2, q1, ← h.wd p hp, q2, q3, b1, b2, b3]
      exact x2
theorem rf_st11 {j : Nat} : rf_step_11 (rf_Inv j) (rf_Inv (j + 1)) := by
  rintro I J A B I' A' v1 ⟨W, P, G, na, ni, h⟩
  have ht := h.tale
  have hP := ht.P8
  unfold f_X10_bestHour f_X11_bestHour
  rw [ht.hpc, ht.hwc, isPersonX_s, isPersonM_s h.hasb ht.hpc' (by omega)]
  simp only [Option.bind_some, refused1_s, f_X11_good, f_X11_no]
  refine h.g1 _ _ _ rfl rfl (fun ha => ?_)
  obtain ⟨p, hp, rfl⟩ := gd_of (by omega) ha
  have hE := h.ears (by omega)
  have e1 := hE.lo 0 (by omega)
  have e2 := hE.hi 0 (by omega)
  obtain ⟨v, q1, q2⟩ := bestHour_l h.cx hE hp (I' 12) 23 4095 rf_fu 1 0 (by omega) (by omega) (by decide) (by decide)
  refine ⟨v, ?_, q2⟩
  unfold f_X6_hourOfMost
  rw [show rf_fu = 4095 + 1 from rfl, f_X6_hourOfMost_7]
  simp only [f_X6_hourOfMost_45, f_J6_bitCount_0f7a4]
  have b1 := bcF_s (metb W (A' 2) (A 1) (A 14) p (A 1 p) (nI 0) (earE (I 21) (A 18) 0)) (n := P) (by omega)
  have c1 := popF_le (metb W (A' 2) (A 1) (A 14) p (A 1 p) (nI 0) (earE (I 21) (A 18) 0)) (n := P) (by omega)
  unfold metC at q1
  generalize pop (numF (metb W (A' 2) (A 1) (A 14) p (A 1 p) (nI 0) (earE (I 21) (A 18) 0)) P) = x at *
  simp (disch := omega) only [pb_lits, pb_ltT, pb_ltF, pb_leT, pb_leF, pb_eqT, pb_eqF, pb_lt, pb_le, pb_eq, pb_add, pb_mul, pb_sub, pb_cl, pb_ibt, pb_eqm, pb_meq, pb_ltm, pb_mlt, pb_lem, pb_mle, ite_true, ite_false, reduceIte, not_true_eq_false, not_false_eq_true, pb_bind, Nat.zero_add, Nat.add_zero, hE.X, metNow_s h.cx hp, b1]
  rw [q1]
  rfl
theorem bestName_l {W P : Nat} {r st close words kinds : Nat → Int32} (h : pCx W P r st close words kinds) {e : Nat} (he1 : 1 ≤ e) (he : e ≤ 7) {k : Nat} (hM : f_X11_earAt r (nI k) = some (nI e)) {p : Nat} (hp : p < P) (has : Int32) : ∀ d n n' i b : Nat, i + d = W → b < W → d < n → d < n' →
    ∃ v, f_X6_wordOfMost_8 (nI W) (nI P) words kinds close n (nI p) (nI e) (nI b) (nI (metC W P r words kinds p (nI 1 <<< (nI b &&& nI 31)) e)) (nI i) = some v ∧ f_X11_bestName_31 has r st n' (nI p) (nI k) (nI b) (nI i) 0 0 = some (v, 0, 0) := by
  have hP := h.P8
  have hW := h.W10
  intro d
  induction d with
  | zero =>
    intro n n' i b hi hb hn hn'
    obtain ⟨m, rfl, hm⟩ := fuel_succ hn
    obtain ⟨m', rfl, hm'⟩ := fuel_succ hn'
    rw [f_X6_wordOfMost_8, f_X11_bestName_31, show Int32.toNatClampNeg 2 = 2 from rfl, h.ws.2.1]
    refine ⟨nI b, ?_, ?_⟩
    · simp (disch := omega) only [pb_lits, pb_ltT, pb_ltF, pb_leT, pb_leF, pb_eqT, pb_eqF, pb_lt, pb_le, pb_eq, pb_add, pb_mul, pb_sub, pb_cl, pb_ibt, pb_eqm, pb_meq, pb_ltm, pb_mlt, pb_lem, pb_mle, ite_true, ite_false, reduceIte, not_true_eq_false, not_false_eq_true, pb_bind, Nat.zero_add, Nat.add_zero]
    · simp (disch := omega) only [pb_lits, pb_ltT, pb_ltF, pb_leT, pb_leF, pb_eqT, pb_eqF, pb_lt, pb_le, pb_eq, pb_add, pb_mul, pb_sub, pb_cl, pb_ibt, pb_eqm, pb_meq, pb_ltm, pb_mlt, pb_lem, pb_mle, ite_true, ite_false, reduceIte, not_true_eq_false, not_false_eq_true, pb_bind, Nat.zero_add, Nat.add_zero]
  | succ d ih =>
    intro n n' i b hi hb hn hn'
    obtain ⟨m, rfl, hm⟩ := fuel_succ hn
    obtain ⟨m', rfl, hm'⟩ := fuel_succ hn'
    have q2 := withBy_s h hp he1 he (hasW_1 (w := i) (W := W) (by omega) (by omega))
    have q3 := withBy_s h hp he1 he (hasW_1 (w := b) (W := W) hb (by omega))
    rw [f_X6_wordOfMost_8, f_X11_bestName_31, show Int32.toNatClampNeg 2 = 2 from rfl, h.ws.2.1]
    simp only [f_X6_wordOfMost_50, f_X11_bestName_86, f_J6_bitCount_0f7a4]
    have x1 := ih m m' (i + 1) b (by omega) hb (by omega) (by omega)
    have x2 := ih m m' (i + 1) i (by omega) (by omega) (by omega) (by omega)
    have b1 := bcF_s (metb W r words kinds p (nI 1 <<< (nI i &&& nI 31)) (nI 0) e) (n := P) (by omega)
    have b2 := onesF_s (metb W r words kinds p (nI 1 <<< (nI i &&& nI 31)) (nI 0) e) (n := P) (by omega)
    have b3 := onesF_s (metb W r words kinds p (nI 1 <<< (nI b &&& nI 31)) (nI 0) e) (n := P) (by omega)
    have c1 := popF_le (metb W r words kinds p (nI 1 <<< (nI i &&& nI 31)) (nI 0) e) (n := P) (by omega)
    have c2 := popF_le (metb W r words kinds p (nI 1 <<< (nI b &&& nI 31)) (nI 0) e) (n := P) (by omega)
    unfold metC at x1 x2 ⊢
    obtain ⟨x, hx⟩ : ∃ x, pop (numF (metb W r words kinds p (nI 1 <<< (nI i &&& nI 31)) (nI 0) e) P) = x := ⟨_, rfl⟩
    obtain ⟨y, hy⟩ : ∃ y, pop (numF (metb W r words kinds p (nI 1 <<< (nI b &&& nI 31)) (nI 0) e) P) = y := ⟨_, rfl⟩
    rw [hx] at b1 b2 c1 x2
    rw [hy] at b3 c2 x1 ⊢
    clear hx hy
    generalize f_X11_ones = F at b2 b3 ⊢
    generalize f_X11_withBy = F2 at q2 q3 ⊢
    by_cases hle : x ≤ y
    · simp (disch := omega) only [pb_lits, pb_ltT, pb_ltF, pb_leT, pb_leF, pb_eqT, pb_eqF, pb_lt, pb_le, pb_eq, pb_add, pb_mul, pb_sub, pb_cl, pb_ibt, pb_eqm, pb_meq, pb_ltm, pb_mlt, pb_lem, pb_mle, ite_true, ite_false, reduceIte, not_true_eq_false, not_false_eq_true, pb_bind, Nat.zero_add, Nat.add_zero, hM, metBy_s h hp he1 he, q2, q3, b1, b2, b3]
      exact x1
    · simp (disch := omega) only [pb_lits, pb_ltT, pb_ltF, pb_leT, pb_leF, pb_eqT, pb_eqF, pb_lt, pb_le, pb_eq, pb_add, pb_mul, pb_sub, pb_cl, pb_ibt, pb_eqm, pb_meq, pb_ltm, pb_mlt, pb_lem, pb_mle, ite_true, ite_false, reduceIte, not_true_eq_false, not_false_eq_true, pb_bind, Nat.zero_add, Nat.add_zero, hM, metBy_s h hp he1 he, q2, q3, b1, b2, b3]
      exact x2
theorem rf_st14 {j : Nat} : rf_step_14 (rf_Inv j) (rf_Inv (j + 1)) := by
  rintro I J A B I' A' v1 v2 ⟨W, P, G, na, ni, h⟩
  have ht := h.tale
  have hP := ht.P8
  have hW := ht.W10
  unfold f_X10_bestName f_X11_bestName
  rw [ht.hpc, ht.hwc, isPersonX_s, isHourX_s, isPersonM_s h.hasb ht.hpc' (by omega)]
  simp only [Option.bind_some, refused_s, f_X11_good, whyM_s, f_X11_no]
  refine h.g _ _ _ _ rfl rfl (fun ha hb => ?_)
  obtain ⟨p, hp, rfl⟩ := gd_of (by omega) ha
  obtain ⟨k, hk, rfl⟩ := gd_of (by decide) hb
  have hE := h.ears (by omega)
  have e1 := hE.lo k hk
  have e2 := hE.hi k hk
  obtain ⟨w0, hw0, -⟩ := h.cx.hw p hp
  obtain ⟨v, q1, q2⟩ := bestName_l h.cx e1 (by omega) (hE.M k hk) hp (I' 12) (W - 1) 4095 rf_fu 1 0 (by omega) (by omega) (by omega) (by show W - 1 < 4096; omega)
  refine ⟨v, ?_, q2⟩
  unfold f_X6_wordOfMost
  rw [hE.X k hk, show rf_fu = 4095 + 1 from rfl]
  simp only [Option.bind_some]
  rw [f_X6_wordOfMost_8]
  simp only [f_X6_wordOfMost_50, f_J6_bitCount_0f7a4]
  have b1 := bcF_s (metb W (A' 2) (A 1) (A 14) p (nI 1 <<< (nI 0 &&& nI 31)) (nI 0) (earE (I 21) (A 18) k)) (n := P) (by omega)
  have c1 := popF_le (metb W (A' 2) (A 1) (A 14) p (nI 1 <<< (nI 0 &&& nI 31)) (nI 0) (earE (I 21) (A 18) k)) (n := P) (by omega)
  unfold metC at q1
  generalize pop (numF (metb W (A' 2) (A 1) (A 14) p (nI 1 <<< (nI 0 &&& nI 31)) (nI 0) (earE (I 21) (A 18) k)) P) = x at *
  simp (disch := omega) only [pb_lits, pb_ltT, pb_ltF, pb_leT, pb_leF, pb_eqT, pb_eqF, pb_lt, pb_le, pb_eq, pb_add, pb_mul, pb_sub, pb_cl, pb_ibt, pb_eqm, pb_meq, pb_ltm, pb_mlt, pb_lem, pb_mle, ite_true, ite_false, reduceIte, not_true_eq_false, not_false_eq_true, pb_bind, Nat.zero_add, Nat.add_zero, metBy_s h.cx hp, b1]
  rw [q1]
  rfl
