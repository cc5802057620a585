/-! meets, often, bestHour, bestName -/
theorem refused1_s (x : Int32) (a : Bool) : f_X10_refused x (bI a) 1 = some (bI (!a), whyN a true) := by
  cases a <;> rfl
theorem rf_Iv.g1 {W P G na ni j : Nat} {I : Nat → Int32} {J : Nat → Int64} {A : Nat → Nat → Int32} {B : Nat → Nat → Int64} {I' : Nat → Int32} {A' : Nat → Nat → Int32}
    (h : rf_Iv W P G na ni j I J A B I' A') {fX : Option (Int32 × Int32)} {fM : Option (Int32 × Int32 × Int32)} (a : Bool) (X : Option (Int32 × Int32)) (M : Option (Int32 × Int32 × Int32))
    (hX : fX = if bI (!a) = 0 then X else some (-1, whyN a true)) (hM : fM = if bI a = 0 then some (-1, 0, 1) else M) (hv : a = true → ∃ v, X = some (v, whyN a true) ∧ M = some (v, 0, 0)) :
    ∃ (zX : Int32 × Int32) (zM : Int32 × Int32 × Int32), fX = some zX ∧ fM = some zM ∧ zX.1 = zM.1 ∧ rf_Inv (j + 1) (rf_upL I [(3, zX.2)]) J A B (rf_upL I' [(0, zM.2.1), (10, zM.2.2)]) A' := by
  cases a
  · exact h.q false true 0 hX hM
  · obtain ⟨v, h1, h2⟩ := hv rfl
    exact h.q true true v (hX.trans h1) (hM.trans h2)
theorem meets_l {W P : Nat} {r st close words kinds : Nat → Int32} (h : pCx W P r st close words kinds) {ear : Int32} {he : Nat → Int32} (hE : pEar r ear he) {p q : Nat} (hp : p < P) (hq : q < P) (has : Int32) : ∀ d n n' i : Nat, i + d = 24 → d < n → d < n' →
    ∃ v, f_X6_firstHour_2 ear (nI W) words kinds he close n (nI p) (nI q) (nI i) = some v ∧ f_X11_meets_21 has r st n' (nI p) (nI q) (nI i) 0 0 = some (v, 0, 0) := by
  intro d
  induction d with
  | zero =>
    intro n n' i hi hn hn'
    obtain ⟨m, rfl, hm⟩ := fuel_succ hn
    obtain ⟨m', rfl, hm'⟩ := fuel_succ hn'
    rw [f_X6_firstHour_2, f_X11_meets_21]
    refine ⟨-2, ?_, ?_⟩
    · simp (disch := omega) only [pb_lits, pb_ltT, pb_ltF, pb_leT, pb_leF, pb_eqT, pb_eqF, pb_lt, pb_le, pb_eq, pb_add, pb_mul, pb_sub, pb_cl, pb_ibt, pb_eqm, pb_meq, pb_ltm, pb_mlt, pb_lem, pb_mle, ite_true, ite_false, reduceIte, not_true_eq_false, not_false_eq_true, pb_bind, Nat.zero_add, Nat.add_zero]
    · simp (disch := omega) only [pb_lits, pb_ltT, pb_ltF, pb_leT, pb_leF, pb_eqT, pb_eqF, pb_lt, pb_le, pb_eq, pb_add, pb_mul, pb_sub, pb_cl, pb_ibt, pb_eqm, pb_meq, pb_ltm, pb_mlt, pb_lem, pb_mle, ite_true, ite_false, reduceIte, not_true_eq_false, not_false_eq_true, pb_bind, Nat.zero_add, Nat.add_zero]
  | succ d ih =>
    intro n n' i hi hn hn'
    obtain ⟨m, rfl, hm⟩ := fuel_succ hn
    obtain ⟨m', rfl, hm'⟩ := fuel_succ hn'
    rw [f_X6_firstHour_2, f_X11_meets_21, hE.X i (by omega), hE.M i (by omega)]
    have e1 := hE.lo i (by omega)
    have e2 := hE.hi i (by omega)
    simp only [Option.bind_some]
    rw [degreeP_s h hp hq e1 (by omega), rhymeNowP_s h hp hq e1 (by omega)]
    simp only [Option.bind_some]
    have h24 : ¬ (24 : Int32) ≤ nI i := by simp (disch := omega) only [pb_lits, pb_ltT, pb_ltF, pb_leT, pb_leF, pb_eqT, pb_eqF, pb_lt, pb_le, pb_eq, pb_add, pb_mul, pb_sub, pb_cl, pb_ibt, pb_eqm, pb_meq, pb_ltm, pb_mlt, pb_lem, pb_mle, ite_true, ite_false, reduceIte, not_true_eq_false, not_false_eq_true, pb_bind, Nat.zero_add, Nat.add_zero]
    rw [if_neg h24, if_neg h24, nI_1]
    by_cases e3 : nI (degN W r (kinds p) (words p) (kinds q) (words q) (earE ear he i)) = 2
    · rw [if_pos e3, if_pos e3]
      exact ⟨_, rfl, rfl⟩
    · rw [if_neg e3, if_neg e3]
      exact ih m m' (i + 1) (by omega) (by omega) (by omega)
theorem rf_st16 {j : Nat} : rf_step_16 (rf_Inv j) (rf_Inv (j + 1)) := by
  rintro I J A B I' A' v1 v2 ⟨W, P, G, na, ni, h⟩
  have ht := h.tale
  have hP := ht.P8
  unfold f_X10_meets f_X11_meets
  rw [ht.hpc, ht.hwc, isPairX_s, areTwoM_s h.hasb ht.hpc' (by omega)]
  simp only [Option.bind_some, refused1_s, f_X11_good, f_X11_no]
  refine h.g1 _ _ _ rfl rfl (fun ha => ?_)
  obtain ⟨h1, h2, h3⟩ := and2 ha
  obtain ⟨p, hp, rfl⟩ := gd_of (by omega) h1
  obtain ⟨q, hq, rfl⟩ := gd_of (by omega) h2
  obtain ⟨v, q1, q2⟩ := meets_l h.cx (h.ears (by omega)) hp hq (I' 12) 24 rf_fu rf_fu 0 (by omega) (by decide) (by decide)
  refine ⟨v, ?_, q2⟩
  unfold f_X6_firstHour
  rw [show (0 : Int32) = nI 0 from rfl, q1]
  rfl
theorem often_l {W P : Nat} {r st close words kinds : Nat → Int32} (h : pCx W P r st close words kinds) {ear : Int32} {he : Nat → Int32} (hE : pEar r ear he) {p q : Nat} (hp : p < P) (hq : q < P) (has : Int32) : ∀ d n n' i : Nat, ∀ c : Int32, i + d = 24 → d < n → d < n' →
    ∃ v, f_X6_hourCount_5 ear (nI W) words kinds he close n (nI p) (nI q) c (nI i) = some v ∧ f_X11_often_24 has r st n' (nI p) (nI q) c (nI i) 0 0 = some (v, 0, 0) := by
  intro d
  induction d with
  | zero =>
    intro n n' i c hi hn hn'
    obtain ⟨m, rfl, hm⟩ := fuel_succ hn
    obtain ⟨m', rfl, hm'⟩ := fuel_succ hn'
    rw [f_X6_hourCount_5, f_X11_often_24]
    refine ⟨c, ?_, ?_⟩
    · simp (disch := omega) only [pb_lits, pb_ltT, pb_ltF, pb_leT, pb_leF, pb_eqT, pb_eqF, pb_lt, pb_le, pb_eq, pb_add, pb_mul, pb_sub, pb_cl, pb_ibt, pb_eqm, pb_meq, pb_ltm, pb_mlt, pb_lem, pb_mle, ite_true, ite_false, reduceIte, not_true_eq_false, not_false_eq_true, pb_bind, Nat.zero_add, Nat.add_zero]
    · simp (disch := omega) only [pb_lits, pb_ltT, pb_ltF, pb_leT, pb_leF, pb_eqT, pb_eqF, pb_lt, pb_le, pb_eq, pb_add, pb_mul, pb_sub, pb_cl, pb_ibt, pb_eqm, pb_meq, pb_ltm, pb_mlt, pb_lem, pb_mle, ite_true, ite_false, reduceIte, not_true_eq_false, not_false_eq_true, pb_bind, Nat.zero_add, Nat.add_zero]
  | succ d ih =>
    intro n n' i c hi hn hn'
    obtain ⟨m, rfl, hm⟩ := fuel_succ hn
    obtain ⟨m', rfl, hm'⟩ := fuel_succ hn'
    rw [f_X6_hourCount_5, f_X11_often_24, hE.X i (by omega), hE.M i (by omega)]
    have e1 := hE.lo i (by omega)
    have e2 := hE.hi i (by omega)
    simp only [Option.bind_some, f_X6_hourCount_37, f_X11_often_53]
    rw [degreeP_s h hp hq e1 (by omega), rhymeNowP_s h hp hq e1 (by omega)]
    simp only [Option.bind_some]
    have h24 : ¬ (24 : Int32) ≤ nI i := by simp (disch := omega) only [pb_lits, pb_ltT, pb_ltF, pb_leT, pb_leF, pb_eqT, pb_eqF, pb_lt, pb_le, pb_eq, pb_add, pb_mul, pb_sub, pb_cl, pb_ibt, pb_eqm, pb_meq, pb_ltm, pb_mlt, pb_lem, pb_mle, ite_true, ite_false, reduceIte, not_true_eq_false, not_false_eq_true, pb_bind, Nat.zero_add, Nat.add_zero]
    rw [if_neg h24, if_neg h24, nI_1]
    by_cases e3 : nI (degN W r (kinds p) (words p) (kinds q) (words q) (earE ear he i)) = 2
    · rw [if_pos e3, if_pos e3]
      exact ih m m' (i + 1) _ (by omega) (by omega) (by omega)
    · rw [if_neg e3, if_neg e3]
      exact ih m m' (i + 1) _ (by omega) (by omega) (by omega)
theorem rf_st17 {j : Nat} : rf_step_17 (rf_Inv j) (rf_Inv (j + 1)) := by
  rintro I J A B I' A' v1 v2 ⟨W, P, G, na, ni, h⟩
  have ht := h.tale
  have hP := ht.P8
  unfold f_X10_often f_X11_often
  rw [ht.hpc, ht.hwc, isPairX_s, areTwoM_s h.hasb ht.hpc' (by omega)]
  simp only [Option.bind_some, refused1_s, f_X11_good, f_X11_no]
  refine h.g1 _ _ _ rfl rfl (fun ha => ?_)
  obtain ⟨h1, h2, h3⟩ := and2 ha
  obtain ⟨p, hp, rfl⟩ := gd_of (by omega) h1
  obtain ⟨q, hq, rfl⟩ := gd_of (by omega) h2
  obtain ⟨v, q1, q2⟩ := often_l h.cx (h.ears (by omega)) hp hq (I' 12) 24 rf_fu rf_fu 0 0 (by omega) (by decide) (by decide)
  refine ⟨v, ?_, q2⟩
  unfold f_X6_hourCount
  rw [show f_X6_hourCount_5 (I 21) (nI W) (A 1) (A 14) (A 18) (A 22) rf_fu (nI p) (nI q) 0 0 = _ from q1]
  rfl
/-! how many are in a set -/
def pop (m : Nat) : Nat := (if m.testBit 0 then 1 else 0) + (if m.testBit 1 then 1 else 0) + (if m.testBit 2 then 1 else 0) + (if m.testBit 3 then 1 else 0) + (if m.testBit 4 then 1 else 0) + (if m.testBit 5 then 1 else 0) + (if m.testBit 6 then 1 else 0) + (if m.testBit 7 then 1 else 0) + (if m.testBit 8 then 1 else 0) + (if m.testBit 9 then 1 else 0)
set_option maxRecDepth 100000 in
theorem bc_all : ∀ m : Fin 1024, rf_bc (nI m.1) = nI (pop m.1) ∧ pop m.1 ≤ 10 := by decide +kernel
set_option maxRecDepth 100000 in
theorem ones_all : ∀ m : Fin 1024, f_X11_ones (nI m.1) = some (nI (pop m.1)) := by decide +kernel
theorem bc_s {m : Nat} (h : m < 1024) : rf_bc (nI m) = nI (pop m) := (bc_all ⟨m, h⟩).1
theorem ones_s {m : Nat} (h : m < 1024) : f_X11_ones (nI m) = some (nI (pop m)) := ones_all ⟨m, h⟩
theorem pop_le {m : Nat} (h : m < 1024) : pop m ≤ 10 := (bc_all ⟨m, h⟩).2
/-- a set of few, as a number -/
def numF (b : Nat → Bool) : Nat → Nat
  | 0 => 0
  | n + 1 => (if b n = true then 2 ^ n else 0) + numF b n
theorem numF_lt (b : Nat → Bool) : ∀ n, numF b n < 2 ^ n := by
  intro n
  induction n with
  | zero => show 0 < 1; omega
  | succ n ih => rw [numF, Nat.pow_succ]; split <;> omega
theorem numF_bit (b : Nat → Bool) : ∀ n k, (numF b n).testBit k = (decide (k < n) && b k) := by
  intro n
  induction n with
  | zero => intro k; rw [numF, Nat.zero_testBit]; simp
  | succ n ih =>
    intro k
    rw [numF]
    have hlt := numF_lt b n
    by_cases hb : b n = true
    · rw [if_pos hb]
      by_cases hk : k = n
      · subst hk
        rw [Nat.testBit_two_pow_add_eq, ih k, decide_eq_false (Nat.lt_irrefl k), hb]; simp
      · by_cases hk2 : k < n
        · rw [Nat.testBit_two_pow_add_gt hk2, ih k, decide_eq_true hk2, decide_eq_true (by omega : k < n + 1)]
        · have : (2 ^ n + numF b n) < 2 ^ k := Nat.lt_of_lt_of_le (by omega : _ < 2 ^ (n + 1)) (Nat.pow_le_pow_right (by decide) (by omega))
          rw [Nat.testBit_lt_two_pow this, decide_eq_false (by omega), Bool.false_and]
    · rw [if_neg hb, Nat.zero_add, ih k]
      by_cases hk : k = n
      · subst hk; rw [(Bool.not_eq_true _).mp hb]; simp
      · rw [decide_eq_decide.mpr (show k < n ↔ k < n + 1 by omega)]
theorem setF_num (b : Nat → Bool) {n : Nat} (hn : n ≤ 31) : setF b n = nI (numF b n) := by
  have h1 : numF b n < 2 ^ 32 := Nat.lt_of_lt_of_le (numF_lt b n) (Nat.pow_le_pow_right (by decide) (by omega))
  exact setF_eq (by omega) (fun k => by rw [bt_nI h1, numF_bit])
theorem numF_1024 (b : Nat → Bool) {n : Nat} (hn : n ≤ 10) : numF b n < 1024 := Nat.lt_of_lt_of_le (numF_lt b n) (Nat.pow_le_pow_right (n := 2) (by decide) (by omega : n ≤ 10))
