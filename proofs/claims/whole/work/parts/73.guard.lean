/-! what calls are refused by -/
def bI (b : Bool) : Int32 := cond b 1 0
theorem bI_t : bI true = 1 := rfl
theorem bI_f : bI false = 0 := rfl
theorem bI_0 (b : Bool) : (bI b = 0) = (b = false) := by cases b <;> decide
theorem bI_n0 (b : Bool) : (bI b = nI 0) = (b = false) := by cases b <;> decide
/-- a number of n things -/
def gd (n : Nat) (v : Int32) : Bool := decide (0 ≤ v ∧ v < nI n)
theorem gd_of {n : Nat} {v : Int32} (hn : n < 2 ^ 31) (h : gd n v = true) : ∃ k, k < n ∧ v = nI k := by
  have := of_decide_eq_true h
  exact pb_of hn this.1 this.2
theorem gd_nI {n k : Nat} (hn : n < 2 ^ 31) (h : k < n) : gd n (nI k) = true := decide_eq_true ⟨nI_pos' (by omega), nI_lt h hn⟩
def whyN (a b : Bool) : Int32 := cond a (cond b 0 2) 1
theorem refused_s (x : Int32) (a b : Bool) : f_X10_refused x (bI a) (bI b) = some (bI (!(a && b)), whyN a b) := by
  cases a <;> cases b <;> rfl
theorem gd_two {n v : Int32} {N : Nat} (hn : n = nI N) {F : Option Int32} (hF : F = some 0) : (if v < 0 then F else if n ≤ v then F else some 1) = some (bI (gd N v)) := by
  subst hn
  by_cases h1 : v < 0
  · rw [if_pos h1, hF]
    have : gd N v = false := decide_eq_false (fun h => absurd h.1 (Int32.not_le.mpr h1))
    rw [this]; rfl
  · rw [if_neg h1]
    by_cases h2 : nI N ≤ v
    · rw [if_pos h2, hF]
      have : gd N v = false := decide_eq_false (fun h => absurd h.2 (Int32.not_lt.mpr h2))
      rw [this]; rfl
    · rw [if_neg h2]
      have : gd N v = true := decide_eq_true ⟨Int32.not_lt.mp h1, Int32.not_le.mp h2⟩
      rw [this]; rfl
theorem isPersonX_s (P : Nat) (v : Int32) : f_X10_isPerson (nI P) v = some (bI (gd P v)) := gd_two rfl rfl
theorem isWordX_s (W : Nat) (v : Int32) : f_X10_isWord (nI W) v = some (bI (gd W v)) := gd_two rfl rfl
theorem isHourX_s (v : Int32) : f_X10_isHour v = some (bI (gd 24 v)) := gd_two (N := 24) rfl rfl
theorem isPriceX_s (v : Int32) : f_X10_isPrice v = some (bI (gd 10 v)) := gd_two (N := 10) rfl rfl
theorem hasFerryX_s {P : Nat} (hP : P < 2 ^ 31) : f_X10_hasFerry (nI P) = some (bI (decide (0 < P))) := by
  unfold f_X10_hasFerry
  by_cases h : 0 < P
  · rw [if_neg (by simp (disch := omega) only [pb_lits, pb_ltT, pb_ltF, pb_leT, pb_leF, pb_eqT, pb_eqF, pb_lt, pb_le, pb_eq, pb_add, pb_mul, pb_sub, pb_cl, pb_ibt, pb_eqm, pb_meq, pb_ltm, pb_mlt, pb_lem, pb_mle, ite_true, ite_false, reduceIte, not_true_eq_false, not_false_eq_true, pb_bind, Nat.zero_add, Nat.add_zero]), decide_eq_true h]; rfl
  · rw [if_pos (by simp (disch := omega) only [pb_lits, pb_ltT, pb_ltF, pb_leT, pb_leF, pb_eqT, pb_eqF, pb_lt, pb_le, pb_eq, pb_add, pb_mul, pb_sub, pb_cl, pb_ibt, pb_eqm, pb_meq, pb_ltm, pb_mlt, pb_lem, pb_mle, ite_true, ite_false, reduceIte, not_true_eq_false, not_false_eq_true, pb_bind, Nat.zero_add, Nat.add_zero]), decide_eq_false h]; rfl
theorem isPairX_s (P : Nat) (v u : Int32) : f_X10_isPair (nI P) v u = some (bI (gd P v && gd P u && !decide (v = u))) := by
  unfold f_X10_isPair f_X10_isPair_25
  rw [isPersonX_s, isPersonX_s]
  cases gd P v
  · rfl
  · cases gd P u
    · rfl
    · show (if v = u then some 0 else some 1) = _
      by_cases h : v = u
      · rw [if_pos h, decide_eq_true h]; rfl
      · rw [if_neg h, decide_eq_false h]; rfl
theorem isTwoWordsX_s (P : Nat) (v u : Int32) : f_X10_isTwoWords (nI P) v u = some (bI (gd P v && gd P u && !decide (v = u))) := by
  unfold f_X10_isTwoWords f_X10_isTwoWords_25
  rw [isWordX_s, isWordX_s]
  cases gd P v
  · rfl
  · cases gd P u
    · rfl
    · show (if v = u then some 0 else some 1) = _
      by_cases h : v = u
      · rw [if_pos h, decide_eq_true h]; rfl
      · rw [if_neg h, decide_eq_false h]; rfl
theorem gd2 (v : Int32) : gd 2 v = decide (v = 0 ∨ v = 1) := by
  apply decide_eq_decide.mpr
  constructor
  · intro h
    obtain ⟨k, hk, rfl⟩ := pb_of (n := 2) (by decide) h.1 h.2
    obtain rfl | rfl : k = 0 ∨ k = 1 := by omega
    · exact Or.inl rfl
    · exact Or.inr rfl
  · rintro (rfl | rfl) <;> decide
theorem isBankX_s {P : Nat} (hP : P < 2 ^ 31) (v : Int32) : f_X10_isBank (nI P) v = some (bI (decide (0 < P) && gd 2 v)) := by
  unfold f_X10_isBank f_X10_isBank_20 f_X10_isBank_16
  rw [hasFerryX_s hP, gd2]
  cases decide (0 < P)
  · rfl
  · show (if v = 0 then some 1 else if v = 1 then some 1 else some 0) = _
    by_cases h : v = 0
    · rw [if_pos h, decide_eq_true (Or.inl h)]; rfl
    · rw [if_neg h]
      by_cases h2 : v = 1
      · rw [if_pos h2, decide_eq_true (Or.inr h2)]; rfl
      · rw [if_neg h2, decide_eq_false (fun e => e.elim h h2)]; rfl
theorem isDayX_s (v u : Int32) : f_X10_isDay v u = some (bI (gd 65537 v && gd 25 u)) := by
  unfold f_X10_isDay f_X10_isDay_25
  by_cases h1 : v < 0
  · rw [if_pos h1]
    have : gd 65537 v = false := decide_eq_false (fun h => absurd h.1 (Int32.not_le.mpr h1))
    rw [this]; rfl
  · rw [if_neg h1]
    by_cases h2 : 65537 ≤ v
    · rw [if_pos h2]
      have : gd 65537 v = false := decide_eq_false (fun h => absurd h.2 (Int32.not_lt.mpr h2))
      rw [this]; rfl
    · rw [if_neg h2]
      have : gd 65537 v = true := decide_eq_true ⟨Int32.not_lt.mp h1, Int32.not_le.mp h2⟩
      rw [this]
      by_cases h3 : u < 0
      · rw [if_pos h3]
        have : gd 25 u = false := decide_eq_false (fun h => absurd h.1 (Int32.not_le.mpr h3))
        rw [this]; rfl
      · rw [if_neg h3]
        by_cases h4 : 24 < u
        · rw [if_pos h4]
          have : gd 25 u = false := decide_eq_false (fun h => by
            obtain ⟨k, hk, rfl⟩ := pb_of (n := 25) (by decide) h.1 h.2
            exact absurd h4 (nI_nlt (a := 24) (b := k) |> fun _ => Int32.not_lt.mpr (nI_le (b := 24) (by omega) (by decide))))
          rw [this]; rfl
        · rw [if_neg h4]
          have : gd 25 u = true := decide_eq_true ⟨Int32.not_lt.mp h3, by
            obtain ⟨k, hk, rfl⟩ := pb_ofle (n := 24) (by decide) (Int32.not_lt.mp h3) (Int32.not_lt.mp h4)
            exact nI_lt (by omega) (by decide)⟩
          rw [this]; rfl
/-! of the reference -/
theorem gd_in (n : Nat) (h0 : 0 < n) (hn : n < 2 ^ 31) (v : Int32) : f_X11_in v 0 (nI n - 1) = some (bI (gd n v)) := by
  rw [in_s, show nI n - 1 = nI (n - 1) from pb_sub (b := 1) h0]
  have : (0 ≤ v ∧ v ≤ nI (n - 1)) ↔ (0 ≤ v ∧ v < nI n) := by
    constructor
    · rintro ⟨a, b⟩
      obtain ⟨k, hk, rfl⟩ := pb_ofle (n := n - 1) (by omega) a b
      exact ⟨a, nI_lt (by omega) hn⟩
    · rintro ⟨a, b⟩
      obtain ⟨k, hk, rfl⟩ := pb_of (n := n) hn a b
      exact ⟨a, nI_le (by omega) (by omega)⟩
  unfold gd
  by_cases h : 0 ≤ v ∧ v < nI n
  · rw [if_pos (this.mpr h), decide_eq_true h]; rfl
  · rw [if_neg (fun e => h (this.mp e)), decide_eq_false h]; rfl
theorem gd_inn (n : Nat) (hn : n + 1 < 2 ^ 31) (v : Int32) : f_X11_in v 0 (nI n) = some (bI (gd (n + 1) v)) := by
  have := gd_in (n + 1) (by omega) hn v
  rwa [show nI (n + 1) - 1 = nI n from nI_pred n] at this
theorem isPersonM_s {has : Int32} {r : Nat → Int32} {P : Nat} (hh : has = bI (decide (0 < P))) (hr : r 3 = nI P) (hP : P < 2 ^ 31) (v : Int32) : f_X11_isPerson has r v = some (bI (gd P v)) := by
  unfold f_X11_isPerson f_X11_isPerson_27
  by_cases h : 0 < P
  · rw [hh, decide_eq_true h]
    show (f_X11_in v 0 (r 3 - 1)).bind _ = _
    rw [hr, gd_in P h hP]
    cases gd P v <;> rfl
  · rw [hh, decide_eq_false h]
    obtain rfl : P = 0 := by omega
    have : gd 0 v = false := decide_eq_false (fun e => absurd e.2 (Int32.not_lt.mpr e.1))
    rw [this]; rfl
theorem isWordM_s {has : Int32} {r : Nat → Int32} {P W : Nat} (hh : has = bI (decide (0 < P))) (h0 : P = 0 → W = 0) (hr : r 2 = nI W) (hW : W < 2 ^ 31) (v : Int32) : f_X11_isWordThere has r v = some (bI (gd W v)) := by
  unfold f_X11_isWordThere f_X11_isWordThere_27
  by_cases h : 0 < P
  · rw [hh, decide_eq_true h]
    show (f_X11_in v 0 (r 2 - 1)).bind _ = _
    by_cases hw : 0 < W
    · rw [hr, gd_in W hw hW]
      cases gd W v <;> rfl
    · obtain rfl : W = 0 := by omega
      have : gd 0 v = false := decide_eq_false (fun e => absurd e.2 (Int32.not_lt.mpr e.1))
      rw [hr, in_s, if_neg (fun e => absurd (Int32.le_trans e.1 e.2) (by decide)), this]; rfl
  · rw [hh, decide_eq_false h]
    obtain rfl : W = 0 := h0 (by omega)
    have : gd 0 v = false := decide_eq_false (fun e => absurd e.2 (Int32.not_lt.mpr e.1))
    rw [this]; rfl
theorem isHourM_s (v : Int32) : f_X11_isHour v = some (bI (gd 24 v)) := by
  unfold f_X11_isHour
  rw [show (23 : Int32) = nI 23 from rfl, gd_inn 23 (by decide)]
  cases gd 24 v <;> rfl
theorem whyM_s (a : Bool) (v : Int32) : f_X11_why (bI a) v = some (whyN a (gd 24 v)) := by
  unfold f_X11_why
  rw [isHourM_s]
  cases a <;> cases gd 24 v <;> rfl
theorem areTwoM_s {has : Int32} {r : Nat → Int32} {P : Nat} (hh : has = bI (decide (0 < P))) (hr : r 3 = nI P) (hP : P < 2 ^ 31) (v u : Int32) : f_X11_areTwo has r v u = some (bI (gd P v && gd P u && !decide (v = u))) := by
  unfold f_X11_areTwo f_X11_areTwo_25
  rw [isPersonM_s hh hr hP, isPersonM_s hh hr hP]
  cases gd P v
  · rfl
  · cases gd P u
    · rfl
    · show (if v = u then some 0 else some 1) = _
      by_cases h : v = u
      · rw [if_pos h, decide_eq_true h]; rfl
      · rw [if_neg h, decide_eq_false h]; rfl
theorem bankWhyM_s {has : Int32} {P : Nat} (hh : has = bI (decide (0 < P))) (b v : Int32) : f_X11_bankWhy has b v = some (whyN (decide (0 < P) && gd 2 b) (gd 24 v)) := by
  unfold f_X11_bankWhy f_X11_bankWhy_21 f_X11_bankWhy_22
  rw [hh, show (1 : Int32) = nI 1 from rfl, gd_inn 1 (by decide)]
  rw [show (0 : Int32) = bI false from rfl, show nI 1 = bI true from rfl, whyM_s, whyM_s]
  cases decide (0 < P) <;> cases gd 2 b <;> rfl
theorem sellersWhyM_s {has : Int32} {r : Nat → Int32} {P W : Nat} (hh : has = bI (decide (0 < P))) (h0 : P = 0 → W = 0) (hr : r 2 = nI W) (hW : W < 2 ^ 31) (v u x : Int32) : f_X11_sellersWhy has r v u x = some (whyN (gd W v && gd W u && !decide (v = u)) (gd 24 x)) := by
  unfold f_X11_sellersWhy f_X11_sellersWhy_26 f_X11_sellersWhy_27
  rw [isWordM_s hh h0 hr hW, isWordM_s hh h0 hr hW]
  rw [show (0 : Int32) = bI false from rfl, show (1 : Int32) = bI true from rfl, whyM_s, whyM_s]
  cases gd W v
  · rfl
  · cases gd W u
    · rfl
    · show (if v = u then _ else _) = _
      by_cases h : v = u
      · rw [if_pos h, decide_eq_true h]; rfl
      · rw [if_neg h, decide_eq_false h]; rfl
theorem dayWhyM_s (a : Bool) (v u : Int32) : f_X11_dayWhy (bI a) v u = some (whyN a (gd 65537 v && gd 25 u)) := by
  unfold f_X11_dayWhy f_X11_dayWhy_33
  rw [show (65536 : Int32) = nI 65536 from rfl, gd_inn 65536 (by decide), show (24 : Int32) = nI 24 from rfl, gd_inn 24 (by decide)]
  cases a <;> cases gd 65537 v <;> cases gd 25 u <;> rfl
theorem rf_Iv.hasb {W P G na ni j : Nat} {I : Nat → Int32} {J : Nat → Int64} {A : Nat → Nat → Int32} {B : Nat → Nat → Int64} {I' : Nat → Int32} {A' : Nat → Nat → Int32}
    (h : rf_Iv W P G na ni j I J A B I' A') : I' 12 = bI (decide (0 < P)) := by
  rw [h.has]
  by_cases e : 0 < P
  · rw [if_pos e, decide_eq_true e]; rfl
  · rw [if_neg e, decide_eq_false e]; rfl
/-- a call that only tells -/
theorem rf_Iv.q {W P G na ni j : Nat} {I : Nat → Int32} {J : Nat → Int64} {A : Nat → Nat → Int32} {B : Nat → Nat → Int64} {I' : Nat → Int32} {A' : Nat → Nat → Int32}
    (h : rf_Iv W P G na ni j I J A B I' A') {fX : Option (Int32 × Int32)} {fM : Option (Int32 × Int32 × Int32)} (a b : Bool) (v : Int32)
    (hX : fX = some (cond (a && b) v (-1), whyN a b)) (hM : fM = some (cond (a && b) v (-1), 0, whyN a b)) :
    ∃ (zX : Int32 × Int32) (zM : Int32 × Int32 × Int32), fX = some zX ∧ fM = some zM ∧ zX.1 = zM.1 ∧ rf_Inv (j + 1) (rf_upL I [(3, zX.2)]) J A B (rf_upL I' [(0, zM.2.1), (10, zM.2.2)]) A' :=
  ⟨_, _, hX, hM, rfl, h.quiet (h.fault.tell (u := whyN a b) (by cases a <;> cases b <;> decide)) rfl rfl rfl rfl⟩
