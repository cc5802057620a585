/-! word, feed -/
theorem pkN_drop {f : Nat → Nat} : ∀ k n, k ≤ n → (∀ i, i < n → f i ≤ 31) → pkN f n / 32 ^ k = pkN f (n - k) := by
  intro k
  induction k with
  | zero => intro n _ _; rw [Nat.pow_zero, Nat.div_one, Nat.sub_zero]
  | succ k ih =>
    intro n hk hf
    obtain ⟨n', rfl⟩ : ∃ n', n = n' + 1 := ⟨n - 1, by omega⟩
    rw [Nat.pow_succ, Nat.mul_comm, ← Nat.div_div_eq_div_mul, pkN_div (hf n' (by omega)), ih n' (by omega) (fun i hi => hf i (by omega))]
    congr 1
    omega
theorem lettersOf_l {f : Nat → Nat} {N : Nat} (hN : N ≤ 8) (hf : ∀ k, k < N → 1 ≤ f k ∧ f k ≤ 31) : ∀ d n i : Nat, i + d = N → d < n → f_X9_lettersOf_2 n (Int64.ofNat (pkN f N)) (nI i) = some (nI N) := by
  have k0 := pkN_63 (f := f) hN (fun k hk => (hf k hk).2)
  intro d
  induction d with
  | zero =>
    intro n i hi hn
    obtain ⟨m, rfl, hm⟩ := fuel_succ hn
    obtain rfl : i = N := by omega
    rw [f_X9_lettersOf_2, f_X9_lettersOf_24]
    by_cases h8 : 8 ≤ i
    · rw [if_pos (by simp (disch := omega) only [pb_lits, pb_ltT, pb_ltF, pb_leT, pb_leF, pb_eqT, pb_eqF, pb_lt, pb_le, pb_eq, pb_add, pb_mul, pb_sub, pb_cl, pb_ibt, pb_eqm, pb_meq, pb_ltm, pb_mlt, pb_lem, pb_mle, ite_true, ite_false, reduceIte, not_true_eq_false, not_false_eq_true, pb_bind, Nat.zero_add, Nat.add_zero])]
    · rw [if_neg (by simp (disch := omega) only [pb_lits, pb_ltT, pb_ltF, pb_leT, pb_leF, pb_eqT, pb_eqF, pb_lt, pb_le, pb_eq, pb_add, pb_mul, pb_sub, pb_cl, pb_ibt, pb_eqm, pb_meq, pb_ltm, pb_mlt, pb_lem, pb_mle, ite_true, ite_false, reduceIte, not_true_eq_false, not_false_eq_true, pb_bind, Nat.zero_add, Nat.add_zero]), sh5k (by omega), shr_s k0 (by omega), Nat.pow_mul, show (2 : Nat) ^ 5 = 32 from rfl, pkN_drop i i (by omega) (fun k hk => (hf k hk).2), Nat.sub_self]
      rw [if_pos (by show lg_cmp (Int64.ofNat 0) 0 = 0; decide)]
  | succ d ih =>
    intro n i hi hn
    obtain ⟨m, rfl, hm⟩ := fuel_succ hn
    rw [f_X9_lettersOf_2, if_neg (by simp (disch := omega) only [pb_lits, pb_ltT, pb_ltF, pb_leT, pb_leF, pb_eqT, pb_eqF, pb_lt, pb_le, pb_eq, pb_add, pb_mul, pb_sub, pb_cl, pb_ibt, pb_eqm, pb_meq, pb_ltm, pb_mlt, pb_lem, pb_mle, ite_true, ite_false, reduceIte, not_true_eq_false, not_false_eq_true, pb_bind, Nat.zero_add, Nat.add_zero]), sh5k (by omega), shr_s k0 (by omega), Nat.pow_mul, show (2 : Nat) ^ 5 = 32 from rfl, pkN_drop i N (by omega) (fun k hk => (hf k hk).2)]
    have k1 := pkN_63 (f := f) (n := N - i) (by omega) (fun k hk => (hf k (by omega)).2)
    rw [if_neg (fun q => by
      have := (lg0 k1).mp q
      rw [pkN_0 (fun k hk => (hf k (by omega)).1)] at this
      omega), nI_1]
    exact ih m (i + 1) (by omega) (by omega)
theorem lettersOf_s {f : Nat → Nat} {N : Nat} (hN : N ≤ 8) (hf : ∀ k, k < N → 1 ≤ f k ∧ f k ≤ 31) : f_X9_lettersOf (Int64.ofNat (pkN f N)) = some (nI N) :=
  lettersOf_l hN hf N rf_fu 0 (by omega) (by show N < 4096; omega)
theorem whoHas_l {P : Nat} {ev : Int32} {words : Nat → Int32} (hev : ∀ p, bt ev p = decide (p < P)) {w : Nat} (hw : w < 32) : ∀ d n i : Nat, i + d = 8 → d < n → f_X2_whoHas_4 ev words n (nI w) (setF (fun p => decide (p < P) && bt (words p) w) i) (nI i) = some (setF (fun p => decide (p < P) && bt (words p) w) 8) := by
  intro d
  induction d with
  | zero =>
    intro n i hi hn
    obtain ⟨m, rfl, hm⟩ := fuel_succ hn
    obtain rfl : i = 8 := by omega
    rw [f_X2_whoHas_4]
    simp (disch := omega) only [pb_lits, pb_ltT, pb_ltF, pb_leT, pb_leF, pb_eqT, pb_eqF, pb_lt, pb_le, pb_eq, pb_add, pb_mul, pb_sub, pb_cl, pb_ibt, pb_eqm, pb_meq, pb_ltm, pb_mlt, pb_lem, pb_mle, ite_true, ite_false, reduceIte, not_true_eq_false, not_false_eq_true, pb_bind, Nat.zero_add, Nat.add_zero]
  | succ d ih =>
    intro n i hi hn
    obtain ⟨m, rfl, hm⟩ := fuel_succ hn
    have ih' := ih m (i + 1) (by omega) (by omega)
    rw [setF] at ih'
    have q3 : f_X2_has words (nI i) (nI w) = some (bI (bt (words i) w)) := by
      unfold f_X2_has
      simp (disch := omega) only [pb_lits, pb_ltT, pb_ltF, pb_leT, pb_leF, pb_eqT, pb_eqF, pb_lt, pb_le, pb_eq, pb_add, pb_mul, pb_sub, pb_cl, pb_ibt, pb_eqm, pb_meq, pb_ltm, pb_mlt, pb_lem, pb_mle, ite_true, ite_false, reduceIte, not_true_eq_false, not_false_eq_true, pb_bind, Nat.zero_add, Nat.add_zero, holdsX_s]
      cases bt (words i) w <;> rfl
    rw [f_X2_whoHas_4, holdsX_s _ (by omega), q3, hev i, if_neg (by simp (disch := omega) only [pb_lits, pb_ltT, pb_ltF, pb_leT, pb_leF, pb_eqT, pb_eqF, pb_lt, pb_le, pb_eq, pb_add, pb_mul, pb_sub, pb_cl, pb_ibt, pb_eqm, pb_meq, pb_ltm, pb_mlt, pb_lem, pb_mle, ite_true, ite_false, reduceIte, not_true_eq_false, not_false_eq_true, pb_bind, Nat.zero_add, Nat.add_zero])]
    simp only [f_X2_whoHas_36, pb_bind]
    rw [nI_1]
    by_cases hiP : i < P
    · rw [decide_eq_true hiP, Bool.true_and] at ih'
      rw [decide_eq_true hiP, if_neg (show ¬ bI true = 0 by decide)]
      cases hb : bt (words i) w
      · rw [hb, cond_false] at ih'
        rw [if_pos (show bI false = 0 from rfl)]
        exact ih'
      · rw [hb, cond_true] at ih'
        rw [if_neg (show ¬ bI true = 0 by decide)]
        exact ih'
    · rw [decide_eq_false hiP, Bool.false_and, cond_false] at ih'
      rw [decide_eq_false hiP, if_pos (show bI false = 0 from rfl)]
      exact ih'
theorem whoM_l {P : Nat} (hP : P ≤ 8) {r st : Nat → Int32} (hr : r 3 = nI P) (has : Int32) {w : Nat} (hw : w < 32) : ∀ d n i : Nat, i + d = P → d < n → f_X11_word_52 has r st n (nI w) (setF (fun p => bt (st (8 + p)) w) i) (nI i) 0 0 = some (setF (fun p => bt (st (8 + p)) w) P, 0, 0) := by
  intro d
  induction d with
  | zero =>
    intro n i hi hn
    obtain ⟨m, rfl, hm⟩ := fuel_succ hn
    obtain rfl : i = P := by omega
    rw [f_X11_word_52, show Int32.toNatClampNeg 3 = 3 from rfl, hr]
    simp (disch := omega) only [pb_lits, pb_ltT, pb_ltF, pb_leT, pb_leF, pb_eqT, pb_eqF, pb_lt, pb_le, pb_eq, pb_add, pb_mul, pb_sub, pb_cl, pb_ibt, pb_eqm, pb_meq, pb_ltm, pb_mlt, pb_lem, pb_mle, ite_true, ite_false, reduceIte, not_true_eq_false, not_false_eq_true, pb_bind, Nat.zero_add, Nat.add_zero]
  | succ d ih =>
    intro n i hi hn
    obtain ⟨m, rfl, hm⟩ := fuel_succ hn
    have ih' := ih m (i + 1) (by omega) (by omega)
    rw [setF] at ih'
    rw [f_X11_word_52, show Int32.toNatClampNeg 3 = 3 from rfl, hr, if_neg (by simp (disch := omega) only [pb_lits, pb_ltT, pb_ltF, pb_leT, pb_leF, pb_eqT, pb_eqF, pb_lt, pb_le, pb_eq, pb_add, pb_mul, pb_sub, pb_cl, pb_ibt, pb_eqm, pb_meq, pb_ltm, pb_mlt, pb_lem, pb_mle, ite_true, ite_false, reduceIte, not_true_eq_false, not_false_eq_true, pb_bind, Nat.zero_add, Nat.add_zero]), if_pos (by simp (disch := omega) only [pb_lits, pb_ltT, pb_ltF, pb_leT, pb_leF, pb_eqT, pb_eqF, pb_lt, pb_le, pb_eq, pb_add, pb_mul, pb_sub, pb_cl, pb_ibt, pb_eqm, pb_meq, pb_ltm, pb_mlt, pb_lem, pb_mle, ite_true, ite_false, reduceIte, not_true_eq_false, not_false_eq_true, pb_bind, Nat.zero_add, Nat.add_zero]), show (8 + nI i).toNatClampNeg = 8 + i by simp (disch := omega) only [pb_lits, pb_ltT, pb_ltF, pb_leT, pb_leF, pb_eqT, pb_eqF, pb_lt, pb_le, pb_eq, pb_add, pb_mul, pb_sub, pb_cl, pb_ibt, pb_eqm, pb_meq, pb_ltm, pb_mlt, pb_lem, pb_mle, ite_true, ite_false, reduceIte, not_true_eq_false, not_false_eq_true, pb_bind, Nat.zero_add, Nat.add_zero], hasBitM_s _ hw]
    simp only [f_X11_word_89, pb_bind]
    rw [nI_1]
    cases hb : bt (st (8 + i)) w
    · rw [hb, cond_false] at ih'
      rw [show bI false = 0 from rfl, if_pos rfl, show ∀ x : Int32, x ||| 0 = x from or_nI0]
      exact ih'
    · rw [hb, cond_true] at ih'
      rw [show bI true = 1 from rfl, if_neg (by decide)]
      exact ih'
theorem rf_st4 {j : Nat} : rf_step_4 (rf_Inv j) (rf_Inv (j + 1)) := by
  rintro I J A B I' A' v1 v2 ⟨W, P, G, na, ni, h⟩
  have ht := h.tale
  have hP := ht.P8
  have hW := ht.W10
  have hX : f_X10_word (I 6) (I 23) (A 1) (B 1) (A 13) (I 3) v1 v2 = f_X10_word_23 (I 6) (nI W) (A 1) (B 1) (A 13) v1 v2 (bI (gd W v1 && gd 3 v2)) (I 3) := by
    have g3 : ∀ F H : Option (Int32 × Int32), (if v2 < 0 then F else if 2 < v2 then F else H) = cond (gd 3 v2) H F := by
      intro F H
      by_cases h1 : v2 < 0
      · rw [if_pos h1]
        have : gd 3 v2 = false := decide_eq_false (fun h => absurd h.1 (Int32.not_le.mpr h1))
        rw [this, cond_false]
      · rw [if_neg h1]
        by_cases h2 : 2 < v2
        · rw [if_pos h2]
          have : gd 3 v2 = false := decide_eq_false (fun h => by
            obtain ⟨k, hk, rfl⟩ := pb_of (n := 3) (by decide) h.1 h.2
            exact absurd h2 (Int32.not_lt.mpr (nI_le (b := 2) (by omega) (by decide))))
          rw [this, cond_false]
        · rw [if_neg h2]
          have : gd 3 v2 = true := decide_eq_true ⟨Int32.not_lt.mp h1, by
            obtain ⟨k, hk, rfl⟩ := pb_ofle (n := 2) (by decide) (Int32.not_lt.mp h1) (Int32.not_lt.mp h2)
            exact nI_lt (by omega) (by decide)⟩
          rw [this, cond_true]
    unfold f_X10_word f_X10_word_22
    rw [ht.hwc, isWordX_s, pb_bind, g3]
    cases gd W v1 <;> cases gd 3 v2 <;> rfl
  have hM : f_X11_word (I' 12) (A' 2) (A' 4) (I' 0) (I' 10) v1 v2 = if bI (gd W v1 && gd 3 v2) = 0 then some (-1, 0, 1) else (if 2 ≤ v2 then f_X11_word_52 (I' 12) (A' 2) (A' 4) rf_fu v1 0 0 0 0 else if rf_ib (9 + 8 * v1 + v2) 333 = true then some (A' 2 (Int32.toNatClampNeg (9 + 8 * v1 + v2)), 0, 0) else none) := by
    unfold f_X11_word f_X11_word_21
    rw [isWordM_s h.hasb (fun e => (h.none e).1) ht.hwc' (by omega), show f_X11_in v2 0 2 = _ from gd_inn 2 (by decide) v2]
    cases gd W v1 <;> cases gd 3 v2 <;> rfl
  rw [hX, hM]
  unfold f_X10_word_23
  simp only [pb_bind, refused1_s]
  refine h.g1 _ _ _ rfl rfl (fun ha => ?_)
  rw [Bool.and_eq_true] at ha
  obtain ⟨w, hw, rfl⟩ := gd_of (by omega) ha.1
  obtain ⟨k, hk, rfl⟩ := gd_of (by decide) ha.2
  have hwd := ht.words w hw
  obtain rfl | rfl | rfl : k = 0 ∨ k = 1 ∨ k = 2 := by omega
  · refine ⟨A 13 w, ?_, ?_⟩
    · rw [if_pos (show nI 0 = 0 from rfl), if_pos (pb_ibt (by omega) (by omega)), nI_clamp (by omega)]
    · rw [hwd.hprice]
      simp (disch := omega) only [pb_lits, pb_ltT, pb_ltF, pb_leT, pb_leF, pb_eqT, pb_eqF, pb_lt, pb_le, pb_eq, pb_add, pb_mul, pb_sub, pb_cl, pb_ibt, pb_eqm, pb_meq, pb_ltm, pb_mlt, pb_lem, pb_mle, ite_true, ite_false, reduceIte, not_true_eq_false, not_false_eq_true, pb_bind, Nat.zero_add, Nat.add_zero]
  · refine ⟨nI (sN (A' 2) w), ?_, ?_⟩
    · rw [if_neg (show ¬ nI 1 = 0 by decide), if_pos (show nI 1 = 1 from rfl), if_pos (pb_ibt (by omega) (by omega)), nI_clamp (by omega), hwd.sp, lettersOf_s (by have := hwd.s2; omega) (fun k hk => ⟨(sound_b hwd k hk).1, by have := (sound_b hwd k hk).2; omega⟩)]
      rfl
    · rw [← hwd.sz]
      simp (disch := omega) only [pb_lits, pb_ltT, pb_ltF, pb_leT, pb_leF, pb_eqT, pb_eqF, pb_lt, pb_le, pb_eq, pb_add, pb_mul, pb_sub, pb_cl, pb_ibt, pb_eqm, pb_meq, pb_ltm, pb_mlt, pb_lem, pb_mle, ite_true, ite_false, reduceIte, not_true_eq_false, not_false_eq_true, pb_bind, Nat.zero_add, Nat.add_zero]
      rw [show 9 + 8 * w + 1 = 10 + 8 * w by omega]
  · refine ⟨setF (fun p => bt (A' 4 (8 + p)) w) P, ?_, ?_⟩
    · rw [if_neg (show ¬ nI 2 = 0 by decide), if_neg (show ¬ nI 2 = 1 by decide)]
      have q : f_X2_whoHas (I 6) (A 1) (nI w) = some (setF (fun p => decide (p < P) && bt (A 1 p) w) 8) := whoHas_l h.every (by omega) 8 rf_fu 0 (by omega) (by decide)
      rw [q]
      have q2 : setF (fun p => decide (p < P) && bt (A 1 p) w) 8 = setF (fun p => bt (A' 4 (8 + p)) w) P := by
        refine setF_eq (by decide) (fun k => ?_)
        rw [bt_setF _ P (by omega)]
        by_cases hk : k < P
        · rw [decide_eq_true hk, decide_eq_true (by omega : k < 8), h.now.hwords k hk]; rfl
        · rw [decide_eq_false hk, Bool.false_and, Bool.false_and, Bool.and_false]
      rw [q2]
      rfl
    · rw [if_pos (show (2 : Int32) ≤ nI 2 by decide)]
      exact whoM_l hP ht.hpc' (I' 12) (by omega) P rf_fu 0 (by omega) (by show P < 4096; omega)
/-! the tape -/
def pT (x m : Nat → Int32) : Prop := ∀ k, -128 ≤ x k ∧ x k ≤ 127 ∧ m k = x k &&& 255
theorem byte_s (y : Int32) : -128 ≤ vp_nar .byte (y.toInt8.toInt32) ∧ vp_nar .byte (y.toInt8.toInt32) ≤ 127 ∧ (y &&& 255) = vp_nar .byte (y.toInt8.toInt32) &&& 255 := by
  have e : vp_nar .byte (y.toInt8.toInt32) = y.toInt8.toInt32.toInt8.toInt32 := rfl
  rw [e]
  have e2 : y.toInt8.toInt32.toInt8 = y.toInt8 := by simp
  rw [e2]
  refine ⟨?_, ?_, ?_⟩
  · apply Int32.le_iff_toInt_le.mpr
    rw [Int8.toInt_toInt32]
    exact Int8.le_toInt _
  · apply Int32.le_iff_toInt_le.mpr
    rw [Int8.toInt_toInt32]
    have := Int8.toInt_lt y.toInt8
    have h2 : (127 : Int32).toInt = 127 := by decide
    omega
  · apply bt_ext
    intro k hk
    rw [bt_and, bt_and]
    by_cases h8 : k < 8
    · congr 1
      unfold bt
      rw [Int8.toBitVec_toInt32, Int32.toBitVec_toInt8, BitVec.getLsbD_signExtend, if_pos h8, BitVec.signExtend_eq_setWidth_of_le _ (by decide), BitVec.getLsbD_setWidth]
      simp [h8, hk]
    · have : bt (255 : Int32) k = false := by
        rw [show (255 : Int32) = nI 255 from rfl, bt_nI (by decide), show (255 : Nat) = 2 ^ 8 - 1 from rfl, Nat.testBit_two_pow_sub_one, decide_eq_false h8]
      rw [this, Bool.and_false, Bool.and_false]
theorem pT_upd {x m : Nat → Int32} (h : pT x m) (k : Nat) (y : Int32) : pT (upd x k (vp_nar .byte (y.toInt8.toInt32))) (upd m k (y &&& 255)) := by
  intro i
  unfold upd
  by_cases hi : i = k
  · rw [if_pos hi, if_pos hi]; exact byte_s y
  · rw [if_neg hi, if_neg hi]; exact h i
def bX (v : Int32) (s : Nat) : Int32 := vp_nar .byte ((v >>> nI s).toInt8.toInt32)
theorem append1 {n : Nat} {v : Int32} {s : Nat} (hs : s < 32) {t : Nat} (ht : t < 900) (x : Nat → Int32) : f_X10_append_3 (n + 1) v (nI s) (nI t) x = f_X10_append_3 n v (nI s + (-8)) (nI (t + 1)) (upd x t (bX v s)) := by
  rw [f_X10_append_3, f_X10_append_40, if_neg (show ¬ nI s < 0 from nI_pos (by omega)), if_neg (by simp (disch := omega) only [pb_lits, pb_ltT, pb_ltF, pb_leT, pb_leF, pb_eqT, pb_eqF, pb_lt, pb_le, pb_eq, pb_add, pb_mul, pb_sub, pb_cl, pb_ibt, pb_eqm, pb_meq, pb_ltm, pb_mlt, pb_lem, pb_mle, ite_true, ite_false, reduceIte, not_true_eq_false, not_false_eq_true, pb_bind, Nat.zero_add, Nat.add_zero]), if_pos (pb_ibt (by omega) ht), nI_1, nI_clamp (by omega), show (31 : Int32) = nI 31 from rfl, pb_s31 hs]
  rfl
theorem append_s (v : Int32) {t : Nat} (ht : t + 4 ≤ 900) (x : Nat → Int32) : f_X10_append (nI t) x v = some (nI (t + 4), upd (upd (upd (upd x t (bX v 24)) (t + 1) (bX v 16)) (t + 2) (bX v 8)) (t + 3) (bX v 0)) := by
  unfold f_X10_append
  rw [show rf_fu = 4091 + 1 + 1 + 1 + 1 + 1 from rfl, show (24 : Int32) = nI 24 from rfl, append1 (by decide) (by omega), show nI 24 + -8 = nI 16 by decide, append1 (by decide) (by omega), show nI 16 + -8 = nI 8 by decide, append1 (by decide) (by omega), show nI 8 + -8 = nI 0 by decide, append1 (by decide) (by omega), f_X10_append_3, if_pos (by decide)]
def selV (a b c d e : Int32) (k : Nat) : Int32 := if k < 4 then a else if k < 8 then b else if k < 12 then c else if k < 16 then d else e
theorem feed1 {n : Nat} {a b c d e th : Int32} {k t : Nat} (hk : k < 20) (ht : t < 900) (m : Nat → Int32) : f_X11_feed_23 (n + 1) a b c d e (nI k) th (nI t) m = f_X11_feed_23 n a b c d e (nI (k + 1)) th (nI (t + 1)) (upd m t ((selV a b c d e k >>> nI (24 - 8 * (k % 4))) &&& 255)) := by
  have hm : k % 4 < 4 := Nat.mod_lt _ (by decide)
  have key : ∀ v, f_X11_feed_76 (f_X11_feed_23 n) a b c d e (nI k) v th (nI t) m = f_X11_feed_23 n a b c d e (nI (k + 1)) th (nI (t + 1)) (upd m t ((v >>> nI (24 - 8 * (k % 4))) &&& 255)) := by
    intro v
    unfold f_X11_feed_76
    rw [if_pos (pb_ibt (by omega) ht), nI_1, nI_1, nI_clamp (by omega), show (4 : Int32) = nI 4 from rfl, pb_rem (by omega) (by decide) (by decide), show (8 : Int32) = nI 8 from rfl, pb_mul, show (24 : Int32) = nI 24 from rfl, pb_sub (by omega), show (31 : Int32) = nI 31 from rfl, pb_s31 (by omega)]
  rw [f_X11_feed_23, if_neg (show ¬ (20 : Int32) ≤ nI k by simp (disch := omega) only [pb_lits, pb_ltT, pb_ltF, pb_leT, pb_leF, pb_eqT, pb_eqF, pb_lt, pb_le, pb_eq, pb_add, pb_mul, pb_sub, pb_cl, pb_ibt, pb_eqm, pb_meq, pb_ltm, pb_mlt, pb_lem, pb_mle, ite_true, ite_false, reduceIte, not_true_eq_false, not_false_eq_true, pb_bind, Nat.zero_add, Nat.add_zero])]
  simp only [key]
  unfold selV
  by_cases h1 : k < 4
  · rw [if_neg (show ¬ (4 : Int32) ≤ nI k by simp (disch := omega) only [pb_lits, pb_ltT, pb_ltF, pb_leT, pb_leF, pb_eqT, pb_eqF, pb_lt, pb_le, pb_eq, pb_add, pb_mul, pb_sub, pb_cl, pb_ibt, pb_eqm, pb_meq, pb_ltm, pb_mlt, pb_lem, pb_mle, ite_true, ite_false, reduceIte, not_true_eq_false, not_false_eq_true, pb_bind, Nat.zero_add, Nat.add_zero]), if_pos h1]
  · rw [if_pos (show (4 : Int32) ≤ nI k by simp (disch := omega) only [pb_lits, pb_ltT, pb_ltF, pb_leT, pb_leF, pb_eqT, pb_eqF, pb_lt, pb_le, pb_eq, pb_add, pb_mul, pb_sub, pb_cl, pb_ibt, pb_eqm, pb_meq, pb_ltm, pb_mlt, pb_lem, pb_mle, ite_true, ite_false, reduceIte, not_true_eq_false, not_false_eq_true, pb_bind, Nat.zero_add, Nat.add_zero]), if_neg h1]
    by_cases h2 : k < 8
    · rw [if_neg (show ¬ (8 : Int32) ≤ nI k by simp (disch := omega) only [pb_lits, pb_ltT, pb_ltF, pb_leT, pb_leF, pb_eqT, pb_eqF, pb_lt, pb_le, pb_eq, pb_add, pb_mul, pb_sub, pb_cl, pb_ibt, pb_eqm, pb_meq, pb_ltm, pb_mlt, pb_lem, pb_mle, ite_true, ite_false, reduceIte, not_true_eq_false, not_false_eq_true, pb_bind, Nat.zero_add, Nat.add_zero]), if_pos h2]
    · rw [if_pos (show (8 : Int32) ≤ nI k by simp (disch := omega) only [pb_lits, pb_ltT, pb_ltF, pb_leT, pb_leF, pb_eqT, pb_eqF, pb_lt, pb_le, pb_eq, pb_add, pb_mul, pb_sub, pb_cl, pb_ibt, pb_eqm, pb_meq, pb_ltm, pb_mlt, pb_lem, pb_mle, ite_true, ite_false, reduceIte, not_true_eq_false, not_false_eq_true, pb_bind, Nat.zero_add, Nat.add_zero]), if_neg h2]
      by_cases h3 : k < 12
      · rw [if_neg (show ¬ (12 : Int32) ≤ nI k by simp (disch := omega) only [pb_lits, pb_ltT, pb_ltF, pb_leT, pb_leF, pb_eqT, pb_eqF, pb_lt, pb_le, pb_eq, pb_add, pb_mul, pb_sub, pb_cl, pb_ibt, pb_eqm, pb_meq, pb_ltm, pb_mlt, pb_lem, pb_mle, ite_true, ite_false, reduceIte, not_true_eq_false, not_false_eq_true, pb_bind, Nat.zero_add, Nat.add_zero]), if_pos h3]
      · rw [if_pos (show (12 : Int32) ≤ nI k by simp (disch := omega) only [pb_lits, pb_ltT, pb_ltF, pb_leT, pb_leF, pb_eqT, pb_eqF, pb_lt, pb_le, pb_eq, pb_add, pb_mul, pb_sub, pb_cl, pb_ibt, pb_eqm, pb_meq, pb_ltm, pb_mlt, pb_lem, pb_mle, ite_true, ite_false, reduceIte, not_true_eq_false, not_false_eq_true, pb_bind, Nat.zero_add, Nat.add_zero]), if_neg h3]
        by_cases h4 : k < 16
        · rw [if_neg (show ¬ (16 : Int32) ≤ nI k by simp (disch := omega) only [pb_lits, pb_ltT, pb_ltF, pb_leT, pb_leF, pb_eqT, pb_eqF, pb_lt, pb_le, pb_eq, pb_add, pb_mul, pb_sub, pb_cl, pb_ibt, pb_eqm, pb_meq, pb_ltm, pb_mlt, pb_lem, pb_mle, ite_true, ite_false, reduceIte, not_true_eq_false, not_false_eq_true, pb_bind, Nat.zero_add, Nat.add_zero]), if_pos h4]
        · rw [if_pos (show (16 : Int32) ≤ nI k by simp (disch := omega) only [pb_lits, pb_ltT, pb_ltF, pb_leT, pb_leF, pb_eqT, pb_eqF, pb_lt, pb_le, pb_eq, pb_add, pb_mul, pb_sub, pb_cl, pb_ibt, pb_eqm, pb_meq, pb_ltm, pb_mlt, pb_lem, pb_mle, ite_true, ite_false, reduceIte, not_true_eq_false, not_false_eq_true, pb_bind, Nat.zero_add, Nat.add_zero]), if_neg h4]
theorem feed4 {n : Nat} {a b c d e th : Int32} {q t : Nat} (hq : q < 5) (ht : t + 4 ≤ 900) {x m : Nat → Int32} (hT : pT x m) (v : Int32) (hv : ∀ k, k < 4 → selV a b c d e (4 * q + k) = v) : ∃ x' m', f_X10_append (nI t) x v = some (nI (t + 4), x') ∧ f_X11_feed_23 (n + 4) a b c d e (nI (4 * q)) th (nI t) m = f_X11_feed_23 n a b c d e (nI (4 * (q + 1))) th (nI (t + 4)) m' ∧ pT x' m' := by
  refine ⟨_, _, append_s v ht x, ?_, pT_upd (pT_upd (pT_upd (pT_upd hT t (v >>> nI 24)) (t + 1) (v >>> nI 16)) (t + 2) (v >>> nI 8)) (t + 3) (v >>> nI 0)⟩
  rw [show n + 4 = n + 1 + 1 + 1 + 1 from rfl, feed1 (by omega) (by omega), feed1 (by omega) (by omega), feed1 (by omega) (by omega), feed1 (by omega) (by omega)]
  have v0 := hv 0 (by decide)
  have v1 := hv 1 (by decide)
  have v2 := hv 2 (by decide)
  have v3 := hv 3 (by decide)
  rw [Nat.add_zero] at v0
  rw [v0, v1, show 4 * q + 1 + 1 = 4 * q + 2 from rfl, v2, show 4 * q + 2 + 1 = 4 * q + 3 from rfl, v3, show (4 * q) % 4 = 0 by omega, show (4 * q + 1) % 4 = 1 by omega, show (4 * q + 2) % 4 = 2 by omega, show (4 * q + 3) % 4 = 3 by omega]
  rfl
theorem rf_st0 {j : Nat} : rf_step_0 (rf_Inv j) (rf_Inv (j + 1)) := by
  rintro I J A B I' A' v1 v2 v3 v4 v5 ⟨W, P, G, na, ni, h⟩
  obtain ⟨t1, t2, t3, t4⟩ := h.tape
  obtain ⟨t, ht, et⟩ := pb_ofle (n := 900) (by decide) t2 t3
  unfold f_X10_feed f_X11_feed
  rw [t1, et]
  by_cases h20 : t + 20 ≤ 900
  · rw [if_pos (show nI t + 20 ≤ 900 by simp (disch := omega) only [pb_lits, pb_ltT, pb_ltF, pb_leT, pb_leF, pb_eqT, pb_eqF, pb_lt, pb_le, pb_eq, pb_add, pb_mul, pb_sub, pb_cl, pb_ibt, pb_eqm, pb_meq, pb_ltm, pb_mlt, pb_lem, pb_mle, ite_true, ite_false, reduceIte, not_true_eq_false, not_false_eq_true, pb_bind, Nat.zero_add, Nat.add_zero]), if_pos (show nI t + 20 ≤ 900 by simp (disch := omega) only [pb_lits, pb_ltT, pb_ltF, pb_leT, pb_leF, pb_eqT, pb_eqF, pb_lt, pb_le, pb_eq, pb_add, pb_mul, pb_sub, pb_cl, pb_ibt, pb_eqm, pb_meq, pb_ltm, pb_mlt, pb_lem, pb_mle, ite_true, ite_false, reduceIte, not_true_eq_false, not_false_eq_true, pb_bind, Nat.zero_add, Nat.add_zero])]
    obtain ⟨x1, m1, a1, b1, c1⟩ := feed4 (n := 4092) (a := v1) (b := v2) (c := v3) (d := v4) (e := v5) (th := 0) (q := 0) (t := t) (by decide) (by omega) (show pT (A 0) (A' 0) from t4) v1 (fun k hk => by unfold selV; rw [if_pos (by omega)])
    obtain ⟨x2, m2, a2, b2, c2⟩ := feed4 (n := 4088) (a := v1) (b := v2) (c := v3) (d := v4) (e := v5) (th := 0) (q := 1) (t := t + 4) (by decide) (by omega) c1 v2 (fun k hk => by unfold selV; rw [if_neg (by omega), if_pos (by omega)])
    obtain ⟨x3, m3, a3, b3, c3⟩ := feed4 (n := 4084) (a := v1) (b := v2) (c := v3) (d := v4) (e := v5) (th := 0) (q := 2) (t := t + 4 + 4) (by decide) (by omega) c2 v3 (fun k hk => by unfold selV; rw [if_neg (by omega), if_neg (by omega), if_pos (by omega)])
    obtain ⟨x4, m4, a4, b4, c4⟩ := feed4 (n := 4080) (a := v1) (b := v2) (c := v3) (d := v4) (e := v5) (th := 0) (q := 3) (t := t + 4 + 4 + 4) (by decide) (by omega) c3 v4 (fun k hk => by unfold selV; rw [if_neg (by omega), if_neg (by omega), if_neg (by omega), if_pos (by omega)])
    obtain ⟨x5, m5, a5, b5, c5⟩ := feed4 (n := 4076) (a := v1) (b := v2) (c := v3) (d := v4) (e := v5) (th := 0) (q := 4) (t := t + 4 + 4 + 4 + 4) (by decide) (by omega) c4 v5 (fun k hk => by unfold selV; rw [if_neg (by omega), if_neg (by omega), if_neg (by omega), if_neg (by omega)])
    have e20 : t + 4 + 4 + 4 + 4 + 4 = t + 20 := by omega
    rw [e20] at a5 b5
    refine ⟨(nI (t + 20), nI (t + 20), x5), (nI (t + 20), 0, nI (t + 20), m5), ?_, ?_, rfl, ?_⟩
    · rw [a1, pb_bind, a2, pb_bind, a3, pb_bind, a4, pb_bind, a5, pb_bind]
    · rw [show rf_fu = 4092 + 4 from rfl, show f_X11_feed_23 (4092 + 4) v1 v2 v3 v4 v5 0 0 (nI t) (A' 0) = _ from b1]
      rw [show f_X11_feed_23 4092 v1 v2 v3 v4 v5 (nI (4 * (0 + 1))) 0 (nI (t + 4)) m1 = _ from b2]
      rw [show f_X11_feed_23 4088 v1 v2 v3 v4 v5 (nI (4 * (1 + 1))) 0 (nI (t + 4 + 4)) m2 = _ from b3]
      rw [show f_X11_feed_23 4084 v1 v2 v3 v4 v5 (nI (4 * (2 + 1))) 0 (nI (t + 4 + 4 + 4)) m3 = _ from b4]
      rw [show f_X11_feed_23 4080 v1 v2 v3 v4 v5 (nI (4 * (3 + 1))) 0 (nI (t + 4 + 4 + 4 + 4)) m4 = _ from b5]
      rw [show (4076 : Nat) = 4075 + 1 from rfl, f_X11_feed_23, if_pos (by decide)]
    · obtain ⟨W, P, G, na, ni, hh⟩ : ∃ W P G na ni : Nat, rf_Iv W P G na ni (j + 1) I J A B I' A' := rf_Iv.next ⟨W, P, G, na, ni, h⟩
      exact ⟨W, P, G, na, ni, ⟨rfl, nI_pos' (by omega), nI_le (b := 900) (by omega) (by decide), c5⟩, hh.fault, hh.tale, hh.close, hh.has, hh.none, hh.every, hh.now, hh.aroom, hh.acts, hh.iroom, hh.imgs, hh.ifirst⟩
  · rw [if_neg (show ¬ nI t + 20 ≤ 900 by simp (disch := omega) only [pb_lits, pb_ltT, pb_ltF, pb_leT, pb_leF, pb_eqT, pb_eqF, pb_lt, pb_le, pb_eq, pb_add, pb_mul, pb_sub, pb_cl, pb_ibt, pb_eqm, pb_meq, pb_ltm, pb_mlt, pb_lem, pb_mle, ite_true, ite_false, reduceIte, not_true_eq_false, not_false_eq_true, pb_bind, Nat.zero_add, Nat.add_zero]), if_neg (show ¬ nI t + 20 ≤ 900 by simp (disch := omega) only [pb_lits, pb_ltT, pb_ltF, pb_leT, pb_leF, pb_eqT, pb_eqF, pb_lt, pb_le, pb_eq, pb_add, pb_mul, pb_sub, pb_cl, pb_ibt, pb_eqm, pb_meq, pb_ltm, pb_mlt, pb_lem, pb_mle, ite_true, ite_false, reduceIte, not_true_eq_false, not_false_eq_true, pb_bind, Nat.zero_add, Nat.add_zero])]
    refine ⟨(-1, nI t, A 0), (-1, 0, nI t, A' 0), rfl, rfl, rfl, ?_⟩
    exact h.quiet h.fault (by rw [← et]; rfl) rfl (by rw [← et, ← t1]; rfl) rfl
