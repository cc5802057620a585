/-! sellers -/
theorem buyers_l {W P : Nat} {r st close words kinds : Nat → Int32} (h : pCx W P r st close words kinds) {e : Nat} (he1 : 1 ≤ e) (he : e ≤ 7) {w u : Nat} (hw : w < W) (hu : u < W) (ev far near lon : Int32) (can : Nat → Int32) : ∀ d n n' i : Nat, ∀ a b c : Int32, i + d = P → d < n → d < n' →
    ∃ z : Int32 × Int32 × Int32, f_X7_countBuyers_43 ev far (nI W) (nI P) words kinds close n (nI w) (nI u) (nI e) near lon (nI i) a b c = some z ∧ f_X11_layBuyers_33 r st n' (nI w) (nI u) (nI e) near lon (nI i) a b c can = some (z.1, z.2.1, z.2.2, can) := by
  have hP := h.P8
  have hW := h.W10
  intro d
  induction d with
  | zero =>
    intro n n' i a b c hi hn hn'
    obtain ⟨m, rfl, hm⟩ := fuel_succ hn
    obtain ⟨m', rfl, hm'⟩ := fuel_succ hn'
    rw [f_X7_countBuyers_43, f_X11_layBuyers_33, show Int32.toNatClampNeg 3 = 3 from rfl, h.rP]
    have w1 : nI P ≤ nI i := by simp (disch := omega) only [pb_lits, pb_ltT, pb_ltF, pb_leT, pb_leF, pb_eqT, pb_eqF, pb_lt, pb_le, pb_eq, pb_add, pb_mul, pb_sub, pb_cl, pb_ibt, pb_eqm, pb_meq, pb_ltm, pb_mlt, pb_lem, pb_mle, ite_true, ite_false, reduceIte, not_true_eq_false, not_false_eq_true, pb_bind, Nat.zero_add, Nat.add_zero]
    rw [if_pos w1, if_pos w1]
    exact ⟨_, rfl, rfl⟩
  | succ d ih =>
    intro n n' i a b c hi hn hn'
    obtain ⟨m, rfl, hm⟩ := fuel_succ hn
    obtain ⟨m', rfl, hm'⟩ := fuel_succ hn'
    have hip : i < P := by omega
    have mh : ∀ v : Nat, v < W → ∃ S, f_X6_metHaving (nI W) (nI P) words kinds close (nI i) (nI v) (nI e) = some S ∧ f_X11_withBy r st (nI i) (words i ||| (nI 1 <<< (nI v &&& nI 31))) (nI e) = some S := by
      intro v hv
      refine ⟨_, ?_, withBy_s h hip he1 he (hasW_or _ (h.hw i hip))⟩
      have q1 := metBy_s h hip he1 he (words i ||| (nI 1 <<< (nI v &&& nI 31))) (nI 0)
      unfold f_X6_metHaving
      simp (disch := omega) only [pb_lits, pb_ltT, pb_ltF, pb_leT, pb_leF, pb_eqT, pb_eqF, pb_lt, pb_le, pb_eq, pb_add, pb_mul, pb_sub, pb_cl, pb_ibt, pb_eqm, pb_meq, pb_ltm, pb_mlt, pb_lem, pb_mle, ite_true, ite_false, reduceIte, not_true_eq_false, not_false_eq_true, pb_bind, Nat.zero_add, Nat.add_zero, q1]
    obtain ⟨S1, x1, y1⟩ := mh w hw
    obtain ⟨S2, x2, y2⟩ := mh u hu
    have ih' := fun a b c => ih m m' (i + 1) a b c (by omega) (by omega) (by omega)
    have w1 : ¬ nI P ≤ nI i := by simp (disch := omega) only [pb_lits, pb_ltT, pb_ltF, pb_leT, pb_leF, pb_eqT, pb_eqF, pb_lt, pb_le, pb_eq, pb_add, pb_mul, pb_sub, pb_cl, pb_ibt, pb_eqm, pb_meq, pb_ltm, pb_mlt, pb_lem, pb_mle, ite_true, ite_false, reduceIte, not_true_eq_false, not_false_eq_true, pb_bind, Nat.zero_add, Nat.add_zero]
    have w2 : rf_ib (8 + nI i) 26 = true := by simp (disch := omega) only [pb_lits, pb_ltT, pb_ltF, pb_leT, pb_leF, pb_eqT, pb_eqF, pb_lt, pb_le, pb_eq, pb_add, pb_mul, pb_sub, pb_cl, pb_ibt, pb_eqm, pb_meq, pb_ltm, pb_mlt, pb_lem, pb_mle, ite_true, ite_false, reduceIte, not_true_eq_false, not_false_eq_true, pb_bind, Nat.zero_add, Nat.add_zero]
    have w3 : (8 + nI i).toNatClampNeg = 8 + i := by simp (disch := omega) only [pb_lits, pb_ltT, pb_ltF, pb_leT, pb_leF, pb_eqT, pb_eqF, pb_lt, pb_le, pb_eq, pb_add, pb_mul, pb_sub, pb_cl, pb_ibt, pb_eqm, pb_meq, pb_ltm, pb_mlt, pb_lem, pb_mle, ite_true, ite_false, reduceIte, not_true_eq_false, not_false_eq_true, pb_bind, Nat.zero_add, Nat.add_zero]
    rw [f_X7_countBuyers_43, f_X11_layBuyers_33, show Int32.toNatClampNeg 3 = 3 from rfl, h.rP, if_neg w1, if_neg w1, holdsX_s _ (by omega), hasBitM_s _ (by omega), pb_bind, pb_bind]
    simp only [f_X7_countBuyers_188]
    cases hb : bt lon i
    · rw [show bI false = 0 from rfl, if_pos rfl, if_pos rfl, f_X11_layBuyers_197, nI_1]
      exact ih' a b c
    · rw [show bI true = 1 from rfl, if_neg (by decide), if_neg (by decide)]
      simp only [pb_lits] at x1 x2 y1 y2 w2 w3
      simp only [f_X7_countBuyers_90, f_X11_layBuyers_89, pb_lits]
      rw [x1, x2]
      simp only [w2, w3, if_true, ← h.wd i hip, y1, y2, pb_bind]
      clear x1 y1 x2 y2 ih mh
      have ih0 : ∀ x : Int32, x + nI 0 = x := fun x => Int32.add_zero x
      generalize f_X7_countBuyers_43 ev far (nI W) (nI P) words kinds close m = F at ih' ⊢
      generalize f_X11_layBuyers_33 r st m' = F' at ih' ⊢
      have n1 : ¬ nI 1 = nI 0 := by decide
      by_cases h1 : S1 &&& near = nI 0
      · by_cases h2 : S2 &&& near = nI 0
        · simp only [h1, h2, if_true, f_X7_countBuyers_114, f_X7_countBuyers_135, f_X7_countBuyers_136, f_X7_countBuyers_159, f_X7_countBuyers_160, f_X7_countBuyers_183, f_X7_countBuyers_184, f_X11_layBuyers_123, f_X11_layBuyers_144, f_X11_layBuyers_145, f_X11_layBuyers_168, f_X11_layBuyers_169, f_X11_layBuyers_192, f_X11_layBuyers_193, f_X7_countBuyers_188, f_X11_layBuyers_197, pb_lits, ih0, n1, if_false, pb_add]
          exact ih' _ _ _
        · simp only [h1, h2, if_true, f_X7_countBuyers_114, f_X7_countBuyers_135, f_X7_countBuyers_136, f_X7_countBuyers_159, f_X7_countBuyers_160, f_X7_countBuyers_183, f_X7_countBuyers_184, f_X11_layBuyers_123, f_X11_layBuyers_144, f_X11_layBuyers_145, f_X11_layBuyers_168, f_X11_layBuyers_169, f_X11_layBuyers_192, f_X11_layBuyers_193, f_X7_countBuyers_188, f_X11_layBuyers_197, pb_lits, ih0, n1, if_false, pb_add]
          exact ih' _ _ _
      · by_cases h2 : S2 &&& near = nI 0
        · simp only [h1, h2, if_true, f_X7_countBuyers_114, f_X7_countBuyers_135, f_X7_countBuyers_136, f_X7_countBuyers_159, f_X7_countBuyers_160, f_X7_countBuyers_183, f_X7_countBuyers_184, f_X11_layBuyers_123, f_X11_layBuyers_144, f_X11_layBuyers_145, f_X11_layBuyers_168, f_X11_layBuyers_169, f_X11_layBuyers_192, f_X11_layBuyers_193, f_X7_countBuyers_188, f_X11_layBuyers_197, pb_lits, ih0, n1, if_false, pb_add]
          exact ih' _ _ _
        · simp only [h1, h2, if_true, f_X7_countBuyers_114, f_X7_countBuyers_135, f_X7_countBuyers_136, f_X7_countBuyers_159, f_X7_countBuyers_160, f_X7_countBuyers_183, f_X7_countBuyers_184, f_X11_layBuyers_123, f_X11_layBuyers_144, f_X11_layBuyers_145, f_X11_layBuyers_168, f_X11_layBuyers_169, f_X11_layBuyers_192, f_X11_layBuyers_193, f_X7_countBuyers_188, f_X11_layBuyers_197, pb_lits, ih0, n1, if_false, pb_add]
          exact ih' _ _ _
theorem buyers_s {W P : Nat} {r st close words kinds : Nat → Int32} (h : pCx W P r st close words kinds) {ev far : Int32} (hev : ∀ p, bt ev p = decide (p < P)) (hf : ∀ p, P ≤ p → bt far p = false) (hst : ∀ p, p < P → st p = if bt far p = true then 1 else 0) {e : Nat} (he1 : 1 ≤ e) (he : e ≤ 7) {w u : Nat} (hw : w < W) (hu : u < W) (a b c a' b' c' : Int32) (can : Nat → Int32) :
    ∃ z : Int32 × Int32 × Int32, ∃ can', f_X7_countBuyers ev far (nI W) (nI P) words kinds close a b c (nI w) (nI u) (nI e) = some z ∧ f_X11_layBuyers r st a' b' c' can (nI w) (nI u) (nI e) = some (z.1, z.2.1, z.2.2, can') := by
  have hP := h.P8
  obtain ⟨can', q1⟩ := aloneBy_s h hst (b := 0) (by decide) he1 he can
  obtain ⟨z, x1, x2⟩ := buyers_l h he1 he hw hu ev far (setF (onB far 0) P) (setF (lonB W P r words kinds (setF (onB far 0) P) e) P) can' P rf_fu rf_fu 0 0 0 0 (by omega) (by show P < 4096; omega) (by show P < 4096; omega)
  refine ⟨z, can', ?_, ?_⟩
  · unfold f_X7_countBuyers
    rw [show f_X2_onBank ev far 0 = _ from onBankX_s hP hev hf (b := 0) (by decide), pb_bind, lonely_s h he1 he, pb_bind]
    exact x1
  · unfold f_X11_layBuyers
    rw [show f_X11_onBank r st 0 = _ from onBankM_s hP h.rP hst (b := 0) (by decide), pb_bind, show f_X11_aloneBy r st can 0 (nI e) = _ from q1, pb_bind]
    exact x2
