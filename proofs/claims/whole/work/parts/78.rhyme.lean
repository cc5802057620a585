/-! how far two words sound alike -/
theorem run_le (p : Nat → Bool) : ∀ d i : Nat, i ≤ rf_run p d i ∧ rf_run p d i ≤ i + d := by
  intro d
  induction d with
  | zero => intro i; exact ⟨Nat.le_refl _, Nat.le_refl _⟩
  | succ d ih =>
    intro i
    rw [rf_run]
    have := ih (i + 1)
    split <;> omega
theorem run_congr {p q : Nat → Bool} : ∀ d i : Nat, (∀ k, i ≤ k → k < i + d → p k = q k) → rf_run p d i = rf_run q d i := by
  intro d
  induction d with
  | zero => intro i _; rfl
  | succ d ih =>
    intro i h
    rw [rf_run, rf_run, h i (by omega) (by omega), ih (i + 1) (fun k h1 h2 => h k (by omega) (by omega))]
/-- the words of a tale that letters are told of -/
def pWs (W : Nat) (r : Nat → Int32) : Prop := W ≤ 10 ∧ r 2 = nI W ∧ ∀ w, w < W → ∃ a b c, pWord r W w a b c
theorem likeOf_l {W : Nat} {r : Nat → Int32} (h : pWs W r) {w u : Nat} (hw : w < W) (hu : u < W) : ∀ d n i : Nat, i + d = min (sN r w) (sN r u) → d < n →
    f_X11_likeOf_20 r n (nI (9 + 8 * w)) (nI (9 + 8 * u)) (nI i) = some (nI (rf_run (fun k => alk r (sL r w (sN r w - 1 - k)) (sL r u (sN r u - 1 - k))) d i)) := by
  obtain ⟨hW, -, hws⟩ := h
  obtain ⟨_, _, _, a⟩ := hws w hw
  obtain ⟨_, _, _, b⟩ := hws u hu
  have a1 := a.s1; have a2 := a.s2; have a3 := a.sz; have a4 := a.sl
  have b1 := b.s1; have b2 := b.s2; have b3 := b.sz; have b4 := b.sl
  clear a b
  generalize hsw : sN r w = sw at *
  generalize hsu : sN r u = su at *
  have e1 : r (9 + 8 * w + 1) = nI sw := by rw [← a3]; congr 1; omega
  have e2 : r (9 + 8 * u + 1) = nI su := by rw [← b3]; congr 1; omega
  intro d
  induction d with
  | zero =>
    intro n i hi hn
    obtain ⟨m, rfl, hm⟩ := fuel_succ hn
    rw [f_X11_likeOf_20, f_X11_likeOf_127]
    rw [rf_run]
    by_cases h1 : sw ≤ i
    · simp (disch := omega) only [pb_lits, pb_ltT, pb_ltF, pb_leT, pb_leF, pb_eqT, pb_eqF, pb_lt, pb_le, pb_eq, pb_add, pb_mul, pb_sub, pb_cl, pb_ibt, pb_eqm, pb_meq, pb_ltm, pb_mlt, pb_lem, pb_mle, ite_true, ite_false, reduceIte, not_true_eq_false, not_false_eq_true, pb_bind, Nat.zero_add, Nat.add_zero, e1, e2]
    · simp (disch := omega) only [pb_lits, pb_ltT, pb_ltF, pb_leT, pb_leF, pb_eqT, pb_eqF, pb_lt, pb_le, pb_eq, pb_add, pb_mul, pb_sub, pb_cl, pb_ibt, pb_eqm, pb_meq, pb_ltm, pb_mlt, pb_lem, pb_mle, ite_true, ite_false, reduceIte, not_true_eq_false, not_false_eq_true, pb_bind, Nat.zero_add, Nat.add_zero, e1, e2]
  | succ d ih =>
    intro n i hi hn
    obtain ⟨m, rfl, hm⟩ := fuel_succ hn
    have ih' := ih m (i + 1) (by omega) (by omega)
    have e3 : r (9 + 8 * w + 1 + sw - i) = nI (sL r w (sw - 1 - i) - 1) := by rw [← (a4 (sw - 1 - i) (by omega)).2]; congr 1; omega
    have e4 : r (9 + 8 * u + 1 + su - i) = nI (sL r u (su - 1 - i) - 1) := by rw [← (b4 (su - 1 - i) (by omega)).2]; congr 1; omega
    have e5 := (a4 (sw - 1 - i) (by omega)).1
    have e6 := (b4 (su - 1 - i) (by omega)).1
    have e7 : 1 ≤ sL r w (sw - 1 - i) := Nat.le_add_left 1 _
    have e8 : 1 ≤ sL r u (su - 1 - i) := Nat.le_add_left 1 _
    rw [f_X11_likeOf_20]
    simp only [f_X11_likeOf_127, f_X11_likeOf_121]
    rw [rf_run]
    generalize sL r w (sw - 1 - i) = x at *
    generalize sL r u (su - 1 - i) = y at *
    by_cases hxy : x = y
    · subst hxy
      simp (disch := omega) only [pb_lits, pb_ltT, pb_ltF, pb_leT, pb_leF, pb_eqT, pb_eqF, pb_lt, pb_le, pb_eq, pb_add, pb_mul, pb_sub, pb_cl, pb_ibt, pb_eqm, pb_meq, pb_ltm, pb_mlt, pb_lem, pb_mle, ite_true, ite_false, reduceIte, not_true_eq_false, not_false_eq_true, pb_bind, Nat.zero_add, Nat.add_zero, e1, e2, e3, e4]
      rw [ih', show alk r x x = true by unfold alk; simp]
      rfl
    · simp (disch := omega) only [pb_lits, pb_ltT, pb_ltF, pb_leT, pb_leF, pb_eqT, pb_eqF, pb_lt, pb_le, pb_eq, pb_add, pb_mul, pb_sub, pb_cl, pb_ibt, pb_eqm, pb_meq, pb_ltm, pb_mlt, pb_lem, pb_mle, ite_true, ite_false, reduceIte, not_true_eq_false, not_false_eq_true, pb_bind, Nat.zero_add, Nat.add_zero, e1, e2, e3, e4, hasBitM_s]
      rw [show alk r x y = bt (r (121 + (x - 1))) (y - 1) by unfold alk; simp [hxy]]
      cases bt (r (121 + (x - 1))) (y - 1)
      · rfl
      · rw [show bI true = nI 1 from rfl]
        simp (disch := omega) only [pb_lits, pb_ltT, pb_ltF, pb_leT, pb_leF, pb_eqT, pb_eqF, pb_lt, pb_le, pb_eq, pb_add, pb_mul, pb_sub, pb_cl, pb_ibt, pb_eqm, pb_meq, pb_ltm, pb_mlt, pb_lem, pb_mle, ite_true, ite_false, reduceIte, not_true_eq_false, not_false_eq_true, pb_bind, Nat.zero_add, Nat.add_zero]
        exact ih'
theorem likeOf_s {W : Nat} {r : Nat → Int32} (h : pWs W r) {w u : Nat} (hw : w < W) (hu : u < W) : f_X11_likeOf r (nI w) (nI u) = some (nI (lkN r w u)) := by
  have hW := h.1
  have := likeOf_l h hw hu (min (sN r w) (sN r u)) rf_fu 0 (by omega) (by
    obtain ⟨_, _, _, a⟩ := h.2.2 w hw
    have := a.s2
    show _ < 4096
    omega)
  unfold f_X11_likeOf
  simp (disch := omega) only [pb_lits, pb_ltT, pb_ltF, pb_leT, pb_leF, pb_eqT, pb_eqF, pb_lt, pb_le, pb_eq, pb_add, pb_mul, pb_sub, pb_cl, pb_ibt, pb_eqm, pb_meq, pb_ltm, pb_mlt, pb_lem, pb_mle, ite_true, ite_false, reduceIte, not_true_eq_false, not_false_eq_true, pb_bind, Nat.zero_add, Nat.add_zero]
  exact this
theorem eyeOf_l {W : Nat} {r : Nat → Int32} (h : pWs W r) {w u : Nat} (hw : w < W) (hu : u < W) : ∀ d n i : Nat, i + d = min (nN r w) (nN r u) → d < n →
    f_X11_eyeOf_2 r n (nI w) (nI u) (nI i) = some (nI (rf_run (fun k => nL r w (nN r w - 1 - k) == nL r u (nN r u - 1 - k)) d i)) := by
  obtain ⟨hW, -, hws⟩ := h
  obtain ⟨_, _, _, a⟩ := hws w hw
  obtain ⟨_, _, _, b⟩ := hws u hu
  have a1 := a.n1; have a2 := a.n2; have e1 := a.nz; have a4 := a.nl
  have b1 := b.n1; have b2 := b.n2; have e2 := b.nz; have b4 := b.nl
  clear a b
  generalize hsw : nN r w = sw at *
  generalize hsu : nN r u = su at *
  intro d
  induction d with
  | zero =>
    intro n i hi hn
    obtain ⟨m, rfl, hm⟩ := fuel_succ hn
    rw [f_X11_eyeOf_2, f_X11_eyeOf_95]
    rw [rf_run]
    by_cases h1 : sw ≤ i
    · simp (disch := omega) only [pb_lits, pb_ltT, pb_ltF, pb_leT, pb_leF, pb_eqT, pb_eqF, pb_lt, pb_le, pb_eq, pb_add, pb_mul, pb_sub, pb_cl, pb_ibt, pb_eqm, pb_meq, pb_ltm, pb_mlt, pb_lem, pb_mle, ite_true, ite_false, reduceIte, not_true_eq_false, not_false_eq_true, pb_bind, Nat.zero_add, Nat.add_zero, e1, e2]
    · simp (disch := omega) only [pb_lits, pb_ltT, pb_ltF, pb_leT, pb_leF, pb_eqT, pb_eqF, pb_lt, pb_le, pb_eq, pb_add, pb_mul, pb_sub, pb_cl, pb_ibt, pb_eqm, pb_meq, pb_ltm, pb_mlt, pb_lem, pb_mle, ite_true, ite_false, reduceIte, not_true_eq_false, not_false_eq_true, pb_bind, Nat.zero_add, Nat.add_zero, e1, e2]
  | succ d ih =>
    intro n i hi hn
    obtain ⟨m, rfl, hm⟩ := fuel_succ hn
    have ih' := ih m (i + 1) (by omega) (by omega)
    have e3 : r (189 + 8 * w + sw - 1 - i) = nI (nL r w (sw - 1 - i) + 96) := by rw [← (a4 (sw - 1 - i) (by omega)).2.2]; congr 1; omega
    have e4 : r (189 + 8 * u + su - 1 - i) = nI (nL r u (su - 1 - i) + 96) := by rw [← (b4 (su - 1 - i) (by omega)).2.2]; congr 1; omega
    have e5 := (a4 (sw - 1 - i) (by omega)).2.1
    have e6 := (b4 (su - 1 - i) (by omega)).2.1
    rw [f_X11_eyeOf_2, f_X11_eyeOf_95]
    rw [rf_run]
    generalize nL r w (sw - 1 - i) = x at *
    generalize nL r u (su - 1 - i) = y at *
    by_cases hxy : x = y
    · subst hxy
      simp (disch := omega) only [pb_lits, pb_ltT, pb_ltF, pb_leT, pb_leF, pb_eqT, pb_eqF, pb_lt, pb_le, pb_eq, pb_add, pb_mul, pb_sub, pb_cl, pb_ibt, pb_eqm, pb_meq, pb_ltm, pb_mlt, pb_lem, pb_mle, ite_true, ite_false, reduceIte, not_true_eq_false, not_false_eq_true, pb_bind, Nat.zero_add, Nat.add_zero, e1, e2, e3, e4]
      rw [ih']
      simp
    · simp (disch := omega) only [pb_lits, pb_ltT, pb_ltF, pb_leT, pb_leF, pb_eqT, pb_eqF, pb_lt, pb_le, pb_eq, pb_add, pb_mul, pb_sub, pb_cl, pb_ibt, pb_eqm, pb_meq, pb_ltm, pb_mlt, pb_lem, pb_mle, ite_true, ite_false, reduceIte, not_true_eq_false, not_false_eq_true, pb_bind, Nat.zero_add, Nat.add_zero, e1, e2, e3, e4]
      rw [show (x == y) = false by simp [hxy]]
      rfl
theorem eyeOf_s {W : Nat} {r : Nat → Int32} (h : pWs W r) {w u : Nat} (hw : w < W) (hu : u < W) : f_X11_eyeOf r (nI w) (nI u) = some (nI (eyN r w u)) :=
  eyeOf_l h hw hu (min (nN r w) (nN r u)) rf_fu 0 (by omega) (by
    obtain ⟨_, _, _, a⟩ := h.2.2 w hw
    have := a.n2
    show _ < 4096
    omega)
/-- how far, by eye or by ear -/
def mea (r : Nat → Int32) (k o : Int32) (w u : Nat) : Nat := if k = nI 1 ∨ o = nI 1 then eyN r w u else lkN r w u
theorem mea_le {W : Nat} {r : Nat → Int32} (h : pWs W r) {w : Nat} (hw : w < W) (k o : Int32) (u : Nat) : mea r k o w u ≤ 8 := by
  obtain ⟨_, _, _, a⟩ := h.2.2 w hw
  have a1 := a.s2
  have a2 := a.n2
  have h1 := (run_le (fun k => alk r (sL r w (sN r w - 1 - k)) (sL r u (sN r u - 1 - k))) (min (sN r w) (sN r u)) 0).2
  have h2 := (run_le (fun k => nL r w (nN r w - 1 - k) == nL r u (nN r u - 1 - k)) (min (nN r w) (nN r u)) 0).2
  unfold mea eyN lkN
  split <;> omega
theorem rhyme32 {W : Nat} {r : Nat → Int32} (h : pWs W r) {k o ws os ear : Int32} {w : Nat} (hw : w < W) (K : Int32 → Int32 → Int32 → Int32 → Int32 → Int32 → Int32 → Option Int32) : ∀ d n i m : Nat, i + d = W → d < n → m ≤ 8 →
    ∃ m', m' ≤ 8 ∧ f_X11_rhymeOf_32 K r n k ws o os ear (nI m) (nI w) (nI i) = K k ws o os ear (nI m') (nI (w + 1)) ∧ ∀ e, e ≤ m' ↔ (e ≤ m ∨ ∃ u, i ≤ u ∧ u < W ∧ bt ws w = true ∧ bt os u = true ∧ e ≤ mea r k o w u) := by
  have hW := h.1
  have hr := h.2.1
  intro d
  induction d with
  | zero =>
    intro n i m hi hn hm
    obtain ⟨n', rfl, hn'⟩ := fuel_succ hn
    refine ⟨m, hm, ?_, fun e => ⟨Or.inl, fun h => h.elim id (fun ⟨u, h1, h2, _⟩ => by omega)⟩⟩
    rw [f_X11_rhymeOf_32, show Int32.toNatClampNeg 2 = 2 from rfl, hr]
    simp (disch := omega) only [pb_lits, pb_ltT, pb_ltF, pb_leT, pb_leF, pb_eqT, pb_eqF, pb_lt, pb_le, pb_eq, pb_add, pb_mul, pb_sub, pb_cl, pb_ibt, pb_eqm, pb_meq, pb_ltm, pb_mlt, pb_lem, pb_mle, ite_true, ite_false, reduceIte, not_true_eq_false, not_false_eq_true, pb_bind, Nat.zero_add, Nat.add_zero]
  | succ d ih =>
    intro n i m hi hn hm
    obtain ⟨n', rfl, hn'⟩ := fuel_succ hn
    have hm8 := mea_le h hw k o i
    have skip : (bt ws w = true ∧ bt os i = true → False) → ∃ m', m' ≤ 8 ∧ f_X11_rhymeOf_32 K r n' k ws o os ear (nI m) (nI w) (nI (i + 1)) = K k ws o os ear (nI m') (nI (w + 1)) ∧ ∀ e, e ≤ m' ↔ (e ≤ m ∨ ∃ u, i ≤ u ∧ u < W ∧ bt ws w = true ∧ bt os u = true ∧ e ≤ mea r k o w u) := by
      intro hno
      obtain ⟨m', h1, h2, h3⟩ := ih n' (i + 1) m (by omega) (by omega) hm
      refine ⟨m', h1, h2, fun e => (h3 e).trans ⟨fun q => q.imp id (fun ⟨u, a, b, c⟩ => ⟨u, by omega, b, c⟩), fun q => q.imp id (fun ⟨u, a, b, c⟩ => ⟨u, ?_, b, c⟩)⟩⟩
      by_cases hu : u = i
      · subst hu; exact absurd ⟨c.1, c.2.1⟩ hno
      · omega
    have take : ∀ v, bt ws w = true → bt os i = true → v = mea r k o w i → ∃ m', m' ≤ 8 ∧ f_X11_rhymeOf_94 K (f_X11_rhymeOf_32 K r n') r k ws o os ear (nI m) (nI w) (nI i) (nI v) = K k ws o os ear (nI m') (nI (w + 1)) ∧ ∀ e, e ≤ m' ↔ (e ≤ m ∨ ∃ u, i ≤ u ∧ u < W ∧ bt ws w = true ∧ bt os u = true ∧ e ≤ mea r k o w u) := by
      intro v hb1 hb2 hv
      obtain ⟨m', h1, h2, h3⟩ := ih n' (i + 1) (max m v) (by omega) (by omega) (by omega)
      refine ⟨m', h1, ?_, fun e => (h3 e).trans ⟨fun q => ?_, fun q => ?_⟩⟩
      · rw [← h2]
        simp only [f_X11_rhymeOf_94, f_X11_rhymeOf_110, f_X11_rhymeOf_112]
        by_cases hmv : v ≤ m
        · rw [show max m v = m by omega]
          simp (disch := omega) only [pb_lits, pb_ltT, pb_ltF, pb_leT, pb_leF, pb_eqT, pb_eqF, pb_lt, pb_le, pb_eq, pb_add, pb_mul, pb_sub, pb_cl, pb_ibt, pb_eqm, pb_meq, pb_ltm, pb_mlt, pb_lem, pb_mle, ite_true, ite_false, reduceIte, not_true_eq_false, not_false_eq_true, pb_bind, Nat.zero_add, Nat.add_zero]
        · rw [show max m v = v by omega]
          simp (disch := omega) only [pb_lits, pb_ltT, pb_ltF, pb_leT, pb_leF, pb_eqT, pb_eqF, pb_lt, pb_le, pb_eq, pb_add, pb_mul, pb_sub, pb_cl, pb_ibt, pb_eqm, pb_meq, pb_ltm, pb_mlt, pb_lem, pb_mle, ite_true, ite_false, reduceIte, not_true_eq_false, not_false_eq_true, pb_bind, Nat.zero_add, Nat.add_zero]
      · rcases q with q | ⟨u, a, b, c⟩
        · by_cases q2 : e ≤ m
          · exact Or.inl q2
          · exact Or.inr ⟨i, by omega, by omega, hb1, hb2, by omega⟩
        · exact Or.inr ⟨u, by omega, b, c⟩
      · rcases q with q | ⟨u, a, b, c, c2, c3⟩
        · exact Or.inl (by omega)
        · by_cases hu : u = i
          · subst hu; exact Or.inl (by omega)
          · exact Or.inr ⟨u, by omega, b, c, c2, c3⟩
    rw [f_X11_rhymeOf_32, show Int32.toNatClampNeg 2 = 2 from rfl, hr, hasBitM_s _ (by omega), hasBitM_s _ (by omega)]
    simp only [f_X11_rhymeOf_112]
    simp (disch := omega) only [pb_lits, pb_ltT, pb_ltF, pb_leT, pb_leF, pb_eqT, pb_eqF, pb_lt, pb_le, pb_eq, pb_add, pb_mul, pb_sub, pb_cl, pb_ibt, pb_eqm, pb_meq, pb_ltm, pb_mlt, pb_lem, pb_mle, ite_true, ite_false, reduceIte, not_true_eq_false, not_false_eq_true, pb_bind, Nat.zero_add, Nat.add_zero]
    by_cases hb1 : bt ws w = true
    · rw [show bI (bt ws w) = nI 1 by rw [hb1]; rfl]
      simp (disch := omega) only [pb_lits, pb_ltT, pb_ltF, pb_leT, pb_leF, pb_eqT, pb_eqF, pb_lt, pb_le, pb_eq, pb_add, pb_mul, pb_sub, pb_cl, pb_ibt, pb_eqm, pb_meq, pb_ltm, pb_mlt, pb_lem, pb_mle, ite_true, ite_false, reduceIte, not_true_eq_false, not_false_eq_true, pb_bind, Nat.zero_add, Nat.add_zero]
      by_cases hb2 : bt os i = true
      · rw [show bI (bt os i) = nI 1 by rw [hb2]; rfl]
        simp only [f_X11_rhymeOf_75]
        rw [likeOf_s h hw (by omega), eyeOf_s h hw (by omega)]
        simp (disch := omega) only [pb_lits, pb_ltT, pb_ltF, pb_leT, pb_leF, pb_eqT, pb_eqF, pb_lt, pb_le, pb_eq, pb_add, pb_mul, pb_sub, pb_cl, pb_ibt, pb_eqm, pb_meq, pb_ltm, pb_mlt, pb_lem, pb_mle, ite_true, ite_false, reduceIte, not_true_eq_false, not_false_eq_true, pb_bind, Nat.zero_add, Nat.add_zero]
        have take' := fun v => take v hb1 hb2
        clear take skip ih
        by_cases k1 : k = nI 1
        · rw [if_pos k1]
          exact take' _ (by unfold mea; rw [if_pos (Or.inl k1)])
        · rw [if_neg k1]
          by_cases o1 : o = nI 1
          · rw [if_pos o1]
            exact take' _ (by unfold mea; rw [if_pos (Or.inr o1)])
          · rw [if_neg o1]
            exact take' _ (by unfold mea; rw [if_neg (fun e => e.elim k1 o1)])
      · rw [show bI (bt os i) = nI 0 by rw [(Bool.not_eq_true _).mp hb2]; rfl]
        simp (disch := omega) only [pb_lits, pb_ltT, pb_ltF, pb_leT, pb_leF, pb_eqT, pb_eqF, pb_lt, pb_le, pb_eq, pb_add, pb_mul, pb_sub, pb_cl, pb_ibt, pb_eqm, pb_meq, pb_ltm, pb_mlt, pb_lem, pb_mle, ite_true, ite_false, reduceIte, not_true_eq_false, not_false_eq_true, pb_bind, Nat.zero_add, Nat.add_zero]
        exact skip (fun e => hb2 e.2)
    · rw [show bI (bt ws w) = nI 0 by rw [(Bool.not_eq_true _).mp hb1]; rfl]
      simp (disch := omega) only [pb_lits, pb_ltT, pb_ltF, pb_leT, pb_leF, pb_eqT, pb_eqF, pb_lt, pb_le, pb_eq, pb_add, pb_mul, pb_sub, pb_cl, pb_ibt, pb_eqm, pb_meq, pb_ltm, pb_mlt, pb_lem, pb_mle, ite_true, ite_false, reduceIte, not_true_eq_false, not_false_eq_true, pb_bind, Nat.zero_add, Nat.add_zero]
      exact skip (fun e => hb1 e.1)
