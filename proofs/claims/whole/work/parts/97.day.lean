/-! days -/
theorem cD_congr {s t : Nat → Bool} : ∀ n, (∀ k, k < n → s k = t k) → cD s n = cD t n := by
  intro n
  induction n with
  | zero => intro _; rfl
  | succ n ih => intro h; rw [cD, cD, h n (by omega), ih (fun k hk => h k (by omega))]
theorem cD_union {s t : Nat → Bool} : ∀ n, (∀ k, k < n → ¬ (s k = true ∧ t k = true)) → cD (fun k => s k || t k) n = cD s n + cD t n := by
  intro n
  induction n with
  | zero => intro _; rfl
  | succ n ih =>
    intro h
    rw [cD, cD, cD, ih (fun k hk => h k (by omega))]
    have := h n (by omega)
    cases hs : s n <;> cases ht : t n
    · rfl
    · rw [Bool.false_or]; simp; omega
    · simp; omega
    · exact absurd ⟨hs, ht⟩ this
theorem cD_one {p : Nat} : ∀ n, p < n → cD (fun k => decide (k = p)) n = 1 := by
  intro n
  induction n with
  | zero => intro h; omega
  | succ n ih =>
    intro h
    rw [cD]
    by_cases e : p = n
    · subst e
      rw [decide_eq_true rfl, cD_congr p (t := fun _ => false) (fun k hk => decide_eq_false (by omega))]
      have : ∀ m, cD (fun _ => false) m = 0 := by
        intro m
        induction m with
        | zero => rfl
        | succ m ih => rw [cD, ih]; rfl
      rw [this]; rfl
    · rw [ih (by omega), decide_eq_false (by omega)]; rfl
theorem pop_cD (S : Nat → Bool) : pop (numF S 8) = cD S 8 := by
  unfold pop
  simp only [numF_bit]
  simp only [show decide (0 < 8) = true from rfl, show decide (1 < 8) = true from rfl, show decide (2 < 8) = true from rfl, show decide (3 < 8) = true from rfl, show decide (4 < 8) = true from rfl, show decide (5 < 8) = true from rfl, show decide (6 < 8) = true from rfl, show decide (7 < 8) = true from rfl, show decide (8 < 8) = false from rfl, show decide (9 < 8) = false from rfl, Bool.true_and, Bool.false_and]
  rw [cD, cD, cD, cD, cD, cD, cD, cD, cD]
  simp
theorem bc8 {s : Int32} (h : ∀ k, bt s k = true → k < 8) : rf_bc s = nI (cD (bt s) 8) := by
  have h1 := set8 h
  have h2 := numF_256 (bt s)
  rw [← pop_cD, ← bc_s (by omega), ← h1]
/-- pairs that are no one's twice -/
def Vld (a : Nat → Int32) (T : Nat → Bool) : Prop := ∀ k, k < 8 → a k = -2 ∨ ∃ q, q < 8 ∧ q ≠ k ∧ T k = true ∧ T q = true ∧ a k = nI q ∧ a q = nI k
theorem m2_ne (k : Nat) (hk : k < 2 ^ 31) : ¬ (-2 : Int32) = nI k := fun x => by
  have := pb_meq (a := k) (b := 2) (by decide) hk (by decide)
  exact (this ▸ x : False)
theorem sufA_P {t : Nat → Bool} {v : Nat → Nat} {U : Nat} {a : Nat → Nat → Int32} {u : Nat → Int32} {Q : (Nat → Int32) → Prop} (hu : Q u) : ∀ d i, (∀ q, i ≤ q → q < i + d → t q = true → Q (a q)) → Q (sufA t v U a u d i) := by
  intro d
  induction d with
  | zero => intro i _; exact hu
  | succ d ih =>
    intro i h
    rw [sufA]
    split
    · next hc => exact h i (by omega) (by omega) hc.1
    · exact ih (i + 1) (fun q a b => h q (by omega) (by omega))
theorem Vld_fbA {lk : Nat → Nat → Bool} {T : Nat → Bool} : ∀ d p S now, p + d ≤ 8 → Vld now T → (∀ k, p ≤ k → k < 8 → S k = true → T k = true ∧ now k = -2) → Vld (fbA lk d p S now) T := by
  intro d
  induction d with
  | zero => intro p S now _ h _; exact h
  | succ d ih =>
    intro p S now hp h hS
    rw [fbA]
    have h0 := ih (p + 1) S now (by omega) h (fun k a b c => hS k (by omega) b c)
    split
    · next hSp =>
      refine sufA_P (Q := fun f => Vld f T) h0 d (p + 1) (fun q h1 h2 ht => ?_)
      rw [Bool.and_eq_true] at ht
      have sp := hS p (by omega) (by omega) hSp
      have sq := hS q (by omega) (by omega) ht.1
      refine ih (p + 1) (rmB S q) _ (by omega) (fun k hk => ?_) (fun k a b c => ?_)
      · by_cases e1 : k = q
        · subst e1
          refine Or.inr ⟨p, by omega, by omega, sq.1, sp.1, upd_same _ _ _, ?_⟩
          rw [upd_ne _ _ (by omega), upd_same]
        · by_cases e2 : k = p
          · subst e2
            refine Or.inr ⟨q, by omega, by omega, sp.1, sq.1, ?_, upd_same _ _ _⟩
            rw [upd_ne _ _ e1, upd_same]
          · rw [upd_ne _ _ e1, upd_ne _ _ e2]
            rcases h k hk with h3 | ⟨c, c1, c2, c3, c4, c5, c6⟩
            · exact Or.inl h3
            · refine Or.inr ⟨c, c1, c2, c3, c4, c5, ?_⟩
              rw [upd_ne _ _ (fun e => by subst e; rw [sq.2] at c6; exact m2_ne k (by omega) c6), upd_ne _ _ (fun e => by subst e; rw [sp.2] at c6; exact m2_ne k (by omega) c6)]
              exact c6
      · unfold rmB at c
        rw [Bool.and_eq_true, Bool.not_eq_true'] at c
        have c2 := of_decide_eq_false c.2
        rw [upd_ne _ _ c2, upd_ne _ _ (by omega)]
        exact hS k (by omega) b c.1
    · exact h0
theorem crossX_tail {pc : Int32} {a : Nat → Int32} {hr c : Int32} {hX : Nat → Int32} (cnt : Int32) : ∀ d n i : Nat, i + d = 8 → d < n → (∀ k, i ≤ k → k < 8 → a k = -2) → f_X0_crossersAt_7 pc a n hr c cnt (nI i) hX = some (c, hX) := by
  intro d
  induction d with
  | zero =>
    intro n i hi hn h
    obtain ⟨n', rfl, hn'⟩ := fuel_succ hn
    obtain rfl : i = 8 := by omega
    rw [f_X0_crossersAt_7, if_pos (by decide)]; rfl
  | succ d ih =>
    intro n i hi hn h
    obtain ⟨n', rfl, hn'⟩ := fuel_succ hn
    rw [f_X0_crossersAt_7, if_neg (by simp (disch := omega) only [pb_lits, pb_ltT, pb_ltF, pb_leT, pb_leF, pb_eqT, pb_eqF, pb_lt, pb_le, pb_eq, pb_add, pb_mul, pb_sub, pb_cl, pb_ibt, pb_eqm, pb_meq, pb_ltm, pb_mlt, pb_lem, pb_mle, ite_true, ite_false, reduceIte, not_true_eq_false, not_false_eq_true, pb_bind, Nat.zero_add, Nat.add_zero]), if_pos (pb_ibt (by omega) (by omega)), nI_clamp (by omega), h i (by omega) (by omega), if_pos (show (-2 : Int32) ≤ nI i by simp (disch := omega) only [pb_lits, pb_ltT, pb_ltF, pb_leT, pb_leF, pb_eqT, pb_eqF, pb_lt, pb_le, pb_eq, pb_add, pb_mul, pb_sub, pb_cl, pb_ibt, pb_eqm, pb_meq, pb_ltm, pb_mlt, pb_lem, pb_mle, ite_true, ite_false, reduceIte, not_true_eq_false, not_false_eq_true, pb_bind, Nat.zero_add, Nat.add_zero])]
    simp only [f_X0_crossersAt_78, f_X0_crossersAt_84]
    rw [nI_1, ih n' (i + 1) (by omega) (by omega) (fun k a b => h k (by omega) b), ite_self]
theorem cross_l {P : Nat} (hP : P ≤ 8) {r st : Nat → Int32} (hr3 : r 3 = nI P) {a b : Nat → Int32} (hab : ∀ k, k < 8 → a k = b k) {left : Int32} (hl : ∀ k, bt left k = true → k < P) (hV : Vld a (bt left)) {m : Nat} (hm : m < 100) (hr1 : r 1 = nI m) (v2 v3 v5 v6 bm : Int32) (can now : Nat → Int32)
    (K : Int32 → Int32 → Int32 → Int32 → Int32 → Int32 → (Nat → Int32) → (Nat → Int32) → (Nat → Int32) → (Nat → Int32) → Option (Int32 × Int32 × (Nat → Int32) × (Nat → Int32) × (Nat → Int32) × (Nat → Int32))) : ∀ d n n' i cnt : Nat, ∀ c : Int32, ∀ hX hM : Nat → Int32, i + d = P → d + 8 < n → d < n' → cnt ≤ i → (∀ k, k < 8 → hX k = hM k) → cD (bt c) 8 = 2 * cnt → (∀ k, bt c k = true → bt left k = true ∧ ∃ p q, p < i ∧ p < q ∧ q < 8 ∧ a p = nI q ∧ a q = nI p ∧ (k = p ∨ k = q)) →
    ∃ c' cnt' hX' hM', f_X0_crossersAt_7 (nI m) a n (v6 + 1) c (nI cnt) (nI i) hX = some (c', hX') ∧ f_X11_goThrough_108 K r st n' v2 v3 (left &&& (c ^^^ (-1))) v5 v6 (nI cnt) (nI i) bm can now b hM = K v2 v3 (left &&& (c' ^^^ (-1))) (v5 + nI (2 * cnt')) (v6 + 1) bm can now b hM' ∧ (∀ k, k < 8 → hX' k = hM' k) ∧ cD (bt c') 8 = 2 * cnt' ∧ (∀ k, bt c' k = true → bt left k = true) := by
  have hend : ∀ k, P ≤ k → k < 8 → a k = -2 := by
    intro k h1 h2
    rcases hV k h2 with h3 | ⟨q, c1, c2, c3, c4, c5, c6⟩
    · exact h3
    · have := hl k c3; omega
  intro d
  induction d with
  | zero =>
    intro n n' i cnt c hX hM hi hn hn' hcnt hh hc hcs
    obtain ⟨n1, rfl, hn1⟩ := fuel_succ hn'
    obtain rfl : i = P := by omega
    refine ⟨c, cnt, hX, hM, crossX_tail _ (8 - i) n i (by omega) (by omega) hend, ?_, hh, hc, fun k hk => (hcs k hk).1⟩
    rw [f_X11_goThrough_108, show Int32.toNatClampNeg 3 = 3 from rfl, hr3, if_pos (nI_le (Nat.le_refl _) (by omega)), f_X11_goThrough_202]
    rw [show (2 : Int32) * nI cnt = nI (2 * cnt) from pb_mul 2 cnt]
  | succ d ih =>
    intro n n' i cnt c hX hM hi hn hn' hcnt hh hc hcs
    obtain ⟨n0, rfl, hn0⟩ := fuel_succ hn
    obtain ⟨n1, rfl, hn1⟩ := fuel_succ hn'
    have hi8 : i < 8 := by omega
    rw [f_X0_crossersAt_7, f_X11_goThrough_108, show Int32.toNatClampNeg 3 = 3 from rfl, show Int32.toNatClampNeg 1 = 1 from rfl, hr3, hr1, if_neg (show ¬ (8 : Int32) ≤ nI i by simp (disch := omega) only [pb_lits, pb_ltT, pb_ltF, pb_leT, pb_leF, pb_eqT, pb_eqF, pb_lt, pb_le, pb_eq, pb_add, pb_mul, pb_sub, pb_cl, pb_ibt, pb_eqm, pb_meq, pb_ltm, pb_mlt, pb_lem, pb_mle, ite_true, ite_false, reduceIte, not_true_eq_false, not_false_eq_true, pb_bind, Nat.zero_add, Nat.add_zero]), if_neg (show ¬ nI P ≤ nI i by simp (disch := omega) only [pb_lits, pb_ltT, pb_ltF, pb_leT, pb_leF, pb_eqT, pb_eqF, pb_lt, pb_le, pb_eq, pb_add, pb_mul, pb_sub, pb_cl, pb_ibt, pb_eqm, pb_meq, pb_ltm, pb_mlt, pb_lem, pb_mle, ite_true, ite_false, reduceIte, not_true_eq_false, not_false_eq_true, pb_bind, Nat.zero_add, Nat.add_zero])]
    by_cases hfull : m ≤ cnt
    · rw [if_pos (nI_le hfull (by omega)), if_pos (nI_le hfull (by omega)), f_X0_crossersAt_84, f_X11_goThrough_202, show (2 : Int32) * nI cnt = nI (2 * cnt) from pb_mul 2 cnt]
      exact ⟨c, cnt, hX, hM, rfl, rfl, hh, hc, fun k hk => (hcs k hk).1⟩
    · have ibi : rf_ib (nI i) 8 = true := pb_ibt (by omega) hi8
      have cli : (nI i).toNatClampNeg = i := nI_clamp (by omega)
      rw [if_neg (nI_ge (by omega) (by omega)), if_neg (nI_ge (by omega) (by omega))]
      simp only [ibi, cli, if_true, f_X0_crossersAt_78, f_X11_goThrough_196]
      rw [nI_1, ← hab i hi8]
      have skip : a i ≤ nI i → ¬ nI i ≤ a i → ∃ c' cnt' hX' hM', f_X0_crossersAt_7 (nI m) a n0 (v6 + 1) c (nI cnt) (nI (i + 1)) hX = some (c', hX') ∧ f_X11_goThrough_108 K r st n1 v2 v3 (left &&& (c ^^^ (-1))) v5 v6 (nI cnt) (nI (i + 1)) bm can now b hM = K v2 v3 (left &&& (c' ^^^ (-1))) (v5 + nI (2 * cnt')) (v6 + 1) bm can now b hM' ∧ (∀ k, k < 8 → hX' k = hM' k) ∧ cD (bt c') 8 = 2 * cnt' ∧ (∀ k, bt c' k = true → bt left k = true) := fun _ _ =>
        ih n0 n1 (i + 1) cnt c hX hM (by omega) (by omega) (by omega) (by omega) hh hc (fun k hk => ⟨(hcs k hk).1, by
          obtain ⟨p, q, x1, x2⟩ := (hcs k hk).2
          exact ⟨p, q, by omega, x2⟩⟩)
      rcases hV i hi8 with h2 | ⟨q, q1, q2, q3, q4, q5, q6⟩
      · have y1 : a i ≤ nI i := by rw [h2]; simp (disch := omega) only [pb_lits, pb_ltT, pb_ltF, pb_leT, pb_leF, pb_eqT, pb_eqF, pb_lt, pb_le, pb_eq, pb_add, pb_mul, pb_sub, pb_cl, pb_ibt, pb_eqm, pb_meq, pb_ltm, pb_mlt, pb_lem, pb_mle, ite_true, ite_false, reduceIte, not_true_eq_false, not_false_eq_true, pb_bind, Nat.zero_add, Nat.add_zero]
        have y2 : ¬ nI i ≤ a i := by rw [h2]; simp (disch := omega) only [pb_lits, pb_ltT, pb_ltF, pb_leT, pb_leF, pb_eqT, pb_eqF, pb_lt, pb_le, pb_eq, pb_add, pb_mul, pb_sub, pb_cl, pb_ibt, pb_eqm, pb_meq, pb_ltm, pb_mlt, pb_lem, pb_mle, ite_true, ite_false, reduceIte, not_true_eq_false, not_false_eq_true, pb_bind, Nat.zero_add, Nat.add_zero]
        rw [if_pos y1, if_neg y2]
        exact skip y1 y2
      · by_cases hqi : q < i
        · have y1 : a i ≤ nI i := by rw [q5]; simp (disch := omega) only [pb_lits, pb_ltT, pb_ltF, pb_leT, pb_leF, pb_eqT, pb_eqF, pb_lt, pb_le, pb_eq, pb_add, pb_mul, pb_sub, pb_cl, pb_ibt, pb_eqm, pb_meq, pb_ltm, pb_mlt, pb_lem, pb_mle, ite_true, ite_false, reduceIte, not_true_eq_false, not_false_eq_true, pb_bind, Nat.zero_add, Nat.add_zero]
          have y2 : ¬ nI i ≤ a i := by rw [q5]; simp (disch := omega) only [pb_lits, pb_ltT, pb_ltF, pb_leT, pb_leF, pb_eqT, pb_eqF, pb_lt, pb_le, pb_eq, pb_add, pb_mul, pb_sub, pb_cl, pb_ibt, pb_eqm, pb_meq, pb_ltm, pb_mlt, pb_lem, pb_mle, ite_true, ite_false, reduceIte, not_true_eq_false, not_false_eq_true, pb_bind, Nat.zero_add, Nat.add_zero]
          rw [if_pos y1, if_neg y2]
          exact skip y1 y2
        · have y1 : ¬ a i ≤ nI i := by rw [q5]; simp (disch := omega) only [pb_lits, pb_ltT, pb_ltF, pb_leT, pb_leF, pb_eqT, pb_eqF, pb_lt, pb_le, pb_eq, pb_add, pb_mul, pb_sub, pb_cl, pb_ibt, pb_eqm, pb_meq, pb_ltm, pb_mlt, pb_lem, pb_mle, ite_true, ite_false, reduceIte, not_true_eq_false, not_false_eq_true, pb_bind, Nat.zero_add, Nat.add_zero]
          have y2 : nI i ≤ a i := by rw [q5]; simp (disch := omega) only [pb_lits, pb_ltT, pb_ltF, pb_leT, pb_leF, pb_eqT, pb_eqF, pb_lt, pb_le, pb_eq, pb_add, pb_mul, pb_sub, pb_cl, pb_ibt, pb_eqm, pb_meq, pb_ltm, pb_mlt, pb_lem, pb_mle, ite_true, ite_false, reduceIte, not_true_eq_false, not_false_eq_true, pb_bind, Nat.zero_add, Nat.add_zero]
          have ibq : rf_ib (nI q) 8 = true := pb_ibt (by omega) q1
          have clq : (nI q).toNatClampNeg = q := nI_clamp (by omega)
          rw [if_neg y1, if_pos y2, q5]
          simp only [ibq, clq, if_true]
          rw [nI_1]
          have hbits : ∀ k, k < 32 → bt (c ||| (((1 : Int32) <<< (nI i &&& 31)) ||| ((1 : Int32) <<< (nI q &&& 31)))) k = (bt c k || (decide (k = i) || decide (k = q))) := by
            intro k hk
            rw [bt_or, bt_or]
            rw [show bt ((1 : Int32) <<< (nI i &&& 31)) k = decide (k = i) from bt_1s (by omega) k, show bt ((1 : Int32) <<< (nI q &&& 31)) k = decide (k = q) from bt_1s (by omega) k]
          have hnear : left &&& (c ^^^ (-1)) &&& ((((1 : Int32) <<< (nI i &&& 31)) ||| ((1 : Int32) <<< (nI q &&& 31))) ^^^ (-1)) = left &&& ((c ||| (((1 : Int32) <<< (nI i &&& 31)) ||| ((1 : Int32) <<< (nI q &&& 31)))) ^^^ (-1)) := by
            apply bt_ext
            intro k hk
            rw [bt_and, bt_and, bt_and, bt_com _ hk, bt_com _ hk, bt_com _ hk]
            simp only [bt_or]
            cases bt left k <;> cases bt c k <;> simp
          rw [hnear]
          have ci : bt c i = false := by
            cases hb : bt c i
            · rfl
            · obtain ⟨p', q', x1, x2, x3, x4, x5, x6⟩ := (hcs i hb).2
              rcases x6 with x6 | x6
              · omega
              · subst x6; rw [q5] at x5; have := (nI_eq (by omega) (by omega)).mp x5; omega
          have cq : bt c q = false := by
            cases hb : bt c q
            · rfl
            · obtain ⟨p', q', x1, x2, x3, x4, x5, x6⟩ := (hcs q hb).2
              rcases x6 with x6 | x6
              · subst x6; omega
              · subst x6; rw [q6] at x5; have := (nI_eq (by omega) (by omega)).mp x5; omega
          generalize c ||| (((1 : Int32) <<< (nI i &&& 31)) ||| ((1 : Int32) <<< (nI q &&& 31))) = c2 at hbits ⊢
          have hcc : cD (bt c2) 8 = 2 * (cnt + 1) := by
            rw [cD_congr 8 (t := fun k => bt c k || (decide (k = i) || decide (k = q))) (fun k hk => hbits k (by omega)), cD_union 8 (fun k hk ⟨x1, x2⟩ => by
              rw [Bool.or_eq_true] at x2
              rcases x2 with x2 | x2
              · rw [of_decide_eq_true x2, ci] at x1; cases x1
              · rw [of_decide_eq_true x2, cq] at x1; cases x1), cD_union 8 (fun k hk ⟨x1, x2⟩ => q2 (by rw [← of_decide_eq_true x1, ← of_decide_eq_true x2])), cD_one 8 hi8, cD_one 8 q1, hc]
            omega
          refine ih n0 n1 (i + 1) (cnt + 1) c2 _ _ (by omega) (by omega) (by omega) (by omega) (fun k hk => ?_) hcc (fun k hk => ?_)
          · unfold upd
            rw [hh k hk]
          · by_cases h32 : k < 32
            · rw [hbits k h32, Bool.or_eq_true, Bool.or_eq_true] at hk
              rcases hk with hk | hk | hk
              · obtain ⟨w1, p', q', x1, x2⟩ := hcs k hk
                exact ⟨w1, p', q', by omega, x2⟩
              · have := of_decide_eq_true hk
                exact ⟨by rw [this]; exact q3, i, q, by omega, by omega, q1, q5, q6, Or.inl this⟩
              · have := of_decide_eq_true hk
                exact ⟨by rw [this]; exact q4, i, q, by omega, by omega, q1, q5, q6, Or.inr this⟩
            · rw [bt_ge (by omega)] at hk; cases hk
