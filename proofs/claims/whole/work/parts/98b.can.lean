/-! whether all can be in pairs -/
def lst (s : Int32) : Nat := rf_run (fun k => !bt s k) 8 0
def two (s : Int32) (p q : Nat) : Int32 := s &&& ((((1 : Int32) <<< (nI p &&& 31)) ||| ((1 : Int32) <<< (nI q &&& 31))) ^^^ (-1))
def cB (lk : Nat → Nat → Bool) : Nat → Int32 → Bool
  | 0, _ => false
  | d + 1, s => if s = 0 then true else anyF (fun q => bt s q && lk (lst s) q && cB lk d (two s (lst s) q)) (7 - lst s) (lst s + 1)
theorem run_eq {p : Nat → Bool} : ∀ d i k, i ≤ k → k < i + d → (∀ j, i ≤ j → j < k → p j = true) → p k = false → rf_run p d i = k := by
  intro d
  induction d with
  | zero => intro i k h1 h2; omega
  | succ d ih =>
    intro i k h1 h2 h3 h4
    rw [rf_run]
    by_cases e : i = k
    · subst e; rw [h4, if_neg (by decide)]
    · rw [h3 i (by omega) (by omega), if_pos rfl]
      exact ih (i + 1) k (by omega) (by omega) (fun j a b => h3 j (by omega) b) h4
theorem lst_eq {s : Int32} {p : Nat} (hp : p < 8) (h1 : bt s p = true) (h2 : ∀ k, k < p → bt s k = false) : lst s = p :=
  run_eq 8 0 p (by omega) (by omega) (fun j _ hj => by rw [h2 j hj]; rfl) (by rw [h1]; rfl)
theorem bt_two' {s : Int32} {p q k : Nat} (hp : p < 8) (hq : q < 8) : bt (two s p q) k = (bt s k && !(decide (k = p) || decide (k = q))) := by
  by_cases hk : k < 32
  · exact bt_two hp hq hk
  · rw [bt_ge (by omega), bt_ge (by omega)]; rfl
theorem two_cnt {s : Int32} {p q : Nat} (hp : p < 8) (hq : q < 8) (hpq : p ≠ q) (h1 : bt s p = true) (h2 : bt s q = true) : cD (bt s) 8 = cD (bt (two s p q)) 8 + 2 := by
  have : cD (bt s) 8 = cD (fun k => bt (two s p q) k || (decide (k = p) || decide (k = q))) 8 := cD_congr 8 (fun k _ => by
    rw [bt_two' hp hq]
    by_cases e1 : k = p
    · subst e1; rw [h1]; simp
    · by_cases e2 : k = q
      · subst e2; rw [h2]; simp
      · rw [decide_eq_false e1, decide_eq_false e2]; simp)
  rw [this, cD_union 8 (fun k _ ⟨x1, x2⟩ => by
    rw [bt_two' hp hq, Bool.and_eq_true, Bool.not_eq_true'] at x1
    rw [x1.2] at x2; cases x2), cD_union 8 (fun k _ ⟨x1, x2⟩ => hpq (by rw [← of_decide_eq_true x1, ← of_decide_eq_true x2])), cD_one 8 hp, cD_one 8 hq]
theorem two_X {s : Int32} {p q : Nat} : s &&& (((1 : Int32) <<< (nI p &&& 31)) ^^^ (-1)) &&& (((1 : Int32) <<< (nI q &&& 31)) ^^^ (-1)) = two s p q := by
  unfold two
  apply bt_ext
  intro k hk
  rw [bt_and, bt_and, bt_and, bt_com _ hk, bt_com _ hk, bt_com _ hk, bt_or]
  cases bt s k <;> simp
theorem bit_ex {s : Int32} (h : ∀ k, bt s k = true → k < 8) (h0 : ¬ s = 0) : ∃ p, p < 8 ∧ bt s p = true ∧ ∀ k, k < p → bt s k = false := by
  rcases leastOf_s s with ⟨p, a, b, c, _⟩ | ⟨a, _⟩
  · exact ⟨p, a, b, c⟩
  · exact absurd (pb_eq0.mpr (fun k hk => by
      by_cases h8 : k < 8
      · exact a k h8
      · cases hb : bt s k
        · rfl
        · exact absurd (h k hb) h8)) h0
theorem can25 {lk : Nat → Nat → Bool} {L : Nat → Int32} {F : Int32 → Option Int32} {s : Int32} {p : Nat} (hp : p < 8) (hL : ∀ q, bt s q = true → p < q → bt (L p) q = lk p q) {G : Int32 → Bool} (hF : ∀ q, q < 8 → p < q → bt s q = true → F (two s p q) = some (bI (G (two s p q)))) : ∀ d n i : Nat, i + d = 8 → p + 1 ≤ i → d < n →
    f_X3_canAll_25 F L n (nI p) (s &&& (((1 : Int32) <<< (nI p &&& 31)) ^^^ (-1))) (nI i) = some (bI (anyF (fun q => bt s q && lk p q && G (two s p q)) d i)) := by
  intro d
  induction d with
  | zero =>
    intro n i hi hpi hn
    obtain ⟨n', rfl, hn'⟩ := fuel_succ hn
    obtain rfl : i = 8 := by omega
    rw [f_X3_canAll_25, if_pos (by decide)]; rfl
  | succ d ih =>
    intro n i hi hpi hn
    obtain ⟨n', rfl, hn'⟩ := fuel_succ hn
    have ih' := ih n' (i + 1) (by omega) (by omega) (by omega)
    have hbit : bt (s &&& (((1 : Int32) <<< (nI p &&& 31)) ^^^ (-1)) &&& L p) i = (bt s i && lk p i) := by
      rw [bt_and, bt_and, bt_com _ (by omega), show bt ((1 : Int32) <<< (nI p &&& 31)) i = decide (i = p) from bt_1s (by omega) i, decide_eq_false (by omega)]
      cases hb : bt s i
      · rfl
      · rw [hL i hb (by omega)]; rfl
    rw [f_X3_canAll_25, if_neg (by simp (disch := omega) only [pb_lits, pb_ltT, pb_ltF, pb_leT, pb_leF, pb_eqT, pb_eqF, pb_lt, pb_le, pb_eq, pb_add, pb_mul, pb_sub, pb_cl, pb_ibt, pb_eqm, pb_meq, pb_ltm, pb_mlt, pb_lem, pb_mle, ite_true, ite_false, reduceIte, not_true_eq_false, not_false_eq_true, pb_bind, Nat.zero_add, Nat.add_zero]), if_pos (pb_ibt (by omega) hp), nI_clamp (by omega), holdsX_s _ (by omega), pb_bind, hbit, two_X, anyF]
    simp only [f_X3_canAll_62]
    rw [nI_1]
    cases ht : (bt s i && lk p i)
    · rw [if_pos (show bI false = 0 from rfl), Bool.false_and, Bool.false_or]
      exact ih'
    · have hsi : bt s i = true := by rw [Bool.and_eq_true] at ht; exact ht.1
      rw [if_neg (show ¬ bI true = 0 by decide), hF i (by omega) (by omega) hsi, pb_bind, Bool.true_and]
      cases G (two s p i)
      · rw [if_pos (show bI false = 0 from rfl), Bool.false_or]
        exact ih'
      · rw [if_neg (show ¬ bI true = 0 by decide), Bool.true_or]; rfl
theorem canAll_l {lk : Nat → Nat → Bool} {L : Nat → Int32} {people : Int32} (hpe : ∀ k, bt people k = true → k < 8) (hL : ∀ p q, bt people p = true → bt people q = true → p < q → bt (L p) q = lk p q) : ∀ D : Nat, ∀ s : Int32, (∀ k, bt s k = true → bt people k = true) → cD (bt s) 8 < D → f_X3_canAll L D s = some (bI (cB lk D s)) := by
  intro D
  induction D with
  | zero => intro s _ h; omega
  | succ D ih =>
    intro s hs hc
    have h8 : ∀ k, bt s k = true → k < 8 := fun k hk => hpe k (hs k hk)
    rw [f_X3_canAll, cB]
    rcases leastOf_s s with ⟨p, a, b, c, e⟩ | ⟨a, e⟩
    · have h0 : ¬ s = 0 := fun q => by rw [q, bt_0] at b; cases b
      rw [e, pb_bind, if_neg (show ¬ nI p = -1 from fun q => by have := pb_eqm (a := p) (b := 1) (by decide) (by omega) (by decide); exact (this ▸ q : False)), if_neg h0, lst_eq a b c, nI_1]
      exact can25 a (fun q hq hpq => hL p q (hs p b) (hs q hq) hpq) (fun q hq hpq hb => ih (two s p q) (fun k hk => by
        rw [bt_two' a hq, Bool.and_eq_true] at hk
        exact hs k hk.1) (by
        have := two_cnt a hq (by omega) b hb
        omega)) (7 - p) rf_fu (p + 1) (by omega) (by omega) (by show _ < 4096; omega)
    · have h0 : s = 0 := pb_eq0.mpr (fun k hk => by
        by_cases h : k < 8
        · exact a k h
        · cases hb : bt s k
          · rfl
          · exact absurd (h8 k hb) h)
      rw [e, pb_bind, if_pos rfl, if_pos h0]; rfl
theorem pai26 {lk : Nat → Nat → Bool} {P : Nat} (hP : P ≤ 8) {r can : Nat → Int32} (hr : r 3 = nI P) {F : Int32 → Option Int32} {s : Int32} {p : Nat} (hp : p < P) (hL : ∀ q, bt s q = true → p < q → bt (can p) q = lk p q) {G : Int32 → Bool} (hF : ∀ q, q < 8 → p < q → bt s q = true → F (two s p q) = some (bI (G (two s p q)))) : ∀ d n i : Nat, i + d = P → p + 1 ≤ i → d < n →
    f_X11_isPaired_26 F r can n s (nI p) (nI i) = some (bI (anyF (fun q => bt s q && lk p q && G (two s p q)) d i)) := by
  intro d
  induction d with
  | zero =>
    intro n i hi hpi hn
    obtain ⟨n', rfl, hn'⟩ := fuel_succ hn
    rw [f_X11_isPaired_26, show Int32.toNatClampNeg 3 = 3 from rfl, hr, if_pos (nI_le (by omega) (by omega))]; rfl
  | succ d ih =>
    intro n i hi hpi hn
    obtain ⟨n', rfl, hn'⟩ := fuel_succ hn
    have ih' := ih n' (i + 1) (by omega) (by omega) (by omega)
    have hbit : bt (s &&& can p) i = (bt s i && lk p i) := by
      rw [bt_and]
      cases hb : bt s i
      · rfl
      · rw [hL i hb (by omega)]
    rw [f_X11_isPaired_26, show Int32.toNatClampNeg 3 = 3 from rfl, hr, if_neg (nI_ge (by omega) (by omega)), if_pos (pb_ibt (by omega) (by omega)), nI_clamp (by omega), hasBitM_s _ (by omega), pb_bind, hbit, anyF]
    simp only [f_X11_isPaired_71]
    rw [nI_1]
    cases ht : (bt s i && lk p i)
    · rw [if_pos (show bI false = 0 from rfl), Bool.false_and, Bool.false_or]
      exact ih'
    · have hsi : bt s i = true := by rw [Bool.and_eq_true] at ht; exact ht.1
      have hf := hF i (by omega) (by omega) hsi
      unfold two at hf
      rw [if_neg (show ¬ bI true = 0 by decide), hf, pb_bind, Bool.true_and]
      show _ = some (bI (G (two s p i) || _))
      unfold two
      cases G (s &&& ((((1 : Int32) <<< (nI p &&& 31)) ||| ((1 : Int32) <<< (nI i &&& 31))) ^^^ (-1)))
      · rw [if_pos (show bI false = 0 from rfl), Bool.false_or]
        exact ih'
      · rw [if_neg (show ¬ bI true = 0 by decide), Bool.true_or]; rfl
theorem pai8 {r can : Nat → Int32} {F : Int32 → Option Int32} {s : Int32} {p : Nat} (hp : p < 8) (h1 : bt s p = true) (h2 : ∀ k, k < p → bt s k = false) : ∀ d n i : Nat, i + d = p → d < n → f_X11_isPaired_8 F r can n s (nI i) = f_X11_isPaired_26 F r can rf_fu s (nI p) (nI (p + 1)) := by
  intro d
  induction d with
  | zero =>
    intro n i hi hn
    obtain ⟨n', rfl, hn'⟩ := fuel_succ hn
    obtain rfl : i = p := by omega
    rw [f_X11_isPaired_8, hasBitM_s _ (by omega), pb_bind, h1, if_neg (show ¬ bI true = 0 by decide), nI_1]
  | succ d ih =>
    intro n i hi hn
    obtain ⟨n', rfl, hn'⟩ := fuel_succ hn
    rw [f_X11_isPaired_8, hasBitM_s _ (by omega), pb_bind, h2 i (by omega), if_pos (show bI false = 0 from rfl), nI_1]
    exact ih n' (i + 1) (by omega) (by omega)
theorem anyF_pad {p : Nat → Bool} {d e i : Nat} (h : ∀ k, i + d ≤ k → k < i + e → p k = false) (hde : d ≤ e) : anyF p e i = anyF p d i := by
  apply Bool.eq_iff_iff.mpr
  rw [anyF_iff, anyF_iff]
  constructor
  · rintro ⟨k, a, b, c⟩
    refine ⟨k, a, ?_, c⟩
    apply Nat.lt_of_not_le
    intro hk
    rw [h k hk b] at c; cases c
  · rintro ⟨k, a, b, c⟩
    exact ⟨k, a, by omega, c⟩
theorem isPaired_l {lk : Nat → Nat → Bool} {P : Nat} (hP : P ≤ 8) {r can : Nat → Int32} (hr : r 3 = nI P) {people : Int32} (hpe : ∀ k, bt people k = true → k < P) (hL : ∀ p q, bt people p = true → bt people q = true → p < q → bt (can p) q = lk p q) : ∀ D : Nat, ∀ s : Int32, (∀ k, bt s k = true → bt people k = true) → cD (bt s) 8 < D → f_X11_isPaired r can D s = some (bI (cB lk D s)) := by
  intro D
  induction D with
  | zero => intro s _ h; omega
  | succ D ih =>
    intro s hs hc
    have h8 : ∀ k, bt s k = true → k < 8 := fun k hk => by have := hpe k (hs k hk); omega
    rw [f_X11_isPaired, cB]
    by_cases h0 : s = 0
    · rw [if_pos h0, if_pos h0]; rfl
    · obtain ⟨p, a, b, c⟩ := bit_ex h8 h0
      have hpP := hpe p (hs p b)
      rw [if_neg h0, if_neg h0, lst_eq a b c, show (0 : Int32) = nI 0 from rfl, pai8 a b c p rf_fu 0 (by omega) (by show p < 4096; omega)]
      rw [pai26 hP hr hpP (fun q hq hpq => hL p q (hs p b) (hs q hq) hpq) (G := cB lk D) (fun q hq hpq hb => ih (two s p q) (fun k hk => by
        rw [bt_two' a hq, Bool.and_eq_true] at hk
        exact hs k hk.1) (by
        have := two_cnt a hq (by omega) b hb
        omega)) (P - (p + 1)) rf_fu (p + 1) (by omega) (by omega) (by show _ < 4096; omega)]
      congr 2
      refine (anyF_pad (fun k h1 h2 => ?_) (by omega)).symm
      cases hb : bt s k
      · rfl
      · have := hpe k (hs k hb); omega
theorem cB_even {lk : Nat → Nat → Bool} : ∀ D : Nat, ∀ s : Int32, (∀ k, bt s k = true → k < 8) → cB lk D s = true → cD (bt s) 8 % 2 = 0 := by
  intro D
  induction D with
  | zero => intro s _ h; cases h
  | succ D ih =>
    intro s h8 h
    rw [cB] at h
    by_cases h0 : s = 0
    · rw [h0, cD_congr 8 (t := fun _ => false) (fun k _ => bt_0 k)]; decide
    · rw [if_neg h0, anyF_iff] at h
      obtain ⟨p, a, b, c⟩ := bit_ex h8 h0
      rw [lst_eq a b c] at h
      obtain ⟨q, q1, q2, q3⟩ := h
      rw [Bool.and_eq_true, Bool.and_eq_true] at q3
      have := two_cnt a (by omega : q < 8) (by omega) b q3.1.1
      have := ih (two s p q) (fun k hk => by
        rw [bt_two' a (by omega), Bool.and_eq_true] at hk
        exact h8 k hk.1) q3.2
      omega
