/-! the least coins -/
def sufM (t : Nat → Bool) (v : Nat → Nat) : Nat → Nat → Nat
  | 0, _ => 1000000
  | d + 1, i => if t i = true then min (v i) (sufM t v d (i + 1)) else sufM t v d (i + 1)
def lcS (c : Nat → Nat → Nat) : Nat → Int32 → Nat
  | 0, _ => 1000000
  | d + 1, s => if s = 0 then 0 else sufM (bt s) (fun q => c (lst s) q + lcS c d (two s (lst s) q)) (7 - lst s) (lst s + 1)
theorem sufM_le {t : Nat → Bool} {v : Nat → Nat} : ∀ d i, sufM t v d i ≤ 1000000 := by
  intro d
  induction d with
  | zero => intro i; exact Nat.le_refl _
  | succ d ih =>
    intro i
    have := ih (i + 1)
    rw [sufM]
    split <;> omega
theorem lcS_le {c : Nat → Nat → Nat} : ∀ d s, lcS c d s ≤ 1000000 := by
  intro d s
  cases d with
  | zero => exact Nat.le_refl _
  | succ d =>
    rw [lcS]
    split
    · omega
    · exact sufM_le _ _
theorem sufM_congr {t : Nat → Bool} {v v' : Nat → Nat} : ∀ d i, (∀ k, i ≤ k → k < i + d → t k = true → v k = v' k) → sufM t v d i = sufM t v' d i := by
  intro d
  induction d with
  | zero => intro i _; rfl
  | succ d ih =>
    intro i h
    rw [sufM, sufM, ih (i + 1) (fun k a b => h k (by omega) (by omega))]
    by_cases ht : t i = true
    · rw [if_pos ht, if_pos ht, h i (by omega) (by omega) ht]
    · rw [if_neg ht, if_neg ht]
theorem sufM_pad {t : Nat → Bool} {v : Nat → Nat} {e : Nat} : ∀ d i, (∀ k, i + d ≤ k → t k = false) → sufM t v (d + e) i = sufM t v d i := by
  intro d
  induction d with
  | zero =>
    intro i h
    rw [Nat.zero_add]
    induction e generalizing i with
    | zero => rfl
    | succ e ih =>
      have h1 : sufM t v (e + 1) i = sufM t v e (i + 1) := if_neg (by rw [h i (by omega)]; decide)
      exact h1.trans (ih (i + 1) (fun k hk => h k (by omega)))
  | succ d ih =>
    intro i h
    rw [show d + 1 + e = d + e + 1 by omega, sufM, sufM, ih (i + 1) (fun k hk => h k (by omega))]
/-- how deep doesn't matter -/
theorem lcS_deep {c : Nat → Nat → Nat} : ∀ D s, (∀ k, bt s k = true → k < 8) → cD (bt s) 8 < D → ∀ e, lcS c (D + e) s = lcS c D s := by
  intro D
  induction D with
  | zero => intro s _ h; omega
  | succ D ih =>
    intro s h8 hc e
    rw [show D + 1 + e = D + e + 1 by omega, lcS, lcS]
    by_cases h0 : s = 0
    · rw [if_pos h0, if_pos h0]
    · rw [if_neg h0, if_neg h0]
      obtain ⟨p, a, b, c'⟩ := bit_ex h8 h0
      rw [lst_eq a b c']
      refine sufM_congr _ _ (fun k hk1 hk2 ht => ?_)
      have hk8 : k < 8 := h8 k ht
      have := two_cnt a hk8 (by omega) b ht
      rw [ih (two s p k) (fun j hj => by
        rw [bt_two' a hk8, Bool.and_eq_true] at hj
        exact h8 j hj.1) (by omega) e]
theorem two_sub {s : Int32} {p q : Nat} (hp : p < 8) (hq : q < 8) {k : Nat} (h : bt (two s p q) k = true) : bt s k = true := by
  rw [bt_two' hp hq, Bool.and_eq_true] at h
  exact h.1
/-- a part's number, and that of less -/
theorem two_num {i p q : Nat} (hi : i < 256) (hp : p < 8) (hq : q < 8) (hpq : p ≠ q) (h1 : bt (nI i) p = true) (h2 : bt (nI i) q = true) : ∃ i', i' < i ∧ two (nI i) p q = nI i' := by
  have h8 : ∀ k, bt (nI i) k = true → k < 8 := by
    intro k hk
    rw [bt_nI (by omega)] at hk
    apply Classical.byContradiction
    intro hn
    rw [Nat.testBit_lt_two_pow (Nat.lt_of_lt_of_le hi (Nat.pow_le_pow_right (n := 2) (i := 8) (by decide) (by omega)))] at hk
    cases hk
  have h8' : ∀ k, bt (two (nI i) p q) k = true → k < 8 := fun k hk => h8 k (two_sub hp hq hk)
  refine ⟨numF (bt (two (nI i) p q)) 8, ?_, set8 h8'⟩
  have e1 : numF (bt (nI i)) 8 = i := by
    rw [numF_congr (T := i.testBit) 8 (fun k _ => bt_nI (by omega) k)]
    exact num_bits hi
  have e2 : numF (bt (two (nI i) p q)) 8 = numF (rmB (rmB (bt (nI i)) p) q) 8 := numF_congr 8 (fun k _ => by
    rw [bt_two' hp hq]
    unfold rmB
    cases bt (nI i) k <;> cases decide (k = p) <;> cases decide (k = q) <;> rfl)
  have n1 := numF_rm h1 8 hp
  have n2 := numF_rm (S := rmB (bt (nI i)) p) (p := q) (by unfold rmB; rw [h2, decide_eq_false (by omega)]; rfl) 8 hq
  have p1 : 0 < 2 ^ p := Nat.two_pow_pos p
  have p2 : 0 < 2 ^ q := Nat.two_pow_pos q
  omega
theorem bits8 {i : Nat} (hi : i < 256) : ∀ k, bt (nI i) k = true → k < 8 := by
  intro k hk
  rw [bt_nI (by omega)] at hk
  apply Classical.byContradiction
  intro hn
  rw [Nat.testBit_lt_two_pow (Nat.lt_of_lt_of_le hi (Nat.pow_le_pow_right (n := 2) (i := 8) (by decide) (by omega)))] at hk
  cases hk
theorem num8 {s : Int32} (h : ∀ k, bt s k = true → k < 8) : ∃ i, i < 256 ∧ s = nI i := ⟨_, numF_256 (bt s), set8 h⟩
/-! the reference's trying -/
theorem tryC40 {P : Nat} (hP : P ≤ 8) {r costs : Nat → Int32} (hr : r 3 = nI P) {F : Int32 → Int32 → Int32 → Option Int32} {s : Int32} {p : Nat} (hp : p < P) {co : Nat} (hco : co ≤ 1000000) {c : Nat → Nat} (hc : ∀ q, p < q → q < P → bt s q = true → costs (8 * p + q) = nI (c q) ∧ c q ≤ 1000000) {G : Nat → Nat} (hG : ∀ q, G q ≤ 1000000) (hF : ∀ q m, p < q → q < P → bt s q = true → m ≤ 1000000 → F (nI m) (two s p q) (nI (co + c q)) = some (nI (min m (co + c q + G q)))) : ∀ d n i m : Nat, i + d = P → p + 1 ≤ i → d < n → m ≤ 1000000 →
    f_X11_tryCoins_40 F r costs n s (nI co) (nI p) (nI i) (nI m) = some (nI (min m (co + sufM (bt s) (fun q => c q + G q) d i))) := by
  intro d
  induction d with
  | zero =>
    intro n i m hi hpi hn hm
    obtain ⟨n', rfl, hn'⟩ := fuel_succ hn
    rw [f_X11_tryCoins_40, show Int32.toNatClampNeg 3 = 3 from rfl, hr, if_pos (nI_le (by omega) (by omega)), sufM, show min m (co + 1000000) = m by omega]
  | succ d ih =>
    intro n i m hi hpi hn hm
    obtain ⟨n', rfl, hn'⟩ := fuel_succ hn
    rw [f_X11_tryCoins_40, show Int32.toNatClampNeg 3 = 3 from rfl, hr, if_neg (nI_ge (by omega) (by omega)), hasBitM_s _ (by omega), pb_bind, sufM]
    simp only [f_X11_tryCoins_90]
    rw [nI_1]
    cases hb : bt s i
    · rw [if_pos (show bI false = 0 from rfl), if_neg (by decide)]
      exact ih n' (i + 1) m (by omega) (by omega) (by omega) hm
    · obtain ⟨c1, c2⟩ := hc i (by omega) (by omega) hb
      have e8 : (8 : Int32) * nI p + nI i = nI (8 * p + i) := by
        rw [show (8 : Int32) = nI 8 from rfl, pb_mul, pb_add]
      rw [if_neg (show ¬ bI true = 0 by decide), if_pos rfl, e8, if_pos (pb_ibt (by omega) (by omega)), nI_clamp (by omega), c1, nI_add]
      have := hF i m (by omega) (by omega) hb hm
      unfold two at this
      rw [this, pb_bind, ih n' (i + 1) _ (by omega) (by omega) (by omega) (by omega)]
      congr 2
      omega
theorem tryC21 {F : Int32 → Int32 → Int32 → Option Int32} {r costs : Nat → Int32} {s v2 m : Int32} {p : Nat} (hp : p < 8) (hb : bt s p = true) (hl : ∀ k, k < p → bt s k = false) : ∀ d n i : Nat, i + d = p → d < n →
    f_X11_tryCoins_21 F r costs n s v2 (nI i) m = f_X11_tryCoins_40 F r costs rf_fu s v2 (nI p) (nI (p + 1)) m := by
  intro d
  induction d with
  | zero =>
    intro n i hi hn
    obtain ⟨n', rfl, hn'⟩ := fuel_succ hn
    obtain rfl : i = p := by omega
    rw [f_X11_tryCoins_21, hasBitM_s _ (by omega), pb_bind, hb, if_neg (show ¬ bI true = 0 by decide), nI_1]
  | succ d ih =>
    intro n i hi hn
    obtain ⟨n', rfl, hn'⟩ := fuel_succ hn
    rw [f_X11_tryCoins_21, hasBitM_s _ (by omega), pb_bind, hl i (by omega), if_pos (show bI false = 0 from rfl), nI_1]
    exact ih n' (i + 1) (by omega) (by omega)
theorem tryC_s {P : Nat} (hP : P ≤ 8) {r costs : Nat → Int32} (hr : r 3 = nI P) {people : Int32} (hpe : ∀ k, bt people k = true → k < P) {c : Nat → Nat → Nat} (hc : ∀ p q, p < q → bt people p = true → bt people q = true → costs (8 * p + q) = nI (c p q) ∧ c p q ≤ 1000000) : ∀ D : Nat, ∀ s : Int32, ∀ m co : Nat, (∀ k, bt s k = true → bt people k = true) → cD (bt s) 8 < D → m ≤ 1000000 → co ≤ 2000000 →
    f_X11_tryCoins r costs D (nI m) s (nI co) = some (nI (min m (co + lcS c D s))) := by
  intro D
  induction D with
  | zero => intro s m co _ h; omega
  | succ D ih =>
    intro s m co hs hcd hm hco
    have h8 : ∀ k, bt s k = true → k < 8 := fun k hk => by have := hpe k (hs k hk); omega
    rw [f_X11_tryCoins, lcS]
    by_cases hlt : co < m
    · rw [if_pos (nI_lt hlt (by omega))]
      by_cases h0 : s = 0
      · rw [if_pos h0, if_pos h0, show min m (co + 0) = co by omega]
      · rw [if_neg h0, if_neg h0]
        obtain ⟨p, a, b, c'⟩ := bit_ex h8 h0
        have hpP := hpe p (hs p b)
        rw [lst_eq a b c', show (0 : Int32) = nI 0 from rfl, tryC21 a b c' p rf_fu 0 (by omega) (by show p < 4096; omega)]
        have := tryC40 hP hr (F := f_X11_tryCoins r costs D) (costs := costs) (s := s) hpP (co := co) (by omega) (c := c p) (fun q h1 h2 h3 => hc p q h1 (hs p b) (hs q h3)) (G := fun q => lcS c D (two s p q)) (fun q => lcS_le _ _) (fun q m' h1 h2 h3 h4 => by
          have hq8 : q < 8 := by omega
          have t1 := two_cnt a hq8 (by omega) b h3
          have := (hc p q h1 (hs p b) (hs q h3)).2
          exact ih (two s p q) m' (co + c p q) (fun k hk => hs k (two_sub a hq8 hk)) (by omega) h4 (by omega)) (P - (p + 1)) rf_fu (p + 1) m (by omega) (by omega) (by show _ < 4096; omega) hm
        rw [this]
        have hpad := sufM_pad (t := bt s) (v := fun q => c p q + lcS c D (two s p q)) (e := 8 - P) (P - (p + 1)) (p + 1) (fun k hk => by
          cases hb : bt s k
          · rfl
          · have := hpe k (hs k hb); omega)
        rw [show P - (p + 1) + (8 - P) = 7 - p by omega] at hpad
        rw [hpad]
    · rw [if_neg (nI_nlt (by omega) (by omega)), show min m (co + (if s = 0 then 0 else sufM (bt s) (fun q => c (lst s) q + lcS c D (two s (lst s) q)) (7 - lst s) (lst s + 1))) = m by
        generalize (if s = 0 then 0 else sufM (bt s) (fun q => c (lst s) q + lcS c D (two s (lst s) q)) (7 - lst s) (lst s + 1)) = x
        omega]
/-! the class's parts -/
theorem lcIn14 {best coins : Nat → Int32} {s : Int32} {p : Nat} (hp : p < 8) {c : Nat → Nat} (hc : ∀ q, p < q → q < 8 → bt s q = true → coins (p * 8 + q) = (if c q = 1000000 then -1 else nI (c q)) ∧ c q ≤ 1000000) {G : Nat → Nat} (hG : ∀ q, p < q → q < 8 → bt s q = true → G q ≤ 1000000 ∧ rf_ib (two s p q) 256 = true ∧ best (two s p q).toNatClampNeg = nI (G q)) : ∀ d n i a : Nat, i + d = 8 → p + 1 ≤ i → d < n → a ≤ 1000000 →
    f_X3_leastCoinsIn_14 best coins n s (nI p) (nI a) (nI i) = some (nI (min a (sufM (bt s) (fun q => c q + G q) d i))) := by
  have hne : ¬ nI p = -1 := fun q => by have := pb_eqm (a := p) (b := 1) (by decide) (by omega) (by decide); exact (this ▸ q : False)
  intro d
  induction d with
  | zero =>
    intro n i a hi hpi hn ha
    obtain ⟨n', rfl, hn'⟩ := fuel_succ hn
    obtain rfl : i = 8 := by omega
    rw [f_X3_leastCoinsIn_14, if_neg hne, if_pos (by decide), f_X3_leastCoinsIn_86, sufM, show min a 1000000 = a by omega]
  | succ d ih =>
    intro n i a hi hpi hn ha
    obtain ⟨n', rfl, hn'⟩ := fuel_succ hn
    have e8 : nI p * 8 + nI i = nI (p * 8 + i) := by
      rw [show (8 : Int32) = nI 8 from rfl, pb_mul, pb_add]
    rw [f_X3_leastCoinsIn_14, if_neg hne, if_neg (by simp (disch := omega) only [pb_lits, pb_ltT, pb_ltF, pb_leT, pb_leF, pb_eqT, pb_eqF, pb_lt, pb_le, pb_eq, pb_add, pb_mul, pb_sub, pb_cl, pb_ibt, pb_eqm, pb_meq, pb_ltm, pb_mlt, pb_lem, pb_mle, ite_true, ite_false, reduceIte, not_true_eq_false, not_false_eq_true, pb_bind, Nat.zero_add, Nat.add_zero]), e8, if_pos (pb_ibt (by omega) (by omega)), holdsX_s _ (by omega), pb_bind, sufM, two_X, nI_clamp (by omega)]
    simp only [f_X3_leastCoinsIn_80]
    rw [nI_1]
    cases hb : bt s i
    · rw [if_pos (show bI false = 0 from rfl), if_neg (by decide)]
      exact ih n' (i + 1) a (by omega) (by omega) (by omega) ha
    · obtain ⟨c1, c2⟩ := hc i (by omega) (by omega) hb
      obtain ⟨g1, g2, g3⟩ := hG i (by omega) (by omega) hb
      rw [if_neg (show ¬ bI true = 0 by decide), if_pos rfl, c1]
      by_cases hm : c i = 1000000
      · rw [if_pos hm, if_pos (by decide), ih n' (i + 1) a (by omega) (by omega) (by omega) ha, hm]
        congr 2
        omega
      · rw [if_neg hm, if_neg (show ¬ nI (c i) < 0 from nI_nlt (b := 0) (by omega) (by omega)), if_pos g2, g3, nI_add]
        by_cases hx : c i + G i < a
        · rw [if_pos (nI_lt hx (by omega)), ih n' (i + 1) (c i + G i) (by omega) (by omega) (by omega) (by omega)]
          congr 2
          omega
        · rw [if_neg (nI_nlt (by omega) (by omega)), ih n' (i + 1) a (by omega) (by omega) (by omega) ha]
          congr 2
          omega
theorem lcIn_s {best coins : Nat → Int32} {people : Int32} {c : Nat → Nat → Nat} (hc : ∀ p q, p < q → bt people p = true → bt people q = true → coins (p * 8 + q) = (if c p q = 1000000 then -1 else nI (c p q)) ∧ c p q ≤ 1000000) {i : Nat} (hi : i < 256) (hi0 : 0 < i) (hs : ∀ k, bt (nI i) k = true → bt people k = true) (hb : ∀ i', i' < i → (∀ k, bt (nI i') k = true → bt people k = true) → best i' = nI (lcS c 9 (nI i'))) : f_X3_leastCoinsIn best coins (nI i) = some (nI (lcS c 9 (nI i))) := by
  have h8 := bits8 hi
  have h0 : ¬ nI i = 0 := fun q => by have := (nI_eq (a := i) (b := 0) (by omega) (by decide)).mp q; omega
  unfold f_X3_leastCoinsIn
  rw [lcS, if_neg h0]
  rcases leastOf_s (nI i) with ⟨p, a, b, c', e⟩ | ⟨a, _⟩
  · rw [e, pb_bind, lst_eq a b c', nI_1, show (1000000 : Int32) = nI 1000000 from rfl]
    rw [lcIn14 a (c := c p) (G := fun q => lcS c 8 (two (nI i) p q)) (fun q h1 h2 h3 => hc p q h1 (hs p b) (hs q h3)) (fun q h1 h2 h3 => by
      obtain ⟨i', x1, x2⟩ := two_num hi a h2 (by omega) b h3
      have y1 := two_cnt a h2 (by omega) b h3
      have y2 := cD_le (bt (nI i)) 8
      have y3 := lcS_deep (c := c) 8 (two (nI i) p q) (fun j hj => h8 j (two_sub a h2 hj)) (by omega) 1
      have y4 := hb i' x1 (fun k hk => hs k (by rw [← x2] at hk; exact two_sub a h2 hk))
      refine ⟨lcS_le _ _, ?_, ?_⟩
      · rw [x2]; exact pb_ibt (by omega) (by omega)
      · show best (two (nI i) p q).toNatClampNeg = nI (lcS c 8 (two (nI i) p q))
        rw [← y3, x2, nI_clamp (by omega), y4]) (7 - p) rf_fu (p + 1) 1000000 (by omega) (by omega) (by show _ < 4096; omega) (by omega)]
    congr 2
    have := sufM_le (t := bt (nI i)) (v := fun q => c p q + lcS c 8 (two (nI i) p q)) (7 - p) (p + 1)
    omega
  · exact absurd (pb_eq0.mpr (fun k hk => by
      by_cases hk8 : k < 8
      · exact a k hk8
      · cases hb : bt (nI i) k
        · rfl
        · exact absurd (h8 k hb) hk8)) h0
theorem subT {s t : Int32} : (s &&& (t ^^^ (-1)) = 0) ↔ ∀ k, bt s k = true → bt t k = true := by
  rw [pb_eq0]
  constructor
  · intro h k hk
    by_cases h32 : k < 32
    · have := h k h32
      rw [bt_and, bt_com _ h32, hk] at this
      cases hT : bt t k
      · rw [hT] at this; cases this
      · rfl
    · rw [bt_ge (by omega)] at hk; cases hk
  · intro h k hk
    rw [bt_and, bt_com _ hk]
    cases hb : bt s k
    · rfl
    · rw [h k hb]; rfl
theorem and255 {N : Nat} (hN : N < 256) : nI N &&& 255 = nI N := by
  apply bt_ext
  intro k hk
  rw [bt_and, show (255 : Int32) = nI 255 from rfl, bt_nI (by omega), bt_nI (by decide), show (255 : Nat) = 2 ^ 8 - 1 from rfl, Nat.testBit_two_pow_sub_one]
  by_cases h8 : k < 8
  · rw [decide_eq_true h8, Bool.and_true]
  · rw [decide_eq_false h8, Bool.and_false, Nat.testBit_lt_two_pow (Nat.lt_of_lt_of_le hN (Nat.pow_le_pow_right (n := 2) (i := 8) (by decide) (by omega)))]
theorem lcX9 {coins : Nat → Int32} {N : Nat} (hN : N < 256) {c : Nat → Nat → Nat} (hc : ∀ p q, p < q → bt (nI N) p = true → bt (nI N) q = true → coins (p * 8 + q) = (if c p q = 1000000 then -1 else nI (c p q)) ∧ c p q ≤ 1000000) : ∀ d n i : Nat, ∀ best : Nat → Int32, i + d = N + 1 → 1 ≤ i → d < n → (∀ i', i' < i → (∀ k, bt (nI i') k = true → bt (nI N) k = true) → best i' = nI (lcS c 9 (nI i'))) →
    ∃ best', f_X3_leastCoins_9 coins n (nI N) (nI i) best = some (if lcS c 9 (nI N) = 1000000 then -2 else nI (lcS c 9 (nI N)), best') := by
  intro d
  induction d with
  | zero =>
    intro n i best hi h1 hn hb
    obtain ⟨n', rfl, hn'⟩ := fuel_succ hn
    refine ⟨best, ?_⟩
    have hle := lcS_le (c := c) 9 (nI N)
    rw [f_X3_leastCoins_9, if_pos (nI_lt (by omega) (by omega)), f_X3_leastCoins_47, and255 hN, if_pos (pb_ibt (by omega) hN), nI_clamp (by omega), hb N (by omega) (fun _ h => h), show (1000000 : Int32) = nI 1000000 from rfl]
    by_cases hm : lcS c 9 (nI N) = 1000000
    · rw [if_pos hm, if_pos (nI_le (by omega) (by omega))]
    · rw [if_neg hm, if_neg (nI_ge (by omega) (by omega))]
  | succ d ih =>
    intro n i best hi h1 hn hb
    obtain ⟨n', rfl, hn'⟩ := fuel_succ hn
    rw [f_X3_leastCoins_9, if_neg (nI_nlt (by omega) (by omega)), if_neg (by simp (disch := omega) only [pb_lits, pb_ltT, pb_ltF, pb_leT, pb_leF, pb_eqT, pb_eqF, pb_lt, pb_le, pb_eq, pb_add, pb_mul, pb_sub, pb_cl, pb_ibt, pb_eqm, pb_meq, pb_ltm, pb_mlt, pb_lem, pb_mle, ite_true, ite_false, reduceIte, not_true_eq_false, not_false_eq_true, pb_bind, Nat.zero_add, Nat.add_zero])]
    simp only [f_X3_leastCoins_41]
    rw [nI_1]
    by_cases hsub : nI i &&& (nI N ^^^ (-1)) = 0
    · have hs := subT.mp hsub
      rw [if_pos hsub, lcIn_s hc (by omega) (by omega) hs hb, pb_bind, if_pos (pb_ibt (by omega) (by omega)), nI_clamp (by omega)]
      refine ih n' (i + 1) _ (by omega) (by omega) (by omega) (fun i' hi' hs' => ?_)
      by_cases e : i' = i
      · subst e; rw [upd_same]
      · rw [upd_ne _ _ e]; exact hb i' (by omega) hs'
    · rw [if_neg hsub]
      refine ih n' (i + 1) _ (by omega) (by omega) (by omega) (fun i' hi' hs' => ?_)
      by_cases e : i' = i
      · subst e; exact absurd (subT.mpr hs') hsub
      · exact hb i' (by omega) hs'
theorem lcX_s {coins : Nat → Int32} {people : Int32} (hpe : ∀ k, bt people k = true → k < 8) {c : Nat → Nat → Nat} (hc : ∀ p q, p < q → bt people p = true → bt people q = true → coins (p * 8 + q) = (if c p q = 1000000 then -1 else nI (c p q)) ∧ c p q ≤ 1000000) (best : Nat → Int32) :
    ∃ best', f_X3_leastCoins coins best people = some (if lcS c 9 people = 1000000 then -2 else nI (lcS c 9 people), best') := by
  obtain ⟨N, hN, rfl⟩ := num8 hpe
  unfold f_X3_leastCoins
  rw [show (1 : Int32) = nI 1 from rfl]
  refine lcX9 hN hc N rf_fu 1 _ (by omega) (by omega) (by show N < 4096; omega) (fun i' hi' _ => ?_)
  obtain rfl : i' = 0 := by omega
  rw [show Int32.toNatClampNeg 0 = 0 from rfl, upd_same, lcS, if_pos (show nI 0 = 0 from rfl)]; rfl
/-! the rows of costs -/
theorem fillX31 {W P : Nat} (hP : P ≤ 8) {words prices kinds close best : Nat → Int32} {who ear : Int32} {p : Nat} (hp : p < P) {cx : Nat → Int32} (hcx : ∀ q, p < q → q < P → f_X4_coinsFor (nI W) words prices kinds close (nI p) (nI q) ear = some (cx q)) (K : Int32 → Int32 → Int32 → Int32 → (Nat → Int32) → (Nat → Int32) → Option (Int32 × (Nat → Int32) × (Nat → Int32))) : ∀ d n i : Nat, ∀ coins : Nat → Int32, i + d = P → p + 1 ≤ i → d < n →
    ∃ coins', f_X4_leastCoins_26 K (nI W) (nI P) words prices kinds close n who ear (nI P) (nI p) (nI i) best coins = K who ear (nI P) (nI (p + 1)) best coins' ∧ (∀ q, i ≤ q → q < P → bt who p = true → bt who q = true → coins' (p * 8 + q) = cx q) ∧ ∀ k, k < p * 8 + i → coins' k = coins k := by
  intro d
  induction d with
  | zero =>
    intro n i coins hi hpi hn
    obtain ⟨n', rfl, hn'⟩ := fuel_succ hn
    refine ⟨coins, ?_, fun q h1 h2 => by omega, fun _ _ => rfl⟩
    rw [f_X4_leastCoins_26, if_pos (nI_le (by omega) (by omega)), nI_1]
  | succ d ih =>
    intro n i coins hi hpi hn
    obtain ⟨n', rfl, hn'⟩ := fuel_succ hn
    have e8 : nI p * 8 + nI i = nI (p * 8 + i) := by
      rw [show (8 : Int32) = nI 8 from rfl, pb_mul, pb_add]
    have key : ∀ x, (bt who p = true → bt who i = true → x = cx i) → ∃ coins', f_X4_leastCoins_87 K (f_X4_leastCoins_26 K (nI W) (nI P) words prices kinds close n') (nI W) (nI P) words prices kinds close who ear (nI P) (nI p) (nI i) (nI p * 8 + nI i) x best coins = K who ear (nI P) (nI (p + 1)) best coins' ∧ (∀ q, i ≤ q → q < P → bt who p = true → bt who q = true → coins' (p * 8 + q) = cx q) ∧ ∀ k, k < p * 8 + i → coins' k = coins k := by
      intro x hx
      obtain ⟨coins', a1, a2, a3⟩ := ih n' (i + 1) (upd coins (p * 8 + i) x) (by omega) (by omega) (by omega)
      refine ⟨coins', ?_, fun q h1 h2 h3 h4 => ?_, fun k hk => ?_⟩
      · rw [f_X4_leastCoins_87, e8, if_pos (pb_ibt (by omega) (by omega)), nI_clamp (by omega), nI_1]
        exact a1
      · by_cases e : q = i
        · subst e; rw [a3 _ (by omega), upd_same]; exact hx h3 h4
        · exact a2 q (by omega) h2 h3 h4
      · rw [a3 k (by omega), upd_ne _ _ (by omega)]
    rw [f_X4_leastCoins_26, if_neg (nI_ge (by omega) (by omega)), holdsX_s _ (by omega), pb_bind]
    cases hb : bt who p
    · rw [if_pos (show bI false = 0 from rfl), f_X4_leastCoins_54, f_X4_leastCoins_55, if_pos (show (0 : Int32) = 0 from rfl)]
      have := key (-1) (fun h => by rw [hb] at h; cases h)
      rw [hb] at this
      exact this
    · rw [if_neg (show ¬ bI true = 0 by decide), holdsX_s _ (by omega), pb_bind]
      cases hb2 : bt who i
      · rw [if_pos (show bI false = 0 from rfl), f_X4_leastCoins_54, f_X4_leastCoins_55, if_pos (show (0 : Int32) = 0 from rfl)]
        have := key (-1) (fun _ h => by rw [hb2] at h; cases h)
        rw [hb] at this
        exact this
      · rw [if_neg (show ¬ bI true = 0 by decide), f_X4_leastCoins_55, if_neg (show ¬ (1 : Int32) = 0 by decide), hcx i (by omega) (by omega), pb_bind]
        have := key (cx i) (fun _ _ => rfl)
        rw [hb] at this
        exact this
theorem fillX19 {W P : Nat} (hP : P ≤ 8) {words prices kinds close best : Nat → Int32} {who ear : Int32} {cx : Nat → Nat → Int32} (hcx : ∀ p q, p < q → q < P → f_X4_coinsFor (nI W) words prices kinds close (nI p) (nI q) ear = some (cx p q)) : ∀ d n i : Nat, ∀ coins : Nat → Int32, i + d = P → d < n → (∀ p q, p < i → p < q → q < P → bt who p = true → bt who q = true → coins (p * 8 + q) = cx p q) →
    ∃ coins', f_X4_leastCoins_14 (nI W) (nI P) words prices kinds close n who ear (nI P) (nI i) best coins = (f_X3_leastCoins coins' best who).bind (fun z109 => some (z109.1, z109.2, coins')) ∧ ∀ p q, p < q → q < P → bt who p = true → bt who q = true → coins' (p * 8 + q) = cx p q := by
  intro d
  induction d with
  | zero =>
    intro n i coins hi hn hc
    obtain ⟨n', rfl, hn'⟩ := fuel_succ hn
    refine ⟨coins, ?_, fun p q h1 h2 => hc p q (by omega) h1 h2⟩
    rw [f_X4_leastCoins_14, if_pos (nI_le (by omega) (by omega))]
  | succ d ih =>
    intro n i coins hi hn hc
    obtain ⟨n', rfl, hn'⟩ := fuel_succ hn
    obtain ⟨coins1, a1, a2, a3⟩ := fillX31 (W := W) hP (words := words) (prices := prices) (kinds := kinds) (close := close) (best := best) (who := who) (ear := ear) (p := i) (by omega) (cx := cx i) (fun q h1 h2 => hcx i q h1 h2) (f_X4_leastCoins_14 (nI W) (nI P) words prices kinds close n') (P - (i + 1)) rf_fu (i + 1) coins (by omega) (by omega) (by show _ < 4096; omega)
    obtain ⟨coins2, b1, b2⟩ := ih n' (i + 1) coins1 (by omega) (by omega) (fun p q h1 h2 h3 h4 h5 => by
      by_cases e : p = i
      · subst e; exact a2 q (by omega) h3 h4 h5
      · rw [a3 _ (by omega)]; exact hc p q (by omega) h2 h3 h4 h5)
    refine ⟨coins2, ?_, b2⟩
    rw [f_X4_leastCoins_14, if_neg (nI_ge (by omega) (by omega)), nI_1, a1, b1]
theorem fillM48 {P : Nat} (hP : P ≤ 8) {r st : Nat → Int32} (hr : r 3 = nI P) {v2 who has t tr lc ear : Int32} (hM : f_X11_earAt r v2 = some ear) {p : Nat} (hp : p < P) {cx : Nat → Int32} (hcx : ∀ q, p < q → q < P → f_X11_costOf r st (nI p) (nI q) ear = some (cx q)) (K : Int32 → Int32 → Int32 → Int32 → Int32 → Int32 → (Nat → Int32) → Option (Int32 × Int32 × Int32 × Int32 × (Nat → Int32))) : ∀ d n i : Nat, ∀ coins : Nat → Int32, i + d = P → p + 1 ≤ i → d < n →
    ∃ coins', f_X11_coins_48 K has r st n v2 who (nI p) (nI i) t tr lc coins = K v2 who (nI (p + 1)) t tr lc coins' ∧ (∀ q, i ≤ q → q < P → bt who p = true → bt who q = true → coins' (8 * p + q) = cx q) ∧ ∀ k, k < 8 * p + i → coins' k = coins k := by
  intro d
  induction d with
  | zero =>
    intro n i coins hi hpi hn
    obtain ⟨n', rfl, hn'⟩ := fuel_succ hn
    refine ⟨coins, ?_, fun q h1 h2 => by omega, fun _ _ => rfl⟩
    rw [f_X11_coins_48, show Int32.toNatClampNeg 3 = 3 from rfl, hr, if_pos (nI_le (by omega) (by omega)), nI_1]
  | succ d ih =>
    intro n i coins hi hpi hn
    obtain ⟨n', rfl, hn'⟩ := fuel_succ hn
    have e8 : (8 : Int32) * nI p + nI i = nI (8 * p + i) := by
      rw [show (8 : Int32) = nI 8 from rfl, pb_mul, pb_add]
    have key : ∀ x, (bt who p = true → bt who i = true → x = cx i) → ∃ coins', f_X11_coins_110 K (f_X11_coins_48 K has r st n') has r st v2 who (nI p) (nI i) ((8 : Int32) * nI p + nI i) x t tr lc coins = K v2 who (nI (p + 1)) t tr lc coins' ∧ (∀ q, i ≤ q → q < P → bt who p = true → bt who q = true → coins' (8 * p + q) = cx q) ∧ ∀ k, k < 8 * p + i → coins' k = coins k := by
      intro x hx
      obtain ⟨coins', a1, a2, a3⟩ := ih n' (i + 1) (upd coins (8 * p + i) x) (by omega) (by omega) (by omega)
      refine ⟨coins', ?_, fun q h1 h2 h3 h4 => ?_, fun k hk => ?_⟩
      · rw [f_X11_coins_110, e8, if_pos (pb_ibt (by omega) (by omega)), nI_clamp (by omega), nI_1]
        exact a1
      · by_cases e : q = i
        · subst e; rw [a3 _ (by omega), upd_same]; exact hx h3 h4
        · exact a2 q (by omega) h2 h3 h4
      · rw [a3 k (by omega), upd_ne _ _ (by omega)]
    rw [f_X11_coins_48, show Int32.toNatClampNeg 3 = 3 from rfl, hr, if_neg (nI_ge (by omega) (by omega)), hasBitM_s _ (by omega), pb_bind]
    simp only [f_X11_coins_107]
    cases hb : bt who p
    · rw [if_pos (show bI false = 0 from rfl)]
      have := key 1000000 (fun h => by rw [hb] at h; cases h)
      rw [hb] at this
      exact this
    · rw [if_neg (show ¬ bI true = 0 by decide), hasBitM_s _ (by omega), pb_bind]
      cases hb2 : bt who i
      · rw [if_pos (show bI false = 0 from rfl)]
        have := key 1000000 (fun _ h => by rw [hb2] at h; cases h)
        rw [hb] at this
        exact this
      · rw [if_neg (show ¬ bI true = 0 by decide), hM, pb_bind, hcx i (by omega) (by omega), pb_bind]
        have := key (cx i) (fun _ _ => rfl)
        rw [hb] at this
        exact this
theorem fillM31 {P : Nat} (hP : P ≤ 8) {r st : Nat → Int32} (hr : r 3 = nI P) {v2 who has t tr lc ear : Int32} (hM : f_X11_earAt r v2 = some ear) {cx : Nat → Nat → Int32} (hcx : ∀ p q, p < q → q < P → f_X11_costOf r st (nI p) (nI q) ear = some (cx p q)) : ∀ d n i : Nat, ∀ coins : Nat → Int32, i + d = P → d < n → (∀ p q, p < i → p < q → q < P → bt who p = true → bt who q = true → coins (8 * p + q) = cx p q) →
    ∃ coins', f_X11_coins_31 has r st n v2 who (nI i) t tr lc coins = ((f_X11_tryCoins r coins' 12 1000000 who 0).bind fun z134 => if z134 = 1000000 then some ((-2), t, tr, z134, coins') else some (z134, t, tr, z134, coins')) ∧ ∀ p q, p < q → q < P → bt who p = true → bt who q = true → coins' (8 * p + q) = cx p q := by
  intro d
  induction d with
  | zero =>
    intro n i coins hi hn hc
    obtain ⟨n', rfl, hn'⟩ := fuel_succ hn
    refine ⟨coins, ?_, fun p q h1 h2 => hc p q (by omega) h1 h2⟩
    rw [f_X11_coins_31, show Int32.toNatClampNeg 3 = 3 from rfl, hr, if_pos (nI_le (by omega) (by omega))]
  | succ d ih =>
    intro n i coins hi hn hc
    obtain ⟨n', rfl, hn'⟩ := fuel_succ hn
    obtain ⟨coins1, a1, a2, a3⟩ := fillM48 hP (r := r) (st := st) hr (v2 := v2) (who := who) (has := has) (t := t) (tr := tr) (lc := lc) hM (p := i) (by omega) (cx := cx i) (fun q h1 h2 => hcx i q h1 h2) (f_X11_coins_31 has r st n') (P - (i + 1)) rf_fu (i + 1) coins (by omega) (by omega) (by show _ < 4096; omega)
    obtain ⟨coins2, b1, b2⟩ := ih n' (i + 1) coins1 (by omega) (by omega) (fun p q h1 h2 h3 h4 h5 => by
      by_cases e : p = i
      · subst e; exact a2 q (by omega) h3 h4 h5
      · rw [a3 _ (by omega)]; exact hc p q (by omega) h2 h3 h4 h5)
    refine ⟨coins2, ?_, b2⟩
    rw [f_X11_coins_31, show Int32.toNatClampNeg 3 = 3 from rfl, hr, if_neg (nI_ge (by omega) (by omega)), nI_1, a1, b1]
def cN (r st : Nat → Int32) (e p q : Nat) : Nat := ((f_X11_costOf r st (nI p) (nI q) (nI e)).getD 0).toNatClampNeg
theorem cN_s {W P : Nat} {r st close words kinds prices : Nat → Int32} (h : pCx W P r st close words kinds) {pr : Nat → Nat} (hpr : ∀ w, w < W → prices w = nI (pr w) ∧ pr w ≤ 99) (hpr' : ∀ w, w < W → r (9 + 8 * w) = nI (pr w) ∧ pr w ≤ 99) {e : Nat} (he1 : 1 ≤ e) (he : e ≤ 7) (hb : ∀ a, a < P → ∀ w, W ≤ w → bt (words a) w = false) {p q : Nat} (hp : p < P) (hq : q < P) :
    f_X11_costOf r st (nI p) (nI q) (nI e) = some (nI (cN r st e p q)) ∧ f_X4_coinsFor (nI W) words prices kinds close (nI p) (nI q) (nI e) = some (if cN r st e p q = 1000000 then -1 else nI (cN r st e p q)) ∧ cN r st e p q ≤ 1000000 := by
  obtain ⟨c, a1, a2⟩ := costOf_s h hpr' he1 he hp hq hb
  obtain ⟨c', b1, b2, b3⟩ := coinsFor_s h hpr he1 he hp hq
  have hcc := lstC_uniq a2 b3
  have e1 : cN r st e p q = c := by
    unfold cN
    rw [a1]
    show (nI c).toNatClampNeg = c
    exact nI_clamp (by omega)
  rw [e1]
  refine ⟨a1, ?_, by omega⟩
  rw [hcc]; exact b1
theorem rf_st24 {j : Nat} : rf_step_24 (rf_Inv j) (rf_Inv (j + 1)) := by
  rintro I J A B I' A' v1 v2 ⟨W, P, G, na, ni, h⟩
  have ht := h.tale
  have hP := ht.P8
  have hW := ht.W10
  unfold f_X10_coins f_X11_coins
  rw [ht.hpc, ht.hwc, isBankX_s (by omega), isHourX_s, bankWhyM_s h.hasb]
  simp only [pb_bind, refused_s, f_X11_good, f_X11_no]
  by_cases hab : (decide (0 < P) && gd 2 v1) = true ∧ gd 24 v2 = true
  · rw [hab.1, hab.2]
    have h1 := hab.1
    rw [Bool.and_eq_true] at h1
    have hPP : 0 < P := of_decide_eq_true h1.1
    obtain ⟨b, hb, rfl⟩ := gd_of (by decide) h1.2
    obtain ⟨k, hk, rfl⟩ := gd_of (by decide) hab.2
    have hE := h.ears hPP
    have e1 := hE.lo k hk
    have e2 := hE.hi k hk
    have hsub := setF_sub (onB (I 7) b) hP
    rw [onBankX_s hP h.every h.now.hfar0 hb, onBankM_s hP h.cx.rP h.now.hbank hb, hE.X k hk]
    simp only [pb_bind]
    have hpr : ∀ w, w < W → A 13 w = nI ((A 13 w).toNatClampNeg) ∧ (A 13 w).toNatClampNeg ≤ 99 := fun w hw => by
      obtain ⟨c, c1, c2⟩ := (ht.words w hw).hprice0
      rw [c2, nI_clamp (by omega)]
      exact ⟨rfl, c1⟩
    have hpr' : ∀ w, w < W → A' 2 (9 + 8 * w) = nI ((A 13 w).toNatClampNeg) ∧ (A 13 w).toNatClampNeg ≤ 99 := fun w hw => by
      rw [← (ht.words w hw).hprice]; exact hpr w hw
    have hcN := fun p q (hp : p < P) (hq : q < P) => cN_s h.cx hpr hpr' e1 (by omega) h.now.hwords0 hp hq
    obtain ⟨cX, x1, x2⟩ := fillX19 (W := W) hP (words := A 1) (prices := A 13) (kinds := A 14) (close := A 22) (best := A 5) (who := setF (onB (I 7) b) P) (ear := nI (earE (I 21) (A 18) k)) (cx := fun p q => if cN (A' 2) (A' 4) (earE (I 21) (A 18) k) p q = 1000000 then -1 else nI (cN (A' 2) (A' 4) (earE (I 21) (A 18) k) p q)) (fun p q h1 h2 => (hcN p q (by omega) h2).2.1) P rf_fu 0 (A 6) (by omega) (by show P < 4096; omega) (fun p q h1 => by omega)
    obtain ⟨cM, y1, y2⟩ := fillM31 hP (r := A' 2) (st := A' 4) h.cx.rP (v2 := nI k) (who := setF (onB (I 7) b) P) (has := I' 12) (t := 0) (tr := 0) (lc := I' 17) (hE.M k hk) (cx := fun p q => nI (cN (A' 2) (A' 4) (earE (I 21) (A 18) k) p q)) (fun p q h1 h2 => (hcN p q (by omega) h2).1) P rf_fu 0 (A' 11) (by omega) (by show P < 4096; omega) (fun p q h1 => by omega)
    obtain ⟨bx, z1⟩ := lcX_s (coins := cX) (people := setF (onB (I 7) b) P) (sub8 hP hsub) (c := cN (A' 2) (A' 4) (earE (I 21) (A 18) k)) (fun p q h1 h2 h3 => ⟨x2 p q h1 (hsub q h3) h2 h3, (hcN p q (hsub p h2) (hsub q h3)).2.2⟩) (A 5)
    have z2 := tryC_s hP (r := A' 2) (costs := cM) h.cx.rP (people := setF (onB (I 7) b) P) hsub (c := cN (A' 2) (A' 4) (earE (I 21) (A 18) k)) (fun p q h1 h2 h3 => ⟨y2 p q h1 (hsub q h3) h2 h3, (hcN p q (hsub p h2) (hsub q h3)).2.2⟩) 12 (setF (onB (I 7) b) P) 1000000 0 (fun _ h => h) (by have := cD_le (bt (setF (onB (I 7) b) P)) 8; omega) (by omega) (by omega)
    have hdeep := lcS_deep (c := cN (A' 2) (A' 4) (earE (I 21) (A 18) k)) 9 (setF (onB (I 7) b) P) (sub8 hP hsub) (by have := cD_le (bt (setF (onB (I 7) b) P)) 8; omega) 3
    have hle := lcS_le (c := cN (A' 2) (A' 4) (earE (I 21) (A 18) k)) 9 (setF (onB (I 7) b) P)
    rw [show (12 : Nat) = 9 + 3 from rfl, hdeep] at z2
    rw [show (9 + 3 : Nat) = 12 from rfl, show min 1000000 (0 + lcS (cN (A' 2) (A' 4) (earE (I 21) (A 18) k)) 9 (setF (onB (I 7) b) P)) = lcS (cN (A' 2) (A' 4) (earE (I 21) (A 18) k)) 9 (setF (onB (I 7) b) P) by omega] at z2
    generalize lcS (cN (A' 2) (A' 4) (earE (I 21) (A 18) k)) 9 (setF (onB (I 7) b) P) = L at z1 z2 hle
    have x1' : f_X4_leastCoins (nI W) (nI P) (A 1) (A 13) (A 14) (A 22) (A 5) (A 6) (setF (onB (I 7) b) P) (nI (earE (I 21) (A 18) k)) = some (if L = 1000000 then -2 else nI L, bx, cX) := by
      unfold f_X4_leastCoins
      rw [show (0 : Int32) = nI 0 from rfl, x1, z1, pb_bind]
    have z2' : f_X11_tryCoins (A' 2) cM 12 1000000 (setF (onB (I 7) b) P) 0 = some (nI L) := z2
    have y1' : f_X11_coins_31 (I' 12) (A' 2) (A' 4) rf_fu (nI k) (setF (onB (I 7) b) P) 0 0 0 (I' 17) (A' 11) = some (if L = 1000000 then -2 else nI L, 0, 0, nI L, cM) := by
      refine (show _ = _ from y1).trans ?_
      rw [z2', pb_bind]
      by_cases hL : L = 1000000
      · rw [if_pos (by rw [hL]; rfl), if_pos hL]
      · rw [if_neg (show ¬ nI L = 1000000 from fun z => hL ((nI_eq (b := 1000000) (by omega) (by decide)).mp z)), if_neg hL]
    rw [x1', y1', pb_bind, if_pos (show bI (!(true && true)) = 0 from rfl), if_pos (show whyN true true = 0 from rfl)]
    exact ⟨_, _, rfl, rfl, rfl, h.quiet (h.fault.tell (u := 0) (by decide)) rfl rfl rfl rfl⟩
  · obtain ⟨c1, c2, c3⟩ := whyN_no hab
    rw [if_neg c1, if_neg c2]
    exact ⟨_, _, rfl, rfl, rfl, h.quiet (h.fault.tell c3) rfl rfl rfl rfl⟩
