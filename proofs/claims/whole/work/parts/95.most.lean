/-! the class's pairs, part by part -/
theorem link_l {W P : Nat} {r st close words kinds : Nat → Int32} (h : pCx W P r st close words kinds) {e : Nat} (he1 : 1 ≤ e) (he : e ≤ 7) : ∀ d n i : Nat, ∀ L : Nat → Int32, i + d = P → d < n → ∃ L', f_X6_link_2 (nI W) (nI P) words kinds close n (nI e) (nI i) L = some L' ∧ (∀ p, i ≤ p → p < P → L' p = setF (metb W r words kinds p (words p) (nI 0) e) P) ∧ ∀ p, p < i → L' p = L p := by
  have hP := h.P8
  intro d
  induction d with
  | zero =>
    intro n i L hi hn
    obtain ⟨n', rfl, hn'⟩ := fuel_succ hn
    refine ⟨L, ?_, fun p a b => by omega, fun _ _ => rfl⟩
    rw [f_X6_link_2, if_pos (by simp (disch := omega) only [pb_lits, pb_ltT, pb_ltF, pb_leT, pb_leF, pb_eqT, pb_eqF, pb_lt, pb_le, pb_eq, pb_add, pb_mul, pb_sub, pb_cl, pb_ibt, pb_eqm, pb_meq, pb_ltm, pb_mlt, pb_lem, pb_mle, ite_true, ite_false, reduceIte, not_true_eq_false, not_false_eq_true, pb_bind, Nat.zero_add, Nat.add_zero])]
  | succ d ih =>
    intro n i L hi hn
    obtain ⟨n', rfl, hn'⟩ := fuel_succ hn
    obtain ⟨L', q1, q2, q3⟩ := ih n' (i + 1) (upd L i (setF (metb W r words kinds i (words i) (nI 0) e) P)) (by omega) (by omega)
    refine ⟨L', ?_, fun p a b => ?_, fun p a => ?_⟩
    · rw [f_X6_link_2, if_neg (by simp (disch := omega) only [pb_lits, pb_ltT, pb_ltF, pb_leT, pb_leF, pb_eqT, pb_eqF, pb_lt, pb_le, pb_eq, pb_add, pb_mul, pb_sub, pb_cl, pb_ibt, pb_eqm, pb_meq, pb_ltm, pb_mlt, pb_lem, pb_mle, ite_true, ite_false, reduceIte, not_true_eq_false, not_false_eq_true, pb_bind, Nat.zero_add, Nat.add_zero]), metNow_s h (by omega) he1 he, pb_bind, if_pos (pb_ibt (by omega) (by omega)), nI_1, nI_clamp (by omega)]
      exact q1
    · by_cases hp : p = i
      · subst hp; rw [q3 p (by omega), upd_same]
      · exact q2 p (by omega) b
    · rw [q3 p (by omega), upd_ne _ _ (by omega)]
theorem link_s {W P : Nat} {r st close words kinds : Nat → Int32} (h : pCx W P r st close words kinds) {e : Nat} (he1 : 1 ≤ e) (he : e ≤ 7) (L : Nat → Int32) : ∃ L', f_X6_link (nI W) (nI P) words kinds close L (nI e) = some L' ∧ ∀ p, p < P → ∀ q, bt (L' p) q = lkE W P r words kinds e p q := by
  obtain ⟨L', q1, q2, -⟩ := link_l h he1 he P rf_fu 0 L (by omega) (by have := h.P8; show P < 4096; omega)
  exact ⟨L', q1, fun p hp q => by rw [q2 p (by omega) hp]; rfl⟩
theorem leastOf_l (s : Int32) : ∀ d n i : Nat, i + d = 8 → d < n → (∀ k, k < i → bt s k = false) → (∃ p, p < 8 ∧ bt s p = true ∧ (∀ k, k < p → bt s k = false) ∧ f_X3_leastOf_2 n s (nI i) = some (nI p)) ∨ ((∀ k, k < 8 → bt s k = false) ∧ f_X3_leastOf_2 n s (nI i) = some (-1)) := by
  intro d
  induction d with
  | zero =>
    intro n i hi hn h
    obtain ⟨n', rfl, hn'⟩ := fuel_succ hn
    obtain rfl : i = 8 := by omega
    refine Or.inr ⟨h, ?_⟩
    rw [f_X3_leastOf_2, if_pos (by decide)]
  | succ d ih =>
    intro n i hi hn h
    obtain ⟨n', rfl, hn'⟩ := fuel_succ hn
    rw [f_X3_leastOf_2, if_neg (by simp (disch := omega) only [pb_lits, pb_ltT, pb_ltF, pb_leT, pb_leF, pb_eqT, pb_eqF, pb_lt, pb_le, pb_eq, pb_add, pb_mul, pb_sub, pb_cl, pb_ibt, pb_eqm, pb_meq, pb_ltm, pb_mlt, pb_lem, pb_mle, ite_true, ite_false, reduceIte, not_true_eq_false, not_false_eq_true, pb_bind, Nat.zero_add, Nat.add_zero]), holdsX_s _ (by omega), pb_bind, nI_1]
    cases hb : bt s i
    · rw [if_pos (show bI false = 0 from rfl)]
      refine ih n' (i + 1) (by omega) (by omega) (fun k hk => ?_)
      by_cases e : k = i
      · subst e; exact hb
      · exact h k (by omega)
    · rw [if_neg (show ¬ bI true = 0 by decide)]
      exact Or.inl ⟨i, by omega, hb, h, rfl⟩
theorem leastOf_s (s : Int32) : (∃ p, p < 8 ∧ bt s p = true ∧ (∀ k, k < p → bt s k = false) ∧ f_X3_leastOf s = some (nI p)) ∨ ((∀ k, k < 8 → bt s k = false) ∧ f_X3_leastOf s = some (-1)) :=
  leastOf_l s 8 rf_fu 0 (by omega) (by decide) (fun k hk => by omega)
theorem num_bits {i : Nat} (h : i < 256) : numF i.testBit 8 = i := by
  apply Nat.eq_of_testBit_eq
  intro k
  rw [numF_bit]
  by_cases hk : k < 8
  · rw [decide_eq_true hk, Bool.true_and]
  · rw [decide_eq_false hk, Bool.false_and, Nat.testBit_lt_two_pow (Nat.lt_of_lt_of_le h (Nat.pow_le_pow_right (n := 2) (i := 8) (by decide) (by omega)))]
theorem numF_congr {S T : Nat → Bool} : ∀ n, (∀ k, k < n → S k = T k) → numF S n = numF T n := by
  intro n
  induction n with
  | zero => intro _; rfl
  | succ n ih => intro h; rw [numF, numF, h n (by omega), ih (fun k hk => h k (by omega))]
theorem numF_rm {S : Nat → Bool} {p : Nat} (hp : S p = true) : ∀ n, p < n → numF (rmB S p) n + 2 ^ p = numF S n := by
  intro n
  induction n with
  | zero => intro h; omega
  | succ n ih =>
    intro h
    rw [numF, numF]
    by_cases e : p = n
    · subst e
      rw [if_neg (by unfold rmB; rw [decide_eq_true rfl]; simp), if_pos hp, numF_congr p (S := rmB S p) (T := S) (fun k hk => by unfold rmB; rw [decide_eq_false (by omega)]; simp)]
      omega
    · have h2 : rmB S p n = S n := by unfold rmB; rw [decide_eq_false (by omega)]; simp
      rw [h2, ← ih (by omega)]
      omega
theorem numF_256 (S : Nat → Bool) : numF S 8 < 256 := numF_lt S 8
theorem set8 {s : Int32} (h : ∀ k, bt s k = true → k < 8) : s = nI (numF (bt s) 8) := by
  rw [← setF_num _ (by decide)]
  refine (setF_eq (by decide) (fun k => ?_)).symm
  by_cases hk : k < 8
  · rw [decide_eq_true hk, Bool.true_and]
  · rw [decide_eq_false hk, Bool.false_and]
    cases hb : bt s k
    · rfl
    · exact absurd (h k hb) hk
theorem rm8 {T : Nat → Bool} {p : Nat} (hp : p < 8) : nI (numF T 8) &&& ((nI 1 <<< (nI p &&& nI 31)) ^^^ (-1)) = nI (numF (rmB T p) 8) := by
  apply bt_ext
  intro k hk
  have h1 := numF_256 T
  have h2 := numF_256 (rmB T p)
  rw [bt_and, bt_com _ hk, bt_1s (by omega), bt_nI (by omega), bt_nI (by omega), numF_bit, numF_bit]
  unfold rmB
  rw [Bool.and_assoc]
theorem sufV_max {t : Nat → Bool} {v : Nat → Nat} {a x : Nat} : ∀ d i, sufV t v (max a x) d i = max x (sufV t v a d i) := by
  intro d
  induction d with
  | zero => intro i; rw [sufV, sufV]; omega
  | succ d ih => intro i; rw [sufV, sufV, ih (i + 1)]; split <;> omega
theorem mmx_skip {lk : Nat → Nat → Bool} {S : Nat → Bool} : ∀ p, p ≤ 8 → (∀ k, k < p → S k = false) → mmx lk 8 0 S = mmx lk (8 - p) p S := by
  intro p
  induction p with
  | zero => intro _ _; rfl
  | succ p ih =>
    intro hp h
    rw [ih (by omega) (fun k hk => h k (by omega)), show 8 - p = 8 - (p + 1) + 1 by omega, mmx, if_neg (by rw [h p (by omega)]; decide)]
/-- best tells of each part of these -/
def bestOk (lk : Nat → Nat → Bool) (T : Nat → Bool) (lim : Nat) (best : Nat → Int32) : Prop := ∀ S : Nat → Bool, (∀ k, k < 8 → S k = true → T k = true) → numF S 8 < lim → best (numF S 8) = nI (mmx lk 8 0 S)
theorem mostIn35 {lk : Nat → Nat → Bool} {links best : Nat → Int32} {T S : Nat → Bool} {p lim : Nat} (hp : p < 8) (hpS : S p = true) (hlow : ∀ k, k < p → S k = false) (hST : ∀ k, k < 8 → S k = true → T k = true) (hlim : numF S 8 ≤ lim) (hb : bestOk lk T lim best) (hl : ∀ q, bt (links p) q = lk p q) : ∀ d n i a : Nat, i + d = 8 → p + 1 ≤ i → d < n → a ≤ 20 →
    f_X3_mostIn_35 links best n (nI p) (nI (numF (rmB S p) 8)) (nI a) (nI i) = some (nI (sufV (fun q => S q && lk p q) (fun q => 1 + mmx lk (7 - p) (p + 1) (rmB S q)) a d i)) := by
  have h256 := numF_256 (rmB S p)
  intro d
  induction d with
  | zero =>
    intro n i a hi hpi hn ha
    obtain ⟨n', rfl, hn'⟩ := fuel_succ hn
    obtain rfl : i = 8 := by omega
    rw [f_X3_mostIn_35, if_pos (by decide)]
    rfl
  | succ d ih =>
    intro n i a hi hpi hn ha
    obtain ⟨n', rfl, hn'⟩ := fuel_succ hn
    rw [f_X3_mostIn_35, if_neg (by simp (disch := omega) only [pb_lits, pb_ltT, pb_ltF, pb_leT, pb_leF, pb_eqT, pb_eqF, pb_lt, pb_le, pb_eq, pb_add, pb_mul, pb_sub, pb_cl, pb_ibt, pb_eqm, pb_meq, pb_ltm, pb_mlt, pb_lem, pb_mle, ite_true, ite_false, reduceIte, not_true_eq_false, not_false_eq_true, pb_bind, Nat.zero_add, Nat.add_zero]), if_pos (pb_ibt (by omega) hp), nI_clamp (by omega), holdsX_s _ (by omega), pb_bind, bt_and, bt_nI (by omega), numF_bit, decide_eq_true (by omega : i < 8), Bool.true_and, hl i, sufV]
    have hr : rmB S p i = S i := by unfold rmB; rw [decide_eq_false (by omega)]; simp
    rw [hr]
    simp only [f_X3_mostIn_79]
    rw [nI_1]
    cases ht : (S i && lk p i)
    · rw [if_pos (show bI false = 0 from rfl), if_neg (by decide)]
      exact ih n' (i + 1) a (by omega) (by omega) (by omega) ha
    · have hSi : S i = true := by rw [Bool.and_eq_true] at ht; exact ht.1
      have e1 : nI (numF (rmB S p) 8) &&& (((1 : Int32) <<< (nI i &&& 31)) ^^^ (-1)) = nI (numF (rmB (rmB S p) i) 8) := rm8 (by omega)
      have h256' := numF_256 (rmB (rmB S p) i)
      have n1 := numF_rm hpS 8 hp
      have n2 := numF_rm (S := rmB S p) (p := i) (by rw [hr, hSi]) 8 (by omega)
      have p1 : 0 < 2 ^ p := Nat.two_pow_pos p
      have p2 : 0 < 2 ^ i := Nat.two_pow_pos i
      have e2 := hb (rmB (rmB S p) i) (fun k hk hh => hST k hk (by unfold rmB at hh; rw [Bool.and_eq_true, Bool.and_eq_true] at hh; exact hh.1.1)) (by omega)
      have e3 : mmx lk 8 0 (rmB (rmB S p) i) = mmx lk (7 - p) (p + 1) (rmB S i) := by
        rw [mmx_skip (p + 1) (by omega) (fun k hk => by
          unfold rmB
          by_cases e : k = p
          · rw [decide_eq_true e]; simp
          · rw [hlow k (by omega)]; rfl), show 8 - (p + 1) = 7 - p by omega]
        exact mmx_congr _ _ _ _ (fun k a b => by unfold rmB; rw [decide_eq_false (by omega : ¬ k = p)]; simp)
      rw [e3] at e2
      have hx := mmx_le (lk := lk) (7 - p) (p + 1) (rmB S i)
      rw [if_neg (show ¬ bI true = 0 by decide), if_pos rfl, e1, if_pos (pb_ibt (by omega) h256'), nI_clamp (by omega), e2]
      generalize mmx lk (7 - p) (p + 1) (rmB S i) = x at hx ⊢
      rw [show (1 : Int32) + nI x = nI (1 + x) from nI_add 1 x, ← sufV_max]
      by_cases hax : a < 1 + x
      · rw [if_pos (nI_lt hax (by omega)), ih n' (i + 1) (1 + x) (by omega) (by omega) (by omega) (by omega), show max a (1 + x) = 1 + x by omega]
      · rw [if_neg (nI_nlt (by omega) (by omega)), ih n' (i + 1) a (by omega) (by omega) (by omega) ha, show max a (1 + x) = a by omega]
theorem mostIn_s {lk : Nat → Nat → Bool} {links best : Nat → Int32} {T S : Nat → Bool} (hST : ∀ k, k < 8 → S k = true → T k = true) (hb : bestOk lk T (numF S 8) best) (hl : ∀ p, p < 8 → T p = true → ∀ q, bt (links p) q = lk p q) : f_X3_mostIn links best (nI (numF S 8)) = some (nI (mmx lk 8 0 S)) := by
  have h256 := numF_256 S
  have hbit : ∀ k, k < 8 → bt (nI (numF S 8)) k = S k := fun k hk => by rw [bt_nI (by omega), numF_bit, decide_eq_true hk, Bool.true_and]
  unfold f_X3_mostIn
  rcases leastOf_s (nI (numF S 8)) with ⟨p, hp, h1, h2, h3⟩ | ⟨h2, h3⟩
  · rw [h3, pb_bind, if_neg (show ¬ nI p = -1 from fun q => by have := pb_eqm (a := p) (b := 1) (by decide) (by omega) (by decide); exact (this ▸ q : False))]
    rw [hbit p hp] at h1
    have hlow : ∀ k, k < p → S k = false := fun k hk => by rw [← hbit k (by omega)]; exact h2 k hk
    have e1 : nI (numF S 8) &&& (((1 : Int32) <<< (nI p &&& 31)) ^^^ (-1)) = nI (numF (rmB S p) 8) := rm8 hp
    have h256' := numF_256 (rmB S p)
    have n1 := numF_rm h1 8 hp
    have p1 : 0 < 2 ^ p := Nat.two_pow_pos p
    have e2 := hb (rmB S p) (fun k hk hh => hST k hk (by unfold rmB at hh; rw [Bool.and_eq_true] at hh; exact hh.1)) (by omega)
    have e3 : mmx lk 8 0 (rmB S p) = mmx lk (7 - p) (p + 1) S := by
      rw [mmx_skip (p + 1) (by omega) (fun k hk => by
        unfold rmB
        by_cases e : k = p
        · rw [decide_eq_true e]; simp
        · rw [hlow k (by omega)]; rfl), show 8 - (p + 1) = 7 - p by omega]
      exact mmx_congr _ _ _ _ (fun k a b => by unfold rmB; rw [decide_eq_false (by omega : ¬ k = p)]; simp)
    have hx := mmx_le (lk := lk) (7 - p) (p + 1) S
    rw [e1, if_pos (pb_ibt (by omega) h256'), nI_clamp (by omega), e2, e3, nI_1, mostIn35 hp h1 hlow hST (Nat.le_refl _) hb (hl p hp (hST p hp h1)) (7 - p) rf_fu (p + 1) _ (by omega) (by omega) (by show _ < 4096; omega) (by omega)]
    rw [mmx_skip p (by omega) hlow, show 8 - p = 7 - p + 1 by omega, mmx, if_pos h1]
  · rw [h3, pb_bind, if_pos rfl, mmx_congr 8 0 S (fun _ => false) (fun k _ hk => by rw [← hbit k (by omega)]; exact h2 k (by omega)), mmx_empty 8 0 _ (fun _ _ => rfl)]
    rfl
