theorem most_l {lk : Nat → Nat → Bool} {links : Nat → Int32} {T : Nat → Bool} (hl : ∀ p, p < 8 → T p = true → ∀ q, bt (links p) q = lk p q) : ∀ d n i : Nat, ∀ best : Nat → Int32, i + d = numF T 8 + 1 → d < n → bestOk lk T i best → ∃ best', f_X3_most_2 links n (nI (numF T 8)) (nI i) best = some (nI (mmx lk 8 0 T), best') ∧ bestOk lk T (numF T 8 + 1) best' := by
  have h256 := numF_256 T
  intro d
  induction d with
  | zero =>
    intro n i best hi hn hb
    obtain ⟨n', rfl, hn'⟩ := fuel_succ hn
    refine ⟨best, ?_, by rw [← hi]; exact hb⟩
    have e255 : nI (numF T 8) &&& 255 = nI (numF T 8) := by
      apply bt_ext
      intro k hk
      rw [bt_and, show (255 : Int32) = nI 255 from rfl, bt_nI (by omega), bt_nI (by decide), show (255 : Nat) = 2 ^ 8 - 1 from rfl, Nat.testBit_two_pow_sub_one, numF_bit]
      cases decide (k < 8) <;> simp
    rw [f_X3_most_2, if_pos (nI_lt (by omega) (by omega)), f_X3_most_40, e255, if_pos (pb_ibt (by omega) h256), nI_clamp (by omega), hb T (fun _ _ h => h) (by omega)]
  | succ d ih =>
    intro n i best hi hn hb
    obtain ⟨n', rfl, hn'⟩ := fuel_succ hn
    have hi256 : i < 256 := by omega
    rw [f_X3_most_2, if_neg (nI_nlt (by omega) (by omega)), if_neg (by simp (disch := omega) only [pb_lits, pb_ltT, pb_ltF, pb_leT, pb_leF, pb_eqT, pb_eqF, pb_lt, pb_le, pb_eq, pb_add, pb_mul, pb_sub, pb_cl, pb_ibt, pb_eqm, pb_meq, pb_ltm, pb_mlt, pb_lem, pb_mle, ite_true, ite_false, reduceIte, not_true_eq_false, not_false_eq_true, pb_bind, Nat.zero_add, Nat.add_zero])]
    simp only [f_X3_most_34]
    rw [nI_1]
    have hiff : (nI i &&& (nI (numF T 8) ^^^ (-1)) = 0) ↔ ∀ k, k < 8 → i.testBit k = true → T k = true := by
      rw [pb_eq0]
      constructor
      · intro h k hk hb
        have := h k (by omega)
        rw [bt_and, bt_com _ (by omega), bt_nI (by omega), bt_nI (by omega), hb, numF_bit, decide_eq_true hk] at this
        cases hT : T k
        · rw [hT] at this; cases this
        · rfl
      · intro h k hk
        rw [bt_and, bt_com _ hk, bt_nI (by omega), bt_nI (by omega), numF_bit]
        by_cases hk8 : k < 8
        · rw [decide_eq_true hk8]
          cases hb : i.testBit k
          · rfl
          · rw [h k hk8 hb]; rfl
        · rw [Nat.testBit_lt_two_pow (Nat.lt_of_lt_of_le hi256 (Nat.pow_le_pow_right (n := 2) (i := 8) (by decide) (by omega)))]; rfl
    by_cases hsub : nI i &&& (nI (numF T 8) ^^^ (-1)) = 0
    · have hs := hiff.mp hsub
      have hm := mostIn_s (S := i.testBit) hs (by rw [num_bits hi256]; exact hb) hl
      rw [num_bits hi256] at hm
      rw [if_pos hsub, hm, pb_bind, if_pos (pb_ibt (by omega) hi256), nI_clamp (by omega)]
      refine ih n' (i + 1) _ (by omega) (by omega) (fun S hS hlt => ?_)
      by_cases e : numF S 8 = i
      · rw [e, upd_same]
        congr 1
        refine mmx_congr 8 0 _ _ (fun k _ hk => ?_)
        rw [← e, numF_bit, decide_eq_true (by omega : k < 8), Bool.true_and]
      · rw [upd_ne _ _ e]
        exact hb S hS (by omega)
    · rw [if_neg hsub]
      refine ih n' (i + 1) best (by omega) (by omega) (fun S hS hlt => ?_)
      by_cases e : numF S 8 = i
      · exact absurd (hiff.mpr (fun k hk hb => hS k hk (by rw [← e, numF_bit, Bool.and_eq_true] at hb; exact hb.2))) hsub
      · exact hb S hS (by omega)
theorem most_s {lk : Nat → Nat → Bool} {links : Nat → Int32} {T : Nat → Bool} (hl : ∀ p, p < 8 → T p = true → ∀ q, bt (links p) q = lk p q) (best : Nat → Int32) : ∃ best', f_X3_most links best (nI (numF T 8)) = some (nI (mmx lk 8 0 T), best') ∧ bestOk lk T (numF T 8 + 1) best' := by
  have h256 := numF_256 T
  exact most_l hl (numF T 8 + 1) rf_fu 0 best (by omega) (by show _ < 4096; omega) (fun S _ h => by omega)
theorem numF_mono {S T : Nat → Bool} : ∀ n, (∀ k, k < n → S k = true → T k = true) → numF S n ≤ numF T n := by
  intro n
  induction n with
  | zero => intro _; exact Nat.le_refl _
  | succ n ih =>
    intro h
    have h1 := ih (fun k hk => h k (by omega))
    rw [numF, numF]
    by_cases hS : S n = true
    · rw [if_pos hS, if_pos (h n (by omega) hS)]; omega
    · rw [if_neg hS]; omega
theorem first14 {lk : Nat → Nat → Bool} {links best : Nat → Int32} {T S : Nat → Bool} {p : Nat} (hp : p < 8) (hpS : S p = true) (hlow : ∀ k, k < p → S k = false) (hST : ∀ k, k < 8 → S k = true → T k = true) (hb : bestOk lk T (numF T 8 + 1) best) (hl : ∀ q, bt (links p) q = lk p q) (a : Nat → Nat → Int32) (u : Nat → Int32) : ∀ d n i : Nat, i + d = 8 → p + 1 ≤ i → d < n →
    sufV (fun q => S q && lk p q) (fun q => 1 + mmx lk (7 - p) (p + 1) (rmB S q)) (mmx lk (7 - p) (p + 1) S) d i = mmx lk 8 0 S →
    (∃ q, i ≤ q ∧ q < 8 ∧ S q = true ∧ f_X3_firstPartner_14 links best n (nI p) (nI (numF S 8)) (nI (numF (rmB S p) 8)) (nI i) = some (nI q) ∧ sufA (fun q => S q && lk p q) (fun q => 1 + mmx lk (7 - p) (p + 1) (rmB S q)) (mmx lk (7 - p) (p + 1) S) a u d i = a q) ∨
    (f_X3_firstPartner_14 links best n (nI p) (nI (numF S 8)) (nI (numF (rmB S p) 8)) (nI i) = some (-2) ∧ sufA (fun q => S q && lk p q) (fun q => 1 + mmx lk (7 - p) (p + 1) (rmB S q)) (mmx lk (7 - p) (p + 1) S) a u d i = u) := by
  have h256 := numF_256 (rmB S p)
  have h256S := numF_256 S
  have hmS := numF_mono 8 hST
  intro d
  induction d with
  | zero =>
    intro n i hi hpi hn hV
    obtain ⟨n', rfl, hn'⟩ := fuel_succ hn
    obtain rfl : i = 8 := by omega
    refine Or.inr ⟨?_, rfl⟩
    rw [f_X3_firstPartner_14, if_pos (by decide)]
  | succ d ih =>
    intro n i hi hpi hn hV
    obtain ⟨n', rfl, hn'⟩ := fuel_succ hn
    rw [f_X3_firstPartner_14, if_neg (by simp (disch := omega) only [pb_lits, pb_ltT, pb_ltF, pb_leT, pb_leF, pb_eqT, pb_eqF, pb_lt, pb_le, pb_eq, pb_add, pb_mul, pb_sub, pb_cl, pb_ibt, pb_eqm, pb_meq, pb_ltm, pb_mlt, pb_lem, pb_mle, ite_true, ite_false, reduceIte, not_true_eq_false, not_false_eq_true, pb_bind, Nat.zero_add, Nat.add_zero]), if_pos (pb_ibt (by omega) hp), nI_clamp (n := p) (by omega), holdsX_s _ (by omega), pb_bind, bt_and, bt_nI (by omega), numF_bit, decide_eq_true (by omega : i < 8), Bool.true_and, hl i, sufA]
    rw [sufV] at hV
    have hr : rmB S p i = S i := by unfold rmB; rw [decide_eq_false (by omega)]; simp
    rw [hr]
    simp only [f_X3_firstPartner_63]
    rw [nI_1]
    cases ht : (S i && lk p i)
    · rw [ht, if_neg (by decide)] at hV
      rw [if_pos (show bI false = 0 from rfl), if_neg (fun q => by cases q.1)]
      rcases ih n' (i + 1) (by omega) (by omega) (by omega) hV with ⟨q, a1, a2, a3, a4, a5⟩ | ⟨a4, a5⟩
      · exact Or.inl ⟨q, by omega, a2, a3, a4, a5⟩
      · exact Or.inr ⟨a4, a5⟩
    · rw [ht, if_pos rfl] at hV
      have hSi : S i = true := by rw [Bool.and_eq_true] at ht; exact ht.1
      have e1 : nI (numF (rmB S p) 8) &&& (((1 : Int32) <<< (nI i &&& 31)) ^^^ (-1)) = nI (numF (rmB (rmB S p) i) 8) := rm8 (by omega)
      have h256' := numF_256 (rmB (rmB S p) i)
      have n1 := numF_rm hpS 8 hp
      have n2 := numF_rm (S := rmB S p) (p := i) (by rw [hr, hSi]) 8 (by omega)
      have p1 : 0 < 2 ^ p := Nat.two_pow_pos p
      have p2 : 0 < 2 ^ i := Nat.two_pow_pos i
      have e2 := hb (rmB (rmB S p) i) (fun k hk hh => hST k hk (by unfold rmB at hh; rw [Bool.and_eq_true, Bool.and_eq_true] at hh; exact hh.1.1)) (by omega)
      have e3 : mmx lk 8 0 (rmB (rmB S p) i) = mmx lk (7 - p) (p + 1) (rmB S i) := by
        rw [mmx_skip (p + 1) (by omega) (fun k hk => by
          unfold rmB
          by_cases e : k = p
          · rw [decide_eq_true e]; simp
          · rw [hlow k (by omega)]; rfl), show 8 - (p + 1) = 7 - p by omega]
        exact mmx_congr _ _ _ _ (fun k a b => by unfold rmB; rw [decide_eq_false (by omega : ¬ k = p)]; simp)
      rw [e3] at e2
      have e4 := hb S hST (by omega)
      have hx := mmx_le (lk := lk) (7 - p) (p + 1) (rmB S i)
      have hy := mmx_le (lk := lk) 8 0 S
      rw [if_neg (show ¬ bI true = 0 by decide), e1, if_pos (pb_ibt (by omega) h256'), if_pos (pb_ibt (by omega) h256S), nI_clamp (by omega), nI_clamp (by omega), e2, e4]
      have hv : 1 + mmx lk (7 - p) (p + 1) (rmB S i) ≤ mmx lk 8 0 S := by omega
      generalize hsv : sufV (fun q => S q && lk p q) (fun q => 1 + mmx lk (7 - p) (p + 1) (rmB S q)) (mmx lk (7 - p) (p + 1) S) d (i + 1) = sv at hV ⊢
      by_cases heq : 1 + mmx lk (7 - p) (p + 1) (rmB S i) = mmx lk 8 0 S
      · rw [if_pos (by rw [show (1 : Int32) + nI (mmx lk (7 - p) (p + 1) (rmB S i)) = nI (1 + mmx lk (7 - p) (p + 1) (rmB S i)) from nI_add 1 _, heq]), if_pos ⟨rfl, by omega⟩]
        exact Or.inl ⟨i, by omega, by omega, hSi, rfl, rfl⟩
      · rw [if_neg (show ¬ (1 : Int32) + nI (mmx lk (7 - p) (p + 1) (rmB S i)) = nI (mmx lk 8 0 S) from fun q => heq ((nI_eq (by omega) (by omega)).mp ((nI_add 1 _).symm.trans q))), if_neg (fun q => by have := q.2; omega)]
        rcases ih n' (i + 1) (by omega) (by omega) (by omega) (by rw [hsv]; omega) with ⟨q, a1, a2, a3, a4, a5⟩ | ⟨a4, a5⟩
        · exact Or.inl ⟨q, by omega, a2, a3, a4, a5⟩
        · exact Or.inr ⟨a4, a5⟩
theorem first25 {lk : Nat → Nat → Bool} {links best : Nat → Int32} {T : Nat → Bool} (hb : bestOk lk T (numF T 8 + 1) best) (hl : ∀ p, p < 8 → T p = true → ∀ q, bt (links p) q = lk p q) : ∀ d n p : Nat, ∀ S : Nat → Bool, ∀ pa : Nat → Int32, p + d = 8 → d < n → (∀ k, k < p → S k = false) → (∀ k, k < 8 → S k = true → T k = true) →
    ∃ pa', f_X3_pairFirst_25 links n (nI (numF S 8)) (nI p) pa best = some (pa', best) ∧ ∀ k, k < 8 → pa' k = fbA lk d p S pa k := by
  intro d
  induction d with
  | zero =>
    intro n p S pa hp hn hlow hST
    obtain ⟨n', rfl, hn'⟩ := fuel_succ hn
    obtain rfl : p = 8 := by omega
    refine ⟨pa, ?_, fun _ _ => rfl⟩
    rw [f_X3_pairFirst_25, if_pos (by decide)]
  | succ d ih =>
    intro n p S pa hp hn hlow hST
    obtain ⟨n', rfl, hn'⟩ := fuel_succ hn
    have h256 := numF_256 S
    have hp8 : p < 8 := by omega
    rw [f_X3_pairFirst_25, if_neg (by simp (disch := omega) only [pb_lits, pb_ltT, pb_ltF, pb_leT, pb_leF, pb_eqT, pb_eqF, pb_lt, pb_le, pb_eq, pb_add, pb_mul, pb_sub, pb_cl, pb_ibt, pb_eqm, pb_meq, pb_ltm, pb_mlt, pb_lem, pb_mle, ite_true, ite_false, reduceIte, not_true_eq_false, not_false_eq_true, pb_bind, Nat.zero_add, Nat.add_zero]), holdsX_s _ (by omega), pb_bind, bt_nI (by omega), numF_bit, decide_eq_true hp8, Bool.true_and, fbA]
    simp only [f_X3_pairFirst_94]
    rw [nI_1]
    cases hb1 : S p
    · rw [if_pos (show bI false = 0 from rfl), if_neg (by decide)]
      exact ih n' (p + 1) S pa (by omega) (by omega) (fun k hk => by
        by_cases e : k = p
        · subst e; exact hb1
        · exact hlow k (by omega)) hST
    · rw [if_neg (show ¬ bI true = 0 by decide), if_pos rfl]
      have hd : d = 7 - p := by omega
      have hV : mmx lk 8 0 S = sufV (fun q => S q && lk p q) (fun q => 1 + mmx lk (7 - p) (p + 1) (rmB S q)) (mmx lk (7 - p) (p + 1) S) d (p + 1) := by
        rw [mmx_skip p (by omega) hlow, show 8 - p = 7 - p + 1 by omega, mmx, if_pos hb1, hd]
      have e1 : nI (numF S 8) &&& (((1 : Int32) <<< (nI p &&& 31)) ^^^ (-1)) = nI (numF (rmB S p) 8) := rm8 hp8
      have hlow2 : ∀ k, k < p + 1 → rmB S p k = false := fun k hk => by
        unfold rmB
        by_cases e : k = p
        · rw [decide_eq_true e]; simp
        · rw [hlow k (by omega)]; rfl
      have hsub2 : ∀ k, k < 8 → rmB S p k = true → T k = true := fun k hk hh => hST k hk (by unfold rmB at hh; rw [Bool.and_eq_true] at hh; exact hh.1)
      have hrmS : ∀ k, p + 1 ≤ k → rmB S p k = S k := fun k hk => by unfold rmB; rw [decide_eq_false (by omega : ¬ k = p)]; simp
      subst hd
      rcases first14 hp8 hb1 hlow hST hb (hl p hp8 (hST p hp8 hb1)) (fun q => fbA lk (7 - p) (p + 1) (rmB S q) (upd (upd pa p (nI q)) q (nI p))) (fbA lk (7 - p) (p + 1) S pa) (7 - p) rf_fu (p + 1) (by omega) (by omega) (by show _ < 4096; omega) hV.symm with ⟨q, a1, a2, a3, a4, a5⟩ | ⟨a4, a5⟩
      · unfold f_X3_firstPartner
        have e2 : nI (numF (rmB S p) 8) &&& (((1 : Int32) <<< (nI q &&& 31)) ^^^ (-1)) = nI (numF (rmB (rmB S p) q) 8) := rm8 a2
        rw [e1, nI_1, a4, pb_bind, if_neg (show ¬ nI q = -2 from fun x => by have := pb_eqm (a := q) (b := 2) (by decide) (by omega) (by decide); exact (this ▸ x : False)), if_pos (pb_ibt (by omega) hp8), if_pos (pb_ibt (by omega) a2), e2, nI_clamp (by omega), nI_clamp (by omega)]
        obtain ⟨pa', x1, x2⟩ := ih n' (p + 1) (rmB (rmB S p) q) (upd (upd pa p (nI q)) q (nI p)) (by omega) (by omega) (fun k hk => by
          show (rmB S p k && _) = false
          rw [hlow2 k hk]; rfl) (fun k hk hh => hsub2 k hk (by
          have hh' : (rmB S p k && !decide (k = q)) = true := hh
          rw [Bool.and_eq_true] at hh'; exact hh'.1))
        refine ⟨pa', x1, fun k hk => ?_⟩
        rw [x2 k hk, a5]
        exact fbA_congr _ _ _ _ _ _ (fun c h1 h2 => by
          show (rmB S p c && _) = (S c && _)
          rw [hrmS c h1]) (fun _ _ => rfl) k hk
      · unfold f_X3_firstPartner
        rw [e1, nI_1, a4, pb_bind, if_pos rfl]
        obtain ⟨pa', x1, x2⟩ := ih n' (p + 1) (rmB S p) pa (by omega) (by omega) hlow2 hsub2
        refine ⟨pa', x1, fun k hk => ?_⟩
        rw [x2 k hk, a5]
        exact fbA_congr _ _ _ _ _ _ (fun c h1 h2 => hrmS c h1) (fun _ _ => rfl) k hk
theorem pairFirst_s {lk : Nat → Nat → Bool} {links : Nat → Int32} {T : Nat → Bool} (hl : ∀ p, p < 8 → T p = true → ∀ q, bt (links p) q = lk p q) (pa best : Nat → Int32) : ∃ pa' best', f_X3_pairFirst links pa best (nI (numF T 8)) = some (pa', best') ∧ ∀ k, k < 8 → pa' k = fbA lk 8 0 T (rf_fill 8 (-2) pa) k := by
  have h256 := numF_256 T
  obtain ⟨best', q1, q2⟩ := most_s hl best
  have e255 : nI (numF T 8) &&& 255 = nI (numF T 8) := by
    apply bt_ext
    intro k hk
    rw [bt_and, show (255 : Int32) = nI 255 from rfl, bt_nI (by omega), bt_nI (by decide), show (255 : Nat) = 2 ^ 8 - 1 from rfl, Nat.testBit_two_pow_sub_one, numF_bit]
    cases decide (k < 8) <;> simp
  obtain ⟨pa', x1, x2⟩ := first25 q2 hl 8 rf_fu 0 T (rf_fill 8 (-2) pa) (by omega) (by decide) (fun k hk => by omega) (fun _ _ h => h)
  refine ⟨pa', best', ?_, x2⟩
  unfold f_X3_pairFirst
  rw [q1, pb_bind, e255]
  exact x1
