/-! the class's errands, part by part -/
theorem kpt19 {lk : Nat → Nat → Bool} {er : Nat → Nat} {links best errands : Nat → Int32} {s : Int32} {p : Nat} (hp : p < 8) (h8 : ∀ k, bt s k = true → k < 8) (hl : bt s p = true → ∀ q, bt (links p) q = lk p q) (her : ∀ a, bt s a = true → errands a = nI (er a) ∧ er a ≤ 4) {cr : Nat} (hcr : cr ≤ 40) {G : Nat → Nat} (hG : ∀ q, p < q → bt s p = true → bt s q = true → lk p q = true → G q ≤ 20 ∧ rf_ib (two s p q) 256 = true ∧ best (two s p q).toNatClampNeg = nI (G q)) (K : Int32 → Int32 → Int32 → Int32 → Option Int32) :
    ∀ d n i a : Nat, i + d = 8 → p + 1 ≤ i → d < n → a ≤ 40 → ∃ a', f_X3_mostKeptIn_19 K links best errands n s (nI cr) (nI a) (nI p) (nI i) = K s (nI cr) (nI a') (nI (p + 1)) ∧ a' ≤ 40 ∧ mkR (fun x => ∃ q, i ≤ q ∧ bt s p = true ∧ bt s q = true ∧ lk p q = true ∧ x = bK er cr p + bK er cr q + G q) a a' := by
  intro d
  induction d with
  | zero =>
    intro n i a hi hpi hn ha
    obtain ⟨n', rfl, hn'⟩ := fuel_succ hn
    obtain rfl : i = 8 := by omega
    refine ⟨a, ?_, ha, mkR_none (fun x ⟨q, c1, c2, c3, _⟩ => by have := h8 q c3; omega)⟩
    rw [f_X3_mostKeptIn_19, if_pos (by decide), nI_1]
  | succ d ih =>
    intro n i a hi hpi hn ha
    obtain ⟨n', rfl, hn'⟩ := fuel_succ hn
    have hib8 : rf_ib (nI p) 8 = true := pb_ibt (by omega) hp
    have hbi8 : rf_ib (nI i) 8 = true := pb_ibt (by omega) (by omega)
    have skip : (∀ q, ¬ (q = i ∧ bt s p = true ∧ bt s q = true ∧ lk p q = true)) → ∃ a', f_X3_mostKeptIn_116 K (f_X3_mostKeptIn_19 K links best errands n') links best errands s (nI cr) (nI a) (nI p) (nI i) = K s (nI cr) (nI a') (nI (p + 1)) ∧ a' ≤ 40 ∧ mkR (fun x => ∃ q, i ≤ q ∧ bt s p = true ∧ bt s q = true ∧ lk p q = true ∧ x = bK er cr p + bK er cr q + G q) a a' := by
      intro hno
      obtain ⟨a', x1, x2, x3⟩ := ih n' (i + 1) a (by omega) (by omega) (by omega) ha
      refine ⟨a', ?_, x2, mkR_iff x3 (fun x => ⟨?_, ?_⟩)⟩
      · rw [f_X3_mostKeptIn_116, nI_1]; exact x1
      · rintro ⟨q, c1, c2, c3, c4, c5⟩
        refine ⟨q, ?_, c2, c3, c4, c5⟩
        apply Classical.byContradiction
        intro hc
        exact hno q ⟨by omega, c2, c3, c4⟩
      · rintro ⟨q, c1, c2⟩
        exact ⟨q, by omega, c2⟩
    rw [f_X3_mostKeptIn_19, if_neg (by simp (disch := omega) only [pb_lits, pb_ltT, pb_ltF, pb_leT, pb_leF, pb_eqT, pb_eqF, pb_lt, pb_le, pb_eq, pb_add, pb_mul, pb_sub, pb_cl, pb_ibt, pb_eqm, pb_meq, pb_ltm, pb_mlt, pb_lem, pb_mle, ite_true, ite_false, reduceIte, not_true_eq_false, not_false_eq_true, pb_bind, Nat.zero_add, Nat.add_zero]), holdsX_s _ (by omega), pb_bind]
    cases hb : bt s p
    · rw [if_pos (show bI false = 0 from rfl)]
      have := skip (fun q h => by rw [hb] at h; cases h.2.1)
      rw [hb] at this
      exact this
    · rw [if_neg (show ¬ bI true = 0 by decide), if_pos hib8, nI_clamp (by omega), holdsX_s _ (by omega), pb_bind, bt_and, hl hb i]
      cases ht : (bt s i && lk p i)
      · rw [if_pos (show bI false = 0 from rfl)]
        have := skip (fun q h => by
          obtain ⟨rfl, _, h3, h4⟩ := h
          rw [h3, h4] at ht; cases ht)
        rw [hb] at this
        exact this
      · rw [Bool.and_eq_true] at ht
        obtain ⟨g1, g2, g3⟩ := hG i (by omega) hb ht.1 ht.2
        obtain ⟨e1, e2⟩ := her p hb
        obtain ⟨e3, e4⟩ := her i ht.1
        have bp := bK_le (er := er) (k := cr) (p := p)
        have bq := bK_le (er := er) (k := cr) (p := i)
        have h83 : ∃ a', f_X3_mostKeptIn_83 K (f_X3_mostKeptIn_19 K links best errands n') links best errands s (nI cr) (nI a) (nI p) (nI i) (nI (bK er cr p)) (nI (bK er cr i)) = K s (nI cr) (nI a') (nI (p + 1)) ∧ a' ≤ 40 ∧ mkR (fun x => ∃ q, i ≤ q ∧ true = true ∧ bt s q = true ∧ lk p q = true ∧ x = bK er cr p + bK er cr q + G q) a a' := by
          rw [hb] at ih
          rw [f_X3_mostKeptIn_83, two_X, if_pos g2, g3, nI_add, nI_add]
          unfold f_X3_mostKeptIn_116
          rw [nI_1]
          by_cases hx : a < bK er cr p + bK er cr i + G i
          · rw [if_pos (nI_lt hx (by omega))]
            obtain ⟨a', x1, x2, x3⟩ := ih n' (i + 1) (bK er cr p + bK er cr i + G i) (by omega) (by omega) (by omega) (by omega)
            refine ⟨a', x1, x2, mkR_step (X := fun x => x = bK er cr p + bK er cr i + G i) ⟨by omega, Or.inr rfl, fun x hx => by omega⟩ x3 (fun x => ⟨?_, ?_⟩)⟩
            · rintro ⟨q, c1, c2, c3, c4, c5⟩
              by_cases e : q = i
              · subst e; exact Or.inl c5
              · exact Or.inr ⟨q, by omega, c2, c3, c4, c5⟩
            · rintro (c | ⟨q, c1, c2⟩)
              · exact ⟨i, by omega, rfl, ht.1, ht.2, c⟩
              · exact ⟨q, by omega, c2⟩
          · rw [if_neg (nI_nlt (by omega) (by omega))]
            obtain ⟨a', x1, x2, x3⟩ := ih n' (i + 1) a (by omega) (by omega) (by omega) (by omega)
            refine ⟨a', x1, x2, mkR_step (X := fun x => x = bK er cr p + bK er cr i + G i) ⟨Nat.le_refl _, Or.inl rfl, fun x hx => by omega⟩ x3 (fun x => ⟨?_, ?_⟩)⟩
            · rintro ⟨q, c1, c2, c3, c4, c5⟩
              by_cases e : q = i
              · subst e; exact Or.inl c5
              · exact Or.inr ⟨q, by omega, c2, c3, c4, c5⟩
            · rintro (c | ⟨q, c1, c2⟩)
              · exact ⟨i, by omega, rfl, ht.1, ht.2, c⟩
              · exact ⟨q, by omega, c2⟩
        have h66 : f_X3_mostKeptIn_66 K (f_X3_mostKeptIn_19 K links best errands n') links best errands s (nI cr) (nI a) (nI p) (nI i) (nI (bK er cr p)) = f_X3_mostKeptIn_83 K (f_X3_mostKeptIn_19 K links best errands n') links best errands s (nI cr) (nI a) (nI p) (nI i) (nI (bK er cr p)) (nI (bK er cr i)) := by
          rw [f_X3_mostKeptIn_66, if_pos hbi8, nI_clamp (by omega), e3]
          by_cases hc : cr ≤ er i
          · rw [if_neg (nI_nlt hc (by omega)), show bK er cr i = 1 from if_pos hc]; rfl
          · rw [if_pos (nI_lt (by omega) (by omega)), show bK er cr i = 0 from if_neg hc]; rfl
        rw [← h66] at h83
        rw [if_neg (show ¬ bI true = 0 by decide), if_pos hib8, e1]
        by_cases hc : cr ≤ er p
        · rw [if_neg (nI_nlt hc (by omega))]
          rw [show bK er cr p = 1 from if_pos hc] at h83 ⊢
          exact h83
        · rw [if_pos (nI_lt (by omega) (by omega))]
          rw [show bK er cr p = 0 from if_neg hc] at h83 ⊢
          exact h83
theorem kpt6 {lk : Nat → Nat → Bool} {er : Nat → Nat} {links best errands : Nat → Int32} {s : Int32} (h8 : ∀ k, bt s k = true → k < 8) (hl : ∀ p, bt s p = true → ∀ q, bt (links p) q = lk p q) (her : ∀ a, bt s a = true → errands a = nI (er a) ∧ er a ≤ 4) {cr : Nat} (hcr : cr ≤ 40) {G : Nat → Nat → Nat} (hG : ∀ p q, p < q → bt s p = true → bt s q = true → lk p q = true → G p q ≤ 20 ∧ rf_ib (two s p q) 256 = true ∧ best (two s p q).toNatClampNeg = nI (G p q)) :
    ∀ d n i a : Nat, i + d = 8 → d < n → a ≤ 40 → ∃ a', f_X3_mostKeptIn_6 links best errands n s (nI cr) (nI a) (nI i) = some (nI a') ∧ a' ≤ 40 ∧ mkR (fun x => ∃ p q, i ≤ p ∧ p < q ∧ bt s p = true ∧ bt s q = true ∧ lk p q = true ∧ x = bK er cr p + bK er cr q + G p q) a a' := by
  intro d
  induction d with
  | zero =>
    intro n i a hi hn ha
    obtain ⟨n', rfl, hn'⟩ := fuel_succ hn
    obtain rfl : i = 8 := by omega
    refine ⟨a, ?_, ha, mkR_none (fun x ⟨p, q, c1, c2, c3, _⟩ => by have := h8 p c3; omega)⟩
    rw [f_X3_mostKeptIn_6, if_pos (by decide)]
  | succ d ih =>
    intro n i a hi hn ha
    obtain ⟨n', rfl, hn'⟩ := fuel_succ hn
    obtain ⟨a1, x1, x2, x3⟩ := kpt19 (lk := lk) (er := er) (links := links) (best := best) (errands := errands) (s := s) (p := i) (by omega) h8 (hl i) her hcr (G := G i) (fun q c1 c2 c3 c4 => hG i q c1 c2 c3 c4) (f_X3_mostKeptIn_6 links best errands n') (7 - i) rf_fu (i + 1) a (by omega) (by omega) (by show _ < 4096; omega) ha
    obtain ⟨a2, y1, y2, y3⟩ := ih n' (i + 1) a1 (by omega) (by omega) x2
    refine ⟨a2, ?_, y2, mkR_step x3 y3 (fun x => ⟨?_, ?_⟩)⟩
    · rw [f_X3_mostKeptIn_6, if_neg (by simp (disch := omega) only [pb_lits, pb_ltT, pb_ltF, pb_leT, pb_leF, pb_eqT, pb_eqF, pb_lt, pb_le, pb_eq, pb_add, pb_mul, pb_sub, pb_cl, pb_ibt, pb_eqm, pb_meq, pb_ltm, pb_mlt, pb_lem, pb_mle, ite_true, ite_false, reduceIte, not_true_eq_false, not_false_eq_true, pb_bind, Nat.zero_add, Nat.add_zero]), nI_1, x1, y1]
    · rintro ⟨p, q, c1, c2, c3, c4, c5, c6⟩
      by_cases e : p = i
      · subst e; exact Or.inl ⟨q, by omega, c3, c4, c5, c6⟩
      · exact Or.inr ⟨p, q, by omega, c2, c3, c4, c5, c6⟩
    · rintro (⟨q, c1, c3, c4, c5, c6⟩ | ⟨p, q, c1, c2⟩)
      · exact ⟨i, q, by omega, by omega, c3, c4, c5, c6⟩
      · exact ⟨p, q, by omega, c2⟩
def mxX (lk : Nat → Nat → Bool) (er : Nat → Nat) (pr m : Nat) (s : Int32) (w : Nat) : Prop := RX lk er pr (4 - m) m s w ∧ ∀ v, RX lk er pr (4 - m) m s v → v ≤ w
theorem RX_le {lk : Nat → Nat → Bool} {er : Nat → Nat} {pr : Nat} : ∀ D m s v, RX lk er pr D m s v → v ≤ 2 * D := by
  intro D
  induction D with
  | zero => intro m s v h; have h' : v = 0 := h; omega
  | succ D ih =>
    intro m s v h
    rcases h with h | ⟨p, q, v', a1, a2, a3, a4, a5, a6⟩
    · omega
    · have := ih _ _ _ a5
      have h1 := bK_le (er := er) (k := m / pr + 1) (p := p)
      have h2 := bK_le (er := er) (k := m / pr + 1) (p := q)
      omega
def bestK (lk : Nat → Nat → Bool) (er : Nat → Nat) (pr all N lim : Nat) (best : Nat → Int32) : Prop := ∀ i, i < lim → (∀ k, bt (nI i) k = true → bt (nI N) k = true) → ∀ m, cD (bt (nI i)) 8 + 2 * m = all → ∃ w, w ≤ 20 ∧ best i = nI w ∧ mxX lk er pr m (nI i) w
theorem kptIn_s {lk : Nat → Nat → Bool} {er : Nat → Nat} {links best errands : Nat → Int32} {pr all N : Nat} (hall : all ≤ 8) {i m : Nat} (hi : i < 256) (hs : ∀ k, bt (nI i) k = true → bt (nI N) k = true) (hm : cD (bt (nI i)) 8 + 2 * m = all) (hb : bestK lk er pr all N i best) (hl : ∀ p, bt (nI i) p = true → ∀ q, bt (links p) q = lk p q) (her : ∀ a, bt (nI i) a = true → errands a = nI (er a) ∧ er a ≤ 4) : ∃ w, w ≤ 20 ∧ f_X3_mostKeptIn links best errands (nI i) (nI (m / pr + 1)) = some (nI w) ∧ mxX lk er pr m (nI i) w := by
  have h8 := bits8 hi
  have hdiv := Nat.div_le_self m pr
  have hpair : ∀ p q, p < q → bt (nI i) p = true → bt (nI i) q = true → ∃ w i', w ≤ 20 ∧ i' < i ∧ two (nI i) p q = nI i' ∧ best i' = nI w ∧ m < 4 ∧ mxX lk er pr (m + 1) (two (nI i) p q) w := by
    intro p q h1 h2 h3
    obtain ⟨i', x1, x2⟩ := two_num hi (h8 p h2) (h8 q h3) (by omega) h2 h3
    have y1 := two_cnt (h8 p h2) (h8 q h3) (by omega) h2 h3
    obtain ⟨w, w1, w2, w3⟩ := hb i' x1 (fun k hk => hs k (by rw [← x2] at hk; exact two_sub (h8 p h2) (h8 q h3) hk)) (m + 1) (by rw [← x2]; omega)
    exact ⟨w, i', w1, x1, x2, w2, by omega, by rw [x2]; exact w3⟩
  obtain ⟨w, x1, x2, x3, x4, x5⟩ := kpt6 (lk := lk) (er := er) (links := links) (best := best) (errands := errands) h8 hl her (cr := m / pr + 1) (by omega) (G := fun p q => (best (two (nI i) p q).toNatClampNeg).toNatClampNeg) (fun p q h1 h2 h3 h4 => by
    obtain ⟨w, i', w1, w2, w3, w4, w5, w6⟩ := hpair p q h1 h2 h3
    show (best (two (nI i) p q).toNatClampNeg).toNatClampNeg ≤ 20 ∧ _ ∧ best (two (nI i) p q).toNatClampNeg = nI (best (two (nI i) p q).toNatClampNeg).toNatClampNeg
    rw [w3, nI_clamp (by omega), w4, nI_clamp (by omega)]
    exact ⟨w1, pb_ibt (by omega) (by omega), rfl⟩) 8 rf_fu 0 0 (by omega) (by decide) (by omega)
  have hGv : ∀ p q, p < q → bt (nI i) p = true → bt (nI i) q = true → m < 4 ∧ mxX lk er pr (m + 1) (two (nI i) p q) (best (two (nI i) p q).toNatClampNeg).toNatClampNeg := by
    intro p q h1 h2 h3
    obtain ⟨w, i', w1, w2, w3, w4, w5, w6⟩ := hpair p q h1 h2 h3
    refine ⟨w5, ?_⟩
    have : (best (two (nI i) p q).toNatClampNeg).toNatClampNeg = w := by rw [w3, nI_clamp (by omega), w4, nI_clamp (by omega)]
    rw [this]; exact w6
  have hRX : RX lk er pr (4 - m) m (nI i) w := by
    rcases x4 with x4 | ⟨p, q, _, c2, c3, c4, c5, c6⟩
    · rw [x4]; exact RX_0 _ _ _
    · obtain ⟨g1, g2⟩ := hGv p q c2 c3 c4
      rw [show 4 - m = 4 - (m + 1) + 1 by omega]
      exact Or.inr ⟨p, q, _, c2, c3, c4, c5, g2.1, c6⟩
  have hle := RX_le _ _ _ _ hRX
  refine ⟨w, by omega, x1, hRX, fun v hv => ?_⟩
  by_cases hv0 : v = 0
  · omega
  · by_cases hm4 : m < 4
    · rw [show 4 - m = 4 - (m + 1) + 1 by omega] at hv
      rcases hv with hv | ⟨p, q, v', a1, a2, a3, a4, a5, a6⟩
      · omega
      · obtain ⟨g1, g2⟩ := hGv p q a1 a2 a3
        have y1 := g2.2 v' a5
        have y2 := x5 _ ⟨p, q, by omega, a1, a2, a3, a4, rfl⟩
        omega
    · rw [show 4 - m = 0 by omega] at hv
      exact absurd hv hv0
theorem bcN {i : Nat} (hi : i < 256) : rf_bc (nI i) = nI (cD (bt (nI i)) 8) := by
  rw [bc_s (by omega), ← pop_cD, numF_congr (T := i.testBit) 8 (fun k _ => bt_nI (by omega) k), num_bits hi]
theorem prX {pr : Nat} (h1 : 1 ≤ pr) (h3 : pr ≤ 3) : (if (1 : Int32) < nI pr then nI pr else 1) = nI pr := by
  obtain rfl | rfl | rfl : pr = 1 ∨ pr = 2 ∨ pr = 3 := by omega
  · rfl
  · rfl
  · rfl
theorem kptX9 {lk : Nat → Nat → Bool} {er : Nat → Nat} {links errands : Nat → Int32} {pr N : Nat} (h1 : 1 ≤ pr) (h3 : pr ≤ 3) (hN : N < 256) (hl : ∀ p, bt (nI N) p = true → ∀ q, bt (links p) q = lk p q) (her : ∀ a, bt (nI N) a = true → errands a = nI (er a) ∧ er a ≤ 4) : ∀ d n i : Nat, ∀ best : Nat → Int32, i + d = N + 1 → d < n → bestK lk er pr (cD (bt (nI N)) 8) N i best →
    ∃ best' w, f_X3_mostKept_9 (nI pr) links errands n (nI N) (nI (cD (bt (nI N)) 8)) (nI i) best = some (nI w, best') ∧ mxX lk er pr 0 (nI N) w := by
  have hall := cD_le (bt (nI N)) 8
  intro d
  induction d with
  | zero =>
    intro n i best hi hn hb
    obtain ⟨n', rfl, hn'⟩ := fuel_succ hn
    obtain ⟨w, w1, w2, w3⟩ := hb N (by omega) (fun _ h => h) 0 (by omega)
    refine ⟨best, w, ?_, w3⟩
    rw [f_X3_mostKept_9, if_pos (nI_lt (by omega) (by omega)), f_X3_mostKept_89, and255 hN, if_pos (pb_ibt (by omega) hN), nI_clamp (by omega), w2]
  | succ d ih =>
    intro n i best hi hn hb
    obtain ⟨n', rfl, hn'⟩ := fuel_succ hn
    have hi256 : i < 256 := by omega
    rw [f_X3_mostKept_9, if_neg (nI_nlt (by omega) (by omega)), if_neg (by simp (disch := omega) only [pb_lits, pb_ltT, pb_ltF, pb_leT, pb_leF, pb_eqT, pb_eqF, pb_lt, pb_le, pb_eq, pb_add, pb_mul, pb_sub, pb_cl, pb_ibt, pb_eqm, pb_meq, pb_ltm, pb_mlt, pb_lem, pb_mle, ite_true, ite_false, reduceIte, not_true_eq_false, not_false_eq_true, pb_bind, Nat.zero_add, Nat.add_zero]), f_J6_bitCount_0f7a4, pb_bind, bcN hi256]
    simp only [f_X3_mostKept_83]
    rw [nI_1, prX h1 h3]
    by_cases hsub : nI i &&& (nI N ^^^ (-1)) = 0
    · have hs := subT.mp hsub
      have hcnt := cD_sub (s := bt (nI i)) (t := bt (nI N)) 8 (fun k _ => hs k)
      rw [if_pos hsub, pb_sub hcnt]
      rw [show nI (cD (bt (nI N)) 8 - cD (bt (nI i)) 8) - nI (cD (bt (nI N)) 8 - cD (bt (nI i)) 8) / 2 * 2 = nI ((cD (bt (nI N)) 8 - cD (bt (nI i)) 8) % 2) from pb_rem (b := 2) (by omega) (by decide) (by decide)]
      by_cases hev : (cD (bt (nI N)) 8 - cD (bt (nI i)) 8) % 2 = 0
      · have hm : cD (bt (nI i)) 8 + 2 * ((cD (bt (nI N)) 8 - cD (bt (nI i)) 8) / 2) = cD (bt (nI N)) 8 := by omega
        obtain ⟨w, w1, w2, w3⟩ := kptIn_s (pr := pr) hall hi256 hs hm hb (fun p hp => hl p (hs p hp)) (fun a ha => her a (hs a ha))
        have hdd := Nat.div_le_self ((cD (bt (nI N)) 8 - cD (bt (nI i)) 8) / 2) pr
        rw [if_pos (show nI ((cD (bt (nI N)) 8 - cD (bt (nI i)) 8) % 2) = 0 by rw [hev]; rfl), if_neg (show ¬ nI pr = 0 from fun z => by have := (nI_eq (a := pr) (b := 0) (by omega) (by decide)).mp z; omega)]
        rw [show nI (cD (bt (nI N)) 8 - cD (bt (nI i)) 8) / 2 = nI ((cD (bt (nI N)) 8 - cD (bt (nI i)) 8) / 2) from pb_div (b := 2) (by omega) (by decide) (by decide), pb_div (by omega) (by omega) (by omega), nI_1, w2, pb_bind, if_pos (pb_ibt (by omega) hi256), nI_clamp (by omega)]
        refine ih n' (i + 1) _ (by omega) (by omega) (fun i' hi' hs' m' hm' => ?_)
        by_cases e : i' = i
        · subst e
          rw [upd_same]
          refine ⟨w, w1, rfl, ?_⟩
          rw [show m' = (cD (bt (nI N)) 8 - cD (bt (nI i')) 8) / 2 by omega]
          exact w3
        · rw [upd_ne _ _ e]; exact hb i' (by omega) hs' m' hm'
      · rw [if_neg (show ¬ nI ((cD (bt (nI N)) 8 - cD (bt (nI i)) 8) % 2) = 0 from fun z => hev ((nI_eq (b := 0) (by omega) (by decide)).mp z))]
        refine ih n' (i + 1) _ (by omega) (by omega) (fun i' hi' hs' m' hm' => ?_)
        by_cases e : i' = i
        · subst e; omega
        · exact hb i' (by omega) hs' m' hm'
    · rw [if_neg hsub]
      refine ih n' (i + 1) _ (by omega) (by omega) (fun i' hi' hs' m' hm' => ?_)
      by_cases e : i' = i
      · subst e; exact absurd (subT.mpr hs') hsub
      · exact hb i' (by omega) hs' m' hm'
theorem kept43 {has : Int32} {r st : Nat → Int32} {people t tr mk : Int32} {can : Nat → Int32} {pr : Nat} (hr : r 1 = nI pr) : ∀ d n i : Nat, ∀ sA : Nat → Int32, i + d = 5 → 1 ≤ i → d < n → (∀ k, 1 ≤ k → k < i → sA k = nI pr) →
    ∃ sA', (∀ k, 1 ≤ k → k ≤ 4 → sA' k = nI pr) ∧ f_X11_kept_43 has r st n people (nI i) t tr mk can sA = (f_X11_tryErrands r can 12 0 sA' 0 people 0).bind fun z77 => some (z77.1, t, tr, z77.1, can, z77.2) := by
  intro d
  induction d with
  | zero =>
    intro n i sA hi h1 hn hs
    obtain ⟨n', rfl, hn'⟩ := fuel_succ hn
    obtain rfl : i = 5 := by omega
    refine ⟨sA, fun k a b => hs k a (by omega), ?_⟩
    rw [f_X11_kept_43, if_pos (by decide)]
  | succ d ih =>
    intro n i sA hi h1 hn hs
    obtain ⟨n', rfl, hn'⟩ := fuel_succ hn
    rw [f_X11_kept_43, if_neg (show ¬ (4 : Int32) < nI i from nI_nlt (a := 4) (by omega) (by decide)), if_pos (pb_ibt (by omega) (by omega)), nI_1, nI_clamp (by omega), show Int32.toNatClampNeg 1 = 1 from rfl, hr]
    refine ih n' (i + 1) _ (by omega) (by omega) (by omega) (fun k a b => ?_)
    by_cases e : k = i
    · subst e; rw [upd_same]
    · rw [upd_ne _ _ e]; exact hs k a (by omega)
theorem HK_0 (pr : Nat) : HK pr 0 (fun _ => pr) := ⟨fun _ => by show pr + 0 ≤ pr; omega, fun _ => by show pr + pr + 0 ≤ 2 * pr; omega, fun _ => by show pr + pr + pr + 0 ≤ 3 * pr; omega, fun _ => by show pr + pr + pr + pr + 0 ≤ 4 * pr; omega⟩
theorem rf_st22 {j : Nat} : rf_step_22 (rf_Inv j) (rf_Inv (j + 1)) := by
  rintro I J A B I' A' v1 ⟨W, P, G, na, ni, h⟩
  have ht := h.tale
  have hP := ht.P8
  unfold f_X10_kept f_X11_kept
  rw [ht.hpc, ht.hwc, hasFerryX_s (by omega), isHourX_s, h.hasb, whyM_s]
  simp only [pb_bind, refused_s, f_X11_good, f_X11_no]
  by_cases hab : decide (0 < P) = true ∧ gd 24 v1 = true
  · rw [hab.1, hab.2]
    have hPP : 0 < P := of_decide_eq_true hab.1
    obtain ⟨k, hk, rfl⟩ := gd_of (by decide) hab.2
    have hE := h.ears hPP
    have e1 := hE.lo k hk
    have e2 := hE.hi k hk
    have hsub := setF_sub (onB (I 7) 0) hP
    obtain ⟨pr, p1, p3, hpr⟩ := ht.hpairs0 hPP
    obtain ⟨L', l1, l2⟩ := link_s h.cx e1 (by omega) (A 3)
    obtain ⟨can', c1, c2⟩ := layCan_s h.cx e1 (by omega) hsub (A' 7)
    have her : ∀ p, p < P → A 16 p = nI ((A 16 p).toNatClampNeg) ∧ (A 16 p).toNatClampNeg ≤ 4 := fun p hp => by
      obtain ⟨c, c1, c2⟩ := (ht.pers p hp).herr0
      rw [c2, nI_clamp (by omega)]
      exact ⟨rfl, c1⟩
    have her' : ∀ p, p < P → A' 2 (92 + 4 * p) = nI ((A 16 p).toNatClampNeg) ∧ (A 16 p).toNatClampNeg ≤ 4 := fun p hp => by
      rw [← (ht.pers p hp).herr]; exact her p hp
    obtain ⟨sA', s1, s2⟩ := kept43 (has := bI true) (r := A' 2) (st := A' 4) (people := setF (onB (I 7) 0) P) (t := 0) (tr := 0) (mk := I' 16) (can := can') (pr := pr) (by rw [← ht.hpairs, hpr]) 4 rf_fu 1 (A' 10) (by omega) (by omega) (by decide) (fun k a b => by omega)
    obtain ⟨mk, m1, m2, m3⟩ := tryE_l (lk := lkE W P (A' 2) (A 1) (A 14) (earE (I 21) (A 18) k)) (er := fun p => (A 16 p).toNatClampNeg) hP h.cx.rP (can := can') her' hsub (fun p q a b => by
      have := hsub p a
      rw [c2 p (by omega)]
      unfold canF lkE
      rw [if_pos a, bt_and, b, Bool.and_true]) P 0 12 (by omega) (by omega) 0 0 sA' (fun _ => pr) (setF (onB (I 7) 0) P) (fun k a b => ⟨s1 k a b, p3⟩) (by omega) (by omega) (fun _ h => h)
    obtain ⟨N, hN, hNe⟩ := num8 (sub8 hP hsub)
    have hNb : ∀ p, bt (nI N) p = true → p < P := fun p hp => hsub p (by rw [hNe]; exact hp)
    obtain ⟨bx, w, x1, x2, x3⟩ := kptX9 (lk := lkE W P (A' 2) (A 1) (A 14) (earE (I 21) (A 18) k)) (er := fun p => (A 16 p).toNatClampNeg) (links := L') (errands := A 16) p1 p3 hN (fun p hp q => l2 p (hNb p hp) q) (fun a ha => her a (hNb a ha)) (N + 1) rf_fu 0 (A 5) (by omega) (by show _ < 4096; omega) (fun i hi => by omega)
    have hwm : w = mk := by
      apply Nat.le_antisymm
      · have z1 := RX_RZ p1 p3 4 0 _ _ (by omega) x2
        have z2 : RZ (lkE W P (A' 2) (A 1) (A 14) (earE (I 21) (A 18) k)) (fun p => (A 16 p).toNatClampNeg) 4 (fun _ => pr) (nI N) w := RZ_mono _ _ _ _ _ (fun j => by unfold sX; omega) z1
        have z3 := RZ_RM P 0 4 _ _ _ (by omega) (fun k hk => ⟨by omega, by have := hNb k hk; omega⟩) z2
        have := m3.2.2 (0 + w) ⟨w, by rw [hNe]; exact z3, rfl⟩
        omega
      · rcases m3.2.1 with z | ⟨v, z1, z2⟩
        · omega
        · rw [hNe] at z1
          have hc := cD_le (bt (nI N)) 8
          have y1 := RM_RZ P 0 _ _ _ 4 (bits8 hN) (by omega) (by omega) z1
          obtain ⟨v', y2, y3⟩ := RZ_RX (pr := pr) (by omega) 4 0 _ _ _ (bits8 hN) (HK_0 pr) y1
          have := x3 v' y3
          omega
    have hX : f_X3_mostKept (nI pr) L' (A 16) (A 5) (setF (onB (I 7) 0) P) = some (nI w, bx) := by
      unfold f_X3_mostKept
      rw [hNe, f_J6_bitCount_0f7a4, pb_bind, bcN hN]
      exact x1
    have hM : f_X11_kept_43 (bI true) (A' 2) (A' 4) rf_fu (setF (onB (I 7) 0) P) 1 0 0 (I' 16) can' (A' 10) = some (nI mk, 0, 0, nI mk, can', sA') := by
      refine (show _ = _ from s2).trans ?_
      rw [show f_X11_tryErrands (A' 2) can' 12 0 sA' 0 (setF (onB (I 7) 0) P) 0 = some (nI mk, sA') from m1, pb_bind]
    have hoX : f_X2_onBank (I 6) (I 7) 0 = some (setF (onB (I 7) 0) P) := onBankX_s hP h.every h.now.hfar0 (b := 0) (by decide)
    have hoM : f_X11_onBank (A' 2) (A' 4) 0 = some (setF (onB (I 7) 0) P) := onBankM_s hP h.cx.rP h.now.hbank (b := 0) (by decide)
    rw [hE.X k hk, hE.M k hk, hoX, hoM, hpr]
    simp only [pb_bind]
    rw [l1, c1]
    simp only [pb_bind]
    rw [hX, hM, pb_bind, hwm, if_pos (show bI (!(true && true)) = 0 from rfl), if_pos (show whyN true true = 0 from rfl)]
    exact ⟨_, _, rfl, rfl, rfl, h.quiet (h.fault.tell (u := 0) (by decide)) rfl rfl rfl rfl⟩
  · obtain ⟨c1, c2, c3⟩ := whyN_no hab
    rw [if_neg c1, if_neg c2]
    exact ⟨_, _, rfl, rfl, rfl, h.quiet (h.fault.tell c3) rfl rfl rfl rfl⟩
