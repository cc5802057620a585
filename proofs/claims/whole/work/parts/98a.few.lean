/-! the fewest words that are enough -/
def Rmin (ok : Nat → Bool) (W : Nat) (r : Int32) : Prop := (ok (2 ^ W - 1) = false ∧ r = -2) ∨ (ok (2 ^ W - 1) = true ∧ ∃ m, m < 2 ^ W ∧ r = nI m ∧ ok m = true ∧ ∀ s, s < 2 ^ W → ok s = true → pop m < pop s ∨ (pop m = pop s ∧ m ≤ s))
theorem Rmin_uniq {ok : Nat → Bool} {W : Nat} {r r' : Int32} (h : Rmin ok W r) (h' : Rmin ok W r') : r = r' := by
  rcases h with ⟨a, b⟩ | ⟨a, m, m1, m2, m3, m4⟩
  · rcases h' with ⟨c, d⟩ | ⟨c, _⟩
    · rw [b, d]
    · rw [a] at c; cases c
  · rcases h' with ⟨c, _⟩ | ⟨c, n, n1, n2, n3, n4⟩
    · rw [a] at c; cases c
    · have x := m4 n n1 n3
      have y := n4 m m1 m3
      rw [m2, n2]
      congr 1
      omega
set_option maxRecDepth 100000 in
theorem pop_all : ∀ W : Fin 11, pop (2 ^ W.1 - 1) = W.1 := by decide +kernel
set_option maxRecDepth 100000 in
theorem pop_sub : ∀ W : Fin 11, ∀ m : Fin 1024, m.1 < 2 ^ W.1 - 1 → pop m.1 < W.1 := by decide +kernel
theorem all_s {W : Nat} (hW : W ≤ 10) : ((1 : Int32) <<< (nI W &&& 31)) - 1 = nI (2 ^ W - 1) := by
  have h : ∀ V : Fin 11, ((1 : Int32) <<< (nI V.1 &&& 31)) - 1 = nI (2 ^ V.1 - 1) := by decide +kernel
  exact h ⟨W, by omega⟩
theorem shl_s {W : Nat} (hW : W ≤ 10) : ((1 : Int32) <<< (nI W &&& 31)) = nI (2 ^ W) := by
  have h : ∀ V : Fin 11, ((1 : Int32) <<< (nI V.1 &&& 31)) = nI (2 ^ V.1) := by decide +kernel
  exact h ⟨W, by omega⟩
theorem pw_le {W : Nat} (hW : W ≤ 10) : 1 ≤ 2 ^ W ∧ 2 ^ W ≤ 1024 := ⟨Nat.two_pow_pos W, Nat.pow_le_pow_right (n := 2) (j := 10) (by decide) hW⟩
theorem few41 {people : Int32} {W P : Nat} (hW : W ≤ 10) {rl sg lb : Nat → Int32} {v1 : Int32} {ok : Nat → Bool}
    (hE : ∀ L m, m < 2 ^ W → ∃ L', f_X4_isEnough people (nI W) (nI P) rl sg lb L (nI m) v1 = some (bI (ok m), L'))
    (K : Int32 → Int32 → Int32 → Int32 → (Nat → Int32) → Option (Int32 × (Nat → Int32))) {c : Nat} (hc : c < 20) : ∀ d n i : Nat, ∀ L : Nat → Int32, i + d = 2 ^ W - 1 → d < n → (∀ s, s < i → pop s = c → ok s = false) →
    (∃ m L', m < 2 ^ W - 1 ∧ pop m = c ∧ ok m = true ∧ (∀ s, s < m → pop s = c → ok s = false) ∧ f_X4_fewest_41 K people (nI W) (nI P) rl sg lb n v1 (nI W) (nI (2 ^ W - 1)) (nI c) (nI i) L = some (nI m, L')) ∨
    (∃ L', (∀ s, s < 2 ^ W - 1 → pop s = c → ok s = false) ∧ f_X4_fewest_41 K people (nI W) (nI P) rl sg lb n v1 (nI W) (nI (2 ^ W - 1)) (nI c) (nI i) L = K v1 (nI W) (nI (2 ^ W - 1)) (nI (c + 1)) L') := by
  have hp := pw_le hW
  intro d
  induction d with
  | zero =>
    intro n i L hi hn h
    obtain ⟨n', rfl, hn'⟩ := fuel_succ hn
    refine Or.inr ⟨L, by rw [← hi]; exact h, ?_⟩
    rw [f_X4_fewest_41, if_pos (nI_le (by omega) (by omega)), nI_1]
  | succ d ih =>
    intro n i L hi hn h
    obtain ⟨n', rfl, hn'⟩ := fuel_succ hn
    have hpop := pop_le (m := i) (by omega)
    rw [f_X4_fewest_41, if_neg (nI_ge (by omega) (by omega)), f_J6_bitCount_0f7a4, pb_bind, bc_s (by omega)]
    simp only [f_X4_fewest_70]
    rw [nI_1]
    by_cases hpc : pop i = c
    · obtain ⟨L', hL'⟩ := hE L i (by omega)
      rw [if_pos (by rw [hpc]), hL', pb_bind]
      cases hok : ok i
      · rw [if_pos (show bI false = 0 from rfl)]
        exact ih n' (i + 1) L' (by omega) (by omega) (fun s hs hps => by
          by_cases e : s = i
          · subst e; exact hok
          · exact h s (by omega) hps)
      · rw [if_neg (show ¬ bI true = 0 by decide)]
        exact Or.inl ⟨i, L', by omega, hpc, hok, h, rfl⟩
    · rw [if_neg (fun q => hpc ((nI_eq (by omega) (by omega)).mp q))]
      exact ih n' (i + 1) L (by omega) (by omega) (fun s hs hps => by
        by_cases e : s = i
        · subst e; exact absurd hps hpc
        · exact h s (by omega) hps)
theorem few32 {people : Int32} {W P : Nat} (hW : W ≤ 10) {rl sg lb : Nat → Int32} {v1 : Int32} {ok : Nat → Bool}
    (hE : ∀ L m, m < 2 ^ W → ∃ L', f_X4_isEnough people (nI W) (nI P) rl sg lb L (nI m) v1 = some (bI (ok m), L')) (hall : ok (2 ^ W - 1) = true) : ∀ d n c : Nat, ∀ L : Nat → Int32, c + d = W → d < n → (∀ s, s < 2 ^ W - 1 → pop s < c → ok s = false) →
    ∃ r L', f_X4_fewest_32 people (nI W) (nI P) rl sg lb n v1 (nI W) (nI (2 ^ W - 1)) (nI c) L = some (r, L') ∧ Rmin ok W r := by
  have hp := pw_le hW
  intro d
  induction d with
  | zero =>
    intro n c L hi hn h
    obtain ⟨n', rfl, hn'⟩ := fuel_succ hn
    rw [f_X4_fewest_32, if_pos (nI_le (by omega) (by omega))]
    refine ⟨_, L, rfl, Or.inr ⟨hall, 2 ^ W - 1, by omega, rfl, hall, fun s hs hok => ?_⟩⟩
    by_cases e : s = 2 ^ W - 1
    · subst e; exact Or.inr ⟨rfl, Nat.le_refl _⟩
    · have h1 := pop_sub ⟨W, by omega⟩ ⟨s, by omega⟩ (by show s < 2 ^ W - 1; omega)
      have h2 : pop s < c := by rw [show c = W by omega]; exact h1
      rw [h s (by omega) h2] at hok
      cases hok
  | succ d ih =>
    intro n c L hi hn h
    obtain ⟨n', rfl, hn'⟩ := fuel_succ hn
    rw [f_X4_fewest_32, if_neg (nI_ge (by omega) (by omega)), show (0 : Int32) = nI 0 from rfl]
    rcases few41 hW hE (f_X4_fewest_32 people (nI W) (nI P) rl sg lb n') (c := c) (by omega) (2 ^ W - 1) rf_fu 0 L (by omega) (by show _ < 4096; omega) (fun s hs => by omega) with ⟨m, L', a1, a2, a3, a4, a5⟩ | ⟨L', a1, a2⟩
    · rw [a5]
      refine ⟨_, L', rfl, Or.inr ⟨hall, m, by omega, rfl, a3, fun s hs hok => ?_⟩⟩
      by_cases e : s = 2 ^ W - 1
      · subst e
        have h1 := pop_all ⟨W, by omega⟩
        have h2 : pop (2 ^ W - 1) = W := h1
        exact Or.inl (by omega)
      · by_cases h1 : pop s < c
        · rw [h s (by omega) h1] at hok; cases hok
        · by_cases h2 : pop s = c
          · refine Or.inr ⟨by omega, ?_⟩
            apply Nat.le_of_not_lt
            intro hlt
            rw [a4 s hlt h2] at hok; cases hok
          · exact Or.inl (by omega)
    · rw [a2]
      exact ih n' (c + 1) L' (by omega) (by omega) (fun s hs hps => by
        by_cases h2 : pop s = c
        · exact a1 s hs h2
        · exact h s hs (by omega))
theorem fewest_s {people : Int32} {W P : Nat} (hW : W ≤ 10) {rl sg lb : Nat → Int32} {v1 : Int32} {ok : Nat → Bool}
    (hE : ∀ L m, m < 2 ^ W → ∃ L', f_X4_isEnough people (nI W) (nI P) rl sg lb L (nI m) v1 = some (bI (ok m), L')) (L : Nat → Int32) :
    ∃ r L', f_X4_fewest people (nI W) (nI P) rl sg lb L v1 = some (r, L') ∧ Rmin ok W r := by
  have hp := pw_le hW
  obtain ⟨L1, h1⟩ := hE L (2 ^ W - 1) (by omega)
  unfold f_X4_fewest
  rw [all_s hW, h1, pb_bind]
  cases hall : ok (2 ^ W - 1)
  · rw [if_pos (show bI false = 0 from rfl)]
    exact ⟨_, _, rfl, Or.inl ⟨hall, rfl⟩⟩
  · rw [if_neg (show ¬ bI true = 0 by decide)]
    exact few32 hW hE hall W rf_fu 0 L1 (by omega) (by show W < 4096; omega) (fun s _ h => by omega)
/-! the reference's -/
theorem keep72 {W : Nat} (hW : W ≤ 10) {r st : Nat → Int32} (hr : r 2 = nI W) {has v2 v4 e : Int32} (hear : f_X11_earAt r v2 = some e) {ok : Nat → Bool} (hall : ok (2 ^ W - 1) = true)
    (hE : ∀ can m, m < 2 ^ W → ∃ can', f_X11_areAllPaired r st can v4 (nI m) e = some (bI (ok m), can')) : ∀ d n i b : Nat, ∀ can : Nat → Int32, i + d = 2 ^ W → d < n → b < 2 ^ W → ok b = true → (b < i ∨ b = 2 ^ W - 1) → (∀ s, s < i → ok s = true → pop b < pop s ∨ (pop b = pop s ∧ b ≤ s)) →
    ∃ x can', f_X11_keep_72 has r st n v2 v4 (nI b) (nI i) 0 0 can = some (x, 0, 0, can') ∧ Rmin ok W x := by
  have hp := pw_le hW
  intro d
  induction d with
  | zero =>
    intro n i b can hi hn hb hok hbi h
    obtain ⟨n', rfl, hn'⟩ := fuel_succ hn
    rw [f_X11_keep_72, show Int32.toNatClampNeg 2 = 2 from rfl, hr, shl_s hW, if_pos (nI_le (by omega) (by omega))]
    exact ⟨_, can, rfl, Or.inr ⟨hall, b, hb, rfl, hok, fun s hs => h s (by omega)⟩⟩
  | succ d ih =>
    intro n i b can hi hn hb hok hbi h
    obtain ⟨n', rfl, hn'⟩ := fuel_succ hn
    have p1 := pop_le (m := i) (by omega)
    have p2 := pop_le (m := b) (by omega)
    rw [f_X11_keep_72, show Int32.toNatClampNeg 2 = 2 from rfl, hr, shl_s hW, if_neg (nI_ge (by omega) (by omega)), ones_s (by omega), ones_s (by omega), pb_bind, pb_bind, hear, pb_bind]
    simp only [f_X11_keep_118]
    rw [nI_1]
    by_cases hle : pop b ≤ pop i
    · rw [if_pos (nI_le hle (by omega))]
      refine ih n' (i + 1) b can (by omega) (by omega) hb hok (by omega) (fun s hs hoks => ?_)
      by_cases es : s = i
      · subst es
        by_cases h2 : pop b < pop s
        · exact Or.inl h2
        · refine Or.inr ⟨by omega, ?_⟩
          rcases hbi with h3 | h3
          · omega
          · by_cases h4 : s = 2 ^ W - 1
            · omega
            · have h5 := pop_sub ⟨W, by omega⟩ ⟨s, by omega⟩ (by show s < 2 ^ W - 1; omega)
              have h6 : pop s < W := h5
              have h7 : pop (2 ^ W - 1) = W := pop_all ⟨W, by omega⟩
              rw [h3] at hle
              omega
      · exact h s (by omega) hoks
    · rw [if_neg (nI_ge (by omega) (by omega))]
      obtain ⟨can', hc⟩ := hE can i (by omega)
      rw [hc, pb_bind]
      cases hok2 : ok i
      · rw [if_pos (show bI false = 0 from rfl)]
        refine ih n' (i + 1) b can' (by omega) (by omega) hb hok (by omega) (fun s hs hoks => ?_)
        by_cases es : s = i
        · subst es; rw [hok2] at hoks; cases hoks
        · exact h s (by omega) hoks
      · rw [if_neg (show ¬ bI true = 0 by decide)]
        refine ih n' (i + 1) i can' (by omega) (by omega) (by omega) hok2 (by omega) (fun s hs hoks => ?_)
        by_cases es : s = i
        · subst es; exact Or.inr ⟨rfl, Nat.le_refl _⟩
        · have := h s (by omega) hoks
          exact Or.inl (by omega)
