/-! classes that never meet -/
def clo (L : Nat → Int32) (P : Nat) (s : Int32) : Prop := ∀ q, q < P → bt s q = true → ∀ k, bt (L q) k = true → bt s k = true
def Good (L : Nat → Int32) (P p : Nat) (s : Int32) : Prop := bt s p = true ∧ (∀ k, bt s k = true → k < P) ∧ clo L P s ∧ ∀ T, bt T p = true → clo L P T → ∀ k, bt s k = true → bt T k = true
theorem Good_uniq {L : Nat → Int32} {P p : Nat} {s t : Int32} (h : Good L P p s) (h' : Good L P p t) : s = t := by
  apply bt_ext
  intro k _
  apply Bool.eq_iff_iff.mpr
  exact ⟨h.2.2.2 t h'.1 h'.2.2.1 k, h'.2.2.2 s h.1 h.2.2.1 k⟩
theorem cD_lt {s t : Nat → Bool} : ∀ n, (∀ k, k < n → s k = true → t k = true) → (∃ k, k < n ∧ s k = false ∧ t k = true) → cD s n < cD t n := by
  intro n
  induction n with
  | zero => rintro _ ⟨k, h, _⟩; omega
  | succ n ih =>
    rintro h ⟨k, k1, k2, k3⟩
    have hle : ∀ m, m ≤ n → cD s m ≤ cD t m := by
      intro m
      induction m with
      | zero => intro _; exact Nat.le_refl _
      | succ m ihm =>
        intro hm
        have := ihm (by omega)
        rw [cD, cD]
        by_cases hs : s m = true
        · rw [if_pos hs, if_pos (h m (by omega) hs)]; omega
        · rw [if_neg hs]; omega
    rw [cD, cD]
    by_cases e : k = n
    · subst e
      rw [k2, k3, if_neg (by decide), if_pos rfl]
      have := hle k (Nat.le_refl _)
      omega
    · have := ih (fun k hk => h k (by omega)) ⟨k, by omega, k2, k3⟩
      by_cases hs : s n = true
      · rw [if_pos hs, if_pos (h n (by omega) hs)]; omega
      · rw [if_neg hs]; omega
theorem cD_bound {s : Nat → Bool} {P : Nat} (h : ∀ k, s k = true → k < P) : ∀ n, cD s n ≤ P := by
  intro n
  by_cases hn : n ≤ P
  · exact Nat.le_trans (cD_le s n) hn
  · obtain ⟨d, rfl⟩ : ∃ d, n = P + d := ⟨n - P, by omega⟩
    have : ∀ d, cD s (P + d) = cD s P := by
      intro d
      induction d with
      | zero => rfl
      | succ d ih =>
        rw [← Nat.add_assoc, cD, ih]
        rw [if_neg (fun q => by have := h _ q; omega)]; rfl
    rw [this]
    exact cD_le s P
theorem int_ne {s t : Int32} {P : Nat} (hP : P ≤ 8) (hs : ∀ k, bt s k = true → k < P) (ht : ∀ k, bt t k = true → k < P) (hst : ∀ k, bt s k = true → bt t k = true) (hne : ¬ s = t) : ∃ k, k < 8 ∧ bt s k = false ∧ bt t k = true := by
  apply Classical.byContradiction
  intro hno
  apply hne
  apply bt_ext
  intro k _
  cases h1 : bt t k
  · cases h2 : bt s k
    · rfl
    · rw [hst k h2] at h1; cases h1
  · cases h2 : bt s k
    · exact absurd ⟨k, by have := ht k h1; omega, h2, h1⟩ hno
    · rfl
/-- one more round -/
def rnd (L : Nat → Int32) (P : Nat) (g g' : Int32) : Prop := (∀ k, bt g k = true → bt g' k = true) ∧ (∀ q, q < P → bt g q = true → ∀ k, bt (L q) k = true → bt g' k = true) ∧ (∀ T, clo L P T → (∀ k, bt g k = true → bt T k = true) → ∀ k, bt g' k = true → bt T k = true)
theorem group20 {P : Nat} (hP : P ≤ 8) {L : Nat → Int32} (K : Int32 → Int32 → Option Int32) (v3 : Int32) (g : Int32) : ∀ d n i : Nat, ∀ x : Int32, i + d = P → d < n → (∀ k, bt g k = true → bt x k = true) → (∀ q, q < i → bt g q = true → ∀ k, bt (L q) k = true → bt x k = true) → (∀ T, clo L P T → (∀ k, bt g k = true → bt T k = true) → ∀ k, bt x k = true → bt T k = true) →
    ∃ g', f_X6_groupOf_20 K (nI P) L n x v3 (nI i) = K g' (v3 + 1) ∧ rnd L P g g' := by
  intro d
  induction d with
  | zero =>
    intro n i x hi hn h1 h2 h3
    obtain ⟨n', rfl, hn'⟩ := fuel_succ hn
    refine ⟨x, ?_, h1, fun q hq => h2 q (by omega), h3⟩
    rw [f_X6_groupOf_20, if_pos (nI_le (by omega) (by omega))]
  | succ d ih =>
    intro n i x hi hn h1 h2 h3
    obtain ⟨n', rfl, hn'⟩ := fuel_succ hn
    rw [f_X6_groupOf_20, if_neg (nI_ge (by omega) (by omega)), holdsX_s _ (by omega), pb_bind]
    simp only [f_X6_groupOf_53]
    rw [nI_1]
    cases hb : bt x i
    · rw [if_pos (show bI false = 0 from rfl), show ∀ y : Int32, y ||| 0 = y from or_nI0]
      exact ih n' (i + 1) x (by omega) (by omega) h1 (fun q hq hg k hk => by
        by_cases e : q = i
        · subst e; rw [h1 q hg] at hb; cases hb
        · exact h2 q (by omega) hg k hk) h3
    · rw [if_neg (show ¬ bI true = 0 by decide), if_pos (pb_ibt (by omega) (by omega)), nI_clamp (by omega)]
      refine ih n' (i + 1) (x ||| L i) (by omega) (by omega) (fun k hk => by rw [bt_or, h1 k hk]; rfl) (fun q hq hg k hk => ?_) (fun T hT hgT k hk => ?_)
      · rw [bt_or]
        by_cases e : q = i
        · subst e; rw [hk, Bool.or_true]
        · rw [h2 q (by omega) hg k hk]; rfl
      · rw [bt_or, Bool.or_eq_true] at hk
        rcases hk with hk | hk
        · exact h3 T hT hgT k hk
        · exact hT i (by omega) (h3 T hT hgT i hb) k hk
theorem rnd_step {P : Nat} (hP : P ≤ 8) {L : Nat → Int32} (hL : ∀ q, q < P → ∀ k, bt (L q) k = true → k < P) {p : Nat} {g g' : Int32} (hr : rnd L P g g') (h1 : bt g p = true) (h2 : ∀ k, bt g k = true → k < P) (h3 : ∀ T, bt T p = true → clo L P T → ∀ k, bt g k = true → bt T k = true) {c : Nat} (hc : clo L P g ∨ c ≤ cD (bt g) 8) :
    bt g' p = true ∧ (∀ k, bt g' k = true → k < P) ∧ (∀ T, bt T p = true → clo L P T → ∀ k, bt g' k = true → bt T k = true) ∧ (clo L P g' ∨ c + 1 ≤ cD (bt g') 8) := by
  have full : ∀ k, bt g' k = true → k < P := by
    intro k hk
    have := hr.2.2 (setF (fun _ => true) P) (fun q hq _ k hk => by rw [bt_setF _ P (by omega), decide_eq_true (hL q hq k hk)]; rfl) (fun k hk => by rw [bt_setF _ P (by omega), decide_eq_true (h2 k hk)]; rfl) k hk
    exact setF_sub _ hP k this
  refine ⟨hr.1 p h1, full, fun T hT1 hT2 => hr.2.2 T hT2 (h3 T hT1 hT2), ?_⟩
  by_cases e : g = g'
  · left
    intro q hq hb k hk
    rw [← e] at hb
    exact hr.2.1 q hq hb k hk
  · have hlt := cD_lt 8 (fun k _ => hr.1 k) (int_ne hP h2 full hr.1 e)
    rcases hc with hc | hc
    · left
      have : g' = g := by
        apply bt_ext
        intro k _
        apply Bool.eq_iff_iff.mpr
        exact ⟨hr.2.2 g hc (fun _ h => h) k, hr.1 k⟩
      exact absurd this.symm e
    · right; omega
theorem group6 {P : Nat} (hP : P ≤ 8) {L : Nat → Int32} (hL : ∀ q, q < P → ∀ k, bt (L q) k = true → k < P) {p : Nat} : ∀ d n i : Nat, ∀ g : Int32, i + d = P → d < n → bt g p = true → (∀ k, bt g k = true → k < P) → (∀ T, bt T p = true → clo L P T → ∀ k, bt g k = true → bt T k = true) → (clo L P g ∨ i + 1 ≤ cD (bt g) 8) →
    ∃ s, f_X6_groupOf_6 (nI P) L n g (nI i) = some s ∧ Good L P p s := by
  intro d
  induction d with
  | zero =>
    intro n i g hi hn h1 h2 h3 h4
    obtain ⟨n', rfl, hn'⟩ := fuel_succ hn
    refine ⟨g, ?_, h1, h2, ?_, h3⟩
    · rw [f_X6_groupOf_6, if_pos (nI_le (by omega) (by omega))]
    · rcases h4 with h4 | h4
      · exact h4
      · have := cD_bound h2 8; omega
  | succ d ih =>
    intro n i g hi hn h1 h2 h3 h4
    obtain ⟨n', rfl, hn'⟩ := fuel_succ hn
    obtain ⟨g', q1, q2⟩ := group20 hP (L := L) (f_X6_groupOf_6 (nI P) L n') (nI i) g P rf_fu 0 g (by omega) (by show P < 4096; omega) (fun _ h => h) (fun q hq => by omega) (fun T _ h => h)
    obtain ⟨a1, a2, a3, a4⟩ := rnd_step hP hL q2 h1 h2 h3 h4
    rw [f_X6_groupOf_6, if_neg (nI_ge (by omega) (by omega)), show (0 : Int32) = nI 0 from rfl, q1, nI_1]
    exact ih n' (i + 1) g' (by omega) (by omega) a1 a2 a3 (by rcases a4 with a4 | a4; exact Or.inl a4; exact Or.inr (by omega))
theorem groupOf_s {P : Nat} (hP : P ≤ 8) {L : Nat → Int32} (hL : ∀ q, q < P → ∀ k, bt (L q) k = true → k < P) {p : Nat} (hp : p < P) : ∃ s, f_X6_groupOf (nI P) L (nI p) = some s ∧ Good L P p s := by
  have hb : ∀ k, bt ((1 : Int32) <<< (nI p &&& 31)) k = decide (k = p) := fun k => bt_1s (by omega) k
  refine group6 hP hL P rf_fu 0 _ (by omega) (by show P < 4096; omega) ?_ ?_ ?_ (Or.inr ?_)
  · rw [hb, decide_eq_true rfl]
  · intro k hk; rw [hb] at hk; have := of_decide_eq_true hk; omega
  · intro T hT _ k hk; rw [hb] at hk; rw [of_decide_eq_true hk]; exact hT
  · rw [cD_congr 8 (fun k _ => hb k), cD_one 8 (by omega)]; omega
/-! the reference's -/
theorem class19 {W P : Nat} {r st close words kinds : Nat → Int32} (h : pCx W P r st close words kinds) {e : Nat} (he1 : 1 ≤ e) (he : e ≤ 7) (K : Int32 → Int32 → Int32 → Option Int32) (g : Int32) : ∀ d n i : Nat, ∀ x : Int32, i + d = P → d < n → (∀ k, bt g k = true → bt x k = true) → (∀ q, q < i → bt g q = true → ∀ k, bt (setF (metb W r words kinds q (words q) (nI 0) e) P) k = true → bt x k = true) → (∀ T, clo (fun q => setF (metb W r words kinds q (words q) (nI 0) e) P) P T → (∀ k, bt g k = true → bt T k = true) → ∀ k, bt x k = true → bt T k = true) →
    ∃ g', f_X11_classBy_19 K r st n (nI e) x g (nI i) = K (nI e) g' g ∧ rnd (fun q => setF (metb W r words kinds q (words q) (nI 0) e) P) P g g' := by
  have hP := h.P8
  intro d
  induction d with
  | zero =>
    intro n i x hi hn h1 h2 h3
    obtain ⟨n', rfl, hn'⟩ := fuel_succ hn
    refine ⟨x, ?_, h1, fun q hq => h2 q (by omega), h3⟩
    rw [f_X11_classBy_19, show Int32.toNatClampNeg 3 = 3 from rfl, h.rP, if_pos (nI_le (by omega) (by omega))]
  | succ d ih =>
    intro n i x hi hn h1 h2 h3
    obtain ⟨n', rfl, hn'⟩ := fuel_succ hn
    rw [f_X11_classBy_19, show Int32.toNatClampNeg 3 = 3 from rfl, h.rP, if_neg (nI_ge (by omega) (by omega)), hasBitM_s _ (by omega), pb_bind]
    simp only [f_X11_classBy_62]
    rw [nI_1]
    cases hb : bt g i
    · rw [if_pos (show bI false = 0 from rfl), show ∀ y : Int32, y ||| 0 = y from or_nI0]
      exact ih n' (i + 1) x (by omega) (by omega) h1 (fun q hq hg k hk => by
        by_cases eq : q = i
        · subst eq; rw [hg] at hb; cases hb
        · exact h2 q (by omega) hg k hk) h3
    · rw [if_neg (show ¬ bI true = 0 by decide), if_pos (show rf_ib (8 + nI i) 26 = true by simp (disch := omega) only [pb_lits, pb_ltT, pb_ltF, pb_leT, pb_leF, pb_eqT, pb_eqF, pb_lt, pb_le, pb_eq, pb_add, pb_mul, pb_sub, pb_cl, pb_ibt, pb_eqm, pb_meq, pb_ltm, pb_mlt, pb_lem, pb_mle, ite_true, ite_false, reduceIte, not_true_eq_false, not_false_eq_true, pb_bind, Nat.zero_add, Nat.add_zero]), show (8 + nI i).toNatClampNeg = 8 + i by simp (disch := omega) only [pb_lits, pb_ltT, pb_ltF, pb_leT, pb_leF, pb_eqT, pb_eqF, pb_lt, pb_le, pb_eq, pb_add, pb_mul, pb_sub, pb_cl, pb_ibt, pb_eqm, pb_meq, pb_ltm, pb_mlt, pb_lem, pb_mle, ite_true, ite_false, reduceIte, not_true_eq_false, not_false_eq_true, pb_bind, Nat.zero_add, Nat.add_zero], ← h.wd i (by omega), withBy_s h (by omega) he1 he (h.hw i (by omega)), pb_bind]
      refine ih n' (i + 1) _ (by omega) (by omega) (fun k hk => by rw [bt_or, h1 k hk]; rfl) (fun q hq hg k hk => ?_) (fun T hT hgT k hk => ?_)
      · rw [bt_or]
        by_cases eq : q = i
        · subst eq; rw [hk, Bool.or_true]
        · rw [h2 q (by omega) hg k hk]; rfl
      · rw [bt_or, Bool.or_eq_true] at hk
        rcases hk with hk | hk
        · exact h3 T hT hgT k hk
        · exact hT i (by omega) (hgT i hb) k hk
theorem class7 {W P : Nat} {r st close words kinds : Nat → Int32} (h : pCx W P r st close words kinds) {e : Nat} (he1 : 1 ≤ e) (he : e ≤ 7) {p : Nat} : ∀ c n : Nat, ∀ g b : Int32, 9 ≤ c + cD (bt g) 8 → c + 1 < n → bt g p = true → (∀ k, bt g k = true → k < P) → (∀ T, bt T p = true → clo (fun q => setF (metb W r words kinds q (words q) (nI 0) e) P) P T → ∀ k, bt g k = true → bt T k = true) → (b = g → clo (fun q => setF (metb W r words kinds q (words q) (nI 0) e) P) P g) →
    ∃ s, f_X11_classBy_7 r st n (nI e) g b = some s ∧ Good (fun q => setF (metb W r words kinds q (words q) (nI 0) e) P) P p s := by
  have hP := h.P8
  intro c
  induction c with
  | zero =>
    intro n g b hc hn h1 h2 h3 h4
    have := cD_bound h2 8
    omega
  | succ c ih =>
    intro n g b hc hn h1 h2 h3 h4
    obtain ⟨n', rfl, hn'⟩ := fuel_succ hn
    rw [f_X11_classBy_7]
    by_cases hbg : b = g
    · rw [if_pos hbg]
      exact ⟨g, rfl, h1, h2, h4 hbg, h3⟩
    · rw [if_neg hbg]
      obtain ⟨g', q1, q2⟩ := class19 h he1 he (f_X11_classBy_7 r st n') g P rf_fu 0 g (by omega) (by show P < 4096; omega) (fun _ h => h) (fun q hq => by omega) (fun T _ h => h)
      obtain ⟨a1, a2, a3, a4⟩ := rnd_step hP (L := fun q => setF (metb W r words kinds q (words q) (nI 0) e) P) (fun q _ k hk => setF_sub _ hP k hk) q2 h1 h2 h3 (c := cD (bt g) 8) (Or.inr (Nat.le_refl _))
      rw [show (0 : Int32) = nI 0 from rfl, q1]
      by_cases hgg : g = g'
      · subst hgg
        have hclo : clo (fun q => setF (metb W r words kinds q (words q) (nI 0) e) P) P g := fun q hq hb k hk => q2.2.1 q hq hb k hk
        obtain ⟨n2, rfl, hn2⟩ := fuel_succ (d := 0) (n := n') (by omega)
        rw [f_X11_classBy_7, if_pos rfl]
        exact ⟨g, rfl, h1, h2, hclo, h3⟩
      · have hlt := cD_lt 8 (fun k _ => q2.1 k) (int_ne hP h2 a2 q2.1 hgg)
        exact ih n' g' g (by omega) (by omega) a1 a2 a3 (fun q => absurd q hgg)
theorem classBy_s {W P : Nat} {r st close words kinds : Nat → Int32} (h : pCx W P r st close words kinds) {e : Nat} (he1 : 1 ≤ e) (he : e ≤ 7) {p : Nat} (hp : p < P) : ∃ s, f_X11_classBy r st (nI p) (nI e) = some s ∧ Good (fun q => setF (metb W r words kinds q (words q) (nI 0) e) P) P p s := by
  have hP := h.P8
  have hb : ∀ k, bt ((1 : Int32) <<< (nI p &&& 31)) k = decide (k = p) := fun k => bt_1s (by omega) k
  refine class7 h he1 he 9 rf_fu _ 0 (by omega) (by decide) ?_ ?_ ?_ (fun q => ?_)
  · rw [hb, decide_eq_true rfl]
  · intro k hk; rw [hb] at hk; have := of_decide_eq_true hk; omega
  · intro T hT _ k hk; rw [hb] at hk; rw [of_decide_eq_true hk]; exact hT
  · exfalso
    have h1 := hb p
    rw [← q, bt_0, decide_eq_true rfl] at h1
    cases h1
