/-! what it costs that two rhyme -/
def cpr (words : Nat → Int32) (pr : Nat → Nat) (p w : Nat) : Nat := if bt (words p) w = true then 0 else pr w
/-- c is the least cost of p and q; 1000000: never -/
def lstC (W : Nat) (fitB : Nat → Nat → Bool) (a b : Nat → Nat) (c : Nat) : Prop := (c = 1000000 ∧ ∀ w u, w < W → u < W → fitB w u = false) ∨ (c ≤ 198 ∧ (∃ w u, w < W ∧ u < W ∧ fitB w u = true ∧ c = a w + b u) ∧ ∀ w u, w < W → u < W → fitB w u = true → c ≤ a w + b u)
theorem lstC_uniq {W : Nat} {fitB : Nat → Nat → Bool} {a b : Nat → Nat} {c c' : Nat} (h : lstC W fitB a b c) (h' : lstC W fitB a b c') : c = c' := by
  rcases h with ⟨h1, h2⟩ | ⟨h1, ⟨w, u, w1, u1, f, e⟩, h3⟩
  · rcases h' with ⟨g1, g2⟩ | ⟨g1, ⟨w, u, w1, u1, f, e⟩, g3⟩
    · omega
    · rw [h2 w u w1 u1] at f; cases f
  · rcases h' with ⟨g1, g2⟩ | ⟨g1, ⟨w', u', w2, u2, f', e'⟩, g3⟩
    · rw [g2 w u w1 u1] at f; cases f
    · have x := h3 w' u' w2 u2 f'
      have y := g3 w u w1 u1 f
      omega
/-- the class's number of a cost -/
def coX (c : Option Nat) : Int32 := match c with
  | none => -1
  | some x => nI x
def lowO (c : Option Nat) (x : Nat) : Option Nat := match c with
  | none => some x
  | some y => if y ≤ x then some y else some x
/-- c is the least of those so far -/
def lstO (D : Nat → Nat → Prop) (fitB : Nat → Nat → Bool) (a b : Nat → Nat) (c : Option Nat) : Prop := match c with
  | none => ∀ w u, D w u → fitB w u = false
  | some x => x ≤ 198 ∧ (∃ w u, D w u ∧ fitB w u = true ∧ x = a w + b u) ∧ ∀ w u, D w u → fitB w u = true → x ≤ a w + b u
theorem coinsX79 {W P : Nat} (hW : W ≤ 10) {words prices kinds close : Nat → Int32} {pr : Nat → Nat} (hpr : ∀ w, w < W → prices w = nI (pr w) ∧ pr w ≤ 99) {fitB : Nat → Nat → Bool} {ear v5 fits : Int32} {p q w x : Nat} (hp : p < 8) (hq : q < 8) (hf : ∀ u, u < W → bt fits u = fitB w u) (hx : x = cpr words pr p w) (hx99 : x ≤ 99) (K : Int32 → Int32 → Int32 → Int32 → Int32 → Option Int32) : ∀ d n i : Nat, ∀ c : Option Nat, i + d = W → d < n → lstO (fun w' u => w' < w ∧ u < W ∨ w' = w ∧ u < i) fitB (cpr words pr p) (cpr words pr q) c →
    ∃ c', f_X4_coinsFor_82 K (nI W) words prices kinds close n (nI p) (nI q) ear (coX c) v5 fits (nI x) (nI i) = K (nI p) (nI q) ear (coX c') (v5 + 1) ∧ lstO (fun w' u => w' < w ∧ u < W ∨ w' = w ∧ u < W) fitB (cpr words pr p) (cpr words pr q) c' := by
  intro d
  induction d with
  | zero =>
    intro n i c hi hn hc
    obtain ⟨n', rfl, hn'⟩ := fuel_succ hn
    obtain rfl : i = W := by omega
    refine ⟨c, ?_, hc⟩
    rw [f_X4_coinsFor_82, if_pos (nI_le (by omega) (by omega))]
  | succ d ih =>
    intro n i c hi hn hc
    obtain ⟨n', rfl, hn'⟩ := fuel_succ hn
    obtain ⟨pw, p99⟩ := hpr i (by omega)
    have q3 : f_X2_has words (nI q) (nI i) = some (bI (bt (words q) i)) := by
      unfold f_X2_has
      simp (disch := omega) only [pb_lits, pb_ltT, pb_ltF, pb_leT, pb_leF, pb_eqT, pb_eqF, pb_lt, pb_le, pb_eq, pb_add, pb_mul, pb_sub, pb_cl, pb_ibt, pb_eqm, pb_meq, pb_ltm, pb_mlt, pb_lem, pb_mle, ite_true, ite_false, reduceIte, not_true_eq_false, not_false_eq_true, pb_bind, Nat.zero_add, Nat.add_zero, holdsX_s]
      cases bt (words q) i <;> rfl
    have key : ∀ y, y = cpr words pr q i → y ≤ 99 → ∃ c', f_X4_coinsFor_122 K (f_X4_coinsFor_82 K (nI W) words prices kinds close n') (nI W) words prices kinds close (nI p) (nI q) ear (coX c) v5 fits (nI x) (nI i) (nI x) (nI y) = K (nI p) (nI q) ear (coX c') (v5 + 1) ∧ lstO (fun w' u => w' < w ∧ u < W ∨ w' = w ∧ u < W) fitB (cpr words pr p) (cpr words pr q) c' := by
      intro y hy hy99
      unfold f_X4_coinsFor_122
      simp only [f_X4_coinsFor_152, f_X4_coinsFor_148]
      rw [holdsX_s _ (by omega), pb_bind, hf i (by omega), nI_1, nI_add]
      have grow : ∀ c2, lstO (fun w' u => w' < w ∧ u < W ∨ w' = w ∧ u < i + 1) fitB (cpr words pr p) (cpr words pr q) c2 → ∃ c', f_X4_coinsFor_82 K (nI W) words prices kinds close n' (nI p) (nI q) ear (coX c2) v5 fits (nI x) (nI (i + 1)) = K (nI p) (nI q) ear (coX c') (v5 + 1) ∧ lstO (fun w' u => w' < w ∧ u < W ∨ w' = w ∧ u < W) fitB (cpr words pr p) (cpr words pr q) c' :=
        fun c2 h2 => ih n' (i + 1) c2 (by omega) (by omega) h2
      cases hfb : fitB w i
      · rw [if_pos (show bI false = 0 from rfl)]
        refine grow c ?_
        cases c with
        | none =>
          intro w' u hD
          by_cases e : w' = w ∧ u = i
          · rw [e.1, e.2]; exact hfb
          · exact hc w' u (by omega)
        | some z =>
          obtain ⟨a1, ⟨w1, u1, a2, a3, a4⟩, a5⟩ := hc
          refine ⟨a1, ⟨w1, u1, by omega, a3, a4⟩, fun w' u hD hfit => ?_⟩
          by_cases e : w' = w ∧ u = i
          · rw [e.1, e.2, hfb] at hfit; cases hfit
          · exact a5 w' u (by omega) hfit
      · rw [if_neg (show ¬ bI true = 0 by decide)]
        have hnew : ∀ B : Nat → Nat → Prop, (∀ w' u, B w' u → ¬ (w' = w ∧ u = i) → fitB w' u = true → x + y ≤ cpr words pr p w' + cpr words pr q u) → (B w i) → lstO B fitB (cpr words pr p) (cpr words pr q) (some (x + y)) := by
          intro B hB hwi
          refine ⟨by omega, ⟨w, i, hwi, hfb, by rw [← hx, ← hy]⟩, fun w' u hD hfit => ?_⟩
          by_cases e : w' = w ∧ u = i
          · rw [e.1, e.2, ← hx, ← hy]; exact Nat.le_refl _
          · exact hB w' u hD e hfit
        cases c with
        | none =>
          rw [if_pos (show coX none = -1 from rfl)]
          refine grow (some (x + y)) (hnew _ (fun w' u hD he hfit => ?_) (by omega))
          rw [hc w' u (by omega)] at hfit; cases hfit
        | some z =>
          obtain ⟨a1, ⟨w1, u1, a2, a3, a4⟩, a5⟩ := hc
          rw [if_neg (show ¬ coX (some z) = -1 from fun q => by have := pb_eqm (a := z) (b := 1) (by decide) (by omega) (by decide); exact (this ▸ (show nI z = - nI 1 from q) : False)), show coX (some z) = nI z from rfl]
          by_cases hzx : z ≤ x + y
          · rw [if_pos (nI_le hzx (by omega))]
            refine grow (some z) ⟨a1, ⟨w1, u1, by omega, a3, a4⟩, fun w' u hD hfit => ?_⟩
            by_cases e : w' = w ∧ u = i
            · rw [e.1, e.2, ← hx, ← hy]; exact hzx
            · exact a5 w' u (by omega) hfit
          · rw [if_neg (nI_ge (by omega) (by omega))]
            refine grow (some (x + y)) (hnew _ (fun w' u hD he hfit => ?_) (by omega))
            have := a5 w' u (by omega) hfit
            omega
    rw [f_X4_coinsFor_82, if_neg (nI_ge (by omega) (by omega)), q3, pb_bind]
    cases hb : bt (words q) i
    · rw [if_pos (show bI false = 0 from rfl), if_pos (pb_ibt (by omega) (by omega)), nI_clamp (by omega), pw]
      exact key (pr i) (by unfold cpr; rw [hb, if_neg (by decide)]) p99
    · rw [if_neg (show ¬ bI true = 0 by decide)]
      exact key 0 (by unfold cpr; rw [hb, if_pos rfl]) (by omega)
theorem coinsX14 {W P : Nat} {r st close words kinds prices : Nat → Int32} (h : pCx W P r st close words kinds) {pr : Nat → Nat} (hpr : ∀ w, w < W → prices w = nI (pr w) ∧ pr w ≤ 99) {e : Nat} (he1 : 1 ≤ e) (he : e ≤ 7) {p q : Nat} (hp : p < P) (hq : q < P) : ∀ d n i : Nat, ∀ c : Option Nat, i + d = W → d < n → lstO (fun w u => w < i ∧ u < W) (fit r (kinds p) (kinds q) e) (cpr words pr p) (cpr words pr q) c →
    ∃ c', f_X4_coinsFor_15 (nI W) words prices kinds close n (nI p) (nI q) (nI e) (coX c) (nI i) = some (coX c') ∧ lstO (fun w u => w < W ∧ u < W) (fit r (kinds p) (kinds q) e) (cpr words pr p) (cpr words pr q) c' := by
  have hP := h.P8
  have hW := h.W10
  have conv : ∀ (A B : Nat → Nat → Prop) (c : Option Nat), (∀ w u, A w u ↔ B w u) → lstO A (fit r (kinds p) (kinds q) e) (cpr words pr p) (cpr words pr q) c → lstO B (fit r (kinds p) (kinds q) e) (cpr words pr p) (cpr words pr q) c := by
    intro A B c hAB hc
    cases c with
    | none => exact fun w u hD => hc w u ((hAB w u).mpr hD)
    | some z =>
      obtain ⟨a1, ⟨w1, u1, a2, a3, a4⟩, a5⟩ := hc
      exact ⟨a1, ⟨w1, u1, (hAB _ _).mp a2, a3, a4⟩, fun w u hD => a5 w u ((hAB w u).mpr hD)⟩
  intro d
  induction d with
  | zero =>
    intro n i c hi hn hc
    obtain ⟨n', rfl, hn'⟩ := fuel_succ hn
    obtain rfl : i = W := by omega
    refine ⟨c, ?_, hc⟩
    rw [f_X4_coinsFor_15, if_pos (nI_le (by omega) (by omega))]
  | succ d ih =>
    intro n i c hi hn hc
    obtain ⟨n', rfl, hn'⟩ := fuel_succ hn
    obtain ⟨s, s1, s2⟩ := rhymingWords_s hW h.cl (k := kinds p) (o := kinds q) (e := e) (w := i) (by omega) he (fun _ => he1)
    obtain ⟨pw, p99⟩ := hpr i (by omega)
    have q3 : f_X2_has words (nI p) (nI i) = some (bI (bt (words p) i)) := by
      unfold f_X2_has
      simp (disch := omega) only [pb_lits, pb_ltT, pb_ltF, pb_leT, pb_leF, pb_eqT, pb_eqF, pb_lt, pb_le, pb_eq, pb_add, pb_mul, pb_sub, pb_cl, pb_ibt, pb_eqm, pb_meq, pb_ltm, pb_mlt, pb_lem, pb_mle, ite_true, ite_false, reduceIte, not_true_eq_false, not_false_eq_true, pb_bind, Nat.zero_add, Nat.add_zero, holdsX_s]
      cases bt (words p) i <;> rfl
    have hf : ∀ u, u < W → bt s u = fit r (kinds p) (kinds q) e i u := fun u hu => by rw [s2 u, decide_eq_true hu, Bool.true_and]
    have hc' := conv _ (fun w' u => w' < i ∧ u < W ∨ w' = i ∧ u < 0) c (fun w u => by omega) hc
    rw [f_X4_coinsFor_15, if_neg (nI_ge (by omega) (by omega)), if_pos (pb_ibt (by omega) (by omega)), if_pos (pb_ibt (by omega) (by omega)), nI_clamp (n := p) (by omega), nI_clamp (n := q) (by omega), s1, pb_bind, q3, pb_bind]
    simp only [f_X4_coinsFor_77]
    cases hb : bt (words p) i
    · rw [if_pos (show bI false = 0 from rfl), if_pos (pb_ibt (by omega) (by omega)), nI_clamp (by omega), pw]
      obtain ⟨c', x1, x2⟩ := coinsX79 (P := P) hW hpr (fitB := fit r (kinds p) (kinds q) e) (ear := nI e) (v5 := nI i) (kinds := kinds) (close := close) (p := p) (q := q) (w := i) (x := pr i) (by omega) (by omega) hf (by unfold cpr; rw [hb, if_neg (by decide)]) p99 (f_X4_coinsFor_15 (nI W) words prices kinds close n') W rf_fu 0 c (by omega) (by show W < 4096; omega) hc'
      rw [show (0 : Int32) = nI 0 from rfl, x1, nI_1]
      exact ih n' (i + 1) c' (by omega) (by omega) (conv _ _ c' (fun w u => by omega) x2)
    · rw [if_neg (show ¬ bI true = 0 by decide)]
      obtain ⟨c', x1, x2⟩ := coinsX79 (P := P) hW hpr (fitB := fit r (kinds p) (kinds q) e) (ear := nI e) (v5 := nI i) (kinds := kinds) (close := close) (p := p) (q := q) (w := i) (x := 0) (by omega) (by omega) hf (by unfold cpr; rw [hb, if_pos rfl]) (by omega) (f_X4_coinsFor_15 (nI W) words prices kinds close n') W rf_fu 0 c (by omega) (by show W < 4096; omega) hc'
      rw [show (0 : Int32) = nI 0 from rfl, x1, nI_1]
      exact ih n' (i + 1) c' (by omega) (by omega) (conv _ _ c' (fun w u => by omega) x2)
theorem coinsFor_s {W P : Nat} {r st close words kinds prices : Nat → Int32} (h : pCx W P r st close words kinds) {pr : Nat → Nat} (hpr : ∀ w, w < W → prices w = nI (pr w) ∧ pr w ≤ 99) {e : Nat} (he1 : 1 ≤ e) (he : e ≤ 7) {p q : Nat} (hp : p < P) (hq : q < P) : ∃ c, f_X4_coinsFor (nI W) words prices kinds close (nI p) (nI q) (nI e) = some (if c = 1000000 then -1 else nI c) ∧ c ≤ 1000000 ∧ lstC W (fit r (kinds p) (kinds q) e) (cpr words pr p) (cpr words pr q) c := by
  have hW := h.W10
  obtain ⟨c', x1, x2⟩ := coinsX14 h hpr he1 he hp hq W rf_fu 0 none (by omega) (by show W < 4096; omega) (fun w u hD => by omega)
  cases c' with
  | none => exact ⟨1000000, by rw [if_pos rfl]; exact x1, by omega, Or.inl ⟨rfl, fun w u hw hu => x2 w u ⟨hw, hu⟩⟩⟩
  | some z =>
    obtain ⟨a1, ⟨w1, u1, a2, a3, a4⟩, a5⟩ := x2
    exact ⟨z, by rw [if_neg (by omega)]; exact x1, by omega, Or.inr ⟨a1, ⟨w1, u1, a2.1, a2.2, a3, a4⟩, fun w u hw hu => a5 w u ⟨hw, hu⟩⟩⟩
