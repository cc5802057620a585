/-! ask, askLeaves -/
def cD (t : Nat → Bool) : Nat → Nat
  | 0 => 0
  | n + 1 => cD t n + if t n = true then 1 else 0
theorem cD_le (t : Nat → Bool) : ∀ n, cD t n ≤ n := by
  intro n
  induction n with
  | zero => exact Nat.le_refl _
  | succ n ih => rw [cD]; split <;> omega
/-- of these ears, by which p and q rhyme so -/
def earB (s : Int32) (D : Nat → Nat) (c e : Nat) : Bool := decide (1 ≤ e) && bt s e && decide (D e = c)
def mxl (s : Int32) (D : Nat → Nat) : Nat := max (cD (earB s D 0) 7) (max (cD (earB s D 1) 7) (cD (earB s D 2) 7))
theorem mostLeft_l {W P : Nat} {r st close words kinds : Nat → Int32} (h : pCx W P r st close words kinds) {p q : Nat} (hp : p < P) (hq : q < P) (s : Int32) {D : Nat → Nat} (hD : ∀ e, D e = degN W r (kinds p) (words p) (kinds q) (words q) e) : ∀ d n i : Nat, ∀ L : Nat → Int32, i + d = 7 → 1 ≤ i → d < n → (∀ c, c < 3 → L c = nI (cD (earB s D c) i)) →
    ∃ L', f_X1_mostLeft_11 (nI W) words kinds close n (nI p) (nI q) s (nI i) L = some (nI (mxl s D), L') := by
  intro d
  induction d with
  | zero =>
    intro n i L hi h1 hn hL
    obtain ⟨m, rfl, hm⟩ := fuel_succ hn
    obtain rfl : i = 7 := by omega
    refine ⟨L, ?_⟩
    rw [f_X1_mostLeft_11, show Int32.toNatClampNeg 0 = 0 from rfl, show Int32.toNatClampNeg 1 = 1 from rfl, show Int32.toNatClampNeg 2 = 2 from rfl, hL 0 (by decide), hL 1 (by decide), hL 2 (by decide)]
    have a0 := cD_le (earB s D 0) 7
    have a1 := cD_le (earB s D 1) 7
    have a2 := cD_le (earB s D 2) 7
    unfold mxl
    generalize cD (earB s D 0) 7 = x at *
    generalize cD (earB s D 1) 7 = y at *
    generalize cD (earB s D 2) 7 = z at *
    by_cases h12 : y < z
    · by_cases h0 : x < z
      · simp (disch := omega) only [pb_lits, pb_ltT, pb_ltF, pb_leT, pb_leF, pb_eqT, pb_eqF, pb_lt, pb_le, pb_eq, pb_add, pb_mul, pb_sub, pb_cl, pb_ibt, pb_eqm, pb_meq, pb_ltm, pb_mlt, pb_lem, pb_mle, ite_true, ite_false, reduceIte, not_true_eq_false, not_false_eq_true, pb_bind, Nat.zero_add, Nat.add_zero]
        rw [show max x (max y z) = z by omega]
      · simp (disch := omega) only [pb_lits, pb_ltT, pb_ltF, pb_leT, pb_leF, pb_eqT, pb_eqF, pb_lt, pb_le, pb_eq, pb_add, pb_mul, pb_sub, pb_cl, pb_ibt, pb_eqm, pb_meq, pb_ltm, pb_mlt, pb_lem, pb_mle, ite_true, ite_false, reduceIte, not_true_eq_false, not_false_eq_true, pb_bind, Nat.zero_add, Nat.add_zero]
        rw [show max x (max y z) = x by omega]
    · by_cases h0 : x < y
      · simp (disch := omega) only [pb_lits, pb_ltT, pb_ltF, pb_leT, pb_leF, pb_eqT, pb_eqF, pb_lt, pb_le, pb_eq, pb_add, pb_mul, pb_sub, pb_cl, pb_ibt, pb_eqm, pb_meq, pb_ltm, pb_mlt, pb_lem, pb_mle, ite_true, ite_false, reduceIte, not_true_eq_false, not_false_eq_true, pb_bind, Nat.zero_add, Nat.add_zero]
        rw [show max x (max y z) = y by omega]
      · simp (disch := omega) only [pb_lits, pb_ltT, pb_ltF, pb_leT, pb_leF, pb_eqT, pb_eqF, pb_lt, pb_le, pb_eq, pb_add, pb_mul, pb_sub, pb_cl, pb_ibt, pb_eqm, pb_meq, pb_ltm, pb_mlt, pb_lem, pb_mle, ite_true, ite_false, reduceIte, not_true_eq_false, not_false_eq_true, pb_bind, Nat.zero_add, Nat.add_zero]
        rw [show max x (max y z) = x by omega]
  | succ d ih =>
    intro n i L hi h1 hn hL
    obtain ⟨m, rfl, hm⟩ := fuel_succ hn
    have q1 := degreeP_s h hp hq h1 (by omega : i ≤ 7)
    rw [← hD i] at q1
    have q2 : D i ≤ 2 := by rw [hD i]; exact degN_le
    rw [f_X1_mostLeft_11, holdsX_s _ (by omega)]
    simp only [f_X1_mostLeft_47]
    by_cases hb : bt s i = true
    · rw [hb, show bI true = nI 1 from rfl]
      have := ih m (i + 1) (upd L (D i) (L (D i) + nI 1)) (by omega) (by omega) (by omega) (fun c hc => by
        unfold upd
        rw [cD]
        by_cases hcD : c = D i
        · rw [if_pos hcD, ← hcD, hL c hc, if_pos (by unfold earB; rw [decide_eq_true h1, hb, decide_eq_true hcD.symm]; rfl), pb_add]
        · rw [if_neg hcD, hL c hc, if_neg (by unfold earB; rw [decide_eq_false (show ¬ D i = c from fun q => hcD q.symm), Bool.and_false]; decide)]
          rfl)
      simp (disch := omega) only [pb_lits, pb_ltT, pb_ltF, pb_leT, pb_leF, pb_eqT, pb_eqF, pb_lt, pb_le, pb_eq, pb_add, pb_mul, pb_sub, pb_cl, pb_ibt, pb_eqm, pb_meq, pb_ltm, pb_mlt, pb_lem, pb_mle, ite_true, ite_false, reduceIte, not_true_eq_false, not_false_eq_true, pb_bind, Nat.zero_add, Nat.add_zero, q1]
      exact this
    · rw [(Bool.not_eq_true _).mp hb, show bI false = nI 0 from rfl]
      have := ih m (i + 1) L (by omega) (by omega) (by omega) (fun c hc => by
        rw [cD, hL c hc, if_neg (by unfold earB; rw [(Bool.not_eq_true _).mp hb]; simp)]
        rfl)
      simp (disch := omega) only [pb_lits, pb_ltT, pb_ltF, pb_leT, pb_leF, pb_eqT, pb_eqF, pb_lt, pb_le, pb_eq, pb_add, pb_mul, pb_sub, pb_cl, pb_ibt, pb_eqm, pb_meq, pb_ltm, pb_mlt, pb_lem, pb_mle, ite_true, ite_false, reduceIte, not_true_eq_false, not_false_eq_true, pb_bind, Nat.zero_add, Nat.add_zero]
      exact this
theorem mostLeft_s {W P : Nat} {r st close words kinds : Nat → Int32} (h : pCx W P r st close words kinds) {p q : Nat} (hp : p < P) (hq : q < P) (s : Int32) (L : Nat → Int32) : ∃ L', f_X1_mostLeft (nI W) words kinds close L (nI p) (nI q) s = some (nI (mxl s (degN W r (kinds p) (words p) (kinds q) (words q))), L') :=
  mostLeft_l h hp hq s (fun _ => rfl) 6 rf_fu 1 _ (by omega) (by omega) (by decide) (fun c hc => by
    unfold rf_fill
    rw [if_pos hc]
    rfl)
theorem leaves18 {W P : Nat} {r st close words kinds : Nat → Int32} (h : pCx W P r st close words kinds) {p q : Nat} (hp : p < P) (hq : q < P) (s : Int32) {D : Nat → Nat} (hD : ∀ e, D e = degN W r (kinds p) (words p) (kinds q) (words q) e) (K : Int32 → Int32 → Int32 → Int32 → Int32 → Option Int32) {m c : Nat} (hm : m ≤ 7) (hc : c ≤ 2) : ∀ d n i : Nat, i + d = 7 → 1 ≤ i → d < n →
    f_X11_leavesBy_18 K r st n (nI p) (nI q) s (nI m) (nI c) (nI (cD (earB s D c) i)) (nI i) = K (nI p) (nI q) s (nI (max m (cD (earB s D c) 7))) (nI (c + 1)) := by
  intro d
  induction d with
  | zero =>
    intro n i hi h1 hn
    obtain ⟨n', rfl, hn'⟩ := fuel_succ hn
    obtain rfl : i = 7 := by omega
    rw [f_X11_leavesBy_18]
    simp only [f_X11_leavesBy_77]
    have a0 := cD_le (earB s D c) 7
    generalize cD (earB s D c) 7 = x at *
    by_cases hx : x ≤ m
    · simp (disch := omega) only [pb_lits, pb_ltT, pb_ltF, pb_leT, pb_leF, pb_eqT, pb_eqF, pb_lt, pb_le, pb_eq, pb_add, pb_mul, pb_sub, pb_cl, pb_ibt, pb_eqm, pb_meq, pb_ltm, pb_mlt, pb_lem, pb_mle, ite_true, ite_false, reduceIte, not_true_eq_false, not_false_eq_true, pb_bind, Nat.zero_add, Nat.add_zero]
      rw [show max m x = m by omega]
    · simp (disch := omega) only [pb_lits, pb_ltT, pb_ltF, pb_leT, pb_leF, pb_eqT, pb_eqF, pb_lt, pb_le, pb_eq, pb_add, pb_mul, pb_sub, pb_cl, pb_ibt, pb_eqm, pb_meq, pb_ltm, pb_mlt, pb_lem, pb_mle, ite_true, ite_false, reduceIte, not_true_eq_false, not_false_eq_true, pb_bind, Nat.zero_add, Nat.add_zero]
      rw [show max m x = x by omega]
  | succ d ih =>
    intro n i hi h1 hn
    obtain ⟨n', rfl, hn'⟩ := fuel_succ hn
    have q1 := rhymeNowP_s h hp hq h1 (by omega : i ≤ 7)
    rw [← hD i] at q1
    have q2 : D i ≤ 2 := by rw [hD i]; exact degN_le
    have ih' := ih n' (i + 1) (by omega) (by omega) (by omega)
    rw [cD] at ih'
    rw [f_X11_leavesBy_18, hasBitM_s _ (by omega)]
    simp only [f_X11_leavesBy_54, f_X11_leavesBy_53]
    by_cases hb : bt s i = true
    · rw [hb, show bI true = nI 1 from rfl]
      by_cases hcD : D i = c
      · rw [if_pos (by unfold earB; rw [decide_eq_true h1, hb, decide_eq_true hcD]; rfl)] at ih'
        simp (disch := omega) only [pb_lits, pb_ltT, pb_ltF, pb_leT, pb_leF, pb_eqT, pb_eqF, pb_lt, pb_le, pb_eq, pb_add, pb_mul, pb_sub, pb_cl, pb_ibt, pb_eqm, pb_meq, pb_ltm, pb_mlt, pb_lem, pb_mle, ite_true, ite_false, reduceIte, not_true_eq_false, not_false_eq_true, pb_bind, Nat.zero_add, Nat.add_zero, q1]
        exact ih'
      · rw [if_neg (by unfold earB; rw [decide_eq_false hcD, Bool.and_false]; decide)] at ih'
        simp (disch := omega) only [pb_lits, pb_ltT, pb_ltF, pb_leT, pb_leF, pb_eqT, pb_eqF, pb_lt, pb_le, pb_eq, pb_add, pb_mul, pb_sub, pb_cl, pb_ibt, pb_eqm, pb_meq, pb_ltm, pb_mlt, pb_lem, pb_mle, ite_true, ite_false, reduceIte, not_true_eq_false, not_false_eq_true, pb_bind, Nat.zero_add, Nat.add_zero, q1]
        exact ih'
    · rw [(Bool.not_eq_true _).mp hb, show bI false = nI 0 from rfl]
      rw [if_neg (by unfold earB; rw [(Bool.not_eq_true _).mp hb]; simp)] at ih'
      simp (disch := omega) only [pb_lits, pb_ltT, pb_ltF, pb_leT, pb_leF, pb_eqT, pb_eqF, pb_lt, pb_le, pb_eq, pb_add, pb_mul, pb_sub, pb_cl, pb_ibt, pb_eqm, pb_meq, pb_ltm, pb_mlt, pb_lem, pb_mle, ite_true, ite_false, reduceIte, not_true_eq_false, not_false_eq_true, pb_bind, Nat.zero_add, Nat.add_zero]
      exact ih'
theorem leavesBy_s {W P : Nat} {r st close words kinds : Nat → Int32} (h : pCx W P r st close words kinds) {p q : Nat} (hp : p < P) (hq : q < P) (s : Int32) : f_X11_leavesBy r st (nI p) (nI q) s = some (nI (mxl s (degN W r (kinds p) (words p) (kinds q) (words q)))) := by
  have key : ∀ n m c, 1 ≤ n → m ≤ 7 → c ≤ 2 → f_X11_leavesBy_6 r st n (nI p) (nI q) s (nI m) (nI c) = f_X11_leavesBy_6 r st (n - 1) (nI p) (nI q) s (nI (max m (cD (earB s (degN W r (kinds p) (words p) (kinds q) (words q)) c) 7))) (nI (c + 1)) := by
    intro n m c hn hm hc
    obtain ⟨n', rfl, hn'⟩ := fuel_succ (d := 0) hn
    rw [f_X11_leavesBy_6]
    have := leaves18 h hp hq s (D := degN W r (kinds p) (words p) (kinds q) (words q)) (fun _ => rfl) (f_X11_leavesBy_6 r st n') hm hc 6 rf_fu 1 (by omega) (by omega) (by decide)
    rw [if_neg (by simp (disch := omega) only [pb_lits, pb_ltT, pb_ltF, pb_leT, pb_leF, pb_eqT, pb_eqF, pb_lt, pb_le, pb_eq, pb_add, pb_mul, pb_sub, pb_cl, pb_ibt, pb_eqm, pb_meq, pb_ltm, pb_mlt, pb_lem, pb_mle, ite_true, ite_false, reduceIte, not_true_eq_false, not_false_eq_true, pb_bind, Nat.zero_add, Nat.add_zero])]
    rw [show cD (earB s (degN W r (kinds p) (words p) (kinds q) (words q)) c) 1 = 0 by rw [cD, cD]; rfl] at this
    exact this
  unfold f_X11_leavesBy
  have a0 := cD_le (earB s (degN W r (kinds p) (words p) (kinds q) (words q)) 0) 7
  have a1 := cD_le (earB s (degN W r (kinds p) (words p) (kinds q) (words q)) 1) 7
  unfold mxl
  have key' : ∀ n m c c', 1 ≤ n → m ≤ 7 → c ≤ 2 → c' = c + 1 → f_X11_leavesBy_6 r st n (nI p) (nI q) s (nI m) (nI c) = f_X11_leavesBy_6 r st (n - 1) (nI p) (nI q) s (nI (max m (cD (earB s (degN W r (kinds p) (words p) (kinds q) (words q)) c) 7))) (nI c') := fun n m c c' h1 h2 h3 h4 => by rw [h4]; exact key n m c h1 h2 h3
  clear key
  generalize degN W r (kinds p) (words p) (kinds q) (words q) = D at *
  rw [show (0 : Int32) = nI 0 from rfl, key' rf_fu 0 0 1 (by decide) (by omega) (by omega) rfl, key' (rf_fu - 1) _ 1 2 (by decide) (by omega) (by omega) rfl, key' (rf_fu - 1 - 1) _ 2 3 (by decide) (by omega) (by omega) rfl]
  rw [show rf_fu - 1 - 1 - 1 = 4092 + 1 from rfl, f_X11_leavesBy_6]
  rw [if_pos (by simp (disch := omega) only [pb_lits, pb_ltT, pb_ltF, pb_leT, pb_leF, pb_eqT, pb_eqF, pb_lt, pb_le, pb_eq, pb_add, pb_mul, pb_sub, pb_cl, pb_ibt, pb_eqm, pb_meq, pb_ltm, pb_mlt, pb_lem, pb_mle, ite_true, ite_false, reduceIte, not_true_eq_false, not_false_eq_true, pb_bind, Nat.zero_add, Nat.add_zero])]
  congr 2
  omega
def relQ (Q L : Int32) : Prop := (Q = -2 ∧ L = -2) ∨ ∃ a b : Nat, a < 100 ∧ b ≤ 7 ∧ Q = nI a ∧ L = nI b
theorem mxl_le (s : Int32) (D : Nat → Nat) : mxl s D ≤ 7 := by
  have a0 := cD_le (earB s D 0) 7
  have a1 := cD_le (earB s D 1) 7
  have a2 := cD_le (earB s D 2) 7
  unfold mxl
  omega
theorem seek43 {W P : Nat} {r st close words kinds : Nat → Int32} (h : pCx W P r st close words kinds) {p : Nat} (hp : p < P) (s : Int32) (K : Int32 → Int32 → Int32 → Int32 → Int32 → (Nat → Int32) → Option (Int32 × Int32 × (Nat → Int32))) (K' : Int32 → Int32 → Int32 → Int32 → Option (Int32 × Int32))
    (hK : ∀ Q L left, relQ Q L → ∃ z : Int32 × Int32 × (Nat → Int32), K s (nI P) (nI (p + 1)) Q L left = some z ∧ K' s Q (nI (p + 1)) L = some (z.1, z.2.1)) : ∀ d n n' i : Nat, ∀ Q L : Int32, ∀ left : Nat → Int32, i + d = P → d < n → d < n' → relQ Q L →
    ∃ z : Int32 × Int32 × (Nat → Int32), f_X1_seekQuestion_43 K (nI W) (nI P) words kinds close n s (nI P) (nI p) (nI i) Q L left = some z ∧ f_X11_askOf_35 K' r st n' s Q (nI p) (nI i) L = some (z.1, z.2.1) := by
  have hP := h.P8
  intro d
  induction d with
  | zero =>
    intro n n' i Q L left hi hn hn' hQ
    obtain ⟨m, rfl, hm⟩ := fuel_succ hn
    obtain ⟨m', rfl, hm'⟩ := fuel_succ hn'
    rw [f_X1_seekQuestion_43, f_X11_askOf_35, show Int32.toNatClampNeg 3 = 3 from rfl, h.rP]
    simp (disch := omega) only [pb_lits, pb_ltT, pb_ltF, pb_leT, pb_leF, pb_eqT, pb_eqF, pb_lt, pb_le, pb_eq, pb_add, pb_mul, pb_sub, pb_cl, pb_ibt, pb_eqm, pb_meq, pb_ltm, pb_mlt, pb_lem, pb_mle, ite_true, ite_false, reduceIte, not_true_eq_false, not_false_eq_true, pb_bind, Nat.zero_add, Nat.add_zero]
    exact hK Q L left hQ
  | succ d ih =>
    intro n n' i Q L left hi hn hn' hQ
    obtain ⟨m, rfl, hm⟩ := fuel_succ hn
    obtain ⟨m', rfl, hm'⟩ := fuel_succ hn'
    obtain ⟨L', q1⟩ := mostLeft_s h hp (q := i) (by omega) s left
    have q2 := leavesBy_s h hp (q := i) (by omega) s
    have q3 := mxl_le s (degN W r (kinds p) (words p) (kinds i) (words i))
    generalize mxl s (degN W r (kinds p) (words p) (kinds i) (words i)) = x at q1 q2 q3
    obtain ⟨z, hz⟩ : ∃ z, z = (nI x, L') := ⟨_, rfl⟩
    rw [← hz] at q1
    have z1 : z.1 = nI x := by rw [hz]
    clear hz
    rw [f_X1_seekQuestion_43, f_X11_askOf_35, show Int32.toNatClampNeg 3 = 3 from rfl, h.rP, q1, q2]
    simp only [f_X1_seekQuestion_77, f_X1_seekQuestion_94, f_X11_askOf_86, f_X11_askOf_72]
    have take := ih m m' (i + 1) (nI (10 * p + i)) (nI x) z.2 (by omega) (by omega) (by omega) (Or.inr ⟨10 * p + i, x, by omega, q3, rfl, rfl⟩)
    have keep := ih m m' (i + 1) Q L z.2 (by omega) (by omega) (by omega) hQ
    clear q1 q2 ih
    generalize f_X1_seekQuestion_43 K (nI W) (nI P) words kinds close m = F at take keep ⊢
    generalize f_X11_askOf_35 K' r st m' = F' at take keep ⊢
    have w1 : ¬ nI P ≤ nI i := by simp (disch := omega) only [pb_lits, pb_ltT, pb_ltF, pb_leT, pb_leF, pb_eqT, pb_eqF, pb_lt, pb_le, pb_eq, pb_add, pb_mul, pb_sub, pb_cl, pb_ibt, pb_eqm, pb_meq, pb_ltm, pb_mlt, pb_lem, pb_mle, ite_true, ite_false, reduceIte, not_true_eq_false, not_false_eq_true, pb_bind, Nat.zero_add, Nat.add_zero]
    simp only [w1, if_false, pb_bind, z1]
    simp (disch := omega) only [pb_lits, pb_ltT, pb_ltF, pb_leT, pb_leF, pb_eqT, pb_eqF, pb_lt, pb_le, pb_eq, pb_add, pb_mul, pb_sub, pb_cl, pb_ibt, pb_eqm, pb_meq, pb_ltm, pb_mlt, pb_lem, pb_mle, ite_true, ite_false, reduceIte, not_true_eq_false, not_false_eq_true, pb_bind, Nat.zero_add, Nat.add_zero]
    rcases hQ with ⟨e1, e2⟩ | ⟨a, b, ha, hb, e1, e2⟩
    · rw [if_pos (show L = - nI 2 from e2), if_pos (show Q < nI 0 by rw [e1]; decide)]
      exact take
    · subst e1 e2
      by_cases hle : b ≤ x
      · simp (disch := omega) only [pb_lits, pb_ltT, pb_ltF, pb_leT, pb_leF, pb_eqT, pb_eqF, pb_lt, pb_le, pb_eq, pb_add, pb_mul, pb_sub, pb_cl, pb_ibt, pb_eqm, pb_meq, pb_ltm, pb_mlt, pb_lem, pb_mle, ite_true, ite_false, reduceIte, not_true_eq_false, not_false_eq_true, pb_bind, Nat.zero_add, Nat.add_zero]
        exact keep
      · simp (disch := omega) only [pb_lits, pb_ltT, pb_ltF, pb_leT, pb_leF, pb_eqT, pb_eqF, pb_lt, pb_le, pb_eq, pb_add, pb_mul, pb_sub, pb_cl, pb_ibt, pb_eqm, pb_meq, pb_ltm, pb_mlt, pb_lem, pb_mle, ite_true, ite_false, reduceIte, not_true_eq_false, not_false_eq_true, pb_bind, Nat.zero_add, Nat.add_zero]
        exact take
theorem seek33 {W P : Nat} {r st close words kinds : Nat → Int32} (h : pCx W P r st close words kinds) {s : Int32} (hs : ¬ s = 0) : ∀ d n n' i : Nat, ∀ Q L : Int32, ∀ left : Nat → Int32, i + d = P → d < n → d < n' → relQ Q L →
    ∃ z : Int32 × Int32 × (Nat → Int32), f_X1_seekQuestion_33 (nI W) (nI P) words kinds close n s (nI P) (nI i) Q L left = some z ∧ f_X11_askOf_16 r st n' s Q (nI i) L = some (z.1, z.2.1) := by
  have hP := h.P8
  intro d
  induction d with
  | zero =>
    intro n n' i Q L left hi hn hn' hQ
    obtain ⟨m, rfl, hm⟩ := fuel_succ hn
    obtain ⟨m', rfl, hm'⟩ := fuel_succ hn'
    rw [f_X1_seekQuestion_33, f_X11_askOf_16, f_X11_askOf_98, show Int32.toNatClampNeg 3 = 3 from rfl, h.rP]
    simp (disch := omega) only [pb_lits, pb_ltT, pb_ltF, pb_leT, pb_leF, pb_eqT, pb_eqF, pb_lt, pb_le, pb_eq, pb_add, pb_mul, pb_sub, pb_cl, pb_ibt, pb_eqm, pb_meq, pb_ltm, pb_mlt, pb_lem, pb_mle, ite_true, ite_false, reduceIte, not_true_eq_false, not_false_eq_true, pb_bind, Nat.zero_add, Nat.add_zero]
    exact ⟨_, rfl, rfl⟩
  | succ d ih =>
    intro n n' i Q L left hi hn hn' hQ
    obtain ⟨m, rfl, hm⟩ := fuel_succ hn
    obtain ⟨m', rfl, hm'⟩ := fuel_succ hn'
    rw [f_X1_seekQuestion_33, f_X11_askOf_16, show Int32.toNatClampNeg 3 = 3 from rfl, h.rP]
    have w1 : ¬ nI P ≤ nI i := by simp (disch := omega) only [pb_lits, pb_ltT, pb_ltF, pb_leT, pb_leF, pb_eqT, pb_eqF, pb_lt, pb_le, pb_eq, pb_add, pb_mul, pb_sub, pb_cl, pb_ibt, pb_eqm, pb_meq, pb_ltm, pb_mlt, pb_lem, pb_mle, ite_true, ite_false, reduceIte, not_true_eq_false, not_false_eq_true, pb_bind, Nat.zero_add, Nat.add_zero]
    rw [if_neg w1, if_neg w1, if_neg hs, nI_1]
    exact seek43 h (by omega) s _ _ (fun Q L left hQ => ih m m' (i + 1) Q L left (by omega) (by omega) (by omega) hQ) (P - (i + 1)) rf_fu rf_fu (i + 1) Q L left (by omega) (by show _ < 4096; omega) (by show _ < 4096; omega) hQ
theorem ask_s {W P G : Nat} {r st close words kinds g1 g2 g3 : Nat → Int32} (h : pGs W P G r st close words kinds g1 g2 g3) (hP0 : 0 < P) (q0 l0 m0 : Int32) (left : Nat → Int32) : ∃ s, f_X1_ears (nI W) (nI G) words kinds g1 g2 g3 close = some s ∧ ∃ z : Int32 × Int32 × (Nat → Int32), f_X1_seekQuestion (nI W) (nI P) words kinds close q0 l0 left s = some z ∧ f_X11_askOf r st m0 = some (z.1, z.2.1) := by
  have hP := h.cx.P8
  obtain ⟨s, q1, q2, q3⟩ := ears_s h
  refine ⟨s, q1, ?_⟩
  unfold f_X1_seekQuestion f_X11_askOf f_X1_seekQuestion_30
  rw [q2, pb_bind]
  by_cases hs : s = 0
  · rw [if_pos hs, show rf_fu = 4095 + 1 from rfl, f_X1_seekQuestion_33, f_X11_askOf_16, f_X11_askOf_98, if_pos (by decide), if_pos hs, ite_self]
    exact ⟨_, rfl, rfl⟩
  · rw [if_neg hs]
    exact seek33 h.cx hs P rf_fu rf_fu 0 (-2) (-2) left (by omega) (by show _ < 4096; omega) (by show _ < 4096; omega) (Or.inl ⟨rfl, rfl⟩)
theorem rf_st29 {j : Nat} : rf_step_29 (rf_Inv j) (rf_Inv (j + 1)) := by
  rintro I J A B I' A' ⟨W, P, G, na, ni, h⟩
  have ht := h.tale
  have hP := ht.P8
  unfold f_X10_ask f_X11_ask
  rw [ht.hpc, ht.hwc, ht.hgc, hasFerryX_s (by omega), h.hasb]
  simp only [pb_bind, refused1_s, f_X11_good, f_X11_no]
  by_cases hPP : 0 < P
  · rw [decide_eq_true hPP]
    obtain ⟨s, q1, z, q2, q3⟩ := ask_s h.gs hPP (I 10) (I 11) (I' 18) (A 9)
    rw [q1, q3]
    simp only [pb_bind]
    rw [q2]
    exact ⟨_, _, rfl, rfl, rfl, h.quiet (h.fault.tell (u := 0) (by decide)) rfl rfl rfl rfl⟩
  · rw [decide_eq_false hPP]
    exact ⟨_, _, rfl, rfl, rfl, h.quiet (h.fault.tell (u := 1) (by decide)) rfl rfl rfl rfl⟩
theorem rf_st30 {j : Nat} : rf_step_30 (rf_Inv j) (rf_Inv (j + 1)) := by
  rintro I J A B I' A' ⟨W, P, G, na, ni, h⟩
  have ht := h.tale
  have hP := ht.P8
  unfold f_X10_askLeaves f_X11_askLeaves
  rw [ht.hpc, ht.hwc, ht.hgc, hasFerryX_s (by omega), h.hasb]
  simp only [pb_bind, refused1_s, f_X11_good, f_X11_no]
  by_cases hPP : 0 < P
  · rw [decide_eq_true hPP]
    obtain ⟨s, q1, z, q2, q3⟩ := ask_s h.gs hPP (I 10) (I 11) (I' 18) (A 9)
    rw [q1, q3]
    simp only [pb_bind]
    rw [q2]
    exact ⟨_, _, rfl, rfl, rfl, h.quiet (h.fault.tell (u := 0) (by decide)) rfl rfl rfl rfl⟩
  · rw [decide_eq_false hPP]
    exact ⟨_, _, rfl, rfl, rfl, h.quiet (h.fault.tell (u := 1) (by decide)) rfl rfl rfl rfl⟩
