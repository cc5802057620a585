/-! with whom one rhymes -/
def setF (b : Nat → Bool) : Nat → Int32
  | 0 => nI 0
  | n + 1 => cond (b n) (setF b n ||| (nI 1 <<< (nI n &&& nI 31))) (setF b n)
theorem bt_setF (b : Nat → Bool) : ∀ n, n ≤ 32 → ∀ k, bt (setF b n) k = (decide (k < n) && b k) := by
  intro n
  induction n with
  | zero => intro _ k; exact (bt_0 k).trans (by simp)
  | succ n ih =>
    intro hn k
    rw [setF]
    cases hb : b n
    · rw [cond_false, ih (by omega)]
      by_cases hk : k = n
      · subst hk; rw [hb]; simp
      · rw [decide_eq_decide.mpr (show k < n ↔ k < n + 1 by omega)]
    · rw [cond_true, bt_or, ih (by omega), bt_1s (by omega)]
      by_cases hk : k = n
      · subst hk; rw [hb]; simp
      · rw [decide_eq_decide.mpr (show k < n ↔ k < n + 1 by omega), decide_eq_false hk, Bool.or_false]
theorem setF_congr {b c : Nat → Bool} : ∀ n, (∀ k, k < n → b k = c k) → setF b n = setF c n := by
  intro n
  induction n with
  | zero => intro _; rfl
  | succ n ih => intro h; rw [setF, setF, h n (by omega), ih (fun k hk => h k (by omega))]
theorem setF_eq {b : Nat → Bool} {n : Nat} (hn : n ≤ 32) {s : Int32} (h : ∀ k, bt s k = (decide (k < n) && b k)) : setF b n = s := bt_ext (fun k _ => by rw [bt_setF b n hn, h k])
theorem or_nI0 (s : Int32) : s ||| nI 0 = s := bt_ext (fun k _ => by rw [bt_or]; exact (congrArg _ (bt_0 k)).trans (Bool.or_false _))
abbrev pCx (W P : Nat) (r st close words kinds : Nat → Int32) : Prop :=
  (pWs W r) ∧
  (W ≤ 10) ∧
  (P ≤ 8) ∧
  (pClose W r close) ∧
  (r 3 = nI P) ∧
  (∀ p, p < P → kinds p = r (89 + 4 * p)) ∧
  (∀ p, p < P → words p = st (8 + p)) ∧
  (∀ p, p < P → hasW W (words p))
theorem pCx.ws {W P : Nat} {r st close words kinds : Nat → Int32} (h : pCx W P r st close words kinds) : pWs W r := h.1
theorem pCx.W10 {W P : Nat} {r st close words kinds : Nat → Int32} (h : pCx W P r st close words kinds) : W ≤ 10 := h.2.1
theorem pCx.P8 {W P : Nat} {r st close words kinds : Nat → Int32} (h : pCx W P r st close words kinds) : P ≤ 8 := h.2.2.1
theorem pCx.cl {W P : Nat} {r st close words kinds : Nat → Int32} (h : pCx W P r st close words kinds) : pClose W r close := h.2.2.2.1
theorem pCx.rP {W P : Nat} {r st close words kinds : Nat → Int32} (h : pCx W P r st close words kinds) : r 3 = nI P := h.2.2.2.2.1
theorem pCx.kd {W P : Nat} {r st close words kinds : Nat → Int32} (h : pCx W P r st close words kinds) : ∀ p, p < P → kinds p = r (89 + 4 * p) := h.2.2.2.2.2.1
theorem pCx.wd {W P : Nat} {r st close words kinds : Nat → Int32} (h : pCx W P r st close words kinds) : ∀ p, p < P → words p = st (8 + p) := h.2.2.2.2.2.2.1
theorem pCx.hw {W P : Nat} {r st close words kinds : Nat → Int32} (h : pCx W P r st close words kinds) : ∀ p, p < P → hasW W (words p) := h.2.2.2.2.2.2.2
theorem rf_Iv.cx {W P G na ni j : Nat} {I : Nat → Int32} {J : Nat → Int64} {A : Nat → Nat → Int32} {B : Nat → Nat → Int64} {I' : Nat → Int32} {A' : Nat → Nat → Int32}
    (h : rf_Iv W P G na ni j I J A B I' A') : pCx W P (A' 2) (A' 4) (A 22) (A 1) (A 14) :=
  ⟨⟨h.tale.W10, h.tale.hwc', fun w hw => ⟨_, _, _, h.tale.words w hw⟩⟩, h.tale.W10, h.tale.P8, h.close, h.tale.hpc', fun p hp => (h.tale.pers p hp).hkind, h.now.hwords, h.now.hwords1⟩
/-- q rhymes fully with p if p has these words, and all others some more -/
def metb (W : Nat) (r words kinds : Nat → Int32) (p : Nat) (ws more : Int32) (e q : Nat) : Bool := !decide (q = p) && FulB W r (kinds p) ws (kinds q) (words q ||| more) e
theorem metBy_l {W P : Nat} {r st close words kinds : Nat → Int32} (h : pCx W P r st close words kinds) {p e : Nat} (hp : p < P) (he1 : 1 ≤ e) (he : e ≤ 7) (ws more : Int32) : ∀ d n i : Nat, i + d = P → d < n →
    f_X6_metBy_6 (nI W) (nI P) words kinds close n (nI p) ws more (nI e) (setF (metb W r words kinds p ws more e) i) (nI i) = some (setF (metb W r words kinds p ws more e) P) := by
  have hP := h.P8
  intro d
  induction d with
  | zero =>
    intro n i hi hn
    obtain ⟨n', rfl, hn'⟩ := fuel_succ hn
    obtain rfl : i = P := by omega
    rw [f_X6_metBy_6]
    simp (disch := omega) only [pb_lits, pb_ltT, pb_ltF, pb_leT, pb_leF, pb_eqT, pb_eqF, pb_lt, pb_le, pb_eq, pb_add, pb_mul, pb_sub, pb_cl, pb_ibt, pb_eqm, pb_meq, pb_ltm, pb_mlt, pb_lem, pb_mle, ite_true, ite_false, reduceIte, not_true_eq_false, not_false_eq_true, pb_bind, Nat.zero_add, Nat.add_zero]
  | succ d ih =>
    intro n i hi hn
    obtain ⟨n', rfl, hn'⟩ := fuel_succ hn
    have ih' := ih n' (i + 1) (by omega) (by omega)
    rw [setF] at ih'
    rw [f_X6_metBy_6]
    simp only [f_X6_metBy_81]
    by_cases e1 : i = p
    · have hb : metb W r words kinds p ws more e i = false := by unfold metb; rw [decide_eq_true e1]; rfl
      rw [hb, cond_false] at ih'
      subst e1
      simp (disch := omega) only [pb_lits, pb_ltT, pb_ltF, pb_leT, pb_leF, pb_eqT, pb_eqF, pb_lt, pb_le, pb_eq, pb_add, pb_mul, pb_sub, pb_cl, pb_ibt, pb_eqm, pb_meq, pb_ltm, pb_mlt, pb_lem, pb_mle, ite_true, ite_false, reduceIte, not_true_eq_false, not_false_eq_true, pb_bind, Nat.zero_add, Nat.add_zero]
      exact ih'
    · have hb : metb W r words kinds p ws more e i = FulB W r (kinds p) ws (kinds i) (words i ||| more) e := by unfold metb; rw [decide_eq_false e1]; rfl
      rw [hb] at ih'
      have q1 := isFull_s h.W10 h.cl (k := kinds p) (ws := ws) (o := kinds i) (os := words i ||| more) (e := e) he (fun _ => he1)
      simp (disch := omega) only [pb_lits, pb_ltT, pb_ltF, pb_leT, pb_leF, pb_eqT, pb_eqF, pb_lt, pb_le, pb_eq, pb_add, pb_mul, pb_sub, pb_cl, pb_ibt, pb_eqm, pb_meq, pb_ltm, pb_mlt, pb_lem, pb_mle, ite_true, ite_false, reduceIte, not_true_eq_false, not_false_eq_true, pb_bind, Nat.zero_add, Nat.add_zero, q1, bI_n0]
      cases hF : FulB W r (kinds p) ws (kinds i) (words i ||| more) e
      · rw [hF, cond_false] at ih'
        rw [if_pos rfl]
        exact ih'
      · rw [hF, cond_true] at ih'
        rw [if_neg (by decide)]
        exact ih'
theorem metBy_s {W P : Nat} {r st close words kinds : Nat → Int32} (h : pCx W P r st close words kinds) {p e : Nat} (hp : p < P) (he1 : 1 ≤ e) (he : e ≤ 7) (ws more : Int32) : f_X6_metBy (nI W) (nI P) words kinds close (nI p) ws more (nI e) = some (setF (metb W r words kinds p ws more e) P) :=
  metBy_l h hp he1 he ws more P rf_fu 0 (by omega) (by have := h.P8; show P < 4096; omega)
theorem metNow_s {W P : Nat} {r st close words kinds : Nat → Int32} (h : pCx W P r st close words kinds) {p e : Nat} (hp : p < P) (he1 : 1 ≤ e) (he : e ≤ 7) : f_X6_metNow (nI W) (nI P) words kinds close (nI p) (nI e) = some (setF (metb W r words kinds p (words p) (nI 0) e) P) := by
  have hP := h.P8
  unfold f_X6_metNow
  simp (disch := omega) only [pb_lits, pb_ltT, pb_ltF, pb_leT, pb_leF, pb_eqT, pb_eqF, pb_lt, pb_le, pb_eq, pb_add, pb_mul, pb_sub, pb_cl, pb_ibt, pb_eqm, pb_meq, pb_ltm, pb_mlt, pb_lem, pb_mle, ite_true, ite_false, reduceIte, not_true_eq_false, not_false_eq_true, pb_bind, Nat.zero_add, Nat.add_zero, metBy_s h hp he1 he]
theorem withBy_l {W P : Nat} {r st close words kinds : Nat → Int32} (h : pCx W P r st close words kinds) {p e : Nat} (hp : p < P) (he1 : 1 ≤ e) (he : e ≤ 7) {ws : Int32} (hws : hasW W ws) : ∀ d n i : Nat, i + d = P → d < n →
    f_X11_withBy_6 r st n (nI p) ws (nI e) (setF (metb W r words kinds p ws (nI 0) e) i) (nI i) = some (setF (metb W r words kinds p ws (nI 0) e) P) := by
  have hP := h.P8
  intro d
  induction d with
  | zero =>
    intro n i hi hn
    obtain ⟨n', rfl, hn'⟩ := fuel_succ hn
    obtain rfl : i = P := by omega
    rw [f_X11_withBy_6, show Int32.toNatClampNeg 3 = 3 from rfl, h.rP]
    simp (disch := omega) only [pb_lits, pb_ltT, pb_ltF, pb_leT, pb_leF, pb_eqT, pb_eqF, pb_lt, pb_le, pb_eq, pb_add, pb_mul, pb_sub, pb_cl, pb_ibt, pb_eqm, pb_meq, pb_ltm, pb_mlt, pb_lem, pb_mle, ite_true, ite_false, reduceIte, not_true_eq_false, not_false_eq_true, pb_bind, Nat.zero_add, Nat.add_zero]
  | succ d ih =>
    intro n i hi hn
    obtain ⟨n', rfl, hn'⟩ := fuel_succ hn
    have ih' := ih n' (i + 1) (by omega) (by omega)
    rw [setF] at ih'
    rw [f_X11_withBy_6, show Int32.toNatClampNeg 3 = 3 from rfl, h.rP]
    simp only [f_X11_withBy_64, f_X11_withBy_63]
    by_cases e1 : i = p
    · have hb : metb W r words kinds p ws (nI 0) e i = false := by unfold metb; rw [decide_eq_true e1]; rfl
      rw [hb, cond_false] at ih'
      subst e1
      simp (disch := omega) only [pb_lits, pb_ltT, pb_ltF, pb_leT, pb_leF, pb_eqT, pb_eqF, pb_lt, pb_le, pb_eq, pb_add, pb_mul, pb_sub, pb_cl, pb_ibt, pb_eqm, pb_meq, pb_ltm, pb_mlt, pb_lem, pb_mle, ite_true, ite_false, reduceIte, not_true_eq_false, not_false_eq_true, pb_bind, Nat.zero_add, Nat.add_zero, or_nI0]
      exact ih'
    · have hb : metb W r words kinds p ws (nI 0) e i = FulB W r (kinds p) ws (kinds i) (words i) e := by unfold metb; rw [decide_eq_false e1, or_nI0]; rfl
      rw [hb] at ih'
      have q1 := rhymeOf_s h.ws (k := kinds p) (ws := ws) (o := kinds i) (os := words i) (e := e) he1 (by omega) hws (h.hw i (by omega))
      rw [h.kd p hp, h.kd i (by omega), h.wd i (by omega)] at q1
      have q2 := degN_2 (W := W) (r := r) (k := kinds p) (ws := ws) (o := kinds i) (os := words i) (e := e)
      rw [h.kd p hp, h.kd i (by omega), h.wd i (by omega)] at q2 ih'
      have q3 := degN_le (W := W) (r := r) (k := r (89 + 4 * p)) (ws := ws) (o := r (89 + 4 * i)) (os := st (8 + i)) (e := e)
      simp (disch := omega) only [pb_lits, pb_ltT, pb_ltF, pb_leT, pb_leF, pb_eqT, pb_eqF, pb_lt, pb_le, pb_eq, pb_add, pb_mul, pb_sub, pb_cl, pb_ibt, pb_eqm, pb_meq, pb_ltm, pb_mlt, pb_lem, pb_mle, ite_true, ite_false, reduceIte, not_true_eq_false, not_false_eq_true, pb_bind, Nat.zero_add, Nat.add_zero, kindOf_s, q1, or_nI0]
      by_cases hF : FulB W r (r (89 + 4 * p)) ws (r (89 + 4 * i)) (st (8 + i)) e = true
      · rw [hF, cond_true] at ih'
        rw [if_pos (q2.mpr hF)]
        exact ih'
      · have hF' := (Bool.not_eq_true _).mp hF
        rw [hF', cond_false] at ih'
        rw [if_neg (fun q => hF (q2.mp q))]
        exact ih'
theorem withBy_s {W P : Nat} {r st close words kinds : Nat → Int32} (h : pCx W P r st close words kinds) {p e : Nat} (hp : p < P) (he1 : 1 ≤ e) (he : e ≤ 7) {ws : Int32} (hws : hasW W ws) : f_X11_withBy r st (nI p) ws (nI e) = some (setF (metb W r words kinds p ws (nI 0) e) P) :=
  withBy_l h hp he1 he hws P rf_fu 0 (by omega) (by have := h.P8; show P < 4096; omega)
/-! ears -/
def earE (ear : Int32) (he : Nat → Int32) (k : Nat) : Nat := (if nI 0 < he k then he k else ear).toNatClampNeg
abbrev pEar (r : Nat → Int32) (ear : Int32) (he : Nat → Int32) : Prop :=
  (∀ k, k < 24 → 1 ≤ earE ear he k) ∧
  (∀ k, k < 24 → earE ear he k ≤ 6) ∧
  (∀ k, k < 24 → f_X9_earAt ear he (nI k) = some (nI (earE ear he k))) ∧
  (∀ k, k < 24 → f_X11_earAt r (nI k) = some (nI (earE ear he k)))
theorem pEar.lo {r : Nat → Int32} {ear : Int32} {he : Nat → Int32} (h : pEar r ear he) : ∀ k, k < 24 → 1 ≤ earE ear he k := h.1
theorem pEar.hi {r : Nat → Int32} {ear : Int32} {he : Nat → Int32} (h : pEar r ear he) : ∀ k, k < 24 → earE ear he k ≤ 6 := h.2.1
theorem pEar.X {r : Nat → Int32} {ear : Int32} {he : Nat → Int32} (h : pEar r ear he) : ∀ k, k < 24 → f_X9_earAt ear he (nI k) = some (nI (earE ear he k)) := h.2.2.1
theorem pEar.M {r : Nat → Int32} {ear : Int32} {he : Nat → Int32} (h : pEar r ear he) : ∀ k, k < 24 → f_X11_earAt r (nI k) = some (nI (earE ear he k)) := h.2.2.2
theorem rf_Iv.ears {W P G na ni j : Nat} {I : Nat → Int32} {J : Nat → Int64} {A : Nat → Nat → Int32} {B : Nat → Nat → Int64} {I' : Nat → Int32} {A' : Nat → Nat → Int32}
    (h : rf_Iv W P G na ni j I J A B I' A') (hP : 0 < P) : pEar (A' 2) (I 21) (A 18) := by
  have ht := h.tale
  have key : ∀ k, k < 24 → ∃ c, 1 ≤ c ∧ c ≤ 6 ∧ (if nI 0 < A 18 k then A 18 k else I 21) = nI c := by
    intro k hk
    obtain ⟨c, hc, ec⟩ := ht.he0 k hk
    by_cases h0 : nI 0 < A 18 k
    · rw [if_pos h0]
      refine ⟨c, ?_, hc, ec⟩
      rw [ec] at h0
      exact (nI_ltI (a := 0) (by decide) (by omega)).mp h0
    · rw [if_neg h0]
      exact ht.hear0 hP
  have key2 : ∀ k, k < 24 → 1 ≤ earE (I 21) (A 18) k ∧ earE (I 21) (A 18) k ≤ 6 ∧ (if nI 0 < A 18 k then A 18 k else I 21) = nI (earE (I 21) (A 18) k) := by
    intro k hk
    obtain ⟨c, h1, h2, h3⟩ := key k hk
    unfold earE
    rw [h3, nI_clamp (by omega)]
    exact ⟨h1, h2, rfl⟩
  refine ⟨fun k hk => (key2 k hk).1, fun k hk => (key2 k hk).2.1, fun k hk => ?_, fun k hk => ?_⟩
  · rw [earAtX_s hk, (key2 k hk).2.2]
  · rw [earAtM_s hk, ← ht.he k hk, ← ht.hear, (key2 k hk).2.2]
theorem hasW_1 {W w : Nat} (hw : w < W) (hW : W ≤ 32) : hasW W (nI 1 <<< (nI w &&& nI 31)) := ⟨w, hw, by rw [bt_1s (by omega), decide_eq_true rfl]⟩
theorem hasW_or {W : Nat} {a : Int32} (b : Int32) (h : hasW W a) : hasW W (a ||| b) := h.elim fun w hw => ⟨w, hw.1, by rw [bt_or, hw.2, Bool.true_or]⟩
theorem degreeP_s {W P : Nat} {r st close words kinds : Nat → Int32} (h : pCx W P r st close words kinds) {p q e : Nat} (hp : p < P) (hq : q < P) (he1 : 1 ≤ e) (he : e ≤ 7) : f_X6_degree (nI W) words kinds close (nI p) (nI q) (nI e) = some (nI (degN W r (kinds p) (words p) (kinds q) (words q) e)) := by
  have hP := h.P8
  unfold f_X6_degree
  simp (disch := omega) only [pb_lits, pb_ltT, pb_ltF, pb_leT, pb_leF, pb_eqT, pb_eqF, pb_lt, pb_le, pb_eq, pb_add, pb_mul, pb_sub, pb_cl, pb_ibt, pb_eqm, pb_meq, pb_ltm, pb_mlt, pb_lem, pb_mle, ite_true, ite_false, reduceIte, not_true_eq_false, not_false_eq_true, pb_bind, Nat.zero_add, Nat.add_zero, degreeX_s h.W10 h.cl he he1]
theorem rhymeNowP_s {W P : Nat} {r st close words kinds : Nat → Int32} (h : pCx W P r st close words kinds) {p q e : Nat} (hp : p < P) (hq : q < P) (he1 : 1 ≤ e) (he : e ≤ 7) : f_X11_rhymeNow r st (nI p) (nI q) (nI e) = some (nI (degN W r (kinds p) (words p) (kinds q) (words q) e)) := by
  rw [rhymeNow_s h.ws h.P8 (fun p hp => by rw [← h.wd p hp]; exact h.hw p hp) hp hq he1 (by omega), h.kd p hp, h.kd q hq, h.wd p hp, h.wd q hq]
