/-! banks, who is alone there -/
theorem bt_m1 (k : Nat) : bt (-1) k = decide (k < 32) := by
  show (BitVec.allOnes 32).getLsbD k = _
  rw [BitVec.getLsbD_allOnes]
theorem bt_com (a : Int32) {k : Nat} (hk : k < 32) : bt (a ^^^ (-1)) k = !bt a k := by
  rw [bt_xor, bt_m1, decide_eq_true hk, Bool.xor_true]
def onB (far : Int32) (b p : Nat) : Bool := if b = 1 then bt far p else !bt far p
theorem onBankX_s {P : Nat} (hP : P ≤ 8) {ev far : Int32} (hev : ∀ p, bt ev p = decide (p < P)) (hf : ∀ p, P ≤ p → bt far p = false) {b : Nat} (hb : b < 2) : f_X2_onBank ev far (nI b) = some (setF (onB far b) P) := by
  unfold f_X2_onBank
  obtain rfl | rfl : b = 0 ∨ b = 1 := by omega
  · simp (disch := omega) only [pb_lits, pb_ltT, pb_ltF, pb_leT, pb_leF, pb_eqT, pb_eqF, pb_lt, pb_le, pb_eq, pb_add, pb_mul, pb_sub, pb_cl, pb_ibt, pb_eqm, pb_meq, pb_ltm, pb_mlt, pb_lem, pb_mle, ite_true, ite_false, reduceIte, not_true_eq_false, not_false_eq_true, pb_bind, Nat.zero_add, Nat.add_zero]
    congr 1
    refine (bt_ext (fun k hk => ?_))
    rw [bt_setF _ P (by omega), bt_and, hev]
    congr 1
    exact (bt_com far hk).trans rfl
  · simp (disch := omega) only [pb_lits, pb_ltT, pb_ltF, pb_leT, pb_leF, pb_eqT, pb_eqF, pb_lt, pb_le, pb_eq, pb_add, pb_mul, pb_sub, pb_cl, pb_ibt, pb_eqm, pb_meq, pb_ltm, pb_mlt, pb_lem, pb_mle, ite_true, ite_false, reduceIte, not_true_eq_false, not_false_eq_true, pb_bind, Nat.zero_add, Nat.add_zero]
    congr 1
    refine (bt_ext (fun k hk => ?_))
    rw [bt_setF _ P (by omega)]
    by_cases h : k < P
    · rw [decide_eq_true h]; rfl
    · rw [decide_eq_false h, Bool.false_and, hf k (by omega)]
theorem onBankM_l {P : Nat} (hP : P ≤ 8) {r st : Nat → Int32} {far : Int32} (hr : r 3 = nI P) (hst : ∀ p, p < P → st p = if bt far p = true then 1 else 0) {b : Nat} (hb : b < 2) : ∀ d n i : Nat, i + d = P → d < n →
    f_X11_onBank_4 r st n (nI b) (setF (onB far b) i) (nI i) = some (setF (onB far b) P) := by
  intro d
  induction d with
  | zero =>
    intro n i hi hn
    obtain ⟨n', rfl, hn'⟩ := fuel_succ hn
    obtain rfl : i = P := by omega
    rw [f_X11_onBank_4, show Int32.toNatClampNeg 3 = 3 from rfl, hr]
    simp (disch := omega) only [pb_lits, pb_ltT, pb_ltF, pb_leT, pb_leF, pb_eqT, pb_eqF, pb_lt, pb_le, pb_eq, pb_add, pb_mul, pb_sub, pb_cl, pb_ibt, pb_eqm, pb_meq, pb_ltm, pb_mlt, pb_lem, pb_mle, ite_true, ite_false, reduceIte, not_true_eq_false, not_false_eq_true, pb_bind, Nat.zero_add, Nat.add_zero]
  | succ d ih =>
    intro n i hi hn
    obtain ⟨n', rfl, hn'⟩ := fuel_succ hn
    have ih' := ih n' (i + 1) (by omega) (by omega)
    rw [setF] at ih'
    rw [f_X11_onBank_4, show Int32.toNatClampNeg 3 = 3 from rfl, hr]
    have h1 := hst i (by omega)
    unfold onB at ih' ⊢
    obtain rfl | rfl : b = 0 ∨ b = 1 := by omega
    · rw [if_neg (by decide)] at ih'
      cases hb : bt far i
      · rw [hb] at ih' h1
        have h1' : st i = nI 0 := h1
        simp (disch := omega) only [pb_lits, pb_ltT, pb_ltF, pb_leT, pb_leF, pb_eqT, pb_eqF, pb_lt, pb_le, pb_eq, pb_add, pb_mul, pb_sub, pb_cl, pb_ibt, pb_eqm, pb_meq, pb_ltm, pb_mlt, pb_lem, pb_mle, ite_true, ite_false, reduceIte, not_true_eq_false, not_false_eq_true, pb_bind, Nat.zero_add, Nat.add_zero, f_X11_onBank_32, h1']
        exact ih'
      · rw [hb] at ih' h1
        have h1' : st i = nI 1 := h1
        simp (disch := omega) only [pb_lits, pb_ltT, pb_ltF, pb_leT, pb_leF, pb_eqT, pb_eqF, pb_lt, pb_le, pb_eq, pb_add, pb_mul, pb_sub, pb_cl, pb_ibt, pb_eqm, pb_meq, pb_ltm, pb_mlt, pb_lem, pb_mle, ite_true, ite_false, reduceIte, not_true_eq_false, not_false_eq_true, pb_bind, Nat.zero_add, Nat.add_zero, f_X11_onBank_32, h1', or_nI0]
        exact ih'
    · rw [if_pos rfl] at ih'
      cases hb : bt far i
      · rw [hb] at ih' h1
        have h1' : st i = nI 0 := h1
        simp (disch := omega) only [pb_lits, pb_ltT, pb_ltF, pb_leT, pb_leF, pb_eqT, pb_eqF, pb_lt, pb_le, pb_eq, pb_add, pb_mul, pb_sub, pb_cl, pb_ibt, pb_eqm, pb_meq, pb_ltm, pb_mlt, pb_lem, pb_mle, ite_true, ite_false, reduceIte, not_true_eq_false, not_false_eq_true, pb_bind, Nat.zero_add, Nat.add_zero, f_X11_onBank_32, h1', or_nI0]
        exact ih'
      · rw [hb] at ih' h1
        have h1' : st i = nI 1 := h1
        simp (disch := omega) only [pb_lits, pb_ltT, pb_ltF, pb_leT, pb_leF, pb_eqT, pb_eqF, pb_lt, pb_le, pb_eq, pb_add, pb_mul, pb_sub, pb_cl, pb_ibt, pb_eqm, pb_meq, pb_ltm, pb_mlt, pb_lem, pb_mle, ite_true, ite_false, reduceIte, not_true_eq_false, not_false_eq_true, pb_bind, Nat.zero_add, Nat.add_zero, f_X11_onBank_32, h1']
        exact ih'
theorem onBankM_s {P : Nat} (hP : P ≤ 8) {r st : Nat → Int32} {far : Int32} (hr : r 3 = nI P) (hst : ∀ p, p < P → st p = if bt far p = true then 1 else 0) {b : Nat} (hb : b < 2) : f_X11_onBank r st (nI b) = some (setF (onB far b) P) :=
  onBankM_l hP hr hst hb P rf_fu 0 (by omega) (by show P < 4096; omega)
/-- whom of some p can go with -/
def canF (W P : Nat) (r words kinds : Nat → Int32) (people : Int32) (e p : Nat) : Int32 := if bt people p = true then setF (metb W r words kinds p (words p) (nI 0) e) P &&& people else nI 0
theorem layCan_l {W P : Nat} {r st close words kinds : Nat → Int32} (h : pCx W P r st close words kinds) {e : Nat} (he1 : 1 ≤ e) (he : e ≤ 7) {people : Int32} (hp : ∀ p, bt people p = true → p < P) : ∀ d n i : Nat, ∀ c : Nat → Int32, i + d = 8 → d < n →
    f_X11_layCan_2 r st n people (nI e) (nI i) c = some (fun k => if i ≤ k ∧ k < 8 then canF W P r words kinds people e k else c k) := by
  intro d
  induction d with
  | zero =>
    intro n i c hi hn
    obtain ⟨n', rfl, hn'⟩ := fuel_succ hn
    obtain rfl : i = 8 := by omega
    rw [f_X11_layCan_2]
    simp (disch := omega) only [pb_lits, pb_ltT, pb_ltF, pb_leT, pb_leF, pb_eqT, pb_eqF, pb_lt, pb_le, pb_eq, pb_add, pb_mul, pb_sub, pb_cl, pb_ibt, pb_eqm, pb_meq, pb_ltm, pb_mlt, pb_lem, pb_mle, ite_true, ite_false, reduceIte, not_true_eq_false, not_false_eq_true, pb_bind, Nat.zero_add, Nat.add_zero]
    congr 1
    funext k
    rw [if_neg (by omega)]
  | succ d ih =>
    intro n i c hi hn
    obtain ⟨n', rfl, hn'⟩ := fuel_succ hn
    have fin : ∀ x, x = canF W P r words kinds people e i → f_X11_layCan_2 r st n' people (nI e) (nI (i + 1)) (upd c i x) = some (fun k => if i ≤ k ∧ k < 8 then canF W P r words kinds people e k else c k) := by
      intro x hx
      rw [ih n' (i + 1) (upd c i x) (by omega) (by omega)]
      congr 1
      funext k
      unfold upd
      by_cases h1 : k = i
      · subst h1
        rw [if_neg (by omega), if_pos rfl, if_pos (by omega), hx]
      · by_cases h2 : i + 1 ≤ k ∧ k < 8
        · rw [if_pos h2, if_pos (by omega)]
        · rw [if_neg h2, if_neg h1, if_neg (by omega)]
    rw [f_X11_layCan_2, hasBitM_s _ (by omega)]
    by_cases hb : bt people i = true
    · have hiP := hp i hb
      have q := withBy_s h hiP he1 he (h.hw i hiP)
      rw [hb, show bI true = nI 1 from rfl]
      rw [h.wd i hiP] at q
      simp (disch := omega) only [pb_lits, pb_ltT, pb_ltF, pb_leT, pb_leF, pb_eqT, pb_eqF, pb_lt, pb_le, pb_eq, pb_add, pb_mul, pb_sub, pb_cl, pb_ibt, pb_eqm, pb_meq, pb_ltm, pb_mlt, pb_lem, pb_mle, ite_true, ite_false, reduceIte, not_true_eq_false, not_false_eq_true, pb_bind, Nat.zero_add, Nat.add_zero, f_X11_layCan_42, q]
      rw [← h.wd i hiP]
      exact fin _ (by unfold canF; rw [if_pos hb])
    · rw [(Bool.not_eq_true _).mp hb, show bI false = nI 0 from rfl]
      simp (disch := omega) only [pb_lits, pb_ltT, pb_ltF, pb_leT, pb_leF, pb_eqT, pb_eqF, pb_lt, pb_le, pb_eq, pb_add, pb_mul, pb_sub, pb_cl, pb_ibt, pb_eqm, pb_meq, pb_ltm, pb_mlt, pb_lem, pb_mle, ite_true, ite_false, reduceIte, not_true_eq_false, not_false_eq_true, pb_bind, Nat.zero_add, Nat.add_zero, f_X11_layCan_42]
      exact fin _ (by unfold canF; rw [if_neg hb])
theorem layCan_s {W P : Nat} {r st close words kinds : Nat → Int32} (h : pCx W P r st close words kinds) {e : Nat} (he1 : 1 ≤ e) (he : e ≤ 7) {people : Int32} (hp : ∀ p, bt people p = true → p < P) (c : Nat → Int32) : ∃ c', f_X11_layCan r st c people (nI e) = some c' ∧ ∀ k, k < 8 → c' k = canF W P r words kinds people e k :=
  ⟨_, layCan_l h he1 he hp 8 rf_fu 0 c (by omega) (by decide), fun k hk => by rw [if_pos (by omega)]⟩
/-- nobody of some goes with p -/
def lonB (W P : Nat) (r words kinds : Nat → Int32) (people : Int32) (e p : Nat) : Bool := bt people p && decide (setF (metb W r words kinds p (words p) (nI 0) e) P &&& people = nI 0)
theorem lonely_l {W P : Nat} {r st close words kinds : Nat → Int32} (h : pCx W P r st close words kinds) {e : Nat} (he1 : 1 ≤ e) (he : e ≤ 7) (people : Int32) : ∀ d n i : Nat, i + d = P → d < n →
    f_X6_lonely_5 (nI W) (nI P) words kinds close n people (nI e) (setF (lonB W P r words kinds people e) i) (nI i) = some (setF (lonB W P r words kinds people e) P) := by
  have hP := h.P8
  intro d
  induction d with
  | zero =>
    intro n i hi hn
    obtain ⟨n', rfl, hn'⟩ := fuel_succ hn
    obtain rfl : i = P := by omega
    rw [f_X6_lonely_5]
    simp (disch := omega) only [pb_lits, pb_ltT, pb_ltF, pb_leT, pb_leF, pb_eqT, pb_eqF, pb_lt, pb_le, pb_eq, pb_add, pb_mul, pb_sub, pb_cl, pb_ibt, pb_eqm, pb_meq, pb_ltm, pb_mlt, pb_lem, pb_mle, ite_true, ite_false, reduceIte, not_true_eq_false, not_false_eq_true, pb_bind, Nat.zero_add, Nat.add_zero]
  | succ d ih =>
    intro n i hi hn
    obtain ⟨n', rfl, hn'⟩ := fuel_succ hn
    have ih' := ih n' (i + 1) (by omega) (by omega)
    rw [setF] at ih'
    have q := metNow_s h (p := i) (by omega) he1 he
    rw [f_X6_lonely_5, holdsX_s _ (by omega)]
    by_cases hb : bt people i = true
    · rw [hb, show bI true = nI 1 from rfl]
      simp (disch := omega) only [pb_lits, pb_ltT, pb_ltF, pb_leT, pb_leF, pb_eqT, pb_eqF, pb_lt, pb_le, pb_eq, pb_add, pb_mul, pb_sub, pb_cl, pb_ibt, pb_eqm, pb_meq, pb_ltm, pb_mlt, pb_lem, pb_mle, ite_true, ite_false, reduceIte, not_true_eq_false, not_false_eq_true, pb_bind, Nat.zero_add, Nat.add_zero, f_X6_lonely_45, q]
      by_cases hz : setF (metb W r words kinds i (words i) (nI 0) e) P &&& people = nI 0
      · rw [if_pos hz]
        rw [show lonB W P r words kinds people e i = true by unfold lonB; rw [hb, decide_eq_true hz]; rfl, cond_true] at ih'
        exact ih'
      · rw [if_neg hz]
        rw [show lonB W P r words kinds people e i = false by unfold lonB; rw [hb, decide_eq_false hz]; rfl, cond_false] at ih'
        exact ih'
    · rw [(Bool.not_eq_true _).mp hb, show bI false = nI 0 from rfl]
      simp (disch := omega) only [pb_lits, pb_ltT, pb_ltF, pb_leT, pb_leF, pb_eqT, pb_eqF, pb_lt, pb_le, pb_eq, pb_add, pb_mul, pb_sub, pb_cl, pb_ibt, pb_eqm, pb_meq, pb_ltm, pb_mlt, pb_lem, pb_mle, ite_true, ite_false, reduceIte, not_true_eq_false, not_false_eq_true, pb_bind, Nat.zero_add, Nat.add_zero, f_X6_lonely_45]
      rw [show lonB W P r words kinds people e i = false by unfold lonB; rw [(Bool.not_eq_true _).mp hb]; rfl, cond_false] at ih'
      exact ih'
theorem lonely_s {W P : Nat} {r st close words kinds : Nat → Int32} (h : pCx W P r st close words kinds) {e : Nat} (he1 : 1 ≤ e) (he : e ≤ 7) (people : Int32) : f_X6_lonely (nI W) (nI P) words kinds close people (nI e) = some (setF (lonB W P r words kinds people e) P) :=
  lonely_l h he1 he people P rf_fu 0 (by omega) (by have := h.P8; show P < 4096; omega)
theorem aloneBy_l {W P : Nat} {r st words kinds : Nat → Int32} (hP : P ≤ 8) (hr : r 3 = nI P) {far : Int32} (hst : ∀ p, p < P → st p = if bt far p = true then 1 else 0) {b : Nat} (hb : b < 2) {e : Nat} {c : Nat → Int32} {people : Int32} (hpe : people = setF (onB far b) P) (hc : ∀ k, k < 8 → c k = canF W P r words kinds people e k) : ∀ d n i : Nat, i + d = P → d < n →
    f_X11_aloneBy_15 r st n (nI b) (setF (lonB W P r words kinds people e) i) (nI i) c = some (setF (lonB W P r words kinds people e) P, c) := by
  intro d
  induction d with
  | zero =>
    intro n i hi hn
    obtain ⟨n', rfl, hn'⟩ := fuel_succ hn
    obtain rfl : i = P := by omega
    rw [f_X11_aloneBy_15, show Int32.toNatClampNeg 3 = 3 from rfl, hr]
    simp (disch := omega) only [pb_lits, pb_ltT, pb_ltF, pb_leT, pb_leF, pb_eqT, pb_eqF, pb_lt, pb_le, pb_eq, pb_add, pb_mul, pb_sub, pb_cl, pb_ibt, pb_eqm, pb_meq, pb_ltm, pb_mlt, pb_lem, pb_mle, ite_true, ite_false, reduceIte, not_true_eq_false, not_false_eq_true, pb_bind, Nat.zero_add, Nat.add_zero]
  | succ d ih =>
    intro n i hi hn
    obtain ⟨n', rfl, hn'⟩ := fuel_succ hn
    have ih' := ih n' (i + 1) (by omega) (by omega)
    rw [setF] at ih'
    rw [f_X11_aloneBy_15, show Int32.toNatClampNeg 3 = 3 from rfl, hr]
    have h1 := hst i (by omega)
    have h2 := hc i (by omega)
    have h3 : bt people i = onB far b i := by rw [hpe, bt_setF _ P (by omega), decide_eq_true (by omega : i < P), Bool.true_and]
    have h4 : (st i = nI b) ↔ bt people i = true := by
      rw [h1, h3]
      unfold onB
      obtain rfl | rfl : b = 0 ∨ b = 1 := by omega
      · cases bt far i <;> decide
      · cases bt far i <;> decide
    simp (disch := omega) only [pb_lits, pb_ltT, pb_ltF, pb_leT, pb_leF, pb_eqT, pb_eqF, pb_lt, pb_le, pb_eq, pb_add, pb_mul, pb_sub, pb_cl, pb_ibt, pb_eqm, pb_meq, pb_ltm, pb_mlt, pb_lem, pb_mle, ite_true, ite_false, reduceIte, not_true_eq_false, not_false_eq_true, pb_bind, Nat.zero_add, Nat.add_zero, f_X11_aloneBy_55, f_X11_aloneBy_56, h4, h2]
    by_cases hbt : bt people i = true
    · rw [if_pos hbt]
      unfold canF
      rw [if_pos hbt]
      by_cases hz : setF (metb W r words kinds i (words i) (nI 0) e) P &&& people = nI 0
      · rw [if_pos hz]
        rw [show lonB W P r words kinds people e i = true by unfold lonB; rw [hbt, decide_eq_true hz]; rfl, cond_true] at ih'
        exact ih'
      · rw [if_neg hz, or_nI0]
        rw [show lonB W P r words kinds people e i = false by unfold lonB; rw [hbt, decide_eq_false hz]; rfl, cond_false] at ih'
        exact ih'
    · rw [if_neg hbt, or_nI0]
      rw [show lonB W P r words kinds people e i = false by unfold lonB; rw [(Bool.not_eq_true _).mp hbt]; rfl, cond_false] at ih'
      exact ih'
theorem setF_sub (b : Nat → Bool) {P : Nat} (hP : P ≤ 8) : ∀ p, bt (setF b P) p = true → p < P := by
  intro p hp
  rw [bt_setF _ P (by omega), Bool.and_eq_true] at hp
  exact of_decide_eq_true hp.1
theorem aloneBy_s {W P : Nat} {r st close words kinds : Nat → Int32} (h : pCx W P r st close words kinds) {far : Int32} (hst : ∀ p, p < P → st p = if bt far p = true then 1 else 0) {b : Nat} (hb : b < 2) {e : Nat} (he1 : 1 ≤ e) (he : e ≤ 7) (c : Nat → Int32) : ∃ c', f_X11_aloneBy r st c (nI b) (nI e) = some (setF (lonB W P r words kinds (setF (onB far b) P) e) P, c') := by
  obtain ⟨c', q1, q2⟩ := layCan_s h he1 he (setF_sub (onB far b) h.P8) c
  refine ⟨c', ?_⟩
  unfold f_X11_aloneBy
  rw [onBankM_s h.P8 h.rP hst hb]
  simp only [pb_bind]
  rw [q1]
  simp only [pb_bind]
  exact aloneBy_l h.P8 h.rP hst hb rfl q2 P rf_fu 0 (by omega) (by have := h.P8; show P < 4096; omega)
theorem whyN_no {a b : Bool} (h : ¬ (a = true ∧ b = true)) : ¬ bI (!(a && b)) = 0 ∧ ¬ whyN a b = 0 ∧ whyN a b ≠ 4 := by
  cases a <;> cases b <;> first | decide | exact absurd ⟨rfl, rfl⟩ h
theorem rf_st21 {j : Nat} : rf_step_21 (rf_Inv j) (rf_Inv (j + 1)) := by
  rintro I J A B I' A' v1 v2 ⟨W, P, G, na, ni, h⟩
  have ht := h.tale
  have hP := ht.P8
  unfold f_X10_alone f_X11_alone
  rw [ht.hpc, ht.hwc, isBankX_s (by omega), isHourX_s, bankWhyM_s h.hasb]
  simp only [pb_bind, refused_s, f_X11_good, f_X11_no]
  by_cases hab : (decide (0 < P) && gd 2 v1) = true ∧ gd 24 v2 = true
  · rw [hab.1, hab.2]
    have h1 := hab.1
    rw [Bool.and_eq_true] at h1
    have hPP : 0 < P := of_decide_eq_true h1.1
    obtain ⟨b, hb, rfl⟩ := gd_of (by decide) h1.2
    obtain ⟨k, hk, rfl⟩ := gd_of (by decide) hab.2
    have hE := h.ears hPP
    have e1 := hE.lo k hk
    have e2 := hE.hi k hk
    obtain ⟨c', q⟩ := aloneBy_s h.cx h.now.hbank hb e1 (by omega) (A' 7)
    rw [onBankX_s hP h.every h.now.hfar0 hb, hE.X k hk, hE.M k hk]
    simp only [pb_bind]
    rw [q, lonely_s h.cx e1 (by omega)]
    exact ⟨_, _, rfl, rfl, rfl, h.quiet (h.fault.tell (u := 0) (by decide)) rfl rfl rfl rfl⟩
  · obtain ⟨c1, c2, c3⟩ := whyN_no hab
    rw [if_neg c1, if_neg c2]
    exact ⟨_, _, rfl, rfl, rfl, h.quiet (h.fault.tell c3) rfl rfl rfl rfl⟩
