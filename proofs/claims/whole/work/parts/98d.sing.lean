/-! refrains -/
theorem FulB_sym {W : Nat} {r : Nat → Int32} (h : pWs W r) (als : ∀ a b, a < 8 → b < 8 → bt (r (121 + a)) b = bt (r (121 + b)) a) {k ws o os : Int32} {e : Nat} : FulB W r k ws o os e = FulB W r o os k ws e := by
  have alk_s : ∀ a b, 1 ≤ a → a ≤ 8 → 1 ≤ b → b ≤ 8 → alk r a b = alk r b a := by
    intro a b a1 a2 b1 b2
    unfold alk
    rw [als (a - 1) (b - 1) (by omega) (by omega)]
    congr 1
    exact Bool.eq_iff_iff.mpr ⟨fun q => by rw [beq_iff_eq] at q ⊢; exact q.symm, fun q => by rw [beq_iff_eq] at q ⊢; exact q.symm⟩
  have lk_s : ∀ w u, w < W → u < W → lkN r w u = lkN r u w := by
    intro w u hw hu
    obtain ⟨_, _, _, a⟩ := h.2.2 w hw
    obtain ⟨_, _, _, b⟩ := h.2.2 u hu
    have a1 := sound_b a
    have b1 := sound_b b
    unfold lkN
    rw [Nat.min_comm]
    exact run_congr _ _ (fun k h1 h2 => alk_s _ _ (a1 _ (by omega)).1 (a1 _ (by omega)).2 (b1 _ (by omega)).1 (b1 _ (by omega)).2)
  have ey_s : ∀ w u, eyN r w u = eyN r u w := by
    intro w u
    unfold eyN
    rw [Nat.min_comm]
    exact run_congr _ _ (fun k _ _ => Bool.eq_iff_iff.mpr ⟨fun q => by rw [beq_iff_eq] at q ⊢; exact q.symm, fun q => by rw [beq_iff_eq] at q ⊢; exact q.symm⟩)
  have fit_s : ∀ w u, w < W → u < W → fit r k o e w u = fit r o k e u w := by
    intro w u hw hu
    unfold fit mea
    rw [lk_s w u hw hu, ey_s w u]
    have c1 : (k = nI 2 ∨ o = nI 2) ↔ (o = nI 2 ∨ k = nI 2) := Or.comm
    have c2 : (k = nI 3 ∨ o = nI 3) ↔ (o = nI 3 ∨ k = nI 3) := Or.comm
    have c3 : (k = nI 1 ∨ o = nI 1) ↔ (o = nI 1 ∨ k = nI 1) := Or.comm
    simp only [c1, c2, c3]
  apply Bool.eq_iff_iff.mpr
  rw [FulB_iff, FulB_iff]
  constructor
  · rintro ⟨w, w1, w2, u, u1, u2, f⟩
    exact ⟨u, u1, u2, w, w1, w2, by rw [← fit_s w u w1 u1]; exact f⟩
  · rintro ⟨u, u1, u2, w, w1, w2, f⟩
    exact ⟨w, w1, w2, u, u1, u2, by rw [fit_s w u w1 u1]; exact f⟩
def sgB (W : Nat) (r words kinds : Nat → Int32) (e w p : Nat) : Bool := FulB W r (kinds p) (words p) (nI 0) (nI 1 <<< (nI w &&& nI 31)) e
theorem sing36 {W P : Nat} {r st close words kinds : Nat → Int32} (h : pCx W P r st close words kinds) {e : Nat} (he1 : 1 ≤ e) (he : e ≤ 7) (people : Int32) {w : Nat} (hw : w < W) (K : Int32 → Int32 → Int32 → (Nat → Int32) → Option (Int32 × (Nat → Int32))) : ∀ d n i : Nat, ∀ sg : Nat → Int32, i + d = P → d < n → sg w = setF (sgB W r words kinds e w) i →
    ∃ sg', f_X4_planSinging_36 K (nI W) (nI P) words kinds close n (nI e) (nI w) (nI i) people sg = K (nI e) (nI (w + 1)) people sg' ∧ sg' w = setF (sgB W r words kinds e w) P ∧ ∀ k, k ≠ w → sg' k = sg k := by
  have hP := h.P8
  have hW := h.W10
  intro d
  induction d with
  | zero =>
    intro n i sg hi hn hs
    obtain ⟨n', rfl, hn'⟩ := fuel_succ hn
    obtain rfl : i = P := by omega
    refine ⟨sg, ?_, hs, fun _ _ => rfl⟩
    rw [f_X4_planSinging_36, if_pos (nI_le (by omega) (by omega)), nI_1]
  | succ d ih =>
    intro n i sg hi hn hs
    obtain ⟨n', rfl, hn'⟩ := fuel_succ hn
    have ibi : rf_ib (nI i) 8 = true := pb_ibt (by omega) (by omega)
    have ibw : rf_ib (nI w) 10 = true := pb_ibt (by omega) (by omega)
    rw [f_X4_planSinging_36, if_neg (nI_ge (by omega) (by omega)), if_pos ibi, if_pos ibi, nI_clamp (by omega), show f_X9_isFullRhyme (nI W) close (kinds i) (words i) 0 ((1 : Int32) <<< (nI w &&& 31)) (nI e) = some (bI (sgB W r words kinds e w i)) from isFull_s hW h.cl he (fun _ => he1), pb_bind]
    simp only [f_X4_planSinging_96]
    rw [nI_1]
    cases hb : sgB W r words kinds e w i
    · rw [if_pos (show bI false = 0 from rfl)]
      exact ih n' (i + 1) sg (by omega) (by omega) (by rw [setF, hb, cond_false, hs])
    · rw [if_neg (show ¬ bI true = 0 by decide), if_pos ibw, if_pos ibw, nI_clamp (by omega)]
      obtain ⟨sg', q1, q2, q3⟩ := ih n' (i + 1) (upd sg w (sg w ||| ((1 : Int32) <<< (nI i &&& 31)))) (by omega) (by omega) (by rw [upd_same, setF, hb, cond_true, hs]; rfl)
      exact ⟨sg', q1, q2, fun k hk => by rw [q3 k hk, upd_ne _ _ hk]⟩
theorem sing16 {W P : Nat} {r st close words kinds : Nat → Int32} (h : pCx W P r st close words kinds) {e : Nat} (he1 : 1 ≤ e) (he : e ≤ 7) (people : Int32) : ∀ d n i : Nat, ∀ sg : Nat → Int32, i + d = W → d < n → (∀ w, w < i → sg w = setF (sgB W r words kinds e w) P) →
    ∃ sg', f_X4_planSinging_16 (nI W) (nI P) words kinds close n (nI e) (nI i) people sg = some (people, sg') ∧ ∀ w, w < W → sg' w = setF (sgB W r words kinds e w) P := by
  have hP := h.P8
  have hW := h.W10
  intro d
  induction d with
  | zero =>
    intro n i sg hi hn hs
    obtain ⟨n', rfl, hn'⟩ := fuel_succ hn
    refine ⟨sg, ?_, fun w hw => hs w (by omega)⟩
    rw [f_X4_planSinging_16, if_pos (nI_le (by omega) (by omega))]
  | succ d ih =>
    intro n i sg hi hn hs
    obtain ⟨n', rfl, hn'⟩ := fuel_succ hn
    obtain ⟨sg', q1, q2, q3⟩ := sing36 h he1 he people (w := i) (by omega) (f_X4_planSinging_16 (nI W) (nI P) words kinds close n') P rf_fu 0 (upd sg i 0) (by omega) (by show P < 4096; omega) (by rw [upd_same]; rfl)
    rw [f_X4_planSinging_16, if_neg (nI_ge (by omega) (by omega)), if_pos (pb_ibt (by omega) (by omega)), nI_clamp (by omega), show (0 : Int32) = nI 0 from rfl]
    rw [show f_X4_planSinging_36 (f_X4_planSinging_16 (nI W) (nI P) words kinds close n') (nI W) (nI P) words kinds close rf_fu (nI e) (nI i) (nI 0) people (upd sg i (nI 0)) = _ from q1]
    exact ih n' (i + 1) sg' (by omega) (by omega) (fun w hw => by
      by_cases ew : w = i
      · subst ew; exact q2
      · rw [q3 w ew, upd_ne _ _ ew]; exact hs w (by omega))
def covI (sg : Nat → Int32) (m : Nat) : Nat → Int32
  | 0 => nI 0
  | i + 1 => covI sg m i ||| (if m.testBit i = true then sg i else nI 0)
theorem allSing_l {people : Int32} {W : Nat} (hW : W ≤ 10) {sg : Nat → Int32} {m : Nat} (hm : m < 1024) : ∀ d n i : Nat, i + d = W → d < n → f_X4_allSing_4 people (nI W) sg n (nI m) (covI sg m i) (nI i) = some (bI (decide (people &&& (covI sg m W ^^^ (-1)) = 0))) := by
  intro d
  induction d with
  | zero =>
    intro n i hi hn
    obtain ⟨n', rfl, hn'⟩ := fuel_succ hn
    obtain rfl : i = W := by omega
    rw [f_X4_allSing_4, if_pos (nI_le (by omega) (by omega))]
    by_cases hz : people &&& (covI sg m i ^^^ (-1)) = 0
    · rw [if_pos hz, decide_eq_true hz]; rfl
    · rw [if_neg hz, decide_eq_false hz]; rfl
  | succ d ih =>
    intro n i hi hn
    obtain ⟨n', rfl, hn'⟩ := fuel_succ hn
    have ih' := ih n' (i + 1) (by omega) (by omega)
    rw [covI] at ih'
    rw [f_X4_allSing_4, if_neg (nI_ge (by omega) (by omega)), holdsX_s _ (by omega), pb_bind, bt_nI (by omega)]
    simp only [f_X4_allSing_37]
    rw [nI_1]
    cases hb : m.testBit i
    · rw [hb, if_neg (by decide)] at ih'
      rw [if_pos (show bI false = 0 from rfl)]
      exact ih'
    · rw [hb, if_pos rfl] at ih'
      rw [if_neg (show ¬ bI true = 0 by decide), if_pos (pb_ibt (by omega) (by omega)), nI_clamp (by omega)]
      exact ih'
/-! covers -/
theorem cov53 {W P : Nat} {r st close words kinds : Nat → Int32} (h : pCx W P r st close words kinds) (als : ∀ a b, a < 8 → b < 8 → bt (r (121 + a)) b = bt (r (121 + b)) a) {e : Nat} (he1 : 1 ≤ e) (he : e ≤ 7) (people : Int32) {v2 : Int32} (hear : f_X11_earAt r v2 = some (nI e)) {w : Nat} (hw : w < W) (has : Int32) (K : Int32 → Int32 → Int32 → Int32 → Int32 → (Nat → Int32) → Option (Int32 × Int32 × Int32 × (Nat → Int32))) : ∀ d n i : Nat, ∀ cv : Nat → Int32, i + d = P → d < n → cv w = setF (fun p => bt people p && sgB W r words kinds e w p) i →
    ∃ cv', f_X11_refrain_53 K has r st n v2 people (nI w) (nI i) 0 0 cv = K v2 people (nI (w + 1)) 0 0 cv' ∧ cv' w = setF (fun p => bt people p && sgB W r words kinds e w p) P ∧ ∀ k, k ≠ w → cv' k = cv k := by
  have hP := h.P8
  have hW := h.W10
  intro d
  induction d with
  | zero =>
    intro n i cv hi hn hs
    obtain ⟨n', rfl, hn'⟩ := fuel_succ hn
    obtain rfl : i = P := by omega
    refine ⟨cv, ?_, hs, fun _ _ => rfl⟩
    rw [f_X11_refrain_53, show Int32.toNatClampNeg 3 = 3 from rfl, h.rP, if_pos (nI_le (by omega) (by omega)), nI_1]
  | succ d ih =>
    intro n i cv hi hn hs
    obtain ⟨n', rfl, hn'⟩ := fuel_succ hn
    have ibw : rf_ib (nI w) 10 = true := pb_ibt (by omega) (by omega)
    rw [f_X11_refrain_53, show Int32.toNatClampNeg 3 = 3 from rfl, h.rP, if_neg (nI_ge (by omega) (by omega)), if_pos ibw, hasBitM_s _ (by omega), pb_bind]
    simp only [f_X11_refrain_123, f_X11_refrain_124]
    rw [if_pos ibw, nI_1, nI_clamp (n := w) (by omega)]
    have zero : (bt people i && sgB W r words kinds e w i) = false → ∃ cv', f_X11_refrain_53 K has r st n' v2 people (nI w) (nI (i + 1)) 0 0 (upd cv w (cv w ||| 0)) = K v2 people (nI (w + 1)) 0 0 cv' ∧ cv' w = setF (fun p => bt people p && sgB W r words kinds e w p) P ∧ ∀ k, k ≠ w → cv' k = cv k := by
      intro hno
      obtain ⟨cv', q1, q2, q3⟩ := ih n' (i + 1) (upd cv w (cv w ||| 0)) (by omega) (by omega) (by
        rw [upd_same, setF, hno, cond_false, hs]
        exact or_nI0 _)
      exact ⟨cv', q1, q2, fun k hk => by rw [q3 k hk, upd_ne _ _ hk]⟩
    cases hb : bt people i
    · rw [if_pos (show bI false = 0 from rfl)]
      exact zero (by rw [hb]; rfl)
    · have w1 : rf_ib (8 + nI i) 26 = true := by simp (disch := omega) only [pb_lits, pb_ltT, pb_ltF, pb_leT, pb_leF, pb_eqT, pb_eqF, pb_lt, pb_le, pb_eq, pb_add, pb_mul, pb_sub, pb_cl, pb_ibt, pb_eqm, pb_meq, pb_ltm, pb_mlt, pb_lem, pb_mle, ite_true, ite_false, reduceIte, not_true_eq_false, not_false_eq_true, pb_bind, Nat.zero_add, Nat.add_zero]
      have w3 : (8 + nI i).toNatClampNeg = 8 + i := by simp (disch := omega) only [pb_lits, pb_ltT, pb_ltF, pb_leT, pb_leF, pb_eqT, pb_eqF, pb_lt, pb_le, pb_eq, pb_add, pb_mul, pb_sub, pb_cl, pb_ibt, pb_eqm, pb_meq, pb_ltm, pb_mlt, pb_lem, pb_mle, ite_true, ite_false, reduceIte, not_true_eq_false, not_false_eq_true, pb_bind, Nat.zero_add, Nat.add_zero]
      have hsw := hasW_1 hw (by omega : W ≤ 32)
      have q := rhymeOf_s h.ws (k := nI 0) (ws := nI 1 <<< (nI w &&& nI 31)) (o := kinds i) (os := words i) (e := e) he1 (by omega) hsw (h.hw i (by omega))
      have q2 := degN_2 (W := W) (r := r) (k := nI 0) (ws := nI 1 <<< (nI w &&& nI 31)) (o := kinds i) (os := words i) (e := e)
      have q3 := degN_le (W := W) (r := r) (k := nI 0) (ws := nI 1 <<< (nI w &&& nI 31)) (o := kinds i) (os := words i) (e := e)
      rw [FulB_sym h.ws als] at q2
      rw [if_neg (show ¬ bI true = 0 by decide), kindOf_s r (by omega), pb_bind, if_pos w1, hear, pb_bind, w3, ← h.kd i (by omega), ← h.wd i (by omega), show f_X11_rhymeOf r 0 ((1 : Int32) <<< (nI w &&& 31)) (kinds i) (words i) (nI e) = _ from q, pb_bind]
      generalize degN W r (nI 0) (nI 1 <<< (nI w &&& nI 31)) (kinds i) (words i) e = D at q2 q3
      by_cases h2 : D = 2
      · have hs1 : sgB W r words kinds e w i = true := q2.mp h2
        rw [if_pos (show nI D = 2 by rw [h2]; rfl), if_pos ibw]
        obtain ⟨cv', c1, c2, c3⟩ := ih n' (i + 1) (upd cv w (cv w ||| ((1 : Int32) <<< (nI i &&& 31)))) (by omega) (by omega) (by
          rw [upd_same, setF, hb, hs1, hs]; rfl)
        exact ⟨cv', c1, c2, fun k hk => by rw [c3 k hk, upd_ne _ _ hk]⟩
      · rw [if_neg (show ¬ nI D = 2 from fun q => h2 ((nI_eq (b := 2) (by omega) (by decide)).mp q))]
        exact zero (by
          rw [hb, Bool.true_and]
          cases hsg : sgB W r words kinds e w i
          · rfl
          · exact absurd (q2.mpr hsg) h2)
theorem cov31 {W P : Nat} {r st close words kinds : Nat → Int32} (h : pCx W P r st close words kinds) (als : ∀ a b, a < 8 → b < 8 → bt (r (121 + a)) b = bt (r (121 + b)) a) {e : Nat} (he1 : 1 ≤ e) (he : e ≤ 7) (people : Int32) {v2 : Int32} (hear : f_X11_earAt r v2 = some (nI e)) (has : Int32) : ∀ d n i : Nat, ∀ cv : Nat → Int32, i + d = W → d < n → (∀ w, w < i → cv w = setF (fun p => bt people p && sgB W r words kinds e w p) P) →
    ∃ cv', f_X11_refrain_31 has r st n v2 people (nI i) 0 0 cv = f_X11_refrain_145 has r st rf_fu people (-2) 0 0 0 cv' ∧ ∀ w, w < W → cv' w = setF (fun p => bt people p && sgB W r words kinds e w p) P := by
  have hP := h.P8
  have hW := h.W10
  intro d
  induction d with
  | zero =>
    intro n i cv hi hn hs
    obtain ⟨n', rfl, hn'⟩ := fuel_succ hn
    refine ⟨cv, ?_, fun w hw => hs w (by omega)⟩
    rw [f_X11_refrain_31, show Int32.toNatClampNeg 2 = 2 from rfl, h.ws.2.1, if_pos (nI_le (by omega) (by omega))]
  | succ d ih =>
    intro n i cv hi hn hs
    obtain ⟨n', rfl, hn'⟩ := fuel_succ hn
    obtain ⟨cv', q1, q2, q3⟩ := cov53 h als he1 he people hear (w := i) (by omega) has (f_X11_refrain_31 has r st n') P rf_fu 0 (upd cv i 0) (by omega) (by show P < 4096; omega) (by rw [upd_same]; rfl)
    rw [f_X11_refrain_31, show Int32.toNatClampNeg 2 = 2 from rfl, h.ws.2.1, if_neg (nI_ge (by omega) (by omega)), if_pos (pb_ibt (by omega) (by omega)), nI_clamp (by omega)]
    rw [show f_X11_refrain_53 (f_X11_refrain_31 has r st n') has r st rf_fu v2 people (nI i) 0 0 0 (upd cv i 0) = _ from q1]
    exact ih n' (i + 1) cv' (by omega) (by omega) (fun w hw => by
      by_cases ew : w = i
      · subst ew; exact q2
      · rw [q3 w ew, upd_ne _ _ ew]; exact hs w (by omega))
