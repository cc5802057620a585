/-! who rhymes fully, who by half -/
def anyF (p : Nat → Bool) : Nat → Nat → Bool
  | 0, _ => false
  | d + 1, i => p i || anyF p d (i + 1)
theorem anyF_iff (p : Nat → Bool) : ∀ d i : Nat, anyF p d i = true ↔ ∃ k, i ≤ k ∧ k < i + d ∧ p k = true := by
  intro d
  induction d with
  | zero => intro i; constructor; (intro h; cases h); (rintro ⟨k, h1, h2, _⟩; omega)
  | succ d ih =>
    intro i
    rw [anyF, Bool.or_eq_true, ih]
    constructor
    · rintro (h | ⟨k, h1, h2, h3⟩)
      · exact ⟨i, by omega, by omega, h⟩
      · exact ⟨k, by omega, by omega, h3⟩
    · rintro ⟨k, h1, h2, h3⟩
      by_cases e : k = i
      · subst e; exact Or.inl h3
      · exact Or.inr ⟨k, by omega, by omega, h3⟩
theorem anyF_0 (p : Nat → Bool) (d : Nat) : anyF p d 0 = true ↔ ∃ k, k < d ∧ p k = true := by
  rw [anyF_iff]
  exact ⟨fun ⟨k, h1, h2, h3⟩ => ⟨k, by omega, h3⟩, fun ⟨k, h2, h3⟩ => ⟨k, by omega, by omega, h3⟩⟩
def fit (r : Nat → Int32) (k o : Int32) (e w u : Nat) : Bool := decide (k = nI 2 ∨ o = nI 2) || decide ((if k = nI 3 ∨ o = nI 3 then e - 1 else e) ≤ mea r k o w u)
def FulB (W : Nat) (r : Nat → Int32) (k ws o os : Int32) (e : Nat) : Bool := anyF (fun w => bt ws w && anyF (fun u => bt os u && fit r k o e w u) W 0) W 0
theorem FulB_iff {W : Nat} {r : Nat → Int32} {k ws o os : Int32} {e : Nat} : FulB W r k ws o os e = true ↔ ∃ w, w < W ∧ bt ws w = true ∧ ∃ u, u < W ∧ bt os u = true ∧ fit r k o e w u = true := by
  unfold FulB
  simp only [anyF_0, Bool.and_eq_true]
/-- 2 fully, 1 by half, 0 not at all -/
def degN (W : Nat) (r : Nat → Int32) (k ws o os : Int32) (e : Nat) : Nat := if FulB W r k ws o os e = true then 2 else if k = nI 3 ∨ o = nI 3 then 0 else if FulB W r k ws o os (e - 1) = true then 1 else 0
theorem degN_le {W : Nat} {r : Nat → Int32} {k ws o os : Int32} {e : Nat} : degN W r k ws o os e ≤ 2 := by
  unfold degN
  split
  · omega
  · split
    · omega
    · split <;> omega
theorem degN_2 {W : Nat} {r : Nat → Int32} {k ws o os : Int32} {e : Nat} : degN W r k ws o os e = 2 ↔ FulB W r k ws o os e = true := by
  unfold degN
  by_cases h : FulB W r k ws o os e = true
  · rw [if_pos h]; exact ⟨fun _ => h, fun _ => rfl⟩
  · rw [if_neg h]
    refine ⟨fun q => ?_, fun q => absurd q h⟩
    exfalso
    revert q
    split
    · decide
    · split <;> decide
def hasW (W : Nat) (s : Int32) : Prop := ∃ w, w < W ∧ bt s w = true
theorem rhyme18 {W : Nat} {r : Nat → Int32} (h : pWs W r) {k o ws os : Int32} {e : Nat} (he : 1 ≤ e) (he8 : e ≤ 100) : ∀ d n i m : Nat, i + d = W → d < n → m ≤ 8 →
    ∃ m', m' ≤ 8 ∧ f_X11_rhymeOf_18 r n k ws o os (nI e) (nI m) (nI i) = some (if e ≤ m' then nI 2 else if e - 1 ≤ m' then (if k = nI 3 ∨ o = nI 3 then nI 2 else nI 1) else nI 0) ∧ ∀ c, c ≤ m' ↔ (c ≤ m ∨ ∃ w, i ≤ w ∧ w < W ∧ ∃ u, u < W ∧ bt ws w = true ∧ bt os u = true ∧ c ≤ mea r k o w u) := by
  have hW := h.1
  have hr := h.2.1
  intro d
  induction d with
  | zero =>
    intro n i m hi hn hm
    obtain ⟨n', rfl, hn'⟩ := fuel_succ hn
    refine ⟨m, hm, ?_, fun c => ⟨Or.inl, fun h => h.elim id (fun ⟨u, h1, h2, _⟩ => by omega)⟩⟩
    rw [f_X11_rhymeOf_18, show Int32.toNatClampNeg 2 = 2 from rfl, hr, f_X11_rhymeOf_156]
    by_cases h1 : e ≤ m
    · rw [if_pos h1]
      simp (disch := omega) only [pb_lits, pb_ltT, pb_ltF, pb_leT, pb_leF, pb_eqT, pb_eqF, pb_lt, pb_le, pb_eq, pb_add, pb_mul, pb_sub, pb_cl, pb_ibt, pb_eqm, pb_meq, pb_ltm, pb_mlt, pb_lem, pb_mle, ite_true, ite_false, reduceIte, not_true_eq_false, not_false_eq_true, pb_bind, Nat.zero_add, Nat.add_zero]
    · rw [if_neg h1]
      by_cases h2 : e - 1 ≤ m
      · rw [if_pos h2]
        simp (disch := omega) only [pb_lits, pb_ltT, pb_ltF, pb_leT, pb_leF, pb_eqT, pb_eqF, pb_lt, pb_le, pb_eq, pb_add, pb_mul, pb_sub, pb_cl, pb_ibt, pb_eqm, pb_meq, pb_ltm, pb_mlt, pb_lem, pb_mle, ite_true, ite_false, reduceIte, not_true_eq_false, not_false_eq_true, pb_bind, Nat.zero_add, Nat.add_zero]
        by_cases k3 : k = nI 3
        · rw [if_pos k3, if_pos (Or.inl k3)]
        · rw [if_neg k3]
          by_cases o3 : o = nI 3
          · rw [if_pos o3, if_pos (Or.inr o3)]
          · rw [if_neg o3, if_neg (fun q => q.elim k3 o3)]
      · rw [if_neg h2]
        simp (disch := omega) only [pb_lits, pb_ltT, pb_ltF, pb_leT, pb_leF, pb_eqT, pb_eqF, pb_lt, pb_le, pb_eq, pb_add, pb_mul, pb_sub, pb_cl, pb_ibt, pb_eqm, pb_meq, pb_ltm, pb_mlt, pb_lem, pb_mle, ite_true, ite_false, reduceIte, not_true_eq_false, not_false_eq_true, pb_bind, Nat.zero_add, Nat.add_zero]
  | succ d ih =>
    intro n i m hi hn hm
    obtain ⟨n', rfl, hn'⟩ := fuel_succ hn
    obtain ⟨m1, a1, a2, a3⟩ := rhyme32 h (k := k) (o := o) (ws := ws) (os := os) (ear := nI e) (w := i) (by omega) (f_X11_rhymeOf_18 r n') W rf_fu 0 m (by omega) (by show W < 4096; omega) hm
    obtain ⟨m2, b1, b2, b3⟩ := ih n' (i + 1) m1 (by omega) (by omega) a1
    refine ⟨m2, b1, ?_, fun c => (b3 c).trans ?_⟩
    · rw [f_X11_rhymeOf_18, show Int32.toNatClampNeg 2 = 2 from rfl, hr, if_neg (by simp (disch := omega) only [pb_lits, pb_ltT, pb_ltF, pb_leT, pb_leF, pb_eqT, pb_eqF, pb_lt, pb_le, pb_eq, pb_add, pb_mul, pb_sub, pb_cl, pb_ibt, pb_eqm, pb_meq, pb_ltm, pb_mlt, pb_lem, pb_mle, ite_true, ite_false, reduceIte, not_true_eq_false, not_false_eq_true, pb_bind, Nat.zero_add, Nat.add_zero]), show (0 : Int32) = nI 0 from rfl, a2, b2]
    · rw [a3 c]
      constructor
      · rintro ((q | ⟨u, q1, q2, q3, q4, q5⟩) | ⟨w, q1, q2⟩)
        · exact Or.inl q
        · exact Or.inr ⟨i, by omega, by omega, u, q2, q3, q4, q5⟩
        · exact Or.inr ⟨w, by omega, q2⟩
      · rintro (q | ⟨w, q1, q2, u, q3, q4, q5, q6⟩)
        · exact Or.inl (Or.inl q)
        · by_cases hw : w = i
          · subst hw; exact Or.inl (Or.inr ⟨u, by omega, q3, q4, q5, q6⟩)
          · exact Or.inr ⟨w, by omega, q2, u, q3, q4, q5, q6⟩
theorem rhymeOf_s {W : Nat} {r : Nat → Int32} (h : pWs W r) {k o ws os : Int32} {e : Nat} (he : 1 ≤ e) (he8 : e ≤ 100) (hw : hasW W ws) (ho : hasW W os) : f_X11_rhymeOf r k ws o os (nI e) = some (nI (degN W r k ws o os e)) := by
  have hW := h.1
  obtain ⟨w0, hw1, hw2⟩ := hw
  obtain ⟨u0, ho1, ho2⟩ := ho
  unfold f_X11_rhymeOf f_X11_rhymeOf_10
  by_cases hc : k = nI 2 ∨ o = nI 2
  · have : FulB W r k ws o os e = true := FulB_iff.mpr ⟨w0, hw1, hw2, u0, ho1, ho2, by unfold fit; rw [decide_eq_true hc, Bool.true_or]⟩
    rw [show degN W r k ws o os e = 2 from degN_2.mpr this]
    rcases hc with hc | hc
    · rw [if_pos (show k = 2 from hc)]; rfl
    · by_cases k2 : k = 2
      · rw [if_pos k2]; rfl
      · rw [if_neg k2, if_pos (show o = 2 from hc)]; rfl
  · have k2 : ¬ k = 2 := fun q => hc (Or.inl q)
    have o2 : ¬ o = 2 := fun q => hc (Or.inr q)
    rw [if_neg k2, if_neg o2]
    obtain ⟨m, a1, a2, a3⟩ := rhyme18 h (k := k) (o := o) (ws := ws) (os := os) he he8 W rf_fu 0 0 (by omega) (by show W < 4096; omega) (by omega)
    rw [show (0 : Int32) = nI 0 from rfl, a2]
    have hf : ∀ c w u, fit r k o c w u = decide ((if k = nI 3 ∨ o = nI 3 then c - 1 else c) ≤ mea r k o w u) := fun c w u => by unfold fit; rw [decide_eq_false hc, Bool.false_or]
    have key : ∀ c, c ≤ m ↔ ∃ w, w < W ∧ bt ws w = true ∧ ∃ u, u < W ∧ bt os u = true ∧ c ≤ mea r k o w u := by
      intro c
      rw [a3 c]
      constructor
      · rintro (q | ⟨w, q1, q2, u, q3, q4, q5, q6⟩)
        · exact ⟨w0, hw1, hw2, u0, ho1, ho2, by omega⟩
        · exact ⟨w, q2, q4, u, q3, q5, q6⟩
      · rintro ⟨w, q1, q2, u, q3, q4, q5⟩
        exact Or.inr ⟨w, by omega, q1, u, q3, q2, q4, q5⟩
    have hF : ∀ c, FulB W r k ws o os c = true ↔ (if k = nI 3 ∨ o = nI 3 then c - 1 else c) ≤ m := by
      intro c
      rw [FulB_iff, key]
      simp only [hf, decide_eq_true_eq]
    unfold degN
    simp only [hF]
    by_cases k3 : k = nI 3 ∨ o = nI 3
    · simp only [k3, if_true]
      by_cases h1 : e ≤ m
      · rw [if_pos h1, if_pos (by omega)]
      · rw [if_neg h1]
        by_cases h2 : e - 1 ≤ m
        · rw [if_pos h2, if_pos h2]
        · rw [if_neg h2, if_neg h2]
    · simp only [k3, if_false]
      by_cases h1 : e ≤ m
      · rw [if_pos h1, if_pos h1]
      · rw [if_neg h1, if_neg h1]
        by_cases h2 : e - 1 ≤ m
        · rw [if_pos h2, if_pos h2]
        · rw [if_neg h2, if_neg h2]
theorem rhymeNow_s {W P : Nat} {r st : Nat → Int32} (h : pWs W r) (hP : P ≤ 8) (hw : ∀ p, p < P → hasW W (st (8 + p))) {p q e : Nat} (hp : p < P) (hq : q < P) (he : 1 ≤ e) (he8 : e ≤ 100) : f_X11_rhymeNow r st (nI p) (nI q) (nI e) = some (nI (degN W r (r (89 + 4 * p)) (st (8 + p)) (r (89 + 4 * q)) (st (8 + q)) e)) := by
  unfold f_X11_rhymeNow
  rw [kindOf_s r (by omega), kindOf_s r (by omega)]
  simp (disch := omega) only [pb_lits, pb_ltT, pb_ltF, pb_leT, pb_leF, pb_eqT, pb_eqF, pb_lt, pb_le, pb_eq, pb_add, pb_mul, pb_sub, pb_cl, pb_ibt, pb_eqm, pb_meq, pb_ltm, pb_mlt, pb_lem, pb_mle, ite_true, ite_false, reduceIte, not_true_eq_false, not_false_eq_true, pb_bind, Nat.zero_add, Nat.add_zero]
  rw [rhymeOf_s h he he8 (hw p hp) (hw q hq)]
  rfl
/-! the class's -/
theorem ones_bt {W : Nat} (hW : W ≤ 10) (u : Nat) : bt ((nI 1 <<< (nI W &&& nI 31)) - nI 1) u = decide (u < W) := by
  have h : ∀ V : Fin 11, (nI 1 <<< (nI V.1 &&& nI 31)) - nI 1 = nI (2 ^ V.1 - 1) := by decide +kernel
  have h1 : (nI 1 <<< (nI W &&& nI 31)) - nI 1 = nI (2 ^ W - 1) := h ⟨W, by omega⟩
  have h2 : 2 ^ W ≤ 2 ^ 10 := Nat.pow_le_pow_right (by decide) hW
  rw [h1, bt_nI (by omega), Nat.testBit_two_pow_sub_one]
theorem rhymingWords_s {W : Nat} {r close : Nat → Int32} (hW : W ≤ 10) (hc : pClose W r close) {k o : Int32} {e w : Nat} (hw : w < W) (he : e ≤ 7) (h3 : k = nI 3 ∨ o = nI 3 → 1 ≤ e) : ∃ s, f_X9_rhymingWords (nI W) close (nI w) k o (nI e) = some s ∧ ∀ u, bt s u = (decide (u < W) && fit r k o e w u) := by
  unfold f_X9_rhymingWords
  simp only [f_X9_rhymingWords_10, f_X9_rhymingWords_29]
  by_cases hch : k = nI 2 ∨ o = nI 2
  · refine ⟨(nI 1 <<< (nI W &&& nI 31)) - nI 1, ?_, fun u => ?_⟩
    · rcases hch with hch | hch
      · rw [if_pos (show k = 2 from hch)]; rfl
      · by_cases k2 : k = 2
        · rw [if_pos k2]; rfl
        · rw [if_neg k2, if_pos (show o = 2 from hch)]; rfl
    · rw [ones_bt hW]
      unfold fit
      rw [decide_eq_true hch, Bool.true_or, Bool.and_true]
  · have k2 : ¬ k = 2 := fun q => hch (Or.inl q)
    have o2 : ¬ o = 2 := fun q => hch (Or.inr q)
    rw [if_neg k2, if_neg o2]
    have main : ∀ m : Nat, m < 2 → (∀ u, mea r k o w u = if m = 0 then lkN r w u else eyN r w u) → ∃ s, f_X9_rhymingWords_34 (nI W) close (nI w) k o (nI e) (nI m) = some s ∧ ∀ u, bt s u = (decide (u < W) && fit r k o e w u) := by
      intro m hm hme
      have hf : ∀ u, fit r k o e w u = decide ((if k = nI 3 ∨ o = nI 3 then e - 1 else e) ≤ if m = 0 then lkN r w u else eyN r w u) := fun u => by unfold fit; rw [decide_eq_false hch, Bool.false_or, hme u]
      have hget : ∀ a, a < 8 → f_X9_rhymingWords_55 (nI W) close (nI w) (nI m) (nI a) = some (close ((m * 8 + a) * 10 + w)) := by
        intro a ha
        unfold f_X9_rhymingWords_55
        simp (disch := omega) only [pb_lits, pb_ltT, pb_ltF, pb_leT, pb_leF, pb_eqT, pb_eqF, pb_lt, pb_le, pb_eq, pb_add, pb_mul, pb_sub, pb_cl, pb_ibt, pb_eqm, pb_meq, pb_ltm, pb_mlt, pb_lem, pb_mle, ite_true, ite_false, reduceIte, not_true_eq_false, not_false_eq_true, pb_bind, Nat.zero_add, Nat.add_zero]
      have hbt := fun a ha u => hc m a w hm (by omega : a < 8) hw u
      unfold f_X9_rhymingWords_34
      simp only [f_X9_rhymingWords_46]
      by_cases k3 : k = nI 3 ∨ o = nI 3
      · have he1 := h3 k3
        refine ⟨_, ?_, fun u => (hbt (e - 1) (by omega) u).trans (by rw [hf u, if_pos k3])⟩
        rw [show nI e - 1 = nI (e - 1) from pb_sub (b := 1) he1, hget (e - 1) (by omega)]
        rcases k3 with k3 | k3
        · rw [if_pos (show k = 3 from k3)]
        · by_cases k4 : k = 3
          · rw [if_pos k4]
          · rw [if_neg k4, if_pos (show o = 3 from k3)]
      · refine ⟨_, ?_, fun u => (hbt e (by omega) u).trans (by rw [hf u, if_neg k3])⟩
        rw [if_neg (show ¬ k = 3 from fun q => k3 (Or.inl q)), if_neg (show ¬ o = 3 from fun q => k3 (Or.inr q)), hget e (by omega)]
    by_cases k1 : k = 1
    · rw [if_pos k1]
      exact main 1 (by decide) (fun u => by unfold mea; rw [if_pos (Or.inl (show k = nI 1 from k1)), if_neg (by decide)])
    · rw [if_neg k1]
      by_cases o1 : o = 1
      · rw [if_pos o1]
        exact main 1 (by decide) (fun u => by unfold mea; rw [if_pos (Or.inr (show o = nI 1 from o1)), if_neg (by decide)])
      · rw [if_neg o1]
        exact main 0 (by decide) (fun u => by unfold mea; rw [if_neg (show ¬ (k = nI 1 ∨ o = nI 1) from fun q => q.elim k1 o1), if_pos rfl])
theorem full3 {W : Nat} {r close : Nat → Int32} (hW : W ≤ 10) (hc : pClose W r close) {k ws o os : Int32} {e : Nat} (he : e ≤ 7) (h3 : k = nI 3 ∨ o = nI 3 → 1 ≤ e) : ∀ d n i : Nat, i + d = W → d < n →
    f_X9_isFullRhyme_3 (nI W) close n k ws o os (nI e) (nI i) = some (bI (anyF (fun w => bt ws w && anyF (fun u => bt os u && fit r k o e w u) W 0) d i)) := by
  intro d
  induction d with
  | zero =>
    intro n i hi hn
    obtain ⟨n', rfl, hn'⟩ := fuel_succ hn
    rw [f_X9_isFullRhyme_3]
    simp (disch := omega) only [pb_lits, pb_ltT, pb_ltF, pb_leT, pb_leF, pb_eqT, pb_eqF, pb_lt, pb_le, pb_eq, pb_add, pb_mul, pb_sub, pb_cl, pb_ibt, pb_eqm, pb_meq, pb_ltm, pb_mlt, pb_lem, pb_mle, ite_true, ite_false, reduceIte, not_true_eq_false, not_false_eq_true, pb_bind, Nat.zero_add, Nat.add_zero]
    rfl
  | succ d ih =>
    intro n i hi hn
    obtain ⟨n', rfl, hn'⟩ := fuel_succ hn
    have ih' := ih n' (i + 1) (by omega) (by omega)
    obtain ⟨s, hs1, hs2⟩ := rhymingWords_s hW hc (k := k) (o := o) (e := e) (w := i) (by omega) he h3
    rw [f_X9_isFullRhyme_3, holdsX_s _ (by omega), hs1, anyF]
    simp only [f_X9_isFullRhyme_39]
    simp (disch := omega) only [pb_lits, pb_ltT, pb_ltF, pb_leT, pb_leF, pb_eqT, pb_eqF, pb_lt, pb_le, pb_eq, pb_add, pb_mul, pb_sub, pb_cl, pb_ibt, pb_eqm, pb_meq, pb_ltm, pb_mlt, pb_lem, pb_mle, ite_true, ite_false, reduceIte, not_true_eq_false, not_false_eq_true, pb_bind, Nat.zero_add, Nat.add_zero, bI_n0]
    have hz : (s &&& os = nI 0) ↔ anyF (fun u => bt os u && fit r k o e i u) W 0 = false := by
      show (s &&& os = 0) ↔ _
      rw [pb_eq0, ← Bool.not_eq_true, anyF_0]
      constructor
      · rintro q ⟨u, hu, q2⟩
        have := q u (by omega)
        rw [bt_and, hs2 u, decide_eq_true hu, Bool.true_and] at this
        rw [Bool.and_comm] at q2
        rw [this] at q2
        cases q2
      · intro q u hu
        rw [bt_and, hs2 u]
        by_cases huW : u < W
        · rw [decide_eq_true huW, Bool.true_and, Bool.and_comm, ← Bool.not_eq_true]
          exact fun q2 => q ⟨u, huW, q2⟩
        · rw [decide_eq_false huW, Bool.false_and, Bool.false_and]
    by_cases hb : bt ws i = true
    · rw [hb]
      simp only [Bool.true_eq_false, if_false, Bool.true_and]
      by_cases hz' : s &&& os = nI 0
      · rw [if_pos hz', hz.mp hz', Bool.false_or]
        exact ih'
      · rw [if_neg hz']
        have : anyF (fun u => bt os u && fit r k o e i u) W 0 = true := (Bool.not_eq_false _).mp (fun q => hz' (hz.mpr q))
        rw [this, Bool.true_or]
        rfl
    · rw [Bool.not_eq_true] at hb
      rw [hb]
      simp only [if_true, Bool.false_and, Bool.false_or]
      exact ih'
theorem isFull_s {W : Nat} {r close : Nat → Int32} (hW : W ≤ 10) (hc : pClose W r close) {k ws o os : Int32} {e : Nat} (he : e ≤ 7) (h3 : k = nI 3 ∨ o = nI 3 → 1 ≤ e) : f_X9_isFullRhyme (nI W) close k ws o os (nI e) = some (bI (FulB W r k ws o os e)) :=
  full3 hW hc he h3 W rf_fu 0 (by omega) (by show W < 4096; omega)
theorem degreeX_s {W : Nat} {r close : Nat → Int32} (hW : W ≤ 10) (hc : pClose W r close) {k ws o os : Int32} {e : Nat} (he : e ≤ 7) (he1 : 1 ≤ e) : f_X9_degree (nI W) close k ws o os (nI e) = some (nI (degN W r k ws o os e)) := by
  unfold f_X9_degree f_X9_degree_26
  rw [isFull_s hW hc he (fun _ => he1), show nI e - 1 = nI (e - 1) from pb_sub (b := 1) he1]
  unfold degN
  by_cases hf : FulB W r k ws o os e = true
  · rw [hf, if_pos rfl]; rfl
  · rw [if_neg hf]
    rw [Bool.not_eq_true] at hf
    rw [hf]
    by_cases h3 : k = nI 3 ∨ o = nI 3
    · rw [if_pos h3]
      show (if k = 3 then some 0 else if o = 3 then some 0 else _) = _
      rcases h3 with h3 | h3
      · rw [if_pos (show k = 3 from h3)]; rfl
      · by_cases k4 : k = 3
        · rw [if_pos k4]; rfl
        · rw [if_neg k4, if_pos (show o = 3 from h3)]; rfl
    · rw [if_neg h3, isFull_s hW hc (by omega) (fun q => absurd q h3)]
      show (if k = 3 then some 0 else if o = 3 then some 0 else _) = _
      rw [if_neg (show ¬ k = 3 from fun q => h3 (Or.inl q)), if_neg (show ¬ o = 3 from fun q => h3 (Or.inr q))]
      cases FulB W r k ws o os (e - 1) <;> rfl
