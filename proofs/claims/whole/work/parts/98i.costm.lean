/-! the reference's cost -/
def oneF (W : Nat) (words : Nat → Int32) (p w : Nat) : Int32 := if w = W ∨ bt (words p) w = true then nI 0 else nI 1 <<< (nI w &&& nI 31)
def prW (W : Nat) (words : Nat → Int32) (pr : Nat → Nat) (p w : Nat) : Nat := if w = W then 0 else cpr words pr p w
theorem one_ne {w : Nat} (hw : w < 32) : ¬ (nI 1 <<< (nI w &&& nI 31)) = nI 0 := by
  intro q
  have h1 := bt_1s hw w
  rw [q, decide_eq_true rfl] at h1
  have h2 : bt (nI 0) w = false := bt_0 w
  rw [h2] at h1; cases h1
theorem one0 {W : Nat} {words : Nat → Int32} {p w : Nat} (hw : w < 32) : (oneF W words p w = nI 0) ↔ (w = W ∨ bt (words p) w = true) := by
  unfold oneF
  by_cases h : w = W ∨ bt (words p) w = true
  · rw [if_pos h]; exact ⟨fun _ => h, fun _ => rfl⟩
  · rw [if_neg h]; exact ⟨fun q => absurd q (one_ne hw), fun q => absurd q h⟩
def FulC (W : Nat) (r words kinds : Nat → Int32) (e p q w u : Nat) : Bool := FulB W r (kinds p) (words p ||| oneF W words p w) (kinds q) (words q ||| oneF W words q u) e
theorem cost1 {W P : Nat} {r st close words kinds : Nat → Int32} (h : pCx W P r st close words kinds) {pr : Nat → Nat} (hpr : ∀ w, w < W → r (9 + 8 * w) = nI (pr w) ∧ pr w ≤ 99) {e : Nat} (he1 : 1 ≤ e) (he : e ≤ 7) {p q : Nat} (hp : p < P) (hq : q < P) (K : Int32 → Int32 → Int32 → Int32 → Int32 → Option Int32) {n m w u : Nat} (hm : 0 < m) (hm2 : m ≤ 1000000) (hw : w ≤ W) (hu : u ≤ W) :
    f_X11_costOf_37 K r st (n + 1) (nI p) (nI q) (nI e) (nI m) (nI w) (nI u) = f_X11_costOf_37 K r st n (nI p) (nI q) (nI e) (nI (if prW W words pr p w + prW W words pr q u < m ∧ FulC W r words kinds e p q w u = true then prW W words pr p w + prW W words pr q u else m)) (nI w) (nI (u + 1)) := by
  have hP := h.P8
  have hW := h.W10
  have hr := h.ws.2.1
  have cl8 : ∀ k, k < 8 → (8 + nI k).toNatClampNeg = 8 + k := fun k hk => by simp (disch := omega) only [pb_lits, pb_ltT, pb_ltF, pb_leT, pb_leF, pb_eqT, pb_eqF, pb_lt, pb_le, pb_eq, pb_add, pb_mul, pb_sub, pb_cl, pb_ibt, pb_eqm, pb_meq, pb_ltm, pb_mlt, pb_lem, pb_mle, ite_true, ite_false, reduceIte, not_true_eq_false, not_false_eq_true, pb_bind, Nat.zero_add, Nat.add_zero]
  have ib8 : ∀ k, k < 8 → rf_ib (8 + nI k) 26 = true := fun k hk => by simp (disch := omega) only [pb_lits, pb_ltT, pb_ltF, pb_leT, pb_leF, pb_eqT, pb_eqF, pb_lt, pb_le, pb_eq, pb_add, pb_mul, pb_sub, pb_cl, pb_ibt, pb_eqm, pb_meq, pb_ltm, pb_mlt, pb_lem, pb_mle, ite_true, ite_false, reduceIte, not_true_eq_false, not_false_eq_true, pb_bind, Nat.zero_add, Nat.add_zero]
  have pw99 : ∀ a x, x ≤ W → prW W words pr a x ≤ 99 := by
    intro a x hx
    unfold prW cpr
    by_cases e1 : x = W
    · rw [if_pos e1]; omega
    · rw [if_neg e1]
      split
      · omega
      · exact (hpr x (by omega)).2
  have qr := rhymeOf_s h.ws (k := kinds p) (ws := words p ||| oneF W words p w) (o := kinds q) (os := words q ||| oneF W words q u) (e := e) he1 (by omega) (hasW_or _ (h.hw p hp)) (hasW_or _ (h.hw q hq))
  have q2 := degN_2 (W := W) (r := r) (k := kinds p) (ws := words p ||| oneF W words p w) (o := kinds q) (os := words q ||| oneF W words q u) (e := e)
  have q3 := degN_le (W := W) (r := r) (k := kinds p) (ws := words p ||| oneF W words p w) (o := kinds q) (os := words q ||| oneF W words q u) (e := e)
  have h159 : f_X11_costOf_159 K (f_X11_costOf_37 K r st n) r st (nI p) (nI q) (nI e) (nI m) (nI w) (nI u) (oneF W words p w) (oneF W words q u) (nI (prW W words pr p w)) (nI (prW W words pr q u)) = f_X11_costOf_37 K r st n (nI p) (nI q) (nI e) (nI (if prW W words pr p w + prW W words pr q u < m ∧ FulC W r words kinds e p q w u = true then prW W words pr p w + prW W words pr q u else m)) (nI w) (nI (u + 1)) := by
    have a1 := pw99 p w hw
    have a2 := pw99 q u hu
    unfold f_X11_costOf_159
    simp only [f_X11_costOf_219]
    rw [nI_add, nI_1, kindOf_s r (by omega), kindOf_s r (by omega), pb_bind, if_pos (ib8 p (by omega)), pb_bind, if_pos (ib8 q (by omega)), cl8 p (by omega), cl8 q (by omega), ← h.kd p hp, ← h.kd q hq, ← h.wd p hp, ← h.wd q hq, qr, pb_bind]
    unfold FulC
    generalize degN W r (kinds p) (words p ||| oneF W words p w) (kinds q) (words q ||| oneF W words q u) e = D at q2 q3
    have ax : prW W words pr p w + prW W words pr q u ≤ 198 := by omega
    generalize prW W words pr p w + prW W words pr q u = x at ax ⊢
    by_cases h1 : m ≤ x
    · rw [if_pos (nI_le h1 (by omega)), if_neg (fun z => by have := z.1; omega)]
    · rw [if_neg (nI_ge (by omega) (by omega))]
      by_cases h2 : D = 2
      · rw [if_pos (show nI D = 2 by rw [h2]; rfl), if_pos ⟨by omega, q2.mp h2⟩]
      · rw [if_neg (show ¬ nI D = 2 from fun z => h2 ((nI_eq (b := 2) (by omega) (by decide)).mp z)), if_neg (fun z => h2 (q2.mpr z.2))]
  have h144 : f_X11_costOf_144 K (f_X11_costOf_37 K r st n) r st (nI p) (nI q) (nI e) (nI m) (nI w) (nI u) (oneF W words p w) (oneF W words q u) (nI (prW W words pr p w)) = f_X11_costOf_159 K (f_X11_costOf_37 K r st n) r st (nI p) (nI q) (nI e) (nI m) (nI w) (nI u) (oneF W words p w) (oneF W words q u) (nI (prW W words pr p w)) (nI (prW W words pr q u)) := by
    unfold f_X11_costOf_144
    by_cases h0 : oneF W words q u = nI 0
    · rw [if_pos (show oneF W words q u = 0 from h0)]
      have : prW W words pr q u = 0 := by
        unfold prW cpr
        rcases (one0 (by omega)).mp h0 with x | x
        · rw [if_pos x]
        · rw [x, if_pos rfl, ite_self]
      rw [this]; rfl
    · rw [if_neg (show ¬ oneF W words q u = 0 from h0)]
      have hn0 := fun z => h0 ((one0 (W := W) (words := words) (p := q) (w := u) (by omega)).mpr z)
      have huW : u < W := by
        apply Nat.lt_of_le_of_ne hu
        exact fun z => hn0 (Or.inl z)
      rw [priceOf_s r (by omega), pb_bind, (hpr u huW).1]
      have : prW W words pr q u = pr u := by
        unfold prW cpr
        rw [if_neg (by omega), if_neg (fun z => hn0 (Or.inr z))]
      rw [this]
  have h127 : f_X11_costOf_127 K (f_X11_costOf_37 K r st n) r st (nI p) (nI q) (nI e) (nI m) (nI w) (nI u) (oneF W words p w) (oneF W words q u) = f_X11_costOf_144 K (f_X11_costOf_37 K r st n) r st (nI p) (nI q) (nI e) (nI m) (nI w) (nI u) (oneF W words p w) (oneF W words q u) (nI (prW W words pr p w)) := by
    unfold f_X11_costOf_127
    by_cases h0 : oneF W words p w = nI 0
    · rw [if_pos (show oneF W words p w = 0 from h0)]
      have : prW W words pr p w = 0 := by
        unfold prW cpr
        rcases (one0 (by omega)).mp h0 with x | x
        · rw [if_pos x]
        · rw [x, if_pos rfl, ite_self]
      rw [this]; rfl
    · rw [if_neg (show ¬ oneF W words p w = 0 from h0)]
      have hn0 := fun z => h0 ((one0 (W := W) (words := words) (p := p) (w := w) (by omega)).mpr z)
      have huW : w < W := by
        apply Nat.lt_of_le_of_ne hw
        exact fun z => hn0 (Or.inl z)
      rw [priceOf_s r (by omega), pb_bind, (hpr w huW).1]
      have : prW W words pr p w = pr w := by
        unfold prW cpr
        rw [if_neg (by omega), if_neg (fun z => hn0 (Or.inr z))]
      rw [this]
  have h89 : f_X11_costOf_89 K (f_X11_costOf_37 K r st n) r st (nI p) (nI q) (nI e) (nI m) (nI w) (nI u) (oneF W words p w) = f_X11_costOf_127 K (f_X11_costOf_37 K r st n) r st (nI p) (nI q) (nI e) (nI m) (nI w) (nI u) (oneF W words p w) (oneF W words q u) := by
    unfold f_X11_costOf_89 f_X11_costOf_119
    rw [show Int32.toNatClampNeg 2 = 2 from rfl, hr]
    by_cases huW : u = W
    · rw [if_pos (by rw [huW]), show oneF W words q u = 0 from (one0 (by omega)).mpr (Or.inl huW)]
    · rw [if_neg (fun z => huW ((nI_eq (by omega) (by omega)).mp z)), if_pos (ib8 q (by omega)), cl8 q (by omega), ← h.wd q hq, hasBitM_s _ (by omega), pb_bind]
      cases hb : bt (words q) u
      · rw [if_pos (show bI false = 0 from rfl)]
        have : oneF W words q u = (1 : Int32) <<< (nI u &&& 31) := by unfold oneF; rw [if_neg (fun z => z.elim huW (fun y => by rw [hb] at y; cases y))]; rfl
        rw [this]
      · rw [if_neg (show ¬ bI true = 0 by decide), show oneF W words q u = 0 from (one0 (by omega)).mpr (Or.inr hb)]
  rw [f_X11_costOf_37, show Int32.toNatClampNeg 2 = 2 from rfl, hr, if_neg (nI_nlt hu (by omega)), if_neg (show ¬ nI m ≤ 0 from nI_nle hm (by omega))]
  simp only [f_X11_costOf_81]
  rw [← h159, ← h144, ← h127, ← h89]
  by_cases hwW : w = W
  · rw [if_pos (by rw [hwW]), show oneF W words p w = 0 from (one0 (by omega)).mpr (Or.inl hwW)]
  · rw [if_neg (fun z => hwW ((nI_eq (by omega) (by omega)).mp z)), if_pos (ib8 p (by omega)), cl8 p (by omega), ← h.wd p hp, hasBitM_s _ (by omega), pb_bind]
    cases hb : bt (words p) w
    · rw [if_pos (show bI false = 0 from rfl)]
      have : oneF W words p w = (1 : Int32) <<< (nI w &&& 31) := by unfold oneF; rw [if_neg (fun z => z.elim hwW (fun y => by rw [hb] at y; cases y))]; rfl
      rw [this]
    · rw [if_neg (show ¬ bI true = 0 by decide), show oneF W words p w = 0 from (one0 (by omega)).mpr (Or.inr hb)]
theorem cost37 {W P : Nat} {r st close words kinds : Nat → Int32} (h : pCx W P r st close words kinds) {pr : Nat → Nat} (hpr : ∀ w, w < W → r (9 + 8 * w) = nI (pr w) ∧ pr w ≤ 99) {e : Nat} (he1 : 1 ≤ e) (he : e ≤ 7) {p q : Nat} (hp : p < P) (hq : q < P) (K : Int32 → Int32 → Int32 → Int32 → Int32 → Option Int32) {w : Nat} (hw : w ≤ W) : ∀ d n i m : Nat, i + d = W + 1 → d < n → m ≤ 1000000 →
    ∃ m', f_X11_costOf_37 K r st n (nI p) (nI q) (nI e) (nI m) (nI w) (nI i) = K (nI p) (nI q) (nI e) (nI m') (nI (w + 1)) ∧ m' ≤ m ∧ (m' = m ∨ ∃ u, u ≤ W ∧ FulC W r words kinds e p q w u = true ∧ m' = prW W words pr p w + prW W words pr q u) ∧ ∀ u, i ≤ u → u ≤ W → FulC W r words kinds e p q w u = true → m' ≤ prW W words pr p w + prW W words pr q u := by
  have hW := h.W10
  intro d
  induction d with
  | zero =>
    intro n i m hi hn hm
    obtain ⟨n', rfl, hn'⟩ := fuel_succ hn
    refine ⟨m, ?_, Nat.le_refl _, Or.inl rfl, fun u h1 h2 => by omega⟩
    rw [f_X11_costOf_37, show Int32.toNatClampNeg 2 = 2 from rfl, h.ws.2.1, if_pos (nI_lt (by omega) (by omega)), f_X11_costOf_225, nI_1]
  | succ d ih =>
    intro n i m hi hn hm
    obtain ⟨n', rfl, hn'⟩ := fuel_succ hn
    by_cases h0 : m = 0
    · subst h0
      refine ⟨0, ?_, Nat.le_refl _, Or.inl rfl, fun u _ _ _ => by omega⟩
      rw [f_X11_costOf_37, show Int32.toNatClampNeg 2 = 2 from rfl, h.ws.2.1, if_neg (nI_nlt (by omega) (by omega)), if_pos (show nI 0 ≤ 0 by decide), f_X11_costOf_225, nI_1]
    · rw [cost1 h hpr he1 he hp hq K (by omega) hm hw (by omega)]
      by_cases hc : prW W words pr p w + prW W words pr q i < m ∧ FulC W r words kinds e p q w i = true
      · rw [if_pos hc]
        obtain ⟨m', a1, a2, a3, a4⟩ := ih n' (i + 1) (prW W words pr p w + prW W words pr q i) (by omega) (by omega) (by omega)
        refine ⟨m', a1, by omega, ?_, fun u h1 h2 h3 => ?_⟩
        · rcases a3 with a3 | a3
          · exact Or.inr ⟨i, by omega, hc.2, a3⟩
          · exact Or.inr a3
        · by_cases eu : u = i
          · subst eu; exact a2
          · exact a4 u (by omega) h2 h3
      · rw [if_neg hc]
        obtain ⟨m', a1, a2, a3, a4⟩ := ih n' (i + 1) m (by omega) (by omega) hm
        refine ⟨m', a1, a2, a3, fun u h1 h2 h3 => ?_⟩
        by_cases eu : u = i
        · subst eu
          have : ¬ prW W words pr p w + prW W words pr q u < m := fun z => hc ⟨z, h3⟩
          omega
        · exact a4 u (by omega) h2 h3
theorem cost23 {W P : Nat} {r st close words kinds : Nat → Int32} (h : pCx W P r st close words kinds) {pr : Nat → Nat} (hpr : ∀ w, w < W → r (9 + 8 * w) = nI (pr w) ∧ pr w ≤ 99) {e : Nat} (he1 : 1 ≤ e) (he : e ≤ 7) {p q : Nat} (hp : p < P) (hq : q < P) : ∀ d n i m : Nat, i + d = W + 1 → d < n → m ≤ 1000000 →
    ∃ m', f_X11_costOf_23 r st n (nI p) (nI q) (nI e) (nI m) (nI i) = some (nI m') ∧ m' ≤ m ∧ (m' = m ∨ ∃ w u, w ≤ W ∧ u ≤ W ∧ FulC W r words kinds e p q w u = true ∧ m' = prW W words pr p w + prW W words pr q u) ∧ ∀ w u, i ≤ w → w ≤ W → u ≤ W → FulC W r words kinds e p q w u = true → m' ≤ prW W words pr p w + prW W words pr q u := by
  have hW := h.W10
  intro d
  induction d with
  | zero =>
    intro n i m hi hn hm
    obtain ⟨n', rfl, hn'⟩ := fuel_succ hn
    refine ⟨m, ?_, Nat.le_refl _, Or.inl rfl, fun w u h1 h2 => by omega⟩
    rw [f_X11_costOf_23, show Int32.toNatClampNeg 2 = 2 from rfl, h.ws.2.1, if_pos (nI_lt (by omega) (by omega))]
  | succ d ih =>
    intro n i m hi hn hm
    obtain ⟨n', rfl, hn'⟩ := fuel_succ hn
    obtain ⟨m1, a1, a2, a3, a4⟩ := cost37 h hpr he1 he hp hq (f_X11_costOf_23 r st n') (w := i) (by omega) (W + 1) rf_fu 0 m (by omega) (by show _ < 4096; omega) hm
    obtain ⟨m2, b1, b2, b3, b4⟩ := ih n' (i + 1) m1 (by omega) (by omega) (by omega)
    refine ⟨m2, ?_, by omega, ?_, fun w u h1 h2 h3 h4 => ?_⟩
    · rw [f_X11_costOf_23, show Int32.toNatClampNeg 2 = 2 from rfl, h.ws.2.1, if_neg (nI_nlt (by omega) (by omega)), show (0 : Int32) = nI 0 from rfl, a1, b1]
    · rcases b3 with b3 | b3
      · rcases a3 with a3 | ⟨u, u1, u2, u3⟩
        · exact Or.inl (by omega)
        · exact Or.inr ⟨i, u, by omega, u1, u2, by omega⟩
      · exact Or.inr b3
    · by_cases ew : w = i
      · subst ew
        have := a4 u (by omega) h3 h4
        omega
      · exact b4 w u (by omega) h2 h3 h4
theorem costOf_s {W P : Nat} {r st close words kinds : Nat → Int32} (h : pCx W P r st close words kinds) {pr : Nat → Nat} (hpr : ∀ w, w < W → r (9 + 8 * w) = nI (pr w) ∧ pr w ≤ 99) {e : Nat} (he1 : 1 ≤ e) (he : e ≤ 7) {p q : Nat} (hp : p < P) (hq : q < P) (hb : ∀ a, a < P → ∀ w, W ≤ w → bt (words a) w = false) : ∃ c, f_X11_costOf r st (nI p) (nI q) (nI e) = some (nI c) ∧ lstC W (fit r (kinds p) (kinds q) e) (cpr words pr p) (cpr words pr q) c := by
  have hW := h.W10
  have cov : ∀ a x w, a < P → x ≤ W → bt (words a ||| oneF W words a x) w = true → w < W → cpr words pr a w ≤ prW W words pr a x := by
    intro a x w ha hx hw hwW
    rw [bt_or, Bool.or_eq_true] at hw
    unfold cpr prW
    rcases hw with hw | hw
    · rw [if_pos hw]; omega
    · by_cases hadd : bt (words a) w = true
      · rw [if_pos hadd]; omega
      · unfold oneF at hw
        by_cases hx2 : x = W ∨ bt (words a) x = true
        · rw [if_pos hx2] at hw
          have : bt (nI 0) w = false := bt_0 w
          rw [this] at hw; cases hw
        · rw [if_neg hx2, bt_1s (by omega)] at hw
          have hwx := of_decide_eq_true hw
          subst hwx
          rw [if_neg hadd, if_neg (by omega)]
          unfold cpr
          rw [if_neg hadd]
          exact Nat.le_refl _
  have self : ∀ a w, w < W → bt (words a ||| oneF W words a w) w = true ∧ prW W words pr a w = cpr words pr a w := by
    intro a w hw
    refine ⟨?_, by unfold prW; rw [if_neg (by omega)]⟩
    rw [bt_or]
    by_cases hadd : bt (words a) w = true
    · rw [hadd, Bool.true_or]
    · unfold oneF
      rw [if_neg (fun z => z.elim (by omega) hadd), bt_1s (by omega), decide_eq_true rfl, Bool.or_true]
  have main : ∀ m0, m0 ≤ 1000000 → (m0 = 1000000 ∨ (m0 = 0 ∧ FulC W r words kinds e p q W W = true)) → ∃ c, f_X11_costOf_23 r st rf_fu (nI p) (nI q) (nI e) (nI m0) (nI 0) = some (nI c) ∧ lstC W (fit r (kinds p) (kinds q) e) (cpr words pr p) (cpr words pr q) c := by
    intro m0 hm0 hcase
    obtain ⟨c, a1, a2, a3, a4⟩ := cost23 h hpr he1 he hp hq (W + 1) rf_fu 0 m0 (by omega) (by show _ < 4096; omega) hm0
    refine ⟨c, a1, ?_⟩
    have low : ∀ w u, w < W → u < W → fit r (kinds p) (kinds q) e w u = true → c ≤ cpr words pr p w + cpr words pr q u := by
      intro w u hw hu hf
      have h1 := self p w hw
      have h2 := self q u hu
      have h3 := a4 w u (by omega) (by omega) (by omega) (FulB_iff.mpr ⟨w, hw, h1.1, u, hu, h2.1, hf⟩)
      rw [h1.2, h2.2] at h3
      exact h3
    have up : ∀ w u, w ≤ W → u ≤ W → FulC W r words kinds e p q w u = true → c = prW W words pr p w + prW W words pr q u → lstC W (fit r (kinds p) (kinds q) e) (cpr words pr p) (cpr words pr q) c := by
      intro w u hw hu hF hc
      obtain ⟨w', w1, w2, u', u1, u2, hf⟩ := FulB_iff.mp hF
      have x1 := cov p w w' hp hw w2 w1
      have x2 := cov q u u' hq hu u2 u1
      have x3 := low w' u' w1 u1 hf
      have p1 : cpr words pr p w' ≤ 99 := by unfold cpr; split; omega; exact (hpr w' w1).2
      have p2 : cpr words pr q u' ≤ 99 := by unfold cpr; split; omega; exact (hpr u' u1).2
      exact Or.inr ⟨by omega, ⟨w', u', w1, u1, hf, by omega⟩, low⟩
    rcases a3 with a3 | ⟨w, u, w1, u1, hF, hc⟩
    · rcases hcase with hcase | ⟨hcase, hF⟩
      · refine Or.inl ⟨by omega, fun w u hw hu => ?_⟩
        cases hf : fit r (kinds p) (kinds q) e w u
        · rfl
        · have x3 := low w u hw hu hf
          have p1 : cpr words pr p w ≤ 99 := by unfold cpr; split; omega; exact (hpr w hw).2
          have p2 : cpr words pr q u ≤ 99 := by unfold cpr; split; omega; exact (hpr u hu).2
          omega
      · refine up W W (by omega) (by omega) hF ?_
        unfold prW
        rw [if_pos rfl, if_pos rfl]; omega
    · exact up w u w1 u1 hF hc
  unfold f_X11_costOf
  rw [rhymeNowP_s h hp hq he1 he, pb_bind]
  simp only [f_X11_costOf_18]
  have q2 := degN_2 (W := W) (r := r) (k := kinds p) (ws := words p) (o := kinds q) (os := words q) (e := e)
  have q3 := degN_le (W := W) (r := r) (k := kinds p) (ws := words p) (o := kinds q) (os := words q) (e := e)
  generalize degN W r (kinds p) (words p) (kinds q) (words q) e = D at q2 q3
  by_cases h2 : D = 2
  · rw [if_pos (show nI D = 2 by rw [h2]; rfl)]
    exact main 0 (by omega) (Or.inr ⟨rfl, by
      unfold FulC
      have o1 : ∀ a, oneF W words a W = nI 0 := fun a => (one0 (by omega)).mpr (Or.inl rfl)
      rw [o1, o1, or_nI0, or_nI0]
      exact q2.mp h2⟩)
  · rw [if_neg (show ¬ nI D = 2 from fun z => h2 ((nI_eq (b := 2) (by omega) (by decide)).mp z))]
    exact main 1000000 (by omega) (Or.inl rfl)
