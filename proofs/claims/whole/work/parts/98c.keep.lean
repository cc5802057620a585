/-! keep -/
def lkS (W : Nat) (r words kinds : Nat → Int32) (e : Nat) (x : Int32) (p q : Nat) : Bool := FulB W r (kinds p) (words p ||| x) (kinds q) (words q ||| x) e
/-! no word is more like another than like itself -/
theorem run_all {p : Nat → Bool} (h : ∀ k, p k = true) : ∀ d i : Nat, rf_run p d i = i + d := by
  intro d
  induction d with
  | zero => intro i; rfl
  | succ d ih =>
    intro i
    rw [rf_run, if_pos (h i), ih]
    omega
theorem lkN_self (r : Nat → Int32) (w u : Nat) : lkN r w u ≤ lkN r u u := by
  have h1 := (run_le (fun k => alk r (sL r w (sN r w - 1 - k)) (sL r u (sN r u - 1 - k))) (min (sN r w) (sN r u)) 0).2
  have h2 : lkN r u u = 0 + min (sN r u) (sN r u) := run_all (p := fun k => alk r (sL r u (sN r u - 1 - k)) (sL r u (sN r u - 1 - k))) (fun k => by simp [alk]) _ 0
  rw [h2]
  exact Nat.le_trans h1 (by omega)
theorem eyN_self (r : Nat → Int32) (w u : Nat) : eyN r w u ≤ eyN r u u := by
  have h1 := (run_le (fun k => nL r w (nN r w - 1 - k) == nL r u (nN r u - 1 - k)) (min (nN r w) (nN r u)) 0).2
  have h2 : eyN r u u = 0 + min (nN r u) (nN r u) := run_all (p := fun k => nL r u (nN r u - 1 - k) == nL r u (nN r u - 1 - k)) (fun k => by simp) _ 0
  rw [h2]
  exact Nat.le_trans h1 (by omega)
theorem fit_self {r : Nat → Int32} {k o : Int32} {e w u : Nat} (h : fit r k o e w u = true) : fit r k o e u u = true := by
  have hm : mea r k o w u ≤ mea r k o u u := by
    unfold mea
    by_cases c : k = nI 1 ∨ o = nI 1
    · rw [if_pos c, if_pos c]; exact eyN_self r w u
    · rw [if_neg c, if_neg c]; exact lkN_self r w u
  unfold fit at h ⊢
  rw [Bool.or_eq_true] at h ⊢
  rcases h with h | h
  · exact Or.inl h
  · rw [decide_eq_true_eq] at h
    exact Or.inr (decide_eq_true (Nat.le_trans h hm))
def oneW (w : Nat) : Int32 := (1 : Int32) <<< (nI w &&& 31)
theorem bt_oneW {w : Nat} (h : w < 32) (k : Nat) : bt (oneW w) k = decide (k = w) := bt_1s h k
theorem bt_oneS {w : Nat} (h : w < 32) (s : Int32) : bt (s ||| oneW w) w = true := by rw [bt_or, bt_oneW h, decide_eq_true rfl, Bool.or_true]
theorem bt_orL {s : Int32} {k : Nat} (x : Int32) (h : bt s k = true) : bt (s ||| x) k = true := by rw [bt_or, h, Bool.true_or]
/-- by words bought two rhyme as by one of them that both have, or by none -/
theorem lkS_iff {W : Nat} (hW : W ≤ 10) {r words kinds : Nat → Int32} {e : Nat} {x : Int32} {p q : Nat} : lkS W r words kinds e x p q = true ↔ FulB W r (kinds p) (words p) (kinds q) (words q) e = true ∨ ∃ w, w < W ∧ bt x w = true ∧ FulB W r (kinds p) (words p ||| oneW w) (kinds q) (words q ||| oneW w) e = true := by
  constructor
  · intro h0
    obtain ⟨w, hw, bw, u, hu, bu, hf⟩ := FulB_iff.mp (show FulB W r (kinds p) (words p ||| x) (kinds q) (words q ||| x) e = true from h0)
    rw [bt_or, Bool.or_eq_true] at bw bu
    rcases bu with bu | bu
    · rcases bw with bw | bw
      · exact Or.inl (FulB_iff.mpr ⟨w, hw, bw, u, hu, bu, hf⟩)
      · exact Or.inr ⟨w, hw, bw, FulB_iff.mpr ⟨w, hw, bt_oneS (by omega) _, u, hu, bt_orL _ bu, hf⟩⟩
    · rcases bw with bw | bw
      · exact Or.inr ⟨u, hu, bu, FulB_iff.mpr ⟨w, hw, bt_orL _ bw, u, hu, bt_oneS (by omega) _, hf⟩⟩
      · exact Or.inr ⟨u, hu, bu, FulB_iff.mpr ⟨u, hu, bt_oneS (by omega) _, u, hu, bt_oneS (by omega) _, fit_self hf⟩⟩
  · intro h0
    show FulB W r (kinds p) (words p ||| x) (kinds q) (words q ||| x) e = true
    rcases h0 with h0 | ⟨v, hv, bv, h0⟩
    · obtain ⟨w, hw, bw, u, hu, bu, hf⟩ := FulB_iff.mp h0
      exact FulB_iff.mpr ⟨w, hw, bt_orL _ bw, u, hu, bt_orL _ bu, hf⟩
    · obtain ⟨w, hw, bw, u, hu, bu, hf⟩ := FulB_iff.mp h0
      have key : ∀ (s : Int32) (k : Nat), bt (s ||| oneW v) k = true → bt (s ||| x) k = true := by
        intro s k hk
        rw [bt_or, Bool.or_eq_true] at hk ⊢
        rcases hk with hk | hk
        · exact Or.inl hk
        · rw [bt_oneW (by omega), decide_eq_true_eq] at hk
          rw [hk]
          exact Or.inr bv
      exact FulB_iff.mpr ⟨w, hw, key _ _ bw, u, hu, key _ _ bu, hf⟩
/-- whom p rhymes with if a word is bought for both -/
def lbS (W P : Nat) (r words kinds : Nat → Int32) (e w p : Nat) : Int32 := setF (metb W r words kinds p (words p ||| oneW w) (oneW w) e) P
theorem lk_join {W P : Nat} (hW : W ≤ 10) (hP : P ≤ 8) {r words kinds lb : Nat → Int32} {e : Nat} (hlb : ∀ w p, w < W → p < P → lb (w * 8 + p) = lbS W P r words kinds e w p) {x : Int32} {p q : Nat} (hp : p < P) (hq : q < P) (hpq : q ≠ p) :
    (lkE W P r words kinds e p q || anyF (fun w => bt x w && bt (lb (w * 8 + p)) q) W 0) = lkS W r words kinds e x p q := by
  have h1 : lkE W P r words kinds e p q = FulB W r (kinds p) (words p) (kinds q) (words q) e := by
    unfold lkE
    rw [bt_setF _ P (by omega), decide_eq_true hq, Bool.true_and]
    unfold metb
    rw [decide_eq_false hpq, or_nI0]
    rfl
  have h2 : ∀ w, w < W → bt (lb (w * 8 + p)) q = FulB W r (kinds p) (words p ||| oneW w) (kinds q) (words q ||| oneW w) e := by
    intro w hw
    rw [hlb w p hw hp]
    unfold lbS
    rw [bt_setF _ P (by omega), decide_eq_true hq, Bool.true_and]
    unfold metb
    rw [decide_eq_false hpq]
    rfl
  apply Bool.eq_iff_iff.mpr
  rw [Bool.or_eq_true, anyF_0, lkS_iff hW, h1]
  constructor
  · rintro (h | ⟨w, hw, h⟩)
    · exact Or.inl h
    · rw [Bool.and_eq_true, h2 w hw] at h
      exact Or.inr ⟨w, hw, h.1, h.2⟩
  · rintro (h | ⟨w, hw, hx, h⟩)
    · exact Or.inl h
    · exact Or.inr ⟨w, hw, by rw [Bool.and_eq_true, h2 w hw]; exact ⟨hx, h⟩⟩
theorem all33 {W P : Nat} (hW : W ≤ 10) (hP : P ≤ 8) {people x : Int32} {rl lb : Nat → Int32} {p : Nat} (hp : p < P) (K : Int32 → Int32 → (Nat → Int32) → Option (Int32 × (Nat → Int32))) : ∀ d n i : Nat, ∀ L : Nat → Int32, i + d = W → d < n →
    ∃ L', f_X4_allPair_33 K people (nI W) (nI P) rl lb n x (nI p) (nI i) L = K x (nI (p + 1)) L' ∧ (∀ k, k ≠ p → L' k = L k) ∧ ∀ q, bt (L' p) q = (bt (L p) q || anyF (fun w => bt x w && bt (lb (w * 8 + p)) q) d i) := by
  intro d
  induction d with
  | zero =>
    intro n i L hi hn
    obtain ⟨n', rfl, hn'⟩ := fuel_succ hn
    refine ⟨L, ?_, fun _ _ => rfl, fun q => by rw [anyF, Bool.or_false]⟩
    rw [f_X4_allPair_33, if_pos (nI_le (by omega) (by omega)), nI_1]
  | succ d ih =>
    intro n i L hi hn
    obtain ⟨n', rfl, hn'⟩ := fuel_succ hn
    have ibp : rf_ib (nI p) 8 = true := pb_ibt (by omega) (by omega)
    have e8 : nI i * 8 + nI p = nI (i * 8 + p) := by rw [show (8 : Int32) = nI 8 from rfl, pb_mul, pb_add]
    have key : ∀ y, (∀ q, bt y q = (bt x i && bt (lb (i * 8 + p)) q)) → ∃ L', f_X4_allPair_77 K (f_X4_allPair_33 K people (nI W) (nI P) rl lb n') people (nI W) (nI P) rl lb x (nI p) (nI i) (nI p) (L p) y L = K x (nI (p + 1)) L' ∧ (∀ k, k ≠ p → L' k = L k) ∧ ∀ q, bt (L' p) q = (bt (L p) q || anyF (fun w => bt x w && bt (lb (w * 8 + p)) q) (d + 1) i) := by
      intro y hy
      obtain ⟨L', a1, a2, a3⟩ := ih n' (i + 1) (upd L p (L p ||| y)) (by omega) (by omega)
      refine ⟨L', ?_, fun k hk => by rw [a2 k hk, upd_ne _ _ hk], fun q => ?_⟩
      · rw [f_X4_allPair_77, if_pos ibp, nI_clamp (by omega), nI_1]
        exact a1
      · rw [a3 q, upd_same, bt_or, hy q, anyF, Bool.or_assoc]
    rw [f_X4_allPair_33, if_neg (nI_ge (by omega) (by omega)), if_pos ibp, holdsX_s _ (by omega), pb_bind, nI_clamp (by omega), e8]
    cases hb : bt x i
    · rw [if_pos (show bI false = 0 from rfl)]
      exact key 0 (fun q => by rw [hb, Bool.false_and]; exact bt_0 q)
    · rw [if_neg (show ¬ bI true = 0 by decide), if_pos (pb_ibt (by omega) (by omega)), nI_clamp (by omega)]
      exact key (lb (i * 8 + p)) (fun q => by rw [hb, Bool.true_and])
theorem allPair_l {W P : Nat} (hW : W ≤ 10) (hP : P ≤ 8) {r words kinds rl lb : Nat → Int32} {e : Nat} (hrl : ∀ p, p < P → ∀ q, bt (rl p) q = lkE W P r words kinds e p q) (hlb : ∀ w p, w < W → p < P → lb (w * 8 + p) = lbS W P r words kinds e w p) {people : Int32} (hp : ∀ p, bt people p = true → p < P) (x : Int32) : ∀ d n i : Nat, ∀ L : Nat → Int32, i + d = P → d < n → (∀ p, p < i → ∀ q, bt (L p) q = (lkE W P r words kinds e p q || anyF (fun w => bt x w && bt (lb (w * 8 + p)) q) W 0)) →
    ∃ L', f_X4_allPair_2 people (nI W) (nI P) rl lb n x (nI i) L = some (bI (cB (lkS W r words kinds e x) 12 people), L') := by
  intro d
  induction d with
  | zero =>
    intro n i L hi hn hL
    obtain ⟨n', rfl, hn'⟩ := fuel_succ hn
    have hc := cD_le (bt people) 8
    refine ⟨L, ?_⟩
    rw [f_X4_allPair_2, if_pos (nI_le (by omega) (by omega)), canAll_l (lk := lkS W r words kinds e x) (people := people) (fun k hk => by have := hp k hk; omega) (fun p q hpp hqq hpq => by
      have h1 := hp p hpp
      have h2 := hp q hqq
      rw [hL p (by omega) q, lk_join hW hP hlb h1 h2 (by omega)]) 12 people (fun _ hk => hk) (by omega), pb_bind]
    cases cB (lkS W r words kinds e x) 12 people <;> rfl
  | succ d ih =>
    intro n i L hi hn hL
    obtain ⟨n', rfl, hn'⟩ := fuel_succ hn
    have ibi : rf_ib (nI i) 8 = true := pb_ibt (by omega) (by omega)
    obtain ⟨L1, a1, a2, a3⟩ := all33 hW hP (people := people) (x := x) (rl := rl) (lb := lb) (p := i) (by omega) (f_X4_allPair_2 people (nI W) (nI P) rl lb n') W rf_fu 0 (upd L i (rl i)) (by omega) (by show W < 4096; omega)
    rw [f_X4_allPair_2, if_neg (nI_ge (by omega) (by omega)), if_pos ibi, if_pos ibi, nI_clamp (by omega), show (0 : Int32) = nI 0 from rfl, a1]
    refine ih n' (i + 1) L1 (by omega) (by omega) (fun p hpi q => ?_)
    by_cases ep : p = i
    · subst ep
      rw [a3 q, upd_same, hrl p (by omega) q]
    · rw [a2 p ep, upd_ne _ _ ep]
      exact hL p (by omega) q
theorem plan32 {W P : Nat} {r st close words kinds : Nat → Int32} (h : pCx W P r st close words kinds) {e : Nat} (he1 : 1 ≤ e) (he : e ≤ 7) {people : Int32} {w : Nat} (hw : w < W) (rl : Nat → Int32) (K : Int32 → Int32 → Int32 → (Nat → Int32) → (Nat → Int32) → Option (Int32 × (Nat → Int32) × (Nat → Int32))) : ∀ d n i : Nat, ∀ lb : Nat → Int32, i + d = P → d < n →
    ∃ lb', f_X4_planPairs_32 K (nI W) (nI P) words kinds close n (nI e) (nI w) (nI i) people rl lb = K (nI e) (nI (w + 1)) people rl lb' ∧ (∀ p, i ≤ p → p < P → lb' (w * 8 + p) = lbS W P r words kinds e w p) ∧ ∀ k, k < w * 8 + i → lb' k = lb k := by
  have hP := h.P8
  have hW := h.W10
  intro d
  induction d with
  | zero =>
    intro n i lb hi hn
    obtain ⟨n', rfl, hn'⟩ := fuel_succ hn
    refine ⟨lb, ?_, fun p h1 h2 => by omega, fun _ _ => rfl⟩
    rw [f_X4_planPairs_32, if_pos (nI_le (by omega) (by omega)), nI_1]
  | succ d ih =>
    intro n i lb hi hn
    obtain ⟨n', rfl, hn'⟩ := fuel_succ hn
    have ibi : rf_ib (nI i) 8 = true := pb_ibt (by omega) (by omega)
    have e8 : nI w * 8 + nI i = nI (w * 8 + i) := by rw [show (8 : Int32) = nI 8 from rfl, pb_mul, pb_add]
    obtain ⟨lb', a1, a2, a3⟩ := ih n' (i + 1) (upd lb (w * 8 + i) (lbS W P r words kinds e w i)) (by omega) (by omega)
    refine ⟨lb', ?_, fun p h1 h2 => ?_, fun k hk => ?_⟩
    · rw [f_X4_planPairs_32, if_neg (nI_ge (by omega) (by omega)), if_pos ibi, nI_clamp (by omega), metBy_s h (by omega) he1 he, pb_bind, e8, if_pos (pb_ibt (by omega) (by omega)), nI_clamp (by omega), nI_1]
      exact a1
    · by_cases ep : p = i
      · subst ep; rw [a3 _ (by omega), upd_same]
      · exact a2 p (by omega) h2
    · rw [a3 k (by omega), upd_ne _ _ (by omega)]
theorem plan15 {W P : Nat} {r st close words kinds : Nat → Int32} (h : pCx W P r st close words kinds) {e : Nat} (he1 : 1 ≤ e) (he : e ≤ 7) (people : Int32) (rl : Nat → Int32) : ∀ d n i : Nat, ∀ lb : Nat → Int32, i + d = W → d < n → (∀ w p, w < i → p < P → lb (w * 8 + p) = lbS W P r words kinds e w p) →
    ∃ lb', f_X4_planPairs_15 (nI W) (nI P) words kinds close n (nI e) (nI i) people rl lb = some (people, rl, lb') ∧ ∀ w p, w < W → p < P → lb' (w * 8 + p) = lbS W P r words kinds e w p := by
  have hP := h.P8
  have hW := h.W10
  intro d
  induction d with
  | zero =>
    intro n i lb hi hn hlb
    obtain ⟨n', rfl, hn'⟩ := fuel_succ hn
    refine ⟨lb, ?_, fun w p h1 h2 => hlb w p (by omega) h2⟩
    rw [f_X4_planPairs_15, if_pos (nI_le (by omega) (by omega))]
  | succ d ih =>
    intro n i lb hi hn hlb
    obtain ⟨n', rfl, hn'⟩ := fuel_succ hn
    obtain ⟨lb1, a1, a2, a3⟩ := plan32 h he1 he (people := people) (w := i) (by omega) rl (f_X4_planPairs_15 (nI W) (nI P) words kinds close n') P rf_fu 0 lb (by omega) (by show P < 4096; omega)
    rw [f_X4_planPairs_15, if_neg (nI_ge (by omega) (by omega)), show (0 : Int32) = nI 0 from rfl, a1]
    refine ih n' (i + 1) lb1 (by omega) (by omega) (fun w p h1 h2 => ?_)
    by_cases ew : w = i
    · subst ew; exact a2 p (by omega) h2
    · rw [a3 _ (by omega)]; exact hlb w p (by omega) h2
theorem planPairs_s {W P : Nat} {r st close words kinds : Nat → Int32} (h : pCx W P r st close words kinds) {e : Nat} (he1 : 1 ≤ e) (he : e ≤ 7) (people old : Int32) (rl lb : Nat → Int32) :
    ∃ rl' lb', f_X4_planPairs (nI W) (nI P) words kinds close old rl lb people (nI e) = some (people, rl', lb') ∧ (∀ p, p < P → ∀ q, bt (rl' p) q = lkE W P r words kinds e p q) ∧ ∀ w p, w < W → p < P → lb' (w * 8 + p) = lbS W P r words kinds e w p := by
  have hW := h.W10
  obtain ⟨rl', a1, a2⟩ := link_s h he1 he rl
  obtain ⟨lb', b1, b2⟩ := plan15 h he1 he people rl' W rf_fu 0 lb (by omega) (by show W < 4096; omega) (fun w p h1 => by omega)
  refine ⟨rl', lb', ?_, a2, b2⟩
  unfold f_X4_planPairs
  rw [a1, pb_bind]
  exact b1
theorem all28 {W P : Nat} {r st close words kinds : Nat → Int32} (h : pCx W P r st close words kinds) {e : Nat} (he1 : 1 ≤ e) (he : e ≤ 7) {people : Int32} (x : Int32) {p : Nat} (hp : p < P) (K : Int32 → Int32 → Int32 → Int32 → (Nat → Int32) → Option (Int32 × (Nat → Int32))) : ∀ d n i : Nat, ∀ can : Nat → Int32, i + d = P → p + 1 ≤ i → d < n →
    ∃ can', f_X11_areAllPaired_28 K r st n people x (nI e) (nI p) (nI i) can = K people x (nI e) (nI (p + 1)) can' ∧ (∀ k, k ≠ p → can' k = can k) ∧ ∀ k, k < 32 → bt (can' p) k = (bt (can p) k || (decide (i ≤ k) && decide (k < P) && bt people p && bt people k && lkS W r words kinds e x p k)) := by
  have hP := h.P8
  intro d
  induction d with
  | zero =>
    intro n i can hi hpi hn
    obtain ⟨n', rfl, hn'⟩ := fuel_succ hn
    refine ⟨can, ?_, fun _ _ => rfl, fun k hk => ?_⟩
    · rw [f_X11_areAllPaired_28, show Int32.toNatClampNeg 3 = 3 from rfl, h.rP, if_pos (nI_le (by omega) (by omega)), nI_1]
    · by_cases hki : i ≤ k
      · rw [decide_eq_false (by omega : ¬ k < P)]; simp
      · rw [decide_eq_false hki]; simp
  | succ d ih =>
    intro n i can hi hpi hn
    obtain ⟨n', rfl, hn'⟩ := fuel_succ hn
    rw [f_X11_areAllPaired_28, show Int32.toNatClampNeg 3 = 3 from rfl, h.rP, if_neg (nI_ge (by omega) (by omega)), hasBitM_s _ (by omega), hasBitM_s _ (by omega), pb_bind, pb_bind]
    simp only [f_X11_areAllPaired_123, f_X11_areAllPaired_121]
    rw [nI_1]
    have keep : (bt people p && bt people i) = false → ∃ can', f_X11_areAllPaired_28 K r st n' people x (nI e) (nI p) (nI (i + 1)) can = K people x (nI e) (nI (p + 1)) can' ∧ (∀ k, k ≠ p → can' k = can k) ∧ ∀ k, k < 32 → bt (can' p) k = (bt (can p) k || (decide (i ≤ k) && decide (k < P) && bt people p && bt people k && lkS W r words kinds e x p k)) := by
      intro hno
      obtain ⟨can', q1, q2, q3⟩ := ih n' (i + 1) can (by omega) (by omega) (by omega)
      refine ⟨can', q1, q2, fun k hk => ?_⟩
      rw [q3 k hk]
      by_cases ek : k = i
      · subst ek
        rw [decide_eq_false (by omega : ¬ k + 1 ≤ k)]
        cases h1 : bt people p
        · simp
        · rw [h1, Bool.true_and] at hno; rw [hno]; simp
      · rw [show decide (i + 1 ≤ k) = decide (i ≤ k) from decide_eq_decide.mpr (by omega)]
    cases hb1 : bt people p
    · rw [if_pos (show bI false = 0 from rfl)]
      rw [hb1] at keep
      exact keep rfl
    · rw [if_neg (show ¬ bI true = 0 by decide)]
      cases hb2 : bt people i
      · rw [if_pos (show bI false = 0 from rfl)]
        rw [hb1, hb2] at keep
        exact keep rfl
      · have ibp : rf_ib (nI p) 8 = true := pb_ibt (by omega) (by omega)
        have w1 : rf_ib (8 + nI p) 26 = true := by simp (disch := omega) only [pb_lits, pb_ltT, pb_ltF, pb_leT, pb_leF, pb_eqT, pb_eqF, pb_lt, pb_le, pb_eq, pb_add, pb_mul, pb_sub, pb_cl, pb_ibt, pb_eqm, pb_meq, pb_ltm, pb_mlt, pb_lem, pb_mle, ite_true, ite_false, reduceIte, not_true_eq_false, not_false_eq_true, pb_bind, Nat.zero_add, Nat.add_zero]
        have w2 : rf_ib (8 + nI i) 26 = true := by simp (disch := omega) only [pb_lits, pb_ltT, pb_ltF, pb_leT, pb_leF, pb_eqT, pb_eqF, pb_lt, pb_le, pb_eq, pb_add, pb_mul, pb_sub, pb_cl, pb_ibt, pb_eqm, pb_meq, pb_ltm, pb_mlt, pb_lem, pb_mle, ite_true, ite_false, reduceIte, not_true_eq_false, not_false_eq_true, pb_bind, Nat.zero_add, Nat.add_zero]
        have w3 : (8 + nI p).toNatClampNeg = 8 + p := by simp (disch := omega) only [pb_lits, pb_ltT, pb_ltF, pb_leT, pb_leF, pb_eqT, pb_eqF, pb_lt, pb_le, pb_eq, pb_add, pb_mul, pb_sub, pb_cl, pb_ibt, pb_eqm, pb_meq, pb_ltm, pb_mlt, pb_lem, pb_mle, ite_true, ite_false, reduceIte, not_true_eq_false, not_false_eq_true, pb_bind, Nat.zero_add, Nat.add_zero]
        have w4 : (8 + nI i).toNatClampNeg = 8 + i := by simp (disch := omega) only [pb_lits, pb_ltT, pb_ltF, pb_leT, pb_leF, pb_eqT, pb_eqF, pb_lt, pb_le, pb_eq, pb_add, pb_mul, pb_sub, pb_cl, pb_ibt, pb_eqm, pb_meq, pb_ltm, pb_mlt, pb_lem, pb_mle, ite_true, ite_false, reduceIte, not_true_eq_false, not_false_eq_true, pb_bind, Nat.zero_add, Nat.add_zero]
        have q := rhymeOf_s h.ws (k := kinds p) (ws := words p ||| x) (o := kinds i) (os := words i ||| x) (e := e) he1 (by omega) (hasW_or x (h.hw p hp)) (hasW_or x (h.hw i (by omega)))
        have q2 := degN_2 (W := W) (r := r) (k := kinds p) (ws := words p ||| x) (o := kinds i) (os := words i ||| x) (e := e)
        have q3 := degN_le (W := W) (r := r) (k := kinds p) (ws := words p ||| x) (o := kinds i) (os := words i ||| x) (e := e)
        rw [if_neg (show ¬ bI true = 0 by decide), if_pos ibp, kindOf_s r (by omega), kindOf_s r (by omega), pb_bind, if_pos w1, pb_bind, if_pos w2, w3, w4, ← h.kd p hp, ← h.kd i (by omega), ← h.wd p hp, ← h.wd i (by omega), q, pb_bind, nI_clamp (by omega), if_pos ibp, if_pos ibp]
        generalize hD : degN W r (kinds p) (words p ||| x) (kinds i) (words i ||| x) e = D at q2 q3
        have fin : ∀ y, (∀ k, k < 32 → bt y k = (bt (can p) k || (decide (k = i) && lkS W r words kinds e x p i))) → ∃ can', f_X11_areAllPaired_28 K r st n' people x (nI e) (nI p) (nI (i + 1)) (upd can p y) = K people x (nI e) (nI (p + 1)) can' ∧ (∀ k, k ≠ p → can' k = can k) ∧ ∀ k, k < 32 → bt (can' p) k = (bt (can p) k || (decide (i ≤ k) && decide (k < P) && true && bt people k && lkS W r words kinds e x p k)) := by
          intro y hy
          obtain ⟨can', c1, c2, c3⟩ := ih n' (i + 1) (upd can p y) (by omega) (by omega) (by omega)
          refine ⟨can', c1, fun k hk => by rw [c2 k hk, upd_ne _ _ hk], fun k hk => ?_⟩
          rw [c3 k hk, upd_same, hy k hk, hb1]
          by_cases ek : k = i
          · subst ek
            rw [decide_eq_false (by omega : ¬ k + 1 ≤ k), decide_eq_true rfl, decide_eq_true (Nat.le_refl k), decide_eq_true (by omega : k < P), hb2]
            simp
          · rw [decide_eq_false ek, show decide (i + 1 ≤ k) = decide (i ≤ k) from decide_eq_decide.mpr (by omega)]
            simp
        have hlk : lkS W r words kinds e x p i = decide (D = 2) := by
          unfold lkS
          apply Bool.eq_iff_iff.mpr
          rw [← q2, decide_eq_true_eq]
        by_cases h2 : D = 2
        · rw [if_pos (show nI D = 2 by rw [h2]; rfl)]
          refine fin _ (fun k hk => ?_)
          rw [bt_or, show bt ((1 : Int32) <<< (nI i &&& 31)) k = decide (k = i) from bt_1s (by omega) k, hlk, decide_eq_true h2, Bool.and_true]
        · rw [if_neg (show ¬ nI D = 2 from fun q => h2 ((nI_eq (b := 2) (by omega) (by decide)).mp q))]
          refine fin _ (fun k hk => ?_)
          rw [bt_or, bt_0, hlk, decide_eq_false h2, Bool.and_false]
theorem all3 {W P : Nat} {r st close words kinds : Nat → Int32} (h : pCx W P r st close words kinds) {e : Nat} (he1 : 1 ≤ e) (he : e ≤ 7) {people : Int32} (hpe : ∀ p, bt people p = true → p < P) (x : Int32) : ∀ d n i : Nat, ∀ can : Nat → Int32, i + d = P → d < n → (∀ p q, p < i → bt people p = true → bt people q = true → p < q → bt (can p) q = lkS W r words kinds e x p q) →
    ∃ can', f_X11_areAllPaired_3 r st n people x (nI e) (nI i) can = some (bI (cB (lkS W r words kinds e x) 12 people), can') := by
  have hP := h.P8
  intro d
  induction d with
  | zero =>
    intro n i can hi hn hL
    obtain ⟨n', rfl, hn'⟩ := fuel_succ hn
    have hc := cD_le (bt people) 8
    refine ⟨can, ?_⟩
    rw [f_X11_areAllPaired_3, show Int32.toNatClampNeg 3 = 3 from rfl, h.rP, if_pos (nI_le (by omega) (by omega)), isPaired_l (lk := lkS W r words kinds e x) hP h.rP hpe (fun p q hpp hqq hpq => hL p q (by have := hpe p hpp; omega) hpp hqq hpq) 12 people (fun _ hk => hk) (by omega), pb_bind]
    cases cB (lkS W r words kinds e x) 12 people <;> rfl
  | succ d ih =>
    intro n i can hi hn hL
    obtain ⟨n', rfl, hn'⟩ := fuel_succ hn
    obtain ⟨can', q1, q2, q3⟩ := all28 h he1 he (people := people) x (p := i) (by omega) (f_X11_areAllPaired_3 r st n') (P - (i + 1)) rf_fu (i + 1) (upd can i 0) (by omega) (by omega) (by show _ < 4096; omega)
    rw [f_X11_areAllPaired_3, show Int32.toNatClampNeg 3 = 3 from rfl, h.rP, if_neg (nI_ge (by omega) (by omega)), if_pos (pb_ibt (by omega) (by omega)), nI_1, nI_clamp (by omega), q1]
    refine ih n' (i + 1) can' (by omega) (by omega) (fun p q hpi hpp hqq hpq => ?_)
    have hq := hpe q hqq
    by_cases ep : p = i
    · subst ep
      rw [q3 q (by omega), upd_same, bt_0, decide_eq_true (by omega : p + 1 ≤ q), decide_eq_true hq, hpp, hqq]
      simp
    · rw [q2 p ep, upd_ne _ _ ep]
      exact hL p q (by omega) hpp hqq hpq
theorem rf_st25 {j : Nat} : rf_step_25 (rf_Inv j) (rf_Inv (j + 1)) := by
  rintro I J A B I' A' v1 v2 ⟨W, P, G, na, ni, h⟩
  have ht := h.tale
  have hP := ht.P8
  have hW := ht.W10
  have hpw := pw_le hW
  unfold f_X10_keep f_X11_keep
  rw [ht.hpc, ht.hwc, isBankX_s (by omega), isHourX_s, bankWhyM_s h.hasb]
  simp only [pb_bind, refused_s, f_X11_good, f_X11_no]
  by_cases hab : (decide (0 < P) && gd 2 v1) = true ∧ gd 24 v2 = true
  · rw [hab.1, hab.2]
    have h1 := hab.1
    rw [Bool.and_eq_true] at h1
    have hPP : 0 < P := of_decide_eq_true h1.1
    obtain ⟨b, hb, rfl⟩ := gd_of (by decide) h1.2
    obtain ⟨k, hk, rfl⟩ := gd_of (by decide) hab.2
    have hE := h.ears hPP
    have e1 := hE.lo k hk
    have e2 := hE.hi k hk
    have hsub := setF_sub (onB (I 7) b) hP
    rw [onBankX_s hP h.every h.now.hfar0 hb, onBankM_s hP h.cx.rP h.now.hbank hb, hE.X k hk, hE.M k hk]
    simp only [pb_bind]
    obtain ⟨rl, lb, p1, p2, p3⟩ := planPairs_s h.cx e1 (by omega) (setF (onB (I 7) b) P) (I 8) (A 3) (A 33)
    rw [p1]
    simp only [pb_bind]
    have hEX : ∀ L m, m < 2 ^ W → ∃ L', f_X4_isEnough (setF (onB (I 7) b) P) (nI W) (nI P) rl (A 8) lb L (nI m) 0 = some (bI (cB (lkS W (A' 2) (A 1) (A 14) (earE (I 21) (A 18) k) (nI m)) 12 (setF (onB (I 7) b) P)), L') := by
      intro L m _
      obtain ⟨L', q⟩ := allPair_l hW hP p2 p3 hsub (nI m) P rf_fu 0 L (by omega) (by show P < 4096; omega) (fun p hp => by omega)
      refine ⟨L', ?_⟩
      unfold f_X4_isEnough f_X4_allPair
      rw [if_pos rfl, show (0 : Int32) = nI 0 from rfl, q, pb_bind]
      cases cB (lkS W (A' 2) (A 1) (A 14) (earE (I 21) (A 18) k) (nI m)) 12 (setF (onB (I 7) b) P) <;> rfl
    have hEM : ∀ can m, m < 2 ^ W → ∃ can', f_X11_areAllPaired (A' 2) (A' 4) can (setF (onB (I 7) b) P) (nI m) (nI (earE (I 21) (A 18) k)) = some (bI (cB (lkS W (A' 2) (A 1) (A 14) (earE (I 21) (A 18) k) (nI m)) 12 (setF (onB (I 7) b) P)), can') :=
      fun can m _ => all3 h.cx e1 (by omega) hsub (nI m) P rf_fu 0 can (by omega) (by show P < 4096; omega) (fun p q hp => by omega)
    obtain ⟨r, L', x1, x2⟩ := fewest_s hW (ok := fun m => cB (lkS W (A' 2) (A 1) (A 14) (earE (I 21) (A 18) k) (nI m)) 12 (setF (onB (I 7) b) P)) hEX (A 7)
    rw [x1]
    obtain ⟨can1, m1⟩ := hEM (A' 7) (2 ^ W - 1) (by omega)
    have hcnt : f_X11_ones (setF (onB (I 7) b) P) = some (nI (cD (bt (setF (onB (I 7) b) P)) 8)) := by
      have h8 := set8 (sub8 hP hsub)
      have h9 := numF_256 (bt (setF (onB (I 7) b) P))
      rw [← pop_cD, ← ones_s (by omega), ← h8]
    have hc8 := cD_le (bt (setF (onB (I 7) b) P)) 8
    rw [hcnt, show Int32.toNatClampNeg 2 = 2 from rfl, ht.hwc', all_s hW, m1]
    simp only [pb_bind]
    rw [show nI (cD (bt (setF (onB (I 7) b) P)) 8) - nI (cD (bt (setF (onB (I 7) b) P)) 8) / 2 * 2 = nI (cD (bt (setF (onB (I 7) b) P)) 8 % 2) from pb_rem (b := 2) (by omega) (by decide) (by decide)]
    simp only [pb_bind, f_X11_keep_66]
    have hm2 : cD (bt (setF (onB (I 7) b) P)) 8 % 2 < 2 := Nat.mod_lt _ (by decide)
    cases hall : cB (lkS W (A' 2) (A 1) (A 14) (earE (I 21) (A 18) k) (nI (2 ^ W - 1))) 12 (setF (onB (I 7) b) P)
    · have hr2 : r = -2 := by
        rcases x2 with ⟨_, y⟩ | ⟨y, _⟩
        · exact y
        · exact absurd (hall.symm.trans y) (by decide)
      rw [hr2]
      by_cases hev : nI (cD (bt (setF (onB (I 7) b) P)) 8 % 2) = 0
      · rw [if_pos hev]
        exact ⟨_, _, rfl, rfl, rfl, h.quiet (h.fault.tell (u := 0) (by decide)) rfl rfl rfl rfl⟩
      · rw [if_neg hev]
        exact ⟨_, _, rfl, rfl, rfl, h.quiet (h.fault.tell (u := 0) (by decide)) rfl rfl rfl rfl⟩
    · have hev := cB_even 12 _ (sub8 hP hsub) hall
      rw [hev, if_pos (show whyN true true = 0 from rfl), if_pos (show nI 0 = 0 from rfl), if_neg (show ¬ bI true = 0 by decide)]
      obtain ⟨x, can2, y1, y2⟩ := keep72 hW ht.hwc' (has := bI (decide (0 < P))) (hE.M k hk) (ok := fun m => cB (lkS W (A' 2) (A 1) (A 14) (earE (I 21) (A 18) k) (nI m)) 12 (setF (onB (I 7) b) P)) hall hEM (2 ^ W) rf_fu 0 (2 ^ W - 1) can1 (by omega) (by show _ < 4096; omega) (by omega) hall (Or.inr rfl) (fun s hs => by omega)
      have hrx : r = x := Rmin_uniq x2 y2
      rw [h.hasb]
      refine ⟨_, (x, 0, 0, can2), rfl, ?_, hrx, h.quiet (h.fault.tell (u := 0) (by decide)) rfl rfl rfl rfl⟩
      exact y1
  · obtain ⟨c1, c2, c3⟩ := whyN_no hab
    rw [if_neg c1, if_neg c2]
    exact ⟨_, _, rfl, rfl, rfl, h.quiet (h.fault.tell c3) rfl rfl rfl rfl⟩
