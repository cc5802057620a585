/-! the reference's trying of errands -/
/-- b is the greatest of a and these -/
def mkR (X : Nat → Prop) (a b : Nat) : Prop := a ≤ b ∧ (b = a ∨ X b) ∧ ∀ x, X x → x ≤ b
theorem mkR_step {X Y Z : Nat → Prop} {a b c : Nat} (h : mkR X a b) (h' : mkR Y b c) (hZ : ∀ x, Z x ↔ X x ∨ Y x) : mkR Z a c := by
  obtain ⟨a1, a2, a3⟩ := h
  obtain ⟨b1, b2, b3⟩ := h'
  refine ⟨by omega, ?_, fun x hx => ?_⟩
  · rcases b2 with b2 | b2
    · rcases a2 with a2 | a2
      · exact Or.inl (by omega)
      · exact Or.inr ((hZ c).mpr (Or.inl (by rw [b2]; exact a2)))
    · exact Or.inr ((hZ c).mpr (Or.inr b2))
  · rcases (hZ x).mp hx with h | h
    · have := a3 x h; omega
    · exact b3 x h
theorem mkR_none {X : Nat → Prop} {a : Nat} (h : ∀ x, ¬ X x) : mkR X a a := ⟨Nat.le_refl _, Or.inl rfl, fun x hx => absurd hx (h x)⟩
theorem mkR_iff {X Y : Nat → Prop} {a b : Nat} (h : mkR X a b) (hXY : ∀ x, Y x ↔ X x) : mkR Y a b :=
  ⟨h.1, h.2.1.elim Or.inl (fun x => Or.inr ((hXY b).mpr x)), fun x hx => h.2.2 x ((hXY x).mp hx)⟩
theorem bK_le {er : Nat → Nat} {k p : Nat} : bK er k p ≤ 1 := by
  unfold bK
  split <;> omega
theorem RM_le {lk : Nat → Nat → Bool} {er : Nat → Nat} : ∀ d p sN s v, RM lk er d p sN s v → v ≤ 2 * d := by
  intro d
  induction d with
  | zero => intro p sN s v h; have h' : v = 0 := h; omega
  | succ d ih =>
    intro p sN s v h
    rcases h with h | ⟨q, k, v', a1, a2, a3, a4, a5, a6, a7, a8, a9⟩
    · have := ih _ _ _ _ h; omega
    · have := ih _ _ _ _ a8
      have h1 := bK_le (er := er) (k := k) (p := p)
      have h2 := bK_le (er := er) (k := k) (p := q)
      omega
theorem isKept_s {r : Nat → Int32} {er : Nat → Nat} {p k : Nat} (hp : p < 8) (hk : k ≤ 4) (hr : r (92 + 4 * p) = nI (er p)) (he : er p ≤ 4) : f_X11_isKept r (nI p) (nI k) = some (nI (bK er k p)) := by
  have e : ((89 : Int32) + (4 : Int32) * nI p) + 3 = nI (92 + 4 * p) := by
    rw [show (89 : Int32) = nI 89 from rfl, show (4 : Int32) = nI 4 from rfl, show (3 : Int32) = nI 3 from rfl, pb_mul, pb_add, pb_add]
    congr 1
    omega
  unfold f_X11_isKept bK
  rw [e, if_pos (pb_ibt (by omega) (by omega)), nI_clamp (by omega), hr]
  by_cases h : k ≤ er p
  · rw [if_neg (nI_nlt h (by omega)), if_pos h]; rfl
  · rw [if_pos (nI_lt (by omega) (by omega)), if_neg h]; rfl
/-- what a try of errands from p on does -/
def tryE (lk : Nat → Nat → Bool) (er : Nat → Nat) (people : Int32) (F : Int32 → (Nat → Int32) → Int32 → Int32 → Int32 → Option (Int32 × (Nat → Int32))) (d p : Nat) : Prop :=
  ∀ (mk many : Nat) (sA : Nat → Int32) (sN : Nat → Nat) (s : Int32), (∀ k, 1 ≤ k → k ≤ 4 → sA k = nI (sN k) ∧ sN k ≤ 3) → mk ≤ 40 → many + 2 * d ≤ 40 → (∀ k, bt s k = true → bt people k = true) →
    ∃ mk', F (nI mk) sA (nI p) s (nI many) = some (nI mk', sA) ∧ mk' ≤ 40 ∧ mkR (fun x => ∃ v, RM lk er d p sN s v ∧ x = many + v) mk mk'
theorem err77 {lk : Nat → Nat → Bool} {er : Nat → Nat} {P : Nat} (hP : P ≤ 8) {r can : Nat → Int32} (her : ∀ p, p < P → r (92 + 4 * p) = nI (er p) ∧ er p ≤ 4) {people : Int32} {F : Int32 → (Nat → Int32) → Int32 → Int32 → Int32 → Option (Int32 × (Nat → Int32))} {d p q : Nat} (hp : p < P) (hq : q < P) (hF : tryE lk er people F d (p + 1)) {many : Nat} (hm : many + 2 * (d + 1) ≤ 40) {sA : Nat → Int32} {sN : Nat → Nat} (hsN : ∀ k, 1 ≤ k → k ≤ 4 → sA k = nI (sN k) ∧ sN k ≤ 3) {s : Int32} (hs : ∀ k, bt s k = true → bt people k = true) (K : Int32 → Int32 → Int32 → Int32 → Int32 → (Nat → Int32) → Option (Int32 × (Nat → Int32))) :
    ∀ e n i mk : Nat, i + e = 5 → 1 ≤ i → e < n → mk ≤ 40 → ∃ mk', f_X11_tryErrands_77 K F r can n (nI p) s (nI many) (nI q) (nI i) (nI mk) sA = K (nI p) s (nI many) (nI (q + 1)) (nI mk') sA ∧ mk' ≤ 40 ∧
      mkR (fun x => ∃ k v', i ≤ k ∧ k ≤ 4 ∧ 0 < sN k ∧ RM lk er d (p + 1) (dcK sN k) (two s p q) v' ∧ x = many + (bK er k p + bK er k q + v')) mk mk' := by
  have hp8 : p < 8 := by omega
  have hq8 : q < 8 := by omega
  intro e
  induction e with
  | zero =>
    intro n i mk hi h1 hn hmk
    obtain ⟨n', rfl, hn'⟩ := fuel_succ hn
    obtain rfl : i = 5 := by omega
    refine ⟨mk, ?_, hmk, mkR_none (fun x ⟨k, v', a, b, _⟩ => by omega)⟩
    rw [f_X11_tryErrands_77, if_pos (by decide), f_X11_tryErrands_161, nI_1]
  | succ e ih =>
    intro n i mk hi h1 hn hmk
    obtain ⟨n', rfl, hn'⟩ := fuel_succ hn
    obtain ⟨s1, s2⟩ := hsN i h1 (by omega)
    have hib : rf_ib (nI i) 5 = true := pb_ibt (by omega) (by omega)
    rw [f_X11_tryErrands_77, if_neg (show ¬ (4 : Int32) < nI i from nI_nlt (a := 4) (by omega) (by decide)), if_pos hib, nI_clamp (by omega), s1]
    simp only [f_X11_tryErrands_155]
    rw [nI_1]
    by_cases h0 : sN i = 0
    · rw [if_pos (show nI (sN i) = 0 by rw [h0]; rfl)]
      obtain ⟨mk', a1, a2, a3⟩ := ih n' (i + 1) mk (by omega) (by omega) (by omega) hmk
      refine ⟨mk', a1, a2, mkR_iff a3 (fun x => ⟨?_, ?_⟩)⟩
      · rintro ⟨k, v', c1, c2, c3, c4⟩
        refine ⟨k, v', ?_, c2, c3, c4⟩
        apply Classical.byContradiction
        intro hc
        obtain rfl : k = i := by omega
        omega
      · rintro ⟨k, v', c1, c2, c3, c4⟩
        exact ⟨k, v', by omega, c2, c3, c4⟩
    · rw [if_neg (show ¬ nI (sN i) = 0 from fun z => h0 ((nI_eq (b := 0) (by omega) (by decide)).mp z)), if_pos hib, if_pos hib, isKept_s hp8 (by omega) (her p hp).1 (her p hp).2, pb_bind, isKept_s hq8 (by omega) (her q hq).1 (her q hq).2, pb_bind, nI_add, nI_add]
      have b1 := bK_le (er := er) (k := i) (p := p)
      have b2 := bK_le (er := er) (k := i) (p := q)
      have hdec : nI (sN i) - 1 = nI (sN i - 1) := pb_sub (b := 1) (by omega)
      obtain ⟨mk1, x1, x2, x3⟩ := hF mk (many + bK er i p + bK er i q) (upd sA i (nI (sN i - 1))) (dcK sN i) (two s p q) (fun k k1 k4 => by
        unfold upd dcK
        by_cases ek : k = i
        · rw [if_pos ek, if_pos ek, ek]; exact ⟨rfl, by omega⟩
        · rw [if_neg ek, if_neg ek]; exact hsN k k1 k4) hmk (by omega) (fun k hk => hs k (two_sub hp8 hq8 hk))
      have hback : upd (upd sA i (nI (sN i - 1))) i ((upd sA i (nI (sN i - 1))) i + 1) = sA := by
        funext k
        unfold upd
        by_cases ek : k = i
        · rw [if_pos ek, if_pos rfl, nI_1, show sN i - 1 + 1 = sN i by omega, ek, s1]
        · rw [if_neg ek, if_neg ek]
      unfold two at x1
      rw [hdec, nI_1, x1, pb_bind, if_pos hib, if_pos hib]
      show ∃ mk', f_X11_tryErrands_77 K F r can n' (nI p) s (nI many) (nI q) (nI (i + 1)) (nI mk1) (upd (upd sA i (nI (sN i - 1))) i ((upd sA i (nI (sN i - 1))) i + 1)) = _ ∧ _
      rw [hback]
      obtain ⟨mk2, y1, y2, y3⟩ := ih n' (i + 1) mk1 (by omega) (by omega) (by omega) x2
      refine ⟨mk2, y1, y2, mkR_step x3 y3 (fun x => ⟨?_, ?_⟩)⟩
      · rintro ⟨k, v', c1, c2, c3, c4, c5⟩
        by_cases ek : k = i
        · subst ek
          exact Or.inl ⟨v', c4, by omega⟩
        · exact Or.inr ⟨k, v', by omega, c2, c3, c4, c5⟩
      · rintro (⟨v', c4, c5⟩ | ⟨k, v', c1, c2, c3, c4, c5⟩)
        · exact ⟨i, v', by omega, by omega, by omega, c4, by omega⟩
        · exact ⟨k, v', by omega, c2, c3, c4, c5⟩
theorem err36 {lk : Nat → Nat → Bool} {er : Nat → Nat} {P : Nat} (hP : P ≤ 8) {r can : Nat → Int32} (hr : r 3 = nI P) (her : ∀ p, p < P → r (92 + 4 * p) = nI (er p) ∧ er p ≤ 4) {people : Int32} (hpe : ∀ k, bt people k = true → k < P) (hc : ∀ p q, bt people p = true → bt people q = true → bt (can p) q = lk p q) {F : Int32 → (Nat → Int32) → Int32 → Int32 → Int32 → Option (Int32 × (Nat → Int32))} {d p : Nat} (hd : p + 1 + d = P) (hF : tryE lk er people F d (p + 1)) {many : Nat} (hm : many + 2 * (d + 1) ≤ 40) {sA : Nat → Int32} {sN : Nat → Nat} (hsN : ∀ k, 1 ≤ k → k ≤ 4 → sA k = nI (sN k) ∧ sN k ≤ 3) {s : Int32} (hs : ∀ k, bt s k = true → bt people k = true) :
    ∀ e n i mk : Nat, i + e = P → p + 1 ≤ i → e < n → mk ≤ 40 → ∃ mk', f_X11_tryErrands_36 F r can n (nI p) s (nI many) (nI i) (nI mk) sA = some (nI mk', sA) ∧ mk' ≤ 40 ∧
      mkR (fun x => (∃ q k v', i ≤ q ∧ bt s p = true ∧ bt s q = true ∧ lk p q = true ∧ 1 ≤ k ∧ k ≤ 4 ∧ 0 < sN k ∧ RM lk er d (p + 1) (dcK sN k) (two s p q) v' ∧ x = many + (bK er k p + bK er k q + v')) ∨ ∃ v, RM lk er d (p + 1) sN (one1 s p) v ∧ x = many + v) mk mk' := by
  have hp8 : p < 8 := by omega
  have hlast : ∀ mk, mk ≤ 40 → ∃ mk', f_X11_tryErrands_167 F r can (nI p) s (nI many) (nI mk) sA = some (nI mk', sA) ∧ mk' ≤ 40 ∧ mkR (fun x => ∃ v, RM lk er d (p + 1) sN (one1 s p) v ∧ x = many + v) mk mk' := by
    intro mk hmk
    obtain ⟨mk1, x1, x2, x3⟩ := hF mk many sA sN (one1 s p) hsN hmk (by omega) (fun k hk => hs k (one_in hp8 hk).1)
    refine ⟨mk1, ?_, x2, x3⟩
    unfold one1 at x1
    rw [f_X11_tryErrands_167, nI_1, x1, pb_bind]
  intro e
  induction e with
  | zero =>
    intro n i mk hi hpi hn hmk
    obtain ⟨n', rfl, hn'⟩ := fuel_succ hn
    obtain ⟨mk', a1, a2, a3⟩ := hlast mk hmk
    refine ⟨mk', ?_, a2, mkR_iff a3 (fun x => ⟨?_, Or.inr⟩)⟩
    · rw [f_X11_tryErrands_36, show Int32.toNatClampNeg 3 = 3 from rfl, hr, if_pos (nI_le (by omega) (by omega)), a1]
    · rintro (⟨q, k, v', c1, c2, c3, _⟩ | h)
      · have := hpe q (hs q c3); omega
      · exact h
  | succ e ih =>
    intro n i mk hi hpi hn hmk
    obtain ⟨n', rfl, hn'⟩ := fuel_succ hn
    rw [f_X11_tryErrands_36, show Int32.toNatClampNeg 3 = 3 from rfl, hr, if_neg (nI_ge (by omega) (by omega)), hasBitM_s _ (by omega), pb_bind]
    cases hb : bt s p
    · rw [if_pos (show bI false = 0 from rfl)]
      obtain ⟨mk', a1, a2, a3⟩ := hlast mk hmk
      refine ⟨mk', a1, a2, mkR_iff a3 (fun x => ⟨?_, Or.inr⟩)⟩
      rintro (⟨q, k, v', c1, c2, _⟩ | h)
      · cases c2
      · exact h
    · rw [if_neg (show ¬ bI true = 0 by decide), if_pos (pb_ibt (by omega) hp8), nI_clamp (by omega), hasBitM_s _ (by omega), pb_bind, bt_and]
      have hbit : (bt s i && bt (can p) i) = (bt s i && lk p i) := by
        cases hi2 : bt s i
        · rfl
        · rw [hc p i (hs p hb) (hs i hi2)]
      rw [hbit]
      rw [hb] at ih
      cases ht : (bt s i && lk p i)
      · rw [if_pos (show bI false = 0 from rfl), f_X11_tryErrands_161, nI_1]
        obtain ⟨mk', a1, a2, a3⟩ := ih n' (i + 1) mk (by omega) (by omega) (by omega) hmk
        refine ⟨mk', a1, a2, mkR_iff a3 (fun x => ⟨?_, ?_⟩)⟩
        · rintro (⟨q, k, v', c1, c2, c3, c4, c5⟩ | h)
          · refine Or.inl ⟨q, k, v', ?_, c2, c3, c4, c5⟩
            apply Classical.byContradiction
            intro hcc
            obtain rfl : q = i := by omega
            rw [c3, c4] at ht; cases ht
          · exact Or.inr h
        · rintro (⟨q, k, v', c1, c5⟩ | h)
          · exact Or.inl ⟨q, k, v', by omega, c5⟩
          · exact Or.inr h
      · rw [Bool.and_eq_true] at ht
        rw [if_neg (show ¬ bI true = 0 by decide)]
        obtain ⟨mk1, x1, x2, x3⟩ := err77 (lk := lk) hP her (can := can) (p := p) (q := i) (by omega) (by omega) hF hm hsN hs (f_X11_tryErrands_36 F r can n') 4 rf_fu 1 mk (by omega) (by omega) (by decide) hmk
        obtain ⟨mk2, y1, y2, y3⟩ := ih n' (i + 1) mk1 (by omega) (by omega) (by omega) x2
        refine ⟨mk2, ?_, y2, mkR_step x3 y3 (fun x => ⟨?_, ?_⟩)⟩
        · rw [show (1 : Int32) = nI 1 from rfl, x1, y1]
        · rintro (⟨q, k, v', c1, c2, c3, c4, c5, c6, c7, c8, c9⟩ | h)
          · by_cases eq : q = i
            · subst eq; exact Or.inl ⟨k, v', c5, c6, c7, c8, c9⟩
            · exact Or.inr (Or.inl ⟨q, k, v', by omega, c2, c3, c4, c5, c6, c7, c8, c9⟩)
          · exact Or.inr (Or.inr h)
        · rintro (⟨k, v', c5, c6, c7, c8, c9⟩ | ⟨q, k, v', c1, c2⟩ | h)
          · exact Or.inl ⟨i, k, v', by omega, rfl, ht.1, ht.2, c5, c6, c7, c8, c9⟩
          · exact Or.inl ⟨q, k, v', by omega, c2⟩
          · exact Or.inr h
theorem tryE_l {lk : Nat → Nat → Bool} {er : Nat → Nat} {P : Nat} (hP : P ≤ 8) {r can : Nat → Int32} (hr : r 3 = nI P) (her : ∀ p, p < P → r (92 + 4 * p) = nI (er p) ∧ er p ≤ 4) {people : Int32} (hpe : ∀ k, bt people k = true → k < P) (hc : ∀ p q, bt people p = true → bt people q = true → bt (can p) q = lk p q) : ∀ d p D : Nat, p + d = P → d < D → tryE lk er people (f_X11_tryErrands r can D) d p := by
  intro d
  induction d with
  | zero =>
    intro p D hp hD mk many sA sN s hsN hmk hm hs
    obtain ⟨D', rfl, hD'⟩ := fuel_succ hD
    obtain rfl : p = P := by omega
    rw [f_X11_tryErrands, show Int32.toNatClampNeg 3 = 3 from rfl, hr, if_pos rfl]
    simp only [f_X11_tryErrands_27]
    by_cases h : many ≤ mk
    · rw [if_pos (nI_le h (by omega))]
      exact ⟨mk, rfl, hmk, by omega, Or.inl rfl, fun x ⟨v, h1, h2⟩ => by have h1' : v = 0 := h1; omega⟩
    · rw [if_neg (nI_ge (by omega) (by omega))]
      exact ⟨many, rfl, by omega, by omega, Or.inr ⟨0, rfl, rfl⟩, fun x ⟨v, h1, h2⟩ => by have h1' : v = 0 := h1; omega⟩
  | succ d ih =>
    intro p D hp hD mk many sA sN s hsN hmk hm hs
    obtain ⟨D', rfl, hD'⟩ := fuel_succ hD
    rw [f_X11_tryErrands, show Int32.toNatClampNeg 3 = 3 from rfl, hr, if_neg (fun z => by have := (nI_eq (a := p) (b := P) (by omega) (by omega)).mp z; omega), nI_1]
    obtain ⟨mk', a1, a2, a3⟩ := err36 (lk := lk) hP hr her hpe hc (d := d) (p := p) (by omega) (ih (p + 1) D' (by omega) (by omega)) (by omega) hsN hs d rf_fu (p + 1) mk (by omega) (by omega) (by show d < 4096; omega) hmk
    refine ⟨mk', a1, a2, mkR_iff a3 (fun x => ⟨?_, ?_⟩)⟩
    · rintro ⟨v, h | ⟨q, k, v', c1, c2, c3, c4, c5, c6, c7, c8, c9⟩, hx⟩
      · exact Or.inr ⟨v, h, hx⟩
      · exact Or.inl ⟨q, k, v', by omega, c2, c3, c4, c5, c6, c7, c8, by omega⟩
    · rintro (⟨q, k, v', c1, c2, c3, c4, c5, c6, c7, c8, c9⟩ | ⟨v, h, hx⟩)
      · exact ⟨_, Or.inr ⟨q, k, v', by omega, c2, c3, c4, c5, c6, c7, c8, rfl⟩, c9⟩
      · exact ⟨v, Or.inl h, hx⟩
