/-! the most errands, by plans -/
def bK (er : Nat → Nat) (k p : Nat) : Nat := if k ≤ er p then 1 else 0
def dcK (sN : Nat → Nat) (k : Nat) : Nat → Nat := fun j => if j = k then sN j - 1 else sN j
def ctK (k : Nat) (sN : Nat → Nat) : Nat → Nat := fun j => if j < k then 0 else sN j
def one1 (s : Int32) (p : Nat) : Int32 := s &&& (((1 : Int32) <<< (nI p &&& 31)) ^^^ (-1))
/-- one pair behind the other, m are gone -/
def RX (lk : Nat → Nat → Bool) (er : Nat → Nat) (pr : Nat) : Nat → Nat → Int32 → Nat → Prop
  | 0, _, _, v => v = 0
  | D + 1, m, s, v => v = 0 ∨ ∃ p q v', p < q ∧ bt s p = true ∧ bt s q = true ∧ lk p q = true ∧ RX lk er pr D (m + 1) (two s p q) v' ∧ v = bK er (m / pr + 1) p + bK er (m / pr + 1) q + v'
/-- any pair at any seat -/
def RZ (lk : Nat → Nat → Bool) (er : Nat → Nat) : Nat → (Nat → Nat) → Int32 → Nat → Prop
  | 0, _, _, v => v = 0
  | D + 1, sN, s, v => v = 0 ∨ ∃ p q k v', p < q ∧ bt s p = true ∧ bt s q = true ∧ lk p q = true ∧ 1 ≤ k ∧ k ≤ 4 ∧ 0 < sN k ∧ RZ lk er D (dcK sN k) (two s p q) v' ∧ v = bK er k p + bK er k q + v'
/-- person by person -/
def RM (lk : Nat → Nat → Bool) (er : Nat → Nat) : Nat → Nat → (Nat → Nat) → Int32 → Nat → Prop
  | 0, _, _, _, v => v = 0
  | d + 1, p, sN, s, v => RM lk er d (p + 1) sN (one1 s p) v ∨ ∃ q k v', p < q ∧ bt s p = true ∧ bt s q = true ∧ lk p q = true ∧ 1 ≤ k ∧ k ≤ 4 ∧ 0 < sN k ∧ RM lk er d (p + 1) (dcK sN k) (two s p q) v' ∧ v = bK er k p + bK er k q + v'
theorem bt_one1 {s : Int32} {p k : Nat} (hp : p < 8) : bt (one1 s p) k = (bt s k && !decide (k = p)) := by
  by_cases hk : k < 32
  · unfold one1
    rw [bt_and, bt_com _ hk, show bt ((1 : Int32) <<< (nI p &&& 31)) k = decide (k = p) from bt_1s (by omega) k]
  · rw [bt_ge (by omega), bt_ge (by omega)]; rfl
theorem two_two {s : Int32} {a b p q : Nat} (ha : a < 8) (hb : b < 8) (hp : p < 8) (hq : q < 8) : two (two s a b) p q = two (two s p q) a b := by
  apply bt_ext
  intro k _
  rw [bt_two' hp hq, bt_two' ha hb, bt_two' ha hb, bt_two' hp hq]
  cases bt s k <;> cases decide (k = a) <;> cases decide (k = b) <;> cases decide (k = p) <;> cases decide (k = q) <;> rfl
theorem two_one {s : Int32} {a b p : Nat} (ha : a < 8) (hb : b < 8) (hp : p < 8) : one1 (two s a b) p = two (one1 s p) a b := by
  apply bt_ext
  intro k _
  rw [bt_one1 hp, bt_two' ha hb, bt_two' ha hb, bt_one1 hp]
  cases bt s k <;> cases decide (k = a) <;> cases decide (k = b) <;> cases decide (k = p) <;> rfl
theorem two_in {s : Int32} {p q k : Nat} (hp : p < 8) (hq : q < 8) (h : bt (two s p q) k = true) : bt s k = true ∧ k ≠ p ∧ k ≠ q := by
  rw [bt_two' hp hq, Bool.and_eq_true, Bool.not_eq_true', Bool.or_eq_false_iff] at h
  exact ⟨h.1, of_decide_eq_false h.2.1, of_decide_eq_false h.2.2⟩
theorem two_mk {s : Int32} {p q k : Nat} (hp : p < 8) (hq : q < 8) (h : bt s k = true) (h1 : k ≠ p) (h2 : k ≠ q) : bt (two s p q) k = true := by
  rw [bt_two' hp hq, h, decide_eq_false h1, decide_eq_false h2]; rfl
theorem one_in {s : Int32} {p k : Nat} (hp : p < 8) (h : bt (one1 s p) k = true) : bt s k = true ∧ k ≠ p := by
  rw [bt_one1 hp, Bool.and_eq_true, Bool.not_eq_true'] at h
  exact ⟨h.1, of_decide_eq_false h.2⟩
theorem one_mk {s : Int32} {p k : Nat} (hp : p < 8) (h : bt s k = true) (h1 : k ≠ p) : bt (one1 s p) k = true := by
  rw [bt_one1 hp, h, decide_eq_false h1]; rfl
theorem dc_dc (sN : Nat → Nat) (k k' : Nat) : dcK (dcK sN k) k' = dcK (dcK sN k') k := by
  funext j
  simp only [dcK]
  repeat' split
  all_goals omega
theorem dc_le (sN : Nat → Nat) (k j : Nat) : dcK sN k j ≤ sN j := by
  unfold dcK
  split <;> omega
theorem RZ_0 {lk : Nat → Nat → Bool} {er : Nat → Nat} : ∀ D sN s, RZ lk er D sN s 0 := by
  intro D sN s
  cases D with
  | zero => rfl
  | succ D => exact Or.inl rfl
theorem RX_0 {lk : Nat → Nat → Bool} {er : Nat → Nat} {pr : Nat} : ∀ D m s, RX lk er pr D m s 0 := by
  intro D m s
  cases D with
  | zero => rfl
  | succ D => exact Or.inl rfl
theorem RZ_mono {lk : Nat → Nat → Bool} {er : Nat → Nat} : ∀ D sN sN' s v, (∀ j, sN j ≤ sN' j) → RZ lk er D sN s v → RZ lk er D sN' s v := by
  intro D
  induction D with
  | zero => intro _ _ _ _ _ h; exact h
  | succ D ih =>
    intro sN sN' s v hle h
    rcases h with h | ⟨p, q, k, v', h1, h2, h3, h4, h5, h6, h7, h8, h9⟩
    · exact Or.inl h
    · refine Or.inr ⟨p, q, k, v', h1, h2, h3, h4, h5, h6, Nat.lt_of_lt_of_le h7 (hle k), ih _ _ _ _ (fun j => ?_) h8, h9⟩
      have := hle j
      unfold dcK
      split <;> omega
theorem RZ_sub {lk : Nat → Nat → Bool} {er : Nat → Nat} : ∀ D sN s s' v, (∀ k, bt s' k = true → k < 8) → (∀ k, bt s k = true → bt s' k = true) → RZ lk er D sN s v → RZ lk er D sN s' v := by
  intro D
  induction D with
  | zero => intro _ _ _ _ _ _ h; exact h
  | succ D ih =>
    intro sN s s' v h8 hs h
    rcases h with h | ⟨p, q, k, v', h1, h2, h3, h4, h5, h6, h7, hr, h9⟩
    · exact Or.inl h
    · have hp8 := h8 p (hs p h2)
      have hq8 := h8 q (hs q h3)
      refine Or.inr ⟨p, q, k, v', h1, hs p h2, hs q h3, h4, h5, h6, h7, ih _ _ _ _ (fun k hk => h8 k (two_sub hp8 hq8 hk)) (fun k hk => ?_) hr, h9⟩
      obtain ⟨a, b, c⟩ := two_in hp8 hq8 hk
      exact two_mk hp8 hq8 (hs k a) b c
/-- the least person first, or not at all -/
theorem RZ_p {lk : Nat → Nat → Bool} {er : Nat → Nat} : ∀ D sN s v p, (∀ k, bt s k = true → k < 8) → p < 8 → (∀ j, j < p → bt s j = false) → RZ lk er D sN s v →
    RZ lk er D sN (one1 s p) v ∨ ∃ D' q k v', D = D' + 1 ∧ p < q ∧ bt s p = true ∧ bt s q = true ∧ lk p q = true ∧ 1 ≤ k ∧ k ≤ 4 ∧ 0 < sN k ∧ RZ lk er D' (dcK sN k) (two s p q) v' ∧ v = bK er k p + bK er k q + v' := by
  intro D
  induction D with
  | zero => intro _ _ _ _ _ _ _ h; exact Or.inl h
  | succ D ih =>
    intro sN s v p h8 hp hlow h
    rcases h with h | ⟨a, b, k, v', h1, h2, h3, h4, h5, h6, h7, hr, h9⟩
    · exact Or.inl (Or.inl h)
    · have ha8 := h8 a h2
      have hb8 := h8 b h3
      by_cases hap : a = p
      · subst hap
        exact Or.inr ⟨D, b, k, v', rfl, h1, h2, h3, h4, h5, h6, h7, hr, h9⟩
      · have hbp : b ≠ p := fun q => by
          subst q
          rw [hlow a h1] at h2; cases h2
        rcases ih (dcK sN k) (two s a b) v' p (fun j hj => h8 j (two_sub ha8 hb8 hj)) hp (fun j hj => by
          cases hb : bt (two s a b) j
          · rfl
          · have := (two_in ha8 hb8 hb).1
            rw [hlow j hj] at this; cases this) hr with x | ⟨D', q, k', v2, x1, x2, x3, x4, x5, x6, x7, x8, x9, x10⟩
        · refine Or.inl (Or.inr ⟨a, b, k, v', h1, one_mk hp h2 hap, one_mk hp h3 hbp, h4, h5, h6, h7, ?_, h9⟩)
          rw [← two_one ha8 hb8 hp]; exact x
        · obtain ⟨q1, q2, q3⟩ := two_in ha8 hb8 x4
          have hq8 := h8 q q1
          have hps := (two_in ha8 hb8 x3).1
          refine Or.inr ⟨D, q, k', bK er k a + bK er k b + v2, rfl, x2, hps, q1, x5, x6, x7, Nat.lt_of_lt_of_le x8 (dc_le sN k k'), ?_, by omega⟩
          subst x1
          refine Or.inr ⟨a, b, k, v2, h1, two_mk hp hq8 h2 hap (fun e => q2 e.symm), two_mk hp hq8 h3 hbp (fun e => q3 e.symm), h4, h5, h6, ?_, ?_, rfl⟩
          · unfold dcK at x8 ⊢
            by_cases e : k = k'
            · subst e
              rw [if_pos rfl] at x8 ⊢
              exact x8
            · rw [if_neg e]; exact h7
          · rw [two_two hp hq8 ha8 hb8, dc_dc]; exact x9
/-- the least seat first -/
theorem RZ_k {lk : Nat → Nat → Bool} {er : Nat → Nat} : ∀ D sN s v, (∀ k, bt s k = true → k < 8) → RZ lk er D sN s v →
    v = 0 ∨ ∃ D' p q k v', D = D' + 1 ∧ p < q ∧ bt s p = true ∧ bt s q = true ∧ lk p q = true ∧ 1 ≤ k ∧ k ≤ 4 ∧ 0 < sN k ∧ RZ lk er D' (ctK k (dcK sN k)) (two s p q) v' ∧ v = bK er k p + bK er k q + v' := by
  intro D
  induction D with
  | zero => intro _ _ _ _ h; exact Or.inl h
  | succ D ih =>
    intro sN s v h8 h
    rcases h with h | ⟨a, b, k, v', h1, h2, h3, h4, h5, h6, h7, hr, h9⟩
    · exact Or.inl h
    · have ha8 := h8 a h2
      have hb8 := h8 b h3
      rcases ih (dcK sN k) (two s a b) v' (fun j hj => h8 j (two_sub ha8 hb8 hj)) hr with x | ⟨D', p, q, k', v2, x1, x2, x3, x4, x5, x6, x7, x8, x9, x10⟩
      · subst x
        exact Or.inr ⟨D, a, b, k, 0, rfl, h1, h2, h3, h4, h5, h6, h7, RZ_0 _ _ _, h9⟩
      · obtain ⟨p1, p2, p3⟩ := two_in ha8 hb8 x3
        obtain ⟨q1, q2, q3⟩ := two_in ha8 hb8 x4
        have hp8 := h8 p p1
        have hq8 := h8 q q1
        subst x1
        by_cases hk : k ≤ k'
        · refine Or.inr ⟨D' + 1, a, b, k, v', rfl, h1, h2, h3, h4, h5, h6, h7, Or.inr ⟨p, q, k', v2, x2, x3, x4, x5, x6, x7, ?_, RZ_mono _ _ _ _ _ (fun j => ?_) x9, x10⟩, h9⟩
          · unfold ctK; rw [if_neg (by omega)]; exact x8
          · simp only [ctK, dcK]
            repeat' split
            all_goals omega
        · refine Or.inr ⟨D' + 1, p, q, k', bK er k a + bK er k b + v2, rfl, x2, p1, q1, x5, x6, x7, Nat.lt_of_lt_of_le x8 (dc_le sN k k'), Or.inr ⟨a, b, k, v2, h1, two_mk hp8 hq8 h2 (fun e => p2 e.symm) (fun e => q2 e.symm), two_mk hp8 hq8 h3 (fun e => p3 e.symm) (fun e => q3 e.symm), h4, h5, h6, ?_, ?_, rfl⟩, by omega⟩
          · unfold ctK dcK; rw [if_neg (by omega), if_neg (by omega)]; exact h7
          · rw [two_two hp8 hq8 ha8 hb8]
            refine RZ_mono _ _ _ _ _ (fun j => ?_) x9
            simp only [ctK, dcK]
            repeat' split
            all_goals omega
/-- the seats that are left are late enough -/
def HK (pr m : Nat) (sN : Nat → Nat) : Prop := (0 < sN 1 → sN 1 + m ≤ pr) ∧ (0 < sN 2 → sN 1 + sN 2 + m ≤ 2 * pr) ∧ (0 < sN 3 → sN 1 + sN 2 + sN 3 + m ≤ 3 * pr) ∧ (0 < sN 4 → sN 1 + sN 2 + sN 3 + sN 4 + m ≤ 4 * pr)
theorem HK_next {pr m : Nat} {sN : Nat → Nat} {k : Nat} (h : HK pr m sN) (h1 : 1 ≤ k) (h4 : k ≤ 4) (h0 : 0 < sN k) : m < k * pr ∧ HK pr (m + 1) (ctK k (dcK sN k)) := by
  obtain ⟨a, b, c, d⟩ := h
  obtain rfl | rfl | rfl | rfl : k = 1 ∨ k = 2 ∨ k = 3 ∨ k = 4 := by omega
  · refine ⟨by omega, ?_, ?_, ?_, ?_⟩ <;> simp only [ctK, dcK] <;> simp <;> omega
  · refine ⟨by omega, ?_, ?_, ?_, ?_⟩ <;> simp only [ctK, dcK] <;> simp <;> omega
  · refine ⟨by omega, ?_, ?_, ?_, ?_⟩ <;> simp only [ctK, dcK] <;> simp <;> omega
  · refine ⟨by omega, ?_, ?_, ?_, ?_⟩ <;> simp only [ctK, dcK] <;> simp <;> omega
theorem bK_mono {er : Nat → Nat} {k k' p : Nat} (h : k ≤ k') : bK er k' p ≤ bK er k p := by
  unfold bK
  by_cases h1 : k' ≤ er p
  · rw [if_pos h1, if_pos (by omega)]; exact Nat.le_refl _
  · rw [if_neg h1]; omega
theorem RZ_RX {lk : Nat → Nat → Bool} {er : Nat → Nat} {pr : Nat} (hpr : 0 < pr) : ∀ D m sN s v, (∀ k, bt s k = true → k < 8) → HK pr m sN → RZ lk er D sN s v → ∃ v', v ≤ v' ∧ RX lk er pr D m s v' := by
  intro D
  induction D with
  | zero => intro m sN s v _ _ h; exact ⟨0, by have : v = 0 := h; omega, rfl⟩
  | succ D ih =>
    intro m sN s v h8 hH h
    rcases RZ_k _ _ _ _ h8 h with x | ⟨D', p, q, k, v', x1, x2, x3, x4, x5, x6, x7, x8, x9, x10⟩
    · exact ⟨0, by omega, RX_0 _ _ _⟩
    · obtain ⟨y1, y2⟩ := HK_next hH x6 x7 x8
      obtain rfl : D = D' := by omega
      have hp8 := h8 p x3
      have hq8 := h8 q x4
      obtain ⟨w, w1, w2⟩ := ih (m + 1) _ _ _ (fun j hj => h8 j (two_sub hp8 hq8 hj)) y2 x9
      have hk : m / pr + 1 ≤ k := (Nat.div_lt_iff_lt_mul hpr).mpr y1
      have b1 := bK_mono (er := er) (p := p) hk
      have b2 := bK_mono (er := er) (p := q) hk
      exact ⟨bK er (m / pr + 1) p + bK er (m / pr + 1) q + w, by omega, Or.inr ⟨p, q, w, x2, x3, x4, x5, w2, rfl⟩⟩
def sX (pr m : Nat) : Nat → Nat := fun k => min pr (k * pr - m)
theorem sX_next {pr m : Nat} (h1 : 1 ≤ pr) (h3 : pr ≤ 3) : 0 < sX pr m (m / pr + 1) ∧ ∀ j, sX pr (m + 1) j ≤ dcK (sX pr m) (m / pr + 1) j := by
  simp only [sX, dcK]
  obtain rfl | rfl | rfl : pr = 1 ∨ pr = 2 ∨ pr = 3 := by omega
  · rw [Nat.div_one]
    refine ⟨by omega, fun j => ?_⟩
    split <;> omega
  · refine ⟨by omega, fun j => ?_⟩
    split <;> omega
  · refine ⟨by omega, fun j => ?_⟩
    split <;> omega
theorem RX_RZ {lk : Nat → Nat → Bool} {er : Nat → Nat} {pr : Nat} (h1 : 1 ≤ pr) (h3 : pr ≤ 3) : ∀ D m s v, m + D = 4 → RX lk er pr D m s v → RZ lk er D (sX pr m) s v := by
  intro D
  induction D with
  | zero => intro m s v _ h; exact h
  | succ D ih =>
    intro m s v hm h
    rcases h with h | ⟨p, q, v', a1, a2, a3, a4, a5, a6⟩
    · exact Or.inl h
    · obtain ⟨b1, b2⟩ := sX_next (m := m) h1 h3
      have := Nat.div_le_self m pr
      exact Or.inr ⟨p, q, m / pr + 1, v', a1, a2, a3, a4, Nat.le_add_left 1 _, (by generalize m / pr = t at this ⊢; omega), b1, RZ_mono _ _ _ _ _ b2 (ih (m + 1) _ _ (by omega) a5), a6⟩
theorem cD_sub {s t : Nat → Bool} : ∀ n, (∀ k, k < n → s k = true → t k = true) → cD s n ≤ cD t n := by
  intro n
  induction n with
  | zero => intro _; exact Nat.le_refl _
  | succ n ih =>
    intro h
    have h1 := ih (fun k hk => h k (by omega))
    rw [cD, cD]
    by_cases hs : s n = true
    · rw [if_pos hs, if_pos (h n (by omega) hs)]; omega
    · rw [if_neg hs]; omega
theorem RM_RZ {lk : Nat → Nat → Bool} {er : Nat → Nat} : ∀ d p sN s v D, (∀ k, bt s k = true → k < 8) → p + d ≤ 8 → cD (bt s) 8 ≤ 2 * D + 1 → RM lk er d p sN s v → RZ lk er D sN s v := by
  intro d
  induction d with
  | zero => intro p sN s v D _ _ _ h; have h' : v = 0 := h; subst h'; exact RZ_0 _ _ _
  | succ d ih =>
    intro p sN s v D h8 hp hc h
    have hp8 : p < 8 := by omega
    rcases h with h | ⟨q, k, v', a1, a2, a3, a4, a5, a6, a7, a8, a9⟩
    · exact RZ_sub _ _ _ _ _ h8 (fun k hk => (one_in hp8 hk).1) (ih (p + 1) sN (one1 s p) v D (fun k hk => h8 k (one_in hp8 hk).1) (by omega) (Nat.le_trans (cD_sub 8 (fun k _ hk => (one_in hp8 hk).1)) hc) h)
    · have hq8 := h8 q a3
      have hcnt := two_cnt hp8 hq8 (by omega) a2 a3
      obtain ⟨D', rfl⟩ : ∃ D', D = D' + 1 := ⟨D - 1, by omega⟩
      exact Or.inr ⟨p, q, k, v', a1, a2, a3, a4, a5, a6, a7, ih (p + 1) _ _ _ D' (fun k hk => h8 k (two_sub hp8 hq8 hk)) (by omega) (by omega) a8, a9⟩
theorem RZ_RM {lk : Nat → Nat → Bool} {er : Nat → Nat} : ∀ d p D sN s v, p + d ≤ 8 → (∀ k, bt s k = true → p ≤ k ∧ k < p + d) → RZ lk er D sN s v → RM lk er d p sN s v := by
  intro d
  induction d with
  | zero =>
    intro p D sN s v _ hs h
    cases D with
    | zero => exact h
    | succ D =>
      rcases h with h | ⟨a, b, k, v', h1, h2, h3, h4⟩
      · exact h
      · have := hs a h2; omega
  | succ d ih =>
    intro p D sN s v hp hs h
    have hp8 : p < 8 := by omega
    have h8 : ∀ k, bt s k = true → k < 8 := fun k hk => by have := hs k hk; omega
    rcases RZ_p D sN s v p h8 hp8 (fun j hj => by
      cases hb : bt s j
      · rfl
      · have := hs j hb; omega) h with x | ⟨D', q, k, v', x1, x2, x3, x4, x5, x6, x7, x8, x9, x10⟩
    · exact Or.inl (ih (p + 1) D sN (one1 s p) v (by omega) (fun k hk => by
        have := one_in hp8 hk
        have := hs k this.1
        omega) x)
    · have hq8 := h8 q x4
      exact Or.inr ⟨q, k, v', x2, x3, x4, x5, x6, x7, x8, ih (p + 1) D' _ _ _ (by omega) (fun j hj => by
        have h2 := two_in hp8 hq8 hj
        have := hs j h2.1
        omega) x9, x10⟩
