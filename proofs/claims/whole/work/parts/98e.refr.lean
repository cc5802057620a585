theorem cov_bits {W : Nat} {sg cv : Nat → Int32} {people : Int32} {m : Nat} (h : ∀ w, w < W → ∀ k, k < 32 → bt (cv w) k = (bt people k && bt (sg w) k)) : ∀ i, i ≤ W → ∀ k, k < 32 → bt (covI cv m i) k = (bt people k && bt (covI sg m i) k) := by
  intro i
  induction i with
  | zero => intro _ k hk; rw [covI, covI]; rw [show bt (nI 0) k = false from bt_0 k, Bool.and_false]
  | succ i ih =>
    intro hi k hk
    rw [covI, covI, bt_or, bt_or, ih (by omega) k hk]
    cases m.testBit i
    · rw [if_neg (by decide), if_neg (by decide), show bt (nI 0) k = false from bt_0 k, Bool.or_false, Bool.or_false]
    · rw [if_pos rfl, if_pos rfl, h i (by omega) k hk]
      cases bt people k <;> simp
theorem cov_mono {sg : Nat → Int32} {m m' : Nat} : ∀ i, (∀ w, w < i → m.testBit w = true → m'.testBit w = true) → ∀ k, bt (covI sg m i) k = true → bt (covI sg m' i) k = true := by
  intro i
  induction i with
  | zero => intro _ k hk; rw [covI, show bt (nI 0) k = false from bt_0 k] at hk; cases hk
  | succ i ih =>
    intro h k hk
    rw [covI, bt_or, Bool.or_eq_true] at hk
    rw [covI, bt_or, Bool.or_eq_true]
    rcases hk with hk | hk
    · exact Or.inl (ih (fun w hw => h w (by omega)) k hk)
    · refine Or.inr ?_
      cases hb : m.testBit i
      · rw [hb, if_neg (by decide), show bt (nI 0) k = false from bt_0 k] at hk; cases hk
      · rw [hb, if_pos rfl] at hk
        rw [h i (by omega) hb, if_pos rfl]; exact hk
theorem refr185 {W : Nat} (hW : W ≤ 10) {r st : Nat → Int32} (hr : r 2 = nI W) {has people v5 : Int32} {cv : Nat → Int32} {m : Nat} (hm : m < 1024) (K : Int32 → Int32 → Int32 → Int32 → Int32 → (Nat → Int32) → Option (Int32 × Int32 × Int32 × (Nat → Int32))) : ∀ d n i : Nat, i + d = W → d < n →
    f_X11_refrain_185 K has r st n people v5 (nI m) (covI cv m i) (nI i) 0 0 cv = K people (if covI cv m W = people then nI m else v5) (nI (m + 1)) 0 0 cv := by
  intro d
  induction d with
  | zero =>
    intro n i hi hn
    obtain ⟨n', rfl, hn'⟩ := fuel_succ hn
    obtain rfl : i = W := by omega
    rw [f_X11_refrain_185, show Int32.toNatClampNeg 2 = 2 from rfl, hr, if_pos (nI_le (by omega) (by omega))]
    simp only [f_X11_refrain_239]
    rw [nI_1]
    by_cases he : covI cv m i = people
    · rw [if_pos he, if_pos he]
    · rw [if_neg he, if_neg he]
  | succ d ih =>
    intro n i hi hn
    obtain ⟨n', rfl, hn'⟩ := fuel_succ hn
    have ih' := ih n' (i + 1) (by omega) (by omega)
    rw [covI] at ih'
    rw [f_X11_refrain_185, show Int32.toNatClampNeg 2 = 2 from rfl, hr, if_neg (nI_ge (by omega) (by omega)), hasBitM_s _ (by omega), pb_bind, bt_nI (by omega)]
    simp only [f_X11_refrain_219]
    rw [nI_1]
    cases hb : m.testBit i
    · rw [hb, if_neg (by decide)] at ih'
      rw [if_pos (show bI false = 0 from rfl)]
      exact ih'
    · rw [hb, if_pos rfl] at ih'
      rw [if_neg (show ¬ bI true = 0 by decide), if_pos (pb_ibt (by omega) (by omega)), nI_clamp (by omega)]
      exact ih'
theorem refr145 {W : Nat} (hW : W ≤ 10) {r st : Nat → Int32} (hr : r 2 = nI W) {has people : Int32} {cv : Nat → Int32} {ok : Nat → Bool} (hok : ∀ m, m < 2 ^ W → (covI cv m W = people ↔ ok m = true)) (hmono : ∀ m, m < 2 ^ W → ok m = true → ok (2 ^ W - 1) = true) : ∀ d n i : Nat, ∀ v5 : Int32, i + d = 2 ^ W → d < n →
    ((v5 = -2 ∧ ∀ s, s < i → ok s = false) ∨ (∃ b, b < i ∧ v5 = nI b ∧ ok b = true ∧ ∀ s, s < i → ok s = true → pop b < pop s ∨ (pop b = pop s ∧ b ≤ s))) →
    ∃ x, f_X11_refrain_145 has r st n people v5 (nI i) 0 0 cv = some (x, 0, 0, cv) ∧ Rmin ok W x := by
  have hp := pw_le hW
  intro d
  induction d with
  | zero =>
    intro n i v5 hi hn hst
    obtain ⟨n', rfl, hn'⟩ := fuel_succ hn
    rw [f_X11_refrain_145, show Int32.toNatClampNeg 2 = 2 from rfl, hr, shl_s hW, if_pos (nI_le (by omega) (by omega))]
    refine ⟨v5, rfl, ?_⟩
    rcases hst with ⟨a, b⟩ | ⟨b, b1, b2, b3, b4⟩
    · exact Or.inl ⟨b _ (by omega), a⟩
    · exact Or.inr ⟨hmono b (by omega) b3, b, by omega, b2, b3, fun s hs => b4 s (by omega)⟩
  | succ d ih =>
    intro n i v5 hi hn hst
    obtain ⟨n', rfl, hn'⟩ := fuel_succ hn
    have hrun := refr185 hW hr (st := st) (has := has) (people := people) (v5 := v5) (cv := cv) (m := i) (by omega) (f_X11_refrain_145 has r st n') W rf_fu 0 (by omega) (by show W < 4096; omega)
    have hk := hok i (by omega)
    rw [f_X11_refrain_145, show Int32.toNatClampNeg 2 = 2 from rfl, hr, shl_s hW, if_neg (nI_ge (by omega) (by omega))]
    simp only [f_X11_refrain_179]
    rw [show f_X11_refrain_185 (f_X11_refrain_145 has r st n') has r st rf_fu people v5 (nI i) 0 0 0 0 cv = _ from hrun]
    have p1 := pop_le (m := i) (by omega)
    rcases hst with ⟨a, b⟩ | ⟨b, b1, b2, b3, b4⟩
    · rw [if_pos (show v5 < 0 by rw [a]; decide)]
      by_cases hc : covI cv i W = people
      · rw [if_pos hc]
        exact ih n' (i + 1) (nI i) (by omega) (by omega) (Or.inr ⟨i, by omega, rfl, hk.mp hc, fun s hs hoks => by
          by_cases es : s = i
          · subst es; exact Or.inr ⟨rfl, Nat.le_refl _⟩
          · rw [b s (by omega)] at hoks; cases hoks⟩)
      · rw [if_neg hc]
        exact ih n' (i + 1) v5 (by omega) (by omega) (Or.inl ⟨a, fun s hs => by
          by_cases es : s = i
          · subst es
            cases h : ok s
            · rfl
            · exact absurd (hk.mpr h) hc
          · exact b s (by omega)⟩)
    · subst b2
      have p2 := pop_le (m := b) (by omega)
      rw [if_neg (nI_pos (by omega)), ones_s (by omega), ones_s (by omega), pb_bind, pb_bind]
      by_cases hlt : pop i < pop b
      · rw [if_pos (nI_lt hlt (by omega))]
        by_cases hc : covI cv i W = people
        · rw [if_pos hc]
          exact ih n' (i + 1) (nI i) (by omega) (by omega) (Or.inr ⟨i, by omega, rfl, hk.mp hc, fun s hs hoks => by
            by_cases es : s = i
            · subst es; exact Or.inr ⟨rfl, Nat.le_refl _⟩
            · have := b4 s (by omega) hoks
              exact Or.inl (by omega)⟩)
        · rw [if_neg hc]
          exact ih n' (i + 1) (nI b) (by omega) (by omega) (Or.inr ⟨b, by omega, rfl, b3, fun s hs hoks => by
            by_cases es : s = i
            · subst es; exact absurd (hk.mpr hoks) hc
            · exact b4 s (by omega) hoks⟩)
      · rw [if_neg (nI_nlt (by omega) (by omega)), f_X11_refrain_239, nI_1]
        exact ih n' (i + 1) (nI b) (by omega) (by omega) (Or.inr ⟨b, by omega, rfl, b3, fun s hs hoks => by
          by_cases es : s = i
          · subst es
            by_cases h2 : pop b < pop s
            · exact Or.inl h2
            · exact Or.inr ⟨by omega, by omega⟩
          · exact b4 s (by omega) hoks⟩)
theorem rf_st26 {j : Nat} : rf_step_26 (rf_Inv j) (rf_Inv (j + 1)) := by
  rintro I J A B I' A' v1 v2 ⟨W, P, G, na, ni, h⟩
  have ht := h.tale
  have hP := ht.P8
  have hW := ht.W10
  have hpw := pw_le hW
  unfold f_X10_refrain f_X11_refrain
  rw [ht.hpc, ht.hwc, isBankX_s (by omega), isHourX_s, bankWhyM_s h.hasb]
  simp only [pb_bind, refused_s, f_X11_good, f_X11_no]
  by_cases hab : (decide (0 < P) && gd 2 v1) = true ∧ gd 24 v2 = true
  · rw [hab.1, hab.2]
    have h1 := hab.1
    rw [Bool.and_eq_true] at h1
    have hPP : 0 < P := of_decide_eq_true h1.1
    obtain ⟨b, hb, rfl⟩ := gd_of (by decide) h1.2
    obtain ⟨k, hk, rfl⟩ := gd_of (by decide) hab.2
    have hE := h.ears hPP
    have e1 := hE.lo k hk
    have e2 := hE.hi k hk
    have hsub := setF_sub (onB (I 7) b) hP
    rw [onBankX_s hP h.every h.now.hfar0 hb, onBankM_s hP h.cx.rP h.now.hbank hb, hE.X k hk]
    simp only [pb_bind]
    generalize setF (onB (I 7) b) P = people at hsub ⊢
    obtain ⟨sg, s1, s2⟩ := sing16 h.cx e1 (by omega) people W rf_fu 0 (A 8) (by omega) (by show W < 4096; omega) (fun w hw => by omega)
    obtain ⟨cv, c1, c2⟩ := cov31 h.cx ht.als e1 (by omega) people (hE.M k hk) (I' 12) W rf_fu 0 (A' 12) (by omega) (by show W < 4096; omega) (fun w hw => by omega)
    have hplan : f_X4_planSinging (nI W) (nI P) (A 1) (A 14) (A 22) (I 8) (A 8) people (nI (earE (I 21) (A 18) k)) = some (people, sg) := s1
    have hbits : ∀ w, w < W → ∀ k, k < 32 → bt (cv w) k = (bt people k && bt (sg w) k) := by
      intro w hw k hk
      rw [c2 w hw, s2 w hw, bt_setF _ P (by omega), bt_setF _ P (by omega)]
      cases decide (k < P) <;> simp
    have hEX : ∀ L m, m < 2 ^ W → ∃ L', f_X4_isEnough people (nI W) (nI P) (A 3) sg (A 33) L (nI m) 1 = some (bI (decide (people &&& (covI sg m W ^^^ (-1)) = 0)), L') := by
      intro L m hm
      refine ⟨L, ?_⟩
      unfold f_X4_isEnough f_X4_allSing
      rw [if_neg (by decide), show f_X4_allSing_4 people (nI W) sg rf_fu (nI m) 0 0 = _ from allSing_l hW (by omega) W rf_fu 0 (by omega) (by show W < 4096; omega), pb_bind]
      cases decide (people &&& (covI sg m W ^^^ (-1)) = 0) <;> rfl
    obtain ⟨r, L', x1, x2⟩ := fewest_s hW (ok := fun m => decide (people &&& (covI sg m W ^^^ (-1)) = 0)) hEX (A 7)
    have hok : ∀ m, m < 2 ^ W → (covI cv m W = people ↔ decide (people &&& (covI sg m W ^^^ (-1)) = 0) = true) := by
      intro m _
      rw [decide_eq_true_eq, pb_eq0]
      have hcb := cov_bits (m := m) hbits W (Nat.le_refl _)
      constructor
      · intro q k hk
        have := hcb k hk
        rw [q] at this
        rw [bt_and, bt_com _ hk]
        cases h1 : bt people k
        · rfl
        · rw [h1, Bool.true_and] at this; rw [← this]; rfl
      · intro q
        apply bt_ext
        intro k hk
        have h1 := q k hk
        rw [bt_and, bt_com _ hk] at h1
        rw [hcb k hk]
        cases h2 : bt people k
        · rfl
        · rw [h2, Bool.true_and, Bool.not_eq_false'] at h1; rw [h1]; rfl
    obtain ⟨x, y1, y2⟩ := refr145 hW ht.hwc' (st := A' 4) (has := I' 12) (people := people) (cv := cv) (ok := fun m => decide (people &&& (covI sg m W ^^^ (-1)) = 0)) hok (fun m hm hokm => by
      rw [decide_eq_true_eq, pb_eq0] at hokm ⊢
      intro k hk
      have h1 := hokm k hk
      rw [bt_and, bt_com _ hk] at h1 ⊢
      cases h2 : bt people k
      · rfl
      · rw [h2, Bool.true_and, Bool.not_eq_false'] at h1
        rw [cov_mono (m' := 2 ^ W - 1) W (fun w hw _ => by rw [Nat.testBit_two_pow_sub_one, decide_eq_true hw]) k h1]; rfl) (2 ^ W) rf_fu 0 (-2) (by omega) (by show _ < 4096; omega) (Or.inl ⟨rfl, fun s hs => by omega⟩)
    have hrx : r = x := Rmin_uniq x2 y2
    rw [hplan]
    simp only [pb_bind]
    rw [x1]
    refine ⟨_, (x, 0, 0, cv), rfl, ?_, hrx, h.quiet (h.fault.tell (u := 0) (by decide)) rfl rfl rfl rfl⟩
    rw [if_pos (show whyN true true = 0 from rfl)]
    exact c1.trans y1
  · obtain ⟨c1, c2, c3⟩ := whyN_no hab
    rw [if_neg c1, if_neg c2]
    exact ⟨_, _, rfl, rfl, rfl, h.quiet (h.fault.tell c3) rfl rfl rfl rfl⟩
