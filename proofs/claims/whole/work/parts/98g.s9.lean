theorem clo_congr {L M : Nat → Int32} {P : Nat} (h : ∀ q, q < P → L q = M q) {s : Int32} (hs : clo L P s) : clo M P s := fun q hq hb k hk => hs q hq hb k (by rw [h q hq]; exact hk)
theorem Good_congr {L M : Nat → Int32} {P p : Nat} (h : ∀ q, q < P → L q = M q) {s : Int32} (hs : Good L P p s) : Good M P p s :=
  ⟨hs.1, hs.2.1, clo_congr h hs.2.2.1, fun T hT hc => hs.2.2.2 T hT (clo_congr (fun q hq => (h q hq).symm) hc)⟩
theorem rf_st12 {j : Nat} : rf_step_12 (rf_Inv j) (rf_Inv (j + 1)) := by
  rintro I J A B I' A' v1 v2 ⟨W, P, G, na, ni, h⟩
  have ht := h.tale
  have hP := ht.P8
  unfold f_X10_classOf f_X11_classOf
  rw [ht.hpc, ht.hwc, isPersonX_s, isHourX_s, isPersonM_s h.hasb ht.hpc' (by omega)]
  simp only [pb_bind, refused_s, f_X11_good, whyM_s, f_X11_no]
  by_cases hab : gd P v1 = true ∧ gd 24 v2 = true
  · rw [hab.1, hab.2]
    obtain ⟨p, hp, rfl⟩ := gd_of (by omega) hab.1
    obtain ⟨k, hk, rfl⟩ := gd_of (by decide) hab.2
    have hE := h.ears (by omega)
    have e1 := hE.lo k hk
    have e2 := hE.hi k hk
    obtain ⟨L', l1, l2⟩ := link_s h.cx e1 (by omega) (A 3)
    have l3 : ∀ q, q < P → L' q = setF (metb W (A' 2) (A 1) (A 14) q (A 1 q) (nI 0) (earE (I 21) (A 18) k)) P := fun q hq => bt_ext (fun c _ => l2 q hq c)
    obtain ⟨s, x1, x2⟩ := groupOf_s hP (L := L') (fun q hq c hc => by rw [l3 q hq] at hc; exact setF_sub _ hP c hc) hp
    obtain ⟨s', y1, y2⟩ := classBy_s h.cx e1 (by omega : _ ≤ 7) hp
    have hss : s = s' := Good_uniq (Good_congr l3 x2) y2
    rw [hE.X k hk, hE.M k hk]
    simp only [pb_bind]
    rw [l1, y1]
    simp only [pb_bind]
    rw [x1]
    exact ⟨_, _, rfl, rfl, hss, h.quiet (h.fault.tell (u := 0) (by decide)) rfl rfl rfl rfl⟩
  · obtain ⟨c1, c2, c3⟩ := whyN_no hab
    rw [if_neg c1, if_neg c2]
    exact ⟨_, _, rfl, rfl, rfl, h.quiet (h.fault.tell c3) rfl rfl rfl rfl⟩
theorem Good_sym {L : Nat → Int32} {P p q : Nat} (hsym : ∀ a b, a < P → b < P → bt (L a) b = true → bt (L b) a = true) {s t : Int32} (hs : Good L P p s) (ht : Good L P q t) (h : bt s q = true) : bt t p = true := by
  cases hb : bt t p
  · exfalso
    have hk32 : ∀ k, bt s k = true → k < 32 := fun k hk => by
      apply Nat.lt_of_not_le
      intro h32
      rw [bt_ge h32] at hk; cases hk
    have hT : ∀ k, bt s k = true → bt (s &&& (t ^^^ (-1))) k = !bt t k := fun k hk => by rw [bt_and, bt_com _ (hk32 k hk), hk, Bool.true_and]
    have h1 := hs.2.2.2 (s &&& (t ^^^ (-1))) (by rw [hT p hs.1, hb]; rfl) (fun a ha hba k hk => by
      have has : bt s a = true := by rw [bt_and, Bool.and_eq_true] at hba; exact hba.1
      have hks := hs.2.2.1 a ha has k hk
      rw [hT a has, Bool.not_eq_true'] at hba
      rw [hT k hks, Bool.not_eq_true']
      cases htk : bt t k
      · rfl
      · have hkP := hs.2.1 k hks
        rw [ht.2.2.1 k hkP htk a (hsym a k ha hkP hk)] at hba; cases hba) q h
    rw [hT q h, ht.1] at h1
    cases h1
  · rfl
theorem classes_l {W P : Nat} {r st close words kinds : Nat → Int32} (h : pCx W P r st close words kinds) {e : Nat} (he1 : 1 ≤ e) (he : e ≤ 7) {v1 : Int32} (hM : f_X11_earAt r v1 = some (nI e)) {L : Nat → Int32} (hL : ∀ q, q < P → L q = setF (metb W r words kinds q (words q) (nI 0) e) P) (hsym : ∀ a b, a < P → b < P → bt (L a) b = true → bt (L b) a = true) (has : Int32) : ∀ d n n' i c : Nat, ∀ x : Int32, i + d = P → d < n → d < n' → (∀ k, k < P → (bt x k = true ↔ ∃ p, p < i ∧ ∃ s, Good L P p s ∧ bt s k = true)) →
    ∃ v, f_X6_groupCount_6 (nI P) L n (nI c) x (nI i) = some v ∧ f_X11_classes_29 has r st n' v1 (nI c) (nI i) 0 0 = some (v, 0, 0) := by
  have hP := h.P8
  intro d
  induction d with
  | zero =>
    intro n n' i c x hi hn hn' hx
    obtain ⟨m, rfl, hm⟩ := fuel_succ hn
    obtain ⟨m', rfl, hm'⟩ := fuel_succ hn'
    rw [f_X6_groupCount_6, f_X11_classes_29, show Int32.toNatClampNeg 3 = 3 from rfl, h.rP, if_pos (nI_le (by omega) (by omega)), if_pos (nI_le (by omega) (by omega))]
    exact ⟨_, rfl, rfl⟩
  | succ d ih =>
    intro n n' i c x hi hn hn' hx
    obtain ⟨m, rfl, hm⟩ := fuel_succ hn
    obtain ⟨m', rfl, hm'⟩ := fuel_succ hn'
    have hiP : i < P := by omega
    obtain ⟨s, x1, x2⟩ := groupOf_s hP (L := L) (fun q hq c hc => by rw [hL q hq] at hc; exact setF_sub _ hP c hc) hiP
    obtain ⟨s', y1, y2⟩ := classBy_s h he1 he hiP
    have hss : s = s' := Good_uniq (Good_congr hL x2) y2
    subst hss
    rw [f_X6_groupCount_6, f_X11_classes_29, show Int32.toNatClampNeg 3 = 3 from rfl, h.rP, if_neg (nI_ge (by omega) (by omega)), if_neg (nI_ge (by omega) (by omega)), holdsX_s _ (by omega), pb_bind, hM, pb_bind, y1, pb_bind, x1, pb_bind]
    simp only [f_X6_groupCount_36, f_X11_classes_67]
    rw [nI_1]
    have hiff : (s &&& (((1 : Int32) <<< (nI i &&& 31)) - 1) = 0) ↔ bt x i = false := by
      have hmask : ∀ k, bt (((1 : Int32) <<< (nI i &&& 31)) - 1) k = decide (k < i) := fun k => ones_bt (W := i) (by omega) k
      rw [pb_eq0, ← Bool.not_eq_true, hx i hiP]
      constructor
      · rintro q ⟨p, hp, t, t1, t2⟩
        have h1 := Good_sym hsym t1 x2 t2
        have h2 := q p (by omega)
        rw [bt_and, hmask, h1, decide_eq_true hp] at h2; cases h2
      · intro q k hk
        rw [bt_and, hmask]
        by_cases hki : k < i
        · rw [decide_eq_true hki, Bool.and_true, ← Bool.not_eq_true]
          intro hsk
          obtain ⟨t, z1, z2⟩ := groupOf_s hP (L := L) (fun q hq c hc => by rw [hL q hq] at hc; exact setF_sub _ hP c hc) (p := k) (by omega)
          exact q ⟨k, hki, t, z2, Good_sym hsym x2 z2 hsk⟩
        · rw [decide_eq_false hki, Bool.and_false]
    cases hb : bt x i
    · rw [if_pos (show bI false = 0 from rfl), if_pos (hiff.mpr hb), nI_1]
      refine ih m m' (i + 1) (c + 1) (x ||| s) (by omega) (by omega) (by omega) (fun k hk => ?_)
      rw [bt_or, Bool.or_eq_true, hx k hk]
      constructor
      · rintro (⟨p, hp, t, t1, t2⟩ | q)
        · exact ⟨p, by omega, t, t1, t2⟩
        · exact ⟨i, by omega, s, x2, q⟩
      · rintro ⟨p, hp, t, t1, t2⟩
        by_cases ep : p = i
        · subst ep; rw [Good_uniq t1 x2] at t2; exact Or.inr t2
        · exact Or.inl ⟨p, by omega, t, t1, t2⟩
    · rw [if_neg (show ¬ bI true = 0 by decide), if_neg (fun q => by rw [hiff.mp q] at hb; cases hb), Int32.add_zero, nI_1]
      refine ih m m' (i + 1) c x (by omega) (by omega) (by omega) (fun k hk => ?_)
      rw [hx k hk]
      constructor
      · rintro ⟨p, hp, t, t1, t2⟩
        exact ⟨p, by omega, t, t1, t2⟩
      · rintro ⟨p, hp, t, t1, t2⟩
        by_cases ep : p = i
        · subst ep
          obtain ⟨p', hp', t', u1, u2⟩ := (hx p hiP).mp hb
          refine ⟨p', hp', t', u1, ?_⟩
          exact t1.2.2.2 t' u2 u1.2.2.1 k t2
        · exact ⟨p, by omega, t, t1, t2⟩
theorem rf_st13 {j : Nat} : rf_step_13 (rf_Inv j) (rf_Inv (j + 1)) := by
  rintro I J A B I' A' v1 ⟨W, P, G, na, ni, h⟩
  have ht := h.tale
  have hP := ht.P8
  unfold f_X10_classes f_X11_classes
  rw [ht.hpc, ht.hwc, hasFerryX_s (by omega), isHourX_s, h.hasb]
  simp only [pb_bind, refused_s, f_X11_good, whyM_s, f_X11_no]
  by_cases hab : decide (0 < P) = true ∧ gd 24 v1 = true
  · rw [hab.1, hab.2]
    obtain ⟨k, hk, rfl⟩ := gd_of (by decide) hab.2
    have hE := h.ears (of_decide_eq_true hab.1)
    have e1 := hE.lo k hk
    have e2 := hE.hi k hk
    obtain ⟨L', l1, l2⟩ := link_s h.cx e1 (by omega) (A 3)
    have l3 : ∀ q, q < P → L' q = setF (metb W (A' 2) (A 1) (A 14) q (A 1 q) (nI 0) (earE (I 21) (A 18) k)) P := fun q hq => bt_ext (fun c _ => l2 q hq c)
    have hsym : ∀ a b, a < P → b < P → bt (L' a) b = true → bt (L' b) a = true := by
      intro a b ha hb hab
      rw [l3 a ha, bt_setF _ P (by omega), decide_eq_true hb, Bool.true_and] at hab
      rw [l3 b hb, bt_setF _ P (by omega), decide_eq_true ha, Bool.true_and]
      unfold metb at hab ⊢
      rw [or_nI0] at hab ⊢
      rw [Bool.and_eq_true, Bool.not_eq_true'] at hab ⊢
      refine ⟨decide_eq_false (fun q => (of_decide_eq_false hab.1) q.symm), ?_⟩
      rw [FulB_sym h.cx.ws ht.als]
      exact hab.2
    obtain ⟨v, x1, x2⟩ := classes_l h.cx e1 (by omega) (hE.M k hk) l3 hsym (bI true) P rf_fu rf_fu 0 0 0 (by omega) (by show P < 4096; omega) (by show P < 4096; omega) (fun k hk => by
      rw [bt_0]
      constructor
      · intro q; cases q
      · rintro ⟨p, hp, _⟩; omega)
    rw [hE.X k hk]
    simp only [pb_bind]
    rw [l1]
    simp only [pb_bind]
    unfold f_X6_groupCount
    rw [show f_X6_groupCount_6 (nI P) L' rf_fu 0 0 0 = _ from x1]
    refine ⟨_, (v, 0, 0), rfl, ?_, rfl, h.quiet (h.fault.tell (u := 0) (by decide)) rfl rfl rfl rfl⟩
    rw [if_pos (show whyN true true = 0 from rfl)]
    exact x2
  · obtain ⟨c1, c2, c3⟩ := whyN_no hab
    rw [if_neg c1, if_neg c2]
    exact ⟨_, _, rfl, rfl, rfl, h.quiet (h.fault.tell c3) rfl rfl rfl rfl⟩
