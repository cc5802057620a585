/-! letters in one number -/
theorem shr_s {n k : Nat} (hn : n < 2 ^ 63) (hk : k < 64) : ((Int64.ofNat n).toUInt64 >>> UInt64.ofNat k).toInt64 = Int64.ofNat (n / 2 ^ k) := by
  have h1 : (Int64.ofNat n).toUInt64 = UInt64.ofNat n := rfl
  have h2 : UInt64.ofNat n >>> UInt64.ofNat k = UInt64.ofNat (n / 2 ^ k) := by
    apply UInt64.toNat_inj.mp
    have hk2 : n / 2 ^ k ≤ n := Nat.div_le_self _ _
    rw [UInt64.toNat_shiftRight, UInt64.toNat_ofNat', UInt64.toNat_ofNat', UInt64.toNat_ofNat', Nat.mod_eq_of_lt (a := n) (by show n < 2 ^ 64; omega), Nat.mod_eq_of_lt (a := k) (by show k < 2 ^ 64; omega), Nat.mod_eq_of_lt hk, Nat.shiftRight_eq_div_pow, Nat.mod_eq_of_lt (by show _ < 2 ^ 64; omega)]
  rw [h1, h2]
  rfl
theorem sh5 : (Int32.toInt64 5).toUInt64 &&& Int64.toUInt64 63 = UInt64.ofNat 5 := by decide
theorem sh5k {k : Nat} (hk : k < 9) : (Int32.toInt64 ((5 : Int32) * nI k)).toUInt64 &&& Int64.toUInt64 63 = UInt64.ofNat (5 * k) := by
  have : ∀ k : Fin 9, (Int32.toInt64 ((5 : Int32) * nI k.1)).toUInt64 &&& Int64.toUInt64 63 = UInt64.ofNat (5 * k.1) := by decide +kernel
  exact this ⟨k, hk⟩
theorem and31_s {n : Nat} : Int64.toInt32 (Int64.ofNat n &&& 31) = nI (n % 32) := by
  apply Int32.toBitVec_inj.mp
  rw [Int64.toBitVec_toInt32, Int64.toBitVec_and]
  unfold nI
  rw [Int32.toBitVec_ofNat', Int64.toBitVec_ofNat']
  apply BitVec.eq_of_toNat_eq
  rw [BitVec.signExtend_eq_setWidth_of_le _ (by decide), BitVec.toNat_setWidth, BitVec.toNat_and, BitVec.toNat_ofNat, BitVec.toNat_ofNat]
  rw [show (Int64.toBitVec 31).toNat = 2 ^ 5 - 1 from rfl, Nat.and_two_pow_sub_one_eq_mod]
  omega
theorem lg0 {n : Nat} (hn : n < 2 ^ 63) : (lg_cmp (Int64.ofNat n) 0 = 0) ↔ n = 0 := by
  rw [lg_cmp_eq]
  constructor
  · intro h
    have := congrArg Int64.toInt h
    rw [Int64.toInt_ofNat_of_lt hn] at this
    have h2 : (0 : Int64).toInt = 0 := by decide
    omega
  · rintro rfl; rfl
theorem pkN_lt {f : Nat → Nat} : ∀ n, (∀ k, k < n → f k ≤ 31) → pkN f n < 32 ^ n := by
  intro n
  induction n with
  | zero => intro _; show 0 < 1; omega
  | succ n ih =>
    intro h
    have := ih (fun k hk => h k (by omega))
    have h2 := h n (by omega)
    rw [pkN, Nat.pow_succ]
    omega
theorem pkN_div {f : Nat → Nat} {n : Nat} (h : f n ≤ 31) : pkN f (n + 1) / 32 = pkN f n := by rw [pkN]; omega
theorem pkN_mod {f : Nat → Nat} {n : Nat} (h : f n ≤ 31) : pkN f (n + 1) % 32 = f n := by rw [pkN]; omega
theorem pkN_0 {f : Nat → Nat} {n : Nat} (h : ∀ k, k < n → 1 ≤ f k) : pkN f n = 0 ↔ n = 0 := by
  cases n with
  | zero => exact ⟨fun _ => rfl, fun _ => rfl⟩
  | succ n =>
    have := h n (by omega)
    rw [pkN]
    constructor
    · intro q; omega
    · intro q; omega
theorem pkN_63 {f : Nat → Nat} {n : Nat} (hn : n ≤ 8) (h : ∀ k, k < n → f k ≤ 31) : pkN f n < 2 ^ 63 :=
  Nat.lt_of_lt_of_le (pkN_lt n h) (Nat.le_trans (Nat.pow_le_pow_right (by decide) hn) (by decide))
theorem common_l {names sounds : Nat → Int64} {al : Nat → Int32} {f g : Nat → Nat} {N M : Nat} (hN : N ≤ 8) (hM : M ≤ 8) (hf : ∀ k, k < N → 1 ≤ f k ∧ f k ≤ 26) (hg : ∀ k, k < M → 1 ≤ g k ∧ g k ≤ 26) {md : Nat} {t : Nat → Nat → Bool} (htt : ∀ a, t a a = true)
    (hmd : ∀ k, k < min N M → f (N - 1 - k) ≠ g (M - 1 - k) → (md = 1 ∧ t (f (N - 1 - k)) (g (M - 1 - k)) = false) ∨ (md = 0 ∧ f_X9_isAlike al (nI (f (N - 1 - k))) (nI (g (M - 1 - k))) = some (bI (t (f (N - 1 - k)) (g (M - 1 - k)))))) : ∀ d n i : Nat, i + d = min N M → d < n →
    f_X9_common_45 names sounds al n (nI md) (Int64.ofNat (pkN f (N - i))) (Int64.ofNat (pkN g (M - i))) (nI i) = some (nI (rf_run (fun k => t (f (N - 1 - k)) (g (M - 1 - k))) d i)) := by
  intro d
  induction d with
  | zero =>
    intro n i hi hn
    obtain ⟨m, rfl, hm⟩ := fuel_succ hn
    rw [f_X9_common_45, f_X9_common_128, rf_run]
    by_cases h8 : 8 ≤ i
    · rw [if_pos (by simp (disch := omega) only [pb_lits, pb_ltT, pb_ltF, pb_leT, pb_leF, pb_eqT, pb_eqF, pb_lt, pb_le, pb_eq, pb_add, pb_mul, pb_sub, pb_cl, pb_ibt, pb_eqm, pb_meq, pb_ltm, pb_mlt, pb_lem, pb_mle, ite_true, ite_false, reduceIte, not_true_eq_false, not_false_eq_true, pb_bind, Nat.zero_add, Nat.add_zero])]
    · rw [if_neg (by simp (disch := omega) only [pb_lits, pb_ltT, pb_ltF, pb_leT, pb_leF, pb_eqT, pb_eqF, pb_lt, pb_le, pb_eq, pb_add, pb_mul, pb_sub, pb_cl, pb_ibt, pb_eqm, pb_meq, pb_ltm, pb_mlt, pb_lem, pb_mle, ite_true, ite_false, reduceIte, not_true_eq_false, not_false_eq_true, pb_bind, Nat.zero_add, Nat.add_zero])]
      by_cases h1 : N ≤ i
      · rw [if_pos (by rw [show N - i = 0 by omega]; show lg_cmp (Int64.ofNat 0) 0 = 0; decide)]
      · rw [show M - i = 0 by omega]
        rw [if_pos (c := lg_cmp (Int64.ofNat (pkN g 0)) 0 = 0) (by show lg_cmp (Int64.ofNat 0) 0 = 0; decide), ite_self]
  | succ d ih =>
    intro n i hi hn
    obtain ⟨m, rfl, hm⟩ := fuel_succ hn
    have ih' := ih m (i + 1) (by omega) (by omega)
    have hf1 := hf (N - 1 - i) (by omega)
    have hg1 := hg (M - 1 - i) (by omega)
    have kf : ∀ c, c ≤ N → pkN f c < 2 ^ 63 := fun c hc => pkN_63 (by omega) (fun k hk => by have := (hf k (by omega)).2; omega)
    have kg : ∀ c, c ≤ M → pkN g c < 2 ^ 63 := fun c hc => pkN_63 (by omega) (fun k hk => by have := (hg k (by omega)).2; omega)
    have eN : N - i = N - 1 - i + 1 := by omega
    have eM : M - i = M - 1 - i + 1 := by omega
    have df := pkN_div (f := f) (n := N - 1 - i) (by omega)
    have dg := pkN_div (f := g) (n := M - 1 - i) (by omega)
    have mf := pkN_mod (f := f) (n := N - 1 - i) (by omega)
    have mg := pkN_mod (f := g) (n := M - 1 - i) (by omega)
    have zf : ¬ pkN f (N - i) = 0 := by rw [pkN_0 (fun k hk => (hf k (by omega)).1)]; omega
    have zg : ¬ pkN g (M - i) = 0 := by rw [pkN_0 (fun k hk => (hg k (by omega)).1)]; omega
    have kf1 := kf (N - i) (by omega)
    have kg1 := kg (M - i) (by omega)
    rw [f_X9_common_45, if_neg (show ¬ (8 : Int32) ≤ nI i by simp (disch := omega) only [pb_lits, pb_ltT, pb_ltF, pb_leT, pb_leF, pb_eqT, pb_eqF, pb_lt, pb_le, pb_eq, pb_add, pb_mul, pb_sub, pb_cl, pb_ibt, pb_eqm, pb_meq, pb_ltm, pb_mlt, pb_lem, pb_mle, ite_true, ite_false, reduceIte, not_true_eq_false, not_false_eq_true, pb_bind, Nat.zero_add, Nat.add_zero]), if_neg (fun q => zf ((lg0 kf1).mp q)), if_neg (fun q => zg ((lg0 kg1).mp q))]
    simp only [f_X9_common_110, f_X9_common_107]
    rw [sh5, shr_s kf1 (by decide), shr_s kg1 (by decide), and31_s, and31_s, eN, eM, show (2 : Nat) ^ 5 = 32 from rfl, df, dg, mf, mg, nI_1, rf_run]
    rw [show N - (i + 1) = N - 1 - i by omega, show M - (i + 1) = M - 1 - i by omega] at ih'
    have hm' := hmd i (by omega)
    generalize f (N - 1 - i) = x at *
    generalize g (M - 1 - i) = y at *
    by_cases hxy : x = y
    · subst hxy
      rw [if_pos rfl, htt x, if_pos rfl]
      exact ih'
    · rw [if_neg (by simp (disch := omega) only [pb_lits, pb_ltT, pb_ltF, pb_leT, pb_leF, pb_eqT, pb_eqF, pb_lt, pb_le, pb_eq, pb_add, pb_mul, pb_sub, pb_cl, pb_ibt, pb_eqm, pb_meq, pb_ltm, pb_mlt, pb_lem, pb_mle, ite_true, ite_false, reduceIte, not_true_eq_false, not_false_eq_true, pb_bind, Nat.zero_add, Nat.add_zero])]
      rcases hm' hxy with ⟨e1, e2⟩ | ⟨e1, e2⟩
      · subst e1
        rw [if_pos (show nI 1 = 1 from rfl), e2, if_neg (by decide)]
      · subst e1
        rw [if_neg (show ¬ nI 0 = 1 by decide), e2, pb_bind]
        cases t x y
        · rfl
        · exact ih'
theorem isAlike_s {al r : Nat → Int32} (hal : ∀ a b, a < 8 → b < 8 → bt (al (a + 1)) (b + 1) = bt (r (121 + a)) b) {a b : Nat} (ha : 1 ≤ a ∧ a ≤ 8) (hb : 1 ≤ b ∧ b ≤ 8) (hab : a ≠ b) : f_X9_isAlike al (nI a) (nI b) = some (bI (alk r a b)) := by
  unfold f_X9_isAlike f_X9_isAlike_21
  have h1 := hal (a - 1) (b - 1) (by omega) (by omega)
  rw [show a - 1 + 1 = a by omega, show b - 1 + 1 = b by omega] at h1
  have h2 : alk r a b = bt (r (121 + (a - 1))) (b - 1) := by unfold alk; simp [hab]
  rw [h2, ← h1]
  simp (disch := omega) only [pb_lits, pb_ltT, pb_ltF, pb_leT, pb_leF, pb_eqT, pb_eqF, pb_lt, pb_le, pb_eq, pb_add, pb_mul, pb_sub, pb_cl, pb_ibt, pb_eqm, pb_meq, pb_ltm, pb_mlt, pb_lem, pb_mle, ite_true, ite_false, reduceIte, not_true_eq_false, not_false_eq_true, pb_bind, Nat.zero_add, Nat.add_zero, pb_s31, holdsX_s]
  cases bt (al a) b <;> rfl
theorem sound_b {r : Nat → Int32} {W w : Nat} {a : Int64} {b : Int64} {c : Int32} (h : pWord r W w a b c) : ∀ k, k < sN r w → 1 ≤ sL r w k ∧ sL r w k ≤ 8 := fun k hk => ⟨Nat.le_add_left 1 _, (h.sl k hk).1⟩
theorem common0_s {W : Nat} {r al : Nat → Int32} {names sounds : Nat → Int64} {prices : Nat → Int32} (hW : W ≤ 10) (hw : ∀ w, w < W → pWord r W w (names w) (sounds w) (prices w)) (hal : ∀ a b, a < 8 → b < 8 → bt (al (a + 1)) (b + 1) = bt (r (121 + a)) b) {w u : Nat} (h1 : w < W) (h2 : u < W) : f_X9_common names sounds al 0 (nI w) (nI u) = some (nI (lkN r w u)) := by
  have a := hw w h1
  have b := hw u h2
  have a2 := a.s2
  have b2 := b.s2
  have fa := sound_b a
  have fb := sound_b b
  have := common_l (names := names) (sounds := sounds) (al := al) (f := sL r w) (g := sL r u) (N := sN r w) (M := sN r u) (by omega) (by omega) (fun k hk => ⟨(fa k hk).1, by have := (fa k hk).2; omega⟩) (fun k hk => ⟨(fb k hk).1, by have := (fb k hk).2; omega⟩) (md := 0) (t := alk r) (fun a => by unfold alk; simp)
    (fun k hk hne => Or.inr ⟨rfl, isAlike_s hal (fa _ (by omega)) (fb _ (by omega)) hne⟩) (min (sN r w) (sN r u)) rf_fu 0 (by omega) (by show _ < 4096; omega)
  unfold f_X9_common f_X9_common_19 f_X9_common_40
  rw [if_pos rfl, if_pos rfl, if_pos (pb_ibt (by omega) (by omega)), if_pos (pb_ibt (by omega) (by omega)), nI_clamp (by omega), nI_clamp (by omega), a.sp, b.sp]
  exact this
theorem common1_s {W : Nat} {r al : Nat → Int32} {names sounds : Nat → Int64} {prices : Nat → Int32} (hW : W ≤ 10) (hw : ∀ w, w < W → pWord r W w (names w) (sounds w) (prices w)) {w u : Nat} (h1 : w < W) (h2 : u < W) : f_X9_common names sounds al 1 (nI w) (nI u) = some (nI (eyN r w u)) := by
  have a := hw w h1
  have b := hw u h2
  have a2 := a.n2
  have b2 := b.n2
  have fa := a.nl
  have fb := b.nl
  have := common_l (names := names) (sounds := sounds) (al := al) (f := nL r w) (g := nL r u) (N := nN r w) (M := nN r u) (by omega) (by omega) (fun k hk => ⟨(fa k hk).1, (fa k hk).2.1⟩) (fun k hk => ⟨(fb k hk).1, (fb k hk).2.1⟩) (md := 1) (t := fun a b => a == b) (fun a => by simp)
    (fun k hk hne => Or.inl ⟨rfl, by simp [hne]⟩) (min (nN r w) (nN r u)) rf_fu 0 (by omega) (by show _ < 4096; omega)
  unfold f_X9_common f_X9_common_19 f_X9_common_40
  rw [if_neg (show ¬ (1 : Int32) = 0 by decide), if_pos (pb_ibt (by omega) (by omega)), if_neg (show ¬ (1 : Int32) = 0 by decide), if_pos (pb_ibt (by omega) (by omega)), nI_clamp (by omega), nI_clamp (by omega), a.np, b.np]
  exact this
theorem rf_st5 {j : Nat} : rf_step_5 (rf_Inv j) (rf_Inv (j + 1)) := by
  rintro I J A B I' A' v1 v2 ⟨W, P, G, na, ni, h⟩
  have ht := h.tale
  have hW := ht.W10
  have hX : f_X10_like (I 23) (B 0) (B 1) (A 17) (I 3) v1 v2 = f_X10_like_22 (nI W) (B 0) (B 1) (A 17) v1 v2 (bI (gd W v1 && gd W v2)) (I 3) := by
    unfold f_X10_like f_X10_like_21
    rw [ht.hwc, isWordX_s, isWordX_s]
    cases gd W v1 <;> cases gd W v2 <;> rfl
  have hM : f_X11_like (I' 12) (A' 2) (I' 0) (I' 10) v1 v2 = if bI (gd W v1 && gd W v2) = 0 then some (-1, 0, 1) else (f_X11_likeOf (A' 2) v1 v2).bind fun z => some (z, 0, 0) := by
    unfold f_X11_like f_X11_like_29
    rw [isWordM_s h.hasb (fun e => (h.none e).1) ht.hwc' (by omega), isWordM_s h.hasb (fun e => (h.none e).1) ht.hwc' (by omega)]
    cases gd W v1 <;> cases gd W v2 <;> rfl
  rw [hX, hM]
  unfold f_X10_like_22
  simp only [pb_bind, refused1_s]
  refine h.g1 _ _ _ rfl rfl (fun ha => ?_)
  rw [Bool.and_eq_true] at ha
  obtain ⟨w, hw, rfl⟩ := gd_of (by omega) ha.1
  obtain ⟨u, hu, rfl⟩ := gd_of (by omega) ha.2
  rw [common0_s hW ht.words ht.al hw hu, likeOf_s h.cx.ws hw hu]
  exact ⟨_, rfl, rfl⟩
theorem rf_st6 {j : Nat} : rf_step_6 (rf_Inv j) (rf_Inv (j + 1)) := by
  rintro I J A B I' A' v1 v2 ⟨W, P, G, na, ni, h⟩
  have ht := h.tale
  have hW := ht.W10
  have hX : f_X10_eye (I 23) (B 0) (B 1) (A 17) (I 3) v1 v2 = f_X10_eye_22 (nI W) (B 0) (B 1) (A 17) v1 v2 (bI (gd W v1 && gd W v2)) (I 3) := by
    unfold f_X10_eye f_X10_eye_21
    rw [ht.hwc, isWordX_s, isWordX_s]
    cases gd W v1 <;> cases gd W v2 <;> rfl
  have hM : f_X11_eye (I' 12) (A' 2) (I' 0) (I' 10) v1 v2 = if bI (gd W v1 && gd W v2) = 0 then some (-1, 0, 1) else (f_X11_eyeOf (A' 2) v1 v2).bind fun z => some (z, 0, 0) := by
    unfold f_X11_eye f_X11_eye_29
    rw [isWordM_s h.hasb (fun e => (h.none e).1) ht.hwc' (by omega), isWordM_s h.hasb (fun e => (h.none e).1) ht.hwc' (by omega)]
    cases gd W v1 <;> cases gd W v2 <;> rfl
  rw [hX, hM]
  unfold f_X10_eye_22
  simp only [pb_bind, refused1_s]
  refine h.g1 _ _ _ rfl rfl (fun ha => ?_)
  rw [Bool.and_eq_true] at ha
  obtain ⟨w, hw, rfl⟩ := gd_of (by omega) ha.1
  obtain ⟨u, hu, rfl⟩ := gd_of (by omega) ha.2
  rw [common1_s hW ht.words hw hu, eyeOf_s h.cx.ws hw hu]
  exact ⟨_, rfl, rfl⟩
