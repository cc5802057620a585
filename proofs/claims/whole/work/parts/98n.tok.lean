/-! tokens -/
theorem neg255 : ∀ j : Fin 129, 0 < j.1 → (- nI j.1) &&& 255 = nI (256 - j.1) := by decide +kernel
theorem byt_s {x : Int32} (h1 : -128 ≤ x) (h2 : x ≤ 127) : ∃ c, c < 256 ∧ x &&& 255 = nI c ∧ ((c < 128 ∧ x = nI c) ∨ (128 ≤ c ∧ x < 0)) := by
  by_cases h0 : 0 ≤ x
  · obtain ⟨j, hj, rfl⟩ := pb_ofle (n := 127) (by decide) h0 h2
    exact ⟨j, by omega, and255 (by omega), Or.inl ⟨by omega, rfl⟩⟩
  · have hlt : x < 0 := Int32.not_le.mp h0
    have t1 := Int32.le_iff_toInt_le.mp h1
    have t2 := Int32.lt_iff_toInt_lt.mp hlt
    rw [show (-128 : Int32).toInt = -128 by decide] at t1
    rw [show (0 : Int32).toInt = 0 by decide] at t2
    obtain ⟨j, hj1, hj2, hx⟩ : ∃ j : Nat, 0 < j ∧ j ≤ 128 ∧ x = - nI j := ⟨(-x.toInt).toNat, by omega, by omega, by
      apply Int32.toInt_inj.mp
      rw [pb_mI (by omega)]; omega⟩
    subst hx
    exact ⟨256 - j, by omega, neg255 ⟨j, by omega⟩ hj1, Or.inr ⟨by omega, hlt⟩⟩
/-- the class's and the reference's bytes -/
def tpR (x m : Nat → Int32) (cB : Nat → Nat) : Prop := ∀ k, cB k < 256 ∧ m k = nI (cB k) ∧ ((cB k < 128 ∧ x k = nI (cB k)) ∨ (128 ≤ cB k ∧ x k < 0))
theorem tpR_of {n n' : Int32} {x m : Nat → Int32} (h : pTape n x n' m) : tpR x m (fun k => (m k).toNatClampNeg) := by
  intro k
  obtain ⟨a, b, c⟩ := h.2.2.2 k
  obtain ⟨d, d1, d2, d3⟩ := byt_s a b
  show (m k).toNatClampNeg < 256 ∧ m k = nI (m k).toNatClampNeg ∧ (((m k).toNatClampNeg < 128 ∧ x k = nI (m k).toNatClampNeg) ∨ (128 ≤ (m k).toNatClampNeg ∧ x k < 0))
  rw [c, d2, nI_clamp (by omega)]
  exact ⟨d1, rfl, d3⟩
theorem xlt {x : Int32} {c t : Nat} (h : (c < 128 ∧ x = nI c) ∨ (128 ≤ c ∧ x < 0)) (ht : t < 128) : (x < nI t) ↔ (c < t ∨ 128 ≤ c) := by
  rcases h with ⟨h1, rfl⟩ | ⟨h1, h2⟩
  · rw [pb_lt (by omega) (by omega)]
    omega
  · refine ⟨fun _ => Or.inr h1, fun _ => ?_⟩
    have t1 := Int32.lt_iff_toInt_lt.mp h2
    apply Int32.lt_iff_toInt_lt.mpr
    rw [nI_toInt (by omega)]
    rw [show (0 : Int32).toInt = 0 by decide] at t1
    omega
theorem xgt {x : Int32} {c t : Nat} (h : (c < 128 ∧ x = nI c) ∨ (128 ≤ c ∧ x < 0)) (ht : t < 128) : (nI t < x) ↔ (t < c ∧ c < 128) := by
  rcases h with ⟨h1, rfl⟩ | ⟨h1, h2⟩
  · rw [pb_lt (by omega) (by omega)]
    omega
  · refine ⟨fun h => ?_, fun h => by omega⟩
    have t1 := Int32.lt_iff_toInt_lt.mp h2
    have t2 := Int32.lt_iff_toInt_lt.mp h
    rw [nI_toInt (by omega)] at t2
    rw [show (0 : Int32).toInt = 0 by decide] at t1
    omega
theorem xeq {x : Int32} {c t : Nat} (h : (c < 128 ∧ x = nI c) ∨ (128 ≤ c ∧ x < 0)) (ht : t < 128) : (x = nI t) ↔ c = t := by
  rcases h with ⟨h1, rfl⟩ | ⟨h1, h2⟩
  · rw [pb_eq (by omega) (by omega)]
  · refine ⟨fun h => ?_, fun h => by omega⟩
    have t1 := Int32.lt_iff_toInt_lt.mp h2
    rw [h, nI_toInt (by omega), show (0 : Int32).toInt = 0 by decide] at t1
    omega
def smB (c : Nat) : Bool := decide (97 ≤ c ∧ c ≤ 122)
def dgB (c : Nat) : Bool := decide (48 ≤ c ∧ c ≤ 57)
theorem isSmallM {c : Nat} (h : c < 256) : f_X11_isSmall (nI c) = some (bI (smB c)) := by
  unfold f_X11_isSmall f_X11_isSmall_16 smB
  by_cases h1 : c < 97
  · rw [if_pos (show nI c < 97 from nI_lt (b := 97) h1 (by decide)), decide_eq_false (by omega)]; rfl
  · rw [if_neg (show ¬ nI c < 97 from nI_nlt (b := 97) (by omega) (by omega))]
    by_cases h2 : 122 < c
    · rw [if_pos (show 122 < nI c from nI_lt (a := 122) h2 (by omega)), decide_eq_false (by omega)]; rfl
    · rw [if_neg (show ¬ 122 < nI c from nI_nlt (a := 122) (by omega) (by decide)), decide_eq_true (by omega)]; rfl
theorem isDigitM {c : Nat} (h : c < 256) : f_X11_isDigit (nI c) = some (bI (dgB c)) := by
  unfold f_X11_isDigit f_X11_isDigit_16 dgB
  by_cases h1 : c < 48
  · rw [if_pos (show nI c < 48 from nI_lt (b := 48) h1 (by decide)), decide_eq_false (by omega)]; rfl
  · rw [if_neg (show ¬ nI c < 48 from nI_nlt (b := 48) (by omega) (by omega))]
    by_cases h2 : 57 < c
    · rw [if_pos (show 57 < nI c from nI_lt (a := 57) h2 (by omega)), decide_eq_false (by omega)]; rfl
    · rw [if_neg (show ¬ 57 < nI c from nI_nlt (a := 57) (by omega) (by decide)), decide_eq_true (by omega)]; rfl
theorem lookM {n i : Nat} (hn : n ≤ 900) {m : Nat → Int32} (h : i < n) : f_X11_look (nI n) m (nI i) = some (m i) := by
  unfold f_X11_look
  rw [if_neg (nI_ge h (by omega)), if_pos (pb_ibt (by omega) (by omega)), nI_clamp (by omega)]
theorem lookM_e {n : Nat} (hn : n ≤ 900) {m : Nat → Int32} : f_X11_look (nI n) m (nI n) = some (-1) := by
  unfold f_X11_look
  rw [if_pos (nI_le (Nat.le_refl _) (by omega))]
theorem i64_of {k : Nat} (h : k < 2 ^ 31) : Int32.toInt64 (nI k) = Int64.ofNat k := by
  apply Int64.toInt_inj.mp
  rw [Int32.toInt_toInt64, nI_toInt h, Int64.toInt_ofNat_of_lt (by omega)]
theorem shl5 (p : Nat) : Int64.ofNat p <<< ((Int32.toInt64 5) &&& 63) = Int64.ofNat (p * 32) := by
  rw [show (Int32.toInt64 5) &&& 63 = (5 : Int64) by decide]
  apply Int64.toBitVec_inj.mp
  rw [Int64.toBitVec_shiftLeft, show (5 : Int64).toBitVec.smod 64 = BitVec.ofNat 64 5 by decide, Int64.toBitVec_ofNat', Int64.toBitVec_ofNat']
  apply BitVec.eq_of_toNat_eq
  rw [BitVec.shiftLeft_eq', BitVec.toNat_shiftLeft, BitVec.toNat_ofNat, BitVec.toNat_ofNat, BitVec.toNat_ofNat, Nat.shiftLeft_eq]
  rw [show (5 % 2 ^ 64 : Nat) = 5 from rfl, show (2 ^ 5 : Nat) = 32 from rfl, Nat.mod_mul_mod]
theorem pk_next {p c : Nat} (h1 : 97 ≤ c) (h2 : c ≤ 122) : (Int64.ofNat p <<< ((Int32.toInt64 5) &&& 63)) + (Int32.toInt64 ((nI c - 97) + 1)) = Int64.ofNat (p * 32 + (c - 96)) := by
  rw [shl5, show (97 : Int32) = nI 97 from rfl, pb_sub (by omega), nI_1, i64_of (by omega), ← Int64.ofNat_add, show c - 97 + 1 = c - 96 by omega]
/-- letters that stand together -/
theorem let_l {n a : Nat} (hn : n ≤ 900) {x m : Nat → Int32} {cB : Nat → Nat} (hT : tpR x m cB) (so le at_ en to wm : Int32) : ∀ d fx fm i : Nat, ∀ (lt : Int64) (la : Nat → Int32), i + d = n → a ≤ i → d < fx → d < fm → (∀ j, a ≤ j → j < i → smB (cB j) = true) → (i - a ≤ 8 → lt = Int64.ofNat (pkN (fun j => cB (a + j) - 96) (i - a))) → (∀ j, j < i - a → j < 8 → la j = nI (cB (a + j))) →
    ∃ b lt' la', f_X5_lookAtLetters_5 (nI n) (nI a) x fx (nI i) so le lt = some (nI b, nI (if b - a ≤ 8 then 1 else 4), nI (b - a), lt') ∧ f_X11_next_67 (nI n) m fm (nI i) at_ en to wm (nI (i - a)) la = some (at_, nI b, nI (if b - a ≤ 8 then 2 else 1), wm, nI (b - a), la') ∧ i ≤ b ∧ b ≤ n ∧ (i < n → smB (cB i) = true → i < b) ∧ (∀ j, a ≤ j → j < b → smB (cB j) = true) ∧ (b - a ≤ 8 → lt' = Int64.ofNat (pkN (fun j => cB (a + j) - 96) (b - a))) ∧ (∀ j, j < b - a → j < 8 → la' j = nI (cB (a + j))) := by
  intro d
  have stopX : ∀ (i : Nat) (lt : Int64), a ≤ i → i ≤ 900 → f_X5_lookAtLetters_83 (nI n) (nI a) x (nI i) so le lt = some (nI i, nI (if i - a ≤ 8 then 1 else 4), nI (i - a), lt) := by
    intro i lt h1 h2
    unfold f_X5_lookAtLetters_83 f_X5_lookAtLetters_111
    rw [pb_sub h1]
    by_cases h8 : i - a ≤ 8
    · rw [if_neg (show ¬ (8 : Int32) < nI (i - a) from nI_nlt (a := 8) h8 (by decide)), if_pos h8]; rfl
    · rw [if_pos (show (8 : Int32) < nI (i - a) from nI_lt (a := 8) (by omega) (by omega)), if_neg h8]; rfl
  have stopM : ∀ (i : Nat) (la : Nat → Int32), a ≤ i → i ≤ 900 → (if nI (i - a) ≤ 8 then f_X11_next_137 (nI n) m 2 at_ (nI i) to wm (nI (i - a)) la else f_X11_next_137 (nI n) m 1 at_ (nI i) to wm (nI (i - a)) la) = some (at_, nI i, nI (if i - a ≤ 8 then 2 else 1), wm, nI (i - a), la) := by
    intro i la h1 h2
    simp only [f_X11_next_137]
    by_cases h8 : i - a ≤ 8
    · rw [if_pos (show nI (i - a) ≤ (8 : Int32) from nI_le (b := 8) h8 (by decide)), if_pos h8]; rfl
    · rw [if_neg (show ¬ nI (i - a) ≤ (8 : Int32) from nI_ge (a := 8) (by omega) (by omega)), if_neg h8]; rfl
  induction d with
  | zero =>
    intro fx fm i lt la hi hai hfx hfm hs hlt hla
    obtain ⟨fx', rfl, _⟩ := fuel_succ hfx
    obtain ⟨fm', rfl, _⟩ := fuel_succ hfm
    obtain rfl : i = n := by omega
    refine ⟨i, lt, la, ?_, ?_, Nat.le_refl _, Nat.le_refl _, fun h => by omega, hs, hlt, hla⟩
    · rw [f_X5_lookAtLetters_5, if_pos (nI_le (Nat.le_refl _) (by omega))]
      exact stopX i lt hai hn
    · rw [f_X11_next_67, lookM_e hn, pb_bind, show f_X11_isSmall (-1) = some 0 by decide, pb_bind, if_pos rfl]
      exact stopM i la hai hn
  | succ d ih =>
    intro fx fm i lt la hi hai hfx hfm hs hlt hla
    obtain ⟨fx', rfl, _⟩ := fuel_succ hfx
    obtain ⟨fm', rfl, _⟩ := fuel_succ hfm
    obtain ⟨c1, c2, c3⟩ := hT i
    have hib : rf_ib (nI i) 900 = true := pb_ibt (by omega) (by omega)
    rw [f_X5_lookAtLetters_5, if_neg (nI_ge (by omega) (by omega)), f_X11_next_67, lookM hn (by omega), c2, pb_bind, isSmallM c1, pb_bind, if_pos hib, nI_clamp (by omega)]
    cases hsm : smB (cB i)
    · refine ⟨i, lt, la, ?_, ?_, Nat.le_refl _, by omega, (fun _ h => by cases h), hs, hlt, hla⟩
      · rw [stopX i lt hai (by omega)]
        have hc := of_decide_eq_false hsm
        by_cases h1 : x i < 97
        · rw [if_pos h1]
        · rw [if_neg h1, if_pos hib, if_pos (show (122 : Int32) < x i from (xgt (t := 122) c3 (by decide)).mpr (by
            have h1' : ¬ (cB i < 97 ∨ 128 ≤ cB i) := fun z => h1 ((xlt (t := 97) c3 (by decide)).mpr z)
            omega))]
      · rw [if_pos (show bI false = 0 from rfl)]
        exact stopM i la hai (by omega)
    · have hc := of_decide_eq_true hsm
      have hx : x i = nI (cB i) := by
        rcases c3 with c3 | c3
        · exact c3.2
        · omega
      rw [if_neg (show ¬ x i < 97 from fun z => by have := (xlt (t := 97) c3 (by decide)).mp z; omega), if_pos hib, if_neg (show ¬ (122 : Int32) < x i from fun z => by have := (xgt (t := 122) c3 (by decide)).mp z; omega), if_pos hib, if_neg (show ¬ bI true = 0 by decide)]
      simp only [f_X11_next_101]
      rw [nI_1, nI_1, show i - a + 1 = i + 1 - a by omega]
      have hs' : ∀ j, a ≤ j → j < i + 1 → smB (cB j) = true := fun j h1 h2 => by
        by_cases e : j = i
        · rw [e]; exact hsm
        · exact hs j h1 (by omega)
      have hlt' : i + 1 - a ≤ 8 → (lt <<< ((Int32.toInt64 5) &&& 63)) + (Int32.toInt64 ((x i - 97) + 1)) = Int64.ofNat (pkN (fun j => cB (a + j) - 96) (i + 1 - a)) := fun h8 => by
        rw [hlt (by omega), hx, pk_next hc.1 hc.2, show i + 1 - a = (i - a) + 1 by omega, pkN, show a + (i - a) = i by omega]
      by_cases h8 : 8 ≤ i - a
      · rw [if_pos (show (8 : Int32) ≤ nI (i - a) from nI_le (a := 8) h8 (by omega))]
        obtain ⟨b, lt', la', q1, q2, q3, q4, q5, q6, q7, q8⟩ := ih fx' fm' (i + 1) _ la (by omega) (by omega) (by omega) (by omega) hs' hlt' (fun j h1 h2 => hla j (by omega) h2)
        exact ⟨b, lt', la', q1, q2, by omega, q4, fun _ _ => by omega, q6, q7, q8⟩
      · rw [if_neg (show ¬ (8 : Int32) ≤ nI (i - a) from nI_ge (b := 8) (by omega) (by decide)), pb_bind, if_pos (pb_ibt (by omega) (by omega)), nI_clamp (by omega)]
        obtain ⟨b, lt', la', q1, q2, q3, q4, q5, q6, q7, q8⟩ := ih fx' fm' (i + 1) _ (upd la (i - a) (nI (cB i))) (by omega) (by omega) (by omega) (by omega) hs' hlt' (fun j h1 h2 => by
          by_cases e : j = i - a
          · subst e; rw [upd_same, show a + (i - a) = i by omega]
          · rw [upd_ne _ _ e]; exact hla j (by omega) h2)
        exact ⟨b, lt', la', q1, q2, by omega, q4, fun _ _ => by omega, q6, q7, q8⟩
/-- digits that stand together -/
theorem dig_l {n a : Nat} (hn : n ≤ 900) {x m : Nat → Int32} {cB : Nat → Nat} (hT : tpR x m cB) (so le at_ en to ns : Int32) (la : Nat → Int32) : ∀ d fx fm i : Nat, ∀ wx wm : Int32, i + d = n → a ≤ i → d < fx → d < fm → (i - a ≤ 3 → ∃ v, v < 10 ^ (i - a) ∧ wx = nI v ∧ wm = nI v) →
    ∃ b wx' wm', f_X5_lookAtDigits_5 (nI n) (nI a) x fx (nI i) so le wx = some (nI b, nI (if b - a ≤ 3 then 2 else 4), nI (b - a), wx') ∧ f_X11_next_152 (nI n) m fm (nI i) (nI (i - a)) at_ en to wm ns la = some (at_, nI b, nI (if b - a ≤ 3 then 3 else 1), wm', ns, la) ∧ i ≤ b ∧ b ≤ n ∧ (i < n → dgB (cB i) = true → i < b) ∧ (b - a ≤ 3 → ∃ v, v < 10 ^ (b - a) ∧ wx' = nI v ∧ wm' = nI v) := by
  intro d
  have stopX : ∀ (i : Nat) (wx : Int32), a ≤ i → i ≤ 900 → f_X5_lookAtDigits_81 (nI n) (nI a) x (nI i) so le wx = some (nI i, nI (if i - a ≤ 3 then 2 else 4), nI (i - a), wx) := by
    intro i lt h1 h2
    unfold f_X5_lookAtDigits_81 f_X5_lookAtDigits_108
    rw [pb_sub h1]
    by_cases h8 : i - a ≤ 3
    · rw [if_neg (show ¬ (3 : Int32) < nI (i - a) from nI_nlt (a := 3) h8 (by decide)), if_pos h8]; rfl
    · rw [if_pos (show (3 : Int32) < nI (i - a) from nI_lt (a := 3) (by omega) (by omega)), if_neg h8]; rfl
  have stopM : ∀ (i : Nat) (wm : Int32), a ≤ i → i ≤ 900 → (if nI (i - a) ≤ 3 then f_X11_next_213 (nI n) m 3 at_ (nI i) to wm ns la else f_X11_next_213 (nI n) m 1 at_ (nI i) to wm ns la) = some (at_, nI i, nI (if i - a ≤ 3 then 3 else 1), wm, ns, la) := by
    intro i wm h1 h2
    simp only [f_X11_next_213]
    by_cases h8 : i - a ≤ 3
    · rw [if_pos (show nI (i - a) ≤ (3 : Int32) from nI_le (b := 3) h8 (by decide)), if_pos h8]; rfl
    · rw [if_neg (show ¬ nI (i - a) ≤ (3 : Int32) from nI_ge (a := 3) (by omega) (by omega)), if_neg h8]; rfl
  induction d with
  | zero =>
    intro fx fm i wx wm hi hai hfx hfm hw
    obtain ⟨fx', rfl, _⟩ := fuel_succ hfx
    obtain ⟨fm', rfl, _⟩ := fuel_succ hfm
    obtain rfl : i = n := by omega
    refine ⟨i, wx, wm, ?_, ?_, Nat.le_refl _, Nat.le_refl _, fun h => by omega, hw⟩
    · rw [f_X5_lookAtDigits_5, if_pos (nI_le (Nat.le_refl _) (by omega))]
      exact stopX i wx hai hn
    · rw [f_X11_next_152, lookM_e hn, pb_bind, show f_X11_isDigit (-1) = some 0 by decide, pb_bind, if_pos rfl]
      exact stopM i wm hai hn
  | succ d ih =>
    intro fx fm i wx wm hi hai hfx hfm hw
    obtain ⟨fx', rfl, _⟩ := fuel_succ hfx
    obtain ⟨fm', rfl, _⟩ := fuel_succ hfm
    obtain ⟨c1, c2, c3⟩ := hT i
    have hib : rf_ib (nI i) 900 = true := pb_ibt (by omega) (by omega)
    rw [f_X5_lookAtDigits_5, if_neg (nI_ge (by omega) (by omega)), f_X11_next_152, lookM hn (by omega), c2, pb_bind, isDigitM c1, pb_bind, if_pos hib, nI_clamp (by omega)]
    cases hsm : dgB (cB i)
    · refine ⟨i, wx, wm, ?_, ?_, Nat.le_refl _, by omega, (fun _ h => by cases h), hw⟩
      · rw [stopX i wx hai (by omega)]
        have hc := of_decide_eq_false hsm
        by_cases h1 : x i < 48
        · rw [if_pos h1]
        · rw [if_neg h1, if_pos hib, if_pos (show (57 : Int32) < x i from (xgt (t := 57) c3 (by decide)).mpr (by
            have h1' : ¬ (cB i < 48 ∨ 128 ≤ cB i) := fun z => h1 ((xlt (t := 48) c3 (by decide)).mpr z)
            omega))]
      · rw [if_pos (show bI false = 0 from rfl)]
        exact stopM i wm hai (by omega)
    · have hc := of_decide_eq_true hsm
      have hx : x i = nI (cB i) := by
        rcases c3 with c3 | c3
        · exact c3.2
        · omega
      rw [if_neg (show ¬ x i < 48 from fun z => by have := (xlt (t := 48) c3 (by decide)).mp z; omega), if_pos hib, if_neg (show ¬ (57 : Int32) < x i from fun z => by have := (xgt (t := 57) c3 (by decide)).mp z; omega), if_pos hib, if_neg (show ¬ bI true = 0 by decide)]
      simp only [f_X11_next_188]
      rw [nI_1, nI_1, show i - a + 1 = i + 1 - a by omega]
      by_cases h8 : 3 ≤ i - a
      · rw [if_pos (show (3 : Int32) ≤ nI (i - a) from nI_le (a := 3) h8 (by omega))]
        obtain ⟨b, wx', wm', q1, q2, q3, q4, q5, q6⟩ := ih fx' fm' (i + 1) _ wm (by omega) (by omega) (by omega) (by omega) (fun h => by omega)
        exact ⟨b, wx', wm', q1, q2, by omega, q4, fun _ _ => by omega, q6⟩
      · rw [if_neg (show ¬ (3 : Int32) ≤ nI (i - a) from nI_ge (b := 3) (by omega) (by decide)), pb_bind]
        obtain ⟨v, v1, v2, v3⟩ := hw (by omega)
        have hp : 10 ^ (i - a) ≤ 100 := by
          have : 10 ^ (i - a) ≤ 10 ^ 2 := Nat.pow_le_pow_right (by decide) (by omega)
          omega
        have eX : wx * 10 + (x i - 48) = nI (v * 10 + (cB i - 48)) := by
          rw [v2, hx, show (10 : Int32) = nI 10 from rfl, show (48 : Int32) = nI 48 from rfl, pb_mul, pb_sub (by omega), pb_add]
        have eM : (10 : Int32) * wm + nI (cB i) - 48 = nI (v * 10 + (cB i - 48)) := by
          rw [v3, show (10 : Int32) = nI 10 from rfl, show (48 : Int32) = nI 48 from rfl, pb_mul, pb_add, pb_sub (by omega)]
          congr 1
          omega
        rw [eX, eM]
        obtain ⟨b, wx', wm', q1, q2, q3, q4, q5, q6⟩ := ih fx' fm' (i + 1) _ _ (by omega) (by omega) (by omega) (by omega) (fun h => ⟨v * 10 + (cB i - 48), by rw [show i + 1 - a = (i - a) + 1 by omega, Nat.pow_succ]; omega, rfl, rfl⟩)
        exact ⟨b, wx', wm', q1, q2, by omega, q4, fun _ _ => by omega, q6⟩
def tkF (k : Nat) : Nat := if k = 1 then 2 else if k = 2 then 3 else if k = 3 then 59 else if k = 4 then 1 else 0
/-- the token that is looked at, told twice -/
abbrev tokR (n a b k v : Nat) (L : Nat → Nat) (nx so pl le : Int32) (lt : Int64) (wh at_ en to wm ns : Int32) (la : Nat → Int32) : Prop :=
  (nx = nI b) ∧
  (en = nI b) ∧
  (pl = nI a) ∧
  (at_ = nI a) ∧
  (a ≤ b) ∧
  (b ≤ n) ∧
  (n ≤ 900) ∧
  (k ≤ 4) ∧
  (so = nI k) ∧
  (to = nI (tkF k)) ∧
  (k ≠ 0 → a < b) ∧
  (k = 1 → 1 ≤ v ∧ v ≤ 8 ∧ le = nI v ∧ ns = nI v ∧ lt = Int64.ofNat (pkN L v) ∧ ∀ j, j < v → 1 ≤ L j ∧ L j ≤ 26 ∧ la j = nI (L j + 96)) ∧
  (k = 2 → v ≤ 999 ∧ wh = nI v ∧ wm = nI v)
theorem tokR.hnx {n a b k v : Nat} {L : Nat → Nat} {nx so pl le : Int32} {lt : Int64} {wh at_ en to wm ns : Int32} {la : Nat → Int32} (h : tokR n a b k v L nx so pl le lt wh at_ en to wm ns la) : nx = nI b := h.1
theorem tokR.hen {n a b k v : Nat} {L : Nat → Nat} {nx so pl le : Int32} {lt : Int64} {wh at_ en to wm ns : Int32} {la : Nat → Int32} (h : tokR n a b k v L nx so pl le lt wh at_ en to wm ns la) : en = nI b := h.2.1
theorem tokR.hpl {n a b k v : Nat} {L : Nat → Nat} {nx so pl le : Int32} {lt : Int64} {wh at_ en to wm ns : Int32} {la : Nat → Int32} (h : tokR n a b k v L nx so pl le lt wh at_ en to wm ns la) : pl = nI a := h.2.2.1
theorem tokR.hat {n a b k v : Nat} {L : Nat → Nat} {nx so pl le : Int32} {lt : Int64} {wh at_ en to wm ns : Int32} {la : Nat → Int32} (h : tokR n a b k v L nx so pl le lt wh at_ en to wm ns la) : at_ = nI a := h.2.2.2.1
theorem tokR.hab {n a b k v : Nat} {L : Nat → Nat} {nx so pl le : Int32} {lt : Int64} {wh at_ en to wm ns : Int32} {la : Nat → Int32} (h : tokR n a b k v L nx so pl le lt wh at_ en to wm ns la) : a ≤ b := h.2.2.2.2.1
theorem tokR.hbn {n a b k v : Nat} {L : Nat → Nat} {nx so pl le : Int32} {lt : Int64} {wh at_ en to wm ns : Int32} {la : Nat → Int32} (h : tokR n a b k v L nx so pl le lt wh at_ en to wm ns la) : b ≤ n := h.2.2.2.2.2.1
theorem tokR.hn {n a b k v : Nat} {L : Nat → Nat} {nx so pl le : Int32} {lt : Int64} {wh at_ en to wm ns : Int32} {la : Nat → Int32} (h : tokR n a b k v L nx so pl le lt wh at_ en to wm ns la) : n ≤ 900 := h.2.2.2.2.2.2.1
theorem tokR.hk {n a b k v : Nat} {L : Nat → Nat} {nx so pl le : Int32} {lt : Int64} {wh at_ en to wm ns : Int32} {la : Nat → Int32} (h : tokR n a b k v L nx so pl le lt wh at_ en to wm ns la) : k ≤ 4 := h.2.2.2.2.2.2.2.1
theorem tokR.hso {n a b k v : Nat} {L : Nat → Nat} {nx so pl le : Int32} {lt : Int64} {wh at_ en to wm ns : Int32} {la : Nat → Int32} (h : tokR n a b k v L nx so pl le lt wh at_ en to wm ns la) : so = nI k := h.2.2.2.2.2.2.2.2.1
theorem tokR.hto {n a b k v : Nat} {L : Nat → Nat} {nx so pl le : Int32} {lt : Int64} {wh at_ en to wm ns : Int32} {la : Nat → Int32} (h : tokR n a b k v L nx so pl le lt wh at_ en to wm ns la) : to = nI (tkF k) := h.2.2.2.2.2.2.2.2.2.1
theorem tokR.h0 {n a b k v : Nat} {L : Nat → Nat} {nx so pl le : Int32} {lt : Int64} {wh at_ en to wm ns : Int32} {la : Nat → Int32} (h : tokR n a b k v L nx so pl le lt wh at_ en to wm ns la) : k ≠ 0 → a < b := h.2.2.2.2.2.2.2.2.2.2.1
theorem tokR.h1 {n a b k v : Nat} {L : Nat → Nat} {nx so pl le : Int32} {lt : Int64} {wh at_ en to wm ns : Int32} {la : Nat → Int32} (h : tokR n a b k v L nx so pl le lt wh at_ en to wm ns la) : k = 1 → 1 ≤ v ∧ v ≤ 8 ∧ le = nI v ∧ ns = nI v ∧ lt = Int64.ofNat (pkN L v) ∧ ∀ j, j < v → 1 ≤ L j ∧ L j ≤ 26 ∧ la j = nI (L j + 96) := h.2.2.2.2.2.2.2.2.2.2.2.1
theorem tokR.h2 {n a b k v : Nat} {L : Nat → Nat} {nx so pl le : Int32} {lt : Int64} {wh at_ en to wm ns : Int32} {la : Nat → Int32} (h : tokR n a b k v L nx so pl le lt wh at_ en to wm ns la) : k = 2 → v ≤ 999 ∧ wh = nI v ∧ wm = nI v := h.2.2.2.2.2.2.2.2.2.2.2.2
/-- both go on to the next token -/
def lookOk (n : Nat) (x m : Nat → Int32) : Prop := ∀ (i : Nat), i ≤ n → ∀ (so pl le : Int32) (lt : Int64) (wh at_ to wm ns : Int32) (la : Nat → Int32), ∃ zX zM, ∃ a b k v : Nat, ∃ L : Nat → Nat, f_X5_look (nI n) x (nI i) so pl le lt wh = some zX ∧ f_X11_next (nI n) m at_ (nI i) to wm ns la = some zM ∧ i ≤ a ∧ tokR n a b k v L zX.1 zX.2.1 zX.2.2.1 zX.2.2.2.1 zX.2.2.2.2.1 zX.2.2.2.2.2 zM.1 zM.2.1 zM.2.2.1 zM.2.2.2.1 zM.2.2.2.2.1 zM.2.2.2.2.2
theorem look_l {n : Nat} (hn : n ≤ 900) {x m : Nat → Int32} {cB : Nat → Nat} (hT : tpR x m cB) (so pl le : Int32) (lt : Int64) (wh at_ en to wm ns : Int32) (la : Nat → Int32) : ∀ d fx fm i : Nat, i + d = n → d < fx → d < fm →
    ∃ zX zM, ∃ a b k v : Nat, ∃ L : Nat → Nat, f_X5_look_0 (nI n) x fx (nI i) so pl le lt wh = some zX ∧ f_X11_next_5 (nI n) m fm (nI i) at_ en to wm ns la = some zM ∧ i ≤ a ∧ tokR n a b k v L zX.1 zX.2.1 zX.2.2.1 zX.2.2.2.1 zX.2.2.2.2.1 zX.2.2.2.2.2 zM.1 zM.2.1 zM.2.2.1 zM.2.2.2.1 zM.2.2.2.2.1 zM.2.2.2.2.2 := by
  intro d
  induction d with
  | zero =>
    intro fx fm i hi hfx hfm
    obtain ⟨fx', rfl, _⟩ := fuel_succ hfx
    obtain ⟨fm', rfl, _⟩ := fuel_succ hfm
    obtain rfl : i = n := by omega
    refine ⟨(nI i, 0, nI i, le, lt, wh), (nI i, nI i, 0, 0, 0, la), i, i, 0, 0, fun _ => 0, ?_, ?_, Nat.le_refl _, rfl, rfl, rfl, rfl, Nat.le_refl _, Nat.le_refl _, hn, by omega, rfl, rfl, fun h => absurd rfl h, fun h => by omega, fun h => by omega⟩
    · rw [f_X5_look_0, if_pos (nI_le (Nat.le_refl _) (by omega)), f_X5_look_38, if_neg (nI_nlt (Nat.le_refl _) (by omega))]
    · rw [f_X11_next_5, lookM_e hn, pb_bind, if_neg (by decide), pb_bind, if_pos rfl]
  | succ d ih =>
    intro fx fm i hi hfx hfm
    obtain ⟨fx', rfl, _⟩ := fuel_succ hfx
    obtain ⟨fm', rfl, _⟩ := fuel_succ hfm
    obtain ⟨c1, c2, c3⟩ := hT i
    have hib : rf_ib (nI i) 900 = true := pb_ibt (by omega) (by omega)
    have q32 := xeq (t := 32) c3 (by decide)
    rw [f_X5_look_0, if_neg (nI_ge (by omega) (by omega)), f_X11_next_5, lookM hn (by omega), c2, pb_bind, if_pos hib, nI_clamp (by omega)]
    by_cases h32 : cB i = 32
    · obtain ⟨zX, zM, a, b, k, v, L, q1, q2, q3, q4⟩ := ih fx' fm' (i + 1) (by omega) (by omega) (by omega)
      refine ⟨zX, zM, a, b, k, v, L, ?_, ?_, by omega, q4⟩
      · rw [if_pos (show x i = 32 from q32.mpr h32), nI_1]; exact q1
      · rw [if_pos (show nI (cB i) = 32 by rw [h32]; rfl), nI_1]; exact q2
    · rw [if_neg (show ¬ x i = 32 from fun z => h32 (q32.mp z)), if_neg (show ¬ nI (cB i) = 32 from fun z => h32 ((nI_eq (b := 32) (by omega) (by decide)).mp z)), f_X5_look_38, if_pos (nI_lt (by omega) (by omega)), if_pos hib, nI_clamp (by omega), pb_bind, if_neg (show ¬ nI (cB i) = -1 from fun q => by have := pb_eqm (a := cB i) (b := 1) (by decide) (by omega) (by decide); exact (this ▸ q : False)), isSmallM c1, pb_bind]
      cases hsm : smB (cB i)
      · have hc := of_decide_eq_false hsm
        have hX : (if x i < 97 then f_X5_look_92 (nI n) x (x i) (nI i) so (nI i) le lt wh else if 122 < x i then f_X5_look_92 (nI n) x (x i) (nI i) so (nI i) le lt wh else (f_X5_lookAtLetters (nI n) (nI i) x (nI i) so le lt).bind fun z86 => some (z86.1, z86.2.1, nI i, z86.2.2.1, z86.2.2.2, wh)) = f_X5_look_92 (nI n) x (x i) (nI i) so (nI i) le lt wh := by
          by_cases h1 : x i < 97
          · rw [if_pos h1]
          · rw [if_neg h1, if_pos (show (122 : Int32) < x i from (xgt (t := 122) c3 (by decide)).mpr (by
              have h1' : ¬ (cB i < 97 ∨ 128 ≤ cB i) := fun z => h1 ((xlt (t := 97) c3 (by decide)).mpr z)
              omega))]
        rw [hX, if_pos (show bI false = 0 from rfl), isDigitM c1, pb_bind, f_X5_look_92]
        cases hdg : dgB (cB i)
        · have hd := of_decide_eq_false hdg
          have hX2 : (if x i < 48 then f_X5_look_111 (nI n) x (x i) (nI i) so (nI i) le lt wh else if 57 < x i then f_X5_look_111 (nI n) x (x i) (nI i) so (nI i) le lt wh else (f_X5_lookAtDigits (nI n) (nI i) x (nI i) so le wh).bind fun z105 => some (z105.1, z105.2.1, nI i, z105.2.2.1, lt, z105.2.2.2)) = f_X5_look_111 (nI n) x (x i) (nI i) so (nI i) le lt wh := by
            by_cases h1 : x i < 48
            · rw [if_pos h1]
            · rw [if_neg h1, if_pos (show (57 : Int32) < x i from (xgt (t := 57) c3 (by decide)).mpr (by
                have h1' : ¬ (cB i < 48 ∨ 128 ≤ cB i) := fun z => h1 ((xlt (t := 48) c3 (by decide)).mpr z)
                omega))]
          rw [hX2, if_pos (show bI false = 0 from rfl), f_X5_look_111]
          simp only [f_X5_look_123, f_X11_next_238]
          rw [nI_1]
          have q59 := xeq (t := 59) c3 (by decide)
          by_cases h59 : cB i = 59
          · rw [if_pos (show x i = 59 from q59.mpr h59), if_pos (show nI (cB i) = 59 by rw [h59]; rfl)]
            refine ⟨_, _, i, i + 1, 3, 0, fun _ => 0, rfl, rfl, Nat.le_refl _, rfl, rfl, rfl, rfl, by omega, by omega, hn, by omega, rfl, ?_, fun _ => by omega, fun h => by omega, fun h => by omega⟩
            show nI (cB i) = nI 59
            rw [h59]
          · rw [if_neg (show ¬ x i = 59 from fun z => h59 (q59.mp z)), if_neg (show ¬ nI (cB i) = 59 from fun z => h59 ((nI_eq (b := 59) (by omega) (by decide)).mp z))]
            exact ⟨_, _, i, i + 1, 4, 0, fun _ => 0, rfl, rfl, Nat.le_refl _, rfl, rfl, rfl, rfl, by omega, by omega, hn, by omega, rfl, rfl, fun _ => by omega, fun h => by omega, fun h => by omega⟩
        · have hd := of_decide_eq_true hdg
          obtain ⟨b, wx', wm', q1, q2, q3, q4, q5, q6⟩ := dig_l (a := i) hn hT so le (nI i) en to 0 la (n - i) rf_fu rf_fu i 0 0 (by omega) (Nat.le_refl _) (by show _ < 4096; omega) (by show _ < 4096; omega) (fun _ => ⟨0, by rw [Nat.sub_self]; decide, rfl, rfl⟩)
          have hib2 := q5 (by omega) hdg
          rw [if_neg (show ¬ x i < 48 from fun z => by have := (xlt (t := 48) c3 (by decide)).mp z; omega), if_neg (show ¬ (57 : Int32) < x i from fun z => by have := (xgt (t := 57) c3 (by decide)).mp z; omega), if_neg (show ¬ bI true = 0 by decide), f_X5_lookAtDigits, q1, pb_bind]
          rw [show i - i = 0 by omega] at q2
          rw [show (0 : Int32) = nI 0 from rfl] at q2 ⊢
          rw [q2]
          by_cases h3 : b - i ≤ 3
          · rw [if_pos h3, if_pos h3]
            obtain ⟨v, v1, v2, v3⟩ := q6 h3
            have hp : 10 ^ (b - i) ≤ 1000 := by
              have : 10 ^ (b - i) ≤ 10 ^ 3 := Nat.pow_le_pow_right (by decide) (by omega)
              omega
            exact ⟨_, _, i, b, 2, v, fun _ => 0, rfl, rfl, Nat.le_refl _, rfl, rfl, rfl, rfl, by omega, q4, hn, by omega, rfl, rfl, fun _ => hib2, fun h => by omega, fun _ => ⟨by omega, v2, v3⟩⟩
          · rw [if_neg h3, if_neg h3]
            exact ⟨_, _, i, b, 4, 0, fun _ => 0, rfl, rfl, Nat.le_refl _, rfl, rfl, rfl, rfl, by omega, q4, hn, by omega, rfl, rfl, fun _ => hib2, fun h => by omega, fun h => by omega⟩
      · have hc := of_decide_eq_true hsm
        obtain ⟨b, lt', la', q1, q2, q3, q4, q5, q6, q7, q8⟩ := let_l (a := i) hn hT so le (nI i) en to 0 (n - i) rf_fu rf_fu i 0 la (by omega) (Nat.le_refl _) (by show _ < 4096; omega) (by show _ < 4096; omega) (fun j h1 h2 => by omega) (fun _ => by rw [Nat.sub_self]; rfl) (fun j h1 _ => by omega)
        have hib2 := q5 (by omega) hsm
        rw [if_neg (show ¬ x i < 97 from fun z => by have := (xlt (t := 97) c3 (by decide)).mp z; omega), if_neg (show ¬ (122 : Int32) < x i from fun z => by have := (xgt (t := 122) c3 (by decide)).mp z; omega), if_neg (show ¬ bI true = 0 by decide), f_X5_lookAtLetters, q1, pb_bind]
        rw [show i - i = 0 by omega] at q2
        rw [show (0 : Int32) = nI 0 from rfl] at q2 ⊢
        rw [q2]
        by_cases h8 : b - i ≤ 8
        · rw [if_pos h8, if_pos h8]
          refine ⟨_, _, i, b, 1, b - i, fun j => cB (i + j) - 96, rfl, rfl, Nat.le_refl _, rfl, rfl, rfl, rfl, by omega, q4, hn, by omega, rfl, rfl, fun _ => hib2, fun _ => ⟨by omega, h8, rfl, rfl, q7 h8, fun j hj => ?_⟩, fun h => by omega⟩
          have hj2 := of_decide_eq_true (q6 (i + j) (by omega) (by omega))
          have hj3 := q8 j hj (by omega)
          show 1 ≤ cB (i + j) - 96 ∧ cB (i + j) - 96 ≤ 26 ∧ la' j = nI (cB (i + j) - 96 + 96)
          refine ⟨by omega, by omega, ?_⟩
          rw [hj3, show cB (i + j) - 96 + 96 = cB (i + j) by omega]
        · rw [if_neg h8, if_neg h8]
          exact ⟨_, _, i, b, 4, 0, fun _ => 0, rfl, rfl, Nat.le_refl _, rfl, rfl, rfl, rfl, by omega, q4, hn, by omega, rfl, rfl, fun _ => hib2, fun h => by omega, fun h => by omega⟩
theorem look_s {n : Nat} (hn : n ≤ 900) {x m : Nat → Int32} {cB : Nat → Nat} (hT : tpR x m cB) : lookOk n x m :=
  fun i hi so pl le lt wh at_ to wm ns la => look_l hn hT so pl le lt wh at_ (nI i) to wm ns la (n - i) rf_fu rf_fu i (by omega) (by show _ < 4096; omega) (by show _ < 4096; omega)
