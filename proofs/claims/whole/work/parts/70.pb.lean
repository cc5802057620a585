/-! numbers -/
theorem pb_lits : ((0 : Int32) = nI 0) ∧ ((1 : Int32) = nI 1) ∧ ((2 : Int32) = nI 2) ∧ ((3 : Int32) = nI 3) ∧ ((4 : Int32) = nI 4) ∧ ((5 : Int32) = nI 5) ∧ ((6 : Int32) = nI 6) ∧ ((7 : Int32) = nI 7) ∧ ((8 : Int32) = nI 8) ∧ ((9 : Int32) = nI 9) ∧ ((10 : Int32) = nI 10) ∧ ((11 : Int32) = nI 11) ∧ ((12 : Int32) = nI 12) ∧ ((13 : Int32) = nI 13) ∧ ((14 : Int32) = nI 14) ∧ ((15 : Int32) = nI 15) ∧ ((16 : Int32) = nI 16) ∧ ((17 : Int32) = nI 17) ∧ ((18 : Int32) = nI 18) ∧ ((19 : Int32) = nI 19) ∧ ((20 : Int32) = nI 20) ∧ ((21 : Int32) = nI 21) ∧ ((22 : Int32) = nI 22) ∧ ((23 : Int32) = nI 23) ∧ ((24 : Int32) = nI 24) ∧ ((25 : Int32) = nI 25) ∧ ((26 : Int32) = nI 26) ∧ ((27 : Int32) = nI 27) ∧ ((28 : Int32) = nI 28) ∧ ((29 : Int32) = nI 29) ∧ ((30 : Int32) = nI 30) ∧ ((31 : Int32) = nI 31) ∧ ((32 : Int32) = nI 32) ∧ ((33 : Int32) = nI 33) ∧ ((34 : Int32) = nI 34) ∧ ((35 : Int32) = nI 35) ∧ ((36 : Int32) = nI 36) ∧ ((37 : Int32) = nI 37) ∧ ((38 : Int32) = nI 38) ∧ ((39 : Int32) = nI 39) ∧ ((40 : Int32) = nI 40) ∧ ((48 : Int32) = nI 48) ∧ ((57 : Int32) = nI 57) ∧ ((59 : Int32) = nI 59) ∧ ((63 : Int32) = nI 63) ∧ ((64 : Int32) = nI 64) ∧ ((74 : Int32) = nI 74) ∧ ((75 : Int32) = nI 75) ∧ ((89 : Int32) = nI 89) ∧ ((90 : Int32) = nI 90) ∧ ((91 : Int32) = nI 91) ∧ ((92 : Int32) = nI 92) ∧ ((96 : Int32) = nI 96) ∧ ((97 : Int32) = nI 97) ∧ ((99 : Int32) = nI 99) ∧ ((100 : Int32) = nI 100) ∧ ((104 : Int32) = nI 104) ∧ ((121 : Int32) = nI 121) ∧ ((122 : Int32) = nI 122) ∧ ((127 : Int32) = nI 127) ∧ ((129 : Int32) = nI 129) ∧ ((153 : Int32) = nI 153) ∧ ((154 : Int32) = nI 154) ∧ ((155 : Int32) = nI 155) ∧ ((160 : Int32) = nI 160) ∧ ((171 : Int32) = nI 171) ∧ ((189 : Int32) = nI 189) ∧ ((255 : Int32) = nI 255) ∧ ((256 : Int32) = nI 256) ∧ ((304 : Int32) = nI 304) ∧ ((333 : Int32) = nI 333) ∧ ((415 : Int32) = nI 415) ∧ ((416 : Int32) = nI 416) ∧ ((390 : Int32) = nI 390) ∧ ((900 : Int32) = nI 900) ∧ ((1000000 : Int32) = nI 1000000) ∧ ((65536 : Int32) = nI 65536) ∧ ((65537 : Int32) = nI 65537) := ⟨rfl, rfl, rfl, rfl, rfl, rfl, rfl, rfl, rfl, rfl, rfl, rfl, rfl, rfl, rfl, rfl, rfl, rfl, rfl, rfl, rfl, rfl, rfl, rfl, rfl, rfl, rfl, rfl, rfl, rfl, rfl, rfl, rfl, rfl, rfl, rfl, rfl, rfl, rfl, rfl, rfl, rfl, rfl, rfl, rfl, rfl, rfl, rfl, rfl, rfl, rfl, rfl, rfl, rfl, rfl, rfl, rfl, rfl, rfl, rfl, rfl, rfl, rfl, rfl, rfl, rfl, rfl, rfl, rfl, rfl, rfl, rfl, rfl, rfl, rfl, rfl, rfl, rfl⟩
theorem pb_ltT {a b : Nat} (h : a < b) (hb : b < 2 ^ 31) : (nI a < nI b) = True := eq_true (nI_lt h hb)
theorem pb_ltF {a b : Nat} (h : b ≤ a) (hb : a < 2 ^ 31) : (nI a < nI b) = False := eq_false (nI_nlt h hb)
theorem pb_leT {a b : Nat} (h : a ≤ b) (hb : b < 2 ^ 31) : (nI a ≤ nI b) = True := eq_true (nI_le h hb)
theorem pb_leF {a b : Nat} (h : b < a) (hb : a < 2 ^ 31) : (nI a ≤ nI b) = False := eq_false (nI_ge h hb)
theorem pb_eqT {a b : Nat} (h : a = b) : (nI a = nI b) = True := by subst h; simp
theorem pb_eqF {a b : Nat} (h : a ≠ b) (ha : a < 2 ^ 31) (hb : b < 2 ^ 31) : (nI a = nI b) = False := eq_false (fun e => h ((nI_eq ha hb).mp e))
theorem pb_lt {a b : Nat} (ha : a < 2 ^ 31) (hb : b < 2 ^ 31) : (nI a < nI b) ↔ a < b := nI_ltI ha hb
theorem pb_le {a b : Nat} (ha : a < 2 ^ 31) (hb : b < 2 ^ 31) : (nI a ≤ nI b) ↔ a ≤ b := nI_leI ha hb
theorem pb_eq {a b : Nat} (ha : a < 2 ^ 31) (hb : b < 2 ^ 31) : (nI a = nI b) ↔ a = b := nI_eq ha hb
theorem pb_add (a b : Nat) : nI a + nI b = nI (a + b) := nI_add a b
theorem pb_mul (a b : Nat) : nI a * nI b = nI (a * b) := (Int32.ofNat_mul a b).symm
theorem pb_sub {a b : Nat} (h : b ≤ a) : nI a - nI b = nI (a - b) := by
  have : nI a = nI (a - b) + nI b := by rw [pb_add]; congr 1; omega
  rw [this, Int32.add_sub_cancel]
theorem pb_cl {n : Nat} (h : n < 2 ^ 31) : (nI n).toNatClampNeg = n := nI_clamp h
theorem pb_ib {i n : Nat} (hi : i < 2 ^ 31) : (rf_ib (nI i) n = true) ↔ i < n := by
  unfold rf_ib
  rw [nI_toInt hi]
  simp
theorem pb_ibt {i n : Nat} (hi : i < 2 ^ 31) (h : i < n) : rf_ib (nI i) n = true := (pb_ib hi).mpr h
theorem pb_0 : (0 : Int32) = nI 0 := rfl
theorem pb_1 : (1 : Int32) = nI 1 := rfl
theorem pb_mI {a : Nat} (h : a < 2 ^ 31) : (- nI a).toInt = - (a : Int) := by
  rw [Int32.toInt_neg, nI_toInt h, Int.bmod_eq_of_le] <;> omega
theorem pb_eqm {a b : Nat} (h : 0 < b) (ha : a < 2 ^ 31) (hb : b < 2 ^ 31) : (nI a = - nI b) = False := eq_false (fun e => by
  have := congrArg Int32.toInt e
  rw [nI_toInt ha, pb_mI hb] at this
  omega)
theorem pb_meq {a b : Nat} (h : 0 < b) (ha : a < 2 ^ 31) (hb : b < 2 ^ 31) : (- nI b = nI a) = False := eq_false (fun e => by
  have := congrArg Int32.toInt e
  rw [nI_toInt ha, pb_mI hb] at this
  omega)
theorem pb_ltm {a b : Nat} (h : 0 < b) (ha : a < 2 ^ 31) (hb : b < 2 ^ 31) : (nI a < - nI b) = False := eq_false (fun e => by
  have := Int32.lt_iff_toInt_lt.mp e
  rw [nI_toInt ha, pb_mI hb] at this
  omega)
theorem pb_mlt {a b : Nat} (h : 0 < b) (ha : a < 2 ^ 31) (hb : b < 2 ^ 31) : (- nI b < nI a) = True := eq_true (by
  apply Int32.lt_iff_toInt_lt.mpr
  rw [nI_toInt ha, pb_mI hb]
  omega)
theorem pb_lem {a b : Nat} (h : 0 < b) (ha : a < 2 ^ 31) (hb : b < 2 ^ 31) : (nI a ≤ - nI b) = False := eq_false (fun e => by
  have := Int32.le_iff_toInt_le.mp e
  rw [nI_toInt ha, pb_mI hb] at this
  omega)
theorem pb_mle {a b : Nat} (h : 0 < b) (ha : a < 2 ^ 31) (hb : b < 2 ^ 31) : (- nI b ≤ nI a) = True := eq_true (by
  apply Int32.le_iff_toInt_le.mpr
  rw [nI_toInt ha, pb_mI hb]
  omega)
theorem pb_rem {a b : Nat} (ha : a < 2 ^ 31) (hb0 : 0 < b) (hb : b < 2 ^ 31) : nI a - nI a / nI b * nI b = nI (a % b) := by
  have h1 : nI a / nI b = nI (a / b) := by
    apply Int32.toInt_inj.mp
    have h1 : a / b ≤ a := Nat.div_le_self _ _
    rw [Int32.toInt_div, nI_toInt ha, nI_toInt hb, nI_toInt (by omega)]
    show (((a / b : Nat) : Int)).bmod _ = _
    generalize a / b = c at h1 ⊢
    rw [Int.bmod_eq_of_le] <;> omega
  have h2 : a / b * b ≤ a := Nat.div_mul_le_self a b
  rw [h1, pb_mul, pb_sub h2]
  congr 1
  have := Nat.div_add_mod a b
  rw [Nat.mul_comm] at this
  omega
theorem pb_of {x : Int32} {n : Nat} (hn : n < 2 ^ 31) (h0 : 0 ≤ x) (h : x < nI n) : ∃ k, k < n ∧ x = nI k := by
  obtain ⟨j, hj, rfl⟩ := nI_of (x := x) (by simpa using h0)
  exact ⟨j, (pb_lt hj hn).mp h, rfl⟩
theorem pb_ofle {x : Int32} {n : Nat} (hn : n < 2 ^ 31) (h0 : 0 ≤ x) (h : x ≤ nI n) : ∃ k, k ≤ n ∧ x = nI k := by
  obtain ⟨j, hj, rfl⟩ := nI_of (x := x) (by simpa using h0)
  exact ⟨j, (pb_le hj hn).mp h, rfl⟩
theorem pb_mod {a b : Nat} (ha : a < 2 ^ 31) (hb0 : 0 < b) (hb : b < 2 ^ 31) : nI a % nI b = nI (a % b) := by
  apply Int32.toInt_inj.mp
  have h1 : a % b < b := Nat.mod_lt _ hb0
  rw [Int32.toInt_mod, nI_toInt ha, nI_toInt hb, nI_toInt (by omega)]
  rfl
theorem pb_div {a b : Nat} (ha : a < 2 ^ 31) (hb0 : 0 < b) (hb : b < 2 ^ 31) : nI a / nI b = nI (a / b) := by
  apply Int32.toInt_inj.mp
  have h1 : a / b ≤ a := Nat.div_le_self _ _
  rw [Int32.toInt_div, nI_toInt ha, nI_toInt hb, nI_toInt (by omega)]
  show (((a / b : Nat) : Int)).bmod _ = _
  generalize a / b = c at h1 ⊢
  rw [Int.bmod_eq_of_le] <;> omega
/-! sets of bits -/
def bt (s : Int32) (k : Nat) : Bool := s.toBitVec.getLsbD k
theorem bt_ge {s : Int32} {k : Nat} (h : 32 ≤ k) : bt s k = false := BitVec.getLsbD_of_ge _ _ h
theorem bt_ext {a b : Int32} (h : ∀ k, k < 32 → bt a k = bt b k) : a = b := by
  apply Int32.toBitVec_inj.mp
  apply BitVec.eq_of_getLsbD_eq
  intro i hi
  exact h i hi
theorem bt_or (a b : Int32) (k : Nat) : bt (a ||| b) k = (bt a k || bt b k) := by
  unfold bt; rw [Int32.toBitVec_or, BitVec.getLsbD_or]
theorem bt_and (a b : Int32) (k : Nat) : bt (a &&& b) k = (bt a k && bt b k) := by
  unfold bt; rw [Int32.toBitVec_and, BitVec.getLsbD_and]
theorem bt_xor (a b : Int32) (k : Nat) : bt (a ^^^ b) k = (bt a k ^^ bt b k) := by
  unfold bt; rw [Int32.toBitVec_xor, BitVec.getLsbD_xor]
theorem bt_not (a : Int32) (k : Nat) : bt (~~~ a) k = (decide (k < 32) && !bt a k) := by
  unfold bt; rw [Int32.toBitVec_not, BitVec.getLsbD_not]
theorem bt_nI {n : Nat} (h : n < 2 ^ 32) (k : Nat) : bt (nI n) k = n.testBit k := by
  unfold bt nI
  rw [Int32.toBitVec_ofNat', BitVec.getLsbD_ofNat]
  by_cases hk : k < 32
  · simp [hk]
  · have : n.testBit k = false := Nat.testBit_lt_two_pow (Nat.lt_of_lt_of_le h (Nat.pow_le_pow_right (by decide) (by omega)))
    simp [this]
theorem bt_0 (k : Nat) : bt 0 k = false := by
  have := bt_nI (n := 0) (by decide) k
  rw [show (0 : Int32) = nI 0 from rfl, this, Nat.zero_testBit]
theorem pb_s31 {k : Nat} (h : k < 32) : nI k &&& nI 31 = nI k := by
  apply bt_ext
  intro i _
  rw [bt_and, bt_nI (by omega), bt_nI (by omega)]
  rw [show (31 : Nat) = 2 ^ 5 - 1 from rfl, Nat.testBit_two_pow_sub_one]
  by_cases hi : i < 5
  · simp [hi]
  · have : k.testBit i = false := Nat.testBit_lt_two_pow (Nat.lt_of_lt_of_le h (Nat.pow_le_pow_right (n := 2) (i := 5) (j := i) (by decide) (by omega)))
    simp [this]
theorem pb_shv {k : Nat} (h : k < 32) : (nI k).toBitVec.smod 32 = BitVec.ofNat 32 k := by
  have : ∀ k : Fin 32, (nI k.1).toBitVec.smod 32 = BitVec.ofNat 32 k.1 := by decide +kernel
  exact this ⟨k, h⟩
theorem bt_shl {a : Int32} {k : Nat} (h : k < 32) (i : Nat) : bt (a <<< nI k) i = (decide (i < 32) && !decide (i < k) && bt a (i - k)) := by
  unfold bt
  rw [Int32.toBitVec_shiftLeft, pb_shv h]
  rw [BitVec.shiftLeft_eq', BitVec.getLsbD_shiftLeft]
  rw [BitVec.toNat_ofNat, Nat.mod_eq_of_lt (by omega)]
theorem bt_1shl {k : Nat} (h : k < 32) (i : Nat) : bt ((1 : Int32) <<< nI k) i = decide (i = k) := by
  rw [bt_shl h, show (1 : Int32) = nI 1 from rfl, bt_nI (by decide)]
  by_cases hik : i = k
  · subst hik; simp [h]
  · by_cases h3 : i < k
    · simp [h3, hik]
    · have : Nat.testBit 1 (i - k) = false := by
        cases e : Nat.testBit 1 (i - k)
        · rfl
        · rw [Nat.testBit_one_eq_true_iff_self_eq_zero] at e; omega
      simp [hik, this]
theorem bt_shr {a : Int32} {k i : Nat} (h : k < 32) (hi : i + k < 32) : bt (a >>> nI k) i = bt a (k + i) := by
  unfold bt
  rw [Int32.toBitVec_shiftRight, pb_shv h]
  rw [BitVec.sshiftRight_eq', BitVec.getLsbD_sshiftRight]
  rw [BitVec.toNat_ofNat, Nat.mod_eq_of_lt (by omega)]
  rw [if_pos (by omega)]
  have : i < 32 := by omega
  simp [this]
theorem bt_and1 {a : Int32} : (a &&& 1 = 1) ↔ bt a 0 = true := by
  constructor
  · intro h
    have := congrArg (fun x => bt x 0) h
    simp only [bt_and] at this
    rw [show bt (1 : Int32) 0 = true by decide] at this
    simpa using this
  · intro h
    apply bt_ext
    intro k _
    rw [bt_and, show (1 : Int32) = nI 1 from rfl, bt_nI (by decide)]
    by_cases hk : k = 0
    · subst hk; simp [h]
    · have : Nat.testBit 1 k = false := by
        cases e : Nat.testBit 1 k
        · rfl
        · rw [Nat.testBit_one_eq_true_iff_self_eq_zero] at e; omega
      simp [this]
theorem pb_hold {s : Int32} {k : Nat} (h : k < 32) : ((s >>> (nI k &&& nI 31)) &&& nI 1 = nI 1) ↔ bt s k = true := by
  show ((s >>> (nI k &&& nI 31)) &&& 1 = 1) ↔ bt s k = true
  rw [pb_s31 h, bt_and1, bt_shr h (by omega)]
  simp
theorem bt_1s {k : Nat} (h : k < 32) (i : Nat) : bt (nI 1 <<< (nI k &&& nI 31)) i = decide (i = k) := by
  show bt ((1 : Int32) <<< (nI k &&& nI 31)) i = decide (i = k)
  rw [pb_s31 h, bt_1shl h]
theorem pb_ne0 {s : Int32} : s ≠ 0 ↔ ∃ k, k < 32 ∧ bt s k = true := by
  constructor
  · intro h
    apply Classical.byContradiction
    intro hn
    apply h
    apply bt_ext
    intro k hk
    rw [bt_0]
    cases e : bt s k
    · rfl
    · exact absurd ⟨k, hk, e⟩ hn
  · rintro ⟨k, _, h⟩ rfl
    rw [bt_0] at h
    cases h
theorem pb_eq0 {s : Int32} : s = 0 ↔ ∀ k, k < 32 → bt s k = false := by
  constructor
  · rintro rfl k _
    exact bt_0 k
  · intro h
    exact bt_ext (fun k hk => by rw [h k hk, bt_0])

theorem pb_bind {α β : Type} (a : α) (f : α → Option β) : (some a).bind f = f a := by
  cases h : f a with
  | none => exact h
  | some b => exact h
theorem fuel_succ {d n : Nat} (h : d < n) : ∃ m, n = m + 1 ∧ d ≤ m := ⟨n - 1, by omega, by omega⟩
theorem pb_le0 {x : Int32} : x ≤ nI 0 ↔ ¬ nI 0 < x := by
  show x ≤ 0 ↔ ¬ 0 < x
  exact Int32.not_lt.symm
