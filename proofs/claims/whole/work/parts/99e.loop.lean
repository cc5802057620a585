/-! the law's loop -/
theorem rf_tout_0_45 {x : Int32} (h : ∀ k : Nat, k < 45 → ¬ x = nI k) : x.toInt < 0 ∨ 44 < x.toInt := by
  by_cases h1 : x.toInt < 0
  · exact Or.inl h1
  · refine Or.inr ?_
    have h2 : 0 ≤ x.toInt := by omega
    have h3 := rf_nIof h2
    have h4 := rf_toNat h2
    by_cases h5 : x.toNatClampNeg < 45
    · exact absurd h3 (h _ h5)
    · omega
theorem rf_gt7 {i L : Nat} (hL : L ≤ 3584) (hi : i ≤ L + 7) : nI L - 7 < nI i ↔ L < i + 7 := by
  have e1 : (nI L - 7).toInt = (L : Int) - 7 := pk_sub_toInt (a := L) (b := 7) (by omega) (by omega)
  rw [Int32.lt_iff_toInt_lt, e1, nI_toInt (by omega)]
  omega

def rf_Sys1 (INV INV2 : rf_INV) : Prop := rf_step_0 INV INV2 ∧ rf_step_1 INV INV2 ∧ rf_step_2 INV INV2 ∧ rf_step_3 INV INV2 ∧ rf_step_4 INV INV2 ∧ rf_step_5 INV INV2 ∧ rf_step_6 INV INV2 ∧ rf_step_7 INV INV2 ∧ rf_step_8 INV INV2 ∧ rf_step_9 INV INV2 ∧ rf_step_10 INV INV2 ∧ rf_step_11 INV INV2 ∧ rf_step_12 INV INV2 ∧ rf_step_13 INV INV2 ∧ rf_step_14 INV INV2 ∧ rf_step_15 INV INV2 ∧ rf_step_16 INV INV2 ∧ rf_step_17 INV INV2 ∧ rf_step_18 INV INV2 ∧ rf_step_19 INV INV2 ∧ rf_step_20 INV INV2 ∧ rf_step_21 INV INV2 ∧ rf_step_22 INV INV2 ∧ rf_step_23 INV INV2 ∧ rf_step_24 INV INV2 ∧ rf_step_25 INV INV2 ∧ rf_step_26 INV INV2 ∧ rf_step_27 INV INV2 ∧ rf_step_28 INV INV2 ∧ rf_step_29 INV INV2 ∧ rf_step_30 INV INV2 ∧ rf_step_31 INV INV2 ∧ rf_step_32 INV INV2 ∧ rf_step_33 INV INV2 ∧ rf_step_34 INV INV2 ∧ rf_step_35 INV INV2 ∧ rf_step_36 INV INV2 ∧ rf_step_37 INV INV2 ∧ rf_step_38 INV INV2 ∧ rf_step_39 INV INV2 ∧ rf_step_40 INV INV2 ∧ rf_step_41 INV INV2 ∧ rf_step_43 INV INV2 ∧ rf_step_44 INV INV2
def rf_Sys (INV : Nat → rf_INV) : Prop := ∀ j : Nat, j ≤ 512 → rf_Sys1 (INV j) (INV (j + 1)) ∧ ∀ (I : Nat → Int32) (J : Nat → Int64) (A : Nat → Nat → Int32) (B : Nat → Nat → Int64) (I2 : Nat → Int32) (A2 : Nat → Nat → Int32), INV j I J A B I2 A2 → INV (j + 1) I J A B I2 A2
def rf_led (INV INV2 : rf_INV) (p : Program) (l : Launch) (e : Env) (s : State) (m : MethodId) (below : List Frame) (meth : Method) (c : Code) (E : rf_E) (b L : Nat) (xs : Nat → Int32) (b2 : Nat → Nat) (o : Nat) : Prop :=
  ∀ (i cs ss : Nat) (a P : Nat → Nat) (I : Nat → Int32) (J : Nat → Int64) (A : Nat → Nat → Int32) (B : Nat → Nat → Int64) (I' : Nat → Int32) (A' : Nat → Nat → Int32) (fo : Nat → Int64) (rt : Nat), i + 7 ≤ L → cs + 1 ≤ 601024 → ss + 6 ≤ 7293034 → INV I J A B I' A' → P 0 = a 10 → P 1 = a 11 → P 2 = a 10 → P 3 = a rt → rf_K INV2 p l e s m below meth c E b b2 o i cs ss →
    ∀ (H : Heap) (locs : List Loc) (ls : Array Slot), va_P (rf_D E) vwCl (rf_LW E a b2 o P I J A B I' A' fo) H → va_D (rf_A s) (rf_LW E a b2 o P I J A B I' A' fo) → va_S (rf_A s) s.heap H locs → lv_has ls 7 [(0, .ref b), (1, .ref (a 0)), (2, .ref (b2 0)), (3, .ref o), (4, .int (nI i))] →
      W p l e room_1 s m #[Value.ref b] below meth c H locs cs ss (lw_Z below #[Value.ref b] s) (F0 m 1692 ls [])
set_option maxHeartbeats 4000000 in
set_option maxRecDepth 100000 in
theorem law_loop {INV : Nat → rf_INV} (hsys : rf_Sys INV) {p : Program} {l : Launch} {e : Env} {s : State} {m : MethodId} {below : List Frame} {meth : Method} {c : Code} {E : rf_E} {b L : Nat} {xs : Nat → Int32} {b2 : Nat → Nat} {o : Nat} (hled : ∀ j : Nat, j ≤ 512 → rf_led (INV j) (INV (j + 1)) p l e s m below meth c E b L xs b2 o)
    (hC : rf_C p E s m #[Value.ref b] meth c code 7 RL (some .boolean) (rf_A s)) (hX : va_X b L xs s s.heap) (hbl : b < s.heap.size) (hL : L ≤ 3584) (hret : meth.sig.returnType = ret) :
    ∀ (n i j : Nat), i = 7 * j → L + 8 ≤ i + n → i ≤ L + 7 → ∀ (a P : Nat → Nat) (I : Nat → Int32) (J : Nat → Int64) (A : Nat → Nat → Int32) (B : Nat → Nat → Int64) (I' : Nat → Int32) (A' : Nat → Nat → Int32) (fo : Nat → Int64) (rt : Nat), INV j I J A B I' A' → P 0 = a 10 → P 1 = a 11 → P 2 = a 10 → P 3 = a rt →
    ∀ (H : Heap) (locs : List Loc) (ls : Array Slot), va_P (rf_D E) vwCl (rf_LW E a b2 o P I J A B I' A' fo) H → va_D (rf_A s) (rf_LW E a b2 o P I J A B I' A' fo) → va_S (rf_A s) s.heap H locs → lv_has ls 7 [(0, .ref b), (1, .ref (a 0)), (2, .ref (b2 0)), (3, .ref o), (4, .int (nI i))] →
      W p l e room_1 s m #[Value.ref b] below meth c H locs (69 + j) (4668 + 6 * j) (lw_Z below #[Value.ref b] s) (F0 m 23 ls []) := by
  have hx := hC.1
  have hb := hC.2.1
  have hbA : ¬ rf_A s b := Nat.not_le.mpr hbl
  intro n
  induction n with
  | zero =>
    intro i j h1 h2 h3
    exact absurd h2 (by omega)
  | succ n ih =>
    intro i j hij h2 h3 a P I J A B I' A' fo rt hI p0 p1 p2 p3 H locs ls hP hD hS hl
    have hj : j ≤ 513 := by omega
    refine lv_iload hx hb dL_law_23 (lv_at hl 4 rfl) ?_
    refine lv_aload_n hx hb dL_law_25 rfl (lv_at hl 0 rfl) ?_
    refine va_slen hx hb hX hbl hbA hS dL_law_26 ?_
    refine lv_bipush (v := 7) hx hb dL_law_27 (by decide) ?_
    refine lv_isub hx hb dL_law_29 ?_
    refine lv_icmp_gt (tgt := 1792) hx hb dL_law_30 (by decide) (fun _ => ?_) (fun c1 => ?_)
    · refine lv_iconst (v := 1) hx hb dL_law_1792 (by decide) ?_
      refine va_forget (fun q hq => hS.2.2 q hq) ?_
      refine W.widen (k := 601024) (n := 7293034) (by omega) (by omega) ?_
      exact lw_ret hx hb hret hC.2.2.2.2.2.2.1 dL_law_1793
    have hi7 : i + 7 ≤ L := by
      by_cases h : L < i + 7
      · exact absurd ((rf_gt7 hL h3).mpr h) c1
      · omega
    have hsj := hsys j (by omega)
    have hk : rf_K (INV (j + 1)) p l e s m below meth c E b b2 o i (69 + j) (4668 + 6 * j) := by
      intro a P I J A B I' A' fo rt hI p0 p1 p2 p3 H locs ls hP hD hS hl
      refine lv_iinc (v := nI (i + 7)) (lv' := [(4, .int (nI (i + 7))), (0, .ref b), (1, .ref (a 0)), (2, .ref (b2 0)), (3, .ref o)]) hx hb dL_law_1786 hl (k := 4) rfl (nI_add i 7) (by decide) rfl (fun ls hl => ?_)
      refine lv_goto (tgt := 23) hx hb dL_law_1789 (by decide) ?_
      have := ih (i + 7) (j + 1) (by omega) (by omega) (by omega) a P I J A B I' A' fo rt hI p0 p1 p2 p3 _ _ _ hP hD hS (lv_sub hl [1, 2, 3, 4, 0] rfl)
      exact W.cs (by omega) (by omega) this
    have hcs : 69 + j + 1 ≤ 601024 := by omega
    have hss : 4668 + 6 * j + 6 ≤ 7293034 := by omega
    refine lv_aload_n hx hb dL_law_33 rfl (lv_at hl 0 rfl) ?_
    refine lv_iload hx hb dL_law_34 (lv_at hl 4 rfl) ?_
    refine va_sld hx hb hX hbl hbA hS (vp_in_nI (by omega) (by omega)) dL_law_36 ?_
    refine lv_bipush (v := 63) hx hb dL_law_37 (by decide) ?_
    refine lv_iand hx hb dL_law_39 ?_
    generalize xs (nI i).toNatClampNeg &&& 63 = x
    by_cases c_0 : x = 0
    · refine lv_tableIn (off := 196) (tgt := 236) hx hb dL_law_40 (by rw [c_0]; decide) (by rw [c_0]; decide) (by rw [c_0]; decide) (by decide) ?_
      exact law_case_0 (hsj.1.1) hC hX hbl hL hi7 hcs hss hI p0 p1 p2 p3 hk hP hD hS hl
    by_cases c_1 : x = 1
    · refine lv_tableIn (off := 269) (tgt := 309) hx hb dL_law_40 (by rw [c_1]; decide) (by rw [c_1]; decide) (by rw [c_1]; decide) (by decide) ?_
      exact law_case_1 (hsj.1.2.1) hC hX hbl hL hi7 hcs hss hI p0 p1 p2 p3 hk hP hD hS hl
    by_cases c_2 : x = 2
    · refine lv_tableIn (off := 294) (tgt := 334) hx hb dL_law_40 (by rw [c_2]; decide) (by rw [c_2]; decide) (by rw [c_2]; decide) (by decide) ?_
      exact law_case_2 (hsj.1.2.2.1) hC hX hbl hL hi7 hcs hss hI p0 p1 p2 p3 hk hP hD hS hl
    by_cases c_3 : x = 3
    · refine lv_tableIn (off := 307) (tgt := 347) hx hb dL_law_40 (by rw [c_3]; decide) (by rw [c_3]; decide) (by rw [c_3]; decide) (by decide) ?_
      exact law_case_3 (hsj.1.2.2.2.1) hC hX hbl hL hi7 hcs hss hI p0 p1 p2 p3 hk hP hD hS hl
    by_cases c_4 : x = 4
    · refine lv_tableIn (off := 320) (tgt := 360) hx hb dL_law_40 (by rw [c_4]; decide) (by rw [c_4]; decide) (by rw [c_4]; decide) (by decide) ?_
      exact law_case_4 (hsj.1.2.2.2.2.1) hC hX hbl hL hi7 hcs hss hI p0 p1 p2 p3 hk hP hD hS hl
    by_cases c_5 : x = 5
    · refine lv_tableIn (off := 357) (tgt := 397) hx hb dL_law_40 (by rw [c_5]; decide) (by rw [c_5]; decide) (by rw [c_5]; decide) (by decide) ?_
      exact law_case_5 (hsj.1.2.2.2.2.2.1) hC hX hbl hL hi7 hcs hss hI p0 p1 p2 p3 hk hP hD hS hl
    by_cases c_6 : x = 6
    · refine lv_tableIn (off := 394) (tgt := 434) hx hb dL_law_40 (by rw [c_6]; decide) (by rw [c_6]; decide) (by rw [c_6]; decide) (by decide) ?_
      exact law_case_6 (hsj.1.2.2.2.2.2.2.1) hC hX hbl hL hi7 hcs hss hI p0 p1 p2 p3 hk hP hD hS hl
    by_cases c_7 : x = 7
    · refine lv_tableIn (off := 431) (tgt := 471) hx hb dL_law_40 (by rw [c_7]; decide) (by rw [c_7]; decide) (by rw [c_7]; decide) (by decide) ?_
      exact law_case_7 (hsj.1.2.2.2.2.2.2.2.1) hC hX hbl hL hi7 hcs hss hI p0 p1 p2 p3 hk hP hD hS hl
    by_cases c_8 : x = 8
    · refine lv_tableIn (off := 468) (tgt := 508) hx hb dL_law_40 (by rw [c_8]; decide) (by rw [c_8]; decide) (by rw [c_8]; decide) (by decide) ?_
      exact law_case_8 (hsj.1.2.2.2.2.2.2.2.2.1) hC hX hbl hL hi7 hcs hss hI p0 p1 p2 p3 hk hP hD hS hl
    by_cases c_9 : x = 9
    · refine lv_tableIn (off := 493) (tgt := 533) hx hb dL_law_40 (by rw [c_9]; decide) (by rw [c_9]; decide) (by rw [c_9]; decide) (by decide) ?_
      exact law_case_9 (hsj.1.2.2.2.2.2.2.2.2.2.1) hC hX hbl hL hi7 hcs hss hI p0 p1 p2 p3 hk hP hD hS hl
    by_cases c_10 : x = 10
    · refine lv_tableIn (off := 542) (tgt := 582) hx hb dL_law_40 (by rw [c_10]; decide) (by rw [c_10]; decide) (by rw [c_10]; decide) (by decide) ?_
      exact law_case_10 (hsj.1.2.2.2.2.2.2.2.2.2.2.1) hC hX hbl hL hi7 hcs hss hI p0 p1 p2 p3 hk hP hD hS hl
    by_cases c_11 : x = 11
    · refine lv_tableIn (off := 579) (tgt := 619) hx hb dL_law_40 (by rw [c_11]; decide) (by rw [c_11]; decide) (by rw [c_11]; decide) (by decide) ?_
      exact law_case_11 (hsj.1.2.2.2.2.2.2.2.2.2.2.2.1) hC hX hbl hL hi7 hcs hss hI p0 p1 p2 p3 hk hP hD hS hl
    by_cases c_12 : x = 12
    · refine lv_tableIn (off := 604) (tgt := 644) hx hb dL_law_40 (by rw [c_12]; decide) (by rw [c_12]; decide) (by rw [c_12]; decide) (by decide) ?_
      exact law_case_12 (hsj.1.2.2.2.2.2.2.2.2.2.2.2.2.1) hC hX hbl hL hi7 hcs hss hI p0 p1 p2 p3 hk hP hD hS hl
    by_cases c_13 : x = 13
    · refine lv_tableIn (off := 641) (tgt := 681) hx hb dL_law_40 (by rw [c_13]; decide) (by rw [c_13]; decide) (by rw [c_13]; decide) (by decide) ?_
      exact law_case_13 (hsj.1.2.2.2.2.2.2.2.2.2.2.2.2.2.1) hC hX hbl hL hi7 hcs hss hI p0 p1 p2 p3 hk hP hD hS hl
    by_cases c_14 : x = 14
    · refine lv_tableIn (off := 666) (tgt := 706) hx hb dL_law_40 (by rw [c_14]; decide) (by rw [c_14]; decide) (by rw [c_14]; decide) (by decide) ?_
      exact law_case_14 (hsj.1.2.2.2.2.2.2.2.2.2.2.2.2.2.2.1) hC hX hbl hL hi7 hcs hss hI p0 p1 p2 p3 hk hP hD hS hl
    by_cases c_15 : x = 15
    · refine lv_tableIn (off := 703) (tgt := 743) hx hb dL_law_40 (by rw [c_15]; decide) (by rw [c_15]; decide) (by rw [c_15]; decide) (by decide) ?_
      exact law_case_15 (hsj.1.2.2.2.2.2.2.2.2.2.2.2.2.2.2.2.1) hC hX hbl hL hi7 hcs hss hI p0 p1 p2 p3 hk hP hD hS hl
    by_cases c_16 : x = 16
    · refine lv_tableIn (off := 752) (tgt := 792) hx hb dL_law_40 (by rw [c_16]; decide) (by rw [c_16]; decide) (by rw [c_16]; decide) (by decide) ?_
      exact law_case_16 (hsj.1.2.2.2.2.2.2.2.2.2.2.2.2.2.2.2.2.1) hC hX hbl hL hi7 hcs hss hI p0 p1 p2 p3 hk hP hD hS hl
    by_cases c_17 : x = 17
    · refine lv_tableIn (off := 789) (tgt := 829) hx hb dL_law_40 (by rw [c_17]; decide) (by rw [c_17]; decide) (by rw [c_17]; decide) (by decide) ?_
      exact law_case_17 (hsj.1.2.2.2.2.2.2.2.2.2.2.2.2.2.2.2.2.2.1) hC hX hbl hL hi7 hcs hss hI p0 p1 p2 p3 hk hP hD hS hl
    by_cases c_18 : x = 18
    · refine lv_tableIn (off := 826) (tgt := 866) hx hb dL_law_40 (by rw [c_18]; decide) (by rw [c_18]; decide) (by rw [c_18]; decide) (by decide) ?_
      exact law_case_18 (hsj.1.2.2.2.2.2.2.2.2.2.2.2.2.2.2.2.2.2.2.1) hC hX hbl hL hi7 hcs hss hI p0 p1 p2 p3 hk hP hD hS hl
    by_cases c_19 : x = 19
    · refine lv_tableIn (off := 863) (tgt := 903) hx hb dL_law_40 (by rw [c_19]; decide) (by rw [c_19]; decide) (by rw [c_19]; decide) (by decide) ?_
      exact law_case_19 (hsj.1.2.2.2.2.2.2.2.2.2.2.2.2.2.2.2.2.2.2.2.1) hC hX hbl hL hi7 hcs hss hI p0 p1 p2 p3 hk hP hD hS hl
    by_cases c_20 : x = 20
    · refine lv_tableIn (off := 900) (tgt := 940) hx hb dL_law_40 (by rw [c_20]; decide) (by rw [c_20]; decide) (by rw [c_20]; decide) (by decide) ?_
      exact law_case_20 (hsj.1.2.2.2.2.2.2.2.2.2.2.2.2.2.2.2.2.2.2.2.2.1) hC hX hbl hL hi7 hcs hss hI p0 p1 p2 p3 hk hP hD hS hl
    by_cases c_21 : x = 21
    · refine lv_tableIn (off := 949) (tgt := 989) hx hb dL_law_40 (by rw [c_21]; decide) (by rw [c_21]; decide) (by rw [c_21]; decide) (by decide) ?_
      exact law_case_21 (hsj.1.2.2.2.2.2.2.2.2.2.2.2.2.2.2.2.2.2.2.2.2.2.1) hC hX hbl hL hi7 hcs hss hI p0 p1 p2 p3 hk hP hD hS hl
    by_cases c_22 : x = 22
    · refine lv_tableIn (off := 986) (tgt := 1026) hx hb dL_law_40 (by rw [c_22]; decide) (by rw [c_22]; decide) (by rw [c_22]; decide) (by decide) ?_
      exact law_case_22 (hsj.1.2.2.2.2.2.2.2.2.2.2.2.2.2.2.2.2.2.2.2.2.2.2.1) hC hX hbl hL hi7 hcs hss hI p0 p1 p2 p3 hk hP hD hS hl
    by_cases c_23 : x = 23
    · refine lv_tableIn (off := 1011) (tgt := 1051) hx hb dL_law_40 (by rw [c_23]; decide) (by rw [c_23]; decide) (by rw [c_23]; decide) (by decide) ?_
      exact law_case_23 (hsj.1.2.2.2.2.2.2.2.2.2.2.2.2.2.2.2.2.2.2.2.2.2.2.2.1) hC hX hbl hL hi7 hcs hss hI p0 p1 p2 p3 hk hP hD hS hl
    by_cases c_24 : x = 24
    · refine lv_tableIn (off := 1024) (tgt := 1064) hx hb dL_law_40 (by rw [c_24]; decide) (by rw [c_24]; decide) (by rw [c_24]; decide) (by decide) ?_
      exact law_case_24 (hsj.1.2.2.2.2.2.2.2.2.2.2.2.2.2.2.2.2.2.2.2.2.2.2.2.2.1) hC hX hbl hL hi7 hcs hss hI p0 p1 p2 p3 hk hP hD hS hl
    by_cases c_25 : x = 25
    · refine lv_tableIn (off := 1061) (tgt := 1101) hx hb dL_law_40 (by rw [c_25]; decide) (by rw [c_25]; decide) (by rw [c_25]; decide) (by decide) ?_
      exact law_case_25 (hsj.1.2.2.2.2.2.2.2.2.2.2.2.2.2.2.2.2.2.2.2.2.2.2.2.2.2.1) hC hX hbl hL hi7 hcs hss hI p0 p1 p2 p3 hk hP hD hS hl
    by_cases c_26 : x = 26
    · refine lv_tableIn (off := 1098) (tgt := 1138) hx hb dL_law_40 (by rw [c_26]; decide) (by rw [c_26]; decide) (by rw [c_26]; decide) (by decide) ?_
      exact law_case_26 (hsj.1.2.2.2.2.2.2.2.2.2.2.2.2.2.2.2.2.2.2.2.2.2.2.2.2.2.2.1) hC hX hbl hL hi7 hcs hss hI p0 p1 p2 p3 hk hP hD hS hl
    by_cases c_27 : x = 27
    · refine lv_tableIn (off := 1135) (tgt := 1175) hx hb dL_law_40 (by rw [c_27]; decide) (by rw [c_27]; decide) (by rw [c_27]; decide) (by decide) ?_
      exact law_case_27 (hsj.1.2.2.2.2.2.2.2.2.2.2.2.2.2.2.2.2.2.2.2.2.2.2.2.2.2.2.2.1) hC hX hbl hL hi7 hcs hss hI p0 p1 p2 p3 hk hP hD hS hl
    by_cases c_28 : x = 28
    · refine lv_tableIn (off := 1148) (tgt := 1188) hx hb dL_law_40 (by rw [c_28]; decide) (by rw [c_28]; decide) (by rw [c_28]; decide) (by decide) ?_
      exact law_case_28 (hsj.1.2.2.2.2.2.2.2.2.2.2.2.2.2.2.2.2.2.2.2.2.2.2.2.2.2.2.2.2.1) hC hX hbl hL hi7 hcs hss hI p0 p1 p2 p3 hk hP hD hS hl
    by_cases c_29 : x = 29
    · refine lv_tableIn (off := 1189) (tgt := 1229) hx hb dL_law_40 (by rw [c_29]; decide) (by rw [c_29]; decide) (by rw [c_29]; decide) (by decide) ?_
      exact law_case_29 (hsj.1.2.2.2.2.2.2.2.2.2.2.2.2.2.2.2.2.2.2.2.2.2.2.2.2.2.2.2.2.2.1) hC hX hbl hL hi7 hcs hss hI p0 p1 p2 p3 hk hP hD hS hl
    by_cases c_30 : x = 30
    · refine lv_tableIn (off := 1202) (tgt := 1242) hx hb dL_law_40 (by rw [c_30]; decide) (by rw [c_30]; decide) (by rw [c_30]; decide) (by decide) ?_
      exact law_case_30 (hsj.1.2.2.2.2.2.2.2.2.2.2.2.2.2.2.2.2.2.2.2.2.2.2.2.2.2.2.2.2.2.2.1) hC hX hbl hL hi7 hcs hss hI p0 p1 p2 p3 hk hP hD hS hl
    by_cases c_31 : x = 31
    · refine lv_tableIn (off := 1215) (tgt := 1255) hx hb dL_law_40 (by rw [c_31]; decide) (by rw [c_31]; decide) (by rw [c_31]; decide) (by decide) ?_
      exact law_case_31 (hsj.1.2.2.2.2.2.2.2.2.2.2.2.2.2.2.2.2.2.2.2.2.2.2.2.2.2.2.2.2.2.2.2.1) hC hX hbl hL hi7 hcs hss hI p0 p1 p2 p3 hk hP hD hS hl
    by_cases c_32 : x = 32
    · refine lv_tableIn (off := 1318) (tgt := 1358) hx hb dL_law_40 (by rw [c_32]; decide) (by rw [c_32]; decide) (by rw [c_32]; decide) (by decide) ?_
      exact law_case_32 (hsj.1.2.2.2.2.2.2.2.2.2.2.2.2.2.2.2.2.2.2.2.2.2.2.2.2.2.2.2.2.2.2.2.2.1) hC hX hbl hL hi7 hcs hss hI p0 p1 p2 p3 hk hP hD hS hl
    by_cases c_33 : x = 33
    · refine lv_tableIn (off := 1367) (tgt := 1407) hx hb dL_law_40 (by rw [c_33]; decide) (by rw [c_33]; decide) (by rw [c_33]; decide) (by decide) ?_
      exact law_case_33 (hsj.1.2.2.2.2.2.2.2.2.2.2.2.2.2.2.2.2.2.2.2.2.2.2.2.2.2.2.2.2.2.2.2.2.2.1) hC hX hbl hL hi7 hcs hss hI p0 p1 p2 p3 hk hP hD hS hl
    by_cases c_34 : x = 34
    · refine lv_tableIn (off := 1416) (tgt := 1456) hx hb dL_law_40 (by rw [c_34]; decide) (by rw [c_34]; decide) (by rw [c_34]; decide) (by decide) ?_
      exact law_case_34 (hsj.1.2.2.2.2.2.2.2.2.2.2.2.2.2.2.2.2.2.2.2.2.2.2.2.2.2.2.2.2.2.2.2.2.2.2.1) hC hX hbl hL hi7 hcs hss hI p0 p1 p2 p3 hk hP hD hS hl
    by_cases c_35 : x = 35
    · refine lv_tableIn (off := 1453) (tgt := 1493) hx hb dL_law_40 (by rw [c_35]; decide) (by rw [c_35]; decide) (by rw [c_35]; decide) (by decide) ?_
      exact law_case_35 (hsj.1.2.2.2.2.2.2.2.2.2.2.2.2.2.2.2.2.2.2.2.2.2.2.2.2.2.2.2.2.2.2.2.2.2.2.2.1) hC hX hbl hL hi7 hcs hss hI p0 p1 p2 p3 hk hP hD hS hl
    by_cases c_36 : x = 36
    · refine lv_tableIn (off := 1502) (tgt := 1542) hx hb dL_law_40 (by rw [c_36]; decide) (by rw [c_36]; decide) (by rw [c_36]; decide) (by decide) ?_
      exact law_case_36 (hsj.1.2.2.2.2.2.2.2.2.2.2.2.2.2.2.2.2.2.2.2.2.2.2.2.2.2.2.2.2.2.2.2.2.2.2.2.2.1) hC hX hbl hL hi7 hcs hss hI p0 p1 p2 p3 hk hP hD hS hl
    by_cases c_37 : x = 37
    · refine lv_tableIn (off := 1539) (tgt := 1579) hx hb dL_law_40 (by rw [c_37]; decide) (by rw [c_37]; decide) (by rw [c_37]; decide) (by decide) ?_
      exact law_case_37 (hsj.1.2.2.2.2.2.2.2.2.2.2.2.2.2.2.2.2.2.2.2.2.2.2.2.2.2.2.2.2.2.2.2.2.2.2.2.2.2.1) hC hX hbl hL hi7 hcs hss hI p0 p1 p2 p3 hk hP hD hS hl
    by_cases c_38 : x = 38
    · refine lv_tableIn (off := 1576) (tgt := 1616) hx hb dL_law_40 (by rw [c_38]; decide) (by rw [c_38]; decide) (by rw [c_38]; decide) (by decide) ?_
      exact law_case_38 (hsj.1.2.2.2.2.2.2.2.2.2.2.2.2.2.2.2.2.2.2.2.2.2.2.2.2.2.2.2.2.2.2.2.2.2.2.2.2.2.2.1) hC hX hbl hL hi7 hcs hss hI p0 p1 p2 p3 hk hP hD hS hl
    by_cases c_39 : x = 39
    · refine lv_tableIn (off := 1601) (tgt := 1641) hx hb dL_law_40 (by rw [c_39]; decide) (by rw [c_39]; decide) (by rw [c_39]; decide) (by decide) ?_
      exact law_case_39 (hsj.1.2.2.2.2.2.2.2.2.2.2.2.2.2.2.2.2.2.2.2.2.2.2.2.2.2.2.2.2.2.2.2.2.2.2.2.2.2.2.2.1) hC hX hbl hL hi7 hcs hss hI p0 p1 p2 p3 hk hP hD hS hl
    by_cases c_40 : x = 40
    · refine lv_tableIn (off := 1614) (tgt := 1654) hx hb dL_law_40 (by rw [c_40]; decide) (by rw [c_40]; decide) (by rw [c_40]; decide) (by decide) ?_
      exact law_case_40 (hsj.1.2.2.2.2.2.2.2.2.2.2.2.2.2.2.2.2.2.2.2.2.2.2.2.2.2.2.2.2.2.2.2.2.2.2.2.2.2.2.2.2.1) hC hX hbl hL hi7 hcs hss hI p0 p1 p2 p3 hk hP hD hS hl
    by_cases c_41 : x = 41
    · refine lv_tableIn (off := 1627) (tgt := 1667) hx hb dL_law_40 (by rw [c_41]; decide) (by rw [c_41]; decide) (by rw [c_41]; decide) (by decide) ?_
      exact law_case_41 (hsj.1.2.2.2.2.2.2.2.2.2.2.2.2.2.2.2.2.2.2.2.2.2.2.2.2.2.2.2.2.2.2.2.2.2.2.2.2.2.2.2.2.2.1) hC hX hbl hL hi7 hcs hss hI p0 p1 p2 p3 hk hP hD hS hl
    by_cases c_42 : x = 42
    · refine lv_tableIn (off := 1652) (tgt := 1692) hx hb dL_law_40 (by rw [c_42]; decide) (by rw [c_42]; decide) (by rw [c_42]; decide) (by decide) ?_
      exact hled j (by omega) i _ _ a P I J A B I' A' fo rt hi7 hcs hss hI p0 p1 p2 p3 hk _ _ _ hP hD hS hl
    by_cases c_43 : x = 43
    · refine lv_tableIn (off := 1708) (tgt := 1748) hx hb dL_law_40 (by rw [c_43]; decide) (by rw [c_43]; decide) (by rw [c_43]; decide) (by decide) ?_
      exact law_case_43 (hsj.1.2.2.2.2.2.2.2.2.2.2.2.2.2.2.2.2.2.2.2.2.2.2.2.2.2.2.2.2.2.2.2.2.2.2.2.2.2.2.2.2.2.2.1) hC hX hbl hL hi7 hcs hss hI p0 p1 p2 p3 hk hP hD hS hl
    by_cases c_44 : x = 44
    · refine lv_tableIn (off := 1733) (tgt := 1773) hx hb dL_law_40 (by rw [c_44]; decide) (by rw [c_44]; decide) (by rw [c_44]; decide) (by decide) ?_
      exact law_case_44 (hsj.1.2.2.2.2.2.2.2.2.2.2.2.2.2.2.2.2.2.2.2.2.2.2.2.2.2.2.2.2.2.2.2.2.2.2.2.2.2.2.2.2.2.2.2) hC hX hbl hL hi7 hcs hss hI p0 p1 p2 p3 hk hP hD hS hl
    refine lv_tableOut (tgt := 1786) hx hb dL_law_40 (rf_tout_0_45 ?_) (by decide) ?_
    · intro k hk45 hxk
      have hall : ∀ q : Nat, q < 45 → ¬ x = nI q := by
        intro q hq
        rcases (show q = 0 ∨ q = 1 ∨ q = 2 ∨ q = 3 ∨ q = 4 ∨ q = 5 ∨ q = 6 ∨ q = 7 ∨ q = 8 ∨ q = 9 ∨ q = 10 ∨ q = 11 ∨ q = 12 ∨ q = 13 ∨ q = 14 ∨ q = 15 ∨ q = 16 ∨ q = 17 ∨ q = 18 ∨ q = 19 ∨ q = 20 ∨ q = 21 ∨ q = 22 ∨ q = 23 ∨ q = 24 ∨ q = 25 ∨ q = 26 ∨ q = 27 ∨ q = 28 ∨ q = 29 ∨ q = 30 ∨ q = 31 ∨ q = 32 ∨ q = 33 ∨ q = 34 ∨ q = 35 ∨ q = 36 ∨ q = 37 ∨ q = 38 ∨ q = 39 ∨ q = 40 ∨ q = 41 ∨ q = 42 ∨ q = 43 ∨ q = 44 by omega) with rfl | rfl | rfl | rfl | rfl | rfl | rfl | rfl | rfl | rfl | rfl | rfl | rfl | rfl | rfl | rfl | rfl | rfl | rfl | rfl | rfl | rfl | rfl | rfl | rfl | rfl | rfl | rfl | rfl | rfl | rfl | rfl | rfl | rfl | rfl | rfl | rfl | rfl | rfl | rfl | rfl | rfl | rfl | rfl | rfl
        · exact c_0
        · exact c_1
        · exact c_2
        · exact c_3
        · exact c_4
        · exact c_5
        · exact c_6
        · exact c_7
        · exact c_8
        · exact c_9
        · exact c_10
        · exact c_11
        · exact c_12
        · exact c_13
        · exact c_14
        · exact c_15
        · exact c_16
        · exact c_17
        · exact c_18
        · exact c_19
        · exact c_20
        · exact c_21
        · exact c_22
        · exact c_23
        · exact c_24
        · exact c_25
        · exact c_26
        · exact c_27
        · exact c_28
        · exact c_29
        · exact c_30
        · exact c_31
        · exact c_32
        · exact c_33
        · exact c_34
        · exact c_35
        · exact c_36
        · exact c_37
        · exact c_38
        · exact c_39
        · exact c_40
        · exact c_41
        · exact c_42
        · exact c_43
        · exact c_44
      exact hall k hk45 hxk
    · refine W.widen (k := 69 + j + 1) (n := 4668 + 6 * j + 6) (by omega) (by omega) ?_
      exact hk a P I J A B I' A' fo rt (hsj.2 _ _ _ _ _ _ hI) p0 p1 p2 p3 _ _ _ hP hD hS hl
