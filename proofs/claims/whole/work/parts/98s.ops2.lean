/-! letters, sounds, new names -/
theorem i64_32 (q : Nat) : Int64.toInt32 (Int64.ofNat q) = nI q := by
  apply Int32.toBitVec_inj.mp
  rw [Int64.toBitVec_toInt32]
  unfold nI
  rw [Int32.toBitVec_ofNat', Int64.toBitVec_ofNat']
  apply BitVec.eq_of_toNat_eq
  rw [BitVec.signExtend_eq_setWidth_of_le _ (by decide), BitVec.toNat_setWidth, BitVec.toNat_ofNat, BitVec.toNat_ofNat]
  omega
theorem and31_64 (q : Nat) : Int64.ofNat q &&& 31 = Int64.ofNat (q % 32) := by
  apply Int64.toBitVec_inj.mp
  rw [Int64.toBitVec_and, Int64.toBitVec_ofNat', Int64.toBitVec_ofNat']
  apply BitVec.eq_of_toNat_eq
  rw [BitVec.toNat_and, BitVec.toNat_ofNat, BitVec.toNat_ofNat]
  rw [show (Int64.toBitVec 31).toNat = 2 ^ 5 - 1 from rfl, Nat.and_two_pow_sub_one_eq_mod]
  omega
theorem i64_le8 {q : Nat} (h : q < 2 ^ 63) : (Int64.ofNat q ≤ 8) ↔ q ≤ 8 := by
  rw [Int64.le_iff_toInt_le, Int64.toInt_ofNat_of_lt h, show (8 : Int64).toInt = 8 by decide]
  omega
theorem i64_gt8 {q : Nat} (h : q < 2 ^ 63) : (8 < Int64.ofNat q) ↔ 8 < q := by
  rw [Int64.lt_iff_toInt_lt, Int64.toInt_ofNat_of_lt h, show (8 : Int64).toInt = 8 by decide]
  omega
theorem areL4 {v : Nat} {L : Nat → Nat} {la : Nat → Int32} (hv : v ≤ 8) (hL : ∀ j, j < v → 1 ≤ L j ∧ L j ≤ 26 ∧ la j = nI (L j + 96)) : ∀ d n i : Nat, ∀ c : Bool, i + d = v → d < n → c = allB (fun i => decide (L i ≤ 8)) i → f_X11_areLetters_4 (nI v) la n (bI c) (nI i) = some (bI (allB (fun i => decide (L i ≤ 8)) v)) := by
  intro d
  induction d with
  | zero =>
    intro n i c hi hn hc
    obtain ⟨n', rfl, _⟩ := fuel_succ hn
    obtain rfl : i = v := by omega
    rw [f_X11_areLetters_4, if_pos (nI_le (Nat.le_refl _) (by omega)), ← hc]
    cases c <;> rfl
  | succ d ih =>
    intro n i c hi hn hc
    obtain ⟨n', rfl, _⟩ := fuel_succ hn
    obtain ⟨l1, l2, l3⟩ := hL i (by omega)
    rw [f_X11_areLetters_4]
    simp only [f_X11_areLetters_36, f_X11_areLetters_37]
    rw [if_neg (nI_ge (by omega) (by omega)), nI_1]
    cases c
    · rw [if_pos (show bI false = 0 from rfl)]
      exact ih n' (i + 1) false (by omega) (by omega) (by rw [allB, ← hc]; rfl)
    · rw [if_neg (show ¬ bI true = 0 by decide), if_pos (pb_ibt (by omega) (by omega)), nI_clamp (by omega), l3, show f_X11_in (nI (L i + 96)) 97 104 = _ from inN (l := 97) (u := 104) (by omega) (by decide) (by decide), pb_bind]
      by_cases e : L i ≤ 8
      · rw [decide_eq_true (show 97 ≤ L i + 96 ∧ L i + 96 ≤ 104 by omega), if_neg (show ¬ bI true = 0 by decide)]
        exact ih n' (i + 1) true (by omega) (by omega) (by rw [allB, ← hc, decide_eq_true e]; rfl)
      · rw [decide_eq_false (show ¬ (97 ≤ L i + 96 ∧ L i + 96 ≤ 104) by omega), if_pos (show bI false = 0 from rfl)]
        exact ih n' (i + 1) false (by omega) (by omega) (by rw [allB, ← hc, decide_eq_false e]; rfl)
theorem areLetters_s {v : Nat} {L : Nat → Nat} {la : Nat → Int32} (hv : v ≤ 8) (hL : ∀ j, j < v → 1 ≤ L j ∧ L j ≤ 26 ∧ la j = nI (L j + 96)) : f_X11_areLetters (nI v) la = some (bI (allB (fun i => decide (L i ≤ 8)) v)) :=
  areL4 hv hL v rf_fu 0 true (by omega) (by show v < 4096; omega) rfl
theorem pkN_dig {f : Nat → Nat} : ∀ n i, (∀ k, k < n → f k ≤ 31) → pkN f n / 32 ^ i % 32 = if i < n then f (n - 1 - i) else 0 := by
  intro n
  induction n with
  | zero =>
    intro i _
    rw [pkN, Nat.zero_div, if_neg (by omega)]
  | succ n ih =>
    intro i h
    have hn := h n (by omega)
    cases i with
    | zero =>
      rw [Nat.pow_zero, Nat.div_one, pkN_mod hn, if_pos (by omega)]
      rfl
    | succ i =>
      rw [Nat.pow_succ, Nat.mul_comm, ← Nat.div_div_eq_div_mul, pkN_div hn, ih i (fun k hk => h k (by omega))]
      by_cases e : i < n
      · rw [if_pos e, if_pos (by omega), show n + 1 - 1 - (i + 1) = n - 1 - i by omega]
      · rw [if_neg e, if_neg (by omega)]
/-- a token is one word at most -/
theorem isT_two {k v : Nat} {L : Nat → Nat} {j j' : Nat} (h : isT k v L j = true) (h' : isT k v L j' = true) : rf_len j = rf_len j' ∧ ∀ i, i < rf_len j → sB j i = sB j' i := by
  unfold isT at h h'
  rw [Bool.and_eq_true, Bool.and_eq_true, allB_iff] at h h'
  have e1 := of_decide_eq_true h.2.1
  have e2 := of_decide_eq_true h'.2.1
  refine ⟨by omega, fun i hi => ?_⟩
  rw [← of_decide_eq_true (h.2.2 i (by omega)), ← of_decide_eq_true (h'.2.2 i (by omega))]
section
variable {n : Nat} {x m : Nat → Int32} {a b k v : Nat} {L : Nat → Nat} {zX : tX} {zM : tM}
theorem isT_empty (h : tokZ n a b k v L zX zM) : isT k v L 43 = false := by
  unfold isT
  by_cases h1 : k = 1
  · have := (h.h1 h1).1
    rw [decide_eq_false (show ¬ v = rf_len 43 by rw [show rf_len 43 = 0 from rfl]; omega), Bool.false_and, Bool.and_false]
  · rw [decide_eq_false h1, Bool.false_and]
theorem letter_s (h : tokZ n a b k v L zX zM) (found fp plc : Int32) :
    (∃ f, 1 ≤ f ∧ f ≤ 7 ∧ f_X5_seesLetter zX.2.1 zX.2.2.1 zX.2.2.2.1 zX.2.2.2.2.1 found 0 fp = some (0, found, nI f, nI a) ∧ f_X11_letterHere zM.1 zM.2.2.1 zM.2.2.2.2.1 zM.2.2.2.2.2 0 plc 0 = some (0, nI f, nI a, 1)) ∨
    ∃ c, c < 8 ∧ f_X5_seesLetter zX.2.1 zX.2.2.1 zX.2.2.2.1 zX.2.2.2.2.1 found 0 fp = some (1, nI (c + 1), 0, fp) ∧ f_X11_letterHere zM.1 zM.2.2.1 zM.2.2.2.2.1 zM.2.2.2.2.2 0 plc 0 = some (nI c, 0, plc, 0) := by
  unfold f_X5_seesLetter f_X5_seesLetter_33 f_X11_letterHere f_X11_letterHere_44 f_X11_letterHere_54
  have hk := h.hk
  rw [h.hso, h.hto, h.hpl, h.hat]
  by_cases h1 : k = 1
  · obtain ⟨v1, v2, v3, v4, v5, v6⟩ := h.h1 h1
    rw [if_pos (show nI k = 1 by rw [h1]; rfl), if_pos (show nI (tkF k) = 2 by rw [h1]; rfl), v3, v4, v5]
    by_cases hv : v = 1
    · obtain ⟨l1, l2, l3⟩ := v6 0 (by omega)
      have hA := areLetters_s v2 v6
      have hpk : pkN L v = L 0 := by rw [hv, pkN, pkN]; omega
      have hall : allB (fun i => decide (L i ≤ 8)) v = decide (L 0 ≤ 8) := by rw [hv, allB, allB]; rfl
      rw [if_pos (show nI v = 1 by rw [hv]; rfl), if_pos (show nI v = 1 by rw [hv]; rfl), hA, hpk, hall, pb_bind]
      by_cases h8 : L 0 ≤ 8
      · right
        refine ⟨L 0 - 1, by omega, ?_, ?_⟩
        · rw [if_pos ((lg_cmp_le _ _).mpr ((i64_le8 (by omega)).mpr h8)), i64_32, show L 0 - 1 + 1 = L 0 by omega]
        · rw [decide_eq_true h8, if_neg (show ¬ bI true = 0 by decide), cl0, l3, if_pos rfl, if_pos rfl, show nI (L 0 + 96) - 97 = nI (L 0 - 1) by rw [show (97 : Int32) = nI 97 from rfl, pb_sub (by omega), show L 0 + 96 - 97 = L 0 - 1 by omega]]
      · left
        refine ⟨7, by omega, by omega, ?_, ?_⟩
        · rw [if_neg (fun z => h8 ((i64_le8 (by omega)).mp ((lg_cmp_le _ _).mp z)))]; rfl
        · rw [decide_eq_false h8]; rfl
    · left
      have hn1 : ¬ nI v = 1 := fun z => hv ((nI_eq (b := 1) (by omega) (by decide)).mp z)
      refine ⟨7, by omega, by omega, ?_, ?_⟩
      · rw [if_neg hn1]; rfl
      · rw [if_pos rfl, if_neg hn1]; rfl
  · left
    refine ⟨1, by omega, by omega, ?_, ?_⟩
    · rw [if_neg (show ¬ nI k = 1 from fun z => h1 ((nI_eq (b := 1) (by omega) (by decide)).mp z))]; rfl
    · rw [if_pos rfl, if_neg (tkF_ne (t := 0) hk h1)]; rfl
theorem newN45 {s : Nat} (hs : s < 18) {v : Nat} (hv : v ≤ 8) (to ft plc fd at_ en wm : Int32) (la : Nat → Int32) {yM : tM} (hy : f_X11_next (nI n) m at_ en to wm (nI v) la = some yM) : ∀ d f i : Nat, ∀ fr : Nat → Int32, i + d = v → d < f →
    ∃ fr', f_X11_newName_45 (nI n) m f (nI s) (nI i) at_ en to wm (nI v) ft plc fd la fr = some (yM.1, yM.2.1, yM.2.2.1, yM.2.2.2.1, yM.2.2.2.2.1, ft, plc, fd, yM.2.2.2.2.2, fr') ∧ fr' (171 + s) = nI v ∧ (∀ k, i ≤ k → k < v → fr' (189 + 8 * s + k) = la k) ∧ ∀ j, j ≠ 171 + s → ¬ (189 + 8 * s + i ≤ j ∧ j < 189 + 8 * s + v) → fr' j = fr j := by
  intro d
  induction d with
  | zero =>
    intro f i fr hi hf
    obtain ⟨f', rfl, _⟩ := fuel_succ hf
    have e : (171 : Int32) + nI s = nI (171 + s) := by rw [show (171 : Int32) = nI 171 from rfl, pb_add]
    refine ⟨upd fr (171 + s) (nI v), ?_, upd_same _ _ _, fun k h1 h2 => by omega, fun j h1 _ => upd_ne _ _ h1⟩
    rw [f_X11_newName_45, if_pos (nI_le (by omega) (by omega)), e, if_pos (pb_ibt (by omega) (by omega)), hy, pb_bind, nI_clamp (by omega)]
  | succ d ih =>
    intro f i fr hi hf
    obtain ⟨f', rfl, _⟩ := fuel_succ hf
    have e : ((189 : Int32) + ((8 : Int32) * nI s)) + nI i = nI (189 + 8 * s + i) := by
      rw [show (189 : Int32) = nI 189 from rfl, show (8 : Int32) = nI 8 from rfl, pb_mul, pb_add, pb_add]
    obtain ⟨fr', q1, q2, q3, q4⟩ := ih f' (i + 1) (upd fr (189 + 8 * s + i) (la i)) (by omega) (by omega)
    refine ⟨fr', ?_, q2, fun k h1 h2 => ?_, fun j h1 h2 => ?_⟩
    · rw [f_X11_newName_45, if_neg (nI_ge (by omega) (by omega)), if_pos (pb_ibt (by omega) (by omega)), e, if_pos (pb_ibt (by omega) (by omega)), nI_clamp (by omega), nI_clamp (by omega), nI_1]
      exact q1
    · by_cases ek : k = i
      · subst ek
        rw [q4 _ (by omega) (by omega), upd_same]
      · exact q3 k (by omega) h2
    · rw [q4 j h1 (by omega), upd_ne _ _ (by omega)]
theorem newName_s (hK : lookOk n x m) (h : tokZ n a b k v L zX zM) {W P : Nat} {fr : Nat → Int32} {wn pn : Nat → Int64} (hN : nmR W P fr wn pn) {s : Nat} (hs : s < 18) (name : Int64) (fp plc : Int32) :
    (∃ f, 1 ≤ f ∧ f ≤ 7 ∧ f_X5_takesNewName (nI W) (nI P) (nI n) x wn pn zX.1 zX.2.1 zX.2.2.1 zX.2.2.2.1 zX.2.2.2.2.1 zX.2.2.2.2.2 name 0 fp = some (0, zX.1, zX.2.1, zX.2.2.1, zX.2.2.2.1, zX.2.2.2.2.1, zX.2.2.2.2.2, name, nI f, nI a) ∧ f_X11_newName (nI n) m zM.1 zM.2.1 zM.2.2.1 zM.2.2.2.1 zM.2.2.2.2.1 0 plc 0 zM.2.2.2.2.2 fr (nI s) = some (zM.1, zM.2.1, zM.2.2.1, zM.2.2.2.1, zM.2.2.2.2.1, nI f, nI a, 1, zM.2.2.2.2.2, fr)) ∨
    ∃ (v' : Nat) (L' : Nat → Nat) (yX : tX) (yM : tM) (fr' : Nat → Int32), 1 ≤ v' ∧ v' ≤ 8 ∧ TkN n b yX yM ∧ (∀ w, w < W → wn w ≠ Int64.ofNat (pkN L' v')) ∧ (∀ p, p < P → pn p ≠ Int64.ofNat (pkN L' v')) ∧ f_X5_takesNewName (nI W) (nI P) (nI n) x wn pn zX.1 zX.2.1 zX.2.2.1 zX.2.2.2.1 zX.2.2.2.2.1 zX.2.2.2.2.2 name 0 fp = some (1, yX.1, yX.2.1, yX.2.2.1, yX.2.2.2.1, yX.2.2.2.2.1, yX.2.2.2.2.2, Int64.ofNat (pkN L' v'), 0, fp) ∧ f_X11_newName (nI n) m zM.1 zM.2.1 zM.2.2.1 zM.2.2.2.1 zM.2.2.2.2.1 0 plc 0 zM.2.2.2.2.2 fr (nI s) = some (yM.1, yM.2.1, yM.2.2.1, yM.2.2.2.1, yM.2.2.2.2.1, 0, plc, 0, yM.2.2.2.2.2, fr') ∧
      fr' (171 + s) = nI v' ∧ (∀ k, k < v' → 1 ≤ L' k ∧ L' k ≤ 26 ∧ fr' (189 + 8 * s + k) = nI (L' k + 96)) ∧ ∀ j, j ≠ 171 + s → ¬ (189 + 8 * s ≤ j ∧ j < 197 + 8 * s) → fr' j = fr j := by
  have hW := hN.W10
  have hP := hN.P8
  unfold f_X5_takesNewName f_X5_takesNewName_15 f_X5_takesNewName_51 f_X11_newName f_X11_newName_35 f_X9_wordNamed f_X9_personNamed
  have hm := mustName_s h plc
  have hpl := h.hpl
  have hat := h.hat
  rcases nm_split h with ⟨c0, c1, c2, c3, v1, v2, v3, v4, v5, v6⟩ | ⟨c0, c1⟩
  · rw [c0, if_pos rfl] at hm
    obtain ⟨yX, yM, q1, q2, q3⟩ := look_z hK h
    have hfX : ∀ (w : Nat), w < W → wn w = Int64.ofNat (pkN L v) → ∃ w', w' < W ∧ f_X9_wordNamed_2 (nI W) wn rf_fu (Int64.ofNat (pkN L v)) 0 = some (nI w') := by
      intro w w1 w2
      rcases wordNamed_s hW wn (Int64.ofNat (pkN L v)) W rf_fu 0 (by omega) (by show W < 4096; omega) (fun w hw => by omega) with ⟨w', x1, x2, x3, x4⟩ | ⟨x1, x2⟩
      · exact ⟨w', x1, x4⟩
      · exact absurd w2 (x1 w w1)
    have hfX0 : (∀ w, w < W → wn w ≠ Int64.ofNat (pkN L v)) → f_X9_wordNamed_2 (nI W) wn rf_fu (Int64.ofNat (pkN L v)) 0 = some (-1) := by
      intro hz
      rcases wordNamed_s hW wn (Int64.ofNat (pkN L v)) W rf_fu 0 (by omega) (by show W < 4096; omega) (fun w hw => by omega) with ⟨w', x1, x2, x3, x4⟩ | ⟨x1, x2⟩
      · exact absurd x2 (hz w' x1)
      · exact x2
    have hfP : ∀ (w : Nat), w < P → pn w = Int64.ofNat (pkN L v) → ∃ w', w' < P ∧ f_X9_personNamed_2 (nI P) pn rf_fu (Int64.ofNat (pkN L v)) 0 = some (nI w') := by
      intro w w1 w2
      rcases personNamed_s hP pn (Int64.ofNat (pkN L v)) P rf_fu 0 (by omega) (by show P < 4096; omega) (fun w hw => by omega) with ⟨w', x1, x2, x3, x4⟩ | ⟨x1, x2⟩
      · exact ⟨w', x1, x4⟩
      · exact absurd w2 (x1 w w1)
    have hfP0 : (∀ w, w < P → pn w ≠ Int64.ofNat (pkN L v)) → f_X9_personNamed_2 (nI P) pn rf_fu (Int64.ofNat (pkN L v)) 0 = some (-1) := by
      intro hz
      rcases personNamed_s hP pn (Int64.ofNat (pkN L v)) P rf_fu 0 (by omega) (by show P < 4096; omega) (fun w hw => by omega) with ⟨w', x1, x2, x3, x4⟩ | ⟨x1, x2⟩
      · exact absurd x2 (hz w' x1)
      · exact x2
    have hne : ∀ w : Nat, w < 100 → ¬ nI w = -1 := fun w hw q => by have := pb_eqm (a := w) (b := 1) (by decide) (by omega) (by decide); exact (this ▸ q : False)
    have hge : ∀ w : Nat, w < 100 → ¬ nI w < 0 := fun w hw => nI_nlt (b := 0) (by omega) (by omega)
    have hmm : f_X11_mustName zM.1 zM.2.2.1 (nI v) zM.2.2.2.2.2 0 plc 0 = some (0, plc, 0) := by rw [← v4]; exact hm
    rcases find_s hN v1 v2 v6 with ⟨w, w1, w2, w3, w4⟩ | ⟨w2, ⟨p, p1, p2, p3, p4⟩ | ⟨p2, p4⟩⟩
    · left
      refine ⟨3, by omega, by omega, ?_, ?_⟩
      · obtain ⟨w', x1, x2⟩ := hfX w w1 w2
        rw [if_pos c1, c3]
        simp only [pb_bind, q10, q00, qz0, qz1, ite_true, ite_false, reduceIte]
        rw [v5, x2]
        simp only [pb_bind, q10, q00, qz0, qz1, ite_true, ite_false, reduceIte]
        rw [if_neg (hne w' (by omega)), hpl]; rfl
      · rw [v4, hmm]
        simp only [pb_bind, q10, q00, qz0, qz1, ite_true, ite_false, reduceIte]
        rw [w4]
        simp only [pb_bind, q10, q00, qz0, qz1, ite_true, ite_false, reduceIte]
        rw [if_neg (hge w (by omega)), hat]; rfl
    · left
      refine ⟨3, by omega, by omega, ?_, ?_⟩
      · obtain ⟨p', x1, x2⟩ := hfP p p1 p2
        rw [if_pos c1, c3]
        simp only [pb_bind, q10, q00, qz0, qz1, ite_true, ite_false, reduceIte]
        rw [v5, hfX0 w2]
        simp only [pb_bind, q10, q00, qz0, qz1, ite_true, ite_false, reduceIte]
        rw [x2]
        simp only [pb_bind, q10, q00, qz0, qz1, ite_true, ite_false, reduceIte]
        rw [if_neg (hne p' (by omega)), hpl]; rfl
      · rw [v4, hmm]
        simp only [pb_bind, q10, q00, qz0, qz1, ite_true, ite_false, reduceIte]
        rw [p4]
        simp only [pb_bind, q10, q00, qz0, qz1, ite_true, ite_false, reduceIte]
        rw [if_neg (hge (10 + p) (by omega)), hat]; rfl
    · right
      have hy : f_X11_next (nI n) m zM.1 zM.2.1 zM.2.2.1 zM.2.2.2.1 (nI v) zM.2.2.2.2.2 = some yM := by rw [← v4]; exact q3
      obtain ⟨fr', n1, n2, n3, n4⟩ := newN45 (n := n) (m := m) hs v2 zM.2.2.1 0 plc 0 zM.1 zM.2.1 zM.2.2.2.1 zM.2.2.2.2.2 hy v rf_fu 0 fr (by omega) (by show v < 4096; omega)
      refine ⟨v, L, yX, yM, fr', v1, v2, q1, w2, p2, ?_, ?_, n2, fun k hk => ⟨(v6 k hk).1, (v6 k hk).2.1, by rw [n3 k (by omega) hk]; exact (v6 k hk).2.2⟩, fun j h1 h2 => n4 j h1 (by omega)⟩
      · rw [if_pos c1, c3]
        simp only [pb_bind, q10, q00, qz0, qz1, ite_true, ite_false, reduceIte]
        rw [v5, hfX0 w2]
        simp only [pb_bind, q10, q00, qz0, qz1, ite_true, ite_false, reduceIte]
        rw [hfP0 p2]
        simp only [pb_bind, q10, q00, qz0, qz1, ite_true, ite_false, reduceIte]
        rw [← v5, q2]
        simp only [pb_bind, q10, q00, qz0, qz1, ite_true, ite_false, reduceIte]
      · rw [v4, hmm]
        simp only [pb_bind, q10, q00, qz0, qz1, ite_true, ite_false, reduceIte]
        rw [p4]
        simp only [pb_bind, q10, q00, qz0, qz1, ite_true, ite_false, reduceIte]
        rw [if_pos (by decide)]
        exact n1
  · rw [c0, if_neg (by decide)] at hm
    left
    refine ⟨1, by omega, by omega, ?_, ?_⟩
    · by_cases hs : zX.2.1 = 1
      · obtain ⟨c, c2, c3⟩ := c1 hs
        rw [if_pos hs, c3, pb_bind, if_neg c2, hpl]; rfl
      · rw [if_neg hs, hpl]; rfl
    · rw [hm]; rfl
theorem snd39 {pl le : Int32} {so nx wh fp : Int32} {snd : Int64} {v : Nat} {L : Nat → Nat} (hL : ∀ j, j < v → 1 ≤ L j ∧ L j ≤ 26) (hv : v ≤ 8) : ∀ d f i : Nat, ∀ c : Bool, i + d = 8 → d < f →
    f_X5_takesSounds_39 (nI n) x f (bI c) (nI i) nx so pl le (Int64.ofNat (pkN L v)) wh snd 0 fp = if (c && allB (fun j => decide (pkN L v / 32 ^ (i + j) % 32 ≤ 8)) d) = true then ((f_X5_look (nI n) x nx so pl le (Int64.ofNat (pkN L v)) wh).bind fun z98 => some (1, z98.1, z98.2.1, z98.2.2.1, z98.2.2.2.1, z98.2.2.2.2.1, z98.2.2.2.2.2, Int64.ofNat (pkN L v), 0, fp)) else some (0, nx, so, pl, le, Int64.ofNat (pkN L v), wh, snd, 7, pl) := by
  have h63 : pkN L v < 2 ^ 63 := pkN_63 hv (fun k hk => by have := (hL k hk).2; omega)
  intro d
  induction d with
  | zero =>
    intro f i c hi hf
    obtain ⟨f', rfl, _⟩ := fuel_succ hf
    obtain rfl : i = 8 := by omega
    rw [f_X5_takesSounds_39, if_pos (by decide)]
    cases c <;> rfl
  | succ d ih =>
    intro f i c hi hf
    obtain ⟨f', rfl, _⟩ := fuel_succ hf
    have hd : pkN L v / 32 ^ i % 32 < 32 := Nat.mod_lt _ (by decide)
    have hsh : allB (fun j => decide (pkN L v / 32 ^ (i + j) % 32 ≤ 8)) (d + 1) = (decide (pkN L v / 32 ^ i % 32 ≤ 8) && allB (fun j => decide (pkN L v / 32 ^ (i + 1 + j) % 32 ≤ 8)) d) := by
      apply Bool.eq_iff_iff.mpr
      rw [Bool.and_eq_true, allB_iff, allB_iff]
      constructor
      · intro h
        exact ⟨h 0 (by omega), fun j hj => by have := h (j + 1) (by omega); rw [show i + (j + 1) = i + 1 + j by omega] at this; exact this⟩
      · rintro ⟨h1, h2⟩ j hj
        cases j with
        | zero => exact h1
        | succ j => have := h2 j (by omega); rw [show i + 1 + j = i + (j + 1) by omega] at this; exact this
    rw [f_X5_takesSounds_39, if_neg (show ¬ (8 : Int32) ≤ nI i from nI_ge (b := 8) (by omega) (by decide)), sh5k (by omega), shr_s h63 (by omega), and31_64, Nat.pow_mul, show (2 : Nat) ^ 5 = 32 from rfl, hsh]
    simp only [f_X5_takesSounds_72, f_X5_takesSounds_73]
    rw [nI_1]
    cases c
    · rw [if_pos (show bI false = 0 from rfl), Bool.false_and, if_neg (by decide)]
      have := ih f' (i + 1) false (by omega) (by omega)
      rw [Bool.false_and, if_neg (by decide)] at this
      exact this
    · rw [if_neg (show ¬ bI true = 0 by decide)]
      by_cases e : pkN L v / 32 ^ i % 32 ≤ 8
      · rw [if_neg (fun z => by have := (i64_gt8 (by omega)).mp ((lg_cmp_gt _ _).mp z); omega), decide_eq_true e, Bool.true_and]
        exact ih f' (i + 1) true (by omega) (by omega)
      · rw [if_pos ((lg_cmp_gt _ _).mpr ((i64_gt8 (by omega)).mpr (by omega))), decide_eq_false e, Bool.false_and, Bool.and_false, if_neg (by decide)]
        have := ih f' (i + 1) false (by omega) (by omega)
        rw [Bool.false_and, if_neg (by decide)] at this
        exact this
theorem snd_all {v : Nat} {L : Nat → Nat} (hv : v ≤ 8) (hL : ∀ j, j < v → 1 ≤ L j ∧ L j ≤ 26) : allB (fun j => decide (pkN L v / 32 ^ (0 + j) % 32 ≤ 8)) 8 = allB (fun i => decide (L i ≤ 8)) v := by
  have hd := fun i => pkN_dig (f := L) v i (fun k hk => by have := (hL k hk).2; omega)
  apply Bool.eq_iff_iff.mpr
  rw [allB_iff, allB_iff]
  constructor
  · intro h i hi
    have := of_decide_eq_true (h (v - 1 - i) (by omega))
    rw [Nat.zero_add, hd, if_pos (by omega), show v - 1 - (v - 1 - i) = i by omega] at this
    exact decide_eq_true this
  · intro h i hi
    apply decide_eq_true
    rw [Nat.zero_add, hd]
    by_cases e : i < v
    · rw [if_pos e]; exact of_decide_eq_true (h (v - 1 - i) (by omega))
    · rw [if_neg e]; omega
theorem sounds_s (h : tokZ n a b k v L zX zM) (snd : Int64) (fp : Int32) :
    (k ≠ 1 ∧ f_X5_takesSounds (nI n) x zX.1 zX.2.1 zX.2.2.1 zX.2.2.2.1 zX.2.2.2.2.1 zX.2.2.2.2.2 snd 0 fp = some (0, zX.1, zX.2.1, zX.2.2.1, zX.2.2.2.1, zX.2.2.2.2.1, zX.2.2.2.2.2, snd, 1, nI a)) ∨ (k = 1 ∧ ¬ (2 ≤ v ∧ v ≤ 6 ∧ allB (fun i => decide (L i ≤ 8)) v = true) ∧ f_X5_takesSounds (nI n) x zX.1 zX.2.1 zX.2.2.1 zX.2.2.2.1 zX.2.2.2.2.1 zX.2.2.2.2.2 snd 0 fp = some (0, zX.1, zX.2.1, zX.2.2.1, zX.2.2.2.1, zX.2.2.2.2.1, zX.2.2.2.2.2, snd, 7, nI a)) ∨
    (k = 1 ∧ 2 ≤ v ∧ v ≤ 6 ∧ allB (fun i => decide (L i ≤ 8)) v = true ∧ f_X5_takesSounds (nI n) x zX.1 zX.2.1 zX.2.2.1 zX.2.2.2.1 zX.2.2.2.2.1 zX.2.2.2.2.2 snd 0 fp = (f_X5_look (nI n) x zX.1 zX.2.1 zX.2.2.1 zX.2.2.2.1 zX.2.2.2.2.1 zX.2.2.2.2.2).bind fun z98 => some (1, z98.1, z98.2.1, z98.2.2.1, z98.2.2.2.1, z98.2.2.2.2.1, z98.2.2.2.2.2, Int64.ofNat (pkN L v), 0, fp)) := by
  unfold f_X5_takesSounds f_X5_takesSounds_35 f_X5_takesSounds_36
  have hk := h.hk
  by_cases h1 : k = 1
  · obtain ⟨v1, v2, v3, v4, v5, v6⟩ := h.h1 h1
    have hL : ∀ j, j < v → 1 ≤ L j ∧ L j ≤ 26 := fun j hj => ⟨(v6 j hj).1, (v6 j hj).2.1⟩
    have q := fun c => snd39 (n := n) (x := x) (pl := zX.2.2.1) (le := nI v) (so := zX.2.1) (nx := zX.1) (wh := zX.2.2.2.2.2) (fp := fp) (snd := snd) hL v2 8 rf_fu 0 c (by omega) (by decide)
    rw [if_pos (show zX.2.1 = 1 by rw [h.hso, h1]; rfl), v3, v5]
    right
    by_cases h2 : v < 2
    · left
      refine ⟨h1, by omega, ?_⟩
      rw [if_pos (show nI v < 2 from nI_lt (b := 2) h2 (by decide))]
      have := q false
      rw [Bool.false_and, if_neg (by decide)] at this
      refine this.trans ?_
      rw [h.hpl]
    · rw [if_neg (show ¬ nI v < 2 from nI_nlt (b := 2) (by omega) (by omega))]
      by_cases h6 : 6 < v
      · left
        refine ⟨h1, by omega, ?_⟩
        rw [if_pos (show 6 < nI v from nI_lt (a := 6) h6 (by omega))]
        have := q false
        rw [Bool.false_and, if_neg (by decide)] at this
        refine this.trans ?_
        rw [h.hpl]
      · rw [if_neg (show ¬ 6 < nI v from nI_nlt (a := 6) (by omega) (by decide))]
        have := q true
        rw [Bool.true_and, snd_all v2 hL] at this
        by_cases hA : allB (fun i => decide (L i ≤ 8)) v = true
        · right
          rw [if_pos hA] at this
          exact ⟨h1, by omega, by omega, hA, this⟩
        · left
          rw [if_neg hA] at this
          refine ⟨h1, fun z => hA z.2.2, this.trans ?_⟩
          rw [h.hpl]
  · left
    refine ⟨h1, ?_⟩
    rw [if_neg (show ¬ zX.2.1 = 1 from fun z => by rw [h.hso] at z; exact h1 ((nI_eq (b := 1) (by omega) (by decide)).mp z)), h.hpl]; rfl
end
