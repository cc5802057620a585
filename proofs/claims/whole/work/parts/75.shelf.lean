/-! what is kept of what was -/
theorem cok_t {a b n N M : Nat} (h1 : a + n ≤ N) (h2 : b + n ≤ M) (h3 : a < 2 ^ 31) (h4 : b < 2 ^ 31) (h5 : n < 2 ^ 31) : rf_cok (nI a) (nI b) (nI n) N M = true := by
  unfold rf_cok
  rw [nI_toInt h3, nI_toInt h4, nI_toInt h5]
  apply decide_eq_true
  omega
theorem pNow.congr {W P j : Nat} {h a f h' a' f' : Int32} {w1 w2 s w1' w2' s' : Nat → Int32} (h0 : pNow W P j h a f w1 w2 s) (hP : P ≤ 8) (e1 : h' = h) (e2 : a' = a) (e3 : f' = f) (e4 : ∀ p, p < 8 → w1' p = w1 p) (e5 : ∀ p, p < 8 → w2' p = w2 p) (e6 : ∀ k, k < 26 → s' k = s k) : pNow W P j h' a' f' w1' w2' s' := by
  subst e1 e2 e3
  refine ⟨?_, h0.hhour0, ?_, ?_, h0.hfar0, ?_, ?_, ?_, ?_, ?_⟩
  · rw [e6 24 (by omega)]; exact h0.hhour
  · rw [e6 25 (by omega)]; exact h0.hpaid
  · intro p hp; rw [e6 p (by omega)]; exact h0.hbank p hp
  · intro p hp; rw [e4 p (by omega), e6 (8 + p) (by omega)]; exact h0.hwords p hp
  · intro p hp; rw [e4 p (by omega)]; exact h0.hwords0 p hp
  · intro p hp; rw [e4 p (by omega)]; exact h0.hwords1 p hp
  · intro p hp; rw [e5 p (by omega), e6 (16 + p) (by omega)]; exact h0.hwet p hp
  · intro p hp; rw [e5 p (by omega)]; exact h0.hwet0 p hp
/-- a copy in its cells -/
def cput (cells : Nat → Int32) (b : Nat) (hour paid far : Int32) (words wet : Nat → Int32) : Nat → Int32 :=
  va_cpy wet (va_cpy words (upd (upd (upd cells b hour) (b + 1) paid) (b + 2) far) 0 (b + 3) 8) 0 (b + 3 + 8) 8
theorem cput_0 {cells : Nat → Int32} {b : Nat} {h a f : Int32} {w1 w2 : Nat → Int32} : cput cells b h a f w1 w2 b = h := by
  unfold cput va_cpy upd
  rw [if_neg (by omega), if_neg (by omega), if_neg (by omega), if_neg (by omega), if_pos rfl]
theorem cput_1 {cells : Nat → Int32} {b : Nat} {h a f : Int32} {w1 w2 : Nat → Int32} : cput cells b h a f w1 w2 (b + 1) = a := by
  unfold cput va_cpy upd
  rw [if_neg (by omega), if_neg (by omega), if_neg (by omega), if_pos rfl]
theorem cput_2 {cells : Nat → Int32} {b : Nat} {h a f : Int32} {w1 w2 : Nat → Int32} : cput cells b h a f w1 w2 (b + 2) = f := by
  unfold cput va_cpy upd
  rw [if_neg (by omega), if_neg (by omega), if_pos rfl]
theorem cput_w {cells : Nat → Int32} {b p : Nat} {h a f : Int32} {w1 w2 : Nat → Int32} (hp : p < 8) : cput cells b h a f w1 w2 (b + 3 + p) = w1 p := by
  unfold cput va_cpy
  rw [if_neg (by omega), if_pos (by omega)]
  congr 1
  omega
theorem cput_t {cells : Nat → Int32} {b p : Nat} {h a f : Int32} {w1 w2 : Nat → Int32} (hp : p < 8) : cput cells b h a f w1 w2 (b + 11 + p) = w2 p := by
  unfold cput va_cpy
  rw [if_pos (by omega)]
  congr 1
  omega
theorem cput_o {cells : Nat → Int32} {b k : Nat} {h a f : Int32} {w1 w2 : Nat → Int32} (hk : k < b ∨ b + 19 ≤ k) : cput cells b h a f w1 w2 k = cells k := by
  unfold cput va_cpy upd
  rw [if_neg (by omega), if_neg (by omega), if_neg (by omega), if_neg (by omega), if_neg (by omega)]
theorem placeA_s {f i : Nat} (hf : f < 16) (hi : i ≤ 16) : f_X8_placeOf_acts 16 (nI f) (nI i) = some (nI ((f + i) % 16 * 19)) := by
  unfold f_X8_placeOf_acts
  simp (disch := omega) only [pb_lits, pb_ltT, pb_ltF, pb_leT, pb_leF, pb_eqT, pb_eqF, pb_lt, pb_le, pb_eq, pb_add, pb_mul, pb_sub, pb_cl, pb_ibt, pb_eqm, pb_meq, pb_ltm, pb_mlt, pb_lem, pb_mle, ite_true, ite_false, reduceIte, not_true_eq_false, not_false_eq_true, pb_bind, Nat.zero_add, Nat.add_zero, pb_rem]
theorem placeI_s {f i : Nat} (hf : f < 3) (hi : i ≤ 3) : f_X8_placeOf_images 3 (nI f) (nI i) = some (nI ((f + i) % 3 * 19)) := by
  unfold f_X8_placeOf_images
  simp (disch := omega) only [pb_lits, pb_ltT, pb_ltF, pb_leT, pb_leF, pb_eqT, pb_eqF, pb_lt, pb_le, pb_eq, pb_add, pb_mul, pb_sub, pb_cl, pb_ibt, pb_eqm, pb_meq, pb_ltm, pb_mlt, pb_lem, pb_mle, ite_true, ite_false, reduceIte, not_true_eq_false, not_false_eq_true, pb_bind, Nat.zero_add, Nat.add_zero, pb_rem]
theorem push36A_s {f n : Nat} (hf : f < 16) (hn : n < 16) {h a g : Int32} {w1 w2 cells : Nat → Int32} : f_X8_push_acts_36 h a g 16 w1 w2 (nI f) (nI n) cells = some (nI f, nI (n + 1), cput cells ((f + n) % 16 * 19) h a g w1 w2) := by
  unfold f_X8_push_acts_36
  rw [placeA_s hf (by omega)]
  have : (f + n) % 16 < 16 := Nat.mod_lt _ (by decide)
  generalize (f + n) % 16 = b at this
  simp (disch := omega) only [pb_lits, pb_ltT, pb_ltF, pb_leT, pb_leF, pb_eqT, pb_eqF, pb_lt, pb_le, pb_eq, pb_add, pb_mul, pb_sub, pb_cl, pb_ibt, pb_eqm, pb_meq, pb_ltm, pb_mlt, pb_lem, pb_mle, ite_true, ite_false, reduceIte, not_true_eq_false, not_false_eq_true, pb_bind, Nat.zero_add, Nat.add_zero, cok_t]
  rfl
theorem push36I_s {f n : Nat} (hf : f < 3) (hn : n < 3) {h a g : Int32} {w1 w2 cells : Nat → Int32} : f_X8_push_images_36 h a g 3 w1 w2 (nI f) (nI n) cells = some (nI f, nI (n + 1), cput cells ((f + n) % 3 * 19) h a g w1 w2) := by
  unfold f_X8_push_images_36
  rw [placeI_s hf (by omega)]
  have : (f + n) % 3 < 3 := Nat.mod_lt _ (by decide)
  generalize (f + n) % 3 = b at this
  simp (disch := omega) only [pb_lits, pb_ltT, pb_ltF, pb_leT, pb_leF, pb_eqT, pb_eqF, pb_lt, pb_le, pb_eq, pb_add, pb_mul, pb_sub, pb_cl, pb_ibt, pb_eqm, pb_meq, pb_ltm, pb_mlt, pb_lem, pb_mle, ite_true, ite_false, reduceIte, not_true_eq_false, not_false_eq_true, pb_bind, Nat.zero_add, Nat.add_zero, cok_t]
  rfl
theorem note49_s {st row : Nat → Int32} {n : Nat} (hn : n < 16) : f_X11_note_49 st (nI n) row = some (nI (n + 1), va_cpy st row 0 (26 * n) 26) := by
  unfold f_X11_note_49
  simp (disch := omega) only [pb_lits, pb_ltT, pb_ltF, pb_leT, pb_leF, pb_eqT, pb_eqF, pb_lt, pb_le, pb_eq, pb_add, pb_mul, pb_sub, pb_cl, pb_ibt, pb_eqm, pb_meq, pb_ltm, pb_mlt, pb_lem, pb_mle, ite_true, ite_false, reduceIte, not_true_eq_false, not_false_eq_true, pb_bind, Nat.zero_add, Nat.add_zero, cok_t]
theorem note11_l (st : Nat → Int32) (u : Int32) : ∀ d n i : Nat, ∀ row : Nat → Int32, i + d = 390 → d < n → f_X11_note_11 st n (nI i) u row = f_X11_note_49 st (u - 1) (fun k => if i ≤ k ∧ k < 390 then row (k + 26) else row k) := by
  intro d
  induction d with
  | zero =>
    intro n i row hi hn
    obtain ⟨m, rfl, hm⟩ := fuel_succ hn
    obtain rfl : i = 390 := by omega
    rw [f_X11_note_11]
    simp (disch := omega) only [pb_lits, pb_ltT, pb_ltF, pb_leT, pb_leF, pb_eqT, pb_eqF, pb_lt, pb_le, pb_eq, pb_add, pb_mul, pb_sub, pb_cl, pb_ibt, pb_eqm, pb_meq, pb_ltm, pb_mlt, pb_lem, pb_mle, ite_true, ite_false, reduceIte, not_true_eq_false, not_false_eq_true, pb_bind, Nat.zero_add, Nat.add_zero]
    congr 1
    funext k
    rw [if_neg (by omega)]
  | succ d ih =>
    intro n i row hi hn
    obtain ⟨m, rfl, hm⟩ := fuel_succ hn
    rw [f_X11_note_11]
    have := ih m (i + 1) (upd row i (row (i + 26))) (by omega) (by omega)
    simp (disch := omega) only [pb_lits, pb_ltT, pb_ltF, pb_leT, pb_leF, pb_eqT, pb_eqF, pb_lt, pb_le, pb_eq, pb_add, pb_mul, pb_sub, pb_cl, pb_ibt, pb_eqm, pb_meq, pb_ltm, pb_mlt, pb_lem, pb_mle, ite_true, ite_false, reduceIte, not_true_eq_false, not_false_eq_true, pb_bind, Nat.zero_add, Nat.add_zero]
    rw [this]
    simp only [pb_lits]
    congr 1
    funext k
    unfold upd
    by_cases h1 : i = k
    · subst h1
      rw [if_neg (by omega), if_pos rfl, if_pos (by omega)]
    · by_cases h2 : i + 1 ≤ k ∧ k < 390
      · rw [if_pos h2, if_neg (by omega), if_pos (by omega)]
      · rw [if_neg h2, if_neg (by omega), if_neg (by omega)]
/-- one more copy -/
theorem shelf_put {W P j n room f : Nat} (hP : P ≤ 8) (hf : f < room) (hn : n < room) (hr : room ≤ 16) {cells row st : Nat → Int32} {h a g : Int32} {w1 w2 : Nat → Int32}
    (hs : ∀ i, i < n → pNow W P j (cells ((f + i) % room * 19)) (cells ((f + i) % room * 19 + 1)) (cells ((f + i) % room * 19 + 2)) (fun p => cells ((f + i) % room * 19 + 3 + p)) (fun p => cells ((f + i) % room * 19 + 11 + p)) (fun k => row (26 * i + k)))
    (h0 : pNow W P j h a g w1 w2 st) : pShelf W P j (n + 1) room (nI f) (nI (n + 1)) (cput cells ((f + n) % room * 19) h a g w1 w2) (nI (n + 1)) (va_cpy st row 0 (26 * n) 26) := by
  refine ⟨by omega, rfl, rfl, f, hf, rfl, fun i hi => ?_⟩
  by_cases e : i = n
  · subst e
    refine h0.congr hP cput_0 cput_1 cput_2 (fun p hp => cput_w hp) (fun p hp => cput_t hp) (fun k hk => ?_)
    show va_cpy st row 0 (26 * i) 26 (26 * i + k) = st k
    unfold va_cpy
    rw [if_pos (by omega)]
    congr 1
    omega
  · have hne : (f + i) % room ≠ (f + n) % room := by
      intro q
      have h1 : (f + i) % room = if f + i < room then f + i else f + i - room := by
        by_cases hh : f + i < room
        · rw [if_pos hh, Nat.mod_eq_of_lt hh]
        · rw [if_neg hh, Nat.mod_eq_sub_mod (by omega), Nat.mod_eq_of_lt (by omega)]
      have h2 : (f + n) % room = if f + n < room then f + n else f + n - room := by
        by_cases hh : f + n < room
        · rw [if_pos hh, Nat.mod_eq_of_lt hh]
        · rw [if_neg hh, Nat.mod_eq_sub_mod (by omega), Nat.mod_eq_of_lt (by omega)]
      rw [h1, h2] at q
      split at q <;> split at q <;> omega
    have := hs i (by omega)
    generalize (f + i) % room = x at this hne ⊢
    generalize (f + n) % room = y at hne ⊢
    refine this.congr hP (cput_o (by omega)) (cput_o (by omega)) (cput_o (by omega)) (fun p hp => cput_o (by omega)) (fun p hp => cput_o (by omega)) (fun k hk => ?_)
    show va_cpy st row 0 (26 * n) 26 (26 * i + k) = row (26 * i + k)
    unfold va_cpy
    rw [if_neg (by omega)]
theorem push_acts {W P j n : Nat} (hP : P ≤ 8) {first count count' : Int32} {cells row st : Nat → Int32} {h a g : Int32} {w1 w2 : Nat → Int32} (hs : pShelf W P j n 16 first count cells count' row) (h0 : pNow W P j h a g w1 w2 st) :
    ∃ m first2 count2 cells2 row2, f_X8_push_acts h a g 16 w1 w2 first count cells = some (first2, count2, cells2) ∧ f_X11_note st count' row = some (count2, row2) ∧ pShelf W P j m 16 first2 count2 cells2 count2 row2 := by
  obtain ⟨h1, rfl, rfl, f, hf, rfl, h2⟩ := hs
  by_cases e : n = 16
  · subst e
    have hf' : (f + 1) % 16 < 16 := Nat.mod_lt _ (by decide)
    refine ⟨15 + 1, nI ((f + 1) % 16), nI (15 + 1), cput cells (((f + 1) % 16 + 15) % 16 * 19) h a g w1 w2, va_cpy st (fun k => if 0 ≤ k ∧ k < 390 then row (k + 26) else row k) 0 (26 * 15) 26, ?_, ?_, ?_⟩
    · unfold f_X8_push_acts
      rw [← push36A_s hf' (by decide : 15 < 16)]
      simp (disch := omega) only [pb_lits, pb_ltT, pb_ltF, pb_leT, pb_leF, pb_eqT, pb_eqF, pb_lt, pb_le, pb_eq, pb_add, pb_mul, pb_sub, pb_cl, pb_ibt, pb_eqm, pb_meq, pb_ltm, pb_mlt, pb_lem, pb_mle, ite_true, ite_false, reduceIte, not_true_eq_false, not_false_eq_true, pb_bind, Nat.zero_add, Nat.add_zero, pb_rem]
    · unfold f_X11_note
      rw [if_pos (show nI 16 = 16 from rfl)]
      have := note11_l st (nI 16) 390 rf_fu 0 row (by omega) (by decide)
      rw [show (0 : Int32) = nI 0 from rfl, this, show nI 16 - 1 = nI 15 from rfl, note49_s (by decide)]
    · refine shelf_put hP hf' (by decide) (by decide) (fun i hi => ?_) h0
      have := h2 (i + 1) (by omega)
      rw [show ((f + 1) % 16 + i) % 16 = (f + (i + 1)) % 16 by omega]
      refine this.congr hP rfl rfl rfl (fun _ _ => rfl) (fun _ _ => rfl) (fun k hk => ?_)
      show (if 0 ≤ 26 * i + k ∧ 26 * i + k < 390 then row (26 * i + k + 26) else _) = row (26 * (i + 1) + k)
      rw [if_pos (by omega)]
      congr 1
      omega
  · refine ⟨n + 1, nI f, nI (n + 1), cput cells ((f + n) % 16 * 19) h a g w1 w2, va_cpy st row 0 (26 * n) 26, ?_, ?_, ?_⟩
    · unfold f_X8_push_acts
      rw [← push36A_s hf (by omega : n < 16)]
      simp (disch := omega) only [pb_lits, pb_ltT, pb_ltF, pb_leT, pb_leF, pb_eqT, pb_eqF, pb_lt, pb_le, pb_eq, pb_add, pb_mul, pb_sub, pb_cl, pb_ibt, pb_eqm, pb_meq, pb_ltm, pb_mlt, pb_lem, pb_mle, ite_true, ite_false, reduceIte, not_true_eq_false, not_false_eq_true, pb_bind, Nat.zero_add, Nat.add_zero]
    · unfold f_X11_note
      rw [← note49_s (by omega : n < 16)]
      simp (disch := omega) only [pb_lits, pb_ltT, pb_ltF, pb_leT, pb_leF, pb_eqT, pb_eqF, pb_lt, pb_le, pb_eq, pb_add, pb_mul, pb_sub, pb_cl, pb_ibt, pb_eqm, pb_meq, pb_ltm, pb_mlt, pb_lem, pb_mle, ite_true, ite_false, reduceIte, not_true_eq_false, not_false_eq_true, pb_bind, Nat.zero_add, Nat.add_zero]
    · exact shelf_put hP hf (by omega) (by decide) h2 h0
