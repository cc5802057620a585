/-! what both readers do with a token -/
theorem nr {α : Type} {a b : α} (h : a = b) : a = b := by
  cases h
  exact (Eq.symm (Eq.refl a)).trans (Eq.refl a)
theorem nbf : bI false = 0 := nr rfl
theorem nbt : bI true = 1 := nr rfl
theorem q10 : ((1 : Int32) = 0) = False := eq_false (by decide)
theorem q00 : ((0 : Int32) = 0) = True := eq_self 0
theorem qz0 : (rf_zb 0 = true) = True := eq_true (by decide)
theorem qz1 : (rf_zb 1 = true) = True := eq_true (by decide)
theorem wrong_0 (ft plc f p : Int32) : f_X11_wrong ft plc 0 f p = some (f, p, 1) := nr rfl
theorem wrong_1 (ft plc f p : Int32) : f_X11_wrong ft plc 1 f p = some (ft, plc, 1) := nr rfl
theorem must_f (sz : Int32) (m : Nat → Int32) (at_ en to wm ns ft plc : Int32) (la : Nat → Int32) (j : Nat) : f_X11_must sz m at_ en to wm ns ft plc 1 la j = some (at_, en, to, wm, ns, ft, plc, 1, la) := nr rfl
theorem numberHere_f (at_ to wm ft plc lo hi : Int32) : f_X11_numberHere at_ to wm ft plc 1 lo hi = some (lo, ft, plc, 1) := nr rfl
theorem number_f (sz : Int32) (m : Nat → Int32) (at_ en to wm ns ft plc : Int32) (la : Nat → Int32) (lo hi : Int32) : f_X11_number sz m at_ en to wm ns ft plc 1 la lo hi = some (lo, at_, en, to, wm, ns, ft, plc, 1, la) := nr rfl
theorem after_f (sz : Int32) (m : Nat → Int32) (at_ en to wm ns ft plc : Int32) (la : Nat → Int32) (j : Nat) (lo hi : Int32) : f_X11_after sz m at_ en to wm ns ft plc 1 la j lo hi = some (lo, at_, en, to, wm, ns, ft, plc, 1, la) := nr rfl
theorem oneOf_f (sz : Int32) (m : Nat → Int32) (at_ en to wm ns ft plc : Int32) (la : Nat → Int32) (a b c d : Nat) : f_X11_oneOf sz m at_ en to wm ns ft plc 1 la a b c d = some (-1, at_, en, to, wm, ns, ft, plc, 1, la) := nr rfl
theorem wordHere_f (at_ to ns : Int32) (la fr : Nat → Int32) (ft plc : Int32) : f_X11_wordHere at_ to ns la fr ft plc 1 = some (0, ft, plc, 1) := nr rfl
theorem personHere_f (at_ to ns : Int32) (la fr : Nat → Int32) (ft plc : Int32) : f_X11_personHere at_ to ns la fr ft plc 1 = some (0, ft, plc, 1) := nr rfl
theorem letterHere_f (at_ to ns : Int32) (la : Nat → Int32) (ft plc : Int32) : f_X11_letterHere at_ to ns la ft plc 1 = some (0, ft, plc, 1) := nr rfl
theorem fail_s (pl ft fp f : Int32) : f_X5_fail pl ft fp f = some (0, f, pl) := nr rfl
abbrev tX : Type := Int32 × Int32 × Int32 × Int32 × Int64 × Int32
abbrev tM : Type := Int32 × Int32 × Int32 × Int32 × Int32 × (Nat → Int32)
theorem inN {v l u : Nat} (hv : v < 2 ^ 31) (hl : l < 2 ^ 31) (hu : u < 2 ^ 31) : f_X11_in (nI v) (nI l) (nI u) = some (bI (decide (l ≤ v ∧ v ≤ u))) := by
  rw [in_s]
  by_cases h : l ≤ v ∧ v ≤ u
  · rw [if_pos ⟨nI_le h.1 hv, nI_le h.2 hu⟩, decide_eq_true h]; rfl
  · rw [if_neg (fun z => h ⟨(nI_leI hl hv).mp z.1, (nI_leI hv hu).mp z.2⟩), decide_eq_false h]; rfl
abbrev tokZ (n a b k v : Nat) (L : Nat → Nat) (zX : Int32 × Int32 × Int32 × Int32 × Int64 × Int32) (zM : Int32 × Int32 × Int32 × Int32 × Int32 × (Nat → Int32)) : Prop := tokR n a b k v L zX.1 zX.2.1 zX.2.2.1 zX.2.2.2.1 zX.2.2.2.2.1 zX.2.2.2.2.2 zM.1 zM.2.1 zM.2.2.1 zM.2.2.2.1 zM.2.2.2.2.1 zM.2.2.2.2.2
def TkN (n a0 : Nat) (zX : Int32 × Int32 × Int32 × Int32 × Int64 × Int32) (zM : Int32 × Int32 × Int32 × Int32 × Int32 × (Nat → Int32)) : Prop := ∃ a b k v : Nat, ∃ L : Nat → Nat, a0 ≤ a ∧ tokZ n a b k v L zX zM
theorem TkN.mono {n a0 a1 : Nat} {zX : Int32 × Int32 × Int32 × Int32 × Int64 × Int32} {zM : Int32 × Int32 × Int32 × Int32 × Int32 × (Nat → Int32)} (h : TkN n a0 zX zM) (hle : a1 ≤ a0) : TkN n a1 zX zM := by
  obtain ⟨a, b, k, v, L, h1, h2⟩ := h
  exact ⟨a, b, k, v, L, by omega, h2⟩
section
variable {n : Nat} {x m : Nat → Int32} {a b k v : Nat} {L : Nat → Nat} {zX : Int32 × Int32 × Int32 × Int32 × Int64 × Int32} {zM : Int32 × Int32 × Int32 × Int32 × Int32 × (Nat → Int32)}
theorem look_z (hK : lookOk n x m) (h : tokZ n a b k v L zX zM) : ∃ yX yM, TkN n b yX yM ∧ f_X5_look (nI n) x zX.1 zX.2.1 zX.2.2.1 zX.2.2.2.1 zX.2.2.2.2.1 zX.2.2.2.2.2 = some yX ∧ f_X11_next (nI n) m zM.1 zM.2.1 zM.2.2.1 zM.2.2.2.1 zM.2.2.2.2.1 zM.2.2.2.2.2 = some yM := by
  obtain ⟨yX, yM, a', b', k', v', L', q1, q2, q3, q4⟩ := hK b h.hbn zX.2.1 zX.2.2.1 zX.2.2.2.1 zX.2.2.2.2.1 zX.2.2.2.2.2 zM.1 zM.2.2.1 zM.2.2.2.1 zM.2.2.2.2.1 zM.2.2.2.2.2
  refine ⟨yX, yM, ⟨a', b', k', v', L', q3, q4⟩, ?_, ?_⟩
  · rw [h.hnx]; exact q1
  · rw [h.hen]; exact q2
theorem takes_s (hK : lookOk n x m) (h : tokZ n a b k v L zX zM) {j j' : Nat} (hj : j < 49) (hj' : j' < 49) (h1 : rf_sn.getD j' 0 = rf_sn.getD j 0) (h2 : rf_sb.getD j' [] = rf_sb.getD j []) (fp plc : Int32) :
    (f_X5_takes (nI n) x zX.1 zX.2.1 zX.2.2.1 zX.2.2.2.1 zX.2.2.2.2.1 zX.2.2.2.2.2 0 fp j = some (0, zX.1, zX.2.1, zX.2.2.1, zX.2.2.2.1, zX.2.2.2.2.1, zX.2.2.2.2.2, 1, nI a) ∧ f_X11_must (nI n) m zM.1 zM.2.1 zM.2.2.1 zM.2.2.2.1 zM.2.2.2.2.1 0 plc 0 zM.2.2.2.2.2 j' = some (zM.1, zM.2.1, zM.2.2.1, zM.2.2.2.1, zM.2.2.2.2.1, 1, nI a, 1, zM.2.2.2.2.2)) ∨
    ∃ yX yM, TkN n b yX yM ∧ f_X5_takes (nI n) x zX.1 zX.2.1 zX.2.2.1 zX.2.2.2.1 zX.2.2.2.2.1 zX.2.2.2.2.2 0 fp j = some (1, yX.1, yX.2.1, yX.2.2.1, yX.2.2.2.1, yX.2.2.2.2.1, yX.2.2.2.2.2, 0, fp) ∧ f_X11_must (nI n) m zM.1 zM.2.1 zM.2.2.1 zM.2.2.2.1 zM.2.2.2.2.1 0 plc 0 zM.2.2.2.2.2 j' = some (yM.1, yM.2.1, yM.2.2.1, yM.2.2.2.1, yM.2.2.2.2.1, 0, plc, 0, yM.2.2.2.2.2) := by
  have e := isT_eq h1 h2 k v L
  have iX := (is_s h hj).1
  have iM := (is_s h hj').2
  rw [e] at iM
  unfold f_X5_takes f_X11_must f_X11_takesWord
  rw [iX, iM]
  cases hT : isT k v L j
  · left
    rw [h.hpl, h.hat]
    exact ⟨rfl, rfl⟩
  · right
    obtain ⟨yX, yM, q1, q2, q3⟩ := look_z hK h
    refine ⟨yX, yM, q1, ?_, ?_⟩
    · simp only [pb_bind, q10, q00, qz0, qz1, ite_true, ite_false, reduceIte, nbt]
      rw [q2, pb_bind]
    · simp only [pb_bind, q10, q00, qz0, qz1, ite_true, ite_false, reduceIte, nbt]
      rw [q3]
      simp only [pb_bind, q10, q00, qz0, qz1, ite_true, ite_false, reduceIte]
theorem seesWhole_s (h : tokZ n a b k v L zX zM) {lo hi : Int32} {l u : Nat} (hl : lo = nI l) (hu : hi = nI u) (hu9 : u ≤ 999) (hlu : l ≤ u) (fp plc : Int32) :
    (∃ f, 1 ≤ f ∧ f ≤ 7 ∧ f_X5_seesWhole zX.2.1 zX.2.2.1 zX.2.2.2.2.2 0 fp lo hi = some (0, nI f, nI a) ∧ f_X11_numberHere zM.1 zM.2.2.1 zM.2.2.2.1 0 plc 0 lo hi = some (lo, nI f, nI a, 1)) ∨
    (k = 2 ∧ l ≤ v ∧ v ≤ u ∧ zX.2.2.2.2.2 = nI v ∧ f_X5_seesWhole zX.2.1 zX.2.2.1 zX.2.2.2.2.2 0 fp lo hi = some (1, 0, fp) ∧ f_X11_numberHere zM.1 zM.2.2.1 zM.2.2.2.1 0 plc 0 lo hi = some (nI v, 0, plc, 0)) := by
  subst hl hu
  unfold f_X5_seesWhole f_X5_seesWhole_30 f_X5_seesWhole_38 f_X11_numberHere f_X11_numberHere_50
  rw [h.hso, h.hto, h.hpl, h.hat]
  have hk := h.hk
  by_cases h2 : k = 2
  · obtain ⟨v9, v1, v2⟩ := h.h2 h2
    rw [if_pos (show nI k = 2 by rw [h2]; rfl), if_pos (show nI (tkF k) = 3 by rw [h2]; rfl), v1, v2, inN (by omega) (by omega) (by omega)]
    by_cases h3 : v < l
    · left
      refine ⟨4, by omega, by omega, ?_, ?_⟩
      · rw [if_pos (nI_lt h3 (by omega))]; rfl
      · rw [decide_eq_false (by omega)]; rfl
    · rw [if_neg (nI_nlt (by omega) (by omega))]
      by_cases h4 : v ≤ u
      · right
        refine ⟨h2, by omega, h4, rfl, ?_, ?_⟩
        · rw [if_pos (nI_le h4 (by omega))]
        · rw [decide_eq_true (by omega)]; rfl
      · left
        refine ⟨4, by omega, by omega, ?_, ?_⟩
        · rw [if_neg (nI_ge (by omega) (by omega))]; rfl
        · rw [decide_eq_false (by omega)]; rfl
  · left
    refine ⟨1, by omega, by omega, ?_, ?_⟩
    · rw [if_neg (show ¬ nI k = 2 from fun z => h2 ((nI_eq (b := 2) (by omega) (by decide)).mp z))]; rfl
    · have ht : ¬ nI (tkF k) = 3 := by
        obtain rfl | rfl | rfl | rfl : k = 0 ∨ k = 1 ∨ k = 3 ∨ k = 4 := by omega
        · decide
        · decide
        · decide
        · decide
      rw [if_neg ht]; rfl
theorem takesWhole_s (hK : lookOk n x m) (h : tokZ n a b k v L zX zM) {lo hi : Int32} {l u : Nat} (hl : lo = nI l) (hu : hi = nI u) (hu9 : u ≤ 999) (hlu : l ≤ u) (num fp plc : Int32) :
    (∃ f, 1 ≤ f ∧ f ≤ 7 ∧ f_X5_takesWhole (nI n) x zX.1 zX.2.1 zX.2.2.1 zX.2.2.2.1 zX.2.2.2.2.1 zX.2.2.2.2.2 num 0 fp lo hi = some (0, zX.1, zX.2.1, zX.2.2.1, zX.2.2.2.1, zX.2.2.2.2.1, zX.2.2.2.2.2, num, nI f, nI a) ∧ f_X11_number (nI n) m zM.1 zM.2.1 zM.2.2.1 zM.2.2.2.1 zM.2.2.2.2.1 0 plc 0 zM.2.2.2.2.2 lo hi = some (lo, zM.1, zM.2.1, zM.2.2.1, zM.2.2.2.1, zM.2.2.2.2.1, nI f, nI a, 1, zM.2.2.2.2.2)) ∨
    ∃ w yX yM, l ≤ w ∧ w ≤ u ∧ TkN n b yX yM ∧ f_X5_takesWhole (nI n) x zX.1 zX.2.1 zX.2.2.1 zX.2.2.2.1 zX.2.2.2.2.1 zX.2.2.2.2.2 num 0 fp lo hi = some (1, yX.1, yX.2.1, yX.2.2.1, yX.2.2.2.1, yX.2.2.2.2.1, yX.2.2.2.2.2, nI w, 0, fp) ∧ f_X11_number (nI n) m zM.1 zM.2.1 zM.2.2.1 zM.2.2.2.1 zM.2.2.2.2.1 0 plc 0 zM.2.2.2.2.2 lo hi = some (nI w, yM.1, yM.2.1, yM.2.2.1, yM.2.2.2.1, yM.2.2.2.2.1, 0, plc, 0, yM.2.2.2.2.2) := by
  unfold f_X5_takesWhole f_X11_number f_X11_number_18
  rcases seesWhole_s h hl hu hu9 hlu fp plc with ⟨f, f1, f7, e1, e2⟩ | ⟨c1, c2, c3, c4, e1, e2⟩
  · left
    refine ⟨f, f1, f7, ?_, ?_⟩
    · rw [e1]; simp only [pb_bind, q10, q00, qz0, qz1, ite_true, ite_false, reduceIte]
    · rw [e2]; simp only [pb_bind, q10, q00, qz0, qz1, ite_true, ite_false, reduceIte]
  · right
    obtain ⟨yX, yM, q1, q2, q3⟩ := look_z hK h
    refine ⟨v, yX, yM, c2, c3, q1, ?_, ?_⟩
    · rw [e1]; simp only [pb_bind, q10, q00, qz0, qz1, ite_true, ite_false, reduceIte]; rw [q2]; simp only [pb_bind, q10, q00, qz0, qz1, ite_true, ite_false, reduceIte]; rw [c4]
    · rw [e2]; simp only [pb_bind, q10, q00, qz0, qz1, ite_true, ite_false, reduceIte]; rw [q3]; simp only [pb_bind, q10, q00, qz0, qz1, ite_true, ite_false, reduceIte]
/-- a word that is told, then a whole -/
theorem after_s (hK : lookOk n x m) (h : tokZ n a b k v L zX zM) {j j' : Nat} (hj : j < 49) (hj' : j' < 49) (h1 : rf_sn.getD j' 0 = rf_sn.getD j 0) (h2 : rf_sb.getD j' [] = rf_sb.getD j []) {lo hi : Int32} {l u : Nat} (hl : lo = nI l) (hu : hi = nI u) (hu9 : u ≤ 999) (hlu : l ≤ u) (num fp plc : Int32) :
    (f_X5_takes (nI n) x zX.1 zX.2.1 zX.2.2.1 zX.2.2.2.1 zX.2.2.2.2.1 zX.2.2.2.2.2 0 fp j = some (0, zX.1, zX.2.1, zX.2.2.1, zX.2.2.2.1, zX.2.2.2.2.1, zX.2.2.2.2.2, 1, nI a) ∧ f_X11_after (nI n) m zM.1 zM.2.1 zM.2.2.1 zM.2.2.2.1 zM.2.2.2.2.1 0 plc 0 zM.2.2.2.2.2 j' lo hi = some (lo, zM.1, zM.2.1, zM.2.2.1, zM.2.2.2.1, zM.2.2.2.2.1, 1, nI a, 1, zM.2.2.2.2.2)) ∨
    ∃ (yX : tX) (yM : tM), f_X5_takes (nI n) x zX.1 zX.2.1 zX.2.2.1 zX.2.2.2.1 zX.2.2.2.2.1 zX.2.2.2.2.2 0 fp j = some (1, yX.1, yX.2.1, yX.2.2.1, yX.2.2.2.1, yX.2.2.2.2.1, yX.2.2.2.2.2, 0, fp) ∧
      ((∃ f a', 1 ≤ f ∧ f ≤ 7 ∧ f_X5_takesWhole (nI n) x yX.1 yX.2.1 yX.2.2.1 yX.2.2.2.1 yX.2.2.2.2.1 yX.2.2.2.2.2 num 0 fp lo hi = some (0, yX.1, yX.2.1, yX.2.2.1, yX.2.2.2.1, yX.2.2.2.2.1, yX.2.2.2.2.2, num, nI f, nI a') ∧ f_X11_after (nI n) m zM.1 zM.2.1 zM.2.2.1 zM.2.2.2.1 zM.2.2.2.2.1 0 plc 0 zM.2.2.2.2.2 j' lo hi = some (lo, yM.1, yM.2.1, yM.2.2.1, yM.2.2.2.1, yM.2.2.2.2.1, nI f, nI a', 1, yM.2.2.2.2.2)) ∨
      ∃ (w : Nat) (uX : tX) (uM : tM), l ≤ w ∧ w ≤ u ∧ TkN n b uX uM ∧ f_X5_takesWhole (nI n) x yX.1 yX.2.1 yX.2.2.1 yX.2.2.2.1 yX.2.2.2.2.1 yX.2.2.2.2.2 num 0 fp lo hi = some (1, uX.1, uX.2.1, uX.2.2.1, uX.2.2.2.1, uX.2.2.2.2.1, uX.2.2.2.2.2, nI w, 0, fp) ∧ f_X11_after (nI n) m zM.1 zM.2.1 zM.2.2.1 zM.2.2.2.1 zM.2.2.2.2.1 0 plc 0 zM.2.2.2.2.2 j' lo hi = some (nI w, uM.1, uM.2.1, uM.2.2.1, uM.2.2.2.1, uM.2.2.2.2.1, 0, plc, 0, uM.2.2.2.2.2)) := by
  unfold f_X11_after
  rcases takes_s hK h hj hj' h1 h2 fp plc with ⟨e1, e2⟩ | ⟨yX, yM, ⟨a', b', k', v', L', ha, hy⟩, e1, e2⟩
  · left
    refine ⟨e1, ?_⟩
    rw [e2]; simp only [pb_bind, q10, q00, qz0, qz1, ite_true, ite_false, reduceIte, number_f]
  · right
    refine ⟨yX, yM, e1, ?_⟩
    rw [e2]
    simp only [pb_bind, q10, q00, qz0, qz1, ite_true, ite_false, reduceIte]
    rcases takesWhole_s hK hy hl hu hu9 hlu num fp plc with ⟨f, f1, f7, c1, c2⟩ | ⟨w, uX, uM, w1, w2, w3, c1, c2⟩
    · left
      refine ⟨f, a', f1, f7, c1, ?_⟩
      rw [c2]; simp only [pb_bind, q10, q00, qz0, qz1, ite_true, ite_false, reduceIte]
    · right
      refine ⟨w, uX, uM, w1, w2, w3.mono (by have := hy.hab; omega), c1, ?_⟩
      rw [c2]; simp only [pb_bind, q10, q00, qz0, qz1, ite_true, ite_false, reduceIte]
theorem nm_split (h : tokZ n a b k v L zX zM) : (nmT k v L = true ∧ zX.2.1 = 1 ∧ zM.2.2.1 = 2 ∧ f_X5_lineBegun zX.2.1 zX.2.2.2.1 zX.2.2.2.2.1 = some 0 ∧ 1 ≤ v ∧ v ≤ 8 ∧ zX.2.2.2.1 = nI v ∧ zM.2.2.2.2.1 = nI v ∧ zX.2.2.2.2.1 = Int64.ofNat (pkN L v) ∧ ∀ j, j < v → 1 ≤ L j ∧ L j ≤ 26 ∧ zM.2.2.2.2.2 j = nI (L j + 96)) ∨
    (nmT k v L = false ∧ (zX.2.1 = 1 → ∃ c, c ≠ 0 ∧ f_X5_lineBegun zX.2.1 zX.2.2.2.1 zX.2.2.2.2.1 = some c)) := by
  have hl := lineBegun_s h
  have hk := h.hk
  by_cases h1 : k = 1
  · obtain ⟨v1, v2, v3, v4, v5, v6⟩ := h.h1 h1
    by_cases h0 : lnT k v L = 0
    · left
      refine ⟨?_, ?_, ?_, ?_, v1, v2, v3, v4, v5, v6⟩
      · unfold nmT; rw [decide_eq_true h1, decide_eq_true h0]; rfl
      · rw [h.hso, h1]; rfl
      · rw [h.hto, h1]; rfl
      · rw [hl, h0]; rfl
    · right
      refine ⟨?_, fun _ => ⟨_, ?_, hl⟩⟩
      · unfold nmT; rw [decide_eq_false h0, Bool.and_false]
      · have hb : lnT k v L < 9 := by
          unfold lnT
          repeat' split
          all_goals omega
        exact fun z => h0 ((nI_eq (b := 0) (by omega) (by decide)).mp z)
  · right
    refine ⟨?_, fun z => ?_⟩
    · unfold nmT; rw [decide_eq_false h1, Bool.false_and]
    · rw [h.hso] at z
      exact absurd ((nI_eq (b := 1) (by omega) (by decide)).mp z) h1
theorem wordHere_s (h : tokZ n a b k v L zX zM) {W P : Nat} {fr : Nat → Int32} {wn pn : Nat → Int64} (hN : nmR W P fr wn pn) (found fp plc : Int32) :
    (∃ f fd', 1 ≤ f ∧ f ≤ 7 ∧ f_X5_seesToldWord (nI W) zX.2.1 zX.2.2.1 zX.2.2.2.1 zX.2.2.2.2.1 wn found 0 fp = some (0, fd', nI f, nI a) ∧ f_X11_wordHere zM.1 zM.2.2.1 zM.2.2.2.2.1 zM.2.2.2.2.2 fr 0 plc 0 = some (0, nI f, nI a, 1)) ∨
    ∃ w, w < W ∧ f_X5_seesToldWord (nI W) zX.2.1 zX.2.2.1 zX.2.2.2.1 zX.2.2.2.2.1 wn found 0 fp = some (1, nI w, 0, fp) ∧ f_X11_wordHere zM.1 zM.2.2.1 zM.2.2.2.2.1 zM.2.2.2.2.2 fr 0 plc 0 = some (nI w, 0, plc, 0) := by
  have hW := hN.W10
  unfold f_X5_seesToldWord f_X5_seesToldWord_15 f_X5_seesToldWord_52 f_X11_wordHere f_X11_named f_X11_named_45 f_X9_wordNamed
  have hm := mustName_s h plc
  have hpl := h.hpl
  have hat := h.hat
  rcases nm_split h with ⟨c0, c1, c2, c3, v1, v2, v3, v4, v5, v6⟩ | ⟨c0, c1⟩
  · rw [c0, if_pos rfl] at hm
    rw [hm, c3, c1, hpl, v5, hat, v4]
    simp only [pb_bind, q10, q00, qz0, qz1, ite_true, ite_false, reduceIte]
    rw [show (0 : Int32) = nI 0 from rfl]
    rcases find_s hN v1 v2 v6 with ⟨w, w1, w2, w3, w4⟩ | ⟨w2, hw⟩
    · right
      refine ⟨w, w1, ?_, ?_⟩
      · rcases wordNamed_s hW wn (Int64.ofNat (pkN L v)) W rf_fu 0 (by omega) (by show W < 4096; omega) (fun w hw => by omega) with ⟨w', x1, x2, x3, x4⟩ | ⟨x1, x2⟩
        · have hww : w' = w := by
            apply Classical.byContradiction
            intro hne
            rcases Nat.lt_or_gt_of_ne hne with hlt | hgt
            · exact w3 w' hlt x2
            · exact x3 w hgt w2
          subst hww
          rw [x4, pb_bind, if_neg (show ¬ nI w' = -1 from fun q => by have := pb_eqm (a := w') (b := 1) (by decide) (by omega) (by decide); exact (this ▸ q : False))]
        · exact absurd w2 (x1 w w1)
      · rw [w4]
        simp only [pb_bind, q10, q00, qz0, qz1, ite_true, ite_false, reduceIte]
        rw [in_s, if_pos ⟨nI_le (a := 0) (by omega) (by omega), nI_le (b := 9) (by omega) (by decide)⟩]
        simp only [pb_bind, q10, q00, qz0, qz1, ite_true, ite_false, reduceIte]
        rw [if_neg (show ¬ (1 : Int32) = nI 0 by decide), pb_bind, show nI w - nI 0 = nI w by rw [pb_sub (by omega)]; rfl]
    · left
      refine ⟨2, -1, by omega, by omega, ?_, ?_⟩
      · rcases wordNamed_s hW wn (Int64.ofNat (pkN L v)) W rf_fu 0 (by omega) (by show W < 4096; omega) (fun w hw => by omega) with ⟨w', x1, x2, x3, x4⟩ | ⟨x1, x2⟩
        · exact absurd x2 (w2 w' x1)
        · rw [x2, pb_bind, if_pos rfl]; rfl
      · rcases hw with ⟨p, p1, p2, p3, p4⟩ | ⟨p2, p4⟩
        · rw [p4]
          simp only [pb_bind, q10, q00, qz0, qz1, ite_true, ite_false, reduceIte]
          rw [in_s, if_neg (fun z => absurd z.2 (nI_ge (a := 9) (by omega) (by have := hN.P8; omega)))]
          rfl
        · rw [p4]; rfl
  · rw [c0, if_neg (by decide)] at hm
    left
    refine ⟨1, found, by omega, by omega, ?_, ?_⟩
    · by_cases hs : zX.2.1 = 1
      · obtain ⟨c, c2, c3⟩ := c1 hs
        rw [if_pos hs, c3, pb_bind, if_neg c2, hpl]; rfl
      · rw [if_neg hs, hpl]; rfl
    · rw [hm]; rfl
theorem personHere_s (h : tokZ n a b k v L zX zM) {W P : Nat} {fr : Nat → Int32} {wn pn : Nat → Int64} (hN : nmR W P fr wn pn) (hU : ∀ w p, w < W → p < P → wn w ≠ pn p) (found fp plc : Int32) :
    (∃ f fd', 1 ≤ f ∧ f ≤ 7 ∧ f_X5_seesToldPerson (nI P) zX.2.1 zX.2.2.1 zX.2.2.2.1 zX.2.2.2.2.1 pn found 0 fp = some (0, fd', nI f, nI a) ∧ f_X11_personHere zM.1 zM.2.2.1 zM.2.2.2.2.1 zM.2.2.2.2.2 fr 0 plc 0 = some (0, nI f, nI a, 1)) ∨
    ∃ p, p < P ∧ f_X5_seesToldPerson (nI P) zX.2.1 zX.2.2.1 zX.2.2.2.1 zX.2.2.2.2.1 pn found 0 fp = some (1, nI p, 0, fp) ∧ f_X11_personHere zM.1 zM.2.2.1 zM.2.2.2.2.1 zM.2.2.2.2.2 fr 0 plc 0 = some (nI p, 0, plc, 0) := by
  have hP := hN.P8
  unfold f_X5_seesToldPerson f_X5_seesToldPerson_15 f_X5_seesToldPerson_52 f_X11_personHere f_X11_named f_X11_named_45 f_X9_personNamed
  have hm := mustName_s h plc
  have hpl := h.hpl
  have hat := h.hat
  rcases nm_split h with ⟨c0, c1, c2, c3, v1, v2, v3, v4, v5, v6⟩ | ⟨c0, c1⟩
  · rw [c0, if_pos rfl] at hm
    rw [hm, c3, c1, hpl, v5, hat, v4]
    simp only [pb_bind, q10, q00, qz0, qz1, ite_true, ite_false, reduceIte]
    rw [show (0 : Int32) = nI 0 from rfl]
    have hno : (∀ p, p < P → pn p ≠ Int64.ofNat (pkN L v)) → f_X9_personNamed_2 (nI P) pn rf_fu (Int64.ofNat (pkN L v)) (nI 0) = some (-1) := by
      intro hz
      rcases personNamed_s hP pn (Int64.ofNat (pkN L v)) P rf_fu 0 (by omega) (by show P < 4096; omega) (fun w hw => by omega) with ⟨w', x1, x2, x3, x4⟩ | ⟨x1, x2⟩
      · exact absurd x2 (hz w' x1)
      · exact x2
    rcases find_s hN v1 v2 v6 with ⟨w, w1, w2, w3, w4⟩ | ⟨w2, ⟨p, p1, p2, p3, p4⟩ | ⟨p2, p4⟩⟩
    · left
      refine ⟨2, -1, by omega, by omega, ?_, ?_⟩
      · rw [hno (fun p hp z => hU w p w1 hp (by rw [w2, z])), pb_bind, if_pos rfl]; rfl
      · rw [w4]
        simp only [pb_bind, q10, q00, qz0, qz1, ite_true, ite_false, reduceIte]
        rw [in_s, if_neg (fun z => absurd z.1 (nI_ge (b := 10) (by have := hN.W10; omega) (by decide)))]
        rfl
    · right
      refine ⟨p, p1, ?_, ?_⟩
      · rcases personNamed_s hP pn (Int64.ofNat (pkN L v)) P rf_fu 0 (by omega) (by show P < 4096; omega) (fun w hw => by omega) with ⟨w', x1, x2, x3, x4⟩ | ⟨x1, x2⟩
        · have hww : w' = p := by
            apply Classical.byContradiction
            intro hne
            rcases Nat.lt_or_gt_of_ne hne with hlt | hgt
            · exact p3 w' hlt x2
            · exact x3 p hgt p2
          subst hww
          rw [x4, pb_bind, if_neg (show ¬ nI w' = -1 from fun q => by have := pb_eqm (a := w') (b := 1) (by decide) (by omega) (by decide); exact (this ▸ q : False))]
        · exact absurd p2 (x1 p p1)
      · rw [p4]
        simp only [pb_bind, q10, q00, qz0, qz1, ite_true, ite_false, reduceIte]
        rw [in_s, if_pos ⟨nI_le (a := 10) (by omega) (by omega), nI_le (b := 17) (by omega) (by decide)⟩]
        simp only [pb_bind, q10, q00, qz0, qz1, ite_true, ite_false, reduceIte]
        rw [if_neg (show ¬ (1 : Int32) = nI 0 by decide), pb_bind, show nI (10 + p) - 10 = nI p by rw [show (10 : Int32) = nI 10 from rfl, pb_sub (by omega)]; congr 1; omega]
    · left
      refine ⟨2, -1, by omega, by omega, ?_, ?_⟩
      · rw [hno p2, pb_bind, if_pos rfl]; rfl
      · rw [p4]; rfl
  · rw [c0, if_neg (by decide)] at hm
    left
    refine ⟨1, found, by omega, by omega, ?_, ?_⟩
    · by_cases hs : zX.2.1 = 1
      · obtain ⟨c, c2, c3⟩ := c1 hs
        rw [if_pos hs, c3, pb_bind, if_neg c2, hpl]; rfl
      · rw [if_neg hs, hpl]; rfl
    · rw [hm]; rfl
theorem personPassed_s (hK : lookOk n x m) (h : tokZ n a b k v L zX zM) {W P : Nat} {fr : Nat → Int32} {wn pn : Nat → Int64} (hN : nmR W P fr wn pn) (hU : ∀ w p, w < W → p < P → wn w ≠ pn p) (found fp plc : Int32) :
    (∃ f fd', 1 ≤ f ∧ f ≤ 7 ∧ f_X5_seesToldPerson (nI P) zX.2.1 zX.2.2.1 zX.2.2.2.1 zX.2.2.2.2.1 pn found 0 fp = some (0, fd', nI f, nI a) ∧ f_X11_personPassed (nI n) m fr zM.1 zM.2.1 zM.2.2.1 zM.2.2.2.1 zM.2.2.2.2.1 0 plc 0 zM.2.2.2.2.2 = some (0, zM.1, zM.2.1, zM.2.2.1, zM.2.2.2.1, zM.2.2.2.2.1, nI f, nI a, 1, zM.2.2.2.2.2)) ∨
    ∃ p yX yM, p < P ∧ f_X5_seesToldPerson (nI P) zX.2.1 zX.2.2.1 zX.2.2.2.1 zX.2.2.2.2.1 pn found 0 fp = some (1, nI p, 0, fp) ∧ TkN n b yX yM ∧ f_X5_look (nI n) x zX.1 zX.2.1 zX.2.2.1 zX.2.2.2.1 zX.2.2.2.2.1 zX.2.2.2.2.2 = some yX ∧ f_X11_personPassed (nI n) m fr zM.1 zM.2.1 zM.2.2.1 zM.2.2.2.1 zM.2.2.2.2.1 0 plc 0 zM.2.2.2.2.2 = some (nI p, yM.1, yM.2.1, yM.2.2.1, yM.2.2.2.1, yM.2.2.2.2.1, 0, plc, 0, yM.2.2.2.2.2) := by
  unfold f_X11_personPassed f_X11_personPassed_16
  rcases personHere_s h hN hU found fp plc with ⟨f, fd', f1, f7, e1, e2⟩ | ⟨p, p1, e1, e2⟩
  · exact Or.inl ⟨f, fd', f1, f7, e1, by rw [e2]; simp only [pb_bind, q10, q00, qz0, qz1, ite_true, ite_false, reduceIte]⟩
  · obtain ⟨yX, yM, q1, q2, q3⟩ := look_z hK h
    exact Or.inr ⟨p, yX, yM, p1, e1, q1, q2, by rw [e2]; simp only [pb_bind, q10, q00, qz0, qz1, ite_true, ite_false, reduceIte]; rw [q3]; simp only [pb_bind, q10, q00, qz0, qz1, ite_true, ite_false, reduceIte]⟩
end
