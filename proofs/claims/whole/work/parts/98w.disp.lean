/-! which line begins -/
abbrev tL : Type := Int32 × Int32 × Int32 × Int32 × Int32 × Int32 × Int32 × Int32 × Int32 × Int32 × Int32 × Int32 × Int32 × Int32 × Int64 × Int32 × Int64 × Int64 × Int32 × Int32 × Int32 × Int32 × (Nat → Int64) × (Nat → Int64) × (Nat → Int32) × (Nat → Int64) × (Nat → Int32) × (Nat → Int32) × (Nat → Int32) × (Nat → Int32) × (Nat → Int32) × (Nat → Int32) × (Nat → Int32) × (Nat → Int32)
abbrev tN : Type := Int32 × Int32 × Int32 × Int32 × Int32 × Int32 × Int32 × Int32 × (Nat → Int32) × (Nat → Int32)
abbrev tB : Type := Int32 × Int32 × Int32 × Int32 × Int32 × Int32 × Int32 × Int32 × (Nat → Int32)
/-- how a line ends, told twice -/
def lnR (n a : Nat) (zX : tL) (zM : tN) : Prop := flR zX.1 zX.2.2.2.2.2.2.2.2.2.2.2.2.2.2.2.2.2.2.2.2.1 zX.2.2.2.2.2.2.2.2.2.2.2.2.2.2.2.2.2.2.2.2.2.1 zM.2.2.2.2.2.1 zM.2.2.2.2.2.2.1 zM.2.2.2.2.2.2.2.1 ∨ (zX.1 = 1 ∧ zX.2.2.2.2.2.2.2.2.2.2.2.2.2.2.2.2.2.2.2.2.1 = 0 ∧ zM.2.2.2.2.2.1 = 0 ∧ zM.2.2.2.2.2.2.2.1 = 0 ∧ tkC n a zX.2.2.2.2.2.2.2.2.1 zX.2.2.2.2.2.2.2.2.2.2.2.1 zX.2.2.2.2.2.2.2.2.2.2.2.2.1 zX.2.2.2.2.2.2.2.2.2.2.2.2.2.1 zX.2.2.2.2.2.2.2.2.2.2.2.2.2.2.1 zX.2.2.2.2.2.2.2.2.2.2.2.2.2.2.2.1 zM.1 zM.2.1 zM.2.2.1 zM.2.2.2.1 zM.2.2.2.2.1 zM.2.2.2.2.2.2.2.2.1 ∧
  ∃ W P G K C : Nat, rdR W P G K C zM.2.2.2.2.2.2.2.2.2 zX.2.1 zX.2.2.1 zX.2.2.2.2.2.2.2.2.2.1 zX.2.2.2.1 zX.2.2.2.2.1 zX.2.2.2.2.2.1 zX.2.2.2.2.2.2.1 zX.2.2.2.2.2.2.2.1 zX.2.2.2.2.2.2.2.2.2.2.1 zX.2.2.2.2.2.2.2.2.2.2.2.2.2.2.2.2.2.2.2.2.2.2.1 zX.2.2.2.2.2.2.2.2.2.2.2.2.2.2.2.2.2.2.2.2.2.2.2.1 zX.2.2.2.2.2.2.2.2.2.2.2.2.2.2.2.2.2.2.2.2.2.2.2.2.2.1 zX.2.2.2.2.2.2.2.2.2.2.2.2.2.2.2.2.2.2.2.2.2.2.2.2.1 zX.2.2.2.2.2.2.2.2.2.2.2.2.2.2.2.2.2.2.2.2.2.2.2.2.2.2.1 zX.2.2.2.2.2.2.2.2.2.2.2.2.2.2.2.2.2.2.2.2.2.2.2.2.2.2.2.1 zX.2.2.2.2.2.2.2.2.2.2.2.2.2.2.2.2.2.2.2.2.2.2.2.2.2.2.2.2.1 zX.2.2.2.2.2.2.2.2.2.2.2.2.2.2.2.2.2.2.2.2.2.2.2.2.2.2.2.2.2.1 zX.2.2.2.2.2.2.2.2.2.2.2.2.2.2.2.2.2.2.2.2.2.2.2.2.2.2.2.2.2.2.1 zX.2.2.2.2.2.2.2.2.2.2.2.2.2.2.2.2.2.2.2.2.2.2.2.2.2.2.2.2.2.2.2.1 zX.2.2.2.2.2.2.2.2.2.2.2.2.2.2.2.2.2.2.2.2.2.2.2.2.2.2.2.2.2.2.2.2.1 zX.2.2.2.2.2.2.2.2.2.2.2.2.2.2.2.2.2.2.2.2.2.2.2.2.2.2.2.2.2.2.2.2.2)
section
variable {n : Nat} {x m : Nat → Int32} {a b k v : Nat} {L : Nat → Nat} {zX : tX} {zM : tM}
variable {W P G K C : Nat} {fr : Nat → Int32} {ear pairs begun wc pc ff ac gc kn : Int32} {wn ws pn : Nat → Int64} {prices kinds fw errands alikes hears g1 g2 g3 : Nat → Int32}
theorem begins_n (h : tokZ n a b k v L zX zM) {j : Nat} (hj : j < 49) (hT : isT k v L j = false) (plc s2 : Int32) : f_X11_begins (nI n) m fr zM.1 zM.2.1 zM.2.2.1 zM.2.2.2.1 zM.2.2.2.2.1 0 plc 0 zM.2.2.2.2.2 j s2 = some (0, zM.1, zM.2.1, zM.2.2.1, zM.2.2.2.1, zM.2.2.2.2.1, 0, plc, 0, zM.2.2.2.2.2) := by
  unfold f_X11_begins
  rw [(is_s h hj).2, hT, pb_bind, if_pos nbf]
theorem begins_5 (h : tokZ n a b k v L zX zM) {j : Nat} (hj : j < 49) (hT : isT k v L j = true) (h0 : ¬ fr 0 = 0) (plc : Int32) : f_X11_begins (nI n) m fr zM.1 zM.2.1 zM.2.2.1 zM.2.2.2.1 zM.2.2.2.2.1 0 plc 0 zM.2.2.2.2.2 j 0 = some (1, zM.1, zM.2.1, zM.2.2.1, zM.2.2.2.1, zM.2.2.2.2.1, 5, nI a, 1, zM.2.2.2.2.2) := by
  unfold f_X11_begins f_X11_begins_23 f_X11_begins_42 f_X11_begins_53
  rw [(is_s h hj).2, hT, pb_bind, if_neg (show ¬ bI true = 0 by decide), if_pos rfl, wrong_0, pb_bind, cl0, if_neg h0, h.hat]
  rfl
theorem begins_6 (h : tokZ n a b k v L zX zM) {j : Nat} (hj : j < 49) (hT : isT k v L j = true) (h0 : fr 0 = 0) (plc : Int32) : f_X11_begins (nI n) m fr zM.1 zM.2.1 zM.2.2.1 zM.2.2.2.1 zM.2.2.2.2.1 0 plc 0 zM.2.2.2.2.2 j 1 = some (1, zM.1, zM.2.1, zM.2.2.1, zM.2.2.2.1, zM.2.2.2.2.1, 6, nI a, 1, zM.2.2.2.2.2) := by
  unfold f_X11_begins f_X11_begins_23 f_X11_begins_42 f_X11_begins_53
  rw [(is_s h hj).2, hT, pb_bind, if_neg (show ¬ bI true = 0 by decide), if_neg (show ¬ (1 : Int32) = 0 by decide), cl0, if_pos h0, wrong_0, pb_bind, h.hat]
  rfl
theorem begins_1 (h : tokZ n a b k v L zX zM) {yM : tM} (hy : f_X11_next (nI n) m zM.1 zM.2.1 zM.2.2.1 zM.2.2.2.1 zM.2.2.2.2.1 zM.2.2.2.2.2 = some yM) {j : Nat} (hj : j < 49) (hT : isT k v L j = true) (h0 : ¬ fr 0 = 0) (plc : Int32) : f_X11_begins (nI n) m fr zM.1 zM.2.1 zM.2.2.1 zM.2.2.2.1 zM.2.2.2.2.1 0 plc 0 zM.2.2.2.2.2 j 1 = some (1, yM.1, yM.2.1, yM.2.2.1, yM.2.2.2.1, yM.2.2.2.2.1, 0, plc, 0, yM.2.2.2.2.2) := by
  unfold f_X11_begins f_X11_begins_23 f_X11_begins_42 f_X11_begins_53
  rw [(is_s h hj).2, hT, pb_bind, if_neg (show ¬ bI true = 0 by decide), if_neg (show ¬ (1 : Int32) = 0 by decide), cl0, if_neg h0, if_pos rfl, hy, pb_bind]
theorem rdR.ear0 (rd : rdR W P G K C fr ear pairs begun (nI W) (nI P) ff (nI C) (nI G) (nI K) wn ws pn prices kinds fw errands alikes hears g1 g2 g3) : (begun = 0 ∧ fr 0 = 0 ∧ W = 0 ∧ P = 0 ∧ G = 0 ∧ K = 0 ∧ C = 0 ∧ cntP hears 24 = 0) ∨ (begun = 1 ∧ ¬ fr 0 = 0) := by
  rcases rd.beg with q | ⟨q1, ⟨c, c1, c2, c3⟩, -⟩
  · exact Or.inl ⟨q.1, by rw [← rd.tale.hear]; exact q.2.1, q.2.2.2⟩
  · refine Or.inr ⟨q1, fun z => ?_⟩
    rw [← rd.tale.hear, c3] at z
    have := (nI_eq (a := c) (b := 0) (by omega) (by decide)).mp z
    omega
theorem zb_of {ret ft fp ft' plc' fd : Int32} {Q : Prop} (h : flR ret ft fp ft' plc' fd ∨ (ret = 1 ∧ Q)) : (rf_zb ret = true) = True := by
  rcases h with h | h
  · rw [h.1]; exact qz0
  · rw [h.1]; exact qz1
theorem Word_f (sz : Int32) (at_ en to wm ns ft plc : Int32) (la : Nat → Int32) : f_X11_wordLine sz m at_ en to wm ns ft plc 1 la fr = some (at_, en, to, wm, ns, ft, plc, 1, la, fr) := nr rfl
theorem dispWord (hK : lookOk n x m) (h : tokZ n a b k v L zX zM) (hT : isT k v L 1 = true) (name sounds : Int64) (num found fp plc : Int32) (rd : rdR W P G K C fr ear pairs begun (nI W) (nI P) ff (nI C) (nI G) (nI K) wn ws pn prices kinds fw errands alikes hears g1 g2 g3) :
    ∃ (yX : tL) (zb : tB) (yM : tN), f_X5_readLine_33 (nI n) x 2 ear pairs (nI W) (nI P) ff (nI C) (nI G) zX.1 begun (nI K) zX.2.1 zX.2.2.1 zX.2.2.2.1 zX.2.2.2.2.1 zX.2.2.2.2.2 name sounds num found 0 fp wn ws prices pn kinds fw errands alikes hears g1 g2 g3 = some yX ∧ f_X11_begins (nI n) m fr zM.1 zM.2.1 zM.2.2.1 zM.2.2.2.1 zM.2.2.2.2.1 0 plc 0 zM.2.2.2.2.2 27 (bI (decide (W < 10))) = some (1, zb) ∧ f_X11_wordLine (nI n) m zb.1 zb.2.1 zb.2.2.1 zb.2.2.2.1 zb.2.2.2.2.1 zb.2.2.2.2.2.1 zb.2.2.2.2.2.2.1 zb.2.2.2.2.2.2.2.1 zb.2.2.2.2.2.2.2.2 fr = some yM ∧ lnR n a yX yM := by
  have hab := h.hab
  have hT' : isT k v L 27 = true := by rw [isT_eq (j := 27) (j' := 1) rfl rfl]; exact hT
  have hW10 := rd.tale.W10
  have hP8 := rd.tale.P8
  have hG6 := rd.tale.G6
  have hK8 := rd.K8
  have hC4 := rd.C4
  have hc8 := rd.hc8
  unfold f_X5_readLine_33
  rw [if_neg (show ¬ (2 : Int32) = 1 by decide)]
  rcases rd.ear0 with ⟨hb, h0, z1, z2, z3, z4, z5, z6⟩ | ⟨hb, h0⟩
  · rw [if_pos hb, fail_s, h.hpl]
    rw [decide_eq_true (show W < 10 by omega)]
    simp only [pb_bind, q10, q00, qz0, qz1, ite_true, ite_false, reduceIte]
    exact ⟨_, _, _, rfl, begins_6 h (by decide) hT' h0 plc, Word_f _ _ _ _ _ _ _ _ _, Or.inl ⟨rfl, rfl, rfl, 6, by omega, by omega, rfl, rfl⟩⟩
  · rw [if_neg (show ¬ begun = 0 by rw [hb]; decide)]
    unfold f_X5_readLine_52 f_X5_isRoomFor f_X5_isRoomFor_148
    rw [if_pos (show (2 : Int32) = 2 from rfl)]
    by_cases hroom : W < 10
    · rw [decide_eq_true hroom, if_neg (show ¬ (10 : Int32) ≤ nI (W) from nI_ge (b := 10) hroom (by decide))]
      simp only [pb_bind, q10, q00, qz0, qz1, ite_true, ite_false, reduceIte]
      obtain ⟨yX, yM, ⟨a1, b1, k1, v1, L1, ha1, hy⟩, q2, q3⟩ := look_z hK h
      rw [q2]
      simp only [pb_bind, q10, q00, qz0, qz1, ite_true, ite_false, reduceIte]
      rw [if_neg (show ¬ (2 : Int32) = 1 by decide)]
      obtain ⟨zX', zM', y1, y2, y3⟩ := wordL hK hy hb hroom name sounds num fp plc rd
      rw [y1]
      simp only [pb_bind, q10, q00, qz0, qz1, ite_true, ite_false, reduceIte, zb_of y3]
      rcases y3 with y3 | ⟨s1, s2, s3, s4, ⟨a', b', k', v', L', t1, t2⟩, s6⟩
      · exact ⟨_, _, zM', rfl, begins_1 h q3 (by decide) hT' h0 plc, y2, Or.inl y3⟩
      · exact ⟨_, _, zM', rfl, begins_1 h q3 (by decide) hT' h0 plc, y2, Or.inr ⟨s1, s2, s3, s4, ⟨a', b', k', v', L', by omega, t2⟩, _, _, _, _, _, s6⟩⟩
    · rw [decide_eq_false hroom, if_pos (show (10 : Int32) ≤ nI (W) from nI_le (a := 10) (by omega) (by omega)), fail_s, h.hpl]
      simp only [pb_bind, q10, q00, qz0, qz1, ite_true, ite_false, reduceIte]
      exact ⟨_, _, _, rfl, begins_5 h (by decide) hT' h0 plc, Word_f _ _ _ _ _ _ _ _ _, Or.inl ⟨rfl, rfl, rfl, 5, by omega, by omega, rfl, rfl⟩⟩
theorem Person_f (sz : Int32) (at_ en to wm ns ft plc : Int32) (la : Nat → Int32) : f_X11_personLine sz m at_ en to wm ns ft plc 1 la fr = some (at_, en, to, wm, ns, ft, plc, 1, la, fr) := nr rfl
theorem dispPerson (hK : lookOk n x m) (h : tokZ n a b k v L zX zM) (hT : isT k v L 2 = true) (name sounds : Int64) (num found fp plc : Int32) (rd : rdR W P G K C fr ear pairs begun (nI W) (nI P) ff (nI C) (nI G) (nI K) wn ws pn prices kinds fw errands alikes hears g1 g2 g3) :
    ∃ (yX : tL) (zb : tB) (yM : tN), f_X5_readLine_33 (nI n) x 3 ear pairs (nI W) (nI P) ff (nI C) (nI G) zX.1 begun (nI K) zX.2.1 zX.2.2.1 zX.2.2.2.1 zX.2.2.2.2.1 zX.2.2.2.2.2 name sounds num found 0 fp wn ws prices pn kinds fw errands alikes hears g1 g2 g3 = some yX ∧ f_X11_begins (nI n) m fr zM.1 zM.2.1 zM.2.2.1 zM.2.2.2.1 zM.2.2.2.2.1 0 plc 0 zM.2.2.2.2.2 28 (bI (decide (P < 8))) = some (1, zb) ∧ f_X11_personLine (nI n) m zb.1 zb.2.1 zb.2.2.1 zb.2.2.2.1 zb.2.2.2.2.1 zb.2.2.2.2.2.1 zb.2.2.2.2.2.2.1 zb.2.2.2.2.2.2.2.1 zb.2.2.2.2.2.2.2.2 fr = some yM ∧ lnR n a yX yM := by
  have hab := h.hab
  have hT' : isT k v L 28 = true := by rw [isT_eq (j := 28) (j' := 2) rfl rfl]; exact hT
  have hW10 := rd.tale.W10
  have hP8 := rd.tale.P8
  have hG6 := rd.tale.G6
  have hK8 := rd.K8
  have hC4 := rd.C4
  have hc8 := rd.hc8
  unfold f_X5_readLine_33
  rw [if_neg (show ¬ (3 : Int32) = 1 by decide)]
  rcases rd.ear0 with ⟨hb, h0, z1, z2, z3, z4, z5, z6⟩ | ⟨hb, h0⟩
  · rw [if_pos hb, fail_s, h.hpl]
    rw [decide_eq_true (show P < 8 by omega)]
    simp only [pb_bind, q10, q00, qz0, qz1, ite_true, ite_false, reduceIte]
    exact ⟨_, _, _, rfl, begins_6 h (by decide) hT' h0 plc, Person_f _ _ _ _ _ _ _ _ _, Or.inl ⟨rfl, rfl, rfl, 6, by omega, by omega, rfl, rfl⟩⟩
  · rw [if_neg (show ¬ begun = 0 by rw [hb]; decide)]
    unfold f_X5_readLine_52 f_X5_isRoomFor f_X5_isRoomFor_148
    rw [if_neg (show ¬ (3 : Int32) = 2 by decide), if_pos (show (3 : Int32) = 3 from rfl)]
    by_cases hroom : P < 8
    · rw [decide_eq_true hroom, if_neg (show ¬ (8 : Int32) ≤ nI (P) from nI_ge (b := 8) hroom (by decide))]
      simp only [pb_bind, q10, q00, qz0, qz1, ite_true, ite_false, reduceIte]
      obtain ⟨yX, yM, ⟨a1, b1, k1, v1, L1, ha1, hy⟩, q2, q3⟩ := look_z hK h
      rw [q2]
      simp only [pb_bind, q10, q00, qz0, qz1, ite_true, ite_false, reduceIte]
      rw [if_neg (show ¬ (3 : Int32) = 1 by decide), if_neg (show ¬ (3 : Int32) = 2 by decide)]
      obtain ⟨zX', zM', y1, y2, y3⟩ := personL hK hy hb hroom name found fp plc rd
      rw [y1]
      simp only [pb_bind, q10, q00, qz0, qz1, ite_true, ite_false, reduceIte, zb_of y3]
      rcases y3 with y3 | ⟨s1, s2, s3, s4, ⟨a', b', k', v', L', t1, t2⟩, s6⟩
      · exact ⟨_, _, zM', rfl, begins_1 h q3 (by decide) hT' h0 plc, y2, Or.inl y3⟩
      · exact ⟨_, _, zM', rfl, begins_1 h q3 (by decide) hT' h0 plc, y2, Or.inr ⟨s1, s2, s3, s4, ⟨a', b', k', v', L', by omega, t2⟩, _, _, _, _, _, s6⟩⟩
    · rw [decide_eq_false hroom, if_pos (show (8 : Int32) ≤ nI (P) from nI_le (a := 8) (by omega) (by omega)), fail_s, h.hpl]
      simp only [pb_bind, q10, q00, qz0, qz1, ite_true, ite_false, reduceIte]
      exact ⟨_, _, _, rfl, begins_5 h (by decide) hT' h0 plc, Person_f _ _ _ _ _ _ _ _ _, Or.inl ⟨rfl, rfl, rfl, 5, by omega, by omega, rfl, rfl⟩⟩
theorem Knows_f (sz : Int32) (at_ en to wm ns ft plc : Int32) (la : Nat → Int32) : f_X11_knowsLine sz m at_ en to wm ns ft plc 1 la fr = some (at_, en, to, wm, ns, ft, plc, 1, la, fr) := nr rfl
theorem dispKnows (hK : lookOk n x m) (h : tokZ n a b k v L zX zM) (hT : isT k v L 3 = true) (name sounds : Int64) (num found fp plc : Int32) (rd : rdR W P G K C fr ear pairs begun (nI W) (nI P) ff (nI C) (nI G) (nI K) wn ws pn prices kinds fw errands alikes hears g1 g2 g3) :
    ∃ (yX : tL) (zb : tB) (yM : tN), f_X5_readLine_33 (nI n) x 4 ear pairs (nI W) (nI P) ff (nI C) (nI G) zX.1 begun (nI K) zX.2.1 zX.2.2.1 zX.2.2.2.1 zX.2.2.2.2.1 zX.2.2.2.2.2 name sounds num found 0 fp wn ws prices pn kinds fw errands alikes hears g1 g2 g3 = some yX ∧ f_X11_begins (nI n) m fr zM.1 zM.2.1 zM.2.2.1 zM.2.2.2.1 zM.2.2.2.2.1 0 plc 0 zM.2.2.2.2.2 29 (bI (decide (K < 8))) = some (1, zb) ∧ f_X11_knowsLine (nI n) m zb.1 zb.2.1 zb.2.2.1 zb.2.2.2.1 zb.2.2.2.2.1 zb.2.2.2.2.2.1 zb.2.2.2.2.2.2.1 zb.2.2.2.2.2.2.2.1 zb.2.2.2.2.2.2.2.2 fr = some yM ∧ lnR n a yX yM := by
  have hab := h.hab
  have hT' : isT k v L 29 = true := by rw [isT_eq (j := 29) (j' := 3) rfl rfl]; exact hT
  have hW10 := rd.tale.W10
  have hP8 := rd.tale.P8
  have hG6 := rd.tale.G6
  have hK8 := rd.K8
  have hC4 := rd.C4
  have hc8 := rd.hc8
  unfold f_X5_readLine_33
  rw [if_neg (show ¬ (4 : Int32) = 1 by decide)]
  rcases rd.ear0 with ⟨hb, h0, z1, z2, z3, z4, z5, z6⟩ | ⟨hb, h0⟩
  · rw [if_pos hb, fail_s, h.hpl]
    rw [decide_eq_true (show K < 8 by omega)]
    simp only [pb_bind, q10, q00, qz0, qz1, ite_true, ite_false, reduceIte]
    exact ⟨_, _, _, rfl, begins_6 h (by decide) hT' h0 plc, Knows_f _ _ _ _ _ _ _ _ _, Or.inl ⟨rfl, rfl, rfl, 6, by omega, by omega, rfl, rfl⟩⟩
  · rw [if_neg (show ¬ begun = 0 by rw [hb]; decide)]
    unfold f_X5_readLine_52 f_X5_isRoomFor f_X5_isRoomFor_148
    rw [if_neg (show ¬ (4 : Int32) = 2 by decide), if_neg (show ¬ (4 : Int32) = 3 by decide), if_pos (show (4 : Int32) = 4 from rfl)]
    by_cases hroom : K < 8
    · rw [decide_eq_true hroom, if_neg (show ¬ (8 : Int32) ≤ nI (K) from nI_ge (b := 8) hroom (by decide))]
      simp only [pb_bind, q10, q00, qz0, qz1, ite_true, ite_false, reduceIte]
      obtain ⟨yX, yM, ⟨a1, b1, k1, v1, L1, ha1, hy⟩, q2, q3⟩ := look_z hK h
      rw [q2]
      simp only [pb_bind, q10, q00, qz0, qz1, ite_true, ite_false, reduceIte]
      rw [if_neg (show ¬ (4 : Int32) = 1 by decide), if_neg (show ¬ (4 : Int32) = 2 by decide), if_neg (show ¬ (4 : Int32) = 3 by decide)]
      obtain ⟨zX', zM', y1, y2, y3⟩ := knowsL hK hy hb hroom found fp plc rd
      rw [y1]
      simp only [pb_bind, q10, q00, qz0, qz1, ite_true, ite_false, reduceIte, zb_of y3]
      rcases y3 with y3 | ⟨s1, s2, s3, s4, ⟨a', b', k', v', L', t1, t2⟩, s6⟩
      · exact ⟨_, _, zM', rfl, begins_1 h q3 (by decide) hT' h0 plc, y2, Or.inl y3⟩
      · exact ⟨_, _, zM', rfl, begins_1 h q3 (by decide) hT' h0 plc, y2, Or.inr ⟨s1, s2, s3, s4, ⟨a', b', k', v', L', by omega, t2⟩, _, _, _, _, _, s6⟩⟩
    · rw [decide_eq_false hroom, if_pos (show (8 : Int32) ≤ nI (K) from nI_le (a := 8) (by omega) (by omega)), fail_s, h.hpl]
      simp only [pb_bind, q10, q00, qz0, qz1, ite_true, ite_false, reduceIte]
      exact ⟨_, _, _, rfl, begins_5 h (by decide) hT' h0 plc, Knows_f _ _ _ _ _ _ _ _ _, Or.inl ⟨rfl, rfl, rfl, 5, by omega, by omega, rfl, rfl⟩⟩
theorem Alike_f (sz : Int32) (at_ en to wm ns ft plc : Int32) (la : Nat → Int32) : f_X11_alikeLine sz m at_ en to wm ns ft plc 1 la fr = some (at_, en, to, wm, ns, ft, plc, 1, la, fr) := nr rfl
theorem dispAlike (hK : lookOk n x m) (h : tokZ n a b k v L zX zM) (hT : isT k v L 4 = true) (name sounds : Int64) (num found fp plc : Int32) (rd : rdR W P G K C fr ear pairs begun (nI W) (nI P) ff (nI C) (nI G) (nI K) wn ws pn prices kinds fw errands alikes hears g1 g2 g3) :
    ∃ (yX : tL) (zb : tB) (yM : tN), f_X5_readLine_33 (nI n) x 5 ear pairs (nI W) (nI P) ff (nI C) (nI G) zX.1 begun (nI K) zX.2.1 zX.2.2.1 zX.2.2.2.1 zX.2.2.2.2.1 zX.2.2.2.2.2 name sounds num found 0 fp wn ws prices pn kinds fw errands alikes hears g1 g2 g3 = some yX ∧ f_X11_begins (nI n) m fr zM.1 zM.2.1 zM.2.2.1 zM.2.2.2.1 zM.2.2.2.2.1 0 plc 0 zM.2.2.2.2.2 30 (bI (decide (C < 4))) = some (1, zb) ∧ f_X11_alikeLine (nI n) m zb.1 zb.2.1 zb.2.2.1 zb.2.2.2.1 zb.2.2.2.2.1 zb.2.2.2.2.2.1 zb.2.2.2.2.2.2.1 zb.2.2.2.2.2.2.2.1 zb.2.2.2.2.2.2.2.2 fr = some yM ∧ lnR n a yX yM := by
  have hab := h.hab
  have hT' : isT k v L 30 = true := by rw [isT_eq (j := 30) (j' := 4) rfl rfl]; exact hT
  have hW10 := rd.tale.W10
  have hP8 := rd.tale.P8
  have hG6 := rd.tale.G6
  have hK8 := rd.K8
  have hC4 := rd.C4
  have hc8 := rd.hc8
  unfold f_X5_readLine_33
  rw [if_neg (show ¬ (5 : Int32) = 1 by decide)]
  rcases rd.ear0 with ⟨hb, h0, z1, z2, z3, z4, z5, z6⟩ | ⟨hb, h0⟩
  · rw [if_pos hb, fail_s, h.hpl]
    rw [decide_eq_true (show C < 4 by omega)]
    simp only [pb_bind, q10, q00, qz0, qz1, ite_true, ite_false, reduceIte]
    exact ⟨_, _, _, rfl, begins_6 h (by decide) hT' h0 plc, Alike_f _ _ _ _ _ _ _ _ _, Or.inl ⟨rfl, rfl, rfl, 6, by omega, by omega, rfl, rfl⟩⟩
  · rw [if_neg (show ¬ begun = 0 by rw [hb]; decide)]
    unfold f_X5_readLine_52 f_X5_isRoomFor f_X5_isRoomFor_148
    rw [if_neg (show ¬ (5 : Int32) = 2 by decide), if_neg (show ¬ (5 : Int32) = 3 by decide), if_neg (show ¬ (5 : Int32) = 4 by decide), if_pos (show (5 : Int32) = 5 from rfl)]
    by_cases hroom : C < 4
    · rw [decide_eq_true hroom, if_neg (show ¬ (4 : Int32) ≤ nI (C) from nI_ge (b := 4) hroom (by decide))]
      simp only [pb_bind, q10, q00, qz0, qz1, ite_true, ite_false, reduceIte]
      obtain ⟨yX, yM, ⟨a1, b1, k1, v1, L1, ha1, hy⟩, q2, q3⟩ := look_z hK h
      rw [q2]
      simp only [pb_bind, q10, q00, qz0, qz1, ite_true, ite_false, reduceIte]
      rw [if_neg (show ¬ (5 : Int32) = 1 by decide), if_neg (show ¬ (5 : Int32) = 2 by decide), if_neg (show ¬ (5 : Int32) = 3 by decide), if_neg (show ¬ (5 : Int32) = 4 by decide)]
      obtain ⟨zX', zM', y1, y2, y3⟩ := alikeL hK hy hb hroom found fp plc rd
      rw [y1]
      simp only [pb_bind, q10, q00, qz0, qz1, ite_true, ite_false, reduceIte, zb_of y3]
      rcases y3 with y3 | ⟨s1, s2, s3, s4, ⟨a', b', k', v', L', t1, t2⟩, s6⟩
      · exact ⟨_, _, zM', rfl, begins_1 h q3 (by decide) hT' h0 plc, y2, Or.inl y3⟩
      · exact ⟨_, _, zM', rfl, begins_1 h q3 (by decide) hT' h0 plc, y2, Or.inr ⟨s1, s2, s3, s4, ⟨a', b', k', v', L', by omega, t2⟩, _, _, _, _, _, s6⟩⟩
    · rw [decide_eq_false hroom, if_pos (show (4 : Int32) ≤ nI (C) from nI_le (a := 4) (by omega) (by omega)), fail_s, h.hpl]
      simp only [pb_bind, q10, q00, qz0, qz1, ite_true, ite_false, reduceIte]
      exact ⟨_, _, _, rfl, begins_5 h (by decide) hT' h0 plc, Alike_f _ _ _ _ _ _ _ _ _, Or.inl ⟨rfl, rfl, rfl, 5, by omega, by omega, rfl, rfl⟩⟩
theorem Hour_f (sz : Int32) (at_ en to wm ns ft plc : Int32) (la : Nat → Int32) : f_X11_hourLine sz m at_ en to wm ns ft plc 1 la fr = some (at_, en, to, wm, ns, ft, plc, 1, la, fr) := nr rfl
theorem dispHour (hK : lookOk n x m) (h : tokZ n a b k v L zX zM) (hT : isT k v L 5 = true) (name sounds : Int64) (num found fp plc : Int32) (rd : rdR W P G K C fr ear pairs begun (nI W) (nI P) ff (nI C) (nI G) (nI K) wn ws pn prices kinds fw errands alikes hears g1 g2 g3) :
    ∃ (yX : tL) (zb : tB) (yM : tN), f_X5_readLine_33 (nI n) x 6 ear pairs (nI W) (nI P) ff (nI C) (nI G) zX.1 begun (nI K) zX.2.1 zX.2.2.1 zX.2.2.2.1 zX.2.2.2.2.1 zX.2.2.2.2.2 name sounds num found 0 fp wn ws prices pn kinds fw errands alikes hears g1 g2 g3 = some yX ∧ f_X11_begins (nI n) m fr zM.1 zM.2.1 zM.2.2.1 zM.2.2.2.1 zM.2.2.2.2.1 0 plc 0 zM.2.2.2.2.2 31 (bI (decide (cntP hears 24 < 8))) = some (1, zb) ∧ f_X11_hourLine (nI n) m zb.1 zb.2.1 zb.2.2.1 zb.2.2.2.1 zb.2.2.2.2.1 zb.2.2.2.2.2.1 zb.2.2.2.2.2.2.1 zb.2.2.2.2.2.2.2.1 zb.2.2.2.2.2.2.2.2 fr = some yM ∧ lnR n a yX yM := by
  have hab := h.hab
  have hT' : isT k v L 31 = true := by rw [isT_eq (j := 31) (j' := 5) rfl rfl]; exact hT
  have hW10 := rd.tale.W10
  have hP8 := rd.tale.P8
  have hG6 := rd.tale.G6
  have hK8 := rd.K8
  have hC4 := rd.C4
  have hc8 := rd.hc8
  unfold f_X5_readLine_33
  rw [if_neg (show ¬ (6 : Int32) = 1 by decide)]
  rcases rd.ear0 with ⟨hb, h0, z1, z2, z3, z4, z5, z6⟩ | ⟨hb, h0⟩
  · rw [if_pos hb, fail_s, h.hpl]
    rw [decide_eq_true (show cntP hears 24 < 8 by omega)]
    simp only [pb_bind, q10, q00, qz0, qz1, ite_true, ite_false, reduceIte]
    exact ⟨_, _, _, rfl, begins_6 h (by decide) hT' h0 plc, Hour_f _ _ _ _ _ _ _ _ _, Or.inl ⟨rfl, rfl, rfl, 6, by omega, by omega, rfl, rfl⟩⟩
  · rw [if_neg (show ¬ begun = 0 by rw [hb]; decide)]
    unfold f_X5_readLine_52 f_X5_isRoomFor f_X5_isRoomFor_148
    rw [if_neg (show ¬ (6 : Int32) = 2 by decide), if_neg (show ¬ (6 : Int32) = 3 by decide), if_neg (show ¬ (6 : Int32) = 4 by decide), if_neg (show ¬ (6 : Int32) = 5 by decide), if_pos (show (6 : Int32) = 6 from rfl), hoursTold_s, pb_bind]
    by_cases hroom : cntP hears 24 < 8
    · rw [decide_eq_true hroom, if_neg (show ¬ (8 : Int32) ≤ nI (cntP hears 24) from nI_ge (b := 8) hroom (by decide))]
      simp only [pb_bind, q10, q00, qz0, qz1, ite_true, ite_false, reduceIte]
      obtain ⟨yX, yM, ⟨a1, b1, k1, v1, L1, ha1, hy⟩, q2, q3⟩ := look_z hK h
      rw [q2]
      simp only [pb_bind, q10, q00, qz0, qz1, ite_true, ite_false, reduceIte]
      rw [if_neg (show ¬ (6 : Int32) = 1 by decide), if_neg (show ¬ (6 : Int32) = 2 by decide), if_neg (show ¬ (6 : Int32) = 3 by decide), if_neg (show ¬ (6 : Int32) = 4 by decide), if_neg (show ¬ (6 : Int32) = 5 by decide)]
      obtain ⟨zX', zM', y1, y2, y3⟩ := hourL hK hy hb hroom num fp plc rd
      rw [y1]
      simp only [pb_bind, q10, q00, qz0, qz1, ite_true, ite_false, reduceIte, zb_of y3]
      rcases y3 with y3 | ⟨s1, s2, s3, s4, ⟨a', b', k', v', L', t1, t2⟩, s6⟩
      · exact ⟨_, _, zM', rfl, begins_1 h q3 (by decide) hT' h0 plc, y2, Or.inl y3⟩
      · exact ⟨_, _, zM', rfl, begins_1 h q3 (by decide) hT' h0 plc, y2, Or.inr ⟨s1, s2, s3, s4, ⟨a', b', k', v', L', by omega, t2⟩, _, _, _, _, _, s6⟩⟩
    · rw [decide_eq_false hroom, if_pos (show (8 : Int32) ≤ nI (cntP hears 24) from nI_le (a := 8) (by omega) (by omega)), fail_s, h.hpl]
      simp only [pb_bind, q10, q00, qz0, qz1, ite_true, ite_false, reduceIte]
      exact ⟨_, _, _, rfl, begins_5 h (by decide) hT' h0 plc, Hour_f _ _ _ _ _ _ _ _ _, Or.inl ⟨rfl, rfl, rfl, 5, by omega, by omega, rfl, rfl⟩⟩
theorem Errand_f (sz : Int32) (at_ en to wm ns ft plc : Int32) (la : Nat → Int32) : f_X11_errandLine sz m at_ en to wm ns ft plc 1 la fr = some (at_, en, to, wm, ns, ft, plc, 1, la, fr) := nr rfl
theorem dispErrand (hK : lookOk n x m) (h : tokZ n a b k v L zX zM) (hT : isT k v L 6 = true) (name sounds : Int64) (num found fp plc : Int32) (rd : rdR W P G K C fr ear pairs begun (nI W) (nI P) ff (nI C) (nI G) (nI K) wn ws pn prices kinds fw errands alikes hears g1 g2 g3) :
    ∃ (yX : tL) (zb : tB) (yM : tN), f_X5_readLine_33 (nI n) x 7 ear pairs (nI W) (nI P) ff (nI C) (nI G) zX.1 begun (nI K) zX.2.1 zX.2.2.1 zX.2.2.2.1 zX.2.2.2.2.1 zX.2.2.2.2.2 name sounds num found 0 fp wn ws prices pn kinds fw errands alikes hears g1 g2 g3 = some yX ∧ f_X11_begins (nI n) m fr zM.1 zM.2.1 zM.2.2.1 zM.2.2.2.1 zM.2.2.2.2.1 0 plc 0 zM.2.2.2.2.2 32 1 = some (1, zb) ∧ f_X11_errandLine (nI n) m zb.1 zb.2.1 zb.2.2.1 zb.2.2.2.1 zb.2.2.2.2.1 zb.2.2.2.2.2.1 zb.2.2.2.2.2.2.1 zb.2.2.2.2.2.2.2.1 zb.2.2.2.2.2.2.2.2 fr = some yM ∧ lnR n a yX yM := by
  have hab := h.hab
  have hT' : isT k v L 32 = true := by rw [isT_eq (j := 32) (j' := 6) rfl rfl]; exact hT
  have hW10 := rd.tale.W10
  have hP8 := rd.tale.P8
  have hG6 := rd.tale.G6
  have hK8 := rd.K8
  have hC4 := rd.C4
  have hc8 := rd.hc8
  unfold f_X5_readLine_33
  rw [if_neg (show ¬ (7 : Int32) = 1 by decide)]
  rcases rd.ear0 with ⟨hb, h0, z1, z2, z3, z4, z5, z6⟩ | ⟨hb, h0⟩
  · rw [if_pos hb, fail_s, h.hpl]
    simp only [pb_bind, q10, q00, qz0, qz1, ite_true, ite_false, reduceIte]
    exact ⟨_, _, _, rfl, begins_6 h (by decide) hT' h0 plc, Errand_f _ _ _ _ _ _ _ _ _, Or.inl ⟨rfl, rfl, rfl, 6, by omega, by omega, rfl, rfl⟩⟩
  · rw [if_neg (show ¬ begun = 0 by rw [hb]; decide)]
    unfold f_X5_readLine_52 f_X5_isRoomFor f_X5_isRoomFor_148
    have hroom : True := trivial
    rw [if_neg (show ¬ (7 : Int32) = 2 by decide), if_neg (show ¬ (7 : Int32) = 3 by decide), if_neg (show ¬ (7 : Int32) = 4 by decide), if_neg (show ¬ (7 : Int32) = 5 by decide), if_neg (show ¬ (7 : Int32) = 6 by decide), if_pos (show (7 : Int32) = 7 from rfl)]
    simp only [pb_bind, q10, q00, qz0, qz1, ite_true, ite_false, reduceIte]
    obtain ⟨yX, yM, ⟨a1, b1, k1, v1, L1, ha1, hy⟩, q2, q3⟩ := look_z hK h
    rw [q2]
    simp only [pb_bind, q10, q00, qz0, qz1, ite_true, ite_false, reduceIte]
    rw [if_neg (show ¬ (7 : Int32) = 1 by decide), if_neg (show ¬ (7 : Int32) = 2 by decide), if_neg (show ¬ (7 : Int32) = 3 by decide), if_neg (show ¬ (7 : Int32) = 4 by decide), if_neg (show ¬ (7 : Int32) = 5 by decide), if_neg (show ¬ (7 : Int32) = 6 by decide)]
    obtain ⟨zX', zM', y1, y2, y3⟩ := errandL hK hy hb num found fp plc rd
    rw [y1]
    simp only [pb_bind, q10, q00, qz0, qz1, ite_true, ite_false, reduceIte, zb_of y3]
    rcases y3 with y3 | ⟨s1, s2, s3, s4, ⟨a', b', k', v', L', t1, t2⟩, s6⟩
    · exact ⟨_, _, zM', rfl, begins_1 h q3 (by decide) hT' h0 plc, y2, Or.inl y3⟩
    · exact ⟨_, _, zM', rfl, begins_1 h q3 (by decide) hT' h0 plc, y2, Or.inr ⟨s1, s2, s3, s4, ⟨a', b', k', v', L', by omega, t2⟩, _, _, _, _, _, s6⟩⟩
theorem Got_f (sz : Int32) (at_ en to wm ns ft plc : Int32) (la : Nat → Int32) : f_X11_gotLine sz m at_ en to wm ns ft plc 1 la fr = some (at_, en, to, wm, ns, ft, plc, 1, la, fr) := nr rfl
theorem dispGot (hK : lookOk n x m) (h : tokZ n a b k v L zX zM) (hT : isT k v L 7 = true) (name sounds : Int64) (num found fp plc : Int32) (rd : rdR W P G K C fr ear pairs begun (nI W) (nI P) ff (nI C) (nI G) (nI K) wn ws pn prices kinds fw errands alikes hears g1 g2 g3) :
    ∃ (yX : tL) (zb : tB) (yM : tN), f_X5_readLine_33 (nI n) x 8 ear pairs (nI W) (nI P) ff (nI C) (nI G) zX.1 begun (nI K) zX.2.1 zX.2.2.1 zX.2.2.2.1 zX.2.2.2.2.1 zX.2.2.2.2.2 name sounds num found 0 fp wn ws prices pn kinds fw errands alikes hears g1 g2 g3 = some yX ∧ f_X11_begins (nI n) m fr zM.1 zM.2.1 zM.2.2.1 zM.2.2.2.1 zM.2.2.2.2.1 0 plc 0 zM.2.2.2.2.2 33 (bI (decide (G < 6))) = some (1, zb) ∧ f_X11_gotLine (nI n) m zb.1 zb.2.1 zb.2.2.1 zb.2.2.2.1 zb.2.2.2.2.1 zb.2.2.2.2.2.1 zb.2.2.2.2.2.2.1 zb.2.2.2.2.2.2.2.1 zb.2.2.2.2.2.2.2.2 fr = some yM ∧ lnR n a yX yM := by
  have hab := h.hab
  have hT' : isT k v L 33 = true := by rw [isT_eq (j := 33) (j' := 7) rfl rfl]; exact hT
  have hW10 := rd.tale.W10
  have hP8 := rd.tale.P8
  have hG6 := rd.tale.G6
  have hK8 := rd.K8
  have hC4 := rd.C4
  have hc8 := rd.hc8
  unfold f_X5_readLine_33
  rw [if_neg (show ¬ (8 : Int32) = 1 by decide)]
  rcases rd.ear0 with ⟨hb, h0, z1, z2, z3, z4, z5, z6⟩ | ⟨hb, h0⟩
  · rw [if_pos hb, fail_s, h.hpl]
    rw [decide_eq_true (show G < 6 by omega)]
    simp only [pb_bind, q10, q00, qz0, qz1, ite_true, ite_false, reduceIte]
    exact ⟨_, _, _, rfl, begins_6 h (by decide) hT' h0 plc, Got_f _ _ _ _ _ _ _ _ _, Or.inl ⟨rfl, rfl, rfl, 6, by omega, by omega, rfl, rfl⟩⟩
  · rw [if_neg (show ¬ begun = 0 by rw [hb]; decide)]
    unfold f_X5_readLine_52 f_X5_isRoomFor f_X5_isRoomFor_148
    rw [if_neg (show ¬ (8 : Int32) = 2 by decide), if_neg (show ¬ (8 : Int32) = 3 by decide), if_neg (show ¬ (8 : Int32) = 4 by decide), if_neg (show ¬ (8 : Int32) = 5 by decide), if_neg (show ¬ (8 : Int32) = 6 by decide), if_neg (show ¬ (8 : Int32) = 7 by decide), if_pos (show (8 : Int32) = 8 from rfl)]
    by_cases hroom : G < 6
    · rw [decide_eq_true hroom, if_neg (show ¬ (6 : Int32) ≤ nI (G) from nI_ge (b := 6) hroom (by decide))]
      simp only [pb_bind, q10, q00, qz0, qz1, ite_true, ite_false, reduceIte]
      obtain ⟨yX, yM, ⟨a1, b1, k1, v1, L1, ha1, hy⟩, q2, q3⟩ := look_z hK h
      rw [q2]
      simp only [pb_bind, q10, q00, qz0, qz1, ite_true, ite_false, reduceIte]
      rw [if_neg (show ¬ (8 : Int32) = 1 by decide), if_neg (show ¬ (8 : Int32) = 2 by decide), if_neg (show ¬ (8 : Int32) = 3 by decide), if_neg (show ¬ (8 : Int32) = 4 by decide), if_neg (show ¬ (8 : Int32) = 5 by decide), if_neg (show ¬ (8 : Int32) = 6 by decide), if_neg (show ¬ (8 : Int32) = 7 by decide)]
      obtain ⟨zX', zM', y1, y2, y3⟩ := gotL hK hy hb hroom found fp plc rd
      rw [y1]
      simp only [pb_bind, q10, q00, qz0, qz1, ite_true, ite_false, reduceIte, zb_of y3]
      rcases y3 with y3 | ⟨s1, s2, s3, s4, ⟨a', b', k', v', L', t1, t2⟩, s6⟩
      · exact ⟨_, _, zM', rfl, begins_1 h q3 (by decide) hT' h0 plc, y2, Or.inl y3⟩
      · exact ⟨_, _, zM', rfl, begins_1 h q3 (by decide) hT' h0 plc, y2, Or.inr ⟨s1, s2, s3, s4, ⟨a', b', k', v', L', by omega, t2⟩, _, _, _, _, _, s6⟩⟩
    · rw [decide_eq_false hroom, if_pos (show (6 : Int32) ≤ nI (G) from nI_le (a := 6) (by omega) (by omega)), fail_s, h.hpl]
      simp only [pb_bind, q10, q00, qz0, qz1, ite_true, ite_false, reduceIte]
      exact ⟨_, _, _, rfl, begins_5 h (by decide) hT' h0 plc, Got_f _ _ _ _ _ _ _ _ _, Or.inl ⟨rfl, rfl, rfl, 5, by omega, by omega, rfl, rfl⟩⟩
end
