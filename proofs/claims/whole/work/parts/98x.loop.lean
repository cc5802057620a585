/-! a line, all lines -/
section
variable {n : Nat} {x m : Nat → Int32} {a b k v : Nat} {L : Nat → Nat} {zX : tX} {zM : tM}
variable {W P G K C : Nat} {fr : Nat → Int32} {ear pairs begun wc pc ff ac gc kn : Int32} {wn ws pn : Nat → Int64} {prices kinds fw errands alikes hears g1 g2 g3 : Nat → Int32}
theorem ferry18_f (sz at_ en to wm ns ft plc : Int32) (la : Nat → Int32) : f_X11_ferryLine_18 sz m at_ en to wm ns ft plc 1 la fr = some (at_, en, to, wm, ns, ft, plc, 1, la, fr) := nr rfl
theorem dispFerry (hK : lookOk n x m) (h : tokZ n a b k v L zX zM) (name sounds : Int64) (num found fp plc : Int32) (rd : rdR W P G K C fr ear pairs begun (nI W) (nI P) ff (nI C) (nI G) (nI K) wn ws pn prices kinds fw errands alikes hears g1 g2 g3) :
    ∃ (yX : tL) (yM : tN), (if begun = 0 then f_X5_readLine_33 (nI n) x 1 ear pairs (nI W) (nI P) ff (nI C) (nI G) zX.1 begun (nI K) zX.2.1 zX.2.2.1 zX.2.2.2.1 zX.2.2.2.2.1 zX.2.2.2.2.2 name sounds num found 0 fp wn ws prices pn kinds fw errands alikes hears g1 g2 g3 else (f_X5_fail zX.2.2.1 0 fp 3).bind fun z29 => if rf_zb z29.1 = true then some (z29.1, ear, pairs, nI W, nI P, ff, nI C, nI G, zX.1, begun, nI K, zX.2.1, zX.2.2.1, zX.2.2.2.1, zX.2.2.2.2.1, zX.2.2.2.2.2, name, sounds, num, found, z29.2.1, z29.2.2, wn, ws, prices, pn, kinds, fw, errands, alikes, hears, g1, g2, g3) else none) = some yX ∧ f_X11_ferryLine (nI n) m zM.1 zM.2.1 zM.2.2.1 zM.2.2.2.1 zM.2.2.2.2.1 0 plc 0 zM.2.2.2.2.2 fr = some yM ∧ lnR n a yX yM := by
  have hab := h.hab
  unfold f_X11_ferryLine
  rw [cl0]
  rcases rd.ear0 with ⟨hb, h0, -⟩ | ⟨hb, h0⟩
  · obtain ⟨yX, yM, ⟨a1, b1, k1, v1, L1, ha1, hy⟩, q2, q3⟩ := look_z hK h
    obtain ⟨zX', zM', y1, y2, y3⟩ := ferryL hK q3 hy num fp plc rd
    rw [if_pos hb, if_pos (show fr 0 ≤ 0 by rw [h0]; decide)]
    unfold f_X5_readLine_33 f_X5_readLine_52 f_X5_isRoomFor f_X5_isRoomFor_148
    rw [if_pos (show (1 : Int32) = 1 from rfl), if_neg (show ¬ (1 : Int32) = 2 by decide), if_neg (show ¬ (1 : Int32) = 3 by decide), if_neg (show ¬ (1 : Int32) = 4 by decide), if_neg (show ¬ (1 : Int32) = 5 by decide), if_neg (show ¬ (1 : Int32) = 6 by decide), if_neg (show ¬ (1 : Int32) = 7 by decide), if_neg (show ¬ (1 : Int32) = 8 by decide), pb_bind, if_neg (show ¬ (1 : Int32) = 0 by decide), q2, pb_bind, if_pos (show (1 : Int32) = 1 from rfl), y1, pb_bind, if_pos (of_eq_true (zb_of y3))]
    rcases y3 with y3 | ⟨s1, s2, s3, s4, ⟨a', b', k', v', L', t1, t2⟩, s6⟩
    · exact ⟨_, zM', rfl, y2, Or.inl y3⟩
    · exact ⟨_, zM', rfl, y2, Or.inr ⟨s1, s2, s3, s4, ⟨a', b', k', v', L', by omega, t2⟩, _, _, _, _, _, s6⟩⟩
  · have hle : ¬ fr 0 ≤ 0 := by
      obtain ⟨⟨c, c1, c2, c3⟩, -⟩ := rd.begun1 hb
      rw [← rd.tale.hear, c3]
      exact nI_ge (a := 0) (by omega) (by omega)
    rw [if_neg (show ¬ begun = 0 by rw [hb]; decide), if_neg hle, fail_s, pb_bind, wrong_0, pb_bind, ferry18_f, h.hpl, h.hat]
    exact ⟨_, _, rfl, rfl, Or.inl ⟨rfl, rfl, rfl, 3, by omega, by omega, rfl, rfl⟩⟩
theorem rdR.ear0' (rd : rdR W P G K C fr ear pairs begun wc pc ff ac gc kn wn ws pn prices kinds fw errands alikes hears g1 g2 g3) : P = 0 ∨ ¬ fr 0 = 0 := by
  rcases rd.beg with q | ⟨q1, ⟨c, c1, c2, c3⟩, -⟩
  · exact Or.inl q.2.2.2.2.1
  · refine Or.inr (fun z => ?_)
    rw [← rd.tale.hear, c3] at z
    have := (nI_eq (a := c) (b := 0) (by omega) (by decide)).mp z
    omega
theorem readLine_s (hK : lookOk n x m) (h : tokZ n a b k v L zX zM) (name sounds : Int64) (num found fp plc : Int32) (rd : rdR W P G K C fr ear pairs begun (nI W) (nI P) ff (nI C) (nI G) (nI K) wn ws pn prices kinds fw errands alikes hears g1 g2 g3) :
    ∃ (yX : tL) (yM : tN), f_X5_readLine (nI n) x ear pairs (nI W) (nI P) ff (nI C) (nI G) zX.1 begun (nI K) zX.2.1 zX.2.2.1 zX.2.2.2.1 zX.2.2.2.2.1 zX.2.2.2.2.2 name sounds num found 0 fp wn ws prices pn kinds fw errands alikes hears g1 g2 g3 = some yX ∧ f_X11_readLine (nI n) m zM.1 zM.2.1 zM.2.2.1 zM.2.2.2.1 zM.2.2.2.2.1 0 plc 0 zM.2.2.2.2.2 fr = some yM ∧ lnR n a yX yM := by
  have r2 := rd.tale.hwc'
  have r3 := rd.tale.hpc'
  have r4 := rd.tale.hac
  have r5 := rd.tale.hc
  have r7 := rd.tale.hgc'
  have r8 := rd.hkn'
  have w10 := rd.tale.W10
  have p8 := rd.tale.P8
  have g6 := rd.tale.G6
  have k8 := rd.K8
  have c4 := rd.C4
  have c8 := rd.hc8
  have room : ∀ {A : Int32 → Option tN} {c lim : Nat} {r0 : Int32}, r0 = nI c → c ≤ 100 → lim ≤ 100 → ∀ {l : Int32}, l = nI lim → (if l ≤ r0 then A 0 else A 1) = A (bI (decide (c < lim))) := by
    intro A c lim r0 h1 h2 h3 l h4
    subst h1 h4
    by_cases hc : c < lim
    · rw [if_neg (nI_ge hc (by omega)), decide_eq_true hc]; rfl
    · rw [if_pos (nI_le (by omega) (by omega)), decide_eq_false hc]; rfl
  unfold f_X5_readLine f_X11_readLine
  rw [lineBegun_s h, pb_bind, (is_s h (j := 24) (by decide)).2, isT_eq (j := 24) (j' := 0) rfl rfl, pb_bind]
  cases h0 : isT k v L 0
  rotate_left
  · have hl : lnT k v L = 1 := by unfold lnT; rw [if_pos h0]
    obtain ⟨yX, yM, y1, y2, y3⟩ := dispFerry hK h name sounds num found fp plc rd
    rw [hl, if_neg (show ¬ nI 1 = 0 by decide), if_pos (show nI 1 = 1 from rfl), if_neg (show ¬ bI true = 0 by decide), y2, pb_bind]
    exact ⟨yX, _, y1, rfl, y3⟩
  rw [if_pos nbf, cl2, room (A := fun s => f_X11_readLine_35 (nI n) m s zM.1 zM.2.1 zM.2.2.1 zM.2.2.2.1 zM.2.2.2.2.1 0 plc 0 zM.2.2.2.2.2 fr) r2 (by omega) (lim := 10) (by omega) (show (10 : Int32) = nI 10 from rfl)]
  unfold f_X11_readLine_35
  cases h1 : isT k v L 1
  rotate_left
  · have hl : lnT k v L = 2 := by unfold lnT; rw [if_neg (show ¬ isT k v L 0 = true by rw [h0]; decide), if_pos h1]
    obtain ⟨yX, zb, yM, y1, y2, y3, y4⟩ := dispWord hK h h1 name sounds num found fp plc rd
    rw [hl, if_neg (show ¬ nI 2 = 0 by decide), if_neg (show ¬ nI 2 = 1 by decide), y2, pb_bind, if_neg (show ¬ (1 : Int32) = 0 by decide), y3, pb_bind]
    exact ⟨yX, _, y1, rfl, y4⟩
  rw [begins_n h (j := 27) (by decide) (by rw [isT_eq (j := 27) (j' := 1) rfl rfl]; exact h1), pb_bind, if_pos (show (0 : Int32) = 0 from rfl)]
  rw [cl3, room (A := fun s => f_X11_readLine_67 (nI n) m s zM.1 zM.2.1 zM.2.2.1 zM.2.2.2.1 zM.2.2.2.2.1 0 plc 0 zM.2.2.2.2.2 fr) r3 (by omega) (lim := 8) (by omega) (show (8 : Int32) = nI 8 from rfl)]
  unfold f_X11_readLine_67
  cases h2 : isT k v L 2
  rotate_left
  · have hl : lnT k v L = 3 := by unfold lnT; rw [if_neg (show ¬ isT k v L 0 = true by rw [h0]; decide), if_neg (show ¬ isT k v L 1 = true by rw [h1]; decide), if_pos h2]
    obtain ⟨yX, zb, yM, y1, y2, y3, y4⟩ := dispPerson hK h h2 name sounds num found fp plc rd
    rw [hl, if_neg (show ¬ nI 3 = 0 by decide), if_neg (show ¬ nI 3 = 1 by decide), y2, pb_bind, if_neg (show ¬ (1 : Int32) = 0 by decide), y3, pb_bind]
    exact ⟨yX, _, y1, rfl, y4⟩
  rw [begins_n h (j := 28) (by decide) (by rw [isT_eq (j := 28) (j' := 2) rfl rfl]; exact h2), pb_bind, if_pos (show (0 : Int32) = 0 from rfl)]
  rw [cl8, room (A := fun s => f_X11_readLine_100 (nI n) m s zM.1 zM.2.1 zM.2.2.1 zM.2.2.2.1 zM.2.2.2.2.1 0 plc 0 zM.2.2.2.2.2 fr) r8 (by omega) (lim := 8) (by omega) (show (8 : Int32) = nI 8 from rfl)]
  unfold f_X11_readLine_100
  cases h3 : isT k v L 3
  rotate_left
  · have hl : lnT k v L = 4 := by unfold lnT; rw [if_neg (show ¬ isT k v L 0 = true by rw [h0]; decide), if_neg (show ¬ isT k v L 1 = true by rw [h1]; decide), if_neg (show ¬ isT k v L 2 = true by rw [h2]; decide), if_pos h3]
    obtain ⟨yX, zb, yM, y1, y2, y3, y4⟩ := dispKnows hK h h3 name sounds num found fp plc rd
    rw [hl, if_neg (show ¬ nI 4 = 0 by decide), if_neg (show ¬ nI 4 = 1 by decide), y2, pb_bind, if_neg (show ¬ (1 : Int32) = 0 by decide), y3, pb_bind]
    exact ⟨yX, _, y1, rfl, y4⟩
  rw [begins_n h (j := 29) (by decide) (by rw [isT_eq (j := 29) (j' := 3) rfl rfl]; exact h3), pb_bind, if_pos (show (0 : Int32) = 0 from rfl)]
  rw [cl4, room (A := fun s => f_X11_readLine_131 (nI n) m s zM.1 zM.2.1 zM.2.2.1 zM.2.2.2.1 zM.2.2.2.2.1 0 plc 0 zM.2.2.2.2.2 fr) r4.symm (by omega) (lim := 4) (by omega) (show (4 : Int32) = nI 4 from rfl)]
  unfold f_X11_readLine_131
  cases h4 : isT k v L 4
  rotate_left
  · have hl : lnT k v L = 5 := by unfold lnT; rw [if_neg (show ¬ isT k v L 0 = true by rw [h0]; decide), if_neg (show ¬ isT k v L 1 = true by rw [h1]; decide), if_neg (show ¬ isT k v L 2 = true by rw [h2]; decide), if_neg (show ¬ isT k v L 3 = true by rw [h3]; decide), if_pos h4]
    obtain ⟨yX, zb, yM, y1, y2, y3, y4⟩ := dispAlike hK h h4 name sounds num found fp plc rd
    rw [hl, if_neg (show ¬ nI 5 = 0 by decide), if_neg (show ¬ nI 5 = 1 by decide), y2, pb_bind, if_neg (show ¬ (1 : Int32) = 0 by decide), y3, pb_bind]
    exact ⟨yX, _, y1, rfl, y4⟩
  rw [begins_n h (j := 30) (by decide) (by rw [isT_eq (j := 30) (j' := 4) rfl rfl]; exact h4), pb_bind, if_pos (show (0 : Int32) = 0 from rfl)]
  rw [cl5, room (A := fun s => f_X11_readLine_163 (nI n) m s zM.1 zM.2.1 zM.2.2.1 zM.2.2.2.1 zM.2.2.2.2.1 0 plc 0 zM.2.2.2.2.2 fr) r5 (by omega) (lim := 8) (by omega) (show (8 : Int32) = nI 8 from rfl)]
  unfold f_X11_readLine_163
  cases h5 : isT k v L 5
  rotate_left
  · have hl : lnT k v L = 6 := by unfold lnT; rw [if_neg (show ¬ isT k v L 0 = true by rw [h0]; decide), if_neg (show ¬ isT k v L 1 = true by rw [h1]; decide), if_neg (show ¬ isT k v L 2 = true by rw [h2]; decide), if_neg (show ¬ isT k v L 3 = true by rw [h3]; decide), if_neg (show ¬ isT k v L 4 = true by rw [h4]; decide), if_pos h5]
    obtain ⟨yX, zb, yM, y1, y2, y3, y4⟩ := dispHour hK h h5 name sounds num found fp plc rd
    rw [hl, if_neg (show ¬ nI 6 = 0 by decide), if_neg (show ¬ nI 6 = 1 by decide), y2, pb_bind, if_neg (show ¬ (1 : Int32) = 0 by decide), y3, pb_bind]
    exact ⟨yX, _, y1, rfl, y4⟩
  rw [begins_n h (j := 31) (by decide) (by rw [isT_eq (j := 31) (j' := 5) rfl rfl]; exact h5), pb_bind, if_pos (show (0 : Int32) = 0 from rfl)]
  cases h6 : isT k v L 6
  rotate_left
  · have hl : lnT k v L = 7 := by unfold lnT; rw [if_neg (show ¬ isT k v L 0 = true by rw [h0]; decide), if_neg (show ¬ isT k v L 1 = true by rw [h1]; decide), if_neg (show ¬ isT k v L 2 = true by rw [h2]; decide), if_neg (show ¬ isT k v L 3 = true by rw [h3]; decide), if_neg (show ¬ isT k v L 4 = true by rw [h4]; decide), if_neg (show ¬ isT k v L 5 = true by rw [h5]; decide), if_pos h6]
    obtain ⟨yX, zb, yM, y1, y2, y3, y4⟩ := dispErrand hK h h6 name sounds num found fp plc rd
    rw [hl, if_neg (show ¬ nI 7 = 0 by decide), if_neg (show ¬ nI 7 = 1 by decide), y2, pb_bind, if_neg (show ¬ (1 : Int32) = 0 by decide), y3, pb_bind]
    exact ⟨yX, _, y1, rfl, y4⟩
  rw [begins_n h (j := 32) (by decide) (by rw [isT_eq (j := 32) (j' := 6) rfl rfl]; exact h6), pb_bind, if_pos (show (0 : Int32) = 0 from rfl)]
  rw [cl7, room (A := fun s => f_X11_readLine_213 (nI n) m s zM.1 zM.2.1 zM.2.2.1 zM.2.2.2.1 zM.2.2.2.2.1 0 plc 0 zM.2.2.2.2.2 fr) r7 (by omega) (lim := 6) (by omega) (show (6 : Int32) = nI 6 from rfl)]
  unfold f_X11_readLine_213
  cases h7 : isT k v L 7
  rotate_left
  · have hl : lnT k v L = 8 := by unfold lnT; rw [if_neg (show ¬ isT k v L 0 = true by rw [h0]; decide), if_neg (show ¬ isT k v L 1 = true by rw [h1]; decide), if_neg (show ¬ isT k v L 2 = true by rw [h2]; decide), if_neg (show ¬ isT k v L 3 = true by rw [h3]; decide), if_neg (show ¬ isT k v L 4 = true by rw [h4]; decide), if_neg (show ¬ isT k v L 5 = true by rw [h5]; decide), if_neg (show ¬ isT k v L 6 = true by rw [h6]; decide), if_pos h7]
    obtain ⟨yX, zb, yM, y1, y2, y3, y4⟩ := dispGot hK h h7 name sounds num found fp plc rd
    rw [hl, if_neg (show ¬ nI 8 = 0 by decide), if_neg (show ¬ nI 8 = 1 by decide), y2, pb_bind, if_neg (show ¬ (1 : Int32) = 0 by decide), y3, pb_bind]
    exact ⟨yX, _, y1, rfl, y4⟩
  have hl : lnT k v L = 0 := by unfold lnT; rw [if_neg (show ¬ isT k v L 0 = true by rw [h0]; decide), if_neg (show ¬ isT k v L 1 = true by rw [h1]; decide), if_neg (show ¬ isT k v L 2 = true by rw [h2]; decide), if_neg (show ¬ isT k v L 3 = true by rw [h3]; decide), if_neg (show ¬ isT k v L 4 = true by rw [h4]; decide), if_neg (show ¬ isT k v L 5 = true by rw [h5]; decide), if_neg (show ¬ isT k v L 6 = true by rw [h6]; decide), if_neg (show ¬ isT k v L 7 = true by rw [h7]; decide)]
  rw [begins_n h (j := 33) (by decide) (by rw [isT_eq (j := 33) (j' := 7) rfl rfl]; exact h7), pb_bind, if_pos (show (0 : Int32) = 0 from rfl), wrong_0, pb_bind, hl, if_pos (show nI 0 = 0 from rfl), fail_s, pb_bind, h.hpl, h.hat]
  exact ⟨_, _, rfl, rfl, Or.inl ⟨rfl, rfl, rfl, 1, by omega, by omega, rfl, rfl⟩⟩
end
abbrev tR : Type := Int32 × Int32 × Int32 × Int32 × Int32 × Int32 × Int32 × Nat × Int32 × Int32 × Int32 × Int32 × Int32 × Int32 × Int32 × Int64 × Int32 × Int64 × Int64 × Int32 × Int32 × Int32 × Int32 × (Nat → Int64) × (Nat → Int64) × (Nat → Int32) × (Nat → Int64) × (Nat → Int32) × (Nat → Int32) × (Nat → Int32) × (Nat → Int32) × (Nat → Int32) × (Nat → Int32) × (Nat → Int32) × (Nat → Int32)
/-- how the reading ends, told twice -/
def fnR (zX : tR) (ft' plc' fd' : Int32) (fr' : Nat → Int32) : Prop := zX.2.2.2.2.2.2.2.1 = 11 ∧ ((fd' = 1 ∧ zX.2.2.2.2.2.2.2.2.2.2.2.2.2.2.2.2.2.2.2.2.2.2.1 = plc' ∧ ∃ f : Nat, 1 ≤ f ∧ f ≤ 7 ∧ zX.2.2.2.2.2.2.2.2.2.2.2.2.2.2.2.2.2.2.2.2.2.1 = nI f ∧ ft' = nI f) ∨ (fd' = 0 ∧ zX.2.2.2.2.2.2.2.2.2.2.2.2.2.2.2.2.2.2.2.2.2.1 = 0 ∧ ft' = 0 ∧ ∃ W P G K C : Nat, 0 < P ∧ rdR W P G K C fr' zX.1 zX.2.1 zX.2.2.2.2.2.2.2.2.2.2.1 zX.2.2.1 zX.2.2.2.1 zX.2.2.2.2.1 zX.2.2.2.2.2.1 zX.2.2.2.2.2.2.1 zX.2.2.2.2.2.2.2.2.2.2.2.1 zX.2.2.2.2.2.2.2.2.2.2.2.2.2.2.2.2.2.2.2.2.2.2.2.1 zX.2.2.2.2.2.2.2.2.2.2.2.2.2.2.2.2.2.2.2.2.2.2.2.2.1 zX.2.2.2.2.2.2.2.2.2.2.2.2.2.2.2.2.2.2.2.2.2.2.2.2.2.2.1 zX.2.2.2.2.2.2.2.2.2.2.2.2.2.2.2.2.2.2.2.2.2.2.2.2.2.1 zX.2.2.2.2.2.2.2.2.2.2.2.2.2.2.2.2.2.2.2.2.2.2.2.2.2.2.2.1 zX.2.2.2.2.2.2.2.2.2.2.2.2.2.2.2.2.2.2.2.2.2.2.2.2.2.2.2.2.1 zX.2.2.2.2.2.2.2.2.2.2.2.2.2.2.2.2.2.2.2.2.2.2.2.2.2.2.2.2.2.1 zX.2.2.2.2.2.2.2.2.2.2.2.2.2.2.2.2.2.2.2.2.2.2.2.2.2.2.2.2.2.2.1 zX.2.2.2.2.2.2.2.2.2.2.2.2.2.2.2.2.2.2.2.2.2.2.2.2.2.2.2.2.2.2.2.1 zX.2.2.2.2.2.2.2.2.2.2.2.2.2.2.2.2.2.2.2.2.2.2.2.2.2.2.2.2.2.2.2.2.1 zX.2.2.2.2.2.2.2.2.2.2.2.2.2.2.2.2.2.2.2.2.2.2.2.2.2.2.2.2.2.2.2.2.2.1 zX.2.2.2.2.2.2.2.2.2.2.2.2.2.2.2.2.2.2.2.2.2.2.2.2.2.2.2.2.2.2.2.2.2.2))
theorem tkF_59 {k : Nat} (hk : k ≤ 4) : (nI (tkF k) = 59) ↔ k = 3 := by
  obtain rfl | rfl | rfl | rfl | rfl : k = 0 ∨ k = 1 ∨ k = 2 ∨ k = 3 ∨ k = 4 := by omega
  · decide
  · decide
  · decide
  · decide
  · decide
theorem tkF_0 {k : Nat} (hk : k ≤ 4) : (nI (tkF k) = 0) ↔ k = 0 := by
  obtain rfl | rfl | rfl | rfl | rfl : k = 0 ∨ k = 1 ∨ k = 2 ∨ k = 3 ∨ k = 4 := by omega
  · decide
  · decide
  · decide
  · decide
  · decide
theorem lnR.mono {n a a0 : Nat} {zX : tL} {zM : tN} (h : lnR n a zX zM) (hle : a0 ≤ a) : lnR n a0 zX zM := by
  rcases h with h | ⟨s1, s2, s3, s4, ⟨a', b', k', v', L', t1, t2⟩, s6⟩
  · exact Or.inl h
  · exact Or.inr ⟨s1, s2, s3, s4, ⟨a', b', k', v', L', by omega, t2⟩, s6⟩
theorem loop_end {n : Nat} {x m : Nat → Int32} (th tp tr hf un im : Int32) (r st : Nat → Int32) (f f' i : Nat) : ∀ ret ear pairs wc pc ff ac gc nx begun kn so pl le : Int32, ∀ lt : Int64, ∀ wh : Int32, ∀ name sounds : Int64, ∀ num found ft fp : Int32, ∀ wn ws : Nat → Int64, ∀ prices : Nat → Int32, ∀ pn : Nat → Int64, ∀ kinds fw errands alikes hears g1 g2 g3 : Nat → Int32, ∀ at_ en to wm ns ftm plc fd : Int32, ∀ la fr : Nat → Int32, lnR n i (ret, ear, pairs, wc, pc, ff, ac, gc, nx, begun, kn, so, pl, le, lt, wh, name, sounds, num, found, ft, fp, wn, ws, prices, pn, kinds, fw, errands, alikes, hears, g1, g2, g3) (at_, en, to, wm, ns, ftm, plc, fd, la, fr) → (ret = 0 ∨ ¬ so = 3) →
    ∃ (zX : tR) (at' en' to' wm' ns' ft' plc' fd' : Int32) (la' fr' : Nat → Int32), f_X5_read_62 x (f + 1) ret (nI i) ear pairs wc pc ff ac gc (nI n) nx begun kn so pl le lt wh name sounds num found ft fp wn ws prices pn kinds fw errands alikes hears g1 g2 g3 = some zX ∧ f_X11_ferry_77 m (f' + 1) th tp (nI n) at_ en to wm ns ftm plc tr fd hf un im la r fr st = f_X11_ferry_171 m th tp (nI n) at' en' to' wm' ns' ft' plc' tr fd' hf un im la' r fr' st ∧ fnR zX ft' plc' fd' fr' := by
  intro ret ear pairs wc pc ff ac gc nx begun kn so pl le lt wh name sounds num found ft fp wn ws prices pn kinds fw errands alikes hears g1 g2 g3 at_ en to wm ns ftm plc fd la fr h hs
  have hX : f_X5_read_62 x (f + 1) ret (nI i) ear pairs wc pc ff ac gc (nI n) nx begun kn so pl le lt wh name sounds num found ft fp wn ws prices pn kinds fw errands alikes hears g1 g2 g3 = f_X5_read_97 x ret ear pairs wc pc ff ac gc (nI n) nx begun kn so pl le lt wh name sounds num found ft fp wn ws prices pn kinds fw errands alikes hears g1 g2 g3 := by
    rw [f_X5_read_62]
    by_cases h9 : (900 : Int32) ≤ nI i
    · rw [if_pos h9]
    · rw [if_neg h9]
      by_cases hr : ret = 0
      · rw [if_pos hr]
      · rw [if_neg hr, if_neg (hs.resolve_left hr)]
  rw [hX, f_X11_ferry_77]
  unfold f_X5_read_97 f_X5_read_117 f_X11_ferry_104 f_X11_ferry_127
  rcases h with ⟨h1, h2, h3, f, f1, f7, e1, e2⟩ | ⟨h1, h2, h3, h4, ⟨a, b, k, v, L, ha, ht⟩, W, P, G, K, C, rd⟩
  · dsimp only at h1 h2 h3 e1 e2
    rw [if_pos h1, if_pos h1, if_neg (show ¬ fd = 0 by rw [h2]; decide), if_neg (show ¬ fd = 0 by rw [h2]; decide), if_neg (show ¬ fd = 0 by rw [h2]; decide)]
    exact ⟨_, _, _, _, _, _, _, _, _, _, _, rfl, rfl, rfl, Or.inl ⟨h2, h3, f, f1, f7, e1, e2⟩⟩
  · dsimp only at h1 h2 h3 h4 ht rd
    have hk4 := ht.hk
    have hso := ht.hso
    have hto := ht.hto
    have hpl := ht.hpl
    have hat := ht.hat
    have hr0 : ¬ ret = 0 := by rw [h1]; decide
    have hs3 := hs.resolve_left hr0
    have hk3 : k ≠ 3 := fun e => hs3 (by rw [hso, e]; rfl)
    have hpc := rd.tale.hpc
    have hP8 := rd.tale.P8
    have hW10 := rd.tale.W10
    subst h1 h2 h3 h4
    rw [if_neg (show ¬ (1 : Int32) = 0 by decide), if_neg (show ¬ (1 : Int32) = 0 by decide), if_pos (show (0 : Int32) = 0 from rfl), if_neg (show ¬ to = 59 by rw [hto]; exact fun z => hk3 ((tkF_59 hk4).mp z)), if_pos (show (0 : Int32) = 0 from rfl)]
    by_cases hk0 : k = 0
    · rw [if_pos (show so = 0 by rw [hso, hk0]; rfl), if_pos (show to = 0 by rw [hto, hk0]; rfl), if_pos (show (0 : Int32) = 0 from rfl), cl0, cl2, cl3, rd.tale.hwc', rd.tale.hpc']
      by_cases hP : P = 0
      · have hM : ∀ {A B : Option (Int32 × Int32 × Int32 × Int32 × Int32 × Int32 × Int32 × Int32 × Int32 × Int32 × Int32 × Int32 × Int32 × Int32 × Int32 × Int32 × (Nat → Int32) × (Nat → Int32) × (Nat → Int32) × (Nat → Int32))}, (if fr 0 = 0 then A else if nI W = 0 then A else if nI P = 0 then A else B) = A := by
          intro A B
          by_cases q1 : fr 0 = 0
          · rw [if_pos q1]
          · rw [if_neg q1]
            by_cases q2 : nI W = 0
            · rw [if_pos q2]
            · rw [if_neg q2, if_pos (show nI P = 0 by rw [hP]; rfl)]
        rw [hM, if_pos (show pc = 0 by rw [hpc, hP]; rfl)]
        unfold f_X11_ferry_161
        rw [wrong_0, pb_bind, fail_s, pb_bind, hat, hpl]
        exact ⟨_, _, _, _, _, _, _, _, _, _, _, rfl, rfl, rfl, Or.inl ⟨rfl, rfl, 6, by omega, by omega, rfl, rfl⟩⟩
      · obtain ⟨w, w1, -⟩ := rd.fws1 0 (by omega)
        have q0 : ¬ fr 0 = 0 := by
          rcases rd.ear0' with q | q
          · omega
          · exact q
        rw [if_neg q0, if_neg (show ¬ nI W = 0 from fun z => by have := (nI_eq (a := W) (b := 0) (by omega) (by decide)).mp z; omega), if_neg (show ¬ nI P = 0 from fun z => by have := (nI_eq (a := P) (b := 0) (by omega) (by decide)).mp z; omega), if_neg (show ¬ pc = 0 from fun z => by rw [hpc] at z; have := (nI_eq (a := P) (b := 0) (by omega) (by decide)).mp z; omega)]
        exact ⟨_, _, _, _, _, _, _, _, _, _, _, rfl, rfl, rfl, Or.inr ⟨rfl, rfl, rfl, W, P, G, K, C, by omega, rd⟩⟩
    · rw [if_neg (show ¬ so = 0 by rw [hso]; exact fun z => hk0 ((nI_eq (b := 0) (by omega) (by decide)).mp z)), if_neg (show ¬ to = 0 by rw [hto]; exact fun z => hk0 ((tkF_0 hk4).mp z)), wrong_0, pb_bind, if_neg (show ¬ (1 : Int32) = 0 by decide), fail_s, pb_bind, hat, hpl]
      exact ⟨_, _, _, _, _, _, _, _, _, _, _, rfl, rfl, rfl, Or.inl ⟨rfl, rfl, 1, by omega, by omega, rfl, rfl⟩⟩
theorem loop_s {n : Nat} (hn : n ≤ 900) {x m : Nat → Int32} (hK : lookOk n x m) (th tp tr hf un im : Int32) (r st : Nat → Int32) : ∀ d f f' i : Nat, ∀ ret ear pairs wc pc ff ac gc nx begun kn so pl le : Int32, ∀ lt : Int64, ∀ wh : Int32, ∀ name sounds : Int64, ∀ num found ft fp : Int32, ∀ wn ws : Nat → Int64, ∀ prices : Nat → Int32, ∀ pn : Nat → Int64, ∀ kinds fw errands alikes hears g1 g2 g3 : Nat → Int32, ∀ at_ en to wm ns ftm plc fd : Int32, ∀ la fr : Nat → Int32, i + d = n + 1 → d < f → d < f' → lnR n i (ret, ear, pairs, wc, pc, ff, ac, gc, nx, begun, kn, so, pl, le, lt, wh, name, sounds, num, found, ft, fp, wn, ws, prices, pn, kinds, fw, errands, alikes, hears, g1, g2, g3) (at_, en, to, wm, ns, ftm, plc, fd, la, fr) →
    ∃ (zX : tR) (at' en' to' wm' ns' ft' plc' fd' : Int32) (la' fr' : Nat → Int32), f_X5_read_62 x f ret (nI i) ear pairs wc pc ff ac gc (nI n) nx begun kn so pl le lt wh name sounds num found ft fp wn ws prices pn kinds fw errands alikes hears g1 g2 g3 = some zX ∧ f_X11_ferry_77 m f' th tp (nI n) at_ en to wm ns ftm plc tr fd hf un im la r fr st = f_X11_ferry_171 m th tp (nI n) at' en' to' wm' ns' ft' plc' tr fd' hf un im la' r fr' st ∧ fnR zX ft' plc' fd' fr' := by
  intro d
  induction d with
  | zero =>
    intro f f' i ret ear pairs wc pc ff ac gc nx begun kn so pl le lt wh name sounds num found ft fp wn ws prices pn kinds fw errands alikes hears g1 g2 g3 at_ en to wm ns ftm plc fd la fr hi hf1 hf2 h
    obtain ⟨f, rfl, _⟩ := fuel_succ hf1
    obtain ⟨f', rfl, _⟩ := fuel_succ hf2
    refine loop_end th tp tr hf un im r st f f' i _ _ _ _ _ _ _ _ _ _ _ _ _ _ _ _ _ _ _ _ _ _ _ _ _ _ _ _ _ _ _ _ _ _ _ _ _ _ _ _ _ _ _ _ h ?_
    rcases h with h | ⟨h1, h2, h3, h4, ⟨a, b, k, v, L, ha, ht⟩, -⟩
    · exact Or.inl h.1
    · have h5 := ht.hab
      have h6 := ht.hbn
      omega
  | succ d ih =>
    intro f f' i ret ear pairs wc pc ff ac gc nx begun kn so pl le lt wh name sounds num found ft fp wn ws prices pn kinds fw errands alikes hears g1 g2 g3 at_ en to wm ns ftm plc fd la fr hi hf1 hf2 h
    obtain ⟨f, rfl, hf3⟩ := fuel_succ hf1
    obtain ⟨f', rfl, hf4⟩ := fuel_succ hf2
    by_cases hs : ret = 0 ∨ ¬ so = 3
    · exact loop_end th tp tr hf un im r st f f' i _ _ _ _ _ _ _ _ _ _ _ _ _ _ _ _ _ _ _ _ _ _ _ _ _ _ _ _ _ _ _ _ _ _ _ _ _ _ _ _ _ _ _ _ h hs
    · rcases h with h | ⟨h1, h2, h3, h4, ⟨a, b, k, v, L, ha, ht⟩, W, P, G, K, C, rd⟩
      · exact absurd (Or.inl h.1) hs
      · dsimp only at h1 h2 h3 h4 ht rd
        have hso3 : so = 3 := Classical.byContradiction (fun z => hs (Or.inr z))
        have hk3 : k = 3 := by
          have := ht.hso
          rw [hso3] at this
          exact ((nI_eq (a := 3) (b := k) (by decide) (by have := ht.hk; omega)).mp this).symm
        have hlt := ht.h0 (by omega)
        have hbn := ht.hbn
        have hto : to = 59 := by rw [ht.hto, hk3]; rfl
        have hwc := rd.tale.hwc
        have hpc := rd.tale.hpc
        have hgc := rd.tale.hgc
        have hac := rd.hac0
        have hkn := rd.hkn
        have hnx := ht.hnx
        have hen := ht.hen
        subst h1 h2 h3 h4 hwc hpc hgc hac hkn hnx hen
        obtain ⟨yX, yM, a1, b1, k1, v1, L1, q1, q2, q3, hy⟩ := hK b hbn so pl le lt wh at_ to wm ns la
        obtain ⟨uX, uM, u1, u2, u3⟩ := readLine_s hK (zX := yX) (zM := yM) hy name sounds num found fp plc rd
        obtain ⟨ret', ear', pairs', wc', pc', ff', ac', gc', nx', begun', kn', so', pl', le', lt', wh', name', sounds', num', found', ft', fp', wn', ws', prices', pn', kinds', fw', errands', alikes', hears', g1', g2', g3'⟩ := uX
        obtain ⟨at2, en2, to2, wm2, ns2, ft2, pl2, fd2, la2, fr2⟩ := uM
        obtain ⟨zX, r1, r2, r3, r4, r5, r6, r7, r8, r9, r10, y1, y2, y3⟩ := ih f f' (i + 1) _ _ _ _ _ _ _ _ _ _ _ _ _ _ _ _ _ _ _ _ _ _ _ _ _ _ _ _ _ _ _ _ _ _ _ _ _ _ _ _ _ _ _ _ (by omega) (by omega) (by omega) (u3.mono (by omega))
        refine ⟨zX, r1, r2, r3, r4, r5, r6, r7, r8, r9, r10, ?_, ?_, y3⟩
        · rw [f_X5_read_62, if_neg (show ¬ (900 : Int32) ≤ nI i from nI_ge (b := 900) (by omega) (by decide)), if_neg (show ¬ (1 : Int32) = 0 by decide), if_pos hso3, q1, pb_bind, u1, pb_bind, nI_1]
          exact y1
        · rw [f_X11_ferry_77, if_pos (show (0 : Int32) = 0 from rfl), if_pos hto, q2, pb_bind, u2, pb_bind]
          exact y2
