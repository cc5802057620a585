/-! the other lines -/
theorem nmR.cg {W P : Nat} {fr fr' : Nat → Int32} {wn pn : Nat → Int64} (h : nmR W P fr wn pn) (hx : ∀ i, 171 ≤ i → fr' i = fr i) : nmR W P fr' wn pn :=
  ⟨h.W10, h.P8, fun w hw => (h.hw w hw).cg (hx _ (by omega)) (fun k _ => hx _ (by omega)), fun p hp => (h.hp p hp).cg (hx _ (by omega)) (fun k _ => hx _ (by omega)), fun i a b c => by rw [hx _ (by omega)]; exact h.hu i a b c⟩
section
variable {n : Nat} {x m : Nat → Int32} {a b k v : Nat} {L : Nat → Nat} {zX : tX} {zM : tM}
variable {W P G K C : Nat} {fr : Nat → Int32} {ear pairs begun wc pc ff ac gc kn : Int32} {wn ws pn : Nat → Int64} {prices kinds fw errands alikes hears g1 g2 g3 : Nat → Int32}
theorem alikeL (hK : lookOk n x m) (h : tokZ n a b k v L zX zM) (hb : begun = 1) (hC4 : C < 4) (found fp plc : Int32) (rd : rdR W P G K C fr ear pairs begun wc pc ff ac gc kn wn ws pn prices kinds fw errands alikes hears g1 g2 g3) :
    ∃ yX yM, f_X5_readAlike (nI n) x ac zX.1 zX.2.1 zX.2.2.1 zX.2.2.2.1 zX.2.2.2.2.1 zX.2.2.2.2.2 found 0 fp alikes = some yX ∧ f_X11_alikeLine (nI n) m zM.1 zM.2.1 zM.2.2.1 zM.2.2.2.1 zM.2.2.2.2.1 0 plc 0 zM.2.2.2.2.2 fr = some yM ∧
      (flR yX.1 yX.2.2.2.2.2.2.2.2.2.1 yX.2.2.2.2.2.2.2.2.2.2.1 yM.2.2.2.2.2.1 yM.2.2.2.2.2.2.1 yM.2.2.2.2.2.2.2.1 ∨ (yX.1 = 1 ∧ yX.2.2.2.2.2.2.2.2.2.1 = 0 ∧ yM.2.2.2.2.2.1 = 0 ∧ yM.2.2.2.2.2.2.2.1 = 0 ∧ tkC n a yX.2.2.1 yX.2.2.2.1 yX.2.2.2.2.1 yX.2.2.2.2.2.1 yX.2.2.2.2.2.2.1 yX.2.2.2.2.2.2.2.1 yM.1 yM.2.1 yM.2.2.1 yM.2.2.2.1 yM.2.2.2.2.1 yM.2.2.2.2.2.2.2.2.1 ∧
        rdR W P G K (C + 1) yM.2.2.2.2.2.2.2.2.2 ear pairs begun wc pc ff yX.2.1 gc kn wn ws pn prices kinds fw errands yX.2.2.2.2.2.2.2.2.2.2.2 hears g1 g2 g3)) := by
  have hab := h.hab
  unfold f_X5_readAlike f_X11_alikeLine f_X11_alikeLine_24 f_X11_alikeLine_57 f_X11_alikeLine_66
  rcases letter_s h found fp plc with ⟨f, f1, f7, e1, e2⟩ | ⟨c, c8, e1, e2⟩
  · rw [e1, e2]
    simp only [pb_bind, q10, q00, qz0, qz1, ite_true, ite_false, reduceIte, letterHere_f]
    exact ⟨_, _, rfl, rfl, Or.inl ⟨rfl, rfl, rfl, f, f1, f7, rfl, rfl⟩⟩
  · obtain ⟨yX, yM, ⟨a1, b1, k1, v1, L1, ha1, hy⟩, q2, q3⟩ := look_z hK h
    have hab1 := hy.hab
    rw [e1, e2]
    simp only [pb_bind, q10, q00, qz0, qz1, ite_true, ite_false, reduceIte]
    rw [q2, q3]
    simp only [pb_bind, q10, q00, qz0, qz1, ite_true, ite_false, reduceIte]
    rcases letter_s hy (nI (c + 1)) fp plc with ⟨f, f1, f7, e3, e4⟩ | ⟨d, d8, e3, e4⟩
    · rw [e3, e4]
      simp only [pb_bind, q10, q00, qz0, qz1, ite_true, ite_false, reduceIte]
      exact ⟨_, _, rfl, rfl, Or.inl ⟨rfl, rfl, rfl, f, f1, f7, rfl, rfl⟩⟩
    · have ix : (121 : Int32) + nI c = nI (121 + c) := by rw [show (121 : Int32) = nI 121 from rfl, pb_add]
      have ib : (rf_ib (nI (121 + c)) 333 = true) = True := eq_true (pb_ibt (by omega) (by omega))
      have ic : (nI (121 + c)).toNatClampNeg = 121 + c := nI_clamp (by omega)
      have jx : (121 : Int32) + nI d = nI (121 + d) := by rw [show (121 : Int32) = nI 121 from rfl, pb_add]
      have jb : (rf_ib (nI (121 + d)) 333 = true) = True := eq_true (pb_ibt (by omega) (by omega))
      have jc : (nI (121 + d)).toNatClampNeg = 121 + d := nI_clamp (by omega)
      obtain ⟨uX, uM, u1, u2, u3⟩ := look_z hK hy
      rw [e3, e4]
      simp only [pb_bind, q10, q00, qz0, qz1, ite_true, ite_false, reduceIte, ix, ib, ic, jx, jb, jc]
      by_cases hcd : c = d
      · have hal : f_X9_isAlike alikes (nI (c + 1)) (nI (d + 1)) = some 1 := by
          unfold f_X9_isAlike f_X9_isAlike_21
          rw [if_pos (by rw [hcd])]
        rw [if_pos (show nI c = nI d by rw [hcd]), hal, hy.hat]
        simp only [pb_bind, q10, q00, qz0, qz1, ite_true, ite_false, reduceIte, wrong_0, fail_s, hy.hpl]
        exact ⟨_, _, rfl, rfl, Or.inl ⟨rfl, rfl, rfl, 3, by omega, by omega, rfl, rfl⟩⟩
      · have hal := isAlike_s (al := alikes) (r := fr) rd.tale.al (a := c + 1) (b := d + 1) ⟨by omega, by omega⟩ ⟨by omega, by omega⟩ (by omega)
        have hak : alk fr (c + 1) (d + 1) = bt (fr (121 + c)) d := by
          unfold alk
          rw [show (c + 1 == d + 1) = false by simp [hcd], Bool.false_or, show c + 1 - 1 = c by omega, show d + 1 - 1 = d by omega]
        rw [if_neg (show ¬ nI c = nI d from fun z => hcd ((nI_eq (by omega) (by omega)).mp z)), hal, hak, hasBitM_s _ (by omega), pb_bind, pb_bind]
        cases hbt : bt (fr (121 + c)) d
        · have hadd : f_X9_addAlike ac alikes (nI (c + 1)) (nI (d + 1)) = some (nI (C + 1), upd (upd alikes (c + 1) (alikes (c + 1) ||| ((1 : Int32) <<< (nI (d + 1) &&& 31)))) (d + 1) ((upd alikes (c + 1) (alikes (c + 1) ||| ((1 : Int32) <<< (nI (d + 1) &&& 31)))) (d + 1) ||| ((1 : Int32) <<< (nI (c + 1) &&& 31)))) := by
            unfold f_X9_addAlike
            have m1 : nI (c + 1) &&& (31 : Int32) = nI (c + 1) := pb_s31 (by omega)
            have m2 : nI (d + 1) &&& (31 : Int32) = nI (d + 1) := pb_s31 (by omega)
            rw [m1, m2, if_pos (pb_ibt (by omega) (by omega)), if_pos (pb_ibt (by omega) (by omega)), if_pos (pb_ibt (by omega) (by omega)), if_pos (pb_ibt (by omega) (by omega)), nI_clamp (by omega), nI_clamp (by omega), rd.hac0, nI_1]
          simp only [pb_bind, q10, q00, qz0, qz1, ite_true, ite_false, reduceIte, nbf]
          rw [u2, u3, hadd]
          simp only [pb_bind, q10, q00, qz0, qz1, ite_true, ite_false, reduceIte, cl4]
          refine ⟨_, _, rfl, rfl, Or.inr ⟨rfl, rfl, rfl, rfl, tkC_of u1 (by omega), ?_⟩⟩
          dsimp only
          have b1 : ∀ (p q : Nat), p < 20 → bt ((1 : Int32) <<< (nI p &&& 31)) q = decide (q = p) := fun p q hp => bt_1s (by omega) q
          refine rd_alike rd hb hC4 c8 d8 (fun a b ha hb => ?_) (fun a b ha hb => ?_) ?_ (fun i h1 h2 => ?_)
          · by_cases ea : a = d
            · subst ea
              rw [upd_same, upd_ne _ _ (by omega), bt_or, b1 _ _ (by omega), decide_eq_false (show ¬ a = c by omega), Bool.false_and, Bool.or_false, decide_eq_true (show a = a from rfl), Bool.true_and, show decide (b + 1 = c + 1) = decide (b = c) from decide_eq_decide.mpr (by omega)]
            · rw [upd_ne _ _ (by omega)]
              by_cases e2 : a = c
              · subst e2
                rw [upd_same, bt_or, b1 _ _ (by omega), decide_eq_true (show a = a from rfl), Bool.true_and, decide_eq_false ea, Bool.false_and, Bool.or_false, show decide (b + 1 = d + 1) = decide (b = d) from decide_eq_decide.mpr (by omega)]
              · rw [upd_ne _ _ (by omega), decide_eq_false ea, decide_eq_false e2]
                simp
          · rw [upd_ne _ _ (show 121 + a ≠ 4 by omega)]
            by_cases ea : a = d
            · subst ea
              rw [upd_same, upd_ne _ _ (by omega), bt_or, b1 _ _ (by omega), decide_eq_false (show ¬ a = c by omega), Bool.false_and, Bool.or_false, decide_eq_true (show a = a from rfl), Bool.true_and]
            · rw [upd_ne _ _ (by omega)]
              by_cases e2 : a = c
              · subst e2
                rw [upd_same, bt_or, b1 _ _ (by omega), decide_eq_true (show a = a from rfl), Bool.true_and, decide_eq_false ea, Bool.false_and, Bool.or_false]
              · rw [upd_ne _ _ (by omega), decide_eq_false ea, decide_eq_false e2]
                simp
          · rw [upd_same, upd_ne _ _ (by omega), upd_ne _ _ (by omega), ← rd.tale.hac, rd.hac0, nI_1]
          · rw [upd_ne _ _ h1, upd_ne _ _ (by omega), upd_ne _ _ (by omega)]
        · rw [hy.hat]
          simp only [pb_bind, q10, q00, qz0, qz1, ite_true, ite_false, reduceIte, nbt, wrong_0, fail_s, hy.hpl]
          exact ⟨_, _, rfl, rfl, Or.inl ⟨rfl, rfl, rfl, 3, by omega, by omega, rfl, rfl⟩⟩
theorem gotL (hK : lookOk n x m) (h : tokZ n a b k v L zX zM) (hb : begun = 1) (hG6 : G < 6) (found fp plc : Int32) (rd : rdR W P G K C fr ear pairs begun wc pc ff ac gc kn wn ws pn prices kinds fw errands alikes hears g1 g2 g3) :
    ∃ yX yM, f_X5_readGot (nI P) (nI n) x pn gc zX.1 zX.2.1 zX.2.2.1 zX.2.2.2.1 zX.2.2.2.2.1 zX.2.2.2.2.2 found 0 fp g1 g2 g3 = some yX ∧ f_X11_gotLine (nI n) m zM.1 zM.2.1 zM.2.2.1 zM.2.2.2.1 zM.2.2.2.2.1 0 plc 0 zM.2.2.2.2.2 fr = some yM ∧
      (flR yX.1 yX.2.2.2.2.2.2.2.2.2.1 yX.2.2.2.2.2.2.2.2.2.2.1 yM.2.2.2.2.2.1 yM.2.2.2.2.2.2.1 yM.2.2.2.2.2.2.2.1 ∨ (yX.1 = 1 ∧ yX.2.2.2.2.2.2.2.2.2.1 = 0 ∧ yM.2.2.2.2.2.1 = 0 ∧ yM.2.2.2.2.2.2.2.1 = 0 ∧ tkC n a yX.2.2.1 yX.2.2.2.1 yX.2.2.2.2.1 yX.2.2.2.2.2.1 yX.2.2.2.2.2.2.1 yX.2.2.2.2.2.2.2.1 yM.1 yM.2.1 yM.2.2.1 yM.2.2.2.1 yM.2.2.2.2.1 yM.2.2.2.2.2.2.2.2.1 ∧
        rdR W P (G + 1) K C yM.2.2.2.2.2.2.2.2.2 ear pairs begun wc pc ff ac yX.2.1 kn wn ws pn prices kinds fw errands alikes hears yX.2.2.2.2.2.2.2.2.2.2.2.1 yX.2.2.2.2.2.2.2.2.2.2.2.2.1 yX.2.2.2.2.2.2.2.2.2.2.2.2.2)) := by
  have hab := h.hab
  have hP := rd.tale.P8
  have g7 := rd.tale.hgc'
  have ix : (153 : Int32) + ((3 : Int32) * nI G) = nI (153 + 3 * G) := by rw [show (153 : Int32) = nI 153 from rfl, show (3 : Int32) = nI 3 from rfl, pb_mul, pb_add]
  have ix1 : nI (153 + 3 * G) + 1 = nI (154 + 3 * G) := by rw [nI_1]; congr 1; omega
  have ix2 : nI (153 + 3 * G) + 2 = nI (155 + 3 * G) := by rw [show (2 : Int32) = nI 2 from rfl, pb_add]; congr 1; omega
  have ib0 : (rf_ib (nI (153 + 3 * G)) 333 = true) = True := eq_true (pb_ibt (by omega) (by omega))
  have ib1 : (rf_ib (nI (154 + 3 * G)) 333 = true) = True := eq_true (pb_ibt (by omega) (by omega))
  have ib2 : (rf_ib (nI (155 + 3 * G)) 333 = true) = True := eq_true (pb_ibt (by omega) (by omega))
  have ic0 : (nI (153 + 3 * G)).toNatClampNeg = 153 + 3 * G := nI_clamp (by omega)
  have ic1 : (nI (154 + 3 * G)).toNatClampNeg = 154 + 3 * G := nI_clamp (by omega)
  have ic2 : (nI (155 + 3 * G)).toNatClampNeg = 155 + 3 * G := nI_clamp (by omega)
  unfold f_X5_readGot f_X5_readGot_85 f_X11_gotLine f_X11_gotLine_77
  rcases personPassed_s hK h rd.names rd.uq found fp plc with ⟨f, fd', f1, f7, e1, e2⟩ | ⟨p, yX, yM, p1, e1, ⟨a1, b1, k1, v1, L1, ha1, hy⟩, q2, e2⟩
  · rw [e1, e2]
    simp only [pb_bind, q10, q00, qz0, qz1, ite_true, ite_false, reduceIte, cl7, g7, ix, ix1, ix2, ib0, ib1, ib2, ic0, ic1, ic2, personHere_f]
    exact ⟨_, _, rfl, rfl, Or.inl ⟨rfl, rfl, rfl, f, f1, f7, rfl, rfl⟩⟩
  · have hab1 := hy.hab
    rw [e1, e2]
    simp only [pb_bind, q10, q00, qz0, qz1, ite_true, ite_false, reduceIte, cl7, g7, ix, ix1, ix2, ib0, ib1, ib2, ic0, ic1, ic2]
    rw [q2]
    simp only [pb_bind, q10, q00, qz0, qz1, ite_true, ite_false, reduceIte]
    have hN2 : nmR W P (upd fr (153 + 3 * G) (nI p)) wn pn := rd.names.cg (fun i hi => upd_ne _ _ (by omega))
    rcases personHere_s hy hN2 rd.uq (nI p) fp plc with ⟨f, fd', f1, f7, c1, c2⟩ | ⟨q, q1, c1, c2⟩
    · rw [c1, c2]
      simp only [pb_bind, q10, q00, qz0, qz1, ite_true, ite_false, reduceIte]
      exact ⟨_, _, rfl, rfl, Or.inl ⟨rfl, rfl, rfl, f, f1, f7, rfl, rfl⟩⟩
    · rw [c1, c2]
      simp only [pb_bind, q10, q00, qz0, qz1, ite_true, ite_false, reduceIte]
      rw [upd_ne _ _ (show 153 + 3 * G ≠ 154 + 3 * G by omega), upd_same, upd_same]
      by_cases hpq : q = p
      · rw [if_pos (show nI q = nI p by rw [hpq]), if_pos (show nI p = nI q by rw [hpq]), hy.hat]
        simp only [pb_bind, q10, q00, qz0, qz1, ite_true, ite_false, reduceIte, wrong_0, fail_s, hy.hpl]
        exact ⟨_, _, rfl, rfl, Or.inl ⟨rfl, rfl, rfl, 3, by omega, by omega, rfl, rfl⟩⟩
      · rw [if_neg (show ¬ nI q = nI p from fun z => hpq ((nI_eq (by omega) (by omega)).mp z)), if_neg (show ¬ nI p = nI q from fun z => hpq ((nI_eq (by omega) (by omega)).mp z).symm)]
        obtain ⟨uX, uM, ⟨a2, b2, k2, v2, L2, ha2, hu⟩, u2, u3⟩ := look_z hK hy
        have hab2 := hu.hab
        rw [u2, u3]
        simp only [pb_bind, q10, q00, qz0, qz1, ite_true, ite_false, reduceIte]
        unfold f_X11_oneOf f_X11_oneOf_50 f_X11_oneOf_66 f_X11_oneOf_77
        rw [(is_s hu (j := 21) (by decide)).1, (is_s hu (j := 22) (by decide)).1, (is_s hu (j := 23) (by decide)).1, (is_s hu (j := 46) (by decide)).2, (is_s hu (j := 47) (by decide)).2, (is_s hu (j := 48) (by decide)).2, (is_s hu (j := 43) (by decide)).2, isT_eq (j := 46) (j' := 23) rfl rfl, isT_eq (j := 47) (j' := 22) rfl rfl, isT_eq (j := 48) (j' := 21) rfl rfl, isT_empty hu]
        obtain ⟨rX, rM, r1, r2, r3⟩ := look_z hK hu
        have ok : ∀ c : Nat, c ≤ 2 → ∀ dx : Int32, dx = nI c → ∃ yX yM, (if dx = -1 then ((f_X5_fail uX.2.2.1 0 fp 1).bind fun z93 => if rf_zb z93.1 = true then some (z93.1, gc, uX.1, uX.2.1, uX.2.2.1, uX.2.2.2.1, uX.2.2.2.2.1, uX.2.2.2.2.2, nI q, z93.2.1, z93.2.2, g1, g2, g3) else none) else ((f_X5_look (nI n) x uX.1 uX.2.1 uX.2.2.1 uX.2.2.2.1 uX.2.2.2.2.1 uX.2.2.2.2.2).bind fun z98 => (f_X9_addGot gc g1 g2 g3 (nI p) (nI q) dx).bind fun z111 => some ((1 : Int32), z111.1, z98.1, z98.2.1, z98.2.2.1, z98.2.2.2.1, z98.2.2.2.2.1, z98.2.2.2.2.2, nI q, (0 : Int32), fp, z111.2.1, z111.2.2.1, z111.2.2.2))) = some yX ∧ ((f_X11_next (nI n) m uM.1 uM.2.1 uM.2.2.1 uM.2.2.2.1 uM.2.2.2.2.1 uM.2.2.2.2.2).bind fun z => some (z.1, z.2.1, z.2.2.1, z.2.2.2.1, z.2.2.2.2.1, (0 : Int32), plc, (0 : Int32), z.2.2.2.2.2, upd (upd (upd (upd fr (153 + 3 * G) (nI p)) (154 + 3 * G) (nI q)) (155 + 3 * G) dx) 7 (upd (upd (upd fr (153 + 3 * G) (nI p)) (154 + 3 * G) (nI q)) (155 + 3 * G) dx 7 + 1))) = some yM ∧
          (flR yX.1 yX.2.2.2.2.2.2.2.2.2.1 yX.2.2.2.2.2.2.2.2.2.2.1 yM.2.2.2.2.2.1 yM.2.2.2.2.2.2.1 yM.2.2.2.2.2.2.2.1 ∨ (yX.1 = 1 ∧ yX.2.2.2.2.2.2.2.2.2.1 = 0 ∧ yM.2.2.2.2.2.1 = 0 ∧ yM.2.2.2.2.2.2.2.1 = 0 ∧ tkC n a yX.2.2.1 yX.2.2.2.1 yX.2.2.2.2.1 yX.2.2.2.2.2.1 yX.2.2.2.2.2.2.1 yX.2.2.2.2.2.2.2.1 yM.1 yM.2.1 yM.2.2.1 yM.2.2.2.1 yM.2.2.2.2.1 yM.2.2.2.2.2.2.2.2.1 ∧
            rdR W P (G + 1) K C yM.2.2.2.2.2.2.2.2.2 ear pairs begun wc pc ff ac yX.2.1 kn wn ws pn prices kinds fw errands alikes hears yX.2.2.2.2.2.2.2.2.2.2.2.1 yX.2.2.2.2.2.2.2.2.2.2.2.2.1 yX.2.2.2.2.2.2.2.2.2.2.2.2.2)) := by
          intro c c2 dx hdx
          have hadd : f_X9_addGot gc g1 g2 g3 (nI p) (nI q) dx = some (nI (G + 1), upd g1 G (nI p), upd g2 G (nI q), upd g3 G dx) := by
            unfold f_X9_addGot
            rw [rd.tale.hgc, if_neg (show ¬ (6 : Int32) ≤ nI G from nI_ge (b := 6) hG6 (by decide)), if_pos (pb_ibt (by omega) hG6), if_pos (pb_ibt (by omega) hG6), if_pos (pb_ibt (by omega) hG6), nI_clamp (by omega), nI_1]
          rw [hadd, r2, r3, if_neg (show ¬ dx = -1 from fun z => by rw [hdx] at z; have := pb_eqm (a := c) (b := 1) (by decide) (by omega) (by decide); exact (this ▸ z : False))]
          simp only [pb_bind, q10, q00, qz0, qz1, ite_true, ite_false, reduceIte]
          subst hdx
          refine ⟨_, _, rfl, rfl, Or.inr ⟨rfl, rfl, rfl, rfl, tkC_of r1 (by omega), ?_⟩⟩
          dsimp only
          refine rd_got rd hb hG6 p1 q1 c2 ?_ ?_ ?_ ?_ (fun i h1 h2 => ?_)
          · rw [upd_ne _ _ (by omega), upd_ne _ _ (by omega), upd_ne _ _ (by omega), upd_same]
          · rw [upd_ne _ _ (by omega), upd_ne _ _ (by omega), upd_same]
          · rw [upd_ne _ _ (by omega), upd_same]
          · rw [upd_same, upd_ne _ _ (by omega), upd_ne _ _ (by omega), upd_ne _ _ (by omega), g7, nI_1]
          · rw [upd_ne _ _ h1, upd_ne _ _ (by omega), upd_ne _ _ (by omega), upd_ne _ _ (by omega)]
        cases h21 : isT k2 v2 L2 21
        · cases h22 : isT k2 v2 L2 22
          · cases h23 : isT k2 v2 L2 23
            · rw [hu.hat]
              simp only [pb_bind, q10, q00, qz0, qz1, ite_true, ite_false, reduceIte, nbf, wrong_0, fail_s, hu.hpl, show ((0 : Int32) ≤ -1) = False from eq_false (by decide)]
              exact ⟨_, _, rfl, rfl, Or.inl ⟨rfl, rfl, rfl, 1, by omega, by omega, rfl, rfl⟩⟩
            · simp only [pb_bind, q10, q00, qz0, qz1, ite_true, ite_false, reduceIte, nbf, nbt, show ((0 : Int32) ≤ 0) = True from eq_true (by decide), ix2, ib2, ic2]
              have := ok 0 (by omega) 0 rfl
              rw [r3] at this ⊢
              simp only [pb_bind, q10, q00, qz0, qz1, ite_true, ite_false, reduceIte] at this ⊢
              exact this
          · have x23 : isT k2 v2 L2 23 = false := by
              cases h23 : isT k2 v2 L2 23
              · rfl
              · exact absurd (isT_two h22 h23).1 (by decide)
            rw [x23]
            simp only [pb_bind, q10, q00, qz0, qz1, ite_true, ite_false, reduceIte, nbf, nbt, show ((0 : Int32) ≤ 1) = True from eq_true (by decide), ix2, ib2, ic2]
            have := ok 1 (by omega) 1 rfl
            rw [r3] at this ⊢
            simp only [pb_bind, q10, q00, qz0, qz1, ite_true, ite_false, reduceIte] at this ⊢
            exact this
        · have x22 : isT k2 v2 L2 22 = false := by
            cases h22 : isT k2 v2 L2 22
            · rfl
            · exact absurd (isT_two h21 h22).1 (by decide)
          have x23 : isT k2 v2 L2 23 = false := by
            cases h23 : isT k2 v2 L2 23
            · rfl
            · exact absurd ((isT_two h21 h23).2 0 (by decide)) (by decide)
          rw [x22, x23]
          simp only [pb_bind, q10, q00, qz0, qz1, ite_true, ite_false, reduceIte, nbf, nbt, show ((0 : Int32) ≤ 2) = True from eq_true (by decide), ix2, ib2, ic2]
          have := ok 2 (by omega) 2 rfl
          rw [r3] at this ⊢
          simp only [pb_bind, q10, q00, qz0, qz1, ite_true, ite_false, reduceIte] at this ⊢
          exact this
end
