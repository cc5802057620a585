/-! a person's line, a word's line -/
section
variable {n : Nat} {x m : Nat → Int32} {a b k v : Nat} {L : Nat → Nat} {zX : tX} {zM : tM}
theorem oneOf_no (h : tokZ n a b k v L zX zM) {j1 j2 j3 j4 : Nat} (l1 : j1 < 49) (l2 : j2 < 49) (l3 : j3 < 49) (l4 : j4 < 49) (h1 : isT k v L j1 = false) (h2 : isT k v L j2 = false) (h3 : isT k v L j3 = false) (h4 : isT k v L j4 = false) (plc : Int32) : f_X11_oneOf (nI n) m zM.1 zM.2.1 zM.2.2.1 zM.2.2.2.1 zM.2.2.2.2.1 0 plc 0 zM.2.2.2.2.2 j1 j2 j3 j4 = some (-1, zM.1, zM.2.1, zM.2.2.1, zM.2.2.2.1, zM.2.2.2.2.1, 1, nI a, 1, zM.2.2.2.2.2) := by
  unfold f_X11_oneOf f_X11_oneOf_50 f_X11_oneOf_66 f_X11_oneOf_77
  rw [(is_s h l1).2, (is_s h l2).2, (is_s h l3).2, (is_s h l4).2, h1, h2, h3, h4]
  simp only [pb_bind, q10, q00, qz0, qz1, ite_true, ite_false, reduceIte, nbf, show ((0 : Int32) ≤ -1) = False from eq_false (by decide), wrong_0]
  rw [h.hat]
theorem oneOf_yes (h : tokZ n a b k v L zX zM) {yM : tM} (hy : f_X11_next (nI n) m zM.1 zM.2.1 zM.2.2.1 zM.2.2.2.1 zM.2.2.2.2.1 zM.2.2.2.2.2 = some yM) {j1 j2 j3 j4 : Nat} (l1 : j1 < 49) (l2 : j2 < 49) (l3 : j3 < 49) (l4 : j4 < 49) {c : Nat} (hc : (c = 0 ∧ isT k v L j1 = true) ∨ (c = 1 ∧ isT k v L j1 = false ∧ isT k v L j2 = true) ∨ (c = 2 ∧ isT k v L j1 = false ∧ isT k v L j2 = false ∧ isT k v L j3 = true) ∨ (c = 3 ∧ isT k v L j1 = false ∧ isT k v L j2 = false ∧ isT k v L j3 = false ∧ isT k v L j4 = true)) (plc : Int32) : f_X11_oneOf (nI n) m zM.1 zM.2.1 zM.2.2.1 zM.2.2.2.1 zM.2.2.2.2.1 0 plc 0 zM.2.2.2.2.2 j1 j2 j3 j4 = some (nI c, yM.1, yM.2.1, yM.2.2.1, yM.2.2.2.1, yM.2.2.2.2.1, 0, plc, 0, yM.2.2.2.2.2) := by
  unfold f_X11_oneOf f_X11_oneOf_50 f_X11_oneOf_66 f_X11_oneOf_77
  rw [(is_s h l1).2, (is_s h l2).2, (is_s h l3).2, (is_s h l4).2]
  rcases hc with ⟨rfl, h1⟩ | ⟨rfl, h1, h2⟩ | ⟨rfl, h1, h2, h3⟩ | ⟨rfl, h1, h2, h3, h4⟩
  · rw [h1]
    simp only [pb_bind, q10, q00, qz0, qz1, ite_true, ite_false, reduceIte, nbt, show ((0 : Int32) ≤ 0) = True from eq_true (by decide), hy]
    rfl
  · rw [h1, h2]
    simp only [pb_bind, q10, q00, qz0, qz1, ite_true, ite_false, reduceIte, nbf, nbt, show ((0 : Int32) ≤ 1) = True from eq_true (by decide), hy]
    rfl
  · rw [h1, h2, h3]
    simp only [pb_bind, q10, q00, qz0, qz1, ite_true, ite_false, reduceIte, nbf, nbt, show ((0 : Int32) ≤ 2) = True from eq_true (by decide), hy]
    rfl
  · rw [h1, h2, h3, h4]
    simp only [pb_bind, q10, q00, qz0, qz1, ite_true, ite_false, reduceIte, nbf, nbt, show ((0 : Int32) ≤ 3) = True from eq_true (by decide), hy]
    rfl
variable {W P G K C : Nat} {fr : Nat → Int32} {ear pairs begun wc pc ff ac gc kn : Int32} {wn ws pn : Nat → Int64} {prices kinds fw errands alikes hears g1 g2 g3 : Nat → Int32}
theorem personE (hK : lookOk n x m) {yM : tM} {yX : tX} (hyM : f_X11_next (nI n) m zM.1 zM.2.1 zM.2.2.1 zM.2.2.2.1 zM.2.2.2.2.1 zM.2.2.2.2.2 = some yM) (hyX : f_X5_look (nI n) x zX.1 zX.2.1 zX.2.2.1 zX.2.2.2.1 zX.2.2.2.2.1 zX.2.2.2.2.2 = some yX) (hy : tokZ n a b k v L yX yM) (hb : begun = 1) (hP8 : P < 8) (found fp plc : Int32) (rd : rdR W P G K C fr ear pairs begun wc pc ff ac gc kn wn ws pn prices kinds fw errands alikes hears g1 g2 g3)
    {v' c : Nat} {L' : Nat → Nat} {fb : Bool} {fr3 : Nat → Int32} {pn1 : Nat → Int64} (hN : nmR W (P + 1) fr3 wn pn1) (h1 : 1 ≤ v') (h2 : v' ≤ 8) (hnz : fr3 (181 + P) = nI v') (hnl : ∀ k, k < v' → 1 ≤ L' k ∧ L' k ≤ 26 ∧ fr3 (269 + 8 * P + k) = nI (L' k + 96)) (hc : c ≤ 3) (h89 : fr3 (89 + 4 * P) = nI c) (h90 : fr3 (90 + 4 * P) = bI fb) (hu : ∀ u, u < W → wn u ≠ Int64.ofNat (pkN L' v')) (hx : ∀ i, ¬ (89 + 4 * P ≤ i ∧ i < 93 + 4 * P) → i ≠ 181 + P → ¬ (269 + 8 * P ≤ i ∧ i < 277 + 8 * P) → fr3 i = fr i) :
    ∃ zX' zM', f_X5_readPerson_115 (nI W) (nI n) x wn (nI c) (bI fb) (nI P) ff zX.1 zX.2.1 zX.2.2.1 zX.2.2.2.1 zX.2.2.2.2.1 zX.2.2.2.2.2 (Int64.ofNat (pkN L' v')) found 0 fp pn kinds fw errands = some zX' ∧ f_X11_personLine_93 (nI n) m (nI (89 + 4 * P)) yM.1 yM.2.1 yM.2.2.1 yM.2.2.2.1 yM.2.2.2.2.1 0 plc 0 yM.2.2.2.2.2 fr3 = some zM' ∧
      (flR zX'.1 zX'.2.2.2.2.2.2.2.2.2.2.2.1 zX'.2.2.2.2.2.2.2.2.2.2.2.2.1 zM'.2.2.2.2.2.1 zM'.2.2.2.2.2.2.1 zM'.2.2.2.2.2.2.2.1 ∨ (zX'.1 = 1 ∧ zX'.2.2.2.2.2.2.2.2.2.2.2.1 = 0 ∧ zM'.2.2.2.2.2.1 = 0 ∧ zM'.2.2.2.2.2.2.2.1 = 0 ∧ tkC n a zX'.2.2.2.1 zX'.2.2.2.2.1 zX'.2.2.2.2.2.1 zX'.2.2.2.2.2.2.1 zX'.2.2.2.2.2.2.2.1 zX'.2.2.2.2.2.2.2.2.1 zM'.1 zM'.2.1 zM'.2.2.1 zM'.2.2.2.1 zM'.2.2.2.2.1 zM'.2.2.2.2.2.2.2.2.1 ∧
        rdR W (P + 1) G K C zM'.2.2.2.2.2.2.2.2.2 ear pairs begun wc zX'.2.1 zX'.2.2.1 ac gc kn wn ws zX'.2.2.2.2.2.2.2.2.2.2.2.2.2.1 prices zX'.2.2.2.2.2.2.2.2.2.2.2.2.2.2.1 zX'.2.2.2.2.2.2.2.2.2.2.2.2.2.2.2.1 zX'.2.2.2.2.2.2.2.2.2.2.2.2.2.2.2.2 alikes hears g1 g2 g3)) := by
  have hab := hy.hab
  have hW := rd.tale.W10
  unfold f_X5_readPerson_115 f_X5_readPerson_135 f_X11_personLine_93
  rw [hyX]
  simp only [pb_bind, q10, q00, qz0, qz1, ite_true, ite_false, reduceIte]
  rcases takes_s hK hy (j := 19) (j' := 44) (by decide) (by decide) rfl rfl fp plc with ⟨e1, e2⟩ | ⟨uX, uM, ⟨a1, b1, k1, v1, L1, ha1, hu1⟩, e1, e2⟩
  · rw [e1, e2]
    simp only [pb_bind, q10, q00, qz0, qz1, ite_true, ite_false, reduceIte, wordHere_f]
    exact ⟨_, _, rfl, rfl, Or.inl ⟨rfl, rfl, rfl, 1, by omega, by omega, rfl, rfl⟩⟩
  · have hab1 := hu1.hab
    rw [e1, e2]
    simp only [pb_bind, q10, q00, qz0, qz1, ite_true, ite_false, reduceIte]
    rcases wordHere_s hu1 hN found fp plc with ⟨f, fd', f1, f7, c1, c2⟩ | ⟨w, w1, c1, c2⟩
    · rw [c1, c2]
      simp only [pb_bind, q10, q00, qz0, qz1, ite_true, ite_false, reduceIte]
      exact ⟨_, _, rfl, rfl, Or.inl ⟨rfl, rfl, rfl, f, f1, f7, rfl, rfl⟩⟩
    · obtain ⟨rX, rM, r1, r2, r3⟩ := look_z hK hu1
      have ix2 : nI (89 + 4 * P) + 2 = nI (91 + 4 * P) := by rw [show (2 : Int32) = nI 2 from rfl, pb_add]; congr 1; omega
      have ix3 : nI (89 + 4 * P) + 3 = nI (92 + 4 * P) := by rw [show (3 : Int32) = nI 3 from rfl, pb_add]; congr 1; omega
      have ib2 : (rf_ib (nI (91 + 4 * P)) 333 = true) = True := eq_true (pb_ibt (by omega) (by omega))
      have ib3 : (rf_ib (nI (92 + 4 * P)) 333 = true) = True := eq_true (pb_ibt (by omega) (by omega))
      have ic2 : (nI (91 + 4 * P)).toNatClampNeg = 91 + 4 * P := nI_clamp (by omega)
      have ic3 : (nI (92 + 4 * P)).toNatClampNeg = 92 + 4 * P := nI_clamp (by omega)
      have hadd : ∃ ff', f_X9_addPerson (nI P) ff pn kinds fw errands (Int64.ofNat (pkN L' v')) (nI c) (bI fb) (nI w) = some (nI (P + 1), ff', vp_updL pn P (Int64.ofNat (pkN L' v')), upd kinds P (nI c), upd fw P ((1 : Int32) <<< (nI w &&& 31)), upd errands P 0) ∧ ∀ p, bt ff' p = (bt ff p || (fb && decide (p = P))) := by
        unfold f_X9_addPerson f_X9_addPerson_72
        have hib := pb_ibt (i := P) (n := 8) (by omega) hP8
        rw [if_neg (show ¬ (8 : Int32) ≤ nI P from nI_ge (b := 8) hP8 (by decide)), if_pos hib, if_pos hib, if_pos hib, if_pos hib, nI_clamp (by omega), nI_1]
        cases fb
        · rw [if_pos (show bI false = 0 from rfl)]
          refine ⟨_, rfl, fun p => ?_⟩
          rw [bt_or, bt_0, Bool.false_and]
        · rw [if_neg (show ¬ bI true = 0 by decide)]
          refine ⟨_, rfl, fun p => ?_⟩
          rw [bt_or, show bt ((1 : Int32) <<< (nI P &&& 31)) p = decide (p = P) from bt_1s (by omega) p, Bool.true_and]
      obtain ⟨ff', ad1, ad2⟩ := hadd
      rw [c1, c2]
      simp only [pb_bind, q10, q00, qz0, qz1, ite_true, ite_false, reduceIte, ix2, ix3, ib2, ib3, ic2, ic3, cl3]
      rw [r2, r3, ad1]
      simp only [pb_bind, q10, q00, qz0, qz1, ite_true, ite_false, reduceIte]
      refine ⟨_, _, rfl, rfl, Or.inr ⟨rfl, rfl, rfl, rfl, tkC_of r1 (by omega), ?_⟩⟩
      dsimp only
      refine rd_person rd hb hP8 h1 h2 ?_ (fun k hk => ?_) hc w1 ?_ ?_ ?_ ?_ hu ?_ ad2 (fun i i1 i2 i3 i4 => ?_)
      · rw [upd_ne _ _ (by omega), upd_ne _ _ (by omega), upd_ne _ _ (by omega)]; exact hnz
      · rw [upd_ne _ _ (by omega), upd_ne _ _ (by omega), upd_ne _ _ (by omega)]; exact hnl k hk
      · rw [upd_ne _ _ (by omega), upd_ne _ _ (by omega), upd_ne _ _ (by omega)]; exact h89
      · rw [upd_ne _ _ (by omega), upd_ne _ _ (by omega), upd_ne _ _ (by omega)]; exact h90
      · rw [upd_ne _ _ (by omega), upd_ne _ _ (by omega), upd_same]
      · rw [upd_ne _ _ (by omega), upd_same]
      · rw [upd_same, upd_ne _ _ (by omega), upd_ne _ _ (by omega), hx 3 (by omega) (by omega) (by omega), rd.tale.hpc', nI_1]
      · rw [upd_ne _ _ i1, upd_ne _ _ (by omega), upd_ne _ _ (by omega)]; exact hx i i2 i3 i4
theorem personD (hK : lookOk n x m) {yM : tM} {yX : tX} (hyX : f_X5_look (nI n) x zX.1 zX.2.1 zX.2.2.1 zX.2.2.2.1 zX.2.2.2.2.1 zX.2.2.2.2.2 = some yX) (hy : tokZ n a b k v L yX yM) (hb : begun = 1) (hP8 : P < 8) (found fp plc : Int32) (rd : rdR W P G K C fr ear pairs begun wc pc ff ac gc kn wn ws pn prices kinds fw errands alikes hears g1 g2 g3)
    {v' c : Nat} {L' : Nat → Nat} {fr3 : Nat → Int32} {pn1 : Nat → Int64} (hN : nmR W (P + 1) fr3 wn pn1) (h1 : 1 ≤ v') (h2 : v' ≤ 8) (hnz : fr3 (181 + P) = nI v') (hnl : ∀ k, k < v' → 1 ≤ L' k ∧ L' k ≤ 26 ∧ fr3 (269 + 8 * P + k) = nI (L' k + 96)) (hc : c ≤ 3) (h89 : fr3 (89 + 4 * P) = nI c) (hu : ∀ u, u < W → wn u ≠ Int64.ofNat (pkN L' v')) (hx : ∀ i, ¬ (89 + 4 * P ≤ i ∧ i < 93 + 4 * P) → i ≠ 181 + P → ¬ (269 + 8 * P ≤ i ∧ i < 277 + 8 * P) → fr3 i = fr i) :
    ∃ zX' zM', f_X5_readPerson_62 (nI W) (nI n) x wn (nI c) (nI P) ff zX.1 zX.2.1 zX.2.2.1 zX.2.2.2.1 zX.2.2.2.2.1 zX.2.2.2.2.2 (Int64.ofNat (pkN L' v')) found 0 fp pn kinds fw errands = some zX' ∧ f_X11_personLine_58 (nI n) m (nI (89 + 4 * P)) yM.1 yM.2.1 yM.2.2.1 yM.2.2.2.1 yM.2.2.2.2.1 0 plc 0 yM.2.2.2.2.2 fr3 = some zM' ∧
      (flR zX'.1 zX'.2.2.2.2.2.2.2.2.2.2.2.1 zX'.2.2.2.2.2.2.2.2.2.2.2.2.1 zM'.2.2.2.2.2.1 zM'.2.2.2.2.2.2.1 zM'.2.2.2.2.2.2.2.1 ∨ (zX'.1 = 1 ∧ zX'.2.2.2.2.2.2.2.2.2.2.2.1 = 0 ∧ zM'.2.2.2.2.2.1 = 0 ∧ zM'.2.2.2.2.2.2.2.1 = 0 ∧ tkC n a zX'.2.2.2.1 zX'.2.2.2.2.1 zX'.2.2.2.2.2.1 zX'.2.2.2.2.2.2.1 zX'.2.2.2.2.2.2.2.1 zX'.2.2.2.2.2.2.2.2.1 zM'.1 zM'.2.1 zM'.2.2.1 zM'.2.2.2.1 zM'.2.2.2.2.1 zM'.2.2.2.2.2.2.2.2.1 ∧
        rdR W (P + 1) G K C zM'.2.2.2.2.2.2.2.2.2 ear pairs begun wc zX'.2.1 zX'.2.2.1 ac gc kn wn ws zX'.2.2.2.2.2.2.2.2.2.2.2.2.2.1 prices zX'.2.2.2.2.2.2.2.2.2.2.2.2.2.2.1 zX'.2.2.2.2.2.2.2.2.2.2.2.2.2.2.2.1 zX'.2.2.2.2.2.2.2.2.2.2.2.2.2.2.2.2 alikes hears g1 g2 g3)) := by
  have hab := hy.hab
  unfold f_X5_readPerson_62 f_X11_personLine_58
  rw [hyX, if_neg (show ¬ nI c = -1 from fun z => by have := pb_eqm (a := c) (b := 1) (by decide) (by omega) (by decide); exact (this ▸ z : False))]
  simp only [pb_bind, q10, q00, qz0, qz1, ite_true, ite_false, reduceIte]
  rcases takes_s hK hy (j := 16) (j' := 40) (by decide) (by decide) rfl rfl fp plc with ⟨e1, e2⟩ | ⟨uX, uM, ⟨a1, b1, k1, v1, L1, ha1, hu1⟩, e1, e2⟩
  · rw [e1, e2]
    simp only [pb_bind, q10, q00, qz0, qz1, ite_true, ite_false, reduceIte]
    unfold f_X11_personLine_93
    simp only [pb_bind, q10, q00, qz0, qz1, ite_true, ite_false, reduceIte, must_f, wordHere_f]
    exact ⟨_, _, rfl, rfl, Or.inl ⟨rfl, rfl, rfl, 1, by omega, by omega, rfl, rfl⟩⟩
  · have hab1 := hu1.hab
    obtain ⟨rX, rM, ⟨a2, b2, k2, v2, L2, ha2, hr⟩, r2, r3⟩ := look_z hK hu1
    have ix1 : nI (89 + 4 * P) + 1 = nI (90 + 4 * P) := by rw [nI_1]; congr 1; omega
    have ib1 : (rf_ib (nI (90 + 4 * P)) 333 = true) = True := eq_true (pb_ibt (by omega) (by omega))
    have ic1 : (nI (90 + 4 * P)).toNatClampNeg = 90 + 4 * P := nI_clamp (by omega)
    have go : ∀ fb : Bool, ∃ zX' zM', f_X5_readPerson_115 (nI W) (nI n) x wn (nI c) (bI fb) (nI P) ff uX.1 uX.2.1 uX.2.2.1 uX.2.2.2.1 uX.2.2.2.2.1 uX.2.2.2.2.2 (Int64.ofNat (pkN L' v')) found 0 fp pn kinds fw errands = some zX' ∧ f_X11_personLine_93 (nI n) m (nI (89 + 4 * P)) rM.1 rM.2.1 rM.2.2.1 rM.2.2.2.1 rM.2.2.2.2.1 0 plc 0 rM.2.2.2.2.2 (upd fr3 (90 + 4 * P) (bI fb)) = some zM' ∧
      (flR zX'.1 zX'.2.2.2.2.2.2.2.2.2.2.2.1 zX'.2.2.2.2.2.2.2.2.2.2.2.2.1 zM'.2.2.2.2.2.1 zM'.2.2.2.2.2.2.1 zM'.2.2.2.2.2.2.2.1 ∨ (zX'.1 = 1 ∧ zX'.2.2.2.2.2.2.2.2.2.2.2.1 = 0 ∧ zM'.2.2.2.2.2.1 = 0 ∧ zM'.2.2.2.2.2.2.2.1 = 0 ∧ tkC n a zX'.2.2.2.1 zX'.2.2.2.2.1 zX'.2.2.2.2.2.1 zX'.2.2.2.2.2.2.1 zX'.2.2.2.2.2.2.2.1 zX'.2.2.2.2.2.2.2.2.1 zM'.1 zM'.2.1 zM'.2.2.1 zM'.2.2.2.1 zM'.2.2.2.2.1 zM'.2.2.2.2.2.2.2.2.1 ∧
        rdR W (P + 1) G K C zM'.2.2.2.2.2.2.2.2.2 ear pairs begun wc zX'.2.1 zX'.2.2.1 ac gc kn wn ws zX'.2.2.2.2.2.2.2.2.2.2.2.2.2.1 prices zX'.2.2.2.2.2.2.2.2.2.2.2.2.2.2.1 zX'.2.2.2.2.2.2.2.2.2.2.2.2.2.2.2.1 zX'.2.2.2.2.2.2.2.2.2.2.2.2.2.2.2.2 alikes hears g1 g2 g3)) := by
      intro fb
      obtain ⟨zX', zM', y1, y2, y3⟩ := personE hK r3 r2 hr hb hP8 found fp plc rd (fb := fb) (fr3 := upd fr3 (90 + 4 * P) (bI fb)) (hN.cg (fun i hi => upd_ne _ _ (by omega))) h1 h2 (by rw [upd_ne _ _ (by omega)]; exact hnz) (fun k hk => by rw [upd_ne _ _ (by omega)]; exact hnl k hk) hc (by rw [upd_ne _ _ (by omega)]; exact h89) (upd_same _ _ _) hu (fun i i1 i2 i3 => by rw [upd_ne _ _ (by omega)]; exact hx i i1 i2 i3)
      refine ⟨zX', zM', y1, y2, ?_⟩
      rcases y3 with y3 | ⟨s1, s2, s3, s4, ⟨a', b', k', v', L', s5, s6⟩, s7⟩
      · exact Or.inl y3
      · exact Or.inr ⟨s1, s2, s3, s4, ⟨a', b', k', v', L', by omega, s6⟩, s7⟩
    rw [e1, e2]
    simp only [pb_bind, q10, q00, qz0, qz1, ite_true, ite_false, reduceIte]
    rw [(is_s hu1 (j := 17) (by decide)).1, (is_s hu1 (j := 18) (by decide)).1]
    have f42 := isT_eq (j := 42) (j' := 17) rfl rfl k1 v1 L1
    have f41 := isT_eq (j := 41) (j' := 18) rfl rfl k1 v1 L1
    have f43 := isT_empty hu1
    cases h17 : isT k1 v1 L1 17
    · cases h18 : isT k1 v1 L1 18
      · rw [oneOf_no hu1 (j1 := 41) (j2 := 42) (j3 := 43) (j4 := 43) (by decide) (by decide) (by decide) (by decide) (by rw [f41, h18]) (by rw [f42, h17]) f43 f43]
        simp only [pb_bind, q10, q00, qz0, qz1, ite_true, ite_false, reduceIte, nbf, fail_s, hu1.hpl, ix1, ib1, ic1]
        unfold f_X11_personLine_93
        simp only [pb_bind, q10, q00, qz0, qz1, ite_true, ite_false, reduceIte, must_f, wordHere_f]
        exact ⟨_, _, rfl, rfl, Or.inl ⟨rfl, rfl, rfl, 1, by omega, by omega, rfl, rfl⟩⟩
      · rw [oneOf_yes hu1 r3 (j1 := 41) (j2 := 42) (j3 := 43) (j4 := 43) (by decide) (by decide) (by decide) (by decide) (c := 0) (Or.inl ⟨rfl, by rw [f41, h18]⟩)]
        simp only [pb_bind, q10, q00, qz0, qz1, ite_true, ite_false, reduceIte, nbf, nbt, ix1, ib1, ic1]
        exact go false
    · have h18 : isT k1 v1 L1 18 = false := by
        cases h18 : isT k1 v1 L1 18
        · rfl
        · exact absurd (isT_two h17 h18).1 (by decide)
      rw [oneOf_yes hu1 r3 (j1 := 41) (j2 := 42) (j3 := 43) (j4 := 43) (by decide) (by decide) (by decide) (by decide) (c := 1) (Or.inr (Or.inl ⟨rfl, by rw [f41, h18], by rw [f42, h17]⟩))]
      simp only [pb_bind, q10, q00, qz0, qz1, ite_true, ite_false, reduceIte, nbt, ix1, ib1, ic1]
      exact go true
theorem person_nm (nm : nmR W P fr wn pn) (hP8 : P < 8) {v' : Nat} {L' : Nat → Nat} {fr1 : Nat → Int32} (v1 : 1 ≤ v') (v2 : v' ≤ 8) (n1 : fr1 (171 + (10 + P)) = nI v') (n2 : ∀ k, k < v' → 1 ≤ L' k ∧ L' k ≤ 26 ∧ fr1 (189 + 8 * (10 + P) + k) = nI (L' k + 96)) (n3 : ∀ j, j ≠ 171 + (10 + P) → ¬ (189 + 8 * (10 + P) ≤ j ∧ j < 197 + 8 * (10 + P)) → fr1 j = fr j) (c : Nat) : nmR W (P + 1) (upd fr1 (89 + 4 * P) (nI c)) wn (vp_updL pn P (Int64.ofNat (pkN L' v'))) := by
  refine ⟨nm.W10, by omega, fun w hw => ?_, fun p hp => ?_, fun i i1 i2 i3 => ?_⟩
  · have := nm.W10
    exact (nm.hw w hw).cg (by rw [upd_ne _ _ (by omega), n3 _ (by omega) (by omega)]) (fun k hk => by rw [upd_ne _ _ (by omega), n3 _ (by omega) (by omega)])
  · by_cases e : p = P
    · subst e
      rw [updL_same]
      exact nmOk.mk2 v1 v2 (by rw [upd_ne _ _ (by omega)]; exact n1) (fun k hk => by rw [upd_ne _ _ (by omega)]; exact n2 k hk)
    · rw [updL_ne _ _ e]
      exact (nm.hp p (by omega)).cg (by rw [upd_ne _ _ (by omega), n3 _ (by omega) (by omega)]) (fun k hk => by rw [upd_ne _ _ (by omega), n3 _ (by omega) (by omega)])
  · rw [upd_ne _ _ (by omega), n3 _ (by omega) (by omega)]; exact nm.hu i i1 i2 (by omega)
theorem person_go (hK : lookOk n x m) {uX rX : tX} {rM : tM} {a2 b2 k2 v4 : Nat} {L2 : Nat → Nat} (ha2 : a ≤ a2) (r2 : f_X5_look (nI n) x uX.1 uX.2.1 uX.2.2.1 uX.2.2.2.1 uX.2.2.2.2.1 uX.2.2.2.2.2 = some rX) (hr : tokZ n a2 b2 k2 v4 L2 rX rM) (hb : begun = 1) (hP8 : P < 8) (found fp plc : Int32) (rd : rdR W P G K C fr ear pairs begun wc pc ff ac gc kn wn ws pn prices kinds fw errands alikes hears g1 g2 g3) {v' : Nat} {L' : Nat → Nat} {fr1 : Nat → Int32} (v1 : 1 ≤ v') (v2 : v' ≤ 8) (n1 : fr1 (171 + (10 + P)) = nI v') (n2 : ∀ k, k < v' → 1 ≤ L' k ∧ L' k ≤ 26 ∧ fr1 (189 + 8 * (10 + P) + k) = nI (L' k + 96)) (n3 : ∀ j, j ≠ 171 + (10 + P) → ¬ (189 + 8 * (10 + P) ≤ j ∧ j < 197 + 8 * (10 + P)) → fr1 j = fr j) (hw : ∀ w, w < W → wn w ≠ Int64.ofNat (pkN L' v')) (c : Nat) (hc : c ≤ 3) :
    ∃ zX' zM', f_X5_readPerson_62 (nI W) (nI n) x wn (nI c) (nI P) ff uX.1 uX.2.1 uX.2.2.1 uX.2.2.2.1 uX.2.2.2.2.1 uX.2.2.2.2.2 (Int64.ofNat (pkN L' v')) found 0 fp pn kinds fw errands = some zX' ∧ f_X11_personLine_58 (nI n) m (nI (89 + 4 * P)) rM.1 rM.2.1 rM.2.2.1 rM.2.2.2.1 rM.2.2.2.2.1 0 plc 0 rM.2.2.2.2.2 (upd fr1 (89 + 4 * P) (nI c)) = some zM' ∧
      (flR zX'.1 zX'.2.2.2.2.2.2.2.2.2.2.2.1 zX'.2.2.2.2.2.2.2.2.2.2.2.2.1 zM'.2.2.2.2.2.1 zM'.2.2.2.2.2.2.1 zM'.2.2.2.2.2.2.2.1 ∨ (zX'.1 = 1 ∧ zX'.2.2.2.2.2.2.2.2.2.2.2.1 = 0 ∧ zM'.2.2.2.2.2.1 = 0 ∧ zM'.2.2.2.2.2.2.2.1 = 0 ∧ tkC n a zX'.2.2.2.1 zX'.2.2.2.2.1 zX'.2.2.2.2.2.1 zX'.2.2.2.2.2.2.1 zX'.2.2.2.2.2.2.2.1 zX'.2.2.2.2.2.2.2.2.1 zM'.1 zM'.2.1 zM'.2.2.1 zM'.2.2.2.1 zM'.2.2.2.2.1 zM'.2.2.2.2.2.2.2.2.1 ∧
        rdR W (P + 1) G K C zM'.2.2.2.2.2.2.2.2.2 ear pairs begun wc zX'.2.1 zX'.2.2.1 ac gc kn wn ws zX'.2.2.2.2.2.2.2.2.2.2.2.2.2.1 prices zX'.2.2.2.2.2.2.2.2.2.2.2.2.2.2.1 zX'.2.2.2.2.2.2.2.2.2.2.2.2.2.2.2.1 zX'.2.2.2.2.2.2.2.2.2.2.2.2.2.2.2.2 alikes hears g1 g2 g3)) := by
  obtain ⟨zX', zM', y1, y2, y3⟩ := personD hK (zX := uX) r2 hr hb hP8 found fp plc rd (c := c) (fr3 := upd fr1 (89 + 4 * P) (nI c)) (person_nm rd.names hP8 v1 v2 n1 n2 n3 c) v1 v2 (by rw [upd_ne _ _ (by omega), ← n1]; congr 1; omega) (fun k hk => by
    rw [upd_ne _ _ (by omega)]
    have := n2 k hk
    rw [show 189 + 8 * (10 + P) + k = 269 + 8 * P + k by omega] at this
    exact this) hc (upd_same _ _ _) hw (fun i i1 i2 i3 => by rw [upd_ne _ _ (by omega)]; exact n3 i (by omega) (by omega))
  refine ⟨zX', zM', y1, y2, ?_⟩
  rcases y3 with y3 | ⟨s1, s2, s3, s4, ⟨a', b', k', v', L', s5, s6⟩, s7⟩
  · exact Or.inl y3
  · exact Or.inr ⟨s1, s2, s3, s4, ⟨a', b', k', v', L', by omega, s6⟩, s7⟩
theorem personL (hK : lookOk n x m) (h : tokZ n a b k v L zX zM) (hb : begun = 1) (hP8 : P < 8) (name : Int64) (found fp plc : Int32) (rd : rdR W P G K C fr ear pairs begun wc pc ff ac gc kn wn ws pn prices kinds fw errands alikes hears g1 g2 g3) :
    ∃ zX' zM', f_X5_readPerson (nI W) (nI n) x wn (nI P) ff zX.1 zX.2.1 zX.2.2.1 zX.2.2.2.1 zX.2.2.2.2.1 zX.2.2.2.2.2 name found 0 fp pn kinds fw errands = some zX' ∧ f_X11_personLine (nI n) m zM.1 zM.2.1 zM.2.2.1 zM.2.2.2.1 zM.2.2.2.2.1 0 plc 0 zM.2.2.2.2.2 fr = some zM' ∧
      (flR zX'.1 zX'.2.2.2.2.2.2.2.2.2.2.2.1 zX'.2.2.2.2.2.2.2.2.2.2.2.2.1 zM'.2.2.2.2.2.1 zM'.2.2.2.2.2.2.1 zM'.2.2.2.2.2.2.2.1 ∨ (zX'.1 = 1 ∧ zX'.2.2.2.2.2.2.2.2.2.2.2.1 = 0 ∧ zM'.2.2.2.2.2.1 = 0 ∧ zM'.2.2.2.2.2.2.2.1 = 0 ∧ tkC n a zX'.2.2.2.1 zX'.2.2.2.2.1 zX'.2.2.2.2.2.1 zX'.2.2.2.2.2.2.1 zX'.2.2.2.2.2.2.2.1 zX'.2.2.2.2.2.2.2.2.1 zM'.1 zM'.2.1 zM'.2.2.1 zM'.2.2.2.1 zM'.2.2.2.2.1 zM'.2.2.2.2.2.2.2.2.1 ∧
        rdR W (P + 1) G K C zM'.2.2.2.2.2.2.2.2.2 ear pairs begun wc zX'.2.1 zX'.2.2.1 ac gc kn wn ws zX'.2.2.2.2.2.2.2.2.2.2.2.2.2.1 prices zX'.2.2.2.2.2.2.2.2.2.2.2.2.2.2.1 zX'.2.2.2.2.2.2.2.2.2.2.2.2.2.2.2.1 zX'.2.2.2.2.2.2.2.2.2.2.2.2.2.2.2.2 alikes hears g1 g2 g3)) := by
  have hab := h.hab
  have p3 := rd.tale.hpc'
  have ix : (89 : Int32) + ((4 : Int32) * nI P) = nI (89 + 4 * P) := by rw [show (89 : Int32) = nI 89 from rfl, show (4 : Int32) = nI 4 from rfl, pb_mul, pb_add]
  have ib : (rf_ib (nI (89 + 4 * P)) 333 = true) = True := eq_true (pb_ibt (by omega) (by omega))
  have ic : (nI (89 + 4 * P)).toNatClampNeg = 89 + 4 * P := nI_clamp (by omega)
  have jx : (10 : Int32) + nI P = nI (10 + P) := by rw [show (10 : Int32) = nI 10 from rfl, pb_add]
  unfold f_X5_readPerson f_X11_personLine
  rw [cl3, p3, ix, jx]
  rcases newName_s hK h rd.names (s := 10 + P) (by omega) name fp plc with ⟨f, f1, f7, e1, e2⟩ | ⟨v', L', uX, uM, fr1, v1, v2, ⟨a1, b1, k1, v3, L1, ha1, hu1⟩, hw, hp, e1, e2, n1, n2, n3⟩
  · rw [e1, e2]
    simp only [pb_bind, q10, q00, qz0, qz1, ite_true, ite_false, reduceIte]
    unfold f_X11_personLine_58 f_X11_personLine_93
    simp only [pb_bind, q10, q00, qz0, qz1, ite_true, ite_false, reduceIte, must_f, wordHere_f]
    exact ⟨_, _, rfl, rfl, Or.inl ⟨rfl, rfl, rfl, f, f1, f7, rfl, rfl⟩⟩
  · have hab1 := hu1.hab
    obtain ⟨rX, rM, ⟨a2, b2, k2, v4, L2, ha2, hr⟩, r2, r3⟩ := look_z hK hu1
    have go := person_go (a := a) hK (by omega) r2 hr hb hP8 found fp plc rd v1 v2 n1 n2 n3 hw
    rw [e1, e2]
    simp only [pb_bind, q10, q00, qz0, qz1, ite_true, ite_false, reduceIte]
    have g0 := isT_eq (j := 36) (j' := 12) rfl rfl k1 v3 L1
    have g1' := isT_eq (j := 37) (j' := 13) rfl rfl k1 v3 L1
    have g2' := isT_eq (j := 38) (j' := 14) rfl rfl k1 v3 L1
    have g3' := isT_eq (j := 39) (j' := 15) rfl rfl k1 v3 L1
    rw [(is_s hu1 (j := 12) (by decide)).1, pb_bind]
    cases h12 : isT k1 v3 L1 12
    · rw [if_pos nbf, (is_s hu1 (j := 13) (by decide)).1, pb_bind]
      cases h13 : isT k1 v3 L1 13
      · rw [if_pos nbf, (is_s hu1 (j := 14) (by decide)).1, pb_bind]
        cases h14 : isT k1 v3 L1 14
        · rw [if_pos nbf, (is_s hu1 (j := 15) (by decide)).1, pb_bind]
          cases h15 : isT k1 v3 L1 15
          · rw [if_pos nbf, oneOf_no hu1 (j1 := 36) (j2 := 37) (j3 := 38) (j4 := 39) (by decide) (by decide) (by decide) (by decide) (by rw [g0, h12]) (by rw [g1', h13]) (by rw [g2', h14]) (by rw [g3', h15])]
            simp only [pb_bind, q10, q00, qz0, qz1, ite_true, ite_false, reduceIte, ib, ic]
            unfold f_X5_readPerson_62
            simp only [pb_bind, q10, q00, qz0, qz1, ite_true, ite_false, reduceIte, fail_s, hu1.hpl]
            unfold f_X11_personLine_58
            simp only [pb_bind, q10, q00, qz0, qz1, ite_true, ite_false, reduceIte, must_f]
            unfold f_X11_personLine_93
            simp only [pb_bind, q10, q00, qz0, qz1, ite_true, ite_false, reduceIte, must_f, wordHere_f]
            exact ⟨_, _, rfl, rfl, Or.inl ⟨rfl, rfl, rfl, 1, by omega, by omega, rfl, rfl⟩⟩
          · rw [if_neg (show ¬ bI true = 0 by decide), oneOf_yes hu1 r3 (j1 := 36) (j2 := 37) (j3 := 38) (j4 := 39) (by decide) (by decide) (by decide) (by decide) (c := 3) (Or.inr (Or.inr (Or.inr ⟨rfl, by rw [g0, h12], by rw [g1', h13], by rw [g2', h14], by rw [g3', h15]⟩)))]
            simp only [pb_bind, q10, q00, qz0, qz1, ite_true, ite_false, reduceIte, ib, ic]
            exact go 3 (by omega)
        · rw [if_neg (show ¬ bI true = 0 by decide), oneOf_yes hu1 r3 (j1 := 36) (j2 := 37) (j3 := 38) (j4 := 39) (by decide) (by decide) (by decide) (by decide) (c := 2) (Or.inr (Or.inr (Or.inl ⟨rfl, by rw [g0, h12], by rw [g1', h13], by rw [g2', h14]⟩)))]
          simp only [pb_bind, q10, q00, qz0, qz1, ite_true, ite_false, reduceIte, ib, ic]
          exact go 2 (by omega)
      · rw [if_neg (show ¬ bI true = 0 by decide), oneOf_yes hu1 r3 (j1 := 36) (j2 := 37) (j3 := 38) (j4 := 39) (by decide) (by decide) (by decide) (by decide) (c := 1) (Or.inr (Or.inl ⟨rfl, by rw [g0, h12], by rw [g1', h13]⟩))]
        simp only [pb_bind, q10, q00, qz0, qz1, ite_true, ite_false, reduceIte, ib, ic]
        exact go 1 (by omega)
    · rw [if_neg (show ¬ bI true = 0 by decide), oneOf_yes hu1 r3 (j1 := 36) (j2 := 37) (j3 := 38) (j4 := 39) (by decide) (by decide) (by decide) (by decide) (c := 0) (Or.inl ⟨rfl, by rw [g0, h12]⟩)]
      simp only [pb_bind, q10, q00, qz0, qz1, ite_true, ite_false, reduceIte, ib, ic]
      exact go 0 (by omega)
end
