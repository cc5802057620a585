/-! the lines, one by one -/
theorem cl0 : Int32.toNatClampNeg 0 = 0 := nr rfl
theorem cl1 : Int32.toNatClampNeg 1 = 1 := nr rfl
theorem cl2 : Int32.toNatClampNeg 2 = 2 := nr rfl
theorem cl3 : Int32.toNatClampNeg 3 = 3 := nr rfl
theorem cl4 : Int32.toNatClampNeg 4 = 4 := nr rfl
theorem cl5 : Int32.toNatClampNeg 5 = 5 := nr rfl
theorem cl6 : Int32.toNatClampNeg 6 = 6 := nr rfl
theorem cl7 : Int32.toNatClampNeg 7 = 7 := nr rfl
theorem cl8 : Int32.toNatClampNeg 8 = 8 := nr rfl
/-- both fail, alike -/
def flR (ret ft fp ft' plc' fd : Int32) : Prop := ret = 0 ∧ fd = 1 ∧ fp = plc' ∧ ∃ f : Nat, 1 ≤ f ∧ f ≤ 7 ∧ ft = nI f ∧ ft' = nI f
def tkC (n a0 : Nat) (nx so pl le : Int32) (lt : Int64) (wh at_ en to wm ns : Int32) (la : Nat → Int32) : Prop := ∃ a b k v : Nat, ∃ L : Nat → Nat, a0 ≤ a ∧ tokR n a b k v L nx so pl le lt wh at_ en to wm ns la
theorem tkC_of {n a0 a1 : Nat} {zX : tX} {zM : tM} (h : TkN n a0 zX zM) (hle : a1 ≤ a0) : tkC n a1 zX.1 zX.2.1 zX.2.2.1 zX.2.2.2.1 zX.2.2.2.2.1 zX.2.2.2.2.2 zM.1 zM.2.1 zM.2.2.1 zM.2.2.2.1 zM.2.2.2.2.1 zM.2.2.2.2.2 := by
  obtain ⟨a, b, k, v, L, h1, h2⟩ := h
  exact ⟨a, b, k, v, L, by omega, h2⟩
section
variable {n : Nat} {x m : Nat → Int32} {a b k v : Nat} {L : Nat → Nat} {zX : tX} {zM : tM}
variable {W P G K C : Nat} {fr : Nat → Int32} {ear pairs begun wc pc ff ac gc kn : Int32} {wn ws pn : Nat → Int64} {prices kinds fw errands alikes hears g1 g2 g3 : Nat → Int32}
theorem ferryL (hK : lookOk n x m) {oM : tM} (hM : f_X11_next (nI n) m oM.1 oM.2.1 oM.2.2.1 oM.2.2.2.1 oM.2.2.2.2.1 oM.2.2.2.2.2 = some zM) (h : tokZ n a b k v L zX zM) (num fp plc : Int32) (rd : rdR W P G K C fr ear pairs begun wc pc ff ac gc kn wn ws pn prices kinds fw errands alikes hears g1 g2 g3) :
    ∃ yX yM, f_X5_readFerry (nI n) x ear pairs zX.1 begun zX.2.1 zX.2.2.1 zX.2.2.2.1 zX.2.2.2.2.1 zX.2.2.2.2.2 num 0 fp = some yX ∧ f_X11_ferryLine_18 (nI n) m oM.1 oM.2.1 oM.2.2.1 oM.2.2.2.1 oM.2.2.2.2.1 0 plc 0 oM.2.2.2.2.2 fr = some yM ∧
      (flR yX.1 yX.2.2.2.2.2.2.2.2.2.2.2.1 yX.2.2.2.2.2.2.2.2.2.2.2.2 yM.2.2.2.2.2.1 yM.2.2.2.2.2.2.1 yM.2.2.2.2.2.2.2.1 ∨ (yX.1 = 1 ∧ yX.2.2.2.2.2.2.2.2.2.2.2.1 = 0 ∧ yM.2.2.2.2.2.1 = 0 ∧ yM.2.2.2.2.2.2.2.1 = 0 ∧ tkC n a yX.2.2.2.1 yX.2.2.2.2.2.1 yX.2.2.2.2.2.2.1 yX.2.2.2.2.2.2.2.1 yX.2.2.2.2.2.2.2.2.1 yX.2.2.2.2.2.2.2.2.2.1 yM.1 yM.2.1 yM.2.2.1 yM.2.2.2.1 yM.2.2.2.2.1 yM.2.2.2.2.2.2.2.2.1 ∧
        rdR W P G K C yM.2.2.2.2.2.2.2.2.2 yX.2.1 yX.2.2.1 yX.2.2.2.2.1 wc pc ff ac gc kn wn ws pn prices kinds fw errands alikes hears g1 g2 g3)) := by
  unfold f_X5_readFerry f_X5_readFerry_23 f_X5_readFerry_54 f_X11_ferryLine_18
  rw [hM]
  simp only [pb_bind, q10, q00, qz0, qz1, ite_true, ite_false, reduceIte, cl0, cl1]
  have hab := h.hab
  rcases after_s hK h (j := 8) (j' := 25) (by decide) (by decide) rfl rfl (lo := 2) (hi := 5) (l := 2) (u := 5) rfl rfl (by omega) (by omega) num fp plc with ⟨e1, e2⟩ | ⟨yX, yM, e1, ⟨f, a', f1, f7, c1, c2⟩ | ⟨w, uX, uM, w1, w2, ⟨a2, b2, k2, v2, L2, ha2, h2⟩, c1, c2⟩⟩
  · rw [e1, e2]
    simp only [pb_bind, q10, q00, qz0, qz1, ite_true, ite_false, reduceIte, after_f]
    exact ⟨_, _, rfl, rfl, Or.inl ⟨rfl, rfl, rfl, 1, by omega, by omega, rfl, rfl⟩⟩
  · rw [e1, c2]
    simp only [pb_bind, q10, q00, qz0, qz1, ite_true, ite_false, reduceIte, after_f]
    rw [c1]
    simp only [pb_bind, q10, q00, qz0, qz1, ite_true, ite_false, reduceIte]
    exact ⟨_, _, rfl, rfl, Or.inl ⟨rfl, rfl, rfl, f, f1, f7, rfl, rfl⟩⟩
  · rw [e1, c2]
    simp only [pb_bind, q10, q00, qz0, qz1, ite_true, ite_false, reduceIte]
    rw [c1]
    simp only [pb_bind, q10, q00, qz0, qz1, ite_true, ite_false, reduceIte]
    have hab2 := h2.hab
    rcases after_s hK h2 (j := 9) (j' := 26) (by decide) (by decide) rfl rfl (lo := 1) (hi := 3) (l := 1) (u := 3) rfl rfl (by omega) (by omega) (nI w) fp plc with ⟨e3, e4⟩ | ⟨tX', tM', e3, ⟨f, a', f1, f7, c3, c4⟩ | ⟨c, sX', sM', s1, s2, s3, c3, c4⟩⟩
    · rw [e3, e4]
      simp only [pb_bind, q10, q00, qz0, qz1, ite_true, ite_false, reduceIte]
      exact ⟨_, _, rfl, rfl, Or.inl ⟨rfl, rfl, rfl, 1, by omega, by omega, rfl, rfl⟩⟩
    · rw [e3, c4]
      simp only [pb_bind, q10, q00, qz0, qz1, ite_true, ite_false, reduceIte]
      rw [c3]
      simp only [pb_bind, q10, q00, qz0, qz1, ite_true, ite_false, reduceIte]
      exact ⟨_, _, rfl, rfl, Or.inl ⟨rfl, rfl, rfl, f, f1, f7, rfl, rfl⟩⟩
    · rw [e3, c4]
      simp only [pb_bind, q10, q00, qz0, qz1, ite_true, ite_false, reduceIte]
      rw [c3]
      simp only [pb_bind, q10, q00, qz0, qz1, ite_true, ite_false, reduceIte]
      refine ⟨_, _, rfl, rfl, Or.inr ⟨rfl, rfl, rfl, rfl, tkC_of s3 (by omega), ?_⟩⟩
      dsimp only
      exact rd_ferry rd w1 w2 s1 s2 (upd_same _ _ _) (by rw [upd_ne _ _ (by decide), upd_same]) (fun i hi => by rw [upd_ne _ _ (by omega), upd_ne _ _ (by omega)])
theorem errandL (hK : lookOk n x m) (h : tokZ n a b k v L zX zM) (hb : begun = 1) (num found fp plc : Int32) (rd : rdR W P G K C fr ear pairs begun wc pc ff ac gc kn wn ws pn prices kinds fw errands alikes hears g1 g2 g3) :
    ∃ yX yM, f_X5_readErrand (nI P) (nI n) x pn zX.1 zX.2.1 zX.2.2.1 zX.2.2.2.1 zX.2.2.2.2.1 zX.2.2.2.2.2 num found 0 fp errands = some yX ∧ f_X11_errandLine (nI n) m zM.1 zM.2.1 zM.2.2.1 zM.2.2.2.1 zM.2.2.2.2.1 0 plc 0 zM.2.2.2.2.2 fr = some yM ∧
      (flR yX.1 yX.2.2.2.2.2.2.2.2.2.1 yX.2.2.2.2.2.2.2.2.2.2.1 yM.2.2.2.2.2.1 yM.2.2.2.2.2.2.1 yM.2.2.2.2.2.2.2.1 ∨ (yX.1 = 1 ∧ yX.2.2.2.2.2.2.2.2.2.1 = 0 ∧ yM.2.2.2.2.2.1 = 0 ∧ yM.2.2.2.2.2.2.2.1 = 0 ∧ tkC n a yX.2.1 yX.2.2.1 yX.2.2.2.1 yX.2.2.2.2.1 yX.2.2.2.2.2.1 yX.2.2.2.2.2.2.1 yM.1 yM.2.1 yM.2.2.1 yM.2.2.2.1 yM.2.2.2.2.1 yM.2.2.2.2.2.2.2.2.1 ∧
        rdR W P G K C yM.2.2.2.2.2.2.2.2.2 ear pairs begun wc pc ff ac gc kn wn ws pn prices kinds fw yX.2.2.2.2.2.2.2.2.2.2.2 alikes hears g1 g2 g3)) := by
  have hab := h.hab
  have hP := rd.tale.P8
  unfold f_X5_readErrand f_X5_readErrand_54 f_X11_errandLine f_X11_errandLine_45
  rcases personHere_s h rd.names rd.uq found fp plc with ⟨f, fd', f1, f7, e1, e2⟩ | ⟨p, p1, e1, e2⟩
  · rw [e1, e2]
    simp only [pb_bind, q10, q00, qz0, qz1, ite_true, ite_false, reduceIte]
    exact ⟨_, _, rfl, rfl, Or.inl ⟨rfl, rfl, rfl, f, f1, f7, rfl, rfl⟩⟩
  · have ix : ((89 : Int32) + ((4 : Int32) * nI p)) + 3 = nI (92 + 4 * p) := by
      rw [show (89 : Int32) = nI 89 from rfl, show (4 : Int32) = nI 4 from rfl, show (3 : Int32) = nI 3 from rfl, pb_mul, pb_add, pb_add]
      congr 1
      omega
    have ib : (rf_ib (nI (92 + 4 * p)) 333 = true) = True := eq_true (pb_ibt (by omega) (by omega))
    have ic : (nI (92 + 4 * p)).toNatClampNeg = 92 + 4 * p := nI_clamp (by omega)
    have jb : (rf_ib (nI p) 8 = true) = True := eq_true (pb_ibt (by omega) (by omega))
    have jc : (nI p).toNatClampNeg = p := nI_clamp (by omega)
    rw [e1, e2]
    simp only [pb_bind, q10, q00, qz0, qz1, ite_true, ite_false, reduceIte, ix, ib, ic, jb, jc]
    have hee := (rd.tale.pers p p1).herr
    rw [← hee]
    by_cases h0 : errands p ≤ 0
    · rw [if_pos h0, if_pos h0]
      obtain ⟨yX, yM, ⟨a1, b1, k1, v1, L1, ha1, hy⟩, q2, q3⟩ := look_z hK h
      have hab1 := hy.hab
      rw [q2, q3]
      simp only [pb_bind, q10, q00, qz0, qz1, ite_true, ite_false, reduceIte]
      rcases after_s hK hy (j := 20) (j' := 45) (by decide) (by decide) rfl rfl (lo := 1) (hi := 4) (l := 1) (u := 4) rfl rfl (by omega) (by omega) num fp plc with ⟨e3, e4⟩ | ⟨tX', tM', e3, ⟨f, a', f1, f7, c3, c4⟩ | ⟨c, sX', sM', s1, s2, s3, c3, c4⟩⟩
      · rw [e3, e4]
        simp only [pb_bind, q10, q00, qz0, qz1, ite_true, ite_false, reduceIte]
        exact ⟨_, _, rfl, rfl, Or.inl ⟨rfl, rfl, rfl, 1, by omega, by omega, rfl, rfl⟩⟩
      · rw [e3, c4]
        simp only [pb_bind, q10, q00, qz0, qz1, ite_true, ite_false, reduceIte]
        rw [c3]
        simp only [pb_bind, q10, q00, qz0, qz1, ite_true, ite_false, reduceIte]
        exact ⟨_, _, rfl, rfl, Or.inl ⟨rfl, rfl, rfl, f, f1, f7, rfl, rfl⟩⟩
      · rw [e3, c4]
        simp only [pb_bind, q10, q00, qz0, qz1, ite_true, ite_false, reduceIte]
        rw [c3]
        simp only [pb_bind, q10, q00, qz0, qz1, ite_true, ite_false, reduceIte, cl6]
        refine ⟨_, _, rfl, rfl, Or.inr ⟨rfl, rfl, rfl, rfl, tkC_of s3 (by omega), ?_⟩⟩
        dsimp only
        refine rd_errand rd hb p1 s1 s2 (fun z => (pb_le0.mp h0) z) ?_ ?_ (fun i h1 h2 => ?_)
        · rw [upd_ne _ _ (by omega), upd_same]
        · rw [upd_same, upd_ne _ _ (by omega)]
        · rw [upd_ne _ _ h1, upd_ne _ _ h2]
    · rw [if_neg h0, if_neg h0]
      rw [h.hat]
      simp only [pb_bind, q10, q00, qz0, qz1, ite_true, ite_false, reduceIte, wrong_0, fail_s, h.hpl]
      exact ⟨_, _, rfl, rfl, Or.inl ⟨rfl, rfl, rfl, 3, by omega, by omega, rfl, rfl⟩⟩
theorem hourL (hK : lookOk n x m) (h : tokZ n a b k v L zX zM) (hb : begun = 1) (hc8 : cntP hears 24 < 8) (num fp plc : Int32) (rd : rdR W P G K C fr ear pairs begun wc pc ff ac gc kn wn ws pn prices kinds fw errands alikes hears g1 g2 g3) :
    ∃ yX yM, f_X5_readHour (nI n) x zX.1 zX.2.1 zX.2.2.1 zX.2.2.2.1 zX.2.2.2.2.1 zX.2.2.2.2.2 num 0 fp hears = some yX ∧ f_X11_hourLine (nI n) m zM.1 zM.2.1 zM.2.2.1 zM.2.2.2.1 zM.2.2.2.2.1 0 plc 0 zM.2.2.2.2.2 fr = some yM ∧
      (flR yX.1 yX.2.2.2.2.2.2.2.2.1 yX.2.2.2.2.2.2.2.2.2.1 yM.2.2.2.2.2.1 yM.2.2.2.2.2.2.1 yM.2.2.2.2.2.2.2.1 ∨ (yX.1 = 1 ∧ yX.2.2.2.2.2.2.2.2.1 = 0 ∧ yM.2.2.2.2.2.1 = 0 ∧ yM.2.2.2.2.2.2.2.1 = 0 ∧ tkC n a yX.2.1 yX.2.2.1 yX.2.2.2.1 yX.2.2.2.2.1 yX.2.2.2.2.2.1 yX.2.2.2.2.2.2.1 yM.1 yM.2.1 yM.2.2.1 yM.2.2.2.1 yM.2.2.2.2.1 yM.2.2.2.2.2.2.2.2.1 ∧
        rdR W P G K C yM.2.2.2.2.2.2.2.2.2 ear pairs begun wc pc ff ac gc kn wn ws pn prices kinds fw errands alikes yX.2.2.2.2.2.2.2.2.2.2 g1 g2 g3)) := by
  have hab := h.hab
  unfold f_X5_readHour f_X5_readHour_58 f_X11_hourLine f_X11_hourLine_45
  rcases seesWhole_s h (lo := 0) (hi := 23) (l := 0) (u := 23) rfl rfl (by omega) (by omega) fp plc with ⟨f, f1, f7, e1, e2⟩ | ⟨k2, v1, v2, v3, e1, e2⟩
  · rw [e1, e2]
    simp only [pb_bind, q10, q00, qz0, qz1, ite_true, ite_false, reduceIte]
    exact ⟨_, _, rfl, rfl, Or.inl ⟨rfl, rfl, rfl, f, f1, f7, rfl, rfl⟩⟩
  · have ix : (129 : Int32) + nI v = nI (129 + v) := by rw [show (129 : Int32) = nI 129 from rfl, pb_add]
    have ib : (rf_ib (nI (129 + v)) 333 = true) = True := eq_true (pb_ibt (by omega) (by omega))
    have ic : (nI (129 + v)).toNatClampNeg = 129 + v := nI_clamp (by omega)
    have jb : (rf_ib (nI v) 24 = true) = True := eq_true (pb_ibt (by omega) (by omega))
    have jc : (nI v).toNatClampNeg = v := nI_clamp (by omega)
    obtain ⟨yX, yM, ⟨a1, b1, k1, v1', L1, ha1, hy⟩, q2, q3⟩ := look_z hK h
    rw [e1, e2]
    simp only [pb_bind, q10, q00, qz0, qz1, ite_true, ite_false, reduceIte]
    rw [q2, q3, v3]
    simp only [pb_bind, q10, q00, qz0, qz1, ite_true, ite_false, reduceIte, ix, ib, ic, jb, jc]
    rw [← rd.tale.he v (by omega)]
    by_cases h0 : hears v ≤ 0
    · rw [if_pos h0, if_pos h0]
      have hab1 := hy.hab
      rcases after_s hK hy (j := 8) (j' := 25) (by decide) (by decide) rfl rfl (lo := 1) (hi := 6) (l := 1) (u := 6) rfl rfl (by omega) (by omega) num fp plc with ⟨e3, e4⟩ | ⟨tX', tM', e3, ⟨f, a', f1, f7, c3, c4⟩ | ⟨c, sX', sM', s1, s2, s3, c3, c4⟩⟩
      · rw [e3, e4]
        simp only [pb_bind, q10, q00, qz0, qz1, ite_true, ite_false, reduceIte]
        exact ⟨_, _, rfl, rfl, Or.inl ⟨rfl, rfl, rfl, 1, by omega, by omega, rfl, rfl⟩⟩
      · rw [e3, c4]
        simp only [pb_bind, q10, q00, qz0, qz1, ite_true, ite_false, reduceIte]
        rw [c3]
        simp only [pb_bind, q10, q00, qz0, qz1, ite_true, ite_false, reduceIte]
        exact ⟨_, _, rfl, rfl, Or.inl ⟨rfl, rfl, rfl, f, f1, f7, rfl, rfl⟩⟩
      · rw [e3, c4]
        simp only [pb_bind, q10, q00, qz0, qz1, ite_true, ite_false, reduceIte]
        rw [c3]
        simp only [pb_bind, q10, q00, qz0, qz1, ite_true, ite_false, reduceIte, cl5]
        refine ⟨_, _, rfl, rfl, Or.inr ⟨rfl, rfl, rfl, rfl, tkC_of s3 (by omega), ?_⟩⟩
        dsimp only
        refine rd_hour rd hb hc8 (by omega) s1 s2 (fun z => (pb_le0.mp h0) z) ?_ ?_ (fun i h1 h2 => ?_)
        · rw [upd_ne _ _ (by omega), upd_same]
        · rw [upd_same, upd_ne _ _ (by omega)]
        · rw [upd_ne _ _ h1, upd_ne _ _ h2]
    · rw [if_neg h0, if_neg h0]
      rw [h.hat]
      simp only [pb_bind, q10, q00, qz0, qz1, ite_true, ite_false, reduceIte, wrong_0, fail_s, h.hpl]
      exact ⟨_, _, rfl, rfl, Or.inl ⟨rfl, rfl, rfl, 3, by omega, by omega, rfl, rfl⟩⟩
theorem knowsL (hK : lookOk n x m) (h : tokZ n a b k v L zX zM) (hb : begun = 1) (hK8 : K < 8) (found fp plc : Int32) (rd : rdR W P G K C fr ear pairs begun wc pc ff ac gc kn wn ws pn prices kinds fw errands alikes hears g1 g2 g3) :
    ∃ yX yM, f_X5_readKnows (nI W) (nI P) (nI n) x wn pn zX.1 kn zX.2.1 zX.2.2.1 zX.2.2.2.1 zX.2.2.2.2.1 zX.2.2.2.2.2 found 0 fp fw = some yX ∧ f_X11_knowsLine (nI n) m zM.1 zM.2.1 zM.2.2.1 zM.2.2.2.1 zM.2.2.2.2.1 0 plc 0 zM.2.2.2.2.2 fr = some yM ∧
      (flR yX.1 yX.2.2.2.2.2.2.2.2.2.1 yX.2.2.2.2.2.2.2.2.2.2.1 yM.2.2.2.2.2.1 yM.2.2.2.2.2.2.1 yM.2.2.2.2.2.2.2.1 ∨ (yX.1 = 1 ∧ yX.2.2.2.2.2.2.2.2.2.1 = 0 ∧ yM.2.2.2.2.2.1 = 0 ∧ yM.2.2.2.2.2.2.2.1 = 0 ∧ tkC n a yX.2.1 yX.2.2.2.1 yX.2.2.2.2.1 yX.2.2.2.2.2.1 yX.2.2.2.2.2.2.1 yX.2.2.2.2.2.2.2.1 yM.1 yM.2.1 yM.2.2.1 yM.2.2.2.1 yM.2.2.2.2.1 yM.2.2.2.2.2.2.2.2.1 ∧
        rdR W P G (K + 1) C yM.2.2.2.2.2.2.2.2.2 ear pairs begun wc pc ff ac gc yX.2.2.1 wn ws pn prices kinds yX.2.2.2.2.2.2.2.2.2.2.2 errands alikes hears g1 g2 g3)) := by
  have hab := h.hab
  have hP := rd.tale.P8
  have hW := rd.tale.W10
  unfold f_X5_readKnows f_X11_knowsLine f_X11_knowsLine_54
  rcases personPassed_s hK h rd.names rd.uq found fp plc with ⟨f, fd', f1, f7, e1, e2⟩ | ⟨p, yX, yM, p1, e1, ⟨a1, b1, k1, v1, L1, ha1, hy⟩, q2, e2⟩
  · rw [e1, e2]
    simp only [pb_bind, q10, q00, qz0, qz1, ite_true, ite_false, reduceIte, wordHere_f]
    exact ⟨_, _, rfl, rfl, Or.inl ⟨rfl, rfl, rfl, f, f1, f7, rfl, rfl⟩⟩
  · have hab1 := hy.hab
    rw [e1, e2]
    simp only [pb_bind, q10, q00, qz0, qz1, ite_true, ite_false, reduceIte]
    rw [q2]
    simp only [pb_bind, q10, q00, qz0, qz1, ite_true, ite_false, reduceIte]
    rcases wordHere_s hy rd.names (nI p) fp plc with ⟨f, fd', f1, f7, c1, c2⟩ | ⟨w, w1, c1, c2⟩
    · rw [c1, c2]
      simp only [pb_bind, q10, q00, qz0, qz1, ite_true, ite_false, reduceIte]
      exact ⟨_, _, rfl, rfl, Or.inl ⟨rfl, rfl, rfl, f, f1, f7, rfl, rfl⟩⟩
    · have ix : ((89 : Int32) + ((4 : Int32) * nI p)) + 2 = nI (91 + 4 * p) := by
        rw [show (89 : Int32) = nI 89 from rfl, show (4 : Int32) = nI 4 from rfl, show (2 : Int32) = nI 2 from rfl, pb_mul, pb_add, pb_add]
        congr 1
        omega
      have ib : (rf_ib (nI (91 + 4 * p)) 333 = true) = True := eq_true (pb_ibt (by omega) (by omega))
      have ic : (nI (91 + 4 * p)).toNatClampNeg = 91 + 4 * p := nI_clamp (by omega)
      have jb : (rf_ib (nI p) 8 = true) = True := eq_true (pb_ibt (by omega) (by omega))
      have jc : (nI p).toNatClampNeg = p := nI_clamp (by omega)
      obtain ⟨uX, uM, u1, u2, u3⟩ := look_z hK hy
      rw [c1, c2]
      simp only [pb_bind, q10, q00, qz0, qz1, ite_true, ite_false, reduceIte, ix, ib, ic, jb, jc]
      rw [← rd.fws p p1, holdsX_s _ (by omega), hasBitM_s _ (by omega), pb_bind, pb_bind]
      cases hbt : bt (fw p) w
      · simp only [pb_bind, q10, q00, qz0, qz1, ite_true, ite_false, reduceIte, nbf]
        rw [u2, u3]
        simp only [pb_bind, q10, q00, qz0, qz1, ite_true, ite_false, reduceIte, cl8]
        refine ⟨_, _, rfl, rfl, Or.inr ⟨rfl, rfl, rfl, rfl, tkC_of u1 (by omega), ?_⟩⟩
        dsimp only
        rw [show kn + 1 = nI (K + 1) by rw [rd.hkn, nI_1]]
        refine rd_knows rd hb hK8 p1 w1 ?_ ?_ (fun i h1 h2 => ?_)
        · rw [upd_ne _ _ (by omega), upd_same, rd.fws p p1]
        · rw [upd_same, upd_ne _ _ (by omega), rd.hkn', nI_1]
        · rw [upd_ne _ _ h1, upd_ne _ _ h2]
      · rw [hy.hat]
        simp only [pb_bind, q10, q00, qz0, qz1, ite_true, ite_false, reduceIte, nbt, wrong_0, fail_s, hy.hpl]
        exact ⟨_, _, rfl, rfl, Or.inl ⟨rfl, rfl, rfl, 3, by omega, by omega, rfl, rfl⟩⟩
end
