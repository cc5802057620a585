/-! a word's line -/
def wEnd (m_size : Int32) (m_tape : Nat → Int32) (v1 m_at m_end m_token m_whole m_nameSize m_fault m_place m_failed : Int32) (m_letters m_fresh : Nat → Int32) : Option (Int32 × Int32 × Int32 × Int32 × Int32 × Int32 × Int32 × Int32 × (Nat → Int32) × (Nat → Int32)) :=
    (f_X11_next m_size m_tape m_at m_end m_token m_whole m_nameSize m_letters).bind fun z154 =>
    (f_X11_after m_size m_tape z154.1 z154.2.1 z154.2.2.1 z154.2.2.2.1 z154.2.2.2.2.1 m_fault m_place m_failed z154.2.2.2.2.2 35 0 99).bind fun z168 =>
    if rf_ib v1 333 = true then
    if z168.2.2.2.2.2.2.2.2.1 = 0 then
     some (z168.2.1, z168.2.2.1, z168.2.2.2.1, z168.2.2.2.2.1, z168.2.2.2.2.2.1, z168.2.2.2.2.2.2.1, z168.2.2.2.2.2.2.2.1, z168.2.2.2.2.2.2.2.2.1, z168.2.2.2.2.2.2.2.2.2, upd (upd m_fresh (Int32.toNatClampNeg v1) z168.1) (Int32.toNatClampNeg 2) (((upd m_fresh (Int32.toNatClampNeg v1) z168.1) (Int32.toNatClampNeg 2)) + 1))
    else
     some (z168.2.1, z168.2.2.1, z168.2.2.2.1, z168.2.2.2.2.1, z168.2.2.2.2.2.1, z168.2.2.2.2.2.2.1, z168.2.2.2.2.2.2.2.1, z168.2.2.2.2.2.2.2.2.1, z168.2.2.2.2.2.2.2.2.2, upd m_fresh (Int32.toNatClampNeg v1) z168.1)
    else none
theorem word120 {n : Nat} {m : Nat → Int32} {W v : Nat} (hW : W < 10) (hv : v ≤ 6) {L : Nat → Nat} {la : Nat → Int32} (hL : ∀ j, j < v → 1 ≤ L j ∧ L j ≤ 26 ∧ la j = nI (L j + 96)) (at_ en to wm ft plc fd : Int32) : ∀ d f i : Nat, ∀ fr : Nat → Int32, i + d = v → d < f →
    ∃ fr', f_X11_wordLine_120 (nI n) m f (nI (9 + 8 * W)) (nI i) at_ en to wm (nI v) ft plc fd la fr = wEnd (nI n) m (nI (9 + 8 * W)) at_ en to wm (nI v) ft plc fd la fr' ∧ (∀ k, i ≤ k → k < v → fr' (11 + 8 * W + k) = nI (L k - 1)) ∧ ∀ j, ¬ (11 + 8 * W + i ≤ j ∧ j < 11 + 8 * W + v) → fr' j = fr j := by
  intro d
  induction d with
  | zero =>
    intro f i fr hi hf
    obtain ⟨f', rfl, _⟩ := fuel_succ hf
    refine ⟨fr, ?_, fun k h1 h2 => by omega, fun _ _ => rfl⟩
    rw [f_X11_wordLine_120, if_pos (nI_le (by omega) (by omega)), wEnd]
  | succ d ih =>
    intro f i fr hi hf
    obtain ⟨f', rfl, _⟩ := fuel_succ hf
    obtain ⟨l1, l2, l3⟩ := hL i (by omega)
    have e : (nI (9 + 8 * W) + 2) + nI i = nI (11 + 8 * W + i) := by
      rw [show (2 : Int32) = nI 2 from rfl, pb_add, pb_add, show 9 + 8 * W + 2 + i = 11 + 8 * W + i by omega]
    have e2 : la i - 97 = nI (L i - 1) := by
      rw [l3, show (97 : Int32) = nI 97 from rfl, pb_sub (by omega), show L i + 96 - 97 = L i - 1 by omega]
    obtain ⟨fr', q1, q2, q3⟩ := ih f' (i + 1) (upd fr (11 + 8 * W + i) (nI (L i - 1))) (by omega) (by omega)
    refine ⟨fr', ?_, fun k h1 h2 => ?_, fun j h1 => ?_⟩
    · rw [f_X11_wordLine_120, if_neg (nI_ge (by omega) (by omega)), if_pos (pb_ibt (by omega) (by omega)), e, if_pos (pb_ibt (by omega) (by omega)), nI_clamp (by omega), nI_clamp (by omega), e2, nI_1]
      exact q1
    · by_cases ek : k = i
      · subst ek
        rw [q3 _ (by omega), upd_same]
      · exact q2 k (by omega) h2
    · rw [q3 j (by omega), upd_ne _ _ (by omega)]
section
variable {n : Nat} {x m : Nat → Int32} {a b k v : Nat} {L : Nat → Nat} {zX : tX} {zM : tM}
variable {W P G K C : Nat} {fr : Nat → Int32} {ear pairs begun wc pc ff ac gc kn : Int32} {wn ws pn : Nat → Int64} {prices kinds fw errands alikes hears g1 g2 g3 : Nat → Int32}
theorem word61_f (v1 at_ en to wm ns ft plc : Int32) (la : Nat → Int32) : f_X11_wordLine_61 (nI n) m v1 at_ en to wm ns ft plc 1 la fr = some (at_, en, to, wm, ns, ft, plc, 1, la, fr) := nr rfl
theorem wordL (hK : lookOk n x m) (h : tokZ n a b k v L zX zM) (hb : begun = 1) (hW : W < 10) (name sounds : Int64) (num fp plc : Int32) (rd : rdR W P G K C fr ear pairs begun wc pc ff ac gc kn wn ws pn prices kinds fw errands alikes hears g1 g2 g3) :
    ∃ yX yM, f_X5_readWord (nI P) (nI n) x pn (nI W) zX.1 zX.2.1 zX.2.2.1 zX.2.2.2.1 zX.2.2.2.2.1 zX.2.2.2.2.2 name sounds num 0 fp wn ws prices = some yX ∧ f_X11_wordLine (nI n) m zM.1 zM.2.1 zM.2.2.1 zM.2.2.2.1 zM.2.2.2.2.1 0 plc 0 zM.2.2.2.2.2 fr = some yM ∧
      (flR yX.1 yX.2.2.2.2.2.2.2.2.2.2.2.1 yX.2.2.2.2.2.2.2.2.2.2.2.2.1 yM.2.2.2.2.2.1 yM.2.2.2.2.2.2.1 yM.2.2.2.2.2.2.2.1 ∨ (yX.1 = 1 ∧ yX.2.2.2.2.2.2.2.2.2.2.2.1 = 0 ∧ yM.2.2.2.2.2.1 = 0 ∧ yM.2.2.2.2.2.2.2.1 = 0 ∧ tkC n a yX.2.2.1 yX.2.2.2.1 yX.2.2.2.2.1 yX.2.2.2.2.2.1 yX.2.2.2.2.2.2.1 yX.2.2.2.2.2.2.2.1 yM.1 yM.2.1 yM.2.2.1 yM.2.2.2.1 yM.2.2.2.2.1 yM.2.2.2.2.2.2.2.2.1 ∧
        rdR (W + 1) P G K C yM.2.2.2.2.2.2.2.2.2 ear pairs begun yX.2.1 pc ff ac gc kn yX.2.2.2.2.2.2.2.2.2.2.2.2.2.1 yX.2.2.2.2.2.2.2.2.2.2.2.2.2.2.1 pn yX.2.2.2.2.2.2.2.2.2.2.2.2.2.2.2 kinds fw errands alikes hears g1 g2 g3)) := by
  have hab := h.hab
  have w2 := rd.tale.hwc'
  have ix : (9 : Int32) + ((8 : Int32) * nI W) = nI (9 + 8 * W) := by rw [show (9 : Int32) = nI 9 from rfl, show (8 : Int32) = nI 8 from rfl, pb_mul, pb_add]
  have ib : (rf_ib (nI (9 + 8 * W)) 333 = true) = True := eq_true (pb_ibt (by omega) (by omega))
  have ic : (nI (9 + 8 * W)).toNatClampNeg = 9 + 8 * W := nI_clamp (by omega)
  have ix1 : nI (9 + 8 * W) + 1 = nI (10 + 8 * W) := by rw [nI_1, show 9 + 8 * W + 1 = 10 + 8 * W by omega]
  have ib1 : (rf_ib (nI (10 + 8 * W)) 333 = true) = True := eq_true (pb_ibt (by omega) (by omega))
  have ic1 : (nI (10 + 8 * W)).toNatClampNeg = 10 + 8 * W := nI_clamp (by omega)
  unfold f_X5_readWord f_X5_readWord_23 f_X5_readWord_44 f_X11_wordLine
  rw [cl2, w2, ix]
  rcases newName_s hK h rd.names (s := W) (by omega) name fp plc with ⟨f, f1, f7, e1, e2⟩ | ⟨v', L', uX, uM, fr1, v1, v2, ⟨a1, b1, k1, v3, L1, ha1, hu1⟩, hw, hp, e1, e2, n1, n2, n3⟩
  · rw [e1, e2]
    simp only [pb_bind, q10, q00, qz0, qz1, ite_true, ite_false, reduceIte, must_f, word61_f]
    exact ⟨_, _, rfl, rfl, Or.inl ⟨rfl, rfl, rfl, f, f1, f7, rfl, rfl⟩⟩
  · have hab1 := hu1.hab
    rw [e1, e2]
    simp only [pb_bind, q10, q00, qz0, qz1, ite_true, ite_false, reduceIte]
    rcases takes_s hK hu1 (j := 10) (j' := 34) (by decide) (by decide) rfl rfl fp plc with ⟨e3, e4⟩ | ⟨rX, rM, ⟨a2, b2, k2, v4, L2, ha2, hr⟩, e3, e4⟩
    · rw [e3, e4]
      simp only [pb_bind, q10, q00, qz0, qz1, ite_true, ite_false, reduceIte, word61_f]
      exact ⟨_, _, rfl, rfl, Or.inl ⟨rfl, rfl, rfl, 1, by omega, by omega, rfl, rfl⟩⟩
    · have hab2 := hr.hab
      rw [e3, e4]
      simp only [pb_bind, q10, q00, qz0, qz1, ite_true, ite_false, reduceIte]
      rcases sounds_s (x := x) hr sounds fp with ⟨s1, s2⟩ | ⟨s1, s3, s2⟩ | ⟨s1, s3, s4, s5, s2⟩
      · rw [s2, hr.hto, if_neg (tkF_ne (t := 0) hr.hk s1), hr.hat]
        simp only [pb_bind, q10, q00, qz0, qz1, ite_true, ite_false, reduceIte, wrong_0, word61_f]
        exact ⟨_, _, rfl, rfl, Or.inl ⟨rfl, rfl, rfl, 1, by omega, by omega, rfl, rfl⟩⟩
      · obtain ⟨y1, y2, y3, y4, y5, y6⟩ := hr.h1 s1
        rw [s2, hr.hto, if_pos (show nI (tkF k2) = 2 by rw [s1]; rfl), y4]
        unfold f_X11_wordLine_61 f_X11_wordLine_88 f_X11_wordLine_98
        rw [show f_X11_in (nI v4) 2 6 = _ from inN (l := 2) (u := 6) (by omega) (by decide) (by decide), areLetters_s y2 y6, hr.hat]
        by_cases h26 : 2 ≤ v4 ∧ v4 ≤ 6
        · have hA : allB (fun i => decide (L2 i ≤ 8)) v4 = false := (Bool.not_eq_true _).mp (fun z => s3 ⟨h26.1, h26.2, z⟩)
          rw [decide_eq_true h26, hA]
          simp only [pb_bind, q10, q00, qz0, qz1, ite_true, ite_false, reduceIte, nbf, nbt, wrong_0]
          exact ⟨_, _, rfl, rfl, Or.inl ⟨rfl, rfl, rfl, 7, by omega, by omega, rfl, rfl⟩⟩
        · rw [decide_eq_false h26]
          simp only [pb_bind, q10, q00, qz0, qz1, ite_true, ite_false, reduceIte, nbf, wrong_0]
          exact ⟨_, _, rfl, rfl, Or.inl ⟨rfl, rfl, rfl, 7, by omega, by omega, rfl, rfl⟩⟩
      · obtain ⟨y1, y2, y3, y4, y5, y6⟩ := hr.h1 s1
        obtain ⟨tX', tM', ⟨a3, b3, k3, v5, L3, ha3, ht⟩, t2, t3⟩ := look_z hK hr
        have hab3 := ht.hab
        have hl8 : ∀ j, j < v4 → L2 j ≤ 8 := fun j hj => of_decide_eq_true ((allB_iff _ _).mp s5 j hj)
        obtain ⟨fr2, g1', g2', g3'⟩ := word120 (n := n) (m := m) hW s4 y6 rM.1 rM.2.1 (nI (tkF k2)) rM.2.2.2.1 0 plc 0 v4 rf_fu 0 (upd fr1 (10 + 8 * W) (nI v4)) (by omega) (by show v4 < 4096; omega)
        have hMM : f_X11_wordLine_61 (nI n) m (nI (9 + 8 * W)) rM.1 rM.2.1 (nI (tkF k2)) rM.2.2.2.1 (nI v4) 0 plc 0 rM.2.2.2.2.2 fr1 = wEnd (nI n) m (nI (9 + 8 * W)) rM.1 rM.2.1 (nI (tkF k2)) rM.2.2.2.1 (nI v4) 0 plc 0 rM.2.2.2.2.2 fr2 := by
          unfold f_X11_wordLine_61 f_X11_wordLine_98
          rw [show f_X11_in (nI v4) 2 6 = _ from inN (l := 2) (u := 6) (by omega) (by decide) (by decide), areLetters_s y2 y6, decide_eq_true (show 2 ≤ v4 ∧ v4 ≤ 6 from ⟨s3, s4⟩), s5]
          simp only [pb_bind, q10, q00, qz0, qz1, ite_true, ite_false, reduceIte, nbt, ix1, ib1, ic1]
          exact g1'
        rw [s2, t2, hr.hto, if_pos (show nI (tkF k2) = 2 by rw [s1]; rfl), y4, hMM]
        unfold wEnd
        rw [← hr.hto, ← y4, t3]
        simp only [pb_bind, q10, q00, qz0, qz1, ite_true, ite_false, reduceIte, ib, ic, cl2]
        rcases after_s hK ht (j := 11) (j' := 35) (by decide) (by decide) rfl rfl (lo := 0) (hi := 99) (l := 0) (u := 99) rfl rfl (by omega) (by omega) num fp plc with ⟨e5, e6⟩ | ⟨pX, pM, e5, ⟨f, a', f1, f7, c5, c6⟩ | ⟨c, qX, qM, c1, c2, c3, c5, c6⟩⟩
        · rw [e5, e6]
          simp only [pb_bind, q10, q00, qz0, qz1, ite_true, ite_false, reduceIte]
          exact ⟨_, _, rfl, rfl, Or.inl ⟨rfl, rfl, rfl, 1, by omega, by omega, rfl, rfl⟩⟩
        · rw [e5, c6]
          simp only [pb_bind, q10, q00, qz0, qz1, ite_true, ite_false, reduceIte]
          rw [c5]
          simp only [pb_bind, q10, q00, qz0, qz1, ite_true, ite_false, reduceIte]
          exact ⟨_, _, rfl, rfl, Or.inl ⟨rfl, rfl, rfl, f, f1, f7, rfl, rfl⟩⟩
        · have hadd : f_X9_addWord (nI W) wn ws prices (Int64.ofNat (pkN L' v')) (Int64.ofNat (pkN L2 v4)) (nI c) = some (nI (W + 1), vp_updL wn W (Int64.ofNat (pkN L' v')), vp_updL ws W (Int64.ofNat (pkN L2 v4)), upd prices W (nI c)) := by
            unfold f_X9_addWord
            have hib := pb_ibt (i := W) (n := 10) (by omega) hW
            rw [if_neg (show ¬ (10 : Int32) ≤ nI W from nI_ge (b := 10) hW (by decide)), if_pos hib, if_pos hib, if_pos hib, nI_clamp (by omega), nI_1]
          rw [e5, c6]
          simp only [pb_bind, q10, q00, qz0, qz1, ite_true, ite_false, reduceIte]
          rw [c5]
          simp only [pb_bind, q10, q00, qz0, qz1, ite_true, ite_false, reduceIte]
          rw [hadd]
          simp only [pb_bind, q10, q00, qz0, qz1, ite_true, ite_false, reduceIte]
          refine ⟨_, _, rfl, rfl, Or.inr ⟨rfl, rfl, rfl, rfl, tkC_of c3 (by omega), ?_⟩⟩
          dsimp only
          refine rd_word rd hb hW v1 v2 ?_ (fun k hk => ?_) c2 ?_ ?_ s3 s4 (fun k hk => ⟨(y6 k hk).1, hl8 k hk, ?_⟩) hp ?_ (fun i i1 i2 i3 i4 => ?_)
          · rw [upd_ne _ _ (by omega), upd_ne _ _ (by omega), g3' _ (by omega), upd_ne _ _ (by omega)]; exact n1
          · rw [upd_ne _ _ (by omega), upd_ne _ _ (by omega), g3' _ (by omega), upd_ne _ _ (by omega)]; exact n2 k hk
          · rw [upd_ne _ _ (by omega), upd_same]
          · rw [upd_ne _ _ (by omega), upd_ne _ _ (by omega), g3' _ (by omega), upd_same]
          · rw [upd_ne _ _ (by omega), upd_ne _ _ (by omega), g2' k (by omega) hk]
          · rw [upd_same, upd_ne _ _ (by omega), g3' _ (by omega), upd_ne _ _ (by omega), n3 _ (by omega) (by omega), w2, nI_1]
          · rw [upd_ne _ _ i1, upd_ne _ _ (by omega), g3' _ (by omega), upd_ne _ _ (by omega), n3 _ i3 i4]
end
