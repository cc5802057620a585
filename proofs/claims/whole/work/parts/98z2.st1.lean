/-! the step of ferry -/
/-- both read a text alike -/
theorem readBoth {I : Nat → Int32} {J : Nat → Int64} {A : Nat → Nat → Int32} {B : Nat → Nat → Int64} {I' : Nat → Int32} {A' : Nat → Nat → Int32} {rt : Nat} {n : Nat} (hn : n ≤ 900) (hK : lookOk n (A 0) (A' 0)) :
    ∃ (zX : tR) (at' en' to' wm' ns' ft' plc' fd' : Int32) (la' fr' : Nat → Int32), f_X5_read (A 0) (I 28) (I 29) (I 30) (I 31) (I 32) (I 33) (I 34) rt (I 35) (I 36) (I 37) (I 38) (I 39) (I 40) (I 41) (J 0) (I 42) (J 1) (J 2) (I 43) (I 44) (I 45) (I 46) (B 3) (B 4) (A 23) (B 5) (A 24) (A 25) (A 26) (A 27) (A 28) (A 29) (A 30) (A 31) (nI n) = some zX ∧ f_X11_ferry_39 (A' 0) rf_fu (nI n) 0 0 0 (I' 2) (I' 3) (I' 4) (I' 5) (I' 6) (I' 7) 0 (I' 9) 0 0 (I' 12) (I' 13) (I' 14) (A' 1) (A' 2) (A' 3) (A' 4) = f_X11_ferry_171 (A' 0) 0 0 (nI n) at' en' to' wm' ns' ft' plc' 0 fd' (I' 12) (I' 13) (I' 14) la' (A' 2) fr' (A' 4) ∧ fnR zX ft' plc' fd' fr' := by
  obtain ⟨fr0, z0, z1⟩ := fer39 (m := A' 0) (v1 := nI n) (th := 0) (tp := 0) (sz := I' 2) (at_ := I' 3) (en := I' 4) (to := I' 5) (wm := I' 6) (ns := I' 7) (ft := 0) (plc := I' 9) (tr := 0) (fd := 0) (hf := I' 12) (un := I' 13) (im := I' 14) (la := A' 1) (r := A' 2) (st := A' 4) 333 rf_fu 0 (A' 3) (by omega) (by decide) (fun k hk => by omega)
  obtain ⟨yX, yM, a, b, k, v, L, q1, q2, q3, hy⟩ := hK 0 (by omega) (I 39) (I 40) (I 41) (J 0) (I 42) (I' 3) (I' 5) (I' 6) (I' 7) (A' 1)
  have rd0 := rd_init z0 (al := rf_fill 32 0 (A 27)) (he := rf_fill 24 0 (A 28)) (fun a ha => by unfold rf_fill; rw [if_pos ha]) (fun i hi => by unfold rf_fill; rw [if_pos hi]) (B 3) (B 4) (B 5) (A 23) (A 24) (A 25) (A 26) (A 29) (A 30) (A 31)
  obtain ⟨uX, uM, u1, u2, u3⟩ := readLine_s hK (zX := yX) (zM := yM) hy (J 1) (J 2) (I 43) (I 44) 0 (I' 9) rd0
  obtain ⟨ret', ear', pairs', wc', pc', ff', ac', gc', nx', begun', kn', so', pl', le', lt', wh', name', sounds', num', found', ft', fp', wn', ws', prices', pn', kinds', fw', errands', alikes', hears', g1', g2', g3'⟩ := uX
  obtain ⟨at2, en2, to2, wm2, ns2, ft2, pl2, fd2, la2, fr2⟩ := uM
  obtain ⟨zX, r1, r2, r3, r4, r5, r6, r7, r8, r9, r10, y1, y2, y3⟩ := loop_s hn hK 0 0 0 (I' 12) (I' 13) (I' 14) (A' 2) (A' 4) (n + 1) rf_fu rf_fu 0 _ _ _ _ _ _ _ _ _ _ _ _ _ _ _ _ _ _ _ _ _ _ _ _ _ _ _ _ _ _ _ _ _ _ _ _ _ _ _ _ _ _ _ _ (by omega) (by show n + 1 < 4096; omega) (by show n + 1 < 4096; omega) (u3.mono (by omega))
  refine ⟨zX, r1, r2, r3, r4, r5, r6, r7, r8, r9, r10, ?_, ?_, y3⟩
  · unfold f_X5_read f_X9_forget
    rw [pb_bind, if_neg (show ¬ (900 : Int32) < nI n from nI_nlt (a := 900) hn (by decide)), show f_X5_look (nI n) (A 0) 0 (I 39) (I 40) (I 41) (J 0) (I 42) = some yX from q1, pb_bind, show f_X5_readLine (nI n) (A 0) 0 0 0 0 0 0 0 yX.1 0 0 yX.2.1 yX.2.2.1 yX.2.2.2.1 yX.2.2.2.2.1 yX.2.2.2.2.2 (J 1) (J 2) (I 43) (I 44) 0 0 (B 3) (B 4) (A 23) (B 5) (A 24) (A 25) (A 26) (rf_fill 32 0 (A 27)) (rf_fill 24 0 (A 28)) (A 29) (A 30) (A 31) = some _ from u1, pb_bind]
    exact y1
  · refine (show _ = _ from z1).trans ?_
    rw [show f_X11_next (nI n) (A' 0) (I' 3) 0 (I' 5) (I' 6) (I' 7) (A' 1) = some yM from q2, pb_bind, u2, pb_bind]
    exact y2
theorem rf_st1 {j : Nat} : rf_step_1 (rf_Inv j) (rf_Inv (j + 1)) := by
  rintro I J A B I' A' rt v1 ⟨W, P, G, na, ni, h⟩
  obtain ⟨t1, t2, t3, t4⟩ := h.tape
  have tp0 : pTape 0 (A 0) 0 (A' 0) := ⟨rfl, by decide, by decide, t4⟩
  by_cases hv : 0 ≤ v1 ∧ v1 ≤ I 0
  · obtain ⟨n, hn, rfl⟩ := pb_ofle (n := 900) (by decide) hv.1 (Int32.le_trans hv.2 t3)
    have hK := look_s hn (tpR_of h.tape)
    obtain ⟨zX, r1, r2, r3, r4, r5, r6, r7, r8, r9, r10, y1, y2, y3⟩ := readBoth (I := I) (J := J) (A := A) (B := B) (I' := I') (A' := A') (rt := rt) hn hK
    have hX : f_X10_ferry (A 0) (I 0) (I 1) (I 2) (I 3) (I 4) (I 5) (I 6) (I 7) (I 16) (I 17) (I 19) (I 20) (I 28) (I 29) (I 30) (I 31) (I 32) (I 33) (I 34) rt (I 35) (I 36) (I 37) (I 38) (I 39) (I 40) (I 41) (J 0) (I 42) (J 1) (J 2) (I 43) (I 44) (I 45) (I 46) (A 1) (A 2) (B 3) (B 4) (A 23) (B 5) (A 24) (A 25) (A 26) (A 27) (A 28) (A 29) (A 30) (A 31) (A 32) (nI n) = f_X10_ferry_19 (A 0) (nI n) 1 1 (I 0) (I 1) (I 2) (I 3) (I 4) (I 5) (I 6) (I 7) (I 16) (I 17) (I 19) (I 20) (I 28) (I 29) (I 30) (I 31) (I 32) (I 33) (I 34) rt (I 35) (I 36) (I 37) (I 38) (I 39) (I 40) (I 41) (J 0) (I 42) (J 1) (J 2) (I 43) (I 44) (I 45) (I 46) (A 1) (A 2) (B 3) (B 4) (A 23) (B 5) (A 24) (A 25) (A 26) (A 27) (A 28) (A 29) (A 30) (A 31) (A 32) := by
      unfold f_X10_ferry
      rw [if_neg (Int32.not_lt.mpr hv.1), if_neg (Int32.not_lt.mpr hv.2)]
    have hM : f_X11_ferry (A' 0) (I' 0) (I' 1) (I' 2) (I' 3) (I' 4) (I' 5) (I' 6) (I' 7) (I' 8) (I' 9) (I' 10) (I' 11) (I' 12) (I' 13) (I' 14) (A' 1) (A' 2) (A' 3) (A' 4) (nI n) = f_X11_ferry_171 (A' 0) 0 0 (nI n) r1 r2 r3 r4 r5 r6 r7 0 r8 (I' 12) (I' 13) (I' 14) r9 (A' 2) r10 (A' 4) := by
      unfold f_X11_ferry
      rw [show f_X11_good (I' 0) (I' 10) = some (0, 0) from rfl, pb_bind, in_s, if_pos (by rw [t1]; exact hv), pb_bind, if_neg (show ¬ (1 : Int32) = 0 by decide)]
      exact y2
    rw [hX, hM]
    unfold f_X10_ferry_19 f_X11_ferry_171
    rw [show f_X10_refused (I 3) 1 1 = some (bI (!(true && true)), whyN true true) from refused_s (I 3) true true, pb_bind, if_pos (show bI (!(true && true)) = 0 from rfl), y1, pb_bind]
    rcases y3 with ⟨e11, ⟨d1, d2, f, f1, f7, d3, d4⟩ | ⟨d1, d2, d3, W2, P2, G2, K2, C2, hP2, rd2⟩⟩
    · rw [if_neg (show ¬ zX.2.2.2.2.2.2.2.2.2.2.2.2.2.2.2.2.2.2.2.2.2.1 = 0 from fun z => by rw [d3] at z; have := (nI_eq (a := f) (b := 0) (by omega) (by decide)).mp z; omega), if_neg (show ¬ r8 = 0 by rw [d1]; decide), show f_X10_refuse (whyN true true) 4 = some (-1, 4) from rfl, pb_bind, show f_X11_no 0 4 = some (-1, 4) from rfl, pb_bind]
      exact ⟨_, _, rfl, rfl, rfl, Or.inl ⟨rfl, rfl, rfl, h.quietB ⟨d3.trans d4.symm, rfl, fun _ => d2⟩ tp0 rfl rfl rfl rfl rfl⟩⟩
    · have hP8 := rd2.tale.P8
      have hW10 := rd2.tale.W10
      have hr' : ∀ i, i < 333 → va_cpy r10 (A' 2) (Int32.toNatClampNeg 0) (Int32.toNatClampNeg 0) (Int32.toNatClampNeg 333) i = r10 i := by
        intro i hi
        rw [cl0, show Int32.toNatClampNeg 333 = 333 from rfl]
        unfold va_cpy
        rw [if_pos (by omega), show 0 + (i - 0) = i by omega]
      have t' := rd2.tale.cg hr'
      obtain ⟨close', c1, c2⟩ := compare_s t'.W10 t'.words t'.al (A 32)
      obtain ⟨st', s1, s2, s3⟩ := fer202 (m := A' 0) (th := 0) (tp := 0) (sz := nI n) (at_ := r1) (en := r2) (to := r3) (wm := r4) (ns := r5) (ft := r6) (plc := r7) (tr := 0) (fd := r8) (hfe := I' 12) (un := I' 13) (im := I' 14) (la := r9) (r := va_cpy r10 (A' 2) (Int32.toNatClampNeg 0) (Int32.toNatClampNeg 0) (Int32.toNatClampNeg 333)) (fr := r10) hP8 t'.hpc' 26 rf_fu 0 (A' 4) (by omega) (by decide) (fun k hk => by omega)
      have hcw : f_X9_compareWords zX.2.2.1 zX.2.2.2.2.2.2.2.2.2.2.2.2.2.2.2.2.2.2.2.2.2.2.2.1 zX.2.2.2.2.2.2.2.2.2.2.2.2.2.2.2.2.2.2.2.2.2.2.2.2.1 zX.2.2.2.2.2.2.2.2.2.2.2.2.2.2.2.2.2.2.2.2.2.2.2.2.2.2.2.2.2.2.1 (A 32) = some close' := by rw [rd2.tale.hwc]; exact c1
      rw [if_pos d2, if_pos d1, hcw, pb_bind, if_pos (show rf_cok 0 0 333 333 333 = true by decide), show f_X11_ferry_202 (A' 0) rf_fu 0 0 0 (nI n) r1 r2 r3 r4 r5 r6 r7 0 r8 (I' 12) (I' 13) (I' 14) r9 (va_cpy r10 (A' 2) (Int32.toNatClampNeg 0) (Int32.toNatClampNeg 0) (Int32.toNatClampNeg 333)) r10 (A' 4) = _ from s1]
      unfold f_X2_begin
      rw [if_pos (show rf_cok 0 0 8 8 8 = true by decide), pb_bind, show f_X8_clear_acts (I 16) (I 17) = some (0, 0) from rfl, pb_bind, show f_X8_clear_images (I 19) (I 20) = some (0, 0) from rfl, pb_bind]
      have pf0 : pFault zX.2.2.2.2.2.2.2.2.2.2.2.2.2.2.2.2.2.2.2.2.2.1 zX.2.2.2.2.2.2.2.2.2.2.2.2.2.2.2.2.2.2.2.2.2.2.1 0 r6 r7 0 := ⟨d2.trans d3.symm, rfl, fun z => absurd z (by decide)⟩
      refine ⟨_, _, rfl, rfl, rd2.tale.hpc, Or.inr ⟨rfl, rfl, rfl, e11, W2, P2, G2, 0, 0, ⟨tp0, pf0, t', c2, ?_, fun z => by omega, fun p => ?_, ⟨?_, ⟨0, by omega, rfl⟩, ?_, fun p hp => ?_, rd2.far0, fun p hp => ?_, fun p hp w hw => ?_, fun p hp => ?_, fun p hp => ?_, fun p hp => ⟨0, by omega, ?_⟩⟩, h.aroom, ⟨by omega, rfl, rfl, 0, by omega, rfl, fun i hi => by omega⟩, h.iroom, ⟨by omega, rfl, rfl, 0, by omega, rfl, fun i hi => by omega⟩, rfl⟩⟩⟩
      · rw [if_pos hP2]; rfl
      · show bt (((1 : Int32) <<< (zX.2.2.2.1 &&& 31)) - 1) p = decide (p < P2)
        rw [rd2.tale.hpc]
        exact ones_bt (by omega) p
      · exact (s3 24 (by omega) (by omega)).symm
      · exact (s3 25 (by omega) (by omega)).symm
      · show st' p = if bt zX.2.2.2.2.1 p = true then 1 else 0
        rw [(s2 p hp).1, hr' _ (by omega)]
        exact rd2.far p hp
      · show va_cpy zX.2.2.2.2.2.2.2.2.2.2.2.2.2.2.2.2.2.2.2.2.2.2.2.2.2.2.2.2.1 (A 1) (Int32.toNatClampNeg 0) (Int32.toNatClampNeg 0) (Int32.toNatClampNeg 8) p = st' (8 + p)
        rw [(s2 p hp).2, hr' _ (by omega), ← rd2.fws p hp, cl0, cl8]
        unfold va_cpy
        rw [if_pos (by omega), show 0 + (p - 0) = p by omega]
      · show bt (va_cpy zX.2.2.2.2.2.2.2.2.2.2.2.2.2.2.2.2.2.2.2.2.2.2.2.2.2.2.2.2.1 (A 1) (Int32.toNatClampNeg 0) (Int32.toNatClampNeg 0) (Int32.toNatClampNeg 8) p) w = false
        have e : va_cpy zX.2.2.2.2.2.2.2.2.2.2.2.2.2.2.2.2.2.2.2.2.2.2.2.2.2.2.2.2.1 (A 1) (Int32.toNatClampNeg 0) (Int32.toNatClampNeg 0) (Int32.toNatClampNeg 8) p = zX.2.2.2.2.2.2.2.2.2.2.2.2.2.2.2.2.2.2.2.2.2.2.2.2.2.2.2.2.1 p := by
          rw [cl0, cl8]
          unfold va_cpy
          rw [if_pos (by omega), show 0 + (p - 0) = p by omega]
        rw [e]
        exact rd2.fws0 p hp w hw
      · obtain ⟨w, w1, w2⟩ := rd2.fws1 p hp
        refine ⟨w, w1, ?_⟩
        show bt (va_cpy zX.2.2.2.2.2.2.2.2.2.2.2.2.2.2.2.2.2.2.2.2.2.2.2.2.2.2.2.2.1 (A 1) (Int32.toNatClampNeg 0) (Int32.toNatClampNeg 0) (Int32.toNatClampNeg 8) p) w = true
        have e : va_cpy zX.2.2.2.2.2.2.2.2.2.2.2.2.2.2.2.2.2.2.2.2.2.2.2.2.2.2.2.2.1 (A 1) (Int32.toNatClampNeg 0) (Int32.toNatClampNeg 0) (Int32.toNatClampNeg 8) p = zX.2.2.2.2.2.2.2.2.2.2.2.2.2.2.2.2.2.2.2.2.2.2.2.2.2.2.2.2.1 p := by
          rw [cl0, cl8]
          unfold va_cpy
          rw [if_pos (by omega), show 0 + (p - 0) = p by omega]
        rw [e]
        exact w2
      · show rf_fill 8 0 (A 2) p = st' (16 + p)
        rw [s3 (16 + p) (by omega) (by omega)]
        unfold rf_fill
        rw [if_pos (by omega)]
      · show rf_fill 8 0 (A 2) p = nI 0
        unfold rf_fill
        rw [if_pos (by omega)]; rfl
  · have hX : ∀ {α : Type} {a b : α}, (if v1 < 0 then a else if I 0 < v1 then a else b) = a := by
      intro α a b
      by_cases h1 : v1 < 0
      · rw [if_pos h1]
      · rw [if_neg h1]
        by_cases h2 : I 0 < v1
        · rw [if_pos h2]
        · exact absurd ⟨Int32.not_lt.mp h1, Int32.not_lt.mp h2⟩ hv
    unfold f_X10_ferry
    rw [hX]
    unfold f_X10_ferry_18 f_X10_ferry_19 f_X11_ferry
    rw [show f_X10_refused (I 3) 1 0 = some (bI (!(true && false)), whyN true false) from refused_s (I 3) true false, pb_bind, if_neg (show ¬ bI (!(true && false)) = 0 by decide), show f_X11_good (I' 0) (I' 10) = some (0, 0) from rfl, pb_bind, in_s, if_neg (by rw [t1]; exact hv), pb_bind, if_pos (show (0 : Int32) = 0 from rfl), show f_X11_no 0 2 = some (-1, 2) from rfl, pb_bind]
    exact ⟨_, _, rfl, rfl, rfl, Or.inl ⟨rfl, rfl, rfl, h.quietB (h.fault.tell (u := 2) (by decide)) h.tape rfl rfl rfl rfl rfl⟩⟩
