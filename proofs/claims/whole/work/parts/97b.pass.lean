theorem crossM_none {P : Nat} (hP : P ≤ 8) {r st b : Nat → Int32} (hr3 : r 3 = nI P) (hb : ∀ k, k < P → b k = -2) (v2 v3 v4 v5 v6 bm : Int32) (can now hM : Nat → Int32)
    (K : Int32 → Int32 → Int32 → Int32 → Int32 → Int32 → (Nat → Int32) → (Nat → Int32) → (Nat → Int32) → (Nat → Int32) → Option (Int32 × Int32 × (Nat → Int32) × (Nat → Int32) × (Nat → Int32) × (Nat → Int32))) : ∀ d n i : Nat, i + d = P → d < n → f_X11_goThrough_108 K r st n v2 v3 v4 v5 v6 0 (nI i) bm can now b hM = K v2 v3 v4 v5 (v6 + 1) bm can now b hM := by
  intro d
  induction d with
  | zero =>
    intro n i hi hn
    obtain ⟨n', rfl, hn'⟩ := fuel_succ hn
    rw [f_X11_goThrough_108, show Int32.toNatClampNeg 3 = 3 from rfl, hr3, if_pos (by simp (disch := omega) only [pb_lits, pb_ltT, pb_ltF, pb_leT, pb_leF, pb_eqT, pb_eqF, pb_lt, pb_le, pb_eq, pb_add, pb_mul, pb_sub, pb_cl, pb_ibt, pb_eqm, pb_meq, pb_ltm, pb_mlt, pb_lem, pb_mle, ite_true, ite_false, reduceIte, not_true_eq_false, not_false_eq_true, pb_bind, Nat.zero_add, Nat.add_zero]), f_X11_goThrough_202, show (2 : Int32) * 0 = 0 by decide, Int32.add_zero]
  | succ d ih =>
    intro n i hi hn
    obtain ⟨n', rfl, hn'⟩ := fuel_succ hn
    rw [f_X11_goThrough_108, show Int32.toNatClampNeg 3 = 3 from rfl, hr3, if_neg (show ¬ nI P ≤ nI i by simp (disch := omega) only [pb_lits, pb_ltT, pb_ltF, pb_leT, pb_leF, pb_eqT, pb_eqF, pb_lt, pb_le, pb_eq, pb_add, pb_mul, pb_sub, pb_cl, pb_ibt, pb_eqm, pb_meq, pb_ltm, pb_mlt, pb_lem, pb_mle, ite_true, ite_false, reduceIte, not_true_eq_false, not_false_eq_true, pb_bind, Nat.zero_add, Nat.add_zero]), if_pos (pb_ibt (by omega) (by omega)), nI_clamp (by omega), hb i (by omega), if_neg (show ¬ nI i ≤ (-2 : Int32) by simp (disch := omega) only [pb_lits, pb_ltT, pb_ltF, pb_leT, pb_leF, pb_eqT, pb_eqF, pb_lt, pb_le, pb_eq, pb_add, pb_mul, pb_sub, pb_cl, pb_ibt, pb_eqm, pb_meq, pb_ltm, pb_mlt, pb_lem, pb_mle, ite_true, ite_false, reduceIte, not_true_eq_false, not_false_eq_true, pb_bind, Nat.zero_add, Nat.add_zero])]
    simp only [f_X11_goThrough_202, f_X11_goThrough_196]
    rw [nI_1, ih n' (i + 1) (by omega) (by omega), show (2 : Int32) * 0 = 0 by decide, Int32.add_zero, ite_self]
theorem cD_two {s : Nat → Bool} {p q n : Nat} (hp : p < n) (hq : q < n) (hpq : p ≠ q) (h1 : s p = true) (h2 : s q = true) : 2 ≤ cD s n := by
  have : cD s n = cD (fun k => (s k && !decide (k = p) && !decide (k = q)) || (decide (k = p) || decide (k = q))) n := cD_congr n (fun k _ => by
    by_cases e1 : k = p
    · subst e1; rw [h1]; simp
    · by_cases e2 : k = q
      · subst e2; rw [h2]; simp
      · rw [decide_eq_false e1, decide_eq_false e2]; simp)
  rw [this, cD_union n (fun k _ ⟨x1, x2⟩ => by
    rw [Bool.or_eq_true] at x2
    rcases x2 with x2 | x2
    · rw [x2] at x1; simp at x1
    · rw [x2] at x1; simp at x1), cD_union n (fun k _ ⟨x1, x2⟩ => hpq (by rw [← of_decide_eq_true x1, ← of_decide_eq_true x2])), cD_one n hp, cD_one n hq]
  omega
theorem Vld_congr {a b : Nat → Int32} {T : Nat → Bool} (h : ∀ k, k < 8 → a k = b k) (hb : Vld b T) : Vld a T := fun k hk => by
  rcases hb k hk with h1 | ⟨q, c1, c2, c3, c4, c5, c6⟩
  · exact Or.inl (by rw [h k hk, h1])
  · exact Or.inr ⟨q, c1, c2, c3, c4, by rw [h k hk, c5], by rw [h q c1, c6]⟩
/-- the draw, and the ear that it gives -/
def drw (s : Nat) : Nat := (75 * s + 74) % 65537
theorem drw_s {s : Nat} (hs : s < 65537) : (75 : Int32) * nI s + 74 - (75 * nI s + 74) / 65537 * 65537 = nI (drw s) := by
  rw [show (75 : Int32) * nI s + 74 = nI (75 * s + 74) by rw [show (75 : Int32) * nI s = nI (75 * s) from pb_mul 75 s]; exact nI_add _ 74]
  exact pb_rem (b := 65537) (by omega) (by decide) (by decide)
def earD (e s : Nat) : Nat := if 1 < e + drw s % 3 - 1 then e + drw s % 3 - 1 else 1
theorem earD_x {e s : Nat} (he1 : 1 ≤ e) (he : e ≤ 6) : nI e + (nI (drw s) - nI (drw s) / 3 * 3) - 1 = nI (e + drw s % 3 - 1) := by
  have h1 : drw s < 65537 := Nat.mod_lt _ (by decide)
  rw [show nI (drw s) - nI (drw s) / 3 * 3 = nI (drw s % 3) from pb_rem (b := 3) (by omega) (by decide) (by decide), nI_add]
  exact pb_sub (b := 1) (by omega)
theorem earD_lo {e s : Nat} (he : e ≤ 6) : 1 ≤ earD e s ∧ earD e s ≤ 7 := by
  have h1 : drw s % 3 < 3 := Nat.mod_lt _ (by decide)
  unfold earD
  split <;> omega
theorem drw_lt (s : Nat) : drw s < 65537 := Nat.mod_lt _ (by decide)
abbrev pDy (W P : Nat) (r st close words kinds : Nat → Int32) (ear : Int32) (he : Nat → Int32) (hour : Nat) (m : Nat) : Prop :=
  (pCx W P r st close words kinds) ∧
  (pEar r ear he) ∧
  (hour < 24) ∧
  (st 24 = nI hour) ∧
  (m < 100) ∧
  (r 1 = nI m)
theorem pDy.cx {W P : Nat} {r st close words kinds : Nat → Int32} {ear : Int32} {he : Nat → Int32} {hour : Nat} {m : Nat} (h : pDy W P r st close words kinds ear he hour m) : pCx W P r st close words kinds := h.1
theorem pDy.er {W P : Nat} {r st close words kinds : Nat → Int32} {ear : Int32} {he : Nat → Int32} {hour : Nat} {m : Nat} (h : pDy W P r st close words kinds ear he hour m) : pEar r ear he := h.2.1
theorem pDy.hr {W P : Nat} {r st close words kinds : Nat → Int32} {ear : Int32} {he : Nat → Int32} {hour : Nat} {m : Nat} (h : pDy W P r st close words kinds ear he hour m) : hour < 24 := h.2.2.1
theorem pDy.st24 {W P : Nat} {r st close words kinds : Nat → Int32} {ear : Int32} {he : Nat → Int32} {hour : Nat} {m : Nat} (h : pDy W P r st close words kinds ear he hour m) : st 24 = nI hour := h.2.2.2.1
theorem pDy.m1 {W P : Nat} {r st close words kinds : Nat → Int32} {ear : Int32} {he : Nat → Int32} {hour : Nat} {m : Nat} (h : pDy W P r st close words kinds ear he hour m) : m < 100 := h.2.2.2.2.1
theorem pDy.r1 {W P : Nat} {r st close words kinds : Nat → Int32} {ear : Int32} {he : Nat → Int32} {hour : Nat} {m : Nat} (h : pDy W P r st close words kinds ear he hour m) : r 1 = nI m := h.2.2.2.2.2
/-- an hour of the reference, till those who cross are sent -/
theorem hourM {W P : Nat} {r st close words kinds he : Nat → Int32} {ear : Int32} {hour m : Nat} (h : pDy W P r st close words kinds ear he hour m) {N i s : Nat} (hi : i < N) (hN : N ≤ 24) (hs : s < 65537) {left : Int32} (hl : ∀ k, bt left k = true → k < P) (v5 bm : Int32) (can now best hM : Nat → Int32) (n : Nat) :
    ∃ bm' can' now' best' now0, f_X11_goThrough_40 r st (n + 1) (nI N) (nI s) left v5 (nI i) bm can now best hM = f_X11_goThrough_108 (f_X11_goThrough_40 r st n) r st rf_fu (nI N) (nI (drw s)) left v5 (nI i) 0 0 bm' can' now' best' hM ∧ (∀ k, k < 8 → now0 k = -2) ∧ ∀ k, k < 8 → best' k = fbA (lkE W P r words kinds (earD (earE ear he ((hour + i) % 24)) s)) P 0 (bt left) now0 k := by
  have hh := h.hr
  have hmod : (hour + i) % 24 < 24 := Nat.mod_lt _ (by decide)
  have e1 := h.er.lo _ hmod
  have e2 := h.er.hi _ hmod
  have e3 := earD_lo (e := earE ear he ((hour + i) % 24)) (s := s) e2
  obtain ⟨can', now', best', now0, x1, x2, x3⟩ := seekPairs_s h.cx e3.1 e3.2 hl bm can now best
  have h3 : drw s % 3 < 3 := Nat.mod_lt _ (by decide)
  have hif : ∀ F : Int32 → Option (Int32 × Int32 × (Nat → Int32) × (Nat → Int32) × (Nat → Int32) × (Nat → Int32)), (if 1 ≤ nI (earE ear he ((hour + i) % 24) + drw s % 3 - 1) then F (nI (earE ear he ((hour + i) % 24) + drw s % 3 - 1)) else F 1) = F (nI (earD (earE ear he ((hour + i) % 24)) s)) := by
    intro F
    unfold earD
    by_cases hx : 1 ≤ earE ear he ((hour + i) % 24) + drw s % 3 - 1
    · rw [if_pos (show (1 : Int32) ≤ nI _ from nI_le hx (by omega))]
      congr 2
      split <;> omega
    · rw [if_neg (show ¬ (1 : Int32) ≤ nI _ by rw [show earE ear he ((hour + i) % 24) + drw s % 3 - 1 = 0 by omega]; decide), if_neg (by omega)]
      rfl
  refine ⟨nI (mmx (lkE W P r words kinds (earD (earE ear he ((hour + i) % 24)) s)) P 0 (bt left)), can', now', best', now0, ?_, x2, x3⟩
  rw [f_X11_goThrough_40, if_neg (nI_ge hi (by omega)), show Int32.toNatClampNeg 24 = 24 from rfl, h.st24, nI_add, show nI (hour + i) - nI (hour + i) / 24 * 24 = nI ((hour + i) % 24) from pb_rem (b := 24) (by omega) (by decide) (by decide), h.er.M _ hmod, pb_bind, drw_s hs, earD_x e1 e2]
  simp only [f_X11_goThrough_98]
  rw [hif (fun e => (f_X11_seekPairs r st bm can now best left e).bind fun z98 => f_X11_goThrough_108 (f_X11_goThrough_40 r st n) r st rf_fu (nI N) (nI (drw s)) left v5 (nI i) 0 0 z98.2.1 z98.2.2.1 z98.2.2.2.1 z98.2.2.2.2 hM), x1, pb_bind]
theorem quietM {W P : Nat} {r st close words kinds he : Nat → Int32} {ear : Int32} {hour m : Nat} (h : pDy W P r st close words kinds ear he hour m) {N : Nat} (hN : N ≤ 24) {left : Int32} (hl : ∀ k, bt left k = true → k < P) (hone : cD (bt left) 8 ≤ 1) (v5 : Int32) (hM : Nat → Int32) : ∀ d n i s : Nat, ∀ bm : Int32, ∀ can now best : Nat → Int32, i + d = N → d < n → s < 65537 →
    ∃ bm' can' now' best', f_X11_goThrough_40 r st n (nI N) (nI s) left v5 (nI i) bm can now best hM = some (v5, bm', can', now', best', hM) := by
  have hP := h.cx.P8
  intro d
  induction d with
  | zero =>
    intro n i s bm can now best hi hn hs
    obtain ⟨n', rfl, hn'⟩ := fuel_succ hn
    rw [f_X11_goThrough_40, if_pos (nI_le (by omega) (by omega))]
    exact ⟨_, _, _, _, rfl⟩
  | succ d ih =>
    intro n i s bm can now best hi hn hs
    obtain ⟨n', rfl, hn'⟩ := fuel_succ hn
    obtain ⟨bm', can', now', best', now0, x1, x2, x3⟩ := hourM h (i := i) (by omega) hN hs hl v5 bm can now best hM n'
    have hv : Vld best' (bt left) := Vld_congr x3 (Vld_fbA P 0 (bt left) now0 (by omega) (fun k hk => Or.inl (x2 k hk)) (fun k _ hk hb => ⟨hb, x2 k hk⟩))
    rw [x1, show (0 : Int32) = nI 0 from rfl]
    rw [show f_X11_goThrough_108 (f_X11_goThrough_40 r st n') r st rf_fu (nI N) (nI (drw s)) left v5 (nI i) (nI 0) (nI 0) bm' can' now' best' hM = _ from crossM_none hP h.cx.rP (fun k hk => by
      rcases hv k (by omega) with h1 | ⟨q, c1, c2, c3, c4, c5, c6⟩
      · exact h1
      · have := cD_two (s := bt left) (p := k) (q := q) (n := 8) (by omega) c1 (Ne.symm c2) c3 c4
        omega) (nI N) (nI (drw s)) left v5 (nI i) bm' can' now' hM (f_X11_goThrough_40 r st n') P rf_fu 0 (by omega) (by show P < 4096; omega), nI_1]
    exact ih n' (i + 1) (drw s) bm' can' now' best' (by omega) (by omega) (drw_lt s)
theorem pass_l {W P : Nat} {r st close words kinds he : Nat → Int32} {ear : Int32} {hour m : Nat} (h : pDy W P r st close words kinds ear he hour m) {N : Nat} (hN : N ≤ 24) {N0 : Int32} (hN0 : ∀ k, bt N0 k = true → k < P) (ev far : Int32) : ∀ d n n' i s many : Nat, ∀ left bm : Int32, ∀ can now best hM L pa bx hX : Nat → Int32, i + d = N → d < n → d < n' → s < 65537 → (∀ k, bt left k = true → bt N0 k = true) → cD (fun k => bt N0 k && !bt left k) 8 = many → (∀ k, k < 8 → hX k = hM k) →
    ∃ v L' pa' bx' hX' bm' can' now' best' hM', f_X0_pass_30 (nI hour) ev far ear (nI m) (nI W) (nI P) words kinds he close n (nI N) N0 left (nI s) (nI i) L pa bx hX = some (v, L', pa', bx', hX') ∧ f_X11_goThrough_40 r st n' (nI N) (nI s) left (nI many) (nI i) bm can now best hM = some (v, bm', can', now', best', hM') ∧ ∀ k, k < 8 → hX' k = hM' k := by
  have hP := h.cx.P8
  have hh := h.hr
  have hend : ∀ (left : Int32) (many : Nat), (∀ k, bt left k = true → bt N0 k = true) → cD (fun k => bt N0 k && !bt left k) 8 = many → rf_bc (N0 &&& (left ^^^ (-1))) = nI many := by
    intro left many h1 h2
    rw [bc8 (fun k hk => by
      rw [bt_and, Bool.and_eq_true] at hk
      have := hN0 k hk.1
      omega), ← h2]
    congr 1
    exact cD_congr 8 (fun k hk => by rw [bt_and, bt_com _ (by omega)])
  intro d
  induction d with
  | zero =>
    intro n n' i s many left bm can now best hM L pa bx hX hi hn hn' hs hsub hcnt hh
    obtain ⟨n0, rfl, hn0⟩ := fuel_succ hn
    obtain ⟨n1, rfl, hn1⟩ := fuel_succ hn'
    rw [f_X0_pass_30, f_X11_goThrough_40, if_pos (nI_le (by omega) (by omega)), if_pos (nI_le (by omega) (by omega)), f_X0_pass_143, f_J6_bitCount_0f7a4, pb_bind, hend left many hsub hcnt]
    exact ⟨_, _, _, _, _, _, _, _, _, _, rfl, rfl, hh⟩
  | succ d ih =>
    intro n n' i s many left bm can now best hM L pa bx hX hi hn hn' hs hsub hcnt hh
    obtain ⟨n0, rfl, hn0⟩ := fuel_succ hn
    have hlP : ∀ k, bt left k = true → k < P := fun k hk => hN0 k (hsub k hk)
    have hl8 : ∀ k, bt left k = true → k < 8 := fun k hk => by have := hlP k hk; omega
    have hc8 := cD_le (bt left) 8
    rw [f_X0_pass_30, if_neg (nI_ge (by omega) (by omega)), f_J6_bitCount_0f7a4, pb_bind, bc8 hl8]
    by_cases hone : cD (bt left) 8 ≤ 1
    · obtain ⟨bm', can', now', best', x1⟩ := quietM h hN hlP hone (nI many) hM (d + 1) n' i s bm can now best (by omega) hn' hs
      rw [if_pos (show nI (cD (bt left) 8) ≤ 1 from nI_le (b := 1) hone (by decide)), f_X0_pass_143, f_J6_bitCount_0f7a4, pb_bind, hend left many hsub hcnt, x1]
      exact ⟨_, _, _, _, _, _, _, _, _, _, rfl, rfl, hh⟩
    · obtain ⟨n1, rfl, hn1⟩ := fuel_succ hn'
      have hmod : (hour + i) % 24 < 24 := Nat.mod_lt _ (by decide)
      have e1 := h.er.lo _ hmod
      have e2 := h.er.hi _ hmod
      have e3 := earD_lo (e := earE ear he ((hour + i) % 24)) (s := s) e2
      have h3 : drw s % 3 < 3 := Nat.mod_lt _ (by decide)
      obtain ⟨bm', can', now', best', now0, x1, x2, x3⟩ := hourM h (i := i) (by omega) hN hs hlP (nI many) bm can now best hM n1
      obtain ⟨L', l1, l2⟩ := link_s h.cx e3.1 e3.2 L
      obtain ⟨pa', bx', y1, y2⟩ := pairFirst_s (lk := lkE W P r words kinds (earD (earE ear he ((hour + i) % 24)) s)) (links := L') (T := bt left) (fun p _ hp q => l2 p (hlP p hp) q) pa bx
      rw [← set8 hl8] at y1
      have hpb : ∀ k, k < 8 → pa' k = best' k := by
        intro k hk
        have hpad := fbA_pad (lk := lkE W P r words kinds (earD (earE ear he ((hour + i) % 24)) s)) (e := 8 - P) P 0 (bt left) now0 (fun k hk => btF hlP k (by omega)) k hk
        rw [show P + (8 - P) = 8 by omega] at hpad
        rw [y2 k hk, x3 k hk, ← hpad]
        exact fbA_congr 8 0 _ _ _ _ (fun _ _ _ => rfl) (fun k hk => by unfold rf_fill; rw [if_pos hk, x2 k hk]) k hk
      have hv : Vld pa' (bt left) := Vld_congr hpb (Vld_congr x3 (Vld_fbA P 0 (bt left) now0 (by omega) (fun k hk => Or.inl (x2 k hk)) (fun k _ hk hb => ⟨hb, x2 k hk⟩)))
      obtain ⟨c', cnt', hX', hM', w1, w2, w3, w4, w5⟩ := cross_l hP h.cx.rP (st := st) hpb hlP hv h.m1 h.r1 (nI N) (nI (drw s)) (nI many) (nI i) bm' can' now' (f_X11_goThrough_40 r st n1) P rf_fu rf_fu 0 0 0 hX hM (by omega) (by show P + 8 < 4096; omega) (by show P < 4096; omega) (by omega) hh (by
        rw [cD_congr 8 (t := fun _ => false) (fun k _ => bt_0 k)]; decide) (fun k hk => by rw [bt_0] at hk; cases hk)
      have hl0 : left &&& ((0 : Int32) ^^^ (-1)) = left := bt_ext (fun k hk => by rw [bt_and, bt_com _ hk, bt_0]; simp)
      rw [hl0] at w2
      have hstep : (if 1 < nI (earE ear he ((hour + i) % 24)) + (nI (drw s) - nI (drw s) / 3 * 3) - 1 then nI (earE ear he ((hour + i) % 24)) + (nI (drw s) - nI (drw s) / 3 * 3) - 1 else (1 : Int32)) = nI (earD (earE ear he ((hour + i) % 24)) s) := by
        rw [earD_x e1 e2]
        unfold earD
        by_cases hx : 1 < earE ear he ((hour + i) % 24) + drw s % 3 - 1
        · rw [if_pos hx, if_pos (show (1 : Int32) < nI _ from nI_lt hx (by omega))]
        · rw [if_neg hx, if_neg (show ¬ (1 : Int32) < nI _ from nI_nlt (a := 1) (by omega) (by decide))]; rfl
      have hnew : ∀ k, k < 32 → bt (left &&& (c' ^^^ (-1))) k = (bt left k && !bt c' k) := fun k hk => by rw [bt_and, bt_com _ hk]
      obtain ⟨v, L2, pa2, bx2, hX2, bm2, can2, now2, best2, hM2, z1, z2, z3⟩ := ih n0 n1 (i + 1) (drw s) (many + 2 * cnt') (left &&& (c' ^^^ (-1))) bm' can' now' best' hM' L' pa' bx' hX' (by omega) (by omega) (by omega) (drw_lt s) (fun k hk => by
        rw [bt_and, Bool.and_eq_true] at hk
        exact hsub k hk.1) (by
        rw [← hcnt, ← w4, ← cD_union 8 (fun k hk ⟨a1, a2⟩ => by
          rw [w5 k a2, Bool.and_eq_true] at a1
          cases a1.2)]
        exact cD_congr 8 (fun k hk => by
          rw [hnew k (by omega)]
          cases hc : bt c' k
          · simp
          · rw [w5 k hc, hsub k (w5 k hc)]; rfl)) w3
      refine ⟨v, L2, pa2, bx2, hX2, bm2, can2, now2, best2, hM2, ?_, ?_, z3⟩
      · rw [if_neg (show ¬ nI (cD (bt left) 8) ≤ 1 from nI_ge (a := 1) (by omega) (by omega)), nI_add, show nI (hour + i) - nI (hour + i) / 24 * 24 = nI ((hour + i) % 24) from pb_rem (b := 24) (by omega) (by decide) (by decide), h.er.X _ hmod, pb_bind, drw_s hs, hstep, l1, pb_bind, y1, pb_bind]
        unfold f_X0_crossersAt
        rw [show f_X0_crossersAt_7 (nI m) pa' rf_fu (nI i + 1) 0 0 0 hX = _ from w1, pb_bind, nI_1]
        exact z1
      · rw [x1, show f_X11_goThrough_108 (f_X11_goThrough_40 r st n1) r st rf_fu (nI N) (nI (drw s)) left (nI many) (nI i) 0 0 bm' can' now' best' hM = _ from w2, nI_add, nI_1]
        exact z2
