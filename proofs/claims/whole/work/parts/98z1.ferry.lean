/-! ferry -/
theorem if3 {α : Type} {F : Int32 → α} {v t : Int32} : (if v < 0 then F 0 else if t < v then F 0 else F 1) = F (bI (decide (0 ≤ v ∧ v ≤ t))) := by
  by_cases h1 : v < 0
  · rw [if_pos h1, decide_eq_false (fun z => absurd h1 (Int32.not_lt.mpr z.1))]; rfl
  · rw [if_neg h1]
    by_cases h2 : t < v
    · rw [if_pos h2, decide_eq_false (fun z => absurd h2 (Int32.not_lt.mpr z.2))]; rfl
    · rw [if_neg h2, decide_eq_true ⟨Int32.not_lt.mp h1, Int32.not_lt.mp h2⟩]; rfl
/-- calls that leave the tale -/
theorem rf_Iv.quietB {W P G na ni j : Nat} {I : Nat → Int32} {J : Nat → Int64} {A : Nat → Nat → Int32} {B : Nat → Nat → Int64} {I' : Nat → Int32} {A' : Nat → Nat → Int32}
    (h : rf_Iv W P G na ni j I J A B I' A') {I2 : Nat → Int32} {J2 : Nat → Int64} {A2 : Nat → Nat → Int32} {B2 : Nat → Nat → Int64} {I2' : Nat → Int32} {A2' : Nat → Nat → Int32}
    (hf : pFault (I2 1) (I2 2) (I2 3) (I2' 8) (I2' 9) (I2' 10)) (ht : pTape (I2 0) (A2 0) (I2' 1) (A2' 0))
    (e1 : (I2 4, I2 5, I2 6, I2 7, I2 15, I2 16, I2 17, I2 18, I2 19, I2 20, I2 21, I2 22, I2 23, I2 24, I2 26, I2 27) = (I 4, I 5, I 6, I 7, I 15, I 16, I 17, I 18, I 19, I 20, I 21, I 22, I 23, I 24, I 26, I 27))
    (e2 : (A2 1, A2 2, A2 11, A2 12, A2 13, A2 14, A2 16, A2 17, A2 18, A2 19, A2 20, A2 21, A2 22) = (A 1, A 2, A 11, A 12, A 13, A 14, A 16, A 17, A 18, A 19, A 20, A 21, A 22))
    (e3 : (I2' 12, I2' 13, I2' 14) = (I' 12, I' 13, I' 14))
    (e4 : (A2' 2, A2' 4, A2' 5, A2' 6) = (A' 2, A' 4, A' 5, A' 6)) (e5 : (B2 0, B2 1) = (B 0, B 1)) : rf_Inv (j + 1) I2 J2 A2 B2 I2' A2' := by
  simp only [Prod.mk.injEq] at e1 e2 e3 e4 e5
  obtain ⟨a4, a5, a6, a7, a15, a16, a17, a18, a19, a20, a21, a22, a23, a24, a26, a27⟩ := e1
  obtain ⟨b1, b2, b11, b12, b13, b14, b16, b17, b18, b19, b20, b21, b22⟩ := e2
  obtain ⟨c12, c13, c14⟩ := e3
  obtain ⟨d2, d4, d5, d6⟩ := e4
  obtain ⟨f0, f1⟩ := e5
  refine ⟨W, P, G, na, ni, ⟨ht, hf, ?_, ?_, ?_, ?_, ?_, ?_, ?_, ?_, ?_, ?_, ?_⟩⟩
  · rw [d2, a21, a22, a23, a24, a26, a27, b13, b14, b16, b17, b18, b19, b20, b21, f0, f1]; exact h.tale
  · rw [d2, b22]; exact h.close
  · rw [c12]; exact h.has
  · rw [a21, a22, a26, a4, a5, b18]; exact h.none
  · rw [a6]; exact h.every
  · rw [a4, a5, a7, b1, b2, d4]; exact h.now.mono
  · rw [a15]; exact h.aroom
  · rw [a16, a17, b11, c13, d5]; exact h.acts.mono
  · rw [a18]; exact h.iroom
  · rw [a19, a20, b12, c14, d6]; exact h.imgs.mono
  · rw [a19]; exact h.ifirst
theorem fer39 {m : Nat → Int32} {v1 th tp sz at_ en to wm ns ft plc tr fd hf un im : Int32} {la r st : Nat → Int32} : ∀ d f i : Nat, ∀ fr : Nat → Int32, i + d = 333 → d < f → (∀ k, k < i → fr k = 0) →
    ∃ fr', (∀ k, k < 333 → fr' k = 0) ∧ f_X11_ferry_39 m f v1 (nI i) th tp sz at_ en to wm ns ft plc tr fd hf un im la r fr st = ((f_X11_next v1 m at_ 0 to wm ns la).bind fun z70 => (f_X11_readLine v1 m z70.1 z70.2.1 z70.2.2.1 z70.2.2.2.1 z70.2.2.2.2.1 ft plc fd z70.2.2.2.2.2 fr').bind fun z74 => f_X11_ferry_77 m rf_fu th tp v1 z74.1 z74.2.1 z74.2.2.1 z74.2.2.2.1 z74.2.2.2.2.1 z74.2.2.2.2.2.1 z74.2.2.2.2.2.2.1 tr z74.2.2.2.2.2.2.2.1 hf un im z74.2.2.2.2.2.2.2.2.1 r z74.2.2.2.2.2.2.2.2.2 st) := by
  intro d
  induction d with
  | zero =>
    intro f i fr hi hf hz
    obtain ⟨f', rfl, _⟩ := fuel_succ hf
    obtain rfl : i = 333 := by omega
    refine ⟨fr, hz, ?_⟩
    rw [f_X11_ferry_39, if_pos (by decide)]
  | succ d ih =>
    intro f i fr hi hf hz
    obtain ⟨f', rfl, _⟩ := fuel_succ hf
    rw [f_X11_ferry_39, if_neg (show ¬ (333 : Int32) ≤ nI i from nI_ge (b := 333) (by omega) (by decide)), if_pos (pb_ibt (by omega) (by omega)), nI_clamp (by omega), nI_1]
    refine ih f' (i + 1) _ (by omega) (by omega) (fun k hk => ?_)
    by_cases e : k = i
    · subst e; rw [upd_same]
    · rw [upd_ne _ _ e]; exact hz k (by omega)
theorem fer223 {m : Nat → Int32} {th tp sz at_ en to wm ns ft plc tr fd hf un im : Int32} {la r fr : Nat → Int32} {P : Nat} (hP : P ≤ 8) (hr : r 3 = nI P) : ∀ d f i : Nat, ∀ st : Nat → Int32, i + d = P → d < f →
    ∃ st', f_X11_ferry_223 m f (nI i) th tp sz at_ en to wm ns ft plc tr fd hf un im la r fr st = some (nI P, th, tp, sz, at_, en, to, wm, ns, ft, plc, tr, fd, 1, 0, 0, la, r, fr, st') ∧ (∀ p, i ≤ p → p < P → st' p = r (90 + 4 * p) ∧ st' (8 + p) = r (91 + 4 * p)) ∧ ∀ k, (k < i ∨ 8 ≤ k) → ¬ (8 + i ≤ k ∧ k < 8 + P) → st' k = st k := by
  intro d
  induction d with
  | zero =>
    intro f i st hi hf
    obtain ⟨f', rfl, _⟩ := fuel_succ hf
    refine ⟨st, ?_, fun p h1 h2 => by omega, fun _ _ _ => rfl⟩
    rw [f_X11_ferry_223, cl3, hr, if_pos (nI_le (by omega) (by omega))]
  | succ d ih =>
    intro f i st hi hf
    obtain ⟨f', rfl, _⟩ := fuel_succ hf
    have e1 : ((89 : Int32) + ((4 : Int32) * nI i)) + 1 = nI (90 + 4 * i) := by
      rw [show (89 : Int32) = nI 89 from rfl, show (4 : Int32) = nI 4 from rfl, pb_mul, pb_add, nI_1, show 89 + 4 * i + 1 = 90 + 4 * i by omega]
    have e2 : ((89 : Int32) + ((4 : Int32) * nI i)) + 2 = nI (91 + 4 * i) := by
      rw [show (89 : Int32) = nI 89 from rfl, show (4 : Int32) = nI 4 from rfl, show (2 : Int32) = nI 2 from rfl, pb_mul, pb_add, pb_add, show 89 + 4 * i + 2 = 91 + 4 * i by omega]
    have e3 : (8 : Int32) + nI i = nI (8 + i) := by rw [show (8 : Int32) = nI 8 from rfl, pb_add]
    obtain ⟨st', q1, q2, q3⟩ := ih f' (i + 1) (upd (upd st i (r (90 + 4 * i))) (8 + i) (r (91 + 4 * i))) (by omega) (by omega)
    refine ⟨st', ?_, fun p h1 h2 => ?_, fun k h1 h2 => ?_⟩
    · rw [f_X11_ferry_223, cl3, hr, if_neg (nI_ge (by omega) (by omega)), e1, e2, e3, if_pos (pb_ibt (by omega) (by omega)), if_pos (pb_ibt (by omega) (by omega)), if_pos (pb_ibt (by omega) (by omega)), if_pos (pb_ibt (by omega) (by omega)), nI_clamp (by omega), nI_clamp (by omega), nI_clamp (by omega), nI_clamp (by omega), nI_1]
      exact q1
    · by_cases e : p = i
      · subst e
        rw [q3 p (by omega) (by omega), q3 (8 + p) (by omega) (by omega), upd_ne _ _ (by omega), upd_same, upd_same]
        exact ⟨rfl, rfl⟩
      · exact q2 p (by omega) h2
    · rw [q3 k (by omega) (by omega), upd_ne _ _ (by omega), upd_ne _ _ (by omega)]
theorem fer202 {m : Nat → Int32} {th tp sz at_ en to wm ns ft plc tr fd hfe un im : Int32} {la r fr : Nat → Int32} {P : Nat} (hP : P ≤ 8) (hr : r 3 = nI P) : ∀ d f i : Nat, ∀ st : Nat → Int32, i + d = 26 → d < f → (∀ k, k < i → st k = 0) →
    ∃ st', f_X11_ferry_202 m f (nI i) th tp sz at_ en to wm ns ft plc tr fd hfe un im la r fr st = some (nI P, th, tp, sz, at_, en, to, wm, ns, ft, plc, tr, fd, 1, 0, 0, la, r, fr, st') ∧ (∀ p, p < P → st' p = r (90 + 4 * p) ∧ st' (8 + p) = r (91 + 4 * p)) ∧ ∀ k, 16 ≤ k → k < 26 → st' k = 0 := by
  intro d
  induction d with
  | zero =>
    intro f i st hi hf hz
    obtain ⟨f', rfl, _⟩ := fuel_succ hf
    obtain rfl : i = 26 := by omega
    rw [f_X11_ferry_202, if_pos (by decide), show (0 : Int32) = nI 0 from rfl]
    obtain ⟨st', q1, q2, q3⟩ := fer223 (m := m) (th := th) (tp := tp) (sz := sz) (at_ := at_) (en := en) (to := to) (wm := wm) (ns := ns) (ft := ft) (plc := plc) (tr := tr) (fd := fd) (hf := hfe) (un := un) (im := im) (la := la) (r := r) (fr := fr) hP hr P rf_fu 0 st (by omega) (by show P < 4096; omega)
    exact ⟨st', q1, fun p hp => q2 p (by omega) hp, fun k h1 h2 => by rw [q3 k (by omega) (by omega)]; exact hz k (by omega)⟩
  | succ d ih =>
    intro f i st hi hf hz
    obtain ⟨f', rfl, _⟩ := fuel_succ hf
    rw [f_X11_ferry_202, if_neg (show ¬ (26 : Int32) ≤ nI i from nI_ge (b := 26) (by omega) (by decide)), if_pos (pb_ibt (by omega) (by omega)), nI_clamp (by omega), nI_1]
    refine ih f' (i + 1) _ (by omega) (by omega) (fun k hk => ?_)
    by_cases e : k = i
    · subst e; rw [upd_same]
    · rw [upd_ne _ _ e]; exact hz k (by omega)
