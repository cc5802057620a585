/-! the reference's trying of all ways: bm is many more by one than the best so far, so that none is 0 -/
def upB (bm v : Nat) (best : Nat → Int32) (a : Nat → Int32) (bm' : Nat) (best' : Nat → Int32) : Prop := (bm < v + 1 ∧ bm' = v + 1 ∧ ∀ k, k < 8 → best' k = a k) ∨ (v + 1 ≤ bm ∧ bm' = bm ∧ ∀ k, k < 8 → best' k = best k)
def bmI (bm : Nat) : Int32 := nI bm - 1
theorem bmI_lt {bm v : Nat} (h1 : bm < 100) (h2 : v < 100) : (bmI bm < nI v) ↔ bm < v + 1 := by
  unfold bmI
  cases bm with
  | zero => exact ⟨fun _ => by omega, fun _ => by
      apply Int32.lt_iff_toInt_lt.mpr
      rw [nI_toInt (by omega), show (nI 0 - 1).toInt = -1 by decide]
      omega⟩
  | succ b =>
    rw [show nI (b + 1) - 1 = nI b from nI_pred b, nI_ltI (by omega) (by omega)]
    omega
theorem bmI_s (v : Nat) : bmI (v + 1) = nI v := nI_pred v
/-- what a try from p on does -/
def tryOk (lk : Nat → Nat → Bool) (people : Int32) (F : Int32 → (Nat → Int32) → (Nat → Int32) → Int32 → Int32 → Int32 → Option (Int32 × (Nat → Int32) × (Nat → Int32))) (d p : Nat) : Prop :=
  ∀ (bm many : Nat) (now best : Nat → Int32) (left : Int32), bm < 50 → many + d < 40 → (∀ k, bt left k = true → bt people k = true) → (∀ k, bt left k = true → k < p + d) → (∀ k, p ≤ k → k < 8 → bt left k = true → now k = -2) →
    ∃ bm' best', F (bmI bm) now best (nI p) left (nI many) = some (bmI bm', now, best') ∧ bm' < 50 ∧ upB bm (many + mmx lk d p (bt left)) best (fbA lk d p (bt left) now) bm' best'
theorem bt_two {left : Int32} {p q : Nat} (hp : p < 8) (hq : q < 8) {k : Nat} (hk : k < 32) : bt (left &&& ((((1 : Int32) <<< (nI p &&& 31)) ||| ((1 : Int32) <<< (nI q &&& 31))) ^^^ (-1))) k = (bt left k && !(decide (k = p) || decide (k = q))) := by
  rw [bt_and, bt_com _ hk, bt_or]
  rw [show bt ((1 : Int32) <<< (nI p &&& 31)) k = decide (k = p) from bt_1s (by omega) k, show bt ((1 : Int32) <<< (nI q &&& 31)) k = decide (k = q) from bt_1s (by omega) k]
theorem try63 {lk : Nat → Nat → Bool} {P : Nat} (hP : P ≤ 8) {r can : Nat → Int32} (hr : r 3 = nI P) {F : Int32 → (Nat → Int32) → (Nat → Int32) → Int32 → Int32 → Int32 → Option (Int32 × (Nat → Int32) × (Nat → Int32))} {d p : Nat} (hd : p + 1 + d = P) {people : Int32} (hF : tryOk lk people F d (p + 1)) {many : Nat} (hm : many + 1 + d < 40) {now : Nat → Int32} {left : Int32} (hlpe : ∀ k, bt left k = true → bt people k = true) (hl : ∀ k, bt left k = true → k < P) (hc : ∀ q, bt (left &&& can p) q = (bt left q && lk p q)) (hlp : bt left p = true) (hnow : ∀ k, p ≤ k → k < 8 → bt left k = true → now k = -2) :
    ∀ e n i bm : Nat, ∀ best : Nat → Int32, i + e = P → p + 1 ≤ i → e < n → bm < 50 →
    ∃ bm' best', f_X11_tryPairs_63 F r can n (nI p) left (nI many) (nI i) (bmI bm) now best = some (bmI bm', now, best') ∧ bm' < 50 ∧
      upB bm (many + sufV (fun q => bt left q && lk p q) (fun q => 1 + mmx lk d (p + 1) (rmB (bt left) q)) (mmx lk d (p + 1) (bt left)) e i) best (sufA (fun q => bt left q && lk p q) (fun q => 1 + mmx lk d (p + 1) (rmB (bt left) q)) (mmx lk d (p + 1) (bt left)) (fun q => fbA lk d (p + 1) (rmB (bt left) q) (upd (upd now p (nI q)) q (nI p))) (fbA lk d (p + 1) (bt left) now) e i) bm' best' := by
  intro e
  induction e with
  | zero =>
    intro n i bm best hi hpi hn hbm
    obtain ⟨n', rfl, hn'⟩ := fuel_succ hn
    obtain rfl : i = P := by omega
    obtain ⟨bm', best', q1, q2, q3⟩ := hF bm many now best left hbm (by omega) hlpe (fun k hk => by have := hl k hk; omega) (fun k a b c => hnow k (by omega) b c)
    refine ⟨bm', best', ?_, q2, q3⟩
    rw [f_X11_tryPairs_63, show Int32.toNatClampNeg 3 = 3 from rfl, hr, if_pos (nI_le (Nat.le_refl _) (by omega)), nI_1, q1, pb_bind]
  | succ e ih =>
    intro n i bm best hi hpi hn hbm
    obtain ⟨n', rfl, hn'⟩ := fuel_succ hn
    have hpP : p < 8 := by omega
    have hiP : i < 8 := by omega
    rw [f_X11_tryPairs_63, show Int32.toNatClampNeg 3 = 3 from rfl, hr, if_neg (by simp (disch := omega) only [pb_lits, pb_ltT, pb_ltF, pb_leT, pb_leF, pb_eqT, pb_eqF, pb_lt, pb_le, pb_eq, pb_add, pb_mul, pb_sub, pb_cl, pb_ibt, pb_eqm, pb_meq, pb_ltm, pb_mlt, pb_lem, pb_mle, ite_true, ite_false, reduceIte, not_true_eq_false, not_false_eq_true, pb_bind, Nat.zero_add, Nat.add_zero]), if_pos (pb_ibt (by omega) hpP), nI_clamp (by omega), hasBitM_s _ (by omega), hc i, pb_bind]
    simp only [f_X11_tryPairs_148]
    rw [nI_1, sufV, sufA]
    cases ht : (bt left i && lk p i)
    · obtain ⟨bm', best', q1, q2, q3⟩ := ih n' (i + 1) bm best (by omega) (by omega) (by omega) hbm
      refine ⟨bm', best', ?_, q2, ?_⟩
      · rw [if_pos (show bI false = 0 from rfl)]
        exact q1
      · rw [if_neg (by decide), if_neg (fun q => by cases q.1)]
        exact q3
    · have hli : bt left i = true := by rw [Bool.and_eq_true] at ht; exact ht.1
      rw [if_neg (show ¬ bI true = 0 by decide), if_pos (pb_ibt (by omega) hpP), if_pos (pb_ibt (by omega) hiP), nI_clamp (by omega), nI_1, nI_1]
      have hS : ∀ k, k < 32 → bt (left &&& ((((1 : Int32) <<< (nI p &&& 31)) ||| ((1 : Int32) <<< (nI i &&& 31))) ^^^ (-1))) k = (bt left k && !(decide (k = p) || decide (k = i))) := fun k hk => bt_two hpP hiP hk
      generalize left &&& ((((1 : Int32) <<< (nI p &&& 31)) ||| ((1 : Int32) <<< (nI i &&& 31))) ^^^ (-1)) = left' at hS ⊢
      have hS' : ∀ k, bt left' k = true → bt left k = true ∧ k ≠ p ∧ k ≠ i := by
        intro k hk
        by_cases h32 : k < 32
        · rw [hS k h32, Bool.and_eq_true, Bool.not_eq_true', Bool.or_eq_false_iff] at hk
          exact ⟨hk.1, of_decide_eq_false hk.2.1, of_decide_eq_false hk.2.2⟩
        · rw [bt_ge (by omega)] at hk; cases hk
      have hrm : ∀ k, p + 1 ≤ k → k < p + 1 + d → bt left' k = rmB (bt left) i k := by
        intro k a b
        rw [hS k (by omega)]
        unfold rmB
        rw [decide_eq_false (by omega : ¬ k = p), Bool.false_or]
      obtain ⟨bm1, best1, x1, x2, x3⟩ := hF bm (many + 1) (upd (upd now p (nI i)) i (nI p)) best left' hbm (by omega) (fun k hk => hlpe k (hS' k hk).1) (fun k hk => by have := hl k (hS' k hk).1; omega) (fun k a b c => by
        have := hS' k c
        rw [upd_ne _ _ this.2.2, upd_ne _ _ this.2.1]
        exact hnow k (by omega) b this.1)
      rw [mmx_congr d (p + 1) _ _ hrm] at x3
      obtain ⟨bm2, best2, y1, y2, y3⟩ := ih n' (i + 1) bm1 best1 (by omega) (by omega) (by omega) x2
      refine ⟨bm2, best2, ?_, y2, ?_⟩
      · rw [x1, pb_bind, if_pos (pb_ibt (by omega) hpP), if_pos (pb_ibt (by omega) hiP)]
        have hback : upd (upd (upd (upd now p (nI i)) i (nI p)) p (-2)) i (-2) = now := by
          funext k
          unfold upd
          by_cases e1 : k = i
          · rw [if_pos e1, e1, hnow i (by omega) hiP hli]
          · rw [if_neg e1]
            by_cases e2 : k = p
            · rw [if_pos e2, e2, hnow p (by omega) hpP hlp]
            · rw [if_neg e2, if_neg e1, if_neg e2]
        show f_X11_tryPairs_63 F r can n' (nI p) left (nI many) (nI (i + 1)) (bmI bm1) (upd (upd (upd (upd now p (nI i)) i (nI p)) p (-2)) i (-2)) best1 = _
        rw [hback]
        exact y1
      · rw [if_pos rfl]
        have ha : ∀ k, k < 8 → fbA lk d (p + 1) (bt left') (upd (upd now p (nI i)) i (nI p)) k = fbA lk d (p + 1) (rmB (bt left) i) (upd (upd now p (nI i)) i (nI p)) k := fbA_congr d (p + 1) _ _ _ _ hrm (fun _ _ => rfl)
        unfold upB at x3 y3 ⊢
        rcases x3 with ⟨a1, a2, a3⟩ | ⟨a1, a2, a3⟩
        · rcases y3 with ⟨b1, b2, b3⟩ | ⟨b1, b2, b3⟩
          · rw [if_neg (fun q => by have := q.2; omega)]
            exact Or.inl ⟨by omega, by omega, b3⟩
          · rw [if_pos ⟨rfl, by omega⟩]
            exact Or.inl ⟨by omega, by omega, fun k hk => by rw [b3 k hk, a3 k hk, ha k hk]⟩
        · rcases y3 with ⟨b1, b2, b3⟩ | ⟨b1, b2, b3⟩
          · rw [if_neg (fun q => by have := q.2; omega)]
            exact Or.inl ⟨by omega, by omega, b3⟩
          · exact Or.inr ⟨by omega, by omega, fun k hk => by rw [b3 k hk, a3 k hk]⟩
theorem try_l {lk : Nat → Nat → Bool} {P : Nat} (hP : P ≤ 8) {r can : Nat → Int32} (hr : r 3 = nI P) {people : Int32} (hc : ∀ p q, bt people p = true → bt people q = true → bt (can p) q = lk p q) : ∀ d p D : Nat, p + d = P → d < D → tryOk lk people (f_X11_tryPairs r can D) d p := by
  intro d
  induction d with
  | zero =>
    intro p D hp hD bm many now best left hbm hm hlpe hl hnow
    obtain ⟨D', rfl, hD'⟩ := fuel_succ hD
    obtain rfl : p = P := by omega
    rw [f_X11_tryPairs, show Int32.toNatClampNeg 3 = 3 from rfl, hr, if_pos rfl]
    show ∃ bm' best', _ ∧ _ ∧ upB bm many best now bm' best'
    by_cases h : bm < many + 1
    · rw [if_pos ((bmI_lt (by omega) (by omega)).mpr h), if_pos (by decide)]
      refine ⟨many + 1, _, by rw [bmI_s], by omega, Or.inl ⟨h, rfl, fun k hk => ?_⟩⟩
      show va_cpy now best 0 0 8 k = now k
      unfold va_cpy
      rw [if_pos (by omega)]
      congr 1
      omega
    · rw [if_neg (fun q => h ((bmI_lt (by omega) (by omega)).mp q))]
      exact ⟨bm, best, rfl, hbm, Or.inr ⟨by omega, rfl, fun _ _ => rfl⟩⟩
  | succ d ih =>
    intro p D hp hD bm many now best left hbm hm hlpe hl hnow
    obtain ⟨D', rfl, hD'⟩ := fuel_succ hD
    have ih' := ih (p + 1) D' (by omega) (by omega)
    rw [f_X11_tryPairs, show Int32.toNatClampNeg 3 = 3 from rfl, hr, if_neg (by simp (disch := omega) only [pb_lits, pb_ltT, pb_ltF, pb_leT, pb_leF, pb_eqT, pb_eqF, pb_lt, pb_le, pb_eq, pb_add, pb_mul, pb_sub, pb_cl, pb_ibt, pb_eqm, pb_meq, pb_ltm, pb_mlt, pb_lem, pb_mle, ite_true, ite_false, reduceIte, not_true_eq_false, not_false_eq_true, pb_bind, Nat.zero_add, Nat.add_zero]), hasBitM_s _ (by omega), pb_bind, mmx, fbA]
    cases hb : bt left p
    · rw [if_pos (show bI false = 0 from rfl), if_neg (by decide), if_neg (by decide), nI_1]
      obtain ⟨bm', best', q1, q2, q3⟩ := ih' bm many now best left hbm (by omega) hlpe (fun k hk => by have := hl k hk; omega) (fun k a b c => hnow k (by omega) b c)
      exact ⟨bm', best', by rw [q1, pb_bind], q2, q3⟩
    · rw [if_neg (show ¬ bI true = 0 by decide), if_pos rfl, if_pos rfl, nI_1]
      refine try63 hP hr (by omega) ih' (by omega) hlpe (fun k hk => by have := hl k hk; omega) (fun q => ?_) hb hnow d rf_fu (p + 1) bm best (by omega) (by omega) (by show d < 4096; omega) hbm
      rw [bt_and]
      by_cases hq : bt left q = true
      · rw [hc p q (hlpe p hb) (hlpe q hq)]
      · rw [(Bool.not_eq_true _).mp hq, Bool.false_and, Bool.false_and]
theorem seekPairs8 {r st can : Nat → Int32} (v1 bm : Int32) (best : Nat → Int32) : ∀ d n i : Nat, ∀ now : Nat → Int32, i + d = 8 → d < n → (∀ k, k < i → now k = -2) → ∃ now', (∀ k, k < 8 → now' k = -2) ∧ f_X11_seekPairs_8 r st n v1 (nI i) bm can now best = (f_X11_tryPairs r can 12 (-1) now' best 0 v1 0).bind fun z37 => some (z37.1, z37.1, can, z37.2.1, z37.2.2) := by
  intro d
  induction d with
  | zero =>
    intro n i now hi hn h
    obtain ⟨n', rfl, hn'⟩ := fuel_succ hn
    obtain rfl : i = 8 := by omega
    refine ⟨now, h, ?_⟩
    rw [f_X11_seekPairs_8, if_pos (by decide)]
  | succ d ih =>
    intro n i now hi hn h
    obtain ⟨n', rfl, hn'⟩ := fuel_succ hn
    rw [f_X11_seekPairs_8, if_neg (by simp (disch := omega) only [pb_lits, pb_ltT, pb_ltF, pb_leT, pb_leF, pb_eqT, pb_eqF, pb_lt, pb_le, pb_eq, pb_add, pb_mul, pb_sub, pb_cl, pb_ibt, pb_eqm, pb_meq, pb_ltm, pb_mlt, pb_lem, pb_mle, ite_true, ite_false, reduceIte, not_true_eq_false, not_false_eq_true, pb_bind, Nat.zero_add, Nat.add_zero]), if_pos (pb_ibt (by omega) (by omega)), nI_1, nI_clamp (by omega)]
    exact ih n' (i + 1) (upd now i (-2)) (by omega) (by omega) (fun k hk => by
      unfold upd
      by_cases e : k = i
      · rw [if_pos e]
      · rw [if_neg e]; exact h k (by omega))
/-- the links by ear e -/
def lkE (W P : Nat) (r words kinds : Nat → Int32) (e p q : Nat) : Bool := bt (setF (metb W r words kinds p (words p) (nI 0) e) P) q
theorem seekPairs_s {W P : Nat} {r st close words kinds : Nat → Int32} (h : pCx W P r st close words kinds) {e : Nat} (he1 : 1 ≤ e) (he : e ≤ 7) {people : Int32} (hp : ∀ p, bt people p = true → p < P) (bm : Int32) (can now best : Nat → Int32) :
    ∃ can' now' best' now0, f_X11_seekPairs r st bm can now best people (nI e) = some (nI (mmx (lkE W P r words kinds e) P 0 (bt people)), nI (mmx (lkE W P r words kinds e) P 0 (bt people)), can', now', best') ∧ (∀ k, k < 8 → now0 k = -2) ∧ ∀ k, k < 8 → best' k = fbA (lkE W P r words kinds e) P 0 (bt people) now0 k := by
  have hP := h.P8
  obtain ⟨can', q1, q2⟩ := layCan_s h he1 he hp can
  obtain ⟨now0, x1, x2⟩ := seekPairs8 (r := r) (st := st) (can := can') people bm best 8 rf_fu 0 now (by omega) (by decide) (fun k hk => by omega)
  obtain ⟨bm', best', y1, y2, y3⟩ := try_l (lk := lkE W P r words kinds e) hP h.rP (can := can') (people := people) (fun p q a b => by
    have := hp p a
    rw [q2 p (by omega)]
    unfold canF lkE
    rw [if_pos a, bt_and, b, Bool.and_true]) P 0 12 (by omega) (by omega) 0 0 now0 best people (by omega) (by omega) (fun _ hk => hk) (fun k hk => by have := hp k hk; omega) (fun k _ hk _ => x1 k hk)
  have hz : bm' = mmx (lkE W P r words kinds e) P 0 (bt people) + 1 ∧ ∀ k, k < 8 → best' k = fbA (lkE W P r words kinds e) P 0 (bt people) now0 k := by
    rcases y3 with ⟨a1, a2, a3⟩ | ⟨a1, a2, a3⟩
    · exact ⟨by omega, a3⟩
    · omega
  refine ⟨can', now0, best', now0, ?_, x1, hz.2⟩
  unfold f_X11_seekPairs
  rw [q1, pb_bind, show (0 : Int32) = nI 0 from rfl, x2, show (-1 : Int32) = bmI 0 from rfl, show (0 : Int32) = nI 0 from rfl, y1, pb_bind, hz.1, bmI_s]
