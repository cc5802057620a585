/-! the most pairs, and the first way to have them -/
def rmB (S : Nat → Bool) (q : Nat) : Nat → Bool := fun k => S k && !decide (k = q)
def sufV (t : Nat → Bool) (v : Nat → Nat) (U : Nat) : Nat → Nat → Nat
  | 0, _ => U
  | d + 1, i => if t i = true then max (v i) (sufV t v U d (i + 1)) else sufV t v U d (i + 1)
def sufA (t : Nat → Bool) (v : Nat → Nat) (U : Nat) (a : Nat → Nat → Int32) (u : Nat → Int32) : Nat → Nat → Nat → Int32
  | 0, _ => u
  | d + 1, i => if t i = true ∧ sufV t v U d (i + 1) ≤ v i then a i else sufA t v U a u d (i + 1)
def mmx (lk : Nat → Nat → Bool) : Nat → Nat → (Nat → Bool) → Nat
  | 0, _, _ => 0
  | d + 1, p, S => if S p = true then sufV (fun q => S q && lk p q) (fun q => 1 + mmx lk d (p + 1) (rmB S q)) (mmx lk d (p + 1) S) d (p + 1) else mmx lk d (p + 1) S
def fbA (lk : Nat → Nat → Bool) : Nat → Nat → (Nat → Bool) → (Nat → Int32) → Nat → Int32
  | 0, _, _, now => now
  | d + 1, p, S, now => if S p = true then sufA (fun q => S q && lk p q) (fun q => 1 + mmx lk d (p + 1) (rmB S q)) (mmx lk d (p + 1) S) (fun q => fbA lk d (p + 1) (rmB S q) (upd (upd now p (nI q)) q (nI p))) (fbA lk d (p + 1) S now) d (p + 1) else fbA lk d (p + 1) S now
theorem sufV_congr {t t' : Nat → Bool} {v v' : Nat → Nat} {U U' : Nat} (hU : U = U') : ∀ d i, (∀ k, i ≤ k → k < i + d → t k = t' k) → (∀ k, i ≤ k → k < i + d → v k = v' k) → sufV t v U d i = sufV t' v' U' d i := by
  intro d
  induction d with
  | zero => intro i _ _; exact hU
  | succ d ih =>
    intro i h1 h2
    rw [sufV, sufV, h1 i (by omega) (by omega), h2 i (by omega) (by omega), ih (i + 1) (fun k a b => h1 k (by omega) (by omega)) (fun k a b => h2 k (by omega) (by omega))]
theorem mmx_congr {lk : Nat → Nat → Bool} : ∀ d p S S', (∀ k, p ≤ k → k < p + d → S k = S' k) → mmx lk d p S = mmx lk d p S' := by
  intro d
  induction d with
  | zero => intro p S S' _; rfl
  | succ d ih =>
    intro p S S' h
    have h0 := ih (p + 1) S S' (fun k a b => h k (by omega) (by omega))
    rw [mmx, mmx, h p (by omega) (by omega), h0]
    rw [sufV_congr (t := fun q => S q && lk p q) (t' := fun q => S' q && lk p q) (v := fun q => 1 + mmx lk d (p + 1) (rmB S q)) (v' := fun q => 1 + mmx lk d (p + 1) (rmB S' q)) rfl d (p + 1) (fun k a b => by rw [h k (by omega) (by omega)]) (fun k a b => by
      rw [ih (p + 1) (rmB S k) (rmB S' k) (fun c a2 b2 => by unfold rmB; rw [h c (by omega) (by omega)])])]
theorem sufA_congr {t t' : Nat → Bool} {v v' : Nat → Nat} {U U' : Nat} {a a' : Nat → Nat → Int32} {u u' : Nat → Int32} (hU : U = U') (hu : ∀ k, k < 8 → u k = u' k) : ∀ d i, (∀ k, i ≤ k → k < i + d → t k = t' k) → (∀ k, i ≤ k → k < i + d → v k = v' k) → (∀ q, i ≤ q → q < i + d → ∀ k, k < 8 → a q k = a' q k) → ∀ k, k < 8 → sufA t v U a u d i k = sufA t' v' U' a' u' d i k := by
  intro d
  induction d with
  | zero => intro i _ _ _; exact hu
  | succ d ih =>
    intro i h1 h2 h3 k hk
    rw [sufA, sufA, h1 i (by omega) (by omega), h2 i (by omega) (by omega), sufV_congr hU d (i + 1) (fun k a b => h1 k (by omega) (by omega)) (fun k a b => h2 k (by omega) (by omega))]
    split
    · exact h3 i (by omega) (by omega) k hk
    · exact ih (i + 1) (fun k a b => h1 k (by omega) (by omega)) (fun k a b => h2 k (by omega) (by omega)) (fun q a b => h3 q (by omega) (by omega)) k hk
theorem fbA_congr {lk : Nat → Nat → Bool} : ∀ d p S S' now now', (∀ k, p ≤ k → k < p + d → S k = S' k) → (∀ k, k < 8 → now k = now' k) → ∀ k, k < 8 → fbA lk d p S now k = fbA lk d p S' now' k := by
  intro d
  induction d with
  | zero => intro p S S' now now' _ h; exact h
  | succ d ih =>
    intro p S S' now now' h hn k hk
    rw [fbA, fbA, h p (by omega) (by omega)]
    have h0 := ih (p + 1) S S' now now' (fun k a b => h k (by omega) (by omega)) hn
    split
    · refine sufA_congr (mmx_congr d (p + 1) S S' (fun k a b => h k (by omega) (by omega))) h0 d (p + 1) (fun k a b => by rw [h k (by omega) (by omega)]) (fun k a b => by
        rw [mmx_congr d (p + 1) (rmB S k) (rmB S' k) (fun c a2 b2 => by unfold rmB; rw [h c (by omega) (by omega)])]) (fun q a b => ih (p + 1) (rmB S q) (rmB S' q) _ _ (fun c a2 b2 => by unfold rmB; rw [h c (by omega) (by omega)]) (fun c hc => ?_)) k hk
      unfold upd
      rw [hn c hc]
    · exact h0 k hk
theorem mmx_empty {lk : Nat → Nat → Bool} : ∀ d p S, (∀ k, p ≤ k → S k = false) → mmx lk d p S = 0 := by
  intro d
  induction d with
  | zero => intro p S _; rfl
  | succ d ih => intro p S h; rw [mmx, if_neg (by rw [h p (by omega)]; decide)]; exact ih (p + 1) S (fun k hk => h k (by omega))
theorem fbA_empty {lk : Nat → Nat → Bool} : ∀ d p S now, (∀ k, p ≤ k → S k = false) → fbA lk d p S now = now := by
  intro d
  induction d with
  | zero => intro p S now _; rfl
  | succ d ih => intro p S now h; rw [fbA, if_neg (by rw [h p (by omega)]; decide)]; exact ih (p + 1) S now (fun k hk => h k (by omega))
theorem sufV_pad {t : Nat → Bool} {v : Nat → Nat} {U : Nat} {e : Nat} : ∀ d i, (∀ k, i + d ≤ k → t k = false) → sufV t v U (d + e) i = sufV t v U d i := by
  intro d
  induction d with
  | zero =>
    intro i h
    rw [Nat.zero_add]
    induction e generalizing i with
    | zero => rfl
    | succ e ih =>
      have h1 : sufV t v U (e + 1) i = sufV t v U e (i + 1) := if_neg (by rw [h i (by omega)]; decide)
      exact h1.trans (ih (i + 1) (fun k hk => h k (by omega)))
  | succ d ih =>
    intro i h
    rw [show d + 1 + e = d + e + 1 by omega, sufV, sufV, ih (i + 1) (fun k hk => h k (by omega))]
theorem sufA_pad {t : Nat → Bool} {v : Nat → Nat} {U : Nat} {a : Nat → Nat → Int32} {u : Nat → Int32} {e : Nat} : ∀ d i, (∀ k, i + d ≤ k → t k = false) → sufA t v U a u (d + e) i = sufA t v U a u d i := by
  intro d
  induction d with
  | zero =>
    intro i h
    rw [Nat.zero_add]
    induction e generalizing i with
    | zero => rfl
    | succ e ih =>
      have h1 : sufA t v U a u (e + 1) i = sufA t v U a u e (i + 1) := if_neg (fun q => by rw [h i (by omega)] at q; cases q.1)
      exact h1.trans (ih (i + 1) (fun k hk => h k (by omega)))
  | succ d ih =>
    intro i h
    rw [show d + 1 + e = d + e + 1 by omega, sufA, sufA, ih (i + 1) (fun k hk => h k (by omega)), sufV_pad d (i + 1) (fun k hk => h k (by omega))]
theorem mmx_pad {lk : Nat → Nat → Bool} {e : Nat} : ∀ d p S, (∀ k, p + d ≤ k → S k = false) → mmx lk (d + e) p S = mmx lk d p S := by
  intro d
  induction d with
  | zero => intro p S h; rw [Nat.zero_add, mmx_empty e p S (fun k hk => h k (by omega))]; rfl
  | succ d ih =>
    intro p S h
    rw [show d + 1 + e = d + e + 1 by omega, mmx, mmx, ih (p + 1) S (fun k hk => h k (by omega))]
    rw [sufV_pad d (p + 1) (fun k hk => by rw [h k (by omega)]; rfl)]
    rw [sufV_congr (v := fun q => 1 + mmx lk (d + e) (p + 1) (rmB S q)) (v' := fun q => 1 + mmx lk d (p + 1) (rmB S q)) rfl d (p + 1) (fun _ _ _ => rfl) (fun k a b => by rw [ih (p + 1) (rmB S k) (fun c hc => by unfold rmB; rw [h c (by omega)]; rfl)])]
theorem fbA_pad {lk : Nat → Nat → Bool} {e : Nat} : ∀ d p S now, (∀ k, p + d ≤ k → S k = false) → ∀ k, k < 8 → fbA lk (d + e) p S now k = fbA lk d p S now k := by
  intro d
  induction d with
  | zero => intro p S now h k hk; rw [Nat.zero_add, fbA_empty e p S now (fun k hk => h k (by omega))]; rfl
  | succ d ih =>
    intro p S now h k hk
    rw [show d + 1 + e = d + e + 1 by omega, fbA, fbA]
    split
    · rw [sufA_pad d (p + 1) (fun k hk => by rw [h k (by omega)]; rfl)]
      exact sufA_congr (mmx_pad d (p + 1) S (fun k hk => h k (by omega))) (ih (p + 1) S now (fun k hk => h k (by omega))) d (p + 1) (fun _ _ _ => rfl) (fun k a b => by rw [mmx_pad d (p + 1) (rmB S k) (fun c hc => by unfold rmB; rw [h c (by omega)]; rfl)]) (fun q a b => ih (p + 1) (rmB S q) _ (fun c hc => by unfold rmB; rw [h c (by omega)]; rfl)) k hk
    · exact ih (p + 1) S now (fun k hk => h k (by omega)) k hk
theorem sufV_le {t : Nat → Bool} {v : Nat → Nat} {U B : Nat} (hU : U ≤ B) : ∀ d i, (∀ k, i ≤ k → k < i + d → v k ≤ B) → sufV t v U d i ≤ B := by
  intro d
  induction d with
  | zero => intro i _; exact hU
  | succ d ih =>
    intro i h
    have h1 := ih (i + 1) (fun k a b => h k (by omega) (by omega))
    have h2 := h i (by omega) (by omega)
    rw [sufV]
    split <;> omega
theorem mmx_le {lk : Nat → Nat → Bool} : ∀ d p S, mmx lk d p S ≤ d := by
  intro d
  induction d with
  | zero => intro p S; exact Nat.le_refl _
  | succ d ih =>
    intro p S
    rw [mmx]
    split
    · exact sufV_le (Nat.le_trans (ih _ _) (Nat.le_succ d)) d (p + 1) (fun k _ _ => by have := ih (p + 1) (rmB S k); omega)
    · exact Nat.le_trans (ih _ _) (Nat.le_succ d)
