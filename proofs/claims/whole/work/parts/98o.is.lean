/-! words of the language -/
def allB (f : Nat → Bool) : Nat → Bool
  | 0 => true
  | n + 1 => allB f n && f n
theorem allB_iff (f : Nat → Bool) : ∀ n, allB f n = true ↔ ∀ i, i < n → f i = true := by
  intro n
  induction n with
  | zero => exact ⟨fun _ i h => by omega, fun _ => rfl⟩
  | succ n ih =>
    rw [allB, Bool.and_eq_true, ih]
    constructor
    · rintro ⟨h1, h2⟩ i hi
      by_cases e : i = n
      · subst e; exact h2
      · exact h1 i (by omega)
    · intro h
      exact ⟨fun i hi => h i (by omega), h n (by omega)⟩
theorem allB_congr {f g : Nat → Bool} : ∀ n, (∀ i, i < n → f i = g i) → allB f n = allB g n := by
  intro n
  induction n with
  | zero => intro _; rfl
  | succ n ih => intro h; rw [allB, allB, ih (fun i hi => h i (by omega)), h n (by omega)]
def sB (j i : Nat) : Nat := (rf_byt j i).toNatClampNeg - 96
theorem str_all : ∀ j : Fin 49, rf_len j.1 ≤ 8 ∧ ∀ i : Fin 8, i.1 < rf_len j.1 → 1 ≤ sB j.1 i.1 ∧ sB j.1 i.1 ≤ 26 ∧ rf_byt j.1 i.1 = nI (sB j.1 i.1 + 96) := by decide +kernel
theorem str_len {j : Nat} (hj : j < 49) : rf_len j ≤ 8 := (str_all ⟨j, hj⟩).1
theorem str_byt {j i : Nat} (hj : j < 49) (hi : i < rf_len j) : 1 ≤ sB j i ∧ sB j i ≤ 26 ∧ rf_byt j i = nI (sB j i + 96) := (str_all ⟨j, hj⟩).2 ⟨i, by have := str_len hj; omega⟩ hi
theorem pkN_eq {f g : Nat → Nat} : ∀ n, (∀ k, k < n → f k ≤ 31) → (∀ k, k < n → g k ≤ 31) → (pkN f n = pkN g n ↔ ∀ k, k < n → f k = g k) := by
  intro n
  induction n with
  | zero => intro _ _; exact ⟨fun _ k h => by omega, fun _ => rfl⟩
  | succ n ih =>
    intro hf hg
    have ih' := ih (fun k hk => hf k (by omega)) (fun k hk => hg k (by omega))
    have h1 := hf n (by omega)
    have h2 := hg n (by omega)
    rw [pkN, pkN]
    constructor
    · intro h k hk
      by_cases e : k = n
      · subst e; omega
      · exact ih'.mp (by omega) k (by omega)
    · intro h
      rw [ih'.mpr (fun k hk => h k (by omega)), h n (by omega)]
theorem pkN_inj {f g : Nat → Nat} : ∀ a b, (∀ k, k < a → 1 ≤ f k ∧ f k ≤ 31) → (∀ k, k < b → 1 ≤ g k ∧ g k ≤ 31) → pkN f a = pkN g b → a = b ∧ ∀ k, k < a → f k = g k := by
  intro a
  induction a with
  | zero =>
    intro b hf hg h
    refine ⟨?_, fun k hk => by omega⟩
    cases b with
    | zero => rfl
    | succ b =>
      have := hg b (by omega)
      rw [pkN, pkN] at h
      omega
  | succ a ih =>
    intro b hf hg h
    cases b with
    | zero =>
      have := hf a (by omega)
      rw [pkN, pkN] at h
      omega
    | succ b =>
      have h1 := hf a (by omega)
      have h2 := hg b (by omega)
      rw [pkN, pkN] at h
      obtain ⟨e1, e2⟩ := ih b (fun k hk => hf k (by omega)) (fun k hk => hg k (by omega)) (by omega)
      subst e1
      refine ⟨rfl, fun k hk => ?_⟩
      by_cases e : k = a
      · subst e; omega
      · exact e2 k (by omega)
theorem i64_eq {a b : Nat} (ha : a < 2 ^ 63) (hb : b < 2 ^ 63) : (Int64.ofNat a = Int64.ofNat b) ↔ a = b := by
  constructor
  · intro h
    have := congrArg Int64.toInt h
    rw [Int64.toInt_ofNat_of_lt ha, Int64.toInt_ofNat_of_lt hb] at this
    omega
  · rintro rfl; rfl
/-- the token is that word -/
def isT (k v : Nat) (L : Nat → Nat) (j : Nat) : Bool := decide (k = 1) && (decide (v = rf_len j) && allB (fun i => decide (L i = sB j i)) v)
theorem isT_eq {j j' : Nat} (h1 : rf_sn.getD j 0 = rf_sn.getD j' 0) (h2 : rf_sb.getD j [] = rf_sb.getD j' []) (k v : Nat) (L : Nat → Nat) : isT k v L j = isT k v L j' := by
  unfold isT sB rf_len rf_byt
  rw [h1, h2]
theorem isX26 {so le : Int32} {lt : Int64} {j v : Nat} {L : Nat → Nat} (hj : j < 49) (hv : v = rf_len j) (hle : le = nI v) (hL : ∀ i, i < v → 1 ≤ L i ∧ L i ≤ 26) (hlt : lt = Int64.ofNat (pkN L v)) : ∀ d n i : Nat, i + d = v → d < n → f_X5_is_26 so le lt n j (Int64.ofNat (pkN (sB j) i)) (nI i) = some (bI (allB (fun i => decide (L i = sB j i)) v)) := by
  have h8 := str_len hj
  intro d
  induction d with
  | zero =>
    intro n i hi hn
    obtain ⟨n', rfl, _⟩ := fuel_succ hn
    obtain rfl : i = v := by omega
    have b1 : ∀ k, k < i → sB j k ≤ 31 := fun k hk => by have := (str_byt hj (i := k) (by omega)).2.1; omega
    have b2 : ∀ k, k < i → L k ≤ 31 := fun k hk => by have := (hL k hk).2; omega
    rw [f_X5_is_26, hle, if_pos (nI_le (Nat.le_refl _) (by omega)), hlt]
    by_cases hq : allB (fun i => decide (L i = sB j i)) i = true
    · rw [hq, if_pos]
      · rfl
      · rw [lg_cmp_eq, i64_eq (pkN_63 (by omega) b1) (pkN_63 (by omega) b2), pkN_eq i b1 b2]
        intro k hk
        have := of_decide_eq_true ((allB_iff _ _).mp hq k hk)
        exact this.symm
    · rw [(Bool.not_eq_true _).mp hq, if_neg]
      · rfl
      · rw [lg_cmp_eq, i64_eq (pkN_63 (by omega) b1) (pkN_63 (by omega) b2), pkN_eq i b1 b2]
        intro z
        exact hq ((allB_iff _ _).mpr (fun k hk => decide_eq_true (z k hk).symm))
  | succ d ih =>
    intro n i hi hn
    obtain ⟨n', rfl, _⟩ := fuel_succ hn
    obtain ⟨s1, s2, s3⟩ := str_byt hj (i := i) (by omega)
    rw [f_X5_is_26, hle, if_neg (nI_ge (by omega) (by omega)), if_pos (pb_ibt (by omega) (by omega)), nI_clamp (by omega), s3, pk_next (by omega) (by omega), nI_1, show sB j i + 96 - 96 = sB j i by omega]
    have := ih n' (i + 1) (by omega) (by omega)
    rw [pkN, hle] at this
    exact this
theorem isM32 {to ns fd : Int32} {la : Nat → Int32} {j v : Nat} {L : Nat → Nat} (hj : j < 49) (hv : v = rf_len j) (hns : ns = nI v) (hL : ∀ i, i < v → 1 ≤ L i ∧ L i ≤ 26 ∧ la i = nI (L i + 96)) : ∀ d n i : Nat, ∀ c : Bool, i + d = v → d < n → c = allB (fun i => decide (L i = sB j i)) i → f_X11_isWord_32 to ns fd la n j (bI c) (nI i) = some (bI (allB (fun i => decide (L i = sB j i)) v)) := by
  have h8 := str_len hj
  intro d
  induction d with
  | zero =>
    intro n i c hi hn hc
    obtain ⟨n', rfl, _⟩ := fuel_succ hn
    obtain rfl : i = v := by omega
    rw [f_X11_isWord_32, hns, if_pos (nI_le (Nat.le_refl _) (by omega)), ← hc]
    cases c <;> rfl
  | succ d ih =>
    intro n i c hi hn hc
    obtain ⟨n', rfl, _⟩ := fuel_succ hn
    obtain ⟨s1, s2, s3⟩ := str_byt hj (i := i) (by omega)
    obtain ⟨l1, l2, l3⟩ := hL i (by omega)
    rw [f_X11_isWord_32]
    simp only [f_X11_isWord_62, f_X11_isWord_63]
    rw [hns, if_neg (nI_ge (by omega) (by omega)), nI_1, ← hns]
    cases c
    · rw [if_pos (show bI false = 0 from rfl)]
      exact ih n' (i + 1) false (by omega) (by omega) (by rw [allB, ← hc]; rfl)
    · rw [if_neg (show ¬ bI true = 0 by decide), if_pos (pb_ibt (by omega) (by omega)), if_pos (pb_ibt (by omega) (by omega)), nI_clamp (by omega), l3, s3]
      by_cases e : L i = sB j i
      · rw [if_pos (by rw [e])]
        exact ih n' (i + 1) true (by omega) (by omega) (by rw [allB, ← hc, decide_eq_true e]; rfl)
      · rw [if_neg (fun z => e (by have := (nI_eq (a := L i + 96) (b := sB j i + 96) (by omega) (by omega)).mp z; omega))]
        exact ih n' (i + 1) false (by omega) (by omega) (by rw [allB, ← hc, decide_eq_false e]; rfl)
theorem tkF_ne {k t : Nat} (hk : k ≤ 4) (h : k ≠ 1) : ¬ nI (tkF k) = 2 := by
  obtain rfl | rfl | rfl | rfl : k = 0 ∨ k = 2 ∨ k = 3 ∨ k = 4 := by omega
  · decide
  · decide
  · decide
  · decide
theorem is_s {n a b k v : Nat} {L : Nat → Nat} {nx so pl le : Int32} {lt : Int64} {wh at_ en to wm ns : Int32} {la : Nat → Int32} (h : tokR n a b k v L nx so pl le lt wh at_ en to wm ns la) {j : Nat} (hj : j < 49) : f_X5_is so le lt j = some (bI (isT k v L j)) ∧ f_X11_isWord to ns 0 la j = some (bI (isT k v L j)) := by
  unfold f_X5_is f_X5_is_19 f_X11_isWord f_X11_isWord_26
  rw [h.hso, h.hto, if_pos (show (0 : Int32) = 0 from rfl)]
  have hk := h.hk
  have h8 := str_len hj
  by_cases h1 : k = 1
  · obtain ⟨v1, v2, v3, v4, v5, v6⟩ := h.h1 h1
    unfold isT
    rw [if_pos (show nI k = 1 by rw [h1]; rfl), if_pos (show nI (tkF k) = 2 by rw [h1]; rfl), decide_eq_true h1, Bool.true_and, v3, v4]
    by_cases hv : v = rf_len j
    · rw [if_pos (by rw [hv]), if_pos (by rw [hv]), decide_eq_true hv, Bool.true_and]
      exact ⟨isX26 hj hv rfl (fun i hi => ⟨(v6 i hi).1, (v6 i hi).2.1⟩) v5 v rf_fu 0 (by omega) (by show v < 4096; omega), isM32 hj hv rfl v6 v rf_fu 0 true (by omega) (by show v < 4096; omega) rfl⟩
    · rw [if_neg (fun z => hv ((nI_eq (by omega) (by omega)).mp z)), if_neg (fun z => hv ((nI_eq (by omega) (by omega)).mp z)), decide_eq_false hv]
      exact ⟨rfl, rfl⟩
  · unfold isT
    rw [if_neg (show ¬ nI k = 1 from fun z => h1 ((nI_eq (b := 1) (by omega) (by decide)).mp z)), if_neg (tkF_ne (t := 0) hk h1), decide_eq_false h1]
    exact ⟨rfl, rfl⟩
/-- which line a word begins -/
def lnT (k v : Nat) (L : Nat → Nat) : Nat := if isT k v L 0 = true then 1 else if isT k v L 1 = true then 2 else if isT k v L 2 = true then 3 else if isT k v L 3 = true then 4 else if isT k v L 4 = true then 5 else if isT k v L 5 = true then 6 else if isT k v L 6 = true then 7 else if isT k v L 7 = true then 8 else 0
theorem lineBegun_s {n a b k v : Nat} {L : Nat → Nat} {nx so pl le : Int32} {lt : Int64} {wh at_ en to wm ns : Int32} {la : Nat → Int32} (h : tokR n a b k v L nx so pl le lt wh at_ en to wm ns la) : f_X5_lineBegun so le lt = some (nI (lnT k v L)) := by
  unfold f_X5_lineBegun lnT
  rw [(is_s h (j := 0) (by decide)).1, (is_s h (j := 1) (by decide)).1, (is_s h (j := 2) (by decide)).1, (is_s h (j := 3) (by decide)).1, (is_s h (j := 4) (by decide)).1, (is_s h (j := 5) (by decide)).1, (is_s h (j := 6) (by decide)).1, (is_s h (j := 7) (by decide)).1]
  simp only [pb_bind]
  cases isT k v L 0
  · cases isT k v L 1
    · cases isT k v L 2
      · cases isT k v L 3
        · cases isT k v L 4
          · cases isT k v L 5
            · cases isT k v L 6
              · cases isT k v L 7 <;> rfl
              · rfl
            · rfl
          · rfl
        · rfl
      · rfl
    · rfl
  · rfl
/-- a name may stand here -/
def nmT (k v : Nat) (L : Nat → Nat) : Bool := decide (k = 1) && decide (lnT k v L = 0)
theorem mustName_s {n a b k v : Nat} {L : Nat → Nat} {nx so pl le : Int32} {lt : Int64} {wh at_ en to wm ns : Int32} {la : Nat → Int32} (h : tokR n a b k v L nx so pl le lt wh at_ en to wm ns la) (plc : Int32) : f_X11_mustName at_ to ns la 0 plc 0 = some (if nmT k v L = true then (0, plc, 0) else (1, nI a, 1)) := by
  unfold f_X11_mustName f_X11_mustName_80 f_X11_wrong nmT lnT
  have e0 := isT_eq (j := 24) (j' := 0) rfl rfl k v L
  have e1 := isT_eq (j := 27) (j' := 1) rfl rfl k v L
  have e2 := isT_eq (j := 28) (j' := 2) rfl rfl k v L
  have e3 := isT_eq (j := 29) (j' := 3) rfl rfl k v L
  have e4 := isT_eq (j := 30) (j' := 4) rfl rfl k v L
  have e5 := isT_eq (j := 31) (j' := 5) rfl rfl k v L
  have e6 := isT_eq (j := 32) (j' := 6) rfl rfl k v L
  have e7 := isT_eq (j := 33) (j' := 7) rfl rfl k v L
  rw [(is_s h (j := 24) (by decide)).2, (is_s h (j := 27) (by decide)).2, (is_s h (j := 28) (by decide)).2, (is_s h (j := 29) (by decide)).2, (is_s h (j := 30) (by decide)).2, (is_s h (j := 31) (by decide)).2, (is_s h (j := 32) (by decide)).2, (is_s h (j := 33) (by decide)).2, e0, e1, e2, e3, e4, e5, e6, e7, h.hto, h.hat]
  simp only [pb_bind]
  by_cases h1 : k = 1
  · rw [if_pos (show nI (tkF k) = 2 by rw [h1]; rfl), decide_eq_true h1, Bool.true_and]
    cases isT k v L 0
    · cases isT k v L 1
      · cases isT k v L 2
        · cases isT k v L 3
          · cases isT k v L 4
            · cases isT k v L 5
              · cases isT k v L 6
                · cases isT k v L 7 <;> rfl
                · rfl
              · rfl
            · rfl
          · rfl
        · rfl
      · rfl
    · rfl
  · rw [if_neg (tkF_ne (t := 0) h.hk h1), decide_eq_false h1, Bool.false_and]
    rfl
/-! names -/
abbrev nmOk (r : Nat → Int32) (i : Nat) (name : Int64) : Prop :=
  (1 ≤ nN r i) ∧
  (nN r i ≤ 8) ∧
  (r (171 + i) = nI (nN r i)) ∧
  (∀ k, k < nN r i → 1 ≤ nL r i k ∧ nL r i k ≤ 26 ∧ r (189 + 8 * i + k) = nI (nL r i k + 96)) ∧
  (name = Int64.ofNat (pkN (nL r i) (nN r i)))
theorem nmOk.n1 {r : Nat → Int32} {i : Nat} {name : Int64} (h : nmOk r i name) : 1 ≤ nN r i := h.1
theorem nmOk.n2 {r : Nat → Int32} {i : Nat} {name : Int64} (h : nmOk r i name) : nN r i ≤ 8 := h.2.1
theorem nmOk.nz {r : Nat → Int32} {i : Nat} {name : Int64} (h : nmOk r i name) : r (171 + i) = nI (nN r i) := h.2.2.1
theorem nmOk.nl {r : Nat → Int32} {i : Nat} {name : Int64} (h : nmOk r i name) : ∀ k, k < nN r i → 1 ≤ nL r i k ∧ nL r i k ≤ 26 ∧ r (189 + 8 * i + k) = nI (nL r i k + 96) := h.2.2.2.1
theorem nmOk.np {r : Nat → Int32} {i : Nat} {name : Int64} (h : nmOk r i name) : name = Int64.ofNat (pkN (nL r i) (nN r i)) := h.2.2.2.2
abbrev nmR (W P : Nat) (fr : Nat → Int32) (wn pn : Nat → Int64) : Prop :=
  (W ≤ 10) ∧
  (P ≤ 8) ∧
  (∀ w, w < W → nmOk fr w (wn w)) ∧
  (∀ p, p < P → nmOk fr (10 + p) (pn p)) ∧
  (∀ i, i < 18 → ¬ i < W → ¬ (10 ≤ i ∧ i < 10 + P) → fr (171 + i) = nI 0)
theorem nmR.W10 {W P : Nat} {fr : Nat → Int32} {wn pn : Nat → Int64} (h : nmR W P fr wn pn) : W ≤ 10 := h.1
theorem nmR.P8 {W P : Nat} {fr : Nat → Int32} {wn pn : Nat → Int64} (h : nmR W P fr wn pn) : P ≤ 8 := h.2.1
theorem nmR.hw {W P : Nat} {fr : Nat → Int32} {wn pn : Nat → Int64} (h : nmR W P fr wn pn) : ∀ w, w < W → nmOk fr w (wn w) := h.2.2.1
theorem nmR.hp {W P : Nat} {fr : Nat → Int32} {wn pn : Nat → Int64} (h : nmR W P fr wn pn) : ∀ p, p < P → nmOk fr (10 + p) (pn p) := h.2.2.2.1
theorem nmR.hu {W P : Nat} {fr : Nat → Int32} {wn pn : Nat → Int64} (h : nmR W P fr wn pn) : ∀ i, i < 18 → ¬ i < W → ¬ (10 ≤ i ∧ i < 10 + P) → fr (171 + i) = nI 0 := h.2.2.2.2
def hitB (fr la : Nat → Int32) (v i : Nat) : Bool := decide (fr (171 + i) = nI v) && allB (fun k => decide (fr (189 + 8 * i + k) = la k)) v
theorem find46 {K : Int32 → Option Int32} {fr la : Nat → Int32} {v i : Nat} (hv : v ≤ 8) (hi : i < 18) : ∀ d n k : Nat, ∀ c : Bool, k + d = v → d < n → f_X11_find_46 K (nI v) la fr n (nI i) (bI c) (nI k) = if (c && allB (fun k' => decide (fr (189 + 8 * i + (k + k')) = la (k + k'))) d) = true then some (nI i) else K (nI (i + 1)) := by
  intro d
  induction d with
  | zero =>
    intro n k c hk hn
    obtain ⟨n', rfl, _⟩ := fuel_succ hn
    rw [f_X11_find_46, if_pos (nI_le (by omega) (by omega)), f_X11_find_94, nI_1]
    cases c <;> rfl
  | succ d ih =>
    intro n k c hk hn
    obtain ⟨n', rfl, _⟩ := fuel_succ hn
    rw [f_X11_find_46, if_neg (nI_ge (by omega) (by omega))]
    simp only [f_X11_find_94, f_X11_find_87]
    rw [nI_1, nI_1]
    cases c
    · rfl
    · have e : ((189 : Int32) + ((8 : Int32) * nI i)) + nI k = nI (189 + 8 * i + k) := by
        rw [show (189 : Int32) = nI 189 from rfl, show (8 : Int32) = nI 8 from rfl, pb_mul, pb_add, pb_add]
      rw [if_neg (show ¬ bI true = 0 by decide), e, if_pos (pb_ibt (by omega) (by omega)), if_pos (pb_ibt (by omega) (by omega)), nI_clamp (by omega), nI_clamp (by omega)]
      have hsh : ∀ c : Bool, (c && allB (fun k' => decide (fr (189 + 8 * i + (k + 1 + k')) = la (k + 1 + k'))) d) = true ↔ c = true ∧ ∀ k', k + 1 ≤ k' → k' < k + 1 + d → fr (189 + 8 * i + k') = la k' := by
        intro c
        rw [Bool.and_eq_true, allB_iff]
        refine and_congr Iff.rfl ⟨fun h k' h1 h2 => ?_, fun h k' h1 => decide_eq_true (h _ (by omega) (by omega))⟩
        have := of_decide_eq_true (h (k' - (k + 1)) (by omega))
        rw [show k + 1 + (k' - (k + 1)) = k' by omega] at this
        exact this
      have hsh2 : (true && allB (fun k' => decide (fr (189 + 8 * i + (k + k')) = la (k + k'))) (d + 1)) = true ↔ ∀ k', k ≤ k' → k' < k + 1 + d → fr (189 + 8 * i + k') = la k' := by
        rw [Bool.true_and, allB_iff]
        refine ⟨fun h k' h1 h2 => ?_, fun h k' h1 => decide_eq_true (h _ (by omega) (by omega))⟩
        have := of_decide_eq_true (h (k' - k) (by omega))
        rw [show k + (k' - k) = k' by omega] at this
        exact this
      by_cases hq : fr (189 + 8 * i + k) = la k
      · rw [if_pos hq]
        have := ih n' (k + 1) true (by omega) (by omega)
        refine this.trans ?_
        by_cases hall : ∀ k', k + 1 ≤ k' → k' < k + 1 + d → fr (189 + 8 * i + k') = la k'
        · rw [if_pos ((hsh true).mpr ⟨rfl, hall⟩), if_pos (hsh2.mpr (fun k' h1 h2 => by
            by_cases e : k' = k
            · rw [e]; exact hq
            · exact hall k' (by omega) h2))]
        · rw [if_neg (fun z => hall ((hsh true).mp z).2), if_neg (fun z => hall (fun k' h1 h2 => hsh2.mp z k' (by omega) h2))]
      · rw [if_neg hq]
        have := ih n' (k + 1) false (by omega) (by omega)
        refine this.trans ?_
        rw [if_neg (fun z => by cases z), if_neg (fun z => hq (hsh2.mp z k (by omega) (by omega)))]
theorem find_l {fr la : Nat → Int32} {v : Nat} (hv1 : 1 ≤ v) (hv : v ≤ 8) (hz : ∀ i, i < 18 → ∃ c, c ≤ 8 ∧ fr (171 + i) = nI c) : ∀ d n i : Nat, i + d = 18 → d < n → (∀ j, j < i → hitB fr la v j = false) → (∃ r, r < 18 ∧ hitB fr la v r = true ∧ (∀ j, j < r → hitB fr la v j = false) ∧ f_X11_find_2 (nI v) la fr n (nI i) = some (nI r)) ∨ ((∀ j, j < 18 → hitB fr la v j = false) ∧ f_X11_find_2 (nI v) la fr n (nI i) = some (-1)) := by
  intro d
  induction d with
  | zero =>
    intro n i hi hn hno
    obtain ⟨n', rfl, _⟩ := fuel_succ hn
    obtain rfl : i = 18 := by omega
    refine Or.inr ⟨hno, ?_⟩
    rw [f_X11_find_2, if_pos (by decide)]
  | succ d ih =>
    intro n i hi hn hno
    obtain ⟨n', rfl, _⟩ := fuel_succ hn
    obtain ⟨c, c8, hc⟩ := hz i (by omega)
    have e : (171 : Int32) + nI i = nI (171 + i) := by rw [show (171 : Int32) = nI 171 from rfl, pb_add]
    have hib : rf_ib (nI (171 + i)) 333 = true := pb_ibt (by omega) (by omega)
    rw [f_X11_find_2, if_neg (show ¬ (18 : Int32) ≤ nI i from nI_ge (b := 18) (by omega) (by decide)), e, if_pos hib, nI_clamp (by omega), hc]
    simp only [f_X11_find_42, f_X11_find_43]
    rw [if_pos hib]
    have h0 := find46 (K := f_X11_find_2 (nI v) la fr n') (fr := fr) (la := la) (v := v) (i := i) hv (by omega) v rf_fu 0 false (by omega) (by show v < 4096; omega)
    have h1 := find46 (K := f_X11_find_2 (nI v) la fr n') (fr := fr) (la := la) (v := v) (i := i) hv (by omega) v rf_fu 0 true (by omega) (by show v < 4096; omega)
    rw [Bool.false_and, if_neg (by decide)] at h0
    have hall : allB (fun k' => decide (fr (189 + 8 * i + (0 + k')) = la (0 + k'))) v = allB (fun k => decide (fr (189 + 8 * i + k) = la k)) v := allB_congr v (fun k _ => by rw [Nat.zero_add])
    rw [Bool.true_and, hall] at h1
    have next : hitB fr la v i = false → (∃ r, r < 18 ∧ hitB fr la v r = true ∧ (∀ j, j < r → hitB fr la v j = false) ∧ f_X11_find_2 (nI v) la fr n' (nI (i + 1)) = some (nI r)) ∨ ((∀ j, j < 18 → hitB fr la v j = false) ∧ f_X11_find_2 (nI v) la fr n' (nI (i + 1)) = some (-1)) := fun hh => ih n' (i + 1) (by omega) (by omega) (fun j hj => by
      by_cases ej : j = i
      · rw [ej]; exact hh
      · exact hno j (by omega))
    by_cases hc0 : c = 0
    · rw [if_pos (show nI c ≤ 0 by rw [hc0]; decide), show (0 : Int32) = bI false from rfl, show bI false = nI 0 from rfl]
      rw [show (bI false : Int32) = nI 0 from rfl] at h0
      rw [h0]
      refine next ?_
      unfold hitB
      rw [hc, decide_eq_false (fun z => by have := (nI_eq (a := c) (b := v) (by omega) (by omega)).mp z; omega), Bool.false_and]
    · rw [if_neg (show ¬ nI c ≤ 0 from nI_ge (a := 0) (by omega) (by omega))]
      by_cases hcv : c = v
      · rw [if_pos (by rw [hcv])]
        have h1' : f_X11_find_46 (f_X11_find_2 (nI v) la fr n') (nI v) la fr rf_fu (nI i) 1 0 = _ := h1
        rw [h1']
        by_cases hA : allB (fun k => decide (fr (189 + 8 * i + k) = la k)) v = true
        · rw [if_pos hA]
          refine Or.inl ⟨i, by omega, ?_, hno, rfl⟩
          unfold hitB
          rw [hc, decide_eq_true (by rw [hcv]), hA]; rfl
        · rw [if_neg hA]
          refine next ?_
          unfold hitB
          rw [(Bool.not_eq_true _).mp hA, Bool.and_false]
      · rw [if_neg (fun z => hcv ((nI_eq (by omega) (by omega)).mp z))]
        have h0' : f_X11_find_46 (f_X11_find_2 (nI v) la fr n') (nI v) la fr rf_fu (nI i) 0 0 = _ := h0
        rw [h0']
        refine next ?_
        unfold hitB
        rw [hc, decide_eq_false (fun z => hcv ((nI_eq (by omega) (by omega)).mp z)), Bool.false_and]
theorem hit_iff {fr la : Nat → Int32} {v i : Nat} {L : Nat → Nat} {name : Int64} (hv1 : 1 ≤ v) (hv : v ≤ 8) (hL : ∀ j, j < v → 1 ≤ L j ∧ L j ≤ 26 ∧ la j = nI (L j + 96)) (h : nmOk fr i name) : hitB fr la v i = true ↔ name = Int64.ofNat (pkN L v) := by
  have n8 := h.n2
  have b1 : ∀ k, k < nN fr i → nL fr i k ≤ 31 := fun k hk => by have := (h.nl k hk).2.1; omega
  have b2 : ∀ k, k < v → L k ≤ 31 := fun k hk => by have := (hL k hk).2.1; omega
  rw [h.np, i64_eq (pkN_63 (by omega) b1) (pkN_63 (by omega) b2)]
  unfold hitB
  rw [Bool.and_eq_true, allB_iff, h.nz]
  constructor
  · rintro ⟨h1, h2⟩
    have hnv := (nI_eq (by omega) (by omega)).mp (of_decide_eq_true h1)
    rw [hnv]
    refine (pkN_eq v (fun k hk => b1 k (by omega)) b2).mpr (fun k hk => ?_)
    have := of_decide_eq_true (h2 k hk)
    rw [(h.nl k (by omega)).2.2, (hL k hk).2.2] at this
    have q1 := (h.nl k (by omega)).2.1
    have q2 := (hL k hk).2.1
    have := (nI_eq (by omega) (by omega)).mp this
    omega
  · intro hp
    obtain ⟨e1, e2⟩ := pkN_inj (nN fr i) v (fun k hk => ⟨(h.nl k hk).1, b1 k hk⟩) (fun k hk => ⟨(hL k hk).1, b2 k hk⟩) hp
    refine ⟨decide_eq_true (by rw [e1]), fun k hk => decide_eq_true ?_⟩
    rw [(h.nl k (by omega)).2.2, (hL k hk).2.2, e2 k (by omega)]
/-- what is found by a name -/
theorem find_s {W P : Nat} {fr : Nat → Int32} {wn pn : Nat → Int64} (h : nmR W P fr wn pn) {v : Nat} {L : Nat → Nat} {la : Nat → Int32} (hv1 : 1 ≤ v) (hv : v ≤ 8) (hL : ∀ j, j < v → 1 ≤ L j ∧ L j ≤ 26 ∧ la j = nI (L j + 96)) :
    (∃ w, w < W ∧ wn w = Int64.ofNat (pkN L v) ∧ (∀ w', w' < w → wn w' ≠ Int64.ofNat (pkN L v)) ∧ f_X11_find (nI v) la fr = some (nI w)) ∨ ((∀ w, w < W → wn w ≠ Int64.ofNat (pkN L v)) ∧ ((∃ p, p < P ∧ pn p = Int64.ofNat (pkN L v) ∧ (∀ p', p' < p → pn p' ≠ Int64.ofNat (pkN L v)) ∧ f_X11_find (nI v) la fr = some (nI (10 + p))) ∨ ((∀ p, p < P → pn p ≠ Int64.ofNat (pkN L v)) ∧ f_X11_find (nI v) la fr = some (-1)))) := by
  have hW := h.W10
  have hP := h.P8
  have hz : ∀ i, i < 18 → ∃ c, c ≤ 8 ∧ fr (171 + i) = nI c := by
    intro i hi
    by_cases h1 : i < W
    · exact ⟨_, (h.hw i h1).n2, (h.hw i h1).nz⟩
    · by_cases h2 : 10 ≤ i ∧ i < 10 + P
      · have := h.hp (i - 10) (by omega)
        rw [show 10 + (i - 10) = i by omega] at this
        exact ⟨_, this.n2, this.nz⟩
      · exact ⟨0, by omega, h.hu i hi h1 h2⟩
  have hun : ∀ i, i < 18 → hitB fr la v i = true → i < W ∨ (10 ≤ i ∧ i < 10 + P) := by
    intro i hi hh
    apply Classical.byContradiction
    intro hn
    have := h.hu i hi (fun z => hn (Or.inl z)) (fun z => hn (Or.inr z))
    unfold hitB at hh
    rw [this, decide_eq_false (fun z => by have := (nI_eq (a := 0) (b := v) (by decide) (by omega)).mp z; omega), Bool.false_and] at hh
    cases hh
  have hw := fun w (hw : w < W) => hit_iff hv1 hv hL (h.hw w hw)
  have hp := fun p (hp : p < P) => hit_iff hv1 hv hL (h.hp p hp)
  unfold f_X11_find
  rcases find_l hv1 hv hz 18 rf_fu 0 (by omega) (by decide) (fun j hj => by omega) with ⟨r, r1, r2, r3, r4⟩ | ⟨r3, r4⟩
  · rcases hun r r1 r2 with hr | ⟨hr1, hr2⟩
    · refine Or.inl ⟨r, hr, (hw r hr).mp r2, fun w' hw' z => ?_, r4⟩
      have := r3 w' hw'
      rw [(hw w' (by omega)).mpr z] at this; cases this
    · refine Or.inr ⟨fun w hwW z => ?_, Or.inl ⟨r - 10, by omega, ?_, fun p' hp' z => ?_, ?_⟩⟩
      · have := r3 w (by omega)
        rw [(hw w hwW).mpr z] at this; cases this
      · refine (hp (r - 10) (by omega)).mp ?_
        rw [show 10 + (r - 10) = r by omega]; exact r2
      · have := r3 (10 + p') (by omega)
        rw [(hp p' (by omega)).mpr z] at this; cases this
      · rw [show 10 + (r - 10) = r by omega]; exact r4
  · refine Or.inr ⟨fun w hwW z => ?_, Or.inr ⟨fun p hpP z => ?_, r4⟩⟩
    · have := r3 w (by omega)
      rw [(hw w hwW).mpr z] at this; cases this
    · have := r3 (10 + p) (by omega)
      rw [(hp p hpP).mpr z] at this; cases this
theorem wordNamed_s {W : Nat} (hW : W ≤ 10) (wn : Nat → Int64) (nm : Int64) : ∀ d n i : Nat, i + d = W → d < n → (∀ w, w < i → wn w ≠ nm) → (∃ w, w < W ∧ wn w = nm ∧ (∀ w', w' < w → wn w' ≠ nm) ∧ f_X9_wordNamed_2 (nI W) wn n nm (nI i) = some (nI w)) ∨ ((∀ w, w < W → wn w ≠ nm) ∧ f_X9_wordNamed_2 (nI W) wn n nm (nI i) = some (-1)) := by
  intro d
  induction d with
  | zero =>
    intro n i hi hn hno
    obtain ⟨n', rfl, _⟩ := fuel_succ hn
    obtain rfl : i = W := by omega
    refine Or.inr ⟨hno, ?_⟩
    rw [f_X9_wordNamed_2, if_pos (nI_le (Nat.le_refl _) (by omega))]
  | succ d ih =>
    intro n i hi hn hno
    obtain ⟨n', rfl, _⟩ := fuel_succ hn
    rw [f_X9_wordNamed_2, if_neg (nI_ge (by omega) (by omega)), if_pos (pb_ibt (by omega) (by omega)), nI_clamp (by omega), nI_1]
    by_cases e : wn i = nm
    · rw [if_pos ((lg_cmp_eq _ _).mpr e)]
      exact Or.inl ⟨i, by omega, e, hno, rfl⟩
    · rw [if_neg (fun z => e ((lg_cmp_eq _ _).mp z))]
      refine ih n' (i + 1) (by omega) (by omega) (fun w hw => ?_)
      by_cases ew : w = i
      · rw [ew]; exact e
      · exact hno w (by omega)
theorem personNamed_s {W : Nat} (hW : W ≤ 8) (wn : Nat → Int64) (nm : Int64) : ∀ d n i : Nat, i + d = W → d < n → (∀ w, w < i → wn w ≠ nm) → (∃ w, w < W ∧ wn w = nm ∧ (∀ w', w' < w → wn w' ≠ nm) ∧ f_X9_personNamed_2 (nI W) wn n nm (nI i) = some (nI w)) ∨ ((∀ w, w < W → wn w ≠ nm) ∧ f_X9_personNamed_2 (nI W) wn n nm (nI i) = some (-1)) := by
  intro d
  induction d with
  | zero =>
    intro n i hi hn hno
    obtain ⟨n', rfl, _⟩ := fuel_succ hn
    obtain rfl : i = W := by omega
    refine Or.inr ⟨hno, ?_⟩
    rw [f_X9_personNamed_2, if_pos (nI_le (Nat.le_refl _) (by omega))]
  | succ d ih =>
    intro n i hi hn hno
    obtain ⟨n', rfl, _⟩ := fuel_succ hn
    rw [f_X9_personNamed_2, if_neg (nI_ge (by omega) (by omega)), if_pos (pb_ibt (by omega) (by omega)), nI_clamp (by omega), nI_1]
    by_cases e : wn i = nm
    · rw [if_pos ((lg_cmp_eq _ _).mpr e)]
      exact Or.inl ⟨i, by omega, e, hno, rfl⟩
    · rw [if_neg (fun z => e ((lg_cmp_eq _ _).mp z))]
      refine ih n' (i + 1) (by omega) (by omega) (fun w hw => ?_)
      by_cases ew : w = i
      · rw [ew]; exact e
      · exact hno w (by omega)
