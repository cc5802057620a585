/-! the invariant -/
/-- how far a test holds on from i -/
def rf_run (p : Nat → Bool) : Nat → Nat → Nat
  | 0, i => i
  | d + 1, i => if p i = true then rf_run p d (i + 1) else i
/-- letters, five bits each -/
def pkN (f : Nat → Nat) : Nat → Nat
  | 0 => 0
  | n + 1 => pkN f n * 32 + f n
def sN (r : Nat → Int32) (w : Nat) : Nat := (r (10 + 8 * w)).toNatClampNeg
def sL (r : Nat → Int32) (w k : Nat) : Nat := (r (11 + 8 * w + k)).toNatClampNeg + 1
def nN (r : Nat → Int32) (w : Nat) : Nat := (r (171 + w)).toNatClampNeg
def nL (r : Nat → Int32) (w k : Nat) : Nat := (r (189 + 8 * w + k)).toNatClampNeg - 96
def alk (r : Nat → Int32) (a b : Nat) : Bool := a == b || bt (r (121 + (a - 1))) (b - 1)
def lkN (r : Nat → Int32) (w u : Nat) : Nat := rf_run (fun k => alk r (sL r w (sN r w - 1 - k)) (sL r u (sN r u - 1 - k))) (min (sN r w) (sN r u)) 0
def eyN (r : Nat → Int32) (w u : Nat) : Nat := rf_run (fun k => nL r w (nN r w - 1 - k) == nL r u (nN r u - 1 - k)) (min (nN r w) (nN r u)) 0
/-- how many of the first n places hold more than 0 -/
def cntP (f : Nat → Int32) : Nat → Nat
  | 0 => 0
  | n + 1 => cntP f n + if nI 0 < f n then 1 else 0
def pTape (n : Int32) (x : Nat → Int32) (n' : Int32) (m : Nat → Int32) : Prop :=
  n' = n ∧ 0 ≤ n ∧ n ≤ 900 ∧ ∀ k, -128 ≤ x k ∧ x k ≤ 127 ∧ m k = x k &&& 255
def pFault (a b t a' b' t' : Int32) : Prop := a = a' ∧ t = t' ∧ (t = 4 → b = b')
/-- a word of the tale -/
abbrev pWord (r : Nat → Int32) (W w : Nat) (name sound : Int64) (price : Int32) : Prop :=
  (price = r (9 + 8 * w)) ∧
  (∃ c, c ≤ 99 ∧ price = nI c) ∧
  (2 ≤ sN r w) ∧
  (sN r w ≤ 6) ∧
  (r (10 + 8 * w) = nI (sN r w)) ∧
  (∀ k, k < sN r w → sL r w k ≤ 8 ∧ r (11 + 8 * w + k) = nI (sL r w k - 1)) ∧
  (sound = Int64.ofNat (pkN (sL r w) (sN r w))) ∧
  (1 ≤ nN r w) ∧
  (nN r w ≤ 8) ∧
  (r (171 + w) = nI (nN r w)) ∧
  (∀ k, k < nN r w → 1 ≤ nL r w k ∧ nL r w k ≤ 26 ∧ r (189 + 8 * w + k) = nI (nL r w k + 96)) ∧
  (name = Int64.ofNat (pkN (nL r w) (nN r w)))
theorem pWord.hprice {r : Nat → Int32} {W w : Nat} {name sound : Int64} {price : Int32} (h : pWord r W w name sound price) : price = r (9 + 8 * w) := h.1
theorem pWord.hprice0 {r : Nat → Int32} {W w : Nat} {name sound : Int64} {price : Int32} (h : pWord r W w name sound price) : ∃ c, c ≤ 99 ∧ price = nI c := h.2.1
theorem pWord.s1 {r : Nat → Int32} {W w : Nat} {name sound : Int64} {price : Int32} (h : pWord r W w name sound price) : 2 ≤ sN r w := h.2.2.1
theorem pWord.s2 {r : Nat → Int32} {W w : Nat} {name sound : Int64} {price : Int32} (h : pWord r W w name sound price) : sN r w ≤ 6 := h.2.2.2.1
theorem pWord.sz {r : Nat → Int32} {W w : Nat} {name sound : Int64} {price : Int32} (h : pWord r W w name sound price) : r (10 + 8 * w) = nI (sN r w) := h.2.2.2.2.1
theorem pWord.sl {r : Nat → Int32} {W w : Nat} {name sound : Int64} {price : Int32} (h : pWord r W w name sound price) : ∀ k, k < sN r w → sL r w k ≤ 8 ∧ r (11 + 8 * w + k) = nI (sL r w k - 1) := h.2.2.2.2.2.1
theorem pWord.sp {r : Nat → Int32} {W w : Nat} {name sound : Int64} {price : Int32} (h : pWord r W w name sound price) : sound = Int64.ofNat (pkN (sL r w) (sN r w)) := h.2.2.2.2.2.2.1
theorem pWord.n1 {r : Nat → Int32} {W w : Nat} {name sound : Int64} {price : Int32} (h : pWord r W w name sound price) : 1 ≤ nN r w := h.2.2.2.2.2.2.2.1
theorem pWord.n2 {r : Nat → Int32} {W w : Nat} {name sound : Int64} {price : Int32} (h : pWord r W w name sound price) : nN r w ≤ 8 := h.2.2.2.2.2.2.2.2.1
theorem pWord.nz {r : Nat → Int32} {W w : Nat} {name sound : Int64} {price : Int32} (h : pWord r W w name sound price) : r (171 + w) = nI (nN r w) := h.2.2.2.2.2.2.2.2.2.1
theorem pWord.nl {r : Nat → Int32} {W w : Nat} {name sound : Int64} {price : Int32} (h : pWord r W w name sound price) : ∀ k, k < nN r w → 1 ≤ nL r w k ∧ nL r w k ≤ 26 ∧ r (189 + 8 * w + k) = nI (nL r w k + 96) := h.2.2.2.2.2.2.2.2.2.2.1
theorem pWord.np {r : Nat → Int32} {W w : Nat} {name sound : Int64} {price : Int32} (h : pWord r W w name sound price) : name = Int64.ofNat (pkN (nL r w) (nN r w)) := h.2.2.2.2.2.2.2.2.2.2.2
abbrev pPer (r : Nat → Int32) (p : Nat) (kind errand : Int32) : Prop :=
  (kind = r (89 + 4 * p)) ∧
  (∃ c, c ≤ 3 ∧ kind = nI c) ∧
  (errand = r (92 + 4 * p)) ∧
  (∃ c, c ≤ 4 ∧ errand = nI c)
theorem pPer.hkind {r : Nat → Int32} {p : Nat} {kind errand : Int32} (h : pPer r p kind errand) : kind = r (89 + 4 * p) := h.1
theorem pPer.hkind0 {r : Nat → Int32} {p : Nat} {kind errand : Int32} (h : pPer r p kind errand) : ∃ c, c ≤ 3 ∧ kind = nI c := h.2.1
theorem pPer.herr {r : Nat → Int32} {p : Nat} {kind errand : Int32} (h : pPer r p kind errand) : errand = r (92 + 4 * p) := h.2.2.1
theorem pPer.herr0 {r : Nat → Int32} {p : Nat} {kind errand : Int32} (h : pPer r p kind errand) : ∃ c, c ≤ 4 ∧ errand = nI c := h.2.2.2
abbrev pGot (r : Nat → Int32) (P g : Nat) (a b d : Int32) : Prop :=
  (a = r (153 + 3 * g)) ∧
  (b = r (154 + 3 * g)) ∧
  (d = r (155 + 3 * g)) ∧
  (∃ c, c < P ∧ a = nI c) ∧
  (∃ c, c < P ∧ b = nI c) ∧
  (∃ c, c ≤ 2 ∧ d = nI c)
theorem pGot.ha {r : Nat → Int32} {P g : Nat} {a b d : Int32} (h : pGot r P g a b d) : a = r (153 + 3 * g) := h.1
theorem pGot.hb {r : Nat → Int32} {P g : Nat} {a b d : Int32} (h : pGot r P g a b d) : b = r (154 + 3 * g) := h.2.1
theorem pGot.hd {r : Nat → Int32} {P g : Nat} {a b d : Int32} (h : pGot r P g a b d) : d = r (155 + 3 * g) := h.2.2.1
theorem pGot.ha0 {r : Nat → Int32} {P g : Nat} {a b d : Int32} (h : pGot r P g a b d) : ∃ c, c < P ∧ a = nI c := h.2.2.2.1
theorem pGot.hb0 {r : Nat → Int32} {P g : Nat} {a b d : Int32} (h : pGot r P g a b d) : ∃ c, c < P ∧ b = nI c := h.2.2.2.2.1
theorem pGot.hd0 {r : Nat → Int32} {P g : Nat} {a b d : Int32} (h : pGot r P g a b d) : ∃ c, c ≤ 2 ∧ d = nI c := h.2.2.2.2.2
abbrev pTale (W P G : Nat) (r : Nat → Int32) (ear pairs wc pc ac gc : Int32) (names sounds : Nat → Int64) (prices kinds errands alikes hears g1 g2 g3 : Nat → Int32) : Prop :=
  (W ≤ 10) ∧
  (P ≤ 8) ∧
  (G ≤ 6) ∧
  (ear = r 0) ∧
  (pairs = r 1) ∧
  (wc = nI W) ∧
  (r 2 = nI W) ∧
  (pc = nI P) ∧
  (r 3 = nI P) ∧
  (ac = r 4) ∧
  (gc = nI G) ∧
  (r 7 = nI G) ∧
  (r 5 = nI (cntP hears 24)) ∧
  (r 6 = nI (cntP errands P)) ∧
  (0 < P → ∃ c, 1 ≤ c ∧ c ≤ 6 ∧ ear = nI c) ∧
  (0 < P → ∃ c, 1 ≤ c ∧ c ≤ 3 ∧ pairs = nI c) ∧
  (∀ w, w < W → pWord r W w (names w) (sounds w) (prices w)) ∧
  (∀ p, p < P → pPer r p (kinds p) (errands p)) ∧
  (∀ g, g < G → pGot r P g (g1 g) (g2 g) (g3 g)) ∧
  (∀ a b, a < 8 → b < 8 → bt (alikes (a + 1)) (b + 1) = bt (r (121 + a)) b) ∧
  (∀ a b, a < 8 → b < 8 → bt (r (121 + a)) b = bt (r (121 + b)) a) ∧
  (∀ h, h < 24 → hears h = r (129 + h)) ∧
  (∀ h, h < 24 → ∃ c, c ≤ 6 ∧ hears h = nI c)
theorem pTale.W10 {W P G : Nat} {r : Nat → Int32} {ear pairs wc pc ac gc : Int32} {names sounds : Nat → Int64} {prices kinds errands alikes hears g1 g2 g3 : Nat → Int32} (h : pTale W P G r ear pairs wc pc ac gc names sounds prices kinds errands alikes hears g1 g2 g3) : W ≤ 10 := h.1
theorem pTale.P8 {W P G : Nat} {r : Nat → Int32} {ear pairs wc pc ac gc : Int32} {names sounds : Nat → Int64} {prices kinds errands alikes hears g1 g2 g3 : Nat → Int32} (h : pTale W P G r ear pairs wc pc ac gc names sounds prices kinds errands alikes hears g1 g2 g3) : P ≤ 8 := h.2.1
theorem pTale.G6 {W P G : Nat} {r : Nat → Int32} {ear pairs wc pc ac gc : Int32} {names sounds : Nat → Int64} {prices kinds errands alikes hears g1 g2 g3 : Nat → Int32} (h : pTale W P G r ear pairs wc pc ac gc names sounds prices kinds errands alikes hears g1 g2 g3) : G ≤ 6 := h.2.2.1
theorem pTale.hear {W P G : Nat} {r : Nat → Int32} {ear pairs wc pc ac gc : Int32} {names sounds : Nat → Int64} {prices kinds errands alikes hears g1 g2 g3 : Nat → Int32} (h : pTale W P G r ear pairs wc pc ac gc names sounds prices kinds errands alikes hears g1 g2 g3) : ear = r 0 := h.2.2.2.1
theorem pTale.hpairs {W P G : Nat} {r : Nat → Int32} {ear pairs wc pc ac gc : Int32} {names sounds : Nat → Int64} {prices kinds errands alikes hears g1 g2 g3 : Nat → Int32} (h : pTale W P G r ear pairs wc pc ac gc names sounds prices kinds errands alikes hears g1 g2 g3) : pairs = r 1 := h.2.2.2.2.1
theorem pTale.hwc {W P G : Nat} {r : Nat → Int32} {ear pairs wc pc ac gc : Int32} {names sounds : Nat → Int64} {prices kinds errands alikes hears g1 g2 g3 : Nat → Int32} (h : pTale W P G r ear pairs wc pc ac gc names sounds prices kinds errands alikes hears g1 g2 g3) : wc = nI W := h.2.2.2.2.2.1
theorem pTale.hwc' {W P G : Nat} {r : Nat → Int32} {ear pairs wc pc ac gc : Int32} {names sounds : Nat → Int64} {prices kinds errands alikes hears g1 g2 g3 : Nat → Int32} (h : pTale W P G r ear pairs wc pc ac gc names sounds prices kinds errands alikes hears g1 g2 g3) : r 2 = nI W := h.2.2.2.2.2.2.1
theorem pTale.hpc {W P G : Nat} {r : Nat → Int32} {ear pairs wc pc ac gc : Int32} {names sounds : Nat → Int64} {prices kinds errands alikes hears g1 g2 g3 : Nat → Int32} (h : pTale W P G r ear pairs wc pc ac gc names sounds prices kinds errands alikes hears g1 g2 g3) : pc = nI P := h.2.2.2.2.2.2.2.1
theorem pTale.hpc' {W P G : Nat} {r : Nat → Int32} {ear pairs wc pc ac gc : Int32} {names sounds : Nat → Int64} {prices kinds errands alikes hears g1 g2 g3 : Nat → Int32} (h : pTale W P G r ear pairs wc pc ac gc names sounds prices kinds errands alikes hears g1 g2 g3) : r 3 = nI P := h.2.2.2.2.2.2.2.2.1
theorem pTale.hac {W P G : Nat} {r : Nat → Int32} {ear pairs wc pc ac gc : Int32} {names sounds : Nat → Int64} {prices kinds errands alikes hears g1 g2 g3 : Nat → Int32} (h : pTale W P G r ear pairs wc pc ac gc names sounds prices kinds errands alikes hears g1 g2 g3) : ac = r 4 := h.2.2.2.2.2.2.2.2.2.1
theorem pTale.hgc {W P G : Nat} {r : Nat → Int32} {ear pairs wc pc ac gc : Int32} {names sounds : Nat → Int64} {prices kinds errands alikes hears g1 g2 g3 : Nat → Int32} (h : pTale W P G r ear pairs wc pc ac gc names sounds prices kinds errands alikes hears g1 g2 g3) : gc = nI G := h.2.2.2.2.2.2.2.2.2.2.1
theorem pTale.hgc' {W P G : Nat} {r : Nat → Int32} {ear pairs wc pc ac gc : Int32} {names sounds : Nat → Int64} {prices kinds errands alikes hears g1 g2 g3 : Nat → Int32} (h : pTale W P G r ear pairs wc pc ac gc names sounds prices kinds errands alikes hears g1 g2 g3) : r 7 = nI G := h.2.2.2.2.2.2.2.2.2.2.2.1
theorem pTale.hc {W P G : Nat} {r : Nat → Int32} {ear pairs wc pc ac gc : Int32} {names sounds : Nat → Int64} {prices kinds errands alikes hears g1 g2 g3 : Nat → Int32} (h : pTale W P G r ear pairs wc pc ac gc names sounds prices kinds errands alikes hears g1 g2 g3) : r 5 = nI (cntP hears 24) := h.2.2.2.2.2.2.2.2.2.2.2.2.1
theorem pTale.ec {W P G : Nat} {r : Nat → Int32} {ear pairs wc pc ac gc : Int32} {names sounds : Nat → Int64} {prices kinds errands alikes hears g1 g2 g3 : Nat → Int32} (h : pTale W P G r ear pairs wc pc ac gc names sounds prices kinds errands alikes hears g1 g2 g3) : r 6 = nI (cntP errands P) := h.2.2.2.2.2.2.2.2.2.2.2.2.2.1
theorem pTale.hear0 {W P G : Nat} {r : Nat → Int32} {ear pairs wc pc ac gc : Int32} {names sounds : Nat → Int64} {prices kinds errands alikes hears g1 g2 g3 : Nat → Int32} (h : pTale W P G r ear pairs wc pc ac gc names sounds prices kinds errands alikes hears g1 g2 g3) : 0 < P → ∃ c, 1 ≤ c ∧ c ≤ 6 ∧ ear = nI c := h.2.2.2.2.2.2.2.2.2.2.2.2.2.2.1
theorem pTale.hpairs0 {W P G : Nat} {r : Nat → Int32} {ear pairs wc pc ac gc : Int32} {names sounds : Nat → Int64} {prices kinds errands alikes hears g1 g2 g3 : Nat → Int32} (h : pTale W P G r ear pairs wc pc ac gc names sounds prices kinds errands alikes hears g1 g2 g3) : 0 < P → ∃ c, 1 ≤ c ∧ c ≤ 3 ∧ pairs = nI c := h.2.2.2.2.2.2.2.2.2.2.2.2.2.2.2.1
theorem pTale.words {W P G : Nat} {r : Nat → Int32} {ear pairs wc pc ac gc : Int32} {names sounds : Nat → Int64} {prices kinds errands alikes hears g1 g2 g3 : Nat → Int32} (h : pTale W P G r ear pairs wc pc ac gc names sounds prices kinds errands alikes hears g1 g2 g3) : ∀ w, w < W → pWord r W w (names w) (sounds w) (prices w) := h.2.2.2.2.2.2.2.2.2.2.2.2.2.2.2.2.1
theorem pTale.pers {W P G : Nat} {r : Nat → Int32} {ear pairs wc pc ac gc : Int32} {names sounds : Nat → Int64} {prices kinds errands alikes hears g1 g2 g3 : Nat → Int32} (h : pTale W P G r ear pairs wc pc ac gc names sounds prices kinds errands alikes hears g1 g2 g3) : ∀ p, p < P → pPer r p (kinds p) (errands p) := h.2.2.2.2.2.2.2.2.2.2.2.2.2.2.2.2.2.1
theorem pTale.gots {W P G : Nat} {r : Nat → Int32} {ear pairs wc pc ac gc : Int32} {names sounds : Nat → Int64} {prices kinds errands alikes hears g1 g2 g3 : Nat → Int32} (h : pTale W P G r ear pairs wc pc ac gc names sounds prices kinds errands alikes hears g1 g2 g3) : ∀ g, g < G → pGot r P g (g1 g) (g2 g) (g3 g) := h.2.2.2.2.2.2.2.2.2.2.2.2.2.2.2.2.2.2.1
theorem pTale.al {W P G : Nat} {r : Nat → Int32} {ear pairs wc pc ac gc : Int32} {names sounds : Nat → Int64} {prices kinds errands alikes hears g1 g2 g3 : Nat → Int32} (h : pTale W P G r ear pairs wc pc ac gc names sounds prices kinds errands alikes hears g1 g2 g3) : ∀ a b, a < 8 → b < 8 → bt (alikes (a + 1)) (b + 1) = bt (r (121 + a)) b := h.2.2.2.2.2.2.2.2.2.2.2.2.2.2.2.2.2.2.2.1
theorem pTale.als {W P G : Nat} {r : Nat → Int32} {ear pairs wc pc ac gc : Int32} {names sounds : Nat → Int64} {prices kinds errands alikes hears g1 g2 g3 : Nat → Int32} (h : pTale W P G r ear pairs wc pc ac gc names sounds prices kinds errands alikes hears g1 g2 g3) : ∀ a b, a < 8 → b < 8 → bt (r (121 + a)) b = bt (r (121 + b)) a := h.2.2.2.2.2.2.2.2.2.2.2.2.2.2.2.2.2.2.2.2.1
theorem pTale.he {W P G : Nat} {r : Nat → Int32} {ear pairs wc pc ac gc : Int32} {names sounds : Nat → Int64} {prices kinds errands alikes hears g1 g2 g3 : Nat → Int32} (h : pTale W P G r ear pairs wc pc ac gc names sounds prices kinds errands alikes hears g1 g2 g3) : ∀ h, h < 24 → hears h = r (129 + h) := h.2.2.2.2.2.2.2.2.2.2.2.2.2.2.2.2.2.2.2.2.2.1
theorem pTale.he0 {W P G : Nat} {r : Nat → Int32} {ear pairs wc pc ac gc : Int32} {names sounds : Nat → Int64} {prices kinds errands alikes hears g1 g2 g3 : Nat → Int32} (h : pTale W P G r ear pairs wc pc ac gc names sounds prices kinds errands alikes hears g1 g2 g3) : ∀ h, h < 24 → ∃ c, c ≤ 6 ∧ hears h = nI c := h.2.2.2.2.2.2.2.2.2.2.2.2.2.2.2.2.2.2.2.2.2.2
def pClose (W : Nat) (r : Nat → Int32) (close : Nat → Int32) : Prop :=
  ∀ m e w, m < 2 → e < 8 → w < W → ∀ u, bt (close ((m * 8 + e) * 10 + w)) u = (decide (u < W) && decide (e ≤ if m = 0 then lkN r w u else eyN r w u))
/-- what acts change, told twice -/
abbrev pNow (W P j : Nat) (hour paid far : Int32) (words wet : Nat → Int32) (s : Nat → Int32) : Prop :=
  (hour = s 24) ∧
  (∃ c, c < 24 ∧ hour = nI c) ∧
  (paid = s 25) ∧
  (∀ p, p < P → s p = if bt far p = true then 1 else 0) ∧
  (∀ p, P ≤ p → bt far p = false) ∧
  (∀ p, p < P → words p = s (8 + p)) ∧
  (∀ p, p < P → ∀ w, W ≤ w → bt (words p) w = false) ∧
  (∀ p, p < P → ∃ w, w < W ∧ bt (words p) w = true) ∧
  (∀ p, p < P → wet p = s (16 + p)) ∧
  (∀ p, p < P → ∃ c, c ≤ j ∧ wet p = nI c)
theorem pNow.hhour {W P j : Nat} {hour paid far : Int32} {words wet : Nat → Int32} {s : Nat → Int32} (h : pNow W P j hour paid far words wet s) : hour = s 24 := h.1
theorem pNow.hhour0 {W P j : Nat} {hour paid far : Int32} {words wet : Nat → Int32} {s : Nat → Int32} (h : pNow W P j hour paid far words wet s) : ∃ c, c < 24 ∧ hour = nI c := h.2.1
theorem pNow.hpaid {W P j : Nat} {hour paid far : Int32} {words wet : Nat → Int32} {s : Nat → Int32} (h : pNow W P j hour paid far words wet s) : paid = s 25 := h.2.2.1
theorem pNow.hbank {W P j : Nat} {hour paid far : Int32} {words wet : Nat → Int32} {s : Nat → Int32} (h : pNow W P j hour paid far words wet s) : ∀ p, p < P → s p = if bt far p = true then 1 else 0 := h.2.2.2.1
theorem pNow.hfar0 {W P j : Nat} {hour paid far : Int32} {words wet : Nat → Int32} {s : Nat → Int32} (h : pNow W P j hour paid far words wet s) : ∀ p, P ≤ p → bt far p = false := h.2.2.2.2.1
theorem pNow.hwords {W P j : Nat} {hour paid far : Int32} {words wet : Nat → Int32} {s : Nat → Int32} (h : pNow W P j hour paid far words wet s) : ∀ p, p < P → words p = s (8 + p) := h.2.2.2.2.2.1
theorem pNow.hwords0 {W P j : Nat} {hour paid far : Int32} {words wet : Nat → Int32} {s : Nat → Int32} (h : pNow W P j hour paid far words wet s) : ∀ p, p < P → ∀ w, W ≤ w → bt (words p) w = false := h.2.2.2.2.2.2.1
theorem pNow.hwords1 {W P j : Nat} {hour paid far : Int32} {words wet : Nat → Int32} {s : Nat → Int32} (h : pNow W P j hour paid far words wet s) : ∀ p, p < P → ∃ w, w < W ∧ bt (words p) w = true := h.2.2.2.2.2.2.2.1
theorem pNow.hwet {W P j : Nat} {hour paid far : Int32} {words wet : Nat → Int32} {s : Nat → Int32} (h : pNow W P j hour paid far words wet s) : ∀ p, p < P → wet p = s (16 + p) := h.2.2.2.2.2.2.2.2.1
theorem pNow.hwet0 {W P j : Nat} {hour paid far : Int32} {words wet : Nat → Int32} {s : Nat → Int32} (h : pNow W P j hour paid far words wet s) : ∀ p, p < P → ∃ c, c ≤ j ∧ wet p = nI c := h.2.2.2.2.2.2.2.2.2
def pShelf (W P j n room : Nat) (first count : Int32) (cells : Nat → Int32) (count' : Int32) (row : Nat → Int32) : Prop :=
  n ≤ room ∧ count = nI n ∧ count' = nI n ∧ ∃ f, f < room ∧ first = nI f ∧ ∀ i, i < n →
    pNow W P j (cells ((f + i) % room * 19)) (cells ((f + i) % room * 19 + 1)) (cells ((f + i) % room * 19 + 2)) (fun p => cells ((f + i) % room * 19 + 3 + p)) (fun p => cells ((f + i) % room * 19 + 11 + p)) (fun k => row (26 * i + k))
abbrev rf_Iv (W P G na ni j : Nat) (I : Nat → Int32) (J : Nat → Int64) (A : Nat → Nat → Int32) (B : Nat → Nat → Int64) (I' : Nat → Int32) (A' : Nat → Nat → Int32) : Prop :=
  (pTape (I 0) (A 0) (I' 1) (A' 0)) ∧
  (pFault (I 1) (I 2) (I 3) (I' 8) (I' 9) (I' 10)) ∧
  (pTale W P G (A' 2) (I 21) (I 22) (I 23) (I 24) (I 26) (I 27) (B 0) (B 1) (A 13) (A 14) (A 16) (A 17) (A 18) (A 19) (A 20) (A 21)) ∧
  (pClose W (A' 2) (A 22)) ∧
  (I' 12 = if 0 < P then 1 else 0) ∧
  (P = 0 → W = 0 ∧ G = 0 ∧ na = 0 ∧ ni = 0 ∧ I 21 = 0 ∧ I 22 = 0 ∧ I 26 = 0 ∧ I 4 = 0 ∧ I 5 = 0 ∧ (∀ h, h < 24 → A 18 h = 0)) ∧
  (∀ p, bt (I 6) p = decide (p < P)) ∧
  (pNow W P j (I 4) (I 5) (I 7) (A 1) (A 2) (A' 4)) ∧
  (I 15 = 16) ∧
  (pShelf W P j na 16 (I 16) (I 17) (A 11) (I' 13) (A' 5)) ∧
  (I 18 = 3) ∧
  (pShelf W P j ni 3 (I 19) (I 20) (A 12) (I' 14) (A' 6)) ∧
  (I 19 = 0)
theorem rf_Iv.tape {W P G na ni j : Nat} {I : Nat → Int32} {J : Nat → Int64} {A : Nat → Nat → Int32} {B : Nat → Nat → Int64} {I' : Nat → Int32} {A' : Nat → Nat → Int32} (h : rf_Iv W P G na ni j I J A B I' A') : pTape (I 0) (A 0) (I' 1) (A' 0) := h.1
theorem rf_Iv.fault {W P G na ni j : Nat} {I : Nat → Int32} {J : Nat → Int64} {A : Nat → Nat → Int32} {B : Nat → Nat → Int64} {I' : Nat → Int32} {A' : Nat → Nat → Int32} (h : rf_Iv W P G na ni j I J A B I' A') : pFault (I 1) (I 2) (I 3) (I' 8) (I' 9) (I' 10) := h.2.1
theorem rf_Iv.tale {W P G na ni j : Nat} {I : Nat → Int32} {J : Nat → Int64} {A : Nat → Nat → Int32} {B : Nat → Nat → Int64} {I' : Nat → Int32} {A' : Nat → Nat → Int32} (h : rf_Iv W P G na ni j I J A B I' A') : pTale W P G (A' 2) (I 21) (I 22) (I 23) (I 24) (I 26) (I 27) (B 0) (B 1) (A 13) (A 14) (A 16) (A 17) (A 18) (A 19) (A 20) (A 21) := h.2.2.1
theorem rf_Iv.close {W P G na ni j : Nat} {I : Nat → Int32} {J : Nat → Int64} {A : Nat → Nat → Int32} {B : Nat → Nat → Int64} {I' : Nat → Int32} {A' : Nat → Nat → Int32} (h : rf_Iv W P G na ni j I J A B I' A') : pClose W (A' 2) (A 22) := h.2.2.2.1
theorem rf_Iv.has {W P G na ni j : Nat} {I : Nat → Int32} {J : Nat → Int64} {A : Nat → Nat → Int32} {B : Nat → Nat → Int64} {I' : Nat → Int32} {A' : Nat → Nat → Int32} (h : rf_Iv W P G na ni j I J A B I' A') : I' 12 = if 0 < P then 1 else 0 := h.2.2.2.2.1
theorem rf_Iv.none {W P G na ni j : Nat} {I : Nat → Int32} {J : Nat → Int64} {A : Nat → Nat → Int32} {B : Nat → Nat → Int64} {I' : Nat → Int32} {A' : Nat → Nat → Int32} (h : rf_Iv W P G na ni j I J A B I' A') : P = 0 → W = 0 ∧ G = 0 ∧ na = 0 ∧ ni = 0 ∧ I 21 = 0 ∧ I 22 = 0 ∧ I 26 = 0 ∧ I 4 = 0 ∧ I 5 = 0 ∧ (∀ h, h < 24 → A 18 h = 0) := h.2.2.2.2.2.1
theorem rf_Iv.every {W P G na ni j : Nat} {I : Nat → Int32} {J : Nat → Int64} {A : Nat → Nat → Int32} {B : Nat → Nat → Int64} {I' : Nat → Int32} {A' : Nat → Nat → Int32} (h : rf_Iv W P G na ni j I J A B I' A') : ∀ p, bt (I 6) p = decide (p < P) := h.2.2.2.2.2.2.1
theorem rf_Iv.now {W P G na ni j : Nat} {I : Nat → Int32} {J : Nat → Int64} {A : Nat → Nat → Int32} {B : Nat → Nat → Int64} {I' : Nat → Int32} {A' : Nat → Nat → Int32} (h : rf_Iv W P G na ni j I J A B I' A') : pNow W P j (I 4) (I 5) (I 7) (A 1) (A 2) (A' 4) := h.2.2.2.2.2.2.2.1
theorem rf_Iv.aroom {W P G na ni j : Nat} {I : Nat → Int32} {J : Nat → Int64} {A : Nat → Nat → Int32} {B : Nat → Nat → Int64} {I' : Nat → Int32} {A' : Nat → Nat → Int32} (h : rf_Iv W P G na ni j I J A B I' A') : I 15 = 16 := h.2.2.2.2.2.2.2.2.1
theorem rf_Iv.acts {W P G na ni j : Nat} {I : Nat → Int32} {J : Nat → Int64} {A : Nat → Nat → Int32} {B : Nat → Nat → Int64} {I' : Nat → Int32} {A' : Nat → Nat → Int32} (h : rf_Iv W P G na ni j I J A B I' A') : pShelf W P j na 16 (I 16) (I 17) (A 11) (I' 13) (A' 5) := h.2.2.2.2.2.2.2.2.2.1
theorem rf_Iv.iroom {W P G na ni j : Nat} {I : Nat → Int32} {J : Nat → Int64} {A : Nat → Nat → Int32} {B : Nat → Nat → Int64} {I' : Nat → Int32} {A' : Nat → Nat → Int32} (h : rf_Iv W P G na ni j I J A B I' A') : I 18 = 3 := h.2.2.2.2.2.2.2.2.2.2.1
theorem rf_Iv.imgs {W P G na ni j : Nat} {I : Nat → Int32} {J : Nat → Int64} {A : Nat → Nat → Int32} {B : Nat → Nat → Int64} {I' : Nat → Int32} {A' : Nat → Nat → Int32} (h : rf_Iv W P G na ni j I J A B I' A') : pShelf W P j ni 3 (I 19) (I 20) (A 12) (I' 14) (A' 6) := h.2.2.2.2.2.2.2.2.2.2.2.1
theorem rf_Iv.ifirst {W P G na ni j : Nat} {I : Nat → Int32} {J : Nat → Int64} {A : Nat → Nat → Int32} {B : Nat → Nat → Int64} {I' : Nat → Int32} {A' : Nat → Nat → Int32} (h : rf_Iv W P G na ni j I J A B I' A') : I 19 = 0 := h.2.2.2.2.2.2.2.2.2.2.2.2
def rf_Inv (j : Nat) : rf_INV := fun I J A B I' A' => ∃ W P G na ni : Nat, rf_Iv W P G na ni j I J A B I' A'
theorem pNow.mono {W P j : Nat} {h a f : Int32} {w1 w2 s : Nat → Int32} (h0 : pNow W P j h a f w1 w2 s) : pNow W P (j + 1) h a f w1 w2 s :=
  ⟨h0.hhour, h0.hhour0, h0.hpaid, h0.hbank, h0.hfar0, h0.hwords, h0.hwords0, h0.hwords1, h0.hwet, fun p hp => (h0.hwet0 p hp).elim fun c hc => ⟨c, by omega, hc.2⟩⟩
theorem pShelf.mono {W P j n room : Nat} {f c : Int32} {cs : Nat → Int32} {c' : Int32} {row : Nat → Int32} (h : pShelf W P j n room f c cs c' row) : pShelf W P (j + 1) n room f c cs c' row :=
  ⟨h.1, h.2.1, h.2.2.1, h.2.2.2.elim fun g hg => ⟨g, hg.1, hg.2.1, fun i hi => (hg.2.2 i hi).mono⟩⟩
/-- calls that only tell: the trouble is told, scratch may change -/
theorem rf_Iv.quiet {W P G na ni j : Nat} {I : Nat → Int32} {J : Nat → Int64} {A : Nat → Nat → Int32} {B : Nat → Nat → Int64} {I' : Nat → Int32} {A' : Nat → Nat → Int32}
    (h : rf_Iv W P G na ni j I J A B I' A') {I2 : Nat → Int32} {J2 : Nat → Int64} {A2 : Nat → Nat → Int32} {I2' : Nat → Int32} {A2' : Nat → Nat → Int32}
    (hf : pFault (I2 1) (I2 2) (I2 3) (I2' 8) (I2' 9) (I2' 10))
    (e1 : (I2 0, I2 4, I2 5, I2 6, I2 7, I2 15, I2 16, I2 17, I2 18, I2 19, I2 20, I2 21, I2 22, I2 23, I2 24, I2 26, I2 27) = (I 0, I 4, I 5, I 6, I 7, I 15, I 16, I 17, I 18, I 19, I 20, I 21, I 22, I 23, I 24, I 26, I 27))
    (e2 : (A2 0, A2 1, A2 2, A2 11, A2 12, A2 13, A2 14, A2 16, A2 17, A2 18, A2 19, A2 20, A2 21, A2 22) = (A 0, A 1, A 2, A 11, A 12, A 13, A 14, A 16, A 17, A 18, A 19, A 20, A 21, A 22))
    (e3 : (I2' 1, I2' 12, I2' 13, I2' 14) = (I' 1, I' 12, I' 13, I' 14))
    (e4 : (A2' 0, A2' 2, A2' 4, A2' 5, A2' 6) = (A' 0, A' 2, A' 4, A' 5, A' 6)) : rf_Inv (j + 1) I2 J2 A2 B I2' A2' := by
  simp only [Prod.mk.injEq] at e1 e2 e3 e4
  obtain ⟨a0, a4, a5, a6, a7, a15, a16, a17, a18, a19, a20, a21, a22, a23, a24, a26, a27⟩ := e1
  obtain ⟨b0, b1, b2, b11, b12, b13, b14, b16, b17, b18, b19, b20, b21, b22⟩ := e2
  obtain ⟨c1, c12, c13, c14⟩ := e3
  obtain ⟨d0, d2, d4, d5, d6⟩ := e4
  refine ⟨W, P, G, na, ni, ⟨?_, hf, ?_, ?_, ?_, ?_, ?_, ?_, ?_, ?_, ?_, ?_, ?_⟩⟩
  · rw [a0, b0, c1, d0]; exact h.tape
  · rw [d2, a21, a22, a23, a24, a26, a27, b13, b14, b16, b17, b18, b19, b20, b21]; exact h.tale
  · rw [d2, b22]; exact h.close
  · rw [c12]; exact h.has
  · rw [a21, a22, a26, a4, a5, b18]; exact h.none
  · rw [a6]; exact h.every
  · rw [a4, a5, a7, b1, b2, d4]; exact h.now.mono
  · rw [a15]; exact h.aroom
  · rw [a16, a17, b11, c13, d5]; exact h.acts.mono
  · rw [a18]; exact h.iroom
  · rw [a19, a20, b12, c14, d6]; exact h.imgs.mono
  · rw [a19]; exact h.ifirst
theorem rf_Iv.next {j : Nat} {I : Nat → Int32} {J : Nat → Int64} {A : Nat → Nat → Int32} {B : Nat → Nat → Int64} {I' : Nat → Int32} {A' : Nat → Nat → Int32} (h : rf_Inv j I J A B I' A') : rf_Inv (j + 1) I J A B I' A' :=
  h.elim fun _ h => h.elim fun _ h => h.elim fun _ h => h.elim fun _ h => h.elim fun _ h => h.quiet (A2 := A) (A2' := A') h.fault rfl rfl rfl rfl
/-- the trouble is told -/
theorem pFault.tell {a b t a' b' t' u : Int32} (h : pFault a b t a' b' t') (hu : u ≠ 4) : pFault a b u a' b' u := ⟨h.1, rfl, fun e => absurd e hu⟩
theorem rf_init : rf_Inv 0 rf_I0 rf_J0 rf_A0 rf_B0 rf_I0M rf_A0 := by
  have hz : ∀ p, bt 0 p = false := bt_0
  refine ⟨0, 0, 0, 0, 0, ⟨⟨rfl, by decide, by decide, fun k => ?_⟩, ⟨rfl, rfl, fun h => absurd h (by decide)⟩, ?_, ?_, rfl, fun _ => ⟨rfl, rfl, rfl, rfl, rfl, rfl, rfl, rfl, rfl, fun _ _ => rfl⟩, ?_, ?_, rfl, ?_, rfl, ?_, rfl⟩⟩
  · exact ⟨by show (-128 : Int32) ≤ 0; decide, by show (0 : Int32) ≤ 127; decide, by show (0 : Int32) = 0 &&& 255; decide⟩
  · refine ⟨by omega, by omega, by omega, rfl, rfl, rfl, rfl, rfl, rfl, rfl, rfl, rfl, by decide, by decide, fun h => by omega, fun h => by omega, fun _ h => by omega, fun _ h => by omega, fun _ h => by omega, ?_, ?_, ?_, ?_⟩
    · intro a b _ _
      show bt 0 _ = bt 0 _
      rw [hz, hz]
    · intro a b _ _
      show bt 0 _ = bt 0 _
      rw [hz, hz]
    · intro h _; rfl
    · intro h _; exact ⟨0, by omega, rfl⟩
  · intro m e w _ _ h; omega
  · intro p
    show bt 0 p = _
    rw [hz]; simp
  · refine ⟨rfl, ⟨0, by omega, rfl⟩, rfl, fun _ h => by omega, ?_, fun _ h => by omega, fun _ h => by omega, fun _ h => by omega, fun _ h => by omega, fun _ h => by omega⟩
    intro p _
    exact hz p
  · exact ⟨by omega, rfl, rfl, 0, by omega, rfl, fun i h => by omega⟩
  · exact ⟨by omega, rfl, rfl, 0, by omega, rfl, fun i h => by omega⟩
