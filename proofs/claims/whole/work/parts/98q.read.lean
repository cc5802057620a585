/-! what is read so far, told twice -/
abbrev rdR (W P G K C : Nat) (fr : Nat → Int32) (ear pairs begun wc pc ff ac gc kn : Int32) (wn ws pn : Nat → Int64) (prices kinds fw errands alikes hears g1 g2 g3 : Nat → Int32) : Prop :=
  (pTale W P G fr ear pairs wc pc ac gc wn ws prices kinds errands alikes hears g1 g2 g3) ∧
  (kn = nI K) ∧
  (fr 8 = nI K) ∧
  (K ≤ 8) ∧
  (ac = nI C) ∧
  (C ≤ 4) ∧
  (nmR W P fr wn pn) ∧
  (∀ w p, w < W → p < P → wn w ≠ pn p) ∧
  (∀ p, p < P → fr (90 + 4 * p) = if bt ff p = true then 1 else 0) ∧
  (∀ p, P ≤ p → bt ff p = false) ∧
  (∀ p, p < P → fw p = fr (91 + 4 * p)) ∧
  (∀ p, p < P → ∀ w, W ≤ w → bt (fw p) w = false) ∧
  (∀ p, p < P → ∃ w, w < W ∧ bt (fw p) w = true) ∧
  (cntP hears 24 ≤ 8) ∧
  ((begun = 0 ∧ ear = 0 ∧ pairs = 0 ∧ W = 0 ∧ P = 0 ∧ G = 0 ∧ K = 0 ∧ C = 0 ∧ cntP hears 24 = 0) ∨ (begun = 1 ∧ (∃ c, 2 ≤ c ∧ c ≤ 5 ∧ ear = nI c) ∧ ∃ c, 1 ≤ c ∧ c ≤ 3 ∧ pairs = nI c))
theorem rdR.tale {W P G K C : Nat} {fr : Nat → Int32} {ear pairs begun wc pc ff ac gc kn : Int32} {wn ws pn : Nat → Int64} {prices kinds fw errands alikes hears g1 g2 g3 : Nat → Int32} (h : rdR W P G K C fr ear pairs begun wc pc ff ac gc kn wn ws pn prices kinds fw errands alikes hears g1 g2 g3) : pTale W P G fr ear pairs wc pc ac gc wn ws prices kinds errands alikes hears g1 g2 g3 := h.1
theorem rdR.hkn {W P G K C : Nat} {fr : Nat → Int32} {ear pairs begun wc pc ff ac gc kn : Int32} {wn ws pn : Nat → Int64} {prices kinds fw errands alikes hears g1 g2 g3 : Nat → Int32} (h : rdR W P G K C fr ear pairs begun wc pc ff ac gc kn wn ws pn prices kinds fw errands alikes hears g1 g2 g3) : kn = nI K := h.2.1
theorem rdR.hkn' {W P G K C : Nat} {fr : Nat → Int32} {ear pairs begun wc pc ff ac gc kn : Int32} {wn ws pn : Nat → Int64} {prices kinds fw errands alikes hears g1 g2 g3 : Nat → Int32} (h : rdR W P G K C fr ear pairs begun wc pc ff ac gc kn wn ws pn prices kinds fw errands alikes hears g1 g2 g3) : fr 8 = nI K := h.2.2.1
theorem rdR.K8 {W P G K C : Nat} {fr : Nat → Int32} {ear pairs begun wc pc ff ac gc kn : Int32} {wn ws pn : Nat → Int64} {prices kinds fw errands alikes hears g1 g2 g3 : Nat → Int32} (h : rdR W P G K C fr ear pairs begun wc pc ff ac gc kn wn ws pn prices kinds fw errands alikes hears g1 g2 g3) : K ≤ 8 := h.2.2.2.1
theorem rdR.hac0 {W P G K C : Nat} {fr : Nat → Int32} {ear pairs begun wc pc ff ac gc kn : Int32} {wn ws pn : Nat → Int64} {prices kinds fw errands alikes hears g1 g2 g3 : Nat → Int32} (h : rdR W P G K C fr ear pairs begun wc pc ff ac gc kn wn ws pn prices kinds fw errands alikes hears g1 g2 g3) : ac = nI C := h.2.2.2.2.1
theorem rdR.C4 {W P G K C : Nat} {fr : Nat → Int32} {ear pairs begun wc pc ff ac gc kn : Int32} {wn ws pn : Nat → Int64} {prices kinds fw errands alikes hears g1 g2 g3 : Nat → Int32} (h : rdR W P G K C fr ear pairs begun wc pc ff ac gc kn wn ws pn prices kinds fw errands alikes hears g1 g2 g3) : C ≤ 4 := h.2.2.2.2.2.1
theorem rdR.names {W P G K C : Nat} {fr : Nat → Int32} {ear pairs begun wc pc ff ac gc kn : Int32} {wn ws pn : Nat → Int64} {prices kinds fw errands alikes hears g1 g2 g3 : Nat → Int32} (h : rdR W P G K C fr ear pairs begun wc pc ff ac gc kn wn ws pn prices kinds fw errands alikes hears g1 g2 g3) : nmR W P fr wn pn := h.2.2.2.2.2.2.1
theorem rdR.uq {W P G K C : Nat} {fr : Nat → Int32} {ear pairs begun wc pc ff ac gc kn : Int32} {wn ws pn : Nat → Int64} {prices kinds fw errands alikes hears g1 g2 g3 : Nat → Int32} (h : rdR W P G K C fr ear pairs begun wc pc ff ac gc kn wn ws pn prices kinds fw errands alikes hears g1 g2 g3) : ∀ w p, w < W → p < P → wn w ≠ pn p := h.2.2.2.2.2.2.2.1
theorem rdR.far {W P G K C : Nat} {fr : Nat → Int32} {ear pairs begun wc pc ff ac gc kn : Int32} {wn ws pn : Nat → Int64} {prices kinds fw errands alikes hears g1 g2 g3 : Nat → Int32} (h : rdR W P G K C fr ear pairs begun wc pc ff ac gc kn wn ws pn prices kinds fw errands alikes hears g1 g2 g3) : ∀ p, p < P → fr (90 + 4 * p) = if bt ff p = true then 1 else 0 := h.2.2.2.2.2.2.2.2.1
theorem rdR.far0 {W P G K C : Nat} {fr : Nat → Int32} {ear pairs begun wc pc ff ac gc kn : Int32} {wn ws pn : Nat → Int64} {prices kinds fw errands alikes hears g1 g2 g3 : Nat → Int32} (h : rdR W P G K C fr ear pairs begun wc pc ff ac gc kn wn ws pn prices kinds fw errands alikes hears g1 g2 g3) : ∀ p, P ≤ p → bt ff p = false := h.2.2.2.2.2.2.2.2.2.1
theorem rdR.fws {W P G K C : Nat} {fr : Nat → Int32} {ear pairs begun wc pc ff ac gc kn : Int32} {wn ws pn : Nat → Int64} {prices kinds fw errands alikes hears g1 g2 g3 : Nat → Int32} (h : rdR W P G K C fr ear pairs begun wc pc ff ac gc kn wn ws pn prices kinds fw errands alikes hears g1 g2 g3) : ∀ p, p < P → fw p = fr (91 + 4 * p) := h.2.2.2.2.2.2.2.2.2.2.1
theorem rdR.fws0 {W P G K C : Nat} {fr : Nat → Int32} {ear pairs begun wc pc ff ac gc kn : Int32} {wn ws pn : Nat → Int64} {prices kinds fw errands alikes hears g1 g2 g3 : Nat → Int32} (h : rdR W P G K C fr ear pairs begun wc pc ff ac gc kn wn ws pn prices kinds fw errands alikes hears g1 g2 g3) : ∀ p, p < P → ∀ w, W ≤ w → bt (fw p) w = false := h.2.2.2.2.2.2.2.2.2.2.2.1
theorem rdR.fws1 {W P G K C : Nat} {fr : Nat → Int32} {ear pairs begun wc pc ff ac gc kn : Int32} {wn ws pn : Nat → Int64} {prices kinds fw errands alikes hears g1 g2 g3 : Nat → Int32} (h : rdR W P G K C fr ear pairs begun wc pc ff ac gc kn wn ws pn prices kinds fw errands alikes hears g1 g2 g3) : ∀ p, p < P → ∃ w, w < W ∧ bt (fw p) w = true := h.2.2.2.2.2.2.2.2.2.2.2.2.1
theorem rdR.hc8 {W P G K C : Nat} {fr : Nat → Int32} {ear pairs begun wc pc ff ac gc kn : Int32} {wn ws pn : Nat → Int64} {prices kinds fw errands alikes hears g1 g2 g3 : Nat → Int32} (h : rdR W P G K C fr ear pairs begun wc pc ff ac gc kn wn ws pn prices kinds fw errands alikes hears g1 g2 g3) : cntP hears 24 ≤ 8 := h.2.2.2.2.2.2.2.2.2.2.2.2.2.1
theorem rdR.beg {W P G K C : Nat} {fr : Nat → Int32} {ear pairs begun wc pc ff ac gc kn : Int32} {wn ws pn : Nat → Int64} {prices kinds fw errands alikes hears g1 g2 g3 : Nat → Int32} (h : rdR W P G K C fr ear pairs begun wc pc ff ac gc kn wn ws pn prices kinds fw errands alikes hears g1 g2 g3) : (begun = 0 ∧ ear = 0 ∧ pairs = 0 ∧ W = 0 ∧ P = 0 ∧ G = 0 ∧ K = 0 ∧ C = 0 ∧ cntP hears 24 = 0) ∨ (begun = 1 ∧ (∃ c, 2 ≤ c ∧ c ≤ 5 ∧ ear = nI c) ∧ ∃ c, 1 ≤ c ∧ c ≤ 3 ∧ pairs = nI c) := h.2.2.2.2.2.2.2.2.2.2.2.2.2.2
theorem pkN_congr {f g : Nat → Nat} : ∀ n, (∀ k, k < n → f k = g k) → pkN f n = pkN g n := by
  intro n
  induction n with
  | zero => intro _; rfl
  | succ n ih => intro h; rw [pkN, pkN, ih (fun k hk => h k (by omega)), h n (by omega)]
theorem nmOk.cg {r r' : Nat → Int32} {i : Nat} {nm : Int64} (h : nmOk r i nm) (e2 : r' (171 + i) = r (171 + i)) (e3 : ∀ k, k < 8 → r' (189 + 8 * i + k) = r (189 + 8 * i + k)) : nmOk r' i nm := by
  have hn : nN r' i = nN r i := by unfold nN; rw [e2]
  have n8 := h.n2
  have hl : ∀ k, k < 8 → nL r' i k = nL r i k := fun k hk => by unfold nL; rw [e3 k hk]
  refine ⟨by rw [hn]; exact h.n1, by rw [hn]; exact h.n2, by rw [hn, e2]; exact h.nz, fun k hk => ?_, ?_⟩
  · rw [hn] at hk
    rw [hl k (by omega), e3 k (by omega)]; exact h.nl k hk
  · rw [hn, pkN_congr _ (fun k hk => hl k (by omega))]; exact h.np
theorem nmOk.mk2 {r : Nat → Int32} {i v : Nat} {L : Nat → Nat} (h1 : 1 ≤ v) (h2 : v ≤ 8) (hz : r (171 + i) = nI v) (hl : ∀ k, k < v → 1 ≤ L k ∧ L k ≤ 26 ∧ r (189 + 8 * i + k) = nI (L k + 96)) : nmOk r i (Int64.ofNat (pkN L v)) := by
  have hn : nN r i = v := by unfold nN; rw [hz, nI_clamp (by omega)]
  have hL : ∀ k, k < v → nL r i k = L k := fun k hk => by
    have := hl k hk
    unfold nL
    rw [this.2.2, nI_clamp (by omega)]
    omega
  refine ⟨by omega, by omega, by rw [hn]; exact hz, fun k hk => ?_, ?_⟩
  · rw [hn] at hk
    rw [hL k hk]; exact hl k hk
  · rw [hn, pkN_congr _ (fun k hk => hL k hk)]
theorem pWord.cg {r r' : Nat → Int32} {W W' w : Nat} {a b : Int64} {c : Int32} (h : pWord r W w a b c) (e1 : ∀ k, k < 8 → r' (9 + 8 * w + k) = r (9 + 8 * w + k)) (e2 : r' (171 + w) = r (171 + w)) (e3 : ∀ k, k < 8 → r' (189 + 8 * w + k) = r (189 + 8 * w + k)) : pWord r' W' w a b c := by
  have q := nmOk.cg (r := r) (r' := r') (i := w) (nm := a) ⟨h.n1, h.n2, h.nz, h.nl, h.np⟩ e2 e3
  have e10 : r' (10 + 8 * w) = r (10 + 8 * w) := by
    have := e1 1 (by omega)
    rw [show 9 + 8 * w + 1 = 10 + 8 * w by omega] at this; exact this
  have e11 : ∀ k, k < 6 → r' (11 + 8 * w + k) = r (11 + 8 * w + k) := fun k hk => by
    have := e1 (2 + k) (by omega)
    rw [show 9 + 8 * w + (2 + k) = 11 + 8 * w + k by omega] at this; exact this
  have hs : sN r' w = sN r w := by unfold sN; rw [e10]
  have s6 := h.s2
  have hl : ∀ k, k < 6 → sL r' w k = sL r w k := fun k hk => by unfold sL; rw [e11 k hk]
  refine ⟨?_, h.hprice0, by rw [hs]; exact h.s1, by rw [hs]; exact h.s2, by rw [hs, e10]; exact h.sz, fun k hk => ?_, ?_, q.n1, q.n2, q.nz, q.nl, q.np⟩
  · rw [h.hprice]
    exact (e1 0 (by omega)).symm
  · rw [hs] at hk
    rw [hl k (by omega), e11 k (by omega)]; exact h.sl k hk
  · rw [hs, pkN_congr _ (fun k hk => hl k (by omega))]; exact h.sp
theorem pWord.mk2 {r : Nat → Int32} {W w v v2 c : Nat} {L L2 : Nat → Nat} (q : nmOk r w (Int64.ofNat (pkN L v))) (hc : c ≤ 99) (h9 : r (9 + 8 * w) = nI c) (h10 : r (10 + 8 * w) = nI v2) (v2a : 2 ≤ v2) (v2b : v2 ≤ 6) (hl : ∀ k, k < v2 → 1 ≤ L2 k ∧ L2 k ≤ 8 ∧ r (11 + 8 * w + k) = nI (L2 k - 1)) : pWord r W w (Int64.ofNat (pkN L v)) (Int64.ofNat (pkN L2 v2)) (nI c) := by
  have hn : sN r w = v2 := by unfold sN; rw [h10, nI_clamp (by omega)]
  have hL : ∀ k, k < v2 → sL r w k = L2 k := fun k hk => by
    have := hl k hk
    unfold sL
    rw [this.2.2, nI_clamp (by omega)]
    omega
  refine ⟨h9.symm, ⟨c, hc, rfl⟩, by omega, by omega, by rw [hn]; exact h10, fun k hk => ?_, ?_, q.n1, q.n2, q.nz, q.nl, q.np⟩
  · rw [hn] at hk
    rw [hL k hk]; exact ⟨(hl k hk).2.1, (hl k hk).2.2⟩
  · rw [hn, pkN_congr _ (fun k hk => hL k hk)]
theorem updL_same (f : Nat → Int64) (k : Nat) (x : Int64) : vp_updL f k x k = x := by unfold vp_updL; rw [if_pos rfl]
theorem updL_ne (f : Nat → Int64) {k j : Nat} (x : Int64) (h : j ≠ k) : vp_updL f k x j = f j := by unfold vp_updL; rw [if_neg h]
theorem cntP_congr {f g : Nat → Int32} : ∀ n, (∀ k, k < n → f k = g k) → cntP f n = cntP g n := by
  intro n
  induction n with
  | zero => intro _; rfl
  | succ n ih => intro h; rw [cntP, cntP, ih (fun k hk => h k (by omega)), h n (by omega)]
theorem cntP_upd {f : Nat → Int32} {h : Nat} {x : Int32} (h0 : ¬ nI 0 < f h) (hx : nI 0 < x) : ∀ n, h < n → cntP (upd f h x) n = cntP f n + 1 := by
  intro n
  induction n with
  | zero => intro hn; omega
  | succ n ih =>
    intro hn
    rw [cntP, cntP]
    by_cases e : h = n
    · subst e
      rw [cntP_congr (g := f) h (fun k hk => upd_ne _ _ (by omega)), upd_same, if_pos hx, if_neg h0]
    · rw [ih (by omega), upd_ne _ _ (by omega)]
      omega
section
variable {W P G K C : Nat} {fr fr' : Nat → Int32} {ear pairs begun wc pc ff ac gc kn : Int32} {wn ws pn : Nat → Int64} {prices kinds fw errands alikes hears g1 g2 g3 : Nat → Int32}
/-- the ferry's line -/
theorem rd_ferry (h : rdR W P G K C fr ear pairs begun wc pc ff ac gc kn wn ws pn prices kinds fw errands alikes hears g1 g2 g3) {e c : Nat} (e1 : 2 ≤ e) (e2 : e ≤ 5) (c1 : 1 ≤ c) (c2 : c ≤ 3) (h0 : fr' 0 = nI e) (h1 : fr' 1 = nI c) (hx : ∀ i, 2 ≤ i → fr' i = fr i) : rdR W P G K C fr' (nI e) (nI c) 1 wc pc ff ac gc kn wn ws pn prices kinds fw errands alikes hears g1 g2 g3 := by
  have t := h.tale
  have nm := h.names
  refine ⟨⟨t.W10, t.P8, t.G6, h0.symm, h1.symm, t.hwc, by rw [hx 2 (by omega)]; exact t.hwc', t.hpc, by rw [hx 3 (by omega)]; exact t.hpc', by rw [hx 4 (by omega)]; exact t.hac, t.hgc, by rw [hx 7 (by omega)]; exact t.hgc', by rw [hx 5 (by omega)]; exact t.hc, by rw [hx 6 (by omega)]; exact t.ec, fun _ => ⟨e, by omega, by omega, rfl⟩, fun _ => ⟨c, c1, c2, rfl⟩, fun w hw => ?_, fun p hp => ?_, fun g hg => ?_, fun a b ha hb => ?_, fun a b ha hb => ?_, fun i hi => ?_, t.he0⟩, h.hkn, by rw [hx 8 (by omega)]; exact h.hkn', h.K8, h.hac0, h.C4, ⟨nm.W10, nm.P8, fun w hw => ?_, fun p hp => ?_, fun i a b c => ?_⟩, h.uq, fun p hp => ?_, h.far0, fun p hp => ?_, h.fws0, h.fws1, h.hc8, Or.inr ⟨rfl, ⟨e, e1, e2, rfl⟩, c, c1, c2, rfl⟩⟩
  · exact (t.words w hw).cg (fun k _ => hx _ (by omega)) (hx _ (by omega)) (fun k _ => hx _ (by omega))
  · have q := t.pers p hp
    exact ⟨by rw [hx _ (by omega)]; exact q.hkind, q.hkind0, by rw [hx _ (by omega)]; exact q.herr, q.herr0⟩
  · have q := t.gots g hg
    exact ⟨by rw [hx _ (by omega)]; exact q.ha, by rw [hx _ (by omega)]; exact q.hb, by rw [hx _ (by omega)]; exact q.hd, q.ha0, q.hb0, q.hd0⟩
  · rw [hx _ (by omega)]; exact t.al a b ha hb
  · rw [hx _ (by omega), hx _ (by omega)]; exact t.als a b ha hb
  · rw [hx _ (by omega)]; exact t.he i hi
  · exact (nm.hw w hw).cg (hx _ (by omega)) (fun k _ => hx _ (by omega))
  · exact (nm.hp p hp).cg (hx _ (by omega)) (fun k _ => hx _ (by omega))
  · rw [hx _ (by omega)]; exact nm.hu i a b c
  · rw [hx _ (by omega)]; exact h.far p hp
  · rw [hx _ (by omega)]; exact h.fws p hp
theorem rdR.begun1 (h : rdR W P G K C fr ear pairs begun wc pc ff ac gc kn wn ws pn prices kinds fw errands alikes hears g1 g2 g3) (hb : begun = 1) : (∃ c, 2 ≤ c ∧ c ≤ 5 ∧ ear = nI c) ∧ ∃ c, 1 ≤ c ∧ c ≤ 3 ∧ pairs = nI c := by
  rcases h.beg with q | q
  · rw [q.1] at hb; exact absurd hb (by decide)
  · exact q.2
/-- a word's line -/
theorem rd_word (h : rdR W P G K C fr ear pairs begun wc pc ff ac gc kn wn ws pn prices kinds fw errands alikes hears g1 g2 g3) (hb : begun = 1) (hW : W < 10) {v v2 c : Nat} {L L2 : Nat → Nat} (h1 : 1 ≤ v) (h2 : v ≤ 8) (hnz : fr' (171 + W) = nI v) (hnl : ∀ k, k < v → 1 ≤ L k ∧ L k ≤ 26 ∧ fr' (189 + 8 * W + k) = nI (L k + 96)) (hc : c ≤ 99) (h9 : fr' (9 + 8 * W) = nI c) (h10 : fr' (10 + 8 * W) = nI v2) (v2a : 2 ≤ v2) (v2b : v2 ≤ 6) (hsl : ∀ k, k < v2 → 1 ≤ L2 k ∧ L2 k ≤ 8 ∧ fr' (11 + 8 * W + k) = nI (L2 k - 1)) (hu : ∀ p, p < P → pn p ≠ Int64.ofNat (pkN L v)) (h2' : fr' 2 = nI (W + 1))
    (hx : ∀ i, i ≠ 2 → ¬ (9 + 8 * W ≤ i ∧ i < 17 + 8 * W) → i ≠ 171 + W → ¬ (189 + 8 * W ≤ i ∧ i < 197 + 8 * W) → fr' i = fr i) : rdR (W + 1) P G K C fr' ear pairs begun (nI (W + 1)) pc ff ac gc kn (vp_updL wn W (Int64.ofNat (pkN L v))) (vp_updL ws W (Int64.ofNat (pkN L2 v2))) pn (upd prices W (nI c)) kinds fw errands alikes hears g1 g2 g3 := by
  have t := h.tale
  have nm := h.names
  have hP := t.P8
  have hG := t.G6
  have qn : nmOk fr' W (Int64.ofNat (pkN L v)) := nmOk.mk2 h1 h2 hnz hnl
  have hw : ∀ w, w < W → w ≠ W := fun w hw => by omega
  refine ⟨⟨by omega, t.P8, t.G6, by rw [hx 0 (by omega) (by omega) (by omega) (by omega)]; exact t.hear, by rw [hx 1 (by omega) (by omega) (by omega) (by omega)]; exact t.hpairs, rfl, h2', t.hpc, by rw [hx 3 (by omega) (by omega) (by omega) (by omega)]; exact t.hpc', by rw [hx 4 (by omega) (by omega) (by omega) (by omega)]; exact t.hac, t.hgc, by rw [hx 7 (by omega) (by omega) (by omega) (by omega)]; exact t.hgc', by rw [hx 5 (by omega) (by omega) (by omega) (by omega)]; exact t.hc, by rw [hx 6 (by omega) (by omega) (by omega) (by omega)]; exact t.ec, t.hear0, t.hpairs0, fun w hw => ?_, fun p hp => ?_, fun g hg => ?_, fun a b ha hb => ?_, fun a b ha hb => ?_, fun i hi => ?_, t.he0⟩, h.hkn, by rw [hx 8 (by omega) (by omega) (by omega) (by omega)]; exact h.hkn', h.K8, h.hac0, h.C4, ⟨by omega, nm.P8, fun w hw => ?_, fun p hp => ?_, fun i a b c => ?_⟩, fun w p hw hp => ?_, fun p hp => ?_, h.far0, fun p hp => ?_, fun p hp w hw => h.fws0 p hp w (by omega), fun p hp => ?_, h.hc8, Or.inr ⟨hb, h.begun1 hb⟩⟩
  · by_cases e : w = W
    · subst e
      rw [updL_same, updL_same, upd_same]
      exact pWord.mk2 qn hc h9 h10 v2a v2b hsl
    · rw [updL_ne _ _ e, updL_ne _ _ e, upd_ne _ _ e]
      exact (t.words w (by omega)).cg (fun k _ => hx _ (by omega) (by omega) (by omega) (by omega)) (hx _ (by omega) (by omega) (by omega) (by omega)) (fun k _ => hx _ (by omega) (by omega) (by omega) (by omega))
  · have q := t.pers p hp
    exact ⟨by rw [hx _ (by omega) (by omega) (by omega) (by omega)]; exact q.hkind, q.hkind0, by rw [hx _ (by omega) (by omega) (by omega) (by omega)]; exact q.herr, q.herr0⟩
  · have q := t.gots g hg
    exact ⟨by rw [hx _ (by omega) (by omega) (by omega) (by omega)]; exact q.ha, by rw [hx _ (by omega) (by omega) (by omega) (by omega)]; exact q.hb, by rw [hx _ (by omega) (by omega) (by omega) (by omega)]; exact q.hd, q.ha0, q.hb0, q.hd0⟩
  · rw [hx _ (by omega) (by omega) (by omega) (by omega)]; exact t.al a b ha hb
  · rw [hx _ (by omega) (by omega) (by omega) (by omega), hx _ (by omega) (by omega) (by omega) (by omega)]; exact t.als a b ha hb
  · rw [hx _ (by omega) (by omega) (by omega) (by omega)]; exact t.he i hi
  · by_cases e : w = W
    · subst e; rw [updL_same]; exact qn
    · rw [updL_ne _ _ e]
      exact (nm.hw w (by omega)).cg (hx _ (by omega) (by omega) (by omega) (by omega)) (fun k _ => hx _ (by omega) (by omega) (by omega) (by omega))
  · exact (nm.hp p hp).cg (hx _ (by omega) (by omega) (by omega) (by omega)) (fun k _ => hx _ (by omega) (by omega) (by omega) (by omega))
  · rw [hx _ (by omega) (by omega) (by omega) (by omega)]; exact nm.hu i a (by omega) c
  · by_cases e : w = W
    · subst e; rw [updL_same]; exact fun z => hu p hp z.symm
    · rw [updL_ne _ _ e]; exact h.uq w p (by omega) hp
  · rw [hx _ (by omega) (by omega) (by omega) (by omega)]; exact h.far p hp
  · rw [hx _ (by omega) (by omega) (by omega) (by omega)]; exact h.fws p hp
  · obtain ⟨w, w1, w2⟩ := h.fws1 p hp
    exact ⟨w, by omega, w2⟩
/-- a person's line -/
theorem rd_person (h : rdR W P G K C fr ear pairs begun wc pc ff ac gc kn wn ws pn prices kinds fw errands alikes hears g1 g2 g3) (hb : begun = 1) (hP8 : P < 8) {v c w : Nat} {L : Nat → Nat} {fb : Bool} {ff' : Int32} (h1 : 1 ≤ v) (h2 : v ≤ 8) (hnz : fr' (181 + P) = nI v) (hnl : ∀ k, k < v → 1 ≤ L k ∧ L k ≤ 26 ∧ fr' (269 + 8 * P + k) = nI (L k + 96)) (hc : c ≤ 3) (hw : w < W) (h89 : fr' (89 + 4 * P) = nI c) (h90 : fr' (90 + 4 * P) = bI fb) (h91 : fr' (91 + 4 * P) = (1 : Int32) <<< (nI w &&& 31)) (h92 : fr' (92 + 4 * P) = 0) (hu : ∀ u, u < W → wn u ≠ Int64.ofNat (pkN L v)) (h3 : fr' 3 = nI (P + 1)) (hff : ∀ p, bt ff' p = (bt ff p || (fb && decide (p = P))))
    (hx : ∀ i, i ≠ 3 → ¬ (89 + 4 * P ≤ i ∧ i < 93 + 4 * P) → i ≠ 181 + P → ¬ (269 + 8 * P ≤ i ∧ i < 277 + 8 * P) → fr' i = fr i) : rdR W (P + 1) G K C fr' ear pairs begun wc (nI (P + 1)) ff' ac gc kn wn ws (vp_updL pn P (Int64.ofNat (pkN L v))) prices (upd kinds P (nI c)) (upd fw P ((1 : Int32) <<< (nI w &&& 31))) (upd errands P 0) alikes hears g1 g2 g3 := by
  have t := h.tale
  have nm := h.names
  have hW := t.W10
  have hG := t.G6
  have qn : nmOk fr' (10 + P) (Int64.ofNat (pkN L v)) := nmOk.mk2 h1 h2 (by rw [show 171 + (10 + P) = 181 + P by omega]; exact hnz) (fun k hk => by rw [show 189 + 8 * (10 + P) + k = 269 + 8 * P + k by omega]; exact hnl k hk)
  refine ⟨⟨t.W10, by omega, t.G6, by rw [hx 0 (by omega) (by omega) (by omega) (by omega)]; exact t.hear, by rw [hx 1 (by omega) (by omega) (by omega) (by omega)]; exact t.hpairs, t.hwc, by rw [hx 2 (by omega) (by omega) (by omega) (by omega)]; exact t.hwc', rfl, h3, by rw [hx 4 (by omega) (by omega) (by omega) (by omega)]; exact t.hac, t.hgc, by rw [hx 7 (by omega) (by omega) (by omega) (by omega)]; exact t.hgc', by rw [hx 5 (by omega) (by omega) (by omega) (by omega)]; exact t.hc, ?_, fun _ => ?_, fun _ => ?_, fun w hw => ?_, fun p hp => ?_, fun g hg => ?_, fun a b ha hb => ?_, fun a b ha hb => ?_, fun i hi => ?_, t.he0⟩, h.hkn, by rw [hx 8 (by omega) (by omega) (by omega) (by omega)]; exact h.hkn', h.K8, h.hac0, h.C4, ⟨nm.W10, by omega, fun w hw => ?_, fun p hp => ?_, fun i a b c => ?_⟩, fun w p hw hp => ?_, fun p hp => ?_, fun p hp => ?_, fun p hp => ?_, fun p hp u hu => ?_, fun p hp => ?_, h.hc8, Or.inr ⟨hb, h.begun1 hb⟩⟩
  · rw [hx 6 (by omega) (by omega) (by omega) (by omega), t.ec, cntP, upd_same, if_neg (by decide), cntP_congr (g := errands) P (fun k hk => upd_ne _ _ (by omega))]; rfl
  · obtain ⟨⟨e, e1, e2, e3⟩, -⟩ := h.begun1 hb
    exact ⟨e, by omega, by omega, e3⟩
  · exact (h.begun1 hb).2
  · exact (t.words w hw).cg (fun k _ => hx _ (by omega) (by omega) (by omega) (by omega)) (hx _ (by omega) (by omega) (by omega) (by omega)) (fun k _ => hx _ (by omega) (by omega) (by omega) (by omega))
  · by_cases e : p = P
    · subst e
      rw [upd_same, upd_same]
      exact ⟨h89.symm, ⟨c, hc, rfl⟩, h92.symm, ⟨0, by omega, rfl⟩⟩
    · rw [upd_ne _ _ e, upd_ne _ _ e]
      have q := t.pers p (by omega)
      exact ⟨by rw [hx _ (by omega) (by omega) (by omega) (by omega)]; exact q.hkind, q.hkind0, by rw [hx _ (by omega) (by omega) (by omega) (by omega)]; exact q.herr, q.herr0⟩
  · have q := t.gots g hg
    exact ⟨by rw [hx _ (by omega) (by omega) (by omega) (by omega)]; exact q.ha, by rw [hx _ (by omega) (by omega) (by omega) (by omega)]; exact q.hb, by rw [hx _ (by omega) (by omega) (by omega) (by omega)]; exact q.hd, q.ha0.elim fun c hc => ⟨c, by omega, hc.2⟩, q.hb0.elim fun c hc => ⟨c, by omega, hc.2⟩, q.hd0⟩
  · rw [hx _ (by omega) (by omega) (by omega) (by omega)]; exact t.al a b ha hb
  · rw [hx _ (by omega) (by omega) (by omega) (by omega), hx _ (by omega) (by omega) (by omega) (by omega)]; exact t.als a b ha hb
  · rw [hx _ (by omega) (by omega) (by omega) (by omega)]; exact t.he i hi
  · exact (nm.hw w hw).cg (hx _ (by omega) (by omega) (by omega) (by omega)) (fun k _ => hx _ (by omega) (by omega) (by omega) (by omega))
  · by_cases e : p = P
    · subst e; rw [updL_same]; exact qn
    · rw [updL_ne _ _ e]
      exact (nm.hp p (by omega)).cg (hx _ (by omega) (by omega) (by omega) (by omega)) (fun k _ => hx _ (by omega) (by omega) (by omega) (by omega))
  · rw [hx _ (by omega) (by omega) (by omega) (by omega)]; exact nm.hu i a b (by omega)
  · by_cases e : p = P
    · subst e; rw [updL_same]; exact hu w hw
    · rw [updL_ne _ _ e]; exact h.uq w p hw (by omega)
  · by_cases e : p = P
    · subst e
      rw [h90, hff, h.far0 p (by omega), decide_eq_true rfl, Bool.and_true, Bool.false_or]
      cases fb <;> rfl
    · rw [hx _ (by omega) (by omega) (by omega) (by omega), hff, decide_eq_false e, Bool.and_false, Bool.or_false]; exact h.far p (by omega)
  · rw [hff, h.far0 p (by omega), decide_eq_false (by omega), Bool.and_false]; rfl
  · by_cases e : p = P
    · subst e; rw [upd_same]; exact h91.symm
    · rw [upd_ne _ _ e, hx _ (by omega) (by omega) (by omega) (by omega)]; exact h.fws p (by omega)
  · by_cases e : p = P
    · subst e
      rw [upd_same, show bt ((1 : Int32) <<< (nI w &&& 31)) u = decide (u = w) from bt_1s (by omega) u]
      exact decide_eq_false (by omega)
    · rw [upd_ne _ _ e]; exact h.fws0 p (by omega) u hu
  · by_cases e : p = P
    · subst e
      refine ⟨w, hw, ?_⟩
      rw [upd_same, show bt ((1 : Int32) <<< (nI w &&& 31)) w = decide (w = w) from bt_1s (by omega) w]
      exact decide_eq_true rfl
    · rw [upd_ne _ _ e]; exact h.fws1 p (by omega)
/-- a line of what one knows -/
theorem rd_knows (h : rdR W P G K C fr ear pairs begun wc pc ff ac gc kn wn ws pn prices kinds fw errands alikes hears g1 g2 g3) (hb : begun = 1) (hK8 : K < 8) {p w : Nat} (hp : p < P) (hw : w < W) (h91 : fr' (91 + 4 * p) = fr (91 + 4 * p) ||| ((1 : Int32) <<< (nI w &&& 31))) (h8 : fr' 8 = nI (K + 1)) (hx : ∀ i, i ≠ 8 → i ≠ 91 + 4 * p → fr' i = fr i) : rdR W P G (K + 1) C fr' ear pairs begun wc pc ff ac gc (nI (K + 1)) wn ws pn prices kinds (upd fw p (fw p ||| ((1 : Int32) <<< (nI w &&& 31)))) errands alikes hears g1 g2 g3 := by
  have t := h.tale
  have nm := h.names
  have hW := t.W10
  have hP := t.P8
  have hG := t.G6
  refine ⟨⟨t.W10, t.P8, t.G6, by rw [hx 0 (by omega) (by omega)]; exact t.hear, by rw [hx 1 (by omega) (by omega)]; exact t.hpairs, t.hwc, by rw [hx 2 (by omega) (by omega)]; exact t.hwc', t.hpc, by rw [hx 3 (by omega) (by omega)]; exact t.hpc', by rw [hx 4 (by omega) (by omega)]; exact t.hac, t.hgc, by rw [hx 7 (by omega) (by omega)]; exact t.hgc', by rw [hx 5 (by omega) (by omega)]; exact t.hc, by rw [hx 6 (by omega) (by omega)]; exact t.ec, t.hear0, t.hpairs0, fun w hw => ?_, fun p hp => ?_, fun g hg => ?_, fun a b ha hb => ?_, fun a b ha hb => ?_, fun i hi => ?_, t.he0⟩, rfl, h8, by omega, h.hac0, h.C4, ⟨nm.W10, nm.P8, fun w hw => ?_, fun p hp => ?_, fun i a b c => ?_⟩, h.uq, fun p hp => ?_, h.far0, fun q hq => ?_, fun q hq u hu => ?_, fun q hq => ?_, h.hc8, Or.inr ⟨hb, h.begun1 hb⟩⟩
  · exact (t.words w hw).cg (fun k _ => hx _ (by omega) (by omega)) (hx _ (by omega) (by omega)) (fun k _ => hx _ (by omega) (by omega))
  · have q := t.pers p hp
    exact ⟨by rw [hx _ (by omega) (by omega)]; exact q.hkind, q.hkind0, by rw [hx _ (by omega) (by omega)]; exact q.herr, q.herr0⟩
  · have q := t.gots g hg
    exact ⟨by rw [hx _ (by omega) (by omega)]; exact q.ha, by rw [hx _ (by omega) (by omega)]; exact q.hb, by rw [hx _ (by omega) (by omega)]; exact q.hd, q.ha0, q.hb0, q.hd0⟩
  · rw [hx _ (by omega) (by omega)]; exact t.al a b ha hb
  · rw [hx _ (by omega) (by omega), hx _ (by omega) (by omega)]; exact t.als a b ha hb
  · rw [hx _ (by omega) (by omega)]; exact t.he i hi
  · exact (nm.hw w hw).cg (hx _ (by omega) (by omega)) (fun k _ => hx _ (by omega) (by omega))
  · exact (nm.hp p hp).cg (hx _ (by omega) (by omega)) (fun k _ => hx _ (by omega) (by omega))
  · rw [hx _ (by omega) (by omega)]; exact nm.hu i a b c
  · rw [hx _ (by omega) (by omega)]; exact h.far p hp
  · by_cases e : q = p
    · subst e; rw [upd_same, h91, h.fws q hq]
    · rw [upd_ne _ _ e, hx _ (by omega) (by omega)]; exact h.fws q hq
  · by_cases e : q = p
    · subst e
      rw [upd_same, bt_or, h.fws0 q hq u hu, show bt ((1 : Int32) <<< (nI w &&& 31)) u = decide (u = w) from bt_1s (by omega) u]
      exact decide_eq_false (by omega)
    · rw [upd_ne _ _ e]; exact h.fws0 q hq u hu
  · by_cases e : q = p
    · subst e
      obtain ⟨u, u1, u2⟩ := h.fws1 q hq
      exact ⟨u, u1, by rw [upd_same, bt_or, u2]; rfl⟩
    · rw [upd_ne _ _ e]; exact h.fws1 q hq
/-- a line of an hour -/
theorem rd_hour (h : rdR W P G K C fr ear pairs begun wc pc ff ac gc kn wn ws pn prices kinds fw errands alikes hears g1 g2 g3) (hb : begun = 1) (h8 : cntP hears 24 < 8) {o c : Nat} (ho : o < 24) (c1 : 1 ≤ c) (c6 : c ≤ 6) (hno : ¬ nI 0 < hears o) (h129 : fr' (129 + o) = nI c) (h5 : fr' 5 = fr 5 + 1) (hx : ∀ i, i ≠ 5 → i ≠ 129 + o → fr' i = fr i) : rdR W P G K C fr' ear pairs begun wc pc ff ac gc kn wn ws pn prices kinds fw errands alikes (upd hears o (nI c)) g1 g2 g3 := by
  have t := h.tale
  have nm := h.names
  have hW := t.W10
  have hP := t.P8
  have hG := t.G6
  have hcu := cntP_upd (f := hears) (h := o) (x := nI c) hno (nI_lt (by omega) (by omega)) 24 ho
  refine ⟨⟨t.W10, t.P8, t.G6, by rw [hx 0 (by omega) (by omega)]; exact t.hear, by rw [hx 1 (by omega) (by omega)]; exact t.hpairs, t.hwc, by rw [hx 2 (by omega) (by omega)]; exact t.hwc', t.hpc, by rw [hx 3 (by omega) (by omega)]; exact t.hpc', by rw [hx 4 (by omega) (by omega)]; exact t.hac, t.hgc, by rw [hx 7 (by omega) (by omega)]; exact t.hgc', by rw [h5, t.hc, hcu, nI_1], by rw [hx 6 (by omega) (by omega)]; exact t.ec, t.hear0, t.hpairs0, fun w hw => ?_, fun p hp => ?_, fun g hg => ?_, fun a b ha hb => ?_, fun a b ha hb => ?_, fun i hi => ?_, fun i hi => ?_⟩, h.hkn, by rw [hx 8 (by omega) (by omega)]; exact h.hkn', h.K8, h.hac0, h.C4, ⟨nm.W10, nm.P8, fun w hw => ?_, fun p hp => ?_, fun i a b c => ?_⟩, h.uq, fun p hp => ?_, h.far0, fun q hq => ?_, h.fws0, h.fws1, by rw [hcu]; omega, Or.inr ⟨hb, h.begun1 hb⟩⟩
  · exact (t.words w hw).cg (fun k _ => hx _ (by omega) (by omega)) (hx _ (by omega) (by omega)) (fun k _ => hx _ (by omega) (by omega))
  · have q := t.pers p hp
    exact ⟨by rw [hx _ (by omega) (by omega)]; exact q.hkind, q.hkind0, by rw [hx _ (by omega) (by omega)]; exact q.herr, q.herr0⟩
  · have q := t.gots g hg
    exact ⟨by rw [hx _ (by omega) (by omega)]; exact q.ha, by rw [hx _ (by omega) (by omega)]; exact q.hb, by rw [hx _ (by omega) (by omega)]; exact q.hd, q.ha0, q.hb0, q.hd0⟩
  · rw [hx _ (by omega) (by omega)]; exact t.al a b ha hb
  · rw [hx _ (by omega) (by omega), hx _ (by omega) (by omega)]; exact t.als a b ha hb
  · by_cases e : i = o
    · subst e; rw [upd_same, h129]
    · rw [upd_ne _ _ e, hx _ (by omega) (by omega)]; exact t.he i hi
  · by_cases e : i = o
    · subst e; rw [upd_same]; exact ⟨c, c6, rfl⟩
    · rw [upd_ne _ _ e]; exact t.he0 i hi
  · exact (nm.hw w hw).cg (hx _ (by omega) (by omega)) (fun k _ => hx _ (by omega) (by omega))
  · exact (nm.hp p hp).cg (hx _ (by omega) (by omega)) (fun k _ => hx _ (by omega) (by omega))
  · rw [hx _ (by omega) (by omega)]; exact nm.hu i a b c
  · rw [hx _ (by omega) (by omega)]; exact h.far p hp
  · rw [hx _ (by omega) (by omega)]; exact h.fws q hq
/-- an errand's line -/
theorem rd_errand (h : rdR W P G K C fr ear pairs begun wc pc ff ac gc kn wn ws pn prices kinds fw errands alikes hears g1 g2 g3) (hb : begun = 1) {p c : Nat} (hp : p < P) (c1 : 1 ≤ c) (c4 : c ≤ 4) (hno : ¬ nI 0 < errands p) (h92 : fr' (92 + 4 * p) = nI c) (h6 : fr' 6 = fr 6 + 1) (hx : ∀ i, i ≠ 6 → i ≠ 92 + 4 * p → fr' i = fr i) : rdR W P G K C fr' ear pairs begun wc pc ff ac gc kn wn ws pn prices kinds fw (upd errands p (nI c)) alikes hears g1 g2 g3 := by
  have t := h.tale
  have nm := h.names
  have hW := t.W10
  have hP := t.P8
  have hG := t.G6
  have hcu := cntP_upd (f := errands) (h := p) (x := nI c) hno (nI_lt (by omega) (by omega)) P hp
  refine ⟨⟨t.W10, t.P8, t.G6, by rw [hx 0 (by omega) (by omega)]; exact t.hear, by rw [hx 1 (by omega) (by omega)]; exact t.hpairs, t.hwc, by rw [hx 2 (by omega) (by omega)]; exact t.hwc', t.hpc, by rw [hx 3 (by omega) (by omega)]; exact t.hpc', by rw [hx 4 (by omega) (by omega)]; exact t.hac, t.hgc, by rw [hx 7 (by omega) (by omega)]; exact t.hgc', by rw [hx 5 (by omega) (by omega)]; exact t.hc, by rw [h6, t.ec, hcu, nI_1], t.hear0, t.hpairs0, fun w hw => ?_, fun q hq => ?_, fun g hg => ?_, fun a b ha hb => ?_, fun a b ha hb => ?_, fun i hi => ?_, t.he0⟩, h.hkn, by rw [hx 8 (by omega) (by omega)]; exact h.hkn', h.K8, h.hac0, h.C4, ⟨nm.W10, nm.P8, fun w hw => ?_, fun p hp => ?_, fun i a b c => ?_⟩, h.uq, fun p hp => ?_, h.far0, fun q hq => ?_, h.fws0, h.fws1, h.hc8, Or.inr ⟨hb, h.begun1 hb⟩⟩
  · exact (t.words w hw).cg (fun k _ => hx _ (by omega) (by omega)) (hx _ (by omega) (by omega)) (fun k _ => hx _ (by omega) (by omega))
  · have z := t.pers q hq
    by_cases e : q = p
    · subst e
      rw [upd_same]
      exact ⟨by rw [hx _ (by omega) (by omega)]; exact z.hkind, z.hkind0, h92.symm, ⟨c, c4, rfl⟩⟩
    · rw [upd_ne _ _ e]
      exact ⟨by rw [hx _ (by omega) (by omega)]; exact z.hkind, z.hkind0, by rw [hx _ (by omega) (by omega)]; exact z.herr, z.herr0⟩
  · have q := t.gots g hg
    exact ⟨by rw [hx _ (by omega) (by omega)]; exact q.ha, by rw [hx _ (by omega) (by omega)]; exact q.hb, by rw [hx _ (by omega) (by omega)]; exact q.hd, q.ha0, q.hb0, q.hd0⟩
  · rw [hx _ (by omega) (by omega)]; exact t.al a b ha hb
  · rw [hx _ (by omega) (by omega), hx _ (by omega) (by omega)]; exact t.als a b ha hb
  · rw [hx _ (by omega) (by omega)]; exact t.he i hi
  · exact (nm.hw w hw).cg (hx _ (by omega) (by omega)) (fun k _ => hx _ (by omega) (by omega))
  · exact (nm.hp p hp).cg (hx _ (by omega) (by omega)) (fun k _ => hx _ (by omega) (by omega))
  · rw [hx _ (by omega) (by omega)]; exact nm.hu i a b c
  · rw [hx _ (by omega) (by omega)]; exact h.far p hp
  · rw [hx _ (by omega) (by omega)]; exact h.fws q hq
/-- a line of who got over -/
theorem rd_got (h : rdR W P G K C fr ear pairs begun wc pc ff ac gc kn wn ws pn prices kinds fw errands alikes hears g1 g2 g3) (hb : begun = 1) (hG6 : G < 6) {p q c : Nat} (hp : p < P) (hq : q < P) (c2 : c ≤ 2) (h153 : fr' (153 + 3 * G) = nI p) (h154 : fr' (154 + 3 * G) = nI q) (h155 : fr' (155 + 3 * G) = nI c) (h7 : fr' 7 = nI (G + 1)) (hx : ∀ i, i ≠ 7 → ¬ (153 + 3 * G ≤ i ∧ i < 156 + 3 * G) → fr' i = fr i) : rdR W P (G + 1) K C fr' ear pairs begun wc pc ff ac (nI (G + 1)) kn wn ws pn prices kinds fw errands alikes hears (upd g1 G (nI p)) (upd g2 G (nI q)) (upd g3 G (nI c)) := by
  have t := h.tale
  have nm := h.names
  have hW := t.W10
  have hP := t.P8
  refine ⟨⟨t.W10, t.P8, by omega, by rw [hx 0 (by omega) (by omega)]; exact t.hear, by rw [hx 1 (by omega) (by omega)]; exact t.hpairs, t.hwc, by rw [hx 2 (by omega) (by omega)]; exact t.hwc', t.hpc, by rw [hx 3 (by omega) (by omega)]; exact t.hpc', by rw [hx 4 (by omega) (by omega)]; exact t.hac, rfl, h7, by rw [hx 5 (by omega) (by omega)]; exact t.hc, by rw [hx 6 (by omega) (by omega)]; exact t.ec, t.hear0, t.hpairs0, fun w hw => ?_, fun p hp => ?_, fun g hg => ?_, fun a b ha hb => ?_, fun a b ha hb => ?_, fun i hi => ?_, t.he0⟩, h.hkn, by rw [hx 8 (by omega) (by omega)]; exact h.hkn', h.K8, h.hac0, h.C4, ⟨nm.W10, nm.P8, fun w hw => ?_, fun p hp => ?_, fun i a b c => ?_⟩, h.uq, fun p hp => ?_, h.far0, fun q hq => ?_, h.fws0, h.fws1, h.hc8, Or.inr ⟨hb, h.begun1 hb⟩⟩
  · exact (t.words w hw).cg (fun k _ => hx _ (by omega) (by omega)) (hx _ (by omega) (by omega)) (fun k _ => hx _ (by omega) (by omega))
  · have q := t.pers p hp
    exact ⟨by rw [hx _ (by omega) (by omega)]; exact q.hkind, q.hkind0, by rw [hx _ (by omega) (by omega)]; exact q.herr, q.herr0⟩
  · by_cases e : g = G
    · subst e
      rw [upd_same, upd_same, upd_same]
      exact ⟨h153.symm, h154.symm, h155.symm, ⟨p, hp, rfl⟩, ⟨q, hq, rfl⟩, ⟨c, c2, rfl⟩⟩
    · rw [upd_ne _ _ e, upd_ne _ _ e, upd_ne _ _ e]
      have q := t.gots g (by omega)
      exact ⟨by rw [hx _ (by omega) (by omega)]; exact q.ha, by rw [hx _ (by omega) (by omega)]; exact q.hb, by rw [hx _ (by omega) (by omega)]; exact q.hd, q.ha0, q.hb0, q.hd0⟩
  · rw [hx _ (by omega) (by omega)]; exact t.al a b ha hb
  · rw [hx _ (by omega) (by omega), hx _ (by omega) (by omega)]; exact t.als a b ha hb
  · rw [hx _ (by omega) (by omega)]; exact t.he i hi
  · exact (nm.hw w hw).cg (hx _ (by omega) (by omega)) (fun k _ => hx _ (by omega) (by omega))
  · exact (nm.hp p hp).cg (hx _ (by omega) (by omega)) (fun k _ => hx _ (by omega) (by omega))
  · rw [hx _ (by omega) (by omega)]; exact nm.hu i a b c
  · rw [hx _ (by omega) (by omega)]; exact h.far p hp
  · rw [hx _ (by omega) (by omega)]; exact h.fws q hq
/-- a line of what is alike -/
theorem rd_alike {alikes' : Nat → Int32} (h : rdR W P G K C fr ear pairs begun wc pc ff ac gc kn wn ws pn prices kinds fw errands alikes hears g1 g2 g3) (hb : begun = 1) (hC4 : C < 4) {p q : Nat} (hp : p < 8) (hq : q < 8) (ha : ∀ a b, a < 8 → b < 8 → bt (alikes' (a + 1)) (b + 1) = (bt (alikes (a + 1)) (b + 1) || (decide (a = p) && decide (b = q)) || (decide (a = q) && decide (b = p)))) (hm : ∀ a b, a < 8 → b < 8 → bt (fr' (121 + a)) b = (bt (fr (121 + a)) b || (decide (a = p) && decide (b = q)) || (decide (a = q) && decide (b = p)))) (h4 : fr' 4 = nI (C + 1)) (hx : ∀ i, i ≠ 4 → ¬ (121 ≤ i ∧ i < 129) → fr' i = fr i) : rdR W P G K (C + 1) fr' ear pairs begun wc pc ff (nI (C + 1)) gc kn wn ws pn prices kinds fw errands alikes' hears g1 g2 g3 := by
  have t := h.tale
  have nm := h.names
  have hW := t.W10
  have hP := t.P8
  have hG := t.G6
  refine ⟨⟨t.W10, t.P8, t.G6, by rw [hx 0 (by omega) (by omega)]; exact t.hear, by rw [hx 1 (by omega) (by omega)]; exact t.hpairs, t.hwc, by rw [hx 2 (by omega) (by omega)]; exact t.hwc', t.hpc, by rw [hx 3 (by omega) (by omega)]; exact t.hpc', h4.symm, t.hgc, by rw [hx 7 (by omega) (by omega)]; exact t.hgc', by rw [hx 5 (by omega) (by omega)]; exact t.hc, by rw [hx 6 (by omega) (by omega)]; exact t.ec, t.hear0, t.hpairs0, fun w hw => ?_, fun p hp => ?_, fun g hg => ?_, fun a b h1 h2 => ?_, fun a b h1 h2 => ?_, fun i hi => ?_, t.he0⟩, h.hkn, by rw [hx 8 (by omega) (by omega)]; exact h.hkn', h.K8, rfl, by omega, ⟨nm.W10, nm.P8, fun w hw => ?_, fun p hp => ?_, fun i a b c => ?_⟩, h.uq, fun p hp => ?_, h.far0, fun q hq => ?_, h.fws0, h.fws1, h.hc8, Or.inr ⟨hb, h.begun1 hb⟩⟩
  · exact (t.words w hw).cg (fun k _ => hx _ (by omega) (by omega)) (hx _ (by omega) (by omega)) (fun k _ => hx _ (by omega) (by omega))
  · have q := t.pers p hp
    exact ⟨by rw [hx _ (by omega) (by omega)]; exact q.hkind, q.hkind0, by rw [hx _ (by omega) (by omega)]; exact q.herr, q.herr0⟩
  · have q := t.gots g hg
    exact ⟨by rw [hx _ (by omega) (by omega)]; exact q.ha, by rw [hx _ (by omega) (by omega)]; exact q.hb, by rw [hx _ (by omega) (by omega)]; exact q.hd, q.ha0, q.hb0, q.hd0⟩
  · rw [ha a b h1 h2, hm a b h1 h2, t.al a b h1 h2]
  · rw [hm a b h1 h2, hm b a h2 h1, t.als a b h1 h2]
    cases bt (fr (121 + b)) a <;> cases decide (a = p) <;> cases decide (b = q) <;> cases decide (a = q) <;> cases decide (b = p) <;> rfl
  · rw [hx _ (by omega) (by omega)]; exact t.he i hi
  · exact (nm.hw w hw).cg (hx _ (by omega) (by omega)) (fun k _ => hx _ (by omega) (by omega))
  · exact (nm.hp p hp).cg (hx _ (by omega) (by omega)) (fun k _ => hx _ (by omega) (by omega))
  · rw [hx _ (by omega) (by omega)]; exact nm.hu i a b c
  · rw [hx _ (by omega) (by omega)]; exact h.far p hp
  · rw [hx _ (by omega) (by omega)]; exact h.fws q hq
end
