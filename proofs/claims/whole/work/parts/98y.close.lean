/-! words compared; the start of a tale -/
theorem note12 {names sounds : Nat → Int64} {al : Nat → Int32} {m w u lt : Nat} (hm : m < 2) (hw : w < 10) (hu : u < 10) (hlt : lt ≤ 8) : ∀ d f e0 : Nat, ∀ close : Nat → Int32, e0 + d = 9 → d < f →
    ∃ close', f_X9_noteCommon_12 names sounds al f (nI m) (nI w) (nI u) (nI lt) (nI e0) close = some close' ∧ ∀ m' e w' q, m' < 2 → e < 8 → w' < 10 → bt (close' ((m' * 8 + e) * 10 + w')) q = (bt (close ((m' * 8 + e) * 10 + w')) q || decide (m' = m ∧ w' = w ∧ q = u ∧ e0 ≤ e ∧ e ≤ lt)) := by
  intro d
  induction d with
  | zero =>
    intro f e0 close he hf
    obtain ⟨f', rfl, _⟩ := fuel_succ hf
    refine ⟨close, ?_, fun m' e w' q h1 h2 h3 => ?_⟩
    · rw [f_X9_noteCommon_12, if_pos (nI_lt (by omega) (by omega))]
    · rw [decide_eq_false (by omega), Bool.or_false]
  | succ d ih =>
    intro f e0 close he hf
    obtain ⟨f', rfl, _⟩ := fuel_succ hf
    rw [f_X9_noteCommon_12]
    by_cases h1 : lt < e0
    · rw [if_pos (nI_lt h1 (by omega))]
      exact ⟨close, rfl, fun m' e w' q h1 h2 h3 => by rw [decide_eq_false (by omega), Bool.or_false]⟩
    · rw [if_neg (nI_nlt (by omega) (by omega))]
      by_cases h7 : 7 < e0
      · rw [if_pos (show (7 : Int32) < nI e0 from nI_lt (a := 7) h7 (by omega))]
        exact ⟨close, rfl, fun m' e w' q h1 h2 h3 => by rw [decide_eq_false (by omega), Bool.or_false]⟩
      · have ix : ((nI m * 8) + nI e0) * 10 + nI w = nI ((m * 8 + e0) * 10 + w) := by
          rw [show (8 : Int32) = nI 8 from rfl, show (10 : Int32) = nI 10 from rfl, pb_mul, pb_add, pb_mul, pb_add]
        rw [if_neg (show ¬ (7 : Int32) < nI e0 from nI_nlt (a := 7) (by omega) (by decide)), ix, if_pos (pb_ibt (by omega) (by omega)), if_pos (pb_ibt (by omega) (by omega)), nI_clamp (by omega), nI_1]
        obtain ⟨close', q1, q2⟩ := ih f' (e0 + 1) (upd close ((m * 8 + e0) * 10 + w) (close ((m * 8 + e0) * 10 + w) ||| ((1 : Int32) <<< (nI u &&& 31)))) (by omega) (by omega)
        refine ⟨close', q1, fun m' e w' q h1 h2 h3 => ?_⟩
        rw [q2 m' e w' q h1 h2 h3]
        by_cases hi : (m' * 8 + e) * 10 + w' = (m * 8 + e0) * 10 + w
        · have e1 : m' = m := by omega
          have e2 : e = e0 := by omega
          have e3 : w' = w := by omega
          subst e1 e2 e3
          rw [upd_same, bt_or, show bt ((1 : Int32) <<< (nI u &&& 31)) q = decide (q = u) from bt_1s (by omega) q, decide_eq_false (show ¬ (m' = m' ∧ w' = w' ∧ q = u ∧ e + 1 ≤ e ∧ e ≤ lt) by omega), Bool.or_false]
          congr 1
          exact decide_eq_decide.mpr ⟨fun z => by omega, fun z => z.2.2.1⟩
        · rw [upd_ne _ _ hi]
          congr 1
          exact decide_eq_decide.mpr ⟨fun z => by omega, fun z => by omega⟩
/-- of these pairs of words it is noted -/
def clB (r : Nat → Int32) (D : Nat → Nat → Prop) (close : Nat → Int32) : Prop := ∀ m e w q, m < 2 → e < 8 → w < 10 → (bt (close ((m * 8 + e) * 10 + w)) q = true ↔ D w q ∧ e ≤ if m = 0 then lkN r w q else eyN r w q)
theorem cmp20 {W : Nat} {r al : Nat → Int32} {names sounds : Nat → Int64} {prices : Nat → Int32} (hW : W ≤ 10) (hwd : ∀ w, w < W → pWord r W w (names w) (sounds w) (prices w)) (hal : ∀ a b, a < 8 → b < 8 → bt (al (a + 1)) (b + 1) = bt (r (121 + a)) b) (K : Int32 → (Nat → Int32) → Option (Nat → Int32)) {w : Nat} (hw : w < W) : ∀ d f i : Nat, ∀ close : Nat → Int32, i + d = W → d < f → clB r (fun w' q => w' < w ∧ q < W ∨ w' = w ∧ q < i) close →
    ∃ close', f_X9_compareWords_20 K (nI W) names sounds al f (nI w) (nI i) close = K (nI (w + 1)) close' ∧ clB r (fun w' q => w' < w + 1 ∧ q < W) close' := by
  intro d
  induction d with
  | zero =>
    intro f i close hi hf hc
    obtain ⟨f', rfl, _⟩ := fuel_succ hf
    refine ⟨close, ?_, fun m e w' q h1 h2 h3 => ?_⟩
    · rw [f_X9_compareWords_20, if_pos (nI_le (by omega) (by omega)), nI_1]
    · rw [hc m e w' q h1 h2 h3]
      exact and_congr ⟨fun z => by omega, fun z => by omega⟩ Iff.rfl
  | succ d ih =>
    intro f i close hi hf hc
    obtain ⟨f', rfl, _⟩ := fuel_succ hf
    have k0 := common0_s hW hwd hal hw (show i < W by omega)
    have k1 := common1_s (al := al) hW hwd hw (show i < W by omega)
    have l0 : lkN r w i ≤ 8 := by
      have := (run_le (fun k => alk r (sL r w (sN r w - 1 - k)) (sL r i (sN r i - 1 - k))) (min (sN r w) (sN r i)) 0).2
      have := (hwd w hw).s2
      unfold lkN
      omega
    have l1 : eyN r w i ≤ 8 := by
      have := (run_le (fun k => nL r w (nN r w - 1 - k) == nL r i (nN r i - 1 - k)) (min (nN r w) (nN r i)) 0).2
      have := (hwd w hw).n2
      unfold eyN
      omega
    obtain ⟨c1, a1, a2⟩ := note12 (names := names) (sounds := sounds) (al := al) (m := 0) (w := w) (u := i) (by omega) (by omega) (by omega) l0 9 rf_fu 0 close (by omega) (by decide)
    obtain ⟨c2, b1, b2⟩ := note12 (names := names) (sounds := sounds) (al := al) (m := 1) (w := w) (u := i) (by omega) (by omega) (by omega) l1 9 rf_fu 0 c1 (by omega) (by decide)
    obtain ⟨close', d1, d2⟩ := ih f' (i + 1) c2 (by omega) (by omega) (fun m e w' q h1 h2 h3 => by
      rw [b2 m e w' q h1 h2 h3, a2 m e w' q h1 h2 h3, Bool.or_eq_true, Bool.or_eq_true, hc m e w' q h1 h2 h3, decide_eq_true_iff, decide_eq_true_iff]
      by_cases hwi : w' = w ∧ q = i
      · obtain ⟨rfl, rfl⟩ := hwi
        obtain rfl | rfl : m = 0 ∨ m = 1 := by omega
        · rw [if_pos rfl]
          constructor
          · rintro ((z | z) | z)
            · omega
            · exact ⟨by omega, z.2.2.2.2⟩
            · omega
          · rintro ⟨_, z⟩
            exact Or.inl (Or.inr ⟨rfl, rfl, rfl, by omega, z⟩)
        · rw [if_neg (by decide)]
          constructor
          · rintro ((z | z) | z)
            · omega
            · omega
            · exact ⟨by omega, z.2.2.2.2⟩
          · rintro ⟨_, z⟩
            exact Or.inr ⟨rfl, rfl, rfl, by omega, z⟩
      · constructor
        · rintro ((z | z) | z)
          · exact ⟨by omega, z.2⟩
          · exact absurd ⟨z.2.1, z.2.2.1⟩ hwi
          · exact absurd ⟨z.2.1, z.2.2.1⟩ hwi
        · rintro ⟨z1, z2⟩
          refine Or.inl (Or.inl ⟨?_, z2⟩)
          rcases z1 with z1 | z1
          · exact Or.inl z1
          · refine Or.inr ⟨z1.1, ?_⟩
            have : q ≠ i := fun z => hwi ⟨z1.1, z⟩
            omega)
    refine ⟨close', ?_, d2⟩
    rw [f_X9_compareWords_20, if_neg (nI_ge (by omega) (by omega)), nI_1]
    unfold f_X9_noteCommon
    rw [show f_X9_common names sounds al 0 (nI w) (nI i) = _ from k0, pb_bind]
    rw [show f_X9_noteCommon_12 names sounds al rf_fu 0 (nI w) (nI i) (nI (lkN r w i)) 0 close = some c1 from a1, pb_bind]
    rw [show f_X9_common names sounds al 1 (nI w) (nI i) = _ from k1, pb_bind]
    rw [show f_X9_noteCommon_12 names sounds al rf_fu 1 (nI w) (nI i) (nI (eyN r w i)) 0 c1 = some c2 from b1, pb_bind]
    exact d1
theorem cmp10 {W : Nat} {r al : Nat → Int32} {names sounds : Nat → Int64} {prices : Nat → Int32} (hW : W ≤ 10) (hwd : ∀ w, w < W → pWord r W w (names w) (sounds w) (prices w)) (hal : ∀ a b, a < 8 → b < 8 → bt (al (a + 1)) (b + 1) = bt (r (121 + a)) b) : ∀ d f w : Nat, ∀ close : Nat → Int32, w + d = W → d < f → clB r (fun w' q => w' < w ∧ q < W) close →
    ∃ close', f_X9_compareWords_10 (nI W) names sounds al f (nI w) close = some close' ∧ clB r (fun w' q => w' < W ∧ q < W) close' := by
  intro d
  induction d with
  | zero =>
    intro f w close hi hf hc
    obtain ⟨f', rfl, _⟩ := fuel_succ hf
    obtain rfl : w = W := by omega
    refine ⟨close, ?_, hc⟩
    rw [f_X9_compareWords_10, if_pos (nI_le (Nat.le_refl _) (by omega))]
  | succ d ih =>
    intro f w close hi hf hc
    obtain ⟨f', rfl, _⟩ := fuel_succ hf
    obtain ⟨c1, a1, a2⟩ := cmp20 hW hwd hal (f_X9_compareWords_10 (nI W) names sounds al f') (w := w) (by omega) W rf_fu 0 close (by omega) (by show W < 4096; omega) (fun m e w' q h1 h2 h3 => by
      rw [hc m e w' q h1 h2 h3]
      exact and_congr ⟨fun z => by omega, fun z => by omega⟩ Iff.rfl)
    obtain ⟨close', b1, b2⟩ := ih f' (w + 1) c1 (by omega) (by omega) a2
    refine ⟨close', ?_, b2⟩
    rw [f_X9_compareWords_10, if_neg (nI_ge (by omega) (by omega)), show (0 : Int32) = nI 0 from rfl, a1, b1]
theorem compare_s {W : Nat} {r al : Nat → Int32} {names sounds : Nat → Int64} {prices : Nat → Int32} (hW : W ≤ 10) (hwd : ∀ w, w < W → pWord r W w (names w) (sounds w) (prices w)) (hal : ∀ a b, a < 8 → b < 8 → bt (al (a + 1)) (b + 1) = bt (r (121 + a)) b) (close : Nat → Int32) : ∃ close', f_X9_compareWords (nI W) names sounds al close = some close' ∧ pClose W r close' := by
  obtain ⟨close', a1, a2⟩ := cmp10 hW hwd hal W rf_fu 0 (rf_fill 160 0 close) (by omega) (by show W < 4096; omega) (fun m e w q h1 h2 h3 => by
    unfold rf_fill
    rw [if_pos (by omega), bt_0]
    exact ⟨(fun z => by cases z), fun z => by omega⟩)
  refine ⟨close', a1, fun m e w h1 h2 h3 u => ?_⟩
  apply Bool.eq_iff_iff.mpr
  rw [a2 m e w u h1 h2 (by omega), Bool.and_eq_true, decide_eq_true_iff, decide_eq_true_iff]
  exact and_congr ⟨fun z => z.2, fun z => ⟨h3, z⟩⟩ Iff.rfl
theorem pTale.cg {W P G : Nat} {r r' : Nat → Int32} {ear pairs wc pc ac gc : Int32} {wn ws : Nat → Int64} {prices kinds errands alikes hears g1 g2 g3 : Nat → Int32} (t : pTale W P G r ear pairs wc pc ac gc wn ws prices kinds errands alikes hears g1 g2 g3) (hx : ∀ i, i < 333 → r' i = r i) : pTale W P G r' ear pairs wc pc ac gc wn ws prices kinds errands alikes hears g1 g2 g3 := by
  have hW := t.W10
  have hP := t.P8
  have hG := t.G6
  refine ⟨t.W10, t.P8, t.G6, by rw [hx 0 (by omega)]; exact t.hear, by rw [hx 1 (by omega)]; exact t.hpairs, t.hwc, by rw [hx 2 (by omega)]; exact t.hwc', t.hpc, by rw [hx 3 (by omega)]; exact t.hpc', by rw [hx 4 (by omega)]; exact t.hac, t.hgc, by rw [hx 7 (by omega)]; exact t.hgc', by rw [hx 5 (by omega)]; exact t.hc, by rw [hx 6 (by omega)]; exact t.ec, t.hear0, t.hpairs0, fun w hw => ?_, fun p hp => ?_, fun g hg => ?_, fun a b ha hb => ?_, fun a b ha hb => ?_, fun i hi => ?_, t.he0⟩
  · exact (t.words w hw).cg (fun k _ => hx _ (by omega)) (hx _ (by omega)) (fun k _ => hx _ (by omega))
  · have q := t.pers p hp
    exact ⟨by rw [hx _ (by omega)]; exact q.hkind, q.hkind0, by rw [hx _ (by omega)]; exact q.herr, q.herr0⟩
  · have q := t.gots g hg
    exact ⟨by rw [hx _ (by omega)]; exact q.ha, by rw [hx _ (by omega)]; exact q.hb, by rw [hx _ (by omega)]; exact q.hd, q.ha0, q.hb0, q.hd0⟩
  · rw [hx _ (by omega)]; exact t.al a b ha hb
  · rw [hx _ (by omega), hx _ (by omega)]; exact t.als a b ha hb
  · rw [hx _ (by omega)]; exact t.he i hi
/-- nothing is read yet -/
theorem rd_init {fr al he : Nat → Int32} (hz : ∀ i, i < 333 → fr i = 0) (hal : ∀ a, a < 32 → al a = 0) (hhe : ∀ h, h < 24 → he h = 0) (wn ws pn : Nat → Int64) (prices kinds fw errands g1 g2 g3 : Nat → Int32) : rdR 0 0 0 0 0 fr 0 0 0 (nI 0) (nI 0) 0 (nI 0) (nI 0) (nI 0) wn ws pn prices kinds fw errands al he g1 g2 g3 := by
  have hcn : cntP he 24 = 0 := (cntP_congr (g := fun _ => 0) 24 hhe).trans (by decide)
  refine ⟨⟨by omega, by omega, by omega, (hz 0 (by omega)).symm, (hz 1 (by omega)).symm, rfl, hz 2 (by omega), rfl, hz 3 (by omega), (hz 4 (by omega)).symm, rfl, hz 7 (by omega), by rw [hcn]; exact hz 5 (by omega), hz 6 (by omega), fun h => by omega, fun h => by omega, fun _ h => by omega, fun _ h => by omega, fun _ h => by omega, fun a b ha hb => ?_, fun a b ha hb => ?_, fun i hi => ?_, fun i hi => ⟨0, by omega, hhe i hi⟩⟩, rfl, hz 8 (by omega), by omega, rfl, by omega, ⟨by omega, by omega, fun _ h => by omega, fun _ h => by omega, fun i hi _ _ => hz _ (by omega)⟩, fun w p h => by omega, fun p h => by omega, fun p _ => bt_0 p, fun p h => by omega, fun p h => by omega, fun p h => by omega, by omega, Or.inl ⟨rfl, rfl, rfl, rfl, rfl, rfl, rfl, rfl, hcn⟩⟩
  · rw [hal _ (by omega), hz _ (by omega), bt_0, bt_0]
  · rw [hz _ (by omega), hz _ (by omega), bt_0, bt_0]
  · rw [hhe i hi, hz _ (by omega)]
