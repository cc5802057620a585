/-! pure words: bounds, branches, finite changes of a function -/
def rf_ib (i : Int32) (n : Nat) : Bool := decide (0 ≤ i.toInt ∧ i.toInt < n)
theorem rf_ib_in {i : Int32} {n : Nat} (h : rf_ib i n = true) : vp_in i n := vp_in_iff.mpr (of_decide_eq_true h)
theorem rf_in_ib {i : Int32} {n : Nat} (h : vp_in i n) : rf_ib i n = true := decide_eq_true (vp_in_iff.mp h)
def rf_zb (v : Int32) : Bool := decide (v = 0 ∨ v = 1)
theorem rf_it {c : Prop} {i : Decidable c} {α : Type} {A B : Option α} {R : α} (h : c) (hf : @ite _ c i A B = some R) : A = some R := by rw [if_pos h] at hf; exact hf
theorem rf_ie {c : Prop} {i : Decidable c} {α : Type} {A B : Option α} {R : α} (h : ¬ c) (hf : @ite _ c i A B = some R) : B = some R := by rw [if_neg h] at hf; exact hf
theorem rf_gu {c : Prop} {i : Decidable c} {α : Type} {A : Option α} {R : α} (hf : @ite _ c i A none = some R) : c ∧ A = some R := by
  by_cases h : c
  · exact ⟨h, rf_it h hf⟩
  · rw [if_neg h] at hf; cases hf
theorem rf_gn {c : Prop} {i : Decidable c} {α : Type} {A : Option α} {R : α} (hf : @ite _ c i none A = some R) : ¬ c ∧ A = some R := by
  by_cases h : c
  · rw [if_pos h] at hf; cases hf
  · exact ⟨h, rf_ie h hf⟩
theorem rf_bd {α β : Type} {x : Option α} {k : α → Option β} {R : β} (hf : x.bind k = some R) : ∃ z, x = some z ∧ k z = some R := by
  cases x with
  | none => cases hf
  | some z => exact ⟨z, rfl, hf⟩
def rf_up1 {α : Type} (f : Nat → α) (k : Nat) (v : α) : Nat → α := fun i => bif Nat.beq i k then v else f i
def rf_upL {α : Type} (f : Nat → α) : List (Nat × α) → Nat → α
  | [], k => f k
  | (j, x) :: t, k => bif Nat.beq k j then x else rf_upL f t k
def rf_setL {α : Type} : List (Nat × α) → Nat → α → Option (List (Nat × α))
  | [], _, _ => none
  | (j, x) :: t, k, v => bif Nat.beq j k then some ((j, v) :: t) else (rf_setL t k v).map (fun t' => (j, x) :: t')
def rf_catL {α : Type} (l : List (Nat × α)) : List (Nat × α) → Option (List (Nat × α))
  | [] => some l
  | (k, v) :: t => (rf_catL l t).bind (fun l1 => rf_setL l1 k v)
theorem rf_beq (a b : Nat) : Nat.beq a b = decide (a = b) := by
  by_cases h : a = b
  · subst h; rw [decide_eq_true rfl]; exact Nat.beq_refl a
  · rw [decide_eq_false h]
    cases e : Nat.beq a b with
    | false => rfl
    | true => exact absurd (Nat.eq_of_beq_eq_true e) h
theorem rf_put {α : Type} {f : Nat → α} {k : Nat} {v : α} : ∀ {l l' : List (Nat × α)}, rf_setL l k v = some l' → rf_up1 (rf_upL f l) k v = rf_upL f l'
  | [], _, h => by cases h
  | (j, x) :: t, l', h => by
    funext i
    unfold rf_setL at h
    cases e : Nat.beq j k with
    | true =>
      rw [e] at h
      cases h
      have hj := Nat.eq_of_beq_eq_true e
      subst hj
      simp only [rf_up1, rf_upL]
      cases Nat.beq i j <;> rfl
    | false =>
      rw [e] at h
      simp only [cond_false] at h
      cases hs : rf_setL t k v with
      | none => rw [hs] at h; cases h
      | some t' =>
        rw [hs] at h
        cases h
        have ih := congrFun (rf_put (f := f) hs) i
        simp only [rf_up1, rf_upL] at ih ⊢
        cases ej : Nat.beq i j with
        | true =>
          have hi := Nat.eq_of_beq_eq_true ej
          subst hi
          rw [e]
          rfl
        | false => simpa using ih
theorem rf_cat {α : Type} {f : Nat → α} {l : List (Nat × α)} : ∀ {lc l' : List (Nat × α)}, rf_catL l lc = some l' → rf_upL (rf_upL f l) lc = rf_upL f l'
  | [], _, h => by cases h; rfl
  | (k, v) :: t, l', h => by
    unfold rf_catL at h
    cases hs : rf_catL l t with
    | none => rw [hs] at h; cases h
    | some l1 =>
      rw [hs] at h
      have h1 := rf_cat (f := f) hs
      have h2 := rf_put (f := f) (show rf_setL l1 k v = some l' from h)
      rw [← h2, ← h1]
      funext i
      simp only [rf_up1]
      exact (rf_upL.eq_2 _ i k v t)
theorem rf_self {α : Type} {f : Nat → α} : ∀ (l : List (Nat × α)), (∀ q ∈ l, f q.1 = q.2) → rf_upL f l = f
  | [], _ => rfl
  | (j, x) :: t, h => by
    funext i
    have ih := congrFun (rf_self t (fun q hq => h q (List.mem_cons_of_mem _ hq))) i
    simp only [rf_upL]
    cases e : Nat.beq i j with
    | true =>
      have hi := Nat.eq_of_beq_eq_true e
      subst hi
      exact (h (i, x) List.mem_cons_self).symm
    | false => exact ih
