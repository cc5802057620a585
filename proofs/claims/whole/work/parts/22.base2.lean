/-- the turns that a loop is given -/
def rf_fu : Nat := 4096
/-- a row whose first n places hold v -/
def rf_fill (n : Nat) (v : Int32) (f : Nat → Int32) : Nat → Int32 := fun i => if i < n then v else f i
def rf_cok (sp dp n : Int32) (n0 n1 : Nat) : Bool := decide (0 ≤ sp.toInt ∧ 0 ≤ dp.toInt ∧ 0 ≤ n.toInt ∧ sp.toInt + n.toInt ≤ n0 ∧ dp.toInt + n.toInt ≤ n1)
theorem rf_fa0 {α : Type} {f : Nat → α} : ∀ q ∈ ([] : List (Nat × α)), f q.1 = q.2 := fun _ h => nomatch h
theorem rf_fa1 {α : Type} {f : Nat → α} {k : Nat} {v : α} {t : List (Nat × α)} (h : f k = v) (ht : ∀ q ∈ t, f q.1 = q.2) : ∀ q ∈ (k, v) :: t, f q.1 = q.2 := fun q hq => (List.mem_cons.mp hq).elim (fun e => by rw [e]; exact h) (ht q)
/-- Integer.bitCount -/
def rf_bc1 (x : Int32) : Int32 := x - ((x.toUInt32 >>> (Int32.toUInt32 1 &&& Int32.toUInt32 31)).toInt32 &&& 1431655765)
def rf_bc2 (x : Int32) : Int32 := (x &&& 858993459) + ((x.toUInt32 >>> (Int32.toUInt32 2 &&& Int32.toUInt32 31)).toInt32 &&& 858993459)
def rf_bc3 (x : Int32) : Int32 := (x + (x.toUInt32 >>> (Int32.toUInt32 4 &&& Int32.toUInt32 31)).toInt32) &&& 252645135
def rf_bc4 (x : Int32) : Int32 := x + (x.toUInt32 >>> (Int32.toUInt32 8 &&& Int32.toUInt32 31)).toInt32
def rf_bc5 (x : Int32) : Int32 := (x + (x.toUInt32 >>> (Int32.toUInt32 16 &&& Int32.toUInt32 31)).toInt32) &&& 63
def rf_bc (x : Int32) : Int32 := rf_bc5 (rf_bc4 (rf_bc3 (rf_bc2 (rf_bc1 x))))
def f_J6_bitCount_0f7a4 (v0 : Int32) : Option (Int32) := some (rf_bc v0)
