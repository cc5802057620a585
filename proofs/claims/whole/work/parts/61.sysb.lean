/-! words of the start and of led -/
def rf_I0 : Nat → Int32 := fun k => if k = 10 then (-2) else if k = 11 then (-2) else if k = 15 then 16 else if k = 18 then 3 else if k = 44 then (-1) else 0
def rf_J0 : Nat → Int64 := fun _ => 0
def rf_A0 : Nat → Nat → Int32 := fun _ _ => 0
def rf_B0 : Nat → Nat → Int64 := fun _ _ => 0
def rf_I0M : Nat → Int32 := fun k => if k = 9 then (-1) else 0
def f_X10_led_37 (k4 : Int32 → Int32 → Int32 → Option (Int32 × Int32)) (tc_personCount : Int32) (now_wet : Nat → Int32) (v1 : Int32) (v2 : Int32) (v3 : Int32) : Option (Int32 × Int32) :=
  k4 v1 v2 (v3 + 1)
def f_X10_led_4 (tc_personCount : Int32) (now_wet : Nat → Int32) : Nat → Int32 → Int32 → Int32 → Option (Int32 × Int32)
  | 0, _, _, _ => none
  | n + 1, v1, v2, v3 =>
   if tc_personCount ≤ v3 then
    some (1, 0)
   else
    if rf_ib v3 8 = true then
    if (now_wet (Int32.toNatClampNeg v3)) ≤ 0 then
     f_X10_led_37 (f_X10_led_4 tc_personCount now_wet n) tc_personCount now_wet v1 v2 v3
    else
     if v2 = v1 then
      some (0, v3)
     else
      f_X10_led_37 (f_X10_led_4 tc_personCount now_wet n) tc_personCount now_wet v1 (v2 + 1) v3
    else none
def f_X10_led (tc_personCount : Int32) (now_wet : Nat → Int32) (v1 : Int32) : Option (Int32 × Int32) :=
  f_X10_led_4 tc_personCount now_wet rf_fu v1 0 0
def rf_step_42 (INV INV2 : rf_INV) : Prop := ∀ (I : Nat → Int32) (J : Nat → Int64) (A : Nat → Nat → Int32) (B : Nat → Nat → Int64) (I' : Nat → Int32) (A' : Nat → Nat → Int32) (v1 : Int32), INV I J A B I' A' → ∃ (zX : Int32 × Int32) (zM : Int32 × Int32), f_X10_led (I 24) (A 2) v1 = some zX ∧ f_X11_led (I' 12) (A' 2) (A' 4) (I' 0) v1 = some zM ∧ (zX.1 = 0 ∨ zX.1 = 1) ∧ zM.2 = zX.1 ∧ (zX.1 = 0 → zX.2 = zM.1) ∧ INV2 I J A B (rf_upL I' [(0, zM.2)]) A'
