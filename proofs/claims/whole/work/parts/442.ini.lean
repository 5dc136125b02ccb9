/-! the two constructors, run -/
def ini_0 : mm_H := ((0, 0, fun _ => 0, fun _ => 0, fun _ _ => none), fun _ _ => 0)
def ini_rx : Option mm_S := mm_run true 3000 67 0 (mm_ent (mm_mL 67) [.ref 0]) [] (mm_add ini_0 8 (mm_N 8))
def ini_x : mm_H := match ini_rx with
  | some s => s.2.2.2
  | none => ini_0
def ini_rm : Option mm_S := mm_run true 3000 123 0 (mm_ent (mm_mL 123) [.ref 58]) [] (mm_add ini_x 9 (mm_N 9))
def ini_m : mm_H := match ini_rm with
  | some s => s.2.2.2
  | none => ini_0
def ini_ck (k : Nat) (r : Option mm_S) : Bool := match r with
  | none => false
  | some s => match mm_ret k s.1 s.2.2.1 with
    | some none => true
    | _ => false
theorem ini_okx : ini_ck 67 ini_rx = true := by decide +kernel
theorem ini_okm : ini_ck 123 ini_rm = true := by decide +kernel
