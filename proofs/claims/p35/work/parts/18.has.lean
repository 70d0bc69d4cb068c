/-! PURE: a bit of a number, as the law asks for it. -/
def f_M_has (x y : Int32) : Bool := if ((x >>> (y &&& 31)) &&& 1) = 1 then true else false
theorem L_has_eq (x y : Int32) : f_L_has x y = f_M_has x y := rfl
