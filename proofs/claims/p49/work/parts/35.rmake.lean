/-! ===== the reference makes the cover of a number, and tells its number ===== -/
def tc (w : Nat) (r : Bool) (p : Nat → Nat) (j : Nat) : Nat := if Rp w r p j = true then 101 else if Dp p j = true then 115 else if p j + 8 = j then 110 else 119
section TC
variable {w : Nat} {r : Bool} {p : Nat → Nat} {i : Nat}
end TC
def ch (w : Nat) (r : Bool) (i : Nat) (T : Nat → Bool) (k : Nat) : Option Nat := if k = 0 then (if cv_R w i T = true then some (i + 1) else none) else if k = 1 then (if T (i + 8) = true then some (i + 8) else none) else (if cv_O w r i T = true then some (i + (w - 1)) else none)
section RMAKE
variable {w h : Nat} {r : Bool} {S T : Nat → Bool} {z : tq_S} {Q : tq_O → tq_S → Prop} {p : Nat → Nat} {i : Nat}
theorem re_rm {a b : Nat} (hT : cv_re w h T) : cv_re w h (cv_rm T a b) := fun j hj => hT j (cv_rm_t.mp hj).1
end RMAKE
