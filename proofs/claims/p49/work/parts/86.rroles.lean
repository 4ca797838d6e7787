/-! ===== free, role, roles of the reference ===== -/
def roC (F B : Nat → Bool) (c : Nat) : Nat := if F c = true then 102 else if B c = true then 110 else 45
section RROLES
variable {w h : Nat} {r : Bool} {S : Nat → Bool} {m : Nat → Nat} {F B : Nat → Bool} {z : tq_S} {Q : tq_O → tq_S → Prop}
end RROLES
