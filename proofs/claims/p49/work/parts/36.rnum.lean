section RNUM
variable {w h : Nat} {r : Bool} {S T : Nat → Bool} {z : tq_S} {Q : tq_O → tq_S → Prop} {p : Nat → Nat} {i m : Nat}
def FM : List (Nat × Nat) := [(2, 53), (3, 54), (3, 55), (2, 56)]
end RNUM
