/-! ===== the reference's search for a mate ===== -/
def up1 (f : Nat → Nat) (o v : Nat) : Nat → Nat := fun l => if l = o then v else f l
section FINDS
variable {w h : Nat} {r : Bool} {S T : Nat → Bool}
end FINDS
