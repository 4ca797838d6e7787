/-! ===== whether the typed cells hang together ===== -/
def n6 (a b : Nat) : Bool := decide (b = a + 6) || decide (a = b + 6) || (decide (b = a + 1) && !decide (a % 6 = 5)) || (decide (a = b + 1) && !decide (b % 6 = 5))
section HNG
variable {z : tq_S} {Q : tq_O → tq_S → Prop} {T : Int64} {lo : Nat}
end HNG
