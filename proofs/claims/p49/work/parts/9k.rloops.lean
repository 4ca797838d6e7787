section RLQ
variable {w h : Nat} {r : Bool} {S : Nat → Bool} {z : tq_S} {Q : tq_O → tq_S → Prop}
def shf4 (W : Nat → Nat) (t : Nat) : Nat := if t % 4 = 0 then W (t / 4) else 0
def vx (x : Nat) (W : Nat → Nat) (s : Nat) : Nat := if x = 0 then shf4 W s else W s
end RLQ
