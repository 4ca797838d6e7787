section TAB
variable {z : tq_S} {Q : tq_O → tq_S → Prop}
def tot (N : Nat) (V : Nat → Nat) : Nat := fb_sm V N
end TAB
