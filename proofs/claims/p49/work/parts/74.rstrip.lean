section RSTRIP
variable {z : tq_S} {Q : tq_O → tq_S → Prop} {A B : Int32} {w : Nat}
def FS : List (Nat × Nat) := [(0, 3264), (3, 54), (3, 55), (3, 78), (3, 79), (3, 80), (3, 81), (0, 3313), (3, 82), (3, 83), (0, 3279), (2, 60)]
end RSTRIP
