section FINDS2
variable {w h : Nat} {r : Bool} {S T : Nat → Bool}
/-- the cells that are there: all, or all but one -/
def thr (S T : Nat → Bool) (z : tq_S) : Prop := (tq_fi z 3288 = -1 ∧ T = S) ∨ ∃ c, c < 64 ∧ tq_fi z 3288 = nI c ∧ T = wo S c
end FINDS2
