theorem l_le0 {a : Nat} (h : a < 9223372036854775808) : lN a ≤ (0 : Int64) ↔ a = 0 := by
  have : (0 : Int64) = lN 0 := rfl
  rw [this, pk_lLE h (by omega)]; omega
section COUNT
variable {w h : Nat} {r : Bool} {A : Nat → Int32} {z0 : tq_S} {Q : tq_O → tq_S → Prop}
end COUNT
