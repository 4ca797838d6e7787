theorem lz_B : (1000000000 : Int64).toInt = 1000000000 := by decide +kernel
theorem lz_div {x : Int64} : (x / (1000000000 : Int64)).toInt = x.toInt.tdiv 1000000000 := by
  rw [Int64.toInt_div_of_ne_right _ _ (by decide +kernel), lz_B]
/-- digits of W, and what goes on -/
theorem cy_s {W k : Nat} {q q' s : Int} (h : q = 1000000000 * q' + s) : ((W / 1000000000 ^ k : Nat) : Int) - q + s = ((W / 1000000000 ^ k : Nat) : Int) - 1000000000 * q' ∧ (((W / 1000000000 ^ k : Nat) : Int) - 1000000000 * q') % 1000000000 = (dl W k : Int) ∧ (((W / 1000000000 ^ k : Nat) : Int) - 1000000000 * q') / 1000000000 = ((W / 1000000000 ^ (k + 1) : Nat) : Int) - q' := by
  have d1 := dl_div W k
  have d2 := dl_lt W k
  omega
section RBIG
variable {z : tq_S} {Q : tq_O → tq_S → Prop}
end RBIG
