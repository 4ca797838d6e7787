section RPL
variable {w h : Nat} {r : Bool} {S : Nat → Bool} {z : tq_S} {Q : tq_O → tq_S → Prop}
theorem tb_in {m n b : Nat} (hm : m < 2 ^ n) (hb : m.testBit b = true) : b < n := by
  refine Nat.lt_of_not_le fun u => ?_
  rw [Nat.testBit_lt_two_pow (Nat.lt_of_lt_of_le hm (Nat.pow_le_pow_right (by decide) u))] at hb
  cases hb
end RPL
