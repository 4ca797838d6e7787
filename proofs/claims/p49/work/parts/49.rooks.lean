section ROOKS
variable {w h : Nat} {r : Bool} {S : Nat → Bool} {z : tq_S} {Q : tq_O → tq_S → Prop} {y : Nat} {W : Nat → Nat} {d d' : Nat → Nat → Bool}
theorem xr_b {k x j : Nat} : (k ^^^ 2 ^ x).testBit j = (k.testBit j ^^ decide (x = j)) := by rw [Nat.testBit_xor, Nat.testBit_two_pow]
theorem xr_or {m x : Nat} (hm : m.testBit x = false) : m ^^^ 2 ^ x = m ||| 2 ^ x := by
  refine Nat.eq_of_testBit_eq (fun j => ?_)
  rw [xr_b, bset_b]
  by_cases q : x = j
  · subst q; rw [hm]; simp
  · have q2 : ¬ j = x := fun e => q e.symm
    rw [decide_eq_false q, decide_eq_false q2]; simp
theorem l_z {n : Nat} (hn : n < 9223372036854775808) : lN n = 0 ↔ n = 0 := by
  constructor
  · intro e
    have h1 : (lN n).toBitVec.toNat = (lN 0).toBitVec.toNat := by rw [e]; rfl
    rw [wb_tn (by omega), wb_tn (by omega)] at h1
    exact h1
  · rintro rfl; rfl
end ROOKS
