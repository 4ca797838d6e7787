section LWT
variable {w h : Nat} {S : Nat → Bool}
theorem sm_is (a : Nat) : ∀ M, fb_sm (fun t => if a = t then 1 else 0) M = if a < M then 1 else 0
  | 0 => (if_neg (by omega)).symm
  | M + 1 => by
    rw [fb_sm_succ, sm_is a M]
    by_cases q : a = M
    · rw [if_neg (by omega), if_pos q, if_pos (by omega)]
    · rw [if_neg q, Nat.add_zero]
      by_cases q2 : a < M
      · rw [if_pos q2, if_pos (by omega)]
      · rw [if_neg q2, if_neg (by omega)]
end LWT
