section RTP
variable {w h : Nat} {r : Bool} {S : Nat → Bool} {z : tq_S} {Q : tq_O → tq_S → Prop} {K : Nat} {C M Z : Nat → Nat} {A : Nat → Int64}
theorem cvF_n2 {s : Int64} {fx fy part fst m : Nat} (e : cvF w r S s fx fy part fst 36 = some m) : m < 2 ^ fb_ct S 64 := by
  obtain ⟨_, o3⟩ := (cvF_t 36).1 m e
  refine Nat.lt_pow_two_of_testBit m fun b hb => ?_
  cases q : m.testBit b
  · rfl
  · obtain ⟨j, a, b', c⟩ := (o3 b).mp q
    obtain ⟨c', c1, c2, _, _, c5⟩ := cix_to c
    have := ct_in c1 c2
    omega
end RTP
