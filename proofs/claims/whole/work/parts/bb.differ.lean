/-! ===== unlike: the first of two exact covers, at the first cell where they differ ===== -/
section LAT
variable {w h : Nat} {S : Nat → Bool} {P K : Nat} {f : Nat → plc} {M Z : Nat → Nat}
theorem ahd_as {m m' : Nat} (h1 : ahd m m') (h2 : ahd m' m) : False := by
  obtain ⟨b, b1, b2, b3⟩ := h1
  obtain ⟨c, c1, c2, c3⟩ := h2
  rcases Nat.lt_trichotomy b c with u | u | u
  · have := c3 b u
    rw [b1, b2] at this; cases this
  · subst u
    rw [b1] at c2; cases c2
  · have := b3 c u
    rw [c1, c2] at this; cases this
theorem LL_at (hpl : plg S Z P f) (hn : fb_ct S 64 ≤ 24) (hso : ∀ p p', p < p' → p' < P → plt (f p) (f p')) {j j' b x y : Nat} (hj : j < exn (fb_ct S 64) P f K M) (hj' : j' < exn (fb_ct S 64) P f K M) (hb : b < fb_ct S 64) (hx : x ∈ LL S P f K M j) (hy : y ∈ LL S P f K M j') (tx : (f x).2.2.1.testBit b = true) (ty : (f y).2.2.1.testBit b = true) (hne : x ≠ y) (inv : ∀ b', b' < b → ∃ u, u ∈ LL S P f K M j ∧ u ∈ LL S P f K M j' ∧ (f u).2.2.1.testBit b' = true) : j < j' ↔ ((f x).2.1 < (f y).2.1 ∨ ((f x).2.1 = (f y).2.1 ∧ ahd (f x).2.2.1 (f y).2.2.1)) := by
  have xP := LL_P hpl hn hj hx
  have yP := LL_P hpl hn hj' hy
  obtain ⟨_, p2, p3, p4, _, _⟩ := hpl.1 x xP
  obtain ⟨_, q2, q3, q4, _, _⟩ := hpl.1 y yP
  have fx : (f x).1 = b := by
    refine Nat.le_antisymm (Nat.le_of_not_lt fun u => ?_) (Nat.le_of_not_lt fun u => ?_)
    · rw [p4 b u] at tx; cases tx
    · obtain ⟨v, v1, v2, v3⟩ := inv _ u
      have a1 := LL_one hpl hn hj hx v1 p3 v3
      subst a1
      exact hne (LL_one hpl hn hj' v2 hy tx ty)
  have fy : (f y).1 = b := by
    refine Nat.le_antisymm (Nat.le_of_not_lt fun u => ?_) (Nat.le_of_not_lt fun u => ?_)
    · rw [q4 b u] at ty; cases ty
    · obtain ⟨v, v1, v2, v3⟩ := inv _ u
      have a1 := LL_one hpl hn hj' hy v2 q3 v3
      subst a1
      exact hne (LL_one hpl hn hj hx v1 tx ty)
  have ord : x < y ↔ ((f x).2.1 < (f y).2.1 ∨ ((f x).2.1 = (f y).2.1 ∧ ahd (f x).2.2.1 (f y).2.2.1)) := by
    constructor
    · intro u
      rcases hso x y u yP with a | ⟨_, a⟩
      · omega
      · exact a
    · intro u
      refine Nat.lt_of_not_le fun v => ?_
      rcases hso y x (by omega) xP with a | ⟨_, a | ⟨a, a2⟩⟩
      · omega
      · rcases u with u | ⟨u, _⟩ <;> omega
      · rcases u with u | ⟨_, u⟩
        · omega
        · exact ahd_as a2 u
  rw [← ord, LL_lt hpl hn hj hj']
  constructor
  · rintro ⟨b2, x2, y2, z1, _, z3, z4, z5, z6, z7, z8, z9, za⟩
    rcases Nat.lt_trichotomy b b2 with e | e | e
    · obtain ⟨u, u1, u2, u3⟩ := za b e (Nat.zero_testBit _)
      exact absurd ((LL_one hpl hn hj hx u1 tx u3).trans (LL_one hpl hn hj' u2 hy u3 ty)) hne
    · subst e
      rw [LL_one hpl hn hj hx z3 tx z5, LL_one hpl hn hj' hy z4 ty z6]
      exact z7
    · obtain ⟨u, u1, u2, u3⟩ := inv b2 e
      have a1 := LL_one hpl hn hj z3 u1 z5 u3
      have a2 := LL_one hpl hn hj' u2 z4 u3 z6
      omega
  · intro u
    exact ⟨b, x, y, hb, Nat.zero_testBit _, hx, hy, tx, ty, u, fx, fy, fun b' hb' _ => inv b' hb'⟩
/-- where they never differ, they are one -/
theorem LL_eq (hpl : plg S Z P f) (hn : fb_ct S 64 ≤ 24) {j j' : Nat} (hj : j < exn (fb_ct S 64) P f K M) (hj' : j' < exn (fb_ct S 64) P f K M) (inv : ∀ b', b' < fb_ct S 64 → ∃ u, u ∈ LL S P f K M j ∧ u ∈ LL S P f K M j' ∧ (f u).2.2.1.testBit b' = true) : ¬ j < j' := by
  rw [LL_lt hpl hn hj hj']
  rintro ⟨b2, x2, y2, z1, _, z3, z4, z5, z6, z7, z8, z9, za⟩
  obtain ⟨u, u1, u2, u3⟩ := inv b2 z1
  have a1 := LL_one hpl hn hj z3 u1 z5 u3
  have a2 := LL_one hpl hn hj' u2 z4 u3 z6
  omega
end LAT
