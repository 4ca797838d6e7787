/-! ===== unlike: which of two exact covers is first ===== -/
section ORD
/-- the one list is before the other: at the first cell where they differ, its place has the smaller number -/
def bfr (n : Nat) (f : Nat → plc) (c : Nat) (L1 L2 : List Nat) : Prop := ∃ b x y, b < n ∧ c.testBit b = false ∧ x ∈ L1 ∧ y ∈ L2 ∧ (f x).2.2.1.testBit b = true ∧ (f y).2.2.1.testBit b = true ∧ x < y ∧ (f x).1 = b ∧ (f y).1 = b ∧ ∀ b', b' < b → c.testBit b' = false → ∃ u, u ∈ L1 ∧ u ∈ L2 ∧ (f u).2.2.1.testBit b' = true
theorem pth_lt {n P : Nat} {f : Nat → plc} (hp : plh n P f) (hn : n ≤ 24) : ∀ (t c : Nat) (l : Nat → Nat) (j j' : Nat), j < j' → j' < cnx n P f t c l → bfr n f c (pth n P f t c l j) (pth n P f t c l j') := by
  intro t
  induction t with
  | zero =>
    intro c l j j' h hj
    have : cnx n P f 0 c l = if n ≤ tro c then 1 else 0 := rfl
    rw [this] at hj
    split at hj <;> omega
  | succ t' ih =>
    intro c l j j' h hj'
    by_cases u : n ≤ tro c
    · rw [cnx_s, if_pos u] at hj'
      omega
    · rw [cnx_s, if_neg u] at hj'
      obtain ⟨i, i1, i2, i3⟩ := pidx_x (Nat.lt_trans h hj')
      obtain ⟨i', k1, k2, k3⟩ := pidx_x hj'
      rw [pth_s u i1 i2 i3, pth_s u k1 k2 k3]
      rw [fb_sm_succ] at i3 k3
      have cond : ∀ i, 0 < tm n P f t' c l i → (f i).1 = tro c ∧ c &&& (f i).2.2.1 = 0 ∧ l (f i).2.1 ≠ 0 := fun i hi => by
        refine Classical.byContradiction fun e => ?_
        have : tm n P f t' c l i = 0 := by unfold tm; rw [if_neg e]
        omega
      have ci := cond i (by omega)
      have ck := cond i' (by omega)
      obtain ⟨o, o24, oe, o1, o2⟩ := tro_ex c
      have mono : ∀ a b, a + 1 ≤ b → fb_sm (tm n P f t' c l) a + tm n P f t' c l a ≤ fb_sm (tm n P f t' c l) b := fun a b h => by
        obtain ⟨d, rfl⟩ : ∃ d, b = (a + 1) + d := ⟨b - (a + 1), by omega⟩
        have := fb_sm_mono (tm n P f t' c l) (a + 1) d
        rw [fb_sm_succ] at this
        exact this
      rcases Nat.lt_trichotomy i i' with v | v | v
      · refine ⟨o, i, i', by omega, ?_, List.mem_cons_self .., List.mem_cons_self .., ?_, ?_, v, by rw [ci.1, oe], by rw [ck.1, oe], fun b' hb' e => ?_⟩
        · exact o2 (by omega)
        · rw [← oe, ← ci.1]; exact (hp i i1).2.1
        · rw [← oe, ← ck.1]; exact (hp i' k1).2.1
        · rw [o1 b' hb'] at e; cases e
      · subst v
        have te : tm n P f t' c l i = cnx n P f t' (c ||| (f i).2.2.1) (lsub l (f i).2.1 1) := by
          unfold tm
          rw [if_pos ci]
        obtain ⟨b, x, y, y1, y2, y3, y4, y5, y6, y7, y8, y9, ya⟩ := ih (c ||| (f i).2.2.1) (lsub l (f i).2.1 1) (j - fb_sm (tm n P f t' c l) i) (j' - fb_sm (tm n P f t' c l) i) (by omega) (by omega)
        rw [Nat.testBit_or, Bool.or_eq_false_iff] at y2
        refine ⟨b, x, y, y1, y2.1, List.mem_cons_of_mem _ y3, List.mem_cons_of_mem _ y4, y5, y6, y7, y8, y9, fun b' hb' e => ?_⟩
        cases q : (f i).2.2.1.testBit b'
        · obtain ⟨u', u1, u2, u3⟩ := ya b' hb' (by rw [Nat.testBit_or, e, q]; rfl)
          exact ⟨u', List.mem_cons_of_mem _ u1, List.mem_cons_of_mem _ u2, u3⟩
        · exact ⟨i, List.mem_cons_self .., List.mem_cons_self .., q⟩
      · have := mono i' i v
        omega
variable {w h : Nat} {S : Nat → Bool} {P K : Nat} {f : Nat → plc} {M Z : Nat → Nat}
/-- two places of one cover that have a cell in common are one -/
theorem LL_one (hpl : plg S Z P f) (hn : fb_ct S 64 ≤ 24) {j x y b : Nat} (hj : j < exn (fb_ct S 64) P f K M) (hx : x ∈ LL S P f K M j) (hy : y ∈ LL S P f K M j) (h1 : (f x).2.2.1.testBit b = true) (h2 : (f y).2.2.1.testBit b = true) : x = y := by
  by_cases e : x = y
  · exact e
  · exact absurd ⟨h1, h2⟩ (and_0.mp ((LL_cmp hpl hn hj).2.2.1 x y (decide_eq_true hx) (decide_eq_true hy) e) b)
theorem LL_lt (hpl : plg S Z P f) (hn : fb_ct S 64 ≤ 24) {j j' : Nat} (hj : j < exn (fb_ct S 64) P f K M) (hj' : j' < exn (fb_ct S 64) P f K M) : j < j' ↔ bfr (fb_ct S 64) f 0 (LL S P f K M j) (LL S P f K M j') := by
  have hp : plh (fb_ct S 64) P f := fun p hp => ⟨(hpl.1 p hp).2.1, (hpl.1 p hp).2.2.1, (hpl.1 p hp).2.2.2.1, (hpl.1 p hp).2.2.2.2.2⟩
  constructor
  · exact fun u => pth_lt hp hn 8 0 _ j j' u hj'
  · rintro ⟨b, x, y, y1, y2, y3, y4, y5, y6, y7, y8, y9, ya⟩
    rcases Nat.lt_trichotomy j j' with v | v | v
    · exact v
    · subst v
      have := LL_one hpl hn hj y3 y4 y5 y6
      omega
    · obtain ⟨b2, x2, q2, z1, z2, z3, z4, z5, z6, z7, z8, z9, za⟩ := pth_lt hp hn 8 0 (mst K M) j' j v hj
      rcases Nat.lt_trichotomy b b2 with e | e | e
      · obtain ⟨u, u1, u2, u3⟩ := za b e (Nat.zero_testBit _)
        have a1 := LL_one hpl hn hj y3 u2 y5 u3
        have a2 := LL_one hpl hn hj' y4 u1 y6 u3
        omega
      · subst e
        have a1 := LL_one hpl hn hj y3 z4 y5 z6
        have a2 := LL_one hpl hn hj' y4 z3 y6 z5
        omega
      · obtain ⟨u, u1, u2, u3⟩ := ya b2 e (Nat.zero_testBit _)
        have a1 := LL_one hpl hn hj' z3 u2 z5 u3
        have a2 := LL_one hpl hn hj z4 u1 z6 u3
        omega
end ORD
