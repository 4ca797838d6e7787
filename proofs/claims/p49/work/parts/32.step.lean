section STEP
variable {w h : Nat} {r : Bool} {S : Nat → Bool} {x y st : Nat}
theorem sf_i (hx : x < w) (bw : w ≤ 8) (hc : ¬ vf_x S w x y st) : sf S w x y st (8 * y + x) = true ↔ (S (8 * y + x) = true ∧ st.testBit x = false ∧ ¬ (x + 1 = w ∧ st.testBit 8 = true)) := by
  have d1 : (8 * y + x) / 8 = y := by omega
  have d2 : (8 * y + x) % 8 = x := by omega
  rw [sf_row d1, d2, decide_eq_true (Nat.le_refl x)]
  have e : decide (8 * y + x = 8 * y + (w - 1)) = decide (x + 1 = w) := decide_eq_decide.mpr (by omega)
  rw [e]
  simp only [Bool.true_and, Bool.and_eq_true, Bool.not_eq_true', Bool.or_eq_false_iff, Bool.and_eq_false_iff, decide_eq_false_iff_not]
  constructor
  · rintro ⟨a, b, c⟩
    refine ⟨a, b, fun u => ?_⟩
    rcases c with c | c
    · rw [u.2] at c; cases c
    · exact c u.1
  · rintro ⟨a, b, c⟩
    refine ⟨a, b, ?_⟩
    cases hq : st.testBit 8
    · exact Or.inl rfl
    · exact Or.inr (fun u => c ⟨u, hq⟩)
theorem af_e (hA : ¬ (x + 1 = w ∧ st.testBit 8 = true)) (ho : S (8 * y + x) = true ∧ st.testBit x = false) : af w h r S x y st 0 = none ∧ af w h r S x y st 1 = (if x + 1 < w ∧ S (8 * y + (x + 1)) = true ∧ st.testBit (x + 1) = false then some (st ||| 2 ^ (x + 1)) else none) ∧ af w h r S x y st 2 = (if y + 1 < h ∧ S (8 * (y + 1) + x) = true then some (st ||| 2 ^ x) else none) ∧ af w h r S x y st 3 = (if r = true ∧ x = 0 ∧ S (8 * y + (w - 1)) = true ∧ st.testBit (w - 1) = false then some (st ||| 2 ^ 8) else none) := by
  have ho' : ¬ ¬ (S (8 * y + x) = true ∧ st.testBit x = false) := fun u => u ho
  refine ⟨?_, ?_, ?_, ?_⟩
  · unfold af
    rw [if_neg hA, if_neg ho', if_neg (by omega), if_neg (by omega), if_neg (fun u => by omega)]
  · unfold af
    rw [if_neg hA, if_neg ho', if_pos rfl]
  · unfold af
    rw [if_neg hA, if_neg ho', if_neg (by omega), if_pos rfl]
  · unfold af
    rw [if_neg hA, if_neg ho', if_neg (by omega), if_neg (by omega)]
    by_cases q : r = true ∧ x = 0 ∧ S (8 * y + (w - 1)) = true ∧ st.testBit (w - 1) = false
    · rw [if_pos q, if_pos ⟨rfl, q⟩]
    · rw [if_neg q, if_neg (fun u => q u.2)]
/-- a state stays one that can be -/
theorem vx_k (hx : x < w) (hA : ¬ (x + 1 = w ∧ st.testBit 8 = true)) (hc : ¬ vf_x S w x y st) : ∀ n, (n.testBit 8 = st.testBit 8) → (st.testBit 8 = true → n.testBit (w - 1) = st.testBit (w - 1)) → ¬ vf_x S w (x + 1) y n := by
  rintro n h1 h2 ⟨q1, q2⟩
  rw [h1] at q1
  have : x + 1 < w := by
    refine Classical.byContradiction fun hn => hA ⟨by omega, q1⟩
  refine hc ⟨q1, ?_⟩
  rcases q2 with q | q | q
  · exact Or.inl q
  · rw [h2 q1] at q; exact Or.inr (Or.inl q)
  · omega
theorem st_R (bw : w ≤ 8) (hx : x < w) (hy : y < h) (hc : ¬ vf_x S w x y st) (hin : sf S w x y st (8 * y + x) = true) (hR : cv_R w (8 * y + x) (sf S w x y st) = true) : ∃ n, af w h r S x y st 1 = some n ∧ ¬ vf_x S w (x + 1) y n ∧ ∀ j, 8 * y + x + 1 ≤ j → sf S w (x + 1) y n j = cv_rm (sf S w x y st) (8 * y + x) (8 * y + x + 1) j := by
  obtain ⟨o1, o2, hA⟩ := (sf_i hx bw hc).mp hin
  have d2 : (8 * y + x) % 8 = x := by omega
  unfold cv_R at hR
  rw [d2] at hR
  simp only [Bool.and_eq_true, decide_eq_true_eq] at hR
  have d3 : (8 * y + x + 1) / 8 = y := by omega
  have d4 : (8 * y + x + 1) % 8 = x + 1 := by omega
  have q2 := hR.2
  rw [sf_row d3, d4, decide_eq_true (by omega : x ≤ x + 1), Bool.true_and] at q2
  simp only [Bool.and_eq_true, Bool.not_eq_true', Bool.or_eq_false_iff] at q2
  have hl : st.testBit 8 = true → ¬ x + 1 = w - 1 := by
    intro u e
    have := q2.2.2
    rw [u, decide_eq_true (by omega : 8 * y + x + 1 = 8 * y + (w - 1))] at this
    cases this
  have x8 : ¬ 8 = x + 1 := by omega
  refine ⟨st ||| 2 ^ (x + 1), ?_, vx_k hx hA hc _ (by rw [bset_b, decide_eq_false x8]; simp) (fun q => by rw [bset_b, decide_eq_false (fun u => hl q u.symm)]; simp), fun j hj => ?_⟩
  · rw [(af_e hA ⟨o1, o2⟩).2.1, if_pos ⟨hR.1, q2.1, q2.2.1⟩]
  · by_cases j1 : j = 8 * y + x + 1
    · subst j1
      rw [cv_rm_b, sf_row d3, d4, bset_b]; simp
    · rw [cv_rm_f (by omega) j1]
      by_cases q1 : j / 8 = y
      · have a1 : (x ≤ j % 8) ↔ (x + 1 ≤ j % 8) := by omega
        have a2 : ¬ j % 8 = x + 1 := by omega
        rw [sf_row q1, sf_row q1, bset_b, bset_b, decide_eq_false x8, dq_le a1, decide_eq_false a2]; simp
      · by_cases q2 : j / 8 = y + 1
        · rw [sf_nxt q2 bw, sf_nxt q2 bw, bset_b]
          by_cases q3 : j % 8 = x
          · have : ¬ x = x + 1 := by omega
            rw [q3, o2, decide_eq_false this]; simp
          · have a1 : (j % 8 < x) ↔ (j % 8 < x + 1) := by omega
            by_cases q4 : j % 8 = x + 1
            · rw [decide_eq_false (by omega : ¬ j % 8 < x), decide_eq_false (by omega : ¬ j % 8 < x + 1)]; rfl
            · rw [dq_lt a1, decide_eq_false q4]; simp
        · rw [sf_far q1 q2 bw, sf_far q1 q2 bw]
theorem st_R0 (bw : w ≤ 8) (hx : x < w) (hc : ¬ vf_x S w x y st) (hin : sf S w x y st (8 * y + x) = true) (hR : cv_R w (8 * y + x) (sf S w x y st) = false) : vo w r S (x + 1) y (af w h r S x y st 1) = 0 := by
  obtain ⟨o1, o2, hA⟩ := (sf_i hx bw hc).mp hin
  rw [(af_e hA ⟨o1, o2⟩).2.1]
  split
  · rename_i q
    have d2 : (8 * y + x) % 8 = x := by omega
    have d3 : (8 * y + x + 1) / 8 = y := by omega
    have d4 : (8 * y + x + 1) % 8 = x + 1 := by omega
    unfold cv_R at hR
    rw [d2, decide_eq_true q.1, sf_row d3, d4, Nat.add_assoc, q.2.1, q.2.2] at hR
    have e : decide (8 * y + (x + 1) = 8 * y + (w - 1)) = decide (x + 1 = w - 1) := decide_eq_decide.mpr (by omega)
    rw [e] at hR
    cases h8 : st.testBit 8
    · rw [h8] at hR; simp at hR
    · by_cases hl : x + 1 = w - 1
      · exact vf_0 ⟨by rw [bset_b, h8]; rfl, Or.inr (Or.inl (by rw [bset_b, decide_eq_true hl.symm]; simp))⟩
      · rw [h8, decide_eq_false hl] at hR; simp at hR
  · rfl
theorem st_D (bw : w ≤ 8) (hS : cv_re w h S) (hx : x < w) (hc : ¬ vf_x S w x y st) (hin : sf S w x y st (8 * y + x) = true) (hD : sf S w x y st (8 * y + x + 8) = true) : ∃ n, af w h r S x y st 2 = some n ∧ ¬ vf_x S w (x + 1) y n ∧ ∀ j, 8 * y + x + 1 ≤ j → sf S w (x + 1) y n j = cv_rm (sf S w x y st) (8 * y + x) (8 * y + x + 8) j := by
  obtain ⟨o1, o2, hA⟩ := (sf_i hx bw hc).mp hin
  have d3 : (8 * y + x + 8) / 8 = y + 1 := by omega
  have d4 : (8 * y + x + 8) % 8 = x := by omega
  have d5 : 8 * y + x + 8 = 8 * (y + 1) + x := by omega
  rw [sf_nxt d3 bw, d4, decide_eq_false (by omega : ¬ x < x), d5] at hD
  simp only [Bool.false_and, Bool.not_false, Bool.and_true] at hD
  have := hS _ hD
  have x8 : ¬ 8 = x := by omega
  refine ⟨st ||| 2 ^ x, ?_, vx_k hx hA hc _ (by rw [bset_b, decide_eq_false x8]; simp) (fun q => ?_), fun j hj => ?_⟩
  · rw [(af_e hA ⟨o1, o2⟩).2.2.1, if_pos ⟨by omega, hD⟩]
  · rw [bset_b, decide_eq_false (fun u => hA ⟨by omega, q⟩ : ¬ w - 1 = x)]; simp
  · by_cases j1 : j = 8 * y + x + 8
    · subst j1
      rw [cv_rm_b, sf_nxt d3 bw, d4, bset_b, decide_eq_true (by omega : x < x + 1)]; simp
    · rw [cv_rm_f (by omega) j1]
      by_cases q1 : j / 8 = y
      · have a1 : (x ≤ j % 8) ↔ (x + 1 ≤ j % 8) := by omega
        have a2 : ¬ j % 8 = x := by omega
        rw [sf_row q1, sf_row q1, bset_b, bset_b, decide_eq_false x8, dq_le a1, decide_eq_false a2]; simp
      · by_cases q2 : j / 8 = y + 1
        · rw [sf_nxt q2 bw, sf_nxt q2 bw, bset_b]
          have a2 : ¬ j % 8 = x := by omega
          have a1 : (j % 8 < x) ↔ (j % 8 < x + 1) := by omega
          rw [dq_lt a1, decide_eq_false a2]; simp
        · rw [sf_far q1 q2 bw, sf_far q1 q2 bw]
theorem st_D0 (bw : w ≤ 8) (hx : x < w) (hc : ¬ vf_x S w x y st) (hin : sf S w x y st (8 * y + x) = true) (hD : sf S w x y st (8 * y + x + 8) = false) : vo w r S (x + 1) y (af w h r S x y st 2) = 0 := by
  obtain ⟨o1, o2, hA⟩ := (sf_i hx bw hc).mp hin
  have d3 : (8 * y + x + 8) / 8 = y + 1 := by omega
  have d4 : (8 * y + x + 8) % 8 = x := by omega
  have d5 : 8 * y + x + 8 = 8 * (y + 1) + x := by omega
  rw [sf_nxt d3 bw, d4, decide_eq_false (by omega : ¬ x < x), d5] at hD
  simp only [Bool.false_and, Bool.not_false, Bool.and_true] at hD
  rw [(af_e hA ⟨o1, o2⟩).2.2.1, if_neg (fun u => by rw [hD] at u; exact Bool.false_ne_true u.2)]; rfl
theorem st_O (bw : w ≤ 8) (hr : r = true → 4 ≤ w) (hx : x < w) (h8 : st.testBit 8 = true → 1 ≤ x) (hc : ¬ vf_x S w x y st) (hin : sf S w x y st (8 * y + x) = true) (hO : cv_O w r (8 * y + x) (sf S w x y st) = true) : ∃ n, af w h r S x y st 3 = some n ∧ ¬ vf_x S w (x + 1) y n ∧ ∀ j, 8 * y + x + 1 ≤ j → sf S w (x + 1) y n j = cv_rm (sf S w x y st) (8 * y + x) (8 * y + x + (w - 1)) j := by
  obtain ⟨o1, o2, hA⟩ := (sf_i hx bw hc).mp hin
  have d2 : (8 * y + x) % 8 = x := by omega
  unfold cv_O at hO
  rw [d2] at hO
  simp only [Bool.and_eq_true, decide_eq_true_eq] at hO
  obtain ⟨⟨q1, q2⟩, q3⟩ := hO
  subst q2
  have w4 := hr q1
  have d3 : (8 * y + 0 + (w - 1)) / 8 = y := by omega
  have d4 : (8 * y + 0 + (w - 1)) % 8 = w - 1 := by omega
  rw [sf_row d3, d4, decide_eq_true (Nat.zero_le _), Bool.true_and] at q3
  simp only [Bool.and_eq_true, Bool.not_eq_true', Bool.or_eq_false_iff] at q3
  have n8 : st.testBit 8 = false := by
    cases hc : st.testBit 8
    · rfl
    · have := h8 hc; omega
  have s3 : S (8 * y + (w - 1)) = true := by
    have := q3.1
    rwa [Nat.add_zero] at this
  have nx : ¬ vf_x S w (0 + 1) y (st ||| 2 ^ 8) := by
    rintro ⟨-, q | q | q⟩
    · rw [s3] at q; cases q
    · rw [bset_b, q3.2.1, decide_eq_false (by omega : ¬ w - 1 = 8)] at q; cases q
    · omega
  refine ⟨st ||| 2 ^ 8, ?_, nx, fun j hj => ?_⟩
  · rw [(af_e hA ⟨o1, o2⟩).2.2.2, if_pos ⟨q1, rfl, s3, q3.2.1⟩]
  · by_cases j1 : j = 8 * y + 0 + (w - 1)
    · have d3 : j / 8 = y := by omega
      have d4 : j = 8 * y + (w - 1) := by omega
      rw [j1, cv_rm_b, ← j1, sf_row d3, bset_b, bset_b, decide_eq_true d4]; simp
    · rw [cv_rm_f (by omega) j1]
      by_cases p1 : j / 8 = y
      · have a1 : (0 ≤ j % 8) ↔ (0 + 1 ≤ j % 8) := by omega
        have a2 : ¬ j % 8 = 8 := by omega
        have a3 : ¬ j = 8 * y + (w - 1) := by omega
        rw [sf_row p1, sf_row p1, bset_b, bset_b, n8, dq_le a1, decide_eq_false a2, decide_eq_false a3]; simp
      · by_cases p2 : j / 8 = y + 1
        · rw [sf_nxt p2 bw, sf_nxt p2 bw, bset_b]
          by_cases p3 : j % 8 = 0
          · rw [p3, o2, decide_eq_false (by omega : ¬ 0 = 8)]; simp
          · rw [decide_eq_false (by omega : ¬ j % 8 < 0), decide_eq_false (by omega : ¬ j % 8 < 0 + 1)]; rfl
        · rw [sf_far p1 p2 bw, sf_far p1 p2 bw]
theorem st_O0 (bw : w ≤ 8) (hx : x < w) (h8 : st.testBit 8 = true → 1 ≤ x) (hc : ¬ vf_x S w x y st) (hin : sf S w x y st (8 * y + x) = true) (hO : cv_O w r (8 * y + x) (sf S w x y st) = false) : vo w r S (x + 1) y (af w h r S x y st 3) = 0 := by
  obtain ⟨o1, o2, hA⟩ := (sf_i hx bw hc).mp hin
  rw [(af_e hA ⟨o1, o2⟩).2.2.2]
  split
  · rename_i q
    exfalso
    obtain ⟨q1, q2, q3, q4⟩ := q
    subst q2
    have d2 : (8 * y + 0) % 8 = 0 := by omega
    have d3 : (8 * y + 0 + (w - 1)) / 8 = y := by omega
    have d4 : (8 * y + 0 + (w - 1)) % 8 = w - 1 := by omega
    have n8 : st.testBit 8 = false := by
      cases hc : st.testBit 8
      · rfl
      · have := h8 hc; omega
    unfold cv_O at hO
    rw [q1, d2, sf_row d3, d4, q4, n8, Nat.add_zero, q3] at hO
    simp at hO
  · rfl
/-- a cell that is covered already, or is none -/
theorem st_N (bw : w ≤ 8) (hS : cv_re w h S) (hx : x < w) (hc : ¬ vf_x S w x y st) (hin : sf S w x y st (8 * y + x) = false) : ∃ n, af w h r S x y st 0 = some n ∧ ¬ vf_x S w (x + 1) y n ∧ ∀ j, 8 * y + x + 1 ≤ j → sf S w (x + 1) y n j = sf S w x y st j := by
  by_cases hA : x + 1 = w ∧ st.testBit 8 = true
  · have e1 : x = w - 1 := by omega
    have ho : S (8 * y + x) = true ∧ st.testBit x = false := by
      constructor
      · cases hq : S (8 * y + x)
        · exact absurd ⟨hA.2, Or.inl (by rw [← e1]; exact hq)⟩ hc
        · rfl
      · cases hq : st.testBit x
        · rfl
        · exact absurd ⟨hA.2, Or.inr (Or.inl (by rw [← e1]; exact hq))⟩ hc
    refine ⟨bclr st 8, ?_, ?_, fun j hj => ?_⟩
    · unfold af; rw [if_pos hA, if_pos ⟨rfl, ho⟩]
    · rintro ⟨q, -⟩
      rw [bclr_b 8 (by omega)] at q; simp at q
    · by_cases q1 : j / 8 = y
      · have : S j = false := by
          cases hc : S j
          · rfl
          · have := hS j hc; omega
        rw [sf_row q1, sf_row q1, this]; rfl
      · by_cases q2 : j / 8 = y + 1
        · rw [sf_nxt q2 bw, sf_nxt q2 bw, bclr_b _ (by omega)]
          by_cases q3 : j % 8 = x
          · rw [q3, ho.2]; simp
          · have a1 : (j % 8 < x) ↔ (j % 8 < x + 1) := by omega
            rw [dq_lt a1, decide_eq_true (by omega : j % 8 < 9), decide_eq_false (by omega : ¬ j % 8 = 8)]; simp
        · rw [sf_far q1 q2 bw, sf_far q1 q2 bw]
  · have ho : ¬ (S (8 * y + x) = true ∧ st.testBit x = false) := fun u => by
      rw [(sf_i hx bw hc).mpr ⟨u.1, u.2, hA⟩] at hin; cases hin
    have b8 : (bclr st x).testBit 8 = st.testBit 8 := by
      rw [bclr_b _ (by omega), decide_eq_true (by omega : 8 < 9), decide_eq_false (by omega : ¬ 8 = x)]; simp
    refine ⟨bclr st x, ?_, vx_k hx hA hc _ b8 (fun q => ?_), fun j hj => ?_⟩
    · unfold af; rw [if_neg hA, if_pos ho, if_pos rfl]
    · have : ¬ x + 1 = w := fun u => hA ⟨u, q⟩
      rw [bclr_b _ (by omega), decide_eq_true (by omega : w - 1 < 9), decide_eq_false (by omega : ¬ w - 1 = x)]; simp
    · by_cases q1 : j / 8 = y
      · have a1 : (x ≤ j % 8) ↔ (x + 1 ≤ j % 8) := by omega
        have a2 : ¬ j % 8 = x := by omega
        rw [sf_row q1, sf_row q1, b8, bclr_b _ (by omega), dq_le a1, decide_eq_false a2, decide_eq_true (by omega : j % 8 < 9)]; simp
      · by_cases q2 : j / 8 = y + 1
        · rw [sf_nxt q2 bw, sf_nxt q2 bw, bclr_b _ (by omega)]
          by_cases q3 : j % 8 = x
          · rw [decide_eq_false (by omega : ¬ j % 8 < x), decide_eq_true q3]; simp
          · have a1 : (j % 8 < x) ↔ (j % 8 < x + 1) := by omega
            rw [dq_lt a1, decide_eq_false q3, decide_eq_true (by omega : j % 8 < 9)]; simp
        · rw [sf_far q1 q2 bw, sf_far q1 q2 bw]
/-- what is left from a cell on -/
def si (S : Nat → Bool) (w x y st : Nat) : Nat → Bool := fun j => decide (8 * y + x ≤ j) && sf S w x y st j
theorem si_t {j : Nat} : si S w x y st j = true ↔ 8 * y + x ≤ j ∧ sf S w x y st j = true := by
  unfold si; simp
theorem si_bh (hS : cv_re w h S) : bh (8 * y + x) (si S w x y st) := by
  intro j hj
  rw [si_t] at hj
  refine ⟨hj.1, ?_⟩
  have := hj.2
  unfold sf at this
  simp only [Bool.and_eq_true] at this
  exact (hS j this.1).1
theorem si_T : cv_T w r (8 * y + x) (sf S w x y st) = cv_T w r (8 * y + x) (si S w x y st) := cv_c (fun j hj => by unfold si; rw [decide_eq_true hj]; rfl)
theorem si_ge {j : Nat} (h : 8 * y + x ≤ j) : si S w x y st j = sf S w x y st j := by unfold si; rw [decide_eq_true h]; rfl
/-- the set behind a step -/
theorem si_n {n o : Nat} (ho : 8 * y + x < o) (h : ∀ j, 8 * y + x + 1 ≤ j → sf S w (x + 1) y n j = cv_rm (sf S w x y st) (8 * y + x) o j) : si S w (x + 1) y n = cv_rm (si S w x y st) (8 * y + x) o := by
  funext j
  by_cases q : 8 * y + x + 1 ≤ j
  · rw [si_ge (by omega), h j q]
    unfold cv_rm
    rw [si_ge (by omega)]
  · have e1 : si S w (x + 1) y n j = false := by unfold si; rw [decide_eq_false (by omega)]; rfl
    rw [e1]
    cases hc : cv_rm (si S w x y st) (8 * y + x) o j
    · rfl
    · rw [cv_rm_t, si_t] at hc
      omega
theorem si_0 {n : Nat} (hin : sf S w x y st (8 * y + x) = false) (h : ∀ j, 8 * y + x + 1 ≤ j → sf S w (x + 1) y n j = sf S w x y st j) : si S w (x + 1) y n = si S w x y st := by
  funext j
  by_cases q : 8 * y + x + 1 ≤ j
  · rw [si_ge (by omega), h j q, si_ge (by omega)]
  · have e1 : si S w (x + 1) y n j = false := by unfold si; rw [decide_eq_false (by omega)]; rfl
    rw [e1]
    cases hc : si S w x y st j
    · rfl
    · rw [si_t] at hc
      have : j = 8 * y + x := by omega
      rw [this, hin] at hc; cases hc.2
theorem cv_Rc {i : Nat} {A B : Nat → Bool} (h : ∀ j, i ≤ j → A j = B j) : cv_R w i A = cv_R w i B := by unfold cv_R; rw [h (i + 1) (by omega)]
theorem cv_Oc {i : Nat} {A B : Nat → Bool} (h : ∀ j, i ≤ j → A j = B j) : cv_O w r i A = cv_O w r i B := by unfold cv_O; rw [h (i + (w - 1)) (by omega)]
/-- the values of the ways, in their order -/
theorem st_v (bw1 : 1 ≤ w) (bw : w ≤ 8) (hS : cv_re w h S) (hr : r = true → 4 ≤ w) (hx : x < w) (hy : y < h) (h8 : st.testBit 8 = true → 1 ≤ x) (hc : ¬ vf_x S w x y st) (hin : sf S w x y st (8 * y + x) = true) : af w h r S x y st 0 = none ∧ vo w r S (x + 1) y (af w h r S x y st 1) = ca w r (8 * y + x) (si S w x y st) ∧ vo w r S (x + 1) y (af w h r S x y st 2) = cb w r (8 * y + x) (si S w x y st) ∧ vo w r S (x + 1) y (af w h r S x y st 3) = cc w r (8 * y + x) (si S w x y st) := by
  obtain ⟨o1, o2, hA⟩ := (sf_i hx bw hc).mp hin
  have sg : ∀ j, 8 * y + x ≤ j → si S w x y st j = sf S w x y st j := fun j hj => si_ge hj
  have tv : ∀ n o, 8 * y + x < o → ¬ vf_x S w (x + 1) y n → (∀ j, 8 * y + x + 1 ≤ j → sf S w (x + 1) y n j = cv_rm (sf S w x y st) (8 * y + x) o j) → vf w r S (x + 1) y n = cv_T w r (8 * y + x + 1) (cv_rm (si S w x y st) (8 * y + x) o) := by
    intro n o ho hn he
    rw [vf_1 hn, ← Nat.add_assoc]
    refine cv_c (fun j hj => ?_)
    rw [he j hj]
    unfold cv_rm
    rw [sg j (by omega)]
  refine ⟨(af_e hA ⟨o1, o2⟩).1, ?_, ?_, ?_⟩
  · unfold ca
    rw [cv_Rc sg]
    cases hR : cv_R w (8 * y + x) (sf S w x y st)
    · rw [st_R0 bw hx hc hin hR]; rfl
    · obtain ⟨n, e, hn, he⟩ := st_R (h := h) (r := r) bw hx hy hc hin hR
      rw [e, if_pos rfl]
      exact tv n _ (by omega) hn he
  · unfold cb
    rw [sg _ (by omega)]
    cases hD : sf S w x y st (8 * y + x + 8)
    · rw [st_D0 bw hx hc hin hD]; rfl
    · obtain ⟨n, e, hn, he⟩ := st_D (h := h) (r := r) bw hS hx hc hin hD
      rw [e, if_pos rfl]
      exact tv n _ (by omega) hn he
  · unfold cc
    rw [cv_Oc sg]
    cases hO : cv_O w r (8 * y + x) (sf S w x y st)
    · rw [st_O0 bw hx h8 hc hin hO]; rfl
    · obtain ⟨n, e, hn, he⟩ := st_O (h := h) bw hr hx h8 hc hin hO
      have hO' := hO
      unfold cv_O at hO'
      simp only [Bool.and_eq_true] at hO'
      have := hr hO'.1.1
      rw [e, if_pos rfl]
      exact tv n _ (by omega) hn he
end STEP
