/-! ===== the class's front: what is behind a state ===== -/
theorem dq_lt {a b c d : Nat} (h : a < b ↔ c < d) : decide (a < b) = decide (c < d) := decide_eq_decide.mpr h
theorem dq_le {a b c d : Nat} (h : a ≤ b ↔ c ≤ d) : decide (a ≤ b) = decide (c ≤ d) := decide_eq_decide.mpr h
theorem dq_eq {a b c d : Nat} (h : a = b ↔ c = d) : decide (a = b) = decide (c = d) := decide_eq_decide.mpr h
def bclr (m x : Nat) : Nat := m &&& (511 ^^^ 2 ^ x)
theorem bclr_b {m x : Nat} (j : Nat) (hx : x < 9) : (bclr m x).testBit j = (m.testBit j && (decide (j < 9) && !decide (j = x))) := by
  unfold bclr
  rw [Nat.testBit_and, Nat.testBit_xor, Nat.testBit_two_pow, show (511 : Nat) = 2 ^ 9 - 1 from rfl, Nat.testBit_two_pow_sub_one]
  by_cases h1 : x = j
  · subst h1; simp [hx]
  · have h2 : ¬ j = x := fun e => h1 e.symm
    simp [h1, h2]
theorem bset_b {m x : Nat} (j : Nat) : (m ||| 2 ^ x).testBit j = (m.testBit j || decide (j = x)) := fb_bit_set m x j
theorem bset_lt {m x : Nat} (hm : m < 512) (hx : x < 9) : m ||| 2 ^ x < 512 := Nat.or_lt_two_pow (n := 9) hm (Nat.pow_lt_pow_right (by omega) hx)
theorem bclr_lt {m x : Nat} (hm : m < 512) : bclr m x < 512 := Nat.lt_of_le_of_lt Nat.and_le_left hm
def af (w h : Nat) (r : Bool) (S : Nat → Bool) (x y st way : Nat) : Option Nat :=
  if x + 1 = w ∧ st.testBit 8 = true then (if way = 0 ∧ S (8 * y + x) = true ∧ st.testBit x = false then some (bclr st 8) else none)
  else if ¬ (S (8 * y + x) = true ∧ st.testBit x = false) then (if way = 0 then some (bclr st x) else none)
  else if way = 1 then (if x + 1 < w ∧ S (8 * y + (x + 1)) = true ∧ st.testBit (x + 1) = false then some (st ||| 2 ^ (x + 1)) else none)
  else if way = 2 then (if y + 1 < h ∧ S (8 * (y + 1) + x) = true then some (st ||| 2 ^ x) else none)
  else if way = 3 ∧ r = true ∧ x = 0 ∧ S (8 * y + (w - 1)) = true ∧ st.testBit (w - 1) = false then some (st ||| 2 ^ 8) else none
def sf (S : Nat → Bool) (w x y st : Nat) : Nat → Bool := fun j => S j && !((decide (j / 8 = y) && decide (x ≤ j % 8) && st.testBit (j % 8)) || (decide (j / 8 = y + 1) && decide (j % 8 < x) && st.testBit (j % 8)) || (st.testBit 8 && decide (j = 8 * y + (w - 1))))
def vf_x (S : Nat → Bool) (w x y st : Nat) : Prop := st.testBit 8 = true ∧ (S (8 * y + (w - 1)) = false ∨ st.testBit (w - 1) = true ∨ w ≤ x)
noncomputable def vf (w : Nat) (r : Bool) (S : Nat → Bool) (x y st : Nat) : Nat := @ite _ (vf_x S w x y st) (Classical.propDecidable _) 0 (cv_T w r (8 * y + x) (sf S w x y st))
theorem vf_0 {w : Nat} {r : Bool} {S : Nat → Bool} {x y st : Nat} (h : vf_x S w x y st) : vf w r S x y st = 0 := by unfold vf; rw [if_pos h]
theorem vf_1 {w : Nat} {r : Bool} {S : Nat → Bool} {x y st : Nat} (h : ¬ vf_x S w x y st) : vf w r S x y st = cv_T w r (8 * y + x) (sf S w x y st) := by unfold vf; rw [if_neg h]
noncomputable def vo (w : Nat) (r : Bool) (S : Nat → Bool) (x y : Nat) (o : Option Nat) : Nat := match o with
  | none => 0
  | some n => vf w r S x y n
section VF
variable {w h : Nat} {r : Bool} {S : Nat → Bool} {x y st : Nat}
theorem sf_row {j : Nat} (h1 : j / 8 = y) : sf S w x y st j = (S j && !((decide (x ≤ j % 8) && st.testBit (j % 8)) || (st.testBit 8 && decide (j = 8 * y + (w - 1))))) := by
  unfold sf
  rw [decide_eq_true h1, decide_eq_false (by omega : ¬ j / 8 = y + 1)]; simp
theorem sf_nxt {j : Nat} (h1 : j / 8 = y + 1) (bw : w ≤ 8) : sf S w x y st j = (S j && !(decide (j % 8 < x) && st.testBit (j % 8))) := by
  unfold sf
  rw [decide_eq_true h1, decide_eq_false (by omega : ¬ j / 8 = y), decide_eq_false (by omega : ¬ j = 8 * y + (w - 1))]; simp
theorem sf_far {j : Nat} (h1 : ¬ j / 8 = y) (h2 : ¬ j / 8 = y + 1) (bw : w ≤ 8) : sf S w x y st j = S j := by
  unfold sf
  rw [decide_eq_false h2, decide_eq_false h1, decide_eq_false (by omega : ¬ j = 8 * y + (w - 1))]; simp
theorem vf_s (bw1 : 1 ≤ w) (bw : w ≤ 8) (hS : cv_re w h S) (bh : h ≤ 8) (hr4 : r = true → 4 ≤ w) (hx : x < w) (hy : y < h) (h8 : st.testBit 8 = true → 1 ≤ x) : vf w r S x y st = vo w r S (x + 1) y (af w h r S x y st 0) + vo w r S (x + 1) y (af w h r S x y st 1) + vo w r S (x + 1) y (af w h r S x y st 2) + vo w r S (x + 1) y (af w h r S x y st 3) := by
  have hi : 8 * y + x < 64 := by omega
  have d1 : (8 * y + x) / 8 = y := by omega
  have d2 : (8 * y + x) % 8 = x := by omega
  unfold af
  by_cases hA : x + 1 = w ∧ st.testBit 8 = true
  · simp only [if_pos hA]
    have e1 : x = w - 1 := by omega
    by_cases ho : S (8 * y + x) = true ∧ st.testBit x = false
    · rw [if_pos ⟨trivial, ho⟩, if_neg (fun u => absurd u.1 (by decide)), if_neg (fun u => absurd u.1 (by decide)), if_neg (fun u => absurd u.1 (by decide))]
      have n1 : ¬ vf_x S w x y st := by
        rintro ⟨-, q | q | q⟩
        · rw [← e1, ho.1] at q; cases q
        · rw [← e1, ho.2] at q; cases q
        · omega
      have n2 : ¬ vf_x S w (x + 1) y (bclr st 8) := by
        rintro ⟨q, -⟩
        rw [bclr_b 8 (by omega)] at q; simp at q
      show _ = vf w r S (x + 1) y (bclr st 8) + 0 + 0 + 0
      rw [vf_1 n1, vf_1 n2, cv_no hi (by
        rw [sf_row d1, d2, hA.2, e1]; simp), Nat.add_assoc (8 * y) x 1]
      simp only [Nat.add_zero]
      refine cv_c (fun j hj => ?_)
      by_cases q1 : j / 8 = y
      · have : S j = false := by
          cases hc : S j
          · rfl
          · have := hS j hc; omega
        rw [sf_row q1, sf_row q1, this]; rfl
      · by_cases q2 : j / 8 = y + 1
        · rw [sf_nxt q2 bw, sf_nxt q2 bw, bclr_b _ (by omega)]
          by_cases q3 : j % 8 = x
          · rw [q3, ho.2]; simp
          · have a1 : (j % 8 < x) ↔ (j % 8 < x + 1) := by omega
            rw [dq_lt a1, decide_eq_true (by omega : j % 8 < 9), decide_eq_false (by omega : ¬ j % 8 = 8)]; simp
        · rw [sf_far q1 q2 bw, sf_far q1 q2 bw]
    · rw [if_neg (fun u => ho u.2), if_neg (by omega), if_neg (by omega), if_neg (by omega)]
      have n1 : vf_x S w x y st := by
        refine ⟨hA.2, ?_⟩
        rw [← e1]
        cases hc : S (8 * y + x)
        · exact Or.inl rfl
        · cases hd : st.testBit x
          · exact absurd ⟨hc, hd⟩ ho
          · exact Or.inr (Or.inl rfl)
      rw [vf_0 n1]; rfl
  · simp only [if_neg hA]
    have xw : st.testBit 8 = true → x + 1 < w := fun q => by
      refine Classical.byContradiction fun hn => hA ⟨by omega, q⟩
    by_cases ho : S (8 * y + x) = true ∧ st.testBit x = false
    · have ho' : ¬ ¬ (S (8 * y + x) = true ∧ st.testBit x = false) := fun u => u ho
      simp only [if_neg ho']
      have c01 : ¬ (0 : Nat) = 1 := by omega
      have c02 : ¬ (0 : Nat) = 2 := by omega
      have c03 : ¬ (0 : Nat) = 3 := by omega
      have c12 : ¬ (2 : Nat) = 1 := by omega
      have c31 : ¬ (3 : Nat) = 1 := by omega
      have c32 : ¬ (3 : Nat) = 2 := by omega
      simp only [if_neg c01, if_neg c02, c03, false_and, if_false, if_true, if_neg c12, if_neg c31, if_neg c32, true_and]
      show _ = 0 + _ + _ + _
      rw [Nat.zero_add]
      by_cases hx1 : vf_x S w x y st
      · -- a state that cannot be
        have keep : ∀ n, (∀ j, st.testBit j = true → n.testBit j = true) → vf w r S (x + 1) y n = 0 := by
          intro n hn
          refine vf_0 ⟨hn 8 hx1.1, ?_⟩
          rcases hx1.2 with q | q | q
          · exact Or.inl q
          · exact Or.inr (Or.inl (hn _ q))
          · omega
        have set : ∀ k, vf w r S (x + 1) y (st ||| 2 ^ k) = 0 := fun k => keep _ (fun j hj => by rw [bset_b, hj]; rfl)
        rw [vf_0 hx1]
        have e1 : vo w r S (x + 1) y (if x + 1 < w ∧ S (8 * y + (x + 1)) = true ∧ st.testBit (x + 1) = false then some (st ||| 2 ^ (x + 1)) else none) = 0 := by
          split
          · exact set _
          · rfl
        have e2 : vo w r S (x + 1) y (if y + 1 < h ∧ S (8 * (y + 1) + x) = true then some (st ||| 2 ^ x) else none) = 0 := by
          split
          · exact set _
          · rfl
        have e3 : vo w r S (x + 1) y (if r = true ∧ x = 0 ∧ S (8 * y + (w - 1)) = true ∧ st.testBit (w - 1) = false then some (st ||| 2 ^ 8) else none) = 0 := by
          split
          · exact set _
          · rfl
        rw [e1, e2, e3]
      · have hin : sf S w x y st (8 * y + x) = true := by
          rw [sf_row d1, d2, ho.1, ho.2]
          cases hc : st.testBit 8
          · simp
          · have := xw hc
            rw [decide_eq_false (by omega : ¬ 8 * y + x = 8 * y + (w - 1))]; simp
        rw [vf_1 hx1, cv_yes hi hin]
        have con : ∀ n, (n.testBit 8 = st.testBit 8) → (st.testBit 8 = true → n.testBit (w - 1) = st.testBit (w - 1)) → ¬ vf_x S w (x + 1) y n := by
          rintro n h1 h2 ⟨q1, q2⟩
          rw [h1] at q1
          have := xw q1
          refine hx1 ⟨q1, ?_⟩
          rcases q2 with q | q | q
          · exact Or.inl q
          · rw [h2 q1] at q; exact Or.inr (Or.inl q)
          · omega
        congr 1
        · congr 1
          · -- to the right
            by_cases hc : x + 1 < w ∧ S (8 * y + (x + 1)) = true ∧ st.testBit (x + 1) = false
            · have d3 : (8 * y + x + 1) / 8 = y := by omega
              have d4 : (8 * y + x + 1) % 8 = x + 1 := by omega
              have hR : cv_R w (8 * y + x) (sf S w x y st) = !(st.testBit 8 && decide (x + 1 = w - 1)) := by
                unfold cv_R
                rw [d2, decide_eq_true hc.1, sf_row d3, d4, Nat.add_assoc, hc.2.1, hc.2.2]
                have : (8 * y + (x + 1) = 8 * y + (w - 1)) ↔ (x + 1 = w - 1) := by omega
                rw [dq_eq this]; simp
              rw [if_pos hc]
              show _ = vf w r S (x + 1) y (st ||| 2 ^ (x + 1))
              by_cases hl : st.testBit 8 = true ∧ x + 1 = w - 1
              · have e : cv_R w (8 * y + x) (sf S w x y st) = false := by rw [hR, hl.1, decide_eq_true hl.2]; rfl
                rw [if_neg (by rw [e]; exact Bool.false_ne_true), vf_0 ⟨by rw [bset_b, hl.1]; rfl, Or.inr (Or.inl (by rw [bset_b, decide_eq_true hl.2.symm]; simp))⟩]
              · have e : cv_R w (8 * y + x) (sf S w x y st) = true := by
                  rw [hR]
                  cases hq : st.testBit 8
                  · rfl
                  · rw [decide_eq_false (fun u => hl ⟨hq, u⟩)]; rfl
                have x8 : ¬ 8 = x + 1 := by omega
                rw [if_pos e, vf_1 (con _ (by rw [bset_b, decide_eq_false x8]; simp) (fun q => by
                  rw [bset_b, decide_eq_false (fun u => hl ⟨q, u.symm⟩)]; simp))]
                refine cv_c (fun j hj => ?_)
                by_cases j1 : j = 8 * y + x + 1
                · subst j1
                  rw [cv_rm_b, sf_row d3, d4, bset_b]; simp
                · rw [cv_rm_f (by omega) j1]
                  by_cases q1 : j / 8 = y
                  · have a1 : (x ≤ j % 8) ↔ (x + 1 ≤ j % 8) := by omega
                    have a2 : ¬ j % 8 = x + 1 := by omega
                    rw [sf_row q1, sf_row q1, bset_b, bset_b, decide_eq_false x8, dq_le a1, decide_eq_false a2]; simp
                  · by_cases q2 : j / 8 = y + 1
                    · rw [sf_nxt q2 bw, sf_nxt q2 bw, bset_b]
                      by_cases q3 : j % 8 = x
                      · have : ¬ x = x + 1 := by omega
                        rw [q3, ho.2, decide_eq_false this]; simp
                      · have a1 : (j % 8 < x) ↔ (j % 8 < x + 1) := by omega
                        by_cases q4 : j % 8 = x + 1
                        · rw [decide_eq_false (by omega : ¬ j % 8 < x), decide_eq_false (by omega : ¬ j % 8 < x + 1)]; rfl
                        · rw [dq_lt a1, decide_eq_false q4]; simp
                    · rw [sf_far q1 q2 bw, sf_far q1 q2 bw]
            · have hR : ¬ cv_R w (8 * y + x) (sf S w x y st) = true := by
                intro q
                unfold cv_R at q
                rw [d2] at q
                simp only [Bool.and_eq_true, decide_eq_true_eq] at q
                have d3 : (8 * y + x + 1) / 8 = y := by omega
                have d4 : (8 * y + x + 1) % 8 = x + 1 := by omega
                have q2 := q.2
                rw [sf_row d3, d4] at q2
                simp only [Bool.and_eq_true, Bool.not_eq_true', Bool.or_eq_false_iff] at q2
                refine hc ⟨q.1, q2.1, ?_⟩
                have := q2.2.1
                rw [decide_eq_true (by omega : x ≤ x + 1), Bool.true_and] at this
                exact this
              rw [if_neg hR, if_neg hc]; rfl
          · -- down
            have d3 : (8 * y + x + 8) / 8 = y + 1 := by omega
            have d4 : (8 * y + x + 8) % 8 = x := by omega
            have d5 : 8 * y + x + 8 = 8 * (y + 1) + x := by omega
            have hD : sf S w x y st (8 * y + x + 8) = S (8 * (y + 1) + x) := by
              rw [sf_nxt d3 bw, d4, decide_eq_false (by omega : ¬ x < x), d5]; simp
            rw [hD]
            by_cases hc : S (8 * (y + 1) + x) = true
            · have := hS _ hc
              rw [if_pos hc, if_pos ⟨by omega, hc⟩]
              show _ = vf w r S (x + 1) y (st ||| 2 ^ x)
              have x8 : ¬ 8 = x := by omega
              rw [vf_1 (con _ (by rw [bset_b, decide_eq_false x8]; simp) (fun q => by
                have := xw q
                rw [bset_b, decide_eq_false (by omega : ¬ w - 1 = x)]; simp))]
              refine cv_c (fun j hj => ?_)
              by_cases j1 : j = 8 * y + x + 8
              · subst j1
                rw [cv_rm_b, sf_nxt d3 bw, d4, bset_b, decide_eq_true (by omega : x < x + 1)]; simp
              · rw [cv_rm_f (by omega) j1]
                by_cases q1 : j / 8 = y
                · have a1 : (x ≤ j % 8) ↔ (x + 1 ≤ j % 8) := by omega
                  have a2 : ¬ j % 8 = x := by omega
                  rw [sf_row q1, sf_row q1, bset_b, bset_b, decide_eq_false x8, dq_le a1, decide_eq_false a2]; simp
                · by_cases q2 : j / 8 = y + 1
                  · rw [sf_nxt q2 bw, sf_nxt q2 bw, bset_b]
                    have a2 : ¬ j % 8 = x := by omega
                    have a1 : (j % 8 < x) ↔ (j % 8 < x + 1) := by omega
                    rw [dq_lt a1, decide_eq_false a2]; simp
                  · rw [sf_far q1 q2 bw, sf_far q1 q2 bw]
            · rw [if_neg hc, if_neg (fun u => hc u.2)]; rfl
        · -- round
          have hO : (cv_O w r (8 * y + x) (sf S w x y st) = true) ↔ (r = true ∧ x = 0 ∧ S (8 * y + (w - 1)) = true ∧ st.testBit (w - 1) = false) := by
            unfold cv_O
            rw [d2]
            simp only [Bool.and_eq_true, decide_eq_true_eq]
            constructor
            · rintro ⟨⟨q1, q2⟩, q3⟩
              subst q2
              have d3 : (8 * y + 0 + (w - 1)) / 8 = y := by omega
              have d4 : (8 * y + 0 + (w - 1)) % 8 = w - 1 := by omega
              rw [sf_row d3, d4] at q3
              simp only [Bool.and_eq_true, Bool.not_eq_true', Bool.or_eq_false_iff] at q3
              have := q3.2.1
              rw [decide_eq_true (by omega : 0 ≤ w - 1), Bool.true_and] at this
              exact ⟨q1, rfl, q3.1, this⟩
            · rintro ⟨q1, q2, q3, q4⟩
              subst q2
              refine ⟨⟨q1, rfl⟩, ?_⟩
              have d3 : (8 * y + 0 + (w - 1)) / 8 = y := by omega
              have d4 : (8 * y + 0 + (w - 1)) % 8 = w - 1 := by omega
              have n8 : st.testBit 8 = false := by
                cases hc : st.testBit 8
                · rfl
                · have := h8 hc; omega
              rw [sf_row d3, d4, q4, n8, Nat.add_zero, q3]; simp
          by_cases hc : r = true ∧ x = 0 ∧ S (8 * y + (w - 1)) = true ∧ st.testBit (w - 1) = false
          · rw [if_pos (hO.mpr hc), if_pos hc]
            show _ = vf w r S (x + 1) y (st ||| 2 ^ 8)
            obtain ⟨q1, q2, q3, q4⟩ := hc
            have w4 := hr4 q1
            subst q2
            have nx : ¬ vf_x S w (0 + 1) y (st ||| 2 ^ 8) := by
              rintro ⟨-, q | q | q⟩
              · rw [q3] at q; cases q
              · rw [bset_b, q4, decide_eq_false (by omega : ¬ w - 1 = 8)] at q; cases q
              · omega
            rw [vf_1 nx]
            refine cv_c (fun j hj => ?_)
            have n8 : st.testBit 8 = false := by
              cases hc : st.testBit 8
              · rfl
              · have := h8 hc; omega
            by_cases j1 : j = 8 * y + 0 + (w - 1)
            · have d3 : j / 8 = y := by omega
              have d4 : j = 8 * y + (w - 1) := by omega
              rw [j1, cv_rm_b, ← j1, sf_row d3, bset_b, bset_b, decide_eq_true d4]; simp
            · rw [cv_rm_f (by omega) j1]
              by_cases p1 : j / 8 = y
              · have a1 : (0 ≤ j % 8) ↔ (0 + 1 ≤ j % 8) := by omega
                have a2 : ¬ j % 8 = 8 := by omega
                have a3 : ¬ j = 8 * y + (w - 1) := by omega
                rw [sf_row p1, sf_row p1, bset_b, bset_b, n8, dq_le a1, decide_eq_false a2, decide_eq_false a3]; simp
              · by_cases p2 : j / 8 = y + 1
                · rw [sf_nxt p2 bw, sf_nxt p2 bw, bset_b]
                  by_cases p3 : j % 8 = 0
                  · rw [p3, ho.2, decide_eq_false (by omega : ¬ 0 = 8)]; simp
                  · rw [decide_eq_false (by omega : ¬ j % 8 < 0), decide_eq_false (by omega : ¬ j % 8 < 0 + 1)]; rfl
                · rw [sf_far p1 p2 bw, sf_far p1 p2 bw]
          · rw [if_neg (fun u => hc (hO.mp u)), if_neg hc]; rfl
    · simp only [if_pos ho]
      have c10 : ¬ (1 : Nat) = 0 := by omega
      have c20 : ¬ (2 : Nat) = 0 := by omega
      have c30 : ¬ (3 : Nat) = 0 := by omega
      simp only [if_true, if_neg c10, if_neg c20, if_neg c30]
      show _ = vf w r S (x + 1) y (bclr st x) + 0 + 0 + 0
      simp only [Nat.add_zero]
      have b8 : (bclr st x).testBit 8 = st.testBit 8 := by
        rw [bclr_b _ (by omega), decide_eq_true (by omega : 8 < 9), decide_eq_false (by omega : ¬ 8 = x)]; simp
      have bl : st.testBit 8 = true → (bclr st x).testBit (w - 1) = st.testBit (w - 1) := fun q => by
        have := xw q
        rw [bclr_b _ (by omega), decide_eq_true (by omega : w - 1 < 9), decide_eq_false (by omega : ¬ w - 1 = x)]; simp
      have same : vf_x S w (x + 1) y (bclr st x) ↔ vf_x S w x y st := by
        unfold vf_x
        rw [b8]
        refine and_congr_right (fun q => ?_)
        have := xw q
        rw [bl q]
        refine or_congr_right (or_congr_right ?_)
        omega
      by_cases hx1 : vf_x S w x y st
      · rw [vf_0 hx1, vf_0 (same.mpr hx1)]
      · rw [vf_1 hx1, vf_1 (fun u => hx1 (same.mp u)), cv_no hi (by
          rw [sf_row d1, d2]
          cases hc : S (8 * y + x)
          · rfl
          · cases hd : st.testBit x
            · exact absurd ⟨hc, hd⟩ ho
            · simp)]
        refine cv_c (fun j hj => ?_)
        by_cases q1 : j / 8 = y
        · have a1 : (x ≤ j % 8) ↔ (x + 1 ≤ j % 8) := by omega
          have a2 : ¬ j % 8 = x := by omega
          rw [sf_row q1, sf_row q1, b8, bclr_b _ (by omega), dq_le a1, decide_eq_false a2, decide_eq_true (by omega : j % 8 < 9)]; simp
        · by_cases q2 : j / 8 = y + 1
          · rw [sf_nxt q2 bw, sf_nxt q2 bw, bclr_b _ (by omega)]
            by_cases q3 : j % 8 = x
            · rw [decide_eq_false (by omega : ¬ j % 8 < x), decide_eq_true q3]; simp
            · have a1 : (j % 8 < x) ↔ (j % 8 < x + 1) := by omega
              rw [dq_lt a1, decide_eq_false q3, decide_eq_true (by omega : j % 8 < 9)]; simp
          · rw [sf_far q1 q2 bw, sf_far q1 q2 bw]
end VF
