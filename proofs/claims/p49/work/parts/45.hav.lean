/-! ===== covers that have a piece: come and go ===== -/
def ot (w x y way : Nat) : Nat := if way = 1 then 8 * y + (x + 1) else if way = 2 then 8 * (y + 1) + x else if way = 3 then 8 * y + (w - 1) else 1000
theorem dq_eq' {a b c d : Nat} (h : a = b ↔ c = d) : decide (a = b) = decide (c = d) := decide_eq_decide.mpr h
section HAV
variable {w h : Nat} {r : Bool} {S : Nat → Bool} {x y st way a b : Nat}
theorem sf_af {n : Nat} (bw : w ≤ 8) (hx : x < w) (hway : way < 4) (e : af w h r S x y st way = some n) : ∀ j, 8 * y + x < j → j < 64 → sf S w (x + 1) y n j = (sf S w x y st j && !decide (j = ot w x y way)) := by
  intro j hj j64
  by_cases q1 : j / 8 = y
  · have jx : x < j % 8 := by omega
    rw [sf_row q1, sf_row q1, decide_eq_true (by omega : x + 1 ≤ j % 8), decide_eq_true (by omega : x ≤ j % 8), Bool.true_and, Bool.true_and]
    unfold af at e
    split at e
    · rename_i hA
      split at e
      · rename_i hB
        cases e
        rw [bclr_b _ (by omega), bclr_b _ (by omega), decide_eq_false (by omega : ¬ j = 8 * y + (w - 1)), hB.1]
        have : ¬ j = ot w x y 0 := by unfold ot; rw [if_neg (by omega), if_neg (by omega), if_neg (by omega)]; omega
        rw [decide_eq_false this, decide_eq_true (by omega : j % 8 < 9), decide_eq_false (by omega : ¬ j % 8 = 8)]; simp
      · cases e
    · split at e
      · split at e
        · rename_i hz
          cases e
          have : ¬ j = ot w x y way := by unfold ot; rw [if_neg (by omega), if_neg (by omega), if_neg (by omega)]; omega
          rw [bclr_b _ (by omega), bclr_b _ (by omega), decide_eq_false this, decide_eq_true (by omega : j % 8 < 9), decide_eq_false (by omega : ¬ j % 8 = x), decide_eq_false (by omega : ¬ 8 = x)]; simp
        · cases e
      · split at e
        · rename_i h1
          split at e
          · cases e
            have : (j = ot w x y way) ↔ (j % 8 = x + 1) := by unfold ot; rw [if_pos h1]; omega
            rw [dq_eq' this, bset_b, bset_b, decide_eq_false (by omega : ¬ 8 = x + 1)]
            cases S j <;> cases st.testBit (j % 8) <;> cases decide (j % 8 = x + 1) <;> cases st.testBit 8 <;> cases decide (j = 8 * y + (w - 1)) <;> rfl
          · cases e
        · split at e
          · rename_i h1 h2
            split at e
            · cases e
              have : ¬ j = ot w x y way := by unfold ot; rw [if_neg h1, if_pos h2]; omega
              rw [decide_eq_false this, bset_b, bset_b, decide_eq_false (by omega : ¬ 8 = x), decide_eq_false (by omega : ¬ j % 8 = x)]; simp
            · cases e
          · split at e
            · rename_i h1 h2 h3
              cases e
              have : (j = ot w x y way) ↔ (j = 8 * y + (w - 1)) := by unfold ot; rw [if_neg h1, if_neg h2, if_pos h3.1]
              rw [dq_eq' this, bset_b, bset_b, decide_eq_true (rfl : 8 = 8), decide_eq_false (by omega : ¬ j % 8 = 8)]
              cases S j <;> cases st.testBit (j % 8) <;> cases st.testBit 8 <;> cases decide (j = 8 * y + (w - 1)) <;> rfl
            · cases e
  · by_cases q2 : j / 8 = y + 1
    · rw [sf_nxt q2 bw, sf_nxt q2 bw]
      unfold af at e
      split at e
      · rename_i hA
        split at e
        · rename_i hB
          cases e
          have : ¬ j = ot w x y way := by rw [hB.1]; unfold ot; rw [if_neg (by omega), if_neg (by omega), if_neg (by omega)]; omega
          rw [bclr_b _ (by omega), decide_eq_false this, decide_eq_true (by omega : j % 8 < 9), decide_eq_false (by omega : ¬ j % 8 = 8)]
          by_cases q3 : j % 8 = x
          · rw [q3, hB.2.2]; simp
          · have a1 : (j % 8 < x) ↔ (j % 8 < x + 1) := by omega
            rw [dq_lt a1]; simp
        · cases e
      · split at e
        · split at e
          · rename_i hz
            cases e
            have : ¬ j = ot w x y way := by rw [hz]; unfold ot; rw [if_neg (by omega), if_neg (by omega), if_neg (by omega)]; omega
            rw [bclr_b _ (by omega), decide_eq_false this, decide_eq_true (by omega : j % 8 < 9)]
            by_cases q3 : j % 8 = x
            · rw [q3]; simp
            · have a1 : (j % 8 < x) ↔ (j % 8 < x + 1) := by omega
              rw [dq_lt a1, decide_eq_false q3]; simp
          · cases e
        · rename_i ho
          have hxb : st.testBit x = false := (Classical.not_not.mp ho).2
          split at e
          · rename_i h1
            split at e
            · cases e
              have : ¬ j = ot w x y way := by unfold ot; rw [if_pos h1]; omega
              rw [bset_b, decide_eq_false this]
              by_cases q3 : j % 8 < x + 1
              · rw [decide_eq_false (by omega : ¬ j % 8 = x + 1), Bool.or_false]
                by_cases q4 : j % 8 = x
                · rw [q4, hxb]; simp
                · have a1 : (j % 8 < x) ↔ (j % 8 < x + 1) := by omega
                  rw [dq_lt a1]; simp
              · rw [decide_eq_false q3, decide_eq_false (by omega : ¬ j % 8 < x)]; simp
            · cases e
          · split at e
            · rename_i h1 h2
              split at e
              · cases e
                have : (j = ot w x y way) ↔ (j % 8 = x) := by unfold ot; rw [if_neg h1, if_pos h2]; omega
                rw [bset_b, dq_eq' this]
                by_cases q3 : j % 8 = x
                · rw [q3]; simp
                · have a1 : (j % 8 < x) ↔ (j % 8 < x + 1) := by omega
                  rw [dq_lt a1, decide_eq_false q3]; simp
              · cases e
            · split at e
              · rename_i h1 h2 h3
                cases e
                have : ¬ j = ot w x y way := by unfold ot; rw [if_neg h1, if_neg h2, if_pos h3.1]; omega
                rw [bset_b, decide_eq_false this, decide_eq_false (by omega : ¬ j % 8 = 8), Bool.or_false]
                by_cases q3 : j % 8 = x
                · rw [q3, hxb]; simp
                · have a1 : (j % 8 < x) ↔ (j % 8 < x + 1) := by omega
                  rw [dq_lt a1]; simp
              · cases e
    · rw [sf_far q1 q2 bw, sf_far q1 q2 bw]
      have : ¬ j = ot w x y way := by
        unfold ot
        split
        · omega
        · split
          · omega
          · split
            · omega
            · omega
      rw [decide_eq_false this]; simp
theorem af_rm1 (h1 : a ≠ 8 * y + x) (h2 : b ≠ 8 * y + x) (h3 : ¬ (ot w x y way = a ∨ ot w x y way = b)) (hway : way < 4) : af w h r (cv_rm S a b) x y st way = af w h r S x y st way := by
  have e0 : cv_rm S a b (8 * y + x) = S (8 * y + x) := cv_rm_f h1.symm h2.symm
  have e1 : cv_rm S a b (ot w x y way) = S (ot w x y way) := cv_rm_f (fun e => h3 (Or.inl e)) (fun e => h3 (Or.inr e))
  have : way = 0 ∨ way = 1 ∨ way = 2 ∨ way = 3 := by omega
  unfold af
  rcases this with rfl | rfl | rfl | rfl
  · simp [e0]
  · have : ot w x y 1 = 8 * y + (x + 1) := rfl
    rw [this] at e1
    simp [e0, e1]
  · have : ot w x y 2 = 8 * (y + 1) + x := rfl
    rw [this] at e1
    simp [e0, e1]
  · have : ot w x y 3 = 8 * y + (w - 1) := rfl
    rw [this] at e1
    simp [e0, e1]
theorem af_rm2 (h3 : ot w x y way = a ∨ ot w x y way = b) (h0 : way ≠ 0) (hway : way < 4) : af w h r (cv_rm S a b) x y st way = none := by
  have e1 : cv_rm S a b (ot w x y way) = false := by
    rcases h3 with e | e
    · rw [e]; exact cv_rm_a
    · rw [e]; exact cv_rm_b
  have : way = 1 ∨ way = 2 ∨ way = 3 := by omega
  unfold af
  rcases this with rfl | rfl | rfl
  · have : ot w x y 1 = 8 * y + (x + 1) := rfl
    rw [this] at e1
    simp [e1]
  · have : ot w x y 2 = 8 * (y + 1) + x := rfl
    rw [this] at e1
    simp [e1]
  · have : ot w x y 3 = 8 * y + (w - 1) := rfl
    rw [this] at e1
    simp [e1]
theorem cv_re_rm (hS : cv_re w h S) : cv_re w h (cv_rm S a b) := fun j hj => hS j (cv_rm_t.mp hj).1
noncomputable def gh (w : Nat) (r : Bool) (S : Nat → Bool) (a b x y st : Nat) : Nat := if sf S w x y st a = true ∧ sf S w x y st b = true then vf w r (cv_rm S a b) x y st else 0
noncomputable def gho (w : Nat) (r : Bool) (S : Nat → Bool) (a b x y : Nat) (o : Option Nat) : Nat := match o with
  | none => 0
  | some n => gh w r S a b x y n
theorem gh_s (bw1 : 1 ≤ w) (bw : w ≤ 8) (hS : cv_re w h S) (hh8 : h ≤ 8) (hr4 : r = true → 4 ≤ w) (hx : x < w) (hy : y < h) (h8 : st.testBit 8 = true → 1 ≤ x) (ha : 8 * y + x < a) (hb : 8 * y + x < b) (a64 : a < 64) (b64 : b < 64) : gh w r S a b x y st = gho w r S a b (x + 1) y (af w h r S x y st 0) + gho w r S a b (x + 1) y (af w h r S x y st 1) + gho w r S a b (x + 1) y (af w h r S x y st 2) + gho w r S a b (x + 1) y (af w h r S x y st 3) := by
  have key : ∀ way, way < 4 → (if sf S w x y st a = true ∧ sf S w x y st b = true then vo w r (cv_rm S a b) (x + 1) y (af w h r (cv_rm S a b) x y st way) else 0) = gho w r S a b (x + 1) y (af w h r S x y st way) := by
    intro way hway
    by_cases hP : ot w x y way = a ∨ ot w x y way = b
    · have h0 : way ≠ 0 := by
        rintro rfl
        have : ot w x y 0 = 1000 := rfl
        omega
      rw [af_rm2 hP h0 hway]
      have e1 : (if sf S w x y st a = true ∧ sf S w x y st b = true then vo w r (cv_rm S a b) (x + 1) y none else 0) = 0 := by
        split <;> rfl
      rw [e1]
      cases e : af w h r S x y st way with
      | none => rfl
      | some n =>
        show 0 = gh w r S a b (x + 1) y n
        unfold gh
        rw [if_neg]
        rintro ⟨u1, u2⟩
        rw [sf_af bw hx hway e a ha a64] at u1
        rw [sf_af bw hx hway e b hb b64] at u2
        simp only [Bool.and_eq_true, Bool.not_eq_true', decide_eq_false_iff_not] at u1 u2
        rcases hP with q | q
        · exact u1.2 q.symm
        · exact u2.2 q.symm
    · rw [af_rm1 (by omega) (by omega) hP hway]
      cases e : af w h r S x y st way with
      | none =>
        show (if _ then 0 else 0) = 0
        split <;> rfl
      | some n =>
        show (if _ then vf w r (cv_rm S a b) (x + 1) y n else 0) = gh w r S a b (x + 1) y n
        unfold gh
        rw [sf_af bw hx hway e a ha a64, sf_af bw hx hway e b hb b64, decide_eq_false (fun u => hP (Or.inl u.symm)), decide_eq_false (fun u => hP (Or.inr u.symm))]
        simp
  rw [← key 0 (by omega), ← key 1 (by omega), ← key 2 (by omega), ← key 3 (by omega)]
  unfold gh
  split
  · exact vf_s bw1 bw (cv_re_rm hS) hh8 hr4 hx hy h8
  · rfl
/-- where a piece is set down -/
theorem gh_p (bw1 : 1 ≤ w) (bw : w ≤ 8) (hS : cv_re w h S) (hh8 : h ≤ 8) (hr4 : r = true → 4 ≤ w) (hx : x < w) (hy : y < h) (h8 : st.testBit 8 = true → 1 ≤ x) (hst : st < 512) (ea : a = 8 * y + x) (eb : b = ot w x y way) (sa : S a = true) (sb : S b = true) (hway : (way = 1 ∧ x + 1 < w) ∨ way = 2 ∨ (way = 3 ∧ x = 0 ∧ r = true)) : vo w r S (x + 1) y (af w h r S x y st way) = gh w r S a b x y st := by
  have ha64 := (hS _ sa).1
  have b64 := (hS _ sb).1
  have hway4 : way < 4 := by omega
  have way0 : way ≠ 0 := by omega
  have ad : a / 8 = y := by omega
  have am : a % 8 = x := by omega
  have hab : a < b := by
    rw [eb, ea]
    rcases hway with ⟨rfl, q⟩ | rfl | ⟨rfl, q, q2⟩
    · have : ot w x y 1 = 8 * y + (x + 1) := rfl
      omega
    · have : ot w x y 2 = 8 * (y + 1) + x := rfl
      omega
    · have : ot w x y 3 = 8 * y + (w - 1) := rfl
      have := hr4 q2
      omega
  have sfa : sf S w x y st a = (!(st.testBit x || (st.testBit 8 && decide (x = w - 1)))) := by
    have : (a = 8 * y + (w - 1)) ↔ (x = w - 1) := by omega
    rw [sf_row ad, am, sa, dq_eq' this]; simp
  have zero : (sf S w x y st a = false ∨ sf S w x y st b = false) → gh w r S a b x y st = 0 := by
    intro u
    unfold gh
    rw [if_neg]
    rintro ⟨u1, u2⟩
    rcases u with u | u
    · rw [u] at u1; cases u1
    · rw [u] at u2; cases u2
  by_cases hA : x + 1 = w ∧ st.testBit 8 = true
  · have e : af w h r S x y st way = none := by
      unfold af
      rw [if_pos hA, if_neg (fun u => way0 u.1)]
    rw [e, zero (Or.inl (by rw [sfa, hA.2, decide_eq_true (by omega : x = w - 1)]; simp))]; rfl
  · have xw : st.testBit 8 = true → x + 1 < w := fun q => by
      refine Classical.byContradiction fun hn => hA ⟨by omega, q⟩
    cases hox : st.testBit x with
    | true =>
      have e : af w h r S x y st way = none := by
        unfold af
        rw [if_neg hA, if_pos (fun u => by rw [hox] at u; exact absurd u.2 (by decide)), if_neg way0]
      rw [e, zero (Or.inl (by rw [sfa, hox]; rfl))]; rfl
    | false =>
      have ho : ¬ ¬ (S (8 * y + x) = true ∧ st.testBit x = false) := fun u => u ⟨by rw [← ea]; exact sa, hox⟩
      have ta : sf S w x y st a = true := by
        rw [sfa, hox]
        cases q : st.testBit 8
        · rfl
        · have := xw q
          rw [decide_eq_false (by omega : ¬ x = w - 1)]; rfl
      have fin : ∀ n, af w h r S x y st way = some n → sf S w x y st b = true → (vf_x S w (x + 1) y n ↔ vf_x (cv_rm S a b) w x y st) → vo w r S (x + 1) y (af w h r S x y st way) = gh w r S a b x y st := by
        intro n e tb hv
        rw [e]
        show vf w r S (x + 1) y n = _
        unfold gh
        rw [if_pos ⟨ta, tb⟩]
        by_cases q : vf_x (cv_rm S a b) w x y st
        · rw [vf_0 q, vf_0 (hv.mpr q)]
        · rw [vf_1 q, vf_1 (fun u => q (hv.mp u))]
          have hno : sf (cv_rm S a b) w x y st (8 * y + x) = false := by
            unfold sf
            rw [← ea, cv_rm_a]; rfl
          rw [cv_no (by omega) hno, Nat.add_assoc]
          have key : ∀ j, 8 * y + (x + 1) ≤ j → sf S w (x + 1) y n j = sf (cv_rm S a b) w x y st j := by
            intro j hj
            by_cases j64 : j < 64
            · rw [sf_af bw hx hway4 e j (by omega) j64]
              by_cases jb : j = b
              · rw [← eb, decide_eq_true jb, jb]
                unfold sf
                rw [cv_rm_b]; simp
              · rw [← eb, decide_eq_false jb]
                unfold sf
                rw [cv_rm_f (by omega) jb]; simp
            · have s0 : S j = false := by
                cases q : S j
                · rfl
                · exact absurd (hS _ q).1 j64
              have s1 : cv_rm S a b j = false := by unfold cv_rm; rw [s0]; rfl
              unfold sf
              rw [s0, s1]; rfl
          exact cv_c key
      rcases hway with ⟨rfl, q⟩ | rfl | ⟨rfl, q, q2⟩
      · have eb' : b = 8 * y + (x + 1) := eb
        have bd : b / 8 = y := by omega
        have bm : b % 8 = x + 1 := by omega
        have sfb : sf S w x y st b = (!(st.testBit (x + 1) || (st.testBit 8 && decide (x + 1 = w - 1)))) := by
          have : (b = 8 * y + (w - 1)) ↔ (x + 1 = w - 1) := by omega
          rw [sf_row bd, bm, sb, dq_eq' this, decide_eq_true (by omega : x ≤ x + 1)]; simp
        have e0 : af w h r S x y st 1 = if x + 1 < w ∧ S (8 * y + (x + 1)) = true ∧ st.testBit (x + 1) = false then some (st ||| 2 ^ (x + 1)) else none := by
          unfold af; rw [if_neg hA, if_neg ho, if_pos rfl]
        cases hb1 : st.testBit (x + 1) with
        | true =>
          rw [if_neg (fun u => by rw [hb1] at u; exact absurd u.2.2 (by decide))] at e0
          rw [e0, zero (Or.inr (by rw [sfb, hb1]; rfl))]; rfl
        | false =>
          rw [if_pos ⟨q, by rw [← eb']; exact sb, hb1⟩] at e0
          by_cases hl : st.testBit 8 = true ∧ x + 1 = w - 1
          · rw [e0, zero (Or.inr (by rw [sfb, hl.1, decide_eq_true hl.2]; simp))]
            show vf w r S (x + 1) y _ = 0
            exact vf_0 ⟨by rw [bset_b, hl.1]; rfl, Or.inr (Or.inl (by rw [bset_b, decide_eq_true hl.2.symm]; simp))⟩
          · refine fin _ e0 (by
              rw [sfb, hb1]
              cases q8 : st.testBit 8
              · rfl
              · rw [decide_eq_false (fun u => hl ⟨q8, u⟩)]; rfl) ?_
            unfold vf_x
            rw [bset_b, decide_eq_false (by omega : ¬ 8 = x + 1), Bool.or_false]
            refine and_congr_right (fun q8 => ?_)
            have l1 : ¬ x + 1 = w - 1 := fun u => hl ⟨q8, u⟩
            rw [bset_b, decide_eq_false (fun u => l1 u.symm), Bool.or_false, cv_rm_f (by omega) (by omega)]
            refine or_congr_right (or_congr_right ?_)
            omega
      · have eb' : b = 8 * (y + 1) + x := eb
        have bd : b / 8 = y + 1 := by omega
        have bm : b % 8 = x := by omega
        have yh := (hS _ sb).2.2
        have e0 : af w h r S x y st 2 = some (st ||| 2 ^ x) := by
          unfold af; rw [if_neg hA, if_neg ho, if_neg (by omega), if_pos rfl, if_pos ⟨by omega, by rw [← eb']; exact sb⟩]
        refine fin _ e0 (by rw [sf_nxt bd bw, bm, sb, decide_eq_false (by omega : ¬ x < x)]; rfl) ?_
        unfold vf_x
        rw [bset_b, decide_eq_false (by omega : ¬ 8 = x), Bool.or_false]
        refine and_congr_right (fun q8 => ?_)
        have := xw q8
        rw [bset_b, decide_eq_false (by omega : ¬ w - 1 = x), Bool.or_false, cv_rm_f (by omega) (by omega)]
        refine or_congr_right (or_congr_right ?_)
        omega
      · have eb' : b = 8 * y + (w - 1) := eb
        have w4 := hr4 q2
        subst q
        have n8 : st.testBit 8 = false := by
          cases hc : st.testBit 8
          · rfl
          · have := h8 hc; omega
        have bd : b / 8 = y := by omega
        have bm : b % 8 = w - 1 := by omega
        have sfb : sf S w 0 y st b = (!(st.testBit (w - 1))) := by
          rw [sf_row bd, bm, sb, n8]; simp
        have e0 : af w h r S 0 y st 3 = if S (8 * y + (w - 1)) = true ∧ st.testBit (w - 1) = false then some (st ||| 2 ^ 8) else none := by
          unfold af; rw [if_neg hA, if_neg ho, if_neg (by omega), if_neg (by omega)]
          simp [q2]
        cases hb1 : st.testBit (w - 1) with
        | true =>
          rw [if_neg (fun u => by rw [hb1] at u; exact absurd u.2 (by decide))] at e0
          rw [e0, zero (Or.inr (by rw [sfb, hb1]; rfl))]; rfl
        | false =>
          rw [if_pos ⟨by rw [← eb']; exact sb, hb1⟩] at e0
          refine fin _ e0 (by rw [sfb, hb1]; rfl) ?_
          unfold vf_x
          rw [n8, bset_b, bset_b, hb1, ← eb', sb, decide_eq_false (by omega : ¬ w - 1 = 8)]
          constructor
          · rintro ⟨-, u | u | u⟩
            · cases u
            · cases u
            · omega
          · rintro ⟨u, -⟩; cases u
end HAV
