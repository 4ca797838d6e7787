/-! ===== rooks ===== -/
def rkF (S : Nat → Bool) (y : Nat) (W : Nat → Nat) (d : Nat → Nat → Bool) (k x : Nat) : Nat := if k.testBit x = true ∧ S (8 * y + x) = true ∧ d (k ^^^ 2 ^ x) x = true then W (k ^^^ 2 ^ x) else 0
def rkP (S : Nat → Bool) (y : Nat) (W : Nat → Nat) (d : Nat → Nat → Bool) (k : Nat) : Nat := W k + fb_sm (rkF S y W d k) 8
def rkW (S : Nat → Bool) : Nat → Nat → Nat
  | 0 => fun m => if m = 0 then 1 else 0
  | y + 1 => rkP S y (rkW S y) (fun _ _ => true)
section ROOKS
variable {w h : Nat} {r : Bool} {S : Nat → Bool} {z : tq_S} {Q : tq_O → tq_S → Prop} {y : Nat} {W : Nat → Nat} {d d' : Nat → Nat → Bool}
theorem xr_i {k m x : Nat} : k ^^^ 2 ^ x = m ↔ k = m ^^^ 2 ^ x := by
  constructor
  · rintro rfl; rw [Nat.xor_assoc, Nat.xor_self, Nat.xor_zero]
  · rintro rfl; rw [Nat.xor_assoc, Nat.xor_self, Nat.xor_zero]
theorem xr_b {k x j : Nat} : (k ^^^ 2 ^ x).testBit j = (k.testBit j ^^ decide (x = j)) := by rw [Nat.testBit_xor, Nat.testBit_two_pow]
theorem xr_or {m x : Nat} (hm : m.testBit x = false) : m ^^^ 2 ^ x = m ||| 2 ^ x := by
  refine Nat.eq_of_testBit_eq (fun j => ?_)
  rw [xr_b, bset_b]
  by_cases q : x = j
  · subst q; rw [hm]; simp
  · have q2 : ¬ j = x := fun e => q e.symm
    rw [decide_eq_false q, decide_eq_false q2]; simp
theorem xr_lt {m x : Nat} (hm : m.testBit x = true) : m ^^^ 2 ^ x < m := by
  have h1 : (m ^^^ 2 ^ x) ||| 2 ^ x = m := by
    rw [← xr_or (by rw [xr_b, hm]; simp)]
    rw [Nat.xor_assoc, Nat.xor_self, Nat.xor_zero]
  have h2 : m ^^^ 2 ^ x ≤ m := by
    have := Nat.left_le_or (n := m ^^^ 2 ^ x) (m := 2 ^ x)
    omega
  have h3 : m ^^^ 2 ^ x ≠ m := fun e => by
    have h4 : (m ^^^ 2 ^ x).testBit x = m.testBit x := by rw [e]
    rw [xr_b, hm] at h4; simp at h4
  omega
theorem rkP_0 {k : Nat} (h : ∀ x, x < 8 → k.testBit x = true → d (k ^^^ 2 ^ x) x = false) : rkP S y W d k = W k := by
  unfold rkP
  have e : fb_sm (rkF S y W d k) 8 = fb_sm (fun _ => 0) 8 := by
    refine fb_sm_cong (fun x hx => ?_)
    unfold rkF
    rw [if_neg]
    rintro ⟨q1, -, q3⟩
    rw [h x hx q1] at q3; cases q3
  rw [e, fb_sm_0, Nat.add_zero]
theorem rkP_c {k : Nat} (h : ∀ x, x < 8 → k.testBit x = true → S (8 * y + x) = true → d (k ^^^ 2 ^ x) x = d' (k ^^^ 2 ^ x) x ∨ W (k ^^^ 2 ^ x) = 0) : rkP S y W d k = rkP S y W d' k := by
  unfold rkP
  congr 1
  refine fb_sm_cong (fun x hx => ?_)
  unfold rkF
  by_cases q1 : k.testBit x = true
  · by_cases q2 : S (8 * y + x) = true
    · rcases h x hx q1 q2 with q3 | q3
      · rw [q3]
      · rw [q3]
        split <;> split <;> rfl
    · rw [if_neg (fun u => q2 u.2.1), if_neg (fun u => q2 u.2.1)]
  · rw [if_neg (fun u => q1 u.1), if_neg (fun u => q1 u.1)]
theorem rkP_s {m x k : Nat} (hx : x < 8) (hd : d m x = false) (hd' : ∀ a b, d' a b = (d a b || (decide (a = m) && decide (b = x)))) : rkP S y W d' k = rkP S y W d k + (if k = m ||| 2 ^ x ∧ m.testBit x = false ∧ S (8 * y + x) = true then W m else 0) := by
  unfold rkP
  have u := fb_sm_upd (rkF S y W d k) (rkF S y W d' k x) hx
  have e1 : fb_sm (fun j => if j = x then rkF S y W d' k x else rkF S y W d k j) 8 = fb_sm (rkF S y W d' k) 8 := by
    refine fb_sm_cong (fun j _ => ?_)
    by_cases q : j = x
    · rw [if_pos q, q]
    · rw [if_neg q]
      unfold rkF
      rw [hd', decide_eq_false q, Bool.and_false, Bool.or_false]
  rw [e1] at u
  have e2 : rkF S y W d' k x = rkF S y W d k x + (if k = m ||| 2 ^ x ∧ m.testBit x = false ∧ S (8 * y + x) = true then W m else 0) := by
    unfold rkF
    by_cases q : k = m ||| 2 ^ x ∧ m.testBit x = false ∧ S (8 * y + x) = true
    · obtain ⟨q1, q2, q3⟩ := q
      have q4 : k ^^^ 2 ^ x = m := xr_i.mpr (by rw [q1, xr_or q2])
      have q5 : k.testBit x = true := by rw [q1, bset_b]; simp
      rw [q4, hd', hd, if_pos (show k = m ||| 2 ^ x ∧ m.testBit x = false ∧ S (8 * y + x) = true from ⟨q1, q2, q3⟩), if_pos (show k.testBit x = true ∧ S (8 * y + x) = true ∧ (false || (decide (m = m) && decide (x = x))) = true from ⟨q5, q3, by simp⟩), if_neg (show ¬ (k.testBit x = true ∧ S (8 * y + x) = true ∧ false = true) from fun u => absurd u.2.2 Bool.false_ne_true)]; omega
    · rw [if_neg q, Nat.add_zero, hd']
      by_cases q1 : k.testBit x = true ∧ S (8 * y + x) = true
      · have : ¬ k ^^^ 2 ^ x = m := fun e => q ⟨by
          have e2 : m.testBit x = false := by rw [← e, xr_b, q1.1]; simp
          rw [← xr_or e2]; exact xr_i.mp e, by rw [← e, xr_b, q1.1]; simp, q1.2⟩
        rw [decide_eq_false this, Bool.false_and, Bool.or_false]
      · rw [if_neg (fun u => q1 ⟨u.1, u.2.1⟩), if_neg (fun u => q1 ⟨u.1, u.2.1⟩)]
  omega
theorem rkP_le {c k : Nat} (h : ∀ m, W m ≤ c) : rkP S y W d k ≤ 9 * c := by
  unfold rkP
  have h1 := h k
  have h2 : fb_sm (rkF S y W d k) 8 ≤ 8 * c := fb_sm_bound (fun x _ => by unfold rkF; split; exact h _; exact Nat.zero_le _)
  omega
theorem rkW_le : ∀ y m, rkW S y m ≤ 9 ^ y := by
  intro y
  induction y with
  | zero =>
    intro m
    show (if m = 0 then 1 else 0) ≤ 1
    split <;> omega
  | succ y ih =>
    intro m
    have := rkP_le (S := S) (y := y) (d := fun _ _ => true) (k := m) ih
    rw [Nat.pow_succ, Nat.mul_comm]; exact this
theorem rkW_b {m : Nat} (hy : y ≤ 8) : rkW S y m ≤ 43046721 := by
  have h1 := rkW_le (S := S) y m
  have h2 : (9 : Nat) ^ y ≤ 9 ^ 8 := Nat.pow_le_pow_right (by omega) hy
  have h3 : (9 : Nat) ^ 8 = 43046721 := by decide +kernel
  omega
theorem l_z {n : Nat} (hn : n < 9223372036854775808) : lN n = 0 ↔ n = 0 := by
  constructor
  · intro e
    have h1 : (lN n).toBitVec.toNat = (lN 0).toBitVec.toNat := by rw [e]; rfl
    rw [wb_tn (by omega), wb_tn (by omega)] at h1
    exact h1
  · rintro rfl; rfl
theorem sq_fillWays (hd : jd w h r S) (hj : jc w h r S z) (k : ∀ z', fr [(3, 43)] z z' → (∀ m, m < 256 → tq_al z' 43 m = lN (rkW S h m)) → Q (.inl none) z') : wm_X10_fillWays z Q := by
  have hw8 := hd.2.1
  have hh8 := hd.2.2.2.1
  unfold wm_X10_fillWays
  refine fw_J7_fill_d0a16_r8 ⟨rfl, ?_⟩
  intro z2 e2
  have f2 : fr [(3, 43)] z z2 := by rw [e2]; unfold fl_l; exact fr_sal (by decide) (fr_sal (by decide) fr_r)
  unfold wc_X10_fillWays_17
  refine lp_inv (fun y t => ∃ z', t = (nI y, z') ∧ fr [(3, 43)] z z' ∧ ∀ m, m < 256 → tq_al z' 43 m = lN (rkW S y m)) h ?_ ⟨z2, rfl, f2, fun m hm => ?_⟩
  rotate_left
  · skip
    rw [e2, rw_ale, rw_updL, i_0, i_cl (by omega)]
    show _ = lN (if m = 0 then 1 else 0)
    by_cases q : m = 0
    · rw [if_pos q, if_pos q]; rfl
    · rw [if_neg q, if_neg q]
      unfold fl_l
      rw [rw_ale]
      show (if 0 ≤ m ∧ m < 256 then (0 : Int64) else _) = _
      rw [if_pos ⟨by omega, hm⟩]; rfl
  rintro y t hyh ⟨z3, rfl, f3, g3⟩ B hB
  simp only
  have j3 := jc_f f3 (by decide) (by decide) (by decide) (by decide) hj
  unfold wb_X10_fillWays_17
  rw [j3.2.1]
  refine ⟨fun h2 => ?_, fun h2 => ?_⟩
  · rw [i_le (by omega) (by omega)] at h2
    have : y = h := by omega
    subst this
    exact k z3 f3 g3
  · rw [i_le (by omega) (by omega)] at h2
    have hy : y < h := by omega
    rw [i_8, pk_mul]
    intro v1 e1
    have row : ∀ i, i < 8 → ib v1 i = S (8 * y + i) := fun i hi => by
      have h255 : (255 : Int32) = nI (2 ^ 8 - 1) := rfl
      rw [e1, ib_and, ib_l _ _ (by omega), ct_shr _ _ (by omega), j3.2.2.2, h255, ib_n, Nat.testBit_two_pow_sub_one, decide_eq_true hi, decide_eq_true (by omega : i < 32)]; simp
    unfold wc_X10_fillWays_50
    refine lp_inv (fun j t => ∃ z', t = ((if j < 256 then nI (255 - j) else -1 : Int32), z') ∧ fr [(3, 43)] z z' ∧ ∀ m, m < 256 → tq_al z' 43 m = lN (rkP S y (rkW S y) (fun a _ => decide (256 - j ≤ a)) m)) 256 ?_ ⟨z3, rfl, f3, fun m hm => ?_⟩
    rotate_left
    · skip
      rw [g3 m hm, rkP_0 (fun x hx q => ?_)]
      have := xr_lt q
      exact decide_eq_false (by omega)
    rintro j t hj5 ⟨z4, rfl, f4, g4⟩ B2 hB2
    simp only
    unfold wb_X10_fillWays_50
    by_cases hj6 : j < 256
    · rw [if_pos hj6]
      refine ⟨fun h3 => absurd h3 (i_n0 (by omega)), fun _ => ?_⟩
      intro v5 e5
      have opn : ∀ x, x < 8 → ((((Int32.toUInt32 v5) >>> ((Int32.toUInt32 (nI x)) &&& Int32.toUInt32 31)).toInt32 &&& (1 : Int32)) = 0 ↔ ¬ (S (8 * y + x) = true ∧ (255 - j).testBit x = false)) := by
        intro x hx
        have h1 : (1 : Int32) = nI (2 ^ 0) := rfl
        rw [h1, ib_t (by omega), ib_shr _ _ (by omega), e5, ib_and, ib_xor, ib_n, ib_m1, Nat.add_zero, row x hx, decide_eq_true (by omega : x < 32)]
        cases S (8 * y + x) <;> cases (255 - j).testBit x <;> simp
      have out : ∀ z', fr [(3, 43)] z z' → (∀ m, m < 256 → tq_al z' 43 m = lN (rkP S y (rkW S y) (fun a _ => decide (256 - (j + 1) ≤ a)) m)) → wc_X10_fillWays_118 (fun b1 z => B (b1, z)) (fun b3 z => B2 (b3, z)) Q (nI y) v1 (nI (255 - j)) z' := by
        intro z' f' g'
        unfold wc_X10_fillWays_118
        intro v e
        refine hB2 hj6 _ ⟨z', ?_, f', g'⟩
        rw [e]
        by_cases q : j + 1 < 256
        · rw [if_pos q, i_m1 (by omega)]
          have : 255 - j - 1 = 255 - (j + 1) := by omega
          rw [this]
        · rw [if_neg q]
          have : 255 - j = 0 := by omega
          rw [this]; rfl
      unfold wc_X10_fillWays_64
      refine lp_inv (fun x t => ∃ z', t = (nI x, z') ∧ fr [(3, 43)] z z' ∧ ∀ m, m < 256 → tq_al z' 43 m = lN (rkP S y (rkW S y) (fun a b => decide (256 - j ≤ a) || (decide (a = 255 - j) && decide (b < x))) m)) 8 ?_ ⟨z4, rfl, f4, fun m hm => ?_⟩
      rotate_left
      · skip
        rw [g4 m hm]
        congr 1
        exact rkP_c (fun x _ _ _ => Or.inl (by simp))
      rintro x t hx8 ⟨z6, rfl, f6, g6⟩ B3 hB3
      simp only
      unfold wb_X10_fillWays_64
      rw [i_8]
      refine ⟨fun h3 => ?_, fun h3 => ?_⟩
      · rw [i_le (by omega) (by omega)] at h3
        refine out z6 f6 (fun m hm => ?_)
        rw [g6 m hm]
        congr 1
        refine rkP_c (fun x' hx' _ _ => Or.inl ?_)
        by_cases q : m ^^^ 2 ^ x' = 255 - j
        · rw [decide_eq_true q, decide_eq_true (by omega : x' < x), decide_eq_true (by omega : 256 - (j + 1) ≤ m ^^^ 2 ^ x')]; simp
        · rw [decide_eq_false q, Bool.false_and, Bool.or_false]
          exact dq_le (by omega)
      · rw [i_le (by omega) (by omega)] at h3
        have hx : x < 8 := by omega
        have own : tq_al z6 43 (255 - j) = lN (rkW S y (255 - j)) := by
          rw [g6 _ (by omega), rkP_0 (fun x' hx' q => ?_)]
          have := xr_lt q
          rw [decide_eq_false (by omega : ¬ 256 - j ≤ (255 - j) ^^^ 2 ^ x'), decide_eq_false (by omega : ¬ (255 - j) ^^^ 2 ^ x' = 255 - j)]; rfl
        have bW := rkW_b (S := S) (y := y) (m := 255 - j) (by omega)
        rw [i_cl (by omega), own, l_z (by omega), opn x hx]
        refine ⟨i_in (by omega) (by omega), fun h4 => ?_, fun h4 => ⟨fun h5 => ?_, fun h5 => ?_⟩⟩
        · refine out z6 f6 (fun m hm => ?_)
          rw [g6 m hm]
          congr 1
          refine rkP_c (fun x' hx' _ _ => ?_)
          by_cases q : m ^^^ 2 ^ x' = 255 - j
          · exact Or.inr (by rw [q]; exact h4)
          · refine Or.inl ?_
            rw [decide_eq_false q, Bool.false_and, Bool.or_false]
            exact dq_le (by omega)
        · unfold wc_X10_fillWays_112
          intro v e
          rw [i_1, i_add] at e
          subst e
          refine hB3 hx _ ⟨z6, rfl, f6, fun m hm => ?_⟩
          rw [g6 m hm, rkP_s (d := fun a b => decide (256 - j ≤ a) || (decide (a = 255 - j) && decide (b < x))) (d' := fun a b => decide (256 - j ≤ a) || (decide (a = 255 - j) && decide (b < x + 1))) (m := 255 - j) hx (by rw [decide_eq_false (by omega : ¬ 256 - j ≤ 255 - j), decide_eq_false (by omega : ¬ x < x)]; simp) (fun a b => by
            have : (b < x + 1) ↔ (b < x ∨ b = x) := by omega
            by_cases q1 : a = 255 - j <;> by_cases q2 : b < x <;> by_cases q3 : b = x <;> simp [q1, q2, q3] <;> omega), if_neg (fun u => h5 ⟨u.2.2, u.2.1⟩), Nat.add_zero]
        · have h6 : S (8 * y + x) = true ∧ (255 - j).testBit x = false := Classical.not_not.mp h5
          have lt : (255 - j) ||| 2 ^ x < 256 := Nat.or_lt_two_pow (n := 8) (by omega) (Nat.pow_lt_pow_right (by omega) hx)
          rw [i_pw (by omega), i_or, i_cl (by omega)]
          refine ⟨i_in lt (by omega), i_in (by omega) (by omega), i_in lt (by omega), fun z7 e7 => ?_⟩
          unfold wc_X10_fillWays_112
          intro v e
          rw [i_1, i_add] at e
          subst e
          refine hB3 hx _ ⟨z7, rfl, by rw [e7]; exact fr_sal (by decide) f6, fun m hm => ?_⟩
          rw [e7, rw_ale, rw_updL, rkP_s (d := fun a b => decide (256 - j ≤ a) || (decide (a = 255 - j) && decide (b < x))) (d' := fun a b => decide (256 - j ≤ a) || (decide (a = 255 - j) && decide (b < x + 1))) (m := 255 - j) hx (by rw [decide_eq_false (by omega : ¬ 256 - j ≤ 255 - j), decide_eq_false (by omega : ¬ x < x)]; simp) (fun a b => by
            have : (b < x + 1) ↔ (b < x ∨ b = x) := by omega
            by_cases q1 : a = 255 - j <;> by_cases q2 : b < x <;> by_cases q3 : b = x <;> simp [q1, q2, q3] <;> omega)]
          by_cases q : m = (255 - j) ||| 2 ^ x
          · rw [if_pos q, if_pos ⟨q, h6.2, h6.1⟩, ← l_add, q, g6 _ lt]
          · rw [if_neg q, if_neg (fun u => q u.1), Nat.add_zero]; exact g6 m hm
    · rw [if_neg hj6]
      refine ⟨fun _ => ?_, fun h3 => absurd (show (-1 : Int32) < 0 by decide +kernel) h3⟩
      unfold wc_X10_fillWays_124
      intro v e
      rw [i_1, i_add] at e
      subst e
      refine hB hy _ ⟨z4, rfl, f4, fun m hm => ?_⟩
      rw [g4 m hm]
      show _ = lN (rkP S y (rkW S y) (fun _ _ => true) m)
      congr 1
      exact rkP_c (fun x _ _ _ => Or.inl (decide_eq_true (by omega)))
end ROOKS
