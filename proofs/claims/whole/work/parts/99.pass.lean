/-! ===== what a cell does to a row of ends, both sides ===== -/
section PAS
variable {w h : Nat} {r : Bool} {S : Nat → Bool} {z : tq_S} {Q : tq_O → tq_S → Prop}
theorem sq_mateR {s t k m : Nat} (ht : t < 2147483648) (ets : ∀ i, k < i → pg t i = pg s i) (hk : pg s k = 1) (hm : isR s k m) (h9 : m < 9) (h3 : ∀ i, pg s i ≠ 3) (kk : Q (.inl (some (.int (nI m)))) z) : wm_X10_mateOf (nI t) (nI k) 1 z Q := by
  obtain ⟨m1, m2, m3, m4⟩ := hm
  have k1 : dd s (k + 1) = dd s k + 1 := by show dd s k + endv (pg s k) = _; rw [hk]; rfl
  unfold wm_X10_mateOf
  refine ⟨fun h => absurd h (by decide +kernel), fun _ => ?_⟩
  unfold wc_X10_mateOf_9 wc_X10_mateOf_16
  refine lp_inv (fun j st => k + 1 + j ≤ m ∧ st = (oI (dd s (k + 1 + j) - dd s k), nI (j + 1), z)) (m - (k + 1)) ?_ ⟨by omega, by rw [Nat.add_zero, k1, show dd s k + 1 - dd s k = 1 by omega]; rfl⟩
  rintro j st hj ⟨hjm, rfl⟩ B hB
  simp only
  unfold wb_X10_mateOf_16
  have b1 := dd_b s (k + 1 + j)
  have b2 := dd_b s k
  have st1 : dd s (k + 1 + j + 1) = dd s (k + 1 + j) + endv (pg s (k + 1 + j)) := rfl
  have vb := endv_b (pg s (k + 1 + j))
  rw [i_8, i_lt (by omega) (by omega)]
  refine ⟨fun h => absurd h (by omega), fun _ => ?_⟩
  intro v1 e1
  rw [i_1, pk_mul, i_add, show k + 1 * (j + 1) = k + 1 + j by omega] at e1
  subst e1
  refine ⟨fun h => absurd h (i_n0 (by omega)), fun _ => ⟨fun _ => ?_, fun h => absurd ((i_le (by omega) (by omega)).mpr (by omega)) h⟩⟩
  intro v2 e2
  rw [i_2, pk_mul, i_up ht (by omega), ets _ (by omega)] at e2
  subst e2
  have fin : ∀ v, v = oI (dd s (k + 1 + j + 1) - dd s k) → wc_X10_mateOf_77 (fun b4 b5 z => B (b4, b5, z)) Q (nI t) (nI k) 1 1 v (nI (j + 1)) (nI (k + 1 + j)) z := by
    rintro v rfl
    unfold wc_X10_mateOf_77
    rw [oI_0 (by omega) (by omega)]
    refine ⟨fun h v3 e3 => ?_, fun h => ?_⟩
    · have em : k + 1 + j ≠ m := fun q => by rw [← q] at m3; omega
      rw [i_1, i_add] at e3
      subst e3
      exact hB (by omega) _ ⟨by omega, rfl⟩
    · have em : k + 1 + j = m := Nat.le_antisymm hjm (Nat.le_of_not_lt fun q => by have := m4 (k + 1 + j + 1) (by omega) (by omega); omega)
      rw [em]; exact kk
  refine ⟨fun h => fin _ ?_, fun h => ⟨fun h2 => ?_, fun h2 => ?_⟩⟩
  · rw [pg_0'] at h
    rw [st1, h, endv_0, Int.add_zero]
  · rw [pg_0'] at h
    rw [pg_1] at h2
    have p2 : pg s (k + 1 + j) = 2 := by have := pg_4 s (k + 1 + j); have := h3 (k + 1 + j); omega
    unfold wc_X10_mateOf_74
    intro v3 e3
    refine fin _ ?_
    rw [e3, o_m, oI_a, st1, p2, endv_2, show dd s (k + 1 + j) - dd s k + -1 = dd s (k + 1 + j) + -1 - dd s k by omega]
  · rw [pg_1] at h2
    unfold wc_X10_mateOf_74
    intro v3 e3
    refine fin _ ?_
    rw [e3, o_1, oI_a, st1, h2, endv_1, show dd s (k + 1 + j) - dd s k + 1 = dd s (k + 1 + j) + 1 - dd s k by omega]
theorem sq_mateL {s t k m : Nat} (ht : t < 2147483648) (ets : ∀ i, i < k → pg t i = pg s i) (hk : pg s k = 2) (hm : isL s k m) (h9 : k < 9) (h3 : ∀ i, pg s i ≠ 3) (kk : Q (.inl (some (.int (nI m)))) z) : wm_X10_mateOf (nI t) (nI k) (-1) z Q := by
  obtain ⟨m1, m2, m3, m4⟩ := hm
  have k1 : dd s (k + 1) = dd s k - 1 := by show dd s k + endv (pg s k) = _; rw [hk, endv_2]; omega
  unfold wm_X10_mateOf
  refine ⟨fun _ => ?_, fun h => absurd (by decide +kernel) h⟩
  unfold wc_X10_mateOf_9 wc_X10_mateOf_16
  refine lp_inv (fun j st => m + j + 1 ≤ k ∧ st = (oI (dd s (k - j) - dd s (k + 1)), nI (j + 1), z)) (k - m - 1) ?_ ⟨by omega, by rw [Nat.sub_zero, k1, show dd s k - (dd s k - 1) = 1 by omega]; rfl⟩
  rintro j st hj ⟨hjm, rfl⟩ B hB
  simp only
  unfold wb_X10_mateOf_16
  have b1 := dd_b s (k - j)
  have b2 := dd_b s (k + 1)
  have st1 : dd s (k - j) = dd s (k - j - 1) + endv (pg s (k - j - 1)) := by
    have : k - j = k - j - 1 + 1 := by omega
    rw [this]; rfl
  have vb := endv_b (pg s (k - j - 1))
  rw [i_8, i_lt (by omega) (by omega)]
  refine ⟨fun h => absurd h (by omega), fun _ => ?_⟩
  intro v1 e1
  have em1 : nI k + -1 * nI (j + 1) = nI (k - j - 1) := by
    rw [Int32.neg_mul, Int32.one_mul, ← Int32.sub_eq_add_neg, pk_sub (by omega), show k - (j + 1) = k - j - 1 by omega]
  rw [em1] at e1
  subst e1
  refine ⟨fun h => absurd h (i_n0 (by omega)), fun _ => ⟨fun _ => ?_, fun h => absurd ((i_le (by omega) (by omega)).mpr (by omega)) h⟩⟩
  intro v2 e2
  rw [i_2, pk_mul, i_up ht (by omega), ets _ (by omega)] at e2
  subst e2
  have fin : ∀ v, v = oI (dd s (k - j - 1) - dd s (k + 1)) → wc_X10_mateOf_77 (fun b4 b5 z => B (b4, b5, z)) Q (nI t) (nI k) (-1) 2 v (nI (j + 1)) (nI (k - j - 1)) z := by
    rintro v rfl
    unfold wc_X10_mateOf_77
    rw [oI_0 (by omega) (by omega)]
    refine ⟨fun h v3 e3 => ?_, fun h => ?_⟩
    · have em : k - j - 1 ≠ m := fun q => by rw [← q] at m3; omega
      rw [i_1, i_add] at e3
      subst e3
      exact hB (by omega) _ ⟨by omega, by rw [show k - (j + 1) = k - j - 1 by omega]⟩
    · have em : k - j - 1 = m := Nat.le_antisymm (Nat.le_of_not_lt fun q => by have := m4 (k - j - 1) q (by omega); omega) (by omega)
      rw [em]; exact kk
  refine ⟨fun h => fin _ ?_, fun h => ⟨fun h2 => ?_, fun h2 => ?_⟩⟩
  · rw [pg_0'] at h
    rw [st1, h, endv_0, Int.add_zero]
  · rw [pg_0'] at h
    rw [pg_2] at h2
    have p2 : pg s (k - j - 1) = 1 := by have := pg_4 s (k - j - 1); have := h3 (k - j - 1); omega
    unfold wc_X10_mateOf_74
    intro v3 e3
    refine fin _ ?_
    rw [e3, o_m, oI_a, st1, p2, endv_1, show dd s (k - j - 1) + 1 - dd s (k + 1) + -1 = dd s (k - j - 1) - dd s (k + 1) by omega]
  · rw [pg_2] at h2
    unfold wc_X10_mateOf_74
    intro v3 e3
    refine fin _ ?_
    rw [e3, o_1, oI_a, st1, h2, endv_2, show dd s (k - j - 1) + -1 - dd s (k + 1) + 1 = dd s (k - j - 1) - dd s (k + 1) by omega]
/-- the last cell of the board -/
noncomputable def lstC (S : Nat → Bool) (k : Nat) : Bool := @decide (∀ j, j < 64 → k < j → S j = false) (Classical.propDecidable _)
theorem non_or {s x p : Nat} (hp : p < 4) : non s x ||| p * 2 ^ (2 * x) = putE (non s x) x p := pg_x fun k => by
  rw [pg_or, pg_s hp, pg_putE hp]
  by_cases q : k = x
  · rw [if_pos q, if_pos q, pg_non, if_neg (by omega), if_pos q, Nat.zero_or]
  · rw [if_neg q, if_neg q, Nat.or_zero]
theorem non_or1 {s x p : Nat} (hp : p < 4) : non s x ||| p * 2 ^ (2 * (x + 1)) = putE (non s x) (x + 1) p := pg_x fun k => by
  rw [pg_or, pg_s hp, pg_putE hp]
  by_cases q : k = x + 1
  · rw [if_pos q, if_pos q, pg_non, if_pos q, Nat.zero_or]
  · rw [if_neg q, if_neg q, Nat.or_zero]
theorem non_or2 {s x p q : Nat} (hp : p < 4) (hq : q < 4) : (non s x ||| p * 2 ^ (2 * x)) ||| q * 2 ^ (2 * (x + 1)) = putE (putE (non s x) x p) (x + 1) q := pg_x fun k => by
  rw [non_or hp, pg_or, pg_s hq, pg_putE hq]
  by_cases q1 : k = x + 1
  · rw [if_pos q1, if_pos q1, pg_putE hp, if_neg (by omega), pg_non, if_pos q1, Nat.zero_or]
  · rw [if_neg q1, if_neg q1, Nat.or_zero]
theorem non_fl {s x m p : Nat} (h1 : m ≠ x) (h2 : m ≠ x + 1) (hp : pg s m = 3 - p) (hp1 : 1 ≤ p) (hp2 : p ≤ 2) : non s x ^^^ 3 * 2 ^ (2 * m) = putE (non s x) m p := pg_x fun k => by
  rw [pg_xor, pg_s (by omega), pg_putE (by omega)]
  by_cases q : k = m
  · rw [if_pos q, if_pos q, pg_non, if_neg (by omega), if_neg (by omega), q, hp]
    rcases (by omega : p = 1 ∨ p = 2) with e | e <;> subst e <;> rfl
  · rw [if_neg q, if_neg q, Nat.xor_zero]
theorem non_b {n s x : Nat} (h : bal n s) (hx : x + 1 < n) (hn : n ≤ 9) : non s x < 262144 := by
  have : non s x < 2 ^ (2 * 9) := pg_lt (fun k hk => by
    rw [pg_non, if_neg (by omega), if_neg (by omega)]; exact h.2.1 k (by omega))
  exact this
theorem ho_S {x y : Nat} (hw8 : w ≤ 8) (hh8 : h ≤ 8) (e : ho w h S (nI x) (nI y) = true) (hx : x < 9) (hy : y < 9) : S (8 * y + x) = true := by
  unfold ho at e
  rw [i_ti (by omega), i_ti (by omega)] at e
  simp only [Bool.and_eq_true] at e
  exact e.2
theorem tr_cases {c rr d : Bool} {x s : Nat} (px : pg s x = 0 ∨ pg s x = 1 ∨ pg s x = 2) (py : pg s (x + 1) = 0 ∨ pg s (x + 1) = 1 ∨ pg s (x + 1) = 2) : (c = false → tr c rr d x s = if pg s x = 0 ∧ pg s (x + 1) = 0 then [non s x] else []) ∧ (c = true → pg s x = 0 → pg s (x + 1) = 0 → tr c rr d x s = if rr = true ∧ d = true then [putE (putE (non s x) x 1) (x + 1) 2] else []) ∧ (c = true → ¬ (pg s x = 0 ∧ pg s (x + 1) = 0) → (pg s x = 0 ∨ pg s (x + 1) = 0) → tr c rr d x s = (if d = true then [putE (non s x) x (pg s x + pg s (x + 1))] else []) ++ (if rr = true then [putE (non s x) (x + 1) (pg s x + pg s (x + 1))] else [])) ∧ (c = true → pg s x = 1 → pg s (x + 1) = 1 → tr c rr d x s = [putE (non s x) (mR s (x + 1)) 1]) ∧ (c = true → pg s x = 2 → pg s (x + 1) = 2 → tr c rr d x s = [putE (non s x) (mL s x) 2]) ∧ (c = true → pg s x = 2 → pg s (x + 1) = 1 → tr c rr d x s = [non s x]) ∧ (c = true → pg s x = 1 → pg s (x + 1) = 2 → tr c rr d x s = []) := by
  refine ⟨fun hc => ?_, fun hc h1 h2 => ?_, fun hc h1 h2 => ?_, fun hc h1 h2 => ?_, fun hc h1 h2 => ?_, fun hc h1 h2 => ?_, fun hc h1 h2 => ?_⟩
  · subst hc
    unfold tr
    rw [if_pos rfl]
    by_cases q : pg s x = 0 ∧ pg s (x + 1) = 0
    · rw [if_pos q, if_pos q, non_00 q.1 q.2]
    · rw [if_neg q, if_neg q]
  all_goals subst hc; unfold tr
  · rw [if_neg (by simp), if_pos ⟨h1, h2⟩]
  · rw [if_neg (by simp), if_neg h1, if_pos h2]
  · rw [if_neg (by simp), if_neg (by omega), if_neg (by omega), if_pos ⟨h1, h2⟩]
  · rw [if_neg (by simp), if_neg (by omega), if_neg (by omega), if_neg (by omega), if_pos ⟨h1, h2⟩]
  · rw [if_neg (by simp), if_neg (by omega), if_neg (by omega), if_neg (by omega), if_neg (by omega), if_pos h1]
  · rw [if_neg (by simp), if_neg (by omega), if_neg (by omega), if_neg (by omega), if_neg (by omega), if_neg (by omega)]
theorem clo_f {c l : Bool} {x s : Nat} (h : ¬ (pg s x = 1 ∧ pg s (x + 1) = 2)) : clo c l x s = false := by
  unfold clo
  rw [Bool.and_eq_false_iff]
  refine Or.inl ?_
  rw [Bool.and_eq_false_iff, Bool.and_eq_false_iff]
  by_cases q : pg s x = 1
  · exact Or.inr (decide_eq_false fun e => h ⟨q, e⟩)
  · exact Or.inl (Or.inr (decide_eq_false q))
theorem sq_loopCell {I : List Nat → tq_S → Prop} {x y s : Nat} {m : Int64} (hw8 : w ≤ 8) (hh8 : h ≤ 8) (hj : jc w h r S z) (hx : x < 8) (hy : y < 8) (hb : bal 9 s) (ha : ∀ L t z1 Q', bal 9 t → L.length < 2 → I L z1 → (∀ z2, I (L ++ [t]) z2 → Q' (.inl none) z2) → wm_X10_add (nI t) m z1 Q') (h0 : I [] z) (k0 : clo (ho w h S (nI x) (nI y)) (lstC S (8 * y + x)) x s = true → Q (.inl none) (tq_sfl z 2692 (tq_fl z 2692 + m))) (k1 : clo (ho w h S (nI x) (nI y)) (lstC S (8 * y + x)) x s = false → ∀ z', I (tr (ho w h S (nI x) (nI y)) (ho w h S (nI x + 1) (nI y)) (ho w h S (nI x) (nI y + 1)) x s) z' → Q (.inl none) z') : wm_X10_passCell (nI x) (nI y) (nI s) m z Q := by
  have hs : s < 262144 := bal_lt hb
  have px := bal_p hb x
  have py := bal_p hb (x + 1)
  have h2x : 2 ^ (2 * x) ≤ 2 ^ 14 := Nat.pow_le_pow_right (by decide) (by omega)
  have h2y : 2 ^ (2 * (x + 1)) ≤ 2 ^ 16 := Nat.pow_le_pow_right (by decide) (by omega)
  have e16 : 2 ^ 16 = 65536 := by decide
  have e14 : 2 ^ 14 = 16384 := by decide
  have hB : ∀ c rr d t, t ∈ tr c rr d x s → bal 9 t := fun c rr d t ht => tr_bal hb (by omega) ht
  unfold wm_X10_passCell
  intro v1 e1 v2 e2 v3 e3
  rw [i_2, pk_mul, i_up (by omega) (by omega)] at e1
  rw [i_2, pk_mul, i_add, show 2 * x + 2 = 2 * (x + 1) by omega, i_up (by omega) (by omega)] at e2
  rw [i_2, pk_mul, i_non (by omega)] at e3
  subst e1; subst e2; subst e3
  refine sq_holds hw8 hh8 hj ⟨_, rfl, ?_⟩
  refine sq_holds hw8 hh8 hj ⟨_, rfl, ?_⟩
  refine sq_holds hw8 hh8 hj ⟨_, rfl, ?_⟩
  have hoS : ho w h S (nI x) (nI y) = true → S (8 * y + x) = true := fun e => ho_S hw8 hh8 e (by omega) (by omega)
  generalize ho w h S (nI x) (nI y + 1) = d at k1 ⊢
  generalize ho w h S (nI x + 1) (nI y) = rr at k1 ⊢
  generalize ho w h S (nI x) (nI y) = c at k0 k1 hoS ⊢
  obtain ⟨t0, t1, t2, t3, t4, t5, t6⟩ := tr_cases (c := c) (rr := rr) (d := d) px py
  have hB := hB c rr d
  have sl : nI 2 * nI x = nI (2 * x) := pk_mul 2 x
  have sl2 : nI (2 * x) + nI 2 = nI (2 * (x + 1)) := by rw [i_add]; rfl
  refine ⟨fun hc1 => ?_, fun hc0 => ?_⟩
  · rw [bi_n] at hc1
    have not0 : ¬ (pg s x = 0 ∧ pg s (x + 1) = 0) → wc_X10_passCell_136 Q (nI x) (nI y) m (nI (pg s x)) (nI (pg s (x + 1))) (nI (non s x)) (bi d) (bi rr) z := by
      intro hn0
      unfold wc_X10_passCell_136
      have one : (pg s x = 0 ∨ pg s (x + 1) = 0) → wc_X10_passCell_146 Q (nI x) m (nI (pg s x)) (nI (pg s (x + 1))) (nI (non s x)) (bi d) (bi rr) z := by
        intro h1
        have k1 := k1 (clo_f (by omega))
        rw [t2 hc1 hn0 h1] at k1 hB
        have eo : nI (pg s x) ||| nI (pg s (x + 1)) = nI (pg s x + pg s (x + 1)) := by
          rw [i_or]
          congr 1
          rcases h1 with q | q
          · rw [q, Nat.zero_or, Nat.zero_add]
          · rw [q, Nat.or_zero, Nat.add_zero]
        have p4 : pg s x + pg s (x + 1) < 4 := by omega
        have pm : (pg s x + pg s (x + 1)) * 2 ^ (2 * x) ≤ 3 * 2 ^ (2 * x) := Nat.mul_le_mul_right _ (by omega)
        have pm2 : (pg s x + pg s (x + 1)) * 2 ^ (2 * (x + 1)) ≤ 3 * 2 ^ (2 * (x + 1)) := Nat.mul_le_mul_right _ (by omega)
        have last : ∀ L z1, L.length < 2 → I L z1 → (∀ z', I (L ++ (if rr = true then [putE (non s x) (x + 1) (pg s x + pg s (x + 1))] else [])) z' → Q (.inl none) z') → wc_X10_passCell_169 Q (nI x) m (nI (pg s x)) (nI (pg s (x + 1))) (nI (non s x)) (bi rr) z1 := by
          intro L z1 hl hI u
          unfold wc_X10_passCell_169
          rw [eo, i_2, sl, sl2, i_shN (by omega) (by omega), i_or, non_or1 p4]
          refine ⟨fun q => ?_, fun q => ?_⟩
          · rw [bi_0] at q
            subst q
            exact u z1 (by rw [if_neg (by simp), List.append_nil]; exact hI)
          · rw [bi_n] at q
            subst q
            exact ha L _ z1 _ (hB _ (List.mem_append_right _ (List.mem_singleton.mpr rfl))) hl hI (fun z2 h2 => ⟨rfl, u z2 h2⟩)
        unfold wc_X10_passCell_146
        rw [eo, i_2, sl, i_shN (by omega) (by omega), i_or, non_or p4]
        refine ⟨fun q => ?_, fun q => ?_⟩
        · rw [bi_0] at q
          subst q
          exact last [] z (by decide) h0 k1
        · rw [bi_n] at q
          subst q
          exact ha [] _ z _ (hB _ (List.mem_append_left _ (List.mem_singleton.mpr rfl))) (by decide) h0 (fun z2 h2 => ⟨rfl, last _ z2 (by simp) h2 k1⟩)
      refine ⟨fun q => one (Or.inl (pg_0'.mp q)), fun q => ⟨fun q2 => ?_, fun q2 => one (Or.inr (pg_0'.mp q2))⟩⟩
      rw [pg_0'] at q q2
      have mate2 : ∀ k p, k ≠ x → k ≠ x + 1 → pg s k = 3 - p → 1 ≤ p → p ≤ 2 → k < 9 → (nI (non s x)) ^^^ ((3 : Int32) <<< (((2 : Int32) * nI k) &&& 31)) = nI (putE (non s x) k p) := by
        intro k p a1 a2 a3 a4 a5 a6
        have hk2 : 2 ^ (2 * k) ≤ 2 ^ 16 := Nat.pow_le_pow_right (by decide) (by omega)
        rw [i_2, pk_mul, i_3, i_shN (by omega) (by omega), i_xor, non_fl a1 a2 a3 a4 a5]
      have n20 : ∀ t, t < 262144 → t < 2147483648 := fun t ht => by omega
      have nb := non_b hb (x := x) (by omega) (by omega)
      unfold wm_X10_join
      refine ⟨fun a => ?_, fun a => ⟨fun b => ?_, fun b => ?_⟩⟩
      · rw [pg_1] at a
        have ax : pg s x = 2 := by omega
        unfold wc_X10_join_49
        refine ⟨fun a2 => absurd (pg_2.mpr ax) a2, fun _ => ⟨fun b => ?_, fun b => ?_⟩⟩
        · rw [pg_1] at b
          have ay : pg s (x + 1) = 2 := by omega
          obtain ⟨mm, m1, m3, m4, m5⟩ := mate_l hb ax
          have iL : isL s x mm := ⟨m1, m3, m4, m5⟩
          have k1 := k1 (clo_f (by omega))
          rw [t4 hc1 ax ay, mL_e iL] at k1 hB
          unfold wc_X10_join_71
          refine ⟨fun _ => ?_, fun a2 => absurd (pg_1.mp a2) a⟩
          refine sq_mateL (s := s) (by omega) (fun i hi => by rw [pg_non, if_neg (by omega), if_neg (by omega)]) ax iL (by omega) hb.1 ⟨_, rfl, ?_⟩
          dsimp only
          rw [mate2 mm 2 (by omega) (by omega) m3 (by omega) (by omega) (by omega)]
          exact ha [] _ z _ (hB _ (List.mem_singleton.mpr rfl)) (by decide) h0 (fun z2 h2 => ⟨rfl, ⟨rfl, k1 z2 h2⟩⟩)
        · rw [pg_1] at b
          have k1 := k1 (clo_f (by omega))
          rw [t5 hc1 ax b] at k1 hB
          exact ha [] _ z _ (hB _ (List.mem_singleton.mpr rfl)) (by decide) h0 (fun z2 h2 => ⟨rfl, ⟨rfl, k1 z2 h2⟩⟩)
      · rw [pg_1] at a
        have b' : ¬ pg s (x + 1) = 2 := fun e => b (pg_2.mpr e)
        have ay : pg s (x + 1) = 1 := by omega
        obtain ⟨mm, m1, m2, m3, m4, m5⟩ := mate_r hb ay
        have iR : isR s (x + 1) mm := ⟨m1, m3, m4, m5⟩
        have k1 := k1 (clo_f (by omega))
        rw [t3 hc1 a ay, mR_e iR] at k1 hB
        unfold wc_X10_join_49
        refine ⟨fun _ => ?_, fun a2 => absurd (pg_2.mp a2) (by omega)⟩
        unfold wc_X10_join_71
        refine ⟨fun a2 => absurd (pg_1.mpr a) a2, fun _ => ?_⟩
        rw [i_1, i_add]
        refine sq_mateR (s := s) (by omega) (fun i hi => by rw [pg_non, if_neg (by omega), if_neg (by omega)]) ay iR (by omega) hb.1 ⟨_, rfl, ?_⟩
        dsimp only
        rw [mate2 mm 1 (by omega) (by omega) m3 (by omega) (by omega) (by omega)]
        exact ha [] _ z _ (hB _ (List.mem_singleton.mpr rfl)) (by decide) h0 (fun z2 h2 => ⟨rfl, ⟨rfl, k1 z2 h2⟩⟩)
      · rw [pg_1] at a
        rw [pg_2] at b
        rw [t6 hc1 a b] at k1
        have e0 : nI (non s x) = 0 ↔ non s x = 0 := by rw [show (0 : Int32) = nI 0 from rfl, i_eq (by omega) (by omega)]
        rw [e0]
        have ec : clo c (lstC S (8 * y + x)) x s = (lstC S (8 * y + x) && decide (non s x = 0)) := by
          unfold clo
          rw [hc1, decide_eq_true a, decide_eq_true b, Bool.true_and, Bool.and_true, Bool.and_true]
        rw [ec] at k0 k1
        refine ⟨fun q3 => ⟨rfl, k1 (by rw [decide_eq_false q3, Bool.and_false]) z h0⟩, fun q3 => ?_⟩
        have el : ((Int64.toUInt64 (tq_fl z 67)) >>> ((Int32.toInt64 (((8 : Int32) * nI y) + nI x)).toUInt64 &&& Int64.toUInt64 63)).toInt64 = 1 ↔ lstC S (8 * y + x) = true := by
          rw [i_8, pk_mul, i_add]
          unfold lstC
          rw [@decide_eq_true_iff _ (Classical.propDecidable _)]
          constructor
          · intro e j hj1 hj2
            have := congrArg (fun v => ct v (j - (8 * y + x))) e
            rw [ct_shr _ _ (by omega), ct_1, hj.2.2.2, show 8 * y + x + (j - (8 * y + x)) = j by omega, decide_eq_false (by omega)] at this
            exact this
          · intro e
            refine ct_ext (fun i hi => ?_)
            rw [ct_shr _ _ (by omega), ct_1, hj.2.2.2]
            by_cases q4 : i = 0
            · rw [q4, Nat.add_zero, hoS hc1]; rfl
            · rw [decide_eq_false q4]
              by_cases q5 : 8 * y + x + i < 64
              · exact e _ q5 (by omega)
              · rw [← hj.2.2.2]; exact ct_big (by omega)
        rw [el]
        refine ⟨fun q4 => ⟨rfl, k1 (by rw [Bool.not_eq_true] at q4; rw [q4, Bool.false_and]) z h0⟩, fun q4 z1 ez => ?_⟩
        rw [ez]
        exact ⟨rfl, k0 (by rw [q4, decide_eq_true q3]; rfl)⟩
    refine ⟨fun q => not0 (fun e => q (pg_0'.mpr e.1)), fun q => ⟨fun q2 => not0 (fun e => q2 (pg_0'.mpr e.2)), fun q2 => ?_⟩⟩
    rw [pg_0'] at q q2
    have k1 := k1 (clo_f (by omega))
    rw [t1 hc1 q q2] at k1 hB
    refine ⟨fun e => ?_, fun e => ⟨fun e2 => ?_, fun e2 => ?_⟩⟩
    · rw [bi_0] at e
      exact k1 z (by rw [if_neg (by rw [e]; simp)]; exact h0)
    · rw [bi_0] at e2
      exact k1 z (by rw [if_neg (by rw [e2]; simp)]; exact h0)
    · rw [bi_n] at e e2
      rw [if_pos ⟨e2, e⟩] at k1 hB
      rw [i_1, i_2, sl, sl2, i_shN (by omega) (by omega), i_shN (by omega) (by omega), i_or, i_or, non_or2 (by omega) (by omega)]
      exact ha [] _ z _ (hB _ (List.mem_singleton.mpr rfl)) (by decide) h0 (fun z2 h2 => ⟨rfl, k1 z2 h2⟩)
  · rw [bi_0] at hc0
    have ec : clo c (lstC S (8 * y + x)) x s = false := by unfold clo; rw [hc0]; rfl
    have k1 := k1 ec
    rw [t0 hc0] at k1 hB
    refine ⟨fun q => ?_, fun q => ⟨fun q2 => ?_, fun q2 => ?_⟩⟩
    · exact k1 z (by rw [if_neg (fun e => q (pg_0'.mpr e.1))]; exact h0)
    · exact k1 z (by rw [if_neg (fun e => q2 (pg_0'.mpr e.2))]; exact h0)
    · rw [pg_0'] at q q2
      rw [if_pos ⟨q, q2⟩] at k1 hB
      exact ha [] _ z _ (hB _ (List.mem_singleton.mpr rfl)) (by decide) h0 (fun z2 h2 => ⟨rfl, k1 z2 h2⟩)
end PAS
