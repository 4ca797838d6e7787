/-! ===== powers by remainders; elimination ===== -/
theorem pm_sq (x p : Nat) : (x % p) * (x % p) % p = x * x % p := (Nat.mul_mod x x p).symm
theorem pm_ml (x y p : Nat) : (x % p) * (y % p) % p = x * y % p := (Nat.mul_mod x y p).symm
theorem tb_m {e i : Nat} : e % 2 ^ (i + 1) = e % 2 ^ i + (if e.testBit i = true then 2 ^ i else 0) := by
  rw [Nat.mod_pow_succ, Nat.testBit_eq_decide_div_mod_eq]
  have h : e / 2 ^ i % 2 = 0 ∨ e / 2 ^ i % 2 = 1 := by omega
  rcases h with h | h
  · rw [h]; simp
  · rw [h]; simp
theorem l_tb {e i : Nat} (he : e < 4611686018427387904) (hi : i < 63) : ((((Int64.toUInt64 (lN e)) >>> ((Int32.toInt64 (nI i)).toUInt64 &&& Int64.toUInt64 63)).toInt64 &&& (1 : Int64)) = (0 : Int64)) ↔ e.testBit i = false := by
  rw [ct_t1 (by omega), ct_lN, decide_eq_true (by omega : i < 64), Bool.true_and]
section POWER
variable {z : tq_S} {Q : tq_O → tq_S → Prop}
theorem sq_power {b e p : Nat} (hb : b < 9223372036854775808) (he : e < 4294967296) (hp1 : 1 < p) (hp : p ≤ 2147483647) (k : Q (.inl (some (.long (lN (b ^ e % p))))) z) : wm_X3_power (lN b) (lN e) (lN p) z Q := by
  have hp0 : 0 < p := by omega
  have lt : ∀ x, x % p < p := fun x => Nat.mod_lt _ hp0
  have mulb : ∀ x y, x < p → y < p → x * y < 9223372036854775808 := by
    intro x y hx hy
    have : x * y ≤ 2147483647 * 2147483647 := Nat.mul_le_mul (by omega) (by omega)
    omega
  unfold wm_X3_power
  refine ⟨by rw [l_z (by omega)]; omega, fun v1 e1 => ?_⟩
  rw [pk_lRem (by omega) hp0 (by omega)] at e1
  unfold wc_X3_power_12
  refine lp_for (fun i => (lN (b ^ (e % 2 ^ i) % p), lN (b ^ (2 ^ i) % p), nI i, z)) 32 ?_ (by rw [e1, Nat.pow_zero, Nat.mod_one, Nat.pow_zero, Nat.mod_eq_of_lt hp1, Nat.pow_one]; rfl)
  intro i hi B hB
  simp only
  unfold wb_X3_power_12
  rw [i_32, i_le (by omega) (by omega)]
  refine ⟨fun h1 => ?_, fun h1 => ?_⟩
  · have : i = 32 := by omega
    subst this
    have : e % 2 ^ 32 = e := Nat.mod_eq_of_lt he
    rw [this]; exact k
  · have hB := hB (by omega)
    have nz : ¬ lN p = 0 := by rw [l_z (by omega)]; omega
    have sq : ∀ r, r = b ^ (e % 2 ^ (i + 1)) % p → wc_X3_power_40 (fun b6 b8 b10 z => B (b6, b8, b10, z)) Q (lN e) (lN p) (lN r) (lN (b ^ (2 ^ i) % p)) (nI i) z := by
      intro r hr
      unfold wc_X3_power_40
      refine ⟨nz, fun v2 e2 v3 e3 => ?_⟩
      rw [l_mul, pk_lRem (mulb _ _ (lt _) (lt _)) hp0 (by omega), pm_sq, ← Nat.pow_add] at e2
      rw [i_1, i_add] at e3
      rw [e2, e3, hr]
      have : 2 ^ i + 2 ^ i = 2 ^ (i + 1) := by rw [Nat.pow_succ]; omega
      rw [this]; exact hB
    rw [l_tb (by omega) (by omega)]
    refine ⟨fun h2 => sq _ ?_, fun h2 => ⟨nz, fun v2 e2 => ?_⟩⟩
    · rw [tb_m, if_neg (by rw [h2]; exact Bool.false_ne_true), Nat.add_zero]
    · have h2 : e.testBit i = true := by simpa using h2
      rw [l_mul, pk_lRem (mulb _ _ (lt _) (lt _)) hp0 (by omega), pm_ml, ← Nat.pow_add] at e2
      rw [e2]
      refine sq _ ?_
      rw [tb_m, if_pos h2]
def inv (x p : Nat) : Nat := x ^ (p - 2) % p
theorem inv_lt {x p : Nat} (hp : 1 < p) : inv x p < p := Nat.mod_lt _ (by omega)
theorem sq_inverse {b p : Nat} (hb : b < 9223372036854775808) (hp1 : 2 < p) (hp : p ≤ 2147483647) (k : Q (.inl (some (.long (lN (inv b p))))) z) : wm_X3_inverse (lN b) (lN p) z Q := by
  unfold wm_X3_inverse
  rw [l_2, l_sub (by omega)]
  exact sq_power hb (by omega) (by omega) hp ⟨_, rfl, k⟩
/-! the matrix -/
def mt (n : Nat) (M : Nat → Nat → Nat) (z : tq_S) : Prop := ∀ r c, r < n → c < n → tq_al z 17 (32 * r + c) = lN (M r c)
def swp (i q : Nat) (M : Nat → Nat → Nat) : Nat → Nat → Nat := fun r c => if r = i then M q c else if r = q then M i c else M r c
def clr (p v i : Nat) (M : Nat → Nat → Nat) : Nat → Nat → Nat := fun r c => if i < r ∧ i ≤ c then (M r c + (p - M r i * v % p * M i c % p)) % p else M r c
variable {n p : Nat} {M : Nat → Nat → Nat}
theorem mt_ix {r c : Nat} : nI r * (32 : Int32) + nI c = nI (32 * r + c) := by
  rw [i_32, pk_mul, i_add, Nat.mul_comm]
theorem sq_pivotOf {i : Nat} (hn : n ≤ 32) (hi : i < n) (hm : mt n M z) (hM : ∀ r c, r < n → c < n → M r c < 9223372036854775808) (k0 : (∀ r, i ≤ r → r < n → M r i = 0) → Q (.inl (some (.int (-1)))) z) (k1 : ∀ q, i ≤ q → q < n → M q i ≠ 0 → (∀ r, i ≤ r → r < q → M r i = 0) → Q (.inl (some (.int (nI q)))) z) : wm_X3_pivotOf (nI i) (nI n) z Q := by
  unfold wm_X3_pivotOf wc_X3_pivotOf_2
  refine lp_inv (fun m s => s = (nI (i + m), z) ∧ ∀ r, i ≤ r → r < i + m → M r i = 0) (n - i) ?_ ⟨rfl, fun r h1 h2 => by omega⟩
  rintro m s hm2 ⟨rfl, h0⟩ B hB
  simp only
  unfold wb_X3_pivotOf_2
  rw [i_le (by omega) (by omega)]
  refine ⟨fun h1 => k0 (fun r h2 h3 => h0 r h2 (by omega)), fun h1 => ?_⟩
  rw [mt_ix, i_cl (by omega), hm _ _ (by omega) (by omega), l_z (hM _ _ (by omega) (by omega))]
  refine ⟨i_in (by omega) (by omega), fun h2 v e => ?_, fun h2 => k1 (i + m) (by omega) (by omega) h2 h0⟩
  rw [i_1, i_add] at e
  refine hB (by omega) _ ⟨by rw [e]; rfl, fun r h3 h4 => ?_⟩
  by_cases q : r = i + m
  · rw [q]; exact h2
  · exact h0 r h3 (by omega)
theorem sq_swapRows {i q : Nat} (hn : n ≤ 32) (hi : i < n) (hq : q < n) (hiq : i ≠ q) (hm : mt n M z) (k : ∀ z', fr [(3, 17)] z z' → mt n (swp i q M) z' → Q (.inl none) z') : wm_X3_swapRows (nI i) (nI q) (nI n) z Q := by
  unfold wm_X3_swapRows wc_X3_swapRows_3
  refine lp_inv (fun m s => ∃ z', s = (nI m, z') ∧ fr [(3, 17)] z z' ∧ (∀ r c, r < n → c < n → tq_al z' 17 (32 * r + c) = lN (if c < m then swp i q M r c else M r c))) n ?_ ⟨z, rfl, fr_r, fun r c hr hc => by rw [if_neg (by omega)]; exact hm r c hr hc⟩
  rintro m s hm2 ⟨z1, rfl, f1, m1⟩ B hB
  simp only
  unfold wb_X3_swapRows_3
  rw [i_le (by omega) (by omega)]
  refine ⟨fun h1 => k z1 f1 (fun r c hr hc => ?_), fun h1 => ?_⟩
  · rw [m1 r c hr hc, if_pos (by omega)]
  · rw [mt_ix, mt_ix, i_cl (by omega), i_cl (by omega)]
    refine ⟨i_in (by omega) (by omega), fun v1 e1 => ⟨i_in (by omega) (by omega), i_in (by omega) (by omega), fun z2 e2 => ⟨i_in (by omega) (by omega), fun z3 e3 v4 e4 => ?_⟩⟩⟩
    rw [m1 i m hi (by omega), if_neg (by omega)] at e1
    rw [m1 q m hq (by omega), if_neg (by omega)] at e2
    rw [i_1, i_add] at e4
    have e6 : ∀ x, tq_al z3 17 x = if x = 32 * q + m then lN (M i m) else if x = 32 * i + m then lN (M q m) else tq_al z1 17 x := by
      intro x
      rw [e3, rw_ale, rw_updL, e2, rw_ale, rw_updL, e1]
    refine hB (by omega) _ ⟨z3, by rw [e4], by rw [e3]; refine fr_sal (by decide) ?_; rw [e2]; exact fr_sal (by decide) f1, fun r c hr hc => ?_⟩
    rw [e6]
    by_cases q1 : c = m
    · subst q1
      rw [if_pos (by omega : c < c + 1)]
      unfold swp
      by_cases q2 : r = q
      · subst q2
        rw [if_pos rfl, if_neg (by omega), if_pos rfl]
      · rw [if_neg (by omega)]
        by_cases q3 : r = i
        · subst q3; rw [if_pos rfl, if_pos rfl]
        · rw [if_neg (by omega), if_neg q3, if_neg q2, m1 r c hr hc, if_neg (by omega)]
    · rw [if_neg (by omega), if_neg (by omega), m1 r c hr hc]
      by_cases q2 : c < m
      · rw [if_pos q2, if_pos (by omega)]
      · rw [if_neg q2, if_neg (by omega)]
theorem dm_s {a b p : Nat} (ha : a < p) (hb : b < p) (hp : p ≤ 2147483647) : dm (lN a - lN b) p = (a + (p - b)) % p := by
  unfold dm
  have ta : (lN a).toInt = (a : Int) := pk_lT (by omega)
  have tb : (lN b).toInt = (b : Int) := pk_lT (by omega)
  rw [fb_subL (by rw [ta, tb]; omega) (by rw [ta, tb]; omega), ta, tb]
  have e : (a : Int) - b = ((a + (p - b) : Nat) : Int) + p * (-1) := by omega
  rw [e, Int.add_mul_emod_self_left]
  omega
theorem sq_clearBelow {i v : Nat} (hn : n ≤ 32) (hi : i < n) (hp1 : 1 < p) (hp : p ≤ 2147483647) (hv : v < p) (hm : mt n M z) (hM : ∀ r c, r < n → c < n → M r c < p) (k : ∀ z', fr [(3, 17)] z z' → mt n (clr p v i M) z' → Q (.inl none) z') : wm_X3_clearBelow (nI i) (nI n) (lN v) (lN p) z Q := by
  have mulb : ∀ x y, x < p → y < p → x * y < 9223372036854775808 := by
    intro x y hx hy
    have : x * y ≤ 2147483647 * 2147483647 := Nat.mul_le_mul (by omega) (by omega)
    omega
  have nz : ¬ lN p = 0 := by rw [l_z (by omega)]; omega
  unfold wm_X3_clearBelow
  intro v1 e1
  rw [i_1, i_add] at e1
  rw [e1]
  unfold wc_X3_clearBelow_5
  refine lp_inv (fun m s => ∃ z', s = (nI (i + 1 + m), z') ∧ fr [(3, 17)] z z' ∧ (∀ r c, r < n → c < n → tq_al z' 17 (32 * r + c) = lN (if r < i + 1 + m then clr p v i M r c else M r c))) (n - (i + 1)) ?_ ⟨z, rfl, fr_r, fun r c hr hc => ?_⟩
  rotate_left
  · rw [hm r c hr hc]
    by_cases q : r < i + 1 + 0
    · rw [if_pos q]; unfold clr; rw [if_neg (by omega)]
    · rw [if_neg q]
  rintro m s hm2 ⟨z1, rfl, f1, m1⟩ B hB
  simp only
  unfold wb_X3_clearBelow_5
  rw [i_le (by omega) (by omega)]
  refine ⟨fun h1 => k z1 f1 (fun r c hr hc => ?_), fun h1 => ?_⟩
  · rw [m1 r c hr hc, if_pos (by omega)]
  · obtain ⟨r0, hr0⟩ : ∃ r0, r0 = i + 1 + m := ⟨_, rfl⟩
    rw [← hr0] at m1 h1 ⊢
    have hB := hB (by omega)
    rw [mt_ix, i_cl (by omega), m1 r0 i (by omega) hi, if_neg (by omega)]
    have Mri := hM r0 i (by omega) hi
    refine ⟨i_in (by omega) (by omega), nz, fun v2 e2 => ?_⟩
    rw [l_mul, pk_lRem (mulb _ _ Mri hv) (by omega) (by omega)] at e2
    have flt : M r0 i * v % p < p := Nat.mod_lt _ (by omega)
    obtain ⟨f, hf⟩ : ∃ f, f = M r0 i * v % p := ⟨_, rfl⟩
    rw [← hf] at e2 flt
    rw [e2]
    have out : ∀ z2, fr [(3, 17)] z z2 → (∀ r c, r < n → c < n → tq_al z2 17 (32 * r + c) = lN (if r < r0 + 1 then clr p v i M r c else M r c)) → wc_X3_clearBelow_106 (fun b7 z => B (b7, z)) Q (nI i) (nI n) (lN v) (lN p) (nI r0) z2 := by
      intro z2 f2 m2
      unfold wc_X3_clearBelow_106
      intro v3 e3
      rw [i_1, i_add] at e3
      have e4 : r0 + 1 = i + 1 + (m + 1) := by omega
      rw [e4] at m2 e3
      exact hB _ ⟨z2, by rw [e3], f2, m2⟩
    unfold wc_X3_clearBelow_33
    refine lp_inv (fun x s => ∃ z', s = (nI (i + x), z') ∧ fr [(3, 17)] z z' ∧ (∀ r c, r < n → c < n → tq_al z' 17 (32 * r + c) = lN (if r < r0 ∨ (r = r0 ∧ c < i + x) then clr p v i M r c else M r c))) (n - i) ?_ ⟨z1, rfl, f1, fun r c hr hc => ?_⟩
    rotate_left
    · rw [m1 r c hr hc]
      by_cases q : r < r0
      · rw [if_pos q, if_pos (Or.inl q)]
      · rw [if_neg q]
        by_cases q2 : r = r0 ∧ c < i + 0
        · rw [if_pos (Or.inr q2)]; unfold clr; rw [if_neg (by omega)]
        · rw [if_neg (by omega)]
    rintro x s hx ⟨z2, rfl, f2, m2⟩ B2 hB2
    simp only
    unfold wb_X3_clearBelow_33
    rw [i_le (by omega) (by omega)]
    refine ⟨fun h2 => out z2 f2 (fun r c hr hc => ?_), fun h2 => ⟨fun h3 => out z2 f2 (fun r c hr hc => ?_), fun h3 => ?_⟩⟩
    · rw [m2 r c hr hc]
      by_cases q : r < r0 + 1
      · rw [if_pos q, if_pos (by omega)]
      · rw [if_neg q, if_neg (by omega)]
    · rw [l_z (by omega)] at h3
      rw [m2 r c hr hc]
      by_cases q : r < r0
      · rw [if_pos (Or.inl q), if_pos (by omega)]
      · by_cases q2 : r = r0
        · rw [if_pos (by omega : r < r0 + 1)]
          by_cases q3 : c < i + x
          · rw [if_pos (Or.inr ⟨q2, q3⟩)]
          · rw [if_neg (by omega)]
            unfold clr
            rw [if_pos (by omega), q2, ← hf, h3, Nat.zero_mul, Nat.zero_mod, Nat.sub_zero, Nat.add_mod_right, Nat.mod_eq_of_lt (hM r0 c (by omega) hc)]
        · rw [if_neg (by omega), if_neg (by omega)]
    · have Mi := hM i (i + x) hi (by omega)
      have Mr := hM r0 (i + x) (by omega) (by omega)
      rw [mt_ix, mt_ix, i_cl (by omega), i_cl (by omega), m2 i (i + x) hi (by omega), m2 r0 (i + x) (by omega) (by omega), if_pos (Or.inl (by omega)), if_neg (by omega)]
      have ci : clr p v i M i (i + x) = M i (i + x) := by unfold clr; rw [if_neg (by omega)]
      rw [ci]
      refine ⟨i_in (by omega) (by omega), nz, fun v3 e3 => ⟨i_in (by omega) (by omega), ?_⟩⟩
      rw [l_mul, pk_lRem (mulb _ _ flt Mi) (by omega) (by omega)] at e3
      rw [e3]
      refine sp_fmod (by omega) (by omega) ⟨_, rfl, i_in (by omega) (by omega), fun z4 e4 v5 e5 => ?_⟩
      rw [i_1, i_add] at e5
      rw [dm_s Mr (Nat.mod_lt _ (by omega)) hp] at e4
      refine hB2 (by omega) _ ⟨z4, by rw [e5]; rfl, by rw [e4]; exact fr_sal (by decide) f2, fun r c hr hc => ?_⟩
      rw [e4, rw_ale, rw_updL]
      by_cases q : r = r0 ∧ c = i + x
      · rw [if_pos (by omega), if_pos (by omega), q.1, q.2]
        unfold clr
        rw [if_pos (by omega), ← hf]
      · rw [if_neg (by omega), m2 r c hr hc]
        by_cases q2 : r < r0 ∨ (r = r0 ∧ c < i + x)
        · rw [if_pos q2, if_pos (by omega)]
        · rw [if_neg q2, if_neg (by omega)]
theorem sq_eliminate (R : Nat → Nat → (Nat → Nat → Nat) → Prop) (hn : n ≤ 32) (hp1 : 2 < p) (hp : p ≤ 2147483647) (hm : mt n M z) (hM : ∀ r c, r < n → c < n → M r c < p) (h0 : R 0 1 M)
    (hs : ∀ m res M', m < n → R m res M' → res < p → (∀ r c, r < n → c < n → M' r c < p) → ∀ q, m ≤ q → q < n → M' q m ≠ 0 → (∀ r, m ≤ r → r < q → M' r m = 0) → R (m + 1) ((if q = m then res else p - res) * (if q = m then M' else swp m q M') m m % p) (clr p (inv ((if q = m then M' else swp m q M') m m) p) m (if q = m then M' else swp m q M')))
    (k0 : ∀ m res M' z', m < n → R m res M' → (∀ r c, r < n → c < n → M' r c < p) → (∀ r, m ≤ r → r < n → M' r m = 0) → fr [(3, 17)] z z' → Q (.inl (some (.long (lN 0)))) z')
    (k1 : ∀ res M' z', R n res M' → res < p → (∀ r c, r < n → c < n → M' r c < p) → fr [(3, 17)] z z' → Q (.inl (some (.long (lN res)))) z') : wm_X3_eliminate (nI n) (lN p) z Q := by
  have nz : ¬ lN p = 0 := by rw [l_z (by omega)]; omega
  unfold wm_X3_eliminate wc_X3_eliminate_6
  refine lp_inv (fun m s => ∃ res M' z', s = (lN res, nI m, z') ∧ fr [(3, 17)] z z' ∧ mt n M' z' ∧ (∀ r c, r < n → c < n → M' r c < p) ∧ res < p ∧ R m res M') n ?_ ⟨1, M, z, rfl, fr_r, hm, hM, by omega, h0⟩
  rintro m s hm2 ⟨res, M', z1, rfl, f1, m1, M1, r1, R1⟩ B hB
  simp only
  unfold wb_X3_eliminate_6
  rw [i_le (by omega) (by omega)]
  refine ⟨fun h1 => ?_, fun h1 => ?_⟩
  · have : m = n := by omega
    subst this
    exact k1 res M' z1 R1 r1 M1 f1
  · have hmn : m < n := by omega
    have hB := hB hmn
    refine sq_pivotOf hn hmn m1 (fun r c hr hc => Nat.lt_trans (M1 r c hr hc) (by omega)) (fun z0 => ⟨_, rfl, fun q => absurd q (by decide +kernel), fun _ => k0 m res M' z1 hmn R1 M1 z0 f1⟩) (fun q hq1 hq2 hq3 hq4 => ⟨_, rfl, fun _ => ?_, fun q2 => absurd (show (0 : Int32) ≤ nI q by rw [i_0, i_le (by omega) (by omega)]; omega) q2⟩)
    have R2 := hs m res M' hmn R1 r1 M1 q hq1 hq2 hq3 hq4
    have go : ∀ N rr z2, rr ≤ p → mt n N z2 → (∀ r c, r < n → c < n → N r c < p) → fr [(3, 17)] z z2 → R (m + 1) (rr * N m m % p) (clr p (inv (N m m) p) m N) → wc_X3_eliminate_50 (fun b4 b6 z => B (b4, b6, z)) Q (nI n) (lN p) (lN rr) (nI m) z2 := by
      intro N rr z2 hrr m2 N2 f2 R3
      have Nmm := N2 m m hmn hmn
      have mb : rr * N m m < 9223372036854775808 := by
        have : rr * N m m ≤ 2147483647 * 2147483647 := Nat.mul_le_mul (by omega) (by omega)
        omega
      unfold wc_X3_eliminate_50
      rw [mt_ix, i_cl (by omega), m2 m m hmn hmn]
      refine ⟨i_in (by omega) (by omega), fun v1 e1 => ⟨nz, fun v2 e2 => ?_⟩⟩
      rw [e1] at e2 ⊢
      rw [l_mul, pk_lRem mb (by omega) (by omega)] at e2
      refine sq_inverse (by omega) hp1 hp ⟨_, rfl, ?_⟩
      refine sq_clearBelow hn hmn (by omega) hp (inv_lt (by omega)) m2 N2 (fun z3 f3 m3 => ⟨rfl, fun v4 e4 => ?_⟩)
      rw [i_1, i_add] at e4
      refine hB _ ⟨_, _, z3, by rw [e2, e4], fr_t f2 f3, m3, fun r c hr hc => ?_, Nat.mod_lt _ (by omega), R3⟩
      unfold clr
      split
      · exact Nat.mod_lt _ (by omega)
      · exact N2 r c hr hc
    by_cases qm : q = m
    · rw [if_pos qm, if_pos qm] at R2
      refine ⟨fun _ => go M' res z1 (by omega) m1 M1 f1 R2, fun h3 => absurd (by rw [qm]) h3⟩
    · rw [if_neg qm, if_neg qm] at R2
      refine ⟨fun h3 => absurd ((i_eq (by omega) (by omega)).mp h3) qm, fun _ => ?_⟩
      refine sq_swapRows hn hmn hq2 (fun e => qm e.symm) m1 (fun z2 f2 m2 => ⟨rfl, fun v4 e4 => ?_⟩)
      rw [l_sub (by omega)] at e4
      rw [e4]
      refine go (swp m q M') (p - res) z2 (by omega) m2 (fun r c hr hc => ?_) (fr_t f1 f2) R2
      unfold swp
      split
      · exact M1 _ _ hq2 hc
      · split
        · exact M1 _ _ hmn hc
        · exact M1 _ _ hr hc
end POWER
