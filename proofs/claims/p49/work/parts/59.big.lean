/-! ===== big numbers: digits to the base of a billion ===== -/
def nd (n : Nat) : Nat := if n = 0 then 0 else nd (n / 1000000000) + 1
termination_by n
decreasing_by omega
theorem nd_0 : nd 0 = 0 := by rw [nd, if_pos rfl]
theorem nd_s {n : Nat} (h : n ≠ 0) : nd n = nd (n / 1000000000) + 1 := by rw [nd, if_neg h]
theorem nd_u : ∀ (k n : Nat), n < 1000000000 ^ k → (k = 0 ∨ 1000000000 ^ (k - 1) ≤ n) → nd n = k
  | 0, n, h, _ => by
    have : n = 0 := by rw [Nat.pow_zero] at h; omega
    rw [this, nd_0]
  | k + 1, n, h, h2 => by
    have h2 : 1000000000 ^ k ≤ n := by
      rcases h2 with q | q
      · omega
      · exact q
    have hp : 0 < 1000000000 ^ k := Nat.pow_pos (by omega)
    rw [nd_s (by omega)]
    congr 1
    rw [Nat.pow_succ] at h
    refine nd_u k _ ?_ ?_
    · omega
    · cases k with
      | zero => exact Or.inl rfl
      | succ k =>
        refine Or.inr ?_
        rw [Nat.pow_succ] at h2
        show 1000000000 ^ k ≤ _
        omega
theorem nd_lt : ∀ (m n : Nat), n < m → n < 1000000000 ^ nd n
  | 0, _, h => by omega
  | m + 1, n, h => by
    by_cases q : n = 0
    · rw [q, nd_0]; decide
    · rw [nd_s q, Nat.pow_succ]
      have := nd_lt m (n / 1000000000) (by omega)
      omega
theorem nd_b (n : Nat) : n < 1000000000 ^ nd n := nd_lt (n + 1) n (by omega)
theorem nd_ge {n : Nat} (h : n ≠ 0) : 1000000000 ^ (nd n - 1) ≤ n := by
  have key : ∀ m n, n < m → n ≠ 0 → 1000000000 ^ (nd n - 1) ≤ n := by
    intro m
    induction m with
    | zero => intro n hn; omega
    | succ m ih =>
      intro n hn h0
      rw [nd_s h0]
      show 1000000000 ^ nd (n / 1000000000) ≤ n
      by_cases q : n / 1000000000 = 0
      · rw [q, nd_0, Nat.pow_zero]; omega
      · have := ih (n / 1000000000) (by omega) q
        have e : nd (n / 1000000000) = (nd (n / 1000000000) - 1) + 1 := by rw [nd_s q]; omega
        rw [e, Nat.pow_succ]
        omega
  exact key (n + 1) n (by omega) h
theorem nd_pos {n : Nat} : 0 < nd n ↔ n ≠ 0 := by
  constructor
  · intro h q; rw [q, nd_0] at h; omega
  · intro h; rw [nd_s h]; omega
theorem nd_le {n k : Nat} (h : n < 1000000000 ^ k) : nd n ≤ k := by
  by_cases q : n = 0
  · rw [q, nd_0]; omega
  · have h1 := nd_ge q
    have h2 : 1000000000 ^ (nd n - 1) < 1000000000 ^ k := Nat.lt_of_le_of_lt h1 h
    have h3 := (Nat.pow_lt_pow_iff_right (a := 1000000000) (by omega)).mp h2
    omega
theorem nd_sp {n u : Nat} (h : u = 0 ∨ 1000000000 ^ (u - 1) ≤ n) : nd n = u + nd (n / 1000000000 ^ u) := by
  by_cases q : n / 1000000000 ^ u = 0
  · rw [q, nd_0, Nat.add_zero]
    refine nd_u u n ?_ h
    have := Nat.div_add_mod n (1000000000 ^ u)
    rw [q, Nat.mul_zero, Nat.zero_add] at this
    rw [← this]
    exact Nat.mod_lt _ (Nat.pow_pos (by omega))
  · have h1 := nd_b (n / 1000000000 ^ u)
    have h2 := nd_ge q
    have hp : 0 < 1000000000 ^ u := Nat.pow_pos (by omega)
    have h0 := nd_pos.mpr q
    refine nd_u _ n ?_ (Or.inr ?_)
    · rw [Nat.pow_add, Nat.mul_comm]
      exact (Nat.div_lt_iff_lt_mul hp).mp h1
    · have e : u + nd (n / 1000000000 ^ u) - 1 = u + (nd (n / 1000000000 ^ u) - 1) := by omega
      rw [e, Nat.pow_add, Nat.mul_comm]
      exact (Nat.le_div_iff_mul_le hp).mp h2
theorem dl_lt (n k : Nat) : dl n k < 1000000000 := Nat.mod_lt _ (by omega)
theorem dl_nd (n : Nat) : bnum (dl n) (nd n) = n := by
  unfold bnum
  rw [up_dl, Nat.pow_zero, Nat.div_one]
  exact Nat.mod_eq_of_lt (nd_b n)
theorem dl_div (n k : Nat) : n / 1000000000 ^ k = 1000000000 * (n / 1000000000 ^ (k + 1)) + dl n k := by
  unfold dl
  rw [Nat.pow_succ, ← Nat.div_div_eq_div_mul]
  omega
/-- a number of the class: its digits -/
def bw (n : Nat) (z : tq_S) : Prop := nd n ≤ 34 ∧ tq_fi z 2945 = nI (nd n) ∧ ∀ i, i < nd n → tq_ai z 47 i = nI (dl n i)
section BIG
variable {z : tq_S} {Q : tq_O → tq_S → Prop} {n : Nat}
theorem bw_bn (h : bw n z) : bn (dl n) (nd n) z := ⟨h.1, h.2.1, fun i hi => ⟨h.2.2 i hi, dl_lt n i⟩⟩
theorem bw_f {F : List (Nat × Nat)} {z1 : tq_S} (f : fr F z z1) (h1 : (0, 2945) ∉ F) (h2 : (2, 47) ∉ F) (h : bw n z) : bw n z1 := ⟨h.1, by rw [fr_fi f h1]; exact h.2.1, fun i hi => by rw [fr_ai f h2]; exact h.2.2 i hi⟩
/-- limbs are put behind those that there are, just so many as the carry has -/
theorem sq_addL {c u : Nat} {D : Nat → Nat} (hc : c < 9223372036854775808) (hu : u + nd c ≤ 34) (h1 : tq_fi z 2945 = nI u) (h2 : ∀ i, i < u → tq_ai z 47 i = nI (D i)) (k : ∀ z', fr [(0, 2945), (2, 47)] z z' → tq_fi z' 2945 = nI (u + nd c) → (∀ i, i < u → tq_ai z' 47 i = nI (D i)) → (∀ i, i < nd c → tq_ai z' 47 (u + i) = nI (dl c i)) → Q (.inl none) z') : wm_X0_addLimbs (lN c) z Q := by
  have n3 : nd c ≤ 3 := nd_le (by
    have : (1000000000 : Nat) ^ 3 = 1000000000000000000000000000 := by decide
    omega)
  unfold wm_X0_addLimbs wc_X0_addLimbs_5
  refine lp_inv (fun m s => m ≤ nd c ∧ ∃ z', s = (lN (c / 1000000000 ^ m), nI m, z') ∧ fr [(0, 2945), (2, 47)] z z' ∧ tq_fi z' 2945 = nI (u + m) ∧ (∀ i, i < u → tq_ai z' 47 i = nI (D i)) ∧ ∀ i, i < m → tq_ai z' 47 (u + i) = nI (dl c i)) 3 ?_ ⟨Nat.zero_le _, z, by rw [Nat.pow_zero, Nat.div_one]; rfl, fr_r, h1, h2, fun i hi => by omega⟩
  rintro m s hm ⟨hm2, z1, rfl, f1, a1, a2, a3⟩ B hB
  simp only
  have clt : c / 1000000000 ^ m < 9223372036854775808 := Nat.lt_of_le_of_lt (Nat.div_le_self _ _) hc
  have iff0 : c / 1000000000 ^ m = 0 ↔ m = nd c := by
    constructor
    · intro e
      have : nd c ≤ m := nd_le (by
        have h3 := Nat.div_add_mod c (1000000000 ^ m)
        rw [e, Nat.mul_zero, Nat.zero_add] at h3
        rw [← h3]
        exact Nat.mod_lt _ (Nat.pow_pos (by omega)))
      omega
    · intro e
      rw [e]
      exact Nat.div_eq_of_lt (nd_b c)
  have fin : m = nd c → Q (.inl none) z1 := by
    intro e
    subst e
    exact k z1 f1 a1 a2 a3
  unfold wb_X0_addLimbs_5
  rw [i_3]
  refine ⟨fun h1 => ?_, fun h1 => ⟨fun h2 => ?_, fun h2 => ⟨fun h3 => ?_, fun h3 => ?_⟩⟩⟩
  · rw [i_le (by omega) (by omega)] at h1
    exact fin (by omega)
  · rw [l_le0 clt] at h2
    exact fin (iff0.mp h2)
  · rw [l_le0 clt, iff0] at h2
    rw [a1, show (34 : Int32) = nI 34 from rfl, i_le (by omega) (by omega)] at h3
    omega
  · rw [l_le0 clt, iff0] at h2
    rw [a1]
    refine ⟨i_in (by omega) (by omega), fun z2 e2 v e3 z3 e4 v4 e5 => ?_⟩
    rw [i_cl (by omega), show (1000000000 : Int64) = lN 1000000000 from rfl, pk_lRem (by omega) (by omega) (by omega), l_t32] at e2
    rw [show (1000000000 : Int64) = lN 1000000000 from rfl, pk_lDiv (by omega) (by omega) (by omega), Nat.div_div_eq_div_mul, ← Nat.pow_succ] at e3
    have q2 : tq_fi z2 2945 = nI (u + m) := by rw [e2]; exact a1
    rw [q2, i_1, i_add] at e4
    rw [i_1, i_add] at e5
    subst e3; subst e5
    have e6 : ∀ i, tq_ai z3 47 i = if i = u + m then nI (dl c m) else tq_ai z1 47 i := by
      intro i
      rw [e4]
      show tq_ai z2 47 i = _
      rw [e2, rw_aie, rw_upd]; rfl
    refine hB (by rw [i_le (by omega) (by omega)] at h1; omega) _ ⟨by omega, z3, rfl, ?_, ?_, fun i hi => ?_, fun i hi => ?_⟩
    · rw [e4]; refine fr_sfi (by decide) ?_; rw [e2]; exact fr_sai (by decide) f1
    · rw [e4, rw_fie]; rfl
    · rw [e6, if_neg (by omega)]; exact a2 i hi
    · rw [e6]
      by_cases q : i = m
      · rw [if_pos (by omega), q]
      · rw [if_neg (by omega)]; exact a3 i (by omega)
theorem sq_putW {c : Nat} (hc : c < 9223372036854775808) (k : ∀ z', fr [(0, 2945), (0, 2946), (2, 47)] z z' → bw c z' → tq_fi z' 2946 = 0 → Q (.inl none) z') : wm_X0_put (lN c) z Q := by
  have n3 : nd c ≤ 3 := nd_le (by
    have : (1000000000 : Nat) ^ 3 = 1000000000000000000000000000 := by decide
    omega)
  have c0 : (0 : Int64) ≤ lN c := by
    rw [show (0 : Int64) = lN 0 from rfl, pk_lLE (by omega) (by omega)]; omega
  unfold wm_X0_put
  refine ⟨fun _ => ?_, fun q => absurd c0 q⟩
  unfold wc_X0_put_12
  refine ⟨Or.inl rfl, fun z1 e1 z2 e2 => ?_⟩
  refine sp_absl ⟨_, rfl, ?_⟩
  rw [if_pos c0]
  have f2 : fr [(0, 2945), (0, 2946), (2, 47)] z z2 := by rw [e2]; refine fr_sfi (by decide) ?_; rw [e1]; exact fr_sfi (by decide) fr_r
  refine sq_addL (u := 0) (D := fun _ => 0) hc (by omega) (by rw [e2]; rfl) (fun i hi => by omega) (fun z3 f3 a1 a2 a3 => ⟨rfl, ?_⟩)
  refine k z3 (fr_t f2 (fr_m (by decide) f3)) ⟨by omega, by rw [a1, Nat.zero_add], fun i hi => by have := a3 i hi; rw [Nat.zero_add] at this; exact this⟩ ?_
  rw [fr_fi f3 (by decide), e2]
  show tq_fi z1 2946 = 0
  rw [e1]; rfl
theorem tp_s {N f c i : Nat} : (N / 1000000000 ^ i % 1000000000) * f + (N % 1000000000 ^ i * f + c) / 1000000000 ^ i = (N % 1000000000 ^ (i + 1) * f + c) / 1000000000 ^ i := by
  have hp : 0 < 1000000000 ^ i := Nat.pow_pos (by omega)
  have e : N % 1000000000 ^ (i + 1) = N % 1000000000 ^ i + 1000000000 ^ i * (N / 1000000000 ^ i % 1000000000) := by
    rw [Nat.pow_succ, Nat.mod_mul]
  rw [e, Nat.add_mul, Nat.mul_assoc, Nat.add_right_comm, Nat.add_mul_div_left _ _ hp, Nat.add_comm]
theorem tp_d {N f c i : Nat} : (N % 1000000000 ^ (i + 1) * f + c) / 1000000000 ^ i % 1000000000 = dl (N * f + c) i := by
  have hp : 0 < 1000000000 ^ i := Nat.pow_pos (by omega)
  unfold dl
  have e : N * f + c = N % 1000000000 ^ (i + 1) * f + c + 1000000000 ^ i * (1000000000 * (N / 1000000000 ^ (i + 1) * f)) := by
    have h := Nat.div_add_mod N (1000000000 ^ (i + 1))
    have : N * f = (1000000000 ^ (i + 1) * (N / 1000000000 ^ (i + 1)) + N % 1000000000 ^ (i + 1)) * f := by rw [h]
    rw [this, Nat.add_mul, Nat.pow_succ, ← Nat.mul_assoc (1000000000 ^ i), Nat.mul_assoc (1000000000 ^ i * 1000000000)]
    omega
  rw [e, Nat.add_mul_div_left _ _ hp, Nat.add_mul_mod_self_left]
theorem tp_b {N f c i : Nat} (hf : f ≤ 2147483647) (hc : c ≤ 2147483647) : (N % 1000000000 ^ i * f + c) / 1000000000 ^ i ≤ 2147483648 + 2147483647 := by
  have hp : 0 < 1000000000 ^ i := Nat.pow_pos (by omega)
  have h1 : N % 1000000000 ^ i < 1000000000 ^ i := Nat.mod_lt _ hp
  have h2 : N % 1000000000 ^ i * f ≤ 1000000000 ^ i * 2147483647 := Nat.mul_le_mul (by omega) hf
  have h3 : N % 1000000000 ^ i * f + c ≤ 1000000000 ^ i * 4294967294 := by
    have : 1 * 2147483647 ≤ 1000000000 ^ i * 2147483647 := Nat.mul_le_mul hp (Nat.le_refl _)
    omega
  have h4 := Nat.div_le_div_right (c := 1000000000 ^ i) h3
  rw [Nat.mul_div_cancel_left _ hp] at h4
  omega
theorem sq_timesP {f c : Nat} (hf : f ≤ 2147483647) (hf0 : 0 < f) (hc : c ≤ 2147483647) (hb : bw n z) (hN : n * f + c < 1000000000 ^ 34) (k : ∀ z', fr [(0, 2945), (2, 47)] z z' → bw (n * f + c) z' → Q (.inl none) z') : wm_X0_timesPlus (lN f) (lN c) z Q := by
  obtain ⟨b1, b2, b3⟩ := hb
  have big : nd n = 0 ∨ 1000000000 ^ (nd n - 1) ≤ n * f + c := by
    by_cases q : n = 0
    · exact Or.inl (by rw [q, nd_0])
    · have := nd_ge q
      have h2 : n * 1 ≤ n * f := Nat.mul_le_mul_left n hf0
      exact Or.inr (by omega)
  have spl := nd_sp big
  have le34 := nd_le hN
  unfold wm_X0_timesPlus wc_X0_timesPlus_6
  refine lp_inv (fun i s => ∃ z', s = (lN ((n % 1000000000 ^ i * f + c) / 1000000000 ^ i), nI i, z') ∧ fr [(0, 2945), (2, 47)] z z' ∧ tq_fi z' 2945 = nI (nd n) ∧ (∀ j, j < i → tq_ai z' 47 j = nI (dl (n * f + c) j)) ∧ ∀ j, i ≤ j → j < nd n → tq_ai z' 47 j = nI (dl n j)) (nd n) ?_ ⟨z, by rw [Nat.pow_zero, Nat.div_one, Nat.mod_one, Nat.zero_mul, Nat.zero_add]; rfl, fr_r, b2, fun j hj => by omega, fun j _ hj => b3 j hj⟩
  rintro i s hi ⟨z1, rfl, f1, a1, a2, a3⟩ B hB
  simp only
  have cb := tp_b (N := n) (f := f) (c := c) (i := i) hf hc
  unfold wb_X0_timesPlus_6
  rw [a1]
  refine ⟨fun h1 => ?_, fun h1 => ?_⟩
  · rw [i_le (by omega) (by omega)] at h1
    have : i = nd n := by omega
    subst this
    have e1 : n % 1000000000 ^ nd n = n := Nat.mod_eq_of_lt (nd_b n)
    unfold wc_X0_timesPlus_58
    rw [e1] at cb ⊢
    refine sq_addL (u := nd n) (D := dl (n * f + c)) (by omega) (by omega) a1 a2 (fun z2 f2 q1 q2 q3 => ⟨rfl, ?_⟩)
    refine k z2 (fr_t f1 f2) ⟨le34, by rw [q1, spl], fun j hj => ?_⟩
    by_cases q : j < nd n
    · exact q2 j q
    · have := q3 (j - nd n) (by omega)
      have e2 : nd n + (j - nd n) = j := by omega
      rw [e2] at this
      rw [this]
      unfold dl
      rw [Nat.div_div_eq_div_mul, ← Nat.pow_add, e2]
  · rw [i_le (by omega) (by omega)] at h1
    refine ⟨i_in (by omega) (by omega), fun v1 e1 => ⟨i_in (by omega) (by omega), fun z2 e2 v3 e3 v4 e4 => ?_⟩⟩
    have d1 : n / 1000000000 ^ i % 1000000000 < 1000000000 := Nat.mod_lt _ (by omega)
    have e1 : v1 = lN ((n % 1000000000 ^ (i + 1) * f + c) / 1000000000 ^ i) := by
      rw [e1, i_cl (by omega), a3 i (Nat.le_refl _) (by omega), i_to (Nat.lt_trans (dl_lt n i) (by omega)), l_mul, l_add]
      unfold dl
      rw [tp_s]
    have vb : (n % 1000000000 ^ (i + 1) * f + c) / 1000000000 ^ i < 9223372036854775808 := by
      rw [← tp_s]
      have : n / 1000000000 ^ i % 1000000000 * f ≤ 1000000000 * 2147483647 := Nat.mul_le_mul (by omega) hf
      omega
    rw [e1, show (1000000000 : Int64) = lN 1000000000 from rfl, pk_lDiv vb (by omega) (by omega), Nat.div_div_eq_div_mul, ← Nat.pow_succ] at e3
    rw [i_1, i_add] at e4
    have e6 : ∀ j, tq_ai z2 47 j = if j = i then nI (dl (n * f + c) i) else tq_ai z1 47 j := by
      intro j
      rw [e2, rw_aie, rw_upd, i_cl (by omega), e1, show (1000000000 : Int64) = lN 1000000000 from rfl, pk_lRem vb (by omega) (by omega), l_t32, tp_d]
    refine hB (by omega) _ ⟨z2, by rw [e3, e4], by rw [e2]; exact fr_sai (by decide) f1, by rw [e2]; exact a1, fun j hj => ?_, fun j h3 h4 => ?_⟩
    · rw [e6]
      by_cases q : j = i
      · rw [if_pos q, q]
      · rw [if_neg q]; exact a2 j (by omega)
    · rw [e6, if_neg (by omega)]; exact a3 j (by omega) h4
theorem dv_s {N d j : Nat} (hd : 0 < d) : ((N / 1000000000 ^ (j + 1) % d) * 1000000000 + dl N j) / d = dl (N / d) j ∧ ((N / 1000000000 ^ (j + 1) % d) * 1000000000 + dl N j) % d = N / 1000000000 ^ j % d := by
  have h1 := dl_div N j
  have h2 := Nat.div_add_mod (N / 1000000000 ^ (j + 1)) d
  have h3 : N / 1000000000 ^ j = d * (1000000000 * (N / 1000000000 ^ (j + 1) / d)) + ((N / 1000000000 ^ (j + 1) % d) * 1000000000 + dl N j) := by
    rw [h1, ← Nat.mul_assoc, Nat.mul_comm d 1000000000, Nat.mul_assoc]
    have : 1000000000 * (N / 1000000000 ^ (j + 1)) = 1000000000 * (d * (N / 1000000000 ^ (j + 1) / d) + N / 1000000000 ^ (j + 1) % d) := by rw [h2]
    omega
  have h4 : dl (N / d) j = N / 1000000000 ^ j / d % 1000000000 := by
    unfold dl
    rw [Nat.div_div_eq_div_mul, Nat.div_div_eq_div_mul, Nat.mul_comm]
  have h5 : N % d < d := Nat.mod_lt _ hd
  have h6 : N / 1000000000 ^ (j + 1) % d < d := Nat.mod_lt _ hd
  have h7 := dl_lt N j
  have h8 : ((N / 1000000000 ^ (j + 1) % d) * 1000000000 + dl N j) / d < 1000000000 := by
    rw [Nat.div_lt_iff_lt_mul hd]
    have : (N / 1000000000 ^ (j + 1) % d + 1) * 1000000000 ≤ d * 1000000000 := Nat.mul_le_mul_right _ h6
    rw [Nat.mul_comm 1000000000 d]
    omega
  refine ⟨?_, ?_⟩
  · rw [h4, h3, Nat.mul_add_div hd, Nat.mul_add_mod, Nat.mod_eq_of_lt h8]
  · rw [h3, Nat.mul_add_mod]
theorem sq_divide {d : Nat} (hd : 0 < d) (hd2 : d < 2147483648) (hb : bw n z) (k : ∀ z', fr [(0, 2945), (2, 47)] z z' → bw (n / d) z' → Q (.inl none) z') : wm_X0_divideBy (nI d) z Q := by
  obtain ⟨b1, b2, b3⟩ := hb
  have i0 : (0 : Int32) < nI d := by rw [i_0, i_lt (by omega) hd2]; exact hd
  unfold wm_X0_divideBy
  refine ⟨fun _ v1 e1 => ?_, fun q => absurd i0 q⟩
  rw [b2] at e1
  unfold wc_X0_divideBy_18
  refine lp_inv (fun m s => ∃ z', s = (lN (n / 1000000000 ^ (nd n - m) % d), nI (if n / d / 1000000000 ^ (nd n - m) = 0 then 0 else nd (n / d)), (if m < nd n then nI (nd n - 1 - m) else -1 : Int32), z') ∧ fr [(0, 2945), (2, 47)] z z' ∧ tq_fi z' 2945 = nI (nd n) ∧ (∀ j, nd n - m ≤ j → j < nd n → tq_ai z' 47 j = nI (dl (n / d) j)) ∧ ∀ j, j < nd n - m → tq_ai z' 47 j = nI (dl n j)) (nd n) ?_ ⟨z, ?_, fr_r, b2, fun j h1 h2 => by omega, fun j hj => b3 j (by omega)⟩
  rotate_left
  · have q1 : n / 1000000000 ^ (nd n - 0) = 0 := Nat.div_eq_of_lt (nd_b n)
    have q2 : n / d / 1000000000 ^ (nd n - 0) = 0 := Nat.div_eq_of_lt (Nat.lt_of_le_of_lt (Nat.div_le_self _ _) (nd_b n))
    rw [q1, if_pos q2, Nat.zero_mod, e1]
    by_cases q : 0 < nd n
    · rw [if_pos q, i_1, pk_sub q]; rfl
    · have q3 : nd n = 0 := by omega
      rw [if_neg q, q3]; rfl
  rintro m s hm ⟨z1, rfl, f1, a1, a2, a3⟩ B hB
  simp only
  unfold wb_X0_divideBy_18
  by_cases hmu : m < nd n
  · rw [if_pos hmu]
    refine ⟨fun h1 => absurd h1 (i_n0 (by omega)), fun _ => ?_⟩
    have hB := hB hmu
    obtain ⟨j, hj⟩ : ∃ j, nd n - m = j + 1 := ⟨nd n - m - 1, by omega⟩
    have hj2 : nd n - 1 - m = j := by omega
    have hj3 : nd n - (m + 1) = j := by omega
    rw [hj2, hj] at *
    rw [hj3] at hB
    have ds := dv_s (N := n) (j := j) hd
    have r1 : n / 1000000000 ^ (j + 1) % d < d := Nat.mod_lt _ hd
    have r2 := dl_lt n j
    have dlt := dl_lt (n / d) j
    have dn0 : ¬ (Int32.toInt64 (nI d)) = 0 := by
      rw [i_to hd2, l_z (by omega)]; omega
    refine ⟨i_in (by omega) (by omega), fun v2 e2 => ⟨dn0, i_in (by omega) (by omega), fun z2 e3 => ⟨dn0, fun v3 e4 => ?_⟩⟩⟩
    rw [i_cl (by omega), a3 j (by omega), i_to (Nat.lt_trans (dl_lt n j) (by omega)), show (1000000000 : Int64) = lN 1000000000 from rfl, l_mul, l_add] at e2
    have vb : n / 1000000000 ^ (j + 1) % d * 1000000000 + dl n j < 9223372036854775808 := by omega
    rw [e2, i_cl (by omega), i_to hd2, pk_lDiv vb hd (by omega), l_t32, ds.1] at e3
    rw [e2, i_to hd2, pk_lRem vb hd (by omega), ds.2] at e4
    have e6 : ∀ x, tq_ai z2 47 x = if x = j then nI (dl (n / d) j) else tq_ai z1 47 x := by
      intro x; rw [e3, rw_aie, rw_upd]
    have dd := dl_div (n / d) j
    have fin : ∀ t : Nat, t = (if n / d / 1000000000 ^ j = 0 then 0 else nd (n / d)) → wc_X0_divideBy_79 (fun b2 b4 b5 z => B (b2, b4, b5, z)) Q (nI d) v3 (nI t) (nI j) z2 := by
      intro t ht
      unfold wc_X0_divideBy_79
      intro v5 e5
      refine hB _ ⟨z2, ?_, by rw [e3]; exact fr_sai (by decide) f1, by rw [e3]; exact a1, fun x h1 h2 => ?_, fun x h1 => ?_⟩
      · rw [e4, e5, ht]
        by_cases q : m + 1 < nd n
        · rw [if_pos q, i_m1 (by omega)]
          have : j - 1 = nd n - 1 - (m + 1) := by omega
          rw [this]
        · rw [if_neg q]
          have : j = 0 := by omega
          rw [this]; rfl
      · rw [e6]
        by_cases q : x = j
        · rw [if_pos q, q]
        · rw [if_neg q]; exact a2 x (by omega) h2
      · rw [e6, if_neg (by omega)]; exact a3 x (by omega)
    have tb : nd (n / d) ≤ 34 := nd_le (Nat.lt_of_le_of_lt (Nat.div_le_self _ _) (Nat.lt_of_lt_of_le (nd_b n) (Nat.pow_le_pow_right (by omega) b1)))
    have z20 : (nI (if n / d / 1000000000 ^ (j + 1) = 0 then 0 else nd (n / d)) = (0 : Int32)) ↔ n / d / 1000000000 ^ (j + 1) = 0 := by
      by_cases q : n / d / 1000000000 ^ (j + 1) = 0
      · rw [if_pos q]; exact ⟨fun _ => q, fun _ => rfl⟩
      · rw [if_neg q, i_0, i_eq (by omega) (by omega)]
        have : n / d ≠ 0 := fun e => q (by rw [e, Nat.zero_div])
        have := nd_pos.mpr this
        exact ⟨fun e => by omega, fun e => absurd e q⟩
    rw [z20]
    refine ⟨fun h2 => fin _ ?_, fun h2 => ⟨i_in (by omega) (by omega), ?_⟩⟩
    · rw [if_neg h2, if_neg (by omega)]
    · rw [i_cl (by omega), e6, if_pos rfl, i_0, i_eq (by omega) (by omega), if_pos h2]
      rw [h2, Nat.mul_zero, Nat.zero_add] at dd
      refine ⟨fun h3 => fin 0 ?_, fun h3 v6 e7 => ?_⟩
      · rw [dd, if_pos h3]
      · rw [i_1, i_add] at e7
        rw [e7]
        refine fin (j + 1) ?_
        rw [dd, if_neg h3]
        have ge := nd_sp (n := n / d) (u := j) (by
          cases j with
          | zero => exact Or.inl rfl
          | succ j =>
            refine Or.inr ?_
            show 1000000000 ^ j ≤ n / d
            have p0 : 0 < 1000000000 ^ (j + 1) := Nat.pow_pos (by omega)
            have := (Nat.le_div_iff_mul_le (k := 1000000000 ^ (j + 1)) (x := 1) (y := n / d) p0).mp (by omega)
            rw [Nat.pow_succ] at this
            omega)
        rw [ge, dd]
        congr 1
        refine (nd_u 1 _ ?_ (Or.inr ?_)).symm
        · rw [Nat.pow_one]; exact dlt
        · rw [Nat.sub_self, Nat.pow_zero]; omega
  · rw [if_neg hmu]
    have : m = nd n := by omega
    subst this
    refine ⟨fun _ => ?_, fun h1 => absurd (show (-1 : Int32) < 0 by decide +kernel) h1⟩
    unfold wc_X0_divideBy_85
    intro z2 e2
    rw [Nat.sub_self, Nat.pow_zero, Nat.div_one] at e2
    have le : nd (n / d) ≤ nd n := nd_le (Nat.lt_of_le_of_lt (Nat.div_le_self _ _) (nd_b n))
    have top : (if n / d = 0 then 0 else nd (n / d)) = nd (n / d) := by
      by_cases q : n / d = 0
      · rw [if_pos q, q, nd_0]
      · rw [if_neg q]
    rw [top] at e2
    refine k z2 (by rw [e2]; exact fr_sfi (by decide) f1) ⟨by omega, by rw [e2, rw_fie], fun i hi => ?_⟩
    have : tq_ai z2 47 = tq_ai z1 47 := by rw [e2]; rfl
    rw [this]
    exact a2 i (by omega) (by omega)
theorem sq_sayW (hb : bw n z) (hn : tq_fi z 2946 = 0) (k : ∀ z', fr [(0, 13), (2, 50)] z z' → ctx z' (tn false n) → Q (.inl (some (.int (nI (tn false n).length)))) z') : wm_X11_sayAnswer z Q := by
  refine sq_sayA (neg := false) (bw_bn hb) hn (fun z' f t => ?_)
  rw [dl_nd] at t ⊢
  exact k z' f t
end BIG
