/-! ===== floats of longs; a float made a double ===== -/
theorem fk_near {a b : Nat} (hb : 0 < b) (h : b ≤ a) : FP.Core.nearest a b ≠ 0 := by
  have h1 : 1 ≤ a / b := (Nat.le_div_iff_mul_le hb).mpr (by omega)
  unfold FP.Core.nearest
  split
  · omega
  · split
    · omega
    · omega
theorem fk_long {n : Nat} (h0 : 0 < n) (hn : n < 9223372036854775808) : ∃ c q, FP.Core.roundRatio FP.Core.b32 false n 1 0 = .fin false c q ∧ c ≠ 0 ∧ c < 2 ^ 24 ∧ -149 ≤ q ∧ q ≤ 104 := by
  have e3 : FP.Core.Fmt.qmin FP.Core.b32 = -149 := by decide +kernel
  have e4 : FP.Core.Fmt.qmax FP.Core.b32 = 104 := by decide +kernel
  have e5 : (2 : Nat) ^ FP.Core.b32.p = 2 ^ 24 := rfl
  have e6 : FP.Core.Fmt.tails FP.Core.b32 = 2 ^ 23 := rfl
  have l1 : n.log2 < 63 := (Nat.log2_lt (by omega)).mpr (by omega)
  have l2 : 2 ^ n.log2 ≤ n := Nat.log2_self_le (by omega)
  have l3 : Nat.log2 1 = 0 := by decide +kernel
  have lead : FP.Core.leading n 1 ≤ (n.log2 : Int) := by
    unfold FP.Core.leading
    simp only [l3]
    split <;> omega
  obtain ⟨q, hq⟩ : ∃ q, q = FP.Core.quantum FP.Core.b32 n 1 0 := ⟨_, rfl⟩
  have q1 : -149 ≤ q := by
    rw [hq]; unfold FP.Core.quantum
    rw [e3]; omega
  have q2 : q ≤ (n.log2 : Int) := by
    rw [hq]; unfold FP.Core.quantum
    rw [e3]
    have : (FP.Core.b32.p : Int) = 24 := rfl
    rw [this]; omega
  have U : FP.Core.nearest (FP.Core.unitsNum n 0 q) (FP.Core.unitsDen 1 0 q) ≠ 0 := by
    have hp : 0 < 2 ^ (q - 0).toNat := Nat.pow_pos (by omega)
    refine fk_near ?_ ?_
    · unfold FP.Core.unitsDen
      omega
    · unfold FP.Core.unitsDen FP.Core.unitsNum
      rw [Nat.one_mul]
      have h1 : 2 ^ (q - 0).toNat ≤ 2 ^ n.log2 := Nat.pow_le_pow_right (by omega) (by omega)
      have h2 : 1 ≤ 2 ^ (0 - q).toNat := Nat.one_le_pow _ _ (by omega)
      calc 2 ^ (q - 0).toNat ≤ n := by omega
        _ = n * 1 := by omega
        _ ≤ n * 2 ^ (0 - q).toNat := Nat.mul_le_mul_left n h2
  unfold FP.Core.roundRatio
  rw [if_neg (by omega), ← hq]
  unfold FP.Core.roundAt FP.Core.settle
  rw [e5, e6]
  generalize hc : FP.Core.nearest (FP.Core.unitsNum n 0 q) (FP.Core.unitsDen 1 0 q) = c at U
  by_cases h : c < 2 ^ 24
  · rw [if_pos h]
    unfold FP.Core.bound
    rw [e4, if_pos (by omega)]
    exact ⟨c, q, rfl, U, h, q1, by omega⟩
  · rw [if_neg h]
    unfold FP.Core.bound
    rw [e4, if_pos (by omega)]
    exact ⟨_, _, rfl, by decide, by decide, by omega, by omega⟩
theorem fk_l2f {n : Nat} (hn : n < 9223372036854775808) : ∃ s d r, FP.Core.decode FP.Core.b32 (FP.l2f (lN n)).toNat = .fin s d r ∧ (0 < n → d ≠ 0) := by
  have e1 : FP.Core.Fmt.exps FP.Core.b32 = 256 := rfl
  have e2 : FP.Core.Fmt.tails FP.Core.b32 = 8388608 := rfl
  have e3 : FP.Core.Fmt.qmin FP.Core.b32 = -149 := by decide +kernel
  have hT : (lN n).toInt = (n : Int) := pk_lT (by omega)
  have dec : ∀ m : Nat, m < 2139095040 → ∃ s d r, FP.Core.decode FP.Core.b32 m = .fin s d r ∧ (0 < m → d ≠ 0) := by
    intro m hm
    unfold FP.Core.decode FP.Core.fieldE FP.Core.fieldT
    rw [e1, e2, if_neg (by omega)]
    by_cases h : m / 8388608 % 256 = 0
    · rw [if_pos h]
      exact ⟨_, _, _, rfl, fun _ => by omega⟩
    · rw [if_neg h]
      exact ⟨_, _, _, rfl, fun _ => by omega⟩
  have val : ∃ m, m < 2139095040 ∧ (0 < n → 0 < m) ∧ (FP.l2f (lN n)).toNat = m := by
    show ∃ m, m < 2139095040 ∧ (0 < n → 0 < m) ∧ (UInt32.ofNat (FP.Core.fromInt FP.Core.b32 (lN n).toInt)).toNat = m
    rw [hT, UInt32.toNat_ofNat']
    have e0 : FP.Core.fromInt FP.Core.b32 (n : Int) = FP.Core.encode FP.Core.b32 (FP.Core.roundRatio FP.Core.b32 false n 1 0) := by
      unfold FP.Core.fromInt FP.Core.ofInt FP.Core.round
      have d0 : decide ((n : Int) < 0) = false := decide_eq_false (by omega)
      rw [d0, Int.natAbs_natCast]
    rw [e0]
    by_cases h0 : 0 < n
    · obtain ⟨c, q, h1, h2, h3, h4, h5⟩ := fk_long h0 hn
      rw [h1]
      unfold FP.Core.encode FP.Core.assemble
      simp only [e1, e2, e3]
      have b0 : false.toNat = 0 := rfl
      by_cases hc : c < 8388608
      · rw [if_pos hc, b0]
        exact ⟨_, by omega, fun _ => by omega, rfl⟩
      · rw [if_neg hc, b0]
        exact ⟨_, by omega, fun _ => by omega, rfl⟩
    · have : n = 0 := by omega
      subst this
      exact ⟨0, by omega, fun u => u, by decide +kernel⟩
  obtain ⟨m, h1, h2, h3⟩ := val
  obtain ⟨s, d, r, g1, g2⟩ := dec m h1
  rw [h3]
  exact ⟨s, d, r, g1, fun u => g2 (h2 u)⟩
theorem fk_div {a b : Nat} (ha : a < 9223372036854775808) (hb : b < 9223372036854775808) (h0 : 0 < b) : ∃ d, fk_ok d ∧ FP.fdiv (FP.l2f (lN a)) (FP.l2f (lN b)) = UInt32.ofNat (FP.Core.encode FP.Core.b32 d) := by
  obtain ⟨s, c, q, h1, -⟩ := fk_l2f ha
  obtain ⟨t, d, r, h2, h3⟩ := fk_l2f hb
  refine ⟨FP.Core.quotient FP.Core.b32 (.fin s c q) (.fin t d r), ?_, ?_⟩
  · show fk_ok (if d = 0 then (if c = 0 then .nan else .inf (s != t)) else FP.Core.roundRatio FP.Core.b32 (s != t) c d (q - r))
    rw [if_neg (h3 h0)]
    exact fk_ratio
  · show UInt32.ofNat (FP.Core.encode FP.Core.b32 (FP.Core.quotient FP.Core.b32 (FP.Core.decode FP.Core.b32 (FP.l2f (lN a)).toNat) (FP.Core.decode FP.Core.b32 (FP.l2f (lN b)).toNat))) = _
    rw [h1, h2]
theorem share_n {a b : Nat} (ha : a < 9223372036854775808) (hb : b < 9223372036854775808) (h0 : 0 < b) : vf_n32 (FP.fdiv (FP.l2f (lN a)) (FP.l2f (lN b))) := by
  obtain ⟨d, h1, h2⟩ := fk_div ha hb h0
  rw [h2]; exact fk_n32 h1
