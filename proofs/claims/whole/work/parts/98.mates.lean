/-! ===== ends in ints; where mates stand, both sides ===== -/
section MAT
variable {z : tq_S} {Q : tq_O → tq_S → Prop}
theorem i_shN {p x : Nat} (hx : x < 31) (h : p * 2 ^ x < 4294967296) : (nI p) <<< ((nI x) &&& 31) = nI (p * 2 ^ x) := pk_shlN _ x (i_sm ⟨x, by omega⟩) h
theorem i_us {s k : Nat} (hs : s < 2147483648) (hk : k < 32) : ((Int32.toUInt32 (nI s)) >>> ((Int32.toUInt32 (nI k)) &&& Int32.toUInt32 31)).toInt32 = nI (s / 2 ^ k) := by
  have e := pk_ushr (nI s) (nI k) k (ib_su ⟨k, hk⟩)
  refine Int32.toBitVec.inj (BitVec.eq_of_toNat_eq ?_)
  have l : s / 2 ^ k ≤ s := Nat.div_le_self _ _
  have n : ∀ a, a < 2147483648 → (nI a).toBitVec.toNat = a := fun a ha => by
    show (BitVec.ofNat 32 a).toNat = a
    rw [BitVec.toNat_ofNat, Nat.mod_eq_of_lt (by omega)]
  rw [e, n s hs, n _ (by omega)]
theorem i_3m {a : Nat} : nI a &&& (3 : Int32) = nI (a % 2 ^ 2) := i_mod (k := 2) (m := 3) rfl
theorem i_up {s k : Nat} (hs : s < 2147483648) (hk : k < 16) : ((Int32.toUInt32 (nI s)) >>> ((Int32.toUInt32 (nI (2 * k))) &&& Int32.toUInt32 31)).toInt32 &&& (3 : Int32) = nI (pg s k) := by
  rw [i_us hs (by omega), i_3m]; rfl
theorem i_plug {s k : Nat} (hs : s < 2147483648) (hk : k < 15) : ((nI s) >>> ((nI (2 * k)) &&& 31)) &&& (3 : Int32) = nI (pg s k) := by
  rw [i_sh hs (by omega), i_3m]; rfl
theorem i_mask (s m : Nat) : nI s &&& (nI m ^^^ (-1 : Int32)) = nI (s ^^^ (s &&& m)) := ib_ext fun i hi => by
  rw [ib_and, ib_xor, ib_n, ib_n, ib_n, ib_m1, Nat.testBit_xor, Nat.testBit_and, decide_eq_true hi]
  cases s.testBit i <;> cases m.testBit i <;> rfl
theorem i_xor (a b : Nat) : nI a ^^^ nI b = nI (a ^^^ b) := fb_xorI a b
theorem i_with {s k p : Nat} (hk : k < 15) (hp : p < 4) : ((nI s) &&& (((3 : Int32) <<< ((nI (2 * k)) &&& 31)) ^^^ (-1 : Int32))) ||| ((nI p) <<< ((nI (2 * k)) &&& 31)) = nI (putE s k p) := by
  have h2 : 2 ^ (2 * k) ≤ 2 ^ 28 := Nat.pow_le_pow_right (by decide) (by omega)
  have e28 : 2 ^ 28 = 268435456 := by decide
  have hp2 : p * 2 ^ (2 * k) ≤ 3 * 2 ^ (2 * k) := Nat.mul_le_mul_right _ (by omega)
  rw [i_3, i_shN (by omega) (by omega), i_shN (by omega) (by omega), i_mask, i_or]; rfl
theorem pg_sh {p j k : Nat} : pg (p * 2 ^ (2 * j)) k = if k < j then 0 else pg p (k - j) := by
  refine Nat.eq_of_testBit_eq fun i => ?_
  rw [pg_t, Nat.mul_comm, Nat.testBit_two_pow_mul]
  by_cases q : k < j
  · rw [if_pos q, Nat.zero_testBit]
    by_cases hi : i < 2
    · rw [decide_eq_false (by omega : ¬ 2 * k + i ≥ 2 * j), Bool.false_and, Bool.and_false]
    · rw [decide_eq_false hi, Bool.false_and]
  · rw [if_neg q, pg_t]
    rw [decide_eq_true (by omega : 2 * k + i ≥ 2 * j), Bool.true_and, show 2 * k + i - 2 * j = 2 * (k - j) + i by omega]
theorem pg_15 (n : Nat) : pg 15 n = if n = 0 ∨ n = 1 then 3 else 0 := by
  by_cases q : n = 0 ∨ n = 1
  · rw [if_pos q]
    rcases q with q | q <;> subst q <;> rfl
  · rw [if_neg q]
    exact pg_ge (n := 2) (by decide) (by omega)
theorem i_non {s x : Nat} (hx : x < 13) : (nI s) &&& (((15 : Int32) <<< ((nI (2 * x)) &&& 31)) ^^^ (-1 : Int32)) = nI (non s x) := by
  have h2 : 2 ^ (2 * x) ≤ 2 ^ 24 := Nat.pow_le_pow_right (by decide) (by omega)
  have e28 : 2 ^ 24 = 16777216 := by decide
  rw [show (15 : Int32) = nI 15 from rfl, i_shN (by omega) (by omega), i_mask]
  congr 1
  refine pg_x fun k => ?_
  rw [pg_xor, pg_and, pg_sh, pg_non, pg_15]
  have h4 := pg_4 s k
  have t3 : ∀ a : Fin 4, a.val ^^^ (a.val &&& 3) = 0 := by decide +kernel
  by_cases q1 : k = x + 1
  · rw [if_neg (by omega), if_pos (by omega), if_pos q1]; exact t3 ⟨_, h4⟩
  · by_cases q2 : k = x
    · rw [if_neg (by omega), if_pos (by omega), if_neg q1, if_pos q2]; exact t3 ⟨_, h4⟩
    · rw [if_neg q1, if_neg q2]
      by_cases q3 : k < x
      · rw [if_pos q3, Nat.and_zero, Nat.xor_zero]
      · rw [if_neg q3, if_neg (by omega), Nat.and_zero, Nat.xor_zero]
def oI (v : Int) : Int32 := Int32.ofInt v
theorem oI_a (a b : Int) : oI a + oI b = oI (a + b) := (Int32.ofInt_add a b).symm
theorem oI_0 {v : Int} (h1 : -100 ≤ v) (h2 : v ≤ 100) : oI v = 0 ↔ v = 0 := by
  constructor
  · intro e
    have := congrArg Int32.toInt e
    unfold oI at this
    rw [fb_ofI (by omega) (by omega)] at this
    exact this
  · rintro rfl; rfl
theorem o_1 : (1 : Int32) = oI 1 := rfl
theorem o_m : (-1 : Int32) = oI (-1) := by decide +kernel
theorem o_0 : (0 : Int32) = oI 0 := rfl
theorem pg_1 {s k : Nat} : nI (pg s k) = 1 ↔ pg s k = 1 := by
  have := pg_4 s k
  rw [i_1, i_eq (by omega) (by omega)]
theorem pg_2 {s k : Nat} : nI (pg s k) = 2 ↔ pg s k = 2 := by
  have := pg_4 s k
  rw [i_2, i_eq (by omega) (by omega)]
theorem pg_0' {s k : Nat} : nI (pg s k) = 0 ↔ pg s k = 0 := by
  have := pg_4 s k
  rw [show (0 : Int32) = nI 0 from rfl, i_eq (by omega) (by omega)]
theorem dd_b (s : Nat) : ∀ i : Nat, -(i : Int) ≤ dd s i ∧ dd s i ≤ (i : Int)
  | 0 => ⟨by show -((0 : Nat) : Int) ≤ 0; omega, by show (0 : Int) ≤ ((0 : Nat) : Int); omega⟩
  | i + 1 => by
    have := dd_b s i
    have := endv_b (pg s i)
    show -((i + 1 : Nat) : Int) ≤ dd s i + endv (pg s i) ∧ dd s i + endv (pg s i) ≤ ((i + 1 : Nat) : Int)
    omega
/-- the reference goes from an end to its mate -/
theorem sq_otherR {s k m : Nat} (hs : s < 2147483648) (hk : pg s k = 1) (hm : isR s k m) (h9 : m < 9) (h3 : ∀ i, pg s i ≠ 3) (kk : Q (.inl (some (.int (nI m)))) z) : wm_X12_otherEnd (nI s) (nI k) z Q := by
  obtain ⟨m1, m2, m3, m4⟩ := hm
  unfold wm_X12_otherEnd wm_X12_plug
  rw [i_2, pk_mul, i_plug hs (by omega)]
  refine ⟨_, rfl, fun h => absurd (pg_1.mpr hk) h, fun _ => ?_⟩
  unfold wc_X12_otherEnd_14 wc_X12_otherEnd_23
  refine lp_inv (fun j st => (k + j ≤ m ∧ st = (oI (dd s (k + j) - dd s k), nI (k + j), 1, z)) ∨ st = (0, nI m, 0, z)) (m - k + 1) ?_ (Or.inl ⟨by omega, by show ((0 : Int32), nI k, (1 : Int32), z) = (oI (dd s k - dd s k), _); rw [Int.sub_self]; rfl⟩)
  rintro j st hj hst B hB
  rcases hst with ⟨hjm, rfl⟩ | rfl
  · have jl : j < m - k + 1 := by omega
    simp only
    unfold wb_X12_otherEnd_23
    refine ⟨fun h => absurd h (by decide +kernel), fun _ => ?_⟩
    have b1 := dd_b s (k + j)
    have b2 := dd_b s k
    have st1 : dd s (k + j + 1) = dd s (k + j) + endv (pg s (k + j)) := rfl
    have vb := endv_b (pg s (k + j))
    have go : ∀ v, v = oI (endv (pg s (k + j))) → wc_X12_otherEnd_58 (fun b3 b4 b5 z => B (b3, b4, b5, z)) Q (nI s) 1 (nI (k + j)) v (oI (dd s (k + j) - dd s k)) z := by
      rintro v rfl
      unfold wc_X12_otherEnd_58
      intro v1 e1
      rw [oI_a] at e1
      subst e1
      rw [oI_0 (by omega) (by omega)]
      unfold wc_X12_otherEnd_69 wc_X12_otherEnd_83
      refine ⟨fun h => ⟨fun _ v2 e2 => ?_, fun h2 => absurd rfl h2⟩, fun h => ⟨fun h2 => absurd h2 (by decide +kernel), fun _ v2 e2 => ?_⟩⟩
      · have em : k + j = m := Nat.le_antisymm hjm (Nat.le_of_not_lt fun q => by have := m4 (k + j + 1) (by omega) (by omega); omega)
        rw [show (0 : Int32) = nI 0 from rfl, i_add] at e2
        rw [e2, h, Nat.add_zero, em]
        exact hB jl _ (Or.inr rfl)
      · have em : k + j ≠ m := fun q => by rw [← q] at m3; omega
        rw [i_1, i_add] at e2
        refine hB jl _ (Or.inl ⟨by omega, ?_⟩)
        rw [e2, show k + (j + 1) = k + j + 1 by omega, st1, show dd s (k + j) + endv (pg s (k + j)) - dd s k = dd s (k + j) - dd s k + endv (pg s (k + j)) by omega]
    unfold wm_X12_plug
    rw [i_2, pk_mul, i_plug hs (by omega)]
    refine ⟨_, rfl, fun h => ⟨_, rfl, fun h2 => go 0 ?_, fun h2 => go (-1) ?_⟩, fun h => go 1 ?_⟩
    · rw [pg_1] at h
      have h2' : ¬ pg s (k + j) = 2 := fun q => h2 (by rw [q])
      have := pg_4 s (k + j)
      have := h3 (k + j)
      rw [show pg s (k + j) = 0 by omega]; rfl
    · have h2' : pg s (k + j) = 2 := pg_2.mp h2
      rw [h2', o_m]; rfl
    · rw [pg_1] at h
      rw [h]; rfl
  · simp only
    unfold wb_X12_otherEnd_23
    exact ⟨fun _ => kk, fun h => absurd rfl h⟩
theorem sq_otherL {s k m : Nat} (hs : s < 2147483648) (hk : pg s k = 2) (hm : isL s k m) (h9 : k < 9) (h3 : ∀ i, pg s i ≠ 3) (kk : Q (.inl (some (.int (nI m)))) z) : wm_X12_otherEnd (nI s) (nI k) z Q := by
  obtain ⟨m1, m2, m3, m4⟩ := hm
  unfold wm_X12_otherEnd wm_X12_plug
  rw [i_2, pk_mul, i_plug hs (by omega)]
  refine ⟨_, rfl, fun _ => ?_, fun h => absurd (pg_1.mp h) (by omega)⟩
  unfold wc_X12_otherEnd_14 wc_X12_otherEnd_23
  refine lp_inv (fun j st => (m + j ≤ k ∧ st = (oI (dd s (k + 1) - dd s (k - j + 1)), nI (k - j), 1, z)) ∨ st = (0, nI m, 0, z)) (k - m + 1) ?_ (Or.inl ⟨by omega, by show ((0 : Int32), nI k, (1 : Int32), z) = (oI (dd s (k + 1) - dd s (k + 1)), _); rw [Int.sub_self]; rfl⟩)
  rintro j st hj hst B hB
  rcases hst with ⟨hjm, rfl⟩ | rfl
  · have jl : j < k - m + 1 := by omega
    simp only
    unfold wb_X12_otherEnd_23
    refine ⟨fun h => absurd h (by decide +kernel), fun _ => ?_⟩
    have b1 := dd_b s (k - j)
    have b2 := dd_b s (k + 1)
    have st1 : dd s (k - j + 1) = dd s (k - j) + endv (pg s (k - j)) := rfl
    have vb := endv_b (pg s (k - j))
    have go : ∀ v, v = oI (endv (pg s (k - j))) → wc_X12_otherEnd_58 (fun b3 b4 b5 z => B (b3, b4, b5, z)) Q (nI s) (-1) (nI (k - j)) v (oI (dd s (k + 1) - dd s (k - j + 1))) z := by
      rintro v rfl
      unfold wc_X12_otherEnd_58
      intro v1 e1
      rw [oI_a, show dd s (k + 1) - dd s (k - j + 1) + endv (pg s (k - j)) = dd s (k + 1) - dd s (k - j) by omega] at e1
      subst e1
      rw [oI_0 (by omega) (by omega)]
      unfold wc_X12_otherEnd_69 wc_X12_otherEnd_83
      refine ⟨fun h => ⟨fun _ v2 e2 => ?_, fun h2 => absurd rfl h2⟩, fun h => ⟨fun h2 => absurd h2 (by decide +kernel), fun _ v2 e2 => ?_⟩⟩
      · have em : k - j = m := Nat.le_antisymm (Nat.le_of_not_lt fun q => by have := m4 (k - j) q (by omega); omega) (by omega)
        rw [show (0 : Int32) = nI 0 from rfl, i_add] at e2
        rw [e2, h, Nat.add_zero, em]
        exact hB jl _ (Or.inr rfl)
      · have em : k - j ≠ m := fun q => by rw [← q] at m3; omega
        rw [i_m1 (by omega)] at e2
        refine hB jl _ (Or.inl ⟨by omega, ?_⟩)
        rw [e2, show k - (j + 1) = k - j - 1 by omega, show k - j - 1 + 1 = k - j by omega]
    unfold wm_X12_plug
    rw [i_2, pk_mul, i_plug hs (by omega)]
    refine ⟨_, rfl, fun h => ⟨_, rfl, fun h2 => go 0 ?_, fun h2 => go (-1) ?_⟩, fun h => go 1 ?_⟩
    · rw [pg_1] at h
      have h2' : ¬ pg s (k - j) = 2 := fun q => h2 (by rw [q])
      have := pg_4 s (k - j)
      have := h3 (k - j)
      rw [show pg s (k - j) = 0 by omega]; rfl
    · have h2' : pg s (k - j) = 2 := pg_2.mp h2
      rw [h2', o_m]; rfl
    · rw [pg_1] at h
      rw [h]; rfl
  · simp only
    unfold wb_X12_otherEnd_23
    exact ⟨fun _ => kk, fun h => absurd rfl h⟩
end MAT
